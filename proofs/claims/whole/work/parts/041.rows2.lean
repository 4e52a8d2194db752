theorem erS {E F D : Type} {k0 : E → Option D} {kk : F → Option D} {t : F} {o : Option D} (h : Sum.elim k0 kk (Sum.inr t) = o) : kk t = o := h
theorem mkc1 {w : Cond} (j : Nat) (h0 : tables_1_1[j]? = some w) (h2 : okw w = true) : w ∈ lw_ok := List.mem_filter.mpr ⟨List.mem_append_right _ (show w ∈ tables_1 from have h := List.mem_of_getElem? h0; List.mem_append_left _ h), h2⟩
theorem mkc2 {w : Cond} (j : Nat) (h0 : tables_1_2[j]? = some w) (h2 : okw w = true) : w ∈ lw_ok := List.mem_filter.mpr ⟨List.mem_append_right _ (show w ∈ tables_1 from have h := List.mem_of_getElem? h0; List.mem_append_right _ (List.mem_append_left _ h)), h2⟩
theorem mkc3 {w : Cond} (j : Nat) (h0 : tables_1_3[j]? = some w) (h2 : okw w = true) : w ∈ lw_ok := List.mem_filter.mpr ⟨List.mem_append_right _ (show w ∈ tables_1 from have h := List.mem_of_getElem? h0; List.mem_append_right _ (List.mem_append_right _ (List.mem_append_left _ h))), h2⟩
theorem mkc4 {w : Cond} (j : Nat) (h0 : tables_1_4[j]? = some w) (h2 : okw w = true) : w ∈ lw_ok := List.mem_filter.mpr ⟨List.mem_append_right _ (show w ∈ tables_1 from have h := List.mem_of_getElem? h0; List.mem_append_right _ (List.mem_append_right _ (List.mem_append_right _ (List.mem_append_left _ h)))), h2⟩
theorem mkc5 {w : Cond} (j : Nat) (h0 : tables_1_5[j]? = some w) (h2 : okw w = true) : w ∈ lw_ok := List.mem_filter.mpr ⟨List.mem_append_right _ (show w ∈ tables_1 from have h := List.mem_of_getElem? h0; List.mem_append_right _ (List.mem_append_right _ (List.mem_append_right _ (List.mem_append_right _ (List.mem_append_left _ h))))), h2⟩
theorem mkc6 {w : Cond} (j : Nat) (h0 : tables_1_6[j]? = some w) (h2 : okw w = true) : w ∈ lw_ok := List.mem_filter.mpr ⟨List.mem_append_right _ (show w ∈ tables_1 from have h := List.mem_of_getElem? h0; List.mem_append_right _ (List.mem_append_right _ (List.mem_append_right _ (List.mem_append_right _ (List.mem_append_right _ (List.mem_append_left _ h)))))), h2⟩
theorem mkc7 {w : Cond} (j : Nat) (h0 : tables_1_7[j]? = some w) (h2 : okw w = true) : w ∈ lw_ok := List.mem_filter.mpr ⟨List.mem_append_right _ (show w ∈ tables_1 from have h := List.mem_of_getElem? h0; List.mem_append_right _ (List.mem_append_right _ (List.mem_append_right _ (List.mem_append_right _ (List.mem_append_right _ (List.mem_append_right _ (List.mem_append_left _ h))))))), h2⟩
theorem mkc8 {w : Cond} (j : Nat) (h0 : tables_1_8[j]? = some w) (h2 : okw w = true) : w ∈ lw_ok := List.mem_filter.mpr ⟨List.mem_append_right _ (show w ∈ tables_1 from have h := List.mem_of_getElem? h0; List.mem_append_right _ (List.mem_append_right _ (List.mem_append_right _ (List.mem_append_right _ (List.mem_append_right _ (List.mem_append_right _ (List.mem_append_right _ (h)))))))), h2⟩
section RUN16
variable {p : Program} {l : Launch} {e : Env} {R : Room} {s : State} {m : MethodId} {args : Array Value} {below : List Frame} {meth : Method} {c : Code} {H : Heap} {locs : List Loc} {cells slots : Nat}
variable {y : MethodName} {bytes cc : ByteArray} {maxL nL mc ms n index : Nat} {ret : Option FieldType} {ws : List Cond} {rm : Room} {Pc : Array Value → State → Prop} {Qc : Array Value → State → Outcome → State → Prop} {free : Addr → Prop} {Ts : List Cond} {own C : String} {b : Addr} {As rest : List Value} {g : JFrame}
/-- a call with up to 16 words below its arguments -/
theorem runV16 (S : CallFix p m c cc nL s args Ts own) (hM : Met l y ws rm Pc Qc mc ms free) (cw : CallW R s args own C index y bytes maxL ret ws rm mc ms n) (hlo : 16 + (maxL + 11) + rm.locals ≤ R.locals) (hp : PreV s H C b Pc As)
    (hg : g.method = m) (hn : As.length = n) (hsize : g.locals.size = nL) (hstack : g.stack = As.reverse ++ .ref b :: rest) (hW : 2 * g.monitorRoom + (rest.map fun v => v.category).sum ≤ 16) (hdg : decode cc g.pc = .ok (.invokevirtual index, 3)) (hf : cells + mc ≤ R.cells ∧ slots + ms ≤ R.slots) :
    va_Run p l e R s m args below meth c H locs cells slots mc ms g rest (Qc (Value.ref b :: As).toArray) (free) := by
  obtain ⟨⟨hrc, hrs, hfr, -, hws, hcw, hcode, hini, hy, hlen, hl⟩, hin, hse⟩ := cw
  have hK : Back l R p e below s args y 3 16 (PreOf R mc ms Pc) (PostOf Qc mc ms free) := back_of (bytes := bytes) (maxL := maxL) (ret := ret) hM hp.1 hrc hrs hfr hlo hws hcw (fun a' U hW => word_at hW (Or.inl (by first | rfl | simp [Cond.onTables, Cond.keeps, Cond.steady])) hini)
  obtain ⟨hx, hb, hml, ho, -⟩ := S
  obtain ⟨-, ⟨cellB, hcB, hoB, hclB⟩, hPc⟩ := hp
  intro T hT X
  obtain ⟨v, vm₁, ⟨U', l2, c2, s2⟩, hW₁, X', ⟨g', mk, t, L, e1, e2, hq, h1, hL, h2, h3⟩, st⟩ := callV X hx (C := C) (bytes := bytes) (maxL := maxL) (ret := ret) ho hl hin hse hcode hy hK (by rw [hT]; exact hcB) hoB hclB hg (hsize.trans hml.symm) (argsL := As) (rest := rest) (fun sig h => hn.trans (hlen sig h)) hstack hW (by rw [hb]; exact hdg)
    (fun vm₁ hW₁ => ⟨hf.1, hf.2, hPc (T.setVm vm₁) hT hW₁⟩)
  dsimp only [Pt.U, Pt.locs, Pt.cells, Pt.slots] at X' e1 e2 h1 h2 h3 st
  subst h1; subst h2; subst h3
  exact ⟨v, (T.setVm vm₁).calling g' mk (Value.ref b :: As).toArray, t, U', L, hT, X', hL, e1, e2, hq, st⟩
end RUN16
theorem room16 {m : MethodId} {pc : Nat} {ls : Array Slot} {rest st : List Value} (h : (st.map fun v => v.category).sum ≤ 16) : 2 * (F0 m pc ls rest).monitorRoom + (st.map fun v => v.category).sum ≤ 16 := by
  show 2 * 0 + _ ≤ 16
  omega
