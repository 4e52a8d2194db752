--@ needs 3zf.meets2
/-! all partings: the model's search -/
noncomputable def mtB (n : Nat) (X Y : Nat → Int) (r s : Nat) (m : Nat → Nat) (l : List Nat) : Bool := @decide (∃ p q b, rowRes n X Y r (pS n s m (rw0 l)) 1 p q b) (Classical.propDecidable _)
theorem mtB_iff {n : Nat} {X Y : Nat → Int} {r s : Nat} {m : Nat → Nat} {l : List Nat} : mtB n X Y r s m l = true ↔ ∃ p q b, rowRes n X Y r (pS n s m (rw0 l)) 1 p q b := by
  unfold mtB
  simp only [decide_eq_true_eq]
def flB (r : Nat) (l : List Nat) : Bool := decide (ud l 0 = r)
noncomputable def FF (n : Nat) (X Y : Nat → Int) (r s : Nat) (m : Nat → Nat) (T : List (List Nat)) : List (List Nat) := T.filter (fun l => flB r l && mtB n X Y r s m l)
def CF (r : Nat) (T : List (List Nat)) : Nat := (T.filter (flB r)).length
theorem FF_app {n : Nat} {X Y : Nat → Int} {r s : Nat} {m : Nat → Nat} (A B : List (List Nat)) : FF n X Y r s m (A ++ B) = FF n X Y r s m A ++ FF n X Y r s m B := List.filter_append A B
theorem CF_app {r : Nat} (A B : List (List Nat)) : CF r (A ++ B) = CF r A + CF r B := by
  unfold CF; rw [List.filter_append, List.length_append]
def hit (F : List (List Nat)) (k : Int) (m0 : Nat) (l : List Nat) : Prop := ∃ i : Nat, k = (m0 : Int) + i ∧ F[i]? = some l
def miss (F : List (List Nat)) (k : Int) (m0 : Nat) : Prop := ∀ i : Nat, k = (m0 : Int) + i → F[i]? = none
theorem hit_left {F G : List (List Nat)} {k : Int} {m0 : Nat} {l : List Nat} (h : hit F k m0 l) : hit (F ++ G) k m0 l := by
  obtain ⟨i, e1, e2⟩ := h
  refine ⟨i, e1, ?_⟩
  have : i < F.length := by
    rcases Nat.lt_or_ge i F.length with q | q
    · exact q
    · rw [List.getElem?_eq_none q] at e2; cases e2
  rw [List.getElem?_append_left this]; exact e2
theorem hit_right {F G : List (List Nat)} {k : Int} {m0 : Nat} {l : List Nat} (h : hit G k (m0 + F.length) l) : hit (F ++ G) k m0 l := by
  obtain ⟨i, e1, e2⟩ := h
  refine ⟨F.length + i, by omega, ?_⟩
  rw [List.getElem?_append_right (by omega), show F.length + i - F.length = i by omega]; exact e2
theorem miss_app {F G : List (List Nat)} {k : Int} {m0 : Nat} (h1 : miss F k m0) (h2 : miss G k (m0 + F.length)) : miss (F ++ G) k m0 := by
  intro i e
  rcases Nat.lt_or_ge i F.length with q | q
  · have := h1 i e
    rw [List.getElem?_eq_none_iff] at this
    omega
  · rw [List.getElem?_append_right q]
    exact h2 (i - F.length) (by omega)
theorem miss_nil (k : Int) (m0 : Nat) : miss [] k m0 := fun i _ => rfl
def TT (r : Nat) (π : List Nat) (d u : Nat) : List (List Nat) := (gen d u r).map (fun x => π ++ x)
theorem TT_succ (r : Nat) (π : List Nat) (d u : Nat) : TT r π (d + 1) u = (List.range (min (u + 1) r)).flatMap (fun c => TT r (π ++ [c]) d (if c = u then u + 1 else u)) := by
  unfold TT
  rw [gen, List.map_flatMap]
  congr 1
  funext c
  rw [List.map_map]
  congr 1
  funext x
  simp
theorem ud_app : ∀ (a b : List Nat) (u : Nat), ud (a ++ b) u = ud b (ud a u) := by
  intro a
  induction a with
  | nil => intro b u; rfl
  | cons p t ih => intro b u; rw [List.cons_append, ud, ih, ud]
theorem rw0_app_l {a b : List Nat} {j : Nat} (h : j < a.length) : rw0 (a ++ b) j = rw0 a j := by
  unfold rw0
  rw [List.getD_eq_getElem?_getD, List.getD_eq_getElem?_getD, List.getElem?_append_left h]
theorem rw0_snoc (a : List Nat) (c : Nat) : rw0 (a ++ [c]) a.length = c := by
  unfold rw0
  rw [List.getD_eq_getElem?_getD, List.getElem?_append_right (Nat.le_refl _), Nat.sub_self]; rfl
theorem rowOK_spec {s r : Nat} {l : List Nat} (h : rowOK s r l = true) : l.length = s ∧ (∀ j, j < s → rw0 l j < r) ∧ (ud l 0 = r ↔ hiF (rw0 l) s = r - 1) ∧ (ud l 0 = r → fulR s r (rw0 l)) := by
  unfold rowOK at h
  simp only [Bool.and_eq_true, beq_iff_eq, List.all_eq_true, decide_eq_true_eq, Bool.or_eq_true, List.any_eq_true, List.mem_range] at h
  obtain ⟨⟨⟨h1, h2⟩, h3⟩, h4⟩ := h
  refine ⟨h1, fun j hj => ?_, ?_, fun hu q hq => ?_⟩
  · have hj' : j < l.length := by omega
    have : rw0 l j ∈ l := by
      unfold rw0
      rw [List.getD_eq_getElem?_getD, List.getElem?_eq_getElem hj']
      exact List.getElem_mem hj'
    exact h2 _ this
  · rw [decide_eq_decide] at h3
    exact h3
  · rcases h4 with h4 | h4
    · exact absurd hu h4
    · obtain ⟨p, hp, e⟩ := h4 q hq
      obtain ⟨j, hj, e2⟩ := List.getElem_of_mem hp
      refine ⟨j, by omega, ?_⟩
      unfold rw0
      rw [List.getD_eq_getElem?_getD, List.getElem?_eq_getElem hj]
      show l[j] = q
      rw [e2]; exact e
theorem sm_b14 {α₁ α₂ α₃ α₄ α₅ α₆ α₇ α₈ α₉ α₁₀ α₁₁ α₁₂ α₁₃ α₁₄ β : Type} (a : α₁) (b : α₂) (c : α₃) (d : α₄) (e : α₅) (f : α₆) (g : α₇) (h : α₈) (i : α₉) (j : α₁₀) (l : α₁₁) (m : α₁₂) (n : α₁₃) (o : α₁₄) (k : α₁ → α₂ → α₃ → α₄ → α₅ → α₆ → α₇ → α₈ → α₉ → α₁₀ → α₁₁ → α₁₂ → α₁₃ → α₁₄ → Option β) : b14 (some (a, b, c, d, e, f, g, h, i, j, l, m, n, o)) k = k a b c d e f g h i j l m n o := Eq.trans (rfl : b14 (some (a, b, c, d, e, f, g, h, i, j, l, m, n, o)) k = k a b c d e f g h i j l m n o) rfl
theorem u13_e {T1 T2 T3 T4 T5 T6 T7 T8 T9 T10 T11 T12 T13 D : Type} (k : T1 → T2 → T3 → T4 → T5 → T6 → T7 → T8 → T9 → T10 → T11 → T12 → T13 → D) (a : T1) (b : T2) (c : T3) (d : T4) (e : T5) (f : T6) (g : T7) (h : T8) (i : T9) (j : T10) (l : T11) (m : T12) (n : T13) : u13 k (a, b, c, d, e, f, g, h, i, j, l, m, n) = k a b c d e f g h i j l m n := Eq.trans (rfl : u13 k (a, b, c, d, e, f, g, h, i, j, l, m, n) = k a b c d e f g h i j l m n) rfl
/-- what a search from a prefix ends with -/
def endM (n : Nat) (X Y : Nat → Int) (r s : Nat) (m : Nat → Nat) (T : List (List Nat)) (k : Int) (p m0 i : Nat) (pO : Nat → Int32) (rr : Int32) (px' py' pl' : Int64) (ps mp : Int32) (pO' parts' : Nat → Int32) : Prop := (rr = 1 ∧ ∃ l, hit (FF n X Y r s m T) k m0 l ∧ rowRes n X Y r (pS n s m (rw0 l)) 1 px' py' pl' ∧ ∀ w, w < r → parts' w = pS n s m (rw0 l) w) ∨ (rr = 0 ∧ miss (FF n X Y r s m T) k m0 ∧ ps = nI (p + CF r T) ∧ mp = nI (m0 + (FF n X Y r s m T).length) ∧ ∀ j, j < i → pO' j = pO j)
def goF (K : Nat) : Type := Int32 → Int32 → Int64 → Int64 → Int64 → Int32 → Int32 → Int32 → Int32 → Int32 → (Nat → Int32) → (Nat → Int32) → (Nat → Int32) → (Nat → Int32) → (Nat → Int32) → (Nat → Int32) → (Nat → Int32) → (Nat → Int32) → Int32 → Int32 → Int32 → Int32 → Option (Int32 × Int32 × Int64 × Int64 × Int64 × Int32 × Int32 × Int32 × Int32 × (Nat → Int32) × (Nat → Int32) × (Nat → Int32) × (Nat → Int32) × (Nat → Int32))
theorem goesM (K : Nat) (hK : 4000 ≤ K) {n : Nat} {px py : Nat → Int32} {X Y : Nat → Int} (h : Pts n px py X Y) {pd : Nat → Int32} {m : Nat → Nat} {s r : Nat} (hs : s ≤ 7) (hr : r = 2 ∨ r = 3) (hd : ∀ j, j < s → pd j = nI (m j) ∧ m j < n) {k : Int} (hk : s32 k) : ∀ (d : Nat) (D : Nat) (π : List Nat) (p m0 : Nat) (rm : Int32) (plx ply bel : Int64) (met hu : Int32) (cor cors row pO parts : Nat → Int32), π.length + d = s → d < D → (∀ l ∈ TT r π d (ud π 0), rowOK s r l = true) → (∀ j, j < π.length → pO j = nI (rw0 π j)) → p + (TT r π d (ud π 0)).length ≤ 2000 → m0 + (TT r π d (ud π 0)).length ≤ 2000 → ud π 0 ≤ 7 → ∃ rr rm' plx' ply' bel' met' hu' ps mp cor' cors' row' pO' parts', fX12_goesOn K D (nI n) rm plx ply bel met hu (nI s) (nI p) (nI m0) px py cor cors row pO pd parts (nI π.length) (nI (ud π 0)) (nI r) (iI k) = some (rr, rm', plx', ply', bel', met', hu', ps, mp, cor', cors', row', pO', parts') ∧ endM n X Y r s m (TT r π d (ud π 0)) k p m0 π.length pO rr plx' ply' bel' ps mp pO' parts' := by
  intro d
  induction d with
  | zero =>
    intro D π p m0 rm plx ply bel met hu cor cors row pO parts h1 h2 h3 h4 h5 h6 h7
    cases D with
    | zero => omega
    | succ D =>
      have eT : TT r π 0 (ud π 0) = [π] := by unfold TT; rw [gen]; simp
      rw [eT] at h3 h5 h6 ⊢
      obtain ⟨q1, q2, q3, q4⟩ := rowOK_spec (h3 π List.mem_cons_self)
      simp only [List.length_cons, List.length_nil] at h5 h6
      rw [fX12_goesOn, xl_e, if_pos (show nI π.length = nI s by rw [q1])]
      by_cases w : ud π 0 = r
      · rw [if_pos (show nI (ud π 0) = nI r by rw [w]), xl_e, nI_1]
        obtain ⟨rr, rm', p', q', l', met', hu', cor', cors', row', parts', f1, f2, f3⟩ := partM K hK h hs hr (ρ := rw0 π) (fun j hj => ⟨h4 j (by omega), q2 j hj⟩) hd (q4 w) rm plx ply bel met hu cor cors row parts
        rw [f1, sm_b11]
        have fb : flB r π = true := decide_eq_true w
        have ecf : CF r [π] = 1 := by unfold CF; rw [List.filter_cons, if_pos fb]; rfl
        rcases res_01 f2 with rfl | rfl
        · have mb : mtB n X Y r s m π = false := by
            cases e : mtB n X Y r s m π
            · rfl
            · obtain ⟨a, b, c, hh⟩ := mtB_iff.mp e
              rcases res_uniq f2 hh with ⟨-, e⟩ | ⟨e, -⟩
              · exact absurd e (by decide)
              · exact absurd e (by decide)
          have eff : FF n X Y r s m [π] = [] := by unfold FF; rw [List.filter_cons, fb, mb]; rfl
          rw [if_pos rfl]
          refine ⟨_, _, _, _, _, _, _, _, _, _, _, _, _, _, rfl, Or.inr ⟨rfl, ?_, ?_, ?_, fun j hj => rfl⟩⟩
          · rw [eff]; exact miss_nil k m0
          · rw [ecf]
          · rw [eff]; rfl
        · have mb : mtB n X Y r s m π = true := by
            exact mtB_iff.mpr ⟨p', q', l', f2⟩
          have eff : FF n X Y r s m [π] = [π] := by unfold FF; rw [List.filter_cons, fb, mb]; rfl
          rw [if_neg one_ne, xl_e, nI_1]
          have em : nI (m0 + 1) - 1 = nI m0 := by rw [show (1 : Int32) = nI 1 from rfl, sub_nI (by omega)]; rfl
          rw [em]
          have ek : nI m0 = iI k ↔ (m0 : Int) = k := by rw [nI_iI]; exact iI_eq ⟨by omega, by omega⟩ hk
          simp only [ek]
          by_cases e : (m0 : Int) = k
          · rw [if_pos e]
            refine ⟨_, _, _, _, _, _, _, _, _, _, _, _, _, _, rfl, Or.inl ⟨rfl, π, ⟨0, by omega, ?_⟩, f2, f3⟩⟩
            rw [eff]; rfl
          · rw [if_neg e]
            refine ⟨_, _, _, _, _, _, _, _, _, _, _, _, _, _, rfl, Or.inr ⟨rfl, ?_, ?_, ?_, fun j hj => rfl⟩⟩
            · intro i ei
              rw [eff]
              cases i with
              | zero => exact absurd (by omega) e
              | succ i => rfl
            · rw [ecf]
            · rw [eff]; rfl
      · have ne : ¬ nI (ud π 0) = nI r := fun e => w ((nI_eqn (by omega) (by omega)).mp e)
        have fb : flB r π = false := decide_eq_false w
        have ecf : CF r [π] = 0 := by unfold CF; rw [List.filter_cons, fb]; rfl
        have eff : FF n X Y r s m [π] = [] := by unfold FF; rw [List.filter_cons, fb]; rfl
        rw [if_neg ne]
        refine ⟨_, _, _, _, _, _, _, _, _, _, _, _, _, _, rfl, Or.inr ⟨rfl, ?_, ?_, ?_, fun j hj => rfl⟩⟩
        · rw [eff]; exact miss_nil k m0
        · rw [ecf]; rfl
        · rw [eff]; rfl
  | succ d ih =>
    intro D π p m0 rm plx ply bel met hu cor cors row pO parts h1 h2 h3 h4 h5 h6 h7
    cases D with
    | zero => omega
    | succ D =>
      have hu7 := h7
      rw [fX12_goesOn, xl_e, if_neg (show ¬ nI π.length = nI s from fun e => by have := (nI_eqn (by omega) (by omega)).mp e; omega)]
      -- the loop over the parts
      have loop : ∀ (fu c : Nat) (p m0 : Nat) (rm : Int32) (plx ply bel : Int64) (met hu : Int32) (cor cors row pO parts : Nat → Int32), c ≤ min (ud π 0 + 1) r → min (ud π 0 + 1) r - c < fu → (∀ j, j < π.length → pO j = nI (rw0 π j)) → p + (((List.range (min (ud π 0 + 1) r)).drop c).flatMap (fun c => TT r (π ++ [c]) d (if c = ud π 0 then ud π 0 + 1 else ud π 0))).length ≤ 2000 → m0 + (((List.range (min (ud π 0 + 1) r)).drop c).flatMap (fun c => TT r (π ++ [c]) d (if c = ud π 0 then ud π 0 + 1 else ud π 0))).length ≤ 2000 → ∃ rr rm' plx' ply' bel' met' hu' ps mp cor' cors' row' pO' parts', sm (fX12_goesOn_L65 K (fX12_goesOn K D) (nI π.length) (nI (ud π 0)) (nI r) (iI k) (nI n) (nI s) px py pd fu (nI c) rm plx ply bel met hu (nI p) (nI m0) cor cors row pO parts) (u13 (fun a1 a2 a3 a4 a5 a6 a7 a8 a9 a10 a11 a12 a13 => some ((1 : Int32), a1, a2, a3, a4, a5, a6, a7, a8, a9, a10, a11, a12, a13))) (u13 (fun a1 a2 a3 a4 a5 a6 a7 a8 a9 a10 a11 a12 a13 => some ((0 : Int32), a1, a2, a3, a4, a5, a6, a7, a8, a9, a10, a11, a12, a13))) = some (rr, rm', plx', ply', bel', met', hu', ps, mp, cor', cors', row', pO', parts') ∧ endM n X Y r s m (((List.range (min (ud π 0 + 1) r)).drop c).flatMap (fun c => TT r (π ++ [c]) d (if c = ud π 0 then ud π 0 + 1 else ud π 0))) k p m0 π.length pO rr plx' ply' bel' ps mp pO' parts' := by
        intro fu
        induction fu with
        | zero => intro c p m0 rm plx ply bel met hu cor cors row pO parts g1 g2; omega
        | succ fu ihf =>
          intro c p m0 rm plx ply bel met hu cor cors row pO parts g1 g2 g3' g4 g5
          rw [fX12_goesOn_L65]
          by_cases hc : c = min (ud π 0 + 1) r
          · have dn : (List.range (min (ud π 0 + 1) r)).drop c = [] := by
              rw [hc]
              exact List.drop_eq_nil_of_le (by rw [List.length_range]; exact Nat.le_refl _)
            rw [dn]
            have fin : endM n X Y r s m (([] : List Nat).flatMap (fun c => TT r (π ++ [c]) d (if c = ud π 0 then ud π 0 + 1 else ud π 0))) k p m0 π.length pO 0 plx ply bel (nI p) (nI m0) pO parts := Or.inr ⟨rfl, miss_nil k m0, rfl, rfl, fun j hj => rfl⟩
            by_cases q1 : ud π 0 < c
            · rw [if_pos ((nI_ltn (by omega) (by omega)).mpr q1), sm_inr, u13_e]
              exact ⟨_, _, _, _, _, _, _, _, _, _, _, _, _, _, rfl, fin⟩
            · rw [if_neg (fun e => q1 ((nI_ltn (by omega) (by omega)).mp e)), if_pos (nI_le (show r ≤ c by omega) (by omega)), sm_inr, u13_e]
              exact ⟨_, _, _, _, _, _, _, _, _, _, _, _, _, _, rfl, fin⟩
          · have hlt : c < min (ud π 0 + 1) r := by omega
            have hcu : c ≤ ud π 0 := by omega
            have hcr : c < r := by omega
            have dn : (List.range (min (ud π 0 + 1) r)).drop c = c :: (List.range (min (ud π 0 + 1) r)).drop (c + 1) := by
              rw [List.drop_eq_getElem_cons (by rw [List.length_range]; exact hlt), List.getElem_range]
            rw [dn, List.flatMap_cons] at g4 g5 ⊢
            rw [List.length_append] at g4 g5
            have hin : ∀ l ∈ TT r (π ++ [c]) d (if c = ud π 0 then ud π 0 + 1 else ud π 0), rowOK s r l = true := fun l hl => h3 l (by
              rw [TT_succ]
              exact List.mem_flatMap.mpr ⟨c, List.mem_range.mpr hlt, hl⟩)
            have eu : ud (π ++ [c]) 0 = if c = ud π 0 then ud π 0 + 1 else ud π 0 := by rw [ud_app]; rfl
            rw [if_neg (fun e => by have := (nI_ltn (by omega) (by omega)).mp e; omega), if_neg (nI_ge hcr (by omega)), gd_t (inb_nI (show π.length < 7 by omega) (by decide)), nI_clamp (by omega), xl_e, jn_e]
            have elen : (π ++ [c]).length = π.length + 1 := by simp
            have hud : ud (π ++ [c]) 0 ≤ 7 := by
              rw [eu]
              split
              · omega
              · omega
            obtain ⟨rr, rm', plx', ply', bel', met', hu', ps, mp, cor', cors', row', pO', parts', k1, k2⟩ := ih D (π ++ [c]) p m0 rm plx ply bel met hu cor cors row (upd pO π.length (nI c)) parts (by omega) (by omega) (by rw [eu]; exact hin) (fun j hj => by
              rw [elen] at hj
              by_cases e : j = π.length
              · rw [e, upd_at, rw0_snoc]
              · rw [upd_ne e, rw0_app_l (by omega)]; exact g3' j (by omega)) (by rw [eu]; omega) (by rw [eu]; omega) hud
            rw [elen] at k1 k2
            rw [eu] at k2
            have stp : ∀ (F : Int32 → Option ((Int32 × Int64 × Int64 × Int64 × Int32 × Int32 × Int32 × Int32 × (Nat → Int32) × (Nat → Int32) × (Nat → Int32) × (Nat → Int32) × (Nat → Int32)) ⊕ (Int32 × Int64 × Int64 × Int64 × Int32 × Int32 × Int32 × Int32 × (Nat → Int32) × (Nat → Int32) × (Nat → Int32) × (Nat → Int32) × (Nat → Int32)))) (A B : Option ((Int32 × Int64 × Int64 × Int64 × Int32 × Int32 × Int32 × Int32 × (Nat → Int32) × (Nat → Int32) × (Nat → Int32) × (Nat → Int32) × (Nat → Int32)) ⊕ (Int32 × Int64 × Int64 × Int64 × Int32 × Int32 × Int32 × Int32 × (Nat → Int32) × (Nat → Int32) × (Nat → Int32) × (Nat → Int32) × (Nat → Int32)))), A = F (nI (ud π 0) + 1) → B = F (nI (ud π 0)) → (if nI c = nI (ud π 0) then A else B) = F (nI (ud (π ++ [c]) 0)) := by
              intro F A B hA hB
              rw [eu]
              by_cases e : c = ud π 0
              · rw [if_pos (show nI c = nI (ud π 0) by rw [e]), if_pos e, hA, nI_1]
              · rw [if_neg (fun q => e ((nI_eqn (by omega) (by omega)).mp q)), if_neg e, hB]
            rw [stp (fun s_3 => b14 (fX12_goesOn K D (nI n) rm plx ply bel met hu (nI s) (nI p) (nI m0) px py cor cors row (upd pO π.length (nI c)) pd parts (nI π.length + 1) s_3 (nI r) (iI k)) (fun r_6 t_rowMany_7 t_placeX_8 t_placeY_9 t_below_10 t_isMet_11 t_hulls_12 t_partings_13 t_metPartings_14 t_corner_15 t_corners_16 t_row_17 t_partOf_18 t_parts_19 => if r_6 = 0 then xl (nI c + (1 : Int32)) (fun l5_21 => fX12_goesOn_L65 K (fX12_goesOn K D) (nI π.length) (nI (ud π 0)) (nI r) (iI k) (nI n) (nI s) px py pd fu l5_21 t_rowMany_7 t_placeX_8 t_placeY_9 t_below_10 t_isMet_11 t_hulls_12 t_partings_13 t_metPartings_14 t_corner_15 t_corners_16 t_row_17 t_partOf_18 t_parts_19) else some (.inl (t_rowMany_7, t_placeX_8, t_placeY_9, t_below_10, t_isMet_11, t_hulls_12, t_partings_13, t_metPartings_14, t_corner_15, t_corners_16, t_row_17, t_partOf_18, t_parts_19)))) _ _ rfl rfl, nI_1, nI_1]
            rw [k1, sm_b14]
            rcases k2 with ⟨rfl, l, w1, w2, w3⟩ | ⟨rfl, w1, rfl, rfl, w4⟩
            · rw [if_neg one_ne, sm_inl, u13_e]
              refine ⟨_, _, _, _, _, _, _, _, _, _, _, _, _, _, rfl, Or.inl ⟨rfl, l, ?_, w2, w3⟩⟩
              rw [FF_app]; exact hit_left w1
            · rw [if_pos rfl, xl_e]
              have flen := fil_len (fun l => flB r l && mtB n X Y r s m l) (TT r (π ++ [c]) d (if c = ud π 0 then ud π 0 + 1 else ud π 0))
              have clen := fil_len (flB r) (TT r (π ++ [c]) d (if c = ud π 0 then ud π 0 + 1 else ud π 0))
              have flen' : (FF n X Y r s m (TT r (π ++ [c]) d (if c = ud π 0 then ud π 0 + 1 else ud π 0))).length ≤ (TT r (π ++ [c]) d (if c = ud π 0 then ud π 0 + 1 else ud π 0)).length := flen
              have clen' : CF r (TT r (π ++ [c]) d (if c = ud π 0 then ud π 0 + 1 else ud π 0)) ≤ (TT r (π ++ [c]) d (if c = ud π 0 then ud π 0 + 1 else ud π 0)).length := clen
              have pO2 : ∀ j, j < π.length → pO' j = pO j := fun j hj => by rw [w4 j (by omega), upd_ne (by omega)]
              obtain ⟨rr2, rm2, plx2, ply2, bel2, met2, hu2, ps2, mp2, cor2, cors2, row2, pO3, parts2, v1, v2⟩ := ihf (c + 1) (p + CF r (TT r (π ++ [c]) d (if c = ud π 0 then ud π 0 + 1 else ud π 0))) (m0 + (FF n X Y r s m (TT r (π ++ [c]) d (if c = ud π 0 then ud π 0 + 1 else ud π 0))).length) rm' plx' ply' bel' met' hu' cor' cors' row' pO' parts' (by omega) (by omega) (fun j hj => by rw [pO2 j hj]; exact g3' j hj) (by omega) (by omega)
              refine ⟨rr2, rm2, plx2, ply2, bel2, met2, hu2, ps2, mp2, cor2, cors2, row2, pO3, parts2, v1, ?_⟩
              rcases v2 with ⟨e1, l, y1, y2, y3⟩ | ⟨e1, y1, y2, y3, y4⟩
              · refine Or.inl ⟨e1, l, ?_, y2, y3⟩
                rw [FF_app]; exact hit_right y1
              · refine Or.inr ⟨e1, ?_, ?_, ?_, fun j hj => by rw [y4 j hj, pO2 j hj]⟩
                · rw [FF_app]; exact miss_app w1 y1
                · rw [y2, CF_app, Nat.add_assoc]
                · rw [y3, FF_app, List.length_append, Nat.add_assoc]
      rw [TT_succ] at h5 h6 ⊢
      have := loop K 0 p m0 rm plx ply bel met hu cor cors row pO parts (by omega) (by omega) h4 (by rw [List.drop_zero]; exact h5) (by rw [List.drop_zero]; exact h6)
      rw [List.drop_zero] at this
      exact this
