--@ needs 3zg.dfs
/-! all partings: the class -/
theorem sm_b16 {T1 T2 T3 T4 T5 T6 T7 T8 T9 T10 T11 T12 T13 T14 T15 T16 β : Type} (x1 : T1) (x2 : T2) (x3 : T3) (x4 : T4) (x5 : T5) (x6 : T6) (x7 : T7) (x8 : T8) (x9 : T9) (x10 : T10) (x11 : T11) (x12 : T12) (x13 : T13) (x14 : T14) (x15 : T15) (x16 : T16) (k : T1 → T2 → T3 → T4 → T5 → T6 → T7 → T8 → T9 → T10 → T11 → T12 → T13 → T14 → T15 → T16 → Option β) : b16 (some (x1, x2, x3, x4, x5, x6, x7, x8, x9, x10, x11, x12, x13, x14, x15, x16)) k = k x1 x2 x3 x4 x5 x6 x7 x8 x9 x10 x11 x12 x13 x14 x15 x16 := Eq.trans (rfl : b16 (some (x1, x2, x3, x4, x5, x6, x7, x8, x9, x10, x11, x12, x13, x14, x15, x16)) k = k x1 x2 x3 x4 x5 x6 x7 x8 x9 x10 x11 x12 x13 x14 x15 x16) rfl
theorem sm_b23 {T1 T2 T3 T4 T5 T6 T7 T8 T9 T10 T11 T12 T13 T14 T15 T16 T17 T18 T19 T20 T21 T22 T23 β : Type} (x1 : T1) (x2 : T2) (x3 : T3) (x4 : T4) (x5 : T5) (x6 : T6) (x7 : T7) (x8 : T8) (x9 : T9) (x10 : T10) (x11 : T11) (x12 : T12) (x13 : T13) (x14 : T14) (x15 : T15) (x16 : T16) (x17 : T17) (x18 : T18) (x19 : T19) (x20 : T20) (x21 : T21) (x22 : T22) (x23 : T23) (k : T1 → T2 → T3 → T4 → T5 → T6 → T7 → T8 → T9 → T10 → T11 → T12 → T13 → T14 → T15 → T16 → T17 → T18 → T19 → T20 → T21 → T22 → T23 → Option β) : b23 (some (x1, x2, x3, x4, x5, x6, x7, x8, x9, x10, x11, x12, x13, x14, x15, x16, x17, x18, x19, x20, x21, x22, x23)) k = k x1 x2 x3 x4 x5 x6 x7 x8 x9 x10 x11 x12 x13 x14 x15 x16 x17 x18 x19 x20 x21 x22 x23 := Eq.trans (rfl : b23 (some (x1, x2, x3, x4, x5, x6, x7, x8, x9, x10, x11, x12, x13, x14, x15, x16, x17, x18, x19, x20, x21, x22, x23)) k = k x1 x2 x3 x4 x5 x6 x7 x8 x9 x10 x11 x12 x13 x14 x15 x16 x17 x18 x19 x20 x21 x22 x23) rfl
theorem sm_b24 {T1 T2 T3 T4 T5 T6 T7 T8 T9 T10 T11 T12 T13 T14 T15 T16 T17 T18 T19 T20 T21 T22 T23 T24 β : Type} (x1 : T1) (x2 : T2) (x3 : T3) (x4 : T4) (x5 : T5) (x6 : T6) (x7 : T7) (x8 : T8) (x9 : T9) (x10 : T10) (x11 : T11) (x12 : T12) (x13 : T13) (x14 : T14) (x15 : T15) (x16 : T16) (x17 : T17) (x18 : T18) (x19 : T19) (x20 : T20) (x21 : T21) (x22 : T22) (x23 : T23) (x24 : T24) (k : T1 → T2 → T3 → T4 → T5 → T6 → T7 → T8 → T9 → T10 → T11 → T12 → T13 → T14 → T15 → T16 → T17 → T18 → T19 → T20 → T21 → T22 → T23 → T24 → Option β) : b24 (some (x1, x2, x3, x4, x5, x6, x7, x8, x9, x10, x11, x12, x13, x14, x15, x16, x17, x18, x19, x20, x21, x22, x23, x24)) k = k x1 x2 x3 x4 x5 x6 x7 x8 x9 x10 x11 x12 x13 x14 x15 x16 x17 x18 x19 x20 x21 x22 x23 x24 := Eq.trans (rfl : b24 (some (x1, x2, x3, x4, x5, x6, x7, x8, x9, x10, x11, x12, x13, x14, x15, x16, x17, x18, x19, x20, x21, x22, x23, x24)) k = k x1 x2 x3 x4 x5 x6 x7 x8 x9 x10 x11 x12 x13 x14 x15 x16 x17 x18 x19 x20 x21 x22 x23 x24) rfl
theorem u23_e {T1 T2 T3 T4 T5 T6 T7 T8 T9 T10 T11 T12 T13 T14 T15 T16 T17 T18 T19 T20 T21 T22 T23 D : Type} (k : T1 → T2 → T3 → T4 → T5 → T6 → T7 → T8 → T9 → T10 → T11 → T12 → T13 → T14 → T15 → T16 → T17 → T18 → T19 → T20 → T21 → T22 → T23 → D) (x1 : T1) (x2 : T2) (x3 : T3) (x4 : T4) (x5 : T5) (x6 : T6) (x7 : T7) (x8 : T8) (x9 : T9) (x10 : T10) (x11 : T11) (x12 : T12) (x13 : T13) (x14 : T14) (x15 : T15) (x16 : T16) (x17 : T17) (x18 : T18) (x19 : T19) (x20 : T20) (x21 : T21) (x22 : T22) (x23 : T23) : u23 k (x1, x2, x3, x4, x5, x6, x7, x8, x9, x10, x11, x12, x13, x14, x15, x16, x17, x18, x19, x20, x21, x22, x23) = k x1 x2 x3 x4 x5 x6 x7 x8 x9 x10 x11 x12 x13 x14 x15 x16 x17 x18 x19 x20 x21 x22 x23 := Eq.trans (rfl : u23 k (x1, x2, x3, x4, x5, x6, x7, x8, x9, x10, x11, x12, x13, x14, x15, x16, x17, x18, x19, x20, x21, x22, x23) = k x1 x2 x3 x4 x5 x6 x7 x8 x9 x10 x11 x12 x13 x14 x15 x16 x17 x18 x19 x20 x21 x22 x23) rfl
theorem chain_cons {s r : Nat} {l : List Nat} {t : List (List Nat)} (h : chain s r (l :: t) = true) : rowOK s r l = true ∧ ((t = [] ∧ fndF r (rw0 l) (s - 1) = 0) ∨ ∃ l' t', t = l' :: t' ∧ fndF r (rw0 l) (s - 1) ≠ 0 ∧ (∀ j, j < s → rw0 l' j = nxF r s (rw0 l) j) ∧ chain s r (l' :: t') = true) := by
  cases t with
  | nil =>
    rw [chain, Bool.and_eq_true] at h
    exact ⟨h.1, Or.inl ⟨rfl, of_decide_eq_true h.2⟩⟩
  | cons l' t' =>
    rw [chain, Bool.and_eq_true, Bool.and_eq_true, Bool.and_eq_true] at h
    refine ⟨h.1.1.1, Or.inr ⟨l', t', rfl, of_decide_eq_true h.1.1.2, fun j hj => ?_, h.2⟩⟩
    have := List.all_eq_true.mp h.1.2 j (List.mem_range.mpr hj)
    exact beq_iff_eq.mp this
def rwA (s : Nat) (a : Nat → Int32) (l : List Nat) : Prop := ∀ j, j < s → a j = nI (rw0 l j)
theorem rwA_ok {s r : Nat} (hr : r = 2 ∨ r = 3) {a : Nat → Int32} {l : List Nat} (h : rwA s a l) (ho : rowOK s r l = true) : ∀ j, j < s → a j = nI (rw0 l j) ∧ rw0 l j < 100 := fun j hj => ⟨h j hj, by have := (rowOK_spec ho).2.1 j hj; omega⟩
theorem stepR (K : Nat) (hK : 4000 ≤ K) {s r : Nat} (h0 : 0 < s) (hs : s ≤ 7) (hr : r = 2 ∨ r = 3) {a : Nat → Int32} {l : List Nat} {t : List (List Nat)} (hc : chain s r (l :: t) = true) (ha : rwA s a l) : (t = [] ∧ fX5_nextRow K (nI s) (nI r) a = some (0, a)) ∨ (∃ l' t' a', t = l' :: t' ∧ fX5_nextRow K (nI s) (nI r) a = some (1, a') ∧ rwA s a' l' ∧ chain s r (l' :: t') = true ∧ fX5_isFull K (nI s) (nI r) a' = some (if flB r l' = true then 1 else 0)) := by
  obtain ⟨ho, hh⟩ := chain_cons hc
  have hr2 : 2 ≤ r ∧ r ≤ 3 := by omega
  rcases nextR K hK h0 hs hr2 (rwA_ok hr ha ho) with ⟨g1, g2⟩ | ⟨g1, a', g2, g3⟩
  · rcases hh with ⟨rfl, -⟩ | ⟨l', t', -, w, -⟩
    · exact Or.inl ⟨rfl, g2⟩
    · exact absurd g1 w
  · rcases hh with ⟨-, w⟩ | ⟨l', t', rfl, -, w2, w3⟩
    · exact absurd w g1
    · have ha' : rwA s a' l' := fun j hj => by rw [g3 j hj, w2 j hj]
      obtain ⟨ho', -⟩ := chain_cons w3
      refine Or.inr ⟨l', t', a', rfl, g2, ha', w3, ?_⟩
      rw [fullC K hK hs hr2 (rwA_ok hr ha' ho')]
      have e := (rowOK_spec ho').2.2.1
      congr 1
      by_cases q : ud l' 0 = r
      · rw [if_pos (e.mp q), if_pos (show flB r l' = true from decide_eq_true q)]
      · rw [if_neg (fun z => q (e.mpr z)), if_neg (show ¬ flB r l' = true from fun z => q (of_decide_eq_true z))]
theorem cAll (K : Nat) (hK : 4000 ≤ K) {s r : Nat} (h0 : 0 < s) (hs : s ≤ 7) (hr : r = 2 ∨ r = 3) : ∀ (fu i f : Nat) (l : List Nat) (t : List (List Nat)) (a : Nat → Int32), chain s r (l :: t) = true → rwA s a l → i + t.length ≤ 2100 → t.length < fu → ∃ a', fX5_countAll_L4 K (nI s) (nI r) fu (nI f) (nI i) a = some (nI (f + CF r t), a') := by
  intro fu
  induction fu with
  | zero => intro i f l t a h1 h2 h3 h4; omega
  | succ fu ih =>
    intro i f l t a h1 h2 h3 h4
    rw [fX5_countAll_L4, if_neg (show ¬ (2187 : Int32) ≤ nI i from (nI_ge (show i < 2187 by omega) (by decide) : ¬ nI 2187 ≤ nI i))]
    rcases stepR K hK h0 hs hr h1 h2 with ⟨rfl, e⟩ | ⟨l', t', a', rfl, e, e2, e3, e4⟩
    · rw [e, sm_b2, if_pos rfl]
      exact ⟨_, rfl⟩
    · rw [List.length_cons] at h3 h4
      rw [e, sm_b2, if_neg one_ne, e4, sm_b1]
      simp only [jn_e, xl_e, nI_1]
      unfold CF
      rw [List.filter_cons]
      by_cases w : flB r l' = true
      · rw [show (if flB r l' = true then (1 : Int32) else 0) = 1 from if_pos w, if_neg one_ne, if_pos w, List.length_cons]
        obtain ⟨a2, k⟩ := ih (i + 1) (f + 1) l' t' a' e3 e2 (by omega) (by omega)
        exact ⟨a2, by rw [k]; unfold CF; rw [show f + 1 + (t'.filter (flB r)).length = f + ((t'.filter (flB r)).length + 1) by omega]⟩
      · rw [show (if flB r l' = true then (1 : Int32) else 0) = 0 from if_neg w, if_pos rfl, if_neg w]
        exact ih (i + 1) f l' t' a' e3 e2 (by omega) (by omega)
/-- a full row, tried by the class -/
theorem tryR (K : Nat) (hK : 4000 ≤ K) {n : Nat} {x y : Nat → Int32} {X Y : Nat → Int} (h : Pts n x y X Y) {mA : Nat → Int32} {m : Nat → Nat} {s r : Nat} (h0 : 0 < s) (hs : s ≤ 7) (hr : r = 2 ∨ r = 3) (hm : ∀ j, j < s → mA j = nI (m j) ∧ m j < n) {a : Nat → Int32} {l : List Nat} (ho : rowOK s r l = true) (ha : rwA s a l) (hf : flB r l = true) (q1 : Int32) (q2 : Int64) (q3 : Int64) (q4 : Int64) (q5 : Int32) (q6 : Nat → Int32) (q7 : Nat → Int32) (q8 : Nat → Int32) (q9 : Nat → Int32) (q10 : Int32) (q11 : Nat → Int32) (q12 : Nat → Int32) (q13 : Nat → Int32) (q14 : Nat → Int32) (q15 : Int32) (q16 : Nat → Int32) (q17 : Nat → Int32) (q18 : Nat → Int32) (q19 : Nat → Int32) (q20 : Int64) (q21 : Int64) (q22 : Int64) : ∃ o1 o2 o3 o4 o5 o6 o7 o8 o9 o10 o11 o12 o13 o14 o15 o16 o17 o18 o19 p' q' l', (mtB n X Y r s m l = true ∧ fX5_meets K (nI s) (nI r) mA a (nI n) x y q1 q2 q3 q4 q5 q6 q7 q8 q9 q10 q11 q12 q13 q14 q15 q16 q17 q18 q19 q20 q21 q22 = some (1, o1, o2, o3, o4, o5, o6, o7, o8, o9, o10, o11, o12, o13, o14, o15, o16, o17, o18, o19, p', q', l') ∧ rowRes n X Y r (pS n s m (rw0 l)) 1 p' q' l') ∨ (mtB n X Y r s m l = false ∧ fX5_meets K (nI s) (nI r) mA a (nI n) x y q1 q2 q3 q4 q5 q6 q7 q8 q9 q10 q11 q12 q13 q14 q15 q16 q17 q18 q19 q20 q21 q22 = some (0, o1, o2, o3, o4, o5, o6, o7, o8, o9, o10, o11, o12, o13, o14, o15, o16, o17, o18, o19, p', q', l')) := by
  obtain ⟨w1, w2, w3, w4⟩ := rowOK_spec ho
  obtain ⟨rr, o1, o2, o3, o4, o5, o6, o7, o8, o9, o10, o11, o12, o13, o14, o15, o16, o17, o18, o19, p', q', l', f1, f2⟩ := meetsC K hK h hs hr (rwA_ok hr ha ho) hm (w4 (of_decide_eq_true hf)) q1 q2 q3 q4 q5 q6 q7 q8 q9 q10 q11 q12 q13 q14 q15 q16 q17 q18 q19 q20 q21 q22
  refine ⟨o1, o2, o3, o4, o5, o6, o7, o8, o9, o10, o11, o12, o13, o14, o15, o16, o17, o18, o19, p', q', l', ?_⟩
  rcases res_01 f2 with rfl | rfl
  · refine Or.inr ⟨?_, f1⟩
    cases e : mtB n X Y r s m l
    · rfl
    · obtain ⟨a, b, c, hh⟩ := mtB_iff.mp e
      rcases res_uniq f2 hh with ⟨-, e⟩ | ⟨e, -⟩
      · exact absurd e (by decide)
      · exact absurd e (by decide)
  · exact Or.inl ⟨mtB_iff.mpr ⟨p', q', l', f2⟩, f1, f2⟩
theorem cMet (K : Nat) (hK : 4000 ≤ K) {n : Nat} {x y : Nat → Int32} {X Y : Nat → Int} (h : Pts n x y X Y) {mA : Nat → Int32} {m : Nat → Nat} {s r : Nat} (h0 : 0 < s) (hs : s ≤ 7) (hr : r = 2 ∨ r = 3) (hm : ∀ j, j < s → mA j = nI (m j) ∧ m j < n) : ∀ (fu i f : Nat) (l : List Nat) (t : List (List Nat)) (a : Nat → Int32) (q1 : Int32) (q2 : Int64) (q3 : Int64) (q4 : Int64) (q5 : Int32) (q6 : Nat → Int32) (q7 : Nat → Int32) (q8 : Nat → Int32) (q9 : Nat → Int32) (q10 : Int32) (q11 : Nat → Int32) (q12 : Nat → Int32) (q13 : Nat → Int32) (q14 : Nat → Int32) (q15 : Int32) (q16 : Nat → Int32) (q17 : Nat → Int32) (q18 : Nat → Int32) (q19 : Nat → Int32) (q20 : Int64) (q21 : Int64) (q22 : Int64), chain s r (l :: t) = true → rwA s a l → i + t.length ≤ 2100 → t.length < fu → ∃ a' v1 v2 v3 v4 v5 v6 v7 v8 v9 v10 v11 v12 v13 v14 v15 v16 v17 v18 v19 v20 v21 v22, fX5_countMet_L5 K (nI s) (nI r) mA (nI n) x y fu (nI f) (nI i) a q1 q2 q3 q4 q5 q6 q7 q8 q9 q10 q11 q12 q13 q14 q15 q16 q17 q18 q19 q20 q21 q22 = some (nI (f + (FF n X Y r s m t).length), a', v1, v2, v3, v4, v5, v6, v7, v8, v9, v10, v11, v12, v13, v14, v15, v16, v17, v18, v19, v20, v21, v22) := by
  intro fu
  induction fu with
  | zero => intro i f l t a q1 q2 q3 q4 q5 q6 q7 q8 q9 q10 q11 q12 q13 q14 q15 q16 q17 q18 q19 q20 q21 q22 h1 h2 h3 h4; omega
  | succ fu ih =>
    intro i f l t a q1 q2 q3 q4 q5 q6 q7 q8 q9 q10 q11 q12 q13 q14 q15 q16 q17 q18 q19 q20 q21 q22 h1 h2 h3 h4
    rw [fX5_countMet_L5, if_neg (show ¬ (2187 : Int32) ≤ nI i from (nI_ge (show i < 2187 by omega) (by decide) : ¬ nI 2187 ≤ nI i))]
    rcases stepR K hK h0 hs hr h1 h2 with ⟨rfl, e⟩ | ⟨l', t', a', rfl, e, e2, e3, e4⟩
    · rw [e, sm_b2, if_pos rfl]
      exact ⟨_, _, _, _, _, _, _, _, _, _, _, _, _, _, _, _, _, _, _, _, _, _, _, rfl⟩
    · rw [List.length_cons] at h3 h4
      rw [e, sm_b2, if_neg one_ne, e4, sm_b1]
      simp only [jn_e, xl_e, nI_1]
      unfold FF
      rw [List.filter_cons]
      by_cases w : flB r l' = true
      · rw [show (if flB r l' = true then (1 : Int32) else 0) = 1 from if_pos w, if_neg one_ne, w, Bool.true_and]
        obtain ⟨o1, o2, o3, o4, o5, o6, o7, o8, o9, o10, o11, o12, o13, o14, o15, o16, o17, o18, o19, p', q', pl', f⟩ := tryR K hK h h0 hs hr hm (chain_cons e3).1 e2 w q1 q2 q3 q4 q5 q6 q7 q8 q9 q10 q11 q12 q13 q14 q15 q16 q17 q18 q19 q20 q21 q22
        rcases f with ⟨f1, f2, -⟩ | ⟨f1, f2⟩
        · rw [f2, sm_b23, if_neg one_ne, f1, if_pos rfl, List.length_cons]
          obtain ⟨a2, z1, z2, z3, z4, z5, z6, z7, z8, z9, z10, z11, z12, z13, z14, z15, z16, z17, z18, z19, z20, z21, z22, k⟩ := ih (i + 1) (f + 1) l' t' a' _ _ _ _ _ _ _ _ _ _ _ _ _ _ _ _ _ _ _ _ _ _ e3 e2 (by omega) (by omega)
          refine ⟨a2, z1, z2, z3, z4, z5, z6, z7, z8, z9, z10, z11, z12, z13, z14, z15, z16, z17, z18, z19, z20, z21, z22, ?_⟩
          rw [k]
          unfold FF
          rw [show f + 1 + (t'.filter (fun l => flB r l && mtB n X Y r s m l)).length = f + ((t'.filter (fun l => flB r l && mtB n X Y r s m l)).length + 1) by omega]
        · rw [f2, sm_b23, if_pos rfl, f1, if_neg (by decide)]
          exact ih (i + 1) f l' t' a' _ _ _ _ _ _ _ _ _ _ _ _ _ _ _ _ _ _ _ _ _ _ e3 e2 (by omega) (by omega)
      · have w' : flB r l' = false := by cases z : flB r l' <;> simp_all
        rw [show (if flB r l' = true then (1 : Int32) else 0) = 0 from if_neg w, if_pos rfl, w', Bool.false_and, if_neg (by decide)]
        exact ih (i + 1) f l' t' a' _ _ _ _ _ _ _ _ _ _ _ _ _ _ _ _ _ _ _ _ _ _ e3 e2 (by omega) (by omega)
theorem sMet (K : Nat) (hK : 4000 ≤ K) {n : Nat} {x y : Nat → Int32} {X Y : Nat → Int} (h : Pts n x y X Y) {mA : Nat → Int32} {m : Nat → Nat} {s r : Nat} (h0 : 0 < s) (hs : s ≤ 7) (hr : r = 2 ∨ r = 3) (hm : ∀ j, j < s → mA j = nI (m j) ∧ m j < n) {k : Nat} (hk : k < 2147483648) : ∀ (fu i f : Nat) (l : List Nat) (t : List (List Nat)) (a : Nat → Int32) (q1 : Int32) (q2 : Int64) (q3 : Int64) (q4 : Int64) (q5 : Int32) (q6 : Nat → Int32) (q7 : Nat → Int32) (q8 : Nat → Int32) (q9 : Nat → Int32) (q10 : Int32) (q11 : Nat → Int32) (q12 : Nat → Int32) (q13 : Nat → Int32) (q14 : Nat → Int32) (q15 : Int32) (q16 : Nat → Int32) (q17 : Nat → Int32) (q18 : Nat → Int32) (q19 : Nat → Int32) (q20 : Int64) (q21 : Int64) (q22 : Int64), chain s r (l :: t) = true → rwA s a l → i + t.length ≤ 2100 → t.length < fu → f ≤ k → f ≤ i → (∃ a' l' p' q' pl' v1 v2 v3 v4 v5 v6 v7 v8 v9 v10 v11 v12 v13 v14 v15 v16 v17 v18 v19, hit (FF n X Y r s m t) k f l' ∧ rwA s a' l' ∧ rowOK s r l' = true ∧ rowRes n X Y r (pS n s m (rw0 l')) 1 p' q' pl' ∧ fX5_seekMet_L6 K (nI k) (nI s) (nI r) mA (nI n) x y fu (nI f) (nI i) a q1 q2 q3 q4 q5 q6 q7 q8 q9 q10 q11 q12 q13 q14 q15 q16 q17 q18 q19 q20 q21 q22 = some (.inl (a', v1, v2, v3, v4, v5, v6, v7, v8, v9, v10, v11, v12, v13, v14, v15, v16, v17, v18, v19, p', q', pl'))) ∨ (miss (FF n X Y r s m t) k f ∧ ∃ a' v1 v2 v3 v4 v5 v6 v7 v8 v9 v10 v11 v12 v13 v14 v15 v16 v17 v18 v19 v20 v21 v22, fX5_seekMet_L6 K (nI k) (nI s) (nI r) mA (nI n) x y fu (nI f) (nI i) a q1 q2 q3 q4 q5 q6 q7 q8 q9 q10 q11 q12 q13 q14 q15 q16 q17 q18 q19 q20 q21 q22 = some (.inr (a', v1, v2, v3, v4, v5, v6, v7, v8, v9, v10, v11, v12, v13, v14, v15, v16, v17, v18, v19, v20, v21, v22))) := by
  intro fu
  induction fu with
  | zero => intro i f l t a q1 q2 q3 q4 q5 q6 q7 q8 q9 q10 q11 q12 q13 q14 q15 q16 q17 q18 q19 q20 q21 q22 h1 h2 h3 h4; omega
  | succ fu ih =>
    intro i f l t a q1 q2 q3 q4 q5 q6 q7 q8 q9 q10 q11 q12 q13 q14 q15 q16 q17 q18 q19 q20 q21 q22 h1 h2 h3 h4 h5 h6
    rw [fX5_seekMet_L6, if_neg (show ¬ (2187 : Int32) ≤ nI i from (nI_ge (show i < 2187 by omega) (by decide) : ¬ nI 2187 ≤ nI i))]
    rcases stepR K hK h0 hs hr h1 h2 with ⟨rfl, e⟩ | ⟨l', t', a', rfl, e, e2, e3, e4⟩
    · rw [e, sm_b2, if_pos rfl]
      exact Or.inr ⟨miss_nil _ _, _, _, _, _, _, _, _, _, _, _, _, _, _, _, _, _, _, _, _, _, _, _, _, rfl⟩
    · rw [List.length_cons] at h3 h4
      rw [e, sm_b2, if_neg one_ne, e4, sm_b1]
      simp only [jn_e, xl_e, nI_1]
      have hF : FF n X Y r s m (l' :: t') = if (flB r l' && mtB n X Y r s m l') = true then l' :: FF n X Y r s m t' else FF n X Y r s m t' := by
        unfold FF; rw [List.filter_cons]
      have skip : (flB r l' && mtB n X Y r s m l') = false → FF n X Y r s m (l' :: t') = FF n X Y r s m t' := fun z => by rw [hF, if_neg (by rw [z]; decide)]
      by_cases w : flB r l' = true
      · rw [show (if flB r l' = true then (1 : Int32) else 0) = 1 from if_pos w, if_neg one_ne]
        obtain ⟨o1, o2, o3, o4, o5, o6, o7, o8, o9, o10, o11, o12, o13, o14, o15, o16, o17, o18, o19, p', q', pl', g⟩ := tryR K hK h h0 hs hr hm (chain_cons e3).1 e2 w q1 q2 q3 q4 q5 q6 q7 q8 q9 q10 q11 q12 q13 q14 q15 q16 q17 q18 q19 q20 q21 q22
        rcases g with ⟨g1, g2, g3⟩ | ⟨g1, g2⟩
        · have hF' : FF n X Y r s m (l' :: t') = l' :: FF n X Y r s m t' := by rw [hF, if_pos (by rw [w, g1]; rfl)]
          rw [g2, sm_b23, if_neg one_ne, hF']
          simp only [nI_eqb (show f < 2147483648 by omega) hk]
          by_cases z : f = k
          · rw [if_pos z]
            exact Or.inl ⟨a', l', p', q', pl', _, _, _, _, _, _, _, _, _, _, _, _, _, _, _, _, _, _, _, ⟨0, by omega, rfl⟩, e2, (chain_cons e3).1, g3, rfl⟩
          · rw [if_neg z]
            rcases ih (i + 1) (f + 1) l' t' a' _ _ _ _ _ _ _ _ _ _ _ _ _ _ _ _ _ _ _ _ _ _ e3 e2 (by omega) (by omega) (by omega) (by omega) with ⟨a2, l2, p2, q2', pl2, v1, v2, v3, v4, v5, v6, v7, v8, v9, v10, v11, v12, v13, v14, v15, v16, v17, v18, v19, ⟨j, y1, y2⟩, y3, y4, y5, y6⟩ | ⟨y1, y2⟩
            · exact Or.inl ⟨a2, l2, p2, q2', pl2, _, _, _, _, _, _, _, _, _, _, _, _, _, _, _, _, _, _, _, ⟨j + 1, by omega, y2⟩, y3, y4, y5, y6⟩
            · refine Or.inr ⟨?_, y2⟩
              intro j ej
              cases j with
              | zero => omega
              | succ j => exact y1 j (by omega)
        · rw [g2, sm_b23, if_pos rfl, skip (by rw [w, g1]; rfl)]
          exact ih (i + 1) f l' t' a' _ _ _ _ _ _ _ _ _ _ _ _ _ _ _ _ _ _ _ _ _ _ e3 e2 (by omega) (by omega) h5 (by omega)
      · have w' : flB r l' = false := by cases z : flB r l' <;> simp_all
        rw [show (if flB r l' = true then (1 : Int32) else 0) = 0 from if_neg w, if_pos rfl, skip (by rw [w']; rfl)]
        exact ih (i + 1) f l' t' a' _ _ _ _ _ _ _ _ _ _ _ _ _ _ _ _ _ _ _ _ _ _ e3 e2 (by omega) (by omega) h5 (by omega)
