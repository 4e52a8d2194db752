--@ needs 3zj.ap1
def dj (U V : Nat → Int) (m : Nat) (U2 V2 : Nat → Int) (m2 : Nat) : Prop := ∀ Z : T3, corD U V m Z ∨ corD U2 V2 m2 Z ∨ crC U V m U2 V2 m2 Z → ¬ (inH U V m Z.1 Z.2.1 Z.2.2 ∧ inH U2 V2 m2 Z.1 Z.2.1 Z.2.2)
def AP (U V : Nat → Int) (m : Nat) (U2 V2 : Nat → Int) (m2 : Nat) : Prop := PG U V m ∧ PG U2 V2 m2 ∧ (∀ k : Nat, k < m → inH U V m (U k) (V k) 1) ∧ (∀ k : Nat, k < m2 → inH U2 V2 m2 (U2 k) (V2 k) 1) ∧ (∀ i : Nat, i < m → ¬ inH U2 V2 m2 (U i) (V i) 1) ∧ (∀ j : Nat, j < m2 → ¬ inH U V m (U2 j) (V2 j) 1) ∧ ∀ i j : Nat, i < m → j < m2 → noX (U i) (V i) (U (cy m (i + 1))) (V (cy m (i + 1))) (U2 j) (V2 j) (U2 (cy m2 (j + 1))) (V2 (cy m2 (j + 1)))
theorem AP_sw {U V : Nat → Int} {m : Nat} {U2 V2 : Nat → Int} {m2 : Nat} (h : AP U V m U2 V2 m2) : AP U2 V2 m2 U V m := by
  obtain ⟨h1, h2, h3, h4, h5, h6, h7⟩ := h
  exact ⟨h2, h1, h4, h3, h6, h5, fun i j hi hj => noX_sw (h7 j i hj hi)⟩
theorem AP_of {U V : Nat → Int} {m : Nat} {U2 V2 : Nat → Int} {m2 : Nat} (g1 : PG U V m) (g2 : PG U2 V2 m2) (c1 : ∀ k : Nat, k < m → inH U V m (U k) (V k) 1) (c2 : ∀ k : Nat, k < m2 → inH U2 V2 m2 (U2 k) (V2 k) 1) (h : dj U V m U2 V2 m2) : AP U V m U2 V2 m2 := by
  refine ⟨g1, g2, c1, c2, fun i hi hh => h (U i, V i, 1) (Or.inl ⟨i, hi, rfl⟩) ⟨c1 i hi, hh⟩, fun j hj hh => h (U2 j, V2 j, 1) (Or.inr (Or.inl ⟨j, hj, rfl⟩)) ⟨hh, c2 j hj⟩, fun i j hi hj => ?_⟩
  rintro ⟨k1, k2, k3, k4, k5⟩
  have hl : 0 < lE U V m U2 V2 m2 i j := by
    unfold lE nl
    obtain ⟨s1, s2⟩ := sg_pos (l := lw (U i) (V i) (U (cy m (i + 1))) (V (cy m (i + 1))) (U2 j) (V2 j) (U2 (cy m2 (j + 1))) (V2 (cy m2 (j + 1))))
    rcases Int.lt_or_eq_of_le s1 with z | z
    · exact z
    · exact absurd (s2.mp z.symm) k1
  have hi1 : cy m (i + 1) < m := cy_lt g1.1
  have hj1 : cy m2 (j + 1) < m2 := cy_lt g2.1
  refine h (XE U V m U2 V2 m2 i j) (Or.inr (Or.inr ⟨i, j, hi, hj, hl, k2, k3, rfl⟩)) ⟨?_, ?_⟩
  · refine cv_inH g1 (c1 i hi) (c1 _ hi1) (c1 i hi) (α := lE U V m U2 V2 m2 i j - aE U V m U2 V2 m2 i j) (β := aE U V m U2 V2 m2 i j) (γ := 0) (k := 1) ?_ k2 (by omega) (by omega) ?_ ?_ ?_ ?_
    · unfold lE aE; omega
    · show 0 ≤ lE U V m U2 V2 m2 i j; omega
    · unfold XE Xp lE aE; dsimp only; grind
    · unfold XE Xp lE aE; dsimp only; grind
    · show 1 * lE U V m U2 V2 m2 i j = _; omega
  · obtain ⟨x1, x2⟩ := Xp_c (U i) (V i) (U (cy m (i + 1))) (V (cy m (i + 1))) (U2 j) (V2 j) (U2 (cy m2 (j + 1))) (V2 (cy m2 (j + 1)))
    refine cv_inH g2 (c2 j hj) (c2 _ hj1) (c2 j hj) (α := lE U V m U2 V2 m2 i j - sE U V m U2 V2 m2 i j) (β := sE U V m U2 V2 m2 i j) (γ := 0) (k := 1) ?_ k4 (by omega) (by omega) ?_ ?_ ?_ ?_
    · unfold lE sE; omega
    · show 0 ≤ lE U V m U2 V2 m2 i j; omega
    · unfold XE; rw [x1]; unfold lE sE; grind
    · unfold XE; rw [x2]; unfold lE sE; grind
    · show 1 * lE U V m U2 V2 m2 i j = _; omega
/-- no corner lies further that way -/
theorem ap_loc {U V : Nat → Int} {m : Nat} {U2 V2 : Nat → Int} {m2 : Nat} (h : AP U V m U2 V2 m2) {i j : Nat} (hi : i < m) (hj : j < m2)
    (hb : ∀ k k1 k2 : Nat, k < m2 → k1 < m → k2 < m → ∀ P Q L : Int, 1 ≤ L → cvx2 (U k1) (V k1) (U k2) (V k2) P Q L → D3 (U i) (V i) (nE U2 V2 m2 (U i) (V i) j) * (L * L) ≤ d2 (U2 k) (V2 k) P Q L * ((nE U2 V2 m2 (U i) (V i) j).2.2 * (nE U2 V2 m2 (U i) (V i) j).2.2))
    (ha : ∀ k k1 k2 : Nat, k < m → k1 < m2 → k2 < m2 → ∀ P Q L : Int, 1 ≤ L → cvx2 (U2 k1) (V2 k1) (U2 k2) (V2 k2) P Q L → D3 (U i) (V i) (nE U2 V2 m2 (U i) (V i) j) * (L * L) ≤ d2 (U k) (V k) P Q L * ((nE U2 V2 m2 (U i) (V i) j).2.2 * (nE U2 V2 m2 (U i) (V i) j).2.2)) :
    ∀ k : Nat, k < m → (U k - U i) * ((nE U2 V2 m2 (U i) (V i) j).1 - U i * (nE U2 V2 m2 (U i) (V i) j).2.2) + (V k - V i) * ((nE U2 V2 m2 (U i) (V i) j).2.1 - V i * (nE U2 V2 m2 (U i) (V i) j).2.2) ≤ 0 := by
  obtain ⟨g1, g2, c1, c2, o1, o2, hx⟩ := h
  have hj1 : cy m2 (j + 1) < m2 := cy_lt g2.1
  have hi1 : cy m (i + 1) < m := cy_lt g1.1
  have nb : ∀ o : Nat, o < m → noX (U i) (V i) (U o) (V o) (U2 j) (V2 j) (U2 (cy m2 (j + 1))) (V2 (cy m2 (j + 1))) → (U o - U i) * ((nE U2 V2 m2 (U i) (V i) j).1 - U i * (nE U2 V2 m2 (U i) (V i) j).2.2) + (V o - V i) * ((nE U2 V2 m2 (U i) (V i) j).2.1 - V i * (nE U2 V2 m2 (U i) (V i) j).2.2) ≤ 0 := by
    intro o ho hno
    exact seg_loc hno (fun P Q L hL hc => hb j i o hj hi ho P Q L hL hc) (fun P Q L hL hc => hb _ i o hj1 hi ho P Q L hL hc) (fun P Q L hL hc => ha o j _ ho hj hj1 P Q L hL hc)
  have nx := nb _ hi1 (hx i j hi hj)
  intro k hk
  by_cases h3 : 3 ≤ m
  · have hp := pv_lt hi
    have np := hx (pv m i) j hp hj
    rw [cy_pv hi] at np
    have np' := nb _ hp (noX_rev1 np)
    have t := turn_at g1 h3 hp
    rw [cy_pv hi] at t
    have e1 := (c1 k hk).1 (pv m i) hp
    have e2 := (c1 k hk).1 i hi
    unfold tE at e1 e2
    rw [cy_pv hi] at e1
    generalize (nE U2 V2 m2 (U i) (V i) j).1 - U i * (nE U2 V2 m2 (U i) (V i) j).2.2 = vx at *
    generalize (nE U2 V2 m2 (U i) (V i) j).2.1 - V i * (nE U2 V2 m2 (U i) (V i) j).2.2 = vy at *
    have f1 : (-vx) * (U (pv m i) - U i) + (-vy) * (V (pv m i) - V i) = -((U (pv m i) - U i) * vx + (V (pv m i) - V i) * vy) := by grind
    have f2 : (-vx) * (U (cy m (i + 1)) - U i) + (-vy) * (V (cy m (i + 1)) - V i) = -((U (cy m (i + 1)) - U i) * vx + (V (cy m (i + 1)) - V i) * vy) := by grind
    have := cone_nn (α := -vx) (β := -vy) t e1 e2 (by omega) (by omega)
    have f3 : (-vx) * (U k - U i * 1) + (-vy) * (V k - V i * 1) = -((U k - U i) * vx + (V k - V i) * vy) := by grind
    omega
  · have h0 := g1.1
    by_cases e : k = i
    · subst e
      rw [Int.sub_self, Int.sub_self, Int.zero_mul, Int.zero_mul]
      omega
    · have : k = cy m (i + 1) := by
        unfold cy
        by_cases c : i + 1 < m
        · rw [if_pos c]; omega
        · rw [if_neg c]; omega
      rw [this]
      exact nx
def HP2 (U V : Nat → Int) (m : Nat) (U2 V2 : Nat → Int) (m2 : Nat) (W : T3) : Prop := 1 ≤ W.2.2 ∧ 0 < D3 0 0 W ∧ ∀ i j : Nat, i < m → j < m2 → hpt (U2 j - U i) (V2 j - V i) 0 0 W.1 W.2.1 W.2.2
def vec1 (U V : Nat → Int) (U2 V2 : Nat → Int) (m2 : Nat) (i j : Nat) : T3 := ((nE U2 V2 m2 (U i) (V i) j).1 - U i * (nE U2 V2 m2 (U i) (V i) j).2.2, (nE U2 V2 m2 (U i) (V i) j).2.1 - V i * (nE U2 V2 m2 (U i) (V i) j).2.2, (nE U2 V2 m2 (U i) (V i) j).2.2)
def vec2 (U V : Nat → Int) (m : Nat) (U2 V2 : Nat → Int) (j i : Nat) : T3 := (U2 j * (nE U V m (U2 j) (V2 j) i).2.2 - (nE U V m (U2 j) (V2 j) i).1, V2 j * (nE U V m (U2 j) (V2 j) i).2.2 - (nE U V m (U2 j) (V2 j) i).2.1, (nE U V m (U2 j) (V2 j) i).2.2)
theorem d2_vec (cx cy P Q L : Int) : d2 0 0 (P - cx * L) (Q - cy * L) L = d2 cx cy P Q L := by unfold d2; simp
theorem d2_vec' (cx cy P Q L : Int) : d2 0 0 (cx * L - P) (cy * L - Q) L = d2 cx cy P Q L := by unfold d2; grind
theorem ap_one {U V : Nat → Int} {m : Nat} {U2 V2 : Nat → Int} {m2 : Nat} (h : AP U V m U2 V2 m2) {i j : Nat} (hi : i < m) (hj : j < m2) (hp : HP U2 V2 m2 (U i) (V i) (nE U2 V2 m2 (U i) (V i) j).1 (nE U2 V2 m2 (U i) (V i) j).2.1 (nE U2 V2 m2 (U i) (V i) j).2.2)
    (hb : ∀ k k1 k2 : Nat, k < m2 → k1 < m → k2 < m → ∀ P Q L : Int, 1 ≤ L → cvx2 (U k1) (V k1) (U k2) (V k2) P Q L → D3 (U i) (V i) (nE U2 V2 m2 (U i) (V i) j) * (L * L) ≤ d2 (U2 k) (V2 k) P Q L * ((nE U2 V2 m2 (U i) (V i) j).2.2 * (nE U2 V2 m2 (U i) (V i) j).2.2))
    (ha : ∀ k k1 k2 : Nat, k < m → k1 < m2 → k2 < m2 → ∀ P Q L : Int, 1 ≤ L → cvx2 (U2 k1) (V2 k1) (U2 k2) (V2 k2) P Q L → D3 (U i) (V i) (nE U2 V2 m2 (U i) (V i) j) * (L * L) ≤ d2 (U k) (V k) P Q L * ((nE U2 V2 m2 (U i) (V i) j).2.2 * (nE U2 V2 m2 (U i) (V i) j).2.2)) :
    HP2 U V m U2 V2 m2 (vec1 U V U2 V2 m2 i j) := by
  have loc := ap_loc h hi hj hb ha
  obtain ⟨n1, n2, n3, n4⟩ := nS_ok (U2 j) (V2 j) (U2 (cy m2 (j + 1))) (V2 (cy m2 (j + 1))) (U i) (V i)
  have n1' : 1 ≤ (nE U2 V2 m2 (U i) (V i) j).2.2 := n1
  refine ⟨n1', ?_, fun i' j' hi' hj' => ?_⟩
  · show 0 < d2 0 0 _ _ _
    unfold vec1
    dsimp only
    rw [d2_vec]
    have hnn := d2_nn (U i) (V i) (nE U2 V2 m2 (U i) (V i) j).1 (nE U2 V2 m2 (U i) (V i) j).2.1 (nE U2 V2 m2 (U i) (V i) j).2.2
    apply Classical.byContradiction
    intro hh
    have hz : d2 (U i) (V i) (nE U2 V2 m2 (U i) (V i) j).1 (nE U2 V2 m2 (U i) (V i) j).2.1 (nE U2 V2 m2 (U i) (V i) j).2.2 ≤ 0 := by omega
    unfold d2 at hz
    obtain ⟨z1, z2⟩ := ssq0 hz
    obtain ⟨s, t, hs, ht, hst, e1, e2⟩ := n2
    have hj1 : cy m2 (j + 1) < m2 := cy_lt h.2.1.1
    have eN : nE U2 V2 m2 (U i) (V i) j = nS (U2 j) (V2 j) (U2 (cy m2 (j + 1))) (V2 (cy m2 (j + 1))) (U i) (V i) := rfl
    rw [← eN] at e1 e2 hst
    refine h.2.2.2.2.1 i hi (cv_inH h.2.1 (h.2.2.2.1 j hj) (h.2.2.2.1 _ hj1) (h.2.2.2.1 j hj) (α := s) (β := t) (γ := 0) (k := (nE U2 V2 m2 (U i) (V i) j).2.2) hs ht (by omega) (by omega) (by omega) ?_ ?_ (by omega))
    · rw [Int.mul_comm]; omega
    · rw [Int.mul_comm]; omega
  · have a1 := loc i' hi'
    have a2 := hp j' hj'
    unfold hpt at a2 ⊢
    unfold vec1
    dsimp only
    generalize (nE U2 V2 m2 (U i) (V i) j).1 = P at *
    generalize (nE U2 V2 m2 (U i) (V i) j).2.1 = Q at *
    generalize (nE U2 V2 m2 (U i) (V i) j).2.2 = L at *
    have e : ((U2 j' - U i') * L - (P - U i * L)) * (P - U i * L - 0 * L) + ((V2 j' - V i') * L - (Q - V i * L)) * (Q - V i * L - 0 * L) = ((U2 j' * L - P) * (P - U i * L) + (V2 j' * L - Q) * (Q - V i * L)) - L * ((U i' - U i) * (P - U i * L) + (V i' - V i) * (Q - V i * L)) := by grind
    rw [e]
    have := mpn (show 0 ≤ L by omega) a1
    omega
theorem HP2_sw {U V : Nat → Int} {m : Nat} {U2 V2 : Nat → Int} {m2 : Nat} {i j : Nat} (h : HP2 U2 V2 m2 U V m (vec1 U2 V2 U V m j i)) : HP2 U V m U2 V2 m2 (vec2 U V m U2 V2 j i) := by
  obtain ⟨h1, h2, h3⟩ := h
  refine ⟨h1, ?_, fun i' j' hi' hj' => ?_⟩
  · show 0 < d2 0 0 _ _ _
    unfold vec2
    dsimp only
    rw [d2_vec']
    have h2' : 0 < d2 0 0 _ _ _ := h2
    unfold vec1 at h2'
    dsimp only at h2'
    rw [d2_vec] at h2'
    exact h2'
  · have := h3 j' i' hj' hi'
    unfold hpt vec1 at this
    unfold hpt vec2
    dsimp only at *
    generalize (nE U V m (U2 j) (V2 j) i).1 = P at *
    generalize (nE U V m (U2 j) (V2 j) i).2.1 = Q at *
    generalize (nE U V m (U2 j) (V2 j) i).2.2 = L at *
    have e : ((U2 j' - U i') * L - (U2 j * L - P)) * (U2 j * L - P - 0 * L) + ((V2 j' - V i') * L - (V2 j * L - Q)) * (V2 j * L - Q - 0 * L) = ((U i' - U2 j') * L - (P - U2 j * L)) * (P - U2 j * L - 0 * L) + ((V i' - V2 j') * L - (Q - V2 j * L)) * (Q - V2 j * L - 0 * L) := by grind
    rw [e]; exact this
/-- for each corner its nearest edge, and the nearest of all -/
theorem ap_min {U V : Nat → Int} {m : Nat} {U2 V2 : Nat → Int} {m2 : Nat} (h : AP U V m U2 V2 m2) : ∃ i j : Nat, i < m ∧ j < m2 ∧ (m2 = 2 → j = 0) ∧ HP U2 V2 m2 (U i) (V i) (nE U2 V2 m2 (U i) (V i) j).1 (nE U2 V2 m2 (U i) (V i) j).2.1 (nE U2 V2 m2 (U i) (V i) j).2.2 ∧ ∀ k k1 k2 : Nat, k < m → k1 < m2 → k2 < m2 → ∀ P Q L : Int, 1 ≤ L → cvx2 (U2 k1) (V2 k1) (U2 k2) (V2 k2) P Q L → D3 (U i) (V i) (nE U2 V2 m2 (U i) (V i) j) * (L * L) ≤ d2 (U k) (V k) P Q L * ((nE U2 V2 m2 (U i) (V i) j).2.2 * (nE U2 V2 m2 (U i) (V i) j).2.2) := by
  obtain ⟨g1, g2, c1, c2, o1, o2, hx⟩ := h
  have hJ : ∀ i : Nat, ∃ j : Nat, i < m → j < m2 ∧ (m2 = 2 → j = 0) ∧ HP U2 V2 m2 (U i) (V i) (nE U2 V2 m2 (U i) (V i) j).1 (nE U2 V2 m2 (U i) (V i) j).2.1 (nE U2 V2 m2 (U i) (V i) j).2.2 := by
    intro i
    by_cases hi : i < m
    · obtain ⟨j, hj, hj2, hp⟩ := near_ex g2 c2 (o1 i hi)
      exact ⟨j, fun _ => ⟨hj, hj2, hp⟩⟩
    · exact ⟨0, fun z => absurd z hi⟩
  obtain ⟨J, hJ⟩ := Classical.axiomOfChoice hJ
  have pos : ∀ i j : Nat, 1 ≤ (nE U2 V2 m2 (U i) (V i) j).2.2 := fun i j => (nS_ok _ _ _ _ _ _).1
  have pos2 : ∀ i j : Nat, 0 < (nE U2 V2 m2 (U i) (V i) j).2.2 * (nE U2 V2 m2 (U i) (V i) j).2.2 := fun i j => Int.mul_pos (by have := pos i j; omega) (by have := pos i j; omega)
  obtain ⟨i, hi, -, hmin⟩ := min_ex (v := fun _ => True) (a := fun i => D3 (U i) (V i) (nE U2 V2 m2 (U i) (V i) (J i))) (b := fun i => (nE U2 V2 m2 (U i) (V i) (J i)).2.2 * (nE U2 V2 m2 (U i) (V i) (J i)).2.2) m (fun i _ => pos2 i _) ⟨0, g1.1, trivial⟩
  obtain ⟨hj, hj2, hp⟩ := hJ i hi
  refine ⟨i, J i, hi, hj, hj2, hp, fun k k1 k2 hk hk1 hk2 P Q L hL hc => ?_⟩
  obtain ⟨-, -, hpk⟩ := hJ k hk
  obtain ⟨u1, -⟩ := near_uniq (hpk k1 hk1) (hpk k2 hk2) hc hL
  have q1 := pos2 k (J k)
  have q2 := pos2 i (J i)
  exact rat_le (d := (nE U2 V2 m2 (U k) (V k) (J k)).2.2 * (nE U2 V2 m2 (U k) (V k) (J k)).2.2) q1 (by omega) (by have := sqn L; omega) (hmin k hk trivial) u1
theorem ap_ex {U V : Nat → Int} {m : Nat} {U2 V2 : Nat → Int} {m2 : Nat} (h : AP U V m U2 V2 m2) : ∃ W : T3, HP2 U V m U2 V2 m2 W ∧ ((∃ i j : Nat, i < m ∧ j < m2 ∧ (m2 = 2 → j = 0) ∧ W = vec1 U V U2 V2 m2 i j) ∨ ∃ j i : Nat, j < m2 ∧ i < m ∧ (m = 2 → i = 0) ∧ W = vec2 U V m U2 V2 j i) := by
  obtain ⟨i, j, hi, hj, hj2, hp, hm⟩ := ap_min h
  obtain ⟨j', i', hj', hi', hi2, hp', hm'⟩ := ap_min (AP_sw h)
  have p1 : 1 ≤ (nE U2 V2 m2 (U i) (V i) j).2.2 := (nS_ok _ _ _ _ _ _).1
  have p2 : 1 ≤ (nE U V m (U2 j') (V2 j') i').2.2 := (nS_ok _ _ _ _ _ _).1
  have q1 : 0 < (nE U2 V2 m2 (U i) (V i) j).2.2 * (nE U2 V2 m2 (U i) (V i) j).2.2 := Int.mul_pos (by omega) (by omega)
  have q2 : 0 < (nE U V m (U2 j') (V2 j') i').2.2 * (nE U V m (U2 j') (V2 j') i').2.2 := Int.mul_pos (by omega) (by omega)
  by_cases c : D3 (U i) (V i) (nE U2 V2 m2 (U i) (V i) j) * ((nE U V m (U2 j') (V2 j') i').2.2 * (nE U V m (U2 j') (V2 j') i').2.2) ≤ D3 (U2 j') (V2 j') (nE U V m (U2 j') (V2 j') i') * ((nE U2 V2 m2 (U i) (V i) j).2.2 * (nE U2 V2 m2 (U i) (V i) j).2.2)
  · refine ⟨_, ap_one h hi hj hp (fun k k1 k2 hk hk1 hk2 P Q L hL hc => ?_) hm, Or.inl ⟨i, j, hi, hj, hj2, rfl⟩⟩
    exact rat_le q2 (by omega) (by have := sqn L; omega) c (hm' k k1 k2 hk hk1 hk2 P Q L hL hc)
  · refine ⟨_, HP2_sw (ap_one (AP_sw h) hj' hi' hp' (fun k k1 k2 hk hk1 hk2 P Q L hL hc => ?_) hm'), Or.inr ⟨j', i', hj', hi', hi2, rfl⟩⟩
    exact rat_le q1 (by omega) (by have := sqn L; omega) (by omega) (hm k k1 k2 hk hk1 hk2 P Q L hL hc)
