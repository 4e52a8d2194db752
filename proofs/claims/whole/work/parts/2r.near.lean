--@ needs 2a.num 2b.ev1 2d.gcd 2e.row 2f.row2 2g.bits 2h.hull 2i.hull2 2j.hull3 2k.hull4 2l.side 2m.side2 2n.hulls 2o.chain 2p.poly 2q.pg
/-! the nearest place -/
def d2 (cx cy P Q L : Int) : Int := (P - cx * L) * (P - cx * L) + (Q - cy * L) * (Q - cy * L)
def hpt (x y cx cy P Q L : Int) : Prop := 0 ≤ (x * L - P) * (P - cx * L) + (y * L - Q) * (Q - cy * L)
def HP (U V : Nat → Int) (m : Nat) (cx cy P Q L : Int) : Prop := ∀ i : Nat, i < m → hpt (U i) (V i) cx cy P Q L
def cvx2 (ax ay bx by' P Q L : Int) : Prop := ∃ s t : Int, 0 ≤ s ∧ 0 ≤ t ∧ s + t = L ∧ P = s * ax + t * bx ∧ Q = s * ay + t * by'
theorem d2_nn (cx cy P Q L : Int) : 0 ≤ d2 cx cy P Q L := by
  unfold d2
  have := sqn (P - cx * L); have := sqn (Q - cy * L); omega
theorem near_uniq {ax ay bx by' cx cy P Q L P2 Q2 L2 : Int} (ha : hpt ax ay cx cy P Q L) (hb : hpt bx by' cx cy P Q L) (hc : cvx2 ax ay bx by' P2 Q2 L2) (h2 : 1 ≤ L2) : d2 cx cy P Q L * (L2 * L2) ≤ d2 cx cy P2 Q2 L2 * (L * L) ∧ (d2 cx cy P2 Q2 L2 * (L * L) ≤ d2 cx cy P Q L * (L2 * L2) → P2 * L = P * L2 ∧ Q2 * L = Q * L2) := by
  obtain ⟨s, t, hs, ht, hst, e1, e2⟩ := hc
  unfold hpt at ha hb
  have k1 := Int.mul_nonneg hs ha
  have k2 := Int.mul_nonneg ht hb
  have kk : s * ((ax * L - P) * (P - cx * L) + (ay * L - Q) * (Q - cy * L)) + t * ((bx * L - P) * (P - cx * L) + (by' * L - Q) * (Q - cy * L)) = (P2 * L - P * L2) * (P - cx * L) + (Q2 * L - Q * L2) * (Q - cy * L) := by
    rw [e1, e2, ← hst]; grind
  have hd : 0 ≤ (P2 * L - P * L2) * (P - cx * L) + (Q2 * L - Q * L2) * (Q - cy * L) := by omega
  have id1 : d2 cx cy P2 Q2 L2 * (L * L) = d2 cx cy P Q L * (L2 * L2) + 2 * (L2 * ((P2 * L - P * L2) * (P - cx * L) + (Q2 * L - Q * L2) * (Q - cy * L))) + ((P2 * L - P * L2) * (P2 * L - P * L2) + (Q2 * L - Q * L2) * (Q2 * L - Q * L2)) := by
    unfold d2; grind
  have h3 := Int.mul_nonneg (show 0 ≤ L2 by omega) hd
  have s1 := sqn (P2 * L - P * L2)
  have s2 := sqn (Q2 * L - Q * L2)
  refine ⟨by omega, fun h => ?_⟩
  have := ssq0 (a := P2 * L - P * L2) (b := Q2 * L - Q * L2) (by omega)
  omega
/-- the nearest place of a segment -/
def nS (ax ay bx by' cx cy : Int) : Int × Int × Int :=
  if (bx - ax) * (cx - ax) + (by' - ay) * (cy - ay) ≤ 0 then (ax, ay, 1)
  else if (bx - ax) * (bx - ax) + (by' - ay) * (by' - ay) ≤ (bx - ax) * (cx - ax) + (by' - ay) * (cy - ay) then (bx, by', 1)
  else (ax * ((bx - ax) * (bx - ax) + (by' - ay) * (by' - ay)) + ((bx - ax) * (cx - ax) + (by' - ay) * (cy - ay)) * (bx - ax), ay * ((bx - ax) * (bx - ax) + (by' - ay) * (by' - ay)) + ((bx - ax) * (cx - ax) + (by' - ay) * (cy - ay)) * (by' - ay), (bx - ax) * (bx - ax) + (by' - ay) * (by' - ay))
theorem nS_cases (ax ay bx by' cx cy : Int) : ((bx - ax) * (cx - ax) + (by' - ay) * (cy - ay) ≤ 0 ∧ nS ax ay bx by' cx cy = (ax, ay, 1)) ∨ (0 < (bx - ax) * (cx - ax) + (by' - ay) * (cy - ay) ∧ (bx - ax) * (bx - ax) + (by' - ay) * (by' - ay) ≤ (bx - ax) * (cx - ax) + (by' - ay) * (cy - ay) ∧ nS ax ay bx by' cx cy = (bx, by', 1)) ∨ (0 < (bx - ax) * (cx - ax) + (by' - ay) * (cy - ay) ∧ (bx - ax) * (cx - ax) + (by' - ay) * (cy - ay) < (bx - ax) * (bx - ax) + (by' - ay) * (by' - ay) ∧ nS ax ay bx by' cx cy = (ax * ((bx - ax) * (bx - ax) + (by' - ay) * (by' - ay)) + ((bx - ax) * (cx - ax) + (by' - ay) * (cy - ay)) * (bx - ax), ay * ((bx - ax) * (bx - ax) + (by' - ay) * (by' - ay)) + ((bx - ax) * (cx - ax) + (by' - ay) * (cy - ay)) * (by' - ay), (bx - ax) * (bx - ax) + (by' - ay) * (by' - ay))) := by
  unfold nS
  by_cases c1 : (bx - ax) * (cx - ax) + (by' - ay) * (cy - ay) ≤ 0
  · left; exact ⟨c1, if_pos c1⟩
  · right
    by_cases c2 : (bx - ax) * (bx - ax) + (by' - ay) * (by' - ay) ≤ (bx - ax) * (cx - ax) + (by' - ay) * (cy - ay)
    · left; exact ⟨by omega, c2, by rw [if_neg c1, if_pos c2]⟩
    · right; exact ⟨by omega, by omega, by rw [if_neg c1, if_neg c2]⟩
theorem nS_ok (ax ay bx by' cx cy : Int) : 1 ≤ (nS ax ay bx by' cx cy).2.2 ∧ cvx2 ax ay bx by' (nS ax ay bx by' cx cy).1 (nS ax ay bx by' cx cy).2.1 (nS ax ay bx by' cx cy).2.2 ∧ hpt ax ay cx cy (nS ax ay bx by' cx cy).1 (nS ax ay bx by' cx cy).2.1 (nS ax ay bx by' cx cy).2.2 ∧ hpt bx by' cx cy (nS ax ay bx by' cx cy).1 (nS ax ay bx by' cx cy).2.1 (nS ax ay bx by' cx cy).2.2 := by
  rcases nS_cases ax ay bx by' cx cy with ⟨c1, e⟩ | ⟨c1, c2, e⟩ | ⟨c1, c2, e⟩
  · rw [e]
    refine ⟨Int.le_refl 1, ⟨1, 0, by omega, by omega, rfl, by show ax = _; omega, by show ay = _; omega⟩, ?_, ?_⟩
    · show 0 ≤ (ax * 1 - ax) * (ax - cx * 1) + (ay * 1 - ay) * (ay - cy * 1)
      simp
    · show 0 ≤ (bx * 1 - ax) * (ax - cx * 1) + (by' * 1 - ay) * (ay - cy * 1)
      have : (bx * 1 - ax) * (ax - cx * 1) + (by' * 1 - ay) * (ay - cy * 1) = -((bx - ax) * (cx - ax) + (by' - ay) * (cy - ay)) := by grind
      omega
  · rw [e]
    refine ⟨Int.le_refl 1, ⟨0, 1, by omega, by omega, rfl, by show bx = _; omega, by show by' = _; omega⟩, ?_, ?_⟩
    · show 0 ≤ (ax * 1 - bx) * (bx - cx * 1) + (ay * 1 - by') * (by' - cy * 1)
      have : (ax * 1 - bx) * (bx - cx * 1) + (ay * 1 - by') * (by' - cy * 1) = (bx - ax) * (cx - ax) + (by' - ay) * (cy - ay) - ((bx - ax) * (bx - ax) + (by' - ay) * (by' - ay)) := by grind
      omega
    · show 0 ≤ (bx * 1 - bx) * (bx - cx * 1) + (by' * 1 - by') * (by' - cy * 1)
      simp
  · rw [e]
    refine ⟨by show 1 ≤ (bx - ax) * (bx - ax) + (by' - ay) * (by' - ay); omega, ⟨(bx - ax) * (bx - ax) + (by' - ay) * (by' - ay) - ((bx - ax) * (cx - ax) + (by' - ay) * (cy - ay)), (bx - ax) * (cx - ax) + (by' - ay) * (cy - ay), by omega, by omega, by show _ = (bx - ax) * (bx - ax) + (by' - ay) * (by' - ay); omega, ?_, ?_⟩, ?_, ?_⟩
    · show ax * ((bx - ax) * (bx - ax) + (by' - ay) * (by' - ay)) + ((bx - ax) * (cx - ax) + (by' - ay) * (cy - ay)) * (bx - ax) = _
      grind
    · show ay * ((bx - ax) * (bx - ax) + (by' - ay) * (by' - ay)) + ((bx - ax) * (cx - ax) + (by' - ay) * (cy - ay)) * (by' - ay) = _
      grind
    · unfold hpt
      refine Int.le_of_eq ?_
      dsimp only
      generalize hE : bx - ax = ex
      generalize hF : by' - ay = ey
      generalize hG : cx - ax = gx
      generalize hH : cy - ay = gy
      have e1 : cx = gx + ax := by omega
      have e2 : cy = gy + ay := by omega
      rw [e1, e2]
      grind
    · unfold hpt
      refine Int.le_of_eq ?_
      dsimp only
      have f1 : bx = (bx - ax) + ax := by omega
      have f2 : by' = (by' - ay) + ay := by omega
      generalize hE : bx - ax = ex at *
      generalize hF : by' - ay = ey at *
      generalize hG : cx - ax = gx
      generalize hH : cy - ay = gy
      have e1 : cx = gx + ax := by omega
      have e2 : cy = gy + ay := by omega
      rw [e1, e2, f1, f2]
      grind
/-- within a corner's angle, a function that grows along both edges is not less -/
theorem cone_nn {ax ay bx by' cx cy P Q L α β : Int} (turn : 0 < (bx - ax) * (cy - by') - (by' - ay) * (cx - bx)) (h1 : 0 ≤ (bx - ax) * (Q - ay * L) - (by' - ay) * (P - ax * L)) (h2 : 0 ≤ (cx - bx) * (Q - by' * L) - (cy - by') * (P - bx * L)) (fa : 0 ≤ α * (ax - bx) + β * (ay - by')) (fc : 0 ≤ α * (cx - bx) + β * (cy - by')) : 0 ≤ α * (P - bx * L) + β * (Q - by' * L) := by
  refine div_ge turn ?_
  have e : ((bx - ax) * (cy - by') - (by' - ay) * (cx - bx)) * (α * (P - bx * L) + β * (Q - by' * L)) = ((bx - ax) * (Q - ay * L) - (by' - ay) * (P - ax * L)) * (α * (cx - bx) + β * (cy - by')) + ((cx - bx) * (Q - by' * L) - (cy - by') * (P - bx * L)) * (α * (ax - bx) + β * (ay - by')) := by grind
  rw [e]
  have := Int.mul_nonneg h1 fc
  have := Int.mul_nonneg h2 fa
  omega
theorem rat_le {a b c d e f : Int} (hd : 0 < d) (hb : 0 ≤ b) (hf : 0 ≤ f) (h1 : a * d ≤ c * b) (h2 : c * f ≤ e * d) : a * f ≤ e * b := by
  have k1 := Int.mul_le_mul_of_nonneg_right h1 hf
  have k2 := Int.mul_le_mul_of_nonneg_right h2 hb
  have : d * (a * f - e * b) ≤ 0 := by
    have e1 : d * (a * f - e * b) = a * d * f - e * d * b := by grind
    have e2 : c * b * f = c * f * b := by grind
    omega
  have := div_le hd this
  omega
theorem min_ex {v : Nat → Prop} [DecidablePred v] {a b : Nat → Int} : ∀ m : Nat, (∀ i, i < m → 0 < b i) → (∃ i, i < m ∧ v i) → ∃ i, i < m ∧ v i ∧ ∀ k, k < m → v k → a i * b k ≤ a k * b i := by
  intro m
  induction m with
  | zero => rintro - ⟨i, h, -⟩; omega
  | succ m ih =>
    intro hb ⟨i, hi, hv⟩
    by_cases c : ∃ i, i < m ∧ v i
    · obtain ⟨j, hj, hvj, hmin⟩ := ih (fun i hi => hb i (by omega)) c
      by_cases d : v m ∧ a m * b j < a j * b m
      · refine ⟨m, by omega, d.1, fun k hk hvk => ?_⟩
        by_cases e : k = m
        · subst e; exact Int.le_refl _
        · exact rat_le (hb j (by omega)) (by have := hb m (by omega); omega) (by have := hb k (by omega); omega) (by omega) (hmin k (by omega) hvk)
      · refine ⟨j, by omega, hvj, fun k hk hvk => ?_⟩
        by_cases e : k = m
        · subst e
          by_cases z : a k * b j < a j * b k
          · exact absurd ⟨hvk, z⟩ d
          · omega
        · exact hmin k (by omega) hvk
    · have e : i = m := by
        by_cases e : i = m
        · exact e
        · exact absurd ⟨i, by omega, hv⟩ c
      subst e
      refine ⟨i, by omega, hv, fun k hk hvk => ?_⟩
      by_cases e : k = i
      · subst e; exact Int.le_refl _
      · exact absurd ⟨k, by omega, hvk⟩ c
def nE (U V : Nat → Int) (m : Nat) (cx cy' : Int) (i : Nat) : Int × Int × Int := nS (U i) (V i) (U (cy m (i + 1))) (V (cy m (i + 1))) cx cy'
def pv (m i : Nat) : Nat := if i = 0 then m - 1 else i - 1
theorem pv_lt {m i : Nat} (h : i < m) : pv m i < m := by
  unfold pv; split <;> omega
theorem cy_pv {m i : Nat} (h : i < m) : cy m (pv m i + 1) = i := by
  unfold pv cy
  by_cases c : i = 0
  · rw [if_pos c, if_neg (by omega), c]
  · rw [if_neg c, if_pos (by omega)]; omega
theorem turn_at {U V : Nat → Int} {m : Nat} (hG : PG U V m) (h3 : 3 ≤ m) {i : Nat} (hi : i < m) : 0 < (U (cy m (i + 1)) - U i) * (V (cy m (cy m (i + 1) + 1)) - V (cy m (i + 1))) - (V (cy m (i + 1)) - V i) * (U (cy m (cy m (i + 1) + 1)) - U (cy m (i + 1))) := by
  have := hG.2.1 h3 i hi
  unfold tE at this
  have e : (U (cy m (i + 1)) - U i) * (V (cy m (cy m (i + 1) + 1)) - V (cy m (i + 1))) - (V (cy m (i + 1)) - V i) * (U (cy m (cy m (i + 1) + 1)) - U (cy m (i + 1))) = (U (cy m (i + 1)) - U i) * (V (cy m (cy m (i + 1) + 1)) - V i * 1) - (V (cy m (i + 1)) - V i) * (U (cy m (cy m (i + 1) + 1)) - U i * 1) := by grind
  rw [e]; exact this
/-- within the hull: not less than at the corners -/
theorem lin_min {U V : Nat → Int} {m : Nat} (hG : PG U V m) {P Q L : Int} (hL : 1 ≤ L) (hin : inH U V m P Q L) {α β μ : Int} (h : ∀ i : Nat, i < m → μ ≤ α * U i + β * V i) : μ * L ≤ α * P + β * Q := by
  by_cases h3 : 3 ≤ m
  · obtain ⟨i, hi, -, hmin⟩ := min_ex (v := fun _ => True) (a := fun i => α * U i + β * V i) (b := fun _ => 1) m (fun _ _ => by decide) ⟨0, by omega, trivial⟩
    simp only [Int.mul_one] at hmin
    have hp := pv_lt hi
    have t := turn_at hG h3 hp
    rw [cy_pv hi] at t
    have e1 := hin.1 (pv m i) hp
    have e2 := hin.1 i hi
    unfold tE at e1 e2
    rw [cy_pv hi] at e1
    have m1 := hmin (pv m i) hp trivial
    have m2 := hmin (cy m (i + 1)) (cy_lt (by omega)) trivial
    have := cone_nn (α := α) (β := β) t e1 e2 (by rw [Int.mul_sub, Int.mul_sub]; omega) (by rw [Int.mul_sub, Int.mul_sub]; omega)
    have k := Int.mul_le_mul_of_nonneg_right (h i hi) (show 0 ≤ L by omega)
    have e : α * (P - U i * L) + β * (Q - V i * L) = α * P + β * Q - (α * U i + β * V i) * L := by grind
    omega
  · have h0 := hG.1
    have hd := hin.2 (by omega)
    apply Classical.byContradiction
    intro hc
    have f0 := Int.mul_le_mul_of_nonneg_right (h 0 h0) (show 0 ≤ L by omega)
    have f1 := Int.mul_le_mul_of_nonneg_right (h (m - 1) (by omega)) (show 0 ≤ L by omega)
    have t0 := hin.1 0 h0
    have t1 := hin.1 (m - 1) (by omega)
    unfold tE at t0 t1
    rw [show cy m (m - 1 + 1) = 0 from if_neg (by omega)] at t1
    have hz : (U 0 * L - P) * (V (m - 1) * L - Q) = (V 0 * L - Q) * (U (m - 1) * L - P) := by
      have hcase : m = 1 ∨ m = 2 := by omega
      rcases hcase with rfl | rfl
      · rw [show 1 - 1 = 0 from rfl]; grind
      · rw [show 2 - 1 = 1 from rfl, show cy 2 (0 + 1) = 1 from rfl] at *
        have : (U 1 - U 0) * (Q - V 0 * L) - (V 1 - V 0) * (P - U 0 * L) = -((U 0 - U 1) * (Q - V 1 * L) - (V 0 - V 1) * (P - U 1 * L)) := by grind
        have z : (U 1 - U 0) * (Q - V 0 * L) - (V 1 - V 0) * (P - U 0 * L) = 0 := by omega
        have k : (U 0 * L - P) * (V 1 * L - Q) - (V 0 * L - Q) * (U 1 * L - P) = L * ((U 1 - U 0) * (Q - V 0 * L) - (V 1 - V 0) * (P - U 0 * L)) := by grind
        rw [z] at k; omega
    generalize ha : U 0 * L - P = a at *
    generalize hb : V 0 * L - Q = b at *
    generalize hc' : U (m - 1) * L - P = c at *
    generalize hd' : V (m - 1) * L - Q = d at *
    have p1 : 0 < α * a + β * b := by
      have : α * a + β * b = (α * U 0 + β * V 0) * L - (α * P + β * Q) := by rw [← ha, ← hb]; grind
      omega
    have p2 : 0 < α * c + β * d := by
      have : α * c + β * d = (α * U (m - 1) + β * V (m - 1)) * L - (α * P + β * Q) := by rw [← hc', ← hd']; grind
      omega
    have k : (α * a + β * b) * (a * c + b * d) = (α * c + β * d) * (a * a + b * b) := by grind
    have k1 := mpn (show 0 ≤ α * a + β * b by omega) hd
    rw [k] at k1
    have k2 := div_le p2 k1
    obtain ⟨z1, z2⟩ := ssq0 k2
    rw [z1, z2] at p1
    simp at p1
theorem near_ex {U V : Nat → Int} {m : Nat} (hG : PG U V m) (hC : ∀ k : Nat, k < m → inH U V m (U k) (V k) 1) {cx cy' : Int} (hout : ¬ inH U V m cx cy' 1) : ∃ i, i < m ∧ (m = 2 → i = 0) ∧ HP U V m cx cy' (nE U V m cx cy' i).1 (nE U V m cx cy' i).2.1 (nE U V m cx cy' i).2.2 := by
  have h0 := hG.1
  by_cases h3 : 3 ≤ m
  · have hv : ∃ i, i < m ∧ tE U V m cx cy' 1 i < 0 := by
      apply Classical.byContradiction
      intro hh
      apply hout
      refine ⟨fun i hi => ?_, fun h => absurd h3 (by omega)⟩
      apply Classical.byContradiction
      intro h4
      exact hh ⟨i, hi, by omega⟩
    obtain ⟨i, hi, hvi, hmin⟩ := min_ex (v := fun i => tE U V m cx cy' 1 i < 0) (a := fun i => d2 cx cy' (nE U V m cx cy' i).1 (nE U V m cx cy' i).2.1 (nE U V m cx cy' i).2.2) (b := fun i => (nE U V m cx cy' i).2.2 * (nE U V m cx cy' i).2.2) m (fun i _ => by
      have := (nS_ok (U i) (V i) (U (cy m (i + 1))) (V (cy m (i + 1))) cx cy').1
      exact Int.mul_pos (show 0 < (nE U V m cx cy' i).2.2 from by unfold nE; omega) (show 0 < (nE U V m cx cy' i).2.2 from by unfold nE; omega)) hv
    refine ⟨i, hi, fun h => by omega, ?_⟩
    have hi1 : cy m (i + 1) < m := cy_lt h0
    -- a corner of this edge, whose both edges' other ends are not less
    have corner : ∀ c : Nat, c < m → 0 ≤ (U c - cx) * (U (pv m c) - U c) + (V c - cy') * (V (pv m c) - V c) → 0 ≤ (U c - cx) * (U (cy m (c + 1)) - U c) + (V c - cy') * (V (cy m (c + 1)) - V c) → HP U V m cx cy' (U c) (V c) 1 := by
      intro c hc f1 f2 k hk
      have hp := pv_lt hc
      have t := turn_at hG h3 hp
      rw [cy_pv hc] at t
      have e1 := (hC k hk).1 (pv m c) hp
      have e2 := (hC k hk).1 c hc
      unfold tE at e1 e2
      rw [cy_pv hc] at e1
      have := cone_nn (α := U c - cx) (β := V c - cy') t e1 e2 f1 f2
      unfold hpt
      have e : (U k * 1 - U c) * (U c - cx * 1) + (V k * 1 - V c) * (V c - cy' * 1) = (U c - cx) * (U k - U c * 1) + (V c - cy') * (V k - V c * 1) := by grind
      rw [e]; exact this
    -- a neighbour edge that is seen: its other end is not less
    have seen : ∀ (j c o : Nat), j < m → tE U V m cx cy' 1 j < 0 → (nE U V m cx cy' i = (U c, V c, 1)) → ((U j = U c ∧ V j = V c ∧ o = cy m (j + 1)) ∨ (U (cy m (j + 1)) = U c ∧ V (cy m (j + 1)) = V c ∧ o = j)) → 0 ≤ (U c - cx) * (U o - U c) + (V c - cy') * (V o - V c) := by
      intro j c o hj hvj hz ho
      have hm := hmin j hj hvj
      rw [hz] at hm
      obtain ⟨n1, n2, n3, n4⟩ := nS_ok (U j) (V j) (U (cy m (j + 1))) (V (cy m (j + 1))) cx cy'
      have hn : nE U V m cx cy' j = nS (U j) (V j) (U (cy m (j + 1))) (V (cy m (j + 1))) cx cy' := rfl
      rw [hn] at hm
      generalize hZ : nS (U j) (V j) (U (cy m (j + 1))) (V (cy m (j + 1))) cx cy' = Z at *
      have cv : cvx2 (U j) (V j) (U (cy m (j + 1))) (V (cy m (j + 1))) (U c) (V c) 1 := by
        rcases ho with ⟨h1, h2, -⟩ | ⟨h1, h2, -⟩
        · exact ⟨1, 0, by omega, by omega, by omega, by omega, by omega⟩
        · exact ⟨0, 1, by omega, by omega, by omega, by omega, by omega⟩
      obtain ⟨u1, u2⟩ := near_uniq n3 n4 cv (by decide)
      have hm' : d2 cx cy' (U c) (V c) 1 * (Z.2.2 * Z.2.2) ≤ d2 cx cy' Z.1 Z.2.1 Z.2.2 * (1 * 1) := hm
      obtain ⟨g1, g2⟩ := u2 hm'
      have hO : hpt (U o) (V o) cx cy' Z.1 Z.2.1 Z.2.2 := by
        rcases ho with ⟨-, -, h3⟩ | ⟨-, -, h3⟩
        · rw [h3]; exact n4
        · rw [h3]; exact n3
      unfold hpt at hO
      rw [Int.mul_one] at g1 g2
      rw [← g1, ← g2] at hO
      refine div_ge (a := Z.2.2 * Z.2.2) (Int.mul_pos (by omega) (by omega)) ?_
      have e : Z.2.2 * Z.2.2 * ((U c - cx) * (U o - U c) + (V c - cy') * (V o - V c)) = (U o * Z.2.2 - U c * Z.2.2) * (U c * Z.2.2 - cx * Z.2.2) + (V o * Z.2.2 - V c * Z.2.2) * (V c * Z.2.2 - cy' * Z.2.2) := by grind
      rw [e]; exact hO
    have hvi' := hvi
    unfold tE at hvi'
    rw [Int.mul_one, Int.mul_one] at hvi'
    rcases nS_cases (U i) (V i) (U (cy m (i + 1))) (V (cy m (i + 1))) cx cy' with ⟨c1, e⟩ | ⟨c1, c2, e⟩ | ⟨c1, c2, e⟩
    · have hz : nE U V m cx cy' i = (U i, V i, 1) := e
      rw [hz]
      have hp := pv_lt hi
      refine corner i hi ?_ ?_
      · by_cases w : tE U V m cx cy' 1 (pv m i) < 0
        · exact seen (pv m i) i (pv m i) hp w hz (Or.inr ⟨by rw [cy_pv hi], by rw [cy_pv hi], rfl⟩)
        · have t := turn_at hG h3 hp
          unfold tE at w
          rw [cy_pv hi] at t w
          rw [Int.mul_one, Int.mul_one] at w
          generalize U i = ax at *
          generalize V i = ay at *
          generalize U (pv m i) = zx at *
          generalize V (pv m i) = zy at *
          generalize U (cy m (i + 1)) = bx at *
          generalize V (cy m (i + 1)) = b_y at *
          have hD := sqn (cx - ax)
          have hD2 := sqn (cy' - ay)
          have k : -((bx - ax) * (cy' - ay) - (b_y - ay) * (cx - ax)) * ((ax - cx) * (zx - ax) + (ay - cy') * (zy - ay)) = ((ax - zx) * (b_y - ay) - (ay - zy) * (bx - ax)) * ((cx - ax) * (cx - ax) + (cy' - ay) * (cy' - ay)) - ((ax - zx) * (cy' - zy) - (ay - zy) * (cx - zx)) * ((bx - ax) * (cx - ax) + (b_y - ay) * (cy' - ay)) := by grind
          refine div_ge (a := -((bx - ax) * (cy' - ay) - (b_y - ay) * (cx - ax))) (by omega) ?_
          rw [k]
          have k1 := Int.mul_nonneg (show 0 ≤ (ax - zx) * (b_y - ay) - (ay - zy) * (bx - ax) by omega) (show 0 ≤ (cx - ax) * (cx - ax) + (cy' - ay) * (cy' - ay) by omega)
          have k2 := mpn (show 0 ≤ (ax - zx) * (cy' - zy) - (ay - zy) * (cx - zx) by omega) c1
          omega
      · have : (U i - cx) * (U (cy m (i + 1)) - U i) + (V i - cy') * (V (cy m (i + 1)) - V i) = -((U (cy m (i + 1)) - U i) * (cx - U i) + (V (cy m (i + 1)) - V i) * (cy' - V i)) := by grind
        omega
    · have hz : nE U V m cx cy' i = (U (cy m (i + 1)), V (cy m (i + 1)), 1) := e
      rw [hz]
      have hpi : pv m (cy m (i + 1)) = i := by
        unfold pv cy
        by_cases c : i + 1 < m
        · rw [if_pos c, if_neg (by omega)]; omega
        · rw [if_neg c, if_pos rfl]; omega
      refine corner (cy m (i + 1)) hi1 ?_ ?_
      · rw [hpi]
        have : (U (cy m (i + 1)) - cx) * (U i - U (cy m (i + 1))) + (V (cy m (i + 1)) - cy') * (V i - V (cy m (i + 1))) = (U (cy m (i + 1)) - U i) * (cx - U i) + (V (cy m (i + 1)) - V i) * (cy' - V i) - ((U (cy m (i + 1)) - U i) * (U (cy m (i + 1)) - U i) + (V (cy m (i + 1)) - V i) * (V (cy m (i + 1)) - V i)) := by grind
        omega
      · by_cases w : tE U V m cx cy' 1 (cy m (i + 1)) < 0
        · exact seen (cy m (i + 1)) (cy m (i + 1)) (cy m (cy m (i + 1) + 1)) hi1 w hz (Or.inl ⟨rfl, rfl, rfl⟩)
        · have t := turn_at hG h3 hi
          unfold tE at w
          rw [Int.mul_one, Int.mul_one] at w
          generalize U i = ax at *
          generalize V i = ay at *
          generalize U (cy m (cy m (i + 1) + 1)) = zx at *
          generalize V (cy m (cy m (i + 1) + 1)) = zy at *
          generalize U (cy m (i + 1)) = bx at *
          generalize V (cy m (i + 1)) = b_y at *
          have hD := sqn (cx - bx)
          have hD2 := sqn (cy' - b_y)
          have k : -((bx - ax) * (cy' - ay) - (b_y - ay) * (cx - ax)) * ((bx - cx) * (zx - bx) + (b_y - cy') * (zy - b_y)) = ((bx - ax) * (zy - b_y) - (b_y - ay) * (zx - bx)) * ((cx - bx) * (cx - bx) + (cy' - b_y) * (cy' - b_y)) + ((zx - bx) * (cy' - b_y) - (zy - b_y) * (cx - bx)) * (((bx - ax) * (cx - ax) + (b_y - ay) * (cy' - ay)) - ((bx - ax) * (bx - ax) + (b_y - ay) * (b_y - ay))) := by grind
          refine div_ge (a := -((bx - ax) * (cy' - ay) - (b_y - ay) * (cx - ax))) (by omega) ?_
          rw [k]
          have k1 := Int.mul_nonneg (show 0 ≤ (bx - ax) * (zy - b_y) - (b_y - ay) * (zx - bx) by omega) (show 0 ≤ (cx - bx) * (cx - bx) + (cy' - b_y) * (cy' - b_y) by omega)
          have k2 := Int.mul_nonneg (show 0 ≤ (zx - bx) * (cy' - b_y) - (zy - b_y) * (cx - bx) by omega) (show 0 ≤ ((bx - ax) * (cx - ax) + (b_y - ay) * (cy' - ay)) - ((bx - ax) * (bx - ax) + (b_y - ay) * (b_y - ay)) by omega)
          omega
    · have hz : nE U V m cx cy' i = _ := e
      rw [hz]
      intro k hk
      have hk2 := (hC k hk).1 i hi
      unfold tE at hk2
      rw [Int.mul_one, Int.mul_one] at hk2
      unfold hpt
      dsimp only
      generalize U i = ax at *
      generalize V i = ay at *
      generalize U k = zx at *
      generalize V k = zy at *
      generalize U (cy m (i + 1)) = bx at *
      generalize V (cy m (i + 1)) = b_y at *
      have k1 := Int.mul_nonneg hk2 (show 0 ≤ -((bx - ax) * (cy' - ay) - (b_y - ay) * (cx - ax)) by omega)
      have hf : 0 < (bx - ax) * (bx - ax) + (b_y - ay) * (b_y - ay) := by omega
      have k2 := Int.mul_nonneg (show 0 ≤ (bx - ax) * (bx - ax) + (b_y - ay) * (b_y - ay) by omega) k1
      refine Int.le_trans k2 (Int.le_of_eq ?_)
      have f1 : zx = (zx - ax) + ax := by omega
      have f2 : zy = (zy - ay) + ay := by omega
      have e1 : cx = (cx - ax) + ax := by omega
      have e2 : cy' = (cy' - ay) + ay := by omega
      generalize hE : bx - ax = ex at *
      generalize hF : b_y - ay = ey at *
      generalize hG1 : cx - ax = gx at *
      generalize hH : cy' - ay = gy at *
      generalize hI : zx - ax = ix at *
      generalize hJ : zy - ay = iy at *
      rw [e1, e2, f1, f2]
      grind
  · refine ⟨0, h0, fun _ => rfl, ?_⟩
    have hcase : m = 1 ∨ m = 2 := by omega
    obtain ⟨n1, n2, n3, n4⟩ := nS_ok (U 0) (V 0) (U (cy m (0 + 1))) (V (cy m (0 + 1))) cx cy'
    intro k hk
    rcases hcase with rfl | rfl
    · have : k = 0 := by omega
      subst this; exact n3
    · have : k = 0 ∨ k = 1 := by omega
      rcases this with rfl | rfl
      · exact n3
      · exact n4
