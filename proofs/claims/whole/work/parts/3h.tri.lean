--@ needs 3f.depth
/-! three points hold a place -/
def tHb (ax ay bx b_y cx c_y : Int) : Bool := decide ((ax * b_y - ay * bx = 0 ∧ bx * c_y - b_y * cx = 0 ∧ cx * ay - c_y * ax = 0 ∧ (ax * bx + ay * b_y ≤ 0 ∨ bx * cx + b_y * c_y ≤ 0 ∨ cx * ax + c_y * ay ≤ 0)) ∨ (¬ (ax * b_y - ay * bx = 0 ∧ bx * c_y - b_y * cx = 0 ∧ cx * ay - c_y * ax = 0) ∧ ((0 ≤ ax * b_y - ay * bx ∧ 0 ≤ bx * c_y - b_y * cx ∧ 0 ≤ cx * ay - c_y * ax) ∨ (ax * b_y - ay * bx ≤ 0 ∧ bx * c_y - b_y * cx ≤ 0 ∧ cx * ay - c_y * ax ≤ 0))))
def wts (ax ay bx b_y cx c_y : Int) : Prop := ∃ α β γ : Int, 0 ≤ α ∧ 0 ≤ β ∧ 0 ≤ γ ∧ 0 < α + β + γ ∧ α * ax + β * bx + γ * cx = 0 ∧ α * ay + β * b_y + γ * c_y = 0
theorem two_w {ax ay bx b_y : Int} (h : ax * b_y - ay * bx = 0) (hd : ax * bx + ay * b_y ≤ 0) : ∃ α β : Int, 0 ≤ α ∧ 0 ≤ β ∧ 0 < α + β ∧ α * ax + β * bx = 0 ∧ α * ay + β * b_y = 0 := by
  by_cases hb : bx = 0 ∧ b_y = 0
  · exact ⟨0, 1, by omega, by omega, by omega, by rw [hb.1]; simp, by rw [hb.2]; simp⟩
  · have := ssqp hb
    exact ⟨bx * bx + b_y * b_y, -(ax * bx + ay * b_y), by omega, by omega, by omega, by grind, by grind⟩
theorem tH_wts {ax ay bx b_y cx c_y : Int} (h : tHb ax ay bx b_y cx c_y = true) : wts ax ay bx b_y cx c_y := by
  unfold tHb at h
  rcases of_decide_eq_true h with ⟨h1, h2, h3, h4⟩ | ⟨h1, h2⟩
  · rcases h4 with h4 | h4 | h4
    · obtain ⟨α, β, a1, a2, a3, a4, a5⟩ := two_w h1 h4
      exact ⟨α, β, 0, a1, a2, by omega, by omega, by omega, by omega⟩
    · obtain ⟨α, β, a1, a2, a3, a4, a5⟩ := two_w h2 h4
      exact ⟨0, α, β, by omega, a1, a2, by omega, by omega, by omega⟩
    · obtain ⟨α, β, a1, a2, a3, a4, a5⟩ := two_w h3 h4
      exact ⟨β, 0, α, a2, by omega, a1, by omega, by omega, by omega⟩
  · rcases h2 with ⟨h2, h3, h4⟩ | ⟨h2, h3, h4⟩
    · exact ⟨bx * c_y - b_y * cx, cx * ay - c_y * ax, ax * b_y - ay * bx, h3, h4, h2, by omega, by grind, by grind⟩
    · exact ⟨-(bx * c_y - b_y * cx), -(cx * ay - c_y * ax), -(ax * b_y - ay * bx), by omega, by omega, by omega, by omega, by grind, by grind⟩
def sepd (ax ay bx b_y cx c_y : Int) : Prop := ∃ p q : Int, 0 < p * ax + q * ay ∧ 0 < p * bx + q * b_y ∧ 0 < p * cx + q * c_y
/-- the first and the third lie strictly on one side of the second -/
theorem pivot {ax ay bx b_y cx c_y : Int} (h1 : 0 < ax * b_y - ay * bx) (h2 : bx * c_y - b_y * cx < 0) : sepd ax ay bx b_y cx c_y := by
  have hb : ¬ (bx = 0 ∧ b_y = 0) := by
    rintro ⟨e1, e2⟩
    rw [e1, e2] at h1
    omega
  have hbb := ssqp hb
  have hM : ∃ M : Int, 0 < M ∧ -(bx * ax + b_y * ay) < M ∧ -(bx * cx + b_y * c_y) < M := ⟨(bx * ax + b_y * ay).natAbs + (bx * cx + b_y * c_y).natAbs + 1, by omega, by omega, by omega⟩
  obtain ⟨M, m0, m1, m2⟩ := hM
  refine ⟨M * b_y + bx, -(M * bx) + b_y, ?_, ?_, ?_⟩
  · have e : (M * b_y + bx) * ax + (-(M * bx) + b_y) * ay = M * (ax * b_y - ay * bx) + (bx * ax + b_y * ay) := by grind
    have : M * 1 ≤ M * (ax * b_y - ay * bx) := Int.mul_le_mul_of_nonneg_left (by omega) (by omega)
    rw [e]; omega
  · have e : (M * b_y + bx) * bx + (-(M * bx) + b_y) * b_y = bx * bx + b_y * b_y := by grind
    rw [e]; exact hbb
  · have e : (M * b_y + bx) * cx + (-(M * bx) + b_y) * c_y = M * (-(bx * c_y - b_y * cx)) + (bx * cx + b_y * c_y) := by grind
    have : M * 1 ≤ M * (-(bx * c_y - b_y * cx)) := Int.mul_le_mul_of_nonneg_left (by omega) (by omega)
    rw [e]; omega
theorem sep_rot {ax ay bx b_y cx c_y : Int} (h : sepd ax ay bx b_y cx c_y) : sepd bx b_y cx c_y ax ay := by
  obtain ⟨p, q, h1, h2, h3⟩ := h
  exact ⟨p, q, h2, h3, h1⟩
theorem sep_rev {ax ay bx b_y cx c_y : Int} (h : sepd ax ay bx b_y cx c_y) : sepd cx c_y bx b_y ax ay := by
  obtain ⟨p, q, h1, h2, h3⟩ := h
  exact ⟨p, q, h3, h2, h1⟩
theorem pivot' {ax ay bx b_y cx c_y : Int} (h1 : ax * b_y - ay * bx < 0) (h2 : 0 < bx * c_y - b_y * cx) : sepd ax ay bx b_y cx c_y := by
  obtain ⟨p, q, r1, r2, r3⟩ := pivot (ax := ay) (ay := ax) (bx := b_y) (b_y := bx) (cx := c_y) (c_y := cx) (by omega) (by omega)
  exact ⟨q, p, by omega, by omega, by omega⟩
theorem tH_sep {ax ay bx b_y cx c_y : Int} (h : ¬ tHb ax ay bx b_y cx c_y = true) : sepd ax ay bx b_y cx c_y := by
  unfold tHb at h
  rw [decide_eq_true_eq] at h
  by_cases z : ax * b_y - ay * bx = 0 ∧ bx * c_y - b_y * cx = 0 ∧ cx * ay - c_y * ax = 0
  · have n1 : ¬ (ax * bx + ay * b_y ≤ 0) := fun q => h (Or.inl ⟨z.1, z.2.1, z.2.2, Or.inl q⟩)
    have n3 : ¬ (cx * ax + c_y * ay ≤ 0) := fun q => h (Or.inl ⟨z.1, z.2.1, z.2.2, Or.inr (Or.inr q)⟩)
    refine ⟨ax, ay, ssqp ?_, by omega, by grind⟩
    rintro ⟨e1, e2⟩
    rw [e1, e2] at n1
    omega
  · have n1 : ¬ (0 ≤ ax * b_y - ay * bx ∧ 0 ≤ bx * c_y - b_y * cx ∧ 0 ≤ cx * ay - c_y * ax) := fun q => h (Or.inr ⟨z, Or.inl q⟩)
    have n2 : ¬ (ax * b_y - ay * bx ≤ 0 ∧ bx * c_y - b_y * cx ≤ 0 ∧ cx * ay - c_y * ax ≤ 0) := fun q => h (Or.inr ⟨z, Or.inr q⟩)
    by_cases u1 : 0 < ax * b_y - ay * bx
    · by_cases u2 : bx * c_y - b_y * cx < 0
      · exact pivot u1 u2
      · exact sep_rot (pivot' (ax := cx) (ay := c_y) (bx := ax) (b_y := ay) (cx := bx) (c_y := b_y) (by omega) u1)
    · by_cases u2 : 0 < bx * c_y - b_y * cx
      · by_cases u3 : ax * b_y - ay * bx < 0
        · exact pivot' u3 u2
        · exact sep_rot (sep_rot (pivot (ax := bx) (ay := b_y) (bx := cx) (b_y := c_y) (cx := ax) (c_y := ay) u2 (by omega)))
      · by_cases u3 : ax * b_y - ay * bx < 0
        · exact sep_rot (pivot (ax := cx) (ay := c_y) (bx := ax) (b_y := ay) (cx := bx) (c_y := b_y) (by omega) u3)
        · exact sep_rot (sep_rot (pivot' (ax := bx) (ay := b_y) (bx := cx) (b_y := c_y) (cx := ax) (c_y := ay) (by omega) (by omega)))
/-- mixtures of places that a hull has, it has -/
theorem seg_iff {ex ey wx wy L : Int} (he : ¬ (ex = 0 ∧ ey = 0)) (hL : 0 ≤ L) (hc : ex * wy - ey * wx = 0) : (-wx) * (ex * L - wx) + (-wy) * (ey * L - wy) ≤ 0 ↔ (0 ≤ ex * wx + ey * wy ∧ ex * wx + ey * wy ≤ (ex * ex + ey * ey) * L) := by
  have hp := ssqp he
  have k : (ex * ex + ey * ey) * ((-wx) * (ex * L - wx) + (-wy) * (ey * L - wy)) = (ex * wx + ey * wy) * ((ex * wx + ey * wy) - (ex * ex + ey * ey) * L) := by
    have k2 : (ex * ex + ey * ey) * (wx * wx + wy * wy) = (ex * wx + ey * wy) * (ex * wx + ey * wy) + (ex * wy - ey * wx) * (ex * wy - ey * wx) := by grind
    rw [hc] at k2
    grind
  have hpL : 0 ≤ (ex * ex + ey * ey) * L := Int.mul_nonneg (by omega) hL
  generalize ex * wx + ey * wy = d at *
  generalize (ex * ex + ey * ey) * L = e at *
  constructor
  · intro h
    have h2 : d * (d - e) ≤ 0 := by rw [← k]; exact mpn (by omega) h
    constructor
    · rcases Int.lt_or_le d 0 with q | q
      · have := mnn' q (show d - e < 0 by omega); omega
      · exact q
    · rcases Int.lt_or_le e d with q | q
      · have := Int.mul_pos (show 0 < d by omega) (show 0 < d - e by omega); omega
      · exact q
  · rintro ⟨h1, h2⟩
    have h3 := mpn h1 (show d - e ≤ 0 by omega)
    rw [← k] at h3
    exact div_le hp h3
theorem inH2_iff {U V : Nat → Int} (hd : ¬ (U 0 = U 1 ∧ V 0 = V 1)) {P Q L : Int} (hL : 0 ≤ L) : inH U V 2 P Q L ↔ ((U 1 - U 0) * (Q - V 0 * L) - (V 1 - V 0) * (P - U 0 * L) = 0 ∧ 0 ≤ (U 1 - U 0) * (P - U 0 * L) + (V 1 - V 0) * (Q - V 0 * L) ∧ (U 1 - U 0) * (P - U 0 * L) + (V 1 - V 0) * (Q - V 0 * L) ≤ ((U 1 - U 0) * (U 1 - U 0) + (V 1 - V 0) * (V 1 - V 0)) * L) := by
  have c1 : cy 2 1 = 1 := rfl
  have c2 : cy 2 2 = 0 := rfl
  have t0 : tE U V 2 P Q L 0 = (U 1 - U 0) * (Q - V 0 * L) - (V 1 - V 0) * (P - U 0 * L) := by unfold tE; rfl
  have t1 : tE U V 2 P Q L 1 = -((U 1 - U 0) * (Q - V 0 * L) - (V 1 - V 0) * (P - U 0 * L)) := by
    unfold tE
    rw [show 1 + 1 = 2 from rfl, c2]
    grind
  have hz : (∀ i : Nat, i < 2 → 0 ≤ tE U V 2 P Q L i) ↔ (U 1 - U 0) * (Q - V 0 * L) - (V 1 - V 0) * (P - U 0 * L) = 0 := by
    constructor
    · intro h
      have h0 := h 0 (by omega)
      have h1 := h 1 (by omega)
      rw [t0] at h0
      rw [t1] at h1
      omega
    · intro h i hi
      have : i = 0 ∨ i = 1 := by omega
      rcases this with rfl | rfl
      · rw [t0]; omega
      · rw [t1]; omega
  unfold inH
  rw [hz]
  have hne : ¬ (U 1 - U 0 = 0 ∧ V 1 - V 0 = 0) := fun q => hd ⟨by omega, by omega⟩
  have ed : (U 0 * L - P) * (U (2 - 1) * L - P) + (V 0 * L - Q) * (V (2 - 1) * L - Q) = (-(P - U 0 * L)) * ((U 1 - U 0) * L - (P - U 0 * L)) + (-(Q - V 0 * L)) * ((V 1 - V 0) * L - (Q - V 0 * L)) := by
    show (U 0 * L - P) * (U 1 * L - P) + (V 0 * L - Q) * (V 1 * L - Q) = _
    grind
  constructor
  · rintro ⟨h1, h2⟩
    have h3 := h2 (by omega)
    rw [ed] at h3
    exact ⟨h1, (seg_iff hne hL h1).mp h3⟩
  · rintro ⟨h1, h2⟩
    refine ⟨h1, fun _ => ?_⟩
    rw [ed]
    exact (seg_iff hne hL h1).mpr h2
theorem cv_inH {U V : Nat → Int} {m : Nat} (hG : PG U V m) {ax ay bx b_y cx c_y α β γ k P Q L : Int} (h1 : inH U V m ax ay 1) (h2 : inH U V m bx b_y 1) (h3 : inH U V m cx c_y 1) (hα : 0 ≤ α) (hβ : 0 ≤ β) (hγ : 0 ≤ γ) (hk : 0 < k) (hL : 0 ≤ L) (eP : k * P = α * ax + β * bx + γ * cx) (eQ : k * Q = α * ay + β * b_y + γ * c_y) (eL : k * L = α + β + γ) : inH U V m P Q L := by
  have hm := hG.1
  by_cases m1 : m = 1
  · subst m1
    have e : ∀ {x y : Int}, inH U V 1 x y 1 → x = U 0 ∧ y = V 0 := by
      intro x y h
      have := ssq0 (h.2 (by omega))
      constructor <;> omega
    obtain ⟨rfl, rfl⟩ := e h1
    obtain ⟨rfl, rfl⟩ := e h2
    obtain ⟨rfl, rfl⟩ := e h3
    have p1 : P = U 0 * L := by
      have : k * (P - U 0 * L) = 0 := by grind
      have := div_eq0 hk this; omega
    have p2 : Q = V 0 * L := by
      have : k * (Q - V 0 * L) = 0 := by grind
      have := div_eq0 hk this; omega
    rw [p1, p2]
    refine ⟨fun i hi => ?_, fun _ => ?_⟩
    · have : i = 0 := by omega
      subst this
      unfold tE
      rw [show cy 1 (0 + 1) = 0 from rfl]
      simp
    · show (U 0 * L - U 0 * L) * (U 0 * L - U 0 * L) + (V 0 * L - V 0 * L) * (V 0 * L - V 0 * L) ≤ 0
      simp
  · by_cases m2 : m = 2
    · subst m2
      have hd := hG.2.2 rfl
      rw [inH2_iff hd (by omega)] at h1 h2 h3
      rw [inH2_iff hd hL]
      obtain ⟨a1, a2, a3⟩ := h1
      obtain ⟨b1, b2, b3⟩ := h2
      obtain ⟨c1, c2, c3⟩ := h3
      generalize U 1 - U 0 = ex at *
      generalize V 1 - V 0 = ey at *
      generalize U 0 = u at *
      generalize V 0 = v at *
      refine ⟨?_, ?_, ?_⟩
      · have : k * (ex * (Q - v * L) - ey * (P - u * L)) = 0 := by
          have e : k * (ex * (Q - v * L) - ey * (P - u * L)) = α * (ex * (ay - v * 1) - ey * (ax - u * 1)) + β * (ex * (b_y - v * 1) - ey * (bx - u * 1)) + γ * (ex * (c_y - v * 1) - ey * (cx - u * 1)) := by grind
          rw [e, a1, b1, c1]; omega
        exact div_eq0 hk this
      · have e : k * (ex * (P - u * L) + ey * (Q - v * L)) = α * (ex * (ax - u * 1) + ey * (ay - v * 1)) + β * (ex * (bx - u * 1) + ey * (b_y - v * 1)) + γ * (ex * (cx - u * 1) + ey * (c_y - v * 1)) := by grind
        have q1 := Int.mul_nonneg hα a2
        have q2 := Int.mul_nonneg hβ b2
        have q3 := Int.mul_nonneg hγ c2
        exact div_ge hk (by rw [e]; omega)
      · have e : k * (ex * (P - u * L) + ey * (Q - v * L) - (ex * ex + ey * ey) * L) = α * (ex * (ax - u * 1) + ey * (ay - v * 1) - (ex * ex + ey * ey) * 1) + β * (ex * (bx - u * 1) + ey * (b_y - v * 1) - (ex * ex + ey * ey) * 1) + γ * (ex * (cx - u * 1) + ey * (c_y - v * 1) - (ex * ex + ey * ey) * 1) := by grind
        have q1 := mpn hα (show ex * (ax - u * 1) + ey * (ay - v * 1) - (ex * ex + ey * ey) * 1 ≤ 0 by omega)
        have q2 := mpn hβ (show ex * (bx - u * 1) + ey * (b_y - v * 1) - (ex * ex + ey * ey) * 1 ≤ 0 by omega)
        have q3 := mpn hγ (show ex * (cx - u * 1) + ey * (c_y - v * 1) - (ex * ex + ey * ey) * 1 ≤ 0 by omega)
        have := div_le hk (b := ex * (P - u * L) + ey * (Q - v * L) - (ex * ex + ey * ey) * L) (by rw [e]; omega)
        omega
    · refine ⟨fun i hi => ?_, fun q => by omega⟩
      have a1 := h1.1 i hi
      have b1 := h2.1 i hi
      have c1 := h3.1 i hi
      unfold tE at *
      generalize U (cy m (i + 1)) - U i = ex at *
      generalize V (cy m (i + 1)) - V i = ey at *
      generalize U i = u at *
      generalize V i = v at *
      have e : k * (ex * (Q - v * L) - ey * (P - u * L)) = α * (ex * (ay - v * 1) - ey * (ax - u * 1)) + β * (ex * (b_y - v * 1) - ey * (bx - u * 1)) + γ * (ex * (c_y - v * 1) - ey * (cx - u * 1)) := by grind
      have q1 := Int.mul_nonneg hα a1
      have q2 := Int.mul_nonneg hβ b1
      have q3 := Int.mul_nonneg hγ c1
      exact div_ge hk (by rw [e]; omega)
/-- three as a set -/
def t3 (a b c j : Nat) : Bool := decide (j = a ∨ j = b ∨ j = c)
theorem one_shl {a : Nat} (ha : a < 24) {i : Nat} (hi : i < 32) : bt ((1 : Int32) <<< (nI a &&& 31)) i = decide (i = a) := by
  rw [b_shl a (by omega) 1 hi, b_1]
  rw [← Bool.decide_and, decide_eq_decide]
  omega
theorem three_bP (K : Nat) {n : Nat} (hn : n ≤ 24) {a b c : Nat} (ha : a < n) (hb : b < n) (hc : c < n) : fX12_three K (nI a) (nI b) (nI c) = some (bP (t3 a b c) n) := by
  unfold fX12_three
  congr 1
  refine b_ext fun i hi => ?_
  rw [b_or, b_or, one_shl (by omega) hi, one_shl (by omega) hi, one_shl (by omega) hi, bP_bt _ hn hi]
  unfold t3
  rw [← Bool.decide_or, ← Bool.decide_or, ← Bool.decide_and, decide_eq_decide]
  omega
theorem three_holds {n : Nat} {x y : Nat → Int32} {X Y : Nat → Int} (hP : Pts n x y X Y) {a b c : Nat} (ha : a < n) (hb : b < n) (hc : c < n) (p q : Int) : inH (hX X Y (bP (t3 a b c) n) n) (hY X Y (bP (t3 a b c) n) n) (hN X Y (bP (t3 a b c) n) n) p q 1 ↔ tHb (X a - p) (Y a - q) (X b - p) (Y b - q) (X c - p) (Y c - q) = true := by
  have hn := hP.1
  have st : isSt n (bP (t3 a b c) n) := isSt_of_bP hn ha (decide_eq_true (Or.inl rfl))
  obtain ⟨hG, hin, hcor, -⟩ := hull_pg hP st
  constructor
  · intro h
    refine Classical.byContradiction (fun ht => ?_)
    obtain ⟨α, β, s1, s2, s3⟩ := tH_sep ht
    have := lin_min hG (by omega) h (α := α) (β := β) (μ := α * p + β * q + 1) (fun i hi => by
      obtain ⟨j, hj, hbj, e1, e2⟩ := hcor i hi
      rw [e1, e2]
      have hj2 : j = a ∨ j = b ∨ j = c := of_decide_eq_true ((bP_bitS _ hn hj).mp hbj)
      rcases hj2 with rfl | rfl | rfl <;> grind)
    omega
  · intro h
    obtain ⟨α, β, γ, w1, w2, w3, w4, w5, w6⟩ := tH_wts h
    have ia := hin a ha ((bP_bitS _ hn ha).mpr (decide_eq_true (Or.inl rfl)))
    have ib := hin b hb ((bP_bitS _ hn hb).mpr (decide_eq_true (Or.inr (Or.inl rfl))))
    have ic := hin c hc ((bP_bitS _ hn hc).mpr (decide_eq_true (Or.inr (Or.inr rfl))))
    exact cv_inH hG ia ib ic w1 w2 w3 w4 (by omega) (by grind) (by grind) (by omega)
/-- the class's test -/
theorem triC (K : Nat) {n : Nat} {x y : Nat → Int32} {X Y : Nat → Int} (h : Pts n x y X Y) {a b c : Nat} (ha : a < n) (hb : b < n) (hc : c < n) {p q : Int} (hp : -20 ≤ p ∧ p ≤ 20) (hq : -20 ≤ q ∧ q ≤ 20) : fX11_triangleHolds K x y (nI a) (nI b) (nI c) (iI p) (iI q) = some (if tHb (X a - p) (Y a - q) (X b - p) (Y b - q) (X c - p) (Y c - q) = true then 1 else 0) := by
  have hn := h.1
  obtain ⟨a1, a2, -⟩ := h.2 a ha
  obtain ⟨b1, b2, -⟩ := h.2 b hb
  obtain ⟨c1, c2, -⟩ := h.2 c hc
  have oa := off_bd h hp hq ha
  have ob := off_bd h hp hq hb
  have oc := off_bd h hp hq hc
  have ab := cd_bd oa ob
  have bc := cd_bd ob oc
  have ca := cd_bd oc oa
  unfold crs dts off at ab bc ca
  unfold fX11_triangleHolds tHb
  simp only [xl, jn, gd_t (inb_nI (show a < 24 by omega) (by decide)), nI_clamp (show a < 2 ^ 31 by omega), gd_t (inb_nI (show b < 24 by omega) (by decide)), nI_clamp (show b < 2 ^ 31 by omega), gd_t (inb_nI (show c < 24 by omega) (by decide)), nI_clamp (show c < 2 ^ 31 by omega), a1, a2, b1, b2, c1, c2, iI_sub, iI_mul, iI_add]
  generalize X a - p = ax at *
  generalize Y a - q = ay at *
  generalize X b - p = bx at *
  generalize Y b - q = b_y at *
  generalize X c - p = cx at *
  generalize Y c - q = c_y at *
  have eca : cx * ay - c_y * ax = cx * ay - c_y * ax := rfl
  generalize ax * b_y - ay * bx = u at *
  generalize bx * c_y - b_y * cx = v at *
  generalize cx * ay - c_y * ax = w at *
  generalize ax * bx + ay * b_y = r at *
  generalize bx * cx + b_y * c_y = s at *
  generalize cx * ax + c_y * ay = t at *
  have lt0 : ∀ z : Int, -3200 ≤ z ∧ z ≤ 3200 → ((iI z < 0) ↔ z < 0) := fun z hz => iI_lt (b := 0) ⟨by omega, by omega⟩ ⟨by omega, by omega⟩
  have gt0 : ∀ z : Int, -3200 ≤ z ∧ z ≤ 3200 → ((0 < iI z) ↔ 0 < z) := fun z hz => iI_lt (a := 0) ⟨by omega, by omega⟩ ⟨by omega, by omega⟩
  have eq0 : ∀ z : Int, -3200 ≤ z ∧ z ≤ 3200 → ((iI z = 0) ↔ z = 0) := fun z hz => iI_eq (b := 0) ⟨by omega, by omega⟩ ⟨by omega, by omega⟩
  simp only [lt0 u ab.1, lt0 v bc.1, gt0 u ab.1, gt0 v bc.1, gt0 w ca.1, eq0 u ab.1, eq0 v bc.1, eq0 w ca.1, i_ge0 (show s32 w from ⟨by omega, by omega⟩), i_le0 (show s32 r from ⟨by omega, by omega⟩), i_le0 (show s32 s from ⟨by omega, by omega⟩), gt0 t ca.2, decide_eq_true_eq]
  by_cases z1 : u = 0
  · by_cases z2 : v = 0
    · by_cases z3 : w = 0
      · rw [if_pos z1, if_pos z2, if_pos z3]
        by_cases q1 : r ≤ 0
        · rw [if_pos q1, if_pos (by omega)]
        · rw [if_neg q1]
          by_cases q2 : s ≤ 0
          · rw [if_pos q2, if_pos (by omega)]
          · rw [if_neg q2]
            by_cases q3 : 0 < t
            · rw [if_pos q3, if_neg (by omega)]
            · rw [if_neg q3, if_pos (by omega)]
      · rw [if_pos z1, if_pos z2, if_neg z3]
        (repeat' split) <;> first | rfl | omega
    · rw [if_pos z1, if_neg z2]
      (repeat' split) <;> first | rfl | omega
  · rw [if_neg z1]
    (repeat' split) <;> first | rfl | omega
theorem holds3 (K : Nat) (hK : 4000 ≤ K) {n : Nat} {px py : Nat → Int32} {X Y : Nat → Int} (h : Pts n px py X Y) {a b c : Nat} (ha : a < n) (hb : b < n) (hc : c < n) {p q : Int} (hp : -20 ≤ p ∧ p ≤ 20) (hq : -20 ≤ q ∧ q ≤ 20) (rm : Int32) (cor cors row : Nat → Int32) : ∃ rm' cor' cors' row', fX12_holdsSet K (nI n) rm px py cor cors row (bP (t3 a b c) n) (iI p) (iI q) = some (if tHb (X a - p) (Y a - q) (X b - p) (Y b - q) (X c - p) (Y c - q) = true then 1 else 0, rm', cor', cors', row') := by
  have st : isSt n (bP (t3 a b c) n) := isSt_of_bP h.1 ha (decide_eq_true (Or.inl rfl))
  have e1 : (iI p).toInt = p := toInt_iI (by omega) (by omega)
  have e2 : (iI q).toInt = q := toInt_iI (by omega) (by omega)
  obtain ⟨rm', cor', cors', row', f⟩ := holdsM K hK h st (a := iI p) (b := iI q) ⟨by rw [e1]; exact hp, by rw [e2]; exact hq⟩ rm cor cors row
  rw [e1, e2] at f
  refine ⟨rm', cor', cors', row', ?_⟩
  rw [f]
  have k1 := sdv_in (hX X Y (bP (t3 a b c) n) n) (hY X Y (bP (t3 a b c) n) n) (hN X Y (bP (t3 a b c) n) n) p q 1
  have k2 := three_holds h ha hb hc p q
  by_cases w : tHb (X a - p) (Y a - q) (X b - p) (Y b - q) (X c - p) (Y c - q) = true
  · rw [if_pos w, if_neg (fun s => k1.mp s (k2.mpr w))]
  · rw [if_neg w, if_pos (k1.mpr (fun s => w (k2.mp s)))]
