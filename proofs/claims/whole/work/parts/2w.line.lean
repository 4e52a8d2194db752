--@ needs 2a.num 2b.ev1 2d.gcd 2e.row 2f.row2 2g.bits 2h.hull 2i.hull2 2j.hull3 2k.hull4 2l.side 2m.side2 2n.hulls 2o.chain 2p.poly 2q.pg 2r.near 2s.red 2t.near2 2u.near3 2v.near4
theorem jminl_j {a b : Int} (ha : s64 a) (hb : s64 b) : jminl (jJ a) (jJ b) = jJ (if b < a then b else a) := by
  unfold jminl
  simp only [jJ_lt hb ha]
  split <;> rfl
theorem lstC (K : Nat) {gx gy : Nat → Int32} {U V : Nat → Int} {m : Nat} (hm : m < 48) (h : hulA gx gy U V m) (hU : okU U V m) {a b : Int} (ha : -1000000000 ≤ a ∧ a ≤ 1000000000) (hb : -1000000000 ≤ b ∧ b ≤ 1000000000) : ∀ (fu i : Nat) (μ : Int), 1 ≤ i → i ≤ m → m - i < fu → (∃ k, k < i ∧ μ = a * U k + b * V k) → (∀ k, k < i → μ ≤ a * U k + b * V k) → ∃ μ', fX2_leastAlong_L24 K (jJ a) (jJ b) (nI m) gx gy fu (jJ μ) (nI i) = some (jJ μ') ∧ (∃ k, k < m ∧ μ' = a * U k + b * V k) ∧ ∀ k, k < m → μ' ≤ a * U k + b * V k := by
  have rng : ∀ k, k < m → -40000000000 ≤ a * U k + b * V k ∧ a * U k + b * V k ≤ 40000000000 := by
    intro k hk
    obtain ⟨u1, u2⟩ := hU k hk
    have m1 := mulB (u := a) (v := U k) (a := 1000000000) (b := 20) (by omega) (by omega)
    have m2 := mulB (u := b) (v := V k) (a := 1000000000) (b := 20) (by omega) (by omega)
    omega
  intro fu
  induction fu with
  | zero => intro i μ h1 h2 h3; omega
  | succ fu ih =>
    intro i μ h1 h2 h3 hex hall
    rw [fX2_leastAlong_L24]
    by_cases c : i = m
    · subst c
      rw [if_pos (nI_le (Nat.le_refl i) (by omega))]
      exact ⟨μ, rfl, hex, hall⟩
    · have him : i < m := by omega
      rw [if_neg (nI_ge him (by omega))]
      obtain ⟨a1, a2⟩ := h i (by omega)
      have ci : cy m i = i := if_pos him
      rw [ci] at a1 a2
      obtain ⟨u1, u2⟩ := hU i him
      obtain ⟨k0, hk0, e0⟩ := hex
      have r1 := rng i him
      have r2 := rng k0 (by omega)
      simp only [nI_1, gd_t (inb_nI (show i < 48 by omega) (by decide)), nI_clamp (show i < 2 ^ 31 by omega), a1, a2, xl]
      rw [iI_long (show s32 (U i) from ⟨by omega, by omega⟩), iI_long (show s32 (V i) from ⟨by omega, by omega⟩), jJ_mul, jJ_mul, jJ_add, jminl_j ⟨by omega, by omega⟩ ⟨by omega, by omega⟩]
      refine ih (i + 1) _ (by omega) (by omega) (by omega) ?_ ?_
      · by_cases z : a * U i + b * V i < μ
        · rw [if_pos z]; exact ⟨i, by omega, rfl⟩
        · rw [if_neg z]; exact ⟨k0, by omega, e0⟩
      · intro k hk
        by_cases z : a * U i + b * V i < μ
        · rw [if_pos z]
          by_cases w : k = i
          · subst w; omega
          · have := hall k (by omega); omega
        · rw [if_neg z]
          by_cases w : k = i
          · subst w; omega
          · exact hall k (by omega)
theorem leastC (K : Nat) (hK : 4000 ≤ K) {gx gy : Nat → Int32} {U V : Nat → Int} {m : Nat} (h0 : 0 < m) (hm : m < 48) (h : hulA gx gy U V m) (hU : okU U V m) {a b : Int} (ha : -1000000000 ≤ a ∧ a ≤ 1000000000) (hb : -1000000000 ≤ b ∧ b ≤ 1000000000) : ∃ μ, fX2_leastAlong K (nI m) gx gy (jJ a) (jJ b) = some (jJ μ) ∧ (∃ k, k < m ∧ μ = a * U k + b * V k) ∧ ∀ k, k < m → μ ≤ a * U k + b * V k := by
  unfold fX2_leastAlong
  obtain ⟨a1, a2⟩ := h 0 (by omega)
  rw [show cy m 0 = 0 from if_pos h0] at a1 a2
  obtain ⟨u1, u2⟩ := hU 0 h0
  simp only [show (0 : Int32).toNatClampNeg = 0 from rfl, a1, a2, xl]
  rw [iI_long (show s32 (U 0) from ⟨by omega, by omega⟩), iI_long (show s32 (V 0) from ⟨by omega, by omega⟩), jJ_mul, jJ_mul, jJ_add]
  obtain ⟨μ, g1, g2, g3⟩ := lstC K hm h hU ha hb K 1 (a * U 0 + b * V 0) (Nat.le_refl 1) h0 (by omega) ⟨0, by omega, rfl⟩ (fun k hk => by rw [show k = 0 by omega]; exact Int.le_refl _)
  rw [show fX2_leastAlong_L24 K (jJ a) (jJ b) (nI m) gx gy K (jJ (a * U 0 + b * V 0)) 1 = _ from g1]
  exact ⟨μ, rfl, g2, g3⟩
theorem bit_one (S : Int32) (j : Nat) (hj : j < 32) : ((S >>> (nI j &&& 31)) &&& 1) = 1 ↔ bitS S j := by
  constructor
  · intro h z
    rw [h] at z
    exact one_ne z
  · intro h
    have hb := (bitS_bt S j hj).mp h
    apply b_ext
    intro i hi
    rw [b_and, b_1]
    by_cases z : i = 0
    · subst z
      rw [b_sshr j hj S hi, if_pos (by omega), Nat.add_zero, hb]; rfl
    · simp [z]
/-- the least over a set's points -/
def lstS (n : Nat) (S : Int32) (X Y : Nat → Int) (a b μ : Int) : Prop := (∃ j, j < n ∧ bitS S j ∧ μ = a * X j + b * Y j) ∧ ∀ j, j < n → bitS S j → μ ≤ a * X j + b * Y j
theorem lstM (K : Nat) {n : Nat} {px py : Nat → Int32} {X Y : Nat → Int} (hX' : Pts n px py X Y) {S : Int32} {a b : Int} (ha : -1000000000 ≤ a ∧ a ≤ 1000000000) (hb : -1000000000 ≤ b ∧ b ≤ 1000000000) : ∀ (fu i : Nat) (μ : Int), i ≤ n → n - i < fu → -40000000000 ≤ μ ∧ μ ≤ 9223372036854775807 → (∀ j, j < i → bitS S j → μ ≤ a * X j + b * Y j) → ((∃ j, j < i ∧ bitS S j ∧ μ = a * X j + b * Y j) ∨ (μ = 9223372036854775807 ∧ ∃ j, i ≤ j ∧ j < n ∧ bitS S j)) → ∃ μ', fX12_line_L124 K S (jJ a) (jJ b) (nI n) px py fu (jJ μ) (nI i) = some (jJ μ') ∧ lstS n S X Y a b μ' := by
  have rng : ∀ k, k < n → -40000000000 ≤ a * X k + b * Y k ∧ a * X k + b * Y k ≤ 40000000000 := by
    intro k hk
    obtain ⟨-, -, u1, u2⟩ := hX'.2 k hk
    have m1 := mulB (u := a) (v := X k) (a := 1000000000) (b := 20) (by omega) (by omega)
    have m2 := mulB (u := b) (v := Y k) (a := 1000000000) (b := 20) (by omega) (by omega)
    omega
  have hn := hX'.1
  intro fu
  induction fu with
  | zero => intro i μ h1 h2; omega
  | succ fu ih =>
    intro i μ h1 h2 hr hall hex
    rw [fX12_line_L124]
    by_cases c : i = n
    · subst c
      rw [if_pos (nI_le (Nat.le_refl i) (by omega))]
      refine ⟨μ, rfl, ?_, hall⟩
      rcases hex with hex | ⟨-, j, h3, h4, -⟩
      · exact hex
      · omega
    · have him : i < n := by omega
      rw [if_neg (nI_ge him (by omega))]
      obtain ⟨p1, p2, u1, u2⟩ := hX'.2 i him
      have r1 := rng i him
      simp only [jn, nI_1, xl, bit_one S i (by omega)]
      by_cases z : bitS S i
      · rw [if_pos z]
        simp only [gd_t (inb_nI (show i < 24 by omega) (by decide)), nI_clamp (show i < 2 ^ 31 by omega), p1, p2]
        rw [iI_long (show s32 (X i) from ⟨by omega, by omega⟩), iI_long (show s32 (Y i) from ⟨by omega, by omega⟩), jJ_mul, jJ_mul, jJ_add, jminl_j ⟨by omega, by omega⟩ ⟨by omega, by omega⟩]
        refine ih (i + 1) _ (by omega) (by omega) (by split <;> omega) ?_ ?_
        · intro j hj hbj
          by_cases w : j = i
          · subst w; split <;> omega
          · have := hall j (by omega) hbj; split <;> omega
        · left
          by_cases w : a * X i + b * Y i < μ
          · rw [if_pos w]; exact ⟨i, by omega, z, rfl⟩
          · rw [if_neg w]
            rcases hex with ⟨j, h3, h4, h5⟩ | ⟨h3, -⟩
            · exact ⟨j, by omega, h4, h5⟩
            · omega
      · rw [if_neg z]
        refine ih (i + 1) μ (by omega) (by omega) hr ?_ ?_
        · intro j hj hbj
          by_cases w : j = i
          · subst w; exact absurd hbj z
          · exact hall j (by omega) hbj
        · rcases hex with ⟨j, h3, h4, h5⟩ | ⟨h3, j, h4, h5, h6⟩
          · exact Or.inl ⟨j, by omega, h4, h5⟩
          · refine Or.inr ⟨h3, j, ?_, h5, h6⟩
            by_cases w : j = i
            · subst w; exact absurd h6 z
            · omega
/-- corners and points have the same least -/
theorem least_eq {n : Nat} {x y : Nat → Int32} {X Y : Nat → Int} (hP : Pts n x y X Y) {S : Int32} (c : isSt n S) {a b μ ν : Int} (h1 : (∃ k, k < hN X Y S n ∧ μ = a * hX X Y S n k + b * hY X Y S n k) ∧ ∀ k, k < hN X Y S n → μ ≤ a * hX X Y S n k + b * hY X Y S n k) (h2 : lstS n S X Y a b ν) : μ = ν := by
  obtain ⟨hG, q2, q3, -⟩ := hull_pg hP c
  obtain ⟨⟨k, hk, e⟩, hall⟩ := h1
  obtain ⟨⟨j, hj, hb, e2⟩, hall2⟩ := h2
  obtain ⟨j2, hj2, hb2, f1, f2⟩ := q3 k hk
  have a1 := hall2 j2 hj2 hb2
  rw [← f1, ← f2, ← e] at a1
  have a2 := lin_min hG (by decide) (q2 j hj hb) hall
  omega
theorem quo_rng {a g B : Int} (hg : 0 < g) (ha : -B ≤ a ∧ a ≤ B) : -B ≤ a / g ∧ a / g ≤ B := by
  have hB : 0 ≤ B := by omega
  constructor
  · rw [Int.le_ediv_iff_mul_le hg]
    have := Int.mul_le_mul_of_nonneg_right (show 1 ≤ g by omega) hB
    rw [Int.neg_mul, Int.mul_comm]; omega
  · have := Int.ediv_le_ediv hg ha.2
    have := Int.ediv_le_self g hB
    omega
theorem gcd_scale {a b g : Int} (hg : 0 < g) (h1 : g ∣ a) (h2 : g ∣ b) : (Int.gcd a b : Int) = g * (Int.gcd (a / g) (b / g) : Int) := by
  obtain ⟨p, rfl⟩ := h1
  obtain ⟨q, rfl⟩ := h2
  rw [Int.mul_ediv_cancel_left _ (by omega), Int.mul_ediv_cancel_left _ (by omega), Int.gcd_mul_left, Int.natCast_mul, Int.natAbs_of_nonneg (by omega)]
theorem dir_eq {a b g : Int} (hg : 0 < g) (h1 : g ∣ a) (h2 : g ∣ b) : (a / g) / (Int.gcd (a / g) (b / g) : Int) = a / (Int.gcd a b : Int) ∧ (b / g) / (Int.gcd (a / g) (b / g) : Int) = b / (Int.gcd a b : Int) := by
  rw [gcd_scale hg h1 h2]
  obtain ⟨p, rfl⟩ := h1
  obtain ⟨q, rfl⟩ := h2
  rw [Int.mul_ediv_cancel_left _ (by omega), Int.mul_ediv_cancel_left _ (by omega)]
  rw [Int.mul_ediv_mul_of_pos _ _ hg, Int.mul_ediv_mul_of_pos _ _ hg]
  exact ⟨rfl, rfl⟩
theorem d2_zero {cx cy P Q L : Int} (hZ : okZ cx cy P Q L) : (Int.gcd (P - cx * L) (Q - cy * L) = 0 ↔ d2 cx cy P Q L = 0) ∧ (d2 cx cy P Q L / G2 cx cy (P, Q, L) = 0 ↔ d2 cx cy P Q L = 0) := by
  have s := okZ_sq hZ
  constructor
  · rw [Int.gcd_eq_zero_iff]
    unfold d2
    constructor
    · rintro ⟨h1, h2⟩; rw [h1, h2]; rfl
    · intro h; exact ssq0 (by omega)
  · constructor
    · intro h
      have hd : G2 cx cy (P, Q, L) ∣ d2 cx cy P Q L := Int.gcd_dvd_left _ _
      have := Int.ediv_mul_cancel hd
      rw [h, Int.zero_mul] at this
      omega
    · intro h; rw [h]; exact Int.zero_ediv _
theorem ev_line (K : Nat) (hK : 4000 ≤ K) (x_cloud_size : Int32) (x_cloud_x : Nat → Int32) (x_cloud_y : Nat → Int32) (x_cloud_colour : Nat → Int32) (x_cloud_load : Nat → Int32) (x_cloud_centreX : Int32) (x_cloud_centreY : Int32) (x_reader_tape : Nat → Int32) (x_reader_length : Int32) (x_reader_faultKind : Int32) (x_reader_faultPlace : Int32) (m_many : Int32) (m_px : Nat → Int32) (m_py : Nat → Int32) (m_colour : Nat → Int32) (m_load : Nat → Int32) (m_cx : Int32) (m_cy : Int32) (m_tape : Nat → Int32) (m_taped : Int32) (m_faultKind : Int32) (m_faultPlace : Int32) (x_hull_size : Int32) (x_hull_chain : Nat → Int32) (x_hull_x : Nat → Int32) (x_hull_y : Nat → Int32) (x_hull_sorted : Nat → Int32) (x_near_x : Int64) (x_near_y : Int64) (x_near_lower : Int64) (x_near_square : Int64) (x_near_squareLower : Int64) (x_near_fromX : Int32) (x_near_fromY : Int32) (m_rowMany : Int32) (m_placeX : Int64) (m_placeY : Int64) (m_below : Int64) (m_farAbove : Int64) (m_farBelow : Int64) (m_corner : Nat → Int32) (m_corners : Nat → Int32) (m_row : Nat → Int32) (a1 : Int32) (a2 : Int32) (hR : Rel x_cloud_size x_cloud_x x_cloud_y x_cloud_colour x_cloud_load x_cloud_centreX x_cloud_centreY x_reader_tape x_reader_length x_reader_faultKind x_reader_faultPlace m_many m_px m_py m_colour m_load m_cx m_cy m_tape m_taped m_faultKind m_faultPlace) : ∃ (r : Int64) (o_x_hull_size : Int32) (o_x_hull_chain : Nat → Int32) (o_x_hull_x : Nat → Int32) (o_x_hull_y : Nat → Int32) (o_x_hull_sorted : Nat → Int32) (o_x_near_x : Int64) (o_x_near_y : Int64) (o_x_near_lower : Int64) (o_x_near_square : Int64) (o_x_near_squareLower : Int64) (o_x_near_fromX : Int32) (o_x_near_fromY : Int32) (o_m_rowMany : Int32) (o_m_placeX : Int64) (o_m_placeY : Int64) (o_m_below : Int64) (o_m_farAbove : Int64) (o_m_farBelow : Int64) (o_m_corner : Nat → Int32) (o_m_corners : Nat → Int32) (o_m_row : Nat → Int32), fX11_line K x_cloud_size x_cloud_centreX x_cloud_centreY x_cloud_x x_cloud_y x_hull_size x_hull_chain x_hull_x x_hull_y x_hull_sorted x_near_x x_near_y x_near_lower x_near_square x_near_squareLower x_near_fromX x_near_fromY a1 a2 = some (r, o_x_hull_size, o_x_hull_chain, o_x_hull_x, o_x_hull_y, o_x_hull_sorted, o_x_near_x, o_x_near_y, o_x_near_lower, o_x_near_square, o_x_near_squareLower, o_x_near_fromX, o_x_near_fromY) ∧ fX12_line K m_many m_cx m_cy m_rowMany m_placeX m_placeY m_below m_farAbove m_farBelow m_px m_py m_corner m_corners m_row a1 a2 = some (r, o_m_rowMany, o_m_placeX, o_m_placeY, o_m_below, o_m_farAbove, o_m_farBelow, o_m_corner, o_m_corners, o_m_row) := by
  obtain ⟨n, rfl, rfl, hXc, hXm⟩ := Rel_pts hR
  obtain ⟨rfl, rfl, hp⟩ := Rel_c hR
  obtain ⟨cx, cy', ex, ey, hcx, hcy⟩ := isPl_i hp
  unfold fX11_line fX12_line b1
  rcases hasSet_c K n hXc.1 a1 with ⟨c, c1, c2⟩ | ⟨-, c1, c2⟩
  · rw [c1, c2]
    obtain ⟨ch', gx', gy', sor', e1, e2⟩ := buildC2 K hK hXc c x_hull_size x_hull_chain x_hull_x x_hull_y x_hull_sorted
    obtain ⟨rm', cor', cors', row', f1, f2⟩ := laysM0 K hK hXm c m_rowMany m_corner m_corners m_row
    obtain ⟨P, Q, L, g1, g2, g3'⟩ := near_both K hK hXc hXm c hcx hcy e2 f2 x_near_x x_near_y x_near_lower x_near_square x_near_squareLower x_near_fromX x_near_fromY m_placeX m_placeY m_below m_farAbove m_farBelow
    obtain ⟨⟨q1, q2⟩, q3, q4⟩ := okZ_sq g3'.1
    have hz := g3'.1
    obtain ⟨hz1, hz2, hz3, hz4, hz5⟩ := id hz
    have hr := hN_rng (X := fun i => (x_cloud_x i).toInt) (Y := fun i => (x_cloud_y i).toInt) hXc.1 c
    have hU := hU_ok hXc c
    have hg : 0 < G3 (P, Q, L) := by show 0 < (g3 P Q L : Int); have := g3_pos (P := P) (Q := Q) (show L ≠ 0 by omega); omega
    obtain ⟨d1, d2', d3⟩ : G3 (P, Q, L) ∣ P ∧ G3 (P, Q, L) ∣ Q ∧ G3 (P, Q, L) ∣ L := g3_dvd P Q L
    have w1 : P / G3 (P, Q, L) - cx * (L / G3 (P, Q, L)) = (P - cx * L) / G3 (P, Q, L) := by
      rw [Int.sub_ediv_of_dvd _ (Int.dvd_mul_of_dvd_right d3), Int.mul_ediv_assoc _ d3]
    have w2 : Q / G3 (P, Q, L) - cy' * (L / G3 (P, Q, L)) = (Q - cy' * L) / G3 (P, Q, L) := by
      rw [Int.sub_ediv_of_dvd _ (Int.dvd_mul_of_dvd_right d3), Int.mul_ediv_assoc _ d3]
    have v1 : G3 (P, Q, L) ∣ P - cx * L := Int.dvd_sub d1 (Int.dvd_mul_of_dvd_right d3)
    have v2 : G3 (P, Q, L) ∣ Q - cy' * L := Int.dvd_sub d2' (Int.dvd_mul_of_dvd_right d3)
    have dir := dir_eq hg v1 v2
    have gs := gcd_scale hg v1 v2
    have gb := gcd_bd (a := P - cx * L) (b := Q - cy' * L) (B := 128000) hz4 hz5
    have hz0 := d2_zero hz
    have z0 : (a2 = 0) ↔ a2.toInt = 0 := a_eq (k := 0) ⟨by omega, by omega⟩
    have z1 : (a2 = 1) ↔ a2.toInt = 1 := a_eq (k := 1) ⟨by omega, by omega⟩
    have z2 : (a2 = 2) ↔ a2.toInt = 2 := a_eq (k := 2) ⟨by omega, by omega⟩
    have z5 : (2 ≤ a2) ↔ 2 ≤ a2.toInt := lit_le_i rfl
    simp only [in_spec, long_toInt, show (0 : Int64).toInt = 0 from rfl, show (2 : Int64).toInt = 2 from rfl, Option.bind_some, if_neg one_ne, e1, f1, b5, b4, ex, ey, g1, g2, b7, fX4_wayX, fX4_wayY]
    rw [iI_long (show s32 cx from ⟨by omega, by omega⟩), iI_long (show s32 cy' from ⟨by omega, by omega⟩)]
    simp only [jJ_mul, jJ_sub, w1, w2, xl]
    rw [(gcd_spec K hK (P - cx * L) (Q - cy' * L) (by omega) (by omega) (by omega) (by omega)).1]
    simp only [Option.bind_some, z0, z1, z2, z5]
    have hG2n := G2_big hz
    have hG2l : d2 cx cy' P Q L / G2 cx cy' (P, Q, L) ≤ 32768000000 := Int.le_trans (Int.ediv_le_self _ q1) q2
    have j1 : (jJ (Int.gcd (P - cx * L) (Q - cy' * L) : Int) = 0) ↔ Int.gcd (P - cx * L) (Q - cy' * L) = 0 := by
      rw [j_eq0 ⟨by omega, by omega⟩]; omega
    have j2 : (jJ (d2 cx cy' P Q L / G2 cx cy' (P, Q, L)) = 0) ↔ d2 cx cy' P Q L / G2 cx cy' (P, Q, L) = 0 := j_eq0 ⟨by omega, by omega⟩
    simp only [j1, j2, hz0.1, hz0.2]
    by_cases zz : d2 cx cy' P Q L = 0
    · simp only [if_pos zz]
      by_cases w : 0 ≤ a2.toInt ∧ a2.toInt ≤ 2
      · rw [if_pos w, if_neg one_ne]
        exact ⟨_, _, _, _, _, _, _, _, _, _, _, _, _, _, _, _, _, _, _, _, _, _, rfl, rfl⟩
      · rw [if_neg w, if_pos rfl]
        exact ⟨_, _, _, _, _, _, _, _, _, _, _, _, _, _, _, _, _, _, _, _, _, _, rfl, rfl⟩
    · have gz : ∀ {β : Type} (k : Option β), gd (!decide (d2 cx cy' P Q L = 0)) k = k := fun k => gd_t (by simp [zz]) k
      simp only [if_neg zz, gz]
      have hgp : 0 < (Int.gcd (P - cx * L) (Q - cy' * L) : Int) := by
        have : Int.gcd (P - cx * L) (Q - cy' * L) ≠ 0 := fun e => zz (hz0.1.mp e)
        omega
      have hgp2 : 0 < (Int.gcd ((P - cx * L) / G3 (P, Q, L)) ((Q - cy' * L) / G3 (P, Q, L)) : Int) := by
        rw [gs] at hgp
        exact div_gt hg hgp
      have hgl2 : (Int.gcd ((P - cx * L) / G3 (P, Q, L)) ((Q - cy' * L) / G3 (P, Q, L)) : Int) ≤ 128000 := by
        have := Int.mul_le_mul_of_nonneg_right (show 1 ≤ G3 (P, Q, L) by omega) (show 0 ≤ (Int.gcd ((P - cx * L) / G3 (P, Q, L)) ((Q - cy' * L) / G3 (P, Q, L)) : Int) by omega)
        omega
      have b1' := quo_rng hg hz4
      have b2' := quo_rng hg hz5
      rw [(gcd_spec K hK ((P - cx * L) / G3 (P, Q, L)) ((Q - cy' * L) / G3 (P, Q, L)) (by omega) (by omega) (by omega) (by omega)).2]
      simp only [Option.bind_some]
      simp only [gd_ne (jne hgp (by omega)), gd_ne (jne hgp2 (by omega))]
      rw [jdivx hgp (Int.gcd_dvd_left _ _) (by omega) (by omega), jdivx hgp (Int.gcd_dvd_right _ _) (by omega) (by omega), jdivx hgp2 (Int.gcd_dvd_left _ _) (by omega) (by omega), jdivx hgp2 (Int.gcd_dvd_right _ _) (by omega) (by omega), dir.1, dir.2]
      have qa := quo_rng hgp hz4
      have qb := quo_rng hgp hz5
      generalize (P - cx * L) / (Int.gcd (P - cx * L) (Q - cy' * L) : Int) = A at *
      generalize (Q - cy' * L) / (Int.gcd (P - cx * L) (Q - cy' * L) : Int) = B at *
      obtain ⟨μ, l1, l2⟩ := leastC K hK hr.1 (by omega) e2 hU (a := A) (b := B) (by omega) (by omega)
      obtain ⟨j, hj, hbj⟩ := isSt_bit hXc.1 c
      obtain ⟨ν, l3, l4⟩ := lstM K hXm (S := a1) (a := A) (b := B) (by omega) (by omega) K 0 9223372036854775807 (by omega) (by have := hXm.1; omega) (by omega) (fun j hj => by omega) (Or.inr ⟨rfl, j, by omega, hj, hbj⟩)
      have he := least_eq hXc c l2 l4
      rw [l1, show fX12_line_L124 K a1 (jJ A) (jJ B) (nI n) m_px m_py K 9223372036854775807 0 = _ from l3, he]
      simp only [Option.bind_some]
      by_cases w : 0 ≤ a2.toInt ∧ a2.toInt ≤ 2
      · rw [if_pos w, if_neg one_ne]
        have hh : a2.toInt = 0 ∨ a2.toInt = 1 ∨ a2.toInt = 2 := by omega
        rcases hh with h | h | h <;> simp only [h] <;> exact ⟨_, _, _, _, _, _, _, _, _, _, _, _, _, _, _, _, _, _, _, _, _, _, rfl, rfl⟩
      · rw [if_neg w, if_pos rfl, if_neg (by omega), if_neg (by omega), if_neg (by omega)]
        exact ⟨_, _, _, _, _, _, _, _, _, _, _, _, _, _, _, _, _, _, _, _, _, _, rfl, rfl⟩
  · rw [c1, c2]
    exact ⟨_, _, _, _, _, _, _, _, _, _, _, _, _, _, _, _, _, _, _, _, _, _, rfl, rfl⟩
