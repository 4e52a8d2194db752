--@ needs 2a.num 2b.ev1 2d.gcd 2e.row 2f.row2 2g.bits 2h.hull 2i.hull2 2j.hull3 2k.hull4 2l.side 2m.side2 2n.hulls 2o.chain 2p.poly 2q.pg 2r.near 2s.red 2t.near2 2u.near3
theorem hC_of {n : Nat} {x y : Nat → Int32} {X Y : Nat → Int} (hP : Pts n x y X Y) {S : Int32} (c : isSt n S) : ∀ k : Nat, k < hN X Y S n → inH (hX X Y S n) (hY X Y S n) (hN X Y S n) (hX X Y S n k) (hY X Y S n k) 1 := by
  obtain ⟨-, h2, h3, -⟩ := hull_pg hP c
  intro k hk
  obtain ⟨j, hj, hb, e1, e2⟩ := h3 k hk
  rw [e1, e2]; exact h2 j hj hb
theorem isPl_i {a b : Int32} (h : isPl a b) : ∃ x y : Int, a = iI x ∧ b = iI y ∧ (-20 ≤ x ∧ x ≤ 20) ∧ -20 ≤ y ∧ y ≤ 20 := ⟨a.toInt, b.toInt, (iI_toInt a).symm, (iI_toInt b).symm, h.1, h.2⟩
theorem a_eq {a : Int32} {k : Int} (hk : s32 k) : a = iI k ↔ a.toInt = k := by
  rw [← iI_toInt a, iI_eq ⟨by have := a.le_toInt; omega, by have := a.toInt_lt; omega⟩ hk, iI_toInt]
/-- both programs' nearest place of a set's hull -/
theorem near_both (K : Nat) (hK : 4000 ≤ K) {n : Nat} {x y px py : Nat → Int32} {X Y : Nat → Int} (hc : Pts n x y X Y) (hm : Pts n px py X Y) {S : Int32} (c : isSt n S) {cx cy' : Int} (hcx : -20 ≤ cx ∧ cx ≤ 20) (hcy : -20 ≤ cy' ∧ cy' ≤ 20) {gx gy cor cors : Nat → Int32} (hA : hulA gx gy (hX X Y S n) (hY X Y S n) (hN X Y S n)) (hB : hulB px py cor cors 0 (hX X Y S n) (hY X Y S n) (hN X Y S n)) (x1 y1 l1 s1 sl1 : Int64) (fx fy : Int32) (p q b fa fb : Int64) : ∃ P Q L, fX4_findOnHull K x1 y1 l1 s1 sl1 fx fy (nI (hN X Y S n)) gx gy (iI cx) (iI cy') = some (jJ P, jJ Q, jJ L, jJ (d2 cx cy' P Q L), jJ (L * L), iI cx, iI cy') ∧ fX12_laysNearest K (iI cx) (iI cy') p q b fa fb px py cor cors = some (jJ (P / G3 (P, Q, L)), jJ (Q / G3 (P, Q, L)), jJ (L / G3 (P, Q, L)), jJ (d2 cx cy' P Q L / G2 cx cy' (P, Q, L)), jJ (L * L / G2 cx cy' (P, Q, L))) ∧ isNr (hX X Y S n) (hY X Y S n) (hN X Y S n) cx cy' P Q L := by
  have hr := hN_rng (X := X) (Y := Y) hc.1 c
  have hU := hU_ok hc c
  obtain ⟨hG, -, -, -⟩ := hull_pg hc c
  have hC := hC_of hc c
  obtain ⟨P, Q, L, e1, e2⟩ := nearC K hK (by omega) hA hU hG hC hcx hcy x1 y1 l1 s1 sl1 fx fy
  obtain ⟨P2, Q2, L2, f1, f2⟩ := nearM K hK (by omega) (hulB_M K hB) hU hG hC hcx hcy p q b fa fb
  obtain ⟨r1, r2, r3, r4, r5⟩ := isNr_red e2 f2
  refine ⟨P, Q, L, e1, ?_, e2⟩
  rw [f1, r1, r2, r3, r4, r5]
theorem G2_big {cx cy P Q L : Int} (h : okZ cx cy P Q L) : 0 ≤ d2 cx cy P Q L / G2 cx cy (P, Q, L) := by
  have := (okZ_sq h).1.1
  exact Int.ediv_nonneg this (by show 0 ≤ ((Int.gcd (d2 cx cy P Q L) (L * L) : Nat) : Int); omega)
theorem ev_nearest (K : Nat) (hK : 4000 ≤ K) (x_cloud_size : Int32) (x_cloud_x : Nat → Int32) (x_cloud_y : Nat → Int32) (x_cloud_colour : Nat → Int32) (x_cloud_load : Nat → Int32) (x_cloud_centreX : Int32) (x_cloud_centreY : Int32) (x_reader_tape : Nat → Int32) (x_reader_length : Int32) (x_reader_faultKind : Int32) (x_reader_faultPlace : Int32) (m_many : Int32) (m_px : Nat → Int32) (m_py : Nat → Int32) (m_colour : Nat → Int32) (m_load : Nat → Int32) (m_cx : Int32) (m_cy : Int32) (m_tape : Nat → Int32) (m_taped : Int32) (m_faultKind : Int32) (m_faultPlace : Int32) (x_hull_size : Int32) (x_hull_chain : Nat → Int32) (x_hull_x : Nat → Int32) (x_hull_y : Nat → Int32) (x_hull_sorted : Nat → Int32) (x_near_x : Int64) (x_near_y : Int64) (x_near_lower : Int64) (x_near_square : Int64) (x_near_squareLower : Int64) (x_near_fromX : Int32) (x_near_fromY : Int32) (m_rowMany : Int32) (m_placeX : Int64) (m_placeY : Int64) (m_below : Int64) (m_farAbove : Int64) (m_farBelow : Int64) (m_corner : Nat → Int32) (m_corners : Nat → Int32) (m_row : Nat → Int32) (a1 : Int32) (a2 : Int32) (hR : Rel x_cloud_size x_cloud_x x_cloud_y x_cloud_colour x_cloud_load x_cloud_centreX x_cloud_centreY x_reader_tape x_reader_length x_reader_faultKind x_reader_faultPlace m_many m_px m_py m_colour m_load m_cx m_cy m_tape m_taped m_faultKind m_faultPlace) : ∃ (r : Int64) (o_x_hull_size : Int32) (o_x_hull_chain : Nat → Int32) (o_x_hull_x : Nat → Int32) (o_x_hull_y : Nat → Int32) (o_x_hull_sorted : Nat → Int32) (o_x_near_x : Int64) (o_x_near_y : Int64) (o_x_near_lower : Int64) (o_x_near_square : Int64) (o_x_near_squareLower : Int64) (o_x_near_fromX : Int32) (o_x_near_fromY : Int32) (o_m_rowMany : Int32) (o_m_placeX : Int64) (o_m_placeY : Int64) (o_m_below : Int64) (o_m_farAbove : Int64) (o_m_farBelow : Int64) (o_m_corner : Nat → Int32) (o_m_corners : Nat → Int32) (o_m_row : Nat → Int32), fX11_nearest K x_cloud_size x_cloud_centreX x_cloud_centreY x_cloud_x x_cloud_y x_hull_size x_hull_chain x_hull_x x_hull_y x_hull_sorted x_near_x x_near_y x_near_lower x_near_square x_near_squareLower x_near_fromX x_near_fromY a1 a2 = some (r, o_x_hull_size, o_x_hull_chain, o_x_hull_x, o_x_hull_y, o_x_hull_sorted, o_x_near_x, o_x_near_y, o_x_near_lower, o_x_near_square, o_x_near_squareLower, o_x_near_fromX, o_x_near_fromY) ∧ fX12_nearest K m_many m_cx m_cy m_rowMany m_placeX m_placeY m_below m_farAbove m_farBelow m_px m_py m_corner m_corners m_row a1 a2 = some (r, o_m_rowMany, o_m_placeX, o_m_placeY, o_m_below, o_m_farAbove, o_m_farBelow, o_m_corner, o_m_corners, o_m_row) := by
  obtain ⟨n, rfl, rfl, hXc, hXm⟩ := Rel_pts hR
  obtain ⟨rfl, rfl, hp⟩ := Rel_c hR
  obtain ⟨cx, cy', ex, ey, hcx, hcy⟩ := isPl_i hp
  unfold fX11_nearest fX12_nearest b1
  rcases hasSet_c K n hXc.1 a1 with ⟨c, c1, c2⟩ | ⟨-, c1, c2⟩
  · rw [c1, c2]
    obtain ⟨ch', gx', gy', sor', e1, e2⟩ := buildC2 K hK hXc c x_hull_size x_hull_chain x_hull_x x_hull_y x_hull_sorted
    obtain ⟨rm', cor', cors', row', f1, f2⟩ := laysM0 K hK hXm c m_rowMany m_corner m_corners m_row
    obtain ⟨P, Q, L, g1, g2, g3'⟩ := near_both K hK hXc hXm c hcx hcy e2 f2 x_near_x x_near_y x_near_lower x_near_square x_near_squareLower x_near_fromX x_near_fromY m_placeX m_placeY m_below m_farAbove m_farBelow
    obtain ⟨⟨q1, q2⟩, q3, q4⟩ := okZ_sq g3'.1
    have hz := g3'.1
    have g4 := lowC K hK (P := P) (Q := Q) (L := L) (a := d2 cx cy' P Q L) (b := L * L) (by have := hz.2.1; omega) (by have := hz.2.2.1; omega) (by have := hz.1; omega) (by omega) (by omega)
    simp only [in_spec, long_toInt, show (0 : Int64).toInt = 0 from rfl, show (4 : Int64).toInt = 4 from rfl, Option.bind_some, if_neg one_ne, e1, f1, b5, b4, ex, ey, g1, g2, b7, g4]
    have z0 : (a2 = 0) ↔ a2.toInt = 0 := a_eq (k := 0) ⟨by omega, by omega⟩
    have z1 : (a2 = 1) ↔ a2.toInt = 1 := a_eq (k := 1) ⟨by omega, by omega⟩
    have z2 : (a2 = 2) ↔ a2.toInt = 2 := a_eq (k := 2) ⟨by omega, by omega⟩
    have z3 : (a2 = 3) ↔ a2.toInt = 3 := a_eq (k := 3) ⟨by omega, by omega⟩
    have z4 : (a2 = 4) ↔ a2.toInt = 4 := a_eq (k := 4) ⟨by omega, by omega⟩
    have z5 : (3 ≤ a2) ↔ 3 ≤ a2.toInt := lit_le_i rfl
    simp only [fX12_toldPlace, z0, z1, z2, z3, z4, z5]
    by_cases w : 0 ≤ a2.toInt ∧ a2.toInt ≤ 4
    · rw [if_pos w, if_neg one_ne]
      have hh : a2.toInt = 0 ∨ a2.toInt = 1 ∨ a2.toInt = 2 ∨ a2.toInt = 3 ∨ a2.toInt = 4 := by omega
      rcases hh with h | h | h | h | h <;> simp only [h] <;> exact ⟨_, _, _, _, _, _, _, _, _, _, _, _, _, _, _, _, _, _, _, _, _, _, rfl, rfl⟩
    · rw [if_neg w, if_pos rfl, if_neg (by omega), if_neg (by omega), if_neg (by omega), if_neg (by omega), if_neg (by omega)]
      exact ⟨_, _, _, _, _, _, _, _, _, _, _, _, _, _, _, _, _, _, _, _, _, _, rfl, rfl⟩
  · rw [c1, c2]
    exact ⟨_, _, _, _, _, _, _, _, _, _, _, _, _, _, _, _, _, _, _, _, _, _, rfl, rfl⟩
