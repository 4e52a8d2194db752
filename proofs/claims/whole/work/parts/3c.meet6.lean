--@ needs 2a.num 2b.ev1 2d.gcd 2e.row 2f.row2 2g.bits 2h.hull 2i.hull2 2j.hull3 2k.hull4 2l.side 2m.side2 2n.hulls 2o.chain 2p.poly 2q.pg 2r.near 2s.red 2t.near2 2u.near3 2v.near4 2x.meet1 2y.meet2 2z.meet3 3a.meet4 3b.meet5
theorem fnd_same {A D E : T3 → Prop} {s t : Option T3} {r r' : Int32} {p q l p' q' l' : Int64} (h1 : fnd s r p q l) (h2 : fnd t r' p' q' l') (hs : mmin A D s) (ht : mmin A E t) (k1 : ∀ Z, D Z → A Z → E Z) (k2 : ∀ Z, E Z → A Z → D Z) : (r = 0 ∧ r' = 0 ∧ s = none) ∨ (r = 1 ∧ r' = 1 ∧ p = p' ∧ q = q' ∧ l = l' ∧ ∃ Z, s = some Z) := by
  rcases mmin_same hs ht k1 k2 with ⟨e1, e2⟩ | ⟨Z, W, e1, e2, o1, o2, x1, x2⟩
  · left
    rcases h1 with ⟨-, a1⟩ | ⟨Z, a1, -⟩
    · rcases h2 with ⟨-, b1⟩ | ⟨Z, b1, -⟩
      · exact ⟨a1, b1, e1⟩
      · rw [e2] at b1; cases b1
    · rw [e1] at a1; cases a1
  · right
    rcases h1 with ⟨a0, -⟩ | ⟨Z', a0, a1, -, a2, a3, a4⟩
    · rw [e1] at a0; cases a0
    · rcases h2 with ⟨b0, -⟩ | ⟨W', b0, b1, -, b2, b3, b4⟩
      · rw [e2] at b0; cases b0
      · rw [e1] at a0; cases a0
        rw [e2] at b0; cases b0
        obtain ⟨r1, r2, r3⟩ := red_eq (show 0 < Z.2.2 by have := o1.1.1; omega) (show 0 < W.2.2 by have := o2.1.1; omega) x1 x2
        have f1 : Z.1 / G3 Z = W.1 / G3 W := r1
        have f2 : Z.2.1 / G3 Z = W.2.1 / G3 W := r2
        have f3 : Z.2.2 / G3 Z = W.2.2 / G3 W := r3
        exact ⟨a1, b1, by rw [a2, b2, f1], by rw [a3, b3, f2], by rw [a4, b4, f3], Z, e1⟩
/-- both programs on two hulls -/
theorem meet2 (K : Nat) (hK : 4000 ≤ K) {px py cor cors : Nat → Int32} {U V : Nat → Nat → Int} {m : Nat → Nat} (h : HMs K px py cor cors 2 U V m) {x1 y1 x2 y2 x3 y3 : Nat → Int32} {s3 : Int32} (h1 : HA x1 y1 (U 0) (V 0) (m 0)) (h2 : HA x2 y2 (U 1) (V 1) (m 1)) (hG : PG (U 1) (V 1) (m 1)) (lx ly ll p q l p0 q0 l0 : Int64) (met hu : Int32) : ∃ r a b c p1 q1 l1 p2 q2 l2 met2, fX3_find K 0 lx ly ll (nI (m 0)) x1 y1 (nI (m 1)) x2 y2 s3 x3 y3 p q l = some (r, a, b, c, p1, q1, l1) ∧ fX12_laysMeeting K p0 q0 l0 met hu px py cor cors 2 = some (r, p2, q2, l2, met2, 2) ∧ ((r = 0 ∧ ∀ Z : T3, corD (U 0) (V 0) (m 0) Z ∨ corD (U 1) (V 1) (m 1) Z ∨ crC (U 0) (V 0) (m 0) (U 1) (V 1) (m 1) Z → ¬ (inH (U 0) (V 0) (m 0) Z.1 Z.2.1 Z.2.2 ∧ inH (U 1) (V 1) (m 1) Z.1 Z.2.1 Z.2.2)) ∨ (r = 1 ∧ p1 = p2 ∧ q1 = q2 ∧ l1 = l2)) := by
  obtain ⟨r, a, b, c, p1, q1, l1, st, e1, e2, e3⟩ := find2C K hK (s3 := s3) (x3 := x3) (y3 := y3) h1 h2 lx ly ll p q l
  obtain ⟨r', p2, q2, l2, met2, st', f1, f2, f3⟩ := meetM K hK h p0 q0 l0 met hu
  have hA : inA 2 U V m = (fun Z : T3 => inH (U 0) (V 0) (m 0) Z.1 Z.2.1 Z.2.2 ∧ inH (U 1) (V 1) (m 1) Z.1 Z.2.1 Z.2.2) := funext fun Z => propext ⟨fun z => ⟨z 0 (by decide), z 1 (by decide)⟩, fun z w hw => by
    have : w = 0 ∨ w = 1 := by omega
    rcases this with rfl | rfl
    · exact z.1
    · exact z.2⟩
  rw [hA] at f3
  have hs := fnd_same e2 f2 e3 f3 (by
    rintro Z (hz | hz | hz) hA
    · exact Or.inl ⟨0, by decide, hz⟩
    · exact Or.inl ⟨1, by decide, hz⟩
    · exact Or.inr ⟨0, 1, by decide, by decide, crC_crM hG hz hA.2⟩) (by
    rintro Z (⟨v, hv, hz⟩ | ⟨k, o, h1, h2, hz⟩) hA
    · have : v = 0 ∨ v = 1 := by omega
      rcases this with rfl | rfl
      · exact Or.inl hz
      · exact Or.inr (Or.inl hz)
    · have : k = 0 := by omega
      subst this
      have : o = 1 := by omega
      subst this
      exact Or.inr (Or.inr (crM_crC hz)))
  rcases hs with ⟨k1, k2, k3⟩ | ⟨k1, k2, k3, k4, k5, -⟩
  · refine ⟨r, a, b, c, p1, q1, l1, p2, q2, l2, met2, e1, by rw [k1, ← k2]; exact f1, Or.inl ⟨k1, ?_⟩⟩
    rw [k3] at e3
    exact e3
  · exact ⟨r, a, b, c, p1, q1, l1, p2, q2, l2, met2, e1, by rw [k1, ← k2]; exact f1, Or.inr ⟨k1, k3, k4, k5⟩⟩
theorem HA_of {n : Nat} {x y : Nat → Int32} {X Y : Nat → Int} (hP : Pts n x y X Y) {S : Int32} (c : isSt n S) {gx gy : Nat → Int32} (h : hulA gx gy (hX X Y S n) (hY X Y S n) (hN X Y S n)) : HA gx gy (hX X Y S n) (hY X Y S n) (hN X Y S n) := by
  have hr := hN_rng (X := X) (Y := Y) hP.1 c
  exact ⟨h, hU_ok hP c, hr.1, by omega⟩
/-- two sets' hulls, laid by the model -/
theorem lays2 (K : Nat) (hK : 4000 ≤ K) {n : Nat} {px py : Nat → Int32} {X Y : Nat → Int} (hm : Pts n px py X Y) {S T : Int32} (c : isSt n S) (d : isSt n T) (rm : Int32) (cor cors row : Nat → Int32) : ∃ rm1 cor1 cors1 row1 rm2 cor2 cors2 row2, fX12_laysHull K (nI n) rm px py cor cors row 0 S = some (rm1, cor1, cors1, row1) ∧ fX12_laysHull K (nI n) rm1 px py cor1 cors1 row1 1 T = some (rm2, cor2, cors2, row2) ∧ hulB px py cor2 cors2 0 (hX X Y S n) (hY X Y S n) (hN X Y S n) ∧ hulB px py cor2 cors2 1 (hX X Y T n) (hY X Y T n) (hN X Y T n) := by
  obtain ⟨-, -, r3⟩ := rowL_ok X Y S n
  obtain ⟨-, -, r4⟩ := rowL_ok X Y T n
  have hn := hm.1
  obtain ⟨-, -, -, le1⟩ := hull_pg hm c
  obtain ⟨-, -, -, le2⟩ := hull_pg hm d
  obtain ⟨rm1, cor1, cors1, row1, e1, e2⟩ := laysM0 K hK hm c rm cor cors row
  obtain ⟨cor2, row2, f1, f2, f3⟩ := laysM2 K hK hm d 1 (by decide) (by omega) rm1 cor1 cors1 row1
  refine ⟨rm1, cor1, cors1, row1, _, cor2, _, row2, e1, f1, hulB_fr e2 (by omega) (w' := 1) (by decide) f3 (upd_ne (by decide)), f2 (by omega)⟩
def fam2 (a b : Nat → Int) (w : Nat) : Nat → Int := if w = 0 then a else b
def fam2n (a b w : Nat) : Nat := if w = 0 then a else b
theorem HMs2 (K : Nat) {n : Nat} {px py : Nat → Int32} {X Y : Nat → Int} (hm : Pts n px py X Y) {S T : Int32} (c : isSt n S) (d : isSt n T) {cor cors : Nat → Int32} (h1 : hulB px py cor cors 0 (hX X Y S n) (hY X Y S n) (hN X Y S n)) (h2 : hulB px py cor cors 1 (hX X Y T n) (hY X Y T n) (hN X Y T n)) : HMs K px py cor cors 2 (fam2 (hX X Y S n) (hX X Y T n)) (fam2 (hY X Y S n) (hY X Y T n)) (fam2n (hN X Y S n) (hN X Y T n)) := by
  refine ⟨by decide, fun w hw => ?_⟩
  have r1 := hN_rng (X := X) (Y := Y) hm.1 c
  have r2 := hN_rng (X := X) (Y := Y) hm.1 d
  have : w = 0 ∨ w = 1 := by omega
  rcases this with rfl | rfl
  · exact ⟨hulB_M K h1, hU_ok hm c, r1.1, show hN X Y S n < 48 by omega⟩
  · exact ⟨hulB_M K h2, hU_ok hm d, r2.1, show hN X Y T n < 48 by omega⟩
/-- both programs on two sets -/
theorem meetS (K : Nat) (hK : 4000 ≤ K) {n : Nat} {x y px py : Nat → Int32} {X Y : Nat → Int} (hc : Pts n x y X Y) (hm : Pts n px py X Y) {S T : Int32} (c : isSt n S) (d : isSt n T) {x1 y1 x2 y2 x3 y3 : Nat → Int32} {s3 : Int32} (h1 : hulA x1 y1 (hX X Y S n) (hY X Y S n) (hN X Y S n)) (h2 : hulA x2 y2 (hX X Y T n) (hY X Y T n) (hN X Y T n)) (lx ly ll p q l p0 q0 l0 : Int64) (met hu rm : Int32) (cor cors row : Nat → Int32) : ∃ r a b c p1 q1 l1 p2 q2 l2 met2 hu2 rm2 cor2 cors2 row2, fX3_find K 0 lx ly ll (nI (hN X Y S n)) x1 y1 (nI (hN X Y T n)) x2 y2 s3 x3 y3 p q l = some (r, a, b, c, p1, q1, l1) ∧ fX12_meetsSets K (nI n) rm p0 q0 l0 met hu px py cor cors row S T = some (r, rm2, p2, q2, l2, met2, hu2, cor2, cors2, row2) ∧ hulB px py cor2 cors2 0 (hX X Y S n) (hY X Y S n) (hN X Y S n) ∧ hulB px py cor2 cors2 1 (hX X Y T n) (hY X Y T n) (hN X Y T n) ∧ ((r = 0 ∧ ∀ Z : T3, corD (hX X Y S n) (hY X Y S n) (hN X Y S n) Z ∨ corD (hX X Y T n) (hY X Y T n) (hN X Y T n) Z ∨ crC (hX X Y S n) (hY X Y S n) (hN X Y S n) (hX X Y T n) (hY X Y T n) (hN X Y T n) Z → ¬ (inH (hX X Y S n) (hY X Y S n) (hN X Y S n) Z.1 Z.2.1 Z.2.2 ∧ inH (hX X Y T n) (hY X Y T n) (hN X Y T n) Z.1 Z.2.1 Z.2.2)) ∨ (r = 1 ∧ p1 = p2 ∧ q1 = q2 ∧ l1 = l2)) := by
  obtain ⟨rm1, cor1, cors1, row1, rm2, cor2, cors2, row2, e1, e2, e3, e4⟩ := lays2 K hK hm c d rm cor cors row
  obtain ⟨r, a, b, c', p1, q1, l1, p2, q2, l2, met2, f1, f2, f3⟩ := meet2 K hK (HMs2 K hm c d e3 e4) (s3 := s3) (x3 := x3) (y3 := y3) (HA_of hc c h1) (HA_of hc d h2) (hull_pg hm d).1 lx ly ll p q l p0 q0 l0 met hu
  refine ⟨r, a, b, c', p1, q1, l1, p2, q2, l2, met2, 2, rm2, cor2, cors2, row2, f1, ?_, e3, e4, f3⟩
  unfold fX12_meetsSets
  rw [e1]
  simp only [b4, Option.bind_some]
  rw [e2]
  simp only [Option.bind_some]
  rw [f2]
  simp only [b6, Option.bind_some]
  have hz : z01 r = true := by
    rcases f3 with ⟨h, -⟩ | ⟨h, -⟩
    · rw [h]; rfl
    · rw [h]; rfl
  rw [gd_t hz]
theorem ev_meet (K : Nat) (hK : 4000 ≤ K) (x_cloud_size : Int32) (x_cloud_x : Nat → Int32) (x_cloud_y : Nat → Int32) (x_cloud_colour : Nat → Int32) (x_cloud_load : Nat → Int32) (x_cloud_centreX : Int32) (x_cloud_centreY : Int32) (x_reader_tape : Nat → Int32) (x_reader_length : Int32) (x_reader_faultKind : Int32) (x_reader_faultPlace : Int32) (m_many : Int32) (m_px : Nat → Int32) (m_py : Nat → Int32) (m_colour : Nat → Int32) (m_load : Nat → Int32) (m_cx : Int32) (m_cy : Int32) (m_tape : Nat → Int32) (m_taped : Int32) (m_faultKind : Int32) (m_faultPlace : Int32) (x_pair_threefold : Int32) (x_pair_leastX : Int64) (x_pair_leastY : Int64) (x_pair_leastLower : Int64) (x_pair_first_size : Int32) (x_pair_first_chain : Nat → Int32) (x_pair_first_x : Nat → Int32) (x_pair_first_y : Nat → Int32) (x_pair_first_sorted : Nat → Int32) (x_pair_second_size : Int32) (x_pair_second_chain : Nat → Int32) (x_pair_second_x : Nat → Int32) (x_pair_second_y : Nat → Int32) (x_pair_second_sorted : Nat → Int32) (x_pair_third_size : Int32) (x_pair_third_x : Nat → Int32) (x_pair_third_y : Nat → Int32) (x_pair_place_x : Int64) (x_pair_place_y : Int64) (x_pair_place_lower : Int64) (m_rowMany : Int32) (m_placeX : Int64) (m_placeY : Int64) (m_below : Int64) (m_isMet : Int32) (m_hulls : Int32) (m_corner : Nat → Int32) (m_corners : Nat → Int32) (m_row : Nat → Int32) (a1 : Int32) (a2 : Int32) (hR : Rel x_cloud_size x_cloud_x x_cloud_y x_cloud_colour x_cloud_load x_cloud_centreX x_cloud_centreY x_reader_tape x_reader_length x_reader_faultKind x_reader_faultPlace m_many m_px m_py m_colour m_load m_cx m_cy m_tape m_taped m_faultKind m_faultPlace) : ∃ (r : Int32) (o_x_pair_threefold : Int32) (o_x_pair_leastX : Int64) (o_x_pair_leastY : Int64) (o_x_pair_leastLower : Int64) (o_x_pair_first_size : Int32) (o_x_pair_first_chain : Nat → Int32) (o_x_pair_first_x : Nat → Int32) (o_x_pair_first_y : Nat → Int32) (o_x_pair_first_sorted : Nat → Int32) (o_x_pair_second_size : Int32) (o_x_pair_second_chain : Nat → Int32) (o_x_pair_second_x : Nat → Int32) (o_x_pair_second_y : Nat → Int32) (o_x_pair_second_sorted : Nat → Int32) (o_x_pair_place_x : Int64) (o_x_pair_place_y : Int64) (o_x_pair_place_lower : Int64) (o_m_rowMany : Int32) (o_m_placeX : Int64) (o_m_placeY : Int64) (o_m_below : Int64) (o_m_isMet : Int32) (o_m_hulls : Int32) (o_m_corner : Nat → Int32) (o_m_corners : Nat → Int32) (o_m_row : Nat → Int32), fX11_meet K x_cloud_size x_cloud_x x_cloud_y x_pair_threefold x_pair_leastX x_pair_leastY x_pair_leastLower x_pair_first_size x_pair_first_chain x_pair_first_x x_pair_first_y x_pair_first_sorted x_pair_second_size x_pair_second_chain x_pair_second_x x_pair_second_y x_pair_second_sorted x_pair_third_size x_pair_third_x x_pair_third_y x_pair_place_x x_pair_place_y x_pair_place_lower a1 a2 = some (r, o_x_pair_threefold, o_x_pair_leastX, o_x_pair_leastY, o_x_pair_leastLower, o_x_pair_first_size, o_x_pair_first_chain, o_x_pair_first_x, o_x_pair_first_y, o_x_pair_first_sorted, o_x_pair_second_size, o_x_pair_second_chain, o_x_pair_second_x, o_x_pair_second_y, o_x_pair_second_sorted, o_x_pair_place_x, o_x_pair_place_y, o_x_pair_place_lower) ∧ fX12_meet K m_many m_rowMany m_placeX m_placeY m_below m_isMet m_hulls m_px m_py m_corner m_corners m_row a1 a2 = some (r, o_m_rowMany, o_m_placeX, o_m_placeY, o_m_below, o_m_isMet, o_m_hulls, o_m_corner, o_m_corners, o_m_row) := by
  obtain ⟨n, rfl, rfl, hXc, hXm⟩ := Rel_pts hR
  unfold fX11_meet fX12_meet b1
  rcases hasSet_c K n hXc.1 a1 with ⟨c, c1, c2⟩ | ⟨-, c1, c2⟩
  · rw [c1, c2]
    rcases hasSet_c K n hXc.1 a2 with ⟨d, d1, d2'⟩ | ⟨-, d1, d2'⟩
    · rw [d1, d2']
      obtain ⟨ch1, gx1, gy1, sor1, e1, e2⟩ := buildC2 K hK hXc c x_pair_first_size x_pair_first_chain x_pair_first_x x_pair_first_y x_pair_first_sorted
      obtain ⟨ch2, gx2, gy2, sor2, e3, e4⟩ := buildC2 K hK hXc d x_pair_second_size x_pair_second_chain x_pair_second_x x_pair_second_y x_pair_second_sorted
      obtain ⟨r, a, b, c', p1, q1, l1, p2, q2, l2, met2, hu2, rm2, cor2, cors2, row2, f1, f2, -, -, f3⟩ := meetS K hK hXc hXm c d (x3 := x_pair_third_x) (y3 := x_pair_third_y) (s3 := x_pair_third_size) e2 e4 x_pair_leastX x_pair_leastY x_pair_leastLower x_pair_place_x x_pair_place_y x_pair_place_lower m_placeX m_placeY m_below m_isMet m_hulls m_rowMany m_corner m_corners m_row
      simp only [Option.bind_some, if_neg one_ne, fX3_take, e1, e3, b5, b11, f1, f2, b7, b10]
      split
      · exact ⟨_, _, _, _, _, _, _, _, _, _, _, _, _, _, _, _, _, _, _, _, _, _, _, _, _, _, _, rfl, rfl⟩
      · exact ⟨_, _, _, _, _, _, _, _, _, _, _, _, _, _, _, _, _, _, _, _, _, _, _, _, _, _, _, rfl, rfl⟩
    · rw [d1, d2']
      exact ⟨_, _, _, _, _, _, _, _, _, _, _, _, _, _, _, _, _, _, _, _, _, _, _, _, _, _, _, rfl, rfl⟩
  · rw [c1, c2]
    exact ⟨_, _, _, _, _, _, _, _, _, _, _, _, _, _, _, _, _, _, _, _, _, _, _, _, _, _, _, rfl, rfl⟩
theorem coor_told (K : Nat) (p q l : Int64) (a : Int32) : (0 ≤ a.toInt ∧ a.toInt ≤ 2 → ∃ r, fX11_coordinate K p q l a.toInt64 = some r ∧ fX12_toldPlace K p q l a = some r) ∧ (¬ (0 ≤ a.toInt ∧ a.toInt ≤ 2) → fX11_coordinate K p q l a.toInt64 = some (-9223372036854775808)) := by
  have z0 : (a = 0) ↔ a.toInt = 0 := a_eq (k := 0) ⟨by omega, by omega⟩
  have z1 : (a = 1) ↔ a.toInt = 1 := a_eq (k := 1) ⟨by omega, by omega⟩
  have b1' := a.le_toInt
  have b2' := a.toInt_lt
  have y0 : (a.toInt64 = 0) ↔ a.toInt = 0 := by rw [long_iI]; exact j_eq0 ⟨by omega, by omega⟩
  have y1 : (a.toInt64 = 1) ↔ a.toInt = 1 := by rw [long_iI]; exact jJ_eq (b := 1) ⟨by omega, by omega⟩ ⟨by omega, by omega⟩
  have y2 : (a.toInt64 = 2) ↔ a.toInt = 2 := by rw [long_iI]; exact jJ_eq (b := 2) ⟨by omega, by omega⟩ ⟨by omega, by omega⟩
  unfold fX11_coordinate fX12_toldPlace
  simp only [y0, y1, y2, z0, z1]
  constructor
  · intro h
    have hh : a.toInt = 0 ∨ a.toInt = 1 ∨ a.toInt = 2 := by omega
    rcases hh with h | h | h <;> simp only [h] <;> exact ⟨_, rfl, rfl⟩
  · intro h
    rw [if_neg (by omega), if_neg (by omega), if_neg (by omega)]
theorem ev_meeting (K : Nat) (hK : 4000 ≤ K) (x_cloud_size : Int32) (x_cloud_x : Nat → Int32) (x_cloud_y : Nat → Int32) (x_cloud_colour : Nat → Int32) (x_cloud_load : Nat → Int32) (x_cloud_centreX : Int32) (x_cloud_centreY : Int32) (x_reader_tape : Nat → Int32) (x_reader_length : Int32) (x_reader_faultKind : Int32) (x_reader_faultPlace : Int32) (m_many : Int32) (m_px : Nat → Int32) (m_py : Nat → Int32) (m_colour : Nat → Int32) (m_load : Nat → Int32) (m_cx : Int32) (m_cy : Int32) (m_tape : Nat → Int32) (m_taped : Int32) (m_faultKind : Int32) (m_faultPlace : Int32) (x_pair_threefold : Int32) (x_pair_leastX : Int64) (x_pair_leastY : Int64) (x_pair_leastLower : Int64) (x_pair_first_size : Int32) (x_pair_first_chain : Nat → Int32) (x_pair_first_x : Nat → Int32) (x_pair_first_y : Nat → Int32) (x_pair_first_sorted : Nat → Int32) (x_pair_second_size : Int32) (x_pair_second_chain : Nat → Int32) (x_pair_second_x : Nat → Int32) (x_pair_second_y : Nat → Int32) (x_pair_second_sorted : Nat → Int32) (x_pair_third_size : Int32) (x_pair_third_x : Nat → Int32) (x_pair_third_y : Nat → Int32) (x_pair_place_x : Int64) (x_pair_place_y : Int64) (x_pair_place_lower : Int64) (m_rowMany : Int32) (m_placeX : Int64) (m_placeY : Int64) (m_below : Int64) (m_isMet : Int32) (m_hulls : Int32) (m_corner : Nat → Int32) (m_corners : Nat → Int32) (m_row : Nat → Int32) (a1 : Int32) (a2 : Int32) (a3 : Int32) (hR : Rel x_cloud_size x_cloud_x x_cloud_y x_cloud_colour x_cloud_load x_cloud_centreX x_cloud_centreY x_reader_tape x_reader_length x_reader_faultKind x_reader_faultPlace m_many m_px m_py m_colour m_load m_cx m_cy m_tape m_taped m_faultKind m_faultPlace) : ∃ (r : Int64) (o_x_pair_threefold : Int32) (o_x_pair_leastX : Int64) (o_x_pair_leastY : Int64) (o_x_pair_leastLower : Int64) (o_x_pair_first_size : Int32) (o_x_pair_first_chain : Nat → Int32) (o_x_pair_first_x : Nat → Int32) (o_x_pair_first_y : Nat → Int32) (o_x_pair_first_sorted : Nat → Int32) (o_x_pair_second_size : Int32) (o_x_pair_second_chain : Nat → Int32) (o_x_pair_second_x : Nat → Int32) (o_x_pair_second_y : Nat → Int32) (o_x_pair_second_sorted : Nat → Int32) (o_x_pair_place_x : Int64) (o_x_pair_place_y : Int64) (o_x_pair_place_lower : Int64) (o_m_rowMany : Int32) (o_m_placeX : Int64) (o_m_placeY : Int64) (o_m_below : Int64) (o_m_isMet : Int32) (o_m_hulls : Int32) (o_m_corner : Nat → Int32) (o_m_corners : Nat → Int32) (o_m_row : Nat → Int32), fX11_meeting K x_cloud_size x_cloud_x x_cloud_y x_pair_threefold x_pair_leastX x_pair_leastY x_pair_leastLower x_pair_first_size x_pair_first_chain x_pair_first_x x_pair_first_y x_pair_first_sorted x_pair_second_size x_pair_second_chain x_pair_second_x x_pair_second_y x_pair_second_sorted x_pair_third_size x_pair_third_x x_pair_third_y x_pair_place_x x_pair_place_y x_pair_place_lower a1 a2 a3 = some (r, o_x_pair_threefold, o_x_pair_leastX, o_x_pair_leastY, o_x_pair_leastLower, o_x_pair_first_size, o_x_pair_first_chain, o_x_pair_first_x, o_x_pair_first_y, o_x_pair_first_sorted, o_x_pair_second_size, o_x_pair_second_chain, o_x_pair_second_x, o_x_pair_second_y, o_x_pair_second_sorted, o_x_pair_place_x, o_x_pair_place_y, o_x_pair_place_lower) ∧ fX12_meeting K m_many m_rowMany m_placeX m_placeY m_below m_isMet m_hulls m_px m_py m_corner m_corners m_row a1 a2 a3 = some (r, o_m_rowMany, o_m_placeX, o_m_placeY, o_m_below, o_m_isMet, o_m_hulls, o_m_corner, o_m_corners, o_m_row) := by
  obtain ⟨n, rfl, rfl, hXc, hXm⟩ := Rel_pts hR
  unfold fX11_meeting fX12_meeting b1
  rcases hasSet_c K n hXc.1 a1 with ⟨c, c1, c2⟩ | ⟨-, c1, c2⟩
  · rw [c1, c2]
    rcases hasSet_c K n hXc.1 a2 with ⟨d, d1, d2'⟩ | ⟨-, d1, d2'⟩
    · rw [d1, d2']
      obtain ⟨ch1, gx1, gy1, sor1, e1, e2⟩ := buildC2 K hK hXc c x_pair_first_size x_pair_first_chain x_pair_first_x x_pair_first_y x_pair_first_sorted
      obtain ⟨ch2, gx2, gy2, sor2, e3, e4⟩ := buildC2 K hK hXc d x_pair_second_size x_pair_second_chain x_pair_second_x x_pair_second_y x_pair_second_sorted
      obtain ⟨r, a, b, c', p1, q1, l1, p2, q2, l2, met2, hu2, rm2, cor2, cors2, row2, f1, f2, -, -, f3⟩ := meetS K hK hXc hXm c d (x3 := x_pair_third_x) (y3 := x_pair_third_y) (s3 := x_pair_third_size) e2 e4 x_pair_leastX x_pair_leastY x_pair_leastLower x_pair_place_x x_pair_place_y x_pair_place_lower m_placeX m_placeY m_below m_isMet m_hulls m_rowMany m_corner m_corners m_row
      simp only [Option.bind_some, if_neg one_ne, fX3_take, e1, e3, b5, b11, f1, f2, b7, b10, in_spec, long_toInt, show (0 : Int64).toInt = 0 from rfl, show (2 : Int64).toInt = 2 from rfl]
      obtain ⟨g1, g2⟩ := coor_told K p1 q1 l1 a3
      rcases f3 with ⟨h, -⟩ | ⟨h, x1, x2, x3⟩
      · rw [h]
        simp only [if_pos]
        split
        · exact ⟨_, _, _, _, _, _, _, _, _, _, _, _, _, _, _, _, _, _, _, _, _, _, _, _, _, _, _, rfl, rfl⟩
        · exact ⟨_, _, _, _, _, _, _, _, _, _, _, _, _, _, _, _, _, _, _, _, _, _, _, _, _, _, _, rfl, rfl⟩
      · rw [h, ← x1, ← x2, ← x3]
        simp only [if_neg one_ne]
        by_cases w : 0 ≤ a3.toInt ∧ a3.toInt ≤ 2
        · obtain ⟨r3, k1, k2⟩ := g1 w
          rw [if_pos w, if_neg one_ne, k1, k2]
          exact ⟨_, _, _, _, _, _, _, _, _, _, _, _, _, _, _, _, _, _, _, _, _, _, _, _, _, _, _, rfl, rfl⟩
        · rw [if_neg w, if_pos rfl, g2 w]
          exact ⟨_, _, _, _, _, _, _, _, _, _, _, _, _, _, _, _, _, _, _, _, _, _, _, _, _, _, _, rfl, rfl⟩
    · rw [d1, d2']
      exact ⟨_, _, _, _, _, _, _, _, _, _, _, _, _, _, _, _, _, _, _, _, _, _, _, _, _, _, _, rfl, rfl⟩
  · rw [c1, c2]
    exact ⟨_, _, _, _, _, _, _, _, _, _, _, _, _, _, _, _, _, _, _, _, _, _, _, _, _, _, _, rfl, rfl⟩
