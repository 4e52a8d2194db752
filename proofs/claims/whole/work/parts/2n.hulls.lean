--@ needs 2a.num 2b.ev1 2d.gcd 2e.row 2f.row2 2g.bits 2h.hull 2i.hull2 2j.hull3 2k.hull4 2l.side 2m.side2
def hX (X Y : Nat → Int) (S : Int32) (n : Nat) (i : Nat) : Int := X (hg (hulS X Y S n) i)
def hY (X Y : Nat → Int) (S : Int32) (n : Nat) (i : Nat) : Int := Y (hg (hulS X Y S n) i)
def hN (X Y : Nat → Int) (S : Int32) (n : Nat) : Nat := (hulS X Y S n).length
def hulB (px py cor cors : Nat → Int32) (w : Nat) (U V : Nat → Int) (m : Nat) : Prop := w < 3 ∧ cors w = nI m ∧ 0 < m ∧ 24 * w + m ≤ 72 ∧ ∀ i : Nat, i < m → ∃ c : Nat, c < 24 ∧ cor (24 * w + i) = nI c ∧ px c = iI (U i) ∧ py c = iI (V i)
theorem corB (K : Nat) {cor cors : Nat → Int32} {w : Nat} (hw : w < 3) {m : Nat} (h0 : 0 < m) (hb : 24 * w + m ≤ 72) (hc : cors w = nI m) {i : Nat} (hi : i ≤ m) : fX12_cornerOf K cor cors (nI w) (nI i) = some (cor (24 * w + cy m i)) := by
  unfold fX12_cornerOf
  simp only [gd_t (inb_nI hw (by decide)), nI_clamp (show w < 2 ^ 31 by omega), hc, xl]
  rw [gd_t (by simp [nI_ne0 h0 (show m < 2 ^ 31 by omega)])]
  rw [show (24 : Int32) * nI w = nI (24 * w) from by rw [nI_iI, nI_iI, show (24 : Int32) = iI 24 from rfl, iI_mul]; congr 1]
  unfold cy
  by_cases c : i < m
  · rw [jrem_lt c (by omega), nI_add, gd_t (inb_nI (show 24 * w + i < 72 by omega) (by decide)), nI_clamp (by omega), if_pos c]
  · have e : i = m := by omega
    subst e
    rw [jrem_self h0 (by omega), nI_add, gd_t (inb_nI (show 24 * w + 0 < 72 by omega) (by decide)), nI_clamp (by omega), if_neg (by omega)]
theorem hulB_M (K : Nat) {px py cor cors : Nat → Int32} {w : Nat} {U V : Nat → Int} {m : Nat} (h : hulB px py cor cors w U V m) : hulM K px py cor cors w U V m := by
  obtain ⟨hw, hc, h0, hb, hh⟩ := h
  refine ⟨hw, hc, fun i hi => ?_⟩
  obtain ⟨c, c1, c2, c3, c4⟩ := hh (cy m i) (cy_lt h0)
  exact ⟨c, c1, by rw [corB K hw h0 hb hc hi, c2], c3, c4⟩
theorem hulB_fr {px py cor cors cor' cors' : Nat → Int32} {w w' : Nat} {U V : Nat → Int} {m : Nat} (h : hulB px py cor cors w U V m) (hm : m ≤ 24) (hw : w < w') (hf : ∀ j : Nat, j < 24 * w' → cor' j = cor j) (hc : cors' w = cors w) : hulB px py cor' cors' w U V m := by
  obtain ⟨h1, h2, h3, h4, h5⟩ := h
  refine ⟨h1, by rw [hc, h2], h3, h4, fun i hi => ?_⟩
  obtain ⟨c, c1, c2, c3⟩ := h5 i hi
  exact ⟨c, c1, by rw [hf _ (by omega), c2], c3⟩
theorem row_pos {n : Nat} (hn : n ≤ 24) {X Y : Nat → Int} {S : Int32} (c : isSt n S) : 0 < (rowL X Y S n).length := rowL_pos n (isSt_bit hn c)
theorem hN_rng {n : Nat} (hn : n ≤ 24) {X Y : Nat → Int} {S : Int32} (c : isSt n S) : 0 < hN X Y S n ∧ hN X Y S n ≤ 46 := by
  obtain ⟨hq1, hq2, hq3⟩ := hulS_ok X Y S n hn (row_pos hn c)
  exact ⟨hq3, hq2⟩
theorem hU_ok {n : Nat} {x y : Nat → Int32} {X Y : Nat → Int} (hX' : Pts n x y X Y) {S : Int32} (c : isSt n S) : okU (hX X Y S n) (hY X Y S n) (hN X Y S n) := by
  obtain ⟨hq1, hq2, hq3⟩ := hulS_ok X Y S n hX'.1 (row_pos hX'.1 c)
  exact okU_of hX' hq1
theorem buildC2 (K : Nat) (hK : 4000 ≤ K) {n : Nat} {x y : Nat → Int32} {X Y : Nat → Int} (hX' : Pts n x y X Y) {S : Int32} (c : isSt n S) (size : Int32) (ch gx gy sor : Nat → Int32) : ∃ ch' gx' gy' sor', fX2_build K size ch gx gy sor (nI n) x y S = some (nI (hN X Y S n), ch', gx', gy', sor') ∧ hulA gx' gy' (hX X Y S n) (hY X Y S n) (hN X Y S n) := by
  obtain ⟨ch', gx', gy', sor', e1, e2, e3, e4, e5, e6⟩ := buildC K hK hX' S (row_pos hX'.1 c) size ch gx gy sor
  obtain ⟨hq1, hq2, hq3⟩ := hulS_ok X Y S n hX'.1 (row_pos hX'.1 c)
  exact ⟨ch', gx', gy', sor', e1, hulA_of hq3 e3 e4 e5 e6⟩
theorem laysM2 (K : Nat) (hK : 4000 ≤ K) {n : Nat} {px py : Nat → Int32} {X Y : Nat → Int} (hX' : Pts n px py X Y) {S : Int32} (c : isSt n S) (w : Nat) (hw : w < 3) (hb : 24 * w + 2 * (rowL X Y S n).length ≤ 73) (rm : Int32) (cor cors row : Nat → Int32) : ∃ cor' row', fX12_laysHull K (nI n) rm px py cor cors row (nI w) S = some (nI (rowL X Y S n).length, cor', upd cors w (nI (hN X Y S n)), row') ∧ (24 * w + hN X Y S n ≤ 72 → hulB px py cor' (upd cors w (nI (hN X Y S n))) w (hX X Y S n) (hY X Y S n) (hN X Y S n)) ∧ ∀ j : Nat, j < 24 * w → cor' j = cor j := by
  obtain ⟨cor', row', f1, f2, f3⟩ := laysM K hK hX' S (row_pos hX'.1 c) w hw hb rm cor cors row
  obtain ⟨hq1, hq2, hq3⟩ := hulS_ok X Y S n hX'.1 (row_pos hX'.1 c)
  refine ⟨cor', row', f1, fun hbb => ⟨hw, upd_at, hq3, hbb, fun i hi => ?_⟩, f3⟩
  have hm := hq1 _ (hg_mem hi)
  exact ⟨hg (hulS X Y S n) i, by have := hX'.1; omega, stk_hg f2 i hi, (hX'.2 _ hm).1, (hX'.2 _ hm).2.1⟩
theorem laysM0 (K : Nat) (hK : 4000 ≤ K) {n : Nat} {px py : Nat → Int32} {X Y : Nat → Int} (hX' : Pts n px py X Y) {S : Int32} (c : isSt n S) (rm : Int32) (cor cors row : Nat → Int32) : ∃ rm' cor' cors' row', fX12_laysHull K (nI n) rm px py cor cors row 0 S = some (rm', cor', cors', row') ∧ hulB px py cor' cors' 0 (hX X Y S n) (hY X Y S n) (hN X Y S n) := by
  obtain ⟨-, -, r3⟩ := rowL_ok X Y S n
  obtain ⟨cor', row', f1, f2, -⟩ := laysM2 K hK hX' c 0 (by decide) (by have := hX'.1; omega) rm cor cors row
  have := (hN_rng (X := X) (Y := Y) hX'.1 c).2
  exact ⟨_, cor', _, row', f1, f2 (by omega)⟩
theorem long_small {a : Int32} {z : Int} (h : a = iI z) (hz : s32 z) : a.toInt64 = jJ z := by rw [h, iI_long hz]
theorem isPl_iI {a b : Int32} (h : isPl a b) : okP a.toInt b.toInt 1 := ⟨by have := h.1; omega, by have := h.2; omega, by decide, by decide⟩
theorem ev_where (K : Nat) (hK : 4000 ≤ K) (x_cloud_size : Int32) (x_cloud_x : Nat → Int32) (x_cloud_y : Nat → Int32) (x_cloud_colour : Nat → Int32) (x_cloud_load : Nat → Int32) (x_cloud_centreX : Int32) (x_cloud_centreY : Int32) (x_reader_tape : Nat → Int32) (x_reader_length : Int32) (x_reader_faultKind : Int32) (x_reader_faultPlace : Int32) (m_many : Int32) (m_px : Nat → Int32) (m_py : Nat → Int32) (m_colour : Nat → Int32) (m_load : Nat → Int32) (m_cx : Int32) (m_cy : Int32) (m_tape : Nat → Int32) (m_taped : Int32) (m_faultKind : Int32) (m_faultPlace : Int32) (x_hull_size : Int32) (x_hull_chain : Nat → Int32) (x_hull_x : Nat → Int32) (x_hull_y : Nat → Int32) (x_hull_sorted : Nat → Int32) (m_rowMany : Int32) (m_corner : Nat → Int32) (m_corners : Nat → Int32) (m_row : Nat → Int32) (a1 : Int32) (a2 : Int32) (a3 : Int32) (hR : Rel x_cloud_size x_cloud_x x_cloud_y x_cloud_colour x_cloud_load x_cloud_centreX x_cloud_centreY x_reader_tape x_reader_length x_reader_faultKind x_reader_faultPlace m_many m_px m_py m_colour m_load m_cx m_cy m_tape m_taped m_faultKind m_faultPlace) : ∃ (r : Int32) (o_x_hull_size : Int32) (o_x_hull_chain : Nat → Int32) (o_x_hull_x : Nat → Int32) (o_x_hull_y : Nat → Int32) (o_x_hull_sorted : Nat → Int32) (o_m_rowMany : Int32) (o_m_corner : Nat → Int32) (o_m_corners : Nat → Int32) (o_m_row : Nat → Int32), fX11_where K x_cloud_size x_cloud_x x_cloud_y x_hull_size x_hull_chain x_hull_x x_hull_y x_hull_sorted a1 a2 a3 = some (r, o_x_hull_size, o_x_hull_chain, o_x_hull_x, o_x_hull_y, o_x_hull_sorted) ∧ fX12_where K m_many m_rowMany m_px m_py m_corner m_corners m_row a1 a2 a3 = some (r, o_m_rowMany, o_m_corner, o_m_corners, o_m_row) := by
  obtain ⟨n, rfl, rfl, hXc, hXm⟩ := Rel_pts hR
  unfold fX11_where fX12_where b1
  rcases hasSet_c K n hXc.1 a1 with ⟨c, c1, c2⟩ | ⟨-, c1, c2⟩
  · rw [c1, c2]
    rcases isPlace_c K a2 a3 with ⟨q, q1, q2⟩ | ⟨-, q1, q2⟩
    · rw [q1, q2]
      obtain ⟨ch', gx', gy', sor', e1, e2⟩ := buildC2 K hK hXc c x_hull_size x_hull_chain x_hull_x x_hull_y x_hull_sorted
      obtain ⟨rm', cor', cors', row', f1, f2⟩ := laysM0 K hK hXm c m_rowMany m_corner m_corners m_row
      have hU := hU_ok hXc c
      have hr := hN_rng (X := fun i => (x_cloud_x i).toInt) (Y := fun i => (x_cloud_y i).toInt) hXc.1 c
      have g1 := sideC K hK hr.1 (by omega) e2 hU (isPl_iI q)
      have g2 := sideM K hK (hulB_M K f2) hr.1 (by omega) hU (isPl_iI q)
      rw [← long_iI, ← long_iI] at g1 g2
      simp only [Option.bind_some, if_neg one_ne, e1, f1, b5, b4]
      rw [show fX2_sideOf K (nI (hN (fun i => (x_cloud_x i).toInt) (fun i => (x_cloud_y i).toInt) a1 n)) gx' gy' a2.toInt64 a3.toInt64 1 = _ from g1, show fX12_sideOf K m_px m_py cor' cors' 0 a2.toInt64 a3.toInt64 1 = _ from g2]
      exact ⟨_, _, _, _, _, _, _, _, _, _, rfl, rfl⟩
    · rw [q1, q2]
      exact ⟨_, _, _, _, _, _, _, _, _, _, rfl, rfl⟩
  · rw [c1, c2]
    exact ⟨_, _, _, _, _, _, _, _, _, _, rfl, rfl⟩
theorem Rel_c {size : Int32} {x y col load : Nat → Int32} {cx cy : Int32} {tape : Nat → Int32} {len fk fp many : Int32} {px py mcol mload : Nat → Int32} {mcx mcy : Int32} {mtape : Nat → Int32} {taped mfk mfp : Int32} (hR : Rel size x y col load cx cy tape len fk fp many px py mcol mload mcx mcy mtape taped mfk mfp) : mcx = cx ∧ mcy = cy ∧ isPl cx cy := by
  obtain ⟨-, ⟨g1, g2, e1, e2⟩, -⟩ := hR
  exact ⟨e1, e2, g1, g2⟩
/-- the model's question whether a set's hull holds a place -/
theorem holdsM (K : Nat) (hK : 4000 ≤ K) {n : Nat} {px py : Nat → Int32} {X Y : Nat → Int} (hX' : Pts n px py X Y) {S : Int32} (c : isSt n S) {a b : Int32} (hp : isPl a b) (rm : Int32) (cor cors row : Nat → Int32) : ∃ rm' cor' cors' row', fX12_holdsSet K (nI n) rm px py cor cors row S a b = some (if sdv (hX X Y S n) (hY X Y S n) (hN X Y S n) a.toInt b.toInt 1 ≤ 0 then 0 else 1, rm', cor', cors', row') := by
  obtain ⟨rm', cor', cors', row', f1, f2⟩ := laysM0 K hK hX' c rm cor cors row
  have hU := hU_ok hX' c
  have hr := hN_rng (X := X) (Y := Y) hX'.1 c
  have g2 := sideM K hK (hulB_M K f2) hr.1 (by omega) hU (isPl_iI hp)
  rw [← long_iI, ← long_iI] at g2
  unfold fX12_holdsSet
  rw [f1]
  simp only [b4, b1, Option.bind_some]
  rw [show fX12_sideOf K px py cor' cors' 0 a.toInt64 b.toInt64 1 = _ from g2]
  simp only [Option.bind_some]
  refine ⟨rm', cor', cors', row', ?_⟩
  split <;> rfl
theorem ev_holds (K : Nat) (hK : 4000 ≤ K) (x_cloud_size : Int32) (x_cloud_x : Nat → Int32) (x_cloud_y : Nat → Int32) (x_cloud_colour : Nat → Int32) (x_cloud_load : Nat → Int32) (x_cloud_centreX : Int32) (x_cloud_centreY : Int32) (x_reader_tape : Nat → Int32) (x_reader_length : Int32) (x_reader_faultKind : Int32) (x_reader_faultPlace : Int32) (m_many : Int32) (m_px : Nat → Int32) (m_py : Nat → Int32) (m_colour : Nat → Int32) (m_load : Nat → Int32) (m_cx : Int32) (m_cy : Int32) (m_tape : Nat → Int32) (m_taped : Int32) (m_faultKind : Int32) (m_faultPlace : Int32) (x_hull_size : Int32) (x_hull_chain : Nat → Int32) (x_hull_x : Nat → Int32) (x_hull_y : Nat → Int32) (x_hull_sorted : Nat → Int32) (m_rowMany : Int32) (m_corner : Nat → Int32) (m_corners : Nat → Int32) (m_row : Nat → Int32) (a1 : Int32) (hR : Rel x_cloud_size x_cloud_x x_cloud_y x_cloud_colour x_cloud_load x_cloud_centreX x_cloud_centreY x_reader_tape x_reader_length x_reader_faultKind x_reader_faultPlace m_many m_px m_py m_colour m_load m_cx m_cy m_tape m_taped m_faultKind m_faultPlace) : ∃ (r : Int32) (o_x_hull_size : Int32) (o_x_hull_chain : Nat → Int32) (o_x_hull_x : Nat → Int32) (o_x_hull_y : Nat → Int32) (o_x_hull_sorted : Nat → Int32) (o_m_rowMany : Int32) (o_m_corner : Nat → Int32) (o_m_corners : Nat → Int32) (o_m_row : Nat → Int32), fX11_holds K x_cloud_size x_cloud_centreX x_cloud_centreY x_cloud_x x_cloud_y x_hull_size x_hull_chain x_hull_x x_hull_y x_hull_sorted a1 = some (r, o_x_hull_size, o_x_hull_chain, o_x_hull_x, o_x_hull_y, o_x_hull_sorted) ∧ fX12_holds K m_many m_cx m_cy m_rowMany m_px m_py m_corner m_corners m_row a1 = some (r, o_m_rowMany, o_m_corner, o_m_corners, o_m_row) := by
  obtain ⟨n, rfl, rfl, hXc, hXm⟩ := Rel_pts hR
  obtain ⟨rfl, rfl, hp⟩ := Rel_c hR
  unfold fX11_holds fX12_holds b1
  rcases hasSet_c K n hXc.1 a1 with ⟨c, c1, c2⟩ | ⟨-, c1, c2⟩
  · rw [c1, c2]
    obtain ⟨ch', gx', gy', sor', e1, e2⟩ := buildC2 K hK hXc c x_hull_size x_hull_chain x_hull_x x_hull_y x_hull_sorted
    obtain ⟨rm', cor', cors', row', f1⟩ := holdsM K hK hXm c hp m_rowMany m_corner m_corners m_row
    have hU := hU_ok hXc c
    have hr := hN_rng (X := fun i => (x_cloud_x i).toInt) (Y := fun i => (x_cloud_y i).toInt) hXc.1 c
    have g1 := sideC K hK hr.1 (by omega) e2 hU (isPl_iI hp)
    rw [← long_iI, ← long_iI] at g1
    simp only [Option.bind_some, if_neg one_ne, e1, f1, b5, b4]
    rw [show fX2_sideOf K (nI (hN (fun i => (x_cloud_x i).toInt) (fun i => (x_cloud_y i).toInt) a1 n)) gx' gy' _ _ 1 = _ from g1]
    simp only [Option.bind_some]
    split
    · exact ⟨_, _, _, _, _, _, _, _, _, _, rfl, rfl⟩
    · exact ⟨_, _, _, _, _, _, _, _, _, _, rfl, rfl⟩
  · rw [c1, c2]
    exact ⟨_, _, _, _, _, _, _, _, _, _, rfl, rfl⟩
/-- whole places on an edge -/
def rimF (U V : Nat → Int) (m j : Nat) : Int := (Int.gcd (U (cy m (j + 1)) - U j) (V (cy m (j + 1)) - V j) : Nat)
theorem rimC (K : Nat) (hK : 4000 ≤ K) {gx gy : Nat → Int32} {U V : Nat → Int} {m : Nat} (hm : m < 48) (h : hulA gx gy U V m) (hU : okU U V m) : ∀ (fu i : Nat), i ≤ m → m - i < fu → fX2_wholePlaces_L4 K (nI m) gx gy fu (iI (sumF (rimF U V m) i)) (nI i) = some (iI (sumF (rimF U V m) m)) := by
  intro fu
  induction fu with
  | zero => intro i h1 h2; omega
  | succ fu ih =>
    intro i h1 h2
    rw [fX2_wholePlaces_L4]
    by_cases c : i = m
    · subst c
      rw [if_pos (nI_le (Nat.le_refl i) (by omega))]
    · rw [if_neg (nI_ge (show i < m by omega) (by omega))]
      obtain ⟨a1, a2⟩ := h i (by omega)
      obtain ⟨b1', b2⟩ := h (i + 1) (by omega)
      have ci : cy m i = i := if_pos (by omega)
      rw [ci] at a1 a2
      obtain ⟨u1, u2⟩ := hU i (by omega)
      obtain ⟨v1, v2⟩ := hU (cy m (i + 1)) (cy_lt (by omega))
      simp only [nI_1, gd_t (inb_nI (show i < 48 by omega) (by decide)), gd_t (inb_nI (show i + 1 < 48 by omega) (by decide)), nI_clamp (show i < 2 ^ 31 by omega), nI_clamp (show i + 1 < 2 ^ 31 by omega), a1, a2, b1', b2, xl, iI_sub]
      rw [iI_long (show s32 (U (cy m (i + 1)) - U i) from ⟨by omega, by omega⟩), iI_long (show s32 (V (cy m (i + 1)) - V i) from ⟨by omega, by omega⟩)]
      rw [(gcd_spec K hK _ _ (by omega) (by omega) (by omega) (by omega)).1]
      simp only [b1, Option.bind_some, jJ_int, iI_add]
      exact ih (i + 1) (by omega) (by omega)
theorem rimM (K : Nat) (hK : 4000 ≤ K) {px py cor cors : Nat → Int32} {U V : Nat → Int} {m : Nat} (h : hulM K px py cor cors 0 U V m) (hm : m < 48) (hU : okU U V m) {e : Nat} (he : e ≤ m) (hed : fX12_edges K cors 0 = some (nI e)) : ∀ (fu i : Nat), i ≤ e → e - i < fu → fX12_places_L21 K px py cor cors fu (iI (sumF (rimF U V m) i)) (nI i) = some (iI (sumF (rimF U V m) e)) := by
  intro fu
  induction fu with
  | zero => intro i h1 h2; omega
  | succ fu ih =>
    intro i h1 h2
    rw [fX12_places_L21, hed]
    simp only [b1, Option.bind_some]
    by_cases c : i = e
    · subst c
      rw [if_pos (nI_le (Nat.le_refl i) (by omega))]
    · rw [if_neg (nI_ge (show i < e by omega) (by omega))]
      obtain ⟨hw, hc, hcor⟩ := id h
      obtain ⟨ca, ca1, ca2, ca3, ca4⟩ := hcor i (by omega)
      obtain ⟨cb, cb1, cb2, cb3, cb4⟩ := hcor (i + 1) (by omega)
      have ca2' : fX12_cornerOf K cor cors 0 (nI i) = some (nI ca) := ca2
      have cb2' : fX12_cornerOf K cor cors 0 (nI (i + 1)) = some (nI cb) := cb2
      have ci : cy m i = i := if_pos (by omega)
      rw [ci] at ca3 ca4
      obtain ⟨u1, u2⟩ := hU i (by omega)
      obtain ⟨v1, v2⟩ := hU (cy m (i + 1)) (cy_lt (by omega))
      simp only [nI_1, ca2', cb2', Option.bind_some, gd_t (inb_nI ca1 (by decide)), gd_t (inb_nI cb1 (by decide)), nI_clamp (show ca < 2 ^ 31 by omega), nI_clamp (show cb < 2 ^ 31 by omega), ca3, ca4, cb3, cb4, xl, iI_sub]
      rw [iI_long (show s32 (U i - U (cy m (i + 1))) from ⟨by omega, by omega⟩), iI_long (show s32 (V i - V (cy m (i + 1))) from ⟨by omega, by omega⟩)]
      rw [(gcd_spec K hK _ _ (by omega) (by omega) (by omega) (by omega)).2]
      simp only [Option.bind_some, jJ_int, iI_add]
      rw [show Int.gcd (U i - U (cy m (i + 1))) (V i - V (cy m (i + 1))) = Int.gcd (U (cy m (i + 1)) - U i) (V (cy m (i + 1)) - V i) from by rw [← Int.neg_gcd, ← Int.gcd_neg]; congr 1 <;> omega]
      exact ih (i + 1) (by omega) (by omega)
theorem gcd_le40 {a b : Int} (ha : -40 ≤ a ∧ a ≤ 40) (hb : -40 ≤ b ∧ b ≤ 40) : Int.gcd a b ≤ 40 := by
  by_cases c : a = 0
  · subst c; rw [Int.gcd_zero_left]; omega
  · have := Int.gcd_le_natAbs_left (b := b) c
    omega
theorem rim_half {U V : Nat → Int} {m : Nat} (h0 : 0 < m) (h : m ≤ 2) (hU : okU U V m) : (iI 0 + iI (sumF (rimF U V m) m)) / (2 : Int32) = iI (sumF (rimF U V m) (m - 1)) := by
  have hcase : m = 1 ∨ m = 2 := by omega
  rcases hcase with rfl | rfl
  · have : rimF U V 1 0 = 0 := by
      unfold rimF
      rw [show cy 1 (0 + 1) = 0 from rfl, Int.sub_self, Int.sub_self]; rfl
    rw [show (1 : Nat) - 1 = 0 from rfl]
    simp only [sumF, this]; decide
  · obtain ⟨u1, u2⟩ := hU 0 (by decide)
    obtain ⟨v1, v2⟩ := hU 1 (by decide)
    have r1 : rimF U V 2 1 = rimF U V 2 0 := by
      unfold rimF
      rw [show cy 2 (1 + 1) = 0 from rfl, show cy 2 (0 + 1) = 1 from rfl, ← Int.neg_gcd, ← Int.gcd_neg]
      congr 2 <;> omega
    have hgc : 0 ≤ rimF U V 2 0 ∧ rimF U V 2 0 ≤ 40 := by
      unfold rimF
      rw [show cy 2 (0 + 1) = 1 from rfl]
      have := gcd_le40 (a := U 1 - U 0) (b := V 1 - V 0) (by omega) (by omega)
      exact ⟨by omega, by omega⟩
    simp only [sumF, r1]
    generalize rimF U V 2 0 = g at *
    rw [iI_add, show (2 : Int32) = iI 2 from rfl]
    have e := @Int32.ofInt_tdiv (0 + (0 + g + g)) 2 (by rw [Int32.toInt_minValue]; omega) (by rw [Int32.toInt_maxValue]; omega) (by rw [Int32.toInt_minValue]; omega) (by rw [Int32.toInt_maxValue]; omega)
    refine (show iI (0 + (0 + g + g)) / iI 2 = _ from e.symm).trans ?_
    show iI _ = iI _
    congr 1
    rw [Int.tdiv_eq_ediv_of_nonneg (by omega)]; omega
theorem ev_places (K : Nat) (hK : 4000 ≤ K) (x_cloud_size : Int32) (x_cloud_x : Nat → Int32) (x_cloud_y : Nat → Int32) (x_cloud_colour : Nat → Int32) (x_cloud_load : Nat → Int32) (x_cloud_centreX : Int32) (x_cloud_centreY : Int32) (x_reader_tape : Nat → Int32) (x_reader_length : Int32) (x_reader_faultKind : Int32) (x_reader_faultPlace : Int32) (m_many : Int32) (m_px : Nat → Int32) (m_py : Nat → Int32) (m_colour : Nat → Int32) (m_load : Nat → Int32) (m_cx : Int32) (m_cy : Int32) (m_tape : Nat → Int32) (m_taped : Int32) (m_faultKind : Int32) (m_faultPlace : Int32) (x_hull_size : Int32) (x_hull_chain : Nat → Int32) (x_hull_x : Nat → Int32) (x_hull_y : Nat → Int32) (x_hull_sorted : Nat → Int32) (m_rowMany : Int32) (m_corner : Nat → Int32) (m_corners : Nat → Int32) (m_row : Nat → Int32) (a1 : Int32) (hR : Rel x_cloud_size x_cloud_x x_cloud_y x_cloud_colour x_cloud_load x_cloud_centreX x_cloud_centreY x_reader_tape x_reader_length x_reader_faultKind x_reader_faultPlace m_many m_px m_py m_colour m_load m_cx m_cy m_tape m_taped m_faultKind m_faultPlace) : ∃ (r : Int32) (o_x_hull_size : Int32) (o_x_hull_chain : Nat → Int32) (o_x_hull_x : Nat → Int32) (o_x_hull_y : Nat → Int32) (o_x_hull_sorted : Nat → Int32) (o_m_rowMany : Int32) (o_m_corner : Nat → Int32) (o_m_corners : Nat → Int32) (o_m_row : Nat → Int32), fX11_places K x_cloud_size x_cloud_x x_cloud_y x_hull_size x_hull_chain x_hull_x x_hull_y x_hull_sorted a1 = some (r, o_x_hull_size, o_x_hull_chain, o_x_hull_x, o_x_hull_y, o_x_hull_sorted) ∧ fX12_places K m_many m_rowMany m_px m_py m_corner m_corners m_row a1 = some (r, o_m_rowMany, o_m_corner, o_m_corners, o_m_row) := by
  obtain ⟨n, rfl, rfl, hXc, hXm⟩ := Rel_pts hR
  unfold fX11_places fX12_places b1
  rcases hasSet_c K n hXc.1 a1 with ⟨c, c1, c2⟩ | ⟨-, c1, c2⟩
  · rw [c1, c2]
    have h0 := row_pos (X := fun i => (x_cloud_x i).toInt) (Y := fun i => (x_cloud_y i).toInt) hXc.1 c
    obtain ⟨-, -, r3⟩ := rowL_ok (fun i => (x_cloud_x i).toInt) (fun i => (x_cloud_y i).toInt) a1 n
    obtain ⟨ch', gx', gy', sor', e1, e2, e3, e4, e5, e6⟩ := buildC K hK hXc a1 h0 x_hull_size x_hull_chain x_hull_x x_hull_y x_hull_sorted
    obtain ⟨cor', row', f1, f2, -⟩ := laysM K hK hXm a1 h0 0 (by decide) (by have := hXc.1; omega) m_rowMany m_corner m_corners m_row
    obtain ⟨hq1, hq2, hq3⟩ := hulS_ok (fun i => (x_cloud_x i).toInt) (fun i => (x_cloud_y i).toInt) a1 n hXc.1 h0
    obtain ⟨r, g1, g2, g3⟩ := area_both K hK hXm (cors := upd m_corners 0 (nI (hulS (fun i => (x_cloud_x i).toInt) (fun i => (x_cloud_y i).toInt) a1 n).length)) hq3 (by omega) hq1 upd_at f2 (hulA_of hq3 e3 e4 e5 e6)
    have hA := hulA_of hq3 e3 e4 e5 e6
    have hM := hulM_of K hXm (cors := upd m_corners 0 (nI (hulS (fun i => (x_cloud_x i).toInt) (fun i => (x_cloud_y i).toInt) a1 n).length)) (w := 0) (by decide) hq1 hq3 (by omega) upd_at f2 (by omega)
    have hU := okU_of hXm hq1
    generalize hulS (fun i => (x_cloud_x i).toInt) (fun i => (x_cloud_y i).toInt) a1 n = Hu at *
    have q1 := rimC K hK (by omega) hA hU K 0 (by omega) (by omega)
    simp only [Option.bind_some, if_neg one_ne, e1, b5, b4, fX2_wholePlaces, b1]
    rw [show fX12_laysHull K (nI n) m_rowMany m_px m_py m_corner m_corners m_row 0 a1 = _ from f1, show fX2_wholePlaces_L4 K (nI Hu.length) gx' gy' K 0 0 = _ from q1, g1]
    simp only [Option.bind_some, show (0 : Int32).toNatClampNeg = 0 from rfl, upd_at]
    by_cases d : Hu.length ≤ 2
    · have q2 := rimM K hK hM (by omega) hU (e := Hu.length - 1) (by omega) (edgesM2 K hM hq3 (by omega)) K 0 (by omega) (by omega)
      rw [show fX12_places_L21 K m_px m_py cor' (upd m_corners 0 (nI Hu.length)) K 0 0 = _ from q2]
      simp only [Option.bind_some]
      rw [if_pos (show nI Hu.length ≤ (2 : Int32) from (show nI Hu.length ≤ nI 2 from nI_le d (by decide))), g3 (by omega)]
      have key := rim_half hq3 d hU
      rw [key]
      exact ⟨_, _, _, _, _, _, _, _, _, _, rfl, rfl⟩
    · have q2 := rimM K hK hM (by omega) hU (e := Hu.length) (by omega) (edgesM3 K hM (by omega) (by omega)) K 0 (by omega) (by omega)
      rw [show fX12_places_L21 K m_px m_py cor' (upd m_corners 0 (nI Hu.length)) K 0 0 = _ from q2]
      simp only [Option.bind_some]
      rw [if_neg (show ¬ nI Hu.length ≤ (2 : Int32) from (show ¬ nI Hu.length ≤ nI 2 from nI_ge (by omega) (by omega))), g2]
      exact ⟨_, _, _, _, _, _, _, _, _, _, rfl, rfl⟩
  · rw [c1, c2]
    exact ⟨_, _, _, _, _, _, _, _, _, _, rfl, rfl⟩
