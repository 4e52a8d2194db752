theorem ev_corner (K : Nat) (hK : 4000 ≤ K) (x_cloud_size : Int32) (x_cloud_x : Nat → Int32) (x_cloud_y : Nat → Int32) (x_cloud_colour : Nat → Int32) (x_cloud_load : Nat → Int32) (x_cloud_centreX : Int32) (x_cloud_centreY : Int32) (x_reader_tape : Nat → Int32) (x_reader_length : Int32) (x_reader_faultKind : Int32) (x_reader_faultPlace : Int32) (m_many : Int32) (m_px : Nat → Int32) (m_py : Nat → Int32) (m_colour : Nat → Int32) (m_load : Nat → Int32) (m_cx : Int32) (m_cy : Int32) (m_tape : Nat → Int32) (m_taped : Int32) (m_faultKind : Int32) (m_faultPlace : Int32) (x_hull_size : Int32) (x_hull_chain : Nat → Int32) (x_hull_x : Nat → Int32) (x_hull_y : Nat → Int32) (x_hull_sorted : Nat → Int32) (m_rowMany : Int32) (m_corner : Nat → Int32) (m_corners : Nat → Int32) (m_row : Nat → Int32) (a1 : Int32) (a2 : Int32) (hR : Rel x_cloud_size x_cloud_x x_cloud_y x_cloud_colour x_cloud_load x_cloud_centreX x_cloud_centreY x_reader_tape x_reader_length x_reader_faultKind x_reader_faultPlace m_many m_px m_py m_colour m_load m_cx m_cy m_tape m_taped m_faultKind m_faultPlace) : ∃ (r : Int32) (o_x_hull_size : Int32) (o_x_hull_chain : Nat → Int32) (o_x_hull_x : Nat → Int32) (o_x_hull_y : Nat → Int32) (o_x_hull_sorted : Nat → Int32) (o_m_rowMany : Int32) (o_m_corner : Nat → Int32) (o_m_corners : Nat → Int32) (o_m_row : Nat → Int32), fX11_corner K x_cloud_size x_cloud_x x_cloud_y x_hull_size x_hull_chain x_hull_x x_hull_y x_hull_sorted a1 a2 = some (r, o_x_hull_size, o_x_hull_chain, o_x_hull_x, o_x_hull_y, o_x_hull_sorted) ∧ fX12_corner K m_many m_rowMany m_px m_py m_corner m_corners m_row a1 a2 = some (r, o_m_rowMany, o_m_corner, o_m_corners, o_m_row) := by
  obtain ⟨n, rfl, rfl, hXc, hXm⟩ := Rel_pts hR
  unfold fX11_corner fX12_corner b1
  rcases hasSet_c K n hXc.1 a1 with ⟨c, c1, c2⟩ | ⟨-, c1, c2⟩
  · rw [c1, c2]
    have h0 := rowL_pos (X := fun i => (x_cloud_x i).toInt) (Y := fun i => (x_cloud_y i).toInt) n (isSt_bit hXc.1 c)
    obtain ⟨-, -, r3⟩ := rowL_ok (fun i => (x_cloud_x i).toInt) (fun i => (x_cloud_y i).toInt) a1 n
    obtain ⟨ch', gx', gy', sor', e1, e2, -⟩ := buildC K hK hXc a1 h0 x_hull_size x_hull_chain x_hull_x x_hull_y x_hull_sorted
    obtain ⟨cor', row', f1, f2, -⟩ := laysM K hK hXm a1 h0 0 (by decide) (by have := hXc.1; omega) m_rowMany m_corner m_corners m_row
    obtain ⟨hq1, hq2, hq3⟩ := hulS_ok (fun i => (x_cloud_x i).toInt) (fun i => (x_cloud_y i).toInt) a1 n hXc.1 h0
    generalize hulS (fun i => (x_cloud_x i).toInt) (fun i => (x_cloud_y i).toInt) a1 n = Hu at *
    simp only [Option.bind_some, if_neg one_ne]
    by_cases d : 0 ≤ a2
    · rw [if_pos d, if_pos d, e1, show fX12_laysHull K (nI n) m_rowMany m_px m_py m_corner m_corners m_row 0 a1 = _ from f1]
      simp only [b5, b4, Option.bind_some, show (0 : Int32).toNatClampNeg = 0 from rfl, upd_at]
      obtain ⟨j, hj, rfl⟩ := nI_of (Int32.not_lt.mpr d)
      by_cases g : Hu.length ≤ j
      · rw [if_pos (nI_le g hj), if_pos (nI_le g hj)]
        exact ⟨_, _, _, _, _, _, _, _, _, _, rfl, rfl⟩
      · rw [if_neg (nI_ge (by omega) (by omega)), if_neg (nI_ge (by omega) (by omega)), gd_t (inb_nI (show j < 48 by omega) (by decide)), nI_clamp (by omega)]
        rw [show fX12_cornerOf K cor' (upd m_corners 0 (nI Hu.length)) 0 (nI j) = _ from cornerM K (w := 0) (by decide) hq3 (by omega) upd_at f2 (by omega) (show j ≤ Hu.length by omega)]
        have e3 := stk_hg e2 j (by omega)
        rw [Nat.zero_add] at e3
        simp only [Option.bind_some, e3, cy, if_pos (show j < Hu.length by omega)]
        exact ⟨_, _, _, _, _, _, _, _, _, _, rfl, rfl⟩
    · rw [if_neg d, if_neg d]
      exact ⟨_, _, _, _, _, _, _, _, _, _, rfl, rfl⟩
  · rw [c1, c2]
    exact ⟨_, _, _, _, _, _, _, _, _, _, rfl, rfl⟩
def sumF (f : Nat → Int) : Nat → Int
  | 0 => 0
  | k + 1 => sumF f k + f k
theorem sumF_congr {f g : Nat → Int} : ∀ {k : Nat}, (∀ j : Nat, j < k → f j = g j) → sumF f k = sumF g k := by
  intro k
  induction k with
  | zero => intro _; rfl
  | succ k ih =>
    intro h
    rw [sumF, sumF, ih (fun j hj => h j (by omega)), h k (by omega)]
/-- what the class's hull arrays hold: corners, and the first one's place behind the last -/
def hulA (gx gy : Nat → Int32) (U V : Nat → Int) (m : Nat) : Prop := ∀ i : Nat, i ≤ m → gx i = iI (U (cy m i)) ∧ gy i = iI (V (cy m i))
theorem hulA_of {gx gy : Nat → Int32} {X Y : Nat → Int} {H : List Nat} (h0 : 0 < H.length) (hx : stv gx X H) (hy : stv gy Y H) (ex : gx H.length = gx 0) (ey : gy H.length = gy 0) : hulA gx gy (fun i => X (hg H i)) (fun i => Y (hg H i)) H.length := by
  intro i hi
  unfold cy
  by_cases c : i < H.length
  · rw [if_pos c]; exact ⟨stv_hg hx i c, stv_hg hy i c⟩
  · have e : i = H.length := by omega
    rw [if_neg c, e, ex, ey]; exact ⟨stv_hg hx 0 h0, stv_hg hy 0 h0⟩
theorem areaC (K : Nat) {gx gy : Nat → Int32} {U V : Nat → Int} {m : Nat} (hm : m < 48) (h : hulA gx gy U V m) : ∀ (fu i : Nat), i ≤ m → m - i < fu → fX2_doubleArea_L4 K (nI m) gx gy fu (iI (sumF (fun j => U j * V (cy m (j + 1)) - V j * U (cy m (j + 1))) i)) (nI i) = some (iI (sumF (fun j => U j * V (cy m (j + 1)) - V j * U (cy m (j + 1))) m)) := by
  intro fu
  induction fu with
  | zero => intro i h1 h2; omega
  | succ fu ih =>
    intro i h1 h2
    rw [fX2_doubleArea_L4]
    by_cases c : i = m
    · subst c
      rw [if_pos (nI_le (Nat.le_refl i) (by omega))]
    · rw [if_neg (nI_ge (show i < m by omega) (by omega))]
      obtain ⟨a1, a2⟩ := h i (by omega)
      obtain ⟨b1, b2⟩ := h (i + 1) (by omega)
      have ci : cy m i = i := if_pos (by omega)
      rw [ci] at a1 a2
      simp only [nI_1, gd_t (inb_nI (show i < 48 by omega) (by decide)), gd_t (inb_nI (show i + 1 < 48 by omega) (by decide)), nI_clamp (show i < 2 ^ 31 by omega), nI_clamp (show i + 1 < 2 ^ 31 by omega), a1, a2, b1, b2, xl, iI_mul, iI_sub, iI_add]
      exact ih (i + 1) (by omega) (by omega)
theorem twiceM (K : Nat) (hK : 4000 ≤ K) {n : Nat} {px py : Nat → Int32} {X Y : Nat → Int} (hX : Pts n px py X Y) {cor cors : Nat → Int32} {H : List Nat} (h0 : 0 < H.length) (hl : H.length ≤ 48) (hq : ∀ q ∈ H, q < n) (hc : cors 0 = nI H.length) (hs : stk cor 0 H) : ∀ (fu i : Nat), 1 ≤ i → i ≤ H.length → H.length - i < fu → fX12_twice_L5 K 0 px py cor cors fu (jJ (sumF (fun j => trn X Y (hg H 0) (hg H (j + 1)) (hg H (j + 2))) (i - 1))) (nI i) = some (jJ (sumF (fun j => trn X Y (hg H 0) (hg H (j + 1)) (hg H (j + 2))) (if i + 1 < H.length then H.length - 2 else i - 1))) := by
  have hcor : ∀ i : Nat, i < H.length → fX12_cornerOf K cor cors 0 (nI i) = some (nI (hg H i)) := fun i hi => by
    have := cornerM K (w := 0) (by decide) h0 hl hc hs (by omega) (show i ≤ H.length by omega)
    rw [show cy H.length i = i from if_pos hi] at this
    exact this
  intro fu
  induction fu with
  | zero => intro i h1 h2 h3; omega
  | succ fu ih =>
    intro i h1 h2 h3
    rw [fX12_twice_L5]
    simp only [gd_t (show inb 0 3 = true from rfl), show (0 : Int32).toNatClampNeg = 0 from rfl, hc, nI_1]
    by_cases c : i + 1 < H.length
    · rw [if_neg (nI_ge c (by omega)), if_pos c]
      rw [show fX12_cornerOf K cor cors 0 0 = _ from hcor 0 h0, hcor i (by omega), hcor (i + 1) c]
      simp only [b1, Option.bind_some, xl]
      rw [turnM K hX (hq _ (hg_mem h0)) (hq _ (hg_mem (by omega))) (hq _ (hg_mem c))]
      simp only [Option.bind_some, jJ_add]
      obtain ⟨k, rfl⟩ : ∃ k, i = k + 1 := ⟨i - 1, by omega⟩
      have := ih (k + 1 + 1) (by omega) (by omega) (by omega)
      rw [show k + 1 + 1 - 1 = k + 1 by omega, sumF] at this
      rw [show k + 1 - 1 = k by omega]
      refine this.trans ?_
      by_cases d : k + 1 + 1 + 1 < H.length
      · rw [if_pos d]
      · rw [if_neg d, show H.length - 2 = k + 1 by omega, sumF]
    · rw [if_pos (nI_le (by omega) (by omega)), if_neg c]
theorem shoelace (U V : Nat → Int) (m : Nat) : ∀ k : Nat, sumF (fun j => (U (j + 1) - U 0) * (V (j + 2) - V 0) - (V (j + 1) - V 0) * (U (j + 2) - U 0)) k = sumF (fun j => U j * V (j + 1) - V j * U (j + 1)) (k + 1) + (U (k + 1) * V 0 - V (k + 1) * U 0) := by
  intro k
  induction k with
  | zero => simp only [sumF]; grind
  | succ k ih =>
    simp only [sumF] at ih ⊢
    rw [ih]
    generalize sumF (fun j => U j * V (j + 1) - V j * U (j + 1)) k = s
    generalize U 0 = u0
    generalize V 0 = v0
    generalize U k = u1
    generalize V k = v1
    generalize U (k + 1) = u2
    generalize V (k + 1) = v2
    generalize U (k + 2) = u3
    generalize V (k + 2) = v3
    grind
theorem area_eq (U V : Nat → Int) {m : Nat} (h0 : 0 < m) : sumF (fun j => U j * V (cy m (j + 1)) - V j * U (cy m (j + 1))) m = sumF (fun j => (U (j + 1) - U 0) * (V (j + 2) - V 0) - (V (j + 1) - V 0) * (U (j + 2) - U 0)) (if 2 < m then m - 2 else 0) := by
  obtain ⟨k, rfl⟩ : ∃ k, m = k + 1 := ⟨m - 1, by omega⟩
  rw [sumF]
  have e1 : cy (k + 1) (k + 1) = 0 := if_neg (by omega)
  rw [e1, sumF_congr (g := fun j => U j * V (j + 1) - V j * U (j + 1)) (fun j hj => by rw [show cy (k + 1) (j + 1) = j + 1 from if_pos (by omega)])]
  by_cases c : 2 < k + 1
  · rw [if_pos c]
    obtain ⟨q, rfl⟩ : ∃ q, k = q + 1 := ⟨k - 1, by omega⟩
    rw [show q + 1 + 1 - 2 = q by omega, shoelace U V 0]
  · rw [if_neg c]
    have : k = 0 ∨ k = 1 := by omega
    rcases this with rfl | rfl
    · simp only [sumF]; grind
    · simp only [sumF]; grind
/-- both double areas -/
theorem area_both (K : Nat) (hK : 4000 ≤ K) {n : Nat} {px py : Nat → Int32} {X Y : Nat → Int} (hX : Pts n px py X Y) {cor cors gx gy : Nat → Int32} {H : List Nat} (h0 : 0 < H.length) (hl : H.length < 48) (hq : ∀ q ∈ H, q < n) (hc : cors 0 = nI H.length) (hs : stk cor 0 H) (hA : hulA gx gy (fun i => X (hg H i)) (fun i => Y (hg H i)) H.length) : ∃ r : Int, fX2_doubleArea K (nI H.length) gx gy = some (iI r) ∧ fX12_twice K px py cor cors 0 = some (iI r) ∧ (H.length < 3 → r = 0) := by
  refine ⟨sumF (fun j => (fun i => X (hg H i)) j * (fun i => Y (hg H i)) (cy H.length (j + 1)) - (fun i => Y (hg H i)) j * (fun i => X (hg H i)) (cy H.length (j + 1))) H.length, ?_, ?_, ?_⟩
  · unfold fX2_doubleArea b1
    rw [show fX2_doubleArea_L4 K (nI H.length) gx gy K (0 : Int32) (0 : Int32) = _ from areaC K hl hA K 0 (Nat.zero_le _) (by omega)]
    rfl
  · unfold fX12_twice b1
    have e := twiceM K hK hX h0 (by omega) hq hc hs K 1 (Nat.le_refl _) h0 (by omega)
    rw [show fX12_twice_L5 K 0 px py cor cors K (0 : Int64) (1 : Int32) = _ from e]
    simp only [Option.bind_some, jJ_int]
    rw [area_eq (fun i => X (hg H i)) (fun i => Y (hg H i)) h0]
  · intro h
    rw [area_eq (fun i => X (hg H i)) (fun i => Y (hg H i)) h0, if_neg (by omega)]
    rfl
theorem ev_area (K : Nat) (hK : 4000 ≤ K) (x_cloud_size : Int32) (x_cloud_x : Nat → Int32) (x_cloud_y : Nat → Int32) (x_cloud_colour : Nat → Int32) (x_cloud_load : Nat → Int32) (x_cloud_centreX : Int32) (x_cloud_centreY : Int32) (x_reader_tape : Nat → Int32) (x_reader_length : Int32) (x_reader_faultKind : Int32) (x_reader_faultPlace : Int32) (m_many : Int32) (m_px : Nat → Int32) (m_py : Nat → Int32) (m_colour : Nat → Int32) (m_load : Nat → Int32) (m_cx : Int32) (m_cy : Int32) (m_tape : Nat → Int32) (m_taped : Int32) (m_faultKind : Int32) (m_faultPlace : Int32) (x_hull_size : Int32) (x_hull_chain : Nat → Int32) (x_hull_x : Nat → Int32) (x_hull_y : Nat → Int32) (x_hull_sorted : Nat → Int32) (m_rowMany : Int32) (m_corner : Nat → Int32) (m_corners : Nat → Int32) (m_row : Nat → Int32) (a1 : Int32) (hR : Rel x_cloud_size x_cloud_x x_cloud_y x_cloud_colour x_cloud_load x_cloud_centreX x_cloud_centreY x_reader_tape x_reader_length x_reader_faultKind x_reader_faultPlace m_many m_px m_py m_colour m_load m_cx m_cy m_tape m_taped m_faultKind m_faultPlace) : ∃ (r : Int32) (o_x_hull_size : Int32) (o_x_hull_chain : Nat → Int32) (o_x_hull_x : Nat → Int32) (o_x_hull_y : Nat → Int32) (o_x_hull_sorted : Nat → Int32) (o_m_rowMany : Int32) (o_m_corner : Nat → Int32) (o_m_corners : Nat → Int32) (o_m_row : Nat → Int32), fX11_area K x_cloud_size x_cloud_x x_cloud_y x_hull_size x_hull_chain x_hull_x x_hull_y x_hull_sorted a1 = some (r, o_x_hull_size, o_x_hull_chain, o_x_hull_x, o_x_hull_y, o_x_hull_sorted) ∧ fX12_area K m_many m_rowMany m_px m_py m_corner m_corners m_row a1 = some (r, o_m_rowMany, o_m_corner, o_m_corners, o_m_row) := by
  obtain ⟨n, rfl, rfl, hXc, hXm⟩ := Rel_pts hR
  unfold fX11_area fX12_area b1
  rcases hasSet_c K n hXc.1 a1 with ⟨c, c1, c2⟩ | ⟨-, c1, c2⟩
  · rw [c1, c2]
    have h0 := rowL_pos (X := fun i => (x_cloud_x i).toInt) (Y := fun i => (x_cloud_y i).toInt) n (isSt_bit hXc.1 c)
    obtain ⟨-, -, r3⟩ := rowL_ok (fun i => (x_cloud_x i).toInt) (fun i => (x_cloud_y i).toInt) a1 n
    obtain ⟨ch', gx', gy', sor', e1, e2, e3, e4, e5, e6⟩ := buildC K hK hXc a1 h0 x_hull_size x_hull_chain x_hull_x x_hull_y x_hull_sorted
    obtain ⟨cor', row', f1, f2, -⟩ := laysM K hK hXm a1 h0 0 (by decide) (by have := hXc.1; omega) m_rowMany m_corner m_corners m_row
    obtain ⟨hq1, hq2, hq3⟩ := hulS_ok (fun i => (x_cloud_x i).toInt) (fun i => (x_cloud_y i).toInt) a1 n hXc.1 h0
    obtain ⟨r, g1, g2, -⟩ := area_both K hK hXm (cors := upd m_corners 0 (nI (hulS (fun i => (x_cloud_x i).toInt) (fun i => (x_cloud_y i).toInt) a1 n).length)) hq3 (by omega) hq1 upd_at f2 (hulA_of hq3 e3 e4 e5 e6)
    simp only [Option.bind_some, if_neg one_ne, e1, b5, b4]
    rw [show fX12_laysHull K (nI n) m_rowMany m_px m_py m_corner m_corners m_row 0 a1 = _ from f1]
    simp only [Option.bind_some, g1, g2]
    exact ⟨_, _, _, _, _, _, _, _, _, _, rfl, rfl⟩
  · rw [c1, c2]
    exact ⟨_, _, _, _, _, _, _, _, _, _, rfl, rfl⟩
