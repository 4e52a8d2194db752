--@ needs 3f.depth
/-! balance -/
theorem ldL (K n : Nat) (hn : n ≤ 24) (ld : Nat → Int32) : ∀ (fu j : Nat), j ≤ n → n - j < fu → fX0_bitsLoaded_L4 K (nI n) ld fu (bP (fun i => decide (0 < (ld i).toInt)) j) (nI j) = some (bP (fun i => decide (0 < (ld i).toInt)) n) := by
  intro fu
  induction fu with
  | zero => intro j h1 h2; omega
  | succ fu ih =>
    intro j h1 h2
    rw [fX0_bitsLoaded_L4]
    by_cases hj : j = n
    · subst hj
      rw [if_pos (nI_le (Nat.le_refl j) (by omega))]
    · have hlt : j < n := by omega
      rw [if_neg (nI_ge hlt (by omega))]
      simp only [nI_1, xl, jn, gd_t (inb_nI (show j < 24 by omega) (by decide)), nI_clamp (show j < 2 ^ 31 by omega)]
      have IH := ih (j + 1) (by omega) (by omega)
      rw [bP] at IH
      simp only [decide_eq_true_eq] at IH
      simp only [i_le_lit (show (0 : Int32).toInt = 0 from rfl)]
      by_cases hc : (ld j).toInt ≤ 0
      · rw [if_pos hc]
        rw [if_neg (by omega)] at IH
        exact IH
      · rw [if_neg hc]
        rw [if_pos (by omega)] at IH
        exact IH
theorem ldB (K n : Nat) (hK : 4000 ≤ K) (hn : n ≤ 24) (ld mld : Nat → Int32) (h : ∀ i : Nat, i < n → mld i = ld i) : fX0_bitsLoaded K (nI n) ld = some (bP (fun i => decide (0 < (ld i).toInt)) n) ∧ fX12_loaded K (nI n) mld = some (bP (fun i => decide (0 < (ld i).toInt)) n) := by
  have e1 : fX0_bitsLoaded K (nI n) ld = some (bP (fun i => decide (0 < (ld i).toInt)) n) := by
    have := ldL K n hn ld K 0 (by omega) (by omega)
    rw [bP] at this
    unfold fX0_bitsLoaded
    rw [show nI 0 = (0 : Int32) from rfl] at this
    rw [this]; rfl
  obtain ⟨r, f1, f2⟩ := loaded_both K n hK hn ld mld h
  rw [e1] at f1
  exact ⟨e1, by rw [f2, ← f1]⟩
theorem bP_0 (p : Nat → Bool) {n : Nat} (hn : n ≤ 24) : bP p n = 0 ↔ ∀ i, i < n → p i = false := by
  constructor
  · intro h i hi
    have := bP_bt p hn (show i < 32 by omega)
    rw [h, b_0] at this
    cases hp : p i
    · rfl
    · rw [hp] at this; simp [hi] at this
  · intro h
    rw [show bP p n = bP (fun _ => false) n from bP_congr h]
    refine b_ext fun i hi => ?_
    rw [bP_bt _ hn hi, b_0]; simp
theorem sumF_bd {f : Nat → Int} {B : Int} : ∀ {k : Nat}, (∀ i, i < k → -B ≤ f i ∧ f i ≤ B) → -(B * k) ≤ sumF f k ∧ sumF f k ≤ B * k := by
  intro k
  induction k with
  | zero => intro _; simp [sumF]
  | succ k ih =>
    intro h
    have h1 := ih (fun i hi => h i (by omega))
    have h2 := h k (by omega)
    rw [sumF]
    have : B * ((k + 1 : Nat) : Int) = B * k + B := by rw [Int.natCast_add, Int.mul_add]; simp
    rw [this]
    omega
theorem sumF_0 {f : Nat → Int} : ∀ {k : Nat}, (∀ i, i < k → 0 ≤ f i) → 0 ≤ sumF f k ∧ (sumF f k = 0 ↔ ∀ i, i < k → f i = 0) := by
  intro k
  induction k with
  | zero => intro _; exact ⟨Int.le_refl _, fun _ i hi => absurd hi (by omega), fun _ => rfl⟩
  | succ k ih =>
    intro h
    obtain ⟨h1, h2⟩ := ih (fun i hi => h i (by omega))
    have h3 := h k (by omega)
    rw [sumF]
    refine ⟨by omega, fun e i hi => ?_, fun e => ?_⟩
    · rcases Nat.lt_or_ge i k with q | q
      · exact h2.mp (by omega) i q
      · have : i = k := by omega
        subst this; omega
    · rw [h2.mpr (fun i hi => e i (by omega)), e k (by omega)]; rfl
theorem balL (K : Nat) {n : Nat} {x y : Nat → Int32} {X Y : Nat → Int} (h : Pts n x y X Y) {l : Nat → Int32} {W : Nat → Int} (hl : ∀ i, i < n → l i = iI (W i) ∧ 0 ≤ W i ∧ W i ≤ 99) : ∀ (fu j : Nat), j ≤ n → n - j < fu → fX0_locateBalance_L11 K (nI n) x y l fu (jJ (sumF (fun i => W i * X i) j)) (jJ (sumF (fun i => W i * Y i) j)) (jJ (sumF W j)) (nI j) = some (jJ (sumF (fun i => W i * X i) n), jJ (sumF (fun i => W i * Y i) n), jJ (sumF W n)) := by
  intro fu
  induction fu with
  | zero => intro j h1 h2; omega
  | succ fu ih =>
    intro j h1 h2
    have hn := h.1
    rw [fX0_locateBalance_L11]
    by_cases hj : j = n
    · subst hj
      rw [if_pos (nI_le (Nat.le_refl j) (by omega))]
    · have hlt : j < n := by omega
      obtain ⟨e1, e2, r1, r2⟩ := h.2 j hlt
      obtain ⟨e3, r3⟩ := hl j hlt
      have b1 := mulB (a := 99) (b := 20) (u := W j) (by omega) r1
      have b2 := mulB (a := 99) (b := 20) (u := W j) (by omega) r2
      rw [if_neg (nI_ge hlt (by omega))]
      simp only [nI_1, xl, gd_t (inb_nI (show j < 24 by omega) (by decide)), nI_clamp (show j < 2 ^ 31 by omega), e1, e2, e3, iI_mul, iI_long (show s32 (W j * X j) from ⟨by omega, by omega⟩), iI_long (show s32 (W j * Y j) from ⟨by omega, by omega⟩), iI_long (show s32 (W j) from ⟨by omega, by omega⟩), jJ_add]
      exact ih (j + 1) (by omega) (by omega)
theorem balLM (K : Nat) (n : Int32) (x y l : Nat → Int32) : ∀ (fu : Nat) (a b c : Int64) (j : Int32), fX12_balance_L34 K n x y l fu a b c j = fX0_locateBalance_L11 K n x y l fu a b c j := by
  intro fu
  induction fu with
  | zero => intro a b c j; rfl
  | succ fu ih =>
    intro a b c j
    rw [fX12_balance_L34, fX0_locateBalance_L11]
    simp only [ih]
theorem ev_balance (K : Nat) (hK : 4000 ≤ K) (x_cloud_size : Int32) (x_cloud_x : Nat → Int32) (x_cloud_y : Nat → Int32) (x_cloud_colour : Nat → Int32) (x_cloud_load : Nat → Int32) (x_cloud_centreX : Int32) (x_cloud_centreY : Int32) (x_reader_tape : Nat → Int32) (x_reader_length : Int32) (x_reader_faultKind : Int32) (x_reader_faultPlace : Int32) (m_many : Int32) (m_px : Nat → Int32) (m_py : Nat → Int32) (m_colour : Nat → Int32) (m_load : Nat → Int32) (m_cx : Int32) (m_cy : Int32) (m_tape : Nat → Int32) (m_taped : Int32) (m_faultKind : Int32) (m_faultPlace : Int32) (x_spot_x : Int64) (x_spot_y : Int64) (x_spot_lower : Int64) (m_placeX : Int64) (m_placeY : Int64) (m_below : Int64) (a1 : Int32) (hR : Rel x_cloud_size x_cloud_x x_cloud_y x_cloud_colour x_cloud_load x_cloud_centreX x_cloud_centreY x_reader_tape x_reader_length x_reader_faultKind x_reader_faultPlace m_many m_px m_py m_colour m_load m_cx m_cy m_tape m_taped m_faultKind m_faultPlace) : ∃ (r : Int64) (o_x_spot_x : Int64) (o_x_spot_y : Int64) (o_x_spot_lower : Int64) (o_m_placeX : Int64) (o_m_placeY : Int64) (o_m_below : Int64), fX11_balance K x_cloud_size x_cloud_x x_cloud_y x_cloud_load x_spot_x x_spot_y x_spot_lower a1 = some (r, o_x_spot_x, o_x_spot_y, o_x_spot_lower) ∧ fX12_balance K m_many m_placeX m_placeY m_below m_px m_py m_load a1 = some (r, o_m_placeX, o_m_placeY, o_m_below) := by
  obtain ⟨n, rfl, rfl, hXc, hXm⟩ := Rel_pts hR
  obtain ⟨⟨n', hn', en, -, hpt⟩, -⟩ := hR
  have hn := hXc.1
  have hnn : n = n' := (nI_eqn (by omega) (by omega)).mp en
  subst hnn
  have hld : ∀ i, i < n → m_load i = x_cloud_load i := fun i hi => (hpt i hi).1.2.2.2
  have hl : ∀ i, i < n → x_cloud_load i = iI ((fun i => (x_cloud_load i).toInt) i) ∧ 0 ≤ (fun i => (x_cloud_load i).toInt) i ∧ (fun i => (x_cloud_load i).toInt) i ≤ 99 := fun i hi => ⟨(iI_toInt _).symm, (hpt i hi).2.2.2.2⟩
  have hlm : ∀ i, i < n → m_load i = iI ((fun i => (x_cloud_load i).toInt) i) ∧ 0 ≤ (fun i => (x_cloud_load i).toInt) i ∧ (fun i => (x_cloud_load i).toInt) i ≤ 99 := fun i hi => by rw [hld i hi]; exact hl i hi
  obtain ⟨d1, d2⟩ := ldB K n hK hn x_cloud_load m_load hld
  have c1 := balL K hXc hl K 0 (by omega) (by omega)
  have c2 := balL K hXm hlm K 0 (by omega) (by omega)
  simp only [sumF] at c1 c2
  generalize hsx : sumF (fun i => (x_cloud_load i).toInt * (x_cloud_x i).toInt) n = sx at *
  generalize hsy : sumF (fun i => (x_cloud_load i).toInt * (x_cloud_y i).toInt) n = sy at *
  have rx : -(1980 * (n : Int)) ≤ sx ∧ sx ≤ 1980 * (n : Int) := by
    rw [← hsx]
    exact sumF_bd (B := 1980) (fun i hi => by
      have := mulB (a := 99) (b := 20) (u := (x_cloud_load i).toInt) (v := (x_cloud_x i).toInt) (by have := (hl i hi).2; dsimp only at this; omega) (hXc.2 i hi).2.2.1
      omega)
  have ry : -(1980 * (n : Int)) ≤ sy ∧ sy ≤ 1980 * (n : Int) := by
    rw [← hsy]
    exact sumF_bd (B := 1980) (fun i hi => by
      have := mulB (a := 99) (b := 20) (u := (x_cloud_load i).toInt) (v := (x_cloud_y i).toInt) (by have := (hl i hi).2; dsimp only at this; omega) (hXc.2 i hi).2.2.2
      omega)
  have rs : -(99 * (n : Int)) ≤ sumF (fun i => (x_cloud_load i).toInt) n ∧ sumF (fun i => (x_cloud_load i).toInt) n ≤ 99 * (n : Int) := sumF_bd (B := 99) (fun i hi => by have := (hl i hi).2; dsimp only at this ⊢; omega)
  obtain ⟨s0, s1⟩ := sumF_0 (f := fun i => (x_cloud_load i).toInt) (k := n) (fun i hi => (hl i hi).2.1)
  have hz : bP (fun i => decide (0 < (x_cloud_load i).toInt)) n = 0 ↔ sumF (fun i => (x_cloud_load i).toInt) n = 0 := by
    rw [bP_0 _ hn, s1]
    constructor
    · intro q i hi
      have := of_decide_eq_false (q i hi)
      have := (hl i hi).2.1
      dsimp only at *
      omega
    · intro q i hi
      exact decide_eq_false (by have := q i hi; omega)
  generalize sumF (fun i => (x_cloud_load i).toInt) n = s at *
  unfold fX11_balance fX12_balance fX0_locateBalance
  rw [show (0 : Int64) = jJ 0 from rfl, show (0 : Int32) = nI 0 from rfl] at *
  simp only [balLM]
  rw [c1, c2, d2]
  rw [show nI 0 = (0 : Int32) from rfl, show jJ 0 = (0 : Int64) from rfl] at *
  simp only [b3, b4, sm_b1, Option.bind_some, in_spec, long_toInt, show (0 : Int64).toInt = 0 from rfl, show (2 : Int64).toInt = 2 from rfl, j_eq0 (show s64 s from ⟨by omega, by omega⟩)]
  by_cases z : s = 0
  · subst z
    rw [show jJ 0 = (0 : Int64) from rfl, put0 K hK]
    simp only [Option.bind_some, if_pos]
    refine ⟨_, _, _, _, m_placeX, m_placeY, m_below, rfl, ?_⟩
    by_cases c : 0 ≤ a1.toInt ∧ a1.toInt ≤ 2
    · rw [show (if 0 ≤ a1.toInt ∧ a1.toInt ≤ 2 then (1 : Int32) else 0) = 1 from if_pos c, if_neg one_ne, if_pos (hz.mpr rfl)]
    · rw [show (if 0 ≤ a1.toInt ∧ a1.toInt ≤ 2 then (1 : Int32) else 0) = 0 from if_neg c, if_pos rfl]
  · have hL : 0 < s ∧ s ≤ 4611686018427387904 := ⟨by omega, by omega⟩
    rw [putP K hK x_spot_x x_spot_y x_spot_lower ⟨by omega, by omega⟩ ⟨by omega, by omega⟩ hL, layP K hK m_placeX m_placeY m_below ⟨by omega, by omega⟩ ⟨by omega, by omega⟩ hL]
    simp only [Option.bind_some, if_neg z, if_neg one_ne, if_neg (fun q => z (hz.mp q))]
    obtain ⟨g1, g2⟩ := coor_told K (jJ (sx / (g3 sx sy s : Int))) (jJ (sy / (g3 sx sy s : Int))) (jJ (s / (g3 sx sy s : Int))) a1
    by_cases c : 0 ≤ a1.toInt ∧ a1.toInt ≤ 2
    · obtain ⟨r, k1, k2⟩ := g1 c
      rw [show (if 0 ≤ a1.toInt ∧ a1.toInt ≤ 2 then (1 : Int32) else 0) = 1 from if_pos c, if_neg one_ne, k1, k2]
      exact ⟨_, _, _, _, _, _, _, rfl, rfl⟩
    · rw [show (if 0 ≤ a1.toInt ∧ a1.toInt ≤ 2 then (1 : Int32) else 0) = 0 from if_neg c, if_pos rfl, g2 c]
      exact ⟨_, _, _, _, _, _, _, rfl, rfl⟩
