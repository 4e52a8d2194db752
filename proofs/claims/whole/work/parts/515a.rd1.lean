/-! points: the text is read, token by token -/
def rpT (L : Nat) (tp mt : Nat → Int32) : Prop := L ≤ 600 ∧ ∀ i : Nat, i < L → mt i = tp i ∧ -128 ≤ (tp i).toInt ∧ (tp i).toInt ≤ 127
def rpV (v w : Int32) : Prop := (v = w ∧ 0 ≤ v.toInt ∧ v.toInt ≤ 999) ∨ (v.toInt = 1000 ∧ 1000 ≤ w.toInt ∧ w.toInt ≤ 99999)
def rpK (k v tk w : Int32) : Prop := (k = 1 ∧ tk = 1) ∨ (k = 2 ∧ tk = 2 ∧ rpV v w) ∨ (k = 3 ∧ tk = 3 ∧ w = 59) ∨ (k = 4 ∧ tk = 3 ∧ w = 44) ∨ (k = 5 ∧ tk = 3 ∧ w = 45) ∨ (k = 6 ∧ tk = 4) ∨ (k = 7 ∧ tk = 0)
theorem rp_and : ∀ n : Nat, n < 256 → ((iI ((n : Int) - 128)) &&& (255 : Int32)).toInt = if n < 128 then (n : Int) + 128 else (n : Int) - 128 := by decide +kernel
theorem rp_byte {c : Int32} (h1 : -128 ≤ c.toInt) (h2 : c.toInt ≤ 127) : (c &&& 255).toInt = if c.toInt < 0 then c.toInt + 256 else c.toInt := by
  have h := rp_and (c.toInt + 128).toNat (by omega)
  have e : (((c.toInt + 128).toNat : Nat) : Int) = c.toInt + 128 := Int.toNat_of_nonneg (by omega)
  rw [e, show c.toInt + 128 - 128 = c.toInt by omega, iI_toInt] at h
  rw [h]
  by_cases q : c.toInt < 0
  · rw [if_pos q, if_pos (by omega)]; omega
  · rw [if_neg q, if_neg (by omega)]
theorem rp_rng {c : Int32} (h1 : -128 ≤ c.toInt) (h2 : c.toInt ≤ 127) {a b : Int} (ha : 0 ≤ a) (hb : b ≤ 127) : (a ≤ (c &&& 255).toInt ∧ (c &&& 255).toInt ≤ b) ↔ (a ≤ c.toInt ∧ c.toInt ≤ b) := by
  rw [rp_byte h1 h2]
  by_cases q : c.toInt < 0
  · rw [if_pos q]; omega
  · rw [if_neg q]
theorem rp_eq {c : Int32} (h1 : -128 ≤ c.toInt) (h2 : c.toInt ≤ 127) {a : Int} (ha : 0 ≤ a) (hb : a ≤ 127) : (c &&& 255).toInt = a ↔ c.toInt = a := by
  rw [rp_byte h1 h2]
  by_cases q : c.toInt < 0
  · rw [if_pos q]; omega
  · rw [if_neg q]
theorem rp_see (K : Nat) {L : Nat} {tp mt : Nat → Int32} (h : rpT L tp mt) {i : Nat} (hi : i < L) : fX12_see K (nI L) mt (nI i) = some (tp i &&& 255) := by
  have hL := h.1
  unfold fX12_see
  rw [if_neg (nI_ge hi (by omega)), gd_t (inb_nI (show i < 600 by omega) (by decide)), nI_clamp (by omega), (h.2 i hi).1]
theorem rp_see0 (K L : Nat) (hL : L ≤ 600) (mt : Nat → Int32) : fX12_see K (nI L) mt (nI L) = some (-1) := by
  unfold fX12_see
  rw [if_pos (nI_le (Nat.le_refl L) (by omega))]
theorem rp_lets (K : Nat) {c : Int32} (h1 : -128 ≤ c.toInt) (h2 : c.toInt ≤ 127) : ((97 ≤ c.toInt ∧ c.toInt ≤ 122) ∧ fX8_isLetter K c = some 1 ∧ fX12_in K (c &&& 255).toInt64 97 122 = some 1) ∨ (¬ (97 ≤ c.toInt ∧ c.toInt ≤ 122) ∧ fX8_isLetter K c = some 0 ∧ fX12_in K (c &&& 255).toInt64 97 122 = some 0) := by
  have e1 : (97 : Int32).toInt = 97 := by decide
  have e2 : (122 : Int32).toInt = 122 := by decide
  have e3 : (97 : Int64).toInt = 97 := by decide
  have e4 : (122 : Int64).toInt = 122 := by decide
  unfold fX8_isLetter
  rw [in_spec, long_toInt, e3, e4]
  simp only [i_lt_lit e1, lit_lt_i e2]
  have hr := rp_rng h1 h2 (a := 97) (b := 122) (by decide) (by decide)
  by_cases q : 97 ≤ c.toInt ∧ c.toInt ≤ 122
  · left
    exact ⟨q, by rw [if_neg (by omega), if_neg (by omega)], by rw [if_pos (hr.mpr q)]⟩
  · right
    refine ⟨q, ?_, by rw [if_neg (fun z => q (hr.mp z))]⟩
    by_cases q2 : c.toInt < 97
    · rw [if_pos q2]
    · rw [if_neg q2, if_pos (by omega)]
theorem rp_digs (K : Nat) {c : Int32} (h1 : -128 ≤ c.toInt) (h2 : c.toInt ≤ 127) : ((48 ≤ c.toInt ∧ c.toInt ≤ 57) ∧ fX8_isDigit K c = some 1 ∧ fX12_in K (c &&& 255).toInt64 48 57 = some 1) ∨ (¬ (48 ≤ c.toInt ∧ c.toInt ≤ 57) ∧ fX8_isDigit K c = some 0 ∧ fX12_in K (c &&& 255).toInt64 48 57 = some 0) := by
  have e1 : (48 : Int32).toInt = 48 := by decide
  have e2 : (57 : Int32).toInt = 57 := by decide
  have e3 : (48 : Int64).toInt = 48 := by decide
  have e4 : (57 : Int64).toInt = 57 := by decide
  unfold fX8_isDigit
  rw [in_spec, long_toInt, e3, e4]
  simp only [i_lt_lit e1, lit_lt_i e2]
  have hr := rp_rng h1 h2 (a := 48) (b := 57) (by decide) (by decide)
  by_cases q : 48 ≤ c.toInt ∧ c.toInt ≤ 57
  · left
    exact ⟨q, by rw [if_neg (by omega), if_neg (by omega)], by rw [if_pos (hr.mpr q)]⟩
  · right
    refine ⟨q, ?_, by rw [if_neg (fun z => q (hr.mp z))]⟩
    by_cases q2 : c.toInt < 48
    · rw [if_pos q2]
    · rw [if_neg q2, if_pos (by omega)]
theorem rp_in0 (K : Nat) : fX12_in K (-1 : Int32).toInt64 97 122 = some 0 ∧ fX12_in K (-1 : Int32).toInt64 48 57 = some 0 := by
  constructor
  · rw [in_spec, if_neg (by decide)]
  · rw [in_spec, if_neg (by decide)]
theorem rp_sp (K : Nat) {L : Nat} {tp mt : Nat → Int32} (h : rpT L tp mt) : ∀ (d n i : Nat), i + d = L → d < n → ∃ s : Nat, i ≤ s ∧ s ≤ L ∧ fX8_advance_L0 K (nI L) tp n (nI i) = some (nI s) ∧ fX12_advance_L0 K (nI L) mt n (nI i) = some (nI s) := by
  have hL := h.1
  have e32 : (32 : Int32).toInt = 32 := by decide
  have e10 : (10 : Int32).toInt = 10 := by decide
  intro d
  induction d with
  | zero =>
    intro n i h1 h2
    obtain ⟨m, rfl⟩ : ∃ m, n = m + 1 := ⟨n - 1, by omega⟩
    obtain rfl : i = L := by omega
    refine ⟨i, Nat.le_refl _, Nat.le_refl _, ?_, ?_⟩
    · rw [fX8_advance_L0, if_pos (nI_le (Nat.le_refl _) (by omega))]
    · rw [fX12_advance_L0]
      simp only [b1, jn, xl, rp_see0 K i hL, Option.bind_some]
      rw [if_neg (by decide), if_neg (by decide)]
  | succ d ih =>
    intro n i h1 h2
    obtain ⟨m, rfl⟩ : ∃ m, n = m + 1 := ⟨n - 1, by omega⟩
    have hi : i < L := by omega
    obtain ⟨-, c1, c2⟩ := h.2 i hi
    have q32 := rp_eq c1 c2 (a := 32) (by decide) (by decide)
    have q10 := rp_eq c1 c2 (a := 10) (by decide) (by decide)
    obtain ⟨s, s1, s2, s3, s4⟩ := ih m (i + 1) (by omega) (by omega)
    rw [fX8_advance_L0, fX12_advance_L0, if_neg (nI_ge hi (by omega))]
    simp only [b1, jn, xl, rp_see K h hi, Option.bind_some, gd_t (inb_nI (show i < 600 by omega) (by decide)), nI_clamp (show i < 2 ^ 31 by omega), nI_1, i_eq_lit e32, i_eq_lit e10, q32, q10, s3, s4]
    by_cases q : (tp i).toInt = 32
    · simp only [if_pos q]
      exact ⟨s, by omega, s2, rfl, rfl⟩
    · simp only [if_neg q]
      by_cases q' : (tp i).toInt = 10
      · simp only [if_pos q']
        exact ⟨s, by omega, s2, rfl, rfl⟩
      · simp only [if_neg q']
        exact ⟨i, by omega, by omega, rfl, rfl⟩
theorem rp_word (K : Nat) {L : Nat} {tp mt : Nat → Int32} (h : rpT L tp mt) : ∀ (d n i : Nat), i + d = L → d < n → ∃ s : Nat, i ≤ s ∧ s ≤ L ∧ fX8_advance_L95 K (nI L) tp n (nI i) = some (nI s) ∧ fX12_advance_L83 K (nI L) mt n (nI i) = some (nI s) ∧ (i < L → (97 ≤ (tp i).toInt ∧ (tp i).toInt ≤ 122) → i < s) := by
  have hL := h.1
  intro d
  induction d with
  | zero =>
    intro n i h1 h2
    obtain ⟨m, rfl⟩ : ∃ m, n = m + 1 := ⟨n - 1, by omega⟩
    obtain rfl : i = L := by omega
    refine ⟨i, Nat.le_refl _, Nat.le_refl _, ?_, ?_, fun z _ => z⟩
    · rw [fX8_advance_L95, if_pos (nI_le (Nat.le_refl _) (by omega))]
    · rw [fX12_advance_L83]
      simp only [b1, rp_see0 K i hL, Option.bind_some, (rp_in0 K).1, if_true]
  | succ d ih =>
    intro n i h1 h2
    obtain ⟨m, rfl⟩ : ∃ m, n = m + 1 := ⟨n - 1, by omega⟩
    have hi : i < L := by omega
    obtain ⟨-, c1, c2⟩ := h.2 i hi
    obtain ⟨s, s1, s2, s3, s4, -⟩ := ih m (i + 1) (by omega) (by omega)
    rw [fX8_advance_L95, fX12_advance_L83, if_neg (nI_ge hi (by omega))]
    simp only [b1, xl, rp_see K h hi, Option.bind_some, gd_t (inb_nI (show i < 600 by omega) (by decide)), nI_clamp (show i < 2 ^ 31 by omega), nI_1, s3, s4]
    rcases rp_lets K c1 c2 with ⟨q, q1, q2⟩ | ⟨q, q1, q2⟩
    · simp only [q1, q2, Option.bind_some, if_neg one_ne]
      exact ⟨s, by omega, s2, rfl, rfl, fun _ _ => by omega⟩
    · simp only [q1, q2, Option.bind_some, if_true]
      exact ⟨i, by omega, by omega, rfl, rfl, fun _ z => absurd z q⟩
theorem rp_step {v w c : Int32} (hv : rpV v w) (h : 48 ≤ c.toInt ∧ c.toInt ≤ 57) : rpV (jmin (((v * (10 : Int32)) + c) - (48 : Int32)) (1000 : Int32)) (jmin (99999 : Int32) ((((10 : Int32) * w) + (c &&& 255)) - (48 : Int32))) := by
  have hc : c &&& 255 = c := Int32.toInt_inj.mp (by rw [rp_byte (by omega) (by omega), if_neg (by omega)])
  rw [hc]
  obtain ⟨a, ea⟩ : ∃ a : Int, a = v.toInt := ⟨_, rfl⟩
  obtain ⟨b, eb⟩ : ∃ b : Int, b = w.toInt := ⟨_, rfl⟩
  obtain ⟨z, ez⟩ : ∃ z : Int, z = c.toInt := ⟨_, rfl⟩
  have fv : v = iI a := by rw [ea, iI_toInt]
  have fw : w = iI b := by rw [eb, iI_toInt]
  have fc : c = iI z := by rw [ez, iI_toInt]
  have hab : (a = b ∧ 0 ≤ a ∧ a ≤ 999) ∨ (a = 1000 ∧ 1000 ≤ b ∧ b ≤ 99999) := by
    rcases hv with ⟨q, q1, q2⟩ | q
    · left; subst q; omega
    · right; omega
  rw [fv, fw, fc, show (10 : Int32) = iI 10 from rfl, show (48 : Int32) = iI 48 from rfl, show (1000 : Int32) = iI 1000 from rfl, show (99999 : Int32) = iI 99999 from rfl, iI_mul, iI_mul, iI_add, iI_add, iI_sub, iI_sub, jmin_i ⟨by omega, by omega⟩ ⟨by omega, by omega⟩, jmin_i ⟨by omega, by omega⟩ ⟨by omega, by omega⟩]
  unfold rpV
  by_cases q : 1000 ≤ a * 10 + z - 48
  · right
    have hm : (if (1000 : Int) < a * 10 + z - 48 then (1000 : Int) else a * 10 + z - 48) = 1000 := by
      by_cases q' : (1000 : Int) < a * 10 + z - 48
      · rw [if_pos q']
      · rw [if_neg q']; omega
    rw [hm]
    rw [toInt_iI (by decide) (by decide)]
    by_cases q2 : 10 * b + z - 48 < 99999
    · rw [if_pos q2, toInt_iI (by omega) (by omega)]; omega
    · rw [if_neg q2, toInt_iI (by decide) (by decide)]; omega
  · left
    have : a = b := by omega
    subst this
    rw [if_neg (by omega), if_pos (by omega), toInt_iI (by omega) (by omega), show 10 * a = a * 10 from Int.mul_comm _ _]
    exact ⟨rfl, by omega, by omega⟩
theorem rp_num (K : Nat) {L : Nat} {tp mt : Nat → Int32} (h : rpT L tp mt) : ∀ (d n i : Nat) (v w : Int32), i + d = L → d < n → rpV v w → ∃ (s : Nat) (v' w' : Int32), i ≤ s ∧ s ≤ L ∧ rpV v' w' ∧ fX8_advance_L162 K (nI L) tp n (nI i) v = some (nI s, v') ∧ fX12_advance_L144 K (nI L) mt n (nI i) w = some (nI s, w') ∧ (i < L → (48 ≤ (tp i).toInt ∧ (tp i).toInt ≤ 57) → i < s) := by
  have hL := h.1
  intro d
  induction d with
  | zero =>
    intro n i v w h1 h2 hv
    obtain ⟨m, rfl⟩ : ∃ m, n = m + 1 := ⟨n - 1, by omega⟩
    obtain rfl : i = L := by omega
    refine ⟨i, v, w, Nat.le_refl _, Nat.le_refl _, hv, ?_, ?_, fun z _ => z⟩
    · rw [fX8_advance_L162, if_pos (nI_le (Nat.le_refl _) (by omega))]
    · rw [fX12_advance_L144]
      simp only [b1, rp_see0 K i hL, Option.bind_some, (rp_in0 K).2, if_true]
  | succ d ih =>
    intro n i v w h1 h2 hv
    obtain ⟨m, rfl⟩ : ∃ m, n = m + 1 := ⟨n - 1, by omega⟩
    have hi : i < L := by omega
    obtain ⟨-, c1, c2⟩ := h.2 i hi
    rw [fX8_advance_L162, fX12_advance_L144, if_neg (nI_ge hi (by omega))]
    simp only [b1, xl, rp_see K h hi, Option.bind_some, gd_t (inb_nI (show i < 600 by omega) (by decide)), nI_clamp (show i < 2 ^ 31 by omega), nI_1]
    rcases rp_digs K c1 c2 with ⟨q, q1, q2⟩ | ⟨q, q1, q2⟩
    · simp only [q1, q2, Option.bind_some, if_neg one_ne]
      obtain ⟨s, v', w', s1, s2, sv, s3, s4, -⟩ := ih m (i + 1) _ _ (by omega) (by omega) (rp_step hv q)
      exact ⟨s, v', w', by omega, s2, sv, s3, s4, fun _ _ => by omega⟩
    · simp only [q1, q2, Option.bind_some, if_true]
      exact ⟨i, v, w, by omega, by omega, hv, rfl, rfl, fun _ z => absurd z q⟩
theorem rp_adv (K : Nat) (hK : 4000 ≤ K) {L : Nat} {tp mt : Nat → Int32} (h : rpT L tp mt) {i : Nat} (hi : i ≤ L) (st kd vl fr to wv : Int32) : ∃ (s e : Nat) (k v tk w : Int32), i ≤ s ∧ s ≤ e ∧ e ≤ L ∧ rpK k v tk w ∧ (k = 7 ∨ s < e) ∧ fX8_advance K (nI L) st (nI i) kd vl tp = some (nI s, nI e, k, v) ∧ fX12_advance K (nI L) (nI i) fr to wv mt = some (nI e, nI s, tk, w) := by
  have hL := h.1
  obtain ⟨s, s1, s2, s3, s4⟩ := rp_sp K h (L - i) K i (by omega) (by omega)
  unfold fX8_advance fX12_advance
  simp only [b1, b2, s3, s4, Option.bind_some]
  by_cases hs : s < L
  · obtain ⟨-, c1, c2⟩ := h.2 s hs
    have e1 : (-1 : Int32).toInt = -1 := by decide
    have n1 : ¬ (tp s &&& 255) = (-1 : Int32) := by
      rw [i_eq_lit e1, rp_byte c1 c2]
      by_cases q : (tp s).toInt < 0
      · rw [if_pos q]; omega
      · rw [if_neg q]; omega
    rw [if_pos (nI_lt hs (by omega)), rp_see K h hs]
    simp only [Option.bind_some, gd_t (inb_nI (show s < 600 by omega) (by decide)), nI_clamp (show s < 2 ^ 31 by omega), if_neg n1]
    rcases rp_lets K c1 c2 with ⟨q, q1, q2⟩ | ⟨q, q1, q2⟩
    · simp only [q1, q2, Option.bind_some, if_neg one_ne]
      obtain ⟨e, t1, t2, t3, t4, t5⟩ := rp_word K h (L - s) K s (by omega) (by omega)
      rw [t3, t4]
      exact ⟨s, e, 1, vl, 1, wv, s1, t1, t2, Or.inl ⟨rfl, rfl⟩, Or.inr (t5 hs q), rfl, rfl⟩
    · simp only [q1, q2, Option.bind_some, if_true]
      rcases rp_digs K c1 c2 with ⟨q', q1', q2'⟩ | ⟨q', q1', q2'⟩
      · simp only [q1', q2', Option.bind_some, if_neg one_ne]
        obtain ⟨e, v', w', t1, t2, tv, t3, t4, t5⟩ := rp_num K h (L - s) K s 0 0 (by omega) (by omega) (Or.inl ⟨rfl, by decide, by decide⟩)
        rw [t3, t4]
        exact ⟨s, e, 2, v', 2, w', s1, t1, t2, Or.inr (Or.inl ⟨rfl, rfl, tv⟩), Or.inr (t5 hs q'), rfl, rfl⟩
      · simp only [q1', q2', Option.bind_some, if_true, jn, xl, fX8_signKind, nI_1]
        have e44 : (44 : Int32).toInt = 44 := by decide
        have e45 : (45 : Int32).toInt = 45 := by decide
        have e59 : (59 : Int32).toInt = 59 := by decide
        have g44 := rp_eq c1 c2 (a := 44) (by decide) (by decide)
        have g45 := rp_eq c1 c2 (a := 45) (by decide) (by decide)
        have g59 := rp_eq c1 c2 (a := 59) (by decide) (by decide)
        by_cases p44 : (tp s).toInt = 44
        · have x1 : tp s = 44 := (i_eq_lit e44).mpr p44
          have x2 : tp s &&& 255 = 44 := (i_eq_lit e44).mpr (g44.mpr p44)
          rw [if_pos x1, x2, if_neg (by decide), if_pos rfl]
          exact ⟨s, s + 1, 4, vl, 3, 44, s1, by omega, by omega, Or.inr (Or.inr (Or.inr (Or.inl ⟨rfl, rfl, rfl⟩))), Or.inr (by omega), rfl, rfl⟩
        · have x1 : ¬ tp s = 44 := fun z => p44 ((i_eq_lit e44).mp z)
          have x2 : ¬ tp s &&& 255 = 44 := fun z => p44 (g44.mp ((i_eq_lit e44).mp z))
          rw [if_neg x1]
          by_cases p45 : (tp s).toInt = 45
          · have y1 : tp s = 45 := (i_eq_lit e45).mpr p45
            have y2 : tp s &&& 255 = 45 := (i_eq_lit e45).mpr (g45.mpr p45)
            rw [if_pos y1, y2, if_neg (by decide), if_neg (by decide), if_pos rfl]
            exact ⟨s, s + 1, 5, vl, 3, 45, s1, by omega, by omega, Or.inr (Or.inr (Or.inr (Or.inr (Or.inl ⟨rfl, rfl, rfl⟩)))), Or.inr (by omega), rfl, rfl⟩
          · have y1 : ¬ tp s = 45 := fun z => p45 ((i_eq_lit e45).mp z)
            have y2 : ¬ tp s &&& 255 = 45 := fun z => p45 (g45.mp ((i_eq_lit e45).mp z))
            rw [if_neg y1]
            by_cases p59 : (tp s).toInt = 59
            · have z1 : tp s = 59 := (i_eq_lit e59).mpr p59
              have z2 : tp s &&& 255 = 59 := (i_eq_lit e59).mpr (g59.mpr p59)
              rw [if_pos z1, z2, if_pos rfl]
              exact ⟨s, s + 1, 3, vl, 3, 59, s1, by omega, by omega, Or.inr (Or.inr (Or.inl ⟨rfl, rfl, rfl⟩)), Or.inr (by omega), rfl, rfl⟩
            · have z1 : ¬ tp s = 59 := fun z => p59 ((i_eq_lit e59).mp z)
              have z2 : ¬ tp s &&& 255 = 59 := fun z => p59 (g59.mp ((i_eq_lit e59).mp z))
              rw [if_neg z1, if_neg z2, if_neg x2, if_neg y2]
              exact ⟨s, s + 1, 6, vl, 4, tp s &&& 255, s1, by omega, by omega, Or.inr (Or.inr (Or.inr (Or.inr (Or.inr (Or.inl ⟨rfl, rfl⟩))))), Or.inr (by omega), rfl, rfl⟩
  · obtain rfl : s = L := by omega
    rw [if_neg (nI_nlt (Nat.le_refl _) (by omega)), rp_see0 K s hL]
    simp only [Option.bind_some, if_true]
    exact ⟨s, s, 7, vl, 0, wv, s1, Nat.le_refl _, Nat.le_refl _, Or.inr (Or.inr (Or.inr (Or.inr (Or.inr (Or.inr ⟨rfl, rfl⟩))))), Or.inl rfl, rfl, rfl⟩
