--@ needs 3n.red
/-! the steps of the loads: class and model -/
theorem low_bd {n k : Nat} {up : Nat → Int} {low : Int} (h : RS n k up low) (hk : k ≤ 4) : low * 1600 ≤ 6228541440000000000 ∧ 0 < low ∧ ∀ p, p < n → 0 ≤ up p ∧ up p ≤ low := by
  obtain ⟨h1, h2, h3, h4, h5⟩ := h
  have a2 : low * 1600 ≤ 594 * 1600 ^ k * 1600 := Int.mul_le_mul_of_nonneg_right h4 (by omega)
  have a3 := pow_bd (show k + 1 ≤ 5 by omega)
  rw [Int.pow_succ] at a3
  refine ⟨by rw [Int.mul_assoc] at a2; omega, h3, fun p hp => ⟨h1 p hp, ?_⟩⟩
  rw [h2]; exact le_sum h1 p hp
theorem prod_bd {u v low : Int} (hl : low * 1600 ≤ 6228541440000000000) (h0 : 0 < low) (hu : 0 ≤ u ∧ u ≤ low) (hv : -1600 ≤ v ∧ v ≤ 1600) : s64 (u * v) := by
  have := mulB (a := low) (b := 1600) (u := u) (v := v) (by omega) hv
  exact ⟨by omega, by omega⟩
theorem tghL (K : Nat) {n k : Nat} {up : Nat → Int} {low : Int} (hRS : RS n k up low) (hk : k ≤ 4) (hn : n ≤ 24) {sz : Nat} (hsz : sz ≤ 4) {mem : Nat → Nat} {f : Nat → Int} {mem1 : Nat → Int32} {fac1 upA : Nat → Int64} (hm : ∀ i, i < sz → mem1 i = nI (mem i) ∧ fac1 i = jJ (f i)) (hb : ∀ i, i < sz → mem i < n) (hf : ∀ i, i < sz → -1600 ≤ f i ∧ f i ≤ 1600) (hu : ∀ p, p < n → upA p = jJ (up p)) : ∀ (fu i b : Nat), i ≤ sz → sz - i < fu → b < sz → 0 < f b → (∀ j, j < i → 0 < f j → up (mem b) * f j ≤ up (mem j) * f b) → ∃ b', fX9_tightest_L12 K upA (nI sz) mem1 fac1 fu (nI b) (nI i) = some (nI b') ∧ b' < sz ∧ 0 < f b' ∧ ∀ j, j < sz → 0 < f j → up (mem b') * f j ≤ up (mem j) * f b' := by
  obtain ⟨l1, l2, l3⟩ := low_bd hRS hk
  intro fu
  induction fu with
  | zero => intro i b h1 h2; omega
  | succ fu ih =>
    intro i b h1 h2 hbs hb0 hmin
    rw [fX9_tightest_L12]
    by_cases hi : i = sz
    · subst hi
      rw [if_pos (nI_le (Nat.le_refl i) (by omega))]
      exact ⟨b, rfl, hbs, hb0, hmin⟩
    · have hlt : i < sz := by omega
      have fi := hf i hlt
      have fb := hf b hbs
      have mi := hb i hlt
      have mb := hb b hbs
      have s1 := prod_bd l1 l2 (l3 (mem b) mb) fi
      have s2 := prod_bd l1 l2 (l3 (mem i) mi) fb
      rw [if_neg (nI_ge hlt (by omega))]
      simp only [gd_t (inb_nI (show i < 4 by omega) (by decide)), nI_clamp (show i < 2 ^ 31 by omega), gd_t (inb_nI (show b < 4 by omega) (by decide)), nI_clamp (show b < 2 ^ 31 by omega), (hm i hlt).1, (hm i hlt).2, (hm b hbs).1, (hm b hbs).2, gd_t (inb_nI (show mem i < 24 by omega) (by decide)), nI_clamp (show mem i < 2 ^ 31 by omega), gd_t (inb_nI (show mem b < 24 by omega) (by decide)), nI_clamp (show mem b < 2 ^ 31 by omega), hu (mem i) mi, hu (mem b) mb, jJ_mul, jn_e, xl_e, nI_1, jle0 (show s64 (f i) from ⟨by omega, by omega⟩), jJ_le s1 s2]
      by_cases q : f i ≤ 0
      · rw [if_pos q]
        exact ih (i + 1) b (by omega) (by omega) hbs hb0 (fun j hj h0 => by
          by_cases e : j = i
          · rw [e] at h0; omega
          · exact hmin j (by omega) h0)
      · rw [if_neg q]
        by_cases q2 : up (mem b) * f i ≤ up (mem i) * f b
        · rw [if_pos q2]
          exact ih (i + 1) b (by omega) (by omega) hbs hb0 (fun j hj h0 => by
            by_cases e : j = i
            · rw [e]; exact q2
            · exact hmin j (by omega) h0)
        · rw [if_neg q2]
          exact ih (i + 1) i (by omega) (by omega) hlt (by omega) (fun j hj h0 => by
            by_cases e : j = i
            · rw [e]; exact Int.le_refl _
            · exact rat_le hb0 (by omega) (by omega) (show up (mem i) * f b ≤ up (mem b) * f i by omega) (hmin j (by omega) h0))
theorem outL (K : Nat) {n k : Nat} {up : Nat → Int} {low : Int} (hRS : RS n k up low) (hk : k ≤ 4) (hn : n ≤ 24) {φ : Nat → Int} {t wA : Nat → Int64} (ht : ∀ q, q < 24 → t q = jJ (φ q)) (hf : ∀ q, -1600 ≤ φ q ∧ φ q ≤ 1600) (hz : ∀ p, p < n → φ p ≠ 0 → 0 < up p) (hw : ∀ p, p < n → 0 < up p → wA p = jJ (up p)) : ∀ (fu i : Nat) (o : Int32), i ≤ n → n - i < fu → ((o = -1 ∧ ∀ j, j < i → φ j ≤ 0) ∨ ∃ b, b < n ∧ o = nI b ∧ 0 < φ b ∧ ∀ j, j < i → 0 < φ j → up b * φ j ≤ up j * φ b) → ∃ o', fX12_reduces_L17 K (nI n) t wA fu o (nI i) = some o' ∧ ((o' = -1 ∧ ∀ j, j < n → φ j ≤ 0) ∨ ∃ b, b < n ∧ o' = nI b ∧ 0 < φ b ∧ ∀ j, j < n → 0 < φ j → up b * φ j ≤ up j * φ b) := by
  obtain ⟨l1, l2, l3⟩ := low_bd hRS hk
  intro fu
  induction fu with
  | zero => intro i o h1 h2; omega
  | succ fu ih =>
    intro i o h1 h2 ho
    rw [fX12_reduces_L17]
    by_cases hi : i = n
    · subst hi
      rw [if_pos (nI_le (Nat.le_refl i) (by omega))]
      exact ⟨o, rfl, ho⟩
    · have hlt : i < n := by omega
      have fi := hf i
      rw [if_neg (nI_ge hlt (by omega))]
      simp only [gd_t (inb_nI (show i < 24 by omega) (by decide)), nI_clamp (show i < 2 ^ 31 by omega), ht i (show i < 24 by omega), jn_e, xl_e, nI_1, j_gt0 (show s64 (φ i) from ⟨by omega, by omega⟩)]
      by_cases q : 0 < φ i
      · rw [if_pos q]
        rcases ho with ⟨rfl, ho⟩ | ⟨b, b1, rfl, b3, b4⟩
        · rw [if_pos rfl]
          refine ih (i + 1) _ (by omega) (by omega) (Or.inr ⟨i, hlt, rfl, q, fun j hj h0 => ?_⟩)
          by_cases e : j = i
          · rw [e]; exact Int.le_refl _
          · have := ho j (by omega); omega
        · rw [if_neg (nI_m1 (by omega))]
          have fb := hf b
          have s1 := prod_bd l1 l2 (l3 b b1) fi
          have s2 := prod_bd l1 l2 (l3 i hlt) fb
          rw [gd_t (inb_nI (show b < 24 by omega) (by decide)), gd_t (inb_nI (show b < 24 by omega) (by decide)), nI_clamp (show b < 2 ^ 31 by omega), ht b (by omega), hw b b1 (hz b b1 (by omega)), hw i hlt (hz i hlt (by omega)), jJ_mul, jJ_mul]
          simp only [jJ_le s1 s2]
          by_cases q2 : up b * φ i ≤ up i * φ b
          · rw [if_pos q2]
            refine ih (i + 1) _ (by omega) (by omega) (Or.inr ⟨b, b1, rfl, b3, fun j hj h0 => ?_⟩)
            by_cases e : j = i
            · rw [e]; exact q2
            · exact b4 j (by omega) h0
          · rw [if_neg q2]
            refine ih (i + 1) _ (by omega) (by omega) (Or.inr ⟨i, hlt, rfl, q, fun j hj h0 => ?_⟩)
            by_cases e : j = i
            · rw [e]; exact Int.le_refl _
            · exact rat_le b3 (by omega) (by omega) (show up i * φ b ≤ up b * φ i by omega) (b4 j (by omega) h0)
      · rw [if_neg q]
        refine ih (i + 1) o (by omega) (by omega) ?_
        rcases ho with ⟨rfl, ho⟩ | ⟨b, b1, rfl, b3, b4⟩
        · refine Or.inl ⟨rfl, fun j hj => ?_⟩
          by_cases e : j = i
          · rw [e]; omega
          · exact ho j (by omega)
        · refine Or.inr ⟨b, b1, rfl, b3, fun j hj h0 => ?_⟩
          by_cases e : j = i
          · rw [e] at h0; omega
          · exact b4 j (by omega) h0
theorem chn_s (a : Int) (V : Nat → Int) (i : Nat) : gG (chn a V) (i + 1 + 1) = Int.gcd (gG (chn a V) (i + 1) : Int) (V i) := by
  show Int.gcd (gG (chn a V) (i + 1) : Int) (chn a V (i + 1)) = _
  rfl
theorem chn_le {a : Int} (ha : 0 < a) (V : Nat → Int) (i : Nat) : (gG (chn a V) (i + 1) : Int) ≤ a := Int.le_of_dvd ha (gG_dvd (f := chn a V) (show 0 < i + 1 by omega))
/-- the class's step -/
theorem st50 (K : Nat) (hK : 4000 ≤ K) {n : Nat} (hn : n ≤ 24) {up φ : Nat → Int} {w l a : Int} {sz : Nat} {mem1 : Nat → Int32} {fac1 : Nat → Int64} (hfac : ∀ q, q < 24 → fX10_factorOf K (nI sz) mem1 fac1 (nI q) = some (jJ (φ q))) (ha : 0 < a ∧ a ≤ 6228541440000000000) (hU : ∀ p, p < n → 0 ≤ nxU up φ w l p ∧ nxU up φ w l p ≤ a) : ∀ (fu i : Nat) (upA : Nat → Int64), i ≤ n → n - i < fu → (∀ j, j < i → upA j = jJ (nxU up φ w l j)) → (∀ j, i ≤ j → j < n → upA j = jJ (up j)) → ∃ upA', fX9_step_L50 K (nI n) (jJ l) (jJ w) (nI sz) mem1 fac1 fu (jJ (gG (chn a (nxU up φ w l)) (i + 1) : Int)) (nI i) upA = some (jJ (gG (chn a (nxU up φ w l)) (n + 1) : Int), upA') ∧ ∀ j, j < n → upA' j = jJ (nxU up φ w l j) := by
  intro fu
  induction fu with
  | zero => intro i upA h1 h2; omega
  | succ fu ih =>
    intro i upA h1 h2 h3 h4
    rw [fX9_step_L50]
    by_cases hi : i = n
    · subst hi
      rw [if_pos (nI_le (Nat.le_refl i) (by omega))]
      exact ⟨upA, rfl, h3⟩
    · have hlt : i < n := by omega
      have hg := chn_le ha.1 (nxU up φ w l) i
      have hUi := hU i hlt
      rw [if_neg (nI_ge hlt (by omega)), gd_t (inb_nI (show i < 24 by omega) (by decide)), hfac i (by omega), sm_b1, gd_t (inb_nI (show i < 24 by omega) (by decide)), xl_e, gd_t (inb_nI (show i < 24 by omega) (by decide)), nI_clamp (by omega), h4 i (Nat.le_refl i) hlt, jJ_mul, jJ_mul, jJ_sub, updL_at, show up i * l - w * φ i = nxU up φ w l i from rfl, (gcd_spec K hK (gG (chn a (nxU up φ w l)) (i + 1) : Int) (nxU up φ w l i) (by omega) (by omega) (by omega) (by omega)).1, sm_b1, xl_e, nI_1, ← chn_s]
      refine ih (i + 1) _ (by omega) (by omega) (fun j hj => ?_) (fun j q1 q2 => ?_)
      · by_cases e : j = i
        · rw [e, updL_at]
        · rw [updL_ne e]; exact h3 j (by omega)
      · rw [updL_ne (by omega)]; exact h4 j (by omega) q2
theorem clr (q q' : Nat → Bool) {n : Nat} (hn : n ≤ 24) {i : Nat} (hi : i < n) (h1 : ∀ p, p < n → p ≠ i → q' p = q p) (h2 : q' i = false) : bP q n &&& (((1 : Int32) <<< (nI i &&& 31)) ^^^ (-1)) = bP q' n := by
  refine b_ext fun b hb => ?_
  rw [b_and, b_xor, one_shl (by omega) hb, b_m1 b hb, bP_bt q hn hb, bP_bt q' hn hb]
  by_cases e : b = i
  · subst e
    rw [h2]; simp
  · by_cases c : b < n
    · rw [h1 b c e]; simp [e]
    · simp [c]
def alB (up V : Nat → Int) (i p : Nat) : Bool := if p < i then alv V p else alv up p
theorem alB_n {up V : Nat → Int} {n : Nat} : bP (alB up V n) n = bP (alv V) n := bP_congr (fun i hi => by unfold alB; rw [if_pos hi])
theorem alB_0 {up V : Nat → Int} {n : Nat} : bP (alB up V 0) n = bP (alv up) n := bP_congr (fun i hi => by unfold alB; rw [if_neg (by omega)])
theorem alB_same {up V : Nat → Int} {n i : Nat} (h : alv V i = alv up i) : bP (alB up V i) n = bP (alB up V (i + 1)) n := bP_congr (fun p hp => by
  unfold alB
  by_cases e : p = i
  · rw [e, if_neg (by omega), if_pos (by omega), h]
  · by_cases q : p < i
    · rw [if_pos q, if_pos (by omega)]
    · rw [if_neg q, if_neg (by omega)])
theorem alB_clr {up V : Nat → Int} {n i : Nat} (hn : n ≤ 24) (hi : i < n) (h : alv V i = false) : bP (alB up V i) n &&& (((1 : Int32) <<< (nI i &&& 31)) ^^^ (-1)) = bP (alB up V (i + 1)) n := by
  refine clr _ _ hn hi (fun p hp e => ?_) ?_
  · unfold alB
    by_cases q : p < i
    · rw [if_pos q, if_pos (by omega)]
    · rw [if_neg q, if_neg (by omega)]
  · unfold alB; rw [if_pos (by omega)]; exact h
theorem st127 (K : Nat) {n : Nat} (hn : n ≤ 24) {up U : Nat → Int} {G a : Int} (hG : 0 < G ∧ G ≤ 6228541440000000000) (ha : a ≤ 6228541440000000000) (hU : ∀ p, p < n → 0 ≤ U p ∧ U p ≤ a) (hd : ∀ p, p < n → G ∣ U p) (hz : ∀ p, p < n → up p = 0 → U p = 0) (hnn : ∀ p, p < n → 0 ≤ up p) : ∀ (fu i : Nat) (upA : Nat → Int64), i ≤ n → n - i < fu → (∀ j, j < i → upA j = jJ (U j / G)) → (∀ j, i ≤ j → j < n → upA j = jJ (U j)) → ∃ upA', fX9_step_L127 K (nI n) (jJ G) fu (nI i) (bP (alB up (fun p => U p / G) i) n) upA = some (bP (alv (fun p => U p / G)) n, upA') ∧ ∀ j, j < n → upA' j = jJ (U j / G) := by
  intro fu
  induction fu with
  | zero => intro i upA h1 h2; omega
  | succ fu ih =>
    intro i upA h1 h2 h3 h4
    rw [fX9_step_L127]
    by_cases hi : i = n
    · subst hi
      rw [if_pos (nI_le (Nat.le_refl i) (by omega)), alB_n]
      exact ⟨upA, rfl, h3⟩
    · have hlt : i < n := by omega
      have hUi := hU i hlt
      have hq := quo_le hG.1 (B := a) hUi
      rw [if_neg (nI_ge hlt (by omega)), gd_t (inb_nI (show i < 24 by omega) (by decide)), gd_ne (jne hG.1 (by omega)), gd_t (inb_nI (show i < 24 by omega) (by decide)), nI_clamp (by omega), h4 i (Nat.le_refl i) hlt, jdivx hG.1 (hd i hlt) ⟨by omega, by omega⟩ (by omega), xl_e, gd_t (inb_nI (show i < 24 by omega) (by decide)), updL_at]
      simp only [jn_e, xl_e, nI_1, j_eq0 (show s64 (U i / G) from ⟨by omega, by omega⟩)]
      have A1 : ∀ j, j < i + 1 → vp_updL upA i (jJ (U i / G)) j = jJ (U j / G) := fun j hj => by
        by_cases e : j = i
        · rw [e, updL_at]
        · rw [updL_ne e]; exact h3 j (by omega)
      have A2 : ∀ j, i + 1 ≤ j → j < n → vp_updL upA i (jJ (U i / G)) j = jJ (U j) := fun j q1 q2 => by
        rw [updL_ne (by omega)]; exact h4 j (by omega) q2
      by_cases z : U i / G = 0
      · rw [if_pos z, alB_clr hn hlt (by show decide (0 < U i / G) = false; rw [z]; rfl)]
        exact ih (i + 1) _ (by omega) (by omega) A1 A2
      · rw [if_neg z, alB_same (i := i) (by
          unfold alv
          have p1 : 0 < U i / G := by omega
          have p2 : 0 < up i := by
            rcases Int.lt_or_le 0 (up i) with e | e
            · exact e
            · have : up i = 0 := by have := hnn i hlt; omega
              rw [hz i hlt this] at z
              simp at z
          rw [decide_eq_true p2]
          exact decide_eq_true p1)]
        exact ih (i + 1) _ (by omega) (by omega) A1 A2
/-- the model's step -/
theorem md109 (K : Nat) (hK : 4000 ≤ K) {n : Nat} (hn : n ≤ 24) {up φ : Nat → Int} {w l a : Int} {t : Nat → Int64} (ht : ∀ q, q < 24 → t q = jJ (φ q)) (ha : 0 < a ∧ a ≤ 6228541440000000000) (hU : ∀ p, p < n → 0 ≤ nxU up φ w l p ∧ nxU up φ w l p ≤ a) (hz : ∀ p, p < n → up p = 0 → nxU up φ w l p = 0) (hnn : ∀ p, p < n → 0 ≤ up p) : ∀ (fu i : Nat) (wA : Nat → Int64), i ≤ n → n - i < fu → (∀ j, j < i → 0 < up j → wA j = jJ (nxU up φ w l j)) → (∀ j, i ≤ j → j < n → 0 < up j → wA j = jJ (up j)) → ∃ wA', fX12_reduces_L109 K (jJ w) (jJ l) (nI n) (bP (alv up) n) t fu (jJ (gG (chn a (nxU up φ w l)) (i + 1) : Int)) (nI i) wA = some (jJ (gG (chn a (nxU up φ w l)) (n + 1) : Int), wA') ∧ ∀ j, j < n → 0 < up j → wA' j = jJ (nxU up φ w l j) := by
  intro fu
  induction fu with
  | zero => intro i wA h1 h2; omega
  | succ fu ih =>
    intro i wA h1 h2 h3 h4
    rw [fX12_reduces_L109]
    by_cases hi : i = n
    · subst hi
      rw [if_pos (nI_le (Nat.le_refl i) (by omega))]
      exact ⟨wA, rfl, h3⟩
    · have hlt : i < n := by omega
      have hg := chn_le ha.1 (nxU up φ w l) i
      have hUi := hU i hlt
      have hbit := bP_bitS (alv up) hn hlt
      rw [if_neg (nI_ge hlt (by omega))]
      simp only [jn_e, xl_e, nI_1]
      by_cases q : 0 < up i
      · have hb : bitS (bP (alv up) n) i := hbit.mpr (decide_eq_true q)
        rw [if_neg hb, gd_t (inb_nI (show i < 24 by omega) (by decide)), gd_t (inb_nI (show i < 24 by omega) (by decide)), gd_t (inb_nI (show i < 24 by omega) (by decide)), gd_t (inb_nI (show i < 24 by omega) (by decide)), nI_clamp (by omega), h4 i (Nat.le_refl i) hlt q, ht i (by omega), jJ_mul, jJ_mul, jJ_sub, updL_at, show up i * l - φ i * w = nxU up φ w l i by unfold nxU; grind, (gcd_spec K hK (gG (chn a (nxU up φ w l)) (i + 1) : Int) (nxU up φ w l i) (by omega) (by omega) (by omega) (by omega)).2, sm_b1, ← chn_s]
        refine ih (i + 1) _ (by omega) (by omega) (fun j hj h0 => ?_) (fun j q1 q2 h0 => ?_)
        · by_cases e : j = i
          · rw [e, updL_at]
          · rw [updL_ne e]; exact h3 j (by omega) h0
        · rw [updL_ne (by omega)]; exact h4 j (by omega) q2 h0
      · have hb : ¬ bitS (bP (alv up) n) i := fun s => q (of_decide_eq_true (hbit.mp s))
        have u0 : up i = 0 := by have := hnn i hlt; omega
        have e : gG (chn a (nxU up φ w l)) (i + 1) = gG (chn a (nxU up φ w l)) (i + 1 + 1) := by
          rw [chn_s, hz i hlt u0]
          unfold Int.gcd
          simp
        rw [if_pos (Classical.byContradiction hb), e]
        refine ih (i + 1) wA (by omega) (by omega) (fun j hj h0 => ?_) (fun j q1 q2 h0 => h4 j (by omega) q2 h0)
        by_cases e : j = i
        · rw [e] at h0; omega
        · exact h3 j (by omega) h0
theorem md197 (K : Nat) {n : Nat} (hn : n ≤ 24) {up U : Nat → Int} {G a : Int} (hG : 0 < G ∧ G ≤ 6228541440000000000) (ha : a ≤ 6228541440000000000) (hU : ∀ p, p < n → 0 ≤ U p ∧ U p ≤ a) (hd : ∀ p, p < n → G ∣ U p) (hz : ∀ p, p < n → up p = 0 → U p = 0) (hnn : ∀ p, p < n → 0 ≤ up p) : ∀ (fu i : Nat) (wA : Nat → Int64), i ≤ n → n - i < fu → (∀ j, j < i → 0 < up j → wA j = jJ (U j / G)) → (∀ j, i ≤ j → j < n → 0 < up j → wA j = jJ (U j)) → ∃ wA', fX12_reduces_L197 K (jJ G) (nI n) fu (nI i) (bP (alB up (fun p => U p / G) i) n) wA = some (bP (alv (fun p => U p / G)) n, wA') ∧ ∀ j, j < n → 0 < up j → wA' j = jJ (U j / G) := by
  intro fu
  induction fu with
  | zero => intro i wA h1 h2; omega
  | succ fu ih =>
    intro i wA h1 h2 h3 h4
    rw [fX12_reduces_L197]
    by_cases hi : i = n
    · subst hi
      rw [if_pos (nI_le (Nat.le_refl i) (by omega)), alB_n]
      exact ⟨wA, rfl, h3⟩
    · have hlt : i < n := by omega
      have hUi := hU i hlt
      have hq := quo_le hG.1 (B := a) hUi
      have hbit := bP_bitS (alB up (fun p => U p / G) i) hn hlt
      have hai : alB up (fun p => U p / G) i i = alv up i := by unfold alB; rw [if_neg (by omega)]
      rw [hai] at hbit
      rw [if_neg (nI_ge hlt (by omega))]
      simp only [jn_e, xl_e, nI_1]
      by_cases q : 0 < up i
      · have hb : bitS (bP (alB up (fun p => U p / G) i) n) i := hbit.mpr (decide_eq_true q)
        rw [if_neg hb, gd_t (inb_nI (show i < 24 by omega) (by decide)), gd_ne (jne hG.1 (by omega)), gd_t (inb_nI (show i < 24 by omega) (by decide)), gd_t (inb_nI (show i < 24 by omega) (by decide)), nI_clamp (by omega), h4 i (Nat.le_refl i) hlt q, jdivx hG.1 (hd i hlt) ⟨by omega, by omega⟩ (by omega), updL_at]
        simp only [j_eq0 (show s64 (U i / G) from ⟨by omega, by omega⟩)]
        have A1 : ∀ j, j < i + 1 → 0 < up j → vp_updL wA i (jJ (U i / G)) j = jJ (U j / G) := fun j hj h0 => by
          by_cases e : j = i
          · rw [e, updL_at]
          · rw [updL_ne e]; exact h3 j (by omega) h0
        have A2 : ∀ j, i + 1 ≤ j → j < n → 0 < up j → vp_updL wA i (jJ (U i / G)) j = jJ (U j) := fun j q1 q2 h0 => by
          rw [updL_ne (by omega)]; exact h4 j (by omega) q2 h0
        by_cases z : U i / G = 0
        · rw [if_pos z, alB_clr hn hlt (by show decide (0 < U i / G) = false; rw [z]; rfl)]
          exact ih (i + 1) _ (by omega) (by omega) A1 A2
        · rw [if_neg z, alB_same (i := i) (by
            unfold alv
            have p1 : 0 < U i / G := by omega
            rw [decide_eq_true q]
            exact decide_eq_true p1)]
          exact ih (i + 1) _ (by omega) (by omega) A1 A2
      · have hb : ¬ bitS (bP (alB up (fun p => U p / G) i) n) i := fun s => q (of_decide_eq_true (hbit.mp s))
        have u0 : up i = 0 := by have := hnn i hlt; omega
        rw [if_pos (Classical.byContradiction hb), alB_same (i := i) (by show decide (0 < U i / G) = decide (0 < up i); rw [hz i hlt u0, u0]; simp)]
        refine ih (i + 1) wA (by omega) (by omega) (fun j hj h0 => ?_) (fun j q1 q2 h0 => h4 j (by omega) q2 h0)
        by_cases e : j = i
        · rw [e] at h0; omega
        · exact h3 j (by omega) h0
theorem stepJ (K : Nat) (hK : 4000 ≤ K) {n : Nat} {x y px py : Nat → Int32} {X Y : Nat → Int} (h : Pts n x y X Y) (h' : Pts n px py X Y) {k : Nat} {up : Nat → Int} {low : Int} (hRS : RS n k up low) {upA wA : Nat → Int64} (hu : ∀ p, p < n → upA p = jJ (up p)) (hw : ∀ p, p < n → 0 < up p → wA p = jJ (up p)) (sz0 : Int32) (mem0 : Nat → Int32) (fac0 t0 : Nat → Int64) : (∃ sz1 mem1 fac1 t1, fX10_find K sz0 mem0 fac0 (nI n) x y (bP (alv up) n) = some (0, sz1, mem1, fac1) ∧ fX12_reduces K (nI n) (jJ low) (bP (alv up) n) px py t0 wA = some (0, jJ low, bP (alv up) n, t1, wA)) ∨ (k ≤ 4 ∧ ∃ up' low' sz1 mem1 fac1 b upA' t1 wA', RS n (k + 1) up' low' ∧ fX10_find K sz0 mem0 fac0 (nI n) x y (bP (alv up) n) = some (1, sz1, mem1, fac1) ∧ fX9_tightest K upA sz1 mem1 fac1 = some b ∧ fX9_step K (jJ low) (bP (alv up) n) upA sz1 mem1 fac1 (nI n) b = some (jJ low', bP (alv up') n, upA') ∧ (∀ p, p < n → upA' p = jJ (up' p)) ∧ fX12_reduces K (nI n) (jJ low) (bP (alv up) n) px py t0 wA = some (1, jJ low', bP (alv up') n, t1, wA') ∧ ∀ p, p < n → 0 < up' p → wA' p = jJ (up' p)) := by
  have hn := h.1
  rcases tieB K hK h h' (bP (alv up) n) sz0 mem0 fac0 t0 with ⟨sz1, mem1, fac1, t1, e1, e2⟩ | ⟨sz, mem, f, mem1, fac1, t1, T, e1, e2, e3, e4⟩
  · refine Or.inl ⟨sz1, mem1, fac1, t1, e1, ?_⟩
    unfold fX12_reduces
    rw [e2, sm_b2, if_pos rfl]
  · right
    obtain ⟨t1', t2, t3, t4, t5, t6, t7, t8⟩ := T
    have hb : ∀ i, i < sz → mem i < n := fun i hi => (t2 i hi).1
    have hal : ∀ i, i < sz → 0 < up (mem i) := fun i hi => of_decide_eq_true ((bP_bitS (alv up) hn (hb i hi)).mp (t2 i hi).2)
    have hk : k ≤ 4 := by
      have c2 : 2 ≤ cnt (alv up) n := by
        have m01 := t3 0 1 (by omega) (by omega)
        have a0 := hal 0 (by omega)
        have a1 := hal 1 (by omega)
        have h1 := cnt_less (f := fun p => decide (p = mem 0)) (g := alv up) (n := n) (o := mem 1) (fun i hi q => by rw [of_decide_eq_true q]; exact decide_eq_true a0) (hb 1 (by omega)) (decide_eq_false (by omega)) (decide_eq_true a1)
        have h2 := cnt_less (f := fun _ => false) (g := fun p => decide (p = mem 0)) (n := n) (o := mem 0) (fun i hi q => by cases q) (hb 0 (by omega)) rfl (decide_eq_true rfl)
        omega
      have := hRS.2.2.2.2
      omega
    refine ⟨hk, ?_⟩
    obtain ⟨l1, l2, l3⟩ := low_bd hRS hk
    have hφz : ∀ p, p < n → phi mem f sz p ≠ 0 → 0 < up p := by
      intro p hp q
      rcases phi_cases (f := f) t3 p with ⟨i, i1, i2, i3⟩ | ⟨-, i2⟩
      · rw [← i2]; exact hal i i1
      · exact absurd i2 q
    have hφs : sumF (phi mem f sz) n = 0 := by
      have := phi_sum (mem := mem) (f := f) (n := n) (fun _ v => v) (fun _ => rfl) t3 hb
      rw [show sumF (phi mem f sz) n = sumF (fun p => phi mem f sz p) n from rfl, this]
      exact t6
    have hφr := phi_rng t3 t5
    -- class's tightest
    obtain ⟨b, g1, g2, g3', g4⟩ := tghL K hRS hk hn t1'.2 e2 hb t5 hu K 0 (sz - 1) (by omega) (by omega) (by omega) t4 (fun j hj => by omega)
    have es : nI sz - 1 = nI (sz - 1) := by rw [show (1 : Int32) = nI 1 from rfl, sub_nI (by omega)]
    have gt : fX9_tightest K upA (nI sz) mem1 fac1 = some (nI b) := by
      unfold fX9_tightest
      rw [xl_e, es, show (0 : Int32) = nI 0 from rfl, g1]; rfl
    have T1 : tgt n up (phi mem f sz) (up (mem b)) (f b) := by
      refine ⟨g3', (t5 b g2).2, ⟨mem b, hb b g2, phi_at t3 g2, rfl, hal b g2⟩, fun p hp q => ?_⟩
      rcases phi_cases (f := f) t3 p with ⟨i, i1, i2, i3⟩ | ⟨-, i2⟩
      · rw [i3] at q ⊢
        rw [← i2]
        exact g4 i i1 q
      · omega
    -- model's
    obtain ⟨o', o1, o2⟩ := outL K hRS hk hn e4 hφr hφz hw K 0 (-1) (by omega) (by omega) (Or.inl ⟨rfl, fun j hj => by omega⟩)
    obtain ⟨c, c1, rfl, c3, c4⟩ : ∃ b, b < n ∧ o' = nI b ∧ 0 < phi mem f sz b ∧ ∀ j, j < n → 0 < phi mem f sz j → up b * phi mem f sz j ≤ up j * phi mem f sz b := by
      rcases o2 with ⟨-, q⟩ | q
      · have := q (mem (sz - 1)) (hb _ (by omega))
        rw [phi_at t3 (by omega)] at this
        omega
      · exact q
    have T2 : tgt n up (phi mem f sz) (up c) (phi mem f sz c) := ⟨c3, (hφr c).2, ⟨c, c1, rfl, rfl, hφz c c1 (by omega)⟩, c4⟩
    obtain ⟨n1, n2, n3, n4, n5, -, n7⟩ := nx_ok hRS hφz hφs T1 hk
    obtain ⟨m1, m2, m3, m4, m5, -, m7⟩ := nx_ok hRS hφz hφs T2 hk
    have pb := pow_bd (show k + 1 ≤ 5 by omega)
    have na : 0 < low * f b ∧ low * f b ≤ 6228541440000000000 := ⟨n3, by omega⟩
    have ma : 0 < low * phi mem f sz c ∧ low * phi mem f sz c ≤ 6228541440000000000 := ⟨m3, by omega⟩
    obtain ⟨q1, q2, q3, q4⟩ := same_next T1 T2 l2 rfl rfl
    have dn := chn_dvd (a := low * f b) (V := nxU up (phi mem f sz) (up (mem b)) (f b)) (n := n)
    have dm := chn_dvd (a := low * phi mem f sz c) (V := nxU up (phi mem f sz) (up c) (phi mem f sz c)) (n := n)
    have gn := chn_le na.1 (nxU up (phi mem f sz) (up (mem b)) (f b)) n
    have gm := chn_le ma.1 (nxU up (phi mem f sz) (up c) (phi mem f sz c)) n
    have RS' := nx_RS hRS hφz hφs T1 hk q3 dn.1 dn.2
    have g10 : (gG (chn (low * f b) (nxU up (phi mem f sz) (up (mem b)) (f b))) (0 + 1) : Int) = low * f b := by
      show ((Int.gcd ((0 : Nat) : Int) (low * f b) : Nat) : Int) = low * f b
      rw [show ((0 : Nat) : Int) = 0 from rfl, gcd_n0]; omega
    have g10m : (gG (chn (low * phi mem f sz c) (nxU up (phi mem f sz) (up c) (phi mem f sz c))) (0 + 1) : Int) = low * phi mem f sz c := by
      show ((Int.gcd ((0 : Nat) : Int) (low * phi mem f sz c) : Nat) : Int) = low * phi mem f sz c
      rw [show ((0 : Nat) : Int) = 0 from rfl, gcd_n0]; omega
    have hT : TI n X Y (bP (alv up) n) sz mem f := ⟨t1', t2, t3, t4, t5, t6, t7, t8⟩
    obtain ⟨upB, u1', u2'⟩ := st50 K hK hn (up := up) (φ := phi mem f sz) (w := up (mem b)) (l := f b) (fun q hq => facC K hK hn hT e2 hq) na (fun p hp => ⟨n1 p hp, n7 p hp⟩) K 0 upA (by omega) (by omega) (fun j hj => by omega) (fun j _ hj => hu j hj)
    obtain ⟨upC, v1, v2⟩ := st127 K hn (up := up) (U := nxU up (phi mem f sz) (up (mem b)) (f b)) (a := low * f b) ⟨q3, by omega⟩ na.2 (fun p hp => ⟨n1 p hp, n7 p hp⟩) dn.2 n5 hRS.1 K 0 upB (by omega) (by omega) (fun j hj => by omega) (fun j _ hj => u2' j hj)
    obtain ⟨wB, w1', w2'⟩ := md109 K hK hn (up := up) (φ := phi mem f sz) (w := up c) (l := phi mem f sz c) e4 ma (fun p hp => ⟨m1 p hp, m7 p hp⟩) m5 hRS.1 K 0 wA (by omega) (by omega) (fun j hj => by omega) (fun j _ hj h0 => hw j hj h0)
    obtain ⟨wC, y1, y2⟩ := md197 K hn (up := up) (U := nxU up (phi mem f sz) (up c) (phi mem f sz c)) (a := low * phi mem f sz c) ⟨q4, by omega⟩ ma.2 (fun p hp => ⟨m1 p hp, m7 p hp⟩) dm.2 m5 hRS.1 K 0 wB (by omega) (by omega) (fun j hj => by omega) (fun j _ hj h0 => w2' j hj h0)
    rw [g10] at u1'
    rw [g10m] at w1'
    rw [alB_0] at v1 y1
    have eal : bP (alv (fun p => nxU up (phi mem f sz) (up c) (phi mem f sz c) p / (gG (chn (low * phi mem f sz c) (nxU up (phi mem f sz) (up c) (phi mem f sz c))) (n + 1) : Int))) n = bP (alv (fun p => nxU up (phi mem f sz) (up (mem b)) (f b) p / (gG (chn (low * f b) (nxU up (phi mem f sz) (up (mem b)) (f b))) (n + 1) : Int))) n := bP_congr (fun i hi => by unfold alv; rw [decide_eq_decide]; dsimp only; rw [← q2 i hi])
    refine ⟨fun p => nxU up (phi mem f sz) (up (mem b)) (f b) p / (gG (chn (low * f b) (nxU up (phi mem f sz) (up (mem b)) (f b))) (n + 1) : Int), low * f b / (gG (chn (low * f b) (nxU up (phi mem f sz) (up (mem b)) (f b))) (n + 1) : Int), nI sz, mem1, fac1, nI b, upC, t1, wC, RS', e1, gt, ?_, v2, ?_, ?_⟩
    · unfold fX9_step
      rw [if_pos (show (0 : Int32) ≤ nI b from (nI_le (Nat.zero_le b) (by omega) : nI 0 ≤ nI b)), gd_t (inb_nI (show b < 4 by omega) (by decide)), xl_e, gd_t (inb_nI (show b < 4 by omega) (by decide)), nI_clamp (by omega), (e2 b g2).1, (e2 b g2).2, gd_t (inb_nI (show mem b < 24 by have := hb b g2; omega) (by decide)), nI_clamp (by have := hb b g2; omega), hu (mem b) (hb b g2), xl_e, jJ_mul, xl_e, show (0 : Int32) = nI 0 from rfl, u1', sm_b2, if_neg (jne q3 (by omega)), gd_ne (jne q3 (by omega)), jdivx q3 dn.1 ⟨by omega, by omega⟩ (by omega), xl_e, v1, sm_b2]
    · unfold fX12_reduces
      rw [e3, sm_b2, if_neg one_ne, show (0 : Int32) = nI 0 from rfl, o1, sm_b1, gd_t (inb_nI (show c < 24 by omega) (by decide)), xl_e, gd_t (inb_nI (show c < 24 by omega) (by decide)), xl_e, nI_clamp (by omega), hw c c1 (hφz c c1 (by omega)), e4 c (by omega), jJ_mul, xl_e, w1', sm_b2, gd_ne (jne q4 (by omega)), jdivx q4 dm.1 ⟨by omega, by omega⟩ (by omega), xl_e, y1, sm_b2, eal, q1]
    · intro p hp hpos
      have hup : 0 < up p := by
        rcases Int.lt_or_le 0 (up p) with e | e
        · exact e
        · have : up p = 0 := by have := hRS.1 p hp; omega
          have hpos' : 0 < nxU up (phi mem f sz) (up (mem b)) (f b) p / (gG (chn (low * f b) (nxU up (phi mem f sz) (up (mem b)) (f b))) (n + 1) : Int) := hpos
          rw [n5 p hp this] at hpos'
          simp at hpos'
      rw [y2 p hp hup, ← q2 p hp]
