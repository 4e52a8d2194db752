--@ needs 3m.radon
/-! the steps of the loads: the pure part -/
def alv (up : Nat → Int) (p : Nat) : Bool := decide (0 < up p)
def RS (n k : Nat) (up : Nat → Int) (low : Int) : Prop := (∀ p, p < n → 0 ≤ up p) ∧ low = sumF up n ∧ 0 < low ∧ low ≤ 594 * 1600 ^ k ∧ cnt (alv up) n + k ≤ 6
theorem sum_cnt {W : Nat → Int} {B : Int} (hB : 0 ≤ B) : ∀ {n : Nat}, (∀ p, p < n → 0 ≤ W p ∧ W p ≤ B) → sumF W n ≤ B * (cnt (alv W) n : Int) := by
  intro n
  induction n with
  | zero => intro _; simp [sumF, cnt]
  | succ n ih =>
    intro h
    have h1 := ih (fun p hp => h p (by omega))
    have h2 := h n (by omega)
    rw [sumF, cnt]
    unfold alv at *
    by_cases q : 0 < W n
    · rw [if_pos (decide_eq_true q)]
      have : B * ((cnt (fun p => decide (0 < W p)) n + 1 : Nat) : Int) = B * (cnt (fun p => decide (0 < W p)) n : Int) + B := by rw [Int.natCast_add, Int.mul_add]; simp
      rw [this]; omega
    · rw [if_neg (by rw [decide_eq_true_eq]; exact q), Nat.add_zero]; omega
theorem le_sum {W : Nat → Int} : ∀ {n : Nat}, (∀ p, p < n → 0 ≤ W p) → ∀ p, p < n → W p ≤ sumF W n := by
  intro n
  induction n with
  | zero => intro _ p hp; omega
  | succ n ih =>
    intro h p hp
    have h0 := (sumF_0 (f := W) (k := n) (fun p hp => h p (by omega))).1
    rw [sumF]
    by_cases e : p = n
    · rw [e]; omega
    · have := ih (fun p hp => h p (by omega)) p (by omega)
      have := h n (by omega)
      omega
theorem sumF_lin {f g : Nat → Int} {a b : Int} : ∀ {k : Nat}, sumF (fun p => f p * a - b * g p) k = sumF f k * a - b * sumF g k := by
  intro k
  induction k with
  | zero => simp [sumF]
  | succ k ih => rw [sumF, sumF, sumF, ih]; grind
/-- what a step makes of them -/
def nxU (up φ : Nat → Int) (w l : Int) (p : Nat) : Int := up p * l - w * φ p
def chn (a : Int) (V : Nat → Int) (i : Nat) : Int := if i = 0 then a else V (i - 1)
def tgt (n : Nat) (up φ : Nat → Int) (w l : Int) : Prop := 0 < l ∧ l ≤ 1600 ∧ (∃ o, o < n ∧ φ o = l ∧ up o = w ∧ 0 < w) ∧ ∀ p, p < n → 0 < φ p → w * φ p ≤ up p * l
theorem pow_bd {k : Nat} (h : k ≤ 5) : (1600 : Int) ^ k ≤ 10485760000000000 := by
  have : k = 0 ∨ k = 1 ∨ k = 2 ∨ k = 3 ∨ k = 4 ∨ k = 5 := by omega
  rcases this with rfl | rfl | rfl | rfl | rfl | rfl <;> decide
theorem nx_ok {n k : Nat} {up φ : Nat → Int} {low w l : Int} (h : RS n k up low) (hz : ∀ p, p < n → φ p ≠ 0 → 0 < up p) (hs : sumF φ n = 0) (ht : tgt n up φ w l) (hk : k ≤ 4) : (∀ p, p < n → 0 ≤ nxU up φ w l p) ∧ sumF (nxU up φ w l) n = low * l ∧ 0 < low * l ∧ low * l ≤ 594 * 1600 ^ (k + 1) ∧ (∀ p, p < n → up p = 0 → nxU up φ w l p = 0) ∧ (∃ o, o < n ∧ 0 < up o ∧ nxU up φ w l o = 0) ∧ (∀ p, p < n → nxU up φ w l p ≤ low * l) := by
  obtain ⟨h1, h2, h3, h4, h5⟩ := h
  obtain ⟨t1, t2, ⟨o, o1, o2, o3, o4⟩, t4⟩ := ht
  have nn : ∀ p, p < n → 0 ≤ nxU up φ w l p := by
    intro p hp
    unfold nxU
    rcases Int.lt_or_le 0 (φ p) with q | q
    · have := t4 p hp q; omega
    · have a1 := mpn (show 0 ≤ w by omega) q
      have a2 := Int.mul_nonneg (h1 p hp) (show 0 ≤ l by omega)
      omega
  have es : sumF (nxU up φ w l) n = low * l := by
    show sumF (fun p => up p * l - w * φ p) n = low * l
    rw [sumF_lin, hs, ← h2]; simp
  refine ⟨nn, es, Int.mul_pos h3 t1, ?_, fun p hp e => ?_, ⟨o, o1, by omega, ?_⟩, fun p hp => ?_⟩
  · have a1 : low * l ≤ low * 1600 := Int.mul_le_mul_of_nonneg_left t2 (by omega)
    have a2 : low * 1600 ≤ 594 * 1600 ^ k * 1600 := Int.mul_le_mul_of_nonneg_right h4 (by omega)
    rw [Int.pow_succ, ← Int.mul_assoc]
    omega
  · unfold nxU
    have : φ p = 0 := Classical.byContradiction (fun q => by have := hz p hp q; omega)
    rw [e, this]; simp
  · unfold nxU
    rw [o2, o3]; grind
  · rw [← es]; exact le_sum nn p hp
theorem chn_dvd {a : Int} {V : Nat → Int} {n : Nat} : (gG (chn a V) (n + 1) : Int) ∣ a ∧ ∀ p, p < n → (gG (chn a V) (n + 1) : Int) ∣ V p := by
  constructor
  · exact gG_dvd (f := chn a V) (show 0 < n + 1 by omega)
  · intro p hp
    exact gG_dvd (f := chn a V) (show p + 1 < n + 1 by omega)
theorem sumF_div {V : Nat → Int} {G : Int} (hG : 0 < G) : ∀ {n : Nat}, (∀ p, p < n → G ∣ V p) → G * sumF (fun p => V p / G) n = sumF V n := by
  intro n
  induction n with
  | zero => intro _; simp [sumF]
  | succ n ih =>
    intro h
    rw [sumF, sumF, Int.mul_add, ih (fun p hp => h p (by omega)), Int.mul_ediv_cancel' (h n (by omega))]
theorem cnt_less {f g : Nat → Bool} : ∀ {n o : Nat}, (∀ i, i < n → f i = true → g i = true) → o < n → f o = false → g o = true → cnt f n + 1 ≤ cnt g n := by
  intro n
  induction n with
  | zero => intro o _ ho; omega
  | succ n ih =>
    intro o h ho h1 h2
    rw [cnt, cnt]
    by_cases e : o = n
    · subst e
      have := cnt_mono (n := o) (fun i hi q => h i (by omega) q)
      rw [h1, h2]; simp; omega
    · have i1 := ih (fun i hi q => h i (by omega) q) (show o < n by omega) h1 h2
      have := h n (by omega)
      cases hf : f n <;> cases hg : g n <;> rw [hf, hg] at this <;> simp at this ⊢ <;> omega
theorem nx_RS {n k : Nat} {up φ : Nat → Int} {low w l : Int} (h : RS n k up low) (hz : ∀ p, p < n → φ p ≠ 0 → 0 < up p) (hs : sumF φ n = 0) (ht : tgt n up φ w l) (hk : k ≤ 4) {G : Int} (hG : 0 < G) (hG1 : G ∣ low * l) (hG2 : ∀ p, p < n → G ∣ nxU up φ w l p) : RS n (k + 1) (fun p => nxU up φ w l p / G) (low * l / G) := by
  obtain ⟨a1, a2, a3, a4, a5, ⟨o, o1, o2, o3⟩, a7⟩ := nx_ok h hz hs ht hk
  have hsum := sumF_div hG hG2
  rw [a2] at hsum
  have el : sumF (fun p => nxU up φ w l p / G) n = low * l / G := by
    rw [← hsum, Int.mul_ediv_cancel_left _ (by omega)]
  have hl0 : 0 < low * l / G := by
    have := Int.mul_ediv_cancel' hG1
    exact div_gt hG (by rw [this]; exact a3)
  refine ⟨fun p hp => (Int.ediv_nonneg (a1 p hp) (by omega)), el.symm, hl0, ?_, ?_⟩
  · have := (quo_le hG (B := low * l) ⟨by omega, Int.le_refl _⟩).2
    omega
  · have := cnt_less (f := alv (fun p => nxU up φ w l p / G)) (g := alv up) (n := n) (o := o) (fun i hi q => by
      unfold alv at q ⊢
      rw [decide_eq_true_eq] at q ⊢
      rcases Int.lt_or_le 0 (up i) with e | e
      · exact e
      · have : up i = 0 := by have := h.1 i hi; omega
        have q' : 0 < nxU up φ w l i / G := q
        rw [a5 i hi this] at q'
        simp at q') o1 (by unfold alv; show decide (0 < nxU up φ w l o / G) = false; rw [o3]; simp) (by unfold alv; exact decide_eq_true o2)
    have := h.2.2.2.2
    omega
/-- two tightest ones lead to the same -/
theorem same_next {n : Nat} {up φ : Nat → Int} {low w l w' l' : Int} (ht : tgt n up φ w l) (ht' : tgt n up φ w' l') (hlow : 0 < low) {G G' : Int} (hG : G = (gG (chn (low * l) (nxU up φ w l)) (n + 1) : Int)) (hG' : G' = (gG (chn (low * l') (nxU up φ w' l')) (n + 1) : Int)) : low * l / G = low * l' / G' ∧ (∀ p, p < n → nxU up φ w l p / G = nxU up φ w' l' p / G') ∧ 0 < G ∧ 0 < G' := by
  have e : w * l' = w' * l := by
    obtain ⟨l1, -, ⟨o, o1, o2, o3, -⟩, t⟩ := ht
    obtain ⟨l1', -, ⟨o', p1, p2, p3, -⟩, t'⟩ := ht'
    have q1 := t o' p1 (by rw [p2]; exact l1')
    have q2 := t' o o1 (by rw [o2]; exact l1)
    rw [p2, p3] at q1
    rw [o2, o3] at q2
    omega
  have l0 := ht.1
  have l0' := ht'.1
  have par : ∀ i, i < n + 1 → chn (low * l) (nxU up φ w l) i * l' = l * chn (low * l') (nxU up φ w' l') i := by
    intro i hi
    unfold chn
    by_cases q : i = 0
    · rw [if_pos q, if_pos q]; grind
    · rw [if_neg q, if_neg q]; unfold nxU; grind
  have hs := gG_scale par
  have n1 : (l'.natAbs : Int) = l' := by omega
  have n2 : (l.natAbs : Int) = l := by omega
  rw [n1, n2, ← hG, ← hG'] at hs
  have g0 : 0 < G := by
    rw [hG]
    refine gG_pos (show 0 < n + 1 by omega) ?_
    have : chn (low * l) (nxU up φ w l) 0 = low * l := rfl
    rw [this]
    have := Int.mul_pos hlow l0; omega
  have g0' : 0 < G' := by
    rw [hG']
    refine gG_pos (show 0 < n + 1 by omega) ?_
    have : chn (low * l') (nxU up φ w' l') 0 = low * l' := rfl
    rw [this]
    have := Int.mul_pos hlow l0'; omega
  have dd := chn_dvd (a := low * l) (V := nxU up φ w l) (n := n)
  have dd' := chn_dvd (a := low * l') (V := nxU up φ w' l') (n := n)
  rw [← hG] at dd
  rw [← hG'] at dd'
  have key : ∀ {a b : Int}, G ∣ a → G' ∣ b → a * l' = l * b → a / G = b / G' := by
    intro a b h1 h2 h3
    refine div_same g0 g0' h1 h2 ?_
    have : l * (a * G') = l * (b * G) := by
      have q1 : l * (a * G') = a * (l * G') := by grind
      have q2 : l * (b * G) = (l * b) * G := by grind
      rw [q1, q2, ← hs, ← h3]; grind
    exact Int.eq_of_mul_eq_mul_left (by omega) this
  refine ⟨key dd.1 dd'.1 (by grind), fun p hp => key (dd.2 p hp) (dd'.2 p hp) ?_, g0, g0'⟩
  unfold nxU
  grind
