--@ needs 3d.pop 2r.near
/-! half planes by a place, and those turned a little off a point -/
abbrev crs (α β : Nat → Int) (t i : Nat) : Int := α t * β i - β t * α i
abbrev dts (α β : Nat → Int) (t i : Nat) : Int := α t * α i + β t * β i
abbrev zr (α β : Nat → Int) (i : Nat) : Prop := α i = 0 ∧ β i = 0
def lkB (α β : Nat → Int) (σ τ : Int) (t i : Nat) : Bool := decide (0 < σ * crs α β t i ∨ (crs α β t i = 0 ∧ 0 < τ * dts α β t i) ∨ zr α β i)
def hfB (α β : Nat → Int) (i : Nat) : Bool := decide (0 < α i ∨ (α i = 0 ∧ 0 < β i) ∨ zr α β i)
abbrev pm1 (σ : Int) : Prop := σ = 1 ∨ σ = -1
theorem pos_of_mul {a b : Int} (ha : 0 < a) : 0 < a * b ↔ 0 < b := ⟨fun h => div_gt ha h, fun h => Int.mul_pos ha h⟩
theorem look_pt {a b x y : Int} (ha : 0 < a) (hx : x ≠ 0) (h1 : 0 < x → 0 ≤ a * y - b * x) (h2 : x < 0 → a * y - b * x ≤ 0) : (0 < a * y - b * x ∨ (a * y - b * x = 0 ∧ 0 < a * x + b * y)) ↔ 0 < x := by
  have key : a * (a * x + b * y) = x * (a * a + b * b) + b * (a * y - b * x) := by grind
  have hp : 0 < a * a + b * b := ssqp (fun h => by omega)
  constructor
  · rintro (h | ⟨h, h'⟩)
    · rcases Int.lt_trichotomy x 0 with q | q | q
      · have := h2 q; omega
      · exact absurd q hx
      · exact q
    · rw [h, Int.mul_zero, Int.add_zero] at key
      have h3 := Int.mul_pos ha h'
      rw [key, Int.mul_comm] at h3
      exact div_gt hp h3
  · intro q
    have h3 := h1 q
    rcases Int.lt_or_eq_of_le h3 with h4 | h4
    · exact Or.inl h4
    · refine Or.inr ⟨h4.symm, ?_⟩
      rw [← h4, Int.mul_zero, Int.add_zero] at key
      have := Int.mul_pos q hp
      rw [← key] at this
      exact div_gt ha this
theorem half_look {α β : Nat → Int} {n : Nat} (ex : ∃ t, t < n ∧ ¬ zr α β t) : ∃ t σ τ, t < n ∧ ¬ zr α β t ∧ pm1 σ ∧ pm1 τ ∧ ∀ i, i < n → hfB α β i = lkB α β σ τ t i := by
  by_cases hA : ∃ t, t < n ∧ α t = 0 ∧ β t ≠ 0
  · obtain ⟨t, ht, h0, hb⟩ := hA
    rcases Int.lt_or_gt_of_ne hb with q | q
    · refine ⟨t, 1, -1, ht, fun h => hb h.2, Or.inl rfl, Or.inr rfl, fun i hi => ?_⟩
      unfold hfB lkB crs dts
      rw [h0]
      congr 1
      have e1 : (0 : Int) < 1 * (0 * β i - β t * α i) ↔ 0 < α i := by
        rw [show 1 * (0 * β i - β t * α i) = (-β t) * α i by grind]
        exact pos_of_mul (by omega)
      have e2 : 0 * β i - β t * α i = 0 ↔ α i = 0 := by
        constructor
        · intro h
          exact div_eq0 (a := -β t) (by omega) (by grind)
        · intro h; rw [h]; simp
      have e3 : (0 : Int) < -1 * (0 * α i + β t * β i) ↔ 0 < β i := by
        rw [show -1 * (0 * α i + β t * β i) = (-β t) * β i by grind]
        exact pos_of_mul (by omega)
      rw [e1, e2, e3]
    · refine ⟨t, -1, 1, ht, fun h => hb h.2, Or.inr rfl, Or.inl rfl, fun i hi => ?_⟩
      unfold hfB lkB crs dts
      rw [h0]
      congr 1
      have e1 : (0 : Int) < -1 * (0 * β i - β t * α i) ↔ 0 < α i := by
        rw [show -1 * (0 * β i - β t * α i) = (β t) * α i by grind]
        exact pos_of_mul (by omega)
      have e2 : 0 * β i - β t * α i = 0 ↔ α i = 0 := by
        constructor
        · intro h
          exact div_eq0 (a := β t) (by omega) (by grind)
        · intro h; rw [h]; simp
      have e3 : (0 : Int) < 1 * (0 * α i + β t * β i) ↔ 0 < β i := by
        rw [show 1 * (0 * α i + β t * β i) = (β t) * β i by grind]
        exact pos_of_mul (by omega)
      rw [e1, e2, e3]
  · have hB : ∀ i, i < n → ¬ zr α β i → α i ≠ 0 := by
      intro i hi hz h
      exact hA ⟨i, hi, h, fun h2 => hz ⟨h, h2⟩⟩
    obtain ⟨t, ht, hz, hmin⟩ := min_ex (v := fun i => ¬ zr α β i) (a := fun i => if α i < 0 then -β i else β i) (b := fun i => if α i = 0 then 1 else if α i < 0 then -α i else α i) n (fun i hi => by
      split
      · omega
      · split <;> omega) ex
    have ha := hB t ht hz
    have hm : ∀ i, i < n → ¬ zr α β i → (0 < α i → (0 < α t → 0 ≤ crs α β t i) ∧ (α t < 0 → crs α β t i ≤ 0)) ∧ (α i < 0 → (0 < α t → crs α β t i ≤ 0) ∧ (α t < 0 → 0 ≤ crs α β t i)) := by
      intro i hi hzi
      have h1 := hmin i hi hzi
      have h2 := hB i hi hzi
      rw [if_neg ha, if_neg h2] at h1
      unfold crs
      refine ⟨fun q => ⟨fun p => ?_, fun p => ?_⟩, fun q => ⟨fun p => ?_, fun p => ?_⟩⟩
      · rw [if_neg (by omega), if_neg (by omega), if_neg (by omega), if_neg (by omega)] at h1; grind
      · rw [if_pos p, if_neg (by omega), if_neg (by omega), if_pos p] at h1; grind
      · rw [if_neg (by omega), if_pos q, if_pos q, if_neg (by omega)] at h1; grind
      · rw [if_pos p, if_pos q, if_pos q, if_pos p] at h1; grind
    have hH : ∀ i, i < n → ¬ zr α β i → ((0 < α i ∨ (α i = 0 ∧ 0 < β i) ∨ zr α β i) ↔ 0 < α i) := by
      intro i hi hzi
      have h2 := hB i hi hzi
      constructor
      · rintro (h | h | h)
        · exact h
        · exact absurd h.1 h2
        · exact absurd h hzi
      · exact Or.inl
    rcases Int.lt_or_gt_of_ne ha with q | q
    · refine ⟨t, -1, -1, ht, hz, Or.inr rfl, Or.inr rfl, fun i hi => ?_⟩
      unfold hfB lkB
      congr 1
      by_cases hzi : zr α β i
      · exact propext ⟨fun _ => Or.inr (Or.inr hzi), fun _ => Or.inr (Or.inr hzi)⟩
      · have h2 := hB i hi hzi
        have h3 := hm i hi hzi
        rw [hH i hi hzi]
        have := look_pt (a := -α t) (b := -β t) (x := α i) (y := β i) (by omega) h2 (fun p => by have := (h3.1 p).2 q; unfold crs at this; grind) (fun p => by have := (h3.2 p).2 q; unfold crs at this; grind)
        rw [← this]
        apply propext
        unfold crs dts
        constructor
        · rintro (h | ⟨h, h'⟩)
          · exact Or.inl (by grind)
          · exact Or.inr (Or.inl ⟨by grind, by grind⟩)
        · rintro (h | ⟨h, h'⟩ | h)
          · exact Or.inl (by grind)
          · exact Or.inr ⟨by grind, by grind⟩
          · exact absurd h hzi
    · refine ⟨t, 1, 1, ht, hz, Or.inl rfl, Or.inl rfl, fun i hi => ?_⟩
      unfold hfB lkB
      congr 1
      by_cases hzi : zr α β i
      · exact propext ⟨fun _ => Or.inr (Or.inr hzi), fun _ => Or.inr (Or.inr hzi)⟩
      · have h2 := hB i hi hzi
        have h3 := hm i hi hzi
        rw [hH i hi hzi]
        have := look_pt (a := α t) (b := β t) (x := α i) (y := β i) q h2 (fun p => (h3.1 p).1 q) (fun p => (h3.2 p).1 q)
        rw [← this]
        apply propext
        constructor
        · rintro (h | ⟨h, h'⟩)
          · exact Or.inl (by grind)
          · exact Or.inr (Or.inl ⟨by grind, by grind⟩)
        · rintro (h | ⟨h, h'⟩ | h)
          · exact Or.inl (by grind)
          · exact Or.inr ⟨by grind, by grind⟩
          · exact absurd h hzi
/-- what a point's line makes of them -/
theorem zr_iff {α β : Nat → Int} {t : Nat} (hz : ¬ zr α β t) (i : Nat) : (crs α β t i = 0 ∧ dts α β t i = 0) ↔ zr α β i := by
  constructor
  · rintro ⟨h1, h2⟩
    have hp : 0 < α t * α t + β t * β t := ssqp hz
    have k : (α t * α t + β t * β t) * (α i * α i + β i * β i) = 0 := by
      have : (α t * α t + β t * β t) * (α i * α i + β i * β i) = crs α β t i * crs α β t i + dts α β t i * dts α β t i := by unfold crs dts; grind
      rw [this, h1, h2]; rfl
    exact ssq0 (Int.le_of_eq (div_eq0 hp k))
  · rintro ⟨h1, h2⟩
    unfold crs dts
    rw [h1, h2]
    constructor <;> omega
/-- keys: fewest, then least -/
def ky (n : Nat) (p : Nat → Bool) : Nat := cnt p n * 33554432 + nP p n
theorem ky_lt {n : Nat} (hn : n ≤ 24) (p q : Nat → Bool) : ky n p < ky n q ↔ (cnt p n < cnt q n ∨ (cnt p n = cnt q n ∧ nP p n < nP q n)) := by
  have h1 := nP_24 p hn
  have h2 := nP_24 q hn
  unfold ky
  omega
theorem ky_eq {n : Nat} (hn : n ≤ 24) {p q : Nat → Bool} (h : ky n p = ky n q) : cnt p n = cnt q n ∧ nP p n = nP q n := by
  have h1 := nP_24 p hn
  have h2 := nP_24 q hn
  unfold ky at h
  omega
theorem nP_congr {p q : Nat → Bool} : ∀ {n : Nat}, (∀ i, i < n → p i = q i) → nP p n = nP q n := by
  intro n
  induction n with
  | zero => intro _; rfl
  | succ n ih => intro h; rw [nP, nP, ih (fun i hi => h i (by omega)), h n (by omega)]
theorem ky_congr {n : Nat} {p q : Nat → Bool} (h : ∀ i, i < n → p i = q i) : ky n p = ky n q := by
  unfold ky; rw [cnt_congr h, nP_congr h]
theorem nP_mono {p q : Nat → Bool} : ∀ {n : Nat}, (∀ i, i < n → p i = true → q i = true) → nP p n ≤ nP q n := by
  intro n
  induction n with
  | zero => intro _; exact Nat.le_refl _
  | succ n ih =>
    intro h
    have h1 := ih (fun i hi => h i (by omega))
    have h2 := h n (by omega)
    rw [nP, nP]
    generalize 2 ^ n = c at *
    cases hp : p n <;> cases hq : q n <;> rw [hp, hq] at h2 <;> simp at h2 ⊢ <;> omega
theorem ky_mono {n : Nat} {p q : Nat → Bool} (h : ∀ i, i < n → p i = true → q i = true) : ky n p ≤ ky n q := by
  have h1 := nP_mono h
  have h2 := cnt_mono h
  unfold ky
  omega
/-- the looks of the first i points -/
def Lk (α β : Nat → Int) (i : Nat) (p : Nat → Bool) : Prop := ∃ t σ τ, t < i ∧ ¬ zr α β t ∧ pm1 σ ∧ pm1 τ ∧ p = lkB α β σ τ t
def kmin (n : Nat) (D : (Nat → Bool) → Prop) (p : Nat → Bool) : Prop := D p ∧ ∀ q, D q → ky n p ≤ ky n q
def allB : Nat → Bool := fun _ => true
theorem kmin_add {n : Nat} {D : (Nat → Bool) → Prop} {p q : Nat → Bool} (h : kmin n D p) : kmin n (fun r => D r ∨ r = q) (if ky n q < ky n p then q else p) := by
  split
  · rename_i c
    refine ⟨Or.inr rfl, ?_⟩
    rintro r (hr | rfl)
    · have := h.2 r hr; omega
    · exact Nat.le_refl _
  · rename_i c
    refine ⟨Or.inl h.1, ?_⟩
    rintro r (hr | rfl)
    · exact h.2 r hr
    · omega
theorem kmin_eqv {n : Nat} {D D' : (Nat → Bool) → Prop} {p : Nat → Bool} (h : kmin n D p) (hD : ∀ q, D q ↔ D' q) : kmin n D' p := ⟨(hD p).mp h.1, fun q hq => h.2 q ((hD q).mpr hq)⟩
theorem Lk_succ (α β : Nat → Int) (i : Nat) (p : Nat → Bool) : Lk α β (i + 1) p ↔ (Lk α β i p ∨ (¬ zr α β i ∧ (p = lkB α β 1 1 i ∨ p = lkB α β 1 (-1) i ∨ p = lkB α β (-1) 1 i ∨ p = lkB α β (-1) (-1) i))) := by
  constructor
  · rintro ⟨t, σ, τ, ht, hz, hs, hu, rfl⟩
    by_cases e : t = i
    · subst e
      refine Or.inr ⟨hz, ?_⟩
      rcases hs with rfl | rfl <;> rcases hu with rfl | rfl
      · exact Or.inl rfl
      · exact Or.inr (Or.inl rfl)
      · exact Or.inr (Or.inr (Or.inl rfl))
      · exact Or.inr (Or.inr (Or.inr rfl))
    · exact Or.inl ⟨t, σ, τ, by omega, hz, hs, hu, rfl⟩
  · rintro (⟨t, σ, τ, ht, hz, hs, hu, rfl⟩ | ⟨hz, h⟩)
    · exact ⟨t, σ, τ, by omega, hz, hs, hu, rfl⟩
    · rcases h with rfl | rfl | rfl | rfl
      · exact ⟨i, 1, 1, by omega, hz, Or.inl rfl, Or.inl rfl, rfl⟩
      · exact ⟨i, 1, -1, by omega, hz, Or.inl rfl, Or.inr rfl, rfl⟩
      · exact ⟨i, -1, 1, by omega, hz, Or.inr rfl, Or.inl rfl, rfl⟩
      · exact ⟨i, -1, -1, by omega, hz, Or.inr rfl, Or.inr rfl, rfl⟩
/-- the model's minimum and the class's are one -/
theorem kmin_same {α β : Nat → Int} {n : Nat} {p q : Nat → Bool} (hp : kmin n (fun r => r = hfB α β ∨ Lk α β n r) p) (hq : kmin n (fun r => r = allB ∨ Lk α β n r) q) : ky n p = ky n q := by
  by_cases ex : ∃ t, t < n ∧ ¬ zr α β t
  · obtain ⟨t, σ, τ, ht, hz, hs, hu, hh⟩ := half_look ex
    have L1 : Lk α β n (lkB α β σ τ t) := ⟨t, σ, τ, ht, hz, hs, hu, rfl⟩
    have h1 : ky n q ≤ ky n p := by
      rcases hp.1 with e | e
      · rw [e, ky_congr hh]; exact hq.2 _ (Or.inr L1)
      · exact hq.2 _ (Or.inr e)
    have h2 : ky n p ≤ ky n q := by
      rcases hq.1 with e | e
      · rw [e]
        exact Nat.le_trans (hp.2 _ (Or.inr L1)) (ky_mono (fun i hi _ => rfl))
      · exact hp.2 _ (Or.inr e)
    omega
  · have hz : ∀ i, i < n → zr α β i := fun i hi => Classical.byContradiction (fun h => ex ⟨i, hi, h⟩)
    have nl : ∀ r, ¬ Lk α β n r := by
      rintro r ⟨t, σ, τ, ht, hz', -⟩
      exact hz' (hz t ht)
    have e : ky n (hfB α β) = ky n allB := ky_congr (fun i hi => by unfold hfB allB; simp [hz i hi])
    rcases hp.1 with e1 | e1
    · rcases hq.1 with e2 | e2
      · rw [e1, e2, e]
      · exact absurd e2 (nl _)
    · exact absurd e1 (nl _)
/-- closed half planes bound it -/
theorem ky_cnt {n : Nat} (hn : n ≤ 24) {p q : Nat → Bool} (h : ky n p ≤ ky n q) : cnt p n ≤ cnt q n := by
  have h1 := nP_24 p hn
  have h2 := nP_24 q hn
  unfold ky at h
  omega
theorem half_bound {α β : Nat → Int} {n : Nat} (hn : n ≤ 24) {q : Nat → Bool} (hq : kmin n (fun r => r = allB ∨ Lk α β n r) q) {γ δ : Nat → Int} (hg : (∀ t i, crs γ δ t i = crs α β t i) ∨ ∀ t i, crs γ δ t i = -crs α β t i) (hd : ∀ t i, dts γ δ t i = dts α β t i) {c : Nat → Bool} (hc : ∀ i, i < n → 0 ≤ γ i → c i = true) : cnt q n ≤ cnt c n := by
  have hzz : ∀ i, zr γ δ i ↔ zr α β i := by
    intro i
    have := hd i i
    unfold dts at this
    constructor
    · rintro ⟨h1, h2⟩
      rw [h1, h2] at this
      exact ssq0 (by omega)
    · rintro ⟨h1, h2⟩
      rw [h1, h2] at this
      exact ssq0 (by omega)
  have hk : ∀ r, (r = allB ∨ Lk α β n r) → cnt q n ≤ cnt r n := fun r hr => ky_cnt hn (hq.2 r hr)
  by_cases ex : ∃ t, t < n ∧ ¬ zr γ δ t
  · obtain ⟨t, σ, τ, ht, hz, hs, hu, hh⟩ := half_look ex
    have hcc : cnt (hfB γ δ) n ≤ cnt c n := by
      refine cnt_mono (fun i hi h => hc i hi ?_)
      unfold hfB at h
      have h' := of_decide_eq_true h
      rcases h' with h' | h' | h'
      · omega
      · omega
      · have := h'.1; omega
    refine Nat.le_trans ?_ hcc
    rw [cnt_congr hh]
    rcases hg with hg | hg
    · have e : lkB γ δ σ τ t = lkB α β σ τ t := by
        funext i
        unfold lkB
        rw [hg, hd]
        congr 1
        rw [hzz i]
      rw [e]
      exact hk _ (Or.inr ⟨t, σ, τ, ht, fun h => hz ((hzz t).mpr h), hs, hu, rfl⟩)
    · have e : lkB γ δ σ τ t = lkB α β (-σ) τ t := by
        funext i
        unfold lkB
        rw [hg, hd]
        congr 1
        rw [hzz i, show σ * -crs α β t i = -σ * crs α β t i by grind, show (-crs α β t i = 0) = (crs α β t i = 0) by simp]
      rw [e]
      exact hk _ (Or.inr ⟨t, -σ, τ, ht, fun h => hz ((hzz t).mpr h), by
        rcases hs with rfl | rfl
        · exact Or.inr rfl
        · exact Or.inl rfl, hu, rfl⟩)
  · have h1 := hk _ (Or.inl rfl)
    have h2 : cnt c n = n := cnt_all (fun i hi => hc i hi (by
      have : zr γ δ i := Classical.byContradiction (fun h => ex ⟨i, hi, h⟩)
      rw [this.1]; exact Int.le_refl _))
    have h3 : cnt allB n = n := cnt_all (fun i hi => rfl)
    omega
