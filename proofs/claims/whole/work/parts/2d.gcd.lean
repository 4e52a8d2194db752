def fb : Nat → Nat
  | 0 => 0
  | 1 => 1
  | n + 2 => fb n + fb (n + 1)
theorem fb93 : 9223372036854775808 < fb 93 := by decide +kernel
theorem fb_s (n : Nat) : fb (n + 2) = fb n + fb (n + 1) := rfl
theorem mod_le_sub {h l : Nat} (hl : l ≤ h) : h % l ≤ h - l := by
  rw [Nat.mod_eq_sub_mod hl]
  exact Nat.mod_le _ _
theorem s64_nat {n : Nat} (h : n < 9223372036854775808) : s64 (n : Int) := ⟨by omega, by omega⟩
theorem jJ_div_nat {h l : Nat} (hh : h < 9223372036854775808) (hl : l < 9223372036854775808) : jJ (h : Int) / jJ (l : Int) = jJ ((h / l : Nat) : Int) := by
  have e := @Int64.ofInt_tdiv (h : Int) (l : Int) (by rw [Int64.toInt_minValue]; omega) (by rw [Int64.toInt_maxValue]; omega) (by rw [Int64.toInt_minValue]; omega) (by rw [Int64.toInt_maxValue]; omega)
  unfold jJ
  rw [← e, Int.ofNat_tdiv]
theorem jreml_nat {h l : Nat} (hh : h < 9223372036854775808) (hl : l < 9223372036854775808) : jreml (jJ (h : Int)) (jJ (l : Int)) = jJ ((h % l : Nat) : Int) := by
  unfold jreml
  rw [jJ_div_nat hh hl, jJ_mul, jJ_sub]
  congr 1
  have e := Nat.div_add_mod h l
  have e2 : l * (h / l) = h / l * l := Nat.mul_comm _ _
  have e3 : ((h / l : Nat) : Int) * (l : Int) = ((h / l * l : Nat) : Int) := by simp
  rw [e3]
  omega
theorem jJ_nat_ne {l : Nat} (hl : l < 9223372036854775808) (h0 : ¬ l = 0) : ¬ jJ (l : Int) = 0 := by
  intro h
  have h1 : jJ (l : Int) = jJ 0 := h
  have h2 := (jJ_eq (s64_nat hl) ⟨by omega, by omega⟩).mp h1
  omega
theorem gd_ne {β : Type} {x : Int64} (h : ¬ x = 0) (k : Option β) : gd (!decide (x = 0)) k = k := gd_t (by simp [h]) k
theorem com_run (K : Nat) : ∀ (k fu h l : Nat), h < 9223372036854775808 → l < h → (h < fb (k + 3) ∨ l < fb (k + 2)) → k < fu → fX12_common_L12 K fu (jJ (h : Int)) (jJ (l : Int)) = some (jJ (Nat.gcd h l : Int)) ∧ ∀ c : Nat, c + k < 100 → fX11_gcd_L15 K fu (jJ (h : Int)) (jJ (l : Int)) (nI c) = some (jJ (Nat.gcd h l : Int)) := by
  intro k
  induction k with
  | zero =>
    intro fu h l hh hl hc hf
    obtain ⟨fu, rfl⟩ : ∃ m, fu = m + 1 := ⟨fu - 1, by omega⟩
    have h3 : fb (0 + 3) = 2 := by decide
    have h2 : fb (0 + 2) = 1 := by decide
    have hl0 : l = 0 := by omega
    subst hl0
    refine ⟨?_, fun c hcc => ?_⟩
    · rw [fX12_common_L12, if_pos (show jJ ((0 : Nat) : Int) = 0 from rfl), Nat.gcd_zero_right]
    · rw [fX11_gcd_L15, if_neg (show ¬ (100 : Int32) ≤ nI c from (show ¬ nI 100 ≤ nI c from nI_ge (by omega) (by decide))), if_pos (show jJ ((0 : Nat) : Int) = 0 from rfl), Nat.gcd_zero_right]
  | succ k ih =>
    intro fu h l hh hl hc hf
    obtain ⟨fu, rfl⟩ : ∃ m, fu = m + 1 := ⟨fu - 1, by omega⟩
    by_cases hl0 : l = 0
    · subst hl0
      refine ⟨?_, fun c hcc => ?_⟩
      · rw [fX12_common_L12, if_pos (show jJ ((0 : Nat) : Int) = 0 from rfl), Nat.gcd_zero_right]
      · rw [fX11_gcd_L15, if_neg (show ¬ (100 : Int32) ≤ nI c from (show ¬ nI 100 ≤ nI c from nI_ge (by omega) (by decide))), if_pos (show jJ ((0 : Nat) : Int) = 0 from rfl), Nat.gcd_zero_right]
    · have hne := jJ_nat_ne (show l < 9223372036854775808 by omega) hl0
      have hr : h % l < l := Nat.mod_lt _ (by omega)
      have hs := mod_le_sub (show l ≤ h by omega)
      have e3 : fb (k + 1 + 3) = fb (k + 2) + fb (k + 3) := rfl
      have e2 : fb (k + 1 + 2) = fb (k + 3) := rfl
      have hc2 : l < fb (k + 3) ∨ h % l < fb (k + 2) := by
        rcases hc with hc | hc
        · by_cases q : l < fb (k + 3)
          · exact Or.inl q
          · right; omega
        · exact Or.inl hc
      obtain ⟨i1, i2⟩ := ih fu l (h % l) (by omega) hr hc2 (by omega)
      have eg : Nat.gcd h l = Nat.gcd l (h % l) := by rw [Nat.gcd_comm h l, Nat.gcd_rec l h, Nat.gcd_comm]
      refine ⟨?_, fun c hcc => ?_⟩
      · rw [fX12_common_L12, if_neg hne, gd_ne hne]
        simp only [xl]
        rw [jreml_nat hh (by omega), i1, eg]
      · rw [fX11_gcd_L15, if_neg (show ¬ (100 : Int32) ≤ nI c from (show ¬ nI 100 ≤ nI c from nI_ge (by omega) (by decide))), if_neg hne, gd_ne hne]
        simp only [xl]
        rw [jreml_nat hh (by omega), nI_1, i2 (c + 1) (by omega), eg]
theorem com_nat (K : Nat) (hK : 4000 ≤ K) (h l : Nat) (hh : h < 9223372036854775808) (hl : l < 9223372036854775808) : fX12_common_L12 K K (jJ (h : Int)) (jJ (l : Int)) = some (jJ (Nat.gcd h l : Int)) ∧ fX11_gcd_L15 K K (jJ (h : Int)) (jJ (l : Int)) 0 = some (jJ (Nat.gcd h l : Int)) := by
  obtain ⟨fu, hfu⟩ : ∃ m, K = m + 1 := ⟨K - 1, by omega⟩
  have h0 : (0 : Int32) = nI 0 := rfl
  by_cases hl0 : l = 0
  · subst hl0
    rw [h0]
    refine ⟨?_, ?_⟩
    · conv => lhs; rw [hfu]
      rw [fX12_common_L12, if_pos (show jJ ((0 : Nat) : Int) = 0 from rfl), Nat.gcd_zero_right]
    · conv => lhs; rw [hfu]
      rw [fX11_gcd_L15, if_neg (by decide), if_pos (show jJ ((0 : Nat) : Int) = 0 from rfl), Nat.gcd_zero_right]
  · have hne := jJ_nat_ne hl hl0
    have hr : h % l < l := Nat.mod_lt _ (by omega)
    obtain ⟨i1, i2⟩ := com_run K 90 fu l (h % l) hl hr (Or.inl (by have := fb93; exact Nat.lt_trans hl this)) (by omega)
    have eg : Nat.gcd h l = Nat.gcd l (h % l) := by rw [Nat.gcd_comm h l, Nat.gcd_rec l h, Nat.gcd_comm]
    refine ⟨?_, ?_⟩
    · have e : fX12_common_L12 K (fu + 1) (jJ (h : Int)) (jJ (l : Int)) = some (jJ (Nat.gcd h l : Int)) := by
        rw [fX12_common_L12, if_neg hne, gd_ne hne]
        simp only [xl]
        rw [jreml_nat hh hl, i1, eg]
      rw [← hfu] at e
      exact e
    · have e : fX11_gcd_L15 K (fu + 1) (jJ (h : Int)) (jJ (l : Int)) (nI 0) = some (jJ (Nat.gcd h l : Int)) := by
        rw [fX11_gcd_L15, if_neg (by decide), if_neg hne, gd_ne hne]
        simp only [xl]
        rw [jreml_nat hh hl, show nI 0 + (1 : Int32) = nI 1 from rfl, i2 1 (by decide), eg]
      rw [← hfu] at e
      exact e
theorem jabsl_jJ {a : Int} (h1 : -9223372036854775808 < a) (h2 : a < 9223372036854775808) : jabsl (jJ a) = jJ (a.natAbs : Int) := by
  unfold jabsl
  have e0 : (0 : Int64) = jJ 0 := rfl
  rw [e0, jJ_neg]
  by_cases c : 0 < a
  · rw [if_pos ((jJ_lt ⟨by omega, by omega⟩ ⟨by omega, by omega⟩).mpr c)]
    congr 1
    omega
  · rw [if_neg (fun h => c ((jJ_lt ⟨by omega, by omega⟩ ⟨by omega, by omega⟩).mp h))]
    congr 1
    omega
/-- both greatest common divisors -/
theorem gcd_spec (K : Nat) (hK : 4000 ≤ K) (a b : Int) (ha1 : -9223372036854775808 < a) (ha2 : a < 9223372036854775808) (hb1 : -9223372036854775808 < b) (hb2 : b < 9223372036854775808) : fX11_gcd K (jJ a) (jJ b) = some (jJ (Int.gcd a b : Int)) ∧ fX12_common K (jJ a) (jJ b) = some (jJ (Int.gcd a b : Int)) := by
  obtain ⟨h1, h2⟩ := com_nat K hK a.natAbs b.natAbs (by omega) (by omega)
  simp only [fX11_gcd, fX12_common, b1, xl]
  rw [jabsl_jJ ha1 ha2, jabsl_jJ hb1 hb2, h1, h2]
  exact ⟨rfl, rfl⟩
