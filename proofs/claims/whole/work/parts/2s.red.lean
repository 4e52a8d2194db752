--@ needs 2a.num 2b.ev1 2d.gcd 2l.side 2m.side2 2r.near
/-! lowest terms -/
def g3 (P Q L : Int) : Nat := Int.gcd (Int.gcd P Q : Nat) L
theorem g3_dvd (P Q L : Int) : (g3 P Q L : Int) ∣ P ∧ (g3 P Q L : Int) ∣ Q ∧ (g3 P Q L : Int) ∣ L := by
  unfold g3
  have h1 := Int.gcd_dvd_left ((Int.gcd P Q : Nat) : Int) L
  exact ⟨Int.dvd_trans h1 (Int.gcd_dvd_left P Q), Int.dvd_trans h1 (Int.gcd_dvd_right P Q), Int.gcd_dvd_right _ L⟩
theorem g3_pos {P Q L : Int} (h : L ≠ 0) : 0 < g3 P Q L := by
  unfold g3
  exact Int.gcd_pos_of_ne_zero_right _ h
theorem g3_mul {P Q L k : Int} (hk : 0 < k) : (g3 (P * k) (Q * k) (L * k) : Int) = g3 P Q L * k := by
  unfold g3
  rw [Int.gcd_mul_right, Int.natCast_mul, Int.natAbs_of_nonneg (show 0 ≤ k by omega), Int.gcd_mul_right, Int.natCast_mul, Int.natAbs_of_nonneg (show 0 ≤ k by omega)]
theorem div_same {a c g h : Int} (hg : 0 < g) (hh : 0 < h) (d1 : g ∣ a) (d2 : h ∣ c) (e : a * h = c * g) : a / g = c / h := by
  obtain ⟨p, rfl⟩ := d1
  obtain ⟨q, rfl⟩ := d2
  rw [Int.mul_ediv_cancel_left _ (by omega), Int.mul_ediv_cancel_left _ (by omega)]
  have : (g * h) * (p - q) = 0 := by grind
  have := div_eq0 (Int.mul_pos hg hh) this
  omega
theorem red_eq {P Q L P2 Q2 L2 : Int} (hL : 0 < L) (hL2 : 0 < L2) (h1 : P2 * L = P * L2) (h2 : Q2 * L = Q * L2) : P / (g3 P Q L : Int) = P2 / (g3 P2 Q2 L2 : Int) ∧ Q / (g3 P Q L : Int) = Q2 / (g3 P2 Q2 L2 : Int) ∧ L / (g3 P Q L : Int) = L2 / (g3 P2 Q2 L2 : Int) := by
  have e1 := g3_mul (P := P) (Q := Q) (L := L) hL2
  have e2 := g3_mul (P := P2) (Q := Q2) (L := L2) hL
  rw [h1, h2, Int.mul_comm L2 L, e1] at e2
  have q1 : 0 < (g3 P Q L : Int) := by have := g3_pos (P := P) (Q := Q) (show L ≠ 0 by omega); omega
  have q2 : 0 < (g3 P2 Q2 L2 : Int) := by have := g3_pos (P := P2) (Q := Q2) (show L2 ≠ 0 by omega); omega
  obtain ⟨a1, a2, a3⟩ := g3_dvd P Q L
  obtain ⟨b1, b2, b3⟩ := g3_dvd P2 Q2 L2
  generalize (g3 P Q L : Int) = g at *
  generalize (g3 P2 Q2 L2 : Int) = h at *
  refine ⟨div_same q1 q2 a1 b1 ?_, div_same q1 q2 a2 b2 ?_, div_same q1 q2 a3 b3 ?_⟩
  · have : L * (P * h - P2 * g) = 0 := by grind
    have := div_eq0 hL this; omega
  · have : L * (Q * h - Q2 * g) = 0 := by grind
    have := div_eq0 hL this; omega
  · have : L * (L * h - L2 * g) = 0 := by grind
    have := div_eq0 hL this; omega
theorem gcd_pos2 {a b : Int} (h : b ≠ 0) : 0 < (Int.gcd a b : Int) := by
  have := Int.gcd_pos_of_ne_zero_right a h; omega
theorem red2_eq {a b c d : Int} (hb : 0 < b) (hd : 0 < d) (h : c * b = a * d) : a / (Int.gcd a b : Int) = c / (Int.gcd c d : Int) ∧ b / (Int.gcd a b : Int) = d / (Int.gcd c d : Int) := by
  have e1 : (Int.gcd (a * d) (b * d) : Int) = Int.gcd a b * d := by rw [Int.gcd_mul_right, Int.natCast_mul, Int.natAbs_of_nonneg (show 0 ≤ d by omega)]
  have e2 : (Int.gcd (c * b) (d * b) : Int) = Int.gcd c d * b := by rw [Int.gcd_mul_right, Int.natCast_mul, Int.natAbs_of_nonneg (show 0 ≤ b by omega)]
  rw [h, Int.mul_comm d b, e1] at e2
  have q1 := gcd_pos2 (a := a) (show b ≠ 0 by omega)
  have q2 := gcd_pos2 (a := c) (show d ≠ 0 by omega)
  have a1 := Int.gcd_dvd_left a b
  have a2 := Int.gcd_dvd_right a b
  have b1 := Int.gcd_dvd_left c d
  have b2 := Int.gcd_dvd_right c d
  generalize (Int.gcd a b : Int) = g at *
  generalize (Int.gcd c d : Int) = k at *
  refine ⟨div_same q1 q2 a1 b1 ?_, div_same q1 q2 a2 b2 ?_⟩
  · have : b * (a * k - c * g) = 0 := by grind
    have := div_eq0 hb this; omega
  · have : b * (b * k - d * g) = 0 := by grind
    have := div_eq0 hb this; omega
theorem jdivx {P g : Int} (hg : 0 < g) (hd : g ∣ P) (hP : -9223372036854775808 < P ∧ P < 9223372036854775808) (hg2 : g < 9223372036854775808) : jJ P / jJ g = jJ (P / g) := by
  have e := @Int64.ofInt_tdiv P g (by rw [Int64.toInt_minValue]; omega) (by rw [Int64.toInt_maxValue]; omega) (by rw [Int64.toInt_minValue]; omega) (by rw [Int64.toInt_maxValue]; omega)
  show Int64.ofInt P / Int64.ofInt g = Int64.ofInt (P / g)
  rw [← e, Int.tdiv_eq_ediv_of_dvd hd]
theorem gcd_le {a b : Int} (hb : 0 < b) : (Int.gcd a b : Int) ≤ b := Int.le_of_dvd hb (Int.gcd_dvd_right a b)
theorem g3_le {P Q L : Int} (hL : 0 < L) : (g3 P Q L : Int) ≤ L := Int.le_of_dvd hL (g3_dvd P Q L).2.2
theorem gcd_bd {a b B : Int} (ha : -B ≤ a ∧ a ≤ B) (hb : -B ≤ b ∧ b ≤ B) : (Int.gcd a b : Int) ≤ B := by
  by_cases c : a = 0
  · subst c; rw [Int.gcd_zero_left]; omega
  · have := Int.gcd_le_natAbs_left (b := b) c
    omega
theorem jne {g : Int} (hg : 0 < g) (h : g < 9223372036854775808) : ¬ jJ g = 0 := by
  intro e
  have : g = 0 := (j_eq0 ⟨by omega, by omega⟩).mp e
  omega
/-- the model's way to lay a place -/
theorem layP (K : Nat) (hK : 4000 ≤ K) (p q b : Int64) {P Q L : Int} (hP : -4611686018427387904 ≤ P ∧ P ≤ 4611686018427387904) (hQ : -4611686018427387904 ≤ Q ∧ Q ≤ 4611686018427387904) (hL : 0 < L ∧ L ≤ 4611686018427387904) : fX12_laysPlace K p q b (jJ P) (jJ Q) (jJ L) = some (jJ (P / (g3 P Q L : Int)), jJ (Q / (g3 P Q L : Int)), jJ (L / (g3 P Q L : Int))) := by
  have k1 := gcd_bd hP hQ
  have k2 := g3_le (P := P) (Q := Q) hL.1
  have k3 : 0 < (g3 P Q L : Int) := by have := g3_pos (P := P) (Q := Q) (show L ≠ 0 by omega); omega
  obtain ⟨d1, d2, d3⟩ := g3_dvd P Q L
  unfold fX12_laysPlace
  rw [(gcd_spec K hK P Q (by omega) (by omega) (by omega) (by omega)).2]
  simp only [b1, Option.bind_some]
  rw [(gcd_spec K hK (Int.gcd P Q : Nat) L (by omega) (by omega) (by omega) (by omega)).2]
  simp only [Option.bind_some, jn]
  rw [if_pos (show (0 : Int64) ≤ jJ L from (j_ge0 ⟨by omega, by omega⟩).mpr (by omega))]
  show gd (!decide (jJ (g3 P Q L : Int) = 0)) _ = _
  rw [gd_ne (jne k3 (by omega))]
  simp only [xl]
  show gd (!decide (jJ (g3 P Q L : Int) = 0)) (gd (!decide (jJ (g3 P Q L : Int) = 0)) (some (jJ P / jJ (g3 P Q L : Int), jJ Q / jJ (g3 P Q L : Int), jJ L / jJ (g3 P Q L : Int)))) = _
  rw [gd_ne (jne k3 (by omega)), gd_ne (jne k3 (by omega)), jdivx k3 d1 (by omega) (by omega), jdivx k3 d2 (by omega) (by omega), jdivx k3 d3 (by omega) (by omega)]
/-- the class's -/
theorem lowC (K : Nat) (hK : 4000 ≤ K) {P Q L a b : Int} (hP : -4611686018427387904 ≤ P ∧ P ≤ 4611686018427387904) (hQ : -4611686018427387904 ≤ Q ∧ Q ≤ 4611686018427387904) (hL : 0 < L ∧ L ≤ 4611686018427387904) (ha : -4611686018427387904 ≤ a ∧ a ≤ 4611686018427387904) (hb : 0 < b ∧ b ≤ 4611686018427387904) : fX4_bringToLowestTerms K (jJ P) (jJ Q) (jJ L) (jJ a) (jJ b) = some (jJ (P / (g3 P Q L : Int)), jJ (Q / (g3 P Q L : Int)), jJ (L / (g3 P Q L : Int)), jJ (a / (Int.gcd a b : Int)), jJ (b / (Int.gcd a b : Int))) := by
  have k1 := gcd_bd hP hQ
  have k2 := g3_le (P := P) (Q := Q) hL.1
  have k3 : 0 < (g3 P Q L : Int) := by have := g3_pos (P := P) (Q := Q) (show L ≠ 0 by omega); omega
  obtain ⟨d1, d2, d3⟩ := g3_dvd P Q L
  have q2 := gcd_le (a := a) hb.1
  have q3 := gcd_pos2 (a := a) (show b ≠ 0 by omega)
  unfold fX4_bringToLowestTerms
  rw [(gcd_spec K hK P Q (by omega) (by omega) (by omega) (by omega)).1]
  simp only [b1, Option.bind_some]
  rw [(gcd_spec K hK (Int.gcd P Q : Nat) L (by omega) (by omega) (by omega) (by omega)).1, (gcd_spec K hK a b (by omega) (by omega) (by omega) (by omega)).1]
  simp only [Option.bind_some, jn]
  have e : ((Int.gcd (Int.gcd P Q : Nat) L : Nat) : Int) = (g3 P Q L : Int) := rfl
  rw [e]
  rw [if_neg (jne k3 (by omega)), gd_ne (jne k3 (by omega))]
  simp only [xl]
  rw [gd_ne (jne k3 (by omega)), gd_ne (jne k3 (by omega)), if_neg (jne q3 (by omega)), gd_ne (jne q3 (by omega)), gd_ne (jne q3 (by omega)), jdivx k3 d1 (by omega) (by omega), jdivx k3 d2 (by omega) (by omega), jdivx k3 d3 (by omega) (by omega), jdivx q3 (Int.gcd_dvd_left a b) (by omega) (by omega), jdivx q3 (Int.gcd_dvd_right a b) (by omega) (by omega)]
