/-! numbers: 32 and 64 bits as integers -/
def iI (z : Int) : Int32 := Int32.ofInt z
def jJ (z : Int) : Int64 := Int64.ofInt z
theorem iI_toInt (x : Int32) : iI x.toInt = x := Int32.ofInt_toInt x
theorem jJ_toInt (x : Int64) : jJ x.toInt = x := Int64.ofInt_toInt x
theorem toInt_iI {z : Int} (h1 : -2147483648 ≤ z) (h2 : z < 2147483648) : (iI z).toInt = z := Int32.toInt_ofInt_of_le h1 h2
theorem toInt_jJ {z : Int} (h1 : -9223372036854775808 ≤ z) (h2 : z < 9223372036854775808) : (jJ z).toInt = z := Int64.toInt_ofInt_of_le h1 h2
theorem iI_add (a b : Int) : iI a + iI b = iI (a + b) := (Int32.ofInt_add a b).symm
theorem iI_sub (a b : Int) : iI a - iI b = iI (a - b) := (Int32.ofInt_sub a b).symm
theorem iI_mul (a b : Int) : iI a * iI b = iI (a * b) := (Int32.ofInt_mul a b).symm
theorem iI_neg (a : Int) : -iI a = iI (-a) := (Int32.ofInt_neg a).symm
theorem jJ_add (a b : Int) : jJ a + jJ b = jJ (a + b) := (Int64.ofInt_add a b).symm
theorem jJ_sub (a b : Int) : jJ a - jJ b = jJ (a - b) := (Int64.ofInt_sub a b).symm
theorem jJ_mul (a b : Int) : jJ a * jJ b = jJ (a * b) := (Int64.ofInt_mul a b).symm
theorem jJ_neg (a : Int) : -jJ a = jJ (-a) := (Int64.ofInt_neg a).symm
/-- small: fits an int with room -/
def s32 (z : Int) : Prop := -2147483648 ≤ z ∧ z < 2147483648
def s64 (z : Int) : Prop := -9223372036854775808 ≤ z ∧ z < 9223372036854775808
theorem iI_lt {a b : Int} (ha : s32 a) (hb : s32 b) : iI a < iI b ↔ a < b := by
  rw [Int32.lt_iff_toInt_lt, toInt_iI ha.1 ha.2, toInt_iI hb.1 hb.2]
theorem iI_le {a b : Int} (ha : s32 a) (hb : s32 b) : iI a ≤ iI b ↔ a ≤ b := by
  rw [Int32.le_iff_toInt_le, toInt_iI ha.1 ha.2, toInt_iI hb.1 hb.2]
theorem iI_eq {a b : Int} (ha : s32 a) (hb : s32 b) : iI a = iI b ↔ a = b := by
  rw [← Int32.toInt_inj, toInt_iI ha.1 ha.2, toInt_iI hb.1 hb.2]
theorem jJ_lt {a b : Int} (ha : s64 a) (hb : s64 b) : jJ a < jJ b ↔ a < b := by
  rw [Int64.lt_iff_toInt_lt, toInt_jJ ha.1 ha.2, toInt_jJ hb.1 hb.2]
theorem jJ_le {a b : Int} (ha : s64 a) (hb : s64 b) : jJ a ≤ jJ b ↔ a ≤ b := by
  rw [Int64.le_iff_toInt_le, toInt_jJ ha.1 ha.2, toInt_jJ hb.1 hb.2]
theorem jJ_eq {a b : Int} (ha : s64 a) (hb : s64 b) : jJ a = jJ b ↔ a = b := by
  rw [← Int64.toInt_inj, toInt_jJ ha.1 ha.2, toInt_jJ hb.1 hb.2]
theorem iI_long {a : Int} (ha : s32 a) : (iI a).toInt64 = jJ a := by
  rw [← Int64.toInt_inj, Int32.toInt_toInt64, toInt_iI ha.1 ha.2, toInt_jJ (by have := ha.1; omega) (by have := ha.2; omega)]
theorem long_iI (x : Int32) : x.toInt64 = jJ x.toInt := by
  rw [← Int64.toInt_inj, Int32.toInt_toInt64, toInt_jJ (by have := x.le_toInt; omega) (by have := x.toInt_lt; omega)]
theorem jJ_int (a : Int) : (jJ a).toInt32 = iI a := Int64.toInt32_ofInt
theorem nI_iI (n : Nat) : nI n = iI n := (Int32.ofInt_eq_ofNat).symm
theorem iI_clamp {z : Int} (h : s32 z) : (iI z).toNatClampNeg = z.toNat := by
  show (iI z).toInt.toNat = z.toNat
  rw [toInt_iI h.1 h.2]
theorem inb_nI {k N : Nat} (h : k < N) (hN : N < 2147483648) : inb (nI k) N = true := by
  unfold inb
  have h1 : ¬ nI k < 0 := nI_pos (by omega)
  have h2 : (nI k).toNatClampNeg = k := nI_clamp (by omega)
  simp [h1, h2]
  omega
theorem inb_i {z : Int} {N : Nat} (h0 : 0 ≤ z) (h1 : z < N) (hN : N < 2147483648) : inb (iI z) N = true := by
  obtain ⟨k, rfl⟩ := Int.eq_ofNat_of_zero_le h0
  rw [← nI_iI]
  exact inb_nI (by omega) hN
theorem gd_t {β : Type} {b : Bool} (h : b = true) (k : Option β) : gd b k = k := by
  rw [h]; rfl
/-- an int within -20 .. 20 and such, as the program asks -/
theorem i_lt_lit {x : Int32} {v : Int32} {z : Int} (hv : v.toInt = z) : x < v ↔ x.toInt < z := by
  rw [Int32.lt_iff_toInt_lt, hv]
theorem lit_lt_i {x : Int32} {v : Int32} {z : Int} (hv : v.toInt = z) : v < x ↔ z < x.toInt := by
  rw [Int32.lt_iff_toInt_lt, hv]
theorem i_le_lit {x : Int32} {v : Int32} {z : Int} (hv : v.toInt = z) : x ≤ v ↔ x.toInt ≤ z := by
  rw [Int32.le_iff_toInt_le, hv]
theorem lit_le_i {x : Int32} {v : Int32} {z : Int} (hv : v.toInt = z) : v ≤ x ↔ z ≤ x.toInt := by
  rw [Int32.le_iff_toInt_le, hv]
theorem i_eq_lit {x : Int32} {v : Int32} {z : Int} (hv : v.toInt = z) : x = v ↔ x.toInt = z := by
  rw [← Int32.toInt_inj, hv]
theorem long_toInt (x : Int32) : x.toInt64.toInt = x.toInt := Int32.toInt_toInt64 x
theorem in_spec (K : Nat) (a lo hi : Int64) : fX12_in K a lo hi = some (if lo.toInt ≤ a.toInt ∧ a.toInt ≤ hi.toInt then 1 else 0) := by
  unfold fX12_in
  simp only [Int64.lt_iff_toInt_lt]
  by_cases h1 : a.toInt < lo.toInt
  · rw [if_pos h1, if_neg (by omega)]
  · rw [if_neg h1]
    by_cases h2 : hi.toInt < a.toInt
    · rw [if_pos h2, if_neg (by omega)]
    · rw [if_neg h2, if_pos (by omega)]
/-- what the Java bool is of a truth -/
def bI (p : Prop) [Decidable p] : Int32 := if p then 1 else 0
theorem bI_t {p : Prop} [Decidable p] (h : p) : bI p = 1 := if_pos h
theorem bI_f {p : Prop} [Decidable p] (h : ¬ p) : bI p = 0 := if_neg h
theorem one_ne : ¬ (1 : Int32) = 0 := by decide
def isPl (a b : Int32) : Prop := (-20 ≤ a.toInt ∧ a.toInt ≤ 20) ∧ -20 ≤ b.toInt ∧ b.toInt ≤ 20
theorem isPlace_c (K : Nat) (a b : Int32) : (isPl a b ∧ fX11_isPlace K a b = some 1 ∧ fX12_isPlace K a b = some 1) ∨ (¬ isPl a b ∧ fX11_isPlace K a b = some 0 ∧ fX12_isPlace K a b = some 0) := by
  have em : ((-20 : Int32)).toInt = -20 := by decide
  have ep : ((20 : Int32)).toInt = 20 := by decide
  have em6 : ((-20 : Int64)).toInt = -20 := by decide
  have ep6 : ((20 : Int64)).toInt = 20 := by decide
  unfold fX11_isPlace fX12_isPlace b1 isPl
  simp only [in_spec, long_toInt, em6, ep6, i_lt_lit em, lit_lt_i ep, Option.bind_some]
  by_cases h1 : -20 ≤ a.toInt ∧ a.toInt ≤ 20
  · by_cases h2 : -20 ≤ b.toInt ∧ b.toInt ≤ 20
    · left
      refine ⟨⟨h1, h2⟩, ?_, ?_⟩
      · rw [if_neg (by omega), if_neg (by omega), if_neg (by omega), if_neg (by omega)]
      · rw [if_pos h1, if_neg one_ne, if_pos h2, if_neg one_ne]
    · right
      refine ⟨fun h => h2 h.2, ?_, ?_⟩
      · rw [if_neg (by omega), if_neg (by omega)]
        by_cases h3 : b.toInt < -20
        · rw [if_pos h3]
        · rw [if_neg h3, if_pos (by omega)]
      · rw [if_pos h1, if_neg one_ne, if_neg h2, if_pos rfl]
  · right
    refine ⟨fun h => h1 h.1, ?_, ?_⟩
    · by_cases h3 : a.toInt < -20
      · rw [if_pos h3]
      · rw [if_neg h3, if_pos (by omega)]
    · rw [if_neg h1, if_pos rfl]
def isCo (a : Int32) : Prop := 0 ≤ a.toInt ∧ a.toInt ≤ 2
theorem isColour_c (K : Nat) (a : Int32) : (isCo a ∧ fX11_isColour K a = some 1 ∧ fX12_in K a.toInt64 0 2 = some 1) ∨ (¬ isCo a ∧ fX11_isColour K a = some 0 ∧ fX12_in K a.toInt64 0 2 = some 0) := by
  have e0 : ((0 : Int32)).toInt = 0 := by decide
  have e3 : ((3 : Int32)).toInt = 3 := by decide
  have e06 : ((0 : Int64)).toInt = 0 := by decide
  have e26 : ((2 : Int64)).toInt = 2 := by decide
  unfold fX11_isColour isCo
  simp only [in_spec, long_toInt, e06, e26, i_lt_lit e0, lit_le_i e3]
  by_cases h1 : 0 ≤ a.toInt ∧ a.toInt ≤ 2
  · left
    exact ⟨h1, by rw [if_neg (by omega), if_neg (by omega)], by rw [if_pos h1]⟩
  · right
    refine ⟨h1, ?_, by rw [if_neg h1]⟩
    by_cases h3 : a.toInt < 0
    · rw [if_pos h3]
    · rw [if_neg h3, if_pos (by omega)]
/-- a point's number among n -/
theorem has_c (K n : Nat) (hn : n ≤ 24) (a : Int32) : ((∃ j : Nat, j < n ∧ a = nI j) ∧ fX0_has K (nI n) a = some 1 ∧ fX12_isPoint K (nI n) a = some 1) ∨ ((¬ ∃ j : Nat, j < n ∧ a = nI j) ∧ fX0_has K (nI n) a = some 0 ∧ fX12_isPoint K (nI n) a = some 0) := by
  have e0 : ((0 : Int32)).toInt = 0 := by decide
  have e06 : ((0 : Int64)).toInt = 0 := by decide
  have en : (nI n).toInt = (n : Int) := nI_toInt (by omega)
  have em : (nI n - 1).toInt = (n : Int) - 1 := by
    rw [show (1 : Int32) = iI 1 from rfl, nI_iI, iI_sub, toInt_iI (by omega) (by omega)]
  unfold fX0_has fX12_isPoint b1
  simp only [in_spec, long_toInt, e06, em, i_lt_lit e0, Option.bind_some]
  simp only [Int32.le_iff_toInt_le, en]
  by_cases h1 : 0 ≤ a.toInt ∧ a.toInt ≤ (n : Int) - 1
  · left
    refine ⟨⟨a.toInt.toNat, by omega, ?_⟩, by rw [if_neg (by omega), if_neg (by omega)], by rw [if_pos h1]; rfl⟩
    rw [nI_iI, Int.toNat_of_nonneg h1.1, iI_toInt]
  · right
    refine ⟨?_, ?_, by rw [if_neg h1]; rfl⟩
    · rintro ⟨j, hj, rfl⟩
      rw [nI_toInt (by omega)] at h1
      omega
    · by_cases h3 : a.toInt < 0
      · rw [if_pos h3]
      · rw [if_neg h3, if_pos (by omega)]
