/-! ===== Int32 by its bits: bt x i ===== -/
def bt (x : Int32) (i : Nat) : Bool := x.toBitVec.getLsbD i
theorem b_ext {x y : Int32} (h : ∀ i, i < 32 → bt x i = bt y i) : x = y := Int32.toBitVec_inj.mp (BitVec.eq_of_getLsbD_eq (fun i hi => h i hi))
theorem b_or (x y : Int32) (i : Nat) : bt (x ||| y) i = (bt x i || bt y i) := by unfold bt; rw [Int32.toBitVec_or, BitVec.getLsbD_or]
theorem b_and (x y : Int32) (i : Nat) : bt (x &&& y) i = (bt x i && bt y i) := by unfold bt; rw [Int32.toBitVec_and, BitVec.getLsbD_and]
theorem b_xor (x y : Int32) (i : Nat) : bt (x ^^^ y) i = (bt x i ^^ bt y i) := by unfold bt; rw [Int32.toBitVec_xor, BitVec.getLsbD_xor]
theorem b_big {x : Int32} {i : Nat} (h : 32 ≤ i) : bt x i = false := BitVec.getLsbD_of_ge _ _ h
theorem b_255 (i : Nat) : bt 255 i = decide (i < 8) := by
  rcases Nat.lt_or_ge i 32 with h | h
  · exact (by decide +kernel : ∀ i, i < 32 → bt 255 i = decide (i < 8)) i h
  · rw [b_big h, decide_eq_false (by omega)]
theorem b_65535 (i : Nat) : bt 65535 i = decide (i < 16) := by
  rcases Nat.lt_or_ge i 32 with h | h
  · exact (by decide +kernel : ∀ i, i < 32 → bt 65535 i = decide (i < 16)) i h
  · rw [b_big h, decide_eq_false (by omega)]
theorem b_m1 : ∀ i, i < 32 → bt (-1) i = true := by decide +kernel
theorem b_0 (i : Nat) : bt 0 i = false := BitVec.getLsbD_zero
theorem s_l : ∀ n, n < 32 → ((nI n &&& 31).toBitVec.smod 32).toNat = n := by decide +kernel
theorem s_u : ∀ n, n < 32 → (((nI n).toUInt32 &&& Int32.toUInt32 31).toBitVec % 32).toNat = n := by decide +kernel
theorem b_shl (n : Nat) (hn : n < 32) (x : Int32) {i : Nat} (hi : i < 32) : bt (x <<< (nI n &&& 31)) i = (decide (n ≤ i) && bt x (i - n)) := by
  unfold bt
  rw [Int32.toBitVec_shiftLeft]
  show (x.toBitVec <<< ((nI n &&& 31).toBitVec.smod 32).toNat).getLsbD i = _
  rw [s_l n hn, BitVec.getLsbD_shiftLeft]
  rcases Nat.lt_or_ge i n with h | h
  · simp [h, Nat.not_le.mpr h]
  · simp [hi, h, Nat.not_lt.mpr h]
theorem b_ushr (n : Nat) (hn : n < 32) (x : Int32) (i : Nat) : bt ((x.toUInt32 >>> ((nI n).toUInt32 &&& Int32.toUInt32 31)).toInt32) i = bt x (n + i) := by
  show (x.toUInt32 >>> ((nI n).toUInt32 &&& Int32.toUInt32 31)).toBitVec.getLsbD i = x.toUInt32.toBitVec.getLsbD (n + i)
  rw [UInt32.toBitVec_shiftRight]
  show (x.toUInt32.toBitVec >>> (((nI n).toUInt32 &&& Int32.toUInt32 31).toBitVec % 32).toNat).getLsbD i = _
  rw [s_u n hn, BitVec.getLsbD_ushiftRight]
theorem b_sshr (n : Nat) (hn : n < 32) (x : Int32) {i : Nat} (hi : i < 32) : bt (x >>> (nI n &&& 31)) i = if n + i < 32 then bt x (n + i) else bt x 31 := by
  unfold bt
  rw [Int32.toBitVec_shiftRight]
  show (x.toBitVec.sshiftRight ((nI n &&& 31).toBitVec.smod 32).toNat).getLsbD i = _
  rw [s_l n hn, BitVec.getLsbD_sshiftRight, BitVec.msb_eq_getLsbD_last]
  simp [hi]
theorem b_1 (i : Nat) : bt 1 i = decide (i = 0) := by
  rcases Nat.lt_or_ge i 32 with h | h
  · exact (by decide +kernel : ∀ i, i < 32 → bt 1 i = decide (i = 0)) i h
  · rw [b_big h, decide_eq_false (by omega)]
theorem b_zero_iff (x : Int32) : x = 0 ↔ ∀ i, i < 32 → bt x i = false := by
  constructor
  · rintro rfl i _
    exact b_0 i
  · intro h
    exact b_ext (fun i hi => by rw [h i hi, b_0])
theorem bitS_bt (S : Int32) (j : Nat) (hj : j < 32) : bitS S j ↔ bt S j = true := by
  unfold bitS
  have e : ((S >>> (nI j &&& 31)) &&& 1) = 0 ↔ bt S j = false := by
    rw [b_zero_iff]
    constructor
    · intro h
      have h0 := h 0 (by decide)
      rw [b_and, b_sshr j hj S (by decide), b_1] at h0
      simpa [hj] using h0
    · intro h i hi
      rw [b_and, b_1]
      by_cases c : i = 0
      · subst c
        rw [b_sshr j hj S (by decide)]
        simp [hj, h]
      · simp [c]
  rw [e]
  cases bt S j <;> simp
theorem bt_nat (x : Int32) (i : Nat) : bt x i = x.toBitVec.toNat.testBit i := by
  unfold bt
  exact BitVec.testBit_toNat _ |>.symm
theorem toInt_nat {x : Int32} (h : 0 ≤ x.toInt) : x.toBitVec.toNat = x.toInt.toNat := by
  have e := BitVec.toInt_eq_toNat_cond x.toBitVec
  rw [Int32.toInt_toBitVec] at e
  have h2 := x.toBitVec.isLt
  split at e <;> omega
theorem pow_shl : ∀ n : Nat, n ≤ 24 → (1 : Int32) <<< (nI n &&& 31) = nI (2 ^ n) := by decide +kernel
theorem pow_le24 {n : Nat} (h : n ≤ 24) : 2 ^ n ≤ 16777216 := by
  have : 2 ^ n ≤ 2 ^ 24 := Nat.pow_le_pow_right (by decide) h
  simpa using this
/-- a set of some of n points -/
def isSt (n : Nat) (a : Int32) : Prop := 1 ≤ a.toInt ∧ a.toInt < 2 ^ n
theorem hasSet_c (K n : Nat) (hn : n ≤ 24) (a : Int32) : (isSt n a ∧ fX0_hasSet K (nI n) a = some 1 ∧ fX12_isSet K (nI n) a = some 1) ∨ (¬ isSt n a ∧ fX0_hasSet K (nI n) a = some 0 ∧ fX12_isSet K (nI n) a = some 0) := by
  have e0 : ((0 : Int32)).toInt = 0 := by decide
  have e1 : ((1 : Int32)).toInt = 1 := by decide
  have hp := pow_le24 hn
  have ep : (nI (2 ^ n)).toInt = ((2 ^ n : Nat) : Int) := nI_toInt (by omega)
  have ez : ((2 : Int) ^ n) = ((2 ^ n : Nat) : Int) := by simp
  unfold fX0_hasSet fX12_isSet isSt
  rw [pow_shl n hn, ez]
  simp only [i_le_lit e0, i_lt_lit e1, Int32.le_iff_toInt_le, ep]
  by_cases c : 1 ≤ a.toInt
  · have hj : jushr a (nI n) = 0 ↔ a.toInt < ((2 ^ n : Nat) : Int) := by
      unfold jushr
      rw [b_zero_iff]
      have hnat := toInt_nat (x := a) (by omega)
      constructor
      · intro h
        have : a.toBitVec.toNat < 2 ^ n := by
          apply Nat.lt_pow_two_of_testBit
          intro i hi
          rw [← bt_nat]
          by_cases q : i < 32
          · have := h (i - n) (by omega)
            rw [b_ushr n (by omega)] at this
            rw [show i = n + (i - n) by omega]
            exact this
          · exact b_big (by omega)
        omega
      · intro h i hi
        rw [b_ushr n (by omega), bt_nat]
        apply Nat.testBit_lt_two_pow
        have h1 : 2 ^ n ≤ 2 ^ (n + i) := Nat.pow_le_pow_right (by decide) (by omega)
        omega
    simp only [hj]
    by_cases d : a.toInt < ((2 ^ n : Nat) : Int)
    · left
      exact ⟨⟨c, d⟩, by rw [if_neg (by omega), if_pos d], by rw [if_neg (by omega), if_neg (by omega)]⟩
    · right
      exact ⟨fun h => d h.2, by rw [if_neg (by omega), if_neg d], by rw [if_neg (by omega), if_pos (by omega)]⟩
  · right
    exact ⟨fun h => c h.1, by rw [if_pos (by omega)], by rw [if_pos (by omega)]⟩
theorem isSt_bit {n : Nat} (hn : n ≤ 24) {a : Int32} (h : isSt n a) : ∃ j : Nat, j < n ∧ bitS a j := by
  obtain ⟨h1, h2⟩ := h
  have hnat := toInt_nat (x := a) (by omega)
  have ez : ((2 : Int) ^ n) = ((2 ^ n : Nat) : Int) := by simp
  rw [ez] at h2
  have hne : a.toBitVec.toNat ≠ 0 := by omega
  obtain ⟨j, hj⟩ := Nat.exists_testBit_of_ne_zero hne
  have hjn : j < n := by
    rcases Nat.lt_or_ge j n with q | q
    · exact q
    · exfalso
      have h3 : 2 ^ n ≤ 2 ^ j := Nat.pow_le_pow_right (by decide) q
      have := Nat.testBit_lt_two_pow (x := a.toBitVec.toNat) (i := j) (by omega)
      rw [this] at hj
      cases hj
  exact ⟨j, hjn, (bitS_bt a j (by omega)).mpr (by rw [bt_nat]; exact hj)⟩
theorem rowL_pos {X Y : Nat → Int} {S : Int32} : ∀ n : Nat, (∃ j : Nat, j < n ∧ bitS S j) → 0 < (rowL X Y S n).length := by
  intro n
  induction n with
  | zero => rintro ⟨j, hj, -⟩; omega
  | succ n ih =>
    rintro ⟨j, hj, hb⟩
    obtain ⟨r1, -, -⟩ := rowL_ok X Y S n
    unfold rowL nxt
    by_cases c : bitS S n
    · rw [if_pos c]
      rcases ins_cases (p := n) r1 with ⟨u, v, e1, e2, -⟩ | ⟨u, q, v, e1, e2, -⟩
      · rw [e2]; simp; omega
      · rw [e2, e1]; simp; omega
    · rw [if_neg c]
      have hjn : j ≠ n := fun e => c (e ▸ hb)
      exact ih ⟨j, by omega, hb⟩
