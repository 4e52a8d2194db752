--@ needs 2a.num 2b.ev1 2g.bits 2e.row
/-! how many bits -/
theorem bt_nI (N i : Nat) (hi : i < 32) : bt (nI N) i = N.testBit i := by
  unfold bt
  have e : (nI N).toBitVec = BitVec.ofNat 32 N := by
    unfold nI
    exact Int32.toBitVec_ofNat
  rw [e, BitVec.getLsbD_ofNat]
  simp [hi]
theorem ushr_nI (N k : Nat) (hk : k < 32) (hN : N < 4294967296) : jushr (nI N) (nI k) = nI (N / 2 ^ k) := by
  refine b_ext fun i hi => ?_
  rw [bt_nI _ _ hi, Nat.testBit_div_two_pow]
  unfold jushr
  rw [b_ushr k hk]
  by_cases h : k + i < 32
  · rw [bt_nI _ _ h, Nat.add_comm]
  · rw [b_big (by omega), Nat.add_comm]
    symm
    refine Nat.testBit_lt_two_pow (Nat.lt_of_lt_of_le hN ?_)
    exact Nat.pow_le_pow_right (n := 2) (by omega) (show 32 ≤ k + i by omega)
theorem and_nI (N M : Nat) : nI N &&& nI M = nI (N &&& M) := by
  refine b_ext fun i hi => ?_
  rw [bt_nI _ _ hi, b_and, bt_nI _ _ hi, bt_nI _ _ hi, Nat.testBit_and]
theorem or_nI (N M : Nat) : nI N ||| nI M = nI (N ||| M) := by
  refine b_ext fun i hi => ?_
  rw [bt_nI _ _ hi, b_or, bt_nI _ _ hi, bt_nI _ _ hi, Nat.testBit_or]
theorem add_nI (N M : Nat) : nI N + nI M = nI (N + M) := by
  rw [nI_iI, nI_iI, nI_iI, iI_add]; congr 1
theorem sub_nI {N M : Nat} (h : M ≤ N) : nI N - nI M = nI (N - M) := by
  rw [nI_iI, nI_iI, nI_iI, iI_sub]; congr 1; omega
theorem and256 {a b u v : Nat} (ha : a < 256) (hb : b < 256) : (a + 256 * u) &&& (b + 256 * v) = (a &&& b) + 256 * (u &&& v) := by
  have hab : a &&& b < 256 := Nat.lt_of_le_of_lt Nat.and_le_left ha
  refine Nat.eq_of_testBit_eq fun i => ?_
  rw [Nat.testBit_and, Nat.add_comm a, Nat.add_comm b, Nat.add_comm (a &&& b), show 256 = 2 ^ 8 from rfl, Nat.testBit_two_pow_mul_add _ (by exact ha), Nat.testBit_two_pow_mul_add _ (by exact hb), Nat.testBit_two_pow_mul_add _ (by exact hab)]
  by_cases h : i < 8
  · rw [if_pos h, if_pos h, if_pos h, Nat.testBit_and]
  · rw [if_neg h, if_neg h, if_neg h, Nat.testBit_and]
/-- how many of the first n -/
def cnt (f : Nat → Bool) : Nat → Nat
  | 0 => 0
  | n + 1 => cnt f n + if f n then 1 else 0
theorem cnt_congr {f g : Nat → Bool} : ∀ {n : Nat}, (∀ i, i < n → f i = g i) → cnt f n = cnt g n := by
  intro n
  induction n with
  | zero => intro _; rfl
  | succ n ih =>
    intro h
    rw [cnt, cnt, ih (fun i hi => h i (by omega)), h n (by omega)]
theorem cnt_le (f : Nat → Bool) : ∀ n, cnt f n ≤ n := by
  intro n
  induction n with
  | zero => exact Nat.le_refl _
  | succ n ih => rw [cnt]; split <;> omega
theorem cnt_add (f : Nat → Bool) (n : Nat) : ∀ m, cnt f (n + m) = cnt f n + cnt (fun i => f (n + i)) m := by
  intro m
  induction m with
  | zero => rfl
  | succ m ih => rw [← Nat.add_assoc, cnt, ih, cnt]; omega
theorem cnt_disj {f g h : Nat → Bool} : ∀ {n : Nat}, (∀ i, i < n → h i = (f i || g i) ∧ (f i && g i) = false) → cnt h n = cnt f n + cnt g n := by
  intro n
  induction n with
  | zero => intro _; rfl
  | succ n ih =>
    intro hh
    have := hh n (by omega)
    rw [cnt, cnt, cnt, ih (fun i hi => hh i (by omega)), this.1]
    cases hf : f n <;> cases hg : g n <;> rw [hf, hg] at this <;> simp at this ⊢ <;> omega
theorem cnt_mono {f g : Nat → Bool} : ∀ {n : Nat}, (∀ i, i < n → f i = true → g i = true) → cnt f n ≤ cnt g n := by
  intro n
  induction n with
  | zero => intro _; exact Nat.le_refl _
  | succ n ih =>
    intro hh
    have h1 := ih (fun i hi => hh i (by omega))
    have h2 := hh n (by omega)
    rw [cnt, cnt]
    cases hf : f n <;> cases hg : g n <;> rw [hf, hg] at h2 <;> simp at h2 ⊢ <;> omega
theorem cnt_all {f : Nat → Bool} : ∀ {n : Nat}, (∀ i, i < n → f i = true) → cnt f n = n := by
  intro n
  induction n with
  | zero => intro _; rfl
  | succ n ih => intro h; rw [cnt, ih (fun i hi => h i (by omega)), h n (by omega)]; rfl
theorem cnt_0 {f : Nat → Bool} : ∀ {n : Nat}, cnt f n = 0 ↔ ∀ i, i < n → f i = false := by
  intro n
  induction n with
  | zero => exact ⟨fun _ i hi => absurd hi (by omega), fun _ => rfl⟩
  | succ n ih =>
    rw [cnt]
    constructor
    · intro h i hi
      have h1 : cnt f n = 0 := by omega
      rcases Nat.lt_or_ge i n with q | q
      · exact ih.mp h1 i q
      · have : i = n := by omega
        subst this
        cases e : f i
        · rfl
        · rw [e] at h; simp at h
    · intro h
      rw [ih.mpr (fun i hi => h i (by omega)), h n (by omega)]; rfl
/-- a byte's three steps -/
def p1 (b : Nat) : Nat := b - ((b / 2) &&& 85)
def p2 (b : Nat) : Nat := (p1 b &&& 51) + ((p1 b / 4) &&& 51)
theorem byte1 : ∀ b, b < 256 → p1 b < 256 ∧ (b / 2) &&& 85 ≤ b ∧ p2 b ≤ 68 ∧ (p2 b + p2 b / 16) % 16 = cnt (fun i => b.testBit i) 8 ∧ ((b / 2 + 128) &&& 85 = (b / 2) &&& 85) ∧ p2 b % 16 ≤ 4 := by decide +kernel
theorem byte2 : ∀ b, b < 256 → ∀ k, k < 4 → (b / 4 + 64 * k) &&& 51 = (b / 4) &&& 51 := by decide +kernel
theorem byte3 : ∀ b, b < 256 → b &&& 15 = b % 16 := by decide +kernel
theorem byte4 : ∀ b, b < 64 → b &&& 63 = b := by decide +kernel
theorem bitc_nat (K N : Nat) (hN : N < 16777216) : fJ6_bitCount_0f7a4 K (nI N) = some (nI (cnt (fun i => N.testBit i) 24)) := by
  obtain ⟨a, b, c, ha, hb, hc, rfl⟩ : ∃ a b c, a < 256 ∧ b < 256 ∧ c < 256 ∧ N = a + 256 * (b + 256 * c) := ⟨N % 256, N / 256 % 256, N / 65536, by omega, by omega, by omega, by omega⟩
  have A := byte1 a ha
  have B := byte1 b hb
  have C := byte1 c hc
  have hh : ∀ {x k : Nat}, x < 256 → k < 2 → (x / 2 + 128 * k) &&& 85 = (x / 2) &&& 85 := by
    intro x k hx hk
    have : k = 0 ∨ k = 1 := by omega
    rcases this with e | e <;> subst e
    · simp
    · exact (byte1 x hx).2.2.2.2.1
  unfold fJ6_bitCount_0f7a4 xl
  have e1 : nI (a + 256 * (b + 256 * c)) - (jushr (nI (a + 256 * (b + 256 * c))) 1 &&& 1431655765) = nI (p1 a + 256 * (p1 b + 256 * p1 c)) := by
    rw [show (1 : Int32) = nI 1 from rfl, show (1431655765 : Int32) = nI (85 + 256 * (85 + 256 * (85 + 256 * 85))) from rfl, ushr_nI _ _ (by omega) (by omega), and_nI]
    rw [show (a + 256 * (b + 256 * c)) / 2 ^ 1 = (a / 2 + 128 * (b % 2)) + 256 * ((b / 2 + 128 * (c % 2)) + 256 * (c / 2 + 256 * 0)) by omega]
    rw [and256 (by omega) (by omega), and256 (by omega) (by omega), and256 (by omega) (by omega), hh ha (by omega), hh hb (by omega), Nat.zero_and]
    rw [sub_nI (by omega)]
    congr 1
    unfold p1
    omega
  rw [e1]
  dsimp only
  have pa := A.1
  have pb := B.1
  have pc := C.1
  have e2 : (nI (p1 a + 256 * (p1 b + 256 * p1 c)) &&& 858993459) + (jushr (nI (p1 a + 256 * (p1 b + 256 * p1 c))) 2 &&& 858993459) = nI (p2 a + 256 * (p2 b + 256 * p2 c)) := by
    rw [show (2 : Int32) = nI 2 from rfl, show (858993459 : Int32) = nI (51 + 256 * (51 + 256 * (51 + 256 * 51))) from rfl, ushr_nI _ _ (by omega) (by omega), and_nI, and_nI]
    rw [show (p1 a + 256 * (p1 b + 256 * p1 c)) / 2 ^ 2 = (p1 a / 4 + 64 * (p1 b % 4)) + 256 * ((p1 b / 4 + 64 * (p1 c % 4)) + 256 * (p1 c / 4 + 256 * 0)) by omega]
    rw [show p1 a + 256 * (p1 b + 256 * p1 c) = p1 a + 256 * (p1 b + 256 * (p1 c + 256 * 0)) by omega]
    rw [and256 (by omega) (by omega), and256 (by omega) (by omega), and256 (by omega) (by omega), and256 (by omega) (by omega), and256 (by omega) (by omega), and256 (by omega) (by omega), byte2 _ pa _ (by omega), byte2 _ pb _ (by omega), Nat.zero_and, add_nI]
    congr 1
    unfold p2
    omega
  rw [e2]
  have qa := A.2.2.1
  have qb := B.2.2.1
  have qc := C.2.2.1
  have sa := A.2.2.2.2.2
  have sb := B.2.2.2.2.2
  have sc := C.2.2.2.2.2
  have ra := A.2.2.2.1
  have rb := B.2.2.2.1
  have rc := C.2.2.2.1
  generalize p2 a = x at *
  generalize p2 b = y at *
  generalize p2 c = z at *
  have e3 : (nI (x + 256 * (y + 256 * z)) + jushr (nI (x + 256 * (y + 256 * z))) 4) &&& 252645135 = nI ((x + x / 16) % 16 + 256 * ((y + y / 16) % 16 + 256 * ((z + z / 16) % 16))) := by
    rw [show (4 : Int32) = nI 4 from rfl, show (252645135 : Int32) = nI (15 + 256 * (15 + 256 * (15 + 256 * 15))) from rfl, ushr_nI _ _ (by omega) (by omega), add_nI, and_nI]
    rw [show x + 256 * (y + 256 * z) + (x + 256 * (y + 256 * z)) / 2 ^ 4 = (x + x / 16 + 16 * (y % 16)) + 256 * ((y + y / 16 + 16 * (z % 16)) + 256 * ((z + z / 16) + 256 * 0)) by omega]
    rw [and256 (by omega) (by omega), and256 (by omega) (by omega), and256 (by omega) (by omega), byte3 _ (by omega), byte3 _ (by omega), byte3 _ (by omega), Nat.zero_and]
    congr 1
    omega
  rw [e3, ra, rb, rc]
  have la := cnt_le (fun i => a.testBit i) 8
  have lb := cnt_le (fun i => b.testBit i) 8
  have lc := cnt_le (fun i => c.testBit i) 8
  have tot : cnt (fun i => (a + 256 * (b + 256 * c)).testBit i) 24 = cnt (fun i => a.testBit i) 8 + (cnt (fun i => b.testBit i) 8 + cnt (fun i => c.testBit i) 8) := by
    rw [show 24 = 8 + (8 + 8) from rfl, cnt_add, cnt_add]
    refine congr (congrArg _ (cnt_congr ?_)) (congr (congrArg _ (cnt_congr ?_)) (cnt_congr ?_))
    · intro i hi
      show (a + 256 * (b + 256 * c)).testBit i = _
      rw [Nat.add_comm a, show 256 = 2 ^ 8 from rfl, Nat.testBit_two_pow_mul_add _ ha, if_pos hi]
    · intro i hi
      show (a + 256 * (b + 256 * c)).testBit (8 + i) = _
      rw [Nat.add_comm a, show 256 = 2 ^ 8 from rfl, Nat.testBit_two_pow_mul_add _ ha, if_neg (by omega), show 8 + i - 8 = i by omega, Nat.add_comm b, Nat.testBit_two_pow_mul_add _ hb, if_pos hi]
    · intro i hi
      show (a + 256 * (b + 256 * c)).testBit (8 + (8 + i)) = _
      rw [Nat.add_comm a, show 256 = 2 ^ 8 from rfl, Nat.testBit_two_pow_mul_add _ ha, if_neg (by omega), show 8 + (8 + i) - 8 = 8 + i by omega, Nat.add_comm b, Nat.testBit_two_pow_mul_add _ hb, if_neg (by omega), show 8 + i - 8 = i by omega]
  rw [tot]
  generalize cnt (fun i => a.testBit i) 8 = x at *
  generalize cnt (fun i => b.testBit i) 8 = y at *
  generalize cnt (fun i => c.testBit i) 8 = z at *
  have e4 : nI (x + 256 * (y + 256 * z)) + jushr (nI (x + 256 * (y + 256 * z))) 8 = nI ((x + y) + 256 * (y + z + 256 * z)) := by
    rw [show (8 : Int32) = nI 8 from rfl, ushr_nI _ _ (by omega) (by omega), add_nI]
    congr 1
    omega
  rw [e4]
  have e5 : nI ((x + y) + 256 * (y + z + 256 * z)) + jushr (nI ((x + y) + 256 * (y + z + 256 * z))) 16 = nI ((x + (y + z)) + 256 * (y + z + 256 * z)) := by
    rw [show (16 : Int32) = nI 16 from rfl, ushr_nI _ _ (by omega) (by omega), add_nI]
    congr 1
    omega
  rw [e5, show (63 : Int32) = nI (63 + 256 * 0) from rfl, and_nI, and256 (by omega) (by omega), byte4 _ (by omega), Nat.and_zero]
  rfl
/-- the bits of a truth over the first n -/
def bP (p : Nat → Bool) : Nat → Int32
  | 0 => 0
  | k + 1 => if p k then bP p k ||| ((1 : Int32) <<< (nI k &&& 31)) else bP p k
def nP (p : Nat → Bool) : Nat → Nat
  | 0 => 0
  | k + 1 => nP p k + if p k then 2 ^ k else 0
theorem nP_lt (p : Nat → Bool) : ∀ n, nP p n < 2 ^ n := by
  intro n
  induction n with
  | zero => rw [nP]; decide
  | succ n ih => rw [nP, Nat.pow_succ]; split <;> omega
theorem nP_bit (p : Nat → Bool) : ∀ n i, (nP p n).testBit i = (decide (i < n) && p i) := by
  intro n
  induction n with
  | zero => intro i; rw [nP]; simp
  | succ n ih =>
    intro i
    rw [nP]
    by_cases h : p n
    · rw [if_pos h, Nat.add_comm, show 2 ^ n + nP p n = 2 ^ n * 1 + nP p n by omega, Nat.testBit_two_pow_mul_add _ (nP_lt p n)]
      by_cases hi : i < n
      · rw [if_pos hi, ih]; simp [hi]; omega
      · rw [if_neg hi]
        by_cases e : i = n
        · subst e; simp [h]
        · have : ∃ k, i - n = k + 1 := ⟨i - n - 1, by omega⟩
          obtain ⟨k, hk⟩ := this
          rw [hk]
          have h3 : ¬ i < n + 1 := by omega
          simp [h3, Nat.testBit_succ]
    · rw [if_neg h, Nat.add_zero, ih]
      by_cases e : i = n
      · subst e; simp [h]
      · have : i < n ↔ i < n + 1 := by omega
        simp [this]
theorem bP_nP (p : Nat → Bool) : ∀ n, n ≤ 24 → bP p n = nI (nP p n) := by
  intro n
  induction n with
  | zero => intro _; rfl
  | succ n ih =>
    intro hn
    rw [bP, nP, ih (by omega)]
    by_cases h : p n
    · rw [if_pos h, if_pos h, pow_shl n (by omega), or_nI]
      congr 1
      rw [Nat.or_comm, Nat.add_comm]
      have := Nat.two_pow_add_eq_or_of_lt (nP_lt p n) 1
      rw [Nat.mul_one] at this
      exact this.symm
    · rw [if_neg h, if_neg h]; rfl
theorem bP_bt (p : Nat → Bool) {n : Nat} (hn : n ≤ 24) {i : Nat} (hi : i < 32) : bt (bP p n) i = (decide (i < n) && p i) := by
  rw [bP_nP p n hn, bt_nI _ _ hi, nP_bit]
theorem nP_24 (p : Nat → Bool) {n : Nat} (hn : n ≤ 24) : nP p n < 16777216 := Nat.lt_of_lt_of_le (nP_lt p n) (pow_le24 hn)
theorem bP_cnt (K : Nat) (p : Nat → Bool) {n : Nat} (hn : n ≤ 24) : fJ6_bitCount_0f7a4 K (bP p n) = some (nI (cnt p n)) := by
  rw [bP_nP p n hn, bitc_nat K _ (nP_24 p hn)]
  congr 2
  rw [show 24 = n + (24 - n) by omega, cnt_add]
  rw [show cnt (fun i => (nP p n).testBit (n + i)) (24 - n) = 0 from cnt_0.mpr (fun i hi => by rw [nP_bit]; simp; omega)]
  exact cnt_congr (fun i hi => by rw [nP_bit]; simp [hi])
theorem bP_congr {p q : Nat → Bool} : ∀ {n : Nat}, (∀ i, i < n → p i = q i) → bP p n = bP q n := by
  intro n
  induction n with
  | zero => intro _; rfl
  | succ n ih =>
    intro h
    rw [bP, bP, ih (fun i hi => h i (by omega)), h n (by omega)]
theorem bP_or (p q : Nat → Bool) {n : Nat} (hn : n ≤ 24) : bP p n ||| bP q n = bP (fun i => p i || q i) n := by
  refine b_ext fun i hi => ?_
  rw [b_or, bP_bt p hn hi, bP_bt q hn hi, bP_bt _ hn hi]
  cases decide (i < n) <;> rfl
theorem bP_lt (p q : Nat → Bool) {n : Nat} (hn : n ≤ 24) : bP p n < bP q n ↔ nP p n < nP q n := by
  have h1 := nP_24 p hn
  have h2 := nP_24 q hn
  rw [bP_nP p n hn, bP_nP q n hn, nI_iI, nI_iI, iI_lt ⟨by omega, by omega⟩ ⟨by omega, by omega⟩]
  omega
theorem bP_le (p q : Nat → Bool) {n : Nat} (hn : n ≤ 24) : bP p n ≤ bP q n ↔ nP p n ≤ nP q n := by
  have h1 := nP_24 p hn
  have h2 := nP_24 q hn
  rw [bP_nP p n hn, bP_nP q n hn, nI_iI, nI_iI, iI_le ⟨by omega, by omega⟩ ⟨by omega, by omega⟩]
  omega
theorem nP_all : ∀ n, nP (fun _ => true) n = 2 ^ n - 1 := by
  intro n
  induction n with
  | zero => rfl
  | succ n ih =>
    have : 0 < 2 ^ n := Nat.pos_of_ne_zero (by simp)
    rw [nP, ih, Nat.pow_succ]
    simp
    omega
theorem bP_bitS (p : Nat → Bool) {n : Nat} (hn : n ≤ 24) {j : Nat} (hj : j < n) : bitS (bP p n) j ↔ p j = true := by
  rw [bitS_bt _ _ (by omega), bP_bt p hn (by omega)]
  simp [hj]
/-- every set is the bits of what it has -/
theorem isSt_bP {n : Nat} (hn : n ≤ 24) {S : Int32} (h : isSt n S) : S = bP (fun i => decide (bitS S i)) n := by
  refine b_ext fun i hi => ?_
  rw [bP_bt _ hn hi]
  by_cases q : i < n
  · have := bitS_bt S i hi
    by_cases e : bitS S i
    · simp [q, e, this.mp e]
    · have e2 : bt S i = false := by
        cases hb : bt S i
        · rfl
        · exact absurd (this.mpr hb) e
      simp [q, e, e2]
  · simp [q]
    rw [bt_nat, toInt_nat (by have := h.1; omega)]
    refine Nat.testBit_lt_two_pow ?_
    have h2 := h.2
    have : (2 : Nat) ^ n ≤ 2 ^ i := Nat.pow_le_pow_right (by omega) (by omega)
    have h3 : ((2 ^ n : Nat) : Int) = (2 : Int) ^ n := by simp
    have h1 := h.1
    have : ((2 ^ n : Nat) : Int) ≤ ((2 ^ i : Nat) : Int) := by exact_mod_cast this
    rw [h3] at this
    have h4 : S.toInt < ((2 ^ i : Nat) : Int) := Int.lt_of_lt_of_le h2 this
    generalize 2 ^ i = b at *
    omega
theorem isSt_of_bP {n : Nat} (hn : n ≤ 24) {p : Nat → Bool} {j : Nat} (hj : j < n) (h : p j = true) : isSt n (bP p n) := by
  have h1 := nP_lt p n
  have h0 : 0 < nP p n := by
    rcases Nat.eq_zero_or_pos (nP p n) with e | e
    · have := nP_bit p n j
      rw [e] at this
      simp [hj, h] at this
    · exact e
  have h2 := nP_24 p hn
  unfold isSt
  rw [bP_nP p n hn, nI_toInt (by omega)]
  have h3 : ((2 ^ n : Nat) : Int) = (2 : Int) ^ n := by simp
  rw [← h3]
  generalize 2 ^ n = a at *
  omega
