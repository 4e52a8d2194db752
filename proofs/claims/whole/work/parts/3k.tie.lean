--@ needs 3j.bal 3c.meet6
/-! ties: the pure part -/
theorem lin20 {a b t M : Int} (ht : -20 ≤ t ∧ t ≤ 20) (h1 : a + b * (-20) ≤ M) (h2 : a + b * 20 ≤ M) : a + b * t ≤ M := by
  have e : 40 * (a + b * t) = (20 - t) * (a + b * (-20)) + (20 + t) * (a + b * 20) := by grind
  have k1 : (20 - t) * (a + b * (-20)) ≤ (20 - t) * M := Int.mul_le_mul_of_nonneg_left h1 (by omega)
  have k2 : (20 + t) * (a + b * 20) ≤ (20 + t) * M := Int.mul_le_mul_of_nonneg_left h2 (by omega)
  have e2 : (20 - t) * M + (20 + t) * M = 40 * M := by grind
  omega
/-- twice a triangle in the square -/
theorem tri1600 {ax ay bx b_y cx c_y : Int} (h1 : -20 ≤ ax ∧ ax ≤ 20) (h2 : -20 ≤ ay ∧ ay ≤ 20) (h3 : -20 ≤ bx ∧ bx ≤ 20) (h4 : -20 ≤ b_y ∧ b_y ≤ 20) (h5 : -20 ≤ cx ∧ cx ≤ 20) (h6 : -20 ≤ c_y ∧ c_y ≤ 20) : (bx - ax) * (c_y - ay) - (b_y - ay) * (cx - ax) ≤ 1600 := by
  have e1 : ∀ bx cx : Int, (bx - ax) * (c_y - ay) - (b_y - ay) * (cx - ax) = (bx * (c_y - ay) - (b_y - ay) * cx) + (b_y - c_y) * ax := fun bx cx => by grind
  have s1 : ∀ ax bx cx : Int, -20 ≤ bx ∧ bx ≤ 20 → -20 ≤ cx ∧ cx ≤ 20 → (ax = 20 ∨ ax = -20) → (bx - ax) * (c_y - ay) - (b_y - ay) * (cx - ax) ≤ 1600 := by
    intro ax bx cx hb hc ha
    have s2 : ∀ bx cx : Int, -20 ≤ cx ∧ cx ≤ 20 → (bx = 20 ∨ bx = -20) → (bx - ax) * (c_y - ay) - (b_y - ay) * (cx - ax) ≤ 1600 := by
      intro bx cx hc hb
      have s3 : ∀ cx : Int, (cx = 20 ∨ cx = -20) → (bx - ax) * (c_y - ay) - (b_y - ay) * (cx - ax) ≤ 1600 := by
        intro cx hc
        rcases ha with rfl | rfl <;> rcases hb with rfl | rfl <;> rcases hc with rfl | rfl <;> omega
      have e : (bx - ax) * (c_y - ay) - (b_y - ay) * (cx - ax) = ((bx - ax) * (c_y - ay) + (b_y - ay) * ax) + (-(b_y - ay)) * cx := by grind
      rw [e]
      refine lin20 hc ?_ ?_
      · have := s3 (-20) (Or.inr rfl); grind
      · have := s3 20 (Or.inl rfl); grind
    have e : (bx - ax) * (c_y - ay) - (b_y - ay) * (cx - ax) = (-ax * (c_y - ay) - (b_y - ay) * (cx - ax)) + (c_y - ay) * bx := by grind
    rw [e]
    refine lin20 hb ?_ ?_
    · have := s2 (-20) cx hc (Or.inr rfl); grind
    · have := s2 20 cx hc (Or.inl rfl); grind
  rw [e1]
  refine lin20 h1 ?_ ?_
  · have := s1 (-20) bx cx h3 h5 (Or.inr rfl); grind
  · have := s1 20 bx cx h3 h5 (Or.inl rfl); grind
theorem trn1600 {X Y : Nat → Int} {a b c : Nat} (ha : (-20 ≤ X a ∧ X a ≤ 20) ∧ -20 ≤ Y a ∧ Y a ≤ 20) (hb : (-20 ≤ X b ∧ X b ≤ 20) ∧ -20 ≤ Y b ∧ Y b ≤ 20) (hc : (-20 ≤ X c ∧ X c ≤ 20) ∧ -20 ≤ Y c ∧ Y c ≤ 20) : -1600 ≤ trn X Y a b c ∧ trn X Y a b c ≤ 1600 := by
  have h1 := tri1600 ha.1 ha.2 hb.1 hb.2 hc.1 hc.2
  have h2 := tri1600 ha.1 ha.2 hc.1 hc.2 hb.1 hb.2
  unfold trn
  constructor
  · grind
  · exact h1
/-- the factor of a point -/
def phi (mem : Nat → Nat) (f : Nat → Int) : Nat → Nat → Int
  | 0, _ => 0
  | k + 1, q => if mem k = q then f k else phi mem f k q
theorem phi_at {mem : Nat → Nat} {f : Nat → Int} : ∀ {sz : Nat}, (∀ i j, i < j → j < sz → mem i < mem j) → ∀ {i : Nat}, i < sz → phi mem f sz (mem i) = f i := by
  intro sz
  induction sz with
  | zero => intro _ i hi; omega
  | succ k ih =>
    intro hm i hi
    rw [phi]
    by_cases e : i = k
    · rw [e, if_pos rfl]
    · have := hm i k (by omega) (by omega)
      rw [if_neg (by omega)]
      exact ih (fun i j h1 h2 => hm i j h1 (by omega)) (by omega)
theorem phi_none {mem : Nat → Nat} {f : Nat → Int} {q : Nat} : ∀ {sz : Nat}, (∀ i, i < sz → mem i ≠ q) → phi mem f sz q = 0 := by
  intro sz
  induction sz with
  | zero => intro _; rfl
  | succ k ih =>
    intro h
    rw [phi, if_neg (h k (by omega))]
    exact ih (fun i hi => h i (by omega))
theorem phi_cases {mem : Nat → Nat} {f : Nat → Int} {sz : Nat} (hm : ∀ i j, i < j → j < sz → mem i < mem j) (q : Nat) : (∃ i, i < sz ∧ mem i = q ∧ phi mem f sz q = f i) ∨ ((∀ i, i < sz → mem i ≠ q) ∧ phi mem f sz q = 0) := by
  by_cases h : ∃ i, i < sz ∧ mem i = q
  · obtain ⟨i, hi, rfl⟩ := h
    exact Or.inl ⟨i, hi, rfl, phi_at hm hi⟩
  · have h' : ∀ i, i < sz → mem i ≠ q := fun i hi e => h ⟨i, hi, e⟩
    exact Or.inr ⟨h', phi_none h'⟩
theorem sum_upd {h h' : Nat → Int} {m : Nat} : ∀ {n : Nat}, m < n → (∀ p, p ≠ m → h p = h' p) → sumF h n = sumF h' n + (h m - h' m) := by
  intro n
  induction n with
  | zero => intro hm; omega
  | succ n ih =>
    intro hm he
    rw [sumF, sumF]
    by_cases e : m = n
    · subst e
      rw [sumF_congr (fun j hj => he j (by omega))]
      omega
    · rw [ih (by omega) he, he n (fun q => e q.symm)]
      omega
theorem sumF_z : ∀ n : Nat, sumF (fun _ => (0 : Int)) n = 0 := by
  intro n
  induction n with
  | zero => rfl
  | succ n ih => rw [sumF, ih]; rfl
theorem phi_sum {mem : Nat → Nat} {f : Nat → Int} {n : Nat} (G : Nat → Int → Int) (hG : ∀ p, G p 0 = 0) : ∀ {sz : Nat}, (∀ i j, i < j → j < sz → mem i < mem j) → (∀ i, i < sz → mem i < n) → sumF (fun p => G p (phi mem f sz p)) n = sumF (fun i => G (mem i) (f i)) sz := by
  intro sz
  induction sz with
  | zero =>
    intro _ _
    rw [sumF_congr (g := fun _ => 0) (fun j hj => by rw [phi]; exact hG j)]
    exact sumF_z n
  | succ k ih =>
    intro hm hn
    have h1 := ih (fun i j a b => hm i j a (by omega)) (fun i hi => hn i (by omega))
    have hnone : phi mem f k (mem k) = 0 := phi_none (fun i hi => by have := hm i k hi (by omega); omega)
    rw [sum_upd (h' := fun p => G p (phi mem f k p)) (hn k (by omega)) (fun p hp => by rw [phi, if_neg (fun e => hp e.symm)]), h1, sumF]
    show _ + (G (mem k) (phi mem f (k + 1) (mem k)) - G (mem k) (phi mem f k (mem k))) = _
    rw [hnone, hG, phi, if_pos rfl]
    omega
/-- gcds of the first -/
def gG (f : Nat → Int) : Nat → Nat
  | 0 => 0
  | k + 1 => Int.gcd (gG f k : Int) (f k)
theorem gG_dvd {f : Nat → Int} : ∀ {k i : Nat}, i < k → (gG f k : Int) ∣ f i := by
  intro k
  induction k with
  | zero => intro i hi; omega
  | succ k ih =>
    intro i hi
    rw [gG]
    by_cases e : i = k
    · rw [e]; exact Int.gcd_dvd_right _ _
    · exact Int.dvd_trans (Int.gcd_dvd_left _ _) (ih (by omega))
theorem gG_pos {f : Nat → Int} {k i : Nat} (hi : i < k) (h : f i ≠ 0) : 0 < (gG f k : Int) := by
  have := gG_dvd (f := f) hi
  rcases Nat.eq_zero_or_pos (gG f k) with e | e
  · rw [e] at this
    exact absurd (Int.zero_dvd.mp (by simpa using this)) h
  · omega
theorem gG_le {f : Nat → Int} {B : Int} (hB : 0 ≤ B) : ∀ {k : Nat}, (∀ i, i < k → -B ≤ f i ∧ f i ≤ B) → (gG f k : Int) ≤ B := by
  intro k
  induction k with
  | zero => intro _; exact hB
  | succ k ih =>
    intro h
    rw [gG]
    have h1 := ih (fun i hi => h i (by omega))
    exact gcd_bd ⟨by omega, h1⟩ (h k (by omega))
theorem gG_scale {f g : Nat → Int} {a b : Int} : ∀ {k : Nat}, (∀ i, i < k → f i * a = b * g i) → (gG f k : Int) * (a.natAbs : Int) = (b.natAbs : Int) * (gG g k : Int) := by
  intro k
  induction k with
  | zero => intro _; simp [gG]
  | succ k ih =>
    intro h
    have h1 := ih (fun i hi => h i (by omega))
    have h2 := h k (by omega)
    rw [gG, gG]
    have e1 : Int.gcd (gG f k : Int) (f k) * a.natAbs = Int.gcd ((gG f k : Int) * a) (f k * a) := by rw [Int.gcd_mul_right]
    have e2 : b.natAbs * Int.gcd (gG g k : Int) (g k) = Int.gcd (b * (gG g k : Int)) (b * g k) := by rw [Int.gcd_mul_left]
    have e3 : Int.gcd ((gG f k : Int) * a) (f k * a) = Int.gcd (b * (gG g k : Int)) (b * g k) := by
      rw [h2]
      have n1 : ((gG f k : Int) * a).natAbs = (b * (gG g k : Int)).natAbs := by
        rw [Int.natAbs_mul, Int.natAbs_mul]
        have : gG f k * a.natAbs = b.natAbs * gG g k := by exact_mod_cast h1
        simpa using this
      unfold Int.gcd
      rw [n1]
    have : Int.gcd (gG f k : Int) (f k) * a.natAbs = b.natAbs * Int.gcd (gG g k : Int) (g k) := by rw [e1, e2, e3]
    exact_mod_cast this
theorem sumF_mul {f g : Nat → Int} {c : Int} : ∀ {k : Nat}, (∀ i, i < k → f i = c * g i) → sumF f k = c * sumF g k := by
  intro k
  induction k with
  | zero => intro _; simp [sumF]
  | succ k ih =>
    intro h
    rw [sumF, sumF, ih (fun i hi => h i (by omega)), h k (by omega), Int.mul_add]
/-- a tie, in lowest terms -/
def TI (n : Nat) (X Y : Nat → Int) (S : Int32) (sz : Nat) (mem : Nat → Nat) (f : Nat → Int) : Prop := (2 ≤ sz ∧ sz ≤ 4) ∧ (∀ i, i < sz → mem i < n ∧ bitS S (mem i)) ∧ (∀ i j, i < j → j < sz → mem i < mem j) ∧ 0 < f (sz - 1) ∧ (∀ i, i < sz → -1600 ≤ f i ∧ f i ≤ 1600) ∧ sumF f sz = 0 ∧ sumF (fun i => f i * X (mem i)) sz = 0 ∧ sumF (fun i => f i * Y (mem i)) sz = 0
/-- raw factors -/
def raw3 (X Y : Nat → Int) (a b p : Nat) (i : Nat) : Int := if i = 0 then ((X b - X a) * (X p - X a) + (Y b - Y a) * (Y p - Y a)) - ((X b - X a) * (X b - X a) + (Y b - Y a) * (Y b - Y a)) else if i = 1 then -((X b - X a) * (X p - X a) + (Y b - Y a) * (Y p - Y a)) else (X b - X a) * (X b - X a) + (Y b - Y a) * (Y b - Y a)
def raw4 (X Y : Nat → Int) (a b c p : Nat) (i : Nat) : Int := if i = 0 then -trn X Y p b c else if i = 1 then -trn X Y a p c else if i = 2 then -trn X Y a b p else trn X Y a b c
def raw2 (i : Nat) : Int := if i = 0 then -1 else 1
def mm (a b c p : Nat) (i : Nat) : Nat := if i = 0 then a else if i = 1 then b else if i = 2 then c else p
/-- brought to lowest terms, the last above 0 -/
def norm (u : Nat → Int) (sz : Nat) (i : Nat) : Int := if u (sz - 1) < 0 then -(u i / (gG u sz : Int)) else u i / (gG u sz : Int)
theorem norm_mul {u : Nat → Int} {sz i : Nat} (hi : i < sz) : u i = (if u (sz - 1) < 0 then -(gG u sz : Int) else (gG u sz : Int)) * norm u sz i := by
  have h := Int.mul_ediv_cancel' (gG_dvd (f := u) hi)
  unfold norm
  split
  · rw [Int.neg_mul_neg]; exact h.symm
  · exact h.symm
theorem sum3 (f : Nat → Int) : sumF f 3 = f 0 + f 1 + f 2 := by simp [sumF]
theorem sum4 (f : Nat → Int) : sumF f 4 = f 0 + f 1 + f 2 + f 3 := by simp [sumF]
theorem sum2 (f : Nat → Int) : sumF f 2 = f 0 + f 1 := by simp [sumF]
theorem norm_TI {n : Nat} {X Y : Nat → Int} {S : Int32} {sz : Nat} {mem : Nat → Nat} {u : Nat → Int} (h1 : 2 ≤ sz ∧ sz ≤ 4) (h2 : ∀ i, i < sz → mem i < n ∧ bitS S (mem i)) (h3 : ∀ i j, i < j → j < sz → mem i < mem j) (h4 : u (sz - 1) ≠ 0) (h5 : ∀ i, i < sz → -(1600 * (gG u sz : Int)) ≤ u i ∧ u i ≤ 1600 * (gG u sz : Int)) (h6 : sumF u sz = 0) (h7 : sumF (fun i => u i * X (mem i)) sz = 0) (h8 : sumF (fun i => u i * Y (mem i)) sz = 0) : TI n X Y S sz mem (norm u sz) := by
  have hg : 0 < (gG u sz : Int) := gG_pos (show sz - 1 < sz by omega) h4
  have hc : ∃ c : Int, c ≠ 0 ∧ (c = (gG u sz : Int) ∨ c = -(gG u sz : Int)) ∧ (∀ i, i < sz → u i = c * norm u sz i) ∧ 0 < c * u (sz - 1) := by
    refine ⟨if u (sz - 1) < 0 then -(gG u sz : Int) else (gG u sz : Int), ?_, ?_, fun i hi => norm_mul hi, ?_⟩
    · split <;> omega
    · split
      · exact Or.inr rfl
      · exact Or.inl rfl
    · split
      · rename_i q; exact mnn' (by omega) q
      · rename_i q; exact Int.mul_pos hg (by omega)
  obtain ⟨c, c0, c1, c2, c3⟩ := hc
  have z : ∀ {s : Int}, c * s = 0 → s = 0 := fun {s} e => by
    rcases Int.mul_eq_zero.mp e with q | q
    · exact absurd q c0
    · exact q
  refine ⟨h1, h2, h3, ?_, fun i hi => ?_, ?_, ?_, ?_⟩
  · have := c2 (sz - 1) (by omega)
    rw [this, ← Int.mul_assoc] at c3
    exact div_gt (sqp c0) c3
  · have e := c2 i hi
    have b := h5 i hi
    rw [e] at b
    rcases c1 with rfl | rfl
    · constructor
      · have : 0 ≤ (gG u sz : Int) * (norm u sz i + 1600) := by grind
        have := div_ge hg this; omega
      · have : 0 ≤ (gG u sz : Int) * (1600 - norm u sz i) := by grind
        have := div_ge hg this; omega
    · constructor
      · have : 0 ≤ (gG u sz : Int) * (norm u sz i + 1600) := by grind
        have := div_ge hg this; omega
      · have : 0 ≤ (gG u sz : Int) * (1600 - norm u sz i) := by grind
        have := div_ge hg this; omega
  · rw [sumF_mul c2] at h6; exact z h6
  · rw [sumF_mul (c := c) (g := fun i => norm u sz i * X (mem i)) (fun i hi => by rw [c2 i hi, Int.mul_assoc])] at h7
    exact z h7
  · rw [sumF_mul (c := c) (g := fun i => norm u sz i * Y (mem i)) (fun i hi => by rw [c2 i hi, Int.mul_assoc])] at h8
    exact z h8
theorem mm_inc {a b c p : Nat} {sz : Nat} (hsz : sz ≤ 4) (h : ∀ i, i + 1 < sz → mm a b c p i < mm a b c p (i + 1)) : ∀ i j, i < j → j < sz → mm a b c p i < mm a b c p j := by
  intro i j hij hj
  induction j with
  | zero => omega
  | succ j ih =>
    rcases Nat.lt_or_ge i j with q | q
    · exact Nat.lt_trans (ih q (by omega)) (h j hj)
    · have : i = j := by omega
      subst this
      exact h i hj
theorem tie2 {n : Nat} {X Y : Nat → Int} {S : Int32} {a p : Nat} (hap : a < p) (hp : p < n) (ha : bitS S a) (hpS : bitS S p) (he : sam X Y a p) : TI n X Y S 2 (mm a p 0 0) (norm raw2 2) := by
  have g1 : gG raw2 2 = 1 := by decide
  refine norm_TI ⟨by omega, by omega⟩ (fun i hi => ?_) (mm_inc (by omega) (fun i hi => ?_)) (by decide) (fun i hi => ?_) (by decide) ?_ ?_
  · have : i = 0 ∨ i = 1 := by omega
    rcases this with rfl | rfl
    · exact ⟨by show a < n; omega, ha⟩
    · exact ⟨hp, hpS⟩
  · have : i = 0 := by omega
    subst this; exact hap
  · rw [g1]
    have : i = 0 ∨ i = 1 := by omega
    rcases this with rfl | rfl <;> decide
  · rw [sum2]; show -1 * X a + 1 * X p = 0; have := he.1; omega
  · rw [sum2]; show -1 * Y a + 1 * Y p = 0; have := he.2; omega
theorem lin40 {n : Nat} {x y : Nat → Int32} {X Y : Nat → Int} (h : Pts n x y X Y) {a b : Nat} (ha : a < n) (hb : b < n) : (-40 ≤ X b - X a ∧ X b - X a ≤ 40) ∧ -40 ≤ Y b - Y a ∧ Y b - Y a ≤ 40 := by
  have h1 := (h.2 a ha).2.2
  have h2 := (h.2 b hb).2.2
  omega
theorem bound_par {u w : Nat → Int} {F k : Int} {sz i : Nat} (hF : 0 < F) (hk : k ≠ 0) (hu : ∀ i, i < sz → u i * k = F * w i) (hw : -40 ≤ w i ∧ w i ≤ 40) (hi : i < sz) (hne : ∃ j, j < sz ∧ w j ≠ 0) : -(1600 * (gG u sz : Int)) ≤ u i ∧ u i ≤ 1600 * (gG u sz : Int) := by
  have hs := gG_scale hu
  obtain ⟨j, hj, hj0⟩ := hne
  have hgw := gG_pos hj hj0
  have hkp : 0 < (k.natAbs : Int) := by omega
  have hFa : (F.natAbs : Int) = F := by omega
  rw [hFa] at hs
  have hFg : F ≤ (gG u sz : Int) * (k.natAbs : Int) := by
    rw [hs]
    have := Int.mul_le_mul_of_nonneg_left (show (1 : Int) ≤ (gG w sz : Int) by omega) (show 0 ≤ F by omega)
    omega
  have ui := hu i hi
  have g0 : 0 ≤ (gG u sz : Int) := by omega
  -- |u i| |k| = F |w i| <= g |k| 40
  have hb := mulB (a := F) (b := 40) (u := F) (v := w i) (by omega) hw
  have hkk : k = (k.natAbs : Int) ∨ k = -(k.natAbs : Int) := by omega
  have up : -((k.natAbs : Int) * (1600 * (gG u sz : Int))) ≤ (k.natAbs : Int) * u i ∧ (k.natAbs : Int) * u i ≤ (k.natAbs : Int) * (1600 * (gG u sz : Int)) := by
    have q : F * 40 ≤ (k.natAbs : Int) * (1600 * (gG u sz : Int)) := by
      have e : (k.natAbs : Int) * (1600 * (gG u sz : Int)) = 1600 * ((gG u sz : Int) * (k.natAbs : Int)) := by grind
      rw [e]; omega
    rcases hkk with e | e
    · rw [e] at ui
      rw [show (k.natAbs : Int) * u i = u i * (k.natAbs : Int) by grind]
      omega
    · have ui' : u i * (k.natAbs : Int) = -(F * w i) := by
        rw [← ui]
        generalize (k.natAbs : Int) = z at *
        rw [e]; grind
      rw [show (k.natAbs : Int) * u i = u i * (k.natAbs : Int) by grind]
      omega
  constructor
  · have : 0 ≤ (k.natAbs : Int) * (u i + 1600 * (gG u sz : Int)) := by grind
    have := div_ge hkp this; omega
  · have : 0 ≤ (k.natAbs : Int) * (1600 * (gG u sz : Int) - u i) := by grind
    have := div_ge hkp this; omega
theorem tie3 {n : Nat} {x y : Nat → Int32} {X Y : Nat → Int} (h : Pts n x y X Y) {S : Int32} {a b p : Nat} (hab : a < b) (hbp : b < p) (hp : p < n) (ha : bitS S a) (hb : bitS S b) (hpS : bitS S p) (hd : ¬ sam X Y a b) (he : trn X Y a b p = 0) : TI n X Y S 3 (mm a b p 0) (norm (raw3 X Y a b p) 3) ∧ 0 < raw3 X Y a b p 2 := by
  have full : 0 < (X b - X a) * (X b - X a) + (Y b - Y a) * (Y b - Y a) := ssqp (fun q => hd ⟨by omega, by omega⟩)
  have e2 : raw3 X Y a b p 2 = (X b - X a) * (X b - X a) + (Y b - Y a) * (Y b - Y a) := rfl
  have l1 := lin40 h (show a < n by omega) (show b < n by omega)
  have l2 := lin40 h (show a < n by omega) hp
  have l3 := lin40 h (show b < n by omega) hp
  unfold trn at he
  have three : ∀ i, i < 3 → i = 0 ∨ i = 1 ∨ i = 2 := fun i hi => by omega
  refine ⟨norm_TI ⟨by omega, by omega⟩ (fun i hi => ?_) (mm_inc (by omega) (fun i hi => ?_)) (by show raw3 X Y a b p 2 ≠ 0; omega) (fun i hi => ?_) ?_ ?_ ?_, by omega⟩
  · rcases three i hi with rfl | rfl | rfl
    · exact ⟨by show a < n; omega, ha⟩
    · exact ⟨by show b < n; omega, hb⟩
    · exact ⟨hp, hpS⟩
  · have : i = 0 ∨ i = 1 := by omega
    rcases this with rfl | rfl
    · exact hab
    · exact hbp
  · by_cases wx : X b - X a = 0
    · have wy : Y b - Y a ≠ 0 := fun q => by rw [wx, q] at full; omega
      refine bound_par (w := fun i => if i = 0 then Y p - Y b else if i = 1 then -(Y p - Y a) else Y b - Y a) full wy (fun i hi => ?_) ?_ hi ⟨2, by omega, wy⟩
      · rcases three i hi with rfl | rfl | rfl <;> simp only [raw3] <;> grind
      · rcases three i hi with rfl | rfl | rfl
        · show -40 ≤ Y p - Y b ∧ Y p - Y b ≤ 40; omega
        · show -40 ≤ -(Y p - Y a) ∧ -(Y p - Y a) ≤ 40; omega
        · show -40 ≤ Y b - Y a ∧ Y b - Y a ≤ 40; omega
    · refine bound_par (w := fun i => if i = 0 then X p - X b else if i = 1 then -(X p - X a) else X b - X a) full wx (fun i hi => ?_) ?_ hi ⟨2, by omega, wx⟩
      · rcases three i hi with rfl | rfl | rfl <;> simp only [raw3] <;> grind
      · rcases three i hi with rfl | rfl | rfl
        · show -40 ≤ X p - X b ∧ X p - X b ≤ 40; omega
        · show -40 ≤ -(X p - X a) ∧ -(X p - X a) ≤ 40; omega
        · show -40 ≤ X b - X a ∧ X b - X a ≤ 40; omega
  · rw [sum3]; simp only [raw3]; grind
  · rw [sum3]; simp only [raw3, mm]; grind
  · rw [sum3]; simp only [raw3, mm]; grind
theorem tie4 {n : Nat} {x y : Nat → Int32} {X Y : Nat → Int} (h : Pts n x y X Y) {S : Int32} {a b c p : Nat} (hab : a < b) (hbc : b < c) (hcp : c < p) (hp : p < n) (ha : bitS S a) (hb : bitS S b) (hc : bitS S c) (hpS : bitS S p) (he : trn X Y a b c ≠ 0) : TI n X Y S 4 (mm a b c p) (norm (raw4 X Y a b c p) 4) := by
  have four : ∀ i, i < 4 → i = 0 ∨ i = 1 ∨ i = 2 ∨ i = 3 := fun i hi => by omega
  have ra := (h.2 a (by omega)).2.2
  have rb := (h.2 b (by omega)).2.2
  have rc := (h.2 c (by omega)).2.2
  have rp := (h.2 p hp).2.2
  have hne : raw4 X Y a b c p (4 - 1) ≠ 0 := he
  have hg : 0 < (gG (raw4 X Y a b c p) 4 : Int) := gG_pos (show 4 - 1 < 4 by omega) hne
  refine norm_TI ⟨by omega, by omega⟩ (fun i hi => ?_) (mm_inc (by omega) (fun i hi => ?_)) hne (fun i hi => ?_) ?_ ?_ ?_
  · rcases four i hi with rfl | rfl | rfl | rfl
    · exact ⟨by show a < n; omega, ha⟩
    · exact ⟨by show b < n; omega, hb⟩
    · exact ⟨by show c < n; omega, hc⟩
    · exact ⟨hp, hpS⟩
  · have : i = 0 ∨ i = 1 ∨ i = 2 := by omega
    rcases this with rfl | rfl | rfl
    · exact hab
    · exact hbc
    · exact hcp
  · have b1 := trn1600 rp rb rc
    have b2 := trn1600 ra rp rc
    have b3 := trn1600 ra rb rp
    have b4 := trn1600 ra rb rc
    rcases four i hi with rfl | rfl | rfl | rfl
    · show -(1600 * (gG (raw4 X Y a b c p) 4 : Int)) ≤ -trn X Y p b c ∧ -trn X Y p b c ≤ _; omega
    · show -(1600 * (gG (raw4 X Y a b c p) 4 : Int)) ≤ -trn X Y a p c ∧ -trn X Y a p c ≤ _; omega
    · show -(1600 * (gG (raw4 X Y a b c p) 4 : Int)) ≤ -trn X Y a b p ∧ -trn X Y a b p ≤ _; omega
    · show -(1600 * (gG (raw4 X Y a b c p) 4 : Int)) ≤ trn X Y a b c ∧ trn X Y a b c ≤ _; omega
  · rw [sum4]; simp only [raw4, trn]; grind
  · rw [sum4]; simp only [raw4, trn, mm]; grind
  · rw [sum4]; simp only [raw4, trn, mm]; grind
