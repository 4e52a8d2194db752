--@ needs 3p.red3
/-! mixture -/
theorem par_norm {u V : Nat → Int} {P Q : Int} {sz : Nat} (h1 : 1 ≤ sz) (hP : 0 < P) (hQ : Q ≠ 0) (hu : ∀ i, i < sz → u i * P = Q * V i) (hV : 0 < V (sz - 1)) : u (sz - 1) ≠ 0 ∧ ∀ i, i < sz → norm u sz i = V i / (gG V sz : Int) := by
  have hs := gG_scale hu
  have n1 : (P.natAbs : Int) = P := by omega
  rw [n1] at hs
  have gV := gG_pos (f := V) (show sz - 1 < sz by omega) (by omega)
  have hl := hu (sz - 1) (by omega)
  have u0 : u (sz - 1) ≠ 0 := by
    intro e
    rw [e, Int.zero_mul] at hl
    rcases Int.mul_eq_zero.mp hl.symm with q | q
    · exact hQ q
    · omega
  have gu := gG_pos (f := u) (show sz - 1 < sz by omega) u0
  refine ⟨u0, fun i hi => ?_⟩
  have du := gG_dvd (f := u) hi
  have dV := gG_dvd (f := V) hi
  rcases Int.lt_or_gt_of_ne hQ with q | q
  · have un : u (sz - 1) < 0 := by
      have : u (sz - 1) * P < 0 := by rw [hl]; exact mnp' q hV
      rw [Int.mul_comm] at this
      exact div_lt hP this
    unfold norm
    rw [if_pos un, ← neg_div (by omega) du]
    have nQ : (Q.natAbs : Int) = -Q := by omega
    rw [nQ] at hs
    refine div_same gu gV ((Int.dvd_neg).mpr du) dV ?_
    have : P * (-u i * (gG V sz : Int)) = P * (V i * (gG u sz : Int)) := by
      have := hu i hi
      grind
    exact Int.eq_of_mul_eq_mul_left (by omega) this
  · have un : 0 < u (sz - 1) := by
      have : 0 < u (sz - 1) * P := by rw [hl]; exact Int.mul_pos q hV
      rw [Int.mul_comm] at this
      exact div_gt hP this
    unfold norm
    rw [if_neg (by omega)]
    have nQ : (Q.natAbs : Int) = Q := by omega
    rw [nQ] at hs
    refine div_same gu gV du dV ?_
    have : P * (u i * (gG V sz : Int)) = P * (V i * (gG u sz : Int)) := by
      have := hu i hi
      grind
    exact Int.eq_of_mul_eq_mul_left (by omega) this
/-- the class's end -/
theorem mx64 (K : Nat) (hK : 4000 ≤ K) {arr : Nat → Int64} {u : Nat → Int} (hf : ∀ i, i < 4 → arr i = jJ (u i)) (hu : ∀ i, i < 4 → -100000 ≤ u i ∧ u i ≤ 100000) : ∀ (fu i : Nat), i ≤ 4 → 4 - i < fu → fX7_mix_L64 K arr fu (jJ (gG u i : Int)) (nI i) = some (jJ (gG u 4 : Int)) := by
  intro fu
  induction fu with
  | zero => intro i h1 h2; omega
  | succ fu ih =>
    intro i h1 h2
    rw [fX7_mix_L64]
    by_cases hi : i = 4
    · subst hi
      rw [if_pos (show (3 : Int32) < nI 4 by decide)]
    · have hlt : i < 4 := by omega
      have hg := gG_le (f := u) (B := 100000) (by omega) (k := i) (fun j hj => hu j (by omega))
      have hui := hu i hlt
      rw [if_neg (show ¬ (3 : Int32) < nI i from fun s => by have := (nI_ltn (a := 3) (by omega) (by omega)).mp s; omega), gd_t (inb_nI hlt (by decide)), nI_clamp (by omega), hf i hlt, (gcd_spec K hK (gG u i : Int) (u i) (by omega) (by omega) (by omega) (by omega)).1, sm_b1, xl_e, nI_1]
      exact ih (i + 1) (by omega) (by omega)
theorem mx113 (K : Nat) {u v : Nat → Int} {c : Int64} (hc : ¬ c = 0) (hd : ∀ i, i < 4 → jJ (u i) / c = jJ (v i)) : ∀ (fu i : Nat) (arr : Nat → Int64), i ≤ 4 → 4 - i < fu → (∀ j, j < i → arr j = jJ (v j)) → (∀ j, i ≤ j → j < 4 → arr j = jJ (u j)) → ∃ arr', fX7_mix_L113 K c fu (nI i) arr = some arr' ∧ ∀ j, j < 4 → arr' j = jJ (v j) := by
  intro fu
  induction fu with
  | zero => intro i arr h1 h2; omega
  | succ fu ih =>
    intro i arr h1 h2 h3 h4
    rw [fX7_mix_L113]
    by_cases hi : i = 4
    · subst hi
      rw [if_pos (show (3 : Int32) < nI 4 by decide)]
      exact ⟨arr, rfl, h3⟩
    · have hlt : i < 4 := by omega
      rw [if_neg (show ¬ (3 : Int32) < nI i from fun s => by have := (nI_ltn (a := 3) (by omega) (by omega)).mp s; omega), gd_t (inb_nI hlt (by decide)), gd_ne hc, gd_t (inb_nI hlt (by decide)), nI_clamp (by omega), h4 i (Nat.le_refl i) hlt, hd i hlt, xl_e, xl_e, nI_1]
      refine ih (i + 1) _ (by omega) (by omega) (fun j hj => ?_) (fun j q1 q2 => ?_)
      · by_cases e : j = i
        · rw [e, updL_at]
        · rw [updL_ne e]; exact h3 j (by omega)
      · rw [updL_ne (by omega)]; exact h4 j (by omega) q2
/-- the last part of mix, of what stands -/
def mxE (K : Nat) (arr : Nat → Int64) : Option (Int32 × (Nat → Int64)) := b1 (fX7_mix_L64 K arr K (0 : Int64) (0 : Int32)) (fun l2_19 => if l2_19 = (0 : Int64) then some ((0 : Int32), arr) else jn (fun (l2_20 : Int64) => b1 (fX7_mix_L113 K l2_20 K (0 : Int32) arr) (fun t_mixed_29 => some ((1 : Int32), t_mixed_29))) (fun k_21 => if (0 : Int64) ≤ (arr (3 : Int32).toNatClampNeg) then k_21 l2_19 else xl (-l2_19) (fun l2_30 => k_21 l2_30)))
theorem mxE_ok (K : Nat) (hK : 4000 ≤ K) {arr : Nat → Int64} {u : Nat → Int} (hf : ∀ i, i < 4 → arr i = jJ (u i)) (hu : ∀ i, i < 4 → -100000 ≤ u i ∧ u i ≤ 100000) (hne : u 3 ≠ 0) : ∃ arr', mxE K arr = some (1, arr') ∧ ∀ j, j < 4 → arr' j = jJ (norm u 4 j) := by
  have hg := gG_pos (f := u) (show 3 < 4 by omega) hne
  have hgl := gG_le (f := u) (B := 100000) (by omega) (k := 4) hu
  have e4 := mx64 K hK hf hu K 0 (by omega) (by omega)
  have hul := hu 3 (by omega)
  unfold mxE
  rw [show (0 : Int64) = jJ (gG u 0 : Int) from rfl, show (0 : Int32) = nI 0 from rfl, e4, sm_b1, show jJ (gG u 0 : Int) = (0 : Int64) from rfl, if_neg (jne hg (by omega)), jn_e, show (3 : Int32).toNatClampNeg = 3 from rfl, hf 3 (by omega)]
  simp only [j_ge0 (show s64 (u 3) from ⟨by omega, by omega⟩), xl_e]
  by_cases q : u 3 < 0
  · rw [if_neg (by omega), jJ_neg]
    obtain ⟨fac', f1, f2⟩ := mx113 K (u := u) (v := norm u 4) (c := jJ (-(gG u 4 : Int))) (by
      rw [j_eq0 ⟨by omega, by omega⟩]; omega) (fun i hi => by
      have := hu i hi
      rw [jdivn hg (gG_dvd hi) ⟨by omega, by omega⟩ (by omega)]
      unfold norm; rw [if_pos q]) K 0 arr (by omega) (by omega) (fun j hj => by omega) (fun j _ hj => hf j hj)
    rw [f1]
    exact ⟨fac', rfl, f2⟩
  · rw [if_pos q]
    obtain ⟨fac', f1, f2⟩ := mx113 K (u := u) (v := norm u 4) (c := jJ (gG u 4 : Int)) (jne hg (by omega)) (fun i hi => by
      have := hu i hi
      rw [jdivx hg (gG_dvd hi) ⟨by omega, by omega⟩ (by omega)]
      unfold norm; rw [if_neg q]) K 0 arr (by omega) (by omega) (fun j hj => by omega) (fun j _ hj => hf j hj)
    rw [f1]
    exact ⟨fac', rfl, f2⟩
/-- the model's end -/
def s3 (v : Nat → Int) (i : Nat) : Int := if i = 3 then v 0 + v 1 + v 2 else v i
theorem gG_s3 (v : Nat → Int) : gG (s3 v) 4 = Int.gcd (Int.gcd (v 0) (v 1) : Int) (Int.gcd (v 2) (v 0 + v 1 + v 2) : Int) := by
  have e0 : s3 v 0 = v 0 := rfl
  have e1 : s3 v 1 = v 1 := rfl
  have e2 : s3 v 2 = v 2 := rfl
  have e3 : s3 v 3 = v 0 + v 1 + v 2 := rfl
  simp only [gG, e0, e1, e2, e3]
  unfold Int.gcd
  simp only [Int.natAbs_natCast, Int.natAbs_zero, Nat.gcd_zero_left]
  rw [Nat.gcd_assoc, Nat.gcd_assoc]
/-- two of them, by signs -/
theorem pair_iff {ax ay bx b_y : Int} (ha : ¬ (ax = 0 ∧ ay = 0)) (hb : ¬ (bx = 0 ∧ b_y = 0)) : tHb ax ay bx b_y bx b_y = true ↔ (ax * b_y - ay * bx = 0 ∧ ax * bx + ay * b_y < 0) := by
  have hbb := ssqp hb
  have haa := ssqp ha
  unfold tHb
  rw [decide_eq_true_eq]
  have e1 : bx * b_y - b_y * bx = 0 := by grind
  have e2 : bx * ay - b_y * ax = -(ax * b_y - ay * bx) := by grind
  have e3 : bx * ax + b_y * ay = ax * bx + ay * b_y := by grind
  rw [e1, e2, e3]
  constructor
  · rintro (⟨h1, -, -, h4⟩ | ⟨h1, h2⟩)
    · refine ⟨h1, ?_⟩
      have k : (ax * ax + ay * ay) * (bx * bx + b_y * b_y) = (ax * bx + ay * b_y) * (ax * bx + ay * b_y) + (ax * b_y - ay * bx) * (ax * b_y - ay * bx) := by grind
      have kp := Int.mul_pos haa hbb
      rw [k, h1] at kp
      have hd : ax * bx + ay * b_y ≠ 0 := fun q => by rw [q] at kp; omega
      rcases h4 with h4 | h4 | h4 <;> omega
    · exfalso
      rcases h2 with ⟨h3, -, h5⟩ | ⟨h3, -, h5⟩
      · exact h1 ⟨by omega, rfl, by omega⟩
      · exact h1 ⟨by omega, rfl, by omega⟩
  · rintro ⟨h1, h2⟩
    exact Or.inl ⟨h1, rfl, by omega, Or.inl (by omega)⟩
theorem pair_prop {ax ay bx b_y : Int} (h1 : ax * b_y - ay * bx = 0) (h2 : ax * bx + ay * b_y < 0) : ((bx.natAbs : Int) + b_y.natAbs) * (ax * ax + ay * ay - (ax * bx + ay * b_y)) = ((ax.natAbs : Int) + ay.natAbs) * (bx * bx + b_y * b_y - (ax * bx + ay * b_y)) := by
  have hs := (opp (a := ax) (b := ay) (c := bx) (d := b_y) (by omega)).mpr (by omega)
  have m1 : ∀ {p q : Int}, p * q ≤ 0 → p * q = -((p.natAbs : Int) * q.natAbs) := by
    intro p q h
    have : ((p * q).natAbs : Int) = (p.natAbs : Int) * q.natAbs := by rw [Int.natAbs_mul]; simp
    omega
  have sq : ∀ p : Int, p * p = (p.natAbs : Int) * p.natAbs := fun p => by
    have : ((p * p).natAbs : Int) = (p.natAbs : Int) * p.natAbs := by rw [Int.natAbs_mul]; simp
    have := sqn p
    omega
  have cr : (ax.natAbs : Int) * b_y.natAbs = (ay.natAbs : Int) * bx.natAbs := by
    have e : ax * b_y = ay * bx := by omega
    have : ((ax * b_y).natAbs : Int) = ((ay * bx).natAbs : Int) := by rw [e]
    rw [Int.natAbs_mul, Int.natAbs_mul] at this
    simpa using this
  rw [m1 hs.1, m1 hs.2, sq ax, sq ay, sq bx, sq b_y]
  generalize (ax.natAbs : Int) = α at *
  generalize (ay.natAbs : Int) = β at *
  generalize (bx.natAbs : Int) = γ at *
  generalize (b_y.natAbs : Int) = δ at *
  grind
