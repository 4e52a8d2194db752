--@ needs 3r.mix2
/-! mixture: the ends meet -/
def mxF (K : Nat) (a4 : Int32) (t_rowMany_39 : Int32) (t_corner_40 t_corners_41 t_row_42 : Nat → Int32) (t_trio_15 : Nat → Int32) (t_mix_47 : Nat → Int64) : Option (Int64 × Int32 × (Nat → Int32) × (Nat → Int32) × (Nat → Int32) × (Nat → Int64) × (Nat → Int32)) := xl (((t_mix_47 (0 : Int32).toNatClampNeg) + (t_mix_47 (1 : Int32).toNatClampNeg)) + (t_mix_47 (2 : Int32).toNatClampNeg)) (fun l6_50 => b1 (fX12_common K (t_mix_47 (0 : Int32).toNatClampNeg) (t_mix_47 (1 : Int32).toNatClampNeg)) (fun r_51 => b1 (fX12_common K (t_mix_47 (2 : Int32).toNatClampNeg) l6_50) (fun r_53 => b1 (fX12_common K r_51 r_53) (fun r_55 => if a4 = (3 : Int32) then gd (!decide (r_55 = 0)) (some ((l6_50 / r_55), t_rowMany_39, t_corner_40, t_corners_41, t_row_42, t_mix_47, t_trio_15)) else gd (inb a4 3) (gd (!decide (r_55 = 0)) (some (((t_mix_47 a4.toNatClampNeg) / r_55), t_rowMany_39, t_corner_40, t_corners_41, t_row_42, t_mix_47, t_trio_15)))))))
theorem mxF_ok (K : Nat) (hK : 4000 ≤ K) {k : Nat} (hk : k < 4) (rm : Int32) (cor cors row trio : Nat → Int32) {arr : Nat → Int64} {v : Nat → Int} (ha : ∀ i, i < 3 → arr i = jJ (v i)) (hv : ∀ i, i < 3 → 0 ≤ v i ∧ v i ≤ 20000) (hs : 0 < v 0 + v 1 + v 2) : ∃ c1, mxF K (nI k) rm cor cors row trio arr = some (jJ (s3 v k / (gG (s3 v) 4 : Int)), rm, cor, cors, row, c1, trio) := by
  have v0 := hv 0 (by omega)
  have v1 := hv 1 (by omega)
  have v2 := hv 2 (by omega)
  have b1' := gcd_bd (B := 60000) (a := v 0) (b := v 1) (by omega) (by omega)
  have b2' := gcd_bd (B := 60000) (a := v 2) (b := v 0 + v 1 + v 2) (by omega) (by omega)
  have hg := gG_pos (f := s3 v) (show 3 < 4 by omega) (show s3 v 3 ≠ 0 by show v 0 + v 1 + v 2 ≠ 0; omega)
  have eg := gG_s3 v
  have bg : (gG (s3 v) 4 : Int) ≤ 60000 := gG_le (by omega) (fun i hi => by
    have : i = 0 ∨ i = 1 ∨ i = 2 ∨ i = 3 := by omega
    rcases this with rfl | rfl | rfl | rfl
    · show -60000 ≤ v 0 ∧ v 0 ≤ 60000; omega
    · show -60000 ≤ v 1 ∧ v 1 ≤ 60000; omega
    · show -60000 ≤ v 2 ∧ v 2 ≤ 60000; omega
    · show -60000 ≤ v 0 + v 1 + v 2 ∧ v 0 + v 1 + v 2 ≤ 60000; omega)
  unfold mxF
  rw [show (0 : Int32).toNatClampNeg = 0 from rfl, show (1 : Int32).toNatClampNeg = 1 from rfl, show (2 : Int32).toNatClampNeg = 2 from rfl, ha 0 (by omega), ha 1 (by omega), ha 2 (by omega), jJ_add, jJ_add, xl_e, (gcd_spec K hK (v 0) (v 1) (by omega) (by omega) (by omega) (by omega)).2, sm_b1, (gcd_spec K hK (v 2) (v 0 + v 1 + v 2) (by omega) (by omega) (by omega) (by omega)).2, sm_b1, (gcd_spec K hK (Int.gcd (v 0) (v 1) : Int) (Int.gcd (v 2) (v 0 + v 1 + v 2) : Int) (by omega) (by omega) (by omega) (by omega)).2, sm_b1, ← eg, gd_ne (jne hg (by omega)), gd_ne (jne hg (by omega)), nI_clamp (by omega)]
  by_cases e : k = 3
  · subst e
    have e3 : s3 v 3 = v 0 + v 1 + v 2 := rfl
    have hd := gG_dvd (f := s3 v) (show 3 < 4 by omega)
    rw [e3] at hd
    rw [if_pos (show nI 3 = (3 : Int32) from rfl), jdivx hg hd ⟨by omega, by omega⟩ (by omega), e3]
    exact ⟨_, rfl⟩
  · have hk3 : k < 3 := by omega
    rw [if_neg (show ¬ nI k = (3 : Int32) from fun s => e ((nI_eqn (b := 3) (by omega) (by omega)).mp s)), gd_t (inb_nI hk3 (by decide)), ha k hk3]
    have es : s3 v k = v k := by unfold s3; rw [if_neg e]
    have hvk := hv k hk3
    have hd := gG_dvd (f := s3 v) hk
    rw [es] at hd
    rw [jdivx hg hd ⟨by omega, by omega⟩ (by omega), es]
    exact ⟨_, rfl⟩
def ini (i j : Nat) (a b : Int) (k : Nat) : Int := if k = i then a else if k = j then b else 0
theorem par1 {k : Nat} (hk : k < 3) : 0 < s3 (e1v k) 3 ∧ ∀ i, i < 4 → s3 (e1v k) i * 1 = 1 * s3 (e1v k) i := by
  refine ⟨?_, fun i hi => by omega⟩
  have : k = 0 ∨ k = 1 ∨ k = 2 := by omega
  rcases this with rfl | rfl | rfl <;> decide
theorem par2 {i j : Nat} (hi : i < 3) (hj : j < 3) (hij : i ≠ j) {a b c d : Int} (hc : 0 < c) (hd : 0 < d) (h : a * d = b * c) : 0 < s3 (ini i j c d) 3 ∧ ∀ k, k < 4 → s3 (ini i j a b) k * c = a * s3 (ini i j c d) k := by
  have three : ∀ i, i < 3 → i = 0 ∨ i = 1 ∨ i = 2 := fun i hi => by omega
  constructor
  · show 0 < ini i j c d 0 + ini i j c d 1 + ini i j c d 2
    unfold ini
    rcases three i hi with rfl | rfl | rfl <;> rcases three j hj with rfl | rfl | rfl <;> first | omega | (simp; omega)
  · intro k hk
    have : k = 0 ∨ k = 1 ∨ k = 2 ∨ k = 3 := by omega
    unfold s3 ini
    rcases this with rfl | rfl | rfl | rfl <;> rcases three i hi with rfl | rfl | rfl <;> rcases three j hj with rfl | rfl | rfl <;> first | omega | (simp; try grind)
def spc (X Y : Nat → Int) (p q : Int) (m : Nat → Nat) (i j : Nat) (arr arr' : Nat → Int64) : Prop := arr' i = jJ (l1n X Y p q (m j)) ∧ arr' j = jJ (l1n X Y p q (m i)) ∧ arr' 3 = jJ (l1n X Y p q (m j) + l1n X Y p q (m i)) ∧ ∀ k, k ≠ i → k ≠ j → k ≠ 3 → arr' k = arr k
theorem sm_inl {α β δ : Type} (a : α) (k1 : α → Option δ) (k2 : β → Option δ) : sm (some (Sum.inl a)) k1 k2 = k1 a := Eq.trans (rfl : sm (some (Sum.inl a)) k1 k2 = k1 a) rfl
theorem sm_inr {α β δ : Type} (a : β) (k1 : α → Option δ) (k2 : β → Option δ) : sm (some (Sum.inr a)) k1 k2 = k2 a := Eq.trans (rfl : sm (some (Sum.inr a)) k1 k2 = k2 a) rfl
theorem u1_e {α δ : Type} (k : α → δ) (a : α) : u1 k a = k a := Eq.trans (rfl : u1 k a = k a) rfl
theorem u0_e {δ : Type} (k : δ) (a : Unit) : u0 k a = k := Eq.trans (rfl : u0 k a = k) rfl
theorem twoC (K : Nat) (hK : 4000 ≤ K) {n : Nat} {x y : Nat → Int32} {X Y : Nat → Int} (h : Pts n x y X Y) {ch : Nat → Int32} {m : Nat → Nat} (hm : ∀ i, i < 3 → ch i = nI (m i) ∧ m i < n) {p q : Int} (hp : -20 ≤ p ∧ p ≤ 20) (hq : -20 ≤ q ∧ q ≤ 20) (arr : Nat → Int64) : (prC X Y p q (m 0) (m 1) ∧ ∃ arr', fX7_mixTwo K ch arr (iI p) (iI q) x y = some (1, arr') ∧ spc X Y p q m 0 1 arr arr') ∨ (¬ prC X Y p q (m 0) (m 1) ∧ prC X Y p q (m 0) (m 2) ∧ ∃ arr', fX7_mixTwo K ch arr (iI p) (iI q) x y = some (1, arr') ∧ spc X Y p q m 0 2 arr arr') ∨ (¬ prC X Y p q (m 0) (m 1) ∧ ¬ prC X Y p q (m 0) (m 2) ∧ prC X Y p q (m 1) (m 2) ∧ ∃ arr', fX7_mixTwo K ch arr (iI p) (iI q) x y = some (1, arr') ∧ spc X Y p q m 1 2 arr arr') ∨ (¬ prC X Y p q (m 0) (m 1) ∧ ¬ prC X Y p q (m 0) (m 2) ∧ ¬ prC X Y p q (m 1) (m 2) ∧ fX7_mixTwo K ch arr (iI p) (iI q) x y = some (0, arr)) := by
  obtain ⟨k, rfl⟩ : ∃ k, K = k + 4 := ⟨K - 4, by omega⟩
  have n3 : ∀ i : Nat, i < 3 → ¬ (3 : Int32) ≤ nI i := fun i hi => (nI_ge hi (by decide) : ¬ nI 3 ≤ nI i)
  have y3 : (3 : Int32) ≤ nI 3 := by decide
  unfold fX7_mixTwo
  rw [show (0 : Int32) = nI 0 from rfl, fX7_mixTwo_L2, if_neg (n3 0 (by omega)), xl_e, nI_1, fX7_mixTwo_L11, if_neg (n3 (0 + 1) (by omega))]
  rcases pairC (k + 4) h hm hp hq (show 0 < 3 by omega) (show 1 < 3 by omega) (by omega) arr with ⟨w, arr', e, e'⟩ | ⟨w, e⟩
  · rw [show 0 + 1 = 1 from rfl, e, sm_b2, if_neg one_ne, sm_inl, u1_e, sm_inl, u1_e]
    exact Or.inl ⟨w, arr', rfl, e'⟩
  · refine Or.inr ?_
    rw [show 0 + 1 = 1 from rfl, e, sm_b2, if_pos rfl, xl_e, nI_1, fX7_mixTwo_L11, if_neg (n3 (1 + 1) (by omega))]
    rcases pairC (k + 4) h hm hp hq (show 0 < 3 by omega) (show 2 < 3 by omega) (by omega) arr with ⟨w2, arr', e2, e2'⟩ | ⟨w2, e2⟩
    · rw [show 1 + 1 = 2 from rfl, e2, sm_b2, if_neg one_ne, sm_inl, u1_e, sm_inl, u1_e]
      exact Or.inl ⟨w, w2, arr', rfl, e2'⟩
    · refine Or.inr ?_
      rw [show 1 + 1 = 2 from rfl, e2, sm_b2, if_pos rfl, xl_e, nI_1, fX7_mixTwo_L11, if_pos y3, sm_inr, u1_e, xl_e, fX7_mixTwo_L2, if_neg (n3 1 (by omega)), xl_e, nI_1, fX7_mixTwo_L11, if_neg (n3 (1 + 1) (by omega))]
      rcases pairC (k + 4) h hm hp hq (show 1 < 3 by omega) (show 2 < 3 by omega) (by omega) arr with ⟨w3, arr', e3, e3'⟩ | ⟨w3, e3⟩
      · rw [show 1 + 1 = 2 from rfl, e3, sm_b2, if_neg one_ne, sm_inl, u1_e, sm_inl, u1_e]
        exact Or.inl ⟨w, w2, w3, arr', rfl, e3'⟩
      · refine Or.inr ⟨w, w2, w3, ?_⟩
        rw [show 1 + 1 = 2 from rfl, e3, sm_b2, if_pos rfl, xl_e, nI_1, fX7_mixTwo_L11, if_pos y3, sm_inr, u1_e, xl_e, fX7_mixTwo_L2, if_neg (n3 2 (by omega)), xl_e, nI_1, fX7_mixTwo_L11, if_pos y3, sm_inr, u1_e, xl_e, fX7_mixTwo_L2, if_pos y3, sm_inr, u1_e]
theorem rbB (K : Nat) {n : Nat} (hn : n ≤ 24) {col mcol : Nat → Int32} (hcol : ∀ i, i < n → mcol i = col i) (a b c : Int32) : (∃ r g bl, (r < n ∧ g < n ∧ bl < n) ∧ (a = nI r ∧ b = nI g ∧ c = nI bl) ∧ (col r = 0 ∧ col g = 1 ∧ col bl = 2) ∧ fX0_isRainbow K (nI n) col a b c = some 1 ∧ fX12_isRainbow K (nI n) mcol a b c = some 1) ∨ (fX0_isRainbow K (nI n) col a b c = some 0 ∧ fX12_isRainbow K (nI n) mcol a b c = some 0) := by
  unfold fX0_isRainbow fX12_isRainbow
  rcases has_c K n hn a with ⟨⟨r, hr, rfl⟩, c1, c2⟩ | ⟨-, c1, c2⟩
  · rw [c1, c2, sm_b1, sm_b1, if_neg one_ne, if_neg one_ne, gd_t (inb_nI (show r < 24 by omega) (by decide)), nI_clamp (show r < 2 ^ 31 by omega), hcol r hr]
    rcases has_c K n hn b with ⟨⟨g, hg, rfl⟩, d1, d2⟩ | ⟨-, d1, d2⟩
    · rw [d1, d2, sm_b1, sm_b1, if_neg one_ne, if_neg one_ne, gd_t (inb_nI (show g < 24 by omega) (by decide)), nI_clamp (show g < 2 ^ 31 by omega), hcol g hg]
      rcases has_c K n hn c with ⟨⟨bl, hb, rfl⟩, e1, e2⟩ | ⟨-, e1, e2⟩
      · rw [e1, e2, sm_b1, sm_b1, if_neg one_ne, if_neg one_ne]
        simp only [gd_t (inb_nI (show r < 24 by omega) (by decide)), gd_t (inb_nI (show g < 24 by omega) (by decide)), gd_t (inb_nI (show bl < 24 by omega) (by decide)), nI_clamp (show bl < 2 ^ 31 by omega), hcol bl hb]
        by_cases q0 : col r = 0
        · rw [if_pos q0]
          by_cases q1 : col g = 1
          · rw [if_pos q1]
            by_cases q2 : col bl = 2
            · rw [if_pos q2]
              exact Or.inl ⟨r, g, bl, ⟨hr, hg, hb⟩, ⟨rfl, rfl, rfl⟩, ⟨q0, q1, q2⟩, rfl, rfl⟩
            · rw [if_neg q2]
              exact Or.inr ⟨rfl, rfl⟩
          · rw [if_neg q1]
            exact Or.inr ⟨rfl, rfl⟩
        · rw [if_neg q0]
          exact Or.inr ⟨rfl, rfl⟩
      · rw [e1, e2, sm_b1, sm_b1, if_pos rfl, if_pos rfl]
        refine Or.inr ⟨?_, rfl⟩
        split
        · split <;> rfl
        · rfl
    · rw [d1, d2, sm_b1, sm_b1, if_pos rfl, if_pos rfl]
      refine Or.inr ⟨?_, rfl⟩
      split <;> rfl
  · rw [c1, c2]
    exact Or.inr ⟨rfl, rfl⟩
