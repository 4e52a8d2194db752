--@ needs 3w.look2
/-! which colour goes -/
def atZ (X Y : Nat → Int) (Z : T3) (a : Nat) : Prop := X a * Z.2.2 = Z.1 ∧ Y a * Z.2.2 = Z.2.1
/-- lowest terms of a place -/
def rdZ (Z : T3) : T3 := (Z.1 / G3 Z, Z.2.1 / G3 Z, Z.2.2 / G3 Z)
theorem rd_mul {Z : T3} (h : 1 ≤ Z.2.2) : 0 < G3 Z ∧ Z.1 = G3 Z * (rdZ Z).1 ∧ Z.2.1 = G3 Z * (rdZ Z).2.1 ∧ Z.2.2 = G3 Z * (rdZ Z).2.2 ∧ 1 ≤ (rdZ Z).2.2 := by
  have hg := g3_pos (P := Z.1) (Q := Z.2.1) (L := Z.2.2) (by omega)
  have hg' : 0 < G3 Z := by unfold G3; omega
  obtain ⟨d1, d2', d3⟩ := g3_dvd Z.1 Z.2.1 Z.2.2
  have e3 := Int.mul_ediv_cancel' d3
  refine ⟨hg', (Int.mul_ediv_cancel' d1).symm, (Int.mul_ediv_cancel' d2').symm, e3.symm, ?_⟩
  have : 0 < (rdZ Z).2.2 := div_gt hg' (by
    show 0 < (g3 Z.1 Z.2.1 Z.2.2 : Int) * (Z.2.2 / (g3 Z.1 Z.2.1 Z.2.2 : Int))
    rw [e3]; omega)
  omega
theorem atZ_rd {X Y : Nat → Int} {Z : T3} (h : 1 ≤ Z.2.2) (a : Nat) : atZ X Y (rdZ Z) a ↔ atZ X Y Z a := by
  obtain ⟨g, e1, e2, e3, e4⟩ := rd_mul h
  unfold atZ
  constructor
  · rintro ⟨h1, h2⟩
    refine ⟨?_, ?_⟩
    · rw [e3, e1, ← h1]; grind
    · rw [e3, e2, ← h2]; grind
  · rintro ⟨h1, h2⟩
    rw [e3, e1] at h1
    rw [e3, e2] at h2
    refine ⟨?_, ?_⟩
    · exact Int.eq_of_mul_eq_mul_left (show G3 Z ≠ 0 by omega) (by grind)
    · exact Int.eq_of_mul_eq_mul_left (show G3 Z ≠ 0 by omega) (by grind)
theorem ctgL (K : Nat) {n : Nat} {x y : Nat → Int32} {X Y : Nat → Int} (h : Pts n x y X Y) {ch : Nat → Int32} {m : Nat → Nat} (hm : ∀ i, i < 3 → ch i = nI (m i) ∧ m i < n) {cx cy : Int} {Z : T3} (hZ : O3 cx cy Z) : ∀ (fu i : Nat), i ≤ 3 → 3 - i < fu → (∀ j, j < i → ¬ atZ X Y Z (m j)) → (∃ k, k < 3 ∧ atZ X Y Z (m k) ∧ (∀ j, j < k → ¬ atZ X Y Z (m j)) ∧ fX7_colourThatGoes_L2 K ch (jJ Z.1) (jJ Z.2.1) (jJ Z.2.2) x y fu (nI i) = some (.inl (nI k))) ∨ ((∀ j, j < 3 → ¬ atZ X Y Z (m j)) ∧ fX7_colourThatGoes_L2 K ch (jJ Z.1) (jJ Z.2.1) (jJ Z.2.2) x y fu (nI i) = some (.inr ())) := by
  intro fu
  induction fu with
  | zero => intro i h1 h2; omega
  | succ fu ih =>
    intro i h1 h2 h3
    have hn := h.1
    rw [fX7_colourThatGoes_L2]
    by_cases hi : i = 3
    · subst hi
      rw [if_pos (show (3 : Int32) ≤ nI 3 by decide)]
      exact Or.inr ⟨h3, rfl⟩
    · have hlt : i < 3 := by omega
      obtain ⟨c1, c2⟩ := hm i hlt
      obtain ⟨e1, e2, r1, r2⟩ := h.2 (m i) c2
      obtain ⟨⟨l1, l2⟩, z1, z2, -⟩ := hZ
      have b1' := mulB (a := 20) (b := 3200) (u := X (m i)) (v := Z.2.2) r1 (by omega)
      have b2' := mulB (a := 20) (b := 3200) (u := Y (m i)) (v := Z.2.2) r2 (by omega)
      rw [if_neg (show ¬ (3 : Int32) ≤ nI i from (nI_ge hlt (by decide) : ¬ nI 3 ≤ nI i))]
      unfold fX4_isAt
      simp only [gd_t (inb_nI hlt (by decide)), nI_clamp (show i < 2 ^ 31 by omega), c1, gd_t (inb_nI (show m i < 24 by omega) (by decide)), nI_clamp (show m i < 2 ^ 31 by omega), e1, e2, iI_long (show s32 (X (m i)) from ⟨by omega, by omega⟩), iI_long (show s32 (Y (m i)) from ⟨by omega, by omega⟩), jJ_mul, jJ_eq (show s64 (X (m i) * Z.2.2) from ⟨by omega, by omega⟩) (show s64 Z.1 from ⟨by omega, by omega⟩), jJ_eq (show s64 (Y (m i) * Z.2.2) from ⟨by omega, by omega⟩) (show s64 Z.2.1 from ⟨by omega, by omega⟩), xl_e, nI_1]
      have go : ¬ atZ X Y Z (m i) → _ := fun w => ih (i + 1) (by omega) (by omega) (fun j hj => by
        by_cases e : j = i
        · rw [e]; exact w
        · exact h3 j (by omega))
      by_cases w1 : X (m i) * Z.2.2 = Z.1
      · rw [if_pos w1]
        by_cases w2 : Y (m i) * Z.2.2 = Z.2.1
        · rw [if_pos w2, sm_b1, if_neg one_ne]
          exact Or.inl ⟨i, hlt, ⟨w1, w2⟩, h3, rfl⟩
        · rw [if_neg w2, sm_b1, if_pos rfl]
          exact go (fun s => w2 s.2)
      · rw [if_neg w1, sm_b1, if_pos rfl]
        exact go (fun s => w1 s.1)
theorem gcoL (K : Nat) {n : Nat} {px py : Nat → Int32} {X Y : Nat → Int} (h : Pts n px py X Y) {ch : Nat → Int32} {m : Nat → Nat} (hm : ∀ i, i < 3 → ch i = nI (m i) ∧ m i < n) {Z : T3} (hZ : (1 ≤ Z.2.2 ∧ Z.2.2 ≤ 3200) ∧ (-64000 ≤ Z.1 ∧ Z.1 ≤ 64000) ∧ -64000 ≤ Z.2.1 ∧ Z.2.1 ≤ 64000) : ∀ (fu i : Nat), i ≤ 3 → 3 - i < fu → (∀ j, j < i → ¬ atZ X Y Z (m j)) → (∃ k, k < 3 ∧ atZ X Y Z (m k) ∧ (∀ j, j < k → ¬ atZ X Y Z (m j)) ∧ fX12_goesColour_L2 K (jJ Z.1) (jJ Z.2.1) (jJ Z.2.2) px py ch fu (nI i) = some (.inl (nI k))) ∨ ((∀ j, j < 3 → ¬ atZ X Y Z (m j)) ∧ fX12_goesColour_L2 K (jJ Z.1) (jJ Z.2.1) (jJ Z.2.2) px py ch fu (nI i) = some (.inr ())) := by
  intro fu
  induction fu with
  | zero => intro i h1 h2; omega
  | succ fu ih =>
    intro i h1 h2 h3
    have hn := h.1
    rw [fX12_goesColour_L2]
    by_cases hi : i = 3
    · subst hi
      rw [if_pos (show (3 : Int32) ≤ nI 3 by decide)]
      exact Or.inr ⟨h3, rfl⟩
    · have hlt : i < 3 := by omega
      obtain ⟨c1, c2⟩ := hm i hlt
      obtain ⟨e1, e2, r1, r2⟩ := h.2 (m i) c2
      obtain ⟨⟨l1, l2⟩, z1, z2⟩ := hZ
      have b1' := mulB (a := 20) (b := 3200) (u := X (m i)) (v := Z.2.2) r1 (by omega)
      have b2' := mulB (a := 20) (b := 3200) (u := Y (m i)) (v := Z.2.2) r2 (by omega)
      rw [if_neg (show ¬ (3 : Int32) ≤ nI i from (nI_ge hlt (by decide) : ¬ nI 3 ≤ nI i))]
      simp only [gd_t (inb_nI hlt (by decide)), nI_clamp (show i < 2 ^ 31 by omega), c1, gd_t (inb_nI (show m i < 24 by omega) (by decide)), nI_clamp (show m i < 2 ^ 31 by omega), e1, e2, iI_long (show s32 (X (m i)) from ⟨by omega, by omega⟩), iI_long (show s32 (Y (m i)) from ⟨by omega, by omega⟩), jJ_mul, jJ_eq (show s64 (X (m i) * Z.2.2) from ⟨by omega, by omega⟩) (show s64 Z.1 from ⟨by omega, by omega⟩), jJ_eq (show s64 (Y (m i) * Z.2.2) from ⟨by omega, by omega⟩) (show s64 Z.2.1 from ⟨by omega, by omega⟩), jn_e, xl_e, nI_1]
      have go : ¬ atZ X Y Z (m i) → _ := fun w => ih (i + 1) (by omega) (by omega) (fun j hj => by
        by_cases e : j = i
        · rw [e]; exact w
        · exact h3 j (by omega))
      by_cases w1 : X (m i) * Z.2.2 = Z.1
      · rw [if_pos w1]
        by_cases w2 : Y (m i) * Z.2.2 = Z.2.1
        · rw [if_pos w2]
          exact Or.inl ⟨i, hlt, ⟨w1, w2⟩, h3, rfl⟩
        · rw [if_neg w2]
          exact go (fun s => w2 s.2)
      · rw [if_neg w1]
        exact go (fun s => w1 s.1)
theorem rd_bd {cx cy : Int} {Z : T3} (hZ : O3 cx cy Z) : (1 ≤ (rdZ Z).2.2 ∧ (rdZ Z).2.2 ≤ 3200) ∧ (-64000 ≤ (rdZ Z).1 ∧ (rdZ Z).1 ≤ 64000) ∧ -64000 ≤ (rdZ Z).2.1 ∧ (rdZ Z).2.1 ≤ 64000 := by
  obtain ⟨⟨l1, l2⟩, z1, z2, -⟩ := hZ
  obtain ⟨g, e1, e2, e3, e4⟩ := rd_mul (Z := Z) l1
  refine ⟨⟨e4, ?_⟩, quo_rng g z1, quo_rng g z2⟩
  exact (quo_rng (a := Z.2.2) (B := 3200) g (by omega)).2
/-- a face -/
theorem face_le {n : Nat} {x y : Nat → Int32} {X Y : Nat → Int} (hP : Pts n x y X Y) {a b : Nat} (ha : a < n) (hb : b < n) {cx cy : Int} {Z : T3} (hL : 1 ≤ Z.2.2) (hin : inH (hX X Y (bP (t3 a b b) n) n) (hY X Y (bP (t3 a b b) n) n) (hN X Y (bP (t3 a b b) n) n) (rdZ Z).1 (rdZ Z).2.1 (rdZ Z).2.2) : le3 cx cy (nP3 X Y cx cy a b) Z := by
  have hn := hP.1
  have st : isSt n (bP (t3 a b b) n) := isSt_of_bP hn ha (decide_eq_true (Or.inl rfl))
  obtain ⟨hG, -, hcor, -⟩ := hull_pg hP st
  have nk := nS_ok (X a) (Y a) (X b) (Y b) cx cy
  have hHP : HP (hX X Y (bP (t3 a b b) n) n) (hY X Y (bP (t3 a b b) n) n) (hN X Y (bP (t3 a b b) n) n) cx cy (nP3 X Y cx cy a b).1 (nP3 X Y cx cy a b).2.1 (nP3 X Y cx cy a b).2.2 := by
    intro i hi
    obtain ⟨j, jl, jb, e1, e2⟩ := hcor i hi
    rw [e1, e2]
    have : j = a ∨ j = b ∨ j = b := of_decide_eq_true ((bP_bitS _ hn jl).mp jb)
    rcases this with rfl | rfl | rfl
    · exact nk.2.2.1
    · exact nk.2.2.2
    · exact nk.2.2.2
  obtain ⟨g, e1, e2, e3, e4⟩ := rd_mul hL
  have := (near_lin e4 (HP_in hG hHP e4 hin)).1
  have d : D3 cx cy Z = G3 Z * G3 Z * d2 cx cy (rdZ Z).1 (rdZ Z).2.1 (rdZ Z).2.2 := by
    show d2 cx cy Z.1 Z.2.1 Z.2.2 = _
    rw [e1, e2, e3]
    generalize G3 Z = G
    unfold d2; grind
  have l : Z.2.2 * Z.2.2 = G3 Z * G3 Z * ((rdZ Z).2.2 * (rdZ Z).2.2) := by
    rw [e3]; generalize G3 Z = G; grind
  have k := Int.mul_le_mul_of_nonneg_left this (show 0 ≤ G3 Z * G3 Z from sqn _)
  unfold le3
  rw [d, l]
  generalize G3 Z * G3 Z = G at *
  grind
theorem face_in {n : Nat} {x y : Nat → Int32} {X Y : Nat → Int} (hP : Pts n x y X Y) {a b : Nat} (ha : a < n) (hb : b < n) {Z : T3} (hL : 1 ≤ Z.2.2) (hcv : cvx2 (X a) (Y a) (X b) (Y b) Z.1 Z.2.1 Z.2.2) : inH (hX X Y (bP (t3 a b b) n) n) (hY X Y (bP (t3 a b b) n) n) (hN X Y (bP (t3 a b b) n) n) (rdZ Z).1 (rdZ Z).2.1 (rdZ Z).2.2 := by
  have hn := hP.1
  have st : isSt n (bP (t3 a b b) n) := isSt_of_bP hn ha (decide_eq_true (Or.inl rfl))
  obtain ⟨hG, hin, -, -⟩ := hull_pg hP st
  have ia := hin a ha ((bP_bitS _ hn ha).mpr (decide_eq_true (Or.inl rfl)))
  have ib := hin b hb ((bP_bitS _ hn hb).mpr (decide_eq_true (Or.inr (Or.inl rfl))))
  obtain ⟨s, t, hs, ht, hst, q1, q2⟩ := hcv
  obtain ⟨g, e1, e2, e3, e4⟩ := rd_mul hL
  exact cv_inH hG ia ib ib hs ht (Int.le_refl 0) g (by omega) (by rw [← e1, q1]; omega) (by rw [← e2, q2]; omega) (by rw [← e3, ← hst]; omega)
theorem faceM (K : Nat) (hK : 4000 ≤ K) {n : Nat} {px py : Nat → Int32} {X Y : Nat → Int} (h : Pts n px py X Y) {ch : Nat → Int32} {m : Nat → Nat} (hm : ∀ i, i < 3 → ch i = nI (m i) ∧ m i < n) {i j : Nat} (hi : i < 3) (hj : j < 3) {cx cy : Int} {Z : T3} (hZ : O3 cx cy Z) (rm : Int32) (cor cors row : Nat → Int32) : ∃ rm' cor' cors' row', (inH (hX X Y (bP (t3 (m i) (m j) (m j)) n) n) (hY X Y (bP (t3 (m i) (m j) (m j)) n) n) (hN X Y (bP (t3 (m i) (m j) (m j)) n) n) (rdZ Z).1 (rdZ Z).2.1 (rdZ Z).2.2 ∧ fX12_isFace K (nI n) rm (jJ (rdZ Z).1) (jJ (rdZ Z).2.1) (jJ (rdZ Z).2.2) px py cor cors row ch (nI i) (nI j) = some (1, rm', cor', cors', row')) ∨ (¬ inH (hX X Y (bP (t3 (m i) (m j) (m j)) n) n) (hY X Y (bP (t3 (m i) (m j) (m j)) n) n) (hN X Y (bP (t3 (m i) (m j) (m j)) n) n) (rdZ Z).1 (rdZ Z).2.1 (rdZ Z).2.2 ∧ fX12_isFace K (nI n) rm (jJ (rdZ Z).1) (jJ (rdZ Z).2.1) (jJ (rdZ Z).2.2) px py cor cors row ch (nI i) (nI j) = some (0, rm', cor', cors', row')) := by
  have hn := h.1
  obtain ⟨c1, c2⟩ := hm i hi
  obtain ⟨d1, d2'⟩ := hm j hj
  have st : isSt n (bP (t3 (m i) (m j) (m j)) n) := isSt_of_bP hn c2 (decide_eq_true (Or.inl rfl))
  obtain ⟨rm', cor', cors', row', g1, g2⟩ := laysM0 K hK h st rm cor cors row
  have hU := hU_ok h st
  have hr := hN_rng (X := X) (Y := Y) hn st
  obtain ⟨⟨l1, l2⟩, z1, z2⟩ := rd_bd hZ
  have s2 := sideM K hK (hulB_M K g2) hr.1 (by omega) hU (P := (rdZ Z).1) (Q := (rdZ Z).2.1) (L := (rdZ Z).2.2) ⟨by omega, by omega, by omega, by omega⟩
  have k1 := sdv_in (hX X Y (bP (t3 (m i) (m j) (m j)) n) n) (hY X Y (bP (t3 (m i) (m j) (m j)) n) n) (hN X Y (bP (t3 (m i) (m j) (m j)) n) n) (rdZ Z).1 (rdZ Z).2.1 (rdZ Z).2.2
  refine ⟨rm', cor', cors', row', ?_⟩
  unfold fX12_isFace
  rw [gd_t (inb_nI hi (by decide)), gd_t (inb_nI hj (by decide)), nI_clamp (by omega), nI_clamp (by omega), c1, d1, two_bP hn c2 d2', g1, sm_b4]
  rw [show fX12_sideOf K px py cor' cors' 0 (jJ (rdZ Z).1) (jJ (rdZ Z).2.1) (jJ (rdZ Z).2.2) = _ from s2, sm_b1]
  by_cases w : inH (hX X Y (bP (t3 (m i) (m j) (m j)) n) n) (hY X Y (bP (t3 (m i) (m j) (m j)) n) n) (hN X Y (bP (t3 (m i) (m j) (m j)) n) n) (rdZ Z).1 (rdZ Z).2.1 (rdZ Z).2.2
  · rw [if_neg (fun s => k1.mp s w)]
    exact Or.inl ⟨w, rfl⟩
  · rw [if_pos (k1.mpr w)]
    exact Or.inr ⟨w, rfl⟩
/-- the colour that goes, both; and what stays has the place -/
def mT (t : N3) : Nat → Nat := mm t.1 t.2.1 t.2.2 0
theorem goB (K : Nat) (hK : 4000 ≤ K) {n : Nat} {x y px py : Nat → Int32} {X Y : Nat → Int} (h : Pts n x y X Y) (h' : Pts n px py X Y) {t : N3} (ht : tIn n t) {ch tr : Nat → Int32} (hc : cho ch t.1 t.2.1 t.2.2) (hc' : cho tr t.1 t.2.1 t.2.2) {cx cy : Int} (hcx : -20 ≤ cx ∧ cx ≤ 20) (hcy : -20 ≤ cy ∧ cy ≤ 20) (rm : Int32) (cor cors row : Nat → Int32) : ∃ c rm' cor' cors' row', c < 3 ∧ fX7_colourThatGoes K (nI (sd3 X Y cx cy t)) ch (jJ (zC X Y cx cy t).1) (jJ (zC X Y cx cy t).2.1) (jJ (zC X Y cx cy t).2.2) x y = some (nI c) ∧ fX12_goesColour K (nI n) rm (jJ (rdZ (zC X Y cx cy t)).1) (jJ (rdZ (zC X Y cx cy t)).2.1) (jJ (rdZ (zC X Y cx cy t)).2.2) px py cor cors row tr = some (nI c, rm', cor', cors', row') ∧ ∃ i j, i < 3 ∧ j < 3 ∧ i ≠ c ∧ j ≠ c ∧ cvx2 (X (mT t i)) (Y (mT t i)) (X (mT t j)) (Y (mT t j)) (zC X Y cx cy t).1 (zC X Y cx cy t).2.1 (zC X Y cx cy t).2.2 := by
  obtain ⟨h1, h2, h3⟩ := ht
  have hm := cho_m h1 h2 h3 hc
  have hm' := cho_m h1 h2 h3 hc'
  obtain ⟨-, -, oC, -⟩ := zz_ok h ⟨h1, h2, h3⟩ hcx hcy
  have zl := (z_L X Y cx cy t).2.2
  have bd := rd_bd oC
  unfold fX7_colourThatGoes fX12_goesColour
  have ar := atZ_rd (X := X) (Y := Y) zl
  rcases ctgL K h hm oC K 0 (by omega) (by omega) (fun j hj => by omega) with ⟨k, k1, k2, k3, k4⟩ | ⟨k1, k2⟩
  · rcases gcoL K h' hm' bd K 0 (by omega) (by omega) (fun j hj => by omega) with ⟨k', q1, q2, q3, q4⟩ | ⟨q1, -⟩
    · have ek : k = k' := by
        rcases Nat.lt_trichotomy k k' with e | e | e
        · exact absurd ((ar _).mpr k2) (q3 k e)
        · exact e
        · exact absurd ((ar _).mp q2) (k3 k' e)
      subst ek
      rw [show nI 0 = (0 : Int32) from rfl] at k4 q4
      rw [k4, q4, sm_inl, u1_e, sm_inl, u1_e]
      have cv : cvx2 (X (mT t k)) (Y (mT t k)) (X (mT t k)) (Y (mT t k)) (zC X Y cx cy t).1 (zC X Y cx cy t).2.1 (zC X Y cx cy t).2.2 := ⟨(zC X Y cx cy t).2.2, 0, by omega, by omega, by omega, by rw [← k2.1]; show X (mT t k) * _ = _; grind, by rw [← k2.2]; show Y (mT t k) * _ = _; grind⟩
      by_cases e : k = 0
      · rw [if_pos (show nI k = 0 by rw [e]; rfl), if_pos (show nI k = 0 by rw [e]; rfl)]
        exact ⟨1, rm, cor, cors, row, by omega, rfl, rfl, k, k, k1, k1, by omega, by omega, cv⟩
      · rw [if_neg (show ¬ nI k = 0 from fun s => e ((nI_eqn (b := 0) (by omega) (by omega)).mp s)), if_neg (show ¬ nI k = 0 from fun s => e ((nI_eqn (b := 0) (by omega) (by omega)).mp s))]
        exact ⟨0, rm, cor, cors, row, by omega, rfl, rfl, k, k, k1, k1, by omega, by omega, cv⟩
    · exact absurd ((ar _).mpr k2) (q1 k k1)
  · rcases gcoL K h' hm' bd K 0 (by omega) (by omega) (fun j hj => by omega) with ⟨k', q1, q2, -⟩ | ⟨q1, q2⟩
    · exact absurd ((ar _).mp q2) (k1 k' q1)
    · rw [show nI 0 = (0 : Int32) from rfl] at k2 q2
      rw [k2, q2, sm_inr, u0_e, sm_inr, u0_e]
      obtain ⟨rm1, cor1, cors1, row1, F01⟩ := faceM K hK h' hm' (show 0 < 3 by omega) (show 1 < 3 by omega) oC rm cor cors row
      rcases zC_side X Y cx cy t with ⟨s0, e⟩ | ⟨s0, e, w1⟩ | ⟨s0, e, w1, w2⟩
      · have cv : cvx2 (X t.1) (Y t.1) (X t.2.1) (Y t.2.1) (zC X Y cx cy t).1 (zC X Y cx cy t).2.1 (zC X Y cx cy t).2.2 := by rw [e]; exact (nS_ok _ _ _ _ _ _).2.1
        rcases F01 with ⟨-, f⟩ | ⟨no, -⟩
        · rw [show fX12_isFace K (nI n) rm _ _ _ px py cor cors row tr 0 1 = _ from f, sm_b5, if_neg one_ne, s0]
          exact ⟨2, _, _, _, _, by omega, rfl, rfl, 0, 1, by omega, by omega, by omega, by omega, cv⟩
        · exact absurd (face_in h' h1 h2 zl cv) no
      · have cv : cvx2 (X t.1) (Y t.1) (X t.2.2) (Y t.2.2) (zC X Y cx cy t).1 (zC X Y cx cy t).2.1 (zC X Y cx cy t).2.2 := by rw [e]; exact (nS_ok _ _ _ _ _ _).2.1
        rcases F01 with ⟨yes, -⟩ | ⟨-, f⟩
        · exact absurd (face_le h' h1 h2 zl yes) w1
        · rw [show fX12_isFace K (nI n) rm _ _ _ px py cor cors row tr 0 1 = _ from f, sm_b5, if_pos rfl, s0]
          obtain ⟨rm2, cor2, cors2, row2, F02⟩ := faceM K hK h' hm' (show 0 < 3 by omega) (show 2 < 3 by omega) oC rm1 cor1 cors1 row1
          rcases F02 with ⟨-, f2⟩ | ⟨no, -⟩
          · rw [show fX12_isFace K (nI n) rm1 _ _ _ px py cor1 cors1 row1 tr 0 2 = _ from f2, sm_b5, if_neg one_ne]
            exact ⟨1, _, _, _, _, by omega, rfl, rfl, 0, 2, by omega, by omega, by omega, by omega, cv⟩
          · exact absurd (face_in h' h1 h3 zl cv) no
      · have cv : cvx2 (X t.2.1) (Y t.2.1) (X t.2.2) (Y t.2.2) (zC X Y cx cy t).1 (zC X Y cx cy t).2.1 (zC X Y cx cy t).2.2 := by rw [e]; exact (nS_ok _ _ _ _ _ _).2.1
        rcases F01 with ⟨yes, -⟩ | ⟨-, f⟩
        · exact absurd (face_le h' h1 h2 zl yes) w1
        · rw [show fX12_isFace K (nI n) rm _ _ _ px py cor cors row tr 0 1 = _ from f, sm_b5, if_pos rfl, s0]
          obtain ⟨rm2, cor2, cors2, row2, F02⟩ := faceM K hK h' hm' (show 0 < 3 by omega) (show 2 < 3 by omega) oC rm1 cor1 cors1 row1
          rcases F02 with ⟨yes, -⟩ | ⟨-, f2⟩
          · exact absurd (face_le h' h1 h3 zl yes) w2
          · rw [show fX12_isFace K (nI n) rm1 _ _ _ px py cor1 cors1 row1 tr 0 2 = _ from f2, sm_b5, if_pos rfl]
            exact ⟨0, _, _, _, _, by omega, rfl, rfl, 1, 2, by omega, by omega, by omega, by omega, cv⟩
