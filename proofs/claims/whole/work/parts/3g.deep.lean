--@ needs 3f.depth
/-! frees, deepest -/
theorem offF (K : Nat) {n : Nat} (hn : n ≤ 24) (v w : Nat → Bool) : fX1_offerFewest K (bP w n) (bP v n) = some (bP (if ky n v < ky n w then v else w) n) := by
  have l1 := cnt_le v n
  have l2 := cnt_le w n
  unfold fX1_offerFewest
  rw [bP_b1 K v hn, bP_b1 K w hn]
  simp only [xl_e, jn_e]
  have e : nI (cnt v n) - nI (cnt w n) = iI ((cnt v n : Int) - cnt w n) := by rw [nI_iI, nI_iI, iI_sub]
  have hs : s32 ((cnt v n : Int) - cnt w n) := ⟨by omega, by omega⟩
  rw [e]
  simp only [iI_lt (b := 0) hs ⟨by omega, by omega⟩, iI_eq (b := 0) hs ⟨by omega, by omega⟩, show ∀ z : Int, (iI z < 0) = (iI z < iI 0) from fun _ => rfl, show ∀ z : Int, (iI z = 0) = (iI z = iI 0) from fun _ => rfl, bP_le _ _ hn, ky_lt hn]
  by_cases h1 : (cnt v n : Int) - cnt w n < 0
  · rw [if_pos h1, if_pos (Or.inl (by omega))]
  · rw [if_neg h1]
    by_cases h2 : (cnt v n : Int) - cnt w n = 0
    · rw [if_pos h2]
      by_cases h3 : nP w n ≤ nP v n
      · rw [if_pos h3, if_neg (by omega)]
      · rw [if_neg h3, if_pos (Or.inr (by omega))]
    · rw [if_neg h2, if_neg (by omega)]
theorem fewL (K : Nat) (hK : 4000 ≤ K) {n : Nat} {x y : Nat → Int32} {X Y : Nat → Int} (h : Pts n x y X Y) {a b : Int} (ha : -20 ≤ a ∧ a ≤ 20) (hb : -20 ≤ b ∧ b ≤ 20) : ∀ (fu i : Nat) (w : Nat → Bool) (o1 o2 o3 o4 o5 : Int32), i ≤ n → n - i < fu → kmin n (fun r => r = allB ∨ Lk (off X a) (off Y b) i r) w → ∃ w' o1' o2' o3' o4' o5', fX1_findFewest_L14 K (nI n) (iI a) (iI b) x y fu (nI i) (bP w n) o1 o2 o3 o4 o5 = some (bP w' n, o1', o2', o3', o4', o5') ∧ kmin n (fun r => r = allB ∨ Lk (off X a) (off Y b) n r) w' := by
  intro fu
  induction fu with
  | zero => intro i w o1 o2 o3 o4 o5 h1 h2; omega
  | succ fu ih =>
    intro i w o1 o2 o3 o4 o5 h1 h2 hw
    have hn := h.1
    rw [fX1_findFewest_L14]
    by_cases hi : i = n
    · subst hi
      rw [if_pos (nI_le (Nat.le_refl i) (by omega))]
      exact ⟨w, _, _, _, _, _, rfl, hw⟩
    · have hlt : i < n := by omega
      rw [if_neg (nI_ge hlt (by omega)), isAt_c K h hlt ha hb]
      simp only [sm_b1, jn_e, xl_e, nI_1]
      have zz : zr (off X a) (off Y b) i ↔ (X i = a ∧ Y i = b) := by
        unfold zr off
        omega
      by_cases hz : X i = a ∧ Y i = b
      · rw [if_pos hz, if_neg one_ne]
        refine ih (i + 1) w _ _ _ _ _ (by omega) (by omega) (kmin_eqv hw (fun q => ?_))
        rw [Lk_succ]
        exact ⟨fun u => u.elim Or.inl (fun u => Or.inr (Or.inl u)), fun u => u.elim Or.inl (fun u => u.elim Or.inr (fun u => absurd (zz.mpr hz) u.1))⟩
      · rw [if_neg hz, if_pos rfl, splitC K hK h ha hb hlt]
        have hz' : ¬ zr (off X a) (off Y b) i := fun q => hz (zz.mp q)
        obtain ⟨q1, q2, q3, q4⟩ := part_look hz'
        simp only [sm_b5, bP_or _ _ hn, q1, q2, q3, q4, offF K hn, sm_b1, show (fun i_1 => lkB (off X a) (off Y b) 1 1 i i_1) = lkB (off X a) (off Y b) 1 1 i from rfl, show (fun i_1 => lkB (off X a) (off Y b) 1 (-1) i i_1) = lkB (off X a) (off Y b) 1 (-1) i from rfl, show (fun i_1 => lkB (off X a) (off Y b) (-1) 1 i i_1) = lkB (off X a) (off Y b) (-1) 1 i from rfl, show (fun i_1 => lkB (off X a) (off Y b) (-1) (-1) i i_1) = lkB (off X a) (off Y b) (-1) (-1) i from rfl]
        have hk := kmin_add (q := lkB (off X a) (off Y b) (-1) (-1) i) (kmin_add (q := lkB (off X a) (off Y b) (-1) 1 i) (kmin_add (q := lkB (off X a) (off Y b) 1 (-1) i) (kmin_add (q := lkB (off X a) (off Y b) 1 1 i) hw)))
        have hk2 := kmin_eqv (D' := fun r => r = allB ∨ Lk (off X a) (off Y b) (i + 1) r) hk (fun q => by
          rw [Lk_succ]
          constructor
          · rintro (((((u | u) | u) | u) | u) | u)
            · exact Or.inl u
            · exact Or.inr (Or.inl u)
            · exact Or.inr (Or.inr ⟨hz', Or.inl u⟩)
            · exact Or.inr (Or.inr ⟨hz', Or.inr (Or.inl u)⟩)
            · exact Or.inr (Or.inr ⟨hz', Or.inr (Or.inr (Or.inl u))⟩)
            · exact Or.inr (Or.inr ⟨hz', Or.inr (Or.inr (Or.inr u))⟩)
          · rintro (u | u | ⟨-, u | u | u | u⟩)
            · exact Or.inl (Or.inl (Or.inl (Or.inl (Or.inl u))))
            · exact Or.inl (Or.inl (Or.inl (Or.inl (Or.inr u))))
            · exact Or.inl (Or.inl (Or.inl (Or.inr u)))
            · exact Or.inl (Or.inl (Or.inr u))
            · exact Or.inl (Or.inr u)
            · exact Or.inr u)
        exact ih (i + 1) _ _ _ _ _ _ (by omega) (by omega) hk2
theorem fewC (K : Nat) (hK : 4000 ≤ K) {n : Nat} {x y : Nat → Int32} {X Y : Nat → Int} (h : Pts n x y X Y) {a b : Int} (ha : -20 ≤ a ∧ a ≤ 20) (hb : -20 ≤ b ∧ b ≤ 20) (f o1 o2 o3 o4 o5 : Int32) : ∃ w' o1' o2' o3' o4' o5', fX1_findFewest K f o1 o2 o3 o4 o5 (nI n) (iI a) (iI b) x y = some (bP w' n, o1', o2', o3', o4', o5') ∧ kmin n (fun r => r = allB ∨ Lk (off X a) (off Y b) n r) w' := by
  have hn := h.1
  obtain ⟨w', p1', p2', p3', p4', p5', h1, h2⟩ := fewL K hK h ha hb K 0 allB o1 o2 o3 o4 o5 (by omega) (by omega) ⟨Or.inl rfl, fun q hq => by
    rcases hq with rfl | ⟨t, σ, τ, u, -⟩
    · exact Nat.le_refl _
    · omega⟩
  have e : ((1 : Int32) <<< (nI n &&& 31)) - 1 = bP allB n := by
    have hp : 0 < 2 ^ n := Nat.pos_of_ne_zero (by simp)
    rw [pow_shl n hn, bP_nP _ _ hn, show (1 : Int32) = nI 1 from rfl, sub_nI hp]
    congr 1
    exact (nP_all n).symm
  unfold fX1_findFewest
  rw [xl_e, e]
  rw [show (0 : Int32) = nI 0 from rfl, h1]
  exact ⟨w', p1', p2', p3', p4', p5', rfl, h2⟩
theorem ev_frees (K : Nat) (hK : 4000 ≤ K) (x_cloud_size : Int32) (x_cloud_x : Nat → Int32) (x_cloud_y : Nat → Int32) (x_cloud_colour : Nat → Int32) (x_cloud_load : Nat → Int32) (x_cloud_centreX : Int32) (x_cloud_centreY : Int32) (x_reader_tape : Nat → Int32) (x_reader_length : Int32) (x_reader_faultKind : Int32) (x_reader_faultPlace : Int32) (m_many : Int32) (m_px : Nat → Int32) (m_py : Nat → Int32) (m_colour : Nat → Int32) (m_load : Nat → Int32) (m_cx : Int32) (m_cy : Int32) (m_tape : Nat → Int32) (m_taped : Int32) (m_faultKind : Int32) (m_faultPlace : Int32) (x_depths_fewest : Int32) (x_depths_here : Int32) (x_depths_onLeft : Int32) (x_depths_onRight : Int32) (x_depths_ahead : Int32) (x_depths_behind : Int32) (m_depthFound : Int32) (m_depthSet : Int32) (a1 : Int32) (hR : Rel x_cloud_size x_cloud_x x_cloud_y x_cloud_colour x_cloud_load x_cloud_centreX x_cloud_centreY x_reader_tape x_reader_length x_reader_faultKind x_reader_faultPlace m_many m_px m_py m_colour m_load m_cx m_cy m_tape m_taped m_faultKind m_faultPlace) : ∃ (r : Int32) (o_x_depths_fewest : Int32) (o_x_depths_here : Int32) (o_x_depths_onLeft : Int32) (o_x_depths_onRight : Int32) (o_x_depths_ahead : Int32) (o_x_depths_behind : Int32) (o_m_depthFound : Int32) (o_m_depthSet : Int32), fX11_frees K x_cloud_size x_cloud_centreX x_cloud_centreY x_cloud_x x_cloud_y x_depths_fewest x_depths_here x_depths_onLeft x_depths_onRight x_depths_ahead x_depths_behind a1 = some (r, o_x_depths_fewest, o_x_depths_here, o_x_depths_onLeft, o_x_depths_onRight, o_x_depths_ahead, o_x_depths_behind) ∧ fX12_frees K m_many m_cx m_cy m_depthFound m_depthSet m_px m_py a1 = some (r, o_m_depthFound, o_m_depthSet) := by
  obtain ⟨n, rfl, rfl, hXc, hXm⟩ := Rel_pts hR
  obtain ⟨rfl, rfl, hpl⟩ := Rel_c hR
  obtain ⟨a, b, rfl, rfl, ha, hb⟩ := isPl_i hpl
  obtain ⟨q, o1', o2', o3', o4', o5', f1, f2⟩ := fewC K hK hXc ha hb x_depths_fewest x_depths_here x_depths_onLeft x_depths_onRight x_depths_ahead x_depths_behind
  obtain ⟨w, g1, g2⟩ := depthM K hK hXm ha hb m_depthFound m_depthSet
  have hk := ky_eq hXc.1 (kmin_same g2 f2)
  have eb : bP w n = bP q n := by rw [bP_nP _ _ hXc.1, bP_nP _ _ hXc.1, hk.2]
  have z0 : (a1 = 0) ↔ a1.toInt = 0 := a_eq (k := 0) ⟨by omega, by omega⟩
  have z1 : (a1 = 1) ↔ a1.toInt = 1 := a_eq (k := 1) ⟨by omega, by omega⟩
  unfold fX11_frees fX12_frees
  rw [f1, in_spec, sm_b1, g1]
  simp only [long_toInt, show (0 : Int64).toInt = 0 from rfl, show (1 : Int64).toInt = 1 from rfl, z0, z1]
  rw [show ∀ k : Int32 → Int32 → Int32 → Int32 → Int32 → Int32 → Option (Int32 × Int32 × Int32 × Int32 × Int32 × Int32 × Int32), b6 (some (bP q n, o1', o2', o3', o4', o5')) k = k (bP q n) o1' o2' o3' o4' o5' from fun _ => rfl, bP_b1 K q hXc.1]
  by_cases c : 0 ≤ a1.toInt ∧ a1.toInt ≤ 1
  · rw [if_pos c, if_neg one_ne]
    by_cases c0 : a1.toInt = 0
    · rw [if_pos c0]
      refine ⟨nI (cnt q n), bP q n, o1', o2', o3', o4', o5', nI (cnt w n), bP w n, rfl, ?_⟩
      simp only [b3, Option.bind_some]
      rw [if_pos c0, hk.1]
    · rw [if_neg c0, if_pos (by omega)]
      refine ⟨bP q n, bP q n, o1', o2', o3', o4', o5', nI (cnt w n), bP w n, rfl, ?_⟩
      simp only [b3, Option.bind_some]
      rw [if_neg c0, eb]
  · rw [if_neg c, if_pos rfl, if_neg (by omega), if_neg (by omega)]
    exact ⟨_, _, _, _, _, _, _, _, _, rfl, rfl⟩
/-! the deepest -/
theorem dep_ex {n : Nat} {x y : Nat → Int32} {X Y : Nat → Int} (h : Pts n x y X Y) (a b : Int) (ha : -20 ≤ a ∧ a ≤ 20) (hb : -20 ≤ b ∧ b ≤ 20) : ∃ d, dmin n (off X a) (off Y b) n d := by
  obtain ⟨w, -, hw⟩ := depthM 4000 (Nat.le_refl _) h ha hb 0 0
  exact ⟨_, (kmin_dmin h.1 hw).1⟩
noncomputable def dep (n : Nat) (X Y : Nat → Int) (a b : Int) : Nat := @dite Nat (∃ d, dmin n (off X a) (off Y b) n d) (Classical.propDecidable _) (fun h => Classical.choose h) (fun _ => 0)
theorem dep_ok {n : Nat} {x y : Nat → Int32} {X Y : Nat → Int} (h : Pts n x y X Y) {a b : Int} (ha : -20 ≤ a ∧ a ≤ 20) (hb : -20 ≤ b ∧ b ≤ 20) : dmin n (off X a) (off Y b) n (dep n X Y a b) := by
  have he := dep_ex h a b ha hb
  unfold dep
  rw [dif_pos he]
  exact Classical.choose_spec he
def bnd (n : Nat) (V : Nat → Int) (v : Int) : Nat := if cnt (fun i => decide (v ≤ V i)) n < cnt (fun i => decide (V i ≤ v)) n then cnt (fun i => decide (v ≤ V i)) n else cnt (fun i => decide (V i ≤ v)) n
theorem dep_bnd {n : Nat} {x y : Nat → Int32} {X Y : Nat → Int} (h : Pts n x y X Y) {a b : Int} (ha : -20 ≤ a ∧ a ≤ 20) (hb : -20 ≤ b ∧ b ≤ 20) : dep n X Y a b ≤ bnd n X a ∧ dep n X Y a b ≤ bnd n Y b := by
  obtain ⟨w, -, hw⟩ := depthM 4000 (Nat.le_refl _) h ha hb 0 0
  obtain ⟨h1, q, hq, e⟩ := kmin_dmin h.1 hw
  have hd : dep n X Y a b = cnt q n := by rw [e]; exact dmin_uniq (dep_ok h ha hb) h1
  have b1 := half_bound h.1 hq (γ := off X a) (δ := off Y b) (c := fun i => decide (a ≤ X i)) (Or.inl (fun _ _ => rfl)) (fun _ _ => rfl) (fun i hi q => decide_eq_true (by unfold off at q; omega))
  have b2 := half_bound h.1 hq (γ := fun i => -off X a i) (δ := off Y b) (c := fun i => decide (X i ≤ a)) (Or.inr (fun t i => by unfold crs; grind)) (fun t i => by unfold dts; grind) (fun i hi q => decide_eq_true (by unfold off at q; omega))
  have b3 := half_bound h.1 hq (γ := off Y b) (δ := off X a) (c := fun i => decide (b ≤ Y i)) (Or.inr (fun t i => by unfold crs; grind)) (fun t i => by unfold dts; grind) (fun i hi q => decide_eq_true (by unfold off at q; omega))
  have b4 := half_bound h.1 hq (γ := fun i => -off Y b i) (δ := off X a) (c := fun i => decide (Y i ≤ b)) (Or.inl (fun t i => by unfold crs; grind)) (fun t i => by unfold dts; grind) (fun i hi q => decide_eq_true (by unfold off at q; omega))
  rw [hd]
  unfold bnd
  constructor <;> split <;> assumption
theorem dep_pos {n : Nat} {x y : Nat → Int32} {X Y : Nat → Int} (h : Pts n x y X Y) (h0 : 0 < n) : 1 ≤ dep n X Y (X 0) (Y 0) := by
  obtain ⟨-, -, r1, r2⟩ := h.2 0 h0
  obtain ⟨⟨p, hp, e⟩, -⟩ := dep_ok h r1 r2
  rw [e]
  have : p 0 = true := by
    rcases hp with rfl | ⟨t, σ, τ, -, -, -, -, rfl⟩
    · rfl
    · unfold lkB
      refine decide_eq_true (Or.inr (Or.inr ⟨?_, ?_⟩))
      · show X 0 - X 0 = 0; omega
      · show Y 0 - Y 0 = 0; omega
  rcases Nat.eq_zero_or_pos (cnt p n) with q | q
  · have := cnt_0.mp q 0 h0
    rw [‹p 0 = true›] at this
    exact absurd this (by decide)
  · exact q
theorem bndL (K : Nat) {n : Nat} (hn : n ≤ 24) {v : Nat → Int32} {V : Nat → Int} (hv : ∀ i, i < n → v i = iI (V i) ∧ -20 ≤ V i ∧ V i ≤ 20) {z : Int} (hz : -20 ≤ z ∧ z ≤ 20) : ∀ (fu i : Nat), i ≤ n → n - i < fu → fX1_boundOf_p024_L8 K (nI n) (iI z) v fu (nI (cnt (fun i => decide (V i ≤ z)) i)) (nI (cnt (fun i => decide (z ≤ V i)) i)) (nI i) = some (nI (cnt (fun i => decide (V i ≤ z)) n), nI (cnt (fun i => decide (z ≤ V i)) n)) := by
  intro fu
  induction fu with
  | zero => intro i h1 h2; omega
  | succ fu ih =>
    intro i h1 h2
    rw [fX1_boundOf_p024_L8]
    by_cases hi : i = n
    · subst hi
      rw [if_pos (nI_le (Nat.le_refl i) (by omega))]
    · have hlt : i < n := by omega
      obtain ⟨e1, e2⟩ := hv i hlt
      have IH := ih (i + 1) (by omega) (by omega)
      rw [cnt, cnt] at IH
      simp only [decide_eq_true_eq] at IH
      rw [if_neg (nI_ge hlt (by omega)), if_neg (show ¬ (24 : Int32) ≤ nI i from (nI_ge (show i < 24 by omega) (by decide) : ¬ nI 24 ≤ nI i))]
      simp only [xl, jn, gd_t (inb_nI (show i < 24 by omega) (by decide)), nI_clamp (show i < 2 ^ 31 by omega), e1, iI_lt (a := z) (b := V i) ⟨by omega, by omega⟩ ⟨by omega, by omega⟩, iI_lt (b := z) (a := V i) ⟨by omega, by omega⟩ ⟨by omega, by omega⟩, nI_1]
      by_cases c1 : z < V i
      · rw [if_pos c1, if_neg (show ¬ V i < z by omega)]
        rw [if_neg (show ¬ V i ≤ z by omega), if_pos (show z ≤ V i by omega)] at IH
        rw [show (0 : Int32) = nI 0 from rfl, add_nI]
        exact IH
      · rw [if_neg c1]
        rw [if_pos (show V i ≤ z by omega)] at IH
        by_cases c2 : V i < z
        · rw [if_pos c2]
          rw [if_neg (show ¬ z ≤ V i by omega)] at IH
          rw [show (0 : Int32) = nI 0 from rfl, add_nI]
          exact IH
        · rw [if_neg c2]
          rw [if_pos (show z ≤ V i by omega)] at IH
          exact IH
theorem bndC (K : Nat) (hK : 4000 ≤ K) {n : Nat} (hn : n ≤ 24) {v : Nat → Int32} {V : Nat → Int} (hv : ∀ i, i < n → v i = iI (V i) ∧ -20 ≤ V i ∧ V i ≤ 20) {z : Int} (hz : -20 ≤ z ∧ z ≤ 20) : fX1_boundOf_p024 K v (nI n) (iI z) = some (nI (bnd n V z)) := by
  have h1 := bndL K hn hv hz K 0 (by omega) (by omega)
  have l1 := cnt_le (fun i => decide (V i ≤ z)) n
  have l2 := cnt_le (fun i => decide (z ≤ V i)) n
  unfold fX1_boundOf_p024
  rw [show (0 : Int32) = nI 0 from rfl]
  rw [cnt, cnt] at h1
  rw [h1]
  simp only [b2, Option.bind_some, xl]
  rw [nI_min (by omega) (by omega)]
  rfl
theorem bnd_le {n : Nat} (V : Nat → Int) (v : Int) : bnd n V v ≤ n := by
  have l1 := cnt_le (fun i => decide (V i ≤ v)) n
  have l2 := cnt_le (fun i => decide (v ≤ V i)) n
  unfold bnd
  split <;> omega
/-- steps over the places -/
abbrev S3 : Type := Int × Int × Int
noncomputable def stp (n : Nat) (X Y : Nat → Int) (a b : Int) (s : S3) : S3 := if s.2.2 < (dep n X Y a b : Int) then (a, b, (dep n X Y a b : Int)) else s
noncomputable def colF (n : Nat) (X Y : Nat → Int) (a : Int) : Nat → Int → S3 → S3
  | 0, _, s => s
  | k + 1, b, s => colF n X Y a k (b + 1) (stp n X Y a b s)
noncomputable def rowF (n : Nat) (X Y : Nat → Int) : Nat → Int → S3 → S3
  | 0, _, s => s
  | k + 1, a, s => rowF n X Y k (a + 1) (colF n X Y a 41 (-20) s)
theorem lt20 {z : Int} (h1 : -20 ≤ z) (h2 : z ≤ 21) : ((20 : Int32) < iI z) ↔ 20 < z := iI_lt (a := 20) ⟨by omega, by omega⟩ ⟨by omega, by omega⟩
def okS (n : Nat) (s : S3) : Prop := 0 ≤ s.2.2 ∧ s.2.2 ≤ 24
theorem stp_ok {n : Nat} {x y : Nat → Int32} {X Y : Nat → Int} (h : Pts n x y X Y) {a b : Int} (ha : -20 ≤ a ∧ a ≤ 20) (hb : -20 ≤ b ∧ b ≤ 20) {s : S3} (hs : s.2.2 ≤ 24) : (stp n X Y a b s).2.2 ≤ 24 ∧ s.2.2 ≤ (stp n X Y a b s).2.2 := by
  have := dmin_le (dep_ok h ha hb)
  have := h.1
  unfold stp
  split
  · rename_i c
    constructor
    · show (dep n X Y a b : Int) ≤ 24; omega
    · show s.2.2 ≤ (dep n X Y a b : Int); omega
  · exact ⟨hs, Int.le_refl _⟩
theorem srchC (K : Nat) (hK : 4000 ≤ K) {n : Nat} {x y : Nat → Int32} {X Y : Nat → Int} (h : Pts n x y X Y) {rb : Nat → Int32} (hrb : ∀ b : Int, -20 ≤ b → b ≤ 20 → rb (b + 20).toNat = nI (bnd n Y b)) {a : Int} (ha : -20 ≤ a ∧ a ≤ 20) : ∀ (fu k : Nat) (b : Int) (bx b_y : Int32) (s : S3) (o1 o2 o3 o4 o5 : Int32), b + k = 21 → -20 ≤ b → k < fu → okS n s → (0 < s.2.2 → bx = iI s.1 ∧ b_y = iI s.2.1) → ∃ bx' by' o1' o2' o3' o4' o5', fX1_searchColumn_L3 K (iI a) rb (nI n) x y fu (iI b) bx b_y (iI s.2.2) o1 o2 o3 o4 o5 = some (bx', by', iI (colF n X Y a k b s).2.2, o1', o2', o3', o4', o5') ∧ okS n (colF n X Y a k b s) ∧ (0 < (colF n X Y a k b s).2.2 → bx' = iI (colF n X Y a k b s).1 ∧ by' = iI (colF n X Y a k b s).2.1) := by
  intro fu
  induction fu with
  | zero => intro k b bx b_y s o1 o2 o3 o4 o5 h1 h2 h3; omega
  | succ fu ih =>
    intro k b bx b_y s o1 o2 o3 o4 o5 h1 h2 h3 hs hx
    have hn := h.1
    rw [fX1_searchColumn_L3]
    simp only [lt20 h2 (show b ≤ 21 by omega)]
    cases k with
    | zero =>
      rw [if_pos (by omega)]
      exact ⟨bx, b_y, o1, o2, o3, o4, o5, rfl, hs, hx⟩
    | succ k =>
      have hb : -20 ≤ b ∧ b ≤ 20 := ⟨h2, by omega⟩
      have hd := dep_ok h ha hb
      have hd24 := dmin_le hd
      have hbd := (dep_bnd h ha hb).2
      have hbl := bnd_le (n := n) Y b
      rw [if_neg (by omega)]
      have ei : iI b + 20 = iI (b + 20) := iI_add b 20
      have e1 : iI b + 1 = iI (b + 1) := iI_add b 1
      have s1 := hs.1
      have s2 := hs.2
      have hso : s32 s.2.2 := ⟨by omega, by omega⟩
      simp only [ei, e1, xl_e, jn_e, gd_t (inb_i (z := b + 20) (N := 41) (by omega) (by omega) (by omega)), iI_clamp (z := b + 20) ⟨by omega, by omega⟩, hrb b hb.1 hb.2, nI_lei (show bnd n Y b < 1000 by omega) hso]
      by_cases c : (bnd n Y b : Int) ≤ s.2.2
      · rw [if_pos c]
        have es : stp n X Y a b s = s := by unfold stp; rw [if_neg (by omega)]
        have := ih k (b + 1) bx b_y s o1 o2 o3 o4 o5 (by omega) (by omega) (by omega) hs hx
        rw [colF, es]
        exact this
      · rw [if_neg c]
        obtain ⟨d', p1, p2, p3, p4, p5, f1, f2, f3⟩ := depthC K hK h ha hb hso o1 o2 o3 o4 o5
        rw [f1]
        simp only [b6, Option.bind_some, nI_lei (show d' < 1000 by omega) hso]
        rw [colF]
        by_cases c2 : (d' : Int) ≤ s.2.2
        · rw [if_pos c2]
          have hle : dep n X Y a b ≤ d' := by
            rcases f3 with f3 | ⟨-, p, hp, e⟩
            · rw [dmin_uniq hd f3]; exact Nat.le_refl _
            · rw [e]; exact hd.2 p hp
          have es : stp n X Y a b s = s := by unfold stp; rw [if_neg (by omega)]
          rw [es]
          exact ih k (b + 1) bx b_y s p1 p2 p3 p4 p5 (by omega) (by omega) (by omega) hs hx
        · rw [if_neg c2]
          have hd' : d' = dep n X Y a b := by
            rcases f3 with f3 | ⟨f3, -⟩
            · exact dmin_uniq f3 hd
            · exact absurd f3 c2
          have es : stp n X Y a b s = (a, b, (dep n X Y a b : Int)) := by unfold stp; rw [if_pos (by omega)]
          rw [es, hd', nI_iI]
          exact ih k (b + 1) (iI a) (iI b) (a, b, (dep n X Y a b : Int)) p1 p2 p3 p4 p5 (by omega) (by omega) (by omega) ⟨by show (0 : Int) ≤ (dep n X Y a b : Int); omega, by show (dep n X Y a b : Int) ≤ 24; omega⟩ (fun _ => ⟨rfl, rfl⟩)
theorem colF_id {n : Nat} {X Y : Nat → Int} {a : Int} {s : S3} (hb : ∀ b : Int, -20 ≤ b → b ≤ 20 → (dep n X Y a b : Int) ≤ s.2.2) : ∀ (k : Nat) (b : Int), b + k = 21 → -20 ≤ b → colF n X Y a k b s = s := by
  intro k
  induction k with
  | zero => intro b _ _; rfl
  | succ k ih =>
    intro b h1 h2
    rw [colF]
    have es : stp n X Y a b s = s := by unfold stp; rw [if_neg (by have := hb b h2 (by omega); omega)]
    rw [es]
    exact ih (b + 1) (by omega) (by omega)
theorem deepC (K : Nat) (hK : 4000 ≤ K) {n : Nat} {x y : Nat → Int32} {X Y : Nat → Int} (h : Pts n x y X Y) {rb : Nat → Int32} (hrb : ∀ b : Int, -20 ≤ b → b ≤ 20 → rb (b + 20).toNat = nI (bnd n Y b)) : ∀ (fu k : Nat) (a : Int) (bx b_y : Int32) (s : S3) (o1 o2 o3 o4 o5 : Int32), a + k = 21 → -20 ≤ a → k < fu → okS n s → (0 < s.2.2 → bx = iI s.1 ∧ b_y = iI s.2.1) → ∃ bx' by' o1' o2' o3' o4' o5', fX1_findDeepest_L44 K rb (nI n) x y fu (iI a) bx b_y (iI s.2.2) o1 o2 o3 o4 o5 = some (bx', by', iI (rowF n X Y k a s).2.2, o1', o2', o3', o4', o5') ∧ okS n (rowF n X Y k a s) ∧ (0 < (rowF n X Y k a s).2.2 → bx' = iI (rowF n X Y k a s).1 ∧ by' = iI (rowF n X Y k a s).2.1) := by
  intro fu
  induction fu with
  | zero => intro k a bx b_y s o1 o2 o3 o4 o5 h1 h2 h3; omega
  | succ fu ih =>
    intro k a bx b_y s o1 o2 o3 o4 o5 h1 h2 h3 hs hx
    have hn := h.1
    rw [fX1_findDeepest_L44]
    simp only [lt20 h2 (show a ≤ 21 by omega)]
    cases k with
    | zero =>
      rw [if_pos (by omega)]
      exact ⟨bx, b_y, o1, o2, o3, o4, o5, rfl, hs, hx⟩
    | succ k =>
      have ha : -20 ≤ a ∧ a ≤ 20 := ⟨h2, by omega⟩
      have hbl := bnd_le (n := n) X a
      rw [if_neg (by omega), bndC K hK hn (V := X) (fun i hi => ⟨(h.2 i hi).1, (h.2 i hi).2.2.1⟩) ha]
      have e1 : iI a + 1 = iI (a + 1) := iI_add a 1
      have s1 := hs.1
      have s2 := hs.2
      have hso : s32 s.2.2 := ⟨by omega, by omega⟩
      simp only [sm_b1, e1, xl_e, jn_e, nI_lei (show bnd n X a < 1000 by omega) hso]
      rw [rowF]
      by_cases c : (bnd n X a : Int) ≤ s.2.2
      · rw [if_pos c]
        rw [colF_id (fun b q1 q2 => by have := (dep_bnd h ha ⟨q1, q2⟩).1; omega) 41 (-20) (by omega) (by omega)]
        exact ih k (a + 1) bx b_y s o1 o2 o3 o4 o5 (by omega) (by omega) (by omega) hs hx
      · rw [if_neg c]
        obtain ⟨bx', by', p1, p2, p3, p4, p5, f1, f2, f3⟩ := srchC K hK h hrb ha K 41 (-20) bx b_y s o1 o2 o3 o4 o5 (by omega) (by omega) (by omega) hs hx
        unfold fX1_searchColumn
        rw [show (-20 : Int32) = iI (-20) from rfl, f1]
        simp only [b8, Option.bind_some]
        exact ih k (a + 1) bx' by' _ p1 p2 p3 p4 p5 (by omega) (by omega) (by omega) f2 f3
theorem rowB (K : Nat) (hK : 4000 ≤ K) {n : Nat} (hn : n ≤ 24) {v : Nat → Int32} {V : Nat → Int} (hv : ∀ i, i < n → v i = iI (V i) ∧ -20 ≤ V i ∧ V i ≤ 20) : ∀ (fu k : Nat) (b : Int) (rb : Nat → Int32), b + k = 21 → -20 ≤ b → k < fu → (∀ c : Int, -20 ≤ c → c < b → rb (c + 20).toNat = nI (bnd n V c)) → ∃ rb', fX1_findDeepest_L8 K (nI n) v fu (iI b) rb = some rb' ∧ ∀ c : Int, -20 ≤ c → c ≤ 20 → rb' (c + 20).toNat = nI (bnd n V c) := by
  intro fu
  induction fu with
  | zero => intro k b rb h1 h2 h3; omega
  | succ fu ih =>
    intro k b rb h1 h2 h3 hr
    rw [fX1_findDeepest_L8]
    simp only [lt20 h2 (show b ≤ 21 by omega)]
    cases k with
    | zero =>
      rw [if_pos (by omega)]
      exact ⟨rb, rfl, fun c q1 q2 => hr c q1 (by omega)⟩
    | succ k =>
      have ei : iI b + 20 = iI (b + 20) := iI_add b 20
      have e1 : iI b + 1 = iI (b + 1) := iI_add b 1
      rw [if_neg (by omega), bndC K hK hn hv ⟨h2, by omega⟩]
      simp only [sm_b1, ei, e1, xl_e, gd_t (inb_i (z := b + 20) (N := 41) (by omega) (by omega) (by omega)), iI_clamp (z := b + 20) ⟨by omega, by omega⟩]
      refine ih k (b + 1) _ (by omega) (by omega) (by omega) (fun c q1 q2 => ?_)
      by_cases e : c = b
      · rw [e, upd_at]
      · rw [upd_ne (by omega)]
        exact hr c q1 (by omega)
/-- the model's loops -/
theorem deepMc (K : Nat) (hK : 4000 ≤ K) {n : Nat} {x y : Nat → Int32} {X Y : Nat → Int} (h : Pts n x y X Y) {a : Int} (ha : -20 ≤ a ∧ a ≤ 20) : ∀ (fu k : Nat) (b : Int) (s : S3) (f t : Int32), b + k = 21 → -20 ≤ b → k < fu → -1 ≤ s.2.2 ∧ s.2.2 ≤ 24 → ∃ f' t', fX12_deepest_L45 K (iI a) (nI n) x y fu (iI s.1) (iI s.2.1) (iI s.2.2) (iI b) f t = some (iI (colF n X Y a k b s).1, iI (colF n X Y a k b s).2.1, iI (colF n X Y a k b s).2.2, f', t') ∧ -1 ≤ (colF n X Y a k b s).2.2 ∧ (colF n X Y a k b s).2.2 ≤ 24 := by
  intro fu
  induction fu with
  | zero => intro k b s f t h1 h2 h3; omega
  | succ fu ih =>
    intro k b s f t h1 h2 h3 hs
    have hn := h.1
    rw [fX12_deepest_L45]
    simp only [lt20 h2 (show b ≤ 21 by omega)]
    cases k with
    | zero =>
      rw [if_pos (by omega)]
      exact ⟨f, t, rfl, hs⟩
    | succ k =>
      have hb : -20 ≤ b ∧ b ≤ 20 := ⟨h2, by omega⟩
      obtain ⟨w, g1, g2⟩ := depthM K hK h ha hb f t
      have hd : cnt w n = dep n X Y a b := dmin_uniq (kmin_dmin hn g2).1 (dep_ok h ha hb)
      have hd24 := dmin_le (dep_ok h ha hb)
      have e1 : iI b + 1 = iI (b + 1) := iI_add b 1
      rw [if_neg (by omega), g1, hd]
      simp only [b3, Option.bind_some, jn, xl, e1]
      rw [nI_iI]
      simp only [iI_lt (a := s.2.2) (b := (dep n X Y a b : Int)) ⟨by omega, by omega⟩ ⟨by omega, by omega⟩]
      rw [colF]
      unfold stp
      by_cases c : s.2.2 < (dep n X Y a b : Int)
      · rw [if_pos c, if_pos c]
        exact ih k (b + 1) (a, b, (dep n X Y a b : Int)) _ _ (by omega) (by omega) (by omega) ⟨by show (-1 : Int) ≤ (dep n X Y a b : Int); omega, by show (dep n X Y a b : Int) ≤ 24; omega⟩
      · rw [if_neg c, if_neg c]
        exact ih k (b + 1) s _ _ (by omega) (by omega) (by omega) hs
theorem deepMr (K : Nat) (hK : 4000 ≤ K) {n : Nat} {x y : Nat → Int32} {X Y : Nat → Int} (h : Pts n x y X Y) : ∀ (fu k : Nat) (a : Int) (s : S3) (f t : Int32), a + k = 21 → -20 ≤ a → k < fu → -1 ≤ s.2.2 ∧ s.2.2 ≤ 24 → ∃ f' t', fX12_deepest_L34 K (nI n) x y fu (iI s.1) (iI s.2.1) (iI s.2.2) (iI a) f t = some (iI (rowF n X Y k a s).1, iI (rowF n X Y k a s).2.1, iI (rowF n X Y k a s).2.2, f', t') := by
  intro fu
  induction fu with
  | zero => intro k a s f t h1 h2 h3; omega
  | succ fu ih =>
    intro k a s f t h1 h2 h3 hs
    rw [fX12_deepest_L34]
    simp only [lt20 h2 (show a ≤ 21 by omega)]
    cases k with
    | zero =>
      rw [if_pos (by omega)]
      exact ⟨f, t, rfl⟩
    | succ k =>
      obtain ⟨f', t', g1, g2⟩ := deepMc K hK h ⟨h2, by omega⟩ K 41 (-20) s f t (by omega) (by omega) (by omega) hs
      have e1 : iI a + 1 = iI (a + 1) := iI_add a 1
      rw [if_neg (by omega), show (-20 : Int32) = iI (-20) from rfl, g1]
      simp only [b5, Option.bind_some, xl, e1]
      rw [rowF]
      exact ih k (a + 1) _ _ _ (by omega) (by omega) (by omega) g2
def inv2 (s t : S3) : Prop := (0 < s.2.2 ∧ s = t) ∨ (s.2.2 = 0 ∧ t.2.2 ≤ 0)
theorem inv_stp {n : Nat} {X Y : Nat → Int} {a b : Int} {s t : S3} (h : inv2 s t) : inv2 (stp n X Y a b s) (stp n X Y a b t) ∧ (dep n X Y a b : Int) ≤ (stp n X Y a b s).2.2 ∧ s.2.2 ≤ (stp n X Y a b s).2.2 := by
  unfold stp
  rcases h with ⟨h1, rfl⟩ | ⟨h1, h2⟩
  · split
    · rename_i c
      exact ⟨Or.inl ⟨by show (0 : Int) < (dep n X Y a b : Int); omega, rfl⟩, Int.le_refl _, by show s.2.2 ≤ (dep n X Y a b : Int); omega⟩
    · rename_i c
      exact ⟨Or.inl ⟨h1, rfl⟩, by omega, Int.le_refl _⟩
  · by_cases c : s.2.2 < (dep n X Y a b : Int)
    · rw [if_pos c, if_pos (by omega)]
      exact ⟨Or.inl ⟨by show (0 : Int) < (dep n X Y a b : Int); omega, rfl⟩, Int.le_refl _, by show s.2.2 ≤ (dep n X Y a b : Int); omega⟩
    · rw [if_neg c]
      refine ⟨Or.inr ⟨h1, ?_⟩, by omega, Int.le_refl _⟩
      split
      · show (dep n X Y a b : Int) ≤ 0; omega
      · exact h2
theorem inv_col {n : Nat} {X Y : Nat → Int} {a : Int} : ∀ (k : Nat) (b : Int) (s t : S3), inv2 s t → inv2 (colF n X Y a k b s) (colF n X Y a k b t) ∧ s.2.2 ≤ (colF n X Y a k b s).2.2 ∧ ∀ c : Int, b ≤ c → c < b + k → (dep n X Y a c : Int) ≤ (colF n X Y a k b s).2.2 := by
  intro k
  induction k with
  | zero => intro b s t h; exact ⟨h, Int.le_refl _, fun c h1 h2 => by omega⟩
  | succ k ih =>
    intro b s t h
    obtain ⟨i1, i2, i3⟩ := inv_stp (n := n) (X := X) (Y := Y) (a := a) (b := b) h
    obtain ⟨j1, j2, j3⟩ := ih (b + 1) _ _ i1
    rw [colF, colF]
    refine ⟨j1, by omega, fun c h1 h2 => ?_⟩
    by_cases e : c = b
    · rw [e]; omega
    · exact j3 c (by omega) (by omega)
theorem inv_row {n : Nat} {X Y : Nat → Int} : ∀ (k : Nat) (a : Int) (s t : S3), inv2 s t → inv2 (rowF n X Y k a s) (rowF n X Y k a t) ∧ s.2.2 ≤ (rowF n X Y k a s).2.2 ∧ ∀ c : Int, a ≤ c → c < a + k → ∀ b : Int, -20 ≤ b → b ≤ 20 → (dep n X Y c b : Int) ≤ (rowF n X Y k a s).2.2 := by
  intro k
  induction k with
  | zero => intro a s t h; exact ⟨h, Int.le_refl _, fun c h1 h2 => by omega⟩
  | succ k ih =>
    intro a s t h
    obtain ⟨i1, i2, i3⟩ := inv_col (n := n) (X := X) (Y := Y) (a := a) 41 (-20) s t h
    obtain ⟨j1, j2, j3⟩ := ih (a + 1) _ _ i1
    rw [rowF, rowF]
    refine ⟨j1, by omega, fun c h1 h2 b q1 q2 => ?_⟩
    by_cases e : c = a
    · rw [e]
      have := i3 b q1 (by omega)
      omega
    · exact j3 c (by omega) (by omega) b q1 q2
theorem ev_deepest (K : Nat) (hK : 4000 ≤ K) (x_cloud_size : Int32) (x_cloud_x : Nat → Int32) (x_cloud_y : Nat → Int32) (x_cloud_colour : Nat → Int32) (x_cloud_load : Nat → Int32) (x_cloud_centreX : Int32) (x_cloud_centreY : Int32) (x_reader_tape : Nat → Int32) (x_reader_length : Int32) (x_reader_faultKind : Int32) (x_reader_faultPlace : Int32) (m_many : Int32) (m_px : Nat → Int32) (m_py : Nat → Int32) (m_colour : Nat → Int32) (m_load : Nat → Int32) (m_cx : Int32) (m_cy : Int32) (m_tape : Nat → Int32) (m_taped : Int32) (m_faultKind : Int32) (m_faultPlace : Int32) (x_depths_bestX : Int32) (x_depths_bestY : Int32) (x_depths_best : Int32) (x_depths_here : Int32) (x_depths_onLeft : Int32) (x_depths_onRight : Int32) (x_depths_ahead : Int32) (x_depths_behind : Int32) (x_depths_rowBound : Nat → Int32) (m_depthFound : Int32) (m_depthSet : Int32) (a1 : Int32) (hR : Rel x_cloud_size x_cloud_x x_cloud_y x_cloud_colour x_cloud_load x_cloud_centreX x_cloud_centreY x_reader_tape x_reader_length x_reader_faultKind x_reader_faultPlace m_many m_px m_py m_colour m_load m_cx m_cy m_tape m_taped m_faultKind m_faultPlace) : ∃ (r : Int64) (o_x_depths_bestX : Int32) (o_x_depths_bestY : Int32) (o_x_depths_best : Int32) (o_x_depths_here : Int32) (o_x_depths_onLeft : Int32) (o_x_depths_onRight : Int32) (o_x_depths_ahead : Int32) (o_x_depths_behind : Int32) (o_x_depths_rowBound : Nat → Int32) (o_m_depthFound : Int32) (o_m_depthSet : Int32), fX11_deepest K x_cloud_size x_cloud_x x_cloud_y x_depths_bestX x_depths_bestY x_depths_best x_depths_here x_depths_onLeft x_depths_onRight x_depths_ahead x_depths_behind x_depths_rowBound a1 = some (r, o_x_depths_bestX, o_x_depths_bestY, o_x_depths_best, o_x_depths_here, o_x_depths_onLeft, o_x_depths_onRight, o_x_depths_ahead, o_x_depths_behind, o_x_depths_rowBound) ∧ fX12_deepest K m_many m_depthFound m_depthSet m_px m_py a1 = some (r, o_m_depthFound, o_m_depthSet) := by
  obtain ⟨n, rfl, rfl, hXc, hXm⟩ := Rel_pts hR
  have hn := hXc.1
  have z0 : (a1 = 0) ↔ a1.toInt = 0 := a_eq (k := 0) ⟨by omega, by omega⟩
  have z1 : (a1 = 1) ↔ a1.toInt = 1 := a_eq (k := 1) ⟨by omega, by omega⟩
  unfold fX11_deepest fX12_deepest
  rw [in_spec, sm_b1]
  simp only [long_toInt, show (0 : Int64).toInt = 0 from rfl, show (2 : Int64).toInt = 2 from rfl, z0, z1, i_lt_lit (show ((0 : Int32)).toInt = 0 from rfl), i_le_lit (show ((2 : Int32)).toInt = 2 from rfl)]
  by_cases hn0 : n = 0
  · subst hn0
    have h00 : nI 0 = 0 := rfl
    rw [if_pos h00]
    refine ⟨_, _, _, _, _, _, _, _, _, _, m_depthFound, m_depthSet, rfl, ?_⟩
    by_cases c : 0 ≤ a1.toInt ∧ a1.toInt ≤ 2
    · rw [if_pos c, if_neg one_ne, if_pos h00]
    · rw [if_neg c, if_pos rfl]
  · have hne : ¬ nI n = 0 := fun q => hn0 ((nI_eqn (b := 0) (by omega) (by omega)).mp q)
    rw [if_neg hne, if_neg hne]
    by_cases c : 0 ≤ a1.toInt ∧ a1.toInt ≤ 2
    · rw [if_pos c, if_neg one_ne, if_neg (by omega), if_pos c.2]
      obtain ⟨rb', f1, f2⟩ := rowB K hK hn (v := x_cloud_y) (fun i hi => ⟨(hXc.2 i hi).2.1, (hXc.2 i hi).2.2.2⟩) K 41 (-20) x_depths_rowBound (by omega) (by omega) (by omega) (fun c q1 q2 => by omega)
      obtain ⟨bx', by', p1, p2, p3, p4, p5, g1, g2, g3⟩ := deepC K hK hXc f2 K 41 (-20) x_depths_bestX x_depths_bestY (0, 0, 0) x_depths_here x_depths_onLeft x_depths_onRight x_depths_ahead x_depths_behind (by omega) (by omega) (by omega) ⟨by decide, by decide⟩ (fun q => absurd q (by decide))
      obtain ⟨f', t', k1⟩ := deepMr K hK hXm K 41 (-20) (0, 0, -1) m_depthFound m_depthSet (by omega) (by omega) (by omega) ⟨by decide, by decide⟩
      obtain ⟨i1, i2, i3⟩ := inv_row (n := n) (X := fun i => (x_cloud_x i).toInt) (Y := fun i => (x_cloud_y i).toInt) 41 (-20) (0, 0, 0) (0, 0, -1) (Or.inr ⟨rfl, by decide⟩)
      obtain ⟨-, -, r1, r2⟩ := hXc.2 0 (by omega)
      have hp := dep_pos hXc (by omega)
      dsimp only at r1 r2 hp
      have i4 := i3 _ r1.1 (by omega) _ r2.1 r2.2
      have hpos : 0 < (rowF n (fun i => (x_cloud_x i).toInt) (fun i => (x_cloud_y i).toInt) 41 (-20) (0, 0, 0)).2.2 := by omega
      have same : rowF n (fun i => (x_cloud_x i).toInt) (fun i => (x_cloud_y i).toInt) 41 (-20) (0, 0, 0) = rowF n (fun i => (x_cloud_x i).toInt) (fun i => (x_cloud_y i).toInt) 41 (-20) (0, 0, -1) := by
        rcases i1 with i1 | i1
        · exact i1.2
        · omega
      obtain ⟨u1, u2⟩ := g3 hpos
      rw [u1, u2] at g1
      rw [← same] at k1
      generalize rowF n (fun i => (x_cloud_x i).toInt) (fun i => (x_cloud_y i).toInt) 41 (-20) (0, 0, 0) = s at *
      unfold fX1_findDeepest
      have f1' : fX1_findDeepest_L8 K (nI n) x_cloud_y K (-20) x_depths_rowBound = some rb' := f1
      have g1' : fX1_findDeepest_L44 K rb' (nI n) x_cloud_x x_cloud_y K (-20) x_depths_bestX x_depths_bestY 0 x_depths_here x_depths_onLeft x_depths_onRight x_depths_ahead x_depths_behind = some (iI s.1, iI s.2.1, iI s.2.2, p1, p2, p3, p4, p5) := g1
      have k1' : fX12_deepest_L34 K (nI n) m_px m_py K 0 0 (-1) (-20) m_depthFound m_depthSet = some (iI s.1, iI s.2.1, iI s.2.2, f', t') := k1
      rw [f1', sm_b1, g1', k1']
      simp only [b8, b9, b5, Option.bind_some]
      by_cases c0 : a1.toInt = 0
      · rw [if_pos c0, if_pos c0]
        exact ⟨_, _, _, _, _, _, _, _, _, _, _, _, rfl, rfl⟩
      · rw [if_neg c0, if_neg c0]
        by_cases c1 : a1.toInt = 1
        · rw [if_pos c1, if_pos c1]
          exact ⟨_, _, _, _, _, _, _, _, _, _, _, _, rfl, rfl⟩
        · rw [if_neg c1, if_neg c1]
          exact ⟨_, _, _, _, _, _, _, _, _, _, _, _, rfl, rfl⟩
    · rw [if_neg c, if_pos rfl]
      refine ⟨-9223372036854775808, x_depths_bestX, x_depths_bestY, x_depths_best, x_depths_here, x_depths_onLeft, x_depths_onRight, x_depths_ahead, x_depths_behind, x_depths_rowBound, m_depthFound, m_depthSet, ?_, rfl⟩
      by_cases c0 : a1.toInt < 0
      · rw [if_pos c0]
      · rw [if_neg c0, if_neg (by omega)]
