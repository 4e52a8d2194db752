--@ needs 3o.red2 2w.line
/-! steps, weight, left -/
theorem RS_k5 {n k : Nat} {up : Nat → Int} {low : Int} (h : RS n k up low) : k ≤ 5 := by
  obtain ⟨h1, h2, h3, h4, h5⟩ := h
  have := sum_cnt (W := up) (B := low) (by omega) (n := n) (fun p hp => ⟨h1 p hp, by rw [h2]; exact le_sum h1 p hp⟩)
  rw [← h2] at this
  rcases Nat.eq_zero_or_pos (cnt (alv up) n) with e | e
  · rw [e] at this; simp at this; omega
  · omega
theorem RS_cap {n k : Nat} {up : Nat → Int} {low : Int} (h : RS n k up low) : low ≤ 6228541440000000000 := by
  have := RS_k5 h
  have := pow_bd this
  have := h.2.2.2.1
  omega
theorem sm_b7 {α₁ α₂ α₃ α₄ α₅ α₆ α₇ β : Type} (a : α₁) (b : α₂) (c : α₃) (d : α₄) (e : α₅) (f : α₆) (g : α₇) (k : α₁ → α₂ → α₃ → α₄ → α₅ → α₆ → α₇ → Option β) : b7 (some (a, b, c, d, e, f, g)) k = k a b c d e f g := Eq.trans (rfl : b7 (some (a, b, c, d, e, f, g)) k = k a b c d e f g) rfl
theorem lim_le {A : Int32} {k : Nat} (hk : k < 1000) : A ≤ nI k ↔ A.toInt ≤ (k : Int) := by
  rw [Int32.le_iff_toInt_le, nI_toInt (by omega)]
theorem runJ (K : Nat) (hK : 4000 ≤ K) {n : Nat} {x y px py : Nat → Int32} {X Y : Nat → Int} (h : Pts n x y X Y) (h' : Pts n px py X Y) (A : Int32) : ∀ (fu k : Nat) (up : Nat → Int) (low : Int) (upA wA : Nat → Int64) (sz : Int32) (mem : Nat → Int32) (fac t : Nat → Int64), RS n k up low → (∀ p, p < n → upA p = jJ (up p)) → (∀ p, p < n → 0 < up p → wA p = jJ (up p)) → 6 - k < fu → (k : Int) ≤ A.toInt → ∃ k' up' low' upA' sz' mem' fac', RS n k' up' low' ∧ (∀ p, p < n → upA' p = jJ (up' p)) ∧ fX9_run_L2 K A (nI n) x y fu (nI k) (jJ low) (bP (alv up) n) upA sz mem fac = some (nI k', jJ low', bP (alv up') n, upA', sz', mem', fac') ∧ ((A.toInt = k' ∧ ∃ t' wA', fX12_laysSteps_L31 K A (nI n) px py fu (nI k) (jJ low) (bP (alv up) n) t wA = some (.inr (jJ low', bP (alv up') n, t', wA')) ∧ ∀ p, p < n → 0 < up' p → wA' p = jJ (up' p)) ∨ ((k' : Int) < A.toInt ∧ ∃ z, fX12_laysSteps_L31 K A (nI n) px py fu (nI k) (jJ low) (bP (alv up) n) t wA = some (.inl z))) := by
  intro fu
  induction fu with
  | zero => intro k up low upA wA sz mem fac t h1 h2 h3 h4; omega
  | succ fu ih =>
    intro k up low upA wA sz mem fac t h1 h2 h3 h4 h5
    have hk5 := RS_k5 h1
    rw [fX9_run_L2, fX12_laysSteps_L31]
    simp only [lim_le (A := A) (show k < 1000 by omega)]
    by_cases e : A.toInt ≤ (k : Int)
    · rw [if_pos e, if_pos e]
      exact ⟨k, up, low, upA, sz, mem, fac, h1, h2, rfl, Or.inl ⟨by omega, t, wA, rfl, h3⟩⟩
    · rw [if_neg e, if_neg e, if_neg (show ¬ (6 : Int32) ≤ nI k from (nI_ge (show k < 6 by omega) (by decide) : ¬ nI 6 ≤ nI k))]
      rcases stepJ K hK h h' h1 h2 h3 sz mem fac t with ⟨sz1, mem1, fac1, t1, e1, e2⟩ | ⟨hk4, up', low', sz1, mem1, fac1, b, upA', t1, wA', R', e1, e2, e3, e4, e5, e6⟩
      · rw [e1, e2, sm_b4, sm_b5, if_pos rfl, if_pos rfl]
        exact ⟨k, up, low, upA, sz1, mem1, fac1, h1, h2, rfl, Or.inr ⟨by omega, _, rfl⟩⟩
      · rw [e1, e5, sm_b4, sm_b5, if_neg one_ne, if_neg one_ne, e2, sm_b1, e3, sm_b3, xl_e, xl_e, nI_1]
        exact ih (k + 1) up' low' upA' wA' sz1 mem1 fac1 t1 R' e4 e6 (by omega) (by omega)
theorem stpJ (K : Nat) (hK : 4000 ≤ K) {n : Nat} {x y px py : Nat → Int32} {X Y : Nat → Int} (h : Pts n x y X Y) (h' : Pts n px py X Y) : ∀ (fu k : Nat) (up : Nat → Int) (low : Int) (upA wA : Nat → Int64) (sz : Int32) (mem : Nat → Int32) (fac t : Nat → Int64), RS n k up low → (∀ p, p < n → upA p = jJ (up p)) → (∀ p, p < n → 0 < up p → wA p = jJ (up p)) → 6 - k < fu → ∃ r c1 c2 c3 c4 c5 c6 m1 m2 m3 m4, fX9_run_L2 K 6 (nI n) x y fu (nI k) (jJ low) (bP (alv up) n) upA sz mem fac = some (r, c1, c2, c3, c4, c5, c6) ∧ fX12_steps_L31 K (nI n) px py fu (nI k) (jJ low) (bP (alv up) n) t wA = some (r, m1, m2, m3, m4) := by
  intro fu
  induction fu with
  | zero => intro k up low upA wA sz mem fac t h1 h2 h3 h4; omega
  | succ fu ih =>
    intro k up low upA wA sz mem fac t h1 h2 h3 h4
    have hk5 := RS_k5 h1
    rw [fX9_run_L2, fX12_steps_L31, if_neg (show ¬ (6 : Int32) ≤ nI k from (nI_ge (show k < 6 by omega) (by decide) : ¬ nI 6 ≤ nI k)), if_neg (show ¬ (6 : Int32) ≤ nI k from (nI_ge (show k < 6 by omega) (by decide) : ¬ nI 6 ≤ nI k))]
    rcases stepJ K hK h h' h1 h2 h3 sz mem fac t with ⟨sz1, mem1, fac1, t1, e1, e2⟩ | ⟨hk4, up', low', sz1, mem1, fac1, b, upA', t1, wA', R', e1, e2, e3, e4, e5, e6⟩
    · rw [e1, e2, sm_b4, sm_b5, if_pos rfl, if_pos rfl]
      exact ⟨_, _, _, _, _, _, _, _, _, _, _, rfl, rfl⟩
    · rw [e1, e5, sm_b4, sm_b5, if_neg one_ne, if_neg one_ne, e2, sm_b1, e3, sm_b3, xl_e, xl_e, nI_1]
      exact ih (k + 1) up' low' upA' wA' sz1 mem1 fac1 t1 R' e4 e6 (by omega)
theorem begL (K : Nat) {n : Nat} (hn : n ≤ 24) {ld : Nat → Int32} : ∀ (fu i : Nat) (arr : Nat → Int64), i ≤ n → n - i < fu → (∀ j, j < i → arr j = jJ (ld j).toInt) → ∃ arr', fX9_begin_L40 K (nI n) ld fu (nI i) (jJ (sumF (fun j => (ld j).toInt) i)) arr = some (jJ (sumF (fun j => (ld j).toInt) n), arr') ∧ ∀ j, j < n → arr' j = jJ (ld j).toInt := by
  intro fu
  induction fu with
  | zero => intro i arr h1 h2; omega
  | succ fu ih =>
    intro i arr h1 h2 h3
    rw [fX9_begin_L40]
    by_cases hi : i = n
    · subst hi
      rw [if_pos (nI_le (Nat.le_refl i) (by omega))]
      exact ⟨arr, rfl, h3⟩
    · have hlt : i < n := by omega
      rw [if_neg (nI_ge hlt (by omega))]
      simp only [gd_t (inb_nI (show i < 24 by omega) (by decide)), nI_clamp (show i < 2 ^ 31 by omega), xl_e, nI_1, long_iI, jJ_add]
      refine ih (i + 1) _ (by omega) (by omega) (fun j hj => ?_)
      by_cases e : j = i
      · rw [e, updL_at]
      · rw [updL_ne e]; exact h3 j (by omega)
theorem begM (K : Nat) (n : Int32) (ld : Nat → Int32) : ∀ (fu : Nat) (i : Int32) (a : Int64) (arr : Nat → Int64), fX12_laysWeights_L15 K n ld fu i a arr = fX9_begin_L40 K n ld fu i a arr := by
  intro fu
  induction fu with
  | zero => intro i a arr; rfl
  | succ fu ih =>
    intro i a arr
    rw [fX12_laysWeights_L15, fX9_begin_L40]
    simp only [ih]
theorem sumF_ext {f g : Nat → Int} {n : Nat} (h : ∀ i, i < n → f i = g i) : sumF f n = sumF g n := sumF_congr h
/-- both begin alike -/
theorem begB (K : Nat) (hK : 4000 ≤ K) {n : Nat} (hn : n ≤ 24) {ld mld : Nat → Int32} (hm : ∀ i, i < n → mld i = ld i) (hr : ∀ i, i < n → 0 ≤ (ld i).toInt ∧ (ld i).toInt ≤ 99) (lo : Int64) (al : Int32) (upA : Nat → Int64) : (bP (alv (fun i => (ld i).toInt)) n = 0 ∧ ∃ z1 z2 z3, fX9_begin K lo al upA (nI n) ld = some (-2, z1, z2, z3)) ∨ (¬ bP (alv (fun i => (ld i).toInt)) n = 0 ∧ 6 < cnt (alv (fun i => (ld i).toInt)) n ∧ ∃ z1 z2 z3, fX9_begin K lo al upA (nI n) ld = some (-5, z1, z2, z3)) ∨ (¬ bP (alv (fun i => (ld i).toInt)) n = 0 ∧ cnt (alv (fun i => (ld i).toInt)) n ≤ 6 ∧ ∃ up low upA', RS n 0 up low ∧ fX9_begin K lo al upA (nI n) ld = some (0, jJ low, bP (alv up) n, upA') ∧ (∀ p, p < n → upA' p = jJ (up p)) ∧ ∀ (wa : Int64) (ls : Int32) (wA : Nat → Int64), ∃ wA', fX12_laysWeights K (nI n) wa ls mld wA = some (jJ low, bP (alv up) n, wA') ∧ ∀ p, p < n → 0 < up p → wA' p = jJ (up p)) := by
  obtain ⟨d1, d2⟩ := ldB K n hK hn ld mld hm
  have d1' : fX0_bitsLoaded K (nI n) ld = some (bP (alv (fun i => (ld i).toInt)) n) := d1
  have d2' : fX12_loaded K (nI n) mld = some (bP (alv (fun i => (ld i).toInt)) n) := d2
  have hc := cnt_le (alv (fun i => (ld i).toInt)) n
  unfold fX9_begin
  rw [d1', sm_b1]
  by_cases z : bP (alv (fun i => (ld i).toInt)) n = 0
  · rw [if_pos z]
    exact Or.inl ⟨z, _, _, _, rfl⟩
  · rw [if_neg z, bP_b1 K _ hn]
    right
    by_cases c : cnt (alv (fun i => (ld i).toInt)) n ≤ 6
    · right
      rw [if_pos (show nI (cnt (alv (fun i => (ld i).toInt)) n) ≤ 6 from (nI_lei (by omega) (e := 6) ⟨by omega, by omega⟩).mpr (by omega))]
      obtain ⟨arr, f1, f2⟩ := begL K hn (ld := ld) K 0 upA (by omega) (by omega) (fun j hj => by omega)
      obtain ⟨p0, p1⟩ := sumF_0 (f := fun j => (ld j).toInt) (k := n) (fun i hi => (hr i hi).1)
      have hs := sum_cnt (W := fun j => (ld j).toInt) (B := 99) (by omega) (n := n) hr
      have hpos : 0 < sumF (fun j => (ld j).toInt) n := by
        rcases Int.lt_or_le 0 (sumF (fun j => (ld j).toInt) n) with e | e
        · exact e
        · exfalso
          apply z
          rw [bP_0 _ hn]
          intro i hi
          have := p1.mp (by omega) i hi
          exact decide_eq_false (by show ¬ 0 < (ld i).toInt; omega)
      refine ⟨z, c, fun j => (ld j).toInt, sumF (fun j => (ld j).toInt) n, arr, ⟨fun p hp => (hr p hp).1, rfl, hpos, by rw [Int.pow_zero]; omega, by omega⟩, ?_, f2, fun wa ls wA => ?_⟩
      · rw [show (0 : Int32) = nI 0 from rfl, show (0 : Int64) = jJ (sumF (fun j => (ld j).toInt) 0) from rfl, f1]
        rfl
      · obtain ⟨arr2, g1, g2⟩ := begL K hn (ld := mld) K 0 wA (by omega) (by omega) (fun j hj => by omega)
        refine ⟨arr2, ?_, fun p hp _ => by rw [g2 p hp, hm p hp]⟩
        unfold fX12_laysWeights
        rw [d2', sm_b1, begM, show (0 : Int32) = nI 0 from rfl, show (0 : Int64) = jJ (sumF (fun j => (mld j).toInt) 0) from rfl, g1, sm_b2, sumF_ext (g := fun j => (ld j).toInt) (fun i hi => by rw [hm i hi])]
    · left
      rw [if_neg (show ¬ nI (cnt (alv (fun i => (ld i).toInt)) n) ≤ 6 from fun s => c (by have := (nI_lei (by omega) (e := 6) ⟨by omega, by omega⟩).mp s; omega))]
      exact ⟨z, by omega, _, _, _, rfl⟩
theorem ev_steps (K : Nat) (hK : 4000 ≤ K) (x_cloud_size : Int32) (x_cloud_x : Nat → Int32) (x_cloud_y : Nat → Int32) (x_cloud_colour : Nat → Int32) (x_cloud_load : Nat → Int32) (x_cloud_centreX : Int32) (x_cloud_centreY : Int32) (x_reader_tape : Nat → Int32) (x_reader_length : Int32) (x_reader_faultKind : Int32) (x_reader_faultPlace : Int32) (m_many : Int32) (m_px : Nat → Int32) (m_py : Nat → Int32) (m_colour : Nat → Int32) (m_load : Nat → Int32) (m_cx : Int32) (m_cy : Int32) (m_tape : Nat → Int32) (m_taped : Int32) (m_faultKind : Int32) (m_faultPlace : Int32) (x_reducer_lower : Int64) (x_reducer_alive : Int32) (x_reducer_up : Nat → Int64) (x_reducer_tied_size : Int32) (x_reducer_tied_member : Nat → Int32) (x_reducer_tied_factor : Nat → Int64) (m_weightAll : Int64) (m_leftSet : Int32) (m_tie : Nat → Int64) (m_weight : Nat → Int64) (hR : Rel x_cloud_size x_cloud_x x_cloud_y x_cloud_colour x_cloud_load x_cloud_centreX x_cloud_centreY x_reader_tape x_reader_length x_reader_faultKind x_reader_faultPlace m_many m_px m_py m_colour m_load m_cx m_cy m_tape m_taped m_faultKind m_faultPlace) : ∃ (r : Int32) (o_x_reducer_lower : Int64) (o_x_reducer_alive : Int32) (o_x_reducer_up : Nat → Int64) (o_x_reducer_tied_size : Int32) (o_x_reducer_tied_member : Nat → Int32) (o_x_reducer_tied_factor : Nat → Int64) (o_m_weightAll : Int64) (o_m_leftSet : Int32) (o_m_tie : Nat → Int64) (o_m_weight : Nat → Int64), fX11_steps K x_cloud_size x_cloud_x x_cloud_y x_cloud_load x_reducer_lower x_reducer_alive x_reducer_up x_reducer_tied_size x_reducer_tied_member x_reducer_tied_factor = some (r, o_x_reducer_lower, o_x_reducer_alive, o_x_reducer_up, o_x_reducer_tied_size, o_x_reducer_tied_member, o_x_reducer_tied_factor) ∧ fX12_steps K m_many m_weightAll m_leftSet m_px m_py m_load m_tie m_weight = some (r, o_m_weightAll, o_m_leftSet, o_m_tie, o_m_weight) := by
  obtain ⟨n, rfl, rfl, hXc, hXm⟩ := Rel_pts hR
  obtain ⟨⟨n', hn', en, -, hpt⟩, -⟩ := hR
  have hn := hXc.1
  have hnn : n = n' := (nI_eqn (by omega) (by omega)).mp en
  subst hnn
  have hld : ∀ i, i < n → m_load i = x_cloud_load i := fun i hi => (hpt i hi).1.2.2.2
  have hlr : ∀ i, i < n → 0 ≤ (x_cloud_load i).toInt ∧ (x_cloud_load i).toInt ≤ 99 := fun i hi => (hpt i hi).2.2.2.2
  have d2' : fX12_loaded K (nI n) m_load = some (bP (alv (fun i => (x_cloud_load i).toInt)) n) := (ldB K n hK hn x_cloud_load m_load hld).2
  have hc := cnt_le (alv (fun i => (x_cloud_load i).toInt)) n
  unfold fX11_steps fX12_steps
  rw [d2', sm_b1]
  rcases begB K hK hn hld hlr x_reducer_lower x_reducer_alive x_reducer_up with ⟨z, z1, z2, z3, e⟩ | ⟨z, c, z1, z2, z3, e⟩ | ⟨z, c, up, low, upA', R, e, e2, e3⟩
  · rw [e, sm_b4, if_neg (show ¬ (-2 : Int32) = 0 by decide), if_pos z]
    exact ⟨_, _, _, _, _, _, _, _, _, _, _, rfl, rfl⟩
  · rw [e, sm_b4, if_neg (show ¬ (-5 : Int32) = 0 by decide), if_neg z, sm_b1, bP_b1 K _ hn, if_neg (show ¬ nI (cnt (alv (fun i => (x_cloud_load i).toInt)) n) ≤ 6 from fun s => by have := (nI_lei (by omega) (e := 6) ⟨by omega, by omega⟩).mp s; omega)]
    exact ⟨_, _, _, _, _, _, _, _, _, _, _, rfl, rfl⟩
  · obtain ⟨wA', g1, g2⟩ := e3 m_weightAll m_leftSet m_weight
    obtain ⟨r, c1, c2, c3, c4, c5, c6, m1, m2, m3, m4, k1, k2⟩ := stpJ K hK hXc hXm K 0 up low upA' wA' x_reducer_tied_size x_reducer_tied_member x_reducer_tied_factor m_tie R e2 g2 (by omega)
    rw [e, sm_b4, if_pos rfl, if_neg z, sm_b1, bP_b1 K _ hn, if_pos (show nI (cnt (alv (fun i => (x_cloud_load i).toInt)) n) ≤ 6 from (nI_lei (by omega) (e := 6) ⟨by omega, by omega⟩).mpr (by omega)), g1, sm_b3]
    unfold fX9_run
    rw [show nI 0 = (0 : Int32) from rfl] at k1 k2
    rw [k1, k2]
    exact ⟨_, _, _, _, _, _, _, _, _, _, _, rfl, rfl⟩
theorem nn_toInt {a : Int32} (h : ¬ a < 0) : 0 ≤ a.toInt := by
  rw [Int32.lt_iff_toInt_lt] at h
  have : (0 : Int32).toInt = 0 := rfl
  omega
theorem eq_lim {A : Int32} {k : Nat} (hk : k < 1000) : nI k = A ↔ A.toInt = (k : Int) := by
  rw [← Int32.toInt_inj, nI_toInt (by omega)]
  exact ⟨fun q => q.symm, fun q => q.symm⟩
/-- laysSteps, and the class's run -/
theorem stsM (K : Nat) (hK : 4000 ≤ K) {n : Nat} {x y px py : Nat → Int32} {X Y : Nat → Int} (h : Pts n x y X Y) (h' : Pts n px py X Y) {ld mld : Nat → Int32} (hm : ∀ i, i < n → mld i = ld i) (hr : ∀ i, i < n → 0 ≤ (ld i).toInt ∧ (ld i).toInt ≤ 99) {A : Int32} (hA : ¬ A < 0) (lo : Int64) (al : Int32) (upA : Nat → Int64) (sz : Int32) (mem : Nat → Int32) (fac : Nat → Int64) (wa : Int64) (ls : Int32) (t wA : Nat → Int64) : (bP (alv (fun i => (ld i).toInt)) n = 0 ∧ (∃ z1 z2 z3, fX9_begin K lo al upA (nI n) ld = some (-2, z1, z2, z3)) ∧ ∃ z4 z5 z6 z7, fX12_laysSteps K (nI n) wa ls px py mld t wA A = some (0, z4, z5, z6, z7)) ∨ (6 < cnt (alv (fun i => (ld i).toInt)) n ∧ (∃ z1 z2 z3, fX9_begin K lo al upA (nI n) ld = some (-5, z1, z2, z3)) ∧ ∃ z4 z5 z6 z7, fX12_laysSteps K (nI n) wa ls px py mld t wA A = some (0, z4, z5, z6, z7)) ∨ (cnt (alv (fun i => (ld i).toInt)) n ≤ 6 ∧ ∃ low0 al0 up0 k' up' low' upA' sz' mem' fac', fX9_begin K lo al upA (nI n) ld = some (0, low0, al0, up0) ∧ RS n k' up' low' ∧ (∀ p, p < n → upA' p = jJ (up' p)) ∧ fX9_run K low0 al0 up0 sz mem fac (nI n) x y A = some (nI k', jJ low', bP (alv up') n, upA', sz', mem', fac') ∧ ((A.toInt = k' ∧ ∃ t' wA', fX12_laysSteps K (nI n) wa ls px py mld t wA A = some (1, jJ low', bP (alv up') n, t', wA') ∧ ∀ p, p < n → 0 < up' p → wA' p = jJ (up' p)) ∨ ((k' : Int) < A.toInt ∧ ∃ z4 z5 z6 z7, fX12_laysSteps K (nI n) wa ls px py mld t wA A = some (0, z4, z5, z6, z7)))) := by
  have hn := h.1
  have d2' : fX12_loaded K (nI n) mld = some (bP (alv (fun i => (ld i).toInt)) n) := (ldB K n hK hn ld mld hm).2
  have hc := cnt_le (alv (fun i => (ld i).toInt)) n
  unfold fX12_laysSteps
  rw [if_neg hA, d2', sm_b1]
  rcases begB K hK hn hm hr lo al upA with ⟨z, z1, z2, z3, e⟩ | ⟨z, c, z1, z2, z3, e⟩ | ⟨z, c, up, low, upA', R, e, e2, e3⟩
  · rw [if_pos z]
    exact Or.inl ⟨z, ⟨_, _, _, e⟩, _, _, _, _, rfl⟩
  · rw [if_neg z, sm_b1, bP_b1 K _ hn, if_neg (show ¬ nI (cnt (alv (fun i => (ld i).toInt)) n) ≤ 6 from fun s => by have := (nI_lei (by omega) (e := 6) ⟨by omega, by omega⟩).mp s; omega)]
    exact Or.inr (Or.inl ⟨c, ⟨_, _, _, e⟩, _, _, _, _, rfl⟩)
  · rw [if_neg z, sm_b1, bP_b1 K _ hn, if_pos (show nI (cnt (alv (fun i => (ld i).toInt)) n) ≤ 6 from (nI_lei (by omega) (e := 6) ⟨by omega, by omega⟩).mpr (by omega))]
    obtain ⟨wA', g1, g2⟩ := e3 wa ls wA
    rw [g1, sm_b3]
    refine Or.inr (Or.inr ⟨c, ?_⟩)
    obtain ⟨k', up', low', upB, sz', mem', fac', R', r1, r2, r3⟩ := runJ K hK h h' A K 0 up low upA' wA' sz mem fac t R e2 g2 (by omega) (by have := nn_toInt hA; omega)
    rw [show nI 0 = (0 : Int32) from rfl] at r2 r3
    refine ⟨jJ low, bP (alv up) n, upA', k', up', low', upB, sz', mem', fac', e, R', r1, ?_, ?_⟩
    · unfold fX9_run
      rw [r2]; rfl
    · rcases r3 with ⟨q1, t', wB, q2, q3⟩ | ⟨q1, z, q2⟩
      · rw [q2]
        exact Or.inl ⟨q1, t', wB, rfl, q3⟩
      · rw [q2]
        exact Or.inr ⟨q1, _, _, _, _, rfl⟩
theorem ev_left (K : Nat) (hK : 4000 ≤ K) (x_cloud_size : Int32) (x_cloud_x : Nat → Int32) (x_cloud_y : Nat → Int32) (x_cloud_colour : Nat → Int32) (x_cloud_load : Nat → Int32) (x_cloud_centreX : Int32) (x_cloud_centreY : Int32) (x_reader_tape : Nat → Int32) (x_reader_length : Int32) (x_reader_faultKind : Int32) (x_reader_faultPlace : Int32) (m_many : Int32) (m_px : Nat → Int32) (m_py : Nat → Int32) (m_colour : Nat → Int32) (m_load : Nat → Int32) (m_cx : Int32) (m_cy : Int32) (m_tape : Nat → Int32) (m_taped : Int32) (m_faultKind : Int32) (m_faultPlace : Int32) (x_reducer_lower : Int64) (x_reducer_alive : Int32) (x_reducer_up : Nat → Int64) (x_reducer_tied_size : Int32) (x_reducer_tied_member : Nat → Int32) (x_reducer_tied_factor : Nat → Int64) (m_weightAll : Int64) (m_leftSet : Int32) (m_tie : Nat → Int64) (m_weight : Nat → Int64) (a1 : Int32) (hR : Rel x_cloud_size x_cloud_x x_cloud_y x_cloud_colour x_cloud_load x_cloud_centreX x_cloud_centreY x_reader_tape x_reader_length x_reader_faultKind x_reader_faultPlace m_many m_px m_py m_colour m_load m_cx m_cy m_tape m_taped m_faultKind m_faultPlace) : ∃ (r : Int32) (o_x_reducer_lower : Int64) (o_x_reducer_alive : Int32) (o_x_reducer_up : Nat → Int64) (o_x_reducer_tied_size : Int32) (o_x_reducer_tied_member : Nat → Int32) (o_x_reducer_tied_factor : Nat → Int64) (o_m_weightAll : Int64) (o_m_leftSet : Int32) (o_m_tie : Nat → Int64) (o_m_weight : Nat → Int64), fX11_left K x_cloud_size x_cloud_x x_cloud_y x_cloud_load x_reducer_lower x_reducer_alive x_reducer_up x_reducer_tied_size x_reducer_tied_member x_reducer_tied_factor a1 = some (r, o_x_reducer_lower, o_x_reducer_alive, o_x_reducer_up, o_x_reducer_tied_size, o_x_reducer_tied_member, o_x_reducer_tied_factor) ∧ fX12_left K m_many m_weightAll m_leftSet m_px m_py m_load m_tie m_weight a1 = some (r, o_m_weightAll, o_m_leftSet, o_m_tie, o_m_weight) := by
  obtain ⟨n, rfl, rfl, hXc, hXm⟩ := Rel_pts hR
  obtain ⟨⟨n', hn', en, -, hpt⟩, -⟩ := hR
  have hn := hXc.1
  have hnn : n = n' := (nI_eqn (by omega) (by omega)).mp en
  subst hnn
  have hld : ∀ i, i < n → m_load i = x_cloud_load i := fun i hi => (hpt i hi).1.2.2.2
  have hlr : ∀ i, i < n → 0 ≤ (x_cloud_load i).toInt ∧ (x_cloud_load i).toInt ≤ 99 := fun i hi => (hpt i hi).2.2.2.2
  have d2' : fX12_loaded K (nI n) m_load = some (bP (alv (fun i => (x_cloud_load i).toInt)) n) := (ldB K n hK hn x_cloud_load m_load hld).2
  have hc := cnt_le (alv (fun i => (x_cloud_load i).toInt)) n
  unfold fX11_left fX12_left
  rw [jn_e]
  by_cases k0 : a1 < 0
  · rw [if_neg (show ¬ (0 : Int32) ≤ a1 by rw [Int32.le_iff_toInt_le]; rw [Int32.lt_iff_toInt_lt] at k0; omega), if_pos k0]
    unfold fX12_laysSteps
    rw [if_pos k0, sm_b5, if_pos rfl]
    exact ⟨_, _, _, _, _, _, _, _, _, _, _, rfl, rfl⟩
  · rw [if_pos (show (0 : Int32) ≤ a1 by rw [Int32.le_iff_toInt_le]; rw [Int32.lt_iff_toInt_lt] at k0; omega), if_neg k0, d2', sm_b1, bP_b1 K _ hn]
    rcases stsM K hK hXc hXm hld hlr k0 x_reducer_lower x_reducer_alive x_reducer_up x_reducer_tied_size x_reducer_tied_member x_reducer_tied_factor m_weightAll m_leftSet m_tie m_weight with ⟨z, ⟨z1, z2, z3, e1⟩, z4, z5, z6, z7, e2⟩ | ⟨c, ⟨z1, z2, z3, e1⟩, z4, z5, z6, z7, e2⟩ | ⟨c, low0, al0, up0, k', up', low', upA', sz', mem', fac', e1, R', r1, r2, r3⟩
    · rw [e1, e2, sm_b4, if_neg (show ¬ (-2 : Int32) = 0 by decide), if_pos (show nI (cnt (alv (fun i => (x_cloud_load i).toInt)) n) ≤ 6 from by
        rw [show cnt (alv (fun i => (x_cloud_load i).toInt)) n = 0 from cnt_0.mpr ((bP_0 _ hn).mp z)]; decide), sm_b5, if_pos rfl]
      exact ⟨_, _, _, _, _, _, _, _, _, _, _, rfl, rfl⟩
    · rw [e1, sm_b4, if_neg (show ¬ (-5 : Int32) = 0 by decide), if_neg (show ¬ nI (cnt (alv (fun i => (x_cloud_load i).toInt)) n) ≤ 6 from fun s => by have := (nI_lei (by omega) (e := 6) ⟨by omega, by omega⟩).mp s; omega)]
      exact ⟨_, _, _, _, _, _, _, _, _, _, _, rfl, rfl⟩
    · have hk5 := RS_k5 R'
      rw [e1, sm_b4, if_pos rfl, r2, sm_b7, if_pos (show nI (cnt (alv (fun i => (x_cloud_load i).toInt)) n) ≤ 6 from (nI_lei (by omega) (e := 6) ⟨by omega, by omega⟩).mpr (by omega))]
      rcases r3 with ⟨q1, t', wB, q2, q3⟩ | ⟨q1, z4, z5, z6, z7, q2⟩
      · rw [if_pos ((eq_lim (by omega)).mpr q1), q2, sm_b5, if_neg one_ne]
        exact ⟨_, _, _, _, _, _, _, _, _, _, _, rfl, rfl⟩
      · rw [if_neg (fun s => by have := (eq_lim (by omega)).mp s; omega), q2, sm_b5, if_pos rfl]
        exact ⟨_, _, _, _, _, _, _, _, _, _, _, rfl, rfl⟩
theorem ev_weight (K : Nat) (hK : 4000 ≤ K) (x_cloud_size : Int32) (x_cloud_x : Nat → Int32) (x_cloud_y : Nat → Int32) (x_cloud_colour : Nat → Int32) (x_cloud_load : Nat → Int32) (x_cloud_centreX : Int32) (x_cloud_centreY : Int32) (x_reader_tape : Nat → Int32) (x_reader_length : Int32) (x_reader_faultKind : Int32) (x_reader_faultPlace : Int32) (m_many : Int32) (m_px : Nat → Int32) (m_py : Nat → Int32) (m_colour : Nat → Int32) (m_load : Nat → Int32) (m_cx : Int32) (m_cy : Int32) (m_tape : Nat → Int32) (m_taped : Int32) (m_faultKind : Int32) (m_faultPlace : Int32) (x_reducer_lower : Int64) (x_reducer_alive : Int32) (x_reducer_up : Nat → Int64) (x_reducer_tied_size : Int32) (x_reducer_tied_member : Nat → Int32) (x_reducer_tied_factor : Nat → Int64) (m_weightAll : Int64) (m_leftSet : Int32) (m_tie : Nat → Int64) (m_weight : Nat → Int64) (a1 : Int32) (a2 : Int32) (a3 : Int32) (hR : Rel x_cloud_size x_cloud_x x_cloud_y x_cloud_colour x_cloud_load x_cloud_centreX x_cloud_centreY x_reader_tape x_reader_length x_reader_faultKind x_reader_faultPlace m_many m_px m_py m_colour m_load m_cx m_cy m_tape m_taped m_faultKind m_faultPlace) : ∃ (r : Int64) (o_x_reducer_lower : Int64) (o_x_reducer_alive : Int32) (o_x_reducer_up : Nat → Int64) (o_x_reducer_tied_size : Int32) (o_x_reducer_tied_member : Nat → Int32) (o_x_reducer_tied_factor : Nat → Int64) (o_m_weightAll : Int64) (o_m_leftSet : Int32) (o_m_tie : Nat → Int64) (o_m_weight : Nat → Int64), fX11_weight K x_cloud_size x_cloud_x x_cloud_y x_cloud_load x_reducer_lower x_reducer_alive x_reducer_up x_reducer_tied_size x_reducer_tied_member x_reducer_tied_factor a1 a2 a3 = some (r, o_x_reducer_lower, o_x_reducer_alive, o_x_reducer_up, o_x_reducer_tied_size, o_x_reducer_tied_member, o_x_reducer_tied_factor) ∧ fX12_weight K m_many m_weightAll m_leftSet m_px m_py m_load m_tie m_weight a1 a2 a3 = some (r, o_m_weightAll, o_m_leftSet, o_m_tie, o_m_weight) := by
  obtain ⟨n, rfl, rfl, hXc, hXm⟩ := Rel_pts hR
  obtain ⟨⟨n', hn', en, -, hpt⟩, -⟩ := hR
  have hn := hXc.1
  have hnn : n = n' := (nI_eqn (by omega) (by omega)).mp en
  subst hnn
  have hld : ∀ i, i < n → m_load i = x_cloud_load i := fun i hi => (hpt i hi).1.2.2.2
  have hlr : ∀ i, i < n → 0 ≤ (x_cloud_load i).toInt ∧ (x_cloud_load i).toInt ≤ 99 := fun i hi => (hpt i hi).2.2.2.2
  have z0 : (a3 = 0) ↔ a3.toInt = 0 := a_eq (k := 0) ⟨by omega, by omega⟩
  have z1 : (a3 = 1) ↔ a3.toInt = 1 := a_eq (k := 1) ⟨by omega, by omega⟩
  unfold fX11_weight fX12_weight
  rcases has_c K n hn a1 with ⟨⟨j, hj, rfl⟩, d1, d2⟩ | ⟨-, d1, d2⟩
  · rw [d1, d2, sm_b1, sm_b1, if_neg one_ne, if_neg one_ne, in_spec, sm_b1]
    simp only [long_toInt, show (0 : Int64).toInt = 0 from rfl, show (1 : Int64).toInt = 1 from rfl, z0, z1]
    by_cases k0 : a2 < 0
    · rw [if_pos k0]
      by_cases w : 0 ≤ a3.toInt ∧ a3.toInt ≤ 1
      · rw [show (if 0 ≤ a3.toInt ∧ a3.toInt ≤ 1 then (1 : Int32) else 0) = 1 from if_pos w, if_neg one_ne]
        unfold fX12_laysSteps
        rw [if_pos k0, sm_b5, if_pos rfl]
        exact ⟨_, _, _, _, _, _, _, _, _, _, _, rfl, rfl⟩
      · rw [show (if 0 ≤ a3.toInt ∧ a3.toInt ≤ 1 then (1 : Int32) else 0) = 0 from if_neg w, if_pos rfl]
        exact ⟨_, _, _, _, _, _, _, _, _, _, _, rfl, rfl⟩
    · rw [if_neg k0]
      rcases stsM K hK hXc hXm hld hlr k0 x_reducer_lower x_reducer_alive x_reducer_up x_reducer_tied_size x_reducer_tied_member x_reducer_tied_factor m_weightAll m_leftSet m_tie m_weight with ⟨z, ⟨u1, u2, u3, e1⟩, z4, z5, z6, z7, e2⟩ | ⟨c, ⟨u1, u2, u3, e1⟩, z4, z5, z6, z7, e2⟩ | ⟨c, low0, al0, up0, k', up', low', upA', sz', mem', fac', e1, R', r1, r2, r3⟩
      · rw [e1, e2, sm_b4, if_neg (show ¬ (-2 : Int32) = 0 by decide), sm_b5, if_pos rfl]
        by_cases w : 0 ≤ a3.toInt ∧ a3.toInt ≤ 1
        · rw [show (if 0 ≤ a3.toInt ∧ a3.toInt ≤ 1 then (1 : Int32) else 0) = 1 from if_pos w, if_neg one_ne]
          exact ⟨_, _, _, _, _, _, _, _, _, _, _, rfl, rfl⟩
        · rw [show (if 0 ≤ a3.toInt ∧ a3.toInt ≤ 1 then (1 : Int32) else 0) = 0 from if_neg w, if_pos rfl]
          exact ⟨_, _, _, _, _, _, _, _, _, _, _, rfl, rfl⟩
      · rw [e1, e2, sm_b4, if_neg (show ¬ (-5 : Int32) = 0 by decide), sm_b5, if_pos rfl]
        by_cases w : 0 ≤ a3.toInt ∧ a3.toInt ≤ 1
        · rw [show (if 0 ≤ a3.toInt ∧ a3.toInt ≤ 1 then (1 : Int32) else 0) = 1 from if_pos w, if_neg one_ne]
          exact ⟨_, _, _, _, _, _, _, _, _, _, _, rfl, rfl⟩
        · rw [show (if 0 ≤ a3.toInt ∧ a3.toInt ≤ 1 then (1 : Int32) else 0) = 0 from if_neg w, if_pos rfl]
          exact ⟨_, _, _, _, _, _, _, _, _, _, _, rfl, rfl⟩
      · have hk5 := RS_k5 R'
        have hcap := RS_cap R'
        have hl0 := R'.2.2.1
        have hj0 := R'.1 j hj
        have hjl : up' j ≤ low' := by rw [R'.2.1]; exact le_sum R'.1 j hj
        rw [e1, sm_b4, if_pos rfl, r2, sm_b7]
        rcases r3 with ⟨q1, t', wB, q2, q3⟩ | ⟨q1, z4, z5, z6, z7, q2⟩
        · have hg := gcd_pos2 (a := up' j) (b := low') (by omega)
          have hgl := gcd_le (a := up' j) (b := low') hl0
          rw [if_pos ((eq_lim (by omega)).mpr q1), gd_t (inb_nI (show j < 24 by omega) (by decide)), nI_clamp (by omega), r1 j hj, xl_e, (gcd_spec K hK (up' j) low' (by omega) (by omega) (by omega) (by omega)).1, sm_b1, if_neg (jne hg (by omega)), gd_ne (jne hg (by omega)), gd_ne (jne hg (by omega))]
          by_cases w : 0 ≤ a3.toInt ∧ a3.toInt ≤ 1
          · rw [show (if 0 ≤ a3.toInt ∧ a3.toInt ≤ 1 then (1 : Int32) else 0) = 1 from if_pos w, if_neg one_ne, q2, sm_b5, if_neg one_ne, jn_e]
            have sel : (if ((bP (alv up') n >>> (nI j &&& 31)) &&& 1) = 1 then gd (inb (nI j) 24) ((fun (s_11 : Int64) => b1 (fX12_common K s_11 (jJ low')) (fun r_14 => if a3.toInt = 0 then gd (!decide (r_14 = 0)) (some ((s_11 / r_14), jJ low', bP (alv up') n, t', wB)) else gd (!decide (r_14 = 0)) (some ((jJ low' / r_14), jJ low', bP (alv up') n, t', wB)))) (wB j)) else (fun (s_11 : Int64) => b1 (fX12_common K s_11 (jJ low')) (fun r_14 => if a3.toInt = 0 then gd (!decide (r_14 = 0)) (some ((s_11 / r_14), jJ low', bP (alv up') n, t', wB)) else gd (!decide (r_14 = 0)) (some ((jJ low' / r_14), jJ low', bP (alv up') n, t', wB)))) 0) = b1 (fX12_common K (jJ (up' j)) (jJ low')) (fun r_14 => if a3.toInt = 0 then gd (!decide (r_14 = 0)) (some ((jJ (up' j) / r_14), jJ low', bP (alv up') n, t', wB)) else gd (!decide (r_14 = 0)) (some ((jJ low' / r_14), jJ low', bP (alv up') n, t', wB))) := by
              have hb1 := bit_one (bP (alv up') n) j (by omega)
              have hb2 := bP_bitS (alv up') hn hj
              by_cases q : 0 < up' j
              · rw [if_pos (hb1.mpr (hb2.mpr (decide_eq_true q))), gd_t (inb_nI (show j < 24 by omega) (by decide)), q3 j hj q]
              · rw [if_neg (fun s => q (of_decide_eq_true (hb2.mp (hb1.mp s)))), show up' j = 0 by omega]
                rfl
            rw [sel, (gcd_spec K hK (up' j) low' (by omega) (by omega) (by omega) (by omega)).2, sm_b1, gd_ne (jne hg (by omega)), gd_ne (jne hg (by omega))]
            by_cases w0 : a3.toInt = 0
            · rw [if_pos w0, if_pos w0]
              exact ⟨_, _, _, _, _, _, _, _, _, _, _, rfl, rfl⟩
            · rw [if_neg w0, if_neg w0, if_pos (by omega)]
              exact ⟨_, _, _, _, _, _, _, _, _, _, _, rfl, rfl⟩
          · rw [show (if 0 ≤ a3.toInt ∧ a3.toInt ≤ 1 then (1 : Int32) else 0) = 0 from if_neg w, if_pos rfl, if_neg (by omega), if_neg (by omega)]
            exact ⟨_, _, _, _, _, _, _, _, _, _, _, rfl, rfl⟩
        · rw [if_neg (fun s => by have := (eq_lim (by omega)).mp s; omega)]
          by_cases w : 0 ≤ a3.toInt ∧ a3.toInt ≤ 1
          · rw [show (if 0 ≤ a3.toInt ∧ a3.toInt ≤ 1 then (1 : Int32) else 0) = 1 from if_pos w, if_neg one_ne, q2, sm_b5, if_pos rfl]
            exact ⟨_, _, _, _, _, _, _, _, _, _, _, rfl, rfl⟩
          · rw [show (if 0 ≤ a3.toInt ∧ a3.toInt ≤ 1 then (1 : Int32) else 0) = 0 from if_neg w, if_pos rfl]
            exact ⟨_, _, _, _, _, _, _, _, _, _, _, rfl, rfl⟩
  · rw [d1, d2]
    exact ⟨_, _, _, _, _, _, _, _, _, _, _, rfl, rfl⟩
