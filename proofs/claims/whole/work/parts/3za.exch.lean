--@ needs 3z.swap3
/-! exchanges, one after the other -/
theorem lst_mem {col : Nat → Int32} {n : Nat} {c : Int32} {a : Nat} (ha : a < n) (hc : col a = c) : ∀ (d k : Nat), n - k = d → k ≤ a → a ∈ lst col n c k := by
  intro d
  induction d with
  | zero => intro k h1 h2; omega
  | succ d ih =>
    intro k h1 h2
    rw [lst_cons (by omega)]
    by_cases e : a = k
    · subst e
      rw [if_pos hc]; exact List.mem_cons_self
    · have := ih (k + 1) (by omega) (by omega)
      split
      · exact List.mem_cons_of_mem _ this
      · exact this
theorem R1_mem {col : Nat → Int32} {n : Nat} {t : N3} (ht : tIn n t) (hr : rbT col t) : t ∈ R1 col n 0 := by
  unfold R1 R2 R3
  refine List.mem_flatMap.mpr ⟨t.1, lst_mem ht.1 hr.1 n 0 (by omega) (by omega), ?_⟩
  refine List.mem_flatMap.mpr ⟨t.2.1, lst_mem ht.2.1 hr.2.1 n 0 (by omega) (by omega), ?_⟩
  exact List.mem_map.mpr ⟨t.2.2, lst_mem ht.2.2 hr.2.2 n 0 (by omega) (by omega), rfl⟩
theorem fil_lt {α : Type} {p q : α → Bool} : ∀ {l : List α}, (∀ x ∈ l, p x = true → q x = true) → (∃ x ∈ l, q x = true ∧ p x = false) → (l.filter p).length < (l.filter q).length := by
  intro l
  induction l with
  | nil => rintro - ⟨x, hx, -⟩; cases hx
  | cons a l ih =>
    intro h ⟨x, hx, h1, h2⟩
    have mono : (l.filter p).length ≤ (l.filter q).length := by
      clear ih hx
      have h' : ∀ x ∈ l, p x = true → q x = true := fun x hx => h x (List.mem_cons_of_mem _ hx)
      clear h
      induction l with
      | nil => exact Nat.le_refl _
      | cons b l ih =>
        have := ih (fun x hx => h' x (List.mem_cons_of_mem _ hx))
        have hb := h' b List.mem_cons_self
        rw [List.filter_cons, List.filter_cons]
        by_cases e : p b = true
        · rw [if_pos e, if_pos (hb e), List.length_cons, List.length_cons]; omega
        · rw [if_neg e]
          split
          · rw [List.length_cons]; omega
          · exact this
    rw [List.filter_cons, List.filter_cons]
    rcases List.mem_cons.mp hx with rfl | hx'
    · rw [if_pos h1, if_neg (by rw [h2]; decide), List.length_cons]; omega
    · have i1 := ih (fun x hx => h x (List.mem_cons_of_mem _ hx)) ⟨x, hx', h1, h2⟩
      by_cases e : p a = true
      · rw [if_pos e, if_pos (h a List.mem_cons_self e), List.length_cons, List.length_cons]; omega
      · rw [if_neg e]
        split
        · rw [List.length_cons]; omega
        · exact i1
/-- how many are nearer -/
def nrB (X Y : Nat → Int) (cx cy : Int) (t s : N3) : Bool := decide (D3 cx cy (zz X Y cx cy s) * ((zz X Y cx cy t).2.2 * (zz X Y cx cy t).2.2) < D3 cx cy (zz X Y cx cy t) * ((zz X Y cx cy s).2.2 * (zz X Y cx cy s).2.2))
def mu (col : Nat → Int32) (n : Nat) (X Y : Nat → Int) (cx cy : Int) (t : N3) : Nat := ((R1 col n 0).filter (nrB X Y cx cy t)).length
theorem mu_bd {col : Nat → Int32} {n : Nat} (hn : n ≤ 24) {X Y : Nat → Int} {cx cy : Int} {t : N3} (ht : tIn n t) (hr : rbT col t) : mu col n X Y cx cy t ≤ 511 := by
  have := fil_lt (p := nrB X Y cx cy t) (q := fun _ => true) (l := R1 col n 0) (fun _ _ _ => rfl) ⟨t, R1_mem ht hr, rfl, decide_eq_false (by omega)⟩
  have l := R1_len col hn
  have l2 := fil_len (fun _ => true) (R1 col n 0)
  unfold mu
  omega
theorem mu_lt {col : Nat → Int32} {n : Nat} {X Y : Nat → Int} {cx cy : Int} {t t' : N3} (ht : tIn n t') (hr : rbT col t') (h : lt3 cx cy (zz X Y cx cy t') (zz X Y cx cy t)) : mu col n X Y cx cy t' < mu col n X Y cx cy t := by
  unfold mu
  refine fil_lt (fun s hs hp => ?_) ⟨t', R1_mem ht hr, decide_eq_true h, decide_eq_false (by omega)⟩
  have hp' := of_decide_eq_true hp
  refine decide_eq_true ?_
  have sl := zz_L X Y cx cy s
  have tl := zz_L X Y cx cy t
  have tl' := zz_L X Y cx cy t'
  have a0 := Int.mul_pos (show 0 < (zz X Y cx cy s).2.2 by omega) (show 0 < (zz X Y cx cy s).2.2 by omega)
  have b0 := Int.mul_pos (show 0 < (zz X Y cx cy t).2.2 by omega) (show 0 < (zz X Y cx cy t).2.2 by omega)
  have c0 := Int.mul_pos (show 0 < (zz X Y cx cy t').2.2 by omega) (show 0 < (zz X Y cx cy t').2.2 by omega)
  unfold lt3 at h
  generalize D3 cx cy (zz X Y cx cy s) = ds at *
  generalize D3 cx cy (zz X Y cx cy t) = dt at *
  generalize D3 cx cy (zz X Y cx cy t') = dt' at *
  generalize (zz X Y cx cy s).2.2 * (zz X Y cx cy s).2.2 = ls at *
  generalize (zz X Y cx cy t).2.2 * (zz X Y cx cy t).2.2 = lt at *
  generalize (zz X Y cx cy t').2.2 * (zz X Y cx cy t').2.2 = lt' at *
  -- ds lt' < dt' ls, dt' lt < dt lt'
  have h1 := Int.mul_lt_mul_of_pos_right hp' b0
  have h2 := Int.mul_lt_mul_of_pos_right h a0
  have h3 : lt' * (ds * lt) < lt' * (dt * ls) := by grind
  exact Int.lt_of_mul_lt_mul_left h3 (by omega)
theorem runX (K : Nat) (hK : 4000 ≤ K) {n : Nat} {x y px py : Nat → Int32} {X Y : Nat → Int} (h : Pts n x y X Y) (h' : Pts n px py X Y) {col mcol : Nat → Int32} (hcol : ∀ i, i < n → mcol i = col i) {cx cy : Int} (hcx : -20 ≤ cx ∧ cx ≤ 20) (hcy : -20 ≤ cy ∧ cy ≤ 20) (A : Int32) : ∀ (fu k : Nat) (t : N3) (gone sd : Int32) (ch : Nat → Int32) (nx ny nl ns nsl : Int64) (fx fy : Int32) (rm : Int32) (p q b fa fb : Int64) (hd : Int32) (cor cors row tr : Nat → Int32), tIn n t → rbT col t → cho ch t.1 t.2.1 t.2.2 → cho tr t.1 t.2.1 t.2.2 → mu col n X Y cx cy t + k ≤ 511 → mu col n X Y cx cy t < fu → (k : Int) ≤ A.toInt → ∃ k' t' g' sd' ch' c1 c2 c3 c4 c5 c6 c7, tIn n t' ∧ rbT col t' ∧ cho ch' t'.1 t'.2.1 t'.2.2 ∧ k' ≤ 511 ∧ fX7_run_L7 K A (nI n) (iI cx) (iI cy) x y col fu (nI k) gone sd ch nx ny nl ns nsl fx fy = some (nI k', g', sd', ch', c1, c2, c3, c4, c5, c6, c7) ∧ ((A.toInt = k' ∧ ∃ rm' p' q' b' fa' fb' hd' cor' cors' row' tr', cho tr' t'.1 t'.2.1 t'.2.2 ∧ fX12_laysExchanged_L27 K A (nI n) (iI cx) (iI cy) px py mcol fu (nI k) rm p q b fa fb gone hd cor cors row tr = some (.inr (rm', p', q', b', fa', fb', g', hd', cor', cors', row', tr'))) ∨ ((k' : Int) < A.toInt ∧ ∃ z, fX12_laysExchanged_L27 K A (nI n) (iI cx) (iI cy) px py mcol fu (nI k) rm p q b fa fb gone hd cor cors row tr = some (.inl z))) := by
  intro fu
  induction fu with
  | zero => intro k t gone sd ch nx ny nl ns nsl fx fy rm p q b fa fb hd cor cors row tr h1 h2 h3 h4 h5 h6; omega
  | succ fu ih =>
    intro k t gone sd ch nx ny nl ns nsl fx fy rm p q b fa fb hd cor cors row tr h1 h2 h3 h4 h5 h6 h7
    rw [fX7_run_L7, fX12_laysExchanged_L27]
    simp only [lim_le (A := A) (show k < 1000 by omega)]
    by_cases e : A.toInt ≤ (k : Int)
    · rw [if_pos e, if_pos e]
      exact ⟨k, t, _, _, _, _, _, _, _, _, _, _, h1, h2, h3, by omega, rfl, Or.inl ⟨by omega, _, _, _, _, _, _, _, _, _, _, _, h4, rfl⟩⟩
    · rw [if_neg e, if_neg e, if_neg (show ¬ (512 : Int32) ≤ nI k from (nI_ge (show k < 512 by omega) (by decide) : ¬ nI 512 ≤ nI k))]
      obtain ⟨r, sd', g', ch', rm', w', cor', cors', row', tr', f1, ⟨m1, m2, m3, m4, m5, f2⟩, f3⟩ := swapJ K hK h h' hcol h1 h2 h3 h4 hcx hcy gone sd nx ny nl ns nsl fx fy rm p q b fa fb gone hd cor cors row
      rw [f1, f2, sm_b11, sm_b13]
      rcases f3 with ⟨rfl, rfl, rfl, rfl, rfl⟩ | ⟨rfl, t', rfl, i1, i2, i3, i4, i5⟩
      · rw [if_pos rfl, if_pos rfl]
        exact ⟨k, t, _, _, _, _, _, _, _, _, _, _, h1, h2, h3, by omega, rfl, Or.inr ⟨by omega, _, rfl⟩⟩
      · have hmu := mu_lt i3 i4 i5
        rw [if_neg one_ne, if_neg one_ne, xl_e, xl_e, nI_1]
        exact ih (k + 1) t' g' sd' ch' _ _ _ _ _ _ _ _ _ _ _ _ _ _ _ _ _ _ i3 i4 i1 i2 (by omega) (by omega) (by omega)
theorem runY (K : Nat) (hK : 4000 ≤ K) {n : Nat} {x y px py : Nat → Int32} {X Y : Nat → Int} (h : Pts n x y X Y) (h' : Pts n px py X Y) {col mcol : Nat → Int32} (hcol : ∀ i, i < n → mcol i = col i) {cx cy : Int} (hcx : -20 ≤ cx ∧ cx ≤ 20) (hcy : -20 ≤ cy ∧ cy ≤ 20) : ∀ (fu k : Nat) (t : N3) (gone sd : Int32) (ch : Nat → Int32) (nx ny nl ns nsl : Int64) (fx fy : Int32) (rm : Int32) (p q b fa fb : Int64) (went hd : Int32) (cor cors row tr : Nat → Int32), tIn n t → rbT col t → cho ch t.1 t.2.1 t.2.2 → cho tr t.1 t.2.1 t.2.2 → mu col n X Y cx cy t + k ≤ 511 → mu col n X Y cx cy t < fu → ∃ k' D g' sd' ch' c1 c2 c3 c5 c6 c7 rm' p' q' b' fa' fb' w' cor' cors' row' tr', (0 ≤ D ∧ D ≤ 32768000000) ∧ k' ≤ 511 ∧ fX7_run_L7 K 512 (nI n) (iI cx) (iI cy) x y col fu (nI k) gone sd ch nx ny nl ns nsl fx fy = some (nI k', g', sd', ch', c1, c2, c3, jJ D, c5, c6, c7) ∧ fX12_exchangesAll_L2 K (nI n) (iI cx) (iI cy) px py mcol fu (nI k) rm p q b fa fb went hd cor cors row tr = some (nI k', rm', p', q', b', fa', fb', w', if D = 0 then 1 else 0, cor', cors', row', tr') := by
  intro fu
  induction fu with
  | zero => intro k t gone sd ch nx ny nl ns nsl fx fy rm p q b fa fb went hd cor cors row tr h1 h2 h3 h4 h5 h6; omega
  | succ fu ih =>
    intro k t gone sd ch nx ny nl ns nsl fx fy rm p q b fa fb went hd cor cors row tr h1 h2 h3 h4 h5 h6
    have n5 : ¬ (512 : Int32) ≤ nI k := (nI_ge (show k < 512 by omega) (by decide) : ¬ nI 512 ≤ nI k)
    rw [fX7_run_L7, fX12_exchangesAll_L2, if_neg n5, if_neg n5]
    obtain ⟨r, sd', g', ch', rm', w', cor', cors', row', tr', f1, ⟨m1, m2, m3, m4, m5, f2⟩, f3⟩ := swapJ K hK h h' hcol h1 h2 h3 h4 hcx hcy gone sd nx ny nl ns nsl fx fy rm p q b fa fb went hd cor cors row
    rw [f1, f2, sm_b11, sm_b13]
    rcases f3 with ⟨rfl, rfl, rfl, rfl, rfl⟩ | ⟨rfl, t', rfl, i1, i2, i3, i4, i5⟩
    · rw [if_pos rfl, if_pos rfl]
      obtain ⟨-, -, -, oZ⟩ := zz_ok h h1 hcx hcy
      exact ⟨k, D3 cx cy (zz X Y cx cy t), _, _, _, _, _, _, _, _, _, _, _, _, _, _, _, _, _, _, _, _, (okZ_sq oZ).1, by omega, rfl, rfl⟩
    · have hmu := mu_lt i3 i4 i5
      rw [if_neg one_ne, if_neg one_ne, xl_e, xl_e, nI_1]
      exact ih (k + 1) t' g' sd' ch' _ _ _ _ _ _ _ _ _ _ _ _ _ _ _ _ _ _ _ i3 i4 i1 i2 (by omega) (by omega)
theorem stwM (K : Nat) (w : Int32) (tr : Nat → Int32) (r g b : Nat) : ∃ tr', fX12_startsWith K w tr (nI r) (nI g) (nI b) = some (-1, tr') ∧ cho tr' r g b := by
  unfold fX12_startsWith
  simp only [xl_e]
  exact ⟨_, rfl, updcho tr r g b⟩
/-- the whole way from a start -/
theorem allB' (K : Nat) (hK : 4000 ≤ K) {n : Nat} {x y px py : Nat → Int32} {X Y : Nat → Int} (h : Pts n x y X Y) (h' : Pts n px py X Y) {col mcol : Nat → Int32} (hcol : ∀ i, i < n → mcol i = col i) {cx cy : Int} (hcx : -20 ≤ cx ∧ cx ≤ 20) (hcy : -20 ≤ cy ∧ cy ≤ 20) {t : N3} (ht : tIn n t) (hr : rbT col t) {ch tr : Nat → Int32} (hc : cho ch t.1 t.2.1 t.2.2) (hc' : cho tr t.1 t.2.1 t.2.2) (gone sd : Int32) (nx ny nl ns nsl : Int64) (fx fy : Int32) (rm : Int32) (p q b fa fb : Int64) (went hd : Int32) (cor cors row : Nat → Int32) : ∃ k' D g' sd' ch' c1 c2 c3 c5 c6 c7 rm' p' q' b' fa' fb' w' cor' cors' row' tr', (0 ≤ D ∧ D ≤ 32768000000) ∧ k' ≤ 511 ∧ fX7_run K gone sd ch nx ny nl ns nsl fx fy (nI n) (iI cx) (iI cy) x y col 512 = some (nI k', g', sd', ch', c1, c2, c3, jJ D, c5, c6, c7) ∧ fX12_exchangesAll K (nI n) (iI cx) (iI cy) rm p q b fa fb went hd px py mcol cor cors row tr = some (nI k', rm', p', q', b', fa', fb', w', if D = 0 then 1 else 0, cor', cors', row', tr') := by
  have hb := mu_bd (X := X) (Y := Y) (cx := cx) (cy := cy) h.1 ht hr
  obtain ⟨k', D, g', sd', ch', c1, c2, c3, c5, c6, c7, rm', p', q', b', fa', fb', w', cor', cors', row', tr', d1, d2', e1, e2⟩ := runY K hK h h' hcol hcx hcy K 0 t (-1) sd ch nx ny nl ns nsl fx fy rm p q b fa fb went hd cor cors row tr ht hr hc hc' (by omega) (by omega)
  rw [show nI 0 = (0 : Int32) from rfl] at e1 e2
  refine ⟨k', D, g', sd', ch', c1, c2, c3, c5, c6, c7, rm', p', q', b', fa', fb', w', cor', cors', row', tr', d1, d2', ?_, ?_⟩
  · unfold fX7_run
    rw [e1, sm_b11]
  · unfold fX12_exchangesAll
    rw [e2, sm_b13]
theorem jJ_D {D : Int} (h : 0 ≤ D ∧ D ≤ 32768000000) : jJ D = (0 : Int64) ↔ D = 0 := j_eq0 ⟨by omega, by omega⟩
theorem ev_exchanges (K : Nat) (hK : 4000 ≤ K) (x_cloud_size : Int32) (x_cloud_x : Nat → Int32) (x_cloud_y : Nat → Int32) (x_cloud_colour : Nat → Int32) (x_cloud_load : Nat → Int32) (x_cloud_centreX : Int32) (x_cloud_centreY : Int32) (x_reader_tape : Nat → Int32) (x_reader_length : Int32) (x_reader_faultKind : Int32) (x_reader_faultPlace : Int32) (m_many : Int32) (m_px : Nat → Int32) (m_py : Nat → Int32) (m_colour : Nat → Int32) (m_load : Nat → Int32) (m_cx : Int32) (m_cy : Int32) (m_tape : Nat → Int32) (m_taped : Int32) (m_faultKind : Int32) (m_faultPlace : Int32) (x_chooser_gone : Int32) (x_chooser_side : Int32) (x_chooser_chosen : Nat → Int32) (x_chooser_near_x : Int64) (x_chooser_near_y : Int64) (x_chooser_near_lower : Int64) (x_chooser_near_square : Int64) (x_chooser_near_squareLower : Int64) (x_chooser_near_fromX : Int32) (x_chooser_near_fromY : Int32) (m_rowMany : Int32) (m_placeX : Int64) (m_placeY : Int64) (m_below : Int64) (m_farAbove : Int64) (m_farBelow : Int64) (m_wentColour : Int32) (m_isHeld : Int32) (m_corner : Nat → Int32) (m_corners : Nat → Int32) (m_row : Nat → Int32) (m_trio : Nat → Int32) (a1 : Int32) (a2 : Int32) (a3 : Int32) (a4 : Int32) (hR : Rel x_cloud_size x_cloud_x x_cloud_y x_cloud_colour x_cloud_load x_cloud_centreX x_cloud_centreY x_reader_tape x_reader_length x_reader_faultKind x_reader_faultPlace m_many m_px m_py m_colour m_load m_cx m_cy m_tape m_taped m_faultKind m_faultPlace) : ∃ (r : Int32) (o_x_chooser_gone : Int32) (o_x_chooser_side : Int32) (o_x_chooser_chosen : Nat → Int32) (o_x_chooser_near_x : Int64) (o_x_chooser_near_y : Int64) (o_x_chooser_near_lower : Int64) (o_x_chooser_near_square : Int64) (o_x_chooser_near_squareLower : Int64) (o_x_chooser_near_fromX : Int32) (o_x_chooser_near_fromY : Int32) (o_m_rowMany : Int32) (o_m_placeX : Int64) (o_m_placeY : Int64) (o_m_below : Int64) (o_m_farAbove : Int64) (o_m_farBelow : Int64) (o_m_wentColour : Int32) (o_m_isHeld : Int32) (o_m_corner : Nat → Int32) (o_m_corners : Nat → Int32) (o_m_row : Nat → Int32) (o_m_trio : Nat → Int32), fX11_exchanges K x_cloud_size x_cloud_centreX x_cloud_centreY x_cloud_x x_cloud_y x_cloud_colour x_chooser_gone x_chooser_side x_chooser_chosen x_chooser_near_x x_chooser_near_y x_chooser_near_lower x_chooser_near_square x_chooser_near_squareLower x_chooser_near_fromX x_chooser_near_fromY a1 a2 a3 a4 = some (r, o_x_chooser_gone, o_x_chooser_side, o_x_chooser_chosen, o_x_chooser_near_x, o_x_chooser_near_y, o_x_chooser_near_lower, o_x_chooser_near_square, o_x_chooser_near_squareLower, o_x_chooser_near_fromX, o_x_chooser_near_fromY) ∧ fX12_exchanges K m_many m_cx m_cy m_rowMany m_placeX m_placeY m_below m_farAbove m_farBelow m_wentColour m_isHeld m_px m_py m_colour m_corner m_corners m_row m_trio a1 a2 a3 a4 = some (r, o_m_rowMany, o_m_placeX, o_m_placeY, o_m_below, o_m_farAbove, o_m_farBelow, o_m_wentColour, o_m_isHeld, o_m_corner, o_m_corners, o_m_row, o_m_trio) := by
  obtain ⟨n, rfl, rfl, hXc, hXm⟩ := Rel_pts hR
  obtain ⟨rfl, rfl, hpl⟩ := Rel_c hR
  obtain ⟨⟨n', hn', en, -, hpt⟩, -⟩ := hR
  have hn := hXc.1
  have hnn : n = n' := (nI_eqn (by omega) (by omega)).mp en
  subst hnn
  have hcol : ∀ i, i < n → m_colour i = x_cloud_colour i := fun i hi => (hpt i hi).1.2.2.1
  obtain ⟨cx, cy, rfl, rfl, hcx, hcy⟩ := isPl_i hpl
  have z0 : (a4 = 0) ↔ a4.toInt = 0 := a_eq (k := 0) ⟨by omega, by omega⟩
  have z1 : (a4 = 1) ↔ a4.toInt = 1 := a_eq (k := 1) ⟨by omega, by omega⟩
  unfold fX11_exchanges fX12_exchanges
  rcases rbB K hn hcol a1 a2 a3 with ⟨r, g, b, ⟨hr, hg, hb⟩, ⟨rfl, rfl, rfl⟩, hrb, c1, c2⟩ | ⟨c1, c2⟩
  · rw [c1, c2, sm_b1, sm_b1, if_neg one_ne, if_neg one_ne, in_spec, sm_b1]
    simp only [long_toInt, show (0 : Int64).toInt = 0 from rfl, show (1 : Int64).toInt = 1 from rfl, z0, z1]
    obtain ⟨ch', d1, d2⟩ := choC K x_chooser_chosen r g b
    obtain ⟨tr', s1, s2⟩ := stwM K m_wentColour m_trio r g b
    obtain ⟨k', D, g', sd', ch2, u1, u2, u3, u5, u6, u7, rm', p', q', b', fa', fb', w', cor', cors', row', tr2, hD, hk, e1, e2⟩ := allB' K hK hXc hXm hcol hcx hcy (t := (r, g, b)) ⟨hr, hg, hb⟩ hrb d2 s2 x_chooser_gone x_chooser_side x_chooser_near_x x_chooser_near_y x_chooser_near_lower x_chooser_near_square x_chooser_near_squareLower x_chooser_near_fromX x_chooser_near_fromY m_rowMany m_placeX m_placeY m_below m_farAbove m_farBelow (-1) m_isHeld m_corner m_corners m_row
    rw [d1, sm_b1, e1, sm_b11]
    by_cases w : 0 ≤ a4.toInt ∧ a4.toInt ≤ 1
    · rw [show (if 0 ≤ a4.toInt ∧ a4.toInt ≤ 1 then (1 : Int32) else 0) = 1 from if_pos w, if_neg one_ne, s1, sm_b2, e2, sm_b13]
      by_cases w0 : a4.toInt = 0
      · rw [if_pos w0, if_pos w0]
        exact ⟨_, _, _, _, _, _, _, _, _, _, _, _, _, _, _, _, _, _, _, _, _, _, _, rfl, rfl⟩
      · rw [if_neg w0, if_neg w0, if_pos (by omega)]
        simp only [jJ_D hD]
        by_cases e : D = 0
        · rw [if_pos e, show (if D = 0 then (1 : Int32) else 0) = 1 from if_pos e, if_neg one_ne]
          exact ⟨_, _, _, _, _, _, _, _, _, _, _, _, _, _, _, _, _, _, _, _, _, _, _, rfl, rfl⟩
        · rw [if_neg e, show (if D = 0 then (1 : Int32) else 0) = 0 from if_neg e, if_pos rfl]
          exact ⟨_, _, _, _, _, _, _, _, _, _, _, _, _, _, _, _, _, _, _, _, _, _, _, rfl, rfl⟩
    · rw [show (if 0 ≤ a4.toInt ∧ a4.toInt ≤ 1 then (1 : Int32) else 0) = 0 from if_neg w, if_pos rfl, if_neg (by omega), if_neg (by omega)]
      exact ⟨_, _, _, _, _, _, _, _, _, _, _, _, _, _, _, _, _, _, _, _, _, _, _, rfl, rfl⟩
  · rw [c1, c2]
    exact ⟨_, _, _, _, _, _, _, _, _, _, _, _, _, _, _, _, _, _, _, _, _, _, _, rfl, rfl⟩
