--@ needs 3za.exch
/-! exchanged, distance, starts -/
theorem kB (K : Nat) (hK : 4000 ≤ K) {n : Nat} {x y px py : Nat → Int32} {X Y : Nat → Int} (h : Pts n x y X Y) (h' : Pts n px py X Y) {col mcol : Nat → Int32} (hcol : ∀ i, i < n → mcol i = col i) {cx cy : Int} (hcx : -20 ≤ cx ∧ cx ≤ 20) (hcy : -20 ≤ cy ∧ cy ≤ 20) {t : N3} (ht : tIn n t) (hr : rbT col t) {A : Int32} (hA : ¬ A < 0) {ch : Nat → Int32} (hc : cho ch t.1 t.2.1 t.2.2) (gone sd : Int32) (nx ny nl ns nsl : Int64) (fx fy : Int32) (rm : Int32) (p q b fa fb : Int64) (went hd : Int32) (cor cors row tr : Nat → Int32) (hrb : fX12_isRainbow K (nI n) mcol (nI t.1) (nI t.2.1) (nI t.2.2) = some 1) : ∃ k' t' g' sd' ch' c1 c2 c3 c4 c5 c6 c7, tIn n t' ∧ rbT col t' ∧ cho ch' t'.1 t'.2.1 t'.2.2 ∧ k' ≤ 511 ∧ fX7_run K gone sd ch nx ny nl ns nsl fx fy (nI n) (iI cx) (iI cy) x y col A = some (nI k', g', sd', ch', c1, c2, c3, c4, c5, c6, c7) ∧ ((A.toInt = k' ∧ ∃ rm' p' q' b' fa' fb' hd' cor' cors' row' tr', cho tr' t'.1 t'.2.1 t'.2.2 ∧ fX12_laysExchanged K (nI n) (iI cx) (iI cy) rm p q b fa fb went hd px py mcol cor cors row tr (nI t.1) (nI t.2.1) (nI t.2.2) A = some (1, rm', p', q', b', fa', fb', g', hd', cor', cors', row', tr')) ∨ ((k' : Int) < A.toInt ∧ ∃ rm' p' q' b' fa' fb' w' hd' cor' cors' row' tr', fX12_laysExchanged K (nI n) (iI cx) (iI cy) rm p q b fa fb went hd px py mcol cor cors row tr (nI t.1) (nI t.2.1) (nI t.2.2) A = some (0, rm', p', q', b', fa', fb', w', hd', cor', cors', row', tr'))) := by
  have hb := mu_bd (X := X) (Y := Y) (cx := cx) (cy := cy) h.1 ht hr
  obtain ⟨tr', s1, s2⟩ := stwM K went tr t.1 t.2.1 t.2.2
  obtain ⟨k', t', g', sd', ch', c1, c2, c3, c4, c5, c6, c7, i1, i2, i3, i4, e1, e2⟩ := runX K hK h h' hcol hcx hcy A K 0 t (-1) sd ch nx ny nl ns nsl fx fy rm p q b fa fb hd cor cors row tr' ht hr hc s2 (by omega) (by omega) (by have := nn_toInt hA; omega)
  rw [show nI 0 = (0 : Int32) from rfl] at e1 e2
  refine ⟨k', t', g', sd', ch', c1, c2, c3, c4, c5, c6, c7, i1, i2, i3, i4, ?_, ?_⟩
  · unfold fX7_run
    rw [e1, sm_b11]
  · unfold fX12_laysExchanged
    rw [hrb, sm_b1, if_neg one_ne, if_pos (show (0 : Int32) ≤ A by rw [Int32.le_iff_toInt_le]; exact nn_toInt hA), s1, sm_b2]
    rcases e2 with ⟨q1, rm', p', q', b', fa', fb', hd', cor', cors', row', tr2, q2, q3⟩ | ⟨q1, z, q2⟩
    · rw [q3, sm_inr]
      exact Or.inl ⟨q1, rm', p', q', b', fa', fb', hd', cor', cors', row', tr2, q2, rfl⟩
    · rw [q2, sm_inl]
      exact Or.inr ⟨q1, _, _, _, _, _, _, _, _, _, _, _, _, rfl⟩
theorem not_neg {a : Int32} (h : ¬ a < 0) : (0 : Int32) ≤ a := by rw [Int32.le_iff_toInt_le]; exact nn_toInt h
theorem neg_not {a : Int32} (h : a < 0) : ¬ (0 : Int32) ≤ a := by
  rw [Int32.le_iff_toInt_le]; rw [Int32.lt_iff_toInt_lt] at h; omega
theorem ev_exchanged (K : Nat) (hK : 4000 ≤ K) (x_cloud_size : Int32) (x_cloud_x : Nat → Int32) (x_cloud_y : Nat → Int32) (x_cloud_colour : Nat → Int32) (x_cloud_load : Nat → Int32) (x_cloud_centreX : Int32) (x_cloud_centreY : Int32) (x_reader_tape : Nat → Int32) (x_reader_length : Int32) (x_reader_faultKind : Int32) (x_reader_faultPlace : Int32) (m_many : Int32) (m_px : Nat → Int32) (m_py : Nat → Int32) (m_colour : Nat → Int32) (m_load : Nat → Int32) (m_cx : Int32) (m_cy : Int32) (m_tape : Nat → Int32) (m_taped : Int32) (m_faultKind : Int32) (m_faultPlace : Int32) (x_chooser_gone : Int32) (x_chooser_side : Int32) (x_chooser_chosen : Nat → Int32) (x_chooser_near_x : Int64) (x_chooser_near_y : Int64) (x_chooser_near_lower : Int64) (x_chooser_near_square : Int64) (x_chooser_near_squareLower : Int64) (x_chooser_near_fromX : Int32) (x_chooser_near_fromY : Int32) (m_rowMany : Int32) (m_placeX : Int64) (m_placeY : Int64) (m_below : Int64) (m_farAbove : Int64) (m_farBelow : Int64) (m_wentColour : Int32) (m_isHeld : Int32) (m_corner : Nat → Int32) (m_corners : Nat → Int32) (m_row : Nat → Int32) (m_trio : Nat → Int32) (a1 : Int32) (a2 : Int32) (a3 : Int32) (a4 : Int32) (a5 : Int32) (hR : Rel x_cloud_size x_cloud_x x_cloud_y x_cloud_colour x_cloud_load x_cloud_centreX x_cloud_centreY x_reader_tape x_reader_length x_reader_faultKind x_reader_faultPlace m_many m_px m_py m_colour m_load m_cx m_cy m_tape m_taped m_faultKind m_faultPlace) : ∃ (r : Int32) (o_x_chooser_gone : Int32) (o_x_chooser_side : Int32) (o_x_chooser_chosen : Nat → Int32) (o_x_chooser_near_x : Int64) (o_x_chooser_near_y : Int64) (o_x_chooser_near_lower : Int64) (o_x_chooser_near_square : Int64) (o_x_chooser_near_squareLower : Int64) (o_x_chooser_near_fromX : Int32) (o_x_chooser_near_fromY : Int32) (o_m_rowMany : Int32) (o_m_placeX : Int64) (o_m_placeY : Int64) (o_m_below : Int64) (o_m_farAbove : Int64) (o_m_farBelow : Int64) (o_m_wentColour : Int32) (o_m_isHeld : Int32) (o_m_corner : Nat → Int32) (o_m_corners : Nat → Int32) (o_m_row : Nat → Int32) (o_m_trio : Nat → Int32), fX11_exchanged K x_cloud_size x_cloud_centreX x_cloud_centreY x_cloud_x x_cloud_y x_cloud_colour x_chooser_gone x_chooser_side x_chooser_chosen x_chooser_near_x x_chooser_near_y x_chooser_near_lower x_chooser_near_square x_chooser_near_squareLower x_chooser_near_fromX x_chooser_near_fromY a1 a2 a3 a4 a5 = some (r, o_x_chooser_gone, o_x_chooser_side, o_x_chooser_chosen, o_x_chooser_near_x, o_x_chooser_near_y, o_x_chooser_near_lower, o_x_chooser_near_square, o_x_chooser_near_squareLower, o_x_chooser_near_fromX, o_x_chooser_near_fromY) ∧ fX12_exchanged K m_many m_cx m_cy m_rowMany m_placeX m_placeY m_below m_farAbove m_farBelow m_wentColour m_isHeld m_px m_py m_colour m_corner m_corners m_row m_trio a1 a2 a3 a4 a5 = some (r, o_m_rowMany, o_m_placeX, o_m_placeY, o_m_below, o_m_farAbove, o_m_farBelow, o_m_wentColour, o_m_isHeld, o_m_corner, o_m_corners, o_m_row, o_m_trio) := by
  obtain ⟨n, rfl, rfl, hXc, hXm⟩ := Rel_pts hR
  obtain ⟨rfl, rfl, hpl⟩ := Rel_c hR
  obtain ⟨⟨n', hn', en, -, hpt⟩, -⟩ := hR
  have hn := hXc.1
  have hnn : n = n' := (nI_eqn (by omega) (by omega)).mp en
  subst hnn
  have hcol : ∀ i, i < n → m_colour i = x_cloud_colour i := fun i hi => (hpt i hi).1.2.2.1
  obtain ⟨cx, cy, rfl, rfl, hcx, hcy⟩ := isPl_i hpl
  have z0 : (a5 = 0) ↔ a5.toInt = 0 := a_eq (k := 0) ⟨by omega, by omega⟩
  have z1 : (a5 = 1) ↔ a5.toInt = 1 := a_eq (k := 1) ⟨by omega, by omega⟩
  have z2 : (a5 = 2) ↔ a5.toInt = 2 := a_eq (k := 2) ⟨by omega, by omega⟩
  have z3 : (a5 = 3) ↔ a5.toInt = 3 := a_eq (k := 3) ⟨by omega, by omega⟩
  unfold fX11_exchanged fX12_exchanged
  rw [in_spec, sm_b1]
  simp only [long_toInt, show (0 : Int64).toInt = 0 from rfl, show (3 : Int64).toInt = 3 from rfl, z0, z1, z2, z3]
  rcases rbB K hn hcol a1 a2 a3 with ⟨r, g, b, ⟨hr, hg, hb⟩, ⟨rfl, rfl, rfl⟩, hrb, c1, c2⟩ | ⟨c1, c2⟩
  · rw [c1, sm_b1, if_neg one_ne]
    by_cases k0 : a4 < 0
    · rw [if_neg (neg_not k0)]
      by_cases w : 0 ≤ a5.toInt ∧ a5.toInt ≤ 3
      · rw [show (if 0 ≤ a5.toInt ∧ a5.toInt ≤ 3 then (1 : Int32) else 0) = 1 from if_pos w, if_neg one_ne]
        unfold fX12_laysExchanged
        rw [c2, sm_b1, if_neg one_ne, if_neg (neg_not k0), sm_b13, if_pos rfl]
        exact ⟨_, _, _, _, _, _, _, _, _, _, _, _, _, _, _, _, _, _, _, _, _, _, _, rfl, rfl⟩
      · rw [show (if 0 ≤ a5.toInt ∧ a5.toInt ≤ 3 then (1 : Int32) else 0) = 0 from if_neg w, if_pos rfl]
        exact ⟨_, _, _, _, _, _, _, _, _, _, _, _, _, _, _, _, _, _, _, _, _, _, _, rfl, rfl⟩
    · rw [if_pos (not_neg k0)]
      obtain ⟨ch', d1, d2⟩ := choC K x_chooser_chosen r g b
      obtain ⟨k', t', g', sd', ch2, u1, u2, u3, u4, u5, u6, u7, i1, i2, i3, i4, e1, e2⟩ := kB K hK hXc hXm hcol hcx hcy (t := (r, g, b)) ⟨hr, hg, hb⟩ hrb k0 d2 x_chooser_gone x_chooser_side x_chooser_near_x x_chooser_near_y x_chooser_near_lower x_chooser_near_square x_chooser_near_squareLower x_chooser_near_fromX x_chooser_near_fromY m_rowMany m_placeX m_placeY m_below m_farAbove m_farBelow m_wentColour m_isHeld m_corner m_corners m_row m_trio c2
      rw [d1, sm_b1, e1, sm_b11]
      rcases e2 with ⟨q1, rm', p', q', b', fa', fb', hd', cor', cors', row', tr2, q2, q3⟩ | ⟨q1, rm', p', q', b', fa', fb', w', hd', cor', cors', row', tr2, q3⟩
      · rw [if_pos ((eq_lim (by omega)).mpr q1), jn_e]
        by_cases w : 0 ≤ a5.toInt ∧ a5.toInt ≤ 3
        · rw [show (if 0 ≤ a5.toInt ∧ a5.toInt ≤ 3 then (1 : Int32) else 0) = 1 from if_pos w, if_neg one_ne, show fX12_laysExchanged K (nI n) (iI cx) (iI cy) m_rowMany m_placeX m_placeY m_below m_farAbove m_farBelow m_wentColour m_isHeld m_px m_py m_colour m_corner m_corners m_row m_trio (nI r) (nI g) (nI b) a4 = _ from q3, sm_b13, if_neg one_ne]
          obtain ⟨k, hk⟩ : ∃ k : Nat, a5.toInt = k := ⟨a5.toInt.toNat, by omega⟩
          have e5 : a5 = nI k := by rw [nI_iI, ← hk, iI_toInt]
          by_cases w3 : a5.toInt = 3
          · rw [if_neg (by omega), if_neg (by omega), if_neg (by omega), if_pos w3, if_pos w3]
            exact ⟨_, _, _, _, _, _, _, _, _, _, _, _, _, _, _, _, _, _, _, _, _, _, _, rfl, rfl⟩
          · have hk3 : k < 3 := by omega
            have same : ch2 k = tr2 k := by
              obtain ⟨p1, p2, p3⟩ := i3
              obtain ⟨r1, r2, r3⟩ := q2
              have : k = 0 ∨ k = 1 ∨ k = 2 := by omega
              rcases this with rfl | rfl | rfl
              · rw [p1, r1]
              · rw [p2, r2]
              · rw [p3, r3]
            rw [if_neg w3, if_neg w3, e5, gd_t (inb_nI hk3 (by decide)), gd_t (inb_nI hk3 (by decide)), nI_clamp (by omega), same]
            have tt : ∀ {α : Type} (A B : α), (if (nI k).toInt = 0 then A else if (nI k).toInt = 1 then A else if (nI k).toInt = 2 then A else B) = A := by
              intro α A B
              rw [nI_toInt (by omega)]
              by_cases q0 : (k : Int) = 0
              · rw [if_pos q0]
              · rw [if_neg q0]
                by_cases q1 : (k : Int) = 1
                · rw [if_pos q1]
                · rw [if_neg q1, if_pos (by omega)]
            rw [tt]
            exact ⟨_, _, _, _, _, _, _, _, _, _, _, _, _, _, _, _, _, _, _, _, _, _, _, rfl, rfl⟩
        · rw [show (if 0 ≤ a5.toInt ∧ a5.toInt ≤ 3 then (1 : Int32) else 0) = 0 from if_neg w, if_pos rfl, if_neg (by omega), if_neg (by omega), if_neg (by omega), if_neg (by omega)]
          exact ⟨_, _, _, _, _, _, _, _, _, _, _, _, _, _, _, _, _, _, _, _, _, _, _, rfl, rfl⟩
      · rw [if_neg (fun s => by have := (eq_lim (by omega)).mp s; omega)]
        by_cases w : 0 ≤ a5.toInt ∧ a5.toInt ≤ 3
        · rw [show (if 0 ≤ a5.toInt ∧ a5.toInt ≤ 3 then (1 : Int32) else 0) = 1 from if_pos w, if_neg one_ne, show fX12_laysExchanged K (nI n) (iI cx) (iI cy) m_rowMany m_placeX m_placeY m_below m_farAbove m_farBelow m_wentColour m_isHeld m_px m_py m_colour m_corner m_corners m_row m_trio (nI r) (nI g) (nI b) a4 = _ from q3, sm_b13, if_pos rfl]
          exact ⟨_, _, _, _, _, _, _, _, _, _, _, _, _, _, _, _, _, _, _, _, _, _, _, rfl, rfl⟩
        · rw [show (if 0 ≤ a5.toInt ∧ a5.toInt ≤ 3 then (1 : Int32) else 0) = 0 from if_neg w, if_pos rfl]
          exact ⟨_, _, _, _, _, _, _, _, _, _, _, _, _, _, _, _, _, _, _, _, _, _, _, rfl, rfl⟩
  · rw [c1, sm_b1, if_pos rfl]
    by_cases w : 0 ≤ a5.toInt ∧ a5.toInt ≤ 3
    · rw [show (if 0 ≤ a5.toInt ∧ a5.toInt ≤ 3 then (1 : Int32) else 0) = 1 from if_pos w, if_neg one_ne]
      unfold fX12_laysExchanged
      rw [c2, sm_b1, if_pos rfl, sm_b13, if_pos rfl]
      exact ⟨_, _, _, _, _, _, _, _, _, _, _, _, _, _, _, _, _, _, _, _, _, _, _, rfl, rfl⟩
    · rw [show (if 0 ≤ a5.toInt ∧ a5.toInt ≤ 3 then (1 : Int32) else 0) = 0 from if_neg w, if_pos rfl]
      exact ⟨_, _, _, _, _, _, _, _, _, _, _, _, _, _, _, _, _, _, _, _, _, _, _, rfl, rfl⟩
theorem ev_distance (K : Nat) (hK : 4000 ≤ K) (x_cloud_size : Int32) (x_cloud_x : Nat → Int32) (x_cloud_y : Nat → Int32) (x_cloud_colour : Nat → Int32) (x_cloud_load : Nat → Int32) (x_cloud_centreX : Int32) (x_cloud_centreY : Int32) (x_reader_tape : Nat → Int32) (x_reader_length : Int32) (x_reader_faultKind : Int32) (x_reader_faultPlace : Int32) (m_many : Int32) (m_px : Nat → Int32) (m_py : Nat → Int32) (m_colour : Nat → Int32) (m_load : Nat → Int32) (m_cx : Int32) (m_cy : Int32) (m_tape : Nat → Int32) (m_taped : Int32) (m_faultKind : Int32) (m_faultPlace : Int32) (x_chooser_gone : Int32) (x_chooser_side : Int32) (x_chooser_chosen : Nat → Int32) (x_chooser_near_x : Int64) (x_chooser_near_y : Int64) (x_chooser_near_lower : Int64) (x_chooser_near_square : Int64) (x_chooser_near_squareLower : Int64) (x_chooser_near_fromX : Int32) (x_chooser_near_fromY : Int32) (m_rowMany : Int32) (m_placeX : Int64) (m_placeY : Int64) (m_below : Int64) (m_farAbove : Int64) (m_farBelow : Int64) (m_wentColour : Int32) (m_isHeld : Int32) (m_corner : Nat → Int32) (m_corners : Nat → Int32) (m_row : Nat → Int32) (m_trio : Nat → Int32) (a1 : Int32) (a2 : Int32) (a3 : Int32) (a4 : Int32) (a5 : Int32) (hR : Rel x_cloud_size x_cloud_x x_cloud_y x_cloud_colour x_cloud_load x_cloud_centreX x_cloud_centreY x_reader_tape x_reader_length x_reader_faultKind x_reader_faultPlace m_many m_px m_py m_colour m_load m_cx m_cy m_tape m_taped m_faultKind m_faultPlace) : ∃ (r : Int64) (o_x_chooser_gone : Int32) (o_x_chooser_side : Int32) (o_x_chooser_chosen : Nat → Int32) (o_x_chooser_near_x : Int64) (o_x_chooser_near_y : Int64) (o_x_chooser_near_lower : Int64) (o_x_chooser_near_square : Int64) (o_x_chooser_near_squareLower : Int64) (o_x_chooser_near_fromX : Int32) (o_x_chooser_near_fromY : Int32) (o_m_rowMany : Int32) (o_m_placeX : Int64) (o_m_placeY : Int64) (o_m_below : Int64) (o_m_farAbove : Int64) (o_m_farBelow : Int64) (o_m_wentColour : Int32) (o_m_isHeld : Int32) (o_m_corner : Nat → Int32) (o_m_corners : Nat → Int32) (o_m_row : Nat → Int32) (o_m_trio : Nat → Int32), fX11_distance K x_cloud_size x_cloud_centreX x_cloud_centreY x_cloud_x x_cloud_y x_cloud_colour x_chooser_gone x_chooser_side x_chooser_chosen x_chooser_near_x x_chooser_near_y x_chooser_near_lower x_chooser_near_square x_chooser_near_squareLower x_chooser_near_fromX x_chooser_near_fromY a1 a2 a3 a4 a5 = some (r, o_x_chooser_gone, o_x_chooser_side, o_x_chooser_chosen, o_x_chooser_near_x, o_x_chooser_near_y, o_x_chooser_near_lower, o_x_chooser_near_square, o_x_chooser_near_squareLower, o_x_chooser_near_fromX, o_x_chooser_near_fromY) ∧ fX12_distance K m_many m_cx m_cy m_rowMany m_placeX m_placeY m_below m_farAbove m_farBelow m_wentColour m_isHeld m_px m_py m_colour m_corner m_corners m_row m_trio a1 a2 a3 a4 a5 = some (r, o_m_rowMany, o_m_placeX, o_m_placeY, o_m_below, o_m_farAbove, o_m_farBelow, o_m_wentColour, o_m_isHeld, o_m_corner, o_m_corners, o_m_row, o_m_trio) := by
  obtain ⟨n, rfl, rfl, hXc, hXm⟩ := Rel_pts hR
  obtain ⟨rfl, rfl, hpl⟩ := Rel_c hR
  obtain ⟨⟨n', hn', en, -, hpt⟩, -⟩ := hR
  have hn := hXc.1
  have hnn : n = n' := (nI_eqn (by omega) (by omega)).mp en
  subst hnn
  have hcol : ∀ i, i < n → m_colour i = x_cloud_colour i := fun i hi => (hpt i hi).1.2.2.1
  obtain ⟨cx, cy, rfl, rfl, hcx, hcy⟩ := isPl_i hpl
  have z0 : (a5 = 0) ↔ a5.toInt = 0 := a_eq (k := 0) ⟨by omega, by omega⟩
  have z1 : (a5 = 1) ↔ a5.toInt = 1 := a_eq (k := 1) ⟨by omega, by omega⟩
  unfold fX11_distance fX12_distance
  rw [in_spec, sm_b1]
  simp only [long_toInt, show (0 : Int64).toInt = 0 from rfl, show (1 : Int64).toInt = 1 from rfl, z0, z1]
  rcases rbB K hn hcol a1 a2 a3 with ⟨r, g, b, ⟨hr, hg, hb⟩, ⟨rfl, rfl, rfl⟩, hrb, c1, c2⟩ | ⟨c1, c2⟩
  · rw [c1, sm_b1, if_neg one_ne]
    by_cases k0 : a4 < 0
    · rw [if_neg (neg_not k0)]
      by_cases w : 0 ≤ a5.toInt ∧ a5.toInt ≤ 1
      · rw [show (if 0 ≤ a5.toInt ∧ a5.toInt ≤ 1 then (1 : Int32) else 0) = 1 from if_pos w, if_neg one_ne]
        unfold fX12_laysExchanged
        rw [c2, sm_b1, if_neg one_ne, if_neg (neg_not k0), sm_b13, if_pos rfl]
        exact ⟨_, _, _, _, _, _, _, _, _, _, _, _, _, _, _, _, _, _, _, _, _, _, _, rfl, rfl⟩
      · rw [show (if 0 ≤ a5.toInt ∧ a5.toInt ≤ 1 then (1 : Int32) else 0) = 0 from if_neg w, if_pos rfl]
        exact ⟨_, _, _, _, _, _, _, _, _, _, _, _, _, _, _, _, _, _, _, _, _, _, _, rfl, rfl⟩
    · rw [if_pos (not_neg k0)]
      obtain ⟨ch', d1, d2'⟩ := choC K x_chooser_chosen r g b
      obtain ⟨k', t', g', sd', ch2, u1, u2, u3, u4, u5, u6, u7, i1, i2, i3, i4, e1, e2⟩ := kB K hK hXc hXm hcol hcx hcy (t := (r, g, b)) ⟨hr, hg, hb⟩ hrb k0 d2' x_chooser_gone x_chooser_side x_chooser_near_x x_chooser_near_y x_chooser_near_lower x_chooser_near_square x_chooser_near_squareLower x_chooser_near_fromX x_chooser_near_fromY m_rowMany m_placeX m_placeY m_below m_farAbove m_farBelow m_wentColour m_isHeld m_corner m_corners m_row m_trio c2
      rw [d1, sm_b1, e1, sm_b11]
      rcases e2 with ⟨q1, rm', p', q', b', fa', fb', hd', cor', cors', row', tr2, q2, q3⟩ | ⟨q1, rm', p', q', b', fa', fb', w', hd', cor', cors', row', tr2, q3⟩
      · obtain ⟨-, -, -, oZ⟩ := zz_ok hXc i1 hcx hcy
        obtain ⟨rm3, cor3, cors3, row3, f3⟩ := trioM K hK hXm i1 q2 hcx hcy rm' p' q' b' fa' fb' hd' cor' cors' row'
        have zl := zz_L (fun i => (x_cloud_x i).toInt) (fun i => (x_cloud_y i).toInt) cx cy t'
        have bd : (0 ≤ D3 cx cy (zz (fun i => (x_cloud_x i).toInt) (fun i => (x_cloud_y i).toInt) cx cy t') ∧ D3 cx cy (zz (fun i => (x_cloud_x i).toInt) (fun i => (x_cloud_y i).toInt) cx cy t') ≤ 32768000000) ∧ 1 ≤ (zz (fun i => (x_cloud_x i).toInt) (fun i => (x_cloud_y i).toInt) cx cy t').2.2 * (zz (fun i => (x_cloud_x i).toInt) (fun i => (x_cloud_y i).toInt) cx cy t').2.2 ∧ (zz (fun i => (x_cloud_x i).toInt) (fun i => (x_cloud_y i).toInt) cx cy t').2.2 * (zz (fun i => (x_cloud_x i).toInt) (fun i => (x_cloud_y i).toInt) cx cy t').2.2 ≤ 10240000 := okZ_sq oZ
        obtain ⟨⟨l1, l2⟩, y1, y2, -⟩ := oZ
        rw [if_pos ((eq_lim (by omega)).mpr q1), lookC K hK hXc i1 i3 hcx hcy, sm_b8, lowC K hK ⟨by omega, by omega⟩ ⟨by omega, by omega⟩ ⟨by omega, by omega⟩ ⟨by omega, by omega⟩ ⟨by omega, by omega⟩, sm_b5]
        by_cases w : 0 ≤ a5.toInt ∧ a5.toInt ≤ 1
        · rw [show (if 0 ≤ a5.toInt ∧ a5.toInt ≤ 1 then (1 : Int32) else 0) = 1 from if_pos w, if_neg one_ne, show fX12_laysExchanged K (nI n) (iI cx) (iI cy) m_rowMany m_placeX m_placeY m_below m_farAbove m_farBelow m_wentColour m_isHeld m_px m_py m_colour m_corner m_corners m_row m_trio (nI r) (nI g) (nI b) a4 = _ from q3, sm_b13, if_neg one_ne, f3, sm_b11]
          generalize zz (fun i => (x_cloud_x i).toInt) (fun i => (x_cloud_y i).toInt) cx cy t' = Z at *
          by_cases v : D3 cx cy Z = 0
          · rw [show hdI cx cy Z = 1 from if_pos v, if_neg one_ne, v]
            have gz : (Int.gcd 0 (Z.2.2 * Z.2.2) : Int) = Z.2.2 * Z.2.2 := by rw [gcd_n0]; omega
            rw [gz, Int.zero_ediv, Int.ediv_self (by omega)]
            by_cases w0 : a5.toInt = 0
            · rw [if_pos w0, show a5.toInt64 = jJ 0 by rw [long_iI, w0]]
              exact ⟨_, _, _, _, _, _, _, _, _, _, _, _, _, _, _, _, _, _, _, _, _, _, _, rfl, rfl⟩
            · rw [if_neg w0, if_pos (by omega), show a5.toInt64 = jJ 1 by rw [long_iI, show a5.toInt = 1 by omega]]
              exact ⟨_, _, _, _, _, _, _, _, _, _, _, _, _, _, _, _, _, _, _, _, _, _, _, rfl, rfl⟩
          · rw [show hdI cx cy Z = 0 from if_neg v, if_pos rfl]
            by_cases w0 : a5.toInt = 0
            · rw [if_pos w0, if_pos w0]
              exact ⟨_, _, _, _, _, _, _, _, _, _, _, _, _, _, _, _, _, _, _, _, _, _, _, rfl, rfl⟩
            · rw [if_neg w0, if_neg w0, if_pos (by omega)]
              exact ⟨_, _, _, _, _, _, _, _, _, _, _, _, _, _, _, _, _, _, _, _, _, _, _, rfl, rfl⟩
        · rw [show (if 0 ≤ a5.toInt ∧ a5.toInt ≤ 1 then (1 : Int32) else 0) = 0 from if_neg w, if_pos rfl, if_neg (by omega), if_neg (by omega)]
          exact ⟨_, _, _, _, _, _, _, _, _, _, _, _, _, _, _, _, _, _, _, _, _, _, _, rfl, rfl⟩
      · rw [if_neg (fun s => by have := (eq_lim (by omega)).mp s; omega)]
        by_cases w : 0 ≤ a5.toInt ∧ a5.toInt ≤ 1
        · rw [show (if 0 ≤ a5.toInt ∧ a5.toInt ≤ 1 then (1 : Int32) else 0) = 1 from if_pos w, if_neg one_ne, show fX12_laysExchanged K (nI n) (iI cx) (iI cy) m_rowMany m_placeX m_placeY m_below m_farAbove m_farBelow m_wentColour m_isHeld m_px m_py m_colour m_corner m_corners m_row m_trio (nI r) (nI g) (nI b) a4 = _ from q3, sm_b13, if_pos rfl]
          exact ⟨_, _, _, _, _, _, _, _, _, _, _, _, _, _, _, _, _, _, _, _, _, _, _, rfl, rfl⟩
        · rw [show (if 0 ≤ a5.toInt ∧ a5.toInt ≤ 1 then (1 : Int32) else 0) = 0 from if_neg w, if_pos rfl]
          exact ⟨_, _, _, _, _, _, _, _, _, _, _, _, _, _, _, _, _, _, _, _, _, _, _, rfl, rfl⟩
  · rw [c1, sm_b1, if_pos rfl]
    by_cases w : 0 ≤ a5.toInt ∧ a5.toInt ≤ 1
    · rw [show (if 0 ≤ a5.toInt ∧ a5.toInt ≤ 1 then (1 : Int32) else 0) = 1 from if_pos w, if_neg one_ne]
      unfold fX12_laysExchanged
      rw [c2, sm_b1, if_pos rfl, sm_b13, if_pos rfl]
      exact ⟨_, _, _, _, _, _, _, _, _, _, _, _, _, _, _, _, _, _, _, _, _, _, _, rfl, rfl⟩
    · rw [show (if 0 ≤ a5.toInt ∧ a5.toInt ≤ 1 then (1 : Int32) else 0) = 0 from if_neg w, if_pos rfl]
      exact ⟨_, _, _, _, _, _, _, _, _, _, _, _, _, _, _, _, _, _, _, _, _, _, _, rfl, rfl⟩
