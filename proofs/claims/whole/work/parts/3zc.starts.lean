--@ needs 3zb.exch2
/-! starts -/
theorem lst_ok {col : Nat → Int32} {n : Nat} {c : Int32} : ∀ (d k : Nat), n - k = d → ∀ a ∈ lst col n c k, a < n ∧ col a = c := by
  intro d
  induction d with
  | zero => intro k h1 a ha; rw [lst_nil (by omega)] at ha; cases ha
  | succ d ih =>
    intro k h1 a ha
    rw [lst_cons (by omega)] at ha
    by_cases e : col k = c
    · rw [if_pos e] at ha
      rcases List.mem_cons.mp ha with rfl | ha
      · exact ⟨by omega, e⟩
      · exact ih (k + 1) (by omega) a ha
    · rw [if_neg e] at ha
      exact ih (k + 1) (by omega) a ha
theorem R1_ok {col : Nat → Int32} {n : Nat} {t : N3} (h : t ∈ R1 col n 0) : tIn n t ∧ rbT col t := by
  unfold R1 R2 R3 at h
  obtain ⟨r, hr, h⟩ := List.mem_flatMap.mp h
  obtain ⟨g, hg, h⟩ := List.mem_flatMap.mp h
  obtain ⟨b, hb, rfl⟩ := List.mem_map.mp h
  have a1 := lst_ok n 0 (by omega) r hr
  have a2 := lst_ok n 0 (by omega) g hg
  have a3 := lst_ok n 0 (by omega) b hb
  exact ⟨⟨a1.1, a2.1, a3.1⟩, a1.2, a2.2, a3.2⟩
theorem startsJ (K : Nat) (hK : 4000 ≤ K) {n : Nat} {x y px py : Nat → Int32} {X Y : Nat → Int} (h : Pts n x y X Y) (h' : Pts n px py X Y) {col mcol : Nat → Int32} (hcol : ∀ i, i < n → mcol i = col i) {cx cy : Int} (hcx : -20 ≤ cx ∧ cx ≤ 20) (hcy : -20 ≤ cy ∧ cy ≤ 20) {rat : Nat → Int32} (hra : RA rat (R1 col n 0)) : ∀ (fu i : Nat) (L : List N3) (m : Int32) (ch : Nat → Int32) (gone s l sd : Int32) (nx ny nl ns nsl : Int64) (fx fy : Int32) (rm : Int32) (p q b fa fb : Int64) (went hd : Int32) (cor cors row tr : Nat → Int32), pend col n m ch L → (R1 col n 0).drop i = L → i + L.length = (R1 col n 0).length → L.length < fu → ∃ s' l' o1 o2 o3 o4 o5 o6 o7 o8 o9 o10 v1 v2 v3 v4 v5 v6 v7 v8 v9 v10 v11 v12, fX7_runAll_L18 K (nI n) (iI cx) (iI cy) x y col fu m (nI i) gone s l sd ch nx ny nl ns nsl fx fy = some (o1, s', l', o2, o3, o4, o5, o6, o7, o8, o9, o10) ∧ fX12_starts_L27 K (nI n) (iI cx) (iI cy) (nI (R1 col n 0).length) px py mcol rat fu s l (nI i) rm p q b fa fb went hd cor cors row tr = some (s', l', v1, v2, v3, v4, v5, v6, v7, v8, v9, v10, v11, v12) := by
  intro fu
  induction fu with
  | zero => intro i L m ch gone s l sd nx ny nl ns nsl fx fy rm p q b fa fb went hd cor cors row tr h1 h2 h3 h4; omega
  | succ fu ih =>
    intro i L m ch gone s l sd nx ny nl ns nsl fx fy rm p q b fa fb went hd cor cors row tr h1 h2 h3 h4
    have hN := R1_len col h.1
    rw [fX7_runAll_L18, fX12_starts_L27]
    rcases h1 with ⟨rfl, rfl⟩ | ⟨rfl, r, g, bl, hr, hg, hb, hc, rfl, n1, n2⟩
    · have hi : (R1 col n 0).length ≤ i := by simp at h3; omega
      have hi' : i ≤ 512 := by simp at h3; omega
      rw [if_pos (nI_le hi (by omega))]
      by_cases e : (512 : Int32) ≤ nI i
      · rw [if_pos e]
        exact ⟨_, _, _, _, _, _, _, _, _, _, _, _, _, _, _, _, _, _, _, _, _, _, _, _, rfl, rfl⟩
      · rw [if_neg e, if_pos rfl]
        exact ⟨_, _, _, _, _, _, _, _, _, _, _, _, _, _, _, _, _, _, _, _, _, _, _, _, rfl, rfl⟩
    · rw [List.length_cons] at h3 h4
      have hi : i < (R1 col n 0).length := by omega
      have hat : (R1 col n 0)[i]? = some (r, g, bl) := by
        have := congrArg (fun l => l[0]?) h2
        rw [List.getElem?_drop] at this
        simpa using this
      obtain ⟨q1, q2, q3⟩ := hra i (r, g, bl) hat
      obtain ⟨-, hrb⟩ := R1_ok (List.mem_of_getElem? hat)
      have w3 : ((3 : Int32) * nI i) + 2 = nI (3 * i + 2) := by rw [mul3_nI, show (2 : Int32) = nI 2 from rfl, add_nI]
      have w2 : ((3 : Int32) * nI i) + 1 = nI (3 * i + 1) := by rw [mul3_nI, nI_1]
      rw [if_neg (show ¬ (512 : Int32) ≤ nI i from (nI_ge (show i < 512 by omega) (by decide) : ¬ nI 512 ≤ nI i)), if_neg one_ne, if_neg (nI_ge hi (by omega)), w2, w3, mul3_nI, gd_t (inb_nI (by omega) (by decide)), gd_t (inb_nI (by omega) (by decide)), gd_t (inb_nI (by omega) (by decide)), nI_clamp (by omega), nI_clamp (by omega), nI_clamp (by omega), q1, q2, q3]
      obtain ⟨tr', s1, s2⟩ := stwM K went tr r g bl
      obtain ⟨k', D, g', sd', ch2, u1, u2, u3, u5, u6, u7, rm', p', q', b', fa', fb', w', cor', cors', row', tr2, hD, hk, e1, e2⟩ := allB' K hK h h' hcol hcx hcy (t := (r, g, bl)) ⟨hr, hg, hb⟩ hrb hc s2 gone sd nx ny nl ns nsl fx fy rm p q b fa fb (-1) hd cor cors row
      obtain ⟨c0, c1, c2⟩ := hc
      simp only [xl_e]
      rw [show (0 : Int32).toNatClampNeg = 0 from rfl, show (1 : Int32).toNatClampNeg = 1 from rfl, show (2 : Int32).toNatClampNeg = 2 from rfl, c0, c1, c2, e1, sm_b11, s1, sm_b2, e2, sm_b13]
      simp only [jn_e, jJ_D hD, nI_1]
      obtain ⟨ch3, d1, d2⟩ := choC K ch2 r g bl
      obtain ⟨m', ch4, f1, f2⟩ := nextC K hK h.1 col hr hg hb d2 n1 n2
      have hdrop : (R1 col n 0).drop (i + 1) = rst col n r g bl := by
        rw [← List.drop_drop, h2]; rfl
      by_cases e : D = 0
      · rw [if_pos e, show (if D = 0 then (1 : Int32) else 0) = 1 from if_pos e, if_neg one_ne, d1, sm_b1, f1, sm_b2, show s + 0 = s from Int32.add_zero s]
        exact ih (i + 1) _ m' ch4 _ _ _ _ _ _ _ _ _ _ _ _ _ _ _ _ _ _ _ _ _ _ _ f2 hdrop (by omega) (by omega)
      · rw [if_neg e, show (if D = 0 then (1 : Int32) else 0) = 0 from if_neg e, if_pos rfl, d1, sm_b1, f1, sm_b2]
        exact ih (i + 1) _ m' ch4 _ _ _ _ _ _ _ _ _ _ _ _ _ _ _ _ _ _ _ _ _ _ _ f2 hdrop (by omega) (by omega)
theorem HH0 (X Y : Nat → Int) (p q : Int) (l : List N3) : l.filter (HH X Y 0 p q) = l := by
  refine List.filter_eq_self.mpr (fun t _ => ?_)
  unfold HH
  simp
theorem ev_starts (K : Nat) (hK : 4000 ≤ K) (x_cloud_size : Int32) (x_cloud_x : Nat → Int32) (x_cloud_y : Nat → Int32) (x_cloud_colour : Nat → Int32) (x_cloud_load : Nat → Int32) (x_cloud_centreX : Int32) (x_cloud_centreY : Int32) (x_reader_tape : Nat → Int32) (x_reader_length : Int32) (x_reader_faultKind : Int32) (x_reader_faultPlace : Int32) (m_many : Int32) (m_px : Nat → Int32) (m_py : Nat → Int32) (m_colour : Nat → Int32) (m_load : Nat → Int32) (m_cx : Int32) (m_cy : Int32) (m_tape : Nat → Int32) (m_taped : Int32) (m_faultKind : Int32) (m_faultPlace : Int32) (x_chooser_gone : Int32) (x_chooser_stuck : Int32) (x_chooser_longest : Int32) (x_chooser_side : Int32) (x_chooser_chosen : Nat → Int32) (x_chooser_near_x : Int64) (x_chooser_near_y : Int64) (x_chooser_near_lower : Int64) (x_chooser_near_square : Int64) (x_chooser_near_squareLower : Int64) (x_chooser_near_fromX : Int32) (x_chooser_near_fromY : Int32) (m_rowMany : Int32) (m_placeX : Int64) (m_placeY : Int64) (m_below : Int64) (m_farAbove : Int64) (m_farBelow : Int64) (m_rainbowMany : Int32) (m_wentColour : Int32) (m_isHeld : Int32) (m_corner : Nat → Int32) (m_corners : Nat → Int32) (m_row : Nat → Int32) (m_rainbowAt : Nat → Int32) (m_trio : Nat → Int32) (a1 : Int32) (hR : Rel x_cloud_size x_cloud_x x_cloud_y x_cloud_colour x_cloud_load x_cloud_centreX x_cloud_centreY x_reader_tape x_reader_length x_reader_faultKind x_reader_faultPlace m_many m_px m_py m_colour m_load m_cx m_cy m_tape m_taped m_faultKind m_faultPlace) : ∃ (r : Int32) (o_x_chooser_gone : Int32) (o_x_chooser_stuck : Int32) (o_x_chooser_longest : Int32) (o_x_chooser_side : Int32) (o_x_chooser_chosen : Nat → Int32) (o_x_chooser_near_x : Int64) (o_x_chooser_near_y : Int64) (o_x_chooser_near_lower : Int64) (o_x_chooser_near_square : Int64) (o_x_chooser_near_squareLower : Int64) (o_x_chooser_near_fromX : Int32) (o_x_chooser_near_fromY : Int32) (o_m_rowMany : Int32) (o_m_placeX : Int64) (o_m_placeY : Int64) (o_m_below : Int64) (o_m_farAbove : Int64) (o_m_farBelow : Int64) (o_m_rainbowMany : Int32) (o_m_wentColour : Int32) (o_m_isHeld : Int32) (o_m_corner : Nat → Int32) (o_m_corners : Nat → Int32) (o_m_row : Nat → Int32) (o_m_rainbowAt : Nat → Int32) (o_m_trio : Nat → Int32), fX11_starts K x_cloud_size x_cloud_centreX x_cloud_centreY x_cloud_x x_cloud_y x_cloud_colour x_chooser_gone x_chooser_stuck x_chooser_longest x_chooser_side x_chooser_chosen x_chooser_near_x x_chooser_near_y x_chooser_near_lower x_chooser_near_square x_chooser_near_squareLower x_chooser_near_fromX x_chooser_near_fromY a1 = some (r, o_x_chooser_gone, o_x_chooser_stuck, o_x_chooser_longest, o_x_chooser_side, o_x_chooser_chosen, o_x_chooser_near_x, o_x_chooser_near_y, o_x_chooser_near_lower, o_x_chooser_near_square, o_x_chooser_near_squareLower, o_x_chooser_near_fromX, o_x_chooser_near_fromY) ∧ fX12_starts K m_many m_cx m_cy m_rowMany m_placeX m_placeY m_below m_farAbove m_farBelow m_rainbowMany m_wentColour m_isHeld m_px m_py m_colour m_corner m_corners m_row m_rainbowAt m_trio a1 = some (r, o_m_rowMany, o_m_placeX, o_m_placeY, o_m_below, o_m_farAbove, o_m_farBelow, o_m_rainbowMany, o_m_wentColour, o_m_isHeld, o_m_corner, o_m_corners, o_m_row, o_m_rainbowAt, o_m_trio) := by
  obtain ⟨n, rfl, rfl, hXc, hXm⟩ := Rel_pts hR
  obtain ⟨rfl, rfl, hpl⟩ := Rel_c hR
  obtain ⟨⟨n', hn', en, -, hpt⟩, -⟩ := hR
  have hn := hXc.1
  have hnn : n = n' := (nI_eqn (by omega) (by omega)).mp en
  subst hnn
  have hcol : ∀ i, i < n → m_colour i = x_cloud_colour i := fun i hi => (hpt i hi).1.2.2.1
  obtain ⟨cx, cy, rfl, rfl, hcx, hcy⟩ := isPl_i hpl
  have z0 : (a1 = 0) ↔ a1.toInt = 0 := a_eq (k := 0) ⟨by omega, by omega⟩
  have z1 : (a1 = 1) ↔ a1.toInt = 1 := a_eq (k := 1) ⟨by omega, by omega⟩
  unfold fX11_starts fX12_starts
  rw [in_spec, sm_b1]
  simp only [long_toInt, show (0 : Int64).toInt = 0 from rfl, show (1 : Int64).toInt = 1 from rfl, z0, z1]
  obtain ⟨rm', cor', cors', row', at'', g1, g2⟩ := raM K hK hXm hcol 0 (p := 0) (q := 0) ⟨by omega, by omega⟩ ⟨by omega, by omega⟩ m_rowMany m_rainbowMany m_corner m_corners m_row m_rainbowAt
  rw [HH0] at g1 g2
  obtain ⟨m, ch1, f1, f2⟩ := firstC K hK hn x_cloud_colour x_chooser_chosen
  have hN := R1_len x_cloud_colour hn
  obtain ⟨s', l', o1, o2, o3, o4, o5, o6, o7, o8, o9, o10, v1, v2, v3, v4, v5, v6, v7, v8, v9, v10, v11, v12, e1, e2⟩ := startsJ K hK hXc hXm hcol hcx hcy g2 K 0 _ m ch1 x_chooser_gone 0 0 x_chooser_side x_chooser_near_x x_chooser_near_y x_chooser_near_lower x_chooser_near_square x_chooser_near_squareLower x_chooser_near_fromX x_chooser_near_fromY rm' m_placeX m_placeY m_below m_farAbove m_farBelow m_wentColour m_isHeld cor' cors' row' m_trio f2 rfl (by omega) (by omega)
  rw [show nI 0 = (0 : Int32) from rfl] at e1 e2
  unfold fX7_runAll
  rw [f1, sm_b2, e1, sm_b12, sm_b12, sm_b12]
  by_cases w : 0 ≤ a1.toInt ∧ a1.toInt ≤ 1
  · rw [show (if 0 ≤ a1.toInt ∧ a1.toInt ≤ 1 then (1 : Int32) else 0) = 1 from if_pos w, if_neg one_ne, show fX12_laysRainbows K (nI n) m_rowMany m_rainbowMany m_px m_py m_colour m_corner m_corners m_row m_rainbowAt 0 0 0 = _ from g1, sm_b6, e2]
    simp only [b14, Option.bind_some]
    by_cases w0 : a1.toInt = 0
    · rw [if_pos w0, if_pos w0]
      exact ⟨_, _, _, _, _, _, _, _, _, _, _, _, _, _, _, _, _, _, _, _, _, _, _, _, _, _, _, rfl, rfl⟩
    · rw [if_neg w0, if_neg w0, if_pos (by omega)]
      exact ⟨_, _, _, _, _, _, _, _, _, _, _, _, _, _, _, _, _, _, _, _, _, _, _, _, _, _, _, rfl, rfl⟩
  · rw [show (if 0 ≤ a1.toInt ∧ a1.toInt ≤ 1 then (1 : Int32) else 0) = 0 from if_neg w, if_pos rfl, if_neg (by omega), if_neg (by omega)]
    exact ⟨_, _, _, _, _, _, _, _, _, _, _, _, _, _, _, _, _, _, _, _, _, _, _, _, _, _, _, rfl, rfl⟩
