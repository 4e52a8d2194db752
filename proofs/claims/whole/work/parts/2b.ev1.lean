def in20 (v : Int32) : Prop := -20 ≤ v.toInt ∧ v.toInt ≤ 20
def Rel (size : Int32) (x y col load : Nat → Int32) (cx cy : Int32) (tape : Nat → Int32) (len fk fp : Int32) (many : Int32) (px py mcol mload : Nat → Int32) (mcx mcy : Int32) (mtape : Nat → Int32) (taped mfk mfp : Int32) : Prop :=
  (∃ n : Nat, n ≤ 24 ∧ size = nI n ∧ many = nI n ∧ ∀ i : Nat, i < n → (px i = x i ∧ py i = y i ∧ mcol i = col i ∧ mload i = load i) ∧ in20 (x i) ∧ in20 (y i) ∧ (0 ≤ (col i).toInt ∧ (col i).toInt ≤ 2) ∧ (0 ≤ (load i).toInt ∧ (load i).toInt ≤ 99)) ∧
  (in20 cx ∧ in20 cy ∧ mcx = cx ∧ mcy = cy) ∧
  (∃ t : Nat, t ≤ 600 ∧ len = nI t ∧ taped = nI t ∧ ∀ i : Nat, i < t → mtape i = tape i ∧ -128 ≤ (tape i).toInt ∧ (tape i).toInt ≤ 127) ∧
  mfk = fk ∧ mfp = fp
theorem upd_rel {m x : Nat → Int32} {t : Nat} {v : Int32} (h : ∀ i : Nat, i < t → m i = x i) : ∀ i : Nat, i < t + 1 → upd m t v i = upd x t v i := by
  intro i hi
  unfold upd
  by_cases e : i = t
  · simp [e]
  · simp [e]
    exact h i (by omega)
theorem upd_at {f : Nat → Int32} {k : Nat} {v : Int32} : upd f k v k = v := by
  unfold upd; simp
theorem upd_ne {f : Nat → Int32} {k j : Nat} {v : Int32} (h : j ≠ k) : upd f k v j = f j := by
  unfold upd; simp [h]
theorem both {α : Type} {e : Option α} (h : ∃ r, e = some r) : ∃ r, e = some r ∧ e = some r := h.elim fun r h => ⟨r, h, h⟩
theorem ev_fault (K : Nat) (hK : 4000 ≤ K) (x_cloud_size : Int32) (x_cloud_x : Nat → Int32) (x_cloud_y : Nat → Int32) (x_cloud_colour : Nat → Int32) (x_cloud_load : Nat → Int32) (x_cloud_centreX : Int32) (x_cloud_centreY : Int32) (x_reader_tape : Nat → Int32) (x_reader_length : Int32) (x_reader_faultKind : Int32) (x_reader_faultPlace : Int32) (m_many : Int32) (m_px : Nat → Int32) (m_py : Nat → Int32) (m_colour : Nat → Int32) (m_load : Nat → Int32) (m_cx : Int32) (m_cy : Int32) (m_tape : Nat → Int32) (m_taped : Int32) (m_faultKind : Int32) (m_faultPlace : Int32) (a1 : Int32) (hR : Rel x_cloud_size x_cloud_x x_cloud_y x_cloud_colour x_cloud_load x_cloud_centreX x_cloud_centreY x_reader_tape x_reader_length x_reader_faultKind x_reader_faultPlace m_many m_px m_py m_colour m_load m_cx m_cy m_tape m_taped m_faultKind m_faultPlace) : ∃ (r : Int32), fX11_fault K x_reader_faultKind x_reader_faultPlace a1 = some r ∧ fX12_fault K m_faultKind m_faultPlace a1 = some r := by
  obtain ⟨-, -, -, e1, e2⟩ := hR
  subst e1 e2
  unfold fX11_fault fX12_fault
  refine both ?_
  (repeat' split) <;> exact ⟨_, rfl⟩
theorem ev_centre (K : Nat) (hK : 4000 ≤ K) (x_cloud_size : Int32) (x_cloud_x : Nat → Int32) (x_cloud_y : Nat → Int32) (x_cloud_colour : Nat → Int32) (x_cloud_load : Nat → Int32) (x_cloud_centreX : Int32) (x_cloud_centreY : Int32) (x_reader_tape : Nat → Int32) (x_reader_length : Int32) (x_reader_faultKind : Int32) (x_reader_faultPlace : Int32) (m_many : Int32) (m_px : Nat → Int32) (m_py : Nat → Int32) (m_colour : Nat → Int32) (m_load : Nat → Int32) (m_cx : Int32) (m_cy : Int32) (m_tape : Nat → Int32) (m_taped : Int32) (m_faultKind : Int32) (m_faultPlace : Int32) (a1 : Int32) (hR : Rel x_cloud_size x_cloud_x x_cloud_y x_cloud_colour x_cloud_load x_cloud_centreX x_cloud_centreY x_reader_tape x_reader_length x_reader_faultKind x_reader_faultPlace m_many m_px m_py m_colour m_load m_cx m_cy m_tape m_taped m_faultKind m_faultPlace) : ∃ (r : Int64), fX11_centre K x_cloud_centreX x_cloud_centreY a1 = some r ∧ fX12_centre K m_cx m_cy a1 = some r := by
  obtain ⟨-, ⟨-, -, e1, e2⟩, -⟩ := hR
  subst e1 e2
  unfold fX11_centre fX12_centre
  refine both ?_
  (repeat' split) <;> exact ⟨_, rfl⟩
theorem ev_end (K : Nat) (hK : 4000 ≤ K) (x_cloud_size : Int32) (x_cloud_x : Nat → Int32) (x_cloud_y : Nat → Int32) (x_cloud_colour : Nat → Int32) (x_cloud_load : Nat → Int32) (x_cloud_centreX : Int32) (x_cloud_centreY : Int32) (x_reader_tape : Nat → Int32) (x_reader_length : Int32) (x_reader_faultKind : Int32) (x_reader_faultPlace : Int32) (m_many : Int32) (m_px : Nat → Int32) (m_py : Nat → Int32) (m_colour : Nat → Int32) (m_load : Nat → Int32) (m_cx : Int32) (m_cy : Int32) (m_tape : Nat → Int32) (m_taped : Int32) (m_faultKind : Int32) (m_faultPlace : Int32) (a1 : Int32) (hR : Rel x_cloud_size x_cloud_x x_cloud_y x_cloud_colour x_cloud_load x_cloud_centreX x_cloud_centreY x_reader_tape x_reader_length x_reader_faultKind x_reader_faultPlace m_many m_px m_py m_colour m_load m_cx m_cy m_tape m_taped m_faultKind m_faultPlace) : ∃ (r : Int32) (o_x_reader_length : Int32) (o_m_taped : Int32), fX11_end K x_reader_length a1 = some (r, o_x_reader_length) ∧ fX12_end K m_taped a1 = some (r, o_m_taped) ∧ Rel x_cloud_size x_cloud_x x_cloud_y x_cloud_colour x_cloud_load x_cloud_centreX x_cloud_centreY x_reader_tape o_x_reader_length x_reader_faultKind x_reader_faultPlace m_many m_px m_py m_colour m_load m_cx m_cy m_tape o_m_taped m_faultKind m_faultPlace := by
  obtain ⟨h1, h2, ⟨t, ht, rfl, rfl, htt⟩, h4⟩ := hR
  have e0 : ((0 : Int32)).toInt = 0 := by decide
  have e06 : ((0 : Int64)).toInt = 0 := by decide
  have en : (nI t).toInt = (t : Int) := nI_toInt (by omega)
  unfold fX11_end fX12_end b1
  simp only [in_spec, long_toInt, e06, en, i_lt_lit e0, Option.bind_some]
  simp only [Int32.le_iff_toInt_le, en]
  by_cases c1 : 0 ≤ a1.toInt ∧ a1.toInt ≤ (t : Int)
  · refine ⟨a1, a1, a1, ?_, ?_, h1, h2, ⟨a1.toInt.toNat, by omega, ?_, ?_, fun i hi => htt i (by omega)⟩, h4⟩
    · rw [if_neg (by omega), if_pos c1.2]
    · rw [if_pos c1, if_neg one_ne]
    · rw [nI_iI, Int.toNat_of_nonneg c1.1, iI_toInt]
    · rw [nI_iI, Int.toNat_of_nonneg c1.1, iI_toInt]
  · refine ⟨-1, nI t, nI t, ?_, ?_, h1, h2, ⟨t, ht, rfl, rfl, htt⟩, h4⟩
    · by_cases c2 : a1.toInt < 0
      · rw [if_pos c2]
      · rw [if_neg c2, if_neg (by omega)]
    · rw [if_neg c1, if_pos rfl]
theorem ev_centres (K : Nat) (hK : 4000 ≤ K) (x_cloud_size : Int32) (x_cloud_x : Nat → Int32) (x_cloud_y : Nat → Int32) (x_cloud_colour : Nat → Int32) (x_cloud_load : Nat → Int32) (x_cloud_centreX : Int32) (x_cloud_centreY : Int32) (x_reader_tape : Nat → Int32) (x_reader_length : Int32) (x_reader_faultKind : Int32) (x_reader_faultPlace : Int32) (m_many : Int32) (m_px : Nat → Int32) (m_py : Nat → Int32) (m_colour : Nat → Int32) (m_load : Nat → Int32) (m_cx : Int32) (m_cy : Int32) (m_tape : Nat → Int32) (m_taped : Int32) (m_faultKind : Int32) (m_faultPlace : Int32) (a1 : Int32) (a2 : Int32) (hR : Rel x_cloud_size x_cloud_x x_cloud_y x_cloud_colour x_cloud_load x_cloud_centreX x_cloud_centreY x_reader_tape x_reader_length x_reader_faultKind x_reader_faultPlace m_many m_px m_py m_colour m_load m_cx m_cy m_tape m_taped m_faultKind m_faultPlace) : ∃ (r : Int32) (o_x_cloud_centreX : Int32) (o_x_cloud_centreY : Int32) (o_m_cx : Int32) (o_m_cy : Int32), fX11_centres K x_cloud_centreX x_cloud_centreY a1 a2 = some (r, o_x_cloud_centreX, o_x_cloud_centreY) ∧ fX12_centres K m_cx m_cy a1 a2 = some (r, o_m_cx, o_m_cy) ∧ Rel x_cloud_size x_cloud_x x_cloud_y x_cloud_colour x_cloud_load o_x_cloud_centreX o_x_cloud_centreY x_reader_tape x_reader_length x_reader_faultKind x_reader_faultPlace m_many m_px m_py m_colour m_load o_m_cx o_m_cy m_tape m_taped m_faultKind m_faultPlace := by
  obtain ⟨h1, ⟨g1, g2, e1, e2⟩, h3⟩ := hR
  rw [e1, e2]
  unfold fX11_centres fX12_centres b1
  rcases isPlace_c K a1 a2 with ⟨c, c1, c2⟩ | ⟨c, c1, c2⟩
  · rw [c1, c2]
    simp only [Option.bind_some, if_neg one_ne, jn, xl]
    by_cases q1 : x_cloud_centreX = a1
    · by_cases q2 : x_cloud_centreY = a2
      · refine ⟨0, a1, a2, a1, a2, ?_, ?_, h1, ⟨c.1, c.2, rfl, rfl⟩, h3⟩
        · simp [q1, q2]
        · simp [q1, q2]
      · refine ⟨1, a1, a2, a1, a2, ?_, ?_, h1, ⟨c.1, c.2, rfl, rfl⟩, h3⟩
        · simp [q1, q2]
        · simp [q1, q2]
    · refine ⟨1, a1, a2, a1, a2, ?_, ?_, h1, ⟨c.1, c.2, rfl, rfl⟩, h3⟩
      · simp [q1]
      · simp [q1]
  · rw [c1, c2]
    exact ⟨-2, x_cloud_centreX, x_cloud_centreY, x_cloud_centreX, x_cloud_centreY, rfl, rfl, h1, ⟨g1, g2, rfl, rfl⟩, h3⟩
theorem ev_point (K : Nat) (hK : 4000 ≤ K) (x_cloud_size : Int32) (x_cloud_x : Nat → Int32) (x_cloud_y : Nat → Int32) (x_cloud_colour : Nat → Int32) (x_cloud_load : Nat → Int32) (x_cloud_centreX : Int32) (x_cloud_centreY : Int32) (x_reader_tape : Nat → Int32) (x_reader_length : Int32) (x_reader_faultKind : Int32) (x_reader_faultPlace : Int32) (m_many : Int32) (m_px : Nat → Int32) (m_py : Nat → Int32) (m_colour : Nat → Int32) (m_load : Nat → Int32) (m_cx : Int32) (m_cy : Int32) (m_tape : Nat → Int32) (m_taped : Int32) (m_faultKind : Int32) (m_faultPlace : Int32) (a1 : Int32) (a2 : Int32) (hR : Rel x_cloud_size x_cloud_x x_cloud_y x_cloud_colour x_cloud_load x_cloud_centreX x_cloud_centreY x_reader_tape x_reader_length x_reader_faultKind x_reader_faultPlace m_many m_px m_py m_colour m_load m_cx m_cy m_tape m_taped m_faultKind m_faultPlace) : ∃ (r : Int64), fX11_point K x_cloud_size x_cloud_x x_cloud_y x_cloud_colour x_cloud_load a1 a2 = some r ∧ fX12_point K m_many m_px m_py m_colour m_load a1 a2 = some r := by
  obtain ⟨⟨n, hn, rfl, rfl, hp⟩, -⟩ := hR
  have e06 : ((0 : Int64)).toInt = 0 := by decide
  have e36 : ((3 : Int64)).toInt = 3 := by decide
  have e0 : ((0 : Int32)).toInt = 0 := by decide
  have e1 : ((1 : Int32)).toInt = 1 := by decide
  have e2 : ((2 : Int32)).toInt = 2 := by decide
  have e3 : ((3 : Int32)).toInt = 3 := by decide
  unfold fX11_point fX12_point b1
  rcases has_c K n hn a1 with ⟨⟨j, hj, rfl⟩, c1, c2⟩ | ⟨-, c1, c2⟩
  · rw [c1, c2]
    obtain ⟨⟨p1, p2, p3, p4⟩, -⟩ := hp j hj
    have hin : (0 ≤ a2.toInt ∧ a2.toInt ≤ 3) ↔ (a2 = 0 ∨ a2 = 1 ∨ a2 = 2 ∨ a2 = 3) := by
      rw [i_eq_lit e0, i_eq_lit e1, i_eq_lit e2, i_eq_lit e3]
      omega
    simp only [Option.bind_some, if_neg one_ne, in_spec, long_toInt, e06, e36, gd_t (inb_nI (show j < 24 by omega) (by decide)), nI_clamp (show j < 2 ^ 31 by omega), p1, p2, p3, p4]
    by_cases q0 : a2 = 0
    · rw [if_pos (hin.mpr (Or.inl q0)), if_neg one_ne, if_pos q0, if_pos q0]
      exact ⟨_, rfl, rfl⟩
    · by_cases q1 : a2 = 1
      · rw [if_pos (hin.mpr (Or.inr (Or.inl q1))), if_neg one_ne, if_neg q0, if_neg q0, if_pos q1, if_pos q1]
        exact ⟨_, rfl, rfl⟩
      · by_cases q2 : a2 = 2
        · rw [if_pos (hin.mpr (Or.inr (Or.inr (Or.inl q2)))), if_neg one_ne, if_neg q0, if_neg q0, if_neg q1, if_neg q1, if_pos q2, if_pos q2]
          exact ⟨_, rfl, rfl⟩
        · by_cases q3 : a2 = 3
          · rw [if_pos (hin.mpr (Or.inr (Or.inr (Or.inr q3)))), if_neg one_ne, if_neg q0, if_neg q0, if_neg q1, if_neg q1, if_neg q2, if_neg q2, if_pos q3]
            exact ⟨_, rfl, rfl⟩
          · rw [if_neg (fun h => (hin.mp h).elim q0 (fun h => h.elim q1 (fun h => h.elim q2 q3))), if_pos rfl, if_neg q0, if_neg q1, if_neg q2, if_neg q3]
            exact ⟨_, rfl, rfl⟩
  · rw [c1, c2]
    exact ⟨_, rfl, rfl⟩
theorem ev_paints (K : Nat) (hK : 4000 ≤ K) (x_cloud_size : Int32) (x_cloud_x : Nat → Int32) (x_cloud_y : Nat → Int32) (x_cloud_colour : Nat → Int32) (x_cloud_load : Nat → Int32) (x_cloud_centreX : Int32) (x_cloud_centreY : Int32) (x_reader_tape : Nat → Int32) (x_reader_length : Int32) (x_reader_faultKind : Int32) (x_reader_faultPlace : Int32) (m_many : Int32) (m_px : Nat → Int32) (m_py : Nat → Int32) (m_colour : Nat → Int32) (m_load : Nat → Int32) (m_cx : Int32) (m_cy : Int32) (m_tape : Nat → Int32) (m_taped : Int32) (m_faultKind : Int32) (m_faultPlace : Int32) (a1 : Int32) (a2 : Int32) (hR : Rel x_cloud_size x_cloud_x x_cloud_y x_cloud_colour x_cloud_load x_cloud_centreX x_cloud_centreY x_reader_tape x_reader_length x_reader_faultKind x_reader_faultPlace m_many m_px m_py m_colour m_load m_cx m_cy m_tape m_taped m_faultKind m_faultPlace) : ∃ (r : Int32) (o_x_cloud_colour : Nat → Int32) (o_m_colour : Nat → Int32), fX11_paints K x_cloud_size x_cloud_colour a1 a2 = some (r, o_x_cloud_colour) ∧ fX12_paints K m_many m_colour a1 a2 = some (r, o_m_colour) ∧ Rel x_cloud_size x_cloud_x x_cloud_y o_x_cloud_colour x_cloud_load x_cloud_centreX x_cloud_centreY x_reader_tape x_reader_length x_reader_faultKind x_reader_faultPlace m_many m_px m_py o_m_colour m_load m_cx m_cy m_tape m_taped m_faultKind m_faultPlace := by
  obtain ⟨⟨n, hn, rfl, rfl, hp⟩, h2⟩ := hR
  unfold fX11_paints fX12_paints b1
  rcases has_c K n hn a1 with ⟨⟨j, hj, rfl⟩, c1, c2⟩ | ⟨-, c1, c2⟩
  · rw [c1, c2]
    have hj24 : j < 24 := by omega
    obtain ⟨⟨p1, p2, p3, p4⟩, r1, r2, r3, r4⟩ := hp j hj
    rcases isColour_c K a2 with ⟨d, d1, d2⟩ | ⟨d, d1, d2⟩
    · rw [d1, d2]
      simp only [Option.bind_some, if_neg one_ne, xl, gd_t (inb_nI hj24 (by decide)), nI_clamp (show j < 2 ^ 31 by omega), p3]
      refine ⟨_, _, _, rfl, rfl, ⟨n, hn, rfl, rfl, fun i hi => ?_⟩, h2⟩
      obtain ⟨⟨q1, q2, q3, q4⟩, s1, s2, s3, s4⟩ := hp i hi
      by_cases e : i = j
      · subst e
        exact ⟨⟨q1, q2, by rw [upd_at, upd_at], q4⟩, s1, s2, by rw [upd_at]; exact d, s4⟩
      · exact ⟨⟨q1, q2, by rw [upd_ne e, upd_ne e]; exact q3, q4⟩, s1, s2, by rw [upd_ne e]; exact s3, s4⟩
    · rw [d1, d2]
      exact ⟨_, _, _, rfl, rfl, ⟨n, hn, rfl, rfl, hp⟩, h2⟩
  · rw [c1, c2]
    exact ⟨_, _, _, rfl, rfl, ⟨n, hn, rfl, rfl, hp⟩, h2⟩
theorem ev_loads (K : Nat) (hK : 4000 ≤ K) (x_cloud_size : Int32) (x_cloud_x : Nat → Int32) (x_cloud_y : Nat → Int32) (x_cloud_colour : Nat → Int32) (x_cloud_load : Nat → Int32) (x_cloud_centreX : Int32) (x_cloud_centreY : Int32) (x_reader_tape : Nat → Int32) (x_reader_length : Int32) (x_reader_faultKind : Int32) (x_reader_faultPlace : Int32) (m_many : Int32) (m_px : Nat → Int32) (m_py : Nat → Int32) (m_colour : Nat → Int32) (m_load : Nat → Int32) (m_cx : Int32) (m_cy : Int32) (m_tape : Nat → Int32) (m_taped : Int32) (m_faultKind : Int32) (m_faultPlace : Int32) (a1 : Int32) (a2 : Int32) (hR : Rel x_cloud_size x_cloud_x x_cloud_y x_cloud_colour x_cloud_load x_cloud_centreX x_cloud_centreY x_reader_tape x_reader_length x_reader_faultKind x_reader_faultPlace m_many m_px m_py m_colour m_load m_cx m_cy m_tape m_taped m_faultKind m_faultPlace) : ∃ (r : Int32) (o_x_cloud_load : Nat → Int32) (o_m_load : Nat → Int32), fX11_loads K x_cloud_size x_cloud_load a1 a2 = some (r, o_x_cloud_load) ∧ fX12_loads K m_many m_load a1 a2 = some (r, o_m_load) ∧ Rel x_cloud_size x_cloud_x x_cloud_y x_cloud_colour o_x_cloud_load x_cloud_centreX x_cloud_centreY x_reader_tape x_reader_length x_reader_faultKind x_reader_faultPlace m_many m_px m_py m_colour o_m_load m_cx m_cy m_tape m_taped m_faultKind m_faultPlace := by
  obtain ⟨⟨n, hn, rfl, rfl, hp⟩, h2⟩ := hR
  have e06 : ((0 : Int64)).toInt = 0 := by decide
  have e99 : ((99 : Int64)).toInt = 99 := by decide
  have e0 : ((0 : Int32)).toInt = 0 := by decide
  have e9 : ((99 : Int32)).toInt = 99 := by decide
  unfold fX11_loads fX12_loads b1
  rcases has_c K n hn a1 with ⟨⟨j, hj, rfl⟩, c1, c2⟩ | ⟨-, c1, c2⟩
  · rw [c1, c2]
    have hj24 : j < 24 := by omega
    obtain ⟨⟨p1, p2, p3, p4⟩, r1, r2, r3, r4⟩ := hp j hj
    simp only [Option.bind_some, if_neg one_ne, xl, gd_t (inb_nI hj24 (by decide)), nI_clamp (show j < 2 ^ 31 by omega), p4, in_spec, long_toInt, e06, e99, i_lt_lit e0, i_le_lit e9]
    by_cases d : 0 ≤ a2.toInt ∧ a2.toInt ≤ 99
    · rw [if_pos d, if_neg one_ne, if_neg (show ¬ a2.toInt < 0 by omega), if_pos d.2]
      refine ⟨_, _, _, rfl, rfl, ⟨n, hn, rfl, rfl, fun i hi => ?_⟩, h2⟩
      obtain ⟨⟨q1, q2, q3, q4⟩, s1, s2, s3, s4⟩ := hp i hi
      by_cases e : i = j
      · subst e
        exact ⟨⟨q1, q2, q3, by rw [upd_at, upd_at]⟩, s1, s2, s3, by rw [upd_at]; exact d⟩
      · exact ⟨⟨q1, q2, q3, by rw [upd_ne e, upd_ne e]; exact q4⟩, s1, s2, s3, by rw [upd_ne e]; exact s4⟩
    · rw [if_neg d, if_pos rfl]
      refine ⟨_, _, _, ?_, rfl, ⟨n, hn, rfl, rfl, hp⟩, h2⟩
      by_cases d2 : a2.toInt < 0
      · rw [if_pos d2]
      · rw [if_neg d2, if_neg (show ¬ a2.toInt ≤ 99 by omega)]
  · rw [c1, c2]
    exact ⟨_, _, _, rfl, rfl, ⟨n, hn, rfl, rfl, hp⟩, h2⟩
theorem ev_moves (K : Nat) (hK : 4000 ≤ K) (x_cloud_size : Int32) (x_cloud_x : Nat → Int32) (x_cloud_y : Nat → Int32) (x_cloud_colour : Nat → Int32) (x_cloud_load : Nat → Int32) (x_cloud_centreX : Int32) (x_cloud_centreY : Int32) (x_reader_tape : Nat → Int32) (x_reader_length : Int32) (x_reader_faultKind : Int32) (x_reader_faultPlace : Int32) (m_many : Int32) (m_px : Nat → Int32) (m_py : Nat → Int32) (m_colour : Nat → Int32) (m_load : Nat → Int32) (m_cx : Int32) (m_cy : Int32) (m_tape : Nat → Int32) (m_taped : Int32) (m_faultKind : Int32) (m_faultPlace : Int32) (a1 : Int32) (a2 : Int32) (a3 : Int32) (hR : Rel x_cloud_size x_cloud_x x_cloud_y x_cloud_colour x_cloud_load x_cloud_centreX x_cloud_centreY x_reader_tape x_reader_length x_reader_faultKind x_reader_faultPlace m_many m_px m_py m_colour m_load m_cx m_cy m_tape m_taped m_faultKind m_faultPlace) : ∃ (r : Int32) (o_x_cloud_x : Nat → Int32) (o_x_cloud_y : Nat → Int32) (o_m_px : Nat → Int32) (o_m_py : Nat → Int32), fX11_moves K x_cloud_size x_cloud_x x_cloud_y a1 a2 a3 = some (r, o_x_cloud_x, o_x_cloud_y) ∧ fX12_moves K m_many m_px m_py a1 a2 a3 = some (r, o_m_px, o_m_py) ∧ Rel x_cloud_size o_x_cloud_x o_x_cloud_y x_cloud_colour x_cloud_load x_cloud_centreX x_cloud_centreY x_reader_tape x_reader_length x_reader_faultKind x_reader_faultPlace m_many o_m_px o_m_py m_colour m_load m_cx m_cy m_tape m_taped m_faultKind m_faultPlace := by
  obtain ⟨⟨n, hn, rfl, rfl, hp⟩, h2⟩ := hR
  unfold fX11_moves fX12_moves b1
  rcases has_c K n hn a1 with ⟨⟨j, hj, rfl⟩, c1, c2⟩ | ⟨-, c1, c2⟩
  · rw [c1, c2]
    have hj24 : j < 24 := by omega
    obtain ⟨⟨p1, p2, p3, p4⟩, r1, r2, r3, r4⟩ := hp j hj
    rcases isPlace_c K a2 a3 with ⟨d, d1, d2⟩ | ⟨d, d1, d2⟩
    · rw [d1, d2]
      have hrel : ∀ i : Nat, i < n → (upd m_px j a2 i = upd x_cloud_x j a2 i ∧ upd m_py j a3 i = upd x_cloud_y j a3 i ∧ m_colour i = x_cloud_colour i ∧ m_load i = x_cloud_load i) ∧ in20 (upd x_cloud_x j a2 i) ∧ in20 (upd x_cloud_y j a3 i) ∧ (0 ≤ (x_cloud_colour i).toInt ∧ (x_cloud_colour i).toInt ≤ 2) ∧ (0 ≤ (x_cloud_load i).toInt ∧ (x_cloud_load i).toInt ≤ 99) := fun i hi => by
        obtain ⟨⟨q1, q2, q3, q4⟩, s1, s2, s3, s4⟩ := hp i hi
        by_cases e : i = j
        · subst e
          exact ⟨⟨by rw [upd_at, upd_at], by rw [upd_at, upd_at], q3, q4⟩, by rw [upd_at]; exact d.1, by rw [upd_at]; exact d.2, s3, s4⟩
        · exact ⟨⟨by rw [upd_ne e, upd_ne e]; exact q1, by rw [upd_ne e, upd_ne e]; exact q2, q3, q4⟩, by rw [upd_ne e]; exact s1, by rw [upd_ne e]; exact s2, s3, s4⟩
      simp only [fX0_isAt, Option.bind_some, if_neg one_ne, xl, jn, gd_t (inb_nI hj24 (by decide)), nI_clamp (show j < 2 ^ 31 by omega), p1, p2]
      by_cases q1 : x_cloud_x j = a2
      · rw [if_pos q1, if_pos q1]
        by_cases q2 : x_cloud_y j = a3
        · rw [if_pos q2, if_pos q2]
          exact ⟨_, _, _, _, _, rfl, rfl, ⟨n, hn, rfl, rfl, hrel⟩, h2⟩
        · rw [if_neg q2, if_neg q2]
          exact ⟨_, _, _, _, _, rfl, rfl, ⟨n, hn, rfl, rfl, hrel⟩, h2⟩
      · rw [if_neg q1, if_neg q1]
        exact ⟨_, _, _, _, _, rfl, rfl, ⟨n, hn, rfl, rfl, hrel⟩, h2⟩
    · rw [d1, d2]
      exact ⟨_, _, _, _, _, rfl, rfl, ⟨n, hn, rfl, rfl, hp⟩, h2⟩
  · rw [c1, c2]
    exact ⟨_, _, _, _, _, rfl, rfl, ⟨n, hn, rfl, rfl, hp⟩, h2⟩
theorem ev_adds (K : Nat) (hK : 4000 ≤ K) (x_cloud_size : Int32) (x_cloud_x : Nat → Int32) (x_cloud_y : Nat → Int32) (x_cloud_colour : Nat → Int32) (x_cloud_load : Nat → Int32) (x_cloud_centreX : Int32) (x_cloud_centreY : Int32) (x_reader_tape : Nat → Int32) (x_reader_length : Int32) (x_reader_faultKind : Int32) (x_reader_faultPlace : Int32) (m_many : Int32) (m_px : Nat → Int32) (m_py : Nat → Int32) (m_colour : Nat → Int32) (m_load : Nat → Int32) (m_cx : Int32) (m_cy : Int32) (m_tape : Nat → Int32) (m_taped : Int32) (m_faultKind : Int32) (m_faultPlace : Int32) (a1 : Int32) (a2 : Int32) (a3 : Int32) (hR : Rel x_cloud_size x_cloud_x x_cloud_y x_cloud_colour x_cloud_load x_cloud_centreX x_cloud_centreY x_reader_tape x_reader_length x_reader_faultKind x_reader_faultPlace m_many m_px m_py m_colour m_load m_cx m_cy m_tape m_taped m_faultKind m_faultPlace) : ∃ (r : Int32) (o_x_cloud_size : Int32) (o_x_cloud_x : Nat → Int32) (o_x_cloud_y : Nat → Int32) (o_x_cloud_colour : Nat → Int32) (o_x_cloud_load : Nat → Int32) (o_m_many : Int32) (o_m_px : Nat → Int32) (o_m_py : Nat → Int32) (o_m_colour : Nat → Int32) (o_m_load : Nat → Int32), fX11_adds K x_cloud_size x_cloud_x x_cloud_y x_cloud_colour x_cloud_load a1 a2 a3 = some (r, o_x_cloud_size, o_x_cloud_x, o_x_cloud_y, o_x_cloud_colour, o_x_cloud_load) ∧ fX12_adds K m_many m_px m_py m_colour m_load a1 a2 a3 = some (r, o_m_many, o_m_px, o_m_py, o_m_colour, o_m_load) ∧ Rel o_x_cloud_size o_x_cloud_x o_x_cloud_y o_x_cloud_colour o_x_cloud_load x_cloud_centreX x_cloud_centreY x_reader_tape x_reader_length x_reader_faultKind x_reader_faultPlace o_m_many o_m_px o_m_py o_m_colour o_m_load m_cx m_cy m_tape m_taped m_faultKind m_faultPlace := by
  obtain ⟨⟨n, hn, rfl, rfl, hp⟩, h2⟩ := hR
  unfold fX11_adds fX12_adds b1
  rcases isPlace_c K a1 a2 with ⟨c, c1, c2⟩ | ⟨-, c1, c2⟩
  · rw [c1, c2]
    rcases isColour_c K a3 with ⟨d, d1, d2⟩ | ⟨d, d1, d2⟩
    · rw [d1, d2]
      simp only [Option.bind_some, if_neg one_ne, fX0_append, b6]
      have e24 : ((24 : Int32)) = nI 24 := rfl
      rw [e24]
      by_cases hf : n = 24
      · subst hf
        rw [if_pos rfl, if_neg (nI_nlt (Nat.le_refl 24) (by decide))]
        exact ⟨_, _, _, _, _, _, _, _, _, _, _, rfl, rfl, ⟨24, hn, rfl, rfl, hp⟩, h2⟩
      · have hlt : n < 24 := by omega
        rw [if_neg (fun e => hf ((nI_eq (by omega) (by decide)).mp e)), if_pos (nI_lt hlt (by decide))]
        simp only [xl, gd_t (inb_nI hlt (by decide)), nI_clamp (show n < 2 ^ 31 by omega), Option.bind_some, if_neg one_ne]
        refine ⟨_, _, _, _, _, _, _, _, _, _, _, rfl, rfl, ⟨n + 1, by omega, nI_1 n, nI_1 n, fun i hi => ?_⟩, h2⟩
        by_cases e : i = n
        · subst e
          simp only [upd_at]
          exact ⟨⟨trivial, trivial, trivial, trivial⟩, c.1, c.2, d, by decide, by decide⟩
        · simp only [upd_ne e]
          exact hp i (by omega)
    · rw [d1, d2]
      exact ⟨_, _, _, _, _, _, _, _, _, _, _, rfl, rfl, ⟨n, hn, rfl, rfl, hp⟩, h2⟩
  · rw [c1, c2]
    exact ⟨_, _, _, _, _, _, _, _, _, _, _, rfl, rfl, ⟨n, hn, rfl, rfl, hp⟩, h2⟩
def sh (j m : Nat) (f : Nat → Int32) (i : Nat) : Int32 := if j ≤ i ∧ i < m then f (i + 1) else f i
theorem sh_step {j m : Nat} (h : j < m) (f : Nat → Int32) : sh (j + 1) m (upd f j (f (j + 1))) = sh j m f := by
  funext i
  unfold sh upd
  by_cases e : i = j
  · subst e
    simp [h]
  · by_cases e2 : j + 1 ≤ i ∧ i < m
    · have e3 : j ≤ i ∧ i < m := by omega
      have e4 : ¬ i + 1 = j := by omega
      rw [if_pos e2, if_pos e3]
      simp [e4]
    · have e3 : ¬ (j ≤ i ∧ i < m) := by omega
      rw [if_neg e2, if_neg e3]
      simp [e]
theorem sh_end {m : Nat} (f : Nat → Int32) : sh m m f = f := by
  funext i
  unfold sh
  rw [if_neg (by omega)]
theorem removes_loop (K m : Nat) (hm : m < 24) : ∀ (fu j : Nat) (x y c l : Nat → Int32), j ≤ m → m - j < fu → fX12_removes_L23 K (nI m) fu (nI j) x y c l = some (sh j m x, sh j m y, sh j m c, sh j m l) := by
  intro fu
  induction fu with
  | zero => intro j x y c l h1 h2; omega
  | succ fu ih =>
    intro j x y c l h1 h2
    rw [fX12_removes_L23]
    by_cases hj : j = m
    · subst hj
      rw [if_pos (nI_le (Nat.le_refl j) (by omega))]
      simp only [sh_end]
    · have hlt : j < m := by omega
      rw [if_neg (nI_ge hlt (by omega))]
      simp only [nI_1, xl, gd_t (inb_nI (show j < 24 by omega) (by decide)), gd_t (inb_nI (show j + 1 < 24 by omega) (by decide)), nI_clamp (show j < 2 ^ 31 by omega), nI_clamp (show j + 1 < 2 ^ 31 by omega)]
      rw [ih (j + 1) _ _ _ _ (by omega) (by omega)]
      simp only [sh_step hlt]
theorem drop_loop (K : Nat) (s : Int32) : ∀ (fu : Nat) (k : Int32) (x y c l : Nat → Int32), fX0_drop_L2 K s fu k x y c l = fX12_removes_L23 K (s - 1) fu k x y c l := by
  intro fu
  induction fu with
  | zero => intro k x y c l; rfl
  | succ fu ih =>
    intro k x y c l
    rw [fX0_drop_L2, fX12_removes_L23]
    simp only [ih]
theorem ev_removes (K : Nat) (hK : 4000 ≤ K) (x_cloud_size : Int32) (x_cloud_x : Nat → Int32) (x_cloud_y : Nat → Int32) (x_cloud_colour : Nat → Int32) (x_cloud_load : Nat → Int32) (x_cloud_centreX : Int32) (x_cloud_centreY : Int32) (x_reader_tape : Nat → Int32) (x_reader_length : Int32) (x_reader_faultKind : Int32) (x_reader_faultPlace : Int32) (m_many : Int32) (m_px : Nat → Int32) (m_py : Nat → Int32) (m_colour : Nat → Int32) (m_load : Nat → Int32) (m_cx : Int32) (m_cy : Int32) (m_tape : Nat → Int32) (m_taped : Int32) (m_faultKind : Int32) (m_faultPlace : Int32) (a1 : Int32) (hR : Rel x_cloud_size x_cloud_x x_cloud_y x_cloud_colour x_cloud_load x_cloud_centreX x_cloud_centreY x_reader_tape x_reader_length x_reader_faultKind x_reader_faultPlace m_many m_px m_py m_colour m_load m_cx m_cy m_tape m_taped m_faultKind m_faultPlace) : ∃ (r : Int32) (o_x_cloud_size : Int32) (o_x_cloud_x : Nat → Int32) (o_x_cloud_y : Nat → Int32) (o_x_cloud_colour : Nat → Int32) (o_x_cloud_load : Nat → Int32) (o_m_many : Int32) (o_m_px : Nat → Int32) (o_m_py : Nat → Int32) (o_m_colour : Nat → Int32) (o_m_load : Nat → Int32), fX11_removes K x_cloud_size x_cloud_x x_cloud_y x_cloud_colour x_cloud_load a1 = some (r, o_x_cloud_size, o_x_cloud_x, o_x_cloud_y, o_x_cloud_colour, o_x_cloud_load) ∧ fX12_removes K m_many m_px m_py m_colour m_load a1 = some (r, o_m_many, o_m_px, o_m_py, o_m_colour, o_m_load) ∧ Rel o_x_cloud_size o_x_cloud_x o_x_cloud_y o_x_cloud_colour o_x_cloud_load x_cloud_centreX x_cloud_centreY x_reader_tape x_reader_length x_reader_faultKind x_reader_faultPlace o_m_many o_m_px o_m_py o_m_colour o_m_load m_cx m_cy m_tape m_taped m_faultKind m_faultPlace := by
  obtain ⟨⟨n, hn, rfl, rfl, hp⟩, h2⟩ := hR
  unfold fX11_removes fX12_removes b1
  rcases has_c K n hn a1 with ⟨⟨j, hj, rfl⟩, c1, c2⟩ | ⟨-, c1, c2⟩
  · rw [c1, c2]
    obtain ⟨k, rfl⟩ : ∃ k, n = k + 1 := ⟨n - 1, by omega⟩
    simp only [Option.bind_some, if_neg one_ne, fX0_drop, b4, b5, xl, drop_loop, nI_pred]
    rw [removes_loop K k (by omega) K j _ _ _ _ (by omega) (by omega), removes_loop K k (by omega) K j _ _ _ _ (by omega) (by omega)]
    refine ⟨_, _, _, _, _, _, _, _, _, _, _, rfl, rfl, ⟨k, by omega, rfl, rfl, fun i hi => ?_⟩, h2⟩
    unfold sh
    by_cases e : j ≤ i ∧ i < k
    · simp only [if_pos e]
      exact hp (i + 1) (by omega)
    · simp only [if_neg e]
      exact hp i (by omega)
  · rw [c1, c2]
    exact ⟨_, _, _, _, _, _, _, _, _, _, _, rfl, rfl, ⟨n, hn, rfl, rfl, hp⟩, h2⟩
theorem or_zero (x : Int32) : x ||| 0 = x := by
  apply Int32.toBitVec_inj.1
  simp
theorem bits_loop (K n : Nat) (hn : n ≤ 24) (w : Int32) (col mcol : Nat → Int32) (h : ∀ i : Nat, i < n → mcol i = col i) : ∀ (fu j : Nat) (acc : Int32), j ≤ n → n - j < fu → ∃ r : Int32, fX0_bitsOfColour_L4 K w (nI n) col fu acc (nI j) = some r ∧ fX12_bitsOf_L4 K w (nI n) mcol fu acc (nI j) = some r := by
  intro fu
  induction fu with
  | zero => intro j acc h1 h2; omega
  | succ fu ih =>
    intro j acc h1 h2
    rw [fX0_bitsOfColour_L4, fX12_bitsOf_L4]
    by_cases hj : j = n
    · subst hj
      rw [if_pos (nI_le (Nat.le_refl j) (by omega)), if_pos (nI_le (Nat.le_refl j) (by omega))]
      exact ⟨_, rfl, rfl⟩
    · have hlt : j < n := by omega
      rw [if_neg (nI_ge hlt (by omega)), if_neg (nI_ge hlt (by omega))]
      simp only [nI_1, xl, jn, gd_t (inb_nI (show j < 24 by omega) (by decide)), nI_clamp (show j < 2 ^ 31 by omega), h j hlt, or_zero]
      by_cases hc : col j = w
      · rw [if_pos hc, if_pos hc]
        exact ih (j + 1) _ (by omega) (by omega)
      · rw [if_neg hc, if_neg hc]
        exact ih (j + 1) _ (by omega) (by omega)
theorem loaded_loop (K n : Nat) (hn : n ≤ 24) (ld mld : Nat → Int32) (h : ∀ i : Nat, i < n → mld i = ld i) : ∀ (fu j : Nat) (acc : Int32), j ≤ n → n - j < fu → ∃ r : Int32, fX0_bitsLoaded_L4 K (nI n) ld fu acc (nI j) = some r ∧ fX12_loaded_L4 K (nI n) mld fu acc (nI j) = some r := by
  intro fu
  induction fu with
  | zero => intro j acc h1 h2; omega
  | succ fu ih =>
    intro j acc h1 h2
    rw [fX0_bitsLoaded_L4, fX12_loaded_L4]
    by_cases hj : j = n
    · subst hj
      rw [if_pos (nI_le (Nat.le_refl j) (by omega)), if_pos (nI_le (Nat.le_refl j) (by omega))]
      exact ⟨_, rfl, rfl⟩
    · have hlt : j < n := by omega
      rw [if_neg (nI_ge hlt (by omega)), if_neg (nI_ge hlt (by omega))]
      simp only [nI_1, xl, jn, gd_t (inb_nI (show j < 24 by omega) (by decide)), nI_clamp (show j < 2 ^ 31 by omega), h j hlt, or_zero]
      by_cases hc : ld j ≤ 0
      · rw [if_pos hc, if_pos hc]
        exact ih (j + 1) _ (by omega) (by omega)
      · rw [if_neg hc, if_neg hc]
        exact ih (j + 1) _ (by omega) (by omega)
theorem loaded_both (K n : Nat) (hK : 4000 ≤ K) (hn : n ≤ 24) (ld mld : Nat → Int32) (h : ∀ i : Nat, i < n → mld i = ld i) : ∃ r : Int32, fX0_bitsLoaded K (nI n) ld = some r ∧ fX12_loaded K (nI n) mld = some r := by
  obtain ⟨r, h1, h2⟩ := loaded_loop K n hn ld mld h K 0 0 (Nat.zero_le _) (by omega)
  refine ⟨r, ?_, ?_⟩
  · unfold fX0_bitsLoaded b1
    rw [show (0 : Int32) = nI 0 from rfl] at *
    rw [h1]; rfl
  · unfold fX12_loaded b1
    rw [show (0 : Int32) = nI 0 from rfl] at *
    rw [h2]; rfl
theorem ev_count (K : Nat) (hK : 4000 ≤ K) (x_cloud_size : Int32) (x_cloud_x : Nat → Int32) (x_cloud_y : Nat → Int32) (x_cloud_colour : Nat → Int32) (x_cloud_load : Nat → Int32) (x_cloud_centreX : Int32) (x_cloud_centreY : Int32) (x_reader_tape : Nat → Int32) (x_reader_length : Int32) (x_reader_faultKind : Int32) (x_reader_faultPlace : Int32) (m_many : Int32) (m_px : Nat → Int32) (m_py : Nat → Int32) (m_colour : Nat → Int32) (m_load : Nat → Int32) (m_cx : Int32) (m_cy : Int32) (m_tape : Nat → Int32) (m_taped : Int32) (m_faultKind : Int32) (m_faultPlace : Int32) (a1 : Int32) (hR : Rel x_cloud_size x_cloud_x x_cloud_y x_cloud_colour x_cloud_load x_cloud_centreX x_cloud_centreY x_reader_tape x_reader_length x_reader_faultKind x_reader_faultPlace m_many m_px m_py m_colour m_load m_cx m_cy m_tape m_taped m_faultKind m_faultPlace) : ∃ (r : Int32), fX11_count K x_cloud_size x_cloud_colour x_cloud_load x_reader_length a1 = some r ∧ fX12_count K m_many m_taped m_colour m_load a1 = some r := by
  obtain ⟨⟨n, hn, rfl, rfl, hp⟩, -, ⟨t, ht, rfl, rfl, -⟩, -⟩ := hR
  obtain ⟨r1, c1, c2⟩ := bits_loop K n hn (a1 - 1) x_cloud_colour m_colour (fun i hi => (hp i hi).1.2.2.1) K 0 0 (Nat.zero_le _) (by omega)
  obtain ⟨r2, d1, d2⟩ := loaded_both K n hK hn x_cloud_load m_load (fun i hi => (hp i hi).1.2.2.2)
  rw [show nI 0 = (0 : Int32) from rfl] at c1 c2
  unfold fX11_count fX12_count fX0_bitsOfColour fX12_bitsOf b1 jn
  rw [c1, c2, d1, d2]
  simp only [Option.bind_some]
  refine both ?_
  (repeat' split) <;> exact ⟨_, rfl⟩
