--@ needs 3t.mix4
theorem cho_m {ch : Nat → Int32} {r g b n : Nat} (hr : r < n) (hg : g < n) (hb : b < n) (hc : cho ch r g b) : ∀ i, i < 3 → ch i = nI (mm r g b 0 i) ∧ mm r g b 0 i < n := by
  intro i hi
  have : i = 0 ∨ i = 1 ∨ i = 2 := by omega
  rcases this with rfl | rfl | rfl
  · exact ⟨hc.1, hr⟩
  · exact ⟨hc.2.1, hg⟩
  · exact ⟨hc.2.2, hb⟩
theorem choC (K : Nat) (ch : Nat → Int32) (r g b : Nat) : ∃ ch', fX7_choose K ch (nI r) (nI g) (nI b) = some ch' ∧ cho ch' r g b := by
  unfold fX7_choose
  simp only [xl_e]
  refine ⟨_, rfl, ?_, ?_, ?_⟩
  · rw [show (2 : Int32).toNatClampNeg = 2 from rfl, show (1 : Int32).toNatClampNeg = 1 from rfl, show (0 : Int32).toNatClampNeg = 0 from rfl, upd_ne (by omega), upd_ne (by omega), upd_at]
  · rw [show (2 : Int32).toNatClampNeg = 2 from rfl, show (1 : Int32).toNatClampNeg = 1 from rfl, upd_ne (by omega), upd_at]
  · rw [show (2 : Int32).toNatClampNeg = 2 from rfl, upd_at]
theorem updcho (ch : Nat → Int32) (r g b : Nat) : cho (upd (upd (upd ch (0 : Int32).toNatClampNeg (nI r)) (1 : Int32).toNatClampNeg (nI g)) (2 : Int32).toNatClampNeg (nI b)) r g b := by
  refine ⟨?_, ?_, ?_⟩
  · rw [show (2 : Int32).toNatClampNeg = 2 from rfl, show (1 : Int32).toNatClampNeg = 1 from rfl, show (0 : Int32).toNatClampNeg = 0 from rfl, upd_ne (by omega), upd_ne (by omega), upd_at]
  · rw [show (2 : Int32).toNatClampNeg = 2 from rfl, show (1 : Int32).toNatClampNeg = 1 from rfl, upd_ne (by omega), upd_at]
  · rw [show (2 : Int32).toNatClampNeg = 2 from rfl, upd_at]
theorem ev_mixture (K : Nat) (hK : 4000 ≤ K) (x_cloud_size : Int32) (x_cloud_x : Nat → Int32) (x_cloud_y : Nat → Int32) (x_cloud_colour : Nat → Int32) (x_cloud_load : Nat → Int32) (x_cloud_centreX : Int32) (x_cloud_centreY : Int32) (x_reader_tape : Nat → Int32) (x_reader_length : Int32) (x_reader_faultKind : Int32) (x_reader_faultPlace : Int32) (m_many : Int32) (m_px : Nat → Int32) (m_py : Nat → Int32) (m_colour : Nat → Int32) (m_load : Nat → Int32) (m_cx : Int32) (m_cy : Int32) (m_tape : Nat → Int32) (m_taped : Int32) (m_faultKind : Int32) (m_faultPlace : Int32) (x_chooser_chosen : Nat → Int32) (x_chooser_mixed : Nat → Int64) (m_rowMany : Int32) (m_corner : Nat → Int32) (m_corners : Nat → Int32) (m_row : Nat → Int32) (m_mix : Nat → Int64) (m_trio : Nat → Int32) (a1 : Int32) (a2 : Int32) (a3 : Int32) (a4 : Int32) (hR : Rel x_cloud_size x_cloud_x x_cloud_y x_cloud_colour x_cloud_load x_cloud_centreX x_cloud_centreY x_reader_tape x_reader_length x_reader_faultKind x_reader_faultPlace m_many m_px m_py m_colour m_load m_cx m_cy m_tape m_taped m_faultKind m_faultPlace) : ∃ (r : Int64) (o_x_chooser_chosen : Nat → Int32) (o_x_chooser_mixed : Nat → Int64) (o_m_rowMany : Int32) (o_m_corner : Nat → Int32) (o_m_corners : Nat → Int32) (o_m_row : Nat → Int32) (o_m_mix : Nat → Int64) (o_m_trio : Nat → Int32), fX11_mixture K x_cloud_size x_cloud_centreX x_cloud_centreY x_cloud_x x_cloud_y x_cloud_colour x_chooser_chosen x_chooser_mixed a1 a2 a3 a4 = some (r, o_x_chooser_chosen, o_x_chooser_mixed) ∧ fX12_mixture K m_many m_cx m_cy m_rowMany m_px m_py m_colour m_corner m_corners m_row m_mix m_trio a1 a2 a3 a4 = some (r, o_m_rowMany, o_m_corner, o_m_corners, o_m_row, o_m_mix, o_m_trio) := by
  obtain ⟨n, rfl, rfl, hXc, hXm⟩ := Rel_pts hR
  obtain ⟨rfl, rfl, hpl⟩ := Rel_c hR
  obtain ⟨⟨n', hn', en, -, hpt⟩, -⟩ := hR
  have hn := hXc.1
  have hnn : n = n' := (nI_eqn (by omega) (by omega)).mp en
  subst hnn
  have hcol : ∀ i, i < n → m_colour i = x_cloud_colour i := fun i hi => (hpt i hi).1.2.2.1
  obtain ⟨p, q, rfl, rfl, hp, hq⟩ := isPl_i hpl
  unfold fX11_mixture fX12_mixture
  rcases rbB K hn hcol a1 a2 a3 with ⟨r, g, b, ⟨hr, hg, hb⟩, ⟨rfl, rfl, rfl⟩, -, c1, c2⟩ | ⟨c1, c2⟩
  · rw [c1, c2, sm_b1, sm_b1, if_neg one_ne, if_neg one_ne, in_spec, sm_b1]
    simp only [long_toInt, show (0 : Int64).toInt = 0 from rfl, show (3 : Int64).toInt = 3 from rfl, i_lt_lit (show (0 : Int32).toInt = 0 from rfl), i_le_lit (show (3 : Int32).toInt = 3 from rfl)]
    by_cases w : 0 ≤ a4.toInt ∧ a4.toInt ≤ 3
    · rw [if_neg (show ¬ a4.toInt < 0 by omega), if_pos w.2, show (if 0 ≤ a4.toInt ∧ a4.toInt ≤ 3 then (1 : Int32) else 0) = 1 from if_pos w, if_neg one_ne]
      obtain ⟨k, hk⟩ : ∃ k : Nat, a4.toInt = k := ⟨a4.toInt.toNat, by omega⟩
      have hk4 : k < 4 := by omega
      have e4 : a4 = nI k := by rw [nI_iI, ← hk, iI_toInt]
      subst e4
      obtain ⟨ch', d1, d2⟩ := choC K x_chooser_chosen r g b
      have hm := cho_m hr hg hb d2
      have hm' := cho_m hr hg hb (updcho m_trio r g b)
      have hmn : ∀ i, i < 3 → mm r g b 0 i < n := fun i hi => (hm i hi).2
      obtain ⟨t4, z1, z2⟩ := z4L K K 0 x_chooser_mixed (by omega) (by omega) (fun j hj => by omega)
      obtain ⟨rm', cor', cors', row', f⟩ := holds3 K hK hXm hr hg hb hp hq m_rowMany m_corner m_corners m_row
      rw [d1, three_bP K hn hr hg hb, sm_b1, sm_b1, f, sm_b5]
      unfold fX7_mix
      rw [show (0 : Int32) = nI 0 from rfl, z1, sm_b1, chH K hXc hr hg hb d2 hp hq, sm_b1, show nI 0 = (0 : Int32) from rfl]
      by_cases ht : hold3 (fun i => (x_cloud_x i).toInt) (fun i => (x_cloud_y i).toInt) p q (r, g, b) = true
      · have ht' : tHb ((x_cloud_x r).toInt - p) ((x_cloud_y r).toInt - q) ((x_cloud_x g).toInt - p) ((x_cloud_y g).toInt - q) ((x_cloud_x b).toInt - p) ((x_cloud_y b).toInt - q) = true := ht
        rw [show (if hold3 (fun i => (x_cloud_x i).toInt) (fun i => (x_cloud_y i).toInt) p q (r, g, b) = true then (1 : Int32) else 0) = 1 from if_pos ht, if_neg one_ne, show (if tHb ((x_cloud_x r).toInt - p) ((x_cloud_y r).toInt - q) ((x_cloud_x g).toInt - p) ((x_cloud_y g).toInt - q) ((x_cloud_x b).toInt - p) ((x_cloud_y b).toInt - q) = true then (1 : Int32) else 0) = 1 from if_pos ht', if_neg one_ne]
        obtain ⟨t3', y1, y2⟩ := z3L K K 0 m_mix (by omega) (by omega) (fun j hj => by omega)
        rw [show nI 0 = (0 : Int32) from rfl] at y1
        simp only [xl_e]
        rw [y1, sm_b1]
        unfold fX7_mixOne
        have fin : ∀ {arr' : Nat → Int64} {brr' : Nat → Int64} (rm : Int32) (cor cors row : Nat → Int32) (trio : Nat → Int32), (∃ z arr2 brr2, mxE K arr' = some (1, arr2) ∧ arr2 k = z ∧ mxF K (nI k) rm cor cors row trio brr' = some (z, rm, cor, cors, row, brr2, trio)) → ∃ (rr : Int64) (o1 : Nat → Int32) (o2 : Nat → Int64) (o3 : Int32) (o4 o5 o6 : Nat → Int32) (o7 : Nat → Int64) (o8 : Nat → Int32), b2 (mxE K arr') (fun r_5 t_chooser_mixed_6 => if r_5 = 0 then some ((-9223372036854775808 : Int64), ch', t_chooser_mixed_6) else gd (inb (nI k) 4) (some ((t_chooser_mixed_6 (nI k).toNatClampNeg), ch', t_chooser_mixed_6))) = some (rr, o1, o2) ∧ mxF K (nI k) rm cor cors row trio brr' = some (rr, o3, o4, o5, o6, o7, o8) := by
          rintro arr' brr' rm cor cors row trio ⟨z, arr2, brr2, g1, g2, g3'⟩
          rw [g1, sm_b2, if_neg one_ne, gd_t (inb_nI hk4 (by decide)), nI_clamp (by omega), g2, g3']
          exact ⟨_, _, _, _, _, _, _, _, _, rfl, rfl⟩
        rcases oneC K hXc hm hp hq K 0 (by omega) (by omega) (fun j hj => by omega) with ⟨c, hc, v1, v2, v3⟩ | ⟨v1, v3⟩
        · rcases oneM K hXm hm' hp hq K 0 t3' (by omega) (by omega) (fun j hj => by omega) y2 with ⟨c', t', hc', u1', u2', u3', u4'⟩ | ⟨u1', -⟩
          · have ec : c = c' := by
              rcases Nat.lt_trichotomy c c' with e | e | e
              · exact absurd v1 (u2' c e)
              · exact e
              · exact absurd u1' (v2 c' e)
            subst ec
            rw [show nI 0 = (0 : Int32) from rfl] at v3 u3'
            rw [v3, sm_inl, u1_e, gd_t (inb_nI (show c < 4 by omega) (by decide)), nI_clamp (by omega), xl_e, xl_e, sm_b2, u3', sm_b2]
            simp only [jn_e]
            rw [if_neg one_ne, if_neg one_ne]
            refine fin _ _ _ _ _ (one_end K hK hc (fun k hk => ?_) u4' hk4 _ _ _ _ _)
            rw [show (3 : Int32).toNatClampNeg = 3 from rfl]
            have hz := z2 k hk
            have hs : s3 (e1v c) 3 = 1 := by
              have : c = 0 ∨ c = 1 ∨ c = 2 := by omega
              rcases this with rfl | rfl | rfl <;> decide
            by_cases e3 : k = 3
            · rw [e3, updL_at, hs]; rfl
            · rw [updL_ne e3]
              have es : s3 (e1v c) k = e1v c k := by unfold s3; rw [if_neg e3]
              rw [es]
              unfold e1v
              by_cases e : k = c
              · rw [e, updL_at, if_pos rfl]; rfl
              · rw [updL_ne e, if_neg e]; exact hz
          · exact absurd v1 (u1' c hc)
        · rcases oneM K hXm hm' hp hq K 0 t3' (by omega) (by omega) (fun j hj => by omega) y2 with ⟨c', t', hc', u1', -⟩ | ⟨u1', t', u3', u4'⟩
          · exact absurd u1' (v1 c' hc')
          · rw [show nI 0 = (0 : Int32) from rfl] at v3 u3'
            rw [v3, sm_inr, u0_e, sm_b2, u3', sm_b2]
            simp only [jn_e]
            rw [if_pos True.intro, if_pos True.intro]
            obtain ⟨rm1, cor1, cors1, row1, P01⟩ := pairM K hK hXm hm' hp hq (show 0 < 3 by omega) (show 1 < 3 by omega) (by omega) (v1 0 (by omega)) (v1 1 (by omega)) rm' cor' cors' row' t'
            rcases twoC K hK hXc hm hp hq t4 with ⟨w1, arr', s1, s2⟩ | ⟨n1, w2, arr', s1, s2⟩ | ⟨n1, n2, w3, arr', s1, s2⟩ | ⟨n1, n2, n3, s1⟩
            · rcases P01 with ⟨-, brr', p1, p2, p3, p4⟩ | ⟨no, -⟩
              · rw [s1, sm_b2, if_neg one_ne]
                rw [show fX12_mixesTwo K (nI n) (iI p) (iI q) rm' m_px m_py cor' cors' row' t' _ 0 1 = _ from p1, sm_b6, if_neg one_ne, if_neg one_ne]
                exact fin _ _ _ _ _ (pr_end K hK hXc hp hq hmn (show 0 < 3 by omega) (show 1 < 3 by omega) (by omega) w1 z2 s2 u4' p2 p3 p4 hk4 _ _ _ _ _)
              · exact absurd w1 no
            · rcases P01 with ⟨yes, -⟩ | ⟨-, p1⟩
              · exact absurd yes n1
              · rw [s1, sm_b2, if_neg one_ne]
                rw [show fX12_mixesTwo K (nI n) (iI p) (iI q) rm' m_px m_py cor' cors' row' t' _ 0 1 = _ from p1, sm_b6, if_pos rfl]
                obtain ⟨rm2, cor2, cors2, row2, P02⟩ := pairM K hK hXm hm' hp hq (show 0 < 3 by omega) (show 2 < 3 by omega) (by omega) (v1 0 (by omega)) (v1 2 (by omega)) rm1 cor1 cors1 row1 t'
                rcases P02 with ⟨-, brr', p1, p2, p3, p4⟩ | ⟨no, -⟩
                · rw [show fX12_mixesTwo K (nI n) (iI p) (iI q) rm1 m_px m_py cor1 cors1 row1 t' _ 0 2 = _ from p1, sm_b6, if_neg one_ne, if_neg one_ne]
                  exact fin _ _ _ _ _ (pr_end K hK hXc hp hq hmn (show 0 < 3 by omega) (show 2 < 3 by omega) (by omega) w2 z2 s2 u4' p2 p3 p4 hk4 _ _ _ _ _)
                · exact absurd w2 no
            · rcases P01 with ⟨yes, -⟩ | ⟨-, p1⟩
              · exact absurd yes n1
              · rw [s1, sm_b2, if_neg one_ne]
                rw [show fX12_mixesTwo K (nI n) (iI p) (iI q) rm' m_px m_py cor' cors' row' t' _ 0 1 = _ from p1, sm_b6, if_pos rfl]
                obtain ⟨rm2, cor2, cors2, row2, P02⟩ := pairM K hK hXm hm' hp hq (show 0 < 3 by omega) (show 2 < 3 by omega) (by omega) (v1 0 (by omega)) (v1 2 (by omega)) rm1 cor1 cors1 row1 t'
                rcases P02 with ⟨yes, -⟩ | ⟨-, p2⟩
                · exact absurd yes n2
                · rw [show fX12_mixesTwo K (nI n) (iI p) (iI q) rm1 m_px m_py cor1 cors1 row1 t' _ 0 2 = _ from p2, sm_b6, if_pos rfl]
                  obtain ⟨rm3, cor3, cors3, row3, P12⟩ := pairM K hK hXm hm' hp hq (show 1 < 3 by omega) (show 2 < 3 by omega) (by omega) (v1 1 (by omega)) (v1 2 (by omega)) rm2 cor2 cors2 row2 t'
                  rcases P12 with ⟨-, brr', p1, p2, p3, p4⟩ | ⟨no, -⟩
                  · rw [show fX12_mixesTwo K (nI n) (iI p) (iI q) rm2 m_px m_py cor2 cors2 row2 t' _ 1 2 = _ from p1, sm_b6, if_neg one_ne, if_neg one_ne]
                    exact fin _ _ _ _ _ (pr_end K hK hXc hp hq hmn (show 1 < 3 by omega) (show 2 < 3 by omega) (by omega) w3 z2 s2 u4' p2 p3 p4 hk4 _ _ _ _ _)
                  · exact absurd w3 no
            · rcases P01 with ⟨yes, -⟩ | ⟨-, p1⟩
              · exact absurd yes n1
              · rw [s1, sm_b2, if_pos rfl]
                rw [show fX12_mixesTwo K (nI n) (iI p) (iI q) rm' m_px m_py cor' cors' row' t' _ 0 1 = _ from p1, sm_b6, if_pos rfl]
                obtain ⟨rm2, cor2, cors2, row2, P02⟩ := pairM K hK hXm hm' hp hq (show 0 < 3 by omega) (show 2 < 3 by omega) (by omega) (v1 0 (by omega)) (v1 2 (by omega)) rm1 cor1 cors1 row1 t'
                rcases P02 with ⟨yes, -⟩ | ⟨-, p2⟩
                · exact absurd yes n2
                · rw [show fX12_mixesTwo K (nI n) (iI p) (iI q) rm1 m_px m_py cor1 cors1 row1 t' _ 0 2 = _ from p2, sm_b6, if_pos rfl]
                  obtain ⟨rm3, cor3, cors3, row3, P12⟩ := pairM K hK hXm hm' hp hq (show 1 < 3 by omega) (show 2 < 3 by omega) (by omega) (v1 1 (by omega)) (v1 2 (by omega)) rm2 cor2 cors2 row2 t'
                  rcases P12 with ⟨yes, -⟩ | ⟨-, p3⟩
                  · exact absurd yes n3
                  · rw [show fX12_mixesTwo K (nI n) (iI p) (iI q) rm2 m_px m_py cor2 cors2 row2 t' _ 1 2 = _ from p3, sm_b6, if_pos rfl, if_pos True.intro]
                    obtain ⟨arr', a1', a2'⟩ := thrC K hXc hm hp hq t4
                    obtain ⟨brr', b1', b2'⟩ := thrM K hXm hm' hp hq t'
                    obtain ⟨Q, hQ, l1, l2⟩ := three_par v1 n1 n2 n3 ht'
                    rw [a1', b1', sm_b1, sm_b1]
                    exact fin _ _ _ _ _ (thr_end K hK hXc hp hq hmn hQ l1 l2 a2' b2' hk4 _ _ _ _ _)
      · have ht' : ¬ tHb ((x_cloud_x r).toInt - p) ((x_cloud_y r).toInt - q) ((x_cloud_x g).toInt - p) ((x_cloud_y g).toInt - q) ((x_cloud_x b).toInt - p) ((x_cloud_y b).toInt - q) = true := ht
        rw [show (if hold3 (fun i => (x_cloud_x i).toInt) (fun i => (x_cloud_y i).toInt) p q (r, g, b) = true then (1 : Int32) else 0) = 0 from if_neg ht, if_pos rfl, show (if tHb ((x_cloud_x r).toInt - p) ((x_cloud_y r).toInt - q) ((x_cloud_x g).toInt - p) ((x_cloud_y g).toInt - q) ((x_cloud_x b).toInt - p) ((x_cloud_y b).toInt - q) = true then (1 : Int32) else 0) = 0 from if_neg ht', if_pos rfl, sm_b2, if_pos rfl]
        exact ⟨_, _, _, _, _, _, _, _, _, rfl, rfl⟩
    · rw [show (if 0 ≤ a4.toInt ∧ a4.toInt ≤ 3 then (1 : Int32) else 0) = 0 from if_neg w, if_pos rfl]
      refine ⟨-9223372036854775808, x_chooser_chosen, x_chooser_mixed, _, _, _, _, _, _, ?_, rfl⟩
      by_cases c0 : a4.toInt < 0
      · rw [if_pos c0]
      · rw [if_neg c0, if_neg (by omega)]
  · rw [c1, c2]
    exact ⟨_, _, _, _, _, _, _, _, _, rfl, rfl⟩
