--@ needs 3zh.cls
/-! partings, part, met -/
def bS (S : Int32) (i : Nat) : Bool := decide (bitS S i)
theorem begJ (K : Nat) {n : Nat} (hn : n ≤ 24) {S : Int32} (h7 : cnt (bS S) n ≤ 7) : ∀ (fu p : Nat) (m : Nat → Nat) (mA row pd : Nat → Int32), p ≤ n → n - p < fu → (∀ j, j < cnt (bS S) p → mA j = nI (m j) ∧ row j = 0 ∧ pd j = nI (m j) ∧ m j < n) → ∃ (m' : Nat → Nat) (mA' row' pd' : Nat → Int32), fX5_begin_L42 K S (nI n) fu (nI p) (nI (cnt (bS S) p)) mA row = some (nI (cnt (bS S) n), mA', row') ∧ fX12_finds_L8 K S (nI n) fu (nI p) (nI (cnt (bS S) p)) pd = some (nI (cnt (bS S) n), pd') ∧ ∀ j, j < cnt (bS S) n → mA' j = nI (m' j) ∧ row' j = 0 ∧ pd' j = nI (m' j) ∧ m' j < n := by
  intro fu
  induction fu with
  | zero => intro p m mA row pd h1 h2; omega
  | succ fu ih =>
    intro p m mA row pd h1 h2 h3
    rw [fX5_begin_L42, fX12_finds_L8]
    by_cases hi : p = n
    · subst hi
      rw [if_pos (nI_le (Nat.le_refl p) (by omega)), if_pos (nI_le (Nat.le_refl p) (by omega))]
      exact ⟨m, mA, row, pd, rfl, rfl, h3⟩
    · have hlt : p < n := by omega
      rw [if_neg (nI_ge hlt (by omega)), if_neg (nI_ge hlt (by omega))]
      unfold fX11_isIn
      have ec : cnt (bS S) (p + 1) = cnt (bS S) p + if bS S p then 1 else 0 := rfl
      by_cases hb : ((S >>> (nI p &&& 31)) &&& (1 : Int32)) = 0
      · have nb : bS S p = false := decide_eq_false (fun q => q hb)
        rw [nb] at ec
        have ec' : cnt (bS S) (p + 1) = cnt (bS S) p := by rw [ec]; rfl
        rw [if_pos hb, sm_b1, jn_e, if_pos rfl, jn_e, if_pos hb]
        simp only [xl_e, nI_1]
        have := ih (p + 1) m mA row pd (by omega) (by omega) (by rw [ec']; exact h3)
        rw [ec'] at this
        exact this
      · have nb : bS S p = true := decide_eq_true hb
        rw [nb] at ec
        have ec' : cnt (bS S) (p + 1) = cnt (bS S) p + 1 := by rw [ec]; rfl
        have mono : cnt (bS S) (p + 1) ≤ cnt (bS S) n := by
          have := cnt_add (bS S) (p + 1) (n - (p + 1))
          rw [show p + 1 + (n - (p + 1)) = n by omega] at this
          omega
        have hk7 : cnt (bS S) p < 7 := by omega
        rw [if_neg hb, sm_b1, jn_e, if_neg one_ne, jn_e, if_neg hb, if_neg (show ¬ (7 : Int32) ≤ nI (cnt (bS S) p) from (nI_ge hk7 (by decide) : ¬ nI 7 ≤ nI (cnt (bS S) p)))]
        simp only [gd_t (inb_nI hk7 (by decide)), nI_clamp (show cnt (bS S) p < 2 ^ 31 by omega), xl_e, nI_1]
        have := ih (p + 1) (fun j => if j = cnt (bS S) p then p else m j) (upd mA (cnt (bS S) p) (nI p)) (upd row (cnt (bS S) p) 0) (upd pd (cnt (bS S) p) (nI p)) (by omega) (by omega) (fun j hj => by
          rw [ec'] at hj
          by_cases e : j = cnt (bS S) p
          · subst e
            rw [upd_at, upd_at, upd_at, if_pos rfl]
            exact ⟨rfl, rfl, rfl, hlt⟩
          · rw [upd_ne e, upd_ne e, upd_ne e, if_neg e]
            exact h3 j (by omega))
        rw [ec'] at this
        exact this
theorem chain_all {s r : Nat} : ∀ {L : List (List Nat)}, chain s r L = true → ∀ l ∈ L, rowOK s r l = true := by
  intro L
  induction L with
  | nil => intro h; rw [chain] at h; cases h
  | cons a t ih =>
    intro h l hl
    obtain ⟨h1, h2⟩ := chain_cons h
    rcases List.mem_cons.mp hl with rfl | hl
    · exact h1
    · rcases h2 with ⟨rfl, -⟩ | ⟨l', t', rfl, -, -, h3⟩
      · cases hl
      · exact ih h3 l hl
theorem gen_sp {s r : Nat} (hs : 0 < s) (hs7 : s ≤ 7) (hr : r = 2 ∨ r = 3) : ∃ l0 t, gen s 0 r = l0 :: t ∧ chain s r (l0 :: t) = true ∧ (l0 :: t).length ≤ 2000 ∧ (∀ j, j < s → rw0 l0 j = 0) ∧ flB r l0 = false := by
  have h := gen_ok hs hs7 hr
  unfold genOK at h
  cases e : gen s 0 r with
  | nil => rw [e] at h; simp at h
  | cons l0 t =>
    rw [e] at h
    simp only [Bool.and_eq_true, decide_eq_true_eq, List.all_eq_true, List.mem_range, beq_iff_eq] at h
    exact ⟨l0, t, rfl, h.1.1, h.1.2, h.2.1, decide_eq_false h.2.2⟩
theorem TT_nil (r s : Nat) : TT r [] s 0 = gen s 0 r := by
  unfold TT
  simp
theorem canB (K : Nat) (hK : 4000 ≤ K) {n : Nat} (hn : n ≤ 24) (S R : Int32) (sz pa : Int32) (mA row : Nat → Int32) : (∃ (r s : Nat) (m : Nat → Nat) (mA' row' : Nat → Int32), (r = 2 ∨ r = 3) ∧ R = nI r ∧ 0 < s ∧ s ≤ 7 ∧ (∀ j, j < s → mA' j = nI (m j) ∧ m j < n) ∧ (∀ j, j < s → row' j = 0) ∧ fX5_begin K sz pa mA row (nI n) S R = some (1, nI s, nI r, mA', row') ∧ fX12_canPart K (nI n) S R = some 1 ∧ ∀ pd : Nat → Int32, ∃ pd', fX12_finds_L8 K S (nI n) K 0 0 pd = some (nI s, pd') ∧ ∀ j, j < s → pd' j = nI (m j)) ∨ ((∃ z1 z2 z3 z4, fX5_begin K sz pa mA row (nI n) S R = some (0, z1, z2, z3, z4)) ∧ fX12_canPart K (nI n) S R = some 0) := by
  unfold fX5_begin fX12_canPart
  rcases hasSet_c K n hn S with ⟨c, c1, c2⟩ | ⟨-, c1, c2⟩
  · rw [c1, c2, sm_b1, sm_b1, if_neg one_ne, if_neg one_ne]
    have eS : S = bP (bS S) n := isSt_bP hn c
    have hcl := cnt_le (bS S) n
    have hbc : ∀ {β : Type} (k : Int32 → Option β), b1 (fJ6_bitCount_0f7a4 K S) k = k (nI (cnt (bS S) n)) := fun k => by
      have := bP_b1 K (bS S) hn k
      rw [← eS] at this
      exact this
    rw [hbc, hbc]
    have c7 : ((7 : Int32) < nI (cnt (bS S) n)) ↔ 7 < cnt (bS S) n := nI_ltn (a := 7) (by omega) (by omega)
    simp only [c7, in_spec, long_toInt, show (2 : Int64).toInt = 2 from rfl, show (3 : Int64).toInt = 3 from rfl, i_lt_lit (show (2 : Int32).toInt = 2 from rfl), i_le_lit (show (3 : Int32).toInt = 3 from rfl), sm_b1]
    by_cases q7 : 7 < cnt (bS S) n
    · rw [if_pos q7, if_pos q7]
      exact Or.inr ⟨⟨_, _, _, _, rfl⟩, rfl⟩
    · rw [if_neg q7, if_neg q7]
      by_cases qr : 2 ≤ R.toInt ∧ R.toInt ≤ 3
      · rw [if_neg (show ¬ R.toInt < 2 by omega), if_pos qr.2, show (if 2 ≤ R.toInt ∧ R.toInt ≤ 3 then (1 : Int32) else 0) = 1 from if_pos qr, if_neg one_ne]
        obtain ⟨r, hr⟩ : ∃ r : Nat, R.toInt = r := ⟨R.toInt.toNat, by omega⟩
        have eR : R = nI r := by rw [nI_iI, ← hr, iI_toInt]
        obtain ⟨j0, hj0, hb0⟩ := isSt_bit hn c
        have hpos : 0 < cnt (bS S) n := by
          rcases Nat.eq_zero_or_pos (cnt (bS S) n) with e | e
          · have := cnt_0.mp e j0 hj0
            rw [show bS S j0 = true from decide_eq_true hb0] at this
            cases this
          · exact e
        obtain ⟨m, mA', row', pd0, f1, -, f3⟩ := begJ K hn (S := S) (by omega) K 0 (fun _ => 0) mA row mA (by omega) (by omega) (fun j hj => by unfold cnt at hj; omega)
        have f1' : fX5_begin_L42 K S (nI n) K 0 0 mA row = some (nI (cnt (bS S) n), mA', row') := f1
        rw [f1', sm_b3]
        refine Or.inl ⟨r, cnt (bS S) n, m, mA', row', by omega, eR, hpos, by omega, fun j hj => ⟨(f3 j hj).1, (f3 j hj).2.2.2⟩, fun j hj => (f3 j hj).2.1, by rw [eR], rfl, fun pd => ?_⟩
        obtain ⟨m2, mA2, row2, pd2, g1, g2, g3'⟩ := begJ K hn (S := S) (by omega) K 0 (fun _ => 0) mA row pd (by omega) (by omega) (fun j hj => by unfold cnt at hj; omega)
        have g1' : fX5_begin_L42 K S (nI n) K 0 0 mA row = some (nI (cnt (bS S) n), mA2, row2) := g1
        rw [f1'] at g1'
        injection g1' with g1'
        injection g1' with g4 g5
        injection g5 with g5 g6
        refine ⟨pd2, g2, fun j hj => ?_⟩
        rw [(g3' j hj).2.2.1, ← (g3' j hj).1, ← g5, (f3 j hj).1]
      · rw [show (if 2 ≤ R.toInt ∧ R.toInt ≤ 3 then (1 : Int32) else 0) = 0 from if_neg qr, if_pos rfl]
        by_cases q2 : R.toInt < 2
        · rw [if_pos q2]
          exact Or.inr ⟨⟨_, _, _, _, rfl⟩, rfl⟩
        · rw [if_neg q2, if_neg (by omega)]
          exact Or.inr ⟨⟨_, _, _, _, rfl⟩, rfl⟩
  · rw [c1, c2]
    exact Or.inr ⟨⟨_, _, _, _, rfl⟩, rfl⟩
theorem findsM (K : Nat) (hK : 4000 ≤ K) {n : Nat} {px py : Nat → Int32} {X Y : Nat → Int} (h : Pts n px py X Y) {S : Int32} {m : Nat → Nat} {s r : Nat} (h0 : 0 < s) (hs : s ≤ 7) (hr : r = 2 ∨ r = 3) (hm : ∀ j, j < s → m j < n) {pd pd' : Nat → Int32} (hL : fX12_finds_L8 K S (nI n) K 0 0 pd = some (nI s, pd')) (hd : ∀ j, j < s → pd' j = nI (m j)) {k : Int} (hk : s32 k) {l0 : List Nat} {t : List (List Nat)} (eg : gen s 0 r = l0 :: t) (ec : chain s r (l0 :: t) = true) (el : (l0 :: t).length ≤ 2000) (ef : flB r l0 = false) (rm : Int32) (plx ply bel : Int64) (met hu pm pn mp : Int32) (cor cors row pO parts : Nat → Int32) : ∃ rr rm' plx' ply' bel' met' hu' ps mp' cor' cors' row' pO' parts', fX12_finds K (nI n) rm plx ply bel met hu pm pn mp px py cor cors row pO pd parts S (nI r) (iI k) = some (rr, rm', plx', ply', bel', met', hu', nI s, ps, mp', cor', cors', row', pO', pd', parts') ∧ ((rr = 1 ∧ ∃ l, hit (FF n X Y r s m t) k 0 l ∧ rowRes n X Y r (pS n s m (rw0 l)) 1 plx' ply' bel' ∧ ∀ w, w < r → parts' w = pS n s m (rw0 l) w) ∨ (rr = 0 ∧ miss (FF n X Y r s m t) k 0 ∧ ps = nI (CF r t) ∧ mp' = nI (FF n X Y r s m t).length)) := by
  have eT : TT r [] s (ud [] 0) = l0 :: t := by rw [show ud [] 0 = 0 from rfl, TT_nil, eg]
  obtain ⟨rr, rm', plx', ply', bel', met', hu', ps, mp', cor', cors', row', pO', parts', f1, f2⟩ := goesM K hK h hs hr (pd := pd') (fun j hj => ⟨hd j hj, hm j hj⟩) hk s 9 [] 0 0 rm plx ply bel met hu cor cors row pO parts (by simp) (by omega) (by rw [eT]; exact chain_all ec) (fun j hj => by simp at hj) (by rw [eT]; omega) (by rw [eT]; omega) (by decide)
  rw [eT] at f2
  have eF : FF n X Y r s m (l0 :: t) = FF n X Y r s m t := by unfold FF; rw [List.filter_cons, ef]; rfl
  have eC : CF r (l0 :: t) = CF r t := by unfold CF; rw [List.filter_cons, ef]; rfl
  refine ⟨rr, rm', plx', ply', bel', met', hu', ps, mp', cor', cors', row', pO', parts', ?_, ?_⟩
  · unfold fX12_finds
    rw [hL, sm_b2]
    rw [show fX12_goesOn K 9 (nI n) rm plx ply bel met hu (nI s) 0 0 px py cor cors row pO pd' parts 0 0 (nI r) (iI k) = _ from f1, sm_b14]
    have hz : z01 rr = true := by
      rcases f2 with ⟨e, -⟩ | ⟨e, -⟩
      · rw [e]; rfl
      · rw [e]; rfl
    rw [gd_t hz]
  · unfold endM at f2
    rw [eF, eC, Nat.zero_add, Nat.zero_add] at f2
    rcases f2 with ⟨e, w⟩ | ⟨e, w1, w2, w3, -⟩
    · exact Or.inl ⟨e, w⟩
    · exact Or.inr ⟨e, w1, w2, w3⟩
theorem ev_partings (K : Nat) (hK : 4000 ≤ K) (x_cloud_size : Int32) (x_cloud_x : Nat → Int32) (x_cloud_y : Nat → Int32) (x_cloud_colour : Nat → Int32) (x_cloud_load : Nat → Int32) (x_cloud_centreX : Int32) (x_cloud_centreY : Int32) (x_reader_tape : Nat → Int32) (x_reader_length : Int32) (x_reader_faultKind : Int32) (x_reader_faultPlace : Int32) (m_many : Int32) (m_px : Nat → Int32) (m_py : Nat → Int32) (m_colour : Nat → Int32) (m_load : Nat → Int32) (m_cx : Int32) (m_cy : Int32) (m_tape : Nat → Int32) (m_taped : Int32) (m_faultKind : Int32) (m_faultPlace : Int32) (x_pair_threefold : Int32) (x_pair_leastX : Int64) (x_pair_leastY : Int64) (x_pair_leastLower : Int64) (x_pair_first_size : Int32) (x_pair_first_chain : Nat → Int32) (x_pair_first_x : Nat → Int32) (x_pair_first_y : Nat → Int32) (x_pair_first_sorted : Nat → Int32) (x_pair_second_size : Int32) (x_pair_second_chain : Nat → Int32) (x_pair_second_x : Nat → Int32) (x_pair_second_y : Nat → Int32) (x_pair_second_sorted : Nat → Int32) (x_pair_third_size : Int32) (x_pair_third_chain : Nat → Int32) (x_pair_third_x : Nat → Int32) (x_pair_third_y : Nat → Int32) (x_pair_third_sorted : Nat → Int32) (x_pair_place_x : Int64) (x_pair_place_y : Int64) (x_pair_place_lower : Int64) (x_divider_size : Int32) (x_divider_parts : Int32) (x_divider_member : Nat → Int32) (x_divider_row : Nat → Int32) (m_rowMany : Int32) (m_placeX : Int64) (m_placeY : Int64) (m_below : Int64) (m_isMet : Int32) (m_hulls : Int32) (m_partedMany : Int32) (m_partings : Int32) (m_metPartings : Int32) (m_corner : Nat → Int32) (m_corners : Nat → Int32) (m_row : Nat → Int32) (m_partOf : Nat → Int32) (m_parted : Nat → Int32) (m_parts : Nat → Int32) (a1 : Int32) (a2 : Int32) (a3 : Int32) (hR : Rel x_cloud_size x_cloud_x x_cloud_y x_cloud_colour x_cloud_load x_cloud_centreX x_cloud_centreY x_reader_tape x_reader_length x_reader_faultKind x_reader_faultPlace m_many m_px m_py m_colour m_load m_cx m_cy m_tape m_taped m_faultKind m_faultPlace) : ∃ (r : Int32) (o_x_pair_threefold : Int32) (o_x_pair_leastX : Int64) (o_x_pair_leastY : Int64) (o_x_pair_leastLower : Int64) (o_x_pair_first_size : Int32) (o_x_pair_first_chain : Nat → Int32) (o_x_pair_first_x : Nat → Int32) (o_x_pair_first_y : Nat → Int32) (o_x_pair_first_sorted : Nat → Int32) (o_x_pair_second_size : Int32) (o_x_pair_second_chain : Nat → Int32) (o_x_pair_second_x : Nat → Int32) (o_x_pair_second_y : Nat → Int32) (o_x_pair_second_sorted : Nat → Int32) (o_x_pair_third_size : Int32) (o_x_pair_third_chain : Nat → Int32) (o_x_pair_third_x : Nat → Int32) (o_x_pair_third_y : Nat → Int32) (o_x_pair_third_sorted : Nat → Int32) (o_x_pair_place_x : Int64) (o_x_pair_place_y : Int64) (o_x_pair_place_lower : Int64) (o_x_divider_size : Int32) (o_x_divider_parts : Int32) (o_x_divider_member : Nat → Int32) (o_x_divider_row : Nat → Int32) (o_m_rowMany : Int32) (o_m_placeX : Int64) (o_m_placeY : Int64) (o_m_below : Int64) (o_m_isMet : Int32) (o_m_hulls : Int32) (o_m_partedMany : Int32) (o_m_partings : Int32) (o_m_metPartings : Int32) (o_m_corner : Nat → Int32) (o_m_corners : Nat → Int32) (o_m_row : Nat → Int32) (o_m_partOf : Nat → Int32) (o_m_parted : Nat → Int32) (o_m_parts : Nat → Int32), fX11_partings K x_cloud_size x_cloud_x x_cloud_y x_pair_threefold x_pair_leastX x_pair_leastY x_pair_leastLower x_pair_first_size x_pair_first_chain x_pair_first_x x_pair_first_y x_pair_first_sorted x_pair_second_size x_pair_second_chain x_pair_second_x x_pair_second_y x_pair_second_sorted x_pair_third_size x_pair_third_chain x_pair_third_x x_pair_third_y x_pair_third_sorted x_pair_place_x x_pair_place_y x_pair_place_lower x_divider_size x_divider_parts x_divider_member x_divider_row a1 a2 a3 = some (r, o_x_pair_threefold, o_x_pair_leastX, o_x_pair_leastY, o_x_pair_leastLower, o_x_pair_first_size, o_x_pair_first_chain, o_x_pair_first_x, o_x_pair_first_y, o_x_pair_first_sorted, o_x_pair_second_size, o_x_pair_second_chain, o_x_pair_second_x, o_x_pair_second_y, o_x_pair_second_sorted, o_x_pair_third_size, o_x_pair_third_chain, o_x_pair_third_x, o_x_pair_third_y, o_x_pair_third_sorted, o_x_pair_place_x, o_x_pair_place_y, o_x_pair_place_lower, o_x_divider_size, o_x_divider_parts, o_x_divider_member, o_x_divider_row) ∧ fX12_partings K m_many m_rowMany m_placeX m_placeY m_below m_isMet m_hulls m_partedMany m_partings m_metPartings m_px m_py m_corner m_corners m_row m_partOf m_parted m_parts a1 a2 a3 = some (r, o_m_rowMany, o_m_placeX, o_m_placeY, o_m_below, o_m_isMet, o_m_hulls, o_m_partedMany, o_m_partings, o_m_metPartings, o_m_corner, o_m_corners, o_m_row, o_m_partOf, o_m_parted, o_m_parts) := by
  obtain ⟨n, rfl, rfl, hXc, hXm⟩ := Rel_pts hR
  have hn := hXc.1
  have z0 : (a3 = 0) ↔ a3.toInt = 0 := a_eq (k := 0) ⟨by omega, by omega⟩
  have z1 : (a3 = 1) ↔ a3.toInt = 1 := a_eq (k := 1) ⟨by omega, by omega⟩
  unfold fX11_partings fX12_partings
  rcases canB K hK hn a1 a2 x_divider_size x_divider_parts x_divider_member x_divider_row with ⟨r, s, m, mA, row, hr, rfl, h0, hs, hm, hrow, e1, e2, e3⟩ | ⟨⟨u1, u2, u3, u4, e1⟩, e2⟩
  · obtain ⟨l0, t, eg, ec, el, ez, ef⟩ := gen_sp h0 hs hr
    obtain ⟨pd', p1, p2⟩ := e3 m_parted
    have hrw : rwA s row l0 := fun j hj => by rw [hrow j hj, ez j hj]; rfl
    rw [List.length_cons] at el
    obtain ⟨rr, rm', plx', ply', bel', met', hu', ps, mp', cor', cors', row2, pO', parts', f1, f2⟩ := findsM K hK hXm h0 hs hr (fun j hj => (hm j hj).2) p1 p2 (k := -1) ⟨by omega, by omega⟩ eg ec (by rw [List.length_cons]; exact el) ef m_rowMany m_placeX m_placeY m_below m_isMet m_hulls m_partedMany m_partings m_metPartings m_corner m_corners m_row m_partOf m_parts
    have f1' : fX12_finds K (nI n) m_rowMany m_placeX m_placeY m_below m_isMet m_hulls m_partedMany m_partings m_metPartings m_px m_py m_corner m_corners m_row m_partOf m_parted m_parts a1 (nI r) (-1) = _ := f1
    rw [e1, e2, sm_b5, sm_b1, if_neg one_ne, if_neg one_ne, in_spec, sm_b1]
    simp only [long_toInt, show (0 : Int64).toInt = 0 from rfl, show (1 : Int64).toInt = 1 from rfl, z0, z1]
    rcases f2 with ⟨-, l, ⟨i, hi, -⟩, -⟩ | ⟨rfl, -, rfl, rfl⟩
    · omega
    · by_cases w : 0 ≤ a3.toInt ∧ a3.toInt ≤ 1
      · rw [show (if 0 ≤ a3.toInt ∧ a3.toInt ≤ 1 then (1 : Int32) else 0) = 1 from if_pos w, if_neg one_ne, f1', sm_b16, if_pos rfl]
        by_cases w0 : a3.toInt = 0
        · rw [if_pos w0, if_pos w0]
          obtain ⟨a', v1, v2, v3, v4, v5, v6, v7, v8, v9, v10, v11, v12, v13, v14, v15, v16, v17, v18, v19, v20, v21, v22, g1⟩ := cMet K hK hXc h0 hs hr hm K 0 0 l0 t row x_pair_threefold x_pair_leastX x_pair_leastY x_pair_leastLower x_pair_first_size x_pair_first_chain x_pair_first_x x_pair_first_y x_pair_first_sorted x_pair_second_size x_pair_second_chain x_pair_second_x x_pair_second_y x_pair_second_sorted x_pair_third_size x_pair_third_chain x_pair_third_x x_pair_third_y x_pair_third_sorted x_pair_place_x x_pair_place_y x_pair_place_lower ec hrw (by omega) (by omega)
          rw [show nI 0 = (0 : Int32) from rfl, Nat.zero_add] at g1
          unfold fX5_countMet
          rw [g1, sm_b24, sm_b24]
          exact ⟨_, _, _, _, _, _, _, _, _, _, _, _, _, _, _, _, _, _, _, _, _, _, _, _, _, _, _, _, _, _, _, _, _, _, _, _, _, _, _, _, _, _, rfl, rfl⟩
        · rw [if_neg w0, if_neg w0, if_pos (by omega)]
          obtain ⟨a', g1⟩ := cAll K hK h0 hs hr K 0 0 l0 t row ec hrw (by omega) (by omega)
          rw [show nI 0 = (0 : Int32) from rfl, Nat.zero_add] at g1
          unfold fX5_countAll
          rw [g1, sm_b2, sm_b2]
          exact ⟨_, _, _, _, _, _, _, _, _, _, _, _, _, _, _, _, _, _, _, _, _, _, _, _, _, _, _, _, _, _, _, _, _, _, _, _, _, _, _, _, _, _, rfl, rfl⟩
      · rw [show (if 0 ≤ a3.toInt ∧ a3.toInt ≤ 1 then (1 : Int32) else 0) = 0 from if_neg w, if_pos rfl, if_neg (by omega), if_neg (by omega)]
        exact ⟨_, _, _, _, _, _, _, _, _, _, _, _, _, _, _, _, _, _, _, _, _, _, _, _, _, _, _, _, _, _, _, _, _, _, _, _, _, _, _, _, _, _, rfl, rfl⟩
  · rw [e1, e2]
    exact ⟨_, _, _, _, _, _, _, _, _, _, _, _, _, _, _, _, _, _, _, _, _, _, _, _, _, _, _, _, _, _, _, _, _, _, _, _, _, _, _, _, _, _, rfl, rfl⟩
theorem hit_uniq {F : List (List Nat)} {k : Int} {m0 : Nat} {l l' : List Nat} (h1 : hit F k m0 l) (h2 : hit F k m0 l') : l = l' := by
  obtain ⟨i, a1, a2⟩ := h1
  obtain ⟨j, b1', b2'⟩ := h2
  have : i = j := by omega
  subst this
  rw [a2] at b2'
  injection b2'
theorem hit_miss {F : List (List Nat)} {k : Int} {m0 : Nat} {l : List Nat} (h1 : hit F k m0 l) (h2 : miss F k m0) : False := by
  obtain ⟨i, a1, a2⟩ := h1
  rw [h2 i a1] at a2
  cases a2
theorem ev_part (K : Nat) (hK : 4000 ≤ K) (x_cloud_size : Int32) (x_cloud_x : Nat → Int32) (x_cloud_y : Nat → Int32) (x_cloud_colour : Nat → Int32) (x_cloud_load : Nat → Int32) (x_cloud_centreX : Int32) (x_cloud_centreY : Int32) (x_reader_tape : Nat → Int32) (x_reader_length : Int32) (x_reader_faultKind : Int32) (x_reader_faultPlace : Int32) (m_many : Int32) (m_px : Nat → Int32) (m_py : Nat → Int32) (m_colour : Nat → Int32) (m_load : Nat → Int32) (m_cx : Int32) (m_cy : Int32) (m_tape : Nat → Int32) (m_taped : Int32) (m_faultKind : Int32) (m_faultPlace : Int32) (x_pair_threefold : Int32) (x_pair_leastX : Int64) (x_pair_leastY : Int64) (x_pair_leastLower : Int64) (x_pair_first_size : Int32) (x_pair_first_chain : Nat → Int32) (x_pair_first_x : Nat → Int32) (x_pair_first_y : Nat → Int32) (x_pair_first_sorted : Nat → Int32) (x_pair_second_size : Int32) (x_pair_second_chain : Nat → Int32) (x_pair_second_x : Nat → Int32) (x_pair_second_y : Nat → Int32) (x_pair_second_sorted : Nat → Int32) (x_pair_third_size : Int32) (x_pair_third_chain : Nat → Int32) (x_pair_third_x : Nat → Int32) (x_pair_third_y : Nat → Int32) (x_pair_third_sorted : Nat → Int32) (x_pair_place_x : Int64) (x_pair_place_y : Int64) (x_pair_place_lower : Int64) (x_divider_size : Int32) (x_divider_parts : Int32) (x_divider_member : Nat → Int32) (x_divider_row : Nat → Int32) (m_rowMany : Int32) (m_placeX : Int64) (m_placeY : Int64) (m_below : Int64) (m_isMet : Int32) (m_hulls : Int32) (m_partedMany : Int32) (m_partings : Int32) (m_metPartings : Int32) (m_corner : Nat → Int32) (m_corners : Nat → Int32) (m_row : Nat → Int32) (m_partOf : Nat → Int32) (m_parted : Nat → Int32) (m_parts : Nat → Int32) (a1 : Int32) (a2 : Int32) (a3 : Int32) (a4 : Int32) (hR : Rel x_cloud_size x_cloud_x x_cloud_y x_cloud_colour x_cloud_load x_cloud_centreX x_cloud_centreY x_reader_tape x_reader_length x_reader_faultKind x_reader_faultPlace m_many m_px m_py m_colour m_load m_cx m_cy m_tape m_taped m_faultKind m_faultPlace) : ∃ (r : Int32) (o_x_pair_threefold : Int32) (o_x_pair_leastX : Int64) (o_x_pair_leastY : Int64) (o_x_pair_leastLower : Int64) (o_x_pair_first_size : Int32) (o_x_pair_first_chain : Nat → Int32) (o_x_pair_first_x : Nat → Int32) (o_x_pair_first_y : Nat → Int32) (o_x_pair_first_sorted : Nat → Int32) (o_x_pair_second_size : Int32) (o_x_pair_second_chain : Nat → Int32) (o_x_pair_second_x : Nat → Int32) (o_x_pair_second_y : Nat → Int32) (o_x_pair_second_sorted : Nat → Int32) (o_x_pair_third_size : Int32) (o_x_pair_third_chain : Nat → Int32) (o_x_pair_third_x : Nat → Int32) (o_x_pair_third_y : Nat → Int32) (o_x_pair_third_sorted : Nat → Int32) (o_x_pair_place_x : Int64) (o_x_pair_place_y : Int64) (o_x_pair_place_lower : Int64) (o_x_divider_size : Int32) (o_x_divider_parts : Int32) (o_x_divider_member : Nat → Int32) (o_x_divider_row : Nat → Int32) (o_m_rowMany : Int32) (o_m_placeX : Int64) (o_m_placeY : Int64) (o_m_below : Int64) (o_m_isMet : Int32) (o_m_hulls : Int32) (o_m_partedMany : Int32) (o_m_partings : Int32) (o_m_metPartings : Int32) (o_m_corner : Nat → Int32) (o_m_corners : Nat → Int32) (o_m_row : Nat → Int32) (o_m_partOf : Nat → Int32) (o_m_parted : Nat → Int32) (o_m_parts : Nat → Int32), fX11_part K x_cloud_size x_cloud_x x_cloud_y x_pair_threefold x_pair_leastX x_pair_leastY x_pair_leastLower x_pair_first_size x_pair_first_chain x_pair_first_x x_pair_first_y x_pair_first_sorted x_pair_second_size x_pair_second_chain x_pair_second_x x_pair_second_y x_pair_second_sorted x_pair_third_size x_pair_third_chain x_pair_third_x x_pair_third_y x_pair_third_sorted x_pair_place_x x_pair_place_y x_pair_place_lower x_divider_size x_divider_parts x_divider_member x_divider_row a1 a2 a3 a4 = some (r, o_x_pair_threefold, o_x_pair_leastX, o_x_pair_leastY, o_x_pair_leastLower, o_x_pair_first_size, o_x_pair_first_chain, o_x_pair_first_x, o_x_pair_first_y, o_x_pair_first_sorted, o_x_pair_second_size, o_x_pair_second_chain, o_x_pair_second_x, o_x_pair_second_y, o_x_pair_second_sorted, o_x_pair_third_size, o_x_pair_third_chain, o_x_pair_third_x, o_x_pair_third_y, o_x_pair_third_sorted, o_x_pair_place_x, o_x_pair_place_y, o_x_pair_place_lower, o_x_divider_size, o_x_divider_parts, o_x_divider_member, o_x_divider_row) ∧ fX12_part K m_many m_rowMany m_placeX m_placeY m_below m_isMet m_hulls m_partedMany m_partings m_metPartings m_px m_py m_corner m_corners m_row m_partOf m_parted m_parts a1 a2 a3 a4 = some (r, o_m_rowMany, o_m_placeX, o_m_placeY, o_m_below, o_m_isMet, o_m_hulls, o_m_partedMany, o_m_partings, o_m_metPartings, o_m_corner, o_m_corners, o_m_row, o_m_partOf, o_m_parted, o_m_parts) := by
  obtain ⟨n, rfl, rfl, hXc, hXm⟩ := Rel_pts hR
  have hn := hXc.1
  unfold fX11_part fX12_part
  by_cases k0 : a3 < 0
  · rw [if_pos k0]
    rcases canB K hK hn a1 a2 x_divider_size x_divider_parts x_divider_member x_divider_row with ⟨r, s, m, mA, row, hr, rfl, h0, hs, hm, hrow, e1, e2, e3⟩ | ⟨-, e2⟩
    · rw [e2, sm_b1, if_neg one_ne, if_pos k0]
      exact ⟨_, _, _, _, _, _, _, _, _, _, _, _, _, _, _, _, _, _, _, _, _, _, _, _, _, _, _, _, _, _, _, _, _, _, _, _, _, _, _, _, _, _, rfl, rfl⟩
    · rw [e2]
      exact ⟨_, _, _, _, _, _, _, _, _, _, _, _, _, _, _, _, _, _, _, _, _, _, _, _, _, _, _, _, _, _, _, _, _, _, _, _, _, _, _, _, _, _, rfl, rfl⟩
  · rw [if_neg k0]
    rcases canB K hK hn a1 a2 x_divider_size x_divider_parts x_divider_member x_divider_row with ⟨r, s, m, mA, row, hr, rfl, h0, hs, hm, hrow, e1, e2, e3⟩ | ⟨⟨u1, u2, u3, u4, e1⟩, e2⟩
    · obtain ⟨l0, t, eg, ec, el, ez, ef⟩ := gen_sp h0 hs hr
      obtain ⟨pd', p1, p2⟩ := e3 m_parted
      have hrw : rwA s row l0 := fun j hj => by rw [hrow j hj, ez j hj]; rfl
      rw [List.length_cons] at el
      have hk0 := nn_toInt k0
      have hkt := a3.toInt_lt
      obtain ⟨k, hk⟩ : ∃ k : Nat, a3.toInt = k := ⟨a3.toInt.toNat, by omega⟩
      have ek : a3 = nI k := by rw [nI_iI, ← hk, iI_toInt]
      obtain ⟨rr, rm', plx', ply', bel', met', hu', ps, mp', cor', cors', row2, pO', parts', f1, f2⟩ := findsM K hK hXm h0 hs hr (fun j hj => (hm j hj).2) p1 p2 (k := (k : Int)) ⟨by omega, by omega⟩ eg ec (by rw [List.length_cons]; exact el) ef m_rowMany m_placeX m_placeY m_below m_isMet m_hulls m_partedMany m_partings m_metPartings m_corner m_corners m_row m_partOf m_parts
      rw [← nI_iI, ← ek] at f1
      have SM := sMet K hK hXc h0 hs hr hm (k := k) (by omega) K 0 0 l0 t row x_pair_threefold x_pair_leastX x_pair_leastY x_pair_leastLower x_pair_first_size x_pair_first_chain x_pair_first_x x_pair_first_y x_pair_first_sorted x_pair_second_size x_pair_second_chain x_pair_second_x x_pair_second_y x_pair_second_sorted x_pair_third_size x_pair_third_chain x_pair_third_x x_pair_third_y x_pair_third_sorted x_pair_place_x x_pair_place_y x_pair_place_lower ec hrw (by omega) (by omega) (by omega) (by omega)
      rw [← ek, show nI 0 = (0 : Int32) from rfl] at SM
      rw [e1, e2, sm_b5, sm_b1, if_neg one_ne, if_neg one_ne, if_neg k0]
      have er : (nI r - 1).toInt = (r : Int) - 1 := by rw [show (1 : Int32) = nI 1 from rfl, sub_nI (by omega), nI_toInt (by omega)]; omega
      rw [in_spec, sm_b1]
      simp only [long_toInt, show (0 : Int64).toInt = 0 from rfl, er]
      have la : (a4 < nI r) ↔ a4.toInt < r := by rw [Int32.lt_iff_toInt_lt, nI_toInt (by omega)]
      simp only [la, i_lt_lit (show (0 : Int32).toInt = 0 from rfl)]
      by_cases w : 0 ≤ a4.toInt ∧ a4.toInt ≤ (r : Int) - 1
      · rw [show (if 0 ≤ a4.toInt ∧ a4.toInt ≤ (r : Int) - 1 then (1 : Int32) else 0) = 1 from if_pos w, if_neg one_ne, if_neg (show ¬ a4.toInt < 0 by omega), if_pos (show a4.toInt < r by omega), f1, sm_b16]
        obtain ⟨q, hq⟩ : ∃ q : Nat, a4.toInt = q := ⟨a4.toInt.toNat, by omega⟩
        have e4 : a4 = nI q := by rw [nI_iI, ← hq, iI_toInt]
        have hq3 : q < r := by omega
        unfold fX5_seekMet
        rcases SM with ⟨a', l', p', q', pl', o1, o2, o3, o4, o5, o6, o7, o8, o9, o10, o11, o12, o13, o14, o15, o16, o17, o18, o19, y1, y2, y3, y4, y5⟩ | ⟨y1, a', o1, o2, o3, o4, o5, o6, o7, o8, o9, o10, o11, o12, o13, o14, o15, o16, o17, o18, o19, o20, o21, o22, y2⟩
        · rw [y5, sm_inl, u23_e, sm_b24, if_neg one_ne]
          rcases f2 with ⟨rfl, l, w1, w2, w3⟩ | ⟨-, w1, -⟩
          · have el' := hit_uniq y1 w1
            subst el'
            rw [if_neg one_ne, e4, bitsR K hK hn hs (rwA_ok hr y2 y3) hm (show q < 100 by omega), sm_b1, gd_t (inb_nI (show q < 3 by omega) (by decide)), nI_clamp (by omega), w3 q hq3]
            exact ⟨_, _, _, _, _, _, _, _, _, _, _, _, _, _, _, _, _, _, _, _, _, _, _, _, _, _, _, _, _, _, _, _, _, _, _, _, _, _, _, _, _, _, rfl, rfl⟩
          · exact absurd w1 (fun z => hit_miss y1 z)
        · rw [y2, sm_inr, u23_e, sm_b24, if_pos rfl]
          rcases f2 with ⟨-, l, w1, -⟩ | ⟨rfl, -⟩
          · exact absurd y1 (fun z => hit_miss w1 z)
          · rw [if_pos rfl]
            exact ⟨_, _, _, _, _, _, _, _, _, _, _, _, _, _, _, _, _, _, _, _, _, _, _, _, _, _, _, _, _, _, _, _, _, _, _, _, _, _, _, _, _, _, rfl, rfl⟩
      · rw [show (if 0 ≤ a4.toInt ∧ a4.toInt ≤ (r : Int) - 1 then (1 : Int32) else 0) = 0 from if_neg w, if_pos rfl]
        by_cases q0 : a4.toInt < 0
        · rw [if_pos q0]
          exact ⟨_, _, _, _, _, _, _, _, _, _, _, _, _, _, _, _, _, _, _, _, _, _, _, _, _, _, _, _, _, _, _, _, _, _, _, _, _, _, _, _, _, _, rfl, rfl⟩
        · rw [if_neg q0, if_neg (show ¬ a4.toInt < r by omega)]
          exact ⟨_, _, _, _, _, _, _, _, _, _, _, _, _, _, _, _, _, _, _, _, _, _, _, _, _, _, _, _, _, _, _, _, _, _, _, _, _, _, _, _, _, _, rfl, rfl⟩
    · rw [e1, e2]
      exact ⟨_, _, _, _, _, _, _, _, _, _, _, _, _, _, _, _, _, _, _, _, _, _, _, _, _, _, _, _, _, _, _, _, _, _, _, _, _, _, _, _, _, _, rfl, rfl⟩
theorem ev_met (K : Nat) (hK : 4000 ≤ K) (x_cloud_size : Int32) (x_cloud_x : Nat → Int32) (x_cloud_y : Nat → Int32) (x_cloud_colour : Nat → Int32) (x_cloud_load : Nat → Int32) (x_cloud_centreX : Int32) (x_cloud_centreY : Int32) (x_reader_tape : Nat → Int32) (x_reader_length : Int32) (x_reader_faultKind : Int32) (x_reader_faultPlace : Int32) (m_many : Int32) (m_px : Nat → Int32) (m_py : Nat → Int32) (m_colour : Nat → Int32) (m_load : Nat → Int32) (m_cx : Int32) (m_cy : Int32) (m_tape : Nat → Int32) (m_taped : Int32) (m_faultKind : Int32) (m_faultPlace : Int32) (x_pair_threefold : Int32) (x_pair_leastX : Int64) (x_pair_leastY : Int64) (x_pair_leastLower : Int64) (x_pair_first_size : Int32) (x_pair_first_chain : Nat → Int32) (x_pair_first_x : Nat → Int32) (x_pair_first_y : Nat → Int32) (x_pair_first_sorted : Nat → Int32) (x_pair_second_size : Int32) (x_pair_second_chain : Nat → Int32) (x_pair_second_x : Nat → Int32) (x_pair_second_y : Nat → Int32) (x_pair_second_sorted : Nat → Int32) (x_pair_third_size : Int32) (x_pair_third_chain : Nat → Int32) (x_pair_third_x : Nat → Int32) (x_pair_third_y : Nat → Int32) (x_pair_third_sorted : Nat → Int32) (x_pair_place_x : Int64) (x_pair_place_y : Int64) (x_pair_place_lower : Int64) (x_divider_size : Int32) (x_divider_parts : Int32) (x_divider_member : Nat → Int32) (x_divider_row : Nat → Int32) (m_rowMany : Int32) (m_placeX : Int64) (m_placeY : Int64) (m_below : Int64) (m_isMet : Int32) (m_hulls : Int32) (m_partedMany : Int32) (m_partings : Int32) (m_metPartings : Int32) (m_corner : Nat → Int32) (m_corners : Nat → Int32) (m_row : Nat → Int32) (m_partOf : Nat → Int32) (m_parted : Nat → Int32) (m_parts : Nat → Int32) (a1 : Int32) (a2 : Int32) (a3 : Int32) (a4 : Int32) (hR : Rel x_cloud_size x_cloud_x x_cloud_y x_cloud_colour x_cloud_load x_cloud_centreX x_cloud_centreY x_reader_tape x_reader_length x_reader_faultKind x_reader_faultPlace m_many m_px m_py m_colour m_load m_cx m_cy m_tape m_taped m_faultKind m_faultPlace) : ∃ (r : Int64) (o_x_pair_threefold : Int32) (o_x_pair_leastX : Int64) (o_x_pair_leastY : Int64) (o_x_pair_leastLower : Int64) (o_x_pair_first_size : Int32) (o_x_pair_first_chain : Nat → Int32) (o_x_pair_first_x : Nat → Int32) (o_x_pair_first_y : Nat → Int32) (o_x_pair_first_sorted : Nat → Int32) (o_x_pair_second_size : Int32) (o_x_pair_second_chain : Nat → Int32) (o_x_pair_second_x : Nat → Int32) (o_x_pair_second_y : Nat → Int32) (o_x_pair_second_sorted : Nat → Int32) (o_x_pair_third_size : Int32) (o_x_pair_third_chain : Nat → Int32) (o_x_pair_third_x : Nat → Int32) (o_x_pair_third_y : Nat → Int32) (o_x_pair_third_sorted : Nat → Int32) (o_x_pair_place_x : Int64) (o_x_pair_place_y : Int64) (o_x_pair_place_lower : Int64) (o_x_divider_size : Int32) (o_x_divider_parts : Int32) (o_x_divider_member : Nat → Int32) (o_x_divider_row : Nat → Int32) (o_m_rowMany : Int32) (o_m_placeX : Int64) (o_m_placeY : Int64) (o_m_below : Int64) (o_m_isMet : Int32) (o_m_hulls : Int32) (o_m_partedMany : Int32) (o_m_partings : Int32) (o_m_metPartings : Int32) (o_m_corner : Nat → Int32) (o_m_corners : Nat → Int32) (o_m_row : Nat → Int32) (o_m_partOf : Nat → Int32) (o_m_parted : Nat → Int32) (o_m_parts : Nat → Int32), fX11_met K x_cloud_size x_cloud_x x_cloud_y x_pair_threefold x_pair_leastX x_pair_leastY x_pair_leastLower x_pair_first_size x_pair_first_chain x_pair_first_x x_pair_first_y x_pair_first_sorted x_pair_second_size x_pair_second_chain x_pair_second_x x_pair_second_y x_pair_second_sorted x_pair_third_size x_pair_third_chain x_pair_third_x x_pair_third_y x_pair_third_sorted x_pair_place_x x_pair_place_y x_pair_place_lower x_divider_size x_divider_parts x_divider_member x_divider_row a1 a2 a3 a4 = some (r, o_x_pair_threefold, o_x_pair_leastX, o_x_pair_leastY, o_x_pair_leastLower, o_x_pair_first_size, o_x_pair_first_chain, o_x_pair_first_x, o_x_pair_first_y, o_x_pair_first_sorted, o_x_pair_second_size, o_x_pair_second_chain, o_x_pair_second_x, o_x_pair_second_y, o_x_pair_second_sorted, o_x_pair_third_size, o_x_pair_third_chain, o_x_pair_third_x, o_x_pair_third_y, o_x_pair_third_sorted, o_x_pair_place_x, o_x_pair_place_y, o_x_pair_place_lower, o_x_divider_size, o_x_divider_parts, o_x_divider_member, o_x_divider_row) ∧ fX12_met K m_many m_rowMany m_placeX m_placeY m_below m_isMet m_hulls m_partedMany m_partings m_metPartings m_px m_py m_corner m_corners m_row m_partOf m_parted m_parts a1 a2 a3 a4 = some (r, o_m_rowMany, o_m_placeX, o_m_placeY, o_m_below, o_m_isMet, o_m_hulls, o_m_partedMany, o_m_partings, o_m_metPartings, o_m_corner, o_m_corners, o_m_row, o_m_partOf, o_m_parted, o_m_parts) := by
  obtain ⟨n, rfl, rfl, hXc, hXm⟩ := Rel_pts hR
  have hn := hXc.1
  unfold fX11_met fX12_met
  by_cases k0 : a3 < 0
  · rw [if_pos k0]
    rcases canB K hK hn a1 a2 x_divider_size x_divider_parts x_divider_member x_divider_row with ⟨r, s, m, mA, row, hr, rfl, h0, hs, hm, hrow, e1, e2, e3⟩ | ⟨-, e2⟩
    · rw [e2, sm_b1, if_neg one_ne, if_pos k0]
      exact ⟨_, _, _, _, _, _, _, _, _, _, _, _, _, _, _, _, _, _, _, _, _, _, _, _, _, _, _, _, _, _, _, _, _, _, _, _, _, _, _, _, _, _, rfl, rfl⟩
    · rw [e2]
      exact ⟨_, _, _, _, _, _, _, _, _, _, _, _, _, _, _, _, _, _, _, _, _, _, _, _, _, _, _, _, _, _, _, _, _, _, _, _, _, _, _, _, _, _, rfl, rfl⟩
  · rw [if_neg k0]
    rcases canB K hK hn a1 a2 x_divider_size x_divider_parts x_divider_member x_divider_row with ⟨r, s, m, mA, row, hr, rfl, h0, hs, hm, hrow, e1, e2, e3⟩ | ⟨⟨u1, u2, u3, u4, e1⟩, e2⟩
    · obtain ⟨l0, t, eg, ec, el, ez, ef⟩ := gen_sp h0 hs hr
      obtain ⟨pd', p1, p2⟩ := e3 m_parted
      have hrw : rwA s row l0 := fun j hj => by rw [hrow j hj, ez j hj]; rfl
      rw [List.length_cons] at el
      have hk0 := nn_toInt k0
      have hkt := a3.toInt_lt
      obtain ⟨k, hk⟩ : ∃ k : Nat, a3.toInt = k := ⟨a3.toInt.toNat, by omega⟩
      have ek : a3 = nI k := by rw [nI_iI, ← hk, iI_toInt]
      obtain ⟨rr, rm', plx', ply', bel', met', hu', ps, mp', cor', cors', row2, pO', parts', f1, f2⟩ := findsM K hK hXm h0 hs hr (fun j hj => (hm j hj).2) p1 p2 (k := (k : Int)) ⟨by omega, by omega⟩ eg ec (by rw [List.length_cons]; exact el) ef m_rowMany m_placeX m_placeY m_below m_isMet m_hulls m_partedMany m_partings m_metPartings m_corner m_corners m_row m_partOf m_parts
      rw [← nI_iI, ← ek] at f1
      have SM := sMet K hK hXc h0 hs hr hm (k := k) (by omega) K 0 0 l0 t row x_pair_threefold x_pair_leastX x_pair_leastY x_pair_leastLower x_pair_first_size x_pair_first_chain x_pair_first_x x_pair_first_y x_pair_first_sorted x_pair_second_size x_pair_second_chain x_pair_second_x x_pair_second_y x_pair_second_sorted x_pair_third_size x_pair_third_chain x_pair_third_x x_pair_third_y x_pair_third_sorted x_pair_place_x x_pair_place_y x_pair_place_lower ec hrw (by omega) (by omega) (by omega) (by omega)
      rw [← ek, show nI 0 = (0 : Int32) from rfl] at SM
      rw [e1, e2, sm_b5, sm_b1, if_neg one_ne, if_neg one_ne, if_neg k0]
      rw [in_spec, sm_b1]
      simp only [long_toInt, show (0 : Int64).toInt = 0 from rfl, show (2 : Int64).toInt = 2 from rfl]
      unfold fX5_seekMet
      rcases SM with ⟨a', l', p', q', pl', o1, o2, o3, o4, o5, o6, o7, o8, o9, o10, o11, o12, o13, o14, o15, o16, o17, o18, o19, y1, y2, y3, y4, y5⟩ | ⟨y1, a', o1, o2, o3, o4, o5, o6, o7, o8, o9, o10, o11, o12, o13, o14, o15, o16, o17, o18, o19, o20, o21, o22, y2⟩
      · rw [y5, sm_inl, u23_e, sm_b24, if_neg one_ne]
        obtain ⟨g1, g2⟩ := coor_told K p' q' pl' a4
        by_cases w : 0 ≤ a4.toInt ∧ a4.toInt ≤ 2
        · rw [show (if 0 ≤ a4.toInt ∧ a4.toInt ≤ 2 then (1 : Int32) else 0) = 1 from if_pos w, if_neg one_ne, f1, sm_b16]
          rcases f2 with ⟨rfl, l, w1, w2, w3⟩ | ⟨-, w1, -⟩
          · have el' := hit_uniq y1 w1
            subst el'
            rcases res_uniq y4 w2 with ⟨e, -⟩ | ⟨-, -, rfl, rfl, rfl⟩
            · exact absurd e (by decide)
            · obtain ⟨r3, k1, k2⟩ := g1 w
              rw [if_neg one_ne, k1, k2]
              exact ⟨_, _, _, _, _, _, _, _, _, _, _, _, _, _, _, _, _, _, _, _, _, _, _, _, _, _, _, _, _, _, _, _, _, _, _, _, _, _, _, _, _, _, rfl, rfl⟩
          · exact absurd w1 (fun z => hit_miss y1 z)
        · rw [show (if 0 ≤ a4.toInt ∧ a4.toInt ≤ 2 then (1 : Int32) else 0) = 0 from if_neg w, if_pos rfl, g2 w]
          exact ⟨_, _, _, _, _, _, _, _, _, _, _, _, _, _, _, _, _, _, _, _, _, _, _, _, _, _, _, _, _, _, _, _, _, _, _, _, _, _, _, _, _, _, rfl, rfl⟩
      · rw [y2, sm_inr, u23_e, sm_b24, if_pos rfl]
        by_cases w : 0 ≤ a4.toInt ∧ a4.toInt ≤ 2
        · rw [show (if 0 ≤ a4.toInt ∧ a4.toInt ≤ 2 then (1 : Int32) else 0) = 1 from if_pos w, if_neg one_ne, f1, sm_b16]
          rcases f2 with ⟨-, l, w1, -⟩ | ⟨rfl, -⟩
          · exact absurd y1 (fun z => hit_miss w1 z)
          · rw [if_pos rfl]
            exact ⟨_, _, _, _, _, _, _, _, _, _, _, _, _, _, _, _, _, _, _, _, _, _, _, _, _, _, _, _, _, _, _, _, _, _, _, _, _, _, _, _, _, _, rfl, rfl⟩
        · rw [show (if 0 ≤ a4.toInt ∧ a4.toInt ≤ 2 then (1 : Int32) else 0) = 0 from if_neg w, if_pos rfl]
          exact ⟨_, _, _, _, _, _, _, _, _, _, _, _, _, _, _, _, _, _, _, _, _, _, _, _, _, _, _, _, _, _, _, _, _, _, _, _, _, _, _, _, _, _, rfl, rfl⟩
    · rw [e1, e2]
      exact ⟨_, _, _, _, _, _, _, _, _, _, _, _, _, _, _, _, _, _, _, _, _, _, _, _, _, _, _, _, _, _, _, _, _, _, _, _, _, _, _, _, _, _, rfl, rfl⟩
