def byt (a : Int32) (s : Int32) : Int32 := vp_nar .byte ((a >>> (s &&& 31)).toInt8.toInt32)
theorem byt_rng (a s : Int32) : -128 ≤ (byt a s).toInt ∧ (byt a s).toInt ≤ 127 := by
  unfold byt
  rw [vp_nar_byte]
  generalize ((a >>> (s &&& 31)).toInt8.toInt32).toInt8 = z
  have h1 := z.le_toInt
  have h2 := z.toInt_lt
  have h3 : z.toInt32.toInt = z.toInt := Int8.toInt_toInt32 z
  rw [h3]
  omega
def putL (f : Nat → Int32) (t : Nat) : List Int32 → Nat → Int32
  | [] => f
  | v :: vs => putL (upd f t v) (t + 1) vs
theorem putL_rel : ∀ (vs : List Int32) (m x : Nat → Int32) (t : Nat), (∀ i : Nat, i < t → m i = x i ∧ -128 ≤ (x i).toInt ∧ (x i).toInt ≤ 127) → (∀ v ∈ vs, -128 ≤ v.toInt ∧ v.toInt ≤ 127) → ∀ i : Nat, i < t + vs.length → putL m t vs i = putL x t vs i ∧ -128 ≤ (putL x t vs i).toInt ∧ (putL x t vs i).toInt ≤ 127 := by
  intro vs
  induction vs with
  | nil => intro m x t h _ i hi; exact h i (by simpa using hi)
  | cons v vs ih =>
    intro m x t h hv i hi
    refine ih (upd m t v) (upd x t v) (t + 1) (fun k hk => ?_) (fun w hw => hv w (List.mem_cons_of_mem _ hw)) i (by simp only [List.length_cons] at hi; omega)
    by_cases e : k = t
    · subst e
      rw [upd_at, upd_at]
      exact ⟨rfl, hv v List.mem_cons_self⟩
    · rw [upd_ne e, upd_ne e]
      exact h k (by omega)
theorem app_step (K n t : Nat) (a : Int32) (s : Int32) (tape : Nat → Int32) (hs : ¬ s < 0) (ht : t < 600) : fX8_append_L3 K a (n + 1) s (nI t) tape = fX8_append_L3 K a n (s + -8) (nI (t + 1)) (upd tape t (byt a s)) := by
  rw [fX8_append_L3, if_neg hs, if_neg (show ¬ (600 : Int32) ≤ nI t from nI_ge ht (by decide)), gd_t (inb_nI ht (by decide))]
  simp only [xl, nI_clamp (show t < 2 ^ 31 by omega), nI_1, byt]
theorem app_spec (K t : Nat) (hK : 4000 ≤ K) (a : Int32) (tape : Nat → Int32) (ht : t + 4 ≤ 600) : fX8_append K (nI t) tape a = some (nI (t + 4), putL tape t [byt a 24, byt a 16, byt a 8, byt a 0]) := by
  obtain ⟨k, rfl⟩ : ∃ k, K = k + 5 := ⟨K - 5, by omega⟩
  unfold fX8_append b2
  rw [show fX8_append_L3 (k + 5) a (k + 5) 24 (nI t) tape = fX8_append_L3 (k + 5) a (k + 4) (24 + -8) (nI (t + 1)) (upd tape t (byt a 24)) from app_step (k + 5) (k + 4) t a 24 tape (by decide) (by omega)]
  rw [show (24 : Int32) + -8 = 16 from by decide]
  rw [show fX8_append_L3 (k + 5) a (k + 4) 16 (nI (t + 1)) (upd tape t (byt a 24)) = fX8_append_L3 (k + 5) a (k + 3) (16 + -8) (nI (t + 2)) (upd (upd tape t (byt a 24)) (t + 1) (byt a 16)) from app_step (k + 5) (k + 3) (t + 1) a 16 _ (by decide) (by omega)]
  rw [show (16 : Int32) + -8 = 8 from by decide]
  rw [show fX8_append_L3 (k + 5) a (k + 3) 8 (nI (t + 2)) (upd (upd tape t (byt a 24)) (t + 1) (byt a 16)) = fX8_append_L3 (k + 5) a (k + 2) (8 + -8) (nI (t + 3)) (upd (upd (upd tape t (byt a 24)) (t + 1) (byt a 16)) (t + 2) (byt a 8)) from app_step (k + 5) (k + 2) (t + 2) a 8 _ (by decide) (by omega)]
  rw [show (8 : Int32) + -8 = 0 from by decide]
  rw [show fX8_append_L3 (k + 5) a (k + 2) 0 (nI (t + 3)) (upd (upd (upd tape t (byt a 24)) (t + 1) (byt a 16)) (t + 2) (byt a 8)) = fX8_append_L3 (k + 5) a (k + 1) (0 + -8) (nI (t + 4)) (upd (upd (upd (upd tape t (byt a 24)) (t + 1) (byt a 16)) (t + 2) (byt a 8)) (t + 3) (byt a 0)) from app_step (k + 5) (k + 1) (t + 3) a 0 _ (by decide) (by omega)]
  rw [fX8_append_L3, if_pos (by decide)]
  rfl
theorem div4 : ∀ k : Nat, k < 20 → nI k / 4 = nI (k / 4) ∧ jrem (nI k) 4 = nI (k % 4) ∧ (24 : Int32) - 8 * nI (k % 4) = nI (24 - 8 * (k % 4)) := by decide +kernel
theorem feed_step (K n t k : Nat) (five tape : Nat → Int32) (hk : k < 20) (ht : t + 20 ≤ 600) : fX12_feed_L55 K (nI t) five (n + 1) (nI k) tape = fX12_feed_L55 K (nI t) five n (nI (k + 1)) (upd tape (t + k) (byt (five (k / 4)) (nI (24 - 8 * (k % 4))))) := by
  obtain ⟨d1, d2, d3⟩ := div4 k hk
  rw [fX12_feed_L55, if_neg (show ¬ (20 : Int32) ≤ nI k from nI_ge hk (by decide)), d1, gd_t (inb_nI (show k / 4 < 5 by omega) (by decide))]
  simp only [xl, d2, d3, nI_add, nI_1, gd_t (inb_nI (show t + k < 600 by omega) (by decide)), nI_clamp (show t + k < 2 ^ 31 by omega), nI_clamp (show k / 4 < 2 ^ 31 by omega), byt]
theorem feed_run (K t : Nat) (five : Nat → Int32) (ht : t + 20 ≤ 600) : ∀ (d n k : Nat) (tape : Nat → Int32), k + d = 20 → d < n → fX12_feed_L55 K (nI t) five n (nI k) tape = some (putL tape (t + k) ((List.range d).map (fun j => byt (five ((k + j) / 4)) (nI (24 - 8 * ((k + j) % 4)))))) := by
  intro d
  induction d with
  | zero =>
    intro n k tape h1 h2
    obtain ⟨m, rfl⟩ : ∃ m, n = m + 1 := ⟨n - 1, by omega⟩
    rw [fX12_feed_L55, if_pos (show (20 : Int32) ≤ nI k from (show nI 20 ≤ nI k from nI_le (by omega) (by omega)))]
    rfl
  | succ d ih =>
    intro n k tape h1 h2
    obtain ⟨m, rfl⟩ : ∃ m, n = m + 1 := ⟨n - 1, by omega⟩
    rw [feed_step K m t k five tape (by omega) ht, ih m (k + 1) _ (by omega) (by omega), List.range_succ_eq_map, List.map_cons, List.map_map]
    simp only [putL, Nat.add_zero, Nat.add_assoc]
    congr 3
    funext j
    simp only [Function.comp]
    rw [show k + (1 + j) = k + (j + 1) by omega]
theorem putL_app : ∀ (a b : List Int32) (f : Nat → Int32) (t : Nat), putL (putL f t a) (t + a.length) b = putL f t (a ++ b) := by
  intro a
  induction a with
  | nil => intro b f t; rfl
  | cons v a ih =>
    intro b f t
    simp only [putL, List.cons_append, List.length_cons]
    rw [show t + (a.length + 1) = t + 1 + a.length by omega]
    exact ih b _ _
theorem feed_list (five : Nat → Int32) : (List.range 20).map (fun j => byt (five ((0 + j) / 4)) (nI (24 - 8 * ((0 + j) % 4)))) = [byt (five 0) 24, byt (five 0) 16, byt (five 0) 8, byt (five 0) 0, byt (five 1) 24, byt (five 1) 16, byt (five 1) 8, byt (five 1) 0, byt (five 2) 24, byt (five 2) 16, byt (five 2) 8, byt (five 2) 0, byt (five 3) 24, byt (five 3) 16, byt (five 3) 8, byt (five 3) 0, byt (five 4) 24, byt (five 4) 16, byt (five 4) 8, byt (five 4) 0] := by
  rfl
theorem five_at (f : Nat → Int32) (a b c d e : Int32) (g : Nat → Int32) (h : g = upd (upd (upd (upd (upd f 0 a) 1 b) 2 c) 3 d) 4 e) : g 0 = a ∧ g 1 = b ∧ g 2 = c ∧ g 3 = d ∧ g 4 = e := by
  subst h
  simp [upd]
theorem ev_feed (K : Nat) (hK : 4000 ≤ K) (x_cloud_size : Int32) (x_cloud_x : Nat → Int32) (x_cloud_y : Nat → Int32) (x_cloud_colour : Nat → Int32) (x_cloud_load : Nat → Int32) (x_cloud_centreX : Int32) (x_cloud_centreY : Int32) (x_reader_tape : Nat → Int32) (x_reader_length : Int32) (x_reader_faultKind : Int32) (x_reader_faultPlace : Int32) (m_many : Int32) (m_px : Nat → Int32) (m_py : Nat → Int32) (m_colour : Nat → Int32) (m_load : Nat → Int32) (m_cx : Int32) (m_cy : Int32) (m_tape : Nat → Int32) (m_taped : Int32) (m_faultKind : Int32) (m_faultPlace : Int32) (m_five : Nat → Int32) (a1 : Int32) (a2 : Int32) (a3 : Int32) (a4 : Int32) (a5 : Int32) (hR : Rel x_cloud_size x_cloud_x x_cloud_y x_cloud_colour x_cloud_load x_cloud_centreX x_cloud_centreY x_reader_tape x_reader_length x_reader_faultKind x_reader_faultPlace m_many m_px m_py m_colour m_load m_cx m_cy m_tape m_taped m_faultKind m_faultPlace) : ∃ (r : Int32) (o_x_reader_length : Int32) (o_x_reader_tape : Nat → Int32) (o_m_taped : Int32) (o_m_tape : Nat → Int32) (o_m_five : Nat → Int32), fX11_feed K x_reader_length x_reader_tape a1 a2 a3 a4 a5 = some (r, o_x_reader_length, o_x_reader_tape) ∧ fX12_feed K m_taped m_tape m_five a1 a2 a3 a4 a5 = some (r, o_m_taped, o_m_tape, o_m_five) ∧ Rel x_cloud_size x_cloud_x x_cloud_y x_cloud_colour x_cloud_load x_cloud_centreX x_cloud_centreY o_x_reader_tape o_x_reader_length x_reader_faultKind x_reader_faultPlace m_many m_px m_py m_colour m_load m_cx m_cy o_m_tape o_m_taped m_faultKind m_faultPlace := by
  obtain ⟨h1, h2, ⟨t, ht, rfl, rfl, htt⟩, h4⟩ := hR
  have e20 : (20 : Int32) = nI 20 := rfl
  have e600 : (600 : Int32) = nI 600 := rfl
  unfold fX11_feed fX12_feed fX8_hasRoom b1 b2
  rw [e20, e600, nI_add]
  by_cases c : t + 20 ≤ 600
  · rw [if_pos (nI_le c (by decide)), if_neg (nI_nlt c (by decide))]
    simp only [Option.bind_some, if_neg one_ne, xl]
    rw [app_spec K t hK a1 _ (by omega)]
    simp only [Option.bind_some]
    rw [app_spec K (t + 4) hK a2 _ (by omega)]
    simp only [Option.bind_some]
    rw [app_spec K (t + 4 + 4) hK a3 _ (by omega)]
    simp only [Option.bind_some]
    rw [app_spec K (t + 4 + 4 + 4) hK a4 _ (by omega)]
    simp only [Option.bind_some]
    rw [app_spec K (t + 4 + 4 + 4 + 4) hK a5 _ (by omega)]
    simp only [Option.bind_some]
    simp only [show (0 : Int32).toNatClampNeg = 0 from rfl, show (1 : Int32).toNatClampNeg = 1 from rfl, show (2 : Int32).toNatClampNeg = 2 from rfl, show (3 : Int32).toNatClampNeg = 3 from rfl, show (4 : Int32).toNatClampNeg = 4 from rfl]
    generalize hg : upd (upd (upd (upd (upd m_five 0 a1) 1 a2) 2 a3) 3 a4) 4 a5 = g
    obtain ⟨g0, g1, g2, g3, g4⟩ := five_at m_five a1 a2 a3 a4 a5 g hg.symm
    rw [show fX12_feed_L55 K (nI t) g K 0 m_tape = _ from feed_run K t g c 20 K 0 m_tape rfl (by omega), feed_list, g0, g1, g2, g3, g4]
    have key := putL_rel [byt a1 24, byt a1 16, byt a1 8, byt a1 0, byt a2 24, byt a2 16, byt a2 8, byt a2 0, byt a3 24, byt a3 16, byt a3 8, byt a3 0, byt a4 24, byt a4 16, byt a4 8, byt a4 0, byt a5 24, byt a5 16, byt a5 8, byt a5 0] m_tape x_reader_tape t htt (by intro v hv; simp only [List.mem_cons, List.not_mem_nil, or_false] at hv; rcases hv with rfl | rfl | rfl | rfl | rfl | rfl | rfl | rfl | rfl | rfl | rfl | rfl | rfl | rfl | rfl | rfl | rfl | rfl | rfl | rfl <;> exact byt_rng _ _)
    have ec : putL (putL (putL (putL (putL x_reader_tape t [byt a1 24, byt a1 16, byt a1 8, byt a1 0]) (t + 4) [byt a2 24, byt a2 16, byt a2 8, byt a2 0]) (t + 4 + 4) [byt a3 24, byt a3 16, byt a3 8, byt a3 0]) (t + 4 + 4 + 4) [byt a4 24, byt a4 16, byt a4 8, byt a4 0]) (t + 4 + 4 + 4 + 4) [byt a5 24, byt a5 16, byt a5 8, byt a5 0] = putL x_reader_tape t [byt a1 24, byt a1 16, byt a1 8, byt a1 0, byt a2 24, byt a2 16, byt a2 8, byt a2 0, byt a3 24, byt a3 16, byt a3 8, byt a3 0, byt a4 24, byt a4 16, byt a4 8, byt a4 0, byt a5 24, byt a5 16, byt a5 8, byt a5 0] := by
      rw [show putL (putL x_reader_tape t [byt a1 24, byt a1 16, byt a1 8, byt a1 0]) (t + 4) [byt a2 24, byt a2 16, byt a2 8, byt a2 0] = _ from putL_app [byt a1 24, byt a1 16, byt a1 8, byt a1 0] [byt a2 24, byt a2 16, byt a2 8, byt a2 0] x_reader_tape t]
      rw [show ∀ l3, putL (putL x_reader_tape t ([byt a1 24, byt a1 16, byt a1 8, byt a1 0] ++ [byt a2 24, byt a2 16, byt a2 8, byt a2 0])) (t + 4 + 4) l3 = _ from fun l3 => putL_app ([byt a1 24, byt a1 16, byt a1 8, byt a1 0] ++ [byt a2 24, byt a2 16, byt a2 8, byt a2 0]) l3 x_reader_tape t]
      rw [show ∀ l4, putL (putL x_reader_tape t (([byt a1 24, byt a1 16, byt a1 8, byt a1 0] ++ [byt a2 24, byt a2 16, byt a2 8, byt a2 0]) ++ [byt a3 24, byt a3 16, byt a3 8, byt a3 0])) (t + 4 + 4 + 4) l4 = _ from fun l4 => putL_app (([byt a1 24, byt a1 16, byt a1 8, byt a1 0] ++ [byt a2 24, byt a2 16, byt a2 8, byt a2 0]) ++ [byt a3 24, byt a3 16, byt a3 8, byt a3 0]) l4 x_reader_tape t]
      rw [show ∀ l5, putL (putL x_reader_tape t ((([byt a1 24, byt a1 16, byt a1 8, byt a1 0] ++ [byt a2 24, byt a2 16, byt a2 8, byt a2 0]) ++ [byt a3 24, byt a3 16, byt a3 8, byt a3 0]) ++ [byt a4 24, byt a4 16, byt a4 8, byt a4 0])) (t + 4 + 4 + 4 + 4) l5 = _ from fun l5 => putL_app ((([byt a1 24, byt a1 16, byt a1 8, byt a1 0] ++ [byt a2 24, byt a2 16, byt a2 8, byt a2 0]) ++ [byt a3 24, byt a3 16, byt a3 8, byt a3 0]) ++ [byt a4 24, byt a4 16, byt a4 8, byt a4 0]) l5 x_reader_tape t]
      rfl
    rw [ec]
    generalize putL x_reader_tape t [byt a1 24, byt a1 16, byt a1 8, byt a1 0, byt a2 24, byt a2 16, byt a2 8, byt a2 0, byt a3 24, byt a3 16, byt a3 8, byt a3 0, byt a4 24, byt a4 16, byt a4 8, byt a4 0, byt a5 24, byt a5 16, byt a5 8, byt a5 0] = tp at key ⊢
    generalize hmt : putL m_tape (t + 0) [byt a1 24, byt a1 16, byt a1 8, byt a1 0, byt a2 24, byt a2 16, byt a2 8, byt a2 0, byt a3 24, byt a3 16, byt a3 8, byt a3 0, byt a4 24, byt a4 16, byt a4 8, byt a4 0, byt a5 24, byt a5 16, byt a5 8, byt a5 0] = mt
    simp only [Option.bind_some, nI_add]
    refine ⟨nI (t + 20), nI (t + 20), tp, nI (t + 20), mt, g, rfl, rfl, h1, h2, ⟨t + 20, c, rfl, rfl, fun i hi => ?_⟩, h4⟩
    rw [← hmt]
    exact key i hi
  · rw [if_neg (nI_ge (by omega) (by omega)), if_pos (nI_lt (by omega) (by omega))]
    simp only [Option.bind_some, if_true]
    exact ⟨_, _, _, _, _, _, rfl, rfl, h1, h2, ⟨t, ht, rfl, rfl, htt⟩, h4⟩
