/-! points: the whole text -/
theorem rp_stopC (K : Nat) (size : Int32) (tp : Nat → Int32) {n : Nat} (hn : 0 < n) {fk k : Int32} (hf : ¬ fk = 0 ∨ k = 7) (i fp ct st nx v q cx cy : Int32) (x y c l : Nat → Int32) : fX8_readText_L33 K size tp n i fk fp ct st nx k v q cx cy x y c l = some (fk, fp, ct, st, nx, k, v, q, cx, cy, x, y, c, l) := by
  obtain ⟨m, rfl⟩ : ∃ m, n = m + 1 := ⟨n - 1, by omega⟩
  rw [fX8_readText_L33]
  rcases hf with f | f
  · simp only [if_neg f, ite_self]
  · simp only [if_pos f, ite_self]
theorem rp_stopM (K : Nat) (size : Int32) (mt : Nat → Int32) {n : Nat} (hn : 0 < n) {fk tk : Int32} (hf : ¬ fk = 0 ∨ tk = 0) (fp ct at1 fr w q cx cy : Int32) (x y c l : Nat → Int32) : fX12_points_L52 K size mt n q cx cy ct at1 fr tk w fk fp x y c l = some (q, cx, cy, ct, at1, fr, tk, w, fk, fp, x, y, c, l) := by
  obtain ⟨m, rfl⟩ : ∃ m, n = m + 1 := ⟨n - 1, by omega⟩
  rw [fX12_points_L52]
  by_cases f : fk = 0
  · rcases hf with g | g
    · exact absurd f g
    · subst f
      simp only [b1, rp_good0, Option.bind_some, if_neg one_ne, if_pos g]
  · simp only [b1, rp_goodn K f, Option.bind_some, if_true]
theorem rp_seven {k v tk w : Int32} (hT : rpK k v tk w) : k = 7 ↔ tk = 0 := by
  rcases hT with ⟨rfl, rfl⟩ | ⟨rfl, rfl, -⟩ | ⟨rfl, rfl, -⟩ | ⟨rfl, rfl, -⟩ | ⟨rfl, rfl, -⟩ | ⟨rfl, rfl⟩ | ⟨rfl, rfl⟩ <;> decide
theorem rp_text (K : Nat) (hK : 4000 ≤ K) {L : Nat} {tp mt : Nat → Int32} (h : rpT L tp mt) : ∀ (d n m i s e : Nat) (k v tk w fk fp ct cx cy : Int32) (q : Nat) (x y c l rx ry rc rl : Nat → Int32), L - e < d → d + 1 ≤ n → d + 1 ≤ m → i ≤ e → s ≤ e → e ≤ L → rpK k v tk w → in20 cx → in20 cy → rpD q x y c l rx ry rc rl → ∃ (fk' fp' ct' : Int32) (s' e' : Nat) (k' v' tk' w' : Int32) (q' : Nat) (cx' cy' : Int32) (x' y' c' l' rx' ry' rc' rl' : Nat → Int32), fX8_readText_L33 K (nI L) tp n (nI i) fk fp ct (nI s) (nI e) k v (nI q) cx cy x y c l = some (fk', fp', ct', nI s', nI e', k', v', nI q', cx', cy', x', y', c', l') ∧ fX12_points_L52 K (nI L) mt m (nI q) cx cy ct (nI e) (nI s) tk w fk fp rx ry rc rl = some (nI q', cx', cy', ct', nI e', nI s', tk', w', fk', fp', rx', ry', rc', rl') ∧ in20 cx' ∧ in20 cy' ∧ rpD q' x' y' c' l' rx' ry' rc' rl' := by
  have hL := h.1
  intro d
  induction d with
  | zero => intro n m i s e k v tk w fk fp ct cx cy q x y c l rx ry rc rl h1; exact absurd h1 (by omega)
  | succ d ih =>
    intro n m i s e k v tk w fk fp ct cx cy q x y c l rx ry rc rl h1 h2 h3 h4 hs he hT hx hy hD
    by_cases hf : ¬ fk = 0 ∨ k = 7
    · have hf' : ¬ fk = 0 ∨ tk = 0 := hf.imp id (rp_seven hT).mp
      rw [rp_stopC K (nI L) tp (by omega) hf, rp_stopM K (nI L) mt (by omega) hf']
      exact ⟨_, _, _, s, e, _, _, _, _, q, _, _, _, _, _, _, _, _, _, _, rfl, rfl, hx, hy, hD⟩
    · have f0 : fk = 0 := Decidable.byContradiction fun z => hf (Or.inl z)
      have k7 : ¬ k = 7 := fun z => hf (Or.inr z)
      have t0 : ¬ tk = 0 := fun z => k7 ((rp_seven hT).mpr z)
      subst f0
      obtain ⟨n, rfl⟩ : ∃ j, n = j + 1 := ⟨n - 1, by omega⟩
      obtain ⟨m, rfl⟩ : ∃ j, m = j + 1 := ⟨m - 1, by omega⟩
      obtain ⟨f1, p1, ct1, s1, e1, k1, v1, tk1, w1, q1, cx1, cy1, x1, y1, c1, l1, rx1, ry1, rc1, rl1, a1, a2, a3, a4, a5, a6, a7, a8, a9⟩ := rp_inner K hK h hs he hT k7 fp ct hx hy hD
      obtain ⟨f2, p2, s2, e2, k2, v2, tk2, w2, b1', b2', b3', b4', b5', b6', b7'⟩ := rp_skip K hK h a3 a4 a6 f1 p1 (nI q1) cx1 cy1 ct1 rx1 ry1 rc1 rl1
      rw [a1 n i (by omega), fX12_points_L52]
      simp only [b1, b6, b14, rp_good0, Option.bind_some, if_neg one_ne, if_neg t0, b1', a2, b2']
      by_cases hg : ¬ f2 = 0 ∨ k2 = 7
      · have hg' : ¬ f2 = 0 ∨ tk2 = 0 := hg.imp id (rp_seven b6').mp
        rw [rp_stopC K (nI L) tp (by omega) hg, rp_stopM K (nI L) mt (by omega) hg']
        exact ⟨_, _, _, s2, e2, _, _, _, _, q1, _, _, _, _, _, _, _, _, _, _, rfl, rfl, a7, a8, a9⟩
      · have g0 : f2 = 0 := Decidable.byContradiction fun z => hg (Or.inl z)
        have g7 : ¬ k2 = 7 := fun z => hg (Or.inr z)
        have hlt : e1 < e2 := by
          rcases b7' g0 with z | z
          · exact absurd z g7
          · exact z
        exact ih n m (i + 1) s2 e2 k2 v2 tk2 w2 f2 p2 ct1 cx1 cy1 q1 x1 y1 c1 l1 rx1 ry1 rc1 rl1 (by omega) (by omega) (by omega) (by omega) b3' b4' b6' a7 a8 a9
def rpC (j q : Nat) (a l : Nat → Int32) (i : Nat) : Int32 := if j ≤ i ∧ i < q then a i else l i
theorem rpC_end {j q : Nat} (h : q ≤ j) (a : Nat → Int32) (l : Nat → Int32) : rpC j q a l = l := by
  funext i
  unfold rpC
  rw [if_neg (by omega)]
theorem rpC_step {j q : Nat} (h : j < q) (a : Nat → Int32) (l : Nat → Int32) : rpC (j + 1) q a (upd l j (a j)) = rpC j q a l := by
  funext i
  unfold rpC
  by_cases e : i = j
  · subst e
    rw [if_neg (by omega), if_pos (by omega), upd_at]
  · rw [upd_ne e]
    by_cases e2 : j ≤ i ∧ i < q
    · rw [if_pos (by omega), if_pos e2]
    · rw [if_neg (by omega), if_neg e2]
theorem rp_copyC (K : Nat) (X Y C D : Nat → Int32) {q : Nat} (hq : q ≤ 24) : ∀ (d n j : Nat) (x y c l : Nat → Int32), j + d = q → d < n → fX0_copyFrom_L2 K (nI q) X Y C D n (nI j) x y c l = some (rpC j q X x, rpC j q Y y, rpC j q C c, rpC j q D l) := by
  intro d
  induction d with
  | zero =>
    intro n j x y c l h1 h2
    obtain ⟨m, rfl⟩ : ∃ m, n = m + 1 := ⟨n - 1, by omega⟩
    rw [fX0_copyFrom_L2, if_pos (nI_le (by omega) (by omega)), rpC_end (by omega), rpC_end (by omega), rpC_end (by omega), rpC_end (by omega)]
  | succ d ih =>
    intro n j x y c l h1 h2
    obtain ⟨m, rfl⟩ : ∃ m, n = m + 1 := ⟨n - 1, by omega⟩
    rw [fX0_copyFrom_L2, if_neg (nI_ge (by omega) (by omega))]
    simp only [xl, gd_t (inb_nI (show j < 24 by omega) (by decide)), nI_clamp (show j < 2 ^ 31 by omega), nI_1]
    rw [ih m (j + 1) _ _ _ _ (by omega) (by omega), rpC_step (by omega), rpC_step (by omega), rpC_step (by omega), rpC_step (by omega)]
theorem rp_copyM (K : Nat) (X Y C D : Nat → Int32) {q : Nat} (hq : q ≤ 24) : ∀ (d n j : Nat) (x y c l : Nat → Int32), j + d = q → d < n → fX12_points_L109 K (nI q) X Y C D n (nI j) x y c l = some (rpC j q X x, rpC j q Y y, rpC j q C c, rpC j q D l) := by
  intro d
  induction d with
  | zero =>
    intro n j x y c l h1 h2
    obtain ⟨m, rfl⟩ : ∃ m, n = m + 1 := ⟨n - 1, by omega⟩
    rw [fX12_points_L109, if_pos (nI_le (by omega) (by omega)), rpC_end (by omega), rpC_end (by omega), rpC_end (by omega), rpC_end (by omega)]
  | succ d ih =>
    intro n j x y c l h1 h2
    obtain ⟨m, rfl⟩ : ∃ m, n = m + 1 := ⟨n - 1, by omega⟩
    rw [fX12_points_L109, if_neg (nI_ge (by omega) (by omega))]
    simp only [xl, gd_t (inb_nI (show j < 24 by omega) (by decide)), nI_clamp (show j < 2 ^ 31 by omega), nI_1]
    rw [ih m (j + 1) _ _ _ _ (by omega) (by omega), rpC_step (by omega), rpC_step (by omega), rpC_step (by omega), rpC_step (by omega)]
theorem ev_points (K : Nat) (hK : 4000 ≤ K) (x_cloud_size : Int32) (x_cloud_x : Nat → Int32) (x_cloud_y : Nat → Int32) (x_cloud_colour : Nat → Int32) (x_cloud_load : Nat → Int32) (x_cloud_centreX : Int32) (x_cloud_centreY : Int32) (x_reader_tape : Nat → Int32) (x_reader_length : Int32) (x_reader_faultKind : Int32) (x_reader_faultPlace : Int32) (m_many : Int32) (m_px : Nat → Int32) (m_py : Nat → Int32) (m_colour : Nat → Int32) (m_load : Nat → Int32) (m_cx : Int32) (m_cy : Int32) (m_tape : Nat → Int32) (m_taped : Int32) (m_faultKind : Int32) (m_faultPlace : Int32) (x_reader_centreTold : Int32) (x_reader_start : Int32) (x_reader_next : Int32) (x_reader_kind : Int32) (x_reader_value : Int32) (x_reader_draft_size : Int32) (x_reader_draft_centreX : Int32) (x_reader_draft_centreY : Int32) (x_reader_draft_x : Nat → Int32) (x_reader_draft_y : Nat → Int32) (x_reader_draft_colour : Nat → Int32) (x_reader_draft_load : Nat → Int32) (m_readMany : Int32) (m_readCx : Int32) (m_readCy : Int32) (m_hasCentre : Int32) (m_size : Int32) (m_at : Int32) (m_from : Int32) (m_token : Int32) (m_value : Int32) (m_readX : Nat → Int32) (m_readY : Nat → Int32) (m_readColour : Nat → Int32) (m_readLoad : Nat → Int32) (hR : Rel x_cloud_size x_cloud_x x_cloud_y x_cloud_colour x_cloud_load x_cloud_centreX x_cloud_centreY x_reader_tape x_reader_length x_reader_faultKind x_reader_faultPlace m_many m_px m_py m_colour m_load m_cx m_cy m_tape m_taped m_faultKind m_faultPlace) : ∃ (r : Int32) (o_x_cloud_size : Int32) (o_x_cloud_centreX : Int32) (o_x_cloud_centreY : Int32) (o_x_cloud_x : Nat → Int32) (o_x_cloud_y : Nat → Int32) (o_x_cloud_colour : Nat → Int32) (o_x_cloud_load : Nat → Int32) (o_x_reader_length : Int32) (o_x_reader_faultKind : Int32) (o_x_reader_faultPlace : Int32) (o_x_reader_centreTold : Int32) (o_x_reader_start : Int32) (o_x_reader_next : Int32) (o_x_reader_kind : Int32) (o_x_reader_value : Int32) (o_x_reader_draft_size : Int32) (o_x_reader_draft_centreX : Int32) (o_x_reader_draft_centreY : Int32) (o_x_reader_draft_x : Nat → Int32) (o_x_reader_draft_y : Nat → Int32) (o_x_reader_draft_colour : Nat → Int32) (o_x_reader_draft_load : Nat → Int32) (o_m_many : Int32) (o_m_cx : Int32) (o_m_cy : Int32) (o_m_readMany : Int32) (o_m_readCx : Int32) (o_m_readCy : Int32) (o_m_hasCentre : Int32) (o_m_taped : Int32) (o_m_size : Int32) (o_m_at : Int32) (o_m_from : Int32) (o_m_token : Int32) (o_m_value : Int32) (o_m_faultKind : Int32) (o_m_faultPlace : Int32) (o_m_px : Nat → Int32) (o_m_py : Nat → Int32) (o_m_colour : Nat → Int32) (o_m_load : Nat → Int32) (o_m_readX : Nat → Int32) (o_m_readY : Nat → Int32) (o_m_readColour : Nat → Int32) (o_m_readLoad : Nat → Int32), fX11_points K x_cloud_size x_cloud_centreX x_cloud_centreY x_cloud_x x_cloud_y x_cloud_colour x_cloud_load x_reader_length x_reader_faultKind x_reader_faultPlace x_reader_centreTold x_reader_start x_reader_next x_reader_kind x_reader_value x_reader_tape x_reader_draft_size x_reader_draft_centreX x_reader_draft_centreY x_reader_draft_x x_reader_draft_y x_reader_draft_colour x_reader_draft_load = some (r, o_x_cloud_size, o_x_cloud_centreX, o_x_cloud_centreY, o_x_cloud_x, o_x_cloud_y, o_x_cloud_colour, o_x_cloud_load, o_x_reader_length, o_x_reader_faultKind, o_x_reader_faultPlace, o_x_reader_centreTold, o_x_reader_start, o_x_reader_next, o_x_reader_kind, o_x_reader_value, o_x_reader_draft_size, o_x_reader_draft_centreX, o_x_reader_draft_centreY, o_x_reader_draft_x, o_x_reader_draft_y, o_x_reader_draft_colour, o_x_reader_draft_load) ∧ fX12_points K m_many m_cx m_cy m_readMany m_readCx m_readCy m_hasCentre m_taped m_size m_at m_from m_token m_value m_faultKind m_faultPlace m_px m_py m_colour m_load m_readX m_readY m_readColour m_readLoad m_tape = some (r, o_m_many, o_m_cx, o_m_cy, o_m_readMany, o_m_readCx, o_m_readCy, o_m_hasCentre, o_m_taped, o_m_size, o_m_at, o_m_from, o_m_token, o_m_value, o_m_faultKind, o_m_faultPlace, o_m_px, o_m_py, o_m_colour, o_m_load, o_m_readX, o_m_readY, o_m_readColour, o_m_readLoad) ∧ Rel o_x_cloud_size o_x_cloud_x o_x_cloud_y o_x_cloud_colour o_x_cloud_load o_x_cloud_centreX o_x_cloud_centreY x_reader_tape o_x_reader_length o_x_reader_faultKind o_x_reader_faultPlace o_m_many o_m_px o_m_py o_m_colour o_m_load o_m_cx o_m_cy m_tape o_m_taped o_m_faultKind o_m_faultPlace := by
  obtain ⟨⟨n, hn, e1, e2, hp⟩, ⟨hx, hy, ex, ey⟩, ⟨t, ht, rfl, rfl, htp⟩, -, -⟩ := hR
  have hT : rpT t x_reader_tape m_tape := ⟨ht, htp⟩
  obtain ⟨s1, a1, k1, v1, tk1, w1, t1, t2, t3, t4, t5, t6, t7⟩ := rp_adv K hK hT (Nat.zero_le t) x_reader_start x_reader_kind x_reader_value m_from m_token m_value
  rw [nI_0] at t6 t7
  have i0 : in20 0 := ⟨by decide, by decide⟩
  obtain ⟨fk, fp, ct, s', a', k', v', tk', w', q, cx, cy, x', y', c', l', rx', ry', rc', rl', o1, o2, o3, o4, o5⟩ := rp_text K hK hT 601 K K 0 s1 a1 k1 v1 tk1 w1 0 (-1) 0 0 0 0 x_reader_draft_x x_reader_draft_y x_reader_draft_colour x_reader_draft_load m_readX m_readY m_readColour m_readLoad (by omega) (by omega) (by omega) (by omega) t2 t3 t4 i0 i0 ⟨by omega, fun i hi => absurd hi (by omega)⟩
  rw [nI_0] at o1 o2
  have q24 := o5.1
  have cC := rp_copyC K x' y' c' l' q24 q K 0 x_cloud_x x_cloud_y x_cloud_colour x_cloud_load (by omega) (by omega)
  have cM := rp_copyM K rx' ry' rc' rl' q24 q K 0 m_px m_py m_colour m_load (by omega) (by omega)
  rw [nI_0] at cC cM
  unfold fX11_points fX12_points fX8_readText fX0_clear fX0_copyFrom
  simp only [b1, b3, b4, b7, b14, b15, Option.bind_some, t6, t7, o1, o2]
  by_cases f : fk = 0
  · subst f
    simp only [if_true, rp_good0, Option.bind_some, if_neg one_ne, cC, cM]
    refine ⟨_, _, _, _, _, _, _, _, _, _, _, _, _, _, _, _, _, _, _, _, _, _, _, _, _, _, _, _, _, _, _, _, _, _, _, _, _, _, _, _, _, _, _, _, _, _, rfl, rfl, ⟨q, q24, rfl, rfl, fun i hi => ?_⟩, ⟨o3, o4, rfl, rfl⟩, ⟨0, by omega, nI_0.symm, nI_0.symm, fun i hi => absurd hi (by omega)⟩, rfl, rfl⟩
    unfold rpC
    simp only [if_pos (show 0 ≤ i ∧ i < q from ⟨by omega, hi⟩)]
    exact o5.2 i hi
  · simp only [if_neg f, rp_goodn K f, Option.bind_some, if_true]
    exact ⟨_, _, _, _, _, _, _, _, _, _, _, _, _, _, _, _, _, _, _, _, _, _, _, _, _, _, _, _, _, _, _, _, _, _, _, _, _, _, _, _, _, _, _, _, _, _, rfl, rfl, ⟨n, hn, e1, e2, hp⟩, ⟨hx, hy, ex, ey⟩, ⟨0, by omega, nI_0.symm, nI_0.symm, fun i hi => absurd hi (by omega)⟩, rfl, rfl⟩
