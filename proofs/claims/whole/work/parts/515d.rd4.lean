/-! points: loads, the centre, lines, the whole text -/
def rpF (j q : Nat) (a : Int32) (l : Nat → Int32) (i : Nat) : Int32 := if j ≤ i ∧ i < q then a else l i
theorem rpF_end {j q : Nat} (h : q ≤ j) (a : Int32) (l : Nat → Int32) : rpF j q a l = l := by
  funext i
  unfold rpF
  rw [if_neg (by omega)]
theorem rpF_step {j q : Nat} (h : j < q) (a : Int32) (l : Nat → Int32) : rpF (j + 1) q a (upd l j a) = rpF j q a l := by
  funext i
  unfold rpF
  by_cases e : i = j
  · subst e
    rw [if_neg (by omega), if_pos (by omega), upd_at]
  · rw [upd_ne e]
    by_cases e2 : j ≤ i ∧ i < q
    · rw [if_pos (by omega), if_pos e2]
    · rw [if_neg (by omega), if_neg e2]
theorem rp_fillC (K : Nat) (a : Int32) {q : Nat} (hq : q ≤ 24) : ∀ (d n j : Nat) (l : Nat → Int32), j + d = q → d < n → fX8_readPoints_L129 K a (nI q) n (nI j) l = some (rpF j q a l) := by
  intro d
  induction d with
  | zero =>
    intro n j l h1 h2
    obtain ⟨m, rfl⟩ : ∃ m, n = m + 1 := ⟨n - 1, by omega⟩
    rw [fX8_readPoints_L129, if_pos (nI_le (by omega) (by omega)), rpF_end (by omega)]
  | succ d ih =>
    intro n j l h1 h2
    obtain ⟨m, rfl⟩ : ∃ m, n = m + 1 := ⟨n - 1, by omega⟩
    rw [fX8_readPoints_L129, if_neg (nI_ge (by omega) (by omega)), gd_t (inb_nI (by omega) (by decide))]
    simp only [xl, nI_clamp (show j < 2 ^ 31 by omega), nI_1]
    rw [ih m (j + 1) _ (by omega) (by omega), rpF_step (by omega)]
theorem rp_fillM (K : Nat) (a : Int32) {q : Nat} (hq : q ≤ 24) : ∀ (d n j : Nat) (l : Nat → Int32), j + d = q → d < n → fX12_readPoints_L59 K a (nI q) n (nI j) l = some (rpF j q a l) := by
  intro d
  induction d with
  | zero =>
    intro n j l h1 h2
    obtain ⟨m, rfl⟩ : ∃ m, n = m + 1 := ⟨n - 1, by omega⟩
    rw [fX12_readPoints_L59, if_pos (nI_le (by omega) (by omega)), rpF_end (by omega)]
  | succ d ih =>
    intro n j l h1 h2
    obtain ⟨m, rfl⟩ : ∃ m, n = m + 1 := ⟨n - 1, by omega⟩
    rw [fX12_readPoints_L59, if_neg (nI_ge (by omega) (by omega)), gd_t (inb_nI (by omega) (by decide))]
    simp only [xl, nI_clamp (show j < 2 ^ 31 by omega), nI_1]
    rw [ih m (j + 1) _ (by omega) (by omega), rpF_step (by omega)]
theorem rp_ld {q : Nat} {x y c l rx ry rc rl : Nat → Int32} (h : rpD q x y c l rx ry rc rl) (j : Nat) {a : Int32} (ha : 0 ≤ a.toInt ∧ a.toInt ≤ 99) : rpD q x y c (rpF j q a l) rx ry rc (rpF j q a rl) := by
  refine ⟨h.1, fun i hi => ?_⟩
  obtain ⟨⟨g1, g2, g3, g4⟩, g5, g6, g7, g8⟩ := h.2 i hi
  unfold rpF
  by_cases e : j ≤ i ∧ i < q
  · rw [if_pos e, if_pos e]
    exact ⟨⟨g1, g2, g3, rfl⟩, g5, g6, g7, ha⟩
  · rw [if_neg e, if_neg e]
    exact ⟨⟨g1, g2, g3, g4⟩, g5, g6, g7, g8⟩
theorem rp_points (K : Nat) (hK : 4000 ≤ K) {L : Nat} {tp mt : Nat → Int32} (h : rpT L tp mt) {ink : Int32} (hink : 0 ≤ ink.toInt ∧ ink.toInt ≤ 2) {s e : Nat} (he : e ≤ L) (k v tk w fp : Int32) {q : Nat} {x y c l rx ry rc rl : Nat → Int32} (hD : rpD q x y c l rx ry rc rl) : ∃ (fk' fp' : Int32) (s' e' : Nat) (k' v' tk' w' : Int32) (q' : Nat) (x' y' c' l' rx' ry' rc' rl' : Nat → Int32), fX8_readPoints K (nI L) 0 fp (nI s) (nI e) k v tp (nI q) x y c l ink = some (fk', fp', nI s', nI e', k', v', nI q', x', y', c', l') ∧ fX12_readPoints K (nI q) (nI L) (nI e) (nI s) tk w 0 fp rx ry rc rl mt ink = some (nI q', nI e', nI s', tk', w', fk', fp', rx', ry', rc', rl') ∧ s' ≤ e' ∧ e' ≤ L ∧ e ≤ e' ∧ rpK k' v' tk' w' ∧ rpD q' x' y' c' l' rx' ry' rc' rl' := by
  have hL := h.1
  have em : (-1 : Int32).toInt = -1 := by decide
  have e99 : (99 : Int32).toInt = 99 := by decide
  have hi1 : ¬ ink = -1 := fun z => by
    have := (i_eq_lit em).mp z
    omega
  obtain ⟨f1, p1, s1, e1, k1, v1, tk1, w1, q1, x1, y1, c1, l1, rx1, ry1, rc1, rl1, o1, o2, o3, o4, o5, o6, o7, o8⟩ := rp_loop K hK h hink 601 K K 0 s e k v tk w fp q x y c l rx ry rc rl (by omega) (by omega) (by omega) (by omega) he hD
  rw [nI_0] at o1
  unfold rpRB b4 b11 at o2
  unfold fX8_readPoints fX12_readPoints
  rw [if_neg hi1]
  simp only [b11, b4, o1, Option.bind_some]
  simp only [← Option.bind_assoc, o2, Option.bind_some]
  by_cases f : f1 = 0
  · subst f
    simp only [if_true, b1]
    rcases rp_spell K hK h o3 o4 o6 (j := 4) (by decide) with ⟨u1, u2⟩ | ⟨u1, u2⟩
    · obtain ⟨s2, e2, k2, v2, tk2, w2, t1, t2, t3, t4, t5, t6, t7⟩ := rp_adv K hK h o4 (nI s1) k1 v1 (nI s1) tk1 w1
      obtain ⟨r, f3, p3, s3, e3, k3, v3, tk3, w3, d1, d2, d3, d4, d5, d6, d7, -⟩ := rp_take K hK h t2 t3 t4 0 p1 99 ⟨by decide, by decide⟩
      rw [e99] at d7
      simp only [u1, u2, Option.bind_some, if_neg one_ne, t6, t7, b7, d1, d2, rp_fillC K r o8.1 (q1 - q) K q l1 (by omega) (by have := o8.1; omega), rp_fillM K r o8.1 (q1 - q) K q rl1 (by omega) (by have := o8.1; omega)]
      exact ⟨_, _, s3, e3, _, _, _, _, q1, _, _, _, _, _, _, _, _, rfl, rfl, d3, d4, by omega, d5, rp_ld o8 q d7⟩
    · simp only [u1, u2, Option.bind_some, if_true]
      exact ⟨_, _, s1, e1, _, _, _, _, q1, _, _, _, _, _, _, _, _, rfl, rfl, o3, o4, o5, o6, o8⟩
  · simp only [if_neg f, b1, rp_isN K hK f _ _ _ _ (show 4 < 5 by decide), Option.bind_some, if_true]
    exact ⟨_, _, s1, e1, _, _, _, _, q1, _, _, _, _, _, _, _, _, rfl, rfl, o3, o4, o5, o6, o8⟩
theorem rp_centre (K : Nat) (hK : 4000 ≤ K) {L : Nat} {tp mt : Nat → Int32} (h : rpT L tp mt) {s e : Nat} (hs : s ≤ e) (he : e ≤ L) {k v tk w : Int32} (hT : rpK k v tk w) (fp ct : Int32) {cx cy : Int32} (hx : in20 cx) (hy : in20 cy) : ∃ (fk' fp' ct' : Int32) (s' e' : Nat) (k' v' tk' w' cx' cy' : Int32), fX8_readCentre K (nI L) 0 fp ct (nI s) (nI e) k v tp cx cy = some (fk', fp', ct', nI s', nI e', k', v', cx', cy') ∧ fX12_readCentre K cx cy ct (nI L) (nI e) (nI s) tk w 0 fp mt = some (cx', cy', ct', nI e', nI s', tk', w', fk', fp') ∧ s' ≤ e' ∧ e' ≤ L ∧ e ≤ e' ∧ rpK k' v' tk' w' ∧ in20 cx' ∧ in20 cy' := by
  unfold fX8_readCentre fX12_readCentre
  by_cases c0 : ct = 0
  · obtain ⟨s1, e1, k1, v1, tk1, w1, t1, t2, t3, t4, t5, t6, t7⟩ := rp_adv K hK h he (nI s) k v (nI s) tk w
    obtain ⟨r2, f2, p2, s2, e2, k2, v2, tk2, w2, c1, c2, c3, c4, c5, c6, c7, -⟩ := rp_coord K hK h t2 t3 t4 0 fp
    obtain ⟨r3, f3, p3, s3, e3, k3, v3, tk3, w3, d1, d2, d3, d4, d5, d6, d7, -⟩ := rp_coord K hK h c3 c4 c5 f2 p2
    simp only [jn, b1, b4, b7, if_pos c0, rp_good0, if_neg one_ne, t6, t7, c1, c2, d1, d2, Option.bind_some]
    exact ⟨_, _, _, s3, e3, _, _, _, _, _, _, rfl, rfl, d3, d4, by omega, d5, c7, d7⟩
  · simp only [jn, b1, b2, if_neg c0, rp_ref0, rp_errs0, rp_goodn K rp_ne3, if_true, Option.bind_some]
    exact ⟨_, _, _, s, e, _, _, _, _, _, _, rfl, rfl, hs, he, Nat.le_refl _, hT, hx, hy⟩
def rpLT (K : Nat) (t_size : Int32) (t_tape : Nat → Int32) (t_readMany_3 : Int32) (t_readCx_4 : Int32) (t_readCy_5 : Int32) (t_hasCentre_6 : Int32) (t_at_7 : Int32) (t_from_8 : Int32) (t_token_9 : Int32) (t_value_10 : Int32) (t_faultKind_11 : Int32) (t_faultPlace_12 : Int32) (t_readX_13 : Nat → Int32) (t_readY_14 : Nat → Int32) (t_readColour_15 : Nat → Int32) (t_readLoad_16 : Nat → Int32) : Option (Int32 × Int32 × Int32 × Int32 × Int32 × Int32 × Int32 × Int32 × Int32 × Int32 × (Nat → Int32) × (Nat → Int32) × (Nat → Int32) × (Nat → Int32)) := b1 (fX12_good K t_faultKind_11) (fun r_19 => jn (fun (t_faultKind_21 : Int32) (t_faultPlace_22 : Int32) => b1 (fX12_good K t_faultKind_21) (fun r_25 => if r_25 = 0 then some (t_readMany_3, t_readCx_4, t_readCy_5, t_hasCentre_6, t_at_7, t_from_8, t_token_9, t_value_10, t_faultKind_21, t_faultPlace_22, t_readX_13, t_readY_14, t_readColour_15, t_readLoad_16) else b4 (fX12_advance K t_size t_at_7 t_from_8 t_token_9 t_value_10 t_tape) (fun t_at_27 t_from_28 t_token_29 t_value_30 => some (t_readMany_3, t_readCx_4, t_readCy_5, t_hasCentre_6, t_at_27, t_from_28, t_token_29, t_value_30, t_faultKind_21, t_faultPlace_22, t_readX_13, t_readY_14, t_readColour_15, t_readLoad_16)))) (fun k_23 => if r_19 = 0 then k_23 t_faultKind_11 t_faultPlace_12 else b1 (fX12_isSign K t_token_9 t_value_10 t_faultKind_11 (59 : Int32)) (fun r_32 => if r_32 = 0 then b2 (fX12_errs K t_from_8 t_faultKind_11 t_faultPlace_12 (1 : Int32)) (fun t_faultKind_34 t_faultPlace_35 => k_23 t_faultKind_34 t_faultPlace_35) else k_23 t_faultKind_11 t_faultPlace_12)))
theorem rp_lineEq (K : Nat) (many cx cy ct size at1 fr tk w fk fp : Int32) (rx ry rc rl mt : Nat → Int32) : fX12_readLine K many cx cy ct size at1 fr tk w fk fp rx ry rc rl mt = b1 (fX12_is K at1 fr tk fk mt 0) (fun r_1 => if r_1 = 0 then b1 (fX12_is K at1 fr tk fk mt 1) (fun r_37 => if r_37 = 0 then b1 (fX12_is K at1 fr tk fk mt 2) (fun r_39 => if r_39 = 0 then b1 (fX12_is K at1 fr tk fk mt 3) (fun r_41 => if r_41 = 0 then b2 (fX12_errs K fr fk fp (1 : Int32)) (fun f p => rpLT K size mt many cx cy ct at1 fr tk w f p rx ry rc rl) else b11 (fX12_readPoints K many size at1 fr tk w fk fp rx ry rc rl mt (2 : Int32)) (fun n a b t z f p x y c l => rpLT K size mt n cx cy ct a b t z f p x y c l)) else b11 (fX12_readPoints K many size at1 fr tk w fk fp rx ry rc rl mt (1 : Int32)) (fun n a b t z f p x y c l => rpLT K size mt n cx cy ct a b t z f p x y c l)) else b11 (fX12_readPoints K many size at1 fr tk w fk fp rx ry rc rl mt (0 : Int32)) (fun n a b t z f p x y c l => rpLT K size mt n cx cy ct a b t z f p x y c l)) else b9 (fX12_readCentre K cx cy ct size at1 fr tk w fk fp mt) (fun cx1 cy1 ct1 a b t z f p => rpLT K size mt many cx1 cy1 ct1 a b t z f p rx ry rc rl)) := rfl
theorem rp_skip (K : Nat) (hK : 4000 ≤ K) {L : Nat} {tp mt : Nat → Int32} (h : rpT L tp mt) {s e : Nat} (hs : s ≤ e) (he : e ≤ L) {k v tk w : Int32} (hT : rpK k v tk w) (fk fp : Int32) (many cx cy ct : Int32) (rx ry rc rl : Nat → Int32) : ∃ (fk' fp' : Int32) (s' e' : Nat) (k' v' tk' w' : Int32), fX8_skip K (nI L) fk fp (nI s) (nI e) k v tp 3 = some (fk', fp', nI s', nI e', k', v') ∧ rpLT K (nI L) mt many cx cy ct (nI e) (nI s) tk w fk fp rx ry rc rl = some (many, cx, cy, ct, nI e', nI s', tk', w', fk', fp', rx, ry, rc, rl) ∧ s' ≤ e' ∧ e' ≤ L ∧ e ≤ e' ∧ rpK k' v' tk' w' ∧ (fk' = 0 → k' = 7 ∨ e < e') := by
  unfold fX8_skip rpLT
  by_cases f : fk = 0
  · subst f
    have sg := rp_sign59 K hT
    by_cases k3 : k = 3
    · rw [if_pos k3] at sg
      obtain ⟨s', e', k', v', tk', w', t1, t2, t3, t4, t5, t6, t7⟩ := rp_adv K hK h he (nI s) k v (nI s) tk w
      simp only [jn, b1, b2, b4, rp_good0, if_neg one_ne, sg, if_pos k3, if_true, t6, t7, Option.bind_some]
      refine ⟨_, _, s', e', _, _, _, _, rfl, rfl, t2, t3, by omega, t4, fun _ => ?_⟩
      rcases t5 with z | z
      · exact Or.inl z
      · exact Or.inr (by omega)
    · rw [if_neg k3] at sg
      simp only [jn, b1, b2, rp_good0, if_neg one_ne, sg, if_neg k3, if_true, rp_ref0, rp_errs0, rp_goodn K one_ne, Option.bind_some]
      exact ⟨_, _, s, e, _, _, _, _, rfl, rfl, hs, he, Nat.le_refl _, hT, fun z => absurd z one_ne⟩
  · simp only [jn, b1, b2, rp_goodn K f, rp_refn K f, if_neg f, if_true, ite_self, Option.bind_some]
    exact ⟨_, _, s, e, _, _, _, _, rfl, rfl, hs, he, Nat.le_refl _, hT, fun z => absurd z f⟩
theorem rp_inner (K : Nat) (hK : 4000 ≤ K) {L : Nat} {tp mt : Nat → Int32} (h : rpT L tp mt) {s e : Nat} (hs : s ≤ e) (he : e ≤ L) {k v tk w : Int32} (hT : rpK k v tk w) (k7 : ¬ k = 7) (fp ct : Int32) {cx cy : Int32} (hx : in20 cx) (hy : in20 cy) {q : Nat} {x y c l rx ry rc rl : Nat → Int32} (hD : rpD q x y c l rx ry rc rl) : ∃ (f1 p1 ct1 : Int32) (s1 e1 : Nat) (k1 v1 tk1 w1 : Int32) (q1 : Nat) (cx1 cy1 : Int32) (x1 y1 c1 l1 rx1 ry1 rc1 rl1 : Nat → Int32), (∀ (n i : Nat), i ≤ 600 → fX8_readText_L33 K (nI L) tp (n + 1) (nI i) 0 fp ct (nI s) (nI e) k v (nI q) cx cy x y c l = b6 (fX8_skip K (nI L) f1 p1 (nI s1) (nI e1) k1 v1 tp 3) (fun a b st nx kd vl => fX8_readText_L33 K (nI L) tp n (nI (i + 1)) a b ct1 st nx kd vl (nI q1) cx1 cy1 x1 y1 c1 l1)) ∧ fX12_readLine K (nI q) cx cy ct (nI L) (nI e) (nI s) tk w 0 fp rx ry rc rl mt = rpLT K (nI L) mt (nI q1) cx1 cy1 ct1 (nI e1) (nI s1) tk1 w1 f1 p1 rx1 ry1 rc1 rl1 ∧ s1 ≤ e1 ∧ e1 ≤ L ∧ e ≤ e1 ∧ rpK k1 v1 tk1 w1 ∧ in20 cx1 ∧ in20 cy1 ∧ rpD q1 x1 y1 c1 l1 rx1 ry1 rc1 rl1 := by
  have i6 : ∀ i : Nat, i ≤ 600 → ¬ (600 : Int32) < nI i := fun i hi => show ¬ nI 600 < nI i from nI_nlt hi (by decide)
  have in0 : 0 ≤ (0 : Int32).toInt ∧ (0 : Int32).toInt ≤ 2 := by decide
  have in1 : 0 ≤ (1 : Int32).toInt ∧ (1 : Int32).toInt ≤ 2 := by decide
  have in2 : 0 ≤ (2 : Int32).toInt ∧ (2 : Int32).toInt ≤ 2 := by decide
  rw [rp_lineEq]
  rcases rp_spell K hK h hs he hT (j := 0) (by decide) with ⟨u1, u2⟩ | ⟨u1, u2⟩
  · obtain ⟨f1, p1, ct1, s1, e1, k1, v1, tk1, w1, cx1, cy1, o1, o2, o3, o4, o5, o6, o7, o8⟩ := rp_centre K hK h hs he hT fp ct hx hy
    refine ⟨f1, p1, ct1, s1, e1, k1, v1, tk1, w1, q, cx1, cy1, x, y, c, l, rx, ry, rc, rl, fun n i hi => ?_, ?_, o3, o4, o5, o6, o7, o8, hD⟩
    · rw [fX8_readText_L33, if_neg (i6 i hi), if_neg k7, if_pos rfl]
      simp only [b1, jn, xl, u1, Option.bind_some, if_neg one_ne, b9, o1, nI_1]
    · simp only [b1, u2, Option.bind_some, if_neg one_ne, b9, o2]
  · rcases rp_spell K hK h hs he hT (j := 1) (by decide) with ⟨y1, y2⟩ | ⟨y1, y2⟩
    · obtain ⟨f1, p1, s1, e1, k1, v1, tk1, w1, q1, x1, yy1, c1, l1, rx1, ry1, rc1, rl1, o1, o2, o3, o4, o5, o6, o7⟩ := rp_points K hK h in0 (s := s) he k v tk w fp hD
      refine ⟨f1, p1, ct, s1, e1, k1, v1, tk1, w1, q1, cx, cy, x1, yy1, c1, l1, rx1, ry1, rc1, rl1, fun n i hi => ?_, ?_, o3, o4, o5, o6, hx, hy, o7⟩
      · rw [fX8_readText_L33, if_neg (i6 i hi), if_neg k7, if_pos rfl]
        simp only [b1, jn, xl, u1, fX8_colourTold, y1, Option.bind_some, if_true, if_neg one_ne, b11, o1, nI_1]
      · simp only [b1, u2, y2, Option.bind_some, if_true, if_neg one_ne, b11, o2]
    · rcases rp_spell K hK h hs he hT (j := 2) (by decide) with ⟨z1, z2⟩ | ⟨z1, z2⟩
      · obtain ⟨f1, p1, s1, e1, k1, v1, tk1, w1, q1, x1, yy1, c1, l1, rx1, ry1, rc1, rl1, o1, o2, o3, o4, o5, o6, o7⟩ := rp_points K hK h in1 (s := s) he k v tk w fp hD
        refine ⟨f1, p1, ct, s1, e1, k1, v1, tk1, w1, q1, cx, cy, x1, yy1, c1, l1, rx1, ry1, rc1, rl1, fun n i hi => ?_, ?_, o3, o4, o5, o6, hx, hy, o7⟩
        · rw [fX8_readText_L33, if_neg (i6 i hi), if_neg k7, if_pos rfl]
          simp only [b1, jn, xl, u1, fX8_colourTold, y1, z1, Option.bind_some, if_true, if_neg one_ne, b11, o1, nI_1]
        · simp only [b1, u2, y2, z2, Option.bind_some, if_true, if_neg one_ne, b11, o2]
      · rcases rp_spell K hK h hs he hT (j := 3) (by decide) with ⟨a1, a2⟩ | ⟨a1, a2⟩
        · obtain ⟨f1, p1, s1, e1, k1, v1, tk1, w1, q1, x1, yy1, c1, l1, rx1, ry1, rc1, rl1, o1, o2, o3, o4, o5, o6, o7⟩ := rp_points K hK h in2 (s := s) he k v tk w fp hD
          refine ⟨f1, p1, ct, s1, e1, k1, v1, tk1, w1, q1, cx, cy, x1, yy1, c1, l1, rx1, ry1, rc1, rl1, fun n i hi => ?_, ?_, o3, o4, o5, o6, hx, hy, o7⟩
          · rw [fX8_readText_L33, if_neg (i6 i hi), if_neg k7, if_pos rfl]
            simp only [b1, jn, xl, u1, fX8_colourTold, y1, z1, a1, Option.bind_some, if_true, if_neg one_ne, b11, o1, nI_1]
          · simp only [b1, u2, y2, z2, a2, Option.bind_some, if_true, if_neg one_ne, b11, o2]
        · refine ⟨1, nI s, ct, s, e, k, v, tk, w, q, cx, cy, x, y, c, l, rx, ry, rc, rl, fun n i hi => ?_, ?_, hs, he, Nat.le_refl _, hT, hx, hy, hD⟩
          · rw [fX8_readText_L33, if_neg (i6 i hi), if_neg k7, if_pos rfl]
            simp only [b1, b2, jn, xl, u1, fX8_colourTold, y1, z1, a1, Option.bind_some, if_true, b11, fX8_readPoints, rp_ref0, nI_1]
          · simp only [b1, b2, u2, y2, z2, a2, Option.bind_some, if_true, rp_errs0]
