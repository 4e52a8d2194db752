/-! points: a colour's places -/
def rpD (n : Nat) (x y c l rx ry rc rl : Nat → Int32) : Prop := n ≤ 24 ∧ ∀ i : Nat, i < n → (rx i = x i ∧ ry i = y i ∧ rc i = c i ∧ rl i = l i) ∧ in20 (x i) ∧ in20 (y i) ∧ (0 ≤ (c i).toInt ∧ (c i).toInt ≤ 2) ∧ (0 ≤ (l i).toInt ∧ (l i).toInt ≤ 99)
theorem rp_put {n : Nat} {x y c l rx ry rc rl : Nat → Int32} (h : rpD n x y c l rx ry rc rl) (hn : n < 24) {a b ink : Int32} (ha : in20 a) (hb : in20 b) (hi : 0 ≤ ink.toInt ∧ ink.toInt ≤ 2) : rpD (n + 1) (upd x n a) (upd y n b) (upd c n ink) (upd l n 0) (upd rx n a) (upd ry n b) (upd rc n ink) (upd rl n 0) := by
  refine ⟨by omega, fun i hi' => ?_⟩
  by_cases e : i = n
  · subst e
    simp only [upd_at]
    exact ⟨⟨trivial, trivial, trivial, trivial⟩, ha, hb, hi, by decide, by decide⟩
  · simp only [upd_ne e]
    exact h.2 i (by omega)
def rpTail (K : Nat) (t_readMany : Int32) (t_size : Int32) (t_at : Int32) (t_from : Int32) (t_token : Int32) (t_value : Int32) (t_faultKind_6 : Int32) (t_faultPlace_7 : Int32) (t_readX : Nat → Int32) (t_readY : Nat → Int32) (t_readColour : Nat → Int32) (t_readLoad : Nat → Int32) (t_tape : Nat → Int32) (a1 : Int32) : Option (Int32 × Int32 × Int32 × Int32 × Int32 × Int32 × Int32 × (Nat → Int32) × (Nat → Int32) × (Nat → Int32) × (Nat → Int32)) := b7 (fX12_takesSigned K t_size t_at t_from t_token t_value t_faultKind_6 t_faultPlace_7 t_tape) (fun r_10 t_at_11 t_from_12 t_token_13 t_value_14 t_faultKind_15 t_faultPlace_16 => b7 (fX12_takesSigned K t_size t_at_11 t_from_12 t_token_13 t_value_14 t_faultKind_15 t_faultPlace_16 t_tape) (fun r_18 t_at_19 t_from_20 t_token_21 t_value_22 t_faultKind_23 t_faultPlace_24 => b1 (fX12_good K t_faultKind_23) (fun r_26 => if r_26 = 0 then some (t_readMany, t_at_19, t_from_20, t_token_21, t_value_22, t_faultKind_23, t_faultPlace_24, t_readX, t_readY, t_readColour, t_readLoad) else gd (inb t_readMany 24) (xl (upd t_readX t_readMany.toNatClampNeg r_10) (fun t_readX_29 => gd (inb t_readMany 24) (xl (upd t_readY t_readMany.toNatClampNeg r_18) (fun t_readY_31 => gd (inb t_readMany 24) (xl (upd t_readColour t_readMany.toNatClampNeg a1) (fun t_readColour_33 => gd (inb t_readMany 24) (xl (upd t_readLoad t_readMany.toNatClampNeg (0 : Int32)) (fun t_readLoad_35 => xl (t_readMany + (1 : Int32)) (fun f_readMany_36 => some (f_readMany_36, t_at_19, t_from_20, t_token_21, t_value_22, t_faultKind_23, t_faultPlace_24, t_readX_29, t_readY_31, t_readColour_33, t_readLoad_35)))))))))))))
theorem rp_rpEq (K : Nat) (many size at1 fr tk w fk fp : Int32) (rx ry rc rl mt : Nat → Int32) (ink : Int32) : fX12_readPoint K many size at1 fr tk w fk fp rx ry rc rl mt ink = b1 (fX12_isSign K tk w fk 45) (fun r_1 => jn (fun (s_3 : Int32) => jn (fun (f : Int32) (p : Int32) => rpTail K many size at1 fr tk w f p rx ry rc rl mt ink) (fun k_8 => if many = (24 : Int32) then if s_3 = 0 then k_8 fk fp else b2 (fX12_errs K fr fk fp (3 : Int32)) (fun a b => k_8 a b) else k_8 fk fp)) (fun k_4 => jn (k_4 (1 : Int32)) (fun k_40 => if r_1 = 0 then b1 (fX12_good K fk) (fun r_42 => jn (k_4 (0 : Int32)) (fun k_44 => if r_42 = 0 then k_44 else if tk = (2 : Int32) then if (20 : Int32) < w then k_44 else k_40 else k_44)) else k_40))) := rfl
theorem rp_two {k v tk w : Int32} (hT : rpK k v tk w) : (k = 2 ↔ tk = 2) ∧ (k = 2 → ((20 : Int32) < v ↔ (20 : Int32) < w)) := by
  have e20 : (20 : Int32).toInt = 20 := by decide
  rcases hT with ⟨rfl, rfl⟩ | ⟨rfl, rfl, hv⟩ | ⟨rfl, rfl, -⟩ | ⟨rfl, rfl, -⟩ | ⟨rfl, rfl, -⟩ | ⟨rfl, rfl⟩ | ⟨rfl, rfl⟩
  · exact ⟨by decide, fun z => absurd z (by decide)⟩
  · refine ⟨by decide, fun _ => ?_⟩
    rw [lit_lt_i e20, lit_lt_i e20]
    rcases hv with ⟨z, -⟩ | z
    · rw [z]
    · omega
  · exact ⟨by decide, fun z => absurd z (by decide)⟩
  · exact ⟨by decide, fun z => absurd z (by decide)⟩
  · exact ⟨by decide, fun z => absurd z (by decide)⟩
  · exact ⟨by decide, fun z => absurd z (by decide)⟩
  · exact ⟨by decide, fun z => absurd z (by decide)⟩
theorem rp_prefix (K : Nat) {k v tk w : Int32} (hT : rpK k v tk w) {q : Nat} (hq : q ≤ 24) (fp st size at1 : Int32) (rx ry rc rl mt : Nat → Int32) (ink : Int32) : ∃ (fk' fp' : Int32), fX8_refuseBeyondLast K 0 fp st k v (nI q) = some (fk', fp') ∧ fX12_readPoint K (nI q) size at1 st tk w 0 fp rx ry rc rl mt ink = rpTail K (nI q) size at1 st tk w fk' fp' rx ry rc rl mt ink ∧ (fk' = 0 → q < 24 ∨ ¬ (k = 5 ∨ (k = 2 ∧ v.toInt ≤ 20))) := by
  have e20 : (20 : Int32).toInt = 20 := by decide
  have sg := rp_sign45 K hT
  obtain ⟨w1, w2⟩ := rp_two hT
  rw [rp_rpEq]
  unfold fX8_refuseBeyondLast
  simp only [b1, b2, jn, sg, rp_good0, rp_ref0, rp_errs0, Option.bind_some, if_neg one_ne]
  by_cases full : q = 24
  · subst full
    have a1 : ¬ nI 24 < (24 : Int32) := by decide
    have a2 : nI 24 = (24 : Int32) := rfl
    simp only [if_neg a1, if_pos a2]
    by_cases k5 : k = 5
    · simp only [if_pos k5, if_neg one_ne]
      exact ⟨3, st, rfl, rfl, fun z => absurd z rp_ne3⟩
    · simp only [if_neg k5, if_true]
      by_cases k2 : k = 2
      · simp only [if_pos k2, if_pos (w1.mp k2), ← w2 k2]
        by_cases big : (20 : Int32) < v
        · simp only [if_pos big, if_true]
          refine ⟨0, fp, rfl, rfl, fun _ => Or.inr ?_⟩
          rintro (z | ⟨-, z⟩)
          · exact k5 z
          · have := (lit_lt_i e20).mp big
            omega
        · simp only [if_neg big, if_neg one_ne]
          exact ⟨3, st, rfl, rfl, fun z => absurd z rp_ne3⟩
      · have t2 : ¬ tk = 2 := fun z => k2 (w1.mpr z)
        simp only [if_neg k2, if_neg t2, if_true]
        refine ⟨0, fp, rfl, rfl, fun _ => Or.inr ?_⟩
        rintro (z | ⟨z, -⟩)
        · exact k5 z
        · exact k2 z
  · have lt : q < 24 := by omega
    have a1 : nI q < (24 : Int32) := nI_lt lt (by decide)
    have a2 : ¬ nI q = (24 : Int32) := fun z => full ((nI_eq (by omega) (by decide)).mp z)
    simp only [if_pos a1, if_neg a2, ite_self]
    exact ⟨0, fp, rfl, rfl, fun _ => Or.inl lt⟩
theorem rp_app (K : Nat) {q : Nat} (hq : q < 24) (x y c l : Nat → Int32) (a b ink : Int32) : fX0_append K (nI q) x y c l a b ink = some (1, nI (q + 1), upd x q a, upd y q b, upd c q ink, upd l q 0) := by
  unfold fX0_append
  rw [if_pos (show nI q < (24 : Int32) from nI_lt hq (by decide))]
  simp only [xl, gd_t (inb_nI hq (by decide)), nI_clamp (show q < 2 ^ 31 by omega), nI_1]
theorem rp_L24z (K : Nat) (ink size : Int32) (tp : Nat → Int32) {n : Nat} (hn : 0 < n) (i fk fp st nx k v q : Int32) (x y c l : Nat → Int32) : fX8_readPoints_L24 K ink size tp n 0 i fk fp st nx k v q x y c l = some (fk, fp, st, nx, k, v, q, x, y, c, l) := by
  obtain ⟨m, rfl⟩ : ∃ m, n = m + 1 := ⟨n - 1, by omega⟩
  rw [fX8_readPoints_L24]
  simp only [if_true, ite_self]
theorem rp_L14z (K : Nat) (ink size : Int32) (mt : Nat → Int32) {n : Nat} (hn : 0 < n) (q at1 fr tk w fk fp : Int32) (rx ry rc rl : Nat → Int32) (hs : fX12_isSign K tk w fk 44 = some 0) : fX12_readPoints_L14 K ink size mt n q at1 fr tk w fk fp rx ry rc rl = some (q, at1, fr, tk, w, fk, fp, rx, ry, rc, rl) := by
  obtain ⟨m, rfl⟩ : ∃ m, n = m + 1 := ⟨n - 1, by omega⟩
  rw [fX12_readPoints_L14]
  simp only [b1, hs, Option.bind_some, if_true]
def rpRB (K : Nat) (l1 : Int32) (t_size : Int32) (t_tape : Nat → Int32) (n : Nat) (t_readMany t_at t_from t_token t_value t_faultKind t_faultPlace : Int32) (t_readX t_readY t_readColour t_readLoad : Nat → Int32) : Option (Int32 × Int32 × Int32 × Int32 × Int32 × Int32 × Int32 × (Nat → Int32) × (Nat → Int32) × (Nat → Int32) × (Nat → Int32)) := b4 (fX12_advance K t_size t_at t_from t_token t_value t_tape) (fun t_at_20 t_from_21 t_token_22 t_value_23 => b11 (fX12_readPoint K t_readMany t_size t_at_20 t_from_21 t_token_22 t_value_23 t_faultKind t_faultPlace t_readX t_readY t_readColour t_readLoad t_tape l1) (fun t_readMany_25 t_at_26 t_from_27 t_token_28 t_value_29 t_faultKind_30 t_faultPlace_31 t_readX_32 t_readY_33 t_readColour_34 t_readLoad_35 => fX12_readPoints_L14 K l1 t_size t_tape n t_readMany_25 t_at_26 t_from_27 t_token_28 t_value_29 t_faultKind_30 t_faultPlace_31 t_readX_32 t_readY_33 t_readColour_34 t_readLoad_35))
theorem rp_L14s (K : Nat) (ink size : Int32) (mt : Nat → Int32) (n : Nat) (q at1 fr tk w fk fp : Int32) (rx ry rc rl : Nat → Int32) (hs : fX12_isSign K tk w fk 44 = some 1) : fX12_readPoints_L14 K ink size mt (n + 1) q at1 fr tk w fk fp rx ry rc rl = rpRB K ink size mt n q at1 fr tk w fk fp rx ry rc rl := by
  rw [fX12_readPoints_L14]
  unfold b1
  rw [hs]
  rfl
theorem rp_loop (K : Nat) (hK : 4000 ≤ K) {L : Nat} {tp mt : Nat → Int32} (h : rpT L tp mt) {ink : Int32} (hink : 0 ≤ ink.toInt ∧ ink.toInt ≤ 2) : ∀ (d n m i s e : Nat) (k v tk w fp : Int32) (q : Nat) (x y c l rx ry rc rl : Nat → Int32), L - e < d → d + 1 ≤ n → d ≤ m → i ≤ e → e ≤ L → rpD q x y c l rx ry rc rl → ∃ (fk' fp' : Int32) (s' e' : Nat) (k' v' tk' w' : Int32) (q' : Nat) (x' y' c' l' rx' ry' rc' rl' : Nat → Int32), fX8_readPoints_L24 K ink (nI L) tp n 1 (nI i) 0 fp (nI s) (nI e) k v (nI q) x y c l = some (fk', fp', nI s', nI e', k', v', nI q', x', y', c', l') ∧ rpRB K ink (nI L) mt m (nI q) (nI e) (nI s) tk w 0 fp rx ry rc rl = some (nI q', nI e', nI s', tk', w', fk', fp', rx', ry', rc', rl') ∧ s' ≤ e' ∧ e' ≤ L ∧ e ≤ e' ∧ rpK k' v' tk' w' ∧ q ≤ q' ∧ rpD q' x' y' c' l' rx' ry' rc' rl' := by
  have hL := h.1
  intro d
  induction d with
  | zero => intro n m i s e k v tk w fp q x y c l rx ry rc rl h1; exact absurd h1 (by omega)
  | succ d ih =>
    intro n m i s e k v tk w fp q x y c l rx ry rc rl h1 h2 h3 h4 he hD
    obtain ⟨n, rfl⟩ : ∃ j, n = j + 1 := ⟨n - 1, by omega⟩
    obtain ⟨m, rfl⟩ : ∃ j, m = j + 1 := ⟨m - 1, by omega⟩
    obtain ⟨s1, e1, k1, v1, tk1, w1, t1, t2, t3, t4, t5, t6, t7⟩ := rp_adv K hK h he (nI s) k v (nI s) tk w
    obtain ⟨f1, p1, a1, a2, a3⟩ := rp_prefix K t4 hD.1 fp (nI s1) (nI L) (nI e1) rx ry rc rl mt ink
    obtain ⟨r2, f2, p2, s2, e2, k2, v2, tk2, w2, c1, c2, c3, c4, c5, c6, c7, c8⟩ := rp_coord K hK h t2 t3 t4 f1 p1
    obtain ⟨r3, f3, p3, s3, e3, k3, v3, tk3, w3, d1, d2, d3, d4, d5, d6, d7, d8⟩ := rp_coord K hK h c3 c4 c5 f2 p2
    have i6 : ¬ (600 : Int32) < nI i := show ¬ nI 600 < nI i from nI_nlt (by omega) (by decide)
    rw [fX8_readPoints_L24, if_neg i6, if_neg one_ne]
    unfold rpRB
    simp only [b1, b2, b4, b6, b7, b11, jn, xl, t6, t7, a1, a2, rpTail, c1, c2, d1, d2, Option.bind_some, nI_1]
    by_cases f : f3 = 0
    · subst f
      obtain ⟨g2, -, g5⟩ := d8 rfl
      obtain ⟨g1, g3, -⟩ := c8 g2
      have hq : q < 24 := by
        rcases a3 g1 with z | z
        · exact z
        · exact absurd g3 z
      have hD' := rp_put hD hq c7 d7 hink
      have sg := rp_sign44 K d5
      simp only [if_true, rp_app K hq, rp_good0, Option.bind_some, if_neg one_ne, gd_t (inb_nI hq (by decide)), nI_clamp (show q < 2 ^ 31 by omega)]
      by_cases k4 : k3 = 4
      · rw [if_pos k4] at sg
        rw [if_pos k4, rp_L14s K ink (nI L) mt m _ _ _ _ _ _ _ _ _ _ _ sg]
        have hlt : e2 < e3 := by
          rcases g5 with z | z
          · rw [k4] at z; exact absurd z (by decide)
          · exact z
        obtain ⟨fk', fp', s', e', k', v', tk', w', q', x', y', c', l', rx', ry', rc', rl', o1, o2, o3, o4, o5, o6, o7, o8⟩ := ih n m (i + 1) s3 e3 k3 v3 tk3 w3 p3 (q + 1) _ _ _ _ _ _ _ _ (by omega) (by omega) (by omega) (by omega) d4 hD'
        exact ⟨fk', fp', s', e', k', v', tk', w', q', x', y', c', l', rx', ry', rc', rl', o1, o2, o3, o4, by omega, o6, by omega, o8⟩
      · rw [if_neg k4] at sg
        rw [if_neg k4, rp_L24z K ink (nI L) tp (by omega), rp_L14z K ink (nI L) mt (by omega) _ _ _ _ _ _ _ _ _ _ _ sg]
        exact ⟨_, _, s3, e3, _, _, _, _, q + 1, _, _, _, _, _, _, _, _, rfl, rfl, d3, d4, by omega, d5, by omega, hD'⟩
    · simp only [if_neg f, rp_goodn K f, Option.bind_some, if_true]
      rw [rp_L24z K ink (nI L) tp (by omega), rp_L14z K ink (nI L) mt (by omega) _ _ _ _ _ _ _ _ _ _ _ (rp_signN K f _ _ _)]
      exact ⟨_, _, s3, e3, _, _, _, _, q, _, _, _, _, _, _, _, _, rfl, rfl, d3, d4, by omega, d5, Nat.le_refl _, hD⟩
