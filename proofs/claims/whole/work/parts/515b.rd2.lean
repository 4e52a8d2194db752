/-! points: numbers, coordinates, words -/
theorem rp_ne2 : ¬ (2 : Int32) = 0 := by decide
theorem rp_ne3 : ¬ (3 : Int32) = 0 := by decide
theorem rp_z0 : (0 : Int32).toInt = 0 := by decide
theorem rp_good0 (K : Nat) : fX12_good K 0 = some 1 := by
  unfold fX12_good; rw [if_pos rfl]
theorem rp_goodn (K : Nat) {fk : Int32} (h : ¬ fk = 0) : fX12_good K fk = some 0 := by
  unfold fX12_good; rw [if_neg h]
theorem rp_errs0 (K : Nat) (st fp a : Int32) : fX12_errs K st 0 fp a = some (a, st) := by
  unfold fX12_errs; simp only [b1, rp_good0, Option.bind_some]; rw [if_neg one_ne]
theorem rp_ref0 (K : Nat) (st fp a : Int32) : fX8_refuse K 0 fp st a = some (a, st) := by
  unfold fX8_refuse; rw [if_pos rfl]
theorem rp_refn (K : Nat) {fk : Int32} (h : ¬ fk = 0) (st fp a : Int32) : fX8_refuse K fk fp st a = some (fk, fp) := by
  unfold fX8_refuse; rw [if_neg h]
theorem rp_numN (K : Nat) {fk : Int32} (h : ¬ fk = 0) (l fp st nx k v a : Int32) (tp : Nat → Int32) : fX8_readNumber K l fk fp st nx k v tp a = some (0, fk, fp, st, nx, k, v) := by
  unfold fX8_readNumber
  simp only [jn, b2, rp_refn K h, Option.bind_some, if_neg h, ite_self]
theorem rp_takeN (K : Nat) {fk : Int32} (h : ¬ fk = 0) (l fp a1 fr tk w a : Int32) (mt : Nat → Int32) : fX12_takes K l a1 fr tk w fk fp mt a = some (0, a1, fr, tk, w, fk, fp) := by
  unfold fX12_takes
  simp only [b1, jn, rp_goodn K h, Option.bind_some, if_true]
theorem rp_take (K : Nat) (hK : 4000 ≤ K) {L : Nat} {tp mt : Nat → Int32} (h : rpT L tp mt) {s e : Nat} (hs : s ≤ e) (he : e ≤ L) {k v tk w : Int32} (hT : rpK k v tk w) (fk fp a : Int32) (ha : 0 ≤ a.toInt ∧ a.toInt ≤ 99) : ∃ (r fk' fp' : Int32) (s' e' : Nat) (k' v' tk' w' : Int32), fX8_readNumber K (nI L) fk fp (nI s) (nI e) k v tp a = some (r, fk', fp', nI s', nI e', k', v') ∧ fX12_takes K (nI L) (nI e) (nI s) tk w fk fp mt a = some (r, nI e', nI s', tk', w', fk', fp') ∧ s' ≤ e' ∧ e' ≤ L ∧ rpK k' v' tk' w' ∧ e ≤ e' ∧ (0 ≤ r.toInt ∧ r.toInt ≤ a.toInt) ∧ (fk' = 0 → fk = 0 ∧ (k = 2 ∧ v.toInt ≤ a.toInt) ∧ (k' = 7 ∨ e < e')) := by
  by_cases f : fk = 0
  · subst f
    by_cases k2 : k = 2
    · have hv : tk = 2 ∧ rpV v w := by
        subst k2
        rcases hT with ⟨z, -⟩ | ⟨-, z1, z2⟩ | ⟨z, -⟩ | ⟨z, -⟩ | ⟨z, -⟩ | ⟨z, -⟩ | ⟨z, -⟩
        all_goals first | exact ⟨z1, z2⟩ | exact absurd z (by decide)
      obtain ⟨rfl, hv⟩ := hv
      subst k2
      by_cases q : v.toInt ≤ a.toInt
      · have vw : v = w := by
          rcases hv with ⟨z, -⟩ | z
          · exact z
          · omega
        subst vw
        have hv0 : 0 ≤ v.toInt := by
          rcases hv with ⟨-, z, -⟩ | z <;> omega
        obtain ⟨s', e', k', v', tk', w', t1, t2, t3, t4, t5, t6, t7⟩ := rp_adv K hK h he (nI s) 2 v (nI s) 2 v
        have q' : v ≤ a := Int32.le_iff_toInt_le.mpr q
        refine ⟨v, 0, fp, s', e', k', v', tk', w', ?_, ?_, t2, t3, t4, by omega, ⟨hv0, q⟩, fun _ => ⟨rfl, ⟨rfl, q⟩, ?_⟩⟩
        · unfold fX8_readNumber
          simp only [jn, b4, t6, Option.bind_some, if_true, if_pos q']
        · unfold fX12_takes
          simp only [b1, jn, b4, rp_good0, t7, Option.bind_some, if_true, if_neg one_ne, if_pos q']
        · rcases t5 with z | z
          · exact Or.inl z
          · exact Or.inr (by omega)
      · have q' : ¬ v ≤ a := fun z => q (Int32.le_iff_toInt_le.mp z)
        have qw : ¬ w ≤ a := by
          intro z
          have z' := Int32.le_iff_toInt_le.mp z
          rcases hv with ⟨y, -⟩ | y
          · subst y; exact q z'
          · omega
        refine ⟨0, 2, nI s, s, e, 2, v, 2, w, ?_, ?_, hs, he, Or.inr (Or.inl ⟨rfl, rfl, hv⟩), Nat.le_refl _, ⟨by decide, by rw [rp_z0]; exact ha.1⟩, fun z => absurd z rp_ne2⟩
        · unfold fX8_readNumber
          simp only [jn, b2, rp_ref0, Option.bind_some, if_true, if_neg q', if_neg rp_ne2]
        · unfold fX12_takes
          simp only [b1, b2, jn, rp_good0, rp_errs0, rp_goodn K rp_ne2, Option.bind_some, if_true, if_neg one_ne, if_neg qw]
    · have tk2 : ¬ tk = 2 := by
        rcases hT with ⟨-, z⟩ | ⟨z, -⟩ | ⟨-, z, -⟩ | ⟨-, z, -⟩ | ⟨-, z, -⟩ | ⟨-, z⟩ | ⟨-, z⟩
        all_goals first | exact absurd z k2 | (rw [z]; decide)
      refine ⟨0, 1, nI s, s, e, k, v, tk, w, ?_, ?_, hs, he, hT, Nat.le_refl _, ⟨by decide, by rw [rp_z0]; exact ha.1⟩, fun z => absurd z one_ne⟩
      · unfold fX8_readNumber
        simp only [jn, b2, rp_ref0, Option.bind_some, if_neg k2, if_neg one_ne]
      · unfold fX12_takes
        simp only [b1, b2, jn, rp_good0, rp_errs0, rp_goodn K one_ne, Option.bind_some, if_true, if_neg one_ne, if_neg tk2]
  · exact ⟨0, fk, fp, s, e, k, v, tk, w, rp_numN K f .., rp_takeN K f .., hs, he, hT, Nat.le_refl _, ⟨by decide, by rw [rp_z0]; exact ha.1⟩, fun z => absurd z f⟩
theorem rp_signN (K : Nat) {fk : Int32} (h : ¬ fk = 0) (tk w c : Int32) : fX12_isSign K tk w fk c = some 0 := by
  unfold fX12_isSign
  simp only [b1, rp_goodn K h, Option.bind_some, if_true]
theorem rp_sign45 (K : Nat) {k v tk w : Int32} (hT : rpK k v tk w) : fX12_isSign K tk w 0 45 = some (if k = 5 then 1 else 0) := by
  unfold fX12_isSign
  simp only [b1, rp_good0, Option.bind_some, if_neg one_ne]
  rcases hT with ⟨rfl, rfl⟩ | ⟨rfl, rfl, -⟩ | ⟨rfl, rfl, rfl⟩ | ⟨rfl, rfl, rfl⟩ | ⟨rfl, rfl, rfl⟩ | ⟨rfl, rfl⟩ | ⟨rfl, rfl⟩
  all_goals first | rfl | simp
theorem rp_sign44 (K : Nat) {k v tk w : Int32} (hT : rpK k v tk w) : fX12_isSign K tk w 0 44 = some (if k = 4 then 1 else 0) := by
  unfold fX12_isSign
  simp only [b1, rp_good0, Option.bind_some, if_neg one_ne]
  rcases hT with ⟨rfl, rfl⟩ | ⟨rfl, rfl, -⟩ | ⟨rfl, rfl, rfl⟩ | ⟨rfl, rfl, rfl⟩ | ⟨rfl, rfl, rfl⟩ | ⟨rfl, rfl⟩ | ⟨rfl, rfl⟩
  all_goals first | rfl | simp
theorem rp_sign59 (K : Nat) {k v tk w : Int32} (hT : rpK k v tk w) : fX12_isSign K tk w 0 59 = some (if k = 3 then 1 else 0) := by
  unfold fX12_isSign
  simp only [b1, rp_good0, Option.bind_some, if_neg one_ne]
  rcases hT with ⟨rfl, rfl⟩ | ⟨rfl, rfl, -⟩ | ⟨rfl, rfl, rfl⟩ | ⟨rfl, rfl, rfl⟩ | ⟨rfl, rfl, rfl⟩ | ⟨rfl, rfl⟩ | ⟨rfl, rfl⟩
  all_goals first | rfl | simp
theorem rp_neg {r : Int32} (h : 0 ≤ r.toInt ∧ r.toInt ≤ 20) : in20 (-r) := by
  unfold in20
  rw [← iI_toInt r, iI_neg, toInt_iI (by omega) (by omega)]
  omega
theorem rp_coord (K : Nat) (hK : 4000 ≤ K) {L : Nat} {tp mt : Nat → Int32} (h : rpT L tp mt) {s e : Nat} (hs : s ≤ e) (he : e ≤ L) {k v tk w : Int32} (hT : rpK k v tk w) (fk fp : Int32) : ∃ (r fk' fp' : Int32) (s' e' : Nat) (k' v' tk' w' : Int32), fX8_readCoordinate K (nI L) fk fp (nI s) (nI e) k v tp = some (r, fk', fp', nI s', nI e', k', v') ∧ fX12_takesSigned K (nI L) (nI e) (nI s) tk w fk fp mt = some (r, nI e', nI s', tk', w', fk', fp') ∧ s' ≤ e' ∧ e' ≤ L ∧ rpK k' v' tk' w' ∧ e ≤ e' ∧ in20 r ∧ (fk' = 0 → fk = 0 ∧ (k = 5 ∨ (k = 2 ∧ v.toInt ≤ 20)) ∧ (k' = 7 ∨ e < e')) := by
  have e20 : (20 : Int32).toInt = 20 := by decide
  by_cases f : fk = 0
  · subst f
    have sg := rp_sign45 K hT
    by_cases k5 : k = 5
    · rw [if_pos k5] at sg
      obtain ⟨s1, e1, k1, v1, tk1, w1, t1, t2, t3, t4, t5, t6, t7⟩ := rp_adv K hK h he (nI s) k v (nI s) tk w
      obtain ⟨r, fk', fp', s', e', k', v', tk', w', u1, u2, u3, u4, u5, u6, u7, u8⟩ := rp_take K hK h t2 t3 t4 0 fp 20 ⟨by decide, by decide⟩
      rw [e20] at u7
      refine ⟨-r, fk', fp', s', e', k', v', tk', w', ?_, ?_, u3, u4, u5, by omega, rp_neg u7, fun z => ⟨rfl, Or.inl k5, ?_⟩⟩
      · unfold fX8_readCoordinate
        simp only [jn, b4, b7, if_pos k5, if_true, if_neg one_ne, t6, u1, Option.bind_some]
      · unfold fX12_takesSigned
        simp only [b1, jn, b4, b7, sg, if_neg one_ne, t7, u2, Option.bind_some]
      · rcases (u8 z).2.2 with y | y
        · exact Or.inl y
        · exact Or.inr (by omega)
    · rw [if_neg k5] at sg
      obtain ⟨r, fk', fp', s', e', k', v', tk', w', u1, u2, u3, u4, u5, u6, u7, u8⟩ := rp_take K hK h hs he hT 0 fp 20 ⟨by decide, by decide⟩
      rw [e20] at u7
      refine ⟨r, fk', fp', s', e', k', v', tk', w', ?_, ?_, u3, u4, u5, u6, ⟨by omega, u7.2⟩, fun z => ⟨rfl, Or.inr ⟨(u8 z).2.1.1, by have := (u8 z).2.1.2; rw [e20] at this; exact this⟩, (u8 z).2.2⟩⟩
      · unfold fX8_readCoordinate
        simp only [jn, b7, if_neg k5, if_true, u1, Option.bind_some]
      · unfold fX12_takesSigned
        simp only [b1, jn, b7, sg, if_true, u2, Option.bind_some]
  · refine ⟨0, fk, fp, s, e, k, v, tk, w, ?_, ?_, hs, he, hT, Nat.le_refl _, ⟨by decide, by decide⟩, fun z => absurd z f⟩
    · unfold fX8_readCoordinate
      simp only [jn, b7, if_neg f, ite_self, if_true, rp_numN K f, Option.bind_some]
    · unfold fX12_takesSigned
      simp only [b1, jn, b7, rp_signN K f, if_true, rp_takeN K f, Option.bind_some]
theorem rp_len : ∀ j : Nat, j < 5 → 1 ≤ sLen.getD j 0 ∧ sLen.getD j 0 ≤ 6 := by decide
theorem rp_is0 (K j : Nat) (st l : Int32) (mt : Nat → Int32) {n : Nat} (hn : 0 < n) : fX12_is_L39 K j st mt n 0 l = some 0 := by
  obtain ⟨m, rfl⟩ : ∃ m, n = m + 1 := ⟨n - 1, by omega⟩
  rw [fX12_is_L39]
  simp only [if_true, ite_self]
theorem rp_spL (K : Nat) {L : Nat} {tp mt : Nat → Int32} (h : rpT L tp mt) {s e : Nat} (he : e ≤ L) {j : Nat} (hj : j < 5) (hlen : e = s + sLen.getD j 0) : ∀ (d n l : Nat), l + d = sLen.getD j 0 → d < n → (fX8_spells_L39 K j (nI s) tp n (nI l) = some (.inr ()) ∧ fX12_is_L39 K j (nI s) mt n 1 (nI l) = some 1) ∨ (fX8_spells_L39 K j (nI s) tp n (nI l) = some (.inl ()) ∧ fX12_is_L39 K j (nI s) mt n 1 (nI l) = some 0) := by
  have hL := h.1
  obtain ⟨g1, g2⟩ := rp_len j hj
  intro d
  induction d with
  | zero =>
    intro n l h1 h2
    obtain ⟨m, rfl⟩ : ∃ m, n = m + 1 := ⟨n - 1, by omega⟩
    have hl : slen j ≤ nI l := show nI (sLen.getD j 0) ≤ nI l from nI_le (by omega) (by omega)
    left
    rw [fX8_spells_L39, fX12_is_L39, if_pos hl, if_pos hl]
    exact ⟨rfl, rfl⟩
  | succ d ih =>
    intro n l h1 h2
    obtain ⟨m, rfl⟩ : ∃ m, n = m + 1 := ⟨n - 1, by omega⟩
    have hl : ¬ slen j ≤ nI l := show ¬ nI (sLen.getD j 0) ≤ nI l from nI_ge (by omega) (by omega)
    have hsin : sin j (nI l) = true := by
      unfold sin
      exact inb_nI (by omega) (by omega)
    rw [fX8_spells_L39, fX12_is_L39, if_neg hl, if_neg hl]
    simp only [nI_add, nI_1, jn, xl, gd_t (inb_nI (show s + l < 600 by omega) (by decide)), gd_t hsin, nI_clamp (show s + l < 2 ^ 31 by omega), (h.2 (s + l) (by omega)).1, if_neg one_ne]
    by_cases q : tp (s + l) = schr j (nI l)
    · simp only [if_pos q]
      exact ih m (l + 1) (by omega) (by omega)
    · right
      simp only [if_neg q]
      exact ⟨trivial, rp_is0 K j _ _ mt (by omega)⟩
theorem rp_spell (K : Nat) (hK : 4000 ≤ K) {L : Nat} {tp mt : Nat → Int32} (h : rpT L tp mt) {s e : Nat} (hs : s ≤ e) (he : e ≤ L) {k v tk w : Int32} (hT : rpK k v tk w) {j : Nat} (hj : j < 5) : (fX8_spells K (nI L) (nI s) (nI e) k tp j = some 1 ∧ fX12_is K (nI e) (nI s) tk 0 mt j = some 1) ∨ (fX8_spells K (nI L) (nI s) (nI e) k tp j = some 0 ∧ fX12_is K (nI e) (nI s) tk 0 mt j = some 0) := by
  have hL := h.1
  obtain ⟨g1, g2⟩ := rp_len j hj
  have hsok : sok j = true := decide_eq_true hj
  have z0 : z01 0 = true := by decide
  have z1 : z01 1 = true := by decide
  unfold fX8_spells fX12_is
  simp only [gd_t hsok, b1, jn, rp_good0, Option.bind_some, if_neg one_ne, rp_is0 K j (nI s) 0 mt (show 0 < K by omega), gd_t z0]
  by_cases k1 : k = 1
  · have tk1 : tk = 1 := by
      subst k1
      rcases hT with ⟨-, z⟩ | ⟨z, -⟩ | ⟨z, -⟩ | ⟨z, -⟩ | ⟨z, -⟩ | ⟨z, -⟩ | ⟨z, -⟩
      all_goals first | exact z | exact absurd z (by decide)
    rw [if_pos k1, if_pos tk1]
    by_cases q : nI e - nI s = slen j
    · have hlen : e = s + sLen.getD j 0 := by
        rw [show slen j = nI (sLen.getD j 0) from rfl, nI_iI, nI_iI, nI_iI, iI_sub, iI_eq ⟨by omega, by omega⟩ ⟨by omega, by omega⟩] at q
        omega
      rw [if_pos q, if_pos q, if_pos (nI_le he (by omega))]
      rcases rp_spL K h he hj hlen (sLen.getD j 0) K 0 (by omega) (by omega) with ⟨a, b⟩ | ⟨a, b⟩
      · left
        rw [nI_0] at a b
        rw [a, b]
        exact ⟨rfl, rfl⟩
      · right
        rw [nI_0] at a b
        rw [a, b]
        exact ⟨rfl, rfl⟩
    · rw [if_neg q, if_neg q]
      exact Or.inr ⟨rfl, rfl⟩
  · have tk1 : ¬ tk = 1 := by
      rcases hT with ⟨z, -⟩ | ⟨-, z, -⟩ | ⟨-, z, -⟩ | ⟨-, z, -⟩ | ⟨-, z, -⟩ | ⟨-, z⟩ | ⟨-, z⟩
      all_goals first | exact absurd z k1 | (rw [z]; decide)
    rw [if_neg k1, if_neg tk1]
    exact Or.inr ⟨rfl, rfl⟩
theorem rp_isN (K : Nat) (hK : 4000 ≤ K) {fk : Int32} (f : ¬ fk = 0) (a1 fr tk : Int32) (mt : Nat → Int32) {j : Nat} (hj : j < 5) : fX12_is K a1 fr tk fk mt j = some 0 := by
  have hsok : sok j = true := decide_eq_true hj
  have z0 : z01 0 = true := by decide
  unfold fX12_is
  simp only [gd_t hsok, b1, jn, rp_goodn K f, Option.bind_some, if_true, rp_is0 K j fr 0 mt (show 0 < K by omega), gd_t z0]
