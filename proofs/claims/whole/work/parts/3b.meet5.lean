--@ needs 2a.num 2b.ev1 2d.gcd 2e.row 2f.row2 2g.bits 2h.hull 2i.hull2 2j.hull3 2k.hull4 2l.side 2m.side2 2n.hulls 2o.chain 2p.poly 2q.pg 2r.near 2s.red 2t.near2 2u.near3 2x.meet1 2y.meet2 2z.meet3 3a.meet4
theorem edN (K : Nat) {px py cor cors : Nat → Int32} {n : Nat} {U V : Nat → Nat → Int} {m : Nat → Nat} (h : HMs K px py cor cors n U V m) {w : Nat} (hw : w < n) : fX12_edges K cors (nI w) = some (nI (eN (m w))) := by
  obtain ⟨k1, k2, k3, k4⟩ := h.2 w hw
  unfold eN
  by_cases c : m w < 3
  · rw [if_pos c]; exact edgesM2 K k1 k3 c
  · rw [if_neg c]; exact edgesM3 K k1 k4 (by omega)
theorem m19 (K : Nat) (hK : 4000 ≤ K) {px py cor cors : Nat → Int32} {n : Nat} {U V : Nat → Nat → Int} {m : Nat → Nat} (h : HMs K px py cor cors n U V m) {w : Nat} (hw : w < n) : ∀ (fu i : Nat) (D : T3 → Prop) (st : Option T3) (p q l : Int64) (met : Int32), i ≤ m w → m w - i < fu → lstM4 st p q l met → mmin (inA n U V m) D st → (∀ W, D W → 1 ≤ W.2.2) → ∃ p' q' l' met' st', fX12_laysMeeting_L19 K (nI w) (nI n) px py cor cors fu (nI i) p q l met = some (p', q', l', met') ∧ lstM4 st' p' q' l' met' ∧ mmin (inA n U V m) (fun W => D W ∨ ∃ k, i ≤ k ∧ k < m w ∧ W = (U w k, V w k, 1)) st' := by
  obtain ⟨⟨hw3, hc, hcor⟩, hU, h0, hm⟩ := h.2 w hw
  intro fu
  induction fu with
  | zero => intro i D st p q l met h1 h2; omega
  | succ fu ih =>
    intro i D st p q l met h1 h2 hl hM hD
    rw [fX12_laysMeeting_L19, gd_t (inb_nI hw3 (by decide)), nI_clamp (by omega), hc]
    by_cases ee : i = m w
    · subst ee
      rw [if_pos (nI_le (Nat.le_refl _) (by omega))]
      refine ⟨p, q, l, met, st, rfl, hl, mmin_congr hM (fun Z => ⟨Or.inl, ?_⟩)⟩
      rintro (hz | ⟨k, hk1, hk2, -⟩)
      · exact hz
      · omega
    · have him : i < m w := by omega
      rw [if_neg (nI_ge him (by omega))]
      obtain ⟨ca, ca1, ca2, ca3, ca4⟩ := hcor i (by omega)
      rw [show cy (m w) i = i from if_pos him] at ca3 ca4
      obtain ⟨u1, u2⟩ := hU i him
      simp only [nI_1, ca2, b1, Option.bind_some, gd_t (inb_nI ca1 (by decide)), nI_clamp (show ca < 2 ^ 31 by omega), ca3, ca4, xl]
      rw [iI_long (show s32 (U w i) from ⟨by omega, by omega⟩), iI_long (show s32 (V w i) from ⟨by omega, by omega⟩)]
      have hO : okM (U w i, V w i, 1) := ⟨⟨by show (1 : Int) ≤ 1; omega, by show (1 : Int) ≤ 3200; omega⟩, by show -64000 ≤ U w i ∧ U w i ≤ 64000; omega, by show -64000 ≤ V w i ∧ V w i ≤ 64000; omega⟩
      obtain ⟨p', q', l', met', st', g1, g2, g3⟩ := triesM K hK h hO hl hM hD
      rw [show fX12_tries K p q l met (nI n) px py cor cors (jJ (U w i)) (jJ (V w i)) 1 = _ from g1]
      simp only [b4, Option.bind_some]
      obtain ⟨p2, q2, l2, met2, st2, k1, k2, k3⟩ := ih (i + 1) (fun W => D W ∨ W = (U w i, V w i, 1)) st' p' q' l' met' (by omega) (by omega) g2 g3 (by
        rintro W (hW | rfl)
        · exact hD W hW
        · exact Int.le_refl 1)
      refine ⟨p2, q2, l2, met2, st2, k1, k2, mmin_congr k3 (fun Z => ⟨?_, ?_⟩)⟩
      · rintro ((hz | hz) | ⟨k, hk1, hk2, e⟩)
        · exact Or.inl hz
        · exact Or.inr ⟨i, Nat.le_refl i, him, hz⟩
        · exact Or.inr ⟨k, by omega, hk2, e⟩
      · rintro (hz | ⟨k, hk1, hk2, e⟩)
        · exact Or.inl (Or.inl hz)
        · by_cases z : k = i
          · subst z; exact Or.inl (Or.inr e)
          · exact Or.inr ⟨k, by omega, hk2, e⟩
theorem m12 (K : Nat) (hK : 4000 ≤ K) {px py cor cors : Nat → Int32} {n : Nat} {U V : Nat → Nat → Int} {m : Nat → Nat} (h : HMs K px py cor cors n U V m) : ∀ (fu w : Nat) (D : T3 → Prop) (st : Option T3) (p q l : Int64) (met : Int32), w ≤ n → n - w < fu → lstM4 st p q l met → mmin (inA n U V m) D st → (∀ W, D W → 1 ≤ W.2.2) → ∃ p' q' l' met' st', fX12_laysMeeting_L12 K (nI n) (nI n) px py cor cors fu (nI w) p q l met = some (p', q', l', met') ∧ lstM4 st' p' q' l' met' ∧ mmin (inA n U V m) (fun W => D W ∨ ∃ v, w ≤ v ∧ v < n ∧ corD (U v) (V v) (m v) W) st' := by
  intro fu
  have hn := h.1
  induction fu with
  | zero => intro i D st p q l met h1 h2; omega
  | succ fu ih =>
    intro w D st p q l met h1 h2 hl hM hD
    rw [fX12_laysMeeting_L12]
    by_cases ee : w = n
    · subst ee
      rw [if_pos (nI_le (Nat.le_refl _) (by omega))]
      refine ⟨p, q, l, met, st, rfl, hl, mmin_congr hM (fun Z => ⟨Or.inl, ?_⟩)⟩
      rintro (hz | ⟨k, hk1, hk2, -⟩)
      · exact hz
      · omega
    · have hw : w < n := by omega
      rw [if_neg (nI_ge hw (by omega))]
      have hm := (h.2 w hw).2.2.2
      obtain ⟨p', q', l', met', st', g1, g2, g3⟩ := m19 K hK h hw K 0 D st p q l met (Nat.zero_le _) (by omega) hl hM hD
      rw [show fX12_laysMeeting_L19 K (nI w) (nI n) px py cor cors K 0 p q l met = _ from g1]
      simp only [b4, Option.bind_some, xl, nI_1]
      obtain ⟨p2, q2, l2, met2, st2, k1, k2, k3⟩ := ih (w + 1) _ st' p' q' l' met' (by omega) (by omega) g2 g3 (by
        rintro W (hW | ⟨k, -, -, e⟩)
        · exact hD W hW
        · rw [e]; exact Int.le_refl 1)
      refine ⟨p2, q2, l2, met2, st2, k1, k2, mmin_congr k3 (fun Z => ⟨?_, ?_⟩)⟩
      · rintro ((hz | ⟨k, -, hk2, e⟩) | ⟨v, hk1, hk2, e⟩)
        · exact Or.inl hz
        · exact Or.inr ⟨w, Nat.le_refl w, hw, k, hk2, e⟩
        · exact Or.inr ⟨v, by omega, hk2, e⟩
      · rintro (hz | ⟨v, hk1, hk2, e⟩)
        · exact Or.inl (Or.inl hz)
        · by_cases z : v = w
          · subst z
            obtain ⟨k, hk, e⟩ := e
            exact Or.inl (Or.inr ⟨k, Nat.zero_le k, hk, e⟩)
          · exact Or.inr ⟨v, by omega, hk2, e⟩
def crK (U V : Nat → Int) (m : Nat) (U2 V2 : Nat → Int) (m2 i j : Nat) : Prop := 0 < lE U V m U2 V2 m2 i j ∧ (0 ≤ aE U V m U2 V2 m2 i j ∧ aE U V m U2 V2 m2 i j ≤ lE U V m U2 V2 m2 i j) ∧ 0 ≤ sE U V m U2 V2 m2 i j ∧ sE U V m U2 V2 m2 i j ≤ lE U V m U2 V2 m2 i j
theorem inJ {x a b : Int} (hx : s64 x) (ha : s64 a) (hb : s64 b) (K : Nat) : fX12_in K (jJ x) (jJ a) (jJ b) = some (if a ≤ x ∧ x ≤ b then 1 else 0) := by
  rw [in_spec, toInt_jJ hx.1 hx.2, toInt_jJ ha.1 ha.2, toInt_jJ hb.1 hb.2]
theorem edgesT (K : Nat) (hK : 4000 ≤ K) {px py cor cors : Nat → Int32} {n : Nat} {U V : Nat → Nat → Int} {m : Nat → Nat} (h : HMs K px py cor cors n U V m) {v w : Nat} (hv : v < n) (hw : w < n) {i j : Nat} (hi : i < m v) (hj : j < m w) {a b c d : Nat} (ha : a < 24) (hb : b < 24) (hc : c < 24) (hd : d < 24) (a1 : px a = iI (U v i)) (a2 : py a = iI (V v i)) (b1' : px b = iI (U v (cy (m v) (i + 1)))) (b2' : py b = iI (V v (cy (m v) (i + 1)))) (c1 : px c = iI (U w j)) (c2 : py c = iI (V w j)) (d1 : px d = iI (U w (cy (m w) (j + 1)))) (d2' : py d = iI (V w (cy (m w) (j + 1)))) {D : T3 → Prop} {st : Option T3} {p q l : Int64} {met : Int32} (hl : lstM4 st p q l met) (hM : mmin (inA n U V m) D st) (hD : ∀ W, D W → 1 ≤ W.2.2) : ∃ p' q' l' met' st', fX12_triesEdges K p q l met (nI n) px py cor cors (nI a) (nI b) (nI c) (nI d) = some (p', q', l', met') ∧ lstM4 st' p' q' l' met' ∧ mmin (inA n U V m) (fun W => D W ∨ (crK (U v) (V v) (m v) (U w) (V w) (m w) i j ∧ W = XE (U v) (V v) (m v) (U w) (V w) (m w) i j)) st' := by
  obtain ⟨-, hU, h0, hm⟩ := h.2 v hv
  obtain ⟨-, hU2, h02, hm2⟩ := h.2 w hw
  obtain ⟨u1, u2⟩ := hU i hi
  obtain ⟨v1, v2⟩ := hU (cy (m v) (i + 1)) (cy_lt h0)
  obtain ⟨w1, w2⟩ := hU2 j hj
  obtain ⟨z1, z2⟩ := hU2 (cy (m w) (j + 1)) (cy_lt h02)
  have rg := cr_rng u1 u2 v1 v2 w1 w2 z1 z2
  unfold fX12_triesEdges
  simp only [gd_t (inb_nI ha (by decide)), gd_t (inb_nI hb (by decide)), gd_t (inb_nI hc (by decide)), gd_t (inb_nI hd (by decide)), nI_clamp (show a < 2 ^ 31 by omega), nI_clamp (show b < 2 ^ 31 by omega), nI_clamp (show c < 2 ^ 31 by omega), nI_clamp (show d < 2 ^ 31 by omega), a1, a2, b1', b2', c1, c2, d1, d2', xl, jn, iI_sub]
  generalize hbx : U v (cy (m v) (i + 1)) = bx at *
  generalize hby : V v (cy (m v) (i + 1)) = b_y at *
  generalize hdx : U w (cy (m w) (j + 1)) = dx at *
  generalize hdy : V w (cy (m w) (j + 1)) = dy at *
  generalize hax : U v i = ax at *
  generalize hay : V v i = ay at *
  generalize hcx : U w j = cx at *
  generalize hcy : V w j = cy' at *
  rw [iI_long (show s32 (bx - ax) from ⟨by omega, by omega⟩), iI_long (show s32 (b_y - ay) from ⟨by omega, by omega⟩), iI_long (show s32 (dx - cx) from ⟨by omega, by omega⟩), iI_long (show s32 (dy - cy') from ⟨by omega, by omega⟩), iI_long (show s32 (cx - ax) from ⟨by omega, by omega⟩), iI_long (show s32 (cy' - ay) from ⟨by omega, by omega⟩), iI_long (show s32 ax from ⟨by omega, by omega⟩), iI_long (show s32 ay from ⟨by omega, by omega⟩)]
  simp only [jJ_mul, jJ_sub, jJ_neg]
  rw [show (bx - ax) * (dy - cy') - (b_y - ay) * (dx - cx) = lw ax ay bx b_y cx cy' dx dy from rfl, show (cx - ax) * (dy - cy') - (cy' - ay) * (dx - cx) = al ax ay bx b_y cx cy' dx dy from rfl, show (cx - ax) * (b_y - ay) - (cy' - ay) * (bx - ax) = ss ax ay bx b_y cx cy' dx dy from rfl]
  have f1 : lE (U v) (V v) (m v) (U w) (V w) (m w) i j = sg (lw ax ay bx b_y cx cy' dx dy) (lw ax ay bx b_y cx cy' dx dy) := by unfold lE nl; rw [hax, hay, hbx, hby, hcx, hcy, hdx, hdy]
  have f2 : aE (U v) (V v) (m v) (U w) (V w) (m w) i j = sg (lw ax ay bx b_y cx cy' dx dy) (al ax ay bx b_y cx cy' dx dy) := by unfold aE na; rw [hax, hay, hbx, hby, hcx, hcy, hdx, hdy]
  have f3 : sE (U v) (V v) (m v) (U w) (V w) (m w) i j = sg (lw ax ay bx b_y cx cy' dx dy) (ss ax ay bx b_y cx cy' dx dy) := by unfold sE ns; rw [hax, hay, hbx, hby, hcx, hcy, hdx, hdy]
  have f4 : XE (U v) (V v) (m v) (U w) (V w) (m w) i j = (ax * lE (U v) (V v) (m v) (U w) (V w) (m w) i j + aE (U v) (V v) (m v) (U w) (V w) (m w) i j * (bx - ax), ay * lE (U v) (V v) (m v) (U w) (V w) (m w) i j + aE (U v) (V v) (m v) (U w) (V w) (m w) i j * (b_y - ay), lE (U v) (V v) (m v) (U w) (V w) (m w) i j) := by unfold XE Xp lE aE; rw [hax, hay, hbx, hby, hcx, hcy, hdx, hdy]
  obtain ⟨rg1, rg2, rg3⟩ := rg
  generalize lw ax ay bx b_y cx cy' dx dy = LW at *
  generalize al ax ay bx b_y cx cy' dx dy = AL at *
  generalize ss ax ay bx b_y cx cy' dx dy = SS at *
  have skip : ¬ crK (U v) (V v) (m v) (U w) (V w) (m w) i j → ∃ p' q' l' met' st', some (p, q, l, met) = some (p', q', l', met') ∧ lstM4 st' p' q' l' met' ∧ mmin (inA n U V m) (fun W => D W ∨ (crK (U v) (V v) (m v) (U w) (V w) (m w) i j ∧ W = XE (U v) (V v) (m v) (U w) (V w) (m w) i j)) st' := by
    intro hn
    refine ⟨p, q, l, met, st, rfl, hl, mmin_congr hM (fun Z => ⟨Or.inl, ?_⟩)⟩
    rintro (hz | ⟨hk, -⟩)
    · exact hz
    · exact absurd hk hn
  have sgp := @sg_pos LW
  simp only [j_eq0 (show s64 LW from ⟨by omega, by omega⟩)]
  by_cases e0 : LW = 0
  · rw [if_pos e0]
    exact skip (fun z => by have := z.1; rw [f1] at this; omega)
  · rw [if_neg e0]
    have main : ∀ L T S : Int, L = lE (U v) (V v) (m v) (U w) (V w) (m w) i j → T = aE (U v) (V v) (m v) (U w) (V w) (m w) i j → S = sE (U v) (V v) (m v) (U w) (V w) (m w) i j → 0 < L → L ≤ 3200 → -3200 ≤ T → T ≤ 3200 → -3200 ≤ S → S ≤ 3200 → ∃ p' q' l' met' st', (b1 (fX12_in K (jJ T) 0 (jJ L)) fun r_27 => if r_27 = 0 then some (p, q, l, met) else b1 (fX12_in K (jJ S) 0 (jJ L)) fun r_29 => if r_29 = 0 then some (p, q, l, met) else b4 (fX12_tries K p q l met (nI n) px py cor cors (jJ (ax * L) + jJ (T * (bx - ax))) (jJ (ay * L) + jJ (T * (b_y - ay))) (jJ L)) fun t_placeX_33 t_placeY_34 t_below_35 t_isMet_36 => some (t_placeX_33, t_placeY_34, t_below_35, t_isMet_36)) = some (p', q', l', met') ∧ lstM4 st' p' q' l' met' ∧ mmin (inA n U V m) (fun W => D W ∨ (crK (U v) (V v) (m v) (U w) (V w) (m w) i j ∧ W = XE (U v) (V v) (m v) (U w) (V w) (m w) i j)) st' := by
      intro L T S eL eT eS k1 k2 k3 k4 k5 k6
      rw [show fX12_in K (jJ T) 0 (jJ L) = _ from inJ (a := 0) ⟨by omega, by omega⟩ ⟨by omega, by omega⟩ ⟨by omega, by omega⟩ K, show fX12_in K (jJ S) 0 (jJ L) = _ from inJ (a := 0) ⟨by omega, by omega⟩ ⟨by omega, by omega⟩ ⟨by omega, by omega⟩ K]
      simp only [b1, Option.bind_some]
      by_cases x1 : 0 ≤ T ∧ T ≤ L
      · rw [if_pos x1, if_neg one_ne]
        by_cases x2 : 0 ≤ S ∧ S ≤ L
        · rw [if_pos x2, if_neg one_ne]
          have hJ : crK (U v) (V v) (m v) (U w) (V w) (m w) i j := ⟨by omega, ⟨by omega, by omega⟩, by omega, by omega⟩
          have hO := XE_okM h0 h02 hU hU2 hi hj ⟨hJ.1, hJ.2.1.1, hJ.2.1.2⟩
          obtain ⟨p', q', l', met', st', g1, g2, g3⟩ := triesM K hK h hO hl hM hD
          rw [f4] at g1
          rw [← eL, ← eT] at g1
          dsimp only at g1
          rw [jJ_add, jJ_add, g1]
          simp only [b4, Option.bind_some]
          refine ⟨p', q', l', met', st', rfl, g2, mmin_congr g3 (fun Z => ⟨?_, ?_⟩)⟩
          · rintro (hz | hz)
            · exact Or.inl hz
            · exact Or.inr ⟨hJ, hz⟩
          · rintro (hz | ⟨-, hz⟩)
            · exact Or.inl hz
            · exact Or.inr hz
        · rw [if_neg x2, if_pos rfl]
          exact skip (fun z => by have := z.2.2; omega)
      · rw [if_neg x1, if_pos rfl]
        exact skip (fun z => by have := z.2.1; omega)
    unfold sg at f1 f2 f3
    by_cases hs : LW < 0
    · rw [if_neg (show ¬ (0 : Int64) ≤ jJ LW from fun z => (j_ge0 ⟨by omega, by omega⟩).mp z hs)]
      rw [if_pos hs] at f1 f2 f3
      exact main (-LW) (-AL) (-SS) f1.symm f2.symm f3.symm (by omega) (by omega) (by omega) (by omega) (by omega) (by omega)
    · rw [if_pos (show (0 : Int64) ≤ jJ LW from (j_ge0 ⟨by omega, by omega⟩).mpr hs)]
      rw [if_neg hs] at f1 f2 f3
      exact main LW AL SS f1.symm f2.symm f3.symm (by omega) (by omega) (by omega) (by omega) (by omega) (by omega)
theorem m102 (K : Nat) (hK : 4000 ≤ K) {px py cor cors : Nat → Int32} {n : Nat} {U V : Nat → Nat → Int} {m : Nat → Nat} (h : HMs K px py cor cors n U V m) {v w : Nat} (hv : v < n) (hw : w < n) {i : Nat} (hi : i < eN (m v)) : ∀ (fu j : Nat) (D : T3 → Prop) (st : Option T3) (p q l : Int64) (met : Int32), j ≤ eN (m w) → eN (m w) - j < fu → lstM4 st p q l met → mmin (inA n U V m) D st → (∀ W, D W → 1 ≤ W.2.2) → ∃ p' q' l' met' st', fX12_laysMeeting_L102 K (nI v) (nI w) (nI i) (nI n) px py cor cors fu (nI j) p q l met = some (p', q', l', met') ∧ lstM4 st' p' q' l' met' ∧ mmin (inA n U V m) (fun W => D W ∨ ∃ k, j ≤ k ∧ k < eN (m w) ∧ crK (U v) (V v) (m v) (U w) (V w) (m w) i k ∧ W = XE (U v) (V v) (m v) (U w) (V w) (m w) i k) st' := by
  obtain ⟨⟨hv3, hvc, hvcor⟩, hU, h0, hm⟩ := h.2 v hv
  obtain ⟨⟨hw3, hwc, hwcor⟩, hU2, h02, hm2⟩ := h.2 w hw
  have le1 := eN_le (m v)
  have le2 := eN_le (m w)
  intro fu
  induction fu with
  | zero => intro j D st p q l met h1 h2; omega
  | succ fu ih =>
    intro j D st p q l met h1 h2 hl hM hD
    rw [fX12_laysMeeting_L102, edN K h hw]
    simp only [b1, Option.bind_some]
    by_cases ee : j = eN (m w)
    · subst ee
      rw [if_pos (nI_le (Nat.le_refl _) (by omega))]
      refine ⟨p, q, l, met, st, rfl, hl, mmin_congr hM (fun Z => ⟨Or.inl, ?_⟩)⟩
      rintro (hz | ⟨k, hk1, hk2, -⟩)
      · exact hz
      · omega
    · have hj : j < eN (m w) := by omega
      rw [if_neg (nI_ge hj (by omega))]
      obtain ⟨a, a1, a2, a3, a4⟩ := hvcor i (by omega)
      obtain ⟨b, b1', b2', b3', b4'⟩ := hvcor (i + 1) (by omega)
      obtain ⟨c, c1, c2, c3, c4⟩ := hwcor j (by omega)
      obtain ⟨d, d1, d2', d3, d4⟩ := hwcor (j + 1) (by omega)
      rw [show cy (m v) i = i from if_pos (by omega)] at a3 a4
      rw [show cy (m w) j = j from if_pos (by omega)] at c3 c4
      simp only [nI_1, a2, b2', c2, d2', Option.bind_some]
      obtain ⟨p', q', l', met', st', g1, g2, g3⟩ := edgesT K hK h hv hw (i := i) (j := j) (by omega) (by omega) a1 b1' c1 d1 a3 a4 b3' b4' c3 c4 d3 d4 hl hM hD
      rw [g1]
      simp only [b4, Option.bind_some, xl]
      obtain ⟨p2, q2, l2, met2, st2, k1, k2, k3⟩ := ih (j + 1) _ st' p' q' l' met' (by omega) (by omega) g2 g3 (by
        rintro W (hW | ⟨hk, e⟩)
        · exact hD W hW
        · rw [e]; exact hk.1)
      refine ⟨p2, q2, l2, met2, st2, k1, k2, mmin_congr k3 (fun Z => ⟨?_, ?_⟩)⟩
      · rintro ((hz | ⟨hk, e⟩) | ⟨k, hk1, hk2, hk3, e⟩)
        · exact Or.inl hz
        · exact Or.inr ⟨j, Nat.le_refl j, hj, hk, e⟩
        · exact Or.inr ⟨k, by omega, hk2, hk3, e⟩
      · rintro (hz | ⟨k, hk1, hk2, hk3, e⟩)
        · exact Or.inl (Or.inl hz)
        · by_cases z : k = j
          · subst z; exact Or.inl (Or.inr ⟨hk3, e⟩)
          · exact Or.inr ⟨k, by omega, hk2, hk3, e⟩
theorem m89 (K : Nat) (hK : 4000 ≤ K) {px py cor cors : Nat → Int32} {n : Nat} {U V : Nat → Nat → Int} {m : Nat → Nat} (h : HMs K px py cor cors n U V m) {v w : Nat} (hv : v < n) (hw : w < n) : ∀ (fu i : Nat) (D : T3 → Prop) (st : Option T3) (p q l : Int64) (met : Int32), i ≤ eN (m v) → eN (m v) - i < fu → lstM4 st p q l met → mmin (inA n U V m) D st → (∀ W, D W → 1 ≤ W.2.2) → ∃ p' q' l' met' st', fX12_laysMeeting_L89 K (nI v) (nI w) (nI n) px py cor cors fu (nI i) p q l met = some (p', q', l', met') ∧ lstM4 st' p' q' l' met' ∧ mmin (inA n U V m) (fun W => D W ∨ ∃ k j, i ≤ k ∧ k < eN (m v) ∧ j < eN (m w) ∧ crK (U v) (V v) (m v) (U w) (V w) (m w) k j ∧ W = XE (U v) (V v) (m v) (U w) (V w) (m w) k j) st' := by
  have hm := (h.2 v hv).2.2.2
  have hm2 := (h.2 w hw).2.2.2
  have le1 := eN_le (m v)
  have le2 := eN_le (m w)
  intro fu
  induction fu with
  | zero => intro j D st p q l met h1 h2; omega
  | succ fu ih =>
    intro i D st p q l met h1 h2 hl hM hD
    rw [fX12_laysMeeting_L89, edN K h hv]
    simp only [b1, Option.bind_some]
    by_cases ee : i = eN (m v)
    · subst ee
      rw [if_pos (nI_le (Nat.le_refl _) (by omega))]
      refine ⟨p, q, l, met, st, rfl, hl, mmin_congr hM (fun Z => ⟨Or.inl, ?_⟩)⟩
      rintro (hz | ⟨k, j, hk1, hk2, -⟩)
      · exact hz
      · omega
    · have hi : i < eN (m v) := by omega
      rw [if_neg (nI_ge hi (by omega))]
      obtain ⟨p', q', l', met', st', g1, g2, g3⟩ := m102 K hK h hv hw hi K 0 D st p q l met (Nat.zero_le _) (by omega) hl hM hD
      rw [show fX12_laysMeeting_L102 K (nI v) (nI w) (nI i) (nI n) px py cor cors K 0 p q l met = _ from g1]
      simp only [b4, Option.bind_some, xl, nI_1]
      obtain ⟨p2, q2, l2, met2, st2, k1, k2, k3⟩ := ih (i + 1) _ st' p' q' l' met' (by omega) (by omega) g2 g3 (by
        rintro W (hW | ⟨k, -, -, hk, e⟩)
        · exact hD W hW
        · rw [e]; exact hk.1)
      refine ⟨p2, q2, l2, met2, st2, k1, k2, mmin_congr k3 (fun Z => ⟨?_, ?_⟩)⟩
      · rintro ((hz | ⟨j, -, hj, hk, e⟩) | ⟨k, j, hk1, hk2, hk3, hk4, e⟩)
        · exact Or.inl hz
        · exact Or.inr ⟨i, j, Nat.le_refl i, hi, hj, hk, e⟩
        · exact Or.inr ⟨k, j, by omega, hk2, hk3, hk4, e⟩
      · rintro (hz | ⟨k, j, hk1, hk2, hk3, hk4, e⟩)
        · exact Or.inl (Or.inl hz)
        · by_cases z : k = i
          · subst z; exact Or.inl (Or.inr ⟨j, Nat.zero_le j, hk3, hk4, e⟩)
          · exact Or.inr ⟨k, j, by omega, hk2, hk3, hk4, e⟩
theorem crM_1 {U V U2 V2 : Nat → Int} {m m2 : Nat} {W : T3} (h : crM U V m U2 V2 m2 W) : 1 ≤ W.2.2 := crC_1 (crM_crC h)
theorem m81 (K : Nat) (hK : 4000 ≤ K) {px py cor cors : Nat → Int32} {n : Nat} {U V : Nat → Nat → Int} {m : Nat → Nat} (h : HMs K px py cor cors n U V m) {v : Nat} (hv : v < n) : ∀ (fu w : Nat) (D : T3 → Prop) (st : Option T3) (p q l : Int64) (met : Int32), w ≤ n → n - w < fu → lstM4 st p q l met → mmin (inA n U V m) D st → (∀ W, D W → 1 ≤ W.2.2) → ∃ p' q' l' met' st', fX12_laysMeeting_L81 K (nI n) (nI v) (nI n) px py cor cors fu (nI w) p q l met = some (p', q', l', met') ∧ lstM4 st' p' q' l' met' ∧ mmin (inA n U V m) (fun W => D W ∨ ∃ o, w ≤ o ∧ o < n ∧ crM (U v) (V v) (m v) (U o) (V o) (m o) W) st' := by
  have hn := h.1
  have hm := (h.2 v hv).2.2.2
  have le1 := eN_le (m v)
  intro fu
  induction fu with
  | zero => intro j D st p q l met h1 h2; omega
  | succ fu ih =>
    intro w D st p q l met h1 h2 hl hM hD
    rw [fX12_laysMeeting_L81]
    by_cases ee : w = n
    · subst ee
      rw [if_pos (nI_le (Nat.le_refl _) (by omega))]
      refine ⟨p, q, l, met, st, rfl, hl, mmin_congr hM (fun Z => ⟨Or.inl, ?_⟩)⟩
      rintro (hz | ⟨k, hk1, hk2, -⟩)
      · exact hz
      · omega
    · have hw : w < n := by omega
      rw [if_neg (nI_ge hw (by omega))]
      obtain ⟨p', q', l', met', st', g1, g2, g3⟩ := m89 K hK h hv hw K 0 D st p q l met (Nat.zero_le _) (by omega) hl hM hD
      have g3' := mmin_congr g3 (D' := fun W => D W ∨ crM (U v) (V v) (m v) (U w) (V w) (m w) W) (fun Z => ⟨fun hh => by
        rcases hh with hz | ⟨k, j, -, hk2, hk3, hk4, e⟩
        · exact Or.inl hz
        · exact Or.inr ⟨k, j, hk2, hk3, hk4.1, hk4.2.1, hk4.2.2, e⟩, fun hh => by
        rcases hh with hz | ⟨k, j, hk2, hk3, q1, q2, q3, e⟩
        · exact Or.inl hz
        · exact Or.inr ⟨k, j, Nat.zero_le k, hk2, hk3, ⟨q1, q2, q3⟩, e⟩⟩)
      rw [show fX12_laysMeeting_L89 K (nI v) (nI w) (nI n) px py cor cors K 0 p q l met = _ from g1]
      simp only [b4, Option.bind_some, xl, nI_1]
      obtain ⟨p2, q2, l2, met2, st2, k1, k2, k3⟩ := ih (w + 1) _ st' p' q' l' met' (by omega) (by omega) g2 g3' (by
        rintro W (hW | hk)
        · exact hD W hW
        · exact crM_1 hk)
      refine ⟨p2, q2, l2, met2, st2, k1, k2, mmin_congr k3 (fun Z => ⟨?_, ?_⟩)⟩
      · rintro ((hz | hk) | ⟨o, hk1, hk2, hk3⟩)
        · exact Or.inl hz
        · exact Or.inr ⟨w, Nat.le_refl w, hw, hk⟩
        · exact Or.inr ⟨o, by omega, hk2, hk3⟩
      · rintro (hz | ⟨o, hk1, hk2, hk3⟩)
        · exact Or.inl (Or.inl hz)
        · by_cases z : o = w
          · subst z; exact Or.inl (Or.inr hk3)
          · exact Or.inr ⟨o, by omega, hk2, hk3⟩
theorem m72 (K : Nat) (hK : 4000 ≤ K) {px py cor cors : Nat → Int32} {n : Nat} {U V : Nat → Nat → Int} {m : Nat → Nat} (h : HMs K px py cor cors n U V m) : ∀ (fu v : Nat) (D : T3 → Prop) (st : Option T3) (p q l : Int64) (met : Int32), v ≤ n → n - v < fu → lstM4 st p q l met → mmin (inA n U V m) D st → (∀ W, D W → 1 ≤ W.2.2) → ∃ p' q' l' met' st', fX12_laysMeeting_L72 K (nI n) (nI n) px py cor cors fu (nI v) p q l met = some (p', q', l', met') ∧ lstM4 st' p' q' l' met' ∧ mmin (inA n U V m) (fun W => D W ∨ ∃ k o, v ≤ k ∧ k < o ∧ o < n ∧ crM (U k) (V k) (m k) (U o) (V o) (m o) W) st' := by
  have hn := h.1
  intro fu
  induction fu with
  | zero => intro j D st p q l met h1 h2; omega
  | succ fu ih =>
    intro v D st p q l met h1 h2 hl hM hD
    rw [fX12_laysMeeting_L72]
    by_cases ee : v = n
    · subst ee
      rw [if_pos (nI_le (Nat.le_refl _) (by omega))]
      refine ⟨p, q, l, met, st, rfl, hl, mmin_congr hM (fun Z => ⟨Or.inl, ?_⟩)⟩
      rintro (hz | ⟨k, o, hk1, hk2, hk3, -⟩)
      · exact hz
      · omega
    · have hv : v < n := by omega
      rw [if_neg (nI_ge hv (by omega))]
      simp only [xl, nI_1]
      obtain ⟨p', q', l', met', st', g1, g2, g3⟩ := m81 K hK h hv K (v + 1) D st p q l met (by omega) (by omega) hl hM hD
      rw [g1]
      simp only [b4, Option.bind_some]
      obtain ⟨p2, q2, l2, met2, st2, k1, k2, k3⟩ := ih (v + 1) _ st' p' q' l' met' (by omega) (by omega) g2 g3 (by
        rintro W (hW | ⟨o, -, -, hk⟩)
        · exact hD W hW
        · exact crM_1 hk)
      refine ⟨p2, q2, l2, met2, st2, k1, k2, mmin_congr k3 (fun Z => ⟨?_, ?_⟩)⟩
      · rintro ((hz | ⟨o, h1, h2, hk⟩) | ⟨k, o, hk1, hk2, hk3, hk4⟩)
        · exact Or.inl hz
        · exact Or.inr ⟨v, o, Nat.le_refl v, by omega, h2, hk⟩
        · exact Or.inr ⟨k, o, by omega, hk2, hk3, hk4⟩
      · rintro (hz | ⟨k, o, hk1, hk2, hk3, hk4⟩)
        · exact Or.inl (Or.inl hz)
        · by_cases z : k = v
          · subst z; exact Or.inl (Or.inr ⟨o, by omega, hk3, hk4⟩)
          · exact Or.inr ⟨k, o, by omega, hk2, hk3, hk4⟩
/-- the model's search -/
theorem meetM (K : Nat) (hK : 4000 ≤ K) {px py cor cors : Nat → Int32} {n : Nat} {U V : Nat → Nat → Int} {m : Nat → Nat} (h : HMs K px py cor cors n U V m) (p q l : Int64) (met hu : Int32) : ∃ r p' q' l' met' st, fX12_laysMeeting K p q l met hu px py cor cors (nI n) = some (r, p', q', l', met', nI n) ∧ fnd st r p' q' l' ∧ mmin (inA n U V m) (fun W => (∃ v, v < n ∧ corD (U v) (V v) (m v) W) ∨ ∃ k o, k < o ∧ o < n ∧ crM (U k) (V k) (m k) (U o) (V o) (m o) W) st := by
  have hn := h.1
  obtain ⟨p1, q1, l1, met1, st1, g1, g2, g3⟩ := m12 K hK h K 0 (fun _ => False) none p q l 0 (Nat.zero_le _) (by omega) rfl (fun Z h => absurd h id) (fun W h => absurd h id)
  have g3' := mmin_congr g3 (D' := fun W => ∃ v, v < n ∧ corD (U v) (V v) (m v) W) (fun Z => ⟨fun hh => by
    rcases hh with hz | ⟨v, -, h2, e⟩
    · exact absurd hz id
    · exact ⟨v, h2, e⟩, fun ⟨v, h2, e⟩ => Or.inr ⟨v, Nat.zero_le v, h2, e⟩⟩)
  obtain ⟨p2, q2, l2, met2, st2, k1, k2, k3⟩ := m72 K hK h K 0 _ st1 p1 q1 l1 met1 (Nat.zero_le _) (by omega) g2 g3' (fun W ⟨v, _, hk⟩ => corD_1 hk)
  unfold fX12_laysMeeting
  rw [show fX12_laysMeeting_L12 K (nI n) (nI n) px py cor cors K 0 p q l 0 = _ from g1]
  simp only [b4, Option.bind_some]
  rw [show fX12_laysMeeting_L72 K (nI n) (nI n) px py cor cors K 0 p1 q1 l1 met1 = _ from k1]
  simp only [Option.bind_some]
  have hz : z01 met2 = true := by
    cases st2 with
    | none => rw [show met2 = 0 from k2]; rfl
    | some Z => rw [k2.1]; rfl
  rw [gd_t hz]
  refine ⟨met2, p2, q2, l2, met2, st2, rfl, ?_, mmin_congr k3 (fun Z => ⟨?_, ?_⟩)⟩
  · cases st2 with
    | none => exact Or.inl ⟨rfl, k2⟩
    | some Z => exact Or.inr ⟨Z, rfl, k2.1, k3.1, k2.2.1, k2.2.2.1, k2.2.2.2⟩
  · rintro (hz | ⟨k, o, -, h2, h3, h4⟩)
    · exact Or.inl hz
    · exact Or.inr ⟨k, o, h2, h3, h4⟩
  · rintro (hz | ⟨k, o, h2, h3, h4⟩)
    · exact Or.inl hz
    · exact Or.inr ⟨k, o, Nat.zero_le k, h2, h3, h4⟩
