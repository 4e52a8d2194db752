--@ needs 2a.num 2b.ev1 2d.gcd 2e.row 2f.row2 2g.bits 2h.hull 2i.hull2 2j.hull3 2k.hull4 2l.side 2m.side2 2n.hulls 2o.chain 2p.poly 2q.pg 2r.near 2s.red 2t.near2 2u.near3 2x.meet1 2y.meet2
theorem gcd_L_some (K : Nat) : ∀ (fu c : Nat) (h l : Int64), c ≤ 100 → 100 - c < fu → ∃ r, fX11_gcd_L15 K fu h l (nI c) = some r := by
  intro fu
  induction fu with
  | zero => intro c h l h1 h2; omega
  | succ fu ih =>
    intro c h l h1 h2
    rw [fX11_gcd_L15]
    by_cases d : c = 100
    · subst d
      exact ⟨h, if_pos (show (100 : Int32) ≤ nI 100 from by decide)⟩
    · rw [if_neg (show ¬ (100 : Int32) ≤ nI c from (show ¬ nI 100 ≤ nI c from nI_ge (by omega) (by decide)))]
      by_cases e : l = 0
      · exact ⟨h, if_pos e⟩
      · rw [if_neg e, gd_ne e]
        simp only [xl, nI_1]
        exact ih (c + 1) _ _ (by omega) (by omega)
theorem gcd_some (K : Nat) (hK : 4000 ≤ K) (a b : Int64) : ∃ r, fX11_gcd K a b = some r := by
  obtain ⟨r, h⟩ := gcd_L_some K K 0 (jabsl a) (jabsl b) (by omega) (by omega)
  unfold fX11_gcd
  simp only [xl, b1]
  rw [show fX11_gcd_L15 K K (jabsl a) (jabsl b) 0 = _ from h]
  exact ⟨r, rfl⟩
theorem put0 (K : Nat) (hK : 4000 ≤ K) (p q l a b : Int64) : fX6_put K p q l a b 0 = some (p, q, l) := by
  obtain ⟨r, h⟩ := gcd_some K hK a b
  obtain ⟨r2, h2⟩ := gcd_some K hK r 0
  unfold fX6_put
  simp only [b1, h, h2, Option.bind_some]
  rw [if_pos trivial]
/-- the class's way to keep a place -/
theorem putP (K : Nat) (hK : 4000 ≤ K) (p q b : Int64) {P Q L : Int} (hP : -4611686018427387904 ≤ P ∧ P ≤ 4611686018427387904) (hQ : -4611686018427387904 ≤ Q ∧ Q ≤ 4611686018427387904) (hL : 0 < L ∧ L ≤ 4611686018427387904) : fX6_put K p q b (jJ P) (jJ Q) (jJ L) = some (jJ (P / (g3 P Q L : Int)), jJ (Q / (g3 P Q L : Int)), jJ (L / (g3 P Q L : Int))) := by
  have k1 := gcd_bd hP hQ
  have k2 := g3_le (P := P) (Q := Q) hL.1
  have k3 : 0 < (g3 P Q L : Int) := by have := g3_pos (P := P) (Q := Q) (show L ≠ 0 by omega); omega
  obtain ⟨d1, d2, d3⟩ := g3_dvd P Q L
  unfold fX6_put
  rw [(gcd_spec K hK P Q (by omega) (by omega) (by omega) (by omega)).1]
  simp only [b1, Option.bind_some]
  rw [(gcd_spec K hK (Int.gcd P Q : Nat) L (by omega) (by omega) (by omega) (by omega)).1]
  simp only [Option.bind_some, jn]
  have e : ((Int.gcd (Int.gcd P Q : Nat) L : Nat) : Int) = (g3 P Q L : Int) := rfl
  rw [e]
  rw [if_neg (jne hL.1 (by omega)), if_neg (jne k3 (by omega)), if_pos (show (0 : Int64) ≤ jJ L from (j_ge0 ⟨by omega, by omega⟩).mpr (by omega))]
  rw [gd_ne (jne k3 (by omega))]
  simp only [xl]
  rw [gd_ne (jne k3 (by omega)), gd_ne (jne k3 (by omega)), jdivx k3 d1 (by omega) (by omega), jdivx k3 d2 (by omega) (by omega), jdivx k3 d3 (by omega) (by omega)]
def corD (U V : Nat → Int) (m : Nat) (W : T3) : Prop := ∃ k, k < m ∧ W = (U k, V k, 1)
theorem corD_1 {U V : Nat → Int} {m : Nat} {W : T3} (h : corD U V m W) : 1 ≤ W.2.2 := by
  obtain ⟨k, -, e⟩ := h
  rw [e]; exact Int.le_refl 1
theorem crC_1 {U V U2 V2 : Nat → Int} {m m2 : Nat} {W : T3} (h : crC U V m U2 V2 m2 W) : 1 ≤ W.2.2 := by
  obtain ⟨i, j, -, -, h3, -, -, e⟩ := h
  rw [e]; exact h3
theorem crC_iff {U V U2 V2 : Nat → Int} {m m2 : Nat} {W : T3} : (∃ k j, 0 ≤ k ∧ k < m ∧ j < m2 ∧ crJ U V m U2 V2 m2 k j ∧ W = XE U V m U2 V2 m2 k j) ↔ crC U V m U2 V2 m2 W := by
  constructor
  · rintro ⟨k, j, -, h1, h2, h3, e⟩
    exact ⟨k, j, h1, h2, h3.1, h3.2.1, h3.2.2, e⟩
  · rintro ⟨k, j, h1, h2, h3, h4, h5, e⟩
    exact ⟨k, j, Nat.zero_le k, h1, h2, ⟨h3, h4, h5⟩, e⟩
/-- what the class's search ends in -/
def fnd (st : Option T3) (r : Int32) (p q l : Int64) : Prop := (st = none ∧ r = 0) ∨ ∃ Z, st = some Z ∧ r = 1 ∧ okM Z ∧ p = jJ (Z.1 / G3 Z) ∧ q = jJ (Z.2.1 / G3 Z) ∧ l = jJ (Z.2.2 / G3 Z)
theorem put_end (K : Nat) (hK : 4000 ≤ K) {A D : T3 → Prop} {st : Option T3} {a b c : Int64} (hl : lst3 st a b c) (hM : mmin A D st) (p q l : Int64) : ∃ r p' q' l', (b3 (fX6_put K p q l a b c) (fun x y z => if c = (0 : Int64) then some ((0 : Int32), a, b, c, x, y, z) else some ((1 : Int32), a, b, c, x, y, z))) = some (r, a, b, c, p', q', l') ∧ fnd st r p' q' l' := by
  cases st with
  | none =>
    have hc : c = 0 := hl
    subst hc
    rw [put0 K hK]
    simp only [b3, Option.bind_some]
    rw [if_pos trivial]
    exact ⟨0, p, q, l, rfl, Or.inl ⟨rfl, rfl⟩⟩
  | some Z =>
    obtain ⟨e1, e2, e3⟩ := hl
    obtain ⟨⟨o1, o2⟩, o3, o4⟩ := id hM.1
    rw [e1, e2, e3, putP K hK p q l (by omega) (by omega) (by omega)]
    simp only [b3, Option.bind_some]
    rw [if_neg (jne (by omega) (by omega))]
    exact ⟨1, _, _, _, rfl, Or.inr ⟨Z, rfl, rfl, hM.1, rfl, rfl, rfl⟩⟩
theorem find2C (K : Nat) (hK : 4000 ≤ K) {x1 y1 x2 y2 x3 y3 : Nat → Int32} {s3 : Int32} {U1 V1 U2 V2 : Nat → Int} {m1 m2 : Nat} (h1 : HA x1 y1 U1 V1 m1) (h2 : HA x2 y2 U2 V2 m2) (lx ly ll p q l : Int64) : ∃ r a b c p' q' l' st, fX3_find K 0 lx ly ll (nI m1) x1 y1 (nI m2) x2 y2 s3 x3 y3 p q l = some (r, a, b, c, p', q', l') ∧ fnd st r p' q' l' ∧ mmin (fun Z => inH U1 V1 m1 Z.1 Z.2.1 Z.2.2 ∧ inH U2 V2 m2 Z.1 Z.2.1 Z.2.2) (fun W => corD U1 V1 m1 W ∨ corD U2 V2 m2 W ∨ crC U1 V1 m1 U2 V2 m2 W) st := by
  have hoff := offer_ok K hK (0 : Int32) (x3 := x3) (y3 := y3) (s3 := s3) (U3 := U1) (V3 := V1) (m3 := m1) h1 h2 (fun z => absurd rfl z)
  have hA : (fun Z : T3 => inH U1 V1 m1 Z.1 Z.2.1 Z.2.2 ∧ inH U2 V2 m2 Z.1 Z.2.1 Z.2.2 ∧ (¬ (0 : Int32) = 0 → inH U1 V1 m1 Z.1 Z.2.1 Z.2.2)) = (fun Z : T3 => inH U1 V1 m1 Z.1 Z.2.1 Z.2.2 ∧ inH U2 V2 m2 Z.1 Z.2.1 Z.2.2) :=
    funext fun Z => propext ⟨fun z => ⟨z.1, z.2.1⟩, fun z => ⟨z.1, z.2, fun w => absurd rfl w⟩⟩
  rw [hA] at hoff
  have hm1 := h1.2.2.2
  have hm2 := h2.2.2.2
  obtain ⟨a1, b1', c1, t1, e1, l1, q1⟩ := gCor_ok hoff h1 K 0 (fun _ => False) none lx ly 0 (Nat.zero_le _) (by omega) rfl (fun Z h => absurd h id) (fun W h => absurd h id)
  obtain ⟨a2, b2', c2, t2, e2, l2, q2⟩ := gCor_ok hoff h2 K 0 _ t1 a1 b1' c1 (Nat.zero_le _) (by omega) l1 q1 (by
    rintro W (h | ⟨k, -, h2, e⟩)
    · exact absurd h id
    · rw [e]; exact Int.le_refl 1)
  obtain ⟨a3, b3', c3, t3, e3, l3, q3⟩ := gCro_ok K hK hoff h1 h2 K 0 _ t2 a2 b2' c2 (Nat.zero_le _) (by omega) l2 q2 (by
    rintro W ((h | ⟨k, -, h2, e⟩) | ⟨k, -, h2, e⟩)
    · exact absurd h id
    · rw [e]; exact Int.le_refl 1
    · rw [e]; exact Int.le_refl 1)
  obtain ⟨r, p', q', l', f1, f2⟩ := put_end K hK l3 q3 p q l
  refine ⟨r, a3, b3', c3, p', q', l', t3, ?_, f2, mmin_congr q3 (fun Z => ?_)⟩
  · unfold fX3_find fX3_offerCorners_p1atfirst fX3_offerCorners_p1atsecond fX3_offerCrossings_p1atfirst_p2atsecond
    simp only [cor_1, cor_2, cro_12]
    rw [show gCor (fun a b c => fX3_offer K 0 a b c (nI m1) x1 y1 (nI m2) x2 y2 s3 x3 y3) (nI m1) x1 y1 K 0 lx ly 0 = _ from e1]
    simp only [b3, Option.bind_some]
    rw [show gCor (fun a b c => fX3_offer K 0 a b c (nI m1) x1 y1 (nI m2) x2 y2 s3 x3 y3) (nI m2) x2 y2 K 0 a1 b1' c1 = _ from e2]
    simp only [Option.bind_some]
    rw [show gCro K (fun a b c => fX3_offer K 0 a b c (nI m1) x1 y1 (nI m2) x2 y2 s3 x3 y3) (nI m1) x1 y1 (nI m2) x2 y2 K 0 a2 b2' c2 = _ from e3]
    simp only [Option.bind_some, jn]
    rw [if_pos trivial]
    exact f1
  · constructor
    · rintro (((h | ⟨k, -, h2, e⟩) | ⟨k, -, h2, e⟩) | h)
      · exact absurd h id
      · exact Or.inl ⟨k, h2, e⟩
      · exact Or.inr (Or.inl ⟨k, h2, e⟩)
      · exact Or.inr (Or.inr (crC_iff.mp h))
    · rintro (⟨k, h2, e⟩ | ⟨k, h2, e⟩ | h)
      · exact Or.inl (Or.inl (Or.inr ⟨k, Nat.zero_le k, h2, e⟩))
      · exact Or.inl (Or.inr ⟨k, Nat.zero_le k, h2, e⟩)
      · exact Or.inr (crC_iff.mpr h)
theorem find3C (K : Nat) (hK : 4000 ≤ K) {x1 y1 x2 y2 x3 y3 : Nat → Int32} {U1 V1 U2 V2 U3 V3 : Nat → Int} {m1 m2 m3 : Nat} (h1 : HA x1 y1 U1 V1 m1) (h2 : HA x2 y2 U2 V2 m2) (h3 : HA x3 y3 U3 V3 m3) (lx ly ll p q l : Int64) : ∃ r a b c p' q' l' st, fX3_find K 1 lx ly ll (nI m1) x1 y1 (nI m2) x2 y2 (nI m3) x3 y3 p q l = some (r, a, b, c, p', q', l') ∧ fnd st r p' q' l' ∧ mmin (fun Z => inH U1 V1 m1 Z.1 Z.2.1 Z.2.2 ∧ inH U2 V2 m2 Z.1 Z.2.1 Z.2.2 ∧ inH U3 V3 m3 Z.1 Z.2.1 Z.2.2) (fun W => corD U1 V1 m1 W ∨ corD U2 V2 m2 W ∨ corD U3 V3 m3 W ∨ crC U1 V1 m1 U2 V2 m2 W ∨ crC U1 V1 m1 U3 V3 m3 W ∨ crC U2 V2 m2 U3 V3 m3 W) st := by
  have hoff := offer_ok K hK (1 : Int32) h1 h2 (fun _ => ⟨h3, rfl⟩)
  have hA : (fun Z : T3 => inH U1 V1 m1 Z.1 Z.2.1 Z.2.2 ∧ inH U2 V2 m2 Z.1 Z.2.1 Z.2.2 ∧ (¬ (1 : Int32) = 0 → inH U3 V3 m3 Z.1 Z.2.1 Z.2.2)) = (fun Z : T3 => inH U1 V1 m1 Z.1 Z.2.1 Z.2.2 ∧ inH U2 V2 m2 Z.1 Z.2.1 Z.2.2 ∧ inH U3 V3 m3 Z.1 Z.2.1 Z.2.2) :=
    funext fun Z => propext ⟨fun z => ⟨z.1, z.2.1, z.2.2 one_ne⟩, fun z => ⟨z.1, z.2.1, fun _ => z.2.2⟩⟩
  rw [hA] at hoff
  have hm1 := h1.2.2.2
  have hm2 := h2.2.2.2
  have hm3 := h3.2.2.2
  obtain ⟨a1, b1', c1, t1, e1, l1, q1⟩ := gCor_ok hoff h1 K 0 (fun _ => False) none lx ly 0 (Nat.zero_le _) (by omega) rfl (fun Z h => absurd h id) (fun W h => absurd h id)
  have q1' := mmin_congr q1 (D' := corD U1 V1 m1) (fun Z => ⟨fun h => by
    rcases h with h | ⟨k, -, h2, e⟩
    · exact absurd h id
    · exact ⟨k, h2, e⟩, fun ⟨k, h2, e⟩ => Or.inr ⟨k, Nat.zero_le k, h2, e⟩⟩)
  obtain ⟨a2, b2', c2, t2, e2, l2, q2⟩ := gCor_ok hoff h2 K 0 _ t1 a1 b1' c1 (Nat.zero_le _) (by omega) l1 q1' (fun W h => corD_1 h)
  have q2' := mmin_congr q2 (D' := fun W => corD U1 V1 m1 W ∨ corD U2 V2 m2 W) (fun Z => ⟨fun h => by
    rcases h with h | ⟨k, -, h2, e⟩
    · exact Or.inl h
    · exact Or.inr ⟨k, h2, e⟩, fun h => by
    rcases h with h | ⟨k, h2, e⟩
    · exact Or.inl h
    · exact Or.inr ⟨k, Nat.zero_le k, h2, e⟩⟩)
  obtain ⟨a3, b3', c3, t3, e3, l3, q3⟩ := gCro_ok K hK hoff h1 h2 K 0 _ t2 a2 b2' c2 (Nat.zero_le _) (by omega) l2 q2' (by
    rintro W (h | h)
    · exact corD_1 h
    · exact corD_1 h)
  have q3' := mmin_congr q3 (D' := fun W => (corD U1 V1 m1 W ∨ corD U2 V2 m2 W) ∨ crC U1 V1 m1 U2 V2 m2 W) (fun Z => by rw [crC_iff])
  obtain ⟨a4, b4', c4, t4, e4, l4, q4⟩ := gCor_ok hoff h3 K 0 _ t3 a3 b3' c3 (Nat.zero_le _) (by omega) l3 q3' (by
    rintro W ((h | h) | h)
    · exact corD_1 h
    · exact corD_1 h
    · exact crC_1 h)
  have q4' := mmin_congr q4 (D' := fun W => ((corD U1 V1 m1 W ∨ corD U2 V2 m2 W) ∨ crC U1 V1 m1 U2 V2 m2 W) ∨ corD U3 V3 m3 W) (fun Z => ⟨fun h => by
    rcases h with h | ⟨k, -, h2, e⟩
    · exact Or.inl h
    · exact Or.inr ⟨k, h2, e⟩, fun h => by
    rcases h with h | ⟨k, h2, e⟩
    · exact Or.inl h
    · exact Or.inr ⟨k, Nat.zero_le k, h2, e⟩⟩)
  obtain ⟨a5, b5', c5, t5, e5, l5, q5⟩ := gCro_ok K hK hoff h1 h3 K 0 _ t4 a4 b4' c4 (Nat.zero_le _) (by omega) l4 q4' (by
    rintro W (((h | h) | h) | h)
    · exact corD_1 h
    · exact corD_1 h
    · exact crC_1 h
    · exact corD_1 h)
  have q5' := mmin_congr q5 (D' := fun W => (((corD U1 V1 m1 W ∨ corD U2 V2 m2 W) ∨ crC U1 V1 m1 U2 V2 m2 W) ∨ corD U3 V3 m3 W) ∨ crC U1 V1 m1 U3 V3 m3 W) (fun Z => by rw [crC_iff])
  obtain ⟨a6, b6', c6, t6, e6, l6, q6⟩ := gCro_ok K hK hoff h2 h3 K 0 _ t5 a5 b5' c5 (Nat.zero_le _) (by omega) l5 q5' (by
    rintro W ((((h | h) | h) | h) | h)
    · exact corD_1 h
    · exact corD_1 h
    · exact crC_1 h
    · exact corD_1 h
    · exact crC_1 h)
  obtain ⟨r, p', q', l', f1, f2⟩ := put_end K hK l6 q6 p q l
  refine ⟨r, a6, b6', c6, p', q', l', t6, ?_, f2, mmin_congr q6 (fun Z => ?_)⟩
  · unfold fX3_find fX3_offerCorners_p1atfirst fX3_offerCorners_p1atsecond fX3_offerCrossings_p1atfirst_p2atsecond fX3_offerCorners_p1atthird fX3_offerCrossings_p1atfirst_p2atthird fX3_offerCrossings_p1atsecond_p2atthird
    simp only [cor_1, cor_2, cro_12, cor_3, cro_13, cro_23]
    rw [show gCor (fun a b c => fX3_offer K 1 a b c (nI m1) x1 y1 (nI m2) x2 y2 (nI m3) x3 y3) (nI m1) x1 y1 K 0 lx ly 0 = _ from e1]
    simp only [b3, Option.bind_some]
    rw [show gCor (fun a b c => fX3_offer K 1 a b c (nI m1) x1 y1 (nI m2) x2 y2 (nI m3) x3 y3) (nI m2) x2 y2 K 0 a1 b1' c1 = _ from e2]
    simp only [Option.bind_some]
    rw [show gCro K (fun a b c => fX3_offer K 1 a b c (nI m1) x1 y1 (nI m2) x2 y2 (nI m3) x3 y3) (nI m1) x1 y1 (nI m2) x2 y2 K 0 a2 b2' c2 = _ from e3]
    simp only [Option.bind_some, jn]
    rw [if_neg one_ne]
    rw [show gCor (fun a b c => fX3_offer K 1 a b c (nI m1) x1 y1 (nI m2) x2 y2 (nI m3) x3 y3) (nI m3) x3 y3 K 0 a3 b3' c3 = _ from e4]
    simp only [Option.bind_some]
    rw [show gCro K (fun a b c => fX3_offer K 1 a b c (nI m1) x1 y1 (nI m2) x2 y2 (nI m3) x3 y3) (nI m1) x1 y1 (nI m3) x3 y3 K 0 a4 b4' c4 = _ from e5]
    simp only [Option.bind_some]
    rw [show gCro K (fun a b c => fX3_offer K 1 a b c (nI m1) x1 y1 (nI m2) x2 y2 (nI m3) x3 y3) (nI m2) x2 y2 (nI m3) x3 y3 K 0 a5 b5' c5 = _ from e6]
    simp only [Option.bind_some]
    exact f1
  · rw [crC_iff]
    constructor
    · rintro (((((h | h) | h) | h) | h) | h)
      · exact Or.inl h
      · exact Or.inr (Or.inl h)
      · exact Or.inr (Or.inr (Or.inr (Or.inl h)))
      · exact Or.inr (Or.inr (Or.inl h))
      · exact Or.inr (Or.inr (Or.inr (Or.inr (Or.inl h))))
      · exact Or.inr (Or.inr (Or.inr (Or.inr (Or.inr h))))
    · rintro (h | h | h | h | h | h)
      · exact Or.inl (Or.inl (Or.inl (Or.inl (Or.inl h))))
      · exact Or.inl (Or.inl (Or.inl (Or.inl (Or.inr h))))
      · exact Or.inl (Or.inl (Or.inr h))
      · exact Or.inl (Or.inl (Or.inl (Or.inr h)))
      · exact Or.inl (Or.inr h)
      · exact Or.inr h
