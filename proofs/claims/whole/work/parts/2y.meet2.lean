--@ needs 2a.num 2b.ev1 2d.gcd 2e.row 2f.row2 2g.bits 2h.hull 2i.hull2 2j.hull3 2k.hull4 2l.side 2m.side2 2n.hulls 2o.chain 2p.poly 2q.pg 2r.near 2s.red 2t.near2 2u.near3 2x.meet1
/-! the class's way to the least common place -/
abbrev OF : Type := Int64 → Int64 → Int64 → Int64 → Int64 → Int64 → Option (Int64 × Int64 × Int64)
def gCor (off : OF) (sz : Int32) (x y : Nat → Int32) : Nat → Int32 → Int64 → Int64 → Int64 → Option (Int64 × Int64 × Int64)
  | 0, _, _, _, _ => none
  | n + 1, l2, a, b, c => if sz ≤ l2 then some (a, b, c) else gd (inb l2 48) (gd (inb l2 48) (b3 (off a b c ((x l2.toNatClampNeg).toInt64) ((y l2.toNatClampNeg).toInt64) (1 : Int64)) (fun a' b' c' => xl (l2 + (1 : Int32)) (fun l2' => gCor off sz x y n l2' a' b' c'))))
def gCri (off : OF) (x y : Nat → Int32) (sz : Int32) (x2 y2 : Nat → Int32) (l3 : Int32) : Nat → Int32 → Int64 → Int64 → Int64 → Option (Int64 × Int64 × Int64)
  | 0, _, _, _, _ => none
  | n + 1, l4, t_leastX, t_leastY, t_leastLower => if sz ≤ l4 then some (t_leastX, t_leastY, t_leastLower) else gd (inb (l3 + (1 : Int32)) 48) (gd (inb l3 48) (xl (((x (l3 + (1 : Int32)).toNatClampNeg) - (x l3.toNatClampNeg)).toInt64) (fun l5_3 => gd (inb (l3 + (1 : Int32)) 48) (gd (inb l3 48) (xl (((y (l3 + (1 : Int32)).toNatClampNeg) - (y l3.toNatClampNeg)).toInt64) (fun l7_6 => gd (inb (l4 + (1 : Int32)) 48) (gd (inb l4 48) (xl (((x2 (l4 + (1 : Int32)).toNatClampNeg) - (x2 l4.toNatClampNeg)).toInt64) (fun l9_9 => gd (inb (l4 + (1 : Int32)) 48) (gd (inb l4 48) (xl (((y2 (l4 + (1 : Int32)).toNatClampNeg) - (y2 l4.toNatClampNeg)).toInt64) (fun l11_12 => xl ((l5_3 * l11_12) - (l7_6 * l9_9)) (fun l13_13 => gd (inb l4 48) (gd (inb l3 48) (gd (inb l4 48) (gd (inb l3 48) (xl (((((x2 l4.toNatClampNeg) - (x l3.toNatClampNeg)).toInt64) * l11_12) - ((((y2 l4.toNatClampNeg) - (y l3.toNatClampNeg)).toInt64) * l9_9)) (fun l15_18 => jn (fun (l13_19 : Int64) (l15_20 : Int64) => jn (fun (t_leastX_23 : Int64) (t_leastY_24 : Int64) (t_leastLower_25 : Int64) => xl (l4 + (1 : Int32)) (fun l4_28 => gCri off x y sz x2 y2 l3 n l4_28 t_leastX_23 t_leastY_24 t_leastLower_25)) (fun k_26 => if l13_19 ≤ (0 : Int64) then k_26 t_leastX t_leastY t_leastLower else if l15_20 < (0 : Int64) then k_26 t_leastX t_leastY t_leastLower else if l13_19 < l15_20 then k_26 t_leastX t_leastY t_leastLower else gd (inb l3 48) (gd (inb l3 48) (b3 (off t_leastX t_leastY t_leastLower ((((x l3.toNatClampNeg).toInt64) * l13_19) + (l15_20 * l5_3)) ((((y l3.toNatClampNeg).toInt64) * l13_19) + (l15_20 * l7_6)) l13_19) (fun t_leastX_31 t_leastY_32 t_leastLower_33 => k_26 t_leastX_31 t_leastY_32 t_leastLower_33))))) (fun k_21 => if (0 : Int64) ≤ l13_13 then k_21 l13_13 l15_18 else xl (-l13_13) (fun l13_35 => xl (-l15_18) (fun l15_36 => k_21 l13_35 l15_36)))))))))))))))))))))
def gCro (K : Nat) (off : OF) (sz1 : Int32) (x y : Nat → Int32) (sz : Int32) (x2 y2 : Nat → Int32) : Nat → Int32 → Int64 → Int64 → Int64 → Option (Int64 × Int64 × Int64)
  | 0, _, _, _, _ => none
  | n + 1, l3, a, b, c => if sz1 ≤ l3 then some (a, b, c) else b3 (gCri off x y sz x2 y2 l3 K (0 : Int32) a b c) (fun a' b' c' => xl (l3 + (1 : Int32)) (fun l3' => gCro K off sz1 x y sz x2 y2 n l3' a' b' c'))
theorem cor_1 (K : Nat) (tf s1 : Int32) (x1 y1 : Nat → Int32) (s2 : Int32) (x2 y2 : Nat → Int32) (s3 : Int32) (x3 y3 : Nat → Int32) : ∀ (n : Nat) (l : Int32) (a b c : Int64), fX3_offerCorners_p1atfirst_L2 K tf s1 x1 y1 s2 x2 y2 s3 x3 y3 n l a b c = gCor (fun a b c => fX3_offer K tf a b c s1 x1 y1 s2 x2 y2 s3 x3 y3) s1 x1 y1 n l a b c := by
  intro n
  induction n with
  | zero => intros; rfl
  | succ n ih => intro l a b c; rw [fX3_offerCorners_p1atfirst_L2, gCor]; simp only [ih]
theorem cor_2 (K : Nat) (tf s1 : Int32) (x1 y1 : Nat → Int32) (s2 : Int32) (x2 y2 : Nat → Int32) (s3 : Int32) (x3 y3 : Nat → Int32) : ∀ (n : Nat) (l : Int32) (a b c : Int64), fX3_offerCorners_p1atsecond_L2 K tf s1 x1 y1 s2 x2 y2 s3 x3 y3 n l a b c = gCor (fun a b c => fX3_offer K tf a b c s1 x1 y1 s2 x2 y2 s3 x3 y3) s2 x2 y2 n l a b c := by
  intro n
  induction n with
  | zero => intros; rfl
  | succ n ih => intro l a b c; rw [fX3_offerCorners_p1atsecond_L2, gCor]; simp only [ih]
theorem cor_3 (K : Nat) (tf s1 : Int32) (x1 y1 : Nat → Int32) (s2 : Int32) (x2 y2 : Nat → Int32) (s3 : Int32) (x3 y3 : Nat → Int32) : ∀ (n : Nat) (l : Int32) (a b c : Int64), fX3_offerCorners_p1atthird_L2 K tf s1 x1 y1 s2 x2 y2 s3 x3 y3 n l a b c = gCor (fun a b c => fX3_offer K tf a b c s1 x1 y1 s2 x2 y2 s3 x3 y3) s3 x3 y3 n l a b c := by
  intro n
  induction n with
  | zero => intros; rfl
  | succ n ih => intro l a b c; rw [fX3_offerCorners_p1atthird_L2, gCor]; simp only [ih]
theorem cri_12 (K : Nat) (tf s1 : Int32) (x1 y1 : Nat → Int32) (s2 : Int32) (x2 y2 : Nat → Int32) (s3 : Int32) (x3 y3 : Nat → Int32) (l3 : Int32) : ∀ (n : Nat) (l : Int32) (a b c : Int64), fX3_offerCrossings_p1atfirst_p2atsecond_L13 K l3 tf s1 x1 y1 s2 x2 y2 s3 x3 y3 n l a b c = gCri (fun a b c => fX3_offer K tf a b c s1 x1 y1 s2 x2 y2 s3 x3 y3) x1 y1 s2 x2 y2 l3 n l a b c := by
  intro n
  induction n with
  | zero => intros; rfl
  | succ n ih => intro l a b c; rw [fX3_offerCrossings_p1atfirst_p2atsecond_L13, gCri]; simp only [ih]
theorem cri_13 (K : Nat) (tf s1 : Int32) (x1 y1 : Nat → Int32) (s2 : Int32) (x2 y2 : Nat → Int32) (s3 : Int32) (x3 y3 : Nat → Int32) (l3 : Int32) : ∀ (n : Nat) (l : Int32) (a b c : Int64), fX3_offerCrossings_p1atfirst_p2atthird_L13 K l3 tf s1 x1 y1 s2 x2 y2 s3 x3 y3 n l a b c = gCri (fun a b c => fX3_offer K tf a b c s1 x1 y1 s2 x2 y2 s3 x3 y3) x1 y1 s3 x3 y3 l3 n l a b c := by
  intro n
  induction n with
  | zero => intros; rfl
  | succ n ih => intro l a b c; rw [fX3_offerCrossings_p1atfirst_p2atthird_L13, gCri]; simp only [ih]
theorem cri_23 (K : Nat) (tf s1 : Int32) (x1 y1 : Nat → Int32) (s2 : Int32) (x2 y2 : Nat → Int32) (s3 : Int32) (x3 y3 : Nat → Int32) (l3 : Int32) : ∀ (n : Nat) (l : Int32) (a b c : Int64), fX3_offerCrossings_p1atsecond_p2atthird_L13 K l3 tf s1 x1 y1 s2 x2 y2 s3 x3 y3 n l a b c = gCri (fun a b c => fX3_offer K tf a b c s1 x1 y1 s2 x2 y2 s3 x3 y3) x2 y2 s3 x3 y3 l3 n l a b c := by
  intro n
  induction n with
  | zero => intros; rfl
  | succ n ih => intro l a b c; rw [fX3_offerCrossings_p1atsecond_p2atthird_L13, gCri]; simp only [ih]
theorem cro_12 (K : Nat) (tf s1 : Int32) (x1 y1 : Nat → Int32) (s2 : Int32) (x2 y2 : Nat → Int32) (s3 : Int32) (x3 y3 : Nat → Int32) : ∀ (n : Nat) (l : Int32) (a b c : Int64), fX3_offerCrossings_p1atfirst_p2atsecond_L2 K tf s1 x1 y1 s2 x2 y2 s3 x3 y3 n l a b c = gCro K (fun a b c => fX3_offer K tf a b c s1 x1 y1 s2 x2 y2 s3 x3 y3) s1 x1 y1 s2 x2 y2 n l a b c := by
  intro n
  induction n with
  | zero => intros; rfl
  | succ n ih => intro l a b c; rw [fX3_offerCrossings_p1atfirst_p2atsecond_L2, gCro]; simp only [ih, cri_12]
theorem cro_13 (K : Nat) (tf s1 : Int32) (x1 y1 : Nat → Int32) (s2 : Int32) (x2 y2 : Nat → Int32) (s3 : Int32) (x3 y3 : Nat → Int32) : ∀ (n : Nat) (l : Int32) (a b c : Int64), fX3_offerCrossings_p1atfirst_p2atthird_L2 K tf s1 x1 y1 s2 x2 y2 s3 x3 y3 n l a b c = gCro K (fun a b c => fX3_offer K tf a b c s1 x1 y1 s2 x2 y2 s3 x3 y3) s1 x1 y1 s3 x3 y3 n l a b c := by
  intro n
  induction n with
  | zero => intros; rfl
  | succ n ih => intro l a b c; rw [fX3_offerCrossings_p1atfirst_p2atthird_L2, gCro]; simp only [ih, cri_13]
theorem cro_23 (K : Nat) (tf s1 : Int32) (x1 y1 : Nat → Int32) (s2 : Int32) (x2 y2 : Nat → Int32) (s3 : Int32) (x3 y3 : Nat → Int32) : ∀ (n : Nat) (l : Int32) (a b c : Int64), fX3_offerCrossings_p1atsecond_p2atthird_L2 K tf s1 x1 y1 s2 x2 y2 s3 x3 y3 n l a b c = gCro K (fun a b c => fX3_offer K tf a b c s1 x1 y1 s2 x2 y2 s3 x3 y3) s2 x2 y2 s3 x3 y3 n l a b c := by
  intro n
  induction n with
  | zero => intros; rfl
  | succ n ih => intro l a b c; rw [fX3_offerCrossings_p1atsecond_p2atthird_L2, gCro]; simp only [ih, cri_23]
def lst3 (st : Option T3) (a b c : Int64) : Prop := match st with
  | none => c = 0
  | some Z => a = jJ Z.1 ∧ b = jJ Z.2.1 ∧ c = jJ Z.2.2
def OFF (off : OF) (A : T3 → Prop) : Prop := ∀ (D : T3 → Prop) (st : Option T3) (a b c : Int64) (Z : T3), lst3 st a b c → mmin A D st → (∀ W, D W → 1 ≤ W.2.2) → okM Z → ∃ a' b' c' st', off a b c (jJ Z.1) (jJ Z.2.1) (jJ Z.2.2) = some (a', b', c') ∧ lst3 st' a' b' c' ∧ mmin A (fun W => D W ∨ W = Z) st'
def HA (gx gy : Nat → Int32) (U V : Nat → Int) (m : Nat) : Prop := hulA gx gy U V m ∧ okU U V m ∧ 0 < m ∧ m < 48
theorem offer_ok (K : Nat) (hK : 4000 ≤ K) (tf : Int32) {x1 y1 x2 y2 x3 y3 : Nat → Int32} {s3 : Int32} {U1 V1 U2 V2 U3 V3 : Nat → Int} {m1 m2 m3 : Nat} (h1 : HA x1 y1 U1 V1 m1) (h2 : HA x2 y2 U2 V2 m2) (h3 : ¬ tf = 0 → HA x3 y3 U3 V3 m3 ∧ s3 = nI m3) : OFF (fun a b c => fX3_offer K tf a b c (nI m1) x1 y1 (nI m2) x2 y2 s3 x3 y3) (fun Z => inH U1 V1 m1 Z.1 Z.2.1 Z.2.2 ∧ inH U2 V2 m2 Z.1 Z.2.1 Z.2.2 ∧ (¬ tf = 0 → inH U3 V3 m3 Z.1 Z.2.1 Z.2.2)) := by
  intro D st a b c Z hl hM hD hO
  obtain ⟨h11, h12, h13, h14⟩ := h1
  obtain ⟨h21, h22, h23, h24⟩ := h2
  have hP := okM_P hO
  have s1 := sideC K hK h13 h14 h11 h12 hP
  have s2 := sideC K hK h23 h24 h21 h22 hP
  have t1 := sdv_in U1 V1 m1 Z.1 Z.2.1 Z.2.2
  have t2 := sdv_in U2 V2 m2 Z.1 Z.2.1 Z.2.2
  -- what is asked of the hulls
  have key : (jn (b1 (fX2_sideOf K (nI m1) x1 y1 (jJ Z.1) (jJ Z.2.1) (jJ Z.2.2)) (fun r_3 => if r_3 ≤ 0 then some (a, b, c) else b1 (fX2_sideOf K (nI m2) x2 y2 (jJ Z.1) (jJ Z.2.1) (jJ Z.2.2)) (fun r_5 => if r_5 ≤ 0 then some (a, b, c) else jn (some (jJ Z.1, jJ Z.2.1, jJ Z.2.2)) (fun k_7 => if tf = 0 then k_7 else b1 (fX2_sideOf K s3 x3 y3 (jJ Z.1) (jJ Z.2.1) (jJ Z.2.2)) (fun r_9 => if r_9 ≤ 0 then some (a, b, c) else k_7))))) (fun k_1 => k_1)) = some (jJ Z.1, jJ Z.2.1, jJ Z.2.2) ∧ (inH U1 V1 m1 Z.1 Z.2.1 Z.2.2 ∧ inH U2 V2 m2 Z.1 Z.2.1 Z.2.2 ∧ (¬ tf = 0 → inH U3 V3 m3 Z.1 Z.2.1 Z.2.2)) ∨ (jn (b1 (fX2_sideOf K (nI m1) x1 y1 (jJ Z.1) (jJ Z.2.1) (jJ Z.2.2)) (fun r_3 => if r_3 ≤ 0 then some (a, b, c) else b1 (fX2_sideOf K (nI m2) x2 y2 (jJ Z.1) (jJ Z.2.1) (jJ Z.2.2)) (fun r_5 => if r_5 ≤ 0 then some (a, b, c) else jn (some (jJ Z.1, jJ Z.2.1, jJ Z.2.2)) (fun k_7 => if tf = 0 then k_7 else b1 (fX2_sideOf K s3 x3 y3 (jJ Z.1) (jJ Z.2.1) (jJ Z.2.2)) (fun r_9 => if r_9 ≤ 0 then some (a, b, c) else k_7))))) (fun k_1 => k_1)) = some (a, b, c) ∧ ¬ (inH U1 V1 m1 Z.1 Z.2.1 Z.2.2 ∧ inH U2 V2 m2 Z.1 Z.2.1 Z.2.2 ∧ (¬ tf = 0 → inH U3 V3 m3 Z.1 Z.2.1 Z.2.2)) := by
    rw [s1, s2]
    simp only [jn, b1, Option.bind_some]
    by_cases c1 : inH U1 V1 m1 Z.1 Z.2.1 Z.2.2
    · rw [if_neg (fun z => t1.mp z c1)]
      by_cases c2 : inH U2 V2 m2 Z.1 Z.2.1 Z.2.2
      · rw [if_neg (fun z => t2.mp z c2)]
        by_cases c3 : tf = 0
        · rw [if_pos c3]
          exact Or.inl ⟨rfl, c1, c2, fun z => absurd c3 z⟩
        · obtain ⟨⟨h31, h32, h33, h34⟩, e3⟩ := h3 c3
          have s3' := sideC K hK h33 h34 h31 h32 hP
          have t3 := sdv_in U3 V3 m3 Z.1 Z.2.1 Z.2.2
          rw [if_neg c3, e3, s3']
          simp only [Option.bind_some]
          by_cases c4 : inH U3 V3 m3 Z.1 Z.2.1 Z.2.2
          · rw [if_neg (fun z => t3.mp z c4)]
            exact Or.inl ⟨rfl, c1, c2, fun _ => c4⟩
          · rw [if_pos (t3.mpr c4)]
            exact Or.inr ⟨rfl, fun z => c4 (z.2.2 c3)⟩
      · rw [if_pos (t2.mpr c2)]
        exact Or.inr ⟨rfl, fun z => c2 z.2.1⟩
    · rw [if_pos (t1.mpr c1)]
      exact Or.inr ⟨rfl, fun z => c1 z.1⟩
  have fin : ∀ (hk : ∀ W, st = some W → ltp Z W), ∃ a' b' c' st', (jn (b1 (fX2_sideOf K (nI m1) x1 y1 (jJ Z.1) (jJ Z.2.1) (jJ Z.2.2)) (fun r_3 => if r_3 ≤ 0 then some (a, b, c) else b1 (fX2_sideOf K (nI m2) x2 y2 (jJ Z.1) (jJ Z.2.1) (jJ Z.2.2)) (fun r_5 => if r_5 ≤ 0 then some (a, b, c) else jn (some (jJ Z.1, jJ Z.2.1, jJ Z.2.2)) (fun k_7 => if tf = 0 then k_7 else b1 (fX2_sideOf K s3 x3 y3 (jJ Z.1) (jJ Z.2.1) (jJ Z.2.2)) (fun r_9 => if r_9 ≤ 0 then some (a, b, c) else k_7))))) (fun k_1 => k_1)) = some (a', b', c') ∧ lst3 st' a' b' c' ∧ mmin (fun Z => inH U1 V1 m1 Z.1 Z.2.1 Z.2.2 ∧ inH U2 V2 m2 Z.1 Z.2.1 Z.2.2 ∧ (¬ tf = 0 → inH U3 V3 m3 Z.1 Z.2.1 Z.2.2)) (fun W => D W ∨ W = Z) st' := by
    intro hk
    rcases key with ⟨k1, k2⟩ | ⟨k1, k2⟩
    · exact ⟨_, _, _, some Z, k1, ⟨rfl, rfl, rfl⟩, mmin_take hM hD hO k2 hk⟩
    · exact ⟨_, _, _, st, k1, hl, mmin_keep hM (Or.inl k2)⟩
  have stay : (∃ W, st = some W ∧ ¬ ltp Z W) → ∃ a' b' c' st', some (a, b, c) = some (a', b', c') ∧ lst3 st' a' b' c' ∧ mmin (fun Z => inH U1 V1 m1 Z.1 Z.2.1 Z.2.2 ∧ inH U2 V2 m2 Z.1 Z.2.1 Z.2.2 ∧ (¬ tf = 0 → inH U3 V3 m3 Z.1 Z.2.1 Z.2.2)) (fun W => D W ∨ W = Z) st' :=
    fun h => ⟨a, b, c, st, rfl, hl, mmin_keep hM (Or.inr h)⟩
  show ∃ a' b' c' st', fX3_offer K tf a b c (nI m1) x1 y1 (nI m2) x2 y2 s3 x3 y3 (jJ Z.1) (jJ Z.2.1) (jJ Z.2.2) = some (a', b', c') ∧ _
  unfold fX3_offer
  simp only [jn] at fin ⊢
  cases st with
  | none =>
    have hc : c = 0 := hl
    rw [if_pos hc]
    exact fin (fun W e => by cases e)
  | some W =>
    obtain ⟨e1, e2, e3⟩ := hl
    have hW := hM.1
    obtain ⟨⟨o1, o2⟩, o3, o4⟩ := id hO
    obtain ⟨⟨w1, w2⟩, w3, w4⟩ := id hW
    have q1 := mulB (u := Z.1) (v := W.2.2) (a := 64000) (b := 3200) (by omega) (by omega)
    have q2 := mulB (u := W.1) (v := Z.2.2) (a := 64000) (b := 3200) (by omega) (by omega)
    have q3 := mulB (u := Z.2.1) (v := W.2.2) (a := 64000) (b := 3200) (by omega) (by omega)
    have q4 := mulB (u := W.2.1) (v := Z.2.2) (a := 64000) (b := 3200) (by omega) (by omega)
    rw [if_neg (show ¬ c = 0 from by rw [e3]; exact jne (by omega) (by omega))]
    have hlt : ltp Z W ↔ (Z.1 * W.2.2 - W.1 * Z.2.2 < 0 ∨ (Z.1 * W.2.2 - W.1 * Z.2.2 = 0 ∧ Z.2.1 * W.2.2 < W.2.1 * Z.2.2)) := by unfold ltp; omega
    have c1 : ((0 : Int64) < jJ Z.1 * c - a * jJ Z.2.2) ↔ 0 < Z.1 * W.2.2 - W.1 * Z.2.2 := by
      rw [e1, e3, jJ_mul, jJ_mul, jJ_sub]; exact j_gt0 ⟨by omega, by omega⟩
    have c2 : (jJ Z.1 * c - a * jJ Z.2.2 = 0) ↔ Z.1 * W.2.2 - W.1 * Z.2.2 = 0 := by
      rw [e1, e3, jJ_mul, jJ_mul, jJ_sub]; exact j_eq0 ⟨by omega, by omega⟩
    have c3 : (jJ Z.2.1 * c < b * jJ Z.2.2) ↔ Z.2.1 * W.2.2 < W.2.1 * Z.2.2 := by
      rw [e2, e3, jJ_mul, jJ_mul]; exact jJ_lt ⟨by omega, by omega⟩ ⟨by omega, by omega⟩
    simp only [xl, c1, c2, c3]
    by_cases d1 : 0 < Z.1 * W.2.2 - W.1 * Z.2.2
    · rw [if_pos d1]
      exact stay ⟨W, rfl, fun z => by have := hlt.mp z; omega⟩
    · rw [if_neg d1]
      by_cases d2 : Z.1 * W.2.2 - W.1 * Z.2.2 = 0
      · rw [if_pos d2]
        by_cases d3 : Z.2.1 * W.2.2 < W.2.1 * Z.2.2
        · rw [if_pos d3]
          exact fin (fun W' e => by cases e; exact hlt.mpr (Or.inr ⟨d2, d3⟩))
        · rw [if_neg d3]
          exact stay ⟨W, rfl, fun z => by have := hlt.mp z; omega⟩
      · rw [if_neg d2]
        exact fin (fun W' e => by cases e; exact hlt.mpr (Or.inl (by omega)))
theorem gCor_ok {off : OF} {A : T3 → Prop} (hoff : OFF off A) {gx gy : Nat → Int32} {U V : Nat → Int} {m : Nat} (h : HA gx gy U V m) : ∀ (fu i : Nat) (D : T3 → Prop) (st : Option T3) (a b c : Int64), i ≤ m → m - i < fu → lst3 st a b c → mmin A D st → (∀ W, D W → 1 ≤ W.2.2) → ∃ a' b' c' st', gCor off (nI m) gx gy fu (nI i) a b c = some (a', b', c') ∧ lst3 st' a' b' c' ∧ mmin A (fun W => D W ∨ ∃ k, i ≤ k ∧ k < m ∧ W = (U k, V k, 1)) st' := by
  obtain ⟨hA, hU, h0, hm⟩ := h
  intro fu
  induction fu with
  | zero => intro i D st a b c h1 h2; omega
  | succ fu ih =>
    intro i D st a b c h1 h2 hl hM hD
    rw [gCor]
    by_cases ee : i = m
    · subst ee
      rw [if_pos (nI_le (Nat.le_refl i) (by omega))]
      refine ⟨a, b, c, st, rfl, hl, mmin_congr hM (fun Z => ⟨Or.inl, ?_⟩)⟩
      rintro (hz | ⟨k, hk1, hk2, -⟩)
      · exact hz
      · omega
    · have him : i < m := by omega
      rw [if_neg (nI_ge him (by omega))]
      obtain ⟨a1, a2⟩ := hA i (by omega)
      have ci : cy m i = i := if_pos him
      rw [ci] at a1 a2
      obtain ⟨u1, u2⟩ := hU i him
      simp only [nI_1, gd_t (inb_nI (show i < 48 by omega) (by decide)), nI_clamp (show i < 2 ^ 31 by omega), a1, a2, xl]
      rw [iI_long (show s32 (U i) from ⟨by omega, by omega⟩), iI_long (show s32 (V i) from ⟨by omega, by omega⟩)]
      have hO : okM (U i, V i, 1) := ⟨⟨by show (1 : Int) ≤ 1; omega, by show (1 : Int) ≤ 3200; omega⟩, by show -64000 ≤ U i ∧ U i ≤ 64000; omega, by show -64000 ≤ V i ∧ V i ≤ 64000; omega⟩
      obtain ⟨a', b', c', st', g1, g2, g3⟩ := hoff D st a b c (U i, V i, 1) hl hM hD hO
      rw [show off a b c (jJ (U i)) (jJ (V i)) 1 = _ from g1]
      simp only [b3, Option.bind_some]
      obtain ⟨a2', b2', c2', st2, k1, k2, k3⟩ := ih (i + 1) (fun W => D W ∨ W = (U i, V i, 1)) st' a' b' c' (by omega) (by omega) g2 g3 (by
        rintro W (hW | rfl)
        · exact hD W hW
        · exact Int.le_refl 1)
      refine ⟨a2', b2', c2', st2, k1, k2, mmin_congr k3 (fun Z => ⟨?_, ?_⟩)⟩
      · rintro ((hz | hz) | ⟨k, hk1, hk2, e⟩)
        · exact Or.inl hz
        · exact Or.inr ⟨i, Nat.le_refl i, him, hz⟩
        · exact Or.inr ⟨k, by omega, hk2, e⟩
      · rintro (hz | ⟨k, hk1, hk2, e⟩)
        · exact Or.inl (Or.inl hz)
        · by_cases z : k = i
          · subst z; exact Or.inl (Or.inr e)
          · exact Or.inr ⟨k, by omega, hk2, e⟩
def crJ (U V : Nat → Int) (m : Nat) (U2 V2 : Nat → Int) (m2 i j : Nat) : Prop := 0 < lE U V m U2 V2 m2 i j ∧ 0 ≤ aE U V m U2 V2 m2 i j ∧ aE U V m U2 V2 m2 i j ≤ lE U V m U2 V2 m2 i j
theorem XE_okM {U V : Nat → Int} {m : Nat} {U2 V2 : Nat → Int} {m2 i j : Nat} (h0 : 0 < m) (h02 : 0 < m2) (hU : okU U V m) (hU2 : okU U2 V2 m2) (hi : i < m) (hj : j < m2) (h : crJ U V m U2 V2 m2 i j) : okM (XE U V m U2 V2 m2 i j) := by
  obtain ⟨u1, u2⟩ := hU i hi
  obtain ⟨v1, v2⟩ := hU (cy m (i + 1)) (cy_lt h0)
  obtain ⟨w1, w2⟩ := hU2 j hj
  obtain ⟨z1, z2⟩ := hU2 (cy m2 (j + 1)) (cy_lt h02)
  exact Xp_okM u1 u2 v1 v2 w1 w2 z1 z2 h.1 h.2
theorem gCri_ok {off : OF} {A : T3 → Prop} (hoff : OFF off A) {gx gy gx2 gy2 : Nat → Int32} {U V U2 V2 : Nat → Int} {m m2 : Nat} (h : HA gx gy U V m) (h' : HA gx2 gy2 U2 V2 m2) {i : Nat} (him : i < m) : ∀ (fu j : Nat) (D : T3 → Prop) (st : Option T3) (a b c : Int64), j ≤ m2 → m2 - j < fu → lst3 st a b c → mmin A D st → (∀ W, D W → 1 ≤ W.2.2) → ∃ a' b' c' st', gCri off gx gy (nI m2) gx2 gy2 (nI i) fu (nI j) a b c = some (a', b', c') ∧ lst3 st' a' b' c' ∧ mmin A (fun W => D W ∨ ∃ k, j ≤ k ∧ k < m2 ∧ crJ U V m U2 V2 m2 i k ∧ W = XE U V m U2 V2 m2 i k) st' := by
  obtain ⟨hA, hU, h0, hm⟩ := h
  obtain ⟨hA2, hU2, h02, hm2⟩ := h'
  intro fu
  induction fu with
  | zero => intro j D st a b c h1 h2; omega
  | succ fu ih =>
    intro j D st a b c h1 h2 hl hM hD
    rw [gCri]
    by_cases ee : j = m2
    · subst ee
      rw [if_pos (nI_le (Nat.le_refl j) (by omega))]
      refine ⟨a, b, c, st, rfl, hl, mmin_congr hM (fun Z => ⟨Or.inl, ?_⟩)⟩
      rintro (hz | ⟨k, hk1, hk2, -⟩)
      · exact hz
      · omega
    · have hjm : j < m2 := by omega
      rw [if_neg (nI_ge hjm (by omega))]
      obtain ⟨a1, a2⟩ := hA i (by omega)
      obtain ⟨a3, a4⟩ := hA (i + 1) (by omega)
      rw [show cy m i = i from if_pos him] at a1 a2
      obtain ⟨b1', b2'⟩ := hA2 j (by omega)
      obtain ⟨b3', b4'⟩ := hA2 (j + 1) (by omega)
      rw [show cy m2 j = j from if_pos hjm] at b1' b2'
      obtain ⟨u1, u2⟩ := hU i him
      obtain ⟨v1, v2⟩ := hU (cy m (i + 1)) (cy_lt h0)
      obtain ⟨w1, w2⟩ := hU2 j hjm
      obtain ⟨z1, z2⟩ := hU2 (cy m2 (j + 1)) (cy_lt h02)
      have rg := cr_rng u1 u2 v1 v2 w1 w2 z1 z2
      simp only [nI_1, gd_t (inb_nI (show i < 48 by omega) (by decide)), gd_t (inb_nI (show i + 1 < 48 by omega) (by decide)), gd_t (inb_nI (show j < 48 by omega) (by decide)), gd_t (inb_nI (show j + 1 < 48 by omega) (by decide)), nI_clamp (show i < 2 ^ 31 by omega), nI_clamp (show i + 1 < 2 ^ 31 by omega), nI_clamp (show j < 2 ^ 31 by omega), nI_clamp (show j + 1 < 2 ^ 31 by omega), a1, a2, a3, a4, b1', b2', b3', b4', xl, jn, iI_sub]
      rw [iI_long (show s32 (U (cy m (i + 1)) - U i) from ⟨by omega, by omega⟩), iI_long (show s32 (V (cy m (i + 1)) - V i) from ⟨by omega, by omega⟩), iI_long (show s32 (U2 (cy m2 (j + 1)) - U2 j) from ⟨by omega, by omega⟩), iI_long (show s32 (V2 (cy m2 (j + 1)) - V2 j) from ⟨by omega, by omega⟩), iI_long (show s32 (U2 j - U i) from ⟨by omega, by omega⟩), iI_long (show s32 (V2 j - V i) from ⟨by omega, by omega⟩), iI_long (show s32 (U i) from ⟨by omega, by omega⟩), iI_long (show s32 (V i) from ⟨by omega, by omega⟩)]
      simp only [jJ_mul, jJ_sub, jJ_neg]
      rw [show (U (cy m (i + 1)) - U i) * (V2 (cy m2 (j + 1)) - V2 j) - (V (cy m (i + 1)) - V i) * (U2 (cy m2 (j + 1)) - U2 j) = lw (U i) (V i) (U (cy m (i + 1))) (V (cy m (i + 1))) (U2 j) (V2 j) (U2 (cy m2 (j + 1))) (V2 (cy m2 (j + 1))) from rfl, show (U2 j - U i) * (V2 (cy m2 (j + 1)) - V2 j) - (V2 j - V i) * (U2 (cy m2 (j + 1)) - U2 j) = al (U i) (V i) (U (cy m (i + 1))) (V (cy m (i + 1))) (U2 j) (V2 j) (U2 (cy m2 (j + 1))) (V2 (cy m2 (j + 1))) from rfl]
      have main : ∀ (l t : Int), l = lE U V m U2 V2 m2 i j → t = aE U V m U2 V2 m2 i j → -3200 ≤ l → l ≤ 3200 → -3200 ≤ t → t ≤ 3200 → ∃ a' b' c' st', (if jJ l ≤ 0 then gCri off gx gy (nI m2) gx2 gy2 (nI i) fu (nI (j + 1)) a b c else if jJ t < 0 then gCri off gx gy (nI m2) gx2 gy2 (nI i) fu (nI (j + 1)) a b c else if jJ l < jJ t then gCri off gx gy (nI m2) gx2 gy2 (nI i) fu (nI (j + 1)) a b c else b3 (off a b c (jJ (U i * l) + jJ (t * (U (cy m (i + 1)) - U i))) (jJ (V i * l) + jJ (t * (V (cy m (i + 1)) - V i))) (jJ l)) (fun a' b' c' => gCri off gx gy (nI m2) gx2 gy2 (nI i) fu (nI (j + 1)) a' b' c')) = some (a', b', c') ∧ lst3 st' a' b' c' ∧ mmin A (fun W => D W ∨ ∃ k, j ≤ k ∧ k < m2 ∧ crJ U V m U2 V2 m2 i k ∧ W = XE U V m U2 V2 m2 i k) st' := by
        intro l t el et r1 r2 r3 r4
        have n1 : (jJ l ≤ 0) ↔ l ≤ 0 := jJ_le (b := 0) ⟨by omega, by omega⟩ ⟨by omega, by omega⟩
        have n2 : (jJ t < 0) ↔ t < 0 := j_lt0 ⟨by omega, by omega⟩
        have n3 : (jJ l < jJ t) ↔ l < t := jJ_lt ⟨by omega, by omega⟩ ⟨by omega, by omega⟩
        simp only [n1, n2, n3]
        have skip : ¬ crJ U V m U2 V2 m2 i j → ∃ a' b' c' st', gCri off gx gy (nI m2) gx2 gy2 (nI i) fu (nI (j + 1)) a b c = some (a', b', c') ∧ lst3 st' a' b' c' ∧ mmin A (fun W => D W ∨ ∃ k, j ≤ k ∧ k < m2 ∧ crJ U V m U2 V2 m2 i k ∧ W = XE U V m U2 V2 m2 i k) st' := by
          intro hn
          obtain ⟨a', b', c', st', k1, k2, k3⟩ := ih (j + 1) D st a b c (by omega) (by omega) hl hM hD
          refine ⟨a', b', c', st', k1, k2, mmin_congr k3 (fun Z => ⟨?_, ?_⟩)⟩
          · rintro (hz | ⟨k, hk1, hk2, hk3, e⟩)
            · exact Or.inl hz
            · exact Or.inr ⟨k, by omega, hk2, hk3, e⟩
          · rintro (hz | ⟨k, hk1, hk2, hk3, e⟩)
            · exact Or.inl hz
            · by_cases z : k = j
              · subst z; exact absurd hk3 hn
              · exact Or.inr ⟨k, by omega, hk2, hk3, e⟩
        by_cases d1 : l ≤ 0
        · rw [if_pos d1]; exact skip (fun z => by have := z.1; omega)
        · rw [if_neg d1]
          by_cases d2 : t < 0
          · rw [if_pos d2]; exact skip (fun z => by have := z.2.1; omega)
          · rw [if_neg d2]
            by_cases d3 : l < t
            · rw [if_pos d3]; exact skip (fun z => by have := z.2.2; omega)
            · rw [if_neg d3]
              have hJ : crJ U V m U2 V2 m2 i j := ⟨by omega, by omega, by omega⟩
              have hO := XE_okM h0 h02 hU hU2 him hjm hJ
              obtain ⟨a', b', c', st', g1, g2, g3⟩ := hoff D st a b c (XE U V m U2 V2 m2 i j) hl hM hD hO
              have ex1 : (XE U V m U2 V2 m2 i j).1 = U i * l + t * (U (cy m (i + 1)) - U i) := by rw [el, et]; rfl
              have ex2 : (XE U V m U2 V2 m2 i j).2.1 = V i * l + t * (V (cy m (i + 1)) - V i) := by rw [el, et]; rfl
              have ex3 : (XE U V m U2 V2 m2 i j).2.2 = l := by rw [el]; rfl
              rw [ex1, ex2, ex3] at g1
              rw [jJ_add, jJ_add, g1]
              simp only [b3, Option.bind_some]
              obtain ⟨a2', b2', c2', st2, k1, k2, k3⟩ := ih (j + 1) (fun W => D W ∨ W = XE U V m U2 V2 m2 i j) st' a' b' c' (by omega) (by omega) g2 g3 (by
                rintro W (hW | rfl)
                · exact hD W hW
                · exact hO.1.1)
              refine ⟨a2', b2', c2', st2, k1, k2, mmin_congr k3 (fun Z => ⟨?_, ?_⟩)⟩
              · rintro ((hz | hz) | ⟨k, hk1, hk2, hk3, e⟩)
                · exact Or.inl hz
                · exact Or.inr ⟨j, Nat.le_refl j, hjm, hJ, hz⟩
                · exact Or.inr ⟨k, by omega, hk2, hk3, e⟩
              · rintro (hz | ⟨k, hk1, hk2, hk3, e⟩)
                · exact Or.inl (Or.inl hz)
                · by_cases z : k = j
                  · subst z; exact Or.inl (Or.inr e)
                  · exact Or.inr ⟨k, by omega, hk2, hk3, e⟩
      obtain ⟨rg1, rg2, rg3⟩ := rg
      have f1 : lE U V m U2 V2 m2 i j = sg (lw (U i) (V i) (U (cy m (i + 1))) (V (cy m (i + 1))) (U2 j) (V2 j) (U2 (cy m2 (j + 1))) (V2 (cy m2 (j + 1)))) (lw (U i) (V i) (U (cy m (i + 1))) (V (cy m (i + 1))) (U2 j) (V2 j) (U2 (cy m2 (j + 1))) (V2 (cy m2 (j + 1)))) := rfl
      have f2 : aE U V m U2 V2 m2 i j = sg (lw (U i) (V i) (U (cy m (i + 1))) (V (cy m (i + 1))) (U2 j) (V2 j) (U2 (cy m2 (j + 1))) (V2 (cy m2 (j + 1)))) (al (U i) (V i) (U (cy m (i + 1))) (V (cy m (i + 1))) (U2 j) (V2 j) (U2 (cy m2 (j + 1))) (V2 (cy m2 (j + 1)))) := rfl
      generalize lw (U i) (V i) (U (cy m (i + 1))) (V (cy m (i + 1))) (U2 j) (V2 j) (U2 (cy m2 (j + 1))) (V2 (cy m2 (j + 1))) = LW at *
      generalize al (U i) (V i) (U (cy m (i + 1))) (V (cy m (i + 1))) (U2 j) (V2 j) (U2 (cy m2 (j + 1))) (V2 (cy m2 (j + 1))) = AL at *
      unfold sg at f1 f2
      by_cases hs : LW < 0
      · rw [if_neg (show ¬ (0 : Int64) ≤ jJ LW from fun z => (j_ge0 ⟨by omega, by omega⟩).mp z hs)]
        rw [if_pos hs] at f1 f2
        exact main (-LW) (-AL) f1.symm f2.symm (by omega) (by omega) (by omega) (by omega)
      · rw [if_pos (show (0 : Int64) ≤ jJ LW from (j_ge0 ⟨by omega, by omega⟩).mpr hs)]
        rw [if_neg hs] at f1 f2
        exact main LW AL f1.symm f2.symm (by omega) (by omega) (by omega) (by omega)
theorem gCro_ok (K : Nat) (hK : 4000 ≤ K) {off : OF} {A : T3 → Prop} (hoff : OFF off A) {gx gy gx2 gy2 : Nat → Int32} {U V U2 V2 : Nat → Int} {m m2 : Nat} (h : HA gx gy U V m) (h' : HA gx2 gy2 U2 V2 m2) : ∀ (fu i : Nat) (D : T3 → Prop) (st : Option T3) (a b c : Int64), i ≤ m → m - i < fu → lst3 st a b c → mmin A D st → (∀ W, D W → 1 ≤ W.2.2) → ∃ a' b' c' st', gCro K off (nI m) gx gy (nI m2) gx2 gy2 fu (nI i) a b c = some (a', b', c') ∧ lst3 st' a' b' c' ∧ mmin A (fun W => D W ∨ ∃ k j, i ≤ k ∧ k < m ∧ j < m2 ∧ crJ U V m U2 V2 m2 k j ∧ W = XE U V m U2 V2 m2 k j) st' := by
  intro fu
  induction fu with
  | zero => intro i D st a b c h1 h2; omega
  | succ fu ih =>
    intro i D st a b c h1 h2 hl hM hD
    rw [gCro]
    have hm := h.2.2.2
    have hm2 := h'.2.2.2
    by_cases ee : i = m
    · subst ee
      rw [if_pos (nI_le (Nat.le_refl i) (by omega))]
      refine ⟨a, b, c, st, rfl, hl, mmin_congr hM (fun Z => ⟨Or.inl, ?_⟩)⟩
      rintro (hz | ⟨k, j, hk1, hk2, -⟩)
      · exact hz
      · omega
    · have him : i < m := by omega
      rw [if_neg (nI_ge him (by omega))]
      obtain ⟨a', b', c', st', g1, g2, g3⟩ := gCri_ok hoff h h' him K 0 D st a b c (Nat.zero_le _) (by omega) hl hM hD
      rw [show gCri off gx gy (nI m2) gx2 gy2 (nI i) K 0 a b c = _ from g1]
      simp only [b3, Option.bind_some, xl, nI_1]
      obtain ⟨a2', b2', c2', st2, k1, k2, k3⟩ := ih (i + 1) _ st' a' b' c' (by omega) (by omega) g2 g3 (by
        rintro W (hW | ⟨k, hk1, hk2, hk3, e⟩)
        · exact hD W hW
        · rw [e]; exact (XE_okM h.2.2.1 h'.2.2.1 h.2.1 h'.2.1 him hk2 hk3).1.1)
      refine ⟨a2', b2', c2', st2, k1, k2, mmin_congr k3 (fun Z => ⟨?_, ?_⟩)⟩
      · rintro ((hz | ⟨k, hk1, hk2, hk3, e⟩) | ⟨k, j, hk1, hk2, hk3, hk4, e⟩)
        · exact Or.inl hz
        · exact Or.inr ⟨i, k, Nat.le_refl i, him, hk2, hk3, e⟩
        · exact Or.inr ⟨k, j, by omega, hk2, hk3, hk4, e⟩
      · rintro (hz | ⟨k, j, hk1, hk2, hk3, hk4, e⟩)
        · exact Or.inl (Or.inl hz)
        · by_cases z : k = i
          · subst z; exact Or.inl (Or.inr ⟨j, Nat.zero_le j, hk3, hk4, e⟩)
          · exact Or.inr ⟨k, j, by omega, hk2, hk3, hk4, e⟩
