--@ needs 3u.mixev
/-! the nearest place of three points: the pure part -/
theorem near_lin {cx cy P Q L P2 Q2 L2 : Int} (h2 : 1 ≤ L2) (hd : 0 ≤ (P2 * L - P * L2) * (P - cx * L) + (Q2 * L - Q * L2) * (Q - cy * L)) : d2 cx cy P Q L * (L2 * L2) ≤ d2 cx cy P2 Q2 L2 * (L * L) ∧ (d2 cx cy P2 Q2 L2 * (L * L) ≤ d2 cx cy P Q L * (L2 * L2) → P2 * L = P * L2 ∧ Q2 * L = Q * L2) := by
  have id1 : d2 cx cy P2 Q2 L2 * (L * L) = d2 cx cy P Q L * (L2 * L2) + 2 * (L2 * ((P2 * L - P * L2) * (P - cx * L) + (Q2 * L - Q * L2) * (Q - cy * L))) + ((P2 * L - P * L2) * (P2 * L - P * L2) + (Q2 * L - Q * L2) * (Q2 * L - Q * L2)) := by
    unfold d2; grind
  have h3 := Int.mul_nonneg (show 0 ≤ L2 by omega) hd
  have s1 := sqn (P2 * L - P * L2)
  have s2 := sqn (Q2 * L - Q * L2)
  refine ⟨by omega, fun h => ?_⟩
  have := ssq0 (a := P2 * L - P * L2) (b := Q2 * L - Q * L2) (by omega)
  omega
/-- a half plane of corners is one of all that the hull has -/
theorem HP_in {U V : Nat → Int} {m : Nat} (hG : PG U V m) {cx cy P Q L : Int} (h : HP U V m cx cy P Q L) {P2 Q2 L2 : Int} (hL2 : 1 ≤ L2) (hin : inH U V m P2 Q2 L2) : 0 ≤ (P2 * L - P * L2) * (P - cx * L) + (Q2 * L - Q * L2) * (Q - cy * L) := by
  have := lin_min hG hL2 hin (α := L * (P - cx * L)) (β := L * (Q - cy * L)) (μ := P * (P - cx * L) + Q * (Q - cy * L)) (fun i hi => by
    have := h i hi
    unfold hpt at this
    grind)
  grind
abbrev nP3 (X Y : Nat → Int) (cx cy : Int) (a b : Nat) : T3 := nS (X a) (Y a) (X b) (Y b) cx cy
def zA (X Y : Nat → Int) (cx cy : Int) (t : N3) : T3 := nP3 X Y cx cy t.1 t.2.1
def zB (X Y : Nat → Int) (cx cy : Int) (t : N3) : T3 := pik cx cy (zA X Y cx cy t) (nP3 X Y cx cy t.1 t.2.2)
def zC (X Y : Nat → Int) (cx cy : Int) (t : N3) : T3 := pik cx cy (zB X Y cx cy t) (nP3 X Y cx cy t.2.1 t.2.2)
def zz (X Y : Nat → Int) (cx cy : Int) (t : N3) : T3 := if hold3 X Y cx cy t = true then (cx, cy, 1) else zC X Y cx cy t
/-- which side it is on -/
def sd3 (X Y : Nat → Int) (cx cy : Int) (t : N3) : Nat := if tak cx cy (zB X Y cx cy t) (nP3 X Y cx cy t.2.1 t.2.2) then 2 else if tak cx cy (zA X Y cx cy t) (nP3 X Y cx cy t.1 t.2.2) then 1 else 0
def le3 (cx cy : Int) (Z W : T3) : Prop := D3 cx cy Z * (W.2.2 * W.2.2) ≤ D3 cx cy W * (Z.2.2 * Z.2.2)
theorem le3_tr {cx cy : Int} {A B C : T3} (ha : 1 ≤ A.2.2) (hb : 1 ≤ B.2.2) (hc : 1 ≤ C.2.2) (h1 : le3 cx cy A B) (h2 : le3 cx cy B C) : le3 cx cy A C := by
  have a0 := Int.mul_pos (show 0 < A.2.2 by omega) (show 0 < A.2.2 by omega)
  have b0 := Int.mul_pos (show 0 < B.2.2 by omega) (show 0 < B.2.2 by omega)
  have c0 := Int.mul_pos (show 0 < C.2.2 by omega) (show 0 < C.2.2 by omega)
  exact rat_le b0 (by omega) (by omega) h1 h2
theorem le3_rf (cx cy : Int) (A : T3) : le3 cx cy A A := Int.le_refl _
theorem pik_le {cx cy : Int} {A B : T3} : le3 cx cy (pik cx cy A B) A ∧ le3 cx cy (pik cx cy A B) B := by
  unfold pik
  by_cases c : tak cx cy A B
  · rw [if_pos c]
    exact ⟨by unfold le3; unfold tak at c; omega, le3_rf _ _ _⟩
  · rw [if_neg c]
    exact ⟨le3_rf _ _ _, by unfold le3; unfold tak at c; omega⟩
theorem nP3_L (X Y : Nat → Int) (cx cy : Int) (a b : Nat) : 1 ≤ (nP3 X Y cx cy a b).2.2 := (nS_ok _ _ _ _ _ _).1
theorem pik_L {cx cy : Int} {A B : T3} (ha : 1 ≤ A.2.2) (hb : 1 ≤ B.2.2) : 1 ≤ (pik cx cy A B).2.2 := by unfold pik; split <;> assumption
theorem z_L (X Y : Nat → Int) (cx cy : Int) (t : N3) : 1 ≤ (zA X Y cx cy t).2.2 ∧ 1 ≤ (zB X Y cx cy t).2.2 ∧ 1 ≤ (zC X Y cx cy t).2.2 := by
  have a := nP3_L X Y cx cy t.1 t.2.1
  have b := pik_L (cx := cx) (cy := cy) a (nP3_L X Y cx cy t.1 t.2.2)
  exact ⟨a, b, pik_L b (nP3_L X Y cx cy t.2.1 t.2.2)⟩
/-- nearer than each side's -/
theorem zC_le (X Y : Nat → Int) (cx cy : Int) (t : N3) : le3 cx cy (zC X Y cx cy t) (nP3 X Y cx cy t.1 t.2.1) ∧ le3 cx cy (zC X Y cx cy t) (nP3 X Y cx cy t.1 t.2.2) ∧ le3 cx cy (zC X Y cx cy t) (nP3 X Y cx cy t.2.1 t.2.2) := by
  obtain ⟨l1, l2, l3⟩ := z_L X Y cx cy t
  have k1 := pik_le (cx := cx) (cy := cy) (A := zB X Y cx cy t) (B := nP3 X Y cx cy t.2.1 t.2.2)
  have k2 := pik_le (cx := cx) (cy := cy) (A := zA X Y cx cy t) (B := nP3 X Y cx cy t.1 t.2.2)
  exact ⟨le3_tr l3 l2 (nP3_L _ _ _ _ _ _) k1.1 k2.1, le3_tr l3 l2 (nP3_L _ _ _ _ _ _) k1.1 k2.2, k1.2⟩
/-- it is the place of its side; of an earlier side it is not -/
theorem zC_side (X Y : Nat → Int) (cx cy : Int) (t : N3) : (sd3 X Y cx cy t = 0 ∧ zC X Y cx cy t = nP3 X Y cx cy t.1 t.2.1) ∨ (sd3 X Y cx cy t = 1 ∧ zC X Y cx cy t = nP3 X Y cx cy t.1 t.2.2 ∧ ¬ le3 cx cy (nP3 X Y cx cy t.1 t.2.1) (zC X Y cx cy t)) ∨ (sd3 X Y cx cy t = 2 ∧ zC X Y cx cy t = nP3 X Y cx cy t.2.1 t.2.2 ∧ ¬ le3 cx cy (nP3 X Y cx cy t.1 t.2.1) (zC X Y cx cy t) ∧ ¬ le3 cx cy (nP3 X Y cx cy t.1 t.2.2) (zC X Y cx cy t)) := by
  obtain ⟨l1, l2, l3⟩ := z_L X Y cx cy t
  have k2 := pik_le (cx := cx) (cy := cy) (A := zA X Y cx cy t) (B := nP3 X Y cx cy t.1 t.2.2)
  by_cases c2 : tak cx cy (zB X Y cx cy t) (nP3 X Y cx cy t.2.1 t.2.2)
  · have e : zC X Y cx cy t = nP3 X Y cx cy t.2.1 t.2.2 := if_pos c2
    refine Or.inr (Or.inr ⟨if_pos c2, e, ?_, ?_⟩)
    · intro s
      rw [e] at s
      have := le3_tr l2 (nP3_L _ _ _ _ _ _) (nP3_L _ _ _ _ _ _) k2.1 s
      unfold le3 at this; unfold tak at c2; omega
    · intro s
      rw [e] at s
      have := le3_tr l2 (nP3_L _ _ _ _ _ _) (nP3_L _ _ _ _ _ _) k2.2 s
      unfold le3 at this; unfold tak at c2; omega
  · have e : zC X Y cx cy t = zB X Y cx cy t := if_neg c2
    by_cases c1 : tak cx cy (zA X Y cx cy t) (nP3 X Y cx cy t.1 t.2.2)
    · have e' : zB X Y cx cy t = nP3 X Y cx cy t.1 t.2.2 := if_pos c1
      refine Or.inr (Or.inl ⟨by unfold sd3; rw [if_neg c2, if_pos c1], by rw [e, e'], ?_⟩)
      rw [e, e']
      intro s
      unfold le3 at s; unfold tak at c1
      have : zA X Y cx cy t = nP3 X Y cx cy t.1 t.2.1 := rfl
      rw [this] at c1
      omega
    · have e' : zB X Y cx cy t = zA X Y cx cy t := if_neg c1
      exact Or.inl ⟨by unfold sd3; rw [if_neg c2, if_neg c1], by rw [e, e']; rfl⟩
/-- one of three -/
def inT (t : N3) (j : Nat) : Prop := j = t.1 ∨ j = t.2.1 ∨ j = t.2.2
theorem seg_of (X Y : Nat → Int) (cx cy : Int) (t : N3) {j k : Nat} (hj : inT t j) (hk : inT t k) : ∃ Z : T3, (Z = nP3 X Y cx cy t.1 t.2.1 ∨ Z = nP3 X Y cx cy t.1 t.2.2 ∨ Z = nP3 X Y cx cy t.2.1 t.2.2) ∧ hpt (X j) (Y j) cx cy Z.1 Z.2.1 Z.2.2 ∧ hpt (X k) (Y k) cx cy Z.1 Z.2.1 Z.2.2 := by
  have a := nS_ok (X t.1) (Y t.1) (X t.2.1) (Y t.2.1) cx cy
  have b := nS_ok (X t.1) (Y t.1) (X t.2.2) (Y t.2.2) cx cy
  have c := nS_ok (X t.2.1) (Y t.2.1) (X t.2.2) (Y t.2.2) cx cy
  rcases hj with rfl | rfl | rfl <;> rcases hk with rfl | rfl | rfl
  · exact ⟨_, Or.inl rfl, a.2.2.1, a.2.2.1⟩
  · exact ⟨_, Or.inl rfl, a.2.2.1, a.2.2.2⟩
  · exact ⟨_, Or.inr (Or.inl rfl), b.2.2.1, b.2.2.2⟩
  · exact ⟨_, Or.inl rfl, a.2.2.2, a.2.2.1⟩
  · exact ⟨_, Or.inl rfl, a.2.2.2, a.2.2.2⟩
  · exact ⟨_, Or.inr (Or.inr rfl), c.2.2.1, c.2.2.2⟩
  · exact ⟨_, Or.inr (Or.inl rfl), b.2.2.2, b.2.2.1⟩
  · exact ⟨_, Or.inr (Or.inr rfl), c.2.2.2, c.2.2.1⟩
  · exact ⟨_, Or.inr (Or.inl rfl), b.2.2.2, b.2.2.2⟩
theorem zC_cv (X Y : Nat → Int) (cx cy : Int) (t : N3) : ∃ j k, inT t j ∧ inT t k ∧ cvx2 (X j) (Y j) (X k) (Y k) (zC X Y cx cy t).1 (zC X Y cx cy t).2.1 (zC X Y cx cy t).2.2 := by
  rcases zC_side X Y cx cy t with ⟨-, e⟩ | ⟨-, e, -⟩ | ⟨-, e, -⟩
  · exact ⟨t.1, t.2.1, Or.inl rfl, Or.inr (Or.inl rfl), by rw [e]; exact (nS_ok _ _ _ _ _ _).2.1⟩
  · exact ⟨t.1, t.2.2, Or.inl rfl, Or.inr (Or.inr rfl), by rw [e]; exact (nS_ok _ _ _ _ _ _).2.1⟩
  · exact ⟨t.2.1, t.2.2, Or.inr (Or.inl rfl), Or.inr (Or.inr rfl), by rw [e]; exact (nS_ok _ _ _ _ _ _).2.1⟩
def smF (Z W : T3) : Prop := W.1 * Z.2.2 = Z.1 * W.2.2 ∧ W.2.1 * Z.2.2 = Z.2.1 * W.2.2
abbrev S3t (n : Nat) (t : N3) : Int32 := bP (t3 t.1 t.2.1 t.2.2) n
def tIn (n : Nat) (t : N3) : Prop := t.1 < n ∧ t.2.1 < n ∧ t.2.2 < n
theorem S3_st {n : Nat} (hn : n ≤ 24) {t : N3} (ht : tIn n t) : isSt n (S3t n t) := isSt_of_bP hn ht.1 (decide_eq_true (Or.inl rfl))
theorem S3_bit {n : Nat} (hn : n ≤ 24) {t : N3} {j : Nat} (hj : j < n) : bitS (S3t n t) j ↔ inT t j := by
  rw [bP_bitS _ hn hj]
  exact decide_eq_true_iff
theorem inT_lt {n : Nat} {t : N3} (ht : tIn n t) {j : Nat} (hj : inT t j) : j < n := by
  rcases hj with rfl | rfl | rfl
  · exact ht.1
  · exact ht.2.1
  · exact ht.2.2
/-- what the model finds of the hull is the same place; and all three points lie behind its line -/
theorem zz_same {n : Nat} {x y : Nat → Int32} {X Y : Nat → Int} (hP : Pts n x y X Y) {t : N3} (ht : tIn n t) {cx cy : Int} {W : T3} (hW : isNr (hX X Y (S3t n t) n) (hY X Y (S3t n t) n) (hN X Y (S3t n t) n) cx cy W.1 W.2.1 W.2.2) : smF (zz X Y cx cy t) W ∧ (hold3 X Y cx cy t = true ∨ ∀ j, inT t j → hpt (X j) (Y j) cx cy W.1 W.2.1 W.2.2) := by
  have hn := hP.1
  have st := S3_st hn ht
  obtain ⟨hG, hin, hcor, -⟩ := hull_pg hP st
  have hh := three_holds hP ht.1 ht.2.1 ht.2.2 cx cy
  by_cases w : hold3 X Y cx cy t = true
  · have ez : zz X Y cx cy t = (cx, cy, 1) := if_pos w
    rw [ez]
    refine ⟨?_, Or.inl w⟩
    rcases hW.2 with ⟨-, e1, e2, e3⟩ | ⟨hno, -⟩
    · unfold smF
      rw [e1, e2, e3]
      exact ⟨rfl, rfl⟩
    · exact absurd (hh.mpr w) hno
  · have ez : zz X Y cx cy t = zC X Y cx cy t := if_neg w
    rw [ez]
    rcases hW.2 with ⟨hyes, -⟩ | ⟨-, hHP, a, b, ha, hb, hcv⟩
    · exact absurd (hh.mp hyes) w
    · have hL := hW.1.1.1
      have hall : ∀ j, inT t j → hpt (X j) (Y j) cx cy W.1 W.2.1 W.2.2 := by
        intro j hj
        have jl := inT_lt ht hj
        have := HP_in hG hHP (show (1 : Int) ≤ 1 by omega) (hin j jl ((S3_bit hn jl).mpr hj))
        unfold hpt
        rw [Int.mul_one, Int.mul_one] at this
        exact this
      obtain ⟨j, jl, jb, ea1, ea2⟩ := hcor a ha
      obtain ⟨k, kl, kb, eb1, eb2⟩ := hcor b hb
      rw [ea1, ea2, eb1, eb2] at hcv
      obtain ⟨Z, hZ, h1, h2⟩ := seg_of X Y cx cy t ((S3_bit hn jl).mp jb) ((S3_bit hn kl).mp kb)
      obtain ⟨l1, l2, l3⟩ := z_L X Y cx cy t
      obtain ⟨q1, q2, q3⟩ := zC_le X Y cx cy t
      have hZL : 1 ≤ Z.2.2 := by rcases hZ with rfl | rfl | rfl <;> exact nP3_L _ _ _ _ _ _
      have k1 : le3 cx cy Z W := (near_uniq h1 h2 hcv hL).1
      have k2 : le3 cx cy (zC X Y cx cy t) Z := by rcases hZ with rfl | rfl | rfl <;> assumption
      have k3 := le3_tr l3 hZL hL k2 k1
      obtain ⟨j2, k2', hj2, hk2, hcv2⟩ := zC_cv X Y cx cy t
      have := (near_uniq (hall j2 hj2) (hall k2' hk2) hcv2 l3).2 k3
      refine ⟨⟨?_, ?_⟩, Or.inr hall⟩
      · have := this.1; omega
      · have := this.2; omega
theorem zz_L (X Y : Nat → Int) (cx cy : Int) (t : N3) : 1 ≤ (zz X Y cx cy t).2.2 := by
  unfold zz
  split
  · exact Int.le_refl _
  · exact (z_L X Y cx cy t).2.2
theorem zz_ok {n : Nat} {x y : Nat → Int32} {X Y : Nat → Int} (hP : Pts n x y X Y) {t : N3} (ht : tIn n t) {cx cy : Int} (hcx : -20 ≤ cx ∧ cx ≤ 20) (hcy : -20 ≤ cy ∧ cy ≤ 20) : O3 cx cy (zA X Y cx cy t) ∧ O3 cx cy (zB X Y cx cy t) ∧ O3 cx cy (zC X Y cx cy t) ∧ O3 cx cy (zz X Y cx cy t) := by
  have a := (hP.2 t.1 ht.1).2.2
  have b := (hP.2 t.2.1 ht.2.1).2.2
  have c := (hP.2 t.2.2 ht.2.2).2.2
  have o1 : O3 cx cy (nP3 X Y cx cy t.1 t.2.1) := nS_okZ a.1 a.2 b.1 b.2 hcx hcy
  have o2 : O3 cx cy (nP3 X Y cx cy t.1 t.2.2) := nS_okZ a.1 a.2 c.1 c.2 hcx hcy
  have o3 : O3 cx cy (nP3 X Y cx cy t.2.1 t.2.2) := nS_okZ b.1 b.2 c.1 c.2 hcx hcy
  have pk : ∀ {A B : T3}, O3 cx cy A → O3 cx cy B → O3 cx cy (pik cx cy A B) := by
    intro A B h1 h2
    unfold pik
    split <;> assumption
  have oB := pk o1 o2
  have oC := pk oB o3
  refine ⟨o1, oB, oC, ?_⟩
  unfold zz
  split
  · exact okZ_c hcx hcy
  · exact oC
/-- of places that are one the lowest terms are one -/
theorem smF_red {cx cy : Int} {Z W : T3} (hZ : O3 cx cy Z) (hW : O3 cx cy W) (h : smF Z W) : Z.1 / G3 Z = W.1 / G3 W ∧ Z.2.1 / G3 Z = W.2.1 / G3 W ∧ Z.2.2 / G3 Z = W.2.2 / G3 W ∧ D3 cx cy Z / G2 cx cy Z = D3 cx cy W / G2 cx cy W ∧ Z.2.2 * Z.2.2 / G2 cx cy Z = W.2.2 * W.2.2 / G2 cx cy W := by
  obtain ⟨P, Q, L⟩ := Z
  obtain ⟨P2, Q2, L2⟩ := W
  obtain ⟨e1, e2⟩ := h
  dsimp only at e1 e2
  have hZ' : okZ cx cy P Q L := hZ
  have hW' : okZ cx cy P2 Q2 L2 := hW
  have l1 := hZ'.1.1
  have l2 := hW'.1.1
  obtain ⟨r1, r2, r3⟩ := red_eq (show 0 < L by omega) (show 0 < L2 by omega) e1 e2
  have s1 := (okZ_sq hZ').2.1
  have s2 := (okZ_sq hW').2.1
  have hd : d2 cx cy P2 Q2 L2 * (L * L) = d2 cx cy P Q L * (L2 * L2) := by
    unfold d2
    have k1 : ((P2 - cx * L2) * (P2 - cx * L2) + (Q2 - cy * L2) * (Q2 - cy * L2)) * (L * L) = (P2 * L - cx * L2 * L) * (P2 * L - cx * L2 * L) + (Q2 * L - cy * L2 * L) * (Q2 * L - cy * L2 * L) := by grind
    rw [k1, e1, e2]; grind
  obtain ⟨q1, q2⟩ := red2_eq (show 0 < L * L by omega) (show 0 < L2 * L2 by omega) hd
  exact ⟨r1, r2, r3, q1, q2⟩
