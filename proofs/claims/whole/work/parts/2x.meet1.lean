--@ needs 2a.num 2b.ev1 2d.gcd 2e.row 2f.row2 2g.bits 2h.hull 2i.hull2 2j.hull3 2k.hull4 2l.side 2m.side2 2n.hulls 2o.chain 2p.poly 2q.pg 2r.near 2s.red 2t.near2 2u.near3
/-! the least place that hulls have in common -/
abbrev T3 : Type := Int × Int × Int
def ltp (Z W : T3) : Prop := Z.1 * W.2.2 < W.1 * Z.2.2 ∨ (Z.1 * W.2.2 = W.1 * Z.2.2 ∧ Z.2.1 * W.2.2 < W.2.1 * Z.2.2)
theorem ltp_trans {A B C : T3} (ha : 1 ≤ A.2.2) (hb : 1 ≤ B.2.2) (hc : 1 ≤ C.2.2) (h1 : ltp A B) (h2 : ltp B C) : ltp A C := by
  have pa : 0 < A.2.2 := by omega
  have pb : 0 < B.2.2 := by omega
  have pc : 0 < C.2.2 := by omega
  have key : ∀ a b c : Int, B.2.2 * (a * C.2.2 - c * A.2.2) = (a * B.2.2 - b * A.2.2) * C.2.2 + (b * C.2.2 - c * B.2.2) * A.2.2 := by intro a b c; grind
  have k1 := key A.1 B.1 C.1
  have k2 := key A.2.1 B.2.1 C.2.1
  have neg : ∀ z : Int, B.2.2 * z < 0 → z < 0 := fun z h => div_lt pb h
  have zer : ∀ z : Int, B.2.2 * z = 0 → z = 0 := fun z h => div_eq0 pb h
  unfold ltp at *
  rcases h1 with h1 | ⟨h1, h1'⟩
  · left
    have e1 : (A.1 * B.2.2 - B.1 * A.2.2) * C.2.2 < 0 := mnp' (by omega) pc
    have e2 : (B.1 * C.2.2 - C.1 * B.2.2) * A.2.2 ≤ 0 := mnp (by omega) (by omega)
    have := neg _ (by rw [k1]; omega)
    omega
  · rcases h2 with h2 | ⟨h2, h2'⟩
    · left
      have e1 : (A.1 * B.2.2 - B.1 * A.2.2) * C.2.2 ≤ 0 := mnp (by omega) (by omega)
      have e2 : (B.1 * C.2.2 - C.1 * B.2.2) * A.2.2 < 0 := mnp' (by omega) pa
      have := neg _ (by rw [k1]; omega)
      omega
    · right
      constructor
      · have e1 : (A.1 * B.2.2 - B.1 * A.2.2) * C.2.2 = 0 := by rw [show A.1 * B.2.2 - B.1 * A.2.2 = 0 by omega, Int.zero_mul]
        have e2 : (B.1 * C.2.2 - C.1 * B.2.2) * A.2.2 = 0 := by rw [show B.1 * C.2.2 - C.1 * B.2.2 = 0 by omega, Int.zero_mul]
        have := zer _ (by rw [k1]; omega)
        omega
      · have e1 : (A.2.1 * B.2.2 - B.2.1 * A.2.2) * C.2.2 < 0 := mnp' (by omega) pc
        have e2 : (B.2.1 * C.2.2 - C.2.1 * B.2.2) * A.2.2 < 0 := mnp' (by omega) pa
        have := neg _ (by rw [k2]; omega)
        omega
theorem ltp_tri (Z W : T3) : ltp Z W ∨ ltp W Z ∨ (Z.1 * W.2.2 = W.1 * Z.2.2 ∧ Z.2.1 * W.2.2 = W.2.1 * Z.2.2) := by
  unfold ltp
  omega
def okM (Z : T3) : Prop := (1 ≤ Z.2.2 ∧ Z.2.2 ≤ 3200) ∧ (-64000 ≤ Z.1 ∧ Z.1 ≤ 64000) ∧ -64000 ≤ Z.2.1 ∧ Z.2.1 ≤ 64000
theorem okM_P {Z : T3} (h : okM Z) : okP Z.1 Z.2.1 Z.2.2 := by
  obtain ⟨h1, h2, h3⟩ := h
  exact ⟨by omega, by omega, by omega, by omega⟩
/-- the state: the least one of those that were offered and lie in all -/
def mmin (A D : T3 → Prop) (st : Option T3) : Prop := match st with
  | none => ∀ Z, D Z → ¬ A Z
  | some W => okM W ∧ D W ∧ A W ∧ ∀ Z, D Z → A Z → ¬ ltp Z W
theorem mmin_congr {A D D' : T3 → Prop} {st : Option T3} (h : mmin A D st) (hD : ∀ Z, D Z ↔ D' Z) : mmin A D' st := by
  have : D = D' := funext fun Z => propext (hD Z)
  rw [← this]; exact h
theorem mmin_keep {A D : T3 → Prop} {st : Option T3} {Z : T3} (h : mmin A D st) (hk : ¬ A Z ∨ ∃ W, st = some W ∧ ¬ ltp Z W) : mmin A (fun W => D W ∨ W = Z) st := by
  cases st with
  | none =>
    rintro W (hW | rfl)
    · exact h W hW
    · rcases hk with hk | ⟨_, hk, -⟩
      · exact hk
      · cases hk
  | some W =>
    obtain ⟨h1, h2, h3, h4⟩ := h
    refine ⟨h1, Or.inl h2, h3, ?_⟩
    rintro V (hV | rfl) hA
    · exact h4 V hV hA
    · rcases hk with hk | ⟨_, hk, hk2⟩
      · exact absurd hA hk
      · cases hk; exact hk2
theorem mmin_take {A D : T3 → Prop} {st : Option T3} {Z : T3} (h : mmin A D st) (hD : ∀ W, D W → 1 ≤ W.2.2) (hO : okM Z) (hA : A Z) (hk : ∀ W, st = some W → ltp Z W) : mmin A (fun W => D W ∨ W = Z) (some Z) := by
  refine ⟨hO, Or.inr rfl, hA, ?_⟩
  have irr : ¬ ltp Z Z := by unfold ltp; omega
  rintro V (hV | rfl) hAV
  · cases st with
    | none => exact absurd hAV (h V hV)
    | some W =>
      obtain ⟨h1, h2, h3, h4⟩ := h
      intro hlt
      exact h4 V hV hAV (ltp_trans (hD V hV) hO.1.1 h1.1.1 hlt (hk W rfl))
  · exact irr
/-- two such states, whose offers in all are the same places -/
theorem mmin_same {A D E : T3 → Prop} {s t : Option T3} (hs : mmin A D s) (ht : mmin A E t) (h1 : ∀ Z, D Z → A Z → E Z) (h2 : ∀ Z, E Z → A Z → D Z) : (s = none ∧ t = none) ∨ ∃ Z W, s = some Z ∧ t = some W ∧ okM Z ∧ okM W ∧ W.1 * Z.2.2 = Z.1 * W.2.2 ∧ W.2.1 * Z.2.2 = Z.2.1 * W.2.2 := by
  cases s with
  | none =>
    cases t with
    | none => exact Or.inl ⟨rfl, rfl⟩
    | some W => exact absurd ht.2.2.1 (hs W (h2 W ht.2.1 ht.2.2.1))
  | some Z =>
    cases t with
    | none => exact absurd hs.2.2.1 (ht Z (h1 Z hs.2.1 hs.2.2.1))
    | some W =>
      right
      refine ⟨Z, W, rfl, rfl, hs.1, ht.1, ?_⟩
      have k1 := hs.2.2.2 W (h2 W ht.2.1 ht.2.2.1) ht.2.2.1
      have k2 := ht.2.2.2 Z (h1 Z hs.2.1 hs.2.2.1) hs.2.2.1
      rcases ltp_tri W Z with h | h | h
      · exact absurd h k1
      · exact absurd h k2
      · exact h
/-! crossings -/
def lw (ax ay bx b_y cx cy dx dy : Int) : Int := (bx - ax) * (dy - cy) - (b_y - ay) * (dx - cx)
def al (ax ay bx b_y cx cy dx dy : Int) : Int := (cx - ax) * (dy - cy) - (cy - ay) * (dx - cx)
def ss (ax ay bx b_y cx cy dx dy : Int) : Int := (cx - ax) * (b_y - ay) - (cy - ay) * (bx - ax)
def sg (l z : Int) : Int := if l < 0 then -z else z
def nl (ax ay bx b_y cx cy dx dy : Int) : Int := sg (lw ax ay bx b_y cx cy dx dy) (lw ax ay bx b_y cx cy dx dy)
def na (ax ay bx b_y cx cy dx dy : Int) : Int := sg (lw ax ay bx b_y cx cy dx dy) (al ax ay bx b_y cx cy dx dy)
def ns (ax ay bx b_y cx cy dx dy : Int) : Int := sg (lw ax ay bx b_y cx cy dx dy) (ss ax ay bx b_y cx cy dx dy)
def Xp (ax ay bx b_y cx cy dx dy : Int) : T3 := (ax * nl ax ay bx b_y cx cy dx dy + na ax ay bx b_y cx cy dx dy * (bx - ax), ay * nl ax ay bx b_y cx cy dx dy + na ax ay bx b_y cx cy dx dy * (b_y - ay), nl ax ay bx b_y cx cy dx dy)
theorem sg_mul (l z k : Int) : sg l z * k = sg l (z * k) := by unfold sg; split <;> grind
theorem sg_pos {l : Int} : 0 ≤ sg l l ∧ (sg l l = 0 ↔ l = 0) := by unfold sg; split <;> omega
/-- by the other edge -/
theorem Xp_c (ax ay bx b_y cx cy dx dy : Int) : (Xp ax ay bx b_y cx cy dx dy).1 = cx * nl ax ay bx b_y cx cy dx dy + ns ax ay bx b_y cx cy dx dy * (dx - cx) ∧ (Xp ax ay bx b_y cx cy dx dy).2.1 = cy * nl ax ay bx b_y cx cy dx dy + ns ax ay bx b_y cx cy dx dy * (dy - cy) := by
  unfold Xp nl na ns sg lw al ss
  dsimp only
  constructor
  · split <;> grind
  · split <;> grind
theorem rev2 (ax ay bx b_y cx cy dx dy : Int) (h : lw ax ay bx b_y cx cy dx dy ≠ 0) : nl ax ay bx b_y dx dy cx cy = nl ax ay bx b_y cx cy dx dy ∧ na ax ay bx b_y dx dy cx cy = na ax ay bx b_y cx cy dx dy := by
  have e1 : lw ax ay bx b_y dx dy cx cy = - lw ax ay bx b_y cx cy dx dy := by unfold lw; grind
  have e2 : al ax ay bx b_y dx dy cx cy = - al ax ay bx b_y cx cy dx dy := by unfold al; grind
  unfold nl na sg
  rw [e1, e2]
  by_cases c : lw ax ay bx b_y cx cy dx dy < 0
  · rw [if_pos c, if_neg (by omega), if_pos c, if_neg (by omega)]; exact ⟨rfl, rfl⟩
  · rw [if_neg c, if_pos (by omega), if_neg c, if_pos (by omega)]; omega
theorem rev1 (ax ay bx b_y cx cy dx dy : Int) (h : lw ax ay bx b_y cx cy dx dy ≠ 0) : nl bx b_y ax ay cx cy dx dy = nl ax ay bx b_y cx cy dx dy ∧ na bx b_y ax ay cx cy dx dy = nl ax ay bx b_y cx cy dx dy - na ax ay bx b_y cx cy dx dy := by
  have e1 : lw bx b_y ax ay cx cy dx dy = - lw ax ay bx b_y cx cy dx dy := by unfold lw; grind
  have e2 : al bx b_y ax ay cx cy dx dy = al ax ay bx b_y cx cy dx dy - lw ax ay bx b_y cx cy dx dy := by unfold al lw; grind
  unfold nl na sg
  rw [e1, e2]
  by_cases c : lw ax ay bx b_y cx cy dx dy < 0
  · rw [if_pos c, if_neg (by omega), if_pos c, if_neg (by omega)]; omega
  · rw [if_neg c, if_pos (by omega), if_neg c, if_pos (by omega)]; omega
theorem Xp_rev2 {ax ay bx b_y cx cy dx dy : Int} (h : lw ax ay bx b_y cx cy dx dy ≠ 0) : Xp ax ay bx b_y dx dy cx cy = Xp ax ay bx b_y cx cy dx dy := by
  obtain ⟨e1, e2⟩ := rev2 ax ay bx b_y cx cy dx dy h
  unfold Xp
  rw [e1, e2]
theorem Xp_rev1 {ax ay bx b_y cx cy dx dy : Int} (h : lw ax ay bx b_y cx cy dx dy ≠ 0) : Xp bx b_y ax ay cx cy dx dy = Xp ax ay bx b_y cx cy dx dy := by
  obtain ⟨e1, e2⟩ := rev1 ax ay bx b_y cx cy dx dy h
  unfold Xp
  rw [e1, e2]
  generalize nl ax ay bx b_y cx cy dx dy = l
  generalize na ax ay bx b_y cx cy dx dy = a
  have f1 : bx * l + (l - a) * (ax - bx) = ax * l + a * (bx - ax) := by grind
  have f2 : b_y * l + (l - a) * (ay - b_y) = ay * l + a * (b_y - ay) := by grind
  rw [f1, f2]
theorem cr_rng {ax ay bx b_y cx cy dx dy : Int} (h1 : -20 ≤ ax ∧ ax ≤ 20) (h2 : -20 ≤ ay ∧ ay ≤ 20) (h3 : -20 ≤ bx ∧ bx ≤ 20) (h4 : -20 ≤ b_y ∧ b_y ≤ 20) (h5 : -20 ≤ cx ∧ cx ≤ 20) (h6 : -20 ≤ cy ∧ cy ≤ 20) (h7 : -20 ≤ dx ∧ dx ≤ 20) (h8 : -20 ≤ dy ∧ dy ≤ 20) : (-3200 ≤ lw ax ay bx b_y cx cy dx dy ∧ lw ax ay bx b_y cx cy dx dy ≤ 3200) ∧ (-3200 ≤ al ax ay bx b_y cx cy dx dy ∧ al ax ay bx b_y cx cy dx dy ≤ 3200) ∧ -3200 ≤ ss ax ay bx b_y cx cy dx dy ∧ ss ax ay bx b_y cx cy dx dy ≤ 3200 := by
  have k1 := mulB (u := bx - ax) (v := dy - cy) (a := 40) (b := 40) (by omega) (by omega)
  have k2 := mulB (u := b_y - ay) (v := dx - cx) (a := 40) (b := 40) (by omega) (by omega)
  have k3 := mulB (u := cx - ax) (v := dy - cy) (a := 40) (b := 40) (by omega) (by omega)
  have k4 := mulB (u := cy - ay) (v := dx - cx) (a := 40) (b := 40) (by omega) (by omega)
  have k5 := mulB (u := cx - ax) (v := b_y - ay) (a := 40) (b := 40) (by omega) (by omega)
  have k6 := mulB (u := cy - ay) (v := bx - ax) (a := 40) (b := 40) (by omega) (by omega)
  unfold lw al ss
  omega
theorem Xp_okM {ax ay bx b_y cx cy dx dy : Int} (h1 : -20 ≤ ax ∧ ax ≤ 20) (h2 : -20 ≤ ay ∧ ay ≤ 20) (h3 : -20 ≤ bx ∧ bx ≤ 20) (h4 : -20 ≤ b_y ∧ b_y ≤ 20) (h5 : -20 ≤ cx ∧ cx ≤ 20) (h6 : -20 ≤ cy ∧ cy ≤ 20) (h7 : -20 ≤ dx ∧ dx ≤ 20) (h8 : -20 ≤ dy ∧ dy ≤ 20) (hl : 0 < nl ax ay bx b_y cx cy dx dy) (ha : 0 ≤ na ax ay bx b_y cx cy dx dy ∧ na ax ay bx b_y cx cy dx dy ≤ nl ax ay bx b_y cx cy dx dy) : okM (Xp ax ay bx b_y cx cy dx dy) := by
  have r := (cr_rng h1 h2 h3 h4 h5 h6 h7 h8).1
  have hl2 : nl ax ay bx b_y cx cy dx dy ≤ 3200 := by unfold nl sg; split <;> omega
  unfold okM Xp
  dsimp only
  generalize nl ax ay bx b_y cx cy dx dy = l at *
  generalize na ax ay bx b_y cx cy dx dy = a at *
  have key : ∀ u v : Int, -20 ≤ u ∧ u ≤ 20 → -20 ≤ v ∧ v ≤ 20 → -64000 ≤ u * l + a * (v - u) ∧ u * l + a * (v - u) ≤ 64000 := by
    intro u v hu hv
    have e : u * l + a * (v - u) = u * (l - a) + v * a := by grind
    have m1 := mulB (u := u) (v := l - a) (a := 20) (b := l - a) (by omega) (by omega)
    have m2 := mulB (u := v) (v := a) (a := 20) (b := a) (by omega) (by omega)
    omega
  exact ⟨by omega, key ax bx h1 h3, key ay b_y h2 h4⟩
def XE (U V : Nat → Int) (m : Nat) (U2 V2 : Nat → Int) (m2 : Nat) (i j : Nat) : T3 := Xp (U i) (V i) (U (cy m (i + 1))) (V (cy m (i + 1))) (U2 j) (V2 j) (U2 (cy m2 (j + 1))) (V2 (cy m2 (j + 1)))
def lE (U V : Nat → Int) (m : Nat) (U2 V2 : Nat → Int) (m2 : Nat) (i j : Nat) : Int := nl (U i) (V i) (U (cy m (i + 1))) (V (cy m (i + 1))) (U2 j) (V2 j) (U2 (cy m2 (j + 1))) (V2 (cy m2 (j + 1)))
def aE (U V : Nat → Int) (m : Nat) (U2 V2 : Nat → Int) (m2 : Nat) (i j : Nat) : Int := na (U i) (V i) (U (cy m (i + 1))) (V (cy m (i + 1))) (U2 j) (V2 j) (U2 (cy m2 (j + 1))) (V2 (cy m2 (j + 1)))
def sE (U V : Nat → Int) (m : Nat) (U2 V2 : Nat → Int) (m2 : Nat) (i j : Nat) : Int := ns (U i) (V i) (U (cy m (i + 1))) (V (cy m (i + 1))) (U2 j) (V2 j) (U2 (cy m2 (j + 1))) (V2 (cy m2 (j + 1)))
def crC (U V : Nat → Int) (m : Nat) (U2 V2 : Nat → Int) (m2 : Nat) (Z : T3) : Prop := ∃ i j : Nat, i < m ∧ j < m2 ∧ 0 < lE U V m U2 V2 m2 i j ∧ 0 ≤ aE U V m U2 V2 m2 i j ∧ aE U V m U2 V2 m2 i j ≤ lE U V m U2 V2 m2 i j ∧ Z = XE U V m U2 V2 m2 i j
/-- how many edges -/
def eN (m : Nat) : Nat := if m < 3 then m - 1 else m
def crM (U V : Nat → Int) (m : Nat) (U2 V2 : Nat → Int) (m2 : Nat) (Z : T3) : Prop := ∃ i j : Nat, i < eN m ∧ j < eN m2 ∧ 0 < lE U V m U2 V2 m2 i j ∧ (0 ≤ aE U V m U2 V2 m2 i j ∧ aE U V m U2 V2 m2 i j ≤ lE U V m U2 V2 m2 i j) ∧ (0 ≤ sE U V m U2 V2 m2 i j ∧ sE U V m U2 V2 m2 i j ≤ lE U V m U2 V2 m2 i j) ∧ Z = XE U V m U2 V2 m2 i j
theorem eN_le (m : Nat) : eN m ≤ m := by unfold eN; split <;> omega
theorem crM_crC {U V : Nat → Int} {m : Nat} {U2 V2 : Nat → Int} {m2 : Nat} {Z : T3} (h : crM U V m U2 V2 m2 Z) : crC U V m U2 V2 m2 Z := by
  obtain ⟨i, j, h1, h2, h3, h4, h5, h6⟩ := h
  have := eN_le m
  have := eN_le m2
  exact ⟨i, j, by omega, by omega, h3, h4.1, h4.2, h6⟩
theorem lE_ne {U V : Nat → Int} {m : Nat} {U2 V2 : Nat → Int} {m2 i j : Nat} (h : 0 < lE U V m U2 V2 m2 i j) : lw (U i) (V i) (U (cy m (i + 1))) (V (cy m (i + 1))) (U2 j) (V2 j) (U2 (cy m2 (j + 1))) (V2 (cy m2 (j + 1))) ≠ 0 := by
  intro z
  unfold lE nl at h
  rw [z] at h
  unfold sg at h
  simp at h
theorem crC_crM {U V : Nat → Int} {m : Nat} {U2 V2 : Nat → Int} {m2 : Nat} (hG2 : PG U2 V2 m2) {Z : T3} (h : crC U V m U2 V2 m2 Z) (hin : inH U2 V2 m2 Z.1 Z.2.1 Z.2.2) : crM U V m U2 V2 m2 Z := by
  obtain ⟨i, j, h1, h2, h3, h4, h5, h6⟩ := h
  -- the first edge's number
  have st1 : ∃ i', i' < eN m ∧ 0 < lE U V m U2 V2 m2 i' j ∧ 0 ≤ aE U V m U2 V2 m2 i' j ∧ aE U V m U2 V2 m2 i' j ≤ lE U V m U2 V2 m2 i' j ∧ Z = XE U V m U2 V2 m2 i' j := by
    by_cases c3 : m < 3
    · have hcase : m = 1 ∨ m = 2 := by omega
      rcases hcase with rfl | rfl
      · exfalso
        apply lE_ne h3
        unfold lw
        rw [show i = 0 by omega, show cy 1 (0 + 1) = 0 from rfl]; grind
      · have hi : i = 0 ∨ i = 1 := by omega
        rcases hi with rfl | rfl
        · exact ⟨0, by decide, h3, h4, h5, h6⟩
        · have hne := lE_ne h3
          rw [show cy 2 (1 + 1) = 0 from rfl] at hne
          have hne2 : lw (U 0) (V 0) (U 1) (V 1) (U2 j) (V2 j) (U2 (cy m2 (j + 1))) (V2 (cy m2 (j + 1))) ≠ 0 := by
            intro z; apply hne
            have : lw (U 1) (V 1) (U 0) (V 0) (U2 j) (V2 j) (U2 (cy m2 (j + 1))) (V2 (cy m2 (j + 1))) = - lw (U 0) (V 0) (U 1) (V 1) (U2 j) (V2 j) (U2 (cy m2 (j + 1))) (V2 (cy m2 (j + 1))) := by unfold lw; grind
            omega
          obtain ⟨r1, r2⟩ := rev1 (U 0) (V 0) (U 1) (V 1) (U2 j) (V2 j) (U2 (cy m2 (j + 1))) (V2 (cy m2 (j + 1))) hne2
          have r3 := Xp_rev1 hne2
          have x1 : lE U V 2 U2 V2 m2 1 j = lE U V 2 U2 V2 m2 0 j := r1
          have x2 : aE U V 2 U2 V2 m2 1 j = lE U V 2 U2 V2 m2 0 j - aE U V 2 U2 V2 m2 0 j := r2
          have x3 : XE U V 2 U2 V2 m2 1 j = XE U V 2 U2 V2 m2 0 j := r3
          exact ⟨0, by decide, by omega, by omega, by omega, by rw [h6, x3]⟩
    · exact ⟨i, by unfold eN; rw [if_neg c3]; exact h1, h3, h4, h5, h6⟩
  obtain ⟨i', hi', k3, k4, k5, k6⟩ := st1
  have st2 : ∃ j', j' < eN m2 ∧ (m2 = 2 → j' = 0) ∧ 0 < lE U V m U2 V2 m2 i' j' ∧ 0 ≤ aE U V m U2 V2 m2 i' j' ∧ aE U V m U2 V2 m2 i' j' ≤ lE U V m U2 V2 m2 i' j' ∧ Z = XE U V m U2 V2 m2 i' j' := by
    by_cases c3 : m2 < 3
    · have hcase : m2 = 1 ∨ m2 = 2 := by omega
      rcases hcase with rfl | rfl
      · exfalso
        apply lE_ne k3
        unfold lw
        rw [show j = 0 by omega, show cy 1 (0 + 1) = 0 from rfl]; grind
      · have hi : j = 0 ∨ j = 1 := by omega
        rcases hi with rfl | rfl
        · exact ⟨0, by decide, fun _ => rfl, k3, k4, k5, k6⟩
        · have hne := lE_ne k3
          rw [show cy 2 (1 + 1) = 0 from rfl] at hne
          have hne2 : lw (U i') (V i') (U (cy m (i' + 1))) (V (cy m (i' + 1))) (U2 0) (V2 0) (U2 1) (V2 1) ≠ 0 := by
            intro z; apply hne
            have : lw (U i') (V i') (U (cy m (i' + 1))) (V (cy m (i' + 1))) (U2 1) (V2 1) (U2 0) (V2 0) = - lw (U i') (V i') (U (cy m (i' + 1))) (V (cy m (i' + 1))) (U2 0) (V2 0) (U2 1) (V2 1) := by unfold lw; grind
            omega
          obtain ⟨r1, r2⟩ := rev2 (U i') (V i') (U (cy m (i' + 1))) (V (cy m (i' + 1))) (U2 0) (V2 0) (U2 1) (V2 1) hne2
          have r3 := Xp_rev2 hne2
          have x1 : lE U V m U2 V2 2 i' 1 = lE U V m U2 V2 2 i' 0 := r1
          have x2 : aE U V m U2 V2 2 i' 1 = aE U V m U2 V2 2 i' 0 := r2
          have x3 : XE U V m U2 V2 2 i' 1 = XE U V m U2 V2 2 i' 0 := r3
          exact ⟨0, by decide, fun _ => rfl, by omega, by omega, by omega, by rw [k6, x3]⟩
    · exact ⟨j, by unfold eN; rw [if_neg c3]; exact h2, fun h => by omega, k3, k4, k5, k6⟩
  obtain ⟨j', hj', hj0, q3, q4, q5, q6⟩ := st2
  refine ⟨i', j', hi', hj', q3, ⟨q4, q5⟩, ?_, q6⟩
  have hjm : j' < m2 := by have := eN_le m2; omega
  obtain ⟨z1, z2⟩ := Xp_c (U i') (V i') (U (cy m (i' + 1))) (V (cy m (i' + 1))) (U2 j') (V2 j') (U2 (cy m2 (j' + 1))) (V2 (cy m2 (j' + 1)))
  have w1 : Z.1 = U2 j' * lE U V m U2 V2 m2 i' j' + sE U V m U2 V2 m2 i' j' * (U2 (cy m2 (j' + 1)) - U2 j') := by rw [q6]; exact z1
  have w2 : Z.2.1 = V2 j' * lE U V m U2 V2 m2 i' j' + sE U V m U2 V2 m2 i' j' * (V2 (cy m2 (j' + 1)) - V2 j') := by rw [q6]; exact z2
  have w3 : Z.2.2 = lE U V m U2 V2 m2 i' j' := by rw [q6]; rfl
  generalize lE U V m U2 V2 m2 i' j' = l at *
  generalize sE U V m U2 V2 m2 i' j' = s at *
  by_cases c3 : 3 ≤ m2
  · have hp := pv_lt hjm
    have t1 := turn_at hG2 c3 hp
    rw [cy_pv hjm] at t1
    have t2 := turn_at hG2 c3 hjm
    have e1 := hin.1 (pv m2 j') hp
    have hn : cy m2 (j' + 1) < m2 := cy_lt hG2.1
    have e2 := hin.1 (cy m2 (j' + 1)) hn
    unfold tE at e1 e2
    rw [cy_pv hjm] at e1
    rw [w1, w2, w3] at e1 e2
    generalize U2 j' = ax at *
    generalize V2 j' = ay at *
    generalize U2 (pv m2 j') = zx at *
    generalize V2 (pv m2 j') = zy at *
    generalize U2 (cy m2 (cy m2 (j' + 1) + 1)) = yx at *
    generalize V2 (cy m2 (cy m2 (j' + 1) + 1)) = yy at *
    generalize U2 (cy m2 (j' + 1)) = bx at *
    generalize V2 (cy m2 (j' + 1)) = b_y at *
    constructor
    · refine div_ge t1 ?_
      have : ((ax - zx) * (b_y - ay) - (ay - zy) * (bx - ax)) * s = (ax - zx) * (ay * l + s * (b_y - ay) - zy * l) - (ay - zy) * (ax * l + s * (bx - ax) - zx * l) := by grind
      rw [this]; exact e1
    · have : 0 ≤ l - s := by
        refine div_ge t2 ?_
        have : ((bx - ax) * (yy - b_y) - (b_y - ay) * (yx - bx)) * (l - s) = (yx - bx) * (ay * l + s * (b_y - ay) - b_y * l) - (yy - b_y) * (ax * l + s * (bx - ax) - bx * l) := by grind
        rw [this]; exact e2
      omega
  · have hcase : m2 = 2 := by
      have := hG2.1
      have : eN m2 ≤ m2 - 1 := by unfold eN; rw [if_pos (by omega)]; omega
      omega
    subst hcase
    have := hj0 rfl
    subst this
    have hd := hin.2 (by decide)
    have hne := hG2.2.2 rfl
    rw [show 2 - 1 = 1 from rfl, w1, w2, w3, show cy 2 (0 + 1) = 1 from rfl] at hd
    generalize U2 0 = ax at *
    generalize V2 0 = ay at *
    generalize U2 1 = bx at *
    generalize V2 1 = b_y at *
    have hv : 0 < (bx - ax) * (bx - ax) + (b_y - ay) * (b_y - ay) := ssqp (by omega)
    have e : (ax * l - (ax * l + s * (bx - ax))) * (bx * l - (ax * l + s * (bx - ax))) + (ay * l - (ay * l + s * (b_y - ay))) * (b_y * l - (ay * l + s * (b_y - ay))) = ((bx - ax) * (bx - ax) + (b_y - ay) * (b_y - ay)) * (-(s * (l - s))) := by grind
    rw [e] at hd
    have hs := div_le hv hd
    constructor
    · by_cases z : s < 0
      · have := mnp' z (show 0 < l - s by omega); omega
      · omega
    · by_cases z : l < s
      · have := mpn' (show 0 < s by omega) (show l - s < 0 by omega); omega
      · omega
