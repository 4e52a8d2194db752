--@ needs 3zd.rows
/-! do the parts of a row meet -/
def AA (n : Nat) (X Y : Nat → Int) (r : Nat) (S : Nat → Int32) (Z : T3) : Prop := inH (hX X Y (S 0) n) (hY X Y (S 0) n) (hN X Y (S 0) n) Z.1 Z.2.1 Z.2.2 ∧ inH (hX X Y (S 1) n) (hY X Y (S 1) n) (hN X Y (S 1) n) Z.1 Z.2.1 Z.2.2 ∧ (r = 3 → inH (hX X Y (S 2) n) (hY X Y (S 2) n) (hN X Y (S 2) n) Z.1 Z.2.1 Z.2.2)
def cD (n : Nat) (X Y : Nat → Int) (S : Int32) (Z : T3) : Prop := corD (hX X Y S n) (hY X Y S n) (hN X Y S n) Z
def cR (n : Nat) (X Y : Nat → Int) (S T : Int32) (Z : T3) : Prop := crC (hX X Y S n) (hY X Y S n) (hN X Y S n) (hX X Y T n) (hY X Y T n) (hN X Y T n) Z
def DD (n : Nat) (X Y : Nat → Int) (r : Nat) (S : Nat → Int32) (Z : T3) : Prop := cD n X Y (S 0) Z ∨ cD n X Y (S 1) Z ∨ cR n X Y (S 0) (S 1) Z ∨ (r = 3 ∧ (cD n X Y (S 2) Z ∨ cR n X Y (S 0) (S 2) Z ∨ cR n X Y (S 1) (S 2) Z))
def rowRes (n : Nat) (X Y : Nat → Int) (r : Nat) (S : Nat → Int32) (rr : Int32) (p q l : Int64) : Prop := ∃ st, fnd st rr p q l ∧ mmin (AA n X Y r S) (DD n X Y r S) st
theorem res_uniq {n : Nat} {X Y : Nat → Int} {r : Nat} {S : Nat → Int32} {rr rr' : Int32} {p q l p' q' l' : Int64} (h1 : rowRes n X Y r S rr p q l) (h2 : rowRes n X Y r S rr' p' q' l') : (rr = 0 ∧ rr' = 0) ∨ (rr = 1 ∧ rr' = 1 ∧ p = p' ∧ q = q' ∧ l = l') := by
  obtain ⟨s, a1, a2⟩ := h1
  obtain ⟨t, b1, b2⟩ := h2
  rcases fnd_same a1 b1 a2 b2 (fun _ h _ => h) (fun _ h _ => h) with ⟨e1, e2, -⟩ | ⟨e1, e2, e3, e4, e5, -⟩
  · exact Or.inl ⟨e1, e2⟩
  · exact Or.inr ⟨e1, e2, e3, e4, e5⟩
theorem res_01 {n : Nat} {X Y : Nat → Int} {r : Nat} {S : Nat → Int32} {rr : Int32} {p q l : Int64} (h : rowRes n X Y r S rr p q l) : rr = 0 ∨ rr = 1 := by
  obtain ⟨s, a1, -⟩ := h
  rcases a1 with ⟨-, e⟩ | ⟨Z, -, e, -⟩
  · exact Or.inl e
  · exact Or.inr e
theorem findR2 (K : Nat) (hK : 4000 ≤ K) {n : Nat} {x y : Nat → Int32} {X Y : Nat → Int} (h : Pts n x y X Y) {S : Nat → Int32} (s0 : isSt n (S 0)) (s1 : isSt n (S 1)) {x1 y1 x2 y2 x3 y3 : Nat → Int32} {z3 : Int32} (h1 : hulA x1 y1 (hX X Y (S 0) n) (hY X Y (S 0) n) (hN X Y (S 0) n)) (h2 : hulA x2 y2 (hX X Y (S 1) n) (hY X Y (S 1) n) (hN X Y (S 1) n)) (lx ly ll p q l : Int64) : ∃ rr a b c p' q' l', fX3_find K 0 lx ly ll (nI (hN X Y (S 0) n)) x1 y1 (nI (hN X Y (S 1) n)) x2 y2 z3 x3 y3 p q l = some (rr, a, b, c, p', q', l') ∧ rowRes n X Y 2 S rr p' q' l' := by
  obtain ⟨rr, a, b, c, p1, q1, l1, st, e1, e2, e3⟩ := find2C K hK (s3 := z3) (x3 := x3) (y3 := y3) (HA_of h s0 h1) (HA_of h s1 h2) lx ly ll p q l
  refine ⟨rr, a, b, c, p1, q1, l1, e1, st, e2, ?_⟩
  have hA : (fun Z : T3 => inH (hX X Y (S 0) n) (hY X Y (S 0) n) (hN X Y (S 0) n) Z.1 Z.2.1 Z.2.2 ∧ inH (hX X Y (S 1) n) (hY X Y (S 1) n) (hN X Y (S 1) n) Z.1 Z.2.1 Z.2.2) = AA n X Y 2 S := funext fun Z => propext ⟨fun z => ⟨z.1, z.2, fun q => by omega⟩, fun z => ⟨z.1, z.2.1⟩⟩
  rw [hA] at e3
  refine mmin_congr e3 (fun Z => ?_)
  constructor
  · rintro (z | z | z)
    · exact Or.inl z
    · exact Or.inr (Or.inl z)
    · exact Or.inr (Or.inr (Or.inl z))
  · rintro (z | z | z | z)
    · exact Or.inl z
    · exact Or.inr (Or.inl z)
    · exact Or.inr (Or.inr z)
    · exact absurd z.1 (by omega)
theorem findR3 (K : Nat) (hK : 4000 ≤ K) {n : Nat} {x y : Nat → Int32} {X Y : Nat → Int} (h : Pts n x y X Y) {S : Nat → Int32} (s0 : isSt n (S 0)) (s1 : isSt n (S 1)) (s2 : isSt n (S 2)) {x1 y1 x2 y2 x3 y3 : Nat → Int32} (h1 : hulA x1 y1 (hX X Y (S 0) n) (hY X Y (S 0) n) (hN X Y (S 0) n)) (h2 : hulA x2 y2 (hX X Y (S 1) n) (hY X Y (S 1) n) (hN X Y (S 1) n)) (h3 : hulA x3 y3 (hX X Y (S 2) n) (hY X Y (S 2) n) (hN X Y (S 2) n)) (lx ly ll p q l : Int64) : ∃ rr a b c p' q' l', fX3_find K 1 lx ly ll (nI (hN X Y (S 0) n)) x1 y1 (nI (hN X Y (S 1) n)) x2 y2 (nI (hN X Y (S 2) n)) x3 y3 p q l = some (rr, a, b, c, p', q', l') ∧ rowRes n X Y 3 S rr p' q' l' := by
  obtain ⟨rr, a, b, c, p1, q1, l1, st, e1, e2, e3⟩ := find3C K hK (HA_of h s0 h1) (HA_of h s1 h2) (HA_of h s2 h3) lx ly ll p q l
  refine ⟨rr, a, b, c, p1, q1, l1, e1, st, e2, ?_⟩
  have hA : (fun Z : T3 => inH (hX X Y (S 0) n) (hY X Y (S 0) n) (hN X Y (S 0) n) Z.1 Z.2.1 Z.2.2 ∧ inH (hX X Y (S 1) n) (hY X Y (S 1) n) (hN X Y (S 1) n) Z.1 Z.2.1 Z.2.2 ∧ inH (hX X Y (S 2) n) (hY X Y (S 2) n) (hN X Y (S 2) n) Z.1 Z.2.1 Z.2.2) = AA n X Y 3 S := funext fun Z => propext ⟨fun z => ⟨z.1, z.2.1, fun _ => z.2.2⟩, fun z => ⟨z.1, z.2.1, z.2.2 rfl⟩⟩
  rw [hA] at e3
  refine mmin_congr e3 (fun Z => ?_)
  constructor
  · rintro (z | z | z | z | z | z)
    · exact Or.inl z
    · exact Or.inr (Or.inl z)
    · exact Or.inr (Or.inr (Or.inr ⟨rfl, Or.inl z⟩))
    · exact Or.inr (Or.inr (Or.inl z))
    · exact Or.inr (Or.inr (Or.inr ⟨rfl, Or.inr (Or.inl z)⟩))
    · exact Or.inr (Or.inr (Or.inr ⟨rfl, Or.inr (Or.inr z)⟩))
  · rintro (z | z | z | ⟨-, z | z | z⟩)
    · exact Or.inl z
    · exact Or.inr (Or.inl z)
    · exact Or.inr (Or.inr (Or.inr (Or.inl z)))
    · exact Or.inr (Or.inr (Or.inl z))
    · exact Or.inr (Or.inr (Or.inr (Or.inr (Or.inl z))))
    · exact Or.inr (Or.inr (Or.inr (Or.inr (Or.inr z))))
/-- what the model makes of hulls that are laid -/
theorem layR (K : Nat) (hK : 4000 ≤ K) {n : Nat} {px py : Nat → Int32} {X Y : Nat → Int} (h : Pts n px py X Y) {r : Nat} (hr : r = 2 ∨ r = 3) {S : Nat → Int32} (st : ∀ w, w < r → isSt n (S w)) {cor cors : Nat → Int32} (hh : ∀ w, w < r → hulB px py cor cors w (hX X Y (S w) n) (hY X Y (S w) n) (hN X Y (S w) n)) (p q l : Int64) (met hu : Int32) : ∃ rr p' q' l' met' hu', fX12_laysMeeting K p q l met hu px py cor cors (nI r) = some (rr, p', q', l', met', hu') ∧ rowRes n X Y r S rr p' q' l' := by
  have hM : HMs K px py cor cors r (fun w => hX X Y (S w) n) (fun w => hY X Y (S w) n) (fun w => hN X Y (S w) n) := by
    refine ⟨by omega, fun w hw => ?_⟩
    have r1 := hN_rng (X := X) (Y := Y) h.1 (st w hw)
    exact ⟨hulB_M K (hh w hw), hU_ok h (st w hw), r1.1, by show hN X Y (S w) n < 48; omega⟩
  obtain ⟨rr, p2, q2, l2, met2, st', f1, f2, f3⟩ := meetM K hK hM p q l met hu
  have zA : ∀ i, i < 48 → True := fun _ _ => trivial
  obtain ⟨ch1, gx1, gy1, sor1, -, e1⟩ := buildC2 K hK h (st 0 (by omega)) 0 (fun _ => 0) (fun _ => 0) (fun _ => 0) (fun _ => 0)
  obtain ⟨ch2, gx2, gy2, sor2, -, e2⟩ := buildC2 K hK h (st 1 (by omega)) 0 (fun _ => 0) (fun _ => 0) (fun _ => 0) (fun _ => 0)
  have G1 := (hull_pg h (st 1 (by omega))).1
  have key : ∀ {rc a b c pc qc lc}, rowRes n X Y r S rc pc qc lc → (a : Int64) = a → (b : Int64) = b → (c : Int64) = c → rowRes n X Y r S rr p2 q2 l2 := by
    intro rc a b c pc qc lc hc _ _ _
    obtain ⟨sc, c1, c2⟩ := hc
    have hA : inA r (fun w => hX X Y (S w) n) (fun w => hY X Y (S w) n) (fun w => hN X Y (S w) n) = AA n X Y r S := funext fun Z => propext ⟨fun z => ⟨z 0 (by omega), z 1 (by omega), fun e => z 2 (by omega)⟩, fun z w hw => by
      rcases hr with rfl | rfl
      · have : w = 0 ∨ w = 1 := by omega
        rcases this with rfl | rfl
        · exact z.1
        · exact z.2.1
      · have : w = 0 ∨ w = 1 ∨ w = 2 := by omega
        rcases this with rfl | rfl | rfl
        · exact z.1
        · exact z.2.1
        · exact z.2.2 rfl⟩
    rw [hA] at f3
    have hs := fnd_same c1 f2 c2 f3 (by
      rintro Z (z | z | z | ⟨e, z | z | z⟩) zA
      · exact Or.inl ⟨0, by omega, z⟩
      · exact Or.inl ⟨1, by omega, z⟩
      · exact Or.inr ⟨0, 1, by omega, by omega, crC_crM G1 z zA.2.1⟩
      · exact Or.inl ⟨2, by omega, z⟩
      · exact Or.inr ⟨0, 2, by omega, by omega, crC_crM (hull_pg h (st 2 (by omega))).1 z (zA.2.2 e)⟩
      · exact Or.inr ⟨1, 2, by omega, by omega, crC_crM (hull_pg h (st 2 (by omega))).1 z (zA.2.2 e)⟩) (by
      rintro Z (⟨v, hv, z⟩ | ⟨k, o, h1, h2, z⟩) zA
      · have : v = 0 ∨ v = 1 ∨ v = 2 := by omega
        rcases this with rfl | rfl | rfl
        · exact Or.inl z
        · exact Or.inr (Or.inl z)
        · exact Or.inr (Or.inr (Or.inr ⟨by omega, Or.inl z⟩))
      · have : (k = 0 ∧ o = 1) ∨ (k = 0 ∧ o = 2) ∨ (k = 1 ∧ o = 2) := by omega
        rcases this with ⟨rfl, rfl⟩ | ⟨rfl, rfl⟩ | ⟨rfl, rfl⟩
        · exact Or.inr (Or.inr (Or.inl (crM_crC z)))
        · exact Or.inr (Or.inr (Or.inr ⟨by omega, Or.inr (Or.inl (crM_crC z))⟩))
        · exact Or.inr (Or.inr (Or.inr ⟨by omega, Or.inr (Or.inr (crM_crC z))⟩)))
    rcases hs with ⟨k1, k2, k3⟩ | ⟨k1, k2, k3, k4, k5, -⟩
    · exact ⟨sc, Or.inl ⟨k3, k2⟩, c2⟩
    · refine ⟨sc, ?_, c2⟩
      rw [← k3, ← k4, ← k5, k2, ← k1]
      exact c1
  refine ⟨rr, p2, q2, l2, met2, _, f1, ?_⟩
  rcases hr with rfl | rfl
  · obtain ⟨rc, a, b, c, pc, qc, lc, -, hc⟩ := findR2 K hK h (S := S) (st 0 (by omega)) (st 1 (by omega)) (x3 := fun _ => 0) (y3 := fun _ => 0) (z3 := 0) e1 e2 0 0 0 0 0 0
    exact key (a := a) (b := b) (c := c) hc rfl rfl rfl
  · obtain ⟨ch3, gx3, gy3, sor3, -, e3⟩ := buildC2 K hK h (st 2 (by omega)) 0 (fun _ => 0) (fun _ => 0) (fun _ => 0) (fun _ => 0)
    obtain ⟨rc, a, b, c, pc, qc, lc, -, hc⟩ := findR3 K hK h (S := S) (st 0 (by omega)) (st 1 (by omega)) (st 2 (by omega)) e1 e2 e3 0 0 0 0 0 0
    exact key (a := a) (b := b) (c := c) hc rfl rfl rfl
