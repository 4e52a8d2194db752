--@ needs 2a.num 2b.ev1 2d.gcd 2e.row 2f.row2 2g.bits 2h.hull 2i.hull2 2j.hull3 2k.hull4 2l.side 2m.side2 2n.hulls 2o.chain 2p.poly 2q.pg 2r.near 2s.red
/-! both programs' nearest places -/
def okZ (cx cy P Q L : Int) : Prop := (1 ≤ L ∧ L ≤ 3200) ∧ (-64000 ≤ P ∧ P ≤ 64000) ∧ (-64000 ≤ Q ∧ Q ≤ 64000) ∧ (-128000 ≤ P - cx * L ∧ P - cx * L ≤ 128000) ∧ (-128000 ≤ Q - cy * L ∧ Q - cy * L ≤ 128000)
theorem okZ_sq {cx cy P Q L : Int} (h : okZ cx cy P Q L) : (0 ≤ d2 cx cy P Q L ∧ d2 cx cy P Q L ≤ 32768000000) ∧ 1 ≤ L * L ∧ L * L ≤ 10240000 := by
  obtain ⟨h1, -, -, h4, h5⟩ := h
  have a1 := mulB (u := P - cx * L) (v := P - cx * L) (a := 128000) (b := 128000) (by omega) (by omega)
  have a2 := mulB (u := Q - cy * L) (v := Q - cy * L) (a := 128000) (b := 128000) (by omega) (by omega)
  have a3 := mulB (u := L) (v := L) (a := 3200) (b := 3200) (by omega) (by omega)
  have a4 := Int.mul_pos (show 0 < L by omega) (show 0 < L by omega)
  have a5 := d2_nn cx cy P Q L
  unfold d2 at *
  omega
abbrev D3 (cx cy : Int) (Z : Int × Int × Int) : Int := d2 cx cy Z.1 Z.2.1 Z.2.2
abbrev O3 (cx cy : Int) (Z : Int × Int × Int) : Prop := okZ cx cy Z.1 Z.2.1 Z.2.2
abbrev tak (cx cy : Int) (Z0 Z : Int × Int × Int) : Prop := D3 cx cy Z * (Z0.2.2 * Z0.2.2) < D3 cx cy Z0 * (Z.2.2 * Z.2.2)
abbrev pik (cx cy : Int) (Z0 Z : Int × Int × Int) : Int × Int × Int := if tak cx cy Z0 Z then Z else Z0
def mst (U V : Nat → Int) (m : Nat) (cx cy : Int) (D : Int × Int × Int → Prop) (Z0 : Int × Int × Int) : Prop := O3 cx cy Z0 ∧ (∃ a b : Nat, a < m ∧ b < m ∧ cvx2 (U a) (V a) (U b) (V b) Z0.1 Z0.2.1 Z0.2.2) ∧ ∀ Z, D Z → D3 cx cy Z0 * (Z.2.2 * Z.2.2) ≤ D3 cx cy Z * (Z0.2.2 * Z0.2.2)
theorem mst_pik {U V : Nat → Int} {m : Nat} {cx cy : Int} {D : Int × Int × Int → Prop} {Z0 Z : Int × Int × Int} (h : mst U V m cx cy D Z0) (hD : ∀ Z, D Z → 1 ≤ Z.2.2) (hO : O3 cx cy Z) (hc : ∃ a b : Nat, a < m ∧ b < m ∧ cvx2 (U a) (V a) (U b) (V b) Z.1 Z.2.1 Z.2.2) : mst U V m cx cy (fun W => D W ∨ W = Z) (pik cx cy Z0 Z) := by
  obtain ⟨h1, h2, h3⟩ := h
  have q0 := (okZ_sq h1).2.1
  have q1 := (okZ_sq hO).2.1
  unfold pik
  by_cases c : tak cx cy Z0 Z
  · rw [if_pos c]
    refine ⟨hO, hc, ?_⟩
    rintro W (hW | rfl)
    · have hw := hD W hW
      exact rat_le (d := Z0.2.2 * Z0.2.2) (by omega) (by omega) (sqn _) (by omega) (h3 W hW)
    · exact Int.le_refl _
  · rw [if_neg c]
    refine ⟨h1, h2, ?_⟩
    rintro W (hW | rfl)
    · exact h3 W hW
    · unfold tak at c; omega
theorem mst_weak {U V : Nat → Int} {m : Nat} {cx cy : Int} {D D' : Int × Int × Int → Prop} {Z0 : Int × Int × Int} (h : mst U V m cx cy D Z0) (hD : ∀ Z, D' Z → D Z) : mst U V m cx cy D' Z0 := ⟨h.1, h.2.1, fun Z hZ => h.2.2 Z (hD Z hZ)⟩
theorem offC (K : Nat) {cx cy : Int} (hcx : -20 ≤ cx ∧ cx ≤ 20) (hcy : -20 ≤ cy ∧ cy ≤ 20) {Z0 Z : Int × Int × Int} (h0 : O3 cx cy Z0) (h : O3 cx cy Z) : fX4_offer K (jJ Z0.1) (jJ Z0.2.1) (jJ Z0.2.2) (jJ (D3 cx cy Z0)) (jJ (Z0.2.2 * Z0.2.2)) (iI cx) (iI cy) (jJ Z.1) (jJ Z.2.1) (jJ Z.2.2) = some (if tak cx cy Z0 Z then 1 else 0, jJ (pik cx cy Z0 Z).1, jJ (pik cx cy Z0 Z).2.1, jJ (pik cx cy Z0 Z).2.2, jJ (D3 cx cy (pik cx cy Z0 Z)), jJ ((pik cx cy Z0 Z).2.2 * (pik cx cy Z0 Z).2.2)) := by
  obtain ⟨P0, Q0, L0⟩ := Z0
  obtain ⟨P, Q, L⟩ := Z
  have h0' : okZ cx cy P0 Q0 L0 := h0
  have h' : okZ cx cy P Q L := h
  obtain ⟨⟨a1, a2⟩, a3, a4⟩ := okZ_sq h0'
  obtain ⟨⟨b1', b2'⟩, b3', b4'⟩ := okZ_sq h'
  have e0 : D3 cx cy (P0, Q0, L0) = d2 cx cy P0 Q0 L0 := rfl
  have e1 : D3 cx cy (P, Q, L) = d2 cx cy P Q L := rfl
  have m1 := mulB (u := D3 cx cy (P, Q, L)) (v := L0 * L0) (a := 32768000000) (b := 10240000) (by omega) (by omega)
  have m2 := mulB (u := D3 cx cy (P0, Q0, L0)) (v := L * L) (a := 32768000000) (b := 10240000) (by omega) (by omega)
  unfold fX4_offer
  rw [iI_long (show s32 cx from ⟨by omega, by omega⟩), iI_long (show s32 cy from ⟨by omega, by omega⟩)]
  simp only [xl, jn, jJ_mul, jJ_sub, jJ_add]
  rw [if_neg (jne (show 0 < L0 * L0 by exact a3) (by omega))]
  rw [show (P - cx * L) * (P - cx * L) + (Q - cy * L) * (Q - cy * L) = D3 cx cy (P, Q, L) from rfl, Int.mul_assoc (D3 cx cy (P0, Q0, L0)) L L]
  simp only [jJ_lt (show s64 (D3 cx cy (P, Q, L) * (L0 * L0)) from ⟨by omega, by omega⟩) (show s64 (D3 cx cy (P0, Q0, L0) * (L * L)) from ⟨by omega, by omega⟩)]
  by_cases c : D3 cx cy (P, Q, L) * (L0 * L0) < D3 cx cy (P0, Q0, L0) * (L * L)
  · rw [if_pos c, show pik cx cy (P0, Q0, L0) (P, Q, L) = (P, Q, L) from if_pos c, if_pos (show tak cx cy (P0, Q0, L0) (P, Q, L) from c)]
  · rw [if_neg c, show pik cx cy (P0, Q0, L0) (P, Q, L) = (P0, Q0, L0) from if_neg c, if_neg (show ¬ tak cx cy (P0, Q0, L0) (P, Q, L) from c)]
theorem offC0 (K : Nat) {cx cy : Int} (hcx : -20 ≤ cx ∧ cx ≤ 20) (hcy : -20 ≤ cy ∧ cy ≤ 20) {Z : Int × Int × Int} (x y l s : Int64) : fX4_offer K x y l s 0 (iI cx) (iI cy) (jJ Z.1) (jJ Z.2.1) (jJ Z.2.2) = some (1, jJ Z.1, jJ Z.2.1, jJ Z.2.2, jJ (D3 cx cy Z), jJ (Z.2.2 * Z.2.2)) := by
  unfold fX4_offer
  rw [iI_long (show s32 cx from ⟨by omega, by omega⟩), iI_long (show s32 cy from ⟨by omega, by omega⟩)]
  simp only [xl, jn, jJ_mul, jJ_sub, jJ_add]
  rw [if_pos trivial]; rfl
theorem nS_okZ {ax ay bx b_y cx cy : Int} (ha : -20 ≤ ax ∧ ax ≤ 20) (hb : -20 ≤ ay ∧ ay ≤ 20) (hc : -20 ≤ bx ∧ bx ≤ 20) (hd : -20 ≤ b_y ∧ b_y ≤ 20) (hcx : -20 ≤ cx ∧ cx ≤ 20) (hcy : -20 ≤ cy ∧ cy ≤ 20) : O3 cx cy (nS ax ay bx b_y cx cy) := by
  obtain ⟨n1, ⟨s, t, hs, ht, hst, e1, e2⟩, -, -⟩ := nS_ok ax ay bx b_y cx cy
  have hL : (nS ax ay bx b_y cx cy).2.2 ≤ 3200 := by
    have f1 := mulB (u := bx - ax) (v := bx - ax) (a := 40) (b := 40) (by omega) (by omega)
    have f2 := mulB (u := b_y - ay) (v := b_y - ay) (a := 40) (b := 40) (by omega) (by omega)
    rcases nS_cases ax ay bx b_y cx cy with ⟨-, e⟩ | ⟨-, -, e⟩ | ⟨-, -, e⟩
    · rw [e]; show (1 : Int) ≤ 3200; omega
    · rw [e]; show (1 : Int) ≤ 3200; omega
    · rw [e]; show (bx - ax) * (bx - ax) + (b_y - ay) * (b_y - ay) ≤ 3200; omega
  generalize nS ax ay bx b_y cx cy = Z at *
  have key : ∀ u v w : Int, -20 ≤ u ∧ u ≤ 20 → -20 ≤ v ∧ v ≤ 20 → -20 ≤ w ∧ w ≤ 20 → (-64000 ≤ s * u + t * v ∧ s * u + t * v ≤ 64000) ∧ -128000 ≤ s * u + t * v - w * Z.2.2 ∧ s * u + t * v - w * Z.2.2 ≤ 128000 := by
    intro u v w hu hv hw
    have k1 := mulB (u := u) (v := s) (a := 20) (b := s) (by omega) (by omega)
    have k2 := mulB (u := v) (v := t) (a := 20) (b := t) (by omega) (by omega)
    have k3 := mulB (u := w) (v := Z.2.2) (a := 20) (b := 3200) (by omega) (by omega)
    rw [Int.mul_comm u s] at k1
    rw [Int.mul_comm v t] at k2
    omega
  have k1 := key ax bx cx ha hc hcx
  have k2 := key ay b_y cy hb hd hcy
  rw [← e1] at k1
  rw [← e2] at k2
  exact ⟨⟨n1, hL⟩, k1.1, k2.1, k1.2, k2.2⟩
theorem edgeC (K : Nat) {ax ay bx b_y cx cy : Int} (ha : -20 ≤ ax ∧ ax ≤ 20) (hb : -20 ≤ ay ∧ ay ≤ 20) (hc : -20 ≤ bx ∧ bx ≤ 20) (hd : -20 ≤ b_y ∧ b_y ≤ 20) (hcx : -20 ≤ cx ∧ cx ≤ 20) (hcy : -20 ≤ cy ∧ cy ≤ 20) (x y l s sl : Int64) : fX4_offerEdge K x y l s sl (iI cx) (iI cy) (iI ax) (iI ay) (iI bx) (iI b_y) = b6 (fX4_offer K x y l s sl (iI cx) (iI cy) (jJ (nS ax ay bx b_y cx cy).1) (jJ (nS ax ay bx b_y cx cy).2.1) (jJ (nS ax ay bx b_y cx cy).2.2)) (fun r a b c d e => gd (z01 r) (some (r, a, b, c, d, e))) := by
  have f1 := mulB (u := bx - ax) (v := bx - ax) (a := 40) (b := 40) (by omega) (by omega)
  have f2 := mulB (u := b_y - ay) (v := b_y - ay) (a := 40) (b := 40) (by omega) (by omega)
  have f3 := mulB (u := bx - ax) (v := cx - ax) (a := 40) (b := 40) (by omega) (by omega)
  have f4 := mulB (u := b_y - ay) (v := cy - ay) (a := 40) (b := 40) (by omega) (by omega)
  unfold fX4_offerEdge
  simp only [iI_sub]
  rw [iI_long (show s32 (bx - ax) from ⟨by omega, by omega⟩), iI_long (show s32 (b_y - ay) from ⟨by omega, by omega⟩), iI_long (show s32 (cx - ax) from ⟨by omega, by omega⟩), iI_long (show s32 (cy - ay) from ⟨by omega, by omega⟩), iI_long (show s32 ax from ⟨by omega, by omega⟩), iI_long (show s32 ay from ⟨by omega, by omega⟩), iI_long (show s32 bx from ⟨by omega, by omega⟩), iI_long (show s32 b_y from ⟨by omega, by omega⟩)]
  simp only [xl, jJ_mul, jJ_add]
  have s1 : s64 ((bx - ax) * (cx - ax) + (b_y - ay) * (cy - ay)) := ⟨by omega, by omega⟩
  have s2 : s64 ((bx - ax) * (bx - ax) + (b_y - ay) * (b_y - ay)) := ⟨by omega, by omega⟩
  simp only [j_gt0 s1, jJ_lt s1 s2]
  rcases nS_cases ax ay bx b_y cx cy with ⟨c1, e⟩ | ⟨c1, c2, e⟩ | ⟨c1, c2, e⟩
  · rw [if_neg (by omega), e]; rfl
  · rw [if_pos c1, if_neg (by omega), e]; rfl
  · rw [if_pos c1, if_pos c2, e]
theorem z01_if {p : Prop} [Decidable p] : z01 (if p then 1 else 0) = true := by split <;> decide
theorem edge_cv (U V : Nat → Int) {m : Nat} (h0 : 0 < m) (cx cy' : Int) {i : Nat} (hi : i < m) : ∃ a b : Nat, a < m ∧ b < m ∧ cvx2 (U a) (V a) (U b) (V b) (nE U V m cx cy' i).1 (nE U V m cx cy' i).2.1 (nE U V m cx cy' i).2.2 :=
  ⟨i, cy m (i + 1), hi, cy_lt h0, (nS_ok _ _ _ _ _ _).2.1⟩
theorem edge_ok {U V : Nat → Int} {m : Nat} (h0 : 0 < m) (hU : okU U V m) {cx cy' : Int} (hcx : -20 ≤ cx ∧ cx ≤ 20) (hcy : -20 ≤ cy' ∧ cy' ≤ 20) {i : Nat} (hi : i < m) : O3 cx cy' (nE U V m cx cy' i) := by
  obtain ⟨u1, u2⟩ := hU i hi
  obtain ⟨v1, v2⟩ := hU (cy m (i + 1)) (cy_lt h0)
  exact nS_okZ u1 u2 v1 v2 hcx hcy
theorem mst_first {U V : Nat → Int} {m : Nat} {cx cy : Int} {Z : Int × Int × Int} (hO : O3 cx cy Z) (hc : ∃ a b : Nat, a < m ∧ b < m ∧ cvx2 (U a) (V a) (U b) (V b) Z.1 Z.2.1 Z.2.2) : mst U V m cx cy (fun W => W = Z) Z := ⟨hO, hc, fun W e => by rw [e]; exact Int.le_refl _⟩
theorem findC (K : Nat) {gx gy : Nat → Int32} {U V : Nat → Int} {m : Nat} (h0 : 0 < m) (hm : m < 48) (h : hulA gx gy U V m) (hU : okU U V m) {cx cy' : Int} (hcx : -20 ≤ cx ∧ cx ≤ 20) (hcy : -20 ≤ cy' ∧ cy' ≤ 20) : ∀ (fu i : Nat) (Z0 : Int × Int × Int), i ≤ m → m - i < fu → mst U V m cx cy' (fun W => ∃ k, k < i ∧ W = nE U V m cx cy' k) Z0 → ∃ Z, fX4_findOnHull_L32 K (iI cx) (iI cy') (nI m) gx gy fu (nI i) (jJ Z0.1) (jJ Z0.2.1) (jJ Z0.2.2) (jJ (D3 cx cy' Z0)) (jJ (Z0.2.2 * Z0.2.2)) = some (jJ Z.1, jJ Z.2.1, jJ Z.2.2, jJ (D3 cx cy' Z), jJ (Z.2.2 * Z.2.2)) ∧ mst U V m cx cy' (fun W => ∃ k, k < m ∧ W = nE U V m cx cy' k) Z := by
  intro fu
  induction fu with
  | zero => intro i Z0 h1 h2; omega
  | succ fu ih =>
    intro i Z0 h1 h2 hM
    rw [fX4_findOnHull_L32]
    by_cases c : i = m
    · subst c
      rw [if_pos (nI_le (Nat.le_refl i) (by omega))]
      exact ⟨Z0, rfl, hM⟩
    · have him : i < m := by omega
      rw [if_neg (nI_ge him (by omega))]
      obtain ⟨a1, a2⟩ := h i (by omega)
      obtain ⟨b1', b2⟩ := h (i + 1) (by omega)
      have ci : cy m i = i := if_pos him
      rw [ci] at a1 a2
      obtain ⟨u1, u2⟩ := hU i him
      obtain ⟨v1, v2⟩ := hU (cy m (i + 1)) (cy_lt h0)
      simp only [nI_1, gd_t (inb_nI (show i < 48 by omega) (by decide)), gd_t (inb_nI (show i + 1 < 48 by omega) (by decide)), nI_clamp (show i < 2 ^ 31 by omega), nI_clamp (show i + 1 < 2 ^ 31 by omega), a1, a2, b1', b2, xl]
      rw [edgeC K u1 u2 v1 v2 hcx hcy]
      have hO := edge_ok h0 hU hcx hcy him
      have := offC K hcx hcy hM.1 hO
      rw [show nS (U i) (V i) (U (cy m (i + 1))) (V (cy m (i + 1))) cx cy' = nE U V m cx cy' i from rfl, this]
      simp only [b6, Option.bind_some]
      rw [gd_t z01_if]
      simp only [Option.bind_some]
      refine ih (i + 1) (pik cx cy' Z0 (nE U V m cx cy' i)) (by omega) (by omega) ?_
      refine mst_weak (mst_pik hM (fun Z ⟨k, hk, e⟩ => by rw [e]; exact (nS_ok _ _ _ _ _ _).1) hO (edge_cv U V h0 cx cy' him)) ?_
      rintro Z ⟨k, hk, e⟩
      by_cases z : k = i
      · right; rw [e, z]
      · left; exact ⟨k, by omega, e⟩
/-- a place that both of them may answer -/
def isNr (U V : Nat → Int) (m : Nat) (cx cy P Q L : Int) : Prop := okZ cx cy P Q L ∧ ((inH U V m cx cy 1 ∧ P = cx ∧ Q = cy ∧ L = 1) ∨ (¬ inH U V m cx cy 1 ∧ HP U V m cx cy P Q L ∧ ∃ a b : Nat, a < m ∧ b < m ∧ cvx2 (U a) (V a) (U b) (V b) P Q L))
theorem isNr_uniq {U V : Nat → Int} {m : Nat} {cx cy P Q L P2 Q2 L2 : Int} (h : isNr U V m cx cy P Q L) (h2 : isNr U V m cx cy P2 Q2 L2) : P2 * L = P * L2 ∧ Q2 * L = Q * L2 := by
  obtain ⟨o1, h⟩ := h
  obtain ⟨o2, h2⟩ := h2
  rcases h with ⟨h, e1, e2, e3⟩ | ⟨h, hp, a, b, ha, hb, hc⟩
  · rcases h2 with ⟨-, f1, f2, f3⟩ | ⟨h2, -⟩
    · rw [e1, e2, e3, f1, f2, f3]; exact ⟨rfl, rfl⟩
    · exact absurd h h2
  · rcases h2 with ⟨h2, -⟩ | ⟨h2, hp2, a2, b2, ha2, hb2, hc2⟩
    · exact absurd h2 h
    · obtain ⟨k1, k2⟩ := near_uniq (hp a2 ha2) (hp b2 hb2) hc2 o2.1.1
      obtain ⟨k3, -⟩ := near_uniq (hp2 a ha) (hp2 b hb) hc o1.1.1
      exact k2 k3
theorem HP_same {U V : Nat → Int} {m : Nat} {cx cy P Q L P2 Q2 L2 : Int} (h : HP U V m cx cy P Q L) (h1 : P2 * L = P * L2) (h2 : Q2 * L = Q * L2) (hL : 1 ≤ L) : HP U V m cx cy P2 Q2 L2 := by
  intro i hi
  have := h i hi
  unfold hpt at this ⊢
  refine div_ge (a := L * L) (Int.mul_pos (by omega) (by omega)) ?_
  have e : L * L * ((U i * L2 - P2) * (P2 - cx * L2) + (V i * L2 - Q2) * (Q2 - cy * L2)) = L2 * L2 * ((U i * L - P) * (P - cx * L) + (V i * L - Q) * (Q - cy * L)) := by
    have : L * L * ((U i * L2 - P2) * (P2 - cx * L2) + (V i * L2 - Q2) * (Q2 - cy * L2)) = (U i * L2 * L - P2 * L) * (P2 * L - cx * L2 * L) + (V i * L2 * L - Q2 * L) * (Q2 * L - cy * L2 * L) := by grind
    rw [this, h1, h2]; grind
  rw [e]
  exact Int.mul_nonneg (sqn _) this
theorem mst_isNr {U V : Nat → Int} {m : Nat} (hG : PG U V m) (hC : ∀ k : Nat, k < m → inH U V m (U k) (V k) 1) {cx cy' : Int} (hout : ¬ inH U V m cx cy' 1) {D : Int × Int × Int → Prop} (hD : ∀ i, i < m → (m = 2 → i = 0) → ∃ Z, D Z ∧ Z.1 = (nE U V m cx cy' i).1 ∧ Z.2.1 = (nE U V m cx cy' i).2.1 ∧ Z.2.2 = (nE U V m cx cy' i).2.2) {Z : Int × Int × Int} (h : mst U V m cx cy' D Z) : isNr U V m cx cy' Z.1 Z.2.1 Z.2.2 := by
  obtain ⟨i, hi, hi2, hp⟩ := near_ex hG hC hout
  obtain ⟨W, hW, e1, e2, e3⟩ := hD i hi hi2
  rw [← e1, ← e2, ← e3] at hp
  obtain ⟨h1, ⟨a, b, ha, hb, hc⟩, h3⟩ := h
  obtain ⟨k1, k2⟩ := near_uniq (hp a ha) (hp b hb) hc h1.1.1
  obtain ⟨g1, g2⟩ := k2 (h3 W hW)
  refine ⟨h1, Or.inr ⟨hout, HP_same hp g1 g2 ?_, a, b, ha, hb, hc⟩⟩
  rw [e3]; exact (nS_ok _ _ _ _ _ _).1
theorem okP_c {cx cy : Int} (hcx : -20 ≤ cx ∧ cx ≤ 20) (hcy : -20 ≤ cy ∧ cy ≤ 20) : okP cx cy 1 := ⟨by omega, by omega, by decide, by decide⟩
theorem okZ_c {cx cy : Int} (hcx : -20 ≤ cx ∧ cx ≤ 20) (hcy : -20 ≤ cy ∧ cy ≤ 20) : okZ cx cy cx cy 1 := ⟨⟨by decide, by decide⟩, by omega, by omega, by omega, by omega⟩
/-- the class's nearest place -/
theorem nearC (K : Nat) (hK : 4000 ≤ K) {gx gy : Nat → Int32} {U V : Nat → Int} {m : Nat} (hm : m < 48) (h : hulA gx gy U V m) (hU : okU U V m) (hG : PG U V m) (hC : ∀ k : Nat, k < m → inH U V m (U k) (V k) 1) {cx cy' : Int} (hcx : -20 ≤ cx ∧ cx ≤ 20) (hcy : -20 ≤ cy' ∧ cy' ≤ 20) (x y l s sl : Int64) (fx fy : Int32) : ∃ P Q L, fX4_findOnHull K x y l s sl fx fy (nI m) gx gy (iI cx) (iI cy') = some (jJ P, jJ Q, jJ L, jJ (d2 cx cy' P Q L), jJ (L * L), iI cx, iI cy') ∧ isNr U V m cx cy' P Q L := by
  have h0 := hG.1
  unfold fX4_findOnHull fX4_start
  have hs := sideC K hK h0 hm h hU (okP_c hcx hcy)
  rw [← iI_long (show s32 cx from ⟨by omega, by omega⟩), ← iI_long (show s32 cy' from ⟨by omega, by omega⟩)] at hs
  simp only [b4, Option.bind_some]
  rw [show fX2_sideOf K (nI m) gx gy (iI cx).toInt64 (iI cy').toInt64 1 = _ from hs]
  simp only [b1, Option.bind_some]
  by_cases c : inH U V m cx cy' 1
  · rw [if_neg (fun z => (sdv_in U V m cx cy' 1).mp z c)]
    rw [iI_long (show s32 cx from ⟨by omega, by omega⟩), iI_long (show s32 cy' from ⟨by omega, by omega⟩)]
    rw [show fX4_offer K x y l 0 0 (iI cx) (iI cy') (jJ cx) (jJ cy') 1 = _ from offC0 K hcx hcy (Z := (cx, cy', 1)) x y l 0]
    exact ⟨cx, cy', 1, rfl, okZ_c hcx hcy, Or.inl ⟨c, rfl, rfl, rfl⟩⟩
  · rw [if_pos ((sdv_in U V m cx cy' 1).mpr c)]
    obtain ⟨K', rfl⟩ : ∃ k, K = k + 1 := ⟨K - 1, by omega⟩
    rw [fX4_findOnHull_L32, if_neg (show ¬ nI m ≤ 0 from (show ¬ nI m ≤ nI 0 from nI_ge h0 (by omega)))]
    obtain ⟨a1, a2⟩ := h 0 (by omega)
    obtain ⟨b1', b2⟩ := h 1 (by omega)
    rw [show cy m 0 = 0 from if_pos h0] at a1 a2
    obtain ⟨u1, u2⟩ := hU 0 h0
    obtain ⟨v1, v2⟩ := hU (cy m 1) (cy_lt h0)
    simp only [show (0 : Int32) + 1 = nI 1 from rfl, gd_t (show inb 0 48 = true from rfl), show (0 : Int32).toNatClampNeg = 0 from rfl, gd_t (inb_nI (show 1 < 48 by omega) (by decide)), nI_clamp (show 1 < 2 ^ 31 by omega), a1, a2, b1', b2, xl]
    rw [edgeC (K' + 1) u1 u2 v1 v2 hcx hcy, offC0 (K' + 1) hcx hcy]
    simp only [b6, Option.bind_some]
    rw [gd_t (show z01 1 = true from rfl)]
    simp only [Option.bind_some]
    obtain ⟨Z, g1, g2⟩ := findC (K' + 1) h0 hm h hU hcx hcy K' 1 (nE U V m cx cy' 0) (by omega) (by omega) (mst_weak (mst_first (edge_ok h0 hU hcx hcy h0) (edge_cv U V h0 cx cy' h0)) (fun W ⟨k, hk, e⟩ => by rw [e, show k = 0 by omega]))
    rw [show nS (U 0) (V 0) (U (cy m 1)) (V (cy m 1)) cx cy' = nE U V m cx cy' 0 from rfl, g1]
    refine ⟨Z.1, Z.2.1, Z.2.2, rfl, mst_isNr hG hC c (fun i hi _ => ⟨_, ⟨i, hi, rfl⟩, rfl, rfl, rfl⟩) g2⟩
