--@ needs 2a.num 2b.ev1 2d.gcd 2e.row 2f.row2 2g.bits 2h.hull 2i.hull2 2j.hull3 2k.hull4 2l.side 2m.side2 2n.hulls 2o.chain 2p.poly 2q.pg 2r.near 2s.red 2t.near2
theorem frac_lt {d l e k h g : Int} (hh : 0 < h) (hg : 0 < g) (h1 : h ∣ d) (h2 : h ∣ l) (h3 : g ∣ e) (h4 : g ∣ k) : (d / h) * (k / g) < (e / g) * (l / h) ↔ d * k < e * l := by
  obtain ⟨a, rfl⟩ := h1
  obtain ⟨b, rfl⟩ := h2
  obtain ⟨c, rfl⟩ := h3
  obtain ⟨f, rfl⟩ := h4
  rw [Int.mul_ediv_cancel_left _ (by omega), Int.mul_ediv_cancel_left _ (by omega), Int.mul_ediv_cancel_left _ (by omega), Int.mul_ediv_cancel_left _ (by omega)]
  have e1 : h * a * (g * f) = (h * g) * (a * f) := by grind
  have e2 : g * c * (h * b) = (h * g) * (c * b) := by grind
  rw [e1, e2]
  have hp := Int.mul_pos hh hg
  constructor
  · intro hlt
    exact Int.mul_lt_mul_of_pos_left hlt hp
  · intro hlt
    exact Int.lt_of_mul_lt_mul_left hlt (by omega)
abbrev G3 (Z : Int × Int × Int) : Int := (g3 Z.1 Z.2.1 Z.2.2 : Int)
abbrev G2 (cx cy : Int) (Z : Int × Int × Int) : Int := (Int.gcd (D3 cx cy Z) (Z.2.2 * Z.2.2) : Int)
theorem quo_le {a g B : Int} (hg : 0 < g) (ha : 0 ≤ a ∧ a ≤ B) : 0 ≤ a / g ∧ a / g ≤ B := by
  refine ⟨Int.ediv_nonneg ha.1 (by omega), ?_⟩
  exact Int.le_trans (Int.ediv_le_self g ha.1) ha.2
theorem nearerM (K : Nat) (hK : 4000 ≤ K) {cx cy : Int} (hcx : -20 ≤ cx ∧ cx ≤ 20) (hcy : -20 ≤ cy ∧ cy ≤ 20) {Z0 Z : Int × Int × Int} (h0 : O3 cx cy Z0) (h : O3 cx cy Z) : fX12_nearer K (iI cx) (iI cy) (jJ (Z0.1 / G3 Z0)) (jJ (Z0.2.1 / G3 Z0)) (jJ (Z0.2.2 / G3 Z0)) (jJ (D3 cx cy Z0 / G2 cx cy Z0)) (jJ (Z0.2.2 * Z0.2.2 / G2 cx cy Z0)) (jJ Z.1) (jJ Z.2.1) (jJ Z.2.2) = some (jJ ((pik cx cy Z0 Z).1 / G3 (pik cx cy Z0 Z)), jJ ((pik cx cy Z0 Z).2.1 / G3 (pik cx cy Z0 Z)), jJ ((pik cx cy Z0 Z).2.2 / G3 (pik cx cy Z0 Z)), jJ (D3 cx cy (pik cx cy Z0 Z) / G2 cx cy (pik cx cy Z0 Z)), jJ ((pik cx cy Z0 Z).2.2 * (pik cx cy Z0 Z).2.2 / G2 cx cy (pik cx cy Z0 Z))) := by
  obtain ⟨P0, Q0, L0⟩ := Z0
  obtain ⟨P, Q, L⟩ := Z
  have h0' : okZ cx cy P0 Q0 L0 := h0
  have h' : okZ cx cy P Q L := h
  obtain ⟨⟨a1, a2⟩, a3, a4⟩ := okZ_sq h0'
  obtain ⟨⟨c1, c2⟩, c3, c4⟩ := okZ_sq h'
  have e0 : D3 cx cy (P0, Q0, L0) = d2 cx cy P0 Q0 L0 := rfl
  have e1 : D3 cx cy (P, Q, L) = d2 cx cy P Q L := rfl
  have hg := gcd_pos2 (a := d2 cx cy P Q L) (show L * L ≠ 0 by omega)
  have hg2 := gcd_le (a := d2 cx cy P Q L) (show 0 < L * L by omega)
  have hg0 := gcd_pos2 (a := d2 cx cy P0 Q0 L0) (show L0 * L0 ≠ 0 by omega)
  have k1 := Int.gcd_dvd_left (d2 cx cy P Q L) (L * L)
  have k2 := Int.gcd_dvd_right (d2 cx cy P Q L) (L * L)
  have k3 := Int.gcd_dvd_left (d2 cx cy P0 Q0 L0) (L0 * L0)
  have k4 := Int.gcd_dvd_right (d2 cx cy P0 Q0 L0) (L0 * L0)
  obtain ⟨q1, q2⟩ := quo_le hg (show 0 ≤ d2 cx cy P Q L ∧ d2 cx cy P Q L ≤ 32768000000 by omega)
  obtain ⟨q3, q4⟩ := quo_le hg (show 0 ≤ L * L ∧ L * L ≤ 10240000 by omega)
  obtain ⟨q5, q6⟩ := quo_le hg0 (show 0 ≤ d2 cx cy P0 Q0 L0 ∧ d2 cx cy P0 Q0 L0 ≤ 32768000000 by omega)
  obtain ⟨q7, q8⟩ := quo_le hg0 (show 0 ≤ L0 * L0 ∧ L0 * L0 ≤ 10240000 by omega)
  have q9 : 0 < L0 * L0 / (Int.gcd (d2 cx cy P0 Q0 L0) (L0 * L0) : Int) := by
    have : L0 * L0 / (Int.gcd (d2 cx cy P0 Q0 L0) (L0 * L0) : Int) ≠ 0 := by
      intro z
      have := Int.ediv_mul_cancel k4
      rw [z, Int.zero_mul] at this
      omega
    omega
  have m1 := mulB (u := d2 cx cy P Q L / (Int.gcd (d2 cx cy P Q L) (L * L) : Int)) (v := L0 * L0 / (Int.gcd (d2 cx cy P0 Q0 L0) (L0 * L0) : Int)) (a := 32768000000) (b := 10240000) (by omega) (by omega)
  have m2 := mulB (u := d2 cx cy P0 Q0 L0 / (Int.gcd (d2 cx cy P0 Q0 L0) (L0 * L0) : Int)) (v := L * L / (Int.gcd (d2 cx cy P Q L) (L * L) : Int)) (a := 32768000000) (b := 10240000) (by omega) (by omega)
  unfold fX12_nearer
  rw [iI_long (show s32 cx from ⟨by omega, by omega⟩), iI_long (show s32 cy from ⟨by omega, by omega⟩)]
  simp only [xl, jn, jJ_mul, jJ_sub, jJ_add]
  rw [show (P - cx * L) * (P - cx * L) + (Q - cy * L) * (Q - cy * L) = d2 cx cy P Q L from rfl]
  rw [(gcd_spec K hK (d2 cx cy P Q L) (L * L) (by omega) (by omega) (by omega) (by omega)).2]
  simp only [b1, Option.bind_some]
  rw [gd_ne (jne hg (by omega)), gd_ne (jne hg (by omega)), jdivx hg k1 (by omega) (by omega), jdivx hg k2 (by omega) (by omega)]
  obtain ⟨⟨o1, o2⟩, o3, o4, -⟩ := h'
  rw [layP K hK _ _ _ (by omega) (by omega) (by omega)]
  simp only [b3, Option.bind_some]
  rw [if_neg (show ¬ jJ (L0 * L0 / (Int.gcd (d2 cx cy P0 Q0 L0) (L0 * L0) : Int)) ≤ 0 from fun z => by
    have : L0 * L0 / (Int.gcd (d2 cx cy P0 Q0 L0) (L0 * L0) : Int) ≤ 0 := (jJ_le (b := 0) ⟨by omega, by omega⟩ ⟨by omega, by omega⟩).mp z
    omega)]
  simp only [jJ_mul]
  have cond : (jJ (d2 cx cy P Q L / (Int.gcd (d2 cx cy P Q L) (L * L) : Int) * (L0 * L0 / (Int.gcd (d2 cx cy P0 Q0 L0) (L0 * L0) : Int))) < jJ (d2 cx cy P0 Q0 L0 / (Int.gcd (d2 cx cy P0 Q0 L0) (L0 * L0) : Int) * (L * L / (Int.gcd (d2 cx cy P Q L) (L * L) : Int)))) ↔ tak cx cy (P0, Q0, L0) (P, Q, L) := by
    rw [jJ_lt ⟨by omega, by omega⟩ ⟨by omega, by omega⟩]
    exact frac_lt hg hg0 k1 k2 k3 k4
  simp only [e0, G2]
  simp only [cond]
  by_cases c : tak cx cy (P0, Q0, L0) (P, Q, L)
  · rw [if_pos c, show pik cx cy (P0, Q0, L0) (P, Q, L) = (P, Q, L) from if_pos c]
  · rw [if_neg c, show pik cx cy (P0, Q0, L0) (P, Q, L) = (P0, Q0, L0) from if_neg c]
theorem nearerM0 (K : Nat) (hK : 4000 ≤ K) {cx cy : Int} (hcx : -20 ≤ cx ∧ cx ≤ 20) (hcy : -20 ≤ cy ∧ cy ≤ 20) {Z : Int × Int × Int} (h : O3 cx cy Z) (p q b f : Int64) : fX12_nearer K (iI cx) (iI cy) p q b f 0 (jJ Z.1) (jJ Z.2.1) (jJ Z.2.2) = some (jJ (Z.1 / G3 Z), jJ (Z.2.1 / G3 Z), jJ (Z.2.2 / G3 Z), jJ (D3 cx cy Z / G2 cx cy Z), jJ (Z.2.2 * Z.2.2 / G2 cx cy Z)) := by
  obtain ⟨P, Q, L⟩ := Z
  have h' : okZ cx cy P Q L := h
  obtain ⟨⟨c1, c2⟩, c3, c4⟩ := okZ_sq h'
  have e1 : D3 cx cy (P, Q, L) = d2 cx cy P Q L := rfl
  have hg := gcd_pos2 (a := d2 cx cy P Q L) (show L * L ≠ 0 by omega)
  have hg2 := gcd_le (a := d2 cx cy P Q L) (show 0 < L * L by omega)
  have k1 := Int.gcd_dvd_left (d2 cx cy P Q L) (L * L)
  have k2 := Int.gcd_dvd_right (d2 cx cy P Q L) (L * L)
  unfold fX12_nearer
  rw [iI_long (show s32 cx from ⟨by omega, by omega⟩), iI_long (show s32 cy from ⟨by omega, by omega⟩)]
  simp only [xl, jn, jJ_mul, jJ_sub, jJ_add]
  rw [show (P - cx * L) * (P - cx * L) + (Q - cy * L) * (Q - cy * L) = d2 cx cy P Q L from rfl]
  rw [(gcd_spec K hK (d2 cx cy P Q L) (L * L) (by omega) (by omega) (by omega) (by omega)).2]
  simp only [b1, Option.bind_some]
  rw [gd_ne (jne hg (by omega)), gd_ne (jne hg (by omega)), jdivx hg k1 (by omega) (by omega), jdivx hg k2 (by omega) (by omega)]
  obtain ⟨⟨o1, o2⟩, o3, o4, -⟩ := h'
  rw [layP K hK _ _ _ (by omega) (by omega) (by omega)]
  simp only [b3, Option.bind_some]
  rw [if_pos (show (0 : Int64) ≤ 0 from by decide)]
theorem corn_okZ {U V : Nat → Int} {m : Nat} (hU : okU U V m) {cx cy' : Int} (hcx : -20 ≤ cx ∧ cx ≤ 20) (hcy : -20 ≤ cy' ∧ cy' ≤ 20) {i : Nat} (hi : i < m) : O3 cx cy' (U i, V i, 1) := by
  obtain ⟨u1, u2⟩ := hU i hi
  refine ⟨⟨by show (1 : Int) ≤ 1; omega, by show (1 : Int) ≤ 3200; omega⟩, ?_, ?_, ?_, ?_⟩
  · show -64000 ≤ U i ∧ U i ≤ 64000; omega
  · show -64000 ≤ V i ∧ V i ≤ 64000; omega
  · show -128000 ≤ U i - cx * 1 ∧ U i - cx * 1 ≤ 128000; omega
  · show -128000 ≤ V i - cy' * 1 ∧ V i - cy' * 1 ≤ 128000; omega
theorem corn_cv (U V : Nat → Int) {m i : Nat} (hi : i < m) : ∃ a b : Nat, a < m ∧ b < m ∧ cvx2 (U a) (V a) (U b) (V b) (U i, V i, (1 : Int)).1 (U i, V i, (1 : Int)).2.1 (U i, V i, (1 : Int)).2.2 :=
  ⟨i, i, hi, hi, 1, 0, by omega, by omega, rfl, by show U i = _; omega, by show V i = _; omega⟩
theorem findM1 (K : Nat) (hK : 4000 ≤ K) {px py cor cors : Nat → Int32} {U V : Nat → Int} {m : Nat} (h : hulM K px py cor cors 0 U V m) (hm : m < 48) (hU : okU U V m) {cx cy' : Int} (hcx : -20 ≤ cx ∧ cx ≤ 20) (hcy : -20 ≤ cy' ∧ cy' ≤ 20) : ∀ (fu i : Nat) (Z0 : Int × Int × Int), i ≤ m → m - i < fu → mst U V m cx cy' (fun W => ∃ k, k < i ∧ W = (U k, V k, 1)) Z0 → ∃ Z, fX12_laysNearest_L42 K (iI cx) (iI cy') px py cor cors fu (nI i) (jJ (Z0.1 / G3 Z0)) (jJ (Z0.2.1 / G3 Z0)) (jJ (Z0.2.2 / G3 Z0)) (jJ (D3 cx cy' Z0 / G2 cx cy' Z0)) (jJ (Z0.2.2 * Z0.2.2 / G2 cx cy' Z0)) = some (jJ (Z.1 / G3 Z), jJ (Z.2.1 / G3 Z), jJ (Z.2.2 / G3 Z), jJ (D3 cx cy' Z / G2 cx cy' Z), jJ (Z.2.2 * Z.2.2 / G2 cx cy' Z)) ∧ mst U V m cx cy' (fun W => ∃ k, k < m ∧ W = (U k, V k, 1)) Z := by
  intro fu
  induction fu with
  | zero => intro i Z0 h1 h2; omega
  | succ fu ih =>
    intro i Z0 h1 h2 hM
    obtain ⟨hw, hc, hcor⟩ := id h
    rw [fX12_laysNearest_L42, show (0 : Int32).toNatClampNeg = 0 from rfl, hc]
    by_cases c : i = m
    · subst c
      rw [if_pos (nI_le (Nat.le_refl i) (by omega))]
      exact ⟨Z0, rfl, hM⟩
    · have him : i < m := by omega
      rw [if_neg (nI_ge him (by omega))]
      obtain ⟨ca, ca1, ca2, ca3, ca4⟩ := hcor i (by omega)
      have ca2' : fX12_cornerOf K cor cors 0 (nI i) = some (nI ca) := ca2
      have ci : cy m i = i := if_pos him
      rw [ci] at ca3 ca4
      obtain ⟨u1, u2⟩ := hU i him
      simp only [nI_1, ca2', b1, Option.bind_some, gd_t (inb_nI ca1 (by decide)), nI_clamp (show ca < 2 ^ 31 by omega), ca3, ca4, xl]
      rw [iI_long (show s32 (U i) from ⟨by omega, by omega⟩), iI_long (show s32 (V i) from ⟨by omega, by omega⟩)]
      have hO := corn_okZ hU hcx hcy him
      have hq := nearerM K hK hcx hcy hM.1 hO
      have p1 : jJ (U i, V i, (1 : Int)).1 = jJ (U i) := rfl
      have p2 : jJ (U i, V i, (1 : Int)).2.1 = jJ (V i) := rfl
      have p3 : jJ (U i, V i, (1 : Int)).2.2 = 1 := rfl
      rw [p1, p2, p3] at hq
      rw [hq]
      simp only [b5, Option.bind_some]
      refine ih (i + 1) (pik cx cy' Z0 (U i, V i, 1)) (by omega) (by omega) ?_
      refine mst_weak (mst_pik hM (fun Z ⟨k, hk, e⟩ => by rw [e]; exact Int.le_refl 1) hO (corn_cv U V him)) ?_
      rintro Z ⟨k, hk, e⟩
      by_cases z : k = i
      · right; rw [e, z]
      · left; exact ⟨k, by omega, e⟩
def intr (U V : Nat → Int) (m : Nat) (cx cy' : Int) (k : Nat) : Prop := 0 < (U (cy m (k + 1)) - U k) * (cx - U k) + (V (cy m (k + 1)) - V k) * (cy' - V k) ∧ (U (cy m (k + 1)) - U k) * (cx - U k) + (V (cy m (k + 1)) - V k) * (cy' - V k) < (U (cy m (k + 1)) - U k) * (U (cy m (k + 1)) - U k) + (V (cy m (k + 1)) - V k) * (V (cy m (k + 1)) - V k)
theorem findM2 (K : Nat) (hK : 4000 ≤ K) {px py cor cors : Nat → Int32} {U V : Nat → Int} {m : Nat} (h : hulM K px py cor cors 0 U V m) (h0 : 0 < m) (hm : m < 48) (hU : okU U V m) {cx cy' : Int} (hcx : -20 ≤ cx ∧ cx ≤ 20) (hcy : -20 ≤ cy' ∧ cy' ≤ 20) {e : Nat} (he : e ≤ m) (hed : fX12_edges K cors 0 = some (nI e)) : ∀ (fu i : Nat) (Z0 : Int × Int × Int), i ≤ e → e - i < fu → mst U V m cx cy' (fun W => (∃ k, k < m ∧ W = (U k, V k, 1)) ∨ ∃ k, k < i ∧ intr U V m cx cy' k ∧ W = nE U V m cx cy' k) Z0 → ∃ Z, fX12_laysNearest_L89 K (iI cx) (iI cy') px py cor cors fu (nI i) (jJ (Z0.1 / G3 Z0)) (jJ (Z0.2.1 / G3 Z0)) (jJ (Z0.2.2 / G3 Z0)) (jJ (D3 cx cy' Z0 / G2 cx cy' Z0)) (jJ (Z0.2.2 * Z0.2.2 / G2 cx cy' Z0)) = some (jJ (Z.1 / G3 Z), jJ (Z.2.1 / G3 Z), jJ (Z.2.2 / G3 Z), jJ (D3 cx cy' Z / G2 cx cy' Z), jJ (Z.2.2 * Z.2.2 / G2 cx cy' Z)) ∧ mst U V m cx cy' (fun W => (∃ k, k < m ∧ W = (U k, V k, 1)) ∨ ∃ k, k < e ∧ intr U V m cx cy' k ∧ W = nE U V m cx cy' k) Z := by
  intro fu
  induction fu with
  | zero => intro i Z0 h1 h2; omega
  | succ fu ih =>
    intro i Z0 h1 h2 hM
    obtain ⟨hw, hc, hcor⟩ := id h
    rw [fX12_laysNearest_L89, hed]
    simp only [b1, Option.bind_some]
    by_cases c : i = e
    · subst c
      rw [if_pos (nI_le (Nat.le_refl i) (by omega))]
      exact ⟨Z0, rfl, hM⟩
    · have him : i < m := by omega
      rw [if_neg (nI_ge (show i < e by omega) (by omega))]
      obtain ⟨ca, ca1, ca2, ca3, ca4⟩ := hcor i (by omega)
      obtain ⟨cb, cb1, cb2, cb3, cb4⟩ := hcor (i + 1) (by omega)
      have ca2' : fX12_cornerOf K cor cors 0 (nI i) = some (nI ca) := ca2
      have cb2' : fX12_cornerOf K cor cors 0 (nI (i + 1)) = some (nI cb) := cb2
      have ci : cy m i = i := if_pos him
      rw [ci] at ca3 ca4
      obtain ⟨u1, u2⟩ := hU i him
      obtain ⟨v1, v2⟩ := hU (cy m (i + 1)) (cy_lt h0)
      have f1 := mulB (u := U (cy m (i + 1)) - U i) (v := U (cy m (i + 1)) - U i) (a := 40) (b := 40) (by omega) (by omega)
      have f2 := mulB (u := V (cy m (i + 1)) - V i) (v := V (cy m (i + 1)) - V i) (a := 40) (b := 40) (by omega) (by omega)
      have f3 := mulB (u := U (cy m (i + 1)) - U i) (v := cx - U i) (a := 40) (b := 40) (by omega) (by omega)
      have f4 := mulB (u := V (cy m (i + 1)) - V i) (v := cy' - V i) (a := 40) (b := 40) (by omega) (by omega)
      simp only [nI_1, ca2', cb2', Option.bind_some, gd_t (inb_nI ca1 (by decide)), gd_t (inb_nI cb1 (by decide)), nI_clamp (show ca < 2 ^ 31 by omega), nI_clamp (show cb < 2 ^ 31 by omega), ca3, ca4, cb3, cb4, xl, iI_sub, jn]
      rw [iI_long (show s32 (U i) from ⟨by omega, by omega⟩), iI_long (show s32 (V i) from ⟨by omega, by omega⟩), iI_long (show s32 (U (cy m (i + 1)) - U i) from ⟨by omega, by omega⟩), iI_long (show s32 (V (cy m (i + 1)) - V i) from ⟨by omega, by omega⟩), iI_long (show s32 (cx - U i) from ⟨by omega, by omega⟩), iI_long (show s32 (cy' - V i) from ⟨by omega, by omega⟩)]
      simp only [jJ_mul, jJ_add]
      rw [Int.mul_comm (cx - U i), Int.mul_comm (cy' - V i)]
      have s1 : s64 ((U (cy m (i + 1)) - U i) * (cx - U i) + (V (cy m (i + 1)) - V i) * (cy' - V i)) := ⟨by omega, by omega⟩
      have s2 : s64 ((U (cy m (i + 1)) - U i) * (U (cy m (i + 1)) - U i) + (V (cy m (i + 1)) - V i) * (V (cy m (i + 1)) - V i)) := ⟨by omega, by omega⟩
      have t1 : (jJ ((U (cy m (i + 1)) - U i) * (cx - U i) + (V (cy m (i + 1)) - V i) * (cy' - V i)) ≤ 0) ↔ (U (cy m (i + 1)) - U i) * (cx - U i) + (V (cy m (i + 1)) - V i) * (cy' - V i) ≤ 0 := jJ_le (b := 0) s1 ⟨by omega, by omega⟩
      simp only [t1, jJ_le s2 s1]
      have keep : ¬ intr U V m cx cy' i → ∃ Z, fX12_laysNearest_L89 K (iI cx) (iI cy') px py cor cors fu (nI (i + 1)) (jJ (Z0.1 / G3 Z0)) (jJ (Z0.2.1 / G3 Z0)) (jJ (Z0.2.2 / G3 Z0)) (jJ (D3 cx cy' Z0 / G2 cx cy' Z0)) (jJ (Z0.2.2 * Z0.2.2 / G2 cx cy' Z0)) = some (jJ (Z.1 / G3 Z), jJ (Z.2.1 / G3 Z), jJ (Z.2.2 / G3 Z), jJ (D3 cx cy' Z / G2 cx cy' Z), jJ (Z.2.2 * Z.2.2 / G2 cx cy' Z)) ∧ mst U V m cx cy' (fun W => (∃ k, k < m ∧ W = (U k, V k, 1)) ∨ ∃ k, k < e ∧ intr U V m cx cy' k ∧ W = nE U V m cx cy' k) Z := by
        intro hni
        refine ih (i + 1) Z0 (by omega) (by omega) (mst_weak hM ?_)
        rintro W (hW | ⟨k, hk, hin, e⟩)
        · exact Or.inl hW
        · refine Or.inr ⟨k, ?_, hin, e⟩
          by_cases z : k = i
          · subst z; exact absurd hin hni
          · omega
      by_cases c1 : (U (cy m (i + 1)) - U i) * (cx - U i) + (V (cy m (i + 1)) - V i) * (cy' - V i) ≤ 0
      · rw [if_pos c1]
        exact keep (fun z => by have := z.1; omega)
      · rw [if_neg c1]
        by_cases c2 : (U (cy m (i + 1)) - U i) * (U (cy m (i + 1)) - U i) + (V (cy m (i + 1)) - V i) * (V (cy m (i + 1)) - V i) ≤ (U (cy m (i + 1)) - U i) * (cx - U i) + (V (cy m (i + 1)) - V i) * (cy' - V i)
        · rw [if_pos c2]
          exact keep (fun z => by have := z.2; omega)
        · rw [if_neg c2]
          have hin : intr U V m cx cy' i := ⟨by omega, by omega⟩
          have hO := edge_ok h0 hU hcx hcy him
          have hn : nE U V m cx cy' i = (U i * ((U (cy m (i + 1)) - U i) * (U (cy m (i + 1)) - U i) + (V (cy m (i + 1)) - V i) * (V (cy m (i + 1)) - V i)) + ((U (cy m (i + 1)) - U i) * (cx - U i) + (V (cy m (i + 1)) - V i) * (cy' - V i)) * (U (cy m (i + 1)) - U i), V i * ((U (cy m (i + 1)) - U i) * (U (cy m (i + 1)) - U i) + (V (cy m (i + 1)) - V i) * (V (cy m (i + 1)) - V i)) + ((U (cy m (i + 1)) - U i) * (cx - U i) + (V (cy m (i + 1)) - V i) * (cy' - V i)) * (V (cy m (i + 1)) - V i), (U (cy m (i + 1)) - U i) * (U (cy m (i + 1)) - U i) + (V (cy m (i + 1)) - V i) * (V (cy m (i + 1)) - V i)) := by
            unfold nE nS
            rw [if_neg c1, if_neg c2]
          have hq := nearerM K hK hcx hcy hM.1 hO
          have p1 : (nE U V m cx cy' i).1 = U i * ((U (cy m (i + 1)) - U i) * (U (cy m (i + 1)) - U i) + (V (cy m (i + 1)) - V i) * (V (cy m (i + 1)) - V i)) + ((U (cy m (i + 1)) - U i) * (cx - U i) + (V (cy m (i + 1)) - V i) * (cy' - V i)) * (U (cy m (i + 1)) - U i) := by rw [hn]
          have p2 : (nE U V m cx cy' i).2.1 = V i * ((U (cy m (i + 1)) - U i) * (U (cy m (i + 1)) - U i) + (V (cy m (i + 1)) - V i) * (V (cy m (i + 1)) - V i)) + ((U (cy m (i + 1)) - U i) * (cx - U i) + (V (cy m (i + 1)) - V i) * (cy' - V i)) * (V (cy m (i + 1)) - V i) := by rw [hn]
          have p3 : (nE U V m cx cy' i).2.2 = (U (cy m (i + 1)) - U i) * (U (cy m (i + 1)) - U i) + (V (cy m (i + 1)) - V i) * (V (cy m (i + 1)) - V i) := by rw [hn]
          rw [p1, p2, p3] at hq
          rw [hq]
          simp only [b5, Option.bind_some]
          refine ih (i + 1) (pik cx cy' Z0 (nE U V m cx cy' i)) (by omega) (by omega) ?_
          refine mst_weak (mst_pik hM ?_ hO (edge_cv U V h0 cx cy' him)) ?_
          · rintro Z (⟨k, hk, e⟩ | ⟨k, hk, -, e⟩)
            · rw [e]; exact Int.le_refl 1
            · rw [e]; exact (nS_ok _ _ _ _ _ _).1
          · rintro W (hW | ⟨k, hk, hin, e⟩)
            · exact Or.inl (Or.inl hW)
            · by_cases z : k = i
              · right; rw [e, z]
              · left; exact Or.inr ⟨k, by omega, hin, e⟩
/-- the model's nearest place, in lowest terms -/
theorem nearM (K : Nat) (hK : 4000 ≤ K) {px py cor cors : Nat → Int32} {U V : Nat → Int} {m : Nat} (hm : m < 48) (h : hulM K px py cor cors 0 U V m) (hU : okU U V m) (hG : PG U V m) (hC : ∀ k : Nat, k < m → inH U V m (U k) (V k) 1) {cx cy' : Int} (hcx : -20 ≤ cx ∧ cx ≤ 20) (hcy : -20 ≤ cy' ∧ cy' ≤ 20) (p q b fa fb : Int64) : ∃ P Q L, fX12_laysNearest K (iI cx) (iI cy') p q b fa fb px py cor cors = some (jJ (P / G3 (P, Q, L)), jJ (Q / G3 (P, Q, L)), jJ (L / G3 (P, Q, L)), jJ (d2 cx cy' P Q L / G2 cx cy' (P, Q, L)), jJ (L * L / G2 cx cy' (P, Q, L))) ∧ isNr U V m cx cy' P Q L := by
  have h0 := hG.1
  unfold fX12_laysNearest
  have hs := sideM K hK h h0 hm hU (okP_c hcx hcy)
  rw [← iI_long (show s32 cx from ⟨by omega, by omega⟩), ← iI_long (show s32 cy' from ⟨by omega, by omega⟩)] at hs
  rw [show fX12_sideOf K px py cor cors 0 (iI cx).toInt64 (iI cy').toInt64 1 = _ from hs]
  simp only [b1, Option.bind_some]
  by_cases c : inH U V m cx cy' 1
  · rw [if_neg (fun z => (sdv_in U V m cx cy' 1).mp z c)]
    rw [iI_long (show s32 cx from ⟨by omega, by omega⟩), iI_long (show s32 cy' from ⟨by omega, by omega⟩)]
    rw [show fX12_nearer K (iI cx) (iI cy') p q b fa 0 (jJ cx) (jJ cy') 1 = _ from nearerM0 K hK hcx hcy (Z := (cx, cy', 1)) (okZ_c hcx hcy) p q b fa]
    exact ⟨cx, cy', 1, rfl, okZ_c hcx hcy, Or.inl ⟨c, rfl, rfl, rfl⟩⟩
  · rw [if_pos ((sdv_in U V m cx cy' 1).mpr c)]
    obtain ⟨K', rfl⟩ : ∃ k, K = k + 1 := ⟨K - 1, by omega⟩
    obtain ⟨hw, hc, hcor⟩ := id h
    rw [fX12_laysNearest_L42, show (0 : Int32).toNatClampNeg = 0 from rfl, hc, if_neg (show ¬ nI m ≤ 0 from (show ¬ nI m ≤ nI 0 from nI_ge h0 (by omega)))]
    obtain ⟨ca, ca1, ca2, ca3, ca4⟩ := hcor 0 (by omega)
    have ca2' : fX12_cornerOf (K' + 1) cor cors 0 0 = some (nI ca) := ca2
    rw [show cy m 0 = 0 from if_pos h0] at ca3 ca4
    obtain ⟨u1, u2⟩ := hU 0 h0
    simp only [show (0 : Int32) + 1 = nI 1 from rfl, ca2', b1, Option.bind_some, gd_t (inb_nI ca1 (by decide)), nI_clamp (show ca < 2 ^ 31 by omega), ca3, ca4, xl]
    rw [iI_long (show s32 (U 0) from ⟨by omega, by omega⟩), iI_long (show s32 (V 0) from ⟨by omega, by omega⟩)]
    rw [show fX12_nearer (K' + 1) (iI cx) (iI cy') p q b fa 0 (jJ (U 0)) (jJ (V 0)) 1 = _ from nearerM0 (K' + 1) hK hcx hcy (Z := (U 0, V 0, 1)) (corn_okZ hU hcx hcy h0) p q b fa]
    simp only [b5, Option.bind_some]
    obtain ⟨Z, g1, g2⟩ := findM1 (K' + 1) hK h hm hU hcx hcy K' 1 (U 0, V 0, 1) (by omega) (by omega) (mst_weak (mst_first (corn_okZ hU hcx hcy h0) (corn_cv U V h0)) (fun W ⟨k, hk, e⟩ => by rw [e, show k = 0 by omega]))
    rw [g1]
    simp only [Option.bind_some]
    have hed : ∃ e, e ≤ m ∧ fX12_edges (K' + 1) cors 0 = some (nI e) ∧ ∀ i, i < m → (m = 2 → i = 0) → intr U V m cx cy' i → i < e := by
      by_cases h3 : 3 ≤ m
      · exact ⟨m, Nat.le_refl m, edgesM3 (K' + 1) h hm h3, fun i hi _ _ => hi⟩
      · refine ⟨m - 1, by omega, edgesM2 (K' + 1) h h0 (by omega), fun i hi h2 hin => ?_⟩
        have hcase : m = 1 ∨ m = 2 := by omega
        rcases hcase with rfl | rfl
        · exfalso
          have : i = 0 := by omega
          subst this
          have := hin.1
          rw [show cy 1 (0 + 1) = 0 from rfl] at this
          simp at this
        · have := h2 rfl; omega
    obtain ⟨e, he, hed, hlt⟩ := hed
    obtain ⟨Z2, k1, k2⟩ := findM2 (K' + 1) hK h h0 hm hU hcx hcy he hed (K' + 1) 0 Z (by omega) (by omega) (mst_weak g2 (fun W hW => by
      rcases hW with hW | ⟨k, hk, -⟩
      · exact hW
      · omega))
    rw [show fX12_laysNearest_L89 (K' + 1) (iI cx) (iI cy') px py cor cors (K' + 1) 0 _ _ _ _ _ = _ from k1]
    refine ⟨Z2.1, Z2.2.1, Z2.2.2, rfl, mst_isNr hG hC c (fun i hi h2 => ?_) k2⟩
    by_cases hin : intr U V m cx cy' i
    · exact ⟨nE U V m cx cy' i, Or.inr ⟨i, hlt i hi h2 hin, hin, rfl⟩, rfl, rfl, rfl⟩
    · rcases nS_cases (U i) (V i) (U (cy m (i + 1))) (V (cy m (i + 1))) cx cy' with ⟨c1, e⟩ | ⟨c1, c2, e⟩ | ⟨c1, c2, e⟩
      · exact ⟨(U i, V i, 1), Or.inl ⟨i, hi, rfl⟩, by unfold nE; rw [e], by unfold nE; rw [e], by unfold nE; rw [e]⟩
      · exact ⟨(U (cy m (i + 1)), V (cy m (i + 1)), 1), Or.inl ⟨cy m (i + 1), cy_lt h0, rfl⟩, by unfold nE; rw [e], by unfold nE; rw [e], by unfold nE; rw [e]⟩
      · exact absurd ⟨c1, c2⟩ hin
/-- the same place, the same lowest terms -/
theorem isNr_red {U V : Nat → Int} {m : Nat} {cx cy P Q L P2 Q2 L2 : Int} (h : isNr U V m cx cy P Q L) (h2 : isNr U V m cx cy P2 Q2 L2) : P / G3 (P, Q, L) = P2 / G3 (P2, Q2, L2) ∧ Q / G3 (P, Q, L) = Q2 / G3 (P2, Q2, L2) ∧ L / G3 (P, Q, L) = L2 / G3 (P2, Q2, L2) ∧ d2 cx cy P Q L / G2 cx cy (P, Q, L) = d2 cx cy P2 Q2 L2 / G2 cx cy (P2, Q2, L2) ∧ L * L / G2 cx cy (P, Q, L) = L2 * L2 / G2 cx cy (P2, Q2, L2) := by
  obtain ⟨e1, e2⟩ := isNr_uniq h h2
  have l1 := h.1.1.1
  have l2 := h2.1.1.1
  obtain ⟨r1, r2, r3⟩ := red_eq (show 0 < L by omega) (show 0 < L2 by omega) e1 e2
  have s1 := (okZ_sq h.1).2.1
  have s2 := (okZ_sq h2.1).2.1
  have hd : d2 cx cy P2 Q2 L2 * (L * L) = d2 cx cy P Q L * (L2 * L2) := by
    unfold d2
    have k1 : ((P2 - cx * L2) * (P2 - cx * L2) + (Q2 - cy * L2) * (Q2 - cy * L2)) * (L * L) = (P2 * L - cx * L2 * L) * (P2 * L - cx * L2 * L) + (Q2 * L - cy * L2 * L) * (Q2 * L - cy * L2 * L) := by grind
    rw [k1, e1, e2]; grind
  obtain ⟨q1, q2⟩ := red2_eq (show 0 < L * L by omega) (show 0 < L2 * L2 by omega) hd
  exact ⟨r1, r2, r3, q1, q2⟩
