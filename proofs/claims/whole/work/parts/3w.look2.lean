--@ needs 3v.look
/-! looking: class -/
theorem l67s (K : Nat) {n : Nat} {x y : Nat → Int32} {X Y : Nat → Int} (h : Pts n x y X Y) {cx cy : Int} (hcx : -20 ≤ cx ∧ cx ≤ 20) (hcy : -20 ≤ cy ∧ cy ≤ 20) {i j : Nat} (hi : i < 3) (hj : j < 3) {a b : Nat} (ha : a < n) (hb : b < n) {ch : Nat → Int32} (ci : ch i = nI a) (cj : ch j = nI b) {Z0 : T3} (h0 : O3 cx cy Z0) {fu : Nat} {sd : Int32} : fX7_look_L67 K (nI i) ch (iI cx) (iI cy) x y (fu + 1) (nI j) sd (jJ Z0.1) (jJ Z0.2.1) (jJ Z0.2.2) (jJ (D3 cx cy Z0)) (jJ (Z0.2.2 * Z0.2.2)) = fX7_look_L67 K (nI i) ch (iI cx) (iI cy) x y fu (nI (j + 1)) (if tak cx cy Z0 (nP3 X Y cx cy a b) then nI i + nI j - 1 else sd) (jJ (pik cx cy Z0 (nP3 X Y cx cy a b)).1) (jJ (pik cx cy Z0 (nP3 X Y cx cy a b)).2.1) (jJ (pik cx cy Z0 (nP3 X Y cx cy a b)).2.2) (jJ (D3 cx cy (pik cx cy Z0 (nP3 X Y cx cy a b)))) (jJ ((pik cx cy Z0 (nP3 X Y cx cy a b)).2.2 * (pik cx cy Z0 (nP3 X Y cx cy a b)).2.2)) := by
  have hn := h.1
  obtain ⟨a1, a2, ra⟩ := h.2 a ha
  obtain ⟨b1', b2', rb⟩ := h.2 b hb
  have o : O3 cx cy (nP3 X Y cx cy a b) := nS_okZ ra.1 ra.2 rb.1 rb.2 hcx hcy
  have E := edgeC K ra.1 ra.2 rb.1 rb.2 hcx hcy (jJ Z0.1) (jJ Z0.2.1) (jJ Z0.2.2) (jJ (D3 cx cy Z0)) (jJ (Z0.2.2 * Z0.2.2))
  rw [offC K hcx hcy h0 o, sm_b6, gd_t z01_if] at E
  rw [fX7_look_L67, if_neg (show ¬ (3 : Int32) ≤ nI j from (nI_ge hj (by decide) : ¬ nI 3 ≤ nI j))]
  simp only [gd_t (inb_nI hi (by decide)), gd_t (inb_nI hj (by decide)), nI_clamp (show i < 2 ^ 31 by omega), nI_clamp (show j < 2 ^ 31 by omega), ci, cj, xl_e, gd_t (inb_nI (show a < 24 by omega) (by decide)), gd_t (inb_nI (show b < 24 by omega) (by decide)), nI_clamp (show a < 2 ^ 31 by omega), nI_clamp (show b < 2 ^ 31 by omega), a1, a2, b1', b2', E, sm_b6, jn_e, nI_1]
  by_cases q : tak cx cy Z0 (nP3 X Y cx cy a b)
  · rw [show (if tak cx cy Z0 (nS (X a) (Y a) (X b) (Y b) cx cy) then (1 : Int32) else 0) = 1 from if_pos q, if_neg one_ne, if_pos q]
  · rw [show (if tak cx cy Z0 (nS (X a) (Y a) (X b) (Y b) cx cy) then (1 : Int32) else 0) = 0 from if_neg q, if_pos rfl, if_neg q]
theorem l67z (K : Nat) {n : Nat} {x y : Nat → Int32} {X Y : Nat → Int} (h : Pts n x y X Y) {cx cy : Int} (hcx : -20 ≤ cx ∧ cx ≤ 20) (hcy : -20 ≤ cy ∧ cy ≤ 20) {i j : Nat} (hi : i < 3) (hj : j < 3) {a b : Nat} (ha : a < n) (hb : b < n) {ch : Nat → Int32} (ci : ch i = nI a) (cj : ch j = nI b) {fu : Nat} {sd : Int32} {p q r s : Int64} : fX7_look_L67 K (nI i) ch (iI cx) (iI cy) x y (fu + 1) (nI j) sd p q r s 0 = fX7_look_L67 K (nI i) ch (iI cx) (iI cy) x y fu (nI (j + 1)) (nI i + nI j - 1) (jJ (nP3 X Y cx cy a b).1) (jJ (nP3 X Y cx cy a b).2.1) (jJ (nP3 X Y cx cy a b).2.2) (jJ (D3 cx cy (nP3 X Y cx cy a b))) (jJ ((nP3 X Y cx cy a b).2.2 * (nP3 X Y cx cy a b).2.2)) := by
  have hn := h.1
  obtain ⟨a1, a2, ra⟩ := h.2 a ha
  obtain ⟨b1', b2', rb⟩ := h.2 b hb
  have E := edgeC K ra.1 ra.2 rb.1 rb.2 hcx hcy p q r s 0
  rw [offC0 K hcx hcy, sm_b6, gd_t (show z01 1 = true from rfl)] at E
  rw [fX7_look_L67, if_neg (show ¬ (3 : Int32) ≤ nI j from (nI_ge hj (by decide) : ¬ nI 3 ≤ nI j))]
  simp only [gd_t (inb_nI hi (by decide)), gd_t (inb_nI hj (by decide)), nI_clamp (show i < 2 ^ 31 by omega), nI_clamp (show j < 2 ^ 31 by omega), ci, cj, xl_e, gd_t (inb_nI (show a < 24 by omega) (by decide)), gd_t (inb_nI (show b < 24 by omega) (by decide)), nI_clamp (show a < 2 ^ 31 by omega), nI_clamp (show b < 2 ^ 31 by omega), a1, a2, b1', b2', E, sm_b6, jn_e, nI_1]
  rw [if_neg one_ne]
theorem lookC (K : Nat) (hK : 4000 ≤ K) {n : Nat} {x y : Nat → Int32} {X Y : Nat → Int} (h : Pts n x y X Y) {ch : Nat → Int32} {t : N3} (ht : tIn n t) (hc : cho ch t.1 t.2.1 t.2.2) {cx cy : Int} (hcx : -20 ≤ cx ∧ cx ≤ 20) (hcy : -20 ≤ cy ∧ cy ≤ 20) (sd : Int32) (nx ny nl ns nsl : Int64) (fx fy : Int32) : fX7_look K sd ch nx ny nl ns nsl fx fy (iI cx) (iI cy) x y = some (if hold3 X Y cx cy t = true then sd else nI (sd3 X Y cx cy t), jJ (zz X Y cx cy t).1, jJ (zz X Y cx cy t).2.1, jJ (zz X Y cx cy t).2.2, jJ (D3 cx cy (zz X Y cx cy t)), jJ ((zz X Y cx cy t).2.2 * (zz X Y cx cy t).2.2), iI cx, iI cy) := by
  have hn := h.1
  obtain ⟨k, rfl⟩ : ∃ k, K = k + 4 := ⟨K - 4, by omega⟩
  obtain ⟨h1, h2, h3⟩ := ht
  obtain ⟨c0, c1, c2⟩ := hc
  obtain ⟨oA, oB, oC, -⟩ := zz_ok h ⟨h1, h2, h3⟩ hcx hcy
  obtain ⟨a1, a2, ra⟩ := h.2 t.1 h1
  obtain ⟨b1', b2', rb⟩ := h.2 t.2.1 h2
  obtain ⟨d1, d2', rc⟩ := h.2 t.2.2 h3
  have o2 : O3 cx cy (nP3 X Y cx cy t.1 t.2.2) := nS_okZ ra.1 ra.2 rc.1 rc.2 hcx hcy
  have o3 : O3 cx cy (nP3 X Y cx cy t.2.1 t.2.2) := nS_okZ rb.1 rb.2 rc.1 rc.2 hcx hcy
  unfold fX7_look fX4_start
  rw [sm_b4, chH (k + 4) h h1 h2 h3 ⟨c0, c1, c2⟩ hcx hcy, sm_b1]
  by_cases w : hold3 X Y cx cy t = true
  · have ez : zz X Y cx cy t = (cx, cy, 1) := if_pos w
    rw [show (if hold3 X Y cx cy (t.1, t.2.1, t.2.2) = true then (1 : Int32) else 0) = 1 from if_pos w, if_neg one_ne, if_pos w, ez, iI_long (show s32 cx from ⟨by omega, by omega⟩), iI_long (show s32 cy from ⟨by omega, by omega⟩)]
    have := offC0 (k + 4) hcx hcy (Z := (cx, cy, 1)) nx ny nl 0
    rw [show fX4_offer (k + 4) nx ny nl 0 0 (iI cx) (iI cy) (jJ cx) (jJ cy) 1 = _ from this, sm_b6]
  · have ez : zz X Y cx cy t = zC X Y cx cy t := if_neg w
    rw [show (if hold3 X Y cx cy (t.1, t.2.1, t.2.2) = true then (1 : Int32) else 0) = 0 from if_neg w, if_pos rfl, if_neg w, ez]
    have n3 : ∀ i : Nat, i < 3 → ¬ (3 : Int32) ≤ nI i := fun i hi => (nI_ge hi (by decide) : ¬ nI 3 ≤ nI i)
    have y3 : (3 : Int32) ≤ nI 3 := by decide
    have j1 : nI 0 + nI 1 - 1 = nI 0 := by decide
    have j2 : nI 0 + nI 2 - 1 = nI 1 := by decide
    have j3 : nI 1 + nI 2 - 1 = nI 2 := by decide
    have f3 : ∀ (i : Nat) (s : Int32) (a b c d e : Int64) (fu : Nat), fX7_look_L67 (k + 4) (nI i) ch (iI cx) (iI cy) x y (fu + 1) (nI 3) s a b c d e = some (s, a, b, c, d, e) := by
      intro i s a b c d e fu
      rw [fX7_look_L67, if_pos y3]
    rw [show (0 : Int32) = nI 0 from rfl, fX7_look_L58, if_neg (n3 0 (by omega)), xl_e, nI_1, show 0 + 1 = 1 from rfl, l67z (k + 4) h hcx hcy (i := 0) (j := 1) (by omega) (by omega) h1 h2 c0 c1, show 1 + 1 = 2 from rfl, show nP3 X Y cx cy t.1 t.2.1 = zA X Y cx cy t from rfl, l67s (k + 4) h hcx hcy (i := 0) (j := 2) (by omega) (by omega) h1 h3 c0 c2 oA, show 2 + 1 = 3 from rfl, f3, sm_b6, xl_e, show pik cx cy (zA X Y cx cy t) (nP3 X Y cx cy t.1 t.2.2) = zB X Y cx cy t from rfl]
    rw [fX7_look_L58, if_neg (n3 1 (by omega)), xl_e, nI_1, show 1 + 1 = 2 from rfl, l67s (k + 4) h hcx hcy (i := 1) (j := 2) (by omega) (by omega) h2 h3 c1 c2 oB, show 2 + 1 = 3 from rfl, f3, sm_b6, xl_e, show pik cx cy (zB X Y cx cy t) (nP3 X Y cx cy t.2.1 t.2.2) = zC X Y cx cy t from rfl]
    rw [fX7_look_L58, if_neg (n3 2 (by omega)), xl_e, nI_1, show 2 + 1 = 3 from rfl, f3, sm_b6, xl_e, fX7_look_L58, if_pos y3, sm_b6]
    rw [j1, j2, j3]
    have es : (if tak cx cy (zB X Y cx cy t) (nP3 X Y cx cy t.2.1 t.2.2) then nI 2 else if tak cx cy (zA X Y cx cy t) (nP3 X Y cx cy t.1 t.2.2) then nI 1 else nI 0) = nI (sd3 X Y cx cy t) := by
      unfold sd3
      split
      · rfl
      · split <;> rfl
    rw [es]
