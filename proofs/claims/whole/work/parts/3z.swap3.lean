--@ needs 3y.swap2 2w.line
/-! one exchange, class and model -/
def hdI (cx cy : Int) (Z : T3) : Int32 := if D3 cx cy Z = 0 then 1 else 0
theorem trioM (K : Nat) (hK : 4000 ≤ K) {n : Nat} {px py : Nat → Int32} {X Y : Nat → Int} (h : Pts n px py X Y) {tr : Nat → Int32} {t : N3} (ht : tIn n t) (hc : cho tr t.1 t.2.1 t.2.2) {cx cy : Int} (hcx : -20 ≤ cx ∧ cx ≤ 20) (hcy : -20 ≤ cy ∧ cy ≤ 20) (rm : Int32) (p q b fa fb : Int64) (hd : Int32) (cor cors row : Nat → Int32) : ∃ rm' cor' cors' row', fX12_laysTrioNearest K (nI n) (iI cx) (iI cy) rm p q b fa fb hd px py cor cors row tr = some (hdI cx cy (zz X Y cx cy t), rm', jJ (rdZ (zz X Y cx cy t)).1, jJ (rdZ (zz X Y cx cy t)).2.1, jJ (rdZ (zz X Y cx cy t)).2.2, jJ (D3 cx cy (zz X Y cx cy t) / G2 cx cy (zz X Y cx cy t)), jJ ((zz X Y cx cy t).2.2 * (zz X Y cx cy t).2.2 / G2 cx cy (zz X Y cx cy t)), hdI cx cy (zz X Y cx cy t), cor', cors', row') := by
  have hn := h.1
  obtain ⟨h1, h2, h3⟩ := ht
  obtain ⟨c0, c1, c2⟩ := hc
  have st := S3_st hn (t := t) ⟨h1, h2, h3⟩
  obtain ⟨rm', cor', cors', row', g1, g2⟩ := laysM0 K hK h st rm cor cors row
  have hU := hU_ok h st
  have hr := hN_rng (X := X) (Y := Y) hn st
  have hG := (hull_pg h st).1
  obtain ⟨P, Q, L, n1, n2⟩ := nearM K hK (by omega) (hulB_M K g2) hU hG (hC_of h st) hcx hcy p q b fa fb
  obtain ⟨-, -, -, oZ⟩ := zz_ok h (t := t) ⟨h1, h2, h3⟩ hcx hcy
  obtain ⟨sm', -⟩ := zz_same h (t := t) ⟨h1, h2, h3⟩ (W := (P, Q, L)) n2
  obtain ⟨r1, r2, r3, r4, r5⟩ := smF_red (cx := cx) (cy := cy) (Z := zz X Y cx cy t) (W := (P, Q, L)) oZ n2.1 sm'
  have zero := (d2_zero oZ).2
  have bd := okZ_sq oZ
  have q0 := quo_le (a := D3 cx cy (zz X Y cx cy t)) (B := 32768000000) (g := G2 cx cy (zz X Y cx cy t)) (gcd_pos2 (by have := bd.2.1; omega)) bd.1
  refine ⟨rm', cor', cors', row', ?_⟩
  unfold fX12_laysTrioNearest
  rw [show (0 : Int32).toNatClampNeg = 0 from rfl, show (1 : Int32).toNatClampNeg = 1 from rfl, show (2 : Int32).toNatClampNeg = 2 from rfl, c0, c1, c2, three_bP K hn h1 h2 h3, sm_b1]
  rw [show fX12_laysHull K (nI n) rm px py cor cors row 0 (bP (t3 t.1 t.2.1 t.2.2) n) = _ from g1, sm_b4, n1, sm_b5, jn_e]
  have e1 : P / G3 (P, Q, L) = (rdZ (zz X Y cx cy t)).1 := r1.symm
  have e2 : Q / G3 (P, Q, L) = (rdZ (zz X Y cx cy t)).2.1 := r2.symm
  have e3 : L / G3 (P, Q, L) = (rdZ (zz X Y cx cy t)).2.2 := r3.symm
  have e4 : d2 cx cy P Q L / G2 cx cy (P, Q, L) = D3 cx cy (zz X Y cx cy t) / G2 cx cy (zz X Y cx cy t) := r4.symm
  have e5 : L * L / G2 cx cy (P, Q, L) = (zz X Y cx cy t).2.2 * (zz X Y cx cy t).2.2 / G2 cx cy (zz X Y cx cy t) := r5.symm
  rw [e1, e2, e3, e4, e5]
  simp only [j_eq0 (show s64 (D3 cx cy (zz X Y cx cy t) / G2 cx cy (zz X Y cx cy t)) from ⟨by omega, by omega⟩)]
  unfold hdI
  by_cases w : D3 cx cy (zz X Y cx cy t) = 0
  · rw [if_pos (zero.mpr w), if_pos w]
    rfl
  · rw [if_neg (fun s => w (zero.mp s)), if_neg w]
    rfl
theorem sm_b8 {α₁ α₂ α₃ α₄ α₅ α₆ α₇ α₈ β : Type} (a : α₁) (b : α₂) (c : α₃) (d : α₄) (e : α₅) (f : α₆) (g : α₇) (h : α₈) (k : α₁ → α₂ → α₃ → α₄ → α₅ → α₆ → α₇ → α₈ → Option β) : b8 (some (a, b, c, d, e, f, g, h)) k = k a b c d e f g h := Eq.trans (rfl : b8 (some (a, b, c, d, e, f, g, h)) k = k a b c d e f g h) rfl
theorem sm_b11 {α₁ α₂ α₃ α₄ α₅ α₆ α₇ α₈ α₉ α₁₀ α₁₁ β : Type} (a : α₁) (b : α₂) (c : α₃) (d : α₄) (e : α₅) (f : α₆) (g : α₇) (h : α₈) (i : α₉) (j : α₁₀) (l : α₁₁) (k : α₁ → α₂ → α₃ → α₄ → α₅ → α₆ → α₇ → α₈ → α₉ → α₁₀ → α₁₁ → Option β) : b11 (some (a, b, c, d, e, f, g, h, i, j, l)) k = k a b c d e f g h i j l := Eq.trans (rfl : b11 (some (a, b, c, d, e, f, g, h, i, j, l)) k = k a b c d e f g h i j l) rfl
theorem sm_b12 {α₁ α₂ α₃ α₄ α₅ α₆ α₇ α₈ α₉ α₁₀ α₁₁ α₁₂ β : Type} (a : α₁) (b : α₂) (c : α₃) (d : α₄) (e : α₅) (f : α₆) (g : α₇) (h : α₈) (i : α₉) (j : α₁₀) (l : α₁₁) (m : α₁₂) (k : α₁ → α₂ → α₃ → α₄ → α₅ → α₆ → α₇ → α₈ → α₉ → α₁₀ → α₁₁ → α₁₂ → Option β) : b12 (some (a, b, c, d, e, f, g, h, i, j, l, m)) k = k a b c d e f g h i j l m := Eq.trans (rfl : b12 (some (a, b, c, d, e, f, g, h, i, j, l, m)) k = k a b c d e f g h i j l m) rfl
theorem sm_b13 {α₁ α₂ α₃ α₄ α₅ α₆ α₇ α₈ α₉ α₁₀ α₁₁ α₁₂ α₁₃ β : Type} (a : α₁) (b : α₂) (c : α₃) (d : α₄) (e : α₅) (f : α₆) (g : α₇) (h : α₈) (i : α₉) (j : α₁₀) (l : α₁₁) (m : α₁₂) (n : α₁₃) (k : α₁ → α₂ → α₃ → α₄ → α₅ → α₆ → α₇ → α₈ → α₉ → α₁₀ → α₁₁ → α₁₂ → α₁₃ → Option β) : b13 (some (a, b, c, d, e, f, g, h, i, j, l, m, n)) k = k a b c d e f g h i j l m n := Eq.trans (rfl : b13 (some (a, b, c, d, e, f, g, h, i, j, l, m, n)) k = k a b c d e f g h i j l m n) rfl
theorem mT_col {col : Nat → Int32} {t : N3} (h : rbT col t) {c : Nat} (hc : c < 3) : col (mT t c) = nI c := by
  have : c = 0 ∨ c = 1 ∨ c = 2 := by omega
  rcases this with rfl | rfl | rfl
  · exact h.1
  · exact h.2.1
  · exact h.2.2
theorem mT_lt {n : Nat} {t : N3} (h : tIn n t) {c : Nat} (hc : c < 3) : mT t c < n := by
  have : c = 0 ∨ c = 1 ∨ c = 2 := by omega
  rcases this with rfl | rfl | rfl
  · exact h.1
  · exact h.2.1
  · exact h.2.2
theorem swapJ (K : Nat) (hK : 4000 ≤ K) {n : Nat} {x y px py : Nat → Int32} {X Y : Nat → Int} (h : Pts n x y X Y) (h' : Pts n px py X Y) {col mcol : Nat → Int32} (hcol : ∀ i, i < n → mcol i = col i) {t : N3} (ht : tIn n t) (hrb : rbT col t) {ch tr : Nat → Int32} (hc : cho ch t.1 t.2.1 t.2.2) (hc' : cho tr t.1 t.2.1 t.2.2) {cx cy : Int} (hcx : -20 ≤ cx ∧ cx ≤ 20) (hcy : -20 ≤ cy ∧ cy ≤ 20) (gone sd : Int32) (nx ny nl ns nsl : Int64) (fx fy : Int32) (rm : Int32) (p q b fa fb : Int64) (went hd : Int32) (cor cors row : Nat → Int32) : ∃ r sd' gone' ch' rm' went' cor' cors' row' tr', fX7_exchange K gone sd ch nx ny nl ns nsl fx fy (nI n) (iI cx) (iI cy) x y col = some (r, gone', sd', ch', jJ (zz X Y cx cy t).1, jJ (zz X Y cx cy t).2.1, jJ (zz X Y cx cy t).2.2, jJ (D3 cx cy (zz X Y cx cy t)), jJ ((zz X Y cx cy t).2.2 * (zz X Y cx cy t).2.2), iI cx, iI cy) ∧ (∃ m1 m2 m3 m4 m5, fX12_swaps K (nI n) (iI cx) (iI cy) rm p q b fa fb went hd px py mcol cor cors row tr = some (r, rm', m1, m2, m3, m4, m5, went', hdI cx cy (zz X Y cx cy t), cor', cors', row', tr')) ∧ ((r = 0 ∧ gone' = gone ∧ went' = went ∧ ch' = ch ∧ tr' = tr) ∨ (r = 1 ∧ ∃ t', gone' = went' ∧ cho ch' t'.1 t'.2.1 t'.2.2 ∧ cho tr' t'.1 t'.2.1 t'.2.2 ∧ tIn n t' ∧ rbT col t' ∧ lt3 cx cy (zz X Y cx cy t') (zz X Y cx cy t))) := by
  have hn := h.1
  obtain ⟨-, -, oC, oZ⟩ := zz_ok h ht hcx hcy
  have bd : (0 ≤ D3 cx cy (zz X Y cx cy t) ∧ D3 cx cy (zz X Y cx cy t) ≤ 32768000000) ∧ 1 ≤ (zz X Y cx cy t).2.2 * (zz X Y cx cy t).2.2 ∧ (zz X Y cx cy t).2.2 * (zz X Y cx cy t).2.2 ≤ 10240000 := okZ_sq oZ
  obtain ⟨rm1, cor1, cors1, row1, f1⟩ := trioM K hK h' ht hc' hcx hcy rm p q b fa fb hd cor cors row
  unfold fX7_exchange fX12_swaps
  rw [lookC K hK h ht hc hcx hcy, sm_b8, f1, sm_b11]
  simp only [j_eq0 (show s64 (D3 cx cy (zz X Y cx cy t)) from ⟨by have := bd.1; omega, by have := bd.1; omega⟩)]
  by_cases w : D3 cx cy (zz X Y cx cy t) = 0
  · rw [if_pos w, show hdI cx cy (zz X Y cx cy t) = 1 from if_pos w, if_neg one_ne]
    exact ⟨0, _, _, _, _, _, _, _, _, _, rfl, ⟨_, _, _, _, _, rfl⟩, Or.inl ⟨rfl, rfl, rfl, rfl, rfl⟩⟩
  · have nh : ¬ hold3 X Y cx cy t = true := by
      intro s
      apply w
      rw [show zz X Y cx cy t = (cx, cy, 1) from if_pos s]
      show d2 cx cy cx cy 1 = 0
      unfold d2; simp
    have ez : zz X Y cx cy t = zC X Y cx cy t := if_neg nh
    rw [if_neg w, show hdI cx cy (zz X Y cx cy t) = 0 from if_neg w, if_pos rfl, if_neg nh, ez]
    rw [ez] at w bd
    obtain ⟨c, rm2, cor2, cors2, row2, c3, g1, g2, i, j, hi, hj, hic, hjc, hcv⟩ := goB K hK h h' ht hc hc' hcx hcy rm1 cor1 cors1 row1
    rw [g1, sm_b1, g2, sm_b5]
    unfold fX4_wayX fX4_wayY
    obtain ⟨⟨l1, l2⟩, z1, z2, v1, v2⟩ := oC
    obtain ⟨G0, e1, e2, e3, e4⟩ := rd_mul (Z := zC X Y cx cy t) l1
    have rb := rd_bd (cx := cx) (cy := cy) (Z := zC X Y cx cy t) ⟨⟨l1, l2⟩, z1, z2, v1, v2⟩
    have wx : (zC X Y cx cy t).1 - cx * (zC X Y cx cy t).2.2 = G3 (zC X Y cx cy t) * ((rdZ (zC X Y cx cy t)).1 - cx * (rdZ (zC X Y cx cy t)).2.2) := by
      generalize hz : rdZ (zC X Y cx cy t) = R at *
      rw [e3, e1]; generalize G3 (zC X Y cx cy t) = G; grind
    have wy : (zC X Y cx cy t).2.1 - cy * (zC X Y cx cy t).2.2 = G3 (zC X Y cx cy t) * ((rdZ (zC X Y cx cy t)).2.1 - cy * (rdZ (zC X Y cx cy t)).2.2) := by
      generalize hz : rdZ (zC X Y cx cy t) = R at *
      rw [e3, e2]; generalize G3 (zC X Y cx cy t) = G; grind
    have small : ∀ {m : Int}, -128000 ≤ G3 (zC X Y cx cy t) * m ∧ G3 (zC X Y cx cy t) * m ≤ 128000 → -128000 ≤ m ∧ m ≤ 128000 := by
      intro m hm
      have hg1 : 1 ≤ G3 (zC X Y cx cy t) := G0
      rcases Int.lt_or_le m 0 with s | s
      · have q := Int.mul_nonneg (show 0 ≤ G3 (zC X Y cx cy t) - 1 by omega) (show 0 ≤ -m by omega)
        have e : (G3 (zC X Y cx cy t) - 1) * -m = m - G3 (zC X Y cx cy t) * m := by grind
        omega
      · have := Int.mul_le_mul_of_nonneg_right hg1 s
        omega
    rw [iI_long (show s32 cx from ⟨by omega, by omega⟩), iI_long (show s32 cy from ⟨by omega, by omega⟩), jJ_mul, jJ_mul, jJ_sub, jJ_sub, jJ_mul, jJ_mul, jJ_sub, jJ_sub, sm_b1, sm_b1, xl_e, xl_e, wx, wy]
    have hgx := v1
    have hgy := v2
    rw [wx] at hgx
    rw [wy] at hgy
    have hmx := small hgx
    have hmy := small hgy
    obtain ⟨b', l', k1, k2, k3⟩ := bestJ K h h' hcol (nI c) hcx hcy (mx := (rdZ (zC X Y cx cy t)).1 - cx * (rdZ (zC X Y cx cy t)).2.2) (my := (rdZ (zC X Y cx cy t)).2.1 - cy * (rdZ (zC X Y cx cy t)).2.2) G0 hmx hmy hgx hgy K 0 (-1) 0 (by omega) (by omega) (Or.inl ⟨rfl, rfl, fun j hj => by omega⟩)
    rw [Int.mul_zero, show nI 0 = (0 : Int32) from rfl, show jJ 0 = (0 : Int64) from rfl] at k1
    rw [show nI 0 = (0 : Int32) from rfl, show jJ 0 = (0 : Int64) from rfl] at k2
    rw [k1, k2, sm_b2, sm_b2]
    rcases k3 with ⟨-, no⟩ | ⟨k, kn, rfl, kc, kl⟩
    · exact absurd (mT_col hrb c3) (no _ (mT_lt ht c3))
    · rw [if_neg (nI_m1 (by omega))]
      have pm := prd_bd h hcx hcy hmx hmy kn
      have pc := prd_bd h hcx hcy hgx hgy kn
      have ek : prd X Y cx cy (G3 (zC X Y cx cy t) * ((rdZ (zC X Y cx cy t)).1 - cx * (rdZ (zC X Y cx cy t)).2.2)) (G3 (zC X Y cx cy t) * ((rdZ (zC X Y cx cy t)).2.1 - cy * (rdZ (zC X Y cx cy t)).2.2)) k = G3 (zC X Y cx cy t) * l' := by rw [kl]; unfold prd; grind
      rw [ek] at pc
      rw [← kl] at pm
      generalize hmx' : (rdZ (zC X Y cx cy t)).1 - cx * (rdZ (zC X Y cx cy t)).2.2 = mx at *
      generalize hmy' : (rdZ (zC X Y cx cy t)).2.1 - cy * (rdZ (zC X Y cx cy t)).2.2 = my at *
      generalize hG : G3 (zC X Y cx cy t) = G at *
      have s1 := mulB (a := 10240000) (b := 3200) (u := G * l') (v := (zC X Y cx cy t).2.2) pc (by omega)
      have s2 := mulB (a := 10240000) (b := 3200) (u := l') (v := (rdZ (zC X Y cx cy t)).2.2) pm (by omega)
      have s3' := mulB (a := 128000) (b := 128000) hgx hgx
      have s4 := mulB (a := 128000) (b := 128000) hgy hgy
      have s5 := mulB (a := 128000) (b := 128000) hmx hmx
      have s6 := mulB (a := 128000) (b := 128000) hmy hmy
      simp only [jJ_mul, jJ_add, jJ_lt (show s64 (G * l' * (zC X Y cx cy t).2.2) from ⟨by omega, by omega⟩) (show s64 (G * mx * (G * mx) + G * my * (G * my)) from ⟨by omega, by omega⟩), jJ_lt (show s64 (l' * (rdZ (zC X Y cx cy t)).2.2) from ⟨by omega, by omega⟩) (show s64 (mx * mx + my * my) from ⟨by omega, by omega⟩)]
      have q1 : G * l' * (zC X Y cx cy t).2.2 = (G * G) * (l' * (rdZ (zC X Y cx cy t)).2.2) := by rw [e3]; grind
      have q2 : G * mx * (G * mx) + G * my * (G * my) = (G * G) * (mx * mx + my * my) := by grind
      have gg := Int.mul_pos G0 G0
      by_cases v : l' * (rdZ (zC X Y cx cy t)).2.2 < mx * mx + my * my
      · have vc : G * l' * (zC X Y cx cy t).2.2 < G * mx * (G * mx) + G * my * (G * my) := by
          rw [q1, q2]; exact Int.mul_lt_mul_of_pos_left v gg
        rw [if_pos v, if_pos vc, gd_t (inb_nI c3 (by decide)), gd_t (inb_nI c3 (by decide)), nI_clamp (by omega), xl_e, xl_e]
        refine ⟨1, _, _, _, _, _, _, _, _, _, rfl, ⟨_, _, _, _, _, rfl⟩, Or.inr ⟨rfl, setT t c k, rfl, cho_set hc c3, cho_set hc' c3, tIn_set ht c3 kn, rb_set hrb c3 kc, ?_⟩⟩
        refine fall h ht hcx hcy c3 kn hi hj hic hjc l1 hcv ?_
        rw [wx, wy, ek]
        have : D3 cx cy (zC X Y cx cy t) = G * mx * (G * mx) + G * my * (G * my) := by
          show ((zC X Y cx cy t).1 - cx * (zC X Y cx cy t).2.2) * ((zC X Y cx cy t).1 - cx * (zC X Y cx cy t).2.2) + ((zC X Y cx cy t).2.1 - cy * (zC X Y cx cy t).2.2) * ((zC X Y cx cy t).2.1 - cy * (zC X Y cx cy t).2.2) = _
          rw [wx, wy]
        rw [this]; exact vc
      · have vc : ¬ G * l' * (zC X Y cx cy t).2.2 < G * mx * (G * mx) + G * my * (G * my) := by
          rw [q1, q2]
          have := Int.mul_le_mul_of_nonneg_left (show mx * mx + my * my ≤ l' * (rdZ (zC X Y cx cy t)).2.2 by omega) (show 0 ≤ G * G by omega)
          omega
        rw [if_neg v, if_neg vc]
        exact ⟨0, _, _, _, _, _, _, _, _, _, rfl, ⟨_, _, _, _, _, rfl⟩, Or.inl ⟨rfl, rfl, rfl, rfl, rfl⟩⟩
