--@ needs 3x.swap
/-! one exchange -/
def prd (X Y : Nat → Int) (cx cy wx wy : Int) (p : Nat) : Int := (X p - cx) * wx + (Y p - cy) * wy
theorem prd_bd {n : Nat} {x y : Nat → Int32} {X Y : Nat → Int} (h : Pts n x y X Y) {cx cy : Int} (hcx : -20 ≤ cx ∧ cx ≤ 20) (hcy : -20 ≤ cy ∧ cy ≤ 20) {wx wy : Int} (hx : -128000 ≤ wx ∧ wx ≤ 128000) (hy : -128000 ≤ wy ∧ wy ≤ 128000) {p : Nat} (hp : p < n) : -10240000 ≤ prd X Y cx cy wx wy p ∧ prd X Y cx cy wx wy p ≤ 10240000 := by
  have o := off_bd h hcx hcy hp
  unfold off at o
  have a := mulB (a := 40) (b := 128000) o.1 hx
  have b := mulB (a := 40) (b := 128000) o.2 hy
  unfold prd
  omega
theorem bestJ (K : Nat) {n : Nat} {x y px py : Nat → Int32} {X Y : Nat → Int} (h : Pts n x y X Y) (h' : Pts n px py X Y) {col mcol : Nat → Int32} (hcol : ∀ i, i < n → mcol i = col i) (c : Int32) {cx cy : Int} (hcx : -20 ≤ cx ∧ cx ≤ 20) (hcy : -20 ≤ cy ∧ cy ≤ 20) {mx my G : Int} (hG : 0 < G) (hx : -128000 ≤ mx ∧ mx ≤ 128000) (hy : -128000 ≤ my ∧ my ≤ 128000) (gx : -128000 ≤ G * mx ∧ G * mx ≤ 128000) (gy : -128000 ≤ G * my ∧ G * my ≤ 128000) : ∀ (fu i : Nat) (b : Int32) (l : Int), i ≤ n → n - i < fu → ((b = -1 ∧ l = 0 ∧ ∀ j, j < i → col j ≠ c) ∨ ∃ k, k < n ∧ b = nI k ∧ col k = c ∧ l = prd X Y cx cy mx my k) → ∃ b' l', fX7_exchange_L51 K c (jJ (G * mx)) (jJ (G * my)) (nI n) (iI cx) (iI cy) x y col fu b (jJ (G * l)) (nI i) = some (b', jJ (G * l')) ∧ fX12_swaps_L56 K c (jJ mx) (jJ my) (nI n) (iI cx) (iI cy) px py mcol fu b (jJ l) (nI i) = some (b', jJ l') ∧ ((b' = -1 ∧ ∀ j, j < n → col j ≠ c) ∨ ∃ k, k < n ∧ b' = nI k ∧ col k = c ∧ l' = prd X Y cx cy mx my k) := by
  intro fu
  induction fu with
  | zero => intro i b l h1 h2; omega
  | succ fu ih =>
    intro i b l h1 h2 h3
    have hn := h.1
    rw [fX7_exchange_L51, fX12_swaps_L56]
    by_cases hi : i = n
    · subst hi
      rw [if_pos (nI_le (Nat.le_refl i) (by omega)), if_pos (nI_le (Nat.le_refl i) (by omega))]
      refine ⟨b, l, rfl, rfl, ?_⟩
      rcases h3 with ⟨e1, -, e3⟩ | e
      · exact Or.inl ⟨e1, e3⟩
      · exact Or.inr e
    · have hlt : i < n := by omega
      obtain ⟨a1, a2, ra⟩ := h.2 i hlt
      obtain ⟨b1', b2', -⟩ := h'.2 i hlt
      have o := off_bd h hcx hcy hlt
      unfold off at o
      have pc := prd_bd h hcx hcy gx gy hlt
      have pm := prd_bd h hcx hcy hx hy hlt
      have ec : (X i - cx) * (G * mx) + (Y i - cy) * (G * my) = G * prd X Y cx cy mx my i := by unfold prd; grind
      have em : (X i - cx) * mx + (Y i - cy) * my = prd X Y cx cy mx my i := rfl
      have pc' : -10240000 ≤ G * prd X Y cx cy mx my i ∧ G * prd X Y cx cy mx my i ≤ 10240000 := by rw [← ec]; exact pc
      rw [if_neg (nI_ge hlt (by omega)), if_neg (nI_ge hlt (by omega))]
      simp only [gd_t (inb_nI (show i < 24 by omega) (by decide)), nI_clamp (show i < 2 ^ 31 by omega), a1, a2, b1', b2', iI_sub, iI_long (show s32 (X i - cx) from ⟨by omega, by omega⟩), iI_long (show s32 (Y i - cy) from ⟨by omega, by omega⟩), jJ_mul, jJ_add, ec, em, xl_e, jn_e, nI_1, hcol i hlt]
      by_cases w : col i = c
      · rw [if_pos w, if_pos w]
        rcases h3 with ⟨rfl, rfl, -⟩ | ⟨k, k1, rfl, k3, rfl⟩
        · rw [if_pos rfl, if_pos rfl]
          exact ih (i + 1) (nI i) _ (by omega) (by omega) (Or.inr ⟨i, hlt, rfl, w, rfl⟩)
        · rw [if_neg (nI_m1 (by omega)), if_neg (nI_m1 (by omega))]
          have qc := prd_bd h hcx hcy gx gy k1
          have qm := prd_bd h hcx hcy hx hy k1
          have ek : prd X Y cx cy (G * mx) (G * my) k = G * prd X Y cx cy mx my k := by unfold prd; grind
          rw [ek] at qc
          simp only [jJ_le (show s64 (G * prd X Y cx cy mx my k) from ⟨by omega, by omega⟩) (show s64 (G * prd X Y cx cy mx my i) from ⟨by omega, by omega⟩), jJ_lt (show s64 (prd X Y cx cy mx my i) from ⟨by omega, by omega⟩) (show s64 (prd X Y cx cy mx my k) from ⟨by omega, by omega⟩)]
          by_cases q : prd X Y cx cy mx my i < prd X Y cx cy mx my k
          · have := Int.mul_lt_mul_of_pos_left q hG
            rw [if_pos q, if_neg (by omega)]
            exact ih (i + 1) (nI i) _ (by omega) (by omega) (Or.inr ⟨i, hlt, rfl, w, rfl⟩)
          · have := Int.mul_le_mul_of_nonneg_left (show prd X Y cx cy mx my k ≤ prd X Y cx cy mx my i by omega) (show 0 ≤ G by omega)
            rw [if_neg q, if_pos this]
            exact ih (i + 1) (nI k) _ (by omega) (by omega) (Or.inr ⟨k, k1, rfl, k3, rfl⟩)
      · rw [if_neg w, if_neg w]
        refine ih (i + 1) b l (by omega) (by omega) ?_
        rcases h3 with ⟨e1, e2, e3⟩ | e
        · refine Or.inl ⟨e1, e2, fun j hj => ?_⟩
          by_cases e : j = i
          · rw [e]; exact w
          · exact e3 j (by omega)
        · exact Or.inr e
/-- the new three -/
def setT (t : N3) (c b : Nat) : N3 := if c = 0 then (b, t.2.1, t.2.2) else if c = 1 then (t.1, b, t.2.2) else (t.1, t.2.1, b)
def rbT (col : Nat → Int32) (t : N3) : Prop := col t.1 = 0 ∧ col t.2.1 = 1 ∧ col t.2.2 = 2
theorem cho_set {ch : Nat → Int32} {t : N3} (h : cho ch t.1 t.2.1 t.2.2) {c b : Nat} (hc : c < 3) : cho (upd ch c (nI b)) (setT t c b).1 (setT t c b).2.1 (setT t c b).2.2 := by
  obtain ⟨h1, h2, h3⟩ := h
  have : c = 0 ∨ c = 1 ∨ c = 2 := by omega
  rcases this with rfl | rfl | rfl
  · exact ⟨upd_at, by rw [upd_ne (by omega)]; exact h2, by rw [upd_ne (by omega)]; exact h3⟩
  · exact ⟨by rw [upd_ne (by omega)]; exact h1, upd_at, by rw [upd_ne (by omega)]; exact h3⟩
  · exact ⟨by rw [upd_ne (by omega)]; exact h1, by rw [upd_ne (by omega)]; exact h2, upd_at⟩
theorem tIn_set {n : Nat} {t : N3} (h : tIn n t) {c b : Nat} (hc : c < 3) (hb : b < n) : tIn n (setT t c b) := by
  obtain ⟨h1, h2, h3⟩ := h
  have : c = 0 ∨ c = 1 ∨ c = 2 := by omega
  rcases this with rfl | rfl | rfl
  · exact ⟨hb, h2, h3⟩
  · exact ⟨h1, hb, h3⟩
  · exact ⟨h1, h2, hb⟩
theorem rb_set {col : Nat → Int32} {t : N3} (h : rbT col t) {c b : Nat} (hc : c < 3) (hb : col b = nI c) : rbT col (setT t c b) := by
  obtain ⟨h1, h2, h3⟩ := h
  have : c = 0 ∨ c = 1 ∨ c = 2 := by omega
  rcases this with rfl | rfl | rfl
  · exact ⟨hb, h2, h3⟩
  · exact ⟨h1, hb, h3⟩
  · exact ⟨h1, h2, hb⟩
theorem inT_set {t : N3} {c b i : Nat} (hi : i < 3) (hc : c < 3) (h : i ≠ c) : inT (setT t c b) (mT t i) := by
  have q1 : c = 0 ∨ c = 1 ∨ c = 2 := by omega
  have q2 : i = 0 ∨ i = 1 ∨ i = 2 := by omega
  rcases q1 with rfl | rfl | rfl <;> rcases q2 with rfl | rfl | rfl
  · omega
  · exact Or.inr (Or.inl rfl)
  · exact Or.inr (Or.inr rfl)
  · exact Or.inl rfl
  · omega
  · exact Or.inr (Or.inr rfl)
  · exact Or.inl rfl
  · exact Or.inr (Or.inl rfl)
  · omega
theorem inT_new (t : N3) {c b : Nat} (hc : c < 3) : inT (setT t c b) b := by
  have q1 : c = 0 ∨ c = 1 ∨ c = 2 := by omega
  rcases q1 with rfl | rfl | rfl
  · exact Or.inl rfl
  · exact Or.inr (Or.inl rfl)
  · exact Or.inr (Or.inr rfl)
def lt3 (cx cy : Int) (Z W : T3) : Prop := D3 cx cy Z * (W.2.2 * W.2.2) < D3 cx cy W * (Z.2.2 * Z.2.2)
theorem smF_d {cx cy : Int} {Z W : T3} (h : smF Z W) : D3 cx cy W * (Z.2.2 * Z.2.2) = D3 cx cy Z * (W.2.2 * W.2.2) := by
  obtain ⟨P, Q, L⟩ := Z
  obtain ⟨P2, Q2, L2⟩ := W
  obtain ⟨e1, e2⟩ := h
  dsimp only at e1 e2
  show d2 cx cy P2 Q2 L2 * (L * L) = d2 cx cy P Q L * (L2 * L2)
  unfold d2
  have k1 : ((P2 - cx * L2) * (P2 - cx * L2) + (Q2 - cy * L2) * (Q2 - cy * L2)) * (L * L) = (P2 * L - cx * L2 * L) * (P2 * L - cx * L2 * L) + (Q2 * L - cy * L2 * L) * (Q2 * L - cy * L2 * L) := by grind
  rw [k1, e1, e2]; grind
theorem isNr_ex {n : Nat} {x y : Nat → Int32} {X Y : Nat → Int} (hP : Pts n x y X Y) {S : Int32} (c : isSt n S) {cx cy : Int} (hcx : -20 ≤ cx ∧ cx ≤ 20) (hcy : -20 ≤ cy ∧ cy ≤ 20) : ∃ W : T3, isNr (hX X Y S n) (hY X Y S n) (hN X Y S n) cx cy W.1 W.2.1 W.2.2 := by
  have hG := (hull_pg hP c).1
  have hU := hU_ok hP c
  by_cases w : inH (hX X Y S n) (hY X Y S n) (hN X Y S n) cx cy 1
  · exact ⟨(cx, cy, 1), okZ_c hcx hcy, Or.inl ⟨w, rfl, rfl, rfl⟩⟩
  · obtain ⟨i, hi, -, hh⟩ := near_ex hG (hC_of hP c) w
    exact ⟨nE (hX X Y S n) (hY X Y S n) (hN X Y S n) cx cy i, edge_ok hG.1 hU hcx hcy hi, Or.inr ⟨w, hh, edge_cv _ _ hG.1 cx cy hi⟩⟩
/-- an exchange brings it nearer -/
theorem fall {n : Nat} {x y : Nat → Int32} {X Y : Nat → Int} (hP : Pts n x y X Y) {t : N3} (ht : tIn n t) {cx cy : Int} (hcx : -20 ≤ cx ∧ cx ≤ 20) (hcy : -20 ≤ cy ∧ cy ≤ 20) {c b : Nat} (hc : c < 3) (hb : b < n) {i j : Nat} (hi : i < 3) (hj : j < 3) (hic : i ≠ c) (hjc : j ≠ c) {Z : T3} (hZ1 : 1 ≤ Z.2.2) (hcv : cvx2 (X (mT t i)) (Y (mT t i)) (X (mT t j)) (Y (mT t j)) Z.1 Z.2.1 Z.2.2) (hlt : prd X Y cx cy (Z.1 - cx * Z.2.2) (Z.2.1 - cy * Z.2.2) b * Z.2.2 < D3 cx cy Z) : lt3 cx cy (zz X Y cx cy (setT t c b)) Z := by
  have ht' := tIn_set ht hc hb
  have hn := hP.1
  have zl := zz_L X Y cx cy (setT t c b)
  obtain ⟨W, hW⟩ := isNr_ex hP (S3_st hn ht') hcx hcy
  obtain ⟨e1, e2⟩ := zz_same hP ht' hW
  have wl : 1 ≤ W.2.2 := hW.1.1.1
  have dZ : D3 cx cy Z = (Z.1 - cx * Z.2.2) * (Z.1 - cx * Z.2.2) + (Z.2.1 - cy * Z.2.2) * (Z.2.1 - cy * Z.2.2) := rfl
  have dpos : 0 < D3 cx cy Z := by
    have h0 : 0 ≤ D3 cx cy Z := d2_nn _ _ _ _ _
    rcases Int.lt_or_eq_of_le h0 with q | q
    · exact q
    · exfalso
      have := ssq0 (a := Z.1 - cx * Z.2.2) (b := Z.2.1 - cy * Z.2.2) (by rw [← dZ]; omega)
      unfold prd at hlt
      rw [this.1, this.2, ← q] at hlt
      simp at hlt
  rcases e2 with w | hall
  · have ez : zz X Y cx cy (setT t c b) = (cx, cy, 1) := if_pos w
    rw [ez]
    unfold lt3
    have : D3 cx cy (cx, cy, 1) = 0 := by show d2 cx cy cx cy 1 = 0; unfold d2; simp
    rw [this]
    show 0 * _ < D3 cx cy Z * (1 * 1)
    omega
  · refine Classical.byContradiction (fun no => ?_)
    have nole : D3 cx cy Z * ((zz X Y cx cy (setT t c b)).2.2 * (zz X Y cx cy (setT t c b)).2.2) ≤ D3 cx cy (zz X Y cx cy (setT t c b)) * (Z.2.2 * Z.2.2) := by
      unfold lt3 at no; omega
    have sd := smF_d (cx := cx) (cy := cy) e1
    have k1 : le3 cx cy (zz X Y cx cy (setT t c b)) W := by unfold le3; omega
    have k2 : le3 cx cy Z W := le3_tr hZ1 zl wl nole k1
    obtain ⟨p1, p2⟩ := (near_uniq (hall _ (inT_set hi hc hic)) (hall _ (inT_set hj hc hjc)) hcv hZ1).2 k2
    have hbp := hall b (inT_new t hc)
    unfold hpt at hbp
    -- the point b lies not before the line
    have key : (Z.2.2 * Z.2.2) * ((X b * W.2.2 - W.1) * (W.1 - cx * W.2.2) + (Y b * W.2.2 - W.2.1) * (W.2.1 - cy * W.2.2)) = (W.2.2 * W.2.2) * ((X b * Z.2.2 - Z.1) * (Z.1 - cx * Z.2.2) + (Y b * Z.2.2 - Z.2.1) * (Z.2.1 - cy * Z.2.2)) := by
      have q1 : (X b * W.2.2 - W.1) * Z.2.2 = (X b * Z.2.2 - Z.1) * W.2.2 := by grind
      have q2 : (W.1 - cx * W.2.2) * Z.2.2 = (Z.1 - cx * Z.2.2) * W.2.2 := by grind
      have q3 : (Y b * W.2.2 - W.2.1) * Z.2.2 = (Y b * Z.2.2 - Z.2.1) * W.2.2 := by grind
      have q4 : (W.2.1 - cy * W.2.2) * Z.2.2 = (Z.2.1 - cy * Z.2.2) * W.2.2 := by grind
      have r1 : (Z.2.2 * Z.2.2) * ((X b * W.2.2 - W.1) * (W.1 - cx * W.2.2) + (Y b * W.2.2 - W.2.1) * (W.2.1 - cy * W.2.2)) = ((X b * W.2.2 - W.1) * Z.2.2) * ((W.1 - cx * W.2.2) * Z.2.2) + ((Y b * W.2.2 - W.2.1) * Z.2.2) * ((W.2.1 - cy * W.2.2) * Z.2.2) := by grind
      rw [r1, q1, q2, q3, q4]; grind
    have z2 := Int.mul_pos (show 0 < Z.2.2 by omega) (show 0 < Z.2.2 by omega)
    have w2 := Int.mul_pos (show 0 < W.2.2 by omega) (show 0 < W.2.2 by omega)
    have k3 := Int.mul_nonneg (show 0 ≤ Z.2.2 * Z.2.2 by omega) hbp
    rw [key] at k3
    have k4 := div_ge w2 k3
    have e : (X b * Z.2.2 - Z.1) * (Z.1 - cx * Z.2.2) + (Y b * Z.2.2 - Z.2.1) * (Z.2.1 - cy * Z.2.2) = prd X Y cx cy (Z.1 - cx * Z.2.2) (Z.2.1 - cy * Z.2.2) b * Z.2.2 - D3 cx cy Z := by
      rw [dZ]; unfold prd; grind
    rw [e] at k4
    omega
