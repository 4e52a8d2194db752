--@ needs 3e.half 3c.meet6
/-! depth: the class's splits, the model's looks -/
abbrev off (X : Nat → Int) (a : Int) : Nat → Int := fun i => X i - a
def pH (α β : Nat → Int) (t i : Nat) : Bool := decide (crs α β t i = 0 ∧ dts α β t i = 0)
def pL (α β : Nat → Int) (t i : Nat) : Bool := decide (0 < crs α β t i)
def pR (α β : Nat → Int) (t i : Nat) : Bool := decide (crs α β t i < 0)
def pA (α β : Nat → Int) (t i : Nat) : Bool := decide (crs α β t i = 0 ∧ 0 < dts α β t i)
def pB (α β : Nat → Int) (t i : Nat) : Bool := decide (crs α β t i = 0 ∧ dts α β t i < 0)
theorem off_bd {n : Nat} {x y : Nat → Int32} {X Y : Nat → Int} (h : Pts n x y X Y) {a b : Int} (ha : -20 ≤ a ∧ a ≤ 20) (hb : -20 ≤ b ∧ b ≤ 20) {i : Nat} (hi : i < n) : (-40 ≤ off X a i ∧ off X a i ≤ 40) ∧ -40 ≤ off Y b i ∧ off Y b i ≤ 40 := by
  have := (h.2 i hi).2.2
  show (-40 ≤ X i - a ∧ X i - a ≤ 40) ∧ -40 ≤ Y i - b ∧ Y i - b ≤ 40
  omega
theorem cd_bd {α β : Nat → Int} {t i : Nat} (h1 : (-40 ≤ α t ∧ α t ≤ 40) ∧ -40 ≤ β t ∧ β t ≤ 40) (h2 : (-40 ≤ α i ∧ α i ≤ 40) ∧ -40 ≤ β i ∧ β i ≤ 40) : (-3200 ≤ crs α β t i ∧ crs α β t i ≤ 3200) ∧ -3200 ≤ dts α β t i ∧ dts α β t i ≤ 3200 := by
  have a := mulB (a := 40) (b := 40) h1.1 h2.2
  have b := mulB (a := 40) (b := 40) h1.2 h2.1
  have c := mulB (a := 40) (b := 40) h1.1 h2.1
  have d := mulB (a := 40) (b := 40) h1.2 h2.2
  unfold crs dts
  omega
theorem i_le0 {z : Int} (h : s32 z) : iI z ≤ 0 ↔ z ≤ 0 := iI_le (b := 0) h ⟨by omega, by omega⟩
theorem i_ge0 {z : Int} (h : s32 z) : 0 ≤ iI z ↔ 0 ≤ z := iI_le (a := 0) ⟨by omega, by omega⟩ h
theorem splitL (K : Nat) {n : Nat} {x y : Nat → Int32} {X Y : Nat → Int} (h : Pts n x y X Y) {a b : Int} (ha : -20 ≤ a ∧ a ≤ 20) (hb : -20 ≤ b ∧ b ≤ 20) {t : Nat} (ht : t < n) : ∀ (fu i : Nat), i ≤ n → n - i < fu → fX1_split_L50 K (iI a) (iI b) (iI (off X a t)) (iI (off Y b t)) (nI n) x y fu (nI i) (bP (pH (off X a) (off Y b) t) i) (bP (pL (off X a) (off Y b) t) i) (bP (pR (off X a) (off Y b) t) i) (bP (pA (off X a) (off Y b) t) i) (bP (pB (off X a) (off Y b) t) i) = some (bP (pH (off X a) (off Y b) t) n, bP (pL (off X a) (off Y b) t) n, bP (pR (off X a) (off Y b) t) n, bP (pA (off X a) (off Y b) t) n, bP (pB (off X a) (off Y b) t) n) := by
  intro fu
  induction fu with
  | zero => intro i h1 h2; omega
  | succ fu ih =>
    intro i h1 h2
    have hn := h.1
    rw [fX1_split_L50]
    by_cases hi : i = n
    · subst hi
      rw [if_pos (nI_le (Nat.le_refl i) (by omega))]
    · have hlt : i < n := by omega
      obtain ⟨e1, e2, -⟩ := h.2 i hlt
      obtain ⟨⟨c1, c2⟩, d1, d2⟩ := cd_bd (off_bd h ha hb ht) (off_bd h ha hb hlt)
      rw [if_neg (nI_ge hlt (by omega))]
      have ex : iI (X i) - iI a = iI (off X a i) := iI_sub _ _
      have ey : iI (Y i) - iI b = iI (off Y b i) := iI_sub _ _
      have ec : iI (off X a t) * iI (off Y b i) - iI (off Y b t) * iI (off X a i) = iI (crs (off X a) (off Y b) t i) := by rw [iI_mul, iI_mul, iI_sub]
      have ed : iI (off X a t) * iI (off X a i) + iI (off Y b t) * iI (off Y b i) = iI (dts (off X a) (off Y b) t i) := by rw [iI_mul, iI_mul, iI_add]
      simp only [xl, jn, gd_t (inb_nI (show i < 24 by omega) (by decide)), nI_clamp (show i < 2 ^ 31 by omega), e1, e2, ex, ey, ec, ed, nI_1, i_le0 (show s32 (crs (off X a) (off Y b) t i) from ⟨by omega, by omega⟩), i_ge0 (show s32 (crs (off X a) (off Y b) t i) from ⟨by omega, by omega⟩), i_le0 (show s32 (dts (off X a) (off Y b) t i) from ⟨by omega, by omega⟩), i_ge0 (show s32 (dts (off X a) (off Y b) t i) from ⟨by omega, by omega⟩)]
      have IH := ih (i + 1) (by omega) (by omega)
      simp only [bP] at IH
      generalize hc : crs (off X a) (off Y b) t i = c at *
      generalize hd : dts (off X a) (off Y b) t i = d at *
      unfold pH pL pR pA pB at IH ⊢
      simp only [hc, hd, decide_eq_true_eq] at IH
      by_cases q1 : c ≤ 0
      · rw [if_pos q1]
        by_cases q2 : 0 ≤ c
        · rw [if_pos q2]
          have q0 : c = 0 := by omega
          by_cases q3 : d ≤ 0
          · rw [if_pos q3]
            by_cases q4 : 0 ≤ d
            · rw [if_pos q4]
              rw [if_pos ⟨q0, by omega⟩, if_neg (by omega), if_neg (by omega), if_neg (by omega), if_neg (by omega)] at IH
              exact IH
            · rw [if_neg q4]
              rw [if_neg (by omega), if_neg (by omega), if_neg (by omega), if_neg (by omega), if_pos ⟨q0, by omega⟩] at IH
              exact IH
          · rw [if_neg q3]
            rw [if_neg (by omega), if_neg (by omega), if_neg (by omega), if_pos ⟨q0, by omega⟩, if_neg (by omega)] at IH
            exact IH
        · rw [if_neg q2]
          rw [if_neg (by omega), if_neg (by omega), if_pos (by omega), if_neg (by omega), if_neg (by omega)] at IH
          exact IH
      · rw [if_neg q1]
        rw [if_neg (by omega), if_pos (by omega), if_neg (by omega), if_neg (by omega), if_neg (by omega)] at IH
        exact IH
theorem splitC (K : Nat) (hK : 4000 ≤ K) {n : Nat} {x y : Nat → Int32} {X Y : Nat → Int} (h : Pts n x y X Y) {a b : Int} (ha : -20 ≤ a ∧ a ≤ 20) (hb : -20 ≤ b ∧ b ≤ 20) {t : Nat} (ht : t < n) (o1 o2 o3 o4 o5 : Int32) : fX1_split K o1 o2 o3 o4 o5 (nI n) x y (iI a) (iI b) (nI t) = some (bP (pH (off X a) (off Y b) t) n, bP (pL (off X a) (off Y b) t) n, bP (pR (off X a) (off Y b) t) n, bP (pA (off X a) (off Y b) t) n, bP (pB (off X a) (off Y b) t) n) := by
  obtain ⟨e1, e2, -⟩ := h.2 t ht
  have hn := h.1
  have IH := splitL K h ha hb ht K 0 (by omega) (by omega)
  unfold fX1_split
  have ex : iI (X t) - iI a = iI (off X a t) := iI_sub _ _
  have ey : iI (Y t) - iI b = iI (off Y b t) := iI_sub _ _
  simp only [xl, gd_t (inb_nI (show t < 24 by omega) (by decide)), nI_clamp (show t < 2 ^ 31 by omega), e1, e2, ex, ey]
  simp only [bP] at IH
  rw [show (0 : Int32) = nI 0 from rfl] at *
  rw [IH]
  rfl
theorem part_look {α β : Nat → Int} {t : Nat} (hz : ¬ zr α β t) : (∀ i, ((pH α β t i || pL α β t i) || pA α β t i) = lkB α β 1 1 t i) ∧ (∀ i, ((pH α β t i || pL α β t i) || pB α β t i) = lkB α β 1 (-1) t i) ∧ (∀ i, ((pH α β t i || pR α β t i) || pA α β t i) = lkB α β (-1) 1 t i) ∧ ∀ i, ((pH α β t i || pR α β t i) || pB α β t i) = lkB α β (-1) (-1) t i := by
  have hh : ∀ i, pH α β t i = decide (zr α β i) := by
    intro i
    unfold pH
    rw [decide_eq_decide]
    exact zr_iff hz i
  have e1 : ∀ z : Int, (0 < (1 : Int) * z) = (0 < z) := fun z => by rw [Int.one_mul]
  have e2 : ∀ z : Int, (0 < (-1 : Int) * z) = (z < 0) := fun z => by
    rw [eq_iff_iff]; omega
  refine ⟨fun i => ?_, fun i => ?_, fun i => ?_, fun i => ?_⟩ <;> rw [hh] <;> simp only [pL, pR, pA, pB, lkB, e1, e2] <;> rw [← Bool.decide_or, ← Bool.decide_or, decide_eq_decide] <;> grind
theorem cnt_looks {α β : Nat → Int} {n t : Nat} (hz : ¬ zr α β t) : cnt (lkB α β 1 1 t) n = cnt (pH α β t) n + cnt (pL α β t) n + cnt (pA α β t) n ∧ cnt (lkB α β 1 (-1) t) n = cnt (pH α β t) n + cnt (pL α β t) n + cnt (pB α β t) n ∧ cnt (lkB α β (-1) 1 t) n = cnt (pH α β t) n + cnt (pR α β t) n + cnt (pA α β t) n ∧ cnt (lkB α β (-1) (-1) t) n = cnt (pH α β t) n + cnt (pR α β t) n + cnt (pB α β t) n := by
  obtain ⟨h1, h2, h3, h4⟩ := part_look hz
  have hl : cnt (fun i => pH α β t i || pL α β t i) n = cnt (pH α β t) n + cnt (pL α β t) n := cnt_disj (fun i _ => ⟨rfl, by unfold pH pL; rw [← Bool.decide_and, decide_eq_false_iff_not]; omega⟩)
  have hr : cnt (fun i => pH α β t i || pR α β t i) n = cnt (pH α β t) n + cnt (pR α β t) n := cnt_disj (fun i _ => ⟨rfl, by unfold pH pR; rw [← Bool.decide_and, decide_eq_false_iff_not]; omega⟩)
  rw [← hl, ← hr]
  refine ⟨?_, ?_, ?_, ?_⟩
  · refine cnt_disj (fun i _ => ⟨(h1 i).symm, ?_⟩)
    unfold pH pL pA; rw [← Bool.decide_or, ← Bool.decide_and, decide_eq_false_iff_not]; omega
  · refine cnt_disj (fun i _ => ⟨(h2 i).symm, ?_⟩)
    unfold pH pL pB; rw [← Bool.decide_or, ← Bool.decide_and, decide_eq_false_iff_not]; omega
  · refine cnt_disj (fun i _ => ⟨(h3 i).symm, ?_⟩)
    unfold pH pR pA; rw [← Bool.decide_or, ← Bool.decide_and, decide_eq_false_iff_not]; omega
  · refine cnt_disj (fun i _ => ⟨(h4 i).symm, ?_⟩)
    unfold pH pR pB; rw [← Bool.decide_or, ← Bool.decide_and, decide_eq_false_iff_not]; omega
/-- the class's depth so far -/
def dmin (n : Nat) (α β : Nat → Int) (i d : Nat) : Prop := (∃ p, (p = allB ∨ Lk α β i p) ∧ d = cnt p n) ∧ ∀ p, (p = allB ∨ Lk α β i p) → d ≤ cnt p n
theorem dmin_le {n : Nat} {α β : Nat → Int} {i d : Nat} (h : dmin n α β i d) : d ≤ n := by
  obtain ⟨⟨p, -, rfl⟩, -⟩ := h
  exact cnt_le p n
theorem dmin_step0 {n : Nat} {α β : Nat → Int} {i d : Nat} (h : dmin n α β i d) (hz : zr α β i) : dmin n α β (i + 1) d := by
  have e : ∀ p, Lk α β (i + 1) p ↔ Lk α β i p := fun p => by
    rw [Lk_succ]
    exact ⟨fun q => q.elim id (fun q => absurd hz q.1), Or.inl⟩
  unfold dmin
  simp only [e]
  exact h
theorem dmin_step1 {n : Nat} {α β : Nat → Int} {i d : Nat} (h : dmin n α β i d) (hz : ¬ zr α β i) {e : Nat} (he : e = cnt (pH α β i) n + (if cnt (pR α β i) n < cnt (pL α β i) n then cnt (pR α β i) n else cnt (pL α β i) n) + (if cnt (pB α β i) n < cnt (pA α β i) n then cnt (pB α β i) n else cnt (pA α β i) n)) : dmin n α β (i + 1) (if e < d then e else d) := by
  obtain ⟨h1, h2, h3, h4⟩ := cnt_looks (n := n) hz
  obtain ⟨⟨p, hp, rfl⟩, hm⟩ := h
  have k1 : ∀ q, (q = allB ∨ Lk α β (i + 1) q) → e ≤ cnt q n ∨ cnt p n ≤ cnt q n := by
    rintro q (hq | hq)
    · exact Or.inr (hm q (Or.inl hq))
    · rcases (Lk_succ α β i q).mp hq with hq | ⟨-, hq⟩
      · exact Or.inr (hm q (Or.inr hq))
      · left
        rcases hq with rfl | rfl | rfl | rfl
        · rw [h1, he]; split <;> split <;> omega
        · rw [h2, he]; split <;> split <;> omega
        · rw [h3, he]; split <;> split <;> omega
        · rw [h4, he]; split <;> split <;> omega
  have k2 : ∃ q, Lk α β (i + 1) q ∧ e = cnt q n := by
    rw [he]
    split
    · split
      · exact ⟨lkB α β (-1) (-1) i, (Lk_succ α β i _).mpr (Or.inr ⟨hz, Or.inr (Or.inr (Or.inr rfl))⟩), h4.symm⟩
      · exact ⟨lkB α β (-1) 1 i, (Lk_succ α β i _).mpr (Or.inr ⟨hz, Or.inr (Or.inr (Or.inl rfl))⟩), h3.symm⟩
    · split
      · exact ⟨lkB α β 1 (-1) i, (Lk_succ α β i _).mpr (Or.inr ⟨hz, Or.inr (Or.inl rfl)⟩), h2.symm⟩
      · exact ⟨lkB α β 1 1 i, (Lk_succ α β i _).mpr (Or.inr ⟨hz, Or.inl rfl⟩), h1.symm⟩
  split
  · rename_i c
    obtain ⟨q, hq, e2⟩ := k2
    refine ⟨⟨q, Or.inr hq, e2⟩, fun r hr => ?_⟩
    rcases k1 r hr with q | q <;> omega
  · rename_i c
    refine ⟨⟨p, hp.elim Or.inl (fun q => Or.inr ((Lk_succ α β i p).mpr (Or.inl q))), rfl⟩, fun r hr => ?_⟩
    rcases k1 r hr with q | q <;> omega
theorem nI_min {a b : Nat} (ha : a < 1000) (hb : b < 1000) : jmin (nI a) (nI b) = nI (if b < a then b else a) := by
  rw [nI_iI, nI_iI, nI_iI, jmin_i ⟨by omega, by omega⟩ ⟨by omega, by omega⟩]
  congr 1
  split <;> split <;> omega
theorem nI_lei {a : Nat} (ha : a < 1000) {e : Int} (he : s32 e) : nI a ≤ iI e ↔ (a : Int) ≤ e := by
  rw [nI_iI, iI_le ⟨by omega, by omega⟩ he]
theorem bP_b1 {β : Type} (K : Nat) (p : Nat → Bool) {n : Nat} (hn : n ≤ 24) (k : Int32 → Option β) : b1 (fJ6_bitCount_0f7a4 K (bP p n)) k = k (nI (cnt p n)) := by
  rw [bP_cnt K p hn]; rfl
theorem sm_b1 {α β : Type} (a : α) (k : α → Option β) : b1 (some a) k = k a := Eq.trans (rfl : b1 (some a) k = k a) rfl
theorem sm_b5 {α₁ α₂ α₃ α₄ α₅ β : Type} (a : α₁) (b : α₂) (c : α₃) (d : α₄) (e : α₅) (k : α₁ → α₂ → α₃ → α₄ → α₅ → Option β) : b5 (some (a, b, c, d, e)) k = k a b c d e := Eq.trans (rfl : b5 (some (a, b, c, d, e)) k = k a b c d e) rfl
theorem xl_e {α β : Type} (v : α) (k : α → Option β) : xl v k = k v := Eq.trans (rfl : xl v k = k v) rfl
theorem jn_e {κ β : Type} (k : κ) (b : κ → Option β) : jn k b = b k := Eq.trans (rfl : jn k b = b k) rfl
theorem depthCL (K : Nat) (hK : 4000 ≤ K) {n : Nat} {x y : Nat → Int32} {X Y : Nat → Int} (h : Pts n x y X Y) {a b : Int} (ha : -20 ≤ a ∧ a ≤ 20) (hb : -20 ≤ b ∧ b ≤ 20) {e : Int} (he : s32 e) : ∀ (fu i d : Nat) (o1 o2 o3 o4 o5 : Int32), i ≤ n → n - i < fu → dmin n (off X a) (off Y b) i d → ∃ d' o1' o2' o3' o4' o5', fX1_depthAt_L9 K (iI a) (iI b) (iI e) (nI n) x y fu (nI d) (nI i) o1 o2 o3 o4 o5 = some (nI d', o1', o2', o3', o4', o5') ∧ d' ≤ 24 ∧ (dmin n (off X a) (off Y b) n d' ∨ ((d' : Int) ≤ e ∧ ∃ p, (p = allB ∨ Lk (off X a) (off Y b) n p) ∧ d' = cnt p n)) := by
  intro fu
  induction fu with
  | zero => intro i d o1 o2 o3 o4 o5 h1 h2; omega
  | succ fu ih =>
    intro i d o1 o2 o3 o4 o5 h1 h2 hd
    have hn := h.1
    have hd24 := dmin_le hd
    rw [fX1_depthAt_L9]
    by_cases hi : i = n
    · subst hi
      rw [if_pos (nI_le (Nat.le_refl i) (by omega))]
      exact ⟨d, _, _, _, _, _, rfl, by omega, Or.inl hd⟩
    · have hlt : i < n := by omega
      rw [if_neg (nI_ge hlt (by omega))]
      by_cases hq : (d : Int) ≤ e
      · rw [if_pos ((nI_lei (by omega) he).mpr hq)]
        obtain ⟨⟨p, hp, e1⟩, -⟩ := hd
        refine ⟨d, _, _, _, _, _, rfl, by omega, Or.inr ⟨hq, p, hp.elim Or.inl (fun ⟨t, σ, τ, w1, w2⟩ => Or.inr ⟨t, σ, τ, by omega, w2⟩), e1⟩⟩
      · rw [if_neg (fun q => hq ((nI_lei (by omega) he).mp q))]
        rw [isAt_c K h hlt ha hb]
        simp only [sm_b1, jn_e, xl_e, nI_1]
        have zz : zr (off X a) (off Y b) i ↔ (X i = a ∧ Y i = b) := by
          unfold zr off
          omega
        by_cases hz : X i = a ∧ Y i = b
        · rw [if_pos hz, if_neg one_ne]
          exact ih (i + 1) d _ _ _ _ _ (by omega) (by omega) (dmin_step0 hd (zz.mpr hz))
        · rw [if_neg hz, if_pos rfl, splitC K hK h ha hb hlt]
          have l1 := cnt_le (pH (off X a) (off Y b) i) n
          have l2 := cnt_le (pL (off X a) (off Y b) i) n
          have l3 := cnt_le (pR (off X a) (off Y b) i) n
          have l4 := cnt_le (pA (off X a) (off Y b) i) n
          have l5 := cnt_le (pB (off X a) (off Y b) i) n
          have hs := dmin_step1 hd (fun q => hz (zz.mp q)) rfl
          have m1 : (if cnt (pR (off X a) (off Y b) i) n < cnt (pL (off X a) (off Y b) i) n then cnt (pR (off X a) (off Y b) i) n else cnt (pL (off X a) (off Y b) i) n) ≤ n := by split <;> omega
          have m2 : (if cnt (pB (off X a) (off Y b) i) n < cnt (pA (off X a) (off Y b) i) n then cnt (pB (off X a) (off Y b) i) n else cnt (pA (off X a) (off Y b) i) n) ≤ n := by split <;> omega
          simp only [sm_b5, bP_b1 K _ hn, nI_min (show cnt (pL (off X a) (off Y b) i) n < 1000 by omega) (show cnt (pR (off X a) (off Y b) i) n < 1000 by omega), nI_min (show cnt (pA (off X a) (off Y b) i) n < 1000 by omega) (show cnt (pB (off X a) (off Y b) i) n < 1000 by omega), add_nI]
          rw [nI_min (by omega) (by omega)]
          exact ih (i + 1) _ _ _ _ _ _ (by omega) (by omega) hs
theorem depthC (K : Nat) (hK : 4000 ≤ K) {n : Nat} {x y : Nat → Int32} {X Y : Nat → Int} (h : Pts n x y X Y) {a b : Int} (ha : -20 ≤ a ∧ a ≤ 20) (hb : -20 ≤ b ∧ b ≤ 20) {e : Int} (he : s32 e) (o1 o2 o3 o4 o5 : Int32) : ∃ d' o1' o2' o3' o4' o5', fX1_depthAt K o1 o2 o3 o4 o5 (nI n) x y (iI a) (iI b) (iI e) = some (nI d', o1', o2', o3', o4', o5') ∧ d' ≤ 24 ∧ (dmin n (off X a) (off Y b) n d' ∨ ((d' : Int) ≤ e ∧ ∃ p, (p = allB ∨ Lk (off X a) (off Y b) n p) ∧ d' = cnt p n)) := by
  have hn := h.1
  obtain ⟨d', p1', p2', p3', p4', p5', h1, h2⟩ := depthCL K hK h ha hb he K 0 n o1 o2 o3 o4 o5 (by omega) (by omega) ⟨⟨allB, Or.inl rfl, (cnt_all (fun i _ => rfl)).symm⟩, fun p hp => by
    rcases hp with rfl | ⟨t, σ, τ, w, -⟩
    · rw [show cnt allB n = n from cnt_all (fun i _ => rfl)]; exact Nat.le_refl _
    · omega⟩
  unfold fX1_depthAt
  rw [show (0 : Int32) = nI 0 from rfl, h1]
  exact ⟨d', p1', p2', p3', p4', p5', rfl, h2⟩
/-- the model's look -/
def lkN (α β : Nat → Int) (p q r s : Int) (i : Nat) : Bool := decide (0 < (if p * α i + q * β i = 0 then r * α i + s * β i else p * α i + q * β i) ∨ zr α β i)
theorem looksL (K : Nat) {n : Nat} {x y : Nat → Int32} {X Y : Nat → Int} (h : Pts n x y X Y) {a b : Int} (ha : -20 ≤ a ∧ a ≤ 20) (hb : -20 ≤ b ∧ b ≤ 20) {p q r s : Int} (hp : -40 ≤ p ∧ p ≤ 40) (hq : -40 ≤ q ∧ q ≤ 40) (hr : -40 ≤ r ∧ r ≤ 40) (hs : -40 ≤ s ∧ s ≤ 40) : ∀ (fu i : Nat), i ≤ n → n - i < fu → fX12_looks_L6 K (iI a) (iI b) (jJ p) (jJ q) (jJ r) (jJ s) (nI n) x y fu (bP (lkN (off X a) (off Y b) p q r s) i) (nI i) = some (bP (lkN (off X a) (off Y b) p q r s) n) := by
  intro fu
  induction fu with
  | zero => intro i h1 h2; omega
  | succ fu ih =>
    intro i h1 h2
    have hn := h.1
    rw [fX12_looks_L6]
    by_cases hi : i = n
    · subst hi
      rw [if_pos (nI_le (Nat.le_refl i) (by omega))]
    · have hlt : i < n := by omega
      obtain ⟨e1, e2, -⟩ := h.2 i hlt
      obtain ⟨c1, c2⟩ := off_bd h ha hb hlt
      rw [if_neg (nI_ge hlt (by omega))]
      have ex : (iI (X i) - iI a).toInt64 = jJ (off X a i) := by rw [iI_sub]; exact iI_long (a := off X a i) ⟨by omega, by omega⟩
      have ey : (iI (Y i) - iI b).toInt64 = jJ (off Y b i) := by rw [iI_sub]; exact iI_long (a := off Y b i) ⟨by omega, by omega⟩
      simp only [xl, jn, gd_t (inb_nI (show i < 24 by omega) (by decide)), nI_clamp (show i < 2 ^ 31 by omega), e1, e2, ex, ey, jJ_mul, jJ_add, nI_1]
      have IH := ih (i + 1) (by omega) (by omega)
      rw [bP] at IH
      generalize hα : off X a i = α at *
      generalize hβ : off Y b i = β at *
      have b1 := mulB (a := 40) (b := 40) hp c1
      have b2 := mulB (a := 40) (b := 40) hq c2
      have b3 := mulB (a := 40) (b := 40) hr c1
      have b4 := mulB (a := 40) (b := 40) hs c2
      have ei : lkN (off X a) (off Y b) p q r s i = decide (0 < (if p * α + q * β = 0 then r * α + s * β else p * α + q * β) ∨ (α = 0 ∧ β = 0)) := by
        unfold lkN zr
        rw [hα, hβ]
      rw [ei] at IH
      simp only [j_eq0 (show s64 (p * α + q * β) from ⟨by omega, by omega⟩), j_gt0 (show s64 (p * α + q * β) from ⟨by omega, by omega⟩), j_gt0 (show s64 (r * α + s * β) from ⟨by omega, by omega⟩), j_eq0 (show s64 α from ⟨by omega, by omega⟩), j_eq0 (show s64 β from ⟨by omega, by omega⟩)]
      generalize p * α + q * β = u at *
      generalize r * α + s * β = v at *
      simp only [decide_eq_true_eq] at IH
      by_cases hu : u = 0
      · simp only [if_pos hu] at IH ⊢
        by_cases hv : 0 < v
        · rw [if_pos hv]
          rw [if_pos (Or.inl hv)] at IH
          exact IH
        · rw [if_neg hv]
          by_cases z1 : α = 0
          · rw [if_pos z1]
            by_cases z2 : β = 0
            · rw [if_pos z2]
              rw [if_pos (Or.inr ⟨z1, z2⟩)] at IH
              exact IH
            · rw [if_neg z2]
              rw [if_neg (by omega)] at IH
              exact IH
          · rw [if_neg z1]
            rw [if_neg (by omega)] at IH
            exact IH
      · simp only [if_neg hu] at IH ⊢
        by_cases hv : 0 < u
        · rw [if_pos hv]
          rw [if_pos (Or.inl hv)] at IH
          exact IH
        · rw [if_neg hv]
          by_cases z1 : α = 0
          · rw [if_pos z1]
            by_cases z2 : β = 0
            · rw [if_pos z2]
              rw [if_pos (Or.inr ⟨z1, z2⟩)] at IH
              exact IH
            · rw [if_neg z2]
              rw [if_neg (by omega)] at IH
              exact IH
          · rw [if_neg z1]
            rw [if_neg (by omega)] at IH
            exact IH
theorem nI_ltn {a b : Nat} (ha : a < 1000) (hb : b < 1000) : nI a < nI b ↔ a < b := by
  rw [nI_iI, nI_iI, iI_lt ⟨by omega, by omega⟩ ⟨by omega, by omega⟩]; omega
theorem nI_eqn {a b : Nat} (ha : a < 1000) (hb : b < 1000) : nI a = nI b ↔ a = b := by
  rw [nI_iI, nI_iI, iI_eq ⟨by omega, by omega⟩ ⟨by omega, by omega⟩]; omega
theorem looksM (K : Nat) (hK : 4000 ≤ K) {n : Nat} {x y : Nat → Int32} {X Y : Nat → Int} (h : Pts n x y X Y) {a b : Int} (ha : -20 ≤ a ∧ a ≤ 20) (hb : -20 ≤ b ∧ b ≤ 20) {p q r s : Int} (hp : -40 ≤ p ∧ p ≤ 40) (hq : -40 ≤ q ∧ q ≤ 40) (hr : -40 ≤ r ∧ r ≤ 40) (hs : -40 ≤ s ∧ s ≤ 40) (w : Nat → Bool) : fX12_looks K (nI n) (nI (cnt w n)) (bP w n) x y (iI a) (iI b) (jJ p) (jJ q) (jJ r) (jJ s) = some (nI (cnt (if ky n (lkN (off X a) (off Y b) p q r s) < ky n w then lkN (off X a) (off Y b) p q r s else w) n), bP (if ky n (lkN (off X a) (off Y b) p q r s) < ky n w then lkN (off X a) (off Y b) p q r s else w) n) := by
  have hn := h.1
  have IH := looksL K h ha hb hp hq hr hs K 0 (by omega) (by omega)
  rw [bP] at IH
  unfold fX12_looks
  rw [show (0 : Int32) = nI 0 from rfl] at *
  rw [IH]
  simp only [sm_b1, bP_b1 K _ hn, jn]
  have l1 := cnt_le (lkN (off X a) (off Y b) p q r s) n
  have l2 := cnt_le w n
  simp only [nI_ltn (show cnt w n < 1000 by omega) (show cnt (lkN (off X a) (off Y b) p q r s) n < 1000 by omega), nI_eqn (show cnt (lkN (off X a) (off Y b) p q r s) n < 1000 by omega) (show cnt w n < 1000 by omega), bP_lt _ _ hn, ky_lt hn]
  generalize lkN (off X a) (off Y b) p q r s = v at *
  by_cases h1 : cnt w n < cnt v n
  · rw [if_pos h1, if_neg (by omega)]
  · rw [if_neg h1]
    by_cases h2 : cnt v n = cnt w n
    · rw [if_pos h2]
      by_cases h3 : nP v n < nP w n
      · rw [if_pos h3, if_pos (Or.inr ⟨h2, h3⟩)]
      · rw [if_neg h3, if_neg (by omega)]
    · rw [if_neg h2, if_pos (by omega)]
theorem lkN_lkB (α β : Nat → Int) (t : Nat) : lkN α β (-β t) (α t) (α t) (β t) = lkB α β 1 1 t ∧ lkN α β (-β t) (α t) (-α t) (-β t) = lkB α β 1 (-1) t ∧ lkN α β (β t) (-α t) (α t) (β t) = lkB α β (-1) 1 t ∧ lkN α β (β t) (-α t) (-α t) (-β t) = lkB α β (-1) (-1) t := by
  have e1 : ∀ i, -β t * α i + α t * β i = crs α β t i := fun i => by unfold crs; grind
  have e2 : ∀ i, β t * α i + -α t * β i = -crs α β t i := fun i => by unfold crs; grind
  have e3 : ∀ i, α t * α i + β t * β i = dts α β t i := fun i => rfl
  have e4 : ∀ i, -α t * α i + -β t * β i = -dts α β t i := fun i => by unfold dts; grind
  refine ⟨?_, ?_, ?_, ?_⟩ <;> funext i <;> unfold lkN lkB <;> simp only [e1, e2, e3, e4, decide_eq_decide] <;> split <;> omega
theorem lkN_first (α β : Nat → Int) : lkN α β 1 0 0 1 = hfB α β := by
  funext i
  unfold lkN hfB
  rw [decide_eq_decide]
  unfold zr
  split <;> omega
theorem depthML (K : Nat) (hK : 4000 ≤ K) {n : Nat} {x y : Nat → Int32} {X Y : Nat → Int} (h : Pts n x y X Y) {a b : Int} (ha : -20 ≤ a ∧ a ≤ 20) (hb : -20 ≤ b ∧ b ≤ 20) : ∀ (fu i : Nat) (w : Nat → Bool), i ≤ n → n - i < fu → kmin n (fun r => r = hfB (off X a) (off Y b) ∨ Lk (off X a) (off Y b) i r) w → ∃ w', fX12_depthAt_L23 K (iI a) (iI b) (nI n) x y fu (nI i) (nI (cnt w n)) (bP w n) = some (nI (cnt w' n), bP w' n) ∧ kmin n (fun r => r = hfB (off X a) (off Y b) ∨ Lk (off X a) (off Y b) n r) w' := by
  intro fu
  induction fu with
  | zero => intro i w h1 h2; omega
  | succ fu ih =>
    intro i w h1 h2 hw
    have hn := h.1
    rw [fX12_depthAt_L23]
    by_cases hi : i = n
    · subst hi
      rw [if_pos (nI_le (Nat.le_refl i) (by omega))]
      exact ⟨w, rfl, hw⟩
    · have hlt : i < n := by omega
      obtain ⟨e1, e2, -⟩ := h.2 i hlt
      obtain ⟨c1, c2⟩ := off_bd h ha hb hlt
      rw [if_neg (nI_ge hlt (by omega))]
      have ex : (iI (X i) - iI a).toInt64 = jJ (off X a i) := by rw [iI_sub]; exact iI_long (a := off X a i) ⟨by omega, by omega⟩
      have ey : (iI (Y i) - iI b).toInt64 = jJ (off Y b i) := by rw [iI_sub]; exact iI_long (a := off Y b i) ⟨by omega, by omega⟩
      simp only [xl, jn, gd_t (inb_nI (show i < 24 by omega) (by decide)), nI_clamp (show i < 2 ^ 31 by omega), e1, e2, ex, ey, jJ_neg, nI_1, j_eq0 (show s64 (off X a i) from ⟨by omega, by omega⟩), j_eq0 (show s64 (off Y b i) from ⟨by omega, by omega⟩)]
      by_cases hz : zr (off X a) (off Y b) i
      · rw [if_pos hz.1, if_pos hz.2]
        refine ih (i + 1) w (by omega) (by omega) (kmin_eqv hw (fun q => ?_))
        rw [Lk_succ]
        exact ⟨fun u => u.elim Or.inl (fun u => Or.inr (Or.inl u)), fun u => u.elim Or.inl (fun u => u.elim Or.inr (fun u => absurd hz u.1))⟩
      · obtain ⟨q1, q2, q3, q4⟩ := lkN_lkB (off X a) (off Y b) i
        simp only [b2, looksM K hK h ha hb (show -40 ≤ -off Y b i ∧ -off Y b i ≤ 40 by omega) c1 c1 c2, looksM K hK h ha hb (show -40 ≤ -off Y b i ∧ -off Y b i ≤ 40 by omega) c1 (show -40 ≤ -off X a i ∧ -off X a i ≤ 40 by omega) (show -40 ≤ -off Y b i ∧ -off Y b i ≤ 40 by omega), looksM K hK h ha hb c2 (show -40 ≤ -off X a i ∧ -off X a i ≤ 40 by omega) c1 c2, looksM K hK h ha hb c2 (show -40 ≤ -off X a i ∧ -off X a i ≤ 40 by omega) (show -40 ≤ -off X a i ∧ -off X a i ≤ 40 by omega) (show -40 ≤ -off Y b i ∧ -off Y b i ≤ 40 by omega), Option.bind_some, q1, q2, q3, q4]
        have hk := kmin_add (q := lkB (off X a) (off Y b) (-1) (-1) i) (kmin_add (q := lkB (off X a) (off Y b) (-1) 1 i) (kmin_add (q := lkB (off X a) (off Y b) 1 (-1) i) (kmin_add (q := lkB (off X a) (off Y b) 1 1 i) hw)))
        have hk2 := kmin_eqv (D' := fun r => r = hfB (off X a) (off Y b) ∨ Lk (off X a) (off Y b) (i + 1) r) hk (fun q => by
          rw [Lk_succ]
          constructor
          · rintro (((((u | u) | u) | u) | u) | u)
            · exact Or.inl u
            · exact Or.inr (Or.inl u)
            · exact Or.inr (Or.inr ⟨hz, Or.inl u⟩)
            · exact Or.inr (Or.inr ⟨hz, Or.inr (Or.inl u)⟩)
            · exact Or.inr (Or.inr ⟨hz, Or.inr (Or.inr (Or.inl u))⟩)
            · exact Or.inr (Or.inr ⟨hz, Or.inr (Or.inr (Or.inr u))⟩)
          · rintro (u | u | ⟨-, u | u | u | u⟩)
            · exact Or.inl (Or.inl (Or.inl (Or.inl (Or.inl u))))
            · exact Or.inl (Or.inl (Or.inl (Or.inl (Or.inr u))))
            · exact Or.inl (Or.inl (Or.inl (Or.inr u)))
            · exact Or.inl (Or.inl (Or.inr u))
            · exact Or.inl (Or.inr u)
            · exact Or.inr u)
        have fin := ih (i + 1) _ (by omega) (by omega) hk2
        by_cases z1 : off X a i = 0
        · rw [if_pos z1, if_neg (fun z2 => hz ⟨z1, z2⟩)]
          exact fin
        · rw [if_neg z1]
          exact fin
theorem depthM (K : Nat) (hK : 4000 ≤ K) {n : Nat} {x y : Nat → Int32} {X Y : Nat → Int} (h : Pts n x y X Y) {a b : Int} (ha : -20 ≤ a ∧ a ≤ 20) (hb : -20 ≤ b ∧ b ≤ 20) (f s : Int32) : ∃ w, fX12_depthAt K (nI n) f s x y (iI a) (iI b) = some (nI (cnt w n), nI (cnt w n), bP w n) ∧ kmin n (fun r => r = hfB (off X a) (off Y b) ∨ Lk (off X a) (off Y b) n r) w := by
  have hn := h.1
  have IH := looksL K h ha hb (show -40 ≤ (1 : Int) ∧ (1 : Int) ≤ 40 by omega) (show -40 ≤ (0 : Int) ∧ (0 : Int) ≤ 40 by omega) (show -40 ≤ (0 : Int) ∧ (0 : Int) ≤ 40 by omega) (show -40 ≤ (1 : Int) ∧ (1 : Int) ≤ 40 by omega) K 0 (by omega) (by omega)
  rw [bP, lkN_first] at IH
  have l1 := cnt_le (hfB (off X a) (off Y b)) n
  have e0 : fX12_looks K (nI n) 25 0 x y (iI a) (iI b) 1 0 0 1 = some (nI (cnt (hfB (off X a) (off Y b)) n), bP (hfB (off X a) (off Y b)) n) := by
    unfold fX12_looks
    rw [show (25 : Int32) = nI 25 from rfl, show nI 0 = (0 : Int32) from rfl] at *
    rw [show (1 : Int64) = jJ 1 from rfl, show (0 : Int64) = jJ 0 from rfl, IH]
    simp only [sm_b1, bP_b1 K _ hn, jn, nI_ltn (show 25 < 1000 by omega) (show cnt (hfB (off X a) (off Y b)) n < 1000 by omega), nI_eqn (show cnt (hfB (off X a) (off Y b)) n < 1000 by omega) (show 25 < 1000 by omega)]
    rw [if_neg (by omega), if_neg (by omega)]
  obtain ⟨w, h1, h2⟩ := depthML K hK h ha hb K 0 (hfB (off X a) (off Y b)) (by omega) (by omega) ⟨Or.inl rfl, fun q hq => by
    rcases hq with rfl | ⟨t, σ, τ, u, -⟩
    · exact Nat.le_refl _
    · omega⟩
  refine ⟨w, ?_, h2⟩
  unfold fX12_depthAt
  rw [e0]
  simp only [b2, Option.bind_some]
  rw [show (0 : Int32) = nI 0 from rfl, h1]
  rfl
theorem kmin_dmin {n : Nat} (hn : n ≤ 24) {α β : Nat → Int} {w : Nat → Bool} (hw : kmin n (fun r => r = hfB α β ∨ Lk α β n r) w) : dmin n α β n (cnt w n) ∧ ∃ q, kmin n (fun r => r = allB ∨ Lk α β n r) q ∧ cnt q n = cnt w n := by
  by_cases ex : ∃ t, t < n ∧ ¬ zr α β t
  · obtain ⟨t, σ, τ, ht, hz, hs, hu, hh⟩ := half_look ex
    have L1 : Lk α β n (lkB α β σ τ t) := ⟨t, σ, τ, ht, hz, hs, hu, rfl⟩
    obtain ⟨q, hq, e⟩ : ∃ q, Lk α β n q ∧ ky n q = ky n w := by
      rcases hw.1 with e | e
      · exact ⟨_, L1, by rw [e, ky_congr hh]⟩
      · exact ⟨w, e, rfl⟩
    have hk : kmin n (fun r => r = allB ∨ Lk α β n r) q := by
      refine ⟨Or.inr hq, ?_⟩
      rintro r (rfl | hr)
      · rw [e]
        exact Nat.le_trans (hw.2 _ (Or.inr L1)) (ky_mono (fun i hi _ => rfl))
      · rw [e]; exact hw.2 _ (Or.inr hr)
    have ec := (ky_eq hn e).1
    refine ⟨⟨⟨q, Or.inr hq, ec.symm⟩, fun p hp => ?_⟩, q, hk, ec⟩
    rw [← ec]
    exact ky_cnt hn (hk.2 p hp)
  · have hz : ∀ i, i < n → zr α β i := fun i hi => Classical.byContradiction (fun h => ex ⟨i, hi, h⟩)
    have nl : ∀ r, ¬ Lk α β n r := by
      rintro r ⟨t, σ, τ, ht, hz', -⟩
      exact hz' (hz t ht)
    have e : ky n (hfB α β) = ky n allB := ky_congr (fun i hi => by unfold hfB allB; simp [hz i hi])
    have e1 : ky n w = ky n allB := by
      rcases hw.1 with e1 | e1
      · rw [e1, e]
      · exact absurd e1 (nl _)
    have ec := (ky_eq hn e1).1
    refine ⟨⟨⟨allB, Or.inl rfl, ec⟩, fun p hp => ?_⟩, allB, ⟨Or.inl rfl, fun q hq => ?_⟩, ec.symm⟩
    · rcases hp with rfl | hp
      · omega
      · exact absurd hp (nl _)
    · rcases hq with rfl | hq
      · exact Nat.le_refl _
      · exact absurd hq (nl _)
theorem dmin_uniq {n : Nat} {α β : Nat → Int} {i d e : Nat} (h1 : dmin n α β i d) (h2 : dmin n α β i e) : d = e := by
  obtain ⟨⟨p, hp, rfl⟩, hm⟩ := h1
  obtain ⟨⟨q, hq, rfl⟩, hm2⟩ := h2
  have := hm q hq
  have := hm2 p hp
  omega
theorem ev_depth (K : Nat) (hK : 4000 ≤ K) (x_cloud_size : Int32) (x_cloud_x : Nat → Int32) (x_cloud_y : Nat → Int32) (x_cloud_colour : Nat → Int32) (x_cloud_load : Nat → Int32) (x_cloud_centreX : Int32) (x_cloud_centreY : Int32) (x_reader_tape : Nat → Int32) (x_reader_length : Int32) (x_reader_faultKind : Int32) (x_reader_faultPlace : Int32) (m_many : Int32) (m_px : Nat → Int32) (m_py : Nat → Int32) (m_colour : Nat → Int32) (m_load : Nat → Int32) (m_cx : Int32) (m_cy : Int32) (m_tape : Nat → Int32) (m_taped : Int32) (m_faultKind : Int32) (m_faultPlace : Int32) (x_depths_here : Int32) (x_depths_onLeft : Int32) (x_depths_onRight : Int32) (x_depths_ahead : Int32) (x_depths_behind : Int32) (m_depthFound : Int32) (m_depthSet : Int32) (a1 : Int32) (a2 : Int32) (hR : Rel x_cloud_size x_cloud_x x_cloud_y x_cloud_colour x_cloud_load x_cloud_centreX x_cloud_centreY x_reader_tape x_reader_length x_reader_faultKind x_reader_faultPlace m_many m_px m_py m_colour m_load m_cx m_cy m_tape m_taped m_faultKind m_faultPlace) : ∃ (r : Int32) (o_x_depths_here : Int32) (o_x_depths_onLeft : Int32) (o_x_depths_onRight : Int32) (o_x_depths_ahead : Int32) (o_x_depths_behind : Int32) (o_m_depthFound : Int32) (o_m_depthSet : Int32), fX11_depth K x_cloud_size x_cloud_x x_cloud_y x_depths_here x_depths_onLeft x_depths_onRight x_depths_ahead x_depths_behind a1 a2 = some (r, o_x_depths_here, o_x_depths_onLeft, o_x_depths_onRight, o_x_depths_ahead, o_x_depths_behind) ∧ fX12_depth K m_many m_depthFound m_depthSet m_px m_py a1 a2 = some (r, o_m_depthFound, o_m_depthSet) := by
  obtain ⟨n, rfl, rfl, hXc, hXm⟩ := Rel_pts hR
  unfold fX11_depth fX12_depth
  rcases isPlace_c K a1 a2 with ⟨c, c1, c2⟩ | ⟨c, c1, c2⟩
  · obtain ⟨a, b, rfl, rfl, ha, hb⟩ := isPl_i c
    rw [c1, c2]
    obtain ⟨d', o1', o2', o3', o4', o5', f1, f2, f3⟩ := depthC K hK hXc ha hb (e := -1) ⟨by omega, by omega⟩ x_depths_here x_depths_onLeft x_depths_onRight x_depths_ahead x_depths_behind
    obtain ⟨w, g1, g2⟩ := depthM K hK hXm ha hb m_depthFound m_depthSet
    have f1' : fX1_depthAt K x_depths_here x_depths_onLeft x_depths_onRight x_depths_ahead x_depths_behind (nI n) x_cloud_x x_cloud_y (iI a) (iI b) (-1) = some (nI d', o1', o2', o3', o4', o5') := f1
    simp only [b1, Option.bind_some, if_neg one_ne, f1', g1, b6, b3]
    have hd : d' = cnt w n := by
      rcases f3 with f3 | f3
      · exact dmin_uniq f3 (kmin_dmin hXc.1 g2).1
      · have := f3.1; omega
    rw [hd]
    exact ⟨_, _, _, _, _, _, _, _, rfl, rfl⟩
  · rw [c1, c2]
    exact ⟨_, _, _, _, _, _, _, _, rfl, rfl⟩
