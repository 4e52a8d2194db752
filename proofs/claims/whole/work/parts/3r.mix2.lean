--@ needs 3q.mix
/-! mixture: class and model -/
theorem z4L (K : Nat) : ∀ (fu i : Nat) (t : Nat → Int64), i ≤ 4 → 4 - i < fu → (∀ j, j < i → t j = 0) → ∃ t', fX7_mix_L2 K fu (nI i) t = some t' ∧ ∀ j, j < 4 → t' j = 0 := by
  intro fu
  induction fu with
  | zero => intro i t h1 h2; omega
  | succ fu ih =>
    intro i t h1 h2 h3
    rw [fX7_mix_L2]
    by_cases hi : i = 4
    · subst hi
      rw [if_pos (show (3 : Int32) < nI 4 by decide)]
      exact ⟨t, rfl, h3⟩
    · have hlt : i < 4 := by omega
      rw [if_neg (show ¬ (3 : Int32) < nI i from fun s => by have := (nI_ltn (a := 3) (by omega) (by omega)).mp s; omega), gd_t (inb_nI hlt (by decide)), nI_clamp (by omega), xl_e, xl_e, nI_1]
      refine ih (i + 1) _ (by omega) (by omega) (fun j hj => ?_)
      by_cases e : j = i
      · rw [e, updL_at]
      · rw [updL_ne e]; exact h3 j (by omega)
theorem z3L (K : Nat) : ∀ (fu i : Nat) (t : Nat → Int64), i ≤ 3 → 3 - i < fu → (∀ j, j < i → t j = 0) → ∃ t', fX12_mixture_L75 K fu (nI i) t = some t' ∧ ∀ j, j < 3 → t' j = 0 := by
  intro fu
  induction fu with
  | zero => intro i t h1 h2; omega
  | succ fu ih =>
    intro i t h1 h2 h3
    rw [fX12_mixture_L75]
    by_cases hi : i = 3
    · subst hi
      rw [if_pos (show (3 : Int32) ≤ nI 3 by decide)]
      exact ⟨t, rfl, h3⟩
    · have hlt : i < 3 := by omega
      rw [if_neg (show ¬ (3 : Int32) ≤ nI i from (nI_ge hlt (by decide) : ¬ nI 3 ≤ nI i)), gd_t (inb_nI hlt (by decide)), nI_clamp (by omega), xl_e, xl_e, nI_1]
      refine ih (i + 1) _ (by omega) (by omega) (fun j hj => ?_)
      by_cases e : j = i
      · rw [e, updL_at]
      · rw [updL_ne e]; exact h3 j (by omega)
/-- one that is at the centre -/
def atC (X Y : Nat → Int) (p q : Int) (a : Nat) : Prop := X a = p ∧ Y a = q
theorem oneC (K : Nat) {n : Nat} {x y : Nat → Int32} {X Y : Nat → Int} (h : Pts n x y X Y) {ch : Nat → Int32} {m : Nat → Nat} (hm : ∀ i, i < 3 → ch i = nI (m i) ∧ m i < n) {p q : Int} (hp : -20 ≤ p ∧ p ≤ 20) (hq : -20 ≤ q ∧ q ≤ 20) : ∀ (fu i : Nat), i ≤ 3 → 3 - i < fu → (∀ j, j < i → ¬ atC X Y p q (m j)) → (∃ k, k < 3 ∧ atC X Y p q (m k) ∧ (∀ j, j < k → ¬ atC X Y p q (m j)) ∧ fX7_mixOne_L2 K ch (iI p) (iI q) x y fu (nI i) = some (.inl (nI k))) ∨ ((∀ j, j < 3 → ¬ atC X Y p q (m j)) ∧ fX7_mixOne_L2 K ch (iI p) (iI q) x y fu (nI i) = some (.inr ())) := by
  intro fu
  induction fu with
  | zero => intro i h1 h2; omega
  | succ fu ih =>
    intro i h1 h2 h3
    rw [fX7_mixOne_L2]
    by_cases hi : i = 3
    · subst hi
      rw [if_pos (show (3 : Int32) ≤ nI 3 by decide)]
      exact Or.inr ⟨h3, rfl⟩
    · have hlt : i < 3 := by omega
      obtain ⟨c1, c2⟩ := hm i hlt
      rw [if_neg (show ¬ (3 : Int32) ≤ nI i from (nI_ge hlt (by decide) : ¬ nI 3 ≤ nI i)), gd_t (inb_nI hlt (by decide)), nI_clamp (by omega), c1, isAt_c K h c2 hp hq, sm_b1]
      by_cases w : atC X Y p q (m i)
      · rw [show (if X (m i) = p ∧ Y (m i) = q then (1 : Int32) else 0) = 1 from if_pos w, if_neg one_ne]
        exact Or.inl ⟨i, hlt, w, h3, rfl⟩
      · rw [show (if X (m i) = p ∧ Y (m i) = q then (1 : Int32) else 0) = 0 from if_neg w, if_pos rfl, xl_e, nI_1]
        exact ih (i + 1) (by omega) (by omega) (fun j hj => by
          by_cases e : j = i
          · rw [e]; exact w
          · exact h3 j (by omega))
def e1v (k i : Nat) : Int := if i = k then 1 else 0
theorem oneM (K : Nat) {n : Nat} {px py : Nat → Int32} {X Y : Nat → Int} (h : Pts n px py X Y) {ch : Nat → Int32} {m : Nat → Nat} (hm : ∀ i, i < 3 → ch i = nI (m i) ∧ m i < n) {p q : Int} (hp : -20 ≤ p ∧ p ≤ 20) (hq : -20 ≤ q ∧ q ≤ 20) : ∀ (fu i : Nat) (t : Nat → Int64), i ≤ 3 → 3 - i < fu → (∀ j, j < i → ¬ atC X Y p q (m j)) → (∀ j, j < 3 → t j = 0) → (∃ k t', k < 3 ∧ atC X Y p q (m k) ∧ (∀ j, j < k → ¬ atC X Y p q (m j)) ∧ fX12_mixture_L98 K (iI p) (iI q) px py ch fu 0 (nI i) t = some (1, t') ∧ ∀ j, j < 3 → t' j = jJ (e1v k j)) ∨ ((∀ j, j < 3 → ¬ atC X Y p q (m j)) ∧ ∃ t', fX12_mixture_L98 K (iI p) (iI q) px py ch fu 0 (nI i) t = some (0, t') ∧ ∀ j, j < 3 → t' j = 0) := by
  intro fu
  induction fu with
  | zero => intro i t h1 h2; omega
  | succ fu ih =>
    intro i t h1 h2 h3 h4
    have hn := h.1
    rw [fX12_mixture_L98]
    by_cases hi : i = 3
    · subst hi
      rw [if_pos (show (3 : Int32) ≤ nI 3 by decide)]
      exact Or.inr ⟨h3, t, rfl, h4⟩
    · have hlt : i < 3 := by omega
      obtain ⟨c1, c2⟩ := hm i hlt
      obtain ⟨e1, e2, r1, r2⟩ := h.2 (m i) c2
      rw [if_neg (show ¬ (3 : Int32) ≤ nI i from (nI_ge hlt (by decide) : ¬ nI 3 ≤ nI i)), if_pos rfl]
      simp only [gd_t (inb_nI hlt (by decide)), nI_clamp (show i < 2 ^ 31 by omega), c1, gd_t (inb_nI (show m i < 24 by omega) (by decide)), nI_clamp (show m i < 2 ^ 31 by omega), e1, e2, jn_e, xl_e, nI_1, iI_eq (show s32 (X (m i)) from ⟨by omega, by omega⟩) (show s32 p from ⟨by omega, by omega⟩), iI_eq (show s32 (Y (m i)) from ⟨by omega, by omega⟩) (show s32 q from ⟨by omega, by omega⟩), if_neg one_ne, if_true]
      have cont : ¬ atC X Y p q (m i) → _ := fun w => ih (i + 1) (vp_updL t i 0) (by omega) (by omega) (fun j hj => by
        by_cases e : j = i
        · rw [e]; exact w
        · exact h3 j (by omega)) (fun j hj => by
        by_cases e : j = i
        · rw [e, updL_at]
        · rw [updL_ne e]; exact h4 j hj)
      by_cases w1 : X (m i) = p
      · rw [if_pos w1]
        by_cases w2 : Y (m i) = q
        · rw [if_pos w2]
          refine Or.inl ⟨i, vp_updL t i 1, hlt, ⟨w1, w2⟩, h3, ?_, fun j hj => ?_⟩
          · cases fu with
            | zero => omega
            | succ fu =>
              rw [fX12_mixture_L98]
              by_cases h33 : i + 1 = 3
              · rw [h33, if_pos (show (3 : Int32) ≤ nI 3 by decide)]
              · rw [if_neg (show ¬ (3 : Int32) ≤ nI (i + 1) from (nI_ge (show i + 1 < 3 by omega) (by decide) : ¬ nI 3 ≤ nI (i + 1))), if_neg one_ne]
          · unfold e1v
            by_cases e : j = i
            · rw [e, updL_at, if_pos rfl]; rfl
            · rw [updL_ne e, if_neg e]; exact h4 j hj
        · rw [if_neg w2]
          exact cont (fun s => w2 s.2)
      · rw [if_neg w1]
        exact cont (fun s => w1 s.1)
/-- a pair -/
def prC (X Y : Nat → Int) (p q : Int) (a b : Nat) : Prop := (X a - p) * (Y b - q) - (Y a - q) * (X b - p) = 0 ∧ (X a - p) * (X b - p) + (Y a - q) * (Y b - q) < 0
def l1n (X Y : Nat → Int) (p q : Int) (a : Nat) : Int := ((X a - p).natAbs : Int) + (Y a - q).natAbs
theorem pairC (K : Nat) {n : Nat} {x y : Nat → Int32} {X Y : Nat → Int} (h : Pts n x y X Y) {ch : Nat → Int32} {m : Nat → Nat} (hm : ∀ i, i < 3 → ch i = nI (m i) ∧ m i < n) {p q : Int} (hp : -20 ≤ p ∧ p ≤ 20) (hq : -20 ≤ q ∧ q ≤ 20) {i j : Nat} (hi : i < 3) (hj : j < 3) (hij : i ≠ j) (arr : Nat → Int64) : (prC X Y p q (m i) (m j) ∧ ∃ arr', fX7_mixPair K ch arr (iI p) (iI q) x y (nI i) (nI j) = some (1, arr') ∧ arr' i = jJ (l1n X Y p q (m j)) ∧ arr' j = jJ (l1n X Y p q (m i)) ∧ arr' 3 = jJ (l1n X Y p q (m j) + l1n X Y p q (m i)) ∧ ∀ k, k ≠ i → k ≠ j → k ≠ 3 → arr' k = arr k) ∨ (¬ prC X Y p q (m i) (m j) ∧ fX7_mixPair K ch arr (iI p) (iI q) x y (nI i) (nI j) = some (0, arr)) := by
  have hn := h.1
  obtain ⟨c1, c2⟩ := hm i hi
  obtain ⟨d1, d2'⟩ := hm j hj
  obtain ⟨e1, e2, -⟩ := h.2 (m i) c2
  obtain ⟨f1, f2, -⟩ := h.2 (m j) d2'
  have oa := off_bd h hp hq c2
  have ob := off_bd h hp hq d2'
  have cd := cd_bd oa ob
  unfold crs dts off at cd
  unfold off at oa ob
  unfold fX7_mixPair fX11_cross
  simp only [gd_t (inb_nI hi (by decide)), gd_t (inb_nI hj (by decide)), nI_clamp (show i < 2 ^ 31 by omega), nI_clamp (show j < 2 ^ 31 by omega), c1, d1, gd_t (inb_nI (show m i < 24 by omega) (by decide)), gd_t (inb_nI (show m j < 24 by omega) (by decide)), nI_clamp (show m i < 2 ^ 31 by omega), nI_clamp (show m j < 2 ^ 31 by omega), e1, e2, f1, f2, xl_e, iI_sub, iI_long (show s32 (X (m i) - p) from ⟨by omega, by omega⟩), iI_long (show s32 (Y (m i) - q) from ⟨by omega, by omega⟩), iI_long (show s32 (X (m j) - p) from ⟨by omega, by omega⟩), iI_long (show s32 (Y (m j) - q) from ⟨by omega, by omega⟩), jJ_mul, jJ_sub, jJ_add, sm_b1, j_eq0 (show s64 ((X (m i) - p) * (Y (m j) - q) - (Y (m i) - q) * (X (m j) - p)) from ⟨by omega, by omega⟩), j_lt0 (show s64 ((X (m i) - p) * (X (m j) - p) + (Y (m i) - q) * (Y (m j) - q)) from ⟨by omega, by omega⟩), jabsl_jJ (a := X (m i) - p) (by omega) (by omega), jabsl_jJ (a := Y (m i) - q) (by omega) (by omega), jabsl_jJ (a := X (m j) - p) (by omega) (by omega), jabsl_jJ (a := Y (m j) - q) (by omega) (by omega), gd_t (inb_nI (show i < 4 by omega) (by decide)), gd_t (inb_nI (show j < 4 by omega) (by decide)), show (3 : Int32).toNatClampNeg = 3 from rfl]
  by_cases w1 : (X (m i) - p) * (Y (m j) - q) - (Y (m i) - q) * (X (m j) - p) = 0
  · rw [if_pos w1]
    by_cases w2 : (X (m i) - p) * (X (m j) - p) + (Y (m i) - q) * (Y (m j) - q) < 0
    · rw [if_pos w2]
      refine Or.inl ⟨⟨w1, w2⟩, _, rfl, ?_, ?_, ?_, fun k k1 k2 k3 => ?_⟩
      · rw [updL_ne (by omega), updL_ne hij, updL_at]; rfl
      · rw [updL_ne (by omega), updL_at]; rfl
      · rw [updL_at, updL_at, updL_ne hij, updL_at, jJ_add]; rfl
      · rw [updL_ne k3, updL_ne k2, updL_ne k1]
    · rw [if_neg w2]
      exact Or.inr ⟨fun s => w2 s.2, rfl⟩
  · rw [if_neg w1]
    exact Or.inr ⟨fun s => w1 s.1, rfl⟩
theorem two_bP {n : Nat} (hn : n ≤ 24) {a b : Nat} (ha : a < n) (hb : b < n) : ((1 : Int32) <<< (nI a &&& 31)) ||| ((1 : Int32) <<< (nI b &&& 31)) = bP (t3 a b b) n := by
  refine b_ext fun i hi => ?_
  rw [b_or, one_shl (by omega) hi, one_shl (by omega) hi, bP_bt _ hn hi]
  unfold t3
  rw [← Bool.decide_or, ← Bool.decide_and, decide_eq_decide]
  omega
theorem sd_le (U V : Nat → Int) (m : Nat) (P Q L : Int) : sdv U V m P Q L = 0 ↔ sdv U V m P Q L ≤ 0 := by
  unfold sdv
  (repeat' split) <;> decide
theorem pairM (K : Nat) (hK : 4000 ≤ K) {n : Nat} {px py : Nat → Int32} {X Y : Nat → Int} (h : Pts n px py X Y) {ch : Nat → Int32} {m : Nat → Nat} (hm : ∀ i, i < 3 → ch i = nI (m i) ∧ m i < n) {p q : Int} (hp : -20 ≤ p ∧ p ≤ 20) (hq : -20 ≤ q ∧ q ≤ 20) {i j : Nat} (hi : i < 3) (hj : j < 3) (hij : i ≠ j) (zi : ¬ atC X Y p q (m i)) (zj : ¬ atC X Y p q (m j)) (rm : Int32) (cor cors row : Nat → Int32) (arr : Nat → Int64) : ∃ rm' cor' cors' row', (prC X Y p q (m i) (m j) ∧ ∃ arr', fX12_mixesTwo K (nI n) (iI p) (iI q) rm px py cor cors row arr ch (nI i) (nI j) = some (1, rm', cor', cors', row', arr') ∧ arr' i = jJ ((X (m j) - p) * (X (m j) - p) + (Y (m j) - q) * (Y (m j) - q) - ((X (m i) - p) * (X (m j) - p) + (Y (m i) - q) * (Y (m j) - q))) ∧ arr' j = jJ ((X (m i) - p) * (X (m i) - p) + (Y (m i) - q) * (Y (m i) - q) - ((X (m i) - p) * (X (m j) - p) + (Y (m i) - q) * (Y (m j) - q))) ∧ ∀ k, k ≠ i → k ≠ j → arr' k = arr k) ∨ (¬ prC X Y p q (m i) (m j) ∧ fX12_mixesTwo K (nI n) (iI p) (iI q) rm px py cor cors row arr ch (nI i) (nI j) = some (0, rm', cor', cors', row', arr)) := by
  have hn := h.1
  obtain ⟨c1, c2⟩ := hm i hi
  obtain ⟨d1, d2'⟩ := hm j hj
  obtain ⟨e1, e2, r1, r2⟩ := h.2 (m i) c2
  obtain ⟨f1, f2, r3, r4⟩ := h.2 (m j) d2'
  have st : isSt n (bP (t3 (m i) (m j) (m j)) n) := isSt_of_bP hn c2 (decide_eq_true (Or.inl rfl))
  obtain ⟨rm', cor', cors', row', g1, g2⟩ := laysM0 K hK h st rm cor cors row
  have hU := hU_ok h st
  have hr := hN_rng (X := X) (Y := Y) hn st
  have s2 := sideM K hK (hulB_M K g2) hr.1 (by omega) hU (okP_c hp hq)
  have k1 := sdv_in (hX X Y (bP (t3 (m i) (m j) (m j)) n) n) (hY X Y (bP (t3 (m i) (m j) (m j)) n) n) (hN X Y (bP (t3 (m i) (m j) (m j)) n) n) p q 1
  have k2 := three_holds h c2 d2' d2' p q
  have k3 := pair_iff (ax := X (m i) - p) (ay := Y (m i) - q) (bx := X (m j) - p) (b_y := Y (m j) - q) (fun s => zi ⟨by omega, by omega⟩) (fun s => zj ⟨by omega, by omega⟩)
  have k4 := sd_le (hX X Y (bP (t3 (m i) (m j) (m j)) n) n) (hY X Y (bP (t3 (m i) (m j) (m j)) n) n) (hN X Y (bP (t3 (m i) (m j) (m j)) n) n) p q 1
  refine ⟨rm', cor', cors', row', ?_⟩
  unfold fX12_mixesTwo
  simp only [gd_t (inb_nI hi (by decide)), gd_t (inb_nI hj (by decide)), nI_clamp (show i < 2 ^ 31 by omega), nI_clamp (show j < 2 ^ 31 by omega), c1, d1, xl_e]
  rw [two_bP hn c2 d2', g1, sm_b4, iI_long (show s32 p from ⟨by omega, by omega⟩), iI_long (show s32 q from ⟨by omega, by omega⟩)]
  rw [show fX12_sideOf K px py cor' cors' 0 (jJ p) (jJ q) 1 = _ from s2, sm_b1]
  by_cases w : prC X Y p q (m i) (m j)
  · have hin := k2.mpr (k3.mpr w)
    rw [if_neg (fun s => k1.mp (k4.mp s) hin)]
    simp only [gd_t (inb_nI (show m i < 24 by omega) (by decide)), gd_t (inb_nI (show m j < 24 by omega) (by decide)), nI_clamp (show m i < 2 ^ 31 by omega), nI_clamp (show m j < 2 ^ 31 by omega), e1, e2, f1, f2, xl_e, iI_sub, iI_long (show s32 (X (m j) - X (m i)) from ⟨by omega, by omega⟩), iI_long (show s32 (Y (m j) - Y (m i)) from ⟨by omega, by omega⟩), iI_long (show s32 (p - X (m i)) from ⟨by omega, by omega⟩), iI_long (show s32 (q - Y (m i)) from ⟨by omega, by omega⟩), jJ_mul, jJ_add, jJ_sub]
    refine Or.inl ⟨w, _, rfl, ?_, ?_, fun k q1 q2 => ?_⟩
    · rw [updL_ne hij, updL_at]; congr 1; grind
    · rw [updL_at]; congr 1; grind
    · rw [updL_ne q2, updL_ne q1]
  · have hno : ¬ inH (hX X Y (bP (t3 (m i) (m j) (m j)) n) n) (hY X Y (bP (t3 (m i) (m j) (m j)) n) n) (hN X Y (bP (t3 (m i) (m j) (m j)) n) n) p q 1 := fun s => w (k3.mp (k2.mp s))
    rw [if_pos (k4.mpr (k1.mpr hno))]
    exact Or.inr ⟨w, rfl⟩
