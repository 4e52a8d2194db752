/-! where a place lies: both programs' answers -/
theorem mulB {u v a b : Int} (hu : -a ≤ u ∧ u ≤ a) (hv : -b ≤ v ∧ v ≤ b) : -(a * b) ≤ u * v ∧ u * v ≤ a * b := by
  have a1 : 0 ≤ (a - u) * (b - v) := Int.mul_nonneg (by omega) (by omega)
  have a2 : 0 ≤ (a - u) * (b + v) := Int.mul_nonneg (by omega) (by omega)
  have a3 : 0 ≤ (a + u) * (b - v) := Int.mul_nonneg (by omega) (by omega)
  have a4 : 0 ≤ (a + u) * (b + v) := Int.mul_nonneg (by omega) (by omega)
  have e1 : (a - u) * (b - v) + (a + u) * (b + v) = 2 * (a * b) + 2 * (u * v) := by grind
  have e2 : (a - u) * (b + v) + (a + u) * (b - v) = 2 * (a * b) - 2 * (u * v) := by grind
  omega
def anyN (f : Nat → Bool) : Nat → Bool
  | 0 => false
  | k + 1 => anyN f k || f k
theorem anyN_up {f : Nat → Bool} {i : Nat} (h : anyN f i = true) : ∀ m : Nat, i ≤ m → anyN f m = true := by
  intro m
  induction m with
  | zero => intro hi; have : i = 0 := by omega
            subst this; exact h
  | succ m ih =>
    intro hi
    by_cases c : i = m + 1
    · rw [← c]; exact h
    · rw [anyN, ih (by omega)]; rfl
theorem anyN_iff {f : Nat → Bool} : ∀ {m : Nat}, anyN f m = true ↔ ∃ j, j < m ∧ f j = true := by
  intro m
  induction m with
  | zero => simp [anyN]
  | succ m ih =>
    rw [anyN, Bool.or_eq_true, ih]
    constructor
    · rintro (⟨j, h1, h2⟩ | h)
      · exact ⟨j, by omega, h2⟩
      · exact ⟨m, by omega, h⟩
    · rintro ⟨j, h1, h2⟩
      by_cases c : j = m
      · subst c; exact Or.inr h2
      · exact Or.inl ⟨j, by omega, h2⟩
/-- an edge's turn to the place P, Q by L -/
def tE (U V : Nat → Int) (m : Nat) (P Q L : Int) (i : Nat) : Int := (U (cy m (i + 1)) - U i) * (Q - V i * L) - (V (cy m (i + 1)) - V i) * (P - U i * L)
def sdv (U V : Nat → Int) (m : Nat) (P Q L : Int) : Int32 := if anyN (fun i => decide (tE U V m P Q L i < 0)) m = true then 0 else if m < 3 then (if (U 0 * L - P) * (U (m - 1) * L - P) + (V 0 * L - Q) * (V (m - 1) * L - Q) ≤ 0 then 1 else 0) else if anyN (fun i => decide (tE U V m P Q L i = 0)) m = true then 1 else 2
def okP (P Q L : Int) : Prop := (-1000000 ≤ P ∧ P ≤ 1000000) ∧ (-1000000 ≤ Q ∧ Q ≤ 1000000) ∧ 1 ≤ L ∧ L ≤ 10000
def okU (U V : Nat → Int) (m : Nat) : Prop := ∀ i : Nat, i < m → (-20 ≤ U i ∧ U i ≤ 20) ∧ -20 ≤ V i ∧ V i ≤ 20
theorem cy_lt {m i : Nat} (h : 0 < m) : cy m i < m := by
  unfold cy
  by_cases c : i < m
  · rw [if_pos c]; exact c
  · rw [if_neg c]; exact h
theorem off_rng {u P L : Int} (hu : -20 ≤ u ∧ u ≤ 20) (hP : -1000000 ≤ P ∧ P ≤ 1000000) (hL : 1 ≤ L ∧ L ≤ 10000) : -1200000 ≤ P - u * L ∧ P - u * L ≤ 1200000 := by
  have := mulB (a := 20) (b := 10000) hu (v := L) (by omega)
  omega
theorem tE_rng {U V : Nat → Int} {m : Nat} {P Q L : Int} (hU : okU U V m) (hP : okP P Q L) {i : Nat} (hi : i < m) : -96000000 ≤ tE U V m P Q L i ∧ tE U V m P Q L i ≤ 96000000 := by
  obtain ⟨p1, p2, p3⟩ := hP
  obtain ⟨u1, u2⟩ := hU i hi
  obtain ⟨v1, v2⟩ := hU (cy m (i + 1)) (cy_lt (by omega))
  have a1 := off_rng u1 p1 p3
  have a2 := off_rng u2 p2 p3
  have b1 := mulB (u := U (cy m (i + 1)) - U i) (v := Q - V i * L) (a := 40) (b := 1200000) (by omega) (by omega)
  have b2 := mulB (u := V (cy m (i + 1)) - V i) (v := P - U i * L) (a := 40) (b := 1200000) (by omega) (by omega)
  unfold tE
  omega
theorem j_ge0 {z : Int} (h : s64 z) : (0 : Int64) ≤ jJ z ↔ ¬ z < 0 := by
  have e : jJ 0 ≤ jJ z ↔ 0 ≤ z := jJ_le ⟨by omega, by omega⟩ h
  have e2 : (0 : Int64) ≤ jJ z ↔ 0 ≤ z := e
  rw [e2]; omega
theorem j_lt0 {z : Int} (h : s64 z) : jJ z < (0 : Int64) ↔ z < 0 := jJ_lt (a := z) (b := 0) h ⟨by omega, by omega⟩
theorem j_gt0 {z : Int} (h : s64 z) : (0 : Int64) < jJ z ↔ 0 < z := jJ_lt (a := 0) (b := z) ⟨by omega, by omega⟩ h
theorem j_eq0 {z : Int} (h : s64 z) : jJ z = (0 : Int64) ↔ z = 0 := jJ_eq (a := z) (b := 0) h ⟨by omega, by omega⟩
def rf (U V : Nat → Int) (m : Nat) (P Q L : Int) (i : Nat) : Int32 := if anyN (fun i => decide (tE U V m P Q L i = 0)) i = true then 1 else 0
theorem sideCl (K : Nat) {gx gy : Nat → Int32} {U V : Nat → Int} {m : Nat} (hm : m < 48) (h : hulA gx gy U V m) (hU : okU U V m) {P Q L : Int} (hP : okP P Q L) : ∀ (fu i : Nat), i ≤ m → m - i < fu → anyN (fun i => decide (tE U V m P Q L i < 0)) i = false → fX2_sideOf_L16 K (jJ P) (jJ Q) (jJ L) (nI m) gx gy fu (rf U V m P Q L i) (nI i) = if anyN (fun i => decide (tE U V m P Q L i < 0)) m = true then some (.inl ()) else some (.inr (rf U V m P Q L m)) := by
  intro fu
  induction fu with
  | zero => intro i h1 h2; omega
  | succ fu ih =>
    intro i h1 h2 hno
    rw [fX2_sideOf_L16]
    by_cases c : i = m
    · subst c
      rw [if_pos (nI_le (Nat.le_refl i) (by omega)), hno]; rfl
    · have him : i < m := by omega
      rw [if_neg (nI_ge him (by omega))]
      obtain ⟨a1, a2⟩ := h i (by omega)
      obtain ⟨b1, b2⟩ := h (i + 1) (by omega)
      have ci : cy m i = i := if_pos him
      rw [ci] at a1 a2
      have hr := tE_rng hU hP him
      have s : s64 (tE U V m P Q L i) := ⟨by omega, by omega⟩
      obtain ⟨u1, u2⟩ := hU i him
      obtain ⟨v1, v2⟩ := hU (cy m (i + 1)) (cy_lt (by omega))
      simp only [nI_1, gd_t (inb_nI (show i < 48 by omega) (by decide)), gd_t (inb_nI (show i + 1 < 48 by omega) (by decide)), nI_clamp (show i < 2 ^ 31 by omega), nI_clamp (show i + 1 < 2 ^ 31 by omega), a1, a2, b1, b2, xl, iI_sub, jn]
      rw [iI_long (show s32 (U (cy m (i + 1)) - U i) from ⟨by omega, by omega⟩), iI_long (show s32 (V (cy m (i + 1)) - V i) from ⟨by omega, by omega⟩), iI_long (show s32 (V i) from ⟨by omega, by omega⟩), iI_long (show s32 (U i) from ⟨by omega, by omega⟩)]
      simp only [jJ_mul, jJ_sub]
      rw [show (U (cy m (i + 1)) - U i) * (Q - V i * L) - (V (cy m (i + 1)) - V i) * (P - U i * L) = tE U V m P Q L i from rfl]
      simp only [j_ge0 s, j_eq0 s]
      by_cases d : tE U V m P Q L i < 0
      · have hn : anyN (fun i => decide (tE U V m P Q L i < 0)) m = true := anyN_iff.mpr ⟨i, him, by simpa using d⟩
        rw [if_neg (fun z => z d), if_pos hn]
      · rw [if_pos d]
        have hno2 : anyN (fun i => decide (tE U V m P Q L i < 0)) (i + 1) = false := by
          rw [anyN, hno]; simpa using d
        have := ih (i + 1) (by omega) (by omega) hno2
        rw [← this]
        have er : rf U V m P Q L (i + 1) = if anyN (fun i => decide (tE U V m P Q L i = 0)) i = true then 1 else if tE U V m P Q L i = 0 then 1 else 0 := by
          unfold rf
          rw [anyN]
          cases anyN (fun i => decide (tE U V m P Q L i = 0)) i <;> simp
        rw [er]
        unfold rf
        cases anyN (fun i => decide (tE U V m P Q L i = 0)) i
        · by_cases z : tE U V m P Q L i = 0
          · simp [z]
          · simp [z]
        · simp
/-- the class's answer -/
theorem sideC (K : Nat) (hK : 4000 ≤ K) {gx gy : Nat → Int32} {U V : Nat → Int} {m : Nat} (h0 : 0 < m) (hm : m < 48) (h : hulA gx gy U V m) (hU : okU U V m) {P Q L : Int} (hP : okP P Q L) : fX2_sideOf K (nI m) gx gy (jJ P) (jJ Q) (jJ L) = some (sdv U V m P Q L) := by
  unfold fX2_sideOf
  rw [if_pos (show (1 : Int32) ≤ nI m from (show nI 1 ≤ nI m from nI_le h0 (by omega)))]
  rw [show fX2_sideOf_L16 K (jJ P) (jJ Q) (jJ L) (nI m) gx gy K (0 : Int32) (0 : Int32) = _ from sideCl K hm h hU hP K 0 (Nat.zero_le _) (by omega) rfl]
  unfold sdv
  by_cases c : anyN (fun i => decide (tE U V m P Q L i < 0)) m = true
  · rw [if_pos c, if_pos c]; rfl
  · rw [if_neg c, if_neg c]
    simp only [sm, Option.bind_some, Sum.elim_inr, u1]
    by_cases d : m < 3
    · rw [if_pos (show nI m < (3 : Int32) from (show nI m < nI 3 from nI_lt d (by decide))), if_pos d]
      obtain ⟨a1, a2⟩ := h 0 (by omega)
      obtain ⟨b1, b2⟩ := h (m - 1) (by omega)
      rw [show cy m 0 = 0 from if_pos h0] at a1 a2
      rw [show cy m (m - 1) = m - 1 from if_pos (by omega)] at b1 b2
      obtain ⟨u1, u2⟩ := hU 0 h0
      obtain ⟨v1, v2⟩ := hU (m - 1) (by omega)
      obtain ⟨p1, p2, p3⟩ := hP
      have c1 := off_rng u1 p1 p3
      have c2 := off_rng u2 p2 p3
      have c3 := off_rng v1 p1 p3
      have c4 := off_rng v2 p2 p3
      have e1 : nI m - (1 : Int32) = nI (m - 1) := by
        obtain ⟨k, rfl⟩ : ∃ k, m = k + 1 := ⟨m - 1, by omega⟩
        exact nI_pred k
      simp only [xl, e1, gd_t (inb_nI (show m - 1 < 48 by omega) (by decide)), nI_clamp (show m - 1 < 2 ^ 31 by omega), show (0 : Int32).toNatClampNeg = 0 from rfl, a1, a2, b1, b2]
      rw [iI_long (show s32 (U 0) from ⟨by omega, by omega⟩), iI_long (show s32 (V 0) from ⟨by omega, by omega⟩), iI_long (show s32 (U (m - 1)) from ⟨by omega, by omega⟩), iI_long (show s32 (V (m - 1)) from ⟨by omega, by omega⟩)]
      simp only [jJ_mul, jJ_sub, jJ_add]
      have m1 := mulB (u := U 0 * L - P) (v := U (m - 1) * L - P) (a := 1200000) (b := 1200000) (by omega) (by omega)
      have m2 := mulB (u := V 0 * L - Q) (v := V (m - 1) * L - Q) (a := 1200000) (b := 1200000) (by omega) (by omega)
      have s : s64 ((U 0 * L - P) * (U (m - 1) * L - P) + (V 0 * L - Q) * (V (m - 1) * L - Q)) := ⟨by omega, by omega⟩
      simp only [j_gt0 s]
      by_cases z : (U 0 * L - P) * (U (m - 1) * L - P) + (V 0 * L - Q) * (V (m - 1) * L - Q) ≤ 0
      · rw [if_neg (by omega), if_pos z]
      · rw [if_pos (by omega), if_neg z]
    · rw [if_neg (show ¬ nI m < (3 : Int32) from (show ¬ nI m < nI 3 from nI_nlt (by omega) (by omega))), if_neg d]
      unfold rf
      by_cases z : anyN (fun i => decide (tE U V m P Q L i = 0)) m = true
      · rw [if_pos z, if_neg one_ne, if_pos z]
      · rw [if_neg z, if_pos rfl, if_neg z]
