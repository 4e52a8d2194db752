/-! the corners of a set -/
abbrev trn (X Y : Nat → Int) (a b c : Nat) : Int := (X b - X a) * (Y c - Y a) - (Y b - Y a) * (X c - X a)
def popR (X Y : Nat → Int) (kept p : Nat) : List Nat → List Nat
  | [] => []
  | [b] => [b]
  | b :: a :: r => if kept ≤ r.length + 2 ∧ trn X Y a b p ≤ 0 then popR X Y kept p (a :: r) else b :: a :: r
theorem popR_suf (X Y : Nat → Int) (kept p : Nat) : ∀ rc : List Nat, ∃ u, rc = u ++ popR X Y kept p rc := by
  intro rc
  induction rc with
  | nil => exact ⟨[], rfl⟩
  | cons b rc ih =>
    cases rc with
    | nil => exact ⟨[], rfl⟩
    | cons a r =>
      rw [popR]
      by_cases c : kept ≤ r.length + 2 ∧ trn X Y a b p ≤ 0
      · rw [if_pos c]
        obtain ⟨u, hu⟩ := ih
        refine ⟨b :: u, ?_⟩
        rw [List.cons_append, ← hu]
      · rw [if_neg c]
        exact ⟨[], rfl⟩
theorem popR_ne (X Y : Nat → Int) (kept p : Nat) : ∀ rc : List Nat, rc ≠ [] → popR X Y kept p rc ≠ [] := by
  intro rc
  induction rc with
  | nil => intro h; exact absurd rfl h
  | cons b rc ih =>
    intro _
    cases rc with
    | nil => simp [popR]
    | cons a r =>
      rw [popR]
      split
      · exact ih (by simp)
      · simp
theorem popR_len (X Y : Nat → Int) (kept p : Nat) (rc : List Nat) : (popR X Y kept p rc).length ≤ rc.length := by
  obtain ⟨u, hu⟩ := popR_suf X Y kept p rc
  have := congrArg List.length hu
  rw [List.length_append] at this
  omega
theorem popR_mem {X Y : Nat → Int} {kept p : Nat} {rc : List Nat} {q : Nat} (h : q ∈ popR X Y kept p rc) : q ∈ rc := by
  obtain ⟨u, hu⟩ := popR_suf X Y kept p rc
  rw [hu]
  exact List.mem_append_right _ h
def stk (f : Nat → Int32) (base : Nat) : List Nat → Prop
  | [] => True
  | b :: r => f (base + r.length) = nI b ∧ stk f base r
def stv (g : Nat → Int32) (V : Nat → Int) : List Nat → Prop
  | [] => True
  | b :: r => g r.length = iI (V b) ∧ stv g V r
theorem stk_suf {f : Nat → Int32} {base : Nat} : ∀ {u r : List Nat}, stk f base (u ++ r) → stk f base r := by
  intro u
  induction u with
  | nil => intro r h; exact h
  | cons b u ih => intro r h; exact ih h.2
theorem stv_suf {g : Nat → Int32} {V : Nat → Int} : ∀ {u r : List Nat}, stv g V (u ++ r) → stv g V r := by
  intro u
  induction u with
  | nil => intro r h; exact h
  | cons b u ih => intro r h; exact ih h.2
theorem stk_upd {f : Nat → Int32} {base k : Nat} {v : Int32} : ∀ {r : List Nat}, base + r.length ≤ k → stk f base r → stk (upd f k v) base r := by
  intro r
  induction r with
  | nil => intro _ _; trivial
  | cons b r ih =>
    intro hk h
    simp only [List.length_cons] at hk
    exact ⟨by rw [upd_ne (by omega)]; exact h.1, ih (by omega) h.2⟩
theorem stv_upd {g : Nat → Int32} {V : Nat → Int} {k : Nat} {v : Int32} : ∀ {r : List Nat}, r.length ≤ k → stv g V r → stv (upd g k v) V r := by
  intro r
  induction r with
  | nil => intro _ _; trivial
  | cons b r ih =>
    intro hk h
    simp only [List.length_cons] at hk
    exact ⟨by rw [upd_ne (by omega)]; exact h.1, ih (by omega) h.2⟩
theorem stk_pop {f : Nat → Int32} {base : Nat} {X Y : Nat → Int} {kept p : Nat} {rc : List Nat} (h : stk f base rc) : stk f base (popR X Y kept p rc) := by
  obtain ⟨u, hu⟩ := popR_suf X Y kept p rc
  rw [hu] at h
  exact stk_suf h
theorem stv_pop {g : Nat → Int32} {V : Nat → Int} {X Y : Nat → Int} {kept p : Nat} {rc : List Nat} (h : stv g V rc) : stv g V (popR X Y kept p rc) := by
  obtain ⟨u, hu⟩ := popR_suf X Y kept p rc
  rw [hu] at h
  exact stv_suf h
theorem trn_rng {X Y : Nat → Int} {a b c : Nat} (ha : (-20 ≤ X a ∧ X a ≤ 20) ∧ -20 ≤ Y a ∧ Y a ≤ 20) (hb : (-20 ≤ X b ∧ X b ≤ 20) ∧ -20 ≤ Y b ∧ Y b ≤ 20) (hc : (-20 ≤ X c ∧ X c ≤ 20) ∧ -20 ≤ Y c ∧ Y c ≤ 20) : -3200 ≤ trn X Y a b c ∧ trn X Y a b c ≤ 3200 := by
  have key : ∀ u v : Int, -40 ≤ u → u ≤ 40 → -40 ≤ v → v ≤ 40 → -1600 ≤ u * v ∧ u * v ≤ 1600 := by
    intro u v h1 h2 h3 h4
    have a1 : 0 ≤ (40 - u) * (40 - v) := Int.mul_nonneg (by omega) (by omega)
    have a2 : 0 ≤ (40 - u) * (40 + v) := Int.mul_nonneg (by omega) (by omega)
    have a3 : 0 ≤ (40 + u) * (40 - v) := Int.mul_nonneg (by omega) (by omega)
    have a4 : 0 ≤ (40 + u) * (40 + v) := Int.mul_nonneg (by omega) (by omega)
    have e1 : (40 - u) * (40 - v) = 1600 - 40 * u - 40 * v + u * v := by grind
    have e2 : (40 - u) * (40 + v) = 1600 - 40 * u + 40 * v - u * v := by grind
    have e3 : (40 + u) * (40 - v) = 1600 + 40 * u - 40 * v - u * v := by grind
    have e4 : (40 + u) * (40 + v) = 1600 + 40 * u + 40 * v + u * v := by grind
    omega
  have k1 := key (X b - X a) (Y c - Y a) (by omega) (by omega) (by omega) (by omega)
  have k2 := key (Y b - Y a) (X c - X a) (by omega) (by omega) (by omega) (by omega)
  unfold trn
  omega
theorem turnsL (K : Nat) {n : Nat} {X Y : Nat → Int} (hR : ∀ i : Nat, i < n → (-20 ≤ X i ∧ X i ≤ 20) ∧ -20 ≤ Y i ∧ Y i ≤ 20) {gx gy : Nat → Int32} {a b : Nat} {r : List Nat} {p : Nat} (hp : p < n) (ha : a < n) (hb : b < n) (hx : stv gx X (b :: a :: r)) (hy : stv gy Y (b :: a :: r)) (hl : r.length + 2 ≤ 48) : fX2_turnsLeft K (nI (r.length + 2)) gx gy (iI (X p)) (iI (Y p)) = some (if trn X Y a b p ≤ 0 then 0 else 1) := by
  obtain ⟨x1, x2, -⟩ := hx
  obtain ⟨y1, y2, -⟩ := hy
  have t := trn_rng (hR a ha) (hR b hb) (hR p hp)
  unfold fX2_turnsLeft
  rw [show nI (r.length + 2) - (2 : Int32) = nI r.length from by rw [nI_iI, nI_iI, show (2 : Int32) = iI 2 from rfl, iI_sub]; congr 1; omega, show nI (r.length + 2) - (1 : Int32) = nI (r.length + 1) from nI_pred (r.length + 1)]
  simp only [gd_t (inb_nI (show r.length < 48 by omega) (by decide)), gd_t (inb_nI (show r.length + 1 < 48 by omega) (by decide)), nI_clamp (show r.length < 2 ^ 31 by omega), nI_clamp (show r.length + 1 < 2 ^ 31 by omega), xl]
  simp only [List.length_cons] at x1 y1
  rw [x1, x2, y1, y2, iI_sub, iI_sub, iI_sub, iI_sub, iI_mul, iI_mul, iI_sub]
  have e : iI (trn X Y a b p) ≤ 0 ↔ trn X Y a b p ≤ 0 := iI_le (b := 0) ⟨by omega, by omega⟩ ⟨by omega, by omega⟩
  unfold trn at e ⊢
  simp only [e]
  by_cases c : (X b - X a) * (Y p - Y a) - (Y b - Y a) * (X p - X a) ≤ 0
  · rw [if_pos c, if_pos c]
  · rw [if_neg c, if_neg c]
theorem popC (K : Nat) {n : Nat} {X Y : Nat → Int} (hR : ∀ i : Nat, i < n → (-20 ≤ X i ∧ X i ≤ 20) ∧ -20 ≤ Y i ∧ Y i ≤ 20) {gx gy : Nat → Int32} {p kept : Nat} (hp : p < n) (hk : kept ≤ 100) : ∀ (rc : List Nat) (fu : Nat), (∀ q ∈ rc, q < n) → stv gx X rc → stv gy Y rc → rc.length ≤ 48 → rc.length < fu → fX2_push_L16 K (nI kept) (iI (X p)) (iI (Y p)) gx gy fu (nI rc.length) = some (nI (popR X Y kept p rc).length) := by
  intro rc
  induction rc with
  | nil =>
    intro fu _ _ _ _ hf
    obtain ⟨fu, rfl⟩ : ∃ m, fu = m + 1 := ⟨fu - 1, by omega⟩
    rw [fX2_push_L16]
    by_cases c : nI ([] : List Nat).length < nI kept
    · rw [if_pos c]; rfl
    · rw [if_neg c, if_pos (by decide)]; rfl
  | cons b rc ih =>
    intro fu hq hx hy hl hf
    obtain ⟨fu, rfl⟩ : ∃ m, fu = m + 1 := ⟨fu - 1, by omega⟩
    cases rc with
    | nil =>
      rw [fX2_push_L16]
      by_cases c : nI ([b] : List Nat).length < nI kept
      · rw [if_pos c]; rfl
      · rw [if_neg c, if_pos (show nI ([b] : List Nat).length < (2 : Int32) from (show nI 1 < (2 : Int32) from by decide))]; rfl
    | cons a r =>
      rw [fX2_push_L16, popR]
      simp only [List.length_cons] at hl hf ⊢
      by_cases c : kept ≤ r.length + 2
      · rw [if_neg (show ¬ nI (r.length + 1 + 1) < nI kept from nI_nlt (by omega) (by omega)), if_neg (show ¬ nI (r.length + 1 + 1) < (2 : Int32) from (show ¬ nI (r.length + 1 + 1) < nI 2 from nI_nlt (by omega) (by omega)))]
        rw [turnsL K hR hp (hq a (by simp)) (hq b (by simp)) hx hy (by omega)]
        simp only [b1, Option.bind_some, xl]
        by_cases d : trn X Y a b p ≤ 0
        · rw [if_pos d, if_pos rfl, if_pos ⟨c, d⟩, show nI (r.length + 1 + 1) - (1 : Int32) = nI (r.length + 1) from nI_pred _]
          have := ih fu (fun q h => hq q (List.mem_cons_of_mem _ h)) hx.2 hy.2 (by simp only [List.length_cons]; omega) (by simp only [List.length_cons]; omega)
          simp only [List.length_cons] at this
          exact this
        · rw [if_neg d, if_neg one_ne, if_neg (fun h => d h.2)]
          rfl
      · rw [if_pos (show nI (r.length + 1 + 1) < nI kept from nI_lt (by omega) (by omega)), if_neg (fun h => c h.1)]
        rfl
theorem pushC (K : Nat) (hK : 4000 ≤ K) {n : Nat} {x y : Nat → Int32} {X Y : Nat → Int} (hX : Pts n x y X Y) {ch gx gy : Nat → Int32} {p kept : Nat} (hp : p < n) (hk : kept ≤ 100) {rc : List Nat} (hq : ∀ q ∈ rc, q < n) (hc : stk ch 0 rc) (hx : stv gx X rc) (hy : stv gy Y rc) (hl : rc.length < 48) : ∃ ch' gx' gy', fX2_push K (nI rc.length) ch gx gy x y (nI p) (nI kept) = some (nI (p :: popR X Y kept p rc).length, ch', gx', gy') ∧ stk ch' 0 (p :: popR X Y kept p rc) ∧ stv gx' X (p :: popR X Y kept p rc) ∧ stv gy' Y (p :: popR X Y kept p rc) := by
  obtain ⟨hn, hXY⟩ := hX
  obtain ⟨p1, p2, p3, p4⟩ := hXY p hp
  have hm := popR_len X Y kept p rc
  unfold fX2_push
  simp only [gd_t (inb_nI (show p < 24 by omega) (by decide)), nI_clamp (show p < 2 ^ 31 by omega), p1, p2, xl, b1]
  rw [popC K (fun i hi => (hXY i hi).2.2) hp hk rc K hq hx hy (by omega) (by omega)]
  simp only [Option.bind_some]
  generalize hM : (popR X Y kept p rc).length = m at hm
  rw [if_neg (show ¬ (48 : Int32) ≤ nI m from (show ¬ nI 48 ≤ nI m from nI_ge (by omega) (by decide)))]
  simp only [gd_t (inb_nI (show m < 48 by omega) (by decide)), nI_clamp (show m < 2 ^ 31 by omega), nI_1]
  refine ⟨upd ch m (nI p), upd gx m (iI (X p)), upd gy m (iI (Y p)), by rw [List.length_cons, hM], ⟨?_, ?_⟩, ⟨?_, ?_⟩, ⟨?_, ?_⟩⟩
  · rw [Nat.zero_add, hM, upd_at]
  · exact stk_upd (by omega) (stk_pop hc)
  · rw [hM, upd_at]
  · exact stv_upd (by omega) (stv_pop hx)
  · rw [hM, upd_at]
  · exact stv_upd (by omega) (stv_pop hy)
theorem turnM (K : Nat) {n : Nat} {px py : Nat → Int32} {X Y : Nat → Int} (hX : Pts n px py X Y) {a b c : Nat} (ha : a < n) (hb : b < n) (hc : c < n) : fX12_turn K px py (nI a) (nI b) (nI c) = some (jJ (trn X Y a b c)) := by
  obtain ⟨hn, h⟩ := hX
  obtain ⟨a1, a2, a3, a4⟩ := h a ha
  obtain ⟨b1, b2, b3, b4⟩ := h b hb
  obtain ⟨c1, c2, c3, c4⟩ := h c hc
  unfold fX12_turn
  simp only [gd_t (inb_nI (show a < 24 by omega) (by decide)), gd_t (inb_nI (show b < 24 by omega) (by decide)), gd_t (inb_nI (show c < 24 by omega) (by decide)), nI_clamp (show a < 2 ^ 31 by omega), nI_clamp (show b < 2 ^ 31 by omega), nI_clamp (show c < 2 ^ 31 by omega), a1, a2, b1, b2, c1, c2, iI_sub]
  rw [iI_long ⟨by omega, by omega⟩, iI_long ⟨by omega, by omega⟩, iI_long ⟨by omega, by omega⟩, iI_long ⟨by omega, by omega⟩, jJ_mul, jJ_mul, jJ_sub]
