/-! points of a set by their places -/
theorem nI_dec (k : Nat) : nI (k + 1) + (-1 : Int32) = nI k := by
  rw [nI_iI, nI_iI, show (-1 : Int32) = iI (-1) from by decide, iI_add]
  congr 1
  omega
def Pts (n : Nat) (x y : Nat → Int32) (X Y : Nat → Int) : Prop := n ≤ 24 ∧ ∀ i : Nat, i < n → x i = iI (X i) ∧ y i = iI (Y i) ∧ (-20 ≤ X i ∧ X i ≤ 20) ∧ -20 ≤ Y i ∧ Y i ≤ 20
abbrev bef (X Y : Nat → Int) (a b : Nat) : Prop := X a < X b ∨ (X a = X b ∧ Y a < Y b)
abbrev sam (X Y : Nat → Int) (a b : Nat) : Prop := X a = X b ∧ Y a = Y b
theorem bef_tri (X Y : Nat → Int) (a b : Nat) : bef X Y a b ∨ sam X Y a b ∨ bef X Y b a := by
  unfold bef sam; omega
theorem bef_asym {X Y : Nat → Int} {a b : Nat} (h : bef X Y a b) : ¬ bef X Y b a := by
  unfold bef at *; omega
theorem bef_nsam {X Y : Nat → Int} {a b : Nat} (h : bef X Y a b) : ¬ sam X Y a b := by
  unfold bef sam at *; omega
theorem bef_trans {X Y : Nat → Int} {a b c : Nat} (h : bef X Y a b) (h2 : bef X Y b c) : bef X Y a c := by
  unfold bef at *; omega
theorem sam_bef {X Y : Nat → Int} {a b c : Nat} (h : sam X Y a b) (h2 : bef X Y a c) : bef X Y b c := by
  unfold bef sam at *; omega
def ins (X Y : Nat → Int) (p : Nat) : List Nat → List Nat
  | [] => [p]
  | q :: l => if bef X Y q p then q :: ins X Y p l else if sam X Y q p then q :: l else p :: q :: l
abbrev srt (X Y : Nat → Int) (l : List Nat) : Prop := l.Pairwise (bef X Y)
theorem ins_cases {X Y : Nat → Int} {p : Nat} : ∀ {l : List Nat}, srt X Y l → (∃ u v, l = u ++ v ∧ ins X Y p l = u ++ p :: v ∧ (∀ q ∈ u, bef X Y q p) ∧ ∀ q ∈ v, bef X Y p q) ∨ (∃ u q v, l = u ++ q :: v ∧ ins X Y p l = l ∧ (∀ z ∈ u, bef X Y z p) ∧ sam X Y q p ∧ ∀ z ∈ v, bef X Y p z) := by
  intro l
  induction l with
  | nil => intro _; exact Or.inl ⟨[], [], rfl, rfl, by simp, by simp⟩
  | cons h l ih =>
    intro hs
    obtain ⟨h1, h2⟩ := List.pairwise_cons.mp hs
    by_cases c : bef X Y h p
    · rcases ih h2 with ⟨u, v, e1, e2, e3, e4⟩ | ⟨u, q, v, e1, e2, e3, e4, e5⟩
      · refine Or.inl ⟨h :: u, v, by rw [e1]; rfl, by rw [ins, if_pos c, e2]; rfl, fun z hz => ?_, e4⟩
        rcases List.mem_cons.mp hz with rfl | hz
        · exact c
        · exact e3 z hz
      · refine Or.inr ⟨h :: u, q, v, by rw [e1]; rfl, by rw [ins, if_pos c, e2], fun z hz => ?_, e4, e5⟩
        rcases List.mem_cons.mp hz with rfl | hz
        · exact c
        · exact e3 z hz
    · by_cases d : sam X Y h p
      · exact Or.inr ⟨[], h, l, rfl, by rw [ins, if_neg c, if_pos d], by simp, d, fun z hz => sam_bef d (h1 z hz)⟩
      · have c2 : bef X Y p h := by
          rcases bef_tri X Y h p with q | q | q
          · exact absurd q c
          · exact absurd q d
          · exact q
        refine Or.inl ⟨[], h :: l, rfl, by rw [ins, if_neg c, if_neg d]; rfl, by simp, fun z hz => ?_⟩
        rcases List.mem_cons.mp hz with rfl | hz
        · exact c2
        · exact bef_trans c2 (h1 z hz)
theorem ins_srt {X Y : Nat → Int} {p : Nat} {l : List Nat} (h : srt X Y l) : srt X Y (ins X Y p l) := by
  rcases ins_cases (p := p) h with ⟨u, v, e1, e2, e3, e4⟩ | ⟨u, q, v, e1, e2, -⟩
  · rw [e2]
    rw [e1] at h
    obtain ⟨a1, a2, a3⟩ := List.pairwise_append.mp h
    refine List.pairwise_append.mpr ⟨a1, List.pairwise_cons.mpr ⟨e4, a2⟩, fun a ha b hb => ?_⟩
    rcases List.mem_cons.mp hb with rfl | hb
    · exact e3 a ha
    · exact a3 a ha b hb
  · rw [e2]; exact h
theorem ins_mem {X Y : Nat → Int} {p : Nat} {l : List Nat} (h : srt X Y l) : ∀ q ∈ ins X Y p l, q = p ∨ q ∈ l := by
  intro q hq
  rcases ins_cases (p := p) h with ⟨u, v, e1, e2, e3, e4⟩ | ⟨u, z, v, e1, e2, -⟩
  · rw [e2] at hq
    rcases List.mem_append.mp hq with hq | hq
    · right; rw [e1]; exact List.mem_append_left _ hq
    · rcases List.mem_cons.mp hq with rfl | hq
      · exact Or.inl rfl
      · right; rw [e1]; exact List.mem_append_right _ hq
  · rw [e2] at hq; exact Or.inr hq
theorem ins_len {X Y : Nat → Int} {p : Nat} {l : List Nat} (h : srt X Y l) : (ins X Y p l).length ≤ l.length + 1 := by
  rcases ins_cases (p := p) h with ⟨u, v, e1, e2, e3, e4⟩ | ⟨u, z, v, e1, e2, -⟩
  · rw [e2, e1]; simp; omega
  · rw [e2]; omega
/-- what an array holds -/
def hl (f : Nat → Int32) (l : List Nat) : Prop := ∀ (i v : Nat), l[i]? = some v → f i = nI v
def shU (a m : Nat) (f : Nat → Int32) (i : Nat) : Int32 := if a < i ∧ i ≤ m then f (i - 1) else f i
theorem shU_step {a m : Nat} (h : a < m + 1) (f : Nat → Int32) : shU a m (upd f (m + 1) (f m)) = shU a (m + 1) f := by
  funext i
  unfold shU
  by_cases e : i = m + 1
  · subst e
    rw [if_neg (show ¬ (a < m + 1 ∧ m + 1 ≤ m) by omega), if_pos (show a < m + 1 ∧ m + 1 ≤ m + 1 by omega), upd_at]
    rfl
  · by_cases e2 : a < i ∧ i ≤ m
    · rw [if_pos e2, if_pos (show a < i ∧ i ≤ m + 1 by omega), upd_ne (show i - 1 ≠ m + 1 by omega)]
    · rw [if_neg e2, if_neg (show ¬ (a < i ∧ i ≤ m + 1) by omega), upd_ne e]
theorem shU_end {a : Nat} (f : Nat → Int32) : shU a a f = f := by
  funext i
  unfold shU
  rw [if_neg (by omega)]
theorem hl_ins {f : Nat → Int32} {u v : List Nat} {p : Nat} (h : hl f (u ++ v)) : hl (upd (shU u.length (u ++ v).length f) u.length (nI p)) (u ++ p :: v) := by
  intro i q hq
  by_cases c : i < u.length
  · rw [List.getElem?_append_left c] at hq
    rw [upd_ne (by omega)]
    unfold shU
    rw [if_neg (by omega)]
    exact h i q (by rw [List.getElem?_append_left c]; exact hq)
  · rw [List.getElem?_append_right (by omega)] at hq
    by_cases d : i = u.length
    · subst d
      rw [Nat.sub_self] at hq
      rw [upd_at]
      simp at hq
      rw [hq]
    · obtain ⟨k, hk⟩ : ∃ k, i = u.length + (k + 1) := ⟨i - u.length - 1, by omega⟩
      subst hk
      rw [show u.length + (k + 1) - u.length = k + 1 by omega, List.getElem?_cons_succ] at hq
      have hkl : k < v.length := (List.getElem?_eq_some_iff.mp hq).1
      rw [upd_ne (by omega)]
      unfold shU
      rw [if_pos ⟨by omega, by rw [List.length_append]; omega⟩]
      have := h (u.length + k) q (by rw [List.getElem?_append_right (by omega), show u.length + k - u.length = k by omega]; exact hq)
      rw [show u.length + (k + 1) - 1 = u.length + k by omega]
      exact this
theorem sh107 (K a : Nat) (ha : a ≤ 24) : ∀ (fu m : Nat) (f : Nat → Int32), a ≤ m → m < 24 → m - a < fu → fX2_insert_L107 K (nI a) fu (nI m) f = some (shU a m f) := by
  intro fu
  induction fu with
  | zero => intro m f h1 h2 h3; omega
  | succ fu ih =>
    intro m f h1 h2 h3
    rw [fX2_insert_L107]
    by_cases c : m = a
    · subst c
      rw [if_pos (nI_le (Nat.le_refl m) (by omega)), shU_end]
    · obtain ⟨k, rfl⟩ : ∃ k, m = k + 1 := ⟨m - 1, by omega⟩
      rw [if_neg (nI_ge (show a < k + 1 by omega) (by omega))]
      simp only [xl, nI_pred, gd_t (inb_nI (show k < 24 by omega) (by decide)), gd_t (inb_nI (show k + 1 < 24 by omega) (by decide)), nI_clamp (show k < 2 ^ 31 by omega), nI_clamp (show k + 1 < 2 ^ 31 by omega)]
      rw [nI_dec k, ih k _ (by omega) (by omega) (by omega), shU_step (by omega)]
theorem sh87 (K : Nat) (a : Int32) : ∀ (fu : Nat) (m : Int32) (f : Nat → Int32), fX12_laysRow_L87 K a fu m f = fX2_insert_L107 K a fu m f := by
  intro fu
  induction fu with
  | zero => intro m f; rfl
  | succ fu ih =>
    intro m f
    rw [fX2_insert_L107, fX12_laysRow_L87]
    simp only [ih]
theorem befc (K : Nat) {a b c d : Int} (ha : -20 ≤ a ∧ a ≤ 20) (hb : -20 ≤ b ∧ b ≤ 20) (hc : -20 ≤ c ∧ c ≤ 20) (hd : -20 ≤ d ∧ d ≤ 20) : fX2_isBefore K (iI a) (iI b) (iI c) (iI d) = some (if a < c ∨ (a = c ∧ b < d) then 1 else 0) := by
  have sa : s32 a := ⟨by omega, by omega⟩
  have sb : s32 b := ⟨by omega, by omega⟩
  have sc : s32 c := ⟨by omega, by omega⟩
  have sd : s32 d := ⟨by omega, by omega⟩
  unfold fX2_isBefore
  simp only [iI_lt sa sc, iI_eq sa sc, iI_le sd sb]
  by_cases h1 : a < c
  · rw [if_pos h1, if_pos (by omega)]
  · rw [if_neg h1]
    by_cases h2 : a = c
    · rw [if_pos h2]
      by_cases h3 : d ≤ b
      · rw [if_pos h3, if_neg (by omega)]
      · rw [if_neg h3, if_pos (by omega)]
    · rw [if_neg h2, if_neg (by omega)]
theorem befm (K : Nat) {n : Nat} {px py : Nat → Int32} {X Y : Nat → Int} (h : Pts n px py X Y) {p q : Nat} (hp : p < n) (hq : q < n) : fX12_isBefore K px py (nI p) (nI q) = some (if bef X Y p q then 1 else 0) := by
  obtain ⟨hn, h⟩ := h
  obtain ⟨p1, p2, p3, p4⟩ := h p hp
  obtain ⟨q1, q2, q3, q4⟩ := h q hq
  have a1 : s32 (X p) := ⟨by omega, by omega⟩
  have a2 : s32 (Y p) := ⟨by omega, by omega⟩
  have b1 : s32 (X q) := ⟨by omega, by omega⟩
  have b2 : s32 (Y q) := ⟨by omega, by omega⟩
  unfold fX12_isBefore
  simp only [gd_t (inb_nI (show p < 24 by omega) (by decide)), gd_t (inb_nI (show q < 24 by omega) (by decide)), nI_clamp (show p < 2 ^ 31 by omega), nI_clamp (show q < 2 ^ 31 by omega), p1, p2, q1, q2, iI_eq a1 b1, iI_le b2 a2, iI_le b1 a1]
  unfold bef
  by_cases h1 : X p = X q
  · rw [if_pos h1]
    by_cases h2 : Y q ≤ Y p
    · rw [if_pos h2, if_neg (by omega)]
    · rw [if_neg h2, if_pos (by omega)]
  · rw [if_neg h1]
    by_cases h2 : X q ≤ X p
    · rw [if_pos h2, if_neg (by omega)]
    · rw [if_neg h2, if_pos (by omega)]
theorem samm (K : Nat) {n : Nat} {px py : Nat → Int32} {X Y : Nat → Int} (h : Pts n px py X Y) {p q : Nat} (hp : p < n) (hq : q < n) : fX12_isSamePlace K px py (nI p) (nI q) = some (if sam X Y p q then 1 else 0) := by
  obtain ⟨hn, h⟩ := h
  obtain ⟨p1, p2, p3, p4⟩ := h p hp
  obtain ⟨q1, q2, q3, q4⟩ := h q hq
  have a1 : s32 (X p) := ⟨by omega, by omega⟩
  have a2 : s32 (Y p) := ⟨by omega, by omega⟩
  have b1 : s32 (X q) := ⟨by omega, by omega⟩
  have b2 : s32 (Y q) := ⟨by omega, by omega⟩
  unfold fX12_isSamePlace
  simp only [gd_t (inb_nI (show p < 24 by omega) (by decide)), gd_t (inb_nI (show q < 24 by omega) (by decide)), nI_clamp (show p < 2 ^ 31 by omega), nI_clamp (show q < 2 ^ 31 by omega), p1, p2, q1, q2, iI_eq a1 b1, iI_eq a2 b2]
  unfold sam
  by_cases h1 : X p = X q
  · by_cases h2 : Y p = Y q
    · rw [if_pos h1, if_pos h2, if_pos ⟨h1, h2⟩]
    · rw [if_pos h1, if_neg h2, if_neg (fun h => h2 h.2)]
  · rw [if_neg h1, if_neg (fun h => h1 h.1)]
theorem isAt_c (K : Nat) {n : Nat} {x y : Nat → Int32} {X Y : Nat → Int} (h : Pts n x y X Y) {p : Nat} (hp : p < n) {a b : Int} (ha : -20 ≤ a ∧ a ≤ 20) (hb : -20 ≤ b ∧ b ≤ 20) : fX0_isAt K x y (nI p) (iI a) (iI b) = some (if X p = a ∧ Y p = b then 1 else 0) := by
  obtain ⟨hn, h⟩ := h
  obtain ⟨p1, p2, p3, p4⟩ := h p hp
  have a1 : s32 (X p) := ⟨by omega, by omega⟩
  have a2 : s32 (Y p) := ⟨by omega, by omega⟩
  have b1 : s32 a := ⟨by omega, by omega⟩
  have b2 : s32 b := ⟨by omega, by omega⟩
  unfold fX0_isAt
  simp only [gd_t (inb_nI (show p < 24 by omega) (by decide)), nI_clamp (show p < 2 ^ 31 by omega), p1, p2, iI_eq a1 b1, iI_eq a2 b2]
  by_cases h1 : X p = a
  · by_cases h2 : Y p = b
    · rw [if_pos h1, if_pos h2, if_pos ⟨h1, h2⟩]
    · rw [if_pos h1, if_neg h2, if_neg (fun h => h2 h.2)]
  · rw [if_neg h1, if_neg (fun h => h1 h.1)]
