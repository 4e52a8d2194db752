--@ needs 2e.row 2f.row2 2g.bits 2h.hull 2i.hull2 2j.hull3 2k.hull4 2l.side 2m.side2
/-! chains: what they have on their left -/
abbrev lxp (x y : Int) : Prop := 0 < x ∨ (x = 0 ∧ 0 < y)
abbrev lxn (x y : Int) : Prop := 0 < x ∨ (x = 0 ∧ 0 ≤ y)
theorem lex_ge {k s t ax ay bx by' cx cy' : Int} (h1 : k * ax = s * bx + t * cx) (h2 : k * ay = s * by' + t * cy') (ha : lxp ax ay) (hb : lxn bx by') (hc : lxn cx cy') (hs : 0 ≤ s) (ht : 0 ≤ t) : 0 ≤ k := by
  by_cases hk : k < 0
  · exfalso
    have b0 : 0 ≤ bx := by omega
    have c0 : 0 ≤ cx := by omega
    have p1 := Int.mul_nonneg hs b0
    have p2 := Int.mul_nonneg ht c0
    rcases ha with ha | ⟨ha, ha2⟩
    · have := mnp' hk ha; omega
    · rw [ha, Int.mul_zero] at h1
      have q := mnp' hk ha2
      have r1 : 0 ≤ s * by' := by
        by_cases z : s = 0
        · rw [z, Int.zero_mul]; exact Int.le_refl 0
        · have := div_eq0 (show 0 < s by omega) (show s * bx = 0 by omega)
          exact Int.mul_nonneg hs (by omega)
      have r2 : 0 ≤ t * cy' := by
        by_cases z : t = 0
        · rw [z, Int.zero_mul]; exact Int.le_refl 0
        · have := div_eq0 (show 0 < t by omega) (show t * cx = 0 by omega)
          exact Int.mul_nonneg ht (by omega)
      omega
  · omega
theorem lex_gt {k s t ax ay bx by' cx cy' : Int} (h1 : k * ax = s * bx + t * cx) (h2 : k * ay = s * by' + t * cy') (ha : lxp ax ay) (hb : lxp bx by') (hc : lxn cx cy') (hs : 0 < s) (ht : 0 ≤ t) : 0 < k := by
  have g := lex_ge h1 h2 ha (show lxn bx by' by omega) hc (by omega) ht
  by_cases hk : k = 0
  · exfalso
    subst hk
    rw [Int.zero_mul] at h1 h2
    have b0 : 0 ≤ bx := by omega
    have c0 : 0 ≤ cx := by omega
    have p1 := Int.mul_nonneg (show 0 ≤ s by omega) b0
    have p2 := Int.mul_nonneg ht c0
    have e1 := div_eq0 hs (show s * bx = 0 by omega)
    have r1 : 0 < s * by' := Int.mul_pos hs (by omega)
    have r2 : 0 ≤ t * cy' := by
      by_cases z : t = 0
      · rw [z, Int.zero_mul]; exact Int.le_refl 0
      · have := div_eq0 (show 0 < t by omega) (show t * cx = 0 by omega)
        exact Int.mul_nonneg ht (by omega)
    omega
  · omega
theorem bef_lxp {X Y : Nat → Int} {a b : Nat} (h : bef X Y a b) : lxp (X b - X a) (Y b - Y a) := by
  unfold bef at h; unfold lxp; omega
theorem nbef_lxn {X Y : Nat → Int} {a b : Nat} (h : ¬ bef X Y b a) : lxn (X b - X a) (Y b - Y a) := by
  unfold bef at h; unfold lxn; omega
/-- points before an edge's start lie left of the next edge -/
theorem tL1 {X Y : Nat → Int} {a b q p : Nat} (hab : bef X Y a b) (hbq : bef X Y b q) (hpb : ¬ bef X Y b p) (h1 : 0 ≤ trn X Y a b p) (h2 : 0 < trn X Y a b q) : 0 ≤ trn X Y b q p := by
  refine lex_ge (k := trn X Y b q p) (s := trn X Y a b p) (t := trn X Y a b q) (ax := X b - X a) (ay := Y b - Y a) (bx := X q - X b) (by' := Y q - Y b) (cx := X b - X p) (cy' := Y b - Y p) ?_ ?_ (bef_lxp hab) (by have := bef_lxp hbq; omega) (nbef_lxn hpb) h1 (by omega)
  · unfold trn; grind
  · unfold trn; grind
theorem tL2 {X Y : Nat → Int} {b c q p : Nat} (hbc : bef X Y b c) (hbq : bef X Y b q) (hbp : ¬ bef X Y p b) (h1 : 0 ≤ trn X Y b c p) (h2 : trn X Y b c q ≤ 0) : 0 ≤ trn X Y b q p := by
  refine lex_ge (k := trn X Y b q p) (s := trn X Y b c p) (t := - trn X Y b c q) (ax := X c - X b) (ay := Y c - Y b) (bx := X q - X b) (by' := Y q - Y b) (cx := X p - X b) (cy' := Y p - Y b) ?_ ?_ (bef_lxp hbc) (by have := bef_lxp hbq; omega) (nbef_lxn hbp) h1 (by omega)
  · unfold trn; grind
  · unfold trn; grind
theorem tL3 {X Y : Nat → Int} {a b c q : Nat} (hab : bef X Y a b) (hbc : bef X Y b c) (hcq : bef X Y c q) (h1 : 0 < trn X Y a b c) (h2 : 0 < trn X Y b c q) : 0 < trn X Y a b q := by
  have h : 0 < (X b - X a) * (Y q - Y c) - (Y b - Y a) * (X q - X c) := by
    refine lex_gt (k := (X b - X a) * (Y q - Y c) - (Y b - Y a) * (X q - X c)) (s := trn X Y b c q) (t := trn X Y a b c) (ax := X c - X b) (ay := Y c - Y b) (bx := X b - X a) (by' := Y b - Y a) (cx := X q - X c) (cy' := Y q - Y c) ?_ ?_ (bef_lxp hbc) (bef_lxp hab) (by have := bef_lxp hcq; omega) h2 (by omega)
    · unfold trn; grind
    · unfold trn; grind
  have e : trn X Y a b q = trn X Y a b c + ((X b - X a) * (Y q - Y c) - (Y b - Y a) * (X q - X c)) := by unfold trn; grind
  omega
def edg (l : List Nat) (a b : Nat) : Prop := ∃ u v, l = u ++ b :: a :: v
def tri (l : List Nat) (a b c : Nat) : Prop := ∃ u v, l = u ++ c :: b :: a :: v
theorem edg_cons {c : Nat} {l : List Nat} {a b : Nat} (h : edg (c :: l) a b) : (c = b ∧ ∃ v, l = a :: v) ∨ edg l a b := by
  obtain ⟨u, v, e⟩ := h
  cases u with
  | nil => simp at e; exact Or.inl ⟨e.1, v, e.2⟩
  | cons z u => simp at e; exact Or.inr ⟨u, v, e.2⟩
theorem edg_suf {l : List Nat} {a b : Nat} (w : List Nat) (h : edg l a b) : edg (w ++ l) a b := by
  obtain ⟨u, v, e⟩ := h
  exact ⟨w ++ u, v, by rw [e, List.append_assoc]⟩
theorem tri_cons {d : Nat} {l : List Nat} {a b c : Nat} (h : tri (d :: l) a b c) : (d = c ∧ ∃ v, l = b :: a :: v) ∨ tri l a b c := by
  obtain ⟨u, v, e⟩ := h
  cases u with
  | nil => simp at e; exact Or.inl ⟨e.1, v, e.2⟩
  | cons z u => simp at e; exact Or.inr ⟨u, v, e.2⟩
theorem tri_suf {l : List Nat} {a b c : Nat} (w : List Nat) (h : tri l a b c) : tri (w ++ l) a b c := by
  obtain ⟨u, v, e⟩ := h
  exact ⟨w ++ u, v, by rw [e, List.append_assoc]⟩
abbrev dsc (X Y : Nat → Int) (l : List Nat) : Prop := l.Pairwise (fun h o => bef X Y o h)
def CH (X Y : Nat → Int) (D : Nat → Prop) (l : List Nat) : Prop := dsc X Y l ∧ (∀ a b c, tri l a b c → 0 < trn X Y a b c) ∧ ∀ a b, edg l a b → ∀ p, D p → 0 ≤ trn X Y a b p
theorem CH_suf {X Y : Nat → Int} {D : Nat → Prop} {b : Nat} {l : List Nat} (h : CH X Y D (b :: l)) : CH X Y D l := by
  obtain ⟨h1, h2, h3⟩ := h
  exact ⟨(List.pairwise_cons.mp h1).2, fun a b' c t => h2 a b' c (tri_suf [b] t), fun a b' t => h3 a b' (edg_suf [b] t)⟩
theorem CH_edge {X Y : Nat → Int} {D : Nat → Prop} {a b : Nat} {l : List Nat} (h : CH X Y D (b :: a :: l)) : bef X Y a b ∧ ∀ p, D p → 0 ≤ trn X Y a b p :=
  ⟨(List.pairwise_cons.mp h.1).1 a (by simp), h.2.2 a b ⟨[], l, rfl⟩⟩
theorem topE {X Y : Nat → Int} {D : Nat → Prop} {q : Nat} : ∀ (r : List Nat) (a b : Nat), CH X Y D (b :: a :: r) → bef X Y b q → 0 < trn X Y a b q → ∀ x y, edg (b :: a :: r) x y → 0 ≤ trn X Y x y q := by
  intro r
  induction r with
  | nil =>
    intro a b h hq ht x y he
    rcases edg_cons he with ⟨rfl, v, e⟩ | he
    · simp at e; rw [← e.1]; omega
    · rcases edg_cons he with ⟨-, v, e⟩ | ⟨u, v, e⟩
      · simp at e
      · cases u <;> simp at e
  | cons z r ih =>
    intro a b h hq ht x y he
    rcases edg_cons he with ⟨rfl, v, e⟩ | he
    · simp at e; rw [← e.1]; omega
    · have hab := (CH_edge h).1
      have hza := (CH_edge (CH_suf h)).1
      have t1 := h.2.1 z a b ⟨[], r, rfl⟩
      exact ih z a (CH_suf h) (bef_trans hab hq) (tL3 hza hab hq t1 ht) x y he
theorem push_ok {X Y : Nat → Int} {D : Nat → Prop} {q : Nat} (hDq : ∀ p, D p → bef X Y p q) : ∀ (l : List Nat) (b : Nat), CH X Y D (b :: l) → (∀ x ∈ b :: l, D x) → (∀ p, D p → ¬ bef X Y b p ∨ 0 ≤ trn X Y b q p) → (∀ z ∈ (b :: l).getLast?, ∀ p, D p → ¬ bef X Y p z) → CH X Y (fun p => D p ∨ p = q) (q :: popR X Y 2 q (b :: l)) := by
  have tqq : ∀ b, 0 ≤ trn X Y b q q := fun b => by unfold trn; rw [Int.mul_comm]; omega
  intro l
  induction l with
  | nil =>
    intro b h hm hst hbo
    have hbq := hDq b (hm b (by simp))
    refine ⟨by simp [popR, dsc, hbq], ?_, ?_⟩
    · rintro a b' c ⟨u, v, e⟩
      rcases u with - | ⟨x, - | ⟨y, u⟩⟩ <;> simp [popR] at e
    · intro a b' he p hp
      rcases edg_cons he with ⟨rfl, v, e⟩ | he
      · simp [popR] at e
        rw [← e.1]
        rcases hp with hp | rfl
        · rcases hst p hp with hh | hh
          · have := hbo b (by simp) p hp
            have e2 := bef_tri X Y p b
            have e3 : sam X Y p b := by
              rcases e2 with e2 | e2 | e2
              · exact absurd e2 this
              · exact e2
              · exact absurd e2 hh
            have : trn X Y b q p = 0 := by unfold trn; rw [e3.1, e3.2]; grind
            omega
          · exact hh
        · exact tqq b
      · rcases edg_cons he with ⟨-, v, e⟩ | ⟨u, v, e⟩
        · simp at e
        · cases u <;> simp at e
  | cons a r ih =>
    intro b h hm hst hbo
    rw [popR]
    obtain ⟨hab, hed⟩ := CH_edge h
    by_cases c : 2 ≤ r.length + 2 ∧ trn X Y a b q ≤ 0
    · rw [if_pos c]
      refine ih a (CH_suf h) (fun x hx => hm x (List.mem_cons_of_mem _ hx)) ?_ (fun z hz => hbo z (by simpa using hz))
      intro p hp
      by_cases hap : bef X Y a p
      · exact Or.inr (tL2 hab (hDq a (hm a (by simp))) (bef_asym hap) (hed p hp) c.2)
      · exact Or.inl hap
    · rw [if_neg c]
      have ht : 0 < trn X Y a b q := by omega
      have hbq := hDq b (hm b (by simp))
      refine ⟨List.pairwise_cons.mpr ⟨fun x hx => hDq x (hm x hx), h.1⟩, ?_, ?_⟩
      · intro x y z t
        rcases tri_cons t with ⟨rfl, v, e⟩ | t
        · simp at e; rw [← e.1, ← e.2.1]; exact ht
        · exact h.2.1 x y z t
      · intro x y he p hp
        rcases edg_cons he with ⟨rfl, v, e⟩ | he2
        · simp at e
          rw [← e.1]
          rcases hp with hp | rfl
          · rcases hst p hp with hh | hh
            · exact tL1 hab hbq hh (hed p hp) ht
            · exact hh
          · exact tqq b
        · rcases hp with hp | hp
          · exact h.2.2 x y he2 p hp
          · rw [hp]; exact topE r a b h hbq ht x y he2
theorem popR_last {X Y : Nat → Int} {kept q : Nat} : ∀ (l : List Nat), (popR X Y kept q l).getLast? = l.getLast? := by
  intro l
  induction l with
  | nil => rfl
  | cons b l ih =>
    cases l with
    | nil => rfl
    | cons a r =>
      rw [popR]
      split
      · rw [ih]; simp
      · rfl
theorem CH_weak {X Y : Nat → Int} {D D' : Nat → Prop} {l : List Nat} (hD : ∀ p, D' p → D p) (h : CH X Y D l) : CH X Y D' l := ⟨h.1, h.2.1, fun a b e p hp => h.2.2 a b e p (hD p hp)⟩
/-- the lower chain of a sorted row -/
theorem loL_CH {X Y : Nat → Int} {rg : Nat → Nat} {m : Nat} (hs : ∀ j k : Nat, j < k → k < m → bef X Y (rg j) (rg k)) : ∀ i : Nat, i + 1 ≤ m → CH X Y (fun p => ∃ j, j < i + 1 ∧ p = rg j) (loL X Y rg (i + 1)) ∧ (loL X Y rg (i + 1)).getLast? = some (rg 0) ∧ ∀ x ∈ loL X Y rg (i + 1), ∃ j, j < i + 1 ∧ x = rg j := by
  intro i
  induction i with
  | zero =>
    intro _
    refine ⟨⟨by simp [loL, popR, dsc], ?_, ?_⟩, by simp [loL, popR], fun x hx => ⟨0, by omega, by simpa [loL, popR] using hx⟩⟩
    · rintro a b' c ⟨u, v, e⟩
      rcases u with - | ⟨x, u⟩ <;> simp [loL, popR] at e
    · rintro a b ⟨u, v, e⟩
      rcases u with - | ⟨x, u⟩ <;> simp [loL, popR] at e
  | succ i ih =>
    intro hi
    obtain ⟨g1, g2, g3⟩ := ih (by omega)
    rw [loL]
    have e0 : ∃ l, loL X Y rg (i + 1) = rg i :: l := ⟨_, by rw [loL]⟩
    obtain ⟨l, e0⟩ := e0
    rw [e0] at g1 g2 g3 ⊢
    have hp := push_ok (D := fun p => ∃ j, j < i + 1 ∧ p = rg j) (q := rg (i + 1)) (fun p ⟨j, hj, e⟩ => by rw [e]; exact hs j (i + 1) hj (by omega)) l (rg i) g1 g3 (fun p ⟨j, hj, e⟩ => by
        left
        rw [e]
        by_cases c : j = i
        · subst c; intro hb; exact bef_asym hb hb
        · exact bef_asym (hs j i (by omega) (by omega))) (fun z hz p ⟨j, hj, e⟩ => by
        rw [g2] at hz
        have : z = rg 0 := by simpa using hz.symm
        rw [this, e]
        by_cases c : j = 0
        · subst c; intro hb; exact bef_asym hb hb
        · exact bef_asym (hs 0 j (by omega) (by omega)))
    have hw : ∀ p, (∃ j, j < i + 1 + 1 ∧ p = rg j) → (∃ j, j < i + 1 ∧ p = rg j) ∨ p = rg (i + 1) := by
      rintro p ⟨j, hj, e⟩
      by_cases c : j = i + 1
      · right; rw [e, c]
      · left; exact ⟨j, by omega, e⟩
    refine ⟨CH_weak hw hp, ?_, ?_⟩
    · have e1 : (popR X Y 2 (rg (i + 1)) (rg i :: l)).getLast? = some (rg 0) := by rw [popR_last, g2]
      cases hh : popR X Y 2 (rg (i + 1)) (rg i :: l) with
      | nil => rw [hh] at e1; simp at e1
      | cons z w => rw [hh] at e1; simpa using e1
    · intro x hx
      rcases List.mem_cons.mp hx with rfl | hx
      · exact ⟨i + 1, by omega, rfl⟩
      · obtain ⟨j, hj, e⟩ := g3 x (popR_mem hx)
        exact ⟨j, by omega, e⟩
