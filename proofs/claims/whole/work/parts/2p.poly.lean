--@ needs 2e.row 2f.row2 2g.bits 2h.hull 2i.hull2 2j.hull3 2k.hull4 2l.side 2m.side2 2o.chain
/-! both chains make a polygon -/
theorem trn_neg (X Y : Nat → Int) (a b c : Nat) : trn (fun i => -X i) (fun i => -Y i) a b c = trn X Y a b c := by unfold trn; grind
theorem popR_neg (X Y : Nat → Int) (kept q : Nat) : ∀ l, popR (fun i => -X i) (fun i => -Y i) kept q l = popR X Y kept q l := by
  intro l
  induction l with
  | nil => rfl
  | cons b l ih =>
    cases l with
    | nil => rfl
    | cons a r => rw [popR, popR, trn_neg, ih]
theorem loL_neg (X Y : Nat → Int) (rg : Nat → Nat) : ∀ i, loL (fun i => -X i) (fun i => -Y i) rg i = loL X Y rg i := by
  intro i
  induction i with
  | zero => rfl
  | succ i ih => rw [loL, loL, ih, popR_neg]
theorem popR_app (X Y : Nat → Int) (q : Nat) (lr : List Nat) : ∀ u : List Nat, u ≠ [] → popR X Y (lr.length + 2) q (u ++ lr) = popR X Y 2 q u ++ lr := by
  intro u
  induction u with
  | nil => intro h; exact absurd rfl h
  | cons b u ih =>
    intro _
    cases u with
    | nil =>
      cases lr with
      | nil => rfl
      | cons a r =>
        show popR X Y _ q (b :: a :: r) = [b] ++ (a :: r)
        rw [popR, if_neg (fun h => by have := h.1; simp at this; omega)]
        rfl
    | cons a r =>
      show popR X Y _ q (b :: a :: (r ++ lr)) = popR X Y 2 q (b :: a :: r) ++ lr
      rw [popR, popR]
      by_cases c : trn X Y a b q ≤ 0
      · rw [if_pos ⟨by simp, c⟩, if_pos ⟨by omega, c⟩]
        exact ih (by simp)
      · rw [if_neg (fun h => c h.2), if_neg (fun h => c h.2)]
        rfl
theorem loL_ne (X Y : Nat → Int) (rg : Nat → Nat) (i : Nat) : loL X Y rg (i + 1) ≠ [] := by rw [loL]; simp
theorem upZ_rev (X Y : Nat → Int) (rg : Nat → Nat) (m : Nat) (lr : List Nat) : ∀ k : Nat, k + 1 + 1 ≤ m → upZ X Y rg (lr.length + 2) (k + 1) (loL X Y (fun j => rg (m - 1 - j)) (m - (k + 1)) ++ lr) = (loL X Y (fun j => rg (m - 1 - j)) m).tail ++ lr := by
  intro k
  induction k with
  | zero =>
    intro h
    obtain ⟨q, rfl⟩ : ∃ q, m = q + 2 := ⟨m - 2, by omega⟩
    rw [upZ, show q + 2 - (0 + 1) = q + 1 by omega, popR_app X Y _ lr _ (loL_ne X Y _ q)]
    congr 1
    show popR X Y 2 (rg 0) (loL X Y (fun j => rg (q + 1 - j)) (q + 1)) = popR X Y 2 (rg (q + 1 - (q + 1))) (loL X Y (fun j => rg (q + 1 - j)) (q + 1))
    rw [Nat.sub_self]
  | succ k ih =>
    intro h
    obtain ⟨q, rfl⟩ : ∃ q, m = q + k + 3 := ⟨m - k - 3, by omega⟩
    rw [upZ, ← ih (by omega), show q + k + 3 - (k + 1 + 1) = q + 1 by omega, show q + k + 3 - (k + 1) = q + 2 by omega, popR_app X Y _ lr _ (loL_ne X Y _ q)]
    rw [show loL X Y (fun j => rg (q + k + 3 - 1 - j)) (q + 2) = rg (q + k + 3 - 1 - (q + 1)) :: popR X Y 2 (rg (q + k + 3 - 1 - (q + 1))) (loL X Y (fun j => rg (q + k + 3 - 1 - j)) (q + 1)) from rfl]
    rw [show q + k + 3 - 1 - (q + 1) = k + 1 by omega]; rfl
theorem hulR_two (X Y : Nat → Int) (rg : Nat → Nat) (m : Nat) : hulR X Y rg (m + 2) = (loL X Y (fun j => rg (m + 1 - j)) (m + 2)).tail ++ (loL X Y rg (m + 2)).tail := by
  unfold hulR
  have e : ∃ lr, loL X Y rg (m + 2) = rg (m + 1) :: lr := ⟨_, by rw [loL]⟩
  obtain ⟨lr, e⟩ := e
  rw [e]
  have := upZ_rev X Y rg (m + 2) lr m (by omega)
  rw [show m + 2 - (m + 1) = 1 by omega] at this
  exact this
theorem edg_app {u lr : List Nat} {a b : Nat} (h : edg (u ++ lr) a b) : edg u a b ∨ edg lr a b ∨ ∃ u0 v, u = u0 ++ [b] ∧ lr = a :: v := by
  induction u with
  | nil => exact Or.inr (Or.inl h)
  | cons c u ih =>
    rcases edg_cons h with ⟨rfl, v, e⟩ | h
    · cases u with
      | nil => exact Or.inr (Or.inr ⟨[], v, rfl, e⟩)
      | cons d u => simp at e; rw [e.1]; exact Or.inl ⟨[], u, rfl⟩
    · rcases ih h with h | h | ⟨u0, v, e1, e2⟩
      · exact Or.inl (edg_suf [c] h)
      · exact Or.inr (Or.inl h)
      · exact Or.inr (Or.inr ⟨c :: u0, v, by rw [e1]; rfl, e2⟩)
theorem tri_app {u lr : List Nat} {a b c : Nat} (h : tri (u ++ lr) a b c) : tri u a b c ∨ tri lr a b c ∨ (∃ u0 v, u = u0 ++ [c] ∧ lr = b :: a :: v) ∨ ∃ u0 v, u = u0 ++ [c, b] ∧ lr = a :: v := by
  induction u with
  | nil => exact Or.inr (Or.inl h)
  | cons d u ih =>
    rcases tri_cons h with ⟨rfl, v, e⟩ | h
    · cases u with
      | nil => exact Or.inr (Or.inr (Or.inl ⟨[], v, rfl, e⟩))
      | cons z u =>
        cases u with
        | nil => simp at e; rw [e.1]; exact Or.inr (Or.inr (Or.inr ⟨[], v, rfl, e.2⟩))
        | cons y u => simp at e; rw [e.1, e.2.1]; exact Or.inl ⟨[], u, rfl⟩
    · rcases ih h with h | h | ⟨u0, v, e1, e2⟩ | ⟨u0, v, e1, e2⟩
      · exact Or.inl (tri_suf [d] h)
      · exact Or.inr (Or.inl h)
      · exact Or.inr (Or.inr (Or.inl ⟨d :: u0, v, by rw [e1]; rfl, e2⟩))
      · exact Or.inr (Or.inr (Or.inr ⟨d :: u0, v, by rw [e1]; rfl, e2⟩))
theorem hg_top (b : Nat) (r : List Nat) : hg (b :: r) r.length = b := by rw [hg_cons, if_neg (by omega), if_pos rfl]
theorem hg_low {b : Nat} {r : List Nat} {i : Nat} (h : i < r.length) : hg (b :: r) i = hg r i := by rw [hg_cons, if_pos h]
theorem edg_idx : ∀ {H : List Nat} {i : Nat}, i + 1 < H.length → edg H (hg H i) (hg H (i + 1)) := by
  intro H
  induction H with
  | nil => intro i h; simp at h
  | cons b r ih =>
    intro i h
    simp only [List.length_cons] at h
    by_cases c : i + 1 < r.length
    · rw [hg_low c, hg_low (by omega)]
      exact edg_suf [b] (ih c)
    · have e : i + 1 = r.length := by omega
      rw [e, hg_top, hg_low (by omega)]
      cases r with
      | nil => simp at e
      | cons a r =>
        simp only [List.length_cons] at e
        rw [show i = r.length by omega, hg_top]
        exact ⟨[], r, rfl⟩
theorem tri_idx : ∀ {H : List Nat} {i : Nat}, i + 2 < H.length → tri H (hg H i) (hg H (i + 1)) (hg H (i + 2)) := by
  intro H
  induction H with
  | nil => intro i h; simp at h
  | cons b r ih =>
    intro i h
    simp only [List.length_cons] at h
    by_cases c : i + 2 < r.length
    · rw [hg_low c, hg_low (by omega), hg_low (by omega)]
      exact tri_suf [b] (ih c)
    · have e : i + 2 = r.length := by omega
      rw [e, hg_top, hg_low (by omega), hg_low (by omega)]
      rcases r with - | ⟨a, - | ⟨z, r⟩⟩
      · simp at e
      · simp at e
      · simp only [List.length_cons] at e
        have e2 : i = r.length := by omega
        subst e2
        rw [hg_low (b := a) (r := z :: r) (i := r.length) (by simp), hg_top, show r.length + 1 = (z :: r).length from rfl, hg_top]
        exact ⟨[], r, rfl⟩
theorem cnr {X Y : Nat → Int} {D : Nat → Prop} {a R c : Nat} (h1 : bef X Y a R) (h2 : bef X Y c R) (ha : ∀ p, D p → 0 ≤ trn X Y a R p) (hc : ∀ p, D p → 0 ≤ trn X Y R c p) (hD : D c) : 0 < trn X Y a R c ∨ ∀ p, D p → trn X Y a R p = 0 := by
  by_cases z : trn X Y a R c = 0
  · right
    intro p hp
    by_cases y : 0 < trn X Y a R p
    · exfalso
      have := lex_gt (k := - trn X Y R c p) (s := trn X Y a R p) (t := 0) (ax := X R - X a) (ay := Y R - Y a) (bx := X R - X c) (by' := Y R - Y c) (cx := 0) (cy' := 0) (by unfold trn at z ⊢; grind) (by unfold trn at z ⊢; grind) (bef_lxp h1) (bef_lxp h2) (by omega) y (by omega)
      have := hc p hp
      omega
    · have := ha p hp; omega
  · left
    have := ha c hD; omega
theorem col0 {X Y : Nat → Int} {a R x y z : Nat} (h : bef X Y a R) (hx : trn X Y a R x = 0) (hy : trn X Y a R y = 0) (hz : trn X Y a R z = 0) : trn X Y x y z = 0 := by
  have e1 : trn X Y x y z * (X R - X a) = 0 := by unfold trn at *; grind
  have e2 : trn X Y x y z * (Y R - Y a) = 0 := by unfold trn at *; grind
  rcases Int.mul_eq_zero.mp e1 with e | e
  · exact e
  · rcases Int.mul_eq_zero.mp e2 with f | f
    · exact f
    · unfold bef at h; omega
theorem ndp_len : ∀ {l r : List Nat}, l.Nodup → (∀ x ∈ l, x ∈ r) → l.length ≤ r.length := by
  intro l
  induction l with
  | nil => intro r _ _; simp
  | cons x l ih =>
    intro r hn hs
    have hx := hs x (by simp)
    obtain ⟨hn1, hn2⟩ := List.nodup_cons.mp hn
    have := ih (r := r.erase x) hn2 (fun y hy => by
      have hne : y ≠ x := fun e => hn1 (e ▸ hy)
      exact (List.mem_erase_of_ne hne).mpr (hs y (List.mem_cons_of_mem _ hy)))
    rw [List.length_erase_of_mem hx] at this
    have := List.length_pos_of_mem hx
    simp only [List.length_cons]
    omega
theorem dsc_nodup {X Y : Nat → Int} {l : List Nat} (h : dsc X Y l) : l.Nodup := h.imp (fun {a b} hb e => by rw [e] at hb; exact bef_asym hb hb)
theorem ndj {X Y : Nat → Int} {a x b a' : Nat} (hxb : bef X Y x b) (hax : bef X Y a' x) (h1 : 0 < trn X Y a x b) (h2 : 0 ≤ trn X Y x a' b) (h3 : 0 ≤ trn X Y x b a') (h4 : 0 ≤ trn X Y x a' a) : False := by
  have z : trn X Y x a' b = 0 := by
    have : trn X Y x a' b = - trn X Y x b a' := by unfold trn; grind
    omega
  have := lex_gt (k := - trn X Y x a' a) (s := trn X Y a x b) (t := 0) (ax := X b - X x) (ay := Y b - Y x) (bx := X x - X a') (by' := Y x - Y a') (cx := 0) (cy' := 0) (by unfold trn at z ⊢; grind) (by unfold trn at z ⊢; grind) (bef_lxp hxb) (bef_lxp hax) (by omega) h1 (by omega)
  omega
theorem bef_neg (X Y : Nat → Int) (a b : Nat) : bef (fun i => -X i) (fun i => -Y i) a b ↔ bef X Y b a := by
  show (-X a < -X b ∨ (-X a = -X b ∧ -Y a < -Y b)) ↔ (X b < X a ∨ (X b = X a ∧ Y b < Y a))
  omega
/-- what a hull of a sorted row is -/
theorem poly {X Y : Nat → Int} {rg : Nat → Nat} {m : Nat} (hs : ∀ j k : Nat, j < k → k < m + 2 → bef X Y (rg j) (rg k)) :
    (∀ x ∈ hulR X Y rg (m + 2), ∃ j, j < m + 2 ∧ x = rg j) ∧ (hulR X Y rg (m + 2)).Nodup ∧ 2 ≤ (hulR X Y rg (m + 2)).length ∧
    (∀ i : Nat, i < (hulR X Y rg (m + 2)).length → ∀ k : Nat, k < m + 2 → 0 ≤ trn X Y (hg (hulR X Y rg (m + 2)) i) (hg (hulR X Y rg (m + 2)) (cy (hulR X Y rg (m + 2)).length (i + 1))) (rg k)) ∧
    (3 ≤ (hulR X Y rg (m + 2)).length → ∀ i : Nat, i < (hulR X Y rg (m + 2)).length → 0 < trn X Y (hg (hulR X Y rg (m + 2)) i) (hg (hulR X Y rg (m + 2)) (cy (hulR X Y rg (m + 2)).length (i + 1))) (hg (hulR X Y rg (m + 2)) (cy (hulR X Y rg (m + 2)).length (cy (hulR X Y rg (m + 2)).length (i + 1) + 1)))) ∧
    hg (hulR X Y rg (m + 2)) 0 = rg 0 ∧ ((hulR X Y rg (m + 2)).length = 2 → hg (hulR X Y rg (m + 2)) 1 = rg (m + 1)) := by
  obtain ⟨g1, g2, g3⟩ := loL_CH hs (m + 1) (by omega)
  have hs' : ∀ j k : Nat, j < k → k < m + 2 → bef (fun i => -X i) (fun i => -Y i) (rg (m + 1 - j)) (rg (m + 1 - k)) := by
    intro j k h1 h2
    have := hs (m + 1 - k) (m + 1 - j) (by omega) (by omega)
    exact (bef_neg X Y _ _).mpr this
  obtain ⟨w1, w2, w3⟩ := loL_CH (rg := fun j => rg (m + 1 - j)) hs' (m + 1) (by omega)
  rw [loL_neg] at w1 w2 w3
  rw [hulR_two]
  have eG : ∃ lr, loL X Y rg (m + 2) = rg (m + 1) :: lr := ⟨_, by rw [loL]⟩
  obtain ⟨lr, eG⟩ := eG
  have eW : ∃ u, loL X Y (fun j => rg (m + 1 - j)) (m + 2) = rg 0 :: u := ⟨_, by rw [show rg 0 = rg (m + 1 - (m + 1)) from by rw [Nat.sub_self]]; rw [loL]⟩
  obtain ⟨u, eW⟩ := eW
  rw [eG] at g1 g2 g3
  rw [eW] at w1 w2 w3
  rw [eG, eW]
  simp only [List.tail_cons]
  have hLR : bef X Y (rg 0) (rg (m + 1)) := hs 0 (m + 1) (by omega) (by omega)
  have hne : rg (m + 1) ≠ rg 0 := fun e => by rw [e] at hLR; exact bef_asym hLR hLR
  -- last ones
  have lrl : ∃ lr0, lr = lr0 ++ [rg 0] := by
    rcases List.eq_nil_or_concat lr with e | ⟨lr0, z, e⟩
    · rw [e] at g2; simp at g2; exact absurd g2 hne
    · refine ⟨lr0, ?_⟩
      rw [e] at g2 ⊢
      rw [List.concat_eq_append] at g2 ⊢
      rw [← List.cons_append, List.getLast?_append] at g2
      simp at g2
      rw [g2]
  have ul : ∃ u0, u = u0 ++ [rg (m + 1)] := by
    rcases List.eq_nil_or_concat u with e | ⟨u0, z, e⟩
    · rw [e] at w2; simp at w2; exact absurd w2.symm hne
    · refine ⟨u0, ?_⟩
      rw [e] at w2 ⊢
      rw [List.concat_eq_append] at w2 ⊢
      rw [← List.cons_append, List.getLast?_append] at w2
      simp at w2
      rw [w2]
  obtain ⟨lr0, el⟩ := lrl
  obtain ⟨u0, eu⟩ := ul
  obtain ⟨gd1, gt, ge⟩ := g1
  obtain ⟨wd1, wt, we⟩ := w1
  have wt' : ∀ a b c, tri (rg 0 :: u) a b c → 0 < trn X Y a b c := fun a b c h => by have := wt a b c h; rw [trn_neg] at this; exact this
  have D2 : ∀ p, (∃ j, j < m + 2 ∧ p = rg j) → ∃ j, j < m + 1 + 1 ∧ p = rg (m + 1 - j) := by
    rintro p ⟨j, hj, e⟩
    exact ⟨m + 1 - j, by omega, by rw [e]; congr 1; omega⟩
  have we' : ∀ a b, edg (rg 0 :: u) a b → ∀ p, (∃ j, j < m + 2 ∧ p = rg j) → 0 ≤ trn X Y a b p := fun a b h p hp => by have := we a b h p (D2 p hp); rw [trn_neg] at this; exact this
  have w3' : ∀ x ∈ rg 0 :: u, ∃ j, j < m + 2 ∧ x = rg j := by
    intro x hx
    obtain ⟨j, hj, e⟩ := w3 x hx
    exact ⟨m + 1 - j, by omega, e⟩
  have Ltop : ∀ x ∈ u, bef X Y (rg 0) x := by
    intro x hx
    exact (bef_neg X Y _ _).mp ((List.pairwise_cons.mp wd1).1 x hx)
  have Rtop : ∀ x ∈ lr, bef X Y x (rg (m + 1)) := (List.pairwise_cons.mp gd1).1
  have Rin : rg (m + 1) ∈ u := by rw [eu]; simp
  have Lin : rg 0 ∈ lr := by rw [el]; simp
  have mem : ∀ x ∈ u ++ lr, ∃ j, j < m + 2 ∧ x = rg j := by
    intro x hx
    rcases List.mem_append.mp hx with hx | hx
    · exact w3' x (List.mem_cons_of_mem _ hx)
    · exact g3 x (List.mem_cons_of_mem _ hx)
  -- edges of the polygon
  have edH : ∀ a b, edg (u ++ lr) a b → edg (rg 0 :: u) a b ∨ edg (rg (m + 1) :: lr) a b := by
    intro a b h
    rcases edg_app h with h | h | ⟨u1, v, e1, e2⟩
    · exact Or.inl (edg_suf [rg 0] h)
    · exact Or.inr (edg_suf [rg (m + 1)] h)
    · right
      have hb : b = rg (m + 1) := by
        have : u0 ++ [rg (m + 1)] = u1 ++ [b] := by rw [← eu, e1]
        have := congrArg List.getLast? this
        simpa using this.symm
      rw [hb, e2]
      exact ⟨[], v, rfl⟩
  have edD : ∀ a b, edg (u ++ lr) a b → ∀ p, (∃ j, j < m + 2 ∧ p = rg j) → 0 ≤ trn X Y a b p := by
    intro a b h p hp
    rcases edH a b h with h | h
    · exact we' a b h p hp
    · exact ge a b h p hp
  have hbot : hg (u ++ lr) 0 = rg 0 := by
    unfold hg
    rw [el, List.reverse_append, List.reverse_append]; rfl
  obtain ⟨y, u', hu⟩ : ∃ y u', u = y :: u' := by
    cases u with
    | nil => simp at Rin
    | cons y u' => exact ⟨y, u', rfl⟩
  obtain ⟨a1, lr', hlr⟩ : ∃ y u', lr = y :: u' := by
    cases lr with
    | nil => simp at Lin
    | cons y u' => exact ⟨y, u', rfl⟩
  have len : (u ++ lr).length = u'.length + lr'.length + 2 := by rw [hu, hlr]; simp; omega
  have htop : hg (u ++ lr) ((u ++ lr).length - 1) = y := by
    rw [hu]
    show hg (y :: (u' ++ lr)) ((y :: (u' ++ lr)).length - 1) = y
    rw [List.length_cons, Nat.add_sub_cancel, hg_top]
  have clo : edg (rg 0 :: u) y (rg 0) := ⟨[], u', by rw [hu]; rfl⟩
  -- the corner at the last one of the row, at the first one
  have three : 3 ≤ (u ++ lr).length → (∃ a b c, tri (rg 0 :: u) a b c) ∨ ∃ a b c, tri (rg (m + 1) :: lr) a b c := by
    intro h
    cases u' with
    | nil =>
      cases lr' with
      | nil => rw [len] at h; simp at h
      | cons z v => exact Or.inr ⟨z, a1, rg (m + 1), [], v, by rw [hlr]; rfl⟩
    | cons z v => exact Or.inl ⟨z, y, rg 0, [], v, by rw [hu]; rfl⟩
  have tmem : ∀ {l : List Nat} {a b c : Nat}, tri l a b c → a ∈ l ∧ b ∈ l ∧ c ∈ l := by
    rintro l a b c ⟨s, t, e⟩
    rw [e]; simp
  have ncol : 3 ≤ (u ++ lr).length → ∀ a R : Nat, bef X Y a R → ¬ ∀ p, (∃ j, j < m + 2 ∧ p = rg j) → trn X Y a R p = 0 := by
    intro h a R hb hall
    rcases three h with ⟨x, y, z, t⟩ | ⟨x, y, z, t⟩
    · obtain ⟨m1, m2, m3⟩ := tmem t
      have := wt' x y z t
      rw [col0 hb (hall x (w3' x m1)) (hall y (w3' y m2)) (hall z (w3' z m3))] at this
      omega
    · obtain ⟨m1, m2, m3⟩ := tmem t
      have := gt x y z t
      rw [col0 hb (hall x (g3 x m1)) (hall y (g3 y m2)) (hall z (g3 z m3))] at this
      omega
  have cR : 3 ≤ (u ++ lr).length → ∀ c, edg (rg 0 :: u) (rg (m + 1)) c → 0 < trn X Y a1 (rg (m + 1)) c := by
    intro h c hc
    have ha1 : bef X Y a1 (rg (m + 1)) := Rtop a1 (by rw [hlr]; simp)
    have hcm : c ∈ rg 0 :: u := by obtain ⟨s, t, e⟩ := hc; rw [e]; simp
    have hcR : bef X Y c (rg (m + 1)) := by
      obtain ⟨s, t, e⟩ := hc
      rw [e] at wd1
      exact (bef_neg X Y _ _).mp ((List.pairwise_cons.mp (List.pairwise_append.mp wd1).2.1).1 (rg (m + 1)) (by simp))
    rcases cnr (D := fun p => ∃ j, j < m + 2 ∧ p = rg j) ha1 hcR (fun p hp => ge a1 (rg (m + 1)) ⟨[], lr', by rw [hlr]; rfl⟩ p hp) (fun p hp => we' _ _ hc p hp) (w3' c hcm) with hh | hh
    · exact hh
    · exact absurd hh (ncol h a1 (rg (m + 1)) ha1)
  have cL : 3 ≤ (u ++ lr).length → ∀ b, edg (rg (m + 1) :: lr) (rg 0) b → 0 < trn X Y y (rg 0) b := by
    intro h b hb
    have hy : bef X Y (rg 0) y := Ltop y (by rw [hu]; simp)
    have hbm : b ∈ rg (m + 1) :: lr := by obtain ⟨s, t, e⟩ := hb; rw [e]; simp
    have hbL : bef X Y (rg 0) b := by
      obtain ⟨s, t, e⟩ := hb
      rw [e] at gd1
      exact (List.pairwise_cons.mp (List.pairwise_append.mp gd1).2.1).1 (rg 0) (by simp)
    have n1 : bef (fun i => -X i) (fun i => -Y i) y (rg 0) := (bef_neg X Y _ _).mpr hy
    have n2 : bef (fun i => -X i) (fun i => -Y i) b (rg 0) := (bef_neg X Y _ _).mpr hbL
    rcases cnr (D := fun p => ∃ j, j < m + 2 ∧ p = rg j) n1 n2 (fun p hp => by rw [trn_neg]; exact we' _ _ clo p hp) (fun p hp => by rw [trn_neg]; exact ge _ _ hb p hp) (g3 b hbm) with hh | hh
    · rw [trn_neg] at hh; exact hh
    · exfalso
      refine ncol h (rg 0) y hy (fun p hp => ?_)
      have := hh p hp
      rw [trn_neg] at this
      have e : trn X Y (rg 0) y p = - trn X Y y (rg 0) p := by unfold trn; grind
      omega
  refine ⟨mem, ?_, by rw [len]; omega, ?_, ?_, hbot, ?_⟩
  · -- no corner twice
    refine List.nodup_append.mpr ⟨(List.nodup_cons.mp (dsc_nodup wd1)).2, (List.nodup_cons.mp (dsc_nodup gd1)).2, ?_⟩
    intro x hx x2 hx2 e
    subst e
    have hxR : x ≠ rg (m + 1) := fun e => by have := Rtop x hx2; rw [e] at this; exact bef_asym this this
    have hxL : x ≠ rg 0 := fun e => by have := Ltop x hx; rw [e] at this; exact bef_asym this this
    -- below and above it in the lower chain
    obtain ⟨s, t, es⟩ := List.append_of_mem hx2
    obtain ⟨s2, t2, es2⟩ := List.append_of_mem hx
    have ht : ∃ a t0, t = a :: t0 := by
      cases t with
      | nil =>
        exfalso
        rw [el] at es
        have := congrArg List.getLast? es
        simp at this
        exact hxL this.symm
      | cons a t0 => exact ⟨a, t0, rfl⟩
    obtain ⟨a, t0, rfl⟩ := ht
    have hb : ∃ b s0, rg (m + 1) :: s = s0 ++ [b] := by
      rcases List.eq_nil_or_concat (rg (m + 1) :: s) with e | ⟨s0, z, e⟩
      · simp at e
      · exact ⟨z, s0, by rw [e, List.concat_eq_append]⟩
    obtain ⟨b, s0, hb⟩ := hb
    have hb2 : ∃ b s0, rg 0 :: s2 = s0 ++ [b] := by
      rcases List.eq_nil_or_concat (rg 0 :: s2) with e | ⟨s0, z, e⟩
      · simp at e
      · exact ⟨z, s0, by rw [e, List.concat_eq_append]⟩
    obtain ⟨a', s3, hb2⟩ := hb2
    have eG2 : rg (m + 1) :: lr = s0 ++ b :: x :: a :: t0 := by
      rw [es, ← List.cons_append, hb, List.append_assoc]; rfl
    have eW2 : rg 0 :: u = s3 ++ a' :: x :: t2 := by
      rw [es2, ← List.cons_append, hb2, List.append_assoc]; rfl
    have k1 := gt a x b ⟨s0, t0, eG2⟩
    have e1 : edg (rg (m + 1) :: lr) x b := ⟨s0, a :: t0, eG2⟩
    have e2 : edg (rg 0 :: u) x a' := ⟨s3, t2, eW2⟩
    have am : a ∈ rg (m + 1) :: lr := by rw [eG2]; simp
    have bm : b ∈ rg (m + 1) :: lr := by rw [eG2]; simp
    have a'm : a' ∈ rg 0 :: u := by rw [eW2]; simp
    have hxb : bef X Y x b := by
      rw [eG2] at gd1
      exact (List.pairwise_cons.mp (List.pairwise_append.mp gd1).2.1).1 x (by simp)
    have hax : bef X Y a' x := by
      rw [eW2] at wd1
      exact (bef_neg X Y _ _).mp ((List.pairwise_cons.mp (List.pairwise_append.mp wd1).2.1).1 x (by simp))
    exact ndj hxb hax k1 (we' _ _ e2 b (g3 b bm)) (ge _ _ e1 a' (w3' a' a'm)) (we' _ _ e2 a (g3 a am))
  · -- all lie left of each edge
    intro i hi k hk
    by_cases c : i + 1 < (u ++ lr).length
    · rw [show cy (u ++ lr).length (i + 1) = i + 1 from if_pos c]
      exact edD _ _ (edg_idx c) _ ⟨k, hk, rfl⟩
    · rw [show cy (u ++ lr).length (i + 1) = 0 from if_neg c, hbot, show i = (u ++ lr).length - 1 by omega, htop]
      exact we' _ _ clo _ ⟨k, hk, rfl⟩
  · -- strictly round
    intro h3 i hi
    by_cases c : i + 2 < (u ++ lr).length
    · rw [show cy (u ++ lr).length (i + 1) = i + 1 from if_pos (by omega), show cy (u ++ lr).length (i + 1 + 1) = i + 2 from if_pos c]
      have hT := tri_app (tri_idx c)
      generalize hg (u ++ lr) i = x0 at hT ⊢
      generalize hg (u ++ lr) (i + 1) = x1 at hT ⊢
      generalize hg (u ++ lr) (i + 2) = x2 at hT ⊢
      rcases hT with h | h | ⟨v0, v, e1, e2⟩ | ⟨v0, v, e1, e2⟩
      · exact wt' _ _ _ (tri_suf [rg 0] h)
      · exact gt _ _ _ (tri_suf [rg (m + 1)] h)
      · have hb : x2 = rg (m + 1) := by
          have : u0 ++ [rg (m + 1)] = v0 ++ [x2] := by rw [← eu, ← e1]
          have := congrArg List.getLast? this
          simpa using this.symm
        rw [hb]
        exact gt _ _ _ ⟨[], v, by rw [e2]; rfl⟩
      · have hb : x1 = rg (m + 1) := by
          have : u0 ++ [rg (m + 1)] = (v0 ++ [x2]) ++ [x1] := by rw [← eu, e1, List.append_assoc]; rfl
          have := congrArg List.getLast? this
          simpa using this.symm
        have ha : a1 = x0 := by
          have : a1 :: lr' = x0 :: v := by rw [← hlr, e2]
          simp at this; exact this.1
        rw [hb, ← ha]
        refine cR h3 _ ⟨rg 0 :: v0, [], ?_⟩
        rw [e1, hb]; simp
    · by_cases d : i + 1 < (u ++ lr).length
      · have ei : i + 2 = (u ++ lr).length := by omega
        rw [show cy (u ++ lr).length (i + 1) = i + 1 from if_pos d, show cy (u ++ lr).length (i + 1 + 1) = 0 from if_neg (by omega), hbot, show i + 1 = (u ++ lr).length - 1 by omega, htop]
        cases u' with
        | nil =>
          have hy : y = rg (m + 1) := by
            rw [hu] at Rin; have := List.mem_singleton.mp Rin; exact this.symm
          have e3 : hg (u ++ lr) i = a1 := by
            rw [hu, hlr] at ei ⊢
            simp at ei
            show hg (y :: a1 :: lr') i = a1
            rw [hg_low (by simp; omega), show i = lr'.length by omega, hg_top]
          rw [e3, hy]
          refine cR h3 _ ?_
          rw [← hy]; exact clo
        | cons x v =>
          have e3 : hg (u ++ lr) i = x := by
            rw [hu] at ei ⊢
            simp at ei
            show hg (y :: x :: (v ++ lr)) i = x
            rw [hg_low (by simp; omega), show i = (v ++ lr).length by simp; omega, hg_top]
          rw [e3]
          exact wt' _ _ _ ⟨[], v, by rw [hu]; rfl⟩
      · rw [show cy (u ++ lr).length (i + 1) = 0 from if_neg (by omega), hbot, show cy (u ++ lr).length (0 + 1) = 1 from if_pos (by omega), show i = (u ++ lr).length - 1 by omega, htop]
        refine cL h3 _ ?_
        have hE := edg_idx (H := u ++ lr) (i := 0) (by omega)
        rw [hbot, Nat.zero_add] at hE
        rcases edg_app hE with h | h | ⟨u1, v, e1, e2⟩
        · exfalso
          obtain ⟨s, t, e⟩ := h
          have : rg 0 ∈ u := by rw [e]; simp
          have := Ltop _ this
          exact bef_asym this this
        · exact edg_suf [rg (m + 1)] h
        · have hb : hg (u ++ lr) 1 = rg (m + 1) := by
            have : u0 ++ [rg (m + 1)] = u1 ++ [hg (u ++ lr) 1] := by rw [← eu, ← e1]
            have := congrArg List.getLast? this
            simpa using this.symm
          rw [hb, e2]
          exact ⟨[], v, rfl⟩
  · intro h2
    have h3 : u'.length = 0 := by omega
    have : u' = [] := List.eq_nil_of_length_eq_zero h3
    have h1 : hg (u ++ lr) 1 = y := by rw [show (1 : Nat) = (u ++ lr).length - 1 by omega]; exact htop
    rw [h1]
    rw [hu, this] at Rin
    exact (List.mem_singleton.mp Rin).symm
