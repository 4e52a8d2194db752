theorem getq {l : List Nat} {k : Nat} (h : k < l.length) : ∃ q, l[k]? = some q ∧ q ∈ l := ⟨l[k], List.getElem?_eq_getElem h, List.getElem_mem h⟩
theorem l19 (K : Nat) {n : Nat} {x y : Nat → Int32} {X Y : Nat → Int} (hX : Pts n x y X Y) {p : Nat} (hp : p < n) {f : Nat → Int32} {l : List Nat} (hf : hl f l) (hq : ∀ q ∈ l, q < n) (hlen : l.length ≤ 24) (s : Nat) (hs0 : s = 0 ∨ ∃ q, l[s - 1]? = some q ∧ ¬ bef X Y p q) : ∀ (fu m : Nat), s ≤ m → m ≤ l.length → (∀ j q : Nat, s ≤ j → j < m → l[j]? = some q → bef X Y p q) → m - s < fu → fX2_insert_L19 K (iI (X p)) (iI (Y p)) f x y fu (nI m) = some (nI s) := by
  obtain ⟨hn, hXY⟩ := id hX
  obtain ⟨p1, p2, p3, p4⟩ := hXY p hp
  have step : ∀ (fu k q : Nat), k < 24 → l[k]? = some q → fX2_insert_L19 K (iI (X p)) (iI (Y p)) f x y (fu + 1) (nI (k + 1)) = if bef X Y p q then fX2_insert_L19 K (iI (X p)) (iI (Y p)) f x y fu (nI k) else some (nI (k + 1)) := by
    intro fu k q hk hkq
    have hqn := hq q (List.mem_of_getElem? hkq)
    obtain ⟨q1, q2, q3, q4⟩ := hXY q hqn
    rw [fX2_insert_L19, if_neg (show ¬ nI (k + 1) ≤ 0 from nI_nle (by omega) (by omega))]
    rw [show nI (k + 1) - (1 : Int32) = nI k from nI_pred k, nI_dec k]
    simp only [gd_t (inb_nI hk (by decide)), nI_clamp (show k < 2 ^ 31 by omega), hf k q hkq, gd_t (inb_nI (show q < 24 by omega) (by decide)), nI_clamp (show q < 2 ^ 31 by omega), q1, q2]
    rw [befc K p3 p4 q3 q4]
    unfold b1 xl
    simp only [Option.bind_some]
    by_cases c : bef X Y p q
    · rw [if_pos c, if_neg one_ne, if_pos c]
    · rw [if_neg c, if_pos rfl, if_neg c]
  intro fu
  induction fu with
  | zero => intro m h1 h2 h3 h4; omega
  | succ fu ih =>
    intro m h1 h2 h3 h4
    by_cases c : m = s
    · subst c
      rcases hs0 with rfl | ⟨q, e1, e2⟩
      · rw [fX2_insert_L19, if_pos (show nI 0 ≤ 0 from by decide)]
      · cases m with
        | zero => rw [fX2_insert_L19, if_pos (show nI 0 ≤ 0 from by decide)]
        | succ k =>
          rw [step fu k q (by omega) e1, if_neg e2]
    · obtain ⟨k, rfl⟩ : ∃ k, m = k + 1 := ⟨m - 1, by omega⟩
      obtain ⟨q, e1, -⟩ := getq (show k < l.length by omega)
      rw [step fu k q (by omega) e1, if_pos (h3 k q (by omega) (by omega) e1)]
      exact ih k (by omega) (by omega) (fun j z a b => h3 j z a (by omega)) (by omega)
theorem l28 (K : Nat) {n : Nat} {px py : Nat → Int32} {X Y : Nat → Int} (hX : Pts n px py X Y) {p : Nat} (hp : p < n) {f : Nat → Int32} {l : List Nat} (hf : hl f l) (hq : ∀ q ∈ l, q < n) (hlen : l.length ≤ 24) (s : Nat) (hsl : s ≤ l.length) (hs0 : s = l.length ∨ ∃ q, l[s]? = some q ∧ ¬ bef X Y q p) : ∀ (fu i : Nat), i ≤ s → (∀ j q : Nat, i ≤ j → j < s → l[j]? = some q → bef X Y q p) → s - i < fu → fX12_laysRow_L28 K (nI p) (nI l.length) px py f fu (nI i) = some (nI s) := by
  obtain ⟨hn, hXY⟩ := id hX
  have step : ∀ (fu k q : Nat), k < l.length → l[k]? = some q → fX12_laysRow_L28 K (nI p) (nI l.length) px py f (fu + 1) (nI k) = if bef X Y q p then fX12_laysRow_L28 K (nI p) (nI l.length) px py f fu (nI (k + 1)) else some (nI k) := by
    intro fu k q hk hkq
    have hqn := hq q (List.mem_of_getElem? hkq)
    rw [fX12_laysRow_L28, if_neg (nI_ge hk (by omega)), gd_t (inb_nI (show k < 24 by omega) (by decide)), nI_clamp (show k < 2 ^ 31 by omega), hf k q hkq, befm K hX hqn hp, nI_1]
    unfold b1 xl
    simp only [Option.bind_some]
    by_cases c : bef X Y q p
    · rw [if_pos c, if_neg one_ne, if_pos c]
    · rw [if_neg c, if_pos rfl, if_neg c]
  intro fu
  induction fu with
  | zero => intro i h1 h2 h3; omega
  | succ fu ih =>
    intro i h1 h2 h3
    by_cases c : i = s
    · subst c
      rcases hs0 with e | ⟨q, e1, e2⟩
      · rw [fX12_laysRow_L28, if_pos (nI_le (by omega) (by omega))]
      · rw [step fu i q (List.getElem?_eq_some_iff.mp e1).1 e1, if_neg e2]
    · obtain ⟨q, e1, -⟩ := getq (show i < l.length by omega)
      rw [step fu i q (by omega) e1, if_pos (h2 i q (Nat.le_refl _) (by omega) e1)]
      exact ih (i + 1) (by omega) (fun j z a b => h2 j z (by omega) b) (by omega)
theorem app_at {u v : List Nat} {q : Nat} : (u ++ q :: v)[u.length]? = some q := by
  rw [List.getElem?_append_right (Nat.le_refl _), Nat.sub_self]; rfl
/-- a point into the class's row -/
theorem insC (K : Nat) (hK : 4000 ≤ K) {n : Nat} {x y : Nat → Int32} {X Y : Nat → Int} (hX : Pts n x y X Y) {p : Nat} (hp : p < n) {f : Nat → Int32} {l : List Nat} (hf : hl f l) (hq : ∀ q ∈ l, q < n) (hlen : l.length < 24) (hs : srt X Y l) : ∃ f', fX2_insert K f x y (nI p) (nI l.length) = some (nI (ins X Y p l).length, f') ∧ hl f' (ins X Y p l) := by
  obtain ⟨hn, hXY⟩ := id hX
  obtain ⟨p1, p2, p3, p4⟩ := hXY p hp
  unfold fX2_insert
  simp only [gd_t (inb_nI (show p < 24 by omega) (by decide)), nI_clamp (show p < 2 ^ 31 by omega), p1, p2, xl, b1, jn]
  rcases ins_cases (p := p) hs with ⟨u, v, e1, e2, e3, e4⟩ | ⟨u, q, v, e1, e2, e3, e4, e5⟩
  · have hul : u.length ≤ l.length := by rw [e1]; simp
    rw [l19 K hX hp hf hq (by omega) u.length ?_ K l.length hul (Nat.le_refl _) ?_ (by omega)]
    · simp only [Option.bind_some]
      rw [if_pos (show nI l.length < (24 : Int32) from nI_lt hlen (by decide)), sh107 K u.length (by omega) K l.length f hul (by omega) (by omega)]
      simp only [Option.bind_some, gd_t (inb_nI (show u.length < 24 by omega) (by decide)), nI_clamp (show u.length < 2 ^ 31 by omega), nI_1]
      refine ⟨upd (shU u.length l.length f) u.length (nI p), ?_, ?_⟩
      · have el : (ins X Y p l).length = l.length + 1 := by rw [e2, e1]; simp; omega
        rw [el]
        by_cases c : u.length = 0
        · rw [if_pos (show nI u.length ≤ 0 by rw [c]; decide)]
        · rw [if_neg (nI_nle (by omega) (by omega))]
          obtain ⟨k, hk⟩ : ∃ k, u.length = k + 1 := ⟨u.length - 1, by omega⟩
          obtain ⟨q, g1, g2⟩ := getq (show k < u.length by omega)
          have g3 : l[k]? = some q := by rw [e1, List.getElem?_append_left (by omega)]; exact g1
          have hqn := hq q (List.mem_of_getElem? g3)
          have hb := e3 q g2
          rw [hk, show nI (k + 1) - (1 : Int32) = nI k from nI_pred k]
          simp only [gd_t (inb_nI (show k < 24 by omega) (by decide)), nI_clamp (show k < 2 ^ 31 by omega), hf k q g3]
          rw [isAt_c K hX hqn p3 p4, if_neg (bef_nsam hb)]
          simp only [Option.bind_some, if_true]
      · rw [e2]
        have := hl_ins (p := p) (f := f) (u := u) (v := v) (by rw [← e1]; exact hf)
        rw [← e1] at this
        exact this
    · by_cases c : u.length = 0
      · exact Or.inl c
      · right
        obtain ⟨q, g1, g2⟩ := getq (show u.length - 1 < u.length by omega)
        exact ⟨q, by rw [e1, List.getElem?_append_left (by omega)]; exact g1, bef_asym (e3 q g2)⟩
    · intro j q h1 h2 h3
      rw [e1, List.getElem?_append_right h1] at h3
      exact e4 q (List.mem_of_getElem? h3)
  · have hul : u.length + 1 ≤ l.length := by rw [e1]; simp
    have hqm : q ∈ l := by rw [e1]; simp
    rw [l19 K hX hp hf hq (by omega) (u.length + 1) ?_ K l.length hul (Nat.le_refl _) ?_ (by omega)]
    · simp only [Option.bind_some]
      rw [if_neg (nI_nle (show 0 < u.length + 1 by omega) (by omega)), show nI (u.length + 1) - (1 : Int32) = nI u.length from nI_pred _]
      simp only [gd_t (inb_nI (show u.length < 24 by omega) (by decide)), nI_clamp (show u.length < 2 ^ 31 by omega), hf u.length q (by rw [e1]; exact app_at)]
      rw [isAt_c K hX (hq q hqm) p3 p4, if_pos e4]
      simp only [Option.bind_some, if_neg one_ne]
      exact ⟨f, by rw [e2], by rw [e2]; exact hf⟩
    · right
      refine ⟨q, by rw [show u.length + 1 - 1 = u.length by omega, e1]; exact app_at, fun h => ?_⟩
      unfold bef sam at *
      omega
    · intro j z h1 h2 h3
      rw [e1, List.getElem?_append_right (by omega), show j - u.length = (j - u.length - 1) + 1 by omega, List.getElem?_cons_succ] at h3
      exact e5 z (List.mem_of_getElem? h3)
abbrev bitS (S : Int32) (j : Nat) : Prop := ¬ ((S >>> (nI j &&& 31)) &&& 1) = 0
def nxt (X Y : Nat → Int) (S : Int32) (j : Nat) (l : List Nat) : List Nat := if bitS S j then ins X Y j l else l
def rowL (X Y : Nat → Int) (S : Int32) : Nat → List Nat
  | 0 => []
  | j + 1 => nxt X Y S j (rowL X Y S j)
theorem rowL_ok (X Y : Nat → Int) (S : Int32) : ∀ j : Nat, srt X Y (rowL X Y S j) ∧ (∀ q ∈ rowL X Y S j, q < j) ∧ (rowL X Y S j).length ≤ j := by
  intro j
  induction j with
  | zero => exact ⟨List.Pairwise.nil, by simp [rowL], by simp [rowL]⟩
  | succ j ih =>
    obtain ⟨h1, h2, h3⟩ := ih
    unfold rowL nxt
    by_cases c : bitS S j
    · rw [if_pos c]
      refine ⟨ins_srt h1, fun q hq => ?_, by have := ins_len (p := j) h1; omega⟩
      rcases ins_mem h1 q hq with rfl | hq
      · omega
      · have := h2 q hq; omega
    · rw [if_neg c]
      exact ⟨h1, fun q hq => by have := h2 q hq; omega, by omega⟩
theorem rowC (K : Nat) (hK : 4000 ≤ K) {n : Nat} {x y : Nat → Int32} {X Y : Nat → Int} (hX : Pts n x y X Y) (S : Int32) : ∀ (fu j : Nat) (f : Nat → Int32), j ≤ n → n - j < fu → hl f (rowL X Y S j) → ∃ f', fX2_build_L5 K S (nI n) x y fu (nI (rowL X Y S j).length) (nI j) f = some (nI (rowL X Y S n).length, f') ∧ hl f' (rowL X Y S n) := by
  obtain ⟨hn, hXY⟩ := id hX
  intro fu
  induction fu with
  | zero => intro j f h1 h2; omega
  | succ fu ih =>
    intro j f h1 h2 hf
    obtain ⟨r1, r2, r3⟩ := rowL_ok X Y S j
    rw [fX2_build_L5]
    by_cases c : j = n
    · subst c
      rw [if_pos (nI_le (Nat.le_refl j) (by omega))]
      exact ⟨f, rfl, hf⟩
    · rw [if_neg (nI_ge (show j < n by omega) (by omega))]
      unfold fX11_isIn b1 jn xl b2
      simp only [nI_1]
      by_cases d : bitS S j
      · rw [if_neg d]
        obtain ⟨f', e1, e2⟩ := insC K hK hX (show j < n by omega) hf (fun q hq => by have := r2 q hq; omega) (by omega) r1
        simp only [Option.bind_some, if_neg one_ne, e1]
        have e3 : rowL X Y S (j + 1) = ins X Y j (rowL X Y S j) := by rw [rowL, nxt, if_pos d]
        rw [← e3] at e2 ⊢
        exact ih (j + 1) f' (by omega) (by omega) e2
      · rw [if_pos (Decidable.not_not.mp d)]
        simp only [Option.bind_some, if_true]
        have e3 : rowL X Y S (j + 1) = rowL X Y S j := by rw [rowL, nxt, if_neg d]
        rw [← e3]
        rw [← e3] at hf
        exact ih (j + 1) f (by omega) (by omega) hf
theorem rowM (K : Nat) (hK : 4000 ≤ K) {n : Nat} {px py : Nat → Int32} {X Y : Nat → Int} (hX : Pts n px py X Y) (S : Int32) : ∀ (fu j : Nat) (f : Nat → Int32), j ≤ n → n - j < fu → hl f (rowL X Y S j) → ∃ f', fX12_laysRow_L7 K S (nI n) px py fu (nI j) (nI (rowL X Y S j).length) f = some (nI (rowL X Y S n).length, f') ∧ hl f' (rowL X Y S n) := by
  obtain ⟨hn, hXY⟩ := id hX
  intro fu
  induction fu with
  | zero => intro j f h1 h2; omega
  | succ fu ih =>
    intro j f h1 h2 hf
    obtain ⟨r1, r2, r3⟩ := rowL_ok X Y S j
    rw [fX12_laysRow_L7]
    by_cases c : j = n
    · subst c
      rw [if_pos (nI_le (Nat.le_refl j) (by omega))]
      exact ⟨f, rfl, hf⟩
    · rw [if_neg (nI_ge (show j < n by omega) (by omega))]
      have hjn : j < n := by omega
      unfold b1 jn xl
      simp only [nI_1]
      by_cases d : bitS S j
      · rw [if_neg d]
        have e3 : rowL X Y S (j + 1) = ins X Y j (rowL X Y S j) := by rw [rowL, nxt, if_pos d]
        have hqn : ∀ q ∈ rowL X Y S j, q < n := fun q hq => by have := r2 q hq; omega
        generalize hL : rowL X Y S j = l at *
        rcases ins_cases (p := j) r1 with ⟨u, v, e1, e2, e4, e5⟩ | ⟨u, q, v, e1, e2, e4, e5, e6⟩
        · have hul : u.length ≤ l.length := by rw [e1]; simp
          rw [show (0 : Int32) = nI 0 from rfl, l28 K hX hjn hf hqn (by omega) u.length hul ?_ K 0 (Nat.zero_le _) ?_ (by omega)]
          · simp only [Option.bind_some]
            rw [sh87, sh107 K u.length (by omega) K l.length f hul (by omega) (by omega)]
            simp only [Option.bind_some, gd_t (inb_nI (show u.length < 24 by omega) (by decide)), nI_clamp (show u.length < 2 ^ 31 by omega)]
            have el : (rowL X Y S (j + 1)).length = l.length + 1 := by rw [e3, e2, e1]; simp; omega
            have hn2 : hl (upd (shU u.length l.length f) u.length (nI j)) (rowL X Y S (j + 1)) := by
              have := hl_ins (p := j) (f := f) (u := u) (v := v) (by rw [← e1]; exact hf)
              rw [← e1, ← e2, ← e3] at this
              exact this
            obtain ⟨f', g1, g2⟩ := ih (j + 1) _ (by omega) (by omega) hn2
            rw [el] at g1
            refine ⟨f', ?_, g2⟩
            by_cases w : u.length = l.length
            · rw [if_pos (nI_le (by omega) (by omega))]
              exact g1
            · rw [if_neg (nI_ge (show u.length < l.length by omega) (by omega))]
              obtain ⟨q, k1, k2⟩ := getq (show u.length < l.length by omega)
              have k3 : bef X Y j q := by
                rw [e1, List.getElem?_append_right (Nat.le_refl _)] at k1
                exact e5 q (List.mem_of_getElem? k1)
              rw [hf u.length q k1, samm K hX (hqn q k2) hjn, if_neg (fun h => bef_nsam k3 ⟨h.1.symm, h.2.symm⟩)]
              simp only [Option.bind_some, if_true]
              exact g1
          · by_cases w : u.length = l.length
            · exact Or.inl w
            · right
              obtain ⟨q, k1, k2⟩ := getq (show u.length < l.length by omega)
              refine ⟨q, k1, bef_asym ?_⟩
              rw [e1, List.getElem?_append_right (Nat.le_refl _)] at k1
              exact e5 q (List.mem_of_getElem? k1)
          · intro i q a1 a2 a3
            rw [e1, List.getElem?_append_left a2] at a3
            exact e4 q (List.mem_of_getElem? a3)
        · have hul : u.length < l.length := by rw [e1]; simp
          have hqm : q ∈ l := by rw [e1]; simp
          have hat : l[u.length]? = some q := by rw [e1]; exact app_at
          rw [show (0 : Int32) = nI 0 from rfl, l28 K hX hjn hf hqn (by omega) u.length (by omega) (Or.inr ⟨q, hat, ?_⟩) K 0 (Nat.zero_le _) ?_ (by omega)]
          · simp only [Option.bind_some]
            rw [if_neg (nI_ge hul (by omega)), gd_t (inb_nI (show u.length < 24 by omega) (by decide)), nI_clamp (show u.length < 2 ^ 31 by omega), hf u.length q hat, samm K hX (hqn q hqm) hjn, if_pos e5]
            simp only [Option.bind_some, if_neg (show ¬ (1 : Int32) = nI 0 from by decide)]
            rw [e2, ] at e3
            obtain ⟨f', g1, g2⟩ := ih (j + 1) f (by omega) (by omega) (by rw [e3]; exact hf)
            rw [e3] at g1
            exact ⟨f', g1, g2⟩
          · unfold bef sam at *
            omega
          · intro i z a1 a2 a3
            rw [e1, List.getElem?_append_left a2] at a3
            exact e4 z (List.mem_of_getElem? a3)
      · rw [if_pos (Decidable.not_not.mp d)]
        have e3 : rowL X Y S (j + 1) = rowL X Y S j := by rw [rowL, nxt, if_neg d]
        rw [← e3]
        rw [← e3] at hf
        exact ih (j + 1) f (by omega) (by omega) hf
