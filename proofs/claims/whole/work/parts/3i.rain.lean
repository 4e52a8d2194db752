--@ needs 3h.tri
/-! triangles, rainbows -/
theorem tri35 (K : Nat) (hK : 4000 ≤ K) {n : Nat} {x y px py : Nat → Int32} {X Y : Nat → Int} (h : Pts n x y X Y) (h' : Pts n px py X Y) {p q : Int} (hp : -20 ≤ p ∧ p ≤ 20) (hq : -20 ≤ q ∧ q ≤ 20) {a b : Nat} (ha : a < n) (hb : b < n) : ∀ (fu c : Nat) (acc rm : Int32) (cor cors row : Nat → Int32), c ≤ n → n - c < fu → ∃ r rm' cor' cors' row', fX11_countTriangles_L35 K (iI p) (iI q) (nI a) (nI b) (nI n) x y fu acc (nI c) = some r ∧ fX12_triangles_L74 K (iI p) (iI q) (nI a) (nI b) (nI n) px py fu acc (nI c) rm cor cors row = some (r, rm', cor', cors', row') := by
  intro fu
  induction fu with
  | zero => intro c acc rm cor cors row h1 h2; omega
  | succ fu ih =>
    intro c acc rm cor cors row h1 h2
    have hn := h.1
    rw [fX11_countTriangles_L35, fX12_triangles_L74]
    by_cases hi : c = n
    · subst hi
      rw [if_pos (nI_le (Nat.le_refl c) (by omega)), if_pos (nI_le (Nat.le_refl c) (by omega))]
      exact ⟨_, _, _, _, _, rfl, rfl⟩
    · have hlt : c < n := by omega
      rw [if_neg (nI_ge hlt (by omega)), if_neg (nI_ge hlt (by omega)), triC K h ha hb hlt hp hq, three_bP K hn ha hb hlt]
      obtain ⟨rm1, cor1, cors1, row1, f⟩ := holds3 K hK h' ha hb hlt hp hq rm cor cors row
      simp only [sm_b1, f, sm_b5, jn_e, xl_e, nI_1]
      by_cases w : tHb (X a - p) (Y a - q) (X b - p) (Y b - q) (X c - p) (Y c - q) = true
      · rw [if_pos w, if_neg one_ne, if_neg one_ne]
        exact ih (c + 1) _ _ _ _ _ (by omega) (by omega)
      · rw [if_neg w, if_pos rfl, if_pos rfl, show acc + 0 = acc from Int32.add_zero acc]
        exact ih (c + 1) _ _ _ _ _ (by omega) (by omega)
theorem tri20 (K : Nat) (hK : 4000 ≤ K) {n : Nat} {x y px py : Nat → Int32} {X Y : Nat → Int} (h : Pts n x y X Y) (h' : Pts n px py X Y) {p q : Int} (hp : -20 ≤ p ∧ p ≤ 20) (hq : -20 ≤ q ∧ q ≤ 20) {a : Nat} (ha : a < n) : ∀ (fu b : Nat) (acc rm : Int32) (cor cors row : Nat → Int32), b ≤ n → n - b < fu → ∃ r rm' cor' cors' row', fX11_countTriangles_L20 K (iI p) (iI q) (nI a) (nI n) x y fu acc (nI b) = some r ∧ fX12_triangles_L59 K (iI p) (iI q) (nI a) (nI n) px py fu acc (nI b) rm cor cors row = some (r, rm', cor', cors', row') := by
  intro fu
  induction fu with
  | zero => intro c acc rm cor cors row h1 h2; omega
  | succ fu ih =>
    intro b acc rm cor cors row h1 h2
    have hn := h.1
    rw [fX11_countTriangles_L20, fX12_triangles_L59]
    by_cases hi : b = n
    · subst hi
      rw [if_pos (nI_le (Nat.le_refl b) (by omega)), if_pos (nI_le (Nat.le_refl b) (by omega))]
      exact ⟨_, _, _, _, _, rfl, rfl⟩
    · have hlt : b < n := by omega
      rw [if_neg (nI_ge hlt (by omega)), if_neg (nI_ge hlt (by omega))]
      obtain ⟨r, rm1, cor1, cors1, row1, f1, f2⟩ := tri35 K hK h h' hp hq ha hlt K (b + 1) acc rm cor cors row (by omega) (by omega)
      simp only [xl_e, nI_1, f1, f2, sm_b1, sm_b5]
      exact ih (b + 1) _ _ _ _ _ (by omega) (by omega)
theorem tri5 (K : Nat) (hK : 4000 ≤ K) {n : Nat} {x y px py : Nat → Int32} {X Y : Nat → Int} (h : Pts n x y X Y) (h' : Pts n px py X Y) {p q : Int} (hp : -20 ≤ p ∧ p ≤ 20) (hq : -20 ≤ q ∧ q ≤ 20) : ∀ (fu a : Nat) (acc rm : Int32) (cor cors row : Nat → Int32), a ≤ n → n - a < fu → ∃ r rm' cor' cors' row', fX11_countTriangles_L5 K (iI p) (iI q) (nI n) x y fu acc (nI a) = some r ∧ fX12_triangles_L44 K (iI p) (iI q) (nI n) px py fu acc (nI a) rm cor cors row = some (r, rm', cor', cors', row') := by
  intro fu
  induction fu with
  | zero => intro c acc rm cor cors row h1 h2; omega
  | succ fu ih =>
    intro a acc rm cor cors row h1 h2
    have hn := h.1
    rw [fX11_countTriangles_L5, fX12_triangles_L44]
    by_cases hi : a = n
    · subst hi
      rw [if_pos (nI_le (Nat.le_refl a) (by omega)), if_pos (nI_le (Nat.le_refl a) (by omega))]
      exact ⟨_, _, _, _, _, rfl, rfl⟩
    · have hlt : a < n := by omega
      rw [if_neg (nI_ge hlt (by omega)), if_neg (nI_ge hlt (by omega))]
      obtain ⟨r, rm1, cor1, cors1, row1, f1, f2⟩ := tri20 K hK h h' hp hq hlt K (a + 1) acc rm cor cors row (by omega) (by omega)
      simp only [xl_e, nI_1, f1, f2, sm_b1, sm_b5]
      exact ih (a + 1) _ _ _ _ _ (by omega) (by omega)
/-- the points of a colour from one on -/
def cl (col : Nat → Int32) (c : Int32) : Nat → Nat → List Nat
  | 0, _ => []
  | d + 1, k => if col k = c then k :: cl col c d (k + 1) else cl col c d (k + 1)
def lst (col : Nat → Int32) (n : Nat) (c : Int32) (k : Nat) : List Nat := cl col c (n - k) k
theorem lst_nil {col : Nat → Int32} {n : Nat} {c : Int32} {k : Nat} (h : n ≤ k) : lst col n c k = [] := by
  unfold lst; rw [show n - k = 0 by omega]; rfl
theorem lst_cons {col : Nat → Int32} {n : Nat} {c : Int32} {k : Nat} (h : k < n) : lst col n c k = if col k = c then k :: lst col n c (k + 1) else lst col n c (k + 1) := by
  unfold lst; rw [show n - k = (n - (k + 1)) + 1 by omega]; rfl
theorem lst_head {col : Nat → Int32} {n : Nat} {c : Int32} : ∀ (d k q : Nat) (t : List Nat), n - k = d → lst col n c k = q :: t → t = lst col n c (q + 1) ∧ k ≤ q ∧ q < n ∧ col q = c := by
  intro d
  induction d with
  | zero => intro k q t h1 h2; rw [lst_nil (by omega)] at h2; cases h2
  | succ d ih =>
    intro k q t h1 h2
    rw [lst_cons (by omega)] at h2
    by_cases e : col k = c
    · rw [if_pos e] at h2
      injection h2 with h3 h4
      subst h3
      exact ⟨h4.symm, Nat.le_refl _, by omega, e⟩
    · rw [if_neg e] at h2
      obtain ⟨a, b, c', d'⟩ := ih (k + 1) q t (by omega) h2
      exact ⟨a, by omega, c', d'⟩
theorem lst_len {col : Nat → Int32} {n : Nat} : ∀ (d k : Nat), n - k = d → (lst col n 0 k).length + (lst col n 1 k).length + (lst col n 2 k).length ≤ d := by
  intro d
  induction d with
  | zero => intro k h1; rw [lst_nil (by omega), lst_nil (by omega), lst_nil (by omega)]; simp
  | succ d ih =>
    intro k h1
    have := ih (k + 1) (by omega)
    rw [lst_cons (by omega), lst_cons (c := 1) (by omega), lst_cons (c := 2) (by omega)]
    by_cases e0 : col k = 0
    · rw [if_pos e0, if_neg (by rw [e0]; decide), if_neg (by rw [e0]; decide), List.length_cons]; omega
    · rw [if_neg e0]
      by_cases e1 : col k = 1
      · rw [if_pos e1, if_neg (by rw [e1]; decide), List.length_cons]; omega
      · rw [if_neg e1]
        split
        · rw [List.length_cons]; omega
        · omega
abbrev N3 : Type := Nat × Nat × Nat
def R3 (col : Nat → Int32) (n r g k : Nat) : List N3 := (lst col n 2 k).map (fun b => (r, g, b))
def R2 (col : Nat → Int32) (n r k : Nat) : List N3 := (lst col n 1 k).flatMap (fun g => R3 col n r g 0)
def R1 (col : Nat → Int32) (n k : Nat) : List N3 := (lst col n 0 k).flatMap (fun r => R2 col n r 0)
def rst (col : Nat → Int32) (n r g b : Nat) : List N3 := R3 col n r g (b + 1) ++ (R2 col n r (g + 1) ++ R1 col n (r + 1))
theorem len3 : ∀ a, a < 25 → ∀ b, b < 25 → ∀ c, c < 25 → a + b + c ≤ 24 → a * (b * c) ≤ 512 := by decide +kernel
theorem R2_len (col : Nat → Int32) (n r : Nat) : ∀ l : List Nat, (l.flatMap (fun g => R3 col n r g 0)).length = l.length * (lst col n 2 0).length := by
  intro l
  induction l with
  | nil => simp
  | cons a l ih => rw [List.flatMap_cons, List.length_append, ih, R3, List.length_map, List.length_cons, Nat.succ_mul]; omega
theorem R1_len' (col : Nat → Int32) (n : Nat) : ∀ l : List Nat, (l.flatMap (fun r => R2 col n r 0)).length = l.length * ((lst col n 1 0).length * (lst col n 2 0).length) := by
  intro l
  induction l with
  | nil => simp
  | cons a l ih => rw [List.flatMap_cons, List.length_append, ih, R2, R2_len, List.length_cons, Nat.succ_mul]; omega
theorem R1_len (col : Nat → Int32) {n : Nat} (hn : n ≤ 24) : (R1 col n 0).length ≤ 512 := by
  unfold R1
  rw [R1_len']
  have := lst_len (col := col) (n := n) n 0 (by omega)
  generalize (lst col n 0 0).length = a at *
  generalize (lst col n 1 0).length = b at *
  generalize (lst col n 2 0).length = c at *
  exact len3 a (by omega) b (by omega) c (by omega) (by omega)
/-- the class's way through them -/
theorem folL (K : Nat) {n : Nat} (hn : n ≤ 24) (col : Nat → Int32) (c : Int32) : ∀ (fu k : Nat), k ≤ n → n - k < fu → fX7_following_L4 K c (nI n) col fu (nI k) = some (nI ((lst col n c k).headD n)) := by
  intro fu
  induction fu with
  | zero => intro k h1 h2; omega
  | succ fu ih =>
    intro k h1 h2
    rw [fX7_following_L4]
    by_cases hi : k = n
    · subst hi
      rw [if_pos (nI_le (Nat.le_refl k) (by omega)), lst_nil (Nat.le_refl _)]
      rfl
    · have hlt : k < n := by omega
      rw [if_neg (nI_ge hlt (by omega))]
      simp only [xl, gd_t (inb_nI (show k < 24 by omega) (by decide)), nI_clamp (show k < 2 ^ 31 by omega), nI_1]
      rw [lst_cons hlt]
      by_cases e : col k = c
      · rw [if_pos e, if_pos e]; rfl
      · rw [if_neg e, if_neg e]
        exact ih (k + 1) (by omega) (by omega)
theorem folC (K : Nat) (hK : 4000 ≤ K) {n : Nat} (hn : n ≤ 24) (col : Nat → Int32) (c : Int32) {k : Nat} (hk : k < n) : fX7_following K (nI n) col c (nI k) = some (nI ((lst col n c (k + 1)).headD n)) := by
  unfold fX7_following
  rw [xl_e, nI_1, folL K hn col c K (k + 1) (by omega) (by omega)]
  rfl
theorem folC0 (K : Nat) (hK : 4000 ≤ K) {n : Nat} (hn : n ≤ 24) (col : Nat → Int32) (c : Int32) : fX7_following K (nI n) col c (-1) = some (nI ((lst col n c 0).headD n)) := by
  unfold fX7_following
  rw [xl_e, show (-1 : Int32) + 1 = nI 0 from by decide, folL K hn col c K 0 (by omega) (by omega)]
  rfl
def hd0 (col : Nat → Int32) (n : Nat) (c : Int32) (k : Nat) : Nat := (lst col n c k).headD n
theorem hd_cases (col : Nat → Int32) (n : Nat) (c : Int32) (k : Nat) : (lst col n c k = [] ∧ (lst col n c k).headD n = n) ∨ (∃ q, q < n ∧ (lst col n c k).headD n = q ∧ lst col n c k = q :: lst col n c (q + 1)) := by
  cases e : lst col n c k with
  | nil => exact Or.inl ⟨rfl, rfl⟩
  | cons q t =>
    obtain ⟨a, b, c', d⟩ := lst_head (n - k) k q t rfl e
    exact Or.inr ⟨q, c', rfl, by rw [a]⟩
/-- what is chosen -/
def cho (ch : Nat → Int32) (r g b : Nat) : Prop := ch 0 = nI r ∧ ch 1 = nI g ∧ ch 2 = nI b
def pend (col : Nat → Int32) (n : Nat) (more : Int32) (ch : Nat → Int32) (L : List N3) : Prop := (more = 0 ∧ L = []) ∨ (more = 1 ∧ ∃ r g b, r < n ∧ g < n ∧ b < n ∧ cho ch r g b ∧ L = (r, g, b) :: rst col n r g b ∧ lst col n 1 0 ≠ [] ∧ lst col n 2 0 ≠ [])
theorem nI_ltn2 {a b : Nat} (ha : a < 1000) (hb : b < 1000) (h : a < b) : nI a < nI b := (nI_ltn ha hb).mpr h
theorem nlt_self (a : Int32) : ¬ a < a := by rw [Int32.lt_iff_toInt_lt]; omega
theorem firstC (K : Nat) (hK : 4000 ≤ K) {n : Nat} (hn : n ≤ 24) (col ch : Nat → Int32) : ∃ m ch', fX7_chooseFirst K ch (nI n) col = some (m, ch') ∧ pend col n m ch' (R1 col n 0) := by
  have e3 : ∀ k : Nat, k < 3 → ¬ (3 : Int32) ≤ nI k := fun k hk => (nI_ge hk (by decide) : ¬ nI 3 ≤ nI k)
  obtain ⟨k, rfl⟩ : ∃ k, K = k + 4 := ⟨K - 4, by omega⟩
  unfold fX7_chooseFirst
  rw [show (0 : Int32) = nI 0 from rfl, fX7_chooseFirst_L2, if_neg (e3 0 (by omega)), show nI 0 = (0 : Int32) from rfl, folC0 (k + 4) hK hn]
  simp only [sm_b1, xl_e, gd_t (show inb (0 : Int32) 3 = true from rfl), show (0 : Int32).toNatClampNeg = 0 from rfl, upd_at]
  rcases hd_cases col n 0 0 with ⟨l0, h0⟩ | ⟨r, hr, h0, l0⟩
  · rw [h0, if_neg (nlt_self _)]
    refine ⟨0, _, rfl, Or.inl ⟨rfl, ?_⟩⟩
    unfold R1; rw [l0]; rfl
  · rw [h0, if_pos (nI_ltn2 (by omega) (by omega) hr), show (0 : Int32) + 1 = nI 1 from rfl, fX7_chooseFirst_L2, if_neg (e3 1 (by omega)), show nI 1 = (1 : Int32) from rfl, folC0 (k + 4) hK hn]
    simp only [sm_b1, xl_e, gd_t (show inb (1 : Int32) 3 = true from rfl), show (1 : Int32).toNatClampNeg = 1 from rfl, upd_at]
    rcases hd_cases col n 1 0 with ⟨l1, h1⟩ | ⟨g, hg, h1, l1⟩
    · rw [h1, if_neg (nlt_self _)]
      refine ⟨0, _, rfl, Or.inl ⟨rfl, ?_⟩⟩
      have := R1_len' col n (lst col n 0 0)
      rw [l1] at this
      exact List.eq_nil_of_length_eq_zero (by unfold R1; rw [this]; simp)
    · rw [h1, if_pos (nI_ltn2 (by omega) (by omega) hg), show (1 : Int32) + 1 = nI 2 from rfl, fX7_chooseFirst_L2, if_neg (e3 2 (by omega)), show nI 2 = (2 : Int32) from rfl, folC0 (k + 4) hK hn]
      simp only [sm_b1, xl_e, gd_t (show inb (2 : Int32) 3 = true from rfl), show (2 : Int32).toNatClampNeg = 2 from rfl, upd_at]
      rcases hd_cases col n 2 0 with ⟨l2, h2⟩ | ⟨b, hb, h2, l2⟩
      · rw [h2, if_neg (nlt_self _)]
        refine ⟨0, _, rfl, Or.inl ⟨rfl, ?_⟩⟩
        have := R1_len' col n (lst col n 0 0)
        rw [l2] at this
        exact List.eq_nil_of_length_eq_zero (by unfold R1; rw [this]; simp)
      · rw [h2, if_pos (nI_ltn2 (by omega) (by omega) hb), show (2 : Int32) + 1 = nI 3 from rfl, fX7_chooseFirst_L2, if_pos (show (3 : Int32) ≤ nI 3 by decide)]
        refine ⟨1, _, rfl, Or.inr ⟨rfl, r, g, b, hr, hg, hb, ⟨?_, ?_, ?_⟩, ?_, ?_, ?_⟩⟩
        · rw [upd_ne (by omega), upd_ne (by omega), upd_at]
        · rw [upd_ne (by omega), upd_at]
        · rw [upd_at]
        · unfold rst
          show (lst col n 0 0).flatMap (fun r => R2 col n r 0) = _
          rw [l0, List.flatMap_cons]
          show (lst col n 1 0).flatMap (fun g => R3 col n r g 0) ++ _ = _
          rw [l1, List.flatMap_cons]
          show ((lst col n 2 0).map (fun b => (r, g, b)) ++ _) ++ _ = _
          rw [l2, List.map_cons, List.cons_append, List.cons_append, List.append_assoc]
          rfl
        · rw [l1]; simp
        · rw [l2]; simp
theorem nextC (K : Nat) (hK : 4000 ≤ K) {n : Nat} (hn : n ≤ 24) (col : Nat → Int32) {ch : Nat → Int32} {r g b : Nat} (hr : r < n) (hg : g < n) (hb : b < n) (hc : cho ch r g b) (n1 : lst col n 1 0 ≠ []) (n2 : lst col n 2 0 ≠ []) : ∃ m ch', fX7_chooseNext K ch (nI n) col = some (m, ch') ∧ pend col n m ch' (rst col n r g b) := by
  obtain ⟨c0, c1, c2⟩ := hc
  obtain ⟨k, rfl⟩ : ∃ k, K = k + 4 := ⟨K - 4, by omega⟩
  have ge_self : nI n ≤ nI n := nI_le (Nat.le_refl n) (by omega)
  rcases hd_cases col n 1 0 with ⟨l1, -⟩ | ⟨g0, hg0, h1, l1⟩
  · exact absurd l1 n1
  rcases hd_cases col n 2 0 with ⟨l2, -⟩ | ⟨b0, hb0, h2, l2⟩
  · exact absurd l2 n2
  unfold fX7_chooseNext
  rw [fX7_chooseNext_L2, if_neg (show ¬ (2 : Int32) < 0 by decide), gd_t (show inb (2 : Int32) 3 = true from rfl), show (2 : Int32).toNatClampNeg = 2 from rfl, c2, folC (k + 4) hK hn _ _ hb]
  simp only [sm_b1, xl_e, gd_t (show inb (2 : Int32) 3 = true from rfl), upd_at]
  rcases hd_cases col n 2 (b + 1) with ⟨q2, j2⟩ | ⟨b', hb', j2, q2⟩
  · rw [j2, if_pos ge_self, folC0 (k + 4) hK hn]
    simp only [sm_b1, xl_e]
    rw [show (2 : Int32) + -1 = 1 from by decide, fX7_chooseNext_L2, if_neg (show ¬ (1 : Int32) < 0 by decide), gd_t (show inb (1 : Int32) 3 = true from rfl), show (1 : Int32).toNatClampNeg = 1 from rfl, upd_ne (by omega), upd_ne (by omega), c1, folC (k + 4) hK hn _ _ hg]
    simp only [sm_b1, xl_e, gd_t (show inb (1 : Int32) 3 = true from rfl), upd_at]
    have e3 : R3 col n r g (b + 1) = [] := by unfold R3; rw [q2]; rfl
    rcases hd_cases col n 1 (g + 1) with ⟨q1, j1⟩ | ⟨g', hg', j1, q1⟩
    · rw [j1, if_pos ge_self, folC0 (k + 4) hK hn]
      simp only [sm_b1, xl_e]
      rw [show (1 : Int32) + -1 = 0 from by decide, fX7_chooseNext_L2, if_neg (show ¬ (0 : Int32) < 0 by decide), gd_t (show inb (0 : Int32) 3 = true from rfl), show (0 : Int32).toNatClampNeg = 0 from rfl, upd_ne (by omega), upd_ne (by omega), upd_ne (by omega), upd_ne (by omega), c0, folC (k + 4) hK hn _ _ hr]
      simp only [sm_b1, xl_e, gd_t (show inb (0 : Int32) 3 = true from rfl), upd_at]
      have e2 : R2 col n r (g + 1) = [] := by unfold R2; rw [q1]; rfl
      rcases hd_cases col n 0 (r + 1) with ⟨q0, j0⟩ | ⟨r', hr', j0, q0⟩
      · rw [j0, if_pos ge_self, folC0 (k + 4) hK hn]
        simp only [sm_b1, xl_e]
        rw [show (0 : Int32) + -1 = -1 from by decide, fX7_chooseNext_L2, if_pos (show (-1 : Int32) < 0 by decide)]
        refine ⟨0, _, rfl, Or.inl ⟨rfl, ?_⟩⟩
        unfold rst
        rw [e3, e2]
        unfold R1
        rw [q0]; rfl
      · rw [j0, if_neg (nI_ge hr' (by omega))]
        refine ⟨1, _, rfl, Or.inr ⟨rfl, r', g0, b0, hr', hg0, hb0, ⟨?_, ?_, ?_⟩, ?_, n1, n2⟩⟩
        · rw [upd_at]
        · rw [upd_ne (by omega), upd_at, h1]
        · rw [upd_ne (by omega), upd_ne (by omega), upd_ne (by omega), upd_at, h2]
        · unfold rst
          rw [e3, e2, List.nil_append, List.nil_append]
          show (lst col n 0 (r + 1)).flatMap (fun r => R2 col n r 0) = _
          rw [q0, List.flatMap_cons]
          show (lst col n 1 0).flatMap (fun g => R3 col n r' g 0) ++ _ = _
          rw [l1, List.flatMap_cons]
          show ((lst col n 2 0).map (fun b => (r', g0, b)) ++ _) ++ _ = _
          rw [l2, List.map_cons, List.cons_append, List.cons_append, List.append_assoc]
          rfl
    · rw [j1, if_neg (nI_ge hg' (by omega))]
      refine ⟨1, _, rfl, Or.inr ⟨rfl, r, g', b0, hr, hg', hb0, ⟨?_, ?_, ?_⟩, ?_, n1, n2⟩⟩
      · rw [upd_ne (by omega), upd_ne (by omega), upd_ne (by omega), c0]
      · rw [upd_at]
      · rw [upd_ne (by omega), upd_at, h2]
      · unfold rst
        rw [e3, List.nil_append]
        show (lst col n 1 (g + 1)).flatMap (fun g => R3 col n r g 0) ++ _ = _
        rw [q1, List.flatMap_cons]
        show ((lst col n 2 0).map (fun b => (r, g', b)) ++ _) ++ _ = _
        rw [l2, List.map_cons, List.cons_append, List.cons_append, List.append_assoc]
        rfl
  · rw [j2, if_neg (nI_ge hb' (by omega))]
    refine ⟨1, _, rfl, Or.inr ⟨rfl, r, g, b', hr, hg, hb', ⟨?_, ?_, ?_⟩, ?_, n1, n2⟩⟩
    · rw [upd_ne (by omega), c0]
    · rw [upd_ne (by omega), c1]
    · rw [upd_at]
    · unfold rst
      show (lst col n 2 (b + 1)).map (fun b => (r, g, b)) ++ _ = _
      rw [q2, List.map_cons, List.cons_append]
      rfl
def hold3 (X Y : Nat → Int) (p q : Int) (t : N3) : Bool := tHb (X t.1 - p) (Y t.1 - q) (X t.2.1 - p) (Y t.2.1 - q) (X t.2.2 - p) (Y t.2.2 - q)
theorem chH (K : Nat) {n : Nat} {x y : Nat → Int32} {X Y : Nat → Int} (h : Pts n x y X Y) {ch : Nat → Int32} {r g b : Nat} (hr : r < n) (hg : g < n) (hb : b < n) (hc : cho ch r g b) {p q : Int} (hp : -20 ≤ p ∧ p ≤ 20) (hq : -20 ≤ q ∧ q ≤ 20) : fX7_chosenHold K ch x y (iI p) (iI q) = some (if hold3 X Y p q (r, g, b) = true then 1 else 0) := by
  obtain ⟨c0, c1, c2⟩ := hc
  unfold fX7_chosenHold
  rw [show (0 : Int32).toNatClampNeg = 0 from rfl, show (1 : Int32).toNatClampNeg = 1 from rfl, show (2 : Int32).toNatClampNeg = 2 from rfl, c0, c1, c2, triC K h hr hg hb hp hq, sm_b1, gd_t z01_if]
  rfl
theorem cntC (K : Nat) (hK : 4000 ≤ K) {n : Nat} {x y : Nat → Int32} {X Y : Nat → Int} (h : Pts n x y X Y) (col : Nat → Int32) {p q : Int} (hp : -20 ≤ p ∧ p ≤ 20) (hq : -20 ≤ q ∧ q ≤ 20) : ∀ (fu i acc : Nat) (m : Int32) (ch : Nat → Int32) (L : List N3), i + L.length ≤ 512 → L.length < fu → pend col n m ch L → ∃ ch', fX7_countHolding_L13 K (iI p) (iI q) (nI n) x y col fu (nI acc) m (nI i) ch = some (nI (acc + (L.filter (hold3 X Y p q)).length), ch') := by
  intro fu
  induction fu with
  | zero => intro i acc m ch L h1 h2; omega
  | succ fu ih =>
    intro i acc m ch L h1 h2 hpd
    rw [fX7_countHolding_L13]
    by_cases hi : i = 512
    · subst hi
      have : L = [] := List.eq_nil_of_length_eq_zero (by omega)
      subst this
      rw [if_pos (show (512 : Int32) ≤ nI 512 by decide)]
      exact ⟨ch, rfl⟩
    · rw [if_neg (show ¬ (512 : Int32) ≤ nI i from (nI_ge (show i < 512 by omega) (by decide) : ¬ nI 512 ≤ nI i))]
      rcases hpd with ⟨rfl, rfl⟩ | ⟨rfl, r, g, b, hr, hg, hb, hc, rfl, n1, n2⟩
      · rw [if_pos rfl]
        exact ⟨ch, rfl⟩
      · rw [if_neg one_ne, chH K h hr hg hb hc hp hq]
        obtain ⟨m', ch', f1, f2⟩ := nextC K hK h.1 col hr hg hb hc n1 n2
        simp only [sm_b1, jn_e, xl_e, nI_1, f1, b2, Option.bind_some]
        rw [List.length_cons] at h1 h2
        rw [List.filter_cons]
        by_cases w : hold3 X Y p q (r, g, b) = true
        · rw [if_pos w, if_neg one_ne, if_pos w, List.length_cons]
          have := ih (i + 1) (acc + 1) m' ch' _ (by omega) (by omega) f2
          rw [show acc + ((List.filter (hold3 X Y p q) (rst col n r g b)).length + 1) = acc + 1 + (List.filter (hold3 X Y p q) (rst col n r g b)).length by omega]
          exact this
        · rw [if_neg w, if_pos rfl, if_neg w]
          exact ih (i + 1) acc m' ch' _ (by omega) (by omega) f2
theorem countC (K : Nat) (hK : 4000 ≤ K) {n : Nat} {x y : Nat → Int32} {X Y : Nat → Int} (h : Pts n x y X Y) (col ch : Nat → Int32) {p q : Int} (hp : -20 ≤ p ∧ p ≤ 20) (hq : -20 ≤ q ∧ q ≤ 20) : ∃ ch', fX7_countHolding K ch (nI n) x y col (iI p) (iI q) = some (nI ((R1 col n 0).filter (hold3 X Y p q)).length, ch') := by
  obtain ⟨m, ch1, f1, f2⟩ := firstC K hK h.1 col ch
  have hl := R1_len col h.1
  obtain ⟨ch2, f3⟩ := cntC K hK h col hp hq K 0 0 m ch1 _ (by omega) (by omega) f2
  unfold fX7_countHolding
  rw [f1]
  simp only [b2, Option.bind_some]
  rw [show (0 : Int32) = nI 0 from rfl, f3]
  exact ⟨ch2, by rw [Nat.zero_add]; rfl⟩
theorem nI_eqb {a b : Nat} (ha : a < 2147483648) (hb : b < 2147483648) : nI a = nI b ↔ a = b := by
  rw [nI_iI, nI_iI, iI_eq ⟨by omega, by omega⟩ ⟨by omega, by omega⟩]; omega
theorem seekL (K : Nat) (hK : 4000 ≤ K) {n : Nat} {x y : Nat → Int32} {X Y : Nat → Int} (h : Pts n x y X Y) (col : Nat → Int32) {p q : Int} (hp : -20 ≤ p ∧ p ≤ 20) (hq : -20 ≤ q ∧ q ≤ 20) {k : Nat} (hk : k < 2147483648) : ∀ (fu i f : Nat) (m : Int32) (ch : Nat → Int32) (L : List N3), i + L.length ≤ 512 → f ≤ i → L.length < fu → f ≤ k → pend col n m ch L → (∃ ch' t, fX7_seekHolding_L12 K (nI k) (nI n) (iI p) (iI q) x y col fu (nI f) m (nI i) ch = some (.inl ch') ∧ (L.filter (hold3 X Y p q))[k - f]? = some t ∧ cho ch' t.1 t.2.1 t.2.2) ∨ (∃ ch', fX7_seekHolding_L12 K (nI k) (nI n) (iI p) (iI q) x y col fu (nI f) m (nI i) ch = some (.inr ch') ∧ (L.filter (hold3 X Y p q))[k - f]? = none) := by
  intro fu
  induction fu with
  | zero => intro i f m ch L h1 h2 h3; omega
  | succ fu ih =>
    intro i f m ch L h1 hf h2 h3 hpd
    rw [fX7_seekHolding_L12]
    by_cases hi : i = 512
    · subst hi
      have : L = [] := List.eq_nil_of_length_eq_zero (by omega)
      subst this
      rw [if_pos (show (512 : Int32) ≤ nI 512 by decide)]
      exact Or.inr ⟨ch, rfl, rfl⟩
    · rw [if_neg (show ¬ (512 : Int32) ≤ nI i from (nI_ge (show i < 512 by omega) (by decide) : ¬ nI 512 ≤ nI i))]
      rcases hpd with ⟨rfl, rfl⟩ | ⟨rfl, r, g, b, hr, hg, hb, hc, rfl, n1, n2⟩
      · rw [if_pos rfl]
        exact Or.inr ⟨ch, rfl, rfl⟩
      · rw [if_neg one_ne, chH K h hr hg hb hc hp hq]
        obtain ⟨m', ch', f1, f2⟩ := nextC K hK h.1 col hr hg hb hc n1 n2
        simp only [sm_b1, jn_e, xl_e, nI_1, f1, b2, Option.bind_some]
        rw [List.length_cons] at h1 h2
        rw [List.filter_cons]
        by_cases w : hold3 X Y p q (r, g, b) = true
        · rw [if_pos w, if_neg one_ne, if_pos w]
          by_cases e : f = k
          · rw [if_pos ((nI_eqb (by omega) hk).mpr e)]
            refine Or.inl ⟨ch, (r, g, b), rfl, ?_, hc⟩
            rw [e, Nat.sub_self]; rfl
          · rw [if_neg (fun s => e ((nI_eqb (by omega) hk).mp s))]
            have := ih (i + 1) (f + 1) m' ch' _ (by omega) (by omega) (by omega) (by omega) f2
            rw [show k - f = (k - (f + 1)) + 1 by omega, List.getElem?_cons_succ]
            exact this
        · rw [if_neg w, if_pos rfl, if_neg w]
          exact ih (i + 1) f m' ch' _ (by omega) (by omega) (by omega) h3 f2
/-- the model's list of them -/
def RA (at' : Nat → Int32) (F : List N3) : Prop := ∀ (i : Nat) (t : N3), F[i]? = some t → at' (3 * i) = nI t.1 ∧ at' (3 * i + 1) = nI t.2.1 ∧ at' (3 * i + 2) = nI t.2.2
theorem RA_snoc {at' : Nat → Int32} {F : List N3} (h : RA at' F) (r g b : Nat) : RA (upd (upd (upd at' (3 * F.length) (nI r)) (3 * F.length + 1) (nI g)) (3 * F.length + 2) (nI b)) (F ++ [(r, g, b)]) := by
  intro i t ht
  rcases Nat.lt_or_ge i F.length with q | q
  · rw [List.getElem?_append_left q] at ht
    obtain ⟨a, b', c⟩ := h i t ht
    refine ⟨?_, ?_, ?_⟩
    · rw [upd_ne (by omega), upd_ne (by omega), upd_ne (by omega)]; exact a
    · rw [upd_ne (by omega), upd_ne (by omega), upd_ne (by omega)]; exact b'
    · rw [upd_ne (by omega), upd_ne (by omega), upd_ne (by omega)]; exact c
  · rw [List.getElem?_append_right q] at ht
    have : i - F.length = 0 := by
      rcases Nat.eq_zero_or_pos (i - F.length) with e | e
      · exact e
      · rw [List.getElem?_eq_none (by simp; omega)] at ht; cases ht
    have e : i = F.length := by omega
    rw [this] at ht
    injection ht with ht
    subst e
    rw [← ht]
    refine ⟨?_, ?_, ?_⟩
    · rw [upd_ne (by omega), upd_ne (by omega), upd_at]
    · rw [upd_ne (by omega), upd_at]
    · rw [upd_at]
theorem isRb (K : Nat) {n : Nat} (hn : n ≤ 24) {col mcol : Nat → Int32} (hcol : ∀ i, i < n → mcol i = col i) {r g b : Nat} (hr : r < n) (hg : g < n) (hb : b < n) : fX12_isRainbow K (nI n) mcol (nI r) (nI g) (nI b) = some (if col r = 0 ∧ col g = 1 ∧ col b = 2 then 1 else 0) := by
  have hh : ∀ j, j < n → fX12_isPoint K (nI n) (nI j) = some 1 := by
    intro j hj
    rcases has_c K n hn (nI j) with ⟨-, -, c⟩ | ⟨c, -, -⟩
    · exact c
    · exact absurd ⟨j, hj, rfl⟩ c
  unfold fX12_isRainbow
  rw [hh r hr, hh g hg, hh b hb]
  simp only [sm_b1, if_neg one_ne, gd_t (inb_nI (show r < 24 by omega) (by decide)), nI_clamp (show r < 2 ^ 31 by omega), gd_t (inb_nI (show g < 24 by omega) (by decide)), nI_clamp (show g < 2 ^ 31 by omega), gd_t (inb_nI (show b < 24 by omega) (by decide)), nI_clamp (show b < 2 ^ 31 by omega), hcol r hr, hcol g hg, hcol b hb]
  by_cases c0 : col r = 0
  · rw [if_pos c0]
    by_cases c1 : col g = 1
    · rw [if_pos c1]
      by_cases c2 : col b = 2
      · rw [if_pos c2, if_pos ⟨c0, c1, c2⟩]
      · rw [if_neg c2, if_neg (fun q => c2 q.2.2)]
    · rw [if_neg c1, if_neg (fun q => c1 q.2.1)]
  · rw [if_neg c0, if_neg (fun q => c0 q.1)]
def HH (X Y : Nat → Int) (mh : Int32) (p q : Int) (t : N3) : Bool := decide (mh = 0) || hold3 X Y p q t
theorem sm_b6 {α₁ α₂ α₃ α₄ α₅ α₆ β : Type} (a : α₁) (b : α₂) (c : α₃) (d : α₄) (e : α₅) (f : α₆) (k : α₁ → α₂ → α₃ → α₄ → α₅ → α₆ → Option β) : b6 (some (a, b, c, d, e, f)) k = k a b c d e f := Eq.trans (rfl : b6 (some (a, b, c, d, e, f)) k = k a b c d e f) rfl
theorem mul3_nI (a : Nat) : (3 : Int32) * nI a = nI (3 * a) := by
  rw [nI_iI, nI_iI, show (3 : Int32) = iI 3 from rfl, iI_mul]; congr 1
theorem mr32 (K : Nat) (hK : 4000 ≤ K) {n : Nat} {px py : Nat → Int32} {X Y : Nat → Int} (h : Pts n px py X Y) {col mcol : Nat → Int32} (hcol : ∀ i, i < n → mcol i = col i) (mh : Int32) {p q : Int} (hp : -20 ≤ p ∧ p ≤ 20) (hq : -20 ≤ q ∧ q ≤ 20) {r g : Nat} (hr : r < n) (hg : g < n) : ∀ (fu k : Nat) (rm : Int32) (cor cors row at' : Nat → Int32) (F : List N3), k ≤ n → n - k < fu → RA at' F → (col r = 0 → col g = 1 → F.length + ((R3 col n r g k).filter (HH X Y mh p q)).length ≤ 512) → ∃ rm' cor' cors' row' at'', fX12_laysRainbows_L32 K mh (iI p) (iI q) (nI r) (nI g) (nI n) px py mcol fu (nI k) rm (nI F.length) cor cors row at' = some (rm', nI (F ++ if col r = 0 ∧ col g = 1 then (R3 col n r g k).filter (HH X Y mh p q) else []).length, cor', cors', row', at'') ∧ RA at'' (F ++ if col r = 0 ∧ col g = 1 then (R3 col n r g k).filter (HH X Y mh p q) else []) := by
  intro fu
  induction fu with
  | zero => intro k rm cor cors row at' F h1 h2; omega
  | succ fu ih =>
    intro k rm cor cors row at' F h1 h2 hF hl
    have hn := h.1
    rw [fX12_laysRainbows_L32]
    by_cases hi : k = n
    · subst hi
      rw [if_pos (nI_le (Nat.le_refl k) (by omega))]
      have e : (F ++ if col r = 0 ∧ col g = 1 then (R3 col k r g k).filter (HH X Y mh p q) else []) = F := by
        unfold R3
        rw [lst_nil (Nat.le_refl _)]
        simp
      rw [e]
      exact ⟨_, _, _, _, _, rfl, hF⟩
    · have hlt : k < n := by omega
      rw [if_neg (nI_ge hlt (by omega)), isRb K hn hcol hr hg hlt]
      simp only [sm_b1, jn_e, xl_e, nI_1]
      by_cases c : col r = 0 ∧ col g = 1
      · by_cases c2 : col k = 2
        · have e3 : R3 col n r g k = (r, g, k) :: R3 col n r g (k + 1) := by
            unfold R3
            rw [lst_cons hlt, if_pos c2, List.map_cons]
          rw [show (if col r = 0 ∧ col g = 1 ∧ col k = 2 then (1 : Int32) else 0) = 1 from if_pos ⟨c.1, c.2, c2⟩, if_neg one_ne]
          have hl' := hl c.1 c.2
          rw [e3, List.filter_cons] at hl'
          rw [e3, List.filter_cons]
          rw [if_pos c]
          have take : HH X Y mh p q (r, g, k) = true → ∀ (rm0 : Int32) (cor0 cors0 row0 : Nat → Int32), ∃ rm' cor' cors' row' at'', gd (inb ((3 : Int32) * nI F.length) 1536) (gd (inb (((3 : Int32) * nI F.length) + 1) 1536) (gd (inb (((3 : Int32) * nI F.length) + 2) 1536) (fX12_laysRainbows_L32 K mh (iI p) (iI q) (nI r) (nI g) (nI n) px py mcol fu (nI (k + 1)) rm0 (nI (F.length + 1)) cor0 cors0 row0 (upd (upd (upd at' ((3 : Int32) * nI F.length).toNatClampNeg (nI r)) (((3 : Int32) * nI F.length) + 1).toNatClampNeg (nI g)) (((3 : Int32) * nI F.length) + 2).toNatClampNeg (nI k))))) = some (rm', nI (F ++ (r, g, k) :: (R3 col n r g (k + 1)).filter (HH X Y mh p q)).length, cor', cors', row', at'') ∧ RA at'' (F ++ (r, g, k) :: (R3 col n r g (k + 1)).filter (HH X Y mh p q)) := by
            intro w rm0 cor0 cors0 row0
            rw [if_pos w, List.length_cons] at hl'
            have q3 : ((3 : Int32) * nI F.length) + 2 = nI (3 * F.length + 2) := by rw [mul3_nI, show (2 : Int32) = nI 2 from rfl, add_nI]
            have q2 : ((3 : Int32) * nI F.length) + 1 = nI (3 * F.length + 1) := by rw [mul3_nI, nI_1]
            rw [q2, q3, mul3_nI, gd_t (inb_nI (by omega) (by decide)), gd_t (inb_nI (by omega) (by decide)), gd_t (inb_nI (by omega) (by decide)), nI_clamp (by omega), nI_clamp (by omega), nI_clamp (by omega)]
            have := ih (k + 1) rm0 cor0 cors0 row0 _ (F ++ [(r, g, k)]) (by omega) (by omega) (RA_snoc hF r g k) (fun _ _ => by rw [List.length_append]; simp only [List.length_cons, List.length_nil]; omega)
            rw [if_pos c, List.append_assoc, List.cons_append, List.nil_append, List.length_append (as := F) (bs := [(r, g, k)])] at this
            exact this
          by_cases m0 : mh = 0
          · have w : HH X Y mh p q (r, g, k) = true := by unfold HH; simp [m0]
            rw [if_pos m0, if_pos w]
            exact take w rm cor cors row
          · rw [if_neg m0, three_bP K hn hr hg hlt]
            obtain ⟨rm1, cor1, cors1, row1, f⟩ := holds3 K hK h hr hg hlt hp hq rm cor cors row
            simp only [sm_b1, f, sm_b5]
            by_cases w : tHb (X r - p) (Y r - q) (X g - p) (Y g - q) (X k - p) (Y k - q) = true
            · have w' : HH X Y mh p q (r, g, k) = true := by unfold HH hold3; rw [w]; simp
              rw [if_pos w, if_neg one_ne, if_pos w']
              exact take w' rm1 cor1 cors1 row1
            · have w' : ¬ HH X Y mh p q (r, g, k) = true := by unfold HH hold3; simp [m0, w]
              rw [if_neg w'] at hl'
              rw [if_neg w, if_pos rfl, if_neg w']
              have := ih (k + 1) rm1 cor1 cors1 row1 at' F (by omega) (by omega) hF (fun _ _ => hl')
              rw [if_pos c] at this
              exact this
        · have e3 : R3 col n r g k = R3 col n r g (k + 1) := by
            unfold R3
            rw [lst_cons hlt, if_neg c2]
          rw [show (if col r = 0 ∧ col g = 1 ∧ col k = 2 then (1 : Int32) else 0) = 0 from if_neg (fun q => c2 q.2.2), if_pos rfl, e3]
          exact ih (k + 1) rm cor cors row at' F (by omega) (by omega) hF (by rw [← e3]; exact hl)
      · rw [show (if col r = 0 ∧ col g = 1 ∧ col k = 2 then (1 : Int32) else 0) = 0 from if_neg (fun q => c ⟨q.1, q.2.1⟩), if_pos rfl]
        have := ih (k + 1) rm cor cors row at' F (by omega) (by omega) hF (fun a b => absurd ⟨a, b⟩ c)
        rw [if_neg c] at this ⊢
        exact this
theorem fil_app {α : Type} (f : α → Bool) (a b : List α) : (a ++ b).filter f = a.filter f ++ b.filter f := List.filter_append a b
theorem mr20 (K : Nat) (hK : 4000 ≤ K) {n : Nat} {px py : Nat → Int32} {X Y : Nat → Int} (h : Pts n px py X Y) {col mcol : Nat → Int32} (hcol : ∀ i, i < n → mcol i = col i) (mh : Int32) {p q : Int} (hp : -20 ≤ p ∧ p ≤ 20) (hq : -20 ≤ q ∧ q ≤ 20) {r : Nat} (hr : r < n) : ∀ (fu k : Nat) (rm : Int32) (cor cors row at' : Nat → Int32) (F : List N3), k ≤ n → n - k < fu → RA at' F → (col r = 0 → F.length + ((R2 col n r k).filter (HH X Y mh p q)).length ≤ 512) → ∃ rm' cor' cors' row' at'', fX12_laysRainbows_L20 K mh (iI p) (iI q) (nI r) (nI n) px py mcol fu (nI k) rm (nI F.length) cor cors row at' = some (rm', nI (F ++ if col r = 0 then (R2 col n r k).filter (HH X Y mh p q) else []).length, cor', cors', row', at'') ∧ RA at'' (F ++ if col r = 0 then (R2 col n r k).filter (HH X Y mh p q) else []) := by
  intro fu
  induction fu with
  | zero => intro k rm cor cors row at' F h1 h2; omega
  | succ fu ih =>
    intro k rm cor cors row at' F h1 h2 hF hl
    have hn := h.1
    rw [fX12_laysRainbows_L20]
    by_cases hi : k = n
    · subst hi
      rw [if_pos (nI_le (Nat.le_refl k) (by omega))]
      have e : (F ++ if col r = 0 then (R2 col k r k).filter (HH X Y mh p q) else []) = F := by
        unfold R2
        rw [lst_nil (Nat.le_refl _)]
        simp
      rw [e]
      exact ⟨_, _, _, _, _, rfl, hF⟩
    · have hlt : k < n := by omega
      rw [if_neg (nI_ge hlt (by omega))]
      have e2 : R2 col n r k = if col k = 1 then R3 col n r k 0 ++ R2 col n r (k + 1) else R2 col n r (k + 1) := by
        unfold R2
        rw [lst_cons hlt]
        split
        · rw [List.flatMap_cons]
        · rfl
      obtain ⟨rm1, cor1, cors1, row1, at1, f1, f2⟩ := mr32 K hK h hcol mh hp hq hr hlt K 0 rm cor cors row at' F (by omega) (by omega) hF (fun a b => by
        have := hl a
        rw [e2, if_pos b, fil_app, List.length_append] at this
        omega)
      rw [show nI 0 = (0 : Int32) from rfl] at f1
      rw [f1]
      simp only [sm_b6, xl_e, nI_1]
      by_cases c : col r = 0
      · have hl' := hl c
        rw [e2] at hl'
        by_cases c1 : col k = 1
        · rw [if_pos c1, fil_app, List.length_append] at hl'
          rw [if_pos ⟨c, c1⟩] at f2 ⊢
          have := ih (k + 1) rm1 cor1 cors1 row1 at1 _ (by omega) (by omega) f2 (fun _ => by rw [List.length_append]; omega)
          rw [if_pos c, e2, if_pos c1, fil_app, ← List.append_assoc]
          rw [if_pos c] at this
          exact this
        · rw [if_neg c1] at hl'
          rw [if_neg (fun q => c1 q.2), List.append_nil] at f2 ⊢
          rw [e2, if_neg c1]
          exact ih (k + 1) rm1 cor1 cors1 row1 at1 F (by omega) (by omega) f2 (fun _ => hl')
      · rw [if_neg (fun q => c q.1), List.append_nil] at f2 ⊢
        have := ih (k + 1) rm1 cor1 cors1 row1 at1 F (by omega) (by omega) f2 (fun a => absurd a c)
        rw [if_neg c] at this ⊢
        exact this
theorem mr8 (K : Nat) (hK : 4000 ≤ K) {n : Nat} {px py : Nat → Int32} {X Y : Nat → Int} (h : Pts n px py X Y) {col mcol : Nat → Int32} (hcol : ∀ i, i < n → mcol i = col i) (mh : Int32) {p q : Int} (hp : -20 ≤ p ∧ p ≤ 20) (hq : -20 ≤ q ∧ q ≤ 20) : ∀ (fu k : Nat) (rm : Int32) (cor cors row at' : Nat → Int32) (F : List N3), k ≤ n → n - k < fu → RA at' F → F.length + ((R1 col n k).filter (HH X Y mh p q)).length ≤ 512 → ∃ rm' cor' cors' row' at'', fX12_laysRainbows_L8 K mh (iI p) (iI q) (nI n) px py mcol fu (nI k) rm (nI F.length) cor cors row at' = some (rm', nI (F ++ (R1 col n k).filter (HH X Y mh p q)).length, cor', cors', row', at'') ∧ RA at'' (F ++ (R1 col n k).filter (HH X Y mh p q)) := by
  intro fu
  induction fu with
  | zero => intro k rm cor cors row at' F h1 h2; omega
  | succ fu ih =>
    intro k rm cor cors row at' F h1 h2 hF hl
    have hn := h.1
    rw [fX12_laysRainbows_L8]
    by_cases hi : k = n
    · subst hi
      rw [if_pos (nI_le (Nat.le_refl k) (by omega))]
      have e : (F ++ (R1 col k k).filter (HH X Y mh p q)) = F := by
        unfold R1
        rw [lst_nil (Nat.le_refl _)]
        simp
      rw [e]
      exact ⟨_, _, _, _, _, rfl, hF⟩
    · have hlt : k < n := by omega
      rw [if_neg (nI_ge hlt (by omega))]
      have e2 : R1 col n k = if col k = 0 then R2 col n k 0 ++ R1 col n (k + 1) else R1 col n (k + 1) := by
        unfold R1
        rw [lst_cons hlt]
        split
        · rw [List.flatMap_cons]
        · rfl
      obtain ⟨rm1, cor1, cors1, row1, at1, f1, f2⟩ := mr20 K hK h hcol mh hp hq hlt K 0 rm cor cors row at' F (by omega) (by omega) hF (fun b => by
        have := hl
        rw [e2, if_pos b, fil_app, List.length_append] at this
        omega)
      rw [show nI 0 = (0 : Int32) from rfl] at f1
      rw [f1]
      simp only [sm_b6, xl_e, nI_1]
      rw [e2] at hl ⊢
      by_cases c : col k = 0
      · rw [if_pos c] at hl f2 ⊢
        rw [fil_app, List.length_append] at hl
        have := ih (k + 1) rm1 cor1 cors1 row1 at1 _ (by omega) (by omega) f2 (by rw [List.length_append]; omega)
        rw [if_pos c, fil_app, ← List.append_assoc]
        exact this
      · rw [if_neg c] at hl f2 ⊢
        rw [List.append_nil] at f2
        rw [if_neg c, List.append_nil]
        exact ih (k + 1) rm1 cor1 cors1 row1 at1 F (by omega) (by omega) f2 hl
theorem fil_len {α : Type} (f : α → Bool) (l : List α) : (l.filter f).length ≤ l.length := List.length_filter_le f l
theorem raM (K : Nat) (hK : 4000 ≤ K) {n : Nat} {px py : Nat → Int32} {X Y : Nat → Int} (h : Pts n px py X Y) {col mcol : Nat → Int32} (hcol : ∀ i, i < n → mcol i = col i) (mh : Int32) {p q : Int} (hp : -20 ≤ p ∧ p ≤ 20) (hq : -20 ≤ q ∧ q ≤ 20) (rm rbm : Int32) (cor cors row at' : Nat → Int32) : ∃ rm' cor' cors' row' at'', fX12_laysRainbows K (nI n) rm rbm px py mcol cor cors row at' mh (iI p) (iI q) = some (rm', nI ((R1 col n 0).filter (HH X Y mh p q)).length, cor', cors', row', at'') ∧ RA at'' ((R1 col n 0).filter (HH X Y mh p q)) := by
  have hl := R1_len col h.1
  have hl2 := fil_len (HH X Y mh p q) (R1 col n 0)
  have hn := h.1
  obtain ⟨rm1, cor1, cors1, row1, at1, f1, f2⟩ := mr8 K hK h hcol mh hp hq K 0 rm cor cors row at' [] (by omega) (by omega) (fun i t ht => by simp at ht) (by simp only [List.length_nil]; omega)
  unfold fX12_laysRainbows
  rw [show nI 0 = (0 : Int32) from rfl, show nI ([] : List N3).length = (0 : Int32) from rfl] at f1
  rw [f1]
  exact ⟨rm1, cor1, cors1, row1, at1, rfl, f2⟩
theorem HH1 (X Y : Nat → Int) (p q : Int) : HH X Y 1 p q = hold3 X Y p q := by
  funext t
  unfold HH
  simp
theorem ev_triangles (K : Nat) (hK : 4000 ≤ K) (x_cloud_size : Int32) (x_cloud_x : Nat → Int32) (x_cloud_y : Nat → Int32) (x_cloud_colour : Nat → Int32) (x_cloud_load : Nat → Int32) (x_cloud_centreX : Int32) (x_cloud_centreY : Int32) (x_reader_tape : Nat → Int32) (x_reader_length : Int32) (x_reader_faultKind : Int32) (x_reader_faultPlace : Int32) (m_many : Int32) (m_px : Nat → Int32) (m_py : Nat → Int32) (m_colour : Nat → Int32) (m_load : Nat → Int32) (m_cx : Int32) (m_cy : Int32) (m_tape : Nat → Int32) (m_taped : Int32) (m_faultKind : Int32) (m_faultPlace : Int32) (x_chooser_chosen : Nat → Int32) (m_rowMany : Int32) (m_rainbowMany : Int32) (m_corner : Nat → Int32) (m_corners : Nat → Int32) (m_row : Nat → Int32) (m_rainbowAt : Nat → Int32) (a1 : Int32) (a2 : Int32) (a3 : Int32) (hR : Rel x_cloud_size x_cloud_x x_cloud_y x_cloud_colour x_cloud_load x_cloud_centreX x_cloud_centreY x_reader_tape x_reader_length x_reader_faultKind x_reader_faultPlace m_many m_px m_py m_colour m_load m_cx m_cy m_tape m_taped m_faultKind m_faultPlace) : ∃ (r : Int32) (o_x_chooser_chosen : Nat → Int32) (o_m_rowMany : Int32) (o_m_rainbowMany : Int32) (o_m_corner : Nat → Int32) (o_m_corners : Nat → Int32) (o_m_row : Nat → Int32) (o_m_rainbowAt : Nat → Int32), fX11_triangles K x_cloud_size x_cloud_x x_cloud_y x_cloud_colour x_chooser_chosen a1 a2 a3 = some (r, o_x_chooser_chosen) ∧ fX12_triangles K m_many m_rowMany m_rainbowMany m_px m_py m_colour m_corner m_corners m_row m_rainbowAt a1 a2 a3 = some (r, o_m_rowMany, o_m_rainbowMany, o_m_corner, o_m_corners, o_m_row, o_m_rainbowAt) := by
  obtain ⟨n, rfl, rfl, hXc, hXm⟩ := Rel_pts hR
  obtain ⟨⟨n', hn', en, -, hpt⟩, -⟩ := hR
  have hnn : n = n' := (nI_eqn (by have := hXc.1; omega) (by omega)).mp en
  subst hnn
  have hcol : ∀ i, i < n → m_colour i = x_cloud_colour i := fun i hi => (hpt i hi).1.2.2.1
  have z0 : (a3 = 0) ↔ a3.toInt = 0 := a_eq (k := 0) ⟨by omega, by omega⟩
  have z1 : (a3 = 1) ↔ a3.toInt = 1 := a_eq (k := 1) ⟨by omega, by omega⟩
  unfold fX11_triangles fX12_triangles
  rcases isPlace_c K a1 a2 with ⟨c, c1, c2⟩ | ⟨c, c1, c2⟩
  · obtain ⟨a, b, rfl, rfl, ha, hb⟩ := isPl_i c
    rw [c1, c2, in_spec]
    simp only [sm_b1, if_neg one_ne, long_toInt, show (0 : Int64).toInt = 0 from rfl, show (1 : Int64).toInt = 1 from rfl, z0, z1]
    by_cases w0 : a3.toInt = 0
    · rw [if_pos w0, show (if 0 ≤ a3.toInt ∧ a3.toInt ≤ 1 then (1 : Int32) else 0) = 1 from if_pos (by omega), if_neg one_ne, if_neg (by omega)]
      obtain ⟨r, rm', cor', cors', row', f1, f2⟩ := tri5 K hK hXc hXm ha hb K 0 0 m_rowMany m_corner m_corners m_row (by omega) (by omega)
      rw [show nI 0 = (0 : Int32) from rfl] at f1 f2
      unfold fX11_countTriangles
      simp only [f1, f2, sm_b1, sm_b5]
      exact ⟨_, _, _, _, _, _, _, _, rfl, rfl⟩
    · rw [if_neg w0]
      by_cases w1 : a3.toInt = 1
      · rw [if_pos w1, show (if 0 ≤ a3.toInt ∧ a3.toInt ≤ 1 then (1 : Int32) else 0) = 1 from if_pos (by omega), if_neg one_ne, if_pos w1]
        obtain ⟨ch', f1⟩ := countC K hK hXc x_cloud_colour x_chooser_chosen ha hb
        obtain ⟨rm', cor', cors', row', at'', g1, -⟩ := raM K hK hXm hcol 1 ha hb m_rowMany m_rainbowMany m_corner m_corners m_row m_rainbowAt
        rw [HH1] at g1
        simp only [f1, g1, b2, Option.bind_some, sm_b6]
        exact ⟨_, _, _, _, _, _, _, _, rfl, rfl⟩
      · rw [if_neg w1, show (if 0 ≤ a3.toInt ∧ a3.toInt ≤ 1 then (1 : Int32) else 0) = 0 from if_neg (by omega), if_pos rfl]
        exact ⟨_, _, _, _, _, _, _, _, rfl, rfl⟩
  · rw [c1, c2]
    exact ⟨_, _, _, _, _, _, _, _, rfl, rfl⟩
theorem ev_rainbows (K : Nat) (hK : 4000 ≤ K) (x_cloud_size : Int32) (x_cloud_x : Nat → Int32) (x_cloud_y : Nat → Int32) (x_cloud_colour : Nat → Int32) (x_cloud_load : Nat → Int32) (x_cloud_centreX : Int32) (x_cloud_centreY : Int32) (x_reader_tape : Nat → Int32) (x_reader_length : Int32) (x_reader_faultKind : Int32) (x_reader_faultPlace : Int32) (m_many : Int32) (m_px : Nat → Int32) (m_py : Nat → Int32) (m_colour : Nat → Int32) (m_load : Nat → Int32) (m_cx : Int32) (m_cy : Int32) (m_tape : Nat → Int32) (m_taped : Int32) (m_faultKind : Int32) (m_faultPlace : Int32) (x_chooser_chosen : Nat → Int32) (m_rowMany : Int32) (m_rainbowMany : Int32) (m_corner : Nat → Int32) (m_corners : Nat → Int32) (m_row : Nat → Int32) (m_rainbowAt : Nat → Int32) (hR : Rel x_cloud_size x_cloud_x x_cloud_y x_cloud_colour x_cloud_load x_cloud_centreX x_cloud_centreY x_reader_tape x_reader_length x_reader_faultKind x_reader_faultPlace m_many m_px m_py m_colour m_load m_cx m_cy m_tape m_taped m_faultKind m_faultPlace) : ∃ (r : Int32) (o_x_chooser_chosen : Nat → Int32) (o_m_rowMany : Int32) (o_m_rainbowMany : Int32) (o_m_corner : Nat → Int32) (o_m_corners : Nat → Int32) (o_m_row : Nat → Int32) (o_m_rainbowAt : Nat → Int32), fX11_rainbows K x_cloud_size x_cloud_centreX x_cloud_centreY x_cloud_x x_cloud_y x_cloud_colour x_chooser_chosen = some (r, o_x_chooser_chosen) ∧ fX12_rainbows K m_many m_cx m_cy m_rowMany m_rainbowMany m_px m_py m_colour m_corner m_corners m_row m_rainbowAt = some (r, o_m_rowMany, o_m_rainbowMany, o_m_corner, o_m_corners, o_m_row, o_m_rainbowAt) := by
  obtain ⟨n, rfl, rfl, hXc, hXm⟩ := Rel_pts hR
  obtain ⟨rfl, rfl, hpl⟩ := Rel_c hR
  obtain ⟨⟨n', hn', en, -, hpt⟩, -⟩ := hR
  have hnn : n = n' := (nI_eqn (by have := hXc.1; omega) (by omega)).mp en
  subst hnn
  have hcol : ∀ i, i < n → m_colour i = x_cloud_colour i := fun i hi => (hpt i hi).1.2.2.1
  obtain ⟨a, b, rfl, rfl, ha, hb⟩ := isPl_i hpl
  obtain ⟨ch', f1⟩ := countC K hK hXc x_cloud_colour x_chooser_chosen ha hb
  obtain ⟨rm', cor', cors', row', at'', g1, -⟩ := raM K hK hXm hcol 1 ha hb m_rowMany m_rainbowMany m_corner m_corners m_row m_rainbowAt
  rw [HH1] at g1
  unfold fX11_rainbows fX12_rainbows
  simp only [f1, g1, b2, Option.bind_some, sm_b6]
  exact ⟨_, _, _, _, _, _, _, _, rfl, rfl⟩
theorem ev_rainbow (K : Nat) (hK : 4000 ≤ K) (x_cloud_size : Int32) (x_cloud_x : Nat → Int32) (x_cloud_y : Nat → Int32) (x_cloud_colour : Nat → Int32) (x_cloud_load : Nat → Int32) (x_cloud_centreX : Int32) (x_cloud_centreY : Int32) (x_reader_tape : Nat → Int32) (x_reader_length : Int32) (x_reader_faultKind : Int32) (x_reader_faultPlace : Int32) (m_many : Int32) (m_px : Nat → Int32) (m_py : Nat → Int32) (m_colour : Nat → Int32) (m_load : Nat → Int32) (m_cx : Int32) (m_cy : Int32) (m_tape : Nat → Int32) (m_taped : Int32) (m_faultKind : Int32) (m_faultPlace : Int32) (x_chooser_chosen : Nat → Int32) (m_rowMany : Int32) (m_rainbowMany : Int32) (m_corner : Nat → Int32) (m_corners : Nat → Int32) (m_row : Nat → Int32) (m_rainbowAt : Nat → Int32) (a1 : Int32) (a2 : Int32) (hR : Rel x_cloud_size x_cloud_x x_cloud_y x_cloud_colour x_cloud_load x_cloud_centreX x_cloud_centreY x_reader_tape x_reader_length x_reader_faultKind x_reader_faultPlace m_many m_px m_py m_colour m_load m_cx m_cy m_tape m_taped m_faultKind m_faultPlace) : ∃ (r : Int32) (o_x_chooser_chosen : Nat → Int32) (o_m_rowMany : Int32) (o_m_rainbowMany : Int32) (o_m_corner : Nat → Int32) (o_m_corners : Nat → Int32) (o_m_row : Nat → Int32) (o_m_rainbowAt : Nat → Int32), fX11_rainbow K x_cloud_size x_cloud_centreX x_cloud_centreY x_cloud_x x_cloud_y x_cloud_colour x_chooser_chosen a1 a2 = some (r, o_x_chooser_chosen) ∧ fX12_rainbow K m_many m_cx m_cy m_rowMany m_rainbowMany m_px m_py m_colour m_corner m_corners m_row m_rainbowAt a1 a2 = some (r, o_m_rowMany, o_m_rainbowMany, o_m_corner, o_m_corners, o_m_row, o_m_rainbowAt) := by
  obtain ⟨n, rfl, rfl, hXc, hXm⟩ := Rel_pts hR
  obtain ⟨rfl, rfl, hpl⟩ := Rel_c hR
  obtain ⟨⟨n', hn', en, -, hpt⟩, -⟩ := hR
  have hnn : n = n' := (nI_eqn (by have := hXc.1; omega) (by omega)).mp en
  subst hnn
  have hcol : ∀ i, i < n → m_colour i = x_cloud_colour i := fun i hi => (hpt i hi).1.2.2.1
  obtain ⟨a, b, rfl, rfl, ha, hb⟩ := isPl_i hpl
  unfold fX11_rainbow fX12_rainbow
  by_cases k0 : a1 < 0
  · rw [if_pos k0, if_pos k0]
    exact ⟨_, _, _, _, _, _, _, _, rfl, rfl⟩
  · rw [if_neg k0, if_neg k0]
    rcases isColour_c K a2 with ⟨c, c1, c2⟩ | ⟨c, c1, c2⟩
    · rw [c1, c2]
      have h1 := a1.toInt_lt
      have hk0 : 0 ≤ a1.toInt := by
        rw [Int32.lt_iff_toInt_lt] at k0
        have : (0 : Int32).toInt = 0 := rfl
        omega
      obtain ⟨k, hk⟩ : ∃ k : Nat, a1.toInt = k := ⟨a1.toInt.toNat, by omega⟩
      have ek : a1 = nI k := by rw [nI_iI, ← hk, iI_toInt]
      have hkb : k < 2147483648 := by omega
      subst ek
      obtain ⟨its, hits⟩ : ∃ its : Nat, a2.toInt = its := ⟨a2.toInt.toNat, by have := c.1; omega⟩
      have hit3 : its < 3 := by have := c.2; omega
      have e2 : a2 = nI its := by rw [nI_iI, ← hits, iI_toInt]
      subst e2
      simp only [sm_b1, if_neg one_ne]
      obtain ⟨m, ch1, f1, f2⟩ := firstC K hK hXc.1 x_cloud_colour x_chooser_chosen
      have hl := R1_len x_cloud_colour hXc.1
      have hl2 := fil_len (hold3 (fun i => (x_cloud_x i).toInt) (fun i => (x_cloud_y i).toInt) a b) (R1 x_cloud_colour n 0)
      obtain ⟨rm', cor', cors', row', at'', g1, g2⟩ := raM K hK hXm hcol 1 ha hb m_rowMany m_rainbowMany m_corner m_corners m_row m_rainbowAt
      rw [HH1] at g1 g2
      rw [g1]
      unfold fX7_seekHolding
      rw [f1]
      simp only [b2, Option.bind_some, sm_b6]
      rcases seekL K hK hXc x_cloud_colour ha hb hkb K 0 0 m ch1 _ (by omega) (by omega) (by omega) (by omega) f2 with ⟨ch', t, s1, s2, s3⟩ | ⟨ch', s1, s2⟩
      · rw [show nI 0 = (0 : Int32) from rfl] at s1
        rw [s1]
        rw [Nat.sub_zero] at s2
        have hlt : k < ((R1 x_cloud_colour n 0).filter (hold3 (fun i => (x_cloud_x i).toInt) (fun i => (x_cloud_y i).toInt) a b)).length := by
          rcases Nat.lt_or_ge k ((R1 x_cloud_colour n 0).filter (hold3 (fun i => (x_cloud_x i).toInt) (fun i => (x_cloud_y i).toInt) a b)).length with q | q
          · exact q
          · rw [List.getElem?_eq_none q] at s2; cases s2
        rw [if_neg (nI_ge hlt (by omega))]
        obtain ⟨r1, r2, r3⟩ := g2 k t s2
        obtain ⟨u1, u2, u3⟩ := s3
        have ei : (3 : Int32) * nI k + nI its = nI (3 * k + its) := by rw [mul3_nI, add_nI]
        rw [ei, gd_t (inb_nI (by omega) (by decide)), nI_clamp (by omega)]
        simp only [sm, Option.bind_some, Sum.elim_inl]
        rw [show ∀ k : (Nat → Int32) → Option (Int32 × (Nat → Int32)), CRainbowHullsLaw_law_r7088_1ff992.u1 k ch' = k ch' from fun _ => rfl]
        simp only [Option.bind_some]
        rw [if_neg one_ne, gd_t (inb_nI hit3 (by decide)), nI_clamp (by omega)]
        have : its = 0 ∨ its = 1 ∨ its = 2 := by omega
        rcases this with rfl | rfl | rfl
        · rw [show 3 * k + 0 = 3 * k from rfl, r1, ‹ch' 0 = _›]
          exact ⟨_, _, _, _, _, _, _, _, rfl, rfl⟩
        · rw [r2, u2]
          exact ⟨_, _, _, _, _, _, _, _, rfl, rfl⟩
        · rw [r3, u3]
          exact ⟨_, _, _, _, _, _, _, _, rfl, rfl⟩
      · rw [show nI 0 = (0 : Int32) from rfl] at s1
        rw [s1]
        rw [Nat.sub_zero] at s2
        have hge := List.getElem?_eq_none_iff.mp s2
        rw [if_pos (nI_le hge (by omega))]
        exact ⟨_, _, _, _, _, _, _, _, rfl, rfl⟩
    · rw [c1, c2]
      exact ⟨_, _, _, _, _, _, _, _, rfl, rfl⟩
