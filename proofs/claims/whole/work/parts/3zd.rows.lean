--@ needs 3zc.starts
/-! rows of parts -/
def gen : Nat → Nat → Nat → List (List Nat)
  | 0, _, _ => [[]]
  | d + 1, u, r => (List.range (min (u + 1) r)).flatMap (fun p => (gen d (if p = u then u + 1 else u) r).map (fun l => p :: l))
def ud : List Nat → Nat → Nat
  | [], u => u
  | p :: t, u => ud t (if p = u then u + 1 else u)
def hiF (ρ : Nat → Nat) : Nat → Nat
  | 0 => 0
  | i + 1 => if hiF ρ i < ρ i then ρ i else hiF ρ i
def fndF (r : Nat) (ρ : Nat → Nat) : Nat → Nat
  | 0 => 0
  | i + 1 => if ρ (i + 1) < r - 1 ∧ ρ (i + 1) ≤ hiF ρ (i + 1) then i + 1 else fndF r ρ i
def rw0 (l : List Nat) (j : Nat) : Nat := l.getD j 0
def nxF (r s : Nat) (ρ : Nat → Nat) (j : Nat) : Nat := if j < fndF r ρ (s - 1) then ρ j else if j = fndF r ρ (s - 1) then ρ j + 1 else 0
def rowOK (s r : Nat) (l : List Nat) : Bool := l.length == s && l.all (fun p => decide (p < r)) && (decide (ud l 0 = r) == decide (hiF (rw0 l) s = r - 1)) && (decide (ud l 0 ≠ r) || (List.range r).all (fun q => l.any (fun p => p == q)))
def chain (s r : Nat) : List (List Nat) → Bool
  | [] => false
  | [l] => rowOK s r l && decide (fndF r (rw0 l) (s - 1) = 0)
  | l :: l' :: t => rowOK s r l && decide (fndF r (rw0 l) (s - 1) ≠ 0) && (List.range s).all (fun j => rw0 l' j == nxF r s (rw0 l) j) && chain s r (l' :: t)
def genOK (s r : Nat) : Bool := chain s r (gen s 0 r) && decide ((gen s 0 r).length ≤ 2000) && (match gen s 0 r with | [] => false | l :: _ => (List.range s).all (fun j => rw0 l j == 0) && decide (ud l 0 ≠ r))
theorem gen_ok2 : ∀ s, s < 8 → 0 < s → genOK s 2 = true := by decide +kernel
theorem gen_ok3 : ∀ s, s < 8 → 0 < s → genOK s 3 = true := by decide +kernel
theorem gen_ok {s r : Nat} (hs : 0 < s) (hs7 : s ≤ 7) (hr : r = 2 ∨ r = 3) : genOK s r = true := by
  rcases hr with rfl | rfl
  · exact gen_ok2 s (by omega) hs
  · exact gen_ok3 s (by omega) hs
/-- the class's rows -/
theorem hiL (K : Nat) {a : Nat → Int32} {ρ : Nat → Nat} {m : Nat} (hm : m ≤ 7) (ha : ∀ j, j < m → a j = nI (ρ j) ∧ ρ j < 100) : ∀ (fu i : Nat), i ≤ m → m - i < fu → fX5_highestAhead_L4 K (nI m) a fu (nI (hiF ρ i)) (nI i) = some (nI (hiF ρ m)) := by
  have hb : ∀ i, i ≤ m → hiF ρ i < 100 := by
    intro i
    induction i with
    | zero => intro _; show 0 < 100; omega
    | succ i ih =>
      intro hi
      rw [hiF]
      have := (ha i (by omega)).2
      split
      · exact this
      · exact ih (by omega)
  intro fu
  induction fu with
  | zero => intro i h1 h2; omega
  | succ fu ih =>
    intro i h1 h2
    rw [fX5_highestAhead_L4]
    by_cases hi : i = m
    · subst hi
      rw [if_pos (nI_le (Nat.le_refl i) (by omega))]
    · have hlt : i < m := by omega
      obtain ⟨e1, e2⟩ := ha i hlt
      have e3 := hb i h1
      have IH := ih (i + 1) (by omega) (by omega)
      rw [hiF] at IH
      rw [if_neg (nI_ge hlt (by omega)), gd_t (inb_nI (show i < 7 by omega) (by decide)), nI_clamp (by omega), e1, xl_e, xl_e, nI_1]
      have : jmax (nI (hiF ρ i)) (nI (ρ i)) = nI (if hiF ρ i < ρ i then ρ i else hiF ρ i) := by
        unfold jmax
        simp only [nI_ltn (show hiF ρ i < 1000 by omega) (show ρ i < 1000 by omega)]
        split <;> rfl
      rw [this]
      exact IH
theorem hiC (K : Nat) (hK : 4000 ≤ K) {a : Nat → Int32} {ρ : Nat → Nat} {m : Nat} (hm : m ≤ 7) (ha : ∀ j, j < m → a j = nI (ρ j) ∧ ρ j < 100) : fX5_highestAhead K a (nI m) = some (nI (hiF ρ m)) := by
  have := hiL K hm ha K 0 (by omega) (by omega)
  unfold fX5_highestAhead
  rw [show (0 : Int32) = nI 0 from rfl]
  rw [hiF] at this
  rw [this]; rfl
theorem mx_bd {ρ : Nat → Nat} {m : Nat} (ha : ∀ j, j < m → ρ j < 100) : ∀ i, i ≤ m → hiF ρ i < 100 := by
  intro i
  induction i with
  | zero => intro _; show 0 < 100; omega
  | succ i ih =>
    intro hi
    rw [hiF]
    have := ha i (by omega)
    split
    · exact this
    · exact ih (by omega)
theorem nrL7 (K : Nat) (hK : 4000 ≤ K) {a : Nat → Int32} {ρ : Nat → Nat} {s r : Nat} (hs : s ≤ 7) (hr : 2 ≤ r ∧ r ≤ 3) (ha : ∀ j, j < s → a j = nI (ρ j) ∧ ρ j < 100) : ∀ (fu i : Nat), i < s → i < fu → (fndF r ρ i = 0 ∧ fX5_nextRow_L7 K (nI r) a fu (nI i) = some (.inr ())) ∨ (fndF r ρ i ≠ 0 ∧ fndF r ρ i ≤ i ∧ fX5_nextRow_L7 K (nI r) a fu (nI i) = some (.inl (nI (fndF r ρ i)))) := by
  have er : nI r - 1 = nI (r - 1) := by rw [show (1 : Int32) = nI 1 from rfl, sub_nI (by omega)]
  intro fu
  induction fu with
  | zero => intro i h1 h2; omega
  | succ fu ih =>
    intro i h1 h2
    rw [fX5_nextRow_L7]
    cases i with
    | zero =>
      rw [if_pos (show nI 0 ≤ 0 by decide)]
      exact Or.inl ⟨rfl, rfl⟩
    | succ i =>
      obtain ⟨e1, e2⟩ := ha (i + 1) h1
      have mb := mx_bd (m := s) (fun j hj => (ha j hj).2) (i + 1) (by omega)
      rw [if_neg (show ¬ nI (i + 1) ≤ 0 from fun q => by have := (nI_lei (a := i + 1) (by omega) (e := 0) ⟨by omega, by omega⟩).mp q; omega), gd_t (inb_nI (show i + 1 < 7 by omega) (by decide)), nI_clamp (by omega), e1, er, jn_e, nI_dec, xl_e, gd_t (inb_nI (show i + 1 < 7 by omega) (by decide)), hiC K hK (show i + 1 ≤ 7 by omega) (fun j hj => ha j (by omega)), sm_b1]
      have IH := ih i (by omega) (by omega)
      have c1 : (nI (r - 1) ≤ nI (ρ (i + 1))) ↔ r - 1 ≤ ρ (i + 1) := by
        rw [show nI (ρ (i + 1)) = iI ((ρ (i + 1) : Nat) : Int) from nI_iI _, nI_lei (by omega) ⟨by omega, by omega⟩]; omega
      simp only [c1, nI_ltn (show hiF ρ (i + 1) < 1000 by omega) (show ρ (i + 1) < 1000 by omega)]
      rw [fndF]
      by_cases q1 : r - 1 ≤ ρ (i + 1)
      · rw [if_pos q1, if_neg (by omega)]
        rcases IH with ⟨g1, g2⟩ | ⟨g1, g2, g3⟩
        · exact Or.inl ⟨g1, g2⟩
        · exact Or.inr ⟨g1, by omega, g3⟩
      · rw [if_neg q1]
        by_cases q2 : hiF ρ (i + 1) < ρ (i + 1)
        · rw [if_pos q2, if_neg (by omega)]
          rcases IH with ⟨g1, g2⟩ | ⟨g1, g2, g3⟩
          · exact Or.inl ⟨g1, g2⟩
          · exact Or.inr ⟨g1, by omega, g3⟩
        · rw [if_neg q2, if_pos (by omega)]
          exact Or.inr ⟨by omega, by omega, rfl⟩
theorem nrL54 (K : Nat) {s : Nat} (hs : s ≤ 7) : ∀ (fu i : Nat) (a : Nat → Int32), i ≤ s → s - i < fu → ∃ a', fX5_nextRow_L54 K (nI s) fu (nI i) a = some a' ∧ (∀ j, j < i → a' j = a j) ∧ ∀ j, i ≤ j → j < s → a' j = 0 := by
  intro fu
  induction fu with
  | zero => intro i a h1 h2; omega
  | succ fu ih =>
    intro i a h1 h2
    rw [fX5_nextRow_L54]
    by_cases hi : i = s
    · subst hi
      rw [if_pos (nI_le (Nat.le_refl i) (by omega))]
      exact ⟨a, rfl, fun j _ => rfl, fun j q1 q2 => by omega⟩
    · have hlt : i < s := by omega
      rw [if_neg (nI_ge hlt (by omega)), gd_t (inb_nI (show i < 7 by omega) (by decide)), nI_clamp (by omega), xl_e, xl_e, nI_1]
      obtain ⟨a', e1, e2, e3⟩ := ih (i + 1) (upd a i 0) (by omega) (by omega)
      refine ⟨a', e1, fun j hj => ?_, fun j q1 q2 => ?_⟩
      · rw [e2 j (by omega), upd_ne (by omega)]
      · by_cases e : j = i
        · rw [e, e2 i (by omega), upd_at]
        · exact e3 j (by omega) q2
theorem nextR (K : Nat) (hK : 4000 ≤ K) {a : Nat → Int32} {ρ : Nat → Nat} {s r : Nat} (h0 : 0 < s) (hs : s ≤ 7) (hr : 2 ≤ r ∧ r ≤ 3) (ha : ∀ j, j < s → a j = nI (ρ j) ∧ ρ j < 100) : (fndF r ρ (s - 1) = 0 ∧ fX5_nextRow K (nI s) (nI r) a = some (0, a)) ∨ (fndF r ρ (s - 1) ≠ 0 ∧ ∃ a', fX5_nextRow K (nI s) (nI r) a = some (1, a') ∧ ∀ j, j < s → a' j = nI (nxF r s ρ j)) := by
  have es : nI s - 1 = nI (s - 1) := by rw [show (1 : Int32) = nI 1 from rfl, sub_nI (by omega)]
  unfold fX5_nextRow
  rw [xl_e, es]
  rcases nrL7 K hK hs hr ha K (s - 1) (by omega) (by omega) with ⟨g1, g2⟩ | ⟨g1, g2, g3⟩
  · rw [g2, sm_inr, u0_e]
    exact Or.inl ⟨g1, rfl⟩
  · rw [g3, sm_inl, u1_e]
    have hi : fndF r ρ (s - 1) < s := by omega
    obtain ⟨e1, e2⟩ := ha _ hi
    rw [gd_t (inb_nI (by omega) (by decide)), gd_t (inb_nI (by omega) (by decide)), nI_clamp (by omega), e1, nI_1, xl_e, xl_e, nI_1]
    obtain ⟨a', f1, f2, f3⟩ := nrL54 K hs K (fndF r ρ (s - 1) + 1) (upd a (fndF r ρ (s - 1)) (nI (ρ (fndF r ρ (s - 1)) + 1))) (by omega) (by omega)
    rw [f1]
    refine Or.inr ⟨g1, a', rfl, fun j hj => ?_⟩
    unfold nxF
    by_cases q1 : j < fndF r ρ (s - 1)
    · rw [if_pos q1, f2 j (by omega), upd_ne (by omega)]; exact (ha j hj).1
    · rw [if_neg q1]
      by_cases q2 : j = fndF r ρ (s - 1)
      · rw [if_pos q2, f2 j (by omega), q2, upd_at]
      · rw [if_neg q2, f3 j (by omega) hj]; rfl
theorem fullC (K : Nat) (hK : 4000 ≤ K) {a : Nat → Int32} {ρ : Nat → Nat} {s r : Nat} (hs : s ≤ 7) (hr : 2 ≤ r ∧ r ≤ 3) (ha : ∀ j, j < s → a j = nI (ρ j) ∧ ρ j < 100) : fX5_isFull K (nI s) (nI r) a = some (if hiF ρ s = r - 1 then 1 else 0) := by
  have er : nI r - 1 = nI (r - 1) := by rw [show (1 : Int32) = nI 1 from rfl, sub_nI (by omega)]
  have mb := mx_bd (m := s) (fun j hj => (ha j hj).2) s (by omega)
  unfold fX5_isFull
  rw [hiC K hK hs ha, sm_b1, er]
  simp only [nI_eqn (show hiF ρ s < 1000 by omega) (show r - 1 < 1000 by omega)]
  split <;> rfl
theorem bitR (K : Nat) {n : Nat} (hn : n ≤ 24) {a mA : Nat → Int32} {ρ m : Nat → Nat} {s : Nat} (hs : s ≤ 7) (ha : ∀ j, j < s → a j = nI (ρ j) ∧ ρ j < 100) (hm : ∀ j, j < s → mA j = nI (m j) ∧ m j < n) {q : Nat} (hq : q < 100) : ∀ (fu i : Nat) (acc : Int32), i ≤ s → s - i < fu → mbits (fun j => ρ j = q) m i acc → ∃ acc', fX5_bitsOf_L4 K (nI q) (nI s) mA a fu acc (nI i) = some acc' ∧ mbits (fun j => ρ j = q) m s acc' := by
  intro fu
  induction fu with
  | zero => intro i acc h1 h2; omega
  | succ fu ih =>
    intro i acc h1 h2 h3
    rw [fX5_bitsOf_L4]
    by_cases hi : i = s
    · subst hi
      rw [if_pos (nI_le (Nat.le_refl i) (by omega))]
      exact ⟨acc, rfl, h3⟩
    · have hlt : i < s := by omega
      obtain ⟨e1, e2⟩ := ha i hlt
      obtain ⟨g1, g2⟩ := hm i hlt
      rw [if_neg (nI_ge hlt (by omega))]
      simp only [gd_t (inb_nI (show i < 7 by omega) (by decide)), nI_clamp (show i < 2 ^ 31 by omega), e1, g1, jn_e, xl_e, nI_1, nI_eqn (show ρ i < 1000 by omega) (show q < 1000 by omega)]
      by_cases w : ρ i = q
      · rw [if_pos w]
        exact ih (i + 1) _ (by omega) (by omega) (mb_yes h3 w (by omega))
      · rw [if_neg w]
        exact ih (i + 1) _ (by omega) (by omega) (mb_no h3 w)
/-- the set of a part -/
def pS (n s : Nat) (m ρ : Nat → Nat) (q : Nat) : Int32 := bP (fun b => (List.range s).any (fun j => decide (ρ j = q ∧ m j = b))) n
theorem pS_iff {s : Nat} {m ρ : Nat → Nat} {q b : Nat} : (List.range s).any (fun j => decide (ρ j = q ∧ m j = b)) = true ↔ ∃ j, j < s ∧ ρ j = q ∧ m j = b := by
  rw [List.any_eq_true]
  constructor
  · rintro ⟨j, h1, h2⟩
    exact ⟨j, List.mem_range.mp h1, of_decide_eq_true h2⟩
  · rintro ⟨j, h1, h2⟩
    exact ⟨j, List.mem_range.mpr h1, decide_eq_true h2⟩
theorem mb_pS {n : Nat} (hn : n ≤ 24) {m ρ : Nat → Nat} {s q : Nat} (hm : ∀ j, j < s → m j < n) {acc : Int32} (h : mbits (fun j => ρ j = q) m s acc) : acc = pS n s m ρ q := mb_end hn h (fun b _ => pS_iff) hm
theorem bitsR (K : Nat) (hK : 4000 ≤ K) {n : Nat} (hn : n ≤ 24) {a mA : Nat → Int32} {ρ m : Nat → Nat} {s : Nat} (hs : s ≤ 7) (ha : ∀ j, j < s → a j = nI (ρ j) ∧ ρ j < 100) (hm : ∀ j, j < s → mA j = nI (m j) ∧ m j < n) {q : Nat} (hq : q < 100) : fX5_bitsOf K (nI s) mA a (nI q) = some (pS n s m ρ q) := by
  obtain ⟨acc', f1, f2⟩ := bitR K hn hs ha hm hq K 0 0 (by omega) (by omega) (mb_0 _ _)
  unfold fX5_bitsOf
  rw [show (0 : Int32) = nI 0 from rfl] at *
  rw [f1, sm_b1, mb_pS hn (fun j hj => (hm j hj).2) f2]
theorem pS_st {n : Nat} (hn : n ≤ 24) {m ρ : Nat → Nat} {s q : Nat} (hm : ∀ j, j < s → m j < n) {j : Nat} (hj : j < s) (h : ρ j = q) : isSt n (pS n s m ρ q) := isSt_of_bP hn (hm j hj) (pS_iff.mpr ⟨j, hj, h, rfl⟩)
