theorem nI_idx {a b : Nat} (h : 2 ≤ b) : (nI a + nI b) - (2 : Int32) = nI (a + (b - 2)) ∧ (nI a + nI b) - (1 : Int32) = nI (a + (b - 1)) := by
  refine ⟨?_, ?_⟩
  · rw [nI_add, nI_iI, nI_iI, show (2 : Int32) = iI 2 from rfl, iI_sub]
    congr 1
    omega
  · rw [nI_add, nI_iI, nI_iI, show (1 : Int32) = iI 1 from rfl, iI_sub]
    congr 1
    omega
theorem jpos {z : Int} (h1 : -3200 ≤ z) (h2 : z ≤ 3200) : (0 : Int64) < jJ z ↔ ¬ z ≤ 0 := by
  have e : jJ 0 < jJ z ↔ 0 < z := jJ_lt ⟨by omega, by omega⟩ ⟨by omega, by omega⟩
  have e2 : (0 : Int64) < jJ z ↔ 0 < z := e
  rw [e2]
  omega
theorem popM25 (K : Nat) {n : Nat} {px py : Nat → Int32} {X Y : Nat → Int} (hX : Pts n px py X Y) {cor row : Nat → Int32} {base i p : Nat} (hp : p < n) (hi : i < 24) (hrow : row i = nI p) : ∀ (rc : List Nat) (fu : Nat), (∀ q ∈ rc, q < n) → stk cor base rc → base + rc.length ≤ 72 → rc.length < fu → fX12_laysHull_L25 K (nI base) (nI i) px py cor row fu (nI rc.length) = some (nI (popR X Y 2 p rc).length) := by
  obtain ⟨hn, hXY⟩ := id hX
  intro rc
  induction rc with
  | nil =>
    intro fu _ _ _ hf
    obtain ⟨fu, rfl⟩ : ∃ m, fu = m + 1 := ⟨fu - 1, by omega⟩
    rw [fX12_laysHull_L25, if_pos (by decide)]; rfl
  | cons b rc ih =>
    intro fu hq hs hl hf
    obtain ⟨fu, rfl⟩ : ∃ m, fu = m + 1 := ⟨fu - 1, by omega⟩
    cases rc with
    | nil => rw [fX12_laysHull_L25, if_pos (show nI ([b] : List Nat).length ≤ (1 : Int32) from (show nI 1 ≤ (1 : Int32) from by decide))]; rfl
    | cons a r =>
      obtain ⟨s1, s2, -⟩ := id hs
      have han := hq a (by simp)
      have hbn := hq b (by simp)
      have t := trn_rng (hXY a han).2.2 (hXY b hbn).2.2 (hXY p hp).2.2
      rw [fX12_laysHull_L25, popR]
      simp only [List.length_cons] at hl hf s1 ⊢
      rw [if_neg (show ¬ nI (r.length + 1 + 1) ≤ (1 : Int32) from (show ¬ nI (r.length + 1 + 1) ≤ nI 1 from nI_ge (by omega) (by omega))), (nI_idx (a := base) (b := r.length + 1 + 1) (by omega)).1, (nI_idx (a := base) (b := r.length + 1 + 1) (by omega)).2]
      rw [show r.length + 1 + 1 - 2 = r.length by omega, show r.length + 1 + 1 - 1 = r.length + 1 by omega]
      simp only [gd_t (inb_nI (show base + r.length < 72 by omega) (by decide)), gd_t (inb_nI (show base + (r.length + 1) < 72 by omega) (by decide)), gd_t (inb_nI hi (by decide)), nI_clamp (show base + r.length < 2 ^ 31 by omega), nI_clamp (show base + (r.length + 1) < 2 ^ 31 by omega), nI_clamp (show i < 2 ^ 31 by omega), s1, s2, hrow]
      rw [turnM K hX han hbn hp]
      simp only [b1, Option.bind_some, xl, jpos t.1 t.2]
      by_cases d : trn X Y a b p ≤ 0
      · rw [if_neg (fun h => h d), if_pos ⟨by omega, d⟩, nI_dec]
        have := ih fu (fun q h => hq q (List.mem_cons_of_mem _ h)) hs.2 (by simp only [List.length_cons]; omega) (by simp only [List.length_cons]; omega)
        simp only [List.length_cons] at this
        exact this
      · rw [if_pos d, if_neg (fun h => d h.2)]
        rfl
theorem popM117 (K : Nat) {n : Nat} {px py : Nat → Int32} {X Y : Nat → Int} (hX : Pts n px py X Y) {cor row : Nat → Int32} {base i p low : Nat} (hp : p < n) (hi : i < 24) (hrow : row i = nI p) (hlow : 1 ≤ low) (hlow2 : low ≤ 48) : ∀ (rc : List Nat) (fu : Nat), (∀ q ∈ rc, q < n) → stk cor base rc → base + rc.length ≤ 72 → rc.length < fu → fX12_laysHull_L117 K (nI base) (nI low) (nI i) px py cor row fu (nI rc.length) = some (nI (popR X Y (low + 1) p rc).length) := by
  obtain ⟨hn, hXY⟩ := id hX
  intro rc
  induction rc with
  | nil =>
    intro fu _ _ _ hf
    obtain ⟨fu, rfl⟩ : ∃ m, fu = m + 1 := ⟨fu - 1, by omega⟩
    rw [fX12_laysHull_L117, if_pos (show nI ([] : List Nat).length ≤ nI low from nI_le (Nat.zero_le _) (by omega))]; rfl
  | cons b rc ih =>
    intro fu hq hs hl hf
    obtain ⟨fu, rfl⟩ : ∃ m, fu = m + 1 := ⟨fu - 1, by omega⟩
    cases rc with
    | nil => rw [fX12_laysHull_L117, if_pos (show nI ([b] : List Nat).length ≤ nI low from nI_le (by simpa using hlow) (by omega))]; rfl
    | cons a r =>
      obtain ⟨s1, s2, -⟩ := id hs
      have han := hq a (by simp)
      have hbn := hq b (by simp)
      have t := trn_rng (hXY a han).2.2 (hXY b hbn).2.2 (hXY p hp).2.2
      rw [fX12_laysHull_L117, popR]
      simp only [List.length_cons] at hl hf s1 ⊢
      by_cases c : low + 1 ≤ r.length + 2
      · rw [if_neg (show ¬ nI (r.length + 1 + 1) ≤ nI low from nI_ge (by omega) (by omega)), (nI_idx (a := base) (b := r.length + 1 + 1) (by omega)).1, (nI_idx (a := base) (b := r.length + 1 + 1) (by omega)).2]
        rw [show r.length + 1 + 1 - 2 = r.length by omega, show r.length + 1 + 1 - 1 = r.length + 1 by omega]
        simp only [gd_t (inb_nI (show base + r.length < 72 by omega) (by decide)), gd_t (inb_nI (show base + (r.length + 1) < 72 by omega) (by decide)), gd_t (inb_nI hi (by decide)), nI_clamp (show base + r.length < 2 ^ 31 by omega), nI_clamp (show base + (r.length + 1) < 2 ^ 31 by omega), nI_clamp (show i < 2 ^ 31 by omega), s1, s2, hrow]
        rw [turnM K hX han hbn hp]
        simp only [b1, Option.bind_some, xl, jpos t.1 t.2]
        by_cases d : trn X Y a b p ≤ 0
        · rw [if_neg (fun h => h d), if_pos ⟨c, d⟩, nI_dec]
          have := ih fu (fun q h => hq q (List.mem_cons_of_mem _ h)) hs.2 (by simp only [List.length_cons]; omega) (by simp only [List.length_cons]; omega)
          simp only [List.length_cons] at this
          exact this
        · rw [if_pos d, if_neg (fun h => d h.2)]
          rfl
      · rw [if_pos (show nI (r.length + 1 + 1) ≤ nI low from nI_le (by omega) (by omega)), if_neg (fun h => c h.1)]
        rfl
/-- the way there, the way back -/
def loL (X Y : Nat → Int) (rg : Nat → Nat) : Nat → List Nat
  | 0 => []
  | i + 1 => rg i :: popR X Y 2 (rg i) (loL X Y rg i)
def upY (X Y : Nat → Int) (rg : Nat → Nat) (kept : Nat) : Nat → List Nat → List Nat
  | 0, rc => rc
  | k + 1, rc => upY X Y rg kept k (rg k :: popR X Y kept (rg k) rc)
def upZ (X Y : Nat → Int) (rg : Nat → Nat) (kept : Nat) : Nat → List Nat → List Nat
  | 0, rc => rc
  | 1, rc => popR X Y kept (rg 0) rc
  | k + 2, rc => upZ X Y rg kept (k + 1) (rg (k + 1) :: popR X Y kept (rg (k + 1)) rc)
theorem upYZ (X Y : Nat → Int) (rg : Nat → Nat) (kept : Nat) : ∀ (k : Nat) (rc : List Nat), upY X Y rg kept (k + 1) rc = rg 0 :: upZ X Y rg kept (k + 1) rc := by
  intro k
  induction k with
  | zero => intro rc; rfl
  | succ k ih => intro rc; rw [upY, ih]; rfl
def hulR (X Y : Nat → Int) (rg : Nat → Nat) (m : Nat) : List Nat := upZ X Y rg ((loL X Y rg m).length + 1) (m - 1) (loL X Y rg m)
theorem loL_ok (X Y : Nat → Int) (rg : Nat → Nat) (n : Nat) : ∀ i : Nat, (∀ j : Nat, j < i → rg j < n) → (∀ q ∈ loL X Y rg i, q < n) ∧ (loL X Y rg i).length ≤ i ∧ (0 < i → 0 < (loL X Y rg i).length) := by
  intro i
  induction i with
  | zero => intro _; exact ⟨by simp [loL], by simp [loL], fun h => absurd h (by decide)⟩
  | succ i ih =>
    intro h
    obtain ⟨h1, h2, -⟩ := ih (fun j hj => h j (by omega))
    have h3 := popR_len X Y 2 (rg i) (loL X Y rg i)
    rw [loL]
    refine ⟨fun q hq => ?_, by simp only [List.length_cons]; omega, fun _ => by simp⟩
    rcases List.mem_cons.mp hq with rfl | hq
    · exact h i (by omega)
    · exact h1 q (popR_mem hq)
theorem upZ_ok (X Y : Nat → Int) (rg : Nat → Nat) (kept n : Nat) : ∀ (k : Nat) (rc : List Nat), (∀ j : Nat, j < k → rg j < n) → (∀ q ∈ rc, q < n) → rc ≠ [] → (∀ q ∈ upZ X Y rg kept k rc, q < n) ∧ (upZ X Y rg kept k rc).length ≤ rc.length + (k - 1) ∧ upZ X Y rg kept k rc ≠ [] := by
  intro k
  induction k with
  | zero => intro rc _ h1 h2; exact ⟨h1, by simp [upZ], h2⟩
  | succ k ih =>
    intro rc h0 h1 h2
    cases k with
    | zero => exact ⟨fun q hq => h1 q (popR_mem hq), by have := popR_len X Y kept (rg 0) rc; simp only [upZ]; omega, popR_ne X Y kept (rg 0) rc h2⟩
    | succ k =>
      have h3 := popR_len X Y kept (rg (k + 1)) rc
      obtain ⟨g1, g2, g3⟩ := ih (rg (k + 1) :: popR X Y kept (rg (k + 1)) rc) (fun j hj => h0 j (by omega)) (fun q hq => by
        rcases List.mem_cons.mp hq with rfl | hq
        · exact h0 (k + 1) (by omega)
        · exact h1 q (popR_mem hq)) (by simp)
      simp only [List.length_cons] at g2
      exact ⟨g1, by rw [upZ]; omega, g3⟩
/-- the class: there -/
theorem c46 (K : Nat) (hK : 4000 ≤ K) {n : Nat} {x y : Nat → Int32} {X Y : Nat → Int} (hX : Pts n x y X Y) {sor : Nat → Int32} {rg : Nat → Nat} {m : Nat} (hm : m ≤ 24) (hs : ∀ i : Nat, i < m → sor i = nI (rg i) ∧ rg i < n) : ∀ (fu i : Nat) (ch gx gy : Nat → Int32), i ≤ m → m - i < fu → stk ch 0 (loL X Y rg i) → stv gx X (loL X Y rg i) → stv gy Y (loL X Y rg i) → ∃ ch' gx' gy', fX2_build_L46 K (nI m) sor x y fu (nI i) (nI (loL X Y rg i).length) ch gx gy = some (nI (loL X Y rg m).length, ch', gx', gy') ∧ stk ch' 0 (loL X Y rg m) ∧ stv gx' X (loL X Y rg m) ∧ stv gy' Y (loL X Y rg m) := by
  intro fu
  induction fu with
  | zero => intro i ch gx gy h1 h2; omega
  | succ fu ih =>
    intro i ch gx gy h1 h2 hc hx hy
    rw [fX2_build_L46]
    by_cases c : i = m
    · subst c
      rw [if_pos (nI_le (Nat.le_refl i) (by omega))]
      exact ⟨ch, gx, gy, rfl, hc, hx, hy⟩
    · rw [if_neg (nI_ge (show i < m by omega) (by omega))]
      obtain ⟨l1, l2, -⟩ := loL_ok X Y rg n i (fun j hj => (hs j (by omega)).2)
      obtain ⟨s1, s2⟩ := hs i (by omega)
      obtain ⟨ch', gx', gy', e1, e2, e3, e4⟩ := pushC K hK hX (kept := 2) s2 (by omega) l1 hc hx hy (by omega)
      simp only [gd_t (inb_nI (show i < 24 by omega) (by decide)), nI_clamp (show i < 2 ^ 31 by omega), s1, nI_1, xl, b4]
      rw [show (2 : Int32) = nI 2 from rfl, e1]
      simp only [Option.bind_some]
      exact ih (i + 1) ch' gx' gy' (by omega) (by omega) e2 e3 e4
/-- the class: back -/
theorem c84 (K : Nat) (hK : 4000 ≤ K) {n : Nat} {x y : Nat → Int32} {X Y : Nat → Int} (hX : Pts n x y X Y) {sor : Nat → Int32} {rg : Nat → Nat} {kept : Nat} (hkp : kept ≤ 100) : ∀ (k fu : Nat) (rc : List Nat) (ch gx gy : Nat → Int32), (∀ i : Nat, i < k → sor i = nI (rg i) ∧ rg i < n) → k ≤ 24 → k < fu → rc.length + k ≤ 48 → (∀ q ∈ rc, q < n) → stk ch 0 rc → stv gx X rc → stv gy Y rc → ∃ ch' gx' gy', fX2_build_L84 K (nI kept) sor x y fu (iI ((k : Int) - 1)) (nI rc.length) ch gx gy = some (nI (upY X Y rg kept k rc).length, ch', gx', gy') ∧ stk ch' 0 (upY X Y rg kept k rc) ∧ stv gx' X (upY X Y rg kept k rc) ∧ stv gy' Y (upY X Y rg kept k rc) := by
  intro k
  induction k with
  | zero =>
    intro fu rc ch gx gy _ _ hf _ _ hc hx hy
    obtain ⟨fu, rfl⟩ : ∃ m, fu = m + 1 := ⟨fu - 1, by omega⟩
    rw [fX2_build_L84, if_pos (by decide)]
    exact ⟨ch, gx, gy, rfl, hc, hx, hy⟩
  | succ k ih =>
    intro fu rc ch gx gy hs hk hf hl hq hc hx hy
    obtain ⟨fu, rfl⟩ : ∃ m, fu = m + 1 := ⟨fu - 1, by omega⟩
    have hi : iI (((k + 1 : Nat) : Int) - 1) = nI k := by rw [nI_iI]; congr 1; omega
    obtain ⟨s1, s2⟩ := hs k (by omega)
    obtain ⟨ch', gx', gy', e1, e2, e3, e4⟩ := pushC K hK hX (kept := kept) s2 hkp hq hc hx hy (by omega)
    rw [fX2_build_L84, hi, if_neg (nI_pos (by omega))]
    simp only [gd_t (inb_nI (show k < 24 by omega) (by decide)), nI_clamp (show k < 2 ^ 31 by omega), s1, xl, b4]
    rw [e1]
    simp only [Option.bind_some]
    rw [show nI k + (-1 : Int32) = iI ((k : Int) - 1) from by rw [nI_iI, show (-1 : Int32) = iI (-1) from by decide, iI_add]; congr 1]
    have hpl := popR_len X Y kept (rg k) rc
    exact ih fu (rg k :: popR X Y kept (rg k) rc) ch' gx' gy' (fun i hi => hs i (by omega)) (by omega) (by omega) (by simp only [List.length_cons]; omega) (fun q hq2 => by
      rcases List.mem_cons.mp hq2 with rfl | hq2
      · exact s2
      · exact hq q (popR_mem hq2)) e2 e3 e4
theorem hl_rg {f : Nat → Int32} {l : List Nat} {n : Nat} (h : hl f l) (hq : ∀ q ∈ l, q < n) : ∀ i : Nat, i < l.length → f i = nI (l.getD i 0) ∧ l.getD i 0 < n := by
  intro i hi
  obtain ⟨q, h1, h2⟩ := getq hi
  have e : l.getD i 0 = q := by rw [List.getD_eq_getElem?_getD, h1]; rfl
  rw [e]
  exact ⟨h i q h1, hq q h2⟩
/-- the hull's corners, the last one first -/
def hulS (X Y : Nat → Int) (S : Int32) (n : Nat) : List Nat := hulR X Y (fun i => (rowL X Y S n).getD i 0) (rowL X Y S n).length
theorem hulS_ok (X Y : Nat → Int) (S : Int32) (n : Nat) (hn : n ≤ 24) (h0 : 0 < (rowL X Y S n).length) : (∀ q ∈ hulS X Y S n, q < n) ∧ (hulS X Y S n).length ≤ 46 ∧ 0 < (hulS X Y S n).length := by
  obtain ⟨r1, r2, r3⟩ := rowL_ok X Y S n
  have hrg : ∀ i : Nat, i < (rowL X Y S n).length → (rowL X Y S n).getD i 0 < n := fun i hi => by
    obtain ⟨q, h1, h2⟩ := getq hi
    rw [List.getD_eq_getElem?_getD, h1]
    exact r2 q h2
  obtain ⟨l1, l2, l3⟩ := loL_ok X Y (fun i => (rowL X Y S n).getD i 0) n (rowL X Y S n).length hrg
  have lne := l3 h0
  obtain ⟨u1, u2, u3⟩ := upZ_ok X Y (fun i => (rowL X Y S n).getD i 0) ((loL X Y (fun i => (rowL X Y S n).getD i 0) (rowL X Y S n).length).length + 1) n ((rowL X Y S n).length - 1) _ (fun j hj => hrg j (by omega)) l1 (by intro e; rw [e] at lne; exact absurd lne (by decide))
  unfold hulS hulR
  exact ⟨u1, by omega, List.length_pos_iff.mpr u3⟩
/-- Hull.build -/
theorem buildC (K : Nat) (hK : 4000 ≤ K) {n : Nat} {x y : Nat → Int32} {X Y : Nat → Int} (hX : Pts n x y X Y) (S : Int32) (h0 : 0 < (rowL X Y S n).length) (size : Int32) (ch gx gy sor : Nat → Int32) : ∃ ch' gx' gy' sor', fX2_build K size ch gx gy sor (nI n) x y S = some (nI (hulS X Y S n).length, ch', gx', gy', sor') ∧ stk ch' 0 (hulS X Y S n) ∧ stv gx' X (hulS X Y S n) ∧ stv gy' Y (hulS X Y S n) ∧ gx' (hulS X Y S n).length = gx' 0 ∧ gy' (hulS X Y S n).length = gy' 0 := by
  obtain ⟨hn, hXY⟩ := id hX
  obtain ⟨r1, r2, r3⟩ := rowL_ok X Y S n
  obtain ⟨sor', e1, e2⟩ := rowC K hK hX S K 0 sor (Nat.zero_le _) (by omega) (fun i v h => by simp [rowL] at h)
  have hsr := hl_rg e2 r2
  obtain ⟨hq1, hq2, hq3⟩ := hulS_ok X Y S n hn h0
  unfold fX2_build
  rw [show fX2_build_L5 K S (nI n) x y K (0 : Int32) (0 : Int32) sor = _ from e1]
  simp only [b2, b4, Option.bind_some]
  obtain ⟨ch1, gx1, gy1, f1, f2, f3, f4⟩ := c46 K hK hX (rg := fun i => (rowL X Y S n).getD i 0) (m := (rowL X Y S n).length) (by omega) hsr K 0 ch gx gy (Nat.zero_le _) (by omega) trivial trivial trivial
  rw [show fX2_build_L46 K (nI (rowL X Y S n).length) sor' x y K (0 : Int32) (0 : Int32) ch gx gy = _ from f1]
  obtain ⟨l1, l2, l3⟩ := loL_ok X Y (fun i => (rowL X Y S n).getD i 0) n (rowL X Y S n).length (fun j hj => (hsr j hj).2)
  simp only [Option.bind_some, xl, nI_1]
  obtain ⟨ch2, gx2, gy2, g1, g2, g3, g4⟩ := c84 K hK hX (sor := sor') (rg := fun i => (rowL X Y S n).getD i 0) (kept := (loL X Y (fun i => (rowL X Y S n).getD i 0) (rowL X Y S n).length).length + 1) (by omega) ((rowL X Y S n).length - 1) K (loL X Y (fun i => (rowL X Y S n).getD i 0) (rowL X Y S n).length) ch1 gx1 gy1 (fun i hi => hsr i (by omega)) (by omega) (by omega) (by omega) l1 f2 f3 f4
  rw [show nI (rowL X Y S n).length - (2 : Int32) = iI ((((rowL X Y S n).length - 1 : Nat) : Int) - 1) from by rw [nI_iI, show (2 : Int32) = iI 2 from rfl, iI_sub]; congr 1; omega, g1]
  simp only [Option.bind_some, jn]
  by_cases c : (rowL X Y S n).length ≤ 1
  · have hm1 : (rowL X Y S n).length - 1 = 0 := by omega
    have hH : upY X Y (fun i => (rowL X Y S n).getD i 0) ((loL X Y (fun i => (rowL X Y S n).getD i 0) (rowL X Y S n).length).length + 1) ((rowL X Y S n).length - 1) (loL X Y (fun i => (rowL X Y S n).getD i 0) (rowL X Y S n).length) = hulS X Y S n := by
      unfold hulS hulR
      rw [hm1]
      rfl
    rw [hH] at g2 g3 g4 ⊢
    rw [if_pos (show nI (rowL X Y S n).length ≤ (1 : Int32) from (show nI (rowL X Y S n).length ≤ nI 1 from nI_le c (by decide)))]
    simp only [gd_t (inb_nI (show (hulS X Y S n).length < 48 by omega) (by decide)), nI_clamp (show (hulS X Y S n).length < 2 ^ 31 by omega), show (0 : Int32).toNatClampNeg = 0 from rfl]
    exact ⟨_, _, _, _, rfl, g2, stv_upd (Nat.le_refl _) g3, stv_upd (Nat.le_refl _) g4, by rw [upd_at, upd_ne (by omega)], by rw [upd_at, upd_ne (by omega)]⟩
  · obtain ⟨k, hk⟩ : ∃ k, (rowL X Y S n).length - 1 = k + 1 := ⟨(rowL X Y S n).length - 2, by omega⟩
    have hH : upY X Y (fun i => (rowL X Y S n).getD i 0) ((loL X Y (fun i => (rowL X Y S n).getD i 0) (rowL X Y S n).length).length + 1) ((rowL X Y S n).length - 1) (loL X Y (fun i => (rowL X Y S n).getD i 0) (rowL X Y S n).length) = (rowL X Y S n).getD 0 0 :: hulS X Y S n := by
      unfold hulS hulR
      rw [hk, upYZ]
    rw [hH] at g2 g3 g4 ⊢
    rw [if_neg (show ¬ nI (rowL X Y S n).length ≤ (1 : Int32) from (show ¬ nI (rowL X Y S n).length ≤ nI 1 from nI_ge (by omega) (by omega))), List.length_cons, show nI ((hulS X Y S n).length + 1) - (1 : Int32) = nI (hulS X Y S n).length from nI_pred _]
    simp only [gd_t (inb_nI (show (hulS X Y S n).length < 48 by omega) (by decide)), nI_clamp (show (hulS X Y S n).length < 2 ^ 31 by omega), show (0 : Int32).toNatClampNeg = 0 from rfl]
    exact ⟨_, _, _, _, rfl, g2.2, stv_upd (Nat.le_refl _) g3.2, stv_upd (Nat.le_refl _) g4.2, by rw [upd_at, upd_ne (by omega)], by rw [upd_at, upd_ne (by omega)]⟩
