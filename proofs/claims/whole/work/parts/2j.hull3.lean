theorem m16 (K : Nat) (hK : 4000 ≤ K) {n : Nat} {px py : Nat → Int32} {X Y : Nat → Int} (hX : Pts n px py X Y) {row : Nat → Int32} {rg : Nat → Nat} {m base : Nat} (hm : m ≤ 24) (hb : base + m ≤ 72) (hs : ∀ i : Nat, i < m → row i = nI (rg i) ∧ rg i < n) : ∀ (fu i : Nat) (cor : Nat → Int32), i ≤ m → m - i < fu → stk cor base (loL X Y rg i) → ∃ cor', fX12_laysHull_L16 K (nI base) (nI m) px py row fu (nI (loL X Y rg i).length) (nI i) cor = some (nI (loL X Y rg m).length, cor') ∧ stk cor' base (loL X Y rg m) ∧ ∀ j : Nat, j < base → cor' j = cor j := by
  intro fu
  induction fu with
  | zero => intro i cor h1 h2; omega
  | succ fu ih =>
    intro i cor h1 h2 hc
    rw [fX12_laysHull_L16]
    by_cases c : i = m
    · subst c
      rw [if_pos (nI_le (Nat.le_refl i) (by omega))]
      exact ⟨cor, rfl, hc, fun _ _ => rfl⟩
    · rw [if_neg (nI_ge (show i < m by omega) (by omega))]
      obtain ⟨l1, l2, -⟩ := loL_ok X Y rg n i (fun j hj => (hs j (by omega)).2)
      obtain ⟨s1, s2⟩ := hs i (by omega)
      have hpl := popR_len X Y 2 (rg i) (loL X Y rg i)
      rw [popM25 K hX s2 (by omega) s1 (loL X Y rg i) K l1 hc (by omega) (by omega)]
      simp only [b1, Option.bind_some, gd_t (inb_nI (show i < 24 by omega) (by decide)), nI_add, gd_t (inb_nI (show base + (popR X Y 2 (rg i) (loL X Y rg i)).length < 72 by omega) (by decide)), nI_clamp (show i < 2 ^ 31 by omega), nI_clamp (show base + (popR X Y 2 (rg i) (loL X Y rg i)).length < 2 ^ 31 by omega), s1, nI_1, xl]
      obtain ⟨cor', e1, e2, e3⟩ := ih (i + 1) (upd cor (base + (popR X Y 2 (rg i) (loL X Y rg i)).length) (nI (rg i))) (by omega) (by omega) ⟨by rw [upd_at], stk_upd (Nat.le_refl _) (stk_pop hc)⟩
      refine ⟨cor', e1, e2, fun j hj => ?_⟩
      rw [e3 j hj, upd_ne (by omega)]
theorem m112 (K : Nat) (hK : 4000 ≤ K) {n : Nat} {px py : Nat → Int32} {X Y : Nat → Int} (hX : Pts n px py X Y) {row : Nat → Int32} {rg : Nat → Nat} {base low : Nat} (hlow : 1 ≤ low) (hlow2 : low ≤ 48) : ∀ (k fu : Nat) (rc : List Nat) (cor : Nat → Int32), (∀ i : Nat, i < k → row i = nI (rg i) ∧ rg i < n) → k ≤ 24 → k < fu → base + rc.length + k ≤ 72 → (∀ q ∈ rc, q < n) → stk cor base rc → ∃ cor' e, fX12_laysHull_L112 K (nI base) (nI low) px py row fu (nI rc.length) (iI ((k : Int) - 1)) cor = some e ∧ (e = .inl (nI (upZ X Y rg (low + 1) k rc).length, cor') ∨ e = .inr (nI (upZ X Y rg (low + 1) k rc).length, cor')) ∧ stk cor' base (upZ X Y rg (low + 1) k rc) ∧ ∀ j : Nat, j < base → cor' j = cor j := by
  intro k
  induction k with
  | zero =>
    intro fu rc cor _ _ hf _ _ hc
    obtain ⟨fu, rfl⟩ : ∃ m, fu = m + 1 := ⟨fu - 1, by omega⟩
    rw [fX12_laysHull_L112, if_pos (by decide)]
    exact ⟨cor, _, rfl, Or.inr rfl, hc, fun _ _ => rfl⟩
  | succ k ih =>
    intro fu rc cor hs hk hf hl hq hc
    obtain ⟨fu, rfl⟩ : ∃ m, fu = m + 1 := ⟨fu - 1, by omega⟩
    have hi : iI (((k + 1 : Nat) : Int) - 1) = nI k := by rw [nI_iI]; congr 1; omega
    obtain ⟨s1, s2⟩ := hs k (by omega)
    have hpl := popR_len X Y (low + 1) (rg k) rc
    rw [fX12_laysHull_L112, hi, if_neg (nI_pos (by omega)), popM117 K hX s2 (by omega) s1 hlow hlow2 rc K hq hc (by omega) (by omega)]
    simp only [b1, Option.bind_some]
    cases k with
    | zero =>
      rw [if_pos (show nI 0 = 0 from rfl)]
      exact ⟨cor, _, rfl, Or.inl rfl, stk_pop hc, fun _ _ => rfl⟩
    | succ k =>
      rw [if_neg (nI_ne0 (by omega) (by omega))]
      simp only [gd_t (inb_nI (show k + 1 < 24 by omega) (by decide)), nI_add, gd_t (inb_nI (show base + (popR X Y (low + 1) (rg (k + 1)) rc).length < 72 by omega) (by decide)), nI_clamp (show k + 1 < 2 ^ 31 by omega), nI_clamp (show base + (popR X Y (low + 1) (rg (k + 1)) rc).length < 2 ^ 31 by omega), s1, nI_1, xl]
      rw [show nI (k + 1) + (-1 : Int32) = iI (((k + 1 : Nat) : Int) - 1) from by rw [nI_iI, show (-1 : Int32) = iI (-1) from by decide, iI_add]; congr 1]
      obtain ⟨cor', e, g1, g2, g3, g4⟩ := ih fu (rg (k + 1) :: popR X Y (low + 1) (rg (k + 1)) rc) (upd cor (base + (popR X Y (low + 1) (rg (k + 1)) rc).length) (nI (rg (k + 1)))) (fun i hi => hs i (by omega)) (by omega) (by omega) (by simp only [List.length_cons]; omega) (fun q hq2 => by
        rcases List.mem_cons.mp hq2 with rfl | hq2
        · exact s2
        · exact hq q (popR_mem hq2)) ⟨by rw [upd_at], stk_upd (Nat.le_refl _) (stk_pop hc)⟩
      refine ⟨cor', e, g1, g2, g3, fun j hj => ?_⟩
      rw [g4 j hj, upd_ne (by omega)]
/-- laysHull of the reference -/
theorem laysM (K : Nat) (hK : 4000 ≤ K) {n : Nat} {px py : Nat → Int32} {X Y : Nat → Int} (hX : Pts n px py X Y) (S : Int32) (h0 : 0 < (rowL X Y S n).length) (w : Nat) (hw : w < 3) (hb : 24 * w + 2 * (rowL X Y S n).length ≤ 73) (rm : Int32) (cor cors row : Nat → Int32) : ∃ cor' row', fX12_laysHull K (nI n) rm px py cor cors row (nI w) S = some (nI (rowL X Y S n).length, cor', upd cors w (nI (hulS X Y S n).length), row') ∧ stk cor' (24 * w) (hulS X Y S n) ∧ ∀ j : Nat, j < 24 * w → cor' j = cor j := by
  obtain ⟨hn, hXY⟩ := id hX
  obtain ⟨r1, r2, r3⟩ := rowL_ok X Y S n
  obtain ⟨row', e1, e2⟩ := rowM K hK hX S K 0 row (Nat.zero_le _) (by omega) (fun i v h => by simp [rowL] at h)
  have hsr := hl_rg e2 r2
  unfold fX12_laysHull fX12_laysRow
  rw [show fX12_laysRow_L7 K S (nI n) px py K (0 : Int32) (0 : Int32) row = _ from e1]
  simp only [b2, Option.bind_some, xl]
  rw [show (24 : Int32) * nI w = nI (24 * w) from by rw [nI_iI, nI_iI, show (24 : Int32) = iI 24 from rfl, iI_mul]; congr 1]
  obtain ⟨cor1, f1, f2, f3⟩ := m16 K hK hX (row := row') (rg := fun i => (rowL X Y S n).getD i 0) (m := (rowL X Y S n).length) (base := 24 * w) (by omega) (by omega) hsr K 0 cor (Nat.zero_le _) (by omega) trivial
  rw [show fX12_laysHull_L16 K (nI (24 * w)) (nI (rowL X Y S n).length) px py row' K (0 : Int32) (0 : Int32) cor = _ from f1]
  obtain ⟨l1, l2, l3⟩ := loL_ok X Y (fun i => (rowL X Y S n).getD i 0) n (rowL X Y S n).length (fun j hj => (hsr j hj).2)
  have lpos := l3 h0
  simp only [Option.bind_some, jn]
  obtain ⟨cor2, e, g1, g2, g3, g4⟩ := m112 K hK hX (row := row') (rg := fun i => (rowL X Y S n).getD i 0) (base := 24 * w) (low := (loL X Y (fun i => (rowL X Y S n).getD i 0) (rowL X Y S n).length).length) (by omega) (by omega) ((rowL X Y S n).length - 1) K (loL X Y (fun i => (rowL X Y S n).getD i 0) (rowL X Y S n).length) cor1 (fun i hi => hsr i (by omega)) (by omega) (by omega) (by omega) l1 f2
  rw [show nI (rowL X Y S n).length - (2 : Int32) = iI ((((rowL X Y S n).length - 1 : Nat) : Int) - 1) from by rw [nI_iI, show (2 : Int32) = iI 2 from rfl, iI_sub]; congr 1; omega, g1]
  refine ⟨cor2, row', ?_, g3, fun j hj => by rw [g4 j hj, f3 j hj]⟩
  rcases g2 with rfl | rfl
  · simp only [sm, Option.bind_some, Sum.elim_inl, u2, gd_t (inb_nI hw (by decide)), nI_clamp (show w < 2 ^ 31 by omega)]
    rfl
  · simp only [sm, Option.bind_some, Sum.elim_inr, u2, gd_t (inb_nI hw (by decide)), nI_clamp (show w < 2 ^ 31 by omega)]
    rfl
theorem Rel_pts {size : Int32} {x y col load : Nat → Int32} {cx cy : Int32} {tape : Nat → Int32} {len fk fp many : Int32} {px py mcol mload : Nat → Int32} {mcx mcy : Int32} {mtape : Nat → Int32} {taped mfk mfp : Int32} (hR : Rel size x y col load cx cy tape len fk fp many px py mcol mload mcx mcy mtape taped mfk mfp) : ∃ n : Nat, size = nI n ∧ many = nI n ∧ Pts n x y (fun i => (x i).toInt) (fun i => (y i).toInt) ∧ Pts n px py (fun i => (x i).toInt) (fun i => (y i).toInt) := by
  obtain ⟨⟨n, hn, e1, e2, h⟩, -⟩ := hR
  refine ⟨n, e1, e2, ⟨hn, fun i hi => ?_⟩, ⟨hn, fun i hi => ?_⟩⟩
  · obtain ⟨-, h1, h2, -⟩ := h i hi
    exact ⟨(iI_toInt _).symm, (iI_toInt _).symm, h1, h2⟩
  · obtain ⟨⟨a1, a2, -⟩, h1, h2, -⟩ := h i hi
    exact ⟨by rw [a1]; exact (iI_toInt _).symm, by rw [a2]; exact (iI_toInt _).symm, h1, h2⟩
/-- the i-th corner -/
def hg (H : List Nat) (i : Nat) : Nat := H.reverse.getD i 0
theorem hg_cons (b : Nat) (r : List Nat) (i : Nat) : hg (b :: r) i = if i < r.length then hg r i else if i = r.length then b else 0 := by
  unfold hg
  rw [List.reverse_cons, List.getD_eq_getElem?_getD, List.getD_eq_getElem?_getD]
  by_cases c : i < r.length
  · rw [if_pos c, List.getElem?_append_left (by simpa using c)]
  · rw [if_neg c, List.getElem?_append_right (by simpa using Nat.not_lt.mp c), List.length_reverse]
    by_cases d : i = r.length
    · rw [if_pos d, d, Nat.sub_self]; rfl
    · rw [if_neg d]
      have : ∃ k, i - r.length = k + 1 := ⟨i - r.length - 1, by omega⟩
      obtain ⟨k, hk⟩ := this
      rw [hk]; rfl
theorem stk_hg {f : Nat → Int32} {base : Nat} : ∀ {H : List Nat}, stk f base H → ∀ i : Nat, i < H.length → f (base + i) = nI (hg H i) := by
  intro H
  induction H with
  | nil => intro _ i hi; simp at hi
  | cons b r ih =>
    intro h i hi
    simp only [List.length_cons] at hi
    rw [hg_cons]
    by_cases c : i < r.length
    · rw [if_pos c]; exact ih h.2 i c
    · have e : i = r.length := by omega
      rw [if_neg c, if_pos e, e]; exact h.1
theorem stv_hg {g : Nat → Int32} {V : Nat → Int} : ∀ {H : List Nat}, stv g V H → ∀ i : Nat, i < H.length → g i = iI (V (hg H i)) := by
  intro H
  induction H with
  | nil => intro _ i hi; simp at hi
  | cons b r ih =>
    intro h i hi
    simp only [List.length_cons] at hi
    rw [hg_cons]
    by_cases c : i < r.length
    · rw [if_pos c]; exact ih h.2 i c
    · have e : i = r.length := by omega
      rw [if_neg c, if_pos e, e]; exact h.1
theorem hg_mem {H : List Nat} {i : Nat} (h : i < H.length) : hg H i ∈ H := by
  unfold hg
  rw [List.getD_eq_getElem?_getD, List.getElem?_eq_getElem (by simpa using h)]
  exact List.mem_reverse.mp (List.getElem_mem _)
theorem jrem_lt {i m : Nat} (h : i < m) (hm : m < 1000) : jrem (nI i) (nI m) = nI i := by
  unfold jrem
  have e := @Int32.ofInt_tdiv (i : Int) (m : Int) (by rw [Int32.toInt_minValue]; omega) (by rw [Int32.toInt_maxValue]; omega) (by rw [Int32.toInt_minValue]; omega) (by rw [Int32.toInt_maxValue]; omega)
  have e2 : nI i / nI m = iI ((i : Int).tdiv (m : Int)) := by rw [nI_iI, nI_iI]; exact e.symm
  rw [e2, show (i : Int).tdiv (m : Int) = 0 from by rw [Int.tdiv_eq_ediv_of_nonneg (by omega)]; exact Int.ediv_eq_zero_of_lt (by omega) (by omega)]
  show nI i - (0 : Int32) * nI m = nI i
  rw [show (0 : Int32) = iI 0 from rfl, nI_iI, nI_iI, iI_mul, iI_sub]
  congr 1
  omega
theorem jrem_self {m : Nat} (h : 0 < m) (hm : m < 1000) : jrem (nI m) (nI m) = nI 0 := by
  unfold jrem
  have e := @Int32.ofInt_tdiv (m : Int) (m : Int) (by rw [Int32.toInt_minValue]; omega) (by rw [Int32.toInt_maxValue]; omega) (by rw [Int32.toInt_minValue]; omega) (by rw [Int32.toInt_maxValue]; omega)
  have e2 : nI m / nI m = iI ((m : Int).tdiv (m : Int)) := by rw [nI_iI]; exact e.symm
  rw [e2, Int.tdiv_self (by omega)]
  rw [nI_iI, nI_iI, iI_mul, iI_sub]
  congr 1
  omega
/-- the next corner's number, the first one's behind the last -/
def cy (m i : Nat) : Nat := if i < m then i else 0
theorem cornerM (K : Nat) {cor cors : Nat → Int32} {w : Nat} (hw : w < 3) {H : List Nat} (h0 : 0 < H.length) (hl : H.length ≤ 48) (hc : cors w = nI H.length) (hs : stk cor (24 * w) H) (hb : 24 * w + H.length ≤ 72) {i : Nat} (hi : i ≤ H.length) : fX12_cornerOf K cor cors (nI w) (nI i) = some (nI (hg H (cy H.length i))) := by
  unfold fX12_cornerOf
  simp only [gd_t (inb_nI hw (by decide)), nI_clamp (show w < 2 ^ 31 by omega), hc, xl]
  rw [gd_t (by simp [nI_ne0 h0 (show H.length < 2 ^ 31 by omega)])]
  rw [show (24 : Int32) * nI w = nI (24 * w) from by rw [nI_iI, nI_iI, show (24 : Int32) = iI 24 from rfl, iI_mul]; congr 1]
  unfold cy
  by_cases c : i < H.length
  · rw [jrem_lt c (by omega), nI_add, gd_t (inb_nI (show 24 * w + i < 72 by omega) (by decide)), nI_clamp (by omega), stk_hg hs i c, if_pos c]
  · have e : i = H.length := by omega
    subst e
    rw [jrem_self h0 (by omega), nI_add, gd_t (inb_nI (show 24 * w + 0 < 72 by omega) (by decide)), nI_clamp (by omega), stk_hg hs 0 h0, if_neg (by omega)]
theorem ev_corners (K : Nat) (hK : 4000 ≤ K) (x_cloud_size : Int32) (x_cloud_x : Nat → Int32) (x_cloud_y : Nat → Int32) (x_cloud_colour : Nat → Int32) (x_cloud_load : Nat → Int32) (x_cloud_centreX : Int32) (x_cloud_centreY : Int32) (x_reader_tape : Nat → Int32) (x_reader_length : Int32) (x_reader_faultKind : Int32) (x_reader_faultPlace : Int32) (m_many : Int32) (m_px : Nat → Int32) (m_py : Nat → Int32) (m_colour : Nat → Int32) (m_load : Nat → Int32) (m_cx : Int32) (m_cy : Int32) (m_tape : Nat → Int32) (m_taped : Int32) (m_faultKind : Int32) (m_faultPlace : Int32) (x_hull_size : Int32) (x_hull_chain : Nat → Int32) (x_hull_x : Nat → Int32) (x_hull_y : Nat → Int32) (x_hull_sorted : Nat → Int32) (m_rowMany : Int32) (m_corner : Nat → Int32) (m_corners : Nat → Int32) (m_row : Nat → Int32) (a1 : Int32) (hR : Rel x_cloud_size x_cloud_x x_cloud_y x_cloud_colour x_cloud_load x_cloud_centreX x_cloud_centreY x_reader_tape x_reader_length x_reader_faultKind x_reader_faultPlace m_many m_px m_py m_colour m_load m_cx m_cy m_tape m_taped m_faultKind m_faultPlace) : ∃ (r : Int32) (o_x_hull_size : Int32) (o_x_hull_chain : Nat → Int32) (o_x_hull_x : Nat → Int32) (o_x_hull_y : Nat → Int32) (o_x_hull_sorted : Nat → Int32) (o_m_rowMany : Int32) (o_m_corner : Nat → Int32) (o_m_corners : Nat → Int32) (o_m_row : Nat → Int32), fX11_corners K x_cloud_size x_cloud_x x_cloud_y x_hull_size x_hull_chain x_hull_x x_hull_y x_hull_sorted a1 = some (r, o_x_hull_size, o_x_hull_chain, o_x_hull_x, o_x_hull_y, o_x_hull_sorted) ∧ fX12_corners K m_many m_rowMany m_px m_py m_corner m_corners m_row a1 = some (r, o_m_rowMany, o_m_corner, o_m_corners, o_m_row) := by
  obtain ⟨n, rfl, rfl, hXc, hXm⟩ := Rel_pts hR
  unfold fX11_corners fX12_corners b1
  rcases hasSet_c K n hXc.1 a1 with ⟨c, c1, c2⟩ | ⟨-, c1, c2⟩
  · rw [c1, c2]
    have h0 := rowL_pos (X := fun i => (x_cloud_x i).toInt) (Y := fun i => (x_cloud_y i).toInt) n (isSt_bit hXc.1 c)
    obtain ⟨-, -, r3⟩ := rowL_ok (fun i => (x_cloud_x i).toInt) (fun i => (x_cloud_y i).toInt) a1 n
    obtain ⟨ch', gx', gy', sor', e1, -⟩ := buildC K hK hXc a1 h0 x_hull_size x_hull_chain x_hull_x x_hull_y x_hull_sorted
    obtain ⟨cor', row', f1, -⟩ := laysM K hK hXm a1 h0 0 (by decide) (by have := hXc.1; omega) m_rowMany m_corner m_corners m_row
    simp only [Option.bind_some, if_neg one_ne, e1, b5, b4]
    rw [show (0 : Int32) = nI 0 from rfl, f1]
    simp only [Option.bind_some, nI_clamp (show 0 < 2 ^ 31 by decide), upd_at]
    exact ⟨_, _, _, _, _, _, _, _, _, _, rfl, rfl⟩
  · rw [c1, c2]
    exact ⟨_, _, _, _, _, _, _, _, _, _, rfl, rfl⟩
