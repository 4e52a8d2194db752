--@ needs 2a.num 2b.ev1 2d.gcd 2e.row 2f.row2 2g.bits 2h.hull 2i.hull2 2j.hull3 2k.hull4 2l.side
/-! products and their signs -/
theorem mnp {a b : Int} (ha : a ≤ 0) (hb : 0 ≤ b) : a * b ≤ 0 := by
  have := Int.mul_nonneg (show 0 ≤ -a by omega) hb
  rw [Int.neg_mul] at this; omega
theorem mpn {a b : Int} (ha : 0 ≤ a) (hb : b ≤ 0) : a * b ≤ 0 := by
  have := mnp hb ha
  rw [Int.mul_comm] at this; exact this
theorem mnn {a b : Int} (ha : a ≤ 0) (hb : b ≤ 0) : 0 ≤ a * b := by
  have := Int.mul_nonneg (show 0 ≤ -a by omega) (show 0 ≤ -b by omega)
  rw [Int.neg_mul_neg] at this; exact this
theorem mnn' {a b : Int} (ha : a < 0) (hb : b < 0) : 0 < a * b := by
  have := Int.mul_pos (show 0 < -a by omega) (show 0 < -b by omega)
  rw [Int.neg_mul_neg] at this; exact this
theorem mpn' {a b : Int} (ha : 0 < a) (hb : b < 0) : a * b < 0 := by
  have := Int.mul_pos ha (show 0 < -b by omega)
  rw [Int.mul_neg] at this; omega
theorem mnp' {a b : Int} (ha : a < 0) (hb : 0 < b) : a * b < 0 := by
  have := mpn' hb ha
  rw [Int.mul_comm] at this; exact this
theorem sqn (a : Int) : 0 ≤ a * a := by
  by_cases h : 0 ≤ a
  · exact Int.mul_nonneg h h
  · exact mnn (by omega) (by omega)
theorem sqp {a : Int} (h : a ≠ 0) : 0 < a * a := by
  by_cases h : 0 < a
  · exact Int.mul_pos h h
  · exact mnn' (by omega) (by omega)
theorem sq0 {a : Int} (h : a * a ≤ 0) : a = 0 := by
  by_cases c : a = 0
  · exact c
  · have := sqp c; omega
theorem ssq0 {a b : Int} (h : a * a + b * b ≤ 0) : a = 0 ∧ b = 0 := by
  have h1 := sqn a
  have h2 := sqn b
  exact ⟨sq0 (by omega), sq0 (by omega)⟩
theorem ssqp {a b : Int} (h : ¬ (a = 0 ∧ b = 0)) : 0 < a * a + b * b := by
  by_cases c : a * a + b * b ≤ 0
  · exact absurd (ssq0 c) h
  · omega
theorem div_le {a b : Int} (ha : 0 < a) (h : a * b ≤ 0) : b ≤ 0 := by
  by_cases c : 0 < b
  · have := Int.mul_pos ha c; omega
  · omega
theorem div_ge {a b : Int} (ha : 0 < a) (h : 0 ≤ a * b) : 0 ≤ b := by
  by_cases c : b < 0
  · have := mpn' ha c; omega
  · omega
theorem div_lt {a b : Int} (ha : 0 < a) (h : a * b < 0) : b < 0 := by
  by_cases c : 0 ≤ b
  · have := Int.mul_nonneg (show 0 ≤ a by omega) c; omega
  · omega
theorem div_gt {a b : Int} (ha : 0 < a) (h : 0 < a * b) : 0 < b := by
  by_cases c : b ≤ 0
  · have := mpn (show 0 ≤ a by omega) c; omega
  · omega
theorem div_eq0 {a b : Int} (ha : 0 < a) (h : a * b = 0) : b = 0 := by
  have h1 := div_le ha (show a * b ≤ 0 by omega)
  have h2 := div_ge ha (show 0 ≤ a * b by omega)
  omega
theorem uv_btw {u v : Int} (h : u ≤ v) : (u ≤ 0 ∧ 0 ≤ v) ↔ u * v ≤ 0 := by
  constructor
  · rintro ⟨a, b⟩; exact mnp a b
  · intro hh
    by_cases c1 : 0 < u
    · have := Int.mul_pos c1 (show 0 < v by omega); omega
    · by_cases c2 : v < 0
      · have := mnn' (show u < 0 by omega) c2; omega
      · omega
theorem uv_btw2 (u v : Int) : (¬ 0 < (if v < u then v else u) ∧ ¬ (if u < v then v else u) < 0) ↔ u * v ≤ 0 := by
  by_cases c : v < u
  · rw [if_pos c, if_neg (by omega), Int.mul_comm, ← uv_btw (show v ≤ u by omega)]; omega
  · by_cases d : u < v
    · rw [if_neg c, if_pos d, ← uv_btw (show u ≤ v by omega)]; omega
    · rw [if_neg c, if_neg d, ← uv_btw (show u ≤ v by omega)]; omega
theorem texp {a b c d P Q L : Int} (ha : -20 ≤ a ∧ a ≤ 20) (hb : -20 ≤ b ∧ b ≤ 20) (hc : -20 ≤ c ∧ c ≤ 20) (hd : -20 ≤ d ∧ d ≤ 20) : ((iI c - iI a).toInt64 * (jJ Q - (iI b).toInt64 * jJ L)) - ((iI d - iI b).toInt64 * (jJ P - (iI a).toInt64 * jJ L)) = jJ ((c - a) * (Q - b * L) - (d - b) * (P - a * L)) := by
  rw [iI_sub, iI_sub, iI_long (show s32 (c - a) from ⟨by omega, by omega⟩), iI_long (show s32 (d - b) from ⟨by omega, by omega⟩), iI_long (show s32 a from ⟨by omega, by omega⟩), iI_long (show s32 b from ⟨by omega, by omega⟩)]
  simp only [jJ_mul, jJ_sub]
def hulM (K : Nat) (px py cor cors : Nat → Int32) (w : Nat) (U V : Nat → Int) (m : Nat) : Prop := w < 3 ∧ cors w = nI m ∧ ∀ i : Nat, i ≤ m → ∃ c : Nat, c < 24 ∧ fX12_cornerOf K cor cors (nI w) (nI i) = some (nI c) ∧ px c = iI (U (cy m i)) ∧ py c = iI (V (cy m i))
theorem hulM_of (K : Nat) {n : Nat} {px py : Nat → Int32} {X Y : Nat → Int} (hX : Pts n px py X Y) {cor cors : Nat → Int32} {w : Nat} (hw : w < 3) {H : List Nat} (hq : ∀ q ∈ H, q < n) (h0 : 0 < H.length) (hl : H.length ≤ 48) (hc : cors w = nI H.length) (hs : stk cor (24 * w) H) (hb : 24 * w + H.length ≤ 72) : hulM K px py cor cors w (fun i => X (hg H i)) (fun i => Y (hg H i)) H.length := by
  refine ⟨hw, hc, fun i hi => ⟨hg H (cy H.length i), ?_, cornerM K hw h0 hl hc hs hb hi, ?_, ?_⟩⟩
  · have := hq _ (hg_mem (cy_lt (i := i) h0)); have := hX.1; omega
  · exact (hX.2 _ (hq _ (hg_mem (cy_lt (i := i) h0)))).1
  · exact (hX.2 _ (hq _ (hg_mem (cy_lt (i := i) h0)))).2.1
theorem okU_of {n : Nat} {px py : Nat → Int32} {X Y : Nat → Int} (hX : Pts n px py X Y) {H : List Nat} (hq : ∀ q ∈ H, q < n) : okU (fun i => X (hg H i)) (fun i => Y (hg H i)) H.length := fun i hi => (hX.2 _ (hq _ (hg_mem hi))).2.2
theorem edgesM3 (K : Nat) {px py cor cors : Nat → Int32} {w : Nat} {U V : Nat → Int} {m : Nat} (h : hulM K px py cor cors w U V m) (hm : m < 48) (h3 : 3 ≤ m) : fX12_edges K cors (nI w) = some (nI m) := by
  obtain ⟨hw, hc, -⟩ := h
  unfold fX12_edges
  simp only [gd_t (inb_nI hw (by decide)), nI_clamp (show w < 2 ^ 31 by omega), hc]
  rw [if_neg (show ¬ nI m ≤ (2 : Int32) from (show ¬ nI m ≤ nI 2 from nI_ge (by omega) (by omega)))]
theorem edgesM2 (K : Nat) {px py cor cors : Nat → Int32} {w : Nat} {U V : Nat → Int} {m : Nat} (h : hulM K px py cor cors w U V m) (h0 : 0 < m) (h3 : m < 3) : fX12_edges K cors (nI w) = some (nI (m - 1)) := by
  obtain ⟨hw, hc, -⟩ := h
  unfold fX12_edges
  simp only [gd_t (inb_nI hw (by decide)), nI_clamp (show w < 2 ^ 31 by omega), hc]
  rw [if_pos (show nI m ≤ (2 : Int32) from (show nI m ≤ nI 2 from nI_le (by omega) (by decide)))]
  obtain ⟨k, rfl⟩ : ∃ k, m = k + 1 := ⟨m - 1, by omega⟩
  rw [show nI (k + 1) - (1 : Int32) = nI k from nI_pred k]; rfl
theorem sideMl (K : Nat) {px py cor cors : Nat → Int32} {w : Nat} {U V : Nat → Int} {m : Nat} (h : hulM K px py cor cors w U V m) (hm : m < 48) (h3 : 3 ≤ m) (hU : okU U V m) {P Q L : Int} (hP : okP P Q L) : ∀ (fu i : Nat), i ≤ m → m - i < fu → anyN (fun i => decide (tE U V m P Q L i < 0)) i = false → fX12_sideOf_L20 K (nI w) (jJ P) (jJ Q) (jJ L) px py cor cors fu (rf U V m P Q L i) (nI i) = if anyN (fun i => decide (tE U V m P Q L i < 0)) m = true then some (.inl ()) else some (.inr (rf U V m P Q L m)) := by
  intro fu
  induction fu with
  | zero => intro i h1 h2; omega
  | succ fu ih =>
    intro i h1 h2 hno
    rw [fX12_sideOf_L20, edgesM3 K h hm h3]
    simp only [b1, Option.bind_some]
    by_cases c : i = m
    · subst c
      rw [if_pos (nI_le (Nat.le_refl i) (by omega)), hno]; rfl
    · have him : i < m := by omega
      rw [if_neg (nI_ge him (by omega))]
      obtain ⟨hw, hc, hcor⟩ := id h
      obtain ⟨ca, ca1, ca2, ca3, ca4⟩ := hcor i (by omega)
      obtain ⟨cb, cb1, cb2, cb3, cb4⟩ := hcor (i + 1) (by omega)
      have ci : cy m i = i := if_pos him
      rw [ci] at ca3 ca4
      have hr := tE_rng hU hP him
      have s : s64 (tE U V m P Q L i) := ⟨by omega, by omega⟩
      obtain ⟨u1, u2⟩ := hU i him
      obtain ⟨v1, v2⟩ := hU (cy m (i + 1)) (cy_lt (by omega))
      simp only [nI_1, ca2, cb2, Option.bind_some, gd_t (inb_nI ca1 (by decide)), gd_t (inb_nI cb1 (by decide)), nI_clamp (show ca < 2 ^ 31 by omega), nI_clamp (show cb < 2 ^ 31 by omega), ca3, ca4, cb3, cb4, texp u1 u2 v1 v2, xl, jn, gd_t (inb_nI hw (by decide)), nI_clamp (show w < 2 ^ 31 by omega), hc]
      rw [show (U (cy m (i + 1)) - U i) * (Q - V i * L) - (V (cy m (i + 1)) - V i) * (P - U i * L) = tE U V m P Q L i from rfl]
      simp only [j_lt0 s, j_eq0 s]
      by_cases d : tE U V m P Q L i < 0
      · have hn : anyN (fun i => decide (tE U V m P Q L i < 0)) m = true := anyN_iff.mpr ⟨i, him, by simpa using d⟩
        rw [if_pos d, if_pos hn]
      · rw [if_neg d, if_pos (show (3 : Int32) ≤ nI m from (show nI 3 ≤ nI m from nI_le h3 (by omega)))]
        have hno2 : anyN (fun i => decide (tE U V m P Q L i < 0)) (i + 1) = false := by
          rw [anyN, hno]; simpa using d
        have := ih (i + 1) (by omega) (by omega) hno2
        rw [← this]
        have er : rf U V m P Q L (i + 1) = if anyN (fun i => decide (tE U V m P Q L i = 0)) i = true then 1 else if tE U V m P Q L i = 0 then 1 else 0 := by
          unfold rf
          rw [anyN]
          cases anyN (fun i => decide (tE U V m P Q L i = 0)) i <;> simp
        rw [er]
        unfold rf
        cases anyN (fun i => decide (tE U V m P Q L i = 0)) i
        · by_cases z : tE U V m P Q L i = 0
          · simp [z]
          · simp [z]
        · simp
theorem jmin_i {a b : Int} (ha : s32 a) (hb : s32 b) : jmin (iI a) (iI b) = iI (if b < a then b else a) := by
  unfold jmin
  simp only [iI_lt hb ha]
  split <;> rfl
theorem jmax_i {a b : Int} (ha : s32 a) (hb : s32 b) : jmax (iI a) (iI b) = iI (if a < b then b else a) := by
  unfold jmax
  simp only [iI_lt ha hb]
  split <;> rfl
theorem min_mul {a b L : Int} (hL : 0 < L) : (if b < a then b else a) * L = if b * L < a * L then b * L else a * L := by
  by_cases c : b < a
  · rw [if_pos c, if_pos (Int.mul_lt_mul_of_pos_right c hL)]
  · rw [if_neg c, if_neg (by have := Int.mul_le_mul_of_nonneg_right (show a ≤ b by omega) (show 0 ≤ L by omega); omega)]
theorem max_mul {a b L : Int} (hL : 0 < L) : (if a < b then b else a) * L = if a * L < b * L then b * L else a * L := by
  by_cases c : a < b
  · rw [if_pos c, if_pos (Int.mul_lt_mul_of_pos_right c hL)]
  · rw [if_neg c, if_neg (by have := Int.mul_le_mul_of_nonneg_right (show b ≤ a by omega) (show 0 ≤ L by omega); omega)]
theorem btw1 {a b P L : Int} (ha : -20 ≤ a ∧ a ≤ 20) (hb : -20 ≤ b ∧ b ≤ 20) (hP : -1000000 ≤ P ∧ P ≤ 1000000) (hL : 1 ≤ L ∧ L ≤ 10000) : (¬ jJ P < ((jmin (iI a) (iI b)).toInt64) * jJ L ∧ ¬ ((jmax (iI a) (iI b)).toInt64) * jJ L < jJ P) ↔ (a * L - P) * (b * L - P) ≤ 0 := by
  have m1 := mulB (u := a) (v := L) (a := 20) (b := 10000) (by omega) (by omega)
  have m2 := mulB (u := b) (v := L) (a := 20) (b := 10000) (by omega) (by omega)
  rw [jmin_i ⟨by omega, by omega⟩ ⟨by omega, by omega⟩, jmax_i ⟨by omega, by omega⟩ ⟨by omega, by omega⟩]
  rw [iI_long (show s32 (if b < a then b else a) from by split <;> exact ⟨by omega, by omega⟩), iI_long (show s32 (if a < b then b else a) from by split <;> exact ⟨by omega, by omega⟩), jJ_mul, jJ_mul, min_mul (by omega), max_mul (by omega)]
  rw [jJ_lt (show s64 P from ⟨by omega, by omega⟩) (by split <;> exact ⟨by omega, by omega⟩), jJ_lt (by split <;> exact ⟨by omega, by omega⟩) (show s64 P from ⟨by omega, by omega⟩)]
  rw [← uv_btw2]
  generalize a * L = x
  generalize b * L = y
  by_cases c : y < x
  · rw [if_pos c, if_neg (show ¬ x < y by omega), if_pos (show y - P < x - P by omega), if_neg (show ¬ x - P < y - P by omega)]; omega
  · by_cases d : x < y
    · rw [if_neg c, if_pos d, if_neg (show ¬ y - P < x - P by omega), if_pos (show x - P < y - P by omega)]; omega
    · rw [if_neg c, if_neg d, if_neg (show ¬ y - P < x - P by omega), if_neg (show ¬ x - P < y - P by omega)]; omega
theorem betM (K : Nat) {px py : Nat → Int32} {c d : Nat} (hc : c < 24) (hd : d < 24) {a b e f P Q L : Int} (h1 : px c = iI a) (h2 : py c = iI b) (h3 : px d = iI e) (h4 : py d = iI f) (ha : -20 ≤ a ∧ a ≤ 20) (hb : -20 ≤ b ∧ b ≤ 20) (he : -20 ≤ e ∧ e ≤ 20) (hf : -20 ≤ f ∧ f ≤ 20) (hP : okP P Q L) : fX12_isBetween K px py (nI c) (nI d) (jJ P) (jJ Q) (jJ L) = some (if (a * L - P) * (e * L - P) ≤ 0 ∧ (b * L - Q) * (f * L - Q) ≤ 0 then 1 else 0) := by
  obtain ⟨p1, p2, p3⟩ := hP
  unfold fX12_isBetween
  simp only [gd_t (inb_nI hc (by decide)), gd_t (inb_nI hd (by decide)), nI_clamp (show c < 2 ^ 31 by omega), nI_clamp (show d < 2 ^ 31 by omega), h1, h2, h3, h4, xl]
  simp only [← btw1 ha he p1 p3, ← btw1 hb hf p2 p3]
  by_cases c1 : jJ P < ((jmin (iI a) (iI e)).toInt64) * jJ L
  · rw [if_pos c1, if_neg (fun z => z.1.1 c1)]
  · by_cases c2 : ((jmax (iI a) (iI e)).toInt64) * jJ L < jJ P
    · rw [if_neg c1, if_pos c2, if_neg (fun z => z.1.2 c2)]
    · by_cases c3 : jJ Q < ((jmin (iI b) (iI f)).toInt64) * jJ L
      · rw [if_neg c1, if_neg c2, if_pos c3, if_neg (fun z => z.2.1 c3)]
      · by_cases c4 : ((jmax (iI b) (iI f)).toInt64) * jJ L < jJ Q
        · rw [if_neg c1, if_neg c2, if_neg c3, if_pos c4, if_neg (fun z => z.2.2 c4)]
        · rw [if_neg c1, if_neg c2, if_neg c3, if_neg c4, if_pos ⟨⟨c1, c2⟩, c3, c4⟩]
/-- seen on one line: in opposite directions -/
theorem opp {a b c d : Int} (h : a * d = b * c) : (a * c ≤ 0 ∧ b * d ≤ 0) ↔ a * c + b * d ≤ 0 := by
  constructor
  · rintro ⟨x, y⟩; omega
  · intro hh
    have e : (a * c) * (b * d) = (a * d) * (b * c) := by grind
    have k : 0 ≤ (a * c) * (b * d) := by rw [e, h]; exact sqn _
    by_cases c1 : 0 < a * c
    · have := div_ge c1 k; omega
    · by_cases c2 : 0 < b * d
      · have := div_ge c2 (show 0 ≤ (b * d) * (a * c) by rw [Int.mul_comm]; exact k); omega
      · omega
theorem sideM (K : Nat) (hK : 4000 ≤ K) {px py cor cors : Nat → Int32} {w : Nat} {U V : Nat → Int} {m : Nat} (h : hulM K px py cor cors w U V m) (h0 : 0 < m) (hm : m < 48) (hU : okU U V m) {P Q L : Int} (hP : okP P Q L) : fX12_sideOf K px py cor cors (nI w) (jJ P) (jJ Q) (jJ L) = some (sdv U V m P Q L) := by
  obtain ⟨hw, hc, hcor⟩ := id h
  unfold fX12_sideOf
  simp only [gd_t (inb_nI hw (by decide)), nI_clamp (show w < 2 ^ 31 by omega), hc, jn]
  by_cases h3 : 3 ≤ m
  · have q3 : (3 : Int32) ≤ nI m := (show nI 3 ≤ nI m from nI_le h3 (by omega))
    simp only [if_pos q3]
    rw [show fX12_sideOf_L20 K (nI w) (jJ P) (jJ Q) (jJ L) px py cor cors K (0 : Int32) (0 : Int32) = _ from sideMl K h hm h3 hU hP K 0 (Nat.zero_le _) (by omega) rfl]
    unfold sdv
    by_cases c : anyN (fun i => decide (tE U V m P Q L i < 0)) m = true
    · rw [if_pos c, if_pos c]; rfl
    · rw [if_neg c, if_neg c, if_neg (show ¬ m < 3 by omega)]
      simp only [sm, Option.bind_some, Sum.elim_inr, u1]
      unfold rf
      by_cases z : anyN (fun i => decide (tE U V m P Q L i = 0)) m = true
      · rw [if_pos z, if_neg one_ne, if_pos z]
      · rw [if_neg z, if_pos rfl, if_neg z]
  · have q3 : ¬ (3 : Int32) ≤ nI m := (show ¬ nI 3 ≤ nI m from nI_ge (by omega) (by decide))
    simp only [if_neg q3]
    obtain ⟨K', rfl⟩ : ∃ k, K = k + 2 := ⟨K - 2, by omega⟩
    have hcase : m = 1 ∨ m = 2 := by omega
    rcases hcase with rfl | rfl
    · obtain ⟨ca, ca1, ca2, ca3, ca4⟩ := hcor 0 (by omega)
      obtain ⟨u1', u2⟩ := hU 0 (by omega)
      rw [show cy 1 0 = 0 from rfl] at ca3 ca4
      rw [fX12_sideOf_L20, edgesM2 (K' + 2) h h0 (by omega)]
      simp only [b1, Option.bind_some]
      rw [if_pos (show nI (1 - 1) ≤ 0 from by decide)]
      simp only [sm, Option.bind_some, Sum.elim_inr, u1]
      rw [show nI 1 - (1 : Int32) = nI 0 from rfl, show fX12_cornerOf (K' + 2) cor cors (nI w) 0 = _ from ca2, ca2]
      simp only [Option.bind_some]
      rw [betM (K' + 2) ca1 ca1 ca3 ca4 ca3 ca4 u1' u2 u1' u2 hP]
      simp only [Option.bind_some]
      unfold sdv
      have t0 : tE U V 1 P Q L 0 = 0 := by unfold tE; rw [show cy 1 (0 + 1) = 0 from rfl]; grind
      have hn : ¬ anyN (fun i => decide (tE U V 1 P Q L i < 0)) 1 = true := by simp [anyN, t0]
      have hb := opp (a := U 0 * L - P) (b := V 0 * L - Q) (c := U 0 * L - P) (d := V 0 * L - Q) (by grind)
      rw [if_neg hn, if_pos (show 1 < 3 by decide)]
      rw [show 1 - 1 = 0 from rfl]
      by_cases z : (U 0 * L - P) * (U 0 * L - P) + (V 0 * L - Q) * (V 0 * L - Q) ≤ 0
      · rw [if_pos z, if_pos (hb.mpr z), if_neg one_ne, if_neg one_ne]
      · rw [if_neg z, if_neg (fun q => z (hb.mp q)), if_pos rfl]
    · obtain ⟨ca, ca1, ca2, ca3, ca4⟩ := hcor 0 (by omega)
      obtain ⟨cb, cb1, cb2, cb3, cb4⟩ := hcor 1 (by omega)
      obtain ⟨u1', u2⟩ := hU 0 (by omega)
      obtain ⟨v1, v2⟩ := hU 1 (by omega)
      rw [show cy 2 0 = 0 from rfl] at ca3 ca4
      rw [show cy 2 1 = 1 from rfl] at cb3 cb4
      have t0 : tE U V 2 P Q L 0 = (U 1 - U 0) * (Q - V 0 * L) - (V 1 - V 0) * (P - U 0 * L) := rfl
      have t1 : tE U V 2 P Q L 1 = - tE U V 2 P Q L 0 := by
        rw [t0]; unfold tE; rw [show cy 2 (1 + 1) = 0 from rfl]; grind
      have hr := tE_rng hU hP (show 0 < 2 by decide)
      have s : s64 (tE U V 2 P Q L 0) := ⟨by omega, by omega⟩
      rw [fX12_sideOf_L20, edgesM2 (K' + 2) h h0 (by omega)]
      simp only [b1, Option.bind_some]
      rw [if_neg (show ¬ nI (2 - 1) ≤ 0 from by decide)]
      rw [show (0 : Int32) + 1 = nI 1 from rfl, show fX12_cornerOf (K' + 2) cor cors (nI w) 0 = _ from ca2, cb2]
      simp only [Option.bind_some, gd_t (inb_nI ca1 (by decide)), gd_t (inb_nI cb1 (by decide)), nI_clamp (show ca < 2 ^ 31 by omega), nI_clamp (show cb < 2 ^ 31 by omega), ca3, ca4, cb3, cb4, texp u1' u2 v1 v2, xl, jn, gd_t (inb_nI hw (by decide)), nI_clamp (show w < 2 ^ 31 by omega), hc]
      rw [← t0]
      simp only [j_lt0 s, j_eq0 s, if_neg q3, if_neg one_ne]
      unfold sdv
      by_cases z0 : tE U V 2 P Q L 0 = 0
      · rw [if_neg (show ¬ tE U V 2 P Q L 0 < 0 by omega), if_pos z0, fX12_sideOf_L20, edgesM2 (K' + 2) h h0 (by omega)]
        simp only [b1, Option.bind_some]
        rw [if_pos (show nI (2 - 1) ≤ nI 1 from by decide)]
        simp only [sm, Option.bind_some, Sum.elim_inr, u1]
        rw [show nI 2 - (1 : Int32) = nI 1 from rfl, cb2]
        simp only [Option.bind_some]
        rw [betM (K' + 2) ca1 cb1 ca3 ca4 cb3 cb4 u1' u2 v1 v2 hP]
        simp only [Option.bind_some]
        have hn : ¬ anyN (fun i => decide (tE U V 2 P Q L i < 0)) 2 = true := by simp [anyN, t1, z0]
        rw [if_neg hn, if_pos (show 2 < 3 by decide)]
        have hb := (opp (a := U 0 * L - P) (b := V 0 * L - Q) (c := U 1 * L - P) (d := V 1 * L - Q) (by
          rw [t0] at z0
          have : (U 0 * L - P) * (V 1 * L - Q) - (V 0 * L - Q) * (U 1 * L - P) = L * ((U 1 - U 0) * (Q - V 0 * L) - (V 1 - V 0) * (P - U 0 * L)) := by grind
          rw [z0] at this; omega))
        rw [show 2 - 1 = 1 from rfl]
        by_cases z : (U 0 * L - P) * (U 1 * L - P) + (V 0 * L - Q) * (V 1 * L - Q) ≤ 0
        · rw [if_pos z, if_pos (hb.mpr z), if_neg one_ne, if_neg one_ne]
        · rw [if_neg z, if_neg (fun q => z (hb.mp q)), if_pos rfl]
      · have hn : anyN (fun i => decide (tE U V 2 P Q L i < 0)) 2 = true := by
          rw [anyN_iff]
          by_cases z1 : tE U V 2 P Q L 0 < 0
          · exact ⟨0, by decide, by simpa using z1⟩
          · exact ⟨1, by decide, by rw [t1]; simp; omega⟩
        rw [if_pos hn]
        by_cases z1 : tE U V 2 P Q L 0 < 0
        · rw [if_pos z1]; rfl
        · rw [if_neg z1, if_neg z0]; rfl
