--@ needs 3l.tie2
/-! tie, radon -/
theorem facL (K : Nat) {sz : Nat} (hsz : sz ≤ 4) {mem : Nat → Nat} {mem1 : Nat → Int32} (hm : ∀ i, i < sz → mem1 i = nI (mem i)) (hb : ∀ i, i < sz → mem i < 24) {q : Nat} (hq : q < 24) : ∀ (fu i : Nat), i ≤ sz → sz - i < fu → (∀ j, j < i → mem j ≠ q) → (∃ k, k < sz ∧ mem k = q ∧ fX10_factorOf_L2 K (nI q) (nI sz) mem1 fu (nI i) = some (.inl (nI k))) ∨ ((∀ k, k < sz → mem k ≠ q) ∧ fX10_factorOf_L2 K (nI q) (nI sz) mem1 fu (nI i) = some (.inr ())) := by
  intro fu
  induction fu with
  | zero => intro i h1 h2; omega
  | succ fu ih =>
    intro i h1 h2 h3
    rw [fX10_factorOf_L2]
    by_cases hi : i = sz
    · subst hi
      rw [if_pos (nI_le (Nat.le_refl i) (by omega))]
      exact Or.inr ⟨h3, rfl⟩
    · have hlt : i < sz := by omega
      have hbi := hb i hlt
      rw [if_neg (nI_ge hlt (by omega)), gd_t (inb_nI (show i < 4 by omega) (by decide)), nI_clamp (by omega), hm i hlt]
      by_cases e : mem i = q
      · rw [if_pos (by rw [e])]
        exact Or.inl ⟨i, hlt, e, rfl⟩
      · rw [if_neg (fun s => e ((nI_eqn (by omega) (by omega)).mp s)), xl_e, nI_1]
        exact ih (i + 1) (by omega) (by omega) (fun j hj => by
          by_cases ej : j = i
          · rw [ej]; exact e
          · exact h3 j (by omega))
theorem facC (K : Nat) (hK : 4000 ≤ K) {n : Nat} (hn : n ≤ 24) {X Y : Nat → Int} {S : Int32} {sz : Nat} {mem : Nat → Nat} {f : Nat → Int} (T : TI n X Y S sz mem f) {mem1 : Nat → Int32} {fac1 : Nat → Int64} (hm : ∀ i, i < sz → mem1 i = nI (mem i) ∧ fac1 i = jJ (f i)) {q : Nat} (hq : q < 24) : fX10_factorOf K (nI sz) mem1 fac1 (nI q) = some (jJ (phi mem f sz q)) := by
  obtain ⟨t1, t2, t3, -⟩ := T
  unfold fX10_factorOf
  rw [show (0 : Int32) = nI 0 from rfl]
  rcases facL K t1.2 (fun i hi => (hm i hi).1) (fun i hi => by have := (t2 i hi).1; omega) hq K 0 (by omega) (by omega) (fun j hj => by omega) with ⟨k, k1, k2, k3⟩ | ⟨k1, k2⟩
  · rw [k3]
    simp only [sm, Option.bind_some, Sum.elim_inl, u1]
    rw [gd_t (inb_nI (show k < 4 by omega) (by decide)), nI_clamp (by omega), (hm k k1).2, ← k2, phi_at t3 k1]
  · rw [k2]
    simp only [sm, Option.bind_some, Sum.elim_inr, u0]
    rw [phi_none k1]
    rfl
theorem ev_tie (K : Nat) (hK : 4000 ≤ K) (x_cloud_size : Int32) (x_cloud_x : Nat → Int32) (x_cloud_y : Nat → Int32) (x_cloud_colour : Nat → Int32) (x_cloud_load : Nat → Int32) (x_cloud_centreX : Int32) (x_cloud_centreY : Int32) (x_reader_tape : Nat → Int32) (x_reader_length : Int32) (x_reader_faultKind : Int32) (x_reader_faultPlace : Int32) (m_many : Int32) (m_px : Nat → Int32) (m_py : Nat → Int32) (m_colour : Nat → Int32) (m_load : Nat → Int32) (m_cx : Int32) (m_cy : Int32) (m_tape : Nat → Int32) (m_taped : Int32) (m_faultKind : Int32) (m_faultPlace : Int32) (x_firstTie_size : Int32) (x_firstTie_member : Nat → Int32) (x_firstTie_factor : Nat → Int64) (m_tie : Nat → Int64) (a1 : Int32) (a2 : Int32) (hR : Rel x_cloud_size x_cloud_x x_cloud_y x_cloud_colour x_cloud_load x_cloud_centreX x_cloud_centreY x_reader_tape x_reader_length x_reader_faultKind x_reader_faultPlace m_many m_px m_py m_colour m_load m_cx m_cy m_tape m_taped m_faultKind m_faultPlace) : ∃ (r : Int64) (o_x_firstTie_size : Int32) (o_x_firstTie_member : Nat → Int32) (o_x_firstTie_factor : Nat → Int64) (o_m_tie : Nat → Int64), fX11_tie K x_cloud_size x_cloud_x x_cloud_y x_firstTie_size x_firstTie_member x_firstTie_factor a1 a2 = some (r, o_x_firstTie_size, o_x_firstTie_member, o_x_firstTie_factor) ∧ fX12_tie K m_many m_px m_py m_tie a1 a2 = some (r, o_m_tie) := by
  obtain ⟨n, rfl, rfl, hXc, hXm⟩ := Rel_pts hR
  have hn := hXc.1
  unfold fX11_tie fX12_tie
  rcases hasSet_c K n hn a1 with ⟨c, c1, c2⟩ | ⟨-, c1, c2⟩
  · rw [c1, c2, sm_b1, sm_b1, if_neg one_ne, if_neg one_ne]
    rcases has_c K n hn a2 with ⟨⟨j, hj, rfl⟩, d1, d2⟩ | ⟨-, d1, d2⟩
    · rw [d1, d2, sm_b1, sm_b1, if_neg one_ne, if_neg one_ne]
      rcases tieB K hK hXc hXm a1 x_firstTie_size x_firstTie_member x_firstTie_factor m_tie with ⟨sz1, mem1, fac1, t1, e1, e2⟩ | ⟨sz, mem, f, mem1, fac1, t1, T, e1, e2, e3, e4⟩
      · rw [e1, e2, sm_b4, sm_b2, if_pos rfl, if_pos rfl]
        exact ⟨_, _, _, _, _, rfl, rfl⟩
      · rw [e1, e3, sm_b4, sm_b2, if_neg one_ne, if_neg one_ne, facC K hK hn T e2 (show j < 24 by omega), gd_t (inb_nI (show j < 24 by omega) (by decide)), nI_clamp (by omega), e4 j (by omega)]
        exact ⟨_, _, _, _, _, rfl, rfl⟩
    · rw [d1, d2]
      exact ⟨_, _, _, _, _, rfl, rfl⟩
  · rw [c1, c2]
    exact ⟨_, _, _, _, _, rfl, rfl⟩
/-- bits of members -/
def mbits (P : Nat → Prop) (mem : Nat → Nat) (i : Nat) (acc : Int32) : Prop := ∀ b, b < 32 → (bt acc b = true ↔ ∃ j, j < i ∧ P j ∧ mem j = b)
theorem mb_0 (P : Nat → Prop) (mem : Nat → Nat) : mbits P mem 0 0 := by
  intro b hb
  rw [b_0]
  constructor
  · intro h; cases h
  · rintro ⟨j, hj, -⟩; omega
theorem mb_no {P : Nat → Prop} {mem : Nat → Nat} {i : Nat} {acc : Int32} (h : mbits P mem i acc) (hp : ¬ P i) : mbits P mem (i + 1) acc := by
  intro b hb
  rw [h b hb]
  constructor
  · rintro ⟨j, h1, h2⟩; exact ⟨j, by omega, h2⟩
  · rintro ⟨j, h1, h2, h3⟩
    by_cases e : j = i
    · rw [e] at h2; exact absurd h2 hp
    · exact ⟨j, by omega, h2, h3⟩
theorem mb_yes {P : Nat → Prop} {mem : Nat → Nat} {i : Nat} {acc : Int32} (h : mbits P mem i acc) (hp : P i) (hm : mem i < 24) : mbits P mem (i + 1) (acc ||| ((1 : Int32) <<< (nI (mem i) &&& 31))) := by
  intro b hb
  rw [b_or, one_shl hm hb, Bool.or_eq_true, h b hb, decide_eq_true_eq]
  constructor
  · rintro (⟨j, h1, h2⟩ | e)
    · exact ⟨j, by omega, h2⟩
    · exact ⟨i, by omega, hp, e.symm⟩
  · rintro ⟨j, h1, h2, h3⟩
    by_cases e : j = i
    · rw [e] at h3; exact Or.inr h3.symm
    · exact Or.inl ⟨j, by omega, h2, h3⟩
theorem mb_end {P : Nat → Prop} {mem : Nat → Nat} {i n : Nat} (hn : n ≤ 24) {acc : Int32} (h : mbits P mem i acc) {p : Nat → Bool} (hp : ∀ b, b < n → (p b = true ↔ ∃ j, j < i ∧ P j ∧ mem j = b)) (hm : ∀ j, j < i → mem j < n) : acc = bP p n := by
  refine b_ext fun b hb => ?_
  rw [bP_bt p hn hb]
  by_cases q : b < n
  · simp only [q, decide_true, Bool.true_and]
    have h1 := h b hb
    have h2 := hp b q
    cases e1 : bt acc b <;> cases e2 : p b
    · rfl
    · exact absurd (h1.mpr (h2.mp e2)) (by rw [e1]; decide)
    · exact absurd (h2.mpr (h1.mp e1)) (by rw [e2]; decide)
    · rfl
  · simp only [q, decide_false, Bool.false_and]
    cases e1 : bt acc b
    · rfl
    · obtain ⟨j, h1, h2, h3⟩ := (h b hb).mp e1
      have := hm j h1
      omega
theorem phi_bit {mem : Nat → Nat} {f : Nat → Int} {sz : Nat} (t3 : ∀ i j, i < j → j < sz → mem i < mem j) {P : Int → Prop} (h0 : ¬ P 0) (b : Nat) : P (phi mem f sz b) ↔ ∃ j, j < sz ∧ P (f j) ∧ mem j = b := by
  rcases phi_cases (f := f) t3 b with ⟨i, h1, h2, h3⟩ | ⟨h1, h2⟩
  · rw [h3]
    constructor
    · intro h; exact ⟨i, h1, h, h2⟩
    · rintro ⟨j, j1, j2, j3⟩
      have : phi mem f sz b = f j := by rw [← j3]; exact phi_at t3 j1
      rw [← h3, this]; exact j2
  · rw [h2]
    constructor
    · intro h; exact absurd h h0
    · rintro ⟨j, j1, -, j3⟩; exact absurd j3 (h1 j j1)
theorem jle0 {z : Int} (h : s64 z) : jJ z ≤ (0 : Int64) ↔ z ≤ 0 := jJ_le (b := 0) h ⟨by omega, by omega⟩
theorem abvC (K : Nat) {sz : Nat} (hsz : sz ≤ 4) {mem : Nat → Nat} {f : Nat → Int} {mem1 : Nat → Int32} {fac1 : Nat → Int64} (hm : ∀ i, i < sz → mem1 i = nI (mem i) ∧ fac1 i = jJ (f i)) (hb : ∀ i, i < sz → mem i < 24) (hf : ∀ i, i < sz → -1600 ≤ f i ∧ f i ≤ 1600) : ∀ (fu i : Nat) (acc : Int32), i ≤ sz → sz - i < fu → mbits (fun j => 0 < f j) mem i acc → ∃ acc', fX10_bitsAbove_L4 K (nI sz) mem1 fac1 fu acc (nI i) = some acc' ∧ mbits (fun j => 0 < f j) mem sz acc' := by
  intro fu
  induction fu with
  | zero => intro i acc h1 h2; omega
  | succ fu ih =>
    intro i acc h1 h2 h3
    rw [fX10_bitsAbove_L4]
    by_cases hi : i = sz
    · subst hi
      rw [if_pos (nI_le (Nat.le_refl i) (by omega))]
      exact ⟨acc, rfl, h3⟩
    · have hlt : i < sz := by omega
      have hfi := hf i hlt
      rw [if_neg (nI_ge hlt (by omega))]
      simp only [gd_t (inb_nI (show i < 4 by omega) (by decide)), nI_clamp (show i < 2 ^ 31 by omega), (hm i hlt).1, (hm i hlt).2, jn_e, xl_e, nI_1, jle0 (show s64 (f i) from ⟨by omega, by omega⟩)]
      by_cases q : f i ≤ 0
      · rw [if_pos q, or_zero]
        exact ih (i + 1) acc (by omega) (by omega) (mb_no h3 (by omega))
      · rw [if_neg q]
        exact ih (i + 1) _ (by omega) (by omega) (mb_yes h3 (by omega) (hb i hlt))
theorem blwC (K : Nat) {sz : Nat} (hsz : sz ≤ 4) {mem : Nat → Nat} {f : Nat → Int} {mem1 : Nat → Int32} {fac1 : Nat → Int64} (hm : ∀ i, i < sz → mem1 i = nI (mem i) ∧ fac1 i = jJ (f i)) (hb : ∀ i, i < sz → mem i < 24) (hf : ∀ i, i < sz → -1600 ≤ f i ∧ f i ≤ 1600) : ∀ (fu i : Nat) (acc : Int32), i ≤ sz → sz - i < fu → mbits (fun j => f j < 0) mem i acc → ∃ acc', fX10_bitsBelow_L4 K (nI sz) mem1 fac1 fu acc (nI i) = some acc' ∧ mbits (fun j => f j < 0) mem sz acc' := by
  intro fu
  induction fu with
  | zero => intro i acc h1 h2; omega
  | succ fu ih =>
    intro i acc h1 h2 h3
    rw [fX10_bitsBelow_L4]
    by_cases hi : i = sz
    · subst hi
      rw [if_pos (nI_le (Nat.le_refl i) (by omega))]
      exact ⟨acc, rfl, h3⟩
    · have hlt : i < sz := by omega
      have hfi := hf i hlt
      rw [if_neg (nI_ge hlt (by omega))]
      simp only [gd_t (inb_nI (show i < 4 by omega) (by decide)), nI_clamp (show i < 2 ^ 31 by omega), (hm i hlt).1, (hm i hlt).2, jn_e, xl_e, nI_1, j_ge0 (show s64 (f i) from ⟨by omega, by omega⟩)]
      by_cases q : f i < 0
      · rw [if_neg (by omega)]
        exact ih (i + 1) _ (by omega) (by omega) (mb_yes h3 q (hb i hlt))
      · rw [if_pos q, or_zero]
        exact ih (i + 1) acc (by omega) (by omega) (mb_no h3 q)
/-- places of the positive ones -/
def gX (X : Nat → Int) (p : Nat) (v : Int) : Int := if 0 < v then v * X p else 0
def gW (p : Nat) (v : Int) : Int := if 0 < v then v else 0
theorem locL (K : Nat) {n : Nat} {x y : Nat → Int32} {X Y : Nat → Int} (h : Pts n x y X Y) {sz : Nat} (hsz : sz ≤ 4) {mem : Nat → Nat} {f : Nat → Int} {mem1 : Nat → Int32} {fac1 : Nat → Int64} (hm : ∀ i, i < sz → mem1 i = nI (mem i) ∧ fac1 i = jJ (f i)) (hb : ∀ i, i < sz → mem i < n) (hf : ∀ i, i < sz → -1600 ≤ f i ∧ f i ≤ 1600) : ∀ (fu i : Nat), i ≤ sz → sz - i < fu → fX10_locate_L11 K (nI sz) mem1 fac1 x y fu (jJ (sumF (fun i => gX X (mem i) (f i)) i)) (jJ (sumF (fun i => gX Y (mem i) (f i)) i)) (jJ (sumF (fun i => gW (mem i) (f i)) i)) (nI i) = some (jJ (sumF (fun i => gX X (mem i) (f i)) sz), jJ (sumF (fun i => gX Y (mem i) (f i)) sz), jJ (sumF (fun i => gW (mem i) (f i)) sz)) := by
  intro fu
  induction fu with
  | zero => intro i h1 h2; omega
  | succ fu ih =>
    intro i h1 h2
    have hn := h.1
    rw [fX10_locate_L11]
    by_cases hi : i = sz
    · subst hi
      rw [if_pos (nI_le (Nat.le_refl i) (by omega))]
    · have hlt : i < sz := by omega
      have hfi := hf i hlt
      have hbi := hb i hlt
      obtain ⟨e1, e2, r1, r2⟩ := h.2 (mem i) hbi
      rw [if_neg (nI_ge hlt (by omega))]
      have IH := ih (i + 1) (by omega) (by omega)
      rw [sumF, sumF, sumF] at IH
      unfold gX gW at IH ⊢
      simp only [gd_t (inb_nI (show i < 4 by omega) (by decide)), nI_clamp (show i < 2 ^ 31 by omega), (hm i hlt).1, (hm i hlt).2, jn_e, xl_e, nI_1, jle0 (show s64 (f i) from ⟨by omega, by omega⟩), gd_t (inb_nI (show mem i < 24 by omega) (by decide)), nI_clamp (show mem i < 2 ^ 31 by omega), e1, e2, iI_long (show s32 (X (mem i)) from ⟨by omega, by omega⟩), iI_long (show s32 (Y (mem i)) from ⟨by omega, by omega⟩), jJ_mul, jJ_add]
      by_cases q : f i ≤ 0
      · rw [if_pos q]
        simp only [if_neg (show ¬ 0 < f i by omega), Int.add_zero] at IH
        exact IH
      · rw [if_neg q]
        simp only [if_pos (show 0 < f i by omega)] at IH
        exact IH
theorem phi_rng {mem : Nat → Nat} {f : Nat → Int} {sz : Nat} (t3 : ∀ i j, i < j → j < sz → mem i < mem j) (hf : ∀ i, i < sz → -1600 ≤ f i ∧ f i ≤ 1600) (b : Nat) : -1600 ≤ phi mem f sz b ∧ phi mem f sz b ≤ 1600 := by
  rcases phi_cases (f := f) t3 b with ⟨i, h1, h2, h3⟩ | ⟨h1, h2⟩
  · rw [h3]; exact hf i h1
  · rw [h2]; omega
theorem radL (K : Nat) {n : Nat} {px py : Nat → Int32} {X Y : Nat → Int} (h : Pts n px py X Y) {φ : Nat → Int} {t : Nat → Int64} (ht : ∀ q, q < 24 → t q = jJ (φ q)) (hf : ∀ q, -1600 ≤ φ q ∧ φ q ≤ 1600) : ∀ (fu i : Nat), i ≤ n → n - i < fu → fX12_radon_L49 K (nI n) px py t fu (bP (fun q => decide (0 < φ q)) i) (bP (fun q => decide (φ q < 0)) i) (jJ (sumF (fun q => gX X q (φ q)) i)) (jJ (sumF (fun q => gX Y q (φ q)) i)) (jJ (sumF (fun q => gW q (φ q)) i)) (nI i) = some (bP (fun q => decide (0 < φ q)) n, bP (fun q => decide (φ q < 0)) n, jJ (sumF (fun q => gX X q (φ q)) n), jJ (sumF (fun q => gX Y q (φ q)) n), jJ (sumF (fun q => gW q (φ q)) n)) := by
  intro fu
  induction fu with
  | zero => intro i h1 h2; omega
  | succ fu ih =>
    intro i h1 h2
    have hn := h.1
    rw [fX12_radon_L49]
    by_cases hi : i = n
    · subst hi
      rw [if_pos (nI_le (Nat.le_refl i) (by omega))]
    · have hlt : i < n := by omega
      have hfi := hf i
      obtain ⟨e1, e2, r1, r2⟩ := h.2 i hlt
      rw [if_neg (nI_ge hlt (by omega))]
      have IH := ih (i + 1) (by omega) (by omega)
      rw [sumF, sumF, sumF, bP, bP] at IH
      unfold gX gW at IH ⊢
      simp only [gd_t (inb_nI (show i < 24 by omega) (by decide)), nI_clamp (show i < 2 ^ 31 by omega), ht i (show i < 24 by omega), jn_e, xl_e, nI_1, j_ge0 (show s64 (φ i) from ⟨by omega, by omega⟩), j_gt0 (show s64 (φ i) from ⟨by omega, by omega⟩), e1, e2, iI_long (show s32 (X i) from ⟨by omega, by omega⟩), iI_long (show s32 (Y i) from ⟨by omega, by omega⟩), jJ_mul, jJ_add]
      simp only [decide_eq_true_eq] at IH
      by_cases q : φ i < 0
      · rw [if_neg (by omega), if_neg (by omega)]
        simp only [if_pos q, if_neg (show ¬ 0 < φ i by omega), Int.add_zero] at IH
        exact IH
      · rw [if_pos q]
        by_cases q2 : 0 < φ i
        · rw [if_pos q2]
          simp only [if_neg q, if_pos q2] at IH
          exact IH
        · rw [if_neg q2]
          simp only [if_neg q, if_neg q2, Int.add_zero] at IH
          exact IH
theorem coor_no (K : Nat) (p q l : Int64) {z : Int} (hz : s64 z) (h : ¬ (0 ≤ z ∧ z ≤ 2)) : fX11_coordinate K p q l (jJ z) = some (-9223372036854775808) := by
  unfold fX11_coordinate
  simp only [j_eq0 hz, show ∀ w : Int64, (w = 1) = (w = jJ 1) from fun _ => rfl, show ∀ w : Int64, (w = 2) = (w = jJ 2) from fun _ => rfl, jJ_eq hz (show s64 1 from ⟨by omega, by omega⟩), jJ_eq hz (show s64 2 from ⟨by omega, by omega⟩)]
  rw [if_neg (by omega), if_neg (by omega), if_neg (by omega)]
theorem ev_radon (K : Nat) (hK : 4000 ≤ K) (x_cloud_size : Int32) (x_cloud_x : Nat → Int32) (x_cloud_y : Nat → Int32) (x_cloud_colour : Nat → Int32) (x_cloud_load : Nat → Int32) (x_cloud_centreX : Int32) (x_cloud_centreY : Int32) (x_reader_tape : Nat → Int32) (x_reader_length : Int32) (x_reader_faultKind : Int32) (x_reader_faultPlace : Int32) (m_many : Int32) (m_px : Nat → Int32) (m_py : Nat → Int32) (m_colour : Nat → Int32) (m_load : Nat → Int32) (m_cx : Int32) (m_cy : Int32) (m_tape : Nat → Int32) (m_taped : Int32) (m_faultKind : Int32) (m_faultPlace : Int32) (x_firstTie_size : Int32) (x_firstTie_member : Nat → Int32) (x_firstTie_factor : Nat → Int64) (x_spot_x : Int64) (x_spot_y : Int64) (x_spot_lower : Int64) (m_placeX : Int64) (m_placeY : Int64) (m_below : Int64) (m_tie : Nat → Int64) (a1 : Int32) (a2 : Int32) (hR : Rel x_cloud_size x_cloud_x x_cloud_y x_cloud_colour x_cloud_load x_cloud_centreX x_cloud_centreY x_reader_tape x_reader_length x_reader_faultKind x_reader_faultPlace m_many m_px m_py m_colour m_load m_cx m_cy m_tape m_taped m_faultKind m_faultPlace) : ∃ (r : Int64) (o_x_firstTie_size : Int32) (o_x_firstTie_member : Nat → Int32) (o_x_firstTie_factor : Nat → Int64) (o_x_spot_x : Int64) (o_x_spot_y : Int64) (o_x_spot_lower : Int64) (o_m_placeX : Int64) (o_m_placeY : Int64) (o_m_below : Int64) (o_m_tie : Nat → Int64), fX11_radon K x_cloud_size x_cloud_x x_cloud_y x_firstTie_size x_firstTie_member x_firstTie_factor x_spot_x x_spot_y x_spot_lower a1 a2 = some (r, o_x_firstTie_size, o_x_firstTie_member, o_x_firstTie_factor, o_x_spot_x, o_x_spot_y, o_x_spot_lower) ∧ fX12_radon K m_many m_placeX m_placeY m_below m_px m_py m_tie a1 a2 = some (r, o_m_placeX, o_m_placeY, o_m_below, o_m_tie) := by
  obtain ⟨n, rfl, rfl, hXc, hXm⟩ := Rel_pts hR
  have hn := hXc.1
  have z0 : (a2 = 0) ↔ a2.toInt = 0 := a_eq (k := 0) ⟨by omega, by omega⟩
  have z1 : (a2 = 1) ↔ a2.toInt = 1 := a_eq (k := 1) ⟨by omega, by omega⟩
  have hlo := a2.le_toInt
  have hhi := a2.toInt_lt
  unfold fX11_radon fX12_radon
  rcases hasSet_c K n hn a1 with ⟨c, c1, c2⟩ | ⟨-, c1, c2⟩
  · rw [c1, c2, sm_b1, sm_b1, if_neg one_ne, if_neg one_ne, in_spec, sm_b1]
    simp only [long_toInt, show (0 : Int64).toInt = 0 from rfl, show (4 : Int64).toInt = 4 from rfl, z0, z1]
    rcases tieB K hK hXc hXm a1 x_firstTie_size x_firstTie_member x_firstTie_factor m_tie with ⟨sz1, mem1, fac1, t1, e1, e2⟩ | ⟨sz, mem, f, mem1, fac1, t1, T, e1, e2, e3, e4⟩
    · rw [e1, sm_b4, if_pos rfl]
      by_cases w : 0 ≤ a2.toInt ∧ a2.toInt ≤ 4
      · rw [show (if 0 ≤ a2.toInt ∧ a2.toInt ≤ 4 then (1 : Int32) else 0) = 1 from if_pos w, if_neg one_ne, e2, sm_b2, if_pos rfl]
        exact ⟨_, _, _, _, _, _, _, _, _, _, _, rfl, rfl⟩
      · rw [show (if 0 ≤ a2.toInt ∧ a2.toInt ≤ 4 then (1 : Int32) else 0) = 0 from if_neg w, if_pos rfl]
        exact ⟨_, _, _, _, _, _, _, _, _, _, _, rfl, rfl⟩
    · obtain ⟨t1', t2, t3, t4, t5, -⟩ := T
      rw [e1, sm_b4, if_neg one_ne]
      have hb : ∀ i, i < sz → mem i < n := fun i hi => (t2 i hi).1
      have cl := locL K hXc t1'.2 e2 hb t5 K 0 (by omega) (by omega)
      have ml := radL K hXm (φ := phi mem f sz) e4 (phi_rng t3 t5) K 0 (by omega) (by omega)
      simp only [sumF, bP] at cl ml
      have s1 := phi_sum (mem := mem) (f := f) (n := n) (gX (fun i => (x_cloud_x i).toInt)) (fun p => by unfold gX; rw [if_neg (by omega)]) t3 hb
      have s2 := phi_sum (mem := mem) (f := f) (n := n) (gX (fun i => (x_cloud_y i).toInt)) (fun p => by unfold gX; rw [if_neg (by omega)]) t3 hb
      have s3 := phi_sum (mem := mem) (f := f) (n := n) gW (fun p => by unfold gW; rw [if_neg (by omega)]) t3 hb
      rw [s1, s2, s3] at ml
      have gb : ∀ (Z : Nat → Int) i, i < sz → (-20 ≤ Z (mem i) ∧ Z (mem i) ≤ 20) → -32000 ≤ gX Z (mem i) (f i) ∧ gX Z (mem i) (f i) ≤ 32000 := by
        intro Z i hi hz
        have := mulB (a := 1600) (b := 20) (t5 i hi) hz
        unfold gX
        split <;> omega
      have rx := sumF_bd (f := fun i => gX (fun i => (x_cloud_x i).toInt) (mem i) (f i)) (B := 32000) (k := sz) (fun i hi => gb _ i hi (hXc.2 (mem i) (hb i hi)).2.2.1)
      have ry := sumF_bd (f := fun i => gX (fun i => (x_cloud_y i).toInt) (mem i) (f i)) (B := 32000) (k := sz) (fun i hi => gb _ i hi (hXc.2 (mem i) (hb i hi)).2.2.2)
      have rs := sumF_bd (f := fun i => gW (mem i) (f i)) (B := 1600) (k := sz) (fun i hi => by have := t5 i hi; unfold gW; split <;> omega)
      obtain ⟨p0, p1⟩ := sumF_0 (f := fun i => gW (mem i) (f i)) (k := sz) (fun i hi => by unfold gW; split <;> omega)
      have pp : sumF (fun i => gW (mem i) (f i)) sz ≠ 0 := fun q => by
        have := p1.mp q (sz - 1) (by omega)
        unfold gW at this
        rw [if_pos t4] at this
        omega
      generalize sumF (fun i => gX (fun i => (x_cloud_x i).toInt) (mem i) (f i)) sz = sx at *
      generalize sumF (fun i => gX (fun i => (x_cloud_y i).toInt) (mem i) (f i)) sz = sy at *
      generalize sumF (fun i => gW (mem i) (f i)) sz = s at *
      have hL : 0 < s ∧ s ≤ 4611686018427387904 := ⟨by omega, by omega⟩
      unfold fX10_locate
      rw [show fX10_locate_L11 K (nI sz) mem1 fac1 x_cloud_x x_cloud_y K 0 0 0 0 = _ from cl, sm_b3, putP K hK x_spot_x x_spot_y x_spot_lower ⟨by omega, by omega⟩ ⟨by omega, by omega⟩ hL, sm_b3, sm_b3]
      obtain ⟨ab, ab1, ab2⟩ := abvC K t1'.2 e2 (fun i hi => by have := hb i hi; omega) t5 K 0 0 (by omega) (by omega) (mb_0 _ _)
      obtain ⟨bl, bl1, bl2⟩ := blwC K t1'.2 e2 (fun i hi => by have := hb i hi; omega) t5 K 0 0 (by omega) (by omega) (mb_0 _ _)
      have eab := mb_end hn ab2 (p := fun q => decide (0 < phi mem f sz q)) (fun b _ => by rw [decide_eq_true_eq]; exact phi_bit t3 (P := fun v => 0 < v) (by omega) b) hb
      have ebl := mb_end hn bl2 (p := fun q => decide (phi mem f sz q < 0)) (fun b _ => by rw [decide_eq_true_eq]; exact phi_bit t3 (P := fun v => v < 0) (by omega) b) hb
      unfold fX10_bitsAbove fX10_bitsBelow
      rw [show fX10_bitsAbove_L4 K (nI sz) mem1 fac1 K 0 0 = some ab from ab1, show fX10_bitsBelow_L4 K (nI sz) mem1 fac1 K 0 0 = some bl from bl1, sm_b1, sm_b1, sm_b1, sm_b1, eab, ebl]
      by_cases w : 0 ≤ a2.toInt ∧ a2.toInt ≤ 4
      · rw [show (if 0 ≤ a2.toInt ∧ a2.toInt ≤ 4 then (1 : Int32) else 0) = 1 from if_pos w, if_neg one_ne, e3, sm_b2, if_neg one_ne]
        rw [show fX12_radon_L49 K (nI n) m_px m_py t1 K 0 0 0 0 0 0 = _ from ml, sm_b5, layP K hK m_placeX m_placeY m_below ⟨by omega, by omega⟩ ⟨by omega, by omega⟩ hL, sm_b3]
        by_cases w0 : a2.toInt = 0
        · rw [if_pos w0, if_pos w0]
          exact ⟨_, _, _, _, _, _, _, _, _, _, _, rfl, rfl⟩
        · rw [if_neg w0, if_neg w0]
          by_cases w1 : a2.toInt = 1
          · rw [if_pos w1, if_pos w1]
            exact ⟨_, _, _, _, _, _, _, _, _, _, _, rfl, rfl⟩
          · rw [if_neg w1, if_neg w1]
            have ea : a2 - 2 = iI (a2.toInt - 2) := by rw [← iI_sub, iI_toInt]; rfl
            have el : a2.toInt64 - 2 = (a2 - 2).toInt64 := by rw [ea, iI_long ⟨by omega, by omega⟩, long_iI, ← jJ_sub]; rfl
            obtain ⟨g1, -⟩ := coor_told K (jJ (sx / (g3 sx sy s : Int))) (jJ (sy / (g3 sx sy s : Int))) (jJ (s / (g3 sx sy s : Int))) (a2 - 2)
            obtain ⟨r, k1, k2⟩ := g1 (by rw [ea, toInt_iI (by omega) (by omega)]; omega)
            rw [el, k1, k2]
            exact ⟨_, _, _, _, _, _, _, _, _, _, _, rfl, rfl⟩
      · rw [show (if 0 ≤ a2.toInt ∧ a2.toInt ≤ 4 then (1 : Int32) else 0) = 0 from if_neg w, if_pos rfl, if_neg (by omega), if_neg (by omega)]
        have el : a2.toInt64 - 2 = jJ (a2.toInt - 2) := by rw [long_iI, ← jJ_sub]; rfl
        rw [el, coor_no K _ _ _ ⟨by omega, by omega⟩ (by omega)]
        exact ⟨_, _, _, _, _, _, _, _, _, _, _, rfl, rfl⟩
  · rw [c1, c2]
    exact ⟨_, _, _, _, _, _, _, _, _, _, _, rfl, rfl⟩
