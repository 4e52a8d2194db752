--@ needs 3k.tie 3i.rain
/-! ties: class and model -/
theorem updL_at {f : Nat → Int64} {k : Nat} {v : Int64} : vp_updL f k v k = v := by unfold vp_updL; simp
theorem updL_ne {f : Nat → Int64} {k j : Nat} {v : Int64} (h : j ≠ k) : vp_updL f k v j = f j := by unfold vp_updL; simp [h]
theorem sm_b2 {α₁ α₂ β : Type} (a : α₁) (b : α₂) (k : α₁ → α₂ → Option β) : b2 (some (a, b)) k = k a b := Eq.trans (rfl : b2 (some (a, b)) k = k a b) rfl
theorem sm_b3 {α₁ α₂ α₃ β : Type} (a : α₁) (b : α₂) (c : α₃) (k : α₁ → α₂ → α₃ → Option β) : b3 (some (a, b, c)) k = k a b c := Eq.trans (rfl : b3 (some (a, b, c)) k = k a b c) rfl
theorem sm_b4 {α₁ α₂ α₃ α₄ β : Type} (a : α₁) (b : α₂) (c : α₃) (d : α₄) (k : α₁ → α₂ → α₃ → α₄ → Option β) : b4 (some (a, b, c, d)) k = k a b c d := Eq.trans (rfl : b4 (some (a, b, c, d)) k = k a b c d) rfl
theorem bind2 (K : Nat) {n : Nat} {x y : Nat → Int32} {X Y : Nat → Int} (h : Pts n x y X Y) {a b : Nat} (ha : a < n) (hb : b < n) {mem : Nat → Int32} (m0 : mem 0 = nI a) (m1 : mem 1 = nI b) (fac : Nat → Int64) : ∃ fac', fX10_bind K (nI 2) mem fac x y = some (if sam X Y a b then 1 else 0, fac') ∧ fac' 0 = jJ (raw2 0) ∧ fac' 1 = jJ (raw2 1) := by
  have hn := h.1
  obtain ⟨e1, e2, r1, r2⟩ := h.2 b hb
  unfold fX10_bind fX10_bindTwo
  rw [if_pos (show nI 2 = (2 : Int32) from rfl)]
  simp only [xl_e, show (0 : Int32).toNatClampNeg = 0 from rfl, show (1 : Int32).toNatClampNeg = 1 from rfl, m0, m1, gd_t (inb_nI (show b < 24 by omega) (by decide)), nI_clamp (show b < 2 ^ 31 by omega), e1, e2, isAt_c K h ha r1 r2, sm_b1, gd_t z01_if, sm_b2]
  exact ⟨_, rfl, by rw [updL_ne (by omega), updL_at]; rfl, by rw [updL_at]; rfl⟩
theorem nI_lit3 : ¬ nI 3 = (2 : Int32) := by decide
theorem bind3 (K : Nat) {n : Nat} {x y : Nat → Int32} {X Y : Nat → Int} (h : Pts n x y X Y) {a b p : Nat} (ha : a < n) (hb : b < n) (hp : p < n) {mem : Nat → Int32} (m0 : mem 0 = nI a) (m1 : mem 1 = nI b) (m2 : mem 2 = nI p) (fac : Nat → Int64) : ∃ fac', fX10_bind K (nI 3) mem fac x y = some (if trn X Y a b p = 0 then 1 else 0, fac') ∧ fac' 0 = jJ (raw3 X Y a b p 0) ∧ fac' 1 = jJ (raw3 X Y a b p 1) ∧ fac' 2 = jJ (raw3 X Y a b p 2) := by
  have hn := h.1
  obtain ⟨a1, a2, -⟩ := h.2 a ha
  obtain ⟨b1, b2, -⟩ := h.2 b hb
  obtain ⟨p1, p2, -⟩ := h.2 p hp
  have l1 := lin40 h ha hb
  have l2 := lin40 h ha hp
  have hr := trn_rng (h.2 a ha).2.2 (h.2 b hb).2.2 (h.2 p hp).2.2
  unfold fX10_bind fX10_bindThree fX11_cross
  rw [if_neg nI_lit3, if_pos (show nI 3 = (3 : Int32) from rfl)]
  have et : (X b - X a) * (Y p - Y a) - (Y b - Y a) * (X p - X a) = trn X Y a b p := by unfold trn; rfl
  simp only [xl_e, show (0 : Int32).toNatClampNeg = 0 from rfl, show (1 : Int32).toNatClampNeg = 1 from rfl, show (2 : Int32).toNatClampNeg = 2 from rfl, m0, m1, m2, gd_t (inb_nI (show a < 24 by omega) (by decide)), nI_clamp (show a < 2 ^ 31 by omega), gd_t (inb_nI (show b < 24 by omega) (by decide)), nI_clamp (show b < 2 ^ 31 by omega), gd_t (inb_nI (show p < 24 by omega) (by decide)), nI_clamp (show p < 2 ^ 31 by omega), a1, a2, b1, b2, p1, p2, iI_sub, iI_long (show s32 (X b - X a) from ⟨by omega, by omega⟩), iI_long (show s32 (Y b - Y a) from ⟨by omega, by omega⟩), iI_long (show s32 (X p - X a) from ⟨by omega, by omega⟩), iI_long (show s32 (Y p - Y a) from ⟨by omega, by omega⟩), jJ_mul, jJ_add, jJ_sub, jJ_neg, sm_b1, et, j_eq0 (show s64 (trn X Y a b p) from ⟨by omega, by omega⟩)]
  refine ⟨vp_updL (vp_updL (vp_updL fac 0 (jJ (raw3 X Y a b p 0))) 1 (jJ (raw3 X Y a b p 1))) 2 (jJ (raw3 X Y a b p 2)), ?_, by rw [updL_ne (by omega), updL_ne (by omega), updL_at], by rw [updL_ne (by omega), updL_at], by rw [updL_at]⟩
  by_cases q : trn X Y a b p = 0
  · rw [if_pos q, if_pos q, sm_b2, gd_t (show z01 1 = true from rfl)]
    simp only [raw3]
    rfl
  · rw [if_neg q, if_neg q, sm_b2, gd_t (show z01 0 = true from rfl)]
    simp only [raw3]
    rfl
theorem bind4 (K : Nat) {n : Nat} {x y : Nat → Int32} {X Y : Nat → Int} (h : Pts n x y X Y) {a b c p : Nat} (ha : a < n) (hb : b < n) (hc : c < n) (hp : p < n) {mem : Nat → Int32} (m0 : mem 0 = nI a) (m1 : mem 1 = nI b) (m2 : mem 2 = nI c) (m3 : mem 3 = nI p) (fac : Nat → Int64) : ∃ fac', fX10_bind K (nI 4) mem fac x y = some (1, fac') ∧ fac' 0 = jJ (raw4 X Y a b c p 0) ∧ fac' 1 = jJ (raw4 X Y a b c p 1) ∧ fac' 2 = jJ (raw4 X Y a b c p 2) ∧ fac' 3 = jJ (raw4 X Y a b c p 3) := by
  have hn := h.1
  obtain ⟨a1, a2, -⟩ := h.2 a ha
  obtain ⟨b1, b2, -⟩ := h.2 b hb
  obtain ⟨c1, c2, -⟩ := h.2 c hc
  obtain ⟨p1, p2, -⟩ := h.2 p hp
  have l1 := lin40 h hp ha
  have l2 := lin40 h hp hb
  have l3 := lin40 h hp hc
  unfold fX10_bind fX10_bindFour fX11_cross
  rw [if_neg (show ¬ nI 4 = (2 : Int32) by decide), if_neg (show ¬ nI 4 = (3 : Int32) by decide), if_pos (show nI 4 = (4 : Int32) from rfl)]
  have t0 : (X b - X p) * (Y c - Y p) - (Y b - Y p) * (X c - X p) = trn X Y p b c := by unfold trn; rfl
  have t1 : (X c - X p) * (Y a - Y p) - (Y c - Y p) * (X a - X p) = trn X Y a p c := by unfold trn; grind
  have t2 : (X a - X p) * (Y b - Y p) - (Y a - Y p) * (X b - X p) = trn X Y a b p := by unfold trn; grind
  simp only [xl_e, show (0 : Int32).toNatClampNeg = 0 from rfl, show (1 : Int32).toNatClampNeg = 1 from rfl, show (2 : Int32).toNatClampNeg = 2 from rfl, show (3 : Int32).toNatClampNeg = 3 from rfl, m0, m1, m2, m3, gd_t (inb_nI (show a < 24 by omega) (by decide)), nI_clamp (show a < 2 ^ 31 by omega), gd_t (inb_nI (show b < 24 by omega) (by decide)), nI_clamp (show b < 2 ^ 31 by omega), gd_t (inb_nI (show c < 24 by omega) (by decide)), nI_clamp (show c < 2 ^ 31 by omega), gd_t (inb_nI (show p < 24 by omega) (by decide)), nI_clamp (show p < 2 ^ 31 by omega), a1, a2, b1, b2, c1, c2, p1, p2, iI_sub, iI_long (show s32 (X a - X p) from ⟨by omega, by omega⟩), iI_long (show s32 (Y a - Y p) from ⟨by omega, by omega⟩), iI_long (show s32 (X b - X p) from ⟨by omega, by omega⟩), iI_long (show s32 (Y b - Y p) from ⟨by omega, by omega⟩), iI_long (show s32 (X c - X p) from ⟨by omega, by omega⟩), iI_long (show s32 (Y c - Y p) from ⟨by omega, by omega⟩), jJ_mul, jJ_sub, sm_b1, t0, t1, t2, jJ_neg, sm_b2, gd_t (show z01 1 = true from rfl)]
  refine ⟨_, rfl, by rw [updL_ne (by omega), updL_ne (by omega), updL_ne (by omega), updL_at]; rfl, by rw [updL_ne (by omega), updL_ne (by omega), updL_at]; rfl, by rw [updL_ne (by omega), updL_at]; rfl, ?_⟩
  rw [updL_at]
  have q0 : vp_updL (vp_updL (vp_updL fac 0 (jJ (-trn X Y p b c))) 1 (jJ (-trn X Y a p c))) 2 (jJ (-trn X Y a b p)) 0 = jJ (-trn X Y p b c) := by rw [updL_ne (by omega), updL_ne (by omega), updL_at]
  have q1 : vp_updL (vp_updL (vp_updL fac 0 (jJ (-trn X Y p b c))) 1 (jJ (-trn X Y a p c))) 2 (jJ (-trn X Y a b p)) 1 = jJ (-trn X Y a p c) := by rw [updL_ne (by omega), updL_at]
  have q2 : vp_updL (vp_updL (vp_updL fac 0 (jJ (-trn X Y p b c))) 1 (jJ (-trn X Y a p c))) 2 (jJ (-trn X Y a b p)) 2 = jJ (-trn X Y a b p) := by rw [updL_at]
  rw [q0, q1, q2, jJ_add, jJ_add, jJ_neg]
  congr 1
  simp only [raw4, trn]
  grind
theorem bind1 (K : Nat) (mem : Nat → Int32) (fac : Nat → Int64) (x y : Nat → Int32) : fX10_bind K (nI 1) mem fac x y = some (0, fac) := by
  unfold fX10_bind
  rw [if_neg (show ¬ nI 1 = (2 : Int32) by decide), if_neg (show ¬ nI 1 = (3 : Int32) by decide), if_neg (show ¬ nI 1 = (4 : Int32) by decide)]
abbrev CL : Type := Option ((Int32 × (Nat → Int32) × (Nat → Int64)) ⊕ ((Int32 × (Nat → Int32) × (Nat → Int64)) ⊕ (Int32 × (Nat → Int32) × (Nat → Int64))))
abbrev ML : Type := Option ((Int32 × Int32) ⊕ ((Int32 × Int32 × Int32) ⊕ ((Int32 × Int32 × Int32 × Int32) ⊕ Unit)))
def FO (n : Nat) (X Y : Nat → Int) (S : Int32) (C : CL) (M : ML) : Prop := ((∃ t, C = some (.inr (.inr t))) ∧ M = some (.inr (.inr (.inr ())))) ∨ (∃ sz mem u m' f', C = some (.inr (.inl (nI sz, m', f'))) ∧ (∀ i, i < sz → m' i = nI (mem i) ∧ f' i = jJ (u i)) ∧ ((sz = 2 ∧ ∃ a p, mem = mm a p 0 0 ∧ u = raw2 ∧ (a < p ∧ p < n ∧ bitS S a ∧ bitS S p ∧ sam X Y a p) ∧ M = some (.inl (nI a, nI p))) ∨ (sz = 3 ∧ ∃ a b p, mem = mm a b p 0 ∧ u = raw3 X Y a b p ∧ (a < b ∧ b < p ∧ p < n ∧ bitS S a ∧ bitS S b ∧ bitS S p ∧ ¬ sam X Y a b ∧ trn X Y a b p = 0) ∧ M = some (.inr (.inl (nI a, nI b, nI p)))) ∨ (sz = 4 ∧ ∃ a b c p, mem = mm a b c p ∧ u = raw4 X Y a b c p ∧ (a < b ∧ b < c ∧ c < p ∧ p < n ∧ bitS S a ∧ bitS S b ∧ bitS S c ∧ bitS S p ∧ trn X Y a b c ≠ 0) ∧ M = some (.inr (.inr (.inl (nI a, nI b, nI c, nI p)))))))
theorem nI_m1 {a : Nat} (h : a < 24) : ¬ nI a = -1 := by
  rw [nI_iI, show (-1 : Int32) = iI (-1) from rfl, iI_eq ⟨by omega, by omega⟩ ⟨by omega, by omega⟩]; omega
theorem jt4 {a b c d : Int32} {p : Prop} [Decidable p] : (if p then (1 : Int32) else 0) = 0 ↔ ¬ p := by
  split <;> rename_i h <;> simp [h]
def stt (X Y : Nat → Int) (S : Int32) (s a b c p : Nat) : Prop := s ≤ 3 ∧ (1 ≤ s → a < p ∧ bitS S a) ∧ (2 ≤ s → a < b ∧ b < p ∧ bitS S b ∧ ¬ sam X Y a b) ∧ (3 ≤ s → b < c ∧ c < p ∧ bitS S c ∧ trn X Y a b c ≠ 0)
def mI (s k a : Nat) : Int32 := if k < s then nI a else -1
theorem findJ (K : Nat) {n : Nat} {x y px py : Nat → Int32} {X Y : Nat → Int} (h : Pts n x y X Y) (h' : Pts n px py X Y) (S : Int32) : ∀ (fu p s a b c : Nat) (mem : Nat → Int32) (fac : Nat → Int64), p ≤ n → n - p < fu → stt X Y S s a b c p → (∀ i, i < s → mem i = nI (mm a b c 0 i)) → FO n X Y S (fX10_find_L7 K S (nI n) x y fu (nI p) (nI s) mem fac) (fX12_laysTie_L31 K S (nI n) px py fu (mI s 0 a) (mI s 1 b) (mI s 2 c) (nI p)) := by
  intro fu
  induction fu with
  | zero => intro p s a b c mem fac h1 h2; omega
  | succ fu ih =>
    intro p s a b c mem fac h1 h2 hst hm
    have hn := h.1
    rw [fX10_find_L7, fX12_laysTie_L31]
    by_cases hi : p = n
    · subst hi
      rw [if_pos (nI_le (Nat.le_refl p) (by omega)), if_pos (nI_le (Nat.le_refl p) (by omega))]
      exact Or.inl ⟨⟨_, rfl⟩, rfl⟩
    · have hlt : p < n := by omega
      rw [if_neg (nI_ge hlt (by omega)), if_neg (nI_ge hlt (by omega))]
      unfold fX11_isIn
      by_cases hb : ((S >>> (nI p &&& 31)) &&& (1 : Int32)) = 0
      · rw [if_pos hb]
        simp only [sm_b1, jn_e, xl_e, nI_1]
        rw [if_pos True.intro, if_pos hb]
        refine ih (p + 1) s a b c mem fac (by omega) (by omega) ⟨hst.1, fun q => ?_, fun q => ?_, fun q => ?_⟩ hm
        · have := hst.2.1 q; exact ⟨by omega, this.2⟩
        · have := hst.2.2.1 q; exact ⟨this.1, by omega, this.2.2⟩
        · have := hst.2.2.2 q; exact ⟨this.1, by omega, this.2.2⟩
      · rw [if_neg hb]
        simp only [sm_b1, jn_e, xl_e, nI_1]
        rw [if_neg hb]
        have hS : bitS S p := hb
        have hs3 := hst.1
        rw [if_neg one_ne, if_pos (show nI s < 4 from (nI_ltn (b := 4) (by omega) (by omega)).mpr (by omega)), gd_t (inb_nI (show s < 4 by omega) (by decide)), nI_clamp (by omega)]
        have hup : ∀ i, i < s → upd mem s (nI p) i = nI (mm a b c 0 i) := fun i hi => by rw [upd_ne (by omega)]; exact hm i hi
        have four : s = 0 ∨ s = 1 ∨ s = 2 ∨ s = 3 := by omega
        rcases four with rfl | rfl | rfl | rfl
        · rw [bind1, sm_b2, if_pos rfl, if_pos (show mI 0 0 a = -1 from rfl)]
          refine ih (p + 1) 1 p b c _ fac (by omega) (by omega) ⟨by omega, fun _ => ⟨by omega, hS⟩, fun q => by omega, fun q => by omega⟩ (fun i hi => ?_)
          have : i = 0 := by omega
          subst this
          rw [upd_at]; rfl
        · obtain ⟨q1, q2⟩ := hst.2.1 (by omega)
          obtain ⟨fac', f1, f2, f3⟩ := bind2 K h (a := a) (b := p) (by omega) hlt (mem := upd mem 1 (nI p)) (hup 0 (by omega)) upd_at fac
          rw [f1, sm_b2, if_neg (show ¬ mI 1 0 a = -1 from nI_m1 (by omega)), if_pos (show mI 1 1 b = -1 from rfl), show mI 1 0 a = nI a from rfl, samm K h' (show a < n by omega) hlt, sm_b1]
          by_cases w : sam X Y a p
          · rw [if_neg (by rw [if_pos w]; exact one_ne), if_neg (by rw [if_pos w]; exact one_ne)]
            refine Or.inr ⟨2, mm a p 0 0, raw2, _, _, rfl, fun i hi => ?_, Or.inl ⟨rfl, a, p, rfl, rfl, ⟨q1, hlt, q2, hS, w⟩, rfl⟩⟩
            have : i = 0 ∨ i = 1 := by omega
            rcases this with rfl | rfl
            · exact ⟨hup 0 (by omega), f2⟩
            · exact ⟨upd_at, f3⟩
          · rw [if_pos (by rw [if_neg w]), if_pos (by rw [if_neg w])]
            refine ih (p + 1) 2 a p c _ fac' (by omega) (by omega) ⟨by omega, fun _ => ⟨by omega, q2⟩, fun _ => ⟨q1, by omega, hS, w⟩, fun q => by omega⟩ (fun i hi => ?_)
            have : i = 0 ∨ i = 1 := by omega
            rcases this with rfl | rfl
            · exact hup 0 (by omega)
            · rw [upd_at]; rfl
        · obtain ⟨q1, q2⟩ := hst.2.1 (by omega)
          obtain ⟨r1, r2, r3, r4⟩ := hst.2.2.1 (by omega)
          obtain ⟨fac', f1, f2, f3, f4⟩ := bind3 K h (a := a) (b := b) (p := p) (by omega) (by omega) hlt (mem := upd mem 2 (nI p)) (hup 0 (by omega)) (hup 1 (by omega)) upd_at fac
          have hr := trn_rng (h.2 a (by omega)).2.2 (h.2 b (by omega)).2.2 (h.2 p hlt).2.2
          rw [f1, sm_b2, if_neg (show ¬ mI 2 0 a = -1 from nI_m1 (by omega)), if_neg (show ¬ mI 2 1 b = -1 from nI_m1 (by omega)), if_pos (show mI 2 2 c = -1 from rfl), show mI 2 0 a = nI a from rfl, show mI 2 1 b = nI b from rfl, turnM K h' (show a < n by omega) (show b < n by omega) hlt, sm_b1]
          simp only [j_eq0 (show s64 (trn X Y a b p) from ⟨by omega, by omega⟩)]
          by_cases w : trn X Y a b p = 0
          · rw [if_neg (by rw [if_pos w]; exact one_ne), if_pos w]
            refine Or.inr ⟨3, mm a b p 0, raw3 X Y a b p, _, _, rfl, fun i hi => ?_, Or.inr (Or.inl ⟨rfl, a, b, p, rfl, rfl, ⟨r1, r2, hlt, q2, r3, hS, r4, w⟩, rfl⟩)⟩
            have : i = 0 ∨ i = 1 ∨ i = 2 := by omega
            rcases this with rfl | rfl | rfl
            · exact ⟨hup 0 (by omega), f2⟩
            · exact ⟨hup 1 (by omega), f3⟩
            · exact ⟨upd_at, f4⟩
          · rw [if_pos (by rw [if_neg w]), if_neg w]
            refine ih (p + 1) 3 a b p _ fac' (by omega) (by omega) ⟨by omega, fun _ => ⟨by omega, q2⟩, fun _ => ⟨r1, by omega, r3, r4⟩, fun _ => ⟨r2, by omega, hS, w⟩⟩ (fun i hi => ?_)
            have : i = 0 ∨ i = 1 ∨ i = 2 := by omega
            rcases this with rfl | rfl | rfl
            · exact hup 0 (by omega)
            · exact hup 1 (by omega)
            · rw [upd_at]; rfl
        · obtain ⟨q1, q2⟩ := hst.2.1 (by omega)
          obtain ⟨r1, r2, r3, r4⟩ := hst.2.2.1 (by omega)
          obtain ⟨s1, s2, s3, s4⟩ := hst.2.2.2 (by omega)
          obtain ⟨fac', f1, f2, f3, f4, f5⟩ := bind4 K h (a := a) (b := b) (c := c) (p := p) (by omega) (by omega) (by omega) hlt (mem := upd mem 3 (nI p)) (hup 0 (by omega)) (hup 1 (by omega)) (hup 2 (by omega)) upd_at fac
          rw [f1, sm_b2, if_neg one_ne, if_neg (show ¬ mI 3 0 a = -1 from nI_m1 (by omega)), if_neg (show ¬ mI 3 1 b = -1 from nI_m1 (by omega)), if_neg (show ¬ mI 3 2 c = -1 from nI_m1 (by omega))]
          refine Or.inr ⟨4, mm a b c p, raw4 X Y a b c p, _, _, rfl, fun i hi => ?_, Or.inr (Or.inr ⟨rfl, a, b, c, p, rfl, rfl, ⟨r1, s1, s2, hlt, q2, r3, s3, hS, s4⟩, rfl⟩)⟩
          have : i = 0 ∨ i = 1 ∨ i = 2 ∨ i = 3 := by omega
          rcases this with rfl | rfl | rfl | rfl
          · exact ⟨hup 0 (by omega), f2⟩
          · exact ⟨hup 1 (by omega), f3⟩
          · exact ⟨hup 2 (by omega), f4⟩
          · exact ⟨upd_at, f5⟩
/-- the class settles -/
theorem setL4 (K : Nat) (hK : 4000 ≤ K) {sz : Nat} (hsz : sz ≤ 4) {fac : Nat → Int64} {u : Nat → Int} (hf : ∀ i, i < sz → fac i = jJ (u i)) (hu : ∀ i, i < sz → -6400 ≤ u i ∧ u i ≤ 6400) : ∀ (fu i : Nat), i ≤ sz → sz - i < fu → fX10_settle_L4 K (nI sz) fac fu (jJ (gG u i : Int)) (nI i) = some (jJ (gG u sz : Int)) := by
  intro fu
  induction fu with
  | zero => intro i h1 h2; omega
  | succ fu ih =>
    intro i h1 h2
    rw [fX10_settle_L4]
    by_cases hi : i = sz
    · subst hi
      rw [if_pos (nI_le (Nat.le_refl i) (by omega))]
    · have hlt : i < sz := by omega
      have hg := gG_le (f := u) (B := 6400) (by omega) (k := i) (fun j hj => hu j (by omega))
      have hui := hu i hlt
      rw [if_neg (nI_ge hlt (by omega)), gd_t (inb_nI (show i < 4 by omega) (by decide)), nI_clamp (by omega), hf i hlt, (gcd_spec K hK (gG u i : Int) (u i) (by omega) (by omega) (by omega) (by omega)).1, sm_b1, xl_e, nI_1]
      exact ih (i + 1) (by omega) (by omega)
theorem jdivn {P g : Int} (hg : 0 < g) (hd : g ∣ P) (hP : -9223372036854775808 < P ∧ P < 9223372036854775808) (hg2 : g < 9223372036854775808) : jJ P / jJ (-g) = jJ (-(P / g)) := by
  have e := @Int64.ofInt_tdiv P (-g) (by rw [Int64.toInt_minValue]; omega) (by rw [Int64.toInt_maxValue]; omega) (by rw [Int64.toInt_minValue]; omega) (by rw [Int64.toInt_maxValue]; omega)
  show Int64.ofInt P / Int64.ofInt (-g) = Int64.ofInt (-(P / g))
  rw [← e, Int.tdiv_neg, Int.tdiv_eq_ediv_of_dvd hd]
theorem setL57 (K : Nat) {sz : Nat} (hsz : sz ≤ 4) {u v : Nat → Int} {c : Int64} (hc : ¬ c = 0) (hd : ∀ i, i < sz → jJ (u i) / c = jJ (v i)) : ∀ (fu i : Nat) (fac : Nat → Int64), i ≤ sz → sz - i < fu → (∀ j, j < i → fac j = jJ (v j)) → (∀ j, i ≤ j → j < sz → fac j = jJ (u j)) → ∃ fac', fX10_settle_L57 K c (nI sz) fu (nI i) fac = some fac' ∧ ∀ j, j < sz → fac' j = jJ (v j) := by
  intro fu
  induction fu with
  | zero => intro i fac h1 h2; omega
  | succ fu ih =>
    intro i fac h1 h2 h3 h4
    rw [fX10_settle_L57]
    by_cases hi : i = sz
    · subst hi
      rw [if_pos (nI_le (Nat.le_refl i) (by omega))]
      exact ⟨fac, rfl, h3⟩
    · have hlt : i < sz := by omega
      rw [if_neg (nI_ge hlt (by omega)), gd_t (inb_nI (show i < 4 by omega) (by decide)), gd_t (inb_nI (show i < 4 by omega) (by decide)), gd_ne hc, nI_clamp (by omega), h4 i (Nat.le_refl i) hlt, hd i hlt, xl_e, xl_e, nI_1]
      refine ih (i + 1) _ (by omega) (by omega) (fun j hj => ?_) (fun j q1 q2 => ?_)
      · by_cases e : j = i
        · rw [e, updL_at]
        · rw [updL_ne e]; exact h3 j (by omega)
      · rw [updL_ne (by omega)]; exact h4 j (by omega) q2
theorem settC (K : Nat) (hK : 4000 ≤ K) {sz : Nat} (h2 : 2 ≤ sz) (hsz : sz ≤ 4) {fac : Nat → Int64} {u : Nat → Int} (hf : ∀ i, i < sz → fac i = jJ (u i)) (hu : ∀ i, i < sz → -6400 ≤ u i ∧ u i ≤ 6400) (hne : u (sz - 1) ≠ 0) : ∃ fac', fX10_settle K (nI sz) fac = some fac' ∧ ∀ j, j < sz → fac' j = jJ (norm u sz j) := by
  have hg := gG_pos (f := u) (show sz - 1 < sz by omega) hne
  have hgl := gG_le (f := u) (B := 6400) (by omega) (k := sz) hu
  have e4 := setL4 K hK hsz hf hu K 0 (by omega) (by omega)
  unfold fX10_settle
  rw [show (0 : Int64) = jJ (gG u 0 : Int) from rfl, show (0 : Int32) = nI 0 from rfl, e4, sm_b1, show jJ (gG u 0 : Int) = (0 : Int64) from rfl]
  have hul := hu (sz - 1) (by omega)
  have es : nI sz - 1 = nI (sz - 1) := by rw [show (1 : Int32) = nI 1 from rfl, sub_nI (by omega)]
  rw [if_neg (jne hg (by omega)), es, gd_t (inb_nI (by omega) (by decide)), nI_clamp (by omega), hf (sz - 1) (by omega), jn_e]
  simp only [j_ge0 (show s64 (u (sz - 1)) from ⟨by omega, by omega⟩), xl_e]
  by_cases q : u (sz - 1) < 0
  · rw [if_neg (by omega), jJ_neg]
    obtain ⟨fac', f1, f2⟩ := setL57 K hsz (u := u) (v := norm u sz) (c := jJ (-(gG u sz : Int))) (by
      rw [j_eq0 ⟨by omega, by omega⟩]; omega) (fun i hi => by
      have := hu i hi
      rw [jdivn hg (gG_dvd hi) ⟨by omega, by omega⟩ (by omega)]
      unfold norm; rw [if_pos q]) K 0 fac (by omega) (by omega) (fun j hj => by omega) (fun j _ hj => hf j hj)
    rw [f1]
    exact ⟨fac', rfl, f2⟩
  · rw [if_pos q]
    obtain ⟨fac', f1, f2⟩ := setL57 K hsz (u := u) (v := norm u sz) (c := jJ (gG u sz : Int)) (jne hg (by omega)) (fun i hi => by
      have := hu i hi
      rw [jdivx hg (gG_dvd hi) ⟨by omega, by omega⟩ (by omega)]
      unfold norm; rw [if_neg q]) K 0 fac (by omega) (by omega) (fun j hj => by omega) (fun j _ hj => hf j hj)
    rw [f1]
    exact ⟨fac', rfl, f2⟩
/-- the model ties -/
theorem zeroL (K : Nat) : ∀ (fu i : Nat) (t : Nat → Int64), i ≤ 24 → 24 - i < fu → (∀ j, j < i → t j = 0) → ∃ t', fX12_laysTie_L2 K fu (nI i) t = some t' ∧ ∀ j, j < 24 → t' j = 0 := by
  intro fu
  induction fu with
  | zero => intro i t h1 h2; omega
  | succ fu ih =>
    intro i t h1 h2 h3
    rw [fX12_laysTie_L2]
    by_cases hi : i = 24
    · subst hi
      rw [if_pos (show (24 : Int32) ≤ nI 24 by decide)]
      exact ⟨t, rfl, h3⟩
    · rw [if_neg (show ¬ (24 : Int32) ≤ nI i from (nI_ge (show i < 24 by omega) (by decide) : ¬ nI 24 ≤ nI i)), gd_t (inb_nI (by omega) (by decide)), nI_clamp (by omega), xl_e, xl_e, nI_1]
      refine ih (i + 1) _ (by omega) (by omega) (fun j hj => ?_)
      by_cases e : j = i
      · rw [e, updL_at]
      · rw [updL_ne e]; exact h3 j (by omega)
theorem tiedM (K : Nat) (hK : 4000 ≤ K) {t : Nat → Int64} (ht : ∀ j, j < 24 → t j = 0) {a b c p : Nat} (ha : a < 24) (hb : b < 24) (hc : c < 24) (hp : p < 24) {u v w z : Int} (hu : -6400 ≤ u ∧ u ≤ 6400) (hv : -6400 ≤ v ∧ v ≤ 6400) (hw : -6400 ≤ w ∧ w ≤ 6400) (hz : 0 < z ∧ z ≤ 6400) : ∃ t' g, fX12_tied K t (nI a) (jJ u) (nI b) (jJ v) (nI c) (jJ w) (nI p) (jJ z) = some (1, t') ∧ g = Int.gcd (Int.gcd u v : Int) (Int.gcd w z : Int) ∧ ∀ q, q < 24 → t' q = jJ ((if q = a then u / (g : Int) else 0) + (if q = b then v / (g : Int) else 0) + (if q = c then w / (g : Int) else 0) + (if q = p then z / (g : Int) else 0)) := by
  obtain ⟨g, hg⟩ : ∃ g, g = Int.gcd (Int.gcd u v : Int) (Int.gcd w z : Int) := ⟨_, rfl⟩
  have l1 := gcd_bd (B := 6400) hu hv
  have l2 := gcd_bd (B := 6400) hw (show -6400 ≤ z ∧ z ≤ 6400 by omega)
  have l3 := gcd_bd (B := 6400) (a := (Int.gcd u v : Int)) (b := (Int.gcd w z : Int)) (by omega) (by omega)
  have g0 : 0 < (Int.gcd w z : Int) := gcd_pos2 (by omega)
  have gp : 0 < (g : Int) := by rw [hg]; exact gcd_pos2 (by omega)
  have d1 : (g : Int) ∣ u := by rw [hg]; exact Int.dvd_trans (Int.gcd_dvd_left _ _) (Int.gcd_dvd_left _ _)
  have d2' : (g : Int) ∣ v := by rw [hg]; exact Int.dvd_trans (Int.gcd_dvd_left _ _) (Int.gcd_dvd_right _ _)
  have d3 : (g : Int) ∣ w := by rw [hg]; exact Int.dvd_trans (Int.gcd_dvd_right _ _) (Int.gcd_dvd_left _ _)
  have d4 : (g : Int) ∣ z := by rw [hg]; exact Int.dvd_trans (Int.gcd_dvd_right _ _) (Int.gcd_dvd_right _ _)
  unfold fX12_tied
  rw [(gcd_spec K hK u v (by omega) (by omega) (by omega) (by omega)).2, sm_b1, (gcd_spec K hK w z (by omega) (by omega) (by omega) (by omega)).2, sm_b1, (gcd_spec K hK (Int.gcd u v : Int) (Int.gcd w z : Int) (by omega) (by omega) (by omega) (by omega)).2, sm_b1, ← hg]
  have hgl : (g : Int) ≤ 6400 := by rw [hg]; exact l3
  simp only [xl_e, gd_t (inb_nI ha (by decide)), gd_t (inb_nI hb (by decide)), gd_t (inb_nI hc (by decide)), gd_t (inb_nI hp (by decide)), gd_ne (jne gp (by omega)), nI_clamp (show a < 2 ^ 31 by omega), nI_clamp (show b < 2 ^ 31 by omega), nI_clamp (show c < 2 ^ 31 by omega), nI_clamp (show p < 2 ^ 31 by omega), jdivx gp d1 ⟨by omega, by omega⟩ (by omega), jdivx gp d2' ⟨by omega, by omega⟩ (by omega), jdivx gp d3 ⟨by omega, by omega⟩ (by omega), jdivx gp d4 ⟨by omega, by omega⟩ (by omega)]
  refine ⟨_, g, rfl, rfl, fun q hq => ?_⟩
  have step : ∀ (f : Nat → Int64) (F : Nat → Int) (k : Nat) (r : Int), (∀ q, q < 24 → f q = jJ (F q)) → k < 24 → ∀ q, q < 24 → vp_updL f k (f k + jJ r) q = jJ (F q + if q = k then r else 0) := by
    intro f F k r hf hk q hq
    by_cases e : q = k
    · subst e; rw [updL_at, hf q hq, jJ_add, if_pos rfl]
    · rw [updL_ne e, hf q hq, if_neg e, Int.add_zero]
  have s0 : ∀ q, q < 24 → t q = jJ ((fun _ => 0) q) := ht
  have s1 := step t (fun _ => 0) a (u / (g : Int)) s0 ha
  have s2 := step _ (fun q => 0 + if q = a then u / (g : Int) else 0) b (v / (g : Int)) s1 hb
  have s3 := step _ (fun q => (0 + if q = a then u / (g : Int) else 0) + if q = b then v / (g : Int) else 0) c (w / (g : Int)) s2 hc
  have s4 := step _ (fun q => ((0 + if q = a then u / (g : Int) else 0) + if q = b then v / (g : Int) else 0) + if q = c then w / (g : Int) else 0) p (z / (g : Int)) s3 hp
  rw [s4 q hq]
  simp only [Int.zero_add]
/-- found or not, alike -/
theorem mI_0 (k a : Nat) : mI 0 k a = -1 := by unfold mI; rw [if_neg (by omega)]
theorem raw3_bd {n : Nat} {x y : Nat → Int32} {X Y : Nat → Int} (h : Pts n x y X Y) {a b p : Nat} (ha : a < n) (hb : b < n) (hp : p < n) : (-3200 ≤ (X b - X a) * (X p - X a) + (Y b - Y a) * (Y p - Y a) ∧ (X b - X a) * (X p - X a) + (Y b - Y a) * (Y p - Y a) ≤ 3200) ∧ 0 ≤ (X b - X a) * (X b - X a) + (Y b - Y a) * (Y b - Y a) ∧ (X b - X a) * (X b - X a) + (Y b - Y a) * (Y b - Y a) ≤ 3200 := by
  have l1 := lin40 h ha hb
  have l2 := lin40 h ha hp
  have a1 := mulB (a := 40) (b := 40) l1.1 l2.1
  have a2 := mulB (a := 40) (b := 40) l1.2 l2.2
  have a3 := mulB (a := 40) (b := 40) l1.1 l1.1
  have a4 := mulB (a := 40) (b := 40) l1.2 l1.2
  have a5 := sqn (X b - X a)
  have a6 := sqn (Y b - Y a)
  omega
theorem gcd_n0 (a : Int) : Int.gcd 0 a = a.natAbs := by unfold Int.gcd; simp
theorem neg_div {a g : Int} (hg : g ≠ 0) (hd : g ∣ a) : -a / g = -(a / g) := Int.neg_ediv_of_dvd hd
theorem tieB (K : Nat) (hK : 4000 ≤ K) {n : Nat} {x y px py : Nat → Int32} {X Y : Nat → Int} (h : Pts n x y X Y) (h' : Pts n px py X Y) (S sz0 : Int32) (mem0 : Nat → Int32) (fac0 : Nat → Int64) (t0 : Nat → Int64) : (∃ sz1 mem1 fac1 t1, fX10_find K sz0 mem0 fac0 (nI n) x y S = some (0, sz1, mem1, fac1) ∧ fX12_laysTie K (nI n) px py t0 S = some (0, t1)) ∨ (∃ sz mem f mem1 fac1 t1, TI n X Y S sz mem f ∧ fX10_find K sz0 mem0 fac0 (nI n) x y S = some (1, nI sz, mem1, fac1) ∧ (∀ i, i < sz → mem1 i = nI (mem i) ∧ fac1 i = jJ (f i)) ∧ fX12_laysTie K (nI n) px py t0 S = some (1, t1) ∧ ∀ q, q < 24 → t1 q = jJ (phi mem f sz q)) := by
  have hn := h.1
  obtain ⟨tz, z1, z2⟩ := zeroL K K 0 t0 (by omega) (by omega) (fun j hj => by omega)
  have hF := findJ K h h' S K 0 0 0 0 0 mem0 fac0 (by omega) (by omega) ⟨by omega, fun q => by omega, fun q => by omega, fun q => by omega⟩ (fun i hi => by omega)
  rw [mI_0, mI_0, mI_0, show nI 0 = (0 : Int32) from rfl] at hF
  rw [show nI 0 = (0 : Int32) from rfl] at z1
  unfold fX10_find fX12_laysTie
  rw [z1, sm_b1]
  rcases hF with ⟨⟨t, e1⟩, e2⟩ | ⟨sz, mem, u, m', f', e1, e2, e3⟩
  · rw [e1, e2]
    exact Or.inl ⟨_, _, _, _, rfl, rfl⟩
  · rw [e1]
    right
    rcases e3 with ⟨rfl, a, p, rfl, rfl, ⟨w1, w2, w3, w4, w5⟩, e4⟩ | ⟨rfl, a, b, p, rfl, rfl, ⟨w1, w2, w3, w4, w5, w6, w7, w8⟩, e4⟩ | ⟨rfl, a, b, c, p, rfl, rfl, ⟨w1, w2, w3, w4, w5, w6, w7, w8, w9⟩, e4⟩
    · obtain ⟨fac', g1, g2⟩ := settC K hK (sz := 2) (by omega) (by omega) (fun i hi => (e2 i hi).2) (fun i hi => by
        have : i = 0 ∨ i = 1 := by omega
        rcases this with rfl | rfl <;> decide) (by decide)
      obtain ⟨t1, g, k1, k2, k3⟩ := tiedM K hK z2 (show a < 24 by omega) (show a < 24 by omega) (show a < 24 by omega) (show p < 24 by omega) (u := -1) (v := 0) (w := 0) (z := 1) (by omega) (by omega) (by omega) (by omega)
      refine ⟨2, mm a p 0 0, norm raw2 2, m', fac', t1, tie2 w1 w2 w3 w4 w5, ?_, fun i hi => ⟨(e2 i hi).1, g2 i hi⟩, ?_, fun q hq => ?_⟩
      · simp only [sm, Option.bind_some, Sum.elim_inr, Sum.elim_inl, u3]
        rw [g1]; rfl
      · rw [e4]
        simp only [sm, Option.bind_some, Sum.elim_inl, u2]
        rw [show fX12_tied K tz (nI a) (-1) (nI a) 0 (nI a) 0 (nI p) 1 = some (1, t1) from k1, sm_b2]
        rfl
      · rw [k3 q hq]
        have hg1 : g = 1 := by rw [k2]; decide
        rw [hg1]
        congr 1
        have n0 : norm raw2 2 0 = -1 := by decide
        have n1 : norm raw2 2 1 = 1 := by decide
        have p0 : mm a p 0 0 0 = a := rfl
        have p1 : mm a p 0 0 1 = p := rfl
        simp only [phi, n0, n1, p0, p1, show ((1 : Nat) : Int) = 1 from rfl, Int.ediv_one]
        clear n0 n1 p0 p1 e1 e2 e4 g1 g2 k1 k2 k3
        (repeat' split) <;> omega
    · have rb := raw3_bd h (show a < n by omega) (show b < n by omega) w3
      obtain ⟨T, hpos⟩ := tie3 h w1 w2 w3 w4 w5 w6 w7 w8
      have hpos' : 0 < (X b - X a) * (X b - X a) + (Y b - Y a) * (Y b - Y a) := hpos
      have lb : ∀ i, i < 3 → -6400 ≤ raw3 X Y a b p i ∧ raw3 X Y a b p i ≤ 6400 := by
        intro i hi
        have : i = 0 ∨ i = 1 ∨ i = 2 := by omega
        rcases this with rfl | rfl | rfl <;> simp only [raw3] <;> simp <;> omega
      obtain ⟨fac', g1, g2⟩ := settC K hK (sz := 3) (by omega) (by omega) (fun i hi => (e2 i hi).2) lb (show raw3 X Y a b p 2 ≠ 0 by omega)
      have b0 := lb 0 (by omega)
      have b1 := lb 1 (by omega)
      have b2' := lb 2 (by omega)
      obtain ⟨t1, g, k1, k2, k3⟩ := tiedM K hK z2 (show a < 24 by omega) (show b < 24 by omega) (show a < 24 by omega) (show p < 24 by omega) (u := raw3 X Y a b p 0) (v := raw3 X Y a b p 1) (w := 0) (z := raw3 X Y a b p 2) b0 b1 (by omega) ⟨hpos, b2'.2⟩
      refine ⟨3, mm a b p 0, norm (raw3 X Y a b p) 3, m', fac', t1, T, ?_, fun i hi => ⟨(e2 i hi).1, g2 i hi⟩, ?_, fun q hq => ?_⟩
      · simp only [sm, Option.bind_some, Sum.elim_inr, Sum.elim_inl, u3]
        rw [g1]; rfl
      · rw [e4]
        simp only [sm, Option.bind_some, Sum.elim_inl, Sum.elim_inr, u3]
        unfold fX12_tiedOnLine
        obtain ⟨a1, a2, -⟩ := h'.2 a (by omega)
        obtain ⟨c1, c2, -⟩ := h'.2 b (by omega)
        obtain ⟨d1, d2', -⟩ := h'.2 p w3
        have l1 := lin40 h (show a < n by omega) (show b < n by omega)
        have l2 := lin40 h (show a < n by omega) w3
        have q0 : (X p - X a) * (X b - X a) + (Y p - Y a) * (Y b - Y a) - ((X b - X a) * (X b - X a) + (Y b - Y a) * (Y b - Y a)) = raw3 X Y a b p 0 := by simp only [raw3]; grind
        have q1 : -((X p - X a) * (X b - X a) + (Y p - Y a) * (Y b - Y a)) = raw3 X Y a b p 1 := by simp only [raw3]; grind
        simp only [xl_e, gd_t (inb_nI (show a < 24 by omega) (by decide)), nI_clamp (show a < 2 ^ 31 by omega), gd_t (inb_nI (show b < 24 by omega) (by decide)), nI_clamp (show b < 2 ^ 31 by omega), gd_t (inb_nI (show p < 24 by omega) (by decide)), nI_clamp (show p < 2 ^ 31 by omega), a1, a2, c1, c2, d1, d2', iI_sub, iI_long (show s32 (X b - X a) from ⟨by omega, by omega⟩), iI_long (show s32 (Y b - Y a) from ⟨by omega, by omega⟩), iI_long (show s32 (X p - X a) from ⟨by omega, by omega⟩), iI_long (show s32 (Y p - Y a) from ⟨by omega, by omega⟩), jJ_mul, jJ_add, jJ_sub, jJ_neg, q0, q1]
        rw [show fX12_tied K tz (nI a) (jJ (raw3 X Y a b p 0)) (nI b) (jJ (raw3 X Y a b p 1)) (nI a) 0 (nI p) (jJ ((X b - X a) * (X b - X a) + (Y b - Y a) * (Y b - Y a))) = some (1, t1) from k1, sm_b2, gd_t (show z01 1 = true from rfl), sm_b2]
        rfl
      · rw [k3 q hq]
        have hg1 : (g : Int) = (gG (raw3 X Y a b p) 3 : Int) := by
          rw [k2]
          simp only [gG]
          rw [gcd_n0, show ((0 : Nat) : Int) = 0 from rfl, gcd_n0]
          congr 1
        rw [hg1]
        congr 1
        have nn : ∀ i, norm (raw3 X Y a b p) 3 i = raw3 X Y a b p i / (gG (raw3 X Y a b p) 3 : Int) := fun i => by unfold norm; rw [if_neg (show ¬ raw3 X Y a b p 2 < 0 by omega)]
        have p0 : mm a b p 0 0 = a := rfl
        have p1 : mm a b p 0 1 = b := rfl
        have p2 : mm a b p 0 2 = p := rfl
        simp only [phi, nn, p0, p1, p2, Int.zero_ediv]
        clear nn p0 p1 p2 e1 e2 e4 g1 g2 k1 k2 k3 T
        (repeat' split) <;> omega
    · have ra := (h.2 a (by omega)).2.2
      have rb := (h.2 b (by omega)).2.2
      have rc := (h.2 c (by omega)).2.2
      have rp := (h.2 p w4).2.2
      have T := tie4 h w1 w2 w3 w4 w5 w6 w7 w8 w9
      have i0 := trn1600 rp rb rc
      have i1 := trn1600 ra rp rc
      have i2 := trn1600 ra rb rp
      have i3 := trn1600 ra rb rc
      have v0 : raw4 X Y a b c p 0 = -trn X Y p b c := rfl
      have v1 : raw4 X Y a b c p 1 = -trn X Y a p c := rfl
      have v2 : raw4 X Y a b c p 2 = -trn X Y a b p := rfl
      have v3 : raw4 X Y a b c p 3 = trn X Y a b c := rfl
      have lb : ∀ i, i < 4 → -6400 ≤ raw4 X Y a b c p i ∧ raw4 X Y a b c p i ≤ 6400 := by
        intro i hi
        have : i = 0 ∨ i = 1 ∨ i = 2 ∨ i = 3 := by omega
        rcases this with rfl | rfl | rfl | rfl
        · rw [v0]; omega
        · rw [v1]; omega
        · rw [v2]; omega
        · rw [v3]; omega
      obtain ⟨fac', g1, g2⟩ := settC K hK (sz := 4) (by omega) (by omega) (fun i hi => (e2 i hi).2) lb (show raw4 X Y a b c p 3 ≠ 0 from w9)
      obtain ⟨σ, hσ, hz, hneg⟩ : ∃ σ : Int, ((trn X Y a b c < 0 ∧ σ = 1) ∨ (0 < trn X Y a b c ∧ σ = -1)) ∧ 0 < (trn X Y a b c).natAbs ∧ ((trn X Y a b c).natAbs : Int) = -(σ * trn X Y a b c) := by
        rcases Int.lt_or_gt_of_ne w9 with q | q
        · exact ⟨1, Or.inl ⟨q, rfl⟩, by omega, by omega⟩
        · exact ⟨-1, Or.inr ⟨q, rfl⟩, by omega, by omega⟩
      have hb : ∀ z : Int, -1600 ≤ z ∧ z ≤ 1600 → -6400 ≤ σ * z ∧ σ * z ≤ 6400 := fun z hz => by rcases hσ with ⟨-, rfl⟩ | ⟨-, rfl⟩ <;> omega
      obtain ⟨t1, g, k1, k2, k3⟩ := tiedM K hK z2 (show a < 24 by omega) (show b < 24 by omega) (show c < 24 by omega) (show p < 24 by omega) (u := σ * trn X Y p b c) (v := σ * trn X Y a p c) (w := σ * trn X Y a b p) (z := ((trn X Y a b c).natAbs : Int)) (hb _ i0) (hb _ i1) (hb _ i2) (by omega)
      refine ⟨4, mm a b c p, norm (raw4 X Y a b c p) 4, m', fac', t1, T, ?_, fun i hi => ⟨(e2 i hi).1, g2 i hi⟩, ?_, fun q hq => ?_⟩
      · simp only [sm, Option.bind_some, Sum.elim_inr, Sum.elim_inl, u3]
        rw [g1]; rfl
      · rw [e4]
        simp only [sm, Option.bind_some, Sum.elim_inl, Sum.elim_inr, u4]
        rw [turnM K h' (show a < n by omega) (show b < n by omega) (show c < n by omega), turnM K h' w4 (show b < n by omega) (show c < n by omega), turnM K h' (show a < n by omega) w4 (show c < n by omega), turnM K h' (show a < n by omega) (show b < n by omega) w4]
        simp only [sm_b1, jn_e, xl_e, jabsl_jJ (a := trn X Y a b c) (by omega) (by omega)]
        have sel : ∀ (A B : Option (Int32 × (Nat → Int64))), (if jJ (trn X Y a b c) ≤ 0 then A else B) = if trn X Y a b c < 0 then A else B := by
          intro A B
          have : jJ (trn X Y a b c) ≤ 0 ↔ trn X Y a b c ≤ 0 := jJ_le (b := 0) ⟨by omega, by omega⟩ ⟨by omega, by omega⟩
          simp only [this]
          rcases Int.lt_or_gt_of_ne w9 with q | q
          · rw [if_pos (by omega), if_pos q]
          · rw [if_neg (by omega), if_neg (by omega)]
        rw [sel]
        rcases hσ with ⟨hs, rfl⟩ | ⟨hs, rfl⟩
        · rw [if_pos hs, show (1 : Int64) = jJ 1 from rfl, jJ_mul, jJ_mul, jJ_mul, k1, sm_b2]
          rfl
        · rw [if_neg (by omega), show (-1 : Int64) = jJ (-1) from rfl, jJ_mul, jJ_mul, jJ_mul, k1, sm_b2]
          rfl
      · rw [k3 q hq]
        have hg1 : (g : Int) = (gG (raw4 X Y a b c p) 4 : Int) := by
          rw [k2]
          simp only [gG, v0, v1, v2, v3]
          have an : ∀ z : Int, (σ * z).natAbs = z.natAbs := fun z => by rcases hσ with ⟨-, rfl⟩ | ⟨-, rfl⟩ <;> omega
          unfold Int.gcd
          simp only [an, Int.natAbs_natCast, Int.natAbs_neg, Int.natAbs_zero, Nat.gcd_zero_left]
          rw [Nat.gcd_assoc, Nat.gcd_assoc, Nat.gcd_assoc]
        have hgp := gG_pos (f := raw4 X Y a b c p) (show 3 < 4 by omega) (show raw4 X Y a b c p 3 ≠ 0 from w9)
        rw [hg1]
        congr 1
        have dv : ∀ i, i < 4 → (gG (raw4 X Y a b c p) 4 : Int) ∣ raw4 X Y a b c p i := fun i hi => gG_dvd hi
        have d0 : (gG (raw4 X Y a b c p) 4 : Int) ∣ trn X Y p b c := by have := dv 0 (by omega); rw [v0] at this; exact (Int.dvd_neg).mp this
        have d1 : (gG (raw4 X Y a b c p) 4 : Int) ∣ trn X Y a p c := by have := dv 1 (by omega); rw [v1] at this; exact (Int.dvd_neg).mp this
        have d2' : (gG (raw4 X Y a b c p) 4 : Int) ∣ trn X Y a b p := by have := dv 2 (by omega); rw [v2] at this; exact (Int.dvd_neg).mp this
        have d3 : (gG (raw4 X Y a b c p) 4 : Int) ∣ trn X Y a b c := dv 3 (by omega)
        generalize hG : (gG (raw4 X Y a b c p) 4 : Int) = G at *
        have nn : ∀ i, norm (raw4 X Y a b c p) 4 i = if trn X Y a b c < 0 then -(raw4 X Y a b c p i / G) else raw4 X Y a b c p i / G := fun i => by unfold norm; rw [hG]; rfl
        have p0 : mm a b c p 0 = a := rfl
        have p1 : mm a b c p 1 = b := rfl
        have p2 : mm a b c p 2 = c := rfl
        have p3 : mm a b c p 3 = p := rfl
        simp only [phi, nn, p0, p1, p2, p3, v0, v1, v2, v3]
        have hG0 : G ≠ 0 := by omega
        rw [hneg]
        rcases hσ with ⟨hs, rfl⟩ | ⟨hs, rfl⟩
        · simp only [if_pos hs, Int.one_mul, neg_div hG0 d0, neg_div hG0 d1, neg_div hG0 d2', neg_div hG0 d3, Int.neg_neg]
          clear nn p0 p1 p2 p3 e1 e2 e4 g1 g2 k1 k2 k3 T hb dv lb
          (repeat' split) <;> omega
        · simp only [if_neg (show ¬ trn X Y a b c < 0 by omega), Int.neg_mul, Int.one_mul, Int.neg_neg]
          clear nn p0 p1 p2 p3 e1 e2 e4 g1 g2 k1 k2 k3 T hb dv lb
          (repeat' split) <;> omega
