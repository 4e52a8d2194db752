--@ needs 3zm.ap4
def cW (σ cx cy x y : Int) : T3 := (σ * (x - cx), σ * (y - cy), 1)
def eW (σ : Int) (U V : Nat → Int) (m : Nat) (cx cy' : Int) (k : Nat) : T3 := (σ * ((nE U V m cx cy' k).1 - cx * (nE U V m cx cy' k).2.2), σ * ((nE U V m cx cy' k).2.1 - cy' * (nE U V m cx cy' k).2.2), (nE U V m cx cy' k).2.2)
theorem cW_ok {σ cx cy x y : Int} (hσ : σ = 1 ∨ σ = -1) (hcx : -20 ≤ cx ∧ cx ≤ 20) (hcy : -20 ≤ cy ∧ cy ≤ 20) (hx : -20 ≤ x ∧ x ≤ 20) (hy : -20 ≤ y ∧ y ≤ 20) : okV (cW σ cx cy x y) := by
  unfold cW
  rcases hσ with rfl | rfl
  · exact ⟨⟨by show (1 : Int) ≤ 1; omega, by show (1 : Int) ≤ 3200; omega⟩, by show -128000 ≤ 1 * (x - cx) ∧ 1 * (x - cx) ≤ 128000; omega, by show -128000 ≤ 1 * (y - cy) ∧ 1 * (y - cy) ≤ 128000; omega⟩
  · exact ⟨⟨by show (1 : Int) ≤ 1; omega, by show (1 : Int) ≤ 3200; omega⟩, by show -128000 ≤ -1 * (x - cx) ∧ -1 * (x - cx) ≤ 128000; omega, by show -128000 ≤ -1 * (y - cy) ∧ -1 * (y - cy) ≤ 128000; omega⟩
theorem w26 (K : Nat) (hK : 4000 ≤ K) {px py cor cors : Nat → Int32} {w : Nat} {U V : Nat → Int} {m : Nat} (h : hulM K px py cor cors w U V m) (hm : m < 48) (hU : okU U V m) {c : Nat} (hc24 : c < 24) {cx cy' : Int} (hpx : px c = iI cx) (hpy : py c = iI cy') (hcx : -20 ≤ cx ∧ cx ≤ 20) (hcy : -20 ≤ cy' ∧ cy' ≤ 20) {σ : Int} (hσ : σ = 1 ∨ σ = -1) {E : T3 → Prop} (hpos : ∀ W, E W → 0 < D3 0 0 W) (hE : ∀ k, k < m → E (cW σ cx cy' (U k) (V k))) : ∀ (fu i : Nat) (D : T3 → Prop) (st : Option T3) (fa fb wx wy : Int64), i ≤ m → m - i < fu → stM st fa fb wx wy → vO E D st → (∀ W, D W → 1 ≤ W.2.2) → ∃ fa' fb' wx' wy' st', fX12_laysWays_L26 K (nI w) (jJ σ) (nI c) px py cor cors fu (nI i) fa fb wx wy = some (fa', fb', wx', wy') ∧ stM st' fa' fb' wx' wy' ∧ vO E (fun W => D W ∨ ∃ k, i ≤ k ∧ k < m ∧ W = cW σ cx cy' (U k) (V k)) st' := by
  obtain ⟨hw3, hc, hcor⟩ := h
  intro fu
  induction fu with
  | zero => intro i D st fa fb wx wy h1 h2; omega
  | succ fu ih =>
    intro i D st fa fb wx wy h1 h2 hs hv hD
    rw [fX12_laysWays_L26, gd_t (inb_nI hw3 (by decide)), nI_clamp (by omega), hc]
    by_cases ee : i = m
    · subst ee
      rw [if_pos (nI_le (Nat.le_refl _) (by omega))]
      refine ⟨_, _, _, _, st, rfl, hs, vO_weak hv (fun Z => ?_)⟩
      rintro (hz | ⟨k, hk1, hk2, -⟩)
      · exact hz
      · omega
    · have him : i < m := by omega
      rw [if_neg (nI_ge him (by omega))]
      obtain ⟨ca, ca1, ca2, ca3, ca4⟩ := hcor i (by omega)
      rw [show cy m i = i from if_pos him] at ca3 ca4
      obtain ⟨u1, u2⟩ := hU i him
      simp only [nI_1, ca2, b1, Option.bind_some, gd_t (inb_nI ca1 (by decide)), gd_t (inb_nI hc24 (by decide)), nI_clamp (show ca < 2 ^ 31 by omega), nI_clamp (show c < 2 ^ 31 by omega), ca3, ca4, hpx, hpy, xl, iI_sub]
      rw [iI_long (show s32 (U i - cx) from ⟨by omega, by omega⟩), iI_long (show s32 (V i - cy') from ⟨by omega, by omega⟩)]
      simp only [jJ_mul]
      have hO := cW_ok (x := U i) (y := V i) hσ hcx hcy u1 u2
      obtain ⟨fa', fb', wx', wy', g1, g2⟩ := tryW K hK hs hv hO (hpos _ (hE i him))
      rw [show fX12_triesWay K fa fb wx wy (jJ (σ * (U i - cx))) (jJ (σ * (V i - cy'))) 1 = _ from g1]
      simp only [b4, Option.bind_some]
      obtain ⟨fa2, fb2, wx2, wy2, st2, k1, k2, k3⟩ := ih (i + 1) _ _ fa' fb' wx' wy' (by omega) (by omega) g2 (vO_up hv hD hO (hE i him)) (by
        rintro W (hW | rfl)
        · exact hD W hW
        · exact Int.le_refl 1)
      refine ⟨fa2, fb2, wx2, wy2, st2, k1, k2, vO_weak k3 (fun Z => ?_)⟩
      rintro (hz | ⟨k, hk1, hk2, e⟩)
      · exact Or.inl (Or.inl hz)
      · by_cases z : k = i
        · subst z; exact Or.inl (Or.inr e.symm)
        · exact Or.inr ⟨k, by omega, hk2, e⟩
theorem w97 (K : Nat) (hK : 4000 ≤ K) {px py cor cors : Nat → Int32} {w : Nat} {U V : Nat → Int} {m : Nat} (h : hulM K px py cor cors w U V m) (h0 : 0 < m) (hm : m < 48) (hU : okU U V m) {c : Nat} (hc24 : c < 24) {cx cy' : Int} (hpx : px c = iI cx) (hpy : py c = iI cy') (hcx : -20 ≤ cx ∧ cx ≤ 20) (hcy : -20 ≤ cy' ∧ cy' ≤ 20) {σ : Int} (hσ : σ = 1 ∨ σ = -1) {E : T3 → Prop} (hpos : ∀ W, E W → 0 < D3 0 0 W) (hE : ∀ k, k < m → E (eW σ U V m cx cy' k)) {e : Nat} (he : e ≤ m) (hed : fX12_edges K cors (nI w) = some (nI e)) : ∀ (fu i : Nat) (D : T3 → Prop) (st : Option T3) (fa fb wx wy : Int64), i ≤ e → e - i < fu → stM st fa fb wx wy → vO E D st → (∀ W, D W → 1 ≤ W.2.2) → ∃ fa' fb' wx' wy' st', fX12_laysWays_L97 K (nI w) (jJ σ) (nI c) px py cor cors fu (nI i) fa fb wx wy = some (fa', fb', wx', wy') ∧ stM st' fa' fb' wx' wy' ∧ vO E (fun W => D W ∨ ∃ k, i ≤ k ∧ k < e ∧ intr U V m cx cy' k ∧ W = eW σ U V m cx cy' k) st' := by
  obtain ⟨hw3, hc, hcor⟩ := h
  intro fu
  induction fu with
  | zero => intro i D st fa fb wx wy h1 h2; omega
  | succ fu ih =>
    intro i D st fa fb wx wy h1 h2 hs hv hD
    rw [fX12_laysWays_L97, hed]
    simp only [b1, Option.bind_some]
    by_cases ee : i = e
    · subst ee
      rw [if_pos (nI_le (Nat.le_refl _) (by omega))]
      refine ⟨_, _, _, _, st, rfl, hs, vO_weak hv (fun Z => ?_)⟩
      rintro (hz | ⟨k, hk1, hk2, -⟩)
      · exact hz
      · omega
    · have him : i < m := by omega
      rw [if_neg (nI_ge (show i < e by omega) (by omega))]
      obtain ⟨ca, ca1, ca2, ca3, ca4⟩ := hcor i (by omega)
      obtain ⟨cb, cb1, cb2, cb3, cb4⟩ := hcor (i + 1) (by omega)
      rw [show cy m i = i from if_pos him] at ca3 ca4
      obtain ⟨u1, u2⟩ := hU i him
      obtain ⟨v1, v2⟩ := hU (cy m (i + 1)) (cy_lt h0)
      have f1 := mulB (u := U (cy m (i + 1)) - U i) (v := U (cy m (i + 1)) - U i) (a := 40) (b := 40) (by omega) (by omega)
      have f2 := mulB (u := V (cy m (i + 1)) - V i) (v := V (cy m (i + 1)) - V i) (a := 40) (b := 40) (by omega) (by omega)
      have f3 := mulB (u := U (cy m (i + 1)) - U i) (v := cx - U i) (a := 40) (b := 40) (by omega) (by omega)
      have f4 := mulB (u := V (cy m (i + 1)) - V i) (v := cy' - V i) (a := 40) (b := 40) (by omega) (by omega)
      simp only [nI_1, ca2, cb2, Option.bind_some, gd_t (inb_nI ca1 (by decide)), gd_t (inb_nI cb1 (by decide)), gd_t (inb_nI hc24 (by decide)), nI_clamp (show ca < 2 ^ 31 by omega), nI_clamp (show cb < 2 ^ 31 by omega), nI_clamp (show c < 2 ^ 31 by omega), ca3, ca4, cb3, cb4, hpx, hpy, xl, iI_sub, jn]
      rw [iI_long (show s32 (U (cy m (i + 1)) - U i) from ⟨by omega, by omega⟩), iI_long (show s32 (V (cy m (i + 1)) - V i) from ⟨by omega, by omega⟩), iI_long (show s32 (cx - U i) from ⟨by omega, by omega⟩), iI_long (show s32 (cy' - V i) from ⟨by omega, by omega⟩), iI_long (show s32 (U i - cx) from ⟨by omega, by omega⟩), iI_long (show s32 (V i - cy') from ⟨by omega, by omega⟩)]
      simp only [jJ_mul, jJ_add]
      rw [Int.mul_comm (cx - U i), Int.mul_comm (cy' - V i)]
      have s1 : s64 ((U (cy m (i + 1)) - U i) * (cx - U i) + (V (cy m (i + 1)) - V i) * (cy' - V i)) := ⟨by omega, by omega⟩
      have s2 : s64 ((U (cy m (i + 1)) - U i) * (U (cy m (i + 1)) - U i) + (V (cy m (i + 1)) - V i) * (V (cy m (i + 1)) - V i)) := ⟨by omega, by omega⟩
      have t1 : (jJ ((U (cy m (i + 1)) - U i) * (cx - U i) + (V (cy m (i + 1)) - V i) * (cy' - V i)) ≤ 0) ↔ (U (cy m (i + 1)) - U i) * (cx - U i) + (V (cy m (i + 1)) - V i) * (cy' - V i) ≤ 0 := jJ_le (b := 0) s1 ⟨by omega, by omega⟩
      simp only [t1, jJ_le s2 s1]
      have keep : ¬ intr U V m cx cy' i → ∃ fa' fb' wx' wy' st', fX12_laysWays_L97 K (nI w) (jJ σ) (nI c) px py cor cors fu (nI (i + 1)) fa fb wx wy = some (fa', fb', wx', wy') ∧ stM st' fa' fb' wx' wy' ∧ vO E (fun W => D W ∨ ∃ k, i ≤ k ∧ k < e ∧ intr U V m cx cy' k ∧ W = eW σ U V m cx cy' k) st' := by
        intro hni
        obtain ⟨fa2, fb2, wx2, wy2, st2, k1, k2, k3⟩ := ih (i + 1) D st fa fb wx wy (by omega) (by omega) hs hv hD
        refine ⟨fa2, fb2, wx2, wy2, st2, k1, k2, vO_weak k3 (fun Z => ?_)⟩
        rintro (hz | ⟨k, hk1, hk2, hin, e⟩)
        · exact Or.inl hz
        · by_cases z : k = i
          · subst z; exact absurd hin hni
          · exact Or.inr ⟨k, by omega, hk2, hin, e⟩
      by_cases c1 : (U (cy m (i + 1)) - U i) * (cx - U i) + (V (cy m (i + 1)) - V i) * (cy' - V i) ≤ 0
      · rw [if_pos c1]
        exact keep (fun z => by have := z.1; omega)
      · rw [if_neg c1]
        by_cases c2 : (U (cy m (i + 1)) - U i) * (U (cy m (i + 1)) - U i) + (V (cy m (i + 1)) - V i) * (V (cy m (i + 1)) - V i) ≤ (U (cy m (i + 1)) - U i) * (cx - U i) + (V (cy m (i + 1)) - V i) * (cy' - V i)
        · rw [if_pos c2]
          exact keep (fun z => by have := z.2; omega)
        · rw [if_neg c2]
          have hin : intr U V m cx cy' i := ⟨by omega, by omega⟩
          have hO : okV (eW σ U V m cx cy' i) := AP_okV hσ (edge_ok h0 hU hcx hcy him)
          have hn : nE U V m cx cy' i = (U i * ((U (cy m (i + 1)) - U i) * (U (cy m (i + 1)) - U i) + (V (cy m (i + 1)) - V i) * (V (cy m (i + 1)) - V i)) + ((U (cy m (i + 1)) - U i) * (cx - U i) + (V (cy m (i + 1)) - V i) * (cy' - V i)) * (U (cy m (i + 1)) - U i), V i * ((U (cy m (i + 1)) - U i) * (U (cy m (i + 1)) - U i) + (V (cy m (i + 1)) - V i) * (V (cy m (i + 1)) - V i)) + ((U (cy m (i + 1)) - U i) * (cx - U i) + (V (cy m (i + 1)) - V i) * (cy' - V i)) * (V (cy m (i + 1)) - V i), (U (cy m (i + 1)) - U i) * (U (cy m (i + 1)) - U i) + (V (cy m (i + 1)) - V i) * (V (cy m (i + 1)) - V i)) := by
            unfold nE nS
            rw [if_neg c1, if_neg c2]
          obtain ⟨fa', fb', wx', wy', g1, g2⟩ := tryW K hK hs hv hO (hpos _ (hE i him))
          have p1 : (eW σ U V m cx cy' i).1 = σ * ((U i - cx) * ((U (cy m (i + 1)) - U i) * (U (cy m (i + 1)) - U i) + (V (cy m (i + 1)) - V i) * (V (cy m (i + 1)) - V i)) + ((U (cy m (i + 1)) - U i) * (cx - U i) + (V (cy m (i + 1)) - V i) * (cy' - V i)) * (U (cy m (i + 1)) - U i)) := by
            unfold eW; rw [hn]; dsimp only; grind
          have p2 : (eW σ U V m cx cy' i).2.1 = σ * ((V i - cy') * ((U (cy m (i + 1)) - U i) * (U (cy m (i + 1)) - U i) + (V (cy m (i + 1)) - V i) * (V (cy m (i + 1)) - V i)) + ((U (cy m (i + 1)) - U i) * (cx - U i) + (V (cy m (i + 1)) - V i) * (cy' - V i)) * (V (cy m (i + 1)) - V i)) := by
            unfold eW; rw [hn]; dsimp only; grind
          have p3 : (eW σ U V m cx cy' i).2.2 = (U (cy m (i + 1)) - U i) * (U (cy m (i + 1)) - U i) + (V (cy m (i + 1)) - V i) * (V (cy m (i + 1)) - V i) := by
            unfold eW; rw [hn]
          rw [p1, p2, p3] at g1
          rw [g1]
          simp only [b4, Option.bind_some]
          obtain ⟨fa2, fb2, wx2, wy2, st2, k1, k2, k3⟩ := ih (i + 1) _ _ fa' fb' wx' wy' (by omega) (by omega) g2 (vO_up hv hD hO (hE i him)) (by
            rintro W (hW | rfl)
            · exact hD W hW
            · exact (nS_ok _ _ _ _ _ _).1)
          refine ⟨fa2, fb2, wx2, wy2, st2, k1, k2, vO_weak k3 (fun Z => ?_)⟩
          rintro (hz | ⟨k, hk1, hk2, hin, e⟩)
          · exact Or.inl (Or.inl hz)
          · by_cases z : k = i
            · subst z; exact Or.inl (Or.inr e.symm)
            · exact Or.inr ⟨k, by omega, hk2, hin, e⟩
def allW (σ : Int) (U V : Nat → Int) (m : Nat) (U2 V2 : Nat → Int) (m2 e2 i : Nat) (W : T3) : Prop := (∃ k, k < m2 ∧ W = cW σ (U i) (V i) (U2 k) (V2 k)) ∨ ∃ k, k < e2 ∧ intr U2 V2 m2 (U i) (V i) k ∧ W = eW σ U2 V2 m2 (U i) (V i) k
theorem w3 (K : Nat) (hK : 4000 ≤ K) {px py cor cors : Nat → Int32} {v w : Nat} {U V : Nat → Int} {m : Nat} {U2 V2 : Nat → Int} {m2 : Nat} (h : hulM K px py cor cors v U V m) (hm : m < 48) (hU : okU U V m) (h2 : hulM K px py cor cors w U2 V2 m2) (h02 : 0 < m2) (hm2 : m2 < 48) (hU2 : okU U2 V2 m2) {σ : Int} (hσ : σ = 1 ∨ σ = -1) {E : T3 → Prop} (hpos : ∀ W, E W → 0 < D3 0 0 W) (hE1 : ∀ i k, i < m → k < m2 → E (cW σ (U i) (V i) (U2 k) (V2 k))) (hE2 : ∀ i k, i < m → k < m2 → E (eW σ U2 V2 m2 (U i) (V i) k)) {e : Nat} (he : e ≤ m2) (hed : fX12_edges K cors (nI w) = some (nI e)) : ∀ (fu i : Nat) (D : T3 → Prop) (st : Option T3) (fa fb wx wy : Int64), i ≤ m → m - i < fu → stM st fa fb wx wy → vO E D st → (∀ W, D W → 1 ≤ W.2.2) → ∃ fa' fb' wx' wy' st', fX12_laysWays_L3 K (nI v) (nI w) (jJ σ) px py cor cors fu (nI i) fa fb wx wy = some (fa', fb', wx', wy') ∧ stM st' fa' fb' wx' wy' ∧ vO E (fun W => D W ∨ ∃ k, i ≤ k ∧ k < m ∧ allW σ U V m U2 V2 m2 e k W) st' := by
  obtain ⟨hw3, hc, hcor⟩ := h
  intro fu
  induction fu with
  | zero => intro i D st fa fb wx wy h1 h2; omega
  | succ fu ih =>
    intro i D st fa fb wx wy h1 l2 hs hv hD
    rw [fX12_laysWays_L3, gd_t (inb_nI hw3 (by decide)), nI_clamp (by omega), hc]
    by_cases ee : i = m
    · subst ee
      rw [if_pos (nI_le (Nat.le_refl _) (by omega))]
      refine ⟨_, _, _, _, st, rfl, hs, vO_weak hv (fun Z => ?_)⟩
      rintro (hz | ⟨k, hk1, hk2, -⟩)
      · exact hz
      · omega
    · have him : i < m := by omega
      rw [if_neg (nI_ge him (by omega))]
      obtain ⟨ca, ca1, ca2, ca3, ca4⟩ := hcor i (by omega)
      rw [show cy m i = i from if_pos him] at ca3 ca4
      obtain ⟨u1, u2⟩ := hU i him
      obtain ⟨fa1, fb1, wx1, wy1, st1, g1, g2, g3⟩ := w26 K hK h2 hm2 hU2 ca1 ca3 ca4 u1 u2 hσ hpos (fun k hk => hE1 i k him hk) K 0 D st fa fb wx wy (by omega) (by omega) hs hv hD
      have hD1 : ∀ W, (D W ∨ ∃ k, 0 ≤ k ∧ k < m2 ∧ W = cW σ (U i) (V i) (U2 k) (V2 k)) → 1 ≤ W.2.2 := by
        rintro W (hW | ⟨k, -, -, rfl⟩)
        · exact hD W hW
        · exact Int.le_refl 1
      obtain ⟨fa2, fb2, wx2, wy2, st2, k1, k2, k3⟩ := w97 K hK h2 h02 hm2 hU2 ca1 ca3 ca4 u1 u2 hσ hpos (fun k hk => hE2 i k him hk) he hed K 0 _ st1 fa1 fb1 wx1 wy1 (by omega) (by omega) g2 g3 hD1
      simp only [nI_1, ca2, b1, Option.bind_some]
      rw [show fX12_laysWays_L26 K (nI w) (jJ σ) (nI ca) px py cor cors K 0 fa fb wx wy = _ from g1]
      simp only [b4, Option.bind_some]
      rw [show fX12_laysWays_L97 K (nI w) (jJ σ) (nI ca) px py cor cors K 0 fa1 fb1 wx1 wy1 = _ from k1]
      simp only [Option.bind_some, xl]
      obtain ⟨fa3, fb3, wx3, wy3, st3, r1, r2, r3⟩ := ih (i + 1) _ _ fa2 fb2 wx2 wy2 (by omega) (by omega) k2 k3 (by
        rintro W (hW | ⟨k, -, -, -, rfl⟩)
        · exact hD1 W hW
        · exact (nS_ok _ _ _ _ _ _).1)
      refine ⟨fa3, fb3, wx3, wy3, st3, r1, r2, vO_weak r3 (fun Z => ?_)⟩
      rintro (hz | ⟨k, hk1, hk2, hk3⟩)
      · exact Or.inl (Or.inl (Or.inl hz))
      · by_cases z : k = i
        · subst z
          rcases hk3 with ⟨l, hl, e⟩ | ⟨l, hl, hin, e⟩
          · exact Or.inl (Or.inl (Or.inr ⟨l, by omega, hl, e⟩))
          · exact Or.inl (Or.inr ⟨l, by omega, hl, hin, e⟩)
        · exact Or.inr ⟨k, by omega, hk2, hk3⟩
