--@ needs 3zl.ap3
def isDf (U V : Nat → Int) (m : Nat) (U2 V2 : Nat → Int) (m2 : Nat) (W : T3) : Prop := 1 ≤ W.2.2 ∧ ∃ i i' j j' : Nat, i < m ∧ i' < m ∧ j < m2 ∧ j' < m2 ∧ cvx2 (U2 j - U i) (V2 j - V i) (U2 j' - U i') (V2 j' - V i') W.1 W.2.1 W.2.2
theorem vO_dom {E D D' : T3 → Prop} {W0 : T3} (h : vO E D (some W0)) (hD : ∀ Z, D' Z → D Z ∨ ∃ W, D W ∧ 1 ≤ W.2.2 ∧ D3 0 0 W * (Z.2.2 * Z.2.2) ≤ D3 0 0 Z * (W.2.2 * W.2.2)) : vO E D' (some W0) := by
  obtain ⟨h1, h2, h3⟩ := h
  refine ⟨h1, h2, fun Z hZ => ?_⟩
  rcases hD Z hZ with z | ⟨W, w1, w2, w3⟩
  · exact h3 Z z
  · exact rat_le (d := W.2.2 * W.2.2) (Int.mul_pos (by omega) (by omega)) (sqn _) (sqn _) (h3 W w1) w3
theorem AP_okV {cx cy P Q L σ : Int} (hσ : σ = 1 ∨ σ = -1) (h : okZ cx cy P Q L) : okV (σ * (P - cx * L), σ * (Q - cy * L), L) := by
  obtain ⟨o1, -, -, o4, o5⟩ := h
  rcases hσ with rfl | rfl
  · exact ⟨o1, by show -128000 ≤ 1 * (P - cx * L) ∧ 1 * (P - cx * L) ≤ 128000; omega, by show -128000 ≤ 1 * (Q - cy * L) ∧ 1 * (Q - cy * L) ≤ 128000; omega⟩
  · exact ⟨o1, by show -128000 ≤ -1 * (P - cx * L) ∧ -1 * (P - cx * L) ≤ 128000; omega, by show -128000 ≤ -1 * (Q - cy * L) ∧ -1 * (Q - cy * L) ≤ 128000; omega⟩
theorem gap12 (K : Nat) (hK : 4000 ≤ K) {x1 y1 x2 y2 : Nat → Int32} {U V : Nat → Int} {m : Nat} {U2 V2 : Nat → Int} {m2 : Nat} (h1 : HA x1 y1 U V m) (h2 : HA x2 y2 U2 V2 m2) (hA : AP U V m U2 V2 m2) : ∀ (fu i : Nat) (D : T3 → Prop) (st : Option T3) (gs gl gx gy nx ny nlw nsq nsl : Int64) (nfx nfy : Int32), i ≤ m2 → m2 - i < fu → stC st gs gl gx gy → vO (isDf U V m U2 V2 m2) D st → (∀ W, D W → 1 ≤ W.2.2) → ∃ st' gs' gl' gx' gy' nx' ny' nlw' nsq' nsl' nfx' nfy', fX3_measureGap_L12 K (nI m) x1 y1 (nI m2) x2 y2 fu (nI i) gs gl gx gy nx ny nlw nsq nsl nfx nfy = some (gs', gl', gx', gy', nx', ny', nlw', nsq', nsl', nfx', nfy') ∧ stC st' gs' gl' gx' gy' ∧ vO (isDf U V m U2 V2 m2) (fun W => D W ∨ ∃ k e : Nat, i ≤ k ∧ k < m2 ∧ e < m ∧ W = vec2 U V m U2 V2 k e) st' := by
  intro fu
  induction fu with
  | zero => intro i D st gs gl gx gy nx ny nlw nsq nsl nfx nfy h1 h2; omega
  | succ fu ih =>
    intro i D st gs gl gx gy nx ny nlw nsq nsl nfx nfy l1 l2 hs hv hD
    obtain ⟨o1, o2, o3, o4⟩ := h2
    obtain ⟨f1, f2, f3, f4⟩ := h1
    rw [fX3_measureGap_L12]
    by_cases ee : i = m2
    · subst ee
      rw [if_pos (nI_le (Nat.le_refl _) (by omega))]
      refine ⟨st, _, _, _, _, _, _, _, _, _, _, _, rfl, hs, vO_weak hv (fun Z => ?_)⟩
      rintro (hz | ⟨k, e, hk1, hk2, -⟩)
      · exact hz
      · omega
    · have him : i < m2 := by omega
      rw [if_neg (nI_ge him (by omega)), gd_t (inb_nI (show i < 48 by omega) (by decide)), gd_t (inb_nI (show i < 48 by omega) (by decide)), nI_clamp (by omega)]
      obtain ⟨p1, p2⟩ := o1 i (by omega)
      rw [show cy m2 i = i from if_pos him] at p1 p2
      obtain ⟨u1, u2⟩ := o2 i him
      obtain ⟨P, Q, L, n1, n2⟩ := nearC K hK f4 f1 f2 hA.1 hA.2.2.1 u1 u2 nx ny nlw nsq nsl nfx nfy
      rw [p1, p2, n1]
      simp only [b7, Option.bind_some]
      obtain ⟨oz, n2 | ⟨-, hp, a, b, ha, hb, hcv⟩⟩ := n2
      · exact absurd n2.1 (hA.2.2.2.2.2.1 i him)
      · have hσ : ((-1) : Int) = 1 ∨ ((-1) : Int) = -1 := by omega
        have hO := AP_okV hσ oz
        obtain ⟨gs', gl', gx', gy', g1, g2⟩ := offG K hs hv u1 u2 hσ hO
        rw [show fX3_offerGap K gs gl gx gy (jJ P) (jJ Q) (jJ L) (jJ (d2 (U2 i) (V2 i) P Q L)) (jJ (L * L)) (iI (U2 i)) (iI (V2 i)) (-1) = _ from g1]
        simp only [b4, Option.bind_some, xl, nI_1]
        have hE : isDf U V m U2 V2 m2 ((-1) * (P - U2 i * L), (-1) * (Q - V2 i * L), L) := by
          obtain ⟨s, t, hs, ht, hst, e1, e2⟩ := hcv
          refine ⟨oz.1.1, ⟨a, b, i, i, ha, hb, him, him, s, t, hs, ht, hst, ?_, ?_⟩⟩
          · show (-1) * (P - U2 i * L) = _
            rw [e1, ← hst]; grind
          · show (-1) * (Q - V2 i * L) = _
            rw [e2, ← hst]; grind
        have hv2 := vO_up hv hD hO hE
        have hv3 : vO (isDf U V m U2 V2 m2) (fun Z => D Z ∨ ∃ e : Nat, e < m ∧ Z = vec2 U V m U2 V2 i e) (some (upO st ((-1) * (P - U2 i * L), (-1) * (Q - V2 i * L), L))) := by
          refine vO_dom hv2 (fun Z hZ => ?_)
          rcases hZ with hZ | ⟨e, he, rfl⟩
          · exact Or.inl (Or.inl hZ)
          · refine Or.inr ⟨_, Or.inr rfl, oz.1.1, ?_⟩
            obtain ⟨a', b', ha', hb', hcv'⟩ := edge_cv U V f3 (U2 i) (V2 i) he
            obtain ⟨r1, -⟩ := near_uniq (hp a' ha') (hp b' hb') hcv' (nS_ok _ _ _ _ _ _).1
            have d1 : D3 0 0 ((-1) * (P - U2 i * L), (-1) * (Q - V2 i * L), L) = d2 (U2 i) (V2 i) P Q L := by
              show d2 0 0 ((-1) * (P - U2 i * L)) ((-1) * (Q - V2 i * L)) L = _
              unfold d2; grind
            have d3 : D3 0 0 (vec2 U V m U2 V2 i e) = d2 (U2 i) (V2 i) (nE U V m (U2 i) (V2 i) e).1 (nE U V m (U2 i) (V2 i) e).2.1 (nE U V m (U2 i) (V2 i) e).2.2 := d2_vec' _ _ _ _ _
            rw [d1, d3]
            exact r1
        obtain ⟨st', gs2, gl2, gx2, gy2, nx2, ny2, nlw2, nsq2, nsl2, nfx2, nfy2, k1, k2, k3⟩ := ih (i + 1) _ _ gs' gl' gx' gy' (jJ P) (jJ Q) (jJ L) (jJ (d2 (U2 i) (V2 i) P Q L)) (jJ (L * L)) (iI (U2 i)) (iI (V2 i)) (by omega) (by omega) g2 hv3 (by
          rintro Z (hz | ⟨e, he, rfl⟩)
          · exact hD Z hz
          · exact (nS_ok _ _ _ _ _ _).1)
        refine ⟨st', gs2, gl2, gx2, gy2, nx2, ny2, nlw2, nsq2, nsl2, nfx2, nfy2, k1, k2, vO_weak k3 (fun Z => ?_)⟩
        rintro (hz | ⟨k, e, hk1, hk2, he, rfl⟩)
        · exact Or.inl (Or.inl hz)
        · by_cases z : k = i
          · subst z; exact Or.inl (Or.inr ⟨e, he, rfl⟩)
          · exact Or.inr ⟨k, e, by omega, hk2, he, rfl⟩
theorem gap65 (K : Nat) (hK : 4000 ≤ K) {x1 y1 x2 y2 : Nat → Int32} {U V : Nat → Int} {m : Nat} {U2 V2 : Nat → Int} {m2 : Nat} (h1 : HA x1 y1 U V m) (h2 : HA x2 y2 U2 V2 m2) (hA : AP U V m U2 V2 m2) : ∀ (fu i : Nat) (D : T3 → Prop) (st : Option T3) (gs gl gx gy nx ny nlw nsq nsl : Int64) (nfx nfy : Int32), i ≤ m → m - i < fu → stC st gs gl gx gy → vO (isDf U V m U2 V2 m2) D st → (∀ W, D W → 1 ≤ W.2.2) → ∃ st' gs' gl' gx' gy' nx' ny' nlw' nsq' nsl' nfx' nfy', fX3_measureGap_L65 K (nI m) x1 y1 (nI m2) x2 y2 fu (nI i) gs gl gx gy nx ny nlw nsq nsl nfx nfy = some (gs', gl', gx', gy', nx', ny', nlw', nsq', nsl', nfx', nfy') ∧ stC st' gs' gl' gx' gy' ∧ vO (isDf U V m U2 V2 m2) (fun W => D W ∨ ∃ k e : Nat, i ≤ k ∧ k < m ∧ e < m2 ∧ W = vec1 U V U2 V2 m2 k e) st' := by
  intro fu
  induction fu with
  | zero => intro i D st gs gl gx gy nx ny nlw nsq nsl nfx nfy h1 h2; omega
  | succ fu ih =>
    intro i D st gs gl gx gy nx ny nlw nsq nsl nfx nfy l1 l2 hs hv hD
    obtain ⟨o1, o2, o3, o4⟩ := h1
    obtain ⟨f1, f2, f3, f4⟩ := h2
    rw [fX3_measureGap_L65]
    by_cases ee : i = m
    · subst ee
      rw [if_pos (nI_le (Nat.le_refl _) (by omega))]
      refine ⟨st, _, _, _, _, _, _, _, _, _, _, _, rfl, hs, vO_weak hv (fun Z => ?_)⟩
      rintro (hz | ⟨k, e, hk1, hk2, -⟩)
      · exact hz
      · omega
    · have him : i < m := by omega
      rw [if_neg (nI_ge him (by omega)), gd_t (inb_nI (show i < 48 by omega) (by decide)), gd_t (inb_nI (show i < 48 by omega) (by decide)), nI_clamp (by omega)]
      obtain ⟨p1, p2⟩ := o1 i (by omega)
      rw [show cy m i = i from if_pos him] at p1 p2
      obtain ⟨u1, u2⟩ := o2 i him
      obtain ⟨P, Q, L, n1, n2⟩ := nearC K hK f4 f1 f2 hA.2.1 hA.2.2.2.1 u1 u2 nx ny nlw nsq nsl nfx nfy
      rw [p1, p2, n1]
      simp only [b7, Option.bind_some]
      obtain ⟨oz, n2 | ⟨-, hp, a, b, ha, hb, hcv⟩⟩ := n2
      · exact absurd n2.1 (hA.2.2.2.2.1 i him)
      · have hσ : (1 : Int) = 1 ∨ (1 : Int) = -1 := by omega
        have hO := AP_okV hσ oz
        obtain ⟨gs', gl', gx', gy', g1, g2⟩ := offG K hs hv u1 u2 hσ hO
        rw [show fX3_offerGap K gs gl gx gy (jJ P) (jJ Q) (jJ L) (jJ (d2 (U i) (V i) P Q L)) (jJ (L * L)) (iI (U i)) (iI (V i)) 1 = _ from g1]
        simp only [b4, Option.bind_some, xl, nI_1]
        have hE : isDf U V m U2 V2 m2 (1 * (P - U i * L), 1 * (Q - V i * L), L) := by
          obtain ⟨s, t, hs, ht, hst, e1, e2⟩ := hcv
          refine ⟨oz.1.1, ⟨i, i, a, b, him, him, ha, hb, s, t, hs, ht, hst, ?_, ?_⟩⟩
          · show 1 * (P - U i * L) = _
            rw [e1, ← hst]; grind
          · show 1 * (Q - V i * L) = _
            rw [e2, ← hst]; grind
        have hv2 := vO_up hv hD hO hE
        have hv3 : vO (isDf U V m U2 V2 m2) (fun Z => D Z ∨ ∃ e : Nat, e < m2 ∧ Z = vec1 U V U2 V2 m2 i e) (some (upO st (1 * (P - U i * L), 1 * (Q - V i * L), L))) := by
          refine vO_dom hv2 (fun Z hZ => ?_)
          rcases hZ with hZ | ⟨e, he, rfl⟩
          · exact Or.inl (Or.inl hZ)
          · refine Or.inr ⟨_, Or.inr rfl, oz.1.1, ?_⟩
            obtain ⟨a', b', ha', hb', hcv'⟩ := edge_cv U2 V2 f3 (U i) (V i) he
            obtain ⟨r1, -⟩ := near_uniq (hp a' ha') (hp b' hb') hcv' (nS_ok _ _ _ _ _ _).1
            have d1 : D3 0 0 (1 * (P - U i * L), 1 * (Q - V i * L), L) = d2 (U i) (V i) P Q L := by
              show d2 0 0 (1 * (P - U i * L)) (1 * (Q - V i * L)) L = _
              unfold d2; grind
            have d3 : D3 0 0 (vec1 U V U2 V2 m2 i e) = d2 (U i) (V i) (nE U2 V2 m2 (U i) (V i) e).1 (nE U2 V2 m2 (U i) (V i) e).2.1 (nE U2 V2 m2 (U i) (V i) e).2.2 := d2_vec _ _ _ _ _
            rw [d1, d3]
            exact r1
        obtain ⟨st', gs2, gl2, gx2, gy2, nx2, ny2, nlw2, nsq2, nsl2, nfx2, nfy2, k1, k2, k3⟩ := ih (i + 1) _ _ gs' gl' gx' gy' (jJ P) (jJ Q) (jJ L) (jJ (d2 (U i) (V i) P Q L)) (jJ (L * L)) (iI (U i)) (iI (V i)) (by omega) (by omega) g2 hv3 (by
          rintro Z (hz | ⟨e, he, rfl⟩)
          · exact hD Z hz
          · exact (nS_ok _ _ _ _ _ _).1)
        refine ⟨st', gs2, gl2, gx2, gy2, nx2, ny2, nlw2, nsq2, nsl2, nfx2, nfy2, k1, k2, vO_weak k3 (fun Z => ?_)⟩
        rintro (hz | ⟨k, e, hk1, hk2, he, rfl⟩)
        · exact Or.inl (Or.inl hz)
        · by_cases z : k = i
          · subst z; exact Or.inl (Or.inr ⟨e, he, rfl⟩)
          · exact Or.inr ⟨k, e, by omega, hk2, he, rfl⟩
theorem Df_pos {U V : Nat → Int} {m : Nat} {U2 V2 : Nat → Int} {m2 : Nat} {Ws : T3} (h : HP2 U V m U2 V2 m2 Ws) {W : T3} (hW : isDf U V m U2 V2 m2 W) : 0 < D3 0 0 W ∧ (D3 0 0 W * (Ws.2.2 * Ws.2.2) ≤ D3 0 0 Ws * (W.2.2 * W.2.2) → W.1 * Ws.2.2 = Ws.1 * W.2.2 ∧ W.2.1 * Ws.2.2 = Ws.2.1 * W.2.2) := by
  obtain ⟨w1, i, i', j, j', hi, hi', hj, hj', hc⟩ := hW
  obtain ⟨h1, h2, h3⟩ := h
  obtain ⟨r1, r2⟩ := near_uniq (h3 i j hi hj) (h3 i' j' hi' hj') hc w1
  refine ⟨?_, r2⟩
  have p1 := Int.mul_pos h2 (Int.mul_pos (show 0 < W.2.2 by omega) (show 0 < W.2.2 by omega))
  have p2 : 0 < (Ws.2.2 * Ws.2.2) * D3 0 0 W := by
    have : (Ws.2.2 * Ws.2.2) * D3 0 0 W = d2 0 0 W.1 W.2.1 W.2.2 * (Ws.2.2 * Ws.2.2) := Int.mul_comm _ _
    have e : D3 0 0 Ws * (W.2.2 * W.2.2) = d2 0 0 Ws.1 Ws.2.1 Ws.2.2 * (W.2.2 * W.2.2) := rfl
    omega
  exact div_gt (Int.mul_pos (by omega) (by omega)) p2
def allV (U V : Nat → Int) (m : Nat) (U2 V2 : Nat → Int) (m2 : Nat) (W : T3) : Prop := (∃ i j : Nat, i < m ∧ j < m2 ∧ W = vec1 U V U2 V2 m2 i j) ∨ ∃ j i : Nat, j < m2 ∧ i < m ∧ W = vec2 U V m U2 V2 j i
theorem gapC (K : Nat) (hK : 4000 ≤ K) {x1 y1 x2 y2 : Nat → Int32} {U V : Nat → Int} {m : Nat} {U2 V2 : Nat → Int} {m2 : Nat} (h1 : HA x1 y1 U V m) (h2 : HA x2 y2 U2 V2 m2) (hA : AP U V m U2 V2 m2) (gs gl gx gy nx ny nlw nsq nsl : Int64) (nfx nfy : Int32) : ∃ W nx' ny' nlw' nsq' nsl' nfx' nfy', fX3_measureGap K gs gl gx gy (nI m) x1 y1 (nI m2) x2 y2 nx ny nlw nsq nsl nfx nfy = some (1, jJ (D3 0 0 W / G2 0 0 W), jJ (W.2.2 * W.2.2 / G2 0 0 W), jJ (W.1 / gU W), jJ (W.2.1 / gU W), nx', ny', nlw', nsq', nsl', nfx', nfy') ∧ vst (isDf U V m U2 V2 m2) (allV U V m U2 V2 m2) W := by
  obtain ⟨Ws, hs, -⟩ := ap_ex hA
  obtain ⟨st1, gs1, gl1, gx1, gy1, nx1, ny1, nlw1, nsq1, nsl1, nfx1, nfy1, e1, e2, e3⟩ := gap12 K hK h1 h2 hA K 0 (fun _ => False) none 0 0 gx gy nx ny nlw nsq nsl nfx nfy (by omega) (by have := h2.2.2.2; omega) rfl (fun W z => z) (fun W z => z.elim)
  obtain ⟨st, gs2, gl2, gx2, gy2, nx2, ny2, nlw2, nsq2, nsl2, nfx2, nfy2, f1, f2, f3⟩ := gap65 K hK h1 h2 hA K 0 _ st1 gs1 gl1 gx1 gy1 nx1 ny1 nlw1 nsq1 nsl1 nfx1 nfy1 (by omega) (by have := h1.2.2.2; omega) e2 e3 (by
    rintro Z (hz | ⟨k, e, -, -, he, rfl⟩)
    · exact hz.elim
    · exact (nS_ok _ _ _ _ _ _).1)
  have hm := h1.2.2.1
  have hm2 := h2.2.2.1
  cases st with
  | none => exact absurd (Or.inr ⟨0, 0, Nat.le_refl 0, hm, hm2, rfl⟩) (f3 (vec1 U V U2 V2 m2 0 0))
  | some W =>
    obtain ⟨rfl, rfl, rfl, rfl⟩ := f2
    obtain ⟨hO, hE, hmin⟩ := id f3
    have hp := (Df_pos hs hE).1
    have w3 : 0 < (Int.gcd W.1 W.2.1 : Int) := gU_pos hp
    obtain ⟨⟨a1, a2⟩, a3, a4⟩ := okV_sq hO
    obtain ⟨o1, o2, o3⟩ := id hO
    have w4 : (Int.gcd W.1 W.2.1 : Int) ≤ 128000 := gcd_bd (by omega) (by omega)
    have hg := gcd_pos2 (a := D3 0 0 W) (show W.2.2 * W.2.2 ≠ 0 by omega)
    have hg2 := gcd_le (a := D3 0 0 W) (show 0 < W.2.2 * W.2.2 by omega)
    refine ⟨W, nx2, ny2, nlw2, nsq2, nsl2, nfx2, nfy2, ?_, hO, hE, ?_⟩
    · unfold fX3_measureGap
      rw [show fX3_measureGap_L12 K (nI m) x1 y1 (nI m2) x2 y2 K 0 0 0 gx gy nx ny nlw nsq nsl nfx nfy = _ from e1]
      simp only [b11, Option.bind_some]
      rw [show fX3_measureGap_L65 K (nI m) x1 y1 (nI m2) x2 y2 K 0 gs1 gl1 gx1 gy1 nx1 ny1 nlw1 nsq1 nsl1 nfx1 nfy1 = _ from f1]
      simp only [b1, Option.bind_some]
      rw [(gcd_spec K hK W.1 W.2.1 (by omega) (by omega) (by omega) (by omega)).1, (gcd_spec K hK (D3 0 0 W) (W.2.2 * W.2.2) (by omega) (by omega) (by omega) (by omega)).1]
      simp only [Option.bind_some]
      rw [if_neg (jne w3 (by omega)), if_neg (jne hg (by omega))]
      simp only [xl, gd_ne (jne w3 (show (Int.gcd W.1 W.2.1 : Int) < 9223372036854775808 by omega)), gd_ne (jne hg (show (Int.gcd (D3 0 0 W) (W.2.2 * W.2.2) : Int) < 9223372036854775808 by omega))]
      rw [jdivx w3 (Int.gcd_dvd_left _ _) (by omega) (by omega), jdivx w3 (Int.gcd_dvd_right _ _) (by omega) (by omega), jdivx hg (Int.gcd_dvd_left _ _) (by omega) (by omega), jdivx hg (Int.gcd_dvd_right _ _) (by omega) (by omega)]
    · rintro Z (⟨i, j, hi, hj, rfl⟩ | ⟨j, i, hj, hi, rfl⟩)
      · exact hmin _ (Or.inr ⟨i, j, by omega, hi, hj, rfl⟩)
      · exact hmin _ (Or.inl (Or.inr ⟨j, i, by omega, hj, hi, rfl⟩))
