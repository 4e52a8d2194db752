--@ needs 3zn.ap5
theorem eW_in (σ : Int) {U V : Nat → Int} {m : Nat} (h0 : 0 < m) (cx cy' : Int) {k : Nat} (hk : k < m) (h2 : m = 2 → k = 0) : (∃ l, l < m ∧ eW σ U V m cx cy' k = cW σ cx cy' (U l) (V l)) ∨ (k < eN m ∧ intr U V m cx cy' k) := by
  by_cases hin : intr U V m cx cy' k
  · right
    refine ⟨?_, hin⟩
    unfold eN
    by_cases h3 : m < 3
    · rw [if_pos h3]
      have hcase : m = 1 ∨ m = 2 := by omega
      rcases hcase with rfl | rfl
      · exfalso
        have : k = 0 := by omega
        subst this
        have := hin.1
        rw [show cy 1 (0 + 1) = 0 from rfl] at this
        simp at this
      · have := h2 rfl; omega
    · rw [if_neg h3]; exact hk
  · left
    have hk1 : cy m (k + 1) < m := cy_lt h0
    unfold eW cW
    rcases nS_cases (U k) (V k) (U (cy m (k + 1))) (V (cy m (k + 1))) cx cy' with ⟨c1, e⟩ | ⟨c1, c2, e⟩ | ⟨c1, c2, e⟩
    · have e' : nE U V m cx cy' k = (U k, V k, 1) := e
      exact ⟨k, hk, by rw [e']; simp⟩
    · have e' : nE U V m cx cy' k = (U (cy m (k + 1)), V (cy m (k + 1)), 1) := e
      exact ⟨cy m (k + 1), hk1, by rw [e']; simp⟩
    · exact absurd ⟨c1, c2⟩ hin
theorem vec1_eW (U V U2 V2 : Nat → Int) (m2 i j : Nat) : vec1 U V U2 V2 m2 i j = eW 1 U2 V2 m2 (U i) (V i) j := by
  unfold vec1 eW
  rw [Int.one_mul, Int.one_mul]
theorem vec2_eW (U V U2 V2 : Nat → Int) (m j i : Nat) : vec2 U V m U2 V2 j i = eW (-1) U V m (U2 j) (V2 j) i := by
  unfold vec2 eW
  rw [show ∀ a b : Int, -1 * (a - b) = b - a from fun a b => by omega, show ∀ a b : Int, -1 * (a - b) = b - a from fun a b => by omega]
theorem Df_c1 {U V : Nat → Int} {m : Nat} {U2 V2 : Nat → Int} {m2 : Nat} {i j : Nat} (hi : i < m) (hj : j < m2) : isDf U V m U2 V2 m2 (cW 1 (U i) (V i) (U2 j) (V2 j)) :=
  ⟨Int.le_refl 1, i, i, j, j, hi, hi, hj, hj, 1, 0, by omega, by omega, rfl, by show 1 * (U2 j - U i) = _; omega, by show 1 * (V2 j - V i) = _; omega⟩
theorem Df_c2 {U V : Nat → Int} {m : Nat} {U2 V2 : Nat → Int} {m2 : Nat} {i j : Nat} (hi : i < m) (hj : j < m2) : isDf U V m U2 V2 m2 (cW (-1) (U2 j) (V2 j) (U i) (V i)) :=
  ⟨Int.le_refl 1, i, i, j, j, hi, hi, hj, hj, 1, 0, by omega, by omega, rfl, by show -1 * (U i - U2 j) = _; omega, by show -1 * (V i - V2 j) = _; omega⟩
theorem Df_e1 {U V : Nat → Int} {m : Nat} {U2 V2 : Nat → Int} {m2 : Nat} (h0 : 0 < m2) {i j : Nat} (hi : i < m) (hj : j < m2) : isDf U V m U2 V2 m2 (eW 1 U2 V2 m2 (U i) (V i) j) := by
  obtain ⟨a, b, ha, hb, s, t, hs, ht, hst, e1, e2⟩ := edge_cv U2 V2 h0 (U i) (V i) hj
  refine ⟨(nS_ok _ _ _ _ _ _).1, i, i, a, b, hi, hi, ha, hb, s, t, hs, ht, hst, ?_, ?_⟩
  · show 1 * ((nE U2 V2 m2 (U i) (V i) j).1 - U i * (nE U2 V2 m2 (U i) (V i) j).2.2) = _
    rw [e1, ← hst]; grind
  · show 1 * ((nE U2 V2 m2 (U i) (V i) j).2.1 - V i * (nE U2 V2 m2 (U i) (V i) j).2.2) = _
    rw [e2, ← hst]; grind
theorem Df_e2 {U V : Nat → Int} {m : Nat} {U2 V2 : Nat → Int} {m2 : Nat} (h0 : 0 < m) {i j : Nat} (hi : i < m) (hj : j < m2) : isDf U V m U2 V2 m2 (eW (-1) U V m (U2 j) (V2 j) i) := by
  obtain ⟨a, b, ha, hb, s, t, hs, ht, hst, e1, e2⟩ := edge_cv U V h0 (U2 j) (V2 j) hi
  refine ⟨(nS_ok _ _ _ _ _ _).1, a, b, j, j, ha, hb, hj, hj, s, t, hs, ht, hst, ?_, ?_⟩
  · show -1 * ((nE U V m (U2 j) (V2 j) i).1 - U2 j * (nE U V m (U2 j) (V2 j) i).2.2) = _
    rw [e1, ← hst]; grind
  · show -1 * ((nE U V m (U2 j) (V2 j) i).2.1 - V2 j * (nE U V m (U2 j) (V2 j) i).2.2) = _
    rw [e2, ← hst]; grind
theorem eNM (K : Nat) {px py cor cors : Nat → Int32} {w : Nat} {U V : Nat → Int} {m : Nat} (h : hulM K px py cor cors w U V m) (h0 : 0 < m) (hm : m < 48) : fX12_edges K cors (nI w) = some (nI (eN m)) := by
  unfold eN
  by_cases c : m < 3
  · rw [if_pos c]; exact edgesM2 K h h0 c
  · rw [if_neg c]; exact edgesM3 K h hm (by omega)
theorem waysM (K : Nat) (hK : 4000 ≤ K) {px py cor cors : Nat → Int32} {U V : Nat → Int} {m : Nat} {U2 V2 : Nat → Int} {m2 : Nat} (h1 : hulM K px py cor cors 0 U V m) (hm : m < 48) (hU : okU U V m) (h2 : hulM K px py cor cors 1 U2 V2 m2) (hm2 : m2 < 48) (hU2 : okU U2 V2 m2) (hA : AP U V m U2 V2 m2) {Ws : T3} (hs : HP2 U V m U2 V2 m2 Ws) (hw : (∃ i j : Nat, i < m ∧ j < m2 ∧ (m2 = 2 → j = 0) ∧ Ws = vec1 U V U2 V2 m2 i j) ∨ ∃ j i : Nat, j < m2 ∧ i < m ∧ (m = 2 → i = 0) ∧ Ws = vec2 U V m U2 V2 j i) (fa wx wy : Int64) : ∃ fa1 fb1 wx1 wy1 W, fX12_laysWays K fa 0 wx wy px py cor cors 0 1 1 = some (fa1, fb1, wx1, wy1) ∧ fX12_laysWays K fa1 fb1 wx1 wy1 px py cor cors 1 0 (-1) = some (jJ (D3 0 0 W / G2 0 0 W), jJ (W.2.2 * W.2.2 / G2 0 0 W), jJ (W.1 / gU W), jJ (W.2.1 / gU W)) ∧ okV W ∧ W.1 * Ws.2.2 = Ws.1 * W.2.2 ∧ W.2.1 * Ws.2.2 = Ws.2.1 * W.2.2 := by
  have h0 := hA.1.1
  have h02 := hA.2.1.1
  obtain ⟨fa1, fb1, wx1, wy1, st1, e1, e2, e3⟩ := w3 K hK h1 hm hU h2 h02 hm2 hU2 (σ := 1) (Or.inl rfl) (E := isDf U V m U2 V2 m2) (fun W hW => (Df_pos hs hW).1) (fun i k hi hk => Df_c1 hi hk) (fun i k hi hk => Df_e1 h02 hi hk) (eN_le m2) (eNM K h2 h02 hm2) K 0 (fun _ => False) none fa 0 wx wy (by omega) (by omega) rfl (fun W z => z) (fun W z => z.elim)
  have hD1 : ∀ W, (False ∨ ∃ k, 0 ≤ k ∧ k < m ∧ allW 1 U V m U2 V2 m2 (eN m2) k W) → 1 ≤ W.2.2 := by
    rintro W (hz | ⟨k, -, -, ⟨l, -, rfl⟩ | ⟨l, -, -, rfl⟩⟩)
    · exact hz.elim
    · exact Int.le_refl 1
    · exact (nS_ok _ _ _ _ _ _).1
  obtain ⟨fa2, fb2, wx2, wy2, st, f1, f2, f3⟩ := w3 K hK h2 hm2 hU2 h1 h0 hm hU (σ := -1) (Or.inr rfl) (E := isDf U V m U2 V2 m2) (fun W hW => (Df_pos hs hW).1) (fun i k hi hk => Df_c2 hk hi) (fun i k hi hk => Df_e2 h0 hk hi) (eN_le m) (eNM K h1 h0 hm) K 0 _ st1 fa1 fb1 wx1 wy1 (by omega) (by omega) e2 e3 hD1
  cases st with
  | none => exact absurd (Or.inl (Or.inr ⟨0, Nat.le_refl 0, h0, Or.inl ⟨0, h02, rfl⟩⟩)) (f3 (cW 1 (U 0) (V 0) (U2 0) (V2 0)))
  | some W =>
    obtain ⟨rfl, rfl, rfl, rfl⟩ := f2
    obtain ⟨hO, hE, hmin⟩ := f3
    have hin : D3 0 0 W * (Ws.2.2 * Ws.2.2) ≤ D3 0 0 Ws * (W.2.2 * W.2.2) := by
      rcases hw with ⟨i, j, hi, hj, hj2, rfl⟩ | ⟨j, i, hj, hi, hi2, rfl⟩
      · rw [vec1_eW]
        rcases eW_in 1 h02 (U i) (V i) hj hj2 with ⟨l, hl, e⟩ | ⟨hl, hin⟩
        · rw [e]
          exact hmin _ (Or.inl (Or.inr ⟨i, by omega, hi, Or.inl ⟨l, hl, rfl⟩⟩))
        · exact hmin _ (Or.inl (Or.inr ⟨i, by omega, hi, Or.inr ⟨j, hl, hin, rfl⟩⟩))
      · rw [vec2_eW]
        rcases eW_in (-1) h0 (U2 j) (V2 j) hi hi2 with ⟨l, hl, e⟩ | ⟨hl, hin⟩
        · rw [e]
          exact hmin _ (Or.inr ⟨j, by omega, hj, Or.inl ⟨l, hl, rfl⟩⟩)
        · exact hmin _ (Or.inr ⟨j, by omega, hj, Or.inr ⟨i, hl, hin, rfl⟩⟩)
    obtain ⟨z1, z2⟩ := (Df_pos hs hE).2 hin
    refine ⟨fa1, fb1, wx1, wy1, W, ?_, ?_, hO, z1, z2⟩
    · unfold fX12_laysWays
      rw [show fX12_laysWays_L3 K 0 1 1 px py cor cors K 0 fa 0 wx wy = _ from e1]
      rfl
    · unfold fX12_laysWays
      rw [show fX12_laysWays_L3 K 1 0 (-1) px py cor cors K 0 fa1 fb1 wx1 wy1 = _ from f1]
      rfl
theorem can_l {a b L : Int} (hL : 1 ≤ L) (h : L * a = L * b) : a = b := Int.eq_of_mul_eq_mul_left (by omega) h
theorem same_red {Wc Wm : T3} (hc : okV Wc) (hm : okV Wm) (h1 : Wc.1 * Wm.2.2 = Wm.1 * Wc.2.2) (h2 : Wc.2.1 * Wm.2.2 = Wm.2.1 * Wc.2.2) (hp : 0 < D3 0 0 Wc) (hp2 : 0 < D3 0 0 Wm) : D3 0 0 Wc / G2 0 0 Wc = D3 0 0 Wm / G2 0 0 Wm ∧ Wc.2.2 * Wc.2.2 / G2 0 0 Wc = Wm.2.2 * Wm.2.2 / G2 0 0 Wm ∧ Wc.1 / gU Wc = Wm.1 / gU Wm ∧ Wc.2.1 / gU Wc = Wm.2.1 / gU Wm := by
  have g1 := gU_pos hp
  have g2 := gU_pos hp2
  obtain ⟨P, Q, L⟩ := Wc
  obtain ⟨P2, Q2, L2⟩ := Wm
  have l1 : 1 ≤ L := hc.1.1
  have l2 : 1 ≤ L2 := hm.1.1
  dsimp only at h1 h2
  have q1 := Int.mul_pos (show 0 < L by omega) (show 0 < L by omega)
  have q2 := Int.mul_pos (show 0 < L2 by omega) (show 0 < L2 by omega)
  have hd : D3 0 0 (P2, Q2, L2) * (L * L) = D3 0 0 (P, Q, L) * (L2 * L2) := by
    show d2 0 0 P2 Q2 L2 * (L * L) = d2 0 0 P Q L * (L2 * L2)
    have e1 : d2 0 0 P2 Q2 L2 * (L * L) = (P2 * L) * (P2 * L) + (Q2 * L) * (Q2 * L) := by unfold d2; grind
    have e2 : d2 0 0 P Q L * (L2 * L2) = (P * L2) * (P * L2) + (Q * L2) * (Q * L2) := by unfold d2; grind
    rw [e1, e2, h1, h2]
  obtain ⟨r1, r2⟩ := red2_eq (a := D3 0 0 (P, Q, L)) (b := L * L) (c := D3 0 0 (P2, Q2, L2)) (d := L2 * L2) q1 q2 hd
  have hg : (Int.gcd P Q : Int) * L2 = (Int.gcd P2 Q2 : Int) * L := by
    have a1 : Int.gcd (P * L2) (Q * L2) = Int.gcd P Q * L2.natAbs := Int.gcd_mul_right ..
    have a2 : Int.gcd (P2 * L) (Q2 * L) = Int.gcd P2 Q2 * L.natAbs := Int.gcd_mul_right ..
    rw [h1, h2, a2] at a1
    have a3 : ((Int.gcd P2 Q2 * L.natAbs : Nat) : Int) = ((Int.gcd P Q * L2.natAbs : Nat) : Int) := by rw [a1]
    rw [Int.natCast_mul, Int.natCast_mul, Int.natAbs_of_nonneg (by omega), Int.natAbs_of_nonneg (by omega)] at a3
    exact a3.symm
  refine ⟨r1, r2, ?_, ?_⟩
  · refine div_same g1 g2 (Int.gcd_dvd_left _ _) (Int.gcd_dvd_left _ _) (can_l l1 ?_)
    show L * (P * (Int.gcd P2 Q2 : Int)) = L * (P2 * (Int.gcd P Q : Int))
    have b1' : L * (P * (Int.gcd P2 Q2 : Int)) = P * ((Int.gcd P2 Q2 : Int) * L) := by grind
    rw [b1', ← hg]
    have b2' : P * ((Int.gcd P Q : Int) * L2) = (P * L2) * (Int.gcd P Q : Int) := by grind
    rw [b2', h1]; grind
  · refine div_same g1 g2 (Int.gcd_dvd_right _ _) (Int.gcd_dvd_right _ _) (can_l l1 ?_)
    show L * (Q * (Int.gcd P2 Q2 : Int)) = L * (Q2 * (Int.gcd P Q : Int))
    have b1' : L * (Q * (Int.gcd P2 Q2 : Int)) = Q * ((Int.gcd P2 Q2 : Int) * L) := by grind
    rw [b1', ← hg]
    have b2' : Q * ((Int.gcd P Q : Int) * L2) = (Q * L2) * (Int.gcd P Q : Int) := by grind
    rw [b2', h2]; grind
theorem ap_line (K : Nat) (S n : Int32) (a b : Int64) (px py : Nat → Int32) : ∀ (fu : Nat) (l : Int64) (i : Int32), fX12_apart_L70 K S n a b px py fu l i = fX12_line_L124 K S a b n px py fu l i := by
  intro fu
  induction fu with
  | zero => intro l i; rw [fX12_apart_L70, fX12_line_L124]
  | succ fu ih => intro l i; rw [fX12_apart_L70, fX12_line_L124]; simp only [ih]
theorem gap_both (K : Nat) (hK : 4000 ≤ K) {n : Nat} {x y px py : Nat → Int32} {X Y : Nat → Int} (hc : Pts n x y X Y) (hm : Pts n px py X Y) {S T : Int32} (c : isSt n S) (d : isSt n T) {x1 y1 x2 y2 cor cors : Nat → Int32} (h1 : hulA x1 y1 (hX X Y S n) (hY X Y S n) (hN X Y S n)) (h2 : hulA x2 y2 (hX X Y T n) (hY X Y T n) (hN X Y T n)) (k1 : hulB px py cor cors 0 (hX X Y S n) (hY X Y S n) (hN X Y S n)) (k2 : hulB px py cor cors 1 (hX X Y T n) (hY X Y T n) (hN X Y T n)) (hd : dj (hX X Y S n) (hY X Y S n) (hN X Y S n) (hX X Y T n) (hY X Y T n) (hN X Y T n)) (gs gl gx gy nx ny nlw nsq nsl fa wx wy : Int64) (nfx nfy : Int32) : ∃ A B C D nx' ny' nlw' nsq' nsl' nfx' nfy' fa1 fb1 wx1 wy1 ν, fX3_measureGap K gs gl gx gy (nI (hN X Y S n)) x1 y1 (nI (hN X Y T n)) x2 y2 nx ny nlw nsq nsl nfx nfy = some (1, A, B, C, D, nx', ny', nlw', nsq', nsl', nfx', nfy') ∧ fX12_laysWays K fa 0 wx wy px py cor cors 0 1 1 = some (fa1, fb1, wx1, wy1) ∧ fX12_laysWays K fa1 fb1 wx1 wy1 px py cor cors 1 0 (-1) = some (A, B, C, D) ∧ fX2_leastAlong K (nI (hN X Y T n)) x2 y2 C D = some ν ∧ fX12_apart_L70 K T (nI n) C D px py K 9223372036854775807 0 = some ν := by
  have hr1 := hN_rng (X := X) (Y := Y) hc.1 c
  have hr2 := hN_rng (X := X) (Y := Y) hc.1 d
  have hA : AP (hX X Y S n) (hY X Y S n) (hN X Y S n) (hX X Y T n) (hY X Y T n) (hN X Y T n) := AP_of (hull_pg hc c).1 (hull_pg hc d).1 (hC_of hc c) (hC_of hc d) hd
  obtain ⟨Ws, w1, w2⟩ := ap_ex hA
  obtain ⟨Wc, nx', ny', nlw', nsq', nsl', nfx', nfy', e1, hOc, hEc, hminc⟩ := gapC K hK (HA_of hc c h1) (HA_of hc d h2) hA gs gl gx gy nx ny nlw nsq nsl nfx nfy
  obtain ⟨fa1, fb1, wx1, wy1, Wm, f1, f2, hOm, z1, z2⟩ := waysM K hK (hulB_M K k1) (by omega) (hU_ok hc c) (hulB_M K k2) (by omega) (hU_ok hc d) hA w1 w2 fa wx wy
  have hcc : D3 0 0 Wc * (Ws.2.2 * Ws.2.2) ≤ D3 0 0 Ws * (Wc.2.2 * Wc.2.2) := by
    refine hminc Ws ?_
    rcases w2 with ⟨i, j, hi, hj, -, e⟩ | ⟨j, i, hj, hi, -, e⟩
    · exact Or.inl ⟨i, j, hi, hj, e⟩
    · exact Or.inr ⟨j, i, hj, hi, e⟩
  obtain ⟨y1', y2'⟩ := (Df_pos w1 hEc).2 hcc
  have l0 := w1.1
  have s1 : Wc.1 * Wm.2.2 = Wm.1 * Wc.2.2 := by
    refine can_l l0 ?_
    have b1' : Ws.2.2 * (Wc.1 * Wm.2.2) = (Wc.1 * Ws.2.2) * Wm.2.2 := by grind
    have b2' : Ws.2.2 * (Wm.1 * Wc.2.2) = (Wm.1 * Ws.2.2) * Wc.2.2 := by grind
    rw [b1', b2', y1', z1]; grind
  have s2 : Wc.2.1 * Wm.2.2 = Wm.2.1 * Wc.2.2 := by
    refine can_l l0 ?_
    have b1' : Ws.2.2 * (Wc.2.1 * Wm.2.2) = (Wc.2.1 * Ws.2.2) * Wm.2.2 := by grind
    have b2' : Ws.2.2 * (Wm.2.1 * Wc.2.2) = (Wm.2.1 * Ws.2.2) * Wc.2.2 := by grind
    rw [b1', b2', y2', z2]; grind
  have hpc := (Df_pos w1 hEc).1
  have hpm : 0 < D3 0 0 Wm := by
    have l1 : 1 ≤ Wc.2.2 := hOc.1.1
    have l2 : 1 ≤ Wm.2.2 := hOm.1.1
    have hd2 : (Wc.2.2 * Wc.2.2) * D3 0 0 Wm = D3 0 0 Wc * (Wm.2.2 * Wm.2.2) := by
      show (Wc.2.2 * Wc.2.2) * d2 0 0 Wm.1 Wm.2.1 Wm.2.2 = d2 0 0 Wc.1 Wc.2.1 Wc.2.2 * (Wm.2.2 * Wm.2.2)
      have e1 : (Wc.2.2 * Wc.2.2) * d2 0 0 Wm.1 Wm.2.1 Wm.2.2 = (Wm.1 * Wc.2.2) * (Wm.1 * Wc.2.2) + (Wm.2.1 * Wc.2.2) * (Wm.2.1 * Wc.2.2) := by unfold d2; grind
      have e2 : d2 0 0 Wc.1 Wc.2.1 Wc.2.2 * (Wm.2.2 * Wm.2.2) = (Wc.1 * Wm.2.2) * (Wc.1 * Wm.2.2) + (Wc.2.1 * Wm.2.2) * (Wc.2.1 * Wm.2.2) := by unfold d2; grind
      rw [e1, e2, s1, s2]
    refine div_gt (a := Wc.2.2 * Wc.2.2) (Int.mul_pos (by omega) (by omega)) ?_
    rw [hd2]
    exact Int.mul_pos hpc (Int.mul_pos (by omega) (by omega))
  obtain ⟨r1, r2, r3, r4⟩ := same_red hOc hOm s1 s2 hpc hpm
  rw [← r1, ← r2, ← r3, ← r4] at f2
  have gp := gU_pos hpc
  have qa := quo_rng gp hOc.2.1
  have qb := quo_rng gp hOc.2.2
  obtain ⟨μ, l1, l2⟩ := leastC K hK hr2.1 (by omega) h2 (hU_ok hc d) (a := Wc.1 / gU Wc) (b := Wc.2.1 / gU Wc) (by omega) (by omega)
  obtain ⟨j, hj, hbj⟩ := isSt_bit hc.1 d
  obtain ⟨ν, l3, l4⟩ := lstM K hm (S := T) (a := Wc.1 / gU Wc) (b := Wc.2.1 / gU Wc) (by omega) (by omega) K 0 9223372036854775807 (by omega) (by have := hm.1; omega) (by omega) (fun j hj => by omega) (Or.inr ⟨rfl, j, by omega, hj, hbj⟩)
  have he := least_eq hc d l2 l4
  subst he
  refine ⟨_, _, _, _, nx', ny', nlw', nsq', nsl', nfx', nfy', fa1, fb1, wx1, wy1, jJ μ, e1, f1, f2, l1, ?_⟩
  rw [ap_line]
  exact l3
theorem ev_apart (K : Nat) (hK : 4000 ≤ K) (x_cloud_size : Int32) (x_cloud_x : Nat → Int32) (x_cloud_y : Nat → Int32) (x_cloud_colour : Nat → Int32) (x_cloud_load : Nat → Int32) (x_cloud_centreX : Int32) (x_cloud_centreY : Int32) (x_reader_tape : Nat → Int32) (x_reader_length : Int32) (x_reader_faultKind : Int32) (x_reader_faultPlace : Int32) (m_many : Int32) (m_px : Nat → Int32) (m_py : Nat → Int32) (m_colour : Nat → Int32) (m_load : Nat → Int32) (m_cx : Int32) (m_cy : Int32) (m_tape : Nat → Int32) (m_taped : Int32) (m_faultKind : Int32) (m_faultPlace : Int32) (x_pair_gapSquare : Int64) (x_pair_gapLower : Int64) (x_pair_gapX : Int64) (x_pair_gapY : Int64) (x_pair_threefold : Int32) (x_pair_leastX : Int64) (x_pair_leastY : Int64) (x_pair_leastLower : Int64) (x_pair_first_size : Int32) (x_pair_first_chain : Nat → Int32) (x_pair_first_x : Nat → Int32) (x_pair_first_y : Nat → Int32) (x_pair_first_sorted : Nat → Int32) (x_pair_second_size : Int32) (x_pair_second_chain : Nat → Int32) (x_pair_second_x : Nat → Int32) (x_pair_second_y : Nat → Int32) (x_pair_second_sorted : Nat → Int32) (x_pair_third_size : Int32) (x_pair_third_x : Nat → Int32) (x_pair_third_y : Nat → Int32) (x_pair_place_x : Int64) (x_pair_place_y : Int64) (x_pair_place_lower : Int64) (x_pair_near_x : Int64) (x_pair_near_y : Int64) (x_pair_near_lower : Int64) (x_pair_near_square : Int64) (x_pair_near_squareLower : Int64) (x_pair_near_fromX : Int32) (x_pair_near_fromY : Int32) (m_rowMany : Int32) (m_placeX : Int64) (m_placeY : Int64) (m_below : Int64) (m_farAbove : Int64) (m_farBelow : Int64) (m_isMet : Int32) (m_hulls : Int32) (m_wayX : Int64) (m_wayY : Int64) (m_corner : Nat → Int32) (m_corners : Nat → Int32) (m_row : Nat → Int32) (a1 : Int32) (a2 : Int32) (a3 : Int32) (hR : Rel x_cloud_size x_cloud_x x_cloud_y x_cloud_colour x_cloud_load x_cloud_centreX x_cloud_centreY x_reader_tape x_reader_length x_reader_faultKind x_reader_faultPlace m_many m_px m_py m_colour m_load m_cx m_cy m_tape m_taped m_faultKind m_faultPlace) : ∃ (r : Int64) (o_x_pair_gapSquare : Int64) (o_x_pair_gapLower : Int64) (o_x_pair_gapX : Int64) (o_x_pair_gapY : Int64) (o_x_pair_threefold : Int32) (o_x_pair_leastX : Int64) (o_x_pair_leastY : Int64) (o_x_pair_leastLower : Int64) (o_x_pair_first_size : Int32) (o_x_pair_first_chain : Nat → Int32) (o_x_pair_first_x : Nat → Int32) (o_x_pair_first_y : Nat → Int32) (o_x_pair_first_sorted : Nat → Int32) (o_x_pair_second_size : Int32) (o_x_pair_second_chain : Nat → Int32) (o_x_pair_second_x : Nat → Int32) (o_x_pair_second_y : Nat → Int32) (o_x_pair_second_sorted : Nat → Int32) (o_x_pair_place_x : Int64) (o_x_pair_place_y : Int64) (o_x_pair_place_lower : Int64) (o_x_pair_near_x : Int64) (o_x_pair_near_y : Int64) (o_x_pair_near_lower : Int64) (o_x_pair_near_square : Int64) (o_x_pair_near_squareLower : Int64) (o_x_pair_near_fromX : Int32) (o_x_pair_near_fromY : Int32) (o_m_rowMany : Int32) (o_m_placeX : Int64) (o_m_placeY : Int64) (o_m_below : Int64) (o_m_farAbove : Int64) (o_m_farBelow : Int64) (o_m_isMet : Int32) (o_m_hulls : Int32) (o_m_wayX : Int64) (o_m_wayY : Int64) (o_m_corner : Nat → Int32) (o_m_corners : Nat → Int32) (o_m_row : Nat → Int32), fX11_apart K x_cloud_size x_cloud_x x_cloud_y x_pair_gapSquare x_pair_gapLower x_pair_gapX x_pair_gapY x_pair_threefold x_pair_leastX x_pair_leastY x_pair_leastLower x_pair_first_size x_pair_first_chain x_pair_first_x x_pair_first_y x_pair_first_sorted x_pair_second_size x_pair_second_chain x_pair_second_x x_pair_second_y x_pair_second_sorted x_pair_third_size x_pair_third_x x_pair_third_y x_pair_place_x x_pair_place_y x_pair_place_lower x_pair_near_x x_pair_near_y x_pair_near_lower x_pair_near_square x_pair_near_squareLower x_pair_near_fromX x_pair_near_fromY a1 a2 a3 = some (r, o_x_pair_gapSquare, o_x_pair_gapLower, o_x_pair_gapX, o_x_pair_gapY, o_x_pair_threefold, o_x_pair_leastX, o_x_pair_leastY, o_x_pair_leastLower, o_x_pair_first_size, o_x_pair_first_chain, o_x_pair_first_x, o_x_pair_first_y, o_x_pair_first_sorted, o_x_pair_second_size, o_x_pair_second_chain, o_x_pair_second_x, o_x_pair_second_y, o_x_pair_second_sorted, o_x_pair_place_x, o_x_pair_place_y, o_x_pair_place_lower, o_x_pair_near_x, o_x_pair_near_y, o_x_pair_near_lower, o_x_pair_near_square, o_x_pair_near_squareLower, o_x_pair_near_fromX, o_x_pair_near_fromY) ∧ fX12_apart K m_many m_rowMany m_placeX m_placeY m_below m_farAbove m_farBelow m_isMet m_hulls m_wayX m_wayY m_px m_py m_corner m_corners m_row a1 a2 a3 = some (r, o_m_rowMany, o_m_placeX, o_m_placeY, o_m_below, o_m_farAbove, o_m_farBelow, o_m_isMet, o_m_hulls, o_m_wayX, o_m_wayY, o_m_corner, o_m_corners, o_m_row) := by
  obtain ⟨n, rfl, rfl, hXc, hXm⟩ := Rel_pts hR
  unfold fX11_apart fX12_apart b1
  rcases hasSet_c K n hXc.1 a1 with ⟨c, c1, c2⟩ | ⟨-, c1, c2⟩
  · rw [c1, c2]
    rcases hasSet_c K n hXc.1 a2 with ⟨d, d1, d2'⟩ | ⟨-, d1, d2'⟩
    · rw [d1, d2']
      have z0 : (a3 = 0) ↔ a3.toInt = 0 := a_eq (k := 0) ⟨by omega, by omega⟩
      have z1 : (a3 = 1) ↔ a3.toInt = 1 := a_eq (k := 1) ⟨by omega, by omega⟩
      have z2 : (a3 = 2) ↔ a3.toInt = 2 := a_eq (k := 2) ⟨by omega, by omega⟩
      have z3 : (a3 = 3) ↔ a3.toInt = 3 := a_eq (k := 3) ⟨by omega, by omega⟩
      have z4 : (a3 = 4) ↔ a3.toInt = 4 := a_eq (k := 4) ⟨by omega, by omega⟩
      obtain ⟨ch1, gx1, gy1, sor1, e1, e2⟩ := buildC2 K hK hXc c x_pair_first_size x_pair_first_chain x_pair_first_x x_pair_first_y x_pair_first_sorted
      obtain ⟨ch2, gx2, gy2, sor2, e3, e4⟩ := buildC2 K hK hXc d x_pair_second_size x_pair_second_chain x_pair_second_x x_pair_second_y x_pair_second_sorted
      obtain ⟨r, a, b, c', p1, q1, l1, p2, q2, l2, met2, hu2, rm2, cor2, cors2, row2, f1, f2, k1, k2, f3⟩ := meetS K hK hXc hXm c d (x3 := x_pair_third_x) (y3 := x_pair_third_y) (s3 := x_pair_third_size) e2 e4 x_pair_leastX x_pair_leastY x_pair_leastLower x_pair_place_x x_pair_place_y x_pair_place_lower m_placeX m_placeY m_below m_isMet m_hulls m_rowMany m_corner m_corners m_row
      simp only [Option.bind_some, if_neg one_ne, fX3_take, e1, e3, b5, b11, f1, f2, b7, b10, in_spec, long_toInt, show (0 : Int64).toInt = 0 from rfl, show (4 : Int64).toInt = 4 from rfl, z0, z1, z2, z3, z4]
      rcases f3 with ⟨rfl, hdj⟩ | ⟨rfl, -⟩
      · obtain ⟨A, B, C, D, nx', ny', nlw', nsq', nsl', nfx', nfy', fa1, fb1, wx1, wy1, ν, g1, g2, g3', g4, g5⟩ := gap_both K hK hXc hXm c d e2 e4 k1 k2 hdj x_pair_gapSquare x_pair_gapLower x_pair_gapX x_pair_gapY x_pair_near_x x_pair_near_y x_pair_near_lower x_pair_near_square x_pair_near_squareLower m_farAbove m_wayX m_wayY x_pair_near_fromX x_pair_near_fromY
        simp only [if_pos, g1, g2, g3', g4, g5, b12, b4, Option.bind_some, if_neg one_ne]
        by_cases w : 0 ≤ a3.toInt ∧ a3.toInt ≤ 4
        · rw [if_pos w, if_neg one_ne]
          have hh : a3.toInt = 0 ∨ a3.toInt = 1 ∨ a3.toInt = 2 ∨ a3.toInt = 3 ∨ a3.toInt = 4 := by omega
          rcases hh with h | h | h | h | h <;> simp only [h] <;> exact ⟨_, _, _, _, _, _, _, _, _, _, _, _, _, _, _, _, _, _, _, _, _, _, _, _, _, _, _, _, _, _, _, _, _, _, _, _, _, _, _, _, _, _, rfl, rfl⟩
        · rw [if_neg w, if_pos rfl, if_neg (by omega), if_neg (by omega), if_neg (by omega), if_neg (by omega), if_neg (by omega)]
          exact ⟨_, _, _, _, _, _, _, _, _, _, _, _, _, _, _, _, _, _, _, _, _, _, _, _, _, _, _, _, _, _, _, _, _, _, _, _, _, _, _, _, _, _, rfl, rfl⟩
      · simp only [if_neg one_ne]
        by_cases w : 0 ≤ a3.toInt ∧ a3.toInt ≤ 4
        · rw [if_pos w, if_neg one_ne]
          exact ⟨_, _, _, _, _, _, _, _, _, _, _, _, _, _, _, _, _, _, _, _, _, _, _, _, _, _, _, _, _, _, _, _, _, _, _, _, _, _, _, _, _, _, rfl, rfl⟩
        · rw [if_neg w, if_pos rfl]
          exact ⟨_, _, _, _, _, _, _, _, _, _, _, _, _, _, _, _, _, _, _, _, _, _, _, _, _, _, _, _, _, _, _, _, _, _, _, _, _, _, _, _, _, _, rfl, rfl⟩
    · rw [d1, d2']
      exact ⟨_, _, _, _, _, _, _, _, _, _, _, _, _, _, _, _, _, _, _, _, _, _, _, _, _, _, _, _, _, _, _, _, _, _, _, _, _, _, _, _, _, _, rfl, rfl⟩
  · rw [c1, c2]
    exact ⟨_, _, _, _, _, _, _, _, _, _, _, _, _, _, _, _, _, _, _, _, _, _, _, _, _, _, _, _, _, _, _, _, _, _, _, _, _, _, _, _, _, _, rfl, rfl⟩
