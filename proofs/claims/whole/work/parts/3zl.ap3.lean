--@ needs 3zk.ap2
/-! the shortest way: both programs' steps -/
def okV (W : T3) : Prop := (1 ≤ W.2.2 ∧ W.2.2 ≤ 3200) ∧ (-128000 ≤ W.1 ∧ W.1 ≤ 128000) ∧ -128000 ≤ W.2.1 ∧ W.2.1 ≤ 128000
theorem okV_sq {W : T3} (h : okV W) : (0 ≤ D3 0 0 W ∧ D3 0 0 W ≤ 32768000000) ∧ 1 ≤ W.2.2 * W.2.2 ∧ W.2.2 * W.2.2 ≤ 10240000 := by
  obtain ⟨P, Q, L⟩ := W
  obtain ⟨h1, h4, h5⟩ := h
  dsimp only at *
  have a1 := mulB (u := P - 0 * L) (v := P - 0 * L) (a := 128000) (b := 128000) (by omega) (by omega)
  have a2 := mulB (u := Q - 0 * L) (v := Q - 0 * L) (a := 128000) (b := 128000) (by omega) (by omega)
  have a3 := mulB (u := L) (v := L) (a := 3200) (b := 3200) (by omega) (by omega)
  have a4 := Int.mul_pos (show 0 < L by omega) (show 0 < L by omega)
  have a5 := d2_nn 0 0 P Q L
  have e : D3 0 0 (P, Q, L) = (P - 0 * L) * (P - 0 * L) + (Q - 0 * L) * (Q - 0 * L) := rfl
  rw [e]
  unfold d2 at a5
  omega
def vst (E D : T3 → Prop) (W0 : T3) : Prop := okV W0 ∧ E W0 ∧ ∀ W, D W → D3 0 0 W0 * (W.2.2 * W.2.2) ≤ D3 0 0 W * (W0.2.2 * W0.2.2)
def vO (E D : T3 → Prop) : Option T3 → Prop
  | none => ∀ W, ¬ D W
  | some W => vst E D W
def upO (st : Option T3) (W : T3) : T3 := match st with
  | none => W
  | some W0 => pik 0 0 W0 W
theorem vO_weak {E D D' : T3 → Prop} {st : Option T3} (h : vO E D st) (hD : ∀ W, D' W → D W) : vO E D' st := by
  cases st with
  | none => exact fun W hW => h W (hD W hW)
  | some W0 => exact ⟨h.1, h.2.1, fun W hW => h.2.2 W (hD W hW)⟩
theorem vO_up {E D : T3 → Prop} {st : Option T3} {W : T3} (h : vO E D st) (hD : ∀ W, D W → 1 ≤ W.2.2) (hO : okV W) (hE : E W) : vO E (fun Z => D Z ∨ W = Z) (some (upO st W)) := by
  cases st with
  | none =>
    refine ⟨hO, hE, ?_⟩
    rintro Z (hZ | rfl)
    · exact absurd hZ (h Z)
    · exact Int.le_refl _
  | some W0 =>
    obtain ⟨h1, h2, h3⟩ := h
    have q0 := (okV_sq h1).2.1
    have q1 := (okV_sq hO).2.1
    show vst E _ (pik 0 0 W0 W)
    unfold pik
    by_cases c : tak 0 0 W0 W
    · rw [if_pos c]
      refine ⟨hO, hE, ?_⟩
      rintro Z (hZ | rfl)
      · have hw := hD Z hZ
        exact rat_le (d := W0.2.2 * W0.2.2) (by omega) (by omega) (sqn _) (by unfold tak at c; omega) (h3 Z hZ)
      · exact Int.le_refl _
    · rw [if_neg c]
      refine ⟨h1, h2, ?_⟩
      rintro Z (hZ | rfl)
      · exact h3 Z hZ
      · unfold tak at c; omega
def stC (st : Option T3) (gs gl gx gy : Int64) : Prop := match st with
  | none => gl = 0
  | some W => gs = jJ (D3 0 0 W) ∧ gl = jJ (W.2.2 * W.2.2) ∧ gx = jJ W.1 ∧ gy = jJ W.2.1
theorem offG (K : Nat) {E D : T3 → Prop} {st : Option T3} {gs gl gx gy : Int64} (hs : stC st gs gl gx gy) (hv : vO E D st) {cx cy P Q L σ : Int} (hcx : -20 ≤ cx ∧ cx ≤ 20) (hcy : -20 ≤ cy ∧ cy ≤ 20) (hσ : σ = 1 ∨ σ = -1) (hO : okV (σ * (P - cx * L), σ * (Q - cy * L), L)) : ∃ gs' gl' gx' gy', fX3_offerGap K gs gl gx gy (jJ P) (jJ Q) (jJ L) (jJ (d2 cx cy P Q L)) (jJ (L * L)) (iI cx) (iI cy) (iI σ) = some (gs', gl', gx', gy') ∧ stC (some (upO st (σ * (P - cx * L), σ * (Q - cy * L), L))) gs' gl' gx' gy' := by
  have hd : D3 0 0 (σ * (P - cx * L), σ * (Q - cy * L), L) = d2 cx cy P Q L := by
    show d2 0 0 (σ * (P - cx * L)) (σ * (Q - cy * L)) L = _
    rcases hσ with rfl | rfl
    · rw [Int.one_mul, Int.one_mul, d2_vec]
    · unfold d2; grind
  have hs32 : s32 σ := by rcases hσ with rfl | rfl <;> exact ⟨by decide, by decide⟩
  unfold fX3_offerGap fX4_wayX fX4_wayY
  rw [iI_long (show s32 cx from ⟨by omega, by omega⟩), iI_long (show s32 cy from ⟨by omega, by omega⟩), iI_long hs32]
  simp only [b1, Option.bind_some, xl, jn, jJ_mul, jJ_sub]
  cases st with
  | none =>
    have hz : gl = 0 := hs
    rw [if_pos hz]
    exact ⟨_, _, _, _, rfl, by rw [← hd]; rfl, rfl, rfl, rfl⟩
  | some W0 =>
    obtain ⟨rfl, rfl, rfl, rfl⟩ := hs
    obtain ⟨⟨a1, a2⟩, a3, a4⟩ := okV_sq hv.1
    obtain ⟨⟨b1', b2'⟩, b3', b4'⟩ := okV_sq hO
    rw [hd] at b1' b2'
    dsimp only at b3' b4'
    rw [if_neg (jne (show 0 < W0.2.2 * W0.2.2 by omega) (by omega))]
    have m1 := mulB (u := d2 cx cy P Q L) (v := W0.2.2 * W0.2.2) (a := 32768000000) (b := 10240000) (by omega) (by omega)
    have m2 := mulB (u := D3 0 0 W0) (v := L * L) (a := 32768000000) (b := 10240000) (by omega) (by omega)
    simp only [jJ_mul, jJ_le (show s64 (D3 0 0 W0 * (L * L)) from ⟨by omega, by omega⟩) (show s64 (d2 cx cy P Q L * (W0.2.2 * W0.2.2)) from ⟨by omega, by omega⟩)]
    show ∃ gs' gl' gx' gy', _ ∧ stC (some (pik 0 0 W0 _)) gs' gl' gx' gy'
    by_cases c : tak 0 0 W0 (σ * (P - cx * L), σ * (Q - cy * L), L)
    · rw [show pik 0 0 W0 (σ * (P - cx * L), σ * (Q - cy * L), L) = (σ * (P - cx * L), σ * (Q - cy * L), L) from if_pos c]
      unfold tak at c
      rw [hd] at c
      rw [if_neg (show ¬ D3 0 0 W0 * (L * L) ≤ d2 cx cy P Q L * (W0.2.2 * W0.2.2) by dsimp only at c; omega)]
      exact ⟨_, _, _, _, rfl, by rw [← hd], rfl, rfl, rfl⟩
    · rw [show pik 0 0 W0 (σ * (P - cx * L), σ * (Q - cy * L), L) = W0 from if_neg c]
      unfold tak at c
      rw [hd] at c
      rw [if_pos (show D3 0 0 W0 * (L * L) ≤ d2 cx cy P Q L * (W0.2.2 * W0.2.2) by dsimp only at c; omega)]
      exact ⟨_, _, _, _, rfl, rfl, rfl, rfl, rfl⟩
abbrev gU (W : T3) : Int := (Int.gcd W.1 W.2.1 : Int)
def stM (st : Option T3) (fa fb wx wy : Int64) : Prop := match st with
  | none => fb = 0
  | some W => fa = jJ (D3 0 0 W / G2 0 0 W) ∧ fb = jJ (W.2.2 * W.2.2 / G2 0 0 W) ∧ wx = jJ (W.1 / gU W) ∧ wy = jJ (W.2.1 / gU W)
theorem gU_pos {W : T3} (h : 0 < D3 0 0 W) : 0 < gU W := by
  have h1 : (Int.gcd W.1 W.2.1 : Nat) ≠ 0 := by
    intro z
    rw [Int.gcd_eq_zero_iff] at z
    have : D3 0 0 W = (W.1 - 0 * W.2.2) * (W.1 - 0 * W.2.2) + (W.2.1 - 0 * W.2.2) * (W.2.1 - 0 * W.2.2) := rfl
    rw [this, z.1, z.2] at h
    simp at h
  show 0 < ((Int.gcd W.1 W.2.1 : Nat) : Int)
  omega
theorem tryW (K : Nat) (hK : 4000 ≤ K) {E D : T3 → Prop} {st : Option T3} {fa fb wx wy : Int64} (hs : stM st fa fb wx wy) (hv : vO E D st) {W : T3} (hO : okV W) (hp : 0 < D3 0 0 W) : ∃ fa' fb' wx' wy', fX12_triesWay K fa fb wx wy (jJ W.1) (jJ W.2.1) (jJ W.2.2) = some (fa', fb', wx', wy') ∧ stM (some (upO st W)) fa' fb' wx' wy' := by
  have hgw := gU_pos hp
  obtain ⟨P, Q, L⟩ := W
  obtain ⟨⟨c1, c2⟩, c3, c4⟩ := okV_sq hO
  obtain ⟨o1, o2, o3⟩ := id hO
  dsimp only at c3 c4 o1 o2 o3
  have e1 : D3 0 0 (P, Q, L) = P * P + Q * Q := by show d2 0 0 P Q L = _; unfold d2; simp
  rw [e1] at c1 c2 hp
  have hg := gcd_pos2 (a := P * P + Q * Q) (show L * L ≠ 0 by omega)
  have hg2 := gcd_le (a := P * P + Q * Q) (show 0 < L * L by omega)
  have k1 := Int.gcd_dvd_left (P * P + Q * Q) (L * L)
  have k2 := Int.gcd_dvd_right (P * P + Q * Q) (L * L)
  have w1 := Int.gcd_dvd_left P Q
  have w2 := Int.gcd_dvd_right P Q
  have w3 : 0 < (Int.gcd P Q : Int) := hgw
  have w4 := gcd_bd (a := P) (b := Q) (B := 128000) (by omega) (by omega)
  obtain ⟨q1, q2⟩ := quo_le hg (show 0 ≤ P * P + Q * Q ∧ P * P + Q * Q ≤ 32768000000 by omega)
  obtain ⟨q3, q4⟩ := quo_le hg (show 0 ≤ L * L ∧ L * L ≤ 10240000 by omega)
  unfold fX12_triesWay
  simp only [xl, jn, jJ_mul, jJ_add]
  rw [(gcd_spec K hK (P * P + Q * Q) (L * L) (by omega) (by omega) (by omega) (by omega)).2]
  simp only [b1, Option.bind_some]
  rw [gd_ne (jne hg (by omega)), gd_ne (jne hg (by omega)), jdivx hg k1 (by omega) (by omega), jdivx hg k2 (by omega) (by omega)]
  rw [(gcd_spec K hK P Q (by omega) (by omega) (by omega) (by omega)).2]
  simp only [Option.bind_some]
  rw [gd_ne (jne w3 (by omega)), gd_ne (jne w3 (by omega)), jdivx w3 w1 (by omega) (by omega), jdivx w3 w2 (by omega) (by omega)]
  have fin : stM (some (P, Q, L)) (jJ ((P * P + Q * Q) / (Int.gcd (P * P + Q * Q) (L * L) : Int))) (jJ (L * L / (Int.gcd (P * P + Q * Q) (L * L) : Int))) (jJ (P / (Int.gcd P Q : Int))) (jJ (Q / (Int.gcd P Q : Int))) := by
    refine ⟨?_, ?_, rfl, rfl⟩
    · unfold G2; rw [e1]
    · unfold G2; rw [e1]
  cases st with
  | none =>
    have hz : fb = 0 := hs
    rw [if_pos (show fb ≤ 0 by rw [hz]; decide)]
    exact ⟨_, _, _, _, rfl, fin⟩
  | some W0 =>
    obtain ⟨rfl, rfl, rfl, rfl⟩ := hs
    obtain ⟨⟨a1, a2⟩, a3, a4⟩ := okV_sq hv.1
    have hg0 := gcd_pos2 (a := D3 0 0 W0) (show W0.2.2 * W0.2.2 ≠ 0 by omega)
    have k3 := Int.gcd_dvd_left (D3 0 0 W0) (W0.2.2 * W0.2.2)
    have k4 := Int.gcd_dvd_right (D3 0 0 W0) (W0.2.2 * W0.2.2)
    obtain ⟨q5, q6⟩ := quo_le hg0 (show 0 ≤ D3 0 0 W0 ∧ D3 0 0 W0 ≤ 32768000000 by omega)
    obtain ⟨q7, q8⟩ := quo_le hg0 (show 0 ≤ W0.2.2 * W0.2.2 ∧ W0.2.2 * W0.2.2 ≤ 10240000 by omega)
    have q9 : 0 < W0.2.2 * W0.2.2 / (Int.gcd (D3 0 0 W0) (W0.2.2 * W0.2.2) : Int) := by
      have : W0.2.2 * W0.2.2 / (Int.gcd (D3 0 0 W0) (W0.2.2 * W0.2.2) : Int) ≠ 0 := by
        intro z
        have := Int.ediv_mul_cancel k4
        rw [z, Int.zero_mul] at this
        omega
      omega
    have m1 := mulB (u := (P * P + Q * Q) / (Int.gcd (P * P + Q * Q) (L * L) : Int)) (v := W0.2.2 * W0.2.2 / (Int.gcd (D3 0 0 W0) (W0.2.2 * W0.2.2) : Int)) (a := 32768000000) (b := 10240000) (by omega) (by omega)
    have m2 := mulB (u := D3 0 0 W0 / (Int.gcd (D3 0 0 W0) (W0.2.2 * W0.2.2) : Int)) (v := L * L / (Int.gcd (P * P + Q * Q) (L * L) : Int)) (a := 32768000000) (b := 10240000) (by omega) (by omega)
    rw [if_neg (show ¬ jJ (W0.2.2 * W0.2.2 / (Int.gcd (D3 0 0 W0) (W0.2.2 * W0.2.2) : Int)) ≤ 0 from fun z => by
      have : W0.2.2 * W0.2.2 / (Int.gcd (D3 0 0 W0) (W0.2.2 * W0.2.2) : Int) ≤ 0 := (jJ_le (b := 0) ⟨by omega, by omega⟩ ⟨by omega, by omega⟩).mp z
      omega)]
    simp only [jJ_mul]
    have cond : (jJ ((P * P + Q * Q) / (Int.gcd (P * P + Q * Q) (L * L) : Int) * (W0.2.2 * W0.2.2 / (Int.gcd (D3 0 0 W0) (W0.2.2 * W0.2.2) : Int))) < jJ (D3 0 0 W0 / (Int.gcd (D3 0 0 W0) (W0.2.2 * W0.2.2) : Int) * (L * L / (Int.gcd (P * P + Q * Q) (L * L) : Int)))) ↔ tak 0 0 W0 (P, Q, L) := by
      rw [jJ_lt ⟨by omega, by omega⟩ ⟨by omega, by omega⟩]
      unfold tak
      rw [e1]
      exact frac_lt hg hg0 k1 k2 k3 k4
    show ∃ fa' fb' wx' wy', _ ∧ stM (some (pik 0 0 W0 (P, Q, L))) fa' fb' wx' wy'
    by_cases c : tak 0 0 W0 (P, Q, L)
    · rw [show pik 0 0 W0 (P, Q, L) = (P, Q, L) from if_pos c, if_pos (cond.mpr c)]
      exact ⟨_, _, _, _, rfl, fin⟩
    · rw [show pik 0 0 W0 (P, Q, L) = W0 from if_neg c, if_neg (fun z => c (cond.mp z))]
      exact ⟨_, _, _, _, rfl, rfl, rfl, rfl, rfl⟩
