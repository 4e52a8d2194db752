--@ needs 2a.num 2b.ev1 2d.gcd 2e.row 2f.row2 2g.bits 2h.hull 2i.hull2 2j.hull3 2k.hull4 2l.side 2m.side2 2n.hulls 2o.chain 2p.poly 2q.pg 2r.near 2s.red 2t.near2 2u.near3 2x.meet1 2y.meet2 2z.meet3
/-! the model's way to the least common place -/
def lstM4 (st : Option T3) (p q l : Int64) (met : Int32) : Prop := match st with
  | none => met = 0
  | some Z => met = 1 ∧ p = jJ (Z.1 / G3 Z) ∧ q = jJ (Z.2.1 / G3 Z) ∧ l = jJ (Z.2.2 / G3 Z)
/-- the hulls that are laid -/
def HMs (K : Nat) (px py cor cors : Nat → Int32) (n : Nat) (U V : Nat → Nat → Int) (m : Nat → Nat) : Prop := n ≤ 3 ∧ ∀ w, w < n → hulM K px py cor cors w (U w) (V w) (m w) ∧ okU (U w) (V w) (m w) ∧ 0 < m w ∧ m w < 48
def inA (n : Nat) (U V : Nat → Nat → Int) (m : Nat → Nat) (Z : T3) : Prop := ∀ w, w < n → inH (U w) (V w) (m w) Z.1 Z.2.1 Z.2.2
theorem tri_L (K : Nat) (hK : 4000 ≤ K) {px py cor cors : Nat → Int32} {n : Nat} {U V : Nat → Nat → Int} {m : Nat → Nat} (h : HMs K px py cor cors n U V m) {Z : T3} (hO : okM Z) : ∀ (fu w : Nat), w ≤ n → n - w < fu → (∀ k, k < w → inH (U k) (V k) (m k) Z.1 Z.2.1 Z.2.2) → (inA n U V m Z ∧ fX12_tries_L3 K (jJ Z.1) (jJ Z.2.1) (jJ Z.2.2) (nI n) px py cor cors fu (nI w) = some (.inr ())) ∨ (¬ inA n U V m Z ∧ fX12_tries_L3 K (jJ Z.1) (jJ Z.2.1) (jJ Z.2.2) (nI n) px py cor cors fu (nI w) = some (.inl ())) := by
  have hn := h.1
  intro fu
  induction fu with
  | zero => intro w h1 h2; omega
  | succ fu ih =>
    intro w h1 h2 hall
    rw [fX12_tries_L3]
    by_cases c : w = n
    · subst c
      rw [if_pos (nI_le (Nat.le_refl w) (by omega))]
      exact Or.inl ⟨hall, rfl⟩
    · have hw : w < n := by omega
      rw [if_neg (nI_ge hw (by omega))]
      obtain ⟨k1, k2, k3, k4⟩ := h.2 w hw
      rw [sideM K hK k1 k3 k4 k2 (okM_P hO)]
      simp only [b1, Option.bind_some]
      have t := sdv_in (U w) (V w) (m w) Z.1 Z.2.1 Z.2.2
      have t0 : sdv (U w) (V w) (m w) Z.1 Z.2.1 Z.2.2 = 0 ↔ sdv (U w) (V w) (m w) Z.1 Z.2.1 Z.2.2 ≤ 0 := by
        unfold sdv
        (repeat' split) <;> decide
      by_cases d : inH (U w) (V w) (m w) Z.1 Z.2.1 Z.2.2
      · rw [if_neg (fun z => t.mp (t0.mp z) d)]
        simp only [xl, nI_1]
        refine ih (w + 1) (by omega) (by omega) (fun k hk => ?_)
        by_cases z : k = w
        · subst z; exact d
        · exact hall k (by omega)
      · rw [if_pos (t0.mpr (t.mpr d))]
        exact Or.inr ⟨fun z => d (z w hw), rfl⟩
theorem ltp_red {Z W : T3} (hZ : okM Z) (hW : okM W) : ltp Z W ↔ (Z.1 * (W.2.2 / G3 W) < (W.1 / G3 W) * Z.2.2 ∨ (Z.1 * (W.2.2 / G3 W) = (W.1 / G3 W) * Z.2.2 ∧ Z.2.1 * (W.2.2 / G3 W) < (W.2.1 / G3 W) * Z.2.2)) := by
  obtain ⟨d1, d2', d3⟩ : G3 W ∣ W.1 ∧ G3 W ∣ W.2.1 ∧ G3 W ∣ W.2.2 := g3_dvd _ _ _
  have hg : 0 < G3 W := by show 0 < (g3 W.1 W.2.1 W.2.2 : Int); have := g3_pos (P := W.1) (Q := W.2.1) (show W.2.2 ≠ 0 by have := hW.1.1; omega); omega
  unfold ltp
  generalize G3 W = g at *
  obtain ⟨a, ha⟩ := d1
  obtain ⟨b, hb⟩ := d2'
  obtain ⟨c, hc⟩ := d3
  rw [ha, hb, hc, Int.mul_ediv_cancel_left _ (by omega), Int.mul_ediv_cancel_left _ (by omega), Int.mul_ediv_cancel_left _ (by omega)]
  have k : ∀ x y : Int, (x * (g * c) < g * y * Z.2.2 ↔ x * c < y * Z.2.2) ∧ (x * (g * c) = g * y * Z.2.2 ↔ x * c = y * Z.2.2) := by
    intro x y
    have e1 : x * (g * c) = g * (x * c) := by grind
    have e2 : g * y * Z.2.2 = g * (y * Z.2.2) := by grind
    rw [e1, e2]
    exact ⟨⟨fun h => Int.lt_of_mul_lt_mul_left h (by omega), fun h => Int.mul_lt_mul_of_pos_left h hg⟩, ⟨fun h => Int.eq_of_mul_eq_mul_left (by omega) h, fun h => by rw [h]⟩⟩
  rw [(k Z.1 a).1, (k Z.1 a).2, (k Z.2.1 b).1]
theorem triesM (K : Nat) (hK : 4000 ≤ K) {px py cor cors : Nat → Int32} {n : Nat} {U V : Nat → Nat → Int} {m : Nat → Nat} (h : HMs K px py cor cors n U V m) {Z : T3} (hO : okM Z) {D : T3 → Prop} {st : Option T3} {p q l : Int64} {met : Int32} (hl : lstM4 st p q l met) (hM : mmin (inA n U V m) D st) (hD : ∀ W, D W → 1 ≤ W.2.2) : ∃ p' q' l' met' st', fX12_tries K p q l met (nI n) px py cor cors (jJ Z.1) (jJ Z.2.1) (jJ Z.2.2) = some (p', q', l', met') ∧ lstM4 st' p' q' l' met' ∧ mmin (inA n U V m) (fun W => D W ∨ W = Z) st' := by
  unfold fX12_tries
  have hL := tri_L K hK h hO K 0 (Nat.zero_le _) (by have := h.1; omega) (fun k hk => by omega)
  rcases hL with ⟨hA, hL⟩ | ⟨hA, hL⟩
  · rw [show fX12_tries_L3 K (jJ Z.1) (jJ Z.2.1) (jJ Z.2.2) (nI n) px py cor cors K 0 = _ from hL]
    simp only [sm, Option.bind_some, Sum.elim_inr, u0, jn]
    obtain ⟨⟨o1, o2⟩, o3, o4⟩ := id hO
    rw [layP K hK p q l (by omega) (by omega) (by omega)]
    simp only [b3, Option.bind_some, if_neg one_ne]
    have takeN : (∀ W, st = some W → ltp Z W) → ∃ p' q' l' met' st', some (jJ (Z.1 / (g3 Z.1 Z.2.1 Z.2.2 : Int)), jJ (Z.2.1 / (g3 Z.1 Z.2.1 Z.2.2 : Int)), jJ (Z.2.2 / (g3 Z.1 Z.2.1 Z.2.2 : Int)), (1 : Int32)) = some (p', q', l', met') ∧ lstM4 st' p' q' l' met' ∧ mmin (inA n U V m) (fun W => D W ∨ W = Z) st' :=
      fun hk => ⟨_, _, _, _, some Z, rfl, ⟨rfl, rfl, rfl, rfl⟩, mmin_take hM hD hO hA hk⟩
    cases st with
    | none =>
      have hl' : met = 0 := hl
      rw [if_pos hl']
      exact takeN (fun W e => by cases e)
    | some W =>
      obtain ⟨e0, e1, e2, e3⟩ := hl
      have hW := hM.1
      obtain ⟨⟨w1, w2⟩, w3, w4⟩ := id hW
      have hg : 0 < G3 W := by show 0 < (g3 W.1 W.2.1 W.2.2 : Int); have := g3_pos (P := W.1) (Q := W.2.1) (show W.2.2 ≠ 0 by omega); omega
      have r1 := quo_le hg (show 0 ≤ W.2.2 ∧ W.2.2 ≤ 3200 by omega)
      have r2 : -64000 ≤ W.1 / G3 W ∧ W.1 / G3 W ≤ 64000 := by
        constructor
        · rw [Int.le_ediv_iff_mul_le hg]
          have := Int.mul_le_mul_of_nonneg_right (show 1 ≤ G3 W by omega) (show (0 : Int) ≤ 64000 by decide)
          omega
        · exact Int.le_trans (Int.ediv_le_ediv hg w3.2) (Int.ediv_le_self _ (by decide))
      have r3 : -64000 ≤ W.2.1 / G3 W ∧ W.2.1 / G3 W ≤ 64000 := by
        constructor
        · rw [Int.le_ediv_iff_mul_le hg]
          have := Int.mul_le_mul_of_nonneg_right (show 1 ≤ G3 W by omega) (show (0 : Int) ≤ 64000 by decide)
          omega
        · exact Int.le_trans (Int.ediv_le_ediv hg w4.2) (Int.ediv_le_self _ (by decide))
      have q1 := mulB (u := Z.1) (v := W.2.2 / G3 W) (a := 64000) (b := 3200) (by omega) (by omega)
      have q2 := mulB (u := W.1 / G3 W) (v := Z.2.2) (a := 64000) (b := 3200) (by omega) (by omega)
      have q3 := mulB (u := Z.2.1) (v := W.2.2 / G3 W) (a := 64000) (b := 3200) (by omega) (by omega)
      have q4 := mulB (u := W.2.1 / G3 W) (v := Z.2.2) (a := 64000) (b := 3200) (by omega) (by omega)
      have hlt := ltp_red hO hW
      have c1 : (jJ Z.1 * l < p * jJ Z.2.2) ↔ Z.1 * (W.2.2 / G3 W) < (W.1 / G3 W) * Z.2.2 := by
        rw [e1, e3, jJ_mul, jJ_mul]; exact jJ_lt ⟨by omega, by omega⟩ ⟨by omega, by omega⟩
      have c2 : (jJ Z.1 * l = p * jJ Z.2.2) ↔ Z.1 * (W.2.2 / G3 W) = (W.1 / G3 W) * Z.2.2 := by
        rw [e1, e3, jJ_mul, jJ_mul]; exact jJ_eq ⟨by omega, by omega⟩ ⟨by omega, by omega⟩
      have c3 : (q * jJ Z.2.2 ≤ jJ Z.2.1 * l) ↔ (W.2.1 / G3 W) * Z.2.2 ≤ Z.2.1 * (W.2.2 / G3 W) := by
        rw [e2, e3, jJ_mul, jJ_mul]; exact jJ_le ⟨by omega, by omega⟩ ⟨by omega, by omega⟩
      rw [if_neg (show ¬ met = 0 from by rw [e0]; exact one_ne)]
      simp only [c1, c2, c3, if_pos]
      have stay : ¬ ltp Z W → ∃ p' q' l' met' st', some (p, q, l, met) = some (p', q', l', met') ∧ lstM4 st' p' q' l' met' ∧ mmin (inA n U V m) (fun W => D W ∨ W = Z) st' :=
        fun hn => ⟨p, q, l, met, some W, rfl, ⟨e0, e1, e2, e3⟩, mmin_keep hM (Or.inr ⟨W, rfl, hn⟩)⟩
      by_cases d1 : Z.1 * (W.2.2 / G3 W) < (W.1 / G3 W) * Z.2.2
      · rw [if_pos d1]
        exact takeN (fun W' e => by cases e; exact hlt.mpr (Or.inl d1))
      · rw [if_neg d1]
        by_cases d2 : Z.1 * (W.2.2 / G3 W) = (W.1 / G3 W) * Z.2.2
        · rw [if_pos d2]
          by_cases d3 : (W.2.1 / G3 W) * Z.2.2 ≤ Z.2.1 * (W.2.2 / G3 W)
          · rw [if_pos d3]
            exact stay (fun z => by have := hlt.mp z; omega)
          · rw [if_neg d3]
            exact takeN (fun W' e => by cases e; exact hlt.mpr (Or.inr ⟨d2, by omega⟩))
        · rw [if_neg d2]
          exact stay (fun z => by have := hlt.mp z; omega)
  · rw [show fX12_tries_L3 K (jJ Z.1) (jJ Z.2.1) (jJ Z.2.2) (nI n) px py cor cors K 0 = _ from hL]
    simp only [sm, Option.bind_some, Sum.elim_inl, u0]
    exact ⟨p, q, l, met, st, rfl, hl, mmin_keep hM (Or.inl hA)⟩
