--@ needs 2a.num 2b.ev1 2d.gcd 2e.row 2f.row2 2g.bits 2h.hull 2i.hull2 2j.hull3 2k.hull4 2l.side 2m.side2 2n.hulls 2o.chain 2p.poly
/-! a set's hull holds its points -/
def inH (U V : Nat → Int) (m : Nat) (P Q L : Int) : Prop := (∀ i : Nat, i < m → 0 ≤ tE U V m P Q L i) ∧ (m < 3 → (U 0 * L - P) * (U (m - 1) * L - P) + (V 0 * L - Q) * (V (m - 1) * L - Q) ≤ 0)
def PG (U V : Nat → Int) (m : Nat) : Prop := 0 < m ∧ (3 ≤ m → ∀ i : Nat, i < m → 0 < tE U V m (U (cy m (cy m (i + 1) + 1))) (V (cy m (cy m (i + 1) + 1))) 1 i) ∧ (m = 2 → ¬ (U 0 = U 1 ∧ V 0 = V 1))
theorem sdv_in (U V : Nat → Int) (m : Nat) (P Q L : Int) : sdv U V m P Q L ≤ 0 ↔ ¬ inH U V m P Q L := by
  have a1 : (∃ j, j < m ∧ decide (tE U V m P Q L j < 0) = true) ↔ ¬ ∀ i : Nat, i < m → 0 ≤ tE U V m P Q L i := by
    constructor
    · rintro ⟨j, h1, h2⟩ h
      have := h j h1
      simp at h2
      omega
    · intro h
      apply Classical.byContradiction
      intro hh
      apply h
      intro i hi
      apply Classical.byContradiction
      intro h3
      exact hh ⟨i, hi, by simp; omega⟩
  unfold sdv inH
  by_cases c : anyN (fun i => decide (tE U V m P Q L i < 0)) m = true
  · rw [if_pos c]
    have := a1.mp (anyN_iff.mp c)
    exact ⟨fun _ h => this h.1, fun _ => by decide⟩
  · rw [if_neg c]
    have h1 : ∀ i : Nat, i < m → 0 ≤ tE U V m P Q L i := Classical.byContradiction fun h => c (anyN_iff.mpr (a1.mpr h))
    by_cases d : m < 3
    · rw [if_pos d]
      split
      · rename_i z
        exact ⟨fun h => absurd h (by decide), fun h => absurd ⟨h1, fun _ => z⟩ h⟩
      · rename_i z
        exact ⟨fun _ h => z (h.2 d), fun _ => by decide⟩
    · rw [if_neg d]
      split
      · exact ⟨fun h => absurd h (by decide), fun h => absurd ⟨h1, fun z => absurd z d⟩ h⟩
      · exact ⟨fun h => absurd h (by decide), fun h => absurd ⟨h1, fun z => absurd z d⟩ h⟩
theorem rowL_mem (X Y : Nat → Int) (S : Int32) : ∀ j : Nat, (∀ q ∈ rowL X Y S j, q < j ∧ bitS S q) ∧ ∀ p : Nat, p < j → bitS S p → ∃ q ∈ rowL X Y S j, sam X Y q p := by
  intro j
  induction j with
  | zero => exact ⟨by simp [rowL], fun p h => absurd h (by omega)⟩
  | succ j ih =>
    obtain ⟨i1, i2⟩ := ih
    obtain ⟨r1, -, -⟩ := rowL_ok X Y S j
    rw [rowL, nxt]
    by_cases c : bitS S j
    · rw [if_pos c]
      rcases ins_cases (p := j) r1 with ⟨u, v, e1, e2, -, -⟩ | ⟨u, q, v, e1, e2, -, hs, -⟩
      · rw [e2]
        refine ⟨fun q hq => ?_, fun p hp hb => ?_⟩
        · have : q = j ∨ q ∈ rowL X Y S j := by
            rw [e1]; simp only [List.mem_append, List.mem_cons] at hq ⊢
            rcases hq with h | h | h
            · exact Or.inr (Or.inl h)
            · exact Or.inl h
            · exact Or.inr (Or.inr h)
          rcases this with rfl | h
          · exact ⟨by omega, c⟩
          · exact ⟨by have := (i1 q h).1; omega, (i1 q h).2⟩
        · by_cases z : p = j
          · subst z; exact ⟨p, by simp, rfl, rfl⟩
          · obtain ⟨q, h1, h2⟩ := i2 p (by omega) hb
            rw [e1] at h1
            refine ⟨q, ?_, h2⟩
            simp only [List.mem_append, List.mem_cons] at h1 ⊢
            rcases h1 with h | h
            · exact Or.inl h
            · exact Or.inr (Or.inr h)
      · rw [e2]
        refine ⟨fun q hq => ⟨by have := (i1 q hq).1; omega, (i1 q hq).2⟩, fun p hp hb => ?_⟩
        by_cases z : p = j
        · subst z; exact ⟨q, by rw [e1]; simp, hs⟩
        · exact i2 p (by omega) hb
    · rw [if_neg c]
      refine ⟨fun q hq => ⟨by have := (i1 q hq).1; omega, (i1 q hq).2⟩, fun p hp hb => ?_⟩
      exact i2 p (by have : p ≠ j := fun e => c (e ▸ hb)
                     omega) hb
theorem tE_trn (X Y : Nat → Int) (H : List Nat) (p i : Nat) : tE (fun i => X (hg H i)) (fun i => Y (hg H i)) H.length (X p) (Y p) 1 i = trn X Y (hg H i) (hg H (cy H.length (i + 1))) p := by
  unfold tE trn
  rw [Int.mul_one, Int.mul_one]
theorem hull_pg {n : Nat} {x y : Nat → Int32} {X Y : Nat → Int} (hP : Pts n x y X Y) {S : Int32} (c : isSt n S) : PG (hX X Y S n) (hY X Y S n) (hN X Y S n) ∧ (∀ j : Nat, j < n → bitS S j → inH (hX X Y S n) (hY X Y S n) (hN X Y S n) (X j) (Y j) 1) ∧ (∀ i : Nat, i < hN X Y S n → ∃ j : Nat, j < n ∧ bitS S j ∧ hX X Y S n i = X j ∧ hY X Y S n i = Y j) ∧ hN X Y S n ≤ (rowL X Y S n).length := by
  have h0 := row_pos (X := X) (Y := Y) hP.1 c
  obtain ⟨r1, r2, r3⟩ := rowL_ok X Y S n
  obtain ⟨q1, q2⟩ := rowL_mem X Y S n
  have hrg : ∀ k : Nat, k < (rowL X Y S n).length → (rowL X Y S n).getD k 0 ∈ rowL X Y S n := by
    intro k hk
    rw [List.getD_eq_getElem?_getD, List.getElem?_eq_getElem hk]
    exact List.getElem_mem _
  have hidx : ∀ q ∈ rowL X Y S n, ∃ k, k < (rowL X Y S n).length ∧ (rowL X Y S n).getD k 0 = q := by
    intro q hq
    obtain ⟨k, hk, e⟩ := List.getElem_of_mem hq
    exact ⟨k, hk, by rw [List.getD_eq_getElem?_getD, List.getElem?_eq_getElem hk]; exact e⟩
  have hs : ∀ j k : Nat, j < k → k < (rowL X Y S n).length → bef X Y ((rowL X Y S n).getD j 0) ((rowL X Y S n).getD k 0) := by
    intro j k h1 h2
    rw [List.getD_eq_getElem?_getD, List.getD_eq_getElem?_getD, List.getElem?_eq_getElem h2, List.getElem?_eq_getElem (by omega)]
    exact List.pairwise_iff_getElem.mp r1 j k (by omega) h2 h1
  have sam_tE : ∀ {p q : Nat}, sam X Y q p → X p = X q ∧ Y p = Y q := fun h => ⟨h.1.symm, h.2.symm⟩
  unfold hX hY hN hulS
  by_cases h2 : (rowL X Y S n).length = 1
  · rw [h2]
    have e : hulR X Y (fun i => (rowL X Y S n).getD i 0) 1 = [(rowL X Y S n).getD 0 0] := rfl
    rw [e]
    have hm := hrg 0 (by omega)
    have hall : ∀ q ∈ rowL X Y S n, q = (rowL X Y S n).getD 0 0 := by
      intro q hq
      obtain ⟨k, hk, e⟩ := hidx q hq
      rw [← e]; congr 1; omega
    refine ⟨⟨by simp, fun h => by simp at h, fun h => by simp at h⟩, fun j hj hb => ?_, fun i hi => ⟨(rowL X Y S n).getD 0 0, (q1 _ hm).1, (q1 _ hm).2, ?_⟩, by simp⟩
    · obtain ⟨q, hq, hsm⟩ := q2 j hj hb
      rw [hall q hq] at hsm
      generalize (rowL X Y S n).getD 0 0 = r at *
      have eh : ∀ i, hg [r] (cy [r].length i) = r := by
        intro i
        have : cy [r].length i = 0 := by
          unfold cy
          simp only [List.length_singleton]
          split <;> omega
        rw [this]
        rfl
      refine ⟨fun i hi => ?_, fun _ => ?_⟩
      · have : i = 0 := by simp at hi; omega
        subst this
        rw [tE_trn, eh, show hg [r] 0 = r from rfl]
        unfold trn; simp
      · show (X r * 1 - X j) * (X r * 1 - X j) + (Y r * 1 - Y j) * (Y r * 1 - Y j) ≤ 0
        rw [hsm.1, hsm.2]; simp
    · have : i = 0 := by simp at hi; omega
      subst this
      exact ⟨rfl, rfl⟩
  · obtain ⟨k, hk⟩ : ∃ k, (rowL X Y S n).length = k + 2 := ⟨(rowL X Y S n).length - 2, by omega⟩
    rw [hk] at hs ⊢
    obtain ⟨p1, p2, p3, p4, p5, p6, p7⟩ := poly (rg := fun i => (rowL X Y S n).getD i 0) hs
    have hlen : (hulR X Y (fun i => (rowL X Y S n).getD i 0) (k + 2)).length ≤ k + 2 := by
      have := ndp_len (r := rowL X Y S n) p2 (fun z hz => by
        obtain ⟨j, hj, e⟩ := p1 z hz
        rw [e]; exact hrg j (by omega))
      omega
    generalize hulR X Y (fun i => (rowL X Y S n).getD i 0) (k + 2) = H at *
    refine ⟨⟨by omega, fun h3 i hi => ?_, fun h2 => ?_⟩, fun j hj hb => ?_, fun i hi => ?_, hlen⟩
    · rw [tE_trn]; exact p5 h3 i hi
    · show ¬ (X (hg H 0) = X (hg H 1) ∧ Y (hg H 0) = Y (hg H 1))
      rw [p6, p7 h2]
      have := hs 0 (k + 1) (by omega) (by omega)
      exact fun z => bef_nsam this z
    · obtain ⟨q, hq, hsm⟩ := q2 j hj hb
      obtain ⟨z, hz, e⟩ := hidx q hq
      refine ⟨fun i hi => ?_, fun h3 => ?_⟩
      · rw [← hsm.1, ← hsm.2, tE_trn, ← e]
        exact p4 i hi z (by omega)
      · have h2' : H.length = 2 := by omega
        rw [h2', ← hsm.1, ← hsm.2]
        show (X (hg H 0) * 1 - X q) * (X (hg H 1) * 1 - X q) + (Y (hg H 0) * 1 - Y q) * (Y (hg H 1) * 1 - Y q) ≤ 0
        have t0 := p4 0 (by omega) z (by omega)
        have t1 := p4 1 (by omega) z (by omega)
        rw [h2', show cy 2 (0 + 1) = 1 from rfl, e] at t0
        rw [h2', show cy 2 (1 + 1) = 0 from rfl, e] at t1
        have ez : trn X Y (hg H 0) (hg H 1) q = 0 := by
          have : trn X Y (hg H 0) (hg H 1) q = - trn X Y (hg H 1) (hg H 0) q := by unfold trn; grind
          omega
        have b0 : ¬ bef X Y q (hg H 0) := by
          rw [p6, ← e]
          by_cases c : z = 0
          · subst c; intro hb; exact bef_asym hb hb
          · exact bef_asym (hs 0 z (by omega) (by omega))
        have b1 : ¬ bef X Y (hg H 1) q := by
          rw [p7 h2', ← e]
          by_cases c : z = k + 1
          · subst c; intro hb; exact bef_asym hb hb
          · exact bef_asym (hs z (k + 1) (by omega) (by omega))
        rw [← opp (by unfold trn at ez; grind)]
        generalize hg H 0 = a at *
        generalize hg H 1 = b at *
        have hab : ¬ bef X Y b a := by
          intro hh
          rcases bef_tri X Y q a with w | w | w
          · exact b0 w
          · unfold bef sam at *; omega
          · exact b1 (bef_trans hh w)
        unfold bef at b0 b1 hab
        have x0 : X a * 1 - X q ≤ 0 := by omega
        have x1 : 0 ≤ X b * 1 - X q := by omega
        refine ⟨mnp x0 x1, ?_⟩
        by_cases w : X a = X b
        · have y0 : Y a * 1 - Y q ≤ 0 := by omega
          have y1 : 0 ≤ Y b * 1 - Y q := by omega
          exact mnp y0 y1
        · have hw : 0 < X b - X a := by omega
          have e1 : (X b - X a) * (Y q - Y a) = (Y b - Y a) * (X q - X a) := by unfold trn at ez; omega
          have e2 : (X b - X a) * (Y b - Y q) = (Y b - Y a) * (X b - X q) := by unfold trn at ez; grind
          have e3 : ((X b - X a) * (X b - X a)) * ((Y a * 1 - Y q) * (Y b * 1 - Y q)) = - (((Y b - Y a) * (Y b - Y a)) * ((X q - X a) * (X b - X q))) := by
            have : ((X b - X a) * (X b - X a)) * ((Y a * 1 - Y q) * (Y b * 1 - Y q)) = - (((X b - X a) * (Y q - Y a)) * ((X b - X a) * (Y b - Y q))) := by grind
            rw [this, e1, e2]; grind
          refine div_le (Int.mul_pos hw hw) ?_
          rw [e3]
          have := Int.mul_nonneg (sqn (Y b - Y a)) (Int.mul_nonneg (show 0 ≤ X q - X a by omega) (show 0 ≤ X b - X q by omega))
          omega
    · have hm := hg_mem hi
      obtain ⟨z, hz, e⟩ := p1 _ hm
      have := hrg z (by omega)
      exact ⟨hg H i, by rw [e]; exact (q1 _ this).1, by rw [e]; exact (q1 _ this).2, rfl, rfl⟩
