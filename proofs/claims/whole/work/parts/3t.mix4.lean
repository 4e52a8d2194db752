--@ needs 3s.mix3
theorem nosame {X Y : Nat → Int} {p q : Int} {a b : Nat} (h : prC X Y p q a b) : ¬ atC X Y p q a ∧ ¬ atC X Y p q b := by
  constructor
  · rintro ⟨e1, e2⟩
    have := h.2
    rw [show X a - p = 0 by omega, show Y a - q = 0 by omega] at this
    omega
  · rintro ⟨e1, e2⟩
    have := h.2
    rw [show X b - p = 0 by omega, show Y b - q = 0 by omega] at this
    omega
def vPa (X Y : Nat → Int) (p q : Int) (a b : Nat) : Int := (X b - p) * (X b - p) + (Y b - q) * (Y b - q) - ((X a - p) * (X b - p) + (Y a - q) * (Y b - q))
def vPb (X Y : Nat → Int) (p q : Int) (a b : Nat) : Int := (X a - p) * (X a - p) + (Y a - q) * (Y a - q) - ((X a - p) * (X b - p) + (Y a - q) * (Y b - q))
theorem pr_par {n : Nat} {x y : Nat → Int32} {X Y : Nat → Int} (h : Pts n x y X Y) {p q : Int} (hp : -20 ≤ p ∧ p ≤ 20) (hq : -20 ≤ q ∧ q ≤ 20) {a b : Nat} (ha : a < n) (hb : b < n) (w : prC X Y p q a b) : (0 < vPa X Y p q a b ∧ vPa X Y p q a b ≤ 20000) ∧ (0 < vPb X Y p q a b ∧ vPb X Y p q a b ≤ 20000) ∧ (0 < l1n X Y p q a ∧ l1n X Y p q a ≤ 80) ∧ (0 < l1n X Y p q b ∧ l1n X Y p q b ≤ 80) ∧ l1n X Y p q b * vPb X Y p q a b = l1n X Y p q a * vPa X Y p q a b := by
  have oa := off_bd h hp hq ha
  have ob := off_bd h hp hq hb
  have dab := (cd_bd oa ob).2
  have daa := (cd_bd oa oa).2
  have dbb := (cd_bd ob ob).2
  have pp := pair_prop w.1 w.2
  obtain ⟨na, nb⟩ := nosame w
  have w2 := w.2
  have s1 := sqn (X a - p)
  have s2 := sqn (Y a - q)
  have s3' := sqn (X b - p)
  have s4 := sqn (Y b - q)
  unfold dts off at dab daa dbb
  unfold off at oa ob
  unfold atC at na nb
  unfold vPa vPb l1n
  refine ⟨⟨by omega, by omega⟩, ⟨by omega, by omega⟩, ⟨by omega, by omega⟩, ⟨by omega, by omega⟩, pp⟩
/-- the pair's end -/
theorem pr_end (K : Nat) (hK : 4000 ≤ K) {n : Nat} {x y : Nat → Int32} {X Y : Nat → Int} (h : Pts n x y X Y) {p q : Int} (hp : -20 ≤ p ∧ p ≤ 20) (hq : -20 ≤ q ∧ q ≤ 20) {m : Nat → Nat} (hm : ∀ i, i < 3 → m i < n) {i j : Nat} (hi : i < 3) (hj : j < 3) (hij : i ≠ j) (w : prC X Y p q (m i) (m j)) {arr arr' : Nat → Int64} (h0 : ∀ k, k < 4 → arr k = 0) (s : spc X Y p q m i j arr arr') {brr brr' : Nat → Int64} (b0 : ∀ k, k < 3 → brr k = 0) (b1 : brr' i = jJ (vPa X Y p q (m i) (m j))) (b2 : brr' j = jJ (vPb X Y p q (m i) (m j))) (b3 : ∀ k, k ≠ i → k ≠ j → brr' k = brr k) {k : Nat} (hk : k < 4) (rm : Int32) (cor cors row trio : Nat → Int32) : ∃ z arr2 brr2, mxE K arr' = some (1, arr2) ∧ arr2 k = z ∧ mxF K (nI k) rm cor cors row trio brr' = some (z, rm, cor, cors, row, brr2, trio) := by
  obtain ⟨p1, p2, p3, p4, p5⟩ := pr_par h hp hq (hm i hi) (hm j hj) w
  obtain ⟨t1, t2⟩ := par2 hi hj hij (a := l1n X Y p q (m j)) (b := l1n X Y p q (m i)) p1.1 p2.1 p5
  have three : ∀ i, i < 3 → i = 0 ∨ i = 1 ∨ i = 2 := fun i hi => by omega
  have hs3 : s3 (ini i j (l1n X Y p q (m j)) (l1n X Y p q (m i))) 3 = l1n X Y p q (m j) + l1n X Y p q (m i) := by
    show ini i j _ _ 0 + ini i j _ _ 1 + ini i j _ _ 2 = _
    unfold ini
    rcases three i hi with rfl | rfl | rfl <;> rcases three j hj with rfl | rfl | rfl <;> first | omega | (simp; try omega)
  have ea : ∀ k, k < 4 → arr' k = jJ (s3 (ini i j (l1n X Y p q (m j)) (l1n X Y p q (m i))) k) := by
    intro k hk
    by_cases e3 : k = 3
    · rw [e3, s.2.2.1, hs3]
    · have es : s3 (ini i j (l1n X Y p q (m j)) (l1n X Y p q (m i))) k = ini i j (l1n X Y p q (m j)) (l1n X Y p q (m i)) k := by unfold s3; rw [if_neg e3]
      rw [es]
      unfold ini
      by_cases ei : k = i
      · rw [if_pos ei, ei]; exact s.1
      · rw [if_neg ei]
        by_cases ej : k = j
        · rw [if_pos ej, ej]; exact s.2.1
        · rw [if_neg ej, s.2.2.2 k ei ej e3, h0 k hk]; rfl
  have ub : ∀ k, k < 4 → -100000 ≤ s3 (ini i j (l1n X Y p q (m j)) (l1n X Y p q (m i))) k ∧ s3 (ini i j (l1n X Y p q (m j)) (l1n X Y p q (m i))) k ≤ 100000 := by
    intro k hk
    by_cases e3 : k = 3
    · rw [e3, hs3]; omega
    · have es : s3 (ini i j (l1n X Y p q (m j)) (l1n X Y p q (m i))) k = ini i j (l1n X Y p q (m j)) (l1n X Y p q (m i)) k := by unfold s3; rw [if_neg e3]
      rw [es]
      unfold ini
      split
      · omega
      · split <;> omega
  obtain ⟨q1, q2⟩ := par_norm (sz := 4) (by omega) p1.1 (by omega) t2 t1
  obtain ⟨arr2, f1, f2⟩ := mxE_ok K hK ea ub q1
  have vb : ∀ k, k < 3 → brr' k = jJ (ini i j (vPa X Y p q (m i) (m j)) (vPb X Y p q (m i) (m j)) k) := by
    intro k hk
    unfold ini
    by_cases ei : k = i
    · rw [if_pos ei, ei]; exact b1
    · rw [if_neg ei]
      by_cases ej : k = j
      · rw [if_pos ej, ej]; exact b2
      · rw [if_neg ej, b3 k ei ej, b0 k hk]; rfl
  obtain ⟨c1, g1⟩ := mxF_ok K hK hk rm cor cors row trio vb (fun k hk => by
    unfold ini
    split
    · omega
    · split <;> omega) t1
  exact ⟨_, arr2, c1, f1, rfl, by rw [g1, f2 k hk, q2 k hk]⟩
theorem one_end (K : Nat) (hK : 4000 ≤ K) {c : Nat} (hc : c < 3) {arr' : Nat → Int64} (h1 : ∀ k, k < 4 → arr' k = jJ (s3 (e1v c) k)) {brr' : Nat → Int64} (b1 : ∀ k, k < 3 → brr' k = jJ (e1v c k)) {k : Nat} (hk : k < 4) (rm : Int32) (cor cors row trio : Nat → Int32) : ∃ z arr2 brr2, mxE K arr' = some (1, arr2) ∧ arr2 k = z ∧ mxF K (nI k) rm cor cors row trio brr' = some (z, rm, cor, cors, row, brr2, trio) := by
  obtain ⟨t1, t2⟩ := par1 hc
  have eb : ∀ k, 0 ≤ e1v c k ∧ e1v c k ≤ 1 := fun k => by unfold e1v; split <;> omega
  have ub : ∀ k, k < 4 → -100000 ≤ s3 (e1v c) k ∧ s3 (e1v c) k ≤ 100000 := by
    intro k hk
    have := eb 0
    have := eb 1
    have := eb 2
    have := eb k
    unfold s3
    split <;> omega
  obtain ⟨q1, q2⟩ := par_norm (sz := 4) (by omega) (show (0 : Int) < 1 by omega) (show (1 : Int) ≠ 0 by omega) t2 t1
  obtain ⟨arr2, f1, f2⟩ := mxE_ok K hK h1 ub q1
  obtain ⟨c1, g1⟩ := mxF_ok K hK hk rm cor cors row trio b1 (fun k hk => by have := eb k; omega) t1
  exact ⟨_, arr2, c1, f1, rfl, by rw [g1, f2 k hk, q2 k hk]⟩
def cr3 (X Y : Nat → Int) (p q : Int) (m : Nat → Nat) (k : Nat) : Int := if k = 0 then (X (m 1) - p) * (Y (m 2) - q) - (Y (m 1) - q) * (X (m 2) - p) else if k = 1 then (X (m 2) - p) * (Y (m 0) - q) - (Y (m 2) - q) * (X (m 0) - p) else (X (m 0) - p) * (Y (m 1) - q) - (Y (m 0) - q) * (X (m 1) - p)
def ab3 (X Y : Nat → Int) (p q : Int) (m : Nat → Nat) (k : Nat) : Int := ((cr3 X Y p q m k).natAbs : Int)
theorem three_par {X Y : Nat → Int} {p q : Int} {m : Nat → Nat} (z : ∀ j, j < 3 → ¬ atC X Y p q (m j)) (n01 : ¬ prC X Y p q (m 0) (m 1)) (n02 : ¬ prC X Y p q (m 0) (m 2)) (n12 : ¬ prC X Y p q (m 1) (m 2)) (ht : tHb (X (m 0) - p) (Y (m 0) - q) (X (m 1) - p) (Y (m 1) - q) (X (m 2) - p) (Y (m 2) - q) = true) : ∃ Q : Int, Q ≠ 0 ∧ 0 < s3 (ab3 X Y p q m) 3 ∧ ∀ k, k < 4 → s3 (cr3 X Y p q m) k * 1 = Q * s3 (ab3 X Y p q m) k := by
  have z0 := z 0 (by omega)
  have z1 := z 1 (by omega)
  have z2 := z 2 (by omega)
  have nd : ∀ {a b : Nat}, ¬ atC X Y p q a → ¬ atC X Y p q b → ¬ prC X Y p q a b → (X a - p) * (Y b - q) - (Y a - q) * (X b - p) = 0 → ¬ ((X a - p) * (X b - p) + (Y a - q) * (Y b - q) ≤ 0) := by
    intro a b ha hb hn hc hd
    have ha' : ¬ (X a - p = 0 ∧ Y a - q = 0) := fun s => ha ⟨by omega, by omega⟩
    have hb' : ¬ (X b - p = 0 ∧ Y b - q = 0) := fun s => hb ⟨by omega, by omega⟩
    have haa := ssqp ha'
    have hbb := ssqp hb'
    have kp := Int.mul_pos haa hbb
    have kk : ((X a - p) * (X a - p) + (Y a - q) * (Y a - q)) * ((X b - p) * (X b - p) + (Y b - q) * (Y b - q)) = ((X a - p) * (X b - p) + (Y a - q) * (Y b - q)) * ((X a - p) * (X b - p) + (Y a - q) * (Y b - q)) + ((X a - p) * (Y b - q) - (Y a - q) * (X b - p)) * ((X a - p) * (Y b - q) - (Y a - q) * (X b - p)) := by grind
    rw [kk, hc] at kp
    have : (X a - p) * (X b - p) + (Y a - q) * (Y b - q) ≠ 0 := fun s => by rw [s] at kp; omega
    exact hn ⟨hc, by omega⟩
  unfold tHb at ht
  have c0 : cr3 X Y p q m 0 = (X (m 1) - p) * (Y (m 2) - q) - (Y (m 1) - q) * (X (m 2) - p) := rfl
  have c1 : cr3 X Y p q m 1 = (X (m 2) - p) * (Y (m 0) - q) - (Y (m 2) - q) * (X (m 0) - p) := rfl
  have c2 : cr3 X Y p q m 2 = (X (m 0) - p) * (Y (m 1) - q) - (Y (m 0) - q) * (X (m 1) - p) := rfl
  have four : ∀ k, k < 4 → k = 0 ∨ k = 1 ∨ k = 2 ∨ k = 3 := fun k hk => by omega
  have s33 : ∀ f : Nat → Int, s3 f 3 = f 0 + f 1 + f 2 := fun f => rfl
  have s30 : ∀ f : Nat → Int, s3 f 0 = f 0 := fun f => rfl
  have s31 : ∀ f : Nat → Int, s3 f 1 = f 1 := fun f => rfl
  have s32' : ∀ f : Nat → Int, s3 f 2 = f 2 := fun f => rfl
  have a0 : ab3 X Y p q m 0 = ((cr3 X Y p q m 0).natAbs : Int) := rfl
  have a1 : ab3 X Y p q m 1 = ((cr3 X Y p q m 1).natAbs : Int) := rfl
  have a2 : ab3 X Y p q m 2 = ((cr3 X Y p q m 2).natAbs : Int) := rfl
  rcases of_decide_eq_true ht with ⟨h1, h2, h3, h4⟩ | ⟨h1, h2⟩
  · exfalso
    rcases h4 with h4 | h4 | h4
    · exact nd z0 z1 n01 h1 h4
    · exact nd z1 z2 n12 h2 h4
    · refine nd z0 z2 n02 ?_ ?_
      · rw [show (X (m 0) - p) * (Y (m 2) - q) - (Y (m 0) - q) * (X (m 2) - p) = -((X (m 2) - p) * (Y (m 0) - q) - (Y (m 2) - q) * (X (m 0) - p)) by grind, h3]; rfl
      · rw [show (X (m 0) - p) * (X (m 2) - p) + (Y (m 0) - q) * (Y (m 2) - q) = (X (m 2) - p) * (X (m 0) - p) + (Y (m 2) - q) * (Y (m 0) - q) by grind]; exact h4
  · rw [← c0, ← c1, ← c2] at h1 h2
    rcases h2 with ⟨h2, h3, h4⟩ | ⟨h2, h3, h4⟩
    · refine ⟨1, by omega, by rw [s33, a0, a1, a2]; omega, fun k hk => ?_⟩
      rcases four k hk with rfl | rfl | rfl | rfl
      · rw [s30, s30, a0]; omega
      · rw [s31, s31, a1]; omega
      · rw [s32', s32', a2]; omega
      · rw [s33, s33, a0, a1, a2]; omega
    · refine ⟨-1, by omega, by rw [s33, a0, a1, a2]; omega, fun k hk => ?_⟩
      rcases four k hk with rfl | rfl | rfl | rfl
      · rw [s30, s30, a0]; omega
      · rw [s31, s31, a1]; omega
      · rw [s32', s32', a2]; omega
      · rw [s33, s33, a0, a1, a2]; omega
theorem cr3_bd {n : Nat} {x y : Nat → Int32} {X Y : Nat → Int} (h : Pts n x y X Y) {p q : Int} (hp : -20 ≤ p ∧ p ≤ 20) (hq : -20 ≤ q ∧ q ≤ 20) {m : Nat → Nat} (hm : ∀ i, i < 3 → m i < n) : ∀ k, -3200 ≤ cr3 X Y p q m k ∧ cr3 X Y p q m k ≤ 3200 := by
  have o0 := off_bd h hp hq (hm 0 (by omega))
  have o1 := off_bd h hp hq (hm 1 (by omega))
  have o2 := off_bd h hp hq (hm 2 (by omega))
  have a := (cd_bd o1 o2).1
  have b := (cd_bd o2 o0).1
  have c := (cd_bd o0 o1).1
  unfold crs off at a b c
  intro k
  unfold cr3
  split
  · exact a
  · split
    · exact b
    · exact c
theorem thrC (K : Nat) {n : Nat} {x y : Nat → Int32} {X Y : Nat → Int} (h : Pts n x y X Y) {ch : Nat → Int32} {m : Nat → Nat} (hm : ∀ i, i < 3 → ch i = nI (m i) ∧ m i < n) {p q : Int} (hp : -20 ≤ p ∧ p ≤ 20) (hq : -20 ≤ q ∧ q ≤ 20) (arr : Nat → Int64) : ∃ arr', fX7_mixThree K ch arr (iI p) (iI q) x y = some arr' ∧ ∀ k, k < 4 → arr' k = jJ (s3 (cr3 X Y p q m) k) := by
  have hn := h.1
  obtain ⟨a1, a2⟩ := hm 0 (by omega)
  obtain ⟨b1', b2'⟩ := hm 1 (by omega)
  obtain ⟨c1, c2⟩ := hm 2 (by omega)
  obtain ⟨e1, e2, -⟩ := h.2 (m 0) a2
  obtain ⟨f1, f2, -⟩ := h.2 (m 1) b2'
  obtain ⟨g1, g2, -⟩ := h.2 (m 2) c2
  have o0 := off_bd h hp hq a2
  have o1 := off_bd h hp hq b2'
  have o2 := off_bd h hp hq c2
  unfold off at o0 o1 o2
  unfold fX7_mixThree fX11_cross
  simp only [show (0 : Int32).toNatClampNeg = 0 from rfl, show (1 : Int32).toNatClampNeg = 1 from rfl, show (2 : Int32).toNatClampNeg = 2 from rfl, show (3 : Int32).toNatClampNeg = 3 from rfl, a1, b1', c1, gd_t (inb_nI (show m 0 < 24 by omega) (by decide)), gd_t (inb_nI (show m 1 < 24 by omega) (by decide)), gd_t (inb_nI (show m 2 < 24 by omega) (by decide)), nI_clamp (show m 0 < 2 ^ 31 by omega), nI_clamp (show m 1 < 2 ^ 31 by omega), nI_clamp (show m 2 < 2 ^ 31 by omega), e1, e2, f1, f2, g1, g2, xl_e, iI_sub, iI_long (show s32 (X (m 0) - p) from ⟨by omega, by omega⟩), iI_long (show s32 (Y (m 0) - q) from ⟨by omega, by omega⟩), iI_long (show s32 (X (m 1) - p) from ⟨by omega, by omega⟩), iI_long (show s32 (Y (m 1) - q) from ⟨by omega, by omega⟩), iI_long (show s32 (X (m 2) - p) from ⟨by omega, by omega⟩), iI_long (show s32 (Y (m 2) - q) from ⟨by omega, by omega⟩), jJ_mul, jJ_sub, sm_b1]
  refine ⟨_, rfl, fun k hk => ?_⟩
  have : k = 0 ∨ k = 1 ∨ k = 2 ∨ k = 3 := by omega
  rcases this with rfl | rfl | rfl | rfl
  · rw [updL_ne (by omega), updL_ne (by omega), updL_ne (by omega), updL_at]; rfl
  · rw [updL_ne (by omega), updL_ne (by omega), updL_at]; rfl
  · rw [updL_ne (by omega), updL_at]; rfl
  · rw [updL_at, updL_at]
    rw [show vp_updL (vp_updL (vp_updL arr 0 (jJ ((X (m 1) - p) * (Y (m 2) - q) - (Y (m 1) - q) * (X (m 2) - p)))) 1 (jJ ((X (m 2) - p) * (Y (m 0) - q) - (Y (m 2) - q) * (X (m 0) - p)))) 2 (jJ ((X (m 0) - p) * (Y (m 1) - q) - (Y (m 0) - q) * (X (m 1) - p))) 0 = jJ ((X (m 1) - p) * (Y (m 2) - q) - (Y (m 1) - q) * (X (m 2) - p)) by rw [updL_ne (by omega), updL_ne (by omega), updL_at]]
    rw [show vp_updL (vp_updL (vp_updL arr 0 (jJ ((X (m 1) - p) * (Y (m 2) - q) - (Y (m 1) - q) * (X (m 2) - p)))) 1 (jJ ((X (m 2) - p) * (Y (m 0) - q) - (Y (m 2) - q) * (X (m 0) - p)))) 2 (jJ ((X (m 0) - p) * (Y (m 1) - q) - (Y (m 0) - q) * (X (m 1) - p))) 1 = jJ ((X (m 2) - p) * (Y (m 0) - q) - (Y (m 2) - q) * (X (m 0) - p)) by rw [updL_ne (by omega), updL_at]]
    rw [jJ_add, jJ_add]
    rfl
theorem tnA (K : Nat) {n : Nat} {px py : Nat → Int32} {X Y : Nat → Int} (h : Pts n px py X Y) {p q : Int} (hp : -20 ≤ p ∧ p ≤ 20) (hq : -20 ≤ q ∧ q ≤ 20) {a b : Nat} (ha : a < n) (hb : b < n) : fX12_turnAt K (iI p) (iI q) px py (nI a) (nI b) = some (jJ ((X a - p) * (Y b - q) - (Y a - q) * (X b - p))) := by
  have hn := h.1
  obtain ⟨e1, e2, -⟩ := h.2 a ha
  obtain ⟨f1, f2, -⟩ := h.2 b hb
  have o0 := off_bd h hp hq ha
  have o1 := off_bd h hp hq hb
  unfold off at o0 o1
  unfold fX12_turnAt
  simp only [gd_t (inb_nI (show a < 24 by omega) (by decide)), gd_t (inb_nI (show b < 24 by omega) (by decide)), nI_clamp (show a < 2 ^ 31 by omega), nI_clamp (show b < 2 ^ 31 by omega), e1, e2, f1, f2, iI_sub, iI_long (show s32 (X a - p) from ⟨by omega, by omega⟩), iI_long (show s32 (Y a - q) from ⟨by omega, by omega⟩), iI_long (show s32 (X b - p) from ⟨by omega, by omega⟩), iI_long (show s32 (Y b - q) from ⟨by omega, by omega⟩), jJ_mul, jJ_sub]
theorem thrM (K : Nat) {n : Nat} {px py : Nat → Int32} {X Y : Nat → Int} (h : Pts n px py X Y) {ch : Nat → Int32} {m : Nat → Nat} (hm : ∀ i, i < 3 → ch i = nI (m i) ∧ m i < n) {p q : Int} (hp : -20 ≤ p ∧ p ≤ 20) (hq : -20 ≤ q ∧ q ≤ 20) (arr : Nat → Int64) : ∃ arr', fX12_mixesAll K (iI p) (iI q) px py arr ch = some arr' ∧ ∀ k, k < 3 → arr' k = jJ (ab3 X Y p q m k) := by
  obtain ⟨a1, a2⟩ := hm 0 (by omega)
  obtain ⟨b1', b2'⟩ := hm 1 (by omega)
  obtain ⟨c1, c2⟩ := hm 2 (by omega)
  have o0 := off_bd h hp hq a2
  have o1 := off_bd h hp hq b2'
  have o2 := off_bd h hp hq c2
  have x12 := (cd_bd o1 o2).1
  have x02 := (cd_bd o0 o2).1
  have x01 := (cd_bd o0 o1).1
  unfold crs off at x12 x02 x01
  unfold fX12_mixesAll
  rw [show (0 : Int32).toNatClampNeg = 0 from rfl, show (1 : Int32).toNatClampNeg = 1 from rfl, show (2 : Int32).toNatClampNeg = 2 from rfl, a1, b1', c1, tnA K h hp hq b2' c2, sm_b1, tnA K h hp hq a2 c2, tnA K h hp hq a2 b2', jabsl_jJ (by omega) (by omega)]
  simp only [xl_e, sm_b1]
  rw [jabsl_jJ (by omega) (by omega), jabsl_jJ (by omega) (by omega)]
  refine ⟨_, rfl, fun k hk => ?_⟩
  have : k = 0 ∨ k = 1 ∨ k = 2 := by omega
  rcases this with rfl | rfl | rfl
  · rw [updL_ne (by omega), updL_ne (by omega), updL_at]; rfl
  · rw [updL_ne (by omega), updL_at]
    have e : (X (m 0) - p) * (Y (m 2) - q) - (Y (m 0) - q) * (X (m 2) - p) = -((X (m 2) - p) * (Y (m 0) - q) - (Y (m 2) - q) * (X (m 0) - p)) := by grind
    rw [e, Int.natAbs_neg]; rfl
  · rw [updL_at]; rfl
theorem thr_end (K : Nat) (hK : 4000 ≤ K) {n : Nat} {x y : Nat → Int32} {X Y : Nat → Int} (h : Pts n x y X Y) {p q : Int} (hp : -20 ≤ p ∧ p ≤ 20) (hq : -20 ≤ q ∧ q ≤ 20) {m : Nat → Nat} (hm : ∀ i, i < 3 → m i < n) {Q : Int} (hQ : Q ≠ 0) (t1 : 0 < s3 (ab3 X Y p q m) 3) (t2 : ∀ k, k < 4 → s3 (cr3 X Y p q m) k * 1 = Q * s3 (ab3 X Y p q m) k) {arr' : Nat → Int64} (h1 : ∀ k, k < 4 → arr' k = jJ (s3 (cr3 X Y p q m) k)) {brr' : Nat → Int64} (b1 : ∀ k, k < 3 → brr' k = jJ (ab3 X Y p q m k)) {k : Nat} (hk : k < 4) (rm : Int32) (cor cors row trio : Nat → Int32) : ∃ z arr2 brr2, mxE K arr' = some (1, arr2) ∧ arr2 k = z ∧ mxF K (nI k) rm cor cors row trio brr' = some (z, rm, cor, cors, row, brr2, trio) := by
  have cb := cr3_bd h hp hq hm
  have ub : ∀ k, k < 4 → -100000 ≤ s3 (cr3 X Y p q m) k ∧ s3 (cr3 X Y p q m) k ≤ 100000 := by
    intro k hk
    have := cb 0
    have := cb 1
    have := cb 2
    have := cb k
    unfold s3
    split <;> omega
  obtain ⟨q1, q2⟩ := par_norm (sz := 4) (by omega) (show (0 : Int) < 1 by omega) hQ t2 t1
  obtain ⟨arr2, f1, f2⟩ := mxE_ok K hK h1 ub q1
  obtain ⟨c1, g1⟩ := mxF_ok K hK hk rm cor cors row trio b1 (fun k hk => by have := cb k; unfold ab3; omega) t1
  exact ⟨_, arr2, c1, f1, rfl, by rw [g1, f2 k hk, q2 k hk]⟩
