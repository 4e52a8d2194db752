--@ needs 3zi.parts
/-! two hulls apart: the shortest way -/
def noX (ax ay bx b_y cx cy dx dy : Int) : Prop := ¬ (lw ax ay bx b_y cx cy dx dy ≠ 0 ∧ 0 ≤ na ax ay bx b_y cx cy dx dy ∧ na ax ay bx b_y cx cy dx dy ≤ nl ax ay bx b_y cx cy dx dy ∧ 0 ≤ ns ax ay bx b_y cx cy dx dy ∧ ns ax ay bx b_y cx cy dx dy ≤ nl ax ay bx b_y cx cy dx dy)
theorem noX_rev1 {ax ay bx b_y cx cy dx dy : Int} (h : noX ax ay bx b_y cx cy dx dy) : noX bx b_y ax ay cx cy dx dy := by
  intro ⟨h1, h2, h3, h4, h5⟩
  have e1 : lw bx b_y ax ay cx cy dx dy = -lw ax ay bx b_y cx cy dx dy := by unfold lw; grind
  have e2 : al bx b_y ax ay cx cy dx dy = al ax ay bx b_y cx cy dx dy - lw ax ay bx b_y cx cy dx dy := by unfold lw al; grind
  have e3 : ss bx b_y ax ay cx cy dx dy = -ss ax ay bx b_y cx cy dx dy := by unfold ss; grind
  apply h
  unfold na ns nl sg at *
  rw [e1] at h1
  rw [e1, e2] at h2 h3
  rw [e1, e3] at h4 h5
  generalize lw ax ay bx b_y cx cy dx dy = l at *
  generalize al ax ay bx b_y cx cy dx dy = a at *
  generalize ss ax ay bx b_y cx cy dx dy = s at *
  by_cases c : l < 0
  · rw [if_neg (by omega)] at h2 h3 h4 h5
    rw [if_neg (by omega)] at h3 h5
    rw [if_pos c, if_pos c, if_pos c]
    omega
  · rw [if_pos (by omega)] at h2 h3 h4 h5
    rw [if_pos (by omega)] at h3 h5
    rw [if_neg c, if_neg c, if_neg c]
    omega
theorem noX_sw {ax ay bx b_y cx cy dx dy : Int} (h : noX ax ay bx b_y cx cy dx dy) : noX cx cy dx dy ax ay bx b_y := by
  intro ⟨h1, h2, h3, h4, h5⟩
  have e1 : lw cx cy dx dy ax ay bx b_y = -lw ax ay bx b_y cx cy dx dy := by unfold lw; grind
  have e2 : al cx cy dx dy ax ay bx b_y = -ss ax ay bx b_y cx cy dx dy := by unfold al ss; grind
  have e3 : ss cx cy dx dy ax ay bx b_y = -al ax ay bx b_y cx cy dx dy := by unfold al ss; grind
  apply h
  unfold na ns nl sg at *
  rw [e1] at h1
  rw [e1, e2] at h2 h3
  rw [e1, e3] at h4 h5
  generalize lw ax ay bx b_y cx cy dx dy = l at *
  generalize al ax ay bx b_y cx cy dx dy = a at *
  generalize ss ax ay bx b_y cx cy dx dy = s at *
  by_cases c : l < 0
  · rw [if_neg (by omega)] at h2 h3 h4 h5
    rw [if_neg (by omega)] at h3 h5
    rw [if_pos c, if_pos c, if_pos c]
    omega
  · rw [if_pos (by omega)] at h2 h3 h4 h5
    rw [if_pos (by omega)] at h3 h5
    rw [if_neg c, if_neg c, if_neg c]
    omega
theorem seg_end {px py ax ay bx b_y : Int} (h : ∀ P Q L : Int, 1 ≤ L → cvx2 px py ax ay P Q L → d2 px py bx b_y 1 * (L * L) ≤ d2 bx b_y P Q L * (1 * 1)) : (ax - px) * (bx - px * 1) + (ay - py) * (b_y - py * 1) ≤ 0 := by
  obtain ⟨n1, n2, n3, n4⟩ := nS_ok px py ax ay bx b_y
  generalize nS px py ax ay bx b_y = R at *
  obtain ⟨P, Q, L⟩ := R
  dsimp only at *
  have h1 := h P Q L n1 n2
  obtain ⟨-, u2⟩ := near_uniq n3 n4 (show cvx2 px py ax ay px py 1 from ⟨1, 0, by omega, by omega, rfl, by omega, by omega⟩) (by decide)
  have e : d2 bx b_y px py 1 = d2 px py bx b_y 1 := by unfold d2; grind
  rw [e] at u2
  obtain ⟨g1, g2⟩ := u2 h1
  unfold hpt at n4
  rw [Int.mul_one] at g1 g2
  have k : L * L * ((ax - px) * (bx - px * 1) + (ay - py) * (b_y - py * 1)) = -((ax * L - P) * (P - bx * L) + (ay * L - Q) * (Q - b_y * L)) := by rw [← g1, ← g2]; grind
  exact div_le (a := L * L) (Int.mul_pos (by omega) (by omega)) (by omega)
theorem ar_fin {c0 g N D : Int} (hN : 0 < N) (hD : N * (g * g) ≤ D * (c0 * g)) (hcg : 0 < c0 * g) (hD0 : 0 < D) (h : c0 * D * (c0 * D) ≤ (c0 * D - N * g) * (c0 * D - N * g)) : False := by
  have e : (c0 * D - N * g) * (c0 * D - N * g) = c0 * D * (c0 * D) - N * (2 * (D * (c0 * g)) - N * (g * g)) := by grind
  have k1 := Int.mul_pos hD0 hcg
  have k2 := Int.mul_pos hN (show 0 < 2 * (D * (c0 * g)) - N * (g * g) by omega)
  omega
theorem ar_out {f k g c0 q x : Int} (hf : 0 < f) (hx : f * x = k * g + c0 * q) (hout : x * g < 0 ∨ g * g < x * g) : (k * (g * g) < (-q) * (c0 * g)) ∨ ((f - k) * (g * g) < q * (c0 * g)) := by
  have e : f * (x * g) = k * (g * g) + q * (c0 * g) := by
    have : f * (x * g) = f * x * g := by grind
    rw [this, hx]; grind
  rcases hout with h | h
  · left
    have := mpn' hf h
    have e2 : (-q) * (c0 * g) = -(q * (c0 * g)) := by grind
    omega
  · right
    have := Int.mul_lt_mul_of_pos_left h hf
    have e2 : (f - k) * (g * g) = f * (g * g) - k * (g * g) := by grind
    omega
/-- of a corner, and the nearest place of an edge of the other hull: the next corner is not that way -/
theorem seg_loc {px py ax ay bx b_y cx c_y : Int} (hx : noX px py ax ay bx b_y cx c_y)
    (h1 : ∀ P Q L : Int, 1 ≤ L → cvx2 px py ax ay P Q L → D3 px py (nS bx b_y cx c_y px py) * (L * L) ≤ d2 bx b_y P Q L * ((nS bx b_y cx c_y px py).2.2 * (nS bx b_y cx c_y px py).2.2))
    (h2 : ∀ P Q L : Int, 1 ≤ L → cvx2 px py ax ay P Q L → D3 px py (nS bx b_y cx c_y px py) * (L * L) ≤ d2 cx c_y P Q L * ((nS bx b_y cx c_y px py).2.2 * (nS bx b_y cx c_y px py).2.2))
    (h3 : ∀ P Q L : Int, 1 ≤ L → cvx2 bx b_y cx c_y P Q L → D3 px py (nS bx b_y cx c_y px py) * (L * L) ≤ d2 ax ay P Q L * ((nS bx b_y cx c_y px py).2.2 * (nS bx b_y cx c_y px py).2.2)) :
    (ax - px) * ((nS bx b_y cx c_y px py).1 - px * (nS bx b_y cx c_y px py).2.2) + (ay - py) * ((nS bx b_y cx c_y px py).2.1 - py * (nS bx b_y cx c_y px py).2.2) ≤ 0 := by
  rcases nS_cases bx b_y cx c_y px py with ⟨c1, e⟩ | ⟨c1, c2, e⟩ | ⟨c1, c2, e⟩
  · rw [e] at h1 ⊢
    exact seg_end h1
  · rw [e] at h2 ⊢
    exact seg_end h2
  · rw [e] at h1 h2 h3 ⊢
    dsimp only [D3] at h1 h2 h3 ⊢
    apply Classical.byContradiction
    intro hn
    -- in the frame of p and the edge
    generalize hex : cx - bx = ex at *
    generalize hey : c_y - b_y = ey at *
    have ecx : cx = bx + ex := by omega
    have ecy : c_y = b_y + ey := by omega
    subst ecx ecy
    generalize hux : bx - px = ux at *
    generalize huy : b_y - py = uy at *
    have ebx : bx = px + ux := by omega
    have eby : b_y = py + uy := by omega
    subst ebx eby
    generalize hwx : ax - px = wx at *
    generalize hwy : ay - py = wy at *
    have eax : ax = px + wx := by omega
    have eay : ay = py + wy := by omega
    subst eax eay
    have fe : ∃ f, f = ex * ex + ey * ey := ⟨_, rfl⟩
    obtain ⟨f, hf⟩ := fe
    obtain ⟨k, hk⟩ : ∃ k, k = ex * (px - (px + ux)) + ey * (py - (py + uy)) := ⟨_, rfl⟩
    rw [← hk] at c1
    rw [← hf, ← hk] at c2 h1 h2 h3 hn
    have hk2 : k = -(ex * ux + ey * uy) := by rw [hk]; grind
    obtain ⟨c0, hc0⟩ : ∃ c0, c0 = ex * uy - ey * ux := ⟨_, rfl⟩
    obtain ⟨g, hg⟩ : ∃ g, g = ex * wy - ey * wx := ⟨_, rfl⟩
    obtain ⟨q, hq⟩ : ∃ q, q = ex * wx + ey * wy := ⟨_, rfl⟩
    have hf0 : 0 < f := by omega
    have hvx : (px + ux) * f + k * ex - px * f = c0 * (-ey) := by rw [hf, hk2, hc0]; grind
    have hvy : (py + uy) * f + k * ey - py * f = c0 * ex := by rw [hf, hk2, hc0]; grind
    have hd : d2 px py ((px + ux) * f + k * ex) ((py + uy) * f + k * ey) f = c0 * c0 * f := by
      unfold d2; rw [hvx, hvy, hf]; grind
    rw [hvx, hvy] at hn
    have hcg : 0 < c0 * g := by
      have : wx * (c0 * -ey) + wy * (c0 * ex) = c0 * g := by rw [hg]; grind
      omega
    have hgg : 0 < g * g := by
      rcases Int.lt_trichotomy g 0 with z | z | z
      · have := Int.mul_pos_of_neg_of_neg z z; omega
      · rw [z] at hcg; simp at hcg
      · exact Int.mul_pos z z
    -- a nearer place for the far end
    have farN : ∀ N D : Int, 0 < N → N * (g * g) ≤ D * (c0 * g) → N ≤ D → ∀ tx ty : Int, ex * (tx * D - (px * D + N * wx)) + ey * (ty * D - (py * D + N * wy)) = 0 → ex * (ty - py) - ey * (tx - px) = c0 → (∀ P Q L : Int, 1 ≤ L → cvx2 px py (px + wx) (py + wy) P Q L → d2 px py ((px + ux) * f + k * ex) ((py + uy) * f + k * ey) f * (L * L) ≤ d2 tx ty P Q L * (f * f)) → False := by
      intro N D hN hD hND tx ty o1 o2 hh
      have hD0 : 0 < D := by omega
      have := hh (px * D + N * wx) (py * D + N * wy) D (by omega) ⟨D - N, N, by omega, by omega, by omega, by grind, by grind⟩
      rw [hd] at this
      have e1 : d2 tx ty (px * D + N * wx) (py * D + N * wy) D * f = (c0 * D - N * g) * (c0 * D - N * g) := by
        have lag : ((px * D + N * wx - tx * D) * (px * D + N * wx - tx * D) + (py * D + N * wy - ty * D) * (py * D + N * wy - ty * D)) * (ex * ex + ey * ey) = (ex * (tx * D - (px * D + N * wx)) + ey * (ty * D - (py * D + N * wy))) * (ex * (tx * D - (px * D + N * wx)) + ey * (ty * D - (py * D + N * wy))) + ((ex * (ty - py) - ey * (tx - px)) * D - N * (ex * wy - ey * wx)) * ((ex * (ty - py) - ey * (tx - px)) * D - N * (ex * wy - ey * wx)) := by grind
        rw [o1, o2, ← hg, ← hf] at lag
        unfold d2
        rw [lag]; simp
      have e2 : d2 tx ty (px * D + N * wx) (py * D + N * wy) D * (f * f) = f * ((c0 * D - N * g) * (c0 * D - N * g)) := by
        rw [← e1]; grind
      rw [e2] at this
      have e3 : c0 * c0 * f * (D * D) = f * (c0 * D * (c0 * D)) := by grind
      rw [e3] at this
      exact ar_fin hN hD hcg hD0 (Int.le_of_mul_le_mul_left this hf0)
    have farC : f - k ≤ q → (f - k) * (g * g) ≤ q * (c0 * g) → False := fun w1 w2 => farN (f - k) q (by omega) w2 w1 (px + ux + ex) (py + uy + ey) (by rw [hq, hf, hk2]; grind) (by rw [hc0]; grind) h2
    have farB : k ≤ -q → k * (g * g) ≤ (-q) * (c0 * g) → False := fun w1 w2 => farN k (-q) (by omega) w2 w1 (px + ux) (py + uy) (by rw [hq, hk2]; grind) (by rw [hc0]; grind) h1
    by_cases cA : g * g ≤ c0 * g
    · by_cases w1 : f < k + q
      · refine farC (by omega) ?_
        have i1 := Int.mul_le_mul_of_nonneg_left cA (show 0 ≤ f - k by omega)
        have i2 := Int.mul_le_mul_of_nonneg_right (show f - k ≤ q by omega) (show 0 ≤ c0 * g by omega)
        omega
      · by_cases w2 : k + q < 0
        · refine farB (by omega) ?_
          have i1 := Int.mul_le_mul_of_nonneg_left cA (show 0 ≤ k by omega)
          have i2 := Int.mul_le_mul_of_nonneg_right (show k ≤ -q by omega) (show 0 ≤ c0 * g by omega)
          omega
        · have := h3 ((px + ux) * f + (k + q) * ex) ((py + uy) * f + (k + q) * ey) f (by omega) ⟨f - (k + q), k + q, by omega, by omega, by omega, by grind, by grind⟩
          rw [hd] at this
          have a1 : (px + ux) * f + (k + q) * ex - (px + wx) * f = (c0 - g) * (-ey) := by rw [hf, hk2, hc0, hg, hq]; grind
          have a2 : (py + uy) * f + (k + q) * ey - (py + wy) * f = (c0 - g) * ex := by rw [hf, hk2, hc0, hg, hq]; grind
          have a3 : d2 (px + wx) (py + wy) ((px + ux) * f + (k + q) * ex) ((py + uy) * f + (k + q) * ey) f = (c0 - g) * (c0 - g) * f := by
            unfold d2; rw [a1, a2, hf]; grind
          rw [a3] at this
          have a4 := Int.le_of_mul_le_mul_right this (Int.mul_pos hf0 hf0)
          have a5 := Int.le_of_mul_le_mul_right a4 hf0
          have a6 : (c0 - g) * (c0 - g) = c0 * c0 - 2 * (c0 * g) + g * g := by grind
          omega
    · have hxx : f * (-(ux * wy - uy * wx)) = k * g + c0 * q := by rw [hf, hk2, hg, hc0, hq]; grind
      have hout : (-(ux * wy - uy * wx)) * g < 0 ∨ g * g < (-(ux * wy - uy * wx)) * g := by
        apply Classical.byContradiction
        intro hno
        apply hx
        have l1 : lw px py (px + wx) (py + wy) (px + ux) (py + uy) (px + ux + ex) (py + uy + ey) = -g := by unfold lw; rw [hg]; grind
        have l2 : al px py (px + wx) (py + wy) (px + ux) (py + uy) (px + ux + ex) (py + uy + ey) = -c0 := by unfold al; rw [hc0]; grind
        have l3 : ss px py (px + wx) (py + wy) (px + ux) (py + uy) (px + ux + ex) (py + uy + ey) = ux * wy - uy * wx := by unfold ss; grind
        unfold na ns nl
        rw [l1, l2, l3]
        generalize ux * wy - uy * wx = z at *
        unfold sg
        rcases Int.lt_trichotomy g 0 with y | y | y
        · rw [if_neg (by omega), if_neg (by omega), if_neg (by omega)]
          have y1 : c0 < 0 := by
            have : (-g) * c0 < 0 := by have : (-g) * c0 = -(c0 * g) := by grind
                                       omega
            exact div_lt (by omega) this
          have y2 : g ≤ c0 := by
            have : (-g) * (g - c0) ≤ 0 := by have : (-g) * (g - c0) = -(g * g - c0 * g) := by grind
                                             omega
            have := div_le (by omega) this
            omega
          have y3 : 0 ≤ z := by
            refine div_ge (a := -g) (by omega) ?_
            have : (-g) * z = (-z) * g := by grind
            omega
          have y4 : 0 ≤ -g - z := by
            refine div_ge (a := -g) (by omega) ?_
            have : (-g) * (-g - z) = g * g - (-z) * g := by grind
            omega
          omega
        · rw [y] at hgg; simp at hgg
        · rw [if_pos (by omega), if_pos (by omega), if_pos (by omega)]
          have y1 : 0 < c0 := by
            refine div_gt (a := g) y ?_
            have : g * c0 = c0 * g := by grind
            omega
          have y2 : c0 ≤ g := by
            have : g * (c0 - g) ≤ 0 := by have : g * (c0 - g) = -(g * g - c0 * g) := by grind
                                          omega
            have := div_le y this
            omega
          have y3 : 0 ≤ -z := by
            refine div_ge (a := g) y ?_
            have : g * -z = (-z) * g := by grind
            omega
          have y4 : 0 ≤ g - -z := by
            refine div_ge (a := g) y ?_
            have : g * (g - -z) = g * g - (-z) * g := by grind
            omega
          omega
      have big : ∀ N D : Int, 0 < N → N * (g * g) < D * (c0 * g) → N ≤ D := by
        intro N D hN hD
        have p0 := Int.mul_pos hN hgg
        have p1 : 0 < D := by
          refine div_gt (a := c0 * g) hcg ?_
          have : c0 * g * D = D * (c0 * g) := by grind
          omega
        have p2 := Int.mul_le_mul_of_nonneg_left (show c0 * g ≤ g * g by omega) (show 0 ≤ D by omega)
        have p3 : (g * g) * (N - D) ≤ 0 := by
          have : (g * g) * (N - D) = N * (g * g) - D * (g * g) := by grind
          omega
        have := div_le hgg p3
        omega
      rcases ar_out hf0 hxx hout with w | w
      · exact farB (big k (-q) (by omega) w) (by omega)
      · exact farC (big (f - k) q (by omega) w) (by omega)
