--@ needs 3ze.meets
def fulR (s r : Nat) (ρ : Nat → Nat) : Prop := ∀ q, q < r → ∃ j, j < s ∧ ρ j = q
theorem meetsC (K : Nat) (hK : 4000 ≤ K) {n : Nat} {x y : Nat → Int32} {X Y : Nat → Int} (h : Pts n x y X Y) {a mA : Nat → Int32} {ρ m : Nat → Nat} {s r : Nat} (hs : s ≤ 7) (hr : r = 2 ∨ r = 3) (ha : ∀ j, j < s → a j = nI (ρ j) ∧ ρ j < 100) (hm : ∀ j, j < s → mA j = nI (m j) ∧ m j < n) (hf : fulR s r ρ) (tf : Int32) (lx ly ll : Int64) (f1 : Int32) (f2 f3 f4 f5 : Nat → Int32) (g1 : Int32) (g2 g3' g4 g5 : Nat → Int32) (t1 : Int32) (t2 t3' t4 t5 : Nat → Int32) (p q l : Int64) : ∃ rr o1 o2 o3 o4 o5 o6 o7 o8 o9 o10 o11 o12 o13 o14 o15 o16 o17 o18 o19 p' q' l', fX5_meets K (nI s) (nI r) mA a (nI n) x y tf lx ly ll f1 f2 f3 f4 f5 g1 g2 g3' g4 g5 t1 t2 t3' t4 t5 p q l = some (rr, o1, o2, o3, o4, o5, o6, o7, o8, o9, o10, o11, o12, o13, o14, o15, o16, o17, o18, o19, p', q', l') ∧ rowRes n X Y r (pS n s m ρ) rr p' q' l' := by
  have hn := h.1
  have st : ∀ w, w < r → isSt n (pS n s m ρ w) := fun w hw => by
    obtain ⟨j, hj, e⟩ := hf w hw
    exact pS_st hn (fun j hj => (hm j hj).2) hj e
  obtain ⟨ch1, gx1, gy1, sor1, e1, e2⟩ := buildC2 K hK h (st 0 (by omega)) f1 f2 f3 f4 f5
  obtain ⟨ch2, gx2, gy2, sor2, e3, e4⟩ := buildC2 K hK h (st 1 (by omega)) g1 g2 g3' g4 g5
  have b0 := bitsR K hK hn hs ha hm (show 0 < 100 by omega)
  have b1' := bitsR K hK hn hs ha hm (show 1 < 100 by omega)
  have b2' := bitsR K hK hn hs ha hm (show 2 < 100 by omega)
  unfold fX5_meets fX3_take fX3_takeThird
  rw [show fX5_bitsOf K (nI s) mA a 0 = _ from b0, show fX5_bitsOf K (nI s) mA a 1 = _ from b1', sm_b1, sm_b1, e1, sm_b5, e3, sm_b5, sm_b11, jn_e]
  rcases hr with rfl | rfl
  · rw [if_neg (show ¬ nI 2 = (3 : Int32) by decide)]
    obtain ⟨rr, a', b, c, p', q', l', k1, k2⟩ := findR2 K hK h (S := pS n s m ρ) (st 0 (by omega)) (st 1 (by omega)) (x3 := t3') (y3 := t4) (z3 := t1) e2 e4 lx ly ll p q l
    dsimp only
    rw [k1, sm_b7]
    have hz : z01 rr = true := by rcases res_01 k2 with rfl | rfl <;> rfl
    rw [gd_t hz]
    exact ⟨_, _, _, _, _, _, _, _, _, _, _, _, _, _, _, _, _, _, _, _, _, _, _, rfl, k2⟩
  · rw [if_pos (show nI 3 = (3 : Int32) from rfl)]
    obtain ⟨ch3, gx3, gy3, sor3, e5, e6⟩ := buildC2 K hK h (st 2 (by omega)) t1 t2 t3' t4 t5
    rw [show fX5_bitsOf K (nI s) mA a 2 = _ from b2', sm_b1, e5, sm_b5, sm_b6]
    obtain ⟨rr, a', b, c, p', q', l', k1, k2⟩ := findR3 K hK h (S := pS n s m ρ) (st 0 (by omega)) (st 1 (by omega)) (st 2 (by omega)) e2 e4 e6 lx ly ll p q l
    dsimp only
    rw [k1, sm_b7]
    have hz : z01 rr = true := by rcases res_01 k2 with rfl | rfl <;> rfl
    rw [gd_t hz]
    exact ⟨_, _, _, _, _, _, _, _, _, _, _, _, _, _, _, _, _, _, _, _, _, _, _, rfl, k2⟩
/-- the model's parting -/
theorem imL2 (K : Nat) {r : Nat} (hr : r ≤ 3) : ∀ (fu i : Nat) (a : Nat → Int32), i ≤ r → r - i < fu → (∀ j, j < i → a j = 0) → ∃ a', fX12_isMetParting_L2 K (nI r) fu (nI i) a = some a' ∧ ∀ j, j < r → a' j = 0 := by
  intro fu
  induction fu with
  | zero => intro i a h1 h2; omega
  | succ fu ih =>
    intro i a h1 h2 h3
    rw [fX12_isMetParting_L2]
    by_cases hi : i = r
    · subst hi
      rw [if_pos (nI_le (Nat.le_refl i) (by omega))]
      exact ⟨a, rfl, h3⟩
    · have hlt : i < r := by omega
      rw [if_neg (nI_ge hlt (by omega)), gd_t (inb_nI (show i < 3 by omega) (by decide)), nI_clamp (by omega), xl_e, xl_e, nI_1]
      refine ih (i + 1) _ (by omega) (by omega) (fun j hj => ?_)
      by_cases e : j = i
      · rw [e, upd_at]
      · rw [upd_ne e]; exact h3 j (by omega)
theorem imL22 (K : Nat) {n : Nat} (hn : n ≤ 24) {r s : Nat} (hr : r ≤ 3) (hs : s ≤ 7) {pO pd : Nat → Int32} {ρ m : Nat → Nat} (hO : ∀ j, j < s → pO j = nI (ρ j) ∧ ρ j < r) (hd : ∀ j, j < s → pd j = nI (m j) ∧ m j < n) : ∀ (fu i : Nat) (a : Nat → Int32), i ≤ s → s - i < fu → (∀ q, q < r → mbits (fun j => ρ j = q) m i (a q)) → ∃ a', fX12_isMetParting_L22 K (nI s) pO pd fu (nI i) a = some a' ∧ ∀ q, q < r → mbits (fun j => ρ j = q) m s (a' q) := by
  intro fu
  induction fu with
  | zero => intro i a h1 h2; omega
  | succ fu ih =>
    intro i a h1 h2 h3
    rw [fX12_isMetParting_L22]
    by_cases hi : i = s
    · subst hi
      rw [if_pos (nI_le (Nat.le_refl i) (by omega))]
      exact ⟨a, rfl, h3⟩
    · have hlt : i < s := by omega
      obtain ⟨e1, e2⟩ := hO i hlt
      obtain ⟨g1, g2⟩ := hd i hlt
      rw [if_neg (nI_ge hlt (by omega))]
      simp only [gd_t (inb_nI (show i < 7 by omega) (by decide)), nI_clamp (show i < 2 ^ 31 by omega), e1, g1, xl_e, gd_t (inb_nI (show ρ i < 3 by omega) (by decide)), nI_clamp (show ρ i < 2 ^ 31 by omega), nI_1]
      refine ih (i + 1) _ (by omega) (by omega) (fun q hq => ?_)
      by_cases e : q = ρ i
      · rw [e, upd_at]
        exact mb_yes (h3 (ρ i) e2) rfl (by omega)
      · rw [upd_ne e]
        exact mb_no (h3 q hq) (fun w => e w.symm)
theorem rowL_small {n : Nat} {X Y : Nat → Int} {m ρ : Nat → Nat} {s q : Nat} (hn : n ≤ 24) (hm : ∀ j, j < s → m j < n) : (rowL X Y (pS n s m ρ q) n).length ≤ s := by
  obtain ⟨h1, h2, -⟩ := rowL_ok X Y (pS n s m ρ q) n
  have hnd : (rowL X Y (pS n s m ρ q) n).Nodup := h1.imp (fun {a b} hb e => by rw [e] at hb; exact bef_asym hb hb)
  have := ndp_len hnd (r := (List.range s).map m) (fun x hx => by
    have := ((rowL_mem X Y (pS n s m ρ q) n).1 x hx)
    obtain ⟨j, hj, -, e⟩ := pS_iff.mp ((bP_bitS _ hn this.1).mp this.2)
    exact List.mem_map.mpr ⟨j, List.mem_range.mpr hj, e⟩)
  rw [List.length_map, List.length_range] at this
  exact this
theorem imL60 (K : Nat) (hK : 4000 ≤ K) {n : Nat} {px py : Nat → Int32} {X Y : Nat → Int} (h : Pts n px py X Y) {r s : Nat} (hr : r ≤ 3) (hs : s ≤ 7) {ρ m : Nat → Nat} (hm : ∀ j, j < s → m j < n) (hf : fulR s r ρ) {pa : Nat → Int32} (hp : ∀ q, q < r → pa q = pS n s m ρ q) : ∀ (fu i : Nat) (rm : Int32) (cor cors row : Nat → Int32), i ≤ r → r - i < fu → (∀ w, w < i → hulB px py cor cors w (hX X Y (pS n s m ρ w) n) (hY X Y (pS n s m ρ w) n) (hN X Y (pS n s m ρ w) n)) → ∃ rm' cor' cors' row', fX12_isMetParting_L60 K (nI r) (nI n) px py pa fu (nI i) rm cor cors row = some (rm', cor', cors', row') ∧ ∀ w, w < r → hulB px py cor' cors' w (hX X Y (pS n s m ρ w) n) (hY X Y (pS n s m ρ w) n) (hN X Y (pS n s m ρ w) n) := by
  have hn := h.1
  intro fu
  induction fu with
  | zero => intro i rm cor cors row h1 h2; omega
  | succ fu ih =>
    intro i rm cor cors row h1 h2 h3
    rw [fX12_isMetParting_L60]
    by_cases hi : i = r
    · subst hi
      rw [if_pos (nI_le (Nat.le_refl i) (by omega))]
      exact ⟨_, _, _, _, rfl, h3⟩
    · have hlt : i < r := by omega
      obtain ⟨j, hj, e⟩ := hf i hlt
      have st := pS_st hn hm hj e
      have small := rowL_small (X := X) (Y := Y) (ρ := ρ) (q := i) hn hm
      obtain ⟨-, -, -, le1⟩ := hull_pg h st
      obtain ⟨cor', row', f1, f2, f3⟩ := laysM2 K hK h st i (by omega) (by omega) rm cor cors row
      rw [if_neg (nI_ge hlt (by omega)), gd_t (inb_nI (show i < 3 by omega) (by decide)), nI_clamp (by omega), hp i hlt, f1, sm_b4, xl_e, nI_1]
      refine ih (i + 1) _ _ _ _ (by omega) (by omega) (fun w hw => ?_)
      by_cases ew : w = i
      · rw [ew]; exact f2 (by omega)
      · have hw' : w < i := by omega
        obtain ⟨j2, hj2, e2⟩ := hf w (by omega)
        have st2 := pS_st hn hm hj2 e2
        obtain ⟨-, -, -, le2⟩ := hull_pg h st2
        have small2 := rowL_small (X := X) (Y := Y) (ρ := ρ) (q := w) hn hm
        exact hulB_fr (h3 w hw') (by omega) hw' f3 (upd_ne ew)
theorem partM (K : Nat) (hK : 4000 ≤ K) {n : Nat} {px py : Nat → Int32} {X Y : Nat → Int} (h : Pts n px py X Y) {pO pd : Nat → Int32} {ρ m : Nat → Nat} {s r : Nat} (hs : s ≤ 7) (hr : r = 2 ∨ r = 3) (hO : ∀ j, j < s → pO j = nI (ρ j) ∧ ρ j < r) (hd : ∀ j, j < s → pd j = nI (m j) ∧ m j < n) (hf : fulR s r ρ) (rm : Int32) (p q l : Int64) (met hu : Int32) (cor cors row parts : Nat → Int32) : ∃ rr rm' p' q' l' met' hu' cor' cors' row' parts', fX12_isMetParting K (nI n) rm p q l met hu (nI s) px py cor cors row pO pd parts (nI r) = some (rr, rm', p', q', l', met', hu', cor', cors', row', parts') ∧ rowRes n X Y r (pS n s m ρ) rr p' q' l' ∧ ∀ w, w < r → parts' w = pS n s m ρ w := by
  have hn := h.1
  obtain ⟨a1, e1, e2⟩ := imL2 K (show r ≤ 3 by omega) K 0 parts (by omega) (by omega) (fun j hj => by omega)
  obtain ⟨a2, e3, e4⟩ := imL22 K hn (show r ≤ 3 by omega) hs hO hd K 0 a1 (by omega) (by omega) (fun q hq => by rw [e2 q hq]; exact mb_0 _ _)
  have hp : ∀ q, q < r → a2 q = pS n s m ρ q := fun q hq => mb_pS hn (fun j hj => (hd j hj).2) (e4 q hq)
  obtain ⟨rm1, cor1, cors1, row1, f1, f2⟩ := imL60 K hK h (show r ≤ 3 by omega) hs (fun j hj => (hd j hj).2) hf hp K 0 rm cor cors row (by omega) (by omega) (fun w hw => by omega)
  obtain ⟨rr, p', q', l', met', hu', g1, g2⟩ := layR K hK h hr (S := pS n s m ρ) (fun w hw => by
    obtain ⟨j, hj, e⟩ := hf w hw
    exact pS_st hn (fun j hj => (hd j hj).2) hj e) f2 p q l met hu
  rw [show nI 0 = (0 : Int32) from rfl] at e1 e3 f1
  unfold fX12_isMetParting
  rw [e1, sm_b1, e3, sm_b1, f1, sm_b4, g1, sm_b6]
  have hz : z01 rr = true := by rcases res_01 g2 with rfl | rfl <;> rfl
  rw [gd_t hz]
  exact ⟨_, _, _, _, _, _, _, _, _, _, _, rfl, g2, hp⟩
