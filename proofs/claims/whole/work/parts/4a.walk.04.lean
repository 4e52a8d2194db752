theorem dX7_mixOne_0 : decode cX7_mixOne 0 = .ok (.iconst 0, 1) := by decide +kernel
theorem dX7_mixOne_1 : decode cX7_mixOne 1 = .ok (.istore_n 2, 1) := by decide +kernel
theorem dX7_mixOne_2 : decode cX7_mixOne 2 = .ok (.iload_n 2, 1) := by decide +kernel
theorem dX7_mixOne_3 : decode cX7_mixOne 3 = .ok (.iconst 3, 1) := by decide +kernel
theorem dX7_mixOne_4 : decode cX7_mixOne 4 = .ok (.if_icmp .ge 46, 3) := by decide +kernel
theorem dX7_mixOne_7 : decode cX7_mixOne 7 = .ok (.aload_n 1, 1) := by decide +kernel
theorem dX7_mixOne_8 : decode cX7_mixOne 8 = .ok (.aload_n 0, 1) := by decide +kernel
theorem dX7_mixOne_9 : decode cX7_mixOne 9 = .ok (.getfield 9, 3) := by decide +kernel
theorem dX7_mixOne_12 : decode cX7_mixOne 12 = .ok (.iload_n 2, 1) := by decide +kernel
theorem dX7_mixOne_13 : decode cX7_mixOne 13 = .ok (.iaload, 1) := by decide +kernel
theorem dX7_mixOne_14 : decode cX7_mixOne 14 = .ok (.aload_n 1, 1) := by decide +kernel
theorem dX7_mixOne_15 : decode cX7_mixOne 15 = .ok (.getfield 54, 3) := by decide +kernel
theorem dX7_mixOne_18 : decode cX7_mixOne 18 = .ok (.aload_n 1, 1) := by decide +kernel
theorem dX7_mixOne_19 : decode cX7_mixOne 19 = .ok (.getfield 57, 3) := by decide +kernel
theorem dX7_mixOne_22 : decode cX7_mixOne 22 = .ok (.invokevirtual 146, 3) := by decide +kernel
theorem dX7_mixOne_25 : decode cX7_mixOne 25 = .ok (.ifCond .eq 19, 3) := by decide +kernel
theorem dX7_mixOne_28 : decode cX7_mixOne 28 = .ok (.aload_n 0, 1) := by decide +kernel
theorem dX7_mixOne_29 : decode cX7_mixOne 29 = .ok (.getfield 15, 3) := by decide +kernel
theorem dX7_mixOne_32 : decode cX7_mixOne 32 = .ok (.iload_n 2, 1) := by decide +kernel
theorem dX7_mixOne_33 : decode cX7_mixOne 33 = .ok (.lconst 1, 1) := by decide +kernel
theorem dX7_mixOne_34 : decode cX7_mixOne 34 = .ok (.lastore, 1) := by decide +kernel
theorem dX7_mixOne_35 : decode cX7_mixOne 35 = .ok (.aload_n 0, 1) := by decide +kernel
theorem dX7_mixOne_36 : decode cX7_mixOne 36 = .ok (.getfield 15, 3) := by decide +kernel
theorem dX7_mixOne_39 : decode cX7_mixOne 39 = .ok (.iconst 3, 1) := by decide +kernel
theorem dX7_mixOne_40 : decode cX7_mixOne 40 = .ok (.lconst 1, 1) := by decide +kernel
theorem dX7_mixOne_41 : decode cX7_mixOne 41 = .ok (.lastore, 1) := by decide +kernel
theorem dX7_mixOne_42 : decode cX7_mixOne 42 = .ok (.iconst 1, 1) := by decide +kernel
theorem dX7_mixOne_43 : decode cX7_mixOne 43 = .ok (.ireturn, 1) := by decide +kernel
theorem dX7_mixOne_44 : decode cX7_mixOne 44 = .ok (.iinc 2 1, 3) := by decide +kernel
theorem dX7_mixOne_47 : decode cX7_mixOne 47 = .ok (.goto (-45), 3) := by decide +kernel
theorem dX7_mixOne_50 : decode cX7_mixOne 50 = .ok (.iconst 0, 1) := by decide +kernel
theorem dX7_mixOne_51 : decode cX7_mixOne 51 = .ok (.ireturn, 1) := by decide +kernel
set_option maxRecDepth 100000 in
set_option maxHeartbeats 4000000 in
theorem wX7_mixOne_L2 {p : Program} {l : Launch} {e : Env} {R : Room} {s : State} {m : MethodId} {args : Array Value} {below : List Frame} {meth : Method} {c : Code} {Q : State → Prop} {A : Nat → Prop} {dC : Nat → ClassId} {dI : Nat → Nat → Nat} {cI cL cB : ClassId} {K : Nat} (C0 : Sx p R s m args c cX7_mixOne 3 RX7 A dC dI cI cL cB 1 23) (h_t h_t_chosen h_t_mixed h_t_near h_p1 h_p1_x h_p1_y h_p1_colour h_p1_load : Nat) (t_gone : Int32) (t_stuck : Int32) (t_longest : Int32) (t_side : Int32) (t_chosen : Nat → Int32) (t_mixed : Nat → Int64) (p1_size : Int32) (p1_centreX : Int32) (p1_centreY : Int32) (p1_x : Nat → Int32) (p1_y : Nat → Int32) : ∀ (n : Nat) (l2 : Int32) (ex : (Int32) ⊕ (Unit)) (H : Heap) (locs : List Loc) (ls : Array Slot), va_P (dC, dI) vwCl [(h_t, .inr (7, [.ref h_t_chosen, .ref h_t_mixed, .ref h_t_near, .int t_gone, .int t_stuck, .int t_longest, .int t_side])), (h_t_chosen, .inl (cI, 3, .inl t_chosen)), (h_t_mixed, .inl (cL, 4, .inr (.inl t_mixed))), (h_p1, .inr (0, [.ref h_p1_x, .ref h_p1_y, .ref h_p1_colour, .ref h_p1_load, .int p1_size, .int p1_centreX, .int p1_centreY])), (h_p1_x, .inl (cI, 24, .inl p1_x)), (h_p1_y, .inl (cI, 24, .inl p1_y))] H → va_D A [(h_t, .inr (7, [.ref h_t_chosen, .ref h_t_mixed, .ref h_t_near, .int t_gone, .int t_stuck, .int t_longest, .int t_side])), (h_t_chosen, .inl (cI, 3, .inl t_chosen)), (h_t_mixed, .inl (cL, 4, .inr (.inl t_mixed))), (h_p1, .inr (0, [.ref h_p1_x, .ref h_p1_y, .ref h_p1_colour, .ref h_p1_load, .int p1_size, .int p1_centreX, .int p1_centreY])), (h_p1_x, .inl (cI, 24, .inl p1_x)), (h_p1_y, .inl (cI, 24, .inl p1_y))] → va_S A s.heap H locs → lv_has ls 3 [(0, .ref h_t), (1, .ref h_p1), (2, .int l2)] → fX7_mixOne_L2 K t_chosen p1_centreX p1_centreY p1_x p1_y n l2 = some ex → (∀ (x2_ : Int32), ex = (.inl x2_) → ∀ (H : Heap) (locs : List Loc) (ls : Array Slot), va_P (dC, dI) vwCl [(h_t, .inr (7, [.ref h_t_chosen, .ref h_t_mixed, .ref h_t_near, .int t_gone, .int t_stuck, .int t_longest, .int t_side])), (h_t_chosen, .inl (cI, 3, .inl t_chosen)), (h_t_mixed, .inl (cL, 4, .inr (.inl t_mixed))), (h_p1, .inr (0, [.ref h_p1_x, .ref h_p1_y, .ref h_p1_colour, .ref h_p1_load, .int p1_size, .int p1_centreX, .int p1_centreY])), (h_p1_x, .inl (cI, 24, .inl p1_x)), (h_p1_y, .inl (cI, 24, .inl p1_y))] H → va_D A [(h_t, .inr (7, [.ref h_t_chosen, .ref h_t_mixed, .ref h_t_near, .int t_gone, .int t_stuck, .int t_longest, .int t_side])), (h_t_chosen, .inl (cI, 3, .inl t_chosen)), (h_t_mixed, .inl (cL, 4, .inr (.inl t_mixed))), (h_p1, .inr (0, [.ref h_p1_x, .ref h_p1_y, .ref h_p1_colour, .ref h_p1_load, .int p1_size, .int p1_centreX, .int p1_centreY])), (h_p1_x, .inl (cI, 24, .inl p1_x)), (h_p1_y, .inl (cI, 24, .inl p1_y))] → va_S A s.heap H locs → lv_has ls 3 [(0, .ref h_t), (2, .int x2_)] → W p l e R s m args below meth c H locs 0 0 Q (F0 m 28 ls [])) → (∀ (_ : Unit), ex = (.inr ()) → ∀ (H : Heap) (locs : List Loc) (ls : Array Slot), va_P (dC, dI) vwCl [(h_t, .inr (7, [.ref h_t_chosen, .ref h_t_mixed, .ref h_t_near, .int t_gone, .int t_stuck, .int t_longest, .int t_side])), (h_t_chosen, .inl (cI, 3, .inl t_chosen)), (h_t_mixed, .inl (cL, 4, .inr (.inl t_mixed))), (h_p1, .inr (0, [.ref h_p1_x, .ref h_p1_y, .ref h_p1_colour, .ref h_p1_load, .int p1_size, .int p1_centreX, .int p1_centreY])), (h_p1_x, .inl (cI, 24, .inl p1_x)), (h_p1_y, .inl (cI, 24, .inl p1_y))] H → va_D A [(h_t, .inr (7, [.ref h_t_chosen, .ref h_t_mixed, .ref h_t_near, .int t_gone, .int t_stuck, .int t_longest, .int t_side])), (h_t_chosen, .inl (cI, 3, .inl t_chosen)), (h_t_mixed, .inl (cL, 4, .inr (.inl t_mixed))), (h_p1, .inr (0, [.ref h_p1_x, .ref h_p1_y, .ref h_p1_colour, .ref h_p1_load, .int p1_size, .int p1_centreX, .int p1_centreY])), (h_p1_x, .inl (cI, 24, .inl p1_x)), (h_p1_y, .inl (cI, 24, .inl p1_y))] → va_S A s.heap H locs → lv_has ls 3 [] → W p l e R s m args below meth c H locs 0 0 Q (F0 m 50 ls [])) → W p l e R s m args below meth c H locs 0 0 Q (F0 m 2 ls []) := by
  obtain ⟨hx, hb, hml, hown, hts, hK, hT, hA, hF, hLo⟩ := id C0
  intro n
  induction n with
  | zero =>
    intro l2 ex H locs ls hP hD hS hl hf
    rw [fX7_mixOne_L2] at hf
    cases hf
  | succ n ih =>
    intro l2 ex H locs ls hP hD hS hl hf hk0 hk1
    rw [fX7_mixOne_L2] at hf
    refine lv_iload_n hx hb dX7_mixOne_2 rfl (lv_at hl 2 rfl) ?_
    refine lv_iconst (v := (3 : Int32)) hx hb dX7_mixOne_3 (by decide) ?_
    refine lv_icmp_ge (tgt := 50) hx hb dX7_mixOne_4 (by decide) (fun hc => ?_) (fun hc => ?_)
    · replace hf := it_t (hc) hf
      exact hk1 () (Option.some.inj hf).symm H locs ls hP hD hS (lv_sub hl [] rfl)
    · replace hf := it_f (hc) hf
      refine lv_aload_n hx hb dX7_mixOne_7 rfl (lv_at hl 1 rfl) ?_
      refine lv_aload_n hx hb dX7_mixOne_8 rfl (lv_at hl 0 rfl) ?_
      refine va_get (D := (dC, dI)) (ci := 7) (v := .ref h_t_chosen) (C := RX7) (T := TX7) (N := 7) hx hb hts in_X7 hown hK hP 0 rfl rfl 0 (Nat.le_of_ble_eq_true rfl) (hts _ qf_X7_9) (fun _ h9 => h9) rfl dX7_mixOne_9 ?_
      refine lv_iload_n hx hb dX7_mixOne_12 rfl (lv_at hl 2 rfl) ?_
      obtain ⟨hg_1, hf⟩ := gd_some hf
      refine va_iald hx hb hK hP 1 0 rfl rfl (inb_in hg_1) dX7_mixOne_13 ?_
      refine lv_aload_n hx hb dX7_mixOne_14 rfl (lv_at hl 1 rfl) ?_
      refine va_get (D := (dC, dI)) (ci := 0) (v := .int p1_centreX) (C := RX0) (T := TX0) (N := 7) hx hb hts in_X0 hown hK hP 3 rfl rfl 5 (Nat.le_of_ble_eq_true rfl) (hts _ qf_X7_54) (fun _ h9 => h9) rfl dX7_mixOne_15 ?_
      refine lv_aload_n hx hb dX7_mixOne_18 rfl (lv_at hl 1 rfl) ?_
      refine va_get (D := (dC, dI)) (ci := 0) (v := .int p1_centreY) (C := RX0) (T := TX0) (N := 7) hx hb hts in_X0 hown hK hP 3 rfl rfl 6 (Nat.le_of_ble_eq_true rfl) (hts _ qf_X7_57) (fun _ h9 => h9) rfl dX7_mixOne_19 ?_
      obtain ⟨r_2, hq_3, hf⟩ := b1_some hf
      refine xci (wr := [(h_t, .inr (7, [.ref h_t_chosen, .ref h_t_mixed, .ref h_t_near, .int t_gone, .int t_stuck, .int t_longest, .int t_side])), (h_t_chosen, .inl (cI, 3, .inl t_chosen)), (h_t_mixed, .inl (cL, 4, .inr (.inl t_mixed)))]) (w2 := [(h_t, .inr (7, [.ref h_t_chosen, .ref h_t_mixed, .ref h_t_near, .int t_gone, .int t_stuck, .int t_longest, .int t_side])), (h_t_chosen, .inl (cI, 3, .inl t_chosen)), (h_t_mixed, .inl (cL, 4, .inr (.inl t_mixed))), (h_p1, .inr (0, [.ref h_p1_x, .ref h_p1_y, .ref h_p1_colour, .ref h_p1_load, .int p1_size, .int p1_centreX, .int p1_centreY])), (h_p1_x, .inl (cI, 24, .inl p1_x)), (h_p1_y, .inl (cI, 24, .inl p1_y))]) (va_runV (As := [.int (t_chosen l2.toNatClampNeg), .int p1_centreX, .int p1_centreY]) (rest := []) ⟨hx, hb, hml, hown, hts⟩ (mtX0_isAt l dC dI cI cL cB K h_p1 h_p1_x h_p1_y h_p1_colour h_p1_load H.size p1_size p1_centreX p1_centreY p1_x p1_y (t_chosen l2.toNatClampNeg) p1_centreX p1_centreY r_2 hq_3) (cwV 3 hts gv_X7_146 rfl rfl rfl hdV_X0_isAt ⟨Nat.le_trans (Nat.le_of_ble_eq_true rfl) hF, Nat.le_trans (Nat.le_of_ble_eq_true rfl) hLo⟩) (cPreV hK hP hD hT [3, 4, 5] rfl rfl (ci := 0) (q0 := 0) rfl rfl) rfl rfl hl.1 rfl (lv_room (Nat.le_of_ble_eq_true rfl)) dX7_mixOne_22 ⟨Nat.zero_le _, Nat.zero_le _⟩) hP hD hS hA [3, 4, 5] [0, 1, 2] [0, 1, 2, 3, 4, 5] rfl rfl rfl rfl rfl rfl (fun H locs hP hD hS => ?_)
      refine lv_if_eq (tgt := 44) hx hb dX7_mixOne_25 (by decide) (fun hc => ?_) (fun hc => ?_)
      · replace hf := it_t (hc) hf
        obtain ⟨l2_4, el2_4⟩ : ∃ y : Int32, y = l2 + (1 : Int32) := ⟨_, rfl⟩
        replace hf := xl_at hf el2_4
        refine lv_iinc (v := l2_4) (lv' := [(2, .int l2_4), (0, .ref h_t), (1, .ref h_p1)]) hx hb dX7_mixOne_44 hl (k := 2) rfl (by rw [el2_4]; rfl) (Nat.le_of_ble_eq_true rfl) rfl (fun ls hl => ?_)
        refine lv_goto (tgt := 2) hx hb dX7_mixOne_47 (by decide) ?_
        exact ih l2_4 _ H locs ls hP hD hS (lv_sub hl [1, 2, 0] rfl) hf hk0 hk1
      · replace hf := it_f (hc) hf
        exact hk0 l2 (Option.some.inj hf).symm H locs ls hP hD hS (lv_sub hl [0, 2] rfl)
set_option maxRecDepth 100000 in
set_option maxHeartbeats 4000000 in
theorem mtX7_mixOne (l : Launch) (dC : Nat → ClassId) (dI : Nat → Nat → Nat) (cI cL cB : ClassId) (K : Nat) (h_t h_t_chosen h_t_mixed h_t_near h_p1 h_p1_x h_p1_y h_p1_colour h_p1_load : Nat) (sz : Nat) (t_gone : Int32) (t_stuck : Int32) (t_longest : Int32) (t_side : Int32) (t_chosen : Nat → Int32) (t_mixed : Nat → Int64) (p1_size : Int32) (p1_centreX : Int32) (p1_centreY : Int32) (p1_x : Nat → Int32) (p1_y : Nat → Int32) (o_r : Int32) (o_t_mixed : Nat → Int64) (hf : fX7_mixOne K t_chosen t_mixed p1_centreX p1_centreY p1_x p1_y = some (o_r, o_t_mixed)) : Met l yX7_mixOne [Cond.code yX7_mixOne cX7_mixOne 3 (some .boolean)] ({ frames := 1, cells := 0, slots := 0, locals := 23 }) (va_Pc [.ref h_t, .ref h_p1] (cPre dC dI cI cL cB sz [(h_t, .inr (7, [.ref h_t_chosen, .ref h_t_mixed, .ref h_t_near, .int t_gone, .int t_stuck, .int t_longest, .int t_side])), (h_t_chosen, .inl (cI, 3, .inl t_chosen)), (h_t_mixed, .inl (cL, 4, .inr (.inl t_mixed))), (h_p1, .inr (0, [.ref h_p1_x, .ref h_p1_y, .ref h_p1_colour, .ref h_p1_load, .int p1_size, .int p1_centreX, .int p1_centreY])), (h_p1_x, .inl (cI, 24, .inl p1_x)), (h_p1_y, .inl (cI, 24, .inl p1_y))])) (cQi dC dI (va_A [(h_t, .inr (7, [.ref h_t_chosen, .ref h_t_mixed, .ref h_t_near, .int t_gone, .int t_stuck, .int t_longest, .int t_side])), (h_t_chosen, .inl (cI, 3, .inl t_chosen)), (h_t_mixed, .inl (cL, 4, .inr (.inl t_mixed))), (h_p1, .inr (0, [.ref h_p1_x, .ref h_p1_y, .ref h_p1_colour, .ref h_p1_load, .int p1_size, .int p1_centreX, .int p1_centreY])), (h_p1_x, .inl (cI, 24, .inl p1_x)), (h_p1_y, .inl (cI, 24, .inl p1_y))] sz) o_r [(h_t, .inr (7, [.ref h_t_chosen, .ref h_t_mixed, .ref h_t_near, .int t_gone, .int t_stuck, .int t_longest, .int t_side])), (h_t_chosen, .inl (cI, 3, .inl t_chosen)), (h_t_mixed, .inl (cL, 4, .inr (.inl o_t_mixed))), (h_p1, .inr (0, [.ref h_p1_x, .ref h_p1_y, .ref h_p1_colour, .ref h_p1_load, .int p1_size, .int p1_centreX, .int p1_centreY])), (h_p1_x, .inl (cI, 24, .inl p1_x)), (h_p1_y, .inl (cI, 24, .inl p1_y))]) 0 0 (va_A [(h_t, .inr (7, [.ref h_t_chosen, .ref h_t_mixed, .ref h_t_near, .int t_gone, .int t_stuck, .int t_longest, .int t_side])), (h_t_chosen, .inl (cI, 3, .inl t_chosen)), (h_t_mixed, .inl (cL, 4, .inr (.inl t_mixed))), (h_p1, .inr (0, [.ref h_p1_x, .ref h_p1_y, .ref h_p1_colour, .ref h_p1_load, .int p1_size, .int p1_centreX, .int p1_centreY])), (h_p1_x, .inl (cI, 24, .inl p1_x)), (h_p1_y, .inl (cI, 24, .inl p1_y))] sz) := by
  refine Met.ofW (cc := cX7_mixOne) (maxL := 3) (ret := (some .boolean)) (by decide) rfl ?_
  intro p e s m args below meth c s₁ B hml hv
  obtain ⟨rfl, hsz, hP, hK, hD0, hT⟩ := hv
  have hx := B.exec
  have hb := B.bytes
  have hr := B.returns
  have hown : s.vm.findClass RX7 = some m.cls := findClass_of_methodNamed B.named
  have hlocks := B.notSynchronized
  have hts := TB.use hT ([.ref h_t, .ref h_p1] : List Value).toArray
  subst hsz
  have hD := hD0.self (sz := s.heap.size)
  generalize hAe : va_A [(h_t, .inr (7, [.ref h_t_chosen, .ref h_t_mixed, .ref h_t_near, .int t_gone, .int t_stuck, .int t_longest, .int t_side])), (h_t_chosen, .inl (cI, 3, .inl t_chosen)), (h_t_mixed, .inl (cL, 4, .inr (.inl t_mixed))), (h_p1, .inr (0, [.ref h_p1_x, .ref h_p1_y, .ref h_p1_colour, .ref h_p1_load, .int p1_size, .int p1_centreX, .int p1_centreY])), (h_p1_x, .inl (cI, 24, .inl p1_x)), (h_p1_y, .inl (cI, 24, .inl p1_y))] s.heap.size = A at hD ⊢
  have hA : ∀ q : Nat, s.heap.size ≤ q → A q := fun q h => by rw [← hAe]; exact Or.inr h
  clear hAe hD0
  have hl := lv_entry ([.ref h_t, .ref h_p1]) (n := 3) (Nat.le_of_ble_eq_true rfl)
  rw [lg_entry_eq]
  generalize (lg_sl ([.ref h_t, .ref h_p1]) ++ List.replicate (3 - (lg_sl ([.ref h_t, .ref h_p1])).length) Slot.unset).toArray = ls at hl ⊢
  have hl : lv_has ls 3 [(0, .ref h_t), (1, .ref h_p1)] := hl
  have hF : 1 ≤ (headSpec [Cond.code yX7_mixOne cX7_mixOne 3 (some .boolean)] ({ frames := 1, cells := 0, slots := 0, locals := 23 })).room.frames := Nat.le_refl _
  have hLo : 23 ≤ (headSpec [Cond.code yX7_mixOne cX7_mixOne 3 (some .boolean)] ({ frames := 1, cells := 0, slots := 0, locals := 23 })).room.locals := Nat.le_refl _
  have C0 : Sx p (headSpec [Cond.code yX7_mixOne cX7_mixOne 3 (some .boolean)] ({ frames := 1, cells := 0, slots := 0, locals := 23 })).room s m ([.ref h_t, .ref h_p1] : List Value).toArray c cX7_mixOne 3 RX7 A dC dI cI cL cB 1 23 := ⟨hx, hb, hml, hown, hts, hK, hT, hA, hF, hLo⟩
  refine startH (A := A) hP (fun H locs hP hS => ?_)
  rw [fX7_mixOne] at hf
  refine lv_iconst (v := (0 : Int32)) hx hb dX7_mixOne_0 (by decide) ?_
  refine lv_istore_n (lv' := [(2, .int (0 : Int32)), (0, .ref h_t), (1, .ref h_p1)]) hx hb dX7_mixOne_1 rfl hl (Nat.le_of_ble_eq_true rfl) rfl (fun ls hl => ?_)
  obtain ⟨ex_10, hq_5, hf⟩ := sm_some hf
  refine wX7_mixOne_L2 C0 h_t h_t_chosen h_t_mixed h_t_near h_p1 h_p1_x h_p1_y h_p1_colour h_p1_load t_gone t_stuck t_longest t_side t_chosen t_mixed p1_size p1_centreX p1_centreY p1_x p1_y K (0 : Int32) ex_10 H locs ls hP hD hS (lv_sub hl [1, 2, 0] rfl) hq_5 ?_ ?_
  · intro l2_6 he H locs ls hP hD hS hl
    subst he
    replace hf := el1 hf
    refine lv_aload_n hx hb dX7_mixOne_28 rfl (lv_at hl 0 rfl) ?_
    refine va_get (D := (dC, dI)) (ci := 7) (v := .ref h_t_mixed) (C := RX7) (T := TX7) (N := 7) hx hb hts in_X7 hown hK hP 0 rfl rfl 1 (Nat.le_of_ble_eq_true rfl) (hts _ qf_X7_15) (fun _ h9 => h9) rfl dX7_mixOne_29 ?_
    refine lv_iload_n hx hb dX7_mixOne_32 rfl (lv_at hl 1 rfl) ?_
    refine lv_lconst (v := (1 : Int64)) hx hb dX7_mixOne_33 (by decide) ?_
    obtain ⟨hg_7, hf⟩ := gd_some hf
    obtain ⟨t_mixed_8, et_mixed_8⟩ : ∃ y : Nat → Int64, y = vp_updL t_mixed l2_6.toNatClampNeg (1 : Int64) := ⟨_, rfl⟩
    replace hf := xl_at hf et_mixed_8
    refine xlast (w2 := [(h_t, .inr (7, [.ref h_t_chosen, .ref h_t_mixed, .ref h_t_near, .int t_gone, .int t_stuck, .int t_longest, .int t_side])), (h_t_chosen, .inl (cI, 3, .inl t_chosen)), (h_t_mixed, .inl (cL, 4, .inr (.inl t_mixed_8))), (h_p1, .inr (0, [.ref h_p1_x, .ref h_p1_y, .ref h_p1_colour, .ref h_p1_load, .int p1_size, .int p1_centreX, .int p1_centreY])), (h_p1_x, .inl (cI, 24, .inl p1_x)), (h_p1_y, .inl (cI, 24, .inl p1_y))]) hx hb hK hP hD hS 2 1 rfl rfl (inb_in hg_7) et_mixed_8 rfl dX7_mixOne_34 (fun H locs hP hD hS => ?_)
    refine lv_aload_n hx hb dX7_mixOne_35 rfl (lv_at hl 0 rfl) ?_
    refine va_get (D := (dC, dI)) (ci := 7) (v := .ref h_t_mixed) (C := RX7) (T := TX7) (N := 7) hx hb hts in_X7 hown hK hP 0 rfl rfl 1 (Nat.le_of_ble_eq_true rfl) (hts _ qf_X7_15) (fun _ h9 => h9) rfl dX7_mixOne_36 ?_
    refine lv_iconst (v := (3 : Int32)) hx hb dX7_mixOne_39 (by decide) ?_
    refine lv_lconst (v := (1 : Int64)) hx hb dX7_mixOne_40 (by decide) ?_
    obtain ⟨t_mixed_9, et_mixed_9⟩ : ∃ y : Nat → Int64, y = vp_updL t_mixed_8 (3 : Int32).toNatClampNeg (1 : Int64) := ⟨_, rfl⟩
    replace hf := xl_at hf et_mixed_9
    refine xlast (w2 := [(h_t, .inr (7, [.ref h_t_chosen, .ref h_t_mixed, .ref h_t_near, .int t_gone, .int t_stuck, .int t_longest, .int t_side])), (h_t_chosen, .inl (cI, 3, .inl t_chosen)), (h_t_mixed, .inl (cL, 4, .inr (.inl t_mixed_9))), (h_p1, .inr (0, [.ref h_p1_x, .ref h_p1_y, .ref h_p1_colour, .ref h_p1_load, .int p1_size, .int p1_centreX, .int p1_centreY])), (h_p1_x, .inl (cI, 24, .inl p1_x)), (h_p1_y, .inl (cI, 24, .inl p1_y))]) hx hb hK hP hD hS 2 1 rfl rfl (inb_in (by decide)) et_mixed_9 rfl dX7_mixOne_41 (fun H locs hP hD hS => ?_)
    refine lv_iconst (v := (1 : Int32)) hx hb dX7_mixOne_42 (by decide) ?_
    obtain ⟨rfl, rfl⟩ := o2 hf
    exact W.zret hx hb hr rfl (fun t ht hW => ⟨⟨_, (), rfl, rfl, by rw [ht]; exact hP, hD⟩, hS.F ht⟩) hS.2.2 dX7_mixOne_43
  · intro _ he H locs ls hP hD hS hl
    subst he
    replace hf := er0 hf
    refine lv_iconst (v := (0 : Int32)) hx hb dX7_mixOne_50 (by decide) ?_
    obtain ⟨rfl, rfl⟩ := o2 hf
    exact W.zret hx hb hr rfl (fun t ht hW => ⟨⟨_, (), rfl, rfl, by rw [ht]; exact hP, hD⟩, hS.F ht⟩) hS.2.2 dX7_mixOne_51
theorem dX7_mixPair_0 : decode cX7_mixPair 0 = .ok (.aload_n 1, 1) := by decide +kernel
theorem dX7_mixPair_1 : decode cX7_mixPair 1 = .ok (.getfield 71, 3) := by decide +kernel
theorem dX7_mixPair_4 : decode cX7_mixPair 4 = .ok (.aload_n 0, 1) := by decide +kernel
theorem dX7_mixPair_5 : decode cX7_mixPair 5 = .ok (.getfield 9, 3) := by decide +kernel
theorem dX7_mixPair_8 : decode cX7_mixPair 8 = .ok (.iload_n 2, 1) := by decide +kernel
theorem dX7_mixPair_9 : decode cX7_mixPair 9 = .ok (.iaload, 1) := by decide +kernel
theorem dX7_mixPair_10 : decode cX7_mixPair 10 = .ok (.iaload, 1) := by decide +kernel
theorem dX7_mixPair_11 : decode cX7_mixPair 11 = .ok (.aload_n 1, 1) := by decide +kernel
theorem dX7_mixPair_12 : decode cX7_mixPair 12 = .ok (.getfield 54, 3) := by decide +kernel
theorem dX7_mixPair_15 : decode cX7_mixPair 15 = .ok (.isub, 1) := by decide +kernel
theorem dX7_mixPair_16 : decode cX7_mixPair 16 = .ok (.i2l, 1) := by decide +kernel
theorem dX7_mixPair_17 : decode cX7_mixPair 17 = .ok (.lstore 4, 2) := by decide +kernel
theorem dX7_mixPair_19 : decode cX7_mixPair 19 = .ok (.aload_n 1, 1) := by decide +kernel
theorem dX7_mixPair_20 : decode cX7_mixPair 20 = .ok (.getfield 74, 3) := by decide +kernel
theorem dX7_mixPair_23 : decode cX7_mixPair 23 = .ok (.aload_n 0, 1) := by decide +kernel
theorem dX7_mixPair_24 : decode cX7_mixPair 24 = .ok (.getfield 9, 3) := by decide +kernel
theorem dX7_mixPair_27 : decode cX7_mixPair 27 = .ok (.iload_n 2, 1) := by decide +kernel
theorem dX7_mixPair_28 : decode cX7_mixPair 28 = .ok (.iaload, 1) := by decide +kernel
theorem dX7_mixPair_29 : decode cX7_mixPair 29 = .ok (.iaload, 1) := by decide +kernel
theorem dX7_mixPair_30 : decode cX7_mixPair 30 = .ok (.aload_n 1, 1) := by decide +kernel
theorem dX7_mixPair_31 : decode cX7_mixPair 31 = .ok (.getfield 57, 3) := by decide +kernel
theorem dX7_mixPair_34 : decode cX7_mixPair 34 = .ok (.isub, 1) := by decide +kernel
theorem dX7_mixPair_35 : decode cX7_mixPair 35 = .ok (.i2l, 1) := by decide +kernel
theorem dX7_mixPair_36 : decode cX7_mixPair 36 = .ok (.lstore 6, 2) := by decide +kernel
theorem dX7_mixPair_38 : decode cX7_mixPair 38 = .ok (.aload_n 1, 1) := by decide +kernel
theorem dX7_mixPair_39 : decode cX7_mixPair 39 = .ok (.getfield 71, 3) := by decide +kernel
theorem dX7_mixPair_42 : decode cX7_mixPair 42 = .ok (.aload_n 0, 1) := by decide +kernel
theorem dX7_mixPair_43 : decode cX7_mixPair 43 = .ok (.getfield 9, 3) := by decide +kernel
theorem dX7_mixPair_46 : decode cX7_mixPair 46 = .ok (.iload_n 3, 1) := by decide +kernel
theorem dX7_mixPair_47 : decode cX7_mixPair 47 = .ok (.iaload, 1) := by decide +kernel
theorem dX7_mixPair_48 : decode cX7_mixPair 48 = .ok (.iaload, 1) := by decide +kernel
theorem dX7_mixPair_49 : decode cX7_mixPair 49 = .ok (.aload_n 1, 1) := by decide +kernel
theorem dX7_mixPair_50 : decode cX7_mixPair 50 = .ok (.getfield 54, 3) := by decide +kernel
theorem dX7_mixPair_53 : decode cX7_mixPair 53 = .ok (.isub, 1) := by decide +kernel
theorem dX7_mixPair_54 : decode cX7_mixPair 54 = .ok (.i2l, 1) := by decide +kernel
theorem dX7_mixPair_55 : decode cX7_mixPair 55 = .ok (.lstore 8, 2) := by decide +kernel
theorem dX7_mixPair_57 : decode cX7_mixPair 57 = .ok (.aload_n 1, 1) := by decide +kernel
theorem dX7_mixPair_58 : decode cX7_mixPair 58 = .ok (.getfield 74, 3) := by decide +kernel
theorem dX7_mixPair_61 : decode cX7_mixPair 61 = .ok (.aload_n 0, 1) := by decide +kernel
theorem dX7_mixPair_62 : decode cX7_mixPair 62 = .ok (.getfield 9, 3) := by decide +kernel
theorem dX7_mixPair_65 : decode cX7_mixPair 65 = .ok (.iload_n 3, 1) := by decide +kernel
theorem dX7_mixPair_66 : decode cX7_mixPair 66 = .ok (.iaload, 1) := by decide +kernel
theorem dX7_mixPair_67 : decode cX7_mixPair 67 = .ok (.iaload, 1) := by decide +kernel
theorem dX7_mixPair_68 : decode cX7_mixPair 68 = .ok (.aload_n 1, 1) := by decide +kernel
theorem dX7_mixPair_69 : decode cX7_mixPair 69 = .ok (.getfield 57, 3) := by decide +kernel
theorem dX7_mixPair_72 : decode cX7_mixPair 72 = .ok (.isub, 1) := by decide +kernel
theorem dX7_mixPair_73 : decode cX7_mixPair 73 = .ok (.i2l, 1) := by decide +kernel
theorem dX7_mixPair_74 : decode cX7_mixPair 74 = .ok (.lstore 10, 2) := by decide +kernel
theorem dX7_mixPair_76 : decode cX7_mixPair 76 = .ok (.lload 4, 2) := by decide +kernel
theorem dX7_mixPair_78 : decode cX7_mixPair 78 = .ok (.lload 6, 2) := by decide +kernel
theorem dX7_mixPair_80 : decode cX7_mixPair 80 = .ok (.lload 8, 2) := by decide +kernel
theorem dX7_mixPair_82 : decode cX7_mixPair 82 = .ok (.lload 10, 2) := by decide +kernel
theorem dX7_mixPair_84 : decode cX7_mixPair 84 = .ok (.invokestatic 152, 3) := by decide +kernel
theorem dX7_mixPair_87 : decode cX7_mixPair 87 = .ok (.lconst 0, 1) := by decide +kernel
theorem dX7_mixPair_88 : decode cX7_mixPair 88 = .ok (.lcmp, 1) := by decide +kernel
theorem dX7_mixPair_89 : decode cX7_mixPair 89 = .ok (.ifCond .ne 19, 3) := by decide +kernel
theorem dX7_mixPair_92 : decode cX7_mixPair 92 = .ok (.lload 4, 2) := by decide +kernel
theorem dX7_mixPair_94 : decode cX7_mixPair 94 = .ok (.lload 8, 2) := by decide +kernel
theorem dX7_mixPair_96 : decode cX7_mixPair 96 = .ok (.lmul, 1) := by decide +kernel
theorem dX7_mixPair_97 : decode cX7_mixPair 97 = .ok (.lload 6, 2) := by decide +kernel
theorem dX7_mixPair_99 : decode cX7_mixPair 99 = .ok (.lload 10, 2) := by decide +kernel
theorem dX7_mixPair_101 : decode cX7_mixPair 101 = .ok (.lmul, 1) := by decide +kernel
theorem dX7_mixPair_102 : decode cX7_mixPair 102 = .ok (.ladd, 1) := by decide +kernel
theorem dX7_mixPair_103 : decode cX7_mixPair 103 = .ok (.lconst 0, 1) := by decide +kernel
theorem dX7_mixPair_104 : decode cX7_mixPair 104 = .ok (.lcmp, 1) := by decide +kernel
theorem dX7_mixPair_105 : decode cX7_mixPair 105 = .ok (.ifCond .lt 5, 3) := by decide +kernel
theorem dX7_mixPair_108 : decode cX7_mixPair 108 = .ok (.iconst 0, 1) := by decide +kernel
theorem dX7_mixPair_109 : decode cX7_mixPair 109 = .ok (.ireturn, 1) := by decide +kernel
theorem dX7_mixPair_110 : decode cX7_mixPair 110 = .ok (.aload_n 0, 1) := by decide +kernel
theorem dX7_mixPair_111 : decode cX7_mixPair 111 = .ok (.getfield 15, 3) := by decide +kernel
theorem dX7_mixPair_114 : decode cX7_mixPair 114 = .ok (.iload_n 2, 1) := by decide +kernel
theorem dX7_mixPair_115 : decode cX7_mixPair 115 = .ok (.lload 8, 2) := by decide +kernel
theorem dX7_mixPair_117 : decode cX7_mixPair 117 = .ok (.invokestatic 156, 3) := by decide +kernel
theorem dX7_mixPair_120 : decode cX7_mixPair 120 = .ok (.lload 10, 2) := by decide +kernel
theorem dX7_mixPair_122 : decode cX7_mixPair 122 = .ok (.invokestatic 156, 3) := by decide +kernel
theorem dX7_mixPair_125 : decode cX7_mixPair 125 = .ok (.ladd, 1) := by decide +kernel
theorem dX7_mixPair_126 : decode cX7_mixPair 126 = .ok (.lastore, 1) := by decide +kernel
theorem dX7_mixPair_127 : decode cX7_mixPair 127 = .ok (.aload_n 0, 1) := by decide +kernel
theorem dX7_mixPair_128 : decode cX7_mixPair 128 = .ok (.getfield 15, 3) := by decide +kernel
theorem dX7_mixPair_131 : decode cX7_mixPair 131 = .ok (.iload_n 3, 1) := by decide +kernel
theorem dX7_mixPair_132 : decode cX7_mixPair 132 = .ok (.lload 4, 2) := by decide +kernel
theorem dX7_mixPair_134 : decode cX7_mixPair 134 = .ok (.invokestatic 156, 3) := by decide +kernel
theorem dX7_mixPair_137 : decode cX7_mixPair 137 = .ok (.lload 6, 2) := by decide +kernel
theorem dX7_mixPair_139 : decode cX7_mixPair 139 = .ok (.invokestatic 156, 3) := by decide +kernel
theorem dX7_mixPair_142 : decode cX7_mixPair 142 = .ok (.ladd, 1) := by decide +kernel
theorem dX7_mixPair_143 : decode cX7_mixPair 143 = .ok (.lastore, 1) := by decide +kernel
theorem dX7_mixPair_144 : decode cX7_mixPair 144 = .ok (.aload_n 0, 1) := by decide +kernel
theorem dX7_mixPair_145 : decode cX7_mixPair 145 = .ok (.getfield 15, 3) := by decide +kernel
theorem dX7_mixPair_148 : decode cX7_mixPair 148 = .ok (.iconst 3, 1) := by decide +kernel
theorem dX7_mixPair_149 : decode cX7_mixPair 149 = .ok (.aload_n 0, 1) := by decide +kernel
theorem dX7_mixPair_150 : decode cX7_mixPair 150 = .ok (.getfield 15, 3) := by decide +kernel
theorem dX7_mixPair_153 : decode cX7_mixPair 153 = .ok (.iload_n 2, 1) := by decide +kernel
theorem dX7_mixPair_154 : decode cX7_mixPair 154 = .ok (.laload, 1) := by decide +kernel
theorem dX7_mixPair_155 : decode cX7_mixPair 155 = .ok (.aload_n 0, 1) := by decide +kernel
theorem dX7_mixPair_156 : decode cX7_mixPair 156 = .ok (.getfield 15, 3) := by decide +kernel
theorem dX7_mixPair_159 : decode cX7_mixPair 159 = .ok (.iload_n 3, 1) := by decide +kernel
theorem dX7_mixPair_160 : decode cX7_mixPair 160 = .ok (.laload, 1) := by decide +kernel
theorem dX7_mixPair_161 : decode cX7_mixPair 161 = .ok (.ladd, 1) := by decide +kernel
theorem dX7_mixPair_162 : decode cX7_mixPair 162 = .ok (.lastore, 1) := by decide +kernel
theorem dX7_mixPair_163 : decode cX7_mixPair 163 = .ok (.iconst 1, 1) := by decide +kernel
theorem dX7_mixPair_164 : decode cX7_mixPair 164 = .ok (.ireturn, 1) := by decide +kernel
set_option maxRecDepth 100000 in
set_option maxHeartbeats 4000000 in
theorem mtX7_mixPair (l : Launch) (dC : Nat → ClassId) (dI : Nat → Nat → Nat) (cI cL cB : ClassId) (K : Nat) (h_t h_t_chosen h_t_mixed h_t_near h_p1 h_p1_x h_p1_y h_p1_colour h_p1_load : Nat) (sz : Nat) (t_gone : Int32) (t_stuck : Int32) (t_longest : Int32) (t_side : Int32) (t_chosen : Nat → Int32) (t_mixed : Nat → Int64) (p1_size : Int32) (p1_centreX : Int32) (p1_centreY : Int32) (p1_x : Nat → Int32) (p1_y : Nat → Int32) (a2 : Int32) (a3 : Int32) (o_r : Int32) (o_t_mixed : Nat → Int64) (hf : fX7_mixPair K t_chosen t_mixed p1_centreX p1_centreY p1_x p1_y a2 a3 = some (o_r, o_t_mixed)) : Met l yX7_mixPair [Cond.code yX7_mixPair cX7_mixPair 12 (some .boolean)] ({ frames := 1, cells := 0, slots := 0, locals := 27 }) (va_Pc [.ref h_t, .ref h_p1, .int a2, .int a3] (cPre dC dI cI cL cB sz [(h_t, .inr (7, [.ref h_t_chosen, .ref h_t_mixed, .ref h_t_near, .int t_gone, .int t_stuck, .int t_longest, .int t_side])), (h_t_chosen, .inl (cI, 3, .inl t_chosen)), (h_t_mixed, .inl (cL, 4, .inr (.inl t_mixed))), (h_p1, .inr (0, [.ref h_p1_x, .ref h_p1_y, .ref h_p1_colour, .ref h_p1_load, .int p1_size, .int p1_centreX, .int p1_centreY])), (h_p1_x, .inl (cI, 24, .inl p1_x)), (h_p1_y, .inl (cI, 24, .inl p1_y))])) (cQi dC dI (va_A [(h_t, .inr (7, [.ref h_t_chosen, .ref h_t_mixed, .ref h_t_near, .int t_gone, .int t_stuck, .int t_longest, .int t_side])), (h_t_chosen, .inl (cI, 3, .inl t_chosen)), (h_t_mixed, .inl (cL, 4, .inr (.inl t_mixed))), (h_p1, .inr (0, [.ref h_p1_x, .ref h_p1_y, .ref h_p1_colour, .ref h_p1_load, .int p1_size, .int p1_centreX, .int p1_centreY])), (h_p1_x, .inl (cI, 24, .inl p1_x)), (h_p1_y, .inl (cI, 24, .inl p1_y))] sz) o_r [(h_t, .inr (7, [.ref h_t_chosen, .ref h_t_mixed, .ref h_t_near, .int t_gone, .int t_stuck, .int t_longest, .int t_side])), (h_t_chosen, .inl (cI, 3, .inl t_chosen)), (h_t_mixed, .inl (cL, 4, .inr (.inl o_t_mixed))), (h_p1, .inr (0, [.ref h_p1_x, .ref h_p1_y, .ref h_p1_colour, .ref h_p1_load, .int p1_size, .int p1_centreX, .int p1_centreY])), (h_p1_x, .inl (cI, 24, .inl p1_x)), (h_p1_y, .inl (cI, 24, .inl p1_y))]) 0 0 (va_A [(h_t, .inr (7, [.ref h_t_chosen, .ref h_t_mixed, .ref h_t_near, .int t_gone, .int t_stuck, .int t_longest, .int t_side])), (h_t_chosen, .inl (cI, 3, .inl t_chosen)), (h_t_mixed, .inl (cL, 4, .inr (.inl t_mixed))), (h_p1, .inr (0, [.ref h_p1_x, .ref h_p1_y, .ref h_p1_colour, .ref h_p1_load, .int p1_size, .int p1_centreX, .int p1_centreY])), (h_p1_x, .inl (cI, 24, .inl p1_x)), (h_p1_y, .inl (cI, 24, .inl p1_y))] sz) := by
  refine Met.ofW (cc := cX7_mixPair) (maxL := 12) (ret := (some .boolean)) (by decide) rfl ?_
  intro p e s m args below meth c s₁ B hml hv
  obtain ⟨rfl, hsz, hP, hK, hD0, hT⟩ := hv
  have hx := B.exec
  have hb := B.bytes
  have hr := B.returns
  have hown : s.vm.findClass RX7 = some m.cls := findClass_of_methodNamed B.named
  have hlocks := B.notSynchronized
  have hts := TB.use hT ([.ref h_t, .ref h_p1, .int a2, .int a3] : List Value).toArray
  subst hsz
  have hD := hD0.self (sz := s.heap.size)
  generalize hAe : va_A [(h_t, .inr (7, [.ref h_t_chosen, .ref h_t_mixed, .ref h_t_near, .int t_gone, .int t_stuck, .int t_longest, .int t_side])), (h_t_chosen, .inl (cI, 3, .inl t_chosen)), (h_t_mixed, .inl (cL, 4, .inr (.inl t_mixed))), (h_p1, .inr (0, [.ref h_p1_x, .ref h_p1_y, .ref h_p1_colour, .ref h_p1_load, .int p1_size, .int p1_centreX, .int p1_centreY])), (h_p1_x, .inl (cI, 24, .inl p1_x)), (h_p1_y, .inl (cI, 24, .inl p1_y))] s.heap.size = A at hD ⊢
  have hA : ∀ q : Nat, s.heap.size ≤ q → A q := fun q h => by rw [← hAe]; exact Or.inr h
  clear hAe hD0
  have hl := lv_entry ([.ref h_t, .ref h_p1, .int a2, .int a3]) (n := 12) (Nat.le_of_ble_eq_true rfl)
  rw [lg_entry_eq]
  generalize (lg_sl ([.ref h_t, .ref h_p1, .int a2, .int a3]) ++ List.replicate (12 - (lg_sl ([.ref h_t, .ref h_p1, .int a2, .int a3])).length) Slot.unset).toArray = ls at hl ⊢
  have hl : lv_has ls 12 [(0, .ref h_t), (1, .ref h_p1), (2, .int a2), (3, .int a3)] := hl
  have hF : 1 ≤ (headSpec [Cond.code yX7_mixPair cX7_mixPair 12 (some .boolean)] ({ frames := 1, cells := 0, slots := 0, locals := 27 })).room.frames := Nat.le_refl _
  have hLo : 27 ≤ (headSpec [Cond.code yX7_mixPair cX7_mixPair 12 (some .boolean)] ({ frames := 1, cells := 0, slots := 0, locals := 27 })).room.locals := Nat.le_refl _
  have C0 : Sx p (headSpec [Cond.code yX7_mixPair cX7_mixPair 12 (some .boolean)] ({ frames := 1, cells := 0, slots := 0, locals := 27 })).room s m ([.ref h_t, .ref h_p1, .int a2, .int a3] : List Value).toArray c cX7_mixPair 12 RX7 A dC dI cI cL cB 1 27 := ⟨hx, hb, hml, hown, hts, hK, hT, hA, hF, hLo⟩
  refine startH (A := A) hP (fun H locs hP hS => ?_)
  rw [fX7_mixPair] at hf
  refine lv_aload_n hx hb dX7_mixPair_0 rfl (lv_at hl 1 rfl) ?_
  refine va_get (D := (dC, dI)) (ci := 0) (v := .ref h_p1_x) (C := RX0) (T := TX0) (N := 7) hx hb hts in_X0 hown hK hP 3 rfl rfl 0 (Nat.le_of_ble_eq_true rfl) (hts _ qf_X7_71) (fun _ h9 => h9) rfl dX7_mixPair_1 ?_
  refine lv_aload_n hx hb dX7_mixPair_4 rfl (lv_at hl 0 rfl) ?_
  refine va_get (D := (dC, dI)) (ci := 7) (v := .ref h_t_chosen) (C := RX7) (T := TX7) (N := 7) hx hb hts in_X7 hown hK hP 0 rfl rfl 0 (Nat.le_of_ble_eq_true rfl) (hts _ qf_X7_9) (fun _ h9 => h9) rfl dX7_mixPair_5 ?_
  refine lv_iload_n hx hb dX7_mixPair_8 rfl (lv_at hl 2 rfl) ?_
  obtain ⟨hg_1, hf⟩ := gd_some hf
  refine va_iald hx hb hK hP 1 0 rfl rfl (inb_in hg_1) dX7_mixPair_9 ?_
  obtain ⟨hg_2, hf⟩ := gd_some hf
  refine va_iald hx hb hK hP 4 0 rfl rfl (inb_in hg_2) dX7_mixPair_10 ?_
  refine lv_aload_n hx hb dX7_mixPair_11 rfl (lv_at hl 1 rfl) ?_
  refine va_get (D := (dC, dI)) (ci := 0) (v := .int p1_centreX) (C := RX0) (T := TX0) (N := 7) hx hb hts in_X0 hown hK hP 3 rfl rfl 5 (Nat.le_of_ble_eq_true rfl) (hts _ qf_X7_54) (fun _ h9 => h9) rfl dX7_mixPair_12 ?_
  refine lv_isub hx hb dX7_mixPair_15 ?_
  refine lv_i2l hx hb dX7_mixPair_16 rfl ?_
  refine lv_topl (fun l4_3 el4_3 => ?_)
  replace hf := xl_at hf el4_3
  refine lv_lstore (lv' := [(4, .long l4_3), (0, .ref h_t), (1, .ref h_p1), (2, .int a2), (3, .int a3)]) hx hb dX7_mixPair_17 hl (Nat.le_of_ble_eq_true rfl) rfl (fun ls hl => ?_)
  refine lv_aload_n hx hb dX7_mixPair_19 rfl (lv_at hl 2 rfl) ?_
  refine va_get (D := (dC, dI)) (ci := 0) (v := .ref h_p1_y) (C := RX0) (T := TX0) (N := 7) hx hb hts in_X0 hown hK hP 3 rfl rfl 1 (Nat.le_of_ble_eq_true rfl) (hts _ qf_X7_74) (fun _ h9 => h9) rfl dX7_mixPair_20 ?_
  refine lv_aload_n hx hb dX7_mixPair_23 rfl (lv_at hl 1 rfl) ?_
  refine va_get (D := (dC, dI)) (ci := 7) (v := .ref h_t_chosen) (C := RX7) (T := TX7) (N := 7) hx hb hts in_X7 hown hK hP 0 rfl rfl 0 (Nat.le_of_ble_eq_true rfl) (hts _ qf_X7_9) (fun _ h9 => h9) rfl dX7_mixPair_24 ?_
  refine lv_iload_n hx hb dX7_mixPair_27 rfl (lv_at hl 3 rfl) ?_
  obtain ⟨hg_4, hf⟩ := gd_some hf
  refine va_iald hx hb hK hP 1 0 rfl rfl (inb_in hg_4) dX7_mixPair_28 ?_
  obtain ⟨hg_5, hf⟩ := gd_some hf
  refine va_iald hx hb hK hP 5 0 rfl rfl (inb_in hg_5) dX7_mixPair_29 ?_
  refine lv_aload_n hx hb dX7_mixPair_30 rfl (lv_at hl 2 rfl) ?_
  refine va_get (D := (dC, dI)) (ci := 0) (v := .int p1_centreY) (C := RX0) (T := TX0) (N := 7) hx hb hts in_X0 hown hK hP 3 rfl rfl 6 (Nat.le_of_ble_eq_true rfl) (hts _ qf_X7_57) (fun _ h9 => h9) rfl dX7_mixPair_31 ?_
  refine lv_isub hx hb dX7_mixPair_34 ?_
  refine lv_i2l hx hb dX7_mixPair_35 rfl ?_
  refine lv_topl (fun l6_6 el6_6 => ?_)
  replace hf := xl_at hf el6_6
  refine lv_lstore (lv' := [(6, .long l6_6), (4, .long l4_3), (0, .ref h_t), (1, .ref h_p1), (2, .int a2), (3, .int a3)]) hx hb dX7_mixPair_36 hl (Nat.le_of_ble_eq_true rfl) rfl (fun ls hl => ?_)
  refine lv_aload_n hx hb dX7_mixPair_38 rfl (lv_at hl 3 rfl) ?_
  refine va_get (D := (dC, dI)) (ci := 0) (v := .ref h_p1_x) (C := RX0) (T := TX0) (N := 7) hx hb hts in_X0 hown hK hP 3 rfl rfl 0 (Nat.le_of_ble_eq_true rfl) (hts _ qf_X7_71) (fun _ h9 => h9) rfl dX7_mixPair_39 ?_
  refine lv_aload_n hx hb dX7_mixPair_42 rfl (lv_at hl 2 rfl) ?_
  refine va_get (D := (dC, dI)) (ci := 7) (v := .ref h_t_chosen) (C := RX7) (T := TX7) (N := 7) hx hb hts in_X7 hown hK hP 0 rfl rfl 0 (Nat.le_of_ble_eq_true rfl) (hts _ qf_X7_9) (fun _ h9 => h9) rfl dX7_mixPair_43 ?_
  refine lv_iload_n hx hb dX7_mixPair_46 rfl (lv_at hl 5 rfl) ?_
  obtain ⟨hg_7, hf⟩ := gd_some hf
  refine va_iald hx hb hK hP 1 0 rfl rfl (inb_in hg_7) dX7_mixPair_47 ?_
  obtain ⟨hg_8, hf⟩ := gd_some hf
  refine va_iald hx hb hK hP 4 0 rfl rfl (inb_in hg_8) dX7_mixPair_48 ?_
  refine lv_aload_n hx hb dX7_mixPair_49 rfl (lv_at hl 3 rfl) ?_
  refine va_get (D := (dC, dI)) (ci := 0) (v := .int p1_centreX) (C := RX0) (T := TX0) (N := 7) hx hb hts in_X0 hown hK hP 3 rfl rfl 5 (Nat.le_of_ble_eq_true rfl) (hts _ qf_X7_54) (fun _ h9 => h9) rfl dX7_mixPair_50 ?_
  refine lv_isub hx hb dX7_mixPair_53 ?_
  refine lv_i2l hx hb dX7_mixPair_54 rfl ?_
  refine lv_topl (fun l8_9 el8_9 => ?_)
  replace hf := xl_at hf el8_9
  refine lv_lstore (lv' := [(8, .long l8_9), (6, .long l6_6), (4, .long l4_3), (0, .ref h_t), (1, .ref h_p1), (2, .int a2), (3, .int a3)]) hx hb dX7_mixPair_55 hl (Nat.le_of_ble_eq_true rfl) rfl (fun ls hl => ?_)
  refine lv_aload_n hx hb dX7_mixPair_57 rfl (lv_at hl 4 rfl) ?_
  refine va_get (D := (dC, dI)) (ci := 0) (v := .ref h_p1_y) (C := RX0) (T := TX0) (N := 7) hx hb hts in_X0 hown hK hP 3 rfl rfl 1 (Nat.le_of_ble_eq_true rfl) (hts _ qf_X7_74) (fun _ h9 => h9) rfl dX7_mixPair_58 ?_
  refine lv_aload_n hx hb dX7_mixPair_61 rfl (lv_at hl 3 rfl) ?_
  refine va_get (D := (dC, dI)) (ci := 7) (v := .ref h_t_chosen) (C := RX7) (T := TX7) (N := 7) hx hb hts in_X7 hown hK hP 0 rfl rfl 0 (Nat.le_of_ble_eq_true rfl) (hts _ qf_X7_9) (fun _ h9 => h9) rfl dX7_mixPair_62 ?_
  refine lv_iload_n hx hb dX7_mixPair_65 rfl (lv_at hl 6 rfl) ?_
  obtain ⟨hg_10, hf⟩ := gd_some hf
  refine va_iald hx hb hK hP 1 0 rfl rfl (inb_in hg_10) dX7_mixPair_66 ?_
  obtain ⟨hg_11, hf⟩ := gd_some hf
  refine va_iald hx hb hK hP 5 0 rfl rfl (inb_in hg_11) dX7_mixPair_67 ?_
  refine lv_aload_n hx hb dX7_mixPair_68 rfl (lv_at hl 4 rfl) ?_
  refine va_get (D := (dC, dI)) (ci := 0) (v := .int p1_centreY) (C := RX0) (T := TX0) (N := 7) hx hb hts in_X0 hown hK hP 3 rfl rfl 6 (Nat.le_of_ble_eq_true rfl) (hts _ qf_X7_57) (fun _ h9 => h9) rfl dX7_mixPair_69 ?_
  refine lv_isub hx hb dX7_mixPair_72 ?_
  refine lv_i2l hx hb dX7_mixPair_73 rfl ?_
  refine lv_topl (fun l10_12 el10_12 => ?_)
  replace hf := xl_at hf el10_12
  refine lv_lstore (lv' := [(10, .long l10_12), (8, .long l8_9), (6, .long l6_6), (4, .long l4_3), (0, .ref h_t), (1, .ref h_p1), (2, .int a2), (3, .int a3)]) hx hb dX7_mixPair_74 hl (Nat.le_of_ble_eq_true rfl) rfl (fun ls hl => ?_)
  refine lv_lload hx hb dX7_mixPair_76 (lv_at hl 3 rfl) ?_
  refine lv_lload hx hb dX7_mixPair_78 (lv_at hl 2 rfl) ?_
  refine lv_lload hx hb dX7_mixPair_80 (lv_at hl 1 rfl) ?_
  refine lv_lload hx hb dX7_mixPair_82 (lv_at hl 0 rfl) ?_
  obtain ⟨r_13, hq_14, hf⟩ := b1_some hf
  refine xcl (wr := [(h_t, .inr (7, [.ref h_t_chosen, .ref h_t_mixed, .ref h_t_near, .int t_gone, .int t_stuck, .int t_longest, .int t_side])), (h_t_chosen, .inl (cI, 3, .inl t_chosen)), (h_t_mixed, .inl (cL, 4, .inr (.inl t_mixed))), (h_p1, .inr (0, [.ref h_p1_x, .ref h_p1_y, .ref h_p1_colour, .ref h_p1_load, .int p1_size, .int p1_centreX, .int p1_centreY])), (h_p1_x, .inl (cI, 24, .inl p1_x)), (h_p1_y, .inl (cI, 24, .inl p1_y))]) (w2 := [(h_t, .inr (7, [.ref h_t_chosen, .ref h_t_mixed, .ref h_t_near, .int t_gone, .int t_stuck, .int t_longest, .int t_side])), (h_t_chosen, .inl (cI, 3, .inl t_chosen)), (h_t_mixed, .inl (cL, 4, .inr (.inl t_mixed))), (h_p1, .inr (0, [.ref h_p1_x, .ref h_p1_y, .ref h_p1_colour, .ref h_p1_load, .int p1_size, .int p1_centreX, .int p1_centreY])), (h_p1_x, .inl (cI, 24, .inl p1_x)), (h_p1_y, .inl (cI, 24, .inl p1_y))]) (va_runSN (As := [.long l4_3, .long l6_6, .long l8_9, .long l10_12]) (rest := []) ⟨hx, hb, hml, hown, hts⟩ (mtX11_cross l dC dI cI cL cB K H.size l4_3 l6_6 l8_9 l10_12 r_13 hq_14) ⟨va_cnB 4 hts (gcode qc_X11_cross) rfl rfl rfl (hT _ qm_X7_152) (hts _ qz_X11) hdS_X11_cross ⟨Nat.le_trans (Nat.le_of_ble_eq_true rfl) hF, Nat.le_trans (Nat.le_of_ble_eq_true rfl) hLo⟩, hts _ qt_X11_cross, trivial⟩ (cPreS hK hP hD hT [] rfl rfl) rfl rfl hl.1 rfl (lv_room (Nat.le_of_ble_eq_true rfl)) dX7_mixPair_84 ⟨Nat.zero_le _, Nat.zero_le _⟩) hP hD hS hA [] [0, 1, 2, 3, 4, 5] [0, 1, 2, 3, 4, 5] rfl rfl rfl rfl rfl rfl (fun H locs hP hD hS => ?_)
  refine lv_lconst (v := (0 : Int64)) hx hb dX7_mixPair_87 (by decide) ?_
  refine W.lcmp hx hb dX7_mixPair_88 ?_
  refine lv_if_ne (tgt := 108) hx hb dX7_mixPair_89 (by decide) (fun hc => ?_) (fun hc => ?_)
  · replace hf := it_f (fun h9 => hc ((lg_cmp_eq _ _).mpr h9)) hf
    refine lv_iconst (v := (0 : Int32)) hx hb dX7_mixPair_108 (by decide) ?_
    obtain ⟨rfl, rfl⟩ := o2 hf
    exact W.zret hx hb hr rfl (fun t ht hW => ⟨⟨_, (), rfl, rfl, by rw [ht]; exact hP, hD⟩, hS.F ht⟩) hS.2.2 dX7_mixPair_109
  · replace hf := it_t ((lg_cmp_eq _ _).mp hc) hf
    refine lv_lload hx hb dX7_mixPair_92 (lv_at hl 3 rfl) ?_
    refine lv_lload hx hb dX7_mixPair_94 (lv_at hl 1 rfl) ?_
    refine lv_lmul hx hb dX7_mixPair_96 ?_
    refine lv_lload hx hb dX7_mixPair_97 (lv_at hl 2 rfl) ?_
    refine lv_lload hx hb dX7_mixPair_99 (lv_at hl 0 rfl) ?_
    refine lv_lmul hx hb dX7_mixPair_101 ?_
    refine lv_ladd hx hb dX7_mixPair_102 ?_
    refine lv_lconst (v := (0 : Int64)) hx hb dX7_mixPair_103 (by decide) ?_
    refine W.lcmp hx hb dX7_mixPair_104 ?_
    refine lv_if_lt (tgt := 110) hx hb dX7_mixPair_105 (by decide) (fun hc => ?_) (fun hc => ?_)
    · replace hf := it_t ((lg_cmp_lt _ _).mp hc) hf
      refine lv_aload_n hx hb dX7_mixPair_110 rfl (lv_at hl 4 rfl) ?_
      refine va_get (D := (dC, dI)) (ci := 7) (v := .ref h_t_mixed) (C := RX7) (T := TX7) (N := 7) hx hb hts in_X7 hown hK hP 0 rfl rfl 1 (Nat.le_of_ble_eq_true rfl) (hts _ qf_X7_15) (fun _ h9 => h9) rfl dX7_mixPair_111 ?_
      refine lv_iload_n hx hb dX7_mixPair_114 rfl (lv_at hl 6 rfl) ?_
      refine lv_lload hx hb dX7_mixPair_115 (lv_at hl 1 rfl) ?_
      refine va_mabs_long hx hb (hml.trans hl.1.symm) hown (hts _ qm_X7_156) (hts _ qt_Lib_MathLoose_abs_long) (hts _ qz_Math) (hts _ qc_Lib_MathLoose_abs_long) (Nat.le_trans (Nat.le_of_ble_eq_true rfl) hF) (Nat.le_trans (Nat.le_of_ble_eq_true rfl) hLo) (Nat.zero_le _) (Nat.zero_le _) dX7_mixPair_117 ?_
      refine lv_topl (fun v_15 ev_15 => ?_)
      replace hf := xl_at hf ev_15
      refine lv_lload hx hb dX7_mixPair_120 (lv_at hl 0 rfl) ?_
      refine va_mabs_long hx hb (hml.trans hl.1.symm) hown (hts _ qm_X7_156) (hts _ qt_Lib_MathLoose_abs_long) (hts _ qz_Math) (hts _ qc_Lib_MathLoose_abs_long) (Nat.le_trans (Nat.le_of_ble_eq_true rfl) hF) (Nat.le_trans (Nat.le_of_ble_eq_true rfl) hLo) (Nat.zero_le _) (Nat.zero_le _) dX7_mixPair_122 ?_
      refine lv_topl (fun v_16 ev_16 => ?_)
      replace hf := xl_at hf ev_16
      refine lv_ladd hx hb dX7_mixPair_125 ?_
      obtain ⟨hg_17, hf⟩ := gd_some hf
      obtain ⟨t_mixed_18, et_mixed_18⟩ : ∃ y : Nat → Int64, y = vp_updL t_mixed a2.toNatClampNeg (v_15 + v_16) := ⟨_, rfl⟩
      replace hf := xl_at hf et_mixed_18
      refine xlast (w2 := [(h_t, .inr (7, [.ref h_t_chosen, .ref h_t_mixed, .ref h_t_near, .int t_gone, .int t_stuck, .int t_longest, .int t_side])), (h_t_chosen, .inl (cI, 3, .inl t_chosen)), (h_t_mixed, .inl (cL, 4, .inr (.inl t_mixed_18))), (h_p1, .inr (0, [.ref h_p1_x, .ref h_p1_y, .ref h_p1_colour, .ref h_p1_load, .int p1_size, .int p1_centreX, .int p1_centreY])), (h_p1_x, .inl (cI, 24, .inl p1_x)), (h_p1_y, .inl (cI, 24, .inl p1_y))]) hx hb hK hP hD hS 2 1 rfl rfl (inb_in hg_17) et_mixed_18 rfl dX7_mixPair_126 (fun H locs hP hD hS => ?_)
      refine lv_aload_n hx hb dX7_mixPair_127 rfl (lv_at hl 4 rfl) ?_
      refine va_get (D := (dC, dI)) (ci := 7) (v := .ref h_t_mixed) (C := RX7) (T := TX7) (N := 7) hx hb hts in_X7 hown hK hP 0 rfl rfl 1 (Nat.le_of_ble_eq_true rfl) (hts _ qf_X7_15) (fun _ h9 => h9) rfl dX7_mixPair_128 ?_
      refine lv_iload_n hx hb dX7_mixPair_131 rfl (lv_at hl 7 rfl) ?_
      refine lv_lload hx hb dX7_mixPair_132 (lv_at hl 3 rfl) ?_
      refine va_mabs_long hx hb (hml.trans hl.1.symm) hown (hts _ qm_X7_156) (hts _ qt_Lib_MathLoose_abs_long) (hts _ qz_Math) (hts _ qc_Lib_MathLoose_abs_long) (Nat.le_trans (Nat.le_of_ble_eq_true rfl) hF) (Nat.le_trans (Nat.le_of_ble_eq_true rfl) hLo) (Nat.zero_le _) (Nat.zero_le _) dX7_mixPair_134 ?_
      refine lv_topl (fun v_19 ev_19 => ?_)
      replace hf := xl_at hf ev_19
      refine lv_lload hx hb dX7_mixPair_137 (lv_at hl 2 rfl) ?_
      refine va_mabs_long hx hb (hml.trans hl.1.symm) hown (hts _ qm_X7_156) (hts _ qt_Lib_MathLoose_abs_long) (hts _ qz_Math) (hts _ qc_Lib_MathLoose_abs_long) (Nat.le_trans (Nat.le_of_ble_eq_true rfl) hF) (Nat.le_trans (Nat.le_of_ble_eq_true rfl) hLo) (Nat.zero_le _) (Nat.zero_le _) dX7_mixPair_139 ?_
      refine lv_topl (fun v_20 ev_20 => ?_)
      replace hf := xl_at hf ev_20
      refine lv_ladd hx hb dX7_mixPair_142 ?_
      obtain ⟨hg_21, hf⟩ := gd_some hf
      obtain ⟨t_mixed_22, et_mixed_22⟩ : ∃ y : Nat → Int64, y = vp_updL t_mixed_18 a3.toNatClampNeg (v_19 + v_20) := ⟨_, rfl⟩
      replace hf := xl_at hf et_mixed_22
      refine xlast (w2 := [(h_t, .inr (7, [.ref h_t_chosen, .ref h_t_mixed, .ref h_t_near, .int t_gone, .int t_stuck, .int t_longest, .int t_side])), (h_t_chosen, .inl (cI, 3, .inl t_chosen)), (h_t_mixed, .inl (cL, 4, .inr (.inl t_mixed_22))), (h_p1, .inr (0, [.ref h_p1_x, .ref h_p1_y, .ref h_p1_colour, .ref h_p1_load, .int p1_size, .int p1_centreX, .int p1_centreY])), (h_p1_x, .inl (cI, 24, .inl p1_x)), (h_p1_y, .inl (cI, 24, .inl p1_y))]) hx hb hK hP hD hS 2 1 rfl rfl (inb_in hg_21) et_mixed_22 rfl dX7_mixPair_143 (fun H locs hP hD hS => ?_)
      refine lv_aload_n hx hb dX7_mixPair_144 rfl (lv_at hl 4 rfl) ?_
      refine va_get (D := (dC, dI)) (ci := 7) (v := .ref h_t_mixed) (C := RX7) (T := TX7) (N := 7) hx hb hts in_X7 hown hK hP 0 rfl rfl 1 (Nat.le_of_ble_eq_true rfl) (hts _ qf_X7_15) (fun _ h9 => h9) rfl dX7_mixPair_145 ?_
      refine lv_iconst (v := (3 : Int32)) hx hb dX7_mixPair_148 (by decide) ?_
      refine lv_aload_n hx hb dX7_mixPair_149 rfl (lv_at hl 4 rfl) ?_
      refine va_get (D := (dC, dI)) (ci := 7) (v := .ref h_t_mixed) (C := RX7) (T := TX7) (N := 7) hx hb hts in_X7 hown hK hP 0 rfl rfl 1 (Nat.le_of_ble_eq_true rfl) (hts _ qf_X7_15) (fun _ h9 => h9) rfl dX7_mixPair_150 ?_
      refine lv_iload_n hx hb dX7_mixPair_153 rfl (lv_at hl 6 rfl) ?_
      obtain ⟨hg_23, hf⟩ := gd_some hf
      refine va_lald hx hb hK hP 2 1 rfl rfl (inb_in hg_23) dX7_mixPair_154 ?_
      refine lv_aload_n hx hb dX7_mixPair_155 rfl (lv_at hl 4 rfl) ?_
      refine va_get (D := (dC, dI)) (ci := 7) (v := .ref h_t_mixed) (C := RX7) (T := TX7) (N := 7) hx hb hts in_X7 hown hK hP 0 rfl rfl 1 (Nat.le_of_ble_eq_true rfl) (hts _ qf_X7_15) (fun _ h9 => h9) rfl dX7_mixPair_156 ?_
      refine lv_iload_n hx hb dX7_mixPair_159 rfl (lv_at hl 7 rfl) ?_
      obtain ⟨hg_24, hf⟩ := gd_some hf
      refine va_lald hx hb hK hP 2 1 rfl rfl (inb_in hg_24) dX7_mixPair_160 ?_
      refine lv_ladd hx hb dX7_mixPair_161 ?_
      obtain ⟨t_mixed_25, et_mixed_25⟩ : ∃ y : Nat → Int64, y = vp_updL t_mixed_22 (3 : Int32).toNatClampNeg ((t_mixed_22 a2.toNatClampNeg) + (t_mixed_22 a3.toNatClampNeg)) := ⟨_, rfl⟩
      replace hf := xl_at hf et_mixed_25
      refine xlast (w2 := [(h_t, .inr (7, [.ref h_t_chosen, .ref h_t_mixed, .ref h_t_near, .int t_gone, .int t_stuck, .int t_longest, .int t_side])), (h_t_chosen, .inl (cI, 3, .inl t_chosen)), (h_t_mixed, .inl (cL, 4, .inr (.inl t_mixed_25))), (h_p1, .inr (0, [.ref h_p1_x, .ref h_p1_y, .ref h_p1_colour, .ref h_p1_load, .int p1_size, .int p1_centreX, .int p1_centreY])), (h_p1_x, .inl (cI, 24, .inl p1_x)), (h_p1_y, .inl (cI, 24, .inl p1_y))]) hx hb hK hP hD hS 2 1 rfl rfl (inb_in (by decide)) et_mixed_25 rfl dX7_mixPair_162 (fun H locs hP hD hS => ?_)
      refine lv_iconst (v := (1 : Int32)) hx hb dX7_mixPair_163 (by decide) ?_
      obtain ⟨rfl, rfl⟩ := o2 hf
      exact W.zret hx hb hr rfl (fun t ht hW => ⟨⟨_, (), rfl, rfl, by rw [ht]; exact hP, hD⟩, hS.F ht⟩) hS.2.2 dX7_mixPair_164
    · replace hf := it_f (fun h9 => hc ((lg_cmp_lt _ _).mpr h9)) hf
      refine lv_iconst (v := (0 : Int32)) hx hb dX7_mixPair_108 (by decide) ?_
      obtain ⟨rfl, rfl⟩ := o2 hf
      exact W.zret hx hb hr rfl (fun t ht hW => ⟨⟨_, (), rfl, rfl, by rw [ht]; exact hP, hD⟩, hS.F ht⟩) hS.2.2 dX7_mixPair_109
theorem dX7_mixTwo_0 : decode cX7_mixTwo 0 = .ok (.iconst 0, 1) := by decide +kernel
theorem dX7_mixTwo_1 : decode cX7_mixTwo 1 = .ok (.istore_n 2, 1) := by decide +kernel
theorem dX7_mixTwo_2 : decode cX7_mixTwo 2 = .ok (.iload_n 2, 1) := by decide +kernel
theorem dX7_mixTwo_3 : decode cX7_mixTwo 3 = .ok (.iconst 3, 1) := by decide +kernel
theorem dX7_mixTwo_4 : decode cX7_mixTwo 4 = .ok (.if_icmp .ge 36, 3) := by decide +kernel
theorem dX7_mixTwo_7 : decode cX7_mixTwo 7 = .ok (.iload_n 2, 1) := by decide +kernel
theorem dX7_mixTwo_8 : decode cX7_mixTwo 8 = .ok (.iconst 1, 1) := by decide +kernel
theorem dX7_mixTwo_9 : decode cX7_mixTwo 9 = .ok (.iadd, 1) := by decide +kernel
theorem dX7_mixTwo_10 : decode cX7_mixTwo 10 = .ok (.istore_n 3, 1) := by decide +kernel
theorem dX7_mixTwo_11 : decode cX7_mixTwo 11 = .ok (.iload_n 3, 1) := by decide +kernel
theorem dX7_mixTwo_12 : decode cX7_mixTwo 12 = .ok (.iconst 3, 1) := by decide +kernel
theorem dX7_mixTwo_13 : decode cX7_mixTwo 13 = .ok (.if_icmp .ge 21, 3) := by decide +kernel
theorem dX7_mixTwo_16 : decode cX7_mixTwo 16 = .ok (.aload_n 0, 1) := by decide +kernel
theorem dX7_mixTwo_17 : decode cX7_mixTwo 17 = .ok (.aload_n 1, 1) := by decide +kernel
theorem dX7_mixTwo_18 : decode cX7_mixTwo 18 = .ok (.iload_n 2, 1) := by decide +kernel
theorem dX7_mixTwo_19 : decode cX7_mixTwo 19 = .ok (.iload_n 3, 1) := by decide +kernel
theorem dX7_mixTwo_20 : decode cX7_mixTwo 20 = .ok (.invokevirtual 149, 3) := by decide +kernel
theorem dX7_mixTwo_23 : decode cX7_mixTwo 23 = .ok (.ifCond .eq 5, 3) := by decide +kernel
theorem dX7_mixTwo_26 : decode cX7_mixTwo 26 = .ok (.iconst 1, 1) := by decide +kernel
theorem dX7_mixTwo_27 : decode cX7_mixTwo 27 = .ok (.ireturn, 1) := by decide +kernel
theorem dX7_mixTwo_28 : decode cX7_mixTwo 28 = .ok (.iinc 3 1, 3) := by decide +kernel
theorem dX7_mixTwo_31 : decode cX7_mixTwo 31 = .ok (.goto (-20), 3) := by decide +kernel
theorem dX7_mixTwo_34 : decode cX7_mixTwo 34 = .ok (.iinc 2 1, 3) := by decide +kernel
theorem dX7_mixTwo_37 : decode cX7_mixTwo 37 = .ok (.goto (-35), 3) := by decide +kernel
theorem dX7_mixTwo_40 : decode cX7_mixTwo 40 = .ok (.iconst 0, 1) := by decide +kernel
theorem dX7_mixTwo_41 : decode cX7_mixTwo 41 = .ok (.ireturn, 1) := by decide +kernel
set_option maxRecDepth 100000 in
set_option maxHeartbeats 4000000 in
theorem wX7_mixTwo_L11 {p : Program} {l : Launch} {e : Env} {R : Room} {s : State} {m : MethodId} {args : Array Value} {below : List Frame} {meth : Method} {c : Code} {Q : State → Prop} {A : Nat → Prop} {dC : Nat → ClassId} {dI : Nat → Nat → Nat} {cI cL cB : ClassId} {K : Nat} (C0 : Sx p R s m args c cX7_mixTwo 4 RX7 A dC dI cI cL cB 2 58) (h_t h_t_chosen h_t_mixed h_t_near h_p1 h_p1_x h_p1_y h_p1_colour h_p1_load : Nat) (t_gone : Int32) (t_stuck : Int32) (t_longest : Int32) (t_side : Int32) (t_chosen : Nat → Int32) (p1_size : Int32) (p1_centreX : Int32) (p1_centreY : Int32) (p1_x : Nat → Int32) (p1_y : Nat → Int32) (l2 : Int32) : ∀ (n : Nat) (l3 : Int32) (t_mixed : Nat → Int64) (ex : ((Nat → Int64)) ⊕ ((Nat → Int64))) (H : Heap) (locs : List Loc) (ls : Array Slot), va_P (dC, dI) vwCl [(h_t, .inr (7, [.ref h_t_chosen, .ref h_t_mixed, .ref h_t_near, .int t_gone, .int t_stuck, .int t_longest, .int t_side])), (h_t_chosen, .inl (cI, 3, .inl t_chosen)), (h_t_mixed, .inl (cL, 4, .inr (.inl t_mixed))), (h_p1, .inr (0, [.ref h_p1_x, .ref h_p1_y, .ref h_p1_colour, .ref h_p1_load, .int p1_size, .int p1_centreX, .int p1_centreY])), (h_p1_x, .inl (cI, 24, .inl p1_x)), (h_p1_y, .inl (cI, 24, .inl p1_y))] H → va_D A [(h_t, .inr (7, [.ref h_t_chosen, .ref h_t_mixed, .ref h_t_near, .int t_gone, .int t_stuck, .int t_longest, .int t_side])), (h_t_chosen, .inl (cI, 3, .inl t_chosen)), (h_t_mixed, .inl (cL, 4, .inr (.inl t_mixed))), (h_p1, .inr (0, [.ref h_p1_x, .ref h_p1_y, .ref h_p1_colour, .ref h_p1_load, .int p1_size, .int p1_centreX, .int p1_centreY])), (h_p1_x, .inl (cI, 24, .inl p1_x)), (h_p1_y, .inl (cI, 24, .inl p1_y))] → va_S A s.heap H locs → lv_has ls 4 [(0, .ref h_t), (1, .ref h_p1), (2, .int l2), (3, .int l3)] → fX7_mixTwo_L11 K l2 t_chosen p1_centreX p1_centreY p1_x p1_y n l3 t_mixed = some ex → (∀ (x_t_mixed : Nat → Int64), ex = (.inl x_t_mixed) → ∀ (H : Heap) (locs : List Loc) (ls : Array Slot), va_P (dC, dI) vwCl [(h_t, .inr (7, [.ref h_t_chosen, .ref h_t_mixed, .ref h_t_near, .int t_gone, .int t_stuck, .int t_longest, .int t_side])), (h_t_chosen, .inl (cI, 3, .inl t_chosen)), (h_t_mixed, .inl (cL, 4, .inr (.inl x_t_mixed))), (h_p1, .inr (0, [.ref h_p1_x, .ref h_p1_y, .ref h_p1_colour, .ref h_p1_load, .int p1_size, .int p1_centreX, .int p1_centreY])), (h_p1_x, .inl (cI, 24, .inl p1_x)), (h_p1_y, .inl (cI, 24, .inl p1_y))] H → va_D A [(h_t, .inr (7, [.ref h_t_chosen, .ref h_t_mixed, .ref h_t_near, .int t_gone, .int t_stuck, .int t_longest, .int t_side])), (h_t_chosen, .inl (cI, 3, .inl t_chosen)), (h_t_mixed, .inl (cL, 4, .inr (.inl x_t_mixed))), (h_p1, .inr (0, [.ref h_p1_x, .ref h_p1_y, .ref h_p1_colour, .ref h_p1_load, .int p1_size, .int p1_centreX, .int p1_centreY])), (h_p1_x, .inl (cI, 24, .inl p1_x)), (h_p1_y, .inl (cI, 24, .inl p1_y))] → va_S A s.heap H locs → lv_has ls 4 [] → W p l e R s m args below meth c H locs 0 0 Q (F0 m 26 ls [])) → (∀ (x_t_mixed : Nat → Int64), ex = (.inr x_t_mixed) → ∀ (H : Heap) (locs : List Loc) (ls : Array Slot), va_P (dC, dI) vwCl [(h_t, .inr (7, [.ref h_t_chosen, .ref h_t_mixed, .ref h_t_near, .int t_gone, .int t_stuck, .int t_longest, .int t_side])), (h_t_chosen, .inl (cI, 3, .inl t_chosen)), (h_t_mixed, .inl (cL, 4, .inr (.inl x_t_mixed))), (h_p1, .inr (0, [.ref h_p1_x, .ref h_p1_y, .ref h_p1_colour, .ref h_p1_load, .int p1_size, .int p1_centreX, .int p1_centreY])), (h_p1_x, .inl (cI, 24, .inl p1_x)), (h_p1_y, .inl (cI, 24, .inl p1_y))] H → va_D A [(h_t, .inr (7, [.ref h_t_chosen, .ref h_t_mixed, .ref h_t_near, .int t_gone, .int t_stuck, .int t_longest, .int t_side])), (h_t_chosen, .inl (cI, 3, .inl t_chosen)), (h_t_mixed, .inl (cL, 4, .inr (.inl x_t_mixed))), (h_p1, .inr (0, [.ref h_p1_x, .ref h_p1_y, .ref h_p1_colour, .ref h_p1_load, .int p1_size, .int p1_centreX, .int p1_centreY])), (h_p1_x, .inl (cI, 24, .inl p1_x)), (h_p1_y, .inl (cI, 24, .inl p1_y))] → va_S A s.heap H locs → lv_has ls 4 [(0, .ref h_t), (1, .ref h_p1), (2, .int l2)] → W p l e R s m args below meth c H locs 0 0 Q (F0 m 34 ls [])) → W p l e R s m args below meth c H locs 0 0 Q (F0 m 11 ls []) := by
  obtain ⟨hx, hb, hml, hown, hts, hK, hT, hA, hF, hLo⟩ := id C0
  intro n
  induction n with
  | zero =>
    intro l3 t_mixed ex H locs ls hP hD hS hl hf
    rw [fX7_mixTwo_L11] at hf
    cases hf
  | succ n ih =>
    intro l3 t_mixed ex H locs ls hP hD hS hl hf hk0 hk1
    rw [fX7_mixTwo_L11] at hf
    refine lv_iload_n hx hb dX7_mixTwo_11 rfl (lv_at hl 3 rfl) ?_
    refine lv_iconst (v := (3 : Int32)) hx hb dX7_mixTwo_12 (by decide) ?_
    refine lv_icmp_ge (tgt := 34) hx hb dX7_mixTwo_13 (by decide) (fun hc => ?_) (fun hc => ?_)
    · replace hf := it_t (hc) hf
      exact hk1 t_mixed (Option.some.inj hf).symm H locs ls hP hD hS (lv_sub hl [0, 1, 2] rfl)
    · replace hf := it_f (hc) hf
      refine lv_aload_n hx hb dX7_mixTwo_16 rfl (lv_at hl 0 rfl) ?_
      refine lv_aload_n hx hb dX7_mixTwo_17 rfl (lv_at hl 1 rfl) ?_
      refine lv_iload_n hx hb dX7_mixTwo_18 rfl (lv_at hl 2 rfl) ?_
      refine lv_iload_n hx hb dX7_mixTwo_19 rfl (lv_at hl 3 rfl) ?_
      obtain ⟨r_2, t_mixed_3, hq_4, hf⟩ := b2_some hf
      refine xci (wr := []) (w2 := [(h_t, .inr (7, [.ref h_t_chosen, .ref h_t_mixed, .ref h_t_near, .int t_gone, .int t_stuck, .int t_longest, .int t_side])), (h_t_chosen, .inl (cI, 3, .inl t_chosen)), (h_t_mixed, .inl (cL, 4, .inr (.inl t_mixed_3))), (h_p1, .inr (0, [.ref h_p1_x, .ref h_p1_y, .ref h_p1_colour, .ref h_p1_load, .int p1_size, .int p1_centreX, .int p1_centreY])), (h_p1_x, .inl (cI, 24, .inl p1_x)), (h_p1_y, .inl (cI, 24, .inl p1_y))]) (va_runV (As := [.ref h_p1, .int l2, .int l3]) (rest := []) ⟨hx, hb, hml, hown, hts⟩ (mtX7_mixPair l dC dI cI cL cB K h_t h_t_chosen h_t_mixed h_t_near h_p1 h_p1_x h_p1_y h_p1_colour h_p1_load H.size t_gone t_stuck t_longest t_side t_chosen t_mixed p1_size p1_centreX p1_centreY p1_x p1_y l2 l3 r_2 t_mixed_3 hq_4) (cwV 3 hts gv_X7_149 rfl rfl rfl hdV_X7_mixPair ⟨Nat.le_trans (Nat.le_of_ble_eq_true rfl) hF, Nat.le_trans (Nat.le_of_ble_eq_true rfl) hLo⟩) (cPreV hK hP hD hT [0, 1, 2, 3, 4, 5] rfl rfl (ci := 7) (q0 := 0) rfl rfl) rfl rfl hl.1 rfl (lv_room (Nat.le_of_ble_eq_true rfl)) dX7_mixTwo_20 ⟨Nat.zero_le _, Nat.zero_le _⟩) hP hD hS hA [0, 1, 2, 3, 4, 5] [] [0, 1, 2, 3, 4, 5] rfl rfl rfl rfl rfl rfl (fun H locs hP hD hS => ?_)
      refine lv_if_eq (tgt := 28) hx hb dX7_mixTwo_23 (by decide) (fun hc => ?_) (fun hc => ?_)
      · replace hf := it_t (hc) hf
        obtain ⟨l3_5, el3_5⟩ : ∃ y : Int32, y = l3 + (1 : Int32) := ⟨_, rfl⟩
        replace hf := xl_at hf el3_5
        refine lv_iinc (v := l3_5) (lv' := [(3, .int l3_5), (0, .ref h_t), (1, .ref h_p1), (2, .int l2)]) hx hb dX7_mixTwo_28 hl (k := 3) rfl (by rw [el3_5]; rfl) (Nat.le_of_ble_eq_true rfl) rfl (fun ls hl => ?_)
        refine lv_goto (tgt := 11) hx hb dX7_mixTwo_31 (by decide) ?_
        exact ih l3_5 t_mixed_3 _ H locs ls hP hD hS (lv_sub hl [1, 2, 3, 0] rfl) hf hk0 hk1
      · replace hf := it_f (hc) hf
        exact hk0 t_mixed_3 (Option.some.inj hf).symm H locs ls hP hD hS (lv_sub hl [] rfl)
set_option maxRecDepth 100000 in
set_option maxHeartbeats 4000000 in
theorem wX7_mixTwo_L2 {p : Program} {l : Launch} {e : Env} {R : Room} {s : State} {m : MethodId} {args : Array Value} {below : List Frame} {meth : Method} {c : Code} {Q : State → Prop} {A : Nat → Prop} {dC : Nat → ClassId} {dI : Nat → Nat → Nat} {cI cL cB : ClassId} {K : Nat} (C0 : Sx p R s m args c cX7_mixTwo 4 RX7 A dC dI cI cL cB 2 58) (h_t h_t_chosen h_t_mixed h_t_near h_p1 h_p1_x h_p1_y h_p1_colour h_p1_load : Nat) (t_gone : Int32) (t_stuck : Int32) (t_longest : Int32) (t_side : Int32) (t_chosen : Nat → Int32) (p1_size : Int32) (p1_centreX : Int32) (p1_centreY : Int32) (p1_x : Nat → Int32) (p1_y : Nat → Int32) : ∀ (n : Nat) (l2 : Int32) (t_mixed : Nat → Int64) (ex : ((Nat → Int64)) ⊕ ((Nat → Int64))) (H : Heap) (locs : List Loc) (ls : Array Slot), va_P (dC, dI) vwCl [(h_t, .inr (7, [.ref h_t_chosen, .ref h_t_mixed, .ref h_t_near, .int t_gone, .int t_stuck, .int t_longest, .int t_side])), (h_t_chosen, .inl (cI, 3, .inl t_chosen)), (h_t_mixed, .inl (cL, 4, .inr (.inl t_mixed))), (h_p1, .inr (0, [.ref h_p1_x, .ref h_p1_y, .ref h_p1_colour, .ref h_p1_load, .int p1_size, .int p1_centreX, .int p1_centreY])), (h_p1_x, .inl (cI, 24, .inl p1_x)), (h_p1_y, .inl (cI, 24, .inl p1_y))] H → va_D A [(h_t, .inr (7, [.ref h_t_chosen, .ref h_t_mixed, .ref h_t_near, .int t_gone, .int t_stuck, .int t_longest, .int t_side])), (h_t_chosen, .inl (cI, 3, .inl t_chosen)), (h_t_mixed, .inl (cL, 4, .inr (.inl t_mixed))), (h_p1, .inr (0, [.ref h_p1_x, .ref h_p1_y, .ref h_p1_colour, .ref h_p1_load, .int p1_size, .int p1_centreX, .int p1_centreY])), (h_p1_x, .inl (cI, 24, .inl p1_x)), (h_p1_y, .inl (cI, 24, .inl p1_y))] → va_S A s.heap H locs → lv_has ls 4 [(0, .ref h_t), (1, .ref h_p1), (2, .int l2)] → fX7_mixTwo_L2 K t_chosen p1_centreX p1_centreY p1_x p1_y n l2 t_mixed = some ex → (∀ (x_t_mixed : Nat → Int64), ex = (.inl x_t_mixed) → ∀ (H : Heap) (locs : List Loc) (ls : Array Slot), va_P (dC, dI) vwCl [(h_t, .inr (7, [.ref h_t_chosen, .ref h_t_mixed, .ref h_t_near, .int t_gone, .int t_stuck, .int t_longest, .int t_side])), (h_t_chosen, .inl (cI, 3, .inl t_chosen)), (h_t_mixed, .inl (cL, 4, .inr (.inl x_t_mixed))), (h_p1, .inr (0, [.ref h_p1_x, .ref h_p1_y, .ref h_p1_colour, .ref h_p1_load, .int p1_size, .int p1_centreX, .int p1_centreY])), (h_p1_x, .inl (cI, 24, .inl p1_x)), (h_p1_y, .inl (cI, 24, .inl p1_y))] H → va_D A [(h_t, .inr (7, [.ref h_t_chosen, .ref h_t_mixed, .ref h_t_near, .int t_gone, .int t_stuck, .int t_longest, .int t_side])), (h_t_chosen, .inl (cI, 3, .inl t_chosen)), (h_t_mixed, .inl (cL, 4, .inr (.inl x_t_mixed))), (h_p1, .inr (0, [.ref h_p1_x, .ref h_p1_y, .ref h_p1_colour, .ref h_p1_load, .int p1_size, .int p1_centreX, .int p1_centreY])), (h_p1_x, .inl (cI, 24, .inl p1_x)), (h_p1_y, .inl (cI, 24, .inl p1_y))] → va_S A s.heap H locs → lv_has ls 4 [] → W p l e R s m args below meth c H locs 0 0 Q (F0 m 26 ls [])) → (∀ (x_t_mixed : Nat → Int64), ex = (.inr x_t_mixed) → ∀ (H : Heap) (locs : List Loc) (ls : Array Slot), va_P (dC, dI) vwCl [(h_t, .inr (7, [.ref h_t_chosen, .ref h_t_mixed, .ref h_t_near, .int t_gone, .int t_stuck, .int t_longest, .int t_side])), (h_t_chosen, .inl (cI, 3, .inl t_chosen)), (h_t_mixed, .inl (cL, 4, .inr (.inl x_t_mixed))), (h_p1, .inr (0, [.ref h_p1_x, .ref h_p1_y, .ref h_p1_colour, .ref h_p1_load, .int p1_size, .int p1_centreX, .int p1_centreY])), (h_p1_x, .inl (cI, 24, .inl p1_x)), (h_p1_y, .inl (cI, 24, .inl p1_y))] H → va_D A [(h_t, .inr (7, [.ref h_t_chosen, .ref h_t_mixed, .ref h_t_near, .int t_gone, .int t_stuck, .int t_longest, .int t_side])), (h_t_chosen, .inl (cI, 3, .inl t_chosen)), (h_t_mixed, .inl (cL, 4, .inr (.inl x_t_mixed))), (h_p1, .inr (0, [.ref h_p1_x, .ref h_p1_y, .ref h_p1_colour, .ref h_p1_load, .int p1_size, .int p1_centreX, .int p1_centreY])), (h_p1_x, .inl (cI, 24, .inl p1_x)), (h_p1_y, .inl (cI, 24, .inl p1_y))] → va_S A s.heap H locs → lv_has ls 4 [] → W p l e R s m args below meth c H locs 0 0 Q (F0 m 40 ls [])) → W p l e R s m args below meth c H locs 0 0 Q (F0 m 2 ls []) := by
  obtain ⟨hx, hb, hml, hown, hts, hK, hT, hA, hF, hLo⟩ := id C0
  intro n
  induction n with
  | zero =>
    intro l2 t_mixed ex H locs ls hP hD hS hl hf
    rw [fX7_mixTwo_L2] at hf
    cases hf
  | succ n ih =>
    intro l2 t_mixed ex H locs ls hP hD hS hl hf hk0 hk1
    rw [fX7_mixTwo_L2] at hf
    refine lv_iload_n hx hb dX7_mixTwo_2 rfl (lv_at hl 2 rfl) ?_
    refine lv_iconst (v := (3 : Int32)) hx hb dX7_mixTwo_3 (by decide) ?_
    refine lv_icmp_ge (tgt := 40) hx hb dX7_mixTwo_4 (by decide) (fun hc => ?_) (fun hc => ?_)
    · replace hf := it_t (hc) hf
      exact hk1 t_mixed (Option.some.inj hf).symm H locs ls hP hD hS (lv_sub hl [] rfl)
    · replace hf := it_f (hc) hf
      refine lv_iload_n hx hb dX7_mixTwo_7 rfl (lv_at hl 2 rfl) ?_
      refine lv_iconst (v := (1 : Int32)) hx hb dX7_mixTwo_8 (by decide) ?_
      refine lv_iadd hx hb dX7_mixTwo_9 ?_
      refine lv_topi (fun l3_1 el3_1 => ?_)
      replace hf := xl_at hf el3_1
      refine lv_istore_n (lv' := [(3, .int l3_1), (0, .ref h_t), (1, .ref h_p1), (2, .int l2)]) hx hb dX7_mixTwo_10 rfl hl (Nat.le_of_ble_eq_true rfl) rfl (fun ls hl => ?_)
      obtain ⟨ex_10, hq_6, hf⟩ := sm_some hf
      refine wX7_mixTwo_L11 C0 h_t h_t_chosen h_t_mixed h_t_near h_p1 h_p1_x h_p1_y h_p1_colour h_p1_load t_gone t_stuck t_longest t_side t_chosen p1_size p1_centreX p1_centreY p1_x p1_y l2 K l3_1 t_mixed ex_10 H locs ls hP hD hS (lv_sub hl [1, 2, 3, 0] rfl) hq_6 ?_ ?_
      · intro t_mixed_7 he H locs ls hP hD hS hl
        subst he
        replace hf := el1 hf
        exact hk0 t_mixed_7 (Option.some.inj hf).symm H locs ls hP hD hS (lv_sub hl [] rfl)
      · intro t_mixed_8 he H locs ls hP hD hS hl
        subst he
        replace hf := er1 hf
        obtain ⟨l2_9, el2_9⟩ : ∃ y : Int32, y = l2 + (1 : Int32) := ⟨_, rfl⟩
        replace hf := xl_at hf el2_9
        refine lv_iinc (v := l2_9) (lv' := [(2, .int l2_9), (0, .ref h_t), (1, .ref h_p1)]) hx hb dX7_mixTwo_34 hl (k := 2) rfl (by rw [el2_9]; rfl) (Nat.le_of_ble_eq_true rfl) rfl (fun ls hl => ?_)
        refine lv_goto (tgt := 2) hx hb dX7_mixTwo_37 (by decide) ?_
        exact ih l2_9 t_mixed_8 _ H locs ls hP hD hS (lv_sub hl [1, 2, 0] rfl) hf hk0 hk1
set_option maxRecDepth 100000 in
set_option maxHeartbeats 4000000 in
theorem mtX7_mixTwo (l : Launch) (dC : Nat → ClassId) (dI : Nat → Nat → Nat) (cI cL cB : ClassId) (K : Nat) (h_t h_t_chosen h_t_mixed h_t_near h_p1 h_p1_x h_p1_y h_p1_colour h_p1_load : Nat) (sz : Nat) (t_gone : Int32) (t_stuck : Int32) (t_longest : Int32) (t_side : Int32) (t_chosen : Nat → Int32) (t_mixed : Nat → Int64) (p1_size : Int32) (p1_centreX : Int32) (p1_centreY : Int32) (p1_x : Nat → Int32) (p1_y : Nat → Int32) (o_r : Int32) (o_t_mixed : Nat → Int64) (hf : fX7_mixTwo K t_chosen t_mixed p1_centreX p1_centreY p1_x p1_y = some (o_r, o_t_mixed)) : Met l yX7_mixTwo [Cond.code yX7_mixTwo cX7_mixTwo 4 (some .boolean)] ({ frames := 2, cells := 0, slots := 0, locals := 58 }) (va_Pc [.ref h_t, .ref h_p1] (cPre dC dI cI cL cB sz [(h_t, .inr (7, [.ref h_t_chosen, .ref h_t_mixed, .ref h_t_near, .int t_gone, .int t_stuck, .int t_longest, .int t_side])), (h_t_chosen, .inl (cI, 3, .inl t_chosen)), (h_t_mixed, .inl (cL, 4, .inr (.inl t_mixed))), (h_p1, .inr (0, [.ref h_p1_x, .ref h_p1_y, .ref h_p1_colour, .ref h_p1_load, .int p1_size, .int p1_centreX, .int p1_centreY])), (h_p1_x, .inl (cI, 24, .inl p1_x)), (h_p1_y, .inl (cI, 24, .inl p1_y))])) (cQi dC dI (va_A [(h_t, .inr (7, [.ref h_t_chosen, .ref h_t_mixed, .ref h_t_near, .int t_gone, .int t_stuck, .int t_longest, .int t_side])), (h_t_chosen, .inl (cI, 3, .inl t_chosen)), (h_t_mixed, .inl (cL, 4, .inr (.inl t_mixed))), (h_p1, .inr (0, [.ref h_p1_x, .ref h_p1_y, .ref h_p1_colour, .ref h_p1_load, .int p1_size, .int p1_centreX, .int p1_centreY])), (h_p1_x, .inl (cI, 24, .inl p1_x)), (h_p1_y, .inl (cI, 24, .inl p1_y))] sz) o_r [(h_t, .inr (7, [.ref h_t_chosen, .ref h_t_mixed, .ref h_t_near, .int t_gone, .int t_stuck, .int t_longest, .int t_side])), (h_t_chosen, .inl (cI, 3, .inl t_chosen)), (h_t_mixed, .inl (cL, 4, .inr (.inl o_t_mixed))), (h_p1, .inr (0, [.ref h_p1_x, .ref h_p1_y, .ref h_p1_colour, .ref h_p1_load, .int p1_size, .int p1_centreX, .int p1_centreY])), (h_p1_x, .inl (cI, 24, .inl p1_x)), (h_p1_y, .inl (cI, 24, .inl p1_y))]) 0 0 (va_A [(h_t, .inr (7, [.ref h_t_chosen, .ref h_t_mixed, .ref h_t_near, .int t_gone, .int t_stuck, .int t_longest, .int t_side])), (h_t_chosen, .inl (cI, 3, .inl t_chosen)), (h_t_mixed, .inl (cL, 4, .inr (.inl t_mixed))), (h_p1, .inr (0, [.ref h_p1_x, .ref h_p1_y, .ref h_p1_colour, .ref h_p1_load, .int p1_size, .int p1_centreX, .int p1_centreY])), (h_p1_x, .inl (cI, 24, .inl p1_x)), (h_p1_y, .inl (cI, 24, .inl p1_y))] sz) := by
  refine Met.ofW (cc := cX7_mixTwo) (maxL := 4) (ret := (some .boolean)) (by decide) rfl ?_
  intro p e s m args below meth c s₁ B hml hv
  obtain ⟨rfl, hsz, hP, hK, hD0, hT⟩ := hv
  have hx := B.exec
  have hb := B.bytes
  have hr := B.returns
  have hown : s.vm.findClass RX7 = some m.cls := findClass_of_methodNamed B.named
  have hlocks := B.notSynchronized
  have hts := TB.use hT ([.ref h_t, .ref h_p1] : List Value).toArray
  subst hsz
  have hD := hD0.self (sz := s.heap.size)
  generalize hAe : va_A [(h_t, .inr (7, [.ref h_t_chosen, .ref h_t_mixed, .ref h_t_near, .int t_gone, .int t_stuck, .int t_longest, .int t_side])), (h_t_chosen, .inl (cI, 3, .inl t_chosen)), (h_t_mixed, .inl (cL, 4, .inr (.inl t_mixed))), (h_p1, .inr (0, [.ref h_p1_x, .ref h_p1_y, .ref h_p1_colour, .ref h_p1_load, .int p1_size, .int p1_centreX, .int p1_centreY])), (h_p1_x, .inl (cI, 24, .inl p1_x)), (h_p1_y, .inl (cI, 24, .inl p1_y))] s.heap.size = A at hD ⊢
  have hA : ∀ q : Nat, s.heap.size ≤ q → A q := fun q h => by rw [← hAe]; exact Or.inr h
  clear hAe hD0
  have hl := lv_entry ([.ref h_t, .ref h_p1]) (n := 4) (Nat.le_of_ble_eq_true rfl)
  rw [lg_entry_eq]
  generalize (lg_sl ([.ref h_t, .ref h_p1]) ++ List.replicate (4 - (lg_sl ([.ref h_t, .ref h_p1])).length) Slot.unset).toArray = ls at hl ⊢
  have hl : lv_has ls 4 [(0, .ref h_t), (1, .ref h_p1)] := hl
  have hF : 2 ≤ (headSpec [Cond.code yX7_mixTwo cX7_mixTwo 4 (some .boolean)] ({ frames := 2, cells := 0, slots := 0, locals := 58 })).room.frames := Nat.le_refl _
  have hLo : 58 ≤ (headSpec [Cond.code yX7_mixTwo cX7_mixTwo 4 (some .boolean)] ({ frames := 2, cells := 0, slots := 0, locals := 58 })).room.locals := Nat.le_refl _
  have C0 : Sx p (headSpec [Cond.code yX7_mixTwo cX7_mixTwo 4 (some .boolean)] ({ frames := 2, cells := 0, slots := 0, locals := 58 })).room s m ([.ref h_t, .ref h_p1] : List Value).toArray c cX7_mixTwo 4 RX7 A dC dI cI cL cB 2 58 := ⟨hx, hb, hml, hown, hts, hK, hT, hA, hF, hLo⟩
  refine startH (A := A) hP (fun H locs hP hS => ?_)
  rw [fX7_mixTwo] at hf
  refine lv_iconst (v := (0 : Int32)) hx hb dX7_mixTwo_0 (by decide) ?_
  refine lv_istore_n (lv' := [(2, .int (0 : Int32)), (0, .ref h_t), (1, .ref h_p1)]) hx hb dX7_mixTwo_1 rfl hl (Nat.le_of_ble_eq_true rfl) rfl (fun ls hl => ?_)
  obtain ⟨ex_14, hq_11, hf⟩ := sm_some hf
  refine wX7_mixTwo_L2 C0 h_t h_t_chosen h_t_mixed h_t_near h_p1 h_p1_x h_p1_y h_p1_colour h_p1_load t_gone t_stuck t_longest t_side t_chosen p1_size p1_centreX p1_centreY p1_x p1_y K (0 : Int32) t_mixed ex_14 H locs ls hP hD hS (lv_sub hl [1, 2, 0] rfl) hq_11 ?_ ?_
  · intro t_mixed_12 he H locs ls hP hD hS hl
    subst he
    replace hf := el1 hf
    refine lv_iconst (v := (1 : Int32)) hx hb dX7_mixTwo_26 (by decide) ?_
    obtain ⟨rfl, rfl⟩ := o2 hf
    exact W.zret hx hb hr rfl (fun t ht hW => ⟨⟨_, (), rfl, rfl, by rw [ht]; exact hP, hD⟩, hS.F ht⟩) hS.2.2 dX7_mixTwo_27
  · intro t_mixed_13 he H locs ls hP hD hS hl
    subst he
    replace hf := er1 hf
    refine lv_iconst (v := (0 : Int32)) hx hb dX7_mixTwo_40 (by decide) ?_
    obtain ⟨rfl, rfl⟩ := o2 hf
    exact W.zret hx hb hr rfl (fun t ht hW => ⟨⟨_, (), rfl, rfl, by rw [ht]; exact hP, hD⟩, hS.F ht⟩) hS.2.2 dX7_mixTwo_41
theorem dX7_mixThree_0 : decode cX7_mixThree 0 = .ok (.aload_n 1, 1) := by decide +kernel
theorem dX7_mixThree_1 : decode cX7_mixThree 1 = .ok (.getfield 71, 3) := by decide +kernel
theorem dX7_mixThree_4 : decode cX7_mixThree 4 = .ok (.aload_n 0, 1) := by decide +kernel
theorem dX7_mixThree_5 : decode cX7_mixThree 5 = .ok (.getfield 9, 3) := by decide +kernel
theorem dX7_mixThree_8 : decode cX7_mixThree 8 = .ok (.iconst 0, 1) := by decide +kernel
theorem dX7_mixThree_9 : decode cX7_mixThree 9 = .ok (.iaload, 1) := by decide +kernel
theorem dX7_mixThree_10 : decode cX7_mixThree 10 = .ok (.iaload, 1) := by decide +kernel
theorem dX7_mixThree_11 : decode cX7_mixThree 11 = .ok (.aload_n 1, 1) := by decide +kernel
theorem dX7_mixThree_12 : decode cX7_mixThree 12 = .ok (.getfield 54, 3) := by decide +kernel
theorem dX7_mixThree_15 : decode cX7_mixThree 15 = .ok (.isub, 1) := by decide +kernel
theorem dX7_mixThree_16 : decode cX7_mixThree 16 = .ok (.i2l, 1) := by decide +kernel
theorem dX7_mixThree_17 : decode cX7_mixThree 17 = .ok (.lstore_n 2, 1) := by decide +kernel
theorem dX7_mixThree_18 : decode cX7_mixThree 18 = .ok (.aload_n 1, 1) := by decide +kernel
theorem dX7_mixThree_19 : decode cX7_mixThree 19 = .ok (.getfield 74, 3) := by decide +kernel
theorem dX7_mixThree_22 : decode cX7_mixThree 22 = .ok (.aload_n 0, 1) := by decide +kernel
theorem dX7_mixThree_23 : decode cX7_mixThree 23 = .ok (.getfield 9, 3) := by decide +kernel
theorem dX7_mixThree_26 : decode cX7_mixThree 26 = .ok (.iconst 0, 1) := by decide +kernel
theorem dX7_mixThree_27 : decode cX7_mixThree 27 = .ok (.iaload, 1) := by decide +kernel
theorem dX7_mixThree_28 : decode cX7_mixThree 28 = .ok (.iaload, 1) := by decide +kernel
theorem dX7_mixThree_29 : decode cX7_mixThree 29 = .ok (.aload_n 1, 1) := by decide +kernel
theorem dX7_mixThree_30 : decode cX7_mixThree 30 = .ok (.getfield 57, 3) := by decide +kernel
theorem dX7_mixThree_33 : decode cX7_mixThree 33 = .ok (.isub, 1) := by decide +kernel
theorem dX7_mixThree_34 : decode cX7_mixThree 34 = .ok (.i2l, 1) := by decide +kernel
theorem dX7_mixThree_35 : decode cX7_mixThree 35 = .ok (.lstore 4, 2) := by decide +kernel
theorem dX7_mixThree_37 : decode cX7_mixThree 37 = .ok (.aload_n 1, 1) := by decide +kernel
theorem dX7_mixThree_38 : decode cX7_mixThree 38 = .ok (.getfield 71, 3) := by decide +kernel
theorem dX7_mixThree_41 : decode cX7_mixThree 41 = .ok (.aload_n 0, 1) := by decide +kernel
theorem dX7_mixThree_42 : decode cX7_mixThree 42 = .ok (.getfield 9, 3) := by decide +kernel
theorem dX7_mixThree_45 : decode cX7_mixThree 45 = .ok (.iconst 1, 1) := by decide +kernel
theorem dX7_mixThree_46 : decode cX7_mixThree 46 = .ok (.iaload, 1) := by decide +kernel
theorem dX7_mixThree_47 : decode cX7_mixThree 47 = .ok (.iaload, 1) := by decide +kernel
theorem dX7_mixThree_48 : decode cX7_mixThree 48 = .ok (.aload_n 1, 1) := by decide +kernel
theorem dX7_mixThree_49 : decode cX7_mixThree 49 = .ok (.getfield 54, 3) := by decide +kernel
theorem dX7_mixThree_52 : decode cX7_mixThree 52 = .ok (.isub, 1) := by decide +kernel
theorem dX7_mixThree_53 : decode cX7_mixThree 53 = .ok (.i2l, 1) := by decide +kernel
theorem dX7_mixThree_54 : decode cX7_mixThree 54 = .ok (.lstore 6, 2) := by decide +kernel
theorem dX7_mixThree_56 : decode cX7_mixThree 56 = .ok (.aload_n 1, 1) := by decide +kernel
theorem dX7_mixThree_57 : decode cX7_mixThree 57 = .ok (.getfield 74, 3) := by decide +kernel
theorem dX7_mixThree_60 : decode cX7_mixThree 60 = .ok (.aload_n 0, 1) := by decide +kernel
theorem dX7_mixThree_61 : decode cX7_mixThree 61 = .ok (.getfield 9, 3) := by decide +kernel
theorem dX7_mixThree_64 : decode cX7_mixThree 64 = .ok (.iconst 1, 1) := by decide +kernel
theorem dX7_mixThree_65 : decode cX7_mixThree 65 = .ok (.iaload, 1) := by decide +kernel
theorem dX7_mixThree_66 : decode cX7_mixThree 66 = .ok (.iaload, 1) := by decide +kernel
theorem dX7_mixThree_67 : decode cX7_mixThree 67 = .ok (.aload_n 1, 1) := by decide +kernel
theorem dX7_mixThree_68 : decode cX7_mixThree 68 = .ok (.getfield 57, 3) := by decide +kernel
theorem dX7_mixThree_71 : decode cX7_mixThree 71 = .ok (.isub, 1) := by decide +kernel
theorem dX7_mixThree_72 : decode cX7_mixThree 72 = .ok (.i2l, 1) := by decide +kernel
theorem dX7_mixThree_73 : decode cX7_mixThree 73 = .ok (.lstore 8, 2) := by decide +kernel
theorem dX7_mixThree_75 : decode cX7_mixThree 75 = .ok (.aload_n 1, 1) := by decide +kernel
theorem dX7_mixThree_76 : decode cX7_mixThree 76 = .ok (.getfield 71, 3) := by decide +kernel
theorem dX7_mixThree_79 : decode cX7_mixThree 79 = .ok (.aload_n 0, 1) := by decide +kernel
theorem dX7_mixThree_80 : decode cX7_mixThree 80 = .ok (.getfield 9, 3) := by decide +kernel
theorem dX7_mixThree_83 : decode cX7_mixThree 83 = .ok (.iconst 2, 1) := by decide +kernel
theorem dX7_mixThree_84 : decode cX7_mixThree 84 = .ok (.iaload, 1) := by decide +kernel
theorem dX7_mixThree_85 : decode cX7_mixThree 85 = .ok (.iaload, 1) := by decide +kernel
theorem dX7_mixThree_86 : decode cX7_mixThree 86 = .ok (.aload_n 1, 1) := by decide +kernel
theorem dX7_mixThree_87 : decode cX7_mixThree 87 = .ok (.getfield 54, 3) := by decide +kernel
theorem dX7_mixThree_90 : decode cX7_mixThree 90 = .ok (.isub, 1) := by decide +kernel
theorem dX7_mixThree_91 : decode cX7_mixThree 91 = .ok (.i2l, 1) := by decide +kernel
theorem dX7_mixThree_92 : decode cX7_mixThree 92 = .ok (.lstore 10, 2) := by decide +kernel
theorem dX7_mixThree_94 : decode cX7_mixThree 94 = .ok (.aload_n 1, 1) := by decide +kernel
theorem dX7_mixThree_95 : decode cX7_mixThree 95 = .ok (.getfield 74, 3) := by decide +kernel
theorem dX7_mixThree_98 : decode cX7_mixThree 98 = .ok (.aload_n 0, 1) := by decide +kernel
theorem dX7_mixThree_99 : decode cX7_mixThree 99 = .ok (.getfield 9, 3) := by decide +kernel
theorem dX7_mixThree_102 : decode cX7_mixThree 102 = .ok (.iconst 2, 1) := by decide +kernel
theorem dX7_mixThree_103 : decode cX7_mixThree 103 = .ok (.iaload, 1) := by decide +kernel
theorem dX7_mixThree_104 : decode cX7_mixThree 104 = .ok (.iaload, 1) := by decide +kernel
theorem dX7_mixThree_105 : decode cX7_mixThree 105 = .ok (.aload_n 1, 1) := by decide +kernel
theorem dX7_mixThree_106 : decode cX7_mixThree 106 = .ok (.getfield 57, 3) := by decide +kernel
theorem dX7_mixThree_109 : decode cX7_mixThree 109 = .ok (.isub, 1) := by decide +kernel
theorem dX7_mixThree_110 : decode cX7_mixThree 110 = .ok (.i2l, 1) := by decide +kernel
theorem dX7_mixThree_111 : decode cX7_mixThree 111 = .ok (.lstore 12, 2) := by decide +kernel
theorem dX7_mixThree_113 : decode cX7_mixThree 113 = .ok (.aload_n 0, 1) := by decide +kernel
theorem dX7_mixThree_114 : decode cX7_mixThree 114 = .ok (.getfield 15, 3) := by decide +kernel
theorem dX7_mixThree_117 : decode cX7_mixThree 117 = .ok (.iconst 0, 1) := by decide +kernel
theorem dX7_mixThree_118 : decode cX7_mixThree 118 = .ok (.lload 6, 2) := by decide +kernel
theorem dX7_mixThree_120 : decode cX7_mixThree 120 = .ok (.lload 8, 2) := by decide +kernel
theorem dX7_mixThree_122 : decode cX7_mixThree 122 = .ok (.lload 10, 2) := by decide +kernel
theorem dX7_mixThree_124 : decode cX7_mixThree 124 = .ok (.lload 12, 2) := by decide +kernel
theorem dX7_mixThree_126 : decode cX7_mixThree 126 = .ok (.invokestatic 152, 3) := by decide +kernel
theorem dX7_mixThree_129 : decode cX7_mixThree 129 = .ok (.lastore, 1) := by decide +kernel
theorem dX7_mixThree_130 : decode cX7_mixThree 130 = .ok (.aload_n 0, 1) := by decide +kernel
theorem dX7_mixThree_131 : decode cX7_mixThree 131 = .ok (.getfield 15, 3) := by decide +kernel
theorem dX7_mixThree_134 : decode cX7_mixThree 134 = .ok (.iconst 1, 1) := by decide +kernel
theorem dX7_mixThree_135 : decode cX7_mixThree 135 = .ok (.lload 10, 2) := by decide +kernel
theorem dX7_mixThree_137 : decode cX7_mixThree 137 = .ok (.lload 12, 2) := by decide +kernel
theorem dX7_mixThree_139 : decode cX7_mixThree 139 = .ok (.lload_n 2, 1) := by decide +kernel
theorem dX7_mixThree_140 : decode cX7_mixThree 140 = .ok (.lload 4, 2) := by decide +kernel
theorem dX7_mixThree_142 : decode cX7_mixThree 142 = .ok (.invokestatic 152, 3) := by decide +kernel
theorem dX7_mixThree_145 : decode cX7_mixThree 145 = .ok (.lastore, 1) := by decide +kernel
theorem dX7_mixThree_146 : decode cX7_mixThree 146 = .ok (.aload_n 0, 1) := by decide +kernel
theorem dX7_mixThree_147 : decode cX7_mixThree 147 = .ok (.getfield 15, 3) := by decide +kernel
theorem dX7_mixThree_150 : decode cX7_mixThree 150 = .ok (.iconst 2, 1) := by decide +kernel
theorem dX7_mixThree_151 : decode cX7_mixThree 151 = .ok (.lload_n 2, 1) := by decide +kernel
theorem dX7_mixThree_152 : decode cX7_mixThree 152 = .ok (.lload 4, 2) := by decide +kernel
theorem dX7_mixThree_154 : decode cX7_mixThree 154 = .ok (.lload 6, 2) := by decide +kernel
theorem dX7_mixThree_156 : decode cX7_mixThree 156 = .ok (.lload 8, 2) := by decide +kernel
theorem dX7_mixThree_158 : decode cX7_mixThree 158 = .ok (.invokestatic 152, 3) := by decide +kernel
theorem dX7_mixThree_161 : decode cX7_mixThree 161 = .ok (.lastore, 1) := by decide +kernel
theorem dX7_mixThree_162 : decode cX7_mixThree 162 = .ok (.aload_n 0, 1) := by decide +kernel
theorem dX7_mixThree_163 : decode cX7_mixThree 163 = .ok (.getfield 15, 3) := by decide +kernel
theorem dX7_mixThree_166 : decode cX7_mixThree 166 = .ok (.iconst 3, 1) := by decide +kernel
theorem dX7_mixThree_167 : decode cX7_mixThree 167 = .ok (.aload_n 0, 1) := by decide +kernel
theorem dX7_mixThree_168 : decode cX7_mixThree 168 = .ok (.getfield 15, 3) := by decide +kernel
theorem dX7_mixThree_171 : decode cX7_mixThree 171 = .ok (.iconst 0, 1) := by decide +kernel
theorem dX7_mixThree_172 : decode cX7_mixThree 172 = .ok (.laload, 1) := by decide +kernel
theorem dX7_mixThree_173 : decode cX7_mixThree 173 = .ok (.aload_n 0, 1) := by decide +kernel
theorem dX7_mixThree_174 : decode cX7_mixThree 174 = .ok (.getfield 15, 3) := by decide +kernel
theorem dX7_mixThree_177 : decode cX7_mixThree 177 = .ok (.iconst 1, 1) := by decide +kernel
theorem dX7_mixThree_178 : decode cX7_mixThree 178 = .ok (.laload, 1) := by decide +kernel
theorem dX7_mixThree_179 : decode cX7_mixThree 179 = .ok (.ladd, 1) := by decide +kernel
theorem dX7_mixThree_180 : decode cX7_mixThree 180 = .ok (.aload_n 0, 1) := by decide +kernel
theorem dX7_mixThree_181 : decode cX7_mixThree 181 = .ok (.getfield 15, 3) := by decide +kernel
theorem dX7_mixThree_184 : decode cX7_mixThree 184 = .ok (.iconst 2, 1) := by decide +kernel
theorem dX7_mixThree_185 : decode cX7_mixThree 185 = .ok (.laload, 1) := by decide +kernel
theorem dX7_mixThree_186 : decode cX7_mixThree 186 = .ok (.ladd, 1) := by decide +kernel
theorem dX7_mixThree_187 : decode cX7_mixThree 187 = .ok (.lastore, 1) := by decide +kernel
theorem dX7_mixThree_188 : decode cX7_mixThree 188 = .ok (.return_, 1) := by decide +kernel
set_option maxRecDepth 100000 in
set_option maxHeartbeats 4000000 in
theorem mtX7_mixThree (l : Launch) (dC : Nat → ClassId) (dI : Nat → Nat → Nat) (cI cL cB : ClassId) (K : Nat) (h_t h_t_chosen h_t_mixed h_t_near h_p1 h_p1_x h_p1_y h_p1_colour h_p1_load : Nat) (sz : Nat) (t_gone : Int32) (t_stuck : Int32) (t_longest : Int32) (t_side : Int32) (t_chosen : Nat → Int32) (t_mixed : Nat → Int64) (p1_size : Int32) (p1_centreX : Int32) (p1_centreY : Int32) (p1_x : Nat → Int32) (p1_y : Nat → Int32) (o_t_mixed : Nat → Int64) (hf : fX7_mixThree K t_chosen t_mixed p1_centreX p1_centreY p1_x p1_y = some o_t_mixed) : Met l yX7_mixThree [Cond.code yX7_mixThree cX7_mixThree 14 none] ({ frames := 1, cells := 0, slots := 0, locals := 27 }) (va_Pc [.ref h_t, .ref h_p1] (cPre dC dI cI cL cB sz [(h_t, .inr (7, [.ref h_t_chosen, .ref h_t_mixed, .ref h_t_near, .int t_gone, .int t_stuck, .int t_longest, .int t_side])), (h_t_chosen, .inl (cI, 3, .inl t_chosen)), (h_t_mixed, .inl (cL, 4, .inr (.inl t_mixed))), (h_p1, .inr (0, [.ref h_p1_x, .ref h_p1_y, .ref h_p1_colour, .ref h_p1_load, .int p1_size, .int p1_centreX, .int p1_centreY])), (h_p1_x, .inl (cI, 24, .inl p1_x)), (h_p1_y, .inl (cI, 24, .inl p1_y))])) (cQv dC dI (va_A [(h_t, .inr (7, [.ref h_t_chosen, .ref h_t_mixed, .ref h_t_near, .int t_gone, .int t_stuck, .int t_longest, .int t_side])), (h_t_chosen, .inl (cI, 3, .inl t_chosen)), (h_t_mixed, .inl (cL, 4, .inr (.inl t_mixed))), (h_p1, .inr (0, [.ref h_p1_x, .ref h_p1_y, .ref h_p1_colour, .ref h_p1_load, .int p1_size, .int p1_centreX, .int p1_centreY])), (h_p1_x, .inl (cI, 24, .inl p1_x)), (h_p1_y, .inl (cI, 24, .inl p1_y))] sz) [(h_t, .inr (7, [.ref h_t_chosen, .ref h_t_mixed, .ref h_t_near, .int t_gone, .int t_stuck, .int t_longest, .int t_side])), (h_t_chosen, .inl (cI, 3, .inl t_chosen)), (h_t_mixed, .inl (cL, 4, .inr (.inl o_t_mixed))), (h_p1, .inr (0, [.ref h_p1_x, .ref h_p1_y, .ref h_p1_colour, .ref h_p1_load, .int p1_size, .int p1_centreX, .int p1_centreY])), (h_p1_x, .inl (cI, 24, .inl p1_x)), (h_p1_y, .inl (cI, 24, .inl p1_y))]) 0 0 (va_A [(h_t, .inr (7, [.ref h_t_chosen, .ref h_t_mixed, .ref h_t_near, .int t_gone, .int t_stuck, .int t_longest, .int t_side])), (h_t_chosen, .inl (cI, 3, .inl t_chosen)), (h_t_mixed, .inl (cL, 4, .inr (.inl t_mixed))), (h_p1, .inr (0, [.ref h_p1_x, .ref h_p1_y, .ref h_p1_colour, .ref h_p1_load, .int p1_size, .int p1_centreX, .int p1_centreY])), (h_p1_x, .inl (cI, 24, .inl p1_x)), (h_p1_y, .inl (cI, 24, .inl p1_y))] sz) := by
  refine Met.ofW (cc := cX7_mixThree) (maxL := 14) (ret := none) (by decide) rfl ?_
  intro p e s m args below meth c s₁ B hml hv
  obtain ⟨rfl, hsz, hP, hK, hD0, hT⟩ := hv
  have hx := B.exec
  have hb := B.bytes
  have hr := B.returns
  have hown : s.vm.findClass RX7 = some m.cls := findClass_of_methodNamed B.named
  have hlocks := B.notSynchronized
  have hts := TB.use hT ([.ref h_t, .ref h_p1] : List Value).toArray
  subst hsz
  have hD := hD0.self (sz := s.heap.size)
  generalize hAe : va_A [(h_t, .inr (7, [.ref h_t_chosen, .ref h_t_mixed, .ref h_t_near, .int t_gone, .int t_stuck, .int t_longest, .int t_side])), (h_t_chosen, .inl (cI, 3, .inl t_chosen)), (h_t_mixed, .inl (cL, 4, .inr (.inl t_mixed))), (h_p1, .inr (0, [.ref h_p1_x, .ref h_p1_y, .ref h_p1_colour, .ref h_p1_load, .int p1_size, .int p1_centreX, .int p1_centreY])), (h_p1_x, .inl (cI, 24, .inl p1_x)), (h_p1_y, .inl (cI, 24, .inl p1_y))] s.heap.size = A at hD ⊢
  have hA : ∀ q : Nat, s.heap.size ≤ q → A q := fun q h => by rw [← hAe]; exact Or.inr h
  clear hAe hD0
  have hl := lv_entry ([.ref h_t, .ref h_p1]) (n := 14) (Nat.le_of_ble_eq_true rfl)
  rw [lg_entry_eq]
  generalize (lg_sl ([.ref h_t, .ref h_p1]) ++ List.replicate (14 - (lg_sl ([.ref h_t, .ref h_p1])).length) Slot.unset).toArray = ls at hl ⊢
  have hl : lv_has ls 14 [(0, .ref h_t), (1, .ref h_p1)] := hl
  have hF : 1 ≤ (headSpec [Cond.code yX7_mixThree cX7_mixThree 14 none] ({ frames := 1, cells := 0, slots := 0, locals := 27 })).room.frames := Nat.le_refl _
  have hLo : 27 ≤ (headSpec [Cond.code yX7_mixThree cX7_mixThree 14 none] ({ frames := 1, cells := 0, slots := 0, locals := 27 })).room.locals := Nat.le_refl _
  have C0 : Sx p (headSpec [Cond.code yX7_mixThree cX7_mixThree 14 none] ({ frames := 1, cells := 0, slots := 0, locals := 27 })).room s m ([.ref h_t, .ref h_p1] : List Value).toArray c cX7_mixThree 14 RX7 A dC dI cI cL cB 1 27 := ⟨hx, hb, hml, hown, hts, hK, hT, hA, hF, hLo⟩
  refine startH (A := A) hP (fun H locs hP hS => ?_)
  rw [fX7_mixThree] at hf
  refine lv_aload_n hx hb dX7_mixThree_0 rfl (lv_at hl 1 rfl) ?_
  refine va_get (D := (dC, dI)) (ci := 0) (v := .ref h_p1_x) (C := RX0) (T := TX0) (N := 7) hx hb hts in_X0 hown hK hP 3 rfl rfl 0 (Nat.le_of_ble_eq_true rfl) (hts _ qf_X7_71) (fun _ h9 => h9) rfl dX7_mixThree_1 ?_
  refine lv_aload_n hx hb dX7_mixThree_4 rfl (lv_at hl 0 rfl) ?_
  refine va_get (D := (dC, dI)) (ci := 7) (v := .ref h_t_chosen) (C := RX7) (T := TX7) (N := 7) hx hb hts in_X7 hown hK hP 0 rfl rfl 0 (Nat.le_of_ble_eq_true rfl) (hts _ qf_X7_9) (fun _ h9 => h9) rfl dX7_mixThree_5 ?_
  refine lv_iconst (v := (0 : Int32)) hx hb dX7_mixThree_8 (by decide) ?_
  refine va_iald hx hb hK hP 1 0 rfl rfl (inb_in (by decide)) dX7_mixThree_9 ?_
  obtain ⟨hg_1, hf⟩ := gd_some hf
  refine va_iald hx hb hK hP 4 0 rfl rfl (inb_in hg_1) dX7_mixThree_10 ?_
  refine lv_aload_n hx hb dX7_mixThree_11 rfl (lv_at hl 1 rfl) ?_
  refine va_get (D := (dC, dI)) (ci := 0) (v := .int p1_centreX) (C := RX0) (T := TX0) (N := 7) hx hb hts in_X0 hown hK hP 3 rfl rfl 5 (Nat.le_of_ble_eq_true rfl) (hts _ qf_X7_54) (fun _ h9 => h9) rfl dX7_mixThree_12 ?_
  refine lv_isub hx hb dX7_mixThree_15 ?_
  refine lv_i2l hx hb dX7_mixThree_16 rfl ?_
  refine lv_topl (fun l2_2 el2_2 => ?_)
  replace hf := xl_at hf el2_2
  refine lv_lstore_n (lv' := [(2, .long l2_2), (0, .ref h_t), (1, .ref h_p1)]) hx hb dX7_mixThree_17 rfl hl (Nat.le_of_ble_eq_true rfl) rfl (fun ls hl => ?_)
  refine lv_aload_n hx hb dX7_mixThree_18 rfl (lv_at hl 2 rfl) ?_
  refine va_get (D := (dC, dI)) (ci := 0) (v := .ref h_p1_y) (C := RX0) (T := TX0) (N := 7) hx hb hts in_X0 hown hK hP 3 rfl rfl 1 (Nat.le_of_ble_eq_true rfl) (hts _ qf_X7_74) (fun _ h9 => h9) rfl dX7_mixThree_19 ?_
  refine lv_aload_n hx hb dX7_mixThree_22 rfl (lv_at hl 1 rfl) ?_
  refine va_get (D := (dC, dI)) (ci := 7) (v := .ref h_t_chosen) (C := RX7) (T := TX7) (N := 7) hx hb hts in_X7 hown hK hP 0 rfl rfl 0 (Nat.le_of_ble_eq_true rfl) (hts _ qf_X7_9) (fun _ h9 => h9) rfl dX7_mixThree_23 ?_
  refine lv_iconst (v := (0 : Int32)) hx hb dX7_mixThree_26 (by decide) ?_
  refine va_iald hx hb hK hP 1 0 rfl rfl (inb_in (by decide)) dX7_mixThree_27 ?_
  obtain ⟨hg_3, hf⟩ := gd_some hf
  refine va_iald hx hb hK hP 5 0 rfl rfl (inb_in hg_3) dX7_mixThree_28 ?_
  refine lv_aload_n hx hb dX7_mixThree_29 rfl (lv_at hl 2 rfl) ?_
  refine va_get (D := (dC, dI)) (ci := 0) (v := .int p1_centreY) (C := RX0) (T := TX0) (N := 7) hx hb hts in_X0 hown hK hP 3 rfl rfl 6 (Nat.le_of_ble_eq_true rfl) (hts _ qf_X7_57) (fun _ h9 => h9) rfl dX7_mixThree_30 ?_
  refine lv_isub hx hb dX7_mixThree_33 ?_
  refine lv_i2l hx hb dX7_mixThree_34 rfl ?_
  refine lv_topl (fun l4_4 el4_4 => ?_)
  replace hf := xl_at hf el4_4
  refine lv_lstore (lv' := [(4, .long l4_4), (2, .long l2_2), (0, .ref h_t), (1, .ref h_p1)]) hx hb dX7_mixThree_35 hl (Nat.le_of_ble_eq_true rfl) rfl (fun ls hl => ?_)
  refine lv_aload_n hx hb dX7_mixThree_37 rfl (lv_at hl 3 rfl) ?_
  refine va_get (D := (dC, dI)) (ci := 0) (v := .ref h_p1_x) (C := RX0) (T := TX0) (N := 7) hx hb hts in_X0 hown hK hP 3 rfl rfl 0 (Nat.le_of_ble_eq_true rfl) (hts _ qf_X7_71) (fun _ h9 => h9) rfl dX7_mixThree_38 ?_
  refine lv_aload_n hx hb dX7_mixThree_41 rfl (lv_at hl 2 rfl) ?_
  refine va_get (D := (dC, dI)) (ci := 7) (v := .ref h_t_chosen) (C := RX7) (T := TX7) (N := 7) hx hb hts in_X7 hown hK hP 0 rfl rfl 0 (Nat.le_of_ble_eq_true rfl) (hts _ qf_X7_9) (fun _ h9 => h9) rfl dX7_mixThree_42 ?_
  refine lv_iconst (v := (1 : Int32)) hx hb dX7_mixThree_45 (by decide) ?_
  refine va_iald hx hb hK hP 1 0 rfl rfl (inb_in (by decide)) dX7_mixThree_46 ?_
  obtain ⟨hg_5, hf⟩ := gd_some hf
  refine va_iald hx hb hK hP 4 0 rfl rfl (inb_in hg_5) dX7_mixThree_47 ?_
  refine lv_aload_n hx hb dX7_mixThree_48 rfl (lv_at hl 3 rfl) ?_
  refine va_get (D := (dC, dI)) (ci := 0) (v := .int p1_centreX) (C := RX0) (T := TX0) (N := 7) hx hb hts in_X0 hown hK hP 3 rfl rfl 5 (Nat.le_of_ble_eq_true rfl) (hts _ qf_X7_54) (fun _ h9 => h9) rfl dX7_mixThree_49 ?_
  refine lv_isub hx hb dX7_mixThree_52 ?_
  refine lv_i2l hx hb dX7_mixThree_53 rfl ?_
  refine lv_topl (fun l6_6 el6_6 => ?_)
  replace hf := xl_at hf el6_6
  refine lv_lstore (lv' := [(6, .long l6_6), (4, .long l4_4), (2, .long l2_2), (0, .ref h_t), (1, .ref h_p1)]) hx hb dX7_mixThree_54 hl (Nat.le_of_ble_eq_true rfl) rfl (fun ls hl => ?_)
  refine lv_aload_n hx hb dX7_mixThree_56 rfl (lv_at hl 4 rfl) ?_
  refine va_get (D := (dC, dI)) (ci := 0) (v := .ref h_p1_y) (C := RX0) (T := TX0) (N := 7) hx hb hts in_X0 hown hK hP 3 rfl rfl 1 (Nat.le_of_ble_eq_true rfl) (hts _ qf_X7_74) (fun _ h9 => h9) rfl dX7_mixThree_57 ?_
  refine lv_aload_n hx hb dX7_mixThree_60 rfl (lv_at hl 3 rfl) ?_
  refine va_get (D := (dC, dI)) (ci := 7) (v := .ref h_t_chosen) (C := RX7) (T := TX7) (N := 7) hx hb hts in_X7 hown hK hP 0 rfl rfl 0 (Nat.le_of_ble_eq_true rfl) (hts _ qf_X7_9) (fun _ h9 => h9) rfl dX7_mixThree_61 ?_
  refine lv_iconst (v := (1 : Int32)) hx hb dX7_mixThree_64 (by decide) ?_
  refine va_iald hx hb hK hP 1 0 rfl rfl (inb_in (by decide)) dX7_mixThree_65 ?_
  obtain ⟨hg_7, hf⟩ := gd_some hf
  refine va_iald hx hb hK hP 5 0 rfl rfl (inb_in hg_7) dX7_mixThree_66 ?_
  refine lv_aload_n hx hb dX7_mixThree_67 rfl (lv_at hl 4 rfl) ?_
  refine va_get (D := (dC, dI)) (ci := 0) (v := .int p1_centreY) (C := RX0) (T := TX0) (N := 7) hx hb hts in_X0 hown hK hP 3 rfl rfl 6 (Nat.le_of_ble_eq_true rfl) (hts _ qf_X7_57) (fun _ h9 => h9) rfl dX7_mixThree_68 ?_
  refine lv_isub hx hb dX7_mixThree_71 ?_
  refine lv_i2l hx hb dX7_mixThree_72 rfl ?_
  refine lv_topl (fun l8_8 el8_8 => ?_)
  replace hf := xl_at hf el8_8
  refine lv_lstore (lv' := [(8, .long l8_8), (6, .long l6_6), (4, .long l4_4), (2, .long l2_2), (0, .ref h_t), (1, .ref h_p1)]) hx hb dX7_mixThree_73 hl (Nat.le_of_ble_eq_true rfl) rfl (fun ls hl => ?_)
  refine lv_aload_n hx hb dX7_mixThree_75 rfl (lv_at hl 5 rfl) ?_
  refine va_get (D := (dC, dI)) (ci := 0) (v := .ref h_p1_x) (C := RX0) (T := TX0) (N := 7) hx hb hts in_X0 hown hK hP 3 rfl rfl 0 (Nat.le_of_ble_eq_true rfl) (hts _ qf_X7_71) (fun _ h9 => h9) rfl dX7_mixThree_76 ?_
  refine lv_aload_n hx hb dX7_mixThree_79 rfl (lv_at hl 4 rfl) ?_
  refine va_get (D := (dC, dI)) (ci := 7) (v := .ref h_t_chosen) (C := RX7) (T := TX7) (N := 7) hx hb hts in_X7 hown hK hP 0 rfl rfl 0 (Nat.le_of_ble_eq_true rfl) (hts _ qf_X7_9) (fun _ h9 => h9) rfl dX7_mixThree_80 ?_
  refine lv_iconst (v := (2 : Int32)) hx hb dX7_mixThree_83 (by decide) ?_
  refine va_iald hx hb hK hP 1 0 rfl rfl (inb_in (by decide)) dX7_mixThree_84 ?_
  obtain ⟨hg_9, hf⟩ := gd_some hf
  refine va_iald hx hb hK hP 4 0 rfl rfl (inb_in hg_9) dX7_mixThree_85 ?_
  refine lv_aload_n hx hb dX7_mixThree_86 rfl (lv_at hl 5 rfl) ?_
  refine va_get (D := (dC, dI)) (ci := 0) (v := .int p1_centreX) (C := RX0) (T := TX0) (N := 7) hx hb hts in_X0 hown hK hP 3 rfl rfl 5 (Nat.le_of_ble_eq_true rfl) (hts _ qf_X7_54) (fun _ h9 => h9) rfl dX7_mixThree_87 ?_
  refine lv_isub hx hb dX7_mixThree_90 ?_
  refine lv_i2l hx hb dX7_mixThree_91 rfl ?_
  refine lv_topl (fun l10_10 el10_10 => ?_)
  replace hf := xl_at hf el10_10
  refine lv_lstore (lv' := [(10, .long l10_10), (8, .long l8_8), (6, .long l6_6), (4, .long l4_4), (2, .long l2_2), (0, .ref h_t), (1, .ref h_p1)]) hx hb dX7_mixThree_92 hl (Nat.le_of_ble_eq_true rfl) rfl (fun ls hl => ?_)
  refine lv_aload_n hx hb dX7_mixThree_94 rfl (lv_at hl 6 rfl) ?_
  refine va_get (D := (dC, dI)) (ci := 0) (v := .ref h_p1_y) (C := RX0) (T := TX0) (N := 7) hx hb hts in_X0 hown hK hP 3 rfl rfl 1 (Nat.le_of_ble_eq_true rfl) (hts _ qf_X7_74) (fun _ h9 => h9) rfl dX7_mixThree_95 ?_
  refine lv_aload_n hx hb dX7_mixThree_98 rfl (lv_at hl 5 rfl) ?_
  refine va_get (D := (dC, dI)) (ci := 7) (v := .ref h_t_chosen) (C := RX7) (T := TX7) (N := 7) hx hb hts in_X7 hown hK hP 0 rfl rfl 0 (Nat.le_of_ble_eq_true rfl) (hts _ qf_X7_9) (fun _ h9 => h9) rfl dX7_mixThree_99 ?_
  refine lv_iconst (v := (2 : Int32)) hx hb dX7_mixThree_102 (by decide) ?_
  refine va_iald hx hb hK hP 1 0 rfl rfl (inb_in (by decide)) dX7_mixThree_103 ?_
  obtain ⟨hg_11, hf⟩ := gd_some hf
  refine va_iald hx hb hK hP 5 0 rfl rfl (inb_in hg_11) dX7_mixThree_104 ?_
  refine lv_aload_n hx hb dX7_mixThree_105 rfl (lv_at hl 6 rfl) ?_
  refine va_get (D := (dC, dI)) (ci := 0) (v := .int p1_centreY) (C := RX0) (T := TX0) (N := 7) hx hb hts in_X0 hown hK hP 3 rfl rfl 6 (Nat.le_of_ble_eq_true rfl) (hts _ qf_X7_57) (fun _ h9 => h9) rfl dX7_mixThree_106 ?_
  refine lv_isub hx hb dX7_mixThree_109 ?_
  refine lv_i2l hx hb dX7_mixThree_110 rfl ?_
  refine lv_topl (fun l12_12 el12_12 => ?_)
  replace hf := xl_at hf el12_12
  refine lv_lstore (lv' := [(12, .long l12_12), (10, .long l10_10), (8, .long l8_8), (6, .long l6_6), (4, .long l4_4), (2, .long l2_2), (0, .ref h_t), (1, .ref h_p1)]) hx hb dX7_mixThree_111 hl (Nat.le_of_ble_eq_true rfl) rfl (fun ls hl => ?_)
  refine lv_aload_n hx hb dX7_mixThree_113 rfl (lv_at hl 6 rfl) ?_
  refine va_get (D := (dC, dI)) (ci := 7) (v := .ref h_t_mixed) (C := RX7) (T := TX7) (N := 7) hx hb hts in_X7 hown hK hP 0 rfl rfl 1 (Nat.le_of_ble_eq_true rfl) (hts _ qf_X7_15) (fun _ h9 => h9) rfl dX7_mixThree_114 ?_
  refine lv_iconst (v := (0 : Int32)) hx hb dX7_mixThree_117 (by decide) ?_
  refine lv_lload hx hb dX7_mixThree_118 (lv_at hl 3 rfl) ?_
  refine lv_lload hx hb dX7_mixThree_120 (lv_at hl 2 rfl) ?_
  refine lv_lload hx hb dX7_mixThree_122 (lv_at hl 1 rfl) ?_
  refine lv_lload hx hb dX7_mixThree_124 (lv_at hl 0 rfl) ?_
  obtain ⟨r_13, hq_14, hf⟩ := b1_some hf
  refine xcl (wr := [(h_t, .inr (7, [.ref h_t_chosen, .ref h_t_mixed, .ref h_t_near, .int t_gone, .int t_stuck, .int t_longest, .int t_side])), (h_t_chosen, .inl (cI, 3, .inl t_chosen)), (h_t_mixed, .inl (cL, 4, .inr (.inl t_mixed))), (h_p1, .inr (0, [.ref h_p1_x, .ref h_p1_y, .ref h_p1_colour, .ref h_p1_load, .int p1_size, .int p1_centreX, .int p1_centreY])), (h_p1_x, .inl (cI, 24, .inl p1_x)), (h_p1_y, .inl (cI, 24, .inl p1_y))]) (w2 := [(h_t, .inr (7, [.ref h_t_chosen, .ref h_t_mixed, .ref h_t_near, .int t_gone, .int t_stuck, .int t_longest, .int t_side])), (h_t_chosen, .inl (cI, 3, .inl t_chosen)), (h_t_mixed, .inl (cL, 4, .inr (.inl t_mixed))), (h_p1, .inr (0, [.ref h_p1_x, .ref h_p1_y, .ref h_p1_colour, .ref h_p1_load, .int p1_size, .int p1_centreX, .int p1_centreY])), (h_p1_x, .inl (cI, 24, .inl p1_x)), (h_p1_y, .inl (cI, 24, .inl p1_y))]) (va_runSN (As := [.long l6_6, .long l8_8, .long l10_10, .long l12_12]) (rest := [.int (0 : Int32), .ref h_t_mixed]) ⟨hx, hb, hml, hown, hts⟩ (mtX11_cross l dC dI cI cL cB K H.size l6_6 l8_8 l10_10 l12_12 r_13 hq_14) ⟨va_cnB 4 hts (gcode qc_X11_cross) rfl rfl rfl (hT _ qm_X7_152) (hts _ qz_X11) hdS_X11_cross ⟨Nat.le_trans (Nat.le_of_ble_eq_true rfl) hF, Nat.le_trans (Nat.le_of_ble_eq_true rfl) hLo⟩, hts _ qt_X11_cross, trivial⟩ (cPreS hK hP hD hT [] rfl rfl) rfl rfl hl.1 rfl (lv_room (Nat.le_of_ble_eq_true rfl)) dX7_mixThree_126 ⟨Nat.zero_le _, Nat.zero_le _⟩) hP hD hS hA [] [0, 1, 2, 3, 4, 5] [0, 1, 2, 3, 4, 5] rfl rfl rfl rfl rfl rfl (fun H locs hP hD hS => ?_)
  obtain ⟨t_mixed_15, et_mixed_15⟩ : ∃ y : Nat → Int64, y = vp_updL t_mixed (0 : Int32).toNatClampNeg r_13 := ⟨_, rfl⟩
  replace hf := xl_at hf et_mixed_15
  refine xlast (w2 := [(h_t, .inr (7, [.ref h_t_chosen, .ref h_t_mixed, .ref h_t_near, .int t_gone, .int t_stuck, .int t_longest, .int t_side])), (h_t_chosen, .inl (cI, 3, .inl t_chosen)), (h_t_mixed, .inl (cL, 4, .inr (.inl t_mixed_15))), (h_p1, .inr (0, [.ref h_p1_x, .ref h_p1_y, .ref h_p1_colour, .ref h_p1_load, .int p1_size, .int p1_centreX, .int p1_centreY])), (h_p1_x, .inl (cI, 24, .inl p1_x)), (h_p1_y, .inl (cI, 24, .inl p1_y))]) hx hb hK hP hD hS 2 1 rfl rfl (inb_in (by decide)) et_mixed_15 rfl dX7_mixThree_129 (fun H locs hP hD hS => ?_)
  refine lv_aload_n hx hb dX7_mixThree_130 rfl (lv_at hl 6 rfl) ?_
  refine va_get (D := (dC, dI)) (ci := 7) (v := .ref h_t_mixed) (C := RX7) (T := TX7) (N := 7) hx hb hts in_X7 hown hK hP 0 rfl rfl 1 (Nat.le_of_ble_eq_true rfl) (hts _ qf_X7_15) (fun _ h9 => h9) rfl dX7_mixThree_131 ?_
  refine lv_iconst (v := (1 : Int32)) hx hb dX7_mixThree_134 (by decide) ?_
  refine lv_lload hx hb dX7_mixThree_135 (lv_at hl 1 rfl) ?_
  refine lv_lload hx hb dX7_mixThree_137 (lv_at hl 0 rfl) ?_
  refine lv_lload_n hx hb dX7_mixThree_139 rfl (lv_at hl 5 rfl) ?_
  refine lv_lload hx hb dX7_mixThree_140 (lv_at hl 4 rfl) ?_
  obtain ⟨r_16, hq_17, hf⟩ := b1_some hf
  refine xcl (wr := [(h_t, .inr (7, [.ref h_t_chosen, .ref h_t_mixed, .ref h_t_near, .int t_gone, .int t_stuck, .int t_longest, .int t_side])), (h_t_chosen, .inl (cI, 3, .inl t_chosen)), (h_t_mixed, .inl (cL, 4, .inr (.inl t_mixed_15))), (h_p1, .inr (0, [.ref h_p1_x, .ref h_p1_y, .ref h_p1_colour, .ref h_p1_load, .int p1_size, .int p1_centreX, .int p1_centreY])), (h_p1_x, .inl (cI, 24, .inl p1_x)), (h_p1_y, .inl (cI, 24, .inl p1_y))]) (w2 := [(h_t, .inr (7, [.ref h_t_chosen, .ref h_t_mixed, .ref h_t_near, .int t_gone, .int t_stuck, .int t_longest, .int t_side])), (h_t_chosen, .inl (cI, 3, .inl t_chosen)), (h_t_mixed, .inl (cL, 4, .inr (.inl t_mixed_15))), (h_p1, .inr (0, [.ref h_p1_x, .ref h_p1_y, .ref h_p1_colour, .ref h_p1_load, .int p1_size, .int p1_centreX, .int p1_centreY])), (h_p1_x, .inl (cI, 24, .inl p1_x)), (h_p1_y, .inl (cI, 24, .inl p1_y))]) (va_runSN (As := [.long l10_10, .long l12_12, .long l2_2, .long l4_4]) (rest := [.int (1 : Int32), .ref h_t_mixed]) ⟨hx, hb, hml, hown, hts⟩ (mtX11_cross l dC dI cI cL cB K H.size l10_10 l12_12 l2_2 l4_4 r_16 hq_17) ⟨va_cnB 4 hts (gcode qc_X11_cross) rfl rfl rfl (hT _ qm_X7_152) (hts _ qz_X11) hdS_X11_cross ⟨Nat.le_trans (Nat.le_of_ble_eq_true rfl) hF, Nat.le_trans (Nat.le_of_ble_eq_true rfl) hLo⟩, hts _ qt_X11_cross, trivial⟩ (cPreS hK hP hD hT [] rfl rfl) rfl rfl hl.1 rfl (lv_room (Nat.le_of_ble_eq_true rfl)) dX7_mixThree_142 ⟨Nat.zero_le _, Nat.zero_le _⟩) hP hD hS hA [] [0, 1, 2, 3, 4, 5] [0, 1, 2, 3, 4, 5] rfl rfl rfl rfl rfl rfl (fun H locs hP hD hS => ?_)
  obtain ⟨t_mixed_18, et_mixed_18⟩ : ∃ y : Nat → Int64, y = vp_updL t_mixed_15 (1 : Int32).toNatClampNeg r_16 := ⟨_, rfl⟩
  replace hf := xl_at hf et_mixed_18
  refine xlast (w2 := [(h_t, .inr (7, [.ref h_t_chosen, .ref h_t_mixed, .ref h_t_near, .int t_gone, .int t_stuck, .int t_longest, .int t_side])), (h_t_chosen, .inl (cI, 3, .inl t_chosen)), (h_t_mixed, .inl (cL, 4, .inr (.inl t_mixed_18))), (h_p1, .inr (0, [.ref h_p1_x, .ref h_p1_y, .ref h_p1_colour, .ref h_p1_load, .int p1_size, .int p1_centreX, .int p1_centreY])), (h_p1_x, .inl (cI, 24, .inl p1_x)), (h_p1_y, .inl (cI, 24, .inl p1_y))]) hx hb hK hP hD hS 2 1 rfl rfl (inb_in (by decide)) et_mixed_18 rfl dX7_mixThree_145 (fun H locs hP hD hS => ?_)
  refine lv_aload_n hx hb dX7_mixThree_146 rfl (lv_at hl 6 rfl) ?_
  refine va_get (D := (dC, dI)) (ci := 7) (v := .ref h_t_mixed) (C := RX7) (T := TX7) (N := 7) hx hb hts in_X7 hown hK hP 0 rfl rfl 1 (Nat.le_of_ble_eq_true rfl) (hts _ qf_X7_15) (fun _ h9 => h9) rfl dX7_mixThree_147 ?_
  refine lv_iconst (v := (2 : Int32)) hx hb dX7_mixThree_150 (by decide) ?_
  refine lv_lload_n hx hb dX7_mixThree_151 rfl (lv_at hl 5 rfl) ?_
  refine lv_lload hx hb dX7_mixThree_152 (lv_at hl 4 rfl) ?_
  refine lv_lload hx hb dX7_mixThree_154 (lv_at hl 3 rfl) ?_
  refine lv_lload hx hb dX7_mixThree_156 (lv_at hl 2 rfl) ?_
  obtain ⟨r_19, hq_20, hf⟩ := b1_some hf
  refine xcl (wr := [(h_t, .inr (7, [.ref h_t_chosen, .ref h_t_mixed, .ref h_t_near, .int t_gone, .int t_stuck, .int t_longest, .int t_side])), (h_t_chosen, .inl (cI, 3, .inl t_chosen)), (h_t_mixed, .inl (cL, 4, .inr (.inl t_mixed_18))), (h_p1, .inr (0, [.ref h_p1_x, .ref h_p1_y, .ref h_p1_colour, .ref h_p1_load, .int p1_size, .int p1_centreX, .int p1_centreY])), (h_p1_x, .inl (cI, 24, .inl p1_x)), (h_p1_y, .inl (cI, 24, .inl p1_y))]) (w2 := [(h_t, .inr (7, [.ref h_t_chosen, .ref h_t_mixed, .ref h_t_near, .int t_gone, .int t_stuck, .int t_longest, .int t_side])), (h_t_chosen, .inl (cI, 3, .inl t_chosen)), (h_t_mixed, .inl (cL, 4, .inr (.inl t_mixed_18))), (h_p1, .inr (0, [.ref h_p1_x, .ref h_p1_y, .ref h_p1_colour, .ref h_p1_load, .int p1_size, .int p1_centreX, .int p1_centreY])), (h_p1_x, .inl (cI, 24, .inl p1_x)), (h_p1_y, .inl (cI, 24, .inl p1_y))]) (va_runSN (As := [.long l2_2, .long l4_4, .long l6_6, .long l8_8]) (rest := [.int (2 : Int32), .ref h_t_mixed]) ⟨hx, hb, hml, hown, hts⟩ (mtX11_cross l dC dI cI cL cB K H.size l2_2 l4_4 l6_6 l8_8 r_19 hq_20) ⟨va_cnB 4 hts (gcode qc_X11_cross) rfl rfl rfl (hT _ qm_X7_152) (hts _ qz_X11) hdS_X11_cross ⟨Nat.le_trans (Nat.le_of_ble_eq_true rfl) hF, Nat.le_trans (Nat.le_of_ble_eq_true rfl) hLo⟩, hts _ qt_X11_cross, trivial⟩ (cPreS hK hP hD hT [] rfl rfl) rfl rfl hl.1 rfl (lv_room (Nat.le_of_ble_eq_true rfl)) dX7_mixThree_158 ⟨Nat.zero_le _, Nat.zero_le _⟩) hP hD hS hA [] [0, 1, 2, 3, 4, 5] [0, 1, 2, 3, 4, 5] rfl rfl rfl rfl rfl rfl (fun H locs hP hD hS => ?_)
  obtain ⟨t_mixed_21, et_mixed_21⟩ : ∃ y : Nat → Int64, y = vp_updL t_mixed_18 (2 : Int32).toNatClampNeg r_19 := ⟨_, rfl⟩
  replace hf := xl_at hf et_mixed_21
  refine xlast (w2 := [(h_t, .inr (7, [.ref h_t_chosen, .ref h_t_mixed, .ref h_t_near, .int t_gone, .int t_stuck, .int t_longest, .int t_side])), (h_t_chosen, .inl (cI, 3, .inl t_chosen)), (h_t_mixed, .inl (cL, 4, .inr (.inl t_mixed_21))), (h_p1, .inr (0, [.ref h_p1_x, .ref h_p1_y, .ref h_p1_colour, .ref h_p1_load, .int p1_size, .int p1_centreX, .int p1_centreY])), (h_p1_x, .inl (cI, 24, .inl p1_x)), (h_p1_y, .inl (cI, 24, .inl p1_y))]) hx hb hK hP hD hS 2 1 rfl rfl (inb_in (by decide)) et_mixed_21 rfl dX7_mixThree_161 (fun H locs hP hD hS => ?_)
  refine lv_aload_n hx hb dX7_mixThree_162 rfl (lv_at hl 6 rfl) ?_
  refine va_get (D := (dC, dI)) (ci := 7) (v := .ref h_t_mixed) (C := RX7) (T := TX7) (N := 7) hx hb hts in_X7 hown hK hP 0 rfl rfl 1 (Nat.le_of_ble_eq_true rfl) (hts _ qf_X7_15) (fun _ h9 => h9) rfl dX7_mixThree_163 ?_
  refine lv_iconst (v := (3 : Int32)) hx hb dX7_mixThree_166 (by decide) ?_
  refine lv_aload_n hx hb dX7_mixThree_167 rfl (lv_at hl 6 rfl) ?_
  refine va_get (D := (dC, dI)) (ci := 7) (v := .ref h_t_mixed) (C := RX7) (T := TX7) (N := 7) hx hb hts in_X7 hown hK hP 0 rfl rfl 1 (Nat.le_of_ble_eq_true rfl) (hts _ qf_X7_15) (fun _ h9 => h9) rfl dX7_mixThree_168 ?_
  refine lv_iconst (v := (0 : Int32)) hx hb dX7_mixThree_171 (by decide) ?_
  refine va_lald hx hb hK hP 2 1 rfl rfl (inb_in (by decide)) dX7_mixThree_172 ?_
  refine lv_aload_n hx hb dX7_mixThree_173 rfl (lv_at hl 6 rfl) ?_
  refine va_get (D := (dC, dI)) (ci := 7) (v := .ref h_t_mixed) (C := RX7) (T := TX7) (N := 7) hx hb hts in_X7 hown hK hP 0 rfl rfl 1 (Nat.le_of_ble_eq_true rfl) (hts _ qf_X7_15) (fun _ h9 => h9) rfl dX7_mixThree_174 ?_
  refine lv_iconst (v := (1 : Int32)) hx hb dX7_mixThree_177 (by decide) ?_
  refine va_lald hx hb hK hP 2 1 rfl rfl (inb_in (by decide)) dX7_mixThree_178 ?_
  refine lv_ladd hx hb dX7_mixThree_179 ?_
  refine lv_aload_n hx hb dX7_mixThree_180 rfl (lv_at hl 6 rfl) ?_
  refine va_get (D := (dC, dI)) (ci := 7) (v := .ref h_t_mixed) (C := RX7) (T := TX7) (N := 7) hx hb hts in_X7 hown hK hP 0 rfl rfl 1 (Nat.le_of_ble_eq_true rfl) (hts _ qf_X7_15) (fun _ h9 => h9) rfl dX7_mixThree_181 ?_
  refine lv_iconst (v := (2 : Int32)) hx hb dX7_mixThree_184 (by decide) ?_
  refine va_lald hx hb hK hP 2 1 rfl rfl (inb_in (by decide)) dX7_mixThree_185 ?_
  refine lv_ladd hx hb dX7_mixThree_186 ?_
  obtain ⟨t_mixed_22, et_mixed_22⟩ : ∃ y : Nat → Int64, y = vp_updL t_mixed_21 (3 : Int32).toNatClampNeg (((t_mixed_21 (0 : Int32).toNatClampNeg) + (t_mixed_21 (1 : Int32).toNatClampNeg)) + (t_mixed_21 (2 : Int32).toNatClampNeg)) := ⟨_, rfl⟩
  replace hf := xl_at hf et_mixed_22
  refine xlast (w2 := [(h_t, .inr (7, [.ref h_t_chosen, .ref h_t_mixed, .ref h_t_near, .int t_gone, .int t_stuck, .int t_longest, .int t_side])), (h_t_chosen, .inl (cI, 3, .inl t_chosen)), (h_t_mixed, .inl (cL, 4, .inr (.inl t_mixed_22))), (h_p1, .inr (0, [.ref h_p1_x, .ref h_p1_y, .ref h_p1_colour, .ref h_p1_load, .int p1_size, .int p1_centreX, .int p1_centreY])), (h_p1_x, .inl (cI, 24, .inl p1_x)), (h_p1_y, .inl (cI, 24, .inl p1_y))]) hx hb hK hP hD hS 2 1 rfl rfl (inb_in (by decide)) et_mixed_22 rfl dX7_mixThree_187 (fun H locs hP hD hS => ?_)
  obtain rfl := o1 hf
  exact W.vret hx hb hr (fun t ht hW => ⟨⟨(), rfl, trivial, by rw [ht]; exact hP, hD⟩, hS.F ht⟩) hS.2.2 dX7_mixThree_188
theorem dX7_mix_0 : decode cX7_mix 0 = .ok (.iconst 0, 1) := by decide +kernel
theorem dX7_mix_1 : decode cX7_mix 1 = .ok (.istore_n 2, 1) := by decide +kernel
theorem dX7_mix_2 : decode cX7_mix 2 = .ok (.iload_n 2, 1) := by decide +kernel
theorem dX7_mix_3 : decode cX7_mix 3 = .ok (.iconst 3, 1) := by decide +kernel
theorem dX7_mix_4 : decode cX7_mix 4 = .ok (.if_icmp .gt 16, 3) := by decide +kernel
theorem dX7_mix_7 : decode cX7_mix 7 = .ok (.aload_n 0, 1) := by decide +kernel
theorem dX7_mix_8 : decode cX7_mix 8 = .ok (.getfield 15, 3) := by decide +kernel
theorem dX7_mix_11 : decode cX7_mix 11 = .ok (.iload_n 2, 1) := by decide +kernel
theorem dX7_mix_12 : decode cX7_mix 12 = .ok (.lconst 0, 1) := by decide +kernel
theorem dX7_mix_13 : decode cX7_mix 13 = .ok (.lastore, 1) := by decide +kernel
theorem dX7_mix_14 : decode cX7_mix 14 = .ok (.iinc 2 1, 3) := by decide +kernel
theorem dX7_mix_17 : decode cX7_mix 17 = .ok (.goto (-15), 3) := by decide +kernel
theorem dX7_mix_20 : decode cX7_mix 20 = .ok (.aload_n 0, 1) := by decide +kernel
theorem dX7_mix_21 : decode cX7_mix 21 = .ok (.aload_n 1, 1) := by decide +kernel
theorem dX7_mix_22 : decode cX7_mix 22 = .ok (.aload_n 1, 1) := by decide +kernel
theorem dX7_mix_23 : decode cX7_mix 23 = .ok (.getfield 54, 3) := by decide +kernel
theorem dX7_mix_26 : decode cX7_mix 26 = .ok (.aload_n 1, 1) := by decide +kernel
theorem dX7_mix_27 : decode cX7_mix 27 = .ok (.getfield 57, 3) := by decide +kernel
theorem dX7_mix_30 : decode cX7_mix 30 = .ok (.invokevirtual 47, 3) := by decide +kernel
theorem dX7_mix_33 : decode cX7_mix 33 = .ok (.ifCond .ne 5, 3) := by decide +kernel
theorem dX7_mix_36 : decode cX7_mix 36 = .ok (.iconst 0, 1) := by decide +kernel
theorem dX7_mix_37 : decode cX7_mix 37 = .ok (.ireturn, 1) := by decide +kernel
theorem dX7_mix_38 : decode cX7_mix 38 = .ok (.aload_n 0, 1) := by decide +kernel
theorem dX7_mix_39 : decode cX7_mix 39 = .ok (.aload_n 1, 1) := by decide +kernel
theorem dX7_mix_40 : decode cX7_mix 40 = .ok (.invokevirtual 133, 3) := by decide +kernel
theorem dX7_mix_43 : decode cX7_mix 43 = .ok (.ifCond .ne 16, 3) := by decide +kernel
theorem dX7_mix_46 : decode cX7_mix 46 = .ok (.aload_n 0, 1) := by decide +kernel
theorem dX7_mix_47 : decode cX7_mix 47 = .ok (.aload_n 1, 1) := by decide +kernel
theorem dX7_mix_48 : decode cX7_mix 48 = .ok (.invokevirtual 136, 3) := by decide +kernel
theorem dX7_mix_51 : decode cX7_mix 51 = .ok (.ifCond .ne 8, 3) := by decide +kernel
theorem dX7_mix_54 : decode cX7_mix 54 = .ok (.aload_n 0, 1) := by decide +kernel
theorem dX7_mix_55 : decode cX7_mix 55 = .ok (.aload_n 1, 1) := by decide +kernel
theorem dX7_mix_56 : decode cX7_mix 56 = .ok (.invokevirtual 139, 3) := by decide +kernel
theorem dX7_mix_59 : decode cX7_mix 59 = .ok (.lconst 0, 1) := by decide +kernel
theorem dX7_mix_60 : decode cX7_mix 60 = .ok (.lstore_n 2, 1) := by decide +kernel
theorem dX7_mix_61 : decode cX7_mix 61 = .ok (.iconst 0, 1) := by decide +kernel
theorem dX7_mix_62 : decode cX7_mix 62 = .ok (.istore 4, 2) := by decide +kernel
theorem dX7_mix_64 : decode cX7_mix 64 = .ok (.iload 4, 2) := by decide +kernel
theorem dX7_mix_66 : decode cX7_mix 66 = .ok (.iconst 3, 1) := by decide +kernel
theorem dX7_mix_67 : decode cX7_mix 67 = .ok (.if_icmp .gt 21, 3) := by decide +kernel
theorem dX7_mix_70 : decode cX7_mix 70 = .ok (.lload_n 2, 1) := by decide +kernel
theorem dX7_mix_71 : decode cX7_mix 71 = .ok (.aload_n 0, 1) := by decide +kernel
theorem dX7_mix_72 : decode cX7_mix 72 = .ok (.getfield 15, 3) := by decide +kernel
theorem dX7_mix_75 : decode cX7_mix 75 = .ok (.iload 4, 2) := by decide +kernel
theorem dX7_mix_77 : decode cX7_mix 77 = .ok (.laload, 1) := by decide +kernel
theorem dX7_mix_78 : decode cX7_mix 78 = .ok (.invokestatic 142, 3) := by decide +kernel
theorem dX7_mix_81 : decode cX7_mix 81 = .ok (.lstore_n 2, 1) := by decide +kernel
theorem dX7_mix_82 : decode cX7_mix 82 = .ok (.iinc 4 1, 3) := by decide +kernel
theorem dX7_mix_85 : decode cX7_mix 85 = .ok (.goto (-21), 3) := by decide +kernel
theorem dX7_mix_88 : decode cX7_mix 88 = .ok (.lload_n 2, 1) := by decide +kernel
theorem dX7_mix_89 : decode cX7_mix 89 = .ok (.lconst 0, 1) := by decide +kernel
theorem dX7_mix_90 : decode cX7_mix 90 = .ok (.lcmp, 1) := by decide +kernel
theorem dX7_mix_91 : decode cX7_mix 91 = .ok (.ifCond .ne 5, 3) := by decide +kernel
theorem dX7_mix_94 : decode cX7_mix 94 = .ok (.iconst 0, 1) := by decide +kernel
theorem dX7_mix_95 : decode cX7_mix 95 = .ok (.ireturn, 1) := by decide +kernel
theorem dX7_mix_96 : decode cX7_mix 96 = .ok (.aload_n 0, 1) := by decide +kernel
theorem dX7_mix_97 : decode cX7_mix 97 = .ok (.getfield 15, 3) := by decide +kernel
theorem dX7_mix_100 : decode cX7_mix 100 = .ok (.iconst 3, 1) := by decide +kernel
theorem dX7_mix_101 : decode cX7_mix 101 = .ok (.laload, 1) := by decide +kernel
theorem dX7_mix_102 : decode cX7_mix 102 = .ok (.lconst 0, 1) := by decide +kernel
theorem dX7_mix_103 : decode cX7_mix 103 = .ok (.lcmp, 1) := by decide +kernel
theorem dX7_mix_104 : decode cX7_mix 104 = .ok (.ifCond .ge 6, 3) := by decide +kernel
theorem dX7_mix_107 : decode cX7_mix 107 = .ok (.lload_n 2, 1) := by decide +kernel
theorem dX7_mix_108 : decode cX7_mix 108 = .ok (.lneg, 1) := by decide +kernel
theorem dX7_mix_109 : decode cX7_mix 109 = .ok (.lstore_n 2, 1) := by decide +kernel
theorem dX7_mix_110 : decode cX7_mix 110 = .ok (.iconst 0, 1) := by decide +kernel
theorem dX7_mix_111 : decode cX7_mix 111 = .ok (.istore 4, 2) := by decide +kernel
theorem dX7_mix_113 : decode cX7_mix 113 = .ok (.iload 4, 2) := by decide +kernel
theorem dX7_mix_115 : decode cX7_mix 115 = .ok (.iconst 3, 1) := by decide +kernel
theorem dX7_mix_116 : decode cX7_mix 116 = .ok (.if_icmp .gt 20, 3) := by decide +kernel
theorem dX7_mix_119 : decode cX7_mix 119 = .ok (.aload_n 0, 1) := by decide +kernel
theorem dX7_mix_120 : decode cX7_mix 120 = .ok (.getfield 15, 3) := by decide +kernel
theorem dX7_mix_123 : decode cX7_mix 123 = .ok (.iload 4, 2) := by decide +kernel
theorem dX7_mix_125 : decode cX7_mix 125 = .ok (.dup2, 1) := by decide +kernel
theorem dX7_mix_126 : decode cX7_mix 126 = .ok (.laload, 1) := by decide +kernel
theorem dX7_mix_127 : decode cX7_mix 127 = .ok (.lload_n 2, 1) := by decide +kernel
theorem dX7_mix_128 : decode cX7_mix 128 = .ok (.ldiv, 1) := by decide +kernel
theorem dX7_mix_129 : decode cX7_mix 129 = .ok (.lastore, 1) := by decide +kernel
theorem dX7_mix_130 : decode cX7_mix 130 = .ok (.iinc 4 1, 3) := by decide +kernel
theorem dX7_mix_133 : decode cX7_mix 133 = .ok (.goto (-20), 3) := by decide +kernel
theorem dX7_mix_136 : decode cX7_mix 136 = .ok (.iconst 1, 1) := by decide +kernel
theorem dX7_mix_137 : decode cX7_mix 137 = .ok (.ireturn, 1) := by decide +kernel
set_option maxRecDepth 100000 in
set_option maxHeartbeats 4000000 in
theorem wX7_mix_L2 {p : Program} {l : Launch} {e : Env} {R : Room} {s : State} {m : MethodId} {args : Array Value} {below : List Frame} {meth : Method} {c : Code} {Q : State → Prop} {A : Nat → Prop} {dC : Nat → ClassId} {dI : Nat → Nat → Nat} {cI cL cB : ClassId} {K : Nat} (C0 : Sx p R s m args c cX7_mix 5 RX7 A dC dI cI cL cB 3 81) (h_t h_t_chosen h_t_mixed h_t_near h_p1 h_p1_x h_p1_y h_p1_colour h_p1_load : Nat) (t_gone : Int32) (t_stuck : Int32) (t_longest : Int32) (t_side : Int32) (t_chosen : Nat → Int32) (p1_size : Int32) (p1_centreX : Int32) (p1_centreY : Int32) (p1_x : Nat → Int32) (p1_y : Nat → Int32) : ∀ (n : Nat) (l2 : Int32) (t_mixed : Nat → Int64) (x_t_mixed : Nat → Int64) (H : Heap) (locs : List Loc) (ls : Array Slot), va_P (dC, dI) vwCl [(h_t, .inr (7, [.ref h_t_chosen, .ref h_t_mixed, .ref h_t_near, .int t_gone, .int t_stuck, .int t_longest, .int t_side])), (h_t_chosen, .inl (cI, 3, .inl t_chosen)), (h_t_mixed, .inl (cL, 4, .inr (.inl t_mixed))), (h_p1, .inr (0, [.ref h_p1_x, .ref h_p1_y, .ref h_p1_colour, .ref h_p1_load, .int p1_size, .int p1_centreX, .int p1_centreY])), (h_p1_x, .inl (cI, 24, .inl p1_x)), (h_p1_y, .inl (cI, 24, .inl p1_y))] H → va_D A [(h_t, .inr (7, [.ref h_t_chosen, .ref h_t_mixed, .ref h_t_near, .int t_gone, .int t_stuck, .int t_longest, .int t_side])), (h_t_chosen, .inl (cI, 3, .inl t_chosen)), (h_t_mixed, .inl (cL, 4, .inr (.inl t_mixed))), (h_p1, .inr (0, [.ref h_p1_x, .ref h_p1_y, .ref h_p1_colour, .ref h_p1_load, .int p1_size, .int p1_centreX, .int p1_centreY])), (h_p1_x, .inl (cI, 24, .inl p1_x)), (h_p1_y, .inl (cI, 24, .inl p1_y))] → va_S A s.heap H locs → lv_has ls 5 [(0, .ref h_t), (1, .ref h_p1), (2, .int l2)] → fX7_mix_L2 K n l2 t_mixed = some x_t_mixed → (∀ (H : Heap) (locs : List Loc) (ls : Array Slot), va_P (dC, dI) vwCl [(h_t, .inr (7, [.ref h_t_chosen, .ref h_t_mixed, .ref h_t_near, .int t_gone, .int t_stuck, .int t_longest, .int t_side])), (h_t_chosen, .inl (cI, 3, .inl t_chosen)), (h_t_mixed, .inl (cL, 4, .inr (.inl x_t_mixed))), (h_p1, .inr (0, [.ref h_p1_x, .ref h_p1_y, .ref h_p1_colour, .ref h_p1_load, .int p1_size, .int p1_centreX, .int p1_centreY])), (h_p1_x, .inl (cI, 24, .inl p1_x)), (h_p1_y, .inl (cI, 24, .inl p1_y))] H → va_D A [(h_t, .inr (7, [.ref h_t_chosen, .ref h_t_mixed, .ref h_t_near, .int t_gone, .int t_stuck, .int t_longest, .int t_side])), (h_t_chosen, .inl (cI, 3, .inl t_chosen)), (h_t_mixed, .inl (cL, 4, .inr (.inl x_t_mixed))), (h_p1, .inr (0, [.ref h_p1_x, .ref h_p1_y, .ref h_p1_colour, .ref h_p1_load, .int p1_size, .int p1_centreX, .int p1_centreY])), (h_p1_x, .inl (cI, 24, .inl p1_x)), (h_p1_y, .inl (cI, 24, .inl p1_y))] → va_S A s.heap H locs → lv_has ls 5 [(0, .ref h_t), (1, .ref h_p1)] → W p l e R s m args below meth c H locs 0 0 Q (F0 m 20 ls [])) → W p l e R s m args below meth c H locs 0 0 Q (F0 m 2 ls []) := by
  obtain ⟨hx, hb, hml, hown, hts, hK, hT, hA, hF, hLo⟩ := id C0
  intro n
  induction n with
  | zero =>
    intro l2 t_mixed x_t_mixed H locs ls hP hD hS hl hf
    rw [fX7_mix_L2] at hf
    cases hf
  | succ n ih =>
    intro l2 t_mixed x_t_mixed H locs ls hP hD hS hl hf hk
    rw [fX7_mix_L2] at hf
    refine lv_iload_n hx hb dX7_mix_2 rfl (lv_at hl 2 rfl) ?_
    refine lv_iconst (v := (3 : Int32)) hx hb dX7_mix_3 (by decide) ?_
    refine lv_icmp_gt (tgt := 20) hx hb dX7_mix_4 (by decide) (fun hc => ?_) (fun hc => ?_)
    · replace hf := it_t (hc) hf
      obtain rfl := o1 hf
      exact hk H locs ls hP hD hS (lv_sub hl [0, 1] rfl)
    · replace hf := it_f (hc) hf
      refine lv_aload_n hx hb dX7_mix_7 rfl (lv_at hl 0 rfl) ?_
      refine va_get (D := (dC, dI)) (ci := 7) (v := .ref h_t_mixed) (C := RX7) (T := TX7) (N := 7) hx hb hts in_X7 hown hK hP 0 rfl rfl 1 (Nat.le_of_ble_eq_true rfl) (hts _ qf_X7_15) (fun _ h9 => h9) rfl dX7_mix_8 ?_
      refine lv_iload_n hx hb dX7_mix_11 rfl (lv_at hl 2 rfl) ?_
      refine lv_lconst (v := (0 : Int64)) hx hb dX7_mix_12 (by decide) ?_
      obtain ⟨hg_1, hf⟩ := gd_some hf
      obtain ⟨t_mixed_2, et_mixed_2⟩ : ∃ y : Nat → Int64, y = vp_updL t_mixed l2.toNatClampNeg (0 : Int64) := ⟨_, rfl⟩
      replace hf := xl_at hf et_mixed_2
      refine xlast (w2 := [(h_t, .inr (7, [.ref h_t_chosen, .ref h_t_mixed, .ref h_t_near, .int t_gone, .int t_stuck, .int t_longest, .int t_side])), (h_t_chosen, .inl (cI, 3, .inl t_chosen)), (h_t_mixed, .inl (cL, 4, .inr (.inl t_mixed_2))), (h_p1, .inr (0, [.ref h_p1_x, .ref h_p1_y, .ref h_p1_colour, .ref h_p1_load, .int p1_size, .int p1_centreX, .int p1_centreY])), (h_p1_x, .inl (cI, 24, .inl p1_x)), (h_p1_y, .inl (cI, 24, .inl p1_y))]) hx hb hK hP hD hS 2 1 rfl rfl (inb_in hg_1) et_mixed_2 rfl dX7_mix_13 (fun H locs hP hD hS => ?_)
      obtain ⟨l2_3, el2_3⟩ : ∃ y : Int32, y = l2 + (1 : Int32) := ⟨_, rfl⟩
      replace hf := xl_at hf el2_3
      refine lv_iinc (v := l2_3) (lv' := [(2, .int l2_3), (0, .ref h_t), (1, .ref h_p1)]) hx hb dX7_mix_14 hl (k := 2) rfl (by rw [el2_3]; rfl) (Nat.le_of_ble_eq_true rfl) rfl (fun ls hl => ?_)
      refine lv_goto (tgt := 2) hx hb dX7_mix_17 (by decide) ?_
      exact ih l2_3 t_mixed_2 _ H locs ls hP hD hS (lv_sub hl [1, 2, 0] rfl) hf hk
set_option maxRecDepth 100000 in
set_option maxHeartbeats 4000000 in
theorem wX7_mix_L64 {p : Program} {l : Launch} {e : Env} {R : Room} {s : State} {m : MethodId} {args : Array Value} {below : List Frame} {meth : Method} {c : Code} {Q : State → Prop} {A : Nat → Prop} {dC : Nat → ClassId} {dI : Nat → Nat → Nat} {cI cL cB : ClassId} {K : Nat} (C0 : Sx p R s m args c cX7_mix 5 RX7 A dC dI cI cL cB 3 81) (h_t h_t_chosen h_t_mixed h_t_near h_p1 h_p1_x h_p1_y h_p1_colour h_p1_load : Nat) (t_gone : Int32) (t_stuck : Int32) (t_longest : Int32) (t_side : Int32) (t_chosen : Nat → Int32) (t_mixed : Nat → Int64) (p1_size : Int32) (p1_centreX : Int32) (p1_centreY : Int32) (p1_x : Nat → Int32) (p1_y : Nat → Int32) : ∀ (n : Nat) (l2 : Int64) (l4 : Int32) (x2_ : Int64) (H : Heap) (locs : List Loc) (ls : Array Slot), va_P (dC, dI) vwCl [(h_t, .inr (7, [.ref h_t_chosen, .ref h_t_mixed, .ref h_t_near, .int t_gone, .int t_stuck, .int t_longest, .int t_side])), (h_t_chosen, .inl (cI, 3, .inl t_chosen)), (h_t_mixed, .inl (cL, 4, .inr (.inl t_mixed))), (h_p1, .inr (0, [.ref h_p1_x, .ref h_p1_y, .ref h_p1_colour, .ref h_p1_load, .int p1_size, .int p1_centreX, .int p1_centreY])), (h_p1_x, .inl (cI, 24, .inl p1_x)), (h_p1_y, .inl (cI, 24, .inl p1_y))] H → va_D A [(h_t, .inr (7, [.ref h_t_chosen, .ref h_t_mixed, .ref h_t_near, .int t_gone, .int t_stuck, .int t_longest, .int t_side])), (h_t_chosen, .inl (cI, 3, .inl t_chosen)), (h_t_mixed, .inl (cL, 4, .inr (.inl t_mixed))), (h_p1, .inr (0, [.ref h_p1_x, .ref h_p1_y, .ref h_p1_colour, .ref h_p1_load, .int p1_size, .int p1_centreX, .int p1_centreY])), (h_p1_x, .inl (cI, 24, .inl p1_x)), (h_p1_y, .inl (cI, 24, .inl p1_y))] → va_S A s.heap H locs → lv_has ls 5 [(0, .ref h_t), (2, .long l2), (4, .int l4)] → fX7_mix_L64 K t_mixed n l2 l4 = some x2_ → (∀ (H : Heap) (locs : List Loc) (ls : Array Slot), va_P (dC, dI) vwCl [(h_t, .inr (7, [.ref h_t_chosen, .ref h_t_mixed, .ref h_t_near, .int t_gone, .int t_stuck, .int t_longest, .int t_side])), (h_t_chosen, .inl (cI, 3, .inl t_chosen)), (h_t_mixed, .inl (cL, 4, .inr (.inl t_mixed))), (h_p1, .inr (0, [.ref h_p1_x, .ref h_p1_y, .ref h_p1_colour, .ref h_p1_load, .int p1_size, .int p1_centreX, .int p1_centreY])), (h_p1_x, .inl (cI, 24, .inl p1_x)), (h_p1_y, .inl (cI, 24, .inl p1_y))] H → va_D A [(h_t, .inr (7, [.ref h_t_chosen, .ref h_t_mixed, .ref h_t_near, .int t_gone, .int t_stuck, .int t_longest, .int t_side])), (h_t_chosen, .inl (cI, 3, .inl t_chosen)), (h_t_mixed, .inl (cL, 4, .inr (.inl t_mixed))), (h_p1, .inr (0, [.ref h_p1_x, .ref h_p1_y, .ref h_p1_colour, .ref h_p1_load, .int p1_size, .int p1_centreX, .int p1_centreY])), (h_p1_x, .inl (cI, 24, .inl p1_x)), (h_p1_y, .inl (cI, 24, .inl p1_y))] → va_S A s.heap H locs → lv_has ls 5 [(0, .ref h_t), (2, .long x2_)] → W p l e R s m args below meth c H locs 0 0 Q (F0 m 88 ls [])) → W p l e R s m args below meth c H locs 0 0 Q (F0 m 64 ls []) := by
  obtain ⟨hx, hb, hml, hown, hts, hK, hT, hA, hF, hLo⟩ := id C0
  intro n
  induction n with
  | zero =>
    intro l2 l4 x2_ H locs ls hP hD hS hl hf
    rw [fX7_mix_L64] at hf
    cases hf
  | succ n ih =>
    intro l2 l4 x2_ H locs ls hP hD hS hl hf hk
    rw [fX7_mix_L64] at hf
    refine lv_iload hx hb dX7_mix_64 (lv_at hl 2 rfl) ?_
    refine lv_iconst (v := (3 : Int32)) hx hb dX7_mix_66 (by decide) ?_
    refine lv_icmp_gt (tgt := 88) hx hb dX7_mix_67 (by decide) (fun hc => ?_) (fun hc => ?_)
    · replace hf := it_t (hc) hf
      obtain rfl := o1 hf
      exact hk H locs ls hP hD hS (lv_sub hl [0, 1] rfl)
    · replace hf := it_f (hc) hf
      refine lv_lload_n hx hb dX7_mix_70 rfl (lv_at hl 1 rfl) ?_
      refine lv_aload_n hx hb dX7_mix_71 rfl (lv_at hl 0 rfl) ?_
      refine va_get (D := (dC, dI)) (ci := 7) (v := .ref h_t_mixed) (C := RX7) (T := TX7) (N := 7) hx hb hts in_X7 hown hK hP 0 rfl rfl 1 (Nat.le_of_ble_eq_true rfl) (hts _ qf_X7_15) (fun _ h9 => h9) rfl dX7_mix_72 ?_
      refine lv_iload hx hb dX7_mix_75 (lv_at hl 2 rfl) ?_
      obtain ⟨hg_14, hf⟩ := gd_some hf
      refine va_lald hx hb hK hP 2 1 rfl rfl (inb_in hg_14) dX7_mix_77 ?_
      obtain ⟨r_15, hq_16, hf⟩ := b1_some hf
      refine xcl (wr := [(h_t, .inr (7, [.ref h_t_chosen, .ref h_t_mixed, .ref h_t_near, .int t_gone, .int t_stuck, .int t_longest, .int t_side])), (h_t_chosen, .inl (cI, 3, .inl t_chosen)), (h_t_mixed, .inl (cL, 4, .inr (.inl t_mixed))), (h_p1, .inr (0, [.ref h_p1_x, .ref h_p1_y, .ref h_p1_colour, .ref h_p1_load, .int p1_size, .int p1_centreX, .int p1_centreY])), (h_p1_x, .inl (cI, 24, .inl p1_x)), (h_p1_y, .inl (cI, 24, .inl p1_y))]) (w2 := [(h_t, .inr (7, [.ref h_t_chosen, .ref h_t_mixed, .ref h_t_near, .int t_gone, .int t_stuck, .int t_longest, .int t_side])), (h_t_chosen, .inl (cI, 3, .inl t_chosen)), (h_t_mixed, .inl (cL, 4, .inr (.inl t_mixed))), (h_p1, .inr (0, [.ref h_p1_x, .ref h_p1_y, .ref h_p1_colour, .ref h_p1_load, .int p1_size, .int p1_centreX, .int p1_centreY])), (h_p1_x, .inl (cI, 24, .inl p1_x)), (h_p1_y, .inl (cI, 24, .inl p1_y))]) (va_runSN (As := [.long l2, .long (t_mixed l4.toNatClampNeg)]) (rest := []) ⟨hx, hb, hml, hown, hts⟩ (mtX11_gcd l dC dI cI cL cB K H.size l2 (t_mixed l4.toNatClampNeg) r_15 hq_16) ⟨va_cnB 2 hts (gcode qc_X11_gcd) rfl rfl rfl (hT _ qm_X7_142) (hts _ qz_X11) hdS_X11_gcd ⟨Nat.le_trans (Nat.le_of_ble_eq_true rfl) hF, Nat.le_trans (Nat.le_of_ble_eq_true rfl) hLo⟩, hts _ qt_X11_gcd, trivial⟩ (cPreS hK hP hD hT [] rfl rfl) rfl rfl hl.1 rfl (lv_room (Nat.le_of_ble_eq_true rfl)) dX7_mix_78 ⟨Nat.zero_le _, Nat.zero_le _⟩) hP hD hS hA [] [0, 1, 2, 3, 4, 5] [0, 1, 2, 3, 4, 5] rfl rfl rfl rfl rfl rfl (fun H locs hP hD hS => ?_)
      refine lv_lstore_n (lv' := [(2, .long r_15), (0, .ref h_t), (4, .int l4)]) hx hb dX7_mix_81 rfl hl (Nat.le_of_ble_eq_true rfl) rfl (fun ls hl => ?_)
      obtain ⟨l4_17, el4_17⟩ : ∃ y : Int32, y = l4 + (1 : Int32) := ⟨_, rfl⟩
      replace hf := xl_at hf el4_17
      refine lv_iinc (v := l4_17) (lv' := [(4, .int l4_17), (2, .long r_15), (0, .ref h_t)]) hx hb dX7_mix_82 hl (k := 2) rfl (by rw [el4_17]; rfl) (Nat.le_of_ble_eq_true rfl) rfl (fun ls hl => ?_)
      refine lv_goto (tgt := 64) hx hb dX7_mix_85 (by decide) ?_
      exact ih r_15 l4_17 _ H locs ls hP hD hS (lv_sub hl [2, 1, 0] rfl) hf hk
set_option maxRecDepth 100000 in
set_option maxHeartbeats 4000000 in
theorem wX7_mix_L113 {p : Program} {l : Launch} {e : Env} {R : Room} {s : State} {m : MethodId} {args : Array Value} {below : List Frame} {meth : Method} {c : Code} {Q : State → Prop} {A : Nat → Prop} {dC : Nat → ClassId} {dI : Nat → Nat → Nat} {cI cL cB : ClassId} {K : Nat} (C0 : Sx p R s m args c cX7_mix 5 RX7 A dC dI cI cL cB 3 81) (h_t h_t_chosen h_t_mixed h_t_near h_p1 h_p1_x h_p1_y h_p1_colour h_p1_load : Nat) (t_gone : Int32) (t_stuck : Int32) (t_longest : Int32) (t_side : Int32) (t_chosen : Nat → Int32) (p1_size : Int32) (p1_centreX : Int32) (p1_centreY : Int32) (p1_x : Nat → Int32) (p1_y : Nat → Int32) (l2 : Int64) : ∀ (n : Nat) (l4 : Int32) (t_mixed : Nat → Int64) (x_t_mixed : Nat → Int64) (H : Heap) (locs : List Loc) (ls : Array Slot), va_P (dC, dI) vwCl [(h_t, .inr (7, [.ref h_t_chosen, .ref h_t_mixed, .ref h_t_near, .int t_gone, .int t_stuck, .int t_longest, .int t_side])), (h_t_chosen, .inl (cI, 3, .inl t_chosen)), (h_t_mixed, .inl (cL, 4, .inr (.inl t_mixed))), (h_p1, .inr (0, [.ref h_p1_x, .ref h_p1_y, .ref h_p1_colour, .ref h_p1_load, .int p1_size, .int p1_centreX, .int p1_centreY])), (h_p1_x, .inl (cI, 24, .inl p1_x)), (h_p1_y, .inl (cI, 24, .inl p1_y))] H → va_D A [(h_t, .inr (7, [.ref h_t_chosen, .ref h_t_mixed, .ref h_t_near, .int t_gone, .int t_stuck, .int t_longest, .int t_side])), (h_t_chosen, .inl (cI, 3, .inl t_chosen)), (h_t_mixed, .inl (cL, 4, .inr (.inl t_mixed))), (h_p1, .inr (0, [.ref h_p1_x, .ref h_p1_y, .ref h_p1_colour, .ref h_p1_load, .int p1_size, .int p1_centreX, .int p1_centreY])), (h_p1_x, .inl (cI, 24, .inl p1_x)), (h_p1_y, .inl (cI, 24, .inl p1_y))] → va_S A s.heap H locs → lv_has ls 5 [(0, .ref h_t), (2, .long l2), (4, .int l4)] → fX7_mix_L113 K l2 n l4 t_mixed = some x_t_mixed → (∀ (H : Heap) (locs : List Loc) (ls : Array Slot), va_P (dC, dI) vwCl [(h_t, .inr (7, [.ref h_t_chosen, .ref h_t_mixed, .ref h_t_near, .int t_gone, .int t_stuck, .int t_longest, .int t_side])), (h_t_chosen, .inl (cI, 3, .inl t_chosen)), (h_t_mixed, .inl (cL, 4, .inr (.inl x_t_mixed))), (h_p1, .inr (0, [.ref h_p1_x, .ref h_p1_y, .ref h_p1_colour, .ref h_p1_load, .int p1_size, .int p1_centreX, .int p1_centreY])), (h_p1_x, .inl (cI, 24, .inl p1_x)), (h_p1_y, .inl (cI, 24, .inl p1_y))] H → va_D A [(h_t, .inr (7, [.ref h_t_chosen, .ref h_t_mixed, .ref h_t_near, .int t_gone, .int t_stuck, .int t_longest, .int t_side])), (h_t_chosen, .inl (cI, 3, .inl t_chosen)), (h_t_mixed, .inl (cL, 4, .inr (.inl x_t_mixed))), (h_p1, .inr (0, [.ref h_p1_x, .ref h_p1_y, .ref h_p1_colour, .ref h_p1_load, .int p1_size, .int p1_centreX, .int p1_centreY])), (h_p1_x, .inl (cI, 24, .inl p1_x)), (h_p1_y, .inl (cI, 24, .inl p1_y))] → va_S A s.heap H locs → lv_has ls 5 [] → W p l e R s m args below meth c H locs 0 0 Q (F0 m 136 ls [])) → W p l e R s m args below meth c H locs 0 0 Q (F0 m 113 ls []) := by
  obtain ⟨hx, hb, hml, hown, hts, hK, hT, hA, hF, hLo⟩ := id C0
  intro n
  induction n with
  | zero =>
    intro l4 t_mixed x_t_mixed H locs ls hP hD hS hl hf
    rw [fX7_mix_L113] at hf
    cases hf
  | succ n ih =>
    intro l4 t_mixed x_t_mixed H locs ls hP hD hS hl hf hk
    rw [fX7_mix_L113] at hf
    refine lv_iload hx hb dX7_mix_113 (lv_at hl 2 rfl) ?_
    refine lv_iconst (v := (3 : Int32)) hx hb dX7_mix_115 (by decide) ?_
    refine lv_icmp_gt (tgt := 136) hx hb dX7_mix_116 (by decide) (fun hc => ?_) (fun hc => ?_)
    · replace hf := it_t (hc) hf
      obtain rfl := o1 hf
      exact hk H locs ls hP hD hS (lv_sub hl [] rfl)
    · replace hf := it_f (hc) hf
      refine lv_aload_n hx hb dX7_mix_119 rfl (lv_at hl 0 rfl) ?_
      refine va_get (D := (dC, dI)) (ci := 7) (v := .ref h_t_mixed) (C := RX7) (T := TX7) (N := 7) hx hb hts in_X7 hown hK hP 0 rfl rfl 1 (Nat.le_of_ble_eq_true rfl) (hts _ qf_X7_15) (fun _ h9 => h9) rfl dX7_mix_120 ?_
      refine lv_iload hx hb dX7_mix_123 (lv_at hl 2 rfl) ?_
      refine lv_dup2_11 hx hb dX7_mix_125 rfl rfl ?_
      obtain ⟨hg_23, hf⟩ := gd_some hf
      refine va_lald hx hb hK hP 2 1 rfl rfl (inb_in hg_23) dX7_mix_126 ?_
      refine lv_lload_n hx hb dX7_mix_127 rfl (lv_at hl 1 rfl) ?_
      obtain ⟨hg_24, hf⟩ := gd_some hf
      refine lv_ldiv hx hb dX7_mix_128 (nz_ne hg_24) ?_
      obtain ⟨hg_25, hf⟩ := gd_some hf
      obtain ⟨t_mixed_26, et_mixed_26⟩ : ∃ y : Nat → Int64, y = vp_updL t_mixed l4.toNatClampNeg ((t_mixed l4.toNatClampNeg) / l2) := ⟨_, rfl⟩
      replace hf := xl_at hf et_mixed_26
      refine xlast (w2 := [(h_t, .inr (7, [.ref h_t_chosen, .ref h_t_mixed, .ref h_t_near, .int t_gone, .int t_stuck, .int t_longest, .int t_side])), (h_t_chosen, .inl (cI, 3, .inl t_chosen)), (h_t_mixed, .inl (cL, 4, .inr (.inl t_mixed_26))), (h_p1, .inr (0, [.ref h_p1_x, .ref h_p1_y, .ref h_p1_colour, .ref h_p1_load, .int p1_size, .int p1_centreX, .int p1_centreY])), (h_p1_x, .inl (cI, 24, .inl p1_x)), (h_p1_y, .inl (cI, 24, .inl p1_y))]) hx hb hK hP hD hS 2 1 rfl rfl (inb_in hg_25) et_mixed_26 rfl dX7_mix_129 (fun H locs hP hD hS => ?_)
      obtain ⟨l4_27, el4_27⟩ : ∃ y : Int32, y = l4 + (1 : Int32) := ⟨_, rfl⟩
      replace hf := xl_at hf el4_27
      refine lv_iinc (v := l4_27) (lv' := [(4, .int l4_27), (0, .ref h_t), (2, .long l2)]) hx hb dX7_mix_130 hl (k := 2) rfl (by rw [el4_27]; rfl) (Nat.le_of_ble_eq_true rfl) rfl (fun ls hl => ?_)
      refine lv_goto (tgt := 113) hx hb dX7_mix_133 (by decide) ?_
      exact ih l4_27 t_mixed_26 _ H locs ls hP hD hS (lv_sub hl [1, 2, 0] rfl) hf hk
set_option maxRecDepth 100000 in
set_option maxHeartbeats 4000000 in
theorem mtX7_mix (l : Launch) (dC : Nat → ClassId) (dI : Nat → Nat → Nat) (cI cL cB : ClassId) (K : Nat) (h_t h_t_chosen h_t_mixed h_t_near h_p1 h_p1_x h_p1_y h_p1_colour h_p1_load : Nat) (sz : Nat) (t_gone : Int32) (t_stuck : Int32) (t_longest : Int32) (t_side : Int32) (t_chosen : Nat → Int32) (t_mixed : Nat → Int64) (p1_size : Int32) (p1_centreX : Int32) (p1_centreY : Int32) (p1_x : Nat → Int32) (p1_y : Nat → Int32) (o_r : Int32) (o_t_mixed : Nat → Int64) (hf : fX7_mix K t_chosen t_mixed p1_centreX p1_centreY p1_x p1_y = some (o_r, o_t_mixed)) : Met l yX7_mix [Cond.code yX7_mix cX7_mix 5 (some .boolean)] ({ frames := 3, cells := 0, slots := 0, locals := 81 }) (va_Pc [.ref h_t, .ref h_p1] (cPre dC dI cI cL cB sz [(h_t, .inr (7, [.ref h_t_chosen, .ref h_t_mixed, .ref h_t_near, .int t_gone, .int t_stuck, .int t_longest, .int t_side])), (h_t_chosen, .inl (cI, 3, .inl t_chosen)), (h_t_mixed, .inl (cL, 4, .inr (.inl t_mixed))), (h_p1, .inr (0, [.ref h_p1_x, .ref h_p1_y, .ref h_p1_colour, .ref h_p1_load, .int p1_size, .int p1_centreX, .int p1_centreY])), (h_p1_x, .inl (cI, 24, .inl p1_x)), (h_p1_y, .inl (cI, 24, .inl p1_y))])) (cQi dC dI (va_A [(h_t, .inr (7, [.ref h_t_chosen, .ref h_t_mixed, .ref h_t_near, .int t_gone, .int t_stuck, .int t_longest, .int t_side])), (h_t_chosen, .inl (cI, 3, .inl t_chosen)), (h_t_mixed, .inl (cL, 4, .inr (.inl t_mixed))), (h_p1, .inr (0, [.ref h_p1_x, .ref h_p1_y, .ref h_p1_colour, .ref h_p1_load, .int p1_size, .int p1_centreX, .int p1_centreY])), (h_p1_x, .inl (cI, 24, .inl p1_x)), (h_p1_y, .inl (cI, 24, .inl p1_y))] sz) o_r [(h_t, .inr (7, [.ref h_t_chosen, .ref h_t_mixed, .ref h_t_near, .int t_gone, .int t_stuck, .int t_longest, .int t_side])), (h_t_chosen, .inl (cI, 3, .inl t_chosen)), (h_t_mixed, .inl (cL, 4, .inr (.inl o_t_mixed))), (h_p1, .inr (0, [.ref h_p1_x, .ref h_p1_y, .ref h_p1_colour, .ref h_p1_load, .int p1_size, .int p1_centreX, .int p1_centreY])), (h_p1_x, .inl (cI, 24, .inl p1_x)), (h_p1_y, .inl (cI, 24, .inl p1_y))]) 0 0 (va_A [(h_t, .inr (7, [.ref h_t_chosen, .ref h_t_mixed, .ref h_t_near, .int t_gone, .int t_stuck, .int t_longest, .int t_side])), (h_t_chosen, .inl (cI, 3, .inl t_chosen)), (h_t_mixed, .inl (cL, 4, .inr (.inl t_mixed))), (h_p1, .inr (0, [.ref h_p1_x, .ref h_p1_y, .ref h_p1_colour, .ref h_p1_load, .int p1_size, .int p1_centreX, .int p1_centreY])), (h_p1_x, .inl (cI, 24, .inl p1_x)), (h_p1_y, .inl (cI, 24, .inl p1_y))] sz) := by
  refine Met.ofW (cc := cX7_mix) (maxL := 5) (ret := (some .boolean)) (by decide) rfl ?_
  intro p e s m args below meth c s₁ B hml hv
  obtain ⟨rfl, hsz, hP, hK, hD0, hT⟩ := hv
  have hx := B.exec
  have hb := B.bytes
  have hr := B.returns
  have hown : s.vm.findClass RX7 = some m.cls := findClass_of_methodNamed B.named
  have hlocks := B.notSynchronized
  have hts := TB.use hT ([.ref h_t, .ref h_p1] : List Value).toArray
  subst hsz
  have hD := hD0.self (sz := s.heap.size)
  generalize hAe : va_A [(h_t, .inr (7, [.ref h_t_chosen, .ref h_t_mixed, .ref h_t_near, .int t_gone, .int t_stuck, .int t_longest, .int t_side])), (h_t_chosen, .inl (cI, 3, .inl t_chosen)), (h_t_mixed, .inl (cL, 4, .inr (.inl t_mixed))), (h_p1, .inr (0, [.ref h_p1_x, .ref h_p1_y, .ref h_p1_colour, .ref h_p1_load, .int p1_size, .int p1_centreX, .int p1_centreY])), (h_p1_x, .inl (cI, 24, .inl p1_x)), (h_p1_y, .inl (cI, 24, .inl p1_y))] s.heap.size = A at hD ⊢
  have hA : ∀ q : Nat, s.heap.size ≤ q → A q := fun q h => by rw [← hAe]; exact Or.inr h
  clear hAe hD0
  have hl := lv_entry ([.ref h_t, .ref h_p1]) (n := 5) (Nat.le_of_ble_eq_true rfl)
  rw [lg_entry_eq]
  generalize (lg_sl ([.ref h_t, .ref h_p1]) ++ List.replicate (5 - (lg_sl ([.ref h_t, .ref h_p1])).length) Slot.unset).toArray = ls at hl ⊢
  have hl : lv_has ls 5 [(0, .ref h_t), (1, .ref h_p1)] := hl
  have hF : 3 ≤ (headSpec [Cond.code yX7_mix cX7_mix 5 (some .boolean)] ({ frames := 3, cells := 0, slots := 0, locals := 81 })).room.frames := Nat.le_refl _
  have hLo : 81 ≤ (headSpec [Cond.code yX7_mix cX7_mix 5 (some .boolean)] ({ frames := 3, cells := 0, slots := 0, locals := 81 })).room.locals := Nat.le_refl _
  have C0 : Sx p (headSpec [Cond.code yX7_mix cX7_mix 5 (some .boolean)] ({ frames := 3, cells := 0, slots := 0, locals := 81 })).room s m ([.ref h_t, .ref h_p1] : List Value).toArray c cX7_mix 5 RX7 A dC dI cI cL cB 3 81 := ⟨hx, hb, hml, hown, hts, hK, hT, hA, hF, hLo⟩
  refine startH (A := A) hP (fun H locs hP hS => ?_)
  rw [fX7_mix] at hf
  refine lv_iconst (v := (0 : Int32)) hx hb dX7_mix_0 (by decide) ?_
  refine lv_istore_n (lv' := [(2, .int (0 : Int32)), (0, .ref h_t), (1, .ref h_p1)]) hx hb dX7_mix_1 rfl hl (Nat.le_of_ble_eq_true rfl) rfl (fun ls hl => ?_)
  obtain ⟨t_mixed_5, hq_4, hf⟩ := b1_some hf
  refine wX7_mix_L2 C0 h_t h_t_chosen h_t_mixed h_t_near h_p1 h_p1_x h_p1_y h_p1_colour h_p1_load t_gone t_stuck t_longest t_side t_chosen p1_size p1_centreX p1_centreY p1_x p1_y K (0 : Int32) t_mixed t_mixed_5 H locs ls hP hD hS (lv_sub hl [1, 2, 0] rfl) hq_4 ?_
  intro H locs ls hP hD hS hl
  refine lv_aload_n hx hb dX7_mix_20 rfl (lv_at hl 0 rfl) ?_
  refine lv_aload_n hx hb dX7_mix_21 rfl (lv_at hl 1 rfl) ?_
  refine lv_aload_n hx hb dX7_mix_22 rfl (lv_at hl 1 rfl) ?_
  refine va_get (D := (dC, dI)) (ci := 0) (v := .int p1_centreX) (C := RX0) (T := TX0) (N := 7) hx hb hts in_X0 hown hK hP 3 rfl rfl 5 (Nat.le_of_ble_eq_true rfl) (hts _ qf_X7_54) (fun _ h9 => h9) rfl dX7_mix_23 ?_
  refine lv_aload_n hx hb dX7_mix_26 rfl (lv_at hl 1 rfl) ?_
  refine va_get (D := (dC, dI)) (ci := 0) (v := .int p1_centreY) (C := RX0) (T := TX0) (N := 7) hx hb hts in_X0 hown hK hP 3 rfl rfl 6 (Nat.le_of_ble_eq_true rfl) (hts _ qf_X7_57) (fun _ h9 => h9) rfl dX7_mix_27 ?_
  obtain ⟨r_6, hq_7, hf⟩ := b1_some hf
  refine xci (wr := [(h_t_mixed, .inl (cL, 4, .inr (.inl t_mixed_5)))]) (w2 := [(h_t, .inr (7, [.ref h_t_chosen, .ref h_t_mixed, .ref h_t_near, .int t_gone, .int t_stuck, .int t_longest, .int t_side])), (h_t_chosen, .inl (cI, 3, .inl t_chosen)), (h_t_mixed, .inl (cL, 4, .inr (.inl t_mixed_5))), (h_p1, .inr (0, [.ref h_p1_x, .ref h_p1_y, .ref h_p1_colour, .ref h_p1_load, .int p1_size, .int p1_centreX, .int p1_centreY])), (h_p1_x, .inl (cI, 24, .inl p1_x)), (h_p1_y, .inl (cI, 24, .inl p1_y))]) (va_runV (As := [.ref h_p1, .int p1_centreX, .int p1_centreY]) (rest := []) ⟨hx, hb, hml, hown, hts⟩ (mtX7_chosenHold l dC dI cI cL cB K h_t h_t_chosen h_t_mixed h_t_near h_p1 h_p1_x h_p1_y h_p1_colour h_p1_load H.size t_gone t_stuck t_longest t_side t_chosen p1_size p1_centreX p1_centreY p1_x p1_y p1_centreX p1_centreY r_6 hq_7) (cwV 3 hts gv_X7_47 rfl rfl rfl hdV_X7_chosenHold ⟨Nat.le_trans (Nat.le_of_ble_eq_true rfl) hF, Nat.le_trans (Nat.le_of_ble_eq_true rfl) hLo⟩) (cPreV hK hP hD hT [0, 1, 3, 4, 5] rfl rfl (ci := 7) (q0 := 0) rfl rfl) rfl rfl hl.1 rfl (lv_room (Nat.le_of_ble_eq_true rfl)) dX7_mix_30 ⟨Nat.zero_le _, Nat.zero_le _⟩) hP hD hS hA [0, 1, 3, 4, 5] [2] [1, 2, 0, 3, 4, 5] rfl rfl rfl rfl rfl rfl (fun H locs hP hD hS => ?_)
  refine lv_if_ne (tgt := 38) hx hb dX7_mix_33 (by decide) (fun hc => ?_) (fun hc => ?_)
  · replace hf := it_f (hc) hf
    refine lv_aload_n hx hb dX7_mix_38 rfl (lv_at hl 0 rfl) ?_
    refine lv_aload_n hx hb dX7_mix_39 rfl (lv_at hl 1 rfl) ?_
    obtain ⟨r_8, t_mixed_9, hq_10, hf⟩ := b2_some hf
    refine xci (wr := []) (w2 := [(h_t, .inr (7, [.ref h_t_chosen, .ref h_t_mixed, .ref h_t_near, .int t_gone, .int t_stuck, .int t_longest, .int t_side])), (h_t_chosen, .inl (cI, 3, .inl t_chosen)), (h_t_mixed, .inl (cL, 4, .inr (.inl t_mixed_9))), (h_p1, .inr (0, [.ref h_p1_x, .ref h_p1_y, .ref h_p1_colour, .ref h_p1_load, .int p1_size, .int p1_centreX, .int p1_centreY])), (h_p1_x, .inl (cI, 24, .inl p1_x)), (h_p1_y, .inl (cI, 24, .inl p1_y))]) (va_runV (As := [.ref h_p1]) (rest := []) ⟨hx, hb, hml, hown, hts⟩ (mtX7_mixOne l dC dI cI cL cB K h_t h_t_chosen h_t_mixed h_t_near h_p1 h_p1_x h_p1_y h_p1_colour h_p1_load H.size t_gone t_stuck t_longest t_side t_chosen t_mixed_5 p1_size p1_centreX p1_centreY p1_x p1_y r_8 t_mixed_9 hq_10) (cwV 1 hts gv_X7_133 rfl rfl rfl hdV_X7_mixOne ⟨Nat.le_trans (Nat.le_of_ble_eq_true rfl) hF, Nat.le_trans (Nat.le_of_ble_eq_true rfl) hLo⟩) (cPreV hK hP hD hT [0, 1, 2, 3, 4, 5] rfl rfl (ci := 7) (q0 := 0) rfl rfl) rfl rfl hl.1 rfl (lv_room (Nat.le_of_ble_eq_true rfl)) dX7_mix_40 ⟨Nat.zero_le _, Nat.zero_le _⟩) hP hD hS hA [0, 1, 2, 3, 4, 5] [] [0, 1, 2, 3, 4, 5] rfl rfl rfl rfl rfl rfl (fun H locs hP hD hS => ?_)
    obtain ⟨k_12, ek_12, hf⟩ := jn_out hf
    have J_13 : ∀ (t_mixed_11 : Nat → Int64) (H : Heap) (locs : List Loc) (ls : Array Slot), va_P (dC, dI) vwCl [(h_t, .inr (7, [.ref h_t_chosen, .ref h_t_mixed, .ref h_t_near, .int t_gone, .int t_stuck, .int t_longest, .int t_side])), (h_t_chosen, .inl (cI, 3, .inl t_chosen)), (h_t_mixed, .inl (cL, 4, .inr (.inl t_mixed_11))), (h_p1, .inr (0, [.ref h_p1_x, .ref h_p1_y, .ref h_p1_colour, .ref h_p1_load, .int p1_size, .int p1_centreX, .int p1_centreY])), (h_p1_x, .inl (cI, 24, .inl p1_x)), (h_p1_y, .inl (cI, 24, .inl p1_y))] H → va_D A [(h_t, .inr (7, [.ref h_t_chosen, .ref h_t_mixed, .ref h_t_near, .int t_gone, .int t_stuck, .int t_longest, .int t_side])), (h_t_chosen, .inl (cI, 3, .inl t_chosen)), (h_t_mixed, .inl (cL, 4, .inr (.inl t_mixed_11))), (h_p1, .inr (0, [.ref h_p1_x, .ref h_p1_y, .ref h_p1_colour, .ref h_p1_load, .int p1_size, .int p1_centreX, .int p1_centreY])), (h_p1_x, .inl (cI, 24, .inl p1_x)), (h_p1_y, .inl (cI, 24, .inl p1_y))] → va_S A s.heap H locs → lv_has ls 5 [(0, .ref h_t)] → k_12 t_mixed_11 = some (o_r, o_t_mixed) → W p l e (headSpec [Cond.code yX7_mix cX7_mix 5 (some .boolean)] ({ frames := 3, cells := 0, slots := 0, locals := 81 })).room s m ([.ref h_t, .ref h_p1] : List Value).toArray below meth c H locs 0 0 (MQ below (cQi dC dI A o_r [(h_t, .inr (7, [.ref h_t_chosen, .ref h_t_mixed, .ref h_t_near, .int t_gone, .int t_stuck, .int t_longest, .int t_side])), (h_t_chosen, .inl (cI, 3, .inl t_chosen)), (h_t_mixed, .inl (cL, 4, .inr (.inl o_t_mixed))), (h_p1, .inr (0, [.ref h_p1_x, .ref h_p1_y, .ref h_p1_colour, .ref h_p1_load, .int p1_size, .int p1_centreX, .int p1_centreY])), (h_p1_x, .inl (cI, 24, .inl p1_x)), (h_p1_y, .inl (cI, 24, .inl p1_y))]) ([.ref h_t, .ref h_p1] : List Value).toArray s 0 0 A) (F0 m 59 ls []) := by
      intro t_mixed_11 H locs ls hP hD hS hl hf
      rw [ek_12] at hf
      try dsimp only at hf
      refine lv_lconst (v := (0 : Int64)) hx hb dX7_mix_59 (by decide) ?_
      refine lv_lstore_n (lv' := [(2, .long (0 : Int64)), (0, .ref h_t)]) hx hb dX7_mix_60 rfl hl (Nat.le_of_ble_eq_true rfl) rfl (fun ls hl => ?_)
      refine lv_iconst (v := (0 : Int32)) hx hb dX7_mix_61 (by decide) ?_
      refine lv_istore (lv' := [(4, .int (0 : Int32)), (2, .long (0 : Int64)), (0, .ref h_t)]) hx hb dX7_mix_62 hl (Nat.le_of_ble_eq_true rfl) rfl (fun ls hl => ?_)
      obtain ⟨l2_19, hq_18, hf⟩ := b1_some hf
      refine wX7_mix_L64 C0 h_t h_t_chosen h_t_mixed h_t_near h_p1 h_p1_x h_p1_y h_p1_colour h_p1_load t_gone t_stuck t_longest t_side t_chosen t_mixed_11 p1_size p1_centreX p1_centreY p1_x p1_y K (0 : Int64) (0 : Int32) l2_19 H locs ls hP hD hS (lv_sub hl [2, 1, 0] rfl) hq_18 ?_
      intro H locs ls hP hD hS hl
      refine lv_lload_n hx hb dX7_mix_88 rfl (lv_at hl 1 rfl) ?_
      refine lv_lconst (v := (0 : Int64)) hx hb dX7_mix_89 (by decide) ?_
      refine W.lcmp hx hb dX7_mix_90 ?_
      refine lv_if_ne (tgt := 96) hx hb dX7_mix_91 (by decide) (fun hc => ?_) (fun hc => ?_)
      · replace hf := it_f (fun h9 => hc ((lg_cmp_eq _ _).mpr h9)) hf
        refine lv_aload_n hx hb dX7_mix_96 rfl (lv_at hl 0 rfl) ?_
        refine va_get (D := (dC, dI)) (ci := 7) (v := .ref h_t_mixed) (C := RX7) (T := TX7) (N := 7) hx hb hts in_X7 hown hK hP 0 rfl rfl 1 (Nat.le_of_ble_eq_true rfl) (hts _ qf_X7_15) (fun _ h9 => h9) rfl dX7_mix_97 ?_
        refine lv_iconst (v := (3 : Int32)) hx hb dX7_mix_100 (by decide) ?_
        refine va_lald hx hb hK hP 2 1 rfl rfl (inb_in (by decide)) dX7_mix_101 ?_
        refine lv_lconst (v := (0 : Int64)) hx hb dX7_mix_102 (by decide) ?_
        refine W.lcmp hx hb dX7_mix_103 ?_
        obtain ⟨k_21, ek_21, hf⟩ := jn_out hf
        have J_22 : ∀ (l2_20 : Int64) (H : Heap) (locs : List Loc) (ls : Array Slot), va_P (dC, dI) vwCl [(h_t, .inr (7, [.ref h_t_chosen, .ref h_t_mixed, .ref h_t_near, .int t_gone, .int t_stuck, .int t_longest, .int t_side])), (h_t_chosen, .inl (cI, 3, .inl t_chosen)), (h_t_mixed, .inl (cL, 4, .inr (.inl t_mixed_11))), (h_p1, .inr (0, [.ref h_p1_x, .ref h_p1_y, .ref h_p1_colour, .ref h_p1_load, .int p1_size, .int p1_centreX, .int p1_centreY])), (h_p1_x, .inl (cI, 24, .inl p1_x)), (h_p1_y, .inl (cI, 24, .inl p1_y))] H → va_D A [(h_t, .inr (7, [.ref h_t_chosen, .ref h_t_mixed, .ref h_t_near, .int t_gone, .int t_stuck, .int t_longest, .int t_side])), (h_t_chosen, .inl (cI, 3, .inl t_chosen)), (h_t_mixed, .inl (cL, 4, .inr (.inl t_mixed_11))), (h_p1, .inr (0, [.ref h_p1_x, .ref h_p1_y, .ref h_p1_colour, .ref h_p1_load, .int p1_size, .int p1_centreX, .int p1_centreY])), (h_p1_x, .inl (cI, 24, .inl p1_x)), (h_p1_y, .inl (cI, 24, .inl p1_y))] → va_S A s.heap H locs → lv_has ls 5 [(0, .ref h_t), (2, .long l2_20)] → k_21 l2_20 = some (o_r, o_t_mixed) → W p l e (headSpec [Cond.code yX7_mix cX7_mix 5 (some .boolean)] ({ frames := 3, cells := 0, slots := 0, locals := 81 })).room s m ([.ref h_t, .ref h_p1] : List Value).toArray below meth c H locs 0 0 (MQ below (cQi dC dI A o_r [(h_t, .inr (7, [.ref h_t_chosen, .ref h_t_mixed, .ref h_t_near, .int t_gone, .int t_stuck, .int t_longest, .int t_side])), (h_t_chosen, .inl (cI, 3, .inl t_chosen)), (h_t_mixed, .inl (cL, 4, .inr (.inl o_t_mixed))), (h_p1, .inr (0, [.ref h_p1_x, .ref h_p1_y, .ref h_p1_colour, .ref h_p1_load, .int p1_size, .int p1_centreX, .int p1_centreY])), (h_p1_x, .inl (cI, 24, .inl p1_x)), (h_p1_y, .inl (cI, 24, .inl p1_y))]) ([.ref h_t, .ref h_p1] : List Value).toArray s 0 0 A) (F0 m 110 ls []) := by
          intro l2_20 H locs ls hP hD hS hl hf
          rw [ek_21] at hf
          try dsimp only at hf
          refine lv_iconst (v := (0 : Int32)) hx hb dX7_mix_110 (by decide) ?_
          refine lv_istore (lv' := [(4, .int (0 : Int32)), (0, .ref h_t), (2, .long l2_20)]) hx hb dX7_mix_111 hl (Nat.le_of_ble_eq_true rfl) rfl (fun ls hl => ?_)
          obtain ⟨t_mixed_29, hq_28, hf⟩ := b1_some hf
          refine wX7_mix_L113 C0 h_t h_t_chosen h_t_mixed h_t_near h_p1 h_p1_x h_p1_y h_p1_colour h_p1_load t_gone t_stuck t_longest t_side t_chosen p1_size p1_centreX p1_centreY p1_x p1_y l2_20 K (0 : Int32) t_mixed_11 t_mixed_29 H locs ls hP hD hS (lv_sub hl [1, 2, 0] rfl) hq_28 ?_
          intro H locs ls hP hD hS hl
          refine lv_iconst (v := (1 : Int32)) hx hb dX7_mix_136 (by decide) ?_
          obtain ⟨rfl, rfl⟩ := o2 hf
          exact W.zret hx hb hr rfl (fun t ht hW => ⟨⟨_, (), rfl, rfl, by rw [ht]; exact hP, hD⟩, hS.F ht⟩) hS.2.2 dX7_mix_137
        refine lv_if_ge (tgt := 110) hx hb dX7_mix_104 (by decide) (fun hc => ?_) (fun hc => ?_)
        · replace hf := it_t ((lg_cmp_ge _ _).mp hc) hf
          exact J_22 l2_19 H locs ls hP hD hS (lv_sub hl [0, 1] rfl) hf
        · replace hf := it_f (fun h9 => hc ((lg_cmp_ge _ _).mpr h9)) hf
          refine lv_lload_n hx hb dX7_mix_107 rfl (lv_at hl 1 rfl) ?_
          refine lv_lneg hx hb dX7_mix_108 ?_
          refine lv_topl (fun l2_30 el2_30 => ?_)
          replace hf := xl_at hf el2_30
          refine lv_lstore_n (lv' := [(2, .long l2_30), (0, .ref h_t)]) hx hb dX7_mix_109 rfl hl (Nat.le_of_ble_eq_true rfl) rfl (fun ls hl => ?_)
          exact J_22 l2_30 H locs ls hP hD hS (lv_sub hl [1, 0] rfl) hf
      · replace hf := it_t ((lg_cmp_eq _ _).mp hc) hf
        refine lv_iconst (v := (0 : Int32)) hx hb dX7_mix_94 (by decide) ?_
        obtain ⟨rfl, rfl⟩ := o2 hf
        exact W.zret hx hb hr rfl (fun t ht hW => ⟨⟨_, (), rfl, rfl, by rw [ht]; exact hP, hD⟩, hS.F ht⟩) hS.2.2 dX7_mix_95
    refine lv_if_ne (tgt := 59) hx hb dX7_mix_43 (by decide) (fun hc => ?_) (fun hc => ?_)
    · replace hf := it_f (hc) hf
      exact J_13 t_mixed_9 H locs ls hP hD hS (lv_sub hl [0] rfl) hf
    · replace hf := it_t (hc) hf
      refine lv_aload_n hx hb dX7_mix_46 rfl (lv_at hl 0 rfl) ?_
      refine lv_aload_n hx hb dX7_mix_47 rfl (lv_at hl 1 rfl) ?_
      obtain ⟨r_31, t_mixed_32, hq_33, hf⟩ := b2_some hf
      refine xci (wr := []) (w2 := [(h_t, .inr (7, [.ref h_t_chosen, .ref h_t_mixed, .ref h_t_near, .int t_gone, .int t_stuck, .int t_longest, .int t_side])), (h_t_chosen, .inl (cI, 3, .inl t_chosen)), (h_t_mixed, .inl (cL, 4, .inr (.inl t_mixed_32))), (h_p1, .inr (0, [.ref h_p1_x, .ref h_p1_y, .ref h_p1_colour, .ref h_p1_load, .int p1_size, .int p1_centreX, .int p1_centreY])), (h_p1_x, .inl (cI, 24, .inl p1_x)), (h_p1_y, .inl (cI, 24, .inl p1_y))]) (va_runV (As := [.ref h_p1]) (rest := []) ⟨hx, hb, hml, hown, hts⟩ (mtX7_mixTwo l dC dI cI cL cB K h_t h_t_chosen h_t_mixed h_t_near h_p1 h_p1_x h_p1_y h_p1_colour h_p1_load H.size t_gone t_stuck t_longest t_side t_chosen t_mixed_9 p1_size p1_centreX p1_centreY p1_x p1_y r_31 t_mixed_32 hq_33) (cwV 1 hts gv_X7_136 rfl rfl rfl hdV_X7_mixTwo ⟨Nat.le_trans (Nat.le_of_ble_eq_true rfl) hF, Nat.le_trans (Nat.le_of_ble_eq_true rfl) hLo⟩) (cPreV hK hP hD hT [0, 1, 2, 3, 4, 5] rfl rfl (ci := 7) (q0 := 0) rfl rfl) rfl rfl hl.1 rfl (lv_room (Nat.le_of_ble_eq_true rfl)) dX7_mix_48 ⟨Nat.zero_le _, Nat.zero_le _⟩) hP hD hS hA [0, 1, 2, 3, 4, 5] [] [0, 1, 2, 3, 4, 5] rfl rfl rfl rfl rfl rfl (fun H locs hP hD hS => ?_)
      refine lv_if_ne (tgt := 59) hx hb dX7_mix_51 (by decide) (fun hc => ?_) (fun hc => ?_)
      · replace hf := it_f (hc) hf
        exact J_13 t_mixed_32 H locs ls hP hD hS (lv_sub hl [0] rfl) hf
      · replace hf := it_t (hc) hf
        refine lv_aload_n hx hb dX7_mix_54 rfl (lv_at hl 0 rfl) ?_
        refine lv_aload_n hx hb dX7_mix_55 rfl (lv_at hl 1 rfl) ?_
        obtain ⟨t_mixed_34, hq_35, hf⟩ := b1_some hf
        refine xcv (wr := []) (w2 := [(h_t, .inr (7, [.ref h_t_chosen, .ref h_t_mixed, .ref h_t_near, .int t_gone, .int t_stuck, .int t_longest, .int t_side])), (h_t_chosen, .inl (cI, 3, .inl t_chosen)), (h_t_mixed, .inl (cL, 4, .inr (.inl t_mixed_34))), (h_p1, .inr (0, [.ref h_p1_x, .ref h_p1_y, .ref h_p1_colour, .ref h_p1_load, .int p1_size, .int p1_centreX, .int p1_centreY])), (h_p1_x, .inl (cI, 24, .inl p1_x)), (h_p1_y, .inl (cI, 24, .inl p1_y))]) (va_runV (As := [.ref h_p1]) (rest := []) ⟨hx, hb, hml, hown, hts⟩ (mtX7_mixThree l dC dI cI cL cB K h_t h_t_chosen h_t_mixed h_t_near h_p1 h_p1_x h_p1_y h_p1_colour h_p1_load H.size t_gone t_stuck t_longest t_side t_chosen t_mixed_32 p1_size p1_centreX p1_centreY p1_x p1_y t_mixed_34 hq_35) (cwV 1 hts gv_X7_139 rfl rfl rfl hdV_X7_mixThree ⟨Nat.le_trans (Nat.le_of_ble_eq_true rfl) hF, Nat.le_trans (Nat.le_of_ble_eq_true rfl) hLo⟩) (cPreV hK hP hD hT [0, 1, 2, 3, 4, 5] rfl rfl (ci := 7) (q0 := 0) rfl rfl) rfl rfl hl.1 rfl (lv_room (Nat.le_of_ble_eq_true rfl)) dX7_mix_56 ⟨Nat.zero_le _, Nat.zero_le _⟩) hP hD hS hA [0, 1, 2, 3, 4, 5] [] [0, 1, 2, 3, 4, 5] rfl rfl rfl rfl rfl rfl (fun H locs hP hD hS => ?_)
        exact J_13 t_mixed_34 H locs ls hP hD hS (lv_sub hl [0] rfl) hf
  · replace hf := it_t (hc) hf
    refine lv_iconst (v := (0 : Int32)) hx hb dX7_mix_36 (by decide) ?_
    obtain ⟨rfl, rfl⟩ := o2 hf
    exact W.zret hx hb hr rfl (fun t ht hW => ⟨⟨_, (), rfl, rfl, by rw [ht]; exact hP, hD⟩, hS.F ht⟩) hS.2.2 dX7_mix_37
theorem dX11_mixture_0 : decode cX11_mixture 0 = .ok (.aload_n 0, 1) := by decide +kernel
theorem dX11_mixture_1 : decode cX11_mixture 1 = .ok (.getfield 12, 3) := by decide +kernel
theorem dX11_mixture_4 : decode cX11_mixture 4 = .ok (.iload_n 1, 1) := by decide +kernel
theorem dX11_mixture_5 : decode cX11_mixture 5 = .ok (.iload_n 2, 1) := by decide +kernel
theorem dX11_mixture_6 : decode cX11_mixture 6 = .ok (.iload_n 3, 1) := by decide +kernel
theorem dX11_mixture_7 : decode cX11_mixture 7 = .ok (.invokevirtual 269, 3) := by decide +kernel
theorem dX11_mixture_10 : decode cX11_mixture 10 = .ok (.ifCond .eq 14, 3) := by decide +kernel
theorem dX11_mixture_13 : decode cX11_mixture 13 = .ok (.iload 4, 2) := by decide +kernel
theorem dX11_mixture_15 : decode cX11_mixture 15 = .ok (.ifCond .lt 9, 3) := by decide +kernel
theorem dX11_mixture_18 : decode cX11_mixture 18 = .ok (.iload 4, 2) := by decide +kernel
theorem dX11_mixture_20 : decode cX11_mixture 20 = .ok (.iconst 3, 1) := by decide +kernel
theorem dX11_mixture_21 : decode cX11_mixture 21 = .ok (.if_icmp .le 7, 3) := by decide +kernel
theorem dX11_mixture_24 : decode cX11_mixture 24 = .ok (.ldc2_w 131, 3) := by decide +kernel
theorem dX11_mixture_27 : decode cX11_mixture 27 = .ok (.lreturn, 1) := by decide +kernel
theorem dX11_mixture_28 : decode cX11_mixture 28 = .ok (.aload_n 0, 1) := by decide +kernel
theorem dX11_mixture_29 : decode cX11_mixture 29 = .ok (.getfield 56, 3) := by decide +kernel
theorem dX11_mixture_32 : decode cX11_mixture 32 = .ok (.iload_n 1, 1) := by decide +kernel
theorem dX11_mixture_33 : decode cX11_mixture 33 = .ok (.iload_n 2, 1) := by decide +kernel
theorem dX11_mixture_34 : decode cX11_mixture 34 = .ok (.iload_n 3, 1) := by decide +kernel
theorem dX11_mixture_35 : decode cX11_mixture 35 = .ok (.invokevirtual 273, 3) := by decide +kernel
theorem dX11_mixture_38 : decode cX11_mixture 38 = .ok (.aload_n 0, 1) := by decide +kernel
theorem dX11_mixture_39 : decode cX11_mixture 39 = .ok (.getfield 56, 3) := by decide +kernel
theorem dX11_mixture_42 : decode cX11_mixture 42 = .ok (.aload_n 0, 1) := by decide +kernel
theorem dX11_mixture_43 : decode cX11_mixture 43 = .ok (.getfield 12, 3) := by decide +kernel
theorem dX11_mixture_46 : decode cX11_mixture 46 = .ok (.invokevirtual 277, 3) := by decide +kernel
theorem dX11_mixture_49 : decode cX11_mixture 49 = .ok (.ifCond .eq 16, 3) := by decide +kernel
theorem dX11_mixture_52 : decode cX11_mixture 52 = .ok (.aload_n 0, 1) := by decide +kernel
theorem dX11_mixture_53 : decode cX11_mixture 53 = .ok (.getfield 56, 3) := by decide +kernel
theorem dX11_mixture_56 : decode cX11_mixture 56 = .ok (.getfield 281, 3) := by decide +kernel
theorem dX11_mixture_59 : decode cX11_mixture 59 = .ok (.iload 4, 2) := by decide +kernel
theorem dX11_mixture_61 : decode cX11_mixture 61 = .ok (.laload, 1) := by decide +kernel
theorem dX11_mixture_62 : decode cX11_mixture 62 = .ok (.goto 6, 3) := by decide +kernel
theorem dX11_mixture_65 : decode cX11_mixture 65 = .ok (.ldc2_w 131, 3) := by decide +kernel
theorem dX11_mixture_68 : decode cX11_mixture 68 = .ok (.lreturn, 1) := by decide +kernel
set_option maxRecDepth 100000 in
set_option maxHeartbeats 4000000 in
theorem mtX11_mixture (l : Launch) (dC : Nat → ClassId) (dI : Nat → Nat → Nat) (cI cL cB : ClassId) (K : Nat) (h_t h_t_cloud h_t_reader h_t_hull h_t_near h_t_firstTie h_t_reducer h_t_chooser h_t_pair h_t_divider h_t_depths h_t_spot h_t_cloud_x h_t_cloud_y h_t_cloud_colour h_t_cloud_load h_t_chooser_chosen h_t_chooser_mixed h_t_chooser_near : Nat) (sz : Nat) (t_cloud_size : Int32) (t_cloud_centreX : Int32) (t_cloud_centreY : Int32) (t_cloud_x : Nat → Int32) (t_cloud_y : Nat → Int32) (t_cloud_colour : Nat → Int32) (t_chooser_gone : Int32) (t_chooser_stuck : Int32) (t_chooser_longest : Int32) (t_chooser_side : Int32) (t_chooser_chosen : Nat → Int32) (t_chooser_mixed : Nat → Int64) (a1 : Int32) (a2 : Int32) (a3 : Int32) (a4 : Int32) (o_r : Int64) (o_t_chooser_chosen : Nat → Int32) (o_t_chooser_mixed : Nat → Int64) (hf : fX11_mixture K t_cloud_size t_cloud_centreX t_cloud_centreY t_cloud_x t_cloud_y t_cloud_colour t_chooser_chosen t_chooser_mixed a1 a2 a3 a4 = some (o_r, o_t_chooser_chosen, o_t_chooser_mixed)) : Met l yX11_mixture [Cond.code yX11_mixture cX11_mixture 5 (some .long)] ({ frames := 4, cells := 0, slots := 0, locals := 105 }) (va_Pc [.ref h_t, .int a1, .int a2, .int a3, .int a4] (cPre dC dI cI cL cB sz [(h_t, .inr (11, [.ref h_t_cloud, .ref h_t_reader, .ref h_t_hull, .ref h_t_near, .ref h_t_firstTie, .ref h_t_reducer, .ref h_t_chooser, .ref h_t_pair, .ref h_t_divider, .ref h_t_depths, .ref h_t_spot])), (h_t_cloud, .inr (0, [.ref h_t_cloud_x, .ref h_t_cloud_y, .ref h_t_cloud_colour, .ref h_t_cloud_load, .int t_cloud_size, .int t_cloud_centreX, .int t_cloud_centreY])), (h_t_cloud_x, .inl (cI, 24, .inl t_cloud_x)), (h_t_cloud_y, .inl (cI, 24, .inl t_cloud_y)), (h_t_cloud_colour, .inl (cI, 24, .inl t_cloud_colour)), (h_t_chooser, .inr (7, [.ref h_t_chooser_chosen, .ref h_t_chooser_mixed, .ref h_t_chooser_near, .int t_chooser_gone, .int t_chooser_stuck, .int t_chooser_longest, .int t_chooser_side])), (h_t_chooser_chosen, .inl (cI, 3, .inl t_chooser_chosen)), (h_t_chooser_mixed, .inl (cL, 4, .inr (.inl t_chooser_mixed)))])) (cQl dC dI (va_A [(h_t, .inr (11, [.ref h_t_cloud, .ref h_t_reader, .ref h_t_hull, .ref h_t_near, .ref h_t_firstTie, .ref h_t_reducer, .ref h_t_chooser, .ref h_t_pair, .ref h_t_divider, .ref h_t_depths, .ref h_t_spot])), (h_t_cloud, .inr (0, [.ref h_t_cloud_x, .ref h_t_cloud_y, .ref h_t_cloud_colour, .ref h_t_cloud_load, .int t_cloud_size, .int t_cloud_centreX, .int t_cloud_centreY])), (h_t_cloud_x, .inl (cI, 24, .inl t_cloud_x)), (h_t_cloud_y, .inl (cI, 24, .inl t_cloud_y)), (h_t_cloud_colour, .inl (cI, 24, .inl t_cloud_colour)), (h_t_chooser, .inr (7, [.ref h_t_chooser_chosen, .ref h_t_chooser_mixed, .ref h_t_chooser_near, .int t_chooser_gone, .int t_chooser_stuck, .int t_chooser_longest, .int t_chooser_side])), (h_t_chooser_chosen, .inl (cI, 3, .inl t_chooser_chosen)), (h_t_chooser_mixed, .inl (cL, 4, .inr (.inl t_chooser_mixed)))] sz) o_r [(h_t, .inr (11, [.ref h_t_cloud, .ref h_t_reader, .ref h_t_hull, .ref h_t_near, .ref h_t_firstTie, .ref h_t_reducer, .ref h_t_chooser, .ref h_t_pair, .ref h_t_divider, .ref h_t_depths, .ref h_t_spot])), (h_t_cloud, .inr (0, [.ref h_t_cloud_x, .ref h_t_cloud_y, .ref h_t_cloud_colour, .ref h_t_cloud_load, .int t_cloud_size, .int t_cloud_centreX, .int t_cloud_centreY])), (h_t_cloud_x, .inl (cI, 24, .inl t_cloud_x)), (h_t_cloud_y, .inl (cI, 24, .inl t_cloud_y)), (h_t_cloud_colour, .inl (cI, 24, .inl t_cloud_colour)), (h_t_chooser, .inr (7, [.ref h_t_chooser_chosen, .ref h_t_chooser_mixed, .ref h_t_chooser_near, .int t_chooser_gone, .int t_chooser_stuck, .int t_chooser_longest, .int t_chooser_side])), (h_t_chooser_chosen, .inl (cI, 3, .inl o_t_chooser_chosen)), (h_t_chooser_mixed, .inl (cL, 4, .inr (.inl o_t_chooser_mixed)))]) 0 0 (va_A [(h_t, .inr (11, [.ref h_t_cloud, .ref h_t_reader, .ref h_t_hull, .ref h_t_near, .ref h_t_firstTie, .ref h_t_reducer, .ref h_t_chooser, .ref h_t_pair, .ref h_t_divider, .ref h_t_depths, .ref h_t_spot])), (h_t_cloud, .inr (0, [.ref h_t_cloud_x, .ref h_t_cloud_y, .ref h_t_cloud_colour, .ref h_t_cloud_load, .int t_cloud_size, .int t_cloud_centreX, .int t_cloud_centreY])), (h_t_cloud_x, .inl (cI, 24, .inl t_cloud_x)), (h_t_cloud_y, .inl (cI, 24, .inl t_cloud_y)), (h_t_cloud_colour, .inl (cI, 24, .inl t_cloud_colour)), (h_t_chooser, .inr (7, [.ref h_t_chooser_chosen, .ref h_t_chooser_mixed, .ref h_t_chooser_near, .int t_chooser_gone, .int t_chooser_stuck, .int t_chooser_longest, .int t_chooser_side])), (h_t_chooser_chosen, .inl (cI, 3, .inl t_chooser_chosen)), (h_t_chooser_mixed, .inl (cL, 4, .inr (.inl t_chooser_mixed)))] sz) := by
  refine Met.ofW (cc := cX11_mixture) (maxL := 5) (ret := (some .long)) (by decide) rfl ?_
  intro p e s m args below meth c s₁ B hml hv
  obtain ⟨rfl, hsz, hP, hK, hD0, hT⟩ := hv
  have hx := B.exec
  have hb := B.bytes
  have hr := B.returns
  have hown : s.vm.findClass RX11 = some m.cls := findClass_of_methodNamed B.named
  have hlocks := B.notSynchronized
  have hts := TB.use hT ([.ref h_t, .int a1, .int a2, .int a3, .int a4] : List Value).toArray
  subst hsz
  have hD := hD0.self (sz := s.heap.size)
  generalize hAe : va_A [(h_t, .inr (11, [.ref h_t_cloud, .ref h_t_reader, .ref h_t_hull, .ref h_t_near, .ref h_t_firstTie, .ref h_t_reducer, .ref h_t_chooser, .ref h_t_pair, .ref h_t_divider, .ref h_t_depths, .ref h_t_spot])), (h_t_cloud, .inr (0, [.ref h_t_cloud_x, .ref h_t_cloud_y, .ref h_t_cloud_colour, .ref h_t_cloud_load, .int t_cloud_size, .int t_cloud_centreX, .int t_cloud_centreY])), (h_t_cloud_x, .inl (cI, 24, .inl t_cloud_x)), (h_t_cloud_y, .inl (cI, 24, .inl t_cloud_y)), (h_t_cloud_colour, .inl (cI, 24, .inl t_cloud_colour)), (h_t_chooser, .inr (7, [.ref h_t_chooser_chosen, .ref h_t_chooser_mixed, .ref h_t_chooser_near, .int t_chooser_gone, .int t_chooser_stuck, .int t_chooser_longest, .int t_chooser_side])), (h_t_chooser_chosen, .inl (cI, 3, .inl t_chooser_chosen)), (h_t_chooser_mixed, .inl (cL, 4, .inr (.inl t_chooser_mixed)))] s.heap.size = A at hD ⊢
  have hA : ∀ q : Nat, s.heap.size ≤ q → A q := fun q h => by rw [← hAe]; exact Or.inr h
  clear hAe hD0
  have hl := lv_entry ([.ref h_t, .int a1, .int a2, .int a3, .int a4]) (n := 5) (Nat.le_of_ble_eq_true rfl)
  rw [lg_entry_eq]
  generalize (lg_sl ([.ref h_t, .int a1, .int a2, .int a3, .int a4]) ++ List.replicate (5 - (lg_sl ([.ref h_t, .int a1, .int a2, .int a3, .int a4])).length) Slot.unset).toArray = ls at hl ⊢
  have hl : lv_has ls 5 [(0, .ref h_t), (1, .int a1), (2, .int a2), (3, .int a3), (4, .int a4)] := hl
  have hF : 4 ≤ (headSpec [Cond.code yX11_mixture cX11_mixture 5 (some .long)] ({ frames := 4, cells := 0, slots := 0, locals := 105 })).room.frames := Nat.le_refl _
  have hLo : 105 ≤ (headSpec [Cond.code yX11_mixture cX11_mixture 5 (some .long)] ({ frames := 4, cells := 0, slots := 0, locals := 105 })).room.locals := Nat.le_refl _
  have C0 : Sx p (headSpec [Cond.code yX11_mixture cX11_mixture 5 (some .long)] ({ frames := 4, cells := 0, slots := 0, locals := 105 })).room s m ([.ref h_t, .int a1, .int a2, .int a3, .int a4] : List Value).toArray c cX11_mixture 5 RX11 A dC dI cI cL cB 4 105 := ⟨hx, hb, hml, hown, hts, hK, hT, hA, hF, hLo⟩
  refine startH (A := A) hP (fun H locs hP hS => ?_)
  rw [fX11_mixture] at hf
  refine lv_aload_n hx hb dX11_mixture_0 rfl (lv_at hl 0 rfl) ?_
  refine va_get (D := (dC, dI)) (ci := 11) (v := .ref h_t_cloud) (C := RX11) (T := TX11) (N := 11) hx hb hts in_X11 hown hK hP 0 rfl rfl 0 (Nat.le_of_ble_eq_true rfl) (hts _ qf_X11_12) (fun _ h9 => h9) rfl dX11_mixture_1 ?_
  refine lv_iload_n hx hb dX11_mixture_4 rfl (lv_at hl 1 rfl) ?_
  refine lv_iload_n hx hb dX11_mixture_5 rfl (lv_at hl 2 rfl) ?_
  refine lv_iload_n hx hb dX11_mixture_6 rfl (lv_at hl 3 rfl) ?_
  obtain ⟨r_1, hq_2, hf⟩ := b1_some hf
  refine xci (wr := [(h_t, .inr (11, [.ref h_t_cloud, .ref h_t_reader, .ref h_t_hull, .ref h_t_near, .ref h_t_firstTie, .ref h_t_reducer, .ref h_t_chooser, .ref h_t_pair, .ref h_t_divider, .ref h_t_depths, .ref h_t_spot])), (h_t_cloud_x, .inl (cI, 24, .inl t_cloud_x)), (h_t_cloud_y, .inl (cI, 24, .inl t_cloud_y)), (h_t_chooser, .inr (7, [.ref h_t_chooser_chosen, .ref h_t_chooser_mixed, .ref h_t_chooser_near, .int t_chooser_gone, .int t_chooser_stuck, .int t_chooser_longest, .int t_chooser_side])), (h_t_chooser_chosen, .inl (cI, 3, .inl t_chooser_chosen)), (h_t_chooser_mixed, .inl (cL, 4, .inr (.inl t_chooser_mixed)))]) (w2 := [(h_t, .inr (11, [.ref h_t_cloud, .ref h_t_reader, .ref h_t_hull, .ref h_t_near, .ref h_t_firstTie, .ref h_t_reducer, .ref h_t_chooser, .ref h_t_pair, .ref h_t_divider, .ref h_t_depths, .ref h_t_spot])), (h_t_cloud, .inr (0, [.ref h_t_cloud_x, .ref h_t_cloud_y, .ref h_t_cloud_colour, .ref h_t_cloud_load, .int t_cloud_size, .int t_cloud_centreX, .int t_cloud_centreY])), (h_t_cloud_x, .inl (cI, 24, .inl t_cloud_x)), (h_t_cloud_y, .inl (cI, 24, .inl t_cloud_y)), (h_t_cloud_colour, .inl (cI, 24, .inl t_cloud_colour)), (h_t_chooser, .inr (7, [.ref h_t_chooser_chosen, .ref h_t_chooser_mixed, .ref h_t_chooser_near, .int t_chooser_gone, .int t_chooser_stuck, .int t_chooser_longest, .int t_chooser_side])), (h_t_chooser_chosen, .inl (cI, 3, .inl t_chooser_chosen)), (h_t_chooser_mixed, .inl (cL, 4, .inr (.inl t_chooser_mixed)))]) (va_runV (As := [.int a1, .int a2, .int a3]) (rest := []) ⟨hx, hb, hml, hown, hts⟩ (mtX0_isRainbow l dC dI cI cL cB K h_t_cloud h_t_cloud_x h_t_cloud_y h_t_cloud_colour h_t_cloud_load H.size t_cloud_size t_cloud_centreX t_cloud_centreY t_cloud_colour a1 a2 a3 r_1 hq_2) (cwV 3 hts gv_X11_269 rfl rfl rfl hdV_X0_isRainbow ⟨Nat.le_trans (Nat.le_of_ble_eq_true rfl) hF, Nat.le_trans (Nat.le_of_ble_eq_true rfl) hLo⟩) (cPreV hK hP hD hT [1, 4] rfl rfl (ci := 0) (q0 := 0) rfl rfl) rfl rfl hl.1 rfl (lv_room (Nat.le_of_ble_eq_true rfl)) dX11_mixture_7 ⟨Nat.zero_le _, Nat.zero_le _⟩) hP hD hS hA [1, 4] [0, 2, 3, 5, 6, 7] [0, 6, 1, 2, 7, 3, 4, 5] rfl rfl rfl rfl rfl rfl (fun H locs hP hD hS => ?_)
  refine lv_if_eq (tgt := 24) hx hb dX11_mixture_10 (by decide) (fun hc => ?_) (fun hc => ?_)
  · replace hf := it_t (hc) hf
    refine lv_ldc2 (v := (-9223372036854775808 : Int64)) hx hb hown (hts _ qj_X11_131) dX11_mixture_24 ?_
    obtain ⟨rfl, rfl, rfl⟩ := o3 hf
    exact W.lret hx hb hr (fun t ht hW => ⟨⟨_, (), rfl, rfl, by rw [ht]; exact hP, hD⟩, hS.F ht⟩) hS.2.2 dX11_mixture_27
  · replace hf := it_f (hc) hf
    refine lv_iload hx hb dX11_mixture_13 (lv_at hl 4 rfl) ?_
    refine lv_if_lt (tgt := 24) hx hb dX11_mixture_15 (by decide) (fun hc => ?_) (fun hc => ?_)
    · replace hf := it_t (hc) hf
      refine lv_ldc2 (v := (-9223372036854775808 : Int64)) hx hb hown (hts _ qj_X11_131) dX11_mixture_24 ?_
      obtain ⟨rfl, rfl, rfl⟩ := o3 hf
      exact W.lret hx hb hr (fun t ht hW => ⟨⟨_, (), rfl, rfl, by rw [ht]; exact hP, hD⟩, hS.F ht⟩) hS.2.2 dX11_mixture_27
    · replace hf := it_f (hc) hf
      refine lv_iload hx hb dX11_mixture_18 (lv_at hl 4 rfl) ?_
      refine lv_iconst (v := (3 : Int32)) hx hb dX11_mixture_20 (by decide) ?_
      refine lv_icmp_le (tgt := 28) hx hb dX11_mixture_21 (by decide) (fun hc => ?_) (fun hc => ?_)
      · replace hf := it_t (hc) hf
        refine lv_aload_n hx hb dX11_mixture_28 rfl (lv_at hl 0 rfl) ?_
        refine va_get (D := (dC, dI)) (ci := 11) (v := .ref h_t_chooser) (C := RX11) (T := TX11) (N := 11) hx hb hts in_X11 hown hK hP 0 rfl rfl 6 (Nat.le_of_ble_eq_true rfl) (hts _ qf_X11_56) (fun _ h9 => h9) rfl dX11_mixture_29 ?_
        refine lv_iload_n hx hb dX11_mixture_32 rfl (lv_at hl 1 rfl) ?_
        refine lv_iload_n hx hb dX11_mixture_33 rfl (lv_at hl 2 rfl) ?_
        refine lv_iload_n hx hb dX11_mixture_34 rfl (lv_at hl 3 rfl) ?_
        obtain ⟨t_chooser_chosen_3, hq_4, hf⟩ := b1_some hf
        refine xcv (wr := [(h_t, .inr (11, [.ref h_t_cloud, .ref h_t_reader, .ref h_t_hull, .ref h_t_near, .ref h_t_firstTie, .ref h_t_reducer, .ref h_t_chooser, .ref h_t_pair, .ref h_t_divider, .ref h_t_depths, .ref h_t_spot])), (h_t_cloud, .inr (0, [.ref h_t_cloud_x, .ref h_t_cloud_y, .ref h_t_cloud_colour, .ref h_t_cloud_load, .int t_cloud_size, .int t_cloud_centreX, .int t_cloud_centreY])), (h_t_cloud_x, .inl (cI, 24, .inl t_cloud_x)), (h_t_cloud_y, .inl (cI, 24, .inl t_cloud_y)), (h_t_cloud_colour, .inl (cI, 24, .inl t_cloud_colour)), (h_t_chooser_mixed, .inl (cL, 4, .inr (.inl t_chooser_mixed)))]) (w2 := [(h_t, .inr (11, [.ref h_t_cloud, .ref h_t_reader, .ref h_t_hull, .ref h_t_near, .ref h_t_firstTie, .ref h_t_reducer, .ref h_t_chooser, .ref h_t_pair, .ref h_t_divider, .ref h_t_depths, .ref h_t_spot])), (h_t_cloud, .inr (0, [.ref h_t_cloud_x, .ref h_t_cloud_y, .ref h_t_cloud_colour, .ref h_t_cloud_load, .int t_cloud_size, .int t_cloud_centreX, .int t_cloud_centreY])), (h_t_cloud_x, .inl (cI, 24, .inl t_cloud_x)), (h_t_cloud_y, .inl (cI, 24, .inl t_cloud_y)), (h_t_cloud_colour, .inl (cI, 24, .inl t_cloud_colour)), (h_t_chooser, .inr (7, [.ref h_t_chooser_chosen, .ref h_t_chooser_mixed, .ref h_t_chooser_near, .int t_chooser_gone, .int t_chooser_stuck, .int t_chooser_longest, .int t_chooser_side])), (h_t_chooser_chosen, .inl (cI, 3, .inl t_chooser_chosen_3)), (h_t_chooser_mixed, .inl (cL, 4, .inr (.inl t_chooser_mixed)))]) (va_runV (As := [.int a1, .int a2, .int a3]) (rest := []) ⟨hx, hb, hml, hown, hts⟩ (mtX7_choose l dC dI cI cL cB K h_t_chooser h_t_chooser_chosen h_t_chooser_mixed h_t_chooser_near H.size t_chooser_gone t_chooser_stuck t_chooser_longest t_chooser_side t_chooser_chosen a1 a2 a3 t_chooser_chosen_3 hq_4) (cwV 3 hts gv_X11_273 rfl rfl rfl hdV_X7_choose ⟨Nat.le_trans (Nat.le_of_ble_eq_true rfl) hF, Nat.le_trans (Nat.le_of_ble_eq_true rfl) hLo⟩) (cPreV hK hP hD hT [5, 6] rfl rfl (ci := 7) (q0 := 0) rfl rfl) rfl rfl hl.1 rfl (lv_room (Nat.le_of_ble_eq_true rfl)) dX11_mixture_35 ⟨Nat.zero_le _, Nat.zero_le _⟩) hP hD hS hA [5, 6] [0, 1, 2, 3, 4, 7] [0, 1, 2, 3, 4, 6, 7, 5] rfl rfl rfl rfl rfl rfl (fun H locs hP hD hS => ?_)
        refine lv_aload_n hx hb dX11_mixture_38 rfl (lv_at hl 0 rfl) ?_
        refine va_get (D := (dC, dI)) (ci := 11) (v := .ref h_t_chooser) (C := RX11) (T := TX11) (N := 11) hx hb hts in_X11 hown hK hP 0 rfl rfl 6 (Nat.le_of_ble_eq_true rfl) (hts _ qf_X11_56) (fun _ h9 => h9) rfl dX11_mixture_39 ?_
        refine lv_aload_n hx hb dX11_mixture_42 rfl (lv_at hl 0 rfl) ?_
        refine va_get (D := (dC, dI)) (ci := 11) (v := .ref h_t_cloud) (C := RX11) (T := TX11) (N := 11) hx hb hts in_X11 hown hK hP 0 rfl rfl 0 (Nat.le_of_ble_eq_true rfl) (hts _ qf_X11_12) (fun _ h9 => h9) rfl dX11_mixture_43 ?_
        obtain ⟨r_5, t_chooser_mixed_6, hq_7, hf⟩ := b2_some hf
        refine xci (wr := [(h_t, .inr (11, [.ref h_t_cloud, .ref h_t_reader, .ref h_t_hull, .ref h_t_near, .ref h_t_firstTie, .ref h_t_reducer, .ref h_t_chooser, .ref h_t_pair, .ref h_t_divider, .ref h_t_depths, .ref h_t_spot])), (h_t_cloud_colour, .inl (cI, 24, .inl t_cloud_colour))]) (w2 := [(h_t, .inr (11, [.ref h_t_cloud, .ref h_t_reader, .ref h_t_hull, .ref h_t_near, .ref h_t_firstTie, .ref h_t_reducer, .ref h_t_chooser, .ref h_t_pair, .ref h_t_divider, .ref h_t_depths, .ref h_t_spot])), (h_t_cloud, .inr (0, [.ref h_t_cloud_x, .ref h_t_cloud_y, .ref h_t_cloud_colour, .ref h_t_cloud_load, .int t_cloud_size, .int t_cloud_centreX, .int t_cloud_centreY])), (h_t_cloud_x, .inl (cI, 24, .inl t_cloud_x)), (h_t_cloud_y, .inl (cI, 24, .inl t_cloud_y)), (h_t_cloud_colour, .inl (cI, 24, .inl t_cloud_colour)), (h_t_chooser, .inr (7, [.ref h_t_chooser_chosen, .ref h_t_chooser_mixed, .ref h_t_chooser_near, .int t_chooser_gone, .int t_chooser_stuck, .int t_chooser_longest, .int t_chooser_side])), (h_t_chooser_chosen, .inl (cI, 3, .inl t_chooser_chosen_3)), (h_t_chooser_mixed, .inl (cL, 4, .inr (.inl t_chooser_mixed_6)))]) (va_runV (As := [.ref h_t_cloud]) (rest := []) ⟨hx, hb, hml, hown, hts⟩ (mtX7_mix l dC dI cI cL cB K h_t_chooser h_t_chooser_chosen h_t_chooser_mixed h_t_chooser_near h_t_cloud h_t_cloud_x h_t_cloud_y h_t_cloud_colour h_t_cloud_load H.size t_chooser_gone t_chooser_stuck t_chooser_longest t_chooser_side t_chooser_chosen_3 t_chooser_mixed t_cloud_size t_cloud_centreX t_cloud_centreY t_cloud_x t_cloud_y r_5 t_chooser_mixed_6 hq_7) (cwV 1 hts gv_X11_277 rfl rfl rfl hdV_X7_mix ⟨Nat.le_trans (Nat.le_of_ble_eq_true rfl) hF, Nat.le_trans (Nat.le_of_ble_eq_true rfl) hLo⟩) (cPreV hK hP hD hT [5, 6, 7, 1, 2, 3] rfl rfl (ci := 7) (q0 := 0) rfl rfl) rfl rfl hl.1 rfl (lv_room (Nat.le_of_ble_eq_true rfl)) dX11_mixture_46 ⟨Nat.zero_le _, Nat.zero_le _⟩) hP hD hS hA [5, 6, 7, 1, 2, 3] [0, 4] [0, 5, 6, 7, 1, 2, 3, 4] rfl rfl rfl rfl rfl rfl (fun H locs hP hD hS => ?_)
        refine lv_if_eq (tgt := 65) hx hb dX11_mixture_49 (by decide) (fun hc => ?_) (fun hc => ?_)
        · replace hf := it_t (hc) hf
          refine lv_ldc2 (v := (-9223372036854775808 : Int64)) hx hb hown (hts _ qj_X11_131) dX11_mixture_65 ?_
          obtain ⟨rfl, rfl, rfl⟩ := o3 hf
          exact W.lret hx hb hr (fun t ht hW => ⟨⟨_, (), rfl, rfl, by rw [ht]; exact hP, hD⟩, hS.F ht⟩) hS.2.2 dX11_mixture_68
        · replace hf := it_f (hc) hf
          refine lv_aload_n hx hb dX11_mixture_52 rfl (lv_at hl 0 rfl) ?_
          refine va_get (D := (dC, dI)) (ci := 11) (v := .ref h_t_chooser) (C := RX11) (T := TX11) (N := 11) hx hb hts in_X11 hown hK hP 0 rfl rfl 6 (Nat.le_of_ble_eq_true rfl) (hts _ qf_X11_56) (fun _ h9 => h9) rfl dX11_mixture_53 ?_
          refine va_get (D := (dC, dI)) (ci := 7) (v := .ref h_t_chooser_mixed) (C := RX7) (T := TX7) (N := 7) hx hb hts in_X7 hown hK hP 5 rfl rfl 1 (Nat.le_of_ble_eq_true rfl) (hts _ qf_X11_281) (fun _ h9 => h9) rfl dX11_mixture_56 ?_
          refine lv_iload hx hb dX11_mixture_59 (lv_at hl 4 rfl) ?_
          obtain ⟨hg_8, hf⟩ := gd_some hf
          refine va_lald hx hb hK hP 7 1 rfl rfl (inb_in hg_8) dX11_mixture_61 ?_
          refine lv_goto (tgt := 68) hx hb dX11_mixture_62 (by decide) ?_
          obtain ⟨rfl, rfl, rfl⟩ := o3 hf
          exact W.lret hx hb hr (fun t ht hW => ⟨⟨_, (), rfl, rfl, by rw [ht]; exact hP, hD⟩, hS.F ht⟩) hS.2.2 dX11_mixture_68
      · replace hf := it_f (hc) hf
        refine lv_ldc2 (v := (-9223372036854775808 : Int64)) hx hb hown (hts _ qj_X11_131) dX11_mixture_24 ?_
        obtain ⟨rfl, rfl, rfl⟩ := o3 hf
        exact W.lret hx hb hr (fun t ht hW => ⟨⟨_, (), rfl, rfl, by rw [ht]; exact hP, hD⟩, hS.F ht⟩) hS.2.2 dX11_mixture_27
theorem dX7_look_0 : decode cX7_look 0 = .ok (.aload_n 0, 1) := by decide +kernel
theorem dX7_look_1 : decode cX7_look 1 = .ok (.getfield 22, 3) := by decide +kernel
theorem dX7_look_4 : decode cX7_look 4 = .ok (.aload_n 1, 1) := by decide +kernel
theorem dX7_look_5 : decode cX7_look 5 = .ok (.getfield 54, 3) := by decide +kernel
theorem dX7_look_8 : decode cX7_look 8 = .ok (.aload_n 1, 1) := by decide +kernel
theorem dX7_look_9 : decode cX7_look 9 = .ok (.getfield 57, 3) := by decide +kernel
theorem dX7_look_12 : decode cX7_look 12 = .ok (.invokevirtual 60, 3) := by decide +kernel
theorem dX7_look_15 : decode cX7_look 15 = .ok (.aload_n 0, 1) := by decide +kernel
theorem dX7_look_16 : decode cX7_look 16 = .ok (.aload_n 1, 1) := by decide +kernel
theorem dX7_look_17 : decode cX7_look 17 = .ok (.aload_n 1, 1) := by decide +kernel
theorem dX7_look_18 : decode cX7_look 18 = .ok (.getfield 54, 3) := by decide +kernel
theorem dX7_look_21 : decode cX7_look 21 = .ok (.aload_n 1, 1) := by decide +kernel
theorem dX7_look_22 : decode cX7_look 22 = .ok (.getfield 57, 3) := by decide +kernel
theorem dX7_look_25 : decode cX7_look 25 = .ok (.invokevirtual 47, 3) := by decide +kernel
theorem dX7_look_28 : decode cX7_look 28 = .ok (.ifCond .eq 23, 3) := by decide +kernel
theorem dX7_look_31 : decode cX7_look 31 = .ok (.aload_n 0, 1) := by decide +kernel
theorem dX7_look_32 : decode cX7_look 32 = .ok (.getfield 22, 3) := by decide +kernel
theorem dX7_look_35 : decode cX7_look 35 = .ok (.aload_n 1, 1) := by decide +kernel
theorem dX7_look_36 : decode cX7_look 36 = .ok (.getfield 54, 3) := by decide +kernel
theorem dX7_look_39 : decode cX7_look 39 = .ok (.i2l, 1) := by decide +kernel
theorem dX7_look_40 : decode cX7_look 40 = .ok (.aload_n 1, 1) := by decide +kernel
theorem dX7_look_41 : decode cX7_look 41 = .ok (.getfield 57, 3) := by decide +kernel
theorem dX7_look_44 : decode cX7_look 44 = .ok (.i2l, 1) := by decide +kernel
theorem dX7_look_45 : decode cX7_look 45 = .ok (.lconst 1, 1) := by decide +kernel
theorem dX7_look_46 : decode cX7_look 46 = .ok (.invokevirtual 64, 3) := by decide +kernel
theorem dX7_look_49 : decode cX7_look 49 = .ok (.pop, 1) := by decide +kernel
theorem dX7_look_50 : decode cX7_look 50 = .ok (.return_, 1) := by decide +kernel
theorem dX7_look_51 : decode cX7_look 51 = .ok (.aload_n 0, 1) := by decide +kernel
theorem dX7_look_52 : decode cX7_look 52 = .ok (.iconst 0, 1) := by decide +kernel
theorem dX7_look_53 : decode cX7_look 53 = .ok (.putfield 68, 3) := by decide +kernel
theorem dX7_look_56 : decode cX7_look 56 = .ok (.iconst 0, 1) := by decide +kernel
theorem dX7_look_57 : decode cX7_look 57 = .ok (.istore_n 2, 1) := by decide +kernel
theorem dX7_look_58 : decode cX7_look 58 = .ok (.iload_n 2, 1) := by decide +kernel
theorem dX7_look_59 : decode cX7_look 59 = .ok (.iconst 3, 1) := by decide +kernel
theorem dX7_look_60 : decode cX7_look 60 = .ok (.if_icmp .ge 87, 3) := by decide +kernel
theorem dX7_look_63 : decode cX7_look 63 = .ok (.iload_n 2, 1) := by decide +kernel
theorem dX7_look_64 : decode cX7_look 64 = .ok (.iconst 1, 1) := by decide +kernel
theorem dX7_look_65 : decode cX7_look 65 = .ok (.iadd, 1) := by decide +kernel
theorem dX7_look_66 : decode cX7_look 66 = .ok (.istore_n 3, 1) := by decide +kernel
theorem dX7_look_67 : decode cX7_look 67 = .ok (.iload_n 3, 1) := by decide +kernel
theorem dX7_look_68 : decode cX7_look 68 = .ok (.iconst 3, 1) := by decide +kernel
theorem dX7_look_69 : decode cX7_look 69 = .ok (.if_icmp .ge 72, 3) := by decide +kernel
theorem dX7_look_72 : decode cX7_look 72 = .ok (.aload_n 0, 1) := by decide +kernel
theorem dX7_look_73 : decode cX7_look 73 = .ok (.getfield 9, 3) := by decide +kernel
theorem dX7_look_76 : decode cX7_look 76 = .ok (.iload_n 2, 1) := by decide +kernel
theorem dX7_look_77 : decode cX7_look 77 = .ok (.iaload, 1) := by decide +kernel
theorem dX7_look_78 : decode cX7_look 78 = .ok (.istore 4, 2) := by decide +kernel
theorem dX7_look_80 : decode cX7_look 80 = .ok (.aload_n 0, 1) := by decide +kernel
theorem dX7_look_81 : decode cX7_look 81 = .ok (.getfield 9, 3) := by decide +kernel
theorem dX7_look_84 : decode cX7_look 84 = .ok (.iload_n 3, 1) := by decide +kernel
theorem dX7_look_85 : decode cX7_look 85 = .ok (.iaload, 1) := by decide +kernel
theorem dX7_look_86 : decode cX7_look 86 = .ok (.istore 5, 2) := by decide +kernel
theorem dX7_look_88 : decode cX7_look 88 = .ok (.aload_n 0, 1) := by decide +kernel
theorem dX7_look_89 : decode cX7_look 89 = .ok (.getfield 22, 3) := by decide +kernel
theorem dX7_look_92 : decode cX7_look 92 = .ok (.aload_n 1, 1) := by decide +kernel
theorem dX7_look_93 : decode cX7_look 93 = .ok (.getfield 71, 3) := by decide +kernel
theorem dX7_look_96 : decode cX7_look 96 = .ok (.iload 4, 2) := by decide +kernel
theorem dX7_look_98 : decode cX7_look 98 = .ok (.iaload, 1) := by decide +kernel
theorem dX7_look_99 : decode cX7_look 99 = .ok (.aload_n 1, 1) := by decide +kernel
theorem dX7_look_100 : decode cX7_look 100 = .ok (.getfield 74, 3) := by decide +kernel
theorem dX7_look_103 : decode cX7_look 103 = .ok (.iload 4, 2) := by decide +kernel
theorem dX7_look_105 : decode cX7_look 105 = .ok (.iaload, 1) := by decide +kernel
theorem dX7_look_106 : decode cX7_look 106 = .ok (.aload_n 1, 1) := by decide +kernel
theorem dX7_look_107 : decode cX7_look 107 = .ok (.getfield 71, 3) := by decide +kernel
theorem dX7_look_110 : decode cX7_look 110 = .ok (.iload 5, 2) := by decide +kernel
theorem dX7_look_112 : decode cX7_look 112 = .ok (.iaload, 1) := by decide +kernel
theorem dX7_look_113 : decode cX7_look 113 = .ok (.aload_n 1, 1) := by decide +kernel
theorem dX7_look_114 : decode cX7_look 114 = .ok (.getfield 74, 3) := by decide +kernel
theorem dX7_look_117 : decode cX7_look 117 = .ok (.iload 5, 2) := by decide +kernel
theorem dX7_look_119 : decode cX7_look 119 = .ok (.iaload, 1) := by decide +kernel
theorem dX7_look_120 : decode cX7_look 120 = .ok (.invokevirtual 77, 3) := by decide +kernel
theorem dX7_look_123 : decode cX7_look 123 = .ok (.ifCond .eq 12, 3) := by decide +kernel
theorem dX7_look_126 : decode cX7_look 126 = .ok (.aload_n 0, 1) := by decide +kernel
theorem dX7_look_127 : decode cX7_look 127 = .ok (.iload_n 2, 1) := by decide +kernel
theorem dX7_look_128 : decode cX7_look 128 = .ok (.iload_n 3, 1) := by decide +kernel
theorem dX7_look_129 : decode cX7_look 129 = .ok (.iadd, 1) := by decide +kernel
theorem dX7_look_130 : decode cX7_look 130 = .ok (.iconst 1, 1) := by decide +kernel
theorem dX7_look_131 : decode cX7_look 131 = .ok (.isub, 1) := by decide +kernel
theorem dX7_look_132 : decode cX7_look 132 = .ok (.putfield 68, 3) := by decide +kernel
theorem dX7_look_135 : decode cX7_look 135 = .ok (.iinc 3 1, 3) := by decide +kernel
theorem dX7_look_138 : decode cX7_look 138 = .ok (.goto (-71), 3) := by decide +kernel
theorem dX7_look_141 : decode cX7_look 141 = .ok (.iinc 2 1, 3) := by decide +kernel
theorem dX7_look_144 : decode cX7_look 144 = .ok (.goto (-86), 3) := by decide +kernel
theorem dX7_look_147 : decode cX7_look 147 = .ok (.return_, 1) := by decide +kernel
set_option maxRecDepth 100000 in
set_option maxHeartbeats 4000000 in
theorem wX7_look_L67 {p : Program} {l : Launch} {e : Env} {R : Room} {s : State} {m : MethodId} {args : Array Value} {below : List Frame} {meth : Method} {c : Code} {Q : State → Prop} {A : Nat → Prop} {dC : Nat → ClassId} {dI : Nat → Nat → Nat} {cI cL cB : ClassId} {K : Nat} (C0 : Sx p R s m args c cX7_look 6 RX7 A dC dI cI cL cB 2 64) (h_t h_t_chosen h_t_mixed h_t_near h_p1 h_p1_x h_p1_y h_p1_colour h_p1_load : Nat) (t_gone : Int32) (t_stuck : Int32) (t_longest : Int32) (t_chosen : Nat → Int32) (t_near_fromX : Int32) (t_near_fromY : Int32) (p1_size : Int32) (p1_centreX : Int32) (p1_centreY : Int32) (p1_x : Nat → Int32) (p1_y : Nat → Int32) (l2 : Int32) : ∀ (n : Nat) (l3 : Int32) (t_side : Int32) (t_near_x : Int64) (t_near_y : Int64) (t_near_lower : Int64) (t_near_square : Int64) (t_near_squareLower : Int64) (x_t_side : Int32) (x_t_near_x : Int64) (x_t_near_y : Int64) (x_t_near_lower : Int64) (x_t_near_square : Int64) (x_t_near_squareLower : Int64) (H : Heap) (locs : List Loc) (ls : Array Slot), va_P (dC, dI) vwCl [(h_t, .inr (7, [.ref h_t_chosen, .ref h_t_mixed, .ref h_t_near, .int t_gone, .int t_stuck, .int t_longest, .int t_side])), (h_t_chosen, .inl (cI, 3, .inl t_chosen)), (h_t_near, .inr (4, [.long t_near_x, .long t_near_y, .long t_near_lower, .long t_near_square, .long t_near_squareLower, .int t_near_fromX, .int t_near_fromY])), (h_p1, .inr (0, [.ref h_p1_x, .ref h_p1_y, .ref h_p1_colour, .ref h_p1_load, .int p1_size, .int p1_centreX, .int p1_centreY])), (h_p1_x, .inl (cI, 24, .inl p1_x)), (h_p1_y, .inl (cI, 24, .inl p1_y))] H → va_D A [(h_t, .inr (7, [.ref h_t_chosen, .ref h_t_mixed, .ref h_t_near, .int t_gone, .int t_stuck, .int t_longest, .int t_side])), (h_t_chosen, .inl (cI, 3, .inl t_chosen)), (h_t_near, .inr (4, [.long t_near_x, .long t_near_y, .long t_near_lower, .long t_near_square, .long t_near_squareLower, .int t_near_fromX, .int t_near_fromY])), (h_p1, .inr (0, [.ref h_p1_x, .ref h_p1_y, .ref h_p1_colour, .ref h_p1_load, .int p1_size, .int p1_centreX, .int p1_centreY])), (h_p1_x, .inl (cI, 24, .inl p1_x)), (h_p1_y, .inl (cI, 24, .inl p1_y))] → va_S A s.heap H locs → lv_has ls 6 [(0, .ref h_t), (1, .ref h_p1), (2, .int l2), (3, .int l3)] → fX7_look_L67 K l2 t_chosen t_near_fromX t_near_fromY p1_x p1_y n l3 t_side t_near_x t_near_y t_near_lower t_near_square t_near_squareLower = some (x_t_side, x_t_near_x, x_t_near_y, x_t_near_lower, x_t_near_square, x_t_near_squareLower) → (∀ (H : Heap) (locs : List Loc) (ls : Array Slot), va_P (dC, dI) vwCl [(h_t, .inr (7, [.ref h_t_chosen, .ref h_t_mixed, .ref h_t_near, .int t_gone, .int t_stuck, .int t_longest, .int x_t_side])), (h_t_chosen, .inl (cI, 3, .inl t_chosen)), (h_t_near, .inr (4, [.long x_t_near_x, .long x_t_near_y, .long x_t_near_lower, .long x_t_near_square, .long x_t_near_squareLower, .int t_near_fromX, .int t_near_fromY])), (h_p1, .inr (0, [.ref h_p1_x, .ref h_p1_y, .ref h_p1_colour, .ref h_p1_load, .int p1_size, .int p1_centreX, .int p1_centreY])), (h_p1_x, .inl (cI, 24, .inl p1_x)), (h_p1_y, .inl (cI, 24, .inl p1_y))] H → va_D A [(h_t, .inr (7, [.ref h_t_chosen, .ref h_t_mixed, .ref h_t_near, .int t_gone, .int t_stuck, .int t_longest, .int x_t_side])), (h_t_chosen, .inl (cI, 3, .inl t_chosen)), (h_t_near, .inr (4, [.long x_t_near_x, .long x_t_near_y, .long x_t_near_lower, .long x_t_near_square, .long x_t_near_squareLower, .int t_near_fromX, .int t_near_fromY])), (h_p1, .inr (0, [.ref h_p1_x, .ref h_p1_y, .ref h_p1_colour, .ref h_p1_load, .int p1_size, .int p1_centreX, .int p1_centreY])), (h_p1_x, .inl (cI, 24, .inl p1_x)), (h_p1_y, .inl (cI, 24, .inl p1_y))] → va_S A s.heap H locs → lv_has ls 6 [(0, .ref h_t), (1, .ref h_p1), (2, .int l2)] → W p l e R s m args below meth c H locs 0 0 Q (F0 m 141 ls [])) → W p l e R s m args below meth c H locs 0 0 Q (F0 m 67 ls []) := by
  obtain ⟨hx, hb, hml, hown, hts, hK, hT, hA, hF, hLo⟩ := id C0
  intro n
  induction n with
  | zero =>
    intro l3 t_side t_near_x t_near_y t_near_lower t_near_square t_near_squareLower x_t_side x_t_near_x x_t_near_y x_t_near_lower x_t_near_square x_t_near_squareLower H locs ls hP hD hS hl hf
    rw [fX7_look_L67] at hf
    cases hf
  | succ n ih =>
    intro l3 t_side t_near_x t_near_y t_near_lower t_near_square t_near_squareLower x_t_side x_t_near_x x_t_near_y x_t_near_lower x_t_near_square x_t_near_squareLower H locs ls hP hD hS hl hf hk
    rw [fX7_look_L67] at hf
    refine lv_iload_n hx hb dX7_look_67 rfl (lv_at hl 3 rfl) ?_
    refine lv_iconst (v := (3 : Int32)) hx hb dX7_look_68 (by decide) ?_
    refine lv_icmp_ge (tgt := 141) hx hb dX7_look_69 (by decide) (fun hc => ?_) (fun hc => ?_)
    · replace hf := it_t (hc) hf
      obtain ⟨rfl, rfl, rfl, rfl, rfl, rfl⟩ := o6 hf
      exact hk H locs ls hP hD hS (lv_sub hl [0, 1, 2] rfl)
    · replace hf := it_f (hc) hf
      refine lv_aload_n hx hb dX7_look_72 rfl (lv_at hl 0 rfl) ?_
      refine va_get (D := (dC, dI)) (ci := 7) (v := .ref h_t_chosen) (C := RX7) (T := TX7) (N := 7) hx hb hts in_X7 hown hK hP 0 rfl rfl 0 (Nat.le_of_ble_eq_true rfl) (hts _ qf_X7_9) (fun _ h9 => h9) rfl dX7_look_73 ?_
      refine lv_iload_n hx hb dX7_look_76 rfl (lv_at hl 2 rfl) ?_
      obtain ⟨hg_9, hf⟩ := gd_some hf
      refine va_iald hx hb hK hP 1 0 rfl rfl (inb_in hg_9) dX7_look_77 ?_
      refine lv_topi (fun l4_10 el4_10 => ?_)
      replace hf := xl_at hf el4_10
      refine lv_istore (lv' := [(4, .int l4_10), (0, .ref h_t), (1, .ref h_p1), (2, .int l2), (3, .int l3)]) hx hb dX7_look_78 hl (Nat.le_of_ble_eq_true rfl) rfl (fun ls hl => ?_)
      refine lv_aload_n hx hb dX7_look_80 rfl (lv_at hl 1 rfl) ?_
      refine va_get (D := (dC, dI)) (ci := 7) (v := .ref h_t_chosen) (C := RX7) (T := TX7) (N := 7) hx hb hts in_X7 hown hK hP 0 rfl rfl 0 (Nat.le_of_ble_eq_true rfl) (hts _ qf_X7_9) (fun _ h9 => h9) rfl dX7_look_81 ?_
      refine lv_iload_n hx hb dX7_look_84 rfl (lv_at hl 4 rfl) ?_
      obtain ⟨hg_11, hf⟩ := gd_some hf
      refine va_iald hx hb hK hP 1 0 rfl rfl (inb_in hg_11) dX7_look_85 ?_
      refine lv_topi (fun l5_12 el5_12 => ?_)
      replace hf := xl_at hf el5_12
      refine lv_istore (lv' := [(5, .int l5_12), (4, .int l4_10), (0, .ref h_t), (1, .ref h_p1), (2, .int l2), (3, .int l3)]) hx hb dX7_look_86 hl (Nat.le_of_ble_eq_true rfl) rfl (fun ls hl => ?_)
      refine lv_aload_n hx hb dX7_look_88 rfl (lv_at hl 2 rfl) ?_
      refine va_get (D := (dC, dI)) (ci := 7) (v := .ref h_t_near) (C := RX7) (T := TX7) (N := 7) hx hb hts in_X7 hown hK hP 0 rfl rfl 2 (Nat.le_of_ble_eq_true rfl) (hts _ qf_X7_22) (fun _ h9 => h9) rfl dX7_look_89 ?_
      refine lv_aload_n hx hb dX7_look_92 rfl (lv_at hl 3 rfl) ?_
      refine va_get (D := (dC, dI)) (ci := 0) (v := .ref h_p1_x) (C := RX0) (T := TX0) (N := 7) hx hb hts in_X0 hown hK hP 3 rfl rfl 0 (Nat.le_of_ble_eq_true rfl) (hts _ qf_X7_71) (fun _ h9 => h9) rfl dX7_look_93 ?_
      refine lv_iload hx hb dX7_look_96 (lv_at hl 1 rfl) ?_
      obtain ⟨hg_13, hf⟩ := gd_some hf
      refine va_iald hx hb hK hP 4 0 rfl rfl (inb_in hg_13) dX7_look_98 ?_
      refine lv_aload_n hx hb dX7_look_99 rfl (lv_at hl 3 rfl) ?_
      refine va_get (D := (dC, dI)) (ci := 0) (v := .ref h_p1_y) (C := RX0) (T := TX0) (N := 7) hx hb hts in_X0 hown hK hP 3 rfl rfl 1 (Nat.le_of_ble_eq_true rfl) (hts _ qf_X7_74) (fun _ h9 => h9) rfl dX7_look_100 ?_
      refine lv_iload hx hb dX7_look_103 (lv_at hl 1 rfl) ?_
      obtain ⟨hg_14, hf⟩ := gd_some hf
      refine va_iald hx hb hK hP 5 0 rfl rfl (inb_in hg_14) dX7_look_105 ?_
      refine lv_aload_n hx hb dX7_look_106 rfl (lv_at hl 3 rfl) ?_
      refine va_get (D := (dC, dI)) (ci := 0) (v := .ref h_p1_x) (C := RX0) (T := TX0) (N := 7) hx hb hts in_X0 hown hK hP 3 rfl rfl 0 (Nat.le_of_ble_eq_true rfl) (hts _ qf_X7_71) (fun _ h9 => h9) rfl dX7_look_107 ?_
      refine lv_iload hx hb dX7_look_110 (lv_at hl 0 rfl) ?_
      obtain ⟨hg_15, hf⟩ := gd_some hf
      refine va_iald hx hb hK hP 4 0 rfl rfl (inb_in hg_15) dX7_look_112 ?_
      refine lv_aload_n hx hb dX7_look_113 rfl (lv_at hl 3 rfl) ?_
      refine va_get (D := (dC, dI)) (ci := 0) (v := .ref h_p1_y) (C := RX0) (T := TX0) (N := 7) hx hb hts in_X0 hown hK hP 3 rfl rfl 1 (Nat.le_of_ble_eq_true rfl) (hts _ qf_X7_74) (fun _ h9 => h9) rfl dX7_look_114 ?_
      refine lv_iload hx hb dX7_look_117 (lv_at hl 0 rfl) ?_
      obtain ⟨hg_16, hf⟩ := gd_some hf
      refine va_iald hx hb hK hP 5 0 rfl rfl (inb_in hg_16) dX7_look_119 ?_
      obtain ⟨r_17, t_near_x_18, t_near_y_19, t_near_lower_20, t_near_square_21, t_near_squareLower_22, hq_23, hf⟩ := b6_some hf
      refine xci (wr := [(h_t, .inr (7, [.ref h_t_chosen, .ref h_t_mixed, .ref h_t_near, .int t_gone, .int t_stuck, .int t_longest, .int t_side])), (h_t_chosen, .inl (cI, 3, .inl t_chosen)), (h_p1, .inr (0, [.ref h_p1_x, .ref h_p1_y, .ref h_p1_colour, .ref h_p1_load, .int p1_size, .int p1_centreX, .int p1_centreY])), (h_p1_x, .inl (cI, 24, .inl p1_x)), (h_p1_y, .inl (cI, 24, .inl p1_y))]) (w2 := [(h_t, .inr (7, [.ref h_t_chosen, .ref h_t_mixed, .ref h_t_near, .int t_gone, .int t_stuck, .int t_longest, .int t_side])), (h_t_chosen, .inl (cI, 3, .inl t_chosen)), (h_t_near, .inr (4, [.long t_near_x_18, .long t_near_y_19, .long t_near_lower_20, .long t_near_square_21, .long t_near_squareLower_22, .int t_near_fromX, .int t_near_fromY])), (h_p1, .inr (0, [.ref h_p1_x, .ref h_p1_y, .ref h_p1_colour, .ref h_p1_load, .int p1_size, .int p1_centreX, .int p1_centreY])), (h_p1_x, .inl (cI, 24, .inl p1_x)), (h_p1_y, .inl (cI, 24, .inl p1_y))]) (va_runV (As := [.int (p1_x l4_10.toNatClampNeg), .int (p1_y l4_10.toNatClampNeg), .int (p1_x l5_12.toNatClampNeg), .int (p1_y l5_12.toNatClampNeg)]) (rest := []) ⟨hx, hb, hml, hown, hts⟩ (mtX4_offerEdge l dC dI cI cL cB K h_t_near H.size t_near_x t_near_y t_near_lower t_near_square t_near_squareLower t_near_fromX t_near_fromY (p1_x l4_10.toNatClampNeg) (p1_y l4_10.toNatClampNeg) (p1_x l5_12.toNatClampNeg) (p1_y l5_12.toNatClampNeg) r_17 t_near_x_18 t_near_y_19 t_near_lower_20 t_near_square_21 t_near_squareLower_22 hq_23) (cwV 4 hts gv_X7_77 rfl rfl rfl hdV_X4_offerEdge ⟨Nat.le_trans (Nat.le_of_ble_eq_true rfl) hF, Nat.le_trans (Nat.le_of_ble_eq_true rfl) hLo⟩) (cPreV hK hP hD hT [2] rfl rfl (ci := 4) (q0 := 0) rfl rfl) rfl rfl hl.1 rfl (lv_room (Nat.le_of_ble_eq_true rfl)) dX7_look_120 ⟨Nat.zero_le _, Nat.zero_le _⟩) hP hD hS hA [2] [0, 1, 3, 4, 5] [0, 1, 5, 2, 3, 4] rfl rfl rfl rfl rfl rfl (fun H locs hP hD hS => ?_)
      obtain ⟨k_25, ek_25, hf⟩ := jn_out hf
      have J_26 : ∀ (t_side_24 : Int32) (H : Heap) (locs : List Loc) (ls : Array Slot), va_P (dC, dI) vwCl [(h_t, .inr (7, [.ref h_t_chosen, .ref h_t_mixed, .ref h_t_near, .int t_gone, .int t_stuck, .int t_longest, .int t_side_24])), (h_t_chosen, .inl (cI, 3, .inl t_chosen)), (h_t_near, .inr (4, [.long t_near_x_18, .long t_near_y_19, .long t_near_lower_20, .long t_near_square_21, .long t_near_squareLower_22, .int t_near_fromX, .int t_near_fromY])), (h_p1, .inr (0, [.ref h_p1_x, .ref h_p1_y, .ref h_p1_colour, .ref h_p1_load, .int p1_size, .int p1_centreX, .int p1_centreY])), (h_p1_x, .inl (cI, 24, .inl p1_x)), (h_p1_y, .inl (cI, 24, .inl p1_y))] H → va_D A [(h_t, .inr (7, [.ref h_t_chosen, .ref h_t_mixed, .ref h_t_near, .int t_gone, .int t_stuck, .int t_longest, .int t_side_24])), (h_t_chosen, .inl (cI, 3, .inl t_chosen)), (h_t_near, .inr (4, [.long t_near_x_18, .long t_near_y_19, .long t_near_lower_20, .long t_near_square_21, .long t_near_squareLower_22, .int t_near_fromX, .int t_near_fromY])), (h_p1, .inr (0, [.ref h_p1_x, .ref h_p1_y, .ref h_p1_colour, .ref h_p1_load, .int p1_size, .int p1_centreX, .int p1_centreY])), (h_p1_x, .inl (cI, 24, .inl p1_x)), (h_p1_y, .inl (cI, 24, .inl p1_y))] → va_S A s.heap H locs → lv_has ls 6 [(0, .ref h_t), (1, .ref h_p1), (2, .int l2), (3, .int l3)] → k_25 t_side_24 = some (x_t_side, x_t_near_x, x_t_near_y, x_t_near_lower, x_t_near_square, x_t_near_squareLower) → W p l e R s m args below meth c H locs 0 0 Q (F0 m 135 ls []) := by
        intro t_side_24 H locs ls hP hD hS hl hf
        rw [ek_25] at hf
        try dsimp only at hf
        obtain ⟨l3_27, el3_27⟩ : ∃ y : Int32, y = l3 + (1 : Int32) := ⟨_, rfl⟩
        replace hf := xl_at hf el3_27
        refine lv_iinc (v := l3_27) (lv' := [(3, .int l3_27), (0, .ref h_t), (1, .ref h_p1), (2, .int l2)]) hx hb dX7_look_135 hl (k := 3) rfl (by rw [el3_27]; rfl) (Nat.le_of_ble_eq_true rfl) rfl (fun ls hl => ?_)
        refine lv_goto (tgt := 67) hx hb dX7_look_138 (by decide) ?_
        exact ih l3_27 t_side_24 t_near_x_18 t_near_y_19 t_near_lower_20 t_near_square_21 t_near_squareLower_22 _ _ _ _ _ _ H locs ls hP hD hS (lv_sub hl [1, 2, 3, 0] rfl) hf hk
      refine lv_if_eq (tgt := 135) hx hb dX7_look_123 (by decide) (fun hc => ?_) (fun hc => ?_)
      · replace hf := it_t (hc) hf
        exact J_26 t_side H locs ls hP hD hS (lv_sub hl [2, 3, 4, 5] rfl) hf
      · replace hf := it_f (hc) hf
        refine lv_aload_n hx hb dX7_look_126 rfl (lv_at hl 2 rfl) ?_
        refine lv_iload_n hx hb dX7_look_127 rfl (lv_at hl 4 rfl) ?_
        refine lv_iload_n hx hb dX7_look_128 rfl (lv_at hl 5 rfl) ?_
        refine lv_iadd hx hb dX7_look_129 ?_
        refine lv_iconst (v := (1 : Int32)) hx hb dX7_look_130 (by decide) ?_
        refine lv_isub hx hb dX7_look_131 ?_
        refine lv_topi (fun f_side_28 ef_side_28 => ?_)
        replace hf := xl_at hf ef_side_28
        refine xput (D := (dC, dI)) (ci := 7) (v := .int f_side_28) (C := RX7) (T := TX7) (N := 7) (w2 := [(h_t, .inr (7, [.ref h_t_chosen, .ref h_t_mixed, .ref h_t_near, .int t_gone, .int t_stuck, .int t_longest, .int f_side_28])), (h_t_chosen, .inl (cI, 3, .inl t_chosen)), (h_t_near, .inr (4, [.long t_near_x_18, .long t_near_y_19, .long t_near_lower_20, .long t_near_square_21, .long t_near_squareLower_22, .int t_near_fromX, .int t_near_fromY])), (h_p1, .inr (0, [.ref h_p1_x, .ref h_p1_y, .ref h_p1_colour, .ref h_p1_load, .int p1_size, .int p1_centreX, .int p1_centreY])), (h_p1_x, .inl (cI, 24, .inl p1_x)), (h_p1_y, .inl (cI, 24, .inl p1_y))]) hx hb hts in_X7 tyX7 tyX7_ok nmX7 hown hK hP hD hS 0 rfl rfl 6 (Nat.le_of_ble_eq_true rfl) (hts _ qf_X7_68) (fun _ h9 => h9) rfl rfl rfl (Nat.le_of_ble_eq_true rfl) rfl dX7_look_132 (fun H locs hP hD hS => ?_)
        exact J_26 f_side_28 H locs ls hP hD hS (lv_sub hl [2, 3, 4, 5] rfl) hf
set_option maxRecDepth 100000 in
set_option maxHeartbeats 4000000 in
theorem wX7_look_L58 {p : Program} {l : Launch} {e : Env} {R : Room} {s : State} {m : MethodId} {args : Array Value} {below : List Frame} {meth : Method} {c : Code} {Q : State → Prop} {A : Nat → Prop} {dC : Nat → ClassId} {dI : Nat → Nat → Nat} {cI cL cB : ClassId} {K : Nat} (C0 : Sx p R s m args c cX7_look 6 RX7 A dC dI cI cL cB 2 64) (h_t h_t_chosen h_t_mixed h_t_near h_p1 h_p1_x h_p1_y h_p1_colour h_p1_load : Nat) (t_gone : Int32) (t_stuck : Int32) (t_longest : Int32) (t_chosen : Nat → Int32) (t_near_fromX : Int32) (t_near_fromY : Int32) (p1_size : Int32) (p1_centreX : Int32) (p1_centreY : Int32) (p1_x : Nat → Int32) (p1_y : Nat → Int32) : ∀ (n : Nat) (l2 : Int32) (t_side : Int32) (t_near_x : Int64) (t_near_y : Int64) (t_near_lower : Int64) (t_near_square : Int64) (t_near_squareLower : Int64) (x_t_side : Int32) (x_t_near_x : Int64) (x_t_near_y : Int64) (x_t_near_lower : Int64) (x_t_near_square : Int64) (x_t_near_squareLower : Int64) (H : Heap) (locs : List Loc) (ls : Array Slot), va_P (dC, dI) vwCl [(h_t, .inr (7, [.ref h_t_chosen, .ref h_t_mixed, .ref h_t_near, .int t_gone, .int t_stuck, .int t_longest, .int t_side])), (h_t_chosen, .inl (cI, 3, .inl t_chosen)), (h_t_near, .inr (4, [.long t_near_x, .long t_near_y, .long t_near_lower, .long t_near_square, .long t_near_squareLower, .int t_near_fromX, .int t_near_fromY])), (h_p1, .inr (0, [.ref h_p1_x, .ref h_p1_y, .ref h_p1_colour, .ref h_p1_load, .int p1_size, .int p1_centreX, .int p1_centreY])), (h_p1_x, .inl (cI, 24, .inl p1_x)), (h_p1_y, .inl (cI, 24, .inl p1_y))] H → va_D A [(h_t, .inr (7, [.ref h_t_chosen, .ref h_t_mixed, .ref h_t_near, .int t_gone, .int t_stuck, .int t_longest, .int t_side])), (h_t_chosen, .inl (cI, 3, .inl t_chosen)), (h_t_near, .inr (4, [.long t_near_x, .long t_near_y, .long t_near_lower, .long t_near_square, .long t_near_squareLower, .int t_near_fromX, .int t_near_fromY])), (h_p1, .inr (0, [.ref h_p1_x, .ref h_p1_y, .ref h_p1_colour, .ref h_p1_load, .int p1_size, .int p1_centreX, .int p1_centreY])), (h_p1_x, .inl (cI, 24, .inl p1_x)), (h_p1_y, .inl (cI, 24, .inl p1_y))] → va_S A s.heap H locs → lv_has ls 6 [(0, .ref h_t), (1, .ref h_p1), (2, .int l2)] → fX7_look_L58 K t_chosen t_near_fromX t_near_fromY p1_x p1_y n l2 t_side t_near_x t_near_y t_near_lower t_near_square t_near_squareLower = some (x_t_side, x_t_near_x, x_t_near_y, x_t_near_lower, x_t_near_square, x_t_near_squareLower) → (∀ (H : Heap) (locs : List Loc) (ls : Array Slot), va_P (dC, dI) vwCl [(h_t, .inr (7, [.ref h_t_chosen, .ref h_t_mixed, .ref h_t_near, .int t_gone, .int t_stuck, .int t_longest, .int x_t_side])), (h_t_chosen, .inl (cI, 3, .inl t_chosen)), (h_t_near, .inr (4, [.long x_t_near_x, .long x_t_near_y, .long x_t_near_lower, .long x_t_near_square, .long x_t_near_squareLower, .int t_near_fromX, .int t_near_fromY])), (h_p1, .inr (0, [.ref h_p1_x, .ref h_p1_y, .ref h_p1_colour, .ref h_p1_load, .int p1_size, .int p1_centreX, .int p1_centreY])), (h_p1_x, .inl (cI, 24, .inl p1_x)), (h_p1_y, .inl (cI, 24, .inl p1_y))] H → va_D A [(h_t, .inr (7, [.ref h_t_chosen, .ref h_t_mixed, .ref h_t_near, .int t_gone, .int t_stuck, .int t_longest, .int x_t_side])), (h_t_chosen, .inl (cI, 3, .inl t_chosen)), (h_t_near, .inr (4, [.long x_t_near_x, .long x_t_near_y, .long x_t_near_lower, .long x_t_near_square, .long x_t_near_squareLower, .int t_near_fromX, .int t_near_fromY])), (h_p1, .inr (0, [.ref h_p1_x, .ref h_p1_y, .ref h_p1_colour, .ref h_p1_load, .int p1_size, .int p1_centreX, .int p1_centreY])), (h_p1_x, .inl (cI, 24, .inl p1_x)), (h_p1_y, .inl (cI, 24, .inl p1_y))] → va_S A s.heap H locs → lv_has ls 6 [] → W p l e R s m args below meth c H locs 0 0 Q (F0 m 147 ls [])) → W p l e R s m args below meth c H locs 0 0 Q (F0 m 58 ls []) := by
  obtain ⟨hx, hb, hml, hown, hts, hK, hT, hA, hF, hLo⟩ := id C0
  intro n
  induction n with
  | zero =>
    intro l2 t_side t_near_x t_near_y t_near_lower t_near_square t_near_squareLower x_t_side x_t_near_x x_t_near_y x_t_near_lower x_t_near_square x_t_near_squareLower H locs ls hP hD hS hl hf
    rw [fX7_look_L58] at hf
    cases hf
  | succ n ih =>
    intro l2 t_side t_near_x t_near_y t_near_lower t_near_square t_near_squareLower x_t_side x_t_near_x x_t_near_y x_t_near_lower x_t_near_square x_t_near_squareLower H locs ls hP hD hS hl hf hk
    rw [fX7_look_L58] at hf
    refine lv_iload_n hx hb dX7_look_58 rfl (lv_at hl 2 rfl) ?_
    refine lv_iconst (v := (3 : Int32)) hx hb dX7_look_59 (by decide) ?_
    refine lv_icmp_ge (tgt := 147) hx hb dX7_look_60 (by decide) (fun hc => ?_) (fun hc => ?_)
    · replace hf := it_t (hc) hf
      obtain ⟨rfl, rfl, rfl, rfl, rfl, rfl⟩ := o6 hf
      exact hk H locs ls hP hD hS (lv_sub hl [] rfl)
    · replace hf := it_f (hc) hf
      refine lv_iload_n hx hb dX7_look_63 rfl (lv_at hl 2 rfl) ?_
      refine lv_iconst (v := (1 : Int32)) hx hb dX7_look_64 (by decide) ?_
      refine lv_iadd hx hb dX7_look_65 ?_
      refine lv_topi (fun l3_8 el3_8 => ?_)
      replace hf := xl_at hf el3_8
      refine lv_istore_n (lv' := [(3, .int l3_8), (0, .ref h_t), (1, .ref h_p1), (2, .int l2)]) hx hb dX7_look_66 rfl hl (Nat.le_of_ble_eq_true rfl) rfl (fun ls hl => ?_)
      obtain ⟨t_side_30, t_near_x_31, t_near_y_32, t_near_lower_33, t_near_square_34, t_near_squareLower_35, hq_29, hf⟩ := b6_some hf
      refine wX7_look_L67 C0 h_t h_t_chosen h_t_mixed h_t_near h_p1 h_p1_x h_p1_y h_p1_colour h_p1_load t_gone t_stuck t_longest t_chosen t_near_fromX t_near_fromY p1_size p1_centreX p1_centreY p1_x p1_y l2 K l3_8 t_side t_near_x t_near_y t_near_lower t_near_square t_near_squareLower t_side_30 t_near_x_31 t_near_y_32 t_near_lower_33 t_near_square_34 t_near_squareLower_35 H locs ls hP hD hS (lv_sub hl [1, 2, 3, 0] rfl) hq_29 ?_
      intro H locs ls hP hD hS hl
      obtain ⟨l2_36, el2_36⟩ : ∃ y : Int32, y = l2 + (1 : Int32) := ⟨_, rfl⟩
      replace hf := xl_at hf el2_36
      refine lv_iinc (v := l2_36) (lv' := [(2, .int l2_36), (0, .ref h_t), (1, .ref h_p1)]) hx hb dX7_look_141 hl (k := 2) rfl (by rw [el2_36]; rfl) (Nat.le_of_ble_eq_true rfl) rfl (fun ls hl => ?_)
      refine lv_goto (tgt := 58) hx hb dX7_look_144 (by decide) ?_
      exact ih l2_36 t_side_30 t_near_x_31 t_near_y_32 t_near_lower_33 t_near_square_34 t_near_squareLower_35 _ _ _ _ _ _ H locs ls hP hD hS (lv_sub hl [1, 2, 0] rfl) hf hk
set_option maxRecDepth 100000 in
set_option maxHeartbeats 4000000 in
theorem mtX7_look (l : Launch) (dC : Nat → ClassId) (dI : Nat → Nat → Nat) (cI cL cB : ClassId) (K : Nat) (h_t h_t_chosen h_t_mixed h_t_near h_p1 h_p1_x h_p1_y h_p1_colour h_p1_load : Nat) (sz : Nat) (t_gone : Int32) (t_stuck : Int32) (t_longest : Int32) (t_side : Int32) (t_chosen : Nat → Int32) (t_near_x : Int64) (t_near_y : Int64) (t_near_lower : Int64) (t_near_square : Int64) (t_near_squareLower : Int64) (t_near_fromX : Int32) (t_near_fromY : Int32) (p1_size : Int32) (p1_centreX : Int32) (p1_centreY : Int32) (p1_x : Nat → Int32) (p1_y : Nat → Int32) (o_t_side : Int32) (o_t_near_x : Int64) (o_t_near_y : Int64) (o_t_near_lower : Int64) (o_t_near_square : Int64) (o_t_near_squareLower : Int64) (o_t_near_fromX : Int32) (o_t_near_fromY : Int32) (hf : fX7_look K t_side t_chosen t_near_x t_near_y t_near_lower t_near_square t_near_squareLower t_near_fromX t_near_fromY p1_centreX p1_centreY p1_x p1_y = some (o_t_side, o_t_near_x, o_t_near_y, o_t_near_lower, o_t_near_square, o_t_near_squareLower, o_t_near_fromX, o_t_near_fromY)) : Met l yX7_look [Cond.code yX7_look cX7_look 6 none] ({ frames := 2, cells := 0, slots := 0, locals := 64 }) (va_Pc [.ref h_t, .ref h_p1] (cPre dC dI cI cL cB sz [(h_t, .inr (7, [.ref h_t_chosen, .ref h_t_mixed, .ref h_t_near, .int t_gone, .int t_stuck, .int t_longest, .int t_side])), (h_t_chosen, .inl (cI, 3, .inl t_chosen)), (h_t_near, .inr (4, [.long t_near_x, .long t_near_y, .long t_near_lower, .long t_near_square, .long t_near_squareLower, .int t_near_fromX, .int t_near_fromY])), (h_p1, .inr (0, [.ref h_p1_x, .ref h_p1_y, .ref h_p1_colour, .ref h_p1_load, .int p1_size, .int p1_centreX, .int p1_centreY])), (h_p1_x, .inl (cI, 24, .inl p1_x)), (h_p1_y, .inl (cI, 24, .inl p1_y))])) (cQv dC dI (va_A [(h_t, .inr (7, [.ref h_t_chosen, .ref h_t_mixed, .ref h_t_near, .int t_gone, .int t_stuck, .int t_longest, .int t_side])), (h_t_chosen, .inl (cI, 3, .inl t_chosen)), (h_t_near, .inr (4, [.long t_near_x, .long t_near_y, .long t_near_lower, .long t_near_square, .long t_near_squareLower, .int t_near_fromX, .int t_near_fromY])), (h_p1, .inr (0, [.ref h_p1_x, .ref h_p1_y, .ref h_p1_colour, .ref h_p1_load, .int p1_size, .int p1_centreX, .int p1_centreY])), (h_p1_x, .inl (cI, 24, .inl p1_x)), (h_p1_y, .inl (cI, 24, .inl p1_y))] sz) [(h_t, .inr (7, [.ref h_t_chosen, .ref h_t_mixed, .ref h_t_near, .int t_gone, .int t_stuck, .int t_longest, .int o_t_side])), (h_t_chosen, .inl (cI, 3, .inl t_chosen)), (h_t_near, .inr (4, [.long o_t_near_x, .long o_t_near_y, .long o_t_near_lower, .long o_t_near_square, .long o_t_near_squareLower, .int o_t_near_fromX, .int o_t_near_fromY])), (h_p1, .inr (0, [.ref h_p1_x, .ref h_p1_y, .ref h_p1_colour, .ref h_p1_load, .int p1_size, .int p1_centreX, .int p1_centreY])), (h_p1_x, .inl (cI, 24, .inl p1_x)), (h_p1_y, .inl (cI, 24, .inl p1_y))]) 0 0 (va_A [(h_t, .inr (7, [.ref h_t_chosen, .ref h_t_mixed, .ref h_t_near, .int t_gone, .int t_stuck, .int t_longest, .int t_side])), (h_t_chosen, .inl (cI, 3, .inl t_chosen)), (h_t_near, .inr (4, [.long t_near_x, .long t_near_y, .long t_near_lower, .long t_near_square, .long t_near_squareLower, .int t_near_fromX, .int t_near_fromY])), (h_p1, .inr (0, [.ref h_p1_x, .ref h_p1_y, .ref h_p1_colour, .ref h_p1_load, .int p1_size, .int p1_centreX, .int p1_centreY])), (h_p1_x, .inl (cI, 24, .inl p1_x)), (h_p1_y, .inl (cI, 24, .inl p1_y))] sz) := by
  refine Met.ofW (cc := cX7_look) (maxL := 6) (ret := none) (by decide) rfl ?_
  intro p e s m args below meth c s₁ B hml hv
  obtain ⟨rfl, hsz, hP, hK, hD0, hT⟩ := hv
  have hx := B.exec
  have hb := B.bytes
  have hr := B.returns
  have hown : s.vm.findClass RX7 = some m.cls := findClass_of_methodNamed B.named
  have hlocks := B.notSynchronized
  have hts := TB.use hT ([.ref h_t, .ref h_p1] : List Value).toArray
  subst hsz
  have hD := hD0.self (sz := s.heap.size)
  generalize hAe : va_A [(h_t, .inr (7, [.ref h_t_chosen, .ref h_t_mixed, .ref h_t_near, .int t_gone, .int t_stuck, .int t_longest, .int t_side])), (h_t_chosen, .inl (cI, 3, .inl t_chosen)), (h_t_near, .inr (4, [.long t_near_x, .long t_near_y, .long t_near_lower, .long t_near_square, .long t_near_squareLower, .int t_near_fromX, .int t_near_fromY])), (h_p1, .inr (0, [.ref h_p1_x, .ref h_p1_y, .ref h_p1_colour, .ref h_p1_load, .int p1_size, .int p1_centreX, .int p1_centreY])), (h_p1_x, .inl (cI, 24, .inl p1_x)), (h_p1_y, .inl (cI, 24, .inl p1_y))] s.heap.size = A at hD ⊢
  have hA : ∀ q : Nat, s.heap.size ≤ q → A q := fun q h => by rw [← hAe]; exact Or.inr h
  clear hAe hD0
  have hl := lv_entry ([.ref h_t, .ref h_p1]) (n := 6) (Nat.le_of_ble_eq_true rfl)
  rw [lg_entry_eq]
  generalize (lg_sl ([.ref h_t, .ref h_p1]) ++ List.replicate (6 - (lg_sl ([.ref h_t, .ref h_p1])).length) Slot.unset).toArray = ls at hl ⊢
  have hl : lv_has ls 6 [(0, .ref h_t), (1, .ref h_p1)] := hl
  have hF : 2 ≤ (headSpec [Cond.code yX7_look cX7_look 6 none] ({ frames := 2, cells := 0, slots := 0, locals := 64 })).room.frames := Nat.le_refl _
  have hLo : 64 ≤ (headSpec [Cond.code yX7_look cX7_look 6 none] ({ frames := 2, cells := 0, slots := 0, locals := 64 })).room.locals := Nat.le_refl _
  have C0 : Sx p (headSpec [Cond.code yX7_look cX7_look 6 none] ({ frames := 2, cells := 0, slots := 0, locals := 64 })).room s m ([.ref h_t, .ref h_p1] : List Value).toArray c cX7_look 6 RX7 A dC dI cI cL cB 2 64 := ⟨hx, hb, hml, hown, hts, hK, hT, hA, hF, hLo⟩
  refine startH (A := A) hP (fun H locs hP hS => ?_)
  rw [fX7_look] at hf
  refine lv_aload_n hx hb dX7_look_0 rfl (lv_at hl 0 rfl) ?_
  refine va_get (D := (dC, dI)) (ci := 7) (v := .ref h_t_near) (C := RX7) (T := TX7) (N := 7) hx hb hts in_X7 hown hK hP 0 rfl rfl 2 (Nat.le_of_ble_eq_true rfl) (hts _ qf_X7_22) (fun _ h9 => h9) rfl dX7_look_1 ?_
  refine lv_aload_n hx hb dX7_look_4 rfl (lv_at hl 1 rfl) ?_
  refine va_get (D := (dC, dI)) (ci := 0) (v := .int p1_centreX) (C := RX0) (T := TX0) (N := 7) hx hb hts in_X0 hown hK hP 3 rfl rfl 5 (Nat.le_of_ble_eq_true rfl) (hts _ qf_X7_54) (fun _ h9 => h9) rfl dX7_look_5 ?_
  refine lv_aload_n hx hb dX7_look_8 rfl (lv_at hl 1 rfl) ?_
  refine va_get (D := (dC, dI)) (ci := 0) (v := .int p1_centreY) (C := RX0) (T := TX0) (N := 7) hx hb hts in_X0 hown hK hP 3 rfl rfl 6 (Nat.le_of_ble_eq_true rfl) (hts _ qf_X7_57) (fun _ h9 => h9) rfl dX7_look_9 ?_
  obtain ⟨t_near_square_1, t_near_squareLower_2, t_near_fromX_3, t_near_fromY_4, hq_5, hf⟩ := b4_some hf
  refine xcv (wr := [(h_t, .inr (7, [.ref h_t_chosen, .ref h_t_mixed, .ref h_t_near, .int t_gone, .int t_stuck, .int t_longest, .int t_side])), (h_t_chosen, .inl (cI, 3, .inl t_chosen)), (h_p1, .inr (0, [.ref h_p1_x, .ref h_p1_y, .ref h_p1_colour, .ref h_p1_load, .int p1_size, .int p1_centreX, .int p1_centreY])), (h_p1_x, .inl (cI, 24, .inl p1_x)), (h_p1_y, .inl (cI, 24, .inl p1_y))]) (w2 := [(h_t, .inr (7, [.ref h_t_chosen, .ref h_t_mixed, .ref h_t_near, .int t_gone, .int t_stuck, .int t_longest, .int t_side])), (h_t_chosen, .inl (cI, 3, .inl t_chosen)), (h_t_near, .inr (4, [.long t_near_x, .long t_near_y, .long t_near_lower, .long t_near_square_1, .long t_near_squareLower_2, .int t_near_fromX_3, .int t_near_fromY_4])), (h_p1, .inr (0, [.ref h_p1_x, .ref h_p1_y, .ref h_p1_colour, .ref h_p1_load, .int p1_size, .int p1_centreX, .int p1_centreY])), (h_p1_x, .inl (cI, 24, .inl p1_x)), (h_p1_y, .inl (cI, 24, .inl p1_y))]) (va_runV (As := [.int p1_centreX, .int p1_centreY]) (rest := []) ⟨hx, hb, hml, hown, hts⟩ (mtX4_start l dC dI cI cL cB K h_t_near H.size t_near_x t_near_y t_near_lower t_near_square t_near_squareLower t_near_fromX t_near_fromY p1_centreX p1_centreY t_near_square_1 t_near_squareLower_2 t_near_fromX_3 t_near_fromY_4 hq_5) (cwV 2 hts gv_X7_60 rfl rfl rfl hdV_X4_start ⟨Nat.le_trans (Nat.le_of_ble_eq_true rfl) hF, Nat.le_trans (Nat.le_of_ble_eq_true rfl) hLo⟩) (cPreV hK hP hD hT [2] rfl rfl (ci := 4) (q0 := 0) rfl rfl) rfl rfl hl.1 rfl (lv_room (Nat.le_of_ble_eq_true rfl)) dX7_look_12 ⟨Nat.zero_le _, Nat.zero_le _⟩) hP hD hS hA [2] [0, 1, 3, 4, 5] [0, 1, 5, 2, 3, 4] rfl rfl rfl rfl rfl rfl (fun H locs hP hD hS => ?_)
  refine lv_aload_n hx hb dX7_look_15 rfl (lv_at hl 0 rfl) ?_
  refine lv_aload_n hx hb dX7_look_16 rfl (lv_at hl 1 rfl) ?_
  refine lv_aload_n hx hb dX7_look_17 rfl (lv_at hl 1 rfl) ?_
  refine va_get (D := (dC, dI)) (ci := 0) (v := .int p1_centreX) (C := RX0) (T := TX0) (N := 7) hx hb hts in_X0 hown hK hP 3 rfl rfl 5 (Nat.le_of_ble_eq_true rfl) (hts _ qf_X7_54) (fun _ h9 => h9) rfl dX7_look_18 ?_
  refine lv_aload_n hx hb dX7_look_21 rfl (lv_at hl 1 rfl) ?_
  refine va_get (D := (dC, dI)) (ci := 0) (v := .int p1_centreY) (C := RX0) (T := TX0) (N := 7) hx hb hts in_X0 hown hK hP 3 rfl rfl 6 (Nat.le_of_ble_eq_true rfl) (hts _ qf_X7_57) (fun _ h9 => h9) rfl dX7_look_22 ?_
  obtain ⟨r_6, hq_7, hf⟩ := b1_some hf
  refine xci (wr := [(h_t_near, .inr (4, [.long t_near_x, .long t_near_y, .long t_near_lower, .long t_near_square_1, .long t_near_squareLower_2, .int t_near_fromX_3, .int t_near_fromY_4]))]) (w2 := [(h_t, .inr (7, [.ref h_t_chosen, .ref h_t_mixed, .ref h_t_near, .int t_gone, .int t_stuck, .int t_longest, .int t_side])), (h_t_chosen, .inl (cI, 3, .inl t_chosen)), (h_t_near, .inr (4, [.long t_near_x, .long t_near_y, .long t_near_lower, .long t_near_square_1, .long t_near_squareLower_2, .int t_near_fromX_3, .int t_near_fromY_4])), (h_p1, .inr (0, [.ref h_p1_x, .ref h_p1_y, .ref h_p1_colour, .ref h_p1_load, .int p1_size, .int p1_centreX, .int p1_centreY])), (h_p1_x, .inl (cI, 24, .inl p1_x)), (h_p1_y, .inl (cI, 24, .inl p1_y))]) (va_runV (As := [.ref h_p1, .int p1_centreX, .int p1_centreY]) (rest := []) ⟨hx, hb, hml, hown, hts⟩ (mtX7_chosenHold l dC dI cI cL cB K h_t h_t_chosen h_t_mixed h_t_near h_p1 h_p1_x h_p1_y h_p1_colour h_p1_load H.size t_gone t_stuck t_longest t_side t_chosen p1_size p1_centreX p1_centreY p1_x p1_y p1_centreX p1_centreY r_6 hq_7) (cwV 3 hts gv_X7_47 rfl rfl rfl hdV_X7_chosenHold ⟨Nat.le_trans (Nat.le_of_ble_eq_true rfl) hF, Nat.le_trans (Nat.le_of_ble_eq_true rfl) hLo⟩) (cPreV hK hP hD hT [0, 1, 3, 4, 5] rfl rfl (ci := 7) (q0 := 0) rfl rfl) rfl rfl hl.1 rfl (lv_room (Nat.le_of_ble_eq_true rfl)) dX7_look_25 ⟨Nat.zero_le _, Nat.zero_le _⟩) hP hD hS hA [0, 1, 3, 4, 5] [2] [1, 2, 0, 3, 4, 5] rfl rfl rfl rfl rfl rfl (fun H locs hP hD hS => ?_)
  refine lv_if_eq (tgt := 51) hx hb dX7_look_28 (by decide) (fun hc => ?_) (fun hc => ?_)
  · replace hf := it_t (hc) hf
    refine lv_aload_n hx hb dX7_look_51 rfl (lv_at hl 0 rfl) ?_
    refine lv_iconst (v := (0 : Int32)) hx hb dX7_look_52 (by decide) ?_
    refine xput (D := (dC, dI)) (ci := 7) (v := .int (0 : Int32)) (C := RX7) (T := TX7) (N := 7) (w2 := [(h_t, .inr (7, [.ref h_t_chosen, .ref h_t_mixed, .ref h_t_near, .int t_gone, .int t_stuck, .int t_longest, .int (0 : Int32)])), (h_t_chosen, .inl (cI, 3, .inl t_chosen)), (h_t_near, .inr (4, [.long t_near_x, .long t_near_y, .long t_near_lower, .long t_near_square_1, .long t_near_squareLower_2, .int t_near_fromX_3, .int t_near_fromY_4])), (h_p1, .inr (0, [.ref h_p1_x, .ref h_p1_y, .ref h_p1_colour, .ref h_p1_load, .int p1_size, .int p1_centreX, .int p1_centreY])), (h_p1_x, .inl (cI, 24, .inl p1_x)), (h_p1_y, .inl (cI, 24, .inl p1_y))]) hx hb hts in_X7 tyX7 tyX7_ok nmX7 hown hK hP hD hS 0 rfl rfl 6 (Nat.le_of_ble_eq_true rfl) (hts _ qf_X7_68) (fun _ h9 => h9) rfl rfl rfl (Nat.le_of_ble_eq_true rfl) rfl dX7_look_53 (fun H locs hP hD hS => ?_)
    refine lv_iconst (v := (0 : Int32)) hx hb dX7_look_56 (by decide) ?_
    refine lv_istore_n (lv' := [(2, .int (0 : Int32)), (0, .ref h_t), (1, .ref h_p1)]) hx hb dX7_look_57 rfl hl (Nat.le_of_ble_eq_true rfl) rfl (fun ls hl => ?_)
    obtain ⟨t_side_38, t_near_x_39, t_near_y_40, t_near_lower_41, t_near_square_42, t_near_squareLower_43, hq_37, hf⟩ := b6_some hf
    refine wX7_look_L58 C0 h_t h_t_chosen h_t_mixed h_t_near h_p1 h_p1_x h_p1_y h_p1_colour h_p1_load t_gone t_stuck t_longest t_chosen t_near_fromX_3 t_near_fromY_4 p1_size p1_centreX p1_centreY p1_x p1_y K (0 : Int32) (0 : Int32) t_near_x t_near_y t_near_lower t_near_square_1 t_near_squareLower_2 t_side_38 t_near_x_39 t_near_y_40 t_near_lower_41 t_near_square_42 t_near_squareLower_43 H locs ls hP hD hS (lv_sub hl [1, 2, 0] rfl) hq_37 ?_
    intro H locs ls hP hD hS hl
    obtain ⟨rfl, rfl, rfl, rfl, rfl, rfl, rfl, rfl⟩ := o8 hf
    exact W.vret hx hb hr (fun t ht hW => ⟨⟨(), rfl, trivial, by rw [ht]; exact hP, hD⟩, hS.F ht⟩) hS.2.2 dX7_look_147
  · replace hf := it_f (hc) hf
    refine lv_aload_n hx hb dX7_look_31 rfl (lv_at hl 0 rfl) ?_
    refine va_get (D := (dC, dI)) (ci := 7) (v := .ref h_t_near) (C := RX7) (T := TX7) (N := 7) hx hb hts in_X7 hown hK hP 0 rfl rfl 2 (Nat.le_of_ble_eq_true rfl) (hts _ qf_X7_22) (fun _ h9 => h9) rfl dX7_look_32 ?_
    refine lv_aload_n hx hb dX7_look_35 rfl (lv_at hl 1 rfl) ?_
    refine va_get (D := (dC, dI)) (ci := 0) (v := .int p1_centreX) (C := RX0) (T := TX0) (N := 7) hx hb hts in_X0 hown hK hP 3 rfl rfl 5 (Nat.le_of_ble_eq_true rfl) (hts _ qf_X7_54) (fun _ h9 => h9) rfl dX7_look_36 ?_
    refine lv_i2l hx hb dX7_look_39 rfl ?_
    refine lv_aload_n hx hb dX7_look_40 rfl (lv_at hl 1 rfl) ?_
    refine va_get (D := (dC, dI)) (ci := 0) (v := .int p1_centreY) (C := RX0) (T := TX0) (N := 7) hx hb hts in_X0 hown hK hP 3 rfl rfl 6 (Nat.le_of_ble_eq_true rfl) (hts _ qf_X7_57) (fun _ h9 => h9) rfl dX7_look_41 ?_
    refine lv_i2l hx hb dX7_look_44 rfl ?_
    refine lv_lconst (v := (1 : Int64)) hx hb dX7_look_45 (by decide) ?_
    obtain ⟨r_44, t_near_x_45, t_near_y_46, t_near_lower_47, t_near_square_48, t_near_squareLower_49, hq_50, hf⟩ := b6_some hf
    refine xci (wr := [(h_t, .inr (7, [.ref h_t_chosen, .ref h_t_mixed, .ref h_t_near, .int t_gone, .int t_stuck, .int t_longest, .int t_side])), (h_t_chosen, .inl (cI, 3, .inl t_chosen)), (h_p1, .inr (0, [.ref h_p1_x, .ref h_p1_y, .ref h_p1_colour, .ref h_p1_load, .int p1_size, .int p1_centreX, .int p1_centreY])), (h_p1_x, .inl (cI, 24, .inl p1_x)), (h_p1_y, .inl (cI, 24, .inl p1_y))]) (w2 := [(h_t, .inr (7, [.ref h_t_chosen, .ref h_t_mixed, .ref h_t_near, .int t_gone, .int t_stuck, .int t_longest, .int t_side])), (h_t_chosen, .inl (cI, 3, .inl t_chosen)), (h_t_near, .inr (4, [.long t_near_x_45, .long t_near_y_46, .long t_near_lower_47, .long t_near_square_48, .long t_near_squareLower_49, .int t_near_fromX_3, .int t_near_fromY_4])), (h_p1, .inr (0, [.ref h_p1_x, .ref h_p1_y, .ref h_p1_colour, .ref h_p1_load, .int p1_size, .int p1_centreX, .int p1_centreY])), (h_p1_x, .inl (cI, 24, .inl p1_x)), (h_p1_y, .inl (cI, 24, .inl p1_y))]) (va_runV (As := [.long (p1_centreX.toInt64), .long (p1_centreY.toInt64), .long (1 : Int64)]) (rest := []) ⟨hx, hb, hml, hown, hts⟩ (mtX4_offer l dC dI cI cL cB K h_t_near H.size t_near_x t_near_y t_near_lower t_near_square_1 t_near_squareLower_2 t_near_fromX_3 t_near_fromY_4 (p1_centreX.toInt64) (p1_centreY.toInt64) (1 : Int64) r_44 t_near_x_45 t_near_y_46 t_near_lower_47 t_near_square_48 t_near_squareLower_49 hq_50) (cwV 3 hts gv_X7_64 rfl rfl rfl hdV_X4_offer ⟨Nat.le_trans (Nat.le_of_ble_eq_true rfl) hF, Nat.le_trans (Nat.le_of_ble_eq_true rfl) hLo⟩) (cPreV hK hP hD hT [2] rfl rfl (ci := 4) (q0 := 0) rfl rfl) rfl rfl hl.1 rfl (lv_room (Nat.le_of_ble_eq_true rfl)) dX7_look_46 ⟨Nat.zero_le _, Nat.zero_le _⟩) hP hD hS hA [2] [0, 1, 3, 4, 5] [0, 1, 5, 2, 3, 4] rfl rfl rfl rfl rfl rfl (fun H locs hP hD hS => ?_)
    refine lv_pop hx hb dX7_look_49 rfl ?_
    obtain ⟨rfl, rfl, rfl, rfl, rfl, rfl, rfl, rfl⟩ := o8 hf
    exact W.vret hx hb hr (fun t ht hW => ⟨⟨(), rfl, trivial, by rw [ht]; exact hP, hD⟩, hS.F ht⟩) hS.2.2 dX7_look_50
theorem dX4_isAt_0 : decode cX4_isAt 0 = .ok (.iload_n 1, 1) := by decide +kernel
theorem dX4_isAt_1 : decode cX4_isAt 1 = .ok (.i2l, 1) := by decide +kernel
theorem dX4_isAt_2 : decode cX4_isAt 2 = .ok (.aload_n 0, 1) := by decide +kernel
theorem dX4_isAt_3 : decode cX4_isAt 3 = .ok (.getfield 7, 3) := by decide +kernel
theorem dX4_isAt_6 : decode cX4_isAt 6 = .ok (.lmul, 1) := by decide +kernel
theorem dX4_isAt_7 : decode cX4_isAt 7 = .ok (.aload_n 0, 1) := by decide +kernel
theorem dX4_isAt_8 : decode cX4_isAt 8 = .ok (.getfield 54, 3) := by decide +kernel
theorem dX4_isAt_11 : decode cX4_isAt 11 = .ok (.lcmp, 1) := by decide +kernel
theorem dX4_isAt_12 : decode cX4_isAt 12 = .ok (.ifCond .ne 22, 3) := by decide +kernel
theorem dX4_isAt_15 : decode cX4_isAt 15 = .ok (.iload_n 2, 1) := by decide +kernel
theorem dX4_isAt_16 : decode cX4_isAt 16 = .ok (.i2l, 1) := by decide +kernel
theorem dX4_isAt_17 : decode cX4_isAt 17 = .ok (.aload_n 0, 1) := by decide +kernel
theorem dX4_isAt_18 : decode cX4_isAt 18 = .ok (.getfield 7, 3) := by decide +kernel
theorem dX4_isAt_21 : decode cX4_isAt 21 = .ok (.lmul, 1) := by decide +kernel
theorem dX4_isAt_22 : decode cX4_isAt 22 = .ok (.aload_n 0, 1) := by decide +kernel
theorem dX4_isAt_23 : decode cX4_isAt 23 = .ok (.getfield 56, 3) := by decide +kernel
theorem dX4_isAt_26 : decode cX4_isAt 26 = .ok (.lcmp, 1) := by decide +kernel
theorem dX4_isAt_27 : decode cX4_isAt 27 = .ok (.ifCond .ne 7, 3) := by decide +kernel
theorem dX4_isAt_30 : decode cX4_isAt 30 = .ok (.iconst 1, 1) := by decide +kernel
theorem dX4_isAt_31 : decode cX4_isAt 31 = .ok (.goto 4, 3) := by decide +kernel
theorem dX4_isAt_34 : decode cX4_isAt 34 = .ok (.iconst 0, 1) := by decide +kernel
theorem dX4_isAt_35 : decode cX4_isAt 35 = .ok (.ireturn, 1) := by decide +kernel
set_option maxRecDepth 100000 in
set_option maxHeartbeats 4000000 in
theorem mtX4_isAt (l : Launch) (dC : Nat → ClassId) (dI : Nat → Nat → Nat) (cI cL cB : ClassId) (K : Nat) (h_t : Nat) (sz : Nat) (t_x : Int64) (t_y : Int64) (t_lower : Int64) (t_square : Int64) (t_squareLower : Int64) (t_fromX : Int32) (t_fromY : Int32) (a1 : Int32) (a2 : Int32) (o_r : Int32) (hf : fX4_isAt K t_x t_y t_lower a1 a2 = some o_r) : Met l yX4_isAt [Cond.code yX4_isAt cX4_isAt 3 (some .boolean)] ({ frames := 0, cells := 0, slots := 0, locals := 0 }) (va_Pc [.ref h_t, .int a1, .int a2] (cPre dC dI cI cL cB sz [(h_t, .inr (4, [.long t_x, .long t_y, .long t_lower, .long t_square, .long t_squareLower, .int t_fromX, .int t_fromY]))])) (cQi dC dI (va_A [(h_t, .inr (4, [.long t_x, .long t_y, .long t_lower, .long t_square, .long t_squareLower, .int t_fromX, .int t_fromY]))] sz) o_r [(h_t, .inr (4, [.long t_x, .long t_y, .long t_lower, .long t_square, .long t_squareLower, .int t_fromX, .int t_fromY]))]) 0 0 (va_A [(h_t, .inr (4, [.long t_x, .long t_y, .long t_lower, .long t_square, .long t_squareLower, .int t_fromX, .int t_fromY]))] sz) := by
  refine Met.ofW (cc := cX4_isAt) (maxL := 3) (ret := (some .boolean)) (by decide) rfl ?_
  intro p e s m args below meth c s₁ B hml hv
  obtain ⟨rfl, hsz, hP, hK, hD0, hT⟩ := hv
  have hx := B.exec
  have hb := B.bytes
  have hr := B.returns
  have hown : s.vm.findClass RX4 = some m.cls := findClass_of_methodNamed B.named
  have hlocks := B.notSynchronized
  have hts := TB.use hT ([.ref h_t, .int a1, .int a2] : List Value).toArray
  subst hsz
  have hD := hD0.self (sz := s.heap.size)
  generalize hAe : va_A [(h_t, .inr (4, [.long t_x, .long t_y, .long t_lower, .long t_square, .long t_squareLower, .int t_fromX, .int t_fromY]))] s.heap.size = A at hD ⊢
  have hA : ∀ q : Nat, s.heap.size ≤ q → A q := fun q h => by rw [← hAe]; exact Or.inr h
  clear hAe hD0
  have hl := lv_entry ([.ref h_t, .int a1, .int a2]) (n := 3) (Nat.le_of_ble_eq_true rfl)
  rw [lg_entry_eq]
  generalize (lg_sl ([.ref h_t, .int a1, .int a2]) ++ List.replicate (3 - (lg_sl ([.ref h_t, .int a1, .int a2])).length) Slot.unset).toArray = ls at hl ⊢
  have hl : lv_has ls 3 [(0, .ref h_t), (1, .int a1), (2, .int a2)] := hl
  have hF : 0 ≤ (headSpec [Cond.code yX4_isAt cX4_isAt 3 (some .boolean)] ({ frames := 0, cells := 0, slots := 0, locals := 0 })).room.frames := Nat.le_refl _
  have hLo : 0 ≤ (headSpec [Cond.code yX4_isAt cX4_isAt 3 (some .boolean)] ({ frames := 0, cells := 0, slots := 0, locals := 0 })).room.locals := Nat.le_refl _
  have C0 : Sx p (headSpec [Cond.code yX4_isAt cX4_isAt 3 (some .boolean)] ({ frames := 0, cells := 0, slots := 0, locals := 0 })).room s m ([.ref h_t, .int a1, .int a2] : List Value).toArray c cX4_isAt 3 RX4 A dC dI cI cL cB 0 0 := ⟨hx, hb, hml, hown, hts, hK, hT, hA, hF, hLo⟩
  refine startH (A := A) hP (fun H locs hP hS => ?_)
  rw [fX4_isAt] at hf
  refine lv_iload_n hx hb dX4_isAt_0 rfl (lv_at hl 1 rfl) ?_
  refine lv_i2l hx hb dX4_isAt_1 rfl ?_
  refine lv_aload_n hx hb dX4_isAt_2 rfl (lv_at hl 0 rfl) ?_
  refine va_get (D := (dC, dI)) (ci := 4) (v := .long t_lower) (C := RX4) (T := TX4) (N := 7) hx hb hts in_X4 hown hK hP 0 rfl rfl 2 (Nat.le_of_ble_eq_true rfl) (hts _ qf_X4_7) (fun _ h9 => h9) rfl dX4_isAt_3 ?_
  refine lv_lmul hx hb dX4_isAt_6 ?_
  refine lv_aload_n hx hb dX4_isAt_7 rfl (lv_at hl 0 rfl) ?_
  refine va_get (D := (dC, dI)) (ci := 4) (v := .long t_x) (C := RX4) (T := TX4) (N := 7) hx hb hts in_X4 hown hK hP 0 rfl rfl 0 (Nat.le_of_ble_eq_true rfl) (hts _ qf_X4_54) (fun _ h9 => h9) rfl dX4_isAt_8 ?_
  refine W.lcmp hx hb dX4_isAt_11 ?_
  refine lv_if_ne (tgt := 34) hx hb dX4_isAt_12 (by decide) (fun hc => ?_) (fun hc => ?_)
  · replace hf := it_f (fun h9 => hc ((lg_cmp_eq _ _).mpr h9)) hf
    refine lv_iconst (v := (0 : Int32)) hx hb dX4_isAt_34 (by decide) ?_
    obtain rfl := o1 hf
    exact W.zret hx hb hr rfl (fun t ht hW => ⟨⟨_, (), rfl, rfl, by rw [ht]; exact hP, hD⟩, hS.F ht⟩) hS.2.2 dX4_isAt_35
  · replace hf := it_t ((lg_cmp_eq _ _).mp hc) hf
    refine lv_iload_n hx hb dX4_isAt_15 rfl (lv_at hl 2 rfl) ?_
    refine lv_i2l hx hb dX4_isAt_16 rfl ?_
    refine lv_aload_n hx hb dX4_isAt_17 rfl (lv_at hl 0 rfl) ?_
    refine va_get (D := (dC, dI)) (ci := 4) (v := .long t_lower) (C := RX4) (T := TX4) (N := 7) hx hb hts in_X4 hown hK hP 0 rfl rfl 2 (Nat.le_of_ble_eq_true rfl) (hts _ qf_X4_7) (fun _ h9 => h9) rfl dX4_isAt_18 ?_
    refine lv_lmul hx hb dX4_isAt_21 ?_
    refine lv_aload_n hx hb dX4_isAt_22 rfl (lv_at hl 0 rfl) ?_
    refine va_get (D := (dC, dI)) (ci := 4) (v := .long t_y) (C := RX4) (T := TX4) (N := 7) hx hb hts in_X4 hown hK hP 0 rfl rfl 1 (Nat.le_of_ble_eq_true rfl) (hts _ qf_X4_56) (fun _ h9 => h9) rfl dX4_isAt_23 ?_
    refine W.lcmp hx hb dX4_isAt_26 ?_
    refine lv_if_ne (tgt := 34) hx hb dX4_isAt_27 (by decide) (fun hc => ?_) (fun hc => ?_)
    · replace hf := it_f (fun h9 => hc ((lg_cmp_eq _ _).mpr h9)) hf
      refine lv_iconst (v := (0 : Int32)) hx hb dX4_isAt_34 (by decide) ?_
      obtain rfl := o1 hf
      exact W.zret hx hb hr rfl (fun t ht hW => ⟨⟨_, (), rfl, rfl, by rw [ht]; exact hP, hD⟩, hS.F ht⟩) hS.2.2 dX4_isAt_35
    · replace hf := it_t ((lg_cmp_eq _ _).mp hc) hf
      refine lv_iconst (v := (1 : Int32)) hx hb dX4_isAt_30 (by decide) ?_
      refine lv_goto (tgt := 35) hx hb dX4_isAt_31 (by decide) ?_
      obtain rfl := o1 hf
      exact W.zret hx hb hr rfl (fun t ht hW => ⟨⟨_, (), rfl, rfl, by rw [ht]; exact hP, hD⟩, hS.F ht⟩) hS.2.2 dX4_isAt_35
theorem dX7_colourThatGoes_0 : decode cX7_colourThatGoes 0 = .ok (.iconst 0, 1) := by decide +kernel
theorem dX7_colourThatGoes_1 : decode cX7_colourThatGoes 1 = .ok (.istore_n 2, 1) := by decide +kernel
theorem dX7_colourThatGoes_2 : decode cX7_colourThatGoes 2 = .ok (.iload_n 2, 1) := by decide +kernel
theorem dX7_colourThatGoes_3 : decode cX7_colourThatGoes 3 = .ok (.iconst 3, 1) := by decide +kernel
theorem dX7_colourThatGoes_4 : decode cX7_colourThatGoes 4 = .ok (.if_icmp .ge 51, 3) := by decide +kernel
theorem dX7_colourThatGoes_7 : decode cX7_colourThatGoes 7 = .ok (.aload_n 0, 1) := by decide +kernel
theorem dX7_colourThatGoes_8 : decode cX7_colourThatGoes 8 = .ok (.getfield 22, 3) := by decide +kernel
theorem dX7_colourThatGoes_11 : decode cX7_colourThatGoes 11 = .ok (.aload_n 1, 1) := by decide +kernel
theorem dX7_colourThatGoes_12 : decode cX7_colourThatGoes 12 = .ok (.getfield 71, 3) := by decide +kernel
theorem dX7_colourThatGoes_15 : decode cX7_colourThatGoes 15 = .ok (.aload_n 0, 1) := by decide +kernel
theorem dX7_colourThatGoes_16 : decode cX7_colourThatGoes 16 = .ok (.getfield 9, 3) := by decide +kernel
theorem dX7_colourThatGoes_19 : decode cX7_colourThatGoes 19 = .ok (.iload_n 2, 1) := by decide +kernel
theorem dX7_colourThatGoes_20 : decode cX7_colourThatGoes 20 = .ok (.iaload, 1) := by decide +kernel
theorem dX7_colourThatGoes_21 : decode cX7_colourThatGoes 21 = .ok (.iaload, 1) := by decide +kernel
theorem dX7_colourThatGoes_22 : decode cX7_colourThatGoes 22 = .ok (.aload_n 1, 1) := by decide +kernel
theorem dX7_colourThatGoes_23 : decode cX7_colourThatGoes 23 = .ok (.getfield 74, 3) := by decide +kernel
theorem dX7_colourThatGoes_26 : decode cX7_colourThatGoes 26 = .ok (.aload_n 0, 1) := by decide +kernel
theorem dX7_colourThatGoes_27 : decode cX7_colourThatGoes 27 = .ok (.getfield 9, 3) := by decide +kernel
theorem dX7_colourThatGoes_30 : decode cX7_colourThatGoes 30 = .ok (.iload_n 2, 1) := by decide +kernel
theorem dX7_colourThatGoes_31 : decode cX7_colourThatGoes 31 = .ok (.iaload, 1) := by decide +kernel
theorem dX7_colourThatGoes_32 : decode cX7_colourThatGoes 32 = .ok (.iaload, 1) := by decide +kernel
theorem dX7_colourThatGoes_33 : decode cX7_colourThatGoes 33 = .ok (.invokevirtual 109, 3) := by decide +kernel
theorem dX7_colourThatGoes_36 : decode cX7_colourThatGoes 36 = .ok (.ifCond .eq 13, 3) := by decide +kernel
theorem dX7_colourThatGoes_39 : decode cX7_colourThatGoes 39 = .ok (.iload_n 2, 1) := by decide +kernel
theorem dX7_colourThatGoes_40 : decode cX7_colourThatGoes 40 = .ok (.ifCond .ne 7, 3) := by decide +kernel
theorem dX7_colourThatGoes_43 : decode cX7_colourThatGoes 43 = .ok (.iconst 1, 1) := by decide +kernel
theorem dX7_colourThatGoes_44 : decode cX7_colourThatGoes 44 = .ok (.goto 4, 3) := by decide +kernel
theorem dX7_colourThatGoes_47 : decode cX7_colourThatGoes 47 = .ok (.iconst 0, 1) := by decide +kernel
theorem dX7_colourThatGoes_48 : decode cX7_colourThatGoes 48 = .ok (.ireturn, 1) := by decide +kernel
theorem dX7_colourThatGoes_49 : decode cX7_colourThatGoes 49 = .ok (.iinc 2 1, 3) := by decide +kernel
theorem dX7_colourThatGoes_52 : decode cX7_colourThatGoes 52 = .ok (.goto (-50), 3) := by decide +kernel
theorem dX7_colourThatGoes_55 : decode cX7_colourThatGoes 55 = .ok (.iconst 2, 1) := by decide +kernel
theorem dX7_colourThatGoes_56 : decode cX7_colourThatGoes 56 = .ok (.aload_n 0, 1) := by decide +kernel
theorem dX7_colourThatGoes_57 : decode cX7_colourThatGoes 57 = .ok (.getfield 68, 3) := by decide +kernel
theorem dX7_colourThatGoes_60 : decode cX7_colourThatGoes 60 = .ok (.isub, 1) := by decide +kernel
theorem dX7_colourThatGoes_61 : decode cX7_colourThatGoes 61 = .ok (.ireturn, 1) := by decide +kernel
set_option maxRecDepth 100000 in
set_option maxHeartbeats 4000000 in
theorem wX7_colourThatGoes_L2 {p : Program} {l : Launch} {e : Env} {R : Room} {s : State} {m : MethodId} {args : Array Value} {below : List Frame} {meth : Method} {c : Code} {Q : State → Prop} {A : Nat → Prop} {dC : Nat → ClassId} {dI : Nat → Nat → Nat} {cI cL cB : ClassId} {K : Nat} (C0 : Sx p R s m args c cX7_colourThatGoes 3 RX7 A dC dI cI cL cB 1 22) (h_t h_t_chosen h_t_mixed h_t_near h_p1 h_p1_x h_p1_y h_p1_colour h_p1_load : Nat) (t_gone : Int32) (t_stuck : Int32) (t_longest : Int32) (t_side : Int32) (t_chosen : Nat → Int32) (t_near_x : Int64) (t_near_y : Int64) (t_near_lower : Int64) (t_near_square : Int64) (t_near_squareLower : Int64) (t_near_fromX : Int32) (t_near_fromY : Int32) (p1_size : Int32) (p1_centreX : Int32) (p1_centreY : Int32) (p1_x : Nat → Int32) (p1_y : Nat → Int32) : ∀ (n : Nat) (l2 : Int32) (ex : (Int32) ⊕ (Unit)) (H : Heap) (locs : List Loc) (ls : Array Slot), va_P (dC, dI) vwCl [(h_t, .inr (7, [.ref h_t_chosen, .ref h_t_mixed, .ref h_t_near, .int t_gone, .int t_stuck, .int t_longest, .int t_side])), (h_t_chosen, .inl (cI, 3, .inl t_chosen)), (h_t_near, .inr (4, [.long t_near_x, .long t_near_y, .long t_near_lower, .long t_near_square, .long t_near_squareLower, .int t_near_fromX, .int t_near_fromY])), (h_p1, .inr (0, [.ref h_p1_x, .ref h_p1_y, .ref h_p1_colour, .ref h_p1_load, .int p1_size, .int p1_centreX, .int p1_centreY])), (h_p1_x, .inl (cI, 24, .inl p1_x)), (h_p1_y, .inl (cI, 24, .inl p1_y))] H → va_D A [(h_t, .inr (7, [.ref h_t_chosen, .ref h_t_mixed, .ref h_t_near, .int t_gone, .int t_stuck, .int t_longest, .int t_side])), (h_t_chosen, .inl (cI, 3, .inl t_chosen)), (h_t_near, .inr (4, [.long t_near_x, .long t_near_y, .long t_near_lower, .long t_near_square, .long t_near_squareLower, .int t_near_fromX, .int t_near_fromY])), (h_p1, .inr (0, [.ref h_p1_x, .ref h_p1_y, .ref h_p1_colour, .ref h_p1_load, .int p1_size, .int p1_centreX, .int p1_centreY])), (h_p1_x, .inl (cI, 24, .inl p1_x)), (h_p1_y, .inl (cI, 24, .inl p1_y))] → va_S A s.heap H locs → lv_has ls 3 [(0, .ref h_t), (1, .ref h_p1), (2, .int l2)] → fX7_colourThatGoes_L2 K t_chosen t_near_x t_near_y t_near_lower p1_x p1_y n l2 = some ex → (∀ (x2_ : Int32), ex = (.inl x2_) → ∀ (H : Heap) (locs : List Loc) (ls : Array Slot), va_P (dC, dI) vwCl [(h_t, .inr (7, [.ref h_t_chosen, .ref h_t_mixed, .ref h_t_near, .int t_gone, .int t_stuck, .int t_longest, .int t_side])), (h_t_chosen, .inl (cI, 3, .inl t_chosen)), (h_t_near, .inr (4, [.long t_near_x, .long t_near_y, .long t_near_lower, .long t_near_square, .long t_near_squareLower, .int t_near_fromX, .int t_near_fromY])), (h_p1, .inr (0, [.ref h_p1_x, .ref h_p1_y, .ref h_p1_colour, .ref h_p1_load, .int p1_size, .int p1_centreX, .int p1_centreY])), (h_p1_x, .inl (cI, 24, .inl p1_x)), (h_p1_y, .inl (cI, 24, .inl p1_y))] H → va_D A [(h_t, .inr (7, [.ref h_t_chosen, .ref h_t_mixed, .ref h_t_near, .int t_gone, .int t_stuck, .int t_longest, .int t_side])), (h_t_chosen, .inl (cI, 3, .inl t_chosen)), (h_t_near, .inr (4, [.long t_near_x, .long t_near_y, .long t_near_lower, .long t_near_square, .long t_near_squareLower, .int t_near_fromX, .int t_near_fromY])), (h_p1, .inr (0, [.ref h_p1_x, .ref h_p1_y, .ref h_p1_colour, .ref h_p1_load, .int p1_size, .int p1_centreX, .int p1_centreY])), (h_p1_x, .inl (cI, 24, .inl p1_x)), (h_p1_y, .inl (cI, 24, .inl p1_y))] → va_S A s.heap H locs → lv_has ls 3 [(2, .int x2_)] → W p l e R s m args below meth c H locs 0 0 Q (F0 m 39 ls [])) → (∀ (_ : Unit), ex = (.inr ()) → ∀ (H : Heap) (locs : List Loc) (ls : Array Slot), va_P (dC, dI) vwCl [(h_t, .inr (7, [.ref h_t_chosen, .ref h_t_mixed, .ref h_t_near, .int t_gone, .int t_stuck, .int t_longest, .int t_side])), (h_t_chosen, .inl (cI, 3, .inl t_chosen)), (h_t_near, .inr (4, [.long t_near_x, .long t_near_y, .long t_near_lower, .long t_near_square, .long t_near_squareLower, .int t_near_fromX, .int t_near_fromY])), (h_p1, .inr (0, [.ref h_p1_x, .ref h_p1_y, .ref h_p1_colour, .ref h_p1_load, .int p1_size, .int p1_centreX, .int p1_centreY])), (h_p1_x, .inl (cI, 24, .inl p1_x)), (h_p1_y, .inl (cI, 24, .inl p1_y))] H → va_D A [(h_t, .inr (7, [.ref h_t_chosen, .ref h_t_mixed, .ref h_t_near, .int t_gone, .int t_stuck, .int t_longest, .int t_side])), (h_t_chosen, .inl (cI, 3, .inl t_chosen)), (h_t_near, .inr (4, [.long t_near_x, .long t_near_y, .long t_near_lower, .long t_near_square, .long t_near_squareLower, .int t_near_fromX, .int t_near_fromY])), (h_p1, .inr (0, [.ref h_p1_x, .ref h_p1_y, .ref h_p1_colour, .ref h_p1_load, .int p1_size, .int p1_centreX, .int p1_centreY])), (h_p1_x, .inl (cI, 24, .inl p1_x)), (h_p1_y, .inl (cI, 24, .inl p1_y))] → va_S A s.heap H locs → lv_has ls 3 [(0, .ref h_t)] → W p l e R s m args below meth c H locs 0 0 Q (F0 m 55 ls [])) → W p l e R s m args below meth c H locs 0 0 Q (F0 m 2 ls []) := by
  obtain ⟨hx, hb, hml, hown, hts, hK, hT, hA, hF, hLo⟩ := id C0
  intro n
  induction n with
  | zero =>
    intro l2 ex H locs ls hP hD hS hl hf
    rw [fX7_colourThatGoes_L2] at hf
    cases hf
  | succ n ih =>
    intro l2 ex H locs ls hP hD hS hl hf hk0 hk1
    rw [fX7_colourThatGoes_L2] at hf
    refine lv_iload_n hx hb dX7_colourThatGoes_2 rfl (lv_at hl 2 rfl) ?_
    refine lv_iconst (v := (3 : Int32)) hx hb dX7_colourThatGoes_3 (by decide) ?_
    refine lv_icmp_ge (tgt := 55) hx hb dX7_colourThatGoes_4 (by decide) (fun hc => ?_) (fun hc => ?_)
    · replace hf := it_t (hc) hf
      exact hk1 () (Option.some.inj hf).symm H locs ls hP hD hS (lv_sub hl [0] rfl)
    · replace hf := it_f (hc) hf
      refine lv_aload_n hx hb dX7_colourThatGoes_7 rfl (lv_at hl 0 rfl) ?_
      refine va_get (D := (dC, dI)) (ci := 7) (v := .ref h_t_near) (C := RX7) (T := TX7) (N := 7) hx hb hts in_X7 hown hK hP 0 rfl rfl 2 (Nat.le_of_ble_eq_true rfl) (hts _ qf_X7_22) (fun _ h9 => h9) rfl dX7_colourThatGoes_8 ?_
      refine lv_aload_n hx hb dX7_colourThatGoes_11 rfl (lv_at hl 1 rfl) ?_
      refine va_get (D := (dC, dI)) (ci := 0) (v := .ref h_p1_x) (C := RX0) (T := TX0) (N := 7) hx hb hts in_X0 hown hK hP 3 rfl rfl 0 (Nat.le_of_ble_eq_true rfl) (hts _ qf_X7_71) (fun _ h9 => h9) rfl dX7_colourThatGoes_12 ?_
      refine lv_aload_n hx hb dX7_colourThatGoes_15 rfl (lv_at hl 0 rfl) ?_
      refine va_get (D := (dC, dI)) (ci := 7) (v := .ref h_t_chosen) (C := RX7) (T := TX7) (N := 7) hx hb hts in_X7 hown hK hP 0 rfl rfl 0 (Nat.le_of_ble_eq_true rfl) (hts _ qf_X7_9) (fun _ h9 => h9) rfl dX7_colourThatGoes_16 ?_
      refine lv_iload_n hx hb dX7_colourThatGoes_19 rfl (lv_at hl 2 rfl) ?_
      obtain ⟨hg_1, hf⟩ := gd_some hf
      refine va_iald hx hb hK hP 1 0 rfl rfl (inb_in hg_1) dX7_colourThatGoes_20 ?_
      obtain ⟨hg_2, hf⟩ := gd_some hf
      refine va_iald hx hb hK hP 4 0 rfl rfl (inb_in hg_2) dX7_colourThatGoes_21 ?_
      refine lv_aload_n hx hb dX7_colourThatGoes_22 rfl (lv_at hl 1 rfl) ?_
      refine va_get (D := (dC, dI)) (ci := 0) (v := .ref h_p1_y) (C := RX0) (T := TX0) (N := 7) hx hb hts in_X0 hown hK hP 3 rfl rfl 1 (Nat.le_of_ble_eq_true rfl) (hts _ qf_X7_74) (fun _ h9 => h9) rfl dX7_colourThatGoes_23 ?_
      refine lv_aload_n hx hb dX7_colourThatGoes_26 rfl (lv_at hl 0 rfl) ?_
      refine va_get (D := (dC, dI)) (ci := 7) (v := .ref h_t_chosen) (C := RX7) (T := TX7) (N := 7) hx hb hts in_X7 hown hK hP 0 rfl rfl 0 (Nat.le_of_ble_eq_true rfl) (hts _ qf_X7_9) (fun _ h9 => h9) rfl dX7_colourThatGoes_27 ?_
      refine lv_iload_n hx hb dX7_colourThatGoes_30 rfl (lv_at hl 2 rfl) ?_
      obtain ⟨hg_3, hf⟩ := gd_some hf
      refine va_iald hx hb hK hP 1 0 rfl rfl (inb_in hg_3) dX7_colourThatGoes_31 ?_
      obtain ⟨hg_4, hf⟩ := gd_some hf
      refine va_iald hx hb hK hP 5 0 rfl rfl (inb_in hg_4) dX7_colourThatGoes_32 ?_
      obtain ⟨r_5, hq_6, hf⟩ := b1_some hf
      refine xci (wr := [(h_t, .inr (7, [.ref h_t_chosen, .ref h_t_mixed, .ref h_t_near, .int t_gone, .int t_stuck, .int t_longest, .int t_side])), (h_t_chosen, .inl (cI, 3, .inl t_chosen)), (h_p1, .inr (0, [.ref h_p1_x, .ref h_p1_y, .ref h_p1_colour, .ref h_p1_load, .int p1_size, .int p1_centreX, .int p1_centreY])), (h_p1_x, .inl (cI, 24, .inl p1_x)), (h_p1_y, .inl (cI, 24, .inl p1_y))]) (w2 := [(h_t, .inr (7, [.ref h_t_chosen, .ref h_t_mixed, .ref h_t_near, .int t_gone, .int t_stuck, .int t_longest, .int t_side])), (h_t_chosen, .inl (cI, 3, .inl t_chosen)), (h_t_near, .inr (4, [.long t_near_x, .long t_near_y, .long t_near_lower, .long t_near_square, .long t_near_squareLower, .int t_near_fromX, .int t_near_fromY])), (h_p1, .inr (0, [.ref h_p1_x, .ref h_p1_y, .ref h_p1_colour, .ref h_p1_load, .int p1_size, .int p1_centreX, .int p1_centreY])), (h_p1_x, .inl (cI, 24, .inl p1_x)), (h_p1_y, .inl (cI, 24, .inl p1_y))]) (va_runV (As := [.int (p1_x (t_chosen l2.toNatClampNeg).toNatClampNeg), .int (p1_y (t_chosen l2.toNatClampNeg).toNatClampNeg)]) (rest := []) ⟨hx, hb, hml, hown, hts⟩ (mtX4_isAt l dC dI cI cL cB K h_t_near H.size t_near_x t_near_y t_near_lower t_near_square t_near_squareLower t_near_fromX t_near_fromY (p1_x (t_chosen l2.toNatClampNeg).toNatClampNeg) (p1_y (t_chosen l2.toNatClampNeg).toNatClampNeg) r_5 hq_6) (cwV 2 hts gv_X7_109 rfl rfl rfl hdV_X4_isAt ⟨Nat.le_trans (Nat.le_of_ble_eq_true rfl) hF, Nat.le_trans (Nat.le_of_ble_eq_true rfl) hLo⟩) (cPreV hK hP hD hT [2] rfl rfl (ci := 4) (q0 := 0) rfl rfl) rfl rfl hl.1 rfl (lv_room (Nat.le_of_ble_eq_true rfl)) dX7_colourThatGoes_33 ⟨Nat.zero_le _, Nat.zero_le _⟩) hP hD hS hA [2] [0, 1, 3, 4, 5] [0, 1, 5, 2, 3, 4] rfl rfl rfl rfl rfl rfl (fun H locs hP hD hS => ?_)
      refine lv_if_eq (tgt := 49) hx hb dX7_colourThatGoes_36 (by decide) (fun hc => ?_) (fun hc => ?_)
      · replace hf := it_t (hc) hf
        obtain ⟨l2_7, el2_7⟩ : ∃ y : Int32, y = l2 + (1 : Int32) := ⟨_, rfl⟩
        replace hf := xl_at hf el2_7
        refine lv_iinc (v := l2_7) (lv' := [(2, .int l2_7), (0, .ref h_t), (1, .ref h_p1)]) hx hb dX7_colourThatGoes_49 hl (k := 2) rfl (by rw [el2_7]; rfl) (Nat.le_of_ble_eq_true rfl) rfl (fun ls hl => ?_)
        refine lv_goto (tgt := 2) hx hb dX7_colourThatGoes_52 (by decide) ?_
        exact ih l2_7 _ H locs ls hP hD hS (lv_sub hl [1, 2, 0] rfl) hf hk0 hk1
      · replace hf := it_f (hc) hf
        exact hk0 l2 (Option.some.inj hf).symm H locs ls hP hD hS (lv_sub hl [2] rfl)
set_option maxRecDepth 100000 in
set_option maxHeartbeats 4000000 in
theorem mtX7_colourThatGoes (l : Launch) (dC : Nat → ClassId) (dI : Nat → Nat → Nat) (cI cL cB : ClassId) (K : Nat) (h_t h_t_chosen h_t_mixed h_t_near h_p1 h_p1_x h_p1_y h_p1_colour h_p1_load : Nat) (sz : Nat) (t_gone : Int32) (t_stuck : Int32) (t_longest : Int32) (t_side : Int32) (t_chosen : Nat → Int32) (t_near_x : Int64) (t_near_y : Int64) (t_near_lower : Int64) (t_near_square : Int64) (t_near_squareLower : Int64) (t_near_fromX : Int32) (t_near_fromY : Int32) (p1_size : Int32) (p1_centreX : Int32) (p1_centreY : Int32) (p1_x : Nat → Int32) (p1_y : Nat → Int32) (o_r : Int32) (hf : fX7_colourThatGoes K t_side t_chosen t_near_x t_near_y t_near_lower p1_x p1_y = some o_r) : Met l yX7_colourThatGoes [Cond.code yX7_colourThatGoes cX7_colourThatGoes 3 (some .int)] ({ frames := 1, cells := 0, slots := 0, locals := 22 }) (va_Pc [.ref h_t, .ref h_p1] (cPre dC dI cI cL cB sz [(h_t, .inr (7, [.ref h_t_chosen, .ref h_t_mixed, .ref h_t_near, .int t_gone, .int t_stuck, .int t_longest, .int t_side])), (h_t_chosen, .inl (cI, 3, .inl t_chosen)), (h_t_near, .inr (4, [.long t_near_x, .long t_near_y, .long t_near_lower, .long t_near_square, .long t_near_squareLower, .int t_near_fromX, .int t_near_fromY])), (h_p1, .inr (0, [.ref h_p1_x, .ref h_p1_y, .ref h_p1_colour, .ref h_p1_load, .int p1_size, .int p1_centreX, .int p1_centreY])), (h_p1_x, .inl (cI, 24, .inl p1_x)), (h_p1_y, .inl (cI, 24, .inl p1_y))])) (cQi dC dI (va_A [(h_t, .inr (7, [.ref h_t_chosen, .ref h_t_mixed, .ref h_t_near, .int t_gone, .int t_stuck, .int t_longest, .int t_side])), (h_t_chosen, .inl (cI, 3, .inl t_chosen)), (h_t_near, .inr (4, [.long t_near_x, .long t_near_y, .long t_near_lower, .long t_near_square, .long t_near_squareLower, .int t_near_fromX, .int t_near_fromY])), (h_p1, .inr (0, [.ref h_p1_x, .ref h_p1_y, .ref h_p1_colour, .ref h_p1_load, .int p1_size, .int p1_centreX, .int p1_centreY])), (h_p1_x, .inl (cI, 24, .inl p1_x)), (h_p1_y, .inl (cI, 24, .inl p1_y))] sz) o_r [(h_t, .inr (7, [.ref h_t_chosen, .ref h_t_mixed, .ref h_t_near, .int t_gone, .int t_stuck, .int t_longest, .int t_side])), (h_t_chosen, .inl (cI, 3, .inl t_chosen)), (h_t_near, .inr (4, [.long t_near_x, .long t_near_y, .long t_near_lower, .long t_near_square, .long t_near_squareLower, .int t_near_fromX, .int t_near_fromY])), (h_p1, .inr (0, [.ref h_p1_x, .ref h_p1_y, .ref h_p1_colour, .ref h_p1_load, .int p1_size, .int p1_centreX, .int p1_centreY])), (h_p1_x, .inl (cI, 24, .inl p1_x)), (h_p1_y, .inl (cI, 24, .inl p1_y))]) 0 0 (va_A [(h_t, .inr (7, [.ref h_t_chosen, .ref h_t_mixed, .ref h_t_near, .int t_gone, .int t_stuck, .int t_longest, .int t_side])), (h_t_chosen, .inl (cI, 3, .inl t_chosen)), (h_t_near, .inr (4, [.long t_near_x, .long t_near_y, .long t_near_lower, .long t_near_square, .long t_near_squareLower, .int t_near_fromX, .int t_near_fromY])), (h_p1, .inr (0, [.ref h_p1_x, .ref h_p1_y, .ref h_p1_colour, .ref h_p1_load, .int p1_size, .int p1_centreX, .int p1_centreY])), (h_p1_x, .inl (cI, 24, .inl p1_x)), (h_p1_y, .inl (cI, 24, .inl p1_y))] sz) := by
  refine Met.ofW (cc := cX7_colourThatGoes) (maxL := 3) (ret := (some .int)) (by decide) rfl ?_
  intro p e s m args below meth c s₁ B hml hv
  obtain ⟨rfl, hsz, hP, hK, hD0, hT⟩ := hv
  have hx := B.exec
  have hb := B.bytes
  have hr := B.returns
  have hown : s.vm.findClass RX7 = some m.cls := findClass_of_methodNamed B.named
  have hlocks := B.notSynchronized
  have hts := TB.use hT ([.ref h_t, .ref h_p1] : List Value).toArray
  subst hsz
  have hD := hD0.self (sz := s.heap.size)
  generalize hAe : va_A [(h_t, .inr (7, [.ref h_t_chosen, .ref h_t_mixed, .ref h_t_near, .int t_gone, .int t_stuck, .int t_longest, .int t_side])), (h_t_chosen, .inl (cI, 3, .inl t_chosen)), (h_t_near, .inr (4, [.long t_near_x, .long t_near_y, .long t_near_lower, .long t_near_square, .long t_near_squareLower, .int t_near_fromX, .int t_near_fromY])), (h_p1, .inr (0, [.ref h_p1_x, .ref h_p1_y, .ref h_p1_colour, .ref h_p1_load, .int p1_size, .int p1_centreX, .int p1_centreY])), (h_p1_x, .inl (cI, 24, .inl p1_x)), (h_p1_y, .inl (cI, 24, .inl p1_y))] s.heap.size = A at hD ⊢
  have hA : ∀ q : Nat, s.heap.size ≤ q → A q := fun q h => by rw [← hAe]; exact Or.inr h
  clear hAe hD0
  have hl := lv_entry ([.ref h_t, .ref h_p1]) (n := 3) (Nat.le_of_ble_eq_true rfl)
  rw [lg_entry_eq]
  generalize (lg_sl ([.ref h_t, .ref h_p1]) ++ List.replicate (3 - (lg_sl ([.ref h_t, .ref h_p1])).length) Slot.unset).toArray = ls at hl ⊢
  have hl : lv_has ls 3 [(0, .ref h_t), (1, .ref h_p1)] := hl
  have hF : 1 ≤ (headSpec [Cond.code yX7_colourThatGoes cX7_colourThatGoes 3 (some .int)] ({ frames := 1, cells := 0, slots := 0, locals := 22 })).room.frames := Nat.le_refl _
  have hLo : 22 ≤ (headSpec [Cond.code yX7_colourThatGoes cX7_colourThatGoes 3 (some .int)] ({ frames := 1, cells := 0, slots := 0, locals := 22 })).room.locals := Nat.le_refl _
  have C0 : Sx p (headSpec [Cond.code yX7_colourThatGoes cX7_colourThatGoes 3 (some .int)] ({ frames := 1, cells := 0, slots := 0, locals := 22 })).room s m ([.ref h_t, .ref h_p1] : List Value).toArray c cX7_colourThatGoes 3 RX7 A dC dI cI cL cB 1 22 := ⟨hx, hb, hml, hown, hts, hK, hT, hA, hF, hLo⟩
  refine startH (A := A) hP (fun H locs hP hS => ?_)
  rw [fX7_colourThatGoes] at hf
  refine lv_iconst (v := (0 : Int32)) hx hb dX7_colourThatGoes_0 (by decide) ?_
  refine lv_istore_n (lv' := [(2, .int (0 : Int32)), (0, .ref h_t), (1, .ref h_p1)]) hx hb dX7_colourThatGoes_1 rfl hl (Nat.le_of_ble_eq_true rfl) rfl (fun ls hl => ?_)
  obtain ⟨ex_10, hq_8, hf⟩ := sm_some hf
  refine wX7_colourThatGoes_L2 C0 h_t h_t_chosen h_t_mixed h_t_near h_p1 h_p1_x h_p1_y h_p1_colour h_p1_load t_gone t_stuck t_longest t_side t_chosen t_near_x t_near_y t_near_lower t_near_square t_near_squareLower t_near_fromX t_near_fromY p1_size p1_centreX p1_centreY p1_x p1_y K (0 : Int32) ex_10 H locs ls hP hD hS (lv_sub hl [1, 2, 0] rfl) hq_8 ?_ ?_
  · intro l2_9 he H locs ls hP hD hS hl
    subst he
    replace hf := el1 hf
    refine lv_iload_n hx hb dX7_colourThatGoes_39 rfl (lv_at hl 0 rfl) ?_
    refine lv_if_ne (tgt := 47) hx hb dX7_colourThatGoes_40 (by decide) (fun hc => ?_) (fun hc => ?_)
    · replace hf := it_f (hc) hf
      refine lv_iconst (v := (0 : Int32)) hx hb dX7_colourThatGoes_47 (by decide) ?_
      obtain rfl := o1 hf
      exact W.iret hx hb hr (fun t ht hW => ⟨⟨_, (), rfl, rfl, by rw [ht]; exact hP, hD⟩, hS.F ht⟩) hS.2.2 dX7_colourThatGoes_48
    · replace hf := it_t (hc) hf
      refine lv_iconst (v := (1 : Int32)) hx hb dX7_colourThatGoes_43 (by decide) ?_
      refine lv_goto (tgt := 48) hx hb dX7_colourThatGoes_44 (by decide) ?_
      obtain rfl := o1 hf
      exact W.iret hx hb hr (fun t ht hW => ⟨⟨_, (), rfl, rfl, by rw [ht]; exact hP, hD⟩, hS.F ht⟩) hS.2.2 dX7_colourThatGoes_48
  · intro _ he H locs ls hP hD hS hl
    subst he
    replace hf := er0 hf
    refine lv_iconst (v := (2 : Int32)) hx hb dX7_colourThatGoes_55 (by decide) ?_
    refine lv_aload_n hx hb dX7_colourThatGoes_56 rfl (lv_at hl 0 rfl) ?_
    refine va_get (D := (dC, dI)) (ci := 7) (v := .int t_side) (C := RX7) (T := TX7) (N := 7) hx hb hts in_X7 hown hK hP 0 rfl rfl 6 (Nat.le_of_ble_eq_true rfl) (hts _ qf_X7_68) (fun _ h9 => h9) rfl dX7_colourThatGoes_57 ?_
    refine lv_isub hx hb dX7_colourThatGoes_60 ?_
    obtain rfl := o1 hf
    exact W.iret hx hb hr (fun t ht hW => ⟨⟨_, (), rfl, rfl, by rw [ht]; exact hP, hD⟩, hS.F ht⟩) hS.2.2 dX7_colourThatGoes_61
theorem dX7_exchange_0 : decode cX7_exchange 0 = .ok (.aload_n 0, 1) := by decide +kernel
theorem dX7_exchange_1 : decode cX7_exchange 1 = .ok (.aload_n 1, 1) := by decide +kernel
theorem dX7_exchange_2 : decode cX7_exchange 2 = .ok (.invokevirtual 87, 3) := by decide +kernel
theorem dX7_exchange_5 : decode cX7_exchange 5 = .ok (.aload_n 0, 1) := by decide +kernel
theorem dX7_exchange_6 : decode cX7_exchange 6 = .ok (.getfield 22, 3) := by decide +kernel
theorem dX7_exchange_9 : decode cX7_exchange 9 = .ok (.getfield 91, 3) := by decide +kernel
theorem dX7_exchange_12 : decode cX7_exchange 12 = .ok (.lconst 0, 1) := by decide +kernel
theorem dX7_exchange_13 : decode cX7_exchange 13 = .ok (.lcmp, 1) := by decide +kernel
theorem dX7_exchange_14 : decode cX7_exchange 14 = .ok (.ifCond .ne 5, 3) := by decide +kernel
theorem dX7_exchange_17 : decode cX7_exchange 17 = .ok (.iconst 0, 1) := by decide +kernel
theorem dX7_exchange_18 : decode cX7_exchange 18 = .ok (.ireturn, 1) := by decide +kernel
theorem dX7_exchange_19 : decode cX7_exchange 19 = .ok (.aload_n 0, 1) := by decide +kernel
theorem dX7_exchange_20 : decode cX7_exchange 20 = .ok (.aload_n 1, 1) := by decide +kernel
theorem dX7_exchange_21 : decode cX7_exchange 21 = .ok (.invokevirtual 95, 3) := by decide +kernel
theorem dX7_exchange_24 : decode cX7_exchange 24 = .ok (.istore_n 2, 1) := by decide +kernel
theorem dX7_exchange_25 : decode cX7_exchange 25 = .ok (.aload_n 0, 1) := by decide +kernel
theorem dX7_exchange_26 : decode cX7_exchange 26 = .ok (.getfield 22, 3) := by decide +kernel
theorem dX7_exchange_29 : decode cX7_exchange 29 = .ok (.invokevirtual 99, 3) := by decide +kernel
theorem dX7_exchange_32 : decode cX7_exchange 32 = .ok (.lstore_n 3, 1) := by decide +kernel
theorem dX7_exchange_33 : decode cX7_exchange 33 = .ok (.aload_n 0, 1) := by decide +kernel
theorem dX7_exchange_34 : decode cX7_exchange 34 = .ok (.getfield 22, 3) := by decide +kernel
theorem dX7_exchange_37 : decode cX7_exchange 37 = .ok (.invokevirtual 103, 3) := by decide +kernel
theorem dX7_exchange_40 : decode cX7_exchange 40 = .ok (.lstore 5, 2) := by decide +kernel
theorem dX7_exchange_42 : decode cX7_exchange 42 = .ok (.iconst (-1), 1) := by decide +kernel
theorem dX7_exchange_43 : decode cX7_exchange 43 = .ok (.istore 7, 2) := by decide +kernel
theorem dX7_exchange_45 : decode cX7_exchange 45 = .ok (.lconst 0, 1) := by decide +kernel
theorem dX7_exchange_46 : decode cX7_exchange 46 = .ok (.lstore 8, 2) := by decide +kernel
theorem dX7_exchange_48 : decode cX7_exchange 48 = .ok (.iconst 0, 1) := by decide +kernel
theorem dX7_exchange_49 : decode cX7_exchange 49 = .ok (.istore 10, 2) := by decide +kernel
theorem dX7_exchange_51 : decode cX7_exchange 51 = .ok (.iload 10, 2) := by decide +kernel
theorem dX7_exchange_53 : decode cX7_exchange 53 = .ok (.aload_n 1, 1) := by decide +kernel
theorem dX7_exchange_54 : decode cX7_exchange 54 = .ok (.getfield 26, 3) := by decide +kernel
theorem dX7_exchange_57 : decode cX7_exchange 57 = .ok (.if_icmp .ge 76, 3) := by decide +kernel
theorem dX7_exchange_60 : decode cX7_exchange 60 = .ok (.aload_n 1, 1) := by decide +kernel
theorem dX7_exchange_61 : decode cX7_exchange 61 = .ok (.getfield 71, 3) := by decide +kernel
theorem dX7_exchange_64 : decode cX7_exchange 64 = .ok (.iload 10, 2) := by decide +kernel
theorem dX7_exchange_66 : decode cX7_exchange 66 = .ok (.iaload, 1) := by decide +kernel
theorem dX7_exchange_67 : decode cX7_exchange 67 = .ok (.aload_n 1, 1) := by decide +kernel
theorem dX7_exchange_68 : decode cX7_exchange 68 = .ok (.getfield 54, 3) := by decide +kernel
theorem dX7_exchange_71 : decode cX7_exchange 71 = .ok (.isub, 1) := by decide +kernel
theorem dX7_exchange_72 : decode cX7_exchange 72 = .ok (.i2l, 1) := by decide +kernel
theorem dX7_exchange_73 : decode cX7_exchange 73 = .ok (.lload_n 3, 1) := by decide +kernel
theorem dX7_exchange_74 : decode cX7_exchange 74 = .ok (.lmul, 1) := by decide +kernel
theorem dX7_exchange_75 : decode cX7_exchange 75 = .ok (.aload_n 1, 1) := by decide +kernel
theorem dX7_exchange_76 : decode cX7_exchange 76 = .ok (.getfield 74, 3) := by decide +kernel
theorem dX7_exchange_79 : decode cX7_exchange 79 = .ok (.iload 10, 2) := by decide +kernel
theorem dX7_exchange_81 : decode cX7_exchange 81 = .ok (.iaload, 1) := by decide +kernel
theorem dX7_exchange_82 : decode cX7_exchange 82 = .ok (.aload_n 1, 1) := by decide +kernel
theorem dX7_exchange_83 : decode cX7_exchange 83 = .ok (.getfield 57, 3) := by decide +kernel
theorem dX7_exchange_86 : decode cX7_exchange 86 = .ok (.isub, 1) := by decide +kernel
theorem dX7_exchange_87 : decode cX7_exchange 87 = .ok (.i2l, 1) := by decide +kernel
theorem dX7_exchange_88 : decode cX7_exchange 88 = .ok (.lload 5, 2) := by decide +kernel
theorem dX7_exchange_90 : decode cX7_exchange 90 = .ok (.lmul, 1) := by decide +kernel
theorem dX7_exchange_91 : decode cX7_exchange 91 = .ok (.ladd, 1) := by decide +kernel
theorem dX7_exchange_92 : decode cX7_exchange 92 = .ok (.lstore 11, 2) := by decide +kernel
theorem dX7_exchange_94 : decode cX7_exchange 94 = .ok (.aload_n 1, 1) := by decide +kernel
theorem dX7_exchange_95 : decode cX7_exchange 95 = .ok (.getfield 32, 3) := by decide +kernel
theorem dX7_exchange_98 : decode cX7_exchange 98 = .ok (.iload 10, 2) := by decide +kernel
theorem dX7_exchange_100 : decode cX7_exchange 100 = .ok (.iaload, 1) := by decide +kernel
theorem dX7_exchange_101 : decode cX7_exchange 101 = .ok (.iload_n 2, 1) := by decide +kernel
theorem dX7_exchange_102 : decode cX7_exchange 102 = .ok (.if_icmp .ne 25, 3) := by decide +kernel
theorem dX7_exchange_105 : decode cX7_exchange 105 = .ok (.iload 7, 2) := by decide +kernel
theorem dX7_exchange_107 : decode cX7_exchange 107 = .ok (.iconst (-1), 1) := by decide +kernel
theorem dX7_exchange_108 : decode cX7_exchange 108 = .ok (.if_icmp .eq 11, 3) := by decide +kernel
theorem dX7_exchange_111 : decode cX7_exchange 111 = .ok (.lload 11, 2) := by decide +kernel
theorem dX7_exchange_113 : decode cX7_exchange 113 = .ok (.lload 8, 2) := by decide +kernel
theorem dX7_exchange_115 : decode cX7_exchange 115 = .ok (.lcmp, 1) := by decide +kernel
theorem dX7_exchange_116 : decode cX7_exchange 116 = .ok (.ifCond .ge 11, 3) := by decide +kernel
theorem dX7_exchange_119 : decode cX7_exchange 119 = .ok (.iload 10, 2) := by decide +kernel
theorem dX7_exchange_121 : decode cX7_exchange 121 = .ok (.istore 7, 2) := by decide +kernel
theorem dX7_exchange_123 : decode cX7_exchange 123 = .ok (.lload 11, 2) := by decide +kernel
theorem dX7_exchange_125 : decode cX7_exchange 125 = .ok (.lstore 8, 2) := by decide +kernel
theorem dX7_exchange_127 : decode cX7_exchange 127 = .ok (.iinc 10 1, 3) := by decide +kernel
theorem dX7_exchange_130 : decode cX7_exchange 130 = .ok (.goto (-79), 3) := by decide +kernel
theorem dX7_exchange_133 : decode cX7_exchange 133 = .ok (.iload 7, 2) := by decide +kernel
theorem dX7_exchange_135 : decode cX7_exchange 135 = .ok (.iconst (-1), 1) := by decide +kernel
theorem dX7_exchange_136 : decode cX7_exchange 136 = .ok (.if_icmp .eq 26, 3) := by decide +kernel
theorem dX7_exchange_139 : decode cX7_exchange 139 = .ok (.lload 8, 2) := by decide +kernel
theorem dX7_exchange_141 : decode cX7_exchange 141 = .ok (.aload_n 0, 1) := by decide +kernel
theorem dX7_exchange_142 : decode cX7_exchange 142 = .ok (.getfield 22, 3) := by decide +kernel
theorem dX7_exchange_145 : decode cX7_exchange 145 = .ok (.getfield 106, 3) := by decide +kernel
theorem dX7_exchange_148 : decode cX7_exchange 148 = .ok (.lmul, 1) := by decide +kernel
theorem dX7_exchange_149 : decode cX7_exchange 149 = .ok (.lload_n 3, 1) := by decide +kernel
theorem dX7_exchange_150 : decode cX7_exchange 150 = .ok (.lload_n 3, 1) := by decide +kernel
theorem dX7_exchange_151 : decode cX7_exchange 151 = .ok (.lmul, 1) := by decide +kernel
theorem dX7_exchange_152 : decode cX7_exchange 152 = .ok (.lload 5, 2) := by decide +kernel
theorem dX7_exchange_154 : decode cX7_exchange 154 = .ok (.lload 5, 2) := by decide +kernel
theorem dX7_exchange_156 : decode cX7_exchange 156 = .ok (.lmul, 1) := by decide +kernel
theorem dX7_exchange_157 : decode cX7_exchange 157 = .ok (.ladd, 1) := by decide +kernel
theorem dX7_exchange_158 : decode cX7_exchange 158 = .ok (.lcmp, 1) := by decide +kernel
theorem dX7_exchange_159 : decode cX7_exchange 159 = .ok (.ifCond .lt 5, 3) := by decide +kernel
theorem dX7_exchange_162 : decode cX7_exchange 162 = .ok (.iconst 0, 1) := by decide +kernel
theorem dX7_exchange_163 : decode cX7_exchange 163 = .ok (.ireturn, 1) := by decide +kernel
theorem dX7_exchange_164 : decode cX7_exchange 164 = .ok (.aload_n 0, 1) := by decide +kernel
theorem dX7_exchange_165 : decode cX7_exchange 165 = .ok (.getfield 9, 3) := by decide +kernel
theorem dX7_exchange_168 : decode cX7_exchange 168 = .ok (.iload_n 2, 1) := by decide +kernel
theorem dX7_exchange_169 : decode cX7_exchange 169 = .ok (.iload 7, 2) := by decide +kernel
theorem dX7_exchange_171 : decode cX7_exchange 171 = .ok (.iastore, 1) := by decide +kernel
theorem dX7_exchange_172 : decode cX7_exchange 172 = .ok (.aload_n 0, 1) := by decide +kernel
theorem dX7_exchange_173 : decode cX7_exchange 173 = .ok (.iload_n 2, 1) := by decide +kernel
theorem dX7_exchange_174 : decode cX7_exchange 174 = .ok (.putfield 81, 3) := by decide +kernel
theorem dX7_exchange_177 : decode cX7_exchange 177 = .ok (.iconst 1, 1) := by decide +kernel
theorem dX7_exchange_178 : decode cX7_exchange 178 = .ok (.ireturn, 1) := by decide +kernel
set_option maxRecDepth 100000 in
set_option maxHeartbeats 4000000 in
theorem wX7_exchange_L51 {p : Program} {l : Launch} {e : Env} {R : Room} {s : State} {m : MethodId} {args : Array Value} {below : List Frame} {meth : Method} {c : Code} {Q : State → Prop} {A : Nat → Prop} {dC : Nat → ClassId} {dI : Nat → Nat → Nat} {cI cL cB : ClassId} {K : Nat} (C0 : Sx p R s m args c cX7_exchange 13 RX7 A dC dI cI cL cB 3 89) (h_t h_t_chosen h_t_mixed h_t_near h_p1 h_p1_x h_p1_y h_p1_colour h_p1_load : Nat) (t_gone : Int32) (t_stuck : Int32) (t_longest : Int32) (t_side : Int32) (t_chosen : Nat → Int32) (t_near_x : Int64) (t_near_y : Int64) (t_near_lower : Int64) (t_near_square : Int64) (t_near_squareLower : Int64) (t_near_fromX : Int32) (t_near_fromY : Int32) (p1_size : Int32) (p1_centreX : Int32) (p1_centreY : Int32) (p1_x : Nat → Int32) (p1_y : Nat → Int32) (p1_colour : Nat → Int32) (l2 : Int32) (l3 : Int64) (l5 : Int64) : ∀ (n : Nat) (l7 : Int32) (l8 : Int64) (l10 : Int32) (x7_ : Int32) (x8_ : Int64) (H : Heap) (locs : List Loc) (ls : Array Slot), va_P (dC, dI) vwCl [(h_t, .inr (7, [.ref h_t_chosen, .ref h_t_mixed, .ref h_t_near, .int t_gone, .int t_stuck, .int t_longest, .int t_side])), (h_t_chosen, .inl (cI, 3, .inl t_chosen)), (h_t_near, .inr (4, [.long t_near_x, .long t_near_y, .long t_near_lower, .long t_near_square, .long t_near_squareLower, .int t_near_fromX, .int t_near_fromY])), (h_p1, .inr (0, [.ref h_p1_x, .ref h_p1_y, .ref h_p1_colour, .ref h_p1_load, .int p1_size, .int p1_centreX, .int p1_centreY])), (h_p1_x, .inl (cI, 24, .inl p1_x)), (h_p1_y, .inl (cI, 24, .inl p1_y)), (h_p1_colour, .inl (cI, 24, .inl p1_colour))] H → va_D A [(h_t, .inr (7, [.ref h_t_chosen, .ref h_t_mixed, .ref h_t_near, .int t_gone, .int t_stuck, .int t_longest, .int t_side])), (h_t_chosen, .inl (cI, 3, .inl t_chosen)), (h_t_near, .inr (4, [.long t_near_x, .long t_near_y, .long t_near_lower, .long t_near_square, .long t_near_squareLower, .int t_near_fromX, .int t_near_fromY])), (h_p1, .inr (0, [.ref h_p1_x, .ref h_p1_y, .ref h_p1_colour, .ref h_p1_load, .int p1_size, .int p1_centreX, .int p1_centreY])), (h_p1_x, .inl (cI, 24, .inl p1_x)), (h_p1_y, .inl (cI, 24, .inl p1_y)), (h_p1_colour, .inl (cI, 24, .inl p1_colour))] → va_S A s.heap H locs → lv_has ls 13 [(0, .ref h_t), (1, .ref h_p1), (2, .int l2), (3, .long l3), (5, .long l5), (7, .int l7), (8, .long l8), (10, .int l10)] → fX7_exchange_L51 K l2 l3 l5 p1_size p1_centreX p1_centreY p1_x p1_y p1_colour n l7 l8 l10 = some (x7_, x8_) → (∀ (H : Heap) (locs : List Loc) (ls : Array Slot), va_P (dC, dI) vwCl [(h_t, .inr (7, [.ref h_t_chosen, .ref h_t_mixed, .ref h_t_near, .int t_gone, .int t_stuck, .int t_longest, .int t_side])), (h_t_chosen, .inl (cI, 3, .inl t_chosen)), (h_t_near, .inr (4, [.long t_near_x, .long t_near_y, .long t_near_lower, .long t_near_square, .long t_near_squareLower, .int t_near_fromX, .int t_near_fromY])), (h_p1, .inr (0, [.ref h_p1_x, .ref h_p1_y, .ref h_p1_colour, .ref h_p1_load, .int p1_size, .int p1_centreX, .int p1_centreY])), (h_p1_x, .inl (cI, 24, .inl p1_x)), (h_p1_y, .inl (cI, 24, .inl p1_y)), (h_p1_colour, .inl (cI, 24, .inl p1_colour))] H → va_D A [(h_t, .inr (7, [.ref h_t_chosen, .ref h_t_mixed, .ref h_t_near, .int t_gone, .int t_stuck, .int t_longest, .int t_side])), (h_t_chosen, .inl (cI, 3, .inl t_chosen)), (h_t_near, .inr (4, [.long t_near_x, .long t_near_y, .long t_near_lower, .long t_near_square, .long t_near_squareLower, .int t_near_fromX, .int t_near_fromY])), (h_p1, .inr (0, [.ref h_p1_x, .ref h_p1_y, .ref h_p1_colour, .ref h_p1_load, .int p1_size, .int p1_centreX, .int p1_centreY])), (h_p1_x, .inl (cI, 24, .inl p1_x)), (h_p1_y, .inl (cI, 24, .inl p1_y)), (h_p1_colour, .inl (cI, 24, .inl p1_colour))] → va_S A s.heap H locs → lv_has ls 13 [(0, .ref h_t), (2, .int l2), (3, .long l3), (5, .long l5), (7, .int x7_), (8, .long x8_)] → W p l e R s m args below meth c H locs 0 0 Q (F0 m 133 ls [])) → W p l e R s m args below meth c H locs 0 0 Q (F0 m 51 ls []) := by
  obtain ⟨hx, hb, hml, hown, hts, hK, hT, hA, hF, hLo⟩ := id C0
  intro n
  induction n with
  | zero =>
    intro l7 l8 l10 x7_ x8_ H locs ls hP hD hS hl hf
    rw [fX7_exchange_L51] at hf
    cases hf
  | succ n ih =>
    intro l7 l8 l10 x7_ x8_ H locs ls hP hD hS hl hf hk
    rw [fX7_exchange_L51] at hf
    refine lv_iload hx hb dX7_exchange_51 (lv_at hl 7 rfl) ?_
    refine lv_aload_n hx hb dX7_exchange_53 rfl (lv_at hl 1 rfl) ?_
    refine va_get (D := (dC, dI)) (ci := 0) (v := .int p1_size) (C := RX0) (T := TX0) (N := 7) hx hb hts in_X0 hown hK hP 3 rfl rfl 4 (Nat.le_of_ble_eq_true rfl) (hts _ qf_X7_26) (fun _ h9 => h9) rfl dX7_exchange_54 ?_
    refine lv_icmp_ge (tgt := 133) hx hb dX7_exchange_57 (by decide) (fun hc => ?_) (fun hc => ?_)
    · replace hf := it_t (hc) hf
      obtain ⟨rfl, rfl⟩ := o2 hf
      exact hk H locs ls hP hD hS (lv_sub hl [0, 2, 3, 4, 5, 6] rfl)
    · replace hf := it_f (hc) hf
      refine lv_aload_n hx hb dX7_exchange_60 rfl (lv_at hl 1 rfl) ?_
      refine va_get (D := (dC, dI)) (ci := 0) (v := .ref h_p1_x) (C := RX0) (T := TX0) (N := 7) hx hb hts in_X0 hown hK hP 3 rfl rfl 0 (Nat.le_of_ble_eq_true rfl) (hts _ qf_X7_71) (fun _ h9 => h9) rfl dX7_exchange_61 ?_
      refine lv_iload hx hb dX7_exchange_64 (lv_at hl 7 rfl) ?_
      obtain ⟨hg_16, hf⟩ := gd_some hf
      refine va_iald hx hb hK hP 4 0 rfl rfl (inb_in hg_16) dX7_exchange_66 ?_
      refine lv_aload_n hx hb dX7_exchange_67 rfl (lv_at hl 1 rfl) ?_
      refine va_get (D := (dC, dI)) (ci := 0) (v := .int p1_centreX) (C := RX0) (T := TX0) (N := 7) hx hb hts in_X0 hown hK hP 3 rfl rfl 5 (Nat.le_of_ble_eq_true rfl) (hts _ qf_X7_54) (fun _ h9 => h9) rfl dX7_exchange_68 ?_
      refine lv_isub hx hb dX7_exchange_71 ?_
      refine lv_i2l hx hb dX7_exchange_72 rfl ?_
      refine lv_lload_n hx hb dX7_exchange_73 rfl (lv_at hl 3 rfl) ?_
      refine lv_lmul hx hb dX7_exchange_74 ?_
      refine lv_aload_n hx hb dX7_exchange_75 rfl (lv_at hl 1 rfl) ?_
      refine va_get (D := (dC, dI)) (ci := 0) (v := .ref h_p1_y) (C := RX0) (T := TX0) (N := 7) hx hb hts in_X0 hown hK hP 3 rfl rfl 1 (Nat.le_of_ble_eq_true rfl) (hts _ qf_X7_74) (fun _ h9 => h9) rfl dX7_exchange_76 ?_
      refine lv_iload hx hb dX7_exchange_79 (lv_at hl 7 rfl) ?_
      obtain ⟨hg_17, hf⟩ := gd_some hf
      refine va_iald hx hb hK hP 5 0 rfl rfl (inb_in hg_17) dX7_exchange_81 ?_
      refine lv_aload_n hx hb dX7_exchange_82 rfl (lv_at hl 1 rfl) ?_
      refine va_get (D := (dC, dI)) (ci := 0) (v := .int p1_centreY) (C := RX0) (T := TX0) (N := 7) hx hb hts in_X0 hown hK hP 3 rfl rfl 6 (Nat.le_of_ble_eq_true rfl) (hts _ qf_X7_57) (fun _ h9 => h9) rfl dX7_exchange_83 ?_
      refine lv_isub hx hb dX7_exchange_86 ?_
      refine lv_i2l hx hb dX7_exchange_87 rfl ?_
      refine lv_lload hx hb dX7_exchange_88 (lv_at hl 4 rfl) ?_
      refine lv_lmul hx hb dX7_exchange_90 ?_
      refine lv_ladd hx hb dX7_exchange_91 ?_
      refine lv_topl (fun l11_18 el11_18 => ?_)
      replace hf := xl_at hf el11_18
      refine lv_lstore (lv' := [(11, .long l11_18), (0, .ref h_t), (1, .ref h_p1), (2, .int l2), (3, .long l3), (5, .long l5), (7, .int l7), (8, .long l8), (10, .int l10)]) hx hb dX7_exchange_92 hl (Nat.le_of_ble_eq_true rfl) rfl (fun ls hl => ?_)
      refine lv_aload_n hx hb dX7_exchange_94 rfl (lv_at hl 2 rfl) ?_
      refine va_get (D := (dC, dI)) (ci := 0) (v := .ref h_p1_colour) (C := RX0) (T := TX0) (N := 7) hx hb hts in_X0 hown hK hP 3 rfl rfl 2 (Nat.le_of_ble_eq_true rfl) (hts _ qf_X7_32) (fun _ h9 => h9) rfl dX7_exchange_95 ?_
      refine lv_iload hx hb dX7_exchange_98 (lv_at hl 8 rfl) ?_
      obtain ⟨hg_19, hf⟩ := gd_some hf
      refine va_iald hx hb hK hP 6 0 rfl rfl (inb_in hg_19) dX7_exchange_100 ?_
      refine lv_iload_n hx hb dX7_exchange_101 rfl (lv_at hl 3 rfl) ?_
      obtain ⟨k_22, ek_22, hf⟩ := jn_out hf
      have J_23 : ∀ (l7_20 : Int32) (l8_21 : Int64) (H : Heap) (locs : List Loc) (ls : Array Slot), va_P (dC, dI) vwCl [(h_t, .inr (7, [.ref h_t_chosen, .ref h_t_mixed, .ref h_t_near, .int t_gone, .int t_stuck, .int t_longest, .int t_side])), (h_t_chosen, .inl (cI, 3, .inl t_chosen)), (h_t_near, .inr (4, [.long t_near_x, .long t_near_y, .long t_near_lower, .long t_near_square, .long t_near_squareLower, .int t_near_fromX, .int t_near_fromY])), (h_p1, .inr (0, [.ref h_p1_x, .ref h_p1_y, .ref h_p1_colour, .ref h_p1_load, .int p1_size, .int p1_centreX, .int p1_centreY])), (h_p1_x, .inl (cI, 24, .inl p1_x)), (h_p1_y, .inl (cI, 24, .inl p1_y)), (h_p1_colour, .inl (cI, 24, .inl p1_colour))] H → va_D A [(h_t, .inr (7, [.ref h_t_chosen, .ref h_t_mixed, .ref h_t_near, .int t_gone, .int t_stuck, .int t_longest, .int t_side])), (h_t_chosen, .inl (cI, 3, .inl t_chosen)), (h_t_near, .inr (4, [.long t_near_x, .long t_near_y, .long t_near_lower, .long t_near_square, .long t_near_squareLower, .int t_near_fromX, .int t_near_fromY])), (h_p1, .inr (0, [.ref h_p1_x, .ref h_p1_y, .ref h_p1_colour, .ref h_p1_load, .int p1_size, .int p1_centreX, .int p1_centreY])), (h_p1_x, .inl (cI, 24, .inl p1_x)), (h_p1_y, .inl (cI, 24, .inl p1_y)), (h_p1_colour, .inl (cI, 24, .inl p1_colour))] → va_S A s.heap H locs → lv_has ls 13 [(0, .ref h_t), (1, .ref h_p1), (2, .int l2), (3, .long l3), (5, .long l5), (7, .int l7_20), (8, .long l8_21), (10, .int l10)] → k_22 l7_20 l8_21 = some (x7_, x8_) → W p l e R s m args below meth c H locs 0 0 Q (F0 m 127 ls []) := by
        intro l7_20 l8_21 H locs ls hP hD hS hl hf
        rw [ek_22] at hf
        try dsimp only at hf
        obtain ⟨l10_24, el10_24⟩ : ∃ y : Int32, y = l10 + (1 : Int32) := ⟨_, rfl⟩
        replace hf := xl_at hf el10_24
        refine lv_iinc (v := l10_24) (lv' := [(10, .int l10_24), (0, .ref h_t), (1, .ref h_p1), (2, .int l2), (3, .long l3), (5, .long l5), (7, .int l7_20), (8, .long l8_21)]) hx hb dX7_exchange_127 hl (k := 7) rfl (by rw [el10_24]; rfl) (Nat.le_of_ble_eq_true rfl) rfl (fun ls hl => ?_)
        refine lv_goto (tgt := 51) hx hb dX7_exchange_130 (by decide) ?_
        exact ih l7_20 l8_21 l10_24 _ _ H locs ls hP hD hS (lv_sub hl [1, 2, 3, 4, 5, 6, 7, 0] rfl) hf hk
      refine lv_icmp_ne (tgt := 127) hx hb dX7_exchange_102 (by decide) (fun hc => ?_) (fun hc => ?_)
      · replace hf := it_f (hc) hf
        exact J_23 l7 l8 H locs ls hP hD hS (lv_sub hl [1, 2, 3, 4, 5, 6, 7, 8] rfl) hf
      · replace hf := it_t (hc) hf
        refine lv_iload hx hb dX7_exchange_105 (lv_at hl 6 rfl) ?_
        refine lv_iconst (v := (-1 : Int32)) hx hb dX7_exchange_107 (by decide) ?_
        obtain ⟨k_25, ek_25, hf⟩ := jn_out hf
        have J_26 : ∀ (H : Heap) (locs : List Loc) (ls : Array Slot), va_P (dC, dI) vwCl [(h_t, .inr (7, [.ref h_t_chosen, .ref h_t_mixed, .ref h_t_near, .int t_gone, .int t_stuck, .int t_longest, .int t_side])), (h_t_chosen, .inl (cI, 3, .inl t_chosen)), (h_t_near, .inr (4, [.long t_near_x, .long t_near_y, .long t_near_lower, .long t_near_square, .long t_near_squareLower, .int t_near_fromX, .int t_near_fromY])), (h_p1, .inr (0, [.ref h_p1_x, .ref h_p1_y, .ref h_p1_colour, .ref h_p1_load, .int p1_size, .int p1_centreX, .int p1_centreY])), (h_p1_x, .inl (cI, 24, .inl p1_x)), (h_p1_y, .inl (cI, 24, .inl p1_y)), (h_p1_colour, .inl (cI, 24, .inl p1_colour))] H → va_D A [(h_t, .inr (7, [.ref h_t_chosen, .ref h_t_mixed, .ref h_t_near, .int t_gone, .int t_stuck, .int t_longest, .int t_side])), (h_t_chosen, .inl (cI, 3, .inl t_chosen)), (h_t_near, .inr (4, [.long t_near_x, .long t_near_y, .long t_near_lower, .long t_near_square, .long t_near_squareLower, .int t_near_fromX, .int t_near_fromY])), (h_p1, .inr (0, [.ref h_p1_x, .ref h_p1_y, .ref h_p1_colour, .ref h_p1_load, .int p1_size, .int p1_centreX, .int p1_centreY])), (h_p1_x, .inl (cI, 24, .inl p1_x)), (h_p1_y, .inl (cI, 24, .inl p1_y)), (h_p1_colour, .inl (cI, 24, .inl p1_colour))] → va_S A s.heap H locs → lv_has ls 13 [(0, .ref h_t), (1, .ref h_p1), (2, .int l2), (3, .long l3), (5, .long l5), (10, .int l10), (11, .long l11_18)] → k_25 = some (x7_, x8_) → W p l e R s m args below meth c H locs 0 0 Q (F0 m 119 ls []) := by
          intro H locs ls hP hD hS hl hf
          rw [ek_25] at hf
          refine lv_iload hx hb dX7_exchange_119 (lv_at hl 5 rfl) ?_
          refine lv_istore (lv' := [(7, .int l10), (0, .ref h_t), (1, .ref h_p1), (2, .int l2), (3, .long l3), (5, .long l5), (10, .int l10), (11, .long l11_18)]) hx hb dX7_exchange_121 hl (Nat.le_of_ble_eq_true rfl) rfl (fun ls hl => ?_)
          refine lv_lload hx hb dX7_exchange_123 (lv_at hl 7 rfl) ?_
          refine lv_lstore (lv' := [(8, .long l11_18), (7, .int l10), (0, .ref h_t), (1, .ref h_p1), (2, .int l2), (3, .long l3), (5, .long l5), (10, .int l10), (11, .long l11_18)]) hx hb dX7_exchange_125 hl (Nat.le_of_ble_eq_true rfl) rfl (fun ls hl => ?_)
          exact J_23 l10 l11_18 H locs ls hP hD hS (lv_sub hl [2, 3, 4, 5, 6, 1, 0, 7] rfl) hf
        refine lv_icmp_eq (tgt := 119) hx hb dX7_exchange_108 (by decide) (fun hc => ?_) (fun hc => ?_)
        · replace hf := it_t (hc) hf
          exact J_26 H locs ls hP hD hS (lv_sub hl [1, 2, 3, 4, 5, 8, 0] rfl) hf
        · replace hf := it_f (hc) hf
          refine lv_lload hx hb dX7_exchange_111 (lv_at hl 0 rfl) ?_
          refine lv_lload hx hb dX7_exchange_113 (lv_at hl 7 rfl) ?_
          refine W.lcmp hx hb dX7_exchange_115 ?_
          refine lv_if_ge (tgt := 127) hx hb dX7_exchange_116 (by decide) (fun hc => ?_) (fun hc => ?_)
          · replace hf := it_t ((lg_cmp_ge _ _).mp hc) hf
            exact J_23 l7 l8 H locs ls hP hD hS (lv_sub hl [1, 2, 3, 4, 5, 6, 7, 8] rfl) hf
          · replace hf := it_f (fun h9 => hc ((lg_cmp_ge _ _).mpr h9)) hf
            exact J_26 H locs ls hP hD hS (lv_sub hl [1, 2, 3, 4, 5, 8, 0] rfl) hf
set_option maxRecDepth 100000 in
set_option maxHeartbeats 4000000 in
theorem mtX7_exchange (l : Launch) (dC : Nat → ClassId) (dI : Nat → Nat → Nat) (cI cL cB : ClassId) (K : Nat) (h_t h_t_chosen h_t_mixed h_t_near h_p1 h_p1_x h_p1_y h_p1_colour h_p1_load : Nat) (sz : Nat) (t_gone : Int32) (t_stuck : Int32) (t_longest : Int32) (t_side : Int32) (t_chosen : Nat → Int32) (t_near_x : Int64) (t_near_y : Int64) (t_near_lower : Int64) (t_near_square : Int64) (t_near_squareLower : Int64) (t_near_fromX : Int32) (t_near_fromY : Int32) (p1_size : Int32) (p1_centreX : Int32) (p1_centreY : Int32) (p1_x : Nat → Int32) (p1_y : Nat → Int32) (p1_colour : Nat → Int32) (o_r : Int32) (o_t_gone : Int32) (o_t_side : Int32) (o_t_chosen : Nat → Int32) (o_t_near_x : Int64) (o_t_near_y : Int64) (o_t_near_lower : Int64) (o_t_near_square : Int64) (o_t_near_squareLower : Int64) (o_t_near_fromX : Int32) (o_t_near_fromY : Int32) (hf : fX7_exchange K t_gone t_side t_chosen t_near_x t_near_y t_near_lower t_near_square t_near_squareLower t_near_fromX t_near_fromY p1_size p1_centreX p1_centreY p1_x p1_y p1_colour = some (o_r, o_t_gone, o_t_side, o_t_chosen, o_t_near_x, o_t_near_y, o_t_near_lower, o_t_near_square, o_t_near_squareLower, o_t_near_fromX, o_t_near_fromY)) : Met l yX7_exchange [Cond.code yX7_exchange cX7_exchange 13 (some .boolean)] ({ frames := 3, cells := 0, slots := 0, locals := 89 }) (va_Pc [.ref h_t, .ref h_p1] (cPre dC dI cI cL cB sz [(h_t, .inr (7, [.ref h_t_chosen, .ref h_t_mixed, .ref h_t_near, .int t_gone, .int t_stuck, .int t_longest, .int t_side])), (h_t_chosen, .inl (cI, 3, .inl t_chosen)), (h_t_near, .inr (4, [.long t_near_x, .long t_near_y, .long t_near_lower, .long t_near_square, .long t_near_squareLower, .int t_near_fromX, .int t_near_fromY])), (h_p1, .inr (0, [.ref h_p1_x, .ref h_p1_y, .ref h_p1_colour, .ref h_p1_load, .int p1_size, .int p1_centreX, .int p1_centreY])), (h_p1_x, .inl (cI, 24, .inl p1_x)), (h_p1_y, .inl (cI, 24, .inl p1_y)), (h_p1_colour, .inl (cI, 24, .inl p1_colour))])) (cQi dC dI (va_A [(h_t, .inr (7, [.ref h_t_chosen, .ref h_t_mixed, .ref h_t_near, .int t_gone, .int t_stuck, .int t_longest, .int t_side])), (h_t_chosen, .inl (cI, 3, .inl t_chosen)), (h_t_near, .inr (4, [.long t_near_x, .long t_near_y, .long t_near_lower, .long t_near_square, .long t_near_squareLower, .int t_near_fromX, .int t_near_fromY])), (h_p1, .inr (0, [.ref h_p1_x, .ref h_p1_y, .ref h_p1_colour, .ref h_p1_load, .int p1_size, .int p1_centreX, .int p1_centreY])), (h_p1_x, .inl (cI, 24, .inl p1_x)), (h_p1_y, .inl (cI, 24, .inl p1_y)), (h_p1_colour, .inl (cI, 24, .inl p1_colour))] sz) o_r [(h_t, .inr (7, [.ref h_t_chosen, .ref h_t_mixed, .ref h_t_near, .int o_t_gone, .int t_stuck, .int t_longest, .int o_t_side])), (h_t_chosen, .inl (cI, 3, .inl o_t_chosen)), (h_t_near, .inr (4, [.long o_t_near_x, .long o_t_near_y, .long o_t_near_lower, .long o_t_near_square, .long o_t_near_squareLower, .int o_t_near_fromX, .int o_t_near_fromY])), (h_p1, .inr (0, [.ref h_p1_x, .ref h_p1_y, .ref h_p1_colour, .ref h_p1_load, .int p1_size, .int p1_centreX, .int p1_centreY])), (h_p1_x, .inl (cI, 24, .inl p1_x)), (h_p1_y, .inl (cI, 24, .inl p1_y)), (h_p1_colour, .inl (cI, 24, .inl p1_colour))]) 0 0 (va_A [(h_t, .inr (7, [.ref h_t_chosen, .ref h_t_mixed, .ref h_t_near, .int t_gone, .int t_stuck, .int t_longest, .int t_side])), (h_t_chosen, .inl (cI, 3, .inl t_chosen)), (h_t_near, .inr (4, [.long t_near_x, .long t_near_y, .long t_near_lower, .long t_near_square, .long t_near_squareLower, .int t_near_fromX, .int t_near_fromY])), (h_p1, .inr (0, [.ref h_p1_x, .ref h_p1_y, .ref h_p1_colour, .ref h_p1_load, .int p1_size, .int p1_centreX, .int p1_centreY])), (h_p1_x, .inl (cI, 24, .inl p1_x)), (h_p1_y, .inl (cI, 24, .inl p1_y)), (h_p1_colour, .inl (cI, 24, .inl p1_colour))] sz) := by
  refine Met.ofW (cc := cX7_exchange) (maxL := 13) (ret := (some .boolean)) (by decide) rfl ?_
  intro p e s m args below meth c s₁ B hml hv
  obtain ⟨rfl, hsz, hP, hK, hD0, hT⟩ := hv
  have hx := B.exec
  have hb := B.bytes
  have hr := B.returns
  have hown : s.vm.findClass RX7 = some m.cls := findClass_of_methodNamed B.named
  have hlocks := B.notSynchronized
  have hts := TB.use hT ([.ref h_t, .ref h_p1] : List Value).toArray
  subst hsz
  have hD := hD0.self (sz := s.heap.size)
  generalize hAe : va_A [(h_t, .inr (7, [.ref h_t_chosen, .ref h_t_mixed, .ref h_t_near, .int t_gone, .int t_stuck, .int t_longest, .int t_side])), (h_t_chosen, .inl (cI, 3, .inl t_chosen)), (h_t_near, .inr (4, [.long t_near_x, .long t_near_y, .long t_near_lower, .long t_near_square, .long t_near_squareLower, .int t_near_fromX, .int t_near_fromY])), (h_p1, .inr (0, [.ref h_p1_x, .ref h_p1_y, .ref h_p1_colour, .ref h_p1_load, .int p1_size, .int p1_centreX, .int p1_centreY])), (h_p1_x, .inl (cI, 24, .inl p1_x)), (h_p1_y, .inl (cI, 24, .inl p1_y)), (h_p1_colour, .inl (cI, 24, .inl p1_colour))] s.heap.size = A at hD ⊢
  have hA : ∀ q : Nat, s.heap.size ≤ q → A q := fun q h => by rw [← hAe]; exact Or.inr h
  clear hAe hD0
  have hl := lv_entry ([.ref h_t, .ref h_p1]) (n := 13) (Nat.le_of_ble_eq_true rfl)
  rw [lg_entry_eq]
  generalize (lg_sl ([.ref h_t, .ref h_p1]) ++ List.replicate (13 - (lg_sl ([.ref h_t, .ref h_p1])).length) Slot.unset).toArray = ls at hl ⊢
  have hl : lv_has ls 13 [(0, .ref h_t), (1, .ref h_p1)] := hl
  have hF : 3 ≤ (headSpec [Cond.code yX7_exchange cX7_exchange 13 (some .boolean)] ({ frames := 3, cells := 0, slots := 0, locals := 89 })).room.frames := Nat.le_refl _
  have hLo : 89 ≤ (headSpec [Cond.code yX7_exchange cX7_exchange 13 (some .boolean)] ({ frames := 3, cells := 0, slots := 0, locals := 89 })).room.locals := Nat.le_refl _
  have C0 : Sx p (headSpec [Cond.code yX7_exchange cX7_exchange 13 (some .boolean)] ({ frames := 3, cells := 0, slots := 0, locals := 89 })).room s m ([.ref h_t, .ref h_p1] : List Value).toArray c cX7_exchange 13 RX7 A dC dI cI cL cB 3 89 := ⟨hx, hb, hml, hown, hts, hK, hT, hA, hF, hLo⟩
  refine startH (A := A) hP (fun H locs hP hS => ?_)
  rw [fX7_exchange] at hf
  refine lv_aload_n hx hb dX7_exchange_0 rfl (lv_at hl 0 rfl) ?_
  refine lv_aload_n hx hb dX7_exchange_1 rfl (lv_at hl 1 rfl) ?_
  obtain ⟨t_side_1, t_near_x_2, t_near_y_3, t_near_lower_4, t_near_square_5, t_near_squareLower_6, t_near_fromX_7, t_near_fromY_8, hq_9, hf⟩ := b8_some hf
  refine xcv (wr := [(h_p1_colour, .inl (cI, 24, .inl p1_colour))]) (w2 := [(h_t, .inr (7, [.ref h_t_chosen, .ref h_t_mixed, .ref h_t_near, .int t_gone, .int t_stuck, .int t_longest, .int t_side_1])), (h_t_chosen, .inl (cI, 3, .inl t_chosen)), (h_t_near, .inr (4, [.long t_near_x_2, .long t_near_y_3, .long t_near_lower_4, .long t_near_square_5, .long t_near_squareLower_6, .int t_near_fromX_7, .int t_near_fromY_8])), (h_p1, .inr (0, [.ref h_p1_x, .ref h_p1_y, .ref h_p1_colour, .ref h_p1_load, .int p1_size, .int p1_centreX, .int p1_centreY])), (h_p1_x, .inl (cI, 24, .inl p1_x)), (h_p1_y, .inl (cI, 24, .inl p1_y)), (h_p1_colour, .inl (cI, 24, .inl p1_colour))]) (va_runV (As := [.ref h_p1]) (rest := []) ⟨hx, hb, hml, hown, hts⟩ (mtX7_look l dC dI cI cL cB K h_t h_t_chosen h_t_mixed h_t_near h_p1 h_p1_x h_p1_y h_p1_colour h_p1_load H.size t_gone t_stuck t_longest t_side t_chosen t_near_x t_near_y t_near_lower t_near_square t_near_squareLower t_near_fromX t_near_fromY p1_size p1_centreX p1_centreY p1_x p1_y t_side_1 t_near_x_2 t_near_y_3 t_near_lower_4 t_near_square_5 t_near_squareLower_6 t_near_fromX_7 t_near_fromY_8 hq_9) (cwV 1 hts gv_X7_87 rfl rfl rfl hdV_X7_look ⟨Nat.le_trans (Nat.le_of_ble_eq_true rfl) hF, Nat.le_trans (Nat.le_of_ble_eq_true rfl) hLo⟩) (cPreV hK hP hD hT [0, 1, 2, 3, 4, 5] rfl rfl (ci := 7) (q0 := 0) rfl rfl) rfl rfl hl.1 rfl (lv_room (Nat.le_of_ble_eq_true rfl)) dX7_exchange_2 ⟨Nat.zero_le _, Nat.zero_le _⟩) hP hD hS hA [0, 1, 2, 3, 4, 5] [6] [1, 2, 3, 4, 5, 6, 0] rfl rfl rfl rfl rfl rfl (fun H locs hP hD hS => ?_)
  refine lv_aload_n hx hb dX7_exchange_5 rfl (lv_at hl 0 rfl) ?_
  refine va_get (D := (dC, dI)) (ci := 7) (v := .ref h_t_near) (C := RX7) (T := TX7) (N := 7) hx hb hts in_X7 hown hK hP 0 rfl rfl 2 (Nat.le_of_ble_eq_true rfl) (hts _ qf_X7_22) (fun _ h9 => h9) rfl dX7_exchange_6 ?_
  refine va_get (D := (dC, dI)) (ci := 4) (v := .long t_near_square_5) (C := RX4) (T := TX4) (N := 7) hx hb hts in_X4 hown hK hP 2 rfl rfl 3 (Nat.le_of_ble_eq_true rfl) (hts _ qf_X7_91) (fun _ h9 => h9) rfl dX7_exchange_9 ?_
  refine lv_lconst (v := (0 : Int64)) hx hb dX7_exchange_12 (by decide) ?_
  refine W.lcmp hx hb dX7_exchange_13 ?_
  refine lv_if_ne (tgt := 19) hx hb dX7_exchange_14 (by decide) (fun hc => ?_) (fun hc => ?_)
  · replace hf := it_f (fun h9 => hc ((lg_cmp_eq _ _).mpr h9)) hf
    refine lv_aload_n hx hb dX7_exchange_19 rfl (lv_at hl 0 rfl) ?_
    refine lv_aload_n hx hb dX7_exchange_20 rfl (lv_at hl 1 rfl) ?_
    obtain ⟨r_10, hq_11, hf⟩ := b1_some hf
    refine xci (wr := [(h_p1_colour, .inl (cI, 24, .inl p1_colour))]) (w2 := [(h_t, .inr (7, [.ref h_t_chosen, .ref h_t_mixed, .ref h_t_near, .int t_gone, .int t_stuck, .int t_longest, .int t_side_1])), (h_t_chosen, .inl (cI, 3, .inl t_chosen)), (h_t_near, .inr (4, [.long t_near_x_2, .long t_near_y_3, .long t_near_lower_4, .long t_near_square_5, .long t_near_squareLower_6, .int t_near_fromX_7, .int t_near_fromY_8])), (h_p1, .inr (0, [.ref h_p1_x, .ref h_p1_y, .ref h_p1_colour, .ref h_p1_load, .int p1_size, .int p1_centreX, .int p1_centreY])), (h_p1_x, .inl (cI, 24, .inl p1_x)), (h_p1_y, .inl (cI, 24, .inl p1_y)), (h_p1_colour, .inl (cI, 24, .inl p1_colour))]) (va_runV (As := [.ref h_p1]) (rest := []) ⟨hx, hb, hml, hown, hts⟩ (mtX7_colourThatGoes l dC dI cI cL cB K h_t h_t_chosen h_t_mixed h_t_near h_p1 h_p1_x h_p1_y h_p1_colour h_p1_load H.size t_gone t_stuck t_longest t_side_1 t_chosen t_near_x_2 t_near_y_3 t_near_lower_4 t_near_square_5 t_near_squareLower_6 t_near_fromX_7 t_near_fromY_8 p1_size p1_centreX p1_centreY p1_x p1_y r_10 hq_11) (cwV 1 hts gv_X7_95 rfl rfl rfl hdV_X7_colourThatGoes ⟨Nat.le_trans (Nat.le_of_ble_eq_true rfl) hF, Nat.le_trans (Nat.le_of_ble_eq_true rfl) hLo⟩) (cPreV hK hP hD hT [0, 1, 2, 3, 4, 5] rfl rfl (ci := 7) (q0 := 0) rfl rfl) rfl rfl hl.1 rfl (lv_room (Nat.le_of_ble_eq_true rfl)) dX7_exchange_21 ⟨Nat.zero_le _, Nat.zero_le _⟩) hP hD hS hA [0, 1, 2, 3, 4, 5] [6] [1, 2, 3, 4, 5, 6, 0] rfl rfl rfl rfl rfl rfl (fun H locs hP hD hS => ?_)
    refine lv_istore_n (lv' := [(2, .int r_10), (0, .ref h_t), (1, .ref h_p1)]) hx hb dX7_exchange_24 rfl hl (Nat.le_of_ble_eq_true rfl) rfl (fun ls hl => ?_)
    refine lv_aload_n hx hb dX7_exchange_25 rfl (lv_at hl 1 rfl) ?_
    refine va_get (D := (dC, dI)) (ci := 7) (v := .ref h_t_near) (C := RX7) (T := TX7) (N := 7) hx hb hts in_X7 hown hK hP 0 rfl rfl 2 (Nat.le_of_ble_eq_true rfl) (hts _ qf_X7_22) (fun _ h9 => h9) rfl dX7_exchange_26 ?_
    obtain ⟨r_12, hq_13, hf⟩ := b1_some hf
    refine xcl (wr := [(h_t, .inr (7, [.ref h_t_chosen, .ref h_t_mixed, .ref h_t_near, .int t_gone, .int t_stuck, .int t_longest, .int t_side_1])), (h_t_chosen, .inl (cI, 3, .inl t_chosen)), (h_p1, .inr (0, [.ref h_p1_x, .ref h_p1_y, .ref h_p1_colour, .ref h_p1_load, .int p1_size, .int p1_centreX, .int p1_centreY])), (h_p1_x, .inl (cI, 24, .inl p1_x)), (h_p1_y, .inl (cI, 24, .inl p1_y)), (h_p1_colour, .inl (cI, 24, .inl p1_colour))]) (w2 := [(h_t, .inr (7, [.ref h_t_chosen, .ref h_t_mixed, .ref h_t_near, .int t_gone, .int t_stuck, .int t_longest, .int t_side_1])), (h_t_chosen, .inl (cI, 3, .inl t_chosen)), (h_t_near, .inr (4, [.long t_near_x_2, .long t_near_y_3, .long t_near_lower_4, .long t_near_square_5, .long t_near_squareLower_6, .int t_near_fromX_7, .int t_near_fromY_8])), (h_p1, .inr (0, [.ref h_p1_x, .ref h_p1_y, .ref h_p1_colour, .ref h_p1_load, .int p1_size, .int p1_centreX, .int p1_centreY])), (h_p1_x, .inl (cI, 24, .inl p1_x)), (h_p1_y, .inl (cI, 24, .inl p1_y)), (h_p1_colour, .inl (cI, 24, .inl p1_colour))]) (va_runV (As := []) (rest := []) ⟨hx, hb, hml, hown, hts⟩ (mtX4_wayX l dC dI cI cL cB K h_t_near H.size t_near_x_2 t_near_y_3 t_near_lower_4 t_near_square_5 t_near_squareLower_6 t_near_fromX_7 t_near_fromY_8 r_12 hq_13) (cwV 0 hts gv_X7_99 rfl rfl rfl hdV_X4_wayX ⟨Nat.le_trans (Nat.le_of_ble_eq_true rfl) hF, Nat.le_trans (Nat.le_of_ble_eq_true rfl) hLo⟩) (cPreV hK hP hD hT [2] rfl rfl (ci := 4) (q0 := 0) rfl rfl) rfl rfl hl.1 rfl (lv_room (Nat.le_of_ble_eq_true rfl)) dX7_exchange_29 ⟨Nat.zero_le _, Nat.zero_le _⟩) hP hD hS hA [2] [0, 1, 3, 4, 5, 6] [0, 1, 6, 2, 3, 4, 5] rfl rfl rfl rfl rfl rfl (fun H locs hP hD hS => ?_)
    refine lv_lstore_n (lv' := [(3, .long r_12), (2, .int r_10), (0, .ref h_t), (1, .ref h_p1)]) hx hb dX7_exchange_32 rfl hl (Nat.le_of_ble_eq_true rfl) rfl (fun ls hl => ?_)
    refine lv_aload_n hx hb dX7_exchange_33 rfl (lv_at hl 2 rfl) ?_
    refine va_get (D := (dC, dI)) (ci := 7) (v := .ref h_t_near) (C := RX7) (T := TX7) (N := 7) hx hb hts in_X7 hown hK hP 0 rfl rfl 2 (Nat.le_of_ble_eq_true rfl) (hts _ qf_X7_22) (fun _ h9 => h9) rfl dX7_exchange_34 ?_
    obtain ⟨r_14, hq_15, hf⟩ := b1_some hf
    refine xcl (wr := [(h_t, .inr (7, [.ref h_t_chosen, .ref h_t_mixed, .ref h_t_near, .int t_gone, .int t_stuck, .int t_longest, .int t_side_1])), (h_t_chosen, .inl (cI, 3, .inl t_chosen)), (h_p1, .inr (0, [.ref h_p1_x, .ref h_p1_y, .ref h_p1_colour, .ref h_p1_load, .int p1_size, .int p1_centreX, .int p1_centreY])), (h_p1_x, .inl (cI, 24, .inl p1_x)), (h_p1_y, .inl (cI, 24, .inl p1_y)), (h_p1_colour, .inl (cI, 24, .inl p1_colour))]) (w2 := [(h_t, .inr (7, [.ref h_t_chosen, .ref h_t_mixed, .ref h_t_near, .int t_gone, .int t_stuck, .int t_longest, .int t_side_1])), (h_t_chosen, .inl (cI, 3, .inl t_chosen)), (h_t_near, .inr (4, [.long t_near_x_2, .long t_near_y_3, .long t_near_lower_4, .long t_near_square_5, .long t_near_squareLower_6, .int t_near_fromX_7, .int t_near_fromY_8])), (h_p1, .inr (0, [.ref h_p1_x, .ref h_p1_y, .ref h_p1_colour, .ref h_p1_load, .int p1_size, .int p1_centreX, .int p1_centreY])), (h_p1_x, .inl (cI, 24, .inl p1_x)), (h_p1_y, .inl (cI, 24, .inl p1_y)), (h_p1_colour, .inl (cI, 24, .inl p1_colour))]) (va_runV (As := []) (rest := []) ⟨hx, hb, hml, hown, hts⟩ (mtX4_wayY l dC dI cI cL cB K h_t_near H.size t_near_x_2 t_near_y_3 t_near_lower_4 t_near_square_5 t_near_squareLower_6 t_near_fromX_7 t_near_fromY_8 r_14 hq_15) (cwV 0 hts gv_X7_103 rfl rfl rfl hdV_X4_wayY ⟨Nat.le_trans (Nat.le_of_ble_eq_true rfl) hF, Nat.le_trans (Nat.le_of_ble_eq_true rfl) hLo⟩) (cPreV hK hP hD hT [2] rfl rfl (ci := 4) (q0 := 0) rfl rfl) rfl rfl hl.1 rfl (lv_room (Nat.le_of_ble_eq_true rfl)) dX7_exchange_37 ⟨Nat.zero_le _, Nat.zero_le _⟩) hP hD hS hA [2] [0, 1, 3, 4, 5, 6] [0, 1, 6, 2, 3, 4, 5] rfl rfl rfl rfl rfl rfl (fun H locs hP hD hS => ?_)
    refine lv_lstore (lv' := [(5, .long r_14), (3, .long r_12), (2, .int r_10), (0, .ref h_t), (1, .ref h_p1)]) hx hb dX7_exchange_40 hl (Nat.le_of_ble_eq_true rfl) rfl (fun ls hl => ?_)
    refine lv_iconst (v := (-1 : Int32)) hx hb dX7_exchange_42 (by decide) ?_
    refine lv_istore (lv' := [(7, .int (-1 : Int32)), (5, .long r_14), (3, .long r_12), (2, .int r_10), (0, .ref h_t), (1, .ref h_p1)]) hx hb dX7_exchange_43 hl (Nat.le_of_ble_eq_true rfl) rfl (fun ls hl => ?_)
    refine lv_lconst (v := (0 : Int64)) hx hb dX7_exchange_45 (by decide) ?_
    refine lv_lstore (lv' := [(8, .long (0 : Int64)), (7, .int (-1 : Int32)), (5, .long r_14), (3, .long r_12), (2, .int r_10), (0, .ref h_t), (1, .ref h_p1)]) hx hb dX7_exchange_46 hl (Nat.le_of_ble_eq_true rfl) rfl (fun ls hl => ?_)
    refine lv_iconst (v := (0 : Int32)) hx hb dX7_exchange_48 (by decide) ?_
    refine lv_istore (lv' := [(10, .int (0 : Int32)), (8, .long (0 : Int64)), (7, .int (-1 : Int32)), (5, .long r_14), (3, .long r_12), (2, .int r_10), (0, .ref h_t), (1, .ref h_p1)]) hx hb dX7_exchange_49 hl (Nat.le_of_ble_eq_true rfl) rfl (fun ls hl => ?_)
    obtain ⟨l7_28, l8_29, hq_27, hf⟩ := b2_some hf
    refine wX7_exchange_L51 C0 h_t h_t_chosen h_t_mixed h_t_near h_p1 h_p1_x h_p1_y h_p1_colour h_p1_load t_gone t_stuck t_longest t_side_1 t_chosen t_near_x_2 t_near_y_3 t_near_lower_4 t_near_square_5 t_near_squareLower_6 t_near_fromX_7 t_near_fromY_8 p1_size p1_centreX p1_centreY p1_x p1_y p1_colour r_10 r_12 r_14 K (-1 : Int32) (0 : Int64) (0 : Int32) l7_28 l8_29 H locs ls hP hD hS (lv_sub hl [6, 7, 5, 4, 3, 2, 1, 0] rfl) hq_27 ?_
    intro H locs ls hP hD hS hl
    refine lv_iload hx hb dX7_exchange_133 (lv_at hl 4 rfl) ?_
    refine lv_iconst (v := (-1 : Int32)) hx hb dX7_exchange_135 (by decide) ?_
    refine lv_icmp_eq (tgt := 162) hx hb dX7_exchange_136 (by decide) (fun hc => ?_) (fun hc => ?_)
    · replace hf := it_t (hc) hf
      refine lv_iconst (v := (0 : Int32)) hx hb dX7_exchange_162 (by decide) ?_
      obtain ⟨rfl, rfl, rfl, rfl, rfl, rfl, rfl, rfl, rfl, rfl, rfl⟩ := o11 hf
      exact W.zret hx hb hr rfl (fun t ht hW => ⟨⟨_, (), rfl, rfl, by rw [ht]; exact hP, hD⟩, hS.F ht⟩) hS.2.2 dX7_exchange_163
    · replace hf := it_f (hc) hf
      refine lv_lload hx hb dX7_exchange_139 (lv_at hl 5 rfl) ?_
      refine lv_aload_n hx hb dX7_exchange_141 rfl (lv_at hl 0 rfl) ?_
      refine va_get (D := (dC, dI)) (ci := 7) (v := .ref h_t_near) (C := RX7) (T := TX7) (N := 7) hx hb hts in_X7 hown hK hP 0 rfl rfl 2 (Nat.le_of_ble_eq_true rfl) (hts _ qf_X7_22) (fun _ h9 => h9) rfl dX7_exchange_142 ?_
      refine va_get (D := (dC, dI)) (ci := 4) (v := .long t_near_lower_4) (C := RX4) (T := TX4) (N := 7) hx hb hts in_X4 hown hK hP 2 rfl rfl 2 (Nat.le_of_ble_eq_true rfl) (hts _ qf_X7_106) (fun _ h9 => h9) rfl dX7_exchange_145 ?_
      refine lv_lmul hx hb dX7_exchange_148 ?_
      refine lv_lload_n hx hb dX7_exchange_149 rfl (lv_at hl 2 rfl) ?_
      refine lv_lload_n hx hb dX7_exchange_150 rfl (lv_at hl 2 rfl) ?_
      refine lv_lmul hx hb dX7_exchange_151 ?_
      refine lv_lload hx hb dX7_exchange_152 (lv_at hl 3 rfl) ?_
      refine lv_lload hx hb dX7_exchange_154 (lv_at hl 3 rfl) ?_
      refine lv_lmul hx hb dX7_exchange_156 ?_
      refine lv_ladd hx hb dX7_exchange_157 ?_
      refine W.lcmp hx hb dX7_exchange_158 ?_
      refine lv_if_lt (tgt := 164) hx hb dX7_exchange_159 (by decide) (fun hc => ?_) (fun hc => ?_)
      · replace hf := it_t ((lg_cmp_lt _ _).mp hc) hf
        refine lv_aload_n hx hb dX7_exchange_164 rfl (lv_at hl 0 rfl) ?_
        refine va_get (D := (dC, dI)) (ci := 7) (v := .ref h_t_chosen) (C := RX7) (T := TX7) (N := 7) hx hb hts in_X7 hown hK hP 0 rfl rfl 0 (Nat.le_of_ble_eq_true rfl) (hts _ qf_X7_9) (fun _ h9 => h9) rfl dX7_exchange_165 ?_
        refine lv_iload_n hx hb dX7_exchange_168 rfl (lv_at hl 1 rfl) ?_
        refine lv_iload hx hb dX7_exchange_169 (lv_at hl 4 rfl) ?_
        obtain ⟨hg_30, hf⟩ := gd_some hf
        obtain ⟨t_chosen_31, et_chosen_31⟩ : ∃ y : Nat → Int32, y = upd t_chosen r_10.toNatClampNeg l7_28 := ⟨_, rfl⟩
        replace hf := xl_at hf et_chosen_31
        refine xiast (w2 := [(h_t, .inr (7, [.ref h_t_chosen, .ref h_t_mixed, .ref h_t_near, .int t_gone, .int t_stuck, .int t_longest, .int t_side_1])), (h_t_chosen, .inl (cI, 3, .inl t_chosen_31)), (h_t_near, .inr (4, [.long t_near_x_2, .long t_near_y_3, .long t_near_lower_4, .long t_near_square_5, .long t_near_squareLower_6, .int t_near_fromX_7, .int t_near_fromY_8])), (h_p1, .inr (0, [.ref h_p1_x, .ref h_p1_y, .ref h_p1_colour, .ref h_p1_load, .int p1_size, .int p1_centreX, .int p1_centreY])), (h_p1_x, .inl (cI, 24, .inl p1_x)), (h_p1_y, .inl (cI, 24, .inl p1_y)), (h_p1_colour, .inl (cI, 24, .inl p1_colour))]) hx hb hK hP hD hS 1 0 rfl rfl (inb_in hg_30) et_chosen_31 rfl dX7_exchange_171 (fun H locs hP hD hS => ?_)
        refine lv_aload_n hx hb dX7_exchange_172 rfl (lv_at hl 0 rfl) ?_
        refine lv_iload_n hx hb dX7_exchange_173 rfl (lv_at hl 1 rfl) ?_
        refine xput (D := (dC, dI)) (ci := 7) (v := .int r_10) (C := RX7) (T := TX7) (N := 7) (w2 := [(h_t, .inr (7, [.ref h_t_chosen, .ref h_t_mixed, .ref h_t_near, .int r_10, .int t_stuck, .int t_longest, .int t_side_1])), (h_t_chosen, .inl (cI, 3, .inl t_chosen_31)), (h_t_near, .inr (4, [.long t_near_x_2, .long t_near_y_3, .long t_near_lower_4, .long t_near_square_5, .long t_near_squareLower_6, .int t_near_fromX_7, .int t_near_fromY_8])), (h_p1, .inr (0, [.ref h_p1_x, .ref h_p1_y, .ref h_p1_colour, .ref h_p1_load, .int p1_size, .int p1_centreX, .int p1_centreY])), (h_p1_x, .inl (cI, 24, .inl p1_x)), (h_p1_y, .inl (cI, 24, .inl p1_y)), (h_p1_colour, .inl (cI, 24, .inl p1_colour))]) hx hb hts in_X7 tyX7 tyX7_ok nmX7 hown hK hP hD hS 0 rfl rfl 3 (Nat.le_of_ble_eq_true rfl) (hts _ qf_X7_81) (fun _ h9 => h9) rfl rfl rfl (Nat.le_of_ble_eq_true rfl) rfl dX7_exchange_174 (fun H locs hP hD hS => ?_)
        refine lv_iconst (v := (1 : Int32)) hx hb dX7_exchange_177 (by decide) ?_
        obtain ⟨rfl, rfl, rfl, rfl, rfl, rfl, rfl, rfl, rfl, rfl, rfl⟩ := o11 hf
        exact W.zret hx hb hr rfl (fun t ht hW => ⟨⟨_, (), rfl, rfl, by rw [ht]; exact hP, hD⟩, hS.F ht⟩) hS.2.2 dX7_exchange_178
      · replace hf := it_f (fun h9 => hc ((lg_cmp_lt _ _).mpr h9)) hf
        refine lv_iconst (v := (0 : Int32)) hx hb dX7_exchange_162 (by decide) ?_
        obtain ⟨rfl, rfl, rfl, rfl, rfl, rfl, rfl, rfl, rfl, rfl, rfl⟩ := o11 hf
        exact W.zret hx hb hr rfl (fun t ht hW => ⟨⟨_, (), rfl, rfl, by rw [ht]; exact hP, hD⟩, hS.F ht⟩) hS.2.2 dX7_exchange_163
  · replace hf := it_t ((lg_cmp_eq _ _).mp hc) hf
    refine lv_iconst (v := (0 : Int32)) hx hb dX7_exchange_17 (by decide) ?_
    obtain ⟨rfl, rfl, rfl, rfl, rfl, rfl, rfl, rfl, rfl, rfl, rfl⟩ := o11 hf
    exact W.zret hx hb hr rfl (fun t ht hW => ⟨⟨_, (), rfl, rfl, by rw [ht]; exact hP, hD⟩, hS.F ht⟩) hS.2.2 dX7_exchange_18
theorem dX7_run_0 : decode cX7_run 0 = .ok (.aload_n 0, 1) := by decide +kernel
theorem dX7_run_1 : decode cX7_run 1 = .ok (.iconst (-1), 1) := by decide +kernel
theorem dX7_run_2 : decode cX7_run 2 = .ok (.putfield 81, 3) := by decide +kernel
theorem dX7_run_5 : decode cX7_run 5 = .ok (.iconst 0, 1) := by decide +kernel
theorem dX7_run_6 : decode cX7_run 6 = .ok (.istore_n 3, 1) := by decide +kernel
theorem dX7_run_7 : decode cX7_run 7 = .ok (.iload_n 3, 1) := by decide +kernel
theorem dX7_run_8 : decode cX7_run 8 = .ok (.iload_n 2, 1) := by decide +kernel
theorem dX7_run_9 : decode cX7_run 9 = .ok (.if_icmp .ge 24, 3) := by decide +kernel
theorem dX7_run_12 : decode cX7_run 12 = .ok (.iload_n 3, 1) := by decide +kernel
theorem dX7_run_13 : decode cX7_run 13 = .ok (.sipush 512, 3) := by decide +kernel
theorem dX7_run_16 : decode cX7_run 16 = .ok (.if_icmp .ge 17, 3) := by decide +kernel
theorem dX7_run_19 : decode cX7_run 19 = .ok (.aload_n 0, 1) := by decide +kernel
theorem dX7_run_20 : decode cX7_run 20 = .ok (.aload_n 1, 1) := by decide +kernel
theorem dX7_run_21 : decode cX7_run 21 = .ok (.invokevirtual 84, 3) := by decide +kernel
theorem dX7_run_24 : decode cX7_run 24 = .ok (.ifCond .eq 9, 3) := by decide +kernel
theorem dX7_run_27 : decode cX7_run 27 = .ok (.iinc 3 1, 3) := by decide +kernel
theorem dX7_run_30 : decode cX7_run 30 = .ok (.goto (-23), 3) := by decide +kernel
theorem dX7_run_33 : decode cX7_run 33 = .ok (.iload_n 3, 1) := by decide +kernel
theorem dX7_run_34 : decode cX7_run 34 = .ok (.ireturn, 1) := by decide +kernel
set_option maxRecDepth 100000 in
set_option maxHeartbeats 4000000 in
theorem wX7_run_L7 {p : Program} {l : Launch} {e : Env} {R : Room} {s : State} {m : MethodId} {args : Array Value} {below : List Frame} {meth : Method} {c : Code} {Q : State → Prop} {A : Nat → Prop} {dC : Nat → ClassId} {dI : Nat → Nat → Nat} {cI cL cB : ClassId} {K : Nat} (C0 : Sx p R s m args c cX7_run 4 RX7 A dC dI cI cL cB 4 121) (h_t h_t_chosen h_t_mixed h_t_near h_p1 h_p1_x h_p1_y h_p1_colour h_p1_load : Nat) (t_stuck : Int32) (t_longest : Int32) (p1_size : Int32) (p1_centreX : Int32) (p1_centreY : Int32) (p1_x : Nat → Int32) (p1_y : Nat → Int32) (p1_colour : Nat → Int32) (l2 : Int32) : ∀ (n : Nat) (l3 : Int32) (t_gone : Int32) (t_side : Int32) (t_chosen : Nat → Int32) (t_near_x : Int64) (t_near_y : Int64) (t_near_lower : Int64) (t_near_square : Int64) (t_near_squareLower : Int64) (t_near_fromX : Int32) (t_near_fromY : Int32) (x3_ : Int32) (x_t_gone : Int32) (x_t_side : Int32) (x_t_chosen : Nat → Int32) (x_t_near_x : Int64) (x_t_near_y : Int64) (x_t_near_lower : Int64) (x_t_near_square : Int64) (x_t_near_squareLower : Int64) (x_t_near_fromX : Int32) (x_t_near_fromY : Int32) (H : Heap) (locs : List Loc) (ls : Array Slot), va_P (dC, dI) vwCl [(h_t, .inr (7, [.ref h_t_chosen, .ref h_t_mixed, .ref h_t_near, .int t_gone, .int t_stuck, .int t_longest, .int t_side])), (h_t_chosen, .inl (cI, 3, .inl t_chosen)), (h_t_near, .inr (4, [.long t_near_x, .long t_near_y, .long t_near_lower, .long t_near_square, .long t_near_squareLower, .int t_near_fromX, .int t_near_fromY])), (h_p1, .inr (0, [.ref h_p1_x, .ref h_p1_y, .ref h_p1_colour, .ref h_p1_load, .int p1_size, .int p1_centreX, .int p1_centreY])), (h_p1_x, .inl (cI, 24, .inl p1_x)), (h_p1_y, .inl (cI, 24, .inl p1_y)), (h_p1_colour, .inl (cI, 24, .inl p1_colour))] H → va_D A [(h_t, .inr (7, [.ref h_t_chosen, .ref h_t_mixed, .ref h_t_near, .int t_gone, .int t_stuck, .int t_longest, .int t_side])), (h_t_chosen, .inl (cI, 3, .inl t_chosen)), (h_t_near, .inr (4, [.long t_near_x, .long t_near_y, .long t_near_lower, .long t_near_square, .long t_near_squareLower, .int t_near_fromX, .int t_near_fromY])), (h_p1, .inr (0, [.ref h_p1_x, .ref h_p1_y, .ref h_p1_colour, .ref h_p1_load, .int p1_size, .int p1_centreX, .int p1_centreY])), (h_p1_x, .inl (cI, 24, .inl p1_x)), (h_p1_y, .inl (cI, 24, .inl p1_y)), (h_p1_colour, .inl (cI, 24, .inl p1_colour))] → va_S A s.heap H locs → lv_has ls 4 [(0, .ref h_t), (1, .ref h_p1), (2, .int l2), (3, .int l3)] → fX7_run_L7 K l2 p1_size p1_centreX p1_centreY p1_x p1_y p1_colour n l3 t_gone t_side t_chosen t_near_x t_near_y t_near_lower t_near_square t_near_squareLower t_near_fromX t_near_fromY = some (x3_, x_t_gone, x_t_side, x_t_chosen, x_t_near_x, x_t_near_y, x_t_near_lower, x_t_near_square, x_t_near_squareLower, x_t_near_fromX, x_t_near_fromY) → (∀ (H : Heap) (locs : List Loc) (ls : Array Slot), va_P (dC, dI) vwCl [(h_t, .inr (7, [.ref h_t_chosen, .ref h_t_mixed, .ref h_t_near, .int x_t_gone, .int t_stuck, .int t_longest, .int x_t_side])), (h_t_chosen, .inl (cI, 3, .inl x_t_chosen)), (h_t_near, .inr (4, [.long x_t_near_x, .long x_t_near_y, .long x_t_near_lower, .long x_t_near_square, .long x_t_near_squareLower, .int x_t_near_fromX, .int x_t_near_fromY])), (h_p1, .inr (0, [.ref h_p1_x, .ref h_p1_y, .ref h_p1_colour, .ref h_p1_load, .int p1_size, .int p1_centreX, .int p1_centreY])), (h_p1_x, .inl (cI, 24, .inl p1_x)), (h_p1_y, .inl (cI, 24, .inl p1_y)), (h_p1_colour, .inl (cI, 24, .inl p1_colour))] H → va_D A [(h_t, .inr (7, [.ref h_t_chosen, .ref h_t_mixed, .ref h_t_near, .int x_t_gone, .int t_stuck, .int t_longest, .int x_t_side])), (h_t_chosen, .inl (cI, 3, .inl x_t_chosen)), (h_t_near, .inr (4, [.long x_t_near_x, .long x_t_near_y, .long x_t_near_lower, .long x_t_near_square, .long x_t_near_squareLower, .int x_t_near_fromX, .int x_t_near_fromY])), (h_p1, .inr (0, [.ref h_p1_x, .ref h_p1_y, .ref h_p1_colour, .ref h_p1_load, .int p1_size, .int p1_centreX, .int p1_centreY])), (h_p1_x, .inl (cI, 24, .inl p1_x)), (h_p1_y, .inl (cI, 24, .inl p1_y)), (h_p1_colour, .inl (cI, 24, .inl p1_colour))] → va_S A s.heap H locs → lv_has ls 4 [(3, .int x3_)] → W p l e R s m args below meth c H locs 0 0 Q (F0 m 33 ls [])) → W p l e R s m args below meth c H locs 0 0 Q (F0 m 7 ls []) := by
  obtain ⟨hx, hb, hml, hown, hts, hK, hT, hA, hF, hLo⟩ := id C0
  intro n
  induction n with
  | zero =>
    intro l3 t_gone t_side t_chosen t_near_x t_near_y t_near_lower t_near_square t_near_squareLower t_near_fromX t_near_fromY x3_ x_t_gone x_t_side x_t_chosen x_t_near_x x_t_near_y x_t_near_lower x_t_near_square x_t_near_squareLower x_t_near_fromX x_t_near_fromY H locs ls hP hD hS hl hf
    rw [fX7_run_L7] at hf
    cases hf
  | succ n ih =>
    intro l3 t_gone t_side t_chosen t_near_x t_near_y t_near_lower t_near_square t_near_squareLower t_near_fromX t_near_fromY x3_ x_t_gone x_t_side x_t_chosen x_t_near_x x_t_near_y x_t_near_lower x_t_near_square x_t_near_squareLower x_t_near_fromX x_t_near_fromY H locs ls hP hD hS hl hf hk
    rw [fX7_run_L7] at hf
    refine lv_iload_n hx hb dX7_run_7 rfl (lv_at hl 3 rfl) ?_
    refine lv_iload_n hx hb dX7_run_8 rfl (lv_at hl 2 rfl) ?_
    refine lv_icmp_ge (tgt := 33) hx hb dX7_run_9 (by decide) (fun hc => ?_) (fun hc => ?_)
    · replace hf := it_t (hc) hf
      obtain ⟨rfl, rfl, rfl, rfl, rfl, rfl, rfl, rfl, rfl, rfl, rfl⟩ := o11 hf
      exact hk H locs ls hP hD hS (lv_sub hl [3] rfl)
    · replace hf := it_f (hc) hf
      refine lv_iload_n hx hb dX7_run_12 rfl (lv_at hl 3 rfl) ?_
      refine lv_sipush (v := (512 : Int32)) hx hb dX7_run_13 (by decide) ?_
      refine lv_icmp_ge (tgt := 33) hx hb dX7_run_16 (by decide) (fun hc => ?_) (fun hc => ?_)
      · replace hf := it_t (hc) hf
        obtain ⟨rfl, rfl, rfl, rfl, rfl, rfl, rfl, rfl, rfl, rfl, rfl⟩ := o11 hf
        exact hk H locs ls hP hD hS (lv_sub hl [3] rfl)
      · replace hf := it_f (hc) hf
        refine lv_aload_n hx hb dX7_run_19 rfl (lv_at hl 0 rfl) ?_
        refine lv_aload_n hx hb dX7_run_20 rfl (lv_at hl 1 rfl) ?_
        obtain ⟨r_1, t_gone_2, t_side_3, t_chosen_4, t_near_x_5, t_near_y_6, t_near_lower_7, t_near_square_8, t_near_squareLower_9, t_near_fromX_10, t_near_fromY_11, hq_12, hf⟩ := b11_some hf
        refine xci (wr := []) (w2 := [(h_t, .inr (7, [.ref h_t_chosen, .ref h_t_mixed, .ref h_t_near, .int t_gone_2, .int t_stuck, .int t_longest, .int t_side_3])), (h_t_chosen, .inl (cI, 3, .inl t_chosen_4)), (h_t_near, .inr (4, [.long t_near_x_5, .long t_near_y_6, .long t_near_lower_7, .long t_near_square_8, .long t_near_squareLower_9, .int t_near_fromX_10, .int t_near_fromY_11])), (h_p1, .inr (0, [.ref h_p1_x, .ref h_p1_y, .ref h_p1_colour, .ref h_p1_load, .int p1_size, .int p1_centreX, .int p1_centreY])), (h_p1_x, .inl (cI, 24, .inl p1_x)), (h_p1_y, .inl (cI, 24, .inl p1_y)), (h_p1_colour, .inl (cI, 24, .inl p1_colour))]) (va_runV (As := [.ref h_p1]) (rest := []) ⟨hx, hb, hml, hown, hts⟩ (mtX7_exchange l dC dI cI cL cB K h_t h_t_chosen h_t_mixed h_t_near h_p1 h_p1_x h_p1_y h_p1_colour h_p1_load H.size t_gone t_stuck t_longest t_side t_chosen t_near_x t_near_y t_near_lower t_near_square t_near_squareLower t_near_fromX t_near_fromY p1_size p1_centreX p1_centreY p1_x p1_y p1_colour r_1 t_gone_2 t_side_3 t_chosen_4 t_near_x_5 t_near_y_6 t_near_lower_7 t_near_square_8 t_near_squareLower_9 t_near_fromX_10 t_near_fromY_11 hq_12) (cwV 1 hts gv_X7_84 rfl rfl rfl hdV_X7_exchange ⟨Nat.le_trans (Nat.le_of_ble_eq_true rfl) hF, Nat.le_trans (Nat.le_of_ble_eq_true rfl) hLo⟩) (cPreV hK hP hD hT [0, 1, 2, 3, 4, 5, 6] rfl rfl (ci := 7) (q0 := 0) rfl rfl) rfl rfl hl.1 rfl (lv_room (Nat.le_of_ble_eq_true rfl)) dX7_run_21 ⟨Nat.zero_le _, Nat.zero_le _⟩) hP hD hS hA [0, 1, 2, 3, 4, 5, 6] [] [0, 1, 2, 3, 4, 5, 6] rfl rfl rfl rfl rfl rfl (fun H locs hP hD hS => ?_)
        refine lv_if_eq (tgt := 33) hx hb dX7_run_24 (by decide) (fun hc => ?_) (fun hc => ?_)
        · replace hf := it_t (hc) hf
          obtain ⟨rfl, rfl, rfl, rfl, rfl, rfl, rfl, rfl, rfl, rfl, rfl⟩ := o11 hf
          exact hk H locs ls hP hD hS (lv_sub hl [3] rfl)
        · replace hf := it_f (hc) hf
          obtain ⟨l3_13, el3_13⟩ : ∃ y : Int32, y = l3 + (1 : Int32) := ⟨_, rfl⟩
          replace hf := xl_at hf el3_13
          refine lv_iinc (v := l3_13) (lv' := [(3, .int l3_13), (0, .ref h_t), (1, .ref h_p1), (2, .int l2)]) hx hb dX7_run_27 hl (k := 3) rfl (by rw [el3_13]; rfl) (Nat.le_of_ble_eq_true rfl) rfl (fun ls hl => ?_)
          refine lv_goto (tgt := 7) hx hb dX7_run_30 (by decide) ?_
          exact ih l3_13 t_gone_2 t_side_3 t_chosen_4 t_near_x_5 t_near_y_6 t_near_lower_7 t_near_square_8 t_near_squareLower_9 t_near_fromX_10 t_near_fromY_11 _ _ _ _ _ _ _ _ _ _ _ H locs ls hP hD hS (lv_sub hl [1, 2, 3, 0] rfl) hf hk
set_option maxRecDepth 100000 in
set_option maxHeartbeats 4000000 in
theorem mtX7_run (l : Launch) (dC : Nat → ClassId) (dI : Nat → Nat → Nat) (cI cL cB : ClassId) (K : Nat) (h_t h_t_chosen h_t_mixed h_t_near h_p1 h_p1_x h_p1_y h_p1_colour h_p1_load : Nat) (sz : Nat) (t_gone : Int32) (t_stuck : Int32) (t_longest : Int32) (t_side : Int32) (t_chosen : Nat → Int32) (t_near_x : Int64) (t_near_y : Int64) (t_near_lower : Int64) (t_near_square : Int64) (t_near_squareLower : Int64) (t_near_fromX : Int32) (t_near_fromY : Int32) (p1_size : Int32) (p1_centreX : Int32) (p1_centreY : Int32) (p1_x : Nat → Int32) (p1_y : Nat → Int32) (p1_colour : Nat → Int32) (a2 : Int32) (o_r : Int32) (o_t_gone : Int32) (o_t_side : Int32) (o_t_chosen : Nat → Int32) (o_t_near_x : Int64) (o_t_near_y : Int64) (o_t_near_lower : Int64) (o_t_near_square : Int64) (o_t_near_squareLower : Int64) (o_t_near_fromX : Int32) (o_t_near_fromY : Int32) (hf : fX7_run K t_gone t_side t_chosen t_near_x t_near_y t_near_lower t_near_square t_near_squareLower t_near_fromX t_near_fromY p1_size p1_centreX p1_centreY p1_x p1_y p1_colour a2 = some (o_r, o_t_gone, o_t_side, o_t_chosen, o_t_near_x, o_t_near_y, o_t_near_lower, o_t_near_square, o_t_near_squareLower, o_t_near_fromX, o_t_near_fromY)) : Met l yX7_run [Cond.code yX7_run cX7_run 4 (some .int)] ({ frames := 4, cells := 0, slots := 0, locals := 121 }) (va_Pc [.ref h_t, .ref h_p1, .int a2] (cPre dC dI cI cL cB sz [(h_t, .inr (7, [.ref h_t_chosen, .ref h_t_mixed, .ref h_t_near, .int t_gone, .int t_stuck, .int t_longest, .int t_side])), (h_t_chosen, .inl (cI, 3, .inl t_chosen)), (h_t_near, .inr (4, [.long t_near_x, .long t_near_y, .long t_near_lower, .long t_near_square, .long t_near_squareLower, .int t_near_fromX, .int t_near_fromY])), (h_p1, .inr (0, [.ref h_p1_x, .ref h_p1_y, .ref h_p1_colour, .ref h_p1_load, .int p1_size, .int p1_centreX, .int p1_centreY])), (h_p1_x, .inl (cI, 24, .inl p1_x)), (h_p1_y, .inl (cI, 24, .inl p1_y)), (h_p1_colour, .inl (cI, 24, .inl p1_colour))])) (cQi dC dI (va_A [(h_t, .inr (7, [.ref h_t_chosen, .ref h_t_mixed, .ref h_t_near, .int t_gone, .int t_stuck, .int t_longest, .int t_side])), (h_t_chosen, .inl (cI, 3, .inl t_chosen)), (h_t_near, .inr (4, [.long t_near_x, .long t_near_y, .long t_near_lower, .long t_near_square, .long t_near_squareLower, .int t_near_fromX, .int t_near_fromY])), (h_p1, .inr (0, [.ref h_p1_x, .ref h_p1_y, .ref h_p1_colour, .ref h_p1_load, .int p1_size, .int p1_centreX, .int p1_centreY])), (h_p1_x, .inl (cI, 24, .inl p1_x)), (h_p1_y, .inl (cI, 24, .inl p1_y)), (h_p1_colour, .inl (cI, 24, .inl p1_colour))] sz) o_r [(h_t, .inr (7, [.ref h_t_chosen, .ref h_t_mixed, .ref h_t_near, .int o_t_gone, .int t_stuck, .int t_longest, .int o_t_side])), (h_t_chosen, .inl (cI, 3, .inl o_t_chosen)), (h_t_near, .inr (4, [.long o_t_near_x, .long o_t_near_y, .long o_t_near_lower, .long o_t_near_square, .long o_t_near_squareLower, .int o_t_near_fromX, .int o_t_near_fromY])), (h_p1, .inr (0, [.ref h_p1_x, .ref h_p1_y, .ref h_p1_colour, .ref h_p1_load, .int p1_size, .int p1_centreX, .int p1_centreY])), (h_p1_x, .inl (cI, 24, .inl p1_x)), (h_p1_y, .inl (cI, 24, .inl p1_y)), (h_p1_colour, .inl (cI, 24, .inl p1_colour))]) 0 0 (va_A [(h_t, .inr (7, [.ref h_t_chosen, .ref h_t_mixed, .ref h_t_near, .int t_gone, .int t_stuck, .int t_longest, .int t_side])), (h_t_chosen, .inl (cI, 3, .inl t_chosen)), (h_t_near, .inr (4, [.long t_near_x, .long t_near_y, .long t_near_lower, .long t_near_square, .long t_near_squareLower, .int t_near_fromX, .int t_near_fromY])), (h_p1, .inr (0, [.ref h_p1_x, .ref h_p1_y, .ref h_p1_colour, .ref h_p1_load, .int p1_size, .int p1_centreX, .int p1_centreY])), (h_p1_x, .inl (cI, 24, .inl p1_x)), (h_p1_y, .inl (cI, 24, .inl p1_y)), (h_p1_colour, .inl (cI, 24, .inl p1_colour))] sz) := by
  refine Met.ofW (cc := cX7_run) (maxL := 4) (ret := (some .int)) (by decide) rfl ?_
  intro p e s m args below meth c s₁ B hml hv
  obtain ⟨rfl, hsz, hP, hK, hD0, hT⟩ := hv
  have hx := B.exec
  have hb := B.bytes
  have hr := B.returns
  have hown : s.vm.findClass RX7 = some m.cls := findClass_of_methodNamed B.named
  have hlocks := B.notSynchronized
  have hts := TB.use hT ([.ref h_t, .ref h_p1, .int a2] : List Value).toArray
  subst hsz
  have hD := hD0.self (sz := s.heap.size)
  generalize hAe : va_A [(h_t, .inr (7, [.ref h_t_chosen, .ref h_t_mixed, .ref h_t_near, .int t_gone, .int t_stuck, .int t_longest, .int t_side])), (h_t_chosen, .inl (cI, 3, .inl t_chosen)), (h_t_near, .inr (4, [.long t_near_x, .long t_near_y, .long t_near_lower, .long t_near_square, .long t_near_squareLower, .int t_near_fromX, .int t_near_fromY])), (h_p1, .inr (0, [.ref h_p1_x, .ref h_p1_y, .ref h_p1_colour, .ref h_p1_load, .int p1_size, .int p1_centreX, .int p1_centreY])), (h_p1_x, .inl (cI, 24, .inl p1_x)), (h_p1_y, .inl (cI, 24, .inl p1_y)), (h_p1_colour, .inl (cI, 24, .inl p1_colour))] s.heap.size = A at hD ⊢
  have hA : ∀ q : Nat, s.heap.size ≤ q → A q := fun q h => by rw [← hAe]; exact Or.inr h
  clear hAe hD0
  have hl := lv_entry ([.ref h_t, .ref h_p1, .int a2]) (n := 4) (Nat.le_of_ble_eq_true rfl)
  rw [lg_entry_eq]
  generalize (lg_sl ([.ref h_t, .ref h_p1, .int a2]) ++ List.replicate (4 - (lg_sl ([.ref h_t, .ref h_p1, .int a2])).length) Slot.unset).toArray = ls at hl ⊢
  have hl : lv_has ls 4 [(0, .ref h_t), (1, .ref h_p1), (2, .int a2)] := hl
  have hF : 4 ≤ (headSpec [Cond.code yX7_run cX7_run 4 (some .int)] ({ frames := 4, cells := 0, slots := 0, locals := 121 })).room.frames := Nat.le_refl _
  have hLo : 121 ≤ (headSpec [Cond.code yX7_run cX7_run 4 (some .int)] ({ frames := 4, cells := 0, slots := 0, locals := 121 })).room.locals := Nat.le_refl _
  have C0 : Sx p (headSpec [Cond.code yX7_run cX7_run 4 (some .int)] ({ frames := 4, cells := 0, slots := 0, locals := 121 })).room s m ([.ref h_t, .ref h_p1, .int a2] : List Value).toArray c cX7_run 4 RX7 A dC dI cI cL cB 4 121 := ⟨hx, hb, hml, hown, hts, hK, hT, hA, hF, hLo⟩
  refine startH (A := A) hP (fun H locs hP hS => ?_)
  rw [fX7_run] at hf
  refine lv_aload_n hx hb dX7_run_0 rfl (lv_at hl 0 rfl) ?_
  refine lv_iconst (v := (-1 : Int32)) hx hb dX7_run_1 (by decide) ?_
  refine xput (D := (dC, dI)) (ci := 7) (v := .int (-1 : Int32)) (C := RX7) (T := TX7) (N := 7) (w2 := [(h_t, .inr (7, [.ref h_t_chosen, .ref h_t_mixed, .ref h_t_near, .int (-1 : Int32), .int t_stuck, .int t_longest, .int t_side])), (h_t_chosen, .inl (cI, 3, .inl t_chosen)), (h_t_near, .inr (4, [.long t_near_x, .long t_near_y, .long t_near_lower, .long t_near_square, .long t_near_squareLower, .int t_near_fromX, .int t_near_fromY])), (h_p1, .inr (0, [.ref h_p1_x, .ref h_p1_y, .ref h_p1_colour, .ref h_p1_load, .int p1_size, .int p1_centreX, .int p1_centreY])), (h_p1_x, .inl (cI, 24, .inl p1_x)), (h_p1_y, .inl (cI, 24, .inl p1_y)), (h_p1_colour, .inl (cI, 24, .inl p1_colour))]) hx hb hts in_X7 tyX7 tyX7_ok nmX7 hown hK hP hD hS 0 rfl rfl 3 (Nat.le_of_ble_eq_true rfl) (hts _ qf_X7_81) (fun _ h9 => h9) rfl rfl rfl (Nat.le_of_ble_eq_true rfl) rfl dX7_run_2 (fun H locs hP hD hS => ?_)
  refine lv_iconst (v := (0 : Int32)) hx hb dX7_run_5 (by decide) ?_
  refine lv_istore_n (lv' := [(3, .int (0 : Int32)), (0, .ref h_t), (1, .ref h_p1), (2, .int a2)]) hx hb dX7_run_6 rfl hl (Nat.le_of_ble_eq_true rfl) rfl (fun ls hl => ?_)
  obtain ⟨l3_15, t_gone_16, t_side_17, t_chosen_18, t_near_x_19, t_near_y_20, t_near_lower_21, t_near_square_22, t_near_squareLower_23, t_near_fromX_24, t_near_fromY_25, hq_14, hf⟩ := b11_some hf
  refine wX7_run_L7 C0 h_t h_t_chosen h_t_mixed h_t_near h_p1 h_p1_x h_p1_y h_p1_colour h_p1_load t_stuck t_longest p1_size p1_centreX p1_centreY p1_x p1_y p1_colour a2 K (0 : Int32) (-1 : Int32) t_side t_chosen t_near_x t_near_y t_near_lower t_near_square t_near_squareLower t_near_fromX t_near_fromY l3_15 t_gone_16 t_side_17 t_chosen_18 t_near_x_19 t_near_y_20 t_near_lower_21 t_near_square_22 t_near_squareLower_23 t_near_fromX_24 t_near_fromY_25 H locs ls hP hD hS (lv_sub hl [1, 2, 3, 0] rfl) hq_14 ?_
  intro H locs ls hP hD hS hl
  refine lv_iload_n hx hb dX7_run_33 rfl (lv_at hl 0 rfl) ?_
  obtain ⟨rfl, rfl, rfl, rfl, rfl, rfl, rfl, rfl, rfl, rfl, rfl⟩ := o11 hf
  exact W.iret hx hb hr (fun t ht hW => ⟨⟨_, (), rfl, rfl, by rw [ht]; exact hP, hD⟩, hS.F ht⟩) hS.2.2 dX7_run_34
theorem dX11_exchanges_0 : decode cX11_exchanges 0 = .ok (.aload_n 0, 1) := by decide +kernel
theorem dX11_exchanges_1 : decode cX11_exchanges 1 = .ok (.getfield 12, 3) := by decide +kernel
theorem dX11_exchanges_4 : decode cX11_exchanges 4 = .ok (.iload_n 1, 1) := by decide +kernel
theorem dX11_exchanges_5 : decode cX11_exchanges 5 = .ok (.iload_n 2, 1) := by decide +kernel
theorem dX11_exchanges_6 : decode cX11_exchanges 6 = .ok (.iload_n 3, 1) := by decide +kernel
theorem dX11_exchanges_7 : decode cX11_exchanges 7 = .ok (.invokevirtual 269, 3) := by decide +kernel
theorem dX11_exchanges_10 : decode cX11_exchanges 10 = .ok (.ifCond .ne 6, 3) := by decide +kernel
theorem dX11_exchanges_13 : decode cX11_exchanges 13 = .ok (.bipush (-2), 2) := by decide +kernel
theorem dX11_exchanges_15 : decode cX11_exchanges 15 = .ok (.ireturn, 1) := by decide +kernel
theorem dX11_exchanges_16 : decode cX11_exchanges 16 = .ok (.aload_n 0, 1) := by decide +kernel
theorem dX11_exchanges_17 : decode cX11_exchanges 17 = .ok (.getfield 56, 3) := by decide +kernel
theorem dX11_exchanges_20 : decode cX11_exchanges 20 = .ok (.iload_n 1, 1) := by decide +kernel
theorem dX11_exchanges_21 : decode cX11_exchanges 21 = .ok (.iload_n 2, 1) := by decide +kernel
theorem dX11_exchanges_22 : decode cX11_exchanges 22 = .ok (.iload_n 3, 1) := by decide +kernel
theorem dX11_exchanges_23 : decode cX11_exchanges 23 = .ok (.invokevirtual 273, 3) := by decide +kernel
theorem dX11_exchanges_26 : decode cX11_exchanges 26 = .ok (.aload_n 0, 1) := by decide +kernel
theorem dX11_exchanges_27 : decode cX11_exchanges 27 = .ok (.getfield 56, 3) := by decide +kernel
theorem dX11_exchanges_30 : decode cX11_exchanges 30 = .ok (.aload_n 0, 1) := by decide +kernel
theorem dX11_exchanges_31 : decode cX11_exchanges 31 = .ok (.getfield 12, 3) := by decide +kernel
theorem dX11_exchanges_34 : decode cX11_exchanges 34 = .ok (.sipush 512, 3) := by decide +kernel
theorem dX11_exchanges_37 : decode cX11_exchanges 37 = .ok (.invokevirtual 284, 3) := by decide +kernel
theorem dX11_exchanges_40 : decode cX11_exchanges 40 = .ok (.istore 5, 2) := by decide +kernel
theorem dX11_exchanges_42 : decode cX11_exchanges 42 = .ok (.iload 4, 2) := by decide +kernel
theorem dX11_exchanges_44 : decode cX11_exchanges 44 = .ok (.lookupswitch 52 #[(0, 28), (1, 31)], 28) := by decide +kernel
theorem dX11_exchanges_72 : decode cX11_exchanges 72 = .ok (.iload 5, 2) := by decide +kernel
theorem dX11_exchanges_74 : decode cX11_exchanges 74 = .ok (.ireturn, 1) := by decide +kernel
theorem dX11_exchanges_75 : decode cX11_exchanges 75 = .ok (.aload_n 0, 1) := by decide +kernel
theorem dX11_exchanges_76 : decode cX11_exchanges 76 = .ok (.getfield 56, 3) := by decide +kernel
theorem dX11_exchanges_79 : decode cX11_exchanges 79 = .ok (.getfield 285, 3) := by decide +kernel
theorem dX11_exchanges_82 : decode cX11_exchanges 82 = .ok (.getfield 192, 3) := by decide +kernel
theorem dX11_exchanges_85 : decode cX11_exchanges 85 = .ok (.lconst 0, 1) := by decide +kernel
theorem dX11_exchanges_86 : decode cX11_exchanges 86 = .ok (.lcmp, 1) := by decide +kernel
theorem dX11_exchanges_87 : decode cX11_exchanges 87 = .ok (.ifCond .ne 7, 3) := by decide +kernel
theorem dX11_exchanges_90 : decode cX11_exchanges 90 = .ok (.iconst 1, 1) := by decide +kernel
theorem dX11_exchanges_91 : decode cX11_exchanges 91 = .ok (.goto 4, 3) := by decide +kernel
theorem dX11_exchanges_94 : decode cX11_exchanges 94 = .ok (.iconst 0, 1) := by decide +kernel
theorem dX11_exchanges_95 : decode cX11_exchanges 95 = .ok (.ireturn, 1) := by decide +kernel
theorem dX11_exchanges_96 : decode cX11_exchanges 96 = .ok (.bipush (-2), 2) := by decide +kernel
theorem dX11_exchanges_98 : decode cX11_exchanges 98 = .ok (.ireturn, 1) := by decide +kernel
set_option maxRecDepth 100000 in
set_option maxHeartbeats 4000000 in
theorem mtX11_exchanges (l : Launch) (dC : Nat → ClassId) (dI : Nat → Nat → Nat) (cI cL cB : ClassId) (K : Nat) (h_t h_t_cloud h_t_reader h_t_hull h_t_near h_t_firstTie h_t_reducer h_t_chooser h_t_pair h_t_divider h_t_depths h_t_spot h_t_cloud_x h_t_cloud_y h_t_cloud_colour h_t_cloud_load h_t_chooser_chosen h_t_chooser_mixed h_t_chooser_near : Nat) (sz : Nat) (t_cloud_size : Int32) (t_cloud_centreX : Int32) (t_cloud_centreY : Int32) (t_cloud_x : Nat → Int32) (t_cloud_y : Nat → Int32) (t_cloud_colour : Nat → Int32) (t_chooser_gone : Int32) (t_chooser_stuck : Int32) (t_chooser_longest : Int32) (t_chooser_side : Int32) (t_chooser_chosen : Nat → Int32) (t_chooser_near_x : Int64) (t_chooser_near_y : Int64) (t_chooser_near_lower : Int64) (t_chooser_near_square : Int64) (t_chooser_near_squareLower : Int64) (t_chooser_near_fromX : Int32) (t_chooser_near_fromY : Int32) (a1 : Int32) (a2 : Int32) (a3 : Int32) (a4 : Int32) (o_r : Int32) (o_t_chooser_gone : Int32) (o_t_chooser_side : Int32) (o_t_chooser_chosen : Nat → Int32) (o_t_chooser_near_x : Int64) (o_t_chooser_near_y : Int64) (o_t_chooser_near_lower : Int64) (o_t_chooser_near_square : Int64) (o_t_chooser_near_squareLower : Int64) (o_t_chooser_near_fromX : Int32) (o_t_chooser_near_fromY : Int32) (hf : fX11_exchanges K t_cloud_size t_cloud_centreX t_cloud_centreY t_cloud_x t_cloud_y t_cloud_colour t_chooser_gone t_chooser_side t_chooser_chosen t_chooser_near_x t_chooser_near_y t_chooser_near_lower t_chooser_near_square t_chooser_near_squareLower t_chooser_near_fromX t_chooser_near_fromY a1 a2 a3 a4 = some (o_r, o_t_chooser_gone, o_t_chooser_side, o_t_chooser_chosen, o_t_chooser_near_x, o_t_chooser_near_y, o_t_chooser_near_lower, o_t_chooser_near_square, o_t_chooser_near_squareLower, o_t_chooser_near_fromX, o_t_chooser_near_fromY)) : Met l yX11_exchanges [Cond.code yX11_exchanges cX11_exchanges 6 (some .int)] ({ frames := 5, cells := 0, slots := 0, locals := 144 }) (va_Pc [.ref h_t, .int a1, .int a2, .int a3, .int a4] (cPre dC dI cI cL cB sz [(h_t, .inr (11, [.ref h_t_cloud, .ref h_t_reader, .ref h_t_hull, .ref h_t_near, .ref h_t_firstTie, .ref h_t_reducer, .ref h_t_chooser, .ref h_t_pair, .ref h_t_divider, .ref h_t_depths, .ref h_t_spot])), (h_t_cloud, .inr (0, [.ref h_t_cloud_x, .ref h_t_cloud_y, .ref h_t_cloud_colour, .ref h_t_cloud_load, .int t_cloud_size, .int t_cloud_centreX, .int t_cloud_centreY])), (h_t_cloud_x, .inl (cI, 24, .inl t_cloud_x)), (h_t_cloud_y, .inl (cI, 24, .inl t_cloud_y)), (h_t_cloud_colour, .inl (cI, 24, .inl t_cloud_colour)), (h_t_chooser, .inr (7, [.ref h_t_chooser_chosen, .ref h_t_chooser_mixed, .ref h_t_chooser_near, .int t_chooser_gone, .int t_chooser_stuck, .int t_chooser_longest, .int t_chooser_side])), (h_t_chooser_chosen, .inl (cI, 3, .inl t_chooser_chosen)), (h_t_chooser_near, .inr (4, [.long t_chooser_near_x, .long t_chooser_near_y, .long t_chooser_near_lower, .long t_chooser_near_square, .long t_chooser_near_squareLower, .int t_chooser_near_fromX, .int t_chooser_near_fromY]))])) (cQi dC dI (va_A [(h_t, .inr (11, [.ref h_t_cloud, .ref h_t_reader, .ref h_t_hull, .ref h_t_near, .ref h_t_firstTie, .ref h_t_reducer, .ref h_t_chooser, .ref h_t_pair, .ref h_t_divider, .ref h_t_depths, .ref h_t_spot])), (h_t_cloud, .inr (0, [.ref h_t_cloud_x, .ref h_t_cloud_y, .ref h_t_cloud_colour, .ref h_t_cloud_load, .int t_cloud_size, .int t_cloud_centreX, .int t_cloud_centreY])), (h_t_cloud_x, .inl (cI, 24, .inl t_cloud_x)), (h_t_cloud_y, .inl (cI, 24, .inl t_cloud_y)), (h_t_cloud_colour, .inl (cI, 24, .inl t_cloud_colour)), (h_t_chooser, .inr (7, [.ref h_t_chooser_chosen, .ref h_t_chooser_mixed, .ref h_t_chooser_near, .int t_chooser_gone, .int t_chooser_stuck, .int t_chooser_longest, .int t_chooser_side])), (h_t_chooser_chosen, .inl (cI, 3, .inl t_chooser_chosen)), (h_t_chooser_near, .inr (4, [.long t_chooser_near_x, .long t_chooser_near_y, .long t_chooser_near_lower, .long t_chooser_near_square, .long t_chooser_near_squareLower, .int t_chooser_near_fromX, .int t_chooser_near_fromY]))] sz) o_r [(h_t, .inr (11, [.ref h_t_cloud, .ref h_t_reader, .ref h_t_hull, .ref h_t_near, .ref h_t_firstTie, .ref h_t_reducer, .ref h_t_chooser, .ref h_t_pair, .ref h_t_divider, .ref h_t_depths, .ref h_t_spot])), (h_t_cloud, .inr (0, [.ref h_t_cloud_x, .ref h_t_cloud_y, .ref h_t_cloud_colour, .ref h_t_cloud_load, .int t_cloud_size, .int t_cloud_centreX, .int t_cloud_centreY])), (h_t_cloud_x, .inl (cI, 24, .inl t_cloud_x)), (h_t_cloud_y, .inl (cI, 24, .inl t_cloud_y)), (h_t_cloud_colour, .inl (cI, 24, .inl t_cloud_colour)), (h_t_chooser, .inr (7, [.ref h_t_chooser_chosen, .ref h_t_chooser_mixed, .ref h_t_chooser_near, .int o_t_chooser_gone, .int t_chooser_stuck, .int t_chooser_longest, .int o_t_chooser_side])), (h_t_chooser_chosen, .inl (cI, 3, .inl o_t_chooser_chosen)), (h_t_chooser_near, .inr (4, [.long o_t_chooser_near_x, .long o_t_chooser_near_y, .long o_t_chooser_near_lower, .long o_t_chooser_near_square, .long o_t_chooser_near_squareLower, .int o_t_chooser_near_fromX, .int o_t_chooser_near_fromY]))]) 0 0 (va_A [(h_t, .inr (11, [.ref h_t_cloud, .ref h_t_reader, .ref h_t_hull, .ref h_t_near, .ref h_t_firstTie, .ref h_t_reducer, .ref h_t_chooser, .ref h_t_pair, .ref h_t_divider, .ref h_t_depths, .ref h_t_spot])), (h_t_cloud, .inr (0, [.ref h_t_cloud_x, .ref h_t_cloud_y, .ref h_t_cloud_colour, .ref h_t_cloud_load, .int t_cloud_size, .int t_cloud_centreX, .int t_cloud_centreY])), (h_t_cloud_x, .inl (cI, 24, .inl t_cloud_x)), (h_t_cloud_y, .inl (cI, 24, .inl t_cloud_y)), (h_t_cloud_colour, .inl (cI, 24, .inl t_cloud_colour)), (h_t_chooser, .inr (7, [.ref h_t_chooser_chosen, .ref h_t_chooser_mixed, .ref h_t_chooser_near, .int t_chooser_gone, .int t_chooser_stuck, .int t_chooser_longest, .int t_chooser_side])), (h_t_chooser_chosen, .inl (cI, 3, .inl t_chooser_chosen)), (h_t_chooser_near, .inr (4, [.long t_chooser_near_x, .long t_chooser_near_y, .long t_chooser_near_lower, .long t_chooser_near_square, .long t_chooser_near_squareLower, .int t_chooser_near_fromX, .int t_chooser_near_fromY]))] sz) := by
  refine Met.ofW (cc := cX11_exchanges) (maxL := 6) (ret := (some .int)) (by decide) rfl ?_
  intro p e s m args below meth c s₁ B hml hv
  obtain ⟨rfl, hsz, hP, hK, hD0, hT⟩ := hv
  have hx := B.exec
  have hb := B.bytes
  have hr := B.returns
  have hown : s.vm.findClass RX11 = some m.cls := findClass_of_methodNamed B.named
  have hlocks := B.notSynchronized
  have hts := TB.use hT ([.ref h_t, .int a1, .int a2, .int a3, .int a4] : List Value).toArray
  subst hsz
  have hD := hD0.self (sz := s.heap.size)
  generalize hAe : va_A [(h_t, .inr (11, [.ref h_t_cloud, .ref h_t_reader, .ref h_t_hull, .ref h_t_near, .ref h_t_firstTie, .ref h_t_reducer, .ref h_t_chooser, .ref h_t_pair, .ref h_t_divider, .ref h_t_depths, .ref h_t_spot])), (h_t_cloud, .inr (0, [.ref h_t_cloud_x, .ref h_t_cloud_y, .ref h_t_cloud_colour, .ref h_t_cloud_load, .int t_cloud_size, .int t_cloud_centreX, .int t_cloud_centreY])), (h_t_cloud_x, .inl (cI, 24, .inl t_cloud_x)), (h_t_cloud_y, .inl (cI, 24, .inl t_cloud_y)), (h_t_cloud_colour, .inl (cI, 24, .inl t_cloud_colour)), (h_t_chooser, .inr (7, [.ref h_t_chooser_chosen, .ref h_t_chooser_mixed, .ref h_t_chooser_near, .int t_chooser_gone, .int t_chooser_stuck, .int t_chooser_longest, .int t_chooser_side])), (h_t_chooser_chosen, .inl (cI, 3, .inl t_chooser_chosen)), (h_t_chooser_near, .inr (4, [.long t_chooser_near_x, .long t_chooser_near_y, .long t_chooser_near_lower, .long t_chooser_near_square, .long t_chooser_near_squareLower, .int t_chooser_near_fromX, .int t_chooser_near_fromY]))] s.heap.size = A at hD ⊢
  have hA : ∀ q : Nat, s.heap.size ≤ q → A q := fun q h => by rw [← hAe]; exact Or.inr h
  clear hAe hD0
  have hl := lv_entry ([.ref h_t, .int a1, .int a2, .int a3, .int a4]) (n := 6) (Nat.le_of_ble_eq_true rfl)
  rw [lg_entry_eq]
  generalize (lg_sl ([.ref h_t, .int a1, .int a2, .int a3, .int a4]) ++ List.replicate (6 - (lg_sl ([.ref h_t, .int a1, .int a2, .int a3, .int a4])).length) Slot.unset).toArray = ls at hl ⊢
  have hl : lv_has ls 6 [(0, .ref h_t), (1, .int a1), (2, .int a2), (3, .int a3), (4, .int a4)] := hl
  have hF : 5 ≤ (headSpec [Cond.code yX11_exchanges cX11_exchanges 6 (some .int)] ({ frames := 5, cells := 0, slots := 0, locals := 144 })).room.frames := Nat.le_refl _
  have hLo : 144 ≤ (headSpec [Cond.code yX11_exchanges cX11_exchanges 6 (some .int)] ({ frames := 5, cells := 0, slots := 0, locals := 144 })).room.locals := Nat.le_refl _
  have C0 : Sx p (headSpec [Cond.code yX11_exchanges cX11_exchanges 6 (some .int)] ({ frames := 5, cells := 0, slots := 0, locals := 144 })).room s m ([.ref h_t, .int a1, .int a2, .int a3, .int a4] : List Value).toArray c cX11_exchanges 6 RX11 A dC dI cI cL cB 5 144 := ⟨hx, hb, hml, hown, hts, hK, hT, hA, hF, hLo⟩
  refine startH (A := A) hP (fun H locs hP hS => ?_)
  rw [fX11_exchanges] at hf
  refine lv_aload_n hx hb dX11_exchanges_0 rfl (lv_at hl 0 rfl) ?_
  refine va_get (D := (dC, dI)) (ci := 11) (v := .ref h_t_cloud) (C := RX11) (T := TX11) (N := 11) hx hb hts in_X11 hown hK hP 0 rfl rfl 0 (Nat.le_of_ble_eq_true rfl) (hts _ qf_X11_12) (fun _ h9 => h9) rfl dX11_exchanges_1 ?_
  refine lv_iload_n hx hb dX11_exchanges_4 rfl (lv_at hl 1 rfl) ?_
  refine lv_iload_n hx hb dX11_exchanges_5 rfl (lv_at hl 2 rfl) ?_
  refine lv_iload_n hx hb dX11_exchanges_6 rfl (lv_at hl 3 rfl) ?_
  obtain ⟨r_1, hq_2, hf⟩ := b1_some hf
  refine xci (wr := [(h_t, .inr (11, [.ref h_t_cloud, .ref h_t_reader, .ref h_t_hull, .ref h_t_near, .ref h_t_firstTie, .ref h_t_reducer, .ref h_t_chooser, .ref h_t_pair, .ref h_t_divider, .ref h_t_depths, .ref h_t_spot])), (h_t_cloud_x, .inl (cI, 24, .inl t_cloud_x)), (h_t_cloud_y, .inl (cI, 24, .inl t_cloud_y)), (h_t_chooser, .inr (7, [.ref h_t_chooser_chosen, .ref h_t_chooser_mixed, .ref h_t_chooser_near, .int t_chooser_gone, .int t_chooser_stuck, .int t_chooser_longest, .int t_chooser_side])), (h_t_chooser_chosen, .inl (cI, 3, .inl t_chooser_chosen)), (h_t_chooser_near, .inr (4, [.long t_chooser_near_x, .long t_chooser_near_y, .long t_chooser_near_lower, .long t_chooser_near_square, .long t_chooser_near_squareLower, .int t_chooser_near_fromX, .int t_chooser_near_fromY]))]) (w2 := [(h_t, .inr (11, [.ref h_t_cloud, .ref h_t_reader, .ref h_t_hull, .ref h_t_near, .ref h_t_firstTie, .ref h_t_reducer, .ref h_t_chooser, .ref h_t_pair, .ref h_t_divider, .ref h_t_depths, .ref h_t_spot])), (h_t_cloud, .inr (0, [.ref h_t_cloud_x, .ref h_t_cloud_y, .ref h_t_cloud_colour, .ref h_t_cloud_load, .int t_cloud_size, .int t_cloud_centreX, .int t_cloud_centreY])), (h_t_cloud_x, .inl (cI, 24, .inl t_cloud_x)), (h_t_cloud_y, .inl (cI, 24, .inl t_cloud_y)), (h_t_cloud_colour, .inl (cI, 24, .inl t_cloud_colour)), (h_t_chooser, .inr (7, [.ref h_t_chooser_chosen, .ref h_t_chooser_mixed, .ref h_t_chooser_near, .int t_chooser_gone, .int t_chooser_stuck, .int t_chooser_longest, .int t_chooser_side])), (h_t_chooser_chosen, .inl (cI, 3, .inl t_chooser_chosen)), (h_t_chooser_near, .inr (4, [.long t_chooser_near_x, .long t_chooser_near_y, .long t_chooser_near_lower, .long t_chooser_near_square, .long t_chooser_near_squareLower, .int t_chooser_near_fromX, .int t_chooser_near_fromY]))]) (va_runV (As := [.int a1, .int a2, .int a3]) (rest := []) ⟨hx, hb, hml, hown, hts⟩ (mtX0_isRainbow l dC dI cI cL cB K h_t_cloud h_t_cloud_x h_t_cloud_y h_t_cloud_colour h_t_cloud_load H.size t_cloud_size t_cloud_centreX t_cloud_centreY t_cloud_colour a1 a2 a3 r_1 hq_2) (cwV 3 hts gv_X11_269 rfl rfl rfl hdV_X0_isRainbow ⟨Nat.le_trans (Nat.le_of_ble_eq_true rfl) hF, Nat.le_trans (Nat.le_of_ble_eq_true rfl) hLo⟩) (cPreV hK hP hD hT [1, 4] rfl rfl (ci := 0) (q0 := 0) rfl rfl) rfl rfl hl.1 rfl (lv_room (Nat.le_of_ble_eq_true rfl)) dX11_exchanges_7 ⟨Nat.zero_le _, Nat.zero_le _⟩) hP hD hS hA [1, 4] [0, 2, 3, 5, 6, 7] [0, 6, 1, 2, 7, 3, 4, 5] rfl rfl rfl rfl rfl rfl (fun H locs hP hD hS => ?_)
  refine lv_if_ne (tgt := 16) hx hb dX11_exchanges_10 (by decide) (fun hc => ?_) (fun hc => ?_)
  · replace hf := it_f (hc) hf
    refine lv_aload_n hx hb dX11_exchanges_16 rfl (lv_at hl 0 rfl) ?_
    refine va_get (D := (dC, dI)) (ci := 11) (v := .ref h_t_chooser) (C := RX11) (T := TX11) (N := 11) hx hb hts in_X11 hown hK hP 0 rfl rfl 6 (Nat.le_of_ble_eq_true rfl) (hts _ qf_X11_56) (fun _ h9 => h9) rfl dX11_exchanges_17 ?_
    refine lv_iload_n hx hb dX11_exchanges_20 rfl (lv_at hl 1 rfl) ?_
    refine lv_iload_n hx hb dX11_exchanges_21 rfl (lv_at hl 2 rfl) ?_
    refine lv_iload_n hx hb dX11_exchanges_22 rfl (lv_at hl 3 rfl) ?_
    obtain ⟨t_chooser_chosen_3, hq_4, hf⟩ := b1_some hf
    refine xcv (wr := [(h_t, .inr (11, [.ref h_t_cloud, .ref h_t_reader, .ref h_t_hull, .ref h_t_near, .ref h_t_firstTie, .ref h_t_reducer, .ref h_t_chooser, .ref h_t_pair, .ref h_t_divider, .ref h_t_depths, .ref h_t_spot])), (h_t_cloud, .inr (0, [.ref h_t_cloud_x, .ref h_t_cloud_y, .ref h_t_cloud_colour, .ref h_t_cloud_load, .int t_cloud_size, .int t_cloud_centreX, .int t_cloud_centreY])), (h_t_cloud_x, .inl (cI, 24, .inl t_cloud_x)), (h_t_cloud_y, .inl (cI, 24, .inl t_cloud_y)), (h_t_cloud_colour, .inl (cI, 24, .inl t_cloud_colour)), (h_t_chooser_near, .inr (4, [.long t_chooser_near_x, .long t_chooser_near_y, .long t_chooser_near_lower, .long t_chooser_near_square, .long t_chooser_near_squareLower, .int t_chooser_near_fromX, .int t_chooser_near_fromY]))]) (w2 := [(h_t, .inr (11, [.ref h_t_cloud, .ref h_t_reader, .ref h_t_hull, .ref h_t_near, .ref h_t_firstTie, .ref h_t_reducer, .ref h_t_chooser, .ref h_t_pair, .ref h_t_divider, .ref h_t_depths, .ref h_t_spot])), (h_t_cloud, .inr (0, [.ref h_t_cloud_x, .ref h_t_cloud_y, .ref h_t_cloud_colour, .ref h_t_cloud_load, .int t_cloud_size, .int t_cloud_centreX, .int t_cloud_centreY])), (h_t_cloud_x, .inl (cI, 24, .inl t_cloud_x)), (h_t_cloud_y, .inl (cI, 24, .inl t_cloud_y)), (h_t_cloud_colour, .inl (cI, 24, .inl t_cloud_colour)), (h_t_chooser, .inr (7, [.ref h_t_chooser_chosen, .ref h_t_chooser_mixed, .ref h_t_chooser_near, .int t_chooser_gone, .int t_chooser_stuck, .int t_chooser_longest, .int t_chooser_side])), (h_t_chooser_chosen, .inl (cI, 3, .inl t_chooser_chosen_3)), (h_t_chooser_near, .inr (4, [.long t_chooser_near_x, .long t_chooser_near_y, .long t_chooser_near_lower, .long t_chooser_near_square, .long t_chooser_near_squareLower, .int t_chooser_near_fromX, .int t_chooser_near_fromY]))]) (va_runV (As := [.int a1, .int a2, .int a3]) (rest := []) ⟨hx, hb, hml, hown, hts⟩ (mtX7_choose l dC dI cI cL cB K h_t_chooser h_t_chooser_chosen h_t_chooser_mixed h_t_chooser_near H.size t_chooser_gone t_chooser_stuck t_chooser_longest t_chooser_side t_chooser_chosen a1 a2 a3 t_chooser_chosen_3 hq_4) (cwV 3 hts gv_X11_273 rfl rfl rfl hdV_X7_choose ⟨Nat.le_trans (Nat.le_of_ble_eq_true rfl) hF, Nat.le_trans (Nat.le_of_ble_eq_true rfl) hLo⟩) (cPreV hK hP hD hT [5, 6] rfl rfl (ci := 7) (q0 := 0) rfl rfl) rfl rfl hl.1 rfl (lv_room (Nat.le_of_ble_eq_true rfl)) dX11_exchanges_23 ⟨Nat.zero_le _, Nat.zero_le _⟩) hP hD hS hA [5, 6] [0, 1, 2, 3, 4, 7] [0, 1, 2, 3, 4, 6, 7, 5] rfl rfl rfl rfl rfl rfl (fun H locs hP hD hS => ?_)
    refine lv_aload_n hx hb dX11_exchanges_26 rfl (lv_at hl 0 rfl) ?_
    refine va_get (D := (dC, dI)) (ci := 11) (v := .ref h_t_chooser) (C := RX11) (T := TX11) (N := 11) hx hb hts in_X11 hown hK hP 0 rfl rfl 6 (Nat.le_of_ble_eq_true rfl) (hts _ qf_X11_56) (fun _ h9 => h9) rfl dX11_exchanges_27 ?_
    refine lv_aload_n hx hb dX11_exchanges_30 rfl (lv_at hl 0 rfl) ?_
    refine va_get (D := (dC, dI)) (ci := 11) (v := .ref h_t_cloud) (C := RX11) (T := TX11) (N := 11) hx hb hts in_X11 hown hK hP 0 rfl rfl 0 (Nat.le_of_ble_eq_true rfl) (hts _ qf_X11_12) (fun _ h9 => h9) rfl dX11_exchanges_31 ?_
    refine lv_sipush (v := (512 : Int32)) hx hb dX11_exchanges_34 (by decide) ?_
    obtain ⟨r_5, t_chooser_gone_6, t_chooser_side_7, t_chooser_chosen_8, t_chooser_near_x_9, t_chooser_near_y_10, t_chooser_near_lower_11, t_chooser_near_square_12, t_chooser_near_squareLower_13, t_chooser_near_fromX_14, t_chooser_near_fromY_15, hq_16, hf⟩ := b11_some hf
    refine xci (wr := [(h_t, .inr (11, [.ref h_t_cloud, .ref h_t_reader, .ref h_t_hull, .ref h_t_near, .ref h_t_firstTie, .ref h_t_reducer, .ref h_t_chooser, .ref h_t_pair, .ref h_t_divider, .ref h_t_depths, .ref h_t_spot]))]) (w2 := [(h_t, .inr (11, [.ref h_t_cloud, .ref h_t_reader, .ref h_t_hull, .ref h_t_near, .ref h_t_firstTie, .ref h_t_reducer, .ref h_t_chooser, .ref h_t_pair, .ref h_t_divider, .ref h_t_depths, .ref h_t_spot])), (h_t_cloud, .inr (0, [.ref h_t_cloud_x, .ref h_t_cloud_y, .ref h_t_cloud_colour, .ref h_t_cloud_load, .int t_cloud_size, .int t_cloud_centreX, .int t_cloud_centreY])), (h_t_cloud_x, .inl (cI, 24, .inl t_cloud_x)), (h_t_cloud_y, .inl (cI, 24, .inl t_cloud_y)), (h_t_cloud_colour, .inl (cI, 24, .inl t_cloud_colour)), (h_t_chooser, .inr (7, [.ref h_t_chooser_chosen, .ref h_t_chooser_mixed, .ref h_t_chooser_near, .int t_chooser_gone_6, .int t_chooser_stuck, .int t_chooser_longest, .int t_chooser_side_7])), (h_t_chooser_chosen, .inl (cI, 3, .inl t_chooser_chosen_8)), (h_t_chooser_near, .inr (4, [.long t_chooser_near_x_9, .long t_chooser_near_y_10, .long t_chooser_near_lower_11, .long t_chooser_near_square_12, .long t_chooser_near_squareLower_13, .int t_chooser_near_fromX_14, .int t_chooser_near_fromY_15]))]) (va_runV (As := [.ref h_t_cloud, .int (512 : Int32)]) (rest := []) ⟨hx, hb, hml, hown, hts⟩ (mtX7_run l dC dI cI cL cB K h_t_chooser h_t_chooser_chosen h_t_chooser_mixed h_t_chooser_near h_t_cloud h_t_cloud_x h_t_cloud_y h_t_cloud_colour h_t_cloud_load H.size t_chooser_gone t_chooser_stuck t_chooser_longest t_chooser_side t_chooser_chosen_3 t_chooser_near_x t_chooser_near_y t_chooser_near_lower t_chooser_near_square t_chooser_near_squareLower t_chooser_near_fromX t_chooser_near_fromY t_cloud_size t_cloud_centreX t_cloud_centreY t_cloud_x t_cloud_y t_cloud_colour (512 : Int32) r_5 t_chooser_gone_6 t_chooser_side_7 t_chooser_chosen_8 t_chooser_near_x_9 t_chooser_near_y_10 t_chooser_near_lower_11 t_chooser_near_square_12 t_chooser_near_squareLower_13 t_chooser_near_fromX_14 t_chooser_near_fromY_15 hq_16) (cwV 2 hts gv_X11_284 rfl rfl rfl hdV_X7_run ⟨Nat.le_trans (Nat.le_of_ble_eq_true rfl) hF, Nat.le_trans (Nat.le_of_ble_eq_true rfl) hLo⟩) (cPreV hK hP hD hT [5, 6, 7, 1, 2, 3, 4] rfl rfl (ci := 7) (q0 := 0) rfl rfl) rfl rfl hl.1 rfl (lv_room (Nat.le_of_ble_eq_true rfl)) dX11_exchanges_37 ⟨Nat.zero_le _, Nat.zero_le _⟩) hP hD hS hA [5, 6, 7, 1, 2, 3, 4] [0] [0, 4, 5, 6, 7, 1, 2, 3] rfl rfl rfl rfl rfl rfl (fun H locs hP hD hS => ?_)
    refine lv_istore (lv' := [(5, .int r_5), (0, .ref h_t), (1, .int a1), (2, .int a2), (3, .int a3), (4, .int a4)]) hx hb dX11_exchanges_40 hl (Nat.le_of_ble_eq_true rfl) rfl (fun ls hl => ?_)
    refine lv_iload hx hb dX11_exchanges_42 (lv_at hl 5 rfl) ?_
    by_cases hk_17 : a4 = (0 : Int32)
    · replace hf := it_t hk_17 hf
      refine lv_lookup (off := 28) (tgt := 72) hx hb dX11_exchanges_44 (by decide) (by rw [hk_17]; decide) (by decide) ?_
      refine lv_iload hx hb dX11_exchanges_72 (lv_at hl 0 rfl) ?_
      obtain ⟨rfl, rfl, rfl, rfl, rfl, rfl, rfl, rfl, rfl, rfl, rfl⟩ := o11 hf
      exact W.iret hx hb hr (fun t ht hW => ⟨⟨_, (), rfl, rfl, by rw [ht]; exact hP, hD⟩, hS.F ht⟩) hS.2.2 dX11_exchanges_74
    · replace hf := it_f hk_17 hf
      by_cases hk_18 : a4 = (1 : Int32)
      · replace hf := it_t hk_18 hf
        refine lv_lookup (off := 31) (tgt := 75) hx hb dX11_exchanges_44 (by decide) (by rw [hk_18]; decide) (by decide) ?_
        refine lv_aload_n hx hb dX11_exchanges_75 rfl (lv_at hl 1 rfl) ?_
        refine va_get (D := (dC, dI)) (ci := 11) (v := .ref h_t_chooser) (C := RX11) (T := TX11) (N := 11) hx hb hts in_X11 hown hK hP 0 rfl rfl 6 (Nat.le_of_ble_eq_true rfl) (hts _ qf_X11_56) (fun _ h9 => h9) rfl dX11_exchanges_76 ?_
        refine va_get (D := (dC, dI)) (ci := 7) (v := .ref h_t_chooser_near) (C := RX7) (T := TX7) (N := 7) hx hb hts in_X7 hown hK hP 5 rfl rfl 2 (Nat.le_of_ble_eq_true rfl) (hts _ qf_X11_285) (fun _ h9 => h9) rfl dX11_exchanges_79 ?_
        refine va_get (D := (dC, dI)) (ci := 4) (v := .long t_chooser_near_square_12) (C := RX4) (T := TX4) (N := 7) hx hb hts in_X4 hown hK hP 7 rfl rfl 3 (Nat.le_of_ble_eq_true rfl) (hts _ qf_X11_192) (fun _ h9 => h9) rfl dX11_exchanges_82 ?_
        refine lv_lconst (v := (0 : Int64)) hx hb dX11_exchanges_85 (by decide) ?_
        refine W.lcmp hx hb dX11_exchanges_86 ?_
        refine lv_if_ne (tgt := 94) hx hb dX11_exchanges_87 (by decide) (fun hc => ?_) (fun hc => ?_)
        · replace hf := it_f (fun h9 => hc ((lg_cmp_eq _ _).mpr h9)) hf
          refine lv_iconst (v := (0 : Int32)) hx hb dX11_exchanges_94 (by decide) ?_
          obtain ⟨rfl, rfl, rfl, rfl, rfl, rfl, rfl, rfl, rfl, rfl, rfl⟩ := o11 hf
          exact W.iret hx hb hr (fun t ht hW => ⟨⟨_, (), rfl, rfl, by rw [ht]; exact hP, hD⟩, hS.F ht⟩) hS.2.2 dX11_exchanges_95
        · replace hf := it_t ((lg_cmp_eq _ _).mp hc) hf
          refine lv_iconst (v := (1 : Int32)) hx hb dX11_exchanges_90 (by decide) ?_
          refine lv_goto (tgt := 95) hx hb dX11_exchanges_91 (by decide) ?_
          obtain ⟨rfl, rfl, rfl, rfl, rfl, rfl, rfl, rfl, rfl, rfl, rfl⟩ := o11 hf
          exact W.iret hx hb hr (fun t ht hW => ⟨⟨_, (), rfl, rfl, by rw [ht]; exact hP, hD⟩, hS.F ht⟩) hS.2.2 dX11_exchanges_95
      · replace hf := it_f hk_18 hf
        refine lv_lookup (off := 52) (tgt := 96) hx hb dX11_exchanges_44 (by decide) ((lv_osw (k := (0 : Int32)) hk_17 (by decide)).trans ((lv_osw (k := (1 : Int32)) hk_18 (by decide)).trans rfl)) (by decide) ?_
        refine lv_bipush (v := (-2 : Int32)) hx hb dX11_exchanges_96 (by decide) ?_
        obtain ⟨rfl, rfl, rfl, rfl, rfl, rfl, rfl, rfl, rfl, rfl, rfl⟩ := o11 hf
        exact W.iret hx hb hr (fun t ht hW => ⟨⟨_, (), rfl, rfl, by rw [ht]; exact hP, hD⟩, hS.F ht⟩) hS.2.2 dX11_exchanges_98
  · replace hf := it_t (hc) hf
    refine lv_bipush (v := (-2 : Int32)) hx hb dX11_exchanges_13 (by decide) ?_
    obtain ⟨rfl, rfl, rfl, rfl, rfl, rfl, rfl, rfl, rfl, rfl, rfl⟩ := o11 hf
    exact W.iret hx hb hr (fun t ht hW => ⟨⟨_, (), rfl, rfl, by rw [ht]; exact hP, hD⟩, hS.F ht⟩) hS.2.2 dX11_exchanges_15
theorem dX11_exchanged_0 : decode cX11_exchanged 0 = .ok (.aload_n 0, 1) := by decide +kernel
theorem dX11_exchanged_1 : decode cX11_exchanged 1 = .ok (.getfield 12, 3) := by decide +kernel
theorem dX11_exchanged_4 : decode cX11_exchanged 4 = .ok (.iload_n 1, 1) := by decide +kernel
theorem dX11_exchanged_5 : decode cX11_exchanged 5 = .ok (.iload_n 2, 1) := by decide +kernel
theorem dX11_exchanged_6 : decode cX11_exchanged 6 = .ok (.iload_n 3, 1) := by decide +kernel
theorem dX11_exchanged_7 : decode cX11_exchanged 7 = .ok (.invokevirtual 269, 3) := by decide +kernel
theorem dX11_exchanged_10 : decode cX11_exchanged 10 = .ok (.ifCond .eq 8, 3) := by decide +kernel
theorem dX11_exchanged_13 : decode cX11_exchanged 13 = .ok (.iload 4, 2) := by decide +kernel
theorem dX11_exchanged_15 : decode cX11_exchanged 15 = .ok (.ifCond .ge 6, 3) := by decide +kernel
theorem dX11_exchanged_18 : decode cX11_exchanged 18 = .ok (.bipush (-2), 2) := by decide +kernel
theorem dX11_exchanged_20 : decode cX11_exchanged 20 = .ok (.ireturn, 1) := by decide +kernel
theorem dX11_exchanged_21 : decode cX11_exchanged 21 = .ok (.aload_n 0, 1) := by decide +kernel
theorem dX11_exchanged_22 : decode cX11_exchanged 22 = .ok (.getfield 56, 3) := by decide +kernel
theorem dX11_exchanged_25 : decode cX11_exchanged 25 = .ok (.iload_n 1, 1) := by decide +kernel
theorem dX11_exchanged_26 : decode cX11_exchanged 26 = .ok (.iload_n 2, 1) := by decide +kernel
theorem dX11_exchanged_27 : decode cX11_exchanged 27 = .ok (.iload_n 3, 1) := by decide +kernel
theorem dX11_exchanged_28 : decode cX11_exchanged 28 = .ok (.invokevirtual 273, 3) := by decide +kernel
theorem dX11_exchanged_31 : decode cX11_exchanged 31 = .ok (.aload_n 0, 1) := by decide +kernel
theorem dX11_exchanged_32 : decode cX11_exchanged 32 = .ok (.getfield 56, 3) := by decide +kernel
theorem dX11_exchanged_35 : decode cX11_exchanged 35 = .ok (.aload_n 0, 1) := by decide +kernel
theorem dX11_exchanged_36 : decode cX11_exchanged 36 = .ok (.getfield 12, 3) := by decide +kernel
theorem dX11_exchanged_39 : decode cX11_exchanged 39 = .ok (.iload 4, 2) := by decide +kernel
theorem dX11_exchanged_41 : decode cX11_exchanged 41 = .ok (.invokevirtual 284, 3) := by decide +kernel
theorem dX11_exchanged_44 : decode cX11_exchanged 44 = .ok (.iload 4, 2) := by decide +kernel
theorem dX11_exchanged_46 : decode cX11_exchanged 46 = .ok (.if_icmp .eq 6, 3) := by decide +kernel
theorem dX11_exchanged_49 : decode cX11_exchanged 49 = .ok (.bipush (-2), 2) := by decide +kernel
theorem dX11_exchanged_51 : decode cX11_exchanged 51 = .ok (.ireturn, 1) := by decide +kernel
theorem dX11_exchanged_52 : decode cX11_exchanged 52 = .ok (.iload 5, 2) := by decide +kernel
theorem dX11_exchanged_54 : decode cX11_exchanged 54 = .ok (.tableswitch 49 0 3 #[30, 30, 30, 41], 30) := by decide +kernel
theorem dX11_exchanged_84 : decode cX11_exchanged 84 = .ok (.aload_n 0, 1) := by decide +kernel
theorem dX11_exchanged_85 : decode cX11_exchanged 85 = .ok (.getfield 56, 3) := by decide +kernel
theorem dX11_exchanged_88 : decode cX11_exchanged 88 = .ok (.getfield 266, 3) := by decide +kernel
theorem dX11_exchanged_91 : decode cX11_exchanged 91 = .ok (.iload 5, 2) := by decide +kernel
theorem dX11_exchanged_93 : decode cX11_exchanged 93 = .ok (.iaload, 1) := by decide +kernel
theorem dX11_exchanged_94 : decode cX11_exchanged 94 = .ok (.ireturn, 1) := by decide +kernel
theorem dX11_exchanged_95 : decode cX11_exchanged 95 = .ok (.aload_n 0, 1) := by decide +kernel
theorem dX11_exchanged_96 : decode cX11_exchanged 96 = .ok (.getfield 56, 3) := by decide +kernel
theorem dX11_exchanged_99 : decode cX11_exchanged 99 = .ok (.getfield 286, 3) := by decide +kernel
theorem dX11_exchanged_102 : decode cX11_exchanged 102 = .ok (.ireturn, 1) := by decide +kernel
theorem dX11_exchanged_103 : decode cX11_exchanged 103 = .ok (.bipush (-2), 2) := by decide +kernel
theorem dX11_exchanged_105 : decode cX11_exchanged 105 = .ok (.ireturn, 1) := by decide +kernel
set_option maxRecDepth 100000 in
set_option maxHeartbeats 4000000 in
theorem mtX11_exchanged (l : Launch) (dC : Nat → ClassId) (dI : Nat → Nat → Nat) (cI cL cB : ClassId) (K : Nat) (h_t h_t_cloud h_t_reader h_t_hull h_t_near h_t_firstTie h_t_reducer h_t_chooser h_t_pair h_t_divider h_t_depths h_t_spot h_t_cloud_x h_t_cloud_y h_t_cloud_colour h_t_cloud_load h_t_chooser_chosen h_t_chooser_mixed h_t_chooser_near : Nat) (sz : Nat) (t_cloud_size : Int32) (t_cloud_centreX : Int32) (t_cloud_centreY : Int32) (t_cloud_x : Nat → Int32) (t_cloud_y : Nat → Int32) (t_cloud_colour : Nat → Int32) (t_chooser_gone : Int32) (t_chooser_stuck : Int32) (t_chooser_longest : Int32) (t_chooser_side : Int32) (t_chooser_chosen : Nat → Int32) (t_chooser_near_x : Int64) (t_chooser_near_y : Int64) (t_chooser_near_lower : Int64) (t_chooser_near_square : Int64) (t_chooser_near_squareLower : Int64) (t_chooser_near_fromX : Int32) (t_chooser_near_fromY : Int32) (a1 : Int32) (a2 : Int32) (a3 : Int32) (a4 : Int32) (a5 : Int32) (o_r : Int32) (o_t_chooser_gone : Int32) (o_t_chooser_side : Int32) (o_t_chooser_chosen : Nat → Int32) (o_t_chooser_near_x : Int64) (o_t_chooser_near_y : Int64) (o_t_chooser_near_lower : Int64) (o_t_chooser_near_square : Int64) (o_t_chooser_near_squareLower : Int64) (o_t_chooser_near_fromX : Int32) (o_t_chooser_near_fromY : Int32) (hf : fX11_exchanged K t_cloud_size t_cloud_centreX t_cloud_centreY t_cloud_x t_cloud_y t_cloud_colour t_chooser_gone t_chooser_side t_chooser_chosen t_chooser_near_x t_chooser_near_y t_chooser_near_lower t_chooser_near_square t_chooser_near_squareLower t_chooser_near_fromX t_chooser_near_fromY a1 a2 a3 a4 a5 = some (o_r, o_t_chooser_gone, o_t_chooser_side, o_t_chooser_chosen, o_t_chooser_near_x, o_t_chooser_near_y, o_t_chooser_near_lower, o_t_chooser_near_square, o_t_chooser_near_squareLower, o_t_chooser_near_fromX, o_t_chooser_near_fromY)) : Met l yX11_exchanged [Cond.code yX11_exchanged cX11_exchanged 6 (some .int)] ({ frames := 5, cells := 0, slots := 0, locals := 144 }) (va_Pc [.ref h_t, .int a1, .int a2, .int a3, .int a4, .int a5] (cPre dC dI cI cL cB sz [(h_t, .inr (11, [.ref h_t_cloud, .ref h_t_reader, .ref h_t_hull, .ref h_t_near, .ref h_t_firstTie, .ref h_t_reducer, .ref h_t_chooser, .ref h_t_pair, .ref h_t_divider, .ref h_t_depths, .ref h_t_spot])), (h_t_cloud, .inr (0, [.ref h_t_cloud_x, .ref h_t_cloud_y, .ref h_t_cloud_colour, .ref h_t_cloud_load, .int t_cloud_size, .int t_cloud_centreX, .int t_cloud_centreY])), (h_t_cloud_x, .inl (cI, 24, .inl t_cloud_x)), (h_t_cloud_y, .inl (cI, 24, .inl t_cloud_y)), (h_t_cloud_colour, .inl (cI, 24, .inl t_cloud_colour)), (h_t_chooser, .inr (7, [.ref h_t_chooser_chosen, .ref h_t_chooser_mixed, .ref h_t_chooser_near, .int t_chooser_gone, .int t_chooser_stuck, .int t_chooser_longest, .int t_chooser_side])), (h_t_chooser_chosen, .inl (cI, 3, .inl t_chooser_chosen)), (h_t_chooser_near, .inr (4, [.long t_chooser_near_x, .long t_chooser_near_y, .long t_chooser_near_lower, .long t_chooser_near_square, .long t_chooser_near_squareLower, .int t_chooser_near_fromX, .int t_chooser_near_fromY]))])) (cQi dC dI (va_A [(h_t, .inr (11, [.ref h_t_cloud, .ref h_t_reader, .ref h_t_hull, .ref h_t_near, .ref h_t_firstTie, .ref h_t_reducer, .ref h_t_chooser, .ref h_t_pair, .ref h_t_divider, .ref h_t_depths, .ref h_t_spot])), (h_t_cloud, .inr (0, [.ref h_t_cloud_x, .ref h_t_cloud_y, .ref h_t_cloud_colour, .ref h_t_cloud_load, .int t_cloud_size, .int t_cloud_centreX, .int t_cloud_centreY])), (h_t_cloud_x, .inl (cI, 24, .inl t_cloud_x)), (h_t_cloud_y, .inl (cI, 24, .inl t_cloud_y)), (h_t_cloud_colour, .inl (cI, 24, .inl t_cloud_colour)), (h_t_chooser, .inr (7, [.ref h_t_chooser_chosen, .ref h_t_chooser_mixed, .ref h_t_chooser_near, .int t_chooser_gone, .int t_chooser_stuck, .int t_chooser_longest, .int t_chooser_side])), (h_t_chooser_chosen, .inl (cI, 3, .inl t_chooser_chosen)), (h_t_chooser_near, .inr (4, [.long t_chooser_near_x, .long t_chooser_near_y, .long t_chooser_near_lower, .long t_chooser_near_square, .long t_chooser_near_squareLower, .int t_chooser_near_fromX, .int t_chooser_near_fromY]))] sz) o_r [(h_t, .inr (11, [.ref h_t_cloud, .ref h_t_reader, .ref h_t_hull, .ref h_t_near, .ref h_t_firstTie, .ref h_t_reducer, .ref h_t_chooser, .ref h_t_pair, .ref h_t_divider, .ref h_t_depths, .ref h_t_spot])), (h_t_cloud, .inr (0, [.ref h_t_cloud_x, .ref h_t_cloud_y, .ref h_t_cloud_colour, .ref h_t_cloud_load, .int t_cloud_size, .int t_cloud_centreX, .int t_cloud_centreY])), (h_t_cloud_x, .inl (cI, 24, .inl t_cloud_x)), (h_t_cloud_y, .inl (cI, 24, .inl t_cloud_y)), (h_t_cloud_colour, .inl (cI, 24, .inl t_cloud_colour)), (h_t_chooser, .inr (7, [.ref h_t_chooser_chosen, .ref h_t_chooser_mixed, .ref h_t_chooser_near, .int o_t_chooser_gone, .int t_chooser_stuck, .int t_chooser_longest, .int o_t_chooser_side])), (h_t_chooser_chosen, .inl (cI, 3, .inl o_t_chooser_chosen)), (h_t_chooser_near, .inr (4, [.long o_t_chooser_near_x, .long o_t_chooser_near_y, .long o_t_chooser_near_lower, .long o_t_chooser_near_square, .long o_t_chooser_near_squareLower, .int o_t_chooser_near_fromX, .int o_t_chooser_near_fromY]))]) 0 0 (va_A [(h_t, .inr (11, [.ref h_t_cloud, .ref h_t_reader, .ref h_t_hull, .ref h_t_near, .ref h_t_firstTie, .ref h_t_reducer, .ref h_t_chooser, .ref h_t_pair, .ref h_t_divider, .ref h_t_depths, .ref h_t_spot])), (h_t_cloud, .inr (0, [.ref h_t_cloud_x, .ref h_t_cloud_y, .ref h_t_cloud_colour, .ref h_t_cloud_load, .int t_cloud_size, .int t_cloud_centreX, .int t_cloud_centreY])), (h_t_cloud_x, .inl (cI, 24, .inl t_cloud_x)), (h_t_cloud_y, .inl (cI, 24, .inl t_cloud_y)), (h_t_cloud_colour, .inl (cI, 24, .inl t_cloud_colour)), (h_t_chooser, .inr (7, [.ref h_t_chooser_chosen, .ref h_t_chooser_mixed, .ref h_t_chooser_near, .int t_chooser_gone, .int t_chooser_stuck, .int t_chooser_longest, .int t_chooser_side])), (h_t_chooser_chosen, .inl (cI, 3, .inl t_chooser_chosen)), (h_t_chooser_near, .inr (4, [.long t_chooser_near_x, .long t_chooser_near_y, .long t_chooser_near_lower, .long t_chooser_near_square, .long t_chooser_near_squareLower, .int t_chooser_near_fromX, .int t_chooser_near_fromY]))] sz) := by
  refine Met.ofW (cc := cX11_exchanged) (maxL := 6) (ret := (some .int)) (by decide) rfl ?_
  intro p e s m args below meth c s₁ B hml hv
  obtain ⟨rfl, hsz, hP, hK, hD0, hT⟩ := hv
  have hx := B.exec
  have hb := B.bytes
  have hr := B.returns
  have hown : s.vm.findClass RX11 = some m.cls := findClass_of_methodNamed B.named
  have hlocks := B.notSynchronized
  have hts := TB.use hT ([.ref h_t, .int a1, .int a2, .int a3, .int a4, .int a5] : List Value).toArray
  subst hsz
  have hD := hD0.self (sz := s.heap.size)
  generalize hAe : va_A [(h_t, .inr (11, [.ref h_t_cloud, .ref h_t_reader, .ref h_t_hull, .ref h_t_near, .ref h_t_firstTie, .ref h_t_reducer, .ref h_t_chooser, .ref h_t_pair, .ref h_t_divider, .ref h_t_depths, .ref h_t_spot])), (h_t_cloud, .inr (0, [.ref h_t_cloud_x, .ref h_t_cloud_y, .ref h_t_cloud_colour, .ref h_t_cloud_load, .int t_cloud_size, .int t_cloud_centreX, .int t_cloud_centreY])), (h_t_cloud_x, .inl (cI, 24, .inl t_cloud_x)), (h_t_cloud_y, .inl (cI, 24, .inl t_cloud_y)), (h_t_cloud_colour, .inl (cI, 24, .inl t_cloud_colour)), (h_t_chooser, .inr (7, [.ref h_t_chooser_chosen, .ref h_t_chooser_mixed, .ref h_t_chooser_near, .int t_chooser_gone, .int t_chooser_stuck, .int t_chooser_longest, .int t_chooser_side])), (h_t_chooser_chosen, .inl (cI, 3, .inl t_chooser_chosen)), (h_t_chooser_near, .inr (4, [.long t_chooser_near_x, .long t_chooser_near_y, .long t_chooser_near_lower, .long t_chooser_near_square, .long t_chooser_near_squareLower, .int t_chooser_near_fromX, .int t_chooser_near_fromY]))] s.heap.size = A at hD ⊢
  have hA : ∀ q : Nat, s.heap.size ≤ q → A q := fun q h => by rw [← hAe]; exact Or.inr h
  clear hAe hD0
  have hl := lv_entry ([.ref h_t, .int a1, .int a2, .int a3, .int a4, .int a5]) (n := 6) (Nat.le_of_ble_eq_true rfl)
  rw [lg_entry_eq]
  generalize (lg_sl ([.ref h_t, .int a1, .int a2, .int a3, .int a4, .int a5]) ++ List.replicate (6 - (lg_sl ([.ref h_t, .int a1, .int a2, .int a3, .int a4, .int a5])).length) Slot.unset).toArray = ls at hl ⊢
  have hl : lv_has ls 6 [(0, .ref h_t), (1, .int a1), (2, .int a2), (3, .int a3), (4, .int a4), (5, .int a5)] := hl
  have hF : 5 ≤ (headSpec [Cond.code yX11_exchanged cX11_exchanged 6 (some .int)] ({ frames := 5, cells := 0, slots := 0, locals := 144 })).room.frames := Nat.le_refl _
  have hLo : 144 ≤ (headSpec [Cond.code yX11_exchanged cX11_exchanged 6 (some .int)] ({ frames := 5, cells := 0, slots := 0, locals := 144 })).room.locals := Nat.le_refl _
  have C0 : Sx p (headSpec [Cond.code yX11_exchanged cX11_exchanged 6 (some .int)] ({ frames := 5, cells := 0, slots := 0, locals := 144 })).room s m ([.ref h_t, .int a1, .int a2, .int a3, .int a4, .int a5] : List Value).toArray c cX11_exchanged 6 RX11 A dC dI cI cL cB 5 144 := ⟨hx, hb, hml, hown, hts, hK, hT, hA, hF, hLo⟩
  refine startH (A := A) hP (fun H locs hP hS => ?_)
  rw [fX11_exchanged] at hf
  refine lv_aload_n hx hb dX11_exchanged_0 rfl (lv_at hl 0 rfl) ?_
  refine va_get (D := (dC, dI)) (ci := 11) (v := .ref h_t_cloud) (C := RX11) (T := TX11) (N := 11) hx hb hts in_X11 hown hK hP 0 rfl rfl 0 (Nat.le_of_ble_eq_true rfl) (hts _ qf_X11_12) (fun _ h9 => h9) rfl dX11_exchanged_1 ?_
  refine lv_iload_n hx hb dX11_exchanged_4 rfl (lv_at hl 1 rfl) ?_
  refine lv_iload_n hx hb dX11_exchanged_5 rfl (lv_at hl 2 rfl) ?_
  refine lv_iload_n hx hb dX11_exchanged_6 rfl (lv_at hl 3 rfl) ?_
  obtain ⟨r_1, hq_2, hf⟩ := b1_some hf
  refine xci (wr := [(h_t, .inr (11, [.ref h_t_cloud, .ref h_t_reader, .ref h_t_hull, .ref h_t_near, .ref h_t_firstTie, .ref h_t_reducer, .ref h_t_chooser, .ref h_t_pair, .ref h_t_divider, .ref h_t_depths, .ref h_t_spot])), (h_t_cloud_x, .inl (cI, 24, .inl t_cloud_x)), (h_t_cloud_y, .inl (cI, 24, .inl t_cloud_y)), (h_t_chooser, .inr (7, [.ref h_t_chooser_chosen, .ref h_t_chooser_mixed, .ref h_t_chooser_near, .int t_chooser_gone, .int t_chooser_stuck, .int t_chooser_longest, .int t_chooser_side])), (h_t_chooser_chosen, .inl (cI, 3, .inl t_chooser_chosen)), (h_t_chooser_near, .inr (4, [.long t_chooser_near_x, .long t_chooser_near_y, .long t_chooser_near_lower, .long t_chooser_near_square, .long t_chooser_near_squareLower, .int t_chooser_near_fromX, .int t_chooser_near_fromY]))]) (w2 := [(h_t, .inr (11, [.ref h_t_cloud, .ref h_t_reader, .ref h_t_hull, .ref h_t_near, .ref h_t_firstTie, .ref h_t_reducer, .ref h_t_chooser, .ref h_t_pair, .ref h_t_divider, .ref h_t_depths, .ref h_t_spot])), (h_t_cloud, .inr (0, [.ref h_t_cloud_x, .ref h_t_cloud_y, .ref h_t_cloud_colour, .ref h_t_cloud_load, .int t_cloud_size, .int t_cloud_centreX, .int t_cloud_centreY])), (h_t_cloud_x, .inl (cI, 24, .inl t_cloud_x)), (h_t_cloud_y, .inl (cI, 24, .inl t_cloud_y)), (h_t_cloud_colour, .inl (cI, 24, .inl t_cloud_colour)), (h_t_chooser, .inr (7, [.ref h_t_chooser_chosen, .ref h_t_chooser_mixed, .ref h_t_chooser_near, .int t_chooser_gone, .int t_chooser_stuck, .int t_chooser_longest, .int t_chooser_side])), (h_t_chooser_chosen, .inl (cI, 3, .inl t_chooser_chosen)), (h_t_chooser_near, .inr (4, [.long t_chooser_near_x, .long t_chooser_near_y, .long t_chooser_near_lower, .long t_chooser_near_square, .long t_chooser_near_squareLower, .int t_chooser_near_fromX, .int t_chooser_near_fromY]))]) (va_runV (As := [.int a1, .int a2, .int a3]) (rest := []) ⟨hx, hb, hml, hown, hts⟩ (mtX0_isRainbow l dC dI cI cL cB K h_t_cloud h_t_cloud_x h_t_cloud_y h_t_cloud_colour h_t_cloud_load H.size t_cloud_size t_cloud_centreX t_cloud_centreY t_cloud_colour a1 a2 a3 r_1 hq_2) (cwV 3 hts gv_X11_269 rfl rfl rfl hdV_X0_isRainbow ⟨Nat.le_trans (Nat.le_of_ble_eq_true rfl) hF, Nat.le_trans (Nat.le_of_ble_eq_true rfl) hLo⟩) (cPreV hK hP hD hT [1, 4] rfl rfl (ci := 0) (q0 := 0) rfl rfl) rfl rfl hl.1 rfl (lv_room (Nat.le_of_ble_eq_true rfl)) dX11_exchanged_7 ⟨Nat.zero_le _, Nat.zero_le _⟩) hP hD hS hA [1, 4] [0, 2, 3, 5, 6, 7] [0, 6, 1, 2, 7, 3, 4, 5] rfl rfl rfl rfl rfl rfl (fun H locs hP hD hS => ?_)
  refine lv_if_eq (tgt := 18) hx hb dX11_exchanged_10 (by decide) (fun hc => ?_) (fun hc => ?_)
  · replace hf := it_t (hc) hf
    refine lv_bipush (v := (-2 : Int32)) hx hb dX11_exchanged_18 (by decide) ?_
    obtain ⟨rfl, rfl, rfl, rfl, rfl, rfl, rfl, rfl, rfl, rfl, rfl⟩ := o11 hf
    exact W.iret hx hb hr (fun t ht hW => ⟨⟨_, (), rfl, rfl, by rw [ht]; exact hP, hD⟩, hS.F ht⟩) hS.2.2 dX11_exchanged_20
  · replace hf := it_f (hc) hf
    refine lv_iload hx hb dX11_exchanged_13 (lv_at hl 4 rfl) ?_
    refine lv_if_ge (tgt := 21) hx hb dX11_exchanged_15 (by decide) (fun hc => ?_) (fun hc => ?_)
    · replace hf := it_t (hc) hf
      refine lv_aload_n hx hb dX11_exchanged_21 rfl (lv_at hl 0 rfl) ?_
      refine va_get (D := (dC, dI)) (ci := 11) (v := .ref h_t_chooser) (C := RX11) (T := TX11) (N := 11) hx hb hts in_X11 hown hK hP 0 rfl rfl 6 (Nat.le_of_ble_eq_true rfl) (hts _ qf_X11_56) (fun _ h9 => h9) rfl dX11_exchanged_22 ?_
      refine lv_iload_n hx hb dX11_exchanged_25 rfl (lv_at hl 1 rfl) ?_
      refine lv_iload_n hx hb dX11_exchanged_26 rfl (lv_at hl 2 rfl) ?_
      refine lv_iload_n hx hb dX11_exchanged_27 rfl (lv_at hl 3 rfl) ?_
      obtain ⟨t_chooser_chosen_3, hq_4, hf⟩ := b1_some hf
      refine xcv (wr := [(h_t, .inr (11, [.ref h_t_cloud, .ref h_t_reader, .ref h_t_hull, .ref h_t_near, .ref h_t_firstTie, .ref h_t_reducer, .ref h_t_chooser, .ref h_t_pair, .ref h_t_divider, .ref h_t_depths, .ref h_t_spot])), (h_t_cloud, .inr (0, [.ref h_t_cloud_x, .ref h_t_cloud_y, .ref h_t_cloud_colour, .ref h_t_cloud_load, .int t_cloud_size, .int t_cloud_centreX, .int t_cloud_centreY])), (h_t_cloud_x, .inl (cI, 24, .inl t_cloud_x)), (h_t_cloud_y, .inl (cI, 24, .inl t_cloud_y)), (h_t_cloud_colour, .inl (cI, 24, .inl t_cloud_colour)), (h_t_chooser_near, .inr (4, [.long t_chooser_near_x, .long t_chooser_near_y, .long t_chooser_near_lower, .long t_chooser_near_square, .long t_chooser_near_squareLower, .int t_chooser_near_fromX, .int t_chooser_near_fromY]))]) (w2 := [(h_t, .inr (11, [.ref h_t_cloud, .ref h_t_reader, .ref h_t_hull, .ref h_t_near, .ref h_t_firstTie, .ref h_t_reducer, .ref h_t_chooser, .ref h_t_pair, .ref h_t_divider, .ref h_t_depths, .ref h_t_spot])), (h_t_cloud, .inr (0, [.ref h_t_cloud_x, .ref h_t_cloud_y, .ref h_t_cloud_colour, .ref h_t_cloud_load, .int t_cloud_size, .int t_cloud_centreX, .int t_cloud_centreY])), (h_t_cloud_x, .inl (cI, 24, .inl t_cloud_x)), (h_t_cloud_y, .inl (cI, 24, .inl t_cloud_y)), (h_t_cloud_colour, .inl (cI, 24, .inl t_cloud_colour)), (h_t_chooser, .inr (7, [.ref h_t_chooser_chosen, .ref h_t_chooser_mixed, .ref h_t_chooser_near, .int t_chooser_gone, .int t_chooser_stuck, .int t_chooser_longest, .int t_chooser_side])), (h_t_chooser_chosen, .inl (cI, 3, .inl t_chooser_chosen_3)), (h_t_chooser_near, .inr (4, [.long t_chooser_near_x, .long t_chooser_near_y, .long t_chooser_near_lower, .long t_chooser_near_square, .long t_chooser_near_squareLower, .int t_chooser_near_fromX, .int t_chooser_near_fromY]))]) (va_runV (As := [.int a1, .int a2, .int a3]) (rest := []) ⟨hx, hb, hml, hown, hts⟩ (mtX7_choose l dC dI cI cL cB K h_t_chooser h_t_chooser_chosen h_t_chooser_mixed h_t_chooser_near H.size t_chooser_gone t_chooser_stuck t_chooser_longest t_chooser_side t_chooser_chosen a1 a2 a3 t_chooser_chosen_3 hq_4) (cwV 3 hts gv_X11_273 rfl rfl rfl hdV_X7_choose ⟨Nat.le_trans (Nat.le_of_ble_eq_true rfl) hF, Nat.le_trans (Nat.le_of_ble_eq_true rfl) hLo⟩) (cPreV hK hP hD hT [5, 6] rfl rfl (ci := 7) (q0 := 0) rfl rfl) rfl rfl hl.1 rfl (lv_room (Nat.le_of_ble_eq_true rfl)) dX11_exchanged_28 ⟨Nat.zero_le _, Nat.zero_le _⟩) hP hD hS hA [5, 6] [0, 1, 2, 3, 4, 7] [0, 1, 2, 3, 4, 6, 7, 5] rfl rfl rfl rfl rfl rfl (fun H locs hP hD hS => ?_)
      refine lv_aload_n hx hb dX11_exchanged_31 rfl (lv_at hl 0 rfl) ?_
      refine va_get (D := (dC, dI)) (ci := 11) (v := .ref h_t_chooser) (C := RX11) (T := TX11) (N := 11) hx hb hts in_X11 hown hK hP 0 rfl rfl 6 (Nat.le_of_ble_eq_true rfl) (hts _ qf_X11_56) (fun _ h9 => h9) rfl dX11_exchanged_32 ?_
      refine lv_aload_n hx hb dX11_exchanged_35 rfl (lv_at hl 0 rfl) ?_
      refine va_get (D := (dC, dI)) (ci := 11) (v := .ref h_t_cloud) (C := RX11) (T := TX11) (N := 11) hx hb hts in_X11 hown hK hP 0 rfl rfl 0 (Nat.le_of_ble_eq_true rfl) (hts _ qf_X11_12) (fun _ h9 => h9) rfl dX11_exchanged_36 ?_
      refine lv_iload hx hb dX11_exchanged_39 (lv_at hl 4 rfl) ?_
      obtain ⟨r_5, t_chooser_gone_6, t_chooser_side_7, t_chooser_chosen_8, t_chooser_near_x_9, t_chooser_near_y_10, t_chooser_near_lower_11, t_chooser_near_square_12, t_chooser_near_squareLower_13, t_chooser_near_fromX_14, t_chooser_near_fromY_15, hq_16, hf⟩ := b11_some hf
      refine xci (wr := [(h_t, .inr (11, [.ref h_t_cloud, .ref h_t_reader, .ref h_t_hull, .ref h_t_near, .ref h_t_firstTie, .ref h_t_reducer, .ref h_t_chooser, .ref h_t_pair, .ref h_t_divider, .ref h_t_depths, .ref h_t_spot]))]) (w2 := [(h_t, .inr (11, [.ref h_t_cloud, .ref h_t_reader, .ref h_t_hull, .ref h_t_near, .ref h_t_firstTie, .ref h_t_reducer, .ref h_t_chooser, .ref h_t_pair, .ref h_t_divider, .ref h_t_depths, .ref h_t_spot])), (h_t_cloud, .inr (0, [.ref h_t_cloud_x, .ref h_t_cloud_y, .ref h_t_cloud_colour, .ref h_t_cloud_load, .int t_cloud_size, .int t_cloud_centreX, .int t_cloud_centreY])), (h_t_cloud_x, .inl (cI, 24, .inl t_cloud_x)), (h_t_cloud_y, .inl (cI, 24, .inl t_cloud_y)), (h_t_cloud_colour, .inl (cI, 24, .inl t_cloud_colour)), (h_t_chooser, .inr (7, [.ref h_t_chooser_chosen, .ref h_t_chooser_mixed, .ref h_t_chooser_near, .int t_chooser_gone_6, .int t_chooser_stuck, .int t_chooser_longest, .int t_chooser_side_7])), (h_t_chooser_chosen, .inl (cI, 3, .inl t_chooser_chosen_8)), (h_t_chooser_near, .inr (4, [.long t_chooser_near_x_9, .long t_chooser_near_y_10, .long t_chooser_near_lower_11, .long t_chooser_near_square_12, .long t_chooser_near_squareLower_13, .int t_chooser_near_fromX_14, .int t_chooser_near_fromY_15]))]) (va_runV (As := [.ref h_t_cloud, .int a4]) (rest := []) ⟨hx, hb, hml, hown, hts⟩ (mtX7_run l dC dI cI cL cB K h_t_chooser h_t_chooser_chosen h_t_chooser_mixed h_t_chooser_near h_t_cloud h_t_cloud_x h_t_cloud_y h_t_cloud_colour h_t_cloud_load H.size t_chooser_gone t_chooser_stuck t_chooser_longest t_chooser_side t_chooser_chosen_3 t_chooser_near_x t_chooser_near_y t_chooser_near_lower t_chooser_near_square t_chooser_near_squareLower t_chooser_near_fromX t_chooser_near_fromY t_cloud_size t_cloud_centreX t_cloud_centreY t_cloud_x t_cloud_y t_cloud_colour a4 r_5 t_chooser_gone_6 t_chooser_side_7 t_chooser_chosen_8 t_chooser_near_x_9 t_chooser_near_y_10 t_chooser_near_lower_11 t_chooser_near_square_12 t_chooser_near_squareLower_13 t_chooser_near_fromX_14 t_chooser_near_fromY_15 hq_16) (cwV 2 hts gv_X11_284 rfl rfl rfl hdV_X7_run ⟨Nat.le_trans (Nat.le_of_ble_eq_true rfl) hF, Nat.le_trans (Nat.le_of_ble_eq_true rfl) hLo⟩) (cPreV hK hP hD hT [5, 6, 7, 1, 2, 3, 4] rfl rfl (ci := 7) (q0 := 0) rfl rfl) rfl rfl hl.1 rfl (lv_room (Nat.le_of_ble_eq_true rfl)) dX11_exchanged_41 ⟨Nat.zero_le _, Nat.zero_le _⟩) hP hD hS hA [5, 6, 7, 1, 2, 3, 4] [0] [0, 4, 5, 6, 7, 1, 2, 3] rfl rfl rfl rfl rfl rfl (fun H locs hP hD hS => ?_)
      refine lv_iload hx hb dX11_exchanged_44 (lv_at hl 4 rfl) ?_
      refine lv_icmp_eq (tgt := 52) hx hb dX11_exchanged_46 (by decide) (fun hc => ?_) (fun hc => ?_)
      · replace hf := it_t (hc) hf
        refine lv_iload hx hb dX11_exchanged_52 (lv_at hl 5 rfl) ?_
        obtain ⟨k_17, ek_17, hf⟩ := jn_out hf
        have J_18 : ∀ (H : Heap) (locs : List Loc) (ls : Array Slot), va_P (dC, dI) vwCl [(h_t, .inr (11, [.ref h_t_cloud, .ref h_t_reader, .ref h_t_hull, .ref h_t_near, .ref h_t_firstTie, .ref h_t_reducer, .ref h_t_chooser, .ref h_t_pair, .ref h_t_divider, .ref h_t_depths, .ref h_t_spot])), (h_t_cloud, .inr (0, [.ref h_t_cloud_x, .ref h_t_cloud_y, .ref h_t_cloud_colour, .ref h_t_cloud_load, .int t_cloud_size, .int t_cloud_centreX, .int t_cloud_centreY])), (h_t_cloud_x, .inl (cI, 24, .inl t_cloud_x)), (h_t_cloud_y, .inl (cI, 24, .inl t_cloud_y)), (h_t_cloud_colour, .inl (cI, 24, .inl t_cloud_colour)), (h_t_chooser, .inr (7, [.ref h_t_chooser_chosen, .ref h_t_chooser_mixed, .ref h_t_chooser_near, .int t_chooser_gone_6, .int t_chooser_stuck, .int t_chooser_longest, .int t_chooser_side_7])), (h_t_chooser_chosen, .inl (cI, 3, .inl t_chooser_chosen_8)), (h_t_chooser_near, .inr (4, [.long t_chooser_near_x_9, .long t_chooser_near_y_10, .long t_chooser_near_lower_11, .long t_chooser_near_square_12, .long t_chooser_near_squareLower_13, .int t_chooser_near_fromX_14, .int t_chooser_near_fromY_15]))] H → va_D A [(h_t, .inr (11, [.ref h_t_cloud, .ref h_t_reader, .ref h_t_hull, .ref h_t_near, .ref h_t_firstTie, .ref h_t_reducer, .ref h_t_chooser, .ref h_t_pair, .ref h_t_divider, .ref h_t_depths, .ref h_t_spot])), (h_t_cloud, .inr (0, [.ref h_t_cloud_x, .ref h_t_cloud_y, .ref h_t_cloud_colour, .ref h_t_cloud_load, .int t_cloud_size, .int t_cloud_centreX, .int t_cloud_centreY])), (h_t_cloud_x, .inl (cI, 24, .inl t_cloud_x)), (h_t_cloud_y, .inl (cI, 24, .inl t_cloud_y)), (h_t_cloud_colour, .inl (cI, 24, .inl t_cloud_colour)), (h_t_chooser, .inr (7, [.ref h_t_chooser_chosen, .ref h_t_chooser_mixed, .ref h_t_chooser_near, .int t_chooser_gone_6, .int t_chooser_stuck, .int t_chooser_longest, .int t_chooser_side_7])), (h_t_chooser_chosen, .inl (cI, 3, .inl t_chooser_chosen_8)), (h_t_chooser_near, .inr (4, [.long t_chooser_near_x_9, .long t_chooser_near_y_10, .long t_chooser_near_lower_11, .long t_chooser_near_square_12, .long t_chooser_near_squareLower_13, .int t_chooser_near_fromX_14, .int t_chooser_near_fromY_15]))] → va_S A s.heap H locs → lv_has ls 6 [(0, .ref h_t), (5, .int a5)] → k_17 = some (o_r, o_t_chooser_gone, o_t_chooser_side, o_t_chooser_chosen, o_t_chooser_near_x, o_t_chooser_near_y, o_t_chooser_near_lower, o_t_chooser_near_square, o_t_chooser_near_squareLower, o_t_chooser_near_fromX, o_t_chooser_near_fromY) → W p l e (headSpec [Cond.code yX11_exchanged cX11_exchanged 6 (some .int)] ({ frames := 5, cells := 0, slots := 0, locals := 144 })).room s m ([.ref h_t, .int a1, .int a2, .int a3, .int a4, .int a5] : List Value).toArray below meth c H locs 0 0 (MQ below (cQi dC dI A o_r [(h_t, .inr (11, [.ref h_t_cloud, .ref h_t_reader, .ref h_t_hull, .ref h_t_near, .ref h_t_firstTie, .ref h_t_reducer, .ref h_t_chooser, .ref h_t_pair, .ref h_t_divider, .ref h_t_depths, .ref h_t_spot])), (h_t_cloud, .inr (0, [.ref h_t_cloud_x, .ref h_t_cloud_y, .ref h_t_cloud_colour, .ref h_t_cloud_load, .int t_cloud_size, .int t_cloud_centreX, .int t_cloud_centreY])), (h_t_cloud_x, .inl (cI, 24, .inl t_cloud_x)), (h_t_cloud_y, .inl (cI, 24, .inl t_cloud_y)), (h_t_cloud_colour, .inl (cI, 24, .inl t_cloud_colour)), (h_t_chooser, .inr (7, [.ref h_t_chooser_chosen, .ref h_t_chooser_mixed, .ref h_t_chooser_near, .int o_t_chooser_gone, .int t_chooser_stuck, .int t_chooser_longest, .int o_t_chooser_side])), (h_t_chooser_chosen, .inl (cI, 3, .inl o_t_chooser_chosen)), (h_t_chooser_near, .inr (4, [.long o_t_chooser_near_x, .long o_t_chooser_near_y, .long o_t_chooser_near_lower, .long o_t_chooser_near_square, .long o_t_chooser_near_squareLower, .int o_t_chooser_near_fromX, .int o_t_chooser_near_fromY]))]) ([.ref h_t, .int a1, .int a2, .int a3, .int a4, .int a5] : List Value).toArray s 0 0 A) (F0 m 84 ls []) := by
          intro H locs ls hP hD hS hl hf
          rw [ek_17] at hf
          refine lv_aload_n hx hb dX11_exchanged_84 rfl (lv_at hl 0 rfl) ?_
          refine va_get (D := (dC, dI)) (ci := 11) (v := .ref h_t_chooser) (C := RX11) (T := TX11) (N := 11) hx hb hts in_X11 hown hK hP 0 rfl rfl 6 (Nat.le_of_ble_eq_true rfl) (hts _ qf_X11_56) (fun _ h9 => h9) rfl dX11_exchanged_85 ?_
          refine va_get (D := (dC, dI)) (ci := 7) (v := .ref h_t_chooser_chosen) (C := RX7) (T := TX7) (N := 7) hx hb hts in_X7 hown hK hP 5 rfl rfl 0 (Nat.le_of_ble_eq_true rfl) (hts _ qf_X11_266) (fun _ h9 => h9) rfl dX11_exchanged_88 ?_
          refine lv_iload hx hb dX11_exchanged_91 (lv_at hl 1 rfl) ?_
          obtain ⟨hg_19, hf⟩ := gd_some hf
          refine va_iald hx hb hK hP 6 0 rfl rfl (inb_in hg_19) dX11_exchanged_93 ?_
          obtain ⟨rfl, rfl, rfl, rfl, rfl, rfl, rfl, rfl, rfl, rfl, rfl⟩ := o11 hf
          exact W.iret hx hb hr (fun t ht hW => ⟨⟨_, (), rfl, rfl, by rw [ht]; exact hP, hD⟩, hS.F ht⟩) hS.2.2 dX11_exchanged_94
        by_cases hk_20 : a5 = (0 : Int32)
        · replace hf := it_t hk_20 hf
          refine lv_tableIn (off := 30) (tgt := 84) hx hb dX11_exchanged_54 (by rw [hk_20]; decide) (by rw [hk_20]; decide) (by rw [hk_20]; decide) (by decide) ?_
          exact J_18 H locs ls hP hD hS (lv_sub hl [0, 5] rfl) hf
        · replace hf := it_f hk_20 hf
          by_cases hk_21 : a5 = (1 : Int32)
          · replace hf := it_t hk_21 hf
            refine lv_tableIn (off := 30) (tgt := 84) hx hb dX11_exchanged_54 (by rw [hk_21]; decide) (by rw [hk_21]; decide) (by rw [hk_21]; decide) (by decide) ?_
            exact J_18 H locs ls hP hD hS (lv_sub hl [0, 5] rfl) hf
          · replace hf := it_f hk_21 hf
            by_cases hk_22 : a5 = (2 : Int32)
            · replace hf := it_t hk_22 hf
              refine lv_tableIn (off := 30) (tgt := 84) hx hb dX11_exchanged_54 (by rw [hk_22]; decide) (by rw [hk_22]; decide) (by rw [hk_22]; decide) (by decide) ?_
              exact J_18 H locs ls hP hD hS (lv_sub hl [0, 5] rfl) hf
            · replace hf := it_f hk_22 hf
              by_cases hk_23 : a5 = (3 : Int32)
              · replace hf := it_t hk_23 hf
                refine lv_tableIn (off := 41) (tgt := 95) hx hb dX11_exchanged_54 (by rw [hk_23]; decide) (by rw [hk_23]; decide) (by rw [hk_23]; decide) (by decide) ?_
                refine lv_aload_n hx hb dX11_exchanged_95 rfl (lv_at hl 0 rfl) ?_
                refine va_get (D := (dC, dI)) (ci := 11) (v := .ref h_t_chooser) (C := RX11) (T := TX11) (N := 11) hx hb hts in_X11 hown hK hP 0 rfl rfl 6 (Nat.le_of_ble_eq_true rfl) (hts _ qf_X11_56) (fun _ h9 => h9) rfl dX11_exchanged_96 ?_
                refine va_get (D := (dC, dI)) (ci := 7) (v := .int t_chooser_gone_6) (C := RX7) (T := TX7) (N := 7) hx hb hts in_X7 hown hK hP 5 rfl rfl 3 (Nat.le_of_ble_eq_true rfl) (hts _ qf_X11_286) (fun _ h9 => h9) rfl dX11_exchanged_99 ?_
                obtain ⟨rfl, rfl, rfl, rfl, rfl, rfl, rfl, rfl, rfl, rfl, rfl⟩ := o11 hf
                exact W.iret hx hb hr (fun t ht hW => ⟨⟨_, (), rfl, rfl, by rw [ht]; exact hP, hD⟩, hS.F ht⟩) hS.2.2 dX11_exchanged_102
              · replace hf := it_f hk_23 hf
                have z0 := lv_neT (a := 0) hk_20 (by decide)
                have z1 := lv_neT (a := 1) hk_21 (by decide)
                have z2 := lv_neT (a := 2) hk_22 (by decide)
                have z3 := lv_neT (a := 3) hk_23 (by decide)
                refine lv_tableOut (tgt := 103) hx hb dX11_exchanged_54 (by omega) (by decide) ?_
                refine lv_bipush (v := (-2 : Int32)) hx hb dX11_exchanged_103 (by decide) ?_
                obtain ⟨rfl, rfl, rfl, rfl, rfl, rfl, rfl, rfl, rfl, rfl, rfl⟩ := o11 hf
                exact W.iret hx hb hr (fun t ht hW => ⟨⟨_, (), rfl, rfl, by rw [ht]; exact hP, hD⟩, hS.F ht⟩) hS.2.2 dX11_exchanged_105
      · replace hf := it_f (hc) hf
        refine lv_bipush (v := (-2 : Int32)) hx hb dX11_exchanged_49 (by decide) ?_
        obtain ⟨rfl, rfl, rfl, rfl, rfl, rfl, rfl, rfl, rfl, rfl, rfl⟩ := o11 hf
        exact W.iret hx hb hr (fun t ht hW => ⟨⟨_, (), rfl, rfl, by rw [ht]; exact hP, hD⟩, hS.F ht⟩) hS.2.2 dX11_exchanged_51
    · replace hf := it_f (hc) hf
      refine lv_bipush (v := (-2 : Int32)) hx hb dX11_exchanged_18 (by decide) ?_
      obtain ⟨rfl, rfl, rfl, rfl, rfl, rfl, rfl, rfl, rfl, rfl, rfl⟩ := o11 hf
      exact W.iret hx hb hr (fun t ht hW => ⟨⟨_, (), rfl, rfl, by rw [ht]; exact hP, hD⟩, hS.F ht⟩) hS.2.2 dX11_exchanged_20
theorem dX11_distance_0 : decode cX11_distance 0 = .ok (.aload_n 0, 1) := by decide +kernel
theorem dX11_distance_1 : decode cX11_distance 1 = .ok (.getfield 12, 3) := by decide +kernel
theorem dX11_distance_4 : decode cX11_distance 4 = .ok (.iload_n 1, 1) := by decide +kernel
theorem dX11_distance_5 : decode cX11_distance 5 = .ok (.iload_n 2, 1) := by decide +kernel
theorem dX11_distance_6 : decode cX11_distance 6 = .ok (.iload_n 3, 1) := by decide +kernel
theorem dX11_distance_7 : decode cX11_distance 7 = .ok (.invokevirtual 269, 3) := by decide +kernel
theorem dX11_distance_10 : decode cX11_distance 10 = .ok (.ifCond .eq 8, 3) := by decide +kernel
theorem dX11_distance_13 : decode cX11_distance 13 = .ok (.iload 4, 2) := by decide +kernel
theorem dX11_distance_15 : decode cX11_distance 15 = .ok (.ifCond .ge 7, 3) := by decide +kernel
theorem dX11_distance_18 : decode cX11_distance 18 = .ok (.ldc2_w 131, 3) := by decide +kernel
theorem dX11_distance_21 : decode cX11_distance 21 = .ok (.lreturn, 1) := by decide +kernel
theorem dX11_distance_22 : decode cX11_distance 22 = .ok (.aload_n 0, 1) := by decide +kernel
theorem dX11_distance_23 : decode cX11_distance 23 = .ok (.getfield 56, 3) := by decide +kernel
theorem dX11_distance_26 : decode cX11_distance 26 = .ok (.iload_n 1, 1) := by decide +kernel
theorem dX11_distance_27 : decode cX11_distance 27 = .ok (.iload_n 2, 1) := by decide +kernel
theorem dX11_distance_28 : decode cX11_distance 28 = .ok (.iload_n 3, 1) := by decide +kernel
theorem dX11_distance_29 : decode cX11_distance 29 = .ok (.invokevirtual 273, 3) := by decide +kernel
theorem dX11_distance_32 : decode cX11_distance 32 = .ok (.aload_n 0, 1) := by decide +kernel
theorem dX11_distance_33 : decode cX11_distance 33 = .ok (.getfield 56, 3) := by decide +kernel
theorem dX11_distance_36 : decode cX11_distance 36 = .ok (.aload_n 0, 1) := by decide +kernel
theorem dX11_distance_37 : decode cX11_distance 37 = .ok (.getfield 12, 3) := by decide +kernel
theorem dX11_distance_40 : decode cX11_distance 40 = .ok (.iload 4, 2) := by decide +kernel
theorem dX11_distance_42 : decode cX11_distance 42 = .ok (.invokevirtual 284, 3) := by decide +kernel
theorem dX11_distance_45 : decode cX11_distance 45 = .ok (.iload 4, 2) := by decide +kernel
theorem dX11_distance_47 : decode cX11_distance 47 = .ok (.if_icmp .eq 7, 3) := by decide +kernel
theorem dX11_distance_50 : decode cX11_distance 50 = .ok (.ldc2_w 131, 3) := by decide +kernel
theorem dX11_distance_53 : decode cX11_distance 53 = .ok (.lreturn, 1) := by decide +kernel
theorem dX11_distance_54 : decode cX11_distance 54 = .ok (.aload_n 0, 1) := by decide +kernel
theorem dX11_distance_55 : decode cX11_distance 55 = .ok (.getfield 56, 3) := by decide +kernel
theorem dX11_distance_58 : decode cX11_distance 58 = .ok (.aload_n 0, 1) := by decide +kernel
theorem dX11_distance_59 : decode cX11_distance 59 = .ok (.getfield 12, 3) := by decide +kernel
theorem dX11_distance_62 : decode cX11_distance 62 = .ok (.invokevirtual 289, 3) := by decide +kernel
theorem dX11_distance_65 : decode cX11_distance 65 = .ok (.aload_n 0, 1) := by decide +kernel
theorem dX11_distance_66 : decode cX11_distance 66 = .ok (.getfield 56, 3) := by decide +kernel
theorem dX11_distance_69 : decode cX11_distance 69 = .ok (.getfield 285, 3) := by decide +kernel
theorem dX11_distance_72 : decode cX11_distance 72 = .ok (.invokevirtual 181, 3) := by decide +kernel
theorem dX11_distance_75 : decode cX11_distance 75 = .ok (.iload 5, 2) := by decide +kernel
theorem dX11_distance_77 : decode cX11_distance 77 = .ok (.lookupswitch 49 #[(0, 27), (1, 38)], 27) := by decide +kernel
theorem dX11_distance_104 : decode cX11_distance 104 = .ok (.aload_n 0, 1) := by decide +kernel
theorem dX11_distance_105 : decode cX11_distance 105 = .ok (.getfield 56, 3) := by decide +kernel
theorem dX11_distance_108 : decode cX11_distance 108 = .ok (.getfield 285, 3) := by decide +kernel
theorem dX11_distance_111 : decode cX11_distance 111 = .ok (.getfield 192, 3) := by decide +kernel
theorem dX11_distance_114 : decode cX11_distance 114 = .ok (.lreturn, 1) := by decide +kernel
theorem dX11_distance_115 : decode cX11_distance 115 = .ok (.aload_n 0, 1) := by decide +kernel
theorem dX11_distance_116 : decode cX11_distance 116 = .ok (.getfield 56, 3) := by decide +kernel
theorem dX11_distance_119 : decode cX11_distance 119 = .ok (.getfield 285, 3) := by decide +kernel
theorem dX11_distance_122 : decode cX11_distance 122 = .ok (.getfield 195, 3) := by decide +kernel
theorem dX11_distance_125 : decode cX11_distance 125 = .ok (.lreturn, 1) := by decide +kernel
theorem dX11_distance_126 : decode cX11_distance 126 = .ok (.ldc2_w 131, 3) := by decide +kernel
theorem dX11_distance_129 : decode cX11_distance 129 = .ok (.lreturn, 1) := by decide +kernel
set_option maxRecDepth 100000 in
set_option maxHeartbeats 4000000 in
theorem mtX11_distance (l : Launch) (dC : Nat → ClassId) (dI : Nat → Nat → Nat) (cI cL cB : ClassId) (K : Nat) (h_t h_t_cloud h_t_reader h_t_hull h_t_near h_t_firstTie h_t_reducer h_t_chooser h_t_pair h_t_divider h_t_depths h_t_spot h_t_cloud_x h_t_cloud_y h_t_cloud_colour h_t_cloud_load h_t_chooser_chosen h_t_chooser_mixed h_t_chooser_near : Nat) (sz : Nat) (t_cloud_size : Int32) (t_cloud_centreX : Int32) (t_cloud_centreY : Int32) (t_cloud_x : Nat → Int32) (t_cloud_y : Nat → Int32) (t_cloud_colour : Nat → Int32) (t_chooser_gone : Int32) (t_chooser_stuck : Int32) (t_chooser_longest : Int32) (t_chooser_side : Int32) (t_chooser_chosen : Nat → Int32) (t_chooser_near_x : Int64) (t_chooser_near_y : Int64) (t_chooser_near_lower : Int64) (t_chooser_near_square : Int64) (t_chooser_near_squareLower : Int64) (t_chooser_near_fromX : Int32) (t_chooser_near_fromY : Int32) (a1 : Int32) (a2 : Int32) (a3 : Int32) (a4 : Int32) (a5 : Int32) (o_r : Int64) (o_t_chooser_gone : Int32) (o_t_chooser_side : Int32) (o_t_chooser_chosen : Nat → Int32) (o_t_chooser_near_x : Int64) (o_t_chooser_near_y : Int64) (o_t_chooser_near_lower : Int64) (o_t_chooser_near_square : Int64) (o_t_chooser_near_squareLower : Int64) (o_t_chooser_near_fromX : Int32) (o_t_chooser_near_fromY : Int32) (hf : fX11_distance K t_cloud_size t_cloud_centreX t_cloud_centreY t_cloud_x t_cloud_y t_cloud_colour t_chooser_gone t_chooser_side t_chooser_chosen t_chooser_near_x t_chooser_near_y t_chooser_near_lower t_chooser_near_square t_chooser_near_squareLower t_chooser_near_fromX t_chooser_near_fromY a1 a2 a3 a4 a5 = some (o_r, o_t_chooser_gone, o_t_chooser_side, o_t_chooser_chosen, o_t_chooser_near_x, o_t_chooser_near_y, o_t_chooser_near_lower, o_t_chooser_near_square, o_t_chooser_near_squareLower, o_t_chooser_near_fromX, o_t_chooser_near_fromY)) : Met l yX11_distance [Cond.code yX11_distance cX11_distance 6 (some .long)] ({ frames := 5, cells := 0, slots := 0, locals := 144 }) (va_Pc [.ref h_t, .int a1, .int a2, .int a3, .int a4, .int a5] (cPre dC dI cI cL cB sz [(h_t, .inr (11, [.ref h_t_cloud, .ref h_t_reader, .ref h_t_hull, .ref h_t_near, .ref h_t_firstTie, .ref h_t_reducer, .ref h_t_chooser, .ref h_t_pair, .ref h_t_divider, .ref h_t_depths, .ref h_t_spot])), (h_t_cloud, .inr (0, [.ref h_t_cloud_x, .ref h_t_cloud_y, .ref h_t_cloud_colour, .ref h_t_cloud_load, .int t_cloud_size, .int t_cloud_centreX, .int t_cloud_centreY])), (h_t_cloud_x, .inl (cI, 24, .inl t_cloud_x)), (h_t_cloud_y, .inl (cI, 24, .inl t_cloud_y)), (h_t_cloud_colour, .inl (cI, 24, .inl t_cloud_colour)), (h_t_chooser, .inr (7, [.ref h_t_chooser_chosen, .ref h_t_chooser_mixed, .ref h_t_chooser_near, .int t_chooser_gone, .int t_chooser_stuck, .int t_chooser_longest, .int t_chooser_side])), (h_t_chooser_chosen, .inl (cI, 3, .inl t_chooser_chosen)), (h_t_chooser_near, .inr (4, [.long t_chooser_near_x, .long t_chooser_near_y, .long t_chooser_near_lower, .long t_chooser_near_square, .long t_chooser_near_squareLower, .int t_chooser_near_fromX, .int t_chooser_near_fromY]))])) (cQl dC dI (va_A [(h_t, .inr (11, [.ref h_t_cloud, .ref h_t_reader, .ref h_t_hull, .ref h_t_near, .ref h_t_firstTie, .ref h_t_reducer, .ref h_t_chooser, .ref h_t_pair, .ref h_t_divider, .ref h_t_depths, .ref h_t_spot])), (h_t_cloud, .inr (0, [.ref h_t_cloud_x, .ref h_t_cloud_y, .ref h_t_cloud_colour, .ref h_t_cloud_load, .int t_cloud_size, .int t_cloud_centreX, .int t_cloud_centreY])), (h_t_cloud_x, .inl (cI, 24, .inl t_cloud_x)), (h_t_cloud_y, .inl (cI, 24, .inl t_cloud_y)), (h_t_cloud_colour, .inl (cI, 24, .inl t_cloud_colour)), (h_t_chooser, .inr (7, [.ref h_t_chooser_chosen, .ref h_t_chooser_mixed, .ref h_t_chooser_near, .int t_chooser_gone, .int t_chooser_stuck, .int t_chooser_longest, .int t_chooser_side])), (h_t_chooser_chosen, .inl (cI, 3, .inl t_chooser_chosen)), (h_t_chooser_near, .inr (4, [.long t_chooser_near_x, .long t_chooser_near_y, .long t_chooser_near_lower, .long t_chooser_near_square, .long t_chooser_near_squareLower, .int t_chooser_near_fromX, .int t_chooser_near_fromY]))] sz) o_r [(h_t, .inr (11, [.ref h_t_cloud, .ref h_t_reader, .ref h_t_hull, .ref h_t_near, .ref h_t_firstTie, .ref h_t_reducer, .ref h_t_chooser, .ref h_t_pair, .ref h_t_divider, .ref h_t_depths, .ref h_t_spot])), (h_t_cloud, .inr (0, [.ref h_t_cloud_x, .ref h_t_cloud_y, .ref h_t_cloud_colour, .ref h_t_cloud_load, .int t_cloud_size, .int t_cloud_centreX, .int t_cloud_centreY])), (h_t_cloud_x, .inl (cI, 24, .inl t_cloud_x)), (h_t_cloud_y, .inl (cI, 24, .inl t_cloud_y)), (h_t_cloud_colour, .inl (cI, 24, .inl t_cloud_colour)), (h_t_chooser, .inr (7, [.ref h_t_chooser_chosen, .ref h_t_chooser_mixed, .ref h_t_chooser_near, .int o_t_chooser_gone, .int t_chooser_stuck, .int t_chooser_longest, .int o_t_chooser_side])), (h_t_chooser_chosen, .inl (cI, 3, .inl o_t_chooser_chosen)), (h_t_chooser_near, .inr (4, [.long o_t_chooser_near_x, .long o_t_chooser_near_y, .long o_t_chooser_near_lower, .long o_t_chooser_near_square, .long o_t_chooser_near_squareLower, .int o_t_chooser_near_fromX, .int o_t_chooser_near_fromY]))]) 0 0 (va_A [(h_t, .inr (11, [.ref h_t_cloud, .ref h_t_reader, .ref h_t_hull, .ref h_t_near, .ref h_t_firstTie, .ref h_t_reducer, .ref h_t_chooser, .ref h_t_pair, .ref h_t_divider, .ref h_t_depths, .ref h_t_spot])), (h_t_cloud, .inr (0, [.ref h_t_cloud_x, .ref h_t_cloud_y, .ref h_t_cloud_colour, .ref h_t_cloud_load, .int t_cloud_size, .int t_cloud_centreX, .int t_cloud_centreY])), (h_t_cloud_x, .inl (cI, 24, .inl t_cloud_x)), (h_t_cloud_y, .inl (cI, 24, .inl t_cloud_y)), (h_t_cloud_colour, .inl (cI, 24, .inl t_cloud_colour)), (h_t_chooser, .inr (7, [.ref h_t_chooser_chosen, .ref h_t_chooser_mixed, .ref h_t_chooser_near, .int t_chooser_gone, .int t_chooser_stuck, .int t_chooser_longest, .int t_chooser_side])), (h_t_chooser_chosen, .inl (cI, 3, .inl t_chooser_chosen)), (h_t_chooser_near, .inr (4, [.long t_chooser_near_x, .long t_chooser_near_y, .long t_chooser_near_lower, .long t_chooser_near_square, .long t_chooser_near_squareLower, .int t_chooser_near_fromX, .int t_chooser_near_fromY]))] sz) := by
  refine Met.ofW (cc := cX11_distance) (maxL := 6) (ret := (some .long)) (by decide) rfl ?_
  intro p e s m args below meth c s₁ B hml hv
  obtain ⟨rfl, hsz, hP, hK, hD0, hT⟩ := hv
  have hx := B.exec
  have hb := B.bytes
  have hr := B.returns
  have hown : s.vm.findClass RX11 = some m.cls := findClass_of_methodNamed B.named
  have hlocks := B.notSynchronized
  have hts := TB.use hT ([.ref h_t, .int a1, .int a2, .int a3, .int a4, .int a5] : List Value).toArray
  subst hsz
  have hD := hD0.self (sz := s.heap.size)
  generalize hAe : va_A [(h_t, .inr (11, [.ref h_t_cloud, .ref h_t_reader, .ref h_t_hull, .ref h_t_near, .ref h_t_firstTie, .ref h_t_reducer, .ref h_t_chooser, .ref h_t_pair, .ref h_t_divider, .ref h_t_depths, .ref h_t_spot])), (h_t_cloud, .inr (0, [.ref h_t_cloud_x, .ref h_t_cloud_y, .ref h_t_cloud_colour, .ref h_t_cloud_load, .int t_cloud_size, .int t_cloud_centreX, .int t_cloud_centreY])), (h_t_cloud_x, .inl (cI, 24, .inl t_cloud_x)), (h_t_cloud_y, .inl (cI, 24, .inl t_cloud_y)), (h_t_cloud_colour, .inl (cI, 24, .inl t_cloud_colour)), (h_t_chooser, .inr (7, [.ref h_t_chooser_chosen, .ref h_t_chooser_mixed, .ref h_t_chooser_near, .int t_chooser_gone, .int t_chooser_stuck, .int t_chooser_longest, .int t_chooser_side])), (h_t_chooser_chosen, .inl (cI, 3, .inl t_chooser_chosen)), (h_t_chooser_near, .inr (4, [.long t_chooser_near_x, .long t_chooser_near_y, .long t_chooser_near_lower, .long t_chooser_near_square, .long t_chooser_near_squareLower, .int t_chooser_near_fromX, .int t_chooser_near_fromY]))] s.heap.size = A at hD ⊢
  have hA : ∀ q : Nat, s.heap.size ≤ q → A q := fun q h => by rw [← hAe]; exact Or.inr h
  clear hAe hD0
  have hl := lv_entry ([.ref h_t, .int a1, .int a2, .int a3, .int a4, .int a5]) (n := 6) (Nat.le_of_ble_eq_true rfl)
  rw [lg_entry_eq]
  generalize (lg_sl ([.ref h_t, .int a1, .int a2, .int a3, .int a4, .int a5]) ++ List.replicate (6 - (lg_sl ([.ref h_t, .int a1, .int a2, .int a3, .int a4, .int a5])).length) Slot.unset).toArray = ls at hl ⊢
  have hl : lv_has ls 6 [(0, .ref h_t), (1, .int a1), (2, .int a2), (3, .int a3), (4, .int a4), (5, .int a5)] := hl
  have hF : 5 ≤ (headSpec [Cond.code yX11_distance cX11_distance 6 (some .long)] ({ frames := 5, cells := 0, slots := 0, locals := 144 })).room.frames := Nat.le_refl _
  have hLo : 144 ≤ (headSpec [Cond.code yX11_distance cX11_distance 6 (some .long)] ({ frames := 5, cells := 0, slots := 0, locals := 144 })).room.locals := Nat.le_refl _
  have C0 : Sx p (headSpec [Cond.code yX11_distance cX11_distance 6 (some .long)] ({ frames := 5, cells := 0, slots := 0, locals := 144 })).room s m ([.ref h_t, .int a1, .int a2, .int a3, .int a4, .int a5] : List Value).toArray c cX11_distance 6 RX11 A dC dI cI cL cB 5 144 := ⟨hx, hb, hml, hown, hts, hK, hT, hA, hF, hLo⟩
  refine startH (A := A) hP (fun H locs hP hS => ?_)
  rw [fX11_distance] at hf
  refine lv_aload_n hx hb dX11_distance_0 rfl (lv_at hl 0 rfl) ?_
  refine va_get (D := (dC, dI)) (ci := 11) (v := .ref h_t_cloud) (C := RX11) (T := TX11) (N := 11) hx hb hts in_X11 hown hK hP 0 rfl rfl 0 (Nat.le_of_ble_eq_true rfl) (hts _ qf_X11_12) (fun _ h9 => h9) rfl dX11_distance_1 ?_
  refine lv_iload_n hx hb dX11_distance_4 rfl (lv_at hl 1 rfl) ?_
  refine lv_iload_n hx hb dX11_distance_5 rfl (lv_at hl 2 rfl) ?_
  refine lv_iload_n hx hb dX11_distance_6 rfl (lv_at hl 3 rfl) ?_
  obtain ⟨r_1, hq_2, hf⟩ := b1_some hf
  refine xci (wr := [(h_t, .inr (11, [.ref h_t_cloud, .ref h_t_reader, .ref h_t_hull, .ref h_t_near, .ref h_t_firstTie, .ref h_t_reducer, .ref h_t_chooser, .ref h_t_pair, .ref h_t_divider, .ref h_t_depths, .ref h_t_spot])), (h_t_cloud_x, .inl (cI, 24, .inl t_cloud_x)), (h_t_cloud_y, .inl (cI, 24, .inl t_cloud_y)), (h_t_chooser, .inr (7, [.ref h_t_chooser_chosen, .ref h_t_chooser_mixed, .ref h_t_chooser_near, .int t_chooser_gone, .int t_chooser_stuck, .int t_chooser_longest, .int t_chooser_side])), (h_t_chooser_chosen, .inl (cI, 3, .inl t_chooser_chosen)), (h_t_chooser_near, .inr (4, [.long t_chooser_near_x, .long t_chooser_near_y, .long t_chooser_near_lower, .long t_chooser_near_square, .long t_chooser_near_squareLower, .int t_chooser_near_fromX, .int t_chooser_near_fromY]))]) (w2 := [(h_t, .inr (11, [.ref h_t_cloud, .ref h_t_reader, .ref h_t_hull, .ref h_t_near, .ref h_t_firstTie, .ref h_t_reducer, .ref h_t_chooser, .ref h_t_pair, .ref h_t_divider, .ref h_t_depths, .ref h_t_spot])), (h_t_cloud, .inr (0, [.ref h_t_cloud_x, .ref h_t_cloud_y, .ref h_t_cloud_colour, .ref h_t_cloud_load, .int t_cloud_size, .int t_cloud_centreX, .int t_cloud_centreY])), (h_t_cloud_x, .inl (cI, 24, .inl t_cloud_x)), (h_t_cloud_y, .inl (cI, 24, .inl t_cloud_y)), (h_t_cloud_colour, .inl (cI, 24, .inl t_cloud_colour)), (h_t_chooser, .inr (7, [.ref h_t_chooser_chosen, .ref h_t_chooser_mixed, .ref h_t_chooser_near, .int t_chooser_gone, .int t_chooser_stuck, .int t_chooser_longest, .int t_chooser_side])), (h_t_chooser_chosen, .inl (cI, 3, .inl t_chooser_chosen)), (h_t_chooser_near, .inr (4, [.long t_chooser_near_x, .long t_chooser_near_y, .long t_chooser_near_lower, .long t_chooser_near_square, .long t_chooser_near_squareLower, .int t_chooser_near_fromX, .int t_chooser_near_fromY]))]) (va_runV (As := [.int a1, .int a2, .int a3]) (rest := []) ⟨hx, hb, hml, hown, hts⟩ (mtX0_isRainbow l dC dI cI cL cB K h_t_cloud h_t_cloud_x h_t_cloud_y h_t_cloud_colour h_t_cloud_load H.size t_cloud_size t_cloud_centreX t_cloud_centreY t_cloud_colour a1 a2 a3 r_1 hq_2) (cwV 3 hts gv_X11_269 rfl rfl rfl hdV_X0_isRainbow ⟨Nat.le_trans (Nat.le_of_ble_eq_true rfl) hF, Nat.le_trans (Nat.le_of_ble_eq_true rfl) hLo⟩) (cPreV hK hP hD hT [1, 4] rfl rfl (ci := 0) (q0 := 0) rfl rfl) rfl rfl hl.1 rfl (lv_room (Nat.le_of_ble_eq_true rfl)) dX11_distance_7 ⟨Nat.zero_le _, Nat.zero_le _⟩) hP hD hS hA [1, 4] [0, 2, 3, 5, 6, 7] [0, 6, 1, 2, 7, 3, 4, 5] rfl rfl rfl rfl rfl rfl (fun H locs hP hD hS => ?_)
  refine lv_if_eq (tgt := 18) hx hb dX11_distance_10 (by decide) (fun hc => ?_) (fun hc => ?_)
  · replace hf := it_t (hc) hf
    refine lv_ldc2 (v := (-9223372036854775808 : Int64)) hx hb hown (hts _ qj_X11_131) dX11_distance_18 ?_
    obtain ⟨rfl, rfl, rfl, rfl, rfl, rfl, rfl, rfl, rfl, rfl, rfl⟩ := o11 hf
    exact W.lret hx hb hr (fun t ht hW => ⟨⟨_, (), rfl, rfl, by rw [ht]; exact hP, hD⟩, hS.F ht⟩) hS.2.2 dX11_distance_21
  · replace hf := it_f (hc) hf
    refine lv_iload hx hb dX11_distance_13 (lv_at hl 4 rfl) ?_
    refine lv_if_ge (tgt := 22) hx hb dX11_distance_15 (by decide) (fun hc => ?_) (fun hc => ?_)
    · replace hf := it_t (hc) hf
      refine lv_aload_n hx hb dX11_distance_22 rfl (lv_at hl 0 rfl) ?_
      refine va_get (D := (dC, dI)) (ci := 11) (v := .ref h_t_chooser) (C := RX11) (T := TX11) (N := 11) hx hb hts in_X11 hown hK hP 0 rfl rfl 6 (Nat.le_of_ble_eq_true rfl) (hts _ qf_X11_56) (fun _ h9 => h9) rfl dX11_distance_23 ?_
      refine lv_iload_n hx hb dX11_distance_26 rfl (lv_at hl 1 rfl) ?_
      refine lv_iload_n hx hb dX11_distance_27 rfl (lv_at hl 2 rfl) ?_
      refine lv_iload_n hx hb dX11_distance_28 rfl (lv_at hl 3 rfl) ?_
      obtain ⟨t_chooser_chosen_3, hq_4, hf⟩ := b1_some hf
      refine xcv (wr := [(h_t, .inr (11, [.ref h_t_cloud, .ref h_t_reader, .ref h_t_hull, .ref h_t_near, .ref h_t_firstTie, .ref h_t_reducer, .ref h_t_chooser, .ref h_t_pair, .ref h_t_divider, .ref h_t_depths, .ref h_t_spot])), (h_t_cloud, .inr (0, [.ref h_t_cloud_x, .ref h_t_cloud_y, .ref h_t_cloud_colour, .ref h_t_cloud_load, .int t_cloud_size, .int t_cloud_centreX, .int t_cloud_centreY])), (h_t_cloud_x, .inl (cI, 24, .inl t_cloud_x)), (h_t_cloud_y, .inl (cI, 24, .inl t_cloud_y)), (h_t_cloud_colour, .inl (cI, 24, .inl t_cloud_colour)), (h_t_chooser_near, .inr (4, [.long t_chooser_near_x, .long t_chooser_near_y, .long t_chooser_near_lower, .long t_chooser_near_square, .long t_chooser_near_squareLower, .int t_chooser_near_fromX, .int t_chooser_near_fromY]))]) (w2 := [(h_t, .inr (11, [.ref h_t_cloud, .ref h_t_reader, .ref h_t_hull, .ref h_t_near, .ref h_t_firstTie, .ref h_t_reducer, .ref h_t_chooser, .ref h_t_pair, .ref h_t_divider, .ref h_t_depths, .ref h_t_spot])), (h_t_cloud, .inr (0, [.ref h_t_cloud_x, .ref h_t_cloud_y, .ref h_t_cloud_colour, .ref h_t_cloud_load, .int t_cloud_size, .int t_cloud_centreX, .int t_cloud_centreY])), (h_t_cloud_x, .inl (cI, 24, .inl t_cloud_x)), (h_t_cloud_y, .inl (cI, 24, .inl t_cloud_y)), (h_t_cloud_colour, .inl (cI, 24, .inl t_cloud_colour)), (h_t_chooser, .inr (7, [.ref h_t_chooser_chosen, .ref h_t_chooser_mixed, .ref h_t_chooser_near, .int t_chooser_gone, .int t_chooser_stuck, .int t_chooser_longest, .int t_chooser_side])), (h_t_chooser_chosen, .inl (cI, 3, .inl t_chooser_chosen_3)), (h_t_chooser_near, .inr (4, [.long t_chooser_near_x, .long t_chooser_near_y, .long t_chooser_near_lower, .long t_chooser_near_square, .long t_chooser_near_squareLower, .int t_chooser_near_fromX, .int t_chooser_near_fromY]))]) (va_runV (As := [.int a1, .int a2, .int a3]) (rest := []) ⟨hx, hb, hml, hown, hts⟩ (mtX7_choose l dC dI cI cL cB K h_t_chooser h_t_chooser_chosen h_t_chooser_mixed h_t_chooser_near H.size t_chooser_gone t_chooser_stuck t_chooser_longest t_chooser_side t_chooser_chosen a1 a2 a3 t_chooser_chosen_3 hq_4) (cwV 3 hts gv_X11_273 rfl rfl rfl hdV_X7_choose ⟨Nat.le_trans (Nat.le_of_ble_eq_true rfl) hF, Nat.le_trans (Nat.le_of_ble_eq_true rfl) hLo⟩) (cPreV hK hP hD hT [5, 6] rfl rfl (ci := 7) (q0 := 0) rfl rfl) rfl rfl hl.1 rfl (lv_room (Nat.le_of_ble_eq_true rfl)) dX11_distance_29 ⟨Nat.zero_le _, Nat.zero_le _⟩) hP hD hS hA [5, 6] [0, 1, 2, 3, 4, 7] [0, 1, 2, 3, 4, 6, 7, 5] rfl rfl rfl rfl rfl rfl (fun H locs hP hD hS => ?_)
      refine lv_aload_n hx hb dX11_distance_32 rfl (lv_at hl 0 rfl) ?_
      refine va_get (D := (dC, dI)) (ci := 11) (v := .ref h_t_chooser) (C := RX11) (T := TX11) (N := 11) hx hb hts in_X11 hown hK hP 0 rfl rfl 6 (Nat.le_of_ble_eq_true rfl) (hts _ qf_X11_56) (fun _ h9 => h9) rfl dX11_distance_33 ?_
      refine lv_aload_n hx hb dX11_distance_36 rfl (lv_at hl 0 rfl) ?_
      refine va_get (D := (dC, dI)) (ci := 11) (v := .ref h_t_cloud) (C := RX11) (T := TX11) (N := 11) hx hb hts in_X11 hown hK hP 0 rfl rfl 0 (Nat.le_of_ble_eq_true rfl) (hts _ qf_X11_12) (fun _ h9 => h9) rfl dX11_distance_37 ?_
      refine lv_iload hx hb dX11_distance_40 (lv_at hl 4 rfl) ?_
      obtain ⟨r_5, t_chooser_gone_6, t_chooser_side_7, t_chooser_chosen_8, t_chooser_near_x_9, t_chooser_near_y_10, t_chooser_near_lower_11, t_chooser_near_square_12, t_chooser_near_squareLower_13, t_chooser_near_fromX_14, t_chooser_near_fromY_15, hq_16, hf⟩ := b11_some hf
      refine xci (wr := [(h_t, .inr (11, [.ref h_t_cloud, .ref h_t_reader, .ref h_t_hull, .ref h_t_near, .ref h_t_firstTie, .ref h_t_reducer, .ref h_t_chooser, .ref h_t_pair, .ref h_t_divider, .ref h_t_depths, .ref h_t_spot]))]) (w2 := [(h_t, .inr (11, [.ref h_t_cloud, .ref h_t_reader, .ref h_t_hull, .ref h_t_near, .ref h_t_firstTie, .ref h_t_reducer, .ref h_t_chooser, .ref h_t_pair, .ref h_t_divider, .ref h_t_depths, .ref h_t_spot])), (h_t_cloud, .inr (0, [.ref h_t_cloud_x, .ref h_t_cloud_y, .ref h_t_cloud_colour, .ref h_t_cloud_load, .int t_cloud_size, .int t_cloud_centreX, .int t_cloud_centreY])), (h_t_cloud_x, .inl (cI, 24, .inl t_cloud_x)), (h_t_cloud_y, .inl (cI, 24, .inl t_cloud_y)), (h_t_cloud_colour, .inl (cI, 24, .inl t_cloud_colour)), (h_t_chooser, .inr (7, [.ref h_t_chooser_chosen, .ref h_t_chooser_mixed, .ref h_t_chooser_near, .int t_chooser_gone_6, .int t_chooser_stuck, .int t_chooser_longest, .int t_chooser_side_7])), (h_t_chooser_chosen, .inl (cI, 3, .inl t_chooser_chosen_8)), (h_t_chooser_near, .inr (4, [.long t_chooser_near_x_9, .long t_chooser_near_y_10, .long t_chooser_near_lower_11, .long t_chooser_near_square_12, .long t_chooser_near_squareLower_13, .int t_chooser_near_fromX_14, .int t_chooser_near_fromY_15]))]) (va_runV (As := [.ref h_t_cloud, .int a4]) (rest := []) ⟨hx, hb, hml, hown, hts⟩ (mtX7_run l dC dI cI cL cB K h_t_chooser h_t_chooser_chosen h_t_chooser_mixed h_t_chooser_near h_t_cloud h_t_cloud_x h_t_cloud_y h_t_cloud_colour h_t_cloud_load H.size t_chooser_gone t_chooser_stuck t_chooser_longest t_chooser_side t_chooser_chosen_3 t_chooser_near_x t_chooser_near_y t_chooser_near_lower t_chooser_near_square t_chooser_near_squareLower t_chooser_near_fromX t_chooser_near_fromY t_cloud_size t_cloud_centreX t_cloud_centreY t_cloud_x t_cloud_y t_cloud_colour a4 r_5 t_chooser_gone_6 t_chooser_side_7 t_chooser_chosen_8 t_chooser_near_x_9 t_chooser_near_y_10 t_chooser_near_lower_11 t_chooser_near_square_12 t_chooser_near_squareLower_13 t_chooser_near_fromX_14 t_chooser_near_fromY_15 hq_16) (cwV 2 hts gv_X11_284 rfl rfl rfl hdV_X7_run ⟨Nat.le_trans (Nat.le_of_ble_eq_true rfl) hF, Nat.le_trans (Nat.le_of_ble_eq_true rfl) hLo⟩) (cPreV hK hP hD hT [5, 6, 7, 1, 2, 3, 4] rfl rfl (ci := 7) (q0 := 0) rfl rfl) rfl rfl hl.1 rfl (lv_room (Nat.le_of_ble_eq_true rfl)) dX11_distance_42 ⟨Nat.zero_le _, Nat.zero_le _⟩) hP hD hS hA [5, 6, 7, 1, 2, 3, 4] [0] [0, 4, 5, 6, 7, 1, 2, 3] rfl rfl rfl rfl rfl rfl (fun H locs hP hD hS => ?_)
      refine lv_iload hx hb dX11_distance_45 (lv_at hl 4 rfl) ?_
      refine lv_icmp_eq (tgt := 54) hx hb dX11_distance_47 (by decide) (fun hc => ?_) (fun hc => ?_)
      · replace hf := it_t (hc) hf
        refine lv_aload_n hx hb dX11_distance_54 rfl (lv_at hl 0 rfl) ?_
        refine va_get (D := (dC, dI)) (ci := 11) (v := .ref h_t_chooser) (C := RX11) (T := TX11) (N := 11) hx hb hts in_X11 hown hK hP 0 rfl rfl 6 (Nat.le_of_ble_eq_true rfl) (hts _ qf_X11_56) (fun _ h9 => h9) rfl dX11_distance_55 ?_
        refine lv_aload_n hx hb dX11_distance_58 rfl (lv_at hl 0 rfl) ?_
        refine va_get (D := (dC, dI)) (ci := 11) (v := .ref h_t_cloud) (C := RX11) (T := TX11) (N := 11) hx hb hts in_X11 hown hK hP 0 rfl rfl 0 (Nat.le_of_ble_eq_true rfl) (hts _ qf_X11_12) (fun _ h9 => h9) rfl dX11_distance_59 ?_
        obtain ⟨t_chooser_side_17, t_chooser_near_x_18, t_chooser_near_y_19, t_chooser_near_lower_20, t_chooser_near_square_21, t_chooser_near_squareLower_22, t_chooser_near_fromX_23, t_chooser_near_fromY_24, hq_25, hf⟩ := b8_some hf
        refine xcv (wr := [(h_t, .inr (11, [.ref h_t_cloud, .ref h_t_reader, .ref h_t_hull, .ref h_t_near, .ref h_t_firstTie, .ref h_t_reducer, .ref h_t_chooser, .ref h_t_pair, .ref h_t_divider, .ref h_t_depths, .ref h_t_spot])), (h_t_cloud_colour, .inl (cI, 24, .inl t_cloud_colour))]) (w2 := [(h_t, .inr (11, [.ref h_t_cloud, .ref h_t_reader, .ref h_t_hull, .ref h_t_near, .ref h_t_firstTie, .ref h_t_reducer, .ref h_t_chooser, .ref h_t_pair, .ref h_t_divider, .ref h_t_depths, .ref h_t_spot])), (h_t_cloud, .inr (0, [.ref h_t_cloud_x, .ref h_t_cloud_y, .ref h_t_cloud_colour, .ref h_t_cloud_load, .int t_cloud_size, .int t_cloud_centreX, .int t_cloud_centreY])), (h_t_cloud_x, .inl (cI, 24, .inl t_cloud_x)), (h_t_cloud_y, .inl (cI, 24, .inl t_cloud_y)), (h_t_cloud_colour, .inl (cI, 24, .inl t_cloud_colour)), (h_t_chooser, .inr (7, [.ref h_t_chooser_chosen, .ref h_t_chooser_mixed, .ref h_t_chooser_near, .int t_chooser_gone_6, .int t_chooser_stuck, .int t_chooser_longest, .int t_chooser_side_17])), (h_t_chooser_chosen, .inl (cI, 3, .inl t_chooser_chosen_8)), (h_t_chooser_near, .inr (4, [.long t_chooser_near_x_18, .long t_chooser_near_y_19, .long t_chooser_near_lower_20, .long t_chooser_near_square_21, .long t_chooser_near_squareLower_22, .int t_chooser_near_fromX_23, .int t_chooser_near_fromY_24]))]) (va_runV (As := [.ref h_t_cloud]) (rest := []) ⟨hx, hb, hml, hown, hts⟩ (mtX7_look l dC dI cI cL cB K h_t_chooser h_t_chooser_chosen h_t_chooser_mixed h_t_chooser_near h_t_cloud h_t_cloud_x h_t_cloud_y h_t_cloud_colour h_t_cloud_load H.size t_chooser_gone_6 t_chooser_stuck t_chooser_longest t_chooser_side_7 t_chooser_chosen_8 t_chooser_near_x_9 t_chooser_near_y_10 t_chooser_near_lower_11 t_chooser_near_square_12 t_chooser_near_squareLower_13 t_chooser_near_fromX_14 t_chooser_near_fromY_15 t_cloud_size t_cloud_centreX t_cloud_centreY t_cloud_x t_cloud_y t_chooser_side_17 t_chooser_near_x_18 t_chooser_near_y_19 t_chooser_near_lower_20 t_chooser_near_square_21 t_chooser_near_squareLower_22 t_chooser_near_fromX_23 t_chooser_near_fromY_24 hq_25) (cwV 1 hts gv_X11_289 rfl rfl rfl hdV_X7_look ⟨Nat.le_trans (Nat.le_of_ble_eq_true rfl) hF, Nat.le_trans (Nat.le_of_ble_eq_true rfl) hLo⟩) (cPreV hK hP hD hT [5, 6, 7, 1, 2, 3] rfl rfl (ci := 7) (q0 := 0) rfl rfl) rfl rfl hl.1 rfl (lv_room (Nat.le_of_ble_eq_true rfl)) dX11_distance_62 ⟨Nat.zero_le _, Nat.zero_le _⟩) hP hD hS hA [5, 6, 7, 1, 2, 3] [0, 4] [0, 5, 6, 7, 1, 2, 3, 4] rfl rfl rfl rfl rfl rfl (fun H locs hP hD hS => ?_)
        refine lv_aload_n hx hb dX11_distance_65 rfl (lv_at hl 0 rfl) ?_
        refine va_get (D := (dC, dI)) (ci := 11) (v := .ref h_t_chooser) (C := RX11) (T := TX11) (N := 11) hx hb hts in_X11 hown hK hP 0 rfl rfl 6 (Nat.le_of_ble_eq_true rfl) (hts _ qf_X11_56) (fun _ h9 => h9) rfl dX11_distance_66 ?_
        refine va_get (D := (dC, dI)) (ci := 7) (v := .ref h_t_chooser_near) (C := RX7) (T := TX7) (N := 7) hx hb hts in_X7 hown hK hP 5 rfl rfl 2 (Nat.le_of_ble_eq_true rfl) (hts _ qf_X11_285) (fun _ h9 => h9) rfl dX11_distance_69 ?_
        obtain ⟨t_chooser_near_x_26, t_chooser_near_y_27, t_chooser_near_lower_28, t_chooser_near_square_29, t_chooser_near_squareLower_30, hq_31, hf⟩ := b5_some hf
        refine xcv (wr := [(h_t, .inr (11, [.ref h_t_cloud, .ref h_t_reader, .ref h_t_hull, .ref h_t_near, .ref h_t_firstTie, .ref h_t_reducer, .ref h_t_chooser, .ref h_t_pair, .ref h_t_divider, .ref h_t_depths, .ref h_t_spot])), (h_t_cloud, .inr (0, [.ref h_t_cloud_x, .ref h_t_cloud_y, .ref h_t_cloud_colour, .ref h_t_cloud_load, .int t_cloud_size, .int t_cloud_centreX, .int t_cloud_centreY])), (h_t_cloud_x, .inl (cI, 24, .inl t_cloud_x)), (h_t_cloud_y, .inl (cI, 24, .inl t_cloud_y)), (h_t_cloud_colour, .inl (cI, 24, .inl t_cloud_colour)), (h_t_chooser, .inr (7, [.ref h_t_chooser_chosen, .ref h_t_chooser_mixed, .ref h_t_chooser_near, .int t_chooser_gone_6, .int t_chooser_stuck, .int t_chooser_longest, .int t_chooser_side_17])), (h_t_chooser_chosen, .inl (cI, 3, .inl t_chooser_chosen_8))]) (w2 := [(h_t, .inr (11, [.ref h_t_cloud, .ref h_t_reader, .ref h_t_hull, .ref h_t_near, .ref h_t_firstTie, .ref h_t_reducer, .ref h_t_chooser, .ref h_t_pair, .ref h_t_divider, .ref h_t_depths, .ref h_t_spot])), (h_t_cloud, .inr (0, [.ref h_t_cloud_x, .ref h_t_cloud_y, .ref h_t_cloud_colour, .ref h_t_cloud_load, .int t_cloud_size, .int t_cloud_centreX, .int t_cloud_centreY])), (h_t_cloud_x, .inl (cI, 24, .inl t_cloud_x)), (h_t_cloud_y, .inl (cI, 24, .inl t_cloud_y)), (h_t_cloud_colour, .inl (cI, 24, .inl t_cloud_colour)), (h_t_chooser, .inr (7, [.ref h_t_chooser_chosen, .ref h_t_chooser_mixed, .ref h_t_chooser_near, .int t_chooser_gone_6, .int t_chooser_stuck, .int t_chooser_longest, .int t_chooser_side_17])), (h_t_chooser_chosen, .inl (cI, 3, .inl t_chooser_chosen_8)), (h_t_chooser_near, .inr (4, [.long t_chooser_near_x_26, .long t_chooser_near_y_27, .long t_chooser_near_lower_28, .long t_chooser_near_square_29, .long t_chooser_near_squareLower_30, .int t_chooser_near_fromX_23, .int t_chooser_near_fromY_24]))]) (va_runV (As := []) (rest := []) ⟨hx, hb, hml, hown, hts⟩ (mtX4_bringToLowestTerms l dC dI cI cL cB K h_t_chooser_near H.size t_chooser_near_x_18 t_chooser_near_y_19 t_chooser_near_lower_20 t_chooser_near_square_21 t_chooser_near_squareLower_22 t_chooser_near_fromX_23 t_chooser_near_fromY_24 t_chooser_near_x_26 t_chooser_near_y_27 t_chooser_near_lower_28 t_chooser_near_square_29 t_chooser_near_squareLower_30 hq_31) (cwV 0 hts gv_X11_181 rfl rfl rfl hdV_X4_bringToLowestTerms ⟨Nat.le_trans (Nat.le_of_ble_eq_true rfl) hF, Nat.le_trans (Nat.le_of_ble_eq_true rfl) hLo⟩) (cPreV hK hP hD hT [7] rfl rfl (ci := 4) (q0 := 0) rfl rfl) rfl rfl hl.1 rfl (lv_room (Nat.le_of_ble_eq_true rfl)) dX11_distance_72 ⟨Nat.zero_le _, Nat.zero_le _⟩) hP hD hS hA [7] [0, 1, 2, 3, 4, 5, 6] [0, 1, 2, 3, 4, 5, 6, 7] rfl rfl rfl rfl rfl rfl (fun H locs hP hD hS => ?_)
        refine lv_iload hx hb dX11_distance_75 (lv_at hl 5 rfl) ?_
        by_cases hk_32 : a5 = (0 : Int32)
        · replace hf := it_t hk_32 hf
          refine lv_lookup (off := 27) (tgt := 104) hx hb dX11_distance_77 (by decide) (by rw [hk_32]; decide) (by decide) ?_
          refine lv_aload_n hx hb dX11_distance_104 rfl (lv_at hl 0 rfl) ?_
          refine va_get (D := (dC, dI)) (ci := 11) (v := .ref h_t_chooser) (C := RX11) (T := TX11) (N := 11) hx hb hts in_X11 hown hK hP 0 rfl rfl 6 (Nat.le_of_ble_eq_true rfl) (hts _ qf_X11_56) (fun _ h9 => h9) rfl dX11_distance_105 ?_
          refine va_get (D := (dC, dI)) (ci := 7) (v := .ref h_t_chooser_near) (C := RX7) (T := TX7) (N := 7) hx hb hts in_X7 hown hK hP 5 rfl rfl 2 (Nat.le_of_ble_eq_true rfl) (hts _ qf_X11_285) (fun _ h9 => h9) rfl dX11_distance_108 ?_
          refine va_get (D := (dC, dI)) (ci := 4) (v := .long t_chooser_near_square_29) (C := RX4) (T := TX4) (N := 7) hx hb hts in_X4 hown hK hP 7 rfl rfl 3 (Nat.le_of_ble_eq_true rfl) (hts _ qf_X11_192) (fun _ h9 => h9) rfl dX11_distance_111 ?_
          obtain ⟨rfl, rfl, rfl, rfl, rfl, rfl, rfl, rfl, rfl, rfl, rfl⟩ := o11 hf
          exact W.lret hx hb hr (fun t ht hW => ⟨⟨_, (), rfl, rfl, by rw [ht]; exact hP, hD⟩, hS.F ht⟩) hS.2.2 dX11_distance_114
        · replace hf := it_f hk_32 hf
          by_cases hk_33 : a5 = (1 : Int32)
          · replace hf := it_t hk_33 hf
            refine lv_lookup (off := 38) (tgt := 115) hx hb dX11_distance_77 (by decide) (by rw [hk_33]; decide) (by decide) ?_
            refine lv_aload_n hx hb dX11_distance_115 rfl (lv_at hl 0 rfl) ?_
            refine va_get (D := (dC, dI)) (ci := 11) (v := .ref h_t_chooser) (C := RX11) (T := TX11) (N := 11) hx hb hts in_X11 hown hK hP 0 rfl rfl 6 (Nat.le_of_ble_eq_true rfl) (hts _ qf_X11_56) (fun _ h9 => h9) rfl dX11_distance_116 ?_
            refine va_get (D := (dC, dI)) (ci := 7) (v := .ref h_t_chooser_near) (C := RX7) (T := TX7) (N := 7) hx hb hts in_X7 hown hK hP 5 rfl rfl 2 (Nat.le_of_ble_eq_true rfl) (hts _ qf_X11_285) (fun _ h9 => h9) rfl dX11_distance_119 ?_
            refine va_get (D := (dC, dI)) (ci := 4) (v := .long t_chooser_near_squareLower_30) (C := RX4) (T := TX4) (N := 7) hx hb hts in_X4 hown hK hP 7 rfl rfl 4 (Nat.le_of_ble_eq_true rfl) (hts _ qf_X11_195) (fun _ h9 => h9) rfl dX11_distance_122 ?_
            obtain ⟨rfl, rfl, rfl, rfl, rfl, rfl, rfl, rfl, rfl, rfl, rfl⟩ := o11 hf
            exact W.lret hx hb hr (fun t ht hW => ⟨⟨_, (), rfl, rfl, by rw [ht]; exact hP, hD⟩, hS.F ht⟩) hS.2.2 dX11_distance_125
          · replace hf := it_f hk_33 hf
            refine lv_lookup (off := 49) (tgt := 126) hx hb dX11_distance_77 (by decide) ((lv_osw (k := (0 : Int32)) hk_32 (by decide)).trans ((lv_osw (k := (1 : Int32)) hk_33 (by decide)).trans rfl)) (by decide) ?_
            refine lv_ldc2 (v := (-9223372036854775808 : Int64)) hx hb hown (hts _ qj_X11_131) dX11_distance_126 ?_
            obtain ⟨rfl, rfl, rfl, rfl, rfl, rfl, rfl, rfl, rfl, rfl, rfl⟩ := o11 hf
            exact W.lret hx hb hr (fun t ht hW => ⟨⟨_, (), rfl, rfl, by rw [ht]; exact hP, hD⟩, hS.F ht⟩) hS.2.2 dX11_distance_129
      · replace hf := it_f (hc) hf
        refine lv_ldc2 (v := (-9223372036854775808 : Int64)) hx hb hown (hts _ qj_X11_131) dX11_distance_50 ?_
        obtain ⟨rfl, rfl, rfl, rfl, rfl, rfl, rfl, rfl, rfl, rfl, rfl⟩ := o11 hf
        exact W.lret hx hb hr (fun t ht hW => ⟨⟨_, (), rfl, rfl, by rw [ht]; exact hP, hD⟩, hS.F ht⟩) hS.2.2 dX11_distance_53
    · replace hf := it_f (hc) hf
      refine lv_ldc2 (v := (-9223372036854775808 : Int64)) hx hb hown (hts _ qj_X11_131) dX11_distance_18 ?_
      obtain ⟨rfl, rfl, rfl, rfl, rfl, rfl, rfl, rfl, rfl, rfl, rfl⟩ := o11 hf
      exact W.lret hx hb hr (fun t ht hW => ⟨⟨_, (), rfl, rfl, by rw [ht]; exact hP, hD⟩, hS.F ht⟩) hS.2.2 dX11_distance_21
theorem dX7_runAll_0 : decode cX7_runAll 0 = .ok (.aload_n 0, 1) := by decide +kernel
theorem dX7_runAll_1 : decode cX7_runAll 1 = .ok (.iconst 0, 1) := by decide +kernel
theorem dX7_runAll_2 : decode cX7_runAll 2 = .ok (.putfield 113, 3) := by decide +kernel
theorem dX7_runAll_5 : decode cX7_runAll 5 = .ok (.aload_n 0, 1) := by decide +kernel
theorem dX7_runAll_6 : decode cX7_runAll 6 = .ok (.iconst 0, 1) := by decide +kernel
theorem dX7_runAll_7 : decode cX7_runAll 7 = .ok (.putfield 116, 3) := by decide +kernel
theorem dX7_runAll_10 : decode cX7_runAll 10 = .ok (.aload_n 0, 1) := by decide +kernel
theorem dX7_runAll_11 : decode cX7_runAll 11 = .ok (.aload_n 1, 1) := by decide +kernel
theorem dX7_runAll_12 : decode cX7_runAll 12 = .ok (.invokevirtual 43, 3) := by decide +kernel
theorem dX7_runAll_15 : decode cX7_runAll 15 = .ok (.istore_n 2, 1) := by decide +kernel
theorem dX7_runAll_16 : decode cX7_runAll 16 = .ok (.iconst 0, 1) := by decide +kernel
theorem dX7_runAll_17 : decode cX7_runAll 17 = .ok (.istore_n 3, 1) := by decide +kernel
theorem dX7_runAll_18 : decode cX7_runAll 18 = .ok (.iload_n 3, 1) := by decide +kernel
theorem dX7_runAll_19 : decode cX7_runAll 19 = .ok (.sipush 512, 3) := by decide +kernel
theorem dX7_runAll_22 : decode cX7_runAll 22 = .ok (.if_icmp .ge 94, 3) := by decide +kernel
theorem dX7_runAll_25 : decode cX7_runAll 25 = .ok (.iload_n 2, 1) := by decide +kernel
theorem dX7_runAll_26 : decode cX7_runAll 26 = .ok (.ifCond .eq 90, 3) := by decide +kernel
theorem dX7_runAll_29 : decode cX7_runAll 29 = .ok (.aload_n 0, 1) := by decide +kernel
theorem dX7_runAll_30 : decode cX7_runAll 30 = .ok (.getfield 9, 3) := by decide +kernel
theorem dX7_runAll_33 : decode cX7_runAll 33 = .ok (.iconst 0, 1) := by decide +kernel
theorem dX7_runAll_34 : decode cX7_runAll 34 = .ok (.iaload, 1) := by decide +kernel
theorem dX7_runAll_35 : decode cX7_runAll 35 = .ok (.istore 4, 2) := by decide +kernel
theorem dX7_runAll_37 : decode cX7_runAll 37 = .ok (.aload_n 0, 1) := by decide +kernel
theorem dX7_runAll_38 : decode cX7_runAll 38 = .ok (.getfield 9, 3) := by decide +kernel
theorem dX7_runAll_41 : decode cX7_runAll 41 = .ok (.iconst 1, 1) := by decide +kernel
theorem dX7_runAll_42 : decode cX7_runAll 42 = .ok (.iaload, 1) := by decide +kernel
theorem dX7_runAll_43 : decode cX7_runAll 43 = .ok (.istore 5, 2) := by decide +kernel
theorem dX7_runAll_45 : decode cX7_runAll 45 = .ok (.aload_n 0, 1) := by decide +kernel
theorem dX7_runAll_46 : decode cX7_runAll 46 = .ok (.getfield 9, 3) := by decide +kernel
theorem dX7_runAll_49 : decode cX7_runAll 49 = .ok (.iconst 2, 1) := by decide +kernel
theorem dX7_runAll_50 : decode cX7_runAll 50 = .ok (.iaload, 1) := by decide +kernel
theorem dX7_runAll_51 : decode cX7_runAll 51 = .ok (.istore 6, 2) := by decide +kernel
theorem dX7_runAll_53 : decode cX7_runAll 53 = .ok (.aload_n 0, 1) := by decide +kernel
theorem dX7_runAll_54 : decode cX7_runAll 54 = .ok (.aload_n 0, 1) := by decide +kernel
theorem dX7_runAll_55 : decode cX7_runAll 55 = .ok (.getfield 116, 3) := by decide +kernel
theorem dX7_runAll_58 : decode cX7_runAll 58 = .ok (.aload_n 0, 1) := by decide +kernel
theorem dX7_runAll_59 : decode cX7_runAll 59 = .ok (.aload_n 1, 1) := by decide +kernel
theorem dX7_runAll_60 : decode cX7_runAll 60 = .ok (.sipush 512, 3) := by decide +kernel
theorem dX7_runAll_63 : decode cX7_runAll 63 = .ok (.invokevirtual 119, 3) := by decide +kernel
theorem dX7_runAll_66 : decode cX7_runAll 66 = .ok (.invokestatic 123, 3) := by decide +kernel
theorem dX7_runAll_69 : decode cX7_runAll 69 = .ok (.putfield 116, 3) := by decide +kernel
theorem dX7_runAll_72 : decode cX7_runAll 72 = .ok (.aload_n 0, 1) := by decide +kernel
theorem dX7_runAll_73 : decode cX7_runAll 73 = .ok (.getfield 22, 3) := by decide +kernel
theorem dX7_runAll_76 : decode cX7_runAll 76 = .ok (.getfield 91, 3) := by decide +kernel
theorem dX7_runAll_79 : decode cX7_runAll 79 = .ok (.lconst 0, 1) := by decide +kernel
theorem dX7_runAll_80 : decode cX7_runAll 80 = .ok (.lcmp, 1) := by decide +kernel
theorem dX7_runAll_81 : decode cX7_runAll 81 = .ok (.ifCond .eq 13, 3) := by decide +kernel
theorem dX7_runAll_84 : decode cX7_runAll 84 = .ok (.aload_n 0, 1) := by decide +kernel
theorem dX7_runAll_85 : decode cX7_runAll 85 = .ok (.dup, 1) := by decide +kernel
theorem dX7_runAll_86 : decode cX7_runAll 86 = .ok (.getfield 113, 3) := by decide +kernel
theorem dX7_runAll_89 : decode cX7_runAll 89 = .ok (.iconst 1, 1) := by decide +kernel
theorem dX7_runAll_90 : decode cX7_runAll 90 = .ok (.iadd, 1) := by decide +kernel
theorem dX7_runAll_91 : decode cX7_runAll 91 = .ok (.putfield 113, 3) := by decide +kernel
theorem dX7_runAll_94 : decode cX7_runAll 94 = .ok (.aload_n 0, 1) := by decide +kernel
theorem dX7_runAll_95 : decode cX7_runAll 95 = .ok (.iload 4, 2) := by decide +kernel
theorem dX7_runAll_97 : decode cX7_runAll 97 = .ok (.iload 5, 2) := by decide +kernel
theorem dX7_runAll_99 : decode cX7_runAll 99 = .ok (.iload 6, 2) := by decide +kernel
theorem dX7_runAll_101 : decode cX7_runAll 101 = .ok (.invokevirtual 129, 3) := by decide +kernel
theorem dX7_runAll_104 : decode cX7_runAll 104 = .ok (.aload_n 0, 1) := by decide +kernel
theorem dX7_runAll_105 : decode cX7_runAll 105 = .ok (.aload_n 1, 1) := by decide +kernel
theorem dX7_runAll_106 : decode cX7_runAll 106 = .ok (.invokevirtual 51, 3) := by decide +kernel
theorem dX7_runAll_109 : decode cX7_runAll 109 = .ok (.istore_n 2, 1) := by decide +kernel
theorem dX7_runAll_110 : decode cX7_runAll 110 = .ok (.iinc 3 1, 3) := by decide +kernel
theorem dX7_runAll_113 : decode cX7_runAll 113 = .ok (.goto (-95), 3) := by decide +kernel
theorem dX7_runAll_116 : decode cX7_runAll 116 = .ok (.return_, 1) := by decide +kernel
set_option maxRecDepth 100000 in
set_option maxHeartbeats 4000000 in
theorem wX7_runAll_L18 {p : Program} {l : Launch} {e : Env} {R : Room} {s : State} {m : MethodId} {args : Array Value} {below : List Frame} {meth : Method} {c : Code} {Q : State → Prop} {A : Nat → Prop} {dC : Nat → ClassId} {dI : Nat → Nat → Nat} {cI cL cB : ClassId} {K : Nat} (C0 : Sx p R s m args c cX7_runAll 7 RX7 A dC dI cI cL cB 5 144) (h_t h_t_chosen h_t_mixed h_t_near h_p1 h_p1_x h_p1_y h_p1_colour h_p1_load : Nat) (p1_size : Int32) (p1_centreX : Int32) (p1_centreY : Int32) (p1_x : Nat → Int32) (p1_y : Nat → Int32) (p1_colour : Nat → Int32) : ∀ (n : Nat) (l2 : Int32) (l3 : Int32) (t_gone : Int32) (t_stuck : Int32) (t_longest : Int32) (t_side : Int32) (t_chosen : Nat → Int32) (t_near_x : Int64) (t_near_y : Int64) (t_near_lower : Int64) (t_near_square : Int64) (t_near_squareLower : Int64) (t_near_fromX : Int32) (t_near_fromY : Int32) (x_t_gone : Int32) (x_t_stuck : Int32) (x_t_longest : Int32) (x_t_side : Int32) (x_t_chosen : Nat → Int32) (x_t_near_x : Int64) (x_t_near_y : Int64) (x_t_near_lower : Int64) (x_t_near_square : Int64) (x_t_near_squareLower : Int64) (x_t_near_fromX : Int32) (x_t_near_fromY : Int32) (H : Heap) (locs : List Loc) (ls : Array Slot), va_P (dC, dI) vwCl [(h_t, .inr (7, [.ref h_t_chosen, .ref h_t_mixed, .ref h_t_near, .int t_gone, .int t_stuck, .int t_longest, .int t_side])), (h_t_chosen, .inl (cI, 3, .inl t_chosen)), (h_t_near, .inr (4, [.long t_near_x, .long t_near_y, .long t_near_lower, .long t_near_square, .long t_near_squareLower, .int t_near_fromX, .int t_near_fromY])), (h_p1, .inr (0, [.ref h_p1_x, .ref h_p1_y, .ref h_p1_colour, .ref h_p1_load, .int p1_size, .int p1_centreX, .int p1_centreY])), (h_p1_x, .inl (cI, 24, .inl p1_x)), (h_p1_y, .inl (cI, 24, .inl p1_y)), (h_p1_colour, .inl (cI, 24, .inl p1_colour))] H → va_D A [(h_t, .inr (7, [.ref h_t_chosen, .ref h_t_mixed, .ref h_t_near, .int t_gone, .int t_stuck, .int t_longest, .int t_side])), (h_t_chosen, .inl (cI, 3, .inl t_chosen)), (h_t_near, .inr (4, [.long t_near_x, .long t_near_y, .long t_near_lower, .long t_near_square, .long t_near_squareLower, .int t_near_fromX, .int t_near_fromY])), (h_p1, .inr (0, [.ref h_p1_x, .ref h_p1_y, .ref h_p1_colour, .ref h_p1_load, .int p1_size, .int p1_centreX, .int p1_centreY])), (h_p1_x, .inl (cI, 24, .inl p1_x)), (h_p1_y, .inl (cI, 24, .inl p1_y)), (h_p1_colour, .inl (cI, 24, .inl p1_colour))] → va_S A s.heap H locs → lv_has ls 7 [(0, .ref h_t), (1, .ref h_p1), (2, .int l2), (3, .int l3)] → fX7_runAll_L18 K p1_size p1_centreX p1_centreY p1_x p1_y p1_colour n l2 l3 t_gone t_stuck t_longest t_side t_chosen t_near_x t_near_y t_near_lower t_near_square t_near_squareLower t_near_fromX t_near_fromY = some (x_t_gone, x_t_stuck, x_t_longest, x_t_side, x_t_chosen, x_t_near_x, x_t_near_y, x_t_near_lower, x_t_near_square, x_t_near_squareLower, x_t_near_fromX, x_t_near_fromY) → (∀ (H : Heap) (locs : List Loc) (ls : Array Slot), va_P (dC, dI) vwCl [(h_t, .inr (7, [.ref h_t_chosen, .ref h_t_mixed, .ref h_t_near, .int x_t_gone, .int x_t_stuck, .int x_t_longest, .int x_t_side])), (h_t_chosen, .inl (cI, 3, .inl x_t_chosen)), (h_t_near, .inr (4, [.long x_t_near_x, .long x_t_near_y, .long x_t_near_lower, .long x_t_near_square, .long x_t_near_squareLower, .int x_t_near_fromX, .int x_t_near_fromY])), (h_p1, .inr (0, [.ref h_p1_x, .ref h_p1_y, .ref h_p1_colour, .ref h_p1_load, .int p1_size, .int p1_centreX, .int p1_centreY])), (h_p1_x, .inl (cI, 24, .inl p1_x)), (h_p1_y, .inl (cI, 24, .inl p1_y)), (h_p1_colour, .inl (cI, 24, .inl p1_colour))] H → va_D A [(h_t, .inr (7, [.ref h_t_chosen, .ref h_t_mixed, .ref h_t_near, .int x_t_gone, .int x_t_stuck, .int x_t_longest, .int x_t_side])), (h_t_chosen, .inl (cI, 3, .inl x_t_chosen)), (h_t_near, .inr (4, [.long x_t_near_x, .long x_t_near_y, .long x_t_near_lower, .long x_t_near_square, .long x_t_near_squareLower, .int x_t_near_fromX, .int x_t_near_fromY])), (h_p1, .inr (0, [.ref h_p1_x, .ref h_p1_y, .ref h_p1_colour, .ref h_p1_load, .int p1_size, .int p1_centreX, .int p1_centreY])), (h_p1_x, .inl (cI, 24, .inl p1_x)), (h_p1_y, .inl (cI, 24, .inl p1_y)), (h_p1_colour, .inl (cI, 24, .inl p1_colour))] → va_S A s.heap H locs → lv_has ls 7 [] → W p l e R s m args below meth c H locs 0 0 Q (F0 m 116 ls [])) → W p l e R s m args below meth c H locs 0 0 Q (F0 m 18 ls []) := by
  obtain ⟨hx, hb, hml, hown, hts, hK, hT, hA, hF, hLo⟩ := id C0
  intro n
  induction n with
  | zero =>
    intro l2 l3 t_gone t_stuck t_longest t_side t_chosen t_near_x t_near_y t_near_lower t_near_square t_near_squareLower t_near_fromX t_near_fromY x_t_gone x_t_stuck x_t_longest x_t_side x_t_chosen x_t_near_x x_t_near_y x_t_near_lower x_t_near_square x_t_near_squareLower x_t_near_fromX x_t_near_fromY H locs ls hP hD hS hl hf
    rw [fX7_runAll_L18] at hf
    cases hf
  | succ n ih =>
    intro l2 l3 t_gone t_stuck t_longest t_side t_chosen t_near_x t_near_y t_near_lower t_near_square t_near_squareLower t_near_fromX t_near_fromY x_t_gone x_t_stuck x_t_longest x_t_side x_t_chosen x_t_near_x x_t_near_y x_t_near_lower x_t_near_square x_t_near_squareLower x_t_near_fromX x_t_near_fromY H locs ls hP hD hS hl hf hk
    rw [fX7_runAll_L18] at hf
    refine lv_iload_n hx hb dX7_runAll_18 rfl (lv_at hl 3 rfl) ?_
    refine lv_sipush (v := (512 : Int32)) hx hb dX7_runAll_19 (by decide) ?_
    refine lv_icmp_ge (tgt := 116) hx hb dX7_runAll_22 (by decide) (fun hc => ?_) (fun hc => ?_)
    · replace hf := it_t (hc) hf
      obtain ⟨rfl, rfl, rfl, rfl, rfl, rfl, rfl, rfl, rfl, rfl, rfl, rfl⟩ := o12 hf
      exact hk H locs ls hP hD hS (lv_sub hl [] rfl)
    · replace hf := it_f (hc) hf
      refine lv_iload_n hx hb dX7_runAll_25 rfl (lv_at hl 2 rfl) ?_
      refine lv_if_eq (tgt := 116) hx hb dX7_runAll_26 (by decide) (fun hc => ?_) (fun hc => ?_)
      · replace hf := it_t (hc) hf
        obtain ⟨rfl, rfl, rfl, rfl, rfl, rfl, rfl, rfl, rfl, rfl, rfl, rfl⟩ := o12 hf
        exact hk H locs ls hP hD hS (lv_sub hl [] rfl)
      · replace hf := it_f (hc) hf
        refine lv_aload_n hx hb dX7_runAll_29 rfl (lv_at hl 0 rfl) ?_
        refine va_get (D := (dC, dI)) (ci := 7) (v := .ref h_t_chosen) (C := RX7) (T := TX7) (N := 7) hx hb hts in_X7 hown hK hP 0 rfl rfl 0 (Nat.le_of_ble_eq_true rfl) (hts _ qf_X7_9) (fun _ h9 => h9) rfl dX7_runAll_30 ?_
        refine lv_iconst (v := (0 : Int32)) hx hb dX7_runAll_33 (by decide) ?_
        refine va_iald hx hb hK hP 1 0 rfl rfl (inb_in (by decide)) dX7_runAll_34 ?_
        refine lv_topi (fun l4_4 el4_4 => ?_)
        replace hf := xl_at hf el4_4
        refine lv_istore (lv' := [(4, .int l4_4), (0, .ref h_t), (1, .ref h_p1), (2, .int l2), (3, .int l3)]) hx hb dX7_runAll_35 hl (Nat.le_of_ble_eq_true rfl) rfl (fun ls hl => ?_)
        refine lv_aload_n hx hb dX7_runAll_37 rfl (lv_at hl 1 rfl) ?_
        refine va_get (D := (dC, dI)) (ci := 7) (v := .ref h_t_chosen) (C := RX7) (T := TX7) (N := 7) hx hb hts in_X7 hown hK hP 0 rfl rfl 0 (Nat.le_of_ble_eq_true rfl) (hts _ qf_X7_9) (fun _ h9 => h9) rfl dX7_runAll_38 ?_
        refine lv_iconst (v := (1 : Int32)) hx hb dX7_runAll_41 (by decide) ?_
        refine va_iald hx hb hK hP 1 0 rfl rfl (inb_in (by decide)) dX7_runAll_42 ?_
        refine lv_topi (fun l5_5 el5_5 => ?_)
        replace hf := xl_at hf el5_5
        refine lv_istore (lv' := [(5, .int l5_5), (4, .int l4_4), (0, .ref h_t), (1, .ref h_p1), (2, .int l2), (3, .int l3)]) hx hb dX7_runAll_43 hl (Nat.le_of_ble_eq_true rfl) rfl (fun ls hl => ?_)
        refine lv_aload_n hx hb dX7_runAll_45 rfl (lv_at hl 2 rfl) ?_
        refine va_get (D := (dC, dI)) (ci := 7) (v := .ref h_t_chosen) (C := RX7) (T := TX7) (N := 7) hx hb hts in_X7 hown hK hP 0 rfl rfl 0 (Nat.le_of_ble_eq_true rfl) (hts _ qf_X7_9) (fun _ h9 => h9) rfl dX7_runAll_46 ?_
        refine lv_iconst (v := (2 : Int32)) hx hb dX7_runAll_49 (by decide) ?_
        refine va_iald hx hb hK hP 1 0 rfl rfl (inb_in (by decide)) dX7_runAll_50 ?_
        refine lv_topi (fun l6_6 el6_6 => ?_)
        replace hf := xl_at hf el6_6
        refine lv_istore (lv' := [(6, .int l6_6), (5, .int l5_5), (4, .int l4_4), (0, .ref h_t), (1, .ref h_p1), (2, .int l2), (3, .int l3)]) hx hb dX7_runAll_51 hl (Nat.le_of_ble_eq_true rfl) rfl (fun ls hl => ?_)
        refine lv_aload_n hx hb dX7_runAll_53 rfl (lv_at hl 3 rfl) ?_
        refine lv_aload_n hx hb dX7_runAll_54 rfl (lv_at hl 3 rfl) ?_
        refine va_get (D := (dC, dI)) (ci := 7) (v := .int t_longest) (C := RX7) (T := TX7) (N := 7) hx hb hts in_X7 hown hK hP 0 rfl rfl 5 (Nat.le_of_ble_eq_true rfl) (hts _ qf_X7_116) (fun _ h9 => h9) rfl dX7_runAll_55 ?_
        refine lv_aload_n hx hb dX7_runAll_58 rfl (lv_at hl 3 rfl) ?_
        refine lv_aload_n hx hb dX7_runAll_59 rfl (lv_at hl 4 rfl) ?_
        refine lv_sipush (v := (512 : Int32)) hx hb dX7_runAll_60 (by decide) ?_
        obtain ⟨r_7, t_gone_8, t_side_9, t_chosen_10, t_near_x_11, t_near_y_12, t_near_lower_13, t_near_square_14, t_near_squareLower_15, t_near_fromX_16, t_near_fromY_17, hq_18, hf⟩ := b11_some hf
        refine xci (wr := []) (w2 := [(h_t, .inr (7, [.ref h_t_chosen, .ref h_t_mixed, .ref h_t_near, .int t_gone_8, .int t_stuck, .int t_longest, .int t_side_9])), (h_t_chosen, .inl (cI, 3, .inl t_chosen_10)), (h_t_near, .inr (4, [.long t_near_x_11, .long t_near_y_12, .long t_near_lower_13, .long t_near_square_14, .long t_near_squareLower_15, .int t_near_fromX_16, .int t_near_fromY_17])), (h_p1, .inr (0, [.ref h_p1_x, .ref h_p1_y, .ref h_p1_colour, .ref h_p1_load, .int p1_size, .int p1_centreX, .int p1_centreY])), (h_p1_x, .inl (cI, 24, .inl p1_x)), (h_p1_y, .inl (cI, 24, .inl p1_y)), (h_p1_colour, .inl (cI, 24, .inl p1_colour))]) (va_runV (As := [.ref h_p1, .int (512 : Int32)]) (rest := [.int t_longest, .ref h_t]) ⟨hx, hb, hml, hown, hts⟩ (mtX7_run l dC dI cI cL cB K h_t h_t_chosen h_t_mixed h_t_near h_p1 h_p1_x h_p1_y h_p1_colour h_p1_load H.size t_gone t_stuck t_longest t_side t_chosen t_near_x t_near_y t_near_lower t_near_square t_near_squareLower t_near_fromX t_near_fromY p1_size p1_centreX p1_centreY p1_x p1_y p1_colour (512 : Int32) r_7 t_gone_8 t_side_9 t_chosen_10 t_near_x_11 t_near_y_12 t_near_lower_13 t_near_square_14 t_near_squareLower_15 t_near_fromX_16 t_near_fromY_17 hq_18) (cwV 2 hts gv_X7_119 rfl rfl rfl hdV_X7_run ⟨Nat.le_trans (Nat.le_of_ble_eq_true rfl) hF, Nat.le_trans (Nat.le_of_ble_eq_true rfl) hLo⟩) (cPreV hK hP hD hT [0, 1, 2, 3, 4, 5, 6] rfl rfl (ci := 7) (q0 := 0) rfl rfl) rfl rfl hl.1 rfl (lv_room (Nat.le_of_ble_eq_true rfl)) dX7_runAll_63 ⟨Nat.zero_le _, Nat.zero_le _⟩) hP hD hS hA [0, 1, 2, 3, 4, 5, 6] [] [0, 1, 2, 3, 4, 5, 6] rfl rfl rfl rfl rfl rfl (fun H locs hP hD hS => ?_)
        refine va_mmax hx hb (hml.trans hl.1.symm) hown (hts _ qm_X7_123) (hts _ qt_Lib_Math_max) (hts _ qz_Math) (hts _ qc_Lib_Math_max) (Nat.le_trans (Nat.le_of_ble_eq_true rfl) hF) (Nat.le_trans (Nat.le_of_ble_eq_true rfl) hLo) (Nat.zero_le _) (Nat.zero_le _) dX7_runAll_66 ?_
        refine lv_topi (fun v_19 ev_19 => ?_)
        replace hf := xl_at hf ev_19
        refine xput (D := (dC, dI)) (ci := 7) (v := .int v_19) (C := RX7) (T := TX7) (N := 7) (w2 := [(h_t, .inr (7, [.ref h_t_chosen, .ref h_t_mixed, .ref h_t_near, .int t_gone_8, .int t_stuck, .int v_19, .int t_side_9])), (h_t_chosen, .inl (cI, 3, .inl t_chosen_10)), (h_t_near, .inr (4, [.long t_near_x_11, .long t_near_y_12, .long t_near_lower_13, .long t_near_square_14, .long t_near_squareLower_15, .int t_near_fromX_16, .int t_near_fromY_17])), (h_p1, .inr (0, [.ref h_p1_x, .ref h_p1_y, .ref h_p1_colour, .ref h_p1_load, .int p1_size, .int p1_centreX, .int p1_centreY])), (h_p1_x, .inl (cI, 24, .inl p1_x)), (h_p1_y, .inl (cI, 24, .inl p1_y)), (h_p1_colour, .inl (cI, 24, .inl p1_colour))]) hx hb hts in_X7 tyX7 tyX7_ok nmX7 hown hK hP hD hS 0 rfl rfl 5 (Nat.le_of_ble_eq_true rfl) (hts _ qf_X7_116) (fun _ h9 => h9) rfl rfl rfl (Nat.le_of_ble_eq_true rfl) rfl dX7_runAll_69 (fun H locs hP hD hS => ?_)
        refine lv_aload_n hx hb dX7_runAll_72 rfl (lv_at hl 3 rfl) ?_
        refine va_get (D := (dC, dI)) (ci := 7) (v := .ref h_t_near) (C := RX7) (T := TX7) (N := 7) hx hb hts in_X7 hown hK hP 0 rfl rfl 2 (Nat.le_of_ble_eq_true rfl) (hts _ qf_X7_22) (fun _ h9 => h9) rfl dX7_runAll_73 ?_
        refine va_get (D := (dC, dI)) (ci := 4) (v := .long t_near_square_14) (C := RX4) (T := TX4) (N := 7) hx hb hts in_X4 hown hK hP 2 rfl rfl 3 (Nat.le_of_ble_eq_true rfl) (hts _ qf_X7_91) (fun _ h9 => h9) rfl dX7_runAll_76 ?_
        refine lv_lconst (v := (0 : Int64)) hx hb dX7_runAll_79 (by decide) ?_
        refine W.lcmp hx hb dX7_runAll_80 ?_
        obtain ⟨k_21, ek_21, hf⟩ := jn_out hf
        have J_22 : ∀ (t_stuck_20 : Int32) (H : Heap) (locs : List Loc) (ls : Array Slot), va_P (dC, dI) vwCl [(h_t, .inr (7, [.ref h_t_chosen, .ref h_t_mixed, .ref h_t_near, .int t_gone_8, .int t_stuck_20, .int v_19, .int t_side_9])), (h_t_chosen, .inl (cI, 3, .inl t_chosen_10)), (h_t_near, .inr (4, [.long t_near_x_11, .long t_near_y_12, .long t_near_lower_13, .long t_near_square_14, .long t_near_squareLower_15, .int t_near_fromX_16, .int t_near_fromY_17])), (h_p1, .inr (0, [.ref h_p1_x, .ref h_p1_y, .ref h_p1_colour, .ref h_p1_load, .int p1_size, .int p1_centreX, .int p1_centreY])), (h_p1_x, .inl (cI, 24, .inl p1_x)), (h_p1_y, .inl (cI, 24, .inl p1_y)), (h_p1_colour, .inl (cI, 24, .inl p1_colour))] H → va_D A [(h_t, .inr (7, [.ref h_t_chosen, .ref h_t_mixed, .ref h_t_near, .int t_gone_8, .int t_stuck_20, .int v_19, .int t_side_9])), (h_t_chosen, .inl (cI, 3, .inl t_chosen_10)), (h_t_near, .inr (4, [.long t_near_x_11, .long t_near_y_12, .long t_near_lower_13, .long t_near_square_14, .long t_near_squareLower_15, .int t_near_fromX_16, .int t_near_fromY_17])), (h_p1, .inr (0, [.ref h_p1_x, .ref h_p1_y, .ref h_p1_colour, .ref h_p1_load, .int p1_size, .int p1_centreX, .int p1_centreY])), (h_p1_x, .inl (cI, 24, .inl p1_x)), (h_p1_y, .inl (cI, 24, .inl p1_y)), (h_p1_colour, .inl (cI, 24, .inl p1_colour))] → va_S A s.heap H locs → lv_has ls 7 [(0, .ref h_t), (1, .ref h_p1), (3, .int l3), (4, .int l4_4), (5, .int l5_5), (6, .int l6_6)] → k_21 t_stuck_20 = some (x_t_gone, x_t_stuck, x_t_longest, x_t_side, x_t_chosen, x_t_near_x, x_t_near_y, x_t_near_lower, x_t_near_square, x_t_near_squareLower, x_t_near_fromX, x_t_near_fromY) → W p l e R s m args below meth c H locs 0 0 Q (F0 m 94 ls []) := by
          intro t_stuck_20 H locs ls hP hD hS hl hf
          rw [ek_21] at hf
          try dsimp only at hf
          refine lv_aload_n hx hb dX7_runAll_94 rfl (lv_at hl 0 rfl) ?_
          refine lv_iload hx hb dX7_runAll_95 (lv_at hl 3 rfl) ?_
          refine lv_iload hx hb dX7_runAll_97 (lv_at hl 4 rfl) ?_
          refine lv_iload hx hb dX7_runAll_99 (lv_at hl 5 rfl) ?_
          obtain ⟨t_chosen_23, hq_24, hf⟩ := b1_some hf
          refine xcv (wr := [(h_t_near, .inr (4, [.long t_near_x_11, .long t_near_y_12, .long t_near_lower_13, .long t_near_square_14, .long t_near_squareLower_15, .int t_near_fromX_16, .int t_near_fromY_17])), (h_p1, .inr (0, [.ref h_p1_x, .ref h_p1_y, .ref h_p1_colour, .ref h_p1_load, .int p1_size, .int p1_centreX, .int p1_centreY])), (h_p1_x, .inl (cI, 24, .inl p1_x)), (h_p1_y, .inl (cI, 24, .inl p1_y)), (h_p1_colour, .inl (cI, 24, .inl p1_colour))]) (w2 := [(h_t, .inr (7, [.ref h_t_chosen, .ref h_t_mixed, .ref h_t_near, .int t_gone_8, .int t_stuck_20, .int v_19, .int t_side_9])), (h_t_chosen, .inl (cI, 3, .inl t_chosen_23)), (h_t_near, .inr (4, [.long t_near_x_11, .long t_near_y_12, .long t_near_lower_13, .long t_near_square_14, .long t_near_squareLower_15, .int t_near_fromX_16, .int t_near_fromY_17])), (h_p1, .inr (0, [.ref h_p1_x, .ref h_p1_y, .ref h_p1_colour, .ref h_p1_load, .int p1_size, .int p1_centreX, .int p1_centreY])), (h_p1_x, .inl (cI, 24, .inl p1_x)), (h_p1_y, .inl (cI, 24, .inl p1_y)), (h_p1_colour, .inl (cI, 24, .inl p1_colour))]) (va_runV (As := [.int l4_4, .int l5_5, .int l6_6]) (rest := []) ⟨hx, hb, hml, hown, hts⟩ (mtX7_choose l dC dI cI cL cB K h_t h_t_chosen h_t_mixed h_t_near H.size t_gone_8 t_stuck_20 v_19 t_side_9 t_chosen_10 l4_4 l5_5 l6_6 t_chosen_23 hq_24) (cwV 3 hts gv_X7_129 rfl rfl rfl hdV_X7_choose ⟨Nat.le_trans (Nat.le_of_ble_eq_true rfl) hF, Nat.le_trans (Nat.le_of_ble_eq_true rfl) hLo⟩) (cPreV hK hP hD hT [0, 1] rfl rfl (ci := 7) (q0 := 0) rfl rfl) rfl rfl hl.1 rfl (lv_room (Nat.le_of_ble_eq_true rfl)) dX7_runAll_101 ⟨Nat.zero_le _, Nat.zero_le _⟩) hP hD hS hA [0, 1] [2, 3, 4, 5, 6] [5, 6, 0, 1, 2, 3, 4] rfl rfl rfl rfl rfl rfl (fun H locs hP hD hS => ?_)
          refine lv_aload_n hx hb dX7_runAll_104 rfl (lv_at hl 0 rfl) ?_
          refine lv_aload_n hx hb dX7_runAll_105 rfl (lv_at hl 1 rfl) ?_
          obtain ⟨r_25, t_chosen_26, hq_27, hf⟩ := b2_some hf
          refine xci (wr := [(h_t_near, .inr (4, [.long t_near_x_11, .long t_near_y_12, .long t_near_lower_13, .long t_near_square_14, .long t_near_squareLower_15, .int t_near_fromX_16, .int t_near_fromY_17])), (h_p1_x, .inl (cI, 24, .inl p1_x)), (h_p1_y, .inl (cI, 24, .inl p1_y))]) (w2 := [(h_t, .inr (7, [.ref h_t_chosen, .ref h_t_mixed, .ref h_t_near, .int t_gone_8, .int t_stuck_20, .int v_19, .int t_side_9])), (h_t_chosen, .inl (cI, 3, .inl t_chosen_26)), (h_t_near, .inr (4, [.long t_near_x_11, .long t_near_y_12, .long t_near_lower_13, .long t_near_square_14, .long t_near_squareLower_15, .int t_near_fromX_16, .int t_near_fromY_17])), (h_p1, .inr (0, [.ref h_p1_x, .ref h_p1_y, .ref h_p1_colour, .ref h_p1_load, .int p1_size, .int p1_centreX, .int p1_centreY])), (h_p1_x, .inl (cI, 24, .inl p1_x)), (h_p1_y, .inl (cI, 24, .inl p1_y)), (h_p1_colour, .inl (cI, 24, .inl p1_colour))]) (va_runV (As := [.ref h_p1]) (rest := []) ⟨hx, hb, hml, hown, hts⟩ (mtX7_chooseNext l dC dI cI cL cB K h_t h_t_chosen h_t_mixed h_t_near h_p1 h_p1_x h_p1_y h_p1_colour h_p1_load H.size t_gone_8 t_stuck_20 v_19 t_side_9 t_chosen_23 p1_size p1_centreX p1_centreY p1_colour r_25 t_chosen_26 hq_27) (cwV 1 hts gv_X7_51 rfl rfl rfl hdV_X7_chooseNext ⟨Nat.le_trans (Nat.le_of_ble_eq_true rfl) hF, Nat.le_trans (Nat.le_of_ble_eq_true rfl) hLo⟩) (cPreV hK hP hD hT [0, 1, 3, 6] rfl rfl (ci := 7) (q0 := 0) rfl rfl) rfl rfl hl.1 rfl (lv_room (Nat.le_of_ble_eq_true rfl)) dX7_runAll_106 ⟨Nat.zero_le _, Nat.zero_le _⟩) hP hD hS hA [0, 1, 3, 6] [2, 4, 5] [3, 4, 0, 5, 1, 2, 6] rfl rfl rfl rfl rfl rfl (fun H locs hP hD hS => ?_)
          refine lv_istore_n (lv' := [(2, .int r_25), (0, .ref h_t), (1, .ref h_p1), (3, .int l3), (4, .int l4_4), (5, .int l5_5), (6, .int l6_6)]) hx hb dX7_runAll_109 rfl hl (Nat.le_of_ble_eq_true rfl) rfl (fun ls hl => ?_)
          obtain ⟨l3_28, el3_28⟩ : ∃ y : Int32, y = l3 + (1 : Int32) := ⟨_, rfl⟩
          replace hf := xl_at hf el3_28
          refine lv_iinc (v := l3_28) (lv' := [(3, .int l3_28), (2, .int r_25), (0, .ref h_t), (1, .ref h_p1), (4, .int l4_4), (5, .int l5_5), (6, .int l6_6)]) hx hb dX7_runAll_110 hl (k := 3) rfl (by rw [el3_28]; rfl) (Nat.le_of_ble_eq_true rfl) rfl (fun ls hl => ?_)
          refine lv_goto (tgt := 18) hx hb dX7_runAll_113 (by decide) ?_
          exact ih r_25 l3_28 t_gone_8 t_stuck_20 v_19 t_side_9 t_chosen_26 t_near_x_11 t_near_y_12 t_near_lower_13 t_near_square_14 t_near_squareLower_15 t_near_fromX_16 t_near_fromY_17 _ _ _ _ _ _ _ _ _ _ _ _ H locs ls hP hD hS (lv_sub hl [2, 3, 1, 0] rfl) hf hk
        refine lv_if_eq (tgt := 94) hx hb dX7_runAll_81 (by decide) (fun hc => ?_) (fun hc => ?_)
        · replace hf := it_t ((lg_cmp_eq _ _).mp hc) hf
          exact J_22 t_stuck H locs ls hP hD hS (lv_sub hl [3, 4, 6, 2, 1, 0] rfl) hf
        · replace hf := it_f (fun h9 => hc ((lg_cmp_eq _ _).mpr h9)) hf
          refine lv_aload_n hx hb dX7_runAll_84 rfl (lv_at hl 3 rfl) ?_
          refine lv_dup hx hb dX7_runAll_85 rfl ?_
          refine va_get (D := (dC, dI)) (ci := 7) (v := .int t_stuck) (C := RX7) (T := TX7) (N := 7) hx hb hts in_X7 hown hK hP 0 rfl rfl 4 (Nat.le_of_ble_eq_true rfl) (hts _ qf_X7_113) (fun _ h9 => h9) rfl dX7_runAll_86 ?_
          refine lv_iconst (v := (1 : Int32)) hx hb dX7_runAll_89 (by decide) ?_
          refine lv_iadd hx hb dX7_runAll_90 ?_
          refine lv_topi (fun f_stuck_29 ef_stuck_29 => ?_)
          replace hf := xl_at hf ef_stuck_29
          refine xput (D := (dC, dI)) (ci := 7) (v := .int f_stuck_29) (C := RX7) (T := TX7) (N := 7) (w2 := [(h_t, .inr (7, [.ref h_t_chosen, .ref h_t_mixed, .ref h_t_near, .int t_gone_8, .int f_stuck_29, .int v_19, .int t_side_9])), (h_t_chosen, .inl (cI, 3, .inl t_chosen_10)), (h_t_near, .inr (4, [.long t_near_x_11, .long t_near_y_12, .long t_near_lower_13, .long t_near_square_14, .long t_near_squareLower_15, .int t_near_fromX_16, .int t_near_fromY_17])), (h_p1, .inr (0, [.ref h_p1_x, .ref h_p1_y, .ref h_p1_colour, .ref h_p1_load, .int p1_size, .int p1_centreX, .int p1_centreY])), (h_p1_x, .inl (cI, 24, .inl p1_x)), (h_p1_y, .inl (cI, 24, .inl p1_y)), (h_p1_colour, .inl (cI, 24, .inl p1_colour))]) hx hb hts in_X7 tyX7 tyX7_ok nmX7 hown hK hP hD hS 0 rfl rfl 4 (Nat.le_of_ble_eq_true rfl) (hts _ qf_X7_113) (fun _ h9 => h9) rfl rfl rfl (Nat.le_of_ble_eq_true rfl) rfl dX7_runAll_91 (fun H locs hP hD hS => ?_)
          exact J_22 f_stuck_29 H locs ls hP hD hS (lv_sub hl [3, 4, 6, 2, 1, 0] rfl) hf
set_option maxRecDepth 100000 in
set_option maxHeartbeats 4000000 in
theorem mtX7_runAll (l : Launch) (dC : Nat → ClassId) (dI : Nat → Nat → Nat) (cI cL cB : ClassId) (K : Nat) (h_t h_t_chosen h_t_mixed h_t_near h_p1 h_p1_x h_p1_y h_p1_colour h_p1_load : Nat) (sz : Nat) (t_gone : Int32) (t_stuck : Int32) (t_longest : Int32) (t_side : Int32) (t_chosen : Nat → Int32) (t_near_x : Int64) (t_near_y : Int64) (t_near_lower : Int64) (t_near_square : Int64) (t_near_squareLower : Int64) (t_near_fromX : Int32) (t_near_fromY : Int32) (p1_size : Int32) (p1_centreX : Int32) (p1_centreY : Int32) (p1_x : Nat → Int32) (p1_y : Nat → Int32) (p1_colour : Nat → Int32) (o_t_gone : Int32) (o_t_stuck : Int32) (o_t_longest : Int32) (o_t_side : Int32) (o_t_chosen : Nat → Int32) (o_t_near_x : Int64) (o_t_near_y : Int64) (o_t_near_lower : Int64) (o_t_near_square : Int64) (o_t_near_squareLower : Int64) (o_t_near_fromX : Int32) (o_t_near_fromY : Int32) (hf : fX7_runAll K t_gone t_stuck t_longest t_side t_chosen t_near_x t_near_y t_near_lower t_near_square t_near_squareLower t_near_fromX t_near_fromY p1_size p1_centreX p1_centreY p1_x p1_y p1_colour = some (o_t_gone, o_t_stuck, o_t_longest, o_t_side, o_t_chosen, o_t_near_x, o_t_near_y, o_t_near_lower, o_t_near_square, o_t_near_squareLower, o_t_near_fromX, o_t_near_fromY)) : Met l yX7_runAll [Cond.code yX7_runAll cX7_runAll 7 none] ({ frames := 5, cells := 0, slots := 0, locals := 144 }) (va_Pc [.ref h_t, .ref h_p1] (cPre dC dI cI cL cB sz [(h_t, .inr (7, [.ref h_t_chosen, .ref h_t_mixed, .ref h_t_near, .int t_gone, .int t_stuck, .int t_longest, .int t_side])), (h_t_chosen, .inl (cI, 3, .inl t_chosen)), (h_t_near, .inr (4, [.long t_near_x, .long t_near_y, .long t_near_lower, .long t_near_square, .long t_near_squareLower, .int t_near_fromX, .int t_near_fromY])), (h_p1, .inr (0, [.ref h_p1_x, .ref h_p1_y, .ref h_p1_colour, .ref h_p1_load, .int p1_size, .int p1_centreX, .int p1_centreY])), (h_p1_x, .inl (cI, 24, .inl p1_x)), (h_p1_y, .inl (cI, 24, .inl p1_y)), (h_p1_colour, .inl (cI, 24, .inl p1_colour))])) (cQv dC dI (va_A [(h_t, .inr (7, [.ref h_t_chosen, .ref h_t_mixed, .ref h_t_near, .int t_gone, .int t_stuck, .int t_longest, .int t_side])), (h_t_chosen, .inl (cI, 3, .inl t_chosen)), (h_t_near, .inr (4, [.long t_near_x, .long t_near_y, .long t_near_lower, .long t_near_square, .long t_near_squareLower, .int t_near_fromX, .int t_near_fromY])), (h_p1, .inr (0, [.ref h_p1_x, .ref h_p1_y, .ref h_p1_colour, .ref h_p1_load, .int p1_size, .int p1_centreX, .int p1_centreY])), (h_p1_x, .inl (cI, 24, .inl p1_x)), (h_p1_y, .inl (cI, 24, .inl p1_y)), (h_p1_colour, .inl (cI, 24, .inl p1_colour))] sz) [(h_t, .inr (7, [.ref h_t_chosen, .ref h_t_mixed, .ref h_t_near, .int o_t_gone, .int o_t_stuck, .int o_t_longest, .int o_t_side])), (h_t_chosen, .inl (cI, 3, .inl o_t_chosen)), (h_t_near, .inr (4, [.long o_t_near_x, .long o_t_near_y, .long o_t_near_lower, .long o_t_near_square, .long o_t_near_squareLower, .int o_t_near_fromX, .int o_t_near_fromY])), (h_p1, .inr (0, [.ref h_p1_x, .ref h_p1_y, .ref h_p1_colour, .ref h_p1_load, .int p1_size, .int p1_centreX, .int p1_centreY])), (h_p1_x, .inl (cI, 24, .inl p1_x)), (h_p1_y, .inl (cI, 24, .inl p1_y)), (h_p1_colour, .inl (cI, 24, .inl p1_colour))]) 0 0 (va_A [(h_t, .inr (7, [.ref h_t_chosen, .ref h_t_mixed, .ref h_t_near, .int t_gone, .int t_stuck, .int t_longest, .int t_side])), (h_t_chosen, .inl (cI, 3, .inl t_chosen)), (h_t_near, .inr (4, [.long t_near_x, .long t_near_y, .long t_near_lower, .long t_near_square, .long t_near_squareLower, .int t_near_fromX, .int t_near_fromY])), (h_p1, .inr (0, [.ref h_p1_x, .ref h_p1_y, .ref h_p1_colour, .ref h_p1_load, .int p1_size, .int p1_centreX, .int p1_centreY])), (h_p1_x, .inl (cI, 24, .inl p1_x)), (h_p1_y, .inl (cI, 24, .inl p1_y)), (h_p1_colour, .inl (cI, 24, .inl p1_colour))] sz) := by
  refine Met.ofW (cc := cX7_runAll) (maxL := 7) (ret := none) (by decide) rfl ?_
  intro p e s m args below meth c s₁ B hml hv
  obtain ⟨rfl, hsz, hP, hK, hD0, hT⟩ := hv
  have hx := B.exec
  have hb := B.bytes
  have hr := B.returns
  have hown : s.vm.findClass RX7 = some m.cls := findClass_of_methodNamed B.named
  have hlocks := B.notSynchronized
  have hts := TB.use hT ([.ref h_t, .ref h_p1] : List Value).toArray
  subst hsz
  have hD := hD0.self (sz := s.heap.size)
  generalize hAe : va_A [(h_t, .inr (7, [.ref h_t_chosen, .ref h_t_mixed, .ref h_t_near, .int t_gone, .int t_stuck, .int t_longest, .int t_side])), (h_t_chosen, .inl (cI, 3, .inl t_chosen)), (h_t_near, .inr (4, [.long t_near_x, .long t_near_y, .long t_near_lower, .long t_near_square, .long t_near_squareLower, .int t_near_fromX, .int t_near_fromY])), (h_p1, .inr (0, [.ref h_p1_x, .ref h_p1_y, .ref h_p1_colour, .ref h_p1_load, .int p1_size, .int p1_centreX, .int p1_centreY])), (h_p1_x, .inl (cI, 24, .inl p1_x)), (h_p1_y, .inl (cI, 24, .inl p1_y)), (h_p1_colour, .inl (cI, 24, .inl p1_colour))] s.heap.size = A at hD ⊢
  have hA : ∀ q : Nat, s.heap.size ≤ q → A q := fun q h => by rw [← hAe]; exact Or.inr h
  clear hAe hD0
  have hl := lv_entry ([.ref h_t, .ref h_p1]) (n := 7) (Nat.le_of_ble_eq_true rfl)
  rw [lg_entry_eq]
  generalize (lg_sl ([.ref h_t, .ref h_p1]) ++ List.replicate (7 - (lg_sl ([.ref h_t, .ref h_p1])).length) Slot.unset).toArray = ls at hl ⊢
  have hl : lv_has ls 7 [(0, .ref h_t), (1, .ref h_p1)] := hl
  have hF : 5 ≤ (headSpec [Cond.code yX7_runAll cX7_runAll 7 none] ({ frames := 5, cells := 0, slots := 0, locals := 144 })).room.frames := Nat.le_refl _
  have hLo : 144 ≤ (headSpec [Cond.code yX7_runAll cX7_runAll 7 none] ({ frames := 5, cells := 0, slots := 0, locals := 144 })).room.locals := Nat.le_refl _
  have C0 : Sx p (headSpec [Cond.code yX7_runAll cX7_runAll 7 none] ({ frames := 5, cells := 0, slots := 0, locals := 144 })).room s m ([.ref h_t, .ref h_p1] : List Value).toArray c cX7_runAll 7 RX7 A dC dI cI cL cB 5 144 := ⟨hx, hb, hml, hown, hts, hK, hT, hA, hF, hLo⟩
  refine startH (A := A) hP (fun H locs hP hS => ?_)
  rw [fX7_runAll] at hf
  refine lv_aload_n hx hb dX7_runAll_0 rfl (lv_at hl 0 rfl) ?_
  refine lv_iconst (v := (0 : Int32)) hx hb dX7_runAll_1 (by decide) ?_
  refine xput (D := (dC, dI)) (ci := 7) (v := .int (0 : Int32)) (C := RX7) (T := TX7) (N := 7) (w2 := [(h_t, .inr (7, [.ref h_t_chosen, .ref h_t_mixed, .ref h_t_near, .int t_gone, .int (0 : Int32), .int t_longest, .int t_side])), (h_t_chosen, .inl (cI, 3, .inl t_chosen)), (h_t_near, .inr (4, [.long t_near_x, .long t_near_y, .long t_near_lower, .long t_near_square, .long t_near_squareLower, .int t_near_fromX, .int t_near_fromY])), (h_p1, .inr (0, [.ref h_p1_x, .ref h_p1_y, .ref h_p1_colour, .ref h_p1_load, .int p1_size, .int p1_centreX, .int p1_centreY])), (h_p1_x, .inl (cI, 24, .inl p1_x)), (h_p1_y, .inl (cI, 24, .inl p1_y)), (h_p1_colour, .inl (cI, 24, .inl p1_colour))]) hx hb hts in_X7 tyX7 tyX7_ok nmX7 hown hK hP hD hS 0 rfl rfl 4 (Nat.le_of_ble_eq_true rfl) (hts _ qf_X7_113) (fun _ h9 => h9) rfl rfl rfl (Nat.le_of_ble_eq_true rfl) rfl dX7_runAll_2 (fun H locs hP hD hS => ?_)
  refine lv_aload_n hx hb dX7_runAll_5 rfl (lv_at hl 0 rfl) ?_
  refine lv_iconst (v := (0 : Int32)) hx hb dX7_runAll_6 (by decide) ?_
  refine xput (D := (dC, dI)) (ci := 7) (v := .int (0 : Int32)) (C := RX7) (T := TX7) (N := 7) (w2 := [(h_t, .inr (7, [.ref h_t_chosen, .ref h_t_mixed, .ref h_t_near, .int t_gone, .int (0 : Int32), .int (0 : Int32), .int t_side])), (h_t_chosen, .inl (cI, 3, .inl t_chosen)), (h_t_near, .inr (4, [.long t_near_x, .long t_near_y, .long t_near_lower, .long t_near_square, .long t_near_squareLower, .int t_near_fromX, .int t_near_fromY])), (h_p1, .inr (0, [.ref h_p1_x, .ref h_p1_y, .ref h_p1_colour, .ref h_p1_load, .int p1_size, .int p1_centreX, .int p1_centreY])), (h_p1_x, .inl (cI, 24, .inl p1_x)), (h_p1_y, .inl (cI, 24, .inl p1_y)), (h_p1_colour, .inl (cI, 24, .inl p1_colour))]) hx hb hts in_X7 tyX7 tyX7_ok nmX7 hown hK hP hD hS 0 rfl rfl 5 (Nat.le_of_ble_eq_true rfl) (hts _ qf_X7_116) (fun _ h9 => h9) rfl rfl rfl (Nat.le_of_ble_eq_true rfl) rfl dX7_runAll_7 (fun H locs hP hD hS => ?_)
  refine lv_aload_n hx hb dX7_runAll_10 rfl (lv_at hl 0 rfl) ?_
  refine lv_aload_n hx hb dX7_runAll_11 rfl (lv_at hl 1 rfl) ?_
  obtain ⟨r_1, t_chosen_2, hq_3, hf⟩ := b2_some hf
  refine xci (wr := [(h_t_near, .inr (4, [.long t_near_x, .long t_near_y, .long t_near_lower, .long t_near_square, .long t_near_squareLower, .int t_near_fromX, .int t_near_fromY])), (h_p1_x, .inl (cI, 24, .inl p1_x)), (h_p1_y, .inl (cI, 24, .inl p1_y))]) (w2 := [(h_t, .inr (7, [.ref h_t_chosen, .ref h_t_mixed, .ref h_t_near, .int t_gone, .int (0 : Int32), .int (0 : Int32), .int t_side])), (h_t_chosen, .inl (cI, 3, .inl t_chosen_2)), (h_t_near, .inr (4, [.long t_near_x, .long t_near_y, .long t_near_lower, .long t_near_square, .long t_near_squareLower, .int t_near_fromX, .int t_near_fromY])), (h_p1, .inr (0, [.ref h_p1_x, .ref h_p1_y, .ref h_p1_colour, .ref h_p1_load, .int p1_size, .int p1_centreX, .int p1_centreY])), (h_p1_x, .inl (cI, 24, .inl p1_x)), (h_p1_y, .inl (cI, 24, .inl p1_y)), (h_p1_colour, .inl (cI, 24, .inl p1_colour))]) (va_runV (As := [.ref h_p1]) (rest := []) ⟨hx, hb, hml, hown, hts⟩ (mtX7_chooseFirst l dC dI cI cL cB K h_t h_t_chosen h_t_mixed h_t_near h_p1 h_p1_x h_p1_y h_p1_colour h_p1_load H.size t_gone (0 : Int32) (0 : Int32) t_side t_chosen p1_size p1_centreX p1_centreY p1_colour r_1 t_chosen_2 hq_3) (cwV 1 hts gv_X7_43 rfl rfl rfl hdV_X7_chooseFirst ⟨Nat.le_trans (Nat.le_of_ble_eq_true rfl) hF, Nat.le_trans (Nat.le_of_ble_eq_true rfl) hLo⟩) (cPreV hK hP hD hT [0, 1, 3, 6] rfl rfl (ci := 7) (q0 := 0) rfl rfl) rfl rfl hl.1 rfl (lv_room (Nat.le_of_ble_eq_true rfl)) dX7_runAll_12 ⟨Nat.zero_le _, Nat.zero_le _⟩) hP hD hS hA [0, 1, 3, 6] [2, 4, 5] [3, 4, 0, 5, 1, 2, 6] rfl rfl rfl rfl rfl rfl (fun H locs hP hD hS => ?_)
  refine lv_istore_n (lv' := [(2, .int r_1), (0, .ref h_t), (1, .ref h_p1)]) hx hb dX7_runAll_15 rfl hl (Nat.le_of_ble_eq_true rfl) rfl (fun ls hl => ?_)
  refine lv_iconst (v := (0 : Int32)) hx hb dX7_runAll_16 (by decide) ?_
  refine lv_istore_n (lv' := [(3, .int (0 : Int32)), (2, .int r_1), (0, .ref h_t), (1, .ref h_p1)]) hx hb dX7_runAll_17 rfl hl (Nat.le_of_ble_eq_true rfl) rfl (fun ls hl => ?_)
  obtain ⟨t_gone_31, t_stuck_32, t_longest_33, t_side_34, t_chosen_35, t_near_x_36, t_near_y_37, t_near_lower_38, t_near_square_39, t_near_squareLower_40, t_near_fromX_41, t_near_fromY_42, hq_30, hf⟩ := b12_some hf
  refine wX7_runAll_L18 C0 h_t h_t_chosen h_t_mixed h_t_near h_p1 h_p1_x h_p1_y h_p1_colour h_p1_load p1_size p1_centreX p1_centreY p1_x p1_y p1_colour K r_1 (0 : Int32) t_gone (0 : Int32) (0 : Int32) t_side t_chosen_2 t_near_x t_near_y t_near_lower t_near_square t_near_squareLower t_near_fromX t_near_fromY t_gone_31 t_stuck_32 t_longest_33 t_side_34 t_chosen_35 t_near_x_36 t_near_y_37 t_near_lower_38 t_near_square_39 t_near_squareLower_40 t_near_fromX_41 t_near_fromY_42 H locs ls hP hD hS (lv_sub hl [2, 3, 1, 0] rfl) hq_30 ?_
  intro H locs ls hP hD hS hl
  obtain ⟨rfl, rfl, rfl, rfl, rfl, rfl, rfl, rfl, rfl, rfl, rfl, rfl⟩ := o12 hf
  exact W.vret hx hb hr (fun t ht hW => ⟨⟨(), rfl, trivial, by rw [ht]; exact hP, hD⟩, hS.F ht⟩) hS.2.2 dX7_runAll_116
theorem dX11_starts_0 : decode cX11_starts 0 = .ok (.iload_n 1, 1) := by decide +kernel
theorem dX11_starts_1 : decode cX11_starts 1 = .ok (.lookupswitch 65 #[(0, 27), (1, 46)], 27) := by decide +kernel
theorem dX11_starts_28 : decode cX11_starts 28 = .ok (.aload_n 0, 1) := by decide +kernel
theorem dX11_starts_29 : decode cX11_starts 29 = .ok (.getfield 56, 3) := by decide +kernel
theorem dX11_starts_32 : decode cX11_starts 32 = .ok (.aload_n 0, 1) := by decide +kernel
theorem dX11_starts_33 : decode cX11_starts 33 = .ok (.getfield 12, 3) := by decide +kernel
theorem dX11_starts_36 : decode cX11_starts 36 = .ok (.invokevirtual 292, 3) := by decide +kernel
theorem dX11_starts_39 : decode cX11_starts 39 = .ok (.aload_n 0, 1) := by decide +kernel
theorem dX11_starts_40 : decode cX11_starts 40 = .ok (.getfield 56, 3) := by decide +kernel
theorem dX11_starts_43 : decode cX11_starts 43 = .ok (.getfield 295, 3) := by decide +kernel
theorem dX11_starts_46 : decode cX11_starts 46 = .ok (.ireturn, 1) := by decide +kernel
theorem dX11_starts_47 : decode cX11_starts 47 = .ok (.aload_n 0, 1) := by decide +kernel
theorem dX11_starts_48 : decode cX11_starts 48 = .ok (.getfield 56, 3) := by decide +kernel
theorem dX11_starts_51 : decode cX11_starts 51 = .ok (.aload_n 0, 1) := by decide +kernel
theorem dX11_starts_52 : decode cX11_starts 52 = .ok (.getfield 12, 3) := by decide +kernel
theorem dX11_starts_55 : decode cX11_starts 55 = .ok (.invokevirtual 292, 3) := by decide +kernel
theorem dX11_starts_58 : decode cX11_starts 58 = .ok (.aload_n 0, 1) := by decide +kernel
theorem dX11_starts_59 : decode cX11_starts 59 = .ok (.getfield 56, 3) := by decide +kernel
theorem dX11_starts_62 : decode cX11_starts 62 = .ok (.getfield 298, 3) := by decide +kernel
theorem dX11_starts_65 : decode cX11_starts 65 = .ok (.ireturn, 1) := by decide +kernel
theorem dX11_starts_66 : decode cX11_starts 66 = .ok (.bipush (-2), 2) := by decide +kernel
theorem dX11_starts_68 : decode cX11_starts 68 = .ok (.ireturn, 1) := by decide +kernel
set_option maxRecDepth 100000 in
set_option maxHeartbeats 4000000 in
theorem mtX11_starts (l : Launch) (dC : Nat → ClassId) (dI : Nat → Nat → Nat) (cI cL cB : ClassId) (K : Nat) (h_t h_t_cloud h_t_reader h_t_hull h_t_near h_t_firstTie h_t_reducer h_t_chooser h_t_pair h_t_divider h_t_depths h_t_spot h_t_cloud_x h_t_cloud_y h_t_cloud_colour h_t_cloud_load h_t_chooser_chosen h_t_chooser_mixed h_t_chooser_near : Nat) (sz : Nat) (t_cloud_size : Int32) (t_cloud_centreX : Int32) (t_cloud_centreY : Int32) (t_cloud_x : Nat → Int32) (t_cloud_y : Nat → Int32) (t_cloud_colour : Nat → Int32) (t_chooser_gone : Int32) (t_chooser_stuck : Int32) (t_chooser_longest : Int32) (t_chooser_side : Int32) (t_chooser_chosen : Nat → Int32) (t_chooser_near_x : Int64) (t_chooser_near_y : Int64) (t_chooser_near_lower : Int64) (t_chooser_near_square : Int64) (t_chooser_near_squareLower : Int64) (t_chooser_near_fromX : Int32) (t_chooser_near_fromY : Int32) (a1 : Int32) (o_r : Int32) (o_t_chooser_gone : Int32) (o_t_chooser_stuck : Int32) (o_t_chooser_longest : Int32) (o_t_chooser_side : Int32) (o_t_chooser_chosen : Nat → Int32) (o_t_chooser_near_x : Int64) (o_t_chooser_near_y : Int64) (o_t_chooser_near_lower : Int64) (o_t_chooser_near_square : Int64) (o_t_chooser_near_squareLower : Int64) (o_t_chooser_near_fromX : Int32) (o_t_chooser_near_fromY : Int32) (hf : fX11_starts K t_cloud_size t_cloud_centreX t_cloud_centreY t_cloud_x t_cloud_y t_cloud_colour t_chooser_gone t_chooser_stuck t_chooser_longest t_chooser_side t_chooser_chosen t_chooser_near_x t_chooser_near_y t_chooser_near_lower t_chooser_near_square t_chooser_near_squareLower t_chooser_near_fromX t_chooser_near_fromY a1 = some (o_r, o_t_chooser_gone, o_t_chooser_stuck, o_t_chooser_longest, o_t_chooser_side, o_t_chooser_chosen, o_t_chooser_near_x, o_t_chooser_near_y, o_t_chooser_near_lower, o_t_chooser_near_square, o_t_chooser_near_squareLower, o_t_chooser_near_fromX, o_t_chooser_near_fromY)) : Met l yX11_starts [Cond.code yX11_starts cX11_starts 2 (some .int)] ({ frames := 6, cells := 0, slots := 0, locals := 170 }) (va_Pc [.ref h_t, .int a1] (cPre dC dI cI cL cB sz [(h_t, .inr (11, [.ref h_t_cloud, .ref h_t_reader, .ref h_t_hull, .ref h_t_near, .ref h_t_firstTie, .ref h_t_reducer, .ref h_t_chooser, .ref h_t_pair, .ref h_t_divider, .ref h_t_depths, .ref h_t_spot])), (h_t_cloud, .inr (0, [.ref h_t_cloud_x, .ref h_t_cloud_y, .ref h_t_cloud_colour, .ref h_t_cloud_load, .int t_cloud_size, .int t_cloud_centreX, .int t_cloud_centreY])), (h_t_cloud_x, .inl (cI, 24, .inl t_cloud_x)), (h_t_cloud_y, .inl (cI, 24, .inl t_cloud_y)), (h_t_cloud_colour, .inl (cI, 24, .inl t_cloud_colour)), (h_t_chooser, .inr (7, [.ref h_t_chooser_chosen, .ref h_t_chooser_mixed, .ref h_t_chooser_near, .int t_chooser_gone, .int t_chooser_stuck, .int t_chooser_longest, .int t_chooser_side])), (h_t_chooser_chosen, .inl (cI, 3, .inl t_chooser_chosen)), (h_t_chooser_near, .inr (4, [.long t_chooser_near_x, .long t_chooser_near_y, .long t_chooser_near_lower, .long t_chooser_near_square, .long t_chooser_near_squareLower, .int t_chooser_near_fromX, .int t_chooser_near_fromY]))])) (cQi dC dI (va_A [(h_t, .inr (11, [.ref h_t_cloud, .ref h_t_reader, .ref h_t_hull, .ref h_t_near, .ref h_t_firstTie, .ref h_t_reducer, .ref h_t_chooser, .ref h_t_pair, .ref h_t_divider, .ref h_t_depths, .ref h_t_spot])), (h_t_cloud, .inr (0, [.ref h_t_cloud_x, .ref h_t_cloud_y, .ref h_t_cloud_colour, .ref h_t_cloud_load, .int t_cloud_size, .int t_cloud_centreX, .int t_cloud_centreY])), (h_t_cloud_x, .inl (cI, 24, .inl t_cloud_x)), (h_t_cloud_y, .inl (cI, 24, .inl t_cloud_y)), (h_t_cloud_colour, .inl (cI, 24, .inl t_cloud_colour)), (h_t_chooser, .inr (7, [.ref h_t_chooser_chosen, .ref h_t_chooser_mixed, .ref h_t_chooser_near, .int t_chooser_gone, .int t_chooser_stuck, .int t_chooser_longest, .int t_chooser_side])), (h_t_chooser_chosen, .inl (cI, 3, .inl t_chooser_chosen)), (h_t_chooser_near, .inr (4, [.long t_chooser_near_x, .long t_chooser_near_y, .long t_chooser_near_lower, .long t_chooser_near_square, .long t_chooser_near_squareLower, .int t_chooser_near_fromX, .int t_chooser_near_fromY]))] sz) o_r [(h_t, .inr (11, [.ref h_t_cloud, .ref h_t_reader, .ref h_t_hull, .ref h_t_near, .ref h_t_firstTie, .ref h_t_reducer, .ref h_t_chooser, .ref h_t_pair, .ref h_t_divider, .ref h_t_depths, .ref h_t_spot])), (h_t_cloud, .inr (0, [.ref h_t_cloud_x, .ref h_t_cloud_y, .ref h_t_cloud_colour, .ref h_t_cloud_load, .int t_cloud_size, .int t_cloud_centreX, .int t_cloud_centreY])), (h_t_cloud_x, .inl (cI, 24, .inl t_cloud_x)), (h_t_cloud_y, .inl (cI, 24, .inl t_cloud_y)), (h_t_cloud_colour, .inl (cI, 24, .inl t_cloud_colour)), (h_t_chooser, .inr (7, [.ref h_t_chooser_chosen, .ref h_t_chooser_mixed, .ref h_t_chooser_near, .int o_t_chooser_gone, .int o_t_chooser_stuck, .int o_t_chooser_longest, .int o_t_chooser_side])), (h_t_chooser_chosen, .inl (cI, 3, .inl o_t_chooser_chosen)), (h_t_chooser_near, .inr (4, [.long o_t_chooser_near_x, .long o_t_chooser_near_y, .long o_t_chooser_near_lower, .long o_t_chooser_near_square, .long o_t_chooser_near_squareLower, .int o_t_chooser_near_fromX, .int o_t_chooser_near_fromY]))]) 0 0 (va_A [(h_t, .inr (11, [.ref h_t_cloud, .ref h_t_reader, .ref h_t_hull, .ref h_t_near, .ref h_t_firstTie, .ref h_t_reducer, .ref h_t_chooser, .ref h_t_pair, .ref h_t_divider, .ref h_t_depths, .ref h_t_spot])), (h_t_cloud, .inr (0, [.ref h_t_cloud_x, .ref h_t_cloud_y, .ref h_t_cloud_colour, .ref h_t_cloud_load, .int t_cloud_size, .int t_cloud_centreX, .int t_cloud_centreY])), (h_t_cloud_x, .inl (cI, 24, .inl t_cloud_x)), (h_t_cloud_y, .inl (cI, 24, .inl t_cloud_y)), (h_t_cloud_colour, .inl (cI, 24, .inl t_cloud_colour)), (h_t_chooser, .inr (7, [.ref h_t_chooser_chosen, .ref h_t_chooser_mixed, .ref h_t_chooser_near, .int t_chooser_gone, .int t_chooser_stuck, .int t_chooser_longest, .int t_chooser_side])), (h_t_chooser_chosen, .inl (cI, 3, .inl t_chooser_chosen)), (h_t_chooser_near, .inr (4, [.long t_chooser_near_x, .long t_chooser_near_y, .long t_chooser_near_lower, .long t_chooser_near_square, .long t_chooser_near_squareLower, .int t_chooser_near_fromX, .int t_chooser_near_fromY]))] sz) := by
  refine Met.ofW (cc := cX11_starts) (maxL := 2) (ret := (some .int)) (by decide) rfl ?_
  intro p e s m args below meth c s₁ B hml hv
  obtain ⟨rfl, hsz, hP, hK, hD0, hT⟩ := hv
  have hx := B.exec
  have hb := B.bytes
  have hr := B.returns
  have hown : s.vm.findClass RX11 = some m.cls := findClass_of_methodNamed B.named
  have hlocks := B.notSynchronized
  have hts := TB.use hT ([.ref h_t, .int a1] : List Value).toArray
  subst hsz
  have hD := hD0.self (sz := s.heap.size)
  generalize hAe : va_A [(h_t, .inr (11, [.ref h_t_cloud, .ref h_t_reader, .ref h_t_hull, .ref h_t_near, .ref h_t_firstTie, .ref h_t_reducer, .ref h_t_chooser, .ref h_t_pair, .ref h_t_divider, .ref h_t_depths, .ref h_t_spot])), (h_t_cloud, .inr (0, [.ref h_t_cloud_x, .ref h_t_cloud_y, .ref h_t_cloud_colour, .ref h_t_cloud_load, .int t_cloud_size, .int t_cloud_centreX, .int t_cloud_centreY])), (h_t_cloud_x, .inl (cI, 24, .inl t_cloud_x)), (h_t_cloud_y, .inl (cI, 24, .inl t_cloud_y)), (h_t_cloud_colour, .inl (cI, 24, .inl t_cloud_colour)), (h_t_chooser, .inr (7, [.ref h_t_chooser_chosen, .ref h_t_chooser_mixed, .ref h_t_chooser_near, .int t_chooser_gone, .int t_chooser_stuck, .int t_chooser_longest, .int t_chooser_side])), (h_t_chooser_chosen, .inl (cI, 3, .inl t_chooser_chosen)), (h_t_chooser_near, .inr (4, [.long t_chooser_near_x, .long t_chooser_near_y, .long t_chooser_near_lower, .long t_chooser_near_square, .long t_chooser_near_squareLower, .int t_chooser_near_fromX, .int t_chooser_near_fromY]))] s.heap.size = A at hD ⊢
  have hA : ∀ q : Nat, s.heap.size ≤ q → A q := fun q h => by rw [← hAe]; exact Or.inr h
  clear hAe hD0
  have hl := lv_entry ([.ref h_t, .int a1]) (n := 2) (Nat.le_of_ble_eq_true rfl)
  rw [lg_entry_eq]
  generalize (lg_sl ([.ref h_t, .int a1]) ++ List.replicate (2 - (lg_sl ([.ref h_t, .int a1])).length) Slot.unset).toArray = ls at hl ⊢
  have hl : lv_has ls 2 [(0, .ref h_t), (1, .int a1)] := hl
  have hF : 6 ≤ (headSpec [Cond.code yX11_starts cX11_starts 2 (some .int)] ({ frames := 6, cells := 0, slots := 0, locals := 170 })).room.frames := Nat.le_refl _
  have hLo : 170 ≤ (headSpec [Cond.code yX11_starts cX11_starts 2 (some .int)] ({ frames := 6, cells := 0, slots := 0, locals := 170 })).room.locals := Nat.le_refl _
  have C0 : Sx p (headSpec [Cond.code yX11_starts cX11_starts 2 (some .int)] ({ frames := 6, cells := 0, slots := 0, locals := 170 })).room s m ([.ref h_t, .int a1] : List Value).toArray c cX11_starts 2 RX11 A dC dI cI cL cB 6 170 := ⟨hx, hb, hml, hown, hts, hK, hT, hA, hF, hLo⟩
  refine startH (A := A) hP (fun H locs hP hS => ?_)
  rw [fX11_starts] at hf
  refine lv_iload_n hx hb dX11_starts_0 rfl (lv_at hl 1 rfl) ?_
  by_cases hk_1 : a1 = (0 : Int32)
  · replace hf := it_t hk_1 hf
    refine lv_lookup (off := 27) (tgt := 28) hx hb dX11_starts_1 (by decide) (by rw [hk_1]; decide) (by decide) ?_
    refine lv_aload_n hx hb dX11_starts_28 rfl (lv_at hl 0 rfl) ?_
    refine va_get (D := (dC, dI)) (ci := 11) (v := .ref h_t_chooser) (C := RX11) (T := TX11) (N := 11) hx hb hts in_X11 hown hK hP 0 rfl rfl 6 (Nat.le_of_ble_eq_true rfl) (hts _ qf_X11_56) (fun _ h9 => h9) rfl dX11_starts_29 ?_
    refine lv_aload_n hx hb dX11_starts_32 rfl (lv_at hl 0 rfl) ?_
    refine va_get (D := (dC, dI)) (ci := 11) (v := .ref h_t_cloud) (C := RX11) (T := TX11) (N := 11) hx hb hts in_X11 hown hK hP 0 rfl rfl 0 (Nat.le_of_ble_eq_true rfl) (hts _ qf_X11_12) (fun _ h9 => h9) rfl dX11_starts_33 ?_
    obtain ⟨t_chooser_gone_2, t_chooser_stuck_3, t_chooser_longest_4, t_chooser_side_5, t_chooser_chosen_6, t_chooser_near_x_7, t_chooser_near_y_8, t_chooser_near_lower_9, t_chooser_near_square_10, t_chooser_near_squareLower_11, t_chooser_near_fromX_12, t_chooser_near_fromY_13, hq_14, hf⟩ := b12_some hf
    refine xcv (wr := [(h_t, .inr (11, [.ref h_t_cloud, .ref h_t_reader, .ref h_t_hull, .ref h_t_near, .ref h_t_firstTie, .ref h_t_reducer, .ref h_t_chooser, .ref h_t_pair, .ref h_t_divider, .ref h_t_depths, .ref h_t_spot]))]) (w2 := [(h_t, .inr (11, [.ref h_t_cloud, .ref h_t_reader, .ref h_t_hull, .ref h_t_near, .ref h_t_firstTie, .ref h_t_reducer, .ref h_t_chooser, .ref h_t_pair, .ref h_t_divider, .ref h_t_depths, .ref h_t_spot])), (h_t_cloud, .inr (0, [.ref h_t_cloud_x, .ref h_t_cloud_y, .ref h_t_cloud_colour, .ref h_t_cloud_load, .int t_cloud_size, .int t_cloud_centreX, .int t_cloud_centreY])), (h_t_cloud_x, .inl (cI, 24, .inl t_cloud_x)), (h_t_cloud_y, .inl (cI, 24, .inl t_cloud_y)), (h_t_cloud_colour, .inl (cI, 24, .inl t_cloud_colour)), (h_t_chooser, .inr (7, [.ref h_t_chooser_chosen, .ref h_t_chooser_mixed, .ref h_t_chooser_near, .int t_chooser_gone_2, .int t_chooser_stuck_3, .int t_chooser_longest_4, .int t_chooser_side_5])), (h_t_chooser_chosen, .inl (cI, 3, .inl t_chooser_chosen_6)), (h_t_chooser_near, .inr (4, [.long t_chooser_near_x_7, .long t_chooser_near_y_8, .long t_chooser_near_lower_9, .long t_chooser_near_square_10, .long t_chooser_near_squareLower_11, .int t_chooser_near_fromX_12, .int t_chooser_near_fromY_13]))]) (va_runV (As := [.ref h_t_cloud]) (rest := []) ⟨hx, hb, hml, hown, hts⟩ (mtX7_runAll l dC dI cI cL cB K h_t_chooser h_t_chooser_chosen h_t_chooser_mixed h_t_chooser_near h_t_cloud h_t_cloud_x h_t_cloud_y h_t_cloud_colour h_t_cloud_load H.size t_chooser_gone t_chooser_stuck t_chooser_longest t_chooser_side t_chooser_chosen t_chooser_near_x t_chooser_near_y t_chooser_near_lower t_chooser_near_square t_chooser_near_squareLower t_chooser_near_fromX t_chooser_near_fromY t_cloud_size t_cloud_centreX t_cloud_centreY t_cloud_x t_cloud_y t_cloud_colour t_chooser_gone_2 t_chooser_stuck_3 t_chooser_longest_4 t_chooser_side_5 t_chooser_chosen_6 t_chooser_near_x_7 t_chooser_near_y_8 t_chooser_near_lower_9 t_chooser_near_square_10 t_chooser_near_squareLower_11 t_chooser_near_fromX_12 t_chooser_near_fromY_13 hq_14) (cwV 1 hts gv_X11_292 rfl rfl rfl hdV_X7_runAll ⟨Nat.le_trans (Nat.le_of_ble_eq_true rfl) hF, Nat.le_trans (Nat.le_of_ble_eq_true rfl) hLo⟩) (cPreV hK hP hD hT [5, 6, 7, 1, 2, 3, 4] rfl rfl (ci := 7) (q0 := 0) rfl rfl) rfl rfl hl.1 rfl (lv_room (Nat.le_of_ble_eq_true rfl)) dX11_starts_36 ⟨Nat.zero_le _, Nat.zero_le _⟩) hP hD hS hA [5, 6, 7, 1, 2, 3, 4] [0] [0, 4, 5, 6, 7, 1, 2, 3] rfl rfl rfl rfl rfl rfl (fun H locs hP hD hS => ?_)
    refine lv_aload_n hx hb dX11_starts_39 rfl (lv_at hl 0 rfl) ?_
    refine va_get (D := (dC, dI)) (ci := 11) (v := .ref h_t_chooser) (C := RX11) (T := TX11) (N := 11) hx hb hts in_X11 hown hK hP 0 rfl rfl 6 (Nat.le_of_ble_eq_true rfl) (hts _ qf_X11_56) (fun _ h9 => h9) rfl dX11_starts_40 ?_
    refine va_get (D := (dC, dI)) (ci := 7) (v := .int t_chooser_stuck_3) (C := RX7) (T := TX7) (N := 7) hx hb hts in_X7 hown hK hP 5 rfl rfl 4 (Nat.le_of_ble_eq_true rfl) (hts _ qf_X11_295) (fun _ h9 => h9) rfl dX11_starts_43 ?_
    obtain ⟨rfl, rfl, rfl, rfl, rfl, rfl, rfl, rfl, rfl, rfl, rfl, rfl, rfl⟩ := o13 hf
    exact W.iret hx hb hr (fun t ht hW => ⟨⟨_, (), rfl, rfl, by rw [ht]; exact hP, hD⟩, hS.F ht⟩) hS.2.2 dX11_starts_46
  · replace hf := it_f hk_1 hf
    by_cases hk_15 : a1 = (1 : Int32)
    · replace hf := it_t hk_15 hf
      refine lv_lookup (off := 46) (tgt := 47) hx hb dX11_starts_1 (by decide) (by rw [hk_15]; decide) (by decide) ?_
      refine lv_aload_n hx hb dX11_starts_47 rfl (lv_at hl 0 rfl) ?_
      refine va_get (D := (dC, dI)) (ci := 11) (v := .ref h_t_chooser) (C := RX11) (T := TX11) (N := 11) hx hb hts in_X11 hown hK hP 0 rfl rfl 6 (Nat.le_of_ble_eq_true rfl) (hts _ qf_X11_56) (fun _ h9 => h9) rfl dX11_starts_48 ?_
      refine lv_aload_n hx hb dX11_starts_51 rfl (lv_at hl 0 rfl) ?_
      refine va_get (D := (dC, dI)) (ci := 11) (v := .ref h_t_cloud) (C := RX11) (T := TX11) (N := 11) hx hb hts in_X11 hown hK hP 0 rfl rfl 0 (Nat.le_of_ble_eq_true rfl) (hts _ qf_X11_12) (fun _ h9 => h9) rfl dX11_starts_52 ?_
      obtain ⟨t_chooser_gone_16, t_chooser_stuck_17, t_chooser_longest_18, t_chooser_side_19, t_chooser_chosen_20, t_chooser_near_x_21, t_chooser_near_y_22, t_chooser_near_lower_23, t_chooser_near_square_24, t_chooser_near_squareLower_25, t_chooser_near_fromX_26, t_chooser_near_fromY_27, hq_28, hf⟩ := b12_some hf
      refine xcv (wr := [(h_t, .inr (11, [.ref h_t_cloud, .ref h_t_reader, .ref h_t_hull, .ref h_t_near, .ref h_t_firstTie, .ref h_t_reducer, .ref h_t_chooser, .ref h_t_pair, .ref h_t_divider, .ref h_t_depths, .ref h_t_spot]))]) (w2 := [(h_t, .inr (11, [.ref h_t_cloud, .ref h_t_reader, .ref h_t_hull, .ref h_t_near, .ref h_t_firstTie, .ref h_t_reducer, .ref h_t_chooser, .ref h_t_pair, .ref h_t_divider, .ref h_t_depths, .ref h_t_spot])), (h_t_cloud, .inr (0, [.ref h_t_cloud_x, .ref h_t_cloud_y, .ref h_t_cloud_colour, .ref h_t_cloud_load, .int t_cloud_size, .int t_cloud_centreX, .int t_cloud_centreY])), (h_t_cloud_x, .inl (cI, 24, .inl t_cloud_x)), (h_t_cloud_y, .inl (cI, 24, .inl t_cloud_y)), (h_t_cloud_colour, .inl (cI, 24, .inl t_cloud_colour)), (h_t_chooser, .inr (7, [.ref h_t_chooser_chosen, .ref h_t_chooser_mixed, .ref h_t_chooser_near, .int t_chooser_gone_16, .int t_chooser_stuck_17, .int t_chooser_longest_18, .int t_chooser_side_19])), (h_t_chooser_chosen, .inl (cI, 3, .inl t_chooser_chosen_20)), (h_t_chooser_near, .inr (4, [.long t_chooser_near_x_21, .long t_chooser_near_y_22, .long t_chooser_near_lower_23, .long t_chooser_near_square_24, .long t_chooser_near_squareLower_25, .int t_chooser_near_fromX_26, .int t_chooser_near_fromY_27]))]) (va_runV (As := [.ref h_t_cloud]) (rest := []) ⟨hx, hb, hml, hown, hts⟩ (mtX7_runAll l dC dI cI cL cB K h_t_chooser h_t_chooser_chosen h_t_chooser_mixed h_t_chooser_near h_t_cloud h_t_cloud_x h_t_cloud_y h_t_cloud_colour h_t_cloud_load H.size t_chooser_gone t_chooser_stuck t_chooser_longest t_chooser_side t_chooser_chosen t_chooser_near_x t_chooser_near_y t_chooser_near_lower t_chooser_near_square t_chooser_near_squareLower t_chooser_near_fromX t_chooser_near_fromY t_cloud_size t_cloud_centreX t_cloud_centreY t_cloud_x t_cloud_y t_cloud_colour t_chooser_gone_16 t_chooser_stuck_17 t_chooser_longest_18 t_chooser_side_19 t_chooser_chosen_20 t_chooser_near_x_21 t_chooser_near_y_22 t_chooser_near_lower_23 t_chooser_near_square_24 t_chooser_near_squareLower_25 t_chooser_near_fromX_26 t_chooser_near_fromY_27 hq_28) (cwV 1 hts gv_X11_292 rfl rfl rfl hdV_X7_runAll ⟨Nat.le_trans (Nat.le_of_ble_eq_true rfl) hF, Nat.le_trans (Nat.le_of_ble_eq_true rfl) hLo⟩) (cPreV hK hP hD hT [5, 6, 7, 1, 2, 3, 4] rfl rfl (ci := 7) (q0 := 0) rfl rfl) rfl rfl hl.1 rfl (lv_room (Nat.le_of_ble_eq_true rfl)) dX11_starts_55 ⟨Nat.zero_le _, Nat.zero_le _⟩) hP hD hS hA [5, 6, 7, 1, 2, 3, 4] [0] [0, 4, 5, 6, 7, 1, 2, 3] rfl rfl rfl rfl rfl rfl (fun H locs hP hD hS => ?_)
      refine lv_aload_n hx hb dX11_starts_58 rfl (lv_at hl 0 rfl) ?_
      refine va_get (D := (dC, dI)) (ci := 11) (v := .ref h_t_chooser) (C := RX11) (T := TX11) (N := 11) hx hb hts in_X11 hown hK hP 0 rfl rfl 6 (Nat.le_of_ble_eq_true rfl) (hts _ qf_X11_56) (fun _ h9 => h9) rfl dX11_starts_59 ?_
      refine va_get (D := (dC, dI)) (ci := 7) (v := .int t_chooser_longest_18) (C := RX7) (T := TX7) (N := 7) hx hb hts in_X7 hown hK hP 5 rfl rfl 5 (Nat.le_of_ble_eq_true rfl) (hts _ qf_X11_298) (fun _ h9 => h9) rfl dX11_starts_62 ?_
      obtain ⟨rfl, rfl, rfl, rfl, rfl, rfl, rfl, rfl, rfl, rfl, rfl, rfl, rfl⟩ := o13 hf
      exact W.iret hx hb hr (fun t ht hW => ⟨⟨_, (), rfl, rfl, by rw [ht]; exact hP, hD⟩, hS.F ht⟩) hS.2.2 dX11_starts_65
    · replace hf := it_f hk_15 hf
      refine lv_lookup (off := 65) (tgt := 66) hx hb dX11_starts_1 (by decide) ((lv_osw (k := (0 : Int32)) hk_1 (by decide)).trans ((lv_osw (k := (1 : Int32)) hk_15 (by decide)).trans rfl)) (by decide) ?_
      refine lv_bipush (v := (-2 : Int32)) hx hb dX11_starts_66 (by decide) ?_
      obtain ⟨rfl, rfl, rfl, rfl, rfl, rfl, rfl, rfl, rfl, rfl, rfl, rfl, rfl⟩ := o13 hf
      exact W.iret hx hb hr (fun t ht hW => ⟨⟨_, (), rfl, rfl, by rw [ht]; exact hP, hD⟩, hS.F ht⟩) hS.2.2 dX11_starts_68
theorem dX3_take_0 : decode cX3_take 0 = .ok (.aload_n 0, 1) := by decide +kernel
theorem dX3_take_1 : decode cX3_take 1 = .ok (.getfield 10, 3) := by decide +kernel
theorem dX3_take_4 : decode cX3_take 4 = .ok (.aload_n 1, 1) := by decide +kernel
theorem dX3_take_5 : decode cX3_take 5 = .ok (.iload_n 2, 1) := by decide +kernel
theorem dX3_take_6 : decode cX3_take 6 = .ok (.invokevirtual 36, 3) := by decide +kernel
theorem dX3_take_9 : decode cX3_take 9 = .ok (.aload_n 0, 1) := by decide +kernel
theorem dX3_take_10 : decode cX3_take 10 = .ok (.getfield 16, 3) := by decide +kernel
theorem dX3_take_13 : decode cX3_take 13 = .ok (.aload_n 1, 1) := by decide +kernel
theorem dX3_take_14 : decode cX3_take 14 = .ok (.iload_n 3, 1) := by decide +kernel
theorem dX3_take_15 : decode cX3_take 15 = .ok (.invokevirtual 36, 3) := by decide +kernel
theorem dX3_take_18 : decode cX3_take 18 = .ok (.aload_n 0, 1) := by decide +kernel
theorem dX3_take_19 : decode cX3_take 19 = .ok (.iconst 0, 1) := by decide +kernel
theorem dX3_take_20 : decode cX3_take 20 = .ok (.putfield 40, 3) := by decide +kernel
theorem dX3_take_23 : decode cX3_take 23 = .ok (.return_, 1) := by decide +kernel
set_option maxRecDepth 100000 in
set_option maxHeartbeats 4000000 in
theorem mtX3_take (l : Launch) (dC : Nat → ClassId) (dI : Nat → Nat → Nat) (cI cL cB : ClassId) (K : Nat) (h_t h_t_first h_t_second h_t_third h_t_place h_t_near h_t_first_chain h_t_first_x h_t_first_y h_t_first_sorted h_t_second_chain h_t_second_x h_t_second_y h_t_second_sorted h_p1 h_p1_x h_p1_y h_p1_colour h_p1_load : Nat) (sz : Nat) (t_gapSquare : Int64) (t_gapLower : Int64) (t_gapX : Int64) (t_gapY : Int64) (t_threefold : Int32) (t_leastX : Int64) (t_leastY : Int64) (t_leastLower : Int64) (t_first_size : Int32) (t_first_chain : Nat → Int32) (t_first_x : Nat → Int32) (t_first_y : Nat → Int32) (t_first_sorted : Nat → Int32) (t_second_size : Int32) (t_second_chain : Nat → Int32) (t_second_x : Nat → Int32) (t_second_y : Nat → Int32) (t_second_sorted : Nat → Int32) (p1_size : Int32) (p1_centreX : Int32) (p1_centreY : Int32) (p1_x : Nat → Int32) (p1_y : Nat → Int32) (a2 : Int32) (a3 : Int32) (o_t_threefold : Int32) (o_t_first_size : Int32) (o_t_first_chain : Nat → Int32) (o_t_first_x : Nat → Int32) (o_t_first_y : Nat → Int32) (o_t_first_sorted : Nat → Int32) (o_t_second_size : Int32) (o_t_second_chain : Nat → Int32) (o_t_second_x : Nat → Int32) (o_t_second_y : Nat → Int32) (o_t_second_sorted : Nat → Int32) (hf : fX3_take K t_threefold t_first_size t_first_chain t_first_x t_first_y t_first_sorted t_second_size t_second_chain t_second_x t_second_y t_second_sorted p1_size p1_x p1_y a2 a3 = some (o_t_threefold, o_t_first_size, o_t_first_chain, o_t_first_x, o_t_first_y, o_t_first_sorted, o_t_second_size, o_t_second_chain, o_t_second_x, o_t_second_y, o_t_second_sorted)) : Met l yX3_take [Cond.code yX3_take cX3_take 4 none] ({ frames := 3, cells := 0, slots := 0, locals := 75 }) (va_Pc [.ref h_t, .ref h_p1, .int a2, .int a3] (cPre dC dI cI cL cB sz [(h_t, .inr (3, [.ref h_t_first, .ref h_t_second, .ref h_t_third, .ref h_t_place, .long t_gapSquare, .long t_gapLower, .long t_gapX, .long t_gapY, .ref h_t_near, .int t_threefold, .long t_leastX, .long t_leastY, .long t_leastLower])), (h_t_first, .inr (2, [.ref h_t_first_chain, .ref h_t_first_x, .ref h_t_first_y, .ref h_t_first_sorted, .int t_first_size])), (h_t_first_chain, .inl (cI, 48, .inl t_first_chain)), (h_t_first_x, .inl (cI, 48, .inl t_first_x)), (h_t_first_y, .inl (cI, 48, .inl t_first_y)), (h_t_first_sorted, .inl (cI, 24, .inl t_first_sorted)), (h_t_second, .inr (2, [.ref h_t_second_chain, .ref h_t_second_x, .ref h_t_second_y, .ref h_t_second_sorted, .int t_second_size])), (h_t_second_chain, .inl (cI, 48, .inl t_second_chain)), (h_t_second_x, .inl (cI, 48, .inl t_second_x)), (h_t_second_y, .inl (cI, 48, .inl t_second_y)), (h_t_second_sorted, .inl (cI, 24, .inl t_second_sorted)), (h_p1, .inr (0, [.ref h_p1_x, .ref h_p1_y, .ref h_p1_colour, .ref h_p1_load, .int p1_size, .int p1_centreX, .int p1_centreY])), (h_p1_x, .inl (cI, 24, .inl p1_x)), (h_p1_y, .inl (cI, 24, .inl p1_y))])) (cQv dC dI (va_A [(h_t, .inr (3, [.ref h_t_first, .ref h_t_second, .ref h_t_third, .ref h_t_place, .long t_gapSquare, .long t_gapLower, .long t_gapX, .long t_gapY, .ref h_t_near, .int t_threefold, .long t_leastX, .long t_leastY, .long t_leastLower])), (h_t_first, .inr (2, [.ref h_t_first_chain, .ref h_t_first_x, .ref h_t_first_y, .ref h_t_first_sorted, .int t_first_size])), (h_t_first_chain, .inl (cI, 48, .inl t_first_chain)), (h_t_first_x, .inl (cI, 48, .inl t_first_x)), (h_t_first_y, .inl (cI, 48, .inl t_first_y)), (h_t_first_sorted, .inl (cI, 24, .inl t_first_sorted)), (h_t_second, .inr (2, [.ref h_t_second_chain, .ref h_t_second_x, .ref h_t_second_y, .ref h_t_second_sorted, .int t_second_size])), (h_t_second_chain, .inl (cI, 48, .inl t_second_chain)), (h_t_second_x, .inl (cI, 48, .inl t_second_x)), (h_t_second_y, .inl (cI, 48, .inl t_second_y)), (h_t_second_sorted, .inl (cI, 24, .inl t_second_sorted)), (h_p1, .inr (0, [.ref h_p1_x, .ref h_p1_y, .ref h_p1_colour, .ref h_p1_load, .int p1_size, .int p1_centreX, .int p1_centreY])), (h_p1_x, .inl (cI, 24, .inl p1_x)), (h_p1_y, .inl (cI, 24, .inl p1_y))] sz) [(h_t, .inr (3, [.ref h_t_first, .ref h_t_second, .ref h_t_third, .ref h_t_place, .long t_gapSquare, .long t_gapLower, .long t_gapX, .long t_gapY, .ref h_t_near, .int o_t_threefold, .long t_leastX, .long t_leastY, .long t_leastLower])), (h_t_first, .inr (2, [.ref h_t_first_chain, .ref h_t_first_x, .ref h_t_first_y, .ref h_t_first_sorted, .int o_t_first_size])), (h_t_first_chain, .inl (cI, 48, .inl o_t_first_chain)), (h_t_first_x, .inl (cI, 48, .inl o_t_first_x)), (h_t_first_y, .inl (cI, 48, .inl o_t_first_y)), (h_t_first_sorted, .inl (cI, 24, .inl o_t_first_sorted)), (h_t_second, .inr (2, [.ref h_t_second_chain, .ref h_t_second_x, .ref h_t_second_y, .ref h_t_second_sorted, .int o_t_second_size])), (h_t_second_chain, .inl (cI, 48, .inl o_t_second_chain)), (h_t_second_x, .inl (cI, 48, .inl o_t_second_x)), (h_t_second_y, .inl (cI, 48, .inl o_t_second_y)), (h_t_second_sorted, .inl (cI, 24, .inl o_t_second_sorted)), (h_p1, .inr (0, [.ref h_p1_x, .ref h_p1_y, .ref h_p1_colour, .ref h_p1_load, .int p1_size, .int p1_centreX, .int p1_centreY])), (h_p1_x, .inl (cI, 24, .inl p1_x)), (h_p1_y, .inl (cI, 24, .inl p1_y))]) 0 0 (va_A [(h_t, .inr (3, [.ref h_t_first, .ref h_t_second, .ref h_t_third, .ref h_t_place, .long t_gapSquare, .long t_gapLower, .long t_gapX, .long t_gapY, .ref h_t_near, .int t_threefold, .long t_leastX, .long t_leastY, .long t_leastLower])), (h_t_first, .inr (2, [.ref h_t_first_chain, .ref h_t_first_x, .ref h_t_first_y, .ref h_t_first_sorted, .int t_first_size])), (h_t_first_chain, .inl (cI, 48, .inl t_first_chain)), (h_t_first_x, .inl (cI, 48, .inl t_first_x)), (h_t_first_y, .inl (cI, 48, .inl t_first_y)), (h_t_first_sorted, .inl (cI, 24, .inl t_first_sorted)), (h_t_second, .inr (2, [.ref h_t_second_chain, .ref h_t_second_x, .ref h_t_second_y, .ref h_t_second_sorted, .int t_second_size])), (h_t_second_chain, .inl (cI, 48, .inl t_second_chain)), (h_t_second_x, .inl (cI, 48, .inl t_second_x)), (h_t_second_y, .inl (cI, 48, .inl t_second_y)), (h_t_second_sorted, .inl (cI, 24, .inl t_second_sorted)), (h_p1, .inr (0, [.ref h_p1_x, .ref h_p1_y, .ref h_p1_colour, .ref h_p1_load, .int p1_size, .int p1_centreX, .int p1_centreY])), (h_p1_x, .inl (cI, 24, .inl p1_x)), (h_p1_y, .inl (cI, 24, .inl p1_y))] sz) := by
  refine Met.ofW (cc := cX3_take) (maxL := 4) (ret := none) (by decide) rfl ?_
  intro p e s m args below meth c s₁ B hml hv
  obtain ⟨rfl, hsz, hP, hK, hD0, hT⟩ := hv
  have hx := B.exec
  have hb := B.bytes
  have hr := B.returns
  have hown : s.vm.findClass RX3 = some m.cls := findClass_of_methodNamed B.named
  have hlocks := B.notSynchronized
  have hts := TB.use hT ([.ref h_t, .ref h_p1, .int a2, .int a3] : List Value).toArray
  subst hsz
  have hD := hD0.self (sz := s.heap.size)
  generalize hAe : va_A [(h_t, .inr (3, [.ref h_t_first, .ref h_t_second, .ref h_t_third, .ref h_t_place, .long t_gapSquare, .long t_gapLower, .long t_gapX, .long t_gapY, .ref h_t_near, .int t_threefold, .long t_leastX, .long t_leastY, .long t_leastLower])), (h_t_first, .inr (2, [.ref h_t_first_chain, .ref h_t_first_x, .ref h_t_first_y, .ref h_t_first_sorted, .int t_first_size])), (h_t_first_chain, .inl (cI, 48, .inl t_first_chain)), (h_t_first_x, .inl (cI, 48, .inl t_first_x)), (h_t_first_y, .inl (cI, 48, .inl t_first_y)), (h_t_first_sorted, .inl (cI, 24, .inl t_first_sorted)), (h_t_second, .inr (2, [.ref h_t_second_chain, .ref h_t_second_x, .ref h_t_second_y, .ref h_t_second_sorted, .int t_second_size])), (h_t_second_chain, .inl (cI, 48, .inl t_second_chain)), (h_t_second_x, .inl (cI, 48, .inl t_second_x)), (h_t_second_y, .inl (cI, 48, .inl t_second_y)), (h_t_second_sorted, .inl (cI, 24, .inl t_second_sorted)), (h_p1, .inr (0, [.ref h_p1_x, .ref h_p1_y, .ref h_p1_colour, .ref h_p1_load, .int p1_size, .int p1_centreX, .int p1_centreY])), (h_p1_x, .inl (cI, 24, .inl p1_x)), (h_p1_y, .inl (cI, 24, .inl p1_y))] s.heap.size = A at hD ⊢
  have hA : ∀ q : Nat, s.heap.size ≤ q → A q := fun q h => by rw [← hAe]; exact Or.inr h
  clear hAe hD0
  have hl := lv_entry ([.ref h_t, .ref h_p1, .int a2, .int a3]) (n := 4) (Nat.le_of_ble_eq_true rfl)
  rw [lg_entry_eq]
  generalize (lg_sl ([.ref h_t, .ref h_p1, .int a2, .int a3]) ++ List.replicate (4 - (lg_sl ([.ref h_t, .ref h_p1, .int a2, .int a3])).length) Slot.unset).toArray = ls at hl ⊢
  have hl : lv_has ls 4 [(0, .ref h_t), (1, .ref h_p1), (2, .int a2), (3, .int a3)] := hl
  have hF : 3 ≤ (headSpec [Cond.code yX3_take cX3_take 4 none] ({ frames := 3, cells := 0, slots := 0, locals := 75 })).room.frames := Nat.le_refl _
  have hLo : 75 ≤ (headSpec [Cond.code yX3_take cX3_take 4 none] ({ frames := 3, cells := 0, slots := 0, locals := 75 })).room.locals := Nat.le_refl _
  have C0 : Sx p (headSpec [Cond.code yX3_take cX3_take 4 none] ({ frames := 3, cells := 0, slots := 0, locals := 75 })).room s m ([.ref h_t, .ref h_p1, .int a2, .int a3] : List Value).toArray c cX3_take 4 RX3 A dC dI cI cL cB 3 75 := ⟨hx, hb, hml, hown, hts, hK, hT, hA, hF, hLo⟩
  refine startH (A := A) hP (fun H locs hP hS => ?_)
  rw [fX3_take] at hf
  refine lv_aload_n hx hb dX3_take_0 rfl (lv_at hl 0 rfl) ?_
  refine va_get (D := (dC, dI)) (ci := 3) (v := .ref h_t_first) (C := RX3) (T := TX3) (N := 13) hx hb hts in_X3 hown hK hP 0 rfl rfl 0 (Nat.le_of_ble_eq_true rfl) (hts _ qf_X3_10) (fun _ h9 => h9) rfl dX3_take_1 ?_
  refine lv_aload_n hx hb dX3_take_4 rfl (lv_at hl 1 rfl) ?_
  refine lv_iload_n hx hb dX3_take_5 rfl (lv_at hl 2 rfl) ?_
  obtain ⟨t_first_size_1, t_first_chain_2, t_first_x_3, t_first_y_4, t_first_sorted_5, hq_6, hf⟩ := b5_some hf
  refine xcv (wr := [(h_t, .inr (3, [.ref h_t_first, .ref h_t_second, .ref h_t_third, .ref h_t_place, .long t_gapSquare, .long t_gapLower, .long t_gapX, .long t_gapY, .ref h_t_near, .int t_threefold, .long t_leastX, .long t_leastY, .long t_leastLower])), (h_t_second, .inr (2, [.ref h_t_second_chain, .ref h_t_second_x, .ref h_t_second_y, .ref h_t_second_sorted, .int t_second_size])), (h_t_second_chain, .inl (cI, 48, .inl t_second_chain)), (h_t_second_x, .inl (cI, 48, .inl t_second_x)), (h_t_second_y, .inl (cI, 48, .inl t_second_y)), (h_t_second_sorted, .inl (cI, 24, .inl t_second_sorted))]) (w2 := [(h_t, .inr (3, [.ref h_t_first, .ref h_t_second, .ref h_t_third, .ref h_t_place, .long t_gapSquare, .long t_gapLower, .long t_gapX, .long t_gapY, .ref h_t_near, .int t_threefold, .long t_leastX, .long t_leastY, .long t_leastLower])), (h_t_first, .inr (2, [.ref h_t_first_chain, .ref h_t_first_x, .ref h_t_first_y, .ref h_t_first_sorted, .int t_first_size_1])), (h_t_first_chain, .inl (cI, 48, .inl t_first_chain_2)), (h_t_first_x, .inl (cI, 48, .inl t_first_x_3)), (h_t_first_y, .inl (cI, 48, .inl t_first_y_4)), (h_t_first_sorted, .inl (cI, 24, .inl t_first_sorted_5)), (h_t_second, .inr (2, [.ref h_t_second_chain, .ref h_t_second_x, .ref h_t_second_y, .ref h_t_second_sorted, .int t_second_size])), (h_t_second_chain, .inl (cI, 48, .inl t_second_chain)), (h_t_second_x, .inl (cI, 48, .inl t_second_x)), (h_t_second_y, .inl (cI, 48, .inl t_second_y)), (h_t_second_sorted, .inl (cI, 24, .inl t_second_sorted)), (h_p1, .inr (0, [.ref h_p1_x, .ref h_p1_y, .ref h_p1_colour, .ref h_p1_load, .int p1_size, .int p1_centreX, .int p1_centreY])), (h_p1_x, .inl (cI, 24, .inl p1_x)), (h_p1_y, .inl (cI, 24, .inl p1_y))]) (va_runV (As := [.ref h_p1, .int a2]) (rest := []) ⟨hx, hb, hml, hown, hts⟩ (mtX2_build l dC dI cI cL cB K h_t_first h_t_first_chain h_t_first_x h_t_first_y h_t_first_sorted h_p1 h_p1_x h_p1_y h_p1_colour h_p1_load H.size t_first_size t_first_chain t_first_x t_first_y t_first_sorted p1_size p1_centreX p1_centreY p1_x p1_y a2 t_first_size_1 t_first_chain_2 t_first_x_3 t_first_y_4 t_first_sorted_5 hq_6) (cwV 2 hts gv_X3_36 rfl rfl rfl hdV_X2_build ⟨Nat.le_trans (Nat.le_of_ble_eq_true rfl) hF, Nat.le_trans (Nat.le_of_ble_eq_true rfl) hLo⟩) (cPreV hK hP hD hT [1, 2, 3, 4, 5, 11, 12, 13] rfl rfl (ci := 2) (q0 := 0) rfl rfl) rfl rfl hl.1 rfl (lv_room (Nat.le_of_ble_eq_true rfl)) dX3_take_6 ⟨Nat.zero_le _, Nat.zero_le _⟩) hP hD hS hA [1, 2, 3, 4, 5, 11, 12, 13] [0, 6, 7, 8, 9, 10] [0, 6, 7, 8, 9, 10, 1, 2, 3, 4, 5, 11, 12, 13] rfl rfl rfl rfl rfl rfl (fun H locs hP hD hS => ?_)
  refine lv_aload_n hx hb dX3_take_9 rfl (lv_at hl 0 rfl) ?_
  refine va_get (D := (dC, dI)) (ci := 3) (v := .ref h_t_second) (C := RX3) (T := TX3) (N := 13) hx hb hts in_X3 hown hK hP 0 rfl rfl 1 (Nat.le_of_ble_eq_true rfl) (hts _ qf_X3_16) (fun _ h9 => h9) rfl dX3_take_10 ?_
  refine lv_aload_n hx hb dX3_take_13 rfl (lv_at hl 1 rfl) ?_
  refine lv_iload_n hx hb dX3_take_14 rfl (lv_at hl 3 rfl) ?_
  obtain ⟨t_second_size_7, t_second_chain_8, t_second_x_9, t_second_y_10, t_second_sorted_11, hq_12, hf⟩ := b5_some hf
  refine xcv (wr := [(h_t, .inr (3, [.ref h_t_first, .ref h_t_second, .ref h_t_third, .ref h_t_place, .long t_gapSquare, .long t_gapLower, .long t_gapX, .long t_gapY, .ref h_t_near, .int t_threefold, .long t_leastX, .long t_leastY, .long t_leastLower])), (h_t_first, .inr (2, [.ref h_t_first_chain, .ref h_t_first_x, .ref h_t_first_y, .ref h_t_first_sorted, .int t_first_size_1])), (h_t_first_chain, .inl (cI, 48, .inl t_first_chain_2)), (h_t_first_x, .inl (cI, 48, .inl t_first_x_3)), (h_t_first_y, .inl (cI, 48, .inl t_first_y_4)), (h_t_first_sorted, .inl (cI, 24, .inl t_first_sorted_5))]) (w2 := [(h_t, .inr (3, [.ref h_t_first, .ref h_t_second, .ref h_t_third, .ref h_t_place, .long t_gapSquare, .long t_gapLower, .long t_gapX, .long t_gapY, .ref h_t_near, .int t_threefold, .long t_leastX, .long t_leastY, .long t_leastLower])), (h_t_first, .inr (2, [.ref h_t_first_chain, .ref h_t_first_x, .ref h_t_first_y, .ref h_t_first_sorted, .int t_first_size_1])), (h_t_first_chain, .inl (cI, 48, .inl t_first_chain_2)), (h_t_first_x, .inl (cI, 48, .inl t_first_x_3)), (h_t_first_y, .inl (cI, 48, .inl t_first_y_4)), (h_t_first_sorted, .inl (cI, 24, .inl t_first_sorted_5)), (h_t_second, .inr (2, [.ref h_t_second_chain, .ref h_t_second_x, .ref h_t_second_y, .ref h_t_second_sorted, .int t_second_size_7])), (h_t_second_chain, .inl (cI, 48, .inl t_second_chain_8)), (h_t_second_x, .inl (cI, 48, .inl t_second_x_9)), (h_t_second_y, .inl (cI, 48, .inl t_second_y_10)), (h_t_second_sorted, .inl (cI, 24, .inl t_second_sorted_11)), (h_p1, .inr (0, [.ref h_p1_x, .ref h_p1_y, .ref h_p1_colour, .ref h_p1_load, .int p1_size, .int p1_centreX, .int p1_centreY])), (h_p1_x, .inl (cI, 24, .inl p1_x)), (h_p1_y, .inl (cI, 24, .inl p1_y))]) (va_runV (As := [.ref h_p1, .int a3]) (rest := []) ⟨hx, hb, hml, hown, hts⟩ (mtX2_build l dC dI cI cL cB K h_t_second h_t_second_chain h_t_second_x h_t_second_y h_t_second_sorted h_p1 h_p1_x h_p1_y h_p1_colour h_p1_load H.size t_second_size t_second_chain t_second_x t_second_y t_second_sorted p1_size p1_centreX p1_centreY p1_x p1_y a3 t_second_size_7 t_second_chain_8 t_second_x_9 t_second_y_10 t_second_sorted_11 hq_12) (cwV 2 hts gv_X3_36 rfl rfl rfl hdV_X2_build ⟨Nat.le_trans (Nat.le_of_ble_eq_true rfl) hF, Nat.le_trans (Nat.le_of_ble_eq_true rfl) hLo⟩) (cPreV hK hP hD hT [6, 7, 8, 9, 10, 11, 12, 13] rfl rfl (ci := 2) (q0 := 0) rfl rfl) rfl rfl hl.1 rfl (lv_room (Nat.le_of_ble_eq_true rfl)) dX3_take_15 ⟨Nat.zero_le _, Nat.zero_le _⟩) hP hD hS hA [6, 7, 8, 9, 10, 11, 12, 13] [0, 1, 2, 3, 4, 5] [0, 1, 2, 3, 4, 5, 6, 7, 8, 9, 10, 11, 12, 13] rfl rfl rfl rfl rfl rfl (fun H locs hP hD hS => ?_)
  refine lv_aload_n hx hb dX3_take_18 rfl (lv_at hl 0 rfl) ?_
  refine lv_iconst (v := (0 : Int32)) hx hb dX3_take_19 (by decide) ?_
  refine xput (D := (dC, dI)) (ci := 3) (v := .int (0 : Int32)) (C := RX3) (T := TX3) (N := 13) (w2 := [(h_t, .inr (3, [.ref h_t_first, .ref h_t_second, .ref h_t_third, .ref h_t_place, .long t_gapSquare, .long t_gapLower, .long t_gapX, .long t_gapY, .ref h_t_near, .int (0 : Int32), .long t_leastX, .long t_leastY, .long t_leastLower])), (h_t_first, .inr (2, [.ref h_t_first_chain, .ref h_t_first_x, .ref h_t_first_y, .ref h_t_first_sorted, .int t_first_size_1])), (h_t_first_chain, .inl (cI, 48, .inl t_first_chain_2)), (h_t_first_x, .inl (cI, 48, .inl t_first_x_3)), (h_t_first_y, .inl (cI, 48, .inl t_first_y_4)), (h_t_first_sorted, .inl (cI, 24, .inl t_first_sorted_5)), (h_t_second, .inr (2, [.ref h_t_second_chain, .ref h_t_second_x, .ref h_t_second_y, .ref h_t_second_sorted, .int t_second_size_7])), (h_t_second_chain, .inl (cI, 48, .inl t_second_chain_8)), (h_t_second_x, .inl (cI, 48, .inl t_second_x_9)), (h_t_second_y, .inl (cI, 48, .inl t_second_y_10)), (h_t_second_sorted, .inl (cI, 24, .inl t_second_sorted_11)), (h_p1, .inr (0, [.ref h_p1_x, .ref h_p1_y, .ref h_p1_colour, .ref h_p1_load, .int p1_size, .int p1_centreX, .int p1_centreY])), (h_p1_x, .inl (cI, 24, .inl p1_x)), (h_p1_y, .inl (cI, 24, .inl p1_y))]) hx hb hts in_X3 tyX3 tyX3_ok nmX3 hown hK hP hD hS 0 rfl rfl 9 (Nat.le_of_ble_eq_true rfl) (hts _ qf_X3_40) (fun _ h9 => h9) rfl rfl rfl (Nat.le_of_ble_eq_true rfl) rfl dX3_take_20 (fun H locs hP hD hS => ?_)
  obtain ⟨rfl, rfl, rfl, rfl, rfl, rfl, rfl, rfl, rfl, rfl, rfl⟩ := o11 hf
  exact W.vret hx hb hr (fun t ht hW => ⟨⟨(), rfl, trivial, by rw [ht]; exact hP, hD⟩, hS.F ht⟩) hS.2.2 dX3_take_23
