theorem dX0_drop_0 : decode cX0_drop 0 = .ok (.iload_n 1, 1) := by decide +kernel
theorem dX0_drop_1 : decode cX0_drop 1 = .ok (.istore_n 2, 1) := by decide +kernel
theorem dX0_drop_2 : decode cX0_drop 2 = .ok (.iload_n 2, 1) := by decide +kernel
theorem dX0_drop_3 : decode cX0_drop 3 = .ok (.aload_n 0, 1) := by decide +kernel
theorem dX0_drop_4 : decode cX0_drop 4 = .ok (.getfield 24, 3) := by decide +kernel
theorem dX0_drop_7 : decode cX0_drop 7 = .ok (.iconst 1, 1) := by decide +kernel
theorem dX0_drop_8 : decode cX0_drop 8 = .ok (.isub, 1) := by decide +kernel
theorem dX0_drop_9 : decode cX0_drop 9 = .ok (.if_icmp .ge 65, 3) := by decide +kernel
theorem dX0_drop_12 : decode cX0_drop 12 = .ok (.aload_n 0, 1) := by decide +kernel
theorem dX0_drop_13 : decode cX0_drop 13 = .ok (.getfield 9, 3) := by decide +kernel
theorem dX0_drop_16 : decode cX0_drop 16 = .ok (.iload_n 2, 1) := by decide +kernel
theorem dX0_drop_17 : decode cX0_drop 17 = .ok (.aload_n 0, 1) := by decide +kernel
theorem dX0_drop_18 : decode cX0_drop 18 = .ok (.getfield 9, 3) := by decide +kernel
theorem dX0_drop_21 : decode cX0_drop 21 = .ok (.iload_n 2, 1) := by decide +kernel
theorem dX0_drop_22 : decode cX0_drop 22 = .ok (.iconst 1, 1) := by decide +kernel
theorem dX0_drop_23 : decode cX0_drop 23 = .ok (.iadd, 1) := by decide +kernel
theorem dX0_drop_24 : decode cX0_drop 24 = .ok (.iaload, 1) := by decide +kernel
theorem dX0_drop_25 : decode cX0_drop 25 = .ok (.iastore, 1) := by decide +kernel
theorem dX0_drop_26 : decode cX0_drop 26 = .ok (.aload_n 0, 1) := by decide +kernel
theorem dX0_drop_27 : decode cX0_drop 27 = .ok (.getfield 15, 3) := by decide +kernel
theorem dX0_drop_30 : decode cX0_drop 30 = .ok (.iload_n 2, 1) := by decide +kernel
theorem dX0_drop_31 : decode cX0_drop 31 = .ok (.aload_n 0, 1) := by decide +kernel
theorem dX0_drop_32 : decode cX0_drop 32 = .ok (.getfield 15, 3) := by decide +kernel
theorem dX0_drop_35 : decode cX0_drop 35 = .ok (.iload_n 2, 1) := by decide +kernel
theorem dX0_drop_36 : decode cX0_drop 36 = .ok (.iconst 1, 1) := by decide +kernel
theorem dX0_drop_37 : decode cX0_drop 37 = .ok (.iadd, 1) := by decide +kernel
theorem dX0_drop_38 : decode cX0_drop 38 = .ok (.iaload, 1) := by decide +kernel
theorem dX0_drop_39 : decode cX0_drop 39 = .ok (.iastore, 1) := by decide +kernel
theorem dX0_drop_40 : decode cX0_drop 40 = .ok (.aload_n 0, 1) := by decide +kernel
theorem dX0_drop_41 : decode cX0_drop 41 = .ok (.getfield 18, 3) := by decide +kernel
theorem dX0_drop_44 : decode cX0_drop 44 = .ok (.iload_n 2, 1) := by decide +kernel
theorem dX0_drop_45 : decode cX0_drop 45 = .ok (.aload_n 0, 1) := by decide +kernel
theorem dX0_drop_46 : decode cX0_drop 46 = .ok (.getfield 18, 3) := by decide +kernel
theorem dX0_drop_49 : decode cX0_drop 49 = .ok (.iload_n 2, 1) := by decide +kernel
theorem dX0_drop_50 : decode cX0_drop 50 = .ok (.iconst 1, 1) := by decide +kernel
theorem dX0_drop_51 : decode cX0_drop 51 = .ok (.iadd, 1) := by decide +kernel
theorem dX0_drop_52 : decode cX0_drop 52 = .ok (.iaload, 1) := by decide +kernel
theorem dX0_drop_53 : decode cX0_drop 53 = .ok (.iastore, 1) := by decide +kernel
theorem dX0_drop_54 : decode cX0_drop 54 = .ok (.aload_n 0, 1) := by decide +kernel
theorem dX0_drop_55 : decode cX0_drop 55 = .ok (.getfield 21, 3) := by decide +kernel
theorem dX0_drop_58 : decode cX0_drop 58 = .ok (.iload_n 2, 1) := by decide +kernel
theorem dX0_drop_59 : decode cX0_drop 59 = .ok (.aload_n 0, 1) := by decide +kernel
theorem dX0_drop_60 : decode cX0_drop 60 = .ok (.getfield 21, 3) := by decide +kernel
theorem dX0_drop_63 : decode cX0_drop 63 = .ok (.iload_n 2, 1) := by decide +kernel
theorem dX0_drop_64 : decode cX0_drop 64 = .ok (.iconst 1, 1) := by decide +kernel
theorem dX0_drop_65 : decode cX0_drop 65 = .ok (.iadd, 1) := by decide +kernel
theorem dX0_drop_66 : decode cX0_drop 66 = .ok (.iaload, 1) := by decide +kernel
theorem dX0_drop_67 : decode cX0_drop 67 = .ok (.iastore, 1) := by decide +kernel
theorem dX0_drop_68 : decode cX0_drop 68 = .ok (.iinc 2 1, 3) := by decide +kernel
theorem dX0_drop_71 : decode cX0_drop 71 = .ok (.goto (-69), 3) := by decide +kernel
theorem dX0_drop_74 : decode cX0_drop 74 = .ok (.aload_n 0, 1) := by decide +kernel
theorem dX0_drop_75 : decode cX0_drop 75 = .ok (.dup, 1) := by decide +kernel
theorem dX0_drop_76 : decode cX0_drop 76 = .ok (.getfield 24, 3) := by decide +kernel
theorem dX0_drop_79 : decode cX0_drop 79 = .ok (.iconst 1, 1) := by decide +kernel
theorem dX0_drop_80 : decode cX0_drop 80 = .ok (.isub, 1) := by decide +kernel
theorem dX0_drop_81 : decode cX0_drop 81 = .ok (.putfield 24, 3) := by decide +kernel
theorem dX0_drop_84 : decode cX0_drop 84 = .ok (.return_, 1) := by decide +kernel
set_option maxRecDepth 100000 in
set_option maxHeartbeats 4000000 in
theorem wX0_drop_L2 {p : Program} {l : Launch} {e : Env} {R : Room} {s : State} {m : MethodId} {args : Array Value} {below : List Frame} {meth : Method} {c : Code} {Q : State → Prop} {A : Nat → Prop} {dC : Nat → ClassId} {dI : Nat → Nat → Nat} {cI cL cB : ClassId} {K : Nat} (C0 : Sx p R s m args c cX0_drop 3 RX0 A dC dI cI cL cB 0 0) (h_t h_t_x h_t_y h_t_colour h_t_load : Nat) (t_size : Int32) (t_centreX : Int32) (t_centreY : Int32) : ∀ (n : Nat) (l2 : Int32) (t_x : Nat → Int32) (t_y : Nat → Int32) (t_colour : Nat → Int32) (t_load : Nat → Int32) (x_t_x : Nat → Int32) (x_t_y : Nat → Int32) (x_t_colour : Nat → Int32) (x_t_load : Nat → Int32) (H : Heap) (locs : List Loc) (ls : Array Slot), va_P (dC, dI) vwCl [(h_t, .inr (0, [.ref h_t_x, .ref h_t_y, .ref h_t_colour, .ref h_t_load, .int t_size, .int t_centreX, .int t_centreY])), (h_t_x, .inl (cI, 24, .inl t_x)), (h_t_y, .inl (cI, 24, .inl t_y)), (h_t_colour, .inl (cI, 24, .inl t_colour)), (h_t_load, .inl (cI, 24, .inl t_load))] H → va_D A [(h_t, .inr (0, [.ref h_t_x, .ref h_t_y, .ref h_t_colour, .ref h_t_load, .int t_size, .int t_centreX, .int t_centreY])), (h_t_x, .inl (cI, 24, .inl t_x)), (h_t_y, .inl (cI, 24, .inl t_y)), (h_t_colour, .inl (cI, 24, .inl t_colour)), (h_t_load, .inl (cI, 24, .inl t_load))] → va_S A s.heap H locs → lv_has ls 3 [(0, .ref h_t), (2, .int l2)] → fX0_drop_L2 K t_size n l2 t_x t_y t_colour t_load = some (x_t_x, x_t_y, x_t_colour, x_t_load) → (∀ (H : Heap) (locs : List Loc) (ls : Array Slot), va_P (dC, dI) vwCl [(h_t, .inr (0, [.ref h_t_x, .ref h_t_y, .ref h_t_colour, .ref h_t_load, .int t_size, .int t_centreX, .int t_centreY])), (h_t_x, .inl (cI, 24, .inl x_t_x)), (h_t_y, .inl (cI, 24, .inl x_t_y)), (h_t_colour, .inl (cI, 24, .inl x_t_colour)), (h_t_load, .inl (cI, 24, .inl x_t_load))] H → va_D A [(h_t, .inr (0, [.ref h_t_x, .ref h_t_y, .ref h_t_colour, .ref h_t_load, .int t_size, .int t_centreX, .int t_centreY])), (h_t_x, .inl (cI, 24, .inl x_t_x)), (h_t_y, .inl (cI, 24, .inl x_t_y)), (h_t_colour, .inl (cI, 24, .inl x_t_colour)), (h_t_load, .inl (cI, 24, .inl x_t_load))] → va_S A s.heap H locs → lv_has ls 3 [(0, .ref h_t)] → W p l e R s m args below meth c H locs 0 0 Q (F0 m 74 ls [])) → W p l e R s m args below meth c H locs 0 0 Q (F0 m 2 ls []) := by
  obtain ⟨hx, hb, hml, hown, hts, hK, hT, hA, hF, hLo⟩ := id C0
  intro n
  induction n with
  | zero =>
    intro l2 t_x t_y t_colour t_load x_t_x x_t_y x_t_colour x_t_load H locs ls hP hD hS hl hf
    rw [fX0_drop_L2] at hf
    cases hf
  | succ n ih =>
    intro l2 t_x t_y t_colour t_load x_t_x x_t_y x_t_colour x_t_load H locs ls hP hD hS hl hf hk
    rw [fX0_drop_L2] at hf
    refine lv_iload_n hx hb dX0_drop_2 rfl (lv_at hl 1 rfl) ?_
    refine lv_aload_n hx hb dX0_drop_3 rfl (lv_at hl 0 rfl) ?_
    refine va_get (D := (dC, dI)) (ci := 0) (v := .int t_size) (C := RX0) (T := TX0) (N := 7) hx hb hts in_X0 hown hK hP 0 rfl rfl 4 (Nat.le_of_ble_eq_true rfl) (hts _ qf_X0_24) (fun _ h9 => h9) rfl dX0_drop_4 ?_
    refine lv_iconst (v := (1 : Int32)) hx hb dX0_drop_7 (by decide) ?_
    refine lv_isub hx hb dX0_drop_8 ?_
    refine lv_icmp_ge (tgt := 74) hx hb dX0_drop_9 (by decide) (fun hc => ?_) (fun hc => ?_)
    · replace hf := it_t (hc) hf
      obtain ⟨rfl, rfl, rfl, rfl⟩ := o4 hf
      exact hk H locs ls hP hD hS (lv_sub hl [0] rfl)
    · replace hf := it_f (hc) hf
      refine lv_aload_n hx hb dX0_drop_12 rfl (lv_at hl 0 rfl) ?_
      refine va_get (D := (dC, dI)) (ci := 0) (v := .ref h_t_x) (C := RX0) (T := TX0) (N := 7) hx hb hts in_X0 hown hK hP 0 rfl rfl 0 (Nat.le_of_ble_eq_true rfl) (hts _ qf_X0_9) (fun _ h9 => h9) rfl dX0_drop_13 ?_
      refine lv_iload_n hx hb dX0_drop_16 rfl (lv_at hl 1 rfl) ?_
      refine lv_aload_n hx hb dX0_drop_17 rfl (lv_at hl 0 rfl) ?_
      refine va_get (D := (dC, dI)) (ci := 0) (v := .ref h_t_x) (C := RX0) (T := TX0) (N := 7) hx hb hts in_X0 hown hK hP 0 rfl rfl 0 (Nat.le_of_ble_eq_true rfl) (hts _ qf_X0_9) (fun _ h9 => h9) rfl dX0_drop_18 ?_
      refine lv_iload_n hx hb dX0_drop_21 rfl (lv_at hl 1 rfl) ?_
      refine lv_iconst (v := (1 : Int32)) hx hb dX0_drop_22 (by decide) ?_
      refine lv_iadd hx hb dX0_drop_23 ?_
      obtain ⟨hg_1, hf⟩ := gd_some hf
      refine va_iald hx hb hK hP 1 0 rfl rfl (inb_in hg_1) dX0_drop_24 ?_
      obtain ⟨hg_2, hf⟩ := gd_some hf
      obtain ⟨t_x_3, et_x_3⟩ : ∃ y : Nat → Int32, y = upd t_x l2.toNatClampNeg (t_x (l2 + (1 : Int32)).toNatClampNeg) := ⟨_, rfl⟩
      replace hf := xl_at hf et_x_3
      refine xiast (w2 := [(h_t, .inr (0, [.ref h_t_x, .ref h_t_y, .ref h_t_colour, .ref h_t_load, .int t_size, .int t_centreX, .int t_centreY])), (h_t_x, .inl (cI, 24, .inl t_x_3)), (h_t_y, .inl (cI, 24, .inl t_y)), (h_t_colour, .inl (cI, 24, .inl t_colour)), (h_t_load, .inl (cI, 24, .inl t_load))]) hx hb hK hP hD hS 1 0 rfl rfl (inb_in hg_2) et_x_3 rfl dX0_drop_25 (fun H locs hP hD hS => ?_)
      refine lv_aload_n hx hb dX0_drop_26 rfl (lv_at hl 0 rfl) ?_
      refine va_get (D := (dC, dI)) (ci := 0) (v := .ref h_t_y) (C := RX0) (T := TX0) (N := 7) hx hb hts in_X0 hown hK hP 0 rfl rfl 1 (Nat.le_of_ble_eq_true rfl) (hts _ qf_X0_15) (fun _ h9 => h9) rfl dX0_drop_27 ?_
      refine lv_iload_n hx hb dX0_drop_30 rfl (lv_at hl 1 rfl) ?_
      refine lv_aload_n hx hb dX0_drop_31 rfl (lv_at hl 0 rfl) ?_
      refine va_get (D := (dC, dI)) (ci := 0) (v := .ref h_t_y) (C := RX0) (T := TX0) (N := 7) hx hb hts in_X0 hown hK hP 0 rfl rfl 1 (Nat.le_of_ble_eq_true rfl) (hts _ qf_X0_15) (fun _ h9 => h9) rfl dX0_drop_32 ?_
      refine lv_iload_n hx hb dX0_drop_35 rfl (lv_at hl 1 rfl) ?_
      refine lv_iconst (v := (1 : Int32)) hx hb dX0_drop_36 (by decide) ?_
      refine lv_iadd hx hb dX0_drop_37 ?_
      obtain ⟨hg_4, hf⟩ := gd_some hf
      refine va_iald hx hb hK hP 2 0 rfl rfl (inb_in hg_4) dX0_drop_38 ?_
      obtain ⟨hg_5, hf⟩ := gd_some hf
      obtain ⟨t_y_6, et_y_6⟩ : ∃ y : Nat → Int32, y = upd t_y l2.toNatClampNeg (t_y (l2 + (1 : Int32)).toNatClampNeg) := ⟨_, rfl⟩
      replace hf := xl_at hf et_y_6
      refine xiast (w2 := [(h_t, .inr (0, [.ref h_t_x, .ref h_t_y, .ref h_t_colour, .ref h_t_load, .int t_size, .int t_centreX, .int t_centreY])), (h_t_x, .inl (cI, 24, .inl t_x_3)), (h_t_y, .inl (cI, 24, .inl t_y_6)), (h_t_colour, .inl (cI, 24, .inl t_colour)), (h_t_load, .inl (cI, 24, .inl t_load))]) hx hb hK hP hD hS 2 0 rfl rfl (inb_in hg_5) et_y_6 rfl dX0_drop_39 (fun H locs hP hD hS => ?_)
      refine lv_aload_n hx hb dX0_drop_40 rfl (lv_at hl 0 rfl) ?_
      refine va_get (D := (dC, dI)) (ci := 0) (v := .ref h_t_colour) (C := RX0) (T := TX0) (N := 7) hx hb hts in_X0 hown hK hP 0 rfl rfl 2 (Nat.le_of_ble_eq_true rfl) (hts _ qf_X0_18) (fun _ h9 => h9) rfl dX0_drop_41 ?_
      refine lv_iload_n hx hb dX0_drop_44 rfl (lv_at hl 1 rfl) ?_
      refine lv_aload_n hx hb dX0_drop_45 rfl (lv_at hl 0 rfl) ?_
      refine va_get (D := (dC, dI)) (ci := 0) (v := .ref h_t_colour) (C := RX0) (T := TX0) (N := 7) hx hb hts in_X0 hown hK hP 0 rfl rfl 2 (Nat.le_of_ble_eq_true rfl) (hts _ qf_X0_18) (fun _ h9 => h9) rfl dX0_drop_46 ?_
      refine lv_iload_n hx hb dX0_drop_49 rfl (lv_at hl 1 rfl) ?_
      refine lv_iconst (v := (1 : Int32)) hx hb dX0_drop_50 (by decide) ?_
      refine lv_iadd hx hb dX0_drop_51 ?_
      obtain ⟨hg_7, hf⟩ := gd_some hf
      refine va_iald hx hb hK hP 3 0 rfl rfl (inb_in hg_7) dX0_drop_52 ?_
      obtain ⟨hg_8, hf⟩ := gd_some hf
      obtain ⟨t_colour_9, et_colour_9⟩ : ∃ y : Nat → Int32, y = upd t_colour l2.toNatClampNeg (t_colour (l2 + (1 : Int32)).toNatClampNeg) := ⟨_, rfl⟩
      replace hf := xl_at hf et_colour_9
      refine xiast (w2 := [(h_t, .inr (0, [.ref h_t_x, .ref h_t_y, .ref h_t_colour, .ref h_t_load, .int t_size, .int t_centreX, .int t_centreY])), (h_t_x, .inl (cI, 24, .inl t_x_3)), (h_t_y, .inl (cI, 24, .inl t_y_6)), (h_t_colour, .inl (cI, 24, .inl t_colour_9)), (h_t_load, .inl (cI, 24, .inl t_load))]) hx hb hK hP hD hS 3 0 rfl rfl (inb_in hg_8) et_colour_9 rfl dX0_drop_53 (fun H locs hP hD hS => ?_)
      refine lv_aload_n hx hb dX0_drop_54 rfl (lv_at hl 0 rfl) ?_
      refine va_get (D := (dC, dI)) (ci := 0) (v := .ref h_t_load) (C := RX0) (T := TX0) (N := 7) hx hb hts in_X0 hown hK hP 0 rfl rfl 3 (Nat.le_of_ble_eq_true rfl) (hts _ qf_X0_21) (fun _ h9 => h9) rfl dX0_drop_55 ?_
      refine lv_iload_n hx hb dX0_drop_58 rfl (lv_at hl 1 rfl) ?_
      refine lv_aload_n hx hb dX0_drop_59 rfl (lv_at hl 0 rfl) ?_
      refine va_get (D := (dC, dI)) (ci := 0) (v := .ref h_t_load) (C := RX0) (T := TX0) (N := 7) hx hb hts in_X0 hown hK hP 0 rfl rfl 3 (Nat.le_of_ble_eq_true rfl) (hts _ qf_X0_21) (fun _ h9 => h9) rfl dX0_drop_60 ?_
      refine lv_iload_n hx hb dX0_drop_63 rfl (lv_at hl 1 rfl) ?_
      refine lv_iconst (v := (1 : Int32)) hx hb dX0_drop_64 (by decide) ?_
      refine lv_iadd hx hb dX0_drop_65 ?_
      obtain ⟨hg_10, hf⟩ := gd_some hf
      refine va_iald hx hb hK hP 4 0 rfl rfl (inb_in hg_10) dX0_drop_66 ?_
      obtain ⟨hg_11, hf⟩ := gd_some hf
      obtain ⟨t_load_12, et_load_12⟩ : ∃ y : Nat → Int32, y = upd t_load l2.toNatClampNeg (t_load (l2 + (1 : Int32)).toNatClampNeg) := ⟨_, rfl⟩
      replace hf := xl_at hf et_load_12
      refine xiast (w2 := [(h_t, .inr (0, [.ref h_t_x, .ref h_t_y, .ref h_t_colour, .ref h_t_load, .int t_size, .int t_centreX, .int t_centreY])), (h_t_x, .inl (cI, 24, .inl t_x_3)), (h_t_y, .inl (cI, 24, .inl t_y_6)), (h_t_colour, .inl (cI, 24, .inl t_colour_9)), (h_t_load, .inl (cI, 24, .inl t_load_12))]) hx hb hK hP hD hS 4 0 rfl rfl (inb_in hg_11) et_load_12 rfl dX0_drop_67 (fun H locs hP hD hS => ?_)
      obtain ⟨l2_13, el2_13⟩ : ∃ y : Int32, y = l2 + (1 : Int32) := ⟨_, rfl⟩
      replace hf := xl_at hf el2_13
      refine lv_iinc (v := l2_13) (lv' := [(2, .int l2_13), (0, .ref h_t)]) hx hb dX0_drop_68 hl (k := 1) rfl (by rw [el2_13]; rfl) (Nat.le_of_ble_eq_true rfl) rfl (fun ls hl => ?_)
      refine lv_goto (tgt := 2) hx hb dX0_drop_71 (by decide) ?_
      exact ih l2_13 t_x_3 t_y_6 t_colour_9 t_load_12 _ _ _ _ H locs ls hP hD hS (lv_sub hl [1, 0] rfl) hf hk
set_option maxRecDepth 100000 in
set_option maxHeartbeats 4000000 in
theorem mtX0_drop (l : Launch) (dC : Nat → ClassId) (dI : Nat → Nat → Nat) (cI cL cB : ClassId) (K : Nat) (h_t h_t_x h_t_y h_t_colour h_t_load : Nat) (sz : Nat) (t_size : Int32) (t_centreX : Int32) (t_centreY : Int32) (t_x : Nat → Int32) (t_y : Nat → Int32) (t_colour : Nat → Int32) (t_load : Nat → Int32) (a1 : Int32) (o_t_size : Int32) (o_t_x : Nat → Int32) (o_t_y : Nat → Int32) (o_t_colour : Nat → Int32) (o_t_load : Nat → Int32) (hf : fX0_drop K t_size t_x t_y t_colour t_load a1 = some (o_t_size, o_t_x, o_t_y, o_t_colour, o_t_load)) : Met l yX0_drop [Cond.code yX0_drop cX0_drop 3 none] ({ frames := 0, cells := 0, slots := 0, locals := 0 }) (va_Pc [.ref h_t, .int a1] (cPre dC dI cI cL cB sz [(h_t, .inr (0, [.ref h_t_x, .ref h_t_y, .ref h_t_colour, .ref h_t_load, .int t_size, .int t_centreX, .int t_centreY])), (h_t_x, .inl (cI, 24, .inl t_x)), (h_t_y, .inl (cI, 24, .inl t_y)), (h_t_colour, .inl (cI, 24, .inl t_colour)), (h_t_load, .inl (cI, 24, .inl t_load))])) (cQv dC dI (va_A [(h_t, .inr (0, [.ref h_t_x, .ref h_t_y, .ref h_t_colour, .ref h_t_load, .int t_size, .int t_centreX, .int t_centreY])), (h_t_x, .inl (cI, 24, .inl t_x)), (h_t_y, .inl (cI, 24, .inl t_y)), (h_t_colour, .inl (cI, 24, .inl t_colour)), (h_t_load, .inl (cI, 24, .inl t_load))] sz) [(h_t, .inr (0, [.ref h_t_x, .ref h_t_y, .ref h_t_colour, .ref h_t_load, .int o_t_size, .int t_centreX, .int t_centreY])), (h_t_x, .inl (cI, 24, .inl o_t_x)), (h_t_y, .inl (cI, 24, .inl o_t_y)), (h_t_colour, .inl (cI, 24, .inl o_t_colour)), (h_t_load, .inl (cI, 24, .inl o_t_load))]) 0 0 (va_A [(h_t, .inr (0, [.ref h_t_x, .ref h_t_y, .ref h_t_colour, .ref h_t_load, .int t_size, .int t_centreX, .int t_centreY])), (h_t_x, .inl (cI, 24, .inl t_x)), (h_t_y, .inl (cI, 24, .inl t_y)), (h_t_colour, .inl (cI, 24, .inl t_colour)), (h_t_load, .inl (cI, 24, .inl t_load))] sz) := by
  refine Met.ofW (cc := cX0_drop) (maxL := 3) (ret := none) (by decide) rfl ?_
  intro p e s m args below meth c s₁ B hml hv
  obtain ⟨rfl, hsz, hP, hK, hD0, hT⟩ := hv
  have hx := B.exec
  have hb := B.bytes
  have hr := B.returns
  have hown : s.vm.findClass RX0 = some m.cls := findClass_of_methodNamed B.named
  have hlocks := B.notSynchronized
  have hts := TB.use hT ([.ref h_t, .int a1] : List Value).toArray
  subst hsz
  have hD := hD0.self (sz := s.heap.size)
  generalize hAe : va_A [(h_t, .inr (0, [.ref h_t_x, .ref h_t_y, .ref h_t_colour, .ref h_t_load, .int t_size, .int t_centreX, .int t_centreY])), (h_t_x, .inl (cI, 24, .inl t_x)), (h_t_y, .inl (cI, 24, .inl t_y)), (h_t_colour, .inl (cI, 24, .inl t_colour)), (h_t_load, .inl (cI, 24, .inl t_load))] s.heap.size = A at hD ⊢
  have hA : ∀ q : Nat, s.heap.size ≤ q → A q := fun q h => by rw [← hAe]; exact Or.inr h
  clear hAe hD0
  have hl := lv_entry ([.ref h_t, .int a1]) (n := 3) (Nat.le_of_ble_eq_true rfl)
  rw [lg_entry_eq]
  generalize (lg_sl ([.ref h_t, .int a1]) ++ List.replicate (3 - (lg_sl ([.ref h_t, .int a1])).length) Slot.unset).toArray = ls at hl ⊢
  have hl : lv_has ls 3 [(0, .ref h_t), (1, .int a1)] := hl
  have hF : 0 ≤ (headSpec [Cond.code yX0_drop cX0_drop 3 none] ({ frames := 0, cells := 0, slots := 0, locals := 0 })).room.frames := Nat.le_refl _
  have hLo : 0 ≤ (headSpec [Cond.code yX0_drop cX0_drop 3 none] ({ frames := 0, cells := 0, slots := 0, locals := 0 })).room.locals := Nat.le_refl _
  have C0 : Sx p (headSpec [Cond.code yX0_drop cX0_drop 3 none] ({ frames := 0, cells := 0, slots := 0, locals := 0 })).room s m ([.ref h_t, .int a1] : List Value).toArray c cX0_drop 3 RX0 A dC dI cI cL cB 0 0 := ⟨hx, hb, hml, hown, hts, hK, hT, hA, hF, hLo⟩
  refine startH (A := A) hP (fun H locs hP hS => ?_)
  rw [fX0_drop] at hf
  refine lv_iload_n hx hb dX0_drop_0 rfl (lv_at hl 1 rfl) ?_
  refine lv_istore_n (lv' := [(2, .int a1), (0, .ref h_t), (1, .int a1)]) hx hb dX0_drop_1 rfl hl (Nat.le_of_ble_eq_true rfl) rfl (fun ls hl => ?_)
  obtain ⟨t_x_15, t_y_16, t_colour_17, t_load_18, hq_14, hf⟩ := b4_some hf
  refine wX0_drop_L2 C0 h_t h_t_x h_t_y h_t_colour h_t_load t_size t_centreX t_centreY K a1 t_x t_y t_colour t_load t_x_15 t_y_16 t_colour_17 t_load_18 H locs ls hP hD hS (lv_sub hl [1, 0] rfl) hq_14 ?_
  intro H locs ls hP hD hS hl
  refine lv_aload_n hx hb dX0_drop_74 rfl (lv_at hl 0 rfl) ?_
  refine lv_dup hx hb dX0_drop_75 rfl ?_
  refine va_get (D := (dC, dI)) (ci := 0) (v := .int t_size) (C := RX0) (T := TX0) (N := 7) hx hb hts in_X0 hown hK hP 0 rfl rfl 4 (Nat.le_of_ble_eq_true rfl) (hts _ qf_X0_24) (fun _ h9 => h9) rfl dX0_drop_76 ?_
  refine lv_iconst (v := (1 : Int32)) hx hb dX0_drop_79 (by decide) ?_
  refine lv_isub hx hb dX0_drop_80 ?_
  refine lv_topi (fun f_size_19 ef_size_19 => ?_)
  replace hf := xl_at hf ef_size_19
  refine xput (D := (dC, dI)) (ci := 0) (v := .int f_size_19) (C := RX0) (T := TX0) (N := 7) (w2 := [(h_t, .inr (0, [.ref h_t_x, .ref h_t_y, .ref h_t_colour, .ref h_t_load, .int f_size_19, .int t_centreX, .int t_centreY])), (h_t_x, .inl (cI, 24, .inl t_x_15)), (h_t_y, .inl (cI, 24, .inl t_y_16)), (h_t_colour, .inl (cI, 24, .inl t_colour_17)), (h_t_load, .inl (cI, 24, .inl t_load_18))]) hx hb hts in_X0 tyX0 tyX0_ok nmX0 hown hK hP hD hS 0 rfl rfl 4 (Nat.le_of_ble_eq_true rfl) (hts _ qf_X0_24) (fun _ h9 => h9) rfl rfl rfl (Nat.le_of_ble_eq_true rfl) rfl dX0_drop_81 (fun H locs hP hD hS => ?_)
  obtain ⟨rfl, rfl, rfl, rfl, rfl⟩ := o5 hf
  exact W.vret hx hb hr (fun t ht hW => ⟨⟨(), rfl, trivial, by rw [ht]; exact hP, hD⟩, hS.F ht⟩) hS.2.2 dX0_drop_84
theorem dX11_removes_0 : decode cX11_removes 0 = .ok (.aload_n 0, 1) := by decide +kernel
theorem dX11_removes_1 : decode cX11_removes 1 = .ok (.getfield 12, 3) := by decide +kernel
theorem dX11_removes_4 : decode cX11_removes 4 = .ok (.iload_n 1, 1) := by decide +kernel
theorem dX11_removes_5 : decode cX11_removes 5 = .ok (.invokevirtual 128, 3) := by decide +kernel
theorem dX11_removes_8 : decode cX11_removes 8 = .ok (.ifCond .ne 6, 3) := by decide +kernel
theorem dX11_removes_11 : decode cX11_removes 11 = .ok (.bipush (-2), 2) := by decide +kernel
theorem dX11_removes_13 : decode cX11_removes 13 = .ok (.ireturn, 1) := by decide +kernel
theorem dX11_removes_14 : decode cX11_removes 14 = .ok (.aload_n 0, 1) := by decide +kernel
theorem dX11_removes_15 : decode cX11_removes 15 = .ok (.getfield 12, 3) := by decide +kernel
theorem dX11_removes_18 : decode cX11_removes 18 = .ok (.iload_n 1, 1) := by decide +kernel
theorem dX11_removes_19 : decode cX11_removes 19 = .ok (.invokevirtual 377, 3) := by decide +kernel
theorem dX11_removes_22 : decode cX11_removes 22 = .ok (.aload_n 0, 1) := by decide +kernel
theorem dX11_removes_23 : decode cX11_removes 23 = .ok (.getfield 12, 3) := by decide +kernel
theorem dX11_removes_26 : decode cX11_removes 26 = .ok (.getfield 111, 3) := by decide +kernel
theorem dX11_removes_29 : decode cX11_removes 29 = .ok (.ireturn, 1) := by decide +kernel
set_option maxRecDepth 100000 in
set_option maxHeartbeats 4000000 in
theorem mtX11_removes (l : Launch) (dC : Nat → ClassId) (dI : Nat → Nat → Nat) (cI cL cB : ClassId) (K : Nat) (h_t h_t_cloud h_t_reader h_t_hull h_t_near h_t_firstTie h_t_reducer h_t_chooser h_t_pair h_t_divider h_t_depths h_t_spot h_t_cloud_x h_t_cloud_y h_t_cloud_colour h_t_cloud_load : Nat) (sz : Nat) (t_cloud_size : Int32) (t_cloud_centreX : Int32) (t_cloud_centreY : Int32) (t_cloud_x : Nat → Int32) (t_cloud_y : Nat → Int32) (t_cloud_colour : Nat → Int32) (t_cloud_load : Nat → Int32) (a1 : Int32) (o_r : Int32) (o_t_cloud_size : Int32) (o_t_cloud_x : Nat → Int32) (o_t_cloud_y : Nat → Int32) (o_t_cloud_colour : Nat → Int32) (o_t_cloud_load : Nat → Int32) (hf : fX11_removes K t_cloud_size t_cloud_x t_cloud_y t_cloud_colour t_cloud_load a1 = some (o_r, o_t_cloud_size, o_t_cloud_x, o_t_cloud_y, o_t_cloud_colour, o_t_cloud_load)) : Met l yX11_removes [Cond.code yX11_removes cX11_removes 2 (some .int)] ({ frames := 1, cells := 0, slots := 0, locals := 22 }) (va_Pc [.ref h_t, .int a1] (cPre dC dI cI cL cB sz [(h_t, .inr (11, [.ref h_t_cloud, .ref h_t_reader, .ref h_t_hull, .ref h_t_near, .ref h_t_firstTie, .ref h_t_reducer, .ref h_t_chooser, .ref h_t_pair, .ref h_t_divider, .ref h_t_depths, .ref h_t_spot])), (h_t_cloud, .inr (0, [.ref h_t_cloud_x, .ref h_t_cloud_y, .ref h_t_cloud_colour, .ref h_t_cloud_load, .int t_cloud_size, .int t_cloud_centreX, .int t_cloud_centreY])), (h_t_cloud_x, .inl (cI, 24, .inl t_cloud_x)), (h_t_cloud_y, .inl (cI, 24, .inl t_cloud_y)), (h_t_cloud_colour, .inl (cI, 24, .inl t_cloud_colour)), (h_t_cloud_load, .inl (cI, 24, .inl t_cloud_load))])) (cQi dC dI (va_A [(h_t, .inr (11, [.ref h_t_cloud, .ref h_t_reader, .ref h_t_hull, .ref h_t_near, .ref h_t_firstTie, .ref h_t_reducer, .ref h_t_chooser, .ref h_t_pair, .ref h_t_divider, .ref h_t_depths, .ref h_t_spot])), (h_t_cloud, .inr (0, [.ref h_t_cloud_x, .ref h_t_cloud_y, .ref h_t_cloud_colour, .ref h_t_cloud_load, .int t_cloud_size, .int t_cloud_centreX, .int t_cloud_centreY])), (h_t_cloud_x, .inl (cI, 24, .inl t_cloud_x)), (h_t_cloud_y, .inl (cI, 24, .inl t_cloud_y)), (h_t_cloud_colour, .inl (cI, 24, .inl t_cloud_colour)), (h_t_cloud_load, .inl (cI, 24, .inl t_cloud_load))] sz) o_r [(h_t, .inr (11, [.ref h_t_cloud, .ref h_t_reader, .ref h_t_hull, .ref h_t_near, .ref h_t_firstTie, .ref h_t_reducer, .ref h_t_chooser, .ref h_t_pair, .ref h_t_divider, .ref h_t_depths, .ref h_t_spot])), (h_t_cloud, .inr (0, [.ref h_t_cloud_x, .ref h_t_cloud_y, .ref h_t_cloud_colour, .ref h_t_cloud_load, .int o_t_cloud_size, .int t_cloud_centreX, .int t_cloud_centreY])), (h_t_cloud_x, .inl (cI, 24, .inl o_t_cloud_x)), (h_t_cloud_y, .inl (cI, 24, .inl o_t_cloud_y)), (h_t_cloud_colour, .inl (cI, 24, .inl o_t_cloud_colour)), (h_t_cloud_load, .inl (cI, 24, .inl o_t_cloud_load))]) 0 0 (va_A [(h_t, .inr (11, [.ref h_t_cloud, .ref h_t_reader, .ref h_t_hull, .ref h_t_near, .ref h_t_firstTie, .ref h_t_reducer, .ref h_t_chooser, .ref h_t_pair, .ref h_t_divider, .ref h_t_depths, .ref h_t_spot])), (h_t_cloud, .inr (0, [.ref h_t_cloud_x, .ref h_t_cloud_y, .ref h_t_cloud_colour, .ref h_t_cloud_load, .int t_cloud_size, .int t_cloud_centreX, .int t_cloud_centreY])), (h_t_cloud_x, .inl (cI, 24, .inl t_cloud_x)), (h_t_cloud_y, .inl (cI, 24, .inl t_cloud_y)), (h_t_cloud_colour, .inl (cI, 24, .inl t_cloud_colour)), (h_t_cloud_load, .inl (cI, 24, .inl t_cloud_load))] sz) := by
  refine Met.ofW (cc := cX11_removes) (maxL := 2) (ret := (some .int)) (by decide) rfl ?_
  intro p e s m args below meth c s₁ B hml hv
  obtain ⟨rfl, hsz, hP, hK, hD0, hT⟩ := hv
  have hx := B.exec
  have hb := B.bytes
  have hr := B.returns
  have hown : s.vm.findClass RX11 = some m.cls := findClass_of_methodNamed B.named
  have hlocks := B.notSynchronized
  have hts := TB.use hT ([.ref h_t, .int a1] : List Value).toArray
  subst hsz
  have hD := hD0.self (sz := s.heap.size)
  generalize hAe : va_A [(h_t, .inr (11, [.ref h_t_cloud, .ref h_t_reader, .ref h_t_hull, .ref h_t_near, .ref h_t_firstTie, .ref h_t_reducer, .ref h_t_chooser, .ref h_t_pair, .ref h_t_divider, .ref h_t_depths, .ref h_t_spot])), (h_t_cloud, .inr (0, [.ref h_t_cloud_x, .ref h_t_cloud_y, .ref h_t_cloud_colour, .ref h_t_cloud_load, .int t_cloud_size, .int t_cloud_centreX, .int t_cloud_centreY])), (h_t_cloud_x, .inl (cI, 24, .inl t_cloud_x)), (h_t_cloud_y, .inl (cI, 24, .inl t_cloud_y)), (h_t_cloud_colour, .inl (cI, 24, .inl t_cloud_colour)), (h_t_cloud_load, .inl (cI, 24, .inl t_cloud_load))] s.heap.size = A at hD ⊢
  have hA : ∀ q : Nat, s.heap.size ≤ q → A q := fun q h => by rw [← hAe]; exact Or.inr h
  clear hAe hD0
  have hl := lv_entry ([.ref h_t, .int a1]) (n := 2) (Nat.le_of_ble_eq_true rfl)
  rw [lg_entry_eq]
  generalize (lg_sl ([.ref h_t, .int a1]) ++ List.replicate (2 - (lg_sl ([.ref h_t, .int a1])).length) Slot.unset).toArray = ls at hl ⊢
  have hl : lv_has ls 2 [(0, .ref h_t), (1, .int a1)] := hl
  have hF : 1 ≤ (headSpec [Cond.code yX11_removes cX11_removes 2 (some .int)] ({ frames := 1, cells := 0, slots := 0, locals := 22 })).room.frames := Nat.le_refl _
  have hLo : 22 ≤ (headSpec [Cond.code yX11_removes cX11_removes 2 (some .int)] ({ frames := 1, cells := 0, slots := 0, locals := 22 })).room.locals := Nat.le_refl _
  have C0 : Sx p (headSpec [Cond.code yX11_removes cX11_removes 2 (some .int)] ({ frames := 1, cells := 0, slots := 0, locals := 22 })).room s m ([.ref h_t, .int a1] : List Value).toArray c cX11_removes 2 RX11 A dC dI cI cL cB 1 22 := ⟨hx, hb, hml, hown, hts, hK, hT, hA, hF, hLo⟩
  refine startH (A := A) hP (fun H locs hP hS => ?_)
  rw [fX11_removes] at hf
  refine lv_aload_n hx hb dX11_removes_0 rfl (lv_at hl 0 rfl) ?_
  refine va_get (D := (dC, dI)) (ci := 11) (v := .ref h_t_cloud) (C := RX11) (T := TX11) (N := 11) hx hb hts in_X11 hown hK hP 0 rfl rfl 0 (Nat.le_of_ble_eq_true rfl) (hts _ qf_X11_12) (fun _ h9 => h9) rfl dX11_removes_1 ?_
  refine lv_iload_n hx hb dX11_removes_4 rfl (lv_at hl 1 rfl) ?_
  obtain ⟨r_1, hq_2, hf⟩ := b1_some hf
  refine xci (wr := [(h_t, .inr (11, [.ref h_t_cloud, .ref h_t_reader, .ref h_t_hull, .ref h_t_near, .ref h_t_firstTie, .ref h_t_reducer, .ref h_t_chooser, .ref h_t_pair, .ref h_t_divider, .ref h_t_depths, .ref h_t_spot])), (h_t_cloud_x, .inl (cI, 24, .inl t_cloud_x)), (h_t_cloud_y, .inl (cI, 24, .inl t_cloud_y)), (h_t_cloud_colour, .inl (cI, 24, .inl t_cloud_colour)), (h_t_cloud_load, .inl (cI, 24, .inl t_cloud_load))]) (w2 := [(h_t, .inr (11, [.ref h_t_cloud, .ref h_t_reader, .ref h_t_hull, .ref h_t_near, .ref h_t_firstTie, .ref h_t_reducer, .ref h_t_chooser, .ref h_t_pair, .ref h_t_divider, .ref h_t_depths, .ref h_t_spot])), (h_t_cloud, .inr (0, [.ref h_t_cloud_x, .ref h_t_cloud_y, .ref h_t_cloud_colour, .ref h_t_cloud_load, .int t_cloud_size, .int t_cloud_centreX, .int t_cloud_centreY])), (h_t_cloud_x, .inl (cI, 24, .inl t_cloud_x)), (h_t_cloud_y, .inl (cI, 24, .inl t_cloud_y)), (h_t_cloud_colour, .inl (cI, 24, .inl t_cloud_colour)), (h_t_cloud_load, .inl (cI, 24, .inl t_cloud_load))]) (va_runV (As := [.int a1]) (rest := []) ⟨hx, hb, hml, hown, hts⟩ (mtX0_has l dC dI cI cL cB K h_t_cloud h_t_cloud_x h_t_cloud_y h_t_cloud_colour h_t_cloud_load H.size t_cloud_size t_cloud_centreX t_cloud_centreY a1 r_1 hq_2) (cwV 1 hts gv_X11_128 rfl rfl rfl hdV_X0_has ⟨Nat.le_trans (Nat.le_of_ble_eq_true rfl) hF, Nat.le_trans (Nat.le_of_ble_eq_true rfl) hLo⟩) (cPreV hK hP hD hT [1] rfl rfl (ci := 0) (q0 := 0) rfl rfl) rfl rfl hl.1 rfl (lv_room (Nat.le_of_ble_eq_true rfl)) dX11_removes_5 ⟨Nat.zero_le _, Nat.zero_le _⟩) hP hD hS hA [1] [0, 2, 3, 4, 5] [0, 5, 1, 2, 3, 4] rfl rfl rfl rfl rfl rfl (fun H locs hP hD hS => ?_)
  refine lv_if_ne (tgt := 14) hx hb dX11_removes_8 (by decide) (fun hc => ?_) (fun hc => ?_)
  · replace hf := it_f (hc) hf
    refine lv_aload_n hx hb dX11_removes_14 rfl (lv_at hl 0 rfl) ?_
    refine va_get (D := (dC, dI)) (ci := 11) (v := .ref h_t_cloud) (C := RX11) (T := TX11) (N := 11) hx hb hts in_X11 hown hK hP 0 rfl rfl 0 (Nat.le_of_ble_eq_true rfl) (hts _ qf_X11_12) (fun _ h9 => h9) rfl dX11_removes_15 ?_
    refine lv_iload_n hx hb dX11_removes_18 rfl (lv_at hl 1 rfl) ?_
    obtain ⟨t_cloud_size_3, t_cloud_x_4, t_cloud_y_5, t_cloud_colour_6, t_cloud_load_7, hq_8, hf⟩ := b5_some hf
    refine xcv (wr := [(h_t, .inr (11, [.ref h_t_cloud, .ref h_t_reader, .ref h_t_hull, .ref h_t_near, .ref h_t_firstTie, .ref h_t_reducer, .ref h_t_chooser, .ref h_t_pair, .ref h_t_divider, .ref h_t_depths, .ref h_t_spot]))]) (w2 := [(h_t, .inr (11, [.ref h_t_cloud, .ref h_t_reader, .ref h_t_hull, .ref h_t_near, .ref h_t_firstTie, .ref h_t_reducer, .ref h_t_chooser, .ref h_t_pair, .ref h_t_divider, .ref h_t_depths, .ref h_t_spot])), (h_t_cloud, .inr (0, [.ref h_t_cloud_x, .ref h_t_cloud_y, .ref h_t_cloud_colour, .ref h_t_cloud_load, .int t_cloud_size_3, .int t_cloud_centreX, .int t_cloud_centreY])), (h_t_cloud_x, .inl (cI, 24, .inl t_cloud_x_4)), (h_t_cloud_y, .inl (cI, 24, .inl t_cloud_y_5)), (h_t_cloud_colour, .inl (cI, 24, .inl t_cloud_colour_6)), (h_t_cloud_load, .inl (cI, 24, .inl t_cloud_load_7))]) (va_runV (As := [.int a1]) (rest := []) ⟨hx, hb, hml, hown, hts⟩ (mtX0_drop l dC dI cI cL cB K h_t_cloud h_t_cloud_x h_t_cloud_y h_t_cloud_colour h_t_cloud_load H.size t_cloud_size t_cloud_centreX t_cloud_centreY t_cloud_x t_cloud_y t_cloud_colour t_cloud_load a1 t_cloud_size_3 t_cloud_x_4 t_cloud_y_5 t_cloud_colour_6 t_cloud_load_7 hq_8) (cwV 1 hts gv_X11_377 rfl rfl rfl hdV_X0_drop ⟨Nat.le_trans (Nat.le_of_ble_eq_true rfl) hF, Nat.le_trans (Nat.le_of_ble_eq_true rfl) hLo⟩) (cPreV hK hP hD hT [1, 2, 3, 4, 5] rfl rfl (ci := 0) (q0 := 0) rfl rfl) rfl rfl hl.1 rfl (lv_room (Nat.le_of_ble_eq_true rfl)) dX11_removes_19 ⟨Nat.zero_le _, Nat.zero_le _⟩) hP hD hS hA [1, 2, 3, 4, 5] [0] [0, 1, 2, 3, 4, 5] rfl rfl rfl rfl rfl rfl (fun H locs hP hD hS => ?_)
    refine lv_aload_n hx hb dX11_removes_22 rfl (lv_at hl 0 rfl) ?_
    refine va_get (D := (dC, dI)) (ci := 11) (v := .ref h_t_cloud) (C := RX11) (T := TX11) (N := 11) hx hb hts in_X11 hown hK hP 0 rfl rfl 0 (Nat.le_of_ble_eq_true rfl) (hts _ qf_X11_12) (fun _ h9 => h9) rfl dX11_removes_23 ?_
    refine va_get (D := (dC, dI)) (ci := 0) (v := .int t_cloud_size_3) (C := RX0) (T := TX0) (N := 7) hx hb hts in_X0 hown hK hP 1 rfl rfl 4 (Nat.le_of_ble_eq_true rfl) (hts _ qf_X11_111) (fun _ h9 => h9) rfl dX11_removes_26 ?_
    obtain ⟨rfl, rfl, rfl, rfl, rfl, rfl⟩ := o6 hf
    exact W.iret hx hb hr (fun t ht hW => ⟨⟨_, (), rfl, rfl, by rw [ht]; exact hP, hD⟩, hS.F ht⟩) hS.2.2 dX11_removes_29
  · replace hf := it_t (hc) hf
    refine lv_bipush (v := (-2 : Int32)) hx hb dX11_removes_11 (by decide) ?_
    obtain ⟨rfl, rfl, rfl, rfl, rfl, rfl⟩ := o6 hf
    exact W.iret hx hb hr (fun t ht hW => ⟨⟨_, (), rfl, rfl, by rw [ht]; exact hP, hD⟩, hS.F ht⟩) hS.2.2 dX11_removes_13
theorem dX11_moves_0 : decode cX11_moves 0 = .ok (.aload_n 0, 1) := by decide +kernel
theorem dX11_moves_1 : decode cX11_moves 1 = .ok (.getfield 12, 3) := by decide +kernel
theorem dX11_moves_4 : decode cX11_moves 4 = .ok (.iload_n 1, 1) := by decide +kernel
theorem dX11_moves_5 : decode cX11_moves 5 = .ok (.invokevirtual 128, 3) := by decide +kernel
theorem dX11_moves_8 : decode cX11_moves 8 = .ok (.ifCond .eq 11, 3) := by decide +kernel
theorem dX11_moves_11 : decode cX11_moves 11 = .ok (.iload_n 2, 1) := by decide +kernel
theorem dX11_moves_12 : decode cX11_moves 12 = .ok (.iload_n 3, 1) := by decide +kernel
theorem dX11_moves_13 : decode cX11_moves 13 = .ok (.invokestatic 169, 3) := by decide +kernel
theorem dX11_moves_16 : decode cX11_moves 16 = .ok (.ifCond .ne 6, 3) := by decide +kernel
theorem dX11_moves_19 : decode cX11_moves 19 = .ok (.bipush (-2), 2) := by decide +kernel
theorem dX11_moves_21 : decode cX11_moves 21 = .ok (.ireturn, 1) := by decide +kernel
theorem dX11_moves_22 : decode cX11_moves 22 = .ok (.aload_n 0, 1) := by decide +kernel
theorem dX11_moves_23 : decode cX11_moves 23 = .ok (.getfield 12, 3) := by decide +kernel
theorem dX11_moves_26 : decode cX11_moves 26 = .ok (.iload_n 1, 1) := by decide +kernel
theorem dX11_moves_27 : decode cX11_moves 27 = .ok (.iload_n 2, 1) := by decide +kernel
theorem dX11_moves_28 : decode cX11_moves 28 = .ok (.iload_n 3, 1) := by decide +kernel
theorem dX11_moves_29 : decode cX11_moves 29 = .ok (.invokevirtual 380, 3) := by decide +kernel
theorem dX11_moves_32 : decode cX11_moves 32 = .ok (.istore 4, 2) := by decide +kernel
theorem dX11_moves_34 : decode cX11_moves 34 = .ok (.aload_n 0, 1) := by decide +kernel
theorem dX11_moves_35 : decode cX11_moves 35 = .ok (.getfield 12, 3) := by decide +kernel
theorem dX11_moves_38 : decode cX11_moves 38 = .ok (.getfield 133, 3) := by decide +kernel
theorem dX11_moves_41 : decode cX11_moves 41 = .ok (.iload_n 1, 1) := by decide +kernel
theorem dX11_moves_42 : decode cX11_moves 42 = .ok (.iload_n 2, 1) := by decide +kernel
theorem dX11_moves_43 : decode cX11_moves 43 = .ok (.iastore, 1) := by decide +kernel
theorem dX11_moves_44 : decode cX11_moves 44 = .ok (.aload_n 0, 1) := by decide +kernel
theorem dX11_moves_45 : decode cX11_moves 45 = .ok (.getfield 12, 3) := by decide +kernel
theorem dX11_moves_48 : decode cX11_moves 48 = .ok (.getfield 137, 3) := by decide +kernel
theorem dX11_moves_51 : decode cX11_moves 51 = .ok (.iload_n 1, 1) := by decide +kernel
theorem dX11_moves_52 : decode cX11_moves 52 = .ok (.iload_n 3, 1) := by decide +kernel
theorem dX11_moves_53 : decode cX11_moves 53 = .ok (.iastore, 1) := by decide +kernel
theorem dX11_moves_54 : decode cX11_moves 54 = .ok (.iload 4, 2) := by decide +kernel
theorem dX11_moves_56 : decode cX11_moves 56 = .ok (.ifCond .eq 7, 3) := by decide +kernel
theorem dX11_moves_59 : decode cX11_moves 59 = .ok (.iconst 0, 1) := by decide +kernel
theorem dX11_moves_60 : decode cX11_moves 60 = .ok (.goto 4, 3) := by decide +kernel
theorem dX11_moves_63 : decode cX11_moves 63 = .ok (.iconst 1, 1) := by decide +kernel
theorem dX11_moves_64 : decode cX11_moves 64 = .ok (.ireturn, 1) := by decide +kernel
set_option maxRecDepth 100000 in
set_option maxHeartbeats 4000000 in
theorem mtX11_moves (l : Launch) (dC : Nat → ClassId) (dI : Nat → Nat → Nat) (cI cL cB : ClassId) (K : Nat) (h_t h_t_cloud h_t_reader h_t_hull h_t_near h_t_firstTie h_t_reducer h_t_chooser h_t_pair h_t_divider h_t_depths h_t_spot h_t_cloud_x h_t_cloud_y h_t_cloud_colour h_t_cloud_load : Nat) (sz : Nat) (t_cloud_size : Int32) (t_cloud_centreX : Int32) (t_cloud_centreY : Int32) (t_cloud_x : Nat → Int32) (t_cloud_y : Nat → Int32) (a1 : Int32) (a2 : Int32) (a3 : Int32) (o_r : Int32) (o_t_cloud_x : Nat → Int32) (o_t_cloud_y : Nat → Int32) (hf : fX11_moves K t_cloud_size t_cloud_x t_cloud_y a1 a2 a3 = some (o_r, o_t_cloud_x, o_t_cloud_y)) : Met l yX11_moves [Cond.code yX11_moves cX11_moves 5 (some .int)] ({ frames := 1, cells := 0, slots := 0, locals := 23 }) (va_Pc [.ref h_t, .int a1, .int a2, .int a3] (cPre dC dI cI cL cB sz [(h_t, .inr (11, [.ref h_t_cloud, .ref h_t_reader, .ref h_t_hull, .ref h_t_near, .ref h_t_firstTie, .ref h_t_reducer, .ref h_t_chooser, .ref h_t_pair, .ref h_t_divider, .ref h_t_depths, .ref h_t_spot])), (h_t_cloud, .inr (0, [.ref h_t_cloud_x, .ref h_t_cloud_y, .ref h_t_cloud_colour, .ref h_t_cloud_load, .int t_cloud_size, .int t_cloud_centreX, .int t_cloud_centreY])), (h_t_cloud_x, .inl (cI, 24, .inl t_cloud_x)), (h_t_cloud_y, .inl (cI, 24, .inl t_cloud_y))])) (cQi dC dI (va_A [(h_t, .inr (11, [.ref h_t_cloud, .ref h_t_reader, .ref h_t_hull, .ref h_t_near, .ref h_t_firstTie, .ref h_t_reducer, .ref h_t_chooser, .ref h_t_pair, .ref h_t_divider, .ref h_t_depths, .ref h_t_spot])), (h_t_cloud, .inr (0, [.ref h_t_cloud_x, .ref h_t_cloud_y, .ref h_t_cloud_colour, .ref h_t_cloud_load, .int t_cloud_size, .int t_cloud_centreX, .int t_cloud_centreY])), (h_t_cloud_x, .inl (cI, 24, .inl t_cloud_x)), (h_t_cloud_y, .inl (cI, 24, .inl t_cloud_y))] sz) o_r [(h_t, .inr (11, [.ref h_t_cloud, .ref h_t_reader, .ref h_t_hull, .ref h_t_near, .ref h_t_firstTie, .ref h_t_reducer, .ref h_t_chooser, .ref h_t_pair, .ref h_t_divider, .ref h_t_depths, .ref h_t_spot])), (h_t_cloud, .inr (0, [.ref h_t_cloud_x, .ref h_t_cloud_y, .ref h_t_cloud_colour, .ref h_t_cloud_load, .int t_cloud_size, .int t_cloud_centreX, .int t_cloud_centreY])), (h_t_cloud_x, .inl (cI, 24, .inl o_t_cloud_x)), (h_t_cloud_y, .inl (cI, 24, .inl o_t_cloud_y))]) 0 0 (va_A [(h_t, .inr (11, [.ref h_t_cloud, .ref h_t_reader, .ref h_t_hull, .ref h_t_near, .ref h_t_firstTie, .ref h_t_reducer, .ref h_t_chooser, .ref h_t_pair, .ref h_t_divider, .ref h_t_depths, .ref h_t_spot])), (h_t_cloud, .inr (0, [.ref h_t_cloud_x, .ref h_t_cloud_y, .ref h_t_cloud_colour, .ref h_t_cloud_load, .int t_cloud_size, .int t_cloud_centreX, .int t_cloud_centreY])), (h_t_cloud_x, .inl (cI, 24, .inl t_cloud_x)), (h_t_cloud_y, .inl (cI, 24, .inl t_cloud_y))] sz) := by
  refine Met.ofW (cc := cX11_moves) (maxL := 5) (ret := (some .int)) (by decide) rfl ?_
  intro p e s m args below meth c s₁ B hml hv
  obtain ⟨rfl, hsz, hP, hK, hD0, hT⟩ := hv
  have hx := B.exec
  have hb := B.bytes
  have hr := B.returns
  have hown : s.vm.findClass RX11 = some m.cls := findClass_of_methodNamed B.named
  have hlocks := B.notSynchronized
  have hts := TB.use hT ([.ref h_t, .int a1, .int a2, .int a3] : List Value).toArray
  subst hsz
  have hD := hD0.self (sz := s.heap.size)
  generalize hAe : va_A [(h_t, .inr (11, [.ref h_t_cloud, .ref h_t_reader, .ref h_t_hull, .ref h_t_near, .ref h_t_firstTie, .ref h_t_reducer, .ref h_t_chooser, .ref h_t_pair, .ref h_t_divider, .ref h_t_depths, .ref h_t_spot])), (h_t_cloud, .inr (0, [.ref h_t_cloud_x, .ref h_t_cloud_y, .ref h_t_cloud_colour, .ref h_t_cloud_load, .int t_cloud_size, .int t_cloud_centreX, .int t_cloud_centreY])), (h_t_cloud_x, .inl (cI, 24, .inl t_cloud_x)), (h_t_cloud_y, .inl (cI, 24, .inl t_cloud_y))] s.heap.size = A at hD ⊢
  have hA : ∀ q : Nat, s.heap.size ≤ q → A q := fun q h => by rw [← hAe]; exact Or.inr h
  clear hAe hD0
  have hl := lv_entry ([.ref h_t, .int a1, .int a2, .int a3]) (n := 5) (Nat.le_of_ble_eq_true rfl)
  rw [lg_entry_eq]
  generalize (lg_sl ([.ref h_t, .int a1, .int a2, .int a3]) ++ List.replicate (5 - (lg_sl ([.ref h_t, .int a1, .int a2, .int a3])).length) Slot.unset).toArray = ls at hl ⊢
  have hl : lv_has ls 5 [(0, .ref h_t), (1, .int a1), (2, .int a2), (3, .int a3)] := hl
  have hF : 1 ≤ (headSpec [Cond.code yX11_moves cX11_moves 5 (some .int)] ({ frames := 1, cells := 0, slots := 0, locals := 23 })).room.frames := Nat.le_refl _
  have hLo : 23 ≤ (headSpec [Cond.code yX11_moves cX11_moves 5 (some .int)] ({ frames := 1, cells := 0, slots := 0, locals := 23 })).room.locals := Nat.le_refl _
  have C0 : Sx p (headSpec [Cond.code yX11_moves cX11_moves 5 (some .int)] ({ frames := 1, cells := 0, slots := 0, locals := 23 })).room s m ([.ref h_t, .int a1, .int a2, .int a3] : List Value).toArray c cX11_moves 5 RX11 A dC dI cI cL cB 1 23 := ⟨hx, hb, hml, hown, hts, hK, hT, hA, hF, hLo⟩
  refine startH (A := A) hP (fun H locs hP hS => ?_)
  rw [fX11_moves] at hf
  refine lv_aload_n hx hb dX11_moves_0 rfl (lv_at hl 0 rfl) ?_
  refine va_get (D := (dC, dI)) (ci := 11) (v := .ref h_t_cloud) (C := RX11) (T := TX11) (N := 11) hx hb hts in_X11 hown hK hP 0 rfl rfl 0 (Nat.le_of_ble_eq_true rfl) (hts _ qf_X11_12) (fun _ h9 => h9) rfl dX11_moves_1 ?_
  refine lv_iload_n hx hb dX11_moves_4 rfl (lv_at hl 1 rfl) ?_
  obtain ⟨r_1, hq_2, hf⟩ := b1_some hf
  refine xci (wr := [(h_t, .inr (11, [.ref h_t_cloud, .ref h_t_reader, .ref h_t_hull, .ref h_t_near, .ref h_t_firstTie, .ref h_t_reducer, .ref h_t_chooser, .ref h_t_pair, .ref h_t_divider, .ref h_t_depths, .ref h_t_spot])), (h_t_cloud_x, .inl (cI, 24, .inl t_cloud_x)), (h_t_cloud_y, .inl (cI, 24, .inl t_cloud_y))]) (w2 := [(h_t, .inr (11, [.ref h_t_cloud, .ref h_t_reader, .ref h_t_hull, .ref h_t_near, .ref h_t_firstTie, .ref h_t_reducer, .ref h_t_chooser, .ref h_t_pair, .ref h_t_divider, .ref h_t_depths, .ref h_t_spot])), (h_t_cloud, .inr (0, [.ref h_t_cloud_x, .ref h_t_cloud_y, .ref h_t_cloud_colour, .ref h_t_cloud_load, .int t_cloud_size, .int t_cloud_centreX, .int t_cloud_centreY])), (h_t_cloud_x, .inl (cI, 24, .inl t_cloud_x)), (h_t_cloud_y, .inl (cI, 24, .inl t_cloud_y))]) (va_runV (As := [.int a1]) (rest := []) ⟨hx, hb, hml, hown, hts⟩ (mtX0_has l dC dI cI cL cB K h_t_cloud h_t_cloud_x h_t_cloud_y h_t_cloud_colour h_t_cloud_load H.size t_cloud_size t_cloud_centreX t_cloud_centreY a1 r_1 hq_2) (cwV 1 hts gv_X11_128 rfl rfl rfl hdV_X0_has ⟨Nat.le_trans (Nat.le_of_ble_eq_true rfl) hF, Nat.le_trans (Nat.le_of_ble_eq_true rfl) hLo⟩) (cPreV hK hP hD hT [1] rfl rfl (ci := 0) (q0 := 0) rfl rfl) rfl rfl hl.1 rfl (lv_room (Nat.le_of_ble_eq_true rfl)) dX11_moves_5 ⟨Nat.zero_le _, Nat.zero_le _⟩) hP hD hS hA [1] [0, 2, 3] [0, 3, 1, 2] rfl rfl rfl rfl rfl rfl (fun H locs hP hD hS => ?_)
  refine lv_if_eq (tgt := 19) hx hb dX11_moves_8 (by decide) (fun hc => ?_) (fun hc => ?_)
  · replace hf := it_t (hc) hf
    refine lv_bipush (v := (-2 : Int32)) hx hb dX11_moves_19 (by decide) ?_
    obtain ⟨rfl, rfl, rfl⟩ := o3 hf
    exact W.iret hx hb hr (fun t ht hW => ⟨⟨_, (), rfl, rfl, by rw [ht]; exact hP, hD⟩, hS.F ht⟩) hS.2.2 dX11_moves_21
  · replace hf := it_f (hc) hf
    refine lv_iload_n hx hb dX11_moves_11 rfl (lv_at hl 2 rfl) ?_
    refine lv_iload_n hx hb dX11_moves_12 rfl (lv_at hl 3 rfl) ?_
    obtain ⟨r_3, hq_4, hf⟩ := b1_some hf
    refine xci (wr := [(h_t, .inr (11, [.ref h_t_cloud, .ref h_t_reader, .ref h_t_hull, .ref h_t_near, .ref h_t_firstTie, .ref h_t_reducer, .ref h_t_chooser, .ref h_t_pair, .ref h_t_divider, .ref h_t_depths, .ref h_t_spot])), (h_t_cloud, .inr (0, [.ref h_t_cloud_x, .ref h_t_cloud_y, .ref h_t_cloud_colour, .ref h_t_cloud_load, .int t_cloud_size, .int t_cloud_centreX, .int t_cloud_centreY])), (h_t_cloud_x, .inl (cI, 24, .inl t_cloud_x)), (h_t_cloud_y, .inl (cI, 24, .inl t_cloud_y))]) (w2 := [(h_t, .inr (11, [.ref h_t_cloud, .ref h_t_reader, .ref h_t_hull, .ref h_t_near, .ref h_t_firstTie, .ref h_t_reducer, .ref h_t_chooser, .ref h_t_pair, .ref h_t_divider, .ref h_t_depths, .ref h_t_spot])), (h_t_cloud, .inr (0, [.ref h_t_cloud_x, .ref h_t_cloud_y, .ref h_t_cloud_colour, .ref h_t_cloud_load, .int t_cloud_size, .int t_cloud_centreX, .int t_cloud_centreY])), (h_t_cloud_x, .inl (cI, 24, .inl t_cloud_x)), (h_t_cloud_y, .inl (cI, 24, .inl t_cloud_y))]) (va_runS (As := [.int a2, .int a3]) (rest := []) ⟨hx, hb, hml, hown, hts⟩ (mtX11_isPlace l dC dI cI cL cB K H.size a2 a3 r_3 hq_4) (va_cwS 2 hts gs_X11_169 rfl rfl rfl hdS_X11_isPlace ⟨Nat.le_trans (Nat.le_of_ble_eq_true rfl) hF, Nat.le_trans (Nat.le_of_ble_eq_true rfl) hLo⟩) (cPreS hK hP hD hT [] rfl rfl) rfl rfl hl.1 rfl (lv_room (Nat.le_of_ble_eq_true rfl)) dX11_moves_13 ⟨Nat.zero_le _, Nat.zero_le _⟩) hP hD hS hA [] [0, 1, 2, 3] [0, 1, 2, 3] rfl rfl rfl rfl rfl rfl (fun H locs hP hD hS => ?_)
    refine lv_if_ne (tgt := 22) hx hb dX11_moves_16 (by decide) (fun hc => ?_) (fun hc => ?_)
    · replace hf := it_f (hc) hf
      refine lv_aload_n hx hb dX11_moves_22 rfl (lv_at hl 0 rfl) ?_
      refine va_get (D := (dC, dI)) (ci := 11) (v := .ref h_t_cloud) (C := RX11) (T := TX11) (N := 11) hx hb hts in_X11 hown hK hP 0 rfl rfl 0 (Nat.le_of_ble_eq_true rfl) (hts _ qf_X11_12) (fun _ h9 => h9) rfl dX11_moves_23 ?_
      refine lv_iload_n hx hb dX11_moves_26 rfl (lv_at hl 1 rfl) ?_
      refine lv_iload_n hx hb dX11_moves_27 rfl (lv_at hl 2 rfl) ?_
      refine lv_iload_n hx hb dX11_moves_28 rfl (lv_at hl 3 rfl) ?_
      obtain ⟨r_5, hq_6, hf⟩ := b1_some hf
      refine xci (wr := [(h_t, .inr (11, [.ref h_t_cloud, .ref h_t_reader, .ref h_t_hull, .ref h_t_near, .ref h_t_firstTie, .ref h_t_reducer, .ref h_t_chooser, .ref h_t_pair, .ref h_t_divider, .ref h_t_depths, .ref h_t_spot]))]) (w2 := [(h_t, .inr (11, [.ref h_t_cloud, .ref h_t_reader, .ref h_t_hull, .ref h_t_near, .ref h_t_firstTie, .ref h_t_reducer, .ref h_t_chooser, .ref h_t_pair, .ref h_t_divider, .ref h_t_depths, .ref h_t_spot])), (h_t_cloud, .inr (0, [.ref h_t_cloud_x, .ref h_t_cloud_y, .ref h_t_cloud_colour, .ref h_t_cloud_load, .int t_cloud_size, .int t_cloud_centreX, .int t_cloud_centreY])), (h_t_cloud_x, .inl (cI, 24, .inl t_cloud_x)), (h_t_cloud_y, .inl (cI, 24, .inl t_cloud_y))]) (va_runV (As := [.int a1, .int a2, .int a3]) (rest := []) ⟨hx, hb, hml, hown, hts⟩ (mtX0_isAt l dC dI cI cL cB K h_t_cloud h_t_cloud_x h_t_cloud_y h_t_cloud_colour h_t_cloud_load H.size t_cloud_size t_cloud_centreX t_cloud_centreY t_cloud_x t_cloud_y a1 a2 a3 r_5 hq_6) (cwV 3 hts gv_X11_380 rfl rfl rfl hdV_X0_isAt ⟨Nat.le_trans (Nat.le_of_ble_eq_true rfl) hF, Nat.le_trans (Nat.le_of_ble_eq_true rfl) hLo⟩) (cPreV hK hP hD hT [1, 2, 3] rfl rfl (ci := 0) (q0 := 0) rfl rfl) rfl rfl hl.1 rfl (lv_room (Nat.le_of_ble_eq_true rfl)) dX11_moves_29 ⟨Nat.zero_le _, Nat.zero_le _⟩) hP hD hS hA [1, 2, 3] [0] [0, 1, 2, 3] rfl rfl rfl rfl rfl rfl (fun H locs hP hD hS => ?_)
      refine lv_istore (lv' := [(4, .int r_5), (0, .ref h_t), (1, .int a1), (2, .int a2), (3, .int a3)]) hx hb dX11_moves_32 hl (Nat.le_of_ble_eq_true rfl) rfl (fun ls hl => ?_)
      refine lv_aload_n hx hb dX11_moves_34 rfl (lv_at hl 1 rfl) ?_
      refine va_get (D := (dC, dI)) (ci := 11) (v := .ref h_t_cloud) (C := RX11) (T := TX11) (N := 11) hx hb hts in_X11 hown hK hP 0 rfl rfl 0 (Nat.le_of_ble_eq_true rfl) (hts _ qf_X11_12) (fun _ h9 => h9) rfl dX11_moves_35 ?_
      refine va_get (D := (dC, dI)) (ci := 0) (v := .ref h_t_cloud_x) (C := RX0) (T := TX0) (N := 7) hx hb hts in_X0 hown hK hP 1 rfl rfl 0 (Nat.le_of_ble_eq_true rfl) (hts _ qf_X11_133) (fun _ h9 => h9) rfl dX11_moves_38 ?_
      refine lv_iload_n hx hb dX11_moves_41 rfl (lv_at hl 2 rfl) ?_
      refine lv_iload_n hx hb dX11_moves_42 rfl (lv_at hl 3 rfl) ?_
      obtain ⟨hg_7, hf⟩ := gd_some hf
      obtain ⟨t_cloud_x_8, et_cloud_x_8⟩ : ∃ y : Nat → Int32, y = upd t_cloud_x a1.toNatClampNeg a2 := ⟨_, rfl⟩
      replace hf := xl_at hf et_cloud_x_8
      refine xiast (w2 := [(h_t, .inr (11, [.ref h_t_cloud, .ref h_t_reader, .ref h_t_hull, .ref h_t_near, .ref h_t_firstTie, .ref h_t_reducer, .ref h_t_chooser, .ref h_t_pair, .ref h_t_divider, .ref h_t_depths, .ref h_t_spot])), (h_t_cloud, .inr (0, [.ref h_t_cloud_x, .ref h_t_cloud_y, .ref h_t_cloud_colour, .ref h_t_cloud_load, .int t_cloud_size, .int t_cloud_centreX, .int t_cloud_centreY])), (h_t_cloud_x, .inl (cI, 24, .inl t_cloud_x_8)), (h_t_cloud_y, .inl (cI, 24, .inl t_cloud_y))]) hx hb hK hP hD hS 2 0 rfl rfl (inb_in hg_7) et_cloud_x_8 rfl dX11_moves_43 (fun H locs hP hD hS => ?_)
      refine lv_aload_n hx hb dX11_moves_44 rfl (lv_at hl 1 rfl) ?_
      refine va_get (D := (dC, dI)) (ci := 11) (v := .ref h_t_cloud) (C := RX11) (T := TX11) (N := 11) hx hb hts in_X11 hown hK hP 0 rfl rfl 0 (Nat.le_of_ble_eq_true rfl) (hts _ qf_X11_12) (fun _ h9 => h9) rfl dX11_moves_45 ?_
      refine va_get (D := (dC, dI)) (ci := 0) (v := .ref h_t_cloud_y) (C := RX0) (T := TX0) (N := 7) hx hb hts in_X0 hown hK hP 1 rfl rfl 1 (Nat.le_of_ble_eq_true rfl) (hts _ qf_X11_137) (fun _ h9 => h9) rfl dX11_moves_48 ?_
      refine lv_iload_n hx hb dX11_moves_51 rfl (lv_at hl 2 rfl) ?_
      refine lv_iload_n hx hb dX11_moves_52 rfl (lv_at hl 4 rfl) ?_
      obtain ⟨hg_9, hf⟩ := gd_some hf
      obtain ⟨t_cloud_y_10, et_cloud_y_10⟩ : ∃ y : Nat → Int32, y = upd t_cloud_y a1.toNatClampNeg a3 := ⟨_, rfl⟩
      replace hf := xl_at hf et_cloud_y_10
      refine xiast (w2 := [(h_t, .inr (11, [.ref h_t_cloud, .ref h_t_reader, .ref h_t_hull, .ref h_t_near, .ref h_t_firstTie, .ref h_t_reducer, .ref h_t_chooser, .ref h_t_pair, .ref h_t_divider, .ref h_t_depths, .ref h_t_spot])), (h_t_cloud, .inr (0, [.ref h_t_cloud_x, .ref h_t_cloud_y, .ref h_t_cloud_colour, .ref h_t_cloud_load, .int t_cloud_size, .int t_cloud_centreX, .int t_cloud_centreY])), (h_t_cloud_x, .inl (cI, 24, .inl t_cloud_x_8)), (h_t_cloud_y, .inl (cI, 24, .inl t_cloud_y_10))]) hx hb hK hP hD hS 3 0 rfl rfl (inb_in hg_9) et_cloud_y_10 rfl dX11_moves_53 (fun H locs hP hD hS => ?_)
      refine lv_iload hx hb dX11_moves_54 (lv_at hl 0 rfl) ?_
      refine lv_if_eq (tgt := 63) hx hb dX11_moves_56 (by decide) (fun hc => ?_) (fun hc => ?_)
      · replace hf := it_t (hc) hf
        refine lv_iconst (v := (1 : Int32)) hx hb dX11_moves_63 (by decide) ?_
        obtain ⟨rfl, rfl, rfl⟩ := o3 hf
        exact W.iret hx hb hr (fun t ht hW => ⟨⟨_, (), rfl, rfl, by rw [ht]; exact hP, hD⟩, hS.F ht⟩) hS.2.2 dX11_moves_64
      · replace hf := it_f (hc) hf
        refine lv_iconst (v := (0 : Int32)) hx hb dX11_moves_59 (by decide) ?_
        refine lv_goto (tgt := 64) hx hb dX11_moves_60 (by decide) ?_
        obtain ⟨rfl, rfl, rfl⟩ := o3 hf
        exact W.iret hx hb hr (fun t ht hW => ⟨⟨_, (), rfl, rfl, by rw [ht]; exact hP, hD⟩, hS.F ht⟩) hS.2.2 dX11_moves_64
    · replace hf := it_t (hc) hf
      refine lv_bipush (v := (-2 : Int32)) hx hb dX11_moves_19 (by decide) ?_
      obtain ⟨rfl, rfl, rfl⟩ := o3 hf
      exact W.iret hx hb hr (fun t ht hW => ⟨⟨_, (), rfl, rfl, by rw [ht]; exact hP, hD⟩, hS.F ht⟩) hS.2.2 dX11_moves_21
theorem dX11_paints_0 : decode cX11_paints 0 = .ok (.aload_n 0, 1) := by decide +kernel
theorem dX11_paints_1 : decode cX11_paints 1 = .ok (.getfield 12, 3) := by decide +kernel
theorem dX11_paints_4 : decode cX11_paints 4 = .ok (.iload_n 1, 1) := by decide +kernel
theorem dX11_paints_5 : decode cX11_paints 5 = .ok (.invokevirtual 128, 3) := by decide +kernel
theorem dX11_paints_8 : decode cX11_paints 8 = .ok (.ifCond .eq 10, 3) := by decide +kernel
theorem dX11_paints_11 : decode cX11_paints 11 = .ok (.iload_n 2, 1) := by decide +kernel
theorem dX11_paints_12 : decode cX11_paints 12 = .ok (.invokestatic 260, 3) := by decide +kernel
theorem dX11_paints_15 : decode cX11_paints 15 = .ok (.ifCond .ne 6, 3) := by decide +kernel
theorem dX11_paints_18 : decode cX11_paints 18 = .ok (.bipush (-2), 2) := by decide +kernel
theorem dX11_paints_20 : decode cX11_paints 20 = .ok (.ireturn, 1) := by decide +kernel
theorem dX11_paints_21 : decode cX11_paints 21 = .ok (.aload_n 0, 1) := by decide +kernel
theorem dX11_paints_22 : decode cX11_paints 22 = .ok (.getfield 12, 3) := by decide +kernel
theorem dX11_paints_25 : decode cX11_paints 25 = .ok (.getfield 140, 3) := by decide +kernel
theorem dX11_paints_28 : decode cX11_paints 28 = .ok (.iload_n 1, 1) := by decide +kernel
theorem dX11_paints_29 : decode cX11_paints 29 = .ok (.iaload, 1) := by decide +kernel
theorem dX11_paints_30 : decode cX11_paints 30 = .ok (.istore_n 3, 1) := by decide +kernel
theorem dX11_paints_31 : decode cX11_paints 31 = .ok (.aload_n 0, 1) := by decide +kernel
theorem dX11_paints_32 : decode cX11_paints 32 = .ok (.getfield 12, 3) := by decide +kernel
theorem dX11_paints_35 : decode cX11_paints 35 = .ok (.getfield 140, 3) := by decide +kernel
theorem dX11_paints_38 : decode cX11_paints 38 = .ok (.iload_n 1, 1) := by decide +kernel
theorem dX11_paints_39 : decode cX11_paints 39 = .ok (.iload_n 2, 1) := by decide +kernel
theorem dX11_paints_40 : decode cX11_paints 40 = .ok (.iastore, 1) := by decide +kernel
theorem dX11_paints_41 : decode cX11_paints 41 = .ok (.iload_n 3, 1) := by decide +kernel
theorem dX11_paints_42 : decode cX11_paints 42 = .ok (.ireturn, 1) := by decide +kernel
set_option maxRecDepth 100000 in
set_option maxHeartbeats 4000000 in
theorem mtX11_paints (l : Launch) (dC : Nat → ClassId) (dI : Nat → Nat → Nat) (cI cL cB : ClassId) (K : Nat) (h_t h_t_cloud h_t_reader h_t_hull h_t_near h_t_firstTie h_t_reducer h_t_chooser h_t_pair h_t_divider h_t_depths h_t_spot h_t_cloud_x h_t_cloud_y h_t_cloud_colour h_t_cloud_load : Nat) (sz : Nat) (t_cloud_size : Int32) (t_cloud_centreX : Int32) (t_cloud_centreY : Int32) (t_cloud_colour : Nat → Int32) (a1 : Int32) (a2 : Int32) (o_r : Int32) (o_t_cloud_colour : Nat → Int32) (hf : fX11_paints K t_cloud_size t_cloud_colour a1 a2 = some (o_r, o_t_cloud_colour)) : Met l yX11_paints [Cond.code yX11_paints cX11_paints 4 (some .int)] ({ frames := 1, cells := 0, slots := 0, locals := 21 }) (va_Pc [.ref h_t, .int a1, .int a2] (cPre dC dI cI cL cB sz [(h_t, .inr (11, [.ref h_t_cloud, .ref h_t_reader, .ref h_t_hull, .ref h_t_near, .ref h_t_firstTie, .ref h_t_reducer, .ref h_t_chooser, .ref h_t_pair, .ref h_t_divider, .ref h_t_depths, .ref h_t_spot])), (h_t_cloud, .inr (0, [.ref h_t_cloud_x, .ref h_t_cloud_y, .ref h_t_cloud_colour, .ref h_t_cloud_load, .int t_cloud_size, .int t_cloud_centreX, .int t_cloud_centreY])), (h_t_cloud_colour, .inl (cI, 24, .inl t_cloud_colour))])) (cQi dC dI (va_A [(h_t, .inr (11, [.ref h_t_cloud, .ref h_t_reader, .ref h_t_hull, .ref h_t_near, .ref h_t_firstTie, .ref h_t_reducer, .ref h_t_chooser, .ref h_t_pair, .ref h_t_divider, .ref h_t_depths, .ref h_t_spot])), (h_t_cloud, .inr (0, [.ref h_t_cloud_x, .ref h_t_cloud_y, .ref h_t_cloud_colour, .ref h_t_cloud_load, .int t_cloud_size, .int t_cloud_centreX, .int t_cloud_centreY])), (h_t_cloud_colour, .inl (cI, 24, .inl t_cloud_colour))] sz) o_r [(h_t, .inr (11, [.ref h_t_cloud, .ref h_t_reader, .ref h_t_hull, .ref h_t_near, .ref h_t_firstTie, .ref h_t_reducer, .ref h_t_chooser, .ref h_t_pair, .ref h_t_divider, .ref h_t_depths, .ref h_t_spot])), (h_t_cloud, .inr (0, [.ref h_t_cloud_x, .ref h_t_cloud_y, .ref h_t_cloud_colour, .ref h_t_cloud_load, .int t_cloud_size, .int t_cloud_centreX, .int t_cloud_centreY])), (h_t_cloud_colour, .inl (cI, 24, .inl o_t_cloud_colour))]) 0 0 (va_A [(h_t, .inr (11, [.ref h_t_cloud, .ref h_t_reader, .ref h_t_hull, .ref h_t_near, .ref h_t_firstTie, .ref h_t_reducer, .ref h_t_chooser, .ref h_t_pair, .ref h_t_divider, .ref h_t_depths, .ref h_t_spot])), (h_t_cloud, .inr (0, [.ref h_t_cloud_x, .ref h_t_cloud_y, .ref h_t_cloud_colour, .ref h_t_cloud_load, .int t_cloud_size, .int t_cloud_centreX, .int t_cloud_centreY])), (h_t_cloud_colour, .inl (cI, 24, .inl t_cloud_colour))] sz) := by
  refine Met.ofW (cc := cX11_paints) (maxL := 4) (ret := (some .int)) (by decide) rfl ?_
  intro p e s m args below meth c s₁ B hml hv
  obtain ⟨rfl, hsz, hP, hK, hD0, hT⟩ := hv
  have hx := B.exec
  have hb := B.bytes
  have hr := B.returns
  have hown : s.vm.findClass RX11 = some m.cls := findClass_of_methodNamed B.named
  have hlocks := B.notSynchronized
  have hts := TB.use hT ([.ref h_t, .int a1, .int a2] : List Value).toArray
  subst hsz
  have hD := hD0.self (sz := s.heap.size)
  generalize hAe : va_A [(h_t, .inr (11, [.ref h_t_cloud, .ref h_t_reader, .ref h_t_hull, .ref h_t_near, .ref h_t_firstTie, .ref h_t_reducer, .ref h_t_chooser, .ref h_t_pair, .ref h_t_divider, .ref h_t_depths, .ref h_t_spot])), (h_t_cloud, .inr (0, [.ref h_t_cloud_x, .ref h_t_cloud_y, .ref h_t_cloud_colour, .ref h_t_cloud_load, .int t_cloud_size, .int t_cloud_centreX, .int t_cloud_centreY])), (h_t_cloud_colour, .inl (cI, 24, .inl t_cloud_colour))] s.heap.size = A at hD ⊢
  have hA : ∀ q : Nat, s.heap.size ≤ q → A q := fun q h => by rw [← hAe]; exact Or.inr h
  clear hAe hD0
  have hl := lv_entry ([.ref h_t, .int a1, .int a2]) (n := 4) (Nat.le_of_ble_eq_true rfl)
  rw [lg_entry_eq]
  generalize (lg_sl ([.ref h_t, .int a1, .int a2]) ++ List.replicate (4 - (lg_sl ([.ref h_t, .int a1, .int a2])).length) Slot.unset).toArray = ls at hl ⊢
  have hl : lv_has ls 4 [(0, .ref h_t), (1, .int a1), (2, .int a2)] := hl
  have hF : 1 ≤ (headSpec [Cond.code yX11_paints cX11_paints 4 (some .int)] ({ frames := 1, cells := 0, slots := 0, locals := 21 })).room.frames := Nat.le_refl _
  have hLo : 21 ≤ (headSpec [Cond.code yX11_paints cX11_paints 4 (some .int)] ({ frames := 1, cells := 0, slots := 0, locals := 21 })).room.locals := Nat.le_refl _
  have C0 : Sx p (headSpec [Cond.code yX11_paints cX11_paints 4 (some .int)] ({ frames := 1, cells := 0, slots := 0, locals := 21 })).room s m ([.ref h_t, .int a1, .int a2] : List Value).toArray c cX11_paints 4 RX11 A dC dI cI cL cB 1 21 := ⟨hx, hb, hml, hown, hts, hK, hT, hA, hF, hLo⟩
  refine startH (A := A) hP (fun H locs hP hS => ?_)
  rw [fX11_paints] at hf
  refine lv_aload_n hx hb dX11_paints_0 rfl (lv_at hl 0 rfl) ?_
  refine va_get (D := (dC, dI)) (ci := 11) (v := .ref h_t_cloud) (C := RX11) (T := TX11) (N := 11) hx hb hts in_X11 hown hK hP 0 rfl rfl 0 (Nat.le_of_ble_eq_true rfl) (hts _ qf_X11_12) (fun _ h9 => h9) rfl dX11_paints_1 ?_
  refine lv_iload_n hx hb dX11_paints_4 rfl (lv_at hl 1 rfl) ?_
  obtain ⟨r_1, hq_2, hf⟩ := b1_some hf
  refine xci (wr := [(h_t, .inr (11, [.ref h_t_cloud, .ref h_t_reader, .ref h_t_hull, .ref h_t_near, .ref h_t_firstTie, .ref h_t_reducer, .ref h_t_chooser, .ref h_t_pair, .ref h_t_divider, .ref h_t_depths, .ref h_t_spot])), (h_t_cloud_colour, .inl (cI, 24, .inl t_cloud_colour))]) (w2 := [(h_t, .inr (11, [.ref h_t_cloud, .ref h_t_reader, .ref h_t_hull, .ref h_t_near, .ref h_t_firstTie, .ref h_t_reducer, .ref h_t_chooser, .ref h_t_pair, .ref h_t_divider, .ref h_t_depths, .ref h_t_spot])), (h_t_cloud, .inr (0, [.ref h_t_cloud_x, .ref h_t_cloud_y, .ref h_t_cloud_colour, .ref h_t_cloud_load, .int t_cloud_size, .int t_cloud_centreX, .int t_cloud_centreY])), (h_t_cloud_colour, .inl (cI, 24, .inl t_cloud_colour))]) (va_runV (As := [.int a1]) (rest := []) ⟨hx, hb, hml, hown, hts⟩ (mtX0_has l dC dI cI cL cB K h_t_cloud h_t_cloud_x h_t_cloud_y h_t_cloud_colour h_t_cloud_load H.size t_cloud_size t_cloud_centreX t_cloud_centreY a1 r_1 hq_2) (cwV 1 hts gv_X11_128 rfl rfl rfl hdV_X0_has ⟨Nat.le_trans (Nat.le_of_ble_eq_true rfl) hF, Nat.le_trans (Nat.le_of_ble_eq_true rfl) hLo⟩) (cPreV hK hP hD hT [1] rfl rfl (ci := 0) (q0 := 0) rfl rfl) rfl rfl hl.1 rfl (lv_room (Nat.le_of_ble_eq_true rfl)) dX11_paints_5 ⟨Nat.zero_le _, Nat.zero_le _⟩) hP hD hS hA [1] [0, 2] [0, 2, 1] rfl rfl rfl rfl rfl rfl (fun H locs hP hD hS => ?_)
  refine lv_if_eq (tgt := 18) hx hb dX11_paints_8 (by decide) (fun hc => ?_) (fun hc => ?_)
  · replace hf := it_t (hc) hf
    refine lv_bipush (v := (-2 : Int32)) hx hb dX11_paints_18 (by decide) ?_
    obtain ⟨rfl, rfl⟩ := o2 hf
    exact W.iret hx hb hr (fun t ht hW => ⟨⟨_, (), rfl, rfl, by rw [ht]; exact hP, hD⟩, hS.F ht⟩) hS.2.2 dX11_paints_20
  · replace hf := it_f (hc) hf
    refine lv_iload_n hx hb dX11_paints_11 rfl (lv_at hl 2 rfl) ?_
    obtain ⟨r_3, hq_4, hf⟩ := b1_some hf
    refine xci (wr := [(h_t, .inr (11, [.ref h_t_cloud, .ref h_t_reader, .ref h_t_hull, .ref h_t_near, .ref h_t_firstTie, .ref h_t_reducer, .ref h_t_chooser, .ref h_t_pair, .ref h_t_divider, .ref h_t_depths, .ref h_t_spot])), (h_t_cloud, .inr (0, [.ref h_t_cloud_x, .ref h_t_cloud_y, .ref h_t_cloud_colour, .ref h_t_cloud_load, .int t_cloud_size, .int t_cloud_centreX, .int t_cloud_centreY])), (h_t_cloud_colour, .inl (cI, 24, .inl t_cloud_colour))]) (w2 := [(h_t, .inr (11, [.ref h_t_cloud, .ref h_t_reader, .ref h_t_hull, .ref h_t_near, .ref h_t_firstTie, .ref h_t_reducer, .ref h_t_chooser, .ref h_t_pair, .ref h_t_divider, .ref h_t_depths, .ref h_t_spot])), (h_t_cloud, .inr (0, [.ref h_t_cloud_x, .ref h_t_cloud_y, .ref h_t_cloud_colour, .ref h_t_cloud_load, .int t_cloud_size, .int t_cloud_centreX, .int t_cloud_centreY])), (h_t_cloud_colour, .inl (cI, 24, .inl t_cloud_colour))]) (va_runS (As := [.int a2]) (rest := []) ⟨hx, hb, hml, hown, hts⟩ (mtX11_isColour l dC dI cI cL cB K H.size a2 r_3 hq_4) (va_cwS 1 hts gs_X11_260 rfl rfl rfl hdS_X11_isColour ⟨Nat.le_trans (Nat.le_of_ble_eq_true rfl) hF, Nat.le_trans (Nat.le_of_ble_eq_true rfl) hLo⟩) (cPreS hK hP hD hT [] rfl rfl) rfl rfl hl.1 rfl (lv_room (Nat.le_of_ble_eq_true rfl)) dX11_paints_12 ⟨Nat.zero_le _, Nat.zero_le _⟩) hP hD hS hA [] [0, 1, 2] [0, 1, 2] rfl rfl rfl rfl rfl rfl (fun H locs hP hD hS => ?_)
    refine lv_if_ne (tgt := 21) hx hb dX11_paints_15 (by decide) (fun hc => ?_) (fun hc => ?_)
    · replace hf := it_f (hc) hf
      refine lv_aload_n hx hb dX11_paints_21 rfl (lv_at hl 0 rfl) ?_
      refine va_get (D := (dC, dI)) (ci := 11) (v := .ref h_t_cloud) (C := RX11) (T := TX11) (N := 11) hx hb hts in_X11 hown hK hP 0 rfl rfl 0 (Nat.le_of_ble_eq_true rfl) (hts _ qf_X11_12) (fun _ h9 => h9) rfl dX11_paints_22 ?_
      refine va_get (D := (dC, dI)) (ci := 0) (v := .ref h_t_cloud_colour) (C := RX0) (T := TX0) (N := 7) hx hb hts in_X0 hown hK hP 1 rfl rfl 2 (Nat.le_of_ble_eq_true rfl) (hts _ qf_X11_140) (fun _ h9 => h9) rfl dX11_paints_25 ?_
      refine lv_iload_n hx hb dX11_paints_28 rfl (lv_at hl 1 rfl) ?_
      obtain ⟨hg_5, hf⟩ := gd_some hf
      refine va_iald hx hb hK hP 2 0 rfl rfl (inb_in hg_5) dX11_paints_29 ?_
      refine lv_topi (fun l3_6 el3_6 => ?_)
      replace hf := xl_at hf el3_6
      refine lv_istore_n (lv' := [(3, .int l3_6), (0, .ref h_t), (1, .int a1), (2, .int a2)]) hx hb dX11_paints_30 rfl hl (Nat.le_of_ble_eq_true rfl) rfl (fun ls hl => ?_)
      refine lv_aload_n hx hb dX11_paints_31 rfl (lv_at hl 1 rfl) ?_
      refine va_get (D := (dC, dI)) (ci := 11) (v := .ref h_t_cloud) (C := RX11) (T := TX11) (N := 11) hx hb hts in_X11 hown hK hP 0 rfl rfl 0 (Nat.le_of_ble_eq_true rfl) (hts _ qf_X11_12) (fun _ h9 => h9) rfl dX11_paints_32 ?_
      refine va_get (D := (dC, dI)) (ci := 0) (v := .ref h_t_cloud_colour) (C := RX0) (T := TX0) (N := 7) hx hb hts in_X0 hown hK hP 1 rfl rfl 2 (Nat.le_of_ble_eq_true rfl) (hts _ qf_X11_140) (fun _ h9 => h9) rfl dX11_paints_35 ?_
      refine lv_iload_n hx hb dX11_paints_38 rfl (lv_at hl 2 rfl) ?_
      refine lv_iload_n hx hb dX11_paints_39 rfl (lv_at hl 3 rfl) ?_
      obtain ⟨hg_7, hf⟩ := gd_some hf
      obtain ⟨t_cloud_colour_8, et_cloud_colour_8⟩ : ∃ y : Nat → Int32, y = upd t_cloud_colour a1.toNatClampNeg a2 := ⟨_, rfl⟩
      replace hf := xl_at hf et_cloud_colour_8
      refine xiast (w2 := [(h_t, .inr (11, [.ref h_t_cloud, .ref h_t_reader, .ref h_t_hull, .ref h_t_near, .ref h_t_firstTie, .ref h_t_reducer, .ref h_t_chooser, .ref h_t_pair, .ref h_t_divider, .ref h_t_depths, .ref h_t_spot])), (h_t_cloud, .inr (0, [.ref h_t_cloud_x, .ref h_t_cloud_y, .ref h_t_cloud_colour, .ref h_t_cloud_load, .int t_cloud_size, .int t_cloud_centreX, .int t_cloud_centreY])), (h_t_cloud_colour, .inl (cI, 24, .inl t_cloud_colour_8))]) hx hb hK hP hD hS 2 0 rfl rfl (inb_in hg_7) et_cloud_colour_8 rfl dX11_paints_40 (fun H locs hP hD hS => ?_)
      refine lv_iload_n hx hb dX11_paints_41 rfl (lv_at hl 0 rfl) ?_
      obtain ⟨rfl, rfl⟩ := o2 hf
      exact W.iret hx hb hr (fun t ht hW => ⟨⟨_, (), rfl, rfl, by rw [ht]; exact hP, hD⟩, hS.F ht⟩) hS.2.2 dX11_paints_42
    · replace hf := it_t (hc) hf
      refine lv_bipush (v := (-2 : Int32)) hx hb dX11_paints_18 (by decide) ?_
      obtain ⟨rfl, rfl⟩ := o2 hf
      exact W.iret hx hb hr (fun t ht hW => ⟨⟨_, (), rfl, rfl, by rw [ht]; exact hP, hD⟩, hS.F ht⟩) hS.2.2 dX11_paints_20
theorem dX11_loads_0 : decode cX11_loads 0 = .ok (.aload_n 0, 1) := by decide +kernel
theorem dX11_loads_1 : decode cX11_loads 1 = .ok (.getfield 12, 3) := by decide +kernel
theorem dX11_loads_4 : decode cX11_loads 4 = .ok (.iload_n 1, 1) := by decide +kernel
theorem dX11_loads_5 : decode cX11_loads 5 = .ok (.invokevirtual 128, 3) := by decide +kernel
theorem dX11_loads_8 : decode cX11_loads 8 = .ok (.ifCond .eq 13, 3) := by decide +kernel
theorem dX11_loads_11 : decode cX11_loads 11 = .ok (.iload_n 2, 1) := by decide +kernel
theorem dX11_loads_12 : decode cX11_loads 12 = .ok (.ifCond .lt 9, 3) := by decide +kernel
theorem dX11_loads_15 : decode cX11_loads 15 = .ok (.iload_n 2, 1) := by decide +kernel
theorem dX11_loads_16 : decode cX11_loads 16 = .ok (.bipush 99, 2) := by decide +kernel
theorem dX11_loads_18 : decode cX11_loads 18 = .ok (.if_icmp .le 6, 3) := by decide +kernel
theorem dX11_loads_21 : decode cX11_loads 21 = .ok (.bipush (-2), 2) := by decide +kernel
theorem dX11_loads_23 : decode cX11_loads 23 = .ok (.ireturn, 1) := by decide +kernel
theorem dX11_loads_24 : decode cX11_loads 24 = .ok (.aload_n 0, 1) := by decide +kernel
theorem dX11_loads_25 : decode cX11_loads 25 = .ok (.getfield 12, 3) := by decide +kernel
theorem dX11_loads_28 : decode cX11_loads 28 = .ok (.getfield 143, 3) := by decide +kernel
theorem dX11_loads_31 : decode cX11_loads 31 = .ok (.iload_n 1, 1) := by decide +kernel
theorem dX11_loads_32 : decode cX11_loads 32 = .ok (.iaload, 1) := by decide +kernel
theorem dX11_loads_33 : decode cX11_loads 33 = .ok (.istore_n 3, 1) := by decide +kernel
theorem dX11_loads_34 : decode cX11_loads 34 = .ok (.aload_n 0, 1) := by decide +kernel
theorem dX11_loads_35 : decode cX11_loads 35 = .ok (.getfield 12, 3) := by decide +kernel
theorem dX11_loads_38 : decode cX11_loads 38 = .ok (.getfield 143, 3) := by decide +kernel
theorem dX11_loads_41 : decode cX11_loads 41 = .ok (.iload_n 1, 1) := by decide +kernel
theorem dX11_loads_42 : decode cX11_loads 42 = .ok (.iload_n 2, 1) := by decide +kernel
theorem dX11_loads_43 : decode cX11_loads 43 = .ok (.iastore, 1) := by decide +kernel
theorem dX11_loads_44 : decode cX11_loads 44 = .ok (.iload_n 3, 1) := by decide +kernel
theorem dX11_loads_45 : decode cX11_loads 45 = .ok (.ireturn, 1) := by decide +kernel
set_option maxRecDepth 100000 in
set_option maxHeartbeats 4000000 in
theorem mtX11_loads (l : Launch) (dC : Nat → ClassId) (dI : Nat → Nat → Nat) (cI cL cB : ClassId) (K : Nat) (h_t h_t_cloud h_t_reader h_t_hull h_t_near h_t_firstTie h_t_reducer h_t_chooser h_t_pair h_t_divider h_t_depths h_t_spot h_t_cloud_x h_t_cloud_y h_t_cloud_colour h_t_cloud_load : Nat) (sz : Nat) (t_cloud_size : Int32) (t_cloud_centreX : Int32) (t_cloud_centreY : Int32) (t_cloud_load : Nat → Int32) (a1 : Int32) (a2 : Int32) (o_r : Int32) (o_t_cloud_load : Nat → Int32) (hf : fX11_loads K t_cloud_size t_cloud_load a1 a2 = some (o_r, o_t_cloud_load)) : Met l yX11_loads [Cond.code yX11_loads cX11_loads 4 (some .int)] ({ frames := 1, cells := 0, slots := 0, locals := 21 }) (va_Pc [.ref h_t, .int a1, .int a2] (cPre dC dI cI cL cB sz [(h_t, .inr (11, [.ref h_t_cloud, .ref h_t_reader, .ref h_t_hull, .ref h_t_near, .ref h_t_firstTie, .ref h_t_reducer, .ref h_t_chooser, .ref h_t_pair, .ref h_t_divider, .ref h_t_depths, .ref h_t_spot])), (h_t_cloud, .inr (0, [.ref h_t_cloud_x, .ref h_t_cloud_y, .ref h_t_cloud_colour, .ref h_t_cloud_load, .int t_cloud_size, .int t_cloud_centreX, .int t_cloud_centreY])), (h_t_cloud_load, .inl (cI, 24, .inl t_cloud_load))])) (cQi dC dI (va_A [(h_t, .inr (11, [.ref h_t_cloud, .ref h_t_reader, .ref h_t_hull, .ref h_t_near, .ref h_t_firstTie, .ref h_t_reducer, .ref h_t_chooser, .ref h_t_pair, .ref h_t_divider, .ref h_t_depths, .ref h_t_spot])), (h_t_cloud, .inr (0, [.ref h_t_cloud_x, .ref h_t_cloud_y, .ref h_t_cloud_colour, .ref h_t_cloud_load, .int t_cloud_size, .int t_cloud_centreX, .int t_cloud_centreY])), (h_t_cloud_load, .inl (cI, 24, .inl t_cloud_load))] sz) o_r [(h_t, .inr (11, [.ref h_t_cloud, .ref h_t_reader, .ref h_t_hull, .ref h_t_near, .ref h_t_firstTie, .ref h_t_reducer, .ref h_t_chooser, .ref h_t_pair, .ref h_t_divider, .ref h_t_depths, .ref h_t_spot])), (h_t_cloud, .inr (0, [.ref h_t_cloud_x, .ref h_t_cloud_y, .ref h_t_cloud_colour, .ref h_t_cloud_load, .int t_cloud_size, .int t_cloud_centreX, .int t_cloud_centreY])), (h_t_cloud_load, .inl (cI, 24, .inl o_t_cloud_load))]) 0 0 (va_A [(h_t, .inr (11, [.ref h_t_cloud, .ref h_t_reader, .ref h_t_hull, .ref h_t_near, .ref h_t_firstTie, .ref h_t_reducer, .ref h_t_chooser, .ref h_t_pair, .ref h_t_divider, .ref h_t_depths, .ref h_t_spot])), (h_t_cloud, .inr (0, [.ref h_t_cloud_x, .ref h_t_cloud_y, .ref h_t_cloud_colour, .ref h_t_cloud_load, .int t_cloud_size, .int t_cloud_centreX, .int t_cloud_centreY])), (h_t_cloud_load, .inl (cI, 24, .inl t_cloud_load))] sz) := by
  refine Met.ofW (cc := cX11_loads) (maxL := 4) (ret := (some .int)) (by decide) rfl ?_
  intro p e s m args below meth c s₁ B hml hv
  obtain ⟨rfl, hsz, hP, hK, hD0, hT⟩ := hv
  have hx := B.exec
  have hb := B.bytes
  have hr := B.returns
  have hown : s.vm.findClass RX11 = some m.cls := findClass_of_methodNamed B.named
  have hlocks := B.notSynchronized
  have hts := TB.use hT ([.ref h_t, .int a1, .int a2] : List Value).toArray
  subst hsz
  have hD := hD0.self (sz := s.heap.size)
  generalize hAe : va_A [(h_t, .inr (11, [.ref h_t_cloud, .ref h_t_reader, .ref h_t_hull, .ref h_t_near, .ref h_t_firstTie, .ref h_t_reducer, .ref h_t_chooser, .ref h_t_pair, .ref h_t_divider, .ref h_t_depths, .ref h_t_spot])), (h_t_cloud, .inr (0, [.ref h_t_cloud_x, .ref h_t_cloud_y, .ref h_t_cloud_colour, .ref h_t_cloud_load, .int t_cloud_size, .int t_cloud_centreX, .int t_cloud_centreY])), (h_t_cloud_load, .inl (cI, 24, .inl t_cloud_load))] s.heap.size = A at hD ⊢
  have hA : ∀ q : Nat, s.heap.size ≤ q → A q := fun q h => by rw [← hAe]; exact Or.inr h
  clear hAe hD0
  have hl := lv_entry ([.ref h_t, .int a1, .int a2]) (n := 4) (Nat.le_of_ble_eq_true rfl)
  rw [lg_entry_eq]
  generalize (lg_sl ([.ref h_t, .int a1, .int a2]) ++ List.replicate (4 - (lg_sl ([.ref h_t, .int a1, .int a2])).length) Slot.unset).toArray = ls at hl ⊢
  have hl : lv_has ls 4 [(0, .ref h_t), (1, .int a1), (2, .int a2)] := hl
  have hF : 1 ≤ (headSpec [Cond.code yX11_loads cX11_loads 4 (some .int)] ({ frames := 1, cells := 0, slots := 0, locals := 21 })).room.frames := Nat.le_refl _
  have hLo : 21 ≤ (headSpec [Cond.code yX11_loads cX11_loads 4 (some .int)] ({ frames := 1, cells := 0, slots := 0, locals := 21 })).room.locals := Nat.le_refl _
  have C0 : Sx p (headSpec [Cond.code yX11_loads cX11_loads 4 (some .int)] ({ frames := 1, cells := 0, slots := 0, locals := 21 })).room s m ([.ref h_t, .int a1, .int a2] : List Value).toArray c cX11_loads 4 RX11 A dC dI cI cL cB 1 21 := ⟨hx, hb, hml, hown, hts, hK, hT, hA, hF, hLo⟩
  refine startH (A := A) hP (fun H locs hP hS => ?_)
  rw [fX11_loads] at hf
  refine lv_aload_n hx hb dX11_loads_0 rfl (lv_at hl 0 rfl) ?_
  refine va_get (D := (dC, dI)) (ci := 11) (v := .ref h_t_cloud) (C := RX11) (T := TX11) (N := 11) hx hb hts in_X11 hown hK hP 0 rfl rfl 0 (Nat.le_of_ble_eq_true rfl) (hts _ qf_X11_12) (fun _ h9 => h9) rfl dX11_loads_1 ?_
  refine lv_iload_n hx hb dX11_loads_4 rfl (lv_at hl 1 rfl) ?_
  obtain ⟨r_1, hq_2, hf⟩ := b1_some hf
  refine xci (wr := [(h_t, .inr (11, [.ref h_t_cloud, .ref h_t_reader, .ref h_t_hull, .ref h_t_near, .ref h_t_firstTie, .ref h_t_reducer, .ref h_t_chooser, .ref h_t_pair, .ref h_t_divider, .ref h_t_depths, .ref h_t_spot])), (h_t_cloud_load, .inl (cI, 24, .inl t_cloud_load))]) (w2 := [(h_t, .inr (11, [.ref h_t_cloud, .ref h_t_reader, .ref h_t_hull, .ref h_t_near, .ref h_t_firstTie, .ref h_t_reducer, .ref h_t_chooser, .ref h_t_pair, .ref h_t_divider, .ref h_t_depths, .ref h_t_spot])), (h_t_cloud, .inr (0, [.ref h_t_cloud_x, .ref h_t_cloud_y, .ref h_t_cloud_colour, .ref h_t_cloud_load, .int t_cloud_size, .int t_cloud_centreX, .int t_cloud_centreY])), (h_t_cloud_load, .inl (cI, 24, .inl t_cloud_load))]) (va_runV (As := [.int a1]) (rest := []) ⟨hx, hb, hml, hown, hts⟩ (mtX0_has l dC dI cI cL cB K h_t_cloud h_t_cloud_x h_t_cloud_y h_t_cloud_colour h_t_cloud_load H.size t_cloud_size t_cloud_centreX t_cloud_centreY a1 r_1 hq_2) (cwV 1 hts gv_X11_128 rfl rfl rfl hdV_X0_has ⟨Nat.le_trans (Nat.le_of_ble_eq_true rfl) hF, Nat.le_trans (Nat.le_of_ble_eq_true rfl) hLo⟩) (cPreV hK hP hD hT [1] rfl rfl (ci := 0) (q0 := 0) rfl rfl) rfl rfl hl.1 rfl (lv_room (Nat.le_of_ble_eq_true rfl)) dX11_loads_5 ⟨Nat.zero_le _, Nat.zero_le _⟩) hP hD hS hA [1] [0, 2] [0, 2, 1] rfl rfl rfl rfl rfl rfl (fun H locs hP hD hS => ?_)
  refine lv_if_eq (tgt := 21) hx hb dX11_loads_8 (by decide) (fun hc => ?_) (fun hc => ?_)
  · replace hf := it_t (hc) hf
    refine lv_bipush (v := (-2 : Int32)) hx hb dX11_loads_21 (by decide) ?_
    obtain ⟨rfl, rfl⟩ := o2 hf
    exact W.iret hx hb hr (fun t ht hW => ⟨⟨_, (), rfl, rfl, by rw [ht]; exact hP, hD⟩, hS.F ht⟩) hS.2.2 dX11_loads_23
  · replace hf := it_f (hc) hf
    refine lv_iload_n hx hb dX11_loads_11 rfl (lv_at hl 2 rfl) ?_
    refine lv_if_lt (tgt := 21) hx hb dX11_loads_12 (by decide) (fun hc => ?_) (fun hc => ?_)
    · replace hf := it_t (hc) hf
      refine lv_bipush (v := (-2 : Int32)) hx hb dX11_loads_21 (by decide) ?_
      obtain ⟨rfl, rfl⟩ := o2 hf
      exact W.iret hx hb hr (fun t ht hW => ⟨⟨_, (), rfl, rfl, by rw [ht]; exact hP, hD⟩, hS.F ht⟩) hS.2.2 dX11_loads_23
    · replace hf := it_f (hc) hf
      refine lv_iload_n hx hb dX11_loads_15 rfl (lv_at hl 2 rfl) ?_
      refine lv_bipush (v := (99 : Int32)) hx hb dX11_loads_16 (by decide) ?_
      refine lv_icmp_le (tgt := 24) hx hb dX11_loads_18 (by decide) (fun hc => ?_) (fun hc => ?_)
      · replace hf := it_t (hc) hf
        refine lv_aload_n hx hb dX11_loads_24 rfl (lv_at hl 0 rfl) ?_
        refine va_get (D := (dC, dI)) (ci := 11) (v := .ref h_t_cloud) (C := RX11) (T := TX11) (N := 11) hx hb hts in_X11 hown hK hP 0 rfl rfl 0 (Nat.le_of_ble_eq_true rfl) (hts _ qf_X11_12) (fun _ h9 => h9) rfl dX11_loads_25 ?_
        refine va_get (D := (dC, dI)) (ci := 0) (v := .ref h_t_cloud_load) (C := RX0) (T := TX0) (N := 7) hx hb hts in_X0 hown hK hP 1 rfl rfl 3 (Nat.le_of_ble_eq_true rfl) (hts _ qf_X11_143) (fun _ h9 => h9) rfl dX11_loads_28 ?_
        refine lv_iload_n hx hb dX11_loads_31 rfl (lv_at hl 1 rfl) ?_
        obtain ⟨hg_3, hf⟩ := gd_some hf
        refine va_iald hx hb hK hP 2 0 rfl rfl (inb_in hg_3) dX11_loads_32 ?_
        refine lv_topi (fun l3_4 el3_4 => ?_)
        replace hf := xl_at hf el3_4
        refine lv_istore_n (lv' := [(3, .int l3_4), (0, .ref h_t), (1, .int a1), (2, .int a2)]) hx hb dX11_loads_33 rfl hl (Nat.le_of_ble_eq_true rfl) rfl (fun ls hl => ?_)
        refine lv_aload_n hx hb dX11_loads_34 rfl (lv_at hl 1 rfl) ?_
        refine va_get (D := (dC, dI)) (ci := 11) (v := .ref h_t_cloud) (C := RX11) (T := TX11) (N := 11) hx hb hts in_X11 hown hK hP 0 rfl rfl 0 (Nat.le_of_ble_eq_true rfl) (hts _ qf_X11_12) (fun _ h9 => h9) rfl dX11_loads_35 ?_
        refine va_get (D := (dC, dI)) (ci := 0) (v := .ref h_t_cloud_load) (C := RX0) (T := TX0) (N := 7) hx hb hts in_X0 hown hK hP 1 rfl rfl 3 (Nat.le_of_ble_eq_true rfl) (hts _ qf_X11_143) (fun _ h9 => h9) rfl dX11_loads_38 ?_
        refine lv_iload_n hx hb dX11_loads_41 rfl (lv_at hl 2 rfl) ?_
        refine lv_iload_n hx hb dX11_loads_42 rfl (lv_at hl 3 rfl) ?_
        obtain ⟨hg_5, hf⟩ := gd_some hf
        obtain ⟨t_cloud_load_6, et_cloud_load_6⟩ : ∃ y : Nat → Int32, y = upd t_cloud_load a1.toNatClampNeg a2 := ⟨_, rfl⟩
        replace hf := xl_at hf et_cloud_load_6
        refine xiast (w2 := [(h_t, .inr (11, [.ref h_t_cloud, .ref h_t_reader, .ref h_t_hull, .ref h_t_near, .ref h_t_firstTie, .ref h_t_reducer, .ref h_t_chooser, .ref h_t_pair, .ref h_t_divider, .ref h_t_depths, .ref h_t_spot])), (h_t_cloud, .inr (0, [.ref h_t_cloud_x, .ref h_t_cloud_y, .ref h_t_cloud_colour, .ref h_t_cloud_load, .int t_cloud_size, .int t_cloud_centreX, .int t_cloud_centreY])), (h_t_cloud_load, .inl (cI, 24, .inl t_cloud_load_6))]) hx hb hK hP hD hS 2 0 rfl rfl (inb_in hg_5) et_cloud_load_6 rfl dX11_loads_43 (fun H locs hP hD hS => ?_)
        refine lv_iload_n hx hb dX11_loads_44 rfl (lv_at hl 0 rfl) ?_
        obtain ⟨rfl, rfl⟩ := o2 hf
        exact W.iret hx hb hr (fun t ht hW => ⟨⟨_, (), rfl, rfl, by rw [ht]; exact hP, hD⟩, hS.F ht⟩) hS.2.2 dX11_loads_45
      · replace hf := it_f (hc) hf
        refine lv_bipush (v := (-2 : Int32)) hx hb dX11_loads_21 (by decide) ?_
        obtain ⟨rfl, rfl⟩ := o2 hf
        exact W.iret hx hb hr (fun t ht hW => ⟨⟨_, (), rfl, rfl, by rw [ht]; exact hP, hD⟩, hS.F ht⟩) hS.2.2 dX11_loads_23
theorem dX11_centres_0 : decode cX11_centres 0 = .ok (.iload_n 1, 1) := by decide +kernel
theorem dX11_centres_1 : decode cX11_centres 1 = .ok (.iload_n 2, 1) := by decide +kernel
theorem dX11_centres_2 : decode cX11_centres 2 = .ok (.invokestatic 169, 3) := by decide +kernel
theorem dX11_centres_5 : decode cX11_centres 5 = .ok (.ifCond .ne 6, 3) := by decide +kernel
theorem dX11_centres_8 : decode cX11_centres 8 = .ok (.bipush (-2), 2) := by decide +kernel
theorem dX11_centres_10 : decode cX11_centres 10 = .ok (.ireturn, 1) := by decide +kernel
theorem dX11_centres_11 : decode cX11_centres 11 = .ok (.aload_n 0, 1) := by decide +kernel
theorem dX11_centres_12 : decode cX11_centres 12 = .ok (.getfield 12, 3) := by decide +kernel
theorem dX11_centres_15 : decode cX11_centres 15 = .ok (.getfield 146, 3) := by decide +kernel
theorem dX11_centres_18 : decode cX11_centres 18 = .ok (.iload_n 1, 1) := by decide +kernel
theorem dX11_centres_19 : decode cX11_centres 19 = .ok (.if_icmp .ne 18, 3) := by decide +kernel
theorem dX11_centres_22 : decode cX11_centres 22 = .ok (.aload_n 0, 1) := by decide +kernel
theorem dX11_centres_23 : decode cX11_centres 23 = .ok (.getfield 12, 3) := by decide +kernel
theorem dX11_centres_26 : decode cX11_centres 26 = .ok (.getfield 149, 3) := by decide +kernel
theorem dX11_centres_29 : decode cX11_centres 29 = .ok (.iload_n 2, 1) := by decide +kernel
theorem dX11_centres_30 : decode cX11_centres 30 = .ok (.if_icmp .ne 7, 3) := by decide +kernel
theorem dX11_centres_33 : decode cX11_centres 33 = .ok (.iconst 1, 1) := by decide +kernel
theorem dX11_centres_34 : decode cX11_centres 34 = .ok (.goto 4, 3) := by decide +kernel
theorem dX11_centres_37 : decode cX11_centres 37 = .ok (.iconst 0, 1) := by decide +kernel
theorem dX11_centres_38 : decode cX11_centres 38 = .ok (.istore_n 3, 1) := by decide +kernel
theorem dX11_centres_39 : decode cX11_centres 39 = .ok (.aload_n 0, 1) := by decide +kernel
theorem dX11_centres_40 : decode cX11_centres 40 = .ok (.getfield 12, 3) := by decide +kernel
theorem dX11_centres_43 : decode cX11_centres 43 = .ok (.iload_n 1, 1) := by decide +kernel
theorem dX11_centres_44 : decode cX11_centres 44 = .ok (.putfield 146, 3) := by decide +kernel
theorem dX11_centres_47 : decode cX11_centres 47 = .ok (.aload_n 0, 1) := by decide +kernel
theorem dX11_centres_48 : decode cX11_centres 48 = .ok (.getfield 12, 3) := by decide +kernel
theorem dX11_centres_51 : decode cX11_centres 51 = .ok (.iload_n 2, 1) := by decide +kernel
theorem dX11_centres_52 : decode cX11_centres 52 = .ok (.putfield 149, 3) := by decide +kernel
theorem dX11_centres_55 : decode cX11_centres 55 = .ok (.iload_n 3, 1) := by decide +kernel
theorem dX11_centres_56 : decode cX11_centres 56 = .ok (.ifCond .eq 7, 3) := by decide +kernel
theorem dX11_centres_59 : decode cX11_centres 59 = .ok (.iconst 0, 1) := by decide +kernel
theorem dX11_centres_60 : decode cX11_centres 60 = .ok (.goto 4, 3) := by decide +kernel
theorem dX11_centres_63 : decode cX11_centres 63 = .ok (.iconst 1, 1) := by decide +kernel
theorem dX11_centres_64 : decode cX11_centres 64 = .ok (.ireturn, 1) := by decide +kernel
set_option maxRecDepth 100000 in
set_option maxHeartbeats 4000000 in
theorem mtX11_centres (l : Launch) (dC : Nat → ClassId) (dI : Nat → Nat → Nat) (cI cL cB : ClassId) (K : Nat) (h_t h_t_cloud h_t_reader h_t_hull h_t_near h_t_firstTie h_t_reducer h_t_chooser h_t_pair h_t_divider h_t_depths h_t_spot h_t_cloud_x h_t_cloud_y h_t_cloud_colour h_t_cloud_load : Nat) (sz : Nat) (t_cloud_size : Int32) (t_cloud_centreX : Int32) (t_cloud_centreY : Int32) (a1 : Int32) (a2 : Int32) (o_r : Int32) (o_t_cloud_centreX : Int32) (o_t_cloud_centreY : Int32) (hf : fX11_centres K t_cloud_centreX t_cloud_centreY a1 a2 = some (o_r, o_t_cloud_centreX, o_t_cloud_centreY)) : Met l yX11_centres [Cond.code yX11_centres cX11_centres 4 (some .int)] ({ frames := 1, cells := 0, slots := 0, locals := 21 }) (va_Pc [.ref h_t, .int a1, .int a2] (cPre dC dI cI cL cB sz [(h_t, .inr (11, [.ref h_t_cloud, .ref h_t_reader, .ref h_t_hull, .ref h_t_near, .ref h_t_firstTie, .ref h_t_reducer, .ref h_t_chooser, .ref h_t_pair, .ref h_t_divider, .ref h_t_depths, .ref h_t_spot])), (h_t_cloud, .inr (0, [.ref h_t_cloud_x, .ref h_t_cloud_y, .ref h_t_cloud_colour, .ref h_t_cloud_load, .int t_cloud_size, .int t_cloud_centreX, .int t_cloud_centreY]))])) (cQi dC dI (va_A [(h_t, .inr (11, [.ref h_t_cloud, .ref h_t_reader, .ref h_t_hull, .ref h_t_near, .ref h_t_firstTie, .ref h_t_reducer, .ref h_t_chooser, .ref h_t_pair, .ref h_t_divider, .ref h_t_depths, .ref h_t_spot])), (h_t_cloud, .inr (0, [.ref h_t_cloud_x, .ref h_t_cloud_y, .ref h_t_cloud_colour, .ref h_t_cloud_load, .int t_cloud_size, .int t_cloud_centreX, .int t_cloud_centreY]))] sz) o_r [(h_t, .inr (11, [.ref h_t_cloud, .ref h_t_reader, .ref h_t_hull, .ref h_t_near, .ref h_t_firstTie, .ref h_t_reducer, .ref h_t_chooser, .ref h_t_pair, .ref h_t_divider, .ref h_t_depths, .ref h_t_spot])), (h_t_cloud, .inr (0, [.ref h_t_cloud_x, .ref h_t_cloud_y, .ref h_t_cloud_colour, .ref h_t_cloud_load, .int t_cloud_size, .int o_t_cloud_centreX, .int o_t_cloud_centreY]))]) 0 0 (va_A [(h_t, .inr (11, [.ref h_t_cloud, .ref h_t_reader, .ref h_t_hull, .ref h_t_near, .ref h_t_firstTie, .ref h_t_reducer, .ref h_t_chooser, .ref h_t_pair, .ref h_t_divider, .ref h_t_depths, .ref h_t_spot])), (h_t_cloud, .inr (0, [.ref h_t_cloud_x, .ref h_t_cloud_y, .ref h_t_cloud_colour, .ref h_t_cloud_load, .int t_cloud_size, .int t_cloud_centreX, .int t_cloud_centreY]))] sz) := by
  refine Met.ofW (cc := cX11_centres) (maxL := 4) (ret := (some .int)) (by decide) rfl ?_
  intro p e s m args below meth c s₁ B hml hv
  obtain ⟨rfl, hsz, hP, hK, hD0, hT⟩ := hv
  have hx := B.exec
  have hb := B.bytes
  have hr := B.returns
  have hown : s.vm.findClass RX11 = some m.cls := findClass_of_methodNamed B.named
  have hlocks := B.notSynchronized
  have hts := TB.use hT ([.ref h_t, .int a1, .int a2] : List Value).toArray
  subst hsz
  have hD := hD0.self (sz := s.heap.size)
  generalize hAe : va_A [(h_t, .inr (11, [.ref h_t_cloud, .ref h_t_reader, .ref h_t_hull, .ref h_t_near, .ref h_t_firstTie, .ref h_t_reducer, .ref h_t_chooser, .ref h_t_pair, .ref h_t_divider, .ref h_t_depths, .ref h_t_spot])), (h_t_cloud, .inr (0, [.ref h_t_cloud_x, .ref h_t_cloud_y, .ref h_t_cloud_colour, .ref h_t_cloud_load, .int t_cloud_size, .int t_cloud_centreX, .int t_cloud_centreY]))] s.heap.size = A at hD ⊢
  have hA : ∀ q : Nat, s.heap.size ≤ q → A q := fun q h => by rw [← hAe]; exact Or.inr h
  clear hAe hD0
  have hl := lv_entry ([.ref h_t, .int a1, .int a2]) (n := 4) (Nat.le_of_ble_eq_true rfl)
  rw [lg_entry_eq]
  generalize (lg_sl ([.ref h_t, .int a1, .int a2]) ++ List.replicate (4 - (lg_sl ([.ref h_t, .int a1, .int a2])).length) Slot.unset).toArray = ls at hl ⊢
  have hl : lv_has ls 4 [(0, .ref h_t), (1, .int a1), (2, .int a2)] := hl
  have hF : 1 ≤ (headSpec [Cond.code yX11_centres cX11_centres 4 (some .int)] ({ frames := 1, cells := 0, slots := 0, locals := 21 })).room.frames := Nat.le_refl _
  have hLo : 21 ≤ (headSpec [Cond.code yX11_centres cX11_centres 4 (some .int)] ({ frames := 1, cells := 0, slots := 0, locals := 21 })).room.locals := Nat.le_refl _
  have C0 : Sx p (headSpec [Cond.code yX11_centres cX11_centres 4 (some .int)] ({ frames := 1, cells := 0, slots := 0, locals := 21 })).room s m ([.ref h_t, .int a1, .int a2] : List Value).toArray c cX11_centres 4 RX11 A dC dI cI cL cB 1 21 := ⟨hx, hb, hml, hown, hts, hK, hT, hA, hF, hLo⟩
  refine startH (A := A) hP (fun H locs hP hS => ?_)
  rw [fX11_centres] at hf
  refine lv_iload_n hx hb dX11_centres_0 rfl (lv_at hl 1 rfl) ?_
  refine lv_iload_n hx hb dX11_centres_1 rfl (lv_at hl 2 rfl) ?_
  obtain ⟨r_1, hq_2, hf⟩ := b1_some hf
  refine xci (wr := [(h_t, .inr (11, [.ref h_t_cloud, .ref h_t_reader, .ref h_t_hull, .ref h_t_near, .ref h_t_firstTie, .ref h_t_reducer, .ref h_t_chooser, .ref h_t_pair, .ref h_t_divider, .ref h_t_depths, .ref h_t_spot])), (h_t_cloud, .inr (0, [.ref h_t_cloud_x, .ref h_t_cloud_y, .ref h_t_cloud_colour, .ref h_t_cloud_load, .int t_cloud_size, .int t_cloud_centreX, .int t_cloud_centreY]))]) (w2 := [(h_t, .inr (11, [.ref h_t_cloud, .ref h_t_reader, .ref h_t_hull, .ref h_t_near, .ref h_t_firstTie, .ref h_t_reducer, .ref h_t_chooser, .ref h_t_pair, .ref h_t_divider, .ref h_t_depths, .ref h_t_spot])), (h_t_cloud, .inr (0, [.ref h_t_cloud_x, .ref h_t_cloud_y, .ref h_t_cloud_colour, .ref h_t_cloud_load, .int t_cloud_size, .int t_cloud_centreX, .int t_cloud_centreY]))]) (va_runS (As := [.int a1, .int a2]) (rest := []) ⟨hx, hb, hml, hown, hts⟩ (mtX11_isPlace l dC dI cI cL cB K H.size a1 a2 r_1 hq_2) (va_cwS 2 hts gs_X11_169 rfl rfl rfl hdS_X11_isPlace ⟨Nat.le_trans (Nat.le_of_ble_eq_true rfl) hF, Nat.le_trans (Nat.le_of_ble_eq_true rfl) hLo⟩) (cPreS hK hP hD hT [] rfl rfl) rfl rfl hl.1 rfl (lv_room (Nat.le_of_ble_eq_true rfl)) dX11_centres_2 ⟨Nat.zero_le _, Nat.zero_le _⟩) hP hD hS hA [] [0, 1] [0, 1] rfl rfl rfl rfl rfl rfl (fun H locs hP hD hS => ?_)
  refine lv_if_ne (tgt := 11) hx hb dX11_centres_5 (by decide) (fun hc => ?_) (fun hc => ?_)
  · replace hf := it_f (hc) hf
    refine lv_aload_n hx hb dX11_centres_11 rfl (lv_at hl 0 rfl) ?_
    refine va_get (D := (dC, dI)) (ci := 11) (v := .ref h_t_cloud) (C := RX11) (T := TX11) (N := 11) hx hb hts in_X11 hown hK hP 0 rfl rfl 0 (Nat.le_of_ble_eq_true rfl) (hts _ qf_X11_12) (fun _ h9 => h9) rfl dX11_centres_12 ?_
    refine va_get (D := (dC, dI)) (ci := 0) (v := .int t_cloud_centreX) (C := RX0) (T := TX0) (N := 7) hx hb hts in_X0 hown hK hP 1 rfl rfl 5 (Nat.le_of_ble_eq_true rfl) (hts _ qf_X11_146) (fun _ h9 => h9) rfl dX11_centres_15 ?_
    refine lv_iload_n hx hb dX11_centres_18 rfl (lv_at hl 1 rfl) ?_
    obtain ⟨k_4, ek_4, hf⟩ := jn_out hf
    have J_5 : ∀ (s_3 : Int32) (H : Heap) (locs : List Loc) (ls : Array Slot), va_P (dC, dI) vwCl [(h_t, .inr (11, [.ref h_t_cloud, .ref h_t_reader, .ref h_t_hull, .ref h_t_near, .ref h_t_firstTie, .ref h_t_reducer, .ref h_t_chooser, .ref h_t_pair, .ref h_t_divider, .ref h_t_depths, .ref h_t_spot])), (h_t_cloud, .inr (0, [.ref h_t_cloud_x, .ref h_t_cloud_y, .ref h_t_cloud_colour, .ref h_t_cloud_load, .int t_cloud_size, .int t_cloud_centreX, .int t_cloud_centreY]))] H → va_D A [(h_t, .inr (11, [.ref h_t_cloud, .ref h_t_reader, .ref h_t_hull, .ref h_t_near, .ref h_t_firstTie, .ref h_t_reducer, .ref h_t_chooser, .ref h_t_pair, .ref h_t_divider, .ref h_t_depths, .ref h_t_spot])), (h_t_cloud, .inr (0, [.ref h_t_cloud_x, .ref h_t_cloud_y, .ref h_t_cloud_colour, .ref h_t_cloud_load, .int t_cloud_size, .int t_cloud_centreX, .int t_cloud_centreY]))] → va_S A s.heap H locs → lv_has ls 4 [(0, .ref h_t), (1, .int a1), (2, .int a2)] → k_4 s_3 = some (o_r, o_t_cloud_centreX, o_t_cloud_centreY) → W p l e (headSpec [Cond.code yX11_centres cX11_centres 4 (some .int)] ({ frames := 1, cells := 0, slots := 0, locals := 21 })).room s m ([.ref h_t, .int a1, .int a2] : List Value).toArray below meth c H locs 0 0 (MQ below (cQi dC dI A o_r [(h_t, .inr (11, [.ref h_t_cloud, .ref h_t_reader, .ref h_t_hull, .ref h_t_near, .ref h_t_firstTie, .ref h_t_reducer, .ref h_t_chooser, .ref h_t_pair, .ref h_t_divider, .ref h_t_depths, .ref h_t_spot])), (h_t_cloud, .inr (0, [.ref h_t_cloud_x, .ref h_t_cloud_y, .ref h_t_cloud_colour, .ref h_t_cloud_load, .int t_cloud_size, .int o_t_cloud_centreX, .int o_t_cloud_centreY]))]) ([.ref h_t, .int a1, .int a2] : List Value).toArray s 0 0 A) (F0 m 38 ls [.int s_3]) := by
      intro s_3 H locs ls hP hD hS hl hf
      rw [ek_4] at hf
      try dsimp only at hf
      refine lv_istore_n (lv' := [(3, .int s_3), (0, .ref h_t), (1, .int a1), (2, .int a2)]) hx hb dX11_centres_38 rfl hl (Nat.le_of_ble_eq_true rfl) rfl (fun ls hl => ?_)
      refine lv_aload_n hx hb dX11_centres_39 rfl (lv_at hl 1 rfl) ?_
      refine va_get (D := (dC, dI)) (ci := 11) (v := .ref h_t_cloud) (C := RX11) (T := TX11) (N := 11) hx hb hts in_X11 hown hK hP 0 rfl rfl 0 (Nat.le_of_ble_eq_true rfl) (hts _ qf_X11_12) (fun _ h9 => h9) rfl dX11_centres_40 ?_
      refine lv_iload_n hx hb dX11_centres_43 rfl (lv_at hl 2 rfl) ?_
      refine xput (D := (dC, dI)) (ci := 0) (v := .int a1) (C := RX0) (T := TX0) (N := 7) (w2 := [(h_t, .inr (11, [.ref h_t_cloud, .ref h_t_reader, .ref h_t_hull, .ref h_t_near, .ref h_t_firstTie, .ref h_t_reducer, .ref h_t_chooser, .ref h_t_pair, .ref h_t_divider, .ref h_t_depths, .ref h_t_spot])), (h_t_cloud, .inr (0, [.ref h_t_cloud_x, .ref h_t_cloud_y, .ref h_t_cloud_colour, .ref h_t_cloud_load, .int t_cloud_size, .int a1, .int t_cloud_centreY]))]) hx hb hts in_X0 tyX0 tyX0_ok nmX0 hown hK hP hD hS 1 rfl rfl 5 (Nat.le_of_ble_eq_true rfl) (hts _ qf_X11_146) (fun _ h9 => h9) rfl rfl rfl (Nat.le_of_ble_eq_true rfl) rfl dX11_centres_44 (fun H locs hP hD hS => ?_)
      refine lv_aload_n hx hb dX11_centres_47 rfl (lv_at hl 1 rfl) ?_
      refine va_get (D := (dC, dI)) (ci := 11) (v := .ref h_t_cloud) (C := RX11) (T := TX11) (N := 11) hx hb hts in_X11 hown hK hP 0 rfl rfl 0 (Nat.le_of_ble_eq_true rfl) (hts _ qf_X11_12) (fun _ h9 => h9) rfl dX11_centres_48 ?_
      refine lv_iload_n hx hb dX11_centres_51 rfl (lv_at hl 3 rfl) ?_
      refine xput (D := (dC, dI)) (ci := 0) (v := .int a2) (C := RX0) (T := TX0) (N := 7) (w2 := [(h_t, .inr (11, [.ref h_t_cloud, .ref h_t_reader, .ref h_t_hull, .ref h_t_near, .ref h_t_firstTie, .ref h_t_reducer, .ref h_t_chooser, .ref h_t_pair, .ref h_t_divider, .ref h_t_depths, .ref h_t_spot])), (h_t_cloud, .inr (0, [.ref h_t_cloud_x, .ref h_t_cloud_y, .ref h_t_cloud_colour, .ref h_t_cloud_load, .int t_cloud_size, .int a1, .int a2]))]) hx hb hts in_X0 tyX0 tyX0_ok nmX0 hown hK hP hD hS 1 rfl rfl 6 (Nat.le_of_ble_eq_true rfl) (hts _ qf_X11_149) (fun _ h9 => h9) rfl rfl rfl (Nat.le_of_ble_eq_true rfl) rfl dX11_centres_52 (fun H locs hP hD hS => ?_)
      refine lv_iload_n hx hb dX11_centres_55 rfl (lv_at hl 0 rfl) ?_
      refine lv_if_eq (tgt := 63) hx hb dX11_centres_56 (by decide) (fun hc => ?_) (fun hc => ?_)
      · replace hf := it_t (hc) hf
        refine lv_iconst (v := (1 : Int32)) hx hb dX11_centres_63 (by decide) ?_
        obtain ⟨rfl, rfl, rfl⟩ := o3 hf
        exact W.iret hx hb hr (fun t ht hW => ⟨⟨_, (), rfl, rfl, by rw [ht]; exact hP, hD⟩, hS.F ht⟩) hS.2.2 dX11_centres_64
      · replace hf := it_f (hc) hf
        refine lv_iconst (v := (0 : Int32)) hx hb dX11_centres_59 (by decide) ?_
        refine lv_goto (tgt := 64) hx hb dX11_centres_60 (by decide) ?_
        obtain ⟨rfl, rfl, rfl⟩ := o3 hf
        exact W.iret hx hb hr (fun t ht hW => ⟨⟨_, (), rfl, rfl, by rw [ht]; exact hP, hD⟩, hS.F ht⟩) hS.2.2 dX11_centres_64
    obtain ⟨k_6, ek_6, hf⟩ := jn_out hf
    have J_7 : ∀ (H : Heap) (locs : List Loc) (ls : Array Slot), va_P (dC, dI) vwCl [(h_t, .inr (11, [.ref h_t_cloud, .ref h_t_reader, .ref h_t_hull, .ref h_t_near, .ref h_t_firstTie, .ref h_t_reducer, .ref h_t_chooser, .ref h_t_pair, .ref h_t_divider, .ref h_t_depths, .ref h_t_spot])), (h_t_cloud, .inr (0, [.ref h_t_cloud_x, .ref h_t_cloud_y, .ref h_t_cloud_colour, .ref h_t_cloud_load, .int t_cloud_size, .int t_cloud_centreX, .int t_cloud_centreY]))] H → va_D A [(h_t, .inr (11, [.ref h_t_cloud, .ref h_t_reader, .ref h_t_hull, .ref h_t_near, .ref h_t_firstTie, .ref h_t_reducer, .ref h_t_chooser, .ref h_t_pair, .ref h_t_divider, .ref h_t_depths, .ref h_t_spot])), (h_t_cloud, .inr (0, [.ref h_t_cloud_x, .ref h_t_cloud_y, .ref h_t_cloud_colour, .ref h_t_cloud_load, .int t_cloud_size, .int t_cloud_centreX, .int t_cloud_centreY]))] → va_S A s.heap H locs → lv_has ls 4 [(0, .ref h_t), (1, .int a1), (2, .int a2)] → k_6 = some (o_r, o_t_cloud_centreX, o_t_cloud_centreY) → W p l e (headSpec [Cond.code yX11_centres cX11_centres 4 (some .int)] ({ frames := 1, cells := 0, slots := 0, locals := 21 })).room s m ([.ref h_t, .int a1, .int a2] : List Value).toArray below meth c H locs 0 0 (MQ below (cQi dC dI A o_r [(h_t, .inr (11, [.ref h_t_cloud, .ref h_t_reader, .ref h_t_hull, .ref h_t_near, .ref h_t_firstTie, .ref h_t_reducer, .ref h_t_chooser, .ref h_t_pair, .ref h_t_divider, .ref h_t_depths, .ref h_t_spot])), (h_t_cloud, .inr (0, [.ref h_t_cloud_x, .ref h_t_cloud_y, .ref h_t_cloud_colour, .ref h_t_cloud_load, .int t_cloud_size, .int o_t_cloud_centreX, .int o_t_cloud_centreY]))]) ([.ref h_t, .int a1, .int a2] : List Value).toArray s 0 0 A) (F0 m 37 ls []) := by
      intro H locs ls hP hD hS hl hf
      rw [ek_6] at hf
      refine lv_iconst (v := (0 : Int32)) hx hb dX11_centres_37 (by decide) ?_
      exact J_5 (0 : Int32) H locs ls hP hD hS (lv_sub hl [0, 1, 2] rfl) hf
    refine lv_icmp_ne (tgt := 37) hx hb dX11_centres_19 (by decide) (fun hc => ?_) (fun hc => ?_)
    · replace hf := it_f (hc) hf
      exact J_7 H locs ls hP hD hS (lv_sub hl [0, 1, 2] rfl) hf
    · replace hf := it_t (hc) hf
      refine lv_aload_n hx hb dX11_centres_22 rfl (lv_at hl 0 rfl) ?_
      refine va_get (D := (dC, dI)) (ci := 11) (v := .ref h_t_cloud) (C := RX11) (T := TX11) (N := 11) hx hb hts in_X11 hown hK hP 0 rfl rfl 0 (Nat.le_of_ble_eq_true rfl) (hts _ qf_X11_12) (fun _ h9 => h9) rfl dX11_centres_23 ?_
      refine va_get (D := (dC, dI)) (ci := 0) (v := .int t_cloud_centreY) (C := RX0) (T := TX0) (N := 7) hx hb hts in_X0 hown hK hP 1 rfl rfl 6 (Nat.le_of_ble_eq_true rfl) (hts _ qf_X11_149) (fun _ h9 => h9) rfl dX11_centres_26 ?_
      refine lv_iload_n hx hb dX11_centres_29 rfl (lv_at hl 2 rfl) ?_
      refine lv_icmp_ne (tgt := 37) hx hb dX11_centres_30 (by decide) (fun hc => ?_) (fun hc => ?_)
      · replace hf := it_f (hc) hf
        exact J_7 H locs ls hP hD hS (lv_sub hl [0, 1, 2] rfl) hf
      · replace hf := it_t (hc) hf
        refine lv_iconst (v := (1 : Int32)) hx hb dX11_centres_33 (by decide) ?_
        refine lv_goto (tgt := 38) hx hb dX11_centres_34 (by decide) ?_
        exact J_5 (1 : Int32) H locs ls hP hD hS (lv_sub hl [0, 1, 2] rfl) hf
  · replace hf := it_t (hc) hf
    refine lv_bipush (v := (-2 : Int32)) hx hb dX11_centres_8 (by decide) ?_
    obtain ⟨rfl, rfl, rfl⟩ := o3 hf
    exact W.iret hx hb hr (fun t ht hW => ⟨⟨_, (), rfl, rfl, by rw [ht]; exact hP, hD⟩, hS.F ht⟩) hS.2.2 dX11_centres_10
