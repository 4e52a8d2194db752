theorem dX11_radon_0 : decode cX11_radon 0 = .ok (.aload_n 0, 1) := by decide +kernel
theorem dX11_radon_1 : decode cX11_radon 1 = .ok (.getfield 12, 3) := by decide +kernel
theorem dX11_radon_4 : decode cX11_radon 4 = .ok (.iload_n 1, 1) := by decide +kernel
theorem dX11_radon_5 : decode cX11_radon 5 = .ok (.invokevirtual 152, 3) := by decide +kernel
theorem dX11_radon_8 : decode cX11_radon 8 = .ok (.ifCond .eq 18, 3) := by decide +kernel
theorem dX11_radon_11 : decode cX11_radon 11 = .ok (.aload_n 0, 1) := by decide +kernel
theorem dX11_radon_12 : decode cX11_radon 12 = .ok (.getfield 42, 3) := by decide +kernel
theorem dX11_radon_15 : decode cX11_radon 15 = .ok (.aload_n 0, 1) := by decide +kernel
theorem dX11_radon_16 : decode cX11_radon 16 = .ok (.getfield 12, 3) := by decide +kernel
theorem dX11_radon_19 : decode cX11_radon 19 = .ok (.iload_n 1, 1) := by decide +kernel
theorem dX11_radon_20 : decode cX11_radon 20 = .ok (.invokevirtual 212, 3) := by decide +kernel
theorem dX11_radon_23 : decode cX11_radon 23 = .ok (.ifCond .ne 7, 3) := by decide +kernel
theorem dX11_radon_26 : decode cX11_radon 26 = .ok (.ldc2_w 131, 3) := by decide +kernel
theorem dX11_radon_29 : decode cX11_radon 29 = .ok (.lreturn, 1) := by decide +kernel
theorem dX11_radon_30 : decode cX11_radon 30 = .ok (.aload_n 0, 1) := by decide +kernel
theorem dX11_radon_31 : decode cX11_radon 31 = .ok (.getfield 42, 3) := by decide +kernel
theorem dX11_radon_34 : decode cX11_radon 34 = .ok (.aload_n 0, 1) := by decide +kernel
theorem dX11_radon_35 : decode cX11_radon 35 = .ok (.getfield 12, 3) := by decide +kernel
theorem dX11_radon_38 : decode cX11_radon 38 = .ok (.aload_n 0, 1) := by decide +kernel
theorem dX11_radon_39 : decode cX11_radon 39 = .ok (.getfield 84, 3) := by decide +kernel
theorem dX11_radon_42 : decode cX11_radon 42 = .ok (.invokevirtual 220, 3) := by decide +kernel
theorem dX11_radon_45 : decode cX11_radon 45 = .ok (.iload_n 2, 1) := by decide +kernel
theorem dX11_radon_46 : decode cX11_radon 46 = .ok (.lookupswitch 44 #[(0, 26), (1, 35)], 26) := by decide +kernel
theorem dX11_radon_72 : decode cX11_radon 72 = .ok (.aload_n 0, 1) := by decide +kernel
theorem dX11_radon_73 : decode cX11_radon 73 = .ok (.getfield 42, 3) := by decide +kernel
theorem dX11_radon_76 : decode cX11_radon 76 = .ok (.invokevirtual 224, 3) := by decide +kernel
theorem dX11_radon_79 : decode cX11_radon 79 = .ok (.i2l, 1) := by decide +kernel
theorem dX11_radon_80 : decode cX11_radon 80 = .ok (.lreturn, 1) := by decide +kernel
theorem dX11_radon_81 : decode cX11_radon 81 = .ok (.aload_n 0, 1) := by decide +kernel
theorem dX11_radon_82 : decode cX11_radon 82 = .ok (.getfield 42, 3) := by decide +kernel
theorem dX11_radon_85 : decode cX11_radon 85 = .ok (.invokevirtual 227, 3) := by decide +kernel
theorem dX11_radon_88 : decode cX11_radon 88 = .ok (.i2l, 1) := by decide +kernel
theorem dX11_radon_89 : decode cX11_radon 89 = .ok (.lreturn, 1) := by decide +kernel
theorem dX11_radon_90 : decode cX11_radon 90 = .ok (.aload_n 0, 1) := by decide +kernel
theorem dX11_radon_91 : decode cX11_radon 91 = .ok (.getfield 84, 3) := by decide +kernel
theorem dX11_radon_94 : decode cX11_radon 94 = .ok (.iload_n 2, 1) := by decide +kernel
theorem dX11_radon_95 : decode cX11_radon 95 = .ok (.i2l, 1) := by decide +kernel
theorem dX11_radon_96 : decode cX11_radon 96 = .ok (.ldc2_w 230, 3) := by decide +kernel
theorem dX11_radon_99 : decode cX11_radon 99 = .ok (.lsub, 1) := by decide +kernel
theorem dX11_radon_100 : decode cX11_radon 100 = .ok (.invokestatic 232, 3) := by decide +kernel
theorem dX11_radon_103 : decode cX11_radon 103 = .ok (.lreturn, 1) := by decide +kernel
set_option maxRecDepth 100000 in
set_option maxHeartbeats 4000000 in
theorem mtX11_radon (l : Launch) (dC : Nat → ClassId) (dI : Nat → Nat → Nat) (cI cL cB : ClassId) (K : Nat) (h_t h_t_cloud h_t_reader h_t_hull h_t_near h_t_firstTie h_t_reducer h_t_chooser h_t_pair h_t_divider h_t_depths h_t_spot h_t_cloud_x h_t_cloud_y h_t_cloud_colour h_t_cloud_load h_t_firstTie_member h_t_firstTie_factor : Nat) (sz : Nat) (t_cloud_size : Int32) (t_cloud_centreX : Int32) (t_cloud_centreY : Int32) (t_cloud_x : Nat → Int32) (t_cloud_y : Nat → Int32) (t_firstTie_size : Int32) (t_firstTie_member : Nat → Int32) (t_firstTie_factor : Nat → Int64) (t_spot_x : Int64) (t_spot_y : Int64) (t_spot_lower : Int64) (a1 : Int32) (a2 : Int32) (o_r : Int64) (o_t_firstTie_size : Int32) (o_t_firstTie_member : Nat → Int32) (o_t_firstTie_factor : Nat → Int64) (o_t_spot_x : Int64) (o_t_spot_y : Int64) (o_t_spot_lower : Int64) (hf : fX11_radon K t_cloud_size t_cloud_x t_cloud_y t_firstTie_size t_firstTie_member t_firstTie_factor t_spot_x t_spot_y t_spot_lower a1 a2 = some (o_r, o_t_firstTie_size, o_t_firstTie_member, o_t_firstTie_factor, o_t_spot_x, o_t_spot_y, o_t_spot_lower)) : Met l yX11_radon [Cond.code yX11_radon cX11_radon 3 (some .long)] ({ frames := 4, cells := 0, slots := 0, locals := 104 }) (va_Pc [.ref h_t, .int a1, .int a2] (cPre dC dI cI cL cB sz [(h_t, .inr (11, [.ref h_t_cloud, .ref h_t_reader, .ref h_t_hull, .ref h_t_near, .ref h_t_firstTie, .ref h_t_reducer, .ref h_t_chooser, .ref h_t_pair, .ref h_t_divider, .ref h_t_depths, .ref h_t_spot])), (h_t_cloud, .inr (0, [.ref h_t_cloud_x, .ref h_t_cloud_y, .ref h_t_cloud_colour, .ref h_t_cloud_load, .int t_cloud_size, .int t_cloud_centreX, .int t_cloud_centreY])), (h_t_cloud_x, .inl (cI, 24, .inl t_cloud_x)), (h_t_cloud_y, .inl (cI, 24, .inl t_cloud_y)), (h_t_firstTie, .inr (10, [.ref h_t_firstTie_member, .ref h_t_firstTie_factor, .int t_firstTie_size])), (h_t_firstTie_member, .inl (cI, 4, .inl t_firstTie_member)), (h_t_firstTie_factor, .inl (cL, 4, .inr (.inl t_firstTie_factor))), (h_t_spot, .inr (6, [.long t_spot_x, .long t_spot_y, .long t_spot_lower]))])) (cQl dC dI (va_A [(h_t, .inr (11, [.ref h_t_cloud, .ref h_t_reader, .ref h_t_hull, .ref h_t_near, .ref h_t_firstTie, .ref h_t_reducer, .ref h_t_chooser, .ref h_t_pair, .ref h_t_divider, .ref h_t_depths, .ref h_t_spot])), (h_t_cloud, .inr (0, [.ref h_t_cloud_x, .ref h_t_cloud_y, .ref h_t_cloud_colour, .ref h_t_cloud_load, .int t_cloud_size, .int t_cloud_centreX, .int t_cloud_centreY])), (h_t_cloud_x, .inl (cI, 24, .inl t_cloud_x)), (h_t_cloud_y, .inl (cI, 24, .inl t_cloud_y)), (h_t_firstTie, .inr (10, [.ref h_t_firstTie_member, .ref h_t_firstTie_factor, .int t_firstTie_size])), (h_t_firstTie_member, .inl (cI, 4, .inl t_firstTie_member)), (h_t_firstTie_factor, .inl (cL, 4, .inr (.inl t_firstTie_factor))), (h_t_spot, .inr (6, [.long t_spot_x, .long t_spot_y, .long t_spot_lower]))] sz) o_r [(h_t, .inr (11, [.ref h_t_cloud, .ref h_t_reader, .ref h_t_hull, .ref h_t_near, .ref h_t_firstTie, .ref h_t_reducer, .ref h_t_chooser, .ref h_t_pair, .ref h_t_divider, .ref h_t_depths, .ref h_t_spot])), (h_t_cloud, .inr (0, [.ref h_t_cloud_x, .ref h_t_cloud_y, .ref h_t_cloud_colour, .ref h_t_cloud_load, .int t_cloud_size, .int t_cloud_centreX, .int t_cloud_centreY])), (h_t_cloud_x, .inl (cI, 24, .inl t_cloud_x)), (h_t_cloud_y, .inl (cI, 24, .inl t_cloud_y)), (h_t_firstTie, .inr (10, [.ref h_t_firstTie_member, .ref h_t_firstTie_factor, .int o_t_firstTie_size])), (h_t_firstTie_member, .inl (cI, 4, .inl o_t_firstTie_member)), (h_t_firstTie_factor, .inl (cL, 4, .inr (.inl o_t_firstTie_factor))), (h_t_spot, .inr (6, [.long o_t_spot_x, .long o_t_spot_y, .long o_t_spot_lower]))]) 0 0 (va_A [(h_t, .inr (11, [.ref h_t_cloud, .ref h_t_reader, .ref h_t_hull, .ref h_t_near, .ref h_t_firstTie, .ref h_t_reducer, .ref h_t_chooser, .ref h_t_pair, .ref h_t_divider, .ref h_t_depths, .ref h_t_spot])), (h_t_cloud, .inr (0, [.ref h_t_cloud_x, .ref h_t_cloud_y, .ref h_t_cloud_colour, .ref h_t_cloud_load, .int t_cloud_size, .int t_cloud_centreX, .int t_cloud_centreY])), (h_t_cloud_x, .inl (cI, 24, .inl t_cloud_x)), (h_t_cloud_y, .inl (cI, 24, .inl t_cloud_y)), (h_t_firstTie, .inr (10, [.ref h_t_firstTie_member, .ref h_t_firstTie_factor, .int t_firstTie_size])), (h_t_firstTie_member, .inl (cI, 4, .inl t_firstTie_member)), (h_t_firstTie_factor, .inl (cL, 4, .inr (.inl t_firstTie_factor))), (h_t_spot, .inr (6, [.long t_spot_x, .long t_spot_y, .long t_spot_lower]))] sz) := by
  refine Met.ofW (cc := cX11_radon) (maxL := 3) (ret := (some .long)) (by decide) rfl ?_
  intro p e s m args below meth c s₁ B hml hv
  obtain ⟨rfl, hsz, hP, hK, hD0, hT⟩ := hv
  have hx := B.exec
  have hb := B.bytes
  have hr := B.returns
  have hown : s.vm.findClass RX11 = some m.cls := findClass_of_methodNamed B.named
  have hlocks := B.notSynchronized
  have hts := TB.use hT ([.ref h_t, .int a1, .int a2] : List Value).toArray
  subst hsz
  have hD := hD0.self (sz := s.heap.size)
  generalize hAe : va_A [(h_t, .inr (11, [.ref h_t_cloud, .ref h_t_reader, .ref h_t_hull, .ref h_t_near, .ref h_t_firstTie, .ref h_t_reducer, .ref h_t_chooser, .ref h_t_pair, .ref h_t_divider, .ref h_t_depths, .ref h_t_spot])), (h_t_cloud, .inr (0, [.ref h_t_cloud_x, .ref h_t_cloud_y, .ref h_t_cloud_colour, .ref h_t_cloud_load, .int t_cloud_size, .int t_cloud_centreX, .int t_cloud_centreY])), (h_t_cloud_x, .inl (cI, 24, .inl t_cloud_x)), (h_t_cloud_y, .inl (cI, 24, .inl t_cloud_y)), (h_t_firstTie, .inr (10, [.ref h_t_firstTie_member, .ref h_t_firstTie_factor, .int t_firstTie_size])), (h_t_firstTie_member, .inl (cI, 4, .inl t_firstTie_member)), (h_t_firstTie_factor, .inl (cL, 4, .inr (.inl t_firstTie_factor))), (h_t_spot, .inr (6, [.long t_spot_x, .long t_spot_y, .long t_spot_lower]))] s.heap.size = A at hD ⊢
  have hA : ∀ q : Nat, s.heap.size ≤ q → A q := fun q h => by rw [← hAe]; exact Or.inr h
  clear hAe hD0
  have hl := lv_entry ([.ref h_t, .int a1, .int a2]) (n := 3) (Nat.le_of_ble_eq_true rfl)
  rw [lg_entry_eq]
  generalize (lg_sl ([.ref h_t, .int a1, .int a2]) ++ List.replicate (3 - (lg_sl ([.ref h_t, .int a1, .int a2])).length) Slot.unset).toArray = ls at hl ⊢
  have hl : lv_has ls 3 [(0, .ref h_t), (1, .int a1), (2, .int a2)] := hl
  have hF : 4 ≤ (headSpec [Cond.code yX11_radon cX11_radon 3 (some .long)] ({ frames := 4, cells := 0, slots := 0, locals := 104 })).room.frames := Nat.le_refl _
  have hLo : 104 ≤ (headSpec [Cond.code yX11_radon cX11_radon 3 (some .long)] ({ frames := 4, cells := 0, slots := 0, locals := 104 })).room.locals := Nat.le_refl _
  have C0 : Sx p (headSpec [Cond.code yX11_radon cX11_radon 3 (some .long)] ({ frames := 4, cells := 0, slots := 0, locals := 104 })).room s m ([.ref h_t, .int a1, .int a2] : List Value).toArray c cX11_radon 3 RX11 A dC dI cI cL cB 4 104 := ⟨hx, hb, hml, hown, hts, hK, hT, hA, hF, hLo⟩
  refine startH (A := A) hP (fun H locs hP hS => ?_)
  rw [fX11_radon] at hf
  refine lv_aload_n hx hb dX11_radon_0 rfl (lv_at hl 0 rfl) ?_
  refine va_get (D := (dC, dI)) (ci := 11) (v := .ref h_t_cloud) (C := RX11) (T := TX11) (N := 11) hx hb hts in_X11 hown hK hP 0 rfl rfl 0 (Nat.le_of_ble_eq_true rfl) (hts _ qf_X11_12) (fun _ h9 => h9) rfl dX11_radon_1 ?_
  refine lv_iload_n hx hb dX11_radon_4 rfl (lv_at hl 1 rfl) ?_
  obtain ⟨r_1, hq_2, hf⟩ := b1_some hf
  refine xci (wr := [(h_t, .inr (11, [.ref h_t_cloud, .ref h_t_reader, .ref h_t_hull, .ref h_t_near, .ref h_t_firstTie, .ref h_t_reducer, .ref h_t_chooser, .ref h_t_pair, .ref h_t_divider, .ref h_t_depths, .ref h_t_spot])), (h_t_cloud_x, .inl (cI, 24, .inl t_cloud_x)), (h_t_cloud_y, .inl (cI, 24, .inl t_cloud_y)), (h_t_firstTie, .inr (10, [.ref h_t_firstTie_member, .ref h_t_firstTie_factor, .int t_firstTie_size])), (h_t_firstTie_member, .inl (cI, 4, .inl t_firstTie_member)), (h_t_firstTie_factor, .inl (cL, 4, .inr (.inl t_firstTie_factor))), (h_t_spot, .inr (6, [.long t_spot_x, .long t_spot_y, .long t_spot_lower]))]) (w2 := [(h_t, .inr (11, [.ref h_t_cloud, .ref h_t_reader, .ref h_t_hull, .ref h_t_near, .ref h_t_firstTie, .ref h_t_reducer, .ref h_t_chooser, .ref h_t_pair, .ref h_t_divider, .ref h_t_depths, .ref h_t_spot])), (h_t_cloud, .inr (0, [.ref h_t_cloud_x, .ref h_t_cloud_y, .ref h_t_cloud_colour, .ref h_t_cloud_load, .int t_cloud_size, .int t_cloud_centreX, .int t_cloud_centreY])), (h_t_cloud_x, .inl (cI, 24, .inl t_cloud_x)), (h_t_cloud_y, .inl (cI, 24, .inl t_cloud_y)), (h_t_firstTie, .inr (10, [.ref h_t_firstTie_member, .ref h_t_firstTie_factor, .int t_firstTie_size])), (h_t_firstTie_member, .inl (cI, 4, .inl t_firstTie_member)), (h_t_firstTie_factor, .inl (cL, 4, .inr (.inl t_firstTie_factor))), (h_t_spot, .inr (6, [.long t_spot_x, .long t_spot_y, .long t_spot_lower]))]) (va_runV (As := [.int a1]) (rest := []) ⟨hx, hb, hml, hown, hts⟩ (mtX0_hasSet l dC dI cI cL cB K h_t_cloud h_t_cloud_x h_t_cloud_y h_t_cloud_colour h_t_cloud_load H.size t_cloud_size t_cloud_centreX t_cloud_centreY a1 r_1 hq_2) (cwV 1 hts gv_X11_152 rfl rfl rfl hdV_X0_hasSet ⟨Nat.le_trans (Nat.le_of_ble_eq_true rfl) hF, Nat.le_trans (Nat.le_of_ble_eq_true rfl) hLo⟩) (cPreV hK hP hD hT [1] rfl rfl (ci := 0) (q0 := 0) rfl rfl) rfl rfl hl.1 rfl (lv_room (Nat.le_of_ble_eq_true rfl)) dX11_radon_5 ⟨Nat.zero_le _, Nat.zero_le _⟩) hP hD hS hA [1] [0, 2, 3, 4, 5, 6, 7] [0, 7, 1, 2, 3, 4, 5, 6] rfl rfl rfl rfl rfl rfl (fun H locs hP hD hS => ?_)
  refine lv_if_eq (tgt := 26) hx hb dX11_radon_8 (by decide) (fun hc => ?_) (fun hc => ?_)
  · replace hf := it_t (hc) hf
    refine lv_ldc2 (v := (-9223372036854775808 : Int64)) hx hb hown (hts _ qj_X11_131) dX11_radon_26 ?_
    obtain ⟨rfl, rfl, rfl, rfl, rfl, rfl, rfl⟩ := o7 hf
    exact W.lret hx hb hr (fun t ht hW => ⟨⟨_, (), rfl, rfl, by rw [ht]; exact hP, hD⟩, hS.F ht⟩) hS.2.2 dX11_radon_29
  · replace hf := it_f (hc) hf
    refine lv_aload_n hx hb dX11_radon_11 rfl (lv_at hl 0 rfl) ?_
    refine va_get (D := (dC, dI)) (ci := 11) (v := .ref h_t_firstTie) (C := RX11) (T := TX11) (N := 11) hx hb hts in_X11 hown hK hP 0 rfl rfl 4 (Nat.le_of_ble_eq_true rfl) (hts _ qf_X11_42) (fun _ h9 => h9) rfl dX11_radon_12 ?_
    refine lv_aload_n hx hb dX11_radon_15 rfl (lv_at hl 0 rfl) ?_
    refine va_get (D := (dC, dI)) (ci := 11) (v := .ref h_t_cloud) (C := RX11) (T := TX11) (N := 11) hx hb hts in_X11 hown hK hP 0 rfl rfl 0 (Nat.le_of_ble_eq_true rfl) (hts _ qf_X11_12) (fun _ h9 => h9) rfl dX11_radon_16 ?_
    refine lv_iload_n hx hb dX11_radon_19 rfl (lv_at hl 1 rfl) ?_
    obtain ⟨r_3, t_firstTie_size_4, t_firstTie_member_5, t_firstTie_factor_6, hq_7, hf⟩ := b4_some hf
    refine xci (wr := [(h_t, .inr (11, [.ref h_t_cloud, .ref h_t_reader, .ref h_t_hull, .ref h_t_near, .ref h_t_firstTie, .ref h_t_reducer, .ref h_t_chooser, .ref h_t_pair, .ref h_t_divider, .ref h_t_depths, .ref h_t_spot])), (h_t_spot, .inr (6, [.long t_spot_x, .long t_spot_y, .long t_spot_lower]))]) (w2 := [(h_t, .inr (11, [.ref h_t_cloud, .ref h_t_reader, .ref h_t_hull, .ref h_t_near, .ref h_t_firstTie, .ref h_t_reducer, .ref h_t_chooser, .ref h_t_pair, .ref h_t_divider, .ref h_t_depths, .ref h_t_spot])), (h_t_cloud, .inr (0, [.ref h_t_cloud_x, .ref h_t_cloud_y, .ref h_t_cloud_colour, .ref h_t_cloud_load, .int t_cloud_size, .int t_cloud_centreX, .int t_cloud_centreY])), (h_t_cloud_x, .inl (cI, 24, .inl t_cloud_x)), (h_t_cloud_y, .inl (cI, 24, .inl t_cloud_y)), (h_t_firstTie, .inr (10, [.ref h_t_firstTie_member, .ref h_t_firstTie_factor, .int t_firstTie_size_4])), (h_t_firstTie_member, .inl (cI, 4, .inl t_firstTie_member_5)), (h_t_firstTie_factor, .inl (cL, 4, .inr (.inl t_firstTie_factor_6))), (h_t_spot, .inr (6, [.long t_spot_x, .long t_spot_y, .long t_spot_lower]))]) (va_runV (As := [.ref h_t_cloud, .int a1]) (rest := []) ⟨hx, hb, hml, hown, hts⟩ (mtX10_find l dC dI cI cL cB K h_t_firstTie h_t_firstTie_member h_t_firstTie_factor h_t_cloud h_t_cloud_x h_t_cloud_y h_t_cloud_colour h_t_cloud_load H.size t_firstTie_size t_firstTie_member t_firstTie_factor t_cloud_size t_cloud_centreX t_cloud_centreY t_cloud_x t_cloud_y a1 r_3 t_firstTie_size_4 t_firstTie_member_5 t_firstTie_factor_6 hq_7) (cwV 2 hts gv_X11_212 rfl rfl rfl hdV_X10_find ⟨Nat.le_trans (Nat.le_of_ble_eq_true rfl) hF, Nat.le_trans (Nat.le_of_ble_eq_true rfl) hLo⟩) (cPreV hK hP hD hT [4, 5, 6, 1, 2, 3] rfl rfl (ci := 10) (q0 := 0) rfl rfl) rfl rfl hl.1 rfl (lv_room (Nat.le_of_ble_eq_true rfl)) dX11_radon_20 ⟨Nat.zero_le _, Nat.zero_le _⟩) hP hD hS hA [4, 5, 6, 1, 2, 3] [0, 7] [0, 5, 6, 7, 2, 3, 4, 1] rfl rfl rfl rfl rfl rfl (fun H locs hP hD hS => ?_)
    refine lv_if_ne (tgt := 30) hx hb dX11_radon_23 (by decide) (fun hc => ?_) (fun hc => ?_)
    · replace hf := it_f (hc) hf
      refine lv_aload_n hx hb dX11_radon_30 rfl (lv_at hl 0 rfl) ?_
      refine va_get (D := (dC, dI)) (ci := 11) (v := .ref h_t_firstTie) (C := RX11) (T := TX11) (N := 11) hx hb hts in_X11 hown hK hP 0 rfl rfl 4 (Nat.le_of_ble_eq_true rfl) (hts _ qf_X11_42) (fun _ h9 => h9) rfl dX11_radon_31 ?_
      refine lv_aload_n hx hb dX11_radon_34 rfl (lv_at hl 0 rfl) ?_
      refine va_get (D := (dC, dI)) (ci := 11) (v := .ref h_t_cloud) (C := RX11) (T := TX11) (N := 11) hx hb hts in_X11 hown hK hP 0 rfl rfl 0 (Nat.le_of_ble_eq_true rfl) (hts _ qf_X11_12) (fun _ h9 => h9) rfl dX11_radon_35 ?_
      refine lv_aload_n hx hb dX11_radon_38 rfl (lv_at hl 0 rfl) ?_
      refine va_get (D := (dC, dI)) (ci := 11) (v := .ref h_t_spot) (C := RX11) (T := TX11) (N := 11) hx hb hts in_X11 hown hK hP 0 rfl rfl 10 (Nat.le_of_ble_eq_true rfl) (hts _ qf_X11_84) (fun _ h9 => h9) rfl dX11_radon_39 ?_
      obtain ⟨t_spot_x_8, t_spot_y_9, t_spot_lower_10, hq_11, hf⟩ := b3_some hf
      refine xcv (wr := [(h_t, .inr (11, [.ref h_t_cloud, .ref h_t_reader, .ref h_t_hull, .ref h_t_near, .ref h_t_firstTie, .ref h_t_reducer, .ref h_t_chooser, .ref h_t_pair, .ref h_t_divider, .ref h_t_depths, .ref h_t_spot]))]) (w2 := [(h_t, .inr (11, [.ref h_t_cloud, .ref h_t_reader, .ref h_t_hull, .ref h_t_near, .ref h_t_firstTie, .ref h_t_reducer, .ref h_t_chooser, .ref h_t_pair, .ref h_t_divider, .ref h_t_depths, .ref h_t_spot])), (h_t_cloud, .inr (0, [.ref h_t_cloud_x, .ref h_t_cloud_y, .ref h_t_cloud_colour, .ref h_t_cloud_load, .int t_cloud_size, .int t_cloud_centreX, .int t_cloud_centreY])), (h_t_cloud_x, .inl (cI, 24, .inl t_cloud_x)), (h_t_cloud_y, .inl (cI, 24, .inl t_cloud_y)), (h_t_firstTie, .inr (10, [.ref h_t_firstTie_member, .ref h_t_firstTie_factor, .int t_firstTie_size_4])), (h_t_firstTie_member, .inl (cI, 4, .inl t_firstTie_member_5)), (h_t_firstTie_factor, .inl (cL, 4, .inr (.inl t_firstTie_factor_6))), (h_t_spot, .inr (6, [.long t_spot_x_8, .long t_spot_y_9, .long t_spot_lower_10]))]) (va_runV (As := [.ref h_t_cloud, .ref h_t_spot]) (rest := []) ⟨hx, hb, hml, hown, hts⟩ (mtX10_locate l dC dI cI cL cB K h_t_firstTie h_t_firstTie_member h_t_firstTie_factor h_t_cloud h_t_cloud_x h_t_cloud_y h_t_cloud_colour h_t_cloud_load h_t_spot H.size t_firstTie_size_4 t_firstTie_member_5 t_firstTie_factor_6 t_cloud_size t_cloud_centreX t_cloud_centreY t_cloud_x t_cloud_y t_spot_x t_spot_y t_spot_lower t_spot_x_8 t_spot_y_9 t_spot_lower_10 hq_11) (cwV 2 hts gv_X11_220 rfl rfl rfl hdV_X10_locate ⟨Nat.le_trans (Nat.le_of_ble_eq_true rfl) hF, Nat.le_trans (Nat.le_of_ble_eq_true rfl) hLo⟩) (cPreV hK hP hD hT [4, 5, 6, 1, 2, 3, 7] rfl rfl (ci := 10) (q0 := 0) rfl rfl) rfl rfl hl.1 rfl (lv_room (Nat.le_of_ble_eq_true rfl)) dX11_radon_42 ⟨Nat.zero_le _, Nat.zero_le _⟩) hP hD hS hA [4, 5, 6, 1, 2, 3, 7] [0] [0, 4, 5, 6, 1, 2, 3, 7] rfl rfl rfl rfl rfl rfl (fun H locs hP hD hS => ?_)
      refine lv_iload_n hx hb dX11_radon_45 rfl (lv_at hl 2 rfl) ?_
      by_cases hk_12 : a2 = (0 : Int32)
      · replace hf := it_t hk_12 hf
        refine lv_lookup (off := 26) (tgt := 72) hx hb dX11_radon_46 (by decide) (by rw [hk_12]; decide) (by decide) ?_
        refine lv_aload_n hx hb dX11_radon_72 rfl (lv_at hl 0 rfl) ?_
        refine va_get (D := (dC, dI)) (ci := 11) (v := .ref h_t_firstTie) (C := RX11) (T := TX11) (N := 11) hx hb hts in_X11 hown hK hP 0 rfl rfl 4 (Nat.le_of_ble_eq_true rfl) (hts _ qf_X11_42) (fun _ h9 => h9) rfl dX11_radon_73 ?_
        obtain ⟨r_13, hq_14, hf⟩ := b1_some hf
        refine xci (wr := [(h_t, .inr (11, [.ref h_t_cloud, .ref h_t_reader, .ref h_t_hull, .ref h_t_near, .ref h_t_firstTie, .ref h_t_reducer, .ref h_t_chooser, .ref h_t_pair, .ref h_t_divider, .ref h_t_depths, .ref h_t_spot])), (h_t_cloud, .inr (0, [.ref h_t_cloud_x, .ref h_t_cloud_y, .ref h_t_cloud_colour, .ref h_t_cloud_load, .int t_cloud_size, .int t_cloud_centreX, .int t_cloud_centreY])), (h_t_cloud_x, .inl (cI, 24, .inl t_cloud_x)), (h_t_cloud_y, .inl (cI, 24, .inl t_cloud_y)), (h_t_spot, .inr (6, [.long t_spot_x_8, .long t_spot_y_9, .long t_spot_lower_10]))]) (w2 := [(h_t, .inr (11, [.ref h_t_cloud, .ref h_t_reader, .ref h_t_hull, .ref h_t_near, .ref h_t_firstTie, .ref h_t_reducer, .ref h_t_chooser, .ref h_t_pair, .ref h_t_divider, .ref h_t_depths, .ref h_t_spot])), (h_t_cloud, .inr (0, [.ref h_t_cloud_x, .ref h_t_cloud_y, .ref h_t_cloud_colour, .ref h_t_cloud_load, .int t_cloud_size, .int t_cloud_centreX, .int t_cloud_centreY])), (h_t_cloud_x, .inl (cI, 24, .inl t_cloud_x)), (h_t_cloud_y, .inl (cI, 24, .inl t_cloud_y)), (h_t_firstTie, .inr (10, [.ref h_t_firstTie_member, .ref h_t_firstTie_factor, .int t_firstTie_size_4])), (h_t_firstTie_member, .inl (cI, 4, .inl t_firstTie_member_5)), (h_t_firstTie_factor, .inl (cL, 4, .inr (.inl t_firstTie_factor_6))), (h_t_spot, .inr (6, [.long t_spot_x_8, .long t_spot_y_9, .long t_spot_lower_10]))]) (va_runV (As := []) (rest := []) ⟨hx, hb, hml, hown, hts⟩ (mtX10_bitsAbove l dC dI cI cL cB K h_t_firstTie h_t_firstTie_member h_t_firstTie_factor H.size t_firstTie_size_4 t_firstTie_member_5 t_firstTie_factor_6 r_13 hq_14) (cwV 0 hts gv_X11_224 rfl rfl rfl hdV_X10_bitsAbove ⟨Nat.le_trans (Nat.le_of_ble_eq_true rfl) hF, Nat.le_trans (Nat.le_of_ble_eq_true rfl) hLo⟩) (cPreV hK hP hD hT [4, 5, 6] rfl rfl (ci := 10) (q0 := 0) rfl rfl) rfl rfl hl.1 rfl (lv_room (Nat.le_of_ble_eq_true rfl)) dX11_radon_76 ⟨Nat.zero_le _, Nat.zero_le _⟩) hP hD hS hA [4, 5, 6] [0, 1, 2, 3, 7] [0, 1, 2, 3, 5, 6, 7, 4] rfl rfl rfl rfl rfl rfl (fun H locs hP hD hS => ?_)
        refine lv_i2l hx hb dX11_radon_79 rfl ?_
        obtain ⟨rfl, rfl, rfl, rfl, rfl, rfl, rfl⟩ := o7 hf
        exact W.lret hx hb hr (fun t ht hW => ⟨⟨_, (), rfl, rfl, by rw [ht]; exact hP, hD⟩, hS.F ht⟩) hS.2.2 dX11_radon_80
      · replace hf := it_f hk_12 hf
        by_cases hk_15 : a2 = (1 : Int32)
        · replace hf := it_t hk_15 hf
          refine lv_lookup (off := 35) (tgt := 81) hx hb dX11_radon_46 (by decide) (by rw [hk_15]; decide) (by decide) ?_
          refine lv_aload_n hx hb dX11_radon_81 rfl (lv_at hl 0 rfl) ?_
          refine va_get (D := (dC, dI)) (ci := 11) (v := .ref h_t_firstTie) (C := RX11) (T := TX11) (N := 11) hx hb hts in_X11 hown hK hP 0 rfl rfl 4 (Nat.le_of_ble_eq_true rfl) (hts _ qf_X11_42) (fun _ h9 => h9) rfl dX11_radon_82 ?_
          obtain ⟨r_16, hq_17, hf⟩ := b1_some hf
          refine xci (wr := [(h_t, .inr (11, [.ref h_t_cloud, .ref h_t_reader, .ref h_t_hull, .ref h_t_near, .ref h_t_firstTie, .ref h_t_reducer, .ref h_t_chooser, .ref h_t_pair, .ref h_t_divider, .ref h_t_depths, .ref h_t_spot])), (h_t_cloud, .inr (0, [.ref h_t_cloud_x, .ref h_t_cloud_y, .ref h_t_cloud_colour, .ref h_t_cloud_load, .int t_cloud_size, .int t_cloud_centreX, .int t_cloud_centreY])), (h_t_cloud_x, .inl (cI, 24, .inl t_cloud_x)), (h_t_cloud_y, .inl (cI, 24, .inl t_cloud_y)), (h_t_spot, .inr (6, [.long t_spot_x_8, .long t_spot_y_9, .long t_spot_lower_10]))]) (w2 := [(h_t, .inr (11, [.ref h_t_cloud, .ref h_t_reader, .ref h_t_hull, .ref h_t_near, .ref h_t_firstTie, .ref h_t_reducer, .ref h_t_chooser, .ref h_t_pair, .ref h_t_divider, .ref h_t_depths, .ref h_t_spot])), (h_t_cloud, .inr (0, [.ref h_t_cloud_x, .ref h_t_cloud_y, .ref h_t_cloud_colour, .ref h_t_cloud_load, .int t_cloud_size, .int t_cloud_centreX, .int t_cloud_centreY])), (h_t_cloud_x, .inl (cI, 24, .inl t_cloud_x)), (h_t_cloud_y, .inl (cI, 24, .inl t_cloud_y)), (h_t_firstTie, .inr (10, [.ref h_t_firstTie_member, .ref h_t_firstTie_factor, .int t_firstTie_size_4])), (h_t_firstTie_member, .inl (cI, 4, .inl t_firstTie_member_5)), (h_t_firstTie_factor, .inl (cL, 4, .inr (.inl t_firstTie_factor_6))), (h_t_spot, .inr (6, [.long t_spot_x_8, .long t_spot_y_9, .long t_spot_lower_10]))]) (va_runV (As := []) (rest := []) ⟨hx, hb, hml, hown, hts⟩ (mtX10_bitsBelow l dC dI cI cL cB K h_t_firstTie h_t_firstTie_member h_t_firstTie_factor H.size t_firstTie_size_4 t_firstTie_member_5 t_firstTie_factor_6 r_16 hq_17) (cwV 0 hts gv_X11_227 rfl rfl rfl hdV_X10_bitsBelow ⟨Nat.le_trans (Nat.le_of_ble_eq_true rfl) hF, Nat.le_trans (Nat.le_of_ble_eq_true rfl) hLo⟩) (cPreV hK hP hD hT [4, 5, 6] rfl rfl (ci := 10) (q0 := 0) rfl rfl) rfl rfl hl.1 rfl (lv_room (Nat.le_of_ble_eq_true rfl)) dX11_radon_85 ⟨Nat.zero_le _, Nat.zero_le _⟩) hP hD hS hA [4, 5, 6] [0, 1, 2, 3, 7] [0, 1, 2, 3, 5, 6, 7, 4] rfl rfl rfl rfl rfl rfl (fun H locs hP hD hS => ?_)
          refine lv_i2l hx hb dX11_radon_88 rfl ?_
          obtain ⟨rfl, rfl, rfl, rfl, rfl, rfl, rfl⟩ := o7 hf
          exact W.lret hx hb hr (fun t ht hW => ⟨⟨_, (), rfl, rfl, by rw [ht]; exact hP, hD⟩, hS.F ht⟩) hS.2.2 dX11_radon_89
        · replace hf := it_f hk_15 hf
          refine lv_lookup (off := 44) (tgt := 90) hx hb dX11_radon_46 (by decide) ((lv_osw (k := (0 : Int32)) hk_12 (by decide)).trans ((lv_osw (k := (1 : Int32)) hk_15 (by decide)).trans rfl)) (by decide) ?_
          refine lv_aload_n hx hb dX11_radon_90 rfl (lv_at hl 0 rfl) ?_
          refine va_get (D := (dC, dI)) (ci := 11) (v := .ref h_t_spot) (C := RX11) (T := TX11) (N := 11) hx hb hts in_X11 hown hK hP 0 rfl rfl 10 (Nat.le_of_ble_eq_true rfl) (hts _ qf_X11_84) (fun _ h9 => h9) rfl dX11_radon_91 ?_
          refine lv_iload_n hx hb dX11_radon_94 rfl (lv_at hl 2 rfl) ?_
          refine lv_i2l hx hb dX11_radon_95 rfl ?_
          refine lv_ldc2 (v := (2 : Int64)) hx hb hown (hts _ qj_X11_230) dX11_radon_96 ?_
          refine lv_lsub hx hb dX11_radon_99 ?_
          obtain ⟨r_18, hq_19, hf⟩ := b1_some hf
          refine xcl (wr := [(h_t, .inr (11, [.ref h_t_cloud, .ref h_t_reader, .ref h_t_hull, .ref h_t_near, .ref h_t_firstTie, .ref h_t_reducer, .ref h_t_chooser, .ref h_t_pair, .ref h_t_divider, .ref h_t_depths, .ref h_t_spot])), (h_t_cloud, .inr (0, [.ref h_t_cloud_x, .ref h_t_cloud_y, .ref h_t_cloud_colour, .ref h_t_cloud_load, .int t_cloud_size, .int t_cloud_centreX, .int t_cloud_centreY])), (h_t_cloud_x, .inl (cI, 24, .inl t_cloud_x)), (h_t_cloud_y, .inl (cI, 24, .inl t_cloud_y)), (h_t_firstTie, .inr (10, [.ref h_t_firstTie_member, .ref h_t_firstTie_factor, .int t_firstTie_size_4])), (h_t_firstTie_member, .inl (cI, 4, .inl t_firstTie_member_5)), (h_t_firstTie_factor, .inl (cL, 4, .inr (.inl t_firstTie_factor_6)))]) (w2 := [(h_t, .inr (11, [.ref h_t_cloud, .ref h_t_reader, .ref h_t_hull, .ref h_t_near, .ref h_t_firstTie, .ref h_t_reducer, .ref h_t_chooser, .ref h_t_pair, .ref h_t_divider, .ref h_t_depths, .ref h_t_spot])), (h_t_cloud, .inr (0, [.ref h_t_cloud_x, .ref h_t_cloud_y, .ref h_t_cloud_colour, .ref h_t_cloud_load, .int t_cloud_size, .int t_cloud_centreX, .int t_cloud_centreY])), (h_t_cloud_x, .inl (cI, 24, .inl t_cloud_x)), (h_t_cloud_y, .inl (cI, 24, .inl t_cloud_y)), (h_t_firstTie, .inr (10, [.ref h_t_firstTie_member, .ref h_t_firstTie_factor, .int t_firstTie_size_4])), (h_t_firstTie_member, .inl (cI, 4, .inl t_firstTie_member_5)), (h_t_firstTie_factor, .inl (cL, 4, .inr (.inl t_firstTie_factor_6))), (h_t_spot, .inr (6, [.long t_spot_x_8, .long t_spot_y_9, .long t_spot_lower_10]))]) (va_runS (As := [.ref h_t_spot, .long ((a2.toInt64) - (2 : Int64))]) (rest := []) ⟨hx, hb, hml, hown, hts⟩ (mtX11_coordinate l dC dI cI cL cB K h_t_spot H.size t_spot_x_8 t_spot_y_9 t_spot_lower_10 ((a2.toInt64) - (2 : Int64)) r_18 hq_19) (va_cwS 2 hts gs_X11_232 rfl rfl rfl hdS_X11_coordinate ⟨Nat.le_trans (Nat.le_of_ble_eq_true rfl) hF, Nat.le_trans (Nat.le_of_ble_eq_true rfl) hLo⟩) (cPreS hK hP hD hT [7] rfl rfl) rfl rfl hl.1 rfl (lv_room (Nat.le_of_ble_eq_true rfl)) dX11_radon_100 ⟨Nat.zero_le _, Nat.zero_le _⟩) hP hD hS hA [7] [0, 1, 2, 3, 4, 5, 6] [0, 1, 2, 3, 4, 5, 6, 7] rfl rfl rfl rfl rfl rfl (fun H locs hP hD hS => ?_)
          obtain ⟨rfl, rfl, rfl, rfl, rfl, rfl, rfl⟩ := o7 hf
          exact W.lret hx hb hr (fun t ht hW => ⟨⟨_, (), rfl, rfl, by rw [ht]; exact hP, hD⟩, hS.F ht⟩) hS.2.2 dX11_radon_103
    · replace hf := it_t (hc) hf
      refine lv_ldc2 (v := (-9223372036854775808 : Int64)) hx hb hown (hts _ qj_X11_131) dX11_radon_26 ?_
      obtain ⟨rfl, rfl, rfl, rfl, rfl, rfl, rfl⟩ := o7 hf
      exact W.lret hx hb hr (fun t ht hW => ⟨⟨_, (), rfl, rfl, by rw [ht]; exact hP, hD⟩, hS.F ht⟩) hS.2.2 dX11_radon_29
theorem dX0_locateBalance_0 : decode cX0_locateBalance 0 = .ok (.lconst 0, 1) := by decide +kernel
theorem dX0_locateBalance_1 : decode cX0_locateBalance 1 = .ok (.lstore_n 2, 1) := by decide +kernel
theorem dX0_locateBalance_2 : decode cX0_locateBalance 2 = .ok (.lconst 0, 1) := by decide +kernel
theorem dX0_locateBalance_3 : decode cX0_locateBalance 3 = .ok (.lstore 4, 2) := by decide +kernel
theorem dX0_locateBalance_5 : decode cX0_locateBalance 5 = .ok (.lconst 0, 1) := by decide +kernel
theorem dX0_locateBalance_6 : decode cX0_locateBalance 6 = .ok (.lstore 6, 2) := by decide +kernel
theorem dX0_locateBalance_8 : decode cX0_locateBalance 8 = .ok (.iconst 0, 1) := by decide +kernel
theorem dX0_locateBalance_9 : decode cX0_locateBalance 9 = .ok (.istore 8, 2) := by decide +kernel
theorem dX0_locateBalance_11 : decode cX0_locateBalance 11 = .ok (.iload 8, 2) := by decide +kernel
theorem dX0_locateBalance_13 : decode cX0_locateBalance 13 = .ok (.aload_n 0, 1) := by decide +kernel
theorem dX0_locateBalance_14 : decode cX0_locateBalance 14 = .ok (.getfield 24, 3) := by decide +kernel
theorem dX0_locateBalance_17 : decode cX0_locateBalance 17 = .ok (.if_icmp .ge 62, 3) := by decide +kernel
theorem dX0_locateBalance_20 : decode cX0_locateBalance 20 = .ok (.lload_n 2, 1) := by decide +kernel
theorem dX0_locateBalance_21 : decode cX0_locateBalance 21 = .ok (.aload_n 0, 1) := by decide +kernel
theorem dX0_locateBalance_22 : decode cX0_locateBalance 22 = .ok (.getfield 21, 3) := by decide +kernel
theorem dX0_locateBalance_25 : decode cX0_locateBalance 25 = .ok (.iload 8, 2) := by decide +kernel
theorem dX0_locateBalance_27 : decode cX0_locateBalance 27 = .ok (.iaload, 1) := by decide +kernel
theorem dX0_locateBalance_28 : decode cX0_locateBalance 28 = .ok (.aload_n 0, 1) := by decide +kernel
theorem dX0_locateBalance_29 : decode cX0_locateBalance 29 = .ok (.getfield 9, 3) := by decide +kernel
theorem dX0_locateBalance_32 : decode cX0_locateBalance 32 = .ok (.iload 8, 2) := by decide +kernel
theorem dX0_locateBalance_34 : decode cX0_locateBalance 34 = .ok (.iaload, 1) := by decide +kernel
theorem dX0_locateBalance_35 : decode cX0_locateBalance 35 = .ok (.imul, 1) := by decide +kernel
theorem dX0_locateBalance_36 : decode cX0_locateBalance 36 = .ok (.i2l, 1) := by decide +kernel
theorem dX0_locateBalance_37 : decode cX0_locateBalance 37 = .ok (.ladd, 1) := by decide +kernel
theorem dX0_locateBalance_38 : decode cX0_locateBalance 38 = .ok (.lstore_n 2, 1) := by decide +kernel
theorem dX0_locateBalance_39 : decode cX0_locateBalance 39 = .ok (.lload 4, 2) := by decide +kernel
theorem dX0_locateBalance_41 : decode cX0_locateBalance 41 = .ok (.aload_n 0, 1) := by decide +kernel
theorem dX0_locateBalance_42 : decode cX0_locateBalance 42 = .ok (.getfield 21, 3) := by decide +kernel
theorem dX0_locateBalance_45 : decode cX0_locateBalance 45 = .ok (.iload 8, 2) := by decide +kernel
theorem dX0_locateBalance_47 : decode cX0_locateBalance 47 = .ok (.iaload, 1) := by decide +kernel
theorem dX0_locateBalance_48 : decode cX0_locateBalance 48 = .ok (.aload_n 0, 1) := by decide +kernel
theorem dX0_locateBalance_49 : decode cX0_locateBalance 49 = .ok (.getfield 15, 3) := by decide +kernel
theorem dX0_locateBalance_52 : decode cX0_locateBalance 52 = .ok (.iload 8, 2) := by decide +kernel
theorem dX0_locateBalance_54 : decode cX0_locateBalance 54 = .ok (.iaload, 1) := by decide +kernel
theorem dX0_locateBalance_55 : decode cX0_locateBalance 55 = .ok (.imul, 1) := by decide +kernel
theorem dX0_locateBalance_56 : decode cX0_locateBalance 56 = .ok (.i2l, 1) := by decide +kernel
theorem dX0_locateBalance_57 : decode cX0_locateBalance 57 = .ok (.ladd, 1) := by decide +kernel
theorem dX0_locateBalance_58 : decode cX0_locateBalance 58 = .ok (.lstore 4, 2) := by decide +kernel
theorem dX0_locateBalance_60 : decode cX0_locateBalance 60 = .ok (.lload 6, 2) := by decide +kernel
theorem dX0_locateBalance_62 : decode cX0_locateBalance 62 = .ok (.aload_n 0, 1) := by decide +kernel
theorem dX0_locateBalance_63 : decode cX0_locateBalance 63 = .ok (.getfield 21, 3) := by decide +kernel
theorem dX0_locateBalance_66 : decode cX0_locateBalance 66 = .ok (.iload 8, 2) := by decide +kernel
theorem dX0_locateBalance_68 : decode cX0_locateBalance 68 = .ok (.iaload, 1) := by decide +kernel
theorem dX0_locateBalance_69 : decode cX0_locateBalance 69 = .ok (.i2l, 1) := by decide +kernel
theorem dX0_locateBalance_70 : decode cX0_locateBalance 70 = .ok (.ladd, 1) := by decide +kernel
theorem dX0_locateBalance_71 : decode cX0_locateBalance 71 = .ok (.lstore 6, 2) := by decide +kernel
theorem dX0_locateBalance_73 : decode cX0_locateBalance 73 = .ok (.iinc 8 1, 3) := by decide +kernel
theorem dX0_locateBalance_76 : decode cX0_locateBalance 76 = .ok (.goto (-65), 3) := by decide +kernel
theorem dX0_locateBalance_79 : decode cX0_locateBalance 79 = .ok (.aload_n 1, 1) := by decide +kernel
theorem dX0_locateBalance_80 : decode cX0_locateBalance 80 = .ok (.lload_n 2, 1) := by decide +kernel
theorem dX0_locateBalance_81 : decode cX0_locateBalance 81 = .ok (.lload 4, 2) := by decide +kernel
theorem dX0_locateBalance_83 : decode cX0_locateBalance 83 = .ok (.lload 6, 2) := by decide +kernel
theorem dX0_locateBalance_85 : decode cX0_locateBalance 85 = .ok (.invokevirtual 32, 3) := by decide +kernel
theorem dX0_locateBalance_88 : decode cX0_locateBalance 88 = .ok (.lload 6, 2) := by decide +kernel
theorem dX0_locateBalance_90 : decode cX0_locateBalance 90 = .ok (.lconst 0, 1) := by decide +kernel
theorem dX0_locateBalance_91 : decode cX0_locateBalance 91 = .ok (.lcmp, 1) := by decide +kernel
theorem dX0_locateBalance_92 : decode cX0_locateBalance 92 = .ok (.ifCond .eq 7, 3) := by decide +kernel
theorem dX0_locateBalance_95 : decode cX0_locateBalance 95 = .ok (.iconst 1, 1) := by decide +kernel
theorem dX0_locateBalance_96 : decode cX0_locateBalance 96 = .ok (.goto 4, 3) := by decide +kernel
theorem dX0_locateBalance_99 : decode cX0_locateBalance 99 = .ok (.iconst 0, 1) := by decide +kernel
theorem dX0_locateBalance_100 : decode cX0_locateBalance 100 = .ok (.ireturn, 1) := by decide +kernel
set_option maxRecDepth 100000 in
set_option maxHeartbeats 4000000 in
theorem wX0_locateBalance_L11 {p : Program} {l : Launch} {e : Env} {R : Room} {s : State} {m : MethodId} {args : Array Value} {below : List Frame} {meth : Method} {c : Code} {Q : State → Prop} {A : Nat → Prop} {dC : Nat → ClassId} {dI : Nat → Nat → Nat} {cI cL cB : ClassId} {K : Nat} (C0 : Sx p R s m args c cX0_locateBalance 9 RX0 A dC dI cI cL cB 3 73) (h_t h_t_x h_t_y h_t_colour h_t_load h_p1 : Nat) (t_size : Int32) (t_centreX : Int32) (t_centreY : Int32) (t_x : Nat → Int32) (t_y : Nat → Int32) (t_load : Nat → Int32) (p1_x : Int64) (p1_y : Int64) (p1_lower : Int64) : ∀ (n : Nat) (l2 : Int64) (l4 : Int64) (l6 : Int64) (l8 : Int32) (x2_ : Int64) (x4_ : Int64) (x6_ : Int64) (H : Heap) (locs : List Loc) (ls : Array Slot), va_P (dC, dI) vwCl [(h_t, .inr (0, [.ref h_t_x, .ref h_t_y, .ref h_t_colour, .ref h_t_load, .int t_size, .int t_centreX, .int t_centreY])), (h_t_x, .inl (cI, 24, .inl t_x)), (h_t_y, .inl (cI, 24, .inl t_y)), (h_t_load, .inl (cI, 24, .inl t_load)), (h_p1, .inr (6, [.long p1_x, .long p1_y, .long p1_lower]))] H → va_D A [(h_t, .inr (0, [.ref h_t_x, .ref h_t_y, .ref h_t_colour, .ref h_t_load, .int t_size, .int t_centreX, .int t_centreY])), (h_t_x, .inl (cI, 24, .inl t_x)), (h_t_y, .inl (cI, 24, .inl t_y)), (h_t_load, .inl (cI, 24, .inl t_load)), (h_p1, .inr (6, [.long p1_x, .long p1_y, .long p1_lower]))] → va_S A s.heap H locs → lv_has ls 9 [(0, .ref h_t), (1, .ref h_p1), (2, .long l2), (4, .long l4), (6, .long l6), (8, .int l8)] → fX0_locateBalance_L11 K t_size t_x t_y t_load n l2 l4 l6 l8 = some (x2_, x4_, x6_) → (∀ (H : Heap) (locs : List Loc) (ls : Array Slot), va_P (dC, dI) vwCl [(h_t, .inr (0, [.ref h_t_x, .ref h_t_y, .ref h_t_colour, .ref h_t_load, .int t_size, .int t_centreX, .int t_centreY])), (h_t_x, .inl (cI, 24, .inl t_x)), (h_t_y, .inl (cI, 24, .inl t_y)), (h_t_load, .inl (cI, 24, .inl t_load)), (h_p1, .inr (6, [.long p1_x, .long p1_y, .long p1_lower]))] H → va_D A [(h_t, .inr (0, [.ref h_t_x, .ref h_t_y, .ref h_t_colour, .ref h_t_load, .int t_size, .int t_centreX, .int t_centreY])), (h_t_x, .inl (cI, 24, .inl t_x)), (h_t_y, .inl (cI, 24, .inl t_y)), (h_t_load, .inl (cI, 24, .inl t_load)), (h_p1, .inr (6, [.long p1_x, .long p1_y, .long p1_lower]))] → va_S A s.heap H locs → lv_has ls 9 [(1, .ref h_p1), (2, .long x2_), (4, .long x4_), (6, .long x6_)] → W p l e R s m args below meth c H locs 0 0 Q (F0 m 79 ls [])) → W p l e R s m args below meth c H locs 0 0 Q (F0 m 11 ls []) := by
  obtain ⟨hx, hb, hml, hown, hts, hK, hT, hA, hF, hLo⟩ := id C0
  intro n
  induction n with
  | zero =>
    intro l2 l4 l6 l8 x2_ x4_ x6_ H locs ls hP hD hS hl hf
    rw [fX0_locateBalance_L11] at hf
    cases hf
  | succ n ih =>
    intro l2 l4 l6 l8 x2_ x4_ x6_ H locs ls hP hD hS hl hf hk
    rw [fX0_locateBalance_L11] at hf
    refine lv_iload hx hb dX0_locateBalance_11 (lv_at hl 5 rfl) ?_
    refine lv_aload_n hx hb dX0_locateBalance_13 rfl (lv_at hl 0 rfl) ?_
    refine va_get (D := (dC, dI)) (ci := 0) (v := .int t_size) (C := RX0) (T := TX0) (N := 7) hx hb hts in_X0 hown hK hP 0 rfl rfl 4 (Nat.le_of_ble_eq_true rfl) (hts _ qf_X0_24) (fun _ h9 => h9) rfl dX0_locateBalance_14 ?_
    refine lv_icmp_ge (tgt := 79) hx hb dX0_locateBalance_17 (by decide) (fun hc => ?_) (fun hc => ?_)
    · replace hf := it_t (hc) hf
      obtain ⟨rfl, rfl, rfl⟩ := o3 hf
      exact hk H locs ls hP hD hS (lv_sub hl [1, 2, 3, 4] rfl)
    · replace hf := it_f (hc) hf
      refine lv_lload_n hx hb dX0_locateBalance_20 rfl (lv_at hl 2 rfl) ?_
      refine lv_aload_n hx hb dX0_locateBalance_21 rfl (lv_at hl 0 rfl) ?_
      refine va_get (D := (dC, dI)) (ci := 0) (v := .ref h_t_load) (C := RX0) (T := TX0) (N := 7) hx hb hts in_X0 hown hK hP 0 rfl rfl 3 (Nat.le_of_ble_eq_true rfl) (hts _ qf_X0_21) (fun _ h9 => h9) rfl dX0_locateBalance_22 ?_
      refine lv_iload hx hb dX0_locateBalance_25 (lv_at hl 5 rfl) ?_
      obtain ⟨hg_1, hf⟩ := gd_some hf
      refine va_iald hx hb hK hP 3 0 rfl rfl (inb_in hg_1) dX0_locateBalance_27 ?_
      refine lv_aload_n hx hb dX0_locateBalance_28 rfl (lv_at hl 0 rfl) ?_
      refine va_get (D := (dC, dI)) (ci := 0) (v := .ref h_t_x) (C := RX0) (T := TX0) (N := 7) hx hb hts in_X0 hown hK hP 0 rfl rfl 0 (Nat.le_of_ble_eq_true rfl) (hts _ qf_X0_9) (fun _ h9 => h9) rfl dX0_locateBalance_29 ?_
      refine lv_iload hx hb dX0_locateBalance_32 (lv_at hl 5 rfl) ?_
      obtain ⟨hg_2, hf⟩ := gd_some hf
      refine va_iald hx hb hK hP 1 0 rfl rfl (inb_in hg_2) dX0_locateBalance_34 ?_
      refine lv_imul hx hb dX0_locateBalance_35 ?_
      refine lv_i2l hx hb dX0_locateBalance_36 rfl ?_
      refine lv_ladd hx hb dX0_locateBalance_37 ?_
      refine lv_topl (fun l2_3 el2_3 => ?_)
      replace hf := xl_at hf el2_3
      refine lv_lstore_n (lv' := [(2, .long l2_3), (0, .ref h_t), (1, .ref h_p1), (4, .long l4), (6, .long l6), (8, .int l8)]) hx hb dX0_locateBalance_38 rfl hl (Nat.le_of_ble_eq_true rfl) rfl (fun ls hl => ?_)
      refine lv_lload hx hb dX0_locateBalance_39 (lv_at hl 3 rfl) ?_
      refine lv_aload_n hx hb dX0_locateBalance_41 rfl (lv_at hl 1 rfl) ?_
      refine va_get (D := (dC, dI)) (ci := 0) (v := .ref h_t_load) (C := RX0) (T := TX0) (N := 7) hx hb hts in_X0 hown hK hP 0 rfl rfl 3 (Nat.le_of_ble_eq_true rfl) (hts _ qf_X0_21) (fun _ h9 => h9) rfl dX0_locateBalance_42 ?_
      refine lv_iload hx hb dX0_locateBalance_45 (lv_at hl 5 rfl) ?_
      obtain ⟨hg_4, hf⟩ := gd_some hf
      refine va_iald hx hb hK hP 3 0 rfl rfl (inb_in hg_4) dX0_locateBalance_47 ?_
      refine lv_aload_n hx hb dX0_locateBalance_48 rfl (lv_at hl 1 rfl) ?_
      refine va_get (D := (dC, dI)) (ci := 0) (v := .ref h_t_y) (C := RX0) (T := TX0) (N := 7) hx hb hts in_X0 hown hK hP 0 rfl rfl 1 (Nat.le_of_ble_eq_true rfl) (hts _ qf_X0_15) (fun _ h9 => h9) rfl dX0_locateBalance_49 ?_
      refine lv_iload hx hb dX0_locateBalance_52 (lv_at hl 5 rfl) ?_
      obtain ⟨hg_5, hf⟩ := gd_some hf
      refine va_iald hx hb hK hP 2 0 rfl rfl (inb_in hg_5) dX0_locateBalance_54 ?_
      refine lv_imul hx hb dX0_locateBalance_55 ?_
      refine lv_i2l hx hb dX0_locateBalance_56 rfl ?_
      refine lv_ladd hx hb dX0_locateBalance_57 ?_
      refine lv_topl (fun l4_6 el4_6 => ?_)
      replace hf := xl_at hf el4_6
      refine lv_lstore (lv' := [(4, .long l4_6), (2, .long l2_3), (0, .ref h_t), (1, .ref h_p1), (6, .long l6), (8, .int l8)]) hx hb dX0_locateBalance_58 hl (Nat.le_of_ble_eq_true rfl) rfl (fun ls hl => ?_)
      refine lv_lload hx hb dX0_locateBalance_60 (lv_at hl 4 rfl) ?_
      refine lv_aload_n hx hb dX0_locateBalance_62 rfl (lv_at hl 2 rfl) ?_
      refine va_get (D := (dC, dI)) (ci := 0) (v := .ref h_t_load) (C := RX0) (T := TX0) (N := 7) hx hb hts in_X0 hown hK hP 0 rfl rfl 3 (Nat.le_of_ble_eq_true rfl) (hts _ qf_X0_21) (fun _ h9 => h9) rfl dX0_locateBalance_63 ?_
      refine lv_iload hx hb dX0_locateBalance_66 (lv_at hl 5 rfl) ?_
      obtain ⟨hg_7, hf⟩ := gd_some hf
      refine va_iald hx hb hK hP 3 0 rfl rfl (inb_in hg_7) dX0_locateBalance_68 ?_
      refine lv_i2l hx hb dX0_locateBalance_69 rfl ?_
      refine lv_ladd hx hb dX0_locateBalance_70 ?_
      refine lv_topl (fun l6_8 el6_8 => ?_)
      replace hf := xl_at hf el6_8
      refine lv_lstore (lv' := [(6, .long l6_8), (4, .long l4_6), (2, .long l2_3), (0, .ref h_t), (1, .ref h_p1), (8, .int l8)]) hx hb dX0_locateBalance_71 hl (Nat.le_of_ble_eq_true rfl) rfl (fun ls hl => ?_)
      obtain ⟨l8_9, el8_9⟩ : ∃ y : Int32, y = l8 + (1 : Int32) := ⟨_, rfl⟩
      replace hf := xl_at hf el8_9
      refine lv_iinc (v := l8_9) (lv' := [(8, .int l8_9), (6, .long l6_8), (4, .long l4_6), (2, .long l2_3), (0, .ref h_t), (1, .ref h_p1)]) hx hb dX0_locateBalance_73 hl (k := 5) rfl (by rw [el8_9]; rfl) (Nat.le_of_ble_eq_true rfl) rfl (fun ls hl => ?_)
      refine lv_goto (tgt := 11) hx hb dX0_locateBalance_76 (by decide) ?_
      exact ih l2_3 l4_6 l6_8 l8_9 _ _ _ H locs ls hP hD hS (lv_sub hl [4, 5, 3, 2, 1, 0] rfl) hf hk
set_option maxRecDepth 100000 in
set_option maxHeartbeats 4000000 in
theorem mtX0_locateBalance (l : Launch) (dC : Nat → ClassId) (dI : Nat → Nat → Nat) (cI cL cB : ClassId) (K : Nat) (h_t h_t_x h_t_y h_t_colour h_t_load h_p1 : Nat) (sz : Nat) (t_size : Int32) (t_centreX : Int32) (t_centreY : Int32) (t_x : Nat → Int32) (t_y : Nat → Int32) (t_load : Nat → Int32) (p1_x : Int64) (p1_y : Int64) (p1_lower : Int64) (o_r : Int32) (o_p1_x : Int64) (o_p1_y : Int64) (o_p1_lower : Int64) (hf : fX0_locateBalance K t_size t_x t_y t_load p1_x p1_y p1_lower = some (o_r, o_p1_x, o_p1_y, o_p1_lower)) : Met l yX0_locateBalance [Cond.code yX0_locateBalance cX0_locateBalance 9 (some .boolean)] ({ frames := 3, cells := 0, slots := 0, locals := 73 }) (va_Pc [.ref h_t, .ref h_p1] (cPre dC dI cI cL cB sz [(h_t, .inr (0, [.ref h_t_x, .ref h_t_y, .ref h_t_colour, .ref h_t_load, .int t_size, .int t_centreX, .int t_centreY])), (h_t_x, .inl (cI, 24, .inl t_x)), (h_t_y, .inl (cI, 24, .inl t_y)), (h_t_load, .inl (cI, 24, .inl t_load)), (h_p1, .inr (6, [.long p1_x, .long p1_y, .long p1_lower]))])) (cQi dC dI (va_A [(h_t, .inr (0, [.ref h_t_x, .ref h_t_y, .ref h_t_colour, .ref h_t_load, .int t_size, .int t_centreX, .int t_centreY])), (h_t_x, .inl (cI, 24, .inl t_x)), (h_t_y, .inl (cI, 24, .inl t_y)), (h_t_load, .inl (cI, 24, .inl t_load)), (h_p1, .inr (6, [.long p1_x, .long p1_y, .long p1_lower]))] sz) o_r [(h_t, .inr (0, [.ref h_t_x, .ref h_t_y, .ref h_t_colour, .ref h_t_load, .int t_size, .int t_centreX, .int t_centreY])), (h_t_x, .inl (cI, 24, .inl t_x)), (h_t_y, .inl (cI, 24, .inl t_y)), (h_t_load, .inl (cI, 24, .inl t_load)), (h_p1, .inr (6, [.long o_p1_x, .long o_p1_y, .long o_p1_lower]))]) 0 0 (va_A [(h_t, .inr (0, [.ref h_t_x, .ref h_t_y, .ref h_t_colour, .ref h_t_load, .int t_size, .int t_centreX, .int t_centreY])), (h_t_x, .inl (cI, 24, .inl t_x)), (h_t_y, .inl (cI, 24, .inl t_y)), (h_t_load, .inl (cI, 24, .inl t_load)), (h_p1, .inr (6, [.long p1_x, .long p1_y, .long p1_lower]))] sz) := by
  refine Met.ofW (cc := cX0_locateBalance) (maxL := 9) (ret := (some .boolean)) (by decide) rfl ?_
  intro p e s m args below meth c s₁ B hml hv
  obtain ⟨rfl, hsz, hP, hK, hD0, hT⟩ := hv
  have hx := B.exec
  have hb := B.bytes
  have hr := B.returns
  have hown : s.vm.findClass RX0 = some m.cls := findClass_of_methodNamed B.named
  have hlocks := B.notSynchronized
  have hts := TB.use hT ([.ref h_t, .ref h_p1] : List Value).toArray
  subst hsz
  have hD := hD0.self (sz := s.heap.size)
  generalize hAe : va_A [(h_t, .inr (0, [.ref h_t_x, .ref h_t_y, .ref h_t_colour, .ref h_t_load, .int t_size, .int t_centreX, .int t_centreY])), (h_t_x, .inl (cI, 24, .inl t_x)), (h_t_y, .inl (cI, 24, .inl t_y)), (h_t_load, .inl (cI, 24, .inl t_load)), (h_p1, .inr (6, [.long p1_x, .long p1_y, .long p1_lower]))] s.heap.size = A at hD ⊢
  have hA : ∀ q : Nat, s.heap.size ≤ q → A q := fun q h => by rw [← hAe]; exact Or.inr h
  clear hAe hD0
  have hl := lv_entry ([.ref h_t, .ref h_p1]) (n := 9) (Nat.le_of_ble_eq_true rfl)
  rw [lg_entry_eq]
  generalize (lg_sl ([.ref h_t, .ref h_p1]) ++ List.replicate (9 - (lg_sl ([.ref h_t, .ref h_p1])).length) Slot.unset).toArray = ls at hl ⊢
  have hl : lv_has ls 9 [(0, .ref h_t), (1, .ref h_p1)] := hl
  have hF : 3 ≤ (headSpec [Cond.code yX0_locateBalance cX0_locateBalance 9 (some .boolean)] ({ frames := 3, cells := 0, slots := 0, locals := 73 })).room.frames := Nat.le_refl _
  have hLo : 73 ≤ (headSpec [Cond.code yX0_locateBalance cX0_locateBalance 9 (some .boolean)] ({ frames := 3, cells := 0, slots := 0, locals := 73 })).room.locals := Nat.le_refl _
  have C0 : Sx p (headSpec [Cond.code yX0_locateBalance cX0_locateBalance 9 (some .boolean)] ({ frames := 3, cells := 0, slots := 0, locals := 73 })).room s m ([.ref h_t, .ref h_p1] : List Value).toArray c cX0_locateBalance 9 RX0 A dC dI cI cL cB 3 73 := ⟨hx, hb, hml, hown, hts, hK, hT, hA, hF, hLo⟩
  refine startH (A := A) hP (fun H locs hP hS => ?_)
  rw [fX0_locateBalance] at hf
  refine lv_lconst (v := (0 : Int64)) hx hb dX0_locateBalance_0 (by decide) ?_
  refine lv_lstore_n (lv' := [(2, .long (0 : Int64)), (0, .ref h_t), (1, .ref h_p1)]) hx hb dX0_locateBalance_1 rfl hl (Nat.le_of_ble_eq_true rfl) rfl (fun ls hl => ?_)
  refine lv_lconst (v := (0 : Int64)) hx hb dX0_locateBalance_2 (by decide) ?_
  refine lv_lstore (lv' := [(4, .long (0 : Int64)), (2, .long (0 : Int64)), (0, .ref h_t), (1, .ref h_p1)]) hx hb dX0_locateBalance_3 hl (Nat.le_of_ble_eq_true rfl) rfl (fun ls hl => ?_)
  refine lv_lconst (v := (0 : Int64)) hx hb dX0_locateBalance_5 (by decide) ?_
  refine lv_lstore (lv' := [(6, .long (0 : Int64)), (4, .long (0 : Int64)), (2, .long (0 : Int64)), (0, .ref h_t), (1, .ref h_p1)]) hx hb dX0_locateBalance_6 hl (Nat.le_of_ble_eq_true rfl) rfl (fun ls hl => ?_)
  refine lv_iconst (v := (0 : Int32)) hx hb dX0_locateBalance_8 (by decide) ?_
  refine lv_istore (lv' := [(8, .int (0 : Int32)), (6, .long (0 : Int64)), (4, .long (0 : Int64)), (2, .long (0 : Int64)), (0, .ref h_t), (1, .ref h_p1)]) hx hb dX0_locateBalance_9 hl (Nat.le_of_ble_eq_true rfl) rfl (fun ls hl => ?_)
  obtain ⟨l2_11, l4_12, l6_13, hq_10, hf⟩ := b3_some hf
  refine wX0_locateBalance_L11 C0 h_t h_t_x h_t_y h_t_colour h_t_load h_p1 t_size t_centreX t_centreY t_x t_y t_load p1_x p1_y p1_lower K (0 : Int64) (0 : Int64) (0 : Int64) (0 : Int32) l2_11 l4_12 l6_13 H locs ls hP hD hS (lv_sub hl [4, 5, 3, 2, 1, 0] rfl) hq_10 ?_
  intro H locs ls hP hD hS hl
  refine lv_aload_n hx hb dX0_locateBalance_79 rfl (lv_at hl 0 rfl) ?_
  refine lv_lload_n hx hb dX0_locateBalance_80 rfl (lv_at hl 1 rfl) ?_
  refine lv_lload hx hb dX0_locateBalance_81 (lv_at hl 2 rfl) ?_
  refine lv_lload hx hb dX0_locateBalance_83 (lv_at hl 3 rfl) ?_
  obtain ⟨p1_x_14, p1_y_15, p1_lower_16, hq_17, hf⟩ := b3_some hf
  refine xcv (wr := [(h_t, .inr (0, [.ref h_t_x, .ref h_t_y, .ref h_t_colour, .ref h_t_load, .int t_size, .int t_centreX, .int t_centreY])), (h_t_x, .inl (cI, 24, .inl t_x)), (h_t_y, .inl (cI, 24, .inl t_y)), (h_t_load, .inl (cI, 24, .inl t_load))]) (w2 := [(h_t, .inr (0, [.ref h_t_x, .ref h_t_y, .ref h_t_colour, .ref h_t_load, .int t_size, .int t_centreX, .int t_centreY])), (h_t_x, .inl (cI, 24, .inl t_x)), (h_t_y, .inl (cI, 24, .inl t_y)), (h_t_load, .inl (cI, 24, .inl t_load)), (h_p1, .inr (6, [.long p1_x_14, .long p1_y_15, .long p1_lower_16]))]) (va_runV (As := [.long l2_11, .long l4_12, .long l6_13]) (rest := []) ⟨hx, hb, hml, hown, hts⟩ (mtX6_put l dC dI cI cL cB K h_p1 H.size p1_x p1_y p1_lower l2_11 l4_12 l6_13 p1_x_14 p1_y_15 p1_lower_16 hq_17) (cwV 3 hts gv_X0_32 rfl rfl rfl hdV_X6_put ⟨Nat.le_trans (Nat.le_of_ble_eq_true rfl) hF, Nat.le_trans (Nat.le_of_ble_eq_true rfl) hLo⟩) (cPreV hK hP hD hT [4] rfl rfl (ci := 6) (q0 := 0) rfl rfl) rfl rfl hl.1 rfl (lv_room (Nat.le_of_ble_eq_true rfl)) dX0_locateBalance_85 ⟨Nat.zero_le _, Nat.zero_le _⟩) hP hD hS hA [4] [0, 1, 2, 3] [0, 1, 2, 3, 4] rfl rfl rfl rfl rfl rfl (fun H locs hP hD hS => ?_)
  refine lv_lload hx hb dX0_locateBalance_88 (lv_at hl 3 rfl) ?_
  refine lv_lconst (v := (0 : Int64)) hx hb dX0_locateBalance_90 (by decide) ?_
  refine W.lcmp hx hb dX0_locateBalance_91 ?_
  refine lv_if_eq (tgt := 99) hx hb dX0_locateBalance_92 (by decide) (fun hc => ?_) (fun hc => ?_)
  · replace hf := it_t ((lg_cmp_eq _ _).mp hc) hf
    refine lv_iconst (v := (0 : Int32)) hx hb dX0_locateBalance_99 (by decide) ?_
    obtain ⟨rfl, rfl, rfl, rfl⟩ := o4 hf
    exact W.zret hx hb hr rfl (fun t ht hW => ⟨⟨_, (), rfl, rfl, by rw [ht]; exact hP, hD⟩, hS.F ht⟩) hS.2.2 dX0_locateBalance_100
  · replace hf := it_f (fun h9 => hc ((lg_cmp_eq _ _).mpr h9)) hf
    refine lv_iconst (v := (1 : Int32)) hx hb dX0_locateBalance_95 (by decide) ?_
    refine lv_goto (tgt := 100) hx hb dX0_locateBalance_96 (by decide) ?_
    obtain ⟨rfl, rfl, rfl, rfl⟩ := o4 hf
    exact W.zret hx hb hr rfl (fun t ht hW => ⟨⟨_, (), rfl, rfl, by rw [ht]; exact hP, hD⟩, hS.F ht⟩) hS.2.2 dX0_locateBalance_100
theorem dX11_balance_0 : decode cX11_balance 0 = .ok (.aload_n 0, 1) := by decide +kernel
theorem dX11_balance_1 : decode cX11_balance 1 = .ok (.getfield 12, 3) := by decide +kernel
theorem dX11_balance_4 : decode cX11_balance 4 = .ok (.aload_n 0, 1) := by decide +kernel
theorem dX11_balance_5 : decode cX11_balance 5 = .ok (.getfield 84, 3) := by decide +kernel
theorem dX11_balance_8 : decode cX11_balance 8 = .ok (.invokevirtual 236, 3) := by decide +kernel
theorem dX11_balance_11 : decode cX11_balance 11 = .ok (.ifCond .ne 7, 3) := by decide +kernel
theorem dX11_balance_14 : decode cX11_balance 14 = .ok (.ldc2_w 131, 3) := by decide +kernel
theorem dX11_balance_17 : decode cX11_balance 17 = .ok (.lreturn, 1) := by decide +kernel
theorem dX11_balance_18 : decode cX11_balance 18 = .ok (.aload_n 0, 1) := by decide +kernel
theorem dX11_balance_19 : decode cX11_balance 19 = .ok (.getfield 84, 3) := by decide +kernel
theorem dX11_balance_22 : decode cX11_balance 22 = .ok (.iload_n 1, 1) := by decide +kernel
theorem dX11_balance_23 : decode cX11_balance 23 = .ok (.i2l, 1) := by decide +kernel
theorem dX11_balance_24 : decode cX11_balance 24 = .ok (.invokestatic 232, 3) := by decide +kernel
theorem dX11_balance_27 : decode cX11_balance 27 = .ok (.lreturn, 1) := by decide +kernel
set_option maxRecDepth 100000 in
set_option maxHeartbeats 4000000 in
theorem mtX11_balance (l : Launch) (dC : Nat → ClassId) (dI : Nat → Nat → Nat) (cI cL cB : ClassId) (K : Nat) (h_t h_t_cloud h_t_reader h_t_hull h_t_near h_t_firstTie h_t_reducer h_t_chooser h_t_pair h_t_divider h_t_depths h_t_spot h_t_cloud_x h_t_cloud_y h_t_cloud_colour h_t_cloud_load : Nat) (sz : Nat) (t_cloud_size : Int32) (t_cloud_centreX : Int32) (t_cloud_centreY : Int32) (t_cloud_x : Nat → Int32) (t_cloud_y : Nat → Int32) (t_cloud_load : Nat → Int32) (t_spot_x : Int64) (t_spot_y : Int64) (t_spot_lower : Int64) (a1 : Int32) (o_r : Int64) (o_t_spot_x : Int64) (o_t_spot_y : Int64) (o_t_spot_lower : Int64) (hf : fX11_balance K t_cloud_size t_cloud_x t_cloud_y t_cloud_load t_spot_x t_spot_y t_spot_lower a1 = some (o_r, o_t_spot_x, o_t_spot_y, o_t_spot_lower)) : Met l yX11_balance [Cond.code yX11_balance cX11_balance 2 (some .long)] ({ frames := 4, cells := 0, slots := 0, locals := 101 }) (va_Pc [.ref h_t, .int a1] (cPre dC dI cI cL cB sz [(h_t, .inr (11, [.ref h_t_cloud, .ref h_t_reader, .ref h_t_hull, .ref h_t_near, .ref h_t_firstTie, .ref h_t_reducer, .ref h_t_chooser, .ref h_t_pair, .ref h_t_divider, .ref h_t_depths, .ref h_t_spot])), (h_t_cloud, .inr (0, [.ref h_t_cloud_x, .ref h_t_cloud_y, .ref h_t_cloud_colour, .ref h_t_cloud_load, .int t_cloud_size, .int t_cloud_centreX, .int t_cloud_centreY])), (h_t_cloud_x, .inl (cI, 24, .inl t_cloud_x)), (h_t_cloud_y, .inl (cI, 24, .inl t_cloud_y)), (h_t_cloud_load, .inl (cI, 24, .inl t_cloud_load)), (h_t_spot, .inr (6, [.long t_spot_x, .long t_spot_y, .long t_spot_lower]))])) (cQl dC dI (va_A [(h_t, .inr (11, [.ref h_t_cloud, .ref h_t_reader, .ref h_t_hull, .ref h_t_near, .ref h_t_firstTie, .ref h_t_reducer, .ref h_t_chooser, .ref h_t_pair, .ref h_t_divider, .ref h_t_depths, .ref h_t_spot])), (h_t_cloud, .inr (0, [.ref h_t_cloud_x, .ref h_t_cloud_y, .ref h_t_cloud_colour, .ref h_t_cloud_load, .int t_cloud_size, .int t_cloud_centreX, .int t_cloud_centreY])), (h_t_cloud_x, .inl (cI, 24, .inl t_cloud_x)), (h_t_cloud_y, .inl (cI, 24, .inl t_cloud_y)), (h_t_cloud_load, .inl (cI, 24, .inl t_cloud_load)), (h_t_spot, .inr (6, [.long t_spot_x, .long t_spot_y, .long t_spot_lower]))] sz) o_r [(h_t, .inr (11, [.ref h_t_cloud, .ref h_t_reader, .ref h_t_hull, .ref h_t_near, .ref h_t_firstTie, .ref h_t_reducer, .ref h_t_chooser, .ref h_t_pair, .ref h_t_divider, .ref h_t_depths, .ref h_t_spot])), (h_t_cloud, .inr (0, [.ref h_t_cloud_x, .ref h_t_cloud_y, .ref h_t_cloud_colour, .ref h_t_cloud_load, .int t_cloud_size, .int t_cloud_centreX, .int t_cloud_centreY])), (h_t_cloud_x, .inl (cI, 24, .inl t_cloud_x)), (h_t_cloud_y, .inl (cI, 24, .inl t_cloud_y)), (h_t_cloud_load, .inl (cI, 24, .inl t_cloud_load)), (h_t_spot, .inr (6, [.long o_t_spot_x, .long o_t_spot_y, .long o_t_spot_lower]))]) 0 0 (va_A [(h_t, .inr (11, [.ref h_t_cloud, .ref h_t_reader, .ref h_t_hull, .ref h_t_near, .ref h_t_firstTie, .ref h_t_reducer, .ref h_t_chooser, .ref h_t_pair, .ref h_t_divider, .ref h_t_depths, .ref h_t_spot])), (h_t_cloud, .inr (0, [.ref h_t_cloud_x, .ref h_t_cloud_y, .ref h_t_cloud_colour, .ref h_t_cloud_load, .int t_cloud_size, .int t_cloud_centreX, .int t_cloud_centreY])), (h_t_cloud_x, .inl (cI, 24, .inl t_cloud_x)), (h_t_cloud_y, .inl (cI, 24, .inl t_cloud_y)), (h_t_cloud_load, .inl (cI, 24, .inl t_cloud_load)), (h_t_spot, .inr (6, [.long t_spot_x, .long t_spot_y, .long t_spot_lower]))] sz) := by
  refine Met.ofW (cc := cX11_balance) (maxL := 2) (ret := (some .long)) (by decide) rfl ?_
  intro p e s m args below meth c s₁ B hml hv
  obtain ⟨rfl, hsz, hP, hK, hD0, hT⟩ := hv
  have hx := B.exec
  have hb := B.bytes
  have hr := B.returns
  have hown : s.vm.findClass RX11 = some m.cls := findClass_of_methodNamed B.named
  have hlocks := B.notSynchronized
  have hts := TB.use hT ([.ref h_t, .int a1] : List Value).toArray
  subst hsz
  have hD := hD0.self (sz := s.heap.size)
  generalize hAe : va_A [(h_t, .inr (11, [.ref h_t_cloud, .ref h_t_reader, .ref h_t_hull, .ref h_t_near, .ref h_t_firstTie, .ref h_t_reducer, .ref h_t_chooser, .ref h_t_pair, .ref h_t_divider, .ref h_t_depths, .ref h_t_spot])), (h_t_cloud, .inr (0, [.ref h_t_cloud_x, .ref h_t_cloud_y, .ref h_t_cloud_colour, .ref h_t_cloud_load, .int t_cloud_size, .int t_cloud_centreX, .int t_cloud_centreY])), (h_t_cloud_x, .inl (cI, 24, .inl t_cloud_x)), (h_t_cloud_y, .inl (cI, 24, .inl t_cloud_y)), (h_t_cloud_load, .inl (cI, 24, .inl t_cloud_load)), (h_t_spot, .inr (6, [.long t_spot_x, .long t_spot_y, .long t_spot_lower]))] s.heap.size = A at hD ⊢
  have hA : ∀ q : Nat, s.heap.size ≤ q → A q := fun q h => by rw [← hAe]; exact Or.inr h
  clear hAe hD0
  have hl := lv_entry ([.ref h_t, .int a1]) (n := 2) (Nat.le_of_ble_eq_true rfl)
  rw [lg_entry_eq]
  generalize (lg_sl ([.ref h_t, .int a1]) ++ List.replicate (2 - (lg_sl ([.ref h_t, .int a1])).length) Slot.unset).toArray = ls at hl ⊢
  have hl : lv_has ls 2 [(0, .ref h_t), (1, .int a1)] := hl
  have hF : 4 ≤ (headSpec [Cond.code yX11_balance cX11_balance 2 (some .long)] ({ frames := 4, cells := 0, slots := 0, locals := 101 })).room.frames := Nat.le_refl _
  have hLo : 101 ≤ (headSpec [Cond.code yX11_balance cX11_balance 2 (some .long)] ({ frames := 4, cells := 0, slots := 0, locals := 101 })).room.locals := Nat.le_refl _
  have C0 : Sx p (headSpec [Cond.code yX11_balance cX11_balance 2 (some .long)] ({ frames := 4, cells := 0, slots := 0, locals := 101 })).room s m ([.ref h_t, .int a1] : List Value).toArray c cX11_balance 2 RX11 A dC dI cI cL cB 4 101 := ⟨hx, hb, hml, hown, hts, hK, hT, hA, hF, hLo⟩
  refine startH (A := A) hP (fun H locs hP hS => ?_)
  rw [fX11_balance] at hf
  refine lv_aload_n hx hb dX11_balance_0 rfl (lv_at hl 0 rfl) ?_
  refine va_get (D := (dC, dI)) (ci := 11) (v := .ref h_t_cloud) (C := RX11) (T := TX11) (N := 11) hx hb hts in_X11 hown hK hP 0 rfl rfl 0 (Nat.le_of_ble_eq_true rfl) (hts _ qf_X11_12) (fun _ h9 => h9) rfl dX11_balance_1 ?_
  refine lv_aload_n hx hb dX11_balance_4 rfl (lv_at hl 0 rfl) ?_
  refine va_get (D := (dC, dI)) (ci := 11) (v := .ref h_t_spot) (C := RX11) (T := TX11) (N := 11) hx hb hts in_X11 hown hK hP 0 rfl rfl 10 (Nat.le_of_ble_eq_true rfl) (hts _ qf_X11_84) (fun _ h9 => h9) rfl dX11_balance_5 ?_
  obtain ⟨r_1, t_spot_x_2, t_spot_y_3, t_spot_lower_4, hq_5, hf⟩ := b4_some hf
  refine xci (wr := [(h_t, .inr (11, [.ref h_t_cloud, .ref h_t_reader, .ref h_t_hull, .ref h_t_near, .ref h_t_firstTie, .ref h_t_reducer, .ref h_t_chooser, .ref h_t_pair, .ref h_t_divider, .ref h_t_depths, .ref h_t_spot]))]) (w2 := [(h_t, .inr (11, [.ref h_t_cloud, .ref h_t_reader, .ref h_t_hull, .ref h_t_near, .ref h_t_firstTie, .ref h_t_reducer, .ref h_t_chooser, .ref h_t_pair, .ref h_t_divider, .ref h_t_depths, .ref h_t_spot])), (h_t_cloud, .inr (0, [.ref h_t_cloud_x, .ref h_t_cloud_y, .ref h_t_cloud_colour, .ref h_t_cloud_load, .int t_cloud_size, .int t_cloud_centreX, .int t_cloud_centreY])), (h_t_cloud_x, .inl (cI, 24, .inl t_cloud_x)), (h_t_cloud_y, .inl (cI, 24, .inl t_cloud_y)), (h_t_cloud_load, .inl (cI, 24, .inl t_cloud_load)), (h_t_spot, .inr (6, [.long t_spot_x_2, .long t_spot_y_3, .long t_spot_lower_4]))]) (va_runV (As := [.ref h_t_spot]) (rest := []) ⟨hx, hb, hml, hown, hts⟩ (mtX0_locateBalance l dC dI cI cL cB K h_t_cloud h_t_cloud_x h_t_cloud_y h_t_cloud_colour h_t_cloud_load h_t_spot H.size t_cloud_size t_cloud_centreX t_cloud_centreY t_cloud_x t_cloud_y t_cloud_load t_spot_x t_spot_y t_spot_lower r_1 t_spot_x_2 t_spot_y_3 t_spot_lower_4 hq_5) (cwV 1 hts gv_X11_236 rfl rfl rfl hdV_X0_locateBalance ⟨Nat.le_trans (Nat.le_of_ble_eq_true rfl) hF, Nat.le_trans (Nat.le_of_ble_eq_true rfl) hLo⟩) (cPreV hK hP hD hT [1, 2, 3, 4, 5] rfl rfl (ci := 0) (q0 := 0) rfl rfl) rfl rfl hl.1 rfl (lv_room (Nat.le_of_ble_eq_true rfl)) dX11_balance_8 ⟨Nat.zero_le _, Nat.zero_le _⟩) hP hD hS hA [1, 2, 3, 4, 5] [0] [0, 1, 2, 3, 4, 5] rfl rfl rfl rfl rfl rfl (fun H locs hP hD hS => ?_)
  refine lv_if_ne (tgt := 18) hx hb dX11_balance_11 (by decide) (fun hc => ?_) (fun hc => ?_)
  · replace hf := it_f (hc) hf
    refine lv_aload_n hx hb dX11_balance_18 rfl (lv_at hl 0 rfl) ?_
    refine va_get (D := (dC, dI)) (ci := 11) (v := .ref h_t_spot) (C := RX11) (T := TX11) (N := 11) hx hb hts in_X11 hown hK hP 0 rfl rfl 10 (Nat.le_of_ble_eq_true rfl) (hts _ qf_X11_84) (fun _ h9 => h9) rfl dX11_balance_19 ?_
    refine lv_iload_n hx hb dX11_balance_22 rfl (lv_at hl 1 rfl) ?_
    refine lv_i2l hx hb dX11_balance_23 rfl ?_
    obtain ⟨r_6, hq_7, hf⟩ := b1_some hf
    refine xcl (wr := [(h_t, .inr (11, [.ref h_t_cloud, .ref h_t_reader, .ref h_t_hull, .ref h_t_near, .ref h_t_firstTie, .ref h_t_reducer, .ref h_t_chooser, .ref h_t_pair, .ref h_t_divider, .ref h_t_depths, .ref h_t_spot])), (h_t_cloud, .inr (0, [.ref h_t_cloud_x, .ref h_t_cloud_y, .ref h_t_cloud_colour, .ref h_t_cloud_load, .int t_cloud_size, .int t_cloud_centreX, .int t_cloud_centreY])), (h_t_cloud_x, .inl (cI, 24, .inl t_cloud_x)), (h_t_cloud_y, .inl (cI, 24, .inl t_cloud_y)), (h_t_cloud_load, .inl (cI, 24, .inl t_cloud_load))]) (w2 := [(h_t, .inr (11, [.ref h_t_cloud, .ref h_t_reader, .ref h_t_hull, .ref h_t_near, .ref h_t_firstTie, .ref h_t_reducer, .ref h_t_chooser, .ref h_t_pair, .ref h_t_divider, .ref h_t_depths, .ref h_t_spot])), (h_t_cloud, .inr (0, [.ref h_t_cloud_x, .ref h_t_cloud_y, .ref h_t_cloud_colour, .ref h_t_cloud_load, .int t_cloud_size, .int t_cloud_centreX, .int t_cloud_centreY])), (h_t_cloud_x, .inl (cI, 24, .inl t_cloud_x)), (h_t_cloud_y, .inl (cI, 24, .inl t_cloud_y)), (h_t_cloud_load, .inl (cI, 24, .inl t_cloud_load)), (h_t_spot, .inr (6, [.long t_spot_x_2, .long t_spot_y_3, .long t_spot_lower_4]))]) (va_runS (As := [.ref h_t_spot, .long (a1.toInt64)]) (rest := []) ⟨hx, hb, hml, hown, hts⟩ (mtX11_coordinate l dC dI cI cL cB K h_t_spot H.size t_spot_x_2 t_spot_y_3 t_spot_lower_4 (a1.toInt64) r_6 hq_7) (va_cwS 2 hts gs_X11_232 rfl rfl rfl hdS_X11_coordinate ⟨Nat.le_trans (Nat.le_of_ble_eq_true rfl) hF, Nat.le_trans (Nat.le_of_ble_eq_true rfl) hLo⟩) (cPreS hK hP hD hT [5] rfl rfl) rfl rfl hl.1 rfl (lv_room (Nat.le_of_ble_eq_true rfl)) dX11_balance_24 ⟨Nat.zero_le _, Nat.zero_le _⟩) hP hD hS hA [5] [0, 1, 2, 3, 4] [0, 1, 2, 3, 4, 5] rfl rfl rfl rfl rfl rfl (fun H locs hP hD hS => ?_)
    obtain ⟨rfl, rfl, rfl, rfl⟩ := o4 hf
    exact W.lret hx hb hr (fun t ht hW => ⟨⟨_, (), rfl, rfl, by rw [ht]; exact hP, hD⟩, hS.F ht⟩) hS.2.2 dX11_balance_27
  · replace hf := it_t (hc) hf
    refine lv_ldc2 (v := (-9223372036854775808 : Int64)) hx hb hown (hts _ qj_X11_131) dX11_balance_14 ?_
    obtain ⟨rfl, rfl, rfl, rfl⟩ := o4 hf
    exact W.lret hx hb hr (fun t ht hW => ⟨⟨_, (), rfl, rfl, by rw [ht]; exact hP, hD⟩, hS.F ht⟩) hS.2.2 dX11_balance_17
theorem dX9_begin_0 : decode cX9_begin 0 = .ok (.aload_n 0, 1) := by decide +kernel
theorem dX9_begin_1 : decode cX9_begin 1 = .ok (.aload_n 1, 1) := by decide +kernel
theorem dX9_begin_2 : decode cX9_begin 2 = .ok (.invokevirtual 26, 3) := by decide +kernel
theorem dX9_begin_5 : decode cX9_begin 5 = .ok (.putfield 32, 3) := by decide +kernel
theorem dX9_begin_8 : decode cX9_begin 8 = .ok (.aload_n 0, 1) := by decide +kernel
theorem dX9_begin_9 : decode cX9_begin 9 = .ok (.getfield 32, 3) := by decide +kernel
theorem dX9_begin_12 : decode cX9_begin 12 = .ok (.ifCond .ne 6, 3) := by decide +kernel
theorem dX9_begin_15 : decode cX9_begin 15 = .ok (.bipush (-2), 2) := by decide +kernel
theorem dX9_begin_17 : decode cX9_begin 17 = .ok (.ireturn, 1) := by decide +kernel
theorem dX9_begin_18 : decode cX9_begin 18 = .ok (.aload_n 0, 1) := by decide +kernel
theorem dX9_begin_19 : decode cX9_begin 19 = .ok (.getfield 32, 3) := by decide +kernel
theorem dX9_begin_22 : decode cX9_begin 22 = .ok (.invokestatic 36, 3) := by decide +kernel
theorem dX9_begin_25 : decode cX9_begin 25 = .ok (.bipush 6, 2) := by decide +kernel
theorem dX9_begin_27 : decode cX9_begin 27 = .ok (.if_icmp .le 6, 3) := by decide +kernel
theorem dX9_begin_30 : decode cX9_begin 30 = .ok (.bipush (-5), 2) := by decide +kernel
theorem dX9_begin_32 : decode cX9_begin 32 = .ok (.ireturn, 1) := by decide +kernel
theorem dX9_begin_33 : decode cX9_begin 33 = .ok (.aload_n 0, 1) := by decide +kernel
theorem dX9_begin_34 : decode cX9_begin 34 = .ok (.lconst 0, 1) := by decide +kernel
theorem dX9_begin_35 : decode cX9_begin 35 = .ok (.putfield 15, 3) := by decide +kernel
theorem dX9_begin_38 : decode cX9_begin 38 = .ok (.iconst 0, 1) := by decide +kernel
theorem dX9_begin_39 : decode cX9_begin 39 = .ok (.istore_n 2, 1) := by decide +kernel
theorem dX9_begin_40 : decode cX9_begin 40 = .ok (.iload_n 2, 1) := by decide +kernel
theorem dX9_begin_41 : decode cX9_begin 41 = .ok (.aload_n 1, 1) := by decide +kernel
theorem dX9_begin_42 : decode cX9_begin 42 = .ok (.getfield 42, 3) := by decide +kernel
theorem dX9_begin_45 : decode cX9_begin 45 = .ok (.if_icmp .ge 38, 3) := by decide +kernel
theorem dX9_begin_48 : decode cX9_begin 48 = .ok (.aload_n 0, 1) := by decide +kernel
theorem dX9_begin_49 : decode cX9_begin 49 = .ok (.getfield 9, 3) := by decide +kernel
theorem dX9_begin_52 : decode cX9_begin 52 = .ok (.iload_n 2, 1) := by decide +kernel
theorem dX9_begin_53 : decode cX9_begin 53 = .ok (.aload_n 1, 1) := by decide +kernel
theorem dX9_begin_54 : decode cX9_begin 54 = .ok (.getfield 45, 3) := by decide +kernel
theorem dX9_begin_57 : decode cX9_begin 57 = .ok (.iload_n 2, 1) := by decide +kernel
theorem dX9_begin_58 : decode cX9_begin 58 = .ok (.iaload, 1) := by decide +kernel
theorem dX9_begin_59 : decode cX9_begin 59 = .ok (.i2l, 1) := by decide +kernel
theorem dX9_begin_60 : decode cX9_begin 60 = .ok (.lastore, 1) := by decide +kernel
theorem dX9_begin_61 : decode cX9_begin 61 = .ok (.aload_n 0, 1) := by decide +kernel
theorem dX9_begin_62 : decode cX9_begin 62 = .ok (.dup, 1) := by decide +kernel
theorem dX9_begin_63 : decode cX9_begin 63 = .ok (.getfield 15, 3) := by decide +kernel
theorem dX9_begin_66 : decode cX9_begin 66 = .ok (.aload_n 1, 1) := by decide +kernel
theorem dX9_begin_67 : decode cX9_begin 67 = .ok (.getfield 45, 3) := by decide +kernel
theorem dX9_begin_70 : decode cX9_begin 70 = .ok (.iload_n 2, 1) := by decide +kernel
theorem dX9_begin_71 : decode cX9_begin 71 = .ok (.iaload, 1) := by decide +kernel
theorem dX9_begin_72 : decode cX9_begin 72 = .ok (.i2l, 1) := by decide +kernel
theorem dX9_begin_73 : decode cX9_begin 73 = .ok (.ladd, 1) := by decide +kernel
theorem dX9_begin_74 : decode cX9_begin 74 = .ok (.putfield 15, 3) := by decide +kernel
theorem dX9_begin_77 : decode cX9_begin 77 = .ok (.iinc 2 1, 3) := by decide +kernel
theorem dX9_begin_80 : decode cX9_begin 80 = .ok (.goto (-40), 3) := by decide +kernel
theorem dX9_begin_83 : decode cX9_begin 83 = .ok (.iconst 0, 1) := by decide +kernel
theorem dX9_begin_84 : decode cX9_begin 84 = .ok (.ireturn, 1) := by decide +kernel
set_option maxRecDepth 100000 in
set_option maxHeartbeats 4000000 in
theorem wX9_begin_L40 {p : Program} {l : Launch} {e : Env} {R : Room} {s : State} {m : MethodId} {args : Array Value} {below : List Frame} {meth : Method} {c : Code} {Q : State → Prop} {A : Nat → Prop} {dC : Nat → ClassId} {dI : Nat → Nat → Nat} {cI cL cB : ClassId} {K : Nat} (C0 : Sx p R s m args c cX9_begin 3 RX9 A dC dI cI cL cB 1 22) (h_t h_t_up h_t_tied h_p1 h_p1_x h_p1_y h_p1_colour h_p1_load : Nat) (t_alive : Int32) (p1_size : Int32) (p1_centreX : Int32) (p1_centreY : Int32) (p1_load : Nat → Int32) : ∀ (n : Nat) (l2 : Int32) (t_lower : Int64) (t_up : Nat → Int64) (x_t_lower : Int64) (x_t_up : Nat → Int64) (H : Heap) (locs : List Loc) (ls : Array Slot), va_P (dC, dI) vwCl [(h_t, .inr (9, [.ref h_t_up, .long t_lower, .int t_alive, .ref h_t_tied])), (h_t_up, .inl (cL, 24, .inr (.inl t_up))), (h_p1, .inr (0, [.ref h_p1_x, .ref h_p1_y, .ref h_p1_colour, .ref h_p1_load, .int p1_size, .int p1_centreX, .int p1_centreY])), (h_p1_load, .inl (cI, 24, .inl p1_load))] H → va_D A [(h_t, .inr (9, [.ref h_t_up, .long t_lower, .int t_alive, .ref h_t_tied])), (h_t_up, .inl (cL, 24, .inr (.inl t_up))), (h_p1, .inr (0, [.ref h_p1_x, .ref h_p1_y, .ref h_p1_colour, .ref h_p1_load, .int p1_size, .int p1_centreX, .int p1_centreY])), (h_p1_load, .inl (cI, 24, .inl p1_load))] → va_S A s.heap H locs → lv_has ls 3 [(0, .ref h_t), (1, .ref h_p1), (2, .int l2)] → fX9_begin_L40 K p1_size p1_load n l2 t_lower t_up = some (x_t_lower, x_t_up) → (∀ (H : Heap) (locs : List Loc) (ls : Array Slot), va_P (dC, dI) vwCl [(h_t, .inr (9, [.ref h_t_up, .long x_t_lower, .int t_alive, .ref h_t_tied])), (h_t_up, .inl (cL, 24, .inr (.inl x_t_up))), (h_p1, .inr (0, [.ref h_p1_x, .ref h_p1_y, .ref h_p1_colour, .ref h_p1_load, .int p1_size, .int p1_centreX, .int p1_centreY])), (h_p1_load, .inl (cI, 24, .inl p1_load))] H → va_D A [(h_t, .inr (9, [.ref h_t_up, .long x_t_lower, .int t_alive, .ref h_t_tied])), (h_t_up, .inl (cL, 24, .inr (.inl x_t_up))), (h_p1, .inr (0, [.ref h_p1_x, .ref h_p1_y, .ref h_p1_colour, .ref h_p1_load, .int p1_size, .int p1_centreX, .int p1_centreY])), (h_p1_load, .inl (cI, 24, .inl p1_load))] → va_S A s.heap H locs → lv_has ls 3 [] → W p l e R s m args below meth c H locs 0 0 Q (F0 m 83 ls [])) → W p l e R s m args below meth c H locs 0 0 Q (F0 m 40 ls []) := by
  obtain ⟨hx, hb, hml, hown, hts, hK, hT, hA, hF, hLo⟩ := id C0
  intro n
  induction n with
  | zero =>
    intro l2 t_lower t_up x_t_lower x_t_up H locs ls hP hD hS hl hf
    rw [fX9_begin_L40] at hf
    cases hf
  | succ n ih =>
    intro l2 t_lower t_up x_t_lower x_t_up H locs ls hP hD hS hl hf hk
    rw [fX9_begin_L40] at hf
    refine lv_iload_n hx hb dX9_begin_40 rfl (lv_at hl 2 rfl) ?_
    refine lv_aload_n hx hb dX9_begin_41 rfl (lv_at hl 1 rfl) ?_
    refine va_get (D := (dC, dI)) (ci := 0) (v := .int p1_size) (C := RX0) (T := TX0) (N := 7) hx hb hts in_X0 hown hK hP 2 rfl rfl 4 (Nat.le_of_ble_eq_true rfl) (hts _ qf_X9_42) (fun _ h9 => h9) rfl dX9_begin_42 ?_
    refine lv_icmp_ge (tgt := 83) hx hb dX9_begin_45 (by decide) (fun hc => ?_) (fun hc => ?_)
    · replace hf := it_t (hc) hf
      obtain ⟨rfl, rfl⟩ := o2 hf
      exact hk H locs ls hP hD hS (lv_sub hl [] rfl)
    · replace hf := it_f (hc) hf
      refine lv_aload_n hx hb dX9_begin_48 rfl (lv_at hl 0 rfl) ?_
      refine va_get (D := (dC, dI)) (ci := 9) (v := .ref h_t_up) (C := RX9) (T := TX9) (N := 4) hx hb hts in_X9 hown hK hP 0 rfl rfl 0 (Nat.le_of_ble_eq_true rfl) (hts _ qf_X9_9) (fun _ h9 => h9) rfl dX9_begin_49 ?_
      refine lv_iload_n hx hb dX9_begin_52 rfl (lv_at hl 2 rfl) ?_
      refine lv_aload_n hx hb dX9_begin_53 rfl (lv_at hl 1 rfl) ?_
      refine va_get (D := (dC, dI)) (ci := 0) (v := .ref h_p1_load) (C := RX0) (T := TX0) (N := 7) hx hb hts in_X0 hown hK hP 2 rfl rfl 3 (Nat.le_of_ble_eq_true rfl) (hts _ qf_X9_45) (fun _ h9 => h9) rfl dX9_begin_54 ?_
      refine lv_iload_n hx hb dX9_begin_57 rfl (lv_at hl 2 rfl) ?_
      obtain ⟨hg_5, hf⟩ := gd_some hf
      refine va_iald hx hb hK hP 3 0 rfl rfl (inb_in hg_5) dX9_begin_58 ?_
      refine lv_i2l hx hb dX9_begin_59 rfl ?_
      obtain ⟨hg_6, hf⟩ := gd_some hf
      obtain ⟨t_up_7, et_up_7⟩ : ∃ y : Nat → Int64, y = vp_updL t_up l2.toNatClampNeg ((p1_load l2.toNatClampNeg).toInt64) := ⟨_, rfl⟩
      replace hf := xl_at hf et_up_7
      refine xlast (w2 := [(h_t, .inr (9, [.ref h_t_up, .long t_lower, .int t_alive, .ref h_t_tied])), (h_t_up, .inl (cL, 24, .inr (.inl t_up_7))), (h_p1, .inr (0, [.ref h_p1_x, .ref h_p1_y, .ref h_p1_colour, .ref h_p1_load, .int p1_size, .int p1_centreX, .int p1_centreY])), (h_p1_load, .inl (cI, 24, .inl p1_load))]) hx hb hK hP hD hS 1 1 rfl rfl (inb_in hg_6) et_up_7 rfl dX9_begin_60 (fun H locs hP hD hS => ?_)
      refine lv_aload_n hx hb dX9_begin_61 rfl (lv_at hl 0 rfl) ?_
      refine lv_dup hx hb dX9_begin_62 rfl ?_
      refine va_get (D := (dC, dI)) (ci := 9) (v := .long t_lower) (C := RX9) (T := TX9) (N := 4) hx hb hts in_X9 hown hK hP 0 rfl rfl 1 (Nat.le_of_ble_eq_true rfl) (hts _ qf_X9_15) (fun _ h9 => h9) rfl dX9_begin_63 ?_
      refine lv_aload_n hx hb dX9_begin_66 rfl (lv_at hl 1 rfl) ?_
      refine va_get (D := (dC, dI)) (ci := 0) (v := .ref h_p1_load) (C := RX0) (T := TX0) (N := 7) hx hb hts in_X0 hown hK hP 2 rfl rfl 3 (Nat.le_of_ble_eq_true rfl) (hts _ qf_X9_45) (fun _ h9 => h9) rfl dX9_begin_67 ?_
      refine lv_iload_n hx hb dX9_begin_70 rfl (lv_at hl 2 rfl) ?_
      obtain ⟨hg_8, hf⟩ := gd_some hf
      refine va_iald hx hb hK hP 3 0 rfl rfl (inb_in hg_8) dX9_begin_71 ?_
      refine lv_i2l hx hb dX9_begin_72 rfl ?_
      refine lv_ladd hx hb dX9_begin_73 ?_
      refine lv_topl (fun f_lower_9 ef_lower_9 => ?_)
      replace hf := xl_at hf ef_lower_9
      refine xput (D := (dC, dI)) (ci := 9) (v := .long f_lower_9) (C := RX9) (T := TX9) (N := 4) (w2 := [(h_t, .inr (9, [.ref h_t_up, .long f_lower_9, .int t_alive, .ref h_t_tied])), (h_t_up, .inl (cL, 24, .inr (.inl t_up_7))), (h_p1, .inr (0, [.ref h_p1_x, .ref h_p1_y, .ref h_p1_colour, .ref h_p1_load, .int p1_size, .int p1_centreX, .int p1_centreY])), (h_p1_load, .inl (cI, 24, .inl p1_load))]) hx hb hts in_X9 tyX9 tyX9_ok nmX9 hown hK hP hD hS 0 rfl rfl 1 (Nat.le_of_ble_eq_true rfl) (hts _ qf_X9_15) (fun _ h9 => h9) rfl rfl rfl (Nat.le_of_ble_eq_true rfl) rfl dX9_begin_74 (fun H locs hP hD hS => ?_)
      obtain ⟨l2_10, el2_10⟩ : ∃ y : Int32, y = l2 + (1 : Int32) := ⟨_, rfl⟩
      replace hf := xl_at hf el2_10
      refine lv_iinc (v := l2_10) (lv' := [(2, .int l2_10), (0, .ref h_t), (1, .ref h_p1)]) hx hb dX9_begin_77 hl (k := 2) rfl (by rw [el2_10]; rfl) (Nat.le_of_ble_eq_true rfl) rfl (fun ls hl => ?_)
      refine lv_goto (tgt := 40) hx hb dX9_begin_80 (by decide) ?_
      exact ih l2_10 f_lower_9 t_up_7 _ _ H locs ls hP hD hS (lv_sub hl [1, 2, 0] rfl) hf hk
set_option maxRecDepth 100000 in
set_option maxHeartbeats 4000000 in
theorem mtX9_begin (l : Launch) (dC : Nat → ClassId) (dI : Nat → Nat → Nat) (cI cL cB : ClassId) (K : Nat) (h_t h_t_up h_t_tied h_p1 h_p1_x h_p1_y h_p1_colour h_p1_load : Nat) (sz : Nat) (t_lower : Int64) (t_alive : Int32) (t_up : Nat → Int64) (p1_size : Int32) (p1_centreX : Int32) (p1_centreY : Int32) (p1_load : Nat → Int32) (o_r : Int32) (o_t_lower : Int64) (o_t_alive : Int32) (o_t_up : Nat → Int64) (hf : fX9_begin K t_lower t_alive t_up p1_size p1_load = some (o_r, o_t_lower, o_t_alive, o_t_up)) : Met l yX9_begin [Cond.code yX9_begin cX9_begin 3 (some .int)] ({ frames := 1, cells := 0, slots := 0, locals := 22 }) (va_Pc [.ref h_t, .ref h_p1] (cPre dC dI cI cL cB sz [(h_t, .inr (9, [.ref h_t_up, .long t_lower, .int t_alive, .ref h_t_tied])), (h_t_up, .inl (cL, 24, .inr (.inl t_up))), (h_p1, .inr (0, [.ref h_p1_x, .ref h_p1_y, .ref h_p1_colour, .ref h_p1_load, .int p1_size, .int p1_centreX, .int p1_centreY])), (h_p1_load, .inl (cI, 24, .inl p1_load))])) (cQi dC dI (va_A [(h_t, .inr (9, [.ref h_t_up, .long t_lower, .int t_alive, .ref h_t_tied])), (h_t_up, .inl (cL, 24, .inr (.inl t_up))), (h_p1, .inr (0, [.ref h_p1_x, .ref h_p1_y, .ref h_p1_colour, .ref h_p1_load, .int p1_size, .int p1_centreX, .int p1_centreY])), (h_p1_load, .inl (cI, 24, .inl p1_load))] sz) o_r [(h_t, .inr (9, [.ref h_t_up, .long o_t_lower, .int o_t_alive, .ref h_t_tied])), (h_t_up, .inl (cL, 24, .inr (.inl o_t_up))), (h_p1, .inr (0, [.ref h_p1_x, .ref h_p1_y, .ref h_p1_colour, .ref h_p1_load, .int p1_size, .int p1_centreX, .int p1_centreY])), (h_p1_load, .inl (cI, 24, .inl p1_load))]) 0 0 (va_A [(h_t, .inr (9, [.ref h_t_up, .long t_lower, .int t_alive, .ref h_t_tied])), (h_t_up, .inl (cL, 24, .inr (.inl t_up))), (h_p1, .inr (0, [.ref h_p1_x, .ref h_p1_y, .ref h_p1_colour, .ref h_p1_load, .int p1_size, .int p1_centreX, .int p1_centreY])), (h_p1_load, .inl (cI, 24, .inl p1_load))] sz) := by
  refine Met.ofW (cc := cX9_begin) (maxL := 3) (ret := (some .int)) (by decide) rfl ?_
  intro p e s m args below meth c s₁ B hml hv
  obtain ⟨rfl, hsz, hP, hK, hD0, hT⟩ := hv
  have hx := B.exec
  have hb := B.bytes
  have hr := B.returns
  have hown : s.vm.findClass RX9 = some m.cls := findClass_of_methodNamed B.named
  have hlocks := B.notSynchronized
  have hts := TB.use hT ([.ref h_t, .ref h_p1] : List Value).toArray
  subst hsz
  have hD := hD0.self (sz := s.heap.size)
  generalize hAe : va_A [(h_t, .inr (9, [.ref h_t_up, .long t_lower, .int t_alive, .ref h_t_tied])), (h_t_up, .inl (cL, 24, .inr (.inl t_up))), (h_p1, .inr (0, [.ref h_p1_x, .ref h_p1_y, .ref h_p1_colour, .ref h_p1_load, .int p1_size, .int p1_centreX, .int p1_centreY])), (h_p1_load, .inl (cI, 24, .inl p1_load))] s.heap.size = A at hD ⊢
  have hA : ∀ q : Nat, s.heap.size ≤ q → A q := fun q h => by rw [← hAe]; exact Or.inr h
  clear hAe hD0
  have hl := lv_entry ([.ref h_t, .ref h_p1]) (n := 3) (Nat.le_of_ble_eq_true rfl)
  rw [lg_entry_eq]
  generalize (lg_sl ([.ref h_t, .ref h_p1]) ++ List.replicate (3 - (lg_sl ([.ref h_t, .ref h_p1])).length) Slot.unset).toArray = ls at hl ⊢
  have hl : lv_has ls 3 [(0, .ref h_t), (1, .ref h_p1)] := hl
  have hF : 1 ≤ (headSpec [Cond.code yX9_begin cX9_begin 3 (some .int)] ({ frames := 1, cells := 0, slots := 0, locals := 22 })).room.frames := Nat.le_refl _
  have hLo : 22 ≤ (headSpec [Cond.code yX9_begin cX9_begin 3 (some .int)] ({ frames := 1, cells := 0, slots := 0, locals := 22 })).room.locals := Nat.le_refl _
  have C0 : Sx p (headSpec [Cond.code yX9_begin cX9_begin 3 (some .int)] ({ frames := 1, cells := 0, slots := 0, locals := 22 })).room s m ([.ref h_t, .ref h_p1] : List Value).toArray c cX9_begin 3 RX9 A dC dI cI cL cB 1 22 := ⟨hx, hb, hml, hown, hts, hK, hT, hA, hF, hLo⟩
  refine startH (A := A) hP (fun H locs hP hS => ?_)
  rw [fX9_begin] at hf
  refine lv_aload_n hx hb dX9_begin_0 rfl (lv_at hl 0 rfl) ?_
  refine lv_aload_n hx hb dX9_begin_1 rfl (lv_at hl 1 rfl) ?_
  obtain ⟨r_1, hq_2, hf⟩ := b1_some hf
  refine xci (wr := [(h_t, .inr (9, [.ref h_t_up, .long t_lower, .int t_alive, .ref h_t_tied])), (h_t_up, .inl (cL, 24, .inr (.inl t_up)))]) (w2 := [(h_t, .inr (9, [.ref h_t_up, .long t_lower, .int t_alive, .ref h_t_tied])), (h_t_up, .inl (cL, 24, .inr (.inl t_up))), (h_p1, .inr (0, [.ref h_p1_x, .ref h_p1_y, .ref h_p1_colour, .ref h_p1_load, .int p1_size, .int p1_centreX, .int p1_centreY])), (h_p1_load, .inl (cI, 24, .inl p1_load))]) (va_runV (As := []) (rest := [.ref h_t]) ⟨hx, hb, hml, hown, hts⟩ (mtX0_bitsLoaded l dC dI cI cL cB K h_p1 h_p1_x h_p1_y h_p1_colour h_p1_load H.size p1_size p1_centreX p1_centreY p1_load r_1 hq_2) (cwV 0 hts gv_X9_26 rfl rfl rfl hdV_X0_bitsLoaded ⟨Nat.le_trans (Nat.le_of_ble_eq_true rfl) hF, Nat.le_trans (Nat.le_of_ble_eq_true rfl) hLo⟩) (cPreV hK hP hD hT [2, 3] rfl rfl (ci := 0) (q0 := 0) rfl rfl) rfl rfl hl.1 rfl (lv_room (Nat.le_of_ble_eq_true rfl)) dX9_begin_2 ⟨Nat.zero_le _, Nat.zero_le _⟩) hP hD hS hA [2, 3] [0, 1] [0, 1, 2, 3] rfl rfl rfl rfl rfl rfl (fun H locs hP hD hS => ?_)
  refine xput (D := (dC, dI)) (ci := 9) (v := .int r_1) (C := RX9) (T := TX9) (N := 4) (w2 := [(h_t, .inr (9, [.ref h_t_up, .long t_lower, .int r_1, .ref h_t_tied])), (h_t_up, .inl (cL, 24, .inr (.inl t_up))), (h_p1, .inr (0, [.ref h_p1_x, .ref h_p1_y, .ref h_p1_colour, .ref h_p1_load, .int p1_size, .int p1_centreX, .int p1_centreY])), (h_p1_load, .inl (cI, 24, .inl p1_load))]) hx hb hts in_X9 tyX9 tyX9_ok nmX9 hown hK hP hD hS 0 rfl rfl 2 (Nat.le_of_ble_eq_true rfl) (hts _ qf_X9_32) (fun _ h9 => h9) rfl rfl rfl (Nat.le_of_ble_eq_true rfl) rfl dX9_begin_5 (fun H locs hP hD hS => ?_)
  refine lv_aload_n hx hb dX9_begin_8 rfl (lv_at hl 0 rfl) ?_
  refine va_get (D := (dC, dI)) (ci := 9) (v := .int r_1) (C := RX9) (T := TX9) (N := 4) hx hb hts in_X9 hown hK hP 0 rfl rfl 2 (Nat.le_of_ble_eq_true rfl) (hts _ qf_X9_32) (fun _ h9 => h9) rfl dX9_begin_9 ?_
  refine lv_if_ne (tgt := 18) hx hb dX9_begin_12 (by decide) (fun hc => ?_) (fun hc => ?_)
  · replace hf := it_f (hc) hf
    refine lv_aload_n hx hb dX9_begin_18 rfl (lv_at hl 0 rfl) ?_
    refine va_get (D := (dC, dI)) (ci := 9) (v := .int r_1) (C := RX9) (T := TX9) (N := 4) hx hb hts in_X9 hown hK hP 0 rfl rfl 2 (Nat.le_of_ble_eq_true rfl) (hts _ qf_X9_32) (fun _ h9 => h9) rfl dX9_begin_19 ?_
    obtain ⟨r_3, hq_4, hf⟩ := b1_some hf
    refine xci (wr := [(h_t, .inr (9, [.ref h_t_up, .long t_lower, .int r_1, .ref h_t_tied])), (h_t_up, .inl (cL, 24, .inr (.inl t_up))), (h_p1, .inr (0, [.ref h_p1_x, .ref h_p1_y, .ref h_p1_colour, .ref h_p1_load, .int p1_size, .int p1_centreX, .int p1_centreY])), (h_p1_load, .inl (cI, 24, .inl p1_load))]) (w2 := [(h_t, .inr (9, [.ref h_t_up, .long t_lower, .int r_1, .ref h_t_tied])), (h_t_up, .inl (cL, 24, .inr (.inl t_up))), (h_p1, .inr (0, [.ref h_p1_x, .ref h_p1_y, .ref h_p1_colour, .ref h_p1_load, .int p1_size, .int p1_centreX, .int p1_centreY])), (h_p1_load, .inl (cI, 24, .inl p1_load))]) (va_runS (As := [.int r_1]) (rest := []) ⟨hx, hb, hml, hown, hts⟩ (mtJ6_bitCount_0f7a4 l dC dI cI cL cB K H.size r_1 r_3 hq_4) (va_cwS 1 hts gs_X9_36 rfl rfl rfl hdS_J6_bitCount_0f7a4 ⟨Nat.le_trans (Nat.le_of_ble_eq_true rfl) hF, Nat.le_trans (Nat.le_of_ble_eq_true rfl) hLo⟩) (cPreS hK hP hD hT [] rfl rfl) rfl rfl hl.1 rfl (lv_room (Nat.le_of_ble_eq_true rfl)) dX9_begin_22 ⟨Nat.zero_le _, Nat.zero_le _⟩) hP hD hS hA [] [0, 1, 2, 3] [0, 1, 2, 3] rfl rfl rfl rfl rfl rfl (fun H locs hP hD hS => ?_)
    refine lv_bipush (v := (6 : Int32)) hx hb dX9_begin_25 (by decide) ?_
    refine lv_icmp_le (tgt := 33) hx hb dX9_begin_27 (by decide) (fun hc => ?_) (fun hc => ?_)
    · replace hf := it_t (hc) hf
      refine lv_aload_n hx hb dX9_begin_33 rfl (lv_at hl 0 rfl) ?_
      refine lv_lconst (v := (0 : Int64)) hx hb dX9_begin_34 (by decide) ?_
      refine xput (D := (dC, dI)) (ci := 9) (v := .long (0 : Int64)) (C := RX9) (T := TX9) (N := 4) (w2 := [(h_t, .inr (9, [.ref h_t_up, .long (0 : Int64), .int r_1, .ref h_t_tied])), (h_t_up, .inl (cL, 24, .inr (.inl t_up))), (h_p1, .inr (0, [.ref h_p1_x, .ref h_p1_y, .ref h_p1_colour, .ref h_p1_load, .int p1_size, .int p1_centreX, .int p1_centreY])), (h_p1_load, .inl (cI, 24, .inl p1_load))]) hx hb hts in_X9 tyX9 tyX9_ok nmX9 hown hK hP hD hS 0 rfl rfl 1 (Nat.le_of_ble_eq_true rfl) (hts _ qf_X9_15) (fun _ h9 => h9) rfl rfl rfl (Nat.le_of_ble_eq_true rfl) rfl dX9_begin_35 (fun H locs hP hD hS => ?_)
      refine lv_iconst (v := (0 : Int32)) hx hb dX9_begin_38 (by decide) ?_
      refine lv_istore_n (lv' := [(2, .int (0 : Int32)), (0, .ref h_t), (1, .ref h_p1)]) hx hb dX9_begin_39 rfl hl (Nat.le_of_ble_eq_true rfl) rfl (fun ls hl => ?_)
      obtain ⟨t_lower_12, t_up_13, hq_11, hf⟩ := b2_some hf
      refine wX9_begin_L40 C0 h_t h_t_up h_t_tied h_p1 h_p1_x h_p1_y h_p1_colour h_p1_load r_1 p1_size p1_centreX p1_centreY p1_load K (0 : Int32) (0 : Int64) t_up t_lower_12 t_up_13 H locs ls hP hD hS (lv_sub hl [1, 2, 0] rfl) hq_11 ?_
      intro H locs ls hP hD hS hl
      refine lv_iconst (v := (0 : Int32)) hx hb dX9_begin_83 (by decide) ?_
      obtain ⟨rfl, rfl, rfl, rfl⟩ := o4 hf
      exact W.iret hx hb hr (fun t ht hW => ⟨⟨_, (), rfl, rfl, by rw [ht]; exact hP, hD⟩, hS.F ht⟩) hS.2.2 dX9_begin_84
    · replace hf := it_f (hc) hf
      refine lv_bipush (v := (-5 : Int32)) hx hb dX9_begin_30 (by decide) ?_
      obtain ⟨rfl, rfl, rfl, rfl⟩ := o4 hf
      exact W.iret hx hb hr (fun t ht hW => ⟨⟨_, (), rfl, rfl, by rw [ht]; exact hP, hD⟩, hS.F ht⟩) hS.2.2 dX9_begin_32
  · replace hf := it_t (hc) hf
    refine lv_bipush (v := (-2 : Int32)) hx hb dX9_begin_15 (by decide) ?_
    obtain ⟨rfl, rfl, rfl, rfl⟩ := o4 hf
    exact W.iret hx hb hr (fun t ht hW => ⟨⟨_, (), rfl, rfl, by rw [ht]; exact hP, hD⟩, hS.F ht⟩) hS.2.2 dX9_begin_17
theorem dX9_tightest_0 : decode cX9_tightest 0 = .ok (.aload_n 0, 1) := by decide +kernel
theorem dX9_tightest_1 : decode cX9_tightest 1 = .ok (.getfield 22, 3) := by decide +kernel
theorem dX9_tightest_4 : decode cX9_tightest 4 = .ok (.getfield 60, 3) := by decide +kernel
theorem dX9_tightest_7 : decode cX9_tightest 7 = .ok (.iconst 1, 1) := by decide +kernel
theorem dX9_tightest_8 : decode cX9_tightest 8 = .ok (.isub, 1) := by decide +kernel
theorem dX9_tightest_9 : decode cX9_tightest 9 = .ok (.istore_n 1, 1) := by decide +kernel
theorem dX9_tightest_10 : decode cX9_tightest 10 = .ok (.iconst 0, 1) := by decide +kernel
theorem dX9_tightest_11 : decode cX9_tightest 11 = .ok (.istore_n 2, 1) := by decide +kernel
theorem dX9_tightest_12 : decode cX9_tightest 12 = .ok (.iload_n 2, 1) := by decide +kernel
theorem dX9_tightest_13 : decode cX9_tightest 13 = .ok (.aload_n 0, 1) := by decide +kernel
theorem dX9_tightest_14 : decode cX9_tightest 14 = .ok (.getfield 22, 3) := by decide +kernel
theorem dX9_tightest_17 : decode cX9_tightest 17 = .ok (.getfield 60, 3) := by decide +kernel
theorem dX9_tightest_20 : decode cX9_tightest 20 = .ok (.if_icmp .ge 77, 3) := by decide +kernel
theorem dX9_tightest_23 : decode cX9_tightest 23 = .ok (.aload_n 0, 1) := by decide +kernel
theorem dX9_tightest_24 : decode cX9_tightest 24 = .ok (.getfield 22, 3) := by decide +kernel
theorem dX9_tightest_27 : decode cX9_tightest 27 = .ok (.getfield 61, 3) := by decide +kernel
theorem dX9_tightest_30 : decode cX9_tightest 30 = .ok (.iload_n 2, 1) := by decide +kernel
theorem dX9_tightest_31 : decode cX9_tightest 31 = .ok (.laload, 1) := by decide +kernel
theorem dX9_tightest_32 : decode cX9_tightest 32 = .ok (.lconst 0, 1) := by decide +kernel
theorem dX9_tightest_33 : decode cX9_tightest 33 = .ok (.lcmp, 1) := by decide +kernel
theorem dX9_tightest_34 : decode cX9_tightest 34 = .ok (.ifCond .le 57, 3) := by decide +kernel
theorem dX9_tightest_37 : decode cX9_tightest 37 = .ok (.aload_n 0, 1) := by decide +kernel
theorem dX9_tightest_38 : decode cX9_tightest 38 = .ok (.getfield 9, 3) := by decide +kernel
theorem dX9_tightest_41 : decode cX9_tightest 41 = .ok (.aload_n 0, 1) := by decide +kernel
theorem dX9_tightest_42 : decode cX9_tightest 42 = .ok (.getfield 22, 3) := by decide +kernel
theorem dX9_tightest_45 : decode cX9_tightest 45 = .ok (.getfield 64, 3) := by decide +kernel
theorem dX9_tightest_48 : decode cX9_tightest 48 = .ok (.iload_n 2, 1) := by decide +kernel
theorem dX9_tightest_49 : decode cX9_tightest 49 = .ok (.iaload, 1) := by decide +kernel
theorem dX9_tightest_50 : decode cX9_tightest 50 = .ok (.laload, 1) := by decide +kernel
theorem dX9_tightest_51 : decode cX9_tightest 51 = .ok (.aload_n 0, 1) := by decide +kernel
theorem dX9_tightest_52 : decode cX9_tightest 52 = .ok (.getfield 22, 3) := by decide +kernel
theorem dX9_tightest_55 : decode cX9_tightest 55 = .ok (.getfield 61, 3) := by decide +kernel
theorem dX9_tightest_58 : decode cX9_tightest 58 = .ok (.iload_n 1, 1) := by decide +kernel
theorem dX9_tightest_59 : decode cX9_tightest 59 = .ok (.laload, 1) := by decide +kernel
theorem dX9_tightest_60 : decode cX9_tightest 60 = .ok (.lmul, 1) := by decide +kernel
theorem dX9_tightest_61 : decode cX9_tightest 61 = .ok (.aload_n 0, 1) := by decide +kernel
theorem dX9_tightest_62 : decode cX9_tightest 62 = .ok (.getfield 9, 3) := by decide +kernel
theorem dX9_tightest_65 : decode cX9_tightest 65 = .ok (.aload_n 0, 1) := by decide +kernel
theorem dX9_tightest_66 : decode cX9_tightest 66 = .ok (.getfield 22, 3) := by decide +kernel
theorem dX9_tightest_69 : decode cX9_tightest 69 = .ok (.getfield 64, 3) := by decide +kernel
theorem dX9_tightest_72 : decode cX9_tightest 72 = .ok (.iload_n 1, 1) := by decide +kernel
theorem dX9_tightest_73 : decode cX9_tightest 73 = .ok (.iaload, 1) := by decide +kernel
theorem dX9_tightest_74 : decode cX9_tightest 74 = .ok (.laload, 1) := by decide +kernel
theorem dX9_tightest_75 : decode cX9_tightest 75 = .ok (.aload_n 0, 1) := by decide +kernel
theorem dX9_tightest_76 : decode cX9_tightest 76 = .ok (.getfield 22, 3) := by decide +kernel
theorem dX9_tightest_79 : decode cX9_tightest 79 = .ok (.getfield 61, 3) := by decide +kernel
theorem dX9_tightest_82 : decode cX9_tightest 82 = .ok (.iload_n 2, 1) := by decide +kernel
theorem dX9_tightest_83 : decode cX9_tightest 83 = .ok (.laload, 1) := by decide +kernel
theorem dX9_tightest_84 : decode cX9_tightest 84 = .ok (.lmul, 1) := by decide +kernel
theorem dX9_tightest_85 : decode cX9_tightest 85 = .ok (.lcmp, 1) := by decide +kernel
theorem dX9_tightest_86 : decode cX9_tightest 86 = .ok (.ifCond .ge 5, 3) := by decide +kernel
theorem dX9_tightest_89 : decode cX9_tightest 89 = .ok (.iload_n 2, 1) := by decide +kernel
theorem dX9_tightest_90 : decode cX9_tightest 90 = .ok (.istore_n 1, 1) := by decide +kernel
theorem dX9_tightest_91 : decode cX9_tightest 91 = .ok (.iinc 2 1, 3) := by decide +kernel
theorem dX9_tightest_94 : decode cX9_tightest 94 = .ok (.goto (-82), 3) := by decide +kernel
theorem dX9_tightest_97 : decode cX9_tightest 97 = .ok (.iload_n 1, 1) := by decide +kernel
theorem dX9_tightest_98 : decode cX9_tightest 98 = .ok (.ireturn, 1) := by decide +kernel
set_option maxRecDepth 100000 in
set_option maxHeartbeats 4000000 in
theorem wX9_tightest_L12 {p : Program} {l : Launch} {e : Env} {R : Room} {s : State} {m : MethodId} {args : Array Value} {below : List Frame} {meth : Method} {c : Code} {Q : State → Prop} {A : Nat → Prop} {dC : Nat → ClassId} {dI : Nat → Nat → Nat} {cI cL cB : ClassId} {K : Nat} (C0 : Sx p R s m args c cX9_tightest 3 RX9 A dC dI cI cL cB 0 0) (h_t h_t_up h_t_tied h_t_tied_member h_t_tied_factor : Nat) (t_lower : Int64) (t_alive : Int32) (t_up : Nat → Int64) (t_tied_size : Int32) (t_tied_member : Nat → Int32) (t_tied_factor : Nat → Int64) : ∀ (n : Nat) (l1 : Int32) (l2 : Int32) (x1_ : Int32) (H : Heap) (locs : List Loc) (ls : Array Slot), va_P (dC, dI) vwCl [(h_t, .inr (9, [.ref h_t_up, .long t_lower, .int t_alive, .ref h_t_tied])), (h_t_up, .inl (cL, 24, .inr (.inl t_up))), (h_t_tied, .inr (10, [.ref h_t_tied_member, .ref h_t_tied_factor, .int t_tied_size])), (h_t_tied_member, .inl (cI, 4, .inl t_tied_member)), (h_t_tied_factor, .inl (cL, 4, .inr (.inl t_tied_factor)))] H → va_D A [(h_t, .inr (9, [.ref h_t_up, .long t_lower, .int t_alive, .ref h_t_tied])), (h_t_up, .inl (cL, 24, .inr (.inl t_up))), (h_t_tied, .inr (10, [.ref h_t_tied_member, .ref h_t_tied_factor, .int t_tied_size])), (h_t_tied_member, .inl (cI, 4, .inl t_tied_member)), (h_t_tied_factor, .inl (cL, 4, .inr (.inl t_tied_factor)))] → va_S A s.heap H locs → lv_has ls 3 [(0, .ref h_t), (1, .int l1), (2, .int l2)] → fX9_tightest_L12 K t_up t_tied_size t_tied_member t_tied_factor n l1 l2 = some x1_ → (∀ (H : Heap) (locs : List Loc) (ls : Array Slot), va_P (dC, dI) vwCl [(h_t, .inr (9, [.ref h_t_up, .long t_lower, .int t_alive, .ref h_t_tied])), (h_t_up, .inl (cL, 24, .inr (.inl t_up))), (h_t_tied, .inr (10, [.ref h_t_tied_member, .ref h_t_tied_factor, .int t_tied_size])), (h_t_tied_member, .inl (cI, 4, .inl t_tied_member)), (h_t_tied_factor, .inl (cL, 4, .inr (.inl t_tied_factor)))] H → va_D A [(h_t, .inr (9, [.ref h_t_up, .long t_lower, .int t_alive, .ref h_t_tied])), (h_t_up, .inl (cL, 24, .inr (.inl t_up))), (h_t_tied, .inr (10, [.ref h_t_tied_member, .ref h_t_tied_factor, .int t_tied_size])), (h_t_tied_member, .inl (cI, 4, .inl t_tied_member)), (h_t_tied_factor, .inl (cL, 4, .inr (.inl t_tied_factor)))] → va_S A s.heap H locs → lv_has ls 3 [(1, .int x1_)] → W p l e R s m args below meth c H locs 0 0 Q (F0 m 97 ls [])) → W p l e R s m args below meth c H locs 0 0 Q (F0 m 12 ls []) := by
  obtain ⟨hx, hb, hml, hown, hts, hK, hT, hA, hF, hLo⟩ := id C0
  intro n
  induction n with
  | zero =>
    intro l1 l2 x1_ H locs ls hP hD hS hl hf
    rw [fX9_tightest_L12] at hf
    cases hf
  | succ n ih =>
    intro l1 l2 x1_ H locs ls hP hD hS hl hf hk
    rw [fX9_tightest_L12] at hf
    refine lv_iload_n hx hb dX9_tightest_12 rfl (lv_at hl 2 rfl) ?_
    refine lv_aload_n hx hb dX9_tightest_13 rfl (lv_at hl 0 rfl) ?_
    refine va_get (D := (dC, dI)) (ci := 9) (v := .ref h_t_tied) (C := RX9) (T := TX9) (N := 4) hx hb hts in_X9 hown hK hP 0 rfl rfl 3 (Nat.le_of_ble_eq_true rfl) (hts _ qf_X9_22) (fun _ h9 => h9) rfl dX9_tightest_14 ?_
    refine va_get (D := (dC, dI)) (ci := 10) (v := .int t_tied_size) (C := RX10) (T := TX10) (N := 3) hx hb hts in_X10 hown hK hP 2 rfl rfl 2 (Nat.le_of_ble_eq_true rfl) (hts _ qf_X9_60) (fun _ h9 => h9) rfl dX9_tightest_17 ?_
    refine lv_icmp_ge (tgt := 97) hx hb dX9_tightest_20 (by decide) (fun hc => ?_) (fun hc => ?_)
    · replace hf := it_t (hc) hf
      obtain rfl := o1 hf
      exact hk H locs ls hP hD hS (lv_sub hl [1] rfl)
    · replace hf := it_f (hc) hf
      refine lv_aload_n hx hb dX9_tightest_23 rfl (lv_at hl 0 rfl) ?_
      refine va_get (D := (dC, dI)) (ci := 9) (v := .ref h_t_tied) (C := RX9) (T := TX9) (N := 4) hx hb hts in_X9 hown hK hP 0 rfl rfl 3 (Nat.le_of_ble_eq_true rfl) (hts _ qf_X9_22) (fun _ h9 => h9) rfl dX9_tightest_24 ?_
      refine va_get (D := (dC, dI)) (ci := 10) (v := .ref h_t_tied_factor) (C := RX10) (T := TX10) (N := 3) hx hb hts in_X10 hown hK hP 2 rfl rfl 1 (Nat.le_of_ble_eq_true rfl) (hts _ qf_X9_61) (fun _ h9 => h9) rfl dX9_tightest_27 ?_
      refine lv_iload_n hx hb dX9_tightest_30 rfl (lv_at hl 2 rfl) ?_
      obtain ⟨hg_2, hf⟩ := gd_some hf
      refine va_lald hx hb hK hP 4 1 rfl rfl (inb_in hg_2) dX9_tightest_31 ?_
      refine lv_lconst (v := (0 : Int64)) hx hb dX9_tightest_32 (by decide) ?_
      refine W.lcmp hx hb dX9_tightest_33 ?_
      obtain ⟨k_4, ek_4, hf⟩ := jn_out hf
      have J_5 : ∀ (l1_3 : Int32) (H : Heap) (locs : List Loc) (ls : Array Slot), va_P (dC, dI) vwCl [(h_t, .inr (9, [.ref h_t_up, .long t_lower, .int t_alive, .ref h_t_tied])), (h_t_up, .inl (cL, 24, .inr (.inl t_up))), (h_t_tied, .inr (10, [.ref h_t_tied_member, .ref h_t_tied_factor, .int t_tied_size])), (h_t_tied_member, .inl (cI, 4, .inl t_tied_member)), (h_t_tied_factor, .inl (cL, 4, .inr (.inl t_tied_factor)))] H → va_D A [(h_t, .inr (9, [.ref h_t_up, .long t_lower, .int t_alive, .ref h_t_tied])), (h_t_up, .inl (cL, 24, .inr (.inl t_up))), (h_t_tied, .inr (10, [.ref h_t_tied_member, .ref h_t_tied_factor, .int t_tied_size])), (h_t_tied_member, .inl (cI, 4, .inl t_tied_member)), (h_t_tied_factor, .inl (cL, 4, .inr (.inl t_tied_factor)))] → va_S A s.heap H locs → lv_has ls 3 [(0, .ref h_t), (1, .int l1_3), (2, .int l2)] → k_4 l1_3 = some x1_ → W p l e R s m args below meth c H locs 0 0 Q (F0 m 91 ls []) := by
        intro l1_3 H locs ls hP hD hS hl hf
        rw [ek_4] at hf
        try dsimp only at hf
        obtain ⟨l2_6, el2_6⟩ : ∃ y : Int32, y = l2 + (1 : Int32) := ⟨_, rfl⟩
        replace hf := xl_at hf el2_6
        refine lv_iinc (v := l2_6) (lv' := [(2, .int l2_6), (0, .ref h_t), (1, .int l1_3)]) hx hb dX9_tightest_91 hl (k := 2) rfl (by rw [el2_6]; rfl) (Nat.le_of_ble_eq_true rfl) rfl (fun ls hl => ?_)
        refine lv_goto (tgt := 12) hx hb dX9_tightest_94 (by decide) ?_
        exact ih l1_3 l2_6 _ H locs ls hP hD hS (lv_sub hl [1, 2, 0] rfl) hf hk
      refine lv_if_le (tgt := 91) hx hb dX9_tightest_34 (by decide) (fun hc => ?_) (fun hc => ?_)
      · replace hf := it_t ((lg_cmp_le _ _).mp hc) hf
        exact J_5 l1 H locs ls hP hD hS (lv_sub hl [0, 1, 2] rfl) hf
      · replace hf := it_f (fun h9 => hc ((lg_cmp_le _ _).mpr h9)) hf
        refine lv_aload_n hx hb dX9_tightest_37 rfl (lv_at hl 0 rfl) ?_
        refine va_get (D := (dC, dI)) (ci := 9) (v := .ref h_t_up) (C := RX9) (T := TX9) (N := 4) hx hb hts in_X9 hown hK hP 0 rfl rfl 0 (Nat.le_of_ble_eq_true rfl) (hts _ qf_X9_9) (fun _ h9 => h9) rfl dX9_tightest_38 ?_
        refine lv_aload_n hx hb dX9_tightest_41 rfl (lv_at hl 0 rfl) ?_
        refine va_get (D := (dC, dI)) (ci := 9) (v := .ref h_t_tied) (C := RX9) (T := TX9) (N := 4) hx hb hts in_X9 hown hK hP 0 rfl rfl 3 (Nat.le_of_ble_eq_true rfl) (hts _ qf_X9_22) (fun _ h9 => h9) rfl dX9_tightest_42 ?_
        refine va_get (D := (dC, dI)) (ci := 10) (v := .ref h_t_tied_member) (C := RX10) (T := TX10) (N := 3) hx hb hts in_X10 hown hK hP 2 rfl rfl 0 (Nat.le_of_ble_eq_true rfl) (hts _ qf_X9_64) (fun _ h9 => h9) rfl dX9_tightest_45 ?_
        refine lv_iload_n hx hb dX9_tightest_48 rfl (lv_at hl 2 rfl) ?_
        obtain ⟨hg_7, hf⟩ := gd_some hf
        refine va_iald hx hb hK hP 3 0 rfl rfl (inb_in hg_7) dX9_tightest_49 ?_
        obtain ⟨hg_8, hf⟩ := gd_some hf
        refine va_lald hx hb hK hP 1 1 rfl rfl (inb_in hg_8) dX9_tightest_50 ?_
        refine lv_aload_n hx hb dX9_tightest_51 rfl (lv_at hl 0 rfl) ?_
        refine va_get (D := (dC, dI)) (ci := 9) (v := .ref h_t_tied) (C := RX9) (T := TX9) (N := 4) hx hb hts in_X9 hown hK hP 0 rfl rfl 3 (Nat.le_of_ble_eq_true rfl) (hts _ qf_X9_22) (fun _ h9 => h9) rfl dX9_tightest_52 ?_
        refine va_get (D := (dC, dI)) (ci := 10) (v := .ref h_t_tied_factor) (C := RX10) (T := TX10) (N := 3) hx hb hts in_X10 hown hK hP 2 rfl rfl 1 (Nat.le_of_ble_eq_true rfl) (hts _ qf_X9_61) (fun _ h9 => h9) rfl dX9_tightest_55 ?_
        refine lv_iload_n hx hb dX9_tightest_58 rfl (lv_at hl 1 rfl) ?_
        obtain ⟨hg_9, hf⟩ := gd_some hf
        refine va_lald hx hb hK hP 4 1 rfl rfl (inb_in hg_9) dX9_tightest_59 ?_
        refine lv_lmul hx hb dX9_tightest_60 ?_
        refine lv_aload_n hx hb dX9_tightest_61 rfl (lv_at hl 0 rfl) ?_
        refine va_get (D := (dC, dI)) (ci := 9) (v := .ref h_t_up) (C := RX9) (T := TX9) (N := 4) hx hb hts in_X9 hown hK hP 0 rfl rfl 0 (Nat.le_of_ble_eq_true rfl) (hts _ qf_X9_9) (fun _ h9 => h9) rfl dX9_tightest_62 ?_
        refine lv_aload_n hx hb dX9_tightest_65 rfl (lv_at hl 0 rfl) ?_
        refine va_get (D := (dC, dI)) (ci := 9) (v := .ref h_t_tied) (C := RX9) (T := TX9) (N := 4) hx hb hts in_X9 hown hK hP 0 rfl rfl 3 (Nat.le_of_ble_eq_true rfl) (hts _ qf_X9_22) (fun _ h9 => h9) rfl dX9_tightest_66 ?_
        refine va_get (D := (dC, dI)) (ci := 10) (v := .ref h_t_tied_member) (C := RX10) (T := TX10) (N := 3) hx hb hts in_X10 hown hK hP 2 rfl rfl 0 (Nat.le_of_ble_eq_true rfl) (hts _ qf_X9_64) (fun _ h9 => h9) rfl dX9_tightest_69 ?_
        refine lv_iload_n hx hb dX9_tightest_72 rfl (lv_at hl 1 rfl) ?_
        obtain ⟨hg_10, hf⟩ := gd_some hf
        refine va_iald hx hb hK hP 3 0 rfl rfl (inb_in hg_10) dX9_tightest_73 ?_
        obtain ⟨hg_11, hf⟩ := gd_some hf
        refine va_lald hx hb hK hP 1 1 rfl rfl (inb_in hg_11) dX9_tightest_74 ?_
        refine lv_aload_n hx hb dX9_tightest_75 rfl (lv_at hl 0 rfl) ?_
        refine va_get (D := (dC, dI)) (ci := 9) (v := .ref h_t_tied) (C := RX9) (T := TX9) (N := 4) hx hb hts in_X9 hown hK hP 0 rfl rfl 3 (Nat.le_of_ble_eq_true rfl) (hts _ qf_X9_22) (fun _ h9 => h9) rfl dX9_tightest_76 ?_
        refine va_get (D := (dC, dI)) (ci := 10) (v := .ref h_t_tied_factor) (C := RX10) (T := TX10) (N := 3) hx hb hts in_X10 hown hK hP 2 rfl rfl 1 (Nat.le_of_ble_eq_true rfl) (hts _ qf_X9_61) (fun _ h9 => h9) rfl dX9_tightest_79 ?_
        refine lv_iload_n hx hb dX9_tightest_82 rfl (lv_at hl 2 rfl) ?_
        obtain ⟨hg_12, hf⟩ := gd_some hf
        refine va_lald hx hb hK hP 4 1 rfl rfl (inb_in hg_12) dX9_tightest_83 ?_
        refine lv_lmul hx hb dX9_tightest_84 ?_
        refine W.lcmp hx hb dX9_tightest_85 ?_
        refine lv_if_ge (tgt := 91) hx hb dX9_tightest_86 (by decide) (fun hc => ?_) (fun hc => ?_)
        · replace hf := it_t ((lg_cmp_ge _ _).mp hc) hf
          exact J_5 l1 H locs ls hP hD hS (lv_sub hl [0, 1, 2] rfl) hf
        · replace hf := it_f (fun h9 => hc ((lg_cmp_ge _ _).mpr h9)) hf
          refine lv_iload_n hx hb dX9_tightest_89 rfl (lv_at hl 2 rfl) ?_
          refine lv_istore_n (lv' := [(1, .int l2), (0, .ref h_t), (2, .int l2)]) hx hb dX9_tightest_90 rfl hl (Nat.le_of_ble_eq_true rfl) rfl (fun ls hl => ?_)
          exact J_5 l2 H locs ls hP hD hS (lv_sub hl [1, 0, 2] rfl) hf
set_option maxRecDepth 100000 in
set_option maxHeartbeats 4000000 in
theorem mtX9_tightest (l : Launch) (dC : Nat → ClassId) (dI : Nat → Nat → Nat) (cI cL cB : ClassId) (K : Nat) (h_t h_t_up h_t_tied h_t_tied_member h_t_tied_factor : Nat) (sz : Nat) (t_lower : Int64) (t_alive : Int32) (t_up : Nat → Int64) (t_tied_size : Int32) (t_tied_member : Nat → Int32) (t_tied_factor : Nat → Int64) (o_r : Int32) (hf : fX9_tightest K t_up t_tied_size t_tied_member t_tied_factor = some o_r) : Met l yX9_tightest [Cond.code yX9_tightest cX9_tightest 3 (some .int)] ({ frames := 0, cells := 0, slots := 0, locals := 0 }) (va_Pc [.ref h_t] (cPre dC dI cI cL cB sz [(h_t, .inr (9, [.ref h_t_up, .long t_lower, .int t_alive, .ref h_t_tied])), (h_t_up, .inl (cL, 24, .inr (.inl t_up))), (h_t_tied, .inr (10, [.ref h_t_tied_member, .ref h_t_tied_factor, .int t_tied_size])), (h_t_tied_member, .inl (cI, 4, .inl t_tied_member)), (h_t_tied_factor, .inl (cL, 4, .inr (.inl t_tied_factor)))])) (cQi dC dI (va_A [(h_t, .inr (9, [.ref h_t_up, .long t_lower, .int t_alive, .ref h_t_tied])), (h_t_up, .inl (cL, 24, .inr (.inl t_up))), (h_t_tied, .inr (10, [.ref h_t_tied_member, .ref h_t_tied_factor, .int t_tied_size])), (h_t_tied_member, .inl (cI, 4, .inl t_tied_member)), (h_t_tied_factor, .inl (cL, 4, .inr (.inl t_tied_factor)))] sz) o_r [(h_t, .inr (9, [.ref h_t_up, .long t_lower, .int t_alive, .ref h_t_tied])), (h_t_up, .inl (cL, 24, .inr (.inl t_up))), (h_t_tied, .inr (10, [.ref h_t_tied_member, .ref h_t_tied_factor, .int t_tied_size])), (h_t_tied_member, .inl (cI, 4, .inl t_tied_member)), (h_t_tied_factor, .inl (cL, 4, .inr (.inl t_tied_factor)))]) 0 0 (va_A [(h_t, .inr (9, [.ref h_t_up, .long t_lower, .int t_alive, .ref h_t_tied])), (h_t_up, .inl (cL, 24, .inr (.inl t_up))), (h_t_tied, .inr (10, [.ref h_t_tied_member, .ref h_t_tied_factor, .int t_tied_size])), (h_t_tied_member, .inl (cI, 4, .inl t_tied_member)), (h_t_tied_factor, .inl (cL, 4, .inr (.inl t_tied_factor)))] sz) := by
  refine Met.ofW (cc := cX9_tightest) (maxL := 3) (ret := (some .int)) (by decide) rfl ?_
  intro p e s m args below meth c s₁ B hml hv
  obtain ⟨rfl, hsz, hP, hK, hD0, hT⟩ := hv
  have hx := B.exec
  have hb := B.bytes
  have hr := B.returns
  have hown : s.vm.findClass RX9 = some m.cls := findClass_of_methodNamed B.named
  have hlocks := B.notSynchronized
  have hts := TB.use hT ([.ref h_t] : List Value).toArray
  subst hsz
  have hD := hD0.self (sz := s.heap.size)
  generalize hAe : va_A [(h_t, .inr (9, [.ref h_t_up, .long t_lower, .int t_alive, .ref h_t_tied])), (h_t_up, .inl (cL, 24, .inr (.inl t_up))), (h_t_tied, .inr (10, [.ref h_t_tied_member, .ref h_t_tied_factor, .int t_tied_size])), (h_t_tied_member, .inl (cI, 4, .inl t_tied_member)), (h_t_tied_factor, .inl (cL, 4, .inr (.inl t_tied_factor)))] s.heap.size = A at hD ⊢
  have hA : ∀ q : Nat, s.heap.size ≤ q → A q := fun q h => by rw [← hAe]; exact Or.inr h
  clear hAe hD0
  have hl := lv_entry ([.ref h_t]) (n := 3) (Nat.le_of_ble_eq_true rfl)
  rw [lg_entry_eq]
  generalize (lg_sl ([.ref h_t]) ++ List.replicate (3 - (lg_sl ([.ref h_t])).length) Slot.unset).toArray = ls at hl ⊢
  have hl : lv_has ls 3 [(0, .ref h_t)] := hl
  have hF : 0 ≤ (headSpec [Cond.code yX9_tightest cX9_tightest 3 (some .int)] ({ frames := 0, cells := 0, slots := 0, locals := 0 })).room.frames := Nat.le_refl _
  have hLo : 0 ≤ (headSpec [Cond.code yX9_tightest cX9_tightest 3 (some .int)] ({ frames := 0, cells := 0, slots := 0, locals := 0 })).room.locals := Nat.le_refl _
  have C0 : Sx p (headSpec [Cond.code yX9_tightest cX9_tightest 3 (some .int)] ({ frames := 0, cells := 0, slots := 0, locals := 0 })).room s m ([.ref h_t] : List Value).toArray c cX9_tightest 3 RX9 A dC dI cI cL cB 0 0 := ⟨hx, hb, hml, hown, hts, hK, hT, hA, hF, hLo⟩
  refine startH (A := A) hP (fun H locs hP hS => ?_)
  rw [fX9_tightest] at hf
  refine lv_aload_n hx hb dX9_tightest_0 rfl (lv_at hl 0 rfl) ?_
  refine va_get (D := (dC, dI)) (ci := 9) (v := .ref h_t_tied) (C := RX9) (T := TX9) (N := 4) hx hb hts in_X9 hown hK hP 0 rfl rfl 3 (Nat.le_of_ble_eq_true rfl) (hts _ qf_X9_22) (fun _ h9 => h9) rfl dX9_tightest_1 ?_
  refine va_get (D := (dC, dI)) (ci := 10) (v := .int t_tied_size) (C := RX10) (T := TX10) (N := 3) hx hb hts in_X10 hown hK hP 2 rfl rfl 2 (Nat.le_of_ble_eq_true rfl) (hts _ qf_X9_60) (fun _ h9 => h9) rfl dX9_tightest_4 ?_
  refine lv_iconst (v := (1 : Int32)) hx hb dX9_tightest_7 (by decide) ?_
  refine lv_isub hx hb dX9_tightest_8 ?_
  refine lv_topi (fun l1_1 el1_1 => ?_)
  replace hf := xl_at hf el1_1
  refine lv_istore_n (lv' := [(1, .int l1_1), (0, .ref h_t)]) hx hb dX9_tightest_9 rfl hl (Nat.le_of_ble_eq_true rfl) rfl (fun ls hl => ?_)
  refine lv_iconst (v := (0 : Int32)) hx hb dX9_tightest_10 (by decide) ?_
  refine lv_istore_n (lv' := [(2, .int (0 : Int32)), (1, .int l1_1), (0, .ref h_t)]) hx hb dX9_tightest_11 rfl hl (Nat.le_of_ble_eq_true rfl) rfl (fun ls hl => ?_)
  obtain ⟨l1_14, hq_13, hf⟩ := b1_some hf
  refine wX9_tightest_L12 C0 h_t h_t_up h_t_tied h_t_tied_member h_t_tied_factor t_lower t_alive t_up t_tied_size t_tied_member t_tied_factor K l1_1 (0 : Int32) l1_14 H locs ls hP hD hS (lv_sub hl [2, 1, 0] rfl) hq_13 ?_
  intro H locs ls hP hD hS hl
  refine lv_iload_n hx hb dX9_tightest_97 rfl (lv_at hl 0 rfl) ?_
  obtain rfl := o1 hf
  exact W.iret hx hb hr (fun t ht hW => ⟨⟨_, (), rfl, rfl, by rw [ht]; exact hP, hD⟩, hS.F ht⟩) hS.2.2 dX9_tightest_98
theorem dX9_step_0 : decode cX9_step 0 = .ok (.iload_n 2, 1) := by decide +kernel
theorem dX9_step_1 : decode cX9_step 1 = .ok (.ifCond .ge 4, 3) := by decide +kernel
theorem dX9_step_4 : decode cX9_step 4 = .ok (.return_, 1) := by decide +kernel
theorem dX9_step_5 : decode cX9_step 5 = .ok (.aload_n 0, 1) := by decide +kernel
theorem dX9_step_6 : decode cX9_step 6 = .ok (.getfield 22, 3) := by decide +kernel
theorem dX9_step_9 : decode cX9_step 9 = .ok (.getfield 61, 3) := by decide +kernel
theorem dX9_step_12 : decode cX9_step 12 = .ok (.iload_n 2, 1) := by decide +kernel
theorem dX9_step_13 : decode cX9_step 13 = .ok (.laload, 1) := by decide +kernel
theorem dX9_step_14 : decode cX9_step 14 = .ok (.lstore_n 3, 1) := by decide +kernel
theorem dX9_step_15 : decode cX9_step 15 = .ok (.aload_n 0, 1) := by decide +kernel
theorem dX9_step_16 : decode cX9_step 16 = .ok (.getfield 9, 3) := by decide +kernel
theorem dX9_step_19 : decode cX9_step 19 = .ok (.aload_n 0, 1) := by decide +kernel
theorem dX9_step_20 : decode cX9_step 20 = .ok (.getfield 22, 3) := by decide +kernel
theorem dX9_step_23 : decode cX9_step 23 = .ok (.getfield 64, 3) := by decide +kernel
theorem dX9_step_26 : decode cX9_step 26 = .ok (.iload_n 2, 1) := by decide +kernel
theorem dX9_step_27 : decode cX9_step 27 = .ok (.iaload, 1) := by decide +kernel
theorem dX9_step_28 : decode cX9_step 28 = .ok (.laload, 1) := by decide +kernel
theorem dX9_step_29 : decode cX9_step 29 = .ok (.lstore 5, 2) := by decide +kernel
theorem dX9_step_31 : decode cX9_step 31 = .ok (.aload_n 0, 1) := by decide +kernel
theorem dX9_step_32 : decode cX9_step 32 = .ok (.dup, 1) := by decide +kernel
theorem dX9_step_33 : decode cX9_step 33 = .ok (.getfield 15, 3) := by decide +kernel
theorem dX9_step_36 : decode cX9_step 36 = .ok (.lload_n 3, 1) := by decide +kernel
theorem dX9_step_37 : decode cX9_step 37 = .ok (.lmul, 1) := by decide +kernel
theorem dX9_step_38 : decode cX9_step 38 = .ok (.putfield 15, 3) := by decide +kernel
theorem dX9_step_41 : decode cX9_step 41 = .ok (.aload_n 0, 1) := by decide +kernel
theorem dX9_step_42 : decode cX9_step 42 = .ok (.getfield 15, 3) := by decide +kernel
theorem dX9_step_45 : decode cX9_step 45 = .ok (.lstore 7, 2) := by decide +kernel
theorem dX9_step_47 : decode cX9_step 47 = .ok (.iconst 0, 1) := by decide +kernel
theorem dX9_step_48 : decode cX9_step 48 = .ok (.istore 9, 2) := by decide +kernel
theorem dX9_step_50 : decode cX9_step 50 = .ok (.iload 9, 2) := by decide +kernel
theorem dX9_step_52 : decode cX9_step 52 = .ok (.iload_n 1, 1) := by decide +kernel
theorem dX9_step_53 : decode cX9_step 53 = .ok (.if_icmp .ge 52, 3) := by decide +kernel
theorem dX9_step_56 : decode cX9_step 56 = .ok (.aload_n 0, 1) := by decide +kernel
theorem dX9_step_57 : decode cX9_step 57 = .ok (.getfield 9, 3) := by decide +kernel
theorem dX9_step_60 : decode cX9_step 60 = .ok (.iload 9, 2) := by decide +kernel
theorem dX9_step_62 : decode cX9_step 62 = .ok (.aload_n 0, 1) := by decide +kernel
theorem dX9_step_63 : decode cX9_step 63 = .ok (.getfield 9, 3) := by decide +kernel
theorem dX9_step_66 : decode cX9_step 66 = .ok (.iload 9, 2) := by decide +kernel
theorem dX9_step_68 : decode cX9_step 68 = .ok (.laload, 1) := by decide +kernel
theorem dX9_step_69 : decode cX9_step 69 = .ok (.lload_n 3, 1) := by decide +kernel
theorem dX9_step_70 : decode cX9_step 70 = .ok (.lmul, 1) := by decide +kernel
theorem dX9_step_71 : decode cX9_step 71 = .ok (.lload 5, 2) := by decide +kernel
theorem dX9_step_73 : decode cX9_step 73 = .ok (.aload_n 0, 1) := by decide +kernel
theorem dX9_step_74 : decode cX9_step 74 = .ok (.getfield 22, 3) := by decide +kernel
theorem dX9_step_77 : decode cX9_step 77 = .ok (.iload 9, 2) := by decide +kernel
theorem dX9_step_79 : decode cX9_step 79 = .ok (.invokevirtual 67, 3) := by decide +kernel
theorem dX9_step_82 : decode cX9_step 82 = .ok (.lmul, 1) := by decide +kernel
theorem dX9_step_83 : decode cX9_step 83 = .ok (.lsub, 1) := by decide +kernel
theorem dX9_step_84 : decode cX9_step 84 = .ok (.lastore, 1) := by decide +kernel
theorem dX9_step_85 : decode cX9_step 85 = .ok (.lload 7, 2) := by decide +kernel
theorem dX9_step_87 : decode cX9_step 87 = .ok (.aload_n 0, 1) := by decide +kernel
theorem dX9_step_88 : decode cX9_step 88 = .ok (.getfield 9, 3) := by decide +kernel
theorem dX9_step_91 : decode cX9_step 91 = .ok (.iload 9, 2) := by decide +kernel
theorem dX9_step_93 : decode cX9_step 93 = .ok (.laload, 1) := by decide +kernel
theorem dX9_step_94 : decode cX9_step 94 = .ok (.invokestatic 71, 3) := by decide +kernel
theorem dX9_step_97 : decode cX9_step 97 = .ok (.lstore 7, 2) := by decide +kernel
theorem dX9_step_99 : decode cX9_step 99 = .ok (.iinc 9 1, 3) := by decide +kernel
theorem dX9_step_102 : decode cX9_step 102 = .ok (.goto (-52), 3) := by decide +kernel
theorem dX9_step_105 : decode cX9_step 105 = .ok (.lload 7, 2) := by decide +kernel
theorem dX9_step_107 : decode cX9_step 107 = .ok (.lconst 0, 1) := by decide +kernel
theorem dX9_step_108 : decode cX9_step 108 = .ok (.lcmp, 1) := by decide +kernel
theorem dX9_step_109 : decode cX9_step 109 = .ok (.ifCond .ne 4, 3) := by decide +kernel
theorem dX9_step_112 : decode cX9_step 112 = .ok (.return_, 1) := by decide +kernel
theorem dX9_step_113 : decode cX9_step 113 = .ok (.aload_n 0, 1) := by decide +kernel
theorem dX9_step_114 : decode cX9_step 114 = .ok (.dup, 1) := by decide +kernel
theorem dX9_step_115 : decode cX9_step 115 = .ok (.getfield 15, 3) := by decide +kernel
theorem dX9_step_118 : decode cX9_step 118 = .ok (.lload 7, 2) := by decide +kernel
theorem dX9_step_120 : decode cX9_step 120 = .ok (.ldiv, 1) := by decide +kernel
theorem dX9_step_121 : decode cX9_step 121 = .ok (.putfield 15, 3) := by decide +kernel
theorem dX9_step_124 : decode cX9_step 124 = .ok (.iconst 0, 1) := by decide +kernel
theorem dX9_step_125 : decode cX9_step 125 = .ok (.istore 9, 2) := by decide +kernel
theorem dX9_step_127 : decode cX9_step 127 = .ok (.iload 9, 2) := by decide +kernel
theorem dX9_step_129 : decode cX9_step 129 = .ok (.iload_n 1, 1) := by decide +kernel
theorem dX9_step_130 : decode cX9_step 130 = .ok (.if_icmp .ge 48, 3) := by decide +kernel
theorem dX9_step_133 : decode cX9_step 133 = .ok (.aload_n 0, 1) := by decide +kernel
theorem dX9_step_134 : decode cX9_step 134 = .ok (.getfield 9, 3) := by decide +kernel
theorem dX9_step_137 : decode cX9_step 137 = .ok (.iload 9, 2) := by decide +kernel
theorem dX9_step_139 : decode cX9_step 139 = .ok (.dup2, 1) := by decide +kernel
theorem dX9_step_140 : decode cX9_step 140 = .ok (.laload, 1) := by decide +kernel
theorem dX9_step_141 : decode cX9_step 141 = .ok (.lload 7, 2) := by decide +kernel
theorem dX9_step_143 : decode cX9_step 143 = .ok (.ldiv, 1) := by decide +kernel
theorem dX9_step_144 : decode cX9_step 144 = .ok (.lastore, 1) := by decide +kernel
theorem dX9_step_145 : decode cX9_step 145 = .ok (.aload_n 0, 1) := by decide +kernel
theorem dX9_step_146 : decode cX9_step 146 = .ok (.getfield 9, 3) := by decide +kernel
theorem dX9_step_149 : decode cX9_step 149 = .ok (.iload 9, 2) := by decide +kernel
theorem dX9_step_151 : decode cX9_step 151 = .ok (.laload, 1) := by decide +kernel
theorem dX9_step_152 : decode cX9_step 152 = .ok (.lconst 0, 1) := by decide +kernel
theorem dX9_step_153 : decode cX9_step 153 = .ok (.lcmp, 1) := by decide +kernel
theorem dX9_step_154 : decode cX9_step 154 = .ok (.ifCond .ne 18, 3) := by decide +kernel
theorem dX9_step_157 : decode cX9_step 157 = .ok (.aload_n 0, 1) := by decide +kernel
theorem dX9_step_158 : decode cX9_step 158 = .ok (.dup, 1) := by decide +kernel
theorem dX9_step_159 : decode cX9_step 159 = .ok (.getfield 32, 3) := by decide +kernel
theorem dX9_step_162 : decode cX9_step 162 = .ok (.iconst 1, 1) := by decide +kernel
theorem dX9_step_163 : decode cX9_step 163 = .ok (.iload 9, 2) := by decide +kernel
theorem dX9_step_165 : decode cX9_step 165 = .ok (.ishl, 1) := by decide +kernel
theorem dX9_step_166 : decode cX9_step 166 = .ok (.iconst (-1), 1) := by decide +kernel
theorem dX9_step_167 : decode cX9_step 167 = .ok (.ixor, 1) := by decide +kernel
theorem dX9_step_168 : decode cX9_step 168 = .ok (.iand, 1) := by decide +kernel
theorem dX9_step_169 : decode cX9_step 169 = .ok (.putfield 32, 3) := by decide +kernel
theorem dX9_step_172 : decode cX9_step 172 = .ok (.iinc 9 1, 3) := by decide +kernel
theorem dX9_step_175 : decode cX9_step 175 = .ok (.goto (-48), 3) := by decide +kernel
theorem dX9_step_178 : decode cX9_step 178 = .ok (.return_, 1) := by decide +kernel
set_option maxRecDepth 100000 in
set_option maxHeartbeats 4000000 in
theorem wX9_step_L50 {p : Program} {l : Launch} {e : Env} {R : Room} {s : State} {m : MethodId} {args : Array Value} {below : List Frame} {meth : Method} {c : Code} {Q : State → Prop} {A : Nat → Prop} {dC : Nat → ClassId} {dI : Nat → Nat → Nat} {cI cL cB : ClassId} {K : Nat} (C0 : Sx p R s m args c cX9_step 10 RX9 A dC dI cI cL cB 2 45) (h_t h_t_up h_t_tied h_t_tied_member h_t_tied_factor : Nat) (t_lower : Int64) (t_alive : Int32) (t_tied_size : Int32) (t_tied_member : Nat → Int32) (t_tied_factor : Nat → Int64) (l1 : Int32) (l3 : Int64) (l5 : Int64) : ∀ (n : Nat) (l7 : Int64) (l9 : Int32) (t_up : Nat → Int64) (x7_ : Int64) (x_t_up : Nat → Int64) (H : Heap) (locs : List Loc) (ls : Array Slot), va_P (dC, dI) vwCl [(h_t, .inr (9, [.ref h_t_up, .long t_lower, .int t_alive, .ref h_t_tied])), (h_t_up, .inl (cL, 24, .inr (.inl t_up))), (h_t_tied, .inr (10, [.ref h_t_tied_member, .ref h_t_tied_factor, .int t_tied_size])), (h_t_tied_member, .inl (cI, 4, .inl t_tied_member)), (h_t_tied_factor, .inl (cL, 4, .inr (.inl t_tied_factor)))] H → va_D A [(h_t, .inr (9, [.ref h_t_up, .long t_lower, .int t_alive, .ref h_t_tied])), (h_t_up, .inl (cL, 24, .inr (.inl t_up))), (h_t_tied, .inr (10, [.ref h_t_tied_member, .ref h_t_tied_factor, .int t_tied_size])), (h_t_tied_member, .inl (cI, 4, .inl t_tied_member)), (h_t_tied_factor, .inl (cL, 4, .inr (.inl t_tied_factor)))] → va_S A s.heap H locs → lv_has ls 10 [(0, .ref h_t), (1, .int l1), (3, .long l3), (5, .long l5), (7, .long l7), (9, .int l9)] → fX9_step_L50 K l1 l3 l5 t_tied_size t_tied_member t_tied_factor n l7 l9 t_up = some (x7_, x_t_up) → (∀ (H : Heap) (locs : List Loc) (ls : Array Slot), va_P (dC, dI) vwCl [(h_t, .inr (9, [.ref h_t_up, .long t_lower, .int t_alive, .ref h_t_tied])), (h_t_up, .inl (cL, 24, .inr (.inl x_t_up))), (h_t_tied, .inr (10, [.ref h_t_tied_member, .ref h_t_tied_factor, .int t_tied_size])), (h_t_tied_member, .inl (cI, 4, .inl t_tied_member)), (h_t_tied_factor, .inl (cL, 4, .inr (.inl t_tied_factor)))] H → va_D A [(h_t, .inr (9, [.ref h_t_up, .long t_lower, .int t_alive, .ref h_t_tied])), (h_t_up, .inl (cL, 24, .inr (.inl x_t_up))), (h_t_tied, .inr (10, [.ref h_t_tied_member, .ref h_t_tied_factor, .int t_tied_size])), (h_t_tied_member, .inl (cI, 4, .inl t_tied_member)), (h_t_tied_factor, .inl (cL, 4, .inr (.inl t_tied_factor)))] → va_S A s.heap H locs → lv_has ls 10 [(0, .ref h_t), (1, .int l1), (7, .long x7_)] → W p l e R s m args below meth c H locs 0 0 Q (F0 m 105 ls [])) → W p l e R s m args below meth c H locs 0 0 Q (F0 m 50 ls []) := by
  obtain ⟨hx, hb, hml, hown, hts, hK, hT, hA, hF, hLo⟩ := id C0
  intro n
  induction n with
  | zero =>
    intro l7 l9 t_up x7_ x_t_up H locs ls hP hD hS hl hf
    rw [fX9_step_L50] at hf
    cases hf
  | succ n ih =>
    intro l7 l9 t_up x7_ x_t_up H locs ls hP hD hS hl hf hk
    rw [fX9_step_L50] at hf
    refine lv_iload hx hb dX9_step_50 (lv_at hl 5 rfl) ?_
    refine lv_iload_n hx hb dX9_step_52 rfl (lv_at hl 1 rfl) ?_
    refine lv_icmp_ge (tgt := 105) hx hb dX9_step_53 (by decide) (fun hc => ?_) (fun hc => ?_)
    · replace hf := it_t (hc) hf
      obtain ⟨rfl, rfl⟩ := o2 hf
      exact hk H locs ls hP hD hS (lv_sub hl [0, 1, 4] rfl)
    · replace hf := it_f (hc) hf
      refine lv_aload_n hx hb dX9_step_56 rfl (lv_at hl 0 rfl) ?_
      refine va_get (D := (dC, dI)) (ci := 9) (v := .ref h_t_up) (C := RX9) (T := TX9) (N := 4) hx hb hts in_X9 hown hK hP 0 rfl rfl 0 (Nat.le_of_ble_eq_true rfl) (hts _ qf_X9_9) (fun _ h9 => h9) rfl dX9_step_57 ?_
      refine lv_iload hx hb dX9_step_60 (lv_at hl 5 rfl) ?_
      refine lv_aload_n hx hb dX9_step_62 rfl (lv_at hl 0 rfl) ?_
      refine va_get (D := (dC, dI)) (ci := 9) (v := .ref h_t_up) (C := RX9) (T := TX9) (N := 4) hx hb hts in_X9 hown hK hP 0 rfl rfl 0 (Nat.le_of_ble_eq_true rfl) (hts _ qf_X9_9) (fun _ h9 => h9) rfl dX9_step_63 ?_
      refine lv_iload hx hb dX9_step_66 (lv_at hl 5 rfl) ?_
      obtain ⟨hg_7, hf⟩ := gd_some hf
      refine va_lald hx hb hK hP 1 1 rfl rfl (inb_in hg_7) dX9_step_68 ?_
      refine lv_lload_n hx hb dX9_step_69 rfl (lv_at hl 2 rfl) ?_
      refine lv_lmul hx hb dX9_step_70 ?_
      refine lv_lload hx hb dX9_step_71 (lv_at hl 3 rfl) ?_
      refine lv_aload_n hx hb dX9_step_73 rfl (lv_at hl 0 rfl) ?_
      refine va_get (D := (dC, dI)) (ci := 9) (v := .ref h_t_tied) (C := RX9) (T := TX9) (N := 4) hx hb hts in_X9 hown hK hP 0 rfl rfl 3 (Nat.le_of_ble_eq_true rfl) (hts _ qf_X9_22) (fun _ h9 => h9) rfl dX9_step_74 ?_
      refine lv_iload hx hb dX9_step_77 (lv_at hl 5 rfl) ?_
      obtain ⟨r_8, hq_9, hf⟩ := b1_some hf
      refine xcl (wr := [(h_t, .inr (9, [.ref h_t_up, .long t_lower, .int t_alive, .ref h_t_tied])), (h_t_up, .inl (cL, 24, .inr (.inl t_up)))]) (w2 := [(h_t, .inr (9, [.ref h_t_up, .long t_lower, .int t_alive, .ref h_t_tied])), (h_t_up, .inl (cL, 24, .inr (.inl t_up))), (h_t_tied, .inr (10, [.ref h_t_tied_member, .ref h_t_tied_factor, .int t_tied_size])), (h_t_tied_member, .inl (cI, 4, .inl t_tied_member)), (h_t_tied_factor, .inl (cL, 4, .inr (.inl t_tied_factor)))]) (va_runV (As := [.int l9]) (rest := [.long l5, .long ((t_up l9.toNatClampNeg) * l3), .int l9, .ref h_t_up]) ⟨hx, hb, hml, hown, hts⟩ (mtX10_factorOf l dC dI cI cL cB K h_t_tied h_t_tied_member h_t_tied_factor H.size t_tied_size t_tied_member t_tied_factor l9 r_8 hq_9) (cwV 1 hts gv_X9_67 rfl rfl rfl hdV_X10_factorOf ⟨Nat.le_trans (Nat.le_of_ble_eq_true rfl) hF, Nat.le_trans (Nat.le_of_ble_eq_true rfl) hLo⟩) (cPreV hK hP hD hT [2, 3, 4] rfl rfl (ci := 10) (q0 := 0) rfl rfl) rfl rfl hl.1 rfl (lv_room (Nat.le_of_ble_eq_true rfl)) dX9_step_79 ⟨Nat.zero_le _, Nat.zero_le _⟩) hP hD hS hA [2, 3, 4] [0, 1] [0, 1, 2, 3, 4] rfl rfl rfl rfl rfl rfl (fun H locs hP hD hS => ?_)
      refine lv_lmul hx hb dX9_step_82 ?_
      refine lv_lsub hx hb dX9_step_83 ?_
      obtain ⟨hg_10, hf⟩ := gd_some hf
      obtain ⟨t_up_11, et_up_11⟩ : ∃ y : Nat → Int64, y = vp_updL t_up l9.toNatClampNeg (((t_up l9.toNatClampNeg) * l3) - (l5 * r_8)) := ⟨_, rfl⟩
      replace hf := xl_at hf et_up_11
      refine xlast (w2 := [(h_t, .inr (9, [.ref h_t_up, .long t_lower, .int t_alive, .ref h_t_tied])), (h_t_up, .inl (cL, 24, .inr (.inl t_up_11))), (h_t_tied, .inr (10, [.ref h_t_tied_member, .ref h_t_tied_factor, .int t_tied_size])), (h_t_tied_member, .inl (cI, 4, .inl t_tied_member)), (h_t_tied_factor, .inl (cL, 4, .inr (.inl t_tied_factor)))]) hx hb hK hP hD hS 1 1 rfl rfl (inb_in hg_10) et_up_11 rfl dX9_step_84 (fun H locs hP hD hS => ?_)
      refine lv_lload hx hb dX9_step_85 (lv_at hl 4 rfl) ?_
      refine lv_aload_n hx hb dX9_step_87 rfl (lv_at hl 0 rfl) ?_
      refine va_get (D := (dC, dI)) (ci := 9) (v := .ref h_t_up) (C := RX9) (T := TX9) (N := 4) hx hb hts in_X9 hown hK hP 0 rfl rfl 0 (Nat.le_of_ble_eq_true rfl) (hts _ qf_X9_9) (fun _ h9 => h9) rfl dX9_step_88 ?_
      refine lv_iload hx hb dX9_step_91 (lv_at hl 5 rfl) ?_
      obtain ⟨hg_12, hf⟩ := gd_some hf
      refine va_lald hx hb hK hP 1 1 rfl rfl (inb_in hg_12) dX9_step_93 ?_
      obtain ⟨r_13, hq_14, hf⟩ := b1_some hf
      refine xcl (wr := [(h_t, .inr (9, [.ref h_t_up, .long t_lower, .int t_alive, .ref h_t_tied])), (h_t_up, .inl (cL, 24, .inr (.inl t_up_11))), (h_t_tied, .inr (10, [.ref h_t_tied_member, .ref h_t_tied_factor, .int t_tied_size])), (h_t_tied_member, .inl (cI, 4, .inl t_tied_member)), (h_t_tied_factor, .inl (cL, 4, .inr (.inl t_tied_factor)))]) (w2 := [(h_t, .inr (9, [.ref h_t_up, .long t_lower, .int t_alive, .ref h_t_tied])), (h_t_up, .inl (cL, 24, .inr (.inl t_up_11))), (h_t_tied, .inr (10, [.ref h_t_tied_member, .ref h_t_tied_factor, .int t_tied_size])), (h_t_tied_member, .inl (cI, 4, .inl t_tied_member)), (h_t_tied_factor, .inl (cL, 4, .inr (.inl t_tied_factor)))]) (va_runSN (As := [.long l7, .long (t_up_11 l9.toNatClampNeg)]) (rest := []) ⟨hx, hb, hml, hown, hts⟩ (mtX11_gcd l dC dI cI cL cB K H.size l7 (t_up_11 l9.toNatClampNeg) r_13 hq_14) ⟨va_cnB 2 hts (gcode qc_X11_gcd) rfl rfl rfl (hT _ qm_X9_71) (hts _ qz_X11) hdS_X11_gcd ⟨Nat.le_trans (Nat.le_of_ble_eq_true rfl) hF, Nat.le_trans (Nat.le_of_ble_eq_true rfl) hLo⟩, hts _ qt_X11_gcd, trivial⟩ (cPreS hK hP hD hT [] rfl rfl) rfl rfl hl.1 rfl (lv_room (Nat.le_of_ble_eq_true rfl)) dX9_step_94 ⟨Nat.zero_le _, Nat.zero_le _⟩) hP hD hS hA [] [0, 1, 2, 3, 4] [0, 1, 2, 3, 4] rfl rfl rfl rfl rfl rfl (fun H locs hP hD hS => ?_)
      refine lv_lstore (lv' := [(7, .long r_13), (0, .ref h_t), (1, .int l1), (3, .long l3), (5, .long l5), (9, .int l9)]) hx hb dX9_step_97 hl (Nat.le_of_ble_eq_true rfl) rfl (fun ls hl => ?_)
      obtain ⟨l9_15, el9_15⟩ : ∃ y : Int32, y = l9 + (1 : Int32) := ⟨_, rfl⟩
      replace hf := xl_at hf el9_15
      refine lv_iinc (v := l9_15) (lv' := [(9, .int l9_15), (7, .long r_13), (0, .ref h_t), (1, .int l1), (3, .long l3), (5, .long l5)]) hx hb dX9_step_99 hl (k := 5) rfl (by rw [el9_15]; rfl) (Nat.le_of_ble_eq_true rfl) rfl (fun ls hl => ?_)
      refine lv_goto (tgt := 50) hx hb dX9_step_102 (by decide) ?_
      exact ih r_13 l9_15 t_up_11 _ _ H locs ls hP hD hS (lv_sub hl [2, 3, 4, 5, 1, 0] rfl) hf hk
set_option maxRecDepth 100000 in
set_option maxHeartbeats 4000000 in
theorem wX9_step_L127 {p : Program} {l : Launch} {e : Env} {R : Room} {s : State} {m : MethodId} {args : Array Value} {below : List Frame} {meth : Method} {c : Code} {Q : State → Prop} {A : Nat → Prop} {dC : Nat → ClassId} {dI : Nat → Nat → Nat} {cI cL cB : ClassId} {K : Nat} (C0 : Sx p R s m args c cX9_step 10 RX9 A dC dI cI cL cB 2 45) (h_t h_t_up h_t_tied h_t_tied_member h_t_tied_factor : Nat) (t_lower : Int64) (t_tied_size : Int32) (t_tied_member : Nat → Int32) (t_tied_factor : Nat → Int64) (l1 : Int32) (l7 : Int64) : ∀ (n : Nat) (l9 : Int32) (t_alive : Int32) (t_up : Nat → Int64) (x_t_alive : Int32) (x_t_up : Nat → Int64) (H : Heap) (locs : List Loc) (ls : Array Slot), va_P (dC, dI) vwCl [(h_t, .inr (9, [.ref h_t_up, .long t_lower, .int t_alive, .ref h_t_tied])), (h_t_up, .inl (cL, 24, .inr (.inl t_up))), (h_t_tied, .inr (10, [.ref h_t_tied_member, .ref h_t_tied_factor, .int t_tied_size])), (h_t_tied_member, .inl (cI, 4, .inl t_tied_member)), (h_t_tied_factor, .inl (cL, 4, .inr (.inl t_tied_factor)))] H → va_D A [(h_t, .inr (9, [.ref h_t_up, .long t_lower, .int t_alive, .ref h_t_tied])), (h_t_up, .inl (cL, 24, .inr (.inl t_up))), (h_t_tied, .inr (10, [.ref h_t_tied_member, .ref h_t_tied_factor, .int t_tied_size])), (h_t_tied_member, .inl (cI, 4, .inl t_tied_member)), (h_t_tied_factor, .inl (cL, 4, .inr (.inl t_tied_factor)))] → va_S A s.heap H locs → lv_has ls 10 [(0, .ref h_t), (1, .int l1), (7, .long l7), (9, .int l9)] → fX9_step_L127 K l1 l7 n l9 t_alive t_up = some (x_t_alive, x_t_up) → (∀ (H : Heap) (locs : List Loc) (ls : Array Slot), va_P (dC, dI) vwCl [(h_t, .inr (9, [.ref h_t_up, .long t_lower, .int x_t_alive, .ref h_t_tied])), (h_t_up, .inl (cL, 24, .inr (.inl x_t_up))), (h_t_tied, .inr (10, [.ref h_t_tied_member, .ref h_t_tied_factor, .int t_tied_size])), (h_t_tied_member, .inl (cI, 4, .inl t_tied_member)), (h_t_tied_factor, .inl (cL, 4, .inr (.inl t_tied_factor)))] H → va_D A [(h_t, .inr (9, [.ref h_t_up, .long t_lower, .int x_t_alive, .ref h_t_tied])), (h_t_up, .inl (cL, 24, .inr (.inl x_t_up))), (h_t_tied, .inr (10, [.ref h_t_tied_member, .ref h_t_tied_factor, .int t_tied_size])), (h_t_tied_member, .inl (cI, 4, .inl t_tied_member)), (h_t_tied_factor, .inl (cL, 4, .inr (.inl t_tied_factor)))] → va_S A s.heap H locs → lv_has ls 10 [] → W p l e R s m args below meth c H locs 0 0 Q (F0 m 178 ls [])) → W p l e R s m args below meth c H locs 0 0 Q (F0 m 127 ls []) := by
  obtain ⟨hx, hb, hml, hown, hts, hK, hT, hA, hF, hLo⟩ := id C0
  intro n
  induction n with
  | zero =>
    intro l9 t_alive t_up x_t_alive x_t_up H locs ls hP hD hS hl hf
    rw [fX9_step_L127] at hf
    cases hf
  | succ n ih =>
    intro l9 t_alive t_up x_t_alive x_t_up H locs ls hP hD hS hl hf hk
    rw [fX9_step_L127] at hf
    refine lv_iload hx hb dX9_step_127 (lv_at hl 3 rfl) ?_
    refine lv_iload_n hx hb dX9_step_129 rfl (lv_at hl 1 rfl) ?_
    refine lv_icmp_ge (tgt := 178) hx hb dX9_step_130 (by decide) (fun hc => ?_) (fun hc => ?_)
    · replace hf := it_t (hc) hf
      obtain ⟨rfl, rfl⟩ := o2 hf
      exact hk H locs ls hP hD hS (lv_sub hl [] rfl)
    · replace hf := it_f (hc) hf
      refine lv_aload_n hx hb dX9_step_133 rfl (lv_at hl 0 rfl) ?_
      refine va_get (D := (dC, dI)) (ci := 9) (v := .ref h_t_up) (C := RX9) (T := TX9) (N := 4) hx hb hts in_X9 hown hK hP 0 rfl rfl 0 (Nat.le_of_ble_eq_true rfl) (hts _ qf_X9_9) (fun _ h9 => h9) rfl dX9_step_134 ?_
      refine lv_iload hx hb dX9_step_137 (lv_at hl 3 rfl) ?_
      refine lv_dup2_11 hx hb dX9_step_139 rfl rfl ?_
      obtain ⟨hg_21, hf⟩ := gd_some hf
      refine va_lald hx hb hK hP 1 1 rfl rfl (inb_in hg_21) dX9_step_140 ?_
      refine lv_lload hx hb dX9_step_141 (lv_at hl 2 rfl) ?_
      obtain ⟨hg_22, hf⟩ := gd_some hf
      refine lv_ldiv hx hb dX9_step_143 (nz_ne hg_22) ?_
      obtain ⟨hg_23, hf⟩ := gd_some hf
      obtain ⟨t_up_24, et_up_24⟩ : ∃ y : Nat → Int64, y = vp_updL t_up l9.toNatClampNeg ((t_up l9.toNatClampNeg) / l7) := ⟨_, rfl⟩
      replace hf := xl_at hf et_up_24
      refine xlast (w2 := [(h_t, .inr (9, [.ref h_t_up, .long t_lower, .int t_alive, .ref h_t_tied])), (h_t_up, .inl (cL, 24, .inr (.inl t_up_24))), (h_t_tied, .inr (10, [.ref h_t_tied_member, .ref h_t_tied_factor, .int t_tied_size])), (h_t_tied_member, .inl (cI, 4, .inl t_tied_member)), (h_t_tied_factor, .inl (cL, 4, .inr (.inl t_tied_factor)))]) hx hb hK hP hD hS 1 1 rfl rfl (inb_in hg_23) et_up_24 rfl dX9_step_144 (fun H locs hP hD hS => ?_)
      refine lv_aload_n hx hb dX9_step_145 rfl (lv_at hl 0 rfl) ?_
      refine va_get (D := (dC, dI)) (ci := 9) (v := .ref h_t_up) (C := RX9) (T := TX9) (N := 4) hx hb hts in_X9 hown hK hP 0 rfl rfl 0 (Nat.le_of_ble_eq_true rfl) (hts _ qf_X9_9) (fun _ h9 => h9) rfl dX9_step_146 ?_
      refine lv_iload hx hb dX9_step_149 (lv_at hl 3 rfl) ?_
      obtain ⟨hg_25, hf⟩ := gd_some hf
      refine va_lald hx hb hK hP 1 1 rfl rfl (inb_in hg_25) dX9_step_151 ?_
      refine lv_lconst (v := (0 : Int64)) hx hb dX9_step_152 (by decide) ?_
      refine W.lcmp hx hb dX9_step_153 ?_
      obtain ⟨k_27, ek_27, hf⟩ := jn_out hf
      have J_28 : ∀ (t_alive_26 : Int32) (H : Heap) (locs : List Loc) (ls : Array Slot), va_P (dC, dI) vwCl [(h_t, .inr (9, [.ref h_t_up, .long t_lower, .int t_alive_26, .ref h_t_tied])), (h_t_up, .inl (cL, 24, .inr (.inl t_up_24))), (h_t_tied, .inr (10, [.ref h_t_tied_member, .ref h_t_tied_factor, .int t_tied_size])), (h_t_tied_member, .inl (cI, 4, .inl t_tied_member)), (h_t_tied_factor, .inl (cL, 4, .inr (.inl t_tied_factor)))] H → va_D A [(h_t, .inr (9, [.ref h_t_up, .long t_lower, .int t_alive_26, .ref h_t_tied])), (h_t_up, .inl (cL, 24, .inr (.inl t_up_24))), (h_t_tied, .inr (10, [.ref h_t_tied_member, .ref h_t_tied_factor, .int t_tied_size])), (h_t_tied_member, .inl (cI, 4, .inl t_tied_member)), (h_t_tied_factor, .inl (cL, 4, .inr (.inl t_tied_factor)))] → va_S A s.heap H locs → lv_has ls 10 [(0, .ref h_t), (1, .int l1), (7, .long l7), (9, .int l9)] → k_27 t_alive_26 = some (x_t_alive, x_t_up) → W p l e R s m args below meth c H locs 0 0 Q (F0 m 172 ls []) := by
        intro t_alive_26 H locs ls hP hD hS hl hf
        rw [ek_27] at hf
        try dsimp only at hf
        obtain ⟨l9_29, el9_29⟩ : ∃ y : Int32, y = l9 + (1 : Int32) := ⟨_, rfl⟩
        replace hf := xl_at hf el9_29
        refine lv_iinc (v := l9_29) (lv' := [(9, .int l9_29), (0, .ref h_t), (1, .int l1), (7, .long l7)]) hx hb dX9_step_172 hl (k := 3) rfl (by rw [el9_29]; rfl) (Nat.le_of_ble_eq_true rfl) rfl (fun ls hl => ?_)
        refine lv_goto (tgt := 127) hx hb dX9_step_175 (by decide) ?_
        exact ih l9_29 t_alive_26 t_up_24 _ _ H locs ls hP hD hS (lv_sub hl [1, 2, 3, 0] rfl) hf hk
      refine lv_if_ne (tgt := 172) hx hb dX9_step_154 (by decide) (fun hc => ?_) (fun hc => ?_)
      · replace hf := it_f (fun h9 => hc ((lg_cmp_eq _ _).mpr h9)) hf
        exact J_28 t_alive H locs ls hP hD hS (lv_sub hl [0, 1, 2, 3] rfl) hf
      · replace hf := it_t ((lg_cmp_eq _ _).mp hc) hf
        refine lv_aload_n hx hb dX9_step_157 rfl (lv_at hl 0 rfl) ?_
        refine lv_dup hx hb dX9_step_158 rfl ?_
        refine va_get (D := (dC, dI)) (ci := 9) (v := .int t_alive) (C := RX9) (T := TX9) (N := 4) hx hb hts in_X9 hown hK hP 0 rfl rfl 2 (Nat.le_of_ble_eq_true rfl) (hts _ qf_X9_32) (fun _ h9 => h9) rfl dX9_step_159 ?_
        refine lv_iconst (v := (1 : Int32)) hx hb dX9_step_162 (by decide) ?_
        refine lv_iload hx hb dX9_step_163 (lv_at hl 3 rfl) ?_
        refine lv_ishl hx hb dX9_step_165 ?_
        refine lv_iconst (v := (-1 : Int32)) hx hb dX9_step_166 (by decide) ?_
        refine lv_ixor hx hb dX9_step_167 ?_
        refine lv_iand hx hb dX9_step_168 ?_
        refine lv_topi (fun f_alive_30 ef_alive_30 => ?_)
        replace hf := xl_at hf ef_alive_30
        refine xput (D := (dC, dI)) (ci := 9) (v := .int f_alive_30) (C := RX9) (T := TX9) (N := 4) (w2 := [(h_t, .inr (9, [.ref h_t_up, .long t_lower, .int f_alive_30, .ref h_t_tied])), (h_t_up, .inl (cL, 24, .inr (.inl t_up_24))), (h_t_tied, .inr (10, [.ref h_t_tied_member, .ref h_t_tied_factor, .int t_tied_size])), (h_t_tied_member, .inl (cI, 4, .inl t_tied_member)), (h_t_tied_factor, .inl (cL, 4, .inr (.inl t_tied_factor)))]) hx hb hts in_X9 tyX9 tyX9_ok nmX9 hown hK hP hD hS 0 rfl rfl 2 (Nat.le_of_ble_eq_true rfl) (hts _ qf_X9_32) (fun _ h9 => h9) rfl rfl rfl (Nat.le_of_ble_eq_true rfl) rfl dX9_step_169 (fun H locs hP hD hS => ?_)
        exact J_28 f_alive_30 H locs ls hP hD hS (lv_sub hl [0, 1, 2, 3] rfl) hf
set_option maxRecDepth 100000 in
set_option maxHeartbeats 4000000 in
theorem mtX9_step (l : Launch) (dC : Nat → ClassId) (dI : Nat → Nat → Nat) (cI cL cB : ClassId) (K : Nat) (h_t h_t_up h_t_tied h_t_tied_member h_t_tied_factor : Nat) (sz : Nat) (t_lower : Int64) (t_alive : Int32) (t_up : Nat → Int64) (t_tied_size : Int32) (t_tied_member : Nat → Int32) (t_tied_factor : Nat → Int64) (a1 : Int32) (a2 : Int32) (o_t_lower : Int64) (o_t_alive : Int32) (o_t_up : Nat → Int64) (hf : fX9_step K t_lower t_alive t_up t_tied_size t_tied_member t_tied_factor a1 a2 = some (o_t_lower, o_t_alive, o_t_up)) : Met l yX9_step [Cond.code yX9_step cX9_step 10 none] ({ frames := 2, cells := 0, slots := 0, locals := 45 }) (va_Pc [.ref h_t, .int a1, .int a2] (cPre dC dI cI cL cB sz [(h_t, .inr (9, [.ref h_t_up, .long t_lower, .int t_alive, .ref h_t_tied])), (h_t_up, .inl (cL, 24, .inr (.inl t_up))), (h_t_tied, .inr (10, [.ref h_t_tied_member, .ref h_t_tied_factor, .int t_tied_size])), (h_t_tied_member, .inl (cI, 4, .inl t_tied_member)), (h_t_tied_factor, .inl (cL, 4, .inr (.inl t_tied_factor)))])) (cQv dC dI (va_A [(h_t, .inr (9, [.ref h_t_up, .long t_lower, .int t_alive, .ref h_t_tied])), (h_t_up, .inl (cL, 24, .inr (.inl t_up))), (h_t_tied, .inr (10, [.ref h_t_tied_member, .ref h_t_tied_factor, .int t_tied_size])), (h_t_tied_member, .inl (cI, 4, .inl t_tied_member)), (h_t_tied_factor, .inl (cL, 4, .inr (.inl t_tied_factor)))] sz) [(h_t, .inr (9, [.ref h_t_up, .long o_t_lower, .int o_t_alive, .ref h_t_tied])), (h_t_up, .inl (cL, 24, .inr (.inl o_t_up))), (h_t_tied, .inr (10, [.ref h_t_tied_member, .ref h_t_tied_factor, .int t_tied_size])), (h_t_tied_member, .inl (cI, 4, .inl t_tied_member)), (h_t_tied_factor, .inl (cL, 4, .inr (.inl t_tied_factor)))]) 0 0 (va_A [(h_t, .inr (9, [.ref h_t_up, .long t_lower, .int t_alive, .ref h_t_tied])), (h_t_up, .inl (cL, 24, .inr (.inl t_up))), (h_t_tied, .inr (10, [.ref h_t_tied_member, .ref h_t_tied_factor, .int t_tied_size])), (h_t_tied_member, .inl (cI, 4, .inl t_tied_member)), (h_t_tied_factor, .inl (cL, 4, .inr (.inl t_tied_factor)))] sz) := by
  refine Met.ofW (cc := cX9_step) (maxL := 10) (ret := none) (by decide) rfl ?_
  intro p e s m args below meth c s₁ B hml hv
  obtain ⟨rfl, hsz, hP, hK, hD0, hT⟩ := hv
  have hx := B.exec
  have hb := B.bytes
  have hr := B.returns
  have hown : s.vm.findClass RX9 = some m.cls := findClass_of_methodNamed B.named
  have hlocks := B.notSynchronized
  have hts := TB.use hT ([.ref h_t, .int a1, .int a2] : List Value).toArray
  subst hsz
  have hD := hD0.self (sz := s.heap.size)
  generalize hAe : va_A [(h_t, .inr (9, [.ref h_t_up, .long t_lower, .int t_alive, .ref h_t_tied])), (h_t_up, .inl (cL, 24, .inr (.inl t_up))), (h_t_tied, .inr (10, [.ref h_t_tied_member, .ref h_t_tied_factor, .int t_tied_size])), (h_t_tied_member, .inl (cI, 4, .inl t_tied_member)), (h_t_tied_factor, .inl (cL, 4, .inr (.inl t_tied_factor)))] s.heap.size = A at hD ⊢
  have hA : ∀ q : Nat, s.heap.size ≤ q → A q := fun q h => by rw [← hAe]; exact Or.inr h
  clear hAe hD0
  have hl := lv_entry ([.ref h_t, .int a1, .int a2]) (n := 10) (Nat.le_of_ble_eq_true rfl)
  rw [lg_entry_eq]
  generalize (lg_sl ([.ref h_t, .int a1, .int a2]) ++ List.replicate (10 - (lg_sl ([.ref h_t, .int a1, .int a2])).length) Slot.unset).toArray = ls at hl ⊢
  have hl : lv_has ls 10 [(0, .ref h_t), (1, .int a1), (2, .int a2)] := hl
  have hF : 2 ≤ (headSpec [Cond.code yX9_step cX9_step 10 none] ({ frames := 2, cells := 0, slots := 0, locals := 45 })).room.frames := Nat.le_refl _
  have hLo : 45 ≤ (headSpec [Cond.code yX9_step cX9_step 10 none] ({ frames := 2, cells := 0, slots := 0, locals := 45 })).room.locals := Nat.le_refl _
  have C0 : Sx p (headSpec [Cond.code yX9_step cX9_step 10 none] ({ frames := 2, cells := 0, slots := 0, locals := 45 })).room s m ([.ref h_t, .int a1, .int a2] : List Value).toArray c cX9_step 10 RX9 A dC dI cI cL cB 2 45 := ⟨hx, hb, hml, hown, hts, hK, hT, hA, hF, hLo⟩
  refine startH (A := A) hP (fun H locs hP hS => ?_)
  rw [fX9_step] at hf
  refine lv_iload_n hx hb dX9_step_0 rfl (lv_at hl 2 rfl) ?_
  refine lv_if_ge (tgt := 5) hx hb dX9_step_1 (by decide) (fun hc => ?_) (fun hc => ?_)
  · replace hf := it_t (hc) hf
    refine lv_aload_n hx hb dX9_step_5 rfl (lv_at hl 0 rfl) ?_
    refine va_get (D := (dC, dI)) (ci := 9) (v := .ref h_t_tied) (C := RX9) (T := TX9) (N := 4) hx hb hts in_X9 hown hK hP 0 rfl rfl 3 (Nat.le_of_ble_eq_true rfl) (hts _ qf_X9_22) (fun _ h9 => h9) rfl dX9_step_6 ?_
    refine va_get (D := (dC, dI)) (ci := 10) (v := .ref h_t_tied_factor) (C := RX10) (T := TX10) (N := 3) hx hb hts in_X10 hown hK hP 2 rfl rfl 1 (Nat.le_of_ble_eq_true rfl) (hts _ qf_X9_61) (fun _ h9 => h9) rfl dX9_step_9 ?_
    refine lv_iload_n hx hb dX9_step_12 rfl (lv_at hl 2 rfl) ?_
    obtain ⟨hg_1, hf⟩ := gd_some hf
    refine va_lald hx hb hK hP 4 1 rfl rfl (inb_in hg_1) dX9_step_13 ?_
    refine lv_topl (fun l3_2 el3_2 => ?_)
    replace hf := xl_at hf el3_2
    refine lv_lstore_n (lv' := [(3, .long l3_2), (0, .ref h_t), (1, .int a1), (2, .int a2)]) hx hb dX9_step_14 rfl hl (Nat.le_of_ble_eq_true rfl) rfl (fun ls hl => ?_)
    refine lv_aload_n hx hb dX9_step_15 rfl (lv_at hl 1 rfl) ?_
    refine va_get (D := (dC, dI)) (ci := 9) (v := .ref h_t_up) (C := RX9) (T := TX9) (N := 4) hx hb hts in_X9 hown hK hP 0 rfl rfl 0 (Nat.le_of_ble_eq_true rfl) (hts _ qf_X9_9) (fun _ h9 => h9) rfl dX9_step_16 ?_
    refine lv_aload_n hx hb dX9_step_19 rfl (lv_at hl 1 rfl) ?_
    refine va_get (D := (dC, dI)) (ci := 9) (v := .ref h_t_tied) (C := RX9) (T := TX9) (N := 4) hx hb hts in_X9 hown hK hP 0 rfl rfl 3 (Nat.le_of_ble_eq_true rfl) (hts _ qf_X9_22) (fun _ h9 => h9) rfl dX9_step_20 ?_
    refine va_get (D := (dC, dI)) (ci := 10) (v := .ref h_t_tied_member) (C := RX10) (T := TX10) (N := 3) hx hb hts in_X10 hown hK hP 2 rfl rfl 0 (Nat.le_of_ble_eq_true rfl) (hts _ qf_X9_64) (fun _ h9 => h9) rfl dX9_step_23 ?_
    refine lv_iload_n hx hb dX9_step_26 rfl (lv_at hl 3 rfl) ?_
    obtain ⟨hg_3, hf⟩ := gd_some hf
    refine va_iald hx hb hK hP 3 0 rfl rfl (inb_in hg_3) dX9_step_27 ?_
    obtain ⟨hg_4, hf⟩ := gd_some hf
    refine va_lald hx hb hK hP 1 1 rfl rfl (inb_in hg_4) dX9_step_28 ?_
    refine lv_topl (fun l5_5 el5_5 => ?_)
    replace hf := xl_at hf el5_5
    refine lv_lstore (lv' := [(5, .long l5_5), (3, .long l3_2), (0, .ref h_t), (1, .int a1), (2, .int a2)]) hx hb dX9_step_29 hl (Nat.le_of_ble_eq_true rfl) rfl (fun ls hl => ?_)
    refine lv_aload_n hx hb dX9_step_31 rfl (lv_at hl 2 rfl) ?_
    refine lv_dup hx hb dX9_step_32 rfl ?_
    refine va_get (D := (dC, dI)) (ci := 9) (v := .long t_lower) (C := RX9) (T := TX9) (N := 4) hx hb hts in_X9 hown hK hP 0 rfl rfl 1 (Nat.le_of_ble_eq_true rfl) (hts _ qf_X9_15) (fun _ h9 => h9) rfl dX9_step_33 ?_
    refine lv_lload_n hx hb dX9_step_36 rfl (lv_at hl 1 rfl) ?_
    refine lv_lmul hx hb dX9_step_37 ?_
    refine lv_topl (fun f_lower_6 ef_lower_6 => ?_)
    replace hf := xl_at hf ef_lower_6
    refine xput (D := (dC, dI)) (ci := 9) (v := .long f_lower_6) (C := RX9) (T := TX9) (N := 4) (w2 := [(h_t, .inr (9, [.ref h_t_up, .long f_lower_6, .int t_alive, .ref h_t_tied])), (h_t_up, .inl (cL, 24, .inr (.inl t_up))), (h_t_tied, .inr (10, [.ref h_t_tied_member, .ref h_t_tied_factor, .int t_tied_size])), (h_t_tied_member, .inl (cI, 4, .inl t_tied_member)), (h_t_tied_factor, .inl (cL, 4, .inr (.inl t_tied_factor)))]) hx hb hts in_X9 tyX9 tyX9_ok nmX9 hown hK hP hD hS 0 rfl rfl 1 (Nat.le_of_ble_eq_true rfl) (hts _ qf_X9_15) (fun _ h9 => h9) rfl rfl rfl (Nat.le_of_ble_eq_true rfl) rfl dX9_step_38 (fun H locs hP hD hS => ?_)
    refine lv_aload_n hx hb dX9_step_41 rfl (lv_at hl 2 rfl) ?_
    refine va_get (D := (dC, dI)) (ci := 9) (v := .long f_lower_6) (C := RX9) (T := TX9) (N := 4) hx hb hts in_X9 hown hK hP 0 rfl rfl 1 (Nat.le_of_ble_eq_true rfl) (hts _ qf_X9_15) (fun _ h9 => h9) rfl dX9_step_42 ?_
    refine lv_lstore (lv' := [(7, .long f_lower_6), (5, .long l5_5), (3, .long l3_2), (0, .ref h_t), (1, .int a1), (2, .int a2)]) hx hb dX9_step_45 hl (Nat.le_of_ble_eq_true rfl) rfl (fun ls hl => ?_)
    refine lv_iconst (v := (0 : Int32)) hx hb dX9_step_47 (by decide) ?_
    refine lv_istore (lv' := [(9, .int (0 : Int32)), (7, .long f_lower_6), (5, .long l5_5), (3, .long l3_2), (0, .ref h_t), (1, .int a1), (2, .int a2)]) hx hb dX9_step_48 hl (Nat.le_of_ble_eq_true rfl) rfl (fun ls hl => ?_)
    obtain ⟨l7_17, t_up_18, hq_16, hf⟩ := b2_some hf
    refine wX9_step_L50 C0 h_t h_t_up h_t_tied h_t_tied_member h_t_tied_factor f_lower_6 t_alive t_tied_size t_tied_member t_tied_factor a1 l3_2 l5_5 K f_lower_6 (0 : Int32) t_up l7_17 t_up_18 H locs ls hP hD hS (lv_sub hl [4, 5, 3, 2, 1, 0] rfl) hq_16 ?_
    intro H locs ls hP hD hS hl
    refine lv_lload hx hb dX9_step_105 (lv_at hl 2 rfl) ?_
    refine lv_lconst (v := (0 : Int64)) hx hb dX9_step_107 (by decide) ?_
    refine W.lcmp hx hb dX9_step_108 ?_
    refine lv_if_ne (tgt := 113) hx hb dX9_step_109 (by decide) (fun hc => ?_) (fun hc => ?_)
    · replace hf := it_f (fun h9 => hc ((lg_cmp_eq _ _).mpr h9)) hf
      refine lv_aload_n hx hb dX9_step_113 rfl (lv_at hl 0 rfl) ?_
      refine lv_dup hx hb dX9_step_114 rfl ?_
      refine va_get (D := (dC, dI)) (ci := 9) (v := .long f_lower_6) (C := RX9) (T := TX9) (N := 4) hx hb hts in_X9 hown hK hP 0 rfl rfl 1 (Nat.le_of_ble_eq_true rfl) (hts _ qf_X9_15) (fun _ h9 => h9) rfl dX9_step_115 ?_
      refine lv_lload hx hb dX9_step_118 (lv_at hl 2 rfl) ?_
      obtain ⟨hg_19, hf⟩ := gd_some hf
      refine lv_ldiv hx hb dX9_step_120 (nz_ne hg_19) ?_
      refine lv_topl (fun f_lower_20 ef_lower_20 => ?_)
      replace hf := xl_at hf ef_lower_20
      refine xput (D := (dC, dI)) (ci := 9) (v := .long f_lower_20) (C := RX9) (T := TX9) (N := 4) (w2 := [(h_t, .inr (9, [.ref h_t_up, .long f_lower_20, .int t_alive, .ref h_t_tied])), (h_t_up, .inl (cL, 24, .inr (.inl t_up_18))), (h_t_tied, .inr (10, [.ref h_t_tied_member, .ref h_t_tied_factor, .int t_tied_size])), (h_t_tied_member, .inl (cI, 4, .inl t_tied_member)), (h_t_tied_factor, .inl (cL, 4, .inr (.inl t_tied_factor)))]) hx hb hts in_X9 tyX9 tyX9_ok nmX9 hown hK hP hD hS 0 rfl rfl 1 (Nat.le_of_ble_eq_true rfl) (hts _ qf_X9_15) (fun _ h9 => h9) rfl rfl rfl (Nat.le_of_ble_eq_true rfl) rfl dX9_step_121 (fun H locs hP hD hS => ?_)
      refine lv_iconst (v := (0 : Int32)) hx hb dX9_step_124 (by decide) ?_
      refine lv_istore (lv' := [(9, .int (0 : Int32)), (0, .ref h_t), (1, .int a1), (7, .long l7_17)]) hx hb dX9_step_125 hl (Nat.le_of_ble_eq_true rfl) rfl (fun ls hl => ?_)
      obtain ⟨t_alive_32, t_up_33, hq_31, hf⟩ := b2_some hf
      refine wX9_step_L127 C0 h_t h_t_up h_t_tied h_t_tied_member h_t_tied_factor f_lower_20 t_tied_size t_tied_member t_tied_factor a1 l7_17 K (0 : Int32) t_alive t_up_18 t_alive_32 t_up_33 H locs ls hP hD hS (lv_sub hl [1, 2, 3, 0] rfl) hq_31 ?_
      intro H locs ls hP hD hS hl
      obtain ⟨rfl, rfl, rfl⟩ := o3 hf
      exact W.vret hx hb hr (fun t ht hW => ⟨⟨(), rfl, trivial, by rw [ht]; exact hP, hD⟩, hS.F ht⟩) hS.2.2 dX9_step_178
    · replace hf := it_t ((lg_cmp_eq _ _).mp hc) hf
      obtain ⟨rfl, rfl, rfl⟩ := o3 hf
      exact W.vret hx hb hr (fun t ht hW => ⟨⟨(), rfl, trivial, by rw [ht]; exact hP, hD⟩, hS.F ht⟩) hS.2.2 dX9_step_112
  · replace hf := it_f (hc) hf
    obtain ⟨rfl, rfl, rfl⟩ := o3 hf
    exact W.vret hx hb hr (fun t ht hW => ⟨⟨(), rfl, trivial, by rw [ht]; exact hP, hD⟩, hS.F ht⟩) hS.2.2 dX9_step_4
theorem dX9_run_0 : decode cX9_run 0 = .ok (.iconst 0, 1) := by decide +kernel
theorem dX9_run_1 : decode cX9_run 1 = .ok (.istore_n 3, 1) := by decide +kernel
theorem dX9_run_2 : decode cX9_run 2 = .ok (.iload_n 3, 1) := by decide +kernel
theorem dX9_run_3 : decode cX9_run 3 = .ok (.iload_n 2, 1) := by decide +kernel
theorem dX9_run_4 : decode cX9_run 4 = .ok (.if_icmp .ge 42, 3) := by decide +kernel
theorem dX9_run_7 : decode cX9_run 7 = .ok (.iload_n 3, 1) := by decide +kernel
theorem dX9_run_8 : decode cX9_run 8 = .ok (.bipush 6, 2) := by decide +kernel
theorem dX9_run_10 : decode cX9_run 10 = .ok (.if_icmp .ge 36, 3) := by decide +kernel
theorem dX9_run_13 : decode cX9_run 13 = .ok (.aload_n 0, 1) := by decide +kernel
theorem dX9_run_14 : decode cX9_run 14 = .ok (.getfield 22, 3) := by decide +kernel
theorem dX9_run_17 : decode cX9_run 17 = .ok (.aload_n 1, 1) := by decide +kernel
theorem dX9_run_18 : decode cX9_run 18 = .ok (.aload_n 0, 1) := by decide +kernel
theorem dX9_run_19 : decode cX9_run 19 = .ok (.getfield 32, 3) := by decide +kernel
theorem dX9_run_22 : decode cX9_run 22 = .ok (.invokevirtual 49, 3) := by decide +kernel
theorem dX9_run_25 : decode cX9_run 25 = .ok (.ifCond .eq 21, 3) := by decide +kernel
theorem dX9_run_28 : decode cX9_run 28 = .ok (.aload_n 0, 1) := by decide +kernel
theorem dX9_run_29 : decode cX9_run 29 = .ok (.aload_n 1, 1) := by decide +kernel
theorem dX9_run_30 : decode cX9_run 30 = .ok (.getfield 42, 3) := by decide +kernel
theorem dX9_run_33 : decode cX9_run 33 = .ok (.aload_n 0, 1) := by decide +kernel
theorem dX9_run_34 : decode cX9_run 34 = .ok (.invokevirtual 53, 3) := by decide +kernel
theorem dX9_run_37 : decode cX9_run 37 = .ok (.invokevirtual 56, 3) := by decide +kernel
theorem dX9_run_40 : decode cX9_run 40 = .ok (.iinc 3 1, 3) := by decide +kernel
theorem dX9_run_43 : decode cX9_run 43 = .ok (.goto (-41), 3) := by decide +kernel
theorem dX9_run_46 : decode cX9_run 46 = .ok (.iload_n 3, 1) := by decide +kernel
theorem dX9_run_47 : decode cX9_run 47 = .ok (.ireturn, 1) := by decide +kernel
set_option maxRecDepth 100000 in
set_option maxHeartbeats 4000000 in
theorem wX9_run_L2 {p : Program} {l : Launch} {e : Env} {R : Room} {s : State} {m : MethodId} {args : Array Value} {below : List Frame} {meth : Method} {c : Code} {Q : State → Prop} {A : Nat → Prop} {dC : Nat → ClassId} {dI : Nat → Nat → Nat} {cI cL cB : ClassId} {K : Nat} (C0 : Sx p R s m args c cX9_run 4 RX9 A dC dI cI cL cB 4 104) (h_t h_t_up h_t_tied h_t_tied_member h_t_tied_factor h_p1 h_p1_x h_p1_y h_p1_colour h_p1_load : Nat) (p1_size : Int32) (p1_centreX : Int32) (p1_centreY : Int32) (p1_x : Nat → Int32) (p1_y : Nat → Int32) (l2 : Int32) : ∀ (n : Nat) (l3 : Int32) (t_lower : Int64) (t_alive : Int32) (t_up : Nat → Int64) (t_tied_size : Int32) (t_tied_member : Nat → Int32) (t_tied_factor : Nat → Int64) (x3_ : Int32) (x_t_lower : Int64) (x_t_alive : Int32) (x_t_up : Nat → Int64) (x_t_tied_size : Int32) (x_t_tied_member : Nat → Int32) (x_t_tied_factor : Nat → Int64) (H : Heap) (locs : List Loc) (ls : Array Slot), va_P (dC, dI) vwCl [(h_t, .inr (9, [.ref h_t_up, .long t_lower, .int t_alive, .ref h_t_tied])), (h_t_up, .inl (cL, 24, .inr (.inl t_up))), (h_t_tied, .inr (10, [.ref h_t_tied_member, .ref h_t_tied_factor, .int t_tied_size])), (h_t_tied_member, .inl (cI, 4, .inl t_tied_member)), (h_t_tied_factor, .inl (cL, 4, .inr (.inl t_tied_factor))), (h_p1, .inr (0, [.ref h_p1_x, .ref h_p1_y, .ref h_p1_colour, .ref h_p1_load, .int p1_size, .int p1_centreX, .int p1_centreY])), (h_p1_x, .inl (cI, 24, .inl p1_x)), (h_p1_y, .inl (cI, 24, .inl p1_y))] H → va_D A [(h_t, .inr (9, [.ref h_t_up, .long t_lower, .int t_alive, .ref h_t_tied])), (h_t_up, .inl (cL, 24, .inr (.inl t_up))), (h_t_tied, .inr (10, [.ref h_t_tied_member, .ref h_t_tied_factor, .int t_tied_size])), (h_t_tied_member, .inl (cI, 4, .inl t_tied_member)), (h_t_tied_factor, .inl (cL, 4, .inr (.inl t_tied_factor))), (h_p1, .inr (0, [.ref h_p1_x, .ref h_p1_y, .ref h_p1_colour, .ref h_p1_load, .int p1_size, .int p1_centreX, .int p1_centreY])), (h_p1_x, .inl (cI, 24, .inl p1_x)), (h_p1_y, .inl (cI, 24, .inl p1_y))] → va_S A s.heap H locs → lv_has ls 4 [(0, .ref h_t), (1, .ref h_p1), (2, .int l2), (3, .int l3)] → fX9_run_L2 K l2 p1_size p1_x p1_y n l3 t_lower t_alive t_up t_tied_size t_tied_member t_tied_factor = some (x3_, x_t_lower, x_t_alive, x_t_up, x_t_tied_size, x_t_tied_member, x_t_tied_factor) → (∀ (H : Heap) (locs : List Loc) (ls : Array Slot), va_P (dC, dI) vwCl [(h_t, .inr (9, [.ref h_t_up, .long x_t_lower, .int x_t_alive, .ref h_t_tied])), (h_t_up, .inl (cL, 24, .inr (.inl x_t_up))), (h_t_tied, .inr (10, [.ref h_t_tied_member, .ref h_t_tied_factor, .int x_t_tied_size])), (h_t_tied_member, .inl (cI, 4, .inl x_t_tied_member)), (h_t_tied_factor, .inl (cL, 4, .inr (.inl x_t_tied_factor))), (h_p1, .inr (0, [.ref h_p1_x, .ref h_p1_y, .ref h_p1_colour, .ref h_p1_load, .int p1_size, .int p1_centreX, .int p1_centreY])), (h_p1_x, .inl (cI, 24, .inl p1_x)), (h_p1_y, .inl (cI, 24, .inl p1_y))] H → va_D A [(h_t, .inr (9, [.ref h_t_up, .long x_t_lower, .int x_t_alive, .ref h_t_tied])), (h_t_up, .inl (cL, 24, .inr (.inl x_t_up))), (h_t_tied, .inr (10, [.ref h_t_tied_member, .ref h_t_tied_factor, .int x_t_tied_size])), (h_t_tied_member, .inl (cI, 4, .inl x_t_tied_member)), (h_t_tied_factor, .inl (cL, 4, .inr (.inl x_t_tied_factor))), (h_p1, .inr (0, [.ref h_p1_x, .ref h_p1_y, .ref h_p1_colour, .ref h_p1_load, .int p1_size, .int p1_centreX, .int p1_centreY])), (h_p1_x, .inl (cI, 24, .inl p1_x)), (h_p1_y, .inl (cI, 24, .inl p1_y))] → va_S A s.heap H locs → lv_has ls 4 [(3, .int x3_)] → W p l e R s m args below meth c H locs 0 0 Q (F0 m 46 ls [])) → W p l e R s m args below meth c H locs 0 0 Q (F0 m 2 ls []) := by
  obtain ⟨hx, hb, hml, hown, hts, hK, hT, hA, hF, hLo⟩ := id C0
  intro n
  induction n with
  | zero =>
    intro l3 t_lower t_alive t_up t_tied_size t_tied_member t_tied_factor x3_ x_t_lower x_t_alive x_t_up x_t_tied_size x_t_tied_member x_t_tied_factor H locs ls hP hD hS hl hf
    rw [fX9_run_L2] at hf
    cases hf
  | succ n ih =>
    intro l3 t_lower t_alive t_up t_tied_size t_tied_member t_tied_factor x3_ x_t_lower x_t_alive x_t_up x_t_tied_size x_t_tied_member x_t_tied_factor H locs ls hP hD hS hl hf hk
    rw [fX9_run_L2] at hf
    refine lv_iload_n hx hb dX9_run_2 rfl (lv_at hl 3 rfl) ?_
    refine lv_iload_n hx hb dX9_run_3 rfl (lv_at hl 2 rfl) ?_
    refine lv_icmp_ge (tgt := 46) hx hb dX9_run_4 (by decide) (fun hc => ?_) (fun hc => ?_)
    · replace hf := it_t (hc) hf
      obtain ⟨rfl, rfl, rfl, rfl, rfl, rfl, rfl⟩ := o7 hf
      exact hk H locs ls hP hD hS (lv_sub hl [3] rfl)
    · replace hf := it_f (hc) hf
      refine lv_iload_n hx hb dX9_run_7 rfl (lv_at hl 3 rfl) ?_
      refine lv_bipush (v := (6 : Int32)) hx hb dX9_run_8 (by decide) ?_
      refine lv_icmp_ge (tgt := 46) hx hb dX9_run_10 (by decide) (fun hc => ?_) (fun hc => ?_)
      · replace hf := it_t (hc) hf
        obtain ⟨rfl, rfl, rfl, rfl, rfl, rfl, rfl⟩ := o7 hf
        exact hk H locs ls hP hD hS (lv_sub hl [3] rfl)
      · replace hf := it_f (hc) hf
        refine lv_aload_n hx hb dX9_run_13 rfl (lv_at hl 0 rfl) ?_
        refine va_get (D := (dC, dI)) (ci := 9) (v := .ref h_t_tied) (C := RX9) (T := TX9) (N := 4) hx hb hts in_X9 hown hK hP 0 rfl rfl 3 (Nat.le_of_ble_eq_true rfl) (hts _ qf_X9_22) (fun _ h9 => h9) rfl dX9_run_14 ?_
        refine lv_aload_n hx hb dX9_run_17 rfl (lv_at hl 1 rfl) ?_
        refine lv_aload_n hx hb dX9_run_18 rfl (lv_at hl 0 rfl) ?_
        refine va_get (D := (dC, dI)) (ci := 9) (v := .int t_alive) (C := RX9) (T := TX9) (N := 4) hx hb hts in_X9 hown hK hP 0 rfl rfl 2 (Nat.le_of_ble_eq_true rfl) (hts _ qf_X9_32) (fun _ h9 => h9) rfl dX9_run_19 ?_
        obtain ⟨r_1, t_tied_size_2, t_tied_member_3, t_tied_factor_4, hq_5, hf⟩ := b4_some hf
        refine xci (wr := [(h_t, .inr (9, [.ref h_t_up, .long t_lower, .int t_alive, .ref h_t_tied])), (h_t_up, .inl (cL, 24, .inr (.inl t_up)))]) (w2 := [(h_t, .inr (9, [.ref h_t_up, .long t_lower, .int t_alive, .ref h_t_tied])), (h_t_up, .inl (cL, 24, .inr (.inl t_up))), (h_t_tied, .inr (10, [.ref h_t_tied_member, .ref h_t_tied_factor, .int t_tied_size_2])), (h_t_tied_member, .inl (cI, 4, .inl t_tied_member_3)), (h_t_tied_factor, .inl (cL, 4, .inr (.inl t_tied_factor_4))), (h_p1, .inr (0, [.ref h_p1_x, .ref h_p1_y, .ref h_p1_colour, .ref h_p1_load, .int p1_size, .int p1_centreX, .int p1_centreY])), (h_p1_x, .inl (cI, 24, .inl p1_x)), (h_p1_y, .inl (cI, 24, .inl p1_y))]) (va_runV (As := [.ref h_p1, .int t_alive]) (rest := []) ⟨hx, hb, hml, hown, hts⟩ (mtX10_find l dC dI cI cL cB K h_t_tied h_t_tied_member h_t_tied_factor h_p1 h_p1_x h_p1_y h_p1_colour h_p1_load H.size t_tied_size t_tied_member t_tied_factor p1_size p1_centreX p1_centreY p1_x p1_y t_alive r_1 t_tied_size_2 t_tied_member_3 t_tied_factor_4 hq_5) (cwV 2 hts gv_X9_49 rfl rfl rfl hdV_X10_find ⟨Nat.le_trans (Nat.le_of_ble_eq_true rfl) hF, Nat.le_trans (Nat.le_of_ble_eq_true rfl) hLo⟩) (cPreV hK hP hD hT [2, 3, 4, 5, 6, 7] rfl rfl (ci := 10) (q0 := 0) rfl rfl) rfl rfl hl.1 rfl (lv_room (Nat.le_of_ble_eq_true rfl)) dX9_run_22 ⟨Nat.zero_le _, Nat.zero_le _⟩) hP hD hS hA [2, 3, 4, 5, 6, 7] [0, 1] [0, 1, 2, 3, 4, 5, 6, 7] rfl rfl rfl rfl rfl rfl (fun H locs hP hD hS => ?_)
        refine lv_if_eq (tgt := 46) hx hb dX9_run_25 (by decide) (fun hc => ?_) (fun hc => ?_)
        · replace hf := it_t (hc) hf
          obtain ⟨rfl, rfl, rfl, rfl, rfl, rfl, rfl⟩ := o7 hf
          exact hk H locs ls hP hD hS (lv_sub hl [3] rfl)
        · replace hf := it_f (hc) hf
          refine lv_aload_n hx hb dX9_run_28 rfl (lv_at hl 0 rfl) ?_
          refine lv_aload_n hx hb dX9_run_29 rfl (lv_at hl 1 rfl) ?_
          refine va_get (D := (dC, dI)) (ci := 0) (v := .int p1_size) (C := RX0) (T := TX0) (N := 7) hx hb hts in_X0 hown hK hP 5 rfl rfl 4 (Nat.le_of_ble_eq_true rfl) (hts _ qf_X9_42) (fun _ h9 => h9) rfl dX9_run_30 ?_
          refine lv_aload_n hx hb dX9_run_33 rfl (lv_at hl 0 rfl) ?_
          obtain ⟨r_6, hq_7, hf⟩ := b1_some hf
          refine xci (wr := [(h_p1, .inr (0, [.ref h_p1_x, .ref h_p1_y, .ref h_p1_colour, .ref h_p1_load, .int p1_size, .int p1_centreX, .int p1_centreY])), (h_p1_x, .inl (cI, 24, .inl p1_x)), (h_p1_y, .inl (cI, 24, .inl p1_y))]) (w2 := [(h_t, .inr (9, [.ref h_t_up, .long t_lower, .int t_alive, .ref h_t_tied])), (h_t_up, .inl (cL, 24, .inr (.inl t_up))), (h_t_tied, .inr (10, [.ref h_t_tied_member, .ref h_t_tied_factor, .int t_tied_size_2])), (h_t_tied_member, .inl (cI, 4, .inl t_tied_member_3)), (h_t_tied_factor, .inl (cL, 4, .inr (.inl t_tied_factor_4))), (h_p1, .inr (0, [.ref h_p1_x, .ref h_p1_y, .ref h_p1_colour, .ref h_p1_load, .int p1_size, .int p1_centreX, .int p1_centreY])), (h_p1_x, .inl (cI, 24, .inl p1_x)), (h_p1_y, .inl (cI, 24, .inl p1_y))]) (va_runV (As := []) (rest := [.int p1_size, .ref h_t]) ⟨hx, hb, hml, hown, hts⟩ (mtX9_tightest l dC dI cI cL cB K h_t h_t_up h_t_tied h_t_tied_member h_t_tied_factor H.size t_lower t_alive t_up t_tied_size_2 t_tied_member_3 t_tied_factor_4 r_6 hq_7) (cwV 0 hts gv_X9_53 rfl rfl rfl hdV_X9_tightest ⟨Nat.le_trans (Nat.le_of_ble_eq_true rfl) hF, Nat.le_trans (Nat.le_of_ble_eq_true rfl) hLo⟩) (cPreV hK hP hD hT [0, 1, 2, 3, 4] rfl rfl (ci := 9) (q0 := 0) rfl rfl) rfl rfl hl.1 rfl (lv_room (Nat.le_of_ble_eq_true rfl)) dX9_run_34 ⟨Nat.zero_le _, Nat.zero_le _⟩) hP hD hS hA [0, 1, 2, 3, 4] [5, 6, 7] [3, 4, 5, 6, 7, 0, 1, 2] rfl rfl rfl rfl rfl rfl (fun H locs hP hD hS => ?_)
          obtain ⟨t_lower_8, t_alive_9, t_up_10, hq_11, hf⟩ := b3_some hf
          refine xcv (wr := [(h_p1, .inr (0, [.ref h_p1_x, .ref h_p1_y, .ref h_p1_colour, .ref h_p1_load, .int p1_size, .int p1_centreX, .int p1_centreY])), (h_p1_x, .inl (cI, 24, .inl p1_x)), (h_p1_y, .inl (cI, 24, .inl p1_y))]) (w2 := [(h_t, .inr (9, [.ref h_t_up, .long t_lower_8, .int t_alive_9, .ref h_t_tied])), (h_t_up, .inl (cL, 24, .inr (.inl t_up_10))), (h_t_tied, .inr (10, [.ref h_t_tied_member, .ref h_t_tied_factor, .int t_tied_size_2])), (h_t_tied_member, .inl (cI, 4, .inl t_tied_member_3)), (h_t_tied_factor, .inl (cL, 4, .inr (.inl t_tied_factor_4))), (h_p1, .inr (0, [.ref h_p1_x, .ref h_p1_y, .ref h_p1_colour, .ref h_p1_load, .int p1_size, .int p1_centreX, .int p1_centreY])), (h_p1_x, .inl (cI, 24, .inl p1_x)), (h_p1_y, .inl (cI, 24, .inl p1_y))]) (va_runV (As := [.int p1_size, .int r_6]) (rest := []) ⟨hx, hb, hml, hown, hts⟩ (mtX9_step l dC dI cI cL cB K h_t h_t_up h_t_tied h_t_tied_member h_t_tied_factor H.size t_lower t_alive t_up t_tied_size_2 t_tied_member_3 t_tied_factor_4 p1_size r_6 t_lower_8 t_alive_9 t_up_10 hq_11) (cwV 2 hts gv_X9_56 rfl rfl rfl hdV_X9_step ⟨Nat.le_trans (Nat.le_of_ble_eq_true rfl) hF, Nat.le_trans (Nat.le_of_ble_eq_true rfl) hLo⟩) (cPreV hK hP hD hT [0, 1, 2, 3, 4] rfl rfl (ci := 9) (q0 := 0) rfl rfl) rfl rfl hl.1 rfl (lv_room (Nat.le_of_ble_eq_true rfl)) dX9_run_37 ⟨Nat.zero_le _, Nat.zero_le _⟩) hP hD hS hA [0, 1, 2, 3, 4] [5, 6, 7] [3, 4, 5, 6, 7, 0, 1, 2] rfl rfl rfl rfl rfl rfl (fun H locs hP hD hS => ?_)
          obtain ⟨l3_12, el3_12⟩ : ∃ y : Int32, y = l3 + (1 : Int32) := ⟨_, rfl⟩
          replace hf := xl_at hf el3_12
          refine lv_iinc (v := l3_12) (lv' := [(3, .int l3_12), (0, .ref h_t), (1, .ref h_p1), (2, .int l2)]) hx hb dX9_run_40 hl (k := 3) rfl (by rw [el3_12]; rfl) (Nat.le_of_ble_eq_true rfl) rfl (fun ls hl => ?_)
          refine lv_goto (tgt := 2) hx hb dX9_run_43 (by decide) ?_
          exact ih l3_12 t_lower_8 t_alive_9 t_up_10 t_tied_size_2 t_tied_member_3 t_tied_factor_4 _ _ _ _ _ _ _ H locs ls hP hD hS (lv_sub hl [1, 2, 3, 0] rfl) hf hk
set_option maxRecDepth 100000 in
set_option maxHeartbeats 4000000 in
theorem mtX9_run (l : Launch) (dC : Nat → ClassId) (dI : Nat → Nat → Nat) (cI cL cB : ClassId) (K : Nat) (h_t h_t_up h_t_tied h_t_tied_member h_t_tied_factor h_p1 h_p1_x h_p1_y h_p1_colour h_p1_load : Nat) (sz : Nat) (t_lower : Int64) (t_alive : Int32) (t_up : Nat → Int64) (t_tied_size : Int32) (t_tied_member : Nat → Int32) (t_tied_factor : Nat → Int64) (p1_size : Int32) (p1_centreX : Int32) (p1_centreY : Int32) (p1_x : Nat → Int32) (p1_y : Nat → Int32) (a2 : Int32) (o_r : Int32) (o_t_lower : Int64) (o_t_alive : Int32) (o_t_up : Nat → Int64) (o_t_tied_size : Int32) (o_t_tied_member : Nat → Int32) (o_t_tied_factor : Nat → Int64) (hf : fX9_run K t_lower t_alive t_up t_tied_size t_tied_member t_tied_factor p1_size p1_x p1_y a2 = some (o_r, o_t_lower, o_t_alive, o_t_up, o_t_tied_size, o_t_tied_member, o_t_tied_factor)) : Met l yX9_run [Cond.code yX9_run cX9_run 4 (some .int)] ({ frames := 4, cells := 0, slots := 0, locals := 104 }) (va_Pc [.ref h_t, .ref h_p1, .int a2] (cPre dC dI cI cL cB sz [(h_t, .inr (9, [.ref h_t_up, .long t_lower, .int t_alive, .ref h_t_tied])), (h_t_up, .inl (cL, 24, .inr (.inl t_up))), (h_t_tied, .inr (10, [.ref h_t_tied_member, .ref h_t_tied_factor, .int t_tied_size])), (h_t_tied_member, .inl (cI, 4, .inl t_tied_member)), (h_t_tied_factor, .inl (cL, 4, .inr (.inl t_tied_factor))), (h_p1, .inr (0, [.ref h_p1_x, .ref h_p1_y, .ref h_p1_colour, .ref h_p1_load, .int p1_size, .int p1_centreX, .int p1_centreY])), (h_p1_x, .inl (cI, 24, .inl p1_x)), (h_p1_y, .inl (cI, 24, .inl p1_y))])) (cQi dC dI (va_A [(h_t, .inr (9, [.ref h_t_up, .long t_lower, .int t_alive, .ref h_t_tied])), (h_t_up, .inl (cL, 24, .inr (.inl t_up))), (h_t_tied, .inr (10, [.ref h_t_tied_member, .ref h_t_tied_factor, .int t_tied_size])), (h_t_tied_member, .inl (cI, 4, .inl t_tied_member)), (h_t_tied_factor, .inl (cL, 4, .inr (.inl t_tied_factor))), (h_p1, .inr (0, [.ref h_p1_x, .ref h_p1_y, .ref h_p1_colour, .ref h_p1_load, .int p1_size, .int p1_centreX, .int p1_centreY])), (h_p1_x, .inl (cI, 24, .inl p1_x)), (h_p1_y, .inl (cI, 24, .inl p1_y))] sz) o_r [(h_t, .inr (9, [.ref h_t_up, .long o_t_lower, .int o_t_alive, .ref h_t_tied])), (h_t_up, .inl (cL, 24, .inr (.inl o_t_up))), (h_t_tied, .inr (10, [.ref h_t_tied_member, .ref h_t_tied_factor, .int o_t_tied_size])), (h_t_tied_member, .inl (cI, 4, .inl o_t_tied_member)), (h_t_tied_factor, .inl (cL, 4, .inr (.inl o_t_tied_factor))), (h_p1, .inr (0, [.ref h_p1_x, .ref h_p1_y, .ref h_p1_colour, .ref h_p1_load, .int p1_size, .int p1_centreX, .int p1_centreY])), (h_p1_x, .inl (cI, 24, .inl p1_x)), (h_p1_y, .inl (cI, 24, .inl p1_y))]) 0 0 (va_A [(h_t, .inr (9, [.ref h_t_up, .long t_lower, .int t_alive, .ref h_t_tied])), (h_t_up, .inl (cL, 24, .inr (.inl t_up))), (h_t_tied, .inr (10, [.ref h_t_tied_member, .ref h_t_tied_factor, .int t_tied_size])), (h_t_tied_member, .inl (cI, 4, .inl t_tied_member)), (h_t_tied_factor, .inl (cL, 4, .inr (.inl t_tied_factor))), (h_p1, .inr (0, [.ref h_p1_x, .ref h_p1_y, .ref h_p1_colour, .ref h_p1_load, .int p1_size, .int p1_centreX, .int p1_centreY])), (h_p1_x, .inl (cI, 24, .inl p1_x)), (h_p1_y, .inl (cI, 24, .inl p1_y))] sz) := by
  refine Met.ofW (cc := cX9_run) (maxL := 4) (ret := (some .int)) (by decide) rfl ?_
  intro p e s m args below meth c s₁ B hml hv
  obtain ⟨rfl, hsz, hP, hK, hD0, hT⟩ := hv
  have hx := B.exec
  have hb := B.bytes
  have hr := B.returns
  have hown : s.vm.findClass RX9 = some m.cls := findClass_of_methodNamed B.named
  have hlocks := B.notSynchronized
  have hts := TB.use hT ([.ref h_t, .ref h_p1, .int a2] : List Value).toArray
  subst hsz
  have hD := hD0.self (sz := s.heap.size)
  generalize hAe : va_A [(h_t, .inr (9, [.ref h_t_up, .long t_lower, .int t_alive, .ref h_t_tied])), (h_t_up, .inl (cL, 24, .inr (.inl t_up))), (h_t_tied, .inr (10, [.ref h_t_tied_member, .ref h_t_tied_factor, .int t_tied_size])), (h_t_tied_member, .inl (cI, 4, .inl t_tied_member)), (h_t_tied_factor, .inl (cL, 4, .inr (.inl t_tied_factor))), (h_p1, .inr (0, [.ref h_p1_x, .ref h_p1_y, .ref h_p1_colour, .ref h_p1_load, .int p1_size, .int p1_centreX, .int p1_centreY])), (h_p1_x, .inl (cI, 24, .inl p1_x)), (h_p1_y, .inl (cI, 24, .inl p1_y))] s.heap.size = A at hD ⊢
  have hA : ∀ q : Nat, s.heap.size ≤ q → A q := fun q h => by rw [← hAe]; exact Or.inr h
  clear hAe hD0
  have hl := lv_entry ([.ref h_t, .ref h_p1, .int a2]) (n := 4) (Nat.le_of_ble_eq_true rfl)
  rw [lg_entry_eq]
  generalize (lg_sl ([.ref h_t, .ref h_p1, .int a2]) ++ List.replicate (4 - (lg_sl ([.ref h_t, .ref h_p1, .int a2])).length) Slot.unset).toArray = ls at hl ⊢
  have hl : lv_has ls 4 [(0, .ref h_t), (1, .ref h_p1), (2, .int a2)] := hl
  have hF : 4 ≤ (headSpec [Cond.code yX9_run cX9_run 4 (some .int)] ({ frames := 4, cells := 0, slots := 0, locals := 104 })).room.frames := Nat.le_refl _
  have hLo : 104 ≤ (headSpec [Cond.code yX9_run cX9_run 4 (some .int)] ({ frames := 4, cells := 0, slots := 0, locals := 104 })).room.locals := Nat.le_refl _
  have C0 : Sx p (headSpec [Cond.code yX9_run cX9_run 4 (some .int)] ({ frames := 4, cells := 0, slots := 0, locals := 104 })).room s m ([.ref h_t, .ref h_p1, .int a2] : List Value).toArray c cX9_run 4 RX9 A dC dI cI cL cB 4 104 := ⟨hx, hb, hml, hown, hts, hK, hT, hA, hF, hLo⟩
  refine startH (A := A) hP (fun H locs hP hS => ?_)
  rw [fX9_run] at hf
  refine lv_iconst (v := (0 : Int32)) hx hb dX9_run_0 (by decide) ?_
  refine lv_istore_n (lv' := [(3, .int (0 : Int32)), (0, .ref h_t), (1, .ref h_p1), (2, .int a2)]) hx hb dX9_run_1 rfl hl (Nat.le_of_ble_eq_true rfl) rfl (fun ls hl => ?_)
  obtain ⟨l3_14, t_lower_15, t_alive_16, t_up_17, t_tied_size_18, t_tied_member_19, t_tied_factor_20, hq_13, hf⟩ := b7_some hf
  refine wX9_run_L2 C0 h_t h_t_up h_t_tied h_t_tied_member h_t_tied_factor h_p1 h_p1_x h_p1_y h_p1_colour h_p1_load p1_size p1_centreX p1_centreY p1_x p1_y a2 K (0 : Int32) t_lower t_alive t_up t_tied_size t_tied_member t_tied_factor l3_14 t_lower_15 t_alive_16 t_up_17 t_tied_size_18 t_tied_member_19 t_tied_factor_20 H locs ls hP hD hS (lv_sub hl [1, 2, 3, 0] rfl) hq_13 ?_
  intro H locs ls hP hD hS hl
  refine lv_iload_n hx hb dX9_run_46 rfl (lv_at hl 0 rfl) ?_
  obtain ⟨rfl, rfl, rfl, rfl, rfl, rfl, rfl⟩ := o7 hf
  exact W.iret hx hb hr (fun t ht hW => ⟨⟨_, (), rfl, rfl, by rw [ht]; exact hP, hD⟩, hS.F ht⟩) hS.2.2 dX9_run_47
theorem dX11_steps_0 : decode cX11_steps 0 = .ok (.aload_n 0, 1) := by decide +kernel
theorem dX11_steps_1 : decode cX11_steps 1 = .ok (.getfield 49, 3) := by decide +kernel
theorem dX11_steps_4 : decode cX11_steps 4 = .ok (.aload_n 0, 1) := by decide +kernel
theorem dX11_steps_5 : decode cX11_steps 5 = .ok (.getfield 12, 3) := by decide +kernel
theorem dX11_steps_8 : decode cX11_steps 8 = .ok (.invokevirtual 240, 3) := by decide +kernel
theorem dX11_steps_11 : decode cX11_steps 11 = .ok (.istore_n 1, 1) := by decide +kernel
theorem dX11_steps_12 : decode cX11_steps 12 = .ok (.iload_n 1, 1) := by decide +kernel
theorem dX11_steps_13 : decode cX11_steps 13 = .ok (.ifCond .eq 7, 3) := by decide +kernel
theorem dX11_steps_16 : decode cX11_steps 16 = .ok (.iload_n 1, 1) := by decide +kernel
theorem dX11_steps_17 : decode cX11_steps 17 = .ok (.goto 16, 3) := by decide +kernel
theorem dX11_steps_20 : decode cX11_steps 20 = .ok (.aload_n 0, 1) := by decide +kernel
theorem dX11_steps_21 : decode cX11_steps 21 = .ok (.getfield 49, 3) := by decide +kernel
theorem dX11_steps_24 : decode cX11_steps 24 = .ok (.aload_n 0, 1) := by decide +kernel
theorem dX11_steps_25 : decode cX11_steps 25 = .ok (.getfield 12, 3) := by decide +kernel
theorem dX11_steps_28 : decode cX11_steps 28 = .ok (.bipush 6, 2) := by decide +kernel
theorem dX11_steps_30 : decode cX11_steps 30 = .ok (.invokevirtual 244, 3) := by decide +kernel
theorem dX11_steps_33 : decode cX11_steps 33 = .ok (.ireturn, 1) := by decide +kernel
set_option maxRecDepth 100000 in
set_option maxHeartbeats 4000000 in
theorem mtX11_steps (l : Launch) (dC : Nat → ClassId) (dI : Nat → Nat → Nat) (cI cL cB : ClassId) (K : Nat) (h_t h_t_cloud h_t_reader h_t_hull h_t_near h_t_firstTie h_t_reducer h_t_chooser h_t_pair h_t_divider h_t_depths h_t_spot h_t_cloud_x h_t_cloud_y h_t_cloud_colour h_t_cloud_load h_t_reducer_up h_t_reducer_tied h_t_reducer_tied_member h_t_reducer_tied_factor : Nat) (sz : Nat) (t_cloud_size : Int32) (t_cloud_centreX : Int32) (t_cloud_centreY : Int32) (t_cloud_x : Nat → Int32) (t_cloud_y : Nat → Int32) (t_cloud_load : Nat → Int32) (t_reducer_lower : Int64) (t_reducer_alive : Int32) (t_reducer_up : Nat → Int64) (t_reducer_tied_size : Int32) (t_reducer_tied_member : Nat → Int32) (t_reducer_tied_factor : Nat → Int64) (o_r : Int32) (o_t_reducer_lower : Int64) (o_t_reducer_alive : Int32) (o_t_reducer_up : Nat → Int64) (o_t_reducer_tied_size : Int32) (o_t_reducer_tied_member : Nat → Int32) (o_t_reducer_tied_factor : Nat → Int64) (hf : fX11_steps K t_cloud_size t_cloud_x t_cloud_y t_cloud_load t_reducer_lower t_reducer_alive t_reducer_up t_reducer_tied_size t_reducer_tied_member t_reducer_tied_factor = some (o_r, o_t_reducer_lower, o_t_reducer_alive, o_t_reducer_up, o_t_reducer_tied_size, o_t_reducer_tied_member, o_t_reducer_tied_factor)) : Met l yX11_steps [Cond.code yX11_steps cX11_steps 2 (some .int)] ({ frames := 5, cells := 0, slots := 0, locals := 127 }) (va_Pc [.ref h_t] (cPre dC dI cI cL cB sz [(h_t, .inr (11, [.ref h_t_cloud, .ref h_t_reader, .ref h_t_hull, .ref h_t_near, .ref h_t_firstTie, .ref h_t_reducer, .ref h_t_chooser, .ref h_t_pair, .ref h_t_divider, .ref h_t_depths, .ref h_t_spot])), (h_t_cloud, .inr (0, [.ref h_t_cloud_x, .ref h_t_cloud_y, .ref h_t_cloud_colour, .ref h_t_cloud_load, .int t_cloud_size, .int t_cloud_centreX, .int t_cloud_centreY])), (h_t_cloud_x, .inl (cI, 24, .inl t_cloud_x)), (h_t_cloud_y, .inl (cI, 24, .inl t_cloud_y)), (h_t_cloud_load, .inl (cI, 24, .inl t_cloud_load)), (h_t_reducer, .inr (9, [.ref h_t_reducer_up, .long t_reducer_lower, .int t_reducer_alive, .ref h_t_reducer_tied])), (h_t_reducer_up, .inl (cL, 24, .inr (.inl t_reducer_up))), (h_t_reducer_tied, .inr (10, [.ref h_t_reducer_tied_member, .ref h_t_reducer_tied_factor, .int t_reducer_tied_size])), (h_t_reducer_tied_member, .inl (cI, 4, .inl t_reducer_tied_member)), (h_t_reducer_tied_factor, .inl (cL, 4, .inr (.inl t_reducer_tied_factor)))])) (cQi dC dI (va_A [(h_t, .inr (11, [.ref h_t_cloud, .ref h_t_reader, .ref h_t_hull, .ref h_t_near, .ref h_t_firstTie, .ref h_t_reducer, .ref h_t_chooser, .ref h_t_pair, .ref h_t_divider, .ref h_t_depths, .ref h_t_spot])), (h_t_cloud, .inr (0, [.ref h_t_cloud_x, .ref h_t_cloud_y, .ref h_t_cloud_colour, .ref h_t_cloud_load, .int t_cloud_size, .int t_cloud_centreX, .int t_cloud_centreY])), (h_t_cloud_x, .inl (cI, 24, .inl t_cloud_x)), (h_t_cloud_y, .inl (cI, 24, .inl t_cloud_y)), (h_t_cloud_load, .inl (cI, 24, .inl t_cloud_load)), (h_t_reducer, .inr (9, [.ref h_t_reducer_up, .long t_reducer_lower, .int t_reducer_alive, .ref h_t_reducer_tied])), (h_t_reducer_up, .inl (cL, 24, .inr (.inl t_reducer_up))), (h_t_reducer_tied, .inr (10, [.ref h_t_reducer_tied_member, .ref h_t_reducer_tied_factor, .int t_reducer_tied_size])), (h_t_reducer_tied_member, .inl (cI, 4, .inl t_reducer_tied_member)), (h_t_reducer_tied_factor, .inl (cL, 4, .inr (.inl t_reducer_tied_factor)))] sz) o_r [(h_t, .inr (11, [.ref h_t_cloud, .ref h_t_reader, .ref h_t_hull, .ref h_t_near, .ref h_t_firstTie, .ref h_t_reducer, .ref h_t_chooser, .ref h_t_pair, .ref h_t_divider, .ref h_t_depths, .ref h_t_spot])), (h_t_cloud, .inr (0, [.ref h_t_cloud_x, .ref h_t_cloud_y, .ref h_t_cloud_colour, .ref h_t_cloud_load, .int t_cloud_size, .int t_cloud_centreX, .int t_cloud_centreY])), (h_t_cloud_x, .inl (cI, 24, .inl t_cloud_x)), (h_t_cloud_y, .inl (cI, 24, .inl t_cloud_y)), (h_t_cloud_load, .inl (cI, 24, .inl t_cloud_load)), (h_t_reducer, .inr (9, [.ref h_t_reducer_up, .long o_t_reducer_lower, .int o_t_reducer_alive, .ref h_t_reducer_tied])), (h_t_reducer_up, .inl (cL, 24, .inr (.inl o_t_reducer_up))), (h_t_reducer_tied, .inr (10, [.ref h_t_reducer_tied_member, .ref h_t_reducer_tied_factor, .int o_t_reducer_tied_size])), (h_t_reducer_tied_member, .inl (cI, 4, .inl o_t_reducer_tied_member)), (h_t_reducer_tied_factor, .inl (cL, 4, .inr (.inl o_t_reducer_tied_factor)))]) 0 0 (va_A [(h_t, .inr (11, [.ref h_t_cloud, .ref h_t_reader, .ref h_t_hull, .ref h_t_near, .ref h_t_firstTie, .ref h_t_reducer, .ref h_t_chooser, .ref h_t_pair, .ref h_t_divider, .ref h_t_depths, .ref h_t_spot])), (h_t_cloud, .inr (0, [.ref h_t_cloud_x, .ref h_t_cloud_y, .ref h_t_cloud_colour, .ref h_t_cloud_load, .int t_cloud_size, .int t_cloud_centreX, .int t_cloud_centreY])), (h_t_cloud_x, .inl (cI, 24, .inl t_cloud_x)), (h_t_cloud_y, .inl (cI, 24, .inl t_cloud_y)), (h_t_cloud_load, .inl (cI, 24, .inl t_cloud_load)), (h_t_reducer, .inr (9, [.ref h_t_reducer_up, .long t_reducer_lower, .int t_reducer_alive, .ref h_t_reducer_tied])), (h_t_reducer_up, .inl (cL, 24, .inr (.inl t_reducer_up))), (h_t_reducer_tied, .inr (10, [.ref h_t_reducer_tied_member, .ref h_t_reducer_tied_factor, .int t_reducer_tied_size])), (h_t_reducer_tied_member, .inl (cI, 4, .inl t_reducer_tied_member)), (h_t_reducer_tied_factor, .inl (cL, 4, .inr (.inl t_reducer_tied_factor)))] sz) := by
  refine Met.ofW (cc := cX11_steps) (maxL := 2) (ret := (some .int)) (by decide) rfl ?_
  intro p e s m args below meth c s₁ B hml hv
  obtain ⟨rfl, hsz, hP, hK, hD0, hT⟩ := hv
  have hx := B.exec
  have hb := B.bytes
  have hr := B.returns
  have hown : s.vm.findClass RX11 = some m.cls := findClass_of_methodNamed B.named
  have hlocks := B.notSynchronized
  have hts := TB.use hT ([.ref h_t] : List Value).toArray
  subst hsz
  have hD := hD0.self (sz := s.heap.size)
  generalize hAe : va_A [(h_t, .inr (11, [.ref h_t_cloud, .ref h_t_reader, .ref h_t_hull, .ref h_t_near, .ref h_t_firstTie, .ref h_t_reducer, .ref h_t_chooser, .ref h_t_pair, .ref h_t_divider, .ref h_t_depths, .ref h_t_spot])), (h_t_cloud, .inr (0, [.ref h_t_cloud_x, .ref h_t_cloud_y, .ref h_t_cloud_colour, .ref h_t_cloud_load, .int t_cloud_size, .int t_cloud_centreX, .int t_cloud_centreY])), (h_t_cloud_x, .inl (cI, 24, .inl t_cloud_x)), (h_t_cloud_y, .inl (cI, 24, .inl t_cloud_y)), (h_t_cloud_load, .inl (cI, 24, .inl t_cloud_load)), (h_t_reducer, .inr (9, [.ref h_t_reducer_up, .long t_reducer_lower, .int t_reducer_alive, .ref h_t_reducer_tied])), (h_t_reducer_up, .inl (cL, 24, .inr (.inl t_reducer_up))), (h_t_reducer_tied, .inr (10, [.ref h_t_reducer_tied_member, .ref h_t_reducer_tied_factor, .int t_reducer_tied_size])), (h_t_reducer_tied_member, .inl (cI, 4, .inl t_reducer_tied_member)), (h_t_reducer_tied_factor, .inl (cL, 4, .inr (.inl t_reducer_tied_factor)))] s.heap.size = A at hD ⊢
  have hA : ∀ q : Nat, s.heap.size ≤ q → A q := fun q h => by rw [← hAe]; exact Or.inr h
  clear hAe hD0
  have hl := lv_entry ([.ref h_t]) (n := 2) (Nat.le_of_ble_eq_true rfl)
  rw [lg_entry_eq]
  generalize (lg_sl ([.ref h_t]) ++ List.replicate (2 - (lg_sl ([.ref h_t])).length) Slot.unset).toArray = ls at hl ⊢
  have hl : lv_has ls 2 [(0, .ref h_t)] := hl
  have hF : 5 ≤ (headSpec [Cond.code yX11_steps cX11_steps 2 (some .int)] ({ frames := 5, cells := 0, slots := 0, locals := 127 })).room.frames := Nat.le_refl _
  have hLo : 127 ≤ (headSpec [Cond.code yX11_steps cX11_steps 2 (some .int)] ({ frames := 5, cells := 0, slots := 0, locals := 127 })).room.locals := Nat.le_refl _
  have C0 : Sx p (headSpec [Cond.code yX11_steps cX11_steps 2 (some .int)] ({ frames := 5, cells := 0, slots := 0, locals := 127 })).room s m ([.ref h_t] : List Value).toArray c cX11_steps 2 RX11 A dC dI cI cL cB 5 127 := ⟨hx, hb, hml, hown, hts, hK, hT, hA, hF, hLo⟩
  refine startH (A := A) hP (fun H locs hP hS => ?_)
  rw [fX11_steps] at hf
  refine lv_aload_n hx hb dX11_steps_0 rfl (lv_at hl 0 rfl) ?_
  refine va_get (D := (dC, dI)) (ci := 11) (v := .ref h_t_reducer) (C := RX11) (T := TX11) (N := 11) hx hb hts in_X11 hown hK hP 0 rfl rfl 5 (Nat.le_of_ble_eq_true rfl) (hts _ qf_X11_49) (fun _ h9 => h9) rfl dX11_steps_1 ?_
  refine lv_aload_n hx hb dX11_steps_4 rfl (lv_at hl 0 rfl) ?_
  refine va_get (D := (dC, dI)) (ci := 11) (v := .ref h_t_cloud) (C := RX11) (T := TX11) (N := 11) hx hb hts in_X11 hown hK hP 0 rfl rfl 0 (Nat.le_of_ble_eq_true rfl) (hts _ qf_X11_12) (fun _ h9 => h9) rfl dX11_steps_5 ?_
  obtain ⟨r_1, t_reducer_lower_2, t_reducer_alive_3, t_reducer_up_4, hq_5, hf⟩ := b4_some hf
  refine xci (wr := [(h_t, .inr (11, [.ref h_t_cloud, .ref h_t_reader, .ref h_t_hull, .ref h_t_near, .ref h_t_firstTie, .ref h_t_reducer, .ref h_t_chooser, .ref h_t_pair, .ref h_t_divider, .ref h_t_depths, .ref h_t_spot])), (h_t_cloud_x, .inl (cI, 24, .inl t_cloud_x)), (h_t_cloud_y, .inl (cI, 24, .inl t_cloud_y)), (h_t_reducer_tied, .inr (10, [.ref h_t_reducer_tied_member, .ref h_t_reducer_tied_factor, .int t_reducer_tied_size])), (h_t_reducer_tied_member, .inl (cI, 4, .inl t_reducer_tied_member)), (h_t_reducer_tied_factor, .inl (cL, 4, .inr (.inl t_reducer_tied_factor)))]) (w2 := [(h_t, .inr (11, [.ref h_t_cloud, .ref h_t_reader, .ref h_t_hull, .ref h_t_near, .ref h_t_firstTie, .ref h_t_reducer, .ref h_t_chooser, .ref h_t_pair, .ref h_t_divider, .ref h_t_depths, .ref h_t_spot])), (h_t_cloud, .inr (0, [.ref h_t_cloud_x, .ref h_t_cloud_y, .ref h_t_cloud_colour, .ref h_t_cloud_load, .int t_cloud_size, .int t_cloud_centreX, .int t_cloud_centreY])), (h_t_cloud_x, .inl (cI, 24, .inl t_cloud_x)), (h_t_cloud_y, .inl (cI, 24, .inl t_cloud_y)), (h_t_cloud_load, .inl (cI, 24, .inl t_cloud_load)), (h_t_reducer, .inr (9, [.ref h_t_reducer_up, .long t_reducer_lower_2, .int t_reducer_alive_3, .ref h_t_reducer_tied])), (h_t_reducer_up, .inl (cL, 24, .inr (.inl t_reducer_up_4))), (h_t_reducer_tied, .inr (10, [.ref h_t_reducer_tied_member, .ref h_t_reducer_tied_factor, .int t_reducer_tied_size])), (h_t_reducer_tied_member, .inl (cI, 4, .inl t_reducer_tied_member)), (h_t_reducer_tied_factor, .inl (cL, 4, .inr (.inl t_reducer_tied_factor)))]) (va_runV (As := [.ref h_t_cloud]) (rest := []) ⟨hx, hb, hml, hown, hts⟩ (mtX9_begin l dC dI cI cL cB K h_t_reducer h_t_reducer_up h_t_reducer_tied h_t_cloud h_t_cloud_x h_t_cloud_y h_t_cloud_colour h_t_cloud_load H.size t_reducer_lower t_reducer_alive t_reducer_up t_cloud_size t_cloud_centreX t_cloud_centreY t_cloud_load r_1 t_reducer_lower_2 t_reducer_alive_3 t_reducer_up_4 hq_5) (cwV 1 hts gv_X11_240 rfl rfl rfl hdV_X9_begin ⟨Nat.le_trans (Nat.le_of_ble_eq_true rfl) hF, Nat.le_trans (Nat.le_of_ble_eq_true rfl) hLo⟩) (cPreV hK hP hD hT [5, 6, 1, 4] rfl rfl (ci := 9) (q0 := 0) rfl rfl) rfl rfl hl.1 rfl (lv_room (Nat.le_of_ble_eq_true rfl)) dX11_steps_8 ⟨Nat.zero_le _, Nat.zero_le _⟩) hP hD hS hA [5, 6, 1, 4] [0, 2, 3, 7, 8, 9] [0, 8, 1, 2, 9, 6, 7, 3, 4, 5] rfl rfl rfl rfl rfl rfl (fun H locs hP hD hS => ?_)
  refine lv_istore_n (lv' := [(1, .int r_1), (0, .ref h_t)]) hx hb dX11_steps_11 rfl hl (Nat.le_of_ble_eq_true rfl) rfl (fun ls hl => ?_)
  refine lv_iload_n hx hb dX11_steps_12 rfl (lv_at hl 0 rfl) ?_
  refine lv_if_eq (tgt := 20) hx hb dX11_steps_13 (by decide) (fun hc => ?_) (fun hc => ?_)
  · replace hf := it_t (hc) hf
    refine lv_aload_n hx hb dX11_steps_20 rfl (lv_at hl 1 rfl) ?_
    refine va_get (D := (dC, dI)) (ci := 11) (v := .ref h_t_reducer) (C := RX11) (T := TX11) (N := 11) hx hb hts in_X11 hown hK hP 0 rfl rfl 5 (Nat.le_of_ble_eq_true rfl) (hts _ qf_X11_49) (fun _ h9 => h9) rfl dX11_steps_21 ?_
    refine lv_aload_n hx hb dX11_steps_24 rfl (lv_at hl 1 rfl) ?_
    refine va_get (D := (dC, dI)) (ci := 11) (v := .ref h_t_cloud) (C := RX11) (T := TX11) (N := 11) hx hb hts in_X11 hown hK hP 0 rfl rfl 0 (Nat.le_of_ble_eq_true rfl) (hts _ qf_X11_12) (fun _ h9 => h9) rfl dX11_steps_25 ?_
    refine lv_bipush (v := (6 : Int32)) hx hb dX11_steps_28 (by decide) ?_
    obtain ⟨r_6, t_reducer_lower_7, t_reducer_alive_8, t_reducer_up_9, t_reducer_tied_size_10, t_reducer_tied_member_11, t_reducer_tied_factor_12, hq_13, hf⟩ := b7_some hf
    refine xci (wr := [(h_t, .inr (11, [.ref h_t_cloud, .ref h_t_reader, .ref h_t_hull, .ref h_t_near, .ref h_t_firstTie, .ref h_t_reducer, .ref h_t_chooser, .ref h_t_pair, .ref h_t_divider, .ref h_t_depths, .ref h_t_spot])), (h_t_cloud_load, .inl (cI, 24, .inl t_cloud_load))]) (w2 := [(h_t, .inr (11, [.ref h_t_cloud, .ref h_t_reader, .ref h_t_hull, .ref h_t_near, .ref h_t_firstTie, .ref h_t_reducer, .ref h_t_chooser, .ref h_t_pair, .ref h_t_divider, .ref h_t_depths, .ref h_t_spot])), (h_t_cloud, .inr (0, [.ref h_t_cloud_x, .ref h_t_cloud_y, .ref h_t_cloud_colour, .ref h_t_cloud_load, .int t_cloud_size, .int t_cloud_centreX, .int t_cloud_centreY])), (h_t_cloud_x, .inl (cI, 24, .inl t_cloud_x)), (h_t_cloud_y, .inl (cI, 24, .inl t_cloud_y)), (h_t_cloud_load, .inl (cI, 24, .inl t_cloud_load)), (h_t_reducer, .inr (9, [.ref h_t_reducer_up, .long t_reducer_lower_7, .int t_reducer_alive_8, .ref h_t_reducer_tied])), (h_t_reducer_up, .inl (cL, 24, .inr (.inl t_reducer_up_9))), (h_t_reducer_tied, .inr (10, [.ref h_t_reducer_tied_member, .ref h_t_reducer_tied_factor, .int t_reducer_tied_size_10])), (h_t_reducer_tied_member, .inl (cI, 4, .inl t_reducer_tied_member_11)), (h_t_reducer_tied_factor, .inl (cL, 4, .inr (.inl t_reducer_tied_factor_12)))]) (va_runV (As := [.ref h_t_cloud, .int (6 : Int32)]) (rest := []) ⟨hx, hb, hml, hown, hts⟩ (mtX9_run l dC dI cI cL cB K h_t_reducer h_t_reducer_up h_t_reducer_tied h_t_reducer_tied_member h_t_reducer_tied_factor h_t_cloud h_t_cloud_x h_t_cloud_y h_t_cloud_colour h_t_cloud_load H.size t_reducer_lower_2 t_reducer_alive_3 t_reducer_up_4 t_reducer_tied_size t_reducer_tied_member t_reducer_tied_factor t_cloud_size t_cloud_centreX t_cloud_centreY t_cloud_x t_cloud_y (6 : Int32) r_6 t_reducer_lower_7 t_reducer_alive_8 t_reducer_up_9 t_reducer_tied_size_10 t_reducer_tied_member_11 t_reducer_tied_factor_12 hq_13) (cwV 2 hts gv_X11_244 rfl rfl rfl hdV_X9_run ⟨Nat.le_trans (Nat.le_of_ble_eq_true rfl) hF, Nat.le_trans (Nat.le_of_ble_eq_true rfl) hLo⟩) (cPreV hK hP hD hT [5, 6, 7, 8, 9, 1, 2, 3] rfl rfl (ci := 9) (q0 := 0) rfl rfl) rfl rfl hl.1 rfl (lv_room (Nat.le_of_ble_eq_true rfl)) dX11_steps_30 ⟨Nat.zero_le _, Nat.zero_le _⟩) hP hD hS hA [5, 6, 7, 8, 9, 1, 2, 3] [0, 4] [0, 7, 8, 9, 1, 2, 3, 4, 5, 6] rfl rfl rfl rfl rfl rfl (fun H locs hP hD hS => ?_)
    obtain ⟨rfl, rfl, rfl, rfl, rfl, rfl, rfl⟩ := o7 hf
    exact W.iret hx hb hr (fun t ht hW => ⟨⟨_, (), rfl, rfl, by rw [ht]; exact hP, hD⟩, hS.F ht⟩) hS.2.2 dX11_steps_33
  · replace hf := it_f (hc) hf
    refine lv_iload_n hx hb dX11_steps_16 rfl (lv_at hl 0 rfl) ?_
    refine lv_goto (tgt := 33) hx hb dX11_steps_17 (by decide) ?_
    obtain ⟨rfl, rfl, rfl, rfl, rfl, rfl, rfl⟩ := o7 hf
    exact W.iret hx hb hr (fun t ht hW => ⟨⟨_, (), rfl, rfl, by rw [ht]; exact hP, hD⟩, hS.F ht⟩) hS.2.2 dX11_steps_33
theorem dX11_weight_0 : decode cX11_weight 0 = .ok (.aload_n 0, 1) := by decide +kernel
theorem dX11_weight_1 : decode cX11_weight 1 = .ok (.getfield 12, 3) := by decide +kernel
theorem dX11_weight_4 : decode cX11_weight 4 = .ok (.iload_n 1, 1) := by decide +kernel
theorem dX11_weight_5 : decode cX11_weight 5 = .ok (.invokevirtual 128, 3) := by decide +kernel
theorem dX11_weight_8 : decode cX11_weight 8 = .ok (.ifCond .eq 37, 3) := by decide +kernel
theorem dX11_weight_11 : decode cX11_weight 11 = .ok (.iload_n 2, 1) := by decide +kernel
theorem dX11_weight_12 : decode cX11_weight 12 = .ok (.ifCond .lt 33, 3) := by decide +kernel
theorem dX11_weight_15 : decode cX11_weight 15 = .ok (.aload_n 0, 1) := by decide +kernel
theorem dX11_weight_16 : decode cX11_weight 16 = .ok (.getfield 49, 3) := by decide +kernel
theorem dX11_weight_19 : decode cX11_weight 19 = .ok (.aload_n 0, 1) := by decide +kernel
theorem dX11_weight_20 : decode cX11_weight 20 = .ok (.getfield 12, 3) := by decide +kernel
theorem dX11_weight_23 : decode cX11_weight 23 = .ok (.invokevirtual 240, 3) := by decide +kernel
theorem dX11_weight_26 : decode cX11_weight 26 = .ok (.ifCond .ne 19, 3) := by decide +kernel
theorem dX11_weight_29 : decode cX11_weight 29 = .ok (.aload_n 0, 1) := by decide +kernel
theorem dX11_weight_30 : decode cX11_weight 30 = .ok (.getfield 49, 3) := by decide +kernel
theorem dX11_weight_33 : decode cX11_weight 33 = .ok (.aload_n 0, 1) := by decide +kernel
theorem dX11_weight_34 : decode cX11_weight 34 = .ok (.getfield 12, 3) := by decide +kernel
theorem dX11_weight_37 : decode cX11_weight 37 = .ok (.iload_n 2, 1) := by decide +kernel
theorem dX11_weight_38 : decode cX11_weight 38 = .ok (.invokevirtual 244, 3) := by decide +kernel
theorem dX11_weight_41 : decode cX11_weight 41 = .ok (.iload_n 2, 1) := by decide +kernel
theorem dX11_weight_42 : decode cX11_weight 42 = .ok (.if_icmp .eq 7, 3) := by decide +kernel
theorem dX11_weight_45 : decode cX11_weight 45 = .ok (.ldc2_w 131, 3) := by decide +kernel
theorem dX11_weight_48 : decode cX11_weight 48 = .ok (.lreturn, 1) := by decide +kernel
theorem dX11_weight_49 : decode cX11_weight 49 = .ok (.aload_n 0, 1) := by decide +kernel
theorem dX11_weight_50 : decode cX11_weight 50 = .ok (.getfield 49, 3) := by decide +kernel
theorem dX11_weight_53 : decode cX11_weight 53 = .ok (.getfield 248, 3) := by decide +kernel
theorem dX11_weight_56 : decode cX11_weight 56 = .ok (.iload_n 1, 1) := by decide +kernel
theorem dX11_weight_57 : decode cX11_weight 57 = .ok (.laload, 1) := by decide +kernel
theorem dX11_weight_58 : decode cX11_weight 58 = .ok (.lstore 4, 2) := by decide +kernel
theorem dX11_weight_60 : decode cX11_weight 60 = .ok (.lload 4, 2) := by decide +kernel
theorem dX11_weight_62 : decode cX11_weight 62 = .ok (.aload_n 0, 1) := by decide +kernel
theorem dX11_weight_63 : decode cX11_weight 63 = .ok (.getfield 49, 3) := by decide +kernel
theorem dX11_weight_66 : decode cX11_weight 66 = .ok (.getfield 252, 3) := by decide +kernel
theorem dX11_weight_69 : decode cX11_weight 69 = .ok (.invokestatic 205, 3) := by decide +kernel
theorem dX11_weight_72 : decode cX11_weight 72 = .ok (.lstore 6, 2) := by decide +kernel
theorem dX11_weight_74 : decode cX11_weight 74 = .ok (.lload 6, 2) := by decide +kernel
theorem dX11_weight_76 : decode cX11_weight 76 = .ok (.lconst 0, 1) := by decide +kernel
theorem dX11_weight_77 : decode cX11_weight 77 = .ok (.lcmp, 1) := by decide +kernel
theorem dX11_weight_78 : decode cX11_weight 78 = .ok (.ifCond .ne 7, 3) := by decide +kernel
theorem dX11_weight_81 : decode cX11_weight 81 = .ok (.ldc2_w 131, 3) := by decide +kernel
theorem dX11_weight_84 : decode cX11_weight 84 = .ok (.lreturn, 1) := by decide +kernel
theorem dX11_weight_85 : decode cX11_weight 85 = .ok (.iload_n 3, 1) := by decide +kernel
theorem dX11_weight_86 : decode cX11_weight 86 = .ok (.lookupswitch 43 #[(0, 26), (1, 32)], 26) := by decide +kernel
theorem dX11_weight_112 : decode cX11_weight 112 = .ok (.lload 4, 2) := by decide +kernel
theorem dX11_weight_114 : decode cX11_weight 114 = .ok (.lload 6, 2) := by decide +kernel
theorem dX11_weight_116 : decode cX11_weight 116 = .ok (.ldiv, 1) := by decide +kernel
theorem dX11_weight_117 : decode cX11_weight 117 = .ok (.lreturn, 1) := by decide +kernel
theorem dX11_weight_118 : decode cX11_weight 118 = .ok (.aload_n 0, 1) := by decide +kernel
theorem dX11_weight_119 : decode cX11_weight 119 = .ok (.getfield 49, 3) := by decide +kernel
theorem dX11_weight_122 : decode cX11_weight 122 = .ok (.getfield 252, 3) := by decide +kernel
theorem dX11_weight_125 : decode cX11_weight 125 = .ok (.lload 6, 2) := by decide +kernel
theorem dX11_weight_127 : decode cX11_weight 127 = .ok (.ldiv, 1) := by decide +kernel
theorem dX11_weight_128 : decode cX11_weight 128 = .ok (.lreturn, 1) := by decide +kernel
theorem dX11_weight_129 : decode cX11_weight 129 = .ok (.ldc2_w 131, 3) := by decide +kernel
theorem dX11_weight_132 : decode cX11_weight 132 = .ok (.lreturn, 1) := by decide +kernel
set_option maxRecDepth 100000 in
set_option maxHeartbeats 4000000 in
theorem mtX11_weight (l : Launch) (dC : Nat → ClassId) (dI : Nat → Nat → Nat) (cI cL cB : ClassId) (K : Nat) (h_t h_t_cloud h_t_reader h_t_hull h_t_near h_t_firstTie h_t_reducer h_t_chooser h_t_pair h_t_divider h_t_depths h_t_spot h_t_cloud_x h_t_cloud_y h_t_cloud_colour h_t_cloud_load h_t_reducer_up h_t_reducer_tied h_t_reducer_tied_member h_t_reducer_tied_factor : Nat) (sz : Nat) (t_cloud_size : Int32) (t_cloud_centreX : Int32) (t_cloud_centreY : Int32) (t_cloud_x : Nat → Int32) (t_cloud_y : Nat → Int32) (t_cloud_load : Nat → Int32) (t_reducer_lower : Int64) (t_reducer_alive : Int32) (t_reducer_up : Nat → Int64) (t_reducer_tied_size : Int32) (t_reducer_tied_member : Nat → Int32) (t_reducer_tied_factor : Nat → Int64) (a1 : Int32) (a2 : Int32) (a3 : Int32) (o_r : Int64) (o_t_reducer_lower : Int64) (o_t_reducer_alive : Int32) (o_t_reducer_up : Nat → Int64) (o_t_reducer_tied_size : Int32) (o_t_reducer_tied_member : Nat → Int32) (o_t_reducer_tied_factor : Nat → Int64) (hf : fX11_weight K t_cloud_size t_cloud_x t_cloud_y t_cloud_load t_reducer_lower t_reducer_alive t_reducer_up t_reducer_tied_size t_reducer_tied_member t_reducer_tied_factor a1 a2 a3 = some (o_r, o_t_reducer_lower, o_t_reducer_alive, o_t_reducer_up, o_t_reducer_tied_size, o_t_reducer_tied_member, o_t_reducer_tied_factor)) : Met l yX11_weight [Cond.code yX11_weight cX11_weight 8 (some .long)] ({ frames := 5, cells := 0, slots := 0, locals := 127 }) (va_Pc [.ref h_t, .int a1, .int a2, .int a3] (cPre dC dI cI cL cB sz [(h_t, .inr (11, [.ref h_t_cloud, .ref h_t_reader, .ref h_t_hull, .ref h_t_near, .ref h_t_firstTie, .ref h_t_reducer, .ref h_t_chooser, .ref h_t_pair, .ref h_t_divider, .ref h_t_depths, .ref h_t_spot])), (h_t_cloud, .inr (0, [.ref h_t_cloud_x, .ref h_t_cloud_y, .ref h_t_cloud_colour, .ref h_t_cloud_load, .int t_cloud_size, .int t_cloud_centreX, .int t_cloud_centreY])), (h_t_cloud_x, .inl (cI, 24, .inl t_cloud_x)), (h_t_cloud_y, .inl (cI, 24, .inl t_cloud_y)), (h_t_cloud_load, .inl (cI, 24, .inl t_cloud_load)), (h_t_reducer, .inr (9, [.ref h_t_reducer_up, .long t_reducer_lower, .int t_reducer_alive, .ref h_t_reducer_tied])), (h_t_reducer_up, .inl (cL, 24, .inr (.inl t_reducer_up))), (h_t_reducer_tied, .inr (10, [.ref h_t_reducer_tied_member, .ref h_t_reducer_tied_factor, .int t_reducer_tied_size])), (h_t_reducer_tied_member, .inl (cI, 4, .inl t_reducer_tied_member)), (h_t_reducer_tied_factor, .inl (cL, 4, .inr (.inl t_reducer_tied_factor)))])) (cQl dC dI (va_A [(h_t, .inr (11, [.ref h_t_cloud, .ref h_t_reader, .ref h_t_hull, .ref h_t_near, .ref h_t_firstTie, .ref h_t_reducer, .ref h_t_chooser, .ref h_t_pair, .ref h_t_divider, .ref h_t_depths, .ref h_t_spot])), (h_t_cloud, .inr (0, [.ref h_t_cloud_x, .ref h_t_cloud_y, .ref h_t_cloud_colour, .ref h_t_cloud_load, .int t_cloud_size, .int t_cloud_centreX, .int t_cloud_centreY])), (h_t_cloud_x, .inl (cI, 24, .inl t_cloud_x)), (h_t_cloud_y, .inl (cI, 24, .inl t_cloud_y)), (h_t_cloud_load, .inl (cI, 24, .inl t_cloud_load)), (h_t_reducer, .inr (9, [.ref h_t_reducer_up, .long t_reducer_lower, .int t_reducer_alive, .ref h_t_reducer_tied])), (h_t_reducer_up, .inl (cL, 24, .inr (.inl t_reducer_up))), (h_t_reducer_tied, .inr (10, [.ref h_t_reducer_tied_member, .ref h_t_reducer_tied_factor, .int t_reducer_tied_size])), (h_t_reducer_tied_member, .inl (cI, 4, .inl t_reducer_tied_member)), (h_t_reducer_tied_factor, .inl (cL, 4, .inr (.inl t_reducer_tied_factor)))] sz) o_r [(h_t, .inr (11, [.ref h_t_cloud, .ref h_t_reader, .ref h_t_hull, .ref h_t_near, .ref h_t_firstTie, .ref h_t_reducer, .ref h_t_chooser, .ref h_t_pair, .ref h_t_divider, .ref h_t_depths, .ref h_t_spot])), (h_t_cloud, .inr (0, [.ref h_t_cloud_x, .ref h_t_cloud_y, .ref h_t_cloud_colour, .ref h_t_cloud_load, .int t_cloud_size, .int t_cloud_centreX, .int t_cloud_centreY])), (h_t_cloud_x, .inl (cI, 24, .inl t_cloud_x)), (h_t_cloud_y, .inl (cI, 24, .inl t_cloud_y)), (h_t_cloud_load, .inl (cI, 24, .inl t_cloud_load)), (h_t_reducer, .inr (9, [.ref h_t_reducer_up, .long o_t_reducer_lower, .int o_t_reducer_alive, .ref h_t_reducer_tied])), (h_t_reducer_up, .inl (cL, 24, .inr (.inl o_t_reducer_up))), (h_t_reducer_tied, .inr (10, [.ref h_t_reducer_tied_member, .ref h_t_reducer_tied_factor, .int o_t_reducer_tied_size])), (h_t_reducer_tied_member, .inl (cI, 4, .inl o_t_reducer_tied_member)), (h_t_reducer_tied_factor, .inl (cL, 4, .inr (.inl o_t_reducer_tied_factor)))]) 0 0 (va_A [(h_t, .inr (11, [.ref h_t_cloud, .ref h_t_reader, .ref h_t_hull, .ref h_t_near, .ref h_t_firstTie, .ref h_t_reducer, .ref h_t_chooser, .ref h_t_pair, .ref h_t_divider, .ref h_t_depths, .ref h_t_spot])), (h_t_cloud, .inr (0, [.ref h_t_cloud_x, .ref h_t_cloud_y, .ref h_t_cloud_colour, .ref h_t_cloud_load, .int t_cloud_size, .int t_cloud_centreX, .int t_cloud_centreY])), (h_t_cloud_x, .inl (cI, 24, .inl t_cloud_x)), (h_t_cloud_y, .inl (cI, 24, .inl t_cloud_y)), (h_t_cloud_load, .inl (cI, 24, .inl t_cloud_load)), (h_t_reducer, .inr (9, [.ref h_t_reducer_up, .long t_reducer_lower, .int t_reducer_alive, .ref h_t_reducer_tied])), (h_t_reducer_up, .inl (cL, 24, .inr (.inl t_reducer_up))), (h_t_reducer_tied, .inr (10, [.ref h_t_reducer_tied_member, .ref h_t_reducer_tied_factor, .int t_reducer_tied_size])), (h_t_reducer_tied_member, .inl (cI, 4, .inl t_reducer_tied_member)), (h_t_reducer_tied_factor, .inl (cL, 4, .inr (.inl t_reducer_tied_factor)))] sz) := by
  refine Met.ofW (cc := cX11_weight) (maxL := 8) (ret := (some .long)) (by decide) rfl ?_
  intro p e s m args below meth c s₁ B hml hv
  obtain ⟨rfl, hsz, hP, hK, hD0, hT⟩ := hv
  have hx := B.exec
  have hb := B.bytes
  have hr := B.returns
  have hown : s.vm.findClass RX11 = some m.cls := findClass_of_methodNamed B.named
  have hlocks := B.notSynchronized
  have hts := TB.use hT ([.ref h_t, .int a1, .int a2, .int a3] : List Value).toArray
  subst hsz
  have hD := hD0.self (sz := s.heap.size)
  generalize hAe : va_A [(h_t, .inr (11, [.ref h_t_cloud, .ref h_t_reader, .ref h_t_hull, .ref h_t_near, .ref h_t_firstTie, .ref h_t_reducer, .ref h_t_chooser, .ref h_t_pair, .ref h_t_divider, .ref h_t_depths, .ref h_t_spot])), (h_t_cloud, .inr (0, [.ref h_t_cloud_x, .ref h_t_cloud_y, .ref h_t_cloud_colour, .ref h_t_cloud_load, .int t_cloud_size, .int t_cloud_centreX, .int t_cloud_centreY])), (h_t_cloud_x, .inl (cI, 24, .inl t_cloud_x)), (h_t_cloud_y, .inl (cI, 24, .inl t_cloud_y)), (h_t_cloud_load, .inl (cI, 24, .inl t_cloud_load)), (h_t_reducer, .inr (9, [.ref h_t_reducer_up, .long t_reducer_lower, .int t_reducer_alive, .ref h_t_reducer_tied])), (h_t_reducer_up, .inl (cL, 24, .inr (.inl t_reducer_up))), (h_t_reducer_tied, .inr (10, [.ref h_t_reducer_tied_member, .ref h_t_reducer_tied_factor, .int t_reducer_tied_size])), (h_t_reducer_tied_member, .inl (cI, 4, .inl t_reducer_tied_member)), (h_t_reducer_tied_factor, .inl (cL, 4, .inr (.inl t_reducer_tied_factor)))] s.heap.size = A at hD ⊢
  have hA : ∀ q : Nat, s.heap.size ≤ q → A q := fun q h => by rw [← hAe]; exact Or.inr h
  clear hAe hD0
  have hl := lv_entry ([.ref h_t, .int a1, .int a2, .int a3]) (n := 8) (Nat.le_of_ble_eq_true rfl)
  rw [lg_entry_eq]
  generalize (lg_sl ([.ref h_t, .int a1, .int a2, .int a3]) ++ List.replicate (8 - (lg_sl ([.ref h_t, .int a1, .int a2, .int a3])).length) Slot.unset).toArray = ls at hl ⊢
  have hl : lv_has ls 8 [(0, .ref h_t), (1, .int a1), (2, .int a2), (3, .int a3)] := hl
  have hF : 5 ≤ (headSpec [Cond.code yX11_weight cX11_weight 8 (some .long)] ({ frames := 5, cells := 0, slots := 0, locals := 127 })).room.frames := Nat.le_refl _
  have hLo : 127 ≤ (headSpec [Cond.code yX11_weight cX11_weight 8 (some .long)] ({ frames := 5, cells := 0, slots := 0, locals := 127 })).room.locals := Nat.le_refl _
  have C0 : Sx p (headSpec [Cond.code yX11_weight cX11_weight 8 (some .long)] ({ frames := 5, cells := 0, slots := 0, locals := 127 })).room s m ([.ref h_t, .int a1, .int a2, .int a3] : List Value).toArray c cX11_weight 8 RX11 A dC dI cI cL cB 5 127 := ⟨hx, hb, hml, hown, hts, hK, hT, hA, hF, hLo⟩
  refine startH (A := A) hP (fun H locs hP hS => ?_)
  rw [fX11_weight] at hf
  refine lv_aload_n hx hb dX11_weight_0 rfl (lv_at hl 0 rfl) ?_
  refine va_get (D := (dC, dI)) (ci := 11) (v := .ref h_t_cloud) (C := RX11) (T := TX11) (N := 11) hx hb hts in_X11 hown hK hP 0 rfl rfl 0 (Nat.le_of_ble_eq_true rfl) (hts _ qf_X11_12) (fun _ h9 => h9) rfl dX11_weight_1 ?_
  refine lv_iload_n hx hb dX11_weight_4 rfl (lv_at hl 1 rfl) ?_
  obtain ⟨r_1, hq_2, hf⟩ := b1_some hf
  refine xci (wr := [(h_t, .inr (11, [.ref h_t_cloud, .ref h_t_reader, .ref h_t_hull, .ref h_t_near, .ref h_t_firstTie, .ref h_t_reducer, .ref h_t_chooser, .ref h_t_pair, .ref h_t_divider, .ref h_t_depths, .ref h_t_spot])), (h_t_cloud_x, .inl (cI, 24, .inl t_cloud_x)), (h_t_cloud_y, .inl (cI, 24, .inl t_cloud_y)), (h_t_cloud_load, .inl (cI, 24, .inl t_cloud_load)), (h_t_reducer, .inr (9, [.ref h_t_reducer_up, .long t_reducer_lower, .int t_reducer_alive, .ref h_t_reducer_tied])), (h_t_reducer_up, .inl (cL, 24, .inr (.inl t_reducer_up))), (h_t_reducer_tied, .inr (10, [.ref h_t_reducer_tied_member, .ref h_t_reducer_tied_factor, .int t_reducer_tied_size])), (h_t_reducer_tied_member, .inl (cI, 4, .inl t_reducer_tied_member)), (h_t_reducer_tied_factor, .inl (cL, 4, .inr (.inl t_reducer_tied_factor)))]) (w2 := [(h_t, .inr (11, [.ref h_t_cloud, .ref h_t_reader, .ref h_t_hull, .ref h_t_near, .ref h_t_firstTie, .ref h_t_reducer, .ref h_t_chooser, .ref h_t_pair, .ref h_t_divider, .ref h_t_depths, .ref h_t_spot])), (h_t_cloud, .inr (0, [.ref h_t_cloud_x, .ref h_t_cloud_y, .ref h_t_cloud_colour, .ref h_t_cloud_load, .int t_cloud_size, .int t_cloud_centreX, .int t_cloud_centreY])), (h_t_cloud_x, .inl (cI, 24, .inl t_cloud_x)), (h_t_cloud_y, .inl (cI, 24, .inl t_cloud_y)), (h_t_cloud_load, .inl (cI, 24, .inl t_cloud_load)), (h_t_reducer, .inr (9, [.ref h_t_reducer_up, .long t_reducer_lower, .int t_reducer_alive, .ref h_t_reducer_tied])), (h_t_reducer_up, .inl (cL, 24, .inr (.inl t_reducer_up))), (h_t_reducer_tied, .inr (10, [.ref h_t_reducer_tied_member, .ref h_t_reducer_tied_factor, .int t_reducer_tied_size])), (h_t_reducer_tied_member, .inl (cI, 4, .inl t_reducer_tied_member)), (h_t_reducer_tied_factor, .inl (cL, 4, .inr (.inl t_reducer_tied_factor)))]) (va_runV (As := [.int a1]) (rest := []) ⟨hx, hb, hml, hown, hts⟩ (mtX0_has l dC dI cI cL cB K h_t_cloud h_t_cloud_x h_t_cloud_y h_t_cloud_colour h_t_cloud_load H.size t_cloud_size t_cloud_centreX t_cloud_centreY a1 r_1 hq_2) (cwV 1 hts gv_X11_128 rfl rfl rfl hdV_X0_has ⟨Nat.le_trans (Nat.le_of_ble_eq_true rfl) hF, Nat.le_trans (Nat.le_of_ble_eq_true rfl) hLo⟩) (cPreV hK hP hD hT [1] rfl rfl (ci := 0) (q0 := 0) rfl rfl) rfl rfl hl.1 rfl (lv_room (Nat.le_of_ble_eq_true rfl)) dX11_weight_5 ⟨Nat.zero_le _, Nat.zero_le _⟩) hP hD hS hA [1] [0, 2, 3, 4, 5, 6, 7, 8, 9] [0, 9, 1, 2, 3, 4, 5, 6, 7, 8] rfl rfl rfl rfl rfl rfl (fun H locs hP hD hS => ?_)
  refine lv_if_eq (tgt := 45) hx hb dX11_weight_8 (by decide) (fun hc => ?_) (fun hc => ?_)
  · replace hf := it_t (hc) hf
    refine lv_ldc2 (v := (-9223372036854775808 : Int64)) hx hb hown (hts _ qj_X11_131) dX11_weight_45 ?_
    obtain ⟨rfl, rfl, rfl, rfl, rfl, rfl, rfl⟩ := o7 hf
    exact W.lret hx hb hr (fun t ht hW => ⟨⟨_, (), rfl, rfl, by rw [ht]; exact hP, hD⟩, hS.F ht⟩) hS.2.2 dX11_weight_48
  · replace hf := it_f (hc) hf
    refine lv_iload_n hx hb dX11_weight_11 rfl (lv_at hl 2 rfl) ?_
    refine lv_if_lt (tgt := 45) hx hb dX11_weight_12 (by decide) (fun hc => ?_) (fun hc => ?_)
    · replace hf := it_t (hc) hf
      refine lv_ldc2 (v := (-9223372036854775808 : Int64)) hx hb hown (hts _ qj_X11_131) dX11_weight_45 ?_
      obtain ⟨rfl, rfl, rfl, rfl, rfl, rfl, rfl⟩ := o7 hf
      exact W.lret hx hb hr (fun t ht hW => ⟨⟨_, (), rfl, rfl, by rw [ht]; exact hP, hD⟩, hS.F ht⟩) hS.2.2 dX11_weight_48
    · replace hf := it_f (hc) hf
      refine lv_aload_n hx hb dX11_weight_15 rfl (lv_at hl 0 rfl) ?_
      refine va_get (D := (dC, dI)) (ci := 11) (v := .ref h_t_reducer) (C := RX11) (T := TX11) (N := 11) hx hb hts in_X11 hown hK hP 0 rfl rfl 5 (Nat.le_of_ble_eq_true rfl) (hts _ qf_X11_49) (fun _ h9 => h9) rfl dX11_weight_16 ?_
      refine lv_aload_n hx hb dX11_weight_19 rfl (lv_at hl 0 rfl) ?_
      refine va_get (D := (dC, dI)) (ci := 11) (v := .ref h_t_cloud) (C := RX11) (T := TX11) (N := 11) hx hb hts in_X11 hown hK hP 0 rfl rfl 0 (Nat.le_of_ble_eq_true rfl) (hts _ qf_X11_12) (fun _ h9 => h9) rfl dX11_weight_20 ?_
      obtain ⟨r_3, t_reducer_lower_4, t_reducer_alive_5, t_reducer_up_6, hq_7, hf⟩ := b4_some hf
      refine xci (wr := [(h_t, .inr (11, [.ref h_t_cloud, .ref h_t_reader, .ref h_t_hull, .ref h_t_near, .ref h_t_firstTie, .ref h_t_reducer, .ref h_t_chooser, .ref h_t_pair, .ref h_t_divider, .ref h_t_depths, .ref h_t_spot])), (h_t_cloud_x, .inl (cI, 24, .inl t_cloud_x)), (h_t_cloud_y, .inl (cI, 24, .inl t_cloud_y)), (h_t_reducer_tied, .inr (10, [.ref h_t_reducer_tied_member, .ref h_t_reducer_tied_factor, .int t_reducer_tied_size])), (h_t_reducer_tied_member, .inl (cI, 4, .inl t_reducer_tied_member)), (h_t_reducer_tied_factor, .inl (cL, 4, .inr (.inl t_reducer_tied_factor)))]) (w2 := [(h_t, .inr (11, [.ref h_t_cloud, .ref h_t_reader, .ref h_t_hull, .ref h_t_near, .ref h_t_firstTie, .ref h_t_reducer, .ref h_t_chooser, .ref h_t_pair, .ref h_t_divider, .ref h_t_depths, .ref h_t_spot])), (h_t_cloud, .inr (0, [.ref h_t_cloud_x, .ref h_t_cloud_y, .ref h_t_cloud_colour, .ref h_t_cloud_load, .int t_cloud_size, .int t_cloud_centreX, .int t_cloud_centreY])), (h_t_cloud_x, .inl (cI, 24, .inl t_cloud_x)), (h_t_cloud_y, .inl (cI, 24, .inl t_cloud_y)), (h_t_cloud_load, .inl (cI, 24, .inl t_cloud_load)), (h_t_reducer, .inr (9, [.ref h_t_reducer_up, .long t_reducer_lower_4, .int t_reducer_alive_5, .ref h_t_reducer_tied])), (h_t_reducer_up, .inl (cL, 24, .inr (.inl t_reducer_up_6))), (h_t_reducer_tied, .inr (10, [.ref h_t_reducer_tied_member, .ref h_t_reducer_tied_factor, .int t_reducer_tied_size])), (h_t_reducer_tied_member, .inl (cI, 4, .inl t_reducer_tied_member)), (h_t_reducer_tied_factor, .inl (cL, 4, .inr (.inl t_reducer_tied_factor)))]) (va_runV (As := [.ref h_t_cloud]) (rest := []) ⟨hx, hb, hml, hown, hts⟩ (mtX9_begin l dC dI cI cL cB K h_t_reducer h_t_reducer_up h_t_reducer_tied h_t_cloud h_t_cloud_x h_t_cloud_y h_t_cloud_colour h_t_cloud_load H.size t_reducer_lower t_reducer_alive t_reducer_up t_cloud_size t_cloud_centreX t_cloud_centreY t_cloud_load r_3 t_reducer_lower_4 t_reducer_alive_5 t_reducer_up_6 hq_7) (cwV 1 hts gv_X11_240 rfl rfl rfl hdV_X9_begin ⟨Nat.le_trans (Nat.le_of_ble_eq_true rfl) hF, Nat.le_trans (Nat.le_of_ble_eq_true rfl) hLo⟩) (cPreV hK hP hD hT [5, 6, 1, 4] rfl rfl (ci := 9) (q0 := 0) rfl rfl) rfl rfl hl.1 rfl (lv_room (Nat.le_of_ble_eq_true rfl)) dX11_weight_23 ⟨Nat.zero_le _, Nat.zero_le _⟩) hP hD hS hA [5, 6, 1, 4] [0, 2, 3, 7, 8, 9] [0, 8, 1, 2, 9, 6, 7, 3, 4, 5] rfl rfl rfl rfl rfl rfl (fun H locs hP hD hS => ?_)
      refine lv_if_ne (tgt := 45) hx hb dX11_weight_26 (by decide) (fun hc => ?_) (fun hc => ?_)
      · replace hf := it_f (hc) hf
        refine lv_ldc2 (v := (-9223372036854775808 : Int64)) hx hb hown (hts _ qj_X11_131) dX11_weight_45 ?_
        obtain ⟨rfl, rfl, rfl, rfl, rfl, rfl, rfl⟩ := o7 hf
        exact W.lret hx hb hr (fun t ht hW => ⟨⟨_, (), rfl, rfl, by rw [ht]; exact hP, hD⟩, hS.F ht⟩) hS.2.2 dX11_weight_48
      · replace hf := it_t (hc) hf
        refine lv_aload_n hx hb dX11_weight_29 rfl (lv_at hl 0 rfl) ?_
        refine va_get (D := (dC, dI)) (ci := 11) (v := .ref h_t_reducer) (C := RX11) (T := TX11) (N := 11) hx hb hts in_X11 hown hK hP 0 rfl rfl 5 (Nat.le_of_ble_eq_true rfl) (hts _ qf_X11_49) (fun _ h9 => h9) rfl dX11_weight_30 ?_
        refine lv_aload_n hx hb dX11_weight_33 rfl (lv_at hl 0 rfl) ?_
        refine va_get (D := (dC, dI)) (ci := 11) (v := .ref h_t_cloud) (C := RX11) (T := TX11) (N := 11) hx hb hts in_X11 hown hK hP 0 rfl rfl 0 (Nat.le_of_ble_eq_true rfl) (hts _ qf_X11_12) (fun _ h9 => h9) rfl dX11_weight_34 ?_
        refine lv_iload_n hx hb dX11_weight_37 rfl (lv_at hl 2 rfl) ?_
        obtain ⟨r_8, t_reducer_lower_9, t_reducer_alive_10, t_reducer_up_11, t_reducer_tied_size_12, t_reducer_tied_member_13, t_reducer_tied_factor_14, hq_15, hf⟩ := b7_some hf
        refine xci (wr := [(h_t, .inr (11, [.ref h_t_cloud, .ref h_t_reader, .ref h_t_hull, .ref h_t_near, .ref h_t_firstTie, .ref h_t_reducer, .ref h_t_chooser, .ref h_t_pair, .ref h_t_divider, .ref h_t_depths, .ref h_t_spot])), (h_t_cloud_load, .inl (cI, 24, .inl t_cloud_load))]) (w2 := [(h_t, .inr (11, [.ref h_t_cloud, .ref h_t_reader, .ref h_t_hull, .ref h_t_near, .ref h_t_firstTie, .ref h_t_reducer, .ref h_t_chooser, .ref h_t_pair, .ref h_t_divider, .ref h_t_depths, .ref h_t_spot])), (h_t_cloud, .inr (0, [.ref h_t_cloud_x, .ref h_t_cloud_y, .ref h_t_cloud_colour, .ref h_t_cloud_load, .int t_cloud_size, .int t_cloud_centreX, .int t_cloud_centreY])), (h_t_cloud_x, .inl (cI, 24, .inl t_cloud_x)), (h_t_cloud_y, .inl (cI, 24, .inl t_cloud_y)), (h_t_cloud_load, .inl (cI, 24, .inl t_cloud_load)), (h_t_reducer, .inr (9, [.ref h_t_reducer_up, .long t_reducer_lower_9, .int t_reducer_alive_10, .ref h_t_reducer_tied])), (h_t_reducer_up, .inl (cL, 24, .inr (.inl t_reducer_up_11))), (h_t_reducer_tied, .inr (10, [.ref h_t_reducer_tied_member, .ref h_t_reducer_tied_factor, .int t_reducer_tied_size_12])), (h_t_reducer_tied_member, .inl (cI, 4, .inl t_reducer_tied_member_13)), (h_t_reducer_tied_factor, .inl (cL, 4, .inr (.inl t_reducer_tied_factor_14)))]) (va_runV (As := [.ref h_t_cloud, .int a2]) (rest := []) ⟨hx, hb, hml, hown, hts⟩ (mtX9_run l dC dI cI cL cB K h_t_reducer h_t_reducer_up h_t_reducer_tied h_t_reducer_tied_member h_t_reducer_tied_factor h_t_cloud h_t_cloud_x h_t_cloud_y h_t_cloud_colour h_t_cloud_load H.size t_reducer_lower_4 t_reducer_alive_5 t_reducer_up_6 t_reducer_tied_size t_reducer_tied_member t_reducer_tied_factor t_cloud_size t_cloud_centreX t_cloud_centreY t_cloud_x t_cloud_y a2 r_8 t_reducer_lower_9 t_reducer_alive_10 t_reducer_up_11 t_reducer_tied_size_12 t_reducer_tied_member_13 t_reducer_tied_factor_14 hq_15) (cwV 2 hts gv_X11_244 rfl rfl rfl hdV_X9_run ⟨Nat.le_trans (Nat.le_of_ble_eq_true rfl) hF, Nat.le_trans (Nat.le_of_ble_eq_true rfl) hLo⟩) (cPreV hK hP hD hT [5, 6, 7, 8, 9, 1, 2, 3] rfl rfl (ci := 9) (q0 := 0) rfl rfl) rfl rfl hl.1 rfl (lv_room (Nat.le_of_ble_eq_true rfl)) dX11_weight_38 ⟨Nat.zero_le _, Nat.zero_le _⟩) hP hD hS hA [5, 6, 7, 8, 9, 1, 2, 3] [0, 4] [0, 7, 8, 9, 1, 2, 3, 4, 5, 6] rfl rfl rfl rfl rfl rfl (fun H locs hP hD hS => ?_)
        refine lv_iload_n hx hb dX11_weight_41 rfl (lv_at hl 2 rfl) ?_
        refine lv_icmp_eq (tgt := 49) hx hb dX11_weight_42 (by decide) (fun hc => ?_) (fun hc => ?_)
        · replace hf := it_t (hc) hf
          refine lv_aload_n hx hb dX11_weight_49 rfl (lv_at hl 0 rfl) ?_
          refine va_get (D := (dC, dI)) (ci := 11) (v := .ref h_t_reducer) (C := RX11) (T := TX11) (N := 11) hx hb hts in_X11 hown hK hP 0 rfl rfl 5 (Nat.le_of_ble_eq_true rfl) (hts _ qf_X11_49) (fun _ h9 => h9) rfl dX11_weight_50 ?_
          refine va_get (D := (dC, dI)) (ci := 9) (v := .ref h_t_reducer_up) (C := RX9) (T := TX9) (N := 4) hx hb hts in_X9 hown hK hP 5 rfl rfl 0 (Nat.le_of_ble_eq_true rfl) (hts _ qf_X11_248) (fun _ h9 => h9) rfl dX11_weight_53 ?_
          refine lv_iload_n hx hb dX11_weight_56 rfl (lv_at hl 1 rfl) ?_
          obtain ⟨hg_16, hf⟩ := gd_some hf
          refine va_lald hx hb hK hP 6 1 rfl rfl (inb_in hg_16) dX11_weight_57 ?_
          refine lv_topl (fun l4_17 el4_17 => ?_)
          replace hf := xl_at hf el4_17
          refine lv_lstore (lv' := [(4, .long l4_17), (0, .ref h_t), (1, .int a1), (2, .int a2), (3, .int a3)]) hx hb dX11_weight_58 hl (Nat.le_of_ble_eq_true rfl) rfl (fun ls hl => ?_)
          refine lv_lload hx hb dX11_weight_60 (lv_at hl 0 rfl) ?_
          refine lv_aload_n hx hb dX11_weight_62 rfl (lv_at hl 1 rfl) ?_
          refine va_get (D := (dC, dI)) (ci := 11) (v := .ref h_t_reducer) (C := RX11) (T := TX11) (N := 11) hx hb hts in_X11 hown hK hP 0 rfl rfl 5 (Nat.le_of_ble_eq_true rfl) (hts _ qf_X11_49) (fun _ h9 => h9) rfl dX11_weight_63 ?_
          refine va_get (D := (dC, dI)) (ci := 9) (v := .long t_reducer_lower_9) (C := RX9) (T := TX9) (N := 4) hx hb hts in_X9 hown hK hP 5 rfl rfl 1 (Nat.le_of_ble_eq_true rfl) (hts _ qf_X11_252) (fun _ h9 => h9) rfl dX11_weight_66 ?_
          obtain ⟨r_18, hq_19, hf⟩ := b1_some hf
          refine xcl (wr := [(h_t, .inr (11, [.ref h_t_cloud, .ref h_t_reader, .ref h_t_hull, .ref h_t_near, .ref h_t_firstTie, .ref h_t_reducer, .ref h_t_chooser, .ref h_t_pair, .ref h_t_divider, .ref h_t_depths, .ref h_t_spot])), (h_t_cloud, .inr (0, [.ref h_t_cloud_x, .ref h_t_cloud_y, .ref h_t_cloud_colour, .ref h_t_cloud_load, .int t_cloud_size, .int t_cloud_centreX, .int t_cloud_centreY])), (h_t_cloud_x, .inl (cI, 24, .inl t_cloud_x)), (h_t_cloud_y, .inl (cI, 24, .inl t_cloud_y)), (h_t_cloud_load, .inl (cI, 24, .inl t_cloud_load)), (h_t_reducer, .inr (9, [.ref h_t_reducer_up, .long t_reducer_lower_9, .int t_reducer_alive_10, .ref h_t_reducer_tied])), (h_t_reducer_up, .inl (cL, 24, .inr (.inl t_reducer_up_11))), (h_t_reducer_tied, .inr (10, [.ref h_t_reducer_tied_member, .ref h_t_reducer_tied_factor, .int t_reducer_tied_size_12])), (h_t_reducer_tied_member, .inl (cI, 4, .inl t_reducer_tied_member_13)), (h_t_reducer_tied_factor, .inl (cL, 4, .inr (.inl t_reducer_tied_factor_14)))]) (w2 := [(h_t, .inr (11, [.ref h_t_cloud, .ref h_t_reader, .ref h_t_hull, .ref h_t_near, .ref h_t_firstTie, .ref h_t_reducer, .ref h_t_chooser, .ref h_t_pair, .ref h_t_divider, .ref h_t_depths, .ref h_t_spot])), (h_t_cloud, .inr (0, [.ref h_t_cloud_x, .ref h_t_cloud_y, .ref h_t_cloud_colour, .ref h_t_cloud_load, .int t_cloud_size, .int t_cloud_centreX, .int t_cloud_centreY])), (h_t_cloud_x, .inl (cI, 24, .inl t_cloud_x)), (h_t_cloud_y, .inl (cI, 24, .inl t_cloud_y)), (h_t_cloud_load, .inl (cI, 24, .inl t_cloud_load)), (h_t_reducer, .inr (9, [.ref h_t_reducer_up, .long t_reducer_lower_9, .int t_reducer_alive_10, .ref h_t_reducer_tied])), (h_t_reducer_up, .inl (cL, 24, .inr (.inl t_reducer_up_11))), (h_t_reducer_tied, .inr (10, [.ref h_t_reducer_tied_member, .ref h_t_reducer_tied_factor, .int t_reducer_tied_size_12])), (h_t_reducer_tied_member, .inl (cI, 4, .inl t_reducer_tied_member_13)), (h_t_reducer_tied_factor, .inl (cL, 4, .inr (.inl t_reducer_tied_factor_14)))]) (va_runS (As := [.long l4_17, .long t_reducer_lower_9]) (rest := []) ⟨hx, hb, hml, hown, hts⟩ (mtX11_gcd l dC dI cI cL cB K H.size l4_17 t_reducer_lower_9 r_18 hq_19) (va_cwS 2 hts gs_X11_205 rfl rfl rfl hdS_X11_gcd ⟨Nat.le_trans (Nat.le_of_ble_eq_true rfl) hF, Nat.le_trans (Nat.le_of_ble_eq_true rfl) hLo⟩) (cPreS hK hP hD hT [] rfl rfl) rfl rfl hl.1 rfl (lv_room (Nat.le_of_ble_eq_true rfl)) dX11_weight_69 ⟨Nat.zero_le _, Nat.zero_le _⟩) hP hD hS hA [] [0, 1, 2, 3, 4, 5, 6, 7, 8, 9] [0, 1, 2, 3, 4, 5, 6, 7, 8, 9] rfl rfl rfl rfl rfl rfl (fun H locs hP hD hS => ?_)
          refine lv_lstore (lv' := [(6, .long r_18), (4, .long l4_17), (0, .ref h_t), (1, .int a1), (2, .int a2), (3, .int a3)]) hx hb dX11_weight_72 hl (Nat.le_of_ble_eq_true rfl) rfl (fun ls hl => ?_)
          refine lv_lload hx hb dX11_weight_74 (lv_at hl 0 rfl) ?_
          refine lv_lconst (v := (0 : Int64)) hx hb dX11_weight_76 (by decide) ?_
          refine W.lcmp hx hb dX11_weight_77 ?_
          refine lv_if_ne (tgt := 85) hx hb dX11_weight_78 (by decide) (fun hc => ?_) (fun hc => ?_)
          · replace hf := it_f (fun h9 => hc ((lg_cmp_eq _ _).mpr h9)) hf
            refine lv_iload_n hx hb dX11_weight_85 rfl (lv_at hl 5 rfl) ?_
            by_cases hk_20 : a3 = (0 : Int32)
            · replace hf := it_t hk_20 hf
              refine lv_lookup (off := 26) (tgt := 112) hx hb dX11_weight_86 (by decide) (by rw [hk_20]; decide) (by decide) ?_
              refine lv_lload hx hb dX11_weight_112 (lv_at hl 1 rfl) ?_
              refine lv_lload hx hb dX11_weight_114 (lv_at hl 0 rfl) ?_
              obtain ⟨hg_21, hf⟩ := gd_some hf
              refine lv_ldiv hx hb dX11_weight_116 (nz_ne hg_21) ?_
              obtain ⟨rfl, rfl, rfl, rfl, rfl, rfl, rfl⟩ := o7 hf
              exact W.lret hx hb hr (fun t ht hW => ⟨⟨_, (), rfl, rfl, by rw [ht]; exact hP, hD⟩, hS.F ht⟩) hS.2.2 dX11_weight_117
            · replace hf := it_f hk_20 hf
              by_cases hk_22 : a3 = (1 : Int32)
              · replace hf := it_t hk_22 hf
                refine lv_lookup (off := 32) (tgt := 118) hx hb dX11_weight_86 (by decide) (by rw [hk_22]; decide) (by decide) ?_
                refine lv_aload_n hx hb dX11_weight_118 rfl (lv_at hl 2 rfl) ?_
                refine va_get (D := (dC, dI)) (ci := 11) (v := .ref h_t_reducer) (C := RX11) (T := TX11) (N := 11) hx hb hts in_X11 hown hK hP 0 rfl rfl 5 (Nat.le_of_ble_eq_true rfl) (hts _ qf_X11_49) (fun _ h9 => h9) rfl dX11_weight_119 ?_
                refine va_get (D := (dC, dI)) (ci := 9) (v := .long t_reducer_lower_9) (C := RX9) (T := TX9) (N := 4) hx hb hts in_X9 hown hK hP 5 rfl rfl 1 (Nat.le_of_ble_eq_true rfl) (hts _ qf_X11_252) (fun _ h9 => h9) rfl dX11_weight_122 ?_
                refine lv_lload hx hb dX11_weight_125 (lv_at hl 0 rfl) ?_
                obtain ⟨hg_23, hf⟩ := gd_some hf
                refine lv_ldiv hx hb dX11_weight_127 (nz_ne hg_23) ?_
                obtain ⟨rfl, rfl, rfl, rfl, rfl, rfl, rfl⟩ := o7 hf
                exact W.lret hx hb hr (fun t ht hW => ⟨⟨_, (), rfl, rfl, by rw [ht]; exact hP, hD⟩, hS.F ht⟩) hS.2.2 dX11_weight_128
              · replace hf := it_f hk_22 hf
                refine lv_lookup (off := 43) (tgt := 129) hx hb dX11_weight_86 (by decide) ((lv_osw (k := (0 : Int32)) hk_20 (by decide)).trans ((lv_osw (k := (1 : Int32)) hk_22 (by decide)).trans rfl)) (by decide) ?_
                refine lv_ldc2 (v := (-9223372036854775808 : Int64)) hx hb hown (hts _ qj_X11_131) dX11_weight_129 ?_
                obtain ⟨rfl, rfl, rfl, rfl, rfl, rfl, rfl⟩ := o7 hf
                exact W.lret hx hb hr (fun t ht hW => ⟨⟨_, (), rfl, rfl, by rw [ht]; exact hP, hD⟩, hS.F ht⟩) hS.2.2 dX11_weight_132
          · replace hf := it_t ((lg_cmp_eq _ _).mp hc) hf
            refine lv_ldc2 (v := (-9223372036854775808 : Int64)) hx hb hown (hts _ qj_X11_131) dX11_weight_81 ?_
            obtain ⟨rfl, rfl, rfl, rfl, rfl, rfl, rfl⟩ := o7 hf
            exact W.lret hx hb hr (fun t ht hW => ⟨⟨_, (), rfl, rfl, by rw [ht]; exact hP, hD⟩, hS.F ht⟩) hS.2.2 dX11_weight_84
        · replace hf := it_f (hc) hf
          refine lv_ldc2 (v := (-9223372036854775808 : Int64)) hx hb hown (hts _ qj_X11_131) dX11_weight_45 ?_
          obtain ⟨rfl, rfl, rfl, rfl, rfl, rfl, rfl⟩ := o7 hf
          exact W.lret hx hb hr (fun t ht hW => ⟨⟨_, (), rfl, rfl, by rw [ht]; exact hP, hD⟩, hS.F ht⟩) hS.2.2 dX11_weight_48
theorem dX11_left_0 : decode cX11_left 0 = .ok (.iload_n 1, 1) := by decide +kernel
theorem dX11_left_1 : decode cX11_left 1 = .ok (.ifCond .ge 6, 3) := by decide +kernel
theorem dX11_left_4 : decode cX11_left 4 = .ok (.bipush (-2), 2) := by decide +kernel
theorem dX11_left_6 : decode cX11_left 6 = .ok (.ireturn, 1) := by decide +kernel
theorem dX11_left_7 : decode cX11_left 7 = .ok (.aload_n 0, 1) := by decide +kernel
theorem dX11_left_8 : decode cX11_left 8 = .ok (.getfield 49, 3) := by decide +kernel
theorem dX11_left_11 : decode cX11_left 11 = .ok (.aload_n 0, 1) := by decide +kernel
theorem dX11_left_12 : decode cX11_left 12 = .ok (.getfield 12, 3) := by decide +kernel
theorem dX11_left_15 : decode cX11_left 15 = .ok (.invokevirtual 240, 3) := by decide +kernel
theorem dX11_left_18 : decode cX11_left 18 = .ok (.istore_n 2, 1) := by decide +kernel
theorem dX11_left_19 : decode cX11_left 19 = .ok (.iload_n 2, 1) := by decide +kernel
theorem dX11_left_20 : decode cX11_left 20 = .ok (.ifCond .eq 5, 3) := by decide +kernel
theorem dX11_left_23 : decode cX11_left 23 = .ok (.iload_n 2, 1) := by decide +kernel
theorem dX11_left_24 : decode cX11_left 24 = .ok (.ireturn, 1) := by decide +kernel
theorem dX11_left_25 : decode cX11_left 25 = .ok (.aload_n 0, 1) := by decide +kernel
theorem dX11_left_26 : decode cX11_left 26 = .ok (.getfield 49, 3) := by decide +kernel
theorem dX11_left_29 : decode cX11_left 29 = .ok (.aload_n 0, 1) := by decide +kernel
theorem dX11_left_30 : decode cX11_left 30 = .ok (.getfield 12, 3) := by decide +kernel
theorem dX11_left_33 : decode cX11_left 33 = .ok (.iload_n 1, 1) := by decide +kernel
theorem dX11_left_34 : decode cX11_left 34 = .ok (.invokevirtual 244, 3) := by decide +kernel
theorem dX11_left_37 : decode cX11_left 37 = .ok (.iload_n 1, 1) := by decide +kernel
theorem dX11_left_38 : decode cX11_left 38 = .ok (.if_icmp .ne 13, 3) := by decide +kernel
theorem dX11_left_41 : decode cX11_left 41 = .ok (.aload_n 0, 1) := by decide +kernel
theorem dX11_left_42 : decode cX11_left 42 = .ok (.getfield 49, 3) := by decide +kernel
theorem dX11_left_45 : decode cX11_left 45 = .ok (.getfield 253, 3) := by decide +kernel
theorem dX11_left_48 : decode cX11_left 48 = .ok (.goto 5, 3) := by decide +kernel
theorem dX11_left_51 : decode cX11_left 51 = .ok (.bipush (-2), 2) := by decide +kernel
theorem dX11_left_53 : decode cX11_left 53 = .ok (.ireturn, 1) := by decide +kernel
set_option maxRecDepth 100000 in
set_option maxHeartbeats 4000000 in
theorem mtX11_left (l : Launch) (dC : Nat → ClassId) (dI : Nat → Nat → Nat) (cI cL cB : ClassId) (K : Nat) (h_t h_t_cloud h_t_reader h_t_hull h_t_near h_t_firstTie h_t_reducer h_t_chooser h_t_pair h_t_divider h_t_depths h_t_spot h_t_cloud_x h_t_cloud_y h_t_cloud_colour h_t_cloud_load h_t_reducer_up h_t_reducer_tied h_t_reducer_tied_member h_t_reducer_tied_factor : Nat) (sz : Nat) (t_cloud_size : Int32) (t_cloud_centreX : Int32) (t_cloud_centreY : Int32) (t_cloud_x : Nat → Int32) (t_cloud_y : Nat → Int32) (t_cloud_load : Nat → Int32) (t_reducer_lower : Int64) (t_reducer_alive : Int32) (t_reducer_up : Nat → Int64) (t_reducer_tied_size : Int32) (t_reducer_tied_member : Nat → Int32) (t_reducer_tied_factor : Nat → Int64) (a1 : Int32) (o_r : Int32) (o_t_reducer_lower : Int64) (o_t_reducer_alive : Int32) (o_t_reducer_up : Nat → Int64) (o_t_reducer_tied_size : Int32) (o_t_reducer_tied_member : Nat → Int32) (o_t_reducer_tied_factor : Nat → Int64) (hf : fX11_left K t_cloud_size t_cloud_x t_cloud_y t_cloud_load t_reducer_lower t_reducer_alive t_reducer_up t_reducer_tied_size t_reducer_tied_member t_reducer_tied_factor a1 = some (o_r, o_t_reducer_lower, o_t_reducer_alive, o_t_reducer_up, o_t_reducer_tied_size, o_t_reducer_tied_member, o_t_reducer_tied_factor)) : Met l yX11_left [Cond.code yX11_left cX11_left 3 (some .int)] ({ frames := 5, cells := 0, slots := 0, locals := 127 }) (va_Pc [.ref h_t, .int a1] (cPre dC dI cI cL cB sz [(h_t, .inr (11, [.ref h_t_cloud, .ref h_t_reader, .ref h_t_hull, .ref h_t_near, .ref h_t_firstTie, .ref h_t_reducer, .ref h_t_chooser, .ref h_t_pair, .ref h_t_divider, .ref h_t_depths, .ref h_t_spot])), (h_t_cloud, .inr (0, [.ref h_t_cloud_x, .ref h_t_cloud_y, .ref h_t_cloud_colour, .ref h_t_cloud_load, .int t_cloud_size, .int t_cloud_centreX, .int t_cloud_centreY])), (h_t_cloud_x, .inl (cI, 24, .inl t_cloud_x)), (h_t_cloud_y, .inl (cI, 24, .inl t_cloud_y)), (h_t_cloud_load, .inl (cI, 24, .inl t_cloud_load)), (h_t_reducer, .inr (9, [.ref h_t_reducer_up, .long t_reducer_lower, .int t_reducer_alive, .ref h_t_reducer_tied])), (h_t_reducer_up, .inl (cL, 24, .inr (.inl t_reducer_up))), (h_t_reducer_tied, .inr (10, [.ref h_t_reducer_tied_member, .ref h_t_reducer_tied_factor, .int t_reducer_tied_size])), (h_t_reducer_tied_member, .inl (cI, 4, .inl t_reducer_tied_member)), (h_t_reducer_tied_factor, .inl (cL, 4, .inr (.inl t_reducer_tied_factor)))])) (cQi dC dI (va_A [(h_t, .inr (11, [.ref h_t_cloud, .ref h_t_reader, .ref h_t_hull, .ref h_t_near, .ref h_t_firstTie, .ref h_t_reducer, .ref h_t_chooser, .ref h_t_pair, .ref h_t_divider, .ref h_t_depths, .ref h_t_spot])), (h_t_cloud, .inr (0, [.ref h_t_cloud_x, .ref h_t_cloud_y, .ref h_t_cloud_colour, .ref h_t_cloud_load, .int t_cloud_size, .int t_cloud_centreX, .int t_cloud_centreY])), (h_t_cloud_x, .inl (cI, 24, .inl t_cloud_x)), (h_t_cloud_y, .inl (cI, 24, .inl t_cloud_y)), (h_t_cloud_load, .inl (cI, 24, .inl t_cloud_load)), (h_t_reducer, .inr (9, [.ref h_t_reducer_up, .long t_reducer_lower, .int t_reducer_alive, .ref h_t_reducer_tied])), (h_t_reducer_up, .inl (cL, 24, .inr (.inl t_reducer_up))), (h_t_reducer_tied, .inr (10, [.ref h_t_reducer_tied_member, .ref h_t_reducer_tied_factor, .int t_reducer_tied_size])), (h_t_reducer_tied_member, .inl (cI, 4, .inl t_reducer_tied_member)), (h_t_reducer_tied_factor, .inl (cL, 4, .inr (.inl t_reducer_tied_factor)))] sz) o_r [(h_t, .inr (11, [.ref h_t_cloud, .ref h_t_reader, .ref h_t_hull, .ref h_t_near, .ref h_t_firstTie, .ref h_t_reducer, .ref h_t_chooser, .ref h_t_pair, .ref h_t_divider, .ref h_t_depths, .ref h_t_spot])), (h_t_cloud, .inr (0, [.ref h_t_cloud_x, .ref h_t_cloud_y, .ref h_t_cloud_colour, .ref h_t_cloud_load, .int t_cloud_size, .int t_cloud_centreX, .int t_cloud_centreY])), (h_t_cloud_x, .inl (cI, 24, .inl t_cloud_x)), (h_t_cloud_y, .inl (cI, 24, .inl t_cloud_y)), (h_t_cloud_load, .inl (cI, 24, .inl t_cloud_load)), (h_t_reducer, .inr (9, [.ref h_t_reducer_up, .long o_t_reducer_lower, .int o_t_reducer_alive, .ref h_t_reducer_tied])), (h_t_reducer_up, .inl (cL, 24, .inr (.inl o_t_reducer_up))), (h_t_reducer_tied, .inr (10, [.ref h_t_reducer_tied_member, .ref h_t_reducer_tied_factor, .int o_t_reducer_tied_size])), (h_t_reducer_tied_member, .inl (cI, 4, .inl o_t_reducer_tied_member)), (h_t_reducer_tied_factor, .inl (cL, 4, .inr (.inl o_t_reducer_tied_factor)))]) 0 0 (va_A [(h_t, .inr (11, [.ref h_t_cloud, .ref h_t_reader, .ref h_t_hull, .ref h_t_near, .ref h_t_firstTie, .ref h_t_reducer, .ref h_t_chooser, .ref h_t_pair, .ref h_t_divider, .ref h_t_depths, .ref h_t_spot])), (h_t_cloud, .inr (0, [.ref h_t_cloud_x, .ref h_t_cloud_y, .ref h_t_cloud_colour, .ref h_t_cloud_load, .int t_cloud_size, .int t_cloud_centreX, .int t_cloud_centreY])), (h_t_cloud_x, .inl (cI, 24, .inl t_cloud_x)), (h_t_cloud_y, .inl (cI, 24, .inl t_cloud_y)), (h_t_cloud_load, .inl (cI, 24, .inl t_cloud_load)), (h_t_reducer, .inr (9, [.ref h_t_reducer_up, .long t_reducer_lower, .int t_reducer_alive, .ref h_t_reducer_tied])), (h_t_reducer_up, .inl (cL, 24, .inr (.inl t_reducer_up))), (h_t_reducer_tied, .inr (10, [.ref h_t_reducer_tied_member, .ref h_t_reducer_tied_factor, .int t_reducer_tied_size])), (h_t_reducer_tied_member, .inl (cI, 4, .inl t_reducer_tied_member)), (h_t_reducer_tied_factor, .inl (cL, 4, .inr (.inl t_reducer_tied_factor)))] sz) := by
  refine Met.ofW (cc := cX11_left) (maxL := 3) (ret := (some .int)) (by decide) rfl ?_
  intro p e s m args below meth c s₁ B hml hv
  obtain ⟨rfl, hsz, hP, hK, hD0, hT⟩ := hv
  have hx := B.exec
  have hb := B.bytes
  have hr := B.returns
  have hown : s.vm.findClass RX11 = some m.cls := findClass_of_methodNamed B.named
  have hlocks := B.notSynchronized
  have hts := TB.use hT ([.ref h_t, .int a1] : List Value).toArray
  subst hsz
  have hD := hD0.self (sz := s.heap.size)
  generalize hAe : va_A [(h_t, .inr (11, [.ref h_t_cloud, .ref h_t_reader, .ref h_t_hull, .ref h_t_near, .ref h_t_firstTie, .ref h_t_reducer, .ref h_t_chooser, .ref h_t_pair, .ref h_t_divider, .ref h_t_depths, .ref h_t_spot])), (h_t_cloud, .inr (0, [.ref h_t_cloud_x, .ref h_t_cloud_y, .ref h_t_cloud_colour, .ref h_t_cloud_load, .int t_cloud_size, .int t_cloud_centreX, .int t_cloud_centreY])), (h_t_cloud_x, .inl (cI, 24, .inl t_cloud_x)), (h_t_cloud_y, .inl (cI, 24, .inl t_cloud_y)), (h_t_cloud_load, .inl (cI, 24, .inl t_cloud_load)), (h_t_reducer, .inr (9, [.ref h_t_reducer_up, .long t_reducer_lower, .int t_reducer_alive, .ref h_t_reducer_tied])), (h_t_reducer_up, .inl (cL, 24, .inr (.inl t_reducer_up))), (h_t_reducer_tied, .inr (10, [.ref h_t_reducer_tied_member, .ref h_t_reducer_tied_factor, .int t_reducer_tied_size])), (h_t_reducer_tied_member, .inl (cI, 4, .inl t_reducer_tied_member)), (h_t_reducer_tied_factor, .inl (cL, 4, .inr (.inl t_reducer_tied_factor)))] s.heap.size = A at hD ⊢
  have hA : ∀ q : Nat, s.heap.size ≤ q → A q := fun q h => by rw [← hAe]; exact Or.inr h
  clear hAe hD0
  have hl := lv_entry ([.ref h_t, .int a1]) (n := 3) (Nat.le_of_ble_eq_true rfl)
  rw [lg_entry_eq]
  generalize (lg_sl ([.ref h_t, .int a1]) ++ List.replicate (3 - (lg_sl ([.ref h_t, .int a1])).length) Slot.unset).toArray = ls at hl ⊢
  have hl : lv_has ls 3 [(0, .ref h_t), (1, .int a1)] := hl
  have hF : 5 ≤ (headSpec [Cond.code yX11_left cX11_left 3 (some .int)] ({ frames := 5, cells := 0, slots := 0, locals := 127 })).room.frames := Nat.le_refl _
  have hLo : 127 ≤ (headSpec [Cond.code yX11_left cX11_left 3 (some .int)] ({ frames := 5, cells := 0, slots := 0, locals := 127 })).room.locals := Nat.le_refl _
  have C0 : Sx p (headSpec [Cond.code yX11_left cX11_left 3 (some .int)] ({ frames := 5, cells := 0, slots := 0, locals := 127 })).room s m ([.ref h_t, .int a1] : List Value).toArray c cX11_left 3 RX11 A dC dI cI cL cB 5 127 := ⟨hx, hb, hml, hown, hts, hK, hT, hA, hF, hLo⟩
  refine startH (A := A) hP (fun H locs hP hS => ?_)
  rw [fX11_left] at hf
  refine lv_iload_n hx hb dX11_left_0 rfl (lv_at hl 1 rfl) ?_
  refine lv_if_ge (tgt := 7) hx hb dX11_left_1 (by decide) (fun hc => ?_) (fun hc => ?_)
  · replace hf := it_t (hc) hf
    refine lv_aload_n hx hb dX11_left_7 rfl (lv_at hl 0 rfl) ?_
    refine va_get (D := (dC, dI)) (ci := 11) (v := .ref h_t_reducer) (C := RX11) (T := TX11) (N := 11) hx hb hts in_X11 hown hK hP 0 rfl rfl 5 (Nat.le_of_ble_eq_true rfl) (hts _ qf_X11_49) (fun _ h9 => h9) rfl dX11_left_8 ?_
    refine lv_aload_n hx hb dX11_left_11 rfl (lv_at hl 0 rfl) ?_
    refine va_get (D := (dC, dI)) (ci := 11) (v := .ref h_t_cloud) (C := RX11) (T := TX11) (N := 11) hx hb hts in_X11 hown hK hP 0 rfl rfl 0 (Nat.le_of_ble_eq_true rfl) (hts _ qf_X11_12) (fun _ h9 => h9) rfl dX11_left_12 ?_
    obtain ⟨r_1, t_reducer_lower_2, t_reducer_alive_3, t_reducer_up_4, hq_5, hf⟩ := b4_some hf
    refine xci (wr := [(h_t, .inr (11, [.ref h_t_cloud, .ref h_t_reader, .ref h_t_hull, .ref h_t_near, .ref h_t_firstTie, .ref h_t_reducer, .ref h_t_chooser, .ref h_t_pair, .ref h_t_divider, .ref h_t_depths, .ref h_t_spot])), (h_t_cloud_x, .inl (cI, 24, .inl t_cloud_x)), (h_t_cloud_y, .inl (cI, 24, .inl t_cloud_y)), (h_t_reducer_tied, .inr (10, [.ref h_t_reducer_tied_member, .ref h_t_reducer_tied_factor, .int t_reducer_tied_size])), (h_t_reducer_tied_member, .inl (cI, 4, .inl t_reducer_tied_member)), (h_t_reducer_tied_factor, .inl (cL, 4, .inr (.inl t_reducer_tied_factor)))]) (w2 := [(h_t, .inr (11, [.ref h_t_cloud, .ref h_t_reader, .ref h_t_hull, .ref h_t_near, .ref h_t_firstTie, .ref h_t_reducer, .ref h_t_chooser, .ref h_t_pair, .ref h_t_divider, .ref h_t_depths, .ref h_t_spot])), (h_t_cloud, .inr (0, [.ref h_t_cloud_x, .ref h_t_cloud_y, .ref h_t_cloud_colour, .ref h_t_cloud_load, .int t_cloud_size, .int t_cloud_centreX, .int t_cloud_centreY])), (h_t_cloud_x, .inl (cI, 24, .inl t_cloud_x)), (h_t_cloud_y, .inl (cI, 24, .inl t_cloud_y)), (h_t_cloud_load, .inl (cI, 24, .inl t_cloud_load)), (h_t_reducer, .inr (9, [.ref h_t_reducer_up, .long t_reducer_lower_2, .int t_reducer_alive_3, .ref h_t_reducer_tied])), (h_t_reducer_up, .inl (cL, 24, .inr (.inl t_reducer_up_4))), (h_t_reducer_tied, .inr (10, [.ref h_t_reducer_tied_member, .ref h_t_reducer_tied_factor, .int t_reducer_tied_size])), (h_t_reducer_tied_member, .inl (cI, 4, .inl t_reducer_tied_member)), (h_t_reducer_tied_factor, .inl (cL, 4, .inr (.inl t_reducer_tied_factor)))]) (va_runV (As := [.ref h_t_cloud]) (rest := []) ⟨hx, hb, hml, hown, hts⟩ (mtX9_begin l dC dI cI cL cB K h_t_reducer h_t_reducer_up h_t_reducer_tied h_t_cloud h_t_cloud_x h_t_cloud_y h_t_cloud_colour h_t_cloud_load H.size t_reducer_lower t_reducer_alive t_reducer_up t_cloud_size t_cloud_centreX t_cloud_centreY t_cloud_load r_1 t_reducer_lower_2 t_reducer_alive_3 t_reducer_up_4 hq_5) (cwV 1 hts gv_X11_240 rfl rfl rfl hdV_X9_begin ⟨Nat.le_trans (Nat.le_of_ble_eq_true rfl) hF, Nat.le_trans (Nat.le_of_ble_eq_true rfl) hLo⟩) (cPreV hK hP hD hT [5, 6, 1, 4] rfl rfl (ci := 9) (q0 := 0) rfl rfl) rfl rfl hl.1 rfl (lv_room (Nat.le_of_ble_eq_true rfl)) dX11_left_15 ⟨Nat.zero_le _, Nat.zero_le _⟩) hP hD hS hA [5, 6, 1, 4] [0, 2, 3, 7, 8, 9] [0, 8, 1, 2, 9, 6, 7, 3, 4, 5] rfl rfl rfl rfl rfl rfl (fun H locs hP hD hS => ?_)
    refine lv_istore_n (lv' := [(2, .int r_1), (0, .ref h_t), (1, .int a1)]) hx hb dX11_left_18 rfl hl (Nat.le_of_ble_eq_true rfl) rfl (fun ls hl => ?_)
    refine lv_iload_n hx hb dX11_left_19 rfl (lv_at hl 0 rfl) ?_
    refine lv_if_eq (tgt := 25) hx hb dX11_left_20 (by decide) (fun hc => ?_) (fun hc => ?_)
    · replace hf := it_t (hc) hf
      refine lv_aload_n hx hb dX11_left_25 rfl (lv_at hl 1 rfl) ?_
      refine va_get (D := (dC, dI)) (ci := 11) (v := .ref h_t_reducer) (C := RX11) (T := TX11) (N := 11) hx hb hts in_X11 hown hK hP 0 rfl rfl 5 (Nat.le_of_ble_eq_true rfl) (hts _ qf_X11_49) (fun _ h9 => h9) rfl dX11_left_26 ?_
      refine lv_aload_n hx hb dX11_left_29 rfl (lv_at hl 1 rfl) ?_
      refine va_get (D := (dC, dI)) (ci := 11) (v := .ref h_t_cloud) (C := RX11) (T := TX11) (N := 11) hx hb hts in_X11 hown hK hP 0 rfl rfl 0 (Nat.le_of_ble_eq_true rfl) (hts _ qf_X11_12) (fun _ h9 => h9) rfl dX11_left_30 ?_
      refine lv_iload_n hx hb dX11_left_33 rfl (lv_at hl 2 rfl) ?_
      obtain ⟨r_6, t_reducer_lower_7, t_reducer_alive_8, t_reducer_up_9, t_reducer_tied_size_10, t_reducer_tied_member_11, t_reducer_tied_factor_12, hq_13, hf⟩ := b7_some hf
      refine xci (wr := [(h_t, .inr (11, [.ref h_t_cloud, .ref h_t_reader, .ref h_t_hull, .ref h_t_near, .ref h_t_firstTie, .ref h_t_reducer, .ref h_t_chooser, .ref h_t_pair, .ref h_t_divider, .ref h_t_depths, .ref h_t_spot])), (h_t_cloud_load, .inl (cI, 24, .inl t_cloud_load))]) (w2 := [(h_t, .inr (11, [.ref h_t_cloud, .ref h_t_reader, .ref h_t_hull, .ref h_t_near, .ref h_t_firstTie, .ref h_t_reducer, .ref h_t_chooser, .ref h_t_pair, .ref h_t_divider, .ref h_t_depths, .ref h_t_spot])), (h_t_cloud, .inr (0, [.ref h_t_cloud_x, .ref h_t_cloud_y, .ref h_t_cloud_colour, .ref h_t_cloud_load, .int t_cloud_size, .int t_cloud_centreX, .int t_cloud_centreY])), (h_t_cloud_x, .inl (cI, 24, .inl t_cloud_x)), (h_t_cloud_y, .inl (cI, 24, .inl t_cloud_y)), (h_t_cloud_load, .inl (cI, 24, .inl t_cloud_load)), (h_t_reducer, .inr (9, [.ref h_t_reducer_up, .long t_reducer_lower_7, .int t_reducer_alive_8, .ref h_t_reducer_tied])), (h_t_reducer_up, .inl (cL, 24, .inr (.inl t_reducer_up_9))), (h_t_reducer_tied, .inr (10, [.ref h_t_reducer_tied_member, .ref h_t_reducer_tied_factor, .int t_reducer_tied_size_10])), (h_t_reducer_tied_member, .inl (cI, 4, .inl t_reducer_tied_member_11)), (h_t_reducer_tied_factor, .inl (cL, 4, .inr (.inl t_reducer_tied_factor_12)))]) (va_runV (As := [.ref h_t_cloud, .int a1]) (rest := []) ⟨hx, hb, hml, hown, hts⟩ (mtX9_run l dC dI cI cL cB K h_t_reducer h_t_reducer_up h_t_reducer_tied h_t_reducer_tied_member h_t_reducer_tied_factor h_t_cloud h_t_cloud_x h_t_cloud_y h_t_cloud_colour h_t_cloud_load H.size t_reducer_lower_2 t_reducer_alive_3 t_reducer_up_4 t_reducer_tied_size t_reducer_tied_member t_reducer_tied_factor t_cloud_size t_cloud_centreX t_cloud_centreY t_cloud_x t_cloud_y a1 r_6 t_reducer_lower_7 t_reducer_alive_8 t_reducer_up_9 t_reducer_tied_size_10 t_reducer_tied_member_11 t_reducer_tied_factor_12 hq_13) (cwV 2 hts gv_X11_244 rfl rfl rfl hdV_X9_run ⟨Nat.le_trans (Nat.le_of_ble_eq_true rfl) hF, Nat.le_trans (Nat.le_of_ble_eq_true rfl) hLo⟩) (cPreV hK hP hD hT [5, 6, 7, 8, 9, 1, 2, 3] rfl rfl (ci := 9) (q0 := 0) rfl rfl) rfl rfl hl.1 rfl (lv_room (Nat.le_of_ble_eq_true rfl)) dX11_left_34 ⟨Nat.zero_le _, Nat.zero_le _⟩) hP hD hS hA [5, 6, 7, 8, 9, 1, 2, 3] [0, 4] [0, 7, 8, 9, 1, 2, 3, 4, 5, 6] rfl rfl rfl rfl rfl rfl (fun H locs hP hD hS => ?_)
      refine lv_iload_n hx hb dX11_left_37 rfl (lv_at hl 2 rfl) ?_
      refine lv_icmp_ne (tgt := 51) hx hb dX11_left_38 (by decide) (fun hc => ?_) (fun hc => ?_)
      · replace hf := it_f (hc) hf
        refine lv_bipush (v := (-2 : Int32)) hx hb dX11_left_51 (by decide) ?_
        obtain ⟨rfl, rfl, rfl, rfl, rfl, rfl, rfl⟩ := o7 hf
        exact W.iret hx hb hr (fun t ht hW => ⟨⟨_, (), rfl, rfl, by rw [ht]; exact hP, hD⟩, hS.F ht⟩) hS.2.2 dX11_left_53
      · replace hf := it_t (hc) hf
        refine lv_aload_n hx hb dX11_left_41 rfl (lv_at hl 1 rfl) ?_
        refine va_get (D := (dC, dI)) (ci := 11) (v := .ref h_t_reducer) (C := RX11) (T := TX11) (N := 11) hx hb hts in_X11 hown hK hP 0 rfl rfl 5 (Nat.le_of_ble_eq_true rfl) (hts _ qf_X11_49) (fun _ h9 => h9) rfl dX11_left_42 ?_
        refine va_get (D := (dC, dI)) (ci := 9) (v := .int t_reducer_alive_8) (C := RX9) (T := TX9) (N := 4) hx hb hts in_X9 hown hK hP 5 rfl rfl 2 (Nat.le_of_ble_eq_true rfl) (hts _ qf_X11_253) (fun _ h9 => h9) rfl dX11_left_45 ?_
        refine lv_goto (tgt := 53) hx hb dX11_left_48 (by decide) ?_
        obtain ⟨rfl, rfl, rfl, rfl, rfl, rfl, rfl⟩ := o7 hf
        exact W.iret hx hb hr (fun t ht hW => ⟨⟨_, (), rfl, rfl, by rw [ht]; exact hP, hD⟩, hS.F ht⟩) hS.2.2 dX11_left_53
    · replace hf := it_f (hc) hf
      refine lv_iload_n hx hb dX11_left_23 rfl (lv_at hl 0 rfl) ?_
      obtain ⟨rfl, rfl, rfl, rfl, rfl, rfl, rfl⟩ := o7 hf
      exact W.iret hx hb hr (fun t ht hW => ⟨⟨_, (), rfl, rfl, by rw [ht]; exact hP, hD⟩, hS.F ht⟩) hS.2.2 dX11_left_24
  · replace hf := it_f (hc) hf
    refine lv_bipush (v := (-2 : Int32)) hx hb dX11_left_4 (by decide) ?_
    obtain ⟨rfl, rfl, rfl, rfl, rfl, rfl, rfl⟩ := o7 hf
    exact W.iret hx hb hr (fun t ht hW => ⟨⟨_, (), rfl, rfl, by rw [ht]; exact hP, hD⟩, hS.F ht⟩) hS.2.2 dX11_left_6
theorem dX7_following_0 : decode cX7_following 0 = .ok (.iload_n 2, 1) := by decide +kernel
theorem dX7_following_1 : decode cX7_following 1 = .ok (.iconst 1, 1) := by decide +kernel
theorem dX7_following_2 : decode cX7_following 2 = .ok (.iadd, 1) := by decide +kernel
theorem dX7_following_3 : decode cX7_following 3 = .ok (.istore_n 3, 1) := by decide +kernel
theorem dX7_following_4 : decode cX7_following 4 = .ok (.iload_n 3, 1) := by decide +kernel
theorem dX7_following_5 : decode cX7_following 5 = .ok (.aload_n 0, 1) := by decide +kernel
theorem dX7_following_6 : decode cX7_following 6 = .ok (.getfield 26, 3) := by decide +kernel
theorem dX7_following_9 : decode cX7_following 9 = .ok (.if_icmp .ge 19, 3) := by decide +kernel
theorem dX7_following_12 : decode cX7_following 12 = .ok (.aload_n 0, 1) := by decide +kernel
theorem dX7_following_13 : decode cX7_following 13 = .ok (.getfield 32, 3) := by decide +kernel
theorem dX7_following_16 : decode cX7_following 16 = .ok (.iload_n 3, 1) := by decide +kernel
theorem dX7_following_17 : decode cX7_following 17 = .ok (.iaload, 1) := by decide +kernel
theorem dX7_following_18 : decode cX7_following 18 = .ok (.iload_n 1, 1) := by decide +kernel
theorem dX7_following_19 : decode cX7_following 19 = .ok (.if_icmp .eq 9, 3) := by decide +kernel
theorem dX7_following_22 : decode cX7_following 22 = .ok (.iinc 3 1, 3) := by decide +kernel
theorem dX7_following_25 : decode cX7_following 25 = .ok (.goto (-21), 3) := by decide +kernel
theorem dX7_following_28 : decode cX7_following 28 = .ok (.iload_n 3, 1) := by decide +kernel
theorem dX7_following_29 : decode cX7_following 29 = .ok (.ireturn, 1) := by decide +kernel
set_option maxRecDepth 100000 in
set_option maxHeartbeats 4000000 in
theorem wX7_following_L4 {p : Program} {l : Launch} {e : Env} {R : Room} {s : State} {m : MethodId} {args : Array Value} {below : List Frame} {meth : Method} {c : Code} {Q : State → Prop} {A : Nat → Prop} {dC : Nat → ClassId} {dI : Nat → Nat → Nat} {cI cL cB : ClassId} {K : Nat} (C0 : Sx p R s m args c cX7_following 4 RX7 A dC dI cI cL cB 0 0) (h_p0 h_p0_x h_p0_y h_p0_colour h_p0_load : Nat) (p0_size : Int32) (p0_centreX : Int32) (p0_centreY : Int32) (p0_colour : Nat → Int32) (l1 : Int32) : ∀ (n : Nat) (l3 : Int32) (x3_ : Int32) (H : Heap) (locs : List Loc) (ls : Array Slot), va_P (dC, dI) vwCl [(h_p0, .inr (0, [.ref h_p0_x, .ref h_p0_y, .ref h_p0_colour, .ref h_p0_load, .int p0_size, .int p0_centreX, .int p0_centreY])), (h_p0_colour, .inl (cI, 24, .inl p0_colour))] H → va_D A [(h_p0, .inr (0, [.ref h_p0_x, .ref h_p0_y, .ref h_p0_colour, .ref h_p0_load, .int p0_size, .int p0_centreX, .int p0_centreY])), (h_p0_colour, .inl (cI, 24, .inl p0_colour))] → va_S A s.heap H locs → lv_has ls 4 [(0, .ref h_p0), (1, .int l1), (3, .int l3)] → fX7_following_L4 K l1 p0_size p0_colour n l3 = some x3_ → (∀ (H : Heap) (locs : List Loc) (ls : Array Slot), va_P (dC, dI) vwCl [(h_p0, .inr (0, [.ref h_p0_x, .ref h_p0_y, .ref h_p0_colour, .ref h_p0_load, .int p0_size, .int p0_centreX, .int p0_centreY])), (h_p0_colour, .inl (cI, 24, .inl p0_colour))] H → va_D A [(h_p0, .inr (0, [.ref h_p0_x, .ref h_p0_y, .ref h_p0_colour, .ref h_p0_load, .int p0_size, .int p0_centreX, .int p0_centreY])), (h_p0_colour, .inl (cI, 24, .inl p0_colour))] → va_S A s.heap H locs → lv_has ls 4 [(3, .int x3_)] → W p l e R s m args below meth c H locs 0 0 Q (F0 m 28 ls [])) → W p l e R s m args below meth c H locs 0 0 Q (F0 m 4 ls []) := by
  obtain ⟨hx, hb, hml, hown, hts, hK, hT, hA, hF, hLo⟩ := id C0
  intro n
  induction n with
  | zero =>
    intro l3 x3_ H locs ls hP hD hS hl hf
    rw [fX7_following_L4] at hf
    cases hf
  | succ n ih =>
    intro l3 x3_ H locs ls hP hD hS hl hf hk
    rw [fX7_following_L4] at hf
    refine lv_iload_n hx hb dX7_following_4 rfl (lv_at hl 2 rfl) ?_
    refine lv_aload_n hx hb dX7_following_5 rfl (lv_at hl 0 rfl) ?_
    refine va_get (D := (dC, dI)) (ci := 0) (v := .int p0_size) (C := RX0) (T := TX0) (N := 7) hx hb hts in_X0 hown hK hP 0 rfl rfl 4 (Nat.le_of_ble_eq_true rfl) (hts _ qf_X7_26) (fun _ h9 => h9) rfl dX7_following_6 ?_
    refine lv_icmp_ge (tgt := 28) hx hb dX7_following_9 (by decide) (fun hc => ?_) (fun hc => ?_)
    · replace hf := it_t (hc) hf
      obtain rfl := o1 hf
      exact hk H locs ls hP hD hS (lv_sub hl [2] rfl)
    · replace hf := it_f (hc) hf
      refine lv_aload_n hx hb dX7_following_12 rfl (lv_at hl 0 rfl) ?_
      refine va_get (D := (dC, dI)) (ci := 0) (v := .ref h_p0_colour) (C := RX0) (T := TX0) (N := 7) hx hb hts in_X0 hown hK hP 0 rfl rfl 2 (Nat.le_of_ble_eq_true rfl) (hts _ qf_X7_32) (fun _ h9 => h9) rfl dX7_following_13 ?_
      refine lv_iload_n hx hb dX7_following_16 rfl (lv_at hl 2 rfl) ?_
      obtain ⟨hg_2, hf⟩ := gd_some hf
      refine va_iald hx hb hK hP 1 0 rfl rfl (inb_in hg_2) dX7_following_17 ?_
      refine lv_iload_n hx hb dX7_following_18 rfl (lv_at hl 1 rfl) ?_
      refine lv_icmp_eq (tgt := 28) hx hb dX7_following_19 (by decide) (fun hc => ?_) (fun hc => ?_)
      · replace hf := it_t (hc) hf
        obtain rfl := o1 hf
        exact hk H locs ls hP hD hS (lv_sub hl [2] rfl)
      · replace hf := it_f (hc) hf
        obtain ⟨l3_3, el3_3⟩ : ∃ y : Int32, y = l3 + (1 : Int32) := ⟨_, rfl⟩
        replace hf := xl_at hf el3_3
        refine lv_iinc (v := l3_3) (lv' := [(3, .int l3_3), (0, .ref h_p0), (1, .int l1)]) hx hb dX7_following_22 hl (k := 2) rfl (by rw [el3_3]; rfl) (Nat.le_of_ble_eq_true rfl) rfl (fun ls hl => ?_)
        refine lv_goto (tgt := 4) hx hb dX7_following_25 (by decide) ?_
        exact ih l3_3 _ H locs ls hP hD hS (lv_sub hl [1, 2, 0] rfl) hf hk
set_option maxRecDepth 100000 in
set_option maxHeartbeats 4000000 in
theorem mtX7_following (l : Launch) (dC : Nat → ClassId) (dI : Nat → Nat → Nat) (cI cL cB : ClassId) (K : Nat) (h_p0 h_p0_x h_p0_y h_p0_colour h_p0_load : Nat) (sz : Nat) (p0_size : Int32) (p0_centreX : Int32) (p0_centreY : Int32) (p0_colour : Nat → Int32) (a1 : Int32) (a2 : Int32) (o_r : Int32) (hf : fX7_following K p0_size p0_colour a1 a2 = some o_r) : Met l yX7_following [Cond.code yX7_following cX7_following 4 (some .int)] ({ frames := 0, cells := 0, slots := 0, locals := 0 }) (va_Pc [.ref h_p0, .int a1, .int a2] (cPre dC dI cI cL cB sz [(h_p0, .inr (0, [.ref h_p0_x, .ref h_p0_y, .ref h_p0_colour, .ref h_p0_load, .int p0_size, .int p0_centreX, .int p0_centreY])), (h_p0_colour, .inl (cI, 24, .inl p0_colour))])) (cQi dC dI (va_A [(h_p0, .inr (0, [.ref h_p0_x, .ref h_p0_y, .ref h_p0_colour, .ref h_p0_load, .int p0_size, .int p0_centreX, .int p0_centreY])), (h_p0_colour, .inl (cI, 24, .inl p0_colour))] sz) o_r [(h_p0, .inr (0, [.ref h_p0_x, .ref h_p0_y, .ref h_p0_colour, .ref h_p0_load, .int p0_size, .int p0_centreX, .int p0_centreY])), (h_p0_colour, .inl (cI, 24, .inl p0_colour))]) 0 0 (va_A [(h_p0, .inr (0, [.ref h_p0_x, .ref h_p0_y, .ref h_p0_colour, .ref h_p0_load, .int p0_size, .int p0_centreX, .int p0_centreY])), (h_p0_colour, .inl (cI, 24, .inl p0_colour))] sz) := by
  refine Met.ofW (cc := cX7_following) (maxL := 4) (ret := (some .int)) (by decide) rfl ?_
  intro p e s m args below meth c s₁ B hml hv
  obtain ⟨rfl, hsz, hP, hK, hD0, hT⟩ := hv
  have hx := B.exec
  have hb := B.bytes
  have hr := B.returns
  have hown : s.vm.findClass RX7 = some m.cls := findClass_of_methodNamed B.named
  have hlocks := B.notSynchronized
  have hts := TB.use hT ([.ref h_p0, .int a1, .int a2] : List Value).toArray
  subst hsz
  have hD := hD0.self (sz := s.heap.size)
  generalize hAe : va_A [(h_p0, .inr (0, [.ref h_p0_x, .ref h_p0_y, .ref h_p0_colour, .ref h_p0_load, .int p0_size, .int p0_centreX, .int p0_centreY])), (h_p0_colour, .inl (cI, 24, .inl p0_colour))] s.heap.size = A at hD ⊢
  have hA : ∀ q : Nat, s.heap.size ≤ q → A q := fun q h => by rw [← hAe]; exact Or.inr h
  clear hAe hD0
  have hl := lv_entry ([.ref h_p0, .int a1, .int a2]) (n := 4) (Nat.le_of_ble_eq_true rfl)
  rw [lg_entry_eq]
  generalize (lg_sl ([.ref h_p0, .int a1, .int a2]) ++ List.replicate (4 - (lg_sl ([.ref h_p0, .int a1, .int a2])).length) Slot.unset).toArray = ls at hl ⊢
  have hl : lv_has ls 4 [(0, .ref h_p0), (1, .int a1), (2, .int a2)] := hl
  have hF : 0 ≤ (headSpec [Cond.code yX7_following cX7_following 4 (some .int)] ({ frames := 0, cells := 0, slots := 0, locals := 0 })).room.frames := Nat.le_refl _
  have hLo : 0 ≤ (headSpec [Cond.code yX7_following cX7_following 4 (some .int)] ({ frames := 0, cells := 0, slots := 0, locals := 0 })).room.locals := Nat.le_refl _
  have C0 : Sx p (headSpec [Cond.code yX7_following cX7_following 4 (some .int)] ({ frames := 0, cells := 0, slots := 0, locals := 0 })).room s m ([.ref h_p0, .int a1, .int a2] : List Value).toArray c cX7_following 4 RX7 A dC dI cI cL cB 0 0 := ⟨hx, hb, hml, hown, hts, hK, hT, hA, hF, hLo⟩
  refine startH (A := A) hP (fun H locs hP hS => ?_)
  rw [fX7_following] at hf
  refine lv_iload_n hx hb dX7_following_0 rfl (lv_at hl 2 rfl) ?_
  refine lv_iconst (v := (1 : Int32)) hx hb dX7_following_1 (by decide) ?_
  refine lv_iadd hx hb dX7_following_2 ?_
  refine lv_topi (fun l3_1 el3_1 => ?_)
  replace hf := xl_at hf el3_1
  refine lv_istore_n (lv' := [(3, .int l3_1), (0, .ref h_p0), (1, .int a1), (2, .int a2)]) hx hb dX7_following_3 rfl hl (Nat.le_of_ble_eq_true rfl) rfl (fun ls hl => ?_)
  obtain ⟨l3_5, hq_4, hf⟩ := b1_some hf
  refine wX7_following_L4 C0 h_p0 h_p0_x h_p0_y h_p0_colour h_p0_load p0_size p0_centreX p0_centreY p0_colour a1 K l3_1 l3_5 H locs ls hP hD hS (lv_sub hl [1, 2, 0] rfl) hq_4 ?_
  intro H locs ls hP hD hS hl
  refine lv_iload_n hx hb dX7_following_28 rfl (lv_at hl 0 rfl) ?_
  obtain rfl := o1 hf
  exact W.iret hx hb hr (fun t ht hW => ⟨⟨_, (), rfl, rfl, by rw [ht]; exact hP, hD⟩, hS.F ht⟩) hS.2.2 dX7_following_29
theorem dX7_chooseFirst_0 : decode cX7_chooseFirst 0 = .ok (.iconst 0, 1) := by decide +kernel
theorem dX7_chooseFirst_1 : decode cX7_chooseFirst 1 = .ok (.istore_n 2, 1) := by decide +kernel
theorem dX7_chooseFirst_2 : decode cX7_chooseFirst 2 = .ok (.iload_n 2, 1) := by decide +kernel
theorem dX7_chooseFirst_3 : decode cX7_chooseFirst 3 = .ok (.iconst 3, 1) := by decide +kernel
theorem dX7_chooseFirst_4 : decode cX7_chooseFirst 4 = .ok (.if_icmp .ge 36, 3) := by decide +kernel
theorem dX7_chooseFirst_7 : decode cX7_chooseFirst 7 = .ok (.aload_n 0, 1) := by decide +kernel
theorem dX7_chooseFirst_8 : decode cX7_chooseFirst 8 = .ok (.getfield 9, 3) := by decide +kernel
theorem dX7_chooseFirst_11 : decode cX7_chooseFirst 11 = .ok (.iload_n 2, 1) := by decide +kernel
theorem dX7_chooseFirst_12 : decode cX7_chooseFirst 12 = .ok (.aload_n 1, 1) := by decide +kernel
theorem dX7_chooseFirst_13 : decode cX7_chooseFirst 13 = .ok (.iload_n 2, 1) := by decide +kernel
theorem dX7_chooseFirst_14 : decode cX7_chooseFirst 14 = .ok (.iconst (-1), 1) := by decide +kernel
theorem dX7_chooseFirst_15 : decode cX7_chooseFirst 15 = .ok (.invokestatic 35, 3) := by decide +kernel
theorem dX7_chooseFirst_18 : decode cX7_chooseFirst 18 = .ok (.iastore, 1) := by decide +kernel
theorem dX7_chooseFirst_19 : decode cX7_chooseFirst 19 = .ok (.aload_n 0, 1) := by decide +kernel
theorem dX7_chooseFirst_20 : decode cX7_chooseFirst 20 = .ok (.getfield 9, 3) := by decide +kernel
theorem dX7_chooseFirst_23 : decode cX7_chooseFirst 23 = .ok (.iload_n 2, 1) := by decide +kernel
theorem dX7_chooseFirst_24 : decode cX7_chooseFirst 24 = .ok (.iaload, 1) := by decide +kernel
theorem dX7_chooseFirst_25 : decode cX7_chooseFirst 25 = .ok (.aload_n 1, 1) := by decide +kernel
theorem dX7_chooseFirst_26 : decode cX7_chooseFirst 26 = .ok (.getfield 26, 3) := by decide +kernel
theorem dX7_chooseFirst_29 : decode cX7_chooseFirst 29 = .ok (.if_icmp .lt 5, 3) := by decide +kernel
theorem dX7_chooseFirst_32 : decode cX7_chooseFirst 32 = .ok (.iconst 0, 1) := by decide +kernel
theorem dX7_chooseFirst_33 : decode cX7_chooseFirst 33 = .ok (.ireturn, 1) := by decide +kernel
theorem dX7_chooseFirst_34 : decode cX7_chooseFirst 34 = .ok (.iinc 2 1, 3) := by decide +kernel
theorem dX7_chooseFirst_37 : decode cX7_chooseFirst 37 = .ok (.goto (-35), 3) := by decide +kernel
theorem dX7_chooseFirst_40 : decode cX7_chooseFirst 40 = .ok (.iconst 1, 1) := by decide +kernel
theorem dX7_chooseFirst_41 : decode cX7_chooseFirst 41 = .ok (.ireturn, 1) := by decide +kernel
set_option maxRecDepth 100000 in
set_option maxHeartbeats 4000000 in
theorem wX7_chooseFirst_L2 {p : Program} {l : Launch} {e : Env} {R : Room} {s : State} {m : MethodId} {args : Array Value} {below : List Frame} {meth : Method} {c : Code} {Q : State → Prop} {A : Nat → Prop} {dC : Nat → ClassId} {dI : Nat → Nat → Nat} {cI cL cB : ClassId} {K : Nat} (C0 : Sx p R s m args c cX7_chooseFirst 3 RX7 A dC dI cI cL cB 1 23) (h_t h_t_chosen h_t_mixed h_t_near h_p1 h_p1_x h_p1_y h_p1_colour h_p1_load : Nat) (t_gone : Int32) (t_stuck : Int32) (t_longest : Int32) (t_side : Int32) (p1_size : Int32) (p1_centreX : Int32) (p1_centreY : Int32) (p1_colour : Nat → Int32) : ∀ (n : Nat) (l2 : Int32) (t_chosen : Nat → Int32) (ex : ((Nat → Int32)) ⊕ ((Nat → Int32))) (H : Heap) (locs : List Loc) (ls : Array Slot), va_P (dC, dI) vwCl [(h_t, .inr (7, [.ref h_t_chosen, .ref h_t_mixed, .ref h_t_near, .int t_gone, .int t_stuck, .int t_longest, .int t_side])), (h_t_chosen, .inl (cI, 3, .inl t_chosen)), (h_p1, .inr (0, [.ref h_p1_x, .ref h_p1_y, .ref h_p1_colour, .ref h_p1_load, .int p1_size, .int p1_centreX, .int p1_centreY])), (h_p1_colour, .inl (cI, 24, .inl p1_colour))] H → va_D A [(h_t, .inr (7, [.ref h_t_chosen, .ref h_t_mixed, .ref h_t_near, .int t_gone, .int t_stuck, .int t_longest, .int t_side])), (h_t_chosen, .inl (cI, 3, .inl t_chosen)), (h_p1, .inr (0, [.ref h_p1_x, .ref h_p1_y, .ref h_p1_colour, .ref h_p1_load, .int p1_size, .int p1_centreX, .int p1_centreY])), (h_p1_colour, .inl (cI, 24, .inl p1_colour))] → va_S A s.heap H locs → lv_has ls 3 [(0, .ref h_t), (1, .ref h_p1), (2, .int l2)] → fX7_chooseFirst_L2 K p1_size p1_colour n l2 t_chosen = some ex → (∀ (x_t_chosen : Nat → Int32), ex = (.inl x_t_chosen) → ∀ (H : Heap) (locs : List Loc) (ls : Array Slot), va_P (dC, dI) vwCl [(h_t, .inr (7, [.ref h_t_chosen, .ref h_t_mixed, .ref h_t_near, .int t_gone, .int t_stuck, .int t_longest, .int t_side])), (h_t_chosen, .inl (cI, 3, .inl x_t_chosen)), (h_p1, .inr (0, [.ref h_p1_x, .ref h_p1_y, .ref h_p1_colour, .ref h_p1_load, .int p1_size, .int p1_centreX, .int p1_centreY])), (h_p1_colour, .inl (cI, 24, .inl p1_colour))] H → va_D A [(h_t, .inr (7, [.ref h_t_chosen, .ref h_t_mixed, .ref h_t_near, .int t_gone, .int t_stuck, .int t_longest, .int t_side])), (h_t_chosen, .inl (cI, 3, .inl x_t_chosen)), (h_p1, .inr (0, [.ref h_p1_x, .ref h_p1_y, .ref h_p1_colour, .ref h_p1_load, .int p1_size, .int p1_centreX, .int p1_centreY])), (h_p1_colour, .inl (cI, 24, .inl p1_colour))] → va_S A s.heap H locs → lv_has ls 3 [] → W p l e R s m args below meth c H locs 0 0 Q (F0 m 32 ls [])) → (∀ (x_t_chosen : Nat → Int32), ex = (.inr x_t_chosen) → ∀ (H : Heap) (locs : List Loc) (ls : Array Slot), va_P (dC, dI) vwCl [(h_t, .inr (7, [.ref h_t_chosen, .ref h_t_mixed, .ref h_t_near, .int t_gone, .int t_stuck, .int t_longest, .int t_side])), (h_t_chosen, .inl (cI, 3, .inl x_t_chosen)), (h_p1, .inr (0, [.ref h_p1_x, .ref h_p1_y, .ref h_p1_colour, .ref h_p1_load, .int p1_size, .int p1_centreX, .int p1_centreY])), (h_p1_colour, .inl (cI, 24, .inl p1_colour))] H → va_D A [(h_t, .inr (7, [.ref h_t_chosen, .ref h_t_mixed, .ref h_t_near, .int t_gone, .int t_stuck, .int t_longest, .int t_side])), (h_t_chosen, .inl (cI, 3, .inl x_t_chosen)), (h_p1, .inr (0, [.ref h_p1_x, .ref h_p1_y, .ref h_p1_colour, .ref h_p1_load, .int p1_size, .int p1_centreX, .int p1_centreY])), (h_p1_colour, .inl (cI, 24, .inl p1_colour))] → va_S A s.heap H locs → lv_has ls 3 [] → W p l e R s m args below meth c H locs 0 0 Q (F0 m 40 ls [])) → W p l e R s m args below meth c H locs 0 0 Q (F0 m 2 ls []) := by
  obtain ⟨hx, hb, hml, hown, hts, hK, hT, hA, hF, hLo⟩ := id C0
  intro n
  induction n with
  | zero =>
    intro l2 t_chosen ex H locs ls hP hD hS hl hf
    rw [fX7_chooseFirst_L2] at hf
    cases hf
  | succ n ih =>
    intro l2 t_chosen ex H locs ls hP hD hS hl hf hk0 hk1
    rw [fX7_chooseFirst_L2] at hf
    refine lv_iload_n hx hb dX7_chooseFirst_2 rfl (lv_at hl 2 rfl) ?_
    refine lv_iconst (v := (3 : Int32)) hx hb dX7_chooseFirst_3 (by decide) ?_
    refine lv_icmp_ge (tgt := 40) hx hb dX7_chooseFirst_4 (by decide) (fun hc => ?_) (fun hc => ?_)
    · replace hf := it_t (hc) hf
      exact hk1 t_chosen (Option.some.inj hf).symm H locs ls hP hD hS (lv_sub hl [] rfl)
    · replace hf := it_f (hc) hf
      refine lv_aload_n hx hb dX7_chooseFirst_7 rfl (lv_at hl 0 rfl) ?_
      refine va_get (D := (dC, dI)) (ci := 7) (v := .ref h_t_chosen) (C := RX7) (T := TX7) (N := 7) hx hb hts in_X7 hown hK hP 0 rfl rfl 0 (Nat.le_of_ble_eq_true rfl) (hts _ qf_X7_9) (fun _ h9 => h9) rfl dX7_chooseFirst_8 ?_
      refine lv_iload_n hx hb dX7_chooseFirst_11 rfl (lv_at hl 2 rfl) ?_
      refine lv_aload_n hx hb dX7_chooseFirst_12 rfl (lv_at hl 1 rfl) ?_
      refine lv_iload_n hx hb dX7_chooseFirst_13 rfl (lv_at hl 2 rfl) ?_
      refine lv_iconst (v := (-1 : Int32)) hx hb dX7_chooseFirst_14 (by decide) ?_
      obtain ⟨r_1, hq_2, hf⟩ := b1_some hf
      refine xci (wr := [(h_t, .inr (7, [.ref h_t_chosen, .ref h_t_mixed, .ref h_t_near, .int t_gone, .int t_stuck, .int t_longest, .int t_side])), (h_t_chosen, .inl (cI, 3, .inl t_chosen))]) (w2 := [(h_t, .inr (7, [.ref h_t_chosen, .ref h_t_mixed, .ref h_t_near, .int t_gone, .int t_stuck, .int t_longest, .int t_side])), (h_t_chosen, .inl (cI, 3, .inl t_chosen)), (h_p1, .inr (0, [.ref h_p1_x, .ref h_p1_y, .ref h_p1_colour, .ref h_p1_load, .int p1_size, .int p1_centreX, .int p1_centreY])), (h_p1_colour, .inl (cI, 24, .inl p1_colour))]) (va_runS (As := [.ref h_p1, .int l2, .int (-1 : Int32)]) (rest := [.int l2, .ref h_t_chosen]) ⟨hx, hb, hml, hown, hts⟩ (mtX7_following l dC dI cI cL cB K h_p1 h_p1_x h_p1_y h_p1_colour h_p1_load H.size p1_size p1_centreX p1_centreY p1_colour l2 (-1 : Int32) r_1 hq_2) (va_cwS 3 hts gs_X7_35 rfl rfl rfl hdS_X7_following ⟨Nat.le_trans (Nat.le_of_ble_eq_true rfl) hF, Nat.le_trans (Nat.le_of_ble_eq_true rfl) hLo⟩) (cPreS hK hP hD hT [2, 3] rfl rfl) rfl rfl hl.1 rfl (lv_room (Nat.le_of_ble_eq_true rfl)) dX7_chooseFirst_15 ⟨Nat.zero_le _, Nat.zero_le _⟩) hP hD hS hA [2, 3] [0, 1] [0, 1, 2, 3] rfl rfl rfl rfl rfl rfl (fun H locs hP hD hS => ?_)
      obtain ⟨hg_3, hf⟩ := gd_some hf
      obtain ⟨t_chosen_4, et_chosen_4⟩ : ∃ y : Nat → Int32, y = upd t_chosen l2.toNatClampNeg r_1 := ⟨_, rfl⟩
      replace hf := xl_at hf et_chosen_4
      refine xiast (w2 := [(h_t, .inr (7, [.ref h_t_chosen, .ref h_t_mixed, .ref h_t_near, .int t_gone, .int t_stuck, .int t_longest, .int t_side])), (h_t_chosen, .inl (cI, 3, .inl t_chosen_4)), (h_p1, .inr (0, [.ref h_p1_x, .ref h_p1_y, .ref h_p1_colour, .ref h_p1_load, .int p1_size, .int p1_centreX, .int p1_centreY])), (h_p1_colour, .inl (cI, 24, .inl p1_colour))]) hx hb hK hP hD hS 1 0 rfl rfl (inb_in hg_3) et_chosen_4 rfl dX7_chooseFirst_18 (fun H locs hP hD hS => ?_)
      refine lv_aload_n hx hb dX7_chooseFirst_19 rfl (lv_at hl 0 rfl) ?_
      refine va_get (D := (dC, dI)) (ci := 7) (v := .ref h_t_chosen) (C := RX7) (T := TX7) (N := 7) hx hb hts in_X7 hown hK hP 0 rfl rfl 0 (Nat.le_of_ble_eq_true rfl) (hts _ qf_X7_9) (fun _ h9 => h9) rfl dX7_chooseFirst_20 ?_
      refine lv_iload_n hx hb dX7_chooseFirst_23 rfl (lv_at hl 2 rfl) ?_
      obtain ⟨hg_5, hf⟩ := gd_some hf
      refine va_iald hx hb hK hP 1 0 rfl rfl (inb_in hg_5) dX7_chooseFirst_24 ?_
      refine lv_aload_n hx hb dX7_chooseFirst_25 rfl (lv_at hl 1 rfl) ?_
      refine va_get (D := (dC, dI)) (ci := 0) (v := .int p1_size) (C := RX0) (T := TX0) (N := 7) hx hb hts in_X0 hown hK hP 2 rfl rfl 4 (Nat.le_of_ble_eq_true rfl) (hts _ qf_X7_26) (fun _ h9 => h9) rfl dX7_chooseFirst_26 ?_
      refine lv_icmp_lt (tgt := 34) hx hb dX7_chooseFirst_29 (by decide) (fun hc => ?_) (fun hc => ?_)
      · replace hf := it_t (hc) hf
        obtain ⟨l2_6, el2_6⟩ : ∃ y : Int32, y = l2 + (1 : Int32) := ⟨_, rfl⟩
        replace hf := xl_at hf el2_6
        refine lv_iinc (v := l2_6) (lv' := [(2, .int l2_6), (0, .ref h_t), (1, .ref h_p1)]) hx hb dX7_chooseFirst_34 hl (k := 2) rfl (by rw [el2_6]; rfl) (Nat.le_of_ble_eq_true rfl) rfl (fun ls hl => ?_)
        refine lv_goto (tgt := 2) hx hb dX7_chooseFirst_37 (by decide) ?_
        exact ih l2_6 t_chosen_4 _ H locs ls hP hD hS (lv_sub hl [1, 2, 0] rfl) hf hk0 hk1
      · replace hf := it_f (hc) hf
        exact hk0 t_chosen_4 (Option.some.inj hf).symm H locs ls hP hD hS (lv_sub hl [] rfl)
set_option maxRecDepth 100000 in
set_option maxHeartbeats 4000000 in
theorem mtX7_chooseFirst (l : Launch) (dC : Nat → ClassId) (dI : Nat → Nat → Nat) (cI cL cB : ClassId) (K : Nat) (h_t h_t_chosen h_t_mixed h_t_near h_p1 h_p1_x h_p1_y h_p1_colour h_p1_load : Nat) (sz : Nat) (t_gone : Int32) (t_stuck : Int32) (t_longest : Int32) (t_side : Int32) (t_chosen : Nat → Int32) (p1_size : Int32) (p1_centreX : Int32) (p1_centreY : Int32) (p1_colour : Nat → Int32) (o_r : Int32) (o_t_chosen : Nat → Int32) (hf : fX7_chooseFirst K t_chosen p1_size p1_colour = some (o_r, o_t_chosen)) : Met l yX7_chooseFirst [Cond.code yX7_chooseFirst cX7_chooseFirst 3 (some .boolean)] ({ frames := 1, cells := 0, slots := 0, locals := 23 }) (va_Pc [.ref h_t, .ref h_p1] (cPre dC dI cI cL cB sz [(h_t, .inr (7, [.ref h_t_chosen, .ref h_t_mixed, .ref h_t_near, .int t_gone, .int t_stuck, .int t_longest, .int t_side])), (h_t_chosen, .inl (cI, 3, .inl t_chosen)), (h_p1, .inr (0, [.ref h_p1_x, .ref h_p1_y, .ref h_p1_colour, .ref h_p1_load, .int p1_size, .int p1_centreX, .int p1_centreY])), (h_p1_colour, .inl (cI, 24, .inl p1_colour))])) (cQi dC dI (va_A [(h_t, .inr (7, [.ref h_t_chosen, .ref h_t_mixed, .ref h_t_near, .int t_gone, .int t_stuck, .int t_longest, .int t_side])), (h_t_chosen, .inl (cI, 3, .inl t_chosen)), (h_p1, .inr (0, [.ref h_p1_x, .ref h_p1_y, .ref h_p1_colour, .ref h_p1_load, .int p1_size, .int p1_centreX, .int p1_centreY])), (h_p1_colour, .inl (cI, 24, .inl p1_colour))] sz) o_r [(h_t, .inr (7, [.ref h_t_chosen, .ref h_t_mixed, .ref h_t_near, .int t_gone, .int t_stuck, .int t_longest, .int t_side])), (h_t_chosen, .inl (cI, 3, .inl o_t_chosen)), (h_p1, .inr (0, [.ref h_p1_x, .ref h_p1_y, .ref h_p1_colour, .ref h_p1_load, .int p1_size, .int p1_centreX, .int p1_centreY])), (h_p1_colour, .inl (cI, 24, .inl p1_colour))]) 0 0 (va_A [(h_t, .inr (7, [.ref h_t_chosen, .ref h_t_mixed, .ref h_t_near, .int t_gone, .int t_stuck, .int t_longest, .int t_side])), (h_t_chosen, .inl (cI, 3, .inl t_chosen)), (h_p1, .inr (0, [.ref h_p1_x, .ref h_p1_y, .ref h_p1_colour, .ref h_p1_load, .int p1_size, .int p1_centreX, .int p1_centreY])), (h_p1_colour, .inl (cI, 24, .inl p1_colour))] sz) := by
  refine Met.ofW (cc := cX7_chooseFirst) (maxL := 3) (ret := (some .boolean)) (by decide) rfl ?_
  intro p e s m args below meth c s₁ B hml hv
  obtain ⟨rfl, hsz, hP, hK, hD0, hT⟩ := hv
  have hx := B.exec
  have hb := B.bytes
  have hr := B.returns
  have hown : s.vm.findClass RX7 = some m.cls := findClass_of_methodNamed B.named
  have hlocks := B.notSynchronized
  have hts := TB.use hT ([.ref h_t, .ref h_p1] : List Value).toArray
  subst hsz
  have hD := hD0.self (sz := s.heap.size)
  generalize hAe : va_A [(h_t, .inr (7, [.ref h_t_chosen, .ref h_t_mixed, .ref h_t_near, .int t_gone, .int t_stuck, .int t_longest, .int t_side])), (h_t_chosen, .inl (cI, 3, .inl t_chosen)), (h_p1, .inr (0, [.ref h_p1_x, .ref h_p1_y, .ref h_p1_colour, .ref h_p1_load, .int p1_size, .int p1_centreX, .int p1_centreY])), (h_p1_colour, .inl (cI, 24, .inl p1_colour))] s.heap.size = A at hD ⊢
  have hA : ∀ q : Nat, s.heap.size ≤ q → A q := fun q h => by rw [← hAe]; exact Or.inr h
  clear hAe hD0
  have hl := lv_entry ([.ref h_t, .ref h_p1]) (n := 3) (Nat.le_of_ble_eq_true rfl)
  rw [lg_entry_eq]
  generalize (lg_sl ([.ref h_t, .ref h_p1]) ++ List.replicate (3 - (lg_sl ([.ref h_t, .ref h_p1])).length) Slot.unset).toArray = ls at hl ⊢
  have hl : lv_has ls 3 [(0, .ref h_t), (1, .ref h_p1)] := hl
  have hF : 1 ≤ (headSpec [Cond.code yX7_chooseFirst cX7_chooseFirst 3 (some .boolean)] ({ frames := 1, cells := 0, slots := 0, locals := 23 })).room.frames := Nat.le_refl _
  have hLo : 23 ≤ (headSpec [Cond.code yX7_chooseFirst cX7_chooseFirst 3 (some .boolean)] ({ frames := 1, cells := 0, slots := 0, locals := 23 })).room.locals := Nat.le_refl _
  have C0 : Sx p (headSpec [Cond.code yX7_chooseFirst cX7_chooseFirst 3 (some .boolean)] ({ frames := 1, cells := 0, slots := 0, locals := 23 })).room s m ([.ref h_t, .ref h_p1] : List Value).toArray c cX7_chooseFirst 3 RX7 A dC dI cI cL cB 1 23 := ⟨hx, hb, hml, hown, hts, hK, hT, hA, hF, hLo⟩
  refine startH (A := A) hP (fun H locs hP hS => ?_)
  rw [fX7_chooseFirst] at hf
  refine lv_iconst (v := (0 : Int32)) hx hb dX7_chooseFirst_0 (by decide) ?_
  refine lv_istore_n (lv' := [(2, .int (0 : Int32)), (0, .ref h_t), (1, .ref h_p1)]) hx hb dX7_chooseFirst_1 rfl hl (Nat.le_of_ble_eq_true rfl) rfl (fun ls hl => ?_)
  obtain ⟨ex_10, hq_7, hf⟩ := sm_some hf
  refine wX7_chooseFirst_L2 C0 h_t h_t_chosen h_t_mixed h_t_near h_p1 h_p1_x h_p1_y h_p1_colour h_p1_load t_gone t_stuck t_longest t_side p1_size p1_centreX p1_centreY p1_colour K (0 : Int32) t_chosen ex_10 H locs ls hP hD hS (lv_sub hl [1, 2, 0] rfl) hq_7 ?_ ?_
  · intro t_chosen_8 he H locs ls hP hD hS hl
    subst he
    replace hf := el1 hf
    refine lv_iconst (v := (0 : Int32)) hx hb dX7_chooseFirst_32 (by decide) ?_
    obtain ⟨rfl, rfl⟩ := o2 hf
    exact W.zret hx hb hr rfl (fun t ht hW => ⟨⟨_, (), rfl, rfl, by rw [ht]; exact hP, hD⟩, hS.F ht⟩) hS.2.2 dX7_chooseFirst_33
  · intro t_chosen_9 he H locs ls hP hD hS hl
    subst he
    replace hf := er1 hf
    refine lv_iconst (v := (1 : Int32)) hx hb dX7_chooseFirst_40 (by decide) ?_
    obtain ⟨rfl, rfl⟩ := o2 hf
    exact W.zret hx hb hr rfl (fun t ht hW => ⟨⟨_, (), rfl, rfl, by rw [ht]; exact hP, hD⟩, hS.F ht⟩) hS.2.2 dX7_chooseFirst_41
theorem dX11_triangleHolds_0 : decode cX11_triangleHolds 0 = .ok (.aload_n 0, 1) := by decide +kernel
theorem dX11_triangleHolds_1 : decode cX11_triangleHolds 1 = .ok (.getfield 133, 3) := by decide +kernel
theorem dX11_triangleHolds_4 : decode cX11_triangleHolds 4 = .ok (.iload_n 1, 1) := by decide +kernel
theorem dX11_triangleHolds_5 : decode cX11_triangleHolds 5 = .ok (.iaload, 1) := by decide +kernel
theorem dX11_triangleHolds_6 : decode cX11_triangleHolds 6 = .ok (.iload 4, 2) := by decide +kernel
theorem dX11_triangleHolds_8 : decode cX11_triangleHolds 8 = .ok (.isub, 1) := by decide +kernel
theorem dX11_triangleHolds_9 : decode cX11_triangleHolds 9 = .ok (.istore 6, 2) := by decide +kernel
theorem dX11_triangleHolds_11 : decode cX11_triangleHolds 11 = .ok (.aload_n 0, 1) := by decide +kernel
theorem dX11_triangleHolds_12 : decode cX11_triangleHolds 12 = .ok (.getfield 137, 3) := by decide +kernel
theorem dX11_triangleHolds_15 : decode cX11_triangleHolds 15 = .ok (.iload_n 1, 1) := by decide +kernel
theorem dX11_triangleHolds_16 : decode cX11_triangleHolds 16 = .ok (.iaload, 1) := by decide +kernel
theorem dX11_triangleHolds_17 : decode cX11_triangleHolds 17 = .ok (.iload 5, 2) := by decide +kernel
theorem dX11_triangleHolds_19 : decode cX11_triangleHolds 19 = .ok (.isub, 1) := by decide +kernel
theorem dX11_triangleHolds_20 : decode cX11_triangleHolds 20 = .ok (.istore 7, 2) := by decide +kernel
theorem dX11_triangleHolds_22 : decode cX11_triangleHolds 22 = .ok (.aload_n 0, 1) := by decide +kernel
theorem dX11_triangleHolds_23 : decode cX11_triangleHolds 23 = .ok (.getfield 133, 3) := by decide +kernel
theorem dX11_triangleHolds_26 : decode cX11_triangleHolds 26 = .ok (.iload_n 2, 1) := by decide +kernel
theorem dX11_triangleHolds_27 : decode cX11_triangleHolds 27 = .ok (.iaload, 1) := by decide +kernel
theorem dX11_triangleHolds_28 : decode cX11_triangleHolds 28 = .ok (.iload 4, 2) := by decide +kernel
theorem dX11_triangleHolds_30 : decode cX11_triangleHolds 30 = .ok (.isub, 1) := by decide +kernel
theorem dX11_triangleHolds_31 : decode cX11_triangleHolds 31 = .ok (.istore 8, 2) := by decide +kernel
theorem dX11_triangleHolds_33 : decode cX11_triangleHolds 33 = .ok (.aload_n 0, 1) := by decide +kernel
theorem dX11_triangleHolds_34 : decode cX11_triangleHolds 34 = .ok (.getfield 137, 3) := by decide +kernel
theorem dX11_triangleHolds_37 : decode cX11_triangleHolds 37 = .ok (.iload_n 2, 1) := by decide +kernel
theorem dX11_triangleHolds_38 : decode cX11_triangleHolds 38 = .ok (.iaload, 1) := by decide +kernel
theorem dX11_triangleHolds_39 : decode cX11_triangleHolds 39 = .ok (.iload 5, 2) := by decide +kernel
theorem dX11_triangleHolds_41 : decode cX11_triangleHolds 41 = .ok (.isub, 1) := by decide +kernel
theorem dX11_triangleHolds_42 : decode cX11_triangleHolds 42 = .ok (.istore 9, 2) := by decide +kernel
theorem dX11_triangleHolds_44 : decode cX11_triangleHolds 44 = .ok (.aload_n 0, 1) := by decide +kernel
theorem dX11_triangleHolds_45 : decode cX11_triangleHolds 45 = .ok (.getfield 133, 3) := by decide +kernel
theorem dX11_triangleHolds_48 : decode cX11_triangleHolds 48 = .ok (.iload_n 3, 1) := by decide +kernel
theorem dX11_triangleHolds_49 : decode cX11_triangleHolds 49 = .ok (.iaload, 1) := by decide +kernel
theorem dX11_triangleHolds_50 : decode cX11_triangleHolds 50 = .ok (.iload 4, 2) := by decide +kernel
theorem dX11_triangleHolds_52 : decode cX11_triangleHolds 52 = .ok (.isub, 1) := by decide +kernel
theorem dX11_triangleHolds_53 : decode cX11_triangleHolds 53 = .ok (.istore 10, 2) := by decide +kernel
theorem dX11_triangleHolds_55 : decode cX11_triangleHolds 55 = .ok (.aload_n 0, 1) := by decide +kernel
theorem dX11_triangleHolds_56 : decode cX11_triangleHolds 56 = .ok (.getfield 137, 3) := by decide +kernel
theorem dX11_triangleHolds_59 : decode cX11_triangleHolds 59 = .ok (.iload_n 3, 1) := by decide +kernel
theorem dX11_triangleHolds_60 : decode cX11_triangleHolds 60 = .ok (.iaload, 1) := by decide +kernel
theorem dX11_triangleHolds_61 : decode cX11_triangleHolds 61 = .ok (.iload 5, 2) := by decide +kernel
theorem dX11_triangleHolds_63 : decode cX11_triangleHolds 63 = .ok (.isub, 1) := by decide +kernel
theorem dX11_triangleHolds_64 : decode cX11_triangleHolds 64 = .ok (.istore 11, 2) := by decide +kernel
theorem dX11_triangleHolds_66 : decode cX11_triangleHolds 66 = .ok (.iload 6, 2) := by decide +kernel
theorem dX11_triangleHolds_68 : decode cX11_triangleHolds 68 = .ok (.iload 9, 2) := by decide +kernel
theorem dX11_triangleHolds_70 : decode cX11_triangleHolds 70 = .ok (.imul, 1) := by decide +kernel
theorem dX11_triangleHolds_71 : decode cX11_triangleHolds 71 = .ok (.iload 7, 2) := by decide +kernel
theorem dX11_triangleHolds_73 : decode cX11_triangleHolds 73 = .ok (.iload 8, 2) := by decide +kernel
theorem dX11_triangleHolds_75 : decode cX11_triangleHolds 75 = .ok (.imul, 1) := by decide +kernel
theorem dX11_triangleHolds_76 : decode cX11_triangleHolds 76 = .ok (.isub, 1) := by decide +kernel
theorem dX11_triangleHolds_77 : decode cX11_triangleHolds 77 = .ok (.istore 12, 2) := by decide +kernel
theorem dX11_triangleHolds_79 : decode cX11_triangleHolds 79 = .ok (.iload 8, 2) := by decide +kernel
theorem dX11_triangleHolds_81 : decode cX11_triangleHolds 81 = .ok (.iload 11, 2) := by decide +kernel
theorem dX11_triangleHolds_83 : decode cX11_triangleHolds 83 = .ok (.imul, 1) := by decide +kernel
theorem dX11_triangleHolds_84 : decode cX11_triangleHolds 84 = .ok (.iload 9, 2) := by decide +kernel
theorem dX11_triangleHolds_86 : decode cX11_triangleHolds 86 = .ok (.iload 10, 2) := by decide +kernel
theorem dX11_triangleHolds_88 : decode cX11_triangleHolds 88 = .ok (.imul, 1) := by decide +kernel
theorem dX11_triangleHolds_89 : decode cX11_triangleHolds 89 = .ok (.isub, 1) := by decide +kernel
theorem dX11_triangleHolds_90 : decode cX11_triangleHolds 90 = .ok (.istore 13, 2) := by decide +kernel
theorem dX11_triangleHolds_92 : decode cX11_triangleHolds 92 = .ok (.iload 10, 2) := by decide +kernel
theorem dX11_triangleHolds_94 : decode cX11_triangleHolds 94 = .ok (.iload 7, 2) := by decide +kernel
theorem dX11_triangleHolds_96 : decode cX11_triangleHolds 96 = .ok (.imul, 1) := by decide +kernel
theorem dX11_triangleHolds_97 : decode cX11_triangleHolds 97 = .ok (.iload 11, 2) := by decide +kernel
theorem dX11_triangleHolds_99 : decode cX11_triangleHolds 99 = .ok (.iload 6, 2) := by decide +kernel
theorem dX11_triangleHolds_101 : decode cX11_triangleHolds 101 = .ok (.imul, 1) := by decide +kernel
theorem dX11_triangleHolds_102 : decode cX11_triangleHolds 102 = .ok (.isub, 1) := by decide +kernel
theorem dX11_triangleHolds_103 : decode cX11_triangleHolds 103 = .ok (.istore 14, 2) := by decide +kernel
theorem dX11_triangleHolds_105 : decode cX11_triangleHolds 105 = .ok (.iload 12, 2) := by decide +kernel
theorem dX11_triangleHolds_107 : decode cX11_triangleHolds 107 = .ok (.ifCond .ne 61, 3) := by decide +kernel
theorem dX11_triangleHolds_110 : decode cX11_triangleHolds 110 = .ok (.iload 13, 2) := by decide +kernel
theorem dX11_triangleHolds_112 : decode cX11_triangleHolds 112 = .ok (.ifCond .ne 56, 3) := by decide +kernel
theorem dX11_triangleHolds_115 : decode cX11_triangleHolds 115 = .ok (.iload 14, 2) := by decide +kernel
theorem dX11_triangleHolds_117 : decode cX11_triangleHolds 117 = .ok (.ifCond .ne 51, 3) := by decide +kernel
theorem dX11_triangleHolds_120 : decode cX11_triangleHolds 120 = .ok (.iload 6, 2) := by decide +kernel
theorem dX11_triangleHolds_122 : decode cX11_triangleHolds 122 = .ok (.iload 8, 2) := by decide +kernel
theorem dX11_triangleHolds_124 : decode cX11_triangleHolds 124 = .ok (.imul, 1) := by decide +kernel
theorem dX11_triangleHolds_125 : decode cX11_triangleHolds 125 = .ok (.iload 7, 2) := by decide +kernel
theorem dX11_triangleHolds_127 : decode cX11_triangleHolds 127 = .ok (.iload 9, 2) := by decide +kernel
theorem dX11_triangleHolds_129 : decode cX11_triangleHolds 129 = .ok (.imul, 1) := by decide +kernel
theorem dX11_triangleHolds_130 : decode cX11_triangleHolds 130 = .ok (.iadd, 1) := by decide +kernel
theorem dX11_triangleHolds_131 : decode cX11_triangleHolds 131 = .ok (.ifCond .le 31, 3) := by decide +kernel
theorem dX11_triangleHolds_134 : decode cX11_triangleHolds 134 = .ok (.iload 8, 2) := by decide +kernel
theorem dX11_triangleHolds_136 : decode cX11_triangleHolds 136 = .ok (.iload 10, 2) := by decide +kernel
theorem dX11_triangleHolds_138 : decode cX11_triangleHolds 138 = .ok (.imul, 1) := by decide +kernel
theorem dX11_triangleHolds_139 : decode cX11_triangleHolds 139 = .ok (.iload 9, 2) := by decide +kernel
theorem dX11_triangleHolds_141 : decode cX11_triangleHolds 141 = .ok (.iload 11, 2) := by decide +kernel
theorem dX11_triangleHolds_143 : decode cX11_triangleHolds 143 = .ok (.imul, 1) := by decide +kernel
theorem dX11_triangleHolds_144 : decode cX11_triangleHolds 144 = .ok (.iadd, 1) := by decide +kernel
theorem dX11_triangleHolds_145 : decode cX11_triangleHolds 145 = .ok (.ifCond .le 17, 3) := by decide +kernel
theorem dX11_triangleHolds_148 : decode cX11_triangleHolds 148 = .ok (.iload 10, 2) := by decide +kernel
theorem dX11_triangleHolds_150 : decode cX11_triangleHolds 150 = .ok (.iload 6, 2) := by decide +kernel
theorem dX11_triangleHolds_152 : decode cX11_triangleHolds 152 = .ok (.imul, 1) := by decide +kernel
theorem dX11_triangleHolds_153 : decode cX11_triangleHolds 153 = .ok (.iload 11, 2) := by decide +kernel
theorem dX11_triangleHolds_155 : decode cX11_triangleHolds 155 = .ok (.iload 7, 2) := by decide +kernel
theorem dX11_triangleHolds_157 : decode cX11_triangleHolds 157 = .ok (.imul, 1) := by decide +kernel
theorem dX11_triangleHolds_158 : decode cX11_triangleHolds 158 = .ok (.iadd, 1) := by decide +kernel
theorem dX11_triangleHolds_159 : decode cX11_triangleHolds 159 = .ok (.ifCond .gt 7, 3) := by decide +kernel
theorem dX11_triangleHolds_162 : decode cX11_triangleHolds 162 = .ok (.iconst 1, 1) := by decide +kernel
theorem dX11_triangleHolds_163 : decode cX11_triangleHolds 163 = .ok (.goto 4, 3) := by decide +kernel
theorem dX11_triangleHolds_166 : decode cX11_triangleHolds 166 = .ok (.iconst 0, 1) := by decide +kernel
theorem dX11_triangleHolds_167 : decode cX11_triangleHolds 167 = .ok (.ireturn, 1) := by decide +kernel
theorem dX11_triangleHolds_168 : decode cX11_triangleHolds 168 = .ok (.iload 12, 2) := by decide +kernel
theorem dX11_triangleHolds_170 : decode cX11_triangleHolds 170 = .ok (.ifCond .lt 13, 3) := by decide +kernel
theorem dX11_triangleHolds_173 : decode cX11_triangleHolds 173 = .ok (.iload 13, 2) := by decide +kernel
theorem dX11_triangleHolds_175 : decode cX11_triangleHolds 175 = .ok (.ifCond .lt 8, 3) := by decide +kernel
theorem dX11_triangleHolds_178 : decode cX11_triangleHolds 178 = .ok (.iload 14, 2) := by decide +kernel
theorem dX11_triangleHolds_180 : decode cX11_triangleHolds 180 = .ok (.ifCond .ge 18, 3) := by decide +kernel
theorem dX11_triangleHolds_183 : decode cX11_triangleHolds 183 = .ok (.iload 12, 2) := by decide +kernel
theorem dX11_triangleHolds_185 : decode cX11_triangleHolds 185 = .ok (.ifCond .gt 17, 3) := by decide +kernel
theorem dX11_triangleHolds_188 : decode cX11_triangleHolds 188 = .ok (.iload 13, 2) := by decide +kernel
theorem dX11_triangleHolds_190 : decode cX11_triangleHolds 190 = .ok (.ifCond .gt 12, 3) := by decide +kernel
theorem dX11_triangleHolds_193 : decode cX11_triangleHolds 193 = .ok (.iload 14, 2) := by decide +kernel
theorem dX11_triangleHolds_195 : decode cX11_triangleHolds 195 = .ok (.ifCond .gt 7, 3) := by decide +kernel
theorem dX11_triangleHolds_198 : decode cX11_triangleHolds 198 = .ok (.iconst 1, 1) := by decide +kernel
theorem dX11_triangleHolds_199 : decode cX11_triangleHolds 199 = .ok (.goto 4, 3) := by decide +kernel
theorem dX11_triangleHolds_202 : decode cX11_triangleHolds 202 = .ok (.iconst 0, 1) := by decide +kernel
theorem dX11_triangleHolds_203 : decode cX11_triangleHolds 203 = .ok (.ireturn, 1) := by decide +kernel
set_option maxRecDepth 100000 in
set_option maxHeartbeats 4000000 in
theorem mtX11_triangleHolds (l : Launch) (dC : Nat → ClassId) (dI : Nat → Nat → Nat) (cI cL cB : ClassId) (K : Nat) (h_p0 h_p0_x h_p0_y h_p0_colour h_p0_load : Nat) (sz : Nat) (p0_size : Int32) (p0_centreX : Int32) (p0_centreY : Int32) (p0_x : Nat → Int32) (p0_y : Nat → Int32) (a1 : Int32) (a2 : Int32) (a3 : Int32) (a4 : Int32) (a5 : Int32) (o_r : Int32) (hf : fX11_triangleHolds K p0_x p0_y a1 a2 a3 a4 a5 = some o_r) : Met l yX11_triangleHolds [Cond.code yX11_triangleHolds cX11_triangleHolds 15 (some .boolean)] ({ frames := 0, cells := 0, slots := 0, locals := 0 }) (va_Pc [.ref h_p0, .int a1, .int a2, .int a3, .int a4, .int a5] (cPre dC dI cI cL cB sz [(h_p0, .inr (0, [.ref h_p0_x, .ref h_p0_y, .ref h_p0_colour, .ref h_p0_load, .int p0_size, .int p0_centreX, .int p0_centreY])), (h_p0_x, .inl (cI, 24, .inl p0_x)), (h_p0_y, .inl (cI, 24, .inl p0_y))])) (cQi dC dI (va_A [(h_p0, .inr (0, [.ref h_p0_x, .ref h_p0_y, .ref h_p0_colour, .ref h_p0_load, .int p0_size, .int p0_centreX, .int p0_centreY])), (h_p0_x, .inl (cI, 24, .inl p0_x)), (h_p0_y, .inl (cI, 24, .inl p0_y))] sz) o_r [(h_p0, .inr (0, [.ref h_p0_x, .ref h_p0_y, .ref h_p0_colour, .ref h_p0_load, .int p0_size, .int p0_centreX, .int p0_centreY])), (h_p0_x, .inl (cI, 24, .inl p0_x)), (h_p0_y, .inl (cI, 24, .inl p0_y))]) 0 0 (va_A [(h_p0, .inr (0, [.ref h_p0_x, .ref h_p0_y, .ref h_p0_colour, .ref h_p0_load, .int p0_size, .int p0_centreX, .int p0_centreY])), (h_p0_x, .inl (cI, 24, .inl p0_x)), (h_p0_y, .inl (cI, 24, .inl p0_y))] sz) := by
  refine Met.ofW (cc := cX11_triangleHolds) (maxL := 15) (ret := (some .boolean)) (by decide) rfl ?_
  intro p e s m args below meth c s₁ B hml hv
  obtain ⟨rfl, hsz, hP, hK, hD0, hT⟩ := hv
  have hx := B.exec
  have hb := B.bytes
  have hr := B.returns
  have hown : s.vm.findClass RX11 = some m.cls := findClass_of_methodNamed B.named
  have hlocks := B.notSynchronized
  have hts := TB.use hT ([.ref h_p0, .int a1, .int a2, .int a3, .int a4, .int a5] : List Value).toArray
  subst hsz
  have hD := hD0.self (sz := s.heap.size)
  generalize hAe : va_A [(h_p0, .inr (0, [.ref h_p0_x, .ref h_p0_y, .ref h_p0_colour, .ref h_p0_load, .int p0_size, .int p0_centreX, .int p0_centreY])), (h_p0_x, .inl (cI, 24, .inl p0_x)), (h_p0_y, .inl (cI, 24, .inl p0_y))] s.heap.size = A at hD ⊢
  have hA : ∀ q : Nat, s.heap.size ≤ q → A q := fun q h => by rw [← hAe]; exact Or.inr h
  clear hAe hD0
  have hl := lv_entry ([.ref h_p0, .int a1, .int a2, .int a3, .int a4, .int a5]) (n := 15) (Nat.le_of_ble_eq_true rfl)
  rw [lg_entry_eq]
  generalize (lg_sl ([.ref h_p0, .int a1, .int a2, .int a3, .int a4, .int a5]) ++ List.replicate (15 - (lg_sl ([.ref h_p0, .int a1, .int a2, .int a3, .int a4, .int a5])).length) Slot.unset).toArray = ls at hl ⊢
  have hl : lv_has ls 15 [(0, .ref h_p0), (1, .int a1), (2, .int a2), (3, .int a3), (4, .int a4), (5, .int a5)] := hl
  have hF : 0 ≤ (headSpec [Cond.code yX11_triangleHolds cX11_triangleHolds 15 (some .boolean)] ({ frames := 0, cells := 0, slots := 0, locals := 0 })).room.frames := Nat.le_refl _
  have hLo : 0 ≤ (headSpec [Cond.code yX11_triangleHolds cX11_triangleHolds 15 (some .boolean)] ({ frames := 0, cells := 0, slots := 0, locals := 0 })).room.locals := Nat.le_refl _
  have C0 : Sx p (headSpec [Cond.code yX11_triangleHolds cX11_triangleHolds 15 (some .boolean)] ({ frames := 0, cells := 0, slots := 0, locals := 0 })).room s m ([.ref h_p0, .int a1, .int a2, .int a3, .int a4, .int a5] : List Value).toArray c cX11_triangleHolds 15 RX11 A dC dI cI cL cB 0 0 := ⟨hx, hb, hml, hown, hts, hK, hT, hA, hF, hLo⟩
  refine startH (A := A) hP (fun H locs hP hS => ?_)
  rw [fX11_triangleHolds] at hf
  refine lv_aload_n hx hb dX11_triangleHolds_0 rfl (lv_at hl 0 rfl) ?_
  refine va_get (D := (dC, dI)) (ci := 0) (v := .ref h_p0_x) (C := RX0) (T := TX0) (N := 7) hx hb hts in_X0 hown hK hP 0 rfl rfl 0 (Nat.le_of_ble_eq_true rfl) (hts _ qf_X11_133) (fun _ h9 => h9) rfl dX11_triangleHolds_1 ?_
  refine lv_iload_n hx hb dX11_triangleHolds_4 rfl (lv_at hl 1 rfl) ?_
  obtain ⟨hg_1, hf⟩ := gd_some hf
  refine va_iald hx hb hK hP 1 0 rfl rfl (inb_in hg_1) dX11_triangleHolds_5 ?_
  refine lv_iload hx hb dX11_triangleHolds_6 (lv_at hl 4 rfl) ?_
  refine lv_isub hx hb dX11_triangleHolds_8 ?_
  refine lv_topi (fun l6_2 el6_2 => ?_)
  replace hf := xl_at hf el6_2
  refine lv_istore (lv' := [(6, .int l6_2), (0, .ref h_p0), (1, .int a1), (2, .int a2), (3, .int a3), (4, .int a4), (5, .int a5)]) hx hb dX11_triangleHolds_9 hl (Nat.le_of_ble_eq_true rfl) rfl (fun ls hl => ?_)
  refine lv_aload_n hx hb dX11_triangleHolds_11 rfl (lv_at hl 1 rfl) ?_
  refine va_get (D := (dC, dI)) (ci := 0) (v := .ref h_p0_y) (C := RX0) (T := TX0) (N := 7) hx hb hts in_X0 hown hK hP 0 rfl rfl 1 (Nat.le_of_ble_eq_true rfl) (hts _ qf_X11_137) (fun _ h9 => h9) rfl dX11_triangleHolds_12 ?_
  refine lv_iload_n hx hb dX11_triangleHolds_15 rfl (lv_at hl 2 rfl) ?_
  obtain ⟨hg_3, hf⟩ := gd_some hf
  refine va_iald hx hb hK hP 2 0 rfl rfl (inb_in hg_3) dX11_triangleHolds_16 ?_
  refine lv_iload hx hb dX11_triangleHolds_17 (lv_at hl 6 rfl) ?_
  refine lv_isub hx hb dX11_triangleHolds_19 ?_
  refine lv_topi (fun l7_4 el7_4 => ?_)
  replace hf := xl_at hf el7_4
  refine lv_istore (lv' := [(7, .int l7_4), (6, .int l6_2), (0, .ref h_p0), (1, .int a1), (2, .int a2), (3, .int a3), (4, .int a4), (5, .int a5)]) hx hb dX11_triangleHolds_20 hl (Nat.le_of_ble_eq_true rfl) rfl (fun ls hl => ?_)
  refine lv_aload_n hx hb dX11_triangleHolds_22 rfl (lv_at hl 2 rfl) ?_
  refine va_get (D := (dC, dI)) (ci := 0) (v := .ref h_p0_x) (C := RX0) (T := TX0) (N := 7) hx hb hts in_X0 hown hK hP 0 rfl rfl 0 (Nat.le_of_ble_eq_true rfl) (hts _ qf_X11_133) (fun _ h9 => h9) rfl dX11_triangleHolds_23 ?_
  refine lv_iload_n hx hb dX11_triangleHolds_26 rfl (lv_at hl 4 rfl) ?_
  obtain ⟨hg_5, hf⟩ := gd_some hf
  refine va_iald hx hb hK hP 1 0 rfl rfl (inb_in hg_5) dX11_triangleHolds_27 ?_
  refine lv_iload hx hb dX11_triangleHolds_28 (lv_at hl 6 rfl) ?_
  refine lv_isub hx hb dX11_triangleHolds_30 ?_
  refine lv_topi (fun l8_6 el8_6 => ?_)
  replace hf := xl_at hf el8_6
  refine lv_istore (lv' := [(8, .int l8_6), (7, .int l7_4), (6, .int l6_2), (0, .ref h_p0), (1, .int a1), (2, .int a2), (3, .int a3), (4, .int a4), (5, .int a5)]) hx hb dX11_triangleHolds_31 hl (Nat.le_of_ble_eq_true rfl) rfl (fun ls hl => ?_)
  refine lv_aload_n hx hb dX11_triangleHolds_33 rfl (lv_at hl 3 rfl) ?_
  refine va_get (D := (dC, dI)) (ci := 0) (v := .ref h_p0_y) (C := RX0) (T := TX0) (N := 7) hx hb hts in_X0 hown hK hP 0 rfl rfl 1 (Nat.le_of_ble_eq_true rfl) (hts _ qf_X11_137) (fun _ h9 => h9) rfl dX11_triangleHolds_34 ?_
  refine lv_iload_n hx hb dX11_triangleHolds_37 rfl (lv_at hl 5 rfl) ?_
  obtain ⟨hg_7, hf⟩ := gd_some hf
  refine va_iald hx hb hK hP 2 0 rfl rfl (inb_in hg_7) dX11_triangleHolds_38 ?_
  refine lv_iload hx hb dX11_triangleHolds_39 (lv_at hl 8 rfl) ?_
  refine lv_isub hx hb dX11_triangleHolds_41 ?_
  refine lv_topi (fun l9_8 el9_8 => ?_)
  replace hf := xl_at hf el9_8
  refine lv_istore (lv' := [(9, .int l9_8), (8, .int l8_6), (7, .int l7_4), (6, .int l6_2), (0, .ref h_p0), (1, .int a1), (2, .int a2), (3, .int a3), (4, .int a4), (5, .int a5)]) hx hb dX11_triangleHolds_42 hl (Nat.le_of_ble_eq_true rfl) rfl (fun ls hl => ?_)
  refine lv_aload_n hx hb dX11_triangleHolds_44 rfl (lv_at hl 4 rfl) ?_
  refine va_get (D := (dC, dI)) (ci := 0) (v := .ref h_p0_x) (C := RX0) (T := TX0) (N := 7) hx hb hts in_X0 hown hK hP 0 rfl rfl 0 (Nat.le_of_ble_eq_true rfl) (hts _ qf_X11_133) (fun _ h9 => h9) rfl dX11_triangleHolds_45 ?_
  refine lv_iload_n hx hb dX11_triangleHolds_48 rfl (lv_at hl 7 rfl) ?_
  obtain ⟨hg_9, hf⟩ := gd_some hf
  refine va_iald hx hb hK hP 1 0 rfl rfl (inb_in hg_9) dX11_triangleHolds_49 ?_
  refine lv_iload hx hb dX11_triangleHolds_50 (lv_at hl 8 rfl) ?_
  refine lv_isub hx hb dX11_triangleHolds_52 ?_
  refine lv_topi (fun l10_10 el10_10 => ?_)
  replace hf := xl_at hf el10_10
  refine lv_istore (lv' := [(10, .int l10_10), (9, .int l9_8), (8, .int l8_6), (7, .int l7_4), (6, .int l6_2), (0, .ref h_p0), (1, .int a1), (2, .int a2), (3, .int a3), (4, .int a4), (5, .int a5)]) hx hb dX11_triangleHolds_53 hl (Nat.le_of_ble_eq_true rfl) rfl (fun ls hl => ?_)
  refine lv_aload_n hx hb dX11_triangleHolds_55 rfl (lv_at hl 5 rfl) ?_
  refine va_get (D := (dC, dI)) (ci := 0) (v := .ref h_p0_y) (C := RX0) (T := TX0) (N := 7) hx hb hts in_X0 hown hK hP 0 rfl rfl 1 (Nat.le_of_ble_eq_true rfl) (hts _ qf_X11_137) (fun _ h9 => h9) rfl dX11_triangleHolds_56 ?_
  refine lv_iload_n hx hb dX11_triangleHolds_59 rfl (lv_at hl 8 rfl) ?_
  obtain ⟨hg_11, hf⟩ := gd_some hf
  refine va_iald hx hb hK hP 2 0 rfl rfl (inb_in hg_11) dX11_triangleHolds_60 ?_
  refine lv_iload hx hb dX11_triangleHolds_61 (lv_at hl 10 rfl) ?_
  refine lv_isub hx hb dX11_triangleHolds_63 ?_
  refine lv_topi (fun l11_12 el11_12 => ?_)
  replace hf := xl_at hf el11_12
  refine lv_istore (lv' := [(11, .int l11_12), (10, .int l10_10), (9, .int l9_8), (8, .int l8_6), (7, .int l7_4), (6, .int l6_2), (0, .ref h_p0), (1, .int a1), (2, .int a2), (3, .int a3), (4, .int a4), (5, .int a5)]) hx hb dX11_triangleHolds_64 hl (Nat.le_of_ble_eq_true rfl) rfl (fun ls hl => ?_)
  refine lv_iload hx hb dX11_triangleHolds_66 (lv_at hl 5 rfl) ?_
  refine lv_iload hx hb dX11_triangleHolds_68 (lv_at hl 2 rfl) ?_
  refine lv_imul hx hb dX11_triangleHolds_70 ?_
  refine lv_iload hx hb dX11_triangleHolds_71 (lv_at hl 4 rfl) ?_
  refine lv_iload hx hb dX11_triangleHolds_73 (lv_at hl 3 rfl) ?_
  refine lv_imul hx hb dX11_triangleHolds_75 ?_
  refine lv_isub hx hb dX11_triangleHolds_76 ?_
  refine lv_topi (fun l12_13 el12_13 => ?_)
  replace hf := xl_at hf el12_13
  refine lv_istore (lv' := [(12, .int l12_13), (11, .int l11_12), (10, .int l10_10), (9, .int l9_8), (8, .int l8_6), (7, .int l7_4), (6, .int l6_2), (0, .ref h_p0), (1, .int a1), (2, .int a2), (3, .int a3), (4, .int a4), (5, .int a5)]) hx hb dX11_triangleHolds_77 hl (Nat.le_of_ble_eq_true rfl) rfl (fun ls hl => ?_)
  refine lv_iload hx hb dX11_triangleHolds_79 (lv_at hl 4 rfl) ?_
  refine lv_iload hx hb dX11_triangleHolds_81 (lv_at hl 1 rfl) ?_
  refine lv_imul hx hb dX11_triangleHolds_83 ?_
  refine lv_iload hx hb dX11_triangleHolds_84 (lv_at hl 3 rfl) ?_
  refine lv_iload hx hb dX11_triangleHolds_86 (lv_at hl 2 rfl) ?_
  refine lv_imul hx hb dX11_triangleHolds_88 ?_
  refine lv_isub hx hb dX11_triangleHolds_89 ?_
  refine lv_topi (fun l13_14 el13_14 => ?_)
  replace hf := xl_at hf el13_14
  refine lv_istore (lv' := [(13, .int l13_14), (12, .int l12_13), (11, .int l11_12), (10, .int l10_10), (9, .int l9_8), (8, .int l8_6), (7, .int l7_4), (6, .int l6_2), (0, .ref h_p0), (1, .int a1), (2, .int a2), (3, .int a3), (4, .int a4), (5, .int a5)]) hx hb dX11_triangleHolds_90 hl (Nat.le_of_ble_eq_true rfl) rfl (fun ls hl => ?_)
  refine lv_iload hx hb dX11_triangleHolds_92 (lv_at hl 3 rfl) ?_
  refine lv_iload hx hb dX11_triangleHolds_94 (lv_at hl 6 rfl) ?_
  refine lv_imul hx hb dX11_triangleHolds_96 ?_
  refine lv_iload hx hb dX11_triangleHolds_97 (lv_at hl 2 rfl) ?_
  refine lv_iload hx hb dX11_triangleHolds_99 (lv_at hl 7 rfl) ?_
  refine lv_imul hx hb dX11_triangleHolds_101 ?_
  refine lv_isub hx hb dX11_triangleHolds_102 ?_
  refine lv_topi (fun l14_15 el14_15 => ?_)
  replace hf := xl_at hf el14_15
  refine lv_istore (lv' := [(14, .int l14_15), (13, .int l13_14), (12, .int l12_13), (11, .int l11_12), (10, .int l10_10), (9, .int l9_8), (8, .int l8_6), (7, .int l7_4), (6, .int l6_2), (0, .ref h_p0), (1, .int a1), (2, .int a2), (3, .int a3), (4, .int a4), (5, .int a5)]) hx hb dX11_triangleHolds_103 hl (Nat.le_of_ble_eq_true rfl) rfl (fun ls hl => ?_)
  refine lv_iload hx hb dX11_triangleHolds_105 (lv_at hl 2 rfl) ?_
  obtain ⟨k_16, ek_16, hf⟩ := jn_out hf
  have J_17 : ∀ (H : Heap) (locs : List Loc) (ls : Array Slot), va_P (dC, dI) vwCl [(h_p0, .inr (0, [.ref h_p0_x, .ref h_p0_y, .ref h_p0_colour, .ref h_p0_load, .int p0_size, .int p0_centreX, .int p0_centreY])), (h_p0_x, .inl (cI, 24, .inl p0_x)), (h_p0_y, .inl (cI, 24, .inl p0_y))] H → va_D A [(h_p0, .inr (0, [.ref h_p0_x, .ref h_p0_y, .ref h_p0_colour, .ref h_p0_load, .int p0_size, .int p0_centreX, .int p0_centreY])), (h_p0_x, .inl (cI, 24, .inl p0_x)), (h_p0_y, .inl (cI, 24, .inl p0_y))] → va_S A s.heap H locs → lv_has ls 15 [(12, .int l12_13), (13, .int l13_14), (14, .int l14_15)] → k_16 = some o_r → W p l e (headSpec [Cond.code yX11_triangleHolds cX11_triangleHolds 15 (some .boolean)] ({ frames := 0, cells := 0, slots := 0, locals := 0 })).room s m ([.ref h_p0, .int a1, .int a2, .int a3, .int a4, .int a5] : List Value).toArray below meth c H locs 0 0 (MQ below (cQi dC dI A o_r [(h_p0, .inr (0, [.ref h_p0_x, .ref h_p0_y, .ref h_p0_colour, .ref h_p0_load, .int p0_size, .int p0_centreX, .int p0_centreY])), (h_p0_x, .inl (cI, 24, .inl p0_x)), (h_p0_y, .inl (cI, 24, .inl p0_y))]) ([.ref h_p0, .int a1, .int a2, .int a3, .int a4, .int a5] : List Value).toArray s 0 0 A) (F0 m 168 ls []) := by
    intro H locs ls hP hD hS hl hf
    rw [ek_16] at hf
    refine lv_iload hx hb dX11_triangleHolds_168 (lv_at hl 0 rfl) ?_
    obtain ⟨k_18, ek_18, hf⟩ := jn_out hf
    have J_19 : ∀ (H : Heap) (locs : List Loc) (ls : Array Slot), va_P (dC, dI) vwCl [(h_p0, .inr (0, [.ref h_p0_x, .ref h_p0_y, .ref h_p0_colour, .ref h_p0_load, .int p0_size, .int p0_centreX, .int p0_centreY])), (h_p0_x, .inl (cI, 24, .inl p0_x)), (h_p0_y, .inl (cI, 24, .inl p0_y))] H → va_D A [(h_p0, .inr (0, [.ref h_p0_x, .ref h_p0_y, .ref h_p0_colour, .ref h_p0_load, .int p0_size, .int p0_centreX, .int p0_centreY])), (h_p0_x, .inl (cI, 24, .inl p0_x)), (h_p0_y, .inl (cI, 24, .inl p0_y))] → va_S A s.heap H locs → lv_has ls 15 [(12, .int l12_13), (13, .int l13_14), (14, .int l14_15)] → k_18 = some o_r → W p l e (headSpec [Cond.code yX11_triangleHolds cX11_triangleHolds 15 (some .boolean)] ({ frames := 0, cells := 0, slots := 0, locals := 0 })).room s m ([.ref h_p0, .int a1, .int a2, .int a3, .int a4, .int a5] : List Value).toArray below meth c H locs 0 0 (MQ below (cQi dC dI A o_r [(h_p0, .inr (0, [.ref h_p0_x, .ref h_p0_y, .ref h_p0_colour, .ref h_p0_load, .int p0_size, .int p0_centreX, .int p0_centreY])), (h_p0_x, .inl (cI, 24, .inl p0_x)), (h_p0_y, .inl (cI, 24, .inl p0_y))]) ([.ref h_p0, .int a1, .int a2, .int a3, .int a4, .int a5] : List Value).toArray s 0 0 A) (F0 m 183 ls []) := by
      intro H locs ls hP hD hS hl hf
      rw [ek_18] at hf
      refine lv_iload hx hb dX11_triangleHolds_183 (lv_at hl 0 rfl) ?_
      refine lv_if_gt (tgt := 202) hx hb dX11_triangleHolds_185 (by decide) (fun hc => ?_) (fun hc => ?_)
      · replace hf := it_t (hc) hf
        refine lv_iconst (v := (0 : Int32)) hx hb dX11_triangleHolds_202 (by decide) ?_
        obtain rfl := o1 hf
        exact W.zret hx hb hr rfl (fun t ht hW => ⟨⟨_, (), rfl, rfl, by rw [ht]; exact hP, hD⟩, hS.F ht⟩) hS.2.2 dX11_triangleHolds_203
      · replace hf := it_f (hc) hf
        refine lv_iload hx hb dX11_triangleHolds_188 (lv_at hl 1 rfl) ?_
        refine lv_if_gt (tgt := 202) hx hb dX11_triangleHolds_190 (by decide) (fun hc => ?_) (fun hc => ?_)
        · replace hf := it_t (hc) hf
          refine lv_iconst (v := (0 : Int32)) hx hb dX11_triangleHolds_202 (by decide) ?_
          obtain rfl := o1 hf
          exact W.zret hx hb hr rfl (fun t ht hW => ⟨⟨_, (), rfl, rfl, by rw [ht]; exact hP, hD⟩, hS.F ht⟩) hS.2.2 dX11_triangleHolds_203
        · replace hf := it_f (hc) hf
          refine lv_iload hx hb dX11_triangleHolds_193 (lv_at hl 2 rfl) ?_
          refine lv_if_gt (tgt := 202) hx hb dX11_triangleHolds_195 (by decide) (fun hc => ?_) (fun hc => ?_)
          · replace hf := it_t (hc) hf
            refine lv_iconst (v := (0 : Int32)) hx hb dX11_triangleHolds_202 (by decide) ?_
            obtain rfl := o1 hf
            exact W.zret hx hb hr rfl (fun t ht hW => ⟨⟨_, (), rfl, rfl, by rw [ht]; exact hP, hD⟩, hS.F ht⟩) hS.2.2 dX11_triangleHolds_203
          · replace hf := it_f (hc) hf
            refine lv_iconst (v := (1 : Int32)) hx hb dX11_triangleHolds_198 (by decide) ?_
            refine lv_goto (tgt := 203) hx hb dX11_triangleHolds_199 (by decide) ?_
            obtain rfl := o1 hf
            exact W.zret hx hb hr rfl (fun t ht hW => ⟨⟨_, (), rfl, rfl, by rw [ht]; exact hP, hD⟩, hS.F ht⟩) hS.2.2 dX11_triangleHolds_203
    refine lv_if_lt (tgt := 183) hx hb dX11_triangleHolds_170 (by decide) (fun hc => ?_) (fun hc => ?_)
    · replace hf := it_t (hc) hf
      exact J_19 H locs ls hP hD hS (lv_sub hl [0, 1, 2] rfl) hf
    · replace hf := it_f (hc) hf
      refine lv_iload hx hb dX11_triangleHolds_173 (lv_at hl 1 rfl) ?_
      refine lv_if_lt (tgt := 183) hx hb dX11_triangleHolds_175 (by decide) (fun hc => ?_) (fun hc => ?_)
      · replace hf := it_t (hc) hf
        exact J_19 H locs ls hP hD hS (lv_sub hl [0, 1, 2] rfl) hf
      · replace hf := it_f (hc) hf
        refine lv_iload hx hb dX11_triangleHolds_178 (lv_at hl 2 rfl) ?_
        refine lv_if_ge (tgt := 198) hx hb dX11_triangleHolds_180 (by decide) (fun hc => ?_) (fun hc => ?_)
        · replace hf := it_t (hc) hf
          refine lv_iconst (v := (1 : Int32)) hx hb dX11_triangleHolds_198 (by decide) ?_
          refine lv_goto (tgt := 203) hx hb dX11_triangleHolds_199 (by decide) ?_
          obtain rfl := o1 hf
          exact W.zret hx hb hr rfl (fun t ht hW => ⟨⟨_, (), rfl, rfl, by rw [ht]; exact hP, hD⟩, hS.F ht⟩) hS.2.2 dX11_triangleHolds_203
        · replace hf := it_f (hc) hf
          exact J_19 H locs ls hP hD hS (lv_sub hl [0, 1, 2] rfl) hf
  refine lv_if_ne (tgt := 168) hx hb dX11_triangleHolds_107 (by decide) (fun hc => ?_) (fun hc => ?_)
  · replace hf := it_f (hc) hf
    exact J_17 H locs ls hP hD hS (lv_sub hl [2, 1, 0] rfl) hf
  · replace hf := it_t (hc) hf
    refine lv_iload hx hb dX11_triangleHolds_110 (lv_at hl 1 rfl) ?_
    refine lv_if_ne (tgt := 168) hx hb dX11_triangleHolds_112 (by decide) (fun hc => ?_) (fun hc => ?_)
    · replace hf := it_f (hc) hf
      exact J_17 H locs ls hP hD hS (lv_sub hl [2, 1, 0] rfl) hf
    · replace hf := it_t (hc) hf
      refine lv_iload hx hb dX11_triangleHolds_115 (lv_at hl 0 rfl) ?_
      refine lv_if_ne (tgt := 168) hx hb dX11_triangleHolds_117 (by decide) (fun hc => ?_) (fun hc => ?_)
      · replace hf := it_f (hc) hf
        exact J_17 H locs ls hP hD hS (lv_sub hl [2, 1, 0] rfl) hf
      · replace hf := it_t (hc) hf
        refine lv_iload hx hb dX11_triangleHolds_120 (lv_at hl 8 rfl) ?_
        refine lv_iload hx hb dX11_triangleHolds_122 (lv_at hl 6 rfl) ?_
        refine lv_imul hx hb dX11_triangleHolds_124 ?_
        refine lv_iload hx hb dX11_triangleHolds_125 (lv_at hl 7 rfl) ?_
        refine lv_iload hx hb dX11_triangleHolds_127 (lv_at hl 5 rfl) ?_
        refine lv_imul hx hb dX11_triangleHolds_129 ?_
        refine lv_iadd hx hb dX11_triangleHolds_130 ?_
        refine lv_if_le (tgt := 162) hx hb dX11_triangleHolds_131 (by decide) (fun hc => ?_) (fun hc => ?_)
        · replace hf := it_t (hc) hf
          refine lv_iconst (v := (1 : Int32)) hx hb dX11_triangleHolds_162 (by decide) ?_
          refine lv_goto (tgt := 167) hx hb dX11_triangleHolds_163 (by decide) ?_
          obtain rfl := o1 hf
          exact W.zret hx hb hr rfl (fun t ht hW => ⟨⟨_, (), rfl, rfl, by rw [ht]; exact hP, hD⟩, hS.F ht⟩) hS.2.2 dX11_triangleHolds_167
        · replace hf := it_f (hc) hf
          refine lv_iload hx hb dX11_triangleHolds_134 (lv_at hl 6 rfl) ?_
          refine lv_iload hx hb dX11_triangleHolds_136 (lv_at hl 4 rfl) ?_
          refine lv_imul hx hb dX11_triangleHolds_138 ?_
          refine lv_iload hx hb dX11_triangleHolds_139 (lv_at hl 5 rfl) ?_
          refine lv_iload hx hb dX11_triangleHolds_141 (lv_at hl 3 rfl) ?_
          refine lv_imul hx hb dX11_triangleHolds_143 ?_
          refine lv_iadd hx hb dX11_triangleHolds_144 ?_
          refine lv_if_le (tgt := 162) hx hb dX11_triangleHolds_145 (by decide) (fun hc => ?_) (fun hc => ?_)
          · replace hf := it_t (hc) hf
            refine lv_iconst (v := (1 : Int32)) hx hb dX11_triangleHolds_162 (by decide) ?_
            refine lv_goto (tgt := 167) hx hb dX11_triangleHolds_163 (by decide) ?_
            obtain rfl := o1 hf
            exact W.zret hx hb hr rfl (fun t ht hW => ⟨⟨_, (), rfl, rfl, by rw [ht]; exact hP, hD⟩, hS.F ht⟩) hS.2.2 dX11_triangleHolds_167
          · replace hf := it_f (hc) hf
            refine lv_iload hx hb dX11_triangleHolds_148 (lv_at hl 4 rfl) ?_
            refine lv_iload hx hb dX11_triangleHolds_150 (lv_at hl 8 rfl) ?_
            refine lv_imul hx hb dX11_triangleHolds_152 ?_
            refine lv_iload hx hb dX11_triangleHolds_153 (lv_at hl 3 rfl) ?_
            refine lv_iload hx hb dX11_triangleHolds_155 (lv_at hl 7 rfl) ?_
            refine lv_imul hx hb dX11_triangleHolds_157 ?_
            refine lv_iadd hx hb dX11_triangleHolds_158 ?_
            refine lv_if_gt (tgt := 166) hx hb dX11_triangleHolds_159 (by decide) (fun hc => ?_) (fun hc => ?_)
            · replace hf := it_t (hc) hf
              refine lv_iconst (v := (0 : Int32)) hx hb dX11_triangleHolds_166 (by decide) ?_
              obtain rfl := o1 hf
              exact W.zret hx hb hr rfl (fun t ht hW => ⟨⟨_, (), rfl, rfl, by rw [ht]; exact hP, hD⟩, hS.F ht⟩) hS.2.2 dX11_triangleHolds_167
            · replace hf := it_f (hc) hf
              refine lv_iconst (v := (1 : Int32)) hx hb dX11_triangleHolds_162 (by decide) ?_
              refine lv_goto (tgt := 167) hx hb dX11_triangleHolds_163 (by decide) ?_
              obtain rfl := o1 hf
              exact W.zret hx hb hr rfl (fun t ht hW => ⟨⟨_, (), rfl, rfl, by rw [ht]; exact hP, hD⟩, hS.F ht⟩) hS.2.2 dX11_triangleHolds_167
theorem dX7_chosenHold_0 : decode cX7_chosenHold 0 = .ok (.aload_n 1, 1) := by decide +kernel
theorem dX7_chosenHold_1 : decode cX7_chosenHold 1 = .ok (.aload_n 0, 1) := by decide +kernel
theorem dX7_chosenHold_2 : decode cX7_chosenHold 2 = .ok (.getfield 9, 3) := by decide +kernel
theorem dX7_chosenHold_5 : decode cX7_chosenHold 5 = .ok (.iconst 0, 1) := by decide +kernel
theorem dX7_chosenHold_6 : decode cX7_chosenHold 6 = .ok (.iaload, 1) := by decide +kernel
theorem dX7_chosenHold_7 : decode cX7_chosenHold 7 = .ok (.aload_n 0, 1) := by decide +kernel
theorem dX7_chosenHold_8 : decode cX7_chosenHold 8 = .ok (.getfield 9, 3) := by decide +kernel
theorem dX7_chosenHold_11 : decode cX7_chosenHold 11 = .ok (.iconst 1, 1) := by decide +kernel
theorem dX7_chosenHold_12 : decode cX7_chosenHold 12 = .ok (.iaload, 1) := by decide +kernel
theorem dX7_chosenHold_13 : decode cX7_chosenHold 13 = .ok (.aload_n 0, 1) := by decide +kernel
theorem dX7_chosenHold_14 : decode cX7_chosenHold 14 = .ok (.getfield 9, 3) := by decide +kernel
theorem dX7_chosenHold_17 : decode cX7_chosenHold 17 = .ok (.iconst 2, 1) := by decide +kernel
theorem dX7_chosenHold_18 : decode cX7_chosenHold 18 = .ok (.iaload, 1) := by decide +kernel
theorem dX7_chosenHold_19 : decode cX7_chosenHold 19 = .ok (.iload_n 2, 1) := by decide +kernel
theorem dX7_chosenHold_20 : decode cX7_chosenHold 20 = .ok (.iload_n 3, 1) := by decide +kernel
theorem dX7_chosenHold_21 : decode cX7_chosenHold 21 = .ok (.invokestatic 39, 3) := by decide +kernel
theorem dX7_chosenHold_24 : decode cX7_chosenHold 24 = .ok (.ireturn, 1) := by decide +kernel
set_option maxRecDepth 100000 in
set_option maxHeartbeats 4000000 in
theorem mtX7_chosenHold (l : Launch) (dC : Nat → ClassId) (dI : Nat → Nat → Nat) (cI cL cB : ClassId) (K : Nat) (h_t h_t_chosen h_t_mixed h_t_near h_p1 h_p1_x h_p1_y h_p1_colour h_p1_load : Nat) (sz : Nat) (t_gone : Int32) (t_stuck : Int32) (t_longest : Int32) (t_side : Int32) (t_chosen : Nat → Int32) (p1_size : Int32) (p1_centreX : Int32) (p1_centreY : Int32) (p1_x : Nat → Int32) (p1_y : Nat → Int32) (a2 : Int32) (a3 : Int32) (o_r : Int32) (hf : fX7_chosenHold K t_chosen p1_x p1_y a2 a3 = some o_r) : Met l yX7_chosenHold [Cond.code yX7_chosenHold cX7_chosenHold 4 (some .boolean)] ({ frames := 1, cells := 0, slots := 0, locals := 34 }) (va_Pc [.ref h_t, .ref h_p1, .int a2, .int a3] (cPre dC dI cI cL cB sz [(h_t, .inr (7, [.ref h_t_chosen, .ref h_t_mixed, .ref h_t_near, .int t_gone, .int t_stuck, .int t_longest, .int t_side])), (h_t_chosen, .inl (cI, 3, .inl t_chosen)), (h_p1, .inr (0, [.ref h_p1_x, .ref h_p1_y, .ref h_p1_colour, .ref h_p1_load, .int p1_size, .int p1_centreX, .int p1_centreY])), (h_p1_x, .inl (cI, 24, .inl p1_x)), (h_p1_y, .inl (cI, 24, .inl p1_y))])) (cQi dC dI (va_A [(h_t, .inr (7, [.ref h_t_chosen, .ref h_t_mixed, .ref h_t_near, .int t_gone, .int t_stuck, .int t_longest, .int t_side])), (h_t_chosen, .inl (cI, 3, .inl t_chosen)), (h_p1, .inr (0, [.ref h_p1_x, .ref h_p1_y, .ref h_p1_colour, .ref h_p1_load, .int p1_size, .int p1_centreX, .int p1_centreY])), (h_p1_x, .inl (cI, 24, .inl p1_x)), (h_p1_y, .inl (cI, 24, .inl p1_y))] sz) o_r [(h_t, .inr (7, [.ref h_t_chosen, .ref h_t_mixed, .ref h_t_near, .int t_gone, .int t_stuck, .int t_longest, .int t_side])), (h_t_chosen, .inl (cI, 3, .inl t_chosen)), (h_p1, .inr (0, [.ref h_p1_x, .ref h_p1_y, .ref h_p1_colour, .ref h_p1_load, .int p1_size, .int p1_centreX, .int p1_centreY])), (h_p1_x, .inl (cI, 24, .inl p1_x)), (h_p1_y, .inl (cI, 24, .inl p1_y))]) 0 0 (va_A [(h_t, .inr (7, [.ref h_t_chosen, .ref h_t_mixed, .ref h_t_near, .int t_gone, .int t_stuck, .int t_longest, .int t_side])), (h_t_chosen, .inl (cI, 3, .inl t_chosen)), (h_p1, .inr (0, [.ref h_p1_x, .ref h_p1_y, .ref h_p1_colour, .ref h_p1_load, .int p1_size, .int p1_centreX, .int p1_centreY])), (h_p1_x, .inl (cI, 24, .inl p1_x)), (h_p1_y, .inl (cI, 24, .inl p1_y))] sz) := by
  refine Met.ofW (cc := cX7_chosenHold) (maxL := 4) (ret := (some .boolean)) (by decide) rfl ?_
  intro p e s m args below meth c s₁ B hml hv
  obtain ⟨rfl, hsz, hP, hK, hD0, hT⟩ := hv
  have hx := B.exec
  have hb := B.bytes
  have hr := B.returns
  have hown : s.vm.findClass RX7 = some m.cls := findClass_of_methodNamed B.named
  have hlocks := B.notSynchronized
  have hts := TB.use hT ([.ref h_t, .ref h_p1, .int a2, .int a3] : List Value).toArray
  subst hsz
  have hD := hD0.self (sz := s.heap.size)
  generalize hAe : va_A [(h_t, .inr (7, [.ref h_t_chosen, .ref h_t_mixed, .ref h_t_near, .int t_gone, .int t_stuck, .int t_longest, .int t_side])), (h_t_chosen, .inl (cI, 3, .inl t_chosen)), (h_p1, .inr (0, [.ref h_p1_x, .ref h_p1_y, .ref h_p1_colour, .ref h_p1_load, .int p1_size, .int p1_centreX, .int p1_centreY])), (h_p1_x, .inl (cI, 24, .inl p1_x)), (h_p1_y, .inl (cI, 24, .inl p1_y))] s.heap.size = A at hD ⊢
  have hA : ∀ q : Nat, s.heap.size ≤ q → A q := fun q h => by rw [← hAe]; exact Or.inr h
  clear hAe hD0
  have hl := lv_entry ([.ref h_t, .ref h_p1, .int a2, .int a3]) (n := 4) (Nat.le_of_ble_eq_true rfl)
  rw [lg_entry_eq]
  generalize (lg_sl ([.ref h_t, .ref h_p1, .int a2, .int a3]) ++ List.replicate (4 - (lg_sl ([.ref h_t, .ref h_p1, .int a2, .int a3])).length) Slot.unset).toArray = ls at hl ⊢
  have hl : lv_has ls 4 [(0, .ref h_t), (1, .ref h_p1), (2, .int a2), (3, .int a3)] := hl
  have hF : 1 ≤ (headSpec [Cond.code yX7_chosenHold cX7_chosenHold 4 (some .boolean)] ({ frames := 1, cells := 0, slots := 0, locals := 34 })).room.frames := Nat.le_refl _
  have hLo : 34 ≤ (headSpec [Cond.code yX7_chosenHold cX7_chosenHold 4 (some .boolean)] ({ frames := 1, cells := 0, slots := 0, locals := 34 })).room.locals := Nat.le_refl _
  have C0 : Sx p (headSpec [Cond.code yX7_chosenHold cX7_chosenHold 4 (some .boolean)] ({ frames := 1, cells := 0, slots := 0, locals := 34 })).room s m ([.ref h_t, .ref h_p1, .int a2, .int a3] : List Value).toArray c cX7_chosenHold 4 RX7 A dC dI cI cL cB 1 34 := ⟨hx, hb, hml, hown, hts, hK, hT, hA, hF, hLo⟩
  refine startH (A := A) hP (fun H locs hP hS => ?_)
  rw [fX7_chosenHold] at hf
  refine lv_aload_n hx hb dX7_chosenHold_0 rfl (lv_at hl 1 rfl) ?_
  refine lv_aload_n hx hb dX7_chosenHold_1 rfl (lv_at hl 0 rfl) ?_
  refine va_get (D := (dC, dI)) (ci := 7) (v := .ref h_t_chosen) (C := RX7) (T := TX7) (N := 7) hx hb hts in_X7 hown hK hP 0 rfl rfl 0 (Nat.le_of_ble_eq_true rfl) (hts _ qf_X7_9) (fun _ h9 => h9) rfl dX7_chosenHold_2 ?_
  refine lv_iconst (v := (0 : Int32)) hx hb dX7_chosenHold_5 (by decide) ?_
  refine va_iald hx hb hK hP 1 0 rfl rfl (inb_in (by decide)) dX7_chosenHold_6 ?_
  refine lv_aload_n hx hb dX7_chosenHold_7 rfl (lv_at hl 0 rfl) ?_
  refine va_get (D := (dC, dI)) (ci := 7) (v := .ref h_t_chosen) (C := RX7) (T := TX7) (N := 7) hx hb hts in_X7 hown hK hP 0 rfl rfl 0 (Nat.le_of_ble_eq_true rfl) (hts _ qf_X7_9) (fun _ h9 => h9) rfl dX7_chosenHold_8 ?_
  refine lv_iconst (v := (1 : Int32)) hx hb dX7_chosenHold_11 (by decide) ?_
  refine va_iald hx hb hK hP 1 0 rfl rfl (inb_in (by decide)) dX7_chosenHold_12 ?_
  refine lv_aload_n hx hb dX7_chosenHold_13 rfl (lv_at hl 0 rfl) ?_
  refine va_get (D := (dC, dI)) (ci := 7) (v := .ref h_t_chosen) (C := RX7) (T := TX7) (N := 7) hx hb hts in_X7 hown hK hP 0 rfl rfl 0 (Nat.le_of_ble_eq_true rfl) (hts _ qf_X7_9) (fun _ h9 => h9) rfl dX7_chosenHold_14 ?_
  refine lv_iconst (v := (2 : Int32)) hx hb dX7_chosenHold_17 (by decide) ?_
  refine va_iald hx hb hK hP 1 0 rfl rfl (inb_in (by decide)) dX7_chosenHold_18 ?_
  refine lv_iload_n hx hb dX7_chosenHold_19 rfl (lv_at hl 2 rfl) ?_
  refine lv_iload_n hx hb dX7_chosenHold_20 rfl (lv_at hl 3 rfl) ?_
  obtain ⟨r_1, hq_2, hf⟩ := b1_some hf
  refine xci (wr := [(h_t, .inr (7, [.ref h_t_chosen, .ref h_t_mixed, .ref h_t_near, .int t_gone, .int t_stuck, .int t_longest, .int t_side])), (h_t_chosen, .inl (cI, 3, .inl t_chosen))]) (w2 := [(h_t, .inr (7, [.ref h_t_chosen, .ref h_t_mixed, .ref h_t_near, .int t_gone, .int t_stuck, .int t_longest, .int t_side])), (h_t_chosen, .inl (cI, 3, .inl t_chosen)), (h_p1, .inr (0, [.ref h_p1_x, .ref h_p1_y, .ref h_p1_colour, .ref h_p1_load, .int p1_size, .int p1_centreX, .int p1_centreY])), (h_p1_x, .inl (cI, 24, .inl p1_x)), (h_p1_y, .inl (cI, 24, .inl p1_y))]) (va_runSN (As := [.ref h_p1, .int (t_chosen (0 : Int32).toNatClampNeg), .int (t_chosen (1 : Int32).toNatClampNeg), .int (t_chosen (2 : Int32).toNatClampNeg), .int a2, .int a3]) (rest := []) ⟨hx, hb, hml, hown, hts⟩ (mtX11_triangleHolds l dC dI cI cL cB K h_p1 h_p1_x h_p1_y h_p1_colour h_p1_load H.size p1_size p1_centreX p1_centreY p1_x p1_y (t_chosen (0 : Int32).toNatClampNeg) (t_chosen (1 : Int32).toNatClampNeg) (t_chosen (2 : Int32).toNatClampNeg) a2 a3 r_1 hq_2) ⟨va_cnB 6 hts (gcode qc_X11_triangleHolds) rfl rfl rfl (hT _ qm_X7_39) (hts _ qz_X11) hdS_X11_triangleHolds ⟨Nat.le_trans (Nat.le_of_ble_eq_true rfl) hF, Nat.le_trans (Nat.le_of_ble_eq_true rfl) hLo⟩, hts _ qt_X11_triangleHolds, trivial⟩ (cPreS hK hP hD hT [2, 3, 4] rfl rfl) rfl rfl hl.1 rfl (lv_room (Nat.le_of_ble_eq_true rfl)) dX7_chosenHold_21 ⟨Nat.zero_le _, Nat.zero_le _⟩) hP hD hS hA [2, 3, 4] [0, 1] [0, 1, 2, 3, 4] rfl rfl rfl rfl rfl rfl (fun H locs hP hD hS => ?_)
  obtain ⟨hg_3, hf⟩ := gd_some hf
  obtain rfl := o1 hf
  exact W.zret hx hb hr (z01_b hg_3) (fun t ht hW => ⟨⟨_, (), rfl, rfl, by rw [ht]; exact hP, hD⟩, hS.F ht⟩) hS.2.2 dX7_chosenHold_24
theorem dX7_chooseNext_0 : decode cX7_chooseNext 0 = .ok (.iconst 2, 1) := by decide +kernel
theorem dX7_chooseNext_1 : decode cX7_chooseNext 1 = .ok (.istore_n 2, 1) := by decide +kernel
theorem dX7_chooseNext_2 : decode cX7_chooseNext 2 = .ok (.iload_n 2, 1) := by decide +kernel
theorem dX7_chooseNext_3 : decode cX7_chooseNext 3 = .ok (.ifCond .lt 53, 3) := by decide +kernel
theorem dX7_chooseNext_6 : decode cX7_chooseNext 6 = .ok (.aload_n 0, 1) := by decide +kernel
theorem dX7_chooseNext_7 : decode cX7_chooseNext 7 = .ok (.getfield 9, 3) := by decide +kernel
theorem dX7_chooseNext_10 : decode cX7_chooseNext 10 = .ok (.iload_n 2, 1) := by decide +kernel
theorem dX7_chooseNext_11 : decode cX7_chooseNext 11 = .ok (.aload_n 1, 1) := by decide +kernel
theorem dX7_chooseNext_12 : decode cX7_chooseNext 12 = .ok (.iload_n 2, 1) := by decide +kernel
theorem dX7_chooseNext_13 : decode cX7_chooseNext 13 = .ok (.aload_n 0, 1) := by decide +kernel
theorem dX7_chooseNext_14 : decode cX7_chooseNext 14 = .ok (.getfield 9, 3) := by decide +kernel
theorem dX7_chooseNext_17 : decode cX7_chooseNext 17 = .ok (.iload_n 2, 1) := by decide +kernel
theorem dX7_chooseNext_18 : decode cX7_chooseNext 18 = .ok (.iaload, 1) := by decide +kernel
theorem dX7_chooseNext_19 : decode cX7_chooseNext 19 = .ok (.invokestatic 35, 3) := by decide +kernel
theorem dX7_chooseNext_22 : decode cX7_chooseNext 22 = .ok (.iastore, 1) := by decide +kernel
theorem dX7_chooseNext_23 : decode cX7_chooseNext 23 = .ok (.aload_n 0, 1) := by decide +kernel
theorem dX7_chooseNext_24 : decode cX7_chooseNext 24 = .ok (.getfield 9, 3) := by decide +kernel
theorem dX7_chooseNext_27 : decode cX7_chooseNext 27 = .ok (.iload_n 2, 1) := by decide +kernel
theorem dX7_chooseNext_28 : decode cX7_chooseNext 28 = .ok (.iaload, 1) := by decide +kernel
theorem dX7_chooseNext_29 : decode cX7_chooseNext 29 = .ok (.aload_n 1, 1) := by decide +kernel
theorem dX7_chooseNext_30 : decode cX7_chooseNext 30 = .ok (.getfield 26, 3) := by decide +kernel
theorem dX7_chooseNext_33 : decode cX7_chooseNext 33 = .ok (.if_icmp .ge 5, 3) := by decide +kernel
theorem dX7_chooseNext_36 : decode cX7_chooseNext 36 = .ok (.iconst 1, 1) := by decide +kernel
theorem dX7_chooseNext_37 : decode cX7_chooseNext 37 = .ok (.ireturn, 1) := by decide +kernel
theorem dX7_chooseNext_38 : decode cX7_chooseNext 38 = .ok (.aload_n 0, 1) := by decide +kernel
theorem dX7_chooseNext_39 : decode cX7_chooseNext 39 = .ok (.getfield 9, 3) := by decide +kernel
theorem dX7_chooseNext_42 : decode cX7_chooseNext 42 = .ok (.iload_n 2, 1) := by decide +kernel
theorem dX7_chooseNext_43 : decode cX7_chooseNext 43 = .ok (.aload_n 1, 1) := by decide +kernel
theorem dX7_chooseNext_44 : decode cX7_chooseNext 44 = .ok (.iload_n 2, 1) := by decide +kernel
theorem dX7_chooseNext_45 : decode cX7_chooseNext 45 = .ok (.iconst (-1), 1) := by decide +kernel
theorem dX7_chooseNext_46 : decode cX7_chooseNext 46 = .ok (.invokestatic 35, 3) := by decide +kernel
theorem dX7_chooseNext_49 : decode cX7_chooseNext 49 = .ok (.iastore, 1) := by decide +kernel
theorem dX7_chooseNext_50 : decode cX7_chooseNext 50 = .ok (.iinc 2 (-1), 3) := by decide +kernel
theorem dX7_chooseNext_53 : decode cX7_chooseNext 53 = .ok (.goto (-51), 3) := by decide +kernel
theorem dX7_chooseNext_56 : decode cX7_chooseNext 56 = .ok (.iconst 0, 1) := by decide +kernel
theorem dX7_chooseNext_57 : decode cX7_chooseNext 57 = .ok (.ireturn, 1) := by decide +kernel
set_option maxRecDepth 100000 in
set_option maxHeartbeats 4000000 in
theorem wX7_chooseNext_L2 {p : Program} {l : Launch} {e : Env} {R : Room} {s : State} {m : MethodId} {args : Array Value} {below : List Frame} {meth : Method} {c : Code} {Q : State → Prop} {A : Nat → Prop} {dC : Nat → ClassId} {dI : Nat → Nat → Nat} {cI cL cB : ClassId} {K : Nat} (C0 : Sx p R s m args c cX7_chooseNext 3 RX7 A dC dI cI cL cB 1 23) (h_t h_t_chosen h_t_mixed h_t_near h_p1 h_p1_x h_p1_y h_p1_colour h_p1_load : Nat) (t_gone : Int32) (t_stuck : Int32) (t_longest : Int32) (t_side : Int32) (p1_size : Int32) (p1_centreX : Int32) (p1_centreY : Int32) (p1_colour : Nat → Int32) : ∀ (n : Nat) (l2 : Int32) (t_chosen : Nat → Int32) (ex : ((Nat → Int32)) ⊕ ((Nat → Int32))) (H : Heap) (locs : List Loc) (ls : Array Slot), va_P (dC, dI) vwCl [(h_t, .inr (7, [.ref h_t_chosen, .ref h_t_mixed, .ref h_t_near, .int t_gone, .int t_stuck, .int t_longest, .int t_side])), (h_t_chosen, .inl (cI, 3, .inl t_chosen)), (h_p1, .inr (0, [.ref h_p1_x, .ref h_p1_y, .ref h_p1_colour, .ref h_p1_load, .int p1_size, .int p1_centreX, .int p1_centreY])), (h_p1_colour, .inl (cI, 24, .inl p1_colour))] H → va_D A [(h_t, .inr (7, [.ref h_t_chosen, .ref h_t_mixed, .ref h_t_near, .int t_gone, .int t_stuck, .int t_longest, .int t_side])), (h_t_chosen, .inl (cI, 3, .inl t_chosen)), (h_p1, .inr (0, [.ref h_p1_x, .ref h_p1_y, .ref h_p1_colour, .ref h_p1_load, .int p1_size, .int p1_centreX, .int p1_centreY])), (h_p1_colour, .inl (cI, 24, .inl p1_colour))] → va_S A s.heap H locs → lv_has ls 3 [(0, .ref h_t), (1, .ref h_p1), (2, .int l2)] → fX7_chooseNext_L2 K p1_size p1_colour n l2 t_chosen = some ex → (∀ (x_t_chosen : Nat → Int32), ex = (.inl x_t_chosen) → ∀ (H : Heap) (locs : List Loc) (ls : Array Slot), va_P (dC, dI) vwCl [(h_t, .inr (7, [.ref h_t_chosen, .ref h_t_mixed, .ref h_t_near, .int t_gone, .int t_stuck, .int t_longest, .int t_side])), (h_t_chosen, .inl (cI, 3, .inl x_t_chosen)), (h_p1, .inr (0, [.ref h_p1_x, .ref h_p1_y, .ref h_p1_colour, .ref h_p1_load, .int p1_size, .int p1_centreX, .int p1_centreY])), (h_p1_colour, .inl (cI, 24, .inl p1_colour))] H → va_D A [(h_t, .inr (7, [.ref h_t_chosen, .ref h_t_mixed, .ref h_t_near, .int t_gone, .int t_stuck, .int t_longest, .int t_side])), (h_t_chosen, .inl (cI, 3, .inl x_t_chosen)), (h_p1, .inr (0, [.ref h_p1_x, .ref h_p1_y, .ref h_p1_colour, .ref h_p1_load, .int p1_size, .int p1_centreX, .int p1_centreY])), (h_p1_colour, .inl (cI, 24, .inl p1_colour))] → va_S A s.heap H locs → lv_has ls 3 [] → W p l e R s m args below meth c H locs 0 0 Q (F0 m 36 ls [])) → (∀ (x_t_chosen : Nat → Int32), ex = (.inr x_t_chosen) → ∀ (H : Heap) (locs : List Loc) (ls : Array Slot), va_P (dC, dI) vwCl [(h_t, .inr (7, [.ref h_t_chosen, .ref h_t_mixed, .ref h_t_near, .int t_gone, .int t_stuck, .int t_longest, .int t_side])), (h_t_chosen, .inl (cI, 3, .inl x_t_chosen)), (h_p1, .inr (0, [.ref h_p1_x, .ref h_p1_y, .ref h_p1_colour, .ref h_p1_load, .int p1_size, .int p1_centreX, .int p1_centreY])), (h_p1_colour, .inl (cI, 24, .inl p1_colour))] H → va_D A [(h_t, .inr (7, [.ref h_t_chosen, .ref h_t_mixed, .ref h_t_near, .int t_gone, .int t_stuck, .int t_longest, .int t_side])), (h_t_chosen, .inl (cI, 3, .inl x_t_chosen)), (h_p1, .inr (0, [.ref h_p1_x, .ref h_p1_y, .ref h_p1_colour, .ref h_p1_load, .int p1_size, .int p1_centreX, .int p1_centreY])), (h_p1_colour, .inl (cI, 24, .inl p1_colour))] → va_S A s.heap H locs → lv_has ls 3 [] → W p l e R s m args below meth c H locs 0 0 Q (F0 m 56 ls [])) → W p l e R s m args below meth c H locs 0 0 Q (F0 m 2 ls []) := by
  obtain ⟨hx, hb, hml, hown, hts, hK, hT, hA, hF, hLo⟩ := id C0
  intro n
  induction n with
  | zero =>
    intro l2 t_chosen ex H locs ls hP hD hS hl hf
    rw [fX7_chooseNext_L2] at hf
    cases hf
  | succ n ih =>
    intro l2 t_chosen ex H locs ls hP hD hS hl hf hk0 hk1
    rw [fX7_chooseNext_L2] at hf
    refine lv_iload_n hx hb dX7_chooseNext_2 rfl (lv_at hl 2 rfl) ?_
    refine lv_if_lt (tgt := 56) hx hb dX7_chooseNext_3 (by decide) (fun hc => ?_) (fun hc => ?_)
    · replace hf := it_t (hc) hf
      exact hk1 t_chosen (Option.some.inj hf).symm H locs ls hP hD hS (lv_sub hl [] rfl)
    · replace hf := it_f (hc) hf
      refine lv_aload_n hx hb dX7_chooseNext_6 rfl (lv_at hl 0 rfl) ?_
      refine va_get (D := (dC, dI)) (ci := 7) (v := .ref h_t_chosen) (C := RX7) (T := TX7) (N := 7) hx hb hts in_X7 hown hK hP 0 rfl rfl 0 (Nat.le_of_ble_eq_true rfl) (hts _ qf_X7_9) (fun _ h9 => h9) rfl dX7_chooseNext_7 ?_
      refine lv_iload_n hx hb dX7_chooseNext_10 rfl (lv_at hl 2 rfl) ?_
      refine lv_aload_n hx hb dX7_chooseNext_11 rfl (lv_at hl 1 rfl) ?_
      refine lv_iload_n hx hb dX7_chooseNext_12 rfl (lv_at hl 2 rfl) ?_
      refine lv_aload_n hx hb dX7_chooseNext_13 rfl (lv_at hl 0 rfl) ?_
      refine va_get (D := (dC, dI)) (ci := 7) (v := .ref h_t_chosen) (C := RX7) (T := TX7) (N := 7) hx hb hts in_X7 hown hK hP 0 rfl rfl 0 (Nat.le_of_ble_eq_true rfl) (hts _ qf_X7_9) (fun _ h9 => h9) rfl dX7_chooseNext_14 ?_
      refine lv_iload_n hx hb dX7_chooseNext_17 rfl (lv_at hl 2 rfl) ?_
      obtain ⟨hg_1, hf⟩ := gd_some hf
      refine va_iald hx hb hK hP 1 0 rfl rfl (inb_in hg_1) dX7_chooseNext_18 ?_
      obtain ⟨r_2, hq_3, hf⟩ := b1_some hf
      refine xci (wr := [(h_t, .inr (7, [.ref h_t_chosen, .ref h_t_mixed, .ref h_t_near, .int t_gone, .int t_stuck, .int t_longest, .int t_side])), (h_t_chosen, .inl (cI, 3, .inl t_chosen))]) (w2 := [(h_t, .inr (7, [.ref h_t_chosen, .ref h_t_mixed, .ref h_t_near, .int t_gone, .int t_stuck, .int t_longest, .int t_side])), (h_t_chosen, .inl (cI, 3, .inl t_chosen)), (h_p1, .inr (0, [.ref h_p1_x, .ref h_p1_y, .ref h_p1_colour, .ref h_p1_load, .int p1_size, .int p1_centreX, .int p1_centreY])), (h_p1_colour, .inl (cI, 24, .inl p1_colour))]) (va_runS (As := [.ref h_p1, .int l2, .int (t_chosen l2.toNatClampNeg)]) (rest := [.int l2, .ref h_t_chosen]) ⟨hx, hb, hml, hown, hts⟩ (mtX7_following l dC dI cI cL cB K h_p1 h_p1_x h_p1_y h_p1_colour h_p1_load H.size p1_size p1_centreX p1_centreY p1_colour l2 (t_chosen l2.toNatClampNeg) r_2 hq_3) (va_cwS 3 hts gs_X7_35 rfl rfl rfl hdS_X7_following ⟨Nat.le_trans (Nat.le_of_ble_eq_true rfl) hF, Nat.le_trans (Nat.le_of_ble_eq_true rfl) hLo⟩) (cPreS hK hP hD hT [2, 3] rfl rfl) rfl rfl hl.1 rfl (lv_room (Nat.le_of_ble_eq_true rfl)) dX7_chooseNext_19 ⟨Nat.zero_le _, Nat.zero_le _⟩) hP hD hS hA [2, 3] [0, 1] [0, 1, 2, 3] rfl rfl rfl rfl rfl rfl (fun H locs hP hD hS => ?_)
      obtain ⟨hg_4, hf⟩ := gd_some hf
      obtain ⟨t_chosen_5, et_chosen_5⟩ : ∃ y : Nat → Int32, y = upd t_chosen l2.toNatClampNeg r_2 := ⟨_, rfl⟩
      replace hf := xl_at hf et_chosen_5
      refine xiast (w2 := [(h_t, .inr (7, [.ref h_t_chosen, .ref h_t_mixed, .ref h_t_near, .int t_gone, .int t_stuck, .int t_longest, .int t_side])), (h_t_chosen, .inl (cI, 3, .inl t_chosen_5)), (h_p1, .inr (0, [.ref h_p1_x, .ref h_p1_y, .ref h_p1_colour, .ref h_p1_load, .int p1_size, .int p1_centreX, .int p1_centreY])), (h_p1_colour, .inl (cI, 24, .inl p1_colour))]) hx hb hK hP hD hS 1 0 rfl rfl (inb_in hg_4) et_chosen_5 rfl dX7_chooseNext_22 (fun H locs hP hD hS => ?_)
      refine lv_aload_n hx hb dX7_chooseNext_23 rfl (lv_at hl 0 rfl) ?_
      refine va_get (D := (dC, dI)) (ci := 7) (v := .ref h_t_chosen) (C := RX7) (T := TX7) (N := 7) hx hb hts in_X7 hown hK hP 0 rfl rfl 0 (Nat.le_of_ble_eq_true rfl) (hts _ qf_X7_9) (fun _ h9 => h9) rfl dX7_chooseNext_24 ?_
      refine lv_iload_n hx hb dX7_chooseNext_27 rfl (lv_at hl 2 rfl) ?_
      obtain ⟨hg_6, hf⟩ := gd_some hf
      refine va_iald hx hb hK hP 1 0 rfl rfl (inb_in hg_6) dX7_chooseNext_28 ?_
      refine lv_aload_n hx hb dX7_chooseNext_29 rfl (lv_at hl 1 rfl) ?_
      refine va_get (D := (dC, dI)) (ci := 0) (v := .int p1_size) (C := RX0) (T := TX0) (N := 7) hx hb hts in_X0 hown hK hP 2 rfl rfl 4 (Nat.le_of_ble_eq_true rfl) (hts _ qf_X7_26) (fun _ h9 => h9) rfl dX7_chooseNext_30 ?_
      refine lv_icmp_ge (tgt := 38) hx hb dX7_chooseNext_33 (by decide) (fun hc => ?_) (fun hc => ?_)
      · replace hf := it_t (hc) hf
        refine lv_aload_n hx hb dX7_chooseNext_38 rfl (lv_at hl 0 rfl) ?_
        refine va_get (D := (dC, dI)) (ci := 7) (v := .ref h_t_chosen) (C := RX7) (T := TX7) (N := 7) hx hb hts in_X7 hown hK hP 0 rfl rfl 0 (Nat.le_of_ble_eq_true rfl) (hts _ qf_X7_9) (fun _ h9 => h9) rfl dX7_chooseNext_39 ?_
        refine lv_iload_n hx hb dX7_chooseNext_42 rfl (lv_at hl 2 rfl) ?_
        refine lv_aload_n hx hb dX7_chooseNext_43 rfl (lv_at hl 1 rfl) ?_
        refine lv_iload_n hx hb dX7_chooseNext_44 rfl (lv_at hl 2 rfl) ?_
        refine lv_iconst (v := (-1 : Int32)) hx hb dX7_chooseNext_45 (by decide) ?_
        obtain ⟨r_7, hq_8, hf⟩ := b1_some hf
        refine xci (wr := [(h_t, .inr (7, [.ref h_t_chosen, .ref h_t_mixed, .ref h_t_near, .int t_gone, .int t_stuck, .int t_longest, .int t_side])), (h_t_chosen, .inl (cI, 3, .inl t_chosen_5))]) (w2 := [(h_t, .inr (7, [.ref h_t_chosen, .ref h_t_mixed, .ref h_t_near, .int t_gone, .int t_stuck, .int t_longest, .int t_side])), (h_t_chosen, .inl (cI, 3, .inl t_chosen_5)), (h_p1, .inr (0, [.ref h_p1_x, .ref h_p1_y, .ref h_p1_colour, .ref h_p1_load, .int p1_size, .int p1_centreX, .int p1_centreY])), (h_p1_colour, .inl (cI, 24, .inl p1_colour))]) (va_runS (As := [.ref h_p1, .int l2, .int (-1 : Int32)]) (rest := [.int l2, .ref h_t_chosen]) ⟨hx, hb, hml, hown, hts⟩ (mtX7_following l dC dI cI cL cB K h_p1 h_p1_x h_p1_y h_p1_colour h_p1_load H.size p1_size p1_centreX p1_centreY p1_colour l2 (-1 : Int32) r_7 hq_8) (va_cwS 3 hts gs_X7_35 rfl rfl rfl hdS_X7_following ⟨Nat.le_trans (Nat.le_of_ble_eq_true rfl) hF, Nat.le_trans (Nat.le_of_ble_eq_true rfl) hLo⟩) (cPreS hK hP hD hT [2, 3] rfl rfl) rfl rfl hl.1 rfl (lv_room (Nat.le_of_ble_eq_true rfl)) dX7_chooseNext_46 ⟨Nat.zero_le _, Nat.zero_le _⟩) hP hD hS hA [2, 3] [0, 1] [0, 1, 2, 3] rfl rfl rfl rfl rfl rfl (fun H locs hP hD hS => ?_)
        obtain ⟨hg_9, hf⟩ := gd_some hf
        obtain ⟨t_chosen_10, et_chosen_10⟩ : ∃ y : Nat → Int32, y = upd t_chosen_5 l2.toNatClampNeg r_7 := ⟨_, rfl⟩
        replace hf := xl_at hf et_chosen_10
        refine xiast (w2 := [(h_t, .inr (7, [.ref h_t_chosen, .ref h_t_mixed, .ref h_t_near, .int t_gone, .int t_stuck, .int t_longest, .int t_side])), (h_t_chosen, .inl (cI, 3, .inl t_chosen_10)), (h_p1, .inr (0, [.ref h_p1_x, .ref h_p1_y, .ref h_p1_colour, .ref h_p1_load, .int p1_size, .int p1_centreX, .int p1_centreY])), (h_p1_colour, .inl (cI, 24, .inl p1_colour))]) hx hb hK hP hD hS 1 0 rfl rfl (inb_in hg_9) et_chosen_10 rfl dX7_chooseNext_49 (fun H locs hP hD hS => ?_)
        obtain ⟨l2_11, el2_11⟩ : ∃ y : Int32, y = l2 + (-1 : Int32) := ⟨_, rfl⟩
        replace hf := xl_at hf el2_11
        refine lv_iinc (v := l2_11) (lv' := [(2, .int l2_11), (0, .ref h_t), (1, .ref h_p1)]) hx hb dX7_chooseNext_50 hl (k := 2) rfl (by rw [el2_11]; rfl) (Nat.le_of_ble_eq_true rfl) rfl (fun ls hl => ?_)
        refine lv_goto (tgt := 2) hx hb dX7_chooseNext_53 (by decide) ?_
        exact ih l2_11 t_chosen_10 _ H locs ls hP hD hS (lv_sub hl [1, 2, 0] rfl) hf hk0 hk1
      · replace hf := it_f (hc) hf
        exact hk0 t_chosen_5 (Option.some.inj hf).symm H locs ls hP hD hS (lv_sub hl [] rfl)
set_option maxRecDepth 100000 in
set_option maxHeartbeats 4000000 in
theorem mtX7_chooseNext (l : Launch) (dC : Nat → ClassId) (dI : Nat → Nat → Nat) (cI cL cB : ClassId) (K : Nat) (h_t h_t_chosen h_t_mixed h_t_near h_p1 h_p1_x h_p1_y h_p1_colour h_p1_load : Nat) (sz : Nat) (t_gone : Int32) (t_stuck : Int32) (t_longest : Int32) (t_side : Int32) (t_chosen : Nat → Int32) (p1_size : Int32) (p1_centreX : Int32) (p1_centreY : Int32) (p1_colour : Nat → Int32) (o_r : Int32) (o_t_chosen : Nat → Int32) (hf : fX7_chooseNext K t_chosen p1_size p1_colour = some (o_r, o_t_chosen)) : Met l yX7_chooseNext [Cond.code yX7_chooseNext cX7_chooseNext 3 (some .boolean)] ({ frames := 1, cells := 0, slots := 0, locals := 23 }) (va_Pc [.ref h_t, .ref h_p1] (cPre dC dI cI cL cB sz [(h_t, .inr (7, [.ref h_t_chosen, .ref h_t_mixed, .ref h_t_near, .int t_gone, .int t_stuck, .int t_longest, .int t_side])), (h_t_chosen, .inl (cI, 3, .inl t_chosen)), (h_p1, .inr (0, [.ref h_p1_x, .ref h_p1_y, .ref h_p1_colour, .ref h_p1_load, .int p1_size, .int p1_centreX, .int p1_centreY])), (h_p1_colour, .inl (cI, 24, .inl p1_colour))])) (cQi dC dI (va_A [(h_t, .inr (7, [.ref h_t_chosen, .ref h_t_mixed, .ref h_t_near, .int t_gone, .int t_stuck, .int t_longest, .int t_side])), (h_t_chosen, .inl (cI, 3, .inl t_chosen)), (h_p1, .inr (0, [.ref h_p1_x, .ref h_p1_y, .ref h_p1_colour, .ref h_p1_load, .int p1_size, .int p1_centreX, .int p1_centreY])), (h_p1_colour, .inl (cI, 24, .inl p1_colour))] sz) o_r [(h_t, .inr (7, [.ref h_t_chosen, .ref h_t_mixed, .ref h_t_near, .int t_gone, .int t_stuck, .int t_longest, .int t_side])), (h_t_chosen, .inl (cI, 3, .inl o_t_chosen)), (h_p1, .inr (0, [.ref h_p1_x, .ref h_p1_y, .ref h_p1_colour, .ref h_p1_load, .int p1_size, .int p1_centreX, .int p1_centreY])), (h_p1_colour, .inl (cI, 24, .inl p1_colour))]) 0 0 (va_A [(h_t, .inr (7, [.ref h_t_chosen, .ref h_t_mixed, .ref h_t_near, .int t_gone, .int t_stuck, .int t_longest, .int t_side])), (h_t_chosen, .inl (cI, 3, .inl t_chosen)), (h_p1, .inr (0, [.ref h_p1_x, .ref h_p1_y, .ref h_p1_colour, .ref h_p1_load, .int p1_size, .int p1_centreX, .int p1_centreY])), (h_p1_colour, .inl (cI, 24, .inl p1_colour))] sz) := by
  refine Met.ofW (cc := cX7_chooseNext) (maxL := 3) (ret := (some .boolean)) (by decide) rfl ?_
  intro p e s m args below meth c s₁ B hml hv
  obtain ⟨rfl, hsz, hP, hK, hD0, hT⟩ := hv
  have hx := B.exec
  have hb := B.bytes
  have hr := B.returns
  have hown : s.vm.findClass RX7 = some m.cls := findClass_of_methodNamed B.named
  have hlocks := B.notSynchronized
  have hts := TB.use hT ([.ref h_t, .ref h_p1] : List Value).toArray
  subst hsz
  have hD := hD0.self (sz := s.heap.size)
  generalize hAe : va_A [(h_t, .inr (7, [.ref h_t_chosen, .ref h_t_mixed, .ref h_t_near, .int t_gone, .int t_stuck, .int t_longest, .int t_side])), (h_t_chosen, .inl (cI, 3, .inl t_chosen)), (h_p1, .inr (0, [.ref h_p1_x, .ref h_p1_y, .ref h_p1_colour, .ref h_p1_load, .int p1_size, .int p1_centreX, .int p1_centreY])), (h_p1_colour, .inl (cI, 24, .inl p1_colour))] s.heap.size = A at hD ⊢
  have hA : ∀ q : Nat, s.heap.size ≤ q → A q := fun q h => by rw [← hAe]; exact Or.inr h
  clear hAe hD0
  have hl := lv_entry ([.ref h_t, .ref h_p1]) (n := 3) (Nat.le_of_ble_eq_true rfl)
  rw [lg_entry_eq]
  generalize (lg_sl ([.ref h_t, .ref h_p1]) ++ List.replicate (3 - (lg_sl ([.ref h_t, .ref h_p1])).length) Slot.unset).toArray = ls at hl ⊢
  have hl : lv_has ls 3 [(0, .ref h_t), (1, .ref h_p1)] := hl
  have hF : 1 ≤ (headSpec [Cond.code yX7_chooseNext cX7_chooseNext 3 (some .boolean)] ({ frames := 1, cells := 0, slots := 0, locals := 23 })).room.frames := Nat.le_refl _
  have hLo : 23 ≤ (headSpec [Cond.code yX7_chooseNext cX7_chooseNext 3 (some .boolean)] ({ frames := 1, cells := 0, slots := 0, locals := 23 })).room.locals := Nat.le_refl _
  have C0 : Sx p (headSpec [Cond.code yX7_chooseNext cX7_chooseNext 3 (some .boolean)] ({ frames := 1, cells := 0, slots := 0, locals := 23 })).room s m ([.ref h_t, .ref h_p1] : List Value).toArray c cX7_chooseNext 3 RX7 A dC dI cI cL cB 1 23 := ⟨hx, hb, hml, hown, hts, hK, hT, hA, hF, hLo⟩
  refine startH (A := A) hP (fun H locs hP hS => ?_)
  rw [fX7_chooseNext] at hf
  refine lv_iconst (v := (2 : Int32)) hx hb dX7_chooseNext_0 (by decide) ?_
  refine lv_istore_n (lv' := [(2, .int (2 : Int32)), (0, .ref h_t), (1, .ref h_p1)]) hx hb dX7_chooseNext_1 rfl hl (Nat.le_of_ble_eq_true rfl) rfl (fun ls hl => ?_)
  obtain ⟨ex_15, hq_12, hf⟩ := sm_some hf
  refine wX7_chooseNext_L2 C0 h_t h_t_chosen h_t_mixed h_t_near h_p1 h_p1_x h_p1_y h_p1_colour h_p1_load t_gone t_stuck t_longest t_side p1_size p1_centreX p1_centreY p1_colour K (2 : Int32) t_chosen ex_15 H locs ls hP hD hS (lv_sub hl [1, 2, 0] rfl) hq_12 ?_ ?_
  · intro t_chosen_13 he H locs ls hP hD hS hl
    subst he
    replace hf := el1 hf
    refine lv_iconst (v := (1 : Int32)) hx hb dX7_chooseNext_36 (by decide) ?_
    obtain ⟨rfl, rfl⟩ := o2 hf
    exact W.zret hx hb hr rfl (fun t ht hW => ⟨⟨_, (), rfl, rfl, by rw [ht]; exact hP, hD⟩, hS.F ht⟩) hS.2.2 dX7_chooseNext_37
  · intro t_chosen_14 he H locs ls hP hD hS hl
    subst he
    replace hf := er1 hf
    refine lv_iconst (v := (0 : Int32)) hx hb dX7_chooseNext_56 (by decide) ?_
    obtain ⟨rfl, rfl⟩ := o2 hf
    exact W.zret hx hb hr rfl (fun t ht hW => ⟨⟨_, (), rfl, rfl, by rw [ht]; exact hP, hD⟩, hS.F ht⟩) hS.2.2 dX7_chooseNext_57
theorem dX7_countHolding_0 : decode cX7_countHolding 0 = .ok (.iconst 0, 1) := by decide +kernel
theorem dX7_countHolding_1 : decode cX7_countHolding 1 = .ok (.istore 4, 2) := by decide +kernel
theorem dX7_countHolding_3 : decode cX7_countHolding 3 = .ok (.aload_n 0, 1) := by decide +kernel
theorem dX7_countHolding_4 : decode cX7_countHolding 4 = .ok (.aload_n 1, 1) := by decide +kernel
theorem dX7_countHolding_5 : decode cX7_countHolding 5 = .ok (.invokevirtual 43, 3) := by decide +kernel
theorem dX7_countHolding_8 : decode cX7_countHolding 8 = .ok (.istore 5, 2) := by decide +kernel
theorem dX7_countHolding_10 : decode cX7_countHolding 10 = .ok (.iconst 0, 1) := by decide +kernel
theorem dX7_countHolding_11 : decode cX7_countHolding 11 = .ok (.istore 6, 2) := by decide +kernel
theorem dX7_countHolding_13 : decode cX7_countHolding 13 = .ok (.iload 6, 2) := by decide +kernel
theorem dX7_countHolding_15 : decode cX7_countHolding 15 = .ok (.sipush 512, 3) := by decide +kernel
theorem dX7_countHolding_18 : decode cX7_countHolding 18 = .ok (.if_icmp .ge 34, 3) := by decide +kernel
theorem dX7_countHolding_21 : decode cX7_countHolding 21 = .ok (.iload 5, 2) := by decide +kernel
theorem dX7_countHolding_23 : decode cX7_countHolding 23 = .ok (.ifCond .eq 29, 3) := by decide +kernel
theorem dX7_countHolding_26 : decode cX7_countHolding 26 = .ok (.aload_n 0, 1) := by decide +kernel
theorem dX7_countHolding_27 : decode cX7_countHolding 27 = .ok (.aload_n 1, 1) := by decide +kernel
theorem dX7_countHolding_28 : decode cX7_countHolding 28 = .ok (.iload_n 2, 1) := by decide +kernel
theorem dX7_countHolding_29 : decode cX7_countHolding 29 = .ok (.iload_n 3, 1) := by decide +kernel
theorem dX7_countHolding_30 : decode cX7_countHolding 30 = .ok (.invokevirtual 47, 3) := by decide +kernel
theorem dX7_countHolding_33 : decode cX7_countHolding 33 = .ok (.ifCond .eq 6, 3) := by decide +kernel
theorem dX7_countHolding_36 : decode cX7_countHolding 36 = .ok (.iinc 4 1, 3) := by decide +kernel
theorem dX7_countHolding_39 : decode cX7_countHolding 39 = .ok (.aload_n 0, 1) := by decide +kernel
theorem dX7_countHolding_40 : decode cX7_countHolding 40 = .ok (.aload_n 1, 1) := by decide +kernel
theorem dX7_countHolding_41 : decode cX7_countHolding 41 = .ok (.invokevirtual 51, 3) := by decide +kernel
theorem dX7_countHolding_44 : decode cX7_countHolding 44 = .ok (.istore 5, 2) := by decide +kernel
theorem dX7_countHolding_46 : decode cX7_countHolding 46 = .ok (.iinc 6 1, 3) := by decide +kernel
theorem dX7_countHolding_49 : decode cX7_countHolding 49 = .ok (.goto (-36), 3) := by decide +kernel
theorem dX7_countHolding_52 : decode cX7_countHolding 52 = .ok (.iload 4, 2) := by decide +kernel
theorem dX7_countHolding_54 : decode cX7_countHolding 54 = .ok (.ireturn, 1) := by decide +kernel
set_option maxRecDepth 100000 in
set_option maxHeartbeats 4000000 in
theorem wX7_countHolding_L13 {p : Program} {l : Launch} {e : Env} {R : Room} {s : State} {m : MethodId} {args : Array Value} {below : List Frame} {meth : Method} {c : Code} {Q : State → Prop} {A : Nat → Prop} {dC : Nat → ClassId} {dI : Nat → Nat → Nat} {cI cL cB : ClassId} {K : Nat} (C0 : Sx p R s m args c cX7_countHolding 7 RX7 A dC dI cI cL cB 2 57) (h_t h_t_chosen h_t_mixed h_t_near h_p1 h_p1_x h_p1_y h_p1_colour h_p1_load : Nat) (t_gone : Int32) (t_stuck : Int32) (t_longest : Int32) (t_side : Int32) (p1_size : Int32) (p1_centreX : Int32) (p1_centreY : Int32) (p1_x : Nat → Int32) (p1_y : Nat → Int32) (p1_colour : Nat → Int32) (l2 : Int32) (l3 : Int32) : ∀ (n : Nat) (l4 : Int32) (l5 : Int32) (l6 : Int32) (t_chosen : Nat → Int32) (x4_ : Int32) (x_t_chosen : Nat → Int32) (H : Heap) (locs : List Loc) (ls : Array Slot), va_P (dC, dI) vwCl [(h_t, .inr (7, [.ref h_t_chosen, .ref h_t_mixed, .ref h_t_near, .int t_gone, .int t_stuck, .int t_longest, .int t_side])), (h_t_chosen, .inl (cI, 3, .inl t_chosen)), (h_p1, .inr (0, [.ref h_p1_x, .ref h_p1_y, .ref h_p1_colour, .ref h_p1_load, .int p1_size, .int p1_centreX, .int p1_centreY])), (h_p1_x, .inl (cI, 24, .inl p1_x)), (h_p1_y, .inl (cI, 24, .inl p1_y)), (h_p1_colour, .inl (cI, 24, .inl p1_colour))] H → va_D A [(h_t, .inr (7, [.ref h_t_chosen, .ref h_t_mixed, .ref h_t_near, .int t_gone, .int t_stuck, .int t_longest, .int t_side])), (h_t_chosen, .inl (cI, 3, .inl t_chosen)), (h_p1, .inr (0, [.ref h_p1_x, .ref h_p1_y, .ref h_p1_colour, .ref h_p1_load, .int p1_size, .int p1_centreX, .int p1_centreY])), (h_p1_x, .inl (cI, 24, .inl p1_x)), (h_p1_y, .inl (cI, 24, .inl p1_y)), (h_p1_colour, .inl (cI, 24, .inl p1_colour))] → va_S A s.heap H locs → lv_has ls 7 [(0, .ref h_t), (1, .ref h_p1), (2, .int l2), (3, .int l3), (4, .int l4), (5, .int l5), (6, .int l6)] → fX7_countHolding_L13 K l2 l3 p1_size p1_x p1_y p1_colour n l4 l5 l6 t_chosen = some (x4_, x_t_chosen) → (∀ (H : Heap) (locs : List Loc) (ls : Array Slot), va_P (dC, dI) vwCl [(h_t, .inr (7, [.ref h_t_chosen, .ref h_t_mixed, .ref h_t_near, .int t_gone, .int t_stuck, .int t_longest, .int t_side])), (h_t_chosen, .inl (cI, 3, .inl x_t_chosen)), (h_p1, .inr (0, [.ref h_p1_x, .ref h_p1_y, .ref h_p1_colour, .ref h_p1_load, .int p1_size, .int p1_centreX, .int p1_centreY])), (h_p1_x, .inl (cI, 24, .inl p1_x)), (h_p1_y, .inl (cI, 24, .inl p1_y)), (h_p1_colour, .inl (cI, 24, .inl p1_colour))] H → va_D A [(h_t, .inr (7, [.ref h_t_chosen, .ref h_t_mixed, .ref h_t_near, .int t_gone, .int t_stuck, .int t_longest, .int t_side])), (h_t_chosen, .inl (cI, 3, .inl x_t_chosen)), (h_p1, .inr (0, [.ref h_p1_x, .ref h_p1_y, .ref h_p1_colour, .ref h_p1_load, .int p1_size, .int p1_centreX, .int p1_centreY])), (h_p1_x, .inl (cI, 24, .inl p1_x)), (h_p1_y, .inl (cI, 24, .inl p1_y)), (h_p1_colour, .inl (cI, 24, .inl p1_colour))] → va_S A s.heap H locs → lv_has ls 7 [(4, .int x4_)] → W p l e R s m args below meth c H locs 0 0 Q (F0 m 52 ls [])) → W p l e R s m args below meth c H locs 0 0 Q (F0 m 13 ls []) := by
  obtain ⟨hx, hb, hml, hown, hts, hK, hT, hA, hF, hLo⟩ := id C0
  intro n
  induction n with
  | zero =>
    intro l4 l5 l6 t_chosen x4_ x_t_chosen H locs ls hP hD hS hl hf
    rw [fX7_countHolding_L13] at hf
    cases hf
  | succ n ih =>
    intro l4 l5 l6 t_chosen x4_ x_t_chosen H locs ls hP hD hS hl hf hk
    rw [fX7_countHolding_L13] at hf
    refine lv_iload hx hb dX7_countHolding_13 (lv_at hl 6 rfl) ?_
    refine lv_sipush (v := (512 : Int32)) hx hb dX7_countHolding_15 (by decide) ?_
    refine lv_icmp_ge (tgt := 52) hx hb dX7_countHolding_18 (by decide) (fun hc => ?_) (fun hc => ?_)
    · replace hf := it_t (hc) hf
      obtain ⟨rfl, rfl⟩ := o2 hf
      exact hk H locs ls hP hD hS (lv_sub hl [4] rfl)
    · replace hf := it_f (hc) hf
      refine lv_iload hx hb dX7_countHolding_21 (lv_at hl 5 rfl) ?_
      refine lv_if_eq (tgt := 52) hx hb dX7_countHolding_23 (by decide) (fun hc => ?_) (fun hc => ?_)
      · replace hf := it_t (hc) hf
        obtain ⟨rfl, rfl⟩ := o2 hf
        exact hk H locs ls hP hD hS (lv_sub hl [4] rfl)
      · replace hf := it_f (hc) hf
        refine lv_aload_n hx hb dX7_countHolding_26 rfl (lv_at hl 0 rfl) ?_
        refine lv_aload_n hx hb dX7_countHolding_27 rfl (lv_at hl 1 rfl) ?_
        refine lv_iload_n hx hb dX7_countHolding_28 rfl (lv_at hl 2 rfl) ?_
        refine lv_iload_n hx hb dX7_countHolding_29 rfl (lv_at hl 3 rfl) ?_
        obtain ⟨r_4, hq_5, hf⟩ := b1_some hf
        refine xci (wr := [(h_p1_colour, .inl (cI, 24, .inl p1_colour))]) (w2 := [(h_t, .inr (7, [.ref h_t_chosen, .ref h_t_mixed, .ref h_t_near, .int t_gone, .int t_stuck, .int t_longest, .int t_side])), (h_t_chosen, .inl (cI, 3, .inl t_chosen)), (h_p1, .inr (0, [.ref h_p1_x, .ref h_p1_y, .ref h_p1_colour, .ref h_p1_load, .int p1_size, .int p1_centreX, .int p1_centreY])), (h_p1_x, .inl (cI, 24, .inl p1_x)), (h_p1_y, .inl (cI, 24, .inl p1_y)), (h_p1_colour, .inl (cI, 24, .inl p1_colour))]) (va_runV (As := [.ref h_p1, .int l2, .int l3]) (rest := []) ⟨hx, hb, hml, hown, hts⟩ (mtX7_chosenHold l dC dI cI cL cB K h_t h_t_chosen h_t_mixed h_t_near h_p1 h_p1_x h_p1_y h_p1_colour h_p1_load H.size t_gone t_stuck t_longest t_side t_chosen p1_size p1_centreX p1_centreY p1_x p1_y l2 l3 r_4 hq_5) (cwV 3 hts gv_X7_47 rfl rfl rfl hdV_X7_chosenHold ⟨Nat.le_trans (Nat.le_of_ble_eq_true rfl) hF, Nat.le_trans (Nat.le_of_ble_eq_true rfl) hLo⟩) (cPreV hK hP hD hT [0, 1, 2, 3, 4] rfl rfl (ci := 7) (q0 := 0) rfl rfl) rfl rfl hl.1 rfl (lv_room (Nat.le_of_ble_eq_true rfl)) dX7_countHolding_30 ⟨Nat.zero_le _, Nat.zero_le _⟩) hP hD hS hA [0, 1, 2, 3, 4] [5] [1, 2, 3, 4, 5, 0] rfl rfl rfl rfl rfl rfl (fun H locs hP hD hS => ?_)
        obtain ⟨k_7, ek_7, hf⟩ := jn_out hf
        have J_8 : ∀ (l4_6 : Int32) (H : Heap) (locs : List Loc) (ls : Array Slot), va_P (dC, dI) vwCl [(h_t, .inr (7, [.ref h_t_chosen, .ref h_t_mixed, .ref h_t_near, .int t_gone, .int t_stuck, .int t_longest, .int t_side])), (h_t_chosen, .inl (cI, 3, .inl t_chosen)), (h_p1, .inr (0, [.ref h_p1_x, .ref h_p1_y, .ref h_p1_colour, .ref h_p1_load, .int p1_size, .int p1_centreX, .int p1_centreY])), (h_p1_x, .inl (cI, 24, .inl p1_x)), (h_p1_y, .inl (cI, 24, .inl p1_y)), (h_p1_colour, .inl (cI, 24, .inl p1_colour))] H → va_D A [(h_t, .inr (7, [.ref h_t_chosen, .ref h_t_mixed, .ref h_t_near, .int t_gone, .int t_stuck, .int t_longest, .int t_side])), (h_t_chosen, .inl (cI, 3, .inl t_chosen)), (h_p1, .inr (0, [.ref h_p1_x, .ref h_p1_y, .ref h_p1_colour, .ref h_p1_load, .int p1_size, .int p1_centreX, .int p1_centreY])), (h_p1_x, .inl (cI, 24, .inl p1_x)), (h_p1_y, .inl (cI, 24, .inl p1_y)), (h_p1_colour, .inl (cI, 24, .inl p1_colour))] → va_S A s.heap H locs → lv_has ls 7 [(0, .ref h_t), (1, .ref h_p1), (2, .int l2), (3, .int l3), (4, .int l4_6), (6, .int l6)] → k_7 l4_6 = some (x4_, x_t_chosen) → W p l e R s m args below meth c H locs 0 0 Q (F0 m 39 ls []) := by
          intro l4_6 H locs ls hP hD hS hl hf
          rw [ek_7] at hf
          try dsimp only at hf
          refine lv_aload_n hx hb dX7_countHolding_39 rfl (lv_at hl 0 rfl) ?_
          refine lv_aload_n hx hb dX7_countHolding_40 rfl (lv_at hl 1 rfl) ?_
          obtain ⟨r_9, t_chosen_10, hq_11, hf⟩ := b2_some hf
          refine xci (wr := [(h_p1_x, .inl (cI, 24, .inl p1_x)), (h_p1_y, .inl (cI, 24, .inl p1_y))]) (w2 := [(h_t, .inr (7, [.ref h_t_chosen, .ref h_t_mixed, .ref h_t_near, .int t_gone, .int t_stuck, .int t_longest, .int t_side])), (h_t_chosen, .inl (cI, 3, .inl t_chosen_10)), (h_p1, .inr (0, [.ref h_p1_x, .ref h_p1_y, .ref h_p1_colour, .ref h_p1_load, .int p1_size, .int p1_centreX, .int p1_centreY])), (h_p1_x, .inl (cI, 24, .inl p1_x)), (h_p1_y, .inl (cI, 24, .inl p1_y)), (h_p1_colour, .inl (cI, 24, .inl p1_colour))]) (va_runV (As := [.ref h_p1]) (rest := []) ⟨hx, hb, hml, hown, hts⟩ (mtX7_chooseNext l dC dI cI cL cB K h_t h_t_chosen h_t_mixed h_t_near h_p1 h_p1_x h_p1_y h_p1_colour h_p1_load H.size t_gone t_stuck t_longest t_side t_chosen p1_size p1_centreX p1_centreY p1_colour r_9 t_chosen_10 hq_11) (cwV 1 hts gv_X7_51 rfl rfl rfl hdV_X7_chooseNext ⟨Nat.le_trans (Nat.le_of_ble_eq_true rfl) hF, Nat.le_trans (Nat.le_of_ble_eq_true rfl) hLo⟩) (cPreV hK hP hD hT [0, 1, 2, 5] rfl rfl (ci := 7) (q0 := 0) rfl rfl) rfl rfl hl.1 rfl (lv_room (Nat.le_of_ble_eq_true rfl)) dX7_countHolding_41 ⟨Nat.zero_le _, Nat.zero_le _⟩) hP hD hS hA [0, 1, 2, 5] [3, 4] [2, 3, 4, 0, 1, 5] rfl rfl rfl rfl rfl rfl (fun H locs hP hD hS => ?_)
          refine lv_istore (lv' := [(5, .int r_9), (0, .ref h_t), (1, .ref h_p1), (2, .int l2), (3, .int l3), (4, .int l4_6), (6, .int l6)]) hx hb dX7_countHolding_44 hl (Nat.le_of_ble_eq_true rfl) rfl (fun ls hl => ?_)
          obtain ⟨l6_12, el6_12⟩ : ∃ y : Int32, y = l6 + (1 : Int32) := ⟨_, rfl⟩
          replace hf := xl_at hf el6_12
          refine lv_iinc (v := l6_12) (lv' := [(6, .int l6_12), (5, .int r_9), (0, .ref h_t), (1, .ref h_p1), (2, .int l2), (3, .int l3), (4, .int l4_6)]) hx hb dX7_countHolding_46 hl (k := 6) rfl (by rw [el6_12]; rfl) (Nat.le_of_ble_eq_true rfl) rfl (fun ls hl => ?_)
          refine lv_goto (tgt := 13) hx hb dX7_countHolding_49 (by decide) ?_
          exact ih l4_6 r_9 l6_12 t_chosen_10 _ _ H locs ls hP hD hS (lv_sub hl [2, 3, 4, 5, 6, 1, 0] rfl) hf hk
        refine lv_if_eq (tgt := 39) hx hb dX7_countHolding_33 (by decide) (fun hc => ?_) (fun hc => ?_)
        · replace hf := it_t (hc) hf
          exact J_8 l4 H locs ls hP hD hS (lv_sub hl [0, 1, 2, 3, 4, 6] rfl) hf
        · replace hf := it_f (hc) hf
          obtain ⟨l4_13, el4_13⟩ : ∃ y : Int32, y = l4 + (1 : Int32) := ⟨_, rfl⟩
          replace hf := xl_at hf el4_13
          refine lv_iinc (v := l4_13) (lv' := [(4, .int l4_13), (0, .ref h_t), (1, .ref h_p1), (2, .int l2), (3, .int l3), (5, .int l5), (6, .int l6)]) hx hb dX7_countHolding_36 hl (k := 4) rfl (by rw [el4_13]; rfl) (Nat.le_of_ble_eq_true rfl) rfl (fun ls hl => ?_)
          exact J_8 l4_13 H locs ls hP hD hS (lv_sub hl [1, 2, 3, 4, 0, 6] rfl) hf
set_option maxRecDepth 100000 in
set_option maxHeartbeats 4000000 in
theorem mtX7_countHolding (l : Launch) (dC : Nat → ClassId) (dI : Nat → Nat → Nat) (cI cL cB : ClassId) (K : Nat) (h_t h_t_chosen h_t_mixed h_t_near h_p1 h_p1_x h_p1_y h_p1_colour h_p1_load : Nat) (sz : Nat) (t_gone : Int32) (t_stuck : Int32) (t_longest : Int32) (t_side : Int32) (t_chosen : Nat → Int32) (p1_size : Int32) (p1_centreX : Int32) (p1_centreY : Int32) (p1_x : Nat → Int32) (p1_y : Nat → Int32) (p1_colour : Nat → Int32) (a2 : Int32) (a3 : Int32) (o_r : Int32) (o_t_chosen : Nat → Int32) (hf : fX7_countHolding K t_chosen p1_size p1_x p1_y p1_colour a2 a3 = some (o_r, o_t_chosen)) : Met l yX7_countHolding [Cond.code yX7_countHolding cX7_countHolding 7 (some .int)] ({ frames := 2, cells := 0, slots := 0, locals := 57 }) (va_Pc [.ref h_t, .ref h_p1, .int a2, .int a3] (cPre dC dI cI cL cB sz [(h_t, .inr (7, [.ref h_t_chosen, .ref h_t_mixed, .ref h_t_near, .int t_gone, .int t_stuck, .int t_longest, .int t_side])), (h_t_chosen, .inl (cI, 3, .inl t_chosen)), (h_p1, .inr (0, [.ref h_p1_x, .ref h_p1_y, .ref h_p1_colour, .ref h_p1_load, .int p1_size, .int p1_centreX, .int p1_centreY])), (h_p1_x, .inl (cI, 24, .inl p1_x)), (h_p1_y, .inl (cI, 24, .inl p1_y)), (h_p1_colour, .inl (cI, 24, .inl p1_colour))])) (cQi dC dI (va_A [(h_t, .inr (7, [.ref h_t_chosen, .ref h_t_mixed, .ref h_t_near, .int t_gone, .int t_stuck, .int t_longest, .int t_side])), (h_t_chosen, .inl (cI, 3, .inl t_chosen)), (h_p1, .inr (0, [.ref h_p1_x, .ref h_p1_y, .ref h_p1_colour, .ref h_p1_load, .int p1_size, .int p1_centreX, .int p1_centreY])), (h_p1_x, .inl (cI, 24, .inl p1_x)), (h_p1_y, .inl (cI, 24, .inl p1_y)), (h_p1_colour, .inl (cI, 24, .inl p1_colour))] sz) o_r [(h_t, .inr (7, [.ref h_t_chosen, .ref h_t_mixed, .ref h_t_near, .int t_gone, .int t_stuck, .int t_longest, .int t_side])), (h_t_chosen, .inl (cI, 3, .inl o_t_chosen)), (h_p1, .inr (0, [.ref h_p1_x, .ref h_p1_y, .ref h_p1_colour, .ref h_p1_load, .int p1_size, .int p1_centreX, .int p1_centreY])), (h_p1_x, .inl (cI, 24, .inl p1_x)), (h_p1_y, .inl (cI, 24, .inl p1_y)), (h_p1_colour, .inl (cI, 24, .inl p1_colour))]) 0 0 (va_A [(h_t, .inr (7, [.ref h_t_chosen, .ref h_t_mixed, .ref h_t_near, .int t_gone, .int t_stuck, .int t_longest, .int t_side])), (h_t_chosen, .inl (cI, 3, .inl t_chosen)), (h_p1, .inr (0, [.ref h_p1_x, .ref h_p1_y, .ref h_p1_colour, .ref h_p1_load, .int p1_size, .int p1_centreX, .int p1_centreY])), (h_p1_x, .inl (cI, 24, .inl p1_x)), (h_p1_y, .inl (cI, 24, .inl p1_y)), (h_p1_colour, .inl (cI, 24, .inl p1_colour))] sz) := by
  refine Met.ofW (cc := cX7_countHolding) (maxL := 7) (ret := (some .int)) (by decide) rfl ?_
  intro p e s m args below meth c s₁ B hml hv
  obtain ⟨rfl, hsz, hP, hK, hD0, hT⟩ := hv
  have hx := B.exec
  have hb := B.bytes
  have hr := B.returns
  have hown : s.vm.findClass RX7 = some m.cls := findClass_of_methodNamed B.named
  have hlocks := B.notSynchronized
  have hts := TB.use hT ([.ref h_t, .ref h_p1, .int a2, .int a3] : List Value).toArray
  subst hsz
  have hD := hD0.self (sz := s.heap.size)
  generalize hAe : va_A [(h_t, .inr (7, [.ref h_t_chosen, .ref h_t_mixed, .ref h_t_near, .int t_gone, .int t_stuck, .int t_longest, .int t_side])), (h_t_chosen, .inl (cI, 3, .inl t_chosen)), (h_p1, .inr (0, [.ref h_p1_x, .ref h_p1_y, .ref h_p1_colour, .ref h_p1_load, .int p1_size, .int p1_centreX, .int p1_centreY])), (h_p1_x, .inl (cI, 24, .inl p1_x)), (h_p1_y, .inl (cI, 24, .inl p1_y)), (h_p1_colour, .inl (cI, 24, .inl p1_colour))] s.heap.size = A at hD ⊢
  have hA : ∀ q : Nat, s.heap.size ≤ q → A q := fun q h => by rw [← hAe]; exact Or.inr h
  clear hAe hD0
  have hl := lv_entry ([.ref h_t, .ref h_p1, .int a2, .int a3]) (n := 7) (Nat.le_of_ble_eq_true rfl)
  rw [lg_entry_eq]
  generalize (lg_sl ([.ref h_t, .ref h_p1, .int a2, .int a3]) ++ List.replicate (7 - (lg_sl ([.ref h_t, .ref h_p1, .int a2, .int a3])).length) Slot.unset).toArray = ls at hl ⊢
  have hl : lv_has ls 7 [(0, .ref h_t), (1, .ref h_p1), (2, .int a2), (3, .int a3)] := hl
  have hF : 2 ≤ (headSpec [Cond.code yX7_countHolding cX7_countHolding 7 (some .int)] ({ frames := 2, cells := 0, slots := 0, locals := 57 })).room.frames := Nat.le_refl _
  have hLo : 57 ≤ (headSpec [Cond.code yX7_countHolding cX7_countHolding 7 (some .int)] ({ frames := 2, cells := 0, slots := 0, locals := 57 })).room.locals := Nat.le_refl _
  have C0 : Sx p (headSpec [Cond.code yX7_countHolding cX7_countHolding 7 (some .int)] ({ frames := 2, cells := 0, slots := 0, locals := 57 })).room s m ([.ref h_t, .ref h_p1, .int a2, .int a3] : List Value).toArray c cX7_countHolding 7 RX7 A dC dI cI cL cB 2 57 := ⟨hx, hb, hml, hown, hts, hK, hT, hA, hF, hLo⟩
  refine startH (A := A) hP (fun H locs hP hS => ?_)
  rw [fX7_countHolding] at hf
  refine lv_iconst (v := (0 : Int32)) hx hb dX7_countHolding_0 (by decide) ?_
  refine lv_istore (lv' := [(4, .int (0 : Int32)), (0, .ref h_t), (1, .ref h_p1), (2, .int a2), (3, .int a3)]) hx hb dX7_countHolding_1 hl (Nat.le_of_ble_eq_true rfl) rfl (fun ls hl => ?_)
  refine lv_aload_n hx hb dX7_countHolding_3 rfl (lv_at hl 1 rfl) ?_
  refine lv_aload_n hx hb dX7_countHolding_4 rfl (lv_at hl 2 rfl) ?_
  obtain ⟨r_1, t_chosen_2, hq_3, hf⟩ := b2_some hf
  refine xci (wr := [(h_p1_x, .inl (cI, 24, .inl p1_x)), (h_p1_y, .inl (cI, 24, .inl p1_y))]) (w2 := [(h_t, .inr (7, [.ref h_t_chosen, .ref h_t_mixed, .ref h_t_near, .int t_gone, .int t_stuck, .int t_longest, .int t_side])), (h_t_chosen, .inl (cI, 3, .inl t_chosen_2)), (h_p1, .inr (0, [.ref h_p1_x, .ref h_p1_y, .ref h_p1_colour, .ref h_p1_load, .int p1_size, .int p1_centreX, .int p1_centreY])), (h_p1_x, .inl (cI, 24, .inl p1_x)), (h_p1_y, .inl (cI, 24, .inl p1_y)), (h_p1_colour, .inl (cI, 24, .inl p1_colour))]) (va_runV (As := [.ref h_p1]) (rest := []) ⟨hx, hb, hml, hown, hts⟩ (mtX7_chooseFirst l dC dI cI cL cB K h_t h_t_chosen h_t_mixed h_t_near h_p1 h_p1_x h_p1_y h_p1_colour h_p1_load H.size t_gone t_stuck t_longest t_side t_chosen p1_size p1_centreX p1_centreY p1_colour r_1 t_chosen_2 hq_3) (cwV 1 hts gv_X7_43 rfl rfl rfl hdV_X7_chooseFirst ⟨Nat.le_trans (Nat.le_of_ble_eq_true rfl) hF, Nat.le_trans (Nat.le_of_ble_eq_true rfl) hLo⟩) (cPreV hK hP hD hT [0, 1, 2, 5] rfl rfl (ci := 7) (q0 := 0) rfl rfl) rfl rfl hl.1 rfl (lv_room (Nat.le_of_ble_eq_true rfl)) dX7_countHolding_5 ⟨Nat.zero_le _, Nat.zero_le _⟩) hP hD hS hA [0, 1, 2, 5] [3, 4] [2, 3, 4, 0, 1, 5] rfl rfl rfl rfl rfl rfl (fun H locs hP hD hS => ?_)
  refine lv_istore (lv' := [(5, .int r_1), (4, .int (0 : Int32)), (0, .ref h_t), (1, .ref h_p1), (2, .int a2), (3, .int a3)]) hx hb dX7_countHolding_8 hl (Nat.le_of_ble_eq_true rfl) rfl (fun ls hl => ?_)
  refine lv_iconst (v := (0 : Int32)) hx hb dX7_countHolding_10 (by decide) ?_
  refine lv_istore (lv' := [(6, .int (0 : Int32)), (5, .int r_1), (4, .int (0 : Int32)), (0, .ref h_t), (1, .ref h_p1), (2, .int a2), (3, .int a3)]) hx hb dX7_countHolding_11 hl (Nat.le_of_ble_eq_true rfl) rfl (fun ls hl => ?_)
  obtain ⟨l4_15, t_chosen_16, hq_14, hf⟩ := b2_some hf
  refine wX7_countHolding_L13 C0 h_t h_t_chosen h_t_mixed h_t_near h_p1 h_p1_x h_p1_y h_p1_colour h_p1_load t_gone t_stuck t_longest t_side p1_size p1_centreX p1_centreY p1_x p1_y p1_colour a2 a3 K (0 : Int32) r_1 (0 : Int32) t_chosen_2 l4_15 t_chosen_16 H locs ls hP hD hS (lv_sub hl [3, 4, 5, 6, 2, 1, 0] rfl) hq_14 ?_
  intro H locs ls hP hD hS hl
  refine lv_iload hx hb dX7_countHolding_52 (lv_at hl 0 rfl) ?_
  obtain ⟨rfl, rfl⟩ := o2 hf
  exact W.iret hx hb hr (fun t ht hW => ⟨⟨_, (), rfl, rfl, by rw [ht]; exact hP, hD⟩, hS.F ht⟩) hS.2.2 dX7_countHolding_54
theorem dX11_rainbows_0 : decode cX11_rainbows 0 = .ok (.aload_n 0, 1) := by decide +kernel
theorem dX11_rainbows_1 : decode cX11_rainbows 1 = .ok (.getfield 56, 3) := by decide +kernel
theorem dX11_rainbows_4 : decode cX11_rainbows 4 = .ok (.aload_n 0, 1) := by decide +kernel
theorem dX11_rainbows_5 : decode cX11_rainbows 5 = .ok (.getfield 12, 3) := by decide +kernel
theorem dX11_rainbows_8 : decode cX11_rainbows 8 = .ok (.aload_n 0, 1) := by decide +kernel
theorem dX11_rainbows_9 : decode cX11_rainbows 9 = .ok (.getfield 12, 3) := by decide +kernel
theorem dX11_rainbows_12 : decode cX11_rainbows 12 = .ok (.getfield 146, 3) := by decide +kernel
theorem dX11_rainbows_15 : decode cX11_rainbows 15 = .ok (.aload_n 0, 1) := by decide +kernel
theorem dX11_rainbows_16 : decode cX11_rainbows 16 = .ok (.getfield 12, 3) := by decide +kernel
theorem dX11_rainbows_19 : decode cX11_rainbows 19 = .ok (.getfield 149, 3) := by decide +kernel
theorem dX11_rainbows_22 : decode cX11_rainbows 22 = .ok (.invokevirtual 256, 3) := by decide +kernel
theorem dX11_rainbows_25 : decode cX11_rainbows 25 = .ok (.ireturn, 1) := by decide +kernel
set_option maxRecDepth 100000 in
set_option maxHeartbeats 4000000 in
theorem mtX11_rainbows (l : Launch) (dC : Nat → ClassId) (dI : Nat → Nat → Nat) (cI cL cB : ClassId) (K : Nat) (h_t h_t_cloud h_t_reader h_t_hull h_t_near h_t_firstTie h_t_reducer h_t_chooser h_t_pair h_t_divider h_t_depths h_t_spot h_t_cloud_x h_t_cloud_y h_t_cloud_colour h_t_cloud_load h_t_chooser_chosen h_t_chooser_mixed h_t_chooser_near : Nat) (sz : Nat) (t_cloud_size : Int32) (t_cloud_centreX : Int32) (t_cloud_centreY : Int32) (t_cloud_x : Nat → Int32) (t_cloud_y : Nat → Int32) (t_cloud_colour : Nat → Int32) (t_chooser_gone : Int32) (t_chooser_stuck : Int32) (t_chooser_longest : Int32) (t_chooser_side : Int32) (t_chooser_chosen : Nat → Int32) (o_r : Int32) (o_t_chooser_chosen : Nat → Int32) (hf : fX11_rainbows K t_cloud_size t_cloud_centreX t_cloud_centreY t_cloud_x t_cloud_y t_cloud_colour t_chooser_chosen = some (o_r, o_t_chooser_chosen)) : Met l yX11_rainbows [Cond.code yX11_rainbows cX11_rainbows 1 (some .int)] ({ frames := 3, cells := 0, slots := 0, locals := 83 }) (va_Pc [.ref h_t] (cPre dC dI cI cL cB sz [(h_t, .inr (11, [.ref h_t_cloud, .ref h_t_reader, .ref h_t_hull, .ref h_t_near, .ref h_t_firstTie, .ref h_t_reducer, .ref h_t_chooser, .ref h_t_pair, .ref h_t_divider, .ref h_t_depths, .ref h_t_spot])), (h_t_cloud, .inr (0, [.ref h_t_cloud_x, .ref h_t_cloud_y, .ref h_t_cloud_colour, .ref h_t_cloud_load, .int t_cloud_size, .int t_cloud_centreX, .int t_cloud_centreY])), (h_t_cloud_x, .inl (cI, 24, .inl t_cloud_x)), (h_t_cloud_y, .inl (cI, 24, .inl t_cloud_y)), (h_t_cloud_colour, .inl (cI, 24, .inl t_cloud_colour)), (h_t_chooser, .inr (7, [.ref h_t_chooser_chosen, .ref h_t_chooser_mixed, .ref h_t_chooser_near, .int t_chooser_gone, .int t_chooser_stuck, .int t_chooser_longest, .int t_chooser_side])), (h_t_chooser_chosen, .inl (cI, 3, .inl t_chooser_chosen))])) (cQi dC dI (va_A [(h_t, .inr (11, [.ref h_t_cloud, .ref h_t_reader, .ref h_t_hull, .ref h_t_near, .ref h_t_firstTie, .ref h_t_reducer, .ref h_t_chooser, .ref h_t_pair, .ref h_t_divider, .ref h_t_depths, .ref h_t_spot])), (h_t_cloud, .inr (0, [.ref h_t_cloud_x, .ref h_t_cloud_y, .ref h_t_cloud_colour, .ref h_t_cloud_load, .int t_cloud_size, .int t_cloud_centreX, .int t_cloud_centreY])), (h_t_cloud_x, .inl (cI, 24, .inl t_cloud_x)), (h_t_cloud_y, .inl (cI, 24, .inl t_cloud_y)), (h_t_cloud_colour, .inl (cI, 24, .inl t_cloud_colour)), (h_t_chooser, .inr (7, [.ref h_t_chooser_chosen, .ref h_t_chooser_mixed, .ref h_t_chooser_near, .int t_chooser_gone, .int t_chooser_stuck, .int t_chooser_longest, .int t_chooser_side])), (h_t_chooser_chosen, .inl (cI, 3, .inl t_chooser_chosen))] sz) o_r [(h_t, .inr (11, [.ref h_t_cloud, .ref h_t_reader, .ref h_t_hull, .ref h_t_near, .ref h_t_firstTie, .ref h_t_reducer, .ref h_t_chooser, .ref h_t_pair, .ref h_t_divider, .ref h_t_depths, .ref h_t_spot])), (h_t_cloud, .inr (0, [.ref h_t_cloud_x, .ref h_t_cloud_y, .ref h_t_cloud_colour, .ref h_t_cloud_load, .int t_cloud_size, .int t_cloud_centreX, .int t_cloud_centreY])), (h_t_cloud_x, .inl (cI, 24, .inl t_cloud_x)), (h_t_cloud_y, .inl (cI, 24, .inl t_cloud_y)), (h_t_cloud_colour, .inl (cI, 24, .inl t_cloud_colour)), (h_t_chooser, .inr (7, [.ref h_t_chooser_chosen, .ref h_t_chooser_mixed, .ref h_t_chooser_near, .int t_chooser_gone, .int t_chooser_stuck, .int t_chooser_longest, .int t_chooser_side])), (h_t_chooser_chosen, .inl (cI, 3, .inl o_t_chooser_chosen))]) 0 0 (va_A [(h_t, .inr (11, [.ref h_t_cloud, .ref h_t_reader, .ref h_t_hull, .ref h_t_near, .ref h_t_firstTie, .ref h_t_reducer, .ref h_t_chooser, .ref h_t_pair, .ref h_t_divider, .ref h_t_depths, .ref h_t_spot])), (h_t_cloud, .inr (0, [.ref h_t_cloud_x, .ref h_t_cloud_y, .ref h_t_cloud_colour, .ref h_t_cloud_load, .int t_cloud_size, .int t_cloud_centreX, .int t_cloud_centreY])), (h_t_cloud_x, .inl (cI, 24, .inl t_cloud_x)), (h_t_cloud_y, .inl (cI, 24, .inl t_cloud_y)), (h_t_cloud_colour, .inl (cI, 24, .inl t_cloud_colour)), (h_t_chooser, .inr (7, [.ref h_t_chooser_chosen, .ref h_t_chooser_mixed, .ref h_t_chooser_near, .int t_chooser_gone, .int t_chooser_stuck, .int t_chooser_longest, .int t_chooser_side])), (h_t_chooser_chosen, .inl (cI, 3, .inl t_chooser_chosen))] sz) := by
  refine Met.ofW (cc := cX11_rainbows) (maxL := 1) (ret := (some .int)) (by decide) rfl ?_
  intro p e s m args below meth c s₁ B hml hv
  obtain ⟨rfl, hsz, hP, hK, hD0, hT⟩ := hv
  have hx := B.exec
  have hb := B.bytes
  have hr := B.returns
  have hown : s.vm.findClass RX11 = some m.cls := findClass_of_methodNamed B.named
  have hlocks := B.notSynchronized
  have hts := TB.use hT ([.ref h_t] : List Value).toArray
  subst hsz
  have hD := hD0.self (sz := s.heap.size)
  generalize hAe : va_A [(h_t, .inr (11, [.ref h_t_cloud, .ref h_t_reader, .ref h_t_hull, .ref h_t_near, .ref h_t_firstTie, .ref h_t_reducer, .ref h_t_chooser, .ref h_t_pair, .ref h_t_divider, .ref h_t_depths, .ref h_t_spot])), (h_t_cloud, .inr (0, [.ref h_t_cloud_x, .ref h_t_cloud_y, .ref h_t_cloud_colour, .ref h_t_cloud_load, .int t_cloud_size, .int t_cloud_centreX, .int t_cloud_centreY])), (h_t_cloud_x, .inl (cI, 24, .inl t_cloud_x)), (h_t_cloud_y, .inl (cI, 24, .inl t_cloud_y)), (h_t_cloud_colour, .inl (cI, 24, .inl t_cloud_colour)), (h_t_chooser, .inr (7, [.ref h_t_chooser_chosen, .ref h_t_chooser_mixed, .ref h_t_chooser_near, .int t_chooser_gone, .int t_chooser_stuck, .int t_chooser_longest, .int t_chooser_side])), (h_t_chooser_chosen, .inl (cI, 3, .inl t_chooser_chosen))] s.heap.size = A at hD ⊢
  have hA : ∀ q : Nat, s.heap.size ≤ q → A q := fun q h => by rw [← hAe]; exact Or.inr h
  clear hAe hD0
  have hl := lv_entry ([.ref h_t]) (n := 1) (Nat.le_of_ble_eq_true rfl)
  rw [lg_entry_eq]
  generalize (lg_sl ([.ref h_t]) ++ List.replicate (1 - (lg_sl ([.ref h_t])).length) Slot.unset).toArray = ls at hl ⊢
  have hl : lv_has ls 1 [(0, .ref h_t)] := hl
  have hF : 3 ≤ (headSpec [Cond.code yX11_rainbows cX11_rainbows 1 (some .int)] ({ frames := 3, cells := 0, slots := 0, locals := 83 })).room.frames := Nat.le_refl _
  have hLo : 83 ≤ (headSpec [Cond.code yX11_rainbows cX11_rainbows 1 (some .int)] ({ frames := 3, cells := 0, slots := 0, locals := 83 })).room.locals := Nat.le_refl _
  have C0 : Sx p (headSpec [Cond.code yX11_rainbows cX11_rainbows 1 (some .int)] ({ frames := 3, cells := 0, slots := 0, locals := 83 })).room s m ([.ref h_t] : List Value).toArray c cX11_rainbows 1 RX11 A dC dI cI cL cB 3 83 := ⟨hx, hb, hml, hown, hts, hK, hT, hA, hF, hLo⟩
  refine startH (A := A) hP (fun H locs hP hS => ?_)
  rw [fX11_rainbows] at hf
  refine lv_aload_n hx hb dX11_rainbows_0 rfl (lv_at hl 0 rfl) ?_
  refine va_get (D := (dC, dI)) (ci := 11) (v := .ref h_t_chooser) (C := RX11) (T := TX11) (N := 11) hx hb hts in_X11 hown hK hP 0 rfl rfl 6 (Nat.le_of_ble_eq_true rfl) (hts _ qf_X11_56) (fun _ h9 => h9) rfl dX11_rainbows_1 ?_
  refine lv_aload_n hx hb dX11_rainbows_4 rfl (lv_at hl 0 rfl) ?_
  refine va_get (D := (dC, dI)) (ci := 11) (v := .ref h_t_cloud) (C := RX11) (T := TX11) (N := 11) hx hb hts in_X11 hown hK hP 0 rfl rfl 0 (Nat.le_of_ble_eq_true rfl) (hts _ qf_X11_12) (fun _ h9 => h9) rfl dX11_rainbows_5 ?_
  refine lv_aload_n hx hb dX11_rainbows_8 rfl (lv_at hl 0 rfl) ?_
  refine va_get (D := (dC, dI)) (ci := 11) (v := .ref h_t_cloud) (C := RX11) (T := TX11) (N := 11) hx hb hts in_X11 hown hK hP 0 rfl rfl 0 (Nat.le_of_ble_eq_true rfl) (hts _ qf_X11_12) (fun _ h9 => h9) rfl dX11_rainbows_9 ?_
  refine va_get (D := (dC, dI)) (ci := 0) (v := .int t_cloud_centreX) (C := RX0) (T := TX0) (N := 7) hx hb hts in_X0 hown hK hP 1 rfl rfl 5 (Nat.le_of_ble_eq_true rfl) (hts _ qf_X11_146) (fun _ h9 => h9) rfl dX11_rainbows_12 ?_
  refine lv_aload_n hx hb dX11_rainbows_15 rfl (lv_at hl 0 rfl) ?_
  refine va_get (D := (dC, dI)) (ci := 11) (v := .ref h_t_cloud) (C := RX11) (T := TX11) (N := 11) hx hb hts in_X11 hown hK hP 0 rfl rfl 0 (Nat.le_of_ble_eq_true rfl) (hts _ qf_X11_12) (fun _ h9 => h9) rfl dX11_rainbows_16 ?_
  refine va_get (D := (dC, dI)) (ci := 0) (v := .int t_cloud_centreY) (C := RX0) (T := TX0) (N := 7) hx hb hts in_X0 hown hK hP 1 rfl rfl 6 (Nat.le_of_ble_eq_true rfl) (hts _ qf_X11_149) (fun _ h9 => h9) rfl dX11_rainbows_19 ?_
  obtain ⟨r_1, t_chooser_chosen_2, hq_3, hf⟩ := b2_some hf
  refine xci (wr := [(h_t, .inr (11, [.ref h_t_cloud, .ref h_t_reader, .ref h_t_hull, .ref h_t_near, .ref h_t_firstTie, .ref h_t_reducer, .ref h_t_chooser, .ref h_t_pair, .ref h_t_divider, .ref h_t_depths, .ref h_t_spot]))]) (w2 := [(h_t, .inr (11, [.ref h_t_cloud, .ref h_t_reader, .ref h_t_hull, .ref h_t_near, .ref h_t_firstTie, .ref h_t_reducer, .ref h_t_chooser, .ref h_t_pair, .ref h_t_divider, .ref h_t_depths, .ref h_t_spot])), (h_t_cloud, .inr (0, [.ref h_t_cloud_x, .ref h_t_cloud_y, .ref h_t_cloud_colour, .ref h_t_cloud_load, .int t_cloud_size, .int t_cloud_centreX, .int t_cloud_centreY])), (h_t_cloud_x, .inl (cI, 24, .inl t_cloud_x)), (h_t_cloud_y, .inl (cI, 24, .inl t_cloud_y)), (h_t_cloud_colour, .inl (cI, 24, .inl t_cloud_colour)), (h_t_chooser, .inr (7, [.ref h_t_chooser_chosen, .ref h_t_chooser_mixed, .ref h_t_chooser_near, .int t_chooser_gone, .int t_chooser_stuck, .int t_chooser_longest, .int t_chooser_side])), (h_t_chooser_chosen, .inl (cI, 3, .inl t_chooser_chosen_2))]) (va_runV (As := [.ref h_t_cloud, .int t_cloud_centreX, .int t_cloud_centreY]) (rest := []) ⟨hx, hb, hml, hown, hts⟩ (mtX7_countHolding l dC dI cI cL cB K h_t_chooser h_t_chooser_chosen h_t_chooser_mixed h_t_chooser_near h_t_cloud h_t_cloud_x h_t_cloud_y h_t_cloud_colour h_t_cloud_load H.size t_chooser_gone t_chooser_stuck t_chooser_longest t_chooser_side t_chooser_chosen t_cloud_size t_cloud_centreX t_cloud_centreY t_cloud_x t_cloud_y t_cloud_colour t_cloud_centreX t_cloud_centreY r_1 t_chooser_chosen_2 hq_3) (cwV 3 hts gv_X11_256 rfl rfl rfl hdV_X7_countHolding ⟨Nat.le_trans (Nat.le_of_ble_eq_true rfl) hF, Nat.le_trans (Nat.le_of_ble_eq_true rfl) hLo⟩) (cPreV hK hP hD hT [5, 6, 1, 2, 3, 4] rfl rfl (ci := 7) (q0 := 0) rfl rfl) rfl rfl hl.1 rfl (lv_room (Nat.le_of_ble_eq_true rfl)) dX11_rainbows_22 ⟨Nat.zero_le _, Nat.zero_le _⟩) hP hD hS hA [5, 6, 1, 2, 3, 4] [0] [0, 3, 4, 5, 6, 1, 2] rfl rfl rfl rfl rfl rfl (fun H locs hP hD hS => ?_)
  obtain ⟨rfl, rfl⟩ := o2 hf
  exact W.iret hx hb hr (fun t ht hW => ⟨⟨_, (), rfl, rfl, by rw [ht]; exact hP, hD⟩, hS.F ht⟩) hS.2.2 dX11_rainbows_25
theorem dX11_isColour_0 : decode cX11_isColour 0 = .ok (.iload_n 0, 1) := by decide +kernel
theorem dX11_isColour_1 : decode cX11_isColour 1 = .ok (.ifCond .lt 12, 3) := by decide +kernel
theorem dX11_isColour_4 : decode cX11_isColour 4 = .ok (.iload_n 0, 1) := by decide +kernel
theorem dX11_isColour_5 : decode cX11_isColour 5 = .ok (.iconst 3, 1) := by decide +kernel
theorem dX11_isColour_6 : decode cX11_isColour 6 = .ok (.if_icmp .ge 7, 3) := by decide +kernel
theorem dX11_isColour_9 : decode cX11_isColour 9 = .ok (.iconst 1, 1) := by decide +kernel
theorem dX11_isColour_10 : decode cX11_isColour 10 = .ok (.goto 4, 3) := by decide +kernel
theorem dX11_isColour_13 : decode cX11_isColour 13 = .ok (.iconst 0, 1) := by decide +kernel
theorem dX11_isColour_14 : decode cX11_isColour 14 = .ok (.ireturn, 1) := by decide +kernel
set_option maxRecDepth 100000 in
set_option maxHeartbeats 4000000 in
theorem mtX11_isColour (l : Launch) (dC : Nat → ClassId) (dI : Nat → Nat → Nat) (cI cL cB : ClassId) (K : Nat) (sz : Nat) (a0 : Int32) (o_r : Int32) (hf : fX11_isColour K a0 = some o_r) : Met l yX11_isColour [Cond.code yX11_isColour cX11_isColour 1 (some .boolean)] ({ frames := 0, cells := 0, slots := 0, locals := 0 }) (va_Pc [.int a0] (cPre dC dI cI cL cB sz [])) (cQi dC dI (va_A [] sz) o_r []) 0 0 (va_A [] sz) := by
  refine Met.ofW (cc := cX11_isColour) (maxL := 1) (ret := (some .boolean)) (by decide) rfl ?_
  intro p e s m args below meth c s₁ B hml hv
  obtain ⟨rfl, hsz, hP, hK, hD0, hT⟩ := hv
  have hx := B.exec
  have hb := B.bytes
  have hr := B.returns
  have hown : s.vm.findClass RX11 = some m.cls := findClass_of_methodNamed B.named
  have hlocks := B.notSynchronized
  have hts := TB.use hT ([.int a0] : List Value).toArray
  subst hsz
  have hD := hD0.self (sz := s.heap.size)
  generalize hAe : va_A [] s.heap.size = A at hD ⊢
  have hA : ∀ q : Nat, s.heap.size ≤ q → A q := fun q h => by rw [← hAe]; exact Or.inr h
  clear hAe hD0
  have hl := lv_entry ([.int a0]) (n := 1) (Nat.le_of_ble_eq_true rfl)
  rw [lg_entry_eq]
  generalize (lg_sl ([.int a0]) ++ List.replicate (1 - (lg_sl ([.int a0])).length) Slot.unset).toArray = ls at hl ⊢
  have hl : lv_has ls 1 [(0, .int a0)] := hl
  have hF : 0 ≤ (headSpec [Cond.code yX11_isColour cX11_isColour 1 (some .boolean)] ({ frames := 0, cells := 0, slots := 0, locals := 0 })).room.frames := Nat.le_refl _
  have hLo : 0 ≤ (headSpec [Cond.code yX11_isColour cX11_isColour 1 (some .boolean)] ({ frames := 0, cells := 0, slots := 0, locals := 0 })).room.locals := Nat.le_refl _
  have C0 : Sx p (headSpec [Cond.code yX11_isColour cX11_isColour 1 (some .boolean)] ({ frames := 0, cells := 0, slots := 0, locals := 0 })).room s m ([.int a0] : List Value).toArray c cX11_isColour 1 RX11 A dC dI cI cL cB 0 0 := ⟨hx, hb, hml, hown, hts, hK, hT, hA, hF, hLo⟩
  refine startH (A := A) hP (fun H locs hP hS => ?_)
  rw [fX11_isColour] at hf
  refine lv_iload_n hx hb dX11_isColour_0 rfl (lv_at hl 0 rfl) ?_
  refine lv_if_lt (tgt := 13) hx hb dX11_isColour_1 (by decide) (fun hc => ?_) (fun hc => ?_)
  · replace hf := it_t (hc) hf
    refine lv_iconst (v := (0 : Int32)) hx hb dX11_isColour_13 (by decide) ?_
    obtain rfl := o1 hf
    exact W.zret hx hb hr rfl (fun t ht hW => ⟨⟨_, (), rfl, rfl, by rw [ht]; exact hP, hD⟩, hS.F ht⟩) hS.2.2 dX11_isColour_14
  · replace hf := it_f (hc) hf
    refine lv_iload_n hx hb dX11_isColour_4 rfl (lv_at hl 0 rfl) ?_
    refine lv_iconst (v := (3 : Int32)) hx hb dX11_isColour_5 (by decide) ?_
    refine lv_icmp_ge (tgt := 13) hx hb dX11_isColour_6 (by decide) (fun hc => ?_) (fun hc => ?_)
    · replace hf := it_t (hc) hf
      refine lv_iconst (v := (0 : Int32)) hx hb dX11_isColour_13 (by decide) ?_
      obtain rfl := o1 hf
      exact W.zret hx hb hr rfl (fun t ht hW => ⟨⟨_, (), rfl, rfl, by rw [ht]; exact hP, hD⟩, hS.F ht⟩) hS.2.2 dX11_isColour_14
    · replace hf := it_f (hc) hf
      refine lv_iconst (v := (1 : Int32)) hx hb dX11_isColour_9 (by decide) ?_
      refine lv_goto (tgt := 14) hx hb dX11_isColour_10 (by decide) ?_
      obtain rfl := o1 hf
      exact W.zret hx hb hr rfl (fun t ht hW => ⟨⟨_, (), rfl, rfl, by rw [ht]; exact hP, hD⟩, hS.F ht⟩) hS.2.2 dX11_isColour_14
theorem dX7_seekHolding_0 : decode cX7_seekHolding 0 = .ok (.iconst 0, 1) := by decide +kernel
theorem dX7_seekHolding_1 : decode cX7_seekHolding 1 = .ok (.istore_n 3, 1) := by decide +kernel
theorem dX7_seekHolding_2 : decode cX7_seekHolding 2 = .ok (.aload_n 0, 1) := by decide +kernel
theorem dX7_seekHolding_3 : decode cX7_seekHolding 3 = .ok (.aload_n 1, 1) := by decide +kernel
theorem dX7_seekHolding_4 : decode cX7_seekHolding 4 = .ok (.invokevirtual 43, 3) := by decide +kernel
theorem dX7_seekHolding_7 : decode cX7_seekHolding 7 = .ok (.istore 4, 2) := by decide +kernel
theorem dX7_seekHolding_9 : decode cX7_seekHolding 9 = .ok (.iconst 0, 1) := by decide +kernel
theorem dX7_seekHolding_10 : decode cX7_seekHolding 10 = .ok (.istore 5, 2) := by decide +kernel
theorem dX7_seekHolding_12 : decode cX7_seekHolding 12 = .ok (.iload 5, 2) := by decide +kernel
theorem dX7_seekHolding_14 : decode cX7_seekHolding 14 = .ok (.sipush 512, 3) := by decide +kernel
theorem dX7_seekHolding_17 : decode cX7_seekHolding 17 = .ok (.if_icmp .ge 47, 3) := by decide +kernel
theorem dX7_seekHolding_20 : decode cX7_seekHolding 20 = .ok (.iload 4, 2) := by decide +kernel
theorem dX7_seekHolding_22 : decode cX7_seekHolding 22 = .ok (.ifCond .eq 42, 3) := by decide +kernel
theorem dX7_seekHolding_25 : decode cX7_seekHolding 25 = .ok (.aload_n 0, 1) := by decide +kernel
theorem dX7_seekHolding_26 : decode cX7_seekHolding 26 = .ok (.aload_n 1, 1) := by decide +kernel
theorem dX7_seekHolding_27 : decode cX7_seekHolding 27 = .ok (.aload_n 1, 1) := by decide +kernel
theorem dX7_seekHolding_28 : decode cX7_seekHolding 28 = .ok (.getfield 54, 3) := by decide +kernel
theorem dX7_seekHolding_31 : decode cX7_seekHolding 31 = .ok (.aload_n 1, 1) := by decide +kernel
theorem dX7_seekHolding_32 : decode cX7_seekHolding 32 = .ok (.getfield 57, 3) := by decide +kernel
theorem dX7_seekHolding_35 : decode cX7_seekHolding 35 = .ok (.invokevirtual 47, 3) := by decide +kernel
theorem dX7_seekHolding_38 : decode cX7_seekHolding 38 = .ok (.ifCond .eq 13, 3) := by decide +kernel
theorem dX7_seekHolding_41 : decode cX7_seekHolding 41 = .ok (.iload_n 3, 1) := by decide +kernel
theorem dX7_seekHolding_42 : decode cX7_seekHolding 42 = .ok (.iload_n 2, 1) := by decide +kernel
theorem dX7_seekHolding_43 : decode cX7_seekHolding 43 = .ok (.if_icmp .ne 5, 3) := by decide +kernel
theorem dX7_seekHolding_46 : decode cX7_seekHolding 46 = .ok (.iconst 1, 1) := by decide +kernel
theorem dX7_seekHolding_47 : decode cX7_seekHolding 47 = .ok (.ireturn, 1) := by decide +kernel
theorem dX7_seekHolding_48 : decode cX7_seekHolding 48 = .ok (.iinc 3 1, 3) := by decide +kernel
theorem dX7_seekHolding_51 : decode cX7_seekHolding 51 = .ok (.aload_n 0, 1) := by decide +kernel
theorem dX7_seekHolding_52 : decode cX7_seekHolding 52 = .ok (.aload_n 1, 1) := by decide +kernel
theorem dX7_seekHolding_53 : decode cX7_seekHolding 53 = .ok (.invokevirtual 51, 3) := by decide +kernel
theorem dX7_seekHolding_56 : decode cX7_seekHolding 56 = .ok (.istore 4, 2) := by decide +kernel
theorem dX7_seekHolding_58 : decode cX7_seekHolding 58 = .ok (.iinc 5 1, 3) := by decide +kernel
theorem dX7_seekHolding_61 : decode cX7_seekHolding 61 = .ok (.goto (-49), 3) := by decide +kernel
theorem dX7_seekHolding_64 : decode cX7_seekHolding 64 = .ok (.iconst 0, 1) := by decide +kernel
theorem dX7_seekHolding_65 : decode cX7_seekHolding 65 = .ok (.ireturn, 1) := by decide +kernel
set_option maxRecDepth 100000 in
set_option maxHeartbeats 4000000 in
theorem wX7_seekHolding_L12 {p : Program} {l : Launch} {e : Env} {R : Room} {s : State} {m : MethodId} {args : Array Value} {below : List Frame} {meth : Method} {c : Code} {Q : State → Prop} {A : Nat → Prop} {dC : Nat → ClassId} {dI : Nat → Nat → Nat} {cI cL cB : ClassId} {K : Nat} (C0 : Sx p R s m args c cX7_seekHolding 6 RX7 A dC dI cI cL cB 2 57) (h_t h_t_chosen h_t_mixed h_t_near h_p1 h_p1_x h_p1_y h_p1_colour h_p1_load : Nat) (t_gone : Int32) (t_stuck : Int32) (t_longest : Int32) (t_side : Int32) (p1_size : Int32) (p1_centreX : Int32) (p1_centreY : Int32) (p1_x : Nat → Int32) (p1_y : Nat → Int32) (p1_colour : Nat → Int32) (l2 : Int32) : ∀ (n : Nat) (l3 : Int32) (l4 : Int32) (l5 : Int32) (t_chosen : Nat → Int32) (ex : ((Nat → Int32)) ⊕ ((Nat → Int32))) (H : Heap) (locs : List Loc) (ls : Array Slot), va_P (dC, dI) vwCl [(h_t, .inr (7, [.ref h_t_chosen, .ref h_t_mixed, .ref h_t_near, .int t_gone, .int t_stuck, .int t_longest, .int t_side])), (h_t_chosen, .inl (cI, 3, .inl t_chosen)), (h_p1, .inr (0, [.ref h_p1_x, .ref h_p1_y, .ref h_p1_colour, .ref h_p1_load, .int p1_size, .int p1_centreX, .int p1_centreY])), (h_p1_x, .inl (cI, 24, .inl p1_x)), (h_p1_y, .inl (cI, 24, .inl p1_y)), (h_p1_colour, .inl (cI, 24, .inl p1_colour))] H → va_D A [(h_t, .inr (7, [.ref h_t_chosen, .ref h_t_mixed, .ref h_t_near, .int t_gone, .int t_stuck, .int t_longest, .int t_side])), (h_t_chosen, .inl (cI, 3, .inl t_chosen)), (h_p1, .inr (0, [.ref h_p1_x, .ref h_p1_y, .ref h_p1_colour, .ref h_p1_load, .int p1_size, .int p1_centreX, .int p1_centreY])), (h_p1_x, .inl (cI, 24, .inl p1_x)), (h_p1_y, .inl (cI, 24, .inl p1_y)), (h_p1_colour, .inl (cI, 24, .inl p1_colour))] → va_S A s.heap H locs → lv_has ls 6 [(0, .ref h_t), (1, .ref h_p1), (2, .int l2), (3, .int l3), (4, .int l4), (5, .int l5)] → fX7_seekHolding_L12 K l2 p1_size p1_centreX p1_centreY p1_x p1_y p1_colour n l3 l4 l5 t_chosen = some ex → (∀ (x_t_chosen : Nat → Int32), ex = (.inl x_t_chosen) → ∀ (H : Heap) (locs : List Loc) (ls : Array Slot), va_P (dC, dI) vwCl [(h_t, .inr (7, [.ref h_t_chosen, .ref h_t_mixed, .ref h_t_near, .int t_gone, .int t_stuck, .int t_longest, .int t_side])), (h_t_chosen, .inl (cI, 3, .inl x_t_chosen)), (h_p1, .inr (0, [.ref h_p1_x, .ref h_p1_y, .ref h_p1_colour, .ref h_p1_load, .int p1_size, .int p1_centreX, .int p1_centreY])), (h_p1_x, .inl (cI, 24, .inl p1_x)), (h_p1_y, .inl (cI, 24, .inl p1_y)), (h_p1_colour, .inl (cI, 24, .inl p1_colour))] H → va_D A [(h_t, .inr (7, [.ref h_t_chosen, .ref h_t_mixed, .ref h_t_near, .int t_gone, .int t_stuck, .int t_longest, .int t_side])), (h_t_chosen, .inl (cI, 3, .inl x_t_chosen)), (h_p1, .inr (0, [.ref h_p1_x, .ref h_p1_y, .ref h_p1_colour, .ref h_p1_load, .int p1_size, .int p1_centreX, .int p1_centreY])), (h_p1_x, .inl (cI, 24, .inl p1_x)), (h_p1_y, .inl (cI, 24, .inl p1_y)), (h_p1_colour, .inl (cI, 24, .inl p1_colour))] → va_S A s.heap H locs → lv_has ls 6 [] → W p l e R s m args below meth c H locs 0 0 Q (F0 m 46 ls [])) → (∀ (x_t_chosen : Nat → Int32), ex = (.inr x_t_chosen) → ∀ (H : Heap) (locs : List Loc) (ls : Array Slot), va_P (dC, dI) vwCl [(h_t, .inr (7, [.ref h_t_chosen, .ref h_t_mixed, .ref h_t_near, .int t_gone, .int t_stuck, .int t_longest, .int t_side])), (h_t_chosen, .inl (cI, 3, .inl x_t_chosen)), (h_p1, .inr (0, [.ref h_p1_x, .ref h_p1_y, .ref h_p1_colour, .ref h_p1_load, .int p1_size, .int p1_centreX, .int p1_centreY])), (h_p1_x, .inl (cI, 24, .inl p1_x)), (h_p1_y, .inl (cI, 24, .inl p1_y)), (h_p1_colour, .inl (cI, 24, .inl p1_colour))] H → va_D A [(h_t, .inr (7, [.ref h_t_chosen, .ref h_t_mixed, .ref h_t_near, .int t_gone, .int t_stuck, .int t_longest, .int t_side])), (h_t_chosen, .inl (cI, 3, .inl x_t_chosen)), (h_p1, .inr (0, [.ref h_p1_x, .ref h_p1_y, .ref h_p1_colour, .ref h_p1_load, .int p1_size, .int p1_centreX, .int p1_centreY])), (h_p1_x, .inl (cI, 24, .inl p1_x)), (h_p1_y, .inl (cI, 24, .inl p1_y)), (h_p1_colour, .inl (cI, 24, .inl p1_colour))] → va_S A s.heap H locs → lv_has ls 6 [] → W p l e R s m args below meth c H locs 0 0 Q (F0 m 64 ls [])) → W p l e R s m args below meth c H locs 0 0 Q (F0 m 12 ls []) := by
  obtain ⟨hx, hb, hml, hown, hts, hK, hT, hA, hF, hLo⟩ := id C0
  intro n
  induction n with
  | zero =>
    intro l3 l4 l5 t_chosen ex H locs ls hP hD hS hl hf
    rw [fX7_seekHolding_L12] at hf
    cases hf
  | succ n ih =>
    intro l3 l4 l5 t_chosen ex H locs ls hP hD hS hl hf hk0 hk1
    rw [fX7_seekHolding_L12] at hf
    refine lv_iload hx hb dX7_seekHolding_12 (lv_at hl 5 rfl) ?_
    refine lv_sipush (v := (512 : Int32)) hx hb dX7_seekHolding_14 (by decide) ?_
    refine lv_icmp_ge (tgt := 64) hx hb dX7_seekHolding_17 (by decide) (fun hc => ?_) (fun hc => ?_)
    · replace hf := it_t (hc) hf
      exact hk1 t_chosen (Option.some.inj hf).symm H locs ls hP hD hS (lv_sub hl [] rfl)
    · replace hf := it_f (hc) hf
      refine lv_iload hx hb dX7_seekHolding_20 (lv_at hl 4 rfl) ?_
      refine lv_if_eq (tgt := 64) hx hb dX7_seekHolding_22 (by decide) (fun hc => ?_) (fun hc => ?_)
      · replace hf := it_t (hc) hf
        exact hk1 t_chosen (Option.some.inj hf).symm H locs ls hP hD hS (lv_sub hl [] rfl)
      · replace hf := it_f (hc) hf
        refine lv_aload_n hx hb dX7_seekHolding_25 rfl (lv_at hl 0 rfl) ?_
        refine lv_aload_n hx hb dX7_seekHolding_26 rfl (lv_at hl 1 rfl) ?_
        refine lv_aload_n hx hb dX7_seekHolding_27 rfl (lv_at hl 1 rfl) ?_
        refine va_get (D := (dC, dI)) (ci := 0) (v := .int p1_centreX) (C := RX0) (T := TX0) (N := 7) hx hb hts in_X0 hown hK hP 2 rfl rfl 5 (Nat.le_of_ble_eq_true rfl) (hts _ qf_X7_54) (fun _ h9 => h9) rfl dX7_seekHolding_28 ?_
        refine lv_aload_n hx hb dX7_seekHolding_31 rfl (lv_at hl 1 rfl) ?_
        refine va_get (D := (dC, dI)) (ci := 0) (v := .int p1_centreY) (C := RX0) (T := TX0) (N := 7) hx hb hts in_X0 hown hK hP 2 rfl rfl 6 (Nat.le_of_ble_eq_true rfl) (hts _ qf_X7_57) (fun _ h9 => h9) rfl dX7_seekHolding_32 ?_
        obtain ⟨r_4, hq_5, hf⟩ := b1_some hf
        refine xci (wr := [(h_p1_colour, .inl (cI, 24, .inl p1_colour))]) (w2 := [(h_t, .inr (7, [.ref h_t_chosen, .ref h_t_mixed, .ref h_t_near, .int t_gone, .int t_stuck, .int t_longest, .int t_side])), (h_t_chosen, .inl (cI, 3, .inl t_chosen)), (h_p1, .inr (0, [.ref h_p1_x, .ref h_p1_y, .ref h_p1_colour, .ref h_p1_load, .int p1_size, .int p1_centreX, .int p1_centreY])), (h_p1_x, .inl (cI, 24, .inl p1_x)), (h_p1_y, .inl (cI, 24, .inl p1_y)), (h_p1_colour, .inl (cI, 24, .inl p1_colour))]) (va_runV (As := [.ref h_p1, .int p1_centreX, .int p1_centreY]) (rest := []) ⟨hx, hb, hml, hown, hts⟩ (mtX7_chosenHold l dC dI cI cL cB K h_t h_t_chosen h_t_mixed h_t_near h_p1 h_p1_x h_p1_y h_p1_colour h_p1_load H.size t_gone t_stuck t_longest t_side t_chosen p1_size p1_centreX p1_centreY p1_x p1_y p1_centreX p1_centreY r_4 hq_5) (cwV 3 hts gv_X7_47 rfl rfl rfl hdV_X7_chosenHold ⟨Nat.le_trans (Nat.le_of_ble_eq_true rfl) hF, Nat.le_trans (Nat.le_of_ble_eq_true rfl) hLo⟩) (cPreV hK hP hD hT [0, 1, 2, 3, 4] rfl rfl (ci := 7) (q0 := 0) rfl rfl) rfl rfl hl.1 rfl (lv_room (Nat.le_of_ble_eq_true rfl)) dX7_seekHolding_35 ⟨Nat.zero_le _, Nat.zero_le _⟩) hP hD hS hA [0, 1, 2, 3, 4] [5] [1, 2, 3, 4, 5, 0] rfl rfl rfl rfl rfl rfl (fun H locs hP hD hS => ?_)
        obtain ⟨k_7, ek_7, hf⟩ := jn_out hf
        have J_8 : ∀ (l3_6 : Int32) (H : Heap) (locs : List Loc) (ls : Array Slot), va_P (dC, dI) vwCl [(h_t, .inr (7, [.ref h_t_chosen, .ref h_t_mixed, .ref h_t_near, .int t_gone, .int t_stuck, .int t_longest, .int t_side])), (h_t_chosen, .inl (cI, 3, .inl t_chosen)), (h_p1, .inr (0, [.ref h_p1_x, .ref h_p1_y, .ref h_p1_colour, .ref h_p1_load, .int p1_size, .int p1_centreX, .int p1_centreY])), (h_p1_x, .inl (cI, 24, .inl p1_x)), (h_p1_y, .inl (cI, 24, .inl p1_y)), (h_p1_colour, .inl (cI, 24, .inl p1_colour))] H → va_D A [(h_t, .inr (7, [.ref h_t_chosen, .ref h_t_mixed, .ref h_t_near, .int t_gone, .int t_stuck, .int t_longest, .int t_side])), (h_t_chosen, .inl (cI, 3, .inl t_chosen)), (h_p1, .inr (0, [.ref h_p1_x, .ref h_p1_y, .ref h_p1_colour, .ref h_p1_load, .int p1_size, .int p1_centreX, .int p1_centreY])), (h_p1_x, .inl (cI, 24, .inl p1_x)), (h_p1_y, .inl (cI, 24, .inl p1_y)), (h_p1_colour, .inl (cI, 24, .inl p1_colour))] → va_S A s.heap H locs → lv_has ls 6 [(0, .ref h_t), (1, .ref h_p1), (2, .int l2), (3, .int l3_6), (5, .int l5)] → k_7 l3_6 = some ex → W p l e R s m args below meth c H locs 0 0 Q (F0 m 51 ls []) := by
          intro l3_6 H locs ls hP hD hS hl hf
          rw [ek_7] at hf
          try dsimp only at hf
          refine lv_aload_n hx hb dX7_seekHolding_51 rfl (lv_at hl 0 rfl) ?_
          refine lv_aload_n hx hb dX7_seekHolding_52 rfl (lv_at hl 1 rfl) ?_
          obtain ⟨r_9, t_chosen_10, hq_11, hf⟩ := b2_some hf
          refine xci (wr := [(h_p1_x, .inl (cI, 24, .inl p1_x)), (h_p1_y, .inl (cI, 24, .inl p1_y))]) (w2 := [(h_t, .inr (7, [.ref h_t_chosen, .ref h_t_mixed, .ref h_t_near, .int t_gone, .int t_stuck, .int t_longest, .int t_side])), (h_t_chosen, .inl (cI, 3, .inl t_chosen_10)), (h_p1, .inr (0, [.ref h_p1_x, .ref h_p1_y, .ref h_p1_colour, .ref h_p1_load, .int p1_size, .int p1_centreX, .int p1_centreY])), (h_p1_x, .inl (cI, 24, .inl p1_x)), (h_p1_y, .inl (cI, 24, .inl p1_y)), (h_p1_colour, .inl (cI, 24, .inl p1_colour))]) (va_runV (As := [.ref h_p1]) (rest := []) ⟨hx, hb, hml, hown, hts⟩ (mtX7_chooseNext l dC dI cI cL cB K h_t h_t_chosen h_t_mixed h_t_near h_p1 h_p1_x h_p1_y h_p1_colour h_p1_load H.size t_gone t_stuck t_longest t_side t_chosen p1_size p1_centreX p1_centreY p1_colour r_9 t_chosen_10 hq_11) (cwV 1 hts gv_X7_51 rfl rfl rfl hdV_X7_chooseNext ⟨Nat.le_trans (Nat.le_of_ble_eq_true rfl) hF, Nat.le_trans (Nat.le_of_ble_eq_true rfl) hLo⟩) (cPreV hK hP hD hT [0, 1, 2, 5] rfl rfl (ci := 7) (q0 := 0) rfl rfl) rfl rfl hl.1 rfl (lv_room (Nat.le_of_ble_eq_true rfl)) dX7_seekHolding_53 ⟨Nat.zero_le _, Nat.zero_le _⟩) hP hD hS hA [0, 1, 2, 5] [3, 4] [2, 3, 4, 0, 1, 5] rfl rfl rfl rfl rfl rfl (fun H locs hP hD hS => ?_)
          refine lv_istore (lv' := [(4, .int r_9), (0, .ref h_t), (1, .ref h_p1), (2, .int l2), (3, .int l3_6), (5, .int l5)]) hx hb dX7_seekHolding_56 hl (Nat.le_of_ble_eq_true rfl) rfl (fun ls hl => ?_)
          obtain ⟨l5_12, el5_12⟩ : ∃ y : Int32, y = l5 + (1 : Int32) := ⟨_, rfl⟩
          replace hf := xl_at hf el5_12
          refine lv_iinc (v := l5_12) (lv' := [(5, .int l5_12), (4, .int r_9), (0, .ref h_t), (1, .ref h_p1), (2, .int l2), (3, .int l3_6)]) hx hb dX7_seekHolding_58 hl (k := 5) rfl (by rw [el5_12]; rfl) (Nat.le_of_ble_eq_true rfl) rfl (fun ls hl => ?_)
          refine lv_goto (tgt := 12) hx hb dX7_seekHolding_61 (by decide) ?_
          exact ih l3_6 r_9 l5_12 t_chosen_10 _ H locs ls hP hD hS (lv_sub hl [2, 3, 4, 5, 1, 0] rfl) hf hk0 hk1
        refine lv_if_eq (tgt := 51) hx hb dX7_seekHolding_38 (by decide) (fun hc => ?_) (fun hc => ?_)
        · replace hf := it_t (hc) hf
          exact J_8 l3 H locs ls hP hD hS (lv_sub hl [0, 1, 2, 3, 5] rfl) hf
        · replace hf := it_f (hc) hf
          refine lv_iload_n hx hb dX7_seekHolding_41 rfl (lv_at hl 3 rfl) ?_
          refine lv_iload_n hx hb dX7_seekHolding_42 rfl (lv_at hl 2 rfl) ?_
          refine lv_icmp_ne (tgt := 48) hx hb dX7_seekHolding_43 (by decide) (fun hc => ?_) (fun hc => ?_)
          · replace hf := it_f (hc) hf
            obtain ⟨l3_13, el3_13⟩ : ∃ y : Int32, y = l3 + (1 : Int32) := ⟨_, rfl⟩
            replace hf := xl_at hf el3_13
            refine lv_iinc (v := l3_13) (lv' := [(3, .int l3_13), (0, .ref h_t), (1, .ref h_p1), (2, .int l2), (4, .int l4), (5, .int l5)]) hx hb dX7_seekHolding_48 hl (k := 3) rfl (by rw [el3_13]; rfl) (Nat.le_of_ble_eq_true rfl) rfl (fun ls hl => ?_)
            exact J_8 l3_13 H locs ls hP hD hS (lv_sub hl [1, 2, 3, 0, 5] rfl) hf
          · replace hf := it_t (hc) hf
            exact hk0 t_chosen (Option.some.inj hf).symm H locs ls hP hD hS (lv_sub hl [] rfl)
set_option maxRecDepth 100000 in
set_option maxHeartbeats 4000000 in
theorem mtX7_seekHolding (l : Launch) (dC : Nat → ClassId) (dI : Nat → Nat → Nat) (cI cL cB : ClassId) (K : Nat) (h_t h_t_chosen h_t_mixed h_t_near h_p1 h_p1_x h_p1_y h_p1_colour h_p1_load : Nat) (sz : Nat) (t_gone : Int32) (t_stuck : Int32) (t_longest : Int32) (t_side : Int32) (t_chosen : Nat → Int32) (p1_size : Int32) (p1_centreX : Int32) (p1_centreY : Int32) (p1_x : Nat → Int32) (p1_y : Nat → Int32) (p1_colour : Nat → Int32) (a2 : Int32) (o_r : Int32) (o_t_chosen : Nat → Int32) (hf : fX7_seekHolding K t_chosen p1_size p1_centreX p1_centreY p1_x p1_y p1_colour a2 = some (o_r, o_t_chosen)) : Met l yX7_seekHolding [Cond.code yX7_seekHolding cX7_seekHolding 6 (some .boolean)] ({ frames := 2, cells := 0, slots := 0, locals := 57 }) (va_Pc [.ref h_t, .ref h_p1, .int a2] (cPre dC dI cI cL cB sz [(h_t, .inr (7, [.ref h_t_chosen, .ref h_t_mixed, .ref h_t_near, .int t_gone, .int t_stuck, .int t_longest, .int t_side])), (h_t_chosen, .inl (cI, 3, .inl t_chosen)), (h_p1, .inr (0, [.ref h_p1_x, .ref h_p1_y, .ref h_p1_colour, .ref h_p1_load, .int p1_size, .int p1_centreX, .int p1_centreY])), (h_p1_x, .inl (cI, 24, .inl p1_x)), (h_p1_y, .inl (cI, 24, .inl p1_y)), (h_p1_colour, .inl (cI, 24, .inl p1_colour))])) (cQi dC dI (va_A [(h_t, .inr (7, [.ref h_t_chosen, .ref h_t_mixed, .ref h_t_near, .int t_gone, .int t_stuck, .int t_longest, .int t_side])), (h_t_chosen, .inl (cI, 3, .inl t_chosen)), (h_p1, .inr (0, [.ref h_p1_x, .ref h_p1_y, .ref h_p1_colour, .ref h_p1_load, .int p1_size, .int p1_centreX, .int p1_centreY])), (h_p1_x, .inl (cI, 24, .inl p1_x)), (h_p1_y, .inl (cI, 24, .inl p1_y)), (h_p1_colour, .inl (cI, 24, .inl p1_colour))] sz) o_r [(h_t, .inr (7, [.ref h_t_chosen, .ref h_t_mixed, .ref h_t_near, .int t_gone, .int t_stuck, .int t_longest, .int t_side])), (h_t_chosen, .inl (cI, 3, .inl o_t_chosen)), (h_p1, .inr (0, [.ref h_p1_x, .ref h_p1_y, .ref h_p1_colour, .ref h_p1_load, .int p1_size, .int p1_centreX, .int p1_centreY])), (h_p1_x, .inl (cI, 24, .inl p1_x)), (h_p1_y, .inl (cI, 24, .inl p1_y)), (h_p1_colour, .inl (cI, 24, .inl p1_colour))]) 0 0 (va_A [(h_t, .inr (7, [.ref h_t_chosen, .ref h_t_mixed, .ref h_t_near, .int t_gone, .int t_stuck, .int t_longest, .int t_side])), (h_t_chosen, .inl (cI, 3, .inl t_chosen)), (h_p1, .inr (0, [.ref h_p1_x, .ref h_p1_y, .ref h_p1_colour, .ref h_p1_load, .int p1_size, .int p1_centreX, .int p1_centreY])), (h_p1_x, .inl (cI, 24, .inl p1_x)), (h_p1_y, .inl (cI, 24, .inl p1_y)), (h_p1_colour, .inl (cI, 24, .inl p1_colour))] sz) := by
  refine Met.ofW (cc := cX7_seekHolding) (maxL := 6) (ret := (some .boolean)) (by decide) rfl ?_
  intro p e s m args below meth c s₁ B hml hv
  obtain ⟨rfl, hsz, hP, hK, hD0, hT⟩ := hv
  have hx := B.exec
  have hb := B.bytes
  have hr := B.returns
  have hown : s.vm.findClass RX7 = some m.cls := findClass_of_methodNamed B.named
  have hlocks := B.notSynchronized
  have hts := TB.use hT ([.ref h_t, .ref h_p1, .int a2] : List Value).toArray
  subst hsz
  have hD := hD0.self (sz := s.heap.size)
  generalize hAe : va_A [(h_t, .inr (7, [.ref h_t_chosen, .ref h_t_mixed, .ref h_t_near, .int t_gone, .int t_stuck, .int t_longest, .int t_side])), (h_t_chosen, .inl (cI, 3, .inl t_chosen)), (h_p1, .inr (0, [.ref h_p1_x, .ref h_p1_y, .ref h_p1_colour, .ref h_p1_load, .int p1_size, .int p1_centreX, .int p1_centreY])), (h_p1_x, .inl (cI, 24, .inl p1_x)), (h_p1_y, .inl (cI, 24, .inl p1_y)), (h_p1_colour, .inl (cI, 24, .inl p1_colour))] s.heap.size = A at hD ⊢
  have hA : ∀ q : Nat, s.heap.size ≤ q → A q := fun q h => by rw [← hAe]; exact Or.inr h
  clear hAe hD0
  have hl := lv_entry ([.ref h_t, .ref h_p1, .int a2]) (n := 6) (Nat.le_of_ble_eq_true rfl)
  rw [lg_entry_eq]
  generalize (lg_sl ([.ref h_t, .ref h_p1, .int a2]) ++ List.replicate (6 - (lg_sl ([.ref h_t, .ref h_p1, .int a2])).length) Slot.unset).toArray = ls at hl ⊢
  have hl : lv_has ls 6 [(0, .ref h_t), (1, .ref h_p1), (2, .int a2)] := hl
  have hF : 2 ≤ (headSpec [Cond.code yX7_seekHolding cX7_seekHolding 6 (some .boolean)] ({ frames := 2, cells := 0, slots := 0, locals := 57 })).room.frames := Nat.le_refl _
  have hLo : 57 ≤ (headSpec [Cond.code yX7_seekHolding cX7_seekHolding 6 (some .boolean)] ({ frames := 2, cells := 0, slots := 0, locals := 57 })).room.locals := Nat.le_refl _
  have C0 : Sx p (headSpec [Cond.code yX7_seekHolding cX7_seekHolding 6 (some .boolean)] ({ frames := 2, cells := 0, slots := 0, locals := 57 })).room s m ([.ref h_t, .ref h_p1, .int a2] : List Value).toArray c cX7_seekHolding 6 RX7 A dC dI cI cL cB 2 57 := ⟨hx, hb, hml, hown, hts, hK, hT, hA, hF, hLo⟩
  refine startH (A := A) hP (fun H locs hP hS => ?_)
  rw [fX7_seekHolding] at hf
  refine lv_iconst (v := (0 : Int32)) hx hb dX7_seekHolding_0 (by decide) ?_
  refine lv_istore_n (lv' := [(3, .int (0 : Int32)), (0, .ref h_t), (1, .ref h_p1), (2, .int a2)]) hx hb dX7_seekHolding_1 rfl hl (Nat.le_of_ble_eq_true rfl) rfl (fun ls hl => ?_)
  refine lv_aload_n hx hb dX7_seekHolding_2 rfl (lv_at hl 1 rfl) ?_
  refine lv_aload_n hx hb dX7_seekHolding_3 rfl (lv_at hl 2 rfl) ?_
  obtain ⟨r_1, t_chosen_2, hq_3, hf⟩ := b2_some hf
  refine xci (wr := [(h_p1_x, .inl (cI, 24, .inl p1_x)), (h_p1_y, .inl (cI, 24, .inl p1_y))]) (w2 := [(h_t, .inr (7, [.ref h_t_chosen, .ref h_t_mixed, .ref h_t_near, .int t_gone, .int t_stuck, .int t_longest, .int t_side])), (h_t_chosen, .inl (cI, 3, .inl t_chosen_2)), (h_p1, .inr (0, [.ref h_p1_x, .ref h_p1_y, .ref h_p1_colour, .ref h_p1_load, .int p1_size, .int p1_centreX, .int p1_centreY])), (h_p1_x, .inl (cI, 24, .inl p1_x)), (h_p1_y, .inl (cI, 24, .inl p1_y)), (h_p1_colour, .inl (cI, 24, .inl p1_colour))]) (va_runV (As := [.ref h_p1]) (rest := []) ⟨hx, hb, hml, hown, hts⟩ (mtX7_chooseFirst l dC dI cI cL cB K h_t h_t_chosen h_t_mixed h_t_near h_p1 h_p1_x h_p1_y h_p1_colour h_p1_load H.size t_gone t_stuck t_longest t_side t_chosen p1_size p1_centreX p1_centreY p1_colour r_1 t_chosen_2 hq_3) (cwV 1 hts gv_X7_43 rfl rfl rfl hdV_X7_chooseFirst ⟨Nat.le_trans (Nat.le_of_ble_eq_true rfl) hF, Nat.le_trans (Nat.le_of_ble_eq_true rfl) hLo⟩) (cPreV hK hP hD hT [0, 1, 2, 5] rfl rfl (ci := 7) (q0 := 0) rfl rfl) rfl rfl hl.1 rfl (lv_room (Nat.le_of_ble_eq_true rfl)) dX7_seekHolding_4 ⟨Nat.zero_le _, Nat.zero_le _⟩) hP hD hS hA [0, 1, 2, 5] [3, 4] [2, 3, 4, 0, 1, 5] rfl rfl rfl rfl rfl rfl (fun H locs hP hD hS => ?_)
  refine lv_istore (lv' := [(4, .int r_1), (3, .int (0 : Int32)), (0, .ref h_t), (1, .ref h_p1), (2, .int a2)]) hx hb dX7_seekHolding_7 hl (Nat.le_of_ble_eq_true rfl) rfl (fun ls hl => ?_)
  refine lv_iconst (v := (0 : Int32)) hx hb dX7_seekHolding_9 (by decide) ?_
  refine lv_istore (lv' := [(5, .int (0 : Int32)), (4, .int r_1), (3, .int (0 : Int32)), (0, .ref h_t), (1, .ref h_p1), (2, .int a2)]) hx hb dX7_seekHolding_10 hl (Nat.le_of_ble_eq_true rfl) rfl (fun ls hl => ?_)
  obtain ⟨ex_17, hq_14, hf⟩ := sm_some hf
  refine wX7_seekHolding_L12 C0 h_t h_t_chosen h_t_mixed h_t_near h_p1 h_p1_x h_p1_y h_p1_colour h_p1_load t_gone t_stuck t_longest t_side p1_size p1_centreX p1_centreY p1_x p1_y p1_colour a2 K (0 : Int32) r_1 (0 : Int32) t_chosen_2 ex_17 H locs ls hP hD hS (lv_sub hl [3, 4, 5, 2, 1, 0] rfl) hq_14 ?_ ?_
  · intro t_chosen_15 he H locs ls hP hD hS hl
    subst he
    replace hf := el1 hf
    refine lv_iconst (v := (1 : Int32)) hx hb dX7_seekHolding_46 (by decide) ?_
    obtain ⟨rfl, rfl⟩ := o2 hf
    exact W.zret hx hb hr rfl (fun t ht hW => ⟨⟨_, (), rfl, rfl, by rw [ht]; exact hP, hD⟩, hS.F ht⟩) hS.2.2 dX7_seekHolding_47
  · intro t_chosen_16 he H locs ls hP hD hS hl
    subst he
    replace hf := er1 hf
    refine lv_iconst (v := (0 : Int32)) hx hb dX7_seekHolding_64 (by decide) ?_
    obtain ⟨rfl, rfl⟩ := o2 hf
    exact W.zret hx hb hr rfl (fun t ht hW => ⟨⟨_, (), rfl, rfl, by rw [ht]; exact hP, hD⟩, hS.F ht⟩) hS.2.2 dX7_seekHolding_65
theorem dX11_rainbow_0 : decode cX11_rainbow 0 = .ok (.iload_n 1, 1) := by decide +kernel
theorem dX11_rainbow_1 : decode cX11_rainbow 1 = .ok (.ifCond .lt 10, 3) := by decide +kernel
theorem dX11_rainbow_4 : decode cX11_rainbow 4 = .ok (.iload_n 2, 1) := by decide +kernel
theorem dX11_rainbow_5 : decode cX11_rainbow 5 = .ok (.invokestatic 260, 3) := by decide +kernel
theorem dX11_rainbow_8 : decode cX11_rainbow 8 = .ok (.ifCond .ne 6, 3) := by decide +kernel
theorem dX11_rainbow_11 : decode cX11_rainbow 11 = .ok (.bipush (-2), 2) := by decide +kernel
theorem dX11_rainbow_13 : decode cX11_rainbow 13 = .ok (.ireturn, 1) := by decide +kernel
theorem dX11_rainbow_14 : decode cX11_rainbow 14 = .ok (.aload_n 0, 1) := by decide +kernel
theorem dX11_rainbow_15 : decode cX11_rainbow 15 = .ok (.getfield 56, 3) := by decide +kernel
theorem dX11_rainbow_18 : decode cX11_rainbow 18 = .ok (.aload_n 0, 1) := by decide +kernel
theorem dX11_rainbow_19 : decode cX11_rainbow 19 = .ok (.getfield 12, 3) := by decide +kernel
theorem dX11_rainbow_22 : decode cX11_rainbow 22 = .ok (.iload_n 1, 1) := by decide +kernel
theorem dX11_rainbow_23 : decode cX11_rainbow 23 = .ok (.invokevirtual 263, 3) := by decide +kernel
theorem dX11_rainbow_26 : decode cX11_rainbow 26 = .ok (.ifCond .eq 15, 3) := by decide +kernel
theorem dX11_rainbow_29 : decode cX11_rainbow 29 = .ok (.aload_n 0, 1) := by decide +kernel
theorem dX11_rainbow_30 : decode cX11_rainbow 30 = .ok (.getfield 56, 3) := by decide +kernel
theorem dX11_rainbow_33 : decode cX11_rainbow 33 = .ok (.getfield 266, 3) := by decide +kernel
theorem dX11_rainbow_36 : decode cX11_rainbow 36 = .ok (.iload_n 2, 1) := by decide +kernel
theorem dX11_rainbow_37 : decode cX11_rainbow 37 = .ok (.iaload, 1) := by decide +kernel
theorem dX11_rainbow_38 : decode cX11_rainbow 38 = .ok (.goto 4, 3) := by decide +kernel
theorem dX11_rainbow_41 : decode cX11_rainbow 41 = .ok (.iconst (-1), 1) := by decide +kernel
theorem dX11_rainbow_42 : decode cX11_rainbow 42 = .ok (.ireturn, 1) := by decide +kernel
set_option maxRecDepth 100000 in
set_option maxHeartbeats 4000000 in
theorem mtX11_rainbow (l : Launch) (dC : Nat → ClassId) (dI : Nat → Nat → Nat) (cI cL cB : ClassId) (K : Nat) (h_t h_t_cloud h_t_reader h_t_hull h_t_near h_t_firstTie h_t_reducer h_t_chooser h_t_pair h_t_divider h_t_depths h_t_spot h_t_cloud_x h_t_cloud_y h_t_cloud_colour h_t_cloud_load h_t_chooser_chosen h_t_chooser_mixed h_t_chooser_near : Nat) (sz : Nat) (t_cloud_size : Int32) (t_cloud_centreX : Int32) (t_cloud_centreY : Int32) (t_cloud_x : Nat → Int32) (t_cloud_y : Nat → Int32) (t_cloud_colour : Nat → Int32) (t_chooser_gone : Int32) (t_chooser_stuck : Int32) (t_chooser_longest : Int32) (t_chooser_side : Int32) (t_chooser_chosen : Nat → Int32) (a1 : Int32) (a2 : Int32) (o_r : Int32) (o_t_chooser_chosen : Nat → Int32) (hf : fX11_rainbow K t_cloud_size t_cloud_centreX t_cloud_centreY t_cloud_x t_cloud_y t_cloud_colour t_chooser_chosen a1 a2 = some (o_r, o_t_chooser_chosen)) : Met l yX11_rainbow [Cond.code yX11_rainbow cX11_rainbow 3 (some .int)] ({ frames := 3, cells := 0, slots := 0, locals := 82 }) (va_Pc [.ref h_t, .int a1, .int a2] (cPre dC dI cI cL cB sz [(h_t, .inr (11, [.ref h_t_cloud, .ref h_t_reader, .ref h_t_hull, .ref h_t_near, .ref h_t_firstTie, .ref h_t_reducer, .ref h_t_chooser, .ref h_t_pair, .ref h_t_divider, .ref h_t_depths, .ref h_t_spot])), (h_t_cloud, .inr (0, [.ref h_t_cloud_x, .ref h_t_cloud_y, .ref h_t_cloud_colour, .ref h_t_cloud_load, .int t_cloud_size, .int t_cloud_centreX, .int t_cloud_centreY])), (h_t_cloud_x, .inl (cI, 24, .inl t_cloud_x)), (h_t_cloud_y, .inl (cI, 24, .inl t_cloud_y)), (h_t_cloud_colour, .inl (cI, 24, .inl t_cloud_colour)), (h_t_chooser, .inr (7, [.ref h_t_chooser_chosen, .ref h_t_chooser_mixed, .ref h_t_chooser_near, .int t_chooser_gone, .int t_chooser_stuck, .int t_chooser_longest, .int t_chooser_side])), (h_t_chooser_chosen, .inl (cI, 3, .inl t_chooser_chosen))])) (cQi dC dI (va_A [(h_t, .inr (11, [.ref h_t_cloud, .ref h_t_reader, .ref h_t_hull, .ref h_t_near, .ref h_t_firstTie, .ref h_t_reducer, .ref h_t_chooser, .ref h_t_pair, .ref h_t_divider, .ref h_t_depths, .ref h_t_spot])), (h_t_cloud, .inr (0, [.ref h_t_cloud_x, .ref h_t_cloud_y, .ref h_t_cloud_colour, .ref h_t_cloud_load, .int t_cloud_size, .int t_cloud_centreX, .int t_cloud_centreY])), (h_t_cloud_x, .inl (cI, 24, .inl t_cloud_x)), (h_t_cloud_y, .inl (cI, 24, .inl t_cloud_y)), (h_t_cloud_colour, .inl (cI, 24, .inl t_cloud_colour)), (h_t_chooser, .inr (7, [.ref h_t_chooser_chosen, .ref h_t_chooser_mixed, .ref h_t_chooser_near, .int t_chooser_gone, .int t_chooser_stuck, .int t_chooser_longest, .int t_chooser_side])), (h_t_chooser_chosen, .inl (cI, 3, .inl t_chooser_chosen))] sz) o_r [(h_t, .inr (11, [.ref h_t_cloud, .ref h_t_reader, .ref h_t_hull, .ref h_t_near, .ref h_t_firstTie, .ref h_t_reducer, .ref h_t_chooser, .ref h_t_pair, .ref h_t_divider, .ref h_t_depths, .ref h_t_spot])), (h_t_cloud, .inr (0, [.ref h_t_cloud_x, .ref h_t_cloud_y, .ref h_t_cloud_colour, .ref h_t_cloud_load, .int t_cloud_size, .int t_cloud_centreX, .int t_cloud_centreY])), (h_t_cloud_x, .inl (cI, 24, .inl t_cloud_x)), (h_t_cloud_y, .inl (cI, 24, .inl t_cloud_y)), (h_t_cloud_colour, .inl (cI, 24, .inl t_cloud_colour)), (h_t_chooser, .inr (7, [.ref h_t_chooser_chosen, .ref h_t_chooser_mixed, .ref h_t_chooser_near, .int t_chooser_gone, .int t_chooser_stuck, .int t_chooser_longest, .int t_chooser_side])), (h_t_chooser_chosen, .inl (cI, 3, .inl o_t_chooser_chosen))]) 0 0 (va_A [(h_t, .inr (11, [.ref h_t_cloud, .ref h_t_reader, .ref h_t_hull, .ref h_t_near, .ref h_t_firstTie, .ref h_t_reducer, .ref h_t_chooser, .ref h_t_pair, .ref h_t_divider, .ref h_t_depths, .ref h_t_spot])), (h_t_cloud, .inr (0, [.ref h_t_cloud_x, .ref h_t_cloud_y, .ref h_t_cloud_colour, .ref h_t_cloud_load, .int t_cloud_size, .int t_cloud_centreX, .int t_cloud_centreY])), (h_t_cloud_x, .inl (cI, 24, .inl t_cloud_x)), (h_t_cloud_y, .inl (cI, 24, .inl t_cloud_y)), (h_t_cloud_colour, .inl (cI, 24, .inl t_cloud_colour)), (h_t_chooser, .inr (7, [.ref h_t_chooser_chosen, .ref h_t_chooser_mixed, .ref h_t_chooser_near, .int t_chooser_gone, .int t_chooser_stuck, .int t_chooser_longest, .int t_chooser_side])), (h_t_chooser_chosen, .inl (cI, 3, .inl t_chooser_chosen))] sz) := by
  refine Met.ofW (cc := cX11_rainbow) (maxL := 3) (ret := (some .int)) (by decide) rfl ?_
  intro p e s m args below meth c s₁ B hml hv
  obtain ⟨rfl, hsz, hP, hK, hD0, hT⟩ := hv
  have hx := B.exec
  have hb := B.bytes
  have hr := B.returns
  have hown : s.vm.findClass RX11 = some m.cls := findClass_of_methodNamed B.named
  have hlocks := B.notSynchronized
  have hts := TB.use hT ([.ref h_t, .int a1, .int a2] : List Value).toArray
  subst hsz
  have hD := hD0.self (sz := s.heap.size)
  generalize hAe : va_A [(h_t, .inr (11, [.ref h_t_cloud, .ref h_t_reader, .ref h_t_hull, .ref h_t_near, .ref h_t_firstTie, .ref h_t_reducer, .ref h_t_chooser, .ref h_t_pair, .ref h_t_divider, .ref h_t_depths, .ref h_t_spot])), (h_t_cloud, .inr (0, [.ref h_t_cloud_x, .ref h_t_cloud_y, .ref h_t_cloud_colour, .ref h_t_cloud_load, .int t_cloud_size, .int t_cloud_centreX, .int t_cloud_centreY])), (h_t_cloud_x, .inl (cI, 24, .inl t_cloud_x)), (h_t_cloud_y, .inl (cI, 24, .inl t_cloud_y)), (h_t_cloud_colour, .inl (cI, 24, .inl t_cloud_colour)), (h_t_chooser, .inr (7, [.ref h_t_chooser_chosen, .ref h_t_chooser_mixed, .ref h_t_chooser_near, .int t_chooser_gone, .int t_chooser_stuck, .int t_chooser_longest, .int t_chooser_side])), (h_t_chooser_chosen, .inl (cI, 3, .inl t_chooser_chosen))] s.heap.size = A at hD ⊢
  have hA : ∀ q : Nat, s.heap.size ≤ q → A q := fun q h => by rw [← hAe]; exact Or.inr h
  clear hAe hD0
  have hl := lv_entry ([.ref h_t, .int a1, .int a2]) (n := 3) (Nat.le_of_ble_eq_true rfl)
  rw [lg_entry_eq]
  generalize (lg_sl ([.ref h_t, .int a1, .int a2]) ++ List.replicate (3 - (lg_sl ([.ref h_t, .int a1, .int a2])).length) Slot.unset).toArray = ls at hl ⊢
  have hl : lv_has ls 3 [(0, .ref h_t), (1, .int a1), (2, .int a2)] := hl
  have hF : 3 ≤ (headSpec [Cond.code yX11_rainbow cX11_rainbow 3 (some .int)] ({ frames := 3, cells := 0, slots := 0, locals := 82 })).room.frames := Nat.le_refl _
  have hLo : 82 ≤ (headSpec [Cond.code yX11_rainbow cX11_rainbow 3 (some .int)] ({ frames := 3, cells := 0, slots := 0, locals := 82 })).room.locals := Nat.le_refl _
  have C0 : Sx p (headSpec [Cond.code yX11_rainbow cX11_rainbow 3 (some .int)] ({ frames := 3, cells := 0, slots := 0, locals := 82 })).room s m ([.ref h_t, .int a1, .int a2] : List Value).toArray c cX11_rainbow 3 RX11 A dC dI cI cL cB 3 82 := ⟨hx, hb, hml, hown, hts, hK, hT, hA, hF, hLo⟩
  refine startH (A := A) hP (fun H locs hP hS => ?_)
  rw [fX11_rainbow] at hf
  refine lv_iload_n hx hb dX11_rainbow_0 rfl (lv_at hl 1 rfl) ?_
  refine lv_if_lt (tgt := 11) hx hb dX11_rainbow_1 (by decide) (fun hc => ?_) (fun hc => ?_)
  · replace hf := it_t (hc) hf
    refine lv_bipush (v := (-2 : Int32)) hx hb dX11_rainbow_11 (by decide) ?_
    obtain ⟨rfl, rfl⟩ := o2 hf
    exact W.iret hx hb hr (fun t ht hW => ⟨⟨_, (), rfl, rfl, by rw [ht]; exact hP, hD⟩, hS.F ht⟩) hS.2.2 dX11_rainbow_13
  · replace hf := it_f (hc) hf
    refine lv_iload_n hx hb dX11_rainbow_4 rfl (lv_at hl 2 rfl) ?_
    obtain ⟨r_1, hq_2, hf⟩ := b1_some hf
    refine xci (wr := [(h_t, .inr (11, [.ref h_t_cloud, .ref h_t_reader, .ref h_t_hull, .ref h_t_near, .ref h_t_firstTie, .ref h_t_reducer, .ref h_t_chooser, .ref h_t_pair, .ref h_t_divider, .ref h_t_depths, .ref h_t_spot])), (h_t_cloud, .inr (0, [.ref h_t_cloud_x, .ref h_t_cloud_y, .ref h_t_cloud_colour, .ref h_t_cloud_load, .int t_cloud_size, .int t_cloud_centreX, .int t_cloud_centreY])), (h_t_cloud_x, .inl (cI, 24, .inl t_cloud_x)), (h_t_cloud_y, .inl (cI, 24, .inl t_cloud_y)), (h_t_cloud_colour, .inl (cI, 24, .inl t_cloud_colour)), (h_t_chooser, .inr (7, [.ref h_t_chooser_chosen, .ref h_t_chooser_mixed, .ref h_t_chooser_near, .int t_chooser_gone, .int t_chooser_stuck, .int t_chooser_longest, .int t_chooser_side])), (h_t_chooser_chosen, .inl (cI, 3, .inl t_chooser_chosen))]) (w2 := [(h_t, .inr (11, [.ref h_t_cloud, .ref h_t_reader, .ref h_t_hull, .ref h_t_near, .ref h_t_firstTie, .ref h_t_reducer, .ref h_t_chooser, .ref h_t_pair, .ref h_t_divider, .ref h_t_depths, .ref h_t_spot])), (h_t_cloud, .inr (0, [.ref h_t_cloud_x, .ref h_t_cloud_y, .ref h_t_cloud_colour, .ref h_t_cloud_load, .int t_cloud_size, .int t_cloud_centreX, .int t_cloud_centreY])), (h_t_cloud_x, .inl (cI, 24, .inl t_cloud_x)), (h_t_cloud_y, .inl (cI, 24, .inl t_cloud_y)), (h_t_cloud_colour, .inl (cI, 24, .inl t_cloud_colour)), (h_t_chooser, .inr (7, [.ref h_t_chooser_chosen, .ref h_t_chooser_mixed, .ref h_t_chooser_near, .int t_chooser_gone, .int t_chooser_stuck, .int t_chooser_longest, .int t_chooser_side])), (h_t_chooser_chosen, .inl (cI, 3, .inl t_chooser_chosen))]) (va_runS (As := [.int a2]) (rest := []) ⟨hx, hb, hml, hown, hts⟩ (mtX11_isColour l dC dI cI cL cB K H.size a2 r_1 hq_2) (va_cwS 1 hts gs_X11_260 rfl rfl rfl hdS_X11_isColour ⟨Nat.le_trans (Nat.le_of_ble_eq_true rfl) hF, Nat.le_trans (Nat.le_of_ble_eq_true rfl) hLo⟩) (cPreS hK hP hD hT [] rfl rfl) rfl rfl hl.1 rfl (lv_room (Nat.le_of_ble_eq_true rfl)) dX11_rainbow_5 ⟨Nat.zero_le _, Nat.zero_le _⟩) hP hD hS hA [] [0, 1, 2, 3, 4, 5, 6] [0, 1, 2, 3, 4, 5, 6] rfl rfl rfl rfl rfl rfl (fun H locs hP hD hS => ?_)
    refine lv_if_ne (tgt := 14) hx hb dX11_rainbow_8 (by decide) (fun hc => ?_) (fun hc => ?_)
    · replace hf := it_f (hc) hf
      refine lv_aload_n hx hb dX11_rainbow_14 rfl (lv_at hl 0 rfl) ?_
      refine va_get (D := (dC, dI)) (ci := 11) (v := .ref h_t_chooser) (C := RX11) (T := TX11) (N := 11) hx hb hts in_X11 hown hK hP 0 rfl rfl 6 (Nat.le_of_ble_eq_true rfl) (hts _ qf_X11_56) (fun _ h9 => h9) rfl dX11_rainbow_15 ?_
      refine lv_aload_n hx hb dX11_rainbow_18 rfl (lv_at hl 0 rfl) ?_
      refine va_get (D := (dC, dI)) (ci := 11) (v := .ref h_t_cloud) (C := RX11) (T := TX11) (N := 11) hx hb hts in_X11 hown hK hP 0 rfl rfl 0 (Nat.le_of_ble_eq_true rfl) (hts _ qf_X11_12) (fun _ h9 => h9) rfl dX11_rainbow_19 ?_
      refine lv_iload_n hx hb dX11_rainbow_22 rfl (lv_at hl 1 rfl) ?_
      obtain ⟨r_3, t_chooser_chosen_4, hq_5, hf⟩ := b2_some hf
      refine xci (wr := [(h_t, .inr (11, [.ref h_t_cloud, .ref h_t_reader, .ref h_t_hull, .ref h_t_near, .ref h_t_firstTie, .ref h_t_reducer, .ref h_t_chooser, .ref h_t_pair, .ref h_t_divider, .ref h_t_depths, .ref h_t_spot]))]) (w2 := [(h_t, .inr (11, [.ref h_t_cloud, .ref h_t_reader, .ref h_t_hull, .ref h_t_near, .ref h_t_firstTie, .ref h_t_reducer, .ref h_t_chooser, .ref h_t_pair, .ref h_t_divider, .ref h_t_depths, .ref h_t_spot])), (h_t_cloud, .inr (0, [.ref h_t_cloud_x, .ref h_t_cloud_y, .ref h_t_cloud_colour, .ref h_t_cloud_load, .int t_cloud_size, .int t_cloud_centreX, .int t_cloud_centreY])), (h_t_cloud_x, .inl (cI, 24, .inl t_cloud_x)), (h_t_cloud_y, .inl (cI, 24, .inl t_cloud_y)), (h_t_cloud_colour, .inl (cI, 24, .inl t_cloud_colour)), (h_t_chooser, .inr (7, [.ref h_t_chooser_chosen, .ref h_t_chooser_mixed, .ref h_t_chooser_near, .int t_chooser_gone, .int t_chooser_stuck, .int t_chooser_longest, .int t_chooser_side])), (h_t_chooser_chosen, .inl (cI, 3, .inl t_chooser_chosen_4))]) (va_runV (As := [.ref h_t_cloud, .int a1]) (rest := []) ⟨hx, hb, hml, hown, hts⟩ (mtX7_seekHolding l dC dI cI cL cB K h_t_chooser h_t_chooser_chosen h_t_chooser_mixed h_t_chooser_near h_t_cloud h_t_cloud_x h_t_cloud_y h_t_cloud_colour h_t_cloud_load H.size t_chooser_gone t_chooser_stuck t_chooser_longest t_chooser_side t_chooser_chosen t_cloud_size t_cloud_centreX t_cloud_centreY t_cloud_x t_cloud_y t_cloud_colour a1 r_3 t_chooser_chosen_4 hq_5) (cwV 2 hts gv_X11_263 rfl rfl rfl hdV_X7_seekHolding ⟨Nat.le_trans (Nat.le_of_ble_eq_true rfl) hF, Nat.le_trans (Nat.le_of_ble_eq_true rfl) hLo⟩) (cPreV hK hP hD hT [5, 6, 1, 2, 3, 4] rfl rfl (ci := 7) (q0 := 0) rfl rfl) rfl rfl hl.1 rfl (lv_room (Nat.le_of_ble_eq_true rfl)) dX11_rainbow_23 ⟨Nat.zero_le _, Nat.zero_le _⟩) hP hD hS hA [5, 6, 1, 2, 3, 4] [0] [0, 3, 4, 5, 6, 1, 2] rfl rfl rfl rfl rfl rfl (fun H locs hP hD hS => ?_)
      refine lv_if_eq (tgt := 41) hx hb dX11_rainbow_26 (by decide) (fun hc => ?_) (fun hc => ?_)
      · replace hf := it_t (hc) hf
        refine lv_iconst (v := (-1 : Int32)) hx hb dX11_rainbow_41 (by decide) ?_
        obtain ⟨rfl, rfl⟩ := o2 hf
        exact W.iret hx hb hr (fun t ht hW => ⟨⟨_, (), rfl, rfl, by rw [ht]; exact hP, hD⟩, hS.F ht⟩) hS.2.2 dX11_rainbow_42
      · replace hf := it_f (hc) hf
        refine lv_aload_n hx hb dX11_rainbow_29 rfl (lv_at hl 0 rfl) ?_
        refine va_get (D := (dC, dI)) (ci := 11) (v := .ref h_t_chooser) (C := RX11) (T := TX11) (N := 11) hx hb hts in_X11 hown hK hP 0 rfl rfl 6 (Nat.le_of_ble_eq_true rfl) (hts _ qf_X11_56) (fun _ h9 => h9) rfl dX11_rainbow_30 ?_
        refine va_get (D := (dC, dI)) (ci := 7) (v := .ref h_t_chooser_chosen) (C := RX7) (T := TX7) (N := 7) hx hb hts in_X7 hown hK hP 5 rfl rfl 0 (Nat.le_of_ble_eq_true rfl) (hts _ qf_X11_266) (fun _ h9 => h9) rfl dX11_rainbow_33 ?_
        refine lv_iload_n hx hb dX11_rainbow_36 rfl (lv_at hl 2 rfl) ?_
        obtain ⟨hg_6, hf⟩ := gd_some hf
        refine va_iald hx hb hK hP 6 0 rfl rfl (inb_in hg_6) dX11_rainbow_37 ?_
        refine lv_goto (tgt := 42) hx hb dX11_rainbow_38 (by decide) ?_
        obtain ⟨rfl, rfl⟩ := o2 hf
        exact W.iret hx hb hr (fun t ht hW => ⟨⟨_, (), rfl, rfl, by rw [ht]; exact hP, hD⟩, hS.F ht⟩) hS.2.2 dX11_rainbow_42
    · replace hf := it_t (hc) hf
      refine lv_bipush (v := (-2 : Int32)) hx hb dX11_rainbow_11 (by decide) ?_
      obtain ⟨rfl, rfl⟩ := o2 hf
      exact W.iret hx hb hr (fun t ht hW => ⟨⟨_, (), rfl, rfl, by rw [ht]; exact hP, hD⟩, hS.F ht⟩) hS.2.2 dX11_rainbow_13
theorem dX0_isRainbow_0 : decode cX0_isRainbow 0 = .ok (.aload_n 0, 1) := by decide +kernel
theorem dX0_isRainbow_1 : decode cX0_isRainbow 1 = .ok (.iload_n 1, 1) := by decide +kernel
theorem dX0_isRainbow_2 : decode cX0_isRainbow 2 = .ok (.invokevirtual 28, 3) := by decide +kernel
theorem dX0_isRainbow_5 : decode cX0_isRainbow 5 = .ok (.ifCond .eq 52, 3) := by decide +kernel
theorem dX0_isRainbow_8 : decode cX0_isRainbow 8 = .ok (.aload_n 0, 1) := by decide +kernel
theorem dX0_isRainbow_9 : decode cX0_isRainbow 9 = .ok (.getfield 18, 3) := by decide +kernel
theorem dX0_isRainbow_12 : decode cX0_isRainbow 12 = .ok (.iload_n 1, 1) := by decide +kernel
theorem dX0_isRainbow_13 : decode cX0_isRainbow 13 = .ok (.iaload, 1) := by decide +kernel
theorem dX0_isRainbow_14 : decode cX0_isRainbow 14 = .ok (.ifCond .ne 43, 3) := by decide +kernel
theorem dX0_isRainbow_17 : decode cX0_isRainbow 17 = .ok (.aload_n 0, 1) := by decide +kernel
theorem dX0_isRainbow_18 : decode cX0_isRainbow 18 = .ok (.iload_n 2, 1) := by decide +kernel
theorem dX0_isRainbow_19 : decode cX0_isRainbow 19 = .ok (.invokevirtual 28, 3) := by decide +kernel
theorem dX0_isRainbow_22 : decode cX0_isRainbow 22 = .ok (.ifCond .eq 35, 3) := by decide +kernel
theorem dX0_isRainbow_25 : decode cX0_isRainbow 25 = .ok (.aload_n 0, 1) := by decide +kernel
theorem dX0_isRainbow_26 : decode cX0_isRainbow 26 = .ok (.getfield 18, 3) := by decide +kernel
theorem dX0_isRainbow_29 : decode cX0_isRainbow 29 = .ok (.iload_n 2, 1) := by decide +kernel
theorem dX0_isRainbow_30 : decode cX0_isRainbow 30 = .ok (.iaload, 1) := by decide +kernel
theorem dX0_isRainbow_31 : decode cX0_isRainbow 31 = .ok (.iconst 1, 1) := by decide +kernel
theorem dX0_isRainbow_32 : decode cX0_isRainbow 32 = .ok (.if_icmp .ne 25, 3) := by decide +kernel
theorem dX0_isRainbow_35 : decode cX0_isRainbow 35 = .ok (.aload_n 0, 1) := by decide +kernel
theorem dX0_isRainbow_36 : decode cX0_isRainbow 36 = .ok (.iload_n 3, 1) := by decide +kernel
theorem dX0_isRainbow_37 : decode cX0_isRainbow 37 = .ok (.invokevirtual 28, 3) := by decide +kernel
theorem dX0_isRainbow_40 : decode cX0_isRainbow 40 = .ok (.ifCond .eq 17, 3) := by decide +kernel
theorem dX0_isRainbow_43 : decode cX0_isRainbow 43 = .ok (.aload_n 0, 1) := by decide +kernel
theorem dX0_isRainbow_44 : decode cX0_isRainbow 44 = .ok (.getfield 18, 3) := by decide +kernel
theorem dX0_isRainbow_47 : decode cX0_isRainbow 47 = .ok (.iload_n 3, 1) := by decide +kernel
theorem dX0_isRainbow_48 : decode cX0_isRainbow 48 = .ok (.iaload, 1) := by decide +kernel
theorem dX0_isRainbow_49 : decode cX0_isRainbow 49 = .ok (.iconst 2, 1) := by decide +kernel
theorem dX0_isRainbow_50 : decode cX0_isRainbow 50 = .ok (.if_icmp .ne 7, 3) := by decide +kernel
theorem dX0_isRainbow_53 : decode cX0_isRainbow 53 = .ok (.iconst 1, 1) := by decide +kernel
theorem dX0_isRainbow_54 : decode cX0_isRainbow 54 = .ok (.goto 4, 3) := by decide +kernel
theorem dX0_isRainbow_57 : decode cX0_isRainbow 57 = .ok (.iconst 0, 1) := by decide +kernel
theorem dX0_isRainbow_58 : decode cX0_isRainbow 58 = .ok (.ireturn, 1) := by decide +kernel
set_option maxRecDepth 100000 in
set_option maxHeartbeats 4000000 in
theorem mtX0_isRainbow (l : Launch) (dC : Nat → ClassId) (dI : Nat → Nat → Nat) (cI cL cB : ClassId) (K : Nat) (h_t h_t_x h_t_y h_t_colour h_t_load : Nat) (sz : Nat) (t_size : Int32) (t_centreX : Int32) (t_centreY : Int32) (t_colour : Nat → Int32) (a1 : Int32) (a2 : Int32) (a3 : Int32) (o_r : Int32) (hf : fX0_isRainbow K t_size t_colour a1 a2 a3 = some o_r) : Met l yX0_isRainbow [Cond.code yX0_isRainbow cX0_isRainbow 4 (some .boolean)] ({ frames := 1, cells := 0, slots := 0, locals := 21 }) (va_Pc [.ref h_t, .int a1, .int a2, .int a3] (cPre dC dI cI cL cB sz [(h_t, .inr (0, [.ref h_t_x, .ref h_t_y, .ref h_t_colour, .ref h_t_load, .int t_size, .int t_centreX, .int t_centreY])), (h_t_colour, .inl (cI, 24, .inl t_colour))])) (cQi dC dI (va_A [(h_t, .inr (0, [.ref h_t_x, .ref h_t_y, .ref h_t_colour, .ref h_t_load, .int t_size, .int t_centreX, .int t_centreY])), (h_t_colour, .inl (cI, 24, .inl t_colour))] sz) o_r [(h_t, .inr (0, [.ref h_t_x, .ref h_t_y, .ref h_t_colour, .ref h_t_load, .int t_size, .int t_centreX, .int t_centreY])), (h_t_colour, .inl (cI, 24, .inl t_colour))]) 0 0 (va_A [(h_t, .inr (0, [.ref h_t_x, .ref h_t_y, .ref h_t_colour, .ref h_t_load, .int t_size, .int t_centreX, .int t_centreY])), (h_t_colour, .inl (cI, 24, .inl t_colour))] sz) := by
  refine Met.ofW (cc := cX0_isRainbow) (maxL := 4) (ret := (some .boolean)) (by decide) rfl ?_
  intro p e s m args below meth c s₁ B hml hv
  obtain ⟨rfl, hsz, hP, hK, hD0, hT⟩ := hv
  have hx := B.exec
  have hb := B.bytes
  have hr := B.returns
  have hown : s.vm.findClass RX0 = some m.cls := findClass_of_methodNamed B.named
  have hlocks := B.notSynchronized
  have hts := TB.use hT ([.ref h_t, .int a1, .int a2, .int a3] : List Value).toArray
  subst hsz
  have hD := hD0.self (sz := s.heap.size)
  generalize hAe : va_A [(h_t, .inr (0, [.ref h_t_x, .ref h_t_y, .ref h_t_colour, .ref h_t_load, .int t_size, .int t_centreX, .int t_centreY])), (h_t_colour, .inl (cI, 24, .inl t_colour))] s.heap.size = A at hD ⊢
  have hA : ∀ q : Nat, s.heap.size ≤ q → A q := fun q h => by rw [← hAe]; exact Or.inr h
  clear hAe hD0
  have hl := lv_entry ([.ref h_t, .int a1, .int a2, .int a3]) (n := 4) (Nat.le_of_ble_eq_true rfl)
  rw [lg_entry_eq]
  generalize (lg_sl ([.ref h_t, .int a1, .int a2, .int a3]) ++ List.replicate (4 - (lg_sl ([.ref h_t, .int a1, .int a2, .int a3])).length) Slot.unset).toArray = ls at hl ⊢
  have hl : lv_has ls 4 [(0, .ref h_t), (1, .int a1), (2, .int a2), (3, .int a3)] := hl
  have hF : 1 ≤ (headSpec [Cond.code yX0_isRainbow cX0_isRainbow 4 (some .boolean)] ({ frames := 1, cells := 0, slots := 0, locals := 21 })).room.frames := Nat.le_refl _
  have hLo : 21 ≤ (headSpec [Cond.code yX0_isRainbow cX0_isRainbow 4 (some .boolean)] ({ frames := 1, cells := 0, slots := 0, locals := 21 })).room.locals := Nat.le_refl _
  have C0 : Sx p (headSpec [Cond.code yX0_isRainbow cX0_isRainbow 4 (some .boolean)] ({ frames := 1, cells := 0, slots := 0, locals := 21 })).room s m ([.ref h_t, .int a1, .int a2, .int a3] : List Value).toArray c cX0_isRainbow 4 RX0 A dC dI cI cL cB 1 21 := ⟨hx, hb, hml, hown, hts, hK, hT, hA, hF, hLo⟩
  refine startH (A := A) hP (fun H locs hP hS => ?_)
  rw [fX0_isRainbow] at hf
  refine lv_aload_n hx hb dX0_isRainbow_0 rfl (lv_at hl 0 rfl) ?_
  refine lv_iload_n hx hb dX0_isRainbow_1 rfl (lv_at hl 1 rfl) ?_
  obtain ⟨r_1, hq_2, hf⟩ := b1_some hf
  refine xci (wr := [(h_t_colour, .inl (cI, 24, .inl t_colour))]) (w2 := [(h_t, .inr (0, [.ref h_t_x, .ref h_t_y, .ref h_t_colour, .ref h_t_load, .int t_size, .int t_centreX, .int t_centreY])), (h_t_colour, .inl (cI, 24, .inl t_colour))]) (va_runV (As := [.int a1]) (rest := []) ⟨hx, hb, hml, hown, hts⟩ (mtX0_has l dC dI cI cL cB K h_t h_t_x h_t_y h_t_colour h_t_load H.size t_size t_centreX t_centreY a1 r_1 hq_2) (cwV 1 hts gv_X0_28 rfl rfl rfl hdV_X0_has ⟨Nat.le_trans (Nat.le_of_ble_eq_true rfl) hF, Nat.le_trans (Nat.le_of_ble_eq_true rfl) hLo⟩) (cPreV hK hP hD hT [0] rfl rfl (ci := 0) (q0 := 0) rfl rfl) rfl rfl hl.1 rfl (lv_room (Nat.le_of_ble_eq_true rfl)) dX0_isRainbow_2 ⟨Nat.zero_le _, Nat.zero_le _⟩) hP hD hS hA [0] [1] [1, 0] rfl rfl rfl rfl rfl rfl (fun H locs hP hD hS => ?_)
  refine lv_if_eq (tgt := 57) hx hb dX0_isRainbow_5 (by decide) (fun hc => ?_) (fun hc => ?_)
  · replace hf := it_t (hc) hf
    refine lv_iconst (v := (0 : Int32)) hx hb dX0_isRainbow_57 (by decide) ?_
    obtain rfl := o1 hf
    exact W.zret hx hb hr rfl (fun t ht hW => ⟨⟨_, (), rfl, rfl, by rw [ht]; exact hP, hD⟩, hS.F ht⟩) hS.2.2 dX0_isRainbow_58
  · replace hf := it_f (hc) hf
    refine lv_aload_n hx hb dX0_isRainbow_8 rfl (lv_at hl 0 rfl) ?_
    refine va_get (D := (dC, dI)) (ci := 0) (v := .ref h_t_colour) (C := RX0) (T := TX0) (N := 7) hx hb hts in_X0 hown hK hP 0 rfl rfl 2 (Nat.le_of_ble_eq_true rfl) (hts _ qf_X0_18) (fun _ h9 => h9) rfl dX0_isRainbow_9 ?_
    refine lv_iload_n hx hb dX0_isRainbow_12 rfl (lv_at hl 1 rfl) ?_
    obtain ⟨hg_3, hf⟩ := gd_some hf
    refine va_iald hx hb hK hP 1 0 rfl rfl (inb_in hg_3) dX0_isRainbow_13 ?_
    refine lv_if_ne (tgt := 57) hx hb dX0_isRainbow_14 (by decide) (fun hc => ?_) (fun hc => ?_)
    · replace hf := it_f (hc) hf
      refine lv_iconst (v := (0 : Int32)) hx hb dX0_isRainbow_57 (by decide) ?_
      obtain rfl := o1 hf
      exact W.zret hx hb hr rfl (fun t ht hW => ⟨⟨_, (), rfl, rfl, by rw [ht]; exact hP, hD⟩, hS.F ht⟩) hS.2.2 dX0_isRainbow_58
    · replace hf := it_t (hc) hf
      refine lv_aload_n hx hb dX0_isRainbow_17 rfl (lv_at hl 0 rfl) ?_
      refine lv_iload_n hx hb dX0_isRainbow_18 rfl (lv_at hl 2 rfl) ?_
      obtain ⟨r_4, hq_5, hf⟩ := b1_some hf
      refine xci (wr := [(h_t_colour, .inl (cI, 24, .inl t_colour))]) (w2 := [(h_t, .inr (0, [.ref h_t_x, .ref h_t_y, .ref h_t_colour, .ref h_t_load, .int t_size, .int t_centreX, .int t_centreY])), (h_t_colour, .inl (cI, 24, .inl t_colour))]) (va_runV (As := [.int a2]) (rest := []) ⟨hx, hb, hml, hown, hts⟩ (mtX0_has l dC dI cI cL cB K h_t h_t_x h_t_y h_t_colour h_t_load H.size t_size t_centreX t_centreY a2 r_4 hq_5) (cwV 1 hts gv_X0_28 rfl rfl rfl hdV_X0_has ⟨Nat.le_trans (Nat.le_of_ble_eq_true rfl) hF, Nat.le_trans (Nat.le_of_ble_eq_true rfl) hLo⟩) (cPreV hK hP hD hT [0] rfl rfl (ci := 0) (q0 := 0) rfl rfl) rfl rfl hl.1 rfl (lv_room (Nat.le_of_ble_eq_true rfl)) dX0_isRainbow_19 ⟨Nat.zero_le _, Nat.zero_le _⟩) hP hD hS hA [0] [1] [1, 0] rfl rfl rfl rfl rfl rfl (fun H locs hP hD hS => ?_)
      refine lv_if_eq (tgt := 57) hx hb dX0_isRainbow_22 (by decide) (fun hc => ?_) (fun hc => ?_)
      · replace hf := it_t (hc) hf
        refine lv_iconst (v := (0 : Int32)) hx hb dX0_isRainbow_57 (by decide) ?_
        obtain rfl := o1 hf
        exact W.zret hx hb hr rfl (fun t ht hW => ⟨⟨_, (), rfl, rfl, by rw [ht]; exact hP, hD⟩, hS.F ht⟩) hS.2.2 dX0_isRainbow_58
      · replace hf := it_f (hc) hf
        refine lv_aload_n hx hb dX0_isRainbow_25 rfl (lv_at hl 0 rfl) ?_
        refine va_get (D := (dC, dI)) (ci := 0) (v := .ref h_t_colour) (C := RX0) (T := TX0) (N := 7) hx hb hts in_X0 hown hK hP 0 rfl rfl 2 (Nat.le_of_ble_eq_true rfl) (hts _ qf_X0_18) (fun _ h9 => h9) rfl dX0_isRainbow_26 ?_
        refine lv_iload_n hx hb dX0_isRainbow_29 rfl (lv_at hl 2 rfl) ?_
        obtain ⟨hg_6, hf⟩ := gd_some hf
        refine va_iald hx hb hK hP 1 0 rfl rfl (inb_in hg_6) dX0_isRainbow_30 ?_
        refine lv_iconst (v := (1 : Int32)) hx hb dX0_isRainbow_31 (by decide) ?_
        refine lv_icmp_ne (tgt := 57) hx hb dX0_isRainbow_32 (by decide) (fun hc => ?_) (fun hc => ?_)
        · replace hf := it_f (hc) hf
          refine lv_iconst (v := (0 : Int32)) hx hb dX0_isRainbow_57 (by decide) ?_
          obtain rfl := o1 hf
          exact W.zret hx hb hr rfl (fun t ht hW => ⟨⟨_, (), rfl, rfl, by rw [ht]; exact hP, hD⟩, hS.F ht⟩) hS.2.2 dX0_isRainbow_58
        · replace hf := it_t (hc) hf
          refine lv_aload_n hx hb dX0_isRainbow_35 rfl (lv_at hl 0 rfl) ?_
          refine lv_iload_n hx hb dX0_isRainbow_36 rfl (lv_at hl 3 rfl) ?_
          obtain ⟨r_7, hq_8, hf⟩ := b1_some hf
          refine xci (wr := [(h_t_colour, .inl (cI, 24, .inl t_colour))]) (w2 := [(h_t, .inr (0, [.ref h_t_x, .ref h_t_y, .ref h_t_colour, .ref h_t_load, .int t_size, .int t_centreX, .int t_centreY])), (h_t_colour, .inl (cI, 24, .inl t_colour))]) (va_runV (As := [.int a3]) (rest := []) ⟨hx, hb, hml, hown, hts⟩ (mtX0_has l dC dI cI cL cB K h_t h_t_x h_t_y h_t_colour h_t_load H.size t_size t_centreX t_centreY a3 r_7 hq_8) (cwV 1 hts gv_X0_28 rfl rfl rfl hdV_X0_has ⟨Nat.le_trans (Nat.le_of_ble_eq_true rfl) hF, Nat.le_trans (Nat.le_of_ble_eq_true rfl) hLo⟩) (cPreV hK hP hD hT [0] rfl rfl (ci := 0) (q0 := 0) rfl rfl) rfl rfl hl.1 rfl (lv_room (Nat.le_of_ble_eq_true rfl)) dX0_isRainbow_37 ⟨Nat.zero_le _, Nat.zero_le _⟩) hP hD hS hA [0] [1] [1, 0] rfl rfl rfl rfl rfl rfl (fun H locs hP hD hS => ?_)
          refine lv_if_eq (tgt := 57) hx hb dX0_isRainbow_40 (by decide) (fun hc => ?_) (fun hc => ?_)
          · replace hf := it_t (hc) hf
            refine lv_iconst (v := (0 : Int32)) hx hb dX0_isRainbow_57 (by decide) ?_
            obtain rfl := o1 hf
            exact W.zret hx hb hr rfl (fun t ht hW => ⟨⟨_, (), rfl, rfl, by rw [ht]; exact hP, hD⟩, hS.F ht⟩) hS.2.2 dX0_isRainbow_58
          · replace hf := it_f (hc) hf
            refine lv_aload_n hx hb dX0_isRainbow_43 rfl (lv_at hl 0 rfl) ?_
            refine va_get (D := (dC, dI)) (ci := 0) (v := .ref h_t_colour) (C := RX0) (T := TX0) (N := 7) hx hb hts in_X0 hown hK hP 0 rfl rfl 2 (Nat.le_of_ble_eq_true rfl) (hts _ qf_X0_18) (fun _ h9 => h9) rfl dX0_isRainbow_44 ?_
            refine lv_iload_n hx hb dX0_isRainbow_47 rfl (lv_at hl 3 rfl) ?_
            obtain ⟨hg_9, hf⟩ := gd_some hf
            refine va_iald hx hb hK hP 1 0 rfl rfl (inb_in hg_9) dX0_isRainbow_48 ?_
            refine lv_iconst (v := (2 : Int32)) hx hb dX0_isRainbow_49 (by decide) ?_
            refine lv_icmp_ne (tgt := 57) hx hb dX0_isRainbow_50 (by decide) (fun hc => ?_) (fun hc => ?_)
            · replace hf := it_f (hc) hf
              refine lv_iconst (v := (0 : Int32)) hx hb dX0_isRainbow_57 (by decide) ?_
              obtain rfl := o1 hf
              exact W.zret hx hb hr rfl (fun t ht hW => ⟨⟨_, (), rfl, rfl, by rw [ht]; exact hP, hD⟩, hS.F ht⟩) hS.2.2 dX0_isRainbow_58
            · replace hf := it_t (hc) hf
              refine lv_iconst (v := (1 : Int32)) hx hb dX0_isRainbow_53 (by decide) ?_
              refine lv_goto (tgt := 58) hx hb dX0_isRainbow_54 (by decide) ?_
              obtain rfl := o1 hf
              exact W.zret hx hb hr rfl (fun t ht hW => ⟨⟨_, (), rfl, rfl, by rw [ht]; exact hP, hD⟩, hS.F ht⟩) hS.2.2 dX0_isRainbow_58
theorem dX7_choose_0 : decode cX7_choose 0 = .ok (.aload_n 0, 1) := by decide +kernel
theorem dX7_choose_1 : decode cX7_choose 1 = .ok (.getfield 9, 3) := by decide +kernel
theorem dX7_choose_4 : decode cX7_choose 4 = .ok (.iconst 0, 1) := by decide +kernel
theorem dX7_choose_5 : decode cX7_choose 5 = .ok (.iload_n 1, 1) := by decide +kernel
theorem dX7_choose_6 : decode cX7_choose 6 = .ok (.iastore, 1) := by decide +kernel
theorem dX7_choose_7 : decode cX7_choose 7 = .ok (.aload_n 0, 1) := by decide +kernel
theorem dX7_choose_8 : decode cX7_choose 8 = .ok (.getfield 9, 3) := by decide +kernel
theorem dX7_choose_11 : decode cX7_choose 11 = .ok (.iconst 1, 1) := by decide +kernel
theorem dX7_choose_12 : decode cX7_choose 12 = .ok (.iload_n 2, 1) := by decide +kernel
theorem dX7_choose_13 : decode cX7_choose 13 = .ok (.iastore, 1) := by decide +kernel
theorem dX7_choose_14 : decode cX7_choose 14 = .ok (.aload_n 0, 1) := by decide +kernel
theorem dX7_choose_15 : decode cX7_choose 15 = .ok (.getfield 9, 3) := by decide +kernel
theorem dX7_choose_18 : decode cX7_choose 18 = .ok (.iconst 2, 1) := by decide +kernel
theorem dX7_choose_19 : decode cX7_choose 19 = .ok (.iload_n 3, 1) := by decide +kernel
theorem dX7_choose_20 : decode cX7_choose 20 = .ok (.iastore, 1) := by decide +kernel
theorem dX7_choose_21 : decode cX7_choose 21 = .ok (.return_, 1) := by decide +kernel
set_option maxRecDepth 100000 in
set_option maxHeartbeats 4000000 in
theorem mtX7_choose (l : Launch) (dC : Nat → ClassId) (dI : Nat → Nat → Nat) (cI cL cB : ClassId) (K : Nat) (h_t h_t_chosen h_t_mixed h_t_near : Nat) (sz : Nat) (t_gone : Int32) (t_stuck : Int32) (t_longest : Int32) (t_side : Int32) (t_chosen : Nat → Int32) (a1 : Int32) (a2 : Int32) (a3 : Int32) (o_t_chosen : Nat → Int32) (hf : fX7_choose K t_chosen a1 a2 a3 = some o_t_chosen) : Met l yX7_choose [Cond.code yX7_choose cX7_choose 4 none] ({ frames := 0, cells := 0, slots := 0, locals := 0 }) (va_Pc [.ref h_t, .int a1, .int a2, .int a3] (cPre dC dI cI cL cB sz [(h_t, .inr (7, [.ref h_t_chosen, .ref h_t_mixed, .ref h_t_near, .int t_gone, .int t_stuck, .int t_longest, .int t_side])), (h_t_chosen, .inl (cI, 3, .inl t_chosen))])) (cQv dC dI (va_A [(h_t, .inr (7, [.ref h_t_chosen, .ref h_t_mixed, .ref h_t_near, .int t_gone, .int t_stuck, .int t_longest, .int t_side])), (h_t_chosen, .inl (cI, 3, .inl t_chosen))] sz) [(h_t, .inr (7, [.ref h_t_chosen, .ref h_t_mixed, .ref h_t_near, .int t_gone, .int t_stuck, .int t_longest, .int t_side])), (h_t_chosen, .inl (cI, 3, .inl o_t_chosen))]) 0 0 (va_A [(h_t, .inr (7, [.ref h_t_chosen, .ref h_t_mixed, .ref h_t_near, .int t_gone, .int t_stuck, .int t_longest, .int t_side])), (h_t_chosen, .inl (cI, 3, .inl t_chosen))] sz) := by
  refine Met.ofW (cc := cX7_choose) (maxL := 4) (ret := none) (by decide) rfl ?_
  intro p e s m args below meth c s₁ B hml hv
  obtain ⟨rfl, hsz, hP, hK, hD0, hT⟩ := hv
  have hx := B.exec
  have hb := B.bytes
  have hr := B.returns
  have hown : s.vm.findClass RX7 = some m.cls := findClass_of_methodNamed B.named
  have hlocks := B.notSynchronized
  have hts := TB.use hT ([.ref h_t, .int a1, .int a2, .int a3] : List Value).toArray
  subst hsz
  have hD := hD0.self (sz := s.heap.size)
  generalize hAe : va_A [(h_t, .inr (7, [.ref h_t_chosen, .ref h_t_mixed, .ref h_t_near, .int t_gone, .int t_stuck, .int t_longest, .int t_side])), (h_t_chosen, .inl (cI, 3, .inl t_chosen))] s.heap.size = A at hD ⊢
  have hA : ∀ q : Nat, s.heap.size ≤ q → A q := fun q h => by rw [← hAe]; exact Or.inr h
  clear hAe hD0
  have hl := lv_entry ([.ref h_t, .int a1, .int a2, .int a3]) (n := 4) (Nat.le_of_ble_eq_true rfl)
  rw [lg_entry_eq]
  generalize (lg_sl ([.ref h_t, .int a1, .int a2, .int a3]) ++ List.replicate (4 - (lg_sl ([.ref h_t, .int a1, .int a2, .int a3])).length) Slot.unset).toArray = ls at hl ⊢
  have hl : lv_has ls 4 [(0, .ref h_t), (1, .int a1), (2, .int a2), (3, .int a3)] := hl
  have hF : 0 ≤ (headSpec [Cond.code yX7_choose cX7_choose 4 none] ({ frames := 0, cells := 0, slots := 0, locals := 0 })).room.frames := Nat.le_refl _
  have hLo : 0 ≤ (headSpec [Cond.code yX7_choose cX7_choose 4 none] ({ frames := 0, cells := 0, slots := 0, locals := 0 })).room.locals := Nat.le_refl _
  have C0 : Sx p (headSpec [Cond.code yX7_choose cX7_choose 4 none] ({ frames := 0, cells := 0, slots := 0, locals := 0 })).room s m ([.ref h_t, .int a1, .int a2, .int a3] : List Value).toArray c cX7_choose 4 RX7 A dC dI cI cL cB 0 0 := ⟨hx, hb, hml, hown, hts, hK, hT, hA, hF, hLo⟩
  refine startH (A := A) hP (fun H locs hP hS => ?_)
  rw [fX7_choose] at hf
  refine lv_aload_n hx hb dX7_choose_0 rfl (lv_at hl 0 rfl) ?_
  refine va_get (D := (dC, dI)) (ci := 7) (v := .ref h_t_chosen) (C := RX7) (T := TX7) (N := 7) hx hb hts in_X7 hown hK hP 0 rfl rfl 0 (Nat.le_of_ble_eq_true rfl) (hts _ qf_X7_9) (fun _ h9 => h9) rfl dX7_choose_1 ?_
  refine lv_iconst (v := (0 : Int32)) hx hb dX7_choose_4 (by decide) ?_
  refine lv_iload_n hx hb dX7_choose_5 rfl (lv_at hl 1 rfl) ?_
  obtain ⟨t_chosen_1, et_chosen_1⟩ : ∃ y : Nat → Int32, y = upd t_chosen (0 : Int32).toNatClampNeg a1 := ⟨_, rfl⟩
  replace hf := xl_at hf et_chosen_1
  refine xiast (w2 := [(h_t, .inr (7, [.ref h_t_chosen, .ref h_t_mixed, .ref h_t_near, .int t_gone, .int t_stuck, .int t_longest, .int t_side])), (h_t_chosen, .inl (cI, 3, .inl t_chosen_1))]) hx hb hK hP hD hS 1 0 rfl rfl (inb_in (by decide)) et_chosen_1 rfl dX7_choose_6 (fun H locs hP hD hS => ?_)
  refine lv_aload_n hx hb dX7_choose_7 rfl (lv_at hl 0 rfl) ?_
  refine va_get (D := (dC, dI)) (ci := 7) (v := .ref h_t_chosen) (C := RX7) (T := TX7) (N := 7) hx hb hts in_X7 hown hK hP 0 rfl rfl 0 (Nat.le_of_ble_eq_true rfl) (hts _ qf_X7_9) (fun _ h9 => h9) rfl dX7_choose_8 ?_
  refine lv_iconst (v := (1 : Int32)) hx hb dX7_choose_11 (by decide) ?_
  refine lv_iload_n hx hb dX7_choose_12 rfl (lv_at hl 2 rfl) ?_
  obtain ⟨t_chosen_2, et_chosen_2⟩ : ∃ y : Nat → Int32, y = upd t_chosen_1 (1 : Int32).toNatClampNeg a2 := ⟨_, rfl⟩
  replace hf := xl_at hf et_chosen_2
  refine xiast (w2 := [(h_t, .inr (7, [.ref h_t_chosen, .ref h_t_mixed, .ref h_t_near, .int t_gone, .int t_stuck, .int t_longest, .int t_side])), (h_t_chosen, .inl (cI, 3, .inl t_chosen_2))]) hx hb hK hP hD hS 1 0 rfl rfl (inb_in (by decide)) et_chosen_2 rfl dX7_choose_13 (fun H locs hP hD hS => ?_)
  refine lv_aload_n hx hb dX7_choose_14 rfl (lv_at hl 0 rfl) ?_
  refine va_get (D := (dC, dI)) (ci := 7) (v := .ref h_t_chosen) (C := RX7) (T := TX7) (N := 7) hx hb hts in_X7 hown hK hP 0 rfl rfl 0 (Nat.le_of_ble_eq_true rfl) (hts _ qf_X7_9) (fun _ h9 => h9) rfl dX7_choose_15 ?_
  refine lv_iconst (v := (2 : Int32)) hx hb dX7_choose_18 (by decide) ?_
  refine lv_iload_n hx hb dX7_choose_19 rfl (lv_at hl 3 rfl) ?_
  obtain ⟨t_chosen_3, et_chosen_3⟩ : ∃ y : Nat → Int32, y = upd t_chosen_2 (2 : Int32).toNatClampNeg a3 := ⟨_, rfl⟩
  replace hf := xl_at hf et_chosen_3
  refine xiast (w2 := [(h_t, .inr (7, [.ref h_t_chosen, .ref h_t_mixed, .ref h_t_near, .int t_gone, .int t_stuck, .int t_longest, .int t_side])), (h_t_chosen, .inl (cI, 3, .inl t_chosen_3))]) hx hb hK hP hD hS 1 0 rfl rfl (inb_in (by decide)) et_chosen_3 rfl dX7_choose_20 (fun H locs hP hD hS => ?_)
  obtain rfl := o1 hf
  exact W.vret hx hb hr (fun t ht hW => ⟨⟨(), rfl, trivial, by rw [ht]; exact hP, hD⟩, hS.F ht⟩) hS.2.2 dX7_choose_21
