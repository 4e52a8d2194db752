theorem dX4_bringToLowestTerms_0 : decode cX4_bringToLowestTerms 0 = .ok (.aload_n 0, 1) := by decide +kernel
theorem dX4_bringToLowestTerms_1 : decode cX4_bringToLowestTerms 1 = .ok (.getfield 54, 3) := by decide +kernel
theorem dX4_bringToLowestTerms_4 : decode cX4_bringToLowestTerms 4 = .ok (.aload_n 0, 1) := by decide +kernel
theorem dX4_bringToLowestTerms_5 : decode cX4_bringToLowestTerms 5 = .ok (.getfield 56, 3) := by decide +kernel
theorem dX4_bringToLowestTerms_8 : decode cX4_bringToLowestTerms 8 = .ok (.invokestatic 58, 3) := by decide +kernel
theorem dX4_bringToLowestTerms_11 : decode cX4_bringToLowestTerms 11 = .ok (.aload_n 0, 1) := by decide +kernel
theorem dX4_bringToLowestTerms_12 : decode cX4_bringToLowestTerms 12 = .ok (.getfield 7, 3) := by decide +kernel
theorem dX4_bringToLowestTerms_15 : decode cX4_bringToLowestTerms 15 = .ok (.invokestatic 58, 3) := by decide +kernel
theorem dX4_bringToLowestTerms_18 : decode cX4_bringToLowestTerms 18 = .ok (.lstore_n 1, 1) := by decide +kernel
theorem dX4_bringToLowestTerms_19 : decode cX4_bringToLowestTerms 19 = .ok (.lload_n 1, 1) := by decide +kernel
theorem dX4_bringToLowestTerms_20 : decode cX4_bringToLowestTerms 20 = .ok (.lconst 0, 1) := by decide +kernel
theorem dX4_bringToLowestTerms_21 : decode cX4_bringToLowestTerms 21 = .ok (.lcmp, 1) := by decide +kernel
theorem dX4_bringToLowestTerms_22 : decode cX4_bringToLowestTerms 22 = .ok (.ifCond .eq 33, 3) := by decide +kernel
theorem dX4_bringToLowestTerms_25 : decode cX4_bringToLowestTerms 25 = .ok (.aload_n 0, 1) := by decide +kernel
theorem dX4_bringToLowestTerms_26 : decode cX4_bringToLowestTerms 26 = .ok (.dup, 1) := by decide +kernel
theorem dX4_bringToLowestTerms_27 : decode cX4_bringToLowestTerms 27 = .ok (.getfield 54, 3) := by decide +kernel
theorem dX4_bringToLowestTerms_30 : decode cX4_bringToLowestTerms 30 = .ok (.lload_n 1, 1) := by decide +kernel
theorem dX4_bringToLowestTerms_31 : decode cX4_bringToLowestTerms 31 = .ok (.ldiv, 1) := by decide +kernel
theorem dX4_bringToLowestTerms_32 : decode cX4_bringToLowestTerms 32 = .ok (.putfield 54, 3) := by decide +kernel
theorem dX4_bringToLowestTerms_35 : decode cX4_bringToLowestTerms 35 = .ok (.aload_n 0, 1) := by decide +kernel
theorem dX4_bringToLowestTerms_36 : decode cX4_bringToLowestTerms 36 = .ok (.dup, 1) := by decide +kernel
theorem dX4_bringToLowestTerms_37 : decode cX4_bringToLowestTerms 37 = .ok (.getfield 56, 3) := by decide +kernel
theorem dX4_bringToLowestTerms_40 : decode cX4_bringToLowestTerms 40 = .ok (.lload_n 1, 1) := by decide +kernel
theorem dX4_bringToLowestTerms_41 : decode cX4_bringToLowestTerms 41 = .ok (.ldiv, 1) := by decide +kernel
theorem dX4_bringToLowestTerms_42 : decode cX4_bringToLowestTerms 42 = .ok (.putfield 56, 3) := by decide +kernel
theorem dX4_bringToLowestTerms_45 : decode cX4_bringToLowestTerms 45 = .ok (.aload_n 0, 1) := by decide +kernel
theorem dX4_bringToLowestTerms_46 : decode cX4_bringToLowestTerms 46 = .ok (.dup, 1) := by decide +kernel
theorem dX4_bringToLowestTerms_47 : decode cX4_bringToLowestTerms 47 = .ok (.getfield 7, 3) := by decide +kernel
theorem dX4_bringToLowestTerms_50 : decode cX4_bringToLowestTerms 50 = .ok (.lload_n 1, 1) := by decide +kernel
theorem dX4_bringToLowestTerms_51 : decode cX4_bringToLowestTerms 51 = .ok (.ldiv, 1) := by decide +kernel
theorem dX4_bringToLowestTerms_52 : decode cX4_bringToLowestTerms 52 = .ok (.putfield 7, 3) := by decide +kernel
theorem dX4_bringToLowestTerms_55 : decode cX4_bringToLowestTerms 55 = .ok (.aload_n 0, 1) := by decide +kernel
theorem dX4_bringToLowestTerms_56 : decode cX4_bringToLowestTerms 56 = .ok (.getfield 23, 3) := by decide +kernel
theorem dX4_bringToLowestTerms_59 : decode cX4_bringToLowestTerms 59 = .ok (.aload_n 0, 1) := by decide +kernel
theorem dX4_bringToLowestTerms_60 : decode cX4_bringToLowestTerms 60 = .ok (.getfield 13, 3) := by decide +kernel
theorem dX4_bringToLowestTerms_63 : decode cX4_bringToLowestTerms 63 = .ok (.invokestatic 58, 3) := by decide +kernel
theorem dX4_bringToLowestTerms_66 : decode cX4_bringToLowestTerms 66 = .ok (.lstore_n 1, 1) := by decide +kernel
theorem dX4_bringToLowestTerms_67 : decode cX4_bringToLowestTerms 67 = .ok (.lload_n 1, 1) := by decide +kernel
theorem dX4_bringToLowestTerms_68 : decode cX4_bringToLowestTerms 68 = .ok (.lconst 0, 1) := by decide +kernel
theorem dX4_bringToLowestTerms_69 : decode cX4_bringToLowestTerms 69 = .ok (.lcmp, 1) := by decide +kernel
theorem dX4_bringToLowestTerms_70 : decode cX4_bringToLowestTerms 70 = .ok (.ifCond .eq 23, 3) := by decide +kernel
theorem dX4_bringToLowestTerms_73 : decode cX4_bringToLowestTerms 73 = .ok (.aload_n 0, 1) := by decide +kernel
theorem dX4_bringToLowestTerms_74 : decode cX4_bringToLowestTerms 74 = .ok (.dup, 1) := by decide +kernel
theorem dX4_bringToLowestTerms_75 : decode cX4_bringToLowestTerms 75 = .ok (.getfield 23, 3) := by decide +kernel
theorem dX4_bringToLowestTerms_78 : decode cX4_bringToLowestTerms 78 = .ok (.lload_n 1, 1) := by decide +kernel
theorem dX4_bringToLowestTerms_79 : decode cX4_bringToLowestTerms 79 = .ok (.ldiv, 1) := by decide +kernel
theorem dX4_bringToLowestTerms_80 : decode cX4_bringToLowestTerms 80 = .ok (.putfield 23, 3) := by decide +kernel
theorem dX4_bringToLowestTerms_83 : decode cX4_bringToLowestTerms 83 = .ok (.aload_n 0, 1) := by decide +kernel
theorem dX4_bringToLowestTerms_84 : decode cX4_bringToLowestTerms 84 = .ok (.dup, 1) := by decide +kernel
theorem dX4_bringToLowestTerms_85 : decode cX4_bringToLowestTerms 85 = .ok (.getfield 13, 3) := by decide +kernel
theorem dX4_bringToLowestTerms_88 : decode cX4_bringToLowestTerms 88 = .ok (.lload_n 1, 1) := by decide +kernel
theorem dX4_bringToLowestTerms_89 : decode cX4_bringToLowestTerms 89 = .ok (.ldiv, 1) := by decide +kernel
theorem dX4_bringToLowestTerms_90 : decode cX4_bringToLowestTerms 90 = .ok (.putfield 13, 3) := by decide +kernel
theorem dX4_bringToLowestTerms_93 : decode cX4_bringToLowestTerms 93 = .ok (.return_, 1) := by decide +kernel
set_option maxRecDepth 100000 in
set_option maxHeartbeats 4000000 in
theorem mtX4_bringToLowestTerms (l : Launch) (dC : Nat → ClassId) (dI : Nat → Nat → Nat) (cI cL cB : ClassId) (K : Nat) (h_t : Nat) (sz : Nat) (t_x : Int64) (t_y : Int64) (t_lower : Int64) (t_square : Int64) (t_squareLower : Int64) (t_fromX : Int32) (t_fromY : Int32) (o_t_x : Int64) (o_t_y : Int64) (o_t_lower : Int64) (o_t_square : Int64) (o_t_squareLower : Int64) (hf : fX4_bringToLowestTerms K t_x t_y t_lower t_square t_squareLower = some (o_t_x, o_t_y, o_t_lower, o_t_square, o_t_squareLower)) : Met l yX4_bringToLowestTerms [Cond.code yX4_bringToLowestTerms cX4_bringToLowestTerms 3 none] ({ frames := 2, cells := 0, slots := 0, locals := 45 }) (va_Pc [.ref h_t] (cPre dC dI cI cL cB sz [(h_t, .inr (4, [.long t_x, .long t_y, .long t_lower, .long t_square, .long t_squareLower, .int t_fromX, .int t_fromY]))])) (cQv dC dI (va_A [(h_t, .inr (4, [.long t_x, .long t_y, .long t_lower, .long t_square, .long t_squareLower, .int t_fromX, .int t_fromY]))] sz) [(h_t, .inr (4, [.long o_t_x, .long o_t_y, .long o_t_lower, .long o_t_square, .long o_t_squareLower, .int t_fromX, .int t_fromY]))]) 0 0 (va_A [(h_t, .inr (4, [.long t_x, .long t_y, .long t_lower, .long t_square, .long t_squareLower, .int t_fromX, .int t_fromY]))] sz) := by
  refine Met.ofW (cc := cX4_bringToLowestTerms) (maxL := 3) (ret := none) (by decide) rfl ?_
  intro p e s m args below meth c s₁ B hml hv
  obtain ⟨rfl, hsz, hP, hK, hD0, hT⟩ := hv
  have hx := B.exec
  have hb := B.bytes
  have hr := B.returns
  have hown : s.vm.findClass RX4 = some m.cls := findClass_of_methodNamed B.named
  have hlocks := B.notSynchronized
  have hts := TB.use hT ([.ref h_t] : List Value).toArray
  subst hsz
  have hD := hD0.self (sz := s.heap.size)
  generalize hAe : va_A [(h_t, .inr (4, [.long t_x, .long t_y, .long t_lower, .long t_square, .long t_squareLower, .int t_fromX, .int t_fromY]))] s.heap.size = A at hD ⊢
  have hA : ∀ q : Nat, s.heap.size ≤ q → A q := fun q h => by rw [← hAe]; exact Or.inr h
  clear hAe hD0
  have hl := lv_entry ([.ref h_t]) (n := 3) (Nat.le_of_ble_eq_true rfl)
  rw [lg_entry_eq]
  generalize (lg_sl ([.ref h_t]) ++ List.replicate (3 - (lg_sl ([.ref h_t])).length) Slot.unset).toArray = ls at hl ⊢
  have hl : lv_has ls 3 [(0, .ref h_t)] := hl
  have hF : 2 ≤ (headSpec [Cond.code yX4_bringToLowestTerms cX4_bringToLowestTerms 3 none] ({ frames := 2, cells := 0, slots := 0, locals := 45 })).room.frames := Nat.le_refl _
  have hLo : 45 ≤ (headSpec [Cond.code yX4_bringToLowestTerms cX4_bringToLowestTerms 3 none] ({ frames := 2, cells := 0, slots := 0, locals := 45 })).room.locals := Nat.le_refl _
  have C0 : Sx p (headSpec [Cond.code yX4_bringToLowestTerms cX4_bringToLowestTerms 3 none] ({ frames := 2, cells := 0, slots := 0, locals := 45 })).room s m ([.ref h_t] : List Value).toArray c cX4_bringToLowestTerms 3 RX4 A dC dI cI cL cB 2 45 := ⟨hx, hb, hml, hown, hts, hK, hT, hA, hF, hLo⟩
  refine startH (A := A) hP (fun H locs hP hS => ?_)
  rw [fX4_bringToLowestTerms] at hf
  refine lv_aload_n hx hb dX4_bringToLowestTerms_0 rfl (lv_at hl 0 rfl) ?_
  refine va_get (D := (dC, dI)) (ci := 4) (v := .long t_x) (C := RX4) (T := TX4) (N := 7) hx hb hts in_X4 hown hK hP 0 rfl rfl 0 (Nat.le_of_ble_eq_true rfl) (hts _ qf_X4_54) (fun _ h9 => h9) rfl dX4_bringToLowestTerms_1 ?_
  refine lv_aload_n hx hb dX4_bringToLowestTerms_4 rfl (lv_at hl 0 rfl) ?_
  refine va_get (D := (dC, dI)) (ci := 4) (v := .long t_y) (C := RX4) (T := TX4) (N := 7) hx hb hts in_X4 hown hK hP 0 rfl rfl 1 (Nat.le_of_ble_eq_true rfl) (hts _ qf_X4_56) (fun _ h9 => h9) rfl dX4_bringToLowestTerms_5 ?_
  obtain ⟨r_1, hq_2, hf⟩ := b1_some hf
  refine xcl (wr := [(h_t, .inr (4, [.long t_x, .long t_y, .long t_lower, .long t_square, .long t_squareLower, .int t_fromX, .int t_fromY]))]) (w2 := [(h_t, .inr (4, [.long t_x, .long t_y, .long t_lower, .long t_square, .long t_squareLower, .int t_fromX, .int t_fromY]))]) (va_runSN (As := [.long t_x, .long t_y]) (rest := []) ⟨hx, hb, hml, hown, hts⟩ (mtX11_gcd l dC dI cI cL cB K H.size t_x t_y r_1 hq_2) ⟨va_cnB 2 hts (gcode qc_X11_gcd) rfl rfl rfl (hT _ qm_X4_58) (hts _ qz_X11) hdS_X11_gcd ⟨Nat.le_trans (Nat.le_of_ble_eq_true rfl) hF, Nat.le_trans (Nat.le_of_ble_eq_true rfl) hLo⟩, hts _ qt_X11_gcd, trivial⟩ (cPreS hK hP hD hT [] rfl rfl) rfl rfl hl.1 rfl (lv_room (Nat.le_of_ble_eq_true rfl)) dX4_bringToLowestTerms_8 ⟨Nat.zero_le _, Nat.zero_le _⟩) hP hD hS hA [] [0] [0] rfl rfl rfl rfl rfl rfl (fun H locs hP hD hS => ?_)
  refine lv_aload_n hx hb dX4_bringToLowestTerms_11 rfl (lv_at hl 0 rfl) ?_
  refine va_get (D := (dC, dI)) (ci := 4) (v := .long t_lower) (C := RX4) (T := TX4) (N := 7) hx hb hts in_X4 hown hK hP 0 rfl rfl 2 (Nat.le_of_ble_eq_true rfl) (hts _ qf_X4_7) (fun _ h9 => h9) rfl dX4_bringToLowestTerms_12 ?_
  obtain ⟨r_3, hq_4, hf⟩ := b1_some hf
  refine xcl (wr := [(h_t, .inr (4, [.long t_x, .long t_y, .long t_lower, .long t_square, .long t_squareLower, .int t_fromX, .int t_fromY]))]) (w2 := [(h_t, .inr (4, [.long t_x, .long t_y, .long t_lower, .long t_square, .long t_squareLower, .int t_fromX, .int t_fromY]))]) (va_runSN (As := [.long r_1, .long t_lower]) (rest := []) ⟨hx, hb, hml, hown, hts⟩ (mtX11_gcd l dC dI cI cL cB K H.size r_1 t_lower r_3 hq_4) ⟨va_cnB 2 hts (gcode qc_X11_gcd) rfl rfl rfl (hT _ qm_X4_58) (hts _ qz_X11) hdS_X11_gcd ⟨Nat.le_trans (Nat.le_of_ble_eq_true rfl) hF, Nat.le_trans (Nat.le_of_ble_eq_true rfl) hLo⟩, hts _ qt_X11_gcd, trivial⟩ (cPreS hK hP hD hT [] rfl rfl) rfl rfl hl.1 rfl (lv_room (Nat.le_of_ble_eq_true rfl)) dX4_bringToLowestTerms_15 ⟨Nat.zero_le _, Nat.zero_le _⟩) hP hD hS hA [] [0] [0] rfl rfl rfl rfl rfl rfl (fun H locs hP hD hS => ?_)
  refine lv_lstore_n (lv' := [(1, .long r_3), (0, .ref h_t)]) hx hb dX4_bringToLowestTerms_18 rfl hl (Nat.le_of_ble_eq_true rfl) rfl (fun ls hl => ?_)
  refine lv_lload_n hx hb dX4_bringToLowestTerms_19 rfl (lv_at hl 0 rfl) ?_
  refine lv_lconst (v := (0 : Int64)) hx hb dX4_bringToLowestTerms_20 (by decide) ?_
  refine W.lcmp hx hb dX4_bringToLowestTerms_21 ?_
  obtain ⟨k_8, ek_8, hf⟩ := jn_out hf
  have J_9 : ∀ (t_x_5 : Int64) (t_y_6 : Int64) (t_lower_7 : Int64) (H : Heap) (locs : List Loc) (ls : Array Slot), va_P (dC, dI) vwCl [(h_t, .inr (4, [.long t_x_5, .long t_y_6, .long t_lower_7, .long t_square, .long t_squareLower, .int t_fromX, .int t_fromY]))] H → va_D A [(h_t, .inr (4, [.long t_x_5, .long t_y_6, .long t_lower_7, .long t_square, .long t_squareLower, .int t_fromX, .int t_fromY]))] → va_S A s.heap H locs → lv_has ls 3 [(0, .ref h_t)] → k_8 t_x_5 t_y_6 t_lower_7 = some (o_t_x, o_t_y, o_t_lower, o_t_square, o_t_squareLower) → W p l e (headSpec [Cond.code yX4_bringToLowestTerms cX4_bringToLowestTerms 3 none] ({ frames := 2, cells := 0, slots := 0, locals := 45 })).room s m ([.ref h_t] : List Value).toArray below meth c H locs 0 0 (MQ below (cQv dC dI A [(h_t, .inr (4, [.long o_t_x, .long o_t_y, .long o_t_lower, .long o_t_square, .long o_t_squareLower, .int t_fromX, .int t_fromY]))]) ([.ref h_t] : List Value).toArray s 0 0 A) (F0 m 55 ls []) := by
    intro t_x_5 t_y_6 t_lower_7 H locs ls hP hD hS hl hf
    rw [ek_8] at hf
    try dsimp only at hf
    refine lv_aload_n hx hb dX4_bringToLowestTerms_55 rfl (lv_at hl 0 rfl) ?_
    refine va_get (D := (dC, dI)) (ci := 4) (v := .long t_square) (C := RX4) (T := TX4) (N := 7) hx hb hts in_X4 hown hK hP 0 rfl rfl 3 (Nat.le_of_ble_eq_true rfl) (hts _ qf_X4_23) (fun _ h9 => h9) rfl dX4_bringToLowestTerms_56 ?_
    refine lv_aload_n hx hb dX4_bringToLowestTerms_59 rfl (lv_at hl 0 rfl) ?_
    refine va_get (D := (dC, dI)) (ci := 4) (v := .long t_squareLower) (C := RX4) (T := TX4) (N := 7) hx hb hts in_X4 hown hK hP 0 rfl rfl 4 (Nat.le_of_ble_eq_true rfl) (hts _ qf_X4_13) (fun _ h9 => h9) rfl dX4_bringToLowestTerms_60 ?_
    obtain ⟨r_10, hq_11, hf⟩ := b1_some hf
    refine xcl (wr := [(h_t, .inr (4, [.long t_x_5, .long t_y_6, .long t_lower_7, .long t_square, .long t_squareLower, .int t_fromX, .int t_fromY]))]) (w2 := [(h_t, .inr (4, [.long t_x_5, .long t_y_6, .long t_lower_7, .long t_square, .long t_squareLower, .int t_fromX, .int t_fromY]))]) (va_runSN (As := [.long t_square, .long t_squareLower]) (rest := []) ⟨hx, hb, hml, hown, hts⟩ (mtX11_gcd l dC dI cI cL cB K H.size t_square t_squareLower r_10 hq_11) ⟨va_cnB 2 hts (gcode qc_X11_gcd) rfl rfl rfl (hT _ qm_X4_58) (hts _ qz_X11) hdS_X11_gcd ⟨Nat.le_trans (Nat.le_of_ble_eq_true rfl) hF, Nat.le_trans (Nat.le_of_ble_eq_true rfl) hLo⟩, hts _ qt_X11_gcd, trivial⟩ (cPreS hK hP hD hT [] rfl rfl) rfl rfl hl.1 rfl (lv_room (Nat.le_of_ble_eq_true rfl)) dX4_bringToLowestTerms_63 ⟨Nat.zero_le _, Nat.zero_le _⟩) hP hD hS hA [] [0] [0] rfl rfl rfl rfl rfl rfl (fun H locs hP hD hS => ?_)
    refine lv_lstore_n (lv' := [(1, .long r_10), (0, .ref h_t)]) hx hb dX4_bringToLowestTerms_66 rfl hl (Nat.le_of_ble_eq_true rfl) rfl (fun ls hl => ?_)
    refine lv_lload_n hx hb dX4_bringToLowestTerms_67 rfl (lv_at hl 0 rfl) ?_
    refine lv_lconst (v := (0 : Int64)) hx hb dX4_bringToLowestTerms_68 (by decide) ?_
    refine W.lcmp hx hb dX4_bringToLowestTerms_69 ?_
    refine lv_if_eq (tgt := 93) hx hb dX4_bringToLowestTerms_70 (by decide) (fun hc => ?_) (fun hc => ?_)
    · replace hf := it_t ((lg_cmp_eq _ _).mp hc) hf
      obtain ⟨rfl, rfl, rfl, rfl, rfl⟩ := o5 hf
      exact W.vret hx hb hr (fun t ht hW => ⟨⟨(), rfl, trivial, by rw [ht]; exact hP, hD⟩, hS.F ht⟩) hS.2.2 dX4_bringToLowestTerms_93
    · replace hf := it_f (fun h9 => hc ((lg_cmp_eq _ _).mpr h9)) hf
      refine lv_aload_n hx hb dX4_bringToLowestTerms_73 rfl (lv_at hl 1 rfl) ?_
      refine lv_dup hx hb dX4_bringToLowestTerms_74 rfl ?_
      refine va_get (D := (dC, dI)) (ci := 4) (v := .long t_square) (C := RX4) (T := TX4) (N := 7) hx hb hts in_X4 hown hK hP 0 rfl rfl 3 (Nat.le_of_ble_eq_true rfl) (hts _ qf_X4_23) (fun _ h9 => h9) rfl dX4_bringToLowestTerms_75 ?_
      refine lv_lload_n hx hb dX4_bringToLowestTerms_78 rfl (lv_at hl 0 rfl) ?_
      obtain ⟨hg_12, hf⟩ := gd_some hf
      refine lv_ldiv hx hb dX4_bringToLowestTerms_79 (nz_ne hg_12) ?_
      refine lv_topl (fun f_square_13 ef_square_13 => ?_)
      replace hf := xl_at hf ef_square_13
      refine xput (D := (dC, dI)) (ci := 4) (v := .long f_square_13) (C := RX4) (T := TX4) (N := 7) (w2 := [(h_t, .inr (4, [.long t_x_5, .long t_y_6, .long t_lower_7, .long f_square_13, .long t_squareLower, .int t_fromX, .int t_fromY]))]) hx hb hts in_X4 tyX4 tyX4_ok nmX4 hown hK hP hD hS 0 rfl rfl 3 (Nat.le_of_ble_eq_true rfl) (hts _ qf_X4_23) (fun _ h9 => h9) rfl rfl rfl (Nat.le_of_ble_eq_true rfl) rfl dX4_bringToLowestTerms_80 (fun H locs hP hD hS => ?_)
      refine lv_aload_n hx hb dX4_bringToLowestTerms_83 rfl (lv_at hl 1 rfl) ?_
      refine lv_dup hx hb dX4_bringToLowestTerms_84 rfl ?_
      refine va_get (D := (dC, dI)) (ci := 4) (v := .long t_squareLower) (C := RX4) (T := TX4) (N := 7) hx hb hts in_X4 hown hK hP 0 rfl rfl 4 (Nat.le_of_ble_eq_true rfl) (hts _ qf_X4_13) (fun _ h9 => h9) rfl dX4_bringToLowestTerms_85 ?_
      refine lv_lload_n hx hb dX4_bringToLowestTerms_88 rfl (lv_at hl 0 rfl) ?_
      obtain ⟨hg_14, hf⟩ := gd_some hf
      refine lv_ldiv hx hb dX4_bringToLowestTerms_89 (nz_ne hg_14) ?_
      refine lv_topl (fun f_squareLower_15 ef_squareLower_15 => ?_)
      replace hf := xl_at hf ef_squareLower_15
      refine xput (D := (dC, dI)) (ci := 4) (v := .long f_squareLower_15) (C := RX4) (T := TX4) (N := 7) (w2 := [(h_t, .inr (4, [.long t_x_5, .long t_y_6, .long t_lower_7, .long f_square_13, .long f_squareLower_15, .int t_fromX, .int t_fromY]))]) hx hb hts in_X4 tyX4 tyX4_ok nmX4 hown hK hP hD hS 0 rfl rfl 4 (Nat.le_of_ble_eq_true rfl) (hts _ qf_X4_13) (fun _ h9 => h9) rfl rfl rfl (Nat.le_of_ble_eq_true rfl) rfl dX4_bringToLowestTerms_90 (fun H locs hP hD hS => ?_)
      obtain ⟨rfl, rfl, rfl, rfl, rfl⟩ := o5 hf
      exact W.vret hx hb hr (fun t ht hW => ⟨⟨(), rfl, trivial, by rw [ht]; exact hP, hD⟩, hS.F ht⟩) hS.2.2 dX4_bringToLowestTerms_93
  refine lv_if_eq (tgt := 55) hx hb dX4_bringToLowestTerms_22 (by decide) (fun hc => ?_) (fun hc => ?_)
  · replace hf := it_t ((lg_cmp_eq _ _).mp hc) hf
    exact J_9 t_x t_y t_lower H locs ls hP hD hS (lv_sub hl [1] rfl) hf
  · replace hf := it_f (fun h9 => hc ((lg_cmp_eq _ _).mpr h9)) hf
    refine lv_aload_n hx hb dX4_bringToLowestTerms_25 rfl (lv_at hl 1 rfl) ?_
    refine lv_dup hx hb dX4_bringToLowestTerms_26 rfl ?_
    refine va_get (D := (dC, dI)) (ci := 4) (v := .long t_x) (C := RX4) (T := TX4) (N := 7) hx hb hts in_X4 hown hK hP 0 rfl rfl 0 (Nat.le_of_ble_eq_true rfl) (hts _ qf_X4_54) (fun _ h9 => h9) rfl dX4_bringToLowestTerms_27 ?_
    refine lv_lload_n hx hb dX4_bringToLowestTerms_30 rfl (lv_at hl 0 rfl) ?_
    obtain ⟨hg_16, hf⟩ := gd_some hf
    refine lv_ldiv hx hb dX4_bringToLowestTerms_31 (nz_ne hg_16) ?_
    refine lv_topl (fun f_x_17 ef_x_17 => ?_)
    replace hf := xl_at hf ef_x_17
    refine xput (D := (dC, dI)) (ci := 4) (v := .long f_x_17) (C := RX4) (T := TX4) (N := 7) (w2 := [(h_t, .inr (4, [.long f_x_17, .long t_y, .long t_lower, .long t_square, .long t_squareLower, .int t_fromX, .int t_fromY]))]) hx hb hts in_X4 tyX4 tyX4_ok nmX4 hown hK hP hD hS 0 rfl rfl 0 (Nat.le_of_ble_eq_true rfl) (hts _ qf_X4_54) (fun _ h9 => h9) rfl rfl rfl (Nat.le_of_ble_eq_true rfl) rfl dX4_bringToLowestTerms_32 (fun H locs hP hD hS => ?_)
    refine lv_aload_n hx hb dX4_bringToLowestTerms_35 rfl (lv_at hl 1 rfl) ?_
    refine lv_dup hx hb dX4_bringToLowestTerms_36 rfl ?_
    refine va_get (D := (dC, dI)) (ci := 4) (v := .long t_y) (C := RX4) (T := TX4) (N := 7) hx hb hts in_X4 hown hK hP 0 rfl rfl 1 (Nat.le_of_ble_eq_true rfl) (hts _ qf_X4_56) (fun _ h9 => h9) rfl dX4_bringToLowestTerms_37 ?_
    refine lv_lload_n hx hb dX4_bringToLowestTerms_40 rfl (lv_at hl 0 rfl) ?_
    obtain ⟨hg_18, hf⟩ := gd_some hf
    refine lv_ldiv hx hb dX4_bringToLowestTerms_41 (nz_ne hg_18) ?_
    refine lv_topl (fun f_y_19 ef_y_19 => ?_)
    replace hf := xl_at hf ef_y_19
    refine xput (D := (dC, dI)) (ci := 4) (v := .long f_y_19) (C := RX4) (T := TX4) (N := 7) (w2 := [(h_t, .inr (4, [.long f_x_17, .long f_y_19, .long t_lower, .long t_square, .long t_squareLower, .int t_fromX, .int t_fromY]))]) hx hb hts in_X4 tyX4 tyX4_ok nmX4 hown hK hP hD hS 0 rfl rfl 1 (Nat.le_of_ble_eq_true rfl) (hts _ qf_X4_56) (fun _ h9 => h9) rfl rfl rfl (Nat.le_of_ble_eq_true rfl) rfl dX4_bringToLowestTerms_42 (fun H locs hP hD hS => ?_)
    refine lv_aload_n hx hb dX4_bringToLowestTerms_45 rfl (lv_at hl 1 rfl) ?_
    refine lv_dup hx hb dX4_bringToLowestTerms_46 rfl ?_
    refine va_get (D := (dC, dI)) (ci := 4) (v := .long t_lower) (C := RX4) (T := TX4) (N := 7) hx hb hts in_X4 hown hK hP 0 rfl rfl 2 (Nat.le_of_ble_eq_true rfl) (hts _ qf_X4_7) (fun _ h9 => h9) rfl dX4_bringToLowestTerms_47 ?_
    refine lv_lload_n hx hb dX4_bringToLowestTerms_50 rfl (lv_at hl 0 rfl) ?_
    obtain ⟨hg_20, hf⟩ := gd_some hf
    refine lv_ldiv hx hb dX4_bringToLowestTerms_51 (nz_ne hg_20) ?_
    refine lv_topl (fun f_lower_21 ef_lower_21 => ?_)
    replace hf := xl_at hf ef_lower_21
    refine xput (D := (dC, dI)) (ci := 4) (v := .long f_lower_21) (C := RX4) (T := TX4) (N := 7) (w2 := [(h_t, .inr (4, [.long f_x_17, .long f_y_19, .long f_lower_21, .long t_square, .long t_squareLower, .int t_fromX, .int t_fromY]))]) hx hb hts in_X4 tyX4 tyX4_ok nmX4 hown hK hP hD hS 0 rfl rfl 2 (Nat.le_of_ble_eq_true rfl) (hts _ qf_X4_7) (fun _ h9 => h9) rfl rfl rfl (Nat.le_of_ble_eq_true rfl) rfl dX4_bringToLowestTerms_52 (fun H locs hP hD hS => ?_)
    exact J_9 f_x_17 f_y_19 f_lower_21 H locs ls hP hD hS (lv_sub hl [1] rfl) hf
theorem dX11_nearest_0 : decode cX11_nearest 0 = .ok (.aload_n 0, 1) := by decide +kernel
theorem dX11_nearest_1 : decode cX11_nearest 1 = .ok (.getfield 12, 3) := by decide +kernel
theorem dX11_nearest_4 : decode cX11_nearest 4 = .ok (.iload_n 1, 1) := by decide +kernel
theorem dX11_nearest_5 : decode cX11_nearest 5 = .ok (.invokevirtual 152, 3) := by decide +kernel
theorem dX11_nearest_8 : decode cX11_nearest 8 = .ok (.ifCond .ne 7, 3) := by decide +kernel
theorem dX11_nearest_11 : decode cX11_nearest 11 = .ok (.ldc2_w 131, 3) := by decide +kernel
theorem dX11_nearest_14 : decode cX11_nearest 14 = .ok (.lreturn, 1) := by decide +kernel
theorem dX11_nearest_15 : decode cX11_nearest 15 = .ok (.aload_n 0, 1) := by decide +kernel
theorem dX11_nearest_16 : decode cX11_nearest 16 = .ok (.getfield 28, 3) := by decide +kernel
theorem dX11_nearest_19 : decode cX11_nearest 19 = .ok (.aload_n 0, 1) := by decide +kernel
theorem dX11_nearest_20 : decode cX11_nearest 20 = .ok (.getfield 12, 3) := by decide +kernel
theorem dX11_nearest_23 : decode cX11_nearest 23 = .ok (.iload_n 1, 1) := by decide +kernel
theorem dX11_nearest_24 : decode cX11_nearest 24 = .ok (.invokevirtual 155, 3) := by decide +kernel
theorem dX11_nearest_27 : decode cX11_nearest 27 = .ok (.aload_n 0, 1) := by decide +kernel
theorem dX11_nearest_28 : decode cX11_nearest 28 = .ok (.getfield 35, 3) := by decide +kernel
theorem dX11_nearest_31 : decode cX11_nearest 31 = .ok (.aload_n 0, 1) := by decide +kernel
theorem dX11_nearest_32 : decode cX11_nearest 32 = .ok (.getfield 28, 3) := by decide +kernel
theorem dX11_nearest_35 : decode cX11_nearest 35 = .ok (.aload_n 0, 1) := by decide +kernel
theorem dX11_nearest_36 : decode cX11_nearest 36 = .ok (.getfield 12, 3) := by decide +kernel
theorem dX11_nearest_39 : decode cX11_nearest 39 = .ok (.getfield 146, 3) := by decide +kernel
theorem dX11_nearest_42 : decode cX11_nearest 42 = .ok (.aload_n 0, 1) := by decide +kernel
theorem dX11_nearest_43 : decode cX11_nearest 43 = .ok (.getfield 12, 3) := by decide +kernel
theorem dX11_nearest_46 : decode cX11_nearest 46 = .ok (.getfield 149, 3) := by decide +kernel
theorem dX11_nearest_49 : decode cX11_nearest 49 = .ok (.invokevirtual 177, 3) := by decide +kernel
theorem dX11_nearest_52 : decode cX11_nearest 52 = .ok (.aload_n 0, 1) := by decide +kernel
theorem dX11_nearest_53 : decode cX11_nearest 53 = .ok (.getfield 35, 3) := by decide +kernel
theorem dX11_nearest_56 : decode cX11_nearest 56 = .ok (.invokevirtual 181, 3) := by decide +kernel
theorem dX11_nearest_59 : decode cX11_nearest 59 = .ok (.iload_n 2, 1) := by decide +kernel
theorem dX11_nearest_60 : decode cX11_nearest 60 = .ok (.tableswitch 76 0 4 #[36, 44, 52, 60, 68], 36) := by decide +kernel
theorem dX11_nearest_96 : decode cX11_nearest 96 = .ok (.aload_n 0, 1) := by decide +kernel
theorem dX11_nearest_97 : decode cX11_nearest 97 = .ok (.getfield 35, 3) := by decide +kernel
theorem dX11_nearest_100 : decode cX11_nearest 100 = .ok (.getfield 184, 3) := by decide +kernel
theorem dX11_nearest_103 : decode cX11_nearest 103 = .ok (.lreturn, 1) := by decide +kernel
theorem dX11_nearest_104 : decode cX11_nearest 104 = .ok (.aload_n 0, 1) := by decide +kernel
theorem dX11_nearest_105 : decode cX11_nearest 105 = .ok (.getfield 35, 3) := by decide +kernel
theorem dX11_nearest_108 : decode cX11_nearest 108 = .ok (.getfield 187, 3) := by decide +kernel
theorem dX11_nearest_111 : decode cX11_nearest 111 = .ok (.lreturn, 1) := by decide +kernel
theorem dX11_nearest_112 : decode cX11_nearest 112 = .ok (.aload_n 0, 1) := by decide +kernel
theorem dX11_nearest_113 : decode cX11_nearest 113 = .ok (.getfield 35, 3) := by decide +kernel
theorem dX11_nearest_116 : decode cX11_nearest 116 = .ok (.getfield 189, 3) := by decide +kernel
theorem dX11_nearest_119 : decode cX11_nearest 119 = .ok (.lreturn, 1) := by decide +kernel
theorem dX11_nearest_120 : decode cX11_nearest 120 = .ok (.aload_n 0, 1) := by decide +kernel
theorem dX11_nearest_121 : decode cX11_nearest 121 = .ok (.getfield 35, 3) := by decide +kernel
theorem dX11_nearest_124 : decode cX11_nearest 124 = .ok (.getfield 192, 3) := by decide +kernel
theorem dX11_nearest_127 : decode cX11_nearest 127 = .ok (.lreturn, 1) := by decide +kernel
theorem dX11_nearest_128 : decode cX11_nearest 128 = .ok (.aload_n 0, 1) := by decide +kernel
theorem dX11_nearest_129 : decode cX11_nearest 129 = .ok (.getfield 35, 3) := by decide +kernel
theorem dX11_nearest_132 : decode cX11_nearest 132 = .ok (.getfield 195, 3) := by decide +kernel
theorem dX11_nearest_135 : decode cX11_nearest 135 = .ok (.lreturn, 1) := by decide +kernel
theorem dX11_nearest_136 : decode cX11_nearest 136 = .ok (.ldc2_w 131, 3) := by decide +kernel
theorem dX11_nearest_139 : decode cX11_nearest 139 = .ok (.lreturn, 1) := by decide +kernel
set_option maxRecDepth 100000 in
set_option maxHeartbeats 4000000 in
theorem mtX11_nearest (l : Launch) (dC : Nat → ClassId) (dI : Nat → Nat → Nat) (cI cL cB : ClassId) (K : Nat) (h_t h_t_cloud h_t_reader h_t_hull h_t_near h_t_firstTie h_t_reducer h_t_chooser h_t_pair h_t_divider h_t_depths h_t_spot h_t_cloud_x h_t_cloud_y h_t_cloud_colour h_t_cloud_load h_t_hull_chain h_t_hull_x h_t_hull_y h_t_hull_sorted : Nat) (sz : Nat) (t_cloud_size : Int32) (t_cloud_centreX : Int32) (t_cloud_centreY : Int32) (t_cloud_x : Nat → Int32) (t_cloud_y : Nat → Int32) (t_hull_size : Int32) (t_hull_chain : Nat → Int32) (t_hull_x : Nat → Int32) (t_hull_y : Nat → Int32) (t_hull_sorted : Nat → Int32) (t_near_x : Int64) (t_near_y : Int64) (t_near_lower : Int64) (t_near_square : Int64) (t_near_squareLower : Int64) (t_near_fromX : Int32) (t_near_fromY : Int32) (a1 : Int32) (a2 : Int32) (o_r : Int64) (o_t_hull_size : Int32) (o_t_hull_chain : Nat → Int32) (o_t_hull_x : Nat → Int32) (o_t_hull_y : Nat → Int32) (o_t_hull_sorted : Nat → Int32) (o_t_near_x : Int64) (o_t_near_y : Int64) (o_t_near_lower : Int64) (o_t_near_square : Int64) (o_t_near_squareLower : Int64) (o_t_near_fromX : Int32) (o_t_near_fromY : Int32) (hf : fX11_nearest K t_cloud_size t_cloud_centreX t_cloud_centreY t_cloud_x t_cloud_y t_hull_size t_hull_chain t_hull_x t_hull_y t_hull_sorted t_near_x t_near_y t_near_lower t_near_square t_near_squareLower t_near_fromX t_near_fromY a1 a2 = some (o_r, o_t_hull_size, o_t_hull_chain, o_t_hull_x, o_t_hull_y, o_t_hull_sorted, o_t_near_x, o_t_near_y, o_t_near_lower, o_t_near_square, o_t_near_squareLower, o_t_near_fromX, o_t_near_fromY)) : Met l yX11_nearest [Cond.code yX11_nearest cX11_nearest 3 (some .long)] ({ frames := 3, cells := 0, slots := 0, locals := 88 }) (va_Pc [.ref h_t, .int a1, .int a2] (cPre dC dI cI cL cB sz [(h_t, .inr (11, [.ref h_t_cloud, .ref h_t_reader, .ref h_t_hull, .ref h_t_near, .ref h_t_firstTie, .ref h_t_reducer, .ref h_t_chooser, .ref h_t_pair, .ref h_t_divider, .ref h_t_depths, .ref h_t_spot])), (h_t_cloud, .inr (0, [.ref h_t_cloud_x, .ref h_t_cloud_y, .ref h_t_cloud_colour, .ref h_t_cloud_load, .int t_cloud_size, .int t_cloud_centreX, .int t_cloud_centreY])), (h_t_cloud_x, .inl (cI, 24, .inl t_cloud_x)), (h_t_cloud_y, .inl (cI, 24, .inl t_cloud_y)), (h_t_hull, .inr (2, [.ref h_t_hull_chain, .ref h_t_hull_x, .ref h_t_hull_y, .ref h_t_hull_sorted, .int t_hull_size])), (h_t_hull_chain, .inl (cI, 48, .inl t_hull_chain)), (h_t_hull_x, .inl (cI, 48, .inl t_hull_x)), (h_t_hull_y, .inl (cI, 48, .inl t_hull_y)), (h_t_hull_sorted, .inl (cI, 24, .inl t_hull_sorted)), (h_t_near, .inr (4, [.long t_near_x, .long t_near_y, .long t_near_lower, .long t_near_square, .long t_near_squareLower, .int t_near_fromX, .int t_near_fromY]))])) (cQl dC dI (va_A [(h_t, .inr (11, [.ref h_t_cloud, .ref h_t_reader, .ref h_t_hull, .ref h_t_near, .ref h_t_firstTie, .ref h_t_reducer, .ref h_t_chooser, .ref h_t_pair, .ref h_t_divider, .ref h_t_depths, .ref h_t_spot])), (h_t_cloud, .inr (0, [.ref h_t_cloud_x, .ref h_t_cloud_y, .ref h_t_cloud_colour, .ref h_t_cloud_load, .int t_cloud_size, .int t_cloud_centreX, .int t_cloud_centreY])), (h_t_cloud_x, .inl (cI, 24, .inl t_cloud_x)), (h_t_cloud_y, .inl (cI, 24, .inl t_cloud_y)), (h_t_hull, .inr (2, [.ref h_t_hull_chain, .ref h_t_hull_x, .ref h_t_hull_y, .ref h_t_hull_sorted, .int t_hull_size])), (h_t_hull_chain, .inl (cI, 48, .inl t_hull_chain)), (h_t_hull_x, .inl (cI, 48, .inl t_hull_x)), (h_t_hull_y, .inl (cI, 48, .inl t_hull_y)), (h_t_hull_sorted, .inl (cI, 24, .inl t_hull_sorted)), (h_t_near, .inr (4, [.long t_near_x, .long t_near_y, .long t_near_lower, .long t_near_square, .long t_near_squareLower, .int t_near_fromX, .int t_near_fromY]))] sz) o_r [(h_t, .inr (11, [.ref h_t_cloud, .ref h_t_reader, .ref h_t_hull, .ref h_t_near, .ref h_t_firstTie, .ref h_t_reducer, .ref h_t_chooser, .ref h_t_pair, .ref h_t_divider, .ref h_t_depths, .ref h_t_spot])), (h_t_cloud, .inr (0, [.ref h_t_cloud_x, .ref h_t_cloud_y, .ref h_t_cloud_colour, .ref h_t_cloud_load, .int t_cloud_size, .int t_cloud_centreX, .int t_cloud_centreY])), (h_t_cloud_x, .inl (cI, 24, .inl t_cloud_x)), (h_t_cloud_y, .inl (cI, 24, .inl t_cloud_y)), (h_t_hull, .inr (2, [.ref h_t_hull_chain, .ref h_t_hull_x, .ref h_t_hull_y, .ref h_t_hull_sorted, .int o_t_hull_size])), (h_t_hull_chain, .inl (cI, 48, .inl o_t_hull_chain)), (h_t_hull_x, .inl (cI, 48, .inl o_t_hull_x)), (h_t_hull_y, .inl (cI, 48, .inl o_t_hull_y)), (h_t_hull_sorted, .inl (cI, 24, .inl o_t_hull_sorted)), (h_t_near, .inr (4, [.long o_t_near_x, .long o_t_near_y, .long o_t_near_lower, .long o_t_near_square, .long o_t_near_squareLower, .int o_t_near_fromX, .int o_t_near_fromY]))]) 0 0 (va_A [(h_t, .inr (11, [.ref h_t_cloud, .ref h_t_reader, .ref h_t_hull, .ref h_t_near, .ref h_t_firstTie, .ref h_t_reducer, .ref h_t_chooser, .ref h_t_pair, .ref h_t_divider, .ref h_t_depths, .ref h_t_spot])), (h_t_cloud, .inr (0, [.ref h_t_cloud_x, .ref h_t_cloud_y, .ref h_t_cloud_colour, .ref h_t_cloud_load, .int t_cloud_size, .int t_cloud_centreX, .int t_cloud_centreY])), (h_t_cloud_x, .inl (cI, 24, .inl t_cloud_x)), (h_t_cloud_y, .inl (cI, 24, .inl t_cloud_y)), (h_t_hull, .inr (2, [.ref h_t_hull_chain, .ref h_t_hull_x, .ref h_t_hull_y, .ref h_t_hull_sorted, .int t_hull_size])), (h_t_hull_chain, .inl (cI, 48, .inl t_hull_chain)), (h_t_hull_x, .inl (cI, 48, .inl t_hull_x)), (h_t_hull_y, .inl (cI, 48, .inl t_hull_y)), (h_t_hull_sorted, .inl (cI, 24, .inl t_hull_sorted)), (h_t_near, .inr (4, [.long t_near_x, .long t_near_y, .long t_near_lower, .long t_near_square, .long t_near_squareLower, .int t_near_fromX, .int t_near_fromY]))] sz) := by
  refine Met.ofW (cc := cX11_nearest) (maxL := 3) (ret := (some .long)) (by decide) rfl ?_
  intro p e s m args below meth c s₁ B hml hv
  obtain ⟨rfl, hsz, hP, hK, hD0, hT⟩ := hv
  have hx := B.exec
  have hb := B.bytes
  have hr := B.returns
  have hown : s.vm.findClass RX11 = some m.cls := findClass_of_methodNamed B.named
  have hlocks := B.notSynchronized
  have hts := TB.use hT ([.ref h_t, .int a1, .int a2] : List Value).toArray
  subst hsz
  have hD := hD0.self (sz := s.heap.size)
  generalize hAe : va_A [(h_t, .inr (11, [.ref h_t_cloud, .ref h_t_reader, .ref h_t_hull, .ref h_t_near, .ref h_t_firstTie, .ref h_t_reducer, .ref h_t_chooser, .ref h_t_pair, .ref h_t_divider, .ref h_t_depths, .ref h_t_spot])), (h_t_cloud, .inr (0, [.ref h_t_cloud_x, .ref h_t_cloud_y, .ref h_t_cloud_colour, .ref h_t_cloud_load, .int t_cloud_size, .int t_cloud_centreX, .int t_cloud_centreY])), (h_t_cloud_x, .inl (cI, 24, .inl t_cloud_x)), (h_t_cloud_y, .inl (cI, 24, .inl t_cloud_y)), (h_t_hull, .inr (2, [.ref h_t_hull_chain, .ref h_t_hull_x, .ref h_t_hull_y, .ref h_t_hull_sorted, .int t_hull_size])), (h_t_hull_chain, .inl (cI, 48, .inl t_hull_chain)), (h_t_hull_x, .inl (cI, 48, .inl t_hull_x)), (h_t_hull_y, .inl (cI, 48, .inl t_hull_y)), (h_t_hull_sorted, .inl (cI, 24, .inl t_hull_sorted)), (h_t_near, .inr (4, [.long t_near_x, .long t_near_y, .long t_near_lower, .long t_near_square, .long t_near_squareLower, .int t_near_fromX, .int t_near_fromY]))] s.heap.size = A at hD ⊢
  have hA : ∀ q : Nat, s.heap.size ≤ q → A q := fun q h => by rw [← hAe]; exact Or.inr h
  clear hAe hD0
  have hl := lv_entry ([.ref h_t, .int a1, .int a2]) (n := 3) (Nat.le_of_ble_eq_true rfl)
  rw [lg_entry_eq]
  generalize (lg_sl ([.ref h_t, .int a1, .int a2]) ++ List.replicate (3 - (lg_sl ([.ref h_t, .int a1, .int a2])).length) Slot.unset).toArray = ls at hl ⊢
  have hl : lv_has ls 3 [(0, .ref h_t), (1, .int a1), (2, .int a2)] := hl
  have hF : 3 ≤ (headSpec [Cond.code yX11_nearest cX11_nearest 3 (some .long)] ({ frames := 3, cells := 0, slots := 0, locals := 88 })).room.frames := Nat.le_refl _
  have hLo : 88 ≤ (headSpec [Cond.code yX11_nearest cX11_nearest 3 (some .long)] ({ frames := 3, cells := 0, slots := 0, locals := 88 })).room.locals := Nat.le_refl _
  have C0 : Sx p (headSpec [Cond.code yX11_nearest cX11_nearest 3 (some .long)] ({ frames := 3, cells := 0, slots := 0, locals := 88 })).room s m ([.ref h_t, .int a1, .int a2] : List Value).toArray c cX11_nearest 3 RX11 A dC dI cI cL cB 3 88 := ⟨hx, hb, hml, hown, hts, hK, hT, hA, hF, hLo⟩
  refine startH (A := A) hP (fun H locs hP hS => ?_)
  rw [fX11_nearest] at hf
  refine lv_aload_n hx hb dX11_nearest_0 rfl (lv_at hl 0 rfl) ?_
  refine va_get (D := (dC, dI)) (ci := 11) (v := .ref h_t_cloud) (C := RX11) (T := TX11) (N := 11) hx hb hts in_X11 hown hK hP 0 rfl rfl 0 (Nat.le_of_ble_eq_true rfl) (hts _ qf_X11_12) (fun _ h9 => h9) rfl dX11_nearest_1 ?_
  refine lv_iload_n hx hb dX11_nearest_4 rfl (lv_at hl 1 rfl) ?_
  obtain ⟨r_1, hq_2, hf⟩ := b1_some hf
  refine xci (wr := [(h_t, .inr (11, [.ref h_t_cloud, .ref h_t_reader, .ref h_t_hull, .ref h_t_near, .ref h_t_firstTie, .ref h_t_reducer, .ref h_t_chooser, .ref h_t_pair, .ref h_t_divider, .ref h_t_depths, .ref h_t_spot])), (h_t_cloud_x, .inl (cI, 24, .inl t_cloud_x)), (h_t_cloud_y, .inl (cI, 24, .inl t_cloud_y)), (h_t_hull, .inr (2, [.ref h_t_hull_chain, .ref h_t_hull_x, .ref h_t_hull_y, .ref h_t_hull_sorted, .int t_hull_size])), (h_t_hull_chain, .inl (cI, 48, .inl t_hull_chain)), (h_t_hull_x, .inl (cI, 48, .inl t_hull_x)), (h_t_hull_y, .inl (cI, 48, .inl t_hull_y)), (h_t_hull_sorted, .inl (cI, 24, .inl t_hull_sorted)), (h_t_near, .inr (4, [.long t_near_x, .long t_near_y, .long t_near_lower, .long t_near_square, .long t_near_squareLower, .int t_near_fromX, .int t_near_fromY]))]) (w2 := [(h_t, .inr (11, [.ref h_t_cloud, .ref h_t_reader, .ref h_t_hull, .ref h_t_near, .ref h_t_firstTie, .ref h_t_reducer, .ref h_t_chooser, .ref h_t_pair, .ref h_t_divider, .ref h_t_depths, .ref h_t_spot])), (h_t_cloud, .inr (0, [.ref h_t_cloud_x, .ref h_t_cloud_y, .ref h_t_cloud_colour, .ref h_t_cloud_load, .int t_cloud_size, .int t_cloud_centreX, .int t_cloud_centreY])), (h_t_cloud_x, .inl (cI, 24, .inl t_cloud_x)), (h_t_cloud_y, .inl (cI, 24, .inl t_cloud_y)), (h_t_hull, .inr (2, [.ref h_t_hull_chain, .ref h_t_hull_x, .ref h_t_hull_y, .ref h_t_hull_sorted, .int t_hull_size])), (h_t_hull_chain, .inl (cI, 48, .inl t_hull_chain)), (h_t_hull_x, .inl (cI, 48, .inl t_hull_x)), (h_t_hull_y, .inl (cI, 48, .inl t_hull_y)), (h_t_hull_sorted, .inl (cI, 24, .inl t_hull_sorted)), (h_t_near, .inr (4, [.long t_near_x, .long t_near_y, .long t_near_lower, .long t_near_square, .long t_near_squareLower, .int t_near_fromX, .int t_near_fromY]))]) (va_runV (As := [.int a1]) (rest := []) ⟨hx, hb, hml, hown, hts⟩ (mtX0_hasSet l dC dI cI cL cB K h_t_cloud h_t_cloud_x h_t_cloud_y h_t_cloud_colour h_t_cloud_load H.size t_cloud_size t_cloud_centreX t_cloud_centreY a1 r_1 hq_2) (cwV 1 hts gv_X11_152 rfl rfl rfl hdV_X0_hasSet ⟨Nat.le_trans (Nat.le_of_ble_eq_true rfl) hF, Nat.le_trans (Nat.le_of_ble_eq_true rfl) hLo⟩) (cPreV hK hP hD hT [1] rfl rfl (ci := 0) (q0 := 0) rfl rfl) rfl rfl hl.1 rfl (lv_room (Nat.le_of_ble_eq_true rfl)) dX11_nearest_5 ⟨Nat.zero_le _, Nat.zero_le _⟩) hP hD hS hA [1] [0, 2, 3, 4, 5, 6, 7, 8, 9] [0, 9, 1, 2, 3, 4, 5, 6, 7, 8] rfl rfl rfl rfl rfl rfl (fun H locs hP hD hS => ?_)
  refine lv_if_ne (tgt := 15) hx hb dX11_nearest_8 (by decide) (fun hc => ?_) (fun hc => ?_)
  · replace hf := it_f (hc) hf
    refine lv_aload_n hx hb dX11_nearest_15 rfl (lv_at hl 0 rfl) ?_
    refine va_get (D := (dC, dI)) (ci := 11) (v := .ref h_t_hull) (C := RX11) (T := TX11) (N := 11) hx hb hts in_X11 hown hK hP 0 rfl rfl 2 (Nat.le_of_ble_eq_true rfl) (hts _ qf_X11_28) (fun _ h9 => h9) rfl dX11_nearest_16 ?_
    refine lv_aload_n hx hb dX11_nearest_19 rfl (lv_at hl 0 rfl) ?_
    refine va_get (D := (dC, dI)) (ci := 11) (v := .ref h_t_cloud) (C := RX11) (T := TX11) (N := 11) hx hb hts in_X11 hown hK hP 0 rfl rfl 0 (Nat.le_of_ble_eq_true rfl) (hts _ qf_X11_12) (fun _ h9 => h9) rfl dX11_nearest_20 ?_
    refine lv_iload_n hx hb dX11_nearest_23 rfl (lv_at hl 1 rfl) ?_
    obtain ⟨t_hull_size_3, t_hull_chain_4, t_hull_x_5, t_hull_y_6, t_hull_sorted_7, hq_8, hf⟩ := b5_some hf
    refine xcv (wr := [(h_t, .inr (11, [.ref h_t_cloud, .ref h_t_reader, .ref h_t_hull, .ref h_t_near, .ref h_t_firstTie, .ref h_t_reducer, .ref h_t_chooser, .ref h_t_pair, .ref h_t_divider, .ref h_t_depths, .ref h_t_spot])), (h_t_near, .inr (4, [.long t_near_x, .long t_near_y, .long t_near_lower, .long t_near_square, .long t_near_squareLower, .int t_near_fromX, .int t_near_fromY]))]) (w2 := [(h_t, .inr (11, [.ref h_t_cloud, .ref h_t_reader, .ref h_t_hull, .ref h_t_near, .ref h_t_firstTie, .ref h_t_reducer, .ref h_t_chooser, .ref h_t_pair, .ref h_t_divider, .ref h_t_depths, .ref h_t_spot])), (h_t_cloud, .inr (0, [.ref h_t_cloud_x, .ref h_t_cloud_y, .ref h_t_cloud_colour, .ref h_t_cloud_load, .int t_cloud_size, .int t_cloud_centreX, .int t_cloud_centreY])), (h_t_cloud_x, .inl (cI, 24, .inl t_cloud_x)), (h_t_cloud_y, .inl (cI, 24, .inl t_cloud_y)), (h_t_hull, .inr (2, [.ref h_t_hull_chain, .ref h_t_hull_x, .ref h_t_hull_y, .ref h_t_hull_sorted, .int t_hull_size_3])), (h_t_hull_chain, .inl (cI, 48, .inl t_hull_chain_4)), (h_t_hull_x, .inl (cI, 48, .inl t_hull_x_5)), (h_t_hull_y, .inl (cI, 48, .inl t_hull_y_6)), (h_t_hull_sorted, .inl (cI, 24, .inl t_hull_sorted_7)), (h_t_near, .inr (4, [.long t_near_x, .long t_near_y, .long t_near_lower, .long t_near_square, .long t_near_squareLower, .int t_near_fromX, .int t_near_fromY]))]) (va_runV (As := [.ref h_t_cloud, .int a1]) (rest := []) ⟨hx, hb, hml, hown, hts⟩ (mtX2_build l dC dI cI cL cB K h_t_hull h_t_hull_chain h_t_hull_x h_t_hull_y h_t_hull_sorted h_t_cloud h_t_cloud_x h_t_cloud_y h_t_cloud_colour h_t_cloud_load H.size t_hull_size t_hull_chain t_hull_x t_hull_y t_hull_sorted t_cloud_size t_cloud_centreX t_cloud_centreY t_cloud_x t_cloud_y a1 t_hull_size_3 t_hull_chain_4 t_hull_x_5 t_hull_y_6 t_hull_sorted_7 hq_8) (cwV 2 hts gv_X11_155 rfl rfl rfl hdV_X2_build ⟨Nat.le_trans (Nat.le_of_ble_eq_true rfl) hF, Nat.le_trans (Nat.le_of_ble_eq_true rfl) hLo⟩) (cPreV hK hP hD hT [4, 5, 6, 7, 8, 1, 2, 3] rfl rfl (ci := 2) (q0 := 0) rfl rfl) rfl rfl hl.1 rfl (lv_room (Nat.le_of_ble_eq_true rfl)) dX11_nearest_24 ⟨Nat.zero_le _, Nat.zero_le _⟩) hP hD hS hA [4, 5, 6, 7, 8, 1, 2, 3] [0, 9] [0, 7, 8, 9, 2, 3, 4, 5, 6, 1] rfl rfl rfl rfl rfl rfl (fun H locs hP hD hS => ?_)
    refine lv_aload_n hx hb dX11_nearest_27 rfl (lv_at hl 0 rfl) ?_
    refine va_get (D := (dC, dI)) (ci := 11) (v := .ref h_t_near) (C := RX11) (T := TX11) (N := 11) hx hb hts in_X11 hown hK hP 0 rfl rfl 3 (Nat.le_of_ble_eq_true rfl) (hts _ qf_X11_35) (fun _ h9 => h9) rfl dX11_nearest_28 ?_
    refine lv_aload_n hx hb dX11_nearest_31 rfl (lv_at hl 0 rfl) ?_
    refine va_get (D := (dC, dI)) (ci := 11) (v := .ref h_t_hull) (C := RX11) (T := TX11) (N := 11) hx hb hts in_X11 hown hK hP 0 rfl rfl 2 (Nat.le_of_ble_eq_true rfl) (hts _ qf_X11_28) (fun _ h9 => h9) rfl dX11_nearest_32 ?_
    refine lv_aload_n hx hb dX11_nearest_35 rfl (lv_at hl 0 rfl) ?_
    refine va_get (D := (dC, dI)) (ci := 11) (v := .ref h_t_cloud) (C := RX11) (T := TX11) (N := 11) hx hb hts in_X11 hown hK hP 0 rfl rfl 0 (Nat.le_of_ble_eq_true rfl) (hts _ qf_X11_12) (fun _ h9 => h9) rfl dX11_nearest_36 ?_
    refine va_get (D := (dC, dI)) (ci := 0) (v := .int t_cloud_centreX) (C := RX0) (T := TX0) (N := 7) hx hb hts in_X0 hown hK hP 1 rfl rfl 5 (Nat.le_of_ble_eq_true rfl) (hts _ qf_X11_146) (fun _ h9 => h9) rfl dX11_nearest_39 ?_
    refine lv_aload_n hx hb dX11_nearest_42 rfl (lv_at hl 0 rfl) ?_
    refine va_get (D := (dC, dI)) (ci := 11) (v := .ref h_t_cloud) (C := RX11) (T := TX11) (N := 11) hx hb hts in_X11 hown hK hP 0 rfl rfl 0 (Nat.le_of_ble_eq_true rfl) (hts _ qf_X11_12) (fun _ h9 => h9) rfl dX11_nearest_43 ?_
    refine va_get (D := (dC, dI)) (ci := 0) (v := .int t_cloud_centreY) (C := RX0) (T := TX0) (N := 7) hx hb hts in_X0 hown hK hP 1 rfl rfl 6 (Nat.le_of_ble_eq_true rfl) (hts _ qf_X11_149) (fun _ h9 => h9) rfl dX11_nearest_46 ?_
    obtain ⟨t_near_x_9, t_near_y_10, t_near_lower_11, t_near_square_12, t_near_squareLower_13, t_near_fromX_14, t_near_fromY_15, hq_16, hf⟩ := b7_some hf
    refine xcv (wr := [(h_t, .inr (11, [.ref h_t_cloud, .ref h_t_reader, .ref h_t_hull, .ref h_t_near, .ref h_t_firstTie, .ref h_t_reducer, .ref h_t_chooser, .ref h_t_pair, .ref h_t_divider, .ref h_t_depths, .ref h_t_spot])), (h_t_cloud, .inr (0, [.ref h_t_cloud_x, .ref h_t_cloud_y, .ref h_t_cloud_colour, .ref h_t_cloud_load, .int t_cloud_size, .int t_cloud_centreX, .int t_cloud_centreY])), (h_t_cloud_x, .inl (cI, 24, .inl t_cloud_x)), (h_t_cloud_y, .inl (cI, 24, .inl t_cloud_y)), (h_t_hull_chain, .inl (cI, 48, .inl t_hull_chain_4)), (h_t_hull_sorted, .inl (cI, 24, .inl t_hull_sorted_7))]) (w2 := [(h_t, .inr (11, [.ref h_t_cloud, .ref h_t_reader, .ref h_t_hull, .ref h_t_near, .ref h_t_firstTie, .ref h_t_reducer, .ref h_t_chooser, .ref h_t_pair, .ref h_t_divider, .ref h_t_depths, .ref h_t_spot])), (h_t_cloud, .inr (0, [.ref h_t_cloud_x, .ref h_t_cloud_y, .ref h_t_cloud_colour, .ref h_t_cloud_load, .int t_cloud_size, .int t_cloud_centreX, .int t_cloud_centreY])), (h_t_cloud_x, .inl (cI, 24, .inl t_cloud_x)), (h_t_cloud_y, .inl (cI, 24, .inl t_cloud_y)), (h_t_hull, .inr (2, [.ref h_t_hull_chain, .ref h_t_hull_x, .ref h_t_hull_y, .ref h_t_hull_sorted, .int t_hull_size_3])), (h_t_hull_chain, .inl (cI, 48, .inl t_hull_chain_4)), (h_t_hull_x, .inl (cI, 48, .inl t_hull_x_5)), (h_t_hull_y, .inl (cI, 48, .inl t_hull_y_6)), (h_t_hull_sorted, .inl (cI, 24, .inl t_hull_sorted_7)), (h_t_near, .inr (4, [.long t_near_x_9, .long t_near_y_10, .long t_near_lower_11, .long t_near_square_12, .long t_near_squareLower_13, .int t_near_fromX_14, .int t_near_fromY_15]))]) (va_runV (As := [.ref h_t_hull, .int t_cloud_centreX, .int t_cloud_centreY]) (rest := []) ⟨hx, hb, hml, hown, hts⟩ (mtX4_findOnHull l dC dI cI cL cB K h_t_near h_t_hull h_t_hull_chain h_t_hull_x h_t_hull_y h_t_hull_sorted H.size t_near_x t_near_y t_near_lower t_near_square t_near_squareLower t_near_fromX t_near_fromY t_hull_size_3 t_hull_x_5 t_hull_y_6 t_cloud_centreX t_cloud_centreY t_near_x_9 t_near_y_10 t_near_lower_11 t_near_square_12 t_near_squareLower_13 t_near_fromX_14 t_near_fromY_15 hq_16) (cwV 3 hts gv_X11_177 rfl rfl rfl hdV_X4_findOnHull ⟨Nat.le_trans (Nat.le_of_ble_eq_true rfl) hF, Nat.le_trans (Nat.le_of_ble_eq_true rfl) hLo⟩) (cPreV hK hP hD hT [9, 4, 6, 7] rfl rfl (ci := 4) (q0 := 0) rfl rfl) rfl rfl hl.1 rfl (lv_room (Nat.le_of_ble_eq_true rfl)) dX11_nearest_49 ⟨Nat.zero_le _, Nat.zero_le _⟩) hP hD hS hA [9, 4, 6, 7] [0, 1, 2, 3, 5, 8] [0, 1, 2, 3, 7, 4, 8, 9, 5, 6] rfl rfl rfl rfl rfl rfl (fun H locs hP hD hS => ?_)
    refine lv_aload_n hx hb dX11_nearest_52 rfl (lv_at hl 0 rfl) ?_
    refine va_get (D := (dC, dI)) (ci := 11) (v := .ref h_t_near) (C := RX11) (T := TX11) (N := 11) hx hb hts in_X11 hown hK hP 0 rfl rfl 3 (Nat.le_of_ble_eq_true rfl) (hts _ qf_X11_35) (fun _ h9 => h9) rfl dX11_nearest_53 ?_
    obtain ⟨t_near_x_17, t_near_y_18, t_near_lower_19, t_near_square_20, t_near_squareLower_21, hq_22, hf⟩ := b5_some hf
    refine xcv (wr := [(h_t, .inr (11, [.ref h_t_cloud, .ref h_t_reader, .ref h_t_hull, .ref h_t_near, .ref h_t_firstTie, .ref h_t_reducer, .ref h_t_chooser, .ref h_t_pair, .ref h_t_divider, .ref h_t_depths, .ref h_t_spot])), (h_t_cloud, .inr (0, [.ref h_t_cloud_x, .ref h_t_cloud_y, .ref h_t_cloud_colour, .ref h_t_cloud_load, .int t_cloud_size, .int t_cloud_centreX, .int t_cloud_centreY])), (h_t_cloud_x, .inl (cI, 24, .inl t_cloud_x)), (h_t_cloud_y, .inl (cI, 24, .inl t_cloud_y)), (h_t_hull, .inr (2, [.ref h_t_hull_chain, .ref h_t_hull_x, .ref h_t_hull_y, .ref h_t_hull_sorted, .int t_hull_size_3])), (h_t_hull_chain, .inl (cI, 48, .inl t_hull_chain_4)), (h_t_hull_x, .inl (cI, 48, .inl t_hull_x_5)), (h_t_hull_y, .inl (cI, 48, .inl t_hull_y_6)), (h_t_hull_sorted, .inl (cI, 24, .inl t_hull_sorted_7))]) (w2 := [(h_t, .inr (11, [.ref h_t_cloud, .ref h_t_reader, .ref h_t_hull, .ref h_t_near, .ref h_t_firstTie, .ref h_t_reducer, .ref h_t_chooser, .ref h_t_pair, .ref h_t_divider, .ref h_t_depths, .ref h_t_spot])), (h_t_cloud, .inr (0, [.ref h_t_cloud_x, .ref h_t_cloud_y, .ref h_t_cloud_colour, .ref h_t_cloud_load, .int t_cloud_size, .int t_cloud_centreX, .int t_cloud_centreY])), (h_t_cloud_x, .inl (cI, 24, .inl t_cloud_x)), (h_t_cloud_y, .inl (cI, 24, .inl t_cloud_y)), (h_t_hull, .inr (2, [.ref h_t_hull_chain, .ref h_t_hull_x, .ref h_t_hull_y, .ref h_t_hull_sorted, .int t_hull_size_3])), (h_t_hull_chain, .inl (cI, 48, .inl t_hull_chain_4)), (h_t_hull_x, .inl (cI, 48, .inl t_hull_x_5)), (h_t_hull_y, .inl (cI, 48, .inl t_hull_y_6)), (h_t_hull_sorted, .inl (cI, 24, .inl t_hull_sorted_7)), (h_t_near, .inr (4, [.long t_near_x_17, .long t_near_y_18, .long t_near_lower_19, .long t_near_square_20, .long t_near_squareLower_21, .int t_near_fromX_14, .int t_near_fromY_15]))]) (va_runV (As := []) (rest := []) ⟨hx, hb, hml, hown, hts⟩ (mtX4_bringToLowestTerms l dC dI cI cL cB K h_t_near H.size t_near_x_9 t_near_y_10 t_near_lower_11 t_near_square_12 t_near_squareLower_13 t_near_fromX_14 t_near_fromY_15 t_near_x_17 t_near_y_18 t_near_lower_19 t_near_square_20 t_near_squareLower_21 hq_22) (cwV 0 hts gv_X11_181 rfl rfl rfl hdV_X4_bringToLowestTerms ⟨Nat.le_trans (Nat.le_of_ble_eq_true rfl) hF, Nat.le_trans (Nat.le_of_ble_eq_true rfl) hLo⟩) (cPreV hK hP hD hT [9] rfl rfl (ci := 4) (q0 := 0) rfl rfl) rfl rfl hl.1 rfl (lv_room (Nat.le_of_ble_eq_true rfl)) dX11_nearest_56 ⟨Nat.zero_le _, Nat.zero_le _⟩) hP hD hS hA [9] [0, 1, 2, 3, 4, 5, 6, 7, 8] [0, 1, 2, 3, 4, 5, 6, 7, 8, 9] rfl rfl rfl rfl rfl rfl (fun H locs hP hD hS => ?_)
    refine lv_iload_n hx hb dX11_nearest_59 rfl (lv_at hl 2 rfl) ?_
    by_cases hk_23 : a2 = (0 : Int32)
    · replace hf := it_t hk_23 hf
      refine lv_tableIn (off := 36) (tgt := 96) hx hb dX11_nearest_60 (by rw [hk_23]; decide) (by rw [hk_23]; decide) (by rw [hk_23]; decide) (by decide) ?_
      refine lv_aload_n hx hb dX11_nearest_96 rfl (lv_at hl 0 rfl) ?_
      refine va_get (D := (dC, dI)) (ci := 11) (v := .ref h_t_near) (C := RX11) (T := TX11) (N := 11) hx hb hts in_X11 hown hK hP 0 rfl rfl 3 (Nat.le_of_ble_eq_true rfl) (hts _ qf_X11_35) (fun _ h9 => h9) rfl dX11_nearest_97 ?_
      refine va_get (D := (dC, dI)) (ci := 4) (v := .long t_near_x_17) (C := RX4) (T := TX4) (N := 7) hx hb hts in_X4 hown hK hP 9 rfl rfl 0 (Nat.le_of_ble_eq_true rfl) (hts _ qf_X11_184) (fun _ h9 => h9) rfl dX11_nearest_100 ?_
      obtain ⟨rfl, rfl, rfl, rfl, rfl, rfl, rfl, rfl, rfl, rfl, rfl, rfl, rfl⟩ := o13 hf
      exact W.lret hx hb hr (fun t ht hW => ⟨⟨_, (), rfl, rfl, by rw [ht]; exact hP, hD⟩, hS.F ht⟩) hS.2.2 dX11_nearest_103
    · replace hf := it_f hk_23 hf
      by_cases hk_24 : a2 = (1 : Int32)
      · replace hf := it_t hk_24 hf
        refine lv_tableIn (off := 44) (tgt := 104) hx hb dX11_nearest_60 (by rw [hk_24]; decide) (by rw [hk_24]; decide) (by rw [hk_24]; decide) (by decide) ?_
        refine lv_aload_n hx hb dX11_nearest_104 rfl (lv_at hl 0 rfl) ?_
        refine va_get (D := (dC, dI)) (ci := 11) (v := .ref h_t_near) (C := RX11) (T := TX11) (N := 11) hx hb hts in_X11 hown hK hP 0 rfl rfl 3 (Nat.le_of_ble_eq_true rfl) (hts _ qf_X11_35) (fun _ h9 => h9) rfl dX11_nearest_105 ?_
        refine va_get (D := (dC, dI)) (ci := 4) (v := .long t_near_y_18) (C := RX4) (T := TX4) (N := 7) hx hb hts in_X4 hown hK hP 9 rfl rfl 1 (Nat.le_of_ble_eq_true rfl) (hts _ qf_X11_187) (fun _ h9 => h9) rfl dX11_nearest_108 ?_
        obtain ⟨rfl, rfl, rfl, rfl, rfl, rfl, rfl, rfl, rfl, rfl, rfl, rfl, rfl⟩ := o13 hf
        exact W.lret hx hb hr (fun t ht hW => ⟨⟨_, (), rfl, rfl, by rw [ht]; exact hP, hD⟩, hS.F ht⟩) hS.2.2 dX11_nearest_111
      · replace hf := it_f hk_24 hf
        by_cases hk_25 : a2 = (2 : Int32)
        · replace hf := it_t hk_25 hf
          refine lv_tableIn (off := 52) (tgt := 112) hx hb dX11_nearest_60 (by rw [hk_25]; decide) (by rw [hk_25]; decide) (by rw [hk_25]; decide) (by decide) ?_
          refine lv_aload_n hx hb dX11_nearest_112 rfl (lv_at hl 0 rfl) ?_
          refine va_get (D := (dC, dI)) (ci := 11) (v := .ref h_t_near) (C := RX11) (T := TX11) (N := 11) hx hb hts in_X11 hown hK hP 0 rfl rfl 3 (Nat.le_of_ble_eq_true rfl) (hts _ qf_X11_35) (fun _ h9 => h9) rfl dX11_nearest_113 ?_
          refine va_get (D := (dC, dI)) (ci := 4) (v := .long t_near_lower_19) (C := RX4) (T := TX4) (N := 7) hx hb hts in_X4 hown hK hP 9 rfl rfl 2 (Nat.le_of_ble_eq_true rfl) (hts _ qf_X11_189) (fun _ h9 => h9) rfl dX11_nearest_116 ?_
          obtain ⟨rfl, rfl, rfl, rfl, rfl, rfl, rfl, rfl, rfl, rfl, rfl, rfl, rfl⟩ := o13 hf
          exact W.lret hx hb hr (fun t ht hW => ⟨⟨_, (), rfl, rfl, by rw [ht]; exact hP, hD⟩, hS.F ht⟩) hS.2.2 dX11_nearest_119
        · replace hf := it_f hk_25 hf
          by_cases hk_26 : a2 = (3 : Int32)
          · replace hf := it_t hk_26 hf
            refine lv_tableIn (off := 60) (tgt := 120) hx hb dX11_nearest_60 (by rw [hk_26]; decide) (by rw [hk_26]; decide) (by rw [hk_26]; decide) (by decide) ?_
            refine lv_aload_n hx hb dX11_nearest_120 rfl (lv_at hl 0 rfl) ?_
            refine va_get (D := (dC, dI)) (ci := 11) (v := .ref h_t_near) (C := RX11) (T := TX11) (N := 11) hx hb hts in_X11 hown hK hP 0 rfl rfl 3 (Nat.le_of_ble_eq_true rfl) (hts _ qf_X11_35) (fun _ h9 => h9) rfl dX11_nearest_121 ?_
            refine va_get (D := (dC, dI)) (ci := 4) (v := .long t_near_square_20) (C := RX4) (T := TX4) (N := 7) hx hb hts in_X4 hown hK hP 9 rfl rfl 3 (Nat.le_of_ble_eq_true rfl) (hts _ qf_X11_192) (fun _ h9 => h9) rfl dX11_nearest_124 ?_
            obtain ⟨rfl, rfl, rfl, rfl, rfl, rfl, rfl, rfl, rfl, rfl, rfl, rfl, rfl⟩ := o13 hf
            exact W.lret hx hb hr (fun t ht hW => ⟨⟨_, (), rfl, rfl, by rw [ht]; exact hP, hD⟩, hS.F ht⟩) hS.2.2 dX11_nearest_127
          · replace hf := it_f hk_26 hf
            by_cases hk_27 : a2 = (4 : Int32)
            · replace hf := it_t hk_27 hf
              refine lv_tableIn (off := 68) (tgt := 128) hx hb dX11_nearest_60 (by rw [hk_27]; decide) (by rw [hk_27]; decide) (by rw [hk_27]; decide) (by decide) ?_
              refine lv_aload_n hx hb dX11_nearest_128 rfl (lv_at hl 0 rfl) ?_
              refine va_get (D := (dC, dI)) (ci := 11) (v := .ref h_t_near) (C := RX11) (T := TX11) (N := 11) hx hb hts in_X11 hown hK hP 0 rfl rfl 3 (Nat.le_of_ble_eq_true rfl) (hts _ qf_X11_35) (fun _ h9 => h9) rfl dX11_nearest_129 ?_
              refine va_get (D := (dC, dI)) (ci := 4) (v := .long t_near_squareLower_21) (C := RX4) (T := TX4) (N := 7) hx hb hts in_X4 hown hK hP 9 rfl rfl 4 (Nat.le_of_ble_eq_true rfl) (hts _ qf_X11_195) (fun _ h9 => h9) rfl dX11_nearest_132 ?_
              obtain ⟨rfl, rfl, rfl, rfl, rfl, rfl, rfl, rfl, rfl, rfl, rfl, rfl, rfl⟩ := o13 hf
              exact W.lret hx hb hr (fun t ht hW => ⟨⟨_, (), rfl, rfl, by rw [ht]; exact hP, hD⟩, hS.F ht⟩) hS.2.2 dX11_nearest_135
            · replace hf := it_f hk_27 hf
              have z0 := lv_neT (a := 0) hk_23 (by decide)
              have z1 := lv_neT (a := 1) hk_24 (by decide)
              have z2 := lv_neT (a := 2) hk_25 (by decide)
              have z3 := lv_neT (a := 3) hk_26 (by decide)
              have z4 := lv_neT (a := 4) hk_27 (by decide)
              refine lv_tableOut (tgt := 136) hx hb dX11_nearest_60 (by omega) (by decide) ?_
              refine lv_ldc2 (v := (-9223372036854775808 : Int64)) hx hb hown (hts _ qj_X11_131) dX11_nearest_136 ?_
              obtain ⟨rfl, rfl, rfl, rfl, rfl, rfl, rfl, rfl, rfl, rfl, rfl, rfl, rfl⟩ := o13 hf
              exact W.lret hx hb hr (fun t ht hW => ⟨⟨_, (), rfl, rfl, by rw [ht]; exact hP, hD⟩, hS.F ht⟩) hS.2.2 dX11_nearest_139
  · replace hf := it_t (hc) hf
    refine lv_ldc2 (v := (-9223372036854775808 : Int64)) hx hb hown (hts _ qj_X11_131) dX11_nearest_11 ?_
    obtain ⟨rfl, rfl, rfl, rfl, rfl, rfl, rfl, rfl, rfl, rfl, rfl, rfl, rfl⟩ := o13 hf
    exact W.lret hx hb hr (fun t ht hW => ⟨⟨_, (), rfl, rfl, by rw [ht]; exact hP, hD⟩, hS.F ht⟩) hS.2.2 dX11_nearest_14
theorem dX4_wayX_0 : decode cX4_wayX 0 = .ok (.aload_n 0, 1) := by decide +kernel
theorem dX4_wayX_1 : decode cX4_wayX 1 = .ok (.getfield 54, 3) := by decide +kernel
theorem dX4_wayX_4 : decode cX4_wayX 4 = .ok (.aload_n 0, 1) := by decide +kernel
theorem dX4_wayX_5 : decode cX4_wayX 5 = .ok (.getfield 16, 3) := by decide +kernel
theorem dX4_wayX_8 : decode cX4_wayX 8 = .ok (.i2l, 1) := by decide +kernel
theorem dX4_wayX_9 : decode cX4_wayX 9 = .ok (.aload_n 0, 1) := by decide +kernel
theorem dX4_wayX_10 : decode cX4_wayX 10 = .ok (.getfield 7, 3) := by decide +kernel
theorem dX4_wayX_13 : decode cX4_wayX 13 = .ok (.lmul, 1) := by decide +kernel
theorem dX4_wayX_14 : decode cX4_wayX 14 = .ok (.lsub, 1) := by decide +kernel
theorem dX4_wayX_15 : decode cX4_wayX 15 = .ok (.lreturn, 1) := by decide +kernel
set_option maxRecDepth 100000 in
set_option maxHeartbeats 4000000 in
theorem mtX4_wayX (l : Launch) (dC : Nat → ClassId) (dI : Nat → Nat → Nat) (cI cL cB : ClassId) (K : Nat) (h_t : Nat) (sz : Nat) (t_x : Int64) (t_y : Int64) (t_lower : Int64) (t_square : Int64) (t_squareLower : Int64) (t_fromX : Int32) (t_fromY : Int32) (o_r : Int64) (hf : fX4_wayX K t_x t_lower t_fromX = some o_r) : Met l yX4_wayX [Cond.code yX4_wayX cX4_wayX 1 (some .long)] ({ frames := 0, cells := 0, slots := 0, locals := 0 }) (va_Pc [.ref h_t] (cPre dC dI cI cL cB sz [(h_t, .inr (4, [.long t_x, .long t_y, .long t_lower, .long t_square, .long t_squareLower, .int t_fromX, .int t_fromY]))])) (cQl dC dI (va_A [(h_t, .inr (4, [.long t_x, .long t_y, .long t_lower, .long t_square, .long t_squareLower, .int t_fromX, .int t_fromY]))] sz) o_r [(h_t, .inr (4, [.long t_x, .long t_y, .long t_lower, .long t_square, .long t_squareLower, .int t_fromX, .int t_fromY]))]) 0 0 (va_A [(h_t, .inr (4, [.long t_x, .long t_y, .long t_lower, .long t_square, .long t_squareLower, .int t_fromX, .int t_fromY]))] sz) := by
  refine Met.ofW (cc := cX4_wayX) (maxL := 1) (ret := (some .long)) (by decide) rfl ?_
  intro p e s m args below meth c s₁ B hml hv
  obtain ⟨rfl, hsz, hP, hK, hD0, hT⟩ := hv
  have hx := B.exec
  have hb := B.bytes
  have hr := B.returns
  have hown : s.vm.findClass RX4 = some m.cls := findClass_of_methodNamed B.named
  have hlocks := B.notSynchronized
  have hts := TB.use hT ([.ref h_t] : List Value).toArray
  subst hsz
  have hD := hD0.self (sz := s.heap.size)
  generalize hAe : va_A [(h_t, .inr (4, [.long t_x, .long t_y, .long t_lower, .long t_square, .long t_squareLower, .int t_fromX, .int t_fromY]))] s.heap.size = A at hD ⊢
  have hA : ∀ q : Nat, s.heap.size ≤ q → A q := fun q h => by rw [← hAe]; exact Or.inr h
  clear hAe hD0
  have hl := lv_entry ([.ref h_t]) (n := 1) (Nat.le_of_ble_eq_true rfl)
  rw [lg_entry_eq]
  generalize (lg_sl ([.ref h_t]) ++ List.replicate (1 - (lg_sl ([.ref h_t])).length) Slot.unset).toArray = ls at hl ⊢
  have hl : lv_has ls 1 [(0, .ref h_t)] := hl
  have hF : 0 ≤ (headSpec [Cond.code yX4_wayX cX4_wayX 1 (some .long)] ({ frames := 0, cells := 0, slots := 0, locals := 0 })).room.frames := Nat.le_refl _
  have hLo : 0 ≤ (headSpec [Cond.code yX4_wayX cX4_wayX 1 (some .long)] ({ frames := 0, cells := 0, slots := 0, locals := 0 })).room.locals := Nat.le_refl _
  have C0 : Sx p (headSpec [Cond.code yX4_wayX cX4_wayX 1 (some .long)] ({ frames := 0, cells := 0, slots := 0, locals := 0 })).room s m ([.ref h_t] : List Value).toArray c cX4_wayX 1 RX4 A dC dI cI cL cB 0 0 := ⟨hx, hb, hml, hown, hts, hK, hT, hA, hF, hLo⟩
  refine startH (A := A) hP (fun H locs hP hS => ?_)
  rw [fX4_wayX] at hf
  refine lv_aload_n hx hb dX4_wayX_0 rfl (lv_at hl 0 rfl) ?_
  refine va_get (D := (dC, dI)) (ci := 4) (v := .long t_x) (C := RX4) (T := TX4) (N := 7) hx hb hts in_X4 hown hK hP 0 rfl rfl 0 (Nat.le_of_ble_eq_true rfl) (hts _ qf_X4_54) (fun _ h9 => h9) rfl dX4_wayX_1 ?_
  refine lv_aload_n hx hb dX4_wayX_4 rfl (lv_at hl 0 rfl) ?_
  refine va_get (D := (dC, dI)) (ci := 4) (v := .int t_fromX) (C := RX4) (T := TX4) (N := 7) hx hb hts in_X4 hown hK hP 0 rfl rfl 5 (Nat.le_of_ble_eq_true rfl) (hts _ qf_X4_16) (fun _ h9 => h9) rfl dX4_wayX_5 ?_
  refine lv_i2l hx hb dX4_wayX_8 rfl ?_
  refine lv_aload_n hx hb dX4_wayX_9 rfl (lv_at hl 0 rfl) ?_
  refine va_get (D := (dC, dI)) (ci := 4) (v := .long t_lower) (C := RX4) (T := TX4) (N := 7) hx hb hts in_X4 hown hK hP 0 rfl rfl 2 (Nat.le_of_ble_eq_true rfl) (hts _ qf_X4_7) (fun _ h9 => h9) rfl dX4_wayX_10 ?_
  refine lv_lmul hx hb dX4_wayX_13 ?_
  refine lv_lsub hx hb dX4_wayX_14 ?_
  obtain rfl := o1 hf
  exact W.lret hx hb hr (fun t ht hW => ⟨⟨_, (), rfl, rfl, by rw [ht]; exact hP, hD⟩, hS.F ht⟩) hS.2.2 dX4_wayX_15
theorem dX4_wayY_0 : decode cX4_wayY 0 = .ok (.aload_n 0, 1) := by decide +kernel
theorem dX4_wayY_1 : decode cX4_wayY 1 = .ok (.getfield 56, 3) := by decide +kernel
theorem dX4_wayY_4 : decode cX4_wayY 4 = .ok (.aload_n 0, 1) := by decide +kernel
theorem dX4_wayY_5 : decode cX4_wayY 5 = .ok (.getfield 20, 3) := by decide +kernel
theorem dX4_wayY_8 : decode cX4_wayY 8 = .ok (.i2l, 1) := by decide +kernel
theorem dX4_wayY_9 : decode cX4_wayY 9 = .ok (.aload_n 0, 1) := by decide +kernel
theorem dX4_wayY_10 : decode cX4_wayY 10 = .ok (.getfield 7, 3) := by decide +kernel
theorem dX4_wayY_13 : decode cX4_wayY 13 = .ok (.lmul, 1) := by decide +kernel
theorem dX4_wayY_14 : decode cX4_wayY 14 = .ok (.lsub, 1) := by decide +kernel
theorem dX4_wayY_15 : decode cX4_wayY 15 = .ok (.lreturn, 1) := by decide +kernel
set_option maxRecDepth 100000 in
set_option maxHeartbeats 4000000 in
theorem mtX4_wayY (l : Launch) (dC : Nat → ClassId) (dI : Nat → Nat → Nat) (cI cL cB : ClassId) (K : Nat) (h_t : Nat) (sz : Nat) (t_x : Int64) (t_y : Int64) (t_lower : Int64) (t_square : Int64) (t_squareLower : Int64) (t_fromX : Int32) (t_fromY : Int32) (o_r : Int64) (hf : fX4_wayY K t_y t_lower t_fromY = some o_r) : Met l yX4_wayY [Cond.code yX4_wayY cX4_wayY 1 (some .long)] ({ frames := 0, cells := 0, slots := 0, locals := 0 }) (va_Pc [.ref h_t] (cPre dC dI cI cL cB sz [(h_t, .inr (4, [.long t_x, .long t_y, .long t_lower, .long t_square, .long t_squareLower, .int t_fromX, .int t_fromY]))])) (cQl dC dI (va_A [(h_t, .inr (4, [.long t_x, .long t_y, .long t_lower, .long t_square, .long t_squareLower, .int t_fromX, .int t_fromY]))] sz) o_r [(h_t, .inr (4, [.long t_x, .long t_y, .long t_lower, .long t_square, .long t_squareLower, .int t_fromX, .int t_fromY]))]) 0 0 (va_A [(h_t, .inr (4, [.long t_x, .long t_y, .long t_lower, .long t_square, .long t_squareLower, .int t_fromX, .int t_fromY]))] sz) := by
  refine Met.ofW (cc := cX4_wayY) (maxL := 1) (ret := (some .long)) (by decide) rfl ?_
  intro p e s m args below meth c s₁ B hml hv
  obtain ⟨rfl, hsz, hP, hK, hD0, hT⟩ := hv
  have hx := B.exec
  have hb := B.bytes
  have hr := B.returns
  have hown : s.vm.findClass RX4 = some m.cls := findClass_of_methodNamed B.named
  have hlocks := B.notSynchronized
  have hts := TB.use hT ([.ref h_t] : List Value).toArray
  subst hsz
  have hD := hD0.self (sz := s.heap.size)
  generalize hAe : va_A [(h_t, .inr (4, [.long t_x, .long t_y, .long t_lower, .long t_square, .long t_squareLower, .int t_fromX, .int t_fromY]))] s.heap.size = A at hD ⊢
  have hA : ∀ q : Nat, s.heap.size ≤ q → A q := fun q h => by rw [← hAe]; exact Or.inr h
  clear hAe hD0
  have hl := lv_entry ([.ref h_t]) (n := 1) (Nat.le_of_ble_eq_true rfl)
  rw [lg_entry_eq]
  generalize (lg_sl ([.ref h_t]) ++ List.replicate (1 - (lg_sl ([.ref h_t])).length) Slot.unset).toArray = ls at hl ⊢
  have hl : lv_has ls 1 [(0, .ref h_t)] := hl
  have hF : 0 ≤ (headSpec [Cond.code yX4_wayY cX4_wayY 1 (some .long)] ({ frames := 0, cells := 0, slots := 0, locals := 0 })).room.frames := Nat.le_refl _
  have hLo : 0 ≤ (headSpec [Cond.code yX4_wayY cX4_wayY 1 (some .long)] ({ frames := 0, cells := 0, slots := 0, locals := 0 })).room.locals := Nat.le_refl _
  have C0 : Sx p (headSpec [Cond.code yX4_wayY cX4_wayY 1 (some .long)] ({ frames := 0, cells := 0, slots := 0, locals := 0 })).room s m ([.ref h_t] : List Value).toArray c cX4_wayY 1 RX4 A dC dI cI cL cB 0 0 := ⟨hx, hb, hml, hown, hts, hK, hT, hA, hF, hLo⟩
  refine startH (A := A) hP (fun H locs hP hS => ?_)
  rw [fX4_wayY] at hf
  refine lv_aload_n hx hb dX4_wayY_0 rfl (lv_at hl 0 rfl) ?_
  refine va_get (D := (dC, dI)) (ci := 4) (v := .long t_y) (C := RX4) (T := TX4) (N := 7) hx hb hts in_X4 hown hK hP 0 rfl rfl 1 (Nat.le_of_ble_eq_true rfl) (hts _ qf_X4_56) (fun _ h9 => h9) rfl dX4_wayY_1 ?_
  refine lv_aload_n hx hb dX4_wayY_4 rfl (lv_at hl 0 rfl) ?_
  refine va_get (D := (dC, dI)) (ci := 4) (v := .int t_fromY) (C := RX4) (T := TX4) (N := 7) hx hb hts in_X4 hown hK hP 0 rfl rfl 6 (Nat.le_of_ble_eq_true rfl) (hts _ qf_X4_20) (fun _ h9 => h9) rfl dX4_wayY_5 ?_
  refine lv_i2l hx hb dX4_wayY_8 rfl ?_
  refine lv_aload_n hx hb dX4_wayY_9 rfl (lv_at hl 0 rfl) ?_
  refine va_get (D := (dC, dI)) (ci := 4) (v := .long t_lower) (C := RX4) (T := TX4) (N := 7) hx hb hts in_X4 hown hK hP 0 rfl rfl 2 (Nat.le_of_ble_eq_true rfl) (hts _ qf_X4_7) (fun _ h9 => h9) rfl dX4_wayY_10 ?_
  refine lv_lmul hx hb dX4_wayY_13 ?_
  refine lv_lsub hx hb dX4_wayY_14 ?_
  obtain rfl := o1 hf
  exact W.lret hx hb hr (fun t ht hW => ⟨⟨_, (), rfl, rfl, by rw [ht]; exact hP, hD⟩, hS.F ht⟩) hS.2.2 dX4_wayY_15
theorem dX2_leastAlong_0 : decode cX2_leastAlong 0 = .ok (.lload_n 1, 1) := by decide +kernel
theorem dX2_leastAlong_1 : decode cX2_leastAlong 1 = .ok (.aload_n 0, 1) := by decide +kernel
theorem dX2_leastAlong_2 : decode cX2_leastAlong 2 = .ok (.getfield 15, 3) := by decide +kernel
theorem dX2_leastAlong_5 : decode cX2_leastAlong 5 = .ok (.iconst 0, 1) := by decide +kernel
theorem dX2_leastAlong_6 : decode cX2_leastAlong 6 = .ok (.iaload, 1) := by decide +kernel
theorem dX2_leastAlong_7 : decode cX2_leastAlong 7 = .ok (.i2l, 1) := by decide +kernel
theorem dX2_leastAlong_8 : decode cX2_leastAlong 8 = .ok (.lmul, 1) := by decide +kernel
theorem dX2_leastAlong_9 : decode cX2_leastAlong 9 = .ok (.lload_n 3, 1) := by decide +kernel
theorem dX2_leastAlong_10 : decode cX2_leastAlong 10 = .ok (.aload_n 0, 1) := by decide +kernel
theorem dX2_leastAlong_11 : decode cX2_leastAlong 11 = .ok (.getfield 18, 3) := by decide +kernel
theorem dX2_leastAlong_14 : decode cX2_leastAlong 14 = .ok (.iconst 0, 1) := by decide +kernel
theorem dX2_leastAlong_15 : decode cX2_leastAlong 15 = .ok (.iaload, 1) := by decide +kernel
theorem dX2_leastAlong_16 : decode cX2_leastAlong 16 = .ok (.i2l, 1) := by decide +kernel
theorem dX2_leastAlong_17 : decode cX2_leastAlong 17 = .ok (.lmul, 1) := by decide +kernel
theorem dX2_leastAlong_18 : decode cX2_leastAlong 18 = .ok (.ladd, 1) := by decide +kernel
theorem dX2_leastAlong_19 : decode cX2_leastAlong 19 = .ok (.lstore 5, 2) := by decide +kernel
theorem dX2_leastAlong_21 : decode cX2_leastAlong 21 = .ok (.iconst 1, 1) := by decide +kernel
theorem dX2_leastAlong_22 : decode cX2_leastAlong 22 = .ok (.istore 7, 2) := by decide +kernel
theorem dX2_leastAlong_24 : decode cX2_leastAlong 24 = .ok (.iload 7, 2) := by decide +kernel
theorem dX2_leastAlong_26 : decode cX2_leastAlong 26 = .ok (.aload_n 0, 1) := by decide +kernel
theorem dX2_leastAlong_27 : decode cX2_leastAlong 27 = .ok (.getfield 38, 3) := by decide +kernel
theorem dX2_leastAlong_30 : decode cX2_leastAlong 30 = .ok (.if_icmp .ge 37, 3) := by decide +kernel
theorem dX2_leastAlong_33 : decode cX2_leastAlong 33 = .ok (.lload 5, 2) := by decide +kernel
theorem dX2_leastAlong_35 : decode cX2_leastAlong 35 = .ok (.lload_n 1, 1) := by decide +kernel
theorem dX2_leastAlong_36 : decode cX2_leastAlong 36 = .ok (.aload_n 0, 1) := by decide +kernel
theorem dX2_leastAlong_37 : decode cX2_leastAlong 37 = .ok (.getfield 15, 3) := by decide +kernel
theorem dX2_leastAlong_40 : decode cX2_leastAlong 40 = .ok (.iload 7, 2) := by decide +kernel
theorem dX2_leastAlong_42 : decode cX2_leastAlong 42 = .ok (.iaload, 1) := by decide +kernel
theorem dX2_leastAlong_43 : decode cX2_leastAlong 43 = .ok (.i2l, 1) := by decide +kernel
theorem dX2_leastAlong_44 : decode cX2_leastAlong 44 = .ok (.lmul, 1) := by decide +kernel
theorem dX2_leastAlong_45 : decode cX2_leastAlong 45 = .ok (.lload_n 3, 1) := by decide +kernel
theorem dX2_leastAlong_46 : decode cX2_leastAlong 46 = .ok (.aload_n 0, 1) := by decide +kernel
theorem dX2_leastAlong_47 : decode cX2_leastAlong 47 = .ok (.getfield 18, 3) := by decide +kernel
theorem dX2_leastAlong_50 : decode cX2_leastAlong 50 = .ok (.iload 7, 2) := by decide +kernel
theorem dX2_leastAlong_52 : decode cX2_leastAlong 52 = .ok (.iaload, 1) := by decide +kernel
theorem dX2_leastAlong_53 : decode cX2_leastAlong 53 = .ok (.i2l, 1) := by decide +kernel
theorem dX2_leastAlong_54 : decode cX2_leastAlong 54 = .ok (.lmul, 1) := by decide +kernel
theorem dX2_leastAlong_55 : decode cX2_leastAlong 55 = .ok (.ladd, 1) := by decide +kernel
theorem dX2_leastAlong_56 : decode cX2_leastAlong 56 = .ok (.invokestatic 64, 3) := by decide +kernel
theorem dX2_leastAlong_59 : decode cX2_leastAlong 59 = .ok (.lstore 5, 2) := by decide +kernel
theorem dX2_leastAlong_61 : decode cX2_leastAlong 61 = .ok (.iinc 7 1, 3) := by decide +kernel
theorem dX2_leastAlong_64 : decode cX2_leastAlong 64 = .ok (.goto (-40), 3) := by decide +kernel
theorem dX2_leastAlong_67 : decode cX2_leastAlong 67 = .ok (.lload 5, 2) := by decide +kernel
theorem dX2_leastAlong_69 : decode cX2_leastAlong 69 = .ok (.lreturn, 1) := by decide +kernel
set_option maxRecDepth 100000 in
set_option maxHeartbeats 4000000 in
theorem wX2_leastAlong_L24 {p : Program} {l : Launch} {e : Env} {R : Room} {s : State} {m : MethodId} {args : Array Value} {below : List Frame} {meth : Method} {c : Code} {Q : State → Prop} {A : Nat → Prop} {dC : Nat → ClassId} {dI : Nat → Nat → Nat} {cI cL cB : ClassId} {K : Nat} (C0 : Sx p R s m args c cX2_leastAlong 8 RX2 A dC dI cI cL cB 1 15) (h_t h_t_chain h_t_x h_t_y h_t_sorted : Nat) (t_size : Int32) (t_x : Nat → Int32) (t_y : Nat → Int32) (l1 : Int64) (l3 : Int64) : ∀ (n : Nat) (l5 : Int64) (l7 : Int32) (x5_ : Int64) (H : Heap) (locs : List Loc) (ls : Array Slot), va_P (dC, dI) vwCl [(h_t, .inr (2, [.ref h_t_chain, .ref h_t_x, .ref h_t_y, .ref h_t_sorted, .int t_size])), (h_t_x, .inl (cI, 48, .inl t_x)), (h_t_y, .inl (cI, 48, .inl t_y))] H → va_D A [(h_t, .inr (2, [.ref h_t_chain, .ref h_t_x, .ref h_t_y, .ref h_t_sorted, .int t_size])), (h_t_x, .inl (cI, 48, .inl t_x)), (h_t_y, .inl (cI, 48, .inl t_y))] → va_S A s.heap H locs → lv_has ls 8 [(0, .ref h_t), (1, .long l1), (3, .long l3), (5, .long l5), (7, .int l7)] → fX2_leastAlong_L24 K l1 l3 t_size t_x t_y n l5 l7 = some x5_ → (∀ (H : Heap) (locs : List Loc) (ls : Array Slot), va_P (dC, dI) vwCl [(h_t, .inr (2, [.ref h_t_chain, .ref h_t_x, .ref h_t_y, .ref h_t_sorted, .int t_size])), (h_t_x, .inl (cI, 48, .inl t_x)), (h_t_y, .inl (cI, 48, .inl t_y))] H → va_D A [(h_t, .inr (2, [.ref h_t_chain, .ref h_t_x, .ref h_t_y, .ref h_t_sorted, .int t_size])), (h_t_x, .inl (cI, 48, .inl t_x)), (h_t_y, .inl (cI, 48, .inl t_y))] → va_S A s.heap H locs → lv_has ls 8 [(5, .long x5_)] → W p l e R s m args below meth c H locs 0 0 Q (F0 m 67 ls [])) → W p l e R s m args below meth c H locs 0 0 Q (F0 m 24 ls []) := by
  obtain ⟨hx, hb, hml, hown, hts, hK, hT, hA, hF, hLo⟩ := id C0
  intro n
  induction n with
  | zero =>
    intro l5 l7 x5_ H locs ls hP hD hS hl hf
    rw [fX2_leastAlong_L24] at hf
    cases hf
  | succ n ih =>
    intro l5 l7 x5_ H locs ls hP hD hS hl hf hk
    rw [fX2_leastAlong_L24] at hf
    refine lv_iload hx hb dX2_leastAlong_24 (lv_at hl 4 rfl) ?_
    refine lv_aload_n hx hb dX2_leastAlong_26 rfl (lv_at hl 0 rfl) ?_
    refine va_get (D := (dC, dI)) (ci := 2) (v := .int t_size) (C := RX2) (T := TX2) (N := 5) hx hb hts in_X2 hown hK hP 0 rfl rfl 4 (Nat.le_of_ble_eq_true rfl) (hts _ qf_X2_38) (fun _ h9 => h9) rfl dX2_leastAlong_27 ?_
    refine lv_icmp_ge (tgt := 67) hx hb dX2_leastAlong_30 (by decide) (fun hc => ?_) (fun hc => ?_)
    · replace hf := it_t (hc) hf
      obtain rfl := o1 hf
      exact hk H locs ls hP hD hS (lv_sub hl [3] rfl)
    · replace hf := it_f (hc) hf
      refine lv_lload hx hb dX2_leastAlong_33 (lv_at hl 3 rfl) ?_
      refine lv_lload_n hx hb dX2_leastAlong_35 rfl (lv_at hl 1 rfl) ?_
      refine lv_aload_n hx hb dX2_leastAlong_36 rfl (lv_at hl 0 rfl) ?_
      refine va_get (D := (dC, dI)) (ci := 2) (v := .ref h_t_x) (C := RX2) (T := TX2) (N := 5) hx hb hts in_X2 hown hK hP 0 rfl rfl 1 (Nat.le_of_ble_eq_true rfl) (hts _ qf_X2_15) (fun _ h9 => h9) rfl dX2_leastAlong_37 ?_
      refine lv_iload hx hb dX2_leastAlong_40 (lv_at hl 4 rfl) ?_
      obtain ⟨hg_2, hf⟩ := gd_some hf
      refine va_iald hx hb hK hP 1 0 rfl rfl (inb_in hg_2) dX2_leastAlong_42 ?_
      refine lv_i2l hx hb dX2_leastAlong_43 rfl ?_
      refine lv_lmul hx hb dX2_leastAlong_44 ?_
      refine lv_lload_n hx hb dX2_leastAlong_45 rfl (lv_at hl 2 rfl) ?_
      refine lv_aload_n hx hb dX2_leastAlong_46 rfl (lv_at hl 0 rfl) ?_
      refine va_get (D := (dC, dI)) (ci := 2) (v := .ref h_t_y) (C := RX2) (T := TX2) (N := 5) hx hb hts in_X2 hown hK hP 0 rfl rfl 2 (Nat.le_of_ble_eq_true rfl) (hts _ qf_X2_18) (fun _ h9 => h9) rfl dX2_leastAlong_47 ?_
      refine lv_iload hx hb dX2_leastAlong_50 (lv_at hl 4 rfl) ?_
      obtain ⟨hg_3, hf⟩ := gd_some hf
      refine va_iald hx hb hK hP 2 0 rfl rfl (inb_in hg_3) dX2_leastAlong_52 ?_
      refine lv_i2l hx hb dX2_leastAlong_53 rfl ?_
      refine lv_lmul hx hb dX2_leastAlong_54 ?_
      refine lv_ladd hx hb dX2_leastAlong_55 ?_
      refine va_mmin_long hx hb (hml.trans hl.1.symm) hown (hts _ qm_X2_64) (hts _ qt_Lib_MathLoose_min_long) (hts _ qz_Math) (hts _ qc_Lib_MathLoose_min_long) (Nat.le_trans (Nat.le_of_ble_eq_true rfl) hF) (Nat.le_trans (Nat.le_of_ble_eq_true rfl) hLo) (Nat.zero_le _) (Nat.zero_le _) dX2_leastAlong_56 ?_
      refine lv_topl (fun v_4 ev_4 => ?_)
      replace hf := xl_at hf ev_4
      refine lv_lstore (lv' := [(5, .long v_4), (0, .ref h_t), (1, .long l1), (3, .long l3), (7, .int l7)]) hx hb dX2_leastAlong_59 hl (Nat.le_of_ble_eq_true rfl) rfl (fun ls hl => ?_)
      obtain ⟨l7_5, el7_5⟩ : ∃ y : Int32, y = l7 + (1 : Int32) := ⟨_, rfl⟩
      replace hf := xl_at hf el7_5
      refine lv_iinc (v := l7_5) (lv' := [(7, .int l7_5), (5, .long v_4), (0, .ref h_t), (1, .long l1), (3, .long l3)]) hx hb dX2_leastAlong_61 hl (k := 4) rfl (by rw [el7_5]; rfl) (Nat.le_of_ble_eq_true rfl) rfl (fun ls hl => ?_)
      refine lv_goto (tgt := 24) hx hb dX2_leastAlong_64 (by decide) ?_
      exact ih v_4 l7_5 _ H locs ls hP hD hS (lv_sub hl [2, 3, 4, 1, 0] rfl) hf hk
set_option maxRecDepth 100000 in
set_option maxHeartbeats 4000000 in
theorem mtX2_leastAlong (l : Launch) (dC : Nat → ClassId) (dI : Nat → Nat → Nat) (cI cL cB : ClassId) (K : Nat) (h_t h_t_chain h_t_x h_t_y h_t_sorted : Nat) (sz : Nat) (t_size : Int32) (t_x : Nat → Int32) (t_y : Nat → Int32) (a1 : Int64) (a3 : Int64) (o_r : Int64) (hf : fX2_leastAlong K t_size t_x t_y a1 a3 = some o_r) : Met l yX2_leastAlong [Cond.code yX2_leastAlong cX2_leastAlong 8 (some .long)] ({ frames := 1, cells := 0, slots := 0, locals := 15 }) (va_Pc [.ref h_t, .long a1, .long a3] (cPre dC dI cI cL cB sz [(h_t, .inr (2, [.ref h_t_chain, .ref h_t_x, .ref h_t_y, .ref h_t_sorted, .int t_size])), (h_t_x, .inl (cI, 48, .inl t_x)), (h_t_y, .inl (cI, 48, .inl t_y))])) (cQl dC dI (va_A [(h_t, .inr (2, [.ref h_t_chain, .ref h_t_x, .ref h_t_y, .ref h_t_sorted, .int t_size])), (h_t_x, .inl (cI, 48, .inl t_x)), (h_t_y, .inl (cI, 48, .inl t_y))] sz) o_r [(h_t, .inr (2, [.ref h_t_chain, .ref h_t_x, .ref h_t_y, .ref h_t_sorted, .int t_size])), (h_t_x, .inl (cI, 48, .inl t_x)), (h_t_y, .inl (cI, 48, .inl t_y))]) 0 0 (va_A [(h_t, .inr (2, [.ref h_t_chain, .ref h_t_x, .ref h_t_y, .ref h_t_sorted, .int t_size])), (h_t_x, .inl (cI, 48, .inl t_x)), (h_t_y, .inl (cI, 48, .inl t_y))] sz) := by
  refine Met.ofW (cc := cX2_leastAlong) (maxL := 8) (ret := (some .long)) (by decide) rfl ?_
  intro p e s m args below meth c s₁ B hml hv
  obtain ⟨rfl, hsz, hP, hK, hD0, hT⟩ := hv
  have hx := B.exec
  have hb := B.bytes
  have hr := B.returns
  have hown : s.vm.findClass RX2 = some m.cls := findClass_of_methodNamed B.named
  have hlocks := B.notSynchronized
  have hts := TB.use hT ([.ref h_t, .long a1, .long a3] : List Value).toArray
  subst hsz
  have hD := hD0.self (sz := s.heap.size)
  generalize hAe : va_A [(h_t, .inr (2, [.ref h_t_chain, .ref h_t_x, .ref h_t_y, .ref h_t_sorted, .int t_size])), (h_t_x, .inl (cI, 48, .inl t_x)), (h_t_y, .inl (cI, 48, .inl t_y))] s.heap.size = A at hD ⊢
  have hA : ∀ q : Nat, s.heap.size ≤ q → A q := fun q h => by rw [← hAe]; exact Or.inr h
  clear hAe hD0
  have hl := lv_entry ([.ref h_t, .long a1, .long a3]) (n := 8) (Nat.le_of_ble_eq_true rfl)
  rw [lg_entry_eq]
  generalize (lg_sl ([.ref h_t, .long a1, .long a3]) ++ List.replicate (8 - (lg_sl ([.ref h_t, .long a1, .long a3])).length) Slot.unset).toArray = ls at hl ⊢
  have hl : lv_has ls 8 [(0, .ref h_t), (1, .long a1), (3, .long a3)] := hl
  have hF : 1 ≤ (headSpec [Cond.code yX2_leastAlong cX2_leastAlong 8 (some .long)] ({ frames := 1, cells := 0, slots := 0, locals := 15 })).room.frames := Nat.le_refl _
  have hLo : 15 ≤ (headSpec [Cond.code yX2_leastAlong cX2_leastAlong 8 (some .long)] ({ frames := 1, cells := 0, slots := 0, locals := 15 })).room.locals := Nat.le_refl _
  have C0 : Sx p (headSpec [Cond.code yX2_leastAlong cX2_leastAlong 8 (some .long)] ({ frames := 1, cells := 0, slots := 0, locals := 15 })).room s m ([.ref h_t, .long a1, .long a3] : List Value).toArray c cX2_leastAlong 8 RX2 A dC dI cI cL cB 1 15 := ⟨hx, hb, hml, hown, hts, hK, hT, hA, hF, hLo⟩
  refine startH (A := A) hP (fun H locs hP hS => ?_)
  rw [fX2_leastAlong] at hf
  refine lv_lload_n hx hb dX2_leastAlong_0 rfl (lv_at hl 1 rfl) ?_
  refine lv_aload_n hx hb dX2_leastAlong_1 rfl (lv_at hl 0 rfl) ?_
  refine va_get (D := (dC, dI)) (ci := 2) (v := .ref h_t_x) (C := RX2) (T := TX2) (N := 5) hx hb hts in_X2 hown hK hP 0 rfl rfl 1 (Nat.le_of_ble_eq_true rfl) (hts _ qf_X2_15) (fun _ h9 => h9) rfl dX2_leastAlong_2 ?_
  refine lv_iconst (v := (0 : Int32)) hx hb dX2_leastAlong_5 (by decide) ?_
  refine va_iald hx hb hK hP 1 0 rfl rfl (inb_in (by decide)) dX2_leastAlong_6 ?_
  refine lv_i2l hx hb dX2_leastAlong_7 rfl ?_
  refine lv_lmul hx hb dX2_leastAlong_8 ?_
  refine lv_lload_n hx hb dX2_leastAlong_9 rfl (lv_at hl 2 rfl) ?_
  refine lv_aload_n hx hb dX2_leastAlong_10 rfl (lv_at hl 0 rfl) ?_
  refine va_get (D := (dC, dI)) (ci := 2) (v := .ref h_t_y) (C := RX2) (T := TX2) (N := 5) hx hb hts in_X2 hown hK hP 0 rfl rfl 2 (Nat.le_of_ble_eq_true rfl) (hts _ qf_X2_18) (fun _ h9 => h9) rfl dX2_leastAlong_11 ?_
  refine lv_iconst (v := (0 : Int32)) hx hb dX2_leastAlong_14 (by decide) ?_
  refine va_iald hx hb hK hP 2 0 rfl rfl (inb_in (by decide)) dX2_leastAlong_15 ?_
  refine lv_i2l hx hb dX2_leastAlong_16 rfl ?_
  refine lv_lmul hx hb dX2_leastAlong_17 ?_
  refine lv_ladd hx hb dX2_leastAlong_18 ?_
  refine lv_topl (fun l5_1 el5_1 => ?_)
  replace hf := xl_at hf el5_1
  refine lv_lstore (lv' := [(5, .long l5_1), (0, .ref h_t), (1, .long a1), (3, .long a3)]) hx hb dX2_leastAlong_19 hl (Nat.le_of_ble_eq_true rfl) rfl (fun ls hl => ?_)
  refine lv_iconst (v := (1 : Int32)) hx hb dX2_leastAlong_21 (by decide) ?_
  refine lv_istore (lv' := [(7, .int (1 : Int32)), (5, .long l5_1), (0, .ref h_t), (1, .long a1), (3, .long a3)]) hx hb dX2_leastAlong_22 hl (Nat.le_of_ble_eq_true rfl) rfl (fun ls hl => ?_)
  obtain ⟨l5_7, hq_6, hf⟩ := b1_some hf
  refine wX2_leastAlong_L24 C0 h_t h_t_chain h_t_x h_t_y h_t_sorted t_size t_x t_y a1 a3 K l5_1 (1 : Int32) l5_7 H locs ls hP hD hS (lv_sub hl [2, 3, 4, 1, 0] rfl) hq_6 ?_
  intro H locs ls hP hD hS hl
  refine lv_lload hx hb dX2_leastAlong_67 (lv_at hl 0 rfl) ?_
  obtain rfl := o1 hf
  exact W.lret hx hb hr (fun t ht hW => ⟨⟨_, (), rfl, rfl, by rw [ht]; exact hP, hD⟩, hS.F ht⟩) hS.2.2 dX2_leastAlong_69
theorem dX11_line_0 : decode cX11_line 0 = .ok (.aload_n 0, 1) := by decide +kernel
theorem dX11_line_1 : decode cX11_line 1 = .ok (.getfield 12, 3) := by decide +kernel
theorem dX11_line_4 : decode cX11_line 4 = .ok (.iload_n 1, 1) := by decide +kernel
theorem dX11_line_5 : decode cX11_line 5 = .ok (.invokevirtual 152, 3) := by decide +kernel
theorem dX11_line_8 : decode cX11_line 8 = .ok (.ifCond .ne 7, 3) := by decide +kernel
theorem dX11_line_11 : decode cX11_line 11 = .ok (.ldc2_w 131, 3) := by decide +kernel
theorem dX11_line_14 : decode cX11_line 14 = .ok (.lreturn, 1) := by decide +kernel
theorem dX11_line_15 : decode cX11_line 15 = .ok (.aload_n 0, 1) := by decide +kernel
theorem dX11_line_16 : decode cX11_line 16 = .ok (.getfield 28, 3) := by decide +kernel
theorem dX11_line_19 : decode cX11_line 19 = .ok (.aload_n 0, 1) := by decide +kernel
theorem dX11_line_20 : decode cX11_line 20 = .ok (.getfield 12, 3) := by decide +kernel
theorem dX11_line_23 : decode cX11_line 23 = .ok (.iload_n 1, 1) := by decide +kernel
theorem dX11_line_24 : decode cX11_line 24 = .ok (.invokevirtual 155, 3) := by decide +kernel
theorem dX11_line_27 : decode cX11_line 27 = .ok (.aload_n 0, 1) := by decide +kernel
theorem dX11_line_28 : decode cX11_line 28 = .ok (.getfield 35, 3) := by decide +kernel
theorem dX11_line_31 : decode cX11_line 31 = .ok (.aload_n 0, 1) := by decide +kernel
theorem dX11_line_32 : decode cX11_line 32 = .ok (.getfield 28, 3) := by decide +kernel
theorem dX11_line_35 : decode cX11_line 35 = .ok (.aload_n 0, 1) := by decide +kernel
theorem dX11_line_36 : decode cX11_line 36 = .ok (.getfield 12, 3) := by decide +kernel
theorem dX11_line_39 : decode cX11_line 39 = .ok (.getfield 146, 3) := by decide +kernel
theorem dX11_line_42 : decode cX11_line 42 = .ok (.aload_n 0, 1) := by decide +kernel
theorem dX11_line_43 : decode cX11_line 43 = .ok (.getfield 12, 3) := by decide +kernel
theorem dX11_line_46 : decode cX11_line 46 = .ok (.getfield 149, 3) := by decide +kernel
theorem dX11_line_49 : decode cX11_line 49 = .ok (.invokevirtual 177, 3) := by decide +kernel
theorem dX11_line_52 : decode cX11_line 52 = .ok (.aload_n 0, 1) := by decide +kernel
theorem dX11_line_53 : decode cX11_line 53 = .ok (.getfield 35, 3) := by decide +kernel
theorem dX11_line_56 : decode cX11_line 56 = .ok (.invokevirtual 198, 3) := by decide +kernel
theorem dX11_line_59 : decode cX11_line 59 = .ok (.lstore_n 3, 1) := by decide +kernel
theorem dX11_line_60 : decode cX11_line 60 = .ok (.aload_n 0, 1) := by decide +kernel
theorem dX11_line_61 : decode cX11_line 61 = .ok (.getfield 35, 3) := by decide +kernel
theorem dX11_line_64 : decode cX11_line 64 = .ok (.invokevirtual 202, 3) := by decide +kernel
theorem dX11_line_67 : decode cX11_line 67 = .ok (.lstore 5, 2) := by decide +kernel
theorem dX11_line_69 : decode cX11_line 69 = .ok (.lload_n 3, 1) := by decide +kernel
theorem dX11_line_70 : decode cX11_line 70 = .ok (.lload 5, 2) := by decide +kernel
theorem dX11_line_72 : decode cX11_line 72 = .ok (.invokestatic 205, 3) := by decide +kernel
theorem dX11_line_75 : decode cX11_line 75 = .ok (.lstore 7, 2) := by decide +kernel
theorem dX11_line_77 : decode cX11_line 77 = .ok (.lload 7, 2) := by decide +kernel
theorem dX11_line_79 : decode cX11_line 79 = .ok (.lconst 0, 1) := by decide +kernel
theorem dX11_line_80 : decode cX11_line 80 = .ok (.lcmp, 1) := by decide +kernel
theorem dX11_line_81 : decode cX11_line 81 = .ok (.ifCond .ne 7, 3) := by decide +kernel
theorem dX11_line_84 : decode cX11_line 84 = .ok (.ldc2_w 131, 3) := by decide +kernel
theorem dX11_line_87 : decode cX11_line 87 = .ok (.lreturn, 1) := by decide +kernel
theorem dX11_line_88 : decode cX11_line 88 = .ok (.iload_n 2, 1) := by decide +kernel
theorem dX11_line_89 : decode cX11_line 89 = .ok (.tableswitch 55 0 2 #[27, 32, 38], 27) := by decide +kernel
theorem dX11_line_116 : decode cX11_line 116 = .ok (.lload_n 3, 1) := by decide +kernel
theorem dX11_line_117 : decode cX11_line 117 = .ok (.lload 7, 2) := by decide +kernel
theorem dX11_line_119 : decode cX11_line 119 = .ok (.ldiv, 1) := by decide +kernel
theorem dX11_line_120 : decode cX11_line 120 = .ok (.lreturn, 1) := by decide +kernel
theorem dX11_line_121 : decode cX11_line 121 = .ok (.lload 5, 2) := by decide +kernel
theorem dX11_line_123 : decode cX11_line 123 = .ok (.lload 7, 2) := by decide +kernel
theorem dX11_line_125 : decode cX11_line 125 = .ok (.ldiv, 1) := by decide +kernel
theorem dX11_line_126 : decode cX11_line 126 = .ok (.lreturn, 1) := by decide +kernel
theorem dX11_line_127 : decode cX11_line 127 = .ok (.aload_n 0, 1) := by decide +kernel
theorem dX11_line_128 : decode cX11_line 128 = .ok (.getfield 28, 3) := by decide +kernel
theorem dX11_line_131 : decode cX11_line 131 = .ok (.lload_n 3, 1) := by decide +kernel
theorem dX11_line_132 : decode cX11_line 132 = .ok (.lload 7, 2) := by decide +kernel
theorem dX11_line_134 : decode cX11_line 134 = .ok (.ldiv, 1) := by decide +kernel
theorem dX11_line_135 : decode cX11_line 135 = .ok (.lload 5, 2) := by decide +kernel
theorem dX11_line_137 : decode cX11_line 137 = .ok (.lload 7, 2) := by decide +kernel
theorem dX11_line_139 : decode cX11_line 139 = .ok (.ldiv, 1) := by decide +kernel
theorem dX11_line_140 : decode cX11_line 140 = .ok (.invokevirtual 209, 3) := by decide +kernel
theorem dX11_line_143 : decode cX11_line 143 = .ok (.lreturn, 1) := by decide +kernel
theorem dX11_line_144 : decode cX11_line 144 = .ok (.ldc2_w 131, 3) := by decide +kernel
theorem dX11_line_147 : decode cX11_line 147 = .ok (.lreturn, 1) := by decide +kernel
set_option maxRecDepth 100000 in
set_option maxHeartbeats 4000000 in
theorem mtX11_line (l : Launch) (dC : Nat → ClassId) (dI : Nat → Nat → Nat) (cI cL cB : ClassId) (K : Nat) (h_t h_t_cloud h_t_reader h_t_hull h_t_near h_t_firstTie h_t_reducer h_t_chooser h_t_pair h_t_divider h_t_depths h_t_spot h_t_cloud_x h_t_cloud_y h_t_cloud_colour h_t_cloud_load h_t_hull_chain h_t_hull_x h_t_hull_y h_t_hull_sorted : Nat) (sz : Nat) (t_cloud_size : Int32) (t_cloud_centreX : Int32) (t_cloud_centreY : Int32) (t_cloud_x : Nat → Int32) (t_cloud_y : Nat → Int32) (t_hull_size : Int32) (t_hull_chain : Nat → Int32) (t_hull_x : Nat → Int32) (t_hull_y : Nat → Int32) (t_hull_sorted : Nat → Int32) (t_near_x : Int64) (t_near_y : Int64) (t_near_lower : Int64) (t_near_square : Int64) (t_near_squareLower : Int64) (t_near_fromX : Int32) (t_near_fromY : Int32) (a1 : Int32) (a2 : Int32) (o_r : Int64) (o_t_hull_size : Int32) (o_t_hull_chain : Nat → Int32) (o_t_hull_x : Nat → Int32) (o_t_hull_y : Nat → Int32) (o_t_hull_sorted : Nat → Int32) (o_t_near_x : Int64) (o_t_near_y : Int64) (o_t_near_lower : Int64) (o_t_near_square : Int64) (o_t_near_squareLower : Int64) (o_t_near_fromX : Int32) (o_t_near_fromY : Int32) (hf : fX11_line K t_cloud_size t_cloud_centreX t_cloud_centreY t_cloud_x t_cloud_y t_hull_size t_hull_chain t_hull_x t_hull_y t_hull_sorted t_near_x t_near_y t_near_lower t_near_square t_near_squareLower t_near_fromX t_near_fromY a1 a2 = some (o_r, o_t_hull_size, o_t_hull_chain, o_t_hull_x, o_t_hull_y, o_t_hull_sorted, o_t_near_x, o_t_near_y, o_t_near_lower, o_t_near_square, o_t_near_squareLower, o_t_near_fromX, o_t_near_fromY)) : Met l yX11_line [Cond.code yX11_line cX11_line 9 (some .long)] ({ frames := 3, cells := 0, slots := 0, locals := 88 }) (va_Pc [.ref h_t, .int a1, .int a2] (cPre dC dI cI cL cB sz [(h_t, .inr (11, [.ref h_t_cloud, .ref h_t_reader, .ref h_t_hull, .ref h_t_near, .ref h_t_firstTie, .ref h_t_reducer, .ref h_t_chooser, .ref h_t_pair, .ref h_t_divider, .ref h_t_depths, .ref h_t_spot])), (h_t_cloud, .inr (0, [.ref h_t_cloud_x, .ref h_t_cloud_y, .ref h_t_cloud_colour, .ref h_t_cloud_load, .int t_cloud_size, .int t_cloud_centreX, .int t_cloud_centreY])), (h_t_cloud_x, .inl (cI, 24, .inl t_cloud_x)), (h_t_cloud_y, .inl (cI, 24, .inl t_cloud_y)), (h_t_hull, .inr (2, [.ref h_t_hull_chain, .ref h_t_hull_x, .ref h_t_hull_y, .ref h_t_hull_sorted, .int t_hull_size])), (h_t_hull_chain, .inl (cI, 48, .inl t_hull_chain)), (h_t_hull_x, .inl (cI, 48, .inl t_hull_x)), (h_t_hull_y, .inl (cI, 48, .inl t_hull_y)), (h_t_hull_sorted, .inl (cI, 24, .inl t_hull_sorted)), (h_t_near, .inr (4, [.long t_near_x, .long t_near_y, .long t_near_lower, .long t_near_square, .long t_near_squareLower, .int t_near_fromX, .int t_near_fromY]))])) (cQl dC dI (va_A [(h_t, .inr (11, [.ref h_t_cloud, .ref h_t_reader, .ref h_t_hull, .ref h_t_near, .ref h_t_firstTie, .ref h_t_reducer, .ref h_t_chooser, .ref h_t_pair, .ref h_t_divider, .ref h_t_depths, .ref h_t_spot])), (h_t_cloud, .inr (0, [.ref h_t_cloud_x, .ref h_t_cloud_y, .ref h_t_cloud_colour, .ref h_t_cloud_load, .int t_cloud_size, .int t_cloud_centreX, .int t_cloud_centreY])), (h_t_cloud_x, .inl (cI, 24, .inl t_cloud_x)), (h_t_cloud_y, .inl (cI, 24, .inl t_cloud_y)), (h_t_hull, .inr (2, [.ref h_t_hull_chain, .ref h_t_hull_x, .ref h_t_hull_y, .ref h_t_hull_sorted, .int t_hull_size])), (h_t_hull_chain, .inl (cI, 48, .inl t_hull_chain)), (h_t_hull_x, .inl (cI, 48, .inl t_hull_x)), (h_t_hull_y, .inl (cI, 48, .inl t_hull_y)), (h_t_hull_sorted, .inl (cI, 24, .inl t_hull_sorted)), (h_t_near, .inr (4, [.long t_near_x, .long t_near_y, .long t_near_lower, .long t_near_square, .long t_near_squareLower, .int t_near_fromX, .int t_near_fromY]))] sz) o_r [(h_t, .inr (11, [.ref h_t_cloud, .ref h_t_reader, .ref h_t_hull, .ref h_t_near, .ref h_t_firstTie, .ref h_t_reducer, .ref h_t_chooser, .ref h_t_pair, .ref h_t_divider, .ref h_t_depths, .ref h_t_spot])), (h_t_cloud, .inr (0, [.ref h_t_cloud_x, .ref h_t_cloud_y, .ref h_t_cloud_colour, .ref h_t_cloud_load, .int t_cloud_size, .int t_cloud_centreX, .int t_cloud_centreY])), (h_t_cloud_x, .inl (cI, 24, .inl t_cloud_x)), (h_t_cloud_y, .inl (cI, 24, .inl t_cloud_y)), (h_t_hull, .inr (2, [.ref h_t_hull_chain, .ref h_t_hull_x, .ref h_t_hull_y, .ref h_t_hull_sorted, .int o_t_hull_size])), (h_t_hull_chain, .inl (cI, 48, .inl o_t_hull_chain)), (h_t_hull_x, .inl (cI, 48, .inl o_t_hull_x)), (h_t_hull_y, .inl (cI, 48, .inl o_t_hull_y)), (h_t_hull_sorted, .inl (cI, 24, .inl o_t_hull_sorted)), (h_t_near, .inr (4, [.long o_t_near_x, .long o_t_near_y, .long o_t_near_lower, .long o_t_near_square, .long o_t_near_squareLower, .int o_t_near_fromX, .int o_t_near_fromY]))]) 0 0 (va_A [(h_t, .inr (11, [.ref h_t_cloud, .ref h_t_reader, .ref h_t_hull, .ref h_t_near, .ref h_t_firstTie, .ref h_t_reducer, .ref h_t_chooser, .ref h_t_pair, .ref h_t_divider, .ref h_t_depths, .ref h_t_spot])), (h_t_cloud, .inr (0, [.ref h_t_cloud_x, .ref h_t_cloud_y, .ref h_t_cloud_colour, .ref h_t_cloud_load, .int t_cloud_size, .int t_cloud_centreX, .int t_cloud_centreY])), (h_t_cloud_x, .inl (cI, 24, .inl t_cloud_x)), (h_t_cloud_y, .inl (cI, 24, .inl t_cloud_y)), (h_t_hull, .inr (2, [.ref h_t_hull_chain, .ref h_t_hull_x, .ref h_t_hull_y, .ref h_t_hull_sorted, .int t_hull_size])), (h_t_hull_chain, .inl (cI, 48, .inl t_hull_chain)), (h_t_hull_x, .inl (cI, 48, .inl t_hull_x)), (h_t_hull_y, .inl (cI, 48, .inl t_hull_y)), (h_t_hull_sorted, .inl (cI, 24, .inl t_hull_sorted)), (h_t_near, .inr (4, [.long t_near_x, .long t_near_y, .long t_near_lower, .long t_near_square, .long t_near_squareLower, .int t_near_fromX, .int t_near_fromY]))] sz) := by
  refine Met.ofW (cc := cX11_line) (maxL := 9) (ret := (some .long)) (by decide) rfl ?_
  intro p e s m args below meth c s₁ B hml hv
  obtain ⟨rfl, hsz, hP, hK, hD0, hT⟩ := hv
  have hx := B.exec
  have hb := B.bytes
  have hr := B.returns
  have hown : s.vm.findClass RX11 = some m.cls := findClass_of_methodNamed B.named
  have hlocks := B.notSynchronized
  have hts := TB.use hT ([.ref h_t, .int a1, .int a2] : List Value).toArray
  subst hsz
  have hD := hD0.self (sz := s.heap.size)
  generalize hAe : va_A [(h_t, .inr (11, [.ref h_t_cloud, .ref h_t_reader, .ref h_t_hull, .ref h_t_near, .ref h_t_firstTie, .ref h_t_reducer, .ref h_t_chooser, .ref h_t_pair, .ref h_t_divider, .ref h_t_depths, .ref h_t_spot])), (h_t_cloud, .inr (0, [.ref h_t_cloud_x, .ref h_t_cloud_y, .ref h_t_cloud_colour, .ref h_t_cloud_load, .int t_cloud_size, .int t_cloud_centreX, .int t_cloud_centreY])), (h_t_cloud_x, .inl (cI, 24, .inl t_cloud_x)), (h_t_cloud_y, .inl (cI, 24, .inl t_cloud_y)), (h_t_hull, .inr (2, [.ref h_t_hull_chain, .ref h_t_hull_x, .ref h_t_hull_y, .ref h_t_hull_sorted, .int t_hull_size])), (h_t_hull_chain, .inl (cI, 48, .inl t_hull_chain)), (h_t_hull_x, .inl (cI, 48, .inl t_hull_x)), (h_t_hull_y, .inl (cI, 48, .inl t_hull_y)), (h_t_hull_sorted, .inl (cI, 24, .inl t_hull_sorted)), (h_t_near, .inr (4, [.long t_near_x, .long t_near_y, .long t_near_lower, .long t_near_square, .long t_near_squareLower, .int t_near_fromX, .int t_near_fromY]))] s.heap.size = A at hD ⊢
  have hA : ∀ q : Nat, s.heap.size ≤ q → A q := fun q h => by rw [← hAe]; exact Or.inr h
  clear hAe hD0
  have hl := lv_entry ([.ref h_t, .int a1, .int a2]) (n := 9) (Nat.le_of_ble_eq_true rfl)
  rw [lg_entry_eq]
  generalize (lg_sl ([.ref h_t, .int a1, .int a2]) ++ List.replicate (9 - (lg_sl ([.ref h_t, .int a1, .int a2])).length) Slot.unset).toArray = ls at hl ⊢
  have hl : lv_has ls 9 [(0, .ref h_t), (1, .int a1), (2, .int a2)] := hl
  have hF : 3 ≤ (headSpec [Cond.code yX11_line cX11_line 9 (some .long)] ({ frames := 3, cells := 0, slots := 0, locals := 88 })).room.frames := Nat.le_refl _
  have hLo : 88 ≤ (headSpec [Cond.code yX11_line cX11_line 9 (some .long)] ({ frames := 3, cells := 0, slots := 0, locals := 88 })).room.locals := Nat.le_refl _
  have C0 : Sx p (headSpec [Cond.code yX11_line cX11_line 9 (some .long)] ({ frames := 3, cells := 0, slots := 0, locals := 88 })).room s m ([.ref h_t, .int a1, .int a2] : List Value).toArray c cX11_line 9 RX11 A dC dI cI cL cB 3 88 := ⟨hx, hb, hml, hown, hts, hK, hT, hA, hF, hLo⟩
  refine startH (A := A) hP (fun H locs hP hS => ?_)
  rw [fX11_line] at hf
  refine lv_aload_n hx hb dX11_line_0 rfl (lv_at hl 0 rfl) ?_
  refine va_get (D := (dC, dI)) (ci := 11) (v := .ref h_t_cloud) (C := RX11) (T := TX11) (N := 11) hx hb hts in_X11 hown hK hP 0 rfl rfl 0 (Nat.le_of_ble_eq_true rfl) (hts _ qf_X11_12) (fun _ h9 => h9) rfl dX11_line_1 ?_
  refine lv_iload_n hx hb dX11_line_4 rfl (lv_at hl 1 rfl) ?_
  obtain ⟨r_1, hq_2, hf⟩ := b1_some hf
  refine xci (wr := [(h_t, .inr (11, [.ref h_t_cloud, .ref h_t_reader, .ref h_t_hull, .ref h_t_near, .ref h_t_firstTie, .ref h_t_reducer, .ref h_t_chooser, .ref h_t_pair, .ref h_t_divider, .ref h_t_depths, .ref h_t_spot])), (h_t_cloud_x, .inl (cI, 24, .inl t_cloud_x)), (h_t_cloud_y, .inl (cI, 24, .inl t_cloud_y)), (h_t_hull, .inr (2, [.ref h_t_hull_chain, .ref h_t_hull_x, .ref h_t_hull_y, .ref h_t_hull_sorted, .int t_hull_size])), (h_t_hull_chain, .inl (cI, 48, .inl t_hull_chain)), (h_t_hull_x, .inl (cI, 48, .inl t_hull_x)), (h_t_hull_y, .inl (cI, 48, .inl t_hull_y)), (h_t_hull_sorted, .inl (cI, 24, .inl t_hull_sorted)), (h_t_near, .inr (4, [.long t_near_x, .long t_near_y, .long t_near_lower, .long t_near_square, .long t_near_squareLower, .int t_near_fromX, .int t_near_fromY]))]) (w2 := [(h_t, .inr (11, [.ref h_t_cloud, .ref h_t_reader, .ref h_t_hull, .ref h_t_near, .ref h_t_firstTie, .ref h_t_reducer, .ref h_t_chooser, .ref h_t_pair, .ref h_t_divider, .ref h_t_depths, .ref h_t_spot])), (h_t_cloud, .inr (0, [.ref h_t_cloud_x, .ref h_t_cloud_y, .ref h_t_cloud_colour, .ref h_t_cloud_load, .int t_cloud_size, .int t_cloud_centreX, .int t_cloud_centreY])), (h_t_cloud_x, .inl (cI, 24, .inl t_cloud_x)), (h_t_cloud_y, .inl (cI, 24, .inl t_cloud_y)), (h_t_hull, .inr (2, [.ref h_t_hull_chain, .ref h_t_hull_x, .ref h_t_hull_y, .ref h_t_hull_sorted, .int t_hull_size])), (h_t_hull_chain, .inl (cI, 48, .inl t_hull_chain)), (h_t_hull_x, .inl (cI, 48, .inl t_hull_x)), (h_t_hull_y, .inl (cI, 48, .inl t_hull_y)), (h_t_hull_sorted, .inl (cI, 24, .inl t_hull_sorted)), (h_t_near, .inr (4, [.long t_near_x, .long t_near_y, .long t_near_lower, .long t_near_square, .long t_near_squareLower, .int t_near_fromX, .int t_near_fromY]))]) (va_runV (As := [.int a1]) (rest := []) ⟨hx, hb, hml, hown, hts⟩ (mtX0_hasSet l dC dI cI cL cB K h_t_cloud h_t_cloud_x h_t_cloud_y h_t_cloud_colour h_t_cloud_load H.size t_cloud_size t_cloud_centreX t_cloud_centreY a1 r_1 hq_2) (cwV 1 hts gv_X11_152 rfl rfl rfl hdV_X0_hasSet ⟨Nat.le_trans (Nat.le_of_ble_eq_true rfl) hF, Nat.le_trans (Nat.le_of_ble_eq_true rfl) hLo⟩) (cPreV hK hP hD hT [1] rfl rfl (ci := 0) (q0 := 0) rfl rfl) rfl rfl hl.1 rfl (lv_room (Nat.le_of_ble_eq_true rfl)) dX11_line_5 ⟨Nat.zero_le _, Nat.zero_le _⟩) hP hD hS hA [1] [0, 2, 3, 4, 5, 6, 7, 8, 9] [0, 9, 1, 2, 3, 4, 5, 6, 7, 8] rfl rfl rfl rfl rfl rfl (fun H locs hP hD hS => ?_)
  refine lv_if_ne (tgt := 15) hx hb dX11_line_8 (by decide) (fun hc => ?_) (fun hc => ?_)
  · replace hf := it_f (hc) hf
    refine lv_aload_n hx hb dX11_line_15 rfl (lv_at hl 0 rfl) ?_
    refine va_get (D := (dC, dI)) (ci := 11) (v := .ref h_t_hull) (C := RX11) (T := TX11) (N := 11) hx hb hts in_X11 hown hK hP 0 rfl rfl 2 (Nat.le_of_ble_eq_true rfl) (hts _ qf_X11_28) (fun _ h9 => h9) rfl dX11_line_16 ?_
    refine lv_aload_n hx hb dX11_line_19 rfl (lv_at hl 0 rfl) ?_
    refine va_get (D := (dC, dI)) (ci := 11) (v := .ref h_t_cloud) (C := RX11) (T := TX11) (N := 11) hx hb hts in_X11 hown hK hP 0 rfl rfl 0 (Nat.le_of_ble_eq_true rfl) (hts _ qf_X11_12) (fun _ h9 => h9) rfl dX11_line_20 ?_
    refine lv_iload_n hx hb dX11_line_23 rfl (lv_at hl 1 rfl) ?_
    obtain ⟨t_hull_size_3, t_hull_chain_4, t_hull_x_5, t_hull_y_6, t_hull_sorted_7, hq_8, hf⟩ := b5_some hf
    refine xcv (wr := [(h_t, .inr (11, [.ref h_t_cloud, .ref h_t_reader, .ref h_t_hull, .ref h_t_near, .ref h_t_firstTie, .ref h_t_reducer, .ref h_t_chooser, .ref h_t_pair, .ref h_t_divider, .ref h_t_depths, .ref h_t_spot])), (h_t_near, .inr (4, [.long t_near_x, .long t_near_y, .long t_near_lower, .long t_near_square, .long t_near_squareLower, .int t_near_fromX, .int t_near_fromY]))]) (w2 := [(h_t, .inr (11, [.ref h_t_cloud, .ref h_t_reader, .ref h_t_hull, .ref h_t_near, .ref h_t_firstTie, .ref h_t_reducer, .ref h_t_chooser, .ref h_t_pair, .ref h_t_divider, .ref h_t_depths, .ref h_t_spot])), (h_t_cloud, .inr (0, [.ref h_t_cloud_x, .ref h_t_cloud_y, .ref h_t_cloud_colour, .ref h_t_cloud_load, .int t_cloud_size, .int t_cloud_centreX, .int t_cloud_centreY])), (h_t_cloud_x, .inl (cI, 24, .inl t_cloud_x)), (h_t_cloud_y, .inl (cI, 24, .inl t_cloud_y)), (h_t_hull, .inr (2, [.ref h_t_hull_chain, .ref h_t_hull_x, .ref h_t_hull_y, .ref h_t_hull_sorted, .int t_hull_size_3])), (h_t_hull_chain, .inl (cI, 48, .inl t_hull_chain_4)), (h_t_hull_x, .inl (cI, 48, .inl t_hull_x_5)), (h_t_hull_y, .inl (cI, 48, .inl t_hull_y_6)), (h_t_hull_sorted, .inl (cI, 24, .inl t_hull_sorted_7)), (h_t_near, .inr (4, [.long t_near_x, .long t_near_y, .long t_near_lower, .long t_near_square, .long t_near_squareLower, .int t_near_fromX, .int t_near_fromY]))]) (va_runV (As := [.ref h_t_cloud, .int a1]) (rest := []) ⟨hx, hb, hml, hown, hts⟩ (mtX2_build l dC dI cI cL cB K h_t_hull h_t_hull_chain h_t_hull_x h_t_hull_y h_t_hull_sorted h_t_cloud h_t_cloud_x h_t_cloud_y h_t_cloud_colour h_t_cloud_load H.size t_hull_size t_hull_chain t_hull_x t_hull_y t_hull_sorted t_cloud_size t_cloud_centreX t_cloud_centreY t_cloud_x t_cloud_y a1 t_hull_size_3 t_hull_chain_4 t_hull_x_5 t_hull_y_6 t_hull_sorted_7 hq_8) (cwV 2 hts gv_X11_155 rfl rfl rfl hdV_X2_build ⟨Nat.le_trans (Nat.le_of_ble_eq_true rfl) hF, Nat.le_trans (Nat.le_of_ble_eq_true rfl) hLo⟩) (cPreV hK hP hD hT [4, 5, 6, 7, 8, 1, 2, 3] rfl rfl (ci := 2) (q0 := 0) rfl rfl) rfl rfl hl.1 rfl (lv_room (Nat.le_of_ble_eq_true rfl)) dX11_line_24 ⟨Nat.zero_le _, Nat.zero_le _⟩) hP hD hS hA [4, 5, 6, 7, 8, 1, 2, 3] [0, 9] [0, 7, 8, 9, 2, 3, 4, 5, 6, 1] rfl rfl rfl rfl rfl rfl (fun H locs hP hD hS => ?_)
    refine lv_aload_n hx hb dX11_line_27 rfl (lv_at hl 0 rfl) ?_
    refine va_get (D := (dC, dI)) (ci := 11) (v := .ref h_t_near) (C := RX11) (T := TX11) (N := 11) hx hb hts in_X11 hown hK hP 0 rfl rfl 3 (Nat.le_of_ble_eq_true rfl) (hts _ qf_X11_35) (fun _ h9 => h9) rfl dX11_line_28 ?_
    refine lv_aload_n hx hb dX11_line_31 rfl (lv_at hl 0 rfl) ?_
    refine va_get (D := (dC, dI)) (ci := 11) (v := .ref h_t_hull) (C := RX11) (T := TX11) (N := 11) hx hb hts in_X11 hown hK hP 0 rfl rfl 2 (Nat.le_of_ble_eq_true rfl) (hts _ qf_X11_28) (fun _ h9 => h9) rfl dX11_line_32 ?_
    refine lv_aload_n hx hb dX11_line_35 rfl (lv_at hl 0 rfl) ?_
    refine va_get (D := (dC, dI)) (ci := 11) (v := .ref h_t_cloud) (C := RX11) (T := TX11) (N := 11) hx hb hts in_X11 hown hK hP 0 rfl rfl 0 (Nat.le_of_ble_eq_true rfl) (hts _ qf_X11_12) (fun _ h9 => h9) rfl dX11_line_36 ?_
    refine va_get (D := (dC, dI)) (ci := 0) (v := .int t_cloud_centreX) (C := RX0) (T := TX0) (N := 7) hx hb hts in_X0 hown hK hP 1 rfl rfl 5 (Nat.le_of_ble_eq_true rfl) (hts _ qf_X11_146) (fun _ h9 => h9) rfl dX11_line_39 ?_
    refine lv_aload_n hx hb dX11_line_42 rfl (lv_at hl 0 rfl) ?_
    refine va_get (D := (dC, dI)) (ci := 11) (v := .ref h_t_cloud) (C := RX11) (T := TX11) (N := 11) hx hb hts in_X11 hown hK hP 0 rfl rfl 0 (Nat.le_of_ble_eq_true rfl) (hts _ qf_X11_12) (fun _ h9 => h9) rfl dX11_line_43 ?_
    refine va_get (D := (dC, dI)) (ci := 0) (v := .int t_cloud_centreY) (C := RX0) (T := TX0) (N := 7) hx hb hts in_X0 hown hK hP 1 rfl rfl 6 (Nat.le_of_ble_eq_true rfl) (hts _ qf_X11_149) (fun _ h9 => h9) rfl dX11_line_46 ?_
    obtain ⟨t_near_x_9, t_near_y_10, t_near_lower_11, t_near_square_12, t_near_squareLower_13, t_near_fromX_14, t_near_fromY_15, hq_16, hf⟩ := b7_some hf
    refine xcv (wr := [(h_t, .inr (11, [.ref h_t_cloud, .ref h_t_reader, .ref h_t_hull, .ref h_t_near, .ref h_t_firstTie, .ref h_t_reducer, .ref h_t_chooser, .ref h_t_pair, .ref h_t_divider, .ref h_t_depths, .ref h_t_spot])), (h_t_cloud, .inr (0, [.ref h_t_cloud_x, .ref h_t_cloud_y, .ref h_t_cloud_colour, .ref h_t_cloud_load, .int t_cloud_size, .int t_cloud_centreX, .int t_cloud_centreY])), (h_t_cloud_x, .inl (cI, 24, .inl t_cloud_x)), (h_t_cloud_y, .inl (cI, 24, .inl t_cloud_y)), (h_t_hull_chain, .inl (cI, 48, .inl t_hull_chain_4)), (h_t_hull_sorted, .inl (cI, 24, .inl t_hull_sorted_7))]) (w2 := [(h_t, .inr (11, [.ref h_t_cloud, .ref h_t_reader, .ref h_t_hull, .ref h_t_near, .ref h_t_firstTie, .ref h_t_reducer, .ref h_t_chooser, .ref h_t_pair, .ref h_t_divider, .ref h_t_depths, .ref h_t_spot])), (h_t_cloud, .inr (0, [.ref h_t_cloud_x, .ref h_t_cloud_y, .ref h_t_cloud_colour, .ref h_t_cloud_load, .int t_cloud_size, .int t_cloud_centreX, .int t_cloud_centreY])), (h_t_cloud_x, .inl (cI, 24, .inl t_cloud_x)), (h_t_cloud_y, .inl (cI, 24, .inl t_cloud_y)), (h_t_hull, .inr (2, [.ref h_t_hull_chain, .ref h_t_hull_x, .ref h_t_hull_y, .ref h_t_hull_sorted, .int t_hull_size_3])), (h_t_hull_chain, .inl (cI, 48, .inl t_hull_chain_4)), (h_t_hull_x, .inl (cI, 48, .inl t_hull_x_5)), (h_t_hull_y, .inl (cI, 48, .inl t_hull_y_6)), (h_t_hull_sorted, .inl (cI, 24, .inl t_hull_sorted_7)), (h_t_near, .inr (4, [.long t_near_x_9, .long t_near_y_10, .long t_near_lower_11, .long t_near_square_12, .long t_near_squareLower_13, .int t_near_fromX_14, .int t_near_fromY_15]))]) (va_runV (As := [.ref h_t_hull, .int t_cloud_centreX, .int t_cloud_centreY]) (rest := []) ⟨hx, hb, hml, hown, hts⟩ (mtX4_findOnHull l dC dI cI cL cB K h_t_near h_t_hull h_t_hull_chain h_t_hull_x h_t_hull_y h_t_hull_sorted H.size t_near_x t_near_y t_near_lower t_near_square t_near_squareLower t_near_fromX t_near_fromY t_hull_size_3 t_hull_x_5 t_hull_y_6 t_cloud_centreX t_cloud_centreY t_near_x_9 t_near_y_10 t_near_lower_11 t_near_square_12 t_near_squareLower_13 t_near_fromX_14 t_near_fromY_15 hq_16) (cwV 3 hts gv_X11_177 rfl rfl rfl hdV_X4_findOnHull ⟨Nat.le_trans (Nat.le_of_ble_eq_true rfl) hF, Nat.le_trans (Nat.le_of_ble_eq_true rfl) hLo⟩) (cPreV hK hP hD hT [9, 4, 6, 7] rfl rfl (ci := 4) (q0 := 0) rfl rfl) rfl rfl hl.1 rfl (lv_room (Nat.le_of_ble_eq_true rfl)) dX11_line_49 ⟨Nat.zero_le _, Nat.zero_le _⟩) hP hD hS hA [9, 4, 6, 7] [0, 1, 2, 3, 5, 8] [0, 1, 2, 3, 7, 4, 8, 9, 5, 6] rfl rfl rfl rfl rfl rfl (fun H locs hP hD hS => ?_)
    refine lv_aload_n hx hb dX11_line_52 rfl (lv_at hl 0 rfl) ?_
    refine va_get (D := (dC, dI)) (ci := 11) (v := .ref h_t_near) (C := RX11) (T := TX11) (N := 11) hx hb hts in_X11 hown hK hP 0 rfl rfl 3 (Nat.le_of_ble_eq_true rfl) (hts _ qf_X11_35) (fun _ h9 => h9) rfl dX11_line_53 ?_
    obtain ⟨r_17, hq_18, hf⟩ := b1_some hf
    refine xcl (wr := [(h_t, .inr (11, [.ref h_t_cloud, .ref h_t_reader, .ref h_t_hull, .ref h_t_near, .ref h_t_firstTie, .ref h_t_reducer, .ref h_t_chooser, .ref h_t_pair, .ref h_t_divider, .ref h_t_depths, .ref h_t_spot])), (h_t_cloud, .inr (0, [.ref h_t_cloud_x, .ref h_t_cloud_y, .ref h_t_cloud_colour, .ref h_t_cloud_load, .int t_cloud_size, .int t_cloud_centreX, .int t_cloud_centreY])), (h_t_cloud_x, .inl (cI, 24, .inl t_cloud_x)), (h_t_cloud_y, .inl (cI, 24, .inl t_cloud_y)), (h_t_hull, .inr (2, [.ref h_t_hull_chain, .ref h_t_hull_x, .ref h_t_hull_y, .ref h_t_hull_sorted, .int t_hull_size_3])), (h_t_hull_chain, .inl (cI, 48, .inl t_hull_chain_4)), (h_t_hull_x, .inl (cI, 48, .inl t_hull_x_5)), (h_t_hull_y, .inl (cI, 48, .inl t_hull_y_6)), (h_t_hull_sorted, .inl (cI, 24, .inl t_hull_sorted_7))]) (w2 := [(h_t, .inr (11, [.ref h_t_cloud, .ref h_t_reader, .ref h_t_hull, .ref h_t_near, .ref h_t_firstTie, .ref h_t_reducer, .ref h_t_chooser, .ref h_t_pair, .ref h_t_divider, .ref h_t_depths, .ref h_t_spot])), (h_t_cloud, .inr (0, [.ref h_t_cloud_x, .ref h_t_cloud_y, .ref h_t_cloud_colour, .ref h_t_cloud_load, .int t_cloud_size, .int t_cloud_centreX, .int t_cloud_centreY])), (h_t_cloud_x, .inl (cI, 24, .inl t_cloud_x)), (h_t_cloud_y, .inl (cI, 24, .inl t_cloud_y)), (h_t_hull, .inr (2, [.ref h_t_hull_chain, .ref h_t_hull_x, .ref h_t_hull_y, .ref h_t_hull_sorted, .int t_hull_size_3])), (h_t_hull_chain, .inl (cI, 48, .inl t_hull_chain_4)), (h_t_hull_x, .inl (cI, 48, .inl t_hull_x_5)), (h_t_hull_y, .inl (cI, 48, .inl t_hull_y_6)), (h_t_hull_sorted, .inl (cI, 24, .inl t_hull_sorted_7)), (h_t_near, .inr (4, [.long t_near_x_9, .long t_near_y_10, .long t_near_lower_11, .long t_near_square_12, .long t_near_squareLower_13, .int t_near_fromX_14, .int t_near_fromY_15]))]) (va_runV (As := []) (rest := []) ⟨hx, hb, hml, hown, hts⟩ (mtX4_wayX l dC dI cI cL cB K h_t_near H.size t_near_x_9 t_near_y_10 t_near_lower_11 t_near_square_12 t_near_squareLower_13 t_near_fromX_14 t_near_fromY_15 r_17 hq_18) (cwV 0 hts gv_X11_198 rfl rfl rfl hdV_X4_wayX ⟨Nat.le_trans (Nat.le_of_ble_eq_true rfl) hF, Nat.le_trans (Nat.le_of_ble_eq_true rfl) hLo⟩) (cPreV hK hP hD hT [9] rfl rfl (ci := 4) (q0 := 0) rfl rfl) rfl rfl hl.1 rfl (lv_room (Nat.le_of_ble_eq_true rfl)) dX11_line_56 ⟨Nat.zero_le _, Nat.zero_le _⟩) hP hD hS hA [9] [0, 1, 2, 3, 4, 5, 6, 7, 8] [0, 1, 2, 3, 4, 5, 6, 7, 8, 9] rfl rfl rfl rfl rfl rfl (fun H locs hP hD hS => ?_)
    refine lv_lstore_n (lv' := [(3, .long r_17), (0, .ref h_t), (1, .int a1), (2, .int a2)]) hx hb dX11_line_59 rfl hl (Nat.le_of_ble_eq_true rfl) rfl (fun ls hl => ?_)
    refine lv_aload_n hx hb dX11_line_60 rfl (lv_at hl 1 rfl) ?_
    refine va_get (D := (dC, dI)) (ci := 11) (v := .ref h_t_near) (C := RX11) (T := TX11) (N := 11) hx hb hts in_X11 hown hK hP 0 rfl rfl 3 (Nat.le_of_ble_eq_true rfl) (hts _ qf_X11_35) (fun _ h9 => h9) rfl dX11_line_61 ?_
    obtain ⟨r_19, hq_20, hf⟩ := b1_some hf
    refine xcl (wr := [(h_t, .inr (11, [.ref h_t_cloud, .ref h_t_reader, .ref h_t_hull, .ref h_t_near, .ref h_t_firstTie, .ref h_t_reducer, .ref h_t_chooser, .ref h_t_pair, .ref h_t_divider, .ref h_t_depths, .ref h_t_spot])), (h_t_cloud, .inr (0, [.ref h_t_cloud_x, .ref h_t_cloud_y, .ref h_t_cloud_colour, .ref h_t_cloud_load, .int t_cloud_size, .int t_cloud_centreX, .int t_cloud_centreY])), (h_t_cloud_x, .inl (cI, 24, .inl t_cloud_x)), (h_t_cloud_y, .inl (cI, 24, .inl t_cloud_y)), (h_t_hull, .inr (2, [.ref h_t_hull_chain, .ref h_t_hull_x, .ref h_t_hull_y, .ref h_t_hull_sorted, .int t_hull_size_3])), (h_t_hull_chain, .inl (cI, 48, .inl t_hull_chain_4)), (h_t_hull_x, .inl (cI, 48, .inl t_hull_x_5)), (h_t_hull_y, .inl (cI, 48, .inl t_hull_y_6)), (h_t_hull_sorted, .inl (cI, 24, .inl t_hull_sorted_7))]) (w2 := [(h_t, .inr (11, [.ref h_t_cloud, .ref h_t_reader, .ref h_t_hull, .ref h_t_near, .ref h_t_firstTie, .ref h_t_reducer, .ref h_t_chooser, .ref h_t_pair, .ref h_t_divider, .ref h_t_depths, .ref h_t_spot])), (h_t_cloud, .inr (0, [.ref h_t_cloud_x, .ref h_t_cloud_y, .ref h_t_cloud_colour, .ref h_t_cloud_load, .int t_cloud_size, .int t_cloud_centreX, .int t_cloud_centreY])), (h_t_cloud_x, .inl (cI, 24, .inl t_cloud_x)), (h_t_cloud_y, .inl (cI, 24, .inl t_cloud_y)), (h_t_hull, .inr (2, [.ref h_t_hull_chain, .ref h_t_hull_x, .ref h_t_hull_y, .ref h_t_hull_sorted, .int t_hull_size_3])), (h_t_hull_chain, .inl (cI, 48, .inl t_hull_chain_4)), (h_t_hull_x, .inl (cI, 48, .inl t_hull_x_5)), (h_t_hull_y, .inl (cI, 48, .inl t_hull_y_6)), (h_t_hull_sorted, .inl (cI, 24, .inl t_hull_sorted_7)), (h_t_near, .inr (4, [.long t_near_x_9, .long t_near_y_10, .long t_near_lower_11, .long t_near_square_12, .long t_near_squareLower_13, .int t_near_fromX_14, .int t_near_fromY_15]))]) (va_runV (As := []) (rest := []) ⟨hx, hb, hml, hown, hts⟩ (mtX4_wayY l dC dI cI cL cB K h_t_near H.size t_near_x_9 t_near_y_10 t_near_lower_11 t_near_square_12 t_near_squareLower_13 t_near_fromX_14 t_near_fromY_15 r_19 hq_20) (cwV 0 hts gv_X11_202 rfl rfl rfl hdV_X4_wayY ⟨Nat.le_trans (Nat.le_of_ble_eq_true rfl) hF, Nat.le_trans (Nat.le_of_ble_eq_true rfl) hLo⟩) (cPreV hK hP hD hT [9] rfl rfl (ci := 4) (q0 := 0) rfl rfl) rfl rfl hl.1 rfl (lv_room (Nat.le_of_ble_eq_true rfl)) dX11_line_64 ⟨Nat.zero_le _, Nat.zero_le _⟩) hP hD hS hA [9] [0, 1, 2, 3, 4, 5, 6, 7, 8] [0, 1, 2, 3, 4, 5, 6, 7, 8, 9] rfl rfl rfl rfl rfl rfl (fun H locs hP hD hS => ?_)
    refine lv_lstore (lv' := [(5, .long r_19), (3, .long r_17), (0, .ref h_t), (1, .int a1), (2, .int a2)]) hx hb dX11_line_67 hl (Nat.le_of_ble_eq_true rfl) rfl (fun ls hl => ?_)
    refine lv_lload_n hx hb dX11_line_69 rfl (lv_at hl 1 rfl) ?_
    refine lv_lload hx hb dX11_line_70 (lv_at hl 0 rfl) ?_
    obtain ⟨r_21, hq_22, hf⟩ := b1_some hf
    refine xcl (wr := [(h_t, .inr (11, [.ref h_t_cloud, .ref h_t_reader, .ref h_t_hull, .ref h_t_near, .ref h_t_firstTie, .ref h_t_reducer, .ref h_t_chooser, .ref h_t_pair, .ref h_t_divider, .ref h_t_depths, .ref h_t_spot])), (h_t_cloud, .inr (0, [.ref h_t_cloud_x, .ref h_t_cloud_y, .ref h_t_cloud_colour, .ref h_t_cloud_load, .int t_cloud_size, .int t_cloud_centreX, .int t_cloud_centreY])), (h_t_cloud_x, .inl (cI, 24, .inl t_cloud_x)), (h_t_cloud_y, .inl (cI, 24, .inl t_cloud_y)), (h_t_hull, .inr (2, [.ref h_t_hull_chain, .ref h_t_hull_x, .ref h_t_hull_y, .ref h_t_hull_sorted, .int t_hull_size_3])), (h_t_hull_chain, .inl (cI, 48, .inl t_hull_chain_4)), (h_t_hull_x, .inl (cI, 48, .inl t_hull_x_5)), (h_t_hull_y, .inl (cI, 48, .inl t_hull_y_6)), (h_t_hull_sorted, .inl (cI, 24, .inl t_hull_sorted_7)), (h_t_near, .inr (4, [.long t_near_x_9, .long t_near_y_10, .long t_near_lower_11, .long t_near_square_12, .long t_near_squareLower_13, .int t_near_fromX_14, .int t_near_fromY_15]))]) (w2 := [(h_t, .inr (11, [.ref h_t_cloud, .ref h_t_reader, .ref h_t_hull, .ref h_t_near, .ref h_t_firstTie, .ref h_t_reducer, .ref h_t_chooser, .ref h_t_pair, .ref h_t_divider, .ref h_t_depths, .ref h_t_spot])), (h_t_cloud, .inr (0, [.ref h_t_cloud_x, .ref h_t_cloud_y, .ref h_t_cloud_colour, .ref h_t_cloud_load, .int t_cloud_size, .int t_cloud_centreX, .int t_cloud_centreY])), (h_t_cloud_x, .inl (cI, 24, .inl t_cloud_x)), (h_t_cloud_y, .inl (cI, 24, .inl t_cloud_y)), (h_t_hull, .inr (2, [.ref h_t_hull_chain, .ref h_t_hull_x, .ref h_t_hull_y, .ref h_t_hull_sorted, .int t_hull_size_3])), (h_t_hull_chain, .inl (cI, 48, .inl t_hull_chain_4)), (h_t_hull_x, .inl (cI, 48, .inl t_hull_x_5)), (h_t_hull_y, .inl (cI, 48, .inl t_hull_y_6)), (h_t_hull_sorted, .inl (cI, 24, .inl t_hull_sorted_7)), (h_t_near, .inr (4, [.long t_near_x_9, .long t_near_y_10, .long t_near_lower_11, .long t_near_square_12, .long t_near_squareLower_13, .int t_near_fromX_14, .int t_near_fromY_15]))]) (va_runS (As := [.long r_17, .long r_19]) (rest := []) ⟨hx, hb, hml, hown, hts⟩ (mtX11_gcd l dC dI cI cL cB K H.size r_17 r_19 r_21 hq_22) (va_cwS 2 hts gs_X11_205 rfl rfl rfl hdS_X11_gcd ⟨Nat.le_trans (Nat.le_of_ble_eq_true rfl) hF, Nat.le_trans (Nat.le_of_ble_eq_true rfl) hLo⟩) (cPreS hK hP hD hT [] rfl rfl) rfl rfl hl.1 rfl (lv_room (Nat.le_of_ble_eq_true rfl)) dX11_line_72 ⟨Nat.zero_le _, Nat.zero_le _⟩) hP hD hS hA [] [0, 1, 2, 3, 4, 5, 6, 7, 8, 9] [0, 1, 2, 3, 4, 5, 6, 7, 8, 9] rfl rfl rfl rfl rfl rfl (fun H locs hP hD hS => ?_)
    refine lv_lstore (lv' := [(7, .long r_21), (5, .long r_19), (3, .long r_17), (0, .ref h_t), (1, .int a1), (2, .int a2)]) hx hb dX11_line_75 hl (Nat.le_of_ble_eq_true rfl) rfl (fun ls hl => ?_)
    refine lv_lload hx hb dX11_line_77 (lv_at hl 0 rfl) ?_
    refine lv_lconst (v := (0 : Int64)) hx hb dX11_line_79 (by decide) ?_
    refine W.lcmp hx hb dX11_line_80 ?_
    refine lv_if_ne (tgt := 88) hx hb dX11_line_81 (by decide) (fun hc => ?_) (fun hc => ?_)
    · replace hf := it_f (fun h9 => hc ((lg_cmp_eq _ _).mpr h9)) hf
      refine lv_iload_n hx hb dX11_line_88 rfl (lv_at hl 5 rfl) ?_
      by_cases hk_23 : a2 = (0 : Int32)
      · replace hf := it_t hk_23 hf
        refine lv_tableIn (off := 27) (tgt := 116) hx hb dX11_line_89 (by rw [hk_23]; decide) (by rw [hk_23]; decide) (by rw [hk_23]; decide) (by decide) ?_
        refine lv_lload_n hx hb dX11_line_116 rfl (lv_at hl 2 rfl) ?_
        refine lv_lload hx hb dX11_line_117 (lv_at hl 0 rfl) ?_
        obtain ⟨hg_24, hf⟩ := gd_some hf
        refine lv_ldiv hx hb dX11_line_119 (nz_ne hg_24) ?_
        obtain ⟨rfl, rfl, rfl, rfl, rfl, rfl, rfl, rfl, rfl, rfl, rfl, rfl, rfl⟩ := o13 hf
        exact W.lret hx hb hr (fun t ht hW => ⟨⟨_, (), rfl, rfl, by rw [ht]; exact hP, hD⟩, hS.F ht⟩) hS.2.2 dX11_line_120
      · replace hf := it_f hk_23 hf
        by_cases hk_25 : a2 = (1 : Int32)
        · replace hf := it_t hk_25 hf
          refine lv_tableIn (off := 32) (tgt := 121) hx hb dX11_line_89 (by rw [hk_25]; decide) (by rw [hk_25]; decide) (by rw [hk_25]; decide) (by decide) ?_
          refine lv_lload hx hb dX11_line_121 (lv_at hl 1 rfl) ?_
          refine lv_lload hx hb dX11_line_123 (lv_at hl 0 rfl) ?_
          obtain ⟨hg_26, hf⟩ := gd_some hf
          refine lv_ldiv hx hb dX11_line_125 (nz_ne hg_26) ?_
          obtain ⟨rfl, rfl, rfl, rfl, rfl, rfl, rfl, rfl, rfl, rfl, rfl, rfl, rfl⟩ := o13 hf
          exact W.lret hx hb hr (fun t ht hW => ⟨⟨_, (), rfl, rfl, by rw [ht]; exact hP, hD⟩, hS.F ht⟩) hS.2.2 dX11_line_126
        · replace hf := it_f hk_25 hf
          by_cases hk_27 : a2 = (2 : Int32)
          · replace hf := it_t hk_27 hf
            refine lv_tableIn (off := 38) (tgt := 127) hx hb dX11_line_89 (by rw [hk_27]; decide) (by rw [hk_27]; decide) (by rw [hk_27]; decide) (by decide) ?_
            refine lv_aload_n hx hb dX11_line_127 rfl (lv_at hl 3 rfl) ?_
            refine va_get (D := (dC, dI)) (ci := 11) (v := .ref h_t_hull) (C := RX11) (T := TX11) (N := 11) hx hb hts in_X11 hown hK hP 0 rfl rfl 2 (Nat.le_of_ble_eq_true rfl) (hts _ qf_X11_28) (fun _ h9 => h9) rfl dX11_line_128 ?_
            refine lv_lload_n hx hb dX11_line_131 rfl (lv_at hl 2 rfl) ?_
            refine lv_lload hx hb dX11_line_132 (lv_at hl 0 rfl) ?_
            obtain ⟨hg_28, hf⟩ := gd_some hf
            refine lv_ldiv hx hb dX11_line_134 (nz_ne hg_28) ?_
            refine lv_lload hx hb dX11_line_135 (lv_at hl 1 rfl) ?_
            refine lv_lload hx hb dX11_line_137 (lv_at hl 0 rfl) ?_
            obtain ⟨hg_29, hf⟩ := gd_some hf
            refine lv_ldiv hx hb dX11_line_139 (nz_ne hg_29) ?_
            obtain ⟨r_30, hq_31, hf⟩ := b1_some hf
            refine xcl (wr := [(h_t, .inr (11, [.ref h_t_cloud, .ref h_t_reader, .ref h_t_hull, .ref h_t_near, .ref h_t_firstTie, .ref h_t_reducer, .ref h_t_chooser, .ref h_t_pair, .ref h_t_divider, .ref h_t_depths, .ref h_t_spot])), (h_t_cloud, .inr (0, [.ref h_t_cloud_x, .ref h_t_cloud_y, .ref h_t_cloud_colour, .ref h_t_cloud_load, .int t_cloud_size, .int t_cloud_centreX, .int t_cloud_centreY])), (h_t_cloud_x, .inl (cI, 24, .inl t_cloud_x)), (h_t_cloud_y, .inl (cI, 24, .inl t_cloud_y)), (h_t_hull_chain, .inl (cI, 48, .inl t_hull_chain_4)), (h_t_hull_sorted, .inl (cI, 24, .inl t_hull_sorted_7)), (h_t_near, .inr (4, [.long t_near_x_9, .long t_near_y_10, .long t_near_lower_11, .long t_near_square_12, .long t_near_squareLower_13, .int t_near_fromX_14, .int t_near_fromY_15]))]) (w2 := [(h_t, .inr (11, [.ref h_t_cloud, .ref h_t_reader, .ref h_t_hull, .ref h_t_near, .ref h_t_firstTie, .ref h_t_reducer, .ref h_t_chooser, .ref h_t_pair, .ref h_t_divider, .ref h_t_depths, .ref h_t_spot])), (h_t_cloud, .inr (0, [.ref h_t_cloud_x, .ref h_t_cloud_y, .ref h_t_cloud_colour, .ref h_t_cloud_load, .int t_cloud_size, .int t_cloud_centreX, .int t_cloud_centreY])), (h_t_cloud_x, .inl (cI, 24, .inl t_cloud_x)), (h_t_cloud_y, .inl (cI, 24, .inl t_cloud_y)), (h_t_hull, .inr (2, [.ref h_t_hull_chain, .ref h_t_hull_x, .ref h_t_hull_y, .ref h_t_hull_sorted, .int t_hull_size_3])), (h_t_hull_chain, .inl (cI, 48, .inl t_hull_chain_4)), (h_t_hull_x, .inl (cI, 48, .inl t_hull_x_5)), (h_t_hull_y, .inl (cI, 48, .inl t_hull_y_6)), (h_t_hull_sorted, .inl (cI, 24, .inl t_hull_sorted_7)), (h_t_near, .inr (4, [.long t_near_x_9, .long t_near_y_10, .long t_near_lower_11, .long t_near_square_12, .long t_near_squareLower_13, .int t_near_fromX_14, .int t_near_fromY_15]))]) (va_runV (As := [.long (r_17 / r_21), .long (r_19 / r_21)]) (rest := []) ⟨hx, hb, hml, hown, hts⟩ (mtX2_leastAlong l dC dI cI cL cB K h_t_hull h_t_hull_chain h_t_hull_x h_t_hull_y h_t_hull_sorted H.size t_hull_size_3 t_hull_x_5 t_hull_y_6 (r_17 / r_21) (r_19 / r_21) r_30 hq_31) (cwV 2 hts gv_X11_209 rfl rfl rfl hdV_X2_leastAlong ⟨Nat.le_trans (Nat.le_of_ble_eq_true rfl) hF, Nat.le_trans (Nat.le_of_ble_eq_true rfl) hLo⟩) (cPreV hK hP hD hT [4, 6, 7] rfl rfl (ci := 2) (q0 := 0) rfl rfl) rfl rfl hl.1 rfl (lv_room (Nat.le_of_ble_eq_true rfl)) dX11_line_140 ⟨Nat.zero_le _, Nat.zero_le _⟩) hP hD hS hA [4, 6, 7] [0, 1, 2, 3, 5, 8, 9] [0, 1, 2, 3, 7, 4, 8, 9, 5, 6] rfl rfl rfl rfl rfl rfl (fun H locs hP hD hS => ?_)
            obtain ⟨rfl, rfl, rfl, rfl, rfl, rfl, rfl, rfl, rfl, rfl, rfl, rfl, rfl⟩ := o13 hf
            exact W.lret hx hb hr (fun t ht hW => ⟨⟨_, (), rfl, rfl, by rw [ht]; exact hP, hD⟩, hS.F ht⟩) hS.2.2 dX11_line_143
          · replace hf := it_f hk_27 hf
            have z0 := lv_neT (a := 0) hk_23 (by decide)
            have z1 := lv_neT (a := 1) hk_25 (by decide)
            have z2 := lv_neT (a := 2) hk_27 (by decide)
            refine lv_tableOut (tgt := 144) hx hb dX11_line_89 (by omega) (by decide) ?_
            refine lv_ldc2 (v := (-9223372036854775808 : Int64)) hx hb hown (hts _ qj_X11_131) dX11_line_144 ?_
            obtain ⟨rfl, rfl, rfl, rfl, rfl, rfl, rfl, rfl, rfl, rfl, rfl, rfl, rfl⟩ := o13 hf
            exact W.lret hx hb hr (fun t ht hW => ⟨⟨_, (), rfl, rfl, by rw [ht]; exact hP, hD⟩, hS.F ht⟩) hS.2.2 dX11_line_147
    · replace hf := it_t ((lg_cmp_eq _ _).mp hc) hf
      refine lv_ldc2 (v := (-9223372036854775808 : Int64)) hx hb hown (hts _ qj_X11_131) dX11_line_84 ?_
      obtain ⟨rfl, rfl, rfl, rfl, rfl, rfl, rfl, rfl, rfl, rfl, rfl, rfl, rfl⟩ := o13 hf
      exact W.lret hx hb hr (fun t ht hW => ⟨⟨_, (), rfl, rfl, by rw [ht]; exact hP, hD⟩, hS.F ht⟩) hS.2.2 dX11_line_87
  · replace hf := it_t (hc) hf
    refine lv_ldc2 (v := (-9223372036854775808 : Int64)) hx hb hown (hts _ qj_X11_131) dX11_line_11 ?_
    obtain ⟨rfl, rfl, rfl, rfl, rfl, rfl, rfl, rfl, rfl, rfl, rfl, rfl, rfl⟩ := o13 hf
    exact W.lret hx hb hr (fun t ht hW => ⟨⟨_, (), rfl, rfl, by rw [ht]; exact hP, hD⟩, hS.F ht⟩) hS.2.2 dX11_line_14
theorem dX10_bindTwo_0 : decode cX10_bindTwo 0 = .ok (.aload_n 0, 1) := by decide +kernel
theorem dX10_bindTwo_1 : decode cX10_bindTwo 1 = .ok (.getfield 13, 3) := by decide +kernel
theorem dX10_bindTwo_4 : decode cX10_bindTwo 4 = .ok (.iconst 0, 1) := by decide +kernel
theorem dX10_bindTwo_5 : decode cX10_bindTwo 5 = .ok (.ldc2_w 46, 3) := by decide +kernel
theorem dX10_bindTwo_8 : decode cX10_bindTwo 8 = .ok (.lastore, 1) := by decide +kernel
theorem dX10_bindTwo_9 : decode cX10_bindTwo 9 = .ok (.aload_n 0, 1) := by decide +kernel
theorem dX10_bindTwo_10 : decode cX10_bindTwo 10 = .ok (.getfield 13, 3) := by decide +kernel
theorem dX10_bindTwo_13 : decode cX10_bindTwo 13 = .ok (.iconst 1, 1) := by decide +kernel
theorem dX10_bindTwo_14 : decode cX10_bindTwo 14 = .ok (.lconst 1, 1) := by decide +kernel
theorem dX10_bindTwo_15 : decode cX10_bindTwo 15 = .ok (.lastore, 1) := by decide +kernel
theorem dX10_bindTwo_16 : decode cX10_bindTwo 16 = .ok (.aload_n 1, 1) := by decide +kernel
theorem dX10_bindTwo_17 : decode cX10_bindTwo 17 = .ok (.aload_n 0, 1) := by decide +kernel
theorem dX10_bindTwo_18 : decode cX10_bindTwo 18 = .ok (.getfield 9, 3) := by decide +kernel
theorem dX10_bindTwo_21 : decode cX10_bindTwo 21 = .ok (.iconst 0, 1) := by decide +kernel
theorem dX10_bindTwo_22 : decode cX10_bindTwo 22 = .ok (.iaload, 1) := by decide +kernel
theorem dX10_bindTwo_23 : decode cX10_bindTwo 23 = .ok (.aload_n 1, 1) := by decide +kernel
theorem dX10_bindTwo_24 : decode cX10_bindTwo 24 = .ok (.getfield 48, 3) := by decide +kernel
theorem dX10_bindTwo_27 : decode cX10_bindTwo 27 = .ok (.aload_n 0, 1) := by decide +kernel
theorem dX10_bindTwo_28 : decode cX10_bindTwo 28 = .ok (.getfield 9, 3) := by decide +kernel
theorem dX10_bindTwo_31 : decode cX10_bindTwo 31 = .ok (.iconst 1, 1) := by decide +kernel
theorem dX10_bindTwo_32 : decode cX10_bindTwo 32 = .ok (.iaload, 1) := by decide +kernel
theorem dX10_bindTwo_33 : decode cX10_bindTwo 33 = .ok (.iaload, 1) := by decide +kernel
theorem dX10_bindTwo_34 : decode cX10_bindTwo 34 = .ok (.aload_n 1, 1) := by decide +kernel
theorem dX10_bindTwo_35 : decode cX10_bindTwo 35 = .ok (.getfield 51, 3) := by decide +kernel
theorem dX10_bindTwo_38 : decode cX10_bindTwo 38 = .ok (.aload_n 0, 1) := by decide +kernel
theorem dX10_bindTwo_39 : decode cX10_bindTwo 39 = .ok (.getfield 9, 3) := by decide +kernel
theorem dX10_bindTwo_42 : decode cX10_bindTwo 42 = .ok (.iconst 1, 1) := by decide +kernel
theorem dX10_bindTwo_43 : decode cX10_bindTwo 43 = .ok (.iaload, 1) := by decide +kernel
theorem dX10_bindTwo_44 : decode cX10_bindTwo 44 = .ok (.iaload, 1) := by decide +kernel
theorem dX10_bindTwo_45 : decode cX10_bindTwo 45 = .ok (.invokevirtual 54, 3) := by decide +kernel
theorem dX10_bindTwo_48 : decode cX10_bindTwo 48 = .ok (.ireturn, 1) := by decide +kernel
set_option maxRecDepth 100000 in
set_option maxHeartbeats 4000000 in
theorem mtX10_bindTwo (l : Launch) (dC : Nat → ClassId) (dI : Nat → Nat → Nat) (cI cL cB : ClassId) (K : Nat) (h_t h_t_member h_t_factor h_p1 h_p1_x h_p1_y h_p1_colour h_p1_load : Nat) (sz : Nat) (t_size : Int32) (t_member : Nat → Int32) (t_factor : Nat → Int64) (p1_size : Int32) (p1_centreX : Int32) (p1_centreY : Int32) (p1_x : Nat → Int32) (p1_y : Nat → Int32) (o_r : Int32) (o_t_factor : Nat → Int64) (hf : fX10_bindTwo K t_member t_factor p1_x p1_y = some (o_r, o_t_factor)) : Met l yX10_bindTwo [Cond.code yX10_bindTwo cX10_bindTwo 2 (some .boolean)] ({ frames := 1, cells := 0, slots := 0, locals := 23 }) (va_Pc [.ref h_t, .ref h_p1] (cPre dC dI cI cL cB sz [(h_t, .inr (10, [.ref h_t_member, .ref h_t_factor, .int t_size])), (h_t_member, .inl (cI, 4, .inl t_member)), (h_t_factor, .inl (cL, 4, .inr (.inl t_factor))), (h_p1, .inr (0, [.ref h_p1_x, .ref h_p1_y, .ref h_p1_colour, .ref h_p1_load, .int p1_size, .int p1_centreX, .int p1_centreY])), (h_p1_x, .inl (cI, 24, .inl p1_x)), (h_p1_y, .inl (cI, 24, .inl p1_y))])) (cQi dC dI (va_A [(h_t, .inr (10, [.ref h_t_member, .ref h_t_factor, .int t_size])), (h_t_member, .inl (cI, 4, .inl t_member)), (h_t_factor, .inl (cL, 4, .inr (.inl t_factor))), (h_p1, .inr (0, [.ref h_p1_x, .ref h_p1_y, .ref h_p1_colour, .ref h_p1_load, .int p1_size, .int p1_centreX, .int p1_centreY])), (h_p1_x, .inl (cI, 24, .inl p1_x)), (h_p1_y, .inl (cI, 24, .inl p1_y))] sz) o_r [(h_t, .inr (10, [.ref h_t_member, .ref h_t_factor, .int t_size])), (h_t_member, .inl (cI, 4, .inl t_member)), (h_t_factor, .inl (cL, 4, .inr (.inl o_t_factor))), (h_p1, .inr (0, [.ref h_p1_x, .ref h_p1_y, .ref h_p1_colour, .ref h_p1_load, .int p1_size, .int p1_centreX, .int p1_centreY])), (h_p1_x, .inl (cI, 24, .inl p1_x)), (h_p1_y, .inl (cI, 24, .inl p1_y))]) 0 0 (va_A [(h_t, .inr (10, [.ref h_t_member, .ref h_t_factor, .int t_size])), (h_t_member, .inl (cI, 4, .inl t_member)), (h_t_factor, .inl (cL, 4, .inr (.inl t_factor))), (h_p1, .inr (0, [.ref h_p1_x, .ref h_p1_y, .ref h_p1_colour, .ref h_p1_load, .int p1_size, .int p1_centreX, .int p1_centreY])), (h_p1_x, .inl (cI, 24, .inl p1_x)), (h_p1_y, .inl (cI, 24, .inl p1_y))] sz) := by
  refine Met.ofW (cc := cX10_bindTwo) (maxL := 2) (ret := (some .boolean)) (by decide) rfl ?_
  intro p e s m args below meth c s₁ B hml hv
  obtain ⟨rfl, hsz, hP, hK, hD0, hT⟩ := hv
  have hx := B.exec
  have hb := B.bytes
  have hr := B.returns
  have hown : s.vm.findClass RX10 = some m.cls := findClass_of_methodNamed B.named
  have hlocks := B.notSynchronized
  have hts := TB.use hT ([.ref h_t, .ref h_p1] : List Value).toArray
  subst hsz
  have hD := hD0.self (sz := s.heap.size)
  generalize hAe : va_A [(h_t, .inr (10, [.ref h_t_member, .ref h_t_factor, .int t_size])), (h_t_member, .inl (cI, 4, .inl t_member)), (h_t_factor, .inl (cL, 4, .inr (.inl t_factor))), (h_p1, .inr (0, [.ref h_p1_x, .ref h_p1_y, .ref h_p1_colour, .ref h_p1_load, .int p1_size, .int p1_centreX, .int p1_centreY])), (h_p1_x, .inl (cI, 24, .inl p1_x)), (h_p1_y, .inl (cI, 24, .inl p1_y))] s.heap.size = A at hD ⊢
  have hA : ∀ q : Nat, s.heap.size ≤ q → A q := fun q h => by rw [← hAe]; exact Or.inr h
  clear hAe hD0
  have hl := lv_entry ([.ref h_t, .ref h_p1]) (n := 2) (Nat.le_of_ble_eq_true rfl)
  rw [lg_entry_eq]
  generalize (lg_sl ([.ref h_t, .ref h_p1]) ++ List.replicate (2 - (lg_sl ([.ref h_t, .ref h_p1])).length) Slot.unset).toArray = ls at hl ⊢
  have hl : lv_has ls 2 [(0, .ref h_t), (1, .ref h_p1)] := hl
  have hF : 1 ≤ (headSpec [Cond.code yX10_bindTwo cX10_bindTwo 2 (some .boolean)] ({ frames := 1, cells := 0, slots := 0, locals := 23 })).room.frames := Nat.le_refl _
  have hLo : 23 ≤ (headSpec [Cond.code yX10_bindTwo cX10_bindTwo 2 (some .boolean)] ({ frames := 1, cells := 0, slots := 0, locals := 23 })).room.locals := Nat.le_refl _
  have C0 : Sx p (headSpec [Cond.code yX10_bindTwo cX10_bindTwo 2 (some .boolean)] ({ frames := 1, cells := 0, slots := 0, locals := 23 })).room s m ([.ref h_t, .ref h_p1] : List Value).toArray c cX10_bindTwo 2 RX10 A dC dI cI cL cB 1 23 := ⟨hx, hb, hml, hown, hts, hK, hT, hA, hF, hLo⟩
  refine startH (A := A) hP (fun H locs hP hS => ?_)
  rw [fX10_bindTwo] at hf
  refine lv_aload_n hx hb dX10_bindTwo_0 rfl (lv_at hl 0 rfl) ?_
  refine va_get (D := (dC, dI)) (ci := 10) (v := .ref h_t_factor) (C := RX10) (T := TX10) (N := 3) hx hb hts in_X10 hown hK hP 0 rfl rfl 1 (Nat.le_of_ble_eq_true rfl) (hts _ qf_X10_13) (fun _ h9 => h9) rfl dX10_bindTwo_1 ?_
  refine lv_iconst (v := (0 : Int32)) hx hb dX10_bindTwo_4 (by decide) ?_
  refine lv_ldc2 (v := (-1 : Int64)) hx hb hown (hts _ qj_X10_46) dX10_bindTwo_5 ?_
  obtain ⟨t_factor_1, et_factor_1⟩ : ∃ y : Nat → Int64, y = vp_updL t_factor (0 : Int32).toNatClampNeg (-1 : Int64) := ⟨_, rfl⟩
  replace hf := xl_at hf et_factor_1
  refine xlast (w2 := [(h_t, .inr (10, [.ref h_t_member, .ref h_t_factor, .int t_size])), (h_t_member, .inl (cI, 4, .inl t_member)), (h_t_factor, .inl (cL, 4, .inr (.inl t_factor_1))), (h_p1, .inr (0, [.ref h_p1_x, .ref h_p1_y, .ref h_p1_colour, .ref h_p1_load, .int p1_size, .int p1_centreX, .int p1_centreY])), (h_p1_x, .inl (cI, 24, .inl p1_x)), (h_p1_y, .inl (cI, 24, .inl p1_y))]) hx hb hK hP hD hS 2 1 rfl rfl (inb_in (by decide)) et_factor_1 rfl dX10_bindTwo_8 (fun H locs hP hD hS => ?_)
  refine lv_aload_n hx hb dX10_bindTwo_9 rfl (lv_at hl 0 rfl) ?_
  refine va_get (D := (dC, dI)) (ci := 10) (v := .ref h_t_factor) (C := RX10) (T := TX10) (N := 3) hx hb hts in_X10 hown hK hP 0 rfl rfl 1 (Nat.le_of_ble_eq_true rfl) (hts _ qf_X10_13) (fun _ h9 => h9) rfl dX10_bindTwo_10 ?_
  refine lv_iconst (v := (1 : Int32)) hx hb dX10_bindTwo_13 (by decide) ?_
  refine lv_lconst (v := (1 : Int64)) hx hb dX10_bindTwo_14 (by decide) ?_
  obtain ⟨t_factor_2, et_factor_2⟩ : ∃ y : Nat → Int64, y = vp_updL t_factor_1 (1 : Int32).toNatClampNeg (1 : Int64) := ⟨_, rfl⟩
  replace hf := xl_at hf et_factor_2
  refine xlast (w2 := [(h_t, .inr (10, [.ref h_t_member, .ref h_t_factor, .int t_size])), (h_t_member, .inl (cI, 4, .inl t_member)), (h_t_factor, .inl (cL, 4, .inr (.inl t_factor_2))), (h_p1, .inr (0, [.ref h_p1_x, .ref h_p1_y, .ref h_p1_colour, .ref h_p1_load, .int p1_size, .int p1_centreX, .int p1_centreY])), (h_p1_x, .inl (cI, 24, .inl p1_x)), (h_p1_y, .inl (cI, 24, .inl p1_y))]) hx hb hK hP hD hS 2 1 rfl rfl (inb_in (by decide)) et_factor_2 rfl dX10_bindTwo_15 (fun H locs hP hD hS => ?_)
  refine lv_aload_n hx hb dX10_bindTwo_16 rfl (lv_at hl 1 rfl) ?_
  refine lv_aload_n hx hb dX10_bindTwo_17 rfl (lv_at hl 0 rfl) ?_
  refine va_get (D := (dC, dI)) (ci := 10) (v := .ref h_t_member) (C := RX10) (T := TX10) (N := 3) hx hb hts in_X10 hown hK hP 0 rfl rfl 0 (Nat.le_of_ble_eq_true rfl) (hts _ qf_X10_9) (fun _ h9 => h9) rfl dX10_bindTwo_18 ?_
  refine lv_iconst (v := (0 : Int32)) hx hb dX10_bindTwo_21 (by decide) ?_
  refine va_iald hx hb hK hP 1 0 rfl rfl (inb_in (by decide)) dX10_bindTwo_22 ?_
  refine lv_aload_n hx hb dX10_bindTwo_23 rfl (lv_at hl 1 rfl) ?_
  refine va_get (D := (dC, dI)) (ci := 0) (v := .ref h_p1_x) (C := RX0) (T := TX0) (N := 7) hx hb hts in_X0 hown hK hP 3 rfl rfl 0 (Nat.le_of_ble_eq_true rfl) (hts _ qf_X10_48) (fun _ h9 => h9) rfl dX10_bindTwo_24 ?_
  refine lv_aload_n hx hb dX10_bindTwo_27 rfl (lv_at hl 0 rfl) ?_
  refine va_get (D := (dC, dI)) (ci := 10) (v := .ref h_t_member) (C := RX10) (T := TX10) (N := 3) hx hb hts in_X10 hown hK hP 0 rfl rfl 0 (Nat.le_of_ble_eq_true rfl) (hts _ qf_X10_9) (fun _ h9 => h9) rfl dX10_bindTwo_28 ?_
  refine lv_iconst (v := (1 : Int32)) hx hb dX10_bindTwo_31 (by decide) ?_
  refine va_iald hx hb hK hP 1 0 rfl rfl (inb_in (by decide)) dX10_bindTwo_32 ?_
  obtain ⟨hg_3, hf⟩ := gd_some hf
  refine va_iald hx hb hK hP 4 0 rfl rfl (inb_in hg_3) dX10_bindTwo_33 ?_
  refine lv_aload_n hx hb dX10_bindTwo_34 rfl (lv_at hl 1 rfl) ?_
  refine va_get (D := (dC, dI)) (ci := 0) (v := .ref h_p1_y) (C := RX0) (T := TX0) (N := 7) hx hb hts in_X0 hown hK hP 3 rfl rfl 1 (Nat.le_of_ble_eq_true rfl) (hts _ qf_X10_51) (fun _ h9 => h9) rfl dX10_bindTwo_35 ?_
  refine lv_aload_n hx hb dX10_bindTwo_38 rfl (lv_at hl 0 rfl) ?_
  refine va_get (D := (dC, dI)) (ci := 10) (v := .ref h_t_member) (C := RX10) (T := TX10) (N := 3) hx hb hts in_X10 hown hK hP 0 rfl rfl 0 (Nat.le_of_ble_eq_true rfl) (hts _ qf_X10_9) (fun _ h9 => h9) rfl dX10_bindTwo_39 ?_
  refine lv_iconst (v := (1 : Int32)) hx hb dX10_bindTwo_42 (by decide) ?_
  refine va_iald hx hb hK hP 1 0 rfl rfl (inb_in (by decide)) dX10_bindTwo_43 ?_
  obtain ⟨hg_4, hf⟩ := gd_some hf
  refine va_iald hx hb hK hP 5 0 rfl rfl (inb_in hg_4) dX10_bindTwo_44 ?_
  obtain ⟨r_5, hq_6, hf⟩ := b1_some hf
  refine xci (wr := [(h_t, .inr (10, [.ref h_t_member, .ref h_t_factor, .int t_size])), (h_t_member, .inl (cI, 4, .inl t_member)), (h_t_factor, .inl (cL, 4, .inr (.inl t_factor_2)))]) (w2 := [(h_t, .inr (10, [.ref h_t_member, .ref h_t_factor, .int t_size])), (h_t_member, .inl (cI, 4, .inl t_member)), (h_t_factor, .inl (cL, 4, .inr (.inl t_factor_2))), (h_p1, .inr (0, [.ref h_p1_x, .ref h_p1_y, .ref h_p1_colour, .ref h_p1_load, .int p1_size, .int p1_centreX, .int p1_centreY])), (h_p1_x, .inl (cI, 24, .inl p1_x)), (h_p1_y, .inl (cI, 24, .inl p1_y))]) (va_runV (As := [.int (t_member (0 : Int32).toNatClampNeg), .int (p1_x (t_member (1 : Int32).toNatClampNeg).toNatClampNeg), .int (p1_y (t_member (1 : Int32).toNatClampNeg).toNatClampNeg)]) (rest := []) ⟨hx, hb, hml, hown, hts⟩ (mtX0_isAt l dC dI cI cL cB K h_p1 h_p1_x h_p1_y h_p1_colour h_p1_load H.size p1_size p1_centreX p1_centreY p1_x p1_y (t_member (0 : Int32).toNatClampNeg) (p1_x (t_member (1 : Int32).toNatClampNeg).toNatClampNeg) (p1_y (t_member (1 : Int32).toNatClampNeg).toNatClampNeg) r_5 hq_6) (cwV 3 hts gv_X10_54 rfl rfl rfl hdV_X0_isAt ⟨Nat.le_trans (Nat.le_of_ble_eq_true rfl) hF, Nat.le_trans (Nat.le_of_ble_eq_true rfl) hLo⟩) (cPreV hK hP hD hT [3, 4, 5] rfl rfl (ci := 0) (q0 := 0) rfl rfl) rfl rfl hl.1 rfl (lv_room (Nat.le_of_ble_eq_true rfl)) dX10_bindTwo_45 ⟨Nat.zero_le _, Nat.zero_le _⟩) hP hD hS hA [3, 4, 5] [0, 1, 2] [0, 1, 2, 3, 4, 5] rfl rfl rfl rfl rfl rfl (fun H locs hP hD hS => ?_)
  obtain ⟨hg_7, hf⟩ := gd_some hf
  obtain ⟨rfl, rfl⟩ := o2 hf
  exact W.zret hx hb hr (z01_b hg_7) (fun t ht hW => ⟨⟨_, (), rfl, rfl, by rw [ht]; exact hP, hD⟩, hS.F ht⟩) hS.2.2 dX10_bindTwo_48
theorem dX11_cross_0 : decode cX11_cross 0 = .ok (.lload_n 0, 1) := by decide +kernel
theorem dX11_cross_1 : decode cX11_cross 1 = .ok (.lload 6, 2) := by decide +kernel
theorem dX11_cross_3 : decode cX11_cross 3 = .ok (.lmul, 1) := by decide +kernel
theorem dX11_cross_4 : decode cX11_cross 4 = .ok (.lload_n 2, 1) := by decide +kernel
theorem dX11_cross_5 : decode cX11_cross 5 = .ok (.lload 4, 2) := by decide +kernel
theorem dX11_cross_7 : decode cX11_cross 7 = .ok (.lmul, 1) := by decide +kernel
theorem dX11_cross_8 : decode cX11_cross 8 = .ok (.lsub, 1) := by decide +kernel
theorem dX11_cross_9 : decode cX11_cross 9 = .ok (.lreturn, 1) := by decide +kernel
set_option maxRecDepth 100000 in
set_option maxHeartbeats 4000000 in
theorem mtX11_cross (l : Launch) (dC : Nat → ClassId) (dI : Nat → Nat → Nat) (cI cL cB : ClassId) (K : Nat) (sz : Nat) (a0 : Int64) (a2 : Int64) (a4 : Int64) (a6 : Int64) (o_r : Int64) (hf : fX11_cross K a0 a2 a4 a6 = some o_r) : Met l yX11_cross [Cond.code yX11_cross cX11_cross 8 (some .long)] ({ frames := 0, cells := 0, slots := 0, locals := 0 }) (va_Pc [.long a0, .long a2, .long a4, .long a6] (cPre dC dI cI cL cB sz [])) (cQl dC dI (va_A [] sz) o_r []) 0 0 (va_A [] sz) := by
  refine Met.ofW (cc := cX11_cross) (maxL := 8) (ret := (some .long)) (by decide) rfl ?_
  intro p e s m args below meth c s₁ B hml hv
  obtain ⟨rfl, hsz, hP, hK, hD0, hT⟩ := hv
  have hx := B.exec
  have hb := B.bytes
  have hr := B.returns
  have hown : s.vm.findClass RX11 = some m.cls := findClass_of_methodNamed B.named
  have hlocks := B.notSynchronized
  have hts := TB.use hT ([.long a0, .long a2, .long a4, .long a6] : List Value).toArray
  subst hsz
  have hD := hD0.self (sz := s.heap.size)
  generalize hAe : va_A [] s.heap.size = A at hD ⊢
  have hA : ∀ q : Nat, s.heap.size ≤ q → A q := fun q h => by rw [← hAe]; exact Or.inr h
  clear hAe hD0
  have hl := lv_entry ([.long a0, .long a2, .long a4, .long a6]) (n := 8) (Nat.le_of_ble_eq_true rfl)
  rw [lg_entry_eq]
  generalize (lg_sl ([.long a0, .long a2, .long a4, .long a6]) ++ List.replicate (8 - (lg_sl ([.long a0, .long a2, .long a4, .long a6])).length) Slot.unset).toArray = ls at hl ⊢
  have hl : lv_has ls 8 [(0, .long a0), (2, .long a2), (4, .long a4), (6, .long a6)] := hl
  have hF : 0 ≤ (headSpec [Cond.code yX11_cross cX11_cross 8 (some .long)] ({ frames := 0, cells := 0, slots := 0, locals := 0 })).room.frames := Nat.le_refl _
  have hLo : 0 ≤ (headSpec [Cond.code yX11_cross cX11_cross 8 (some .long)] ({ frames := 0, cells := 0, slots := 0, locals := 0 })).room.locals := Nat.le_refl _
  have C0 : Sx p (headSpec [Cond.code yX11_cross cX11_cross 8 (some .long)] ({ frames := 0, cells := 0, slots := 0, locals := 0 })).room s m ([.long a0, .long a2, .long a4, .long a6] : List Value).toArray c cX11_cross 8 RX11 A dC dI cI cL cB 0 0 := ⟨hx, hb, hml, hown, hts, hK, hT, hA, hF, hLo⟩
  refine startH (A := A) hP (fun H locs hP hS => ?_)
  rw [fX11_cross] at hf
  refine lv_lload_n hx hb dX11_cross_0 rfl (lv_at hl 0 rfl) ?_
  refine lv_lload hx hb dX11_cross_1 (lv_at hl 3 rfl) ?_
  refine lv_lmul hx hb dX11_cross_3 ?_
  refine lv_lload_n hx hb dX11_cross_4 rfl (lv_at hl 1 rfl) ?_
  refine lv_lload hx hb dX11_cross_5 (lv_at hl 2 rfl) ?_
  refine lv_lmul hx hb dX11_cross_7 ?_
  refine lv_lsub hx hb dX11_cross_8 ?_
  obtain rfl := o1 hf
  exact W.lret hx hb hr (fun t ht hW => ⟨⟨_, (), rfl, rfl, by rw [ht]; exact hP, hD⟩, hS.F ht⟩) hS.2.2 dX11_cross_9
theorem dX10_bindThree_0 : decode cX10_bindThree 0 = .ok (.aload_n 1, 1) := by decide +kernel
theorem dX10_bindThree_1 : decode cX10_bindThree 1 = .ok (.getfield 48, 3) := by decide +kernel
theorem dX10_bindThree_4 : decode cX10_bindThree 4 = .ok (.aload_n 0, 1) := by decide +kernel
theorem dX10_bindThree_5 : decode cX10_bindThree 5 = .ok (.getfield 9, 3) := by decide +kernel
theorem dX10_bindThree_8 : decode cX10_bindThree 8 = .ok (.iconst 1, 1) := by decide +kernel
theorem dX10_bindThree_9 : decode cX10_bindThree 9 = .ok (.iaload, 1) := by decide +kernel
theorem dX10_bindThree_10 : decode cX10_bindThree 10 = .ok (.iaload, 1) := by decide +kernel
theorem dX10_bindThree_11 : decode cX10_bindThree 11 = .ok (.aload_n 1, 1) := by decide +kernel
theorem dX10_bindThree_12 : decode cX10_bindThree 12 = .ok (.getfield 48, 3) := by decide +kernel
theorem dX10_bindThree_15 : decode cX10_bindThree 15 = .ok (.aload_n 0, 1) := by decide +kernel
theorem dX10_bindThree_16 : decode cX10_bindThree 16 = .ok (.getfield 9, 3) := by decide +kernel
theorem dX10_bindThree_19 : decode cX10_bindThree 19 = .ok (.iconst 0, 1) := by decide +kernel
theorem dX10_bindThree_20 : decode cX10_bindThree 20 = .ok (.iaload, 1) := by decide +kernel
theorem dX10_bindThree_21 : decode cX10_bindThree 21 = .ok (.iaload, 1) := by decide +kernel
theorem dX10_bindThree_22 : decode cX10_bindThree 22 = .ok (.isub, 1) := by decide +kernel
theorem dX10_bindThree_23 : decode cX10_bindThree 23 = .ok (.i2l, 1) := by decide +kernel
theorem dX10_bindThree_24 : decode cX10_bindThree 24 = .ok (.lstore_n 2, 1) := by decide +kernel
theorem dX10_bindThree_25 : decode cX10_bindThree 25 = .ok (.aload_n 1, 1) := by decide +kernel
theorem dX10_bindThree_26 : decode cX10_bindThree 26 = .ok (.getfield 51, 3) := by decide +kernel
theorem dX10_bindThree_29 : decode cX10_bindThree 29 = .ok (.aload_n 0, 1) := by decide +kernel
theorem dX10_bindThree_30 : decode cX10_bindThree 30 = .ok (.getfield 9, 3) := by decide +kernel
theorem dX10_bindThree_33 : decode cX10_bindThree 33 = .ok (.iconst 1, 1) := by decide +kernel
theorem dX10_bindThree_34 : decode cX10_bindThree 34 = .ok (.iaload, 1) := by decide +kernel
theorem dX10_bindThree_35 : decode cX10_bindThree 35 = .ok (.iaload, 1) := by decide +kernel
theorem dX10_bindThree_36 : decode cX10_bindThree 36 = .ok (.aload_n 1, 1) := by decide +kernel
theorem dX10_bindThree_37 : decode cX10_bindThree 37 = .ok (.getfield 51, 3) := by decide +kernel
theorem dX10_bindThree_40 : decode cX10_bindThree 40 = .ok (.aload_n 0, 1) := by decide +kernel
theorem dX10_bindThree_41 : decode cX10_bindThree 41 = .ok (.getfield 9, 3) := by decide +kernel
theorem dX10_bindThree_44 : decode cX10_bindThree 44 = .ok (.iconst 0, 1) := by decide +kernel
theorem dX10_bindThree_45 : decode cX10_bindThree 45 = .ok (.iaload, 1) := by decide +kernel
theorem dX10_bindThree_46 : decode cX10_bindThree 46 = .ok (.iaload, 1) := by decide +kernel
theorem dX10_bindThree_47 : decode cX10_bindThree 47 = .ok (.isub, 1) := by decide +kernel
theorem dX10_bindThree_48 : decode cX10_bindThree 48 = .ok (.i2l, 1) := by decide +kernel
theorem dX10_bindThree_49 : decode cX10_bindThree 49 = .ok (.lstore 4, 2) := by decide +kernel
theorem dX10_bindThree_51 : decode cX10_bindThree 51 = .ok (.aload_n 1, 1) := by decide +kernel
theorem dX10_bindThree_52 : decode cX10_bindThree 52 = .ok (.getfield 48, 3) := by decide +kernel
theorem dX10_bindThree_55 : decode cX10_bindThree 55 = .ok (.aload_n 0, 1) := by decide +kernel
theorem dX10_bindThree_56 : decode cX10_bindThree 56 = .ok (.getfield 9, 3) := by decide +kernel
theorem dX10_bindThree_59 : decode cX10_bindThree 59 = .ok (.iconst 2, 1) := by decide +kernel
theorem dX10_bindThree_60 : decode cX10_bindThree 60 = .ok (.iaload, 1) := by decide +kernel
theorem dX10_bindThree_61 : decode cX10_bindThree 61 = .ok (.iaload, 1) := by decide +kernel
theorem dX10_bindThree_62 : decode cX10_bindThree 62 = .ok (.aload_n 1, 1) := by decide +kernel
theorem dX10_bindThree_63 : decode cX10_bindThree 63 = .ok (.getfield 48, 3) := by decide +kernel
theorem dX10_bindThree_66 : decode cX10_bindThree 66 = .ok (.aload_n 0, 1) := by decide +kernel
theorem dX10_bindThree_67 : decode cX10_bindThree 67 = .ok (.getfield 9, 3) := by decide +kernel
theorem dX10_bindThree_70 : decode cX10_bindThree 70 = .ok (.iconst 0, 1) := by decide +kernel
theorem dX10_bindThree_71 : decode cX10_bindThree 71 = .ok (.iaload, 1) := by decide +kernel
theorem dX10_bindThree_72 : decode cX10_bindThree 72 = .ok (.iaload, 1) := by decide +kernel
theorem dX10_bindThree_73 : decode cX10_bindThree 73 = .ok (.isub, 1) := by decide +kernel
theorem dX10_bindThree_74 : decode cX10_bindThree 74 = .ok (.i2l, 1) := by decide +kernel
theorem dX10_bindThree_75 : decode cX10_bindThree 75 = .ok (.lstore 6, 2) := by decide +kernel
theorem dX10_bindThree_77 : decode cX10_bindThree 77 = .ok (.aload_n 1, 1) := by decide +kernel
theorem dX10_bindThree_78 : decode cX10_bindThree 78 = .ok (.getfield 51, 3) := by decide +kernel
theorem dX10_bindThree_81 : decode cX10_bindThree 81 = .ok (.aload_n 0, 1) := by decide +kernel
theorem dX10_bindThree_82 : decode cX10_bindThree 82 = .ok (.getfield 9, 3) := by decide +kernel
theorem dX10_bindThree_85 : decode cX10_bindThree 85 = .ok (.iconst 2, 1) := by decide +kernel
theorem dX10_bindThree_86 : decode cX10_bindThree 86 = .ok (.iaload, 1) := by decide +kernel
theorem dX10_bindThree_87 : decode cX10_bindThree 87 = .ok (.iaload, 1) := by decide +kernel
theorem dX10_bindThree_88 : decode cX10_bindThree 88 = .ok (.aload_n 1, 1) := by decide +kernel
theorem dX10_bindThree_89 : decode cX10_bindThree 89 = .ok (.getfield 51, 3) := by decide +kernel
theorem dX10_bindThree_92 : decode cX10_bindThree 92 = .ok (.aload_n 0, 1) := by decide +kernel
theorem dX10_bindThree_93 : decode cX10_bindThree 93 = .ok (.getfield 9, 3) := by decide +kernel
theorem dX10_bindThree_96 : decode cX10_bindThree 96 = .ok (.iconst 0, 1) := by decide +kernel
theorem dX10_bindThree_97 : decode cX10_bindThree 97 = .ok (.iaload, 1) := by decide +kernel
theorem dX10_bindThree_98 : decode cX10_bindThree 98 = .ok (.iaload, 1) := by decide +kernel
theorem dX10_bindThree_99 : decode cX10_bindThree 99 = .ok (.isub, 1) := by decide +kernel
theorem dX10_bindThree_100 : decode cX10_bindThree 100 = .ok (.i2l, 1) := by decide +kernel
theorem dX10_bindThree_101 : decode cX10_bindThree 101 = .ok (.lstore 8, 2) := by decide +kernel
theorem dX10_bindThree_103 : decode cX10_bindThree 103 = .ok (.lload_n 2, 1) := by decide +kernel
theorem dX10_bindThree_104 : decode cX10_bindThree 104 = .ok (.lload_n 2, 1) := by decide +kernel
theorem dX10_bindThree_105 : decode cX10_bindThree 105 = .ok (.lmul, 1) := by decide +kernel
theorem dX10_bindThree_106 : decode cX10_bindThree 106 = .ok (.lload 4, 2) := by decide +kernel
theorem dX10_bindThree_108 : decode cX10_bindThree 108 = .ok (.lload 4, 2) := by decide +kernel
theorem dX10_bindThree_110 : decode cX10_bindThree 110 = .ok (.lmul, 1) := by decide +kernel
theorem dX10_bindThree_111 : decode cX10_bindThree 111 = .ok (.ladd, 1) := by decide +kernel
theorem dX10_bindThree_112 : decode cX10_bindThree 112 = .ok (.lstore 10, 2) := by decide +kernel
theorem dX10_bindThree_114 : decode cX10_bindThree 114 = .ok (.lload_n 2, 1) := by decide +kernel
theorem dX10_bindThree_115 : decode cX10_bindThree 115 = .ok (.lload 6, 2) := by decide +kernel
theorem dX10_bindThree_117 : decode cX10_bindThree 117 = .ok (.lmul, 1) := by decide +kernel
theorem dX10_bindThree_118 : decode cX10_bindThree 118 = .ok (.lload 4, 2) := by decide +kernel
theorem dX10_bindThree_120 : decode cX10_bindThree 120 = .ok (.lload 8, 2) := by decide +kernel
theorem dX10_bindThree_122 : decode cX10_bindThree 122 = .ok (.lmul, 1) := by decide +kernel
theorem dX10_bindThree_123 : decode cX10_bindThree 123 = .ok (.ladd, 1) := by decide +kernel
theorem dX10_bindThree_124 : decode cX10_bindThree 124 = .ok (.lstore 12, 2) := by decide +kernel
theorem dX10_bindThree_126 : decode cX10_bindThree 126 = .ok (.aload_n 0, 1) := by decide +kernel
theorem dX10_bindThree_127 : decode cX10_bindThree 127 = .ok (.getfield 13, 3) := by decide +kernel
theorem dX10_bindThree_130 : decode cX10_bindThree 130 = .ok (.iconst 0, 1) := by decide +kernel
theorem dX10_bindThree_131 : decode cX10_bindThree 131 = .ok (.lload 12, 2) := by decide +kernel
theorem dX10_bindThree_133 : decode cX10_bindThree 133 = .ok (.lload 10, 2) := by decide +kernel
theorem dX10_bindThree_135 : decode cX10_bindThree 135 = .ok (.lsub, 1) := by decide +kernel
theorem dX10_bindThree_136 : decode cX10_bindThree 136 = .ok (.lastore, 1) := by decide +kernel
theorem dX10_bindThree_137 : decode cX10_bindThree 137 = .ok (.aload_n 0, 1) := by decide +kernel
theorem dX10_bindThree_138 : decode cX10_bindThree 138 = .ok (.getfield 13, 3) := by decide +kernel
theorem dX10_bindThree_141 : decode cX10_bindThree 141 = .ok (.iconst 1, 1) := by decide +kernel
theorem dX10_bindThree_142 : decode cX10_bindThree 142 = .ok (.lload 12, 2) := by decide +kernel
theorem dX10_bindThree_144 : decode cX10_bindThree 144 = .ok (.lneg, 1) := by decide +kernel
theorem dX10_bindThree_145 : decode cX10_bindThree 145 = .ok (.lastore, 1) := by decide +kernel
theorem dX10_bindThree_146 : decode cX10_bindThree 146 = .ok (.aload_n 0, 1) := by decide +kernel
theorem dX10_bindThree_147 : decode cX10_bindThree 147 = .ok (.getfield 13, 3) := by decide +kernel
theorem dX10_bindThree_150 : decode cX10_bindThree 150 = .ok (.iconst 2, 1) := by decide +kernel
theorem dX10_bindThree_151 : decode cX10_bindThree 151 = .ok (.lload 10, 2) := by decide +kernel
theorem dX10_bindThree_153 : decode cX10_bindThree 153 = .ok (.lastore, 1) := by decide +kernel
theorem dX10_bindThree_154 : decode cX10_bindThree 154 = .ok (.lload_n 2, 1) := by decide +kernel
theorem dX10_bindThree_155 : decode cX10_bindThree 155 = .ok (.lload 4, 2) := by decide +kernel
theorem dX10_bindThree_157 : decode cX10_bindThree 157 = .ok (.lload 6, 2) := by decide +kernel
theorem dX10_bindThree_159 : decode cX10_bindThree 159 = .ok (.lload 8, 2) := by decide +kernel
theorem dX10_bindThree_161 : decode cX10_bindThree 161 = .ok (.invokestatic 58, 3) := by decide +kernel
theorem dX10_bindThree_164 : decode cX10_bindThree 164 = .ok (.lconst 0, 1) := by decide +kernel
theorem dX10_bindThree_165 : decode cX10_bindThree 165 = .ok (.lcmp, 1) := by decide +kernel
theorem dX10_bindThree_166 : decode cX10_bindThree 166 = .ok (.ifCond .ne 7, 3) := by decide +kernel
theorem dX10_bindThree_169 : decode cX10_bindThree 169 = .ok (.iconst 1, 1) := by decide +kernel
theorem dX10_bindThree_170 : decode cX10_bindThree 170 = .ok (.goto 4, 3) := by decide +kernel
theorem dX10_bindThree_173 : decode cX10_bindThree 173 = .ok (.iconst 0, 1) := by decide +kernel
theorem dX10_bindThree_174 : decode cX10_bindThree 174 = .ok (.ireturn, 1) := by decide +kernel
set_option maxRecDepth 100000 in
set_option maxHeartbeats 4000000 in
theorem mtX10_bindThree (l : Launch) (dC : Nat → ClassId) (dI : Nat → Nat → Nat) (cI cL cB : ClassId) (K : Nat) (h_t h_t_member h_t_factor h_p1 h_p1_x h_p1_y h_p1_colour h_p1_load : Nat) (sz : Nat) (t_size : Int32) (t_member : Nat → Int32) (t_factor : Nat → Int64) (p1_size : Int32) (p1_centreX : Int32) (p1_centreY : Int32) (p1_x : Nat → Int32) (p1_y : Nat → Int32) (o_r : Int32) (o_t_factor : Nat → Int64) (hf : fX10_bindThree K t_member t_factor p1_x p1_y = some (o_r, o_t_factor)) : Met l yX10_bindThree [Cond.code yX10_bindThree cX10_bindThree 14 (some .boolean)] ({ frames := 1, cells := 0, slots := 0, locals := 27 }) (va_Pc [.ref h_t, .ref h_p1] (cPre dC dI cI cL cB sz [(h_t, .inr (10, [.ref h_t_member, .ref h_t_factor, .int t_size])), (h_t_member, .inl (cI, 4, .inl t_member)), (h_t_factor, .inl (cL, 4, .inr (.inl t_factor))), (h_p1, .inr (0, [.ref h_p1_x, .ref h_p1_y, .ref h_p1_colour, .ref h_p1_load, .int p1_size, .int p1_centreX, .int p1_centreY])), (h_p1_x, .inl (cI, 24, .inl p1_x)), (h_p1_y, .inl (cI, 24, .inl p1_y))])) (cQi dC dI (va_A [(h_t, .inr (10, [.ref h_t_member, .ref h_t_factor, .int t_size])), (h_t_member, .inl (cI, 4, .inl t_member)), (h_t_factor, .inl (cL, 4, .inr (.inl t_factor))), (h_p1, .inr (0, [.ref h_p1_x, .ref h_p1_y, .ref h_p1_colour, .ref h_p1_load, .int p1_size, .int p1_centreX, .int p1_centreY])), (h_p1_x, .inl (cI, 24, .inl p1_x)), (h_p1_y, .inl (cI, 24, .inl p1_y))] sz) o_r [(h_t, .inr (10, [.ref h_t_member, .ref h_t_factor, .int t_size])), (h_t_member, .inl (cI, 4, .inl t_member)), (h_t_factor, .inl (cL, 4, .inr (.inl o_t_factor))), (h_p1, .inr (0, [.ref h_p1_x, .ref h_p1_y, .ref h_p1_colour, .ref h_p1_load, .int p1_size, .int p1_centreX, .int p1_centreY])), (h_p1_x, .inl (cI, 24, .inl p1_x)), (h_p1_y, .inl (cI, 24, .inl p1_y))]) 0 0 (va_A [(h_t, .inr (10, [.ref h_t_member, .ref h_t_factor, .int t_size])), (h_t_member, .inl (cI, 4, .inl t_member)), (h_t_factor, .inl (cL, 4, .inr (.inl t_factor))), (h_p1, .inr (0, [.ref h_p1_x, .ref h_p1_y, .ref h_p1_colour, .ref h_p1_load, .int p1_size, .int p1_centreX, .int p1_centreY])), (h_p1_x, .inl (cI, 24, .inl p1_x)), (h_p1_y, .inl (cI, 24, .inl p1_y))] sz) := by
  refine Met.ofW (cc := cX10_bindThree) (maxL := 14) (ret := (some .boolean)) (by decide) rfl ?_
  intro p e s m args below meth c s₁ B hml hv
  obtain ⟨rfl, hsz, hP, hK, hD0, hT⟩ := hv
  have hx := B.exec
  have hb := B.bytes
  have hr := B.returns
  have hown : s.vm.findClass RX10 = some m.cls := findClass_of_methodNamed B.named
  have hlocks := B.notSynchronized
  have hts := TB.use hT ([.ref h_t, .ref h_p1] : List Value).toArray
  subst hsz
  have hD := hD0.self (sz := s.heap.size)
  generalize hAe : va_A [(h_t, .inr (10, [.ref h_t_member, .ref h_t_factor, .int t_size])), (h_t_member, .inl (cI, 4, .inl t_member)), (h_t_factor, .inl (cL, 4, .inr (.inl t_factor))), (h_p1, .inr (0, [.ref h_p1_x, .ref h_p1_y, .ref h_p1_colour, .ref h_p1_load, .int p1_size, .int p1_centreX, .int p1_centreY])), (h_p1_x, .inl (cI, 24, .inl p1_x)), (h_p1_y, .inl (cI, 24, .inl p1_y))] s.heap.size = A at hD ⊢
  have hA : ∀ q : Nat, s.heap.size ≤ q → A q := fun q h => by rw [← hAe]; exact Or.inr h
  clear hAe hD0
  have hl := lv_entry ([.ref h_t, .ref h_p1]) (n := 14) (Nat.le_of_ble_eq_true rfl)
  rw [lg_entry_eq]
  generalize (lg_sl ([.ref h_t, .ref h_p1]) ++ List.replicate (14 - (lg_sl ([.ref h_t, .ref h_p1])).length) Slot.unset).toArray = ls at hl ⊢
  have hl : lv_has ls 14 [(0, .ref h_t), (1, .ref h_p1)] := hl
  have hF : 1 ≤ (headSpec [Cond.code yX10_bindThree cX10_bindThree 14 (some .boolean)] ({ frames := 1, cells := 0, slots := 0, locals := 27 })).room.frames := Nat.le_refl _
  have hLo : 27 ≤ (headSpec [Cond.code yX10_bindThree cX10_bindThree 14 (some .boolean)] ({ frames := 1, cells := 0, slots := 0, locals := 27 })).room.locals := Nat.le_refl _
  have C0 : Sx p (headSpec [Cond.code yX10_bindThree cX10_bindThree 14 (some .boolean)] ({ frames := 1, cells := 0, slots := 0, locals := 27 })).room s m ([.ref h_t, .ref h_p1] : List Value).toArray c cX10_bindThree 14 RX10 A dC dI cI cL cB 1 27 := ⟨hx, hb, hml, hown, hts, hK, hT, hA, hF, hLo⟩
  refine startH (A := A) hP (fun H locs hP hS => ?_)
  rw [fX10_bindThree] at hf
  refine lv_aload_n hx hb dX10_bindThree_0 rfl (lv_at hl 1 rfl) ?_
  refine va_get (D := (dC, dI)) (ci := 0) (v := .ref h_p1_x) (C := RX0) (T := TX0) (N := 7) hx hb hts in_X0 hown hK hP 3 rfl rfl 0 (Nat.le_of_ble_eq_true rfl) (hts _ qf_X10_48) (fun _ h9 => h9) rfl dX10_bindThree_1 ?_
  refine lv_aload_n hx hb dX10_bindThree_4 rfl (lv_at hl 0 rfl) ?_
  refine va_get (D := (dC, dI)) (ci := 10) (v := .ref h_t_member) (C := RX10) (T := TX10) (N := 3) hx hb hts in_X10 hown hK hP 0 rfl rfl 0 (Nat.le_of_ble_eq_true rfl) (hts _ qf_X10_9) (fun _ h9 => h9) rfl dX10_bindThree_5 ?_
  refine lv_iconst (v := (1 : Int32)) hx hb dX10_bindThree_8 (by decide) ?_
  refine va_iald hx hb hK hP 1 0 rfl rfl (inb_in (by decide)) dX10_bindThree_9 ?_
  obtain ⟨hg_1, hf⟩ := gd_some hf
  refine va_iald hx hb hK hP 4 0 rfl rfl (inb_in hg_1) dX10_bindThree_10 ?_
  refine lv_aload_n hx hb dX10_bindThree_11 rfl (lv_at hl 1 rfl) ?_
  refine va_get (D := (dC, dI)) (ci := 0) (v := .ref h_p1_x) (C := RX0) (T := TX0) (N := 7) hx hb hts in_X0 hown hK hP 3 rfl rfl 0 (Nat.le_of_ble_eq_true rfl) (hts _ qf_X10_48) (fun _ h9 => h9) rfl dX10_bindThree_12 ?_
  refine lv_aload_n hx hb dX10_bindThree_15 rfl (lv_at hl 0 rfl) ?_
  refine va_get (D := (dC, dI)) (ci := 10) (v := .ref h_t_member) (C := RX10) (T := TX10) (N := 3) hx hb hts in_X10 hown hK hP 0 rfl rfl 0 (Nat.le_of_ble_eq_true rfl) (hts _ qf_X10_9) (fun _ h9 => h9) rfl dX10_bindThree_16 ?_
  refine lv_iconst (v := (0 : Int32)) hx hb dX10_bindThree_19 (by decide) ?_
  refine va_iald hx hb hK hP 1 0 rfl rfl (inb_in (by decide)) dX10_bindThree_20 ?_
  obtain ⟨hg_2, hf⟩ := gd_some hf
  refine va_iald hx hb hK hP 4 0 rfl rfl (inb_in hg_2) dX10_bindThree_21 ?_
  refine lv_isub hx hb dX10_bindThree_22 ?_
  refine lv_i2l hx hb dX10_bindThree_23 rfl ?_
  refine lv_topl (fun l2_3 el2_3 => ?_)
  replace hf := xl_at hf el2_3
  refine lv_lstore_n (lv' := [(2, .long l2_3), (0, .ref h_t), (1, .ref h_p1)]) hx hb dX10_bindThree_24 rfl hl (Nat.le_of_ble_eq_true rfl) rfl (fun ls hl => ?_)
  refine lv_aload_n hx hb dX10_bindThree_25 rfl (lv_at hl 2 rfl) ?_
  refine va_get (D := (dC, dI)) (ci := 0) (v := .ref h_p1_y) (C := RX0) (T := TX0) (N := 7) hx hb hts in_X0 hown hK hP 3 rfl rfl 1 (Nat.le_of_ble_eq_true rfl) (hts _ qf_X10_51) (fun _ h9 => h9) rfl dX10_bindThree_26 ?_
  refine lv_aload_n hx hb dX10_bindThree_29 rfl (lv_at hl 1 rfl) ?_
  refine va_get (D := (dC, dI)) (ci := 10) (v := .ref h_t_member) (C := RX10) (T := TX10) (N := 3) hx hb hts in_X10 hown hK hP 0 rfl rfl 0 (Nat.le_of_ble_eq_true rfl) (hts _ qf_X10_9) (fun _ h9 => h9) rfl dX10_bindThree_30 ?_
  refine lv_iconst (v := (1 : Int32)) hx hb dX10_bindThree_33 (by decide) ?_
  refine va_iald hx hb hK hP 1 0 rfl rfl (inb_in (by decide)) dX10_bindThree_34 ?_
  obtain ⟨hg_4, hf⟩ := gd_some hf
  refine va_iald hx hb hK hP 5 0 rfl rfl (inb_in hg_4) dX10_bindThree_35 ?_
  refine lv_aload_n hx hb dX10_bindThree_36 rfl (lv_at hl 2 rfl) ?_
  refine va_get (D := (dC, dI)) (ci := 0) (v := .ref h_p1_y) (C := RX0) (T := TX0) (N := 7) hx hb hts in_X0 hown hK hP 3 rfl rfl 1 (Nat.le_of_ble_eq_true rfl) (hts _ qf_X10_51) (fun _ h9 => h9) rfl dX10_bindThree_37 ?_
  refine lv_aload_n hx hb dX10_bindThree_40 rfl (lv_at hl 1 rfl) ?_
  refine va_get (D := (dC, dI)) (ci := 10) (v := .ref h_t_member) (C := RX10) (T := TX10) (N := 3) hx hb hts in_X10 hown hK hP 0 rfl rfl 0 (Nat.le_of_ble_eq_true rfl) (hts _ qf_X10_9) (fun _ h9 => h9) rfl dX10_bindThree_41 ?_
  refine lv_iconst (v := (0 : Int32)) hx hb dX10_bindThree_44 (by decide) ?_
  refine va_iald hx hb hK hP 1 0 rfl rfl (inb_in (by decide)) dX10_bindThree_45 ?_
  obtain ⟨hg_5, hf⟩ := gd_some hf
  refine va_iald hx hb hK hP 5 0 rfl rfl (inb_in hg_5) dX10_bindThree_46 ?_
  refine lv_isub hx hb dX10_bindThree_47 ?_
  refine lv_i2l hx hb dX10_bindThree_48 rfl ?_
  refine lv_topl (fun l4_6 el4_6 => ?_)
  replace hf := xl_at hf el4_6
  refine lv_lstore (lv' := [(4, .long l4_6), (2, .long l2_3), (0, .ref h_t), (1, .ref h_p1)]) hx hb dX10_bindThree_49 hl (Nat.le_of_ble_eq_true rfl) rfl (fun ls hl => ?_)
  refine lv_aload_n hx hb dX10_bindThree_51 rfl (lv_at hl 3 rfl) ?_
  refine va_get (D := (dC, dI)) (ci := 0) (v := .ref h_p1_x) (C := RX0) (T := TX0) (N := 7) hx hb hts in_X0 hown hK hP 3 rfl rfl 0 (Nat.le_of_ble_eq_true rfl) (hts _ qf_X10_48) (fun _ h9 => h9) rfl dX10_bindThree_52 ?_
  refine lv_aload_n hx hb dX10_bindThree_55 rfl (lv_at hl 2 rfl) ?_
  refine va_get (D := (dC, dI)) (ci := 10) (v := .ref h_t_member) (C := RX10) (T := TX10) (N := 3) hx hb hts in_X10 hown hK hP 0 rfl rfl 0 (Nat.le_of_ble_eq_true rfl) (hts _ qf_X10_9) (fun _ h9 => h9) rfl dX10_bindThree_56 ?_
  refine lv_iconst (v := (2 : Int32)) hx hb dX10_bindThree_59 (by decide) ?_
  refine va_iald hx hb hK hP 1 0 rfl rfl (inb_in (by decide)) dX10_bindThree_60 ?_
  obtain ⟨hg_7, hf⟩ := gd_some hf
  refine va_iald hx hb hK hP 4 0 rfl rfl (inb_in hg_7) dX10_bindThree_61 ?_
  refine lv_aload_n hx hb dX10_bindThree_62 rfl (lv_at hl 3 rfl) ?_
  refine va_get (D := (dC, dI)) (ci := 0) (v := .ref h_p1_x) (C := RX0) (T := TX0) (N := 7) hx hb hts in_X0 hown hK hP 3 rfl rfl 0 (Nat.le_of_ble_eq_true rfl) (hts _ qf_X10_48) (fun _ h9 => h9) rfl dX10_bindThree_63 ?_
  refine lv_aload_n hx hb dX10_bindThree_66 rfl (lv_at hl 2 rfl) ?_
  refine va_get (D := (dC, dI)) (ci := 10) (v := .ref h_t_member) (C := RX10) (T := TX10) (N := 3) hx hb hts in_X10 hown hK hP 0 rfl rfl 0 (Nat.le_of_ble_eq_true rfl) (hts _ qf_X10_9) (fun _ h9 => h9) rfl dX10_bindThree_67 ?_
  refine lv_iconst (v := (0 : Int32)) hx hb dX10_bindThree_70 (by decide) ?_
  refine va_iald hx hb hK hP 1 0 rfl rfl (inb_in (by decide)) dX10_bindThree_71 ?_
  obtain ⟨hg_8, hf⟩ := gd_some hf
  refine va_iald hx hb hK hP 4 0 rfl rfl (inb_in hg_8) dX10_bindThree_72 ?_
  refine lv_isub hx hb dX10_bindThree_73 ?_
  refine lv_i2l hx hb dX10_bindThree_74 rfl ?_
  refine lv_topl (fun l6_9 el6_9 => ?_)
  replace hf := xl_at hf el6_9
  refine lv_lstore (lv' := [(6, .long l6_9), (4, .long l4_6), (2, .long l2_3), (0, .ref h_t), (1, .ref h_p1)]) hx hb dX10_bindThree_75 hl (Nat.le_of_ble_eq_true rfl) rfl (fun ls hl => ?_)
  refine lv_aload_n hx hb dX10_bindThree_77 rfl (lv_at hl 4 rfl) ?_
  refine va_get (D := (dC, dI)) (ci := 0) (v := .ref h_p1_y) (C := RX0) (T := TX0) (N := 7) hx hb hts in_X0 hown hK hP 3 rfl rfl 1 (Nat.le_of_ble_eq_true rfl) (hts _ qf_X10_51) (fun _ h9 => h9) rfl dX10_bindThree_78 ?_
  refine lv_aload_n hx hb dX10_bindThree_81 rfl (lv_at hl 3 rfl) ?_
  refine va_get (D := (dC, dI)) (ci := 10) (v := .ref h_t_member) (C := RX10) (T := TX10) (N := 3) hx hb hts in_X10 hown hK hP 0 rfl rfl 0 (Nat.le_of_ble_eq_true rfl) (hts _ qf_X10_9) (fun _ h9 => h9) rfl dX10_bindThree_82 ?_
  refine lv_iconst (v := (2 : Int32)) hx hb dX10_bindThree_85 (by decide) ?_
  refine va_iald hx hb hK hP 1 0 rfl rfl (inb_in (by decide)) dX10_bindThree_86 ?_
  obtain ⟨hg_10, hf⟩ := gd_some hf
  refine va_iald hx hb hK hP 5 0 rfl rfl (inb_in hg_10) dX10_bindThree_87 ?_
  refine lv_aload_n hx hb dX10_bindThree_88 rfl (lv_at hl 4 rfl) ?_
  refine va_get (D := (dC, dI)) (ci := 0) (v := .ref h_p1_y) (C := RX0) (T := TX0) (N := 7) hx hb hts in_X0 hown hK hP 3 rfl rfl 1 (Nat.le_of_ble_eq_true rfl) (hts _ qf_X10_51) (fun _ h9 => h9) rfl dX10_bindThree_89 ?_
  refine lv_aload_n hx hb dX10_bindThree_92 rfl (lv_at hl 3 rfl) ?_
  refine va_get (D := (dC, dI)) (ci := 10) (v := .ref h_t_member) (C := RX10) (T := TX10) (N := 3) hx hb hts in_X10 hown hK hP 0 rfl rfl 0 (Nat.le_of_ble_eq_true rfl) (hts _ qf_X10_9) (fun _ h9 => h9) rfl dX10_bindThree_93 ?_
  refine lv_iconst (v := (0 : Int32)) hx hb dX10_bindThree_96 (by decide) ?_
  refine va_iald hx hb hK hP 1 0 rfl rfl (inb_in (by decide)) dX10_bindThree_97 ?_
  obtain ⟨hg_11, hf⟩ := gd_some hf
  refine va_iald hx hb hK hP 5 0 rfl rfl (inb_in hg_11) dX10_bindThree_98 ?_
  refine lv_isub hx hb dX10_bindThree_99 ?_
  refine lv_i2l hx hb dX10_bindThree_100 rfl ?_
  refine lv_topl (fun l8_12 el8_12 => ?_)
  replace hf := xl_at hf el8_12
  refine lv_lstore (lv' := [(8, .long l8_12), (6, .long l6_9), (4, .long l4_6), (2, .long l2_3), (0, .ref h_t), (1, .ref h_p1)]) hx hb dX10_bindThree_101 hl (Nat.le_of_ble_eq_true rfl) rfl (fun ls hl => ?_)
  refine lv_lload_n hx hb dX10_bindThree_103 rfl (lv_at hl 3 rfl) ?_
  refine lv_lload_n hx hb dX10_bindThree_104 rfl (lv_at hl 3 rfl) ?_
  refine lv_lmul hx hb dX10_bindThree_105 ?_
  refine lv_lload hx hb dX10_bindThree_106 (lv_at hl 2 rfl) ?_
  refine lv_lload hx hb dX10_bindThree_108 (lv_at hl 2 rfl) ?_
  refine lv_lmul hx hb dX10_bindThree_110 ?_
  refine lv_ladd hx hb dX10_bindThree_111 ?_
  refine lv_topl (fun l10_13 el10_13 => ?_)
  replace hf := xl_at hf el10_13
  refine lv_lstore (lv' := [(10, .long l10_13), (8, .long l8_12), (6, .long l6_9), (4, .long l4_6), (2, .long l2_3), (0, .ref h_t), (1, .ref h_p1)]) hx hb dX10_bindThree_112 hl (Nat.le_of_ble_eq_true rfl) rfl (fun ls hl => ?_)
  refine lv_lload_n hx hb dX10_bindThree_114 rfl (lv_at hl 4 rfl) ?_
  refine lv_lload hx hb dX10_bindThree_115 (lv_at hl 2 rfl) ?_
  refine lv_lmul hx hb dX10_bindThree_117 ?_
  refine lv_lload hx hb dX10_bindThree_118 (lv_at hl 3 rfl) ?_
  refine lv_lload hx hb dX10_bindThree_120 (lv_at hl 1 rfl) ?_
  refine lv_lmul hx hb dX10_bindThree_122 ?_
  refine lv_ladd hx hb dX10_bindThree_123 ?_
  refine lv_topl (fun l12_14 el12_14 => ?_)
  replace hf := xl_at hf el12_14
  refine lv_lstore (lv' := [(12, .long l12_14), (10, .long l10_13), (8, .long l8_12), (6, .long l6_9), (4, .long l4_6), (2, .long l2_3), (0, .ref h_t), (1, .ref h_p1)]) hx hb dX10_bindThree_124 hl (Nat.le_of_ble_eq_true rfl) rfl (fun ls hl => ?_)
  refine lv_aload_n hx hb dX10_bindThree_126 rfl (lv_at hl 6 rfl) ?_
  refine va_get (D := (dC, dI)) (ci := 10) (v := .ref h_t_factor) (C := RX10) (T := TX10) (N := 3) hx hb hts in_X10 hown hK hP 0 rfl rfl 1 (Nat.le_of_ble_eq_true rfl) (hts _ qf_X10_13) (fun _ h9 => h9) rfl dX10_bindThree_127 ?_
  refine lv_iconst (v := (0 : Int32)) hx hb dX10_bindThree_130 (by decide) ?_
  refine lv_lload hx hb dX10_bindThree_131 (lv_at hl 0 rfl) ?_
  refine lv_lload hx hb dX10_bindThree_133 (lv_at hl 1 rfl) ?_
  refine lv_lsub hx hb dX10_bindThree_135 ?_
  obtain ⟨t_factor_15, et_factor_15⟩ : ∃ y : Nat → Int64, y = vp_updL t_factor (0 : Int32).toNatClampNeg (l12_14 - l10_13) := ⟨_, rfl⟩
  replace hf := xl_at hf et_factor_15
  refine xlast (w2 := [(h_t, .inr (10, [.ref h_t_member, .ref h_t_factor, .int t_size])), (h_t_member, .inl (cI, 4, .inl t_member)), (h_t_factor, .inl (cL, 4, .inr (.inl t_factor_15))), (h_p1, .inr (0, [.ref h_p1_x, .ref h_p1_y, .ref h_p1_colour, .ref h_p1_load, .int p1_size, .int p1_centreX, .int p1_centreY])), (h_p1_x, .inl (cI, 24, .inl p1_x)), (h_p1_y, .inl (cI, 24, .inl p1_y))]) hx hb hK hP hD hS 2 1 rfl rfl (inb_in (by decide)) et_factor_15 rfl dX10_bindThree_136 (fun H locs hP hD hS => ?_)
  refine lv_aload_n hx hb dX10_bindThree_137 rfl (lv_at hl 6 rfl) ?_
  refine va_get (D := (dC, dI)) (ci := 10) (v := .ref h_t_factor) (C := RX10) (T := TX10) (N := 3) hx hb hts in_X10 hown hK hP 0 rfl rfl 1 (Nat.le_of_ble_eq_true rfl) (hts _ qf_X10_13) (fun _ h9 => h9) rfl dX10_bindThree_138 ?_
  refine lv_iconst (v := (1 : Int32)) hx hb dX10_bindThree_141 (by decide) ?_
  refine lv_lload hx hb dX10_bindThree_142 (lv_at hl 0 rfl) ?_
  refine lv_lneg hx hb dX10_bindThree_144 ?_
  obtain ⟨t_factor_16, et_factor_16⟩ : ∃ y : Nat → Int64, y = vp_updL t_factor_15 (1 : Int32).toNatClampNeg (-l12_14) := ⟨_, rfl⟩
  replace hf := xl_at hf et_factor_16
  refine xlast (w2 := [(h_t, .inr (10, [.ref h_t_member, .ref h_t_factor, .int t_size])), (h_t_member, .inl (cI, 4, .inl t_member)), (h_t_factor, .inl (cL, 4, .inr (.inl t_factor_16))), (h_p1, .inr (0, [.ref h_p1_x, .ref h_p1_y, .ref h_p1_colour, .ref h_p1_load, .int p1_size, .int p1_centreX, .int p1_centreY])), (h_p1_x, .inl (cI, 24, .inl p1_x)), (h_p1_y, .inl (cI, 24, .inl p1_y))]) hx hb hK hP hD hS 2 1 rfl rfl (inb_in (by decide)) et_factor_16 rfl dX10_bindThree_145 (fun H locs hP hD hS => ?_)
  refine lv_aload_n hx hb dX10_bindThree_146 rfl (lv_at hl 6 rfl) ?_
  refine va_get (D := (dC, dI)) (ci := 10) (v := .ref h_t_factor) (C := RX10) (T := TX10) (N := 3) hx hb hts in_X10 hown hK hP 0 rfl rfl 1 (Nat.le_of_ble_eq_true rfl) (hts _ qf_X10_13) (fun _ h9 => h9) rfl dX10_bindThree_147 ?_
  refine lv_iconst (v := (2 : Int32)) hx hb dX10_bindThree_150 (by decide) ?_
  refine lv_lload hx hb dX10_bindThree_151 (lv_at hl 1 rfl) ?_
  obtain ⟨t_factor_17, et_factor_17⟩ : ∃ y : Nat → Int64, y = vp_updL t_factor_16 (2 : Int32).toNatClampNeg l10_13 := ⟨_, rfl⟩
  replace hf := xl_at hf et_factor_17
  refine xlast (w2 := [(h_t, .inr (10, [.ref h_t_member, .ref h_t_factor, .int t_size])), (h_t_member, .inl (cI, 4, .inl t_member)), (h_t_factor, .inl (cL, 4, .inr (.inl t_factor_17))), (h_p1, .inr (0, [.ref h_p1_x, .ref h_p1_y, .ref h_p1_colour, .ref h_p1_load, .int p1_size, .int p1_centreX, .int p1_centreY])), (h_p1_x, .inl (cI, 24, .inl p1_x)), (h_p1_y, .inl (cI, 24, .inl p1_y))]) hx hb hK hP hD hS 2 1 rfl rfl (inb_in (by decide)) et_factor_17 rfl dX10_bindThree_153 (fun H locs hP hD hS => ?_)
  refine lv_lload_n hx hb dX10_bindThree_154 rfl (lv_at hl 5 rfl) ?_
  refine lv_lload hx hb dX10_bindThree_155 (lv_at hl 4 rfl) ?_
  refine lv_lload hx hb dX10_bindThree_157 (lv_at hl 3 rfl) ?_
  refine lv_lload hx hb dX10_bindThree_159 (lv_at hl 2 rfl) ?_
  obtain ⟨r_18, hq_19, hf⟩ := b1_some hf
  refine xcl (wr := [(h_t, .inr (10, [.ref h_t_member, .ref h_t_factor, .int t_size])), (h_t_member, .inl (cI, 4, .inl t_member)), (h_t_factor, .inl (cL, 4, .inr (.inl t_factor_17))), (h_p1, .inr (0, [.ref h_p1_x, .ref h_p1_y, .ref h_p1_colour, .ref h_p1_load, .int p1_size, .int p1_centreX, .int p1_centreY])), (h_p1_x, .inl (cI, 24, .inl p1_x)), (h_p1_y, .inl (cI, 24, .inl p1_y))]) (w2 := [(h_t, .inr (10, [.ref h_t_member, .ref h_t_factor, .int t_size])), (h_t_member, .inl (cI, 4, .inl t_member)), (h_t_factor, .inl (cL, 4, .inr (.inl t_factor_17))), (h_p1, .inr (0, [.ref h_p1_x, .ref h_p1_y, .ref h_p1_colour, .ref h_p1_load, .int p1_size, .int p1_centreX, .int p1_centreY])), (h_p1_x, .inl (cI, 24, .inl p1_x)), (h_p1_y, .inl (cI, 24, .inl p1_y))]) (va_runSN (As := [.long l2_3, .long l4_6, .long l6_9, .long l8_12]) (rest := []) ⟨hx, hb, hml, hown, hts⟩ (mtX11_cross l dC dI cI cL cB K H.size l2_3 l4_6 l6_9 l8_12 r_18 hq_19) ⟨va_cnB 4 hts (gcode qc_X11_cross) rfl rfl rfl (hT _ qm_X10_58) (hts _ qz_X11) hdS_X11_cross ⟨Nat.le_trans (Nat.le_of_ble_eq_true rfl) hF, Nat.le_trans (Nat.le_of_ble_eq_true rfl) hLo⟩, hts _ qt_X11_cross, trivial⟩ (cPreS hK hP hD hT [] rfl rfl) rfl rfl hl.1 rfl (lv_room (Nat.le_of_ble_eq_true rfl)) dX10_bindThree_161 ⟨Nat.zero_le _, Nat.zero_le _⟩) hP hD hS hA [] [0, 1, 2, 3, 4, 5] [0, 1, 2, 3, 4, 5] rfl rfl rfl rfl rfl rfl (fun H locs hP hD hS => ?_)
  refine lv_lconst (v := (0 : Int64)) hx hb dX10_bindThree_164 (by decide) ?_
  refine W.lcmp hx hb dX10_bindThree_165 ?_
  refine lv_if_ne (tgt := 173) hx hb dX10_bindThree_166 (by decide) (fun hc => ?_) (fun hc => ?_)
  · replace hf := it_f (fun h9 => hc ((lg_cmp_eq _ _).mpr h9)) hf
    refine lv_iconst (v := (0 : Int32)) hx hb dX10_bindThree_173 (by decide) ?_
    obtain ⟨rfl, rfl⟩ := o2 hf
    exact W.zret hx hb hr rfl (fun t ht hW => ⟨⟨_, (), rfl, rfl, by rw [ht]; exact hP, hD⟩, hS.F ht⟩) hS.2.2 dX10_bindThree_174
  · replace hf := it_t ((lg_cmp_eq _ _).mp hc) hf
    refine lv_iconst (v := (1 : Int32)) hx hb dX10_bindThree_169 (by decide) ?_
    refine lv_goto (tgt := 174) hx hb dX10_bindThree_170 (by decide) ?_
    obtain ⟨rfl, rfl⟩ := o2 hf
    exact W.zret hx hb hr rfl (fun t ht hW => ⟨⟨_, (), rfl, rfl, by rw [ht]; exact hP, hD⟩, hS.F ht⟩) hS.2.2 dX10_bindThree_174
theorem dX10_bindFour_0 : decode cX10_bindFour 0 = .ok (.aload_n 1, 1) := by decide +kernel
theorem dX10_bindFour_1 : decode cX10_bindFour 1 = .ok (.getfield 48, 3) := by decide +kernel
theorem dX10_bindFour_4 : decode cX10_bindFour 4 = .ok (.aload_n 0, 1) := by decide +kernel
theorem dX10_bindFour_5 : decode cX10_bindFour 5 = .ok (.getfield 9, 3) := by decide +kernel
theorem dX10_bindFour_8 : decode cX10_bindFour 8 = .ok (.iconst 0, 1) := by decide +kernel
theorem dX10_bindFour_9 : decode cX10_bindFour 9 = .ok (.iaload, 1) := by decide +kernel
theorem dX10_bindFour_10 : decode cX10_bindFour 10 = .ok (.iaload, 1) := by decide +kernel
theorem dX10_bindFour_11 : decode cX10_bindFour 11 = .ok (.aload_n 1, 1) := by decide +kernel
theorem dX10_bindFour_12 : decode cX10_bindFour 12 = .ok (.getfield 48, 3) := by decide +kernel
theorem dX10_bindFour_15 : decode cX10_bindFour 15 = .ok (.aload_n 0, 1) := by decide +kernel
theorem dX10_bindFour_16 : decode cX10_bindFour 16 = .ok (.getfield 9, 3) := by decide +kernel
theorem dX10_bindFour_19 : decode cX10_bindFour 19 = .ok (.iconst 3, 1) := by decide +kernel
theorem dX10_bindFour_20 : decode cX10_bindFour 20 = .ok (.iaload, 1) := by decide +kernel
theorem dX10_bindFour_21 : decode cX10_bindFour 21 = .ok (.iaload, 1) := by decide +kernel
theorem dX10_bindFour_22 : decode cX10_bindFour 22 = .ok (.isub, 1) := by decide +kernel
theorem dX10_bindFour_23 : decode cX10_bindFour 23 = .ok (.i2l, 1) := by decide +kernel
theorem dX10_bindFour_24 : decode cX10_bindFour 24 = .ok (.lstore_n 2, 1) := by decide +kernel
theorem dX10_bindFour_25 : decode cX10_bindFour 25 = .ok (.aload_n 1, 1) := by decide +kernel
theorem dX10_bindFour_26 : decode cX10_bindFour 26 = .ok (.getfield 51, 3) := by decide +kernel
theorem dX10_bindFour_29 : decode cX10_bindFour 29 = .ok (.aload_n 0, 1) := by decide +kernel
theorem dX10_bindFour_30 : decode cX10_bindFour 30 = .ok (.getfield 9, 3) := by decide +kernel
theorem dX10_bindFour_33 : decode cX10_bindFour 33 = .ok (.iconst 0, 1) := by decide +kernel
theorem dX10_bindFour_34 : decode cX10_bindFour 34 = .ok (.iaload, 1) := by decide +kernel
theorem dX10_bindFour_35 : decode cX10_bindFour 35 = .ok (.iaload, 1) := by decide +kernel
theorem dX10_bindFour_36 : decode cX10_bindFour 36 = .ok (.aload_n 1, 1) := by decide +kernel
theorem dX10_bindFour_37 : decode cX10_bindFour 37 = .ok (.getfield 51, 3) := by decide +kernel
theorem dX10_bindFour_40 : decode cX10_bindFour 40 = .ok (.aload_n 0, 1) := by decide +kernel
theorem dX10_bindFour_41 : decode cX10_bindFour 41 = .ok (.getfield 9, 3) := by decide +kernel
theorem dX10_bindFour_44 : decode cX10_bindFour 44 = .ok (.iconst 3, 1) := by decide +kernel
theorem dX10_bindFour_45 : decode cX10_bindFour 45 = .ok (.iaload, 1) := by decide +kernel
theorem dX10_bindFour_46 : decode cX10_bindFour 46 = .ok (.iaload, 1) := by decide +kernel
theorem dX10_bindFour_47 : decode cX10_bindFour 47 = .ok (.isub, 1) := by decide +kernel
theorem dX10_bindFour_48 : decode cX10_bindFour 48 = .ok (.i2l, 1) := by decide +kernel
theorem dX10_bindFour_49 : decode cX10_bindFour 49 = .ok (.lstore 4, 2) := by decide +kernel
theorem dX10_bindFour_51 : decode cX10_bindFour 51 = .ok (.aload_n 1, 1) := by decide +kernel
theorem dX10_bindFour_52 : decode cX10_bindFour 52 = .ok (.getfield 48, 3) := by decide +kernel
theorem dX10_bindFour_55 : decode cX10_bindFour 55 = .ok (.aload_n 0, 1) := by decide +kernel
theorem dX10_bindFour_56 : decode cX10_bindFour 56 = .ok (.getfield 9, 3) := by decide +kernel
theorem dX10_bindFour_59 : decode cX10_bindFour 59 = .ok (.iconst 1, 1) := by decide +kernel
theorem dX10_bindFour_60 : decode cX10_bindFour 60 = .ok (.iaload, 1) := by decide +kernel
theorem dX10_bindFour_61 : decode cX10_bindFour 61 = .ok (.iaload, 1) := by decide +kernel
theorem dX10_bindFour_62 : decode cX10_bindFour 62 = .ok (.aload_n 1, 1) := by decide +kernel
theorem dX10_bindFour_63 : decode cX10_bindFour 63 = .ok (.getfield 48, 3) := by decide +kernel
theorem dX10_bindFour_66 : decode cX10_bindFour 66 = .ok (.aload_n 0, 1) := by decide +kernel
theorem dX10_bindFour_67 : decode cX10_bindFour 67 = .ok (.getfield 9, 3) := by decide +kernel
theorem dX10_bindFour_70 : decode cX10_bindFour 70 = .ok (.iconst 3, 1) := by decide +kernel
theorem dX10_bindFour_71 : decode cX10_bindFour 71 = .ok (.iaload, 1) := by decide +kernel
theorem dX10_bindFour_72 : decode cX10_bindFour 72 = .ok (.iaload, 1) := by decide +kernel
theorem dX10_bindFour_73 : decode cX10_bindFour 73 = .ok (.isub, 1) := by decide +kernel
theorem dX10_bindFour_74 : decode cX10_bindFour 74 = .ok (.i2l, 1) := by decide +kernel
theorem dX10_bindFour_75 : decode cX10_bindFour 75 = .ok (.lstore 6, 2) := by decide +kernel
theorem dX10_bindFour_77 : decode cX10_bindFour 77 = .ok (.aload_n 1, 1) := by decide +kernel
theorem dX10_bindFour_78 : decode cX10_bindFour 78 = .ok (.getfield 51, 3) := by decide +kernel
theorem dX10_bindFour_81 : decode cX10_bindFour 81 = .ok (.aload_n 0, 1) := by decide +kernel
theorem dX10_bindFour_82 : decode cX10_bindFour 82 = .ok (.getfield 9, 3) := by decide +kernel
theorem dX10_bindFour_85 : decode cX10_bindFour 85 = .ok (.iconst 1, 1) := by decide +kernel
theorem dX10_bindFour_86 : decode cX10_bindFour 86 = .ok (.iaload, 1) := by decide +kernel
theorem dX10_bindFour_87 : decode cX10_bindFour 87 = .ok (.iaload, 1) := by decide +kernel
theorem dX10_bindFour_88 : decode cX10_bindFour 88 = .ok (.aload_n 1, 1) := by decide +kernel
theorem dX10_bindFour_89 : decode cX10_bindFour 89 = .ok (.getfield 51, 3) := by decide +kernel
theorem dX10_bindFour_92 : decode cX10_bindFour 92 = .ok (.aload_n 0, 1) := by decide +kernel
theorem dX10_bindFour_93 : decode cX10_bindFour 93 = .ok (.getfield 9, 3) := by decide +kernel
theorem dX10_bindFour_96 : decode cX10_bindFour 96 = .ok (.iconst 3, 1) := by decide +kernel
theorem dX10_bindFour_97 : decode cX10_bindFour 97 = .ok (.iaload, 1) := by decide +kernel
theorem dX10_bindFour_98 : decode cX10_bindFour 98 = .ok (.iaload, 1) := by decide +kernel
theorem dX10_bindFour_99 : decode cX10_bindFour 99 = .ok (.isub, 1) := by decide +kernel
theorem dX10_bindFour_100 : decode cX10_bindFour 100 = .ok (.i2l, 1) := by decide +kernel
theorem dX10_bindFour_101 : decode cX10_bindFour 101 = .ok (.lstore 8, 2) := by decide +kernel
theorem dX10_bindFour_103 : decode cX10_bindFour 103 = .ok (.aload_n 1, 1) := by decide +kernel
theorem dX10_bindFour_104 : decode cX10_bindFour 104 = .ok (.getfield 48, 3) := by decide +kernel
theorem dX10_bindFour_107 : decode cX10_bindFour 107 = .ok (.aload_n 0, 1) := by decide +kernel
theorem dX10_bindFour_108 : decode cX10_bindFour 108 = .ok (.getfield 9, 3) := by decide +kernel
theorem dX10_bindFour_111 : decode cX10_bindFour 111 = .ok (.iconst 2, 1) := by decide +kernel
theorem dX10_bindFour_112 : decode cX10_bindFour 112 = .ok (.iaload, 1) := by decide +kernel
theorem dX10_bindFour_113 : decode cX10_bindFour 113 = .ok (.iaload, 1) := by decide +kernel
theorem dX10_bindFour_114 : decode cX10_bindFour 114 = .ok (.aload_n 1, 1) := by decide +kernel
theorem dX10_bindFour_115 : decode cX10_bindFour 115 = .ok (.getfield 48, 3) := by decide +kernel
theorem dX10_bindFour_118 : decode cX10_bindFour 118 = .ok (.aload_n 0, 1) := by decide +kernel
theorem dX10_bindFour_119 : decode cX10_bindFour 119 = .ok (.getfield 9, 3) := by decide +kernel
theorem dX10_bindFour_122 : decode cX10_bindFour 122 = .ok (.iconst 3, 1) := by decide +kernel
theorem dX10_bindFour_123 : decode cX10_bindFour 123 = .ok (.iaload, 1) := by decide +kernel
theorem dX10_bindFour_124 : decode cX10_bindFour 124 = .ok (.iaload, 1) := by decide +kernel
theorem dX10_bindFour_125 : decode cX10_bindFour 125 = .ok (.isub, 1) := by decide +kernel
theorem dX10_bindFour_126 : decode cX10_bindFour 126 = .ok (.i2l, 1) := by decide +kernel
theorem dX10_bindFour_127 : decode cX10_bindFour 127 = .ok (.lstore 10, 2) := by decide +kernel
theorem dX10_bindFour_129 : decode cX10_bindFour 129 = .ok (.aload_n 1, 1) := by decide +kernel
theorem dX10_bindFour_130 : decode cX10_bindFour 130 = .ok (.getfield 51, 3) := by decide +kernel
theorem dX10_bindFour_133 : decode cX10_bindFour 133 = .ok (.aload_n 0, 1) := by decide +kernel
theorem dX10_bindFour_134 : decode cX10_bindFour 134 = .ok (.getfield 9, 3) := by decide +kernel
theorem dX10_bindFour_137 : decode cX10_bindFour 137 = .ok (.iconst 2, 1) := by decide +kernel
theorem dX10_bindFour_138 : decode cX10_bindFour 138 = .ok (.iaload, 1) := by decide +kernel
theorem dX10_bindFour_139 : decode cX10_bindFour 139 = .ok (.iaload, 1) := by decide +kernel
theorem dX10_bindFour_140 : decode cX10_bindFour 140 = .ok (.aload_n 1, 1) := by decide +kernel
theorem dX10_bindFour_141 : decode cX10_bindFour 141 = .ok (.getfield 51, 3) := by decide +kernel
theorem dX10_bindFour_144 : decode cX10_bindFour 144 = .ok (.aload_n 0, 1) := by decide +kernel
theorem dX10_bindFour_145 : decode cX10_bindFour 145 = .ok (.getfield 9, 3) := by decide +kernel
theorem dX10_bindFour_148 : decode cX10_bindFour 148 = .ok (.iconst 3, 1) := by decide +kernel
theorem dX10_bindFour_149 : decode cX10_bindFour 149 = .ok (.iaload, 1) := by decide +kernel
theorem dX10_bindFour_150 : decode cX10_bindFour 150 = .ok (.iaload, 1) := by decide +kernel
theorem dX10_bindFour_151 : decode cX10_bindFour 151 = .ok (.isub, 1) := by decide +kernel
theorem dX10_bindFour_152 : decode cX10_bindFour 152 = .ok (.i2l, 1) := by decide +kernel
theorem dX10_bindFour_153 : decode cX10_bindFour 153 = .ok (.lstore 12, 2) := by decide +kernel
theorem dX10_bindFour_155 : decode cX10_bindFour 155 = .ok (.aload_n 0, 1) := by decide +kernel
theorem dX10_bindFour_156 : decode cX10_bindFour 156 = .ok (.getfield 13, 3) := by decide +kernel
theorem dX10_bindFour_159 : decode cX10_bindFour 159 = .ok (.iconst 0, 1) := by decide +kernel
theorem dX10_bindFour_160 : decode cX10_bindFour 160 = .ok (.lload 6, 2) := by decide +kernel
theorem dX10_bindFour_162 : decode cX10_bindFour 162 = .ok (.lload 8, 2) := by decide +kernel
theorem dX10_bindFour_164 : decode cX10_bindFour 164 = .ok (.lload 10, 2) := by decide +kernel
theorem dX10_bindFour_166 : decode cX10_bindFour 166 = .ok (.lload 12, 2) := by decide +kernel
theorem dX10_bindFour_168 : decode cX10_bindFour 168 = .ok (.invokestatic 58, 3) := by decide +kernel
theorem dX10_bindFour_171 : decode cX10_bindFour 171 = .ok (.lneg, 1) := by decide +kernel
theorem dX10_bindFour_172 : decode cX10_bindFour 172 = .ok (.lastore, 1) := by decide +kernel
theorem dX10_bindFour_173 : decode cX10_bindFour 173 = .ok (.aload_n 0, 1) := by decide +kernel
theorem dX10_bindFour_174 : decode cX10_bindFour 174 = .ok (.getfield 13, 3) := by decide +kernel
theorem dX10_bindFour_177 : decode cX10_bindFour 177 = .ok (.iconst 1, 1) := by decide +kernel
theorem dX10_bindFour_178 : decode cX10_bindFour 178 = .ok (.lload 10, 2) := by decide +kernel
theorem dX10_bindFour_180 : decode cX10_bindFour 180 = .ok (.lload 12, 2) := by decide +kernel
theorem dX10_bindFour_182 : decode cX10_bindFour 182 = .ok (.lload_n 2, 1) := by decide +kernel
theorem dX10_bindFour_183 : decode cX10_bindFour 183 = .ok (.lload 4, 2) := by decide +kernel
theorem dX10_bindFour_185 : decode cX10_bindFour 185 = .ok (.invokestatic 58, 3) := by decide +kernel
theorem dX10_bindFour_188 : decode cX10_bindFour 188 = .ok (.lneg, 1) := by decide +kernel
theorem dX10_bindFour_189 : decode cX10_bindFour 189 = .ok (.lastore, 1) := by decide +kernel
theorem dX10_bindFour_190 : decode cX10_bindFour 190 = .ok (.aload_n 0, 1) := by decide +kernel
theorem dX10_bindFour_191 : decode cX10_bindFour 191 = .ok (.getfield 13, 3) := by decide +kernel
theorem dX10_bindFour_194 : decode cX10_bindFour 194 = .ok (.iconst 2, 1) := by decide +kernel
theorem dX10_bindFour_195 : decode cX10_bindFour 195 = .ok (.lload_n 2, 1) := by decide +kernel
theorem dX10_bindFour_196 : decode cX10_bindFour 196 = .ok (.lload 4, 2) := by decide +kernel
theorem dX10_bindFour_198 : decode cX10_bindFour 198 = .ok (.lload 6, 2) := by decide +kernel
theorem dX10_bindFour_200 : decode cX10_bindFour 200 = .ok (.lload 8, 2) := by decide +kernel
theorem dX10_bindFour_202 : decode cX10_bindFour 202 = .ok (.invokestatic 58, 3) := by decide +kernel
theorem dX10_bindFour_205 : decode cX10_bindFour 205 = .ok (.lneg, 1) := by decide +kernel
theorem dX10_bindFour_206 : decode cX10_bindFour 206 = .ok (.lastore, 1) := by decide +kernel
theorem dX10_bindFour_207 : decode cX10_bindFour 207 = .ok (.aload_n 0, 1) := by decide +kernel
theorem dX10_bindFour_208 : decode cX10_bindFour 208 = .ok (.getfield 13, 3) := by decide +kernel
theorem dX10_bindFour_211 : decode cX10_bindFour 211 = .ok (.iconst 3, 1) := by decide +kernel
theorem dX10_bindFour_212 : decode cX10_bindFour 212 = .ok (.aload_n 0, 1) := by decide +kernel
theorem dX10_bindFour_213 : decode cX10_bindFour 213 = .ok (.getfield 13, 3) := by decide +kernel
theorem dX10_bindFour_216 : decode cX10_bindFour 216 = .ok (.iconst 0, 1) := by decide +kernel
theorem dX10_bindFour_217 : decode cX10_bindFour 217 = .ok (.laload, 1) := by decide +kernel
theorem dX10_bindFour_218 : decode cX10_bindFour 218 = .ok (.aload_n 0, 1) := by decide +kernel
theorem dX10_bindFour_219 : decode cX10_bindFour 219 = .ok (.getfield 13, 3) := by decide +kernel
theorem dX10_bindFour_222 : decode cX10_bindFour 222 = .ok (.iconst 1, 1) := by decide +kernel
theorem dX10_bindFour_223 : decode cX10_bindFour 223 = .ok (.laload, 1) := by decide +kernel
theorem dX10_bindFour_224 : decode cX10_bindFour 224 = .ok (.ladd, 1) := by decide +kernel
theorem dX10_bindFour_225 : decode cX10_bindFour 225 = .ok (.aload_n 0, 1) := by decide +kernel
theorem dX10_bindFour_226 : decode cX10_bindFour 226 = .ok (.getfield 13, 3) := by decide +kernel
theorem dX10_bindFour_229 : decode cX10_bindFour 229 = .ok (.iconst 2, 1) := by decide +kernel
theorem dX10_bindFour_230 : decode cX10_bindFour 230 = .ok (.laload, 1) := by decide +kernel
theorem dX10_bindFour_231 : decode cX10_bindFour 231 = .ok (.ladd, 1) := by decide +kernel
theorem dX10_bindFour_232 : decode cX10_bindFour 232 = .ok (.lneg, 1) := by decide +kernel
theorem dX10_bindFour_233 : decode cX10_bindFour 233 = .ok (.lastore, 1) := by decide +kernel
theorem dX10_bindFour_234 : decode cX10_bindFour 234 = .ok (.iconst 1, 1) := by decide +kernel
theorem dX10_bindFour_235 : decode cX10_bindFour 235 = .ok (.ireturn, 1) := by decide +kernel
set_option maxRecDepth 100000 in
set_option maxHeartbeats 4000000 in
theorem mtX10_bindFour (l : Launch) (dC : Nat → ClassId) (dI : Nat → Nat → Nat) (cI cL cB : ClassId) (K : Nat) (h_t h_t_member h_t_factor h_p1 h_p1_x h_p1_y h_p1_colour h_p1_load : Nat) (sz : Nat) (t_size : Int32) (t_member : Nat → Int32) (t_factor : Nat → Int64) (p1_size : Int32) (p1_centreX : Int32) (p1_centreY : Int32) (p1_x : Nat → Int32) (p1_y : Nat → Int32) (o_r : Int32) (o_t_factor : Nat → Int64) (hf : fX10_bindFour K t_member t_factor p1_x p1_y = some (o_r, o_t_factor)) : Met l yX10_bindFour [Cond.code yX10_bindFour cX10_bindFour 14 (some .boolean)] ({ frames := 1, cells := 0, slots := 0, locals := 27 }) (va_Pc [.ref h_t, .ref h_p1] (cPre dC dI cI cL cB sz [(h_t, .inr (10, [.ref h_t_member, .ref h_t_factor, .int t_size])), (h_t_member, .inl (cI, 4, .inl t_member)), (h_t_factor, .inl (cL, 4, .inr (.inl t_factor))), (h_p1, .inr (0, [.ref h_p1_x, .ref h_p1_y, .ref h_p1_colour, .ref h_p1_load, .int p1_size, .int p1_centreX, .int p1_centreY])), (h_p1_x, .inl (cI, 24, .inl p1_x)), (h_p1_y, .inl (cI, 24, .inl p1_y))])) (cQi dC dI (va_A [(h_t, .inr (10, [.ref h_t_member, .ref h_t_factor, .int t_size])), (h_t_member, .inl (cI, 4, .inl t_member)), (h_t_factor, .inl (cL, 4, .inr (.inl t_factor))), (h_p1, .inr (0, [.ref h_p1_x, .ref h_p1_y, .ref h_p1_colour, .ref h_p1_load, .int p1_size, .int p1_centreX, .int p1_centreY])), (h_p1_x, .inl (cI, 24, .inl p1_x)), (h_p1_y, .inl (cI, 24, .inl p1_y))] sz) o_r [(h_t, .inr (10, [.ref h_t_member, .ref h_t_factor, .int t_size])), (h_t_member, .inl (cI, 4, .inl t_member)), (h_t_factor, .inl (cL, 4, .inr (.inl o_t_factor))), (h_p1, .inr (0, [.ref h_p1_x, .ref h_p1_y, .ref h_p1_colour, .ref h_p1_load, .int p1_size, .int p1_centreX, .int p1_centreY])), (h_p1_x, .inl (cI, 24, .inl p1_x)), (h_p1_y, .inl (cI, 24, .inl p1_y))]) 0 0 (va_A [(h_t, .inr (10, [.ref h_t_member, .ref h_t_factor, .int t_size])), (h_t_member, .inl (cI, 4, .inl t_member)), (h_t_factor, .inl (cL, 4, .inr (.inl t_factor))), (h_p1, .inr (0, [.ref h_p1_x, .ref h_p1_y, .ref h_p1_colour, .ref h_p1_load, .int p1_size, .int p1_centreX, .int p1_centreY])), (h_p1_x, .inl (cI, 24, .inl p1_x)), (h_p1_y, .inl (cI, 24, .inl p1_y))] sz) := by
  refine Met.ofW (cc := cX10_bindFour) (maxL := 14) (ret := (some .boolean)) (by decide) rfl ?_
  intro p e s m args below meth c s₁ B hml hv
  obtain ⟨rfl, hsz, hP, hK, hD0, hT⟩ := hv
  have hx := B.exec
  have hb := B.bytes
  have hr := B.returns
  have hown : s.vm.findClass RX10 = some m.cls := findClass_of_methodNamed B.named
  have hlocks := B.notSynchronized
  have hts := TB.use hT ([.ref h_t, .ref h_p1] : List Value).toArray
  subst hsz
  have hD := hD0.self (sz := s.heap.size)
  generalize hAe : va_A [(h_t, .inr (10, [.ref h_t_member, .ref h_t_factor, .int t_size])), (h_t_member, .inl (cI, 4, .inl t_member)), (h_t_factor, .inl (cL, 4, .inr (.inl t_factor))), (h_p1, .inr (0, [.ref h_p1_x, .ref h_p1_y, .ref h_p1_colour, .ref h_p1_load, .int p1_size, .int p1_centreX, .int p1_centreY])), (h_p1_x, .inl (cI, 24, .inl p1_x)), (h_p1_y, .inl (cI, 24, .inl p1_y))] s.heap.size = A at hD ⊢
  have hA : ∀ q : Nat, s.heap.size ≤ q → A q := fun q h => by rw [← hAe]; exact Or.inr h
  clear hAe hD0
  have hl := lv_entry ([.ref h_t, .ref h_p1]) (n := 14) (Nat.le_of_ble_eq_true rfl)
  rw [lg_entry_eq]
  generalize (lg_sl ([.ref h_t, .ref h_p1]) ++ List.replicate (14 - (lg_sl ([.ref h_t, .ref h_p1])).length) Slot.unset).toArray = ls at hl ⊢
  have hl : lv_has ls 14 [(0, .ref h_t), (1, .ref h_p1)] := hl
  have hF : 1 ≤ (headSpec [Cond.code yX10_bindFour cX10_bindFour 14 (some .boolean)] ({ frames := 1, cells := 0, slots := 0, locals := 27 })).room.frames := Nat.le_refl _
  have hLo : 27 ≤ (headSpec [Cond.code yX10_bindFour cX10_bindFour 14 (some .boolean)] ({ frames := 1, cells := 0, slots := 0, locals := 27 })).room.locals := Nat.le_refl _
  have C0 : Sx p (headSpec [Cond.code yX10_bindFour cX10_bindFour 14 (some .boolean)] ({ frames := 1, cells := 0, slots := 0, locals := 27 })).room s m ([.ref h_t, .ref h_p1] : List Value).toArray c cX10_bindFour 14 RX10 A dC dI cI cL cB 1 27 := ⟨hx, hb, hml, hown, hts, hK, hT, hA, hF, hLo⟩
  refine startH (A := A) hP (fun H locs hP hS => ?_)
  rw [fX10_bindFour] at hf
  refine lv_aload_n hx hb dX10_bindFour_0 rfl (lv_at hl 1 rfl) ?_
  refine va_get (D := (dC, dI)) (ci := 0) (v := .ref h_p1_x) (C := RX0) (T := TX0) (N := 7) hx hb hts in_X0 hown hK hP 3 rfl rfl 0 (Nat.le_of_ble_eq_true rfl) (hts _ qf_X10_48) (fun _ h9 => h9) rfl dX10_bindFour_1 ?_
  refine lv_aload_n hx hb dX10_bindFour_4 rfl (lv_at hl 0 rfl) ?_
  refine va_get (D := (dC, dI)) (ci := 10) (v := .ref h_t_member) (C := RX10) (T := TX10) (N := 3) hx hb hts in_X10 hown hK hP 0 rfl rfl 0 (Nat.le_of_ble_eq_true rfl) (hts _ qf_X10_9) (fun _ h9 => h9) rfl dX10_bindFour_5 ?_
  refine lv_iconst (v := (0 : Int32)) hx hb dX10_bindFour_8 (by decide) ?_
  refine va_iald hx hb hK hP 1 0 rfl rfl (inb_in (by decide)) dX10_bindFour_9 ?_
  obtain ⟨hg_1, hf⟩ := gd_some hf
  refine va_iald hx hb hK hP 4 0 rfl rfl (inb_in hg_1) dX10_bindFour_10 ?_
  refine lv_aload_n hx hb dX10_bindFour_11 rfl (lv_at hl 1 rfl) ?_
  refine va_get (D := (dC, dI)) (ci := 0) (v := .ref h_p1_x) (C := RX0) (T := TX0) (N := 7) hx hb hts in_X0 hown hK hP 3 rfl rfl 0 (Nat.le_of_ble_eq_true rfl) (hts _ qf_X10_48) (fun _ h9 => h9) rfl dX10_bindFour_12 ?_
  refine lv_aload_n hx hb dX10_bindFour_15 rfl (lv_at hl 0 rfl) ?_
  refine va_get (D := (dC, dI)) (ci := 10) (v := .ref h_t_member) (C := RX10) (T := TX10) (N := 3) hx hb hts in_X10 hown hK hP 0 rfl rfl 0 (Nat.le_of_ble_eq_true rfl) (hts _ qf_X10_9) (fun _ h9 => h9) rfl dX10_bindFour_16 ?_
  refine lv_iconst (v := (3 : Int32)) hx hb dX10_bindFour_19 (by decide) ?_
  refine va_iald hx hb hK hP 1 0 rfl rfl (inb_in (by decide)) dX10_bindFour_20 ?_
  obtain ⟨hg_2, hf⟩ := gd_some hf
  refine va_iald hx hb hK hP 4 0 rfl rfl (inb_in hg_2) dX10_bindFour_21 ?_
  refine lv_isub hx hb dX10_bindFour_22 ?_
  refine lv_i2l hx hb dX10_bindFour_23 rfl ?_
  refine lv_topl (fun l2_3 el2_3 => ?_)
  replace hf := xl_at hf el2_3
  refine lv_lstore_n (lv' := [(2, .long l2_3), (0, .ref h_t), (1, .ref h_p1)]) hx hb dX10_bindFour_24 rfl hl (Nat.le_of_ble_eq_true rfl) rfl (fun ls hl => ?_)
  refine lv_aload_n hx hb dX10_bindFour_25 rfl (lv_at hl 2 rfl) ?_
  refine va_get (D := (dC, dI)) (ci := 0) (v := .ref h_p1_y) (C := RX0) (T := TX0) (N := 7) hx hb hts in_X0 hown hK hP 3 rfl rfl 1 (Nat.le_of_ble_eq_true rfl) (hts _ qf_X10_51) (fun _ h9 => h9) rfl dX10_bindFour_26 ?_
  refine lv_aload_n hx hb dX10_bindFour_29 rfl (lv_at hl 1 rfl) ?_
  refine va_get (D := (dC, dI)) (ci := 10) (v := .ref h_t_member) (C := RX10) (T := TX10) (N := 3) hx hb hts in_X10 hown hK hP 0 rfl rfl 0 (Nat.le_of_ble_eq_true rfl) (hts _ qf_X10_9) (fun _ h9 => h9) rfl dX10_bindFour_30 ?_
  refine lv_iconst (v := (0 : Int32)) hx hb dX10_bindFour_33 (by decide) ?_
  refine va_iald hx hb hK hP 1 0 rfl rfl (inb_in (by decide)) dX10_bindFour_34 ?_
  obtain ⟨hg_4, hf⟩ := gd_some hf
  refine va_iald hx hb hK hP 5 0 rfl rfl (inb_in hg_4) dX10_bindFour_35 ?_
  refine lv_aload_n hx hb dX10_bindFour_36 rfl (lv_at hl 2 rfl) ?_
  refine va_get (D := (dC, dI)) (ci := 0) (v := .ref h_p1_y) (C := RX0) (T := TX0) (N := 7) hx hb hts in_X0 hown hK hP 3 rfl rfl 1 (Nat.le_of_ble_eq_true rfl) (hts _ qf_X10_51) (fun _ h9 => h9) rfl dX10_bindFour_37 ?_
  refine lv_aload_n hx hb dX10_bindFour_40 rfl (lv_at hl 1 rfl) ?_
  refine va_get (D := (dC, dI)) (ci := 10) (v := .ref h_t_member) (C := RX10) (T := TX10) (N := 3) hx hb hts in_X10 hown hK hP 0 rfl rfl 0 (Nat.le_of_ble_eq_true rfl) (hts _ qf_X10_9) (fun _ h9 => h9) rfl dX10_bindFour_41 ?_
  refine lv_iconst (v := (3 : Int32)) hx hb dX10_bindFour_44 (by decide) ?_
  refine va_iald hx hb hK hP 1 0 rfl rfl (inb_in (by decide)) dX10_bindFour_45 ?_
  obtain ⟨hg_5, hf⟩ := gd_some hf
  refine va_iald hx hb hK hP 5 0 rfl rfl (inb_in hg_5) dX10_bindFour_46 ?_
  refine lv_isub hx hb dX10_bindFour_47 ?_
  refine lv_i2l hx hb dX10_bindFour_48 rfl ?_
  refine lv_topl (fun l4_6 el4_6 => ?_)
  replace hf := xl_at hf el4_6
  refine lv_lstore (lv' := [(4, .long l4_6), (2, .long l2_3), (0, .ref h_t), (1, .ref h_p1)]) hx hb dX10_bindFour_49 hl (Nat.le_of_ble_eq_true rfl) rfl (fun ls hl => ?_)
  refine lv_aload_n hx hb dX10_bindFour_51 rfl (lv_at hl 3 rfl) ?_
  refine va_get (D := (dC, dI)) (ci := 0) (v := .ref h_p1_x) (C := RX0) (T := TX0) (N := 7) hx hb hts in_X0 hown hK hP 3 rfl rfl 0 (Nat.le_of_ble_eq_true rfl) (hts _ qf_X10_48) (fun _ h9 => h9) rfl dX10_bindFour_52 ?_
  refine lv_aload_n hx hb dX10_bindFour_55 rfl (lv_at hl 2 rfl) ?_
  refine va_get (D := (dC, dI)) (ci := 10) (v := .ref h_t_member) (C := RX10) (T := TX10) (N := 3) hx hb hts in_X10 hown hK hP 0 rfl rfl 0 (Nat.le_of_ble_eq_true rfl) (hts _ qf_X10_9) (fun _ h9 => h9) rfl dX10_bindFour_56 ?_
  refine lv_iconst (v := (1 : Int32)) hx hb dX10_bindFour_59 (by decide) ?_
  refine va_iald hx hb hK hP 1 0 rfl rfl (inb_in (by decide)) dX10_bindFour_60 ?_
  obtain ⟨hg_7, hf⟩ := gd_some hf
  refine va_iald hx hb hK hP 4 0 rfl rfl (inb_in hg_7) dX10_bindFour_61 ?_
  refine lv_aload_n hx hb dX10_bindFour_62 rfl (lv_at hl 3 rfl) ?_
  refine va_get (D := (dC, dI)) (ci := 0) (v := .ref h_p1_x) (C := RX0) (T := TX0) (N := 7) hx hb hts in_X0 hown hK hP 3 rfl rfl 0 (Nat.le_of_ble_eq_true rfl) (hts _ qf_X10_48) (fun _ h9 => h9) rfl dX10_bindFour_63 ?_
  refine lv_aload_n hx hb dX10_bindFour_66 rfl (lv_at hl 2 rfl) ?_
  refine va_get (D := (dC, dI)) (ci := 10) (v := .ref h_t_member) (C := RX10) (T := TX10) (N := 3) hx hb hts in_X10 hown hK hP 0 rfl rfl 0 (Nat.le_of_ble_eq_true rfl) (hts _ qf_X10_9) (fun _ h9 => h9) rfl dX10_bindFour_67 ?_
  refine lv_iconst (v := (3 : Int32)) hx hb dX10_bindFour_70 (by decide) ?_
  refine va_iald hx hb hK hP 1 0 rfl rfl (inb_in (by decide)) dX10_bindFour_71 ?_
  obtain ⟨hg_8, hf⟩ := gd_some hf
  refine va_iald hx hb hK hP 4 0 rfl rfl (inb_in hg_8) dX10_bindFour_72 ?_
  refine lv_isub hx hb dX10_bindFour_73 ?_
  refine lv_i2l hx hb dX10_bindFour_74 rfl ?_
  refine lv_topl (fun l6_9 el6_9 => ?_)
  replace hf := xl_at hf el6_9
  refine lv_lstore (lv' := [(6, .long l6_9), (4, .long l4_6), (2, .long l2_3), (0, .ref h_t), (1, .ref h_p1)]) hx hb dX10_bindFour_75 hl (Nat.le_of_ble_eq_true rfl) rfl (fun ls hl => ?_)
  refine lv_aload_n hx hb dX10_bindFour_77 rfl (lv_at hl 4 rfl) ?_
  refine va_get (D := (dC, dI)) (ci := 0) (v := .ref h_p1_y) (C := RX0) (T := TX0) (N := 7) hx hb hts in_X0 hown hK hP 3 rfl rfl 1 (Nat.le_of_ble_eq_true rfl) (hts _ qf_X10_51) (fun _ h9 => h9) rfl dX10_bindFour_78 ?_
  refine lv_aload_n hx hb dX10_bindFour_81 rfl (lv_at hl 3 rfl) ?_
  refine va_get (D := (dC, dI)) (ci := 10) (v := .ref h_t_member) (C := RX10) (T := TX10) (N := 3) hx hb hts in_X10 hown hK hP 0 rfl rfl 0 (Nat.le_of_ble_eq_true rfl) (hts _ qf_X10_9) (fun _ h9 => h9) rfl dX10_bindFour_82 ?_
  refine lv_iconst (v := (1 : Int32)) hx hb dX10_bindFour_85 (by decide) ?_
  refine va_iald hx hb hK hP 1 0 rfl rfl (inb_in (by decide)) dX10_bindFour_86 ?_
  obtain ⟨hg_10, hf⟩ := gd_some hf
  refine va_iald hx hb hK hP 5 0 rfl rfl (inb_in hg_10) dX10_bindFour_87 ?_
  refine lv_aload_n hx hb dX10_bindFour_88 rfl (lv_at hl 4 rfl) ?_
  refine va_get (D := (dC, dI)) (ci := 0) (v := .ref h_p1_y) (C := RX0) (T := TX0) (N := 7) hx hb hts in_X0 hown hK hP 3 rfl rfl 1 (Nat.le_of_ble_eq_true rfl) (hts _ qf_X10_51) (fun _ h9 => h9) rfl dX10_bindFour_89 ?_
  refine lv_aload_n hx hb dX10_bindFour_92 rfl (lv_at hl 3 rfl) ?_
  refine va_get (D := (dC, dI)) (ci := 10) (v := .ref h_t_member) (C := RX10) (T := TX10) (N := 3) hx hb hts in_X10 hown hK hP 0 rfl rfl 0 (Nat.le_of_ble_eq_true rfl) (hts _ qf_X10_9) (fun _ h9 => h9) rfl dX10_bindFour_93 ?_
  refine lv_iconst (v := (3 : Int32)) hx hb dX10_bindFour_96 (by decide) ?_
  refine va_iald hx hb hK hP 1 0 rfl rfl (inb_in (by decide)) dX10_bindFour_97 ?_
  obtain ⟨hg_11, hf⟩ := gd_some hf
  refine va_iald hx hb hK hP 5 0 rfl rfl (inb_in hg_11) dX10_bindFour_98 ?_
  refine lv_isub hx hb dX10_bindFour_99 ?_
  refine lv_i2l hx hb dX10_bindFour_100 rfl ?_
  refine lv_topl (fun l8_12 el8_12 => ?_)
  replace hf := xl_at hf el8_12
  refine lv_lstore (lv' := [(8, .long l8_12), (6, .long l6_9), (4, .long l4_6), (2, .long l2_3), (0, .ref h_t), (1, .ref h_p1)]) hx hb dX10_bindFour_101 hl (Nat.le_of_ble_eq_true rfl) rfl (fun ls hl => ?_)
  refine lv_aload_n hx hb dX10_bindFour_103 rfl (lv_at hl 5 rfl) ?_
  refine va_get (D := (dC, dI)) (ci := 0) (v := .ref h_p1_x) (C := RX0) (T := TX0) (N := 7) hx hb hts in_X0 hown hK hP 3 rfl rfl 0 (Nat.le_of_ble_eq_true rfl) (hts _ qf_X10_48) (fun _ h9 => h9) rfl dX10_bindFour_104 ?_
  refine lv_aload_n hx hb dX10_bindFour_107 rfl (lv_at hl 4 rfl) ?_
  refine va_get (D := (dC, dI)) (ci := 10) (v := .ref h_t_member) (C := RX10) (T := TX10) (N := 3) hx hb hts in_X10 hown hK hP 0 rfl rfl 0 (Nat.le_of_ble_eq_true rfl) (hts _ qf_X10_9) (fun _ h9 => h9) rfl dX10_bindFour_108 ?_
  refine lv_iconst (v := (2 : Int32)) hx hb dX10_bindFour_111 (by decide) ?_
  refine va_iald hx hb hK hP 1 0 rfl rfl (inb_in (by decide)) dX10_bindFour_112 ?_
  obtain ⟨hg_13, hf⟩ := gd_some hf
  refine va_iald hx hb hK hP 4 0 rfl rfl (inb_in hg_13) dX10_bindFour_113 ?_
  refine lv_aload_n hx hb dX10_bindFour_114 rfl (lv_at hl 5 rfl) ?_
  refine va_get (D := (dC, dI)) (ci := 0) (v := .ref h_p1_x) (C := RX0) (T := TX0) (N := 7) hx hb hts in_X0 hown hK hP 3 rfl rfl 0 (Nat.le_of_ble_eq_true rfl) (hts _ qf_X10_48) (fun _ h9 => h9) rfl dX10_bindFour_115 ?_
  refine lv_aload_n hx hb dX10_bindFour_118 rfl (lv_at hl 4 rfl) ?_
  refine va_get (D := (dC, dI)) (ci := 10) (v := .ref h_t_member) (C := RX10) (T := TX10) (N := 3) hx hb hts in_X10 hown hK hP 0 rfl rfl 0 (Nat.le_of_ble_eq_true rfl) (hts _ qf_X10_9) (fun _ h9 => h9) rfl dX10_bindFour_119 ?_
  refine lv_iconst (v := (3 : Int32)) hx hb dX10_bindFour_122 (by decide) ?_
  refine va_iald hx hb hK hP 1 0 rfl rfl (inb_in (by decide)) dX10_bindFour_123 ?_
  obtain ⟨hg_14, hf⟩ := gd_some hf
  refine va_iald hx hb hK hP 4 0 rfl rfl (inb_in hg_14) dX10_bindFour_124 ?_
  refine lv_isub hx hb dX10_bindFour_125 ?_
  refine lv_i2l hx hb dX10_bindFour_126 rfl ?_
  refine lv_topl (fun l10_15 el10_15 => ?_)
  replace hf := xl_at hf el10_15
  refine lv_lstore (lv' := [(10, .long l10_15), (8, .long l8_12), (6, .long l6_9), (4, .long l4_6), (2, .long l2_3), (0, .ref h_t), (1, .ref h_p1)]) hx hb dX10_bindFour_127 hl (Nat.le_of_ble_eq_true rfl) rfl (fun ls hl => ?_)
  refine lv_aload_n hx hb dX10_bindFour_129 rfl (lv_at hl 6 rfl) ?_
  refine va_get (D := (dC, dI)) (ci := 0) (v := .ref h_p1_y) (C := RX0) (T := TX0) (N := 7) hx hb hts in_X0 hown hK hP 3 rfl rfl 1 (Nat.le_of_ble_eq_true rfl) (hts _ qf_X10_51) (fun _ h9 => h9) rfl dX10_bindFour_130 ?_
  refine lv_aload_n hx hb dX10_bindFour_133 rfl (lv_at hl 5 rfl) ?_
  refine va_get (D := (dC, dI)) (ci := 10) (v := .ref h_t_member) (C := RX10) (T := TX10) (N := 3) hx hb hts in_X10 hown hK hP 0 rfl rfl 0 (Nat.le_of_ble_eq_true rfl) (hts _ qf_X10_9) (fun _ h9 => h9) rfl dX10_bindFour_134 ?_
  refine lv_iconst (v := (2 : Int32)) hx hb dX10_bindFour_137 (by decide) ?_
  refine va_iald hx hb hK hP 1 0 rfl rfl (inb_in (by decide)) dX10_bindFour_138 ?_
  obtain ⟨hg_16, hf⟩ := gd_some hf
  refine va_iald hx hb hK hP 5 0 rfl rfl (inb_in hg_16) dX10_bindFour_139 ?_
  refine lv_aload_n hx hb dX10_bindFour_140 rfl (lv_at hl 6 rfl) ?_
  refine va_get (D := (dC, dI)) (ci := 0) (v := .ref h_p1_y) (C := RX0) (T := TX0) (N := 7) hx hb hts in_X0 hown hK hP 3 rfl rfl 1 (Nat.le_of_ble_eq_true rfl) (hts _ qf_X10_51) (fun _ h9 => h9) rfl dX10_bindFour_141 ?_
  refine lv_aload_n hx hb dX10_bindFour_144 rfl (lv_at hl 5 rfl) ?_
  refine va_get (D := (dC, dI)) (ci := 10) (v := .ref h_t_member) (C := RX10) (T := TX10) (N := 3) hx hb hts in_X10 hown hK hP 0 rfl rfl 0 (Nat.le_of_ble_eq_true rfl) (hts _ qf_X10_9) (fun _ h9 => h9) rfl dX10_bindFour_145 ?_
  refine lv_iconst (v := (3 : Int32)) hx hb dX10_bindFour_148 (by decide) ?_
  refine va_iald hx hb hK hP 1 0 rfl rfl (inb_in (by decide)) dX10_bindFour_149 ?_
  obtain ⟨hg_17, hf⟩ := gd_some hf
  refine va_iald hx hb hK hP 5 0 rfl rfl (inb_in hg_17) dX10_bindFour_150 ?_
  refine lv_isub hx hb dX10_bindFour_151 ?_
  refine lv_i2l hx hb dX10_bindFour_152 rfl ?_
  refine lv_topl (fun l12_18 el12_18 => ?_)
  replace hf := xl_at hf el12_18
  refine lv_lstore (lv' := [(12, .long l12_18), (10, .long l10_15), (8, .long l8_12), (6, .long l6_9), (4, .long l4_6), (2, .long l2_3), (0, .ref h_t), (1, .ref h_p1)]) hx hb dX10_bindFour_153 hl (Nat.le_of_ble_eq_true rfl) rfl (fun ls hl => ?_)
  refine lv_aload_n hx hb dX10_bindFour_155 rfl (lv_at hl 6 rfl) ?_
  refine va_get (D := (dC, dI)) (ci := 10) (v := .ref h_t_factor) (C := RX10) (T := TX10) (N := 3) hx hb hts in_X10 hown hK hP 0 rfl rfl 1 (Nat.le_of_ble_eq_true rfl) (hts _ qf_X10_13) (fun _ h9 => h9) rfl dX10_bindFour_156 ?_
  refine lv_iconst (v := (0 : Int32)) hx hb dX10_bindFour_159 (by decide) ?_
  refine lv_lload hx hb dX10_bindFour_160 (lv_at hl 3 rfl) ?_
  refine lv_lload hx hb dX10_bindFour_162 (lv_at hl 2 rfl) ?_
  refine lv_lload hx hb dX10_bindFour_164 (lv_at hl 1 rfl) ?_
  refine lv_lload hx hb dX10_bindFour_166 (lv_at hl 0 rfl) ?_
  obtain ⟨r_19, hq_20, hf⟩ := b1_some hf
  refine xcl (wr := [(h_t, .inr (10, [.ref h_t_member, .ref h_t_factor, .int t_size])), (h_t_member, .inl (cI, 4, .inl t_member)), (h_t_factor, .inl (cL, 4, .inr (.inl t_factor))), (h_p1, .inr (0, [.ref h_p1_x, .ref h_p1_y, .ref h_p1_colour, .ref h_p1_load, .int p1_size, .int p1_centreX, .int p1_centreY])), (h_p1_x, .inl (cI, 24, .inl p1_x)), (h_p1_y, .inl (cI, 24, .inl p1_y))]) (w2 := [(h_t, .inr (10, [.ref h_t_member, .ref h_t_factor, .int t_size])), (h_t_member, .inl (cI, 4, .inl t_member)), (h_t_factor, .inl (cL, 4, .inr (.inl t_factor))), (h_p1, .inr (0, [.ref h_p1_x, .ref h_p1_y, .ref h_p1_colour, .ref h_p1_load, .int p1_size, .int p1_centreX, .int p1_centreY])), (h_p1_x, .inl (cI, 24, .inl p1_x)), (h_p1_y, .inl (cI, 24, .inl p1_y))]) (va_runSN (As := [.long l6_9, .long l8_12, .long l10_15, .long l12_18]) (rest := [.int (0 : Int32), .ref h_t_factor]) ⟨hx, hb, hml, hown, hts⟩ (mtX11_cross l dC dI cI cL cB K H.size l6_9 l8_12 l10_15 l12_18 r_19 hq_20) ⟨va_cnB 4 hts (gcode qc_X11_cross) rfl rfl rfl (hT _ qm_X10_58) (hts _ qz_X11) hdS_X11_cross ⟨Nat.le_trans (Nat.le_of_ble_eq_true rfl) hF, Nat.le_trans (Nat.le_of_ble_eq_true rfl) hLo⟩, hts _ qt_X11_cross, trivial⟩ (cPreS hK hP hD hT [] rfl rfl) rfl rfl hl.1 rfl (lv_room (Nat.le_of_ble_eq_true rfl)) dX10_bindFour_168 ⟨Nat.zero_le _, Nat.zero_le _⟩) hP hD hS hA [] [0, 1, 2, 3, 4, 5] [0, 1, 2, 3, 4, 5] rfl rfl rfl rfl rfl rfl (fun H locs hP hD hS => ?_)
  refine lv_lneg hx hb dX10_bindFour_171 ?_
  obtain ⟨t_factor_21, et_factor_21⟩ : ∃ y : Nat → Int64, y = vp_updL t_factor (0 : Int32).toNatClampNeg (-r_19) := ⟨_, rfl⟩
  replace hf := xl_at hf et_factor_21
  refine xlast (w2 := [(h_t, .inr (10, [.ref h_t_member, .ref h_t_factor, .int t_size])), (h_t_member, .inl (cI, 4, .inl t_member)), (h_t_factor, .inl (cL, 4, .inr (.inl t_factor_21))), (h_p1, .inr (0, [.ref h_p1_x, .ref h_p1_y, .ref h_p1_colour, .ref h_p1_load, .int p1_size, .int p1_centreX, .int p1_centreY])), (h_p1_x, .inl (cI, 24, .inl p1_x)), (h_p1_y, .inl (cI, 24, .inl p1_y))]) hx hb hK hP hD hS 2 1 rfl rfl (inb_in (by decide)) et_factor_21 rfl dX10_bindFour_172 (fun H locs hP hD hS => ?_)
  refine lv_aload_n hx hb dX10_bindFour_173 rfl (lv_at hl 6 rfl) ?_
  refine va_get (D := (dC, dI)) (ci := 10) (v := .ref h_t_factor) (C := RX10) (T := TX10) (N := 3) hx hb hts in_X10 hown hK hP 0 rfl rfl 1 (Nat.le_of_ble_eq_true rfl) (hts _ qf_X10_13) (fun _ h9 => h9) rfl dX10_bindFour_174 ?_
  refine lv_iconst (v := (1 : Int32)) hx hb dX10_bindFour_177 (by decide) ?_
  refine lv_lload hx hb dX10_bindFour_178 (lv_at hl 1 rfl) ?_
  refine lv_lload hx hb dX10_bindFour_180 (lv_at hl 0 rfl) ?_
  refine lv_lload_n hx hb dX10_bindFour_182 rfl (lv_at hl 5 rfl) ?_
  refine lv_lload hx hb dX10_bindFour_183 (lv_at hl 4 rfl) ?_
  obtain ⟨r_22, hq_23, hf⟩ := b1_some hf
  refine xcl (wr := [(h_t, .inr (10, [.ref h_t_member, .ref h_t_factor, .int t_size])), (h_t_member, .inl (cI, 4, .inl t_member)), (h_t_factor, .inl (cL, 4, .inr (.inl t_factor_21))), (h_p1, .inr (0, [.ref h_p1_x, .ref h_p1_y, .ref h_p1_colour, .ref h_p1_load, .int p1_size, .int p1_centreX, .int p1_centreY])), (h_p1_x, .inl (cI, 24, .inl p1_x)), (h_p1_y, .inl (cI, 24, .inl p1_y))]) (w2 := [(h_t, .inr (10, [.ref h_t_member, .ref h_t_factor, .int t_size])), (h_t_member, .inl (cI, 4, .inl t_member)), (h_t_factor, .inl (cL, 4, .inr (.inl t_factor_21))), (h_p1, .inr (0, [.ref h_p1_x, .ref h_p1_y, .ref h_p1_colour, .ref h_p1_load, .int p1_size, .int p1_centreX, .int p1_centreY])), (h_p1_x, .inl (cI, 24, .inl p1_x)), (h_p1_y, .inl (cI, 24, .inl p1_y))]) (va_runSN (As := [.long l10_15, .long l12_18, .long l2_3, .long l4_6]) (rest := [.int (1 : Int32), .ref h_t_factor]) ⟨hx, hb, hml, hown, hts⟩ (mtX11_cross l dC dI cI cL cB K H.size l10_15 l12_18 l2_3 l4_6 r_22 hq_23) ⟨va_cnB 4 hts (gcode qc_X11_cross) rfl rfl rfl (hT _ qm_X10_58) (hts _ qz_X11) hdS_X11_cross ⟨Nat.le_trans (Nat.le_of_ble_eq_true rfl) hF, Nat.le_trans (Nat.le_of_ble_eq_true rfl) hLo⟩, hts _ qt_X11_cross, trivial⟩ (cPreS hK hP hD hT [] rfl rfl) rfl rfl hl.1 rfl (lv_room (Nat.le_of_ble_eq_true rfl)) dX10_bindFour_185 ⟨Nat.zero_le _, Nat.zero_le _⟩) hP hD hS hA [] [0, 1, 2, 3, 4, 5] [0, 1, 2, 3, 4, 5] rfl rfl rfl rfl rfl rfl (fun H locs hP hD hS => ?_)
  refine lv_lneg hx hb dX10_bindFour_188 ?_
  obtain ⟨t_factor_24, et_factor_24⟩ : ∃ y : Nat → Int64, y = vp_updL t_factor_21 (1 : Int32).toNatClampNeg (-r_22) := ⟨_, rfl⟩
  replace hf := xl_at hf et_factor_24
  refine xlast (w2 := [(h_t, .inr (10, [.ref h_t_member, .ref h_t_factor, .int t_size])), (h_t_member, .inl (cI, 4, .inl t_member)), (h_t_factor, .inl (cL, 4, .inr (.inl t_factor_24))), (h_p1, .inr (0, [.ref h_p1_x, .ref h_p1_y, .ref h_p1_colour, .ref h_p1_load, .int p1_size, .int p1_centreX, .int p1_centreY])), (h_p1_x, .inl (cI, 24, .inl p1_x)), (h_p1_y, .inl (cI, 24, .inl p1_y))]) hx hb hK hP hD hS 2 1 rfl rfl (inb_in (by decide)) et_factor_24 rfl dX10_bindFour_189 (fun H locs hP hD hS => ?_)
  refine lv_aload_n hx hb dX10_bindFour_190 rfl (lv_at hl 6 rfl) ?_
  refine va_get (D := (dC, dI)) (ci := 10) (v := .ref h_t_factor) (C := RX10) (T := TX10) (N := 3) hx hb hts in_X10 hown hK hP 0 rfl rfl 1 (Nat.le_of_ble_eq_true rfl) (hts _ qf_X10_13) (fun _ h9 => h9) rfl dX10_bindFour_191 ?_
  refine lv_iconst (v := (2 : Int32)) hx hb dX10_bindFour_194 (by decide) ?_
  refine lv_lload_n hx hb dX10_bindFour_195 rfl (lv_at hl 5 rfl) ?_
  refine lv_lload hx hb dX10_bindFour_196 (lv_at hl 4 rfl) ?_
  refine lv_lload hx hb dX10_bindFour_198 (lv_at hl 3 rfl) ?_
  refine lv_lload hx hb dX10_bindFour_200 (lv_at hl 2 rfl) ?_
  obtain ⟨r_25, hq_26, hf⟩ := b1_some hf
  refine xcl (wr := [(h_t, .inr (10, [.ref h_t_member, .ref h_t_factor, .int t_size])), (h_t_member, .inl (cI, 4, .inl t_member)), (h_t_factor, .inl (cL, 4, .inr (.inl t_factor_24))), (h_p1, .inr (0, [.ref h_p1_x, .ref h_p1_y, .ref h_p1_colour, .ref h_p1_load, .int p1_size, .int p1_centreX, .int p1_centreY])), (h_p1_x, .inl (cI, 24, .inl p1_x)), (h_p1_y, .inl (cI, 24, .inl p1_y))]) (w2 := [(h_t, .inr (10, [.ref h_t_member, .ref h_t_factor, .int t_size])), (h_t_member, .inl (cI, 4, .inl t_member)), (h_t_factor, .inl (cL, 4, .inr (.inl t_factor_24))), (h_p1, .inr (0, [.ref h_p1_x, .ref h_p1_y, .ref h_p1_colour, .ref h_p1_load, .int p1_size, .int p1_centreX, .int p1_centreY])), (h_p1_x, .inl (cI, 24, .inl p1_x)), (h_p1_y, .inl (cI, 24, .inl p1_y))]) (va_runSN (As := [.long l2_3, .long l4_6, .long l6_9, .long l8_12]) (rest := [.int (2 : Int32), .ref h_t_factor]) ⟨hx, hb, hml, hown, hts⟩ (mtX11_cross l dC dI cI cL cB K H.size l2_3 l4_6 l6_9 l8_12 r_25 hq_26) ⟨va_cnB 4 hts (gcode qc_X11_cross) rfl rfl rfl (hT _ qm_X10_58) (hts _ qz_X11) hdS_X11_cross ⟨Nat.le_trans (Nat.le_of_ble_eq_true rfl) hF, Nat.le_trans (Nat.le_of_ble_eq_true rfl) hLo⟩, hts _ qt_X11_cross, trivial⟩ (cPreS hK hP hD hT [] rfl rfl) rfl rfl hl.1 rfl (lv_room (Nat.le_of_ble_eq_true rfl)) dX10_bindFour_202 ⟨Nat.zero_le _, Nat.zero_le _⟩) hP hD hS hA [] [0, 1, 2, 3, 4, 5] [0, 1, 2, 3, 4, 5] rfl rfl rfl rfl rfl rfl (fun H locs hP hD hS => ?_)
  refine lv_lneg hx hb dX10_bindFour_205 ?_
  obtain ⟨t_factor_27, et_factor_27⟩ : ∃ y : Nat → Int64, y = vp_updL t_factor_24 (2 : Int32).toNatClampNeg (-r_25) := ⟨_, rfl⟩
  replace hf := xl_at hf et_factor_27
  refine xlast (w2 := [(h_t, .inr (10, [.ref h_t_member, .ref h_t_factor, .int t_size])), (h_t_member, .inl (cI, 4, .inl t_member)), (h_t_factor, .inl (cL, 4, .inr (.inl t_factor_27))), (h_p1, .inr (0, [.ref h_p1_x, .ref h_p1_y, .ref h_p1_colour, .ref h_p1_load, .int p1_size, .int p1_centreX, .int p1_centreY])), (h_p1_x, .inl (cI, 24, .inl p1_x)), (h_p1_y, .inl (cI, 24, .inl p1_y))]) hx hb hK hP hD hS 2 1 rfl rfl (inb_in (by decide)) et_factor_27 rfl dX10_bindFour_206 (fun H locs hP hD hS => ?_)
  refine lv_aload_n hx hb dX10_bindFour_207 rfl (lv_at hl 6 rfl) ?_
  refine va_get (D := (dC, dI)) (ci := 10) (v := .ref h_t_factor) (C := RX10) (T := TX10) (N := 3) hx hb hts in_X10 hown hK hP 0 rfl rfl 1 (Nat.le_of_ble_eq_true rfl) (hts _ qf_X10_13) (fun _ h9 => h9) rfl dX10_bindFour_208 ?_
  refine lv_iconst (v := (3 : Int32)) hx hb dX10_bindFour_211 (by decide) ?_
  refine lv_aload_n hx hb dX10_bindFour_212 rfl (lv_at hl 6 rfl) ?_
  refine va_get (D := (dC, dI)) (ci := 10) (v := .ref h_t_factor) (C := RX10) (T := TX10) (N := 3) hx hb hts in_X10 hown hK hP 0 rfl rfl 1 (Nat.le_of_ble_eq_true rfl) (hts _ qf_X10_13) (fun _ h9 => h9) rfl dX10_bindFour_213 ?_
  refine lv_iconst (v := (0 : Int32)) hx hb dX10_bindFour_216 (by decide) ?_
  refine va_lald hx hb hK hP 2 1 rfl rfl (inb_in (by decide)) dX10_bindFour_217 ?_
  refine lv_aload_n hx hb dX10_bindFour_218 rfl (lv_at hl 6 rfl) ?_
  refine va_get (D := (dC, dI)) (ci := 10) (v := .ref h_t_factor) (C := RX10) (T := TX10) (N := 3) hx hb hts in_X10 hown hK hP 0 rfl rfl 1 (Nat.le_of_ble_eq_true rfl) (hts _ qf_X10_13) (fun _ h9 => h9) rfl dX10_bindFour_219 ?_
  refine lv_iconst (v := (1 : Int32)) hx hb dX10_bindFour_222 (by decide) ?_
  refine va_lald hx hb hK hP 2 1 rfl rfl (inb_in (by decide)) dX10_bindFour_223 ?_
  refine lv_ladd hx hb dX10_bindFour_224 ?_
  refine lv_aload_n hx hb dX10_bindFour_225 rfl (lv_at hl 6 rfl) ?_
  refine va_get (D := (dC, dI)) (ci := 10) (v := .ref h_t_factor) (C := RX10) (T := TX10) (N := 3) hx hb hts in_X10 hown hK hP 0 rfl rfl 1 (Nat.le_of_ble_eq_true rfl) (hts _ qf_X10_13) (fun _ h9 => h9) rfl dX10_bindFour_226 ?_
  refine lv_iconst (v := (2 : Int32)) hx hb dX10_bindFour_229 (by decide) ?_
  refine va_lald hx hb hK hP 2 1 rfl rfl (inb_in (by decide)) dX10_bindFour_230 ?_
  refine lv_ladd hx hb dX10_bindFour_231 ?_
  refine lv_lneg hx hb dX10_bindFour_232 ?_
  obtain ⟨t_factor_28, et_factor_28⟩ : ∃ y : Nat → Int64, y = vp_updL t_factor_27 (3 : Int32).toNatClampNeg (-(((t_factor_27 (0 : Int32).toNatClampNeg) + (t_factor_27 (1 : Int32).toNatClampNeg)) + (t_factor_27 (2 : Int32).toNatClampNeg))) := ⟨_, rfl⟩
  replace hf := xl_at hf et_factor_28
  refine xlast (w2 := [(h_t, .inr (10, [.ref h_t_member, .ref h_t_factor, .int t_size])), (h_t_member, .inl (cI, 4, .inl t_member)), (h_t_factor, .inl (cL, 4, .inr (.inl t_factor_28))), (h_p1, .inr (0, [.ref h_p1_x, .ref h_p1_y, .ref h_p1_colour, .ref h_p1_load, .int p1_size, .int p1_centreX, .int p1_centreY])), (h_p1_x, .inl (cI, 24, .inl p1_x)), (h_p1_y, .inl (cI, 24, .inl p1_y))]) hx hb hK hP hD hS 2 1 rfl rfl (inb_in (by decide)) et_factor_28 rfl dX10_bindFour_233 (fun H locs hP hD hS => ?_)
  refine lv_iconst (v := (1 : Int32)) hx hb dX10_bindFour_234 (by decide) ?_
  obtain ⟨rfl, rfl⟩ := o2 hf
  exact W.zret hx hb hr rfl (fun t ht hW => ⟨⟨_, (), rfl, rfl, by rw [ht]; exact hP, hD⟩, hS.F ht⟩) hS.2.2 dX10_bindFour_235
theorem dX10_bind_0 : decode cX10_bind 0 = .ok (.aload_n 0, 1) := by decide +kernel
theorem dX10_bind_1 : decode cX10_bind 1 = .ok (.getfield 17, 3) := by decide +kernel
theorem dX10_bind_4 : decode cX10_bind 4 = .ok (.tableswitch 46 2 4 #[28, 34, 40], 28) := by decide +kernel
theorem dX10_bind_32 : decode cX10_bind 32 = .ok (.aload_n 0, 1) := by decide +kernel
theorem dX10_bind_33 : decode cX10_bind 33 = .ok (.aload_n 1, 1) := by decide +kernel
theorem dX10_bind_34 : decode cX10_bind 34 = .ok (.invokevirtual 37, 3) := by decide +kernel
theorem dX10_bind_37 : decode cX10_bind 37 = .ok (.ireturn, 1) := by decide +kernel
theorem dX10_bind_38 : decode cX10_bind 38 = .ok (.aload_n 0, 1) := by decide +kernel
theorem dX10_bind_39 : decode cX10_bind 39 = .ok (.aload_n 1, 1) := by decide +kernel
theorem dX10_bind_40 : decode cX10_bind 40 = .ok (.invokevirtual 40, 3) := by decide +kernel
theorem dX10_bind_43 : decode cX10_bind 43 = .ok (.ireturn, 1) := by decide +kernel
theorem dX10_bind_44 : decode cX10_bind 44 = .ok (.aload_n 0, 1) := by decide +kernel
theorem dX10_bind_45 : decode cX10_bind 45 = .ok (.aload_n 1, 1) := by decide +kernel
theorem dX10_bind_46 : decode cX10_bind 46 = .ok (.invokevirtual 43, 3) := by decide +kernel
theorem dX10_bind_49 : decode cX10_bind 49 = .ok (.ireturn, 1) := by decide +kernel
theorem dX10_bind_50 : decode cX10_bind 50 = .ok (.iconst 0, 1) := by decide +kernel
theorem dX10_bind_51 : decode cX10_bind 51 = .ok (.ireturn, 1) := by decide +kernel
set_option maxRecDepth 100000 in
set_option maxHeartbeats 4000000 in
theorem mtX10_bind (l : Launch) (dC : Nat → ClassId) (dI : Nat → Nat → Nat) (cI cL cB : ClassId) (K : Nat) (h_t h_t_member h_t_factor h_p1 h_p1_x h_p1_y h_p1_colour h_p1_load : Nat) (sz : Nat) (t_size : Int32) (t_member : Nat → Int32) (t_factor : Nat → Int64) (p1_size : Int32) (p1_centreX : Int32) (p1_centreY : Int32) (p1_x : Nat → Int32) (p1_y : Nat → Int32) (o_r : Int32) (o_t_factor : Nat → Int64) (hf : fX10_bind K t_size t_member t_factor p1_x p1_y = some (o_r, o_t_factor)) : Met l yX10_bind [Cond.code yX10_bind cX10_bind 2 (some .boolean)] ({ frames := 2, cells := 0, slots := 0, locals := 60 }) (va_Pc [.ref h_t, .ref h_p1] (cPre dC dI cI cL cB sz [(h_t, .inr (10, [.ref h_t_member, .ref h_t_factor, .int t_size])), (h_t_member, .inl (cI, 4, .inl t_member)), (h_t_factor, .inl (cL, 4, .inr (.inl t_factor))), (h_p1, .inr (0, [.ref h_p1_x, .ref h_p1_y, .ref h_p1_colour, .ref h_p1_load, .int p1_size, .int p1_centreX, .int p1_centreY])), (h_p1_x, .inl (cI, 24, .inl p1_x)), (h_p1_y, .inl (cI, 24, .inl p1_y))])) (cQi dC dI (va_A [(h_t, .inr (10, [.ref h_t_member, .ref h_t_factor, .int t_size])), (h_t_member, .inl (cI, 4, .inl t_member)), (h_t_factor, .inl (cL, 4, .inr (.inl t_factor))), (h_p1, .inr (0, [.ref h_p1_x, .ref h_p1_y, .ref h_p1_colour, .ref h_p1_load, .int p1_size, .int p1_centreX, .int p1_centreY])), (h_p1_x, .inl (cI, 24, .inl p1_x)), (h_p1_y, .inl (cI, 24, .inl p1_y))] sz) o_r [(h_t, .inr (10, [.ref h_t_member, .ref h_t_factor, .int t_size])), (h_t_member, .inl (cI, 4, .inl t_member)), (h_t_factor, .inl (cL, 4, .inr (.inl o_t_factor))), (h_p1, .inr (0, [.ref h_p1_x, .ref h_p1_y, .ref h_p1_colour, .ref h_p1_load, .int p1_size, .int p1_centreX, .int p1_centreY])), (h_p1_x, .inl (cI, 24, .inl p1_x)), (h_p1_y, .inl (cI, 24, .inl p1_y))]) 0 0 (va_A [(h_t, .inr (10, [.ref h_t_member, .ref h_t_factor, .int t_size])), (h_t_member, .inl (cI, 4, .inl t_member)), (h_t_factor, .inl (cL, 4, .inr (.inl t_factor))), (h_p1, .inr (0, [.ref h_p1_x, .ref h_p1_y, .ref h_p1_colour, .ref h_p1_load, .int p1_size, .int p1_centreX, .int p1_centreY])), (h_p1_x, .inl (cI, 24, .inl p1_x)), (h_p1_y, .inl (cI, 24, .inl p1_y))] sz) := by
  refine Met.ofW (cc := cX10_bind) (maxL := 2) (ret := (some .boolean)) (by decide) rfl ?_
  intro p e s m args below meth c s₁ B hml hv
  obtain ⟨rfl, hsz, hP, hK, hD0, hT⟩ := hv
  have hx := B.exec
  have hb := B.bytes
  have hr := B.returns
  have hown : s.vm.findClass RX10 = some m.cls := findClass_of_methodNamed B.named
  have hlocks := B.notSynchronized
  have hts := TB.use hT ([.ref h_t, .ref h_p1] : List Value).toArray
  subst hsz
  have hD := hD0.self (sz := s.heap.size)
  generalize hAe : va_A [(h_t, .inr (10, [.ref h_t_member, .ref h_t_factor, .int t_size])), (h_t_member, .inl (cI, 4, .inl t_member)), (h_t_factor, .inl (cL, 4, .inr (.inl t_factor))), (h_p1, .inr (0, [.ref h_p1_x, .ref h_p1_y, .ref h_p1_colour, .ref h_p1_load, .int p1_size, .int p1_centreX, .int p1_centreY])), (h_p1_x, .inl (cI, 24, .inl p1_x)), (h_p1_y, .inl (cI, 24, .inl p1_y))] s.heap.size = A at hD ⊢
  have hA : ∀ q : Nat, s.heap.size ≤ q → A q := fun q h => by rw [← hAe]; exact Or.inr h
  clear hAe hD0
  have hl := lv_entry ([.ref h_t, .ref h_p1]) (n := 2) (Nat.le_of_ble_eq_true rfl)
  rw [lg_entry_eq]
  generalize (lg_sl ([.ref h_t, .ref h_p1]) ++ List.replicate (2 - (lg_sl ([.ref h_t, .ref h_p1])).length) Slot.unset).toArray = ls at hl ⊢
  have hl : lv_has ls 2 [(0, .ref h_t), (1, .ref h_p1)] := hl
  have hF : 2 ≤ (headSpec [Cond.code yX10_bind cX10_bind 2 (some .boolean)] ({ frames := 2, cells := 0, slots := 0, locals := 60 })).room.frames := Nat.le_refl _
  have hLo : 60 ≤ (headSpec [Cond.code yX10_bind cX10_bind 2 (some .boolean)] ({ frames := 2, cells := 0, slots := 0, locals := 60 })).room.locals := Nat.le_refl _
  have C0 : Sx p (headSpec [Cond.code yX10_bind cX10_bind 2 (some .boolean)] ({ frames := 2, cells := 0, slots := 0, locals := 60 })).room s m ([.ref h_t, .ref h_p1] : List Value).toArray c cX10_bind 2 RX10 A dC dI cI cL cB 2 60 := ⟨hx, hb, hml, hown, hts, hK, hT, hA, hF, hLo⟩
  refine startH (A := A) hP (fun H locs hP hS => ?_)
  rw [fX10_bind] at hf
  refine lv_aload_n hx hb dX10_bind_0 rfl (lv_at hl 0 rfl) ?_
  refine va_get (D := (dC, dI)) (ci := 10) (v := .int t_size) (C := RX10) (T := TX10) (N := 3) hx hb hts in_X10 hown hK hP 0 rfl rfl 2 (Nat.le_of_ble_eq_true rfl) (hts _ qf_X10_17) (fun _ h9 => h9) rfl dX10_bind_1 ?_
  by_cases hk_1 : t_size = (2 : Int32)
  · replace hf := it_t hk_1 hf
    refine lv_tableIn (off := 28) (tgt := 32) hx hb dX10_bind_4 (by rw [hk_1]; decide) (by rw [hk_1]; decide) (by rw [hk_1]; decide) (by decide) ?_
    refine lv_aload_n hx hb dX10_bind_32 rfl (lv_at hl 0 rfl) ?_
    refine lv_aload_n hx hb dX10_bind_33 rfl (lv_at hl 1 rfl) ?_
    obtain ⟨r_2, t_factor_3, hq_4, hf⟩ := b2_some hf
    refine xci (wr := []) (w2 := [(h_t, .inr (10, [.ref h_t_member, .ref h_t_factor, .int t_size])), (h_t_member, .inl (cI, 4, .inl t_member)), (h_t_factor, .inl (cL, 4, .inr (.inl t_factor_3))), (h_p1, .inr (0, [.ref h_p1_x, .ref h_p1_y, .ref h_p1_colour, .ref h_p1_load, .int p1_size, .int p1_centreX, .int p1_centreY])), (h_p1_x, .inl (cI, 24, .inl p1_x)), (h_p1_y, .inl (cI, 24, .inl p1_y))]) (va_runV (As := [.ref h_p1]) (rest := []) ⟨hx, hb, hml, hown, hts⟩ (mtX10_bindTwo l dC dI cI cL cB K h_t h_t_member h_t_factor h_p1 h_p1_x h_p1_y h_p1_colour h_p1_load H.size t_size t_member t_factor p1_size p1_centreX p1_centreY p1_x p1_y r_2 t_factor_3 hq_4) (cwV 1 hts gv_X10_37 rfl rfl rfl hdV_X10_bindTwo ⟨Nat.le_trans (Nat.le_of_ble_eq_true rfl) hF, Nat.le_trans (Nat.le_of_ble_eq_true rfl) hLo⟩) (cPreV hK hP hD hT [0, 1, 2, 3, 4, 5] rfl rfl (ci := 10) (q0 := 0) rfl rfl) rfl rfl hl.1 rfl (lv_room (Nat.le_of_ble_eq_true rfl)) dX10_bind_34 ⟨Nat.zero_le _, Nat.zero_le _⟩) hP hD hS hA [0, 1, 2, 3, 4, 5] [] [0, 1, 2, 3, 4, 5] rfl rfl rfl rfl rfl rfl (fun H locs hP hD hS => ?_)
    obtain ⟨hg_5, hf⟩ := gd_some hf
    obtain ⟨rfl, rfl⟩ := o2 hf
    exact W.zret hx hb hr (z01_b hg_5) (fun t ht hW => ⟨⟨_, (), rfl, rfl, by rw [ht]; exact hP, hD⟩, hS.F ht⟩) hS.2.2 dX10_bind_37
  · replace hf := it_f hk_1 hf
    by_cases hk_6 : t_size = (3 : Int32)
    · replace hf := it_t hk_6 hf
      refine lv_tableIn (off := 34) (tgt := 38) hx hb dX10_bind_4 (by rw [hk_6]; decide) (by rw [hk_6]; decide) (by rw [hk_6]; decide) (by decide) ?_
      refine lv_aload_n hx hb dX10_bind_38 rfl (lv_at hl 0 rfl) ?_
      refine lv_aload_n hx hb dX10_bind_39 rfl (lv_at hl 1 rfl) ?_
      obtain ⟨r_7, t_factor_8, hq_9, hf⟩ := b2_some hf
      refine xci (wr := []) (w2 := [(h_t, .inr (10, [.ref h_t_member, .ref h_t_factor, .int t_size])), (h_t_member, .inl (cI, 4, .inl t_member)), (h_t_factor, .inl (cL, 4, .inr (.inl t_factor_8))), (h_p1, .inr (0, [.ref h_p1_x, .ref h_p1_y, .ref h_p1_colour, .ref h_p1_load, .int p1_size, .int p1_centreX, .int p1_centreY])), (h_p1_x, .inl (cI, 24, .inl p1_x)), (h_p1_y, .inl (cI, 24, .inl p1_y))]) (va_runV (As := [.ref h_p1]) (rest := []) ⟨hx, hb, hml, hown, hts⟩ (mtX10_bindThree l dC dI cI cL cB K h_t h_t_member h_t_factor h_p1 h_p1_x h_p1_y h_p1_colour h_p1_load H.size t_size t_member t_factor p1_size p1_centreX p1_centreY p1_x p1_y r_7 t_factor_8 hq_9) (cwV 1 hts gv_X10_40 rfl rfl rfl hdV_X10_bindThree ⟨Nat.le_trans (Nat.le_of_ble_eq_true rfl) hF, Nat.le_trans (Nat.le_of_ble_eq_true rfl) hLo⟩) (cPreV hK hP hD hT [0, 1, 2, 3, 4, 5] rfl rfl (ci := 10) (q0 := 0) rfl rfl) rfl rfl hl.1 rfl (lv_room (Nat.le_of_ble_eq_true rfl)) dX10_bind_40 ⟨Nat.zero_le _, Nat.zero_le _⟩) hP hD hS hA [0, 1, 2, 3, 4, 5] [] [0, 1, 2, 3, 4, 5] rfl rfl rfl rfl rfl rfl (fun H locs hP hD hS => ?_)
      obtain ⟨hg_10, hf⟩ := gd_some hf
      obtain ⟨rfl, rfl⟩ := o2 hf
      exact W.zret hx hb hr (z01_b hg_10) (fun t ht hW => ⟨⟨_, (), rfl, rfl, by rw [ht]; exact hP, hD⟩, hS.F ht⟩) hS.2.2 dX10_bind_43
    · replace hf := it_f hk_6 hf
      by_cases hk_11 : t_size = (4 : Int32)
      · replace hf := it_t hk_11 hf
        refine lv_tableIn (off := 40) (tgt := 44) hx hb dX10_bind_4 (by rw [hk_11]; decide) (by rw [hk_11]; decide) (by rw [hk_11]; decide) (by decide) ?_
        refine lv_aload_n hx hb dX10_bind_44 rfl (lv_at hl 0 rfl) ?_
        refine lv_aload_n hx hb dX10_bind_45 rfl (lv_at hl 1 rfl) ?_
        obtain ⟨r_12, t_factor_13, hq_14, hf⟩ := b2_some hf
        refine xci (wr := []) (w2 := [(h_t, .inr (10, [.ref h_t_member, .ref h_t_factor, .int t_size])), (h_t_member, .inl (cI, 4, .inl t_member)), (h_t_factor, .inl (cL, 4, .inr (.inl t_factor_13))), (h_p1, .inr (0, [.ref h_p1_x, .ref h_p1_y, .ref h_p1_colour, .ref h_p1_load, .int p1_size, .int p1_centreX, .int p1_centreY])), (h_p1_x, .inl (cI, 24, .inl p1_x)), (h_p1_y, .inl (cI, 24, .inl p1_y))]) (va_runV (As := [.ref h_p1]) (rest := []) ⟨hx, hb, hml, hown, hts⟩ (mtX10_bindFour l dC dI cI cL cB K h_t h_t_member h_t_factor h_p1 h_p1_x h_p1_y h_p1_colour h_p1_load H.size t_size t_member t_factor p1_size p1_centreX p1_centreY p1_x p1_y r_12 t_factor_13 hq_14) (cwV 1 hts gv_X10_43 rfl rfl rfl hdV_X10_bindFour ⟨Nat.le_trans (Nat.le_of_ble_eq_true rfl) hF, Nat.le_trans (Nat.le_of_ble_eq_true rfl) hLo⟩) (cPreV hK hP hD hT [0, 1, 2, 3, 4, 5] rfl rfl (ci := 10) (q0 := 0) rfl rfl) rfl rfl hl.1 rfl (lv_room (Nat.le_of_ble_eq_true rfl)) dX10_bind_46 ⟨Nat.zero_le _, Nat.zero_le _⟩) hP hD hS hA [0, 1, 2, 3, 4, 5] [] [0, 1, 2, 3, 4, 5] rfl rfl rfl rfl rfl rfl (fun H locs hP hD hS => ?_)
        obtain ⟨hg_15, hf⟩ := gd_some hf
        obtain ⟨rfl, rfl⟩ := o2 hf
        exact W.zret hx hb hr (z01_b hg_15) (fun t ht hW => ⟨⟨_, (), rfl, rfl, by rw [ht]; exact hP, hD⟩, hS.F ht⟩) hS.2.2 dX10_bind_49
      · replace hf := it_f hk_11 hf
        have z0 := lv_neT (a := 2) hk_1 (by decide)
        have z1 := lv_neT (a := 3) hk_6 (by decide)
        have z2 := lv_neT (a := 4) hk_11 (by decide)
        refine lv_tableOut (tgt := 50) hx hb dX10_bind_4 (by omega) (by decide) ?_
        refine lv_iconst (v := (0 : Int32)) hx hb dX10_bind_50 (by decide) ?_
        obtain ⟨rfl, rfl⟩ := o2 hf
        exact W.zret hx hb hr rfl (fun t ht hW => ⟨⟨_, (), rfl, rfl, by rw [ht]; exact hP, hD⟩, hS.F ht⟩) hS.2.2 dX10_bind_51
theorem dX10_settle_0 : decode cX10_settle 0 = .ok (.lconst 0, 1) := by decide +kernel
theorem dX10_settle_1 : decode cX10_settle 1 = .ok (.lstore_n 1, 1) := by decide +kernel
theorem dX10_settle_2 : decode cX10_settle 2 = .ok (.iconst 0, 1) := by decide +kernel
theorem dX10_settle_3 : decode cX10_settle 3 = .ok (.istore_n 3, 1) := by decide +kernel
theorem dX10_settle_4 : decode cX10_settle 4 = .ok (.iload_n 3, 1) := by decide +kernel
theorem dX10_settle_5 : decode cX10_settle 5 = .ok (.aload_n 0, 1) := by decide +kernel
theorem dX10_settle_6 : decode cX10_settle 6 = .ok (.getfield 17, 3) := by decide +kernel
theorem dX10_settle_9 : decode cX10_settle 9 = .ok (.if_icmp .ge 20, 3) := by decide +kernel
theorem dX10_settle_12 : decode cX10_settle 12 = .ok (.lload_n 1, 1) := by decide +kernel
theorem dX10_settle_13 : decode cX10_settle 13 = .ok (.aload_n 0, 1) := by decide +kernel
theorem dX10_settle_14 : decode cX10_settle 14 = .ok (.getfield 13, 3) := by decide +kernel
theorem dX10_settle_17 : decode cX10_settle 17 = .ok (.iload_n 3, 1) := by decide +kernel
theorem dX10_settle_18 : decode cX10_settle 18 = .ok (.laload, 1) := by decide +kernel
theorem dX10_settle_19 : decode cX10_settle 19 = .ok (.invokestatic 62, 3) := by decide +kernel
theorem dX10_settle_22 : decode cX10_settle 22 = .ok (.lstore_n 1, 1) := by decide +kernel
theorem dX10_settle_23 : decode cX10_settle 23 = .ok (.iinc 3 1, 3) := by decide +kernel
theorem dX10_settle_26 : decode cX10_settle 26 = .ok (.goto (-22), 3) := by decide +kernel
theorem dX10_settle_29 : decode cX10_settle 29 = .ok (.lload_n 1, 1) := by decide +kernel
theorem dX10_settle_30 : decode cX10_settle 30 = .ok (.lconst 0, 1) := by decide +kernel
theorem dX10_settle_31 : decode cX10_settle 31 = .ok (.lcmp, 1) := by decide +kernel
theorem dX10_settle_32 : decode cX10_settle 32 = .ok (.ifCond .ne 4, 3) := by decide +kernel
theorem dX10_settle_35 : decode cX10_settle 35 = .ok (.return_, 1) := by decide +kernel
theorem dX10_settle_36 : decode cX10_settle 36 = .ok (.aload_n 0, 1) := by decide +kernel
theorem dX10_settle_37 : decode cX10_settle 37 = .ok (.getfield 13, 3) := by decide +kernel
theorem dX10_settle_40 : decode cX10_settle 40 = .ok (.aload_n 0, 1) := by decide +kernel
theorem dX10_settle_41 : decode cX10_settle 41 = .ok (.getfield 17, 3) := by decide +kernel
theorem dX10_settle_44 : decode cX10_settle 44 = .ok (.iconst 1, 1) := by decide +kernel
theorem dX10_settle_45 : decode cX10_settle 45 = .ok (.isub, 1) := by decide +kernel
theorem dX10_settle_46 : decode cX10_settle 46 = .ok (.laload, 1) := by decide +kernel
theorem dX10_settle_47 : decode cX10_settle 47 = .ok (.lconst 0, 1) := by decide +kernel
theorem dX10_settle_48 : decode cX10_settle 48 = .ok (.lcmp, 1) := by decide +kernel
theorem dX10_settle_49 : decode cX10_settle 49 = .ok (.ifCond .ge 6, 3) := by decide +kernel
theorem dX10_settle_52 : decode cX10_settle 52 = .ok (.lload_n 1, 1) := by decide +kernel
theorem dX10_settle_53 : decode cX10_settle 53 = .ok (.lneg, 1) := by decide +kernel
theorem dX10_settle_54 : decode cX10_settle 54 = .ok (.lstore_n 1, 1) := by decide +kernel
theorem dX10_settle_55 : decode cX10_settle 55 = .ok (.iconst 0, 1) := by decide +kernel
theorem dX10_settle_56 : decode cX10_settle 56 = .ok (.istore_n 3, 1) := by decide +kernel
theorem dX10_settle_57 : decode cX10_settle 57 = .ok (.iload_n 3, 1) := by decide +kernel
theorem dX10_settle_58 : decode cX10_settle 58 = .ok (.aload_n 0, 1) := by decide +kernel
theorem dX10_settle_59 : decode cX10_settle 59 = .ok (.getfield 17, 3) := by decide +kernel
theorem dX10_settle_62 : decode cX10_settle 62 = .ok (.if_icmp .ge 19, 3) := by decide +kernel
theorem dX10_settle_65 : decode cX10_settle 65 = .ok (.aload_n 0, 1) := by decide +kernel
theorem dX10_settle_66 : decode cX10_settle 66 = .ok (.getfield 13, 3) := by decide +kernel
theorem dX10_settle_69 : decode cX10_settle 69 = .ok (.iload_n 3, 1) := by decide +kernel
theorem dX10_settle_70 : decode cX10_settle 70 = .ok (.dup2, 1) := by decide +kernel
theorem dX10_settle_71 : decode cX10_settle 71 = .ok (.laload, 1) := by decide +kernel
theorem dX10_settle_72 : decode cX10_settle 72 = .ok (.lload_n 1, 1) := by decide +kernel
theorem dX10_settle_73 : decode cX10_settle 73 = .ok (.ldiv, 1) := by decide +kernel
theorem dX10_settle_74 : decode cX10_settle 74 = .ok (.lastore, 1) := by decide +kernel
theorem dX10_settle_75 : decode cX10_settle 75 = .ok (.iinc 3 1, 3) := by decide +kernel
theorem dX10_settle_78 : decode cX10_settle 78 = .ok (.goto (-21), 3) := by decide +kernel
theorem dX10_settle_81 : decode cX10_settle 81 = .ok (.return_, 1) := by decide +kernel
set_option maxRecDepth 100000 in
set_option maxHeartbeats 4000000 in
theorem wX10_settle_L4 {p : Program} {l : Launch} {e : Env} {R : Room} {s : State} {m : MethodId} {args : Array Value} {below : List Frame} {meth : Method} {c : Code} {Q : State → Prop} {A : Nat → Prop} {dC : Nat → ClassId} {dI : Nat → Nat → Nat} {cI cL cB : ClassId} {K : Nat} (C0 : Sx p R s m args c cX10_settle 4 RX10 A dC dI cI cL cB 2 45) (h_t h_t_member h_t_factor : Nat) (t_size : Int32) (t_factor : Nat → Int64) : ∀ (n : Nat) (l1 : Int64) (l3 : Int32) (x1_ : Int64) (H : Heap) (locs : List Loc) (ls : Array Slot), va_P (dC, dI) vwCl [(h_t, .inr (10, [.ref h_t_member, .ref h_t_factor, .int t_size])), (h_t_factor, .inl (cL, 4, .inr (.inl t_factor)))] H → va_D A [(h_t, .inr (10, [.ref h_t_member, .ref h_t_factor, .int t_size])), (h_t_factor, .inl (cL, 4, .inr (.inl t_factor)))] → va_S A s.heap H locs → lv_has ls 4 [(0, .ref h_t), (1, .long l1), (3, .int l3)] → fX10_settle_L4 K t_size t_factor n l1 l3 = some x1_ → (∀ (H : Heap) (locs : List Loc) (ls : Array Slot), va_P (dC, dI) vwCl [(h_t, .inr (10, [.ref h_t_member, .ref h_t_factor, .int t_size])), (h_t_factor, .inl (cL, 4, .inr (.inl t_factor)))] H → va_D A [(h_t, .inr (10, [.ref h_t_member, .ref h_t_factor, .int t_size])), (h_t_factor, .inl (cL, 4, .inr (.inl t_factor)))] → va_S A s.heap H locs → lv_has ls 4 [(0, .ref h_t), (1, .long x1_)] → W p l e R s m args below meth c H locs 0 0 Q (F0 m 29 ls [])) → W p l e R s m args below meth c H locs 0 0 Q (F0 m 4 ls []) := by
  obtain ⟨hx, hb, hml, hown, hts, hK, hT, hA, hF, hLo⟩ := id C0
  intro n
  induction n with
  | zero =>
    intro l1 l3 x1_ H locs ls hP hD hS hl hf
    rw [fX10_settle_L4] at hf
    cases hf
  | succ n ih =>
    intro l1 l3 x1_ H locs ls hP hD hS hl hf hk
    rw [fX10_settle_L4] at hf
    refine lv_iload_n hx hb dX10_settle_4 rfl (lv_at hl 2 rfl) ?_
    refine lv_aload_n hx hb dX10_settle_5 rfl (lv_at hl 0 rfl) ?_
    refine va_get (D := (dC, dI)) (ci := 10) (v := .int t_size) (C := RX10) (T := TX10) (N := 3) hx hb hts in_X10 hown hK hP 0 rfl rfl 2 (Nat.le_of_ble_eq_true rfl) (hts _ qf_X10_17) (fun _ h9 => h9) rfl dX10_settle_6 ?_
    refine lv_icmp_ge (tgt := 29) hx hb dX10_settle_9 (by decide) (fun hc => ?_) (fun hc => ?_)
    · replace hf := it_t (hc) hf
      obtain rfl := o1 hf
      exact hk H locs ls hP hD hS (lv_sub hl [0, 1] rfl)
    · replace hf := it_f (hc) hf
      refine lv_lload_n hx hb dX10_settle_12 rfl (lv_at hl 1 rfl) ?_
      refine lv_aload_n hx hb dX10_settle_13 rfl (lv_at hl 0 rfl) ?_
      refine va_get (D := (dC, dI)) (ci := 10) (v := .ref h_t_factor) (C := RX10) (T := TX10) (N := 3) hx hb hts in_X10 hown hK hP 0 rfl rfl 1 (Nat.le_of_ble_eq_true rfl) (hts _ qf_X10_13) (fun _ h9 => h9) rfl dX10_settle_14 ?_
      refine lv_iload_n hx hb dX10_settle_17 rfl (lv_at hl 2 rfl) ?_
      obtain ⟨hg_1, hf⟩ := gd_some hf
      refine va_lald hx hb hK hP 1 1 rfl rfl (inb_in hg_1) dX10_settle_18 ?_
      obtain ⟨r_2, hq_3, hf⟩ := b1_some hf
      refine xcl (wr := [(h_t, .inr (10, [.ref h_t_member, .ref h_t_factor, .int t_size])), (h_t_factor, .inl (cL, 4, .inr (.inl t_factor)))]) (w2 := [(h_t, .inr (10, [.ref h_t_member, .ref h_t_factor, .int t_size])), (h_t_factor, .inl (cL, 4, .inr (.inl t_factor)))]) (va_runSN (As := [.long l1, .long (t_factor l3.toNatClampNeg)]) (rest := []) ⟨hx, hb, hml, hown, hts⟩ (mtX11_gcd l dC dI cI cL cB K H.size l1 (t_factor l3.toNatClampNeg) r_2 hq_3) ⟨va_cnB 2 hts (gcode qc_X11_gcd) rfl rfl rfl (hT _ qm_X10_62) (hts _ qz_X11) hdS_X11_gcd ⟨Nat.le_trans (Nat.le_of_ble_eq_true rfl) hF, Nat.le_trans (Nat.le_of_ble_eq_true rfl) hLo⟩, hts _ qt_X11_gcd, trivial⟩ (cPreS hK hP hD hT [] rfl rfl) rfl rfl hl.1 rfl (lv_room (Nat.le_of_ble_eq_true rfl)) dX10_settle_19 ⟨Nat.zero_le _, Nat.zero_le _⟩) hP hD hS hA [] [0, 1] [0, 1] rfl rfl rfl rfl rfl rfl (fun H locs hP hD hS => ?_)
      refine lv_lstore_n (lv' := [(1, .long r_2), (0, .ref h_t), (3, .int l3)]) hx hb dX10_settle_22 rfl hl (Nat.le_of_ble_eq_true rfl) rfl (fun ls hl => ?_)
      obtain ⟨l3_4, el3_4⟩ : ∃ y : Int32, y = l3 + (1 : Int32) := ⟨_, rfl⟩
      replace hf := xl_at hf el3_4
      refine lv_iinc (v := l3_4) (lv' := [(3, .int l3_4), (1, .long r_2), (0, .ref h_t)]) hx hb dX10_settle_23 hl (k := 2) rfl (by rw [el3_4]; rfl) (Nat.le_of_ble_eq_true rfl) rfl (fun ls hl => ?_)
      refine lv_goto (tgt := 4) hx hb dX10_settle_26 (by decide) ?_
      exact ih r_2 l3_4 _ H locs ls hP hD hS (lv_sub hl [2, 1, 0] rfl) hf hk
set_option maxRecDepth 100000 in
set_option maxHeartbeats 4000000 in
theorem wX10_settle_L57 {p : Program} {l : Launch} {e : Env} {R : Room} {s : State} {m : MethodId} {args : Array Value} {below : List Frame} {meth : Method} {c : Code} {Q : State → Prop} {A : Nat → Prop} {dC : Nat → ClassId} {dI : Nat → Nat → Nat} {cI cL cB : ClassId} {K : Nat} (C0 : Sx p R s m args c cX10_settle 4 RX10 A dC dI cI cL cB 2 45) (h_t h_t_member h_t_factor : Nat) (t_size : Int32) (l1 : Int64) : ∀ (n : Nat) (l3 : Int32) (t_factor : Nat → Int64) (x_t_factor : Nat → Int64) (H : Heap) (locs : List Loc) (ls : Array Slot), va_P (dC, dI) vwCl [(h_t, .inr (10, [.ref h_t_member, .ref h_t_factor, .int t_size])), (h_t_factor, .inl (cL, 4, .inr (.inl t_factor)))] H → va_D A [(h_t, .inr (10, [.ref h_t_member, .ref h_t_factor, .int t_size])), (h_t_factor, .inl (cL, 4, .inr (.inl t_factor)))] → va_S A s.heap H locs → lv_has ls 4 [(0, .ref h_t), (1, .long l1), (3, .int l3)] → fX10_settle_L57 K l1 t_size n l3 t_factor = some x_t_factor → (∀ (H : Heap) (locs : List Loc) (ls : Array Slot), va_P (dC, dI) vwCl [(h_t, .inr (10, [.ref h_t_member, .ref h_t_factor, .int t_size])), (h_t_factor, .inl (cL, 4, .inr (.inl x_t_factor)))] H → va_D A [(h_t, .inr (10, [.ref h_t_member, .ref h_t_factor, .int t_size])), (h_t_factor, .inl (cL, 4, .inr (.inl x_t_factor)))] → va_S A s.heap H locs → lv_has ls 4 [] → W p l e R s m args below meth c H locs 0 0 Q (F0 m 81 ls [])) → W p l e R s m args below meth c H locs 0 0 Q (F0 m 57 ls []) := by
  obtain ⟨hx, hb, hml, hown, hts, hK, hT, hA, hF, hLo⟩ := id C0
  intro n
  induction n with
  | zero =>
    intro l3 t_factor x_t_factor H locs ls hP hD hS hl hf
    rw [fX10_settle_L57] at hf
    cases hf
  | succ n ih =>
    intro l3 t_factor x_t_factor H locs ls hP hD hS hl hf hk
    rw [fX10_settle_L57] at hf
    refine lv_iload_n hx hb dX10_settle_57 rfl (lv_at hl 2 rfl) ?_
    refine lv_aload_n hx hb dX10_settle_58 rfl (lv_at hl 0 rfl) ?_
    refine va_get (D := (dC, dI)) (ci := 10) (v := .int t_size) (C := RX10) (T := TX10) (N := 3) hx hb hts in_X10 hown hK hP 0 rfl rfl 2 (Nat.le_of_ble_eq_true rfl) (hts _ qf_X10_17) (fun _ h9 => h9) rfl dX10_settle_59 ?_
    refine lv_icmp_ge (tgt := 81) hx hb dX10_settle_62 (by decide) (fun hc => ?_) (fun hc => ?_)
    · replace hf := it_t (hc) hf
      obtain rfl := o1 hf
      exact hk H locs ls hP hD hS (lv_sub hl [] rfl)
    · replace hf := it_f (hc) hf
      refine lv_aload_n hx hb dX10_settle_65 rfl (lv_at hl 0 rfl) ?_
      refine va_get (D := (dC, dI)) (ci := 10) (v := .ref h_t_factor) (C := RX10) (T := TX10) (N := 3) hx hb hts in_X10 hown hK hP 0 rfl rfl 1 (Nat.le_of_ble_eq_true rfl) (hts _ qf_X10_13) (fun _ h9 => h9) rfl dX10_settle_66 ?_
      refine lv_iload_n hx hb dX10_settle_69 rfl (lv_at hl 2 rfl) ?_
      refine lv_dup2_11 hx hb dX10_settle_70 rfl rfl ?_
      obtain ⟨hg_11, hf⟩ := gd_some hf
      refine va_lald hx hb hK hP 1 1 rfl rfl (inb_in hg_11) dX10_settle_71 ?_
      refine lv_lload_n hx hb dX10_settle_72 rfl (lv_at hl 1 rfl) ?_
      obtain ⟨hg_12, hf⟩ := gd_some hf
      refine lv_ldiv hx hb dX10_settle_73 (nz_ne hg_12) ?_
      obtain ⟨hg_13, hf⟩ := gd_some hf
      obtain ⟨t_factor_14, et_factor_14⟩ : ∃ y : Nat → Int64, y = vp_updL t_factor l3.toNatClampNeg ((t_factor l3.toNatClampNeg) / l1) := ⟨_, rfl⟩
      replace hf := xl_at hf et_factor_14
      refine xlast (w2 := [(h_t, .inr (10, [.ref h_t_member, .ref h_t_factor, .int t_size])), (h_t_factor, .inl (cL, 4, .inr (.inl t_factor_14)))]) hx hb hK hP hD hS 1 1 rfl rfl (inb_in hg_13) et_factor_14 rfl dX10_settle_74 (fun H locs hP hD hS => ?_)
      obtain ⟨l3_15, el3_15⟩ : ∃ y : Int32, y = l3 + (1 : Int32) := ⟨_, rfl⟩
      replace hf := xl_at hf el3_15
      refine lv_iinc (v := l3_15) (lv' := [(3, .int l3_15), (0, .ref h_t), (1, .long l1)]) hx hb dX10_settle_75 hl (k := 2) rfl (by rw [el3_15]; rfl) (Nat.le_of_ble_eq_true rfl) rfl (fun ls hl => ?_)
      refine lv_goto (tgt := 57) hx hb dX10_settle_78 (by decide) ?_
      exact ih l3_15 t_factor_14 _ H locs ls hP hD hS (lv_sub hl [1, 2, 0] rfl) hf hk
set_option maxRecDepth 100000 in
set_option maxHeartbeats 4000000 in
theorem mtX10_settle (l : Launch) (dC : Nat → ClassId) (dI : Nat → Nat → Nat) (cI cL cB : ClassId) (K : Nat) (h_t h_t_member h_t_factor : Nat) (sz : Nat) (t_size : Int32) (t_factor : Nat → Int64) (o_t_factor : Nat → Int64) (hf : fX10_settle K t_size t_factor = some o_t_factor) : Met l yX10_settle [Cond.code yX10_settle cX10_settle 4 none] ({ frames := 2, cells := 0, slots := 0, locals := 45 }) (va_Pc [.ref h_t] (cPre dC dI cI cL cB sz [(h_t, .inr (10, [.ref h_t_member, .ref h_t_factor, .int t_size])), (h_t_factor, .inl (cL, 4, .inr (.inl t_factor)))])) (cQv dC dI (va_A [(h_t, .inr (10, [.ref h_t_member, .ref h_t_factor, .int t_size])), (h_t_factor, .inl (cL, 4, .inr (.inl t_factor)))] sz) [(h_t, .inr (10, [.ref h_t_member, .ref h_t_factor, .int t_size])), (h_t_factor, .inl (cL, 4, .inr (.inl o_t_factor)))]) 0 0 (va_A [(h_t, .inr (10, [.ref h_t_member, .ref h_t_factor, .int t_size])), (h_t_factor, .inl (cL, 4, .inr (.inl t_factor)))] sz) := by
  refine Met.ofW (cc := cX10_settle) (maxL := 4) (ret := none) (by decide) rfl ?_
  intro p e s m args below meth c s₁ B hml hv
  obtain ⟨rfl, hsz, hP, hK, hD0, hT⟩ := hv
  have hx := B.exec
  have hb := B.bytes
  have hr := B.returns
  have hown : s.vm.findClass RX10 = some m.cls := findClass_of_methodNamed B.named
  have hlocks := B.notSynchronized
  have hts := TB.use hT ([.ref h_t] : List Value).toArray
  subst hsz
  have hD := hD0.self (sz := s.heap.size)
  generalize hAe : va_A [(h_t, .inr (10, [.ref h_t_member, .ref h_t_factor, .int t_size])), (h_t_factor, .inl (cL, 4, .inr (.inl t_factor)))] s.heap.size = A at hD ⊢
  have hA : ∀ q : Nat, s.heap.size ≤ q → A q := fun q h => by rw [← hAe]; exact Or.inr h
  clear hAe hD0
  have hl := lv_entry ([.ref h_t]) (n := 4) (Nat.le_of_ble_eq_true rfl)
  rw [lg_entry_eq]
  generalize (lg_sl ([.ref h_t]) ++ List.replicate (4 - (lg_sl ([.ref h_t])).length) Slot.unset).toArray = ls at hl ⊢
  have hl : lv_has ls 4 [(0, .ref h_t)] := hl
  have hF : 2 ≤ (headSpec [Cond.code yX10_settle cX10_settle 4 none] ({ frames := 2, cells := 0, slots := 0, locals := 45 })).room.frames := Nat.le_refl _
  have hLo : 45 ≤ (headSpec [Cond.code yX10_settle cX10_settle 4 none] ({ frames := 2, cells := 0, slots := 0, locals := 45 })).room.locals := Nat.le_refl _
  have C0 : Sx p (headSpec [Cond.code yX10_settle cX10_settle 4 none] ({ frames := 2, cells := 0, slots := 0, locals := 45 })).room s m ([.ref h_t] : List Value).toArray c cX10_settle 4 RX10 A dC dI cI cL cB 2 45 := ⟨hx, hb, hml, hown, hts, hK, hT, hA, hF, hLo⟩
  refine startH (A := A) hP (fun H locs hP hS => ?_)
  rw [fX10_settle] at hf
  refine lv_lconst (v := (0 : Int64)) hx hb dX10_settle_0 (by decide) ?_
  refine lv_lstore_n (lv' := [(1, .long (0 : Int64)), (0, .ref h_t)]) hx hb dX10_settle_1 rfl hl (Nat.le_of_ble_eq_true rfl) rfl (fun ls hl => ?_)
  refine lv_iconst (v := (0 : Int32)) hx hb dX10_settle_2 (by decide) ?_
  refine lv_istore_n (lv' := [(3, .int (0 : Int32)), (1, .long (0 : Int64)), (0, .ref h_t)]) hx hb dX10_settle_3 rfl hl (Nat.le_of_ble_eq_true rfl) rfl (fun ls hl => ?_)
  obtain ⟨l1_6, hq_5, hf⟩ := b1_some hf
  refine wX10_settle_L4 C0 h_t h_t_member h_t_factor t_size t_factor K (0 : Int64) (0 : Int32) l1_6 H locs ls hP hD hS (lv_sub hl [2, 1, 0] rfl) hq_5 ?_
  intro H locs ls hP hD hS hl
  refine lv_lload_n hx hb dX10_settle_29 rfl (lv_at hl 1 rfl) ?_
  refine lv_lconst (v := (0 : Int64)) hx hb dX10_settle_30 (by decide) ?_
  refine W.lcmp hx hb dX10_settle_31 ?_
  refine lv_if_ne (tgt := 36) hx hb dX10_settle_32 (by decide) (fun hc => ?_) (fun hc => ?_)
  · replace hf := it_f (fun h9 => hc ((lg_cmp_eq _ _).mpr h9)) hf
    refine lv_aload_n hx hb dX10_settle_36 rfl (lv_at hl 0 rfl) ?_
    refine va_get (D := (dC, dI)) (ci := 10) (v := .ref h_t_factor) (C := RX10) (T := TX10) (N := 3) hx hb hts in_X10 hown hK hP 0 rfl rfl 1 (Nat.le_of_ble_eq_true rfl) (hts _ qf_X10_13) (fun _ h9 => h9) rfl dX10_settle_37 ?_
    refine lv_aload_n hx hb dX10_settle_40 rfl (lv_at hl 0 rfl) ?_
    refine va_get (D := (dC, dI)) (ci := 10) (v := .int t_size) (C := RX10) (T := TX10) (N := 3) hx hb hts in_X10 hown hK hP 0 rfl rfl 2 (Nat.le_of_ble_eq_true rfl) (hts _ qf_X10_17) (fun _ h9 => h9) rfl dX10_settle_41 ?_
    refine lv_iconst (v := (1 : Int32)) hx hb dX10_settle_44 (by decide) ?_
    refine lv_isub hx hb dX10_settle_45 ?_
    obtain ⟨hg_7, hf⟩ := gd_some hf
    refine va_lald hx hb hK hP 1 1 rfl rfl (inb_in hg_7) dX10_settle_46 ?_
    refine lv_lconst (v := (0 : Int64)) hx hb dX10_settle_47 (by decide) ?_
    refine W.lcmp hx hb dX10_settle_48 ?_
    obtain ⟨k_9, ek_9, hf⟩ := jn_out hf
    have J_10 : ∀ (l1_8 : Int64) (H : Heap) (locs : List Loc) (ls : Array Slot), va_P (dC, dI) vwCl [(h_t, .inr (10, [.ref h_t_member, .ref h_t_factor, .int t_size])), (h_t_factor, .inl (cL, 4, .inr (.inl t_factor)))] H → va_D A [(h_t, .inr (10, [.ref h_t_member, .ref h_t_factor, .int t_size])), (h_t_factor, .inl (cL, 4, .inr (.inl t_factor)))] → va_S A s.heap H locs → lv_has ls 4 [(0, .ref h_t), (1, .long l1_8)] → k_9 l1_8 = some o_t_factor → W p l e (headSpec [Cond.code yX10_settle cX10_settle 4 none] ({ frames := 2, cells := 0, slots := 0, locals := 45 })).room s m ([.ref h_t] : List Value).toArray below meth c H locs 0 0 (MQ below (cQv dC dI A [(h_t, .inr (10, [.ref h_t_member, .ref h_t_factor, .int t_size])), (h_t_factor, .inl (cL, 4, .inr (.inl o_t_factor)))]) ([.ref h_t] : List Value).toArray s 0 0 A) (F0 m 55 ls []) := by
      intro l1_8 H locs ls hP hD hS hl hf
      rw [ek_9] at hf
      try dsimp only at hf
      refine lv_iconst (v := (0 : Int32)) hx hb dX10_settle_55 (by decide) ?_
      refine lv_istore_n (lv' := [(3, .int (0 : Int32)), (0, .ref h_t), (1, .long l1_8)]) hx hb dX10_settle_56 rfl hl (Nat.le_of_ble_eq_true rfl) rfl (fun ls hl => ?_)
      obtain ⟨t_factor_17, hq_16, hf⟩ := b1_some hf
      refine wX10_settle_L57 C0 h_t h_t_member h_t_factor t_size l1_8 K (0 : Int32) t_factor t_factor_17 H locs ls hP hD hS (lv_sub hl [1, 2, 0] rfl) hq_16 ?_
      intro H locs ls hP hD hS hl
      obtain rfl := o1 hf
      exact W.vret hx hb hr (fun t ht hW => ⟨⟨(), rfl, trivial, by rw [ht]; exact hP, hD⟩, hS.F ht⟩) hS.2.2 dX10_settle_81
    refine lv_if_ge (tgt := 55) hx hb dX10_settle_49 (by decide) (fun hc => ?_) (fun hc => ?_)
    · replace hf := it_t ((lg_cmp_ge _ _).mp hc) hf
      exact J_10 l1_6 H locs ls hP hD hS (lv_sub hl [0, 1] rfl) hf
    · replace hf := it_f (fun h9 => hc ((lg_cmp_ge _ _).mpr h9)) hf
      refine lv_lload_n hx hb dX10_settle_52 rfl (lv_at hl 1 rfl) ?_
      refine lv_lneg hx hb dX10_settle_53 ?_
      refine lv_topl (fun l1_18 el1_18 => ?_)
      replace hf := xl_at hf el1_18
      refine lv_lstore_n (lv' := [(1, .long l1_18), (0, .ref h_t)]) hx hb dX10_settle_54 rfl hl (Nat.le_of_ble_eq_true rfl) rfl (fun ls hl => ?_)
      exact J_10 l1_18 H locs ls hP hD hS (lv_sub hl [1, 0] rfl) hf
  · replace hf := it_t ((lg_cmp_eq _ _).mp hc) hf
    obtain rfl := o1 hf
    exact W.vret hx hb hr (fun t ht hW => ⟨⟨(), rfl, trivial, by rw [ht]; exact hP, hD⟩, hS.F ht⟩) hS.2.2 dX10_settle_35
theorem dX10_find_0 : decode cX10_find 0 = .ok (.aload_n 0, 1) := by decide +kernel
theorem dX10_find_1 : decode cX10_find 1 = .ok (.iconst 0, 1) := by decide +kernel
theorem dX10_find_2 : decode cX10_find 2 = .ok (.putfield 17, 3) := by decide +kernel
theorem dX10_find_5 : decode cX10_find 5 = .ok (.iconst 0, 1) := by decide +kernel
theorem dX10_find_6 : decode cX10_find 6 = .ok (.istore_n 3, 1) := by decide +kernel
theorem dX10_find_7 : decode cX10_find 7 = .ok (.iload_n 3, 1) := by decide +kernel
theorem dX10_find_8 : decode cX10_find 8 = .ok (.aload_n 1, 1) := by decide +kernel
theorem dX10_find_9 : decode cX10_find 9 = .ok (.getfield 21, 3) := by decide +kernel
theorem dX10_find_12 : decode cX10_find 12 = .ok (.if_icmp .ge 64, 3) := by decide +kernel
theorem dX10_find_15 : decode cX10_find 15 = .ok (.iload_n 2, 1) := by decide +kernel
theorem dX10_find_16 : decode cX10_find 16 = .ok (.iload_n 3, 1) := by decide +kernel
theorem dX10_find_17 : decode cX10_find 17 = .ok (.invokestatic 24, 3) := by decide +kernel
theorem dX10_find_20 : decode cX10_find 20 = .ok (.ifCond .ne 6, 3) := by decide +kernel
theorem dX10_find_23 : decode cX10_find 23 = .ok (.goto 47, 3) := by decide +kernel
theorem dX10_find_26 : decode cX10_find 26 = .ok (.aload_n 0, 1) := by decide +kernel
theorem dX10_find_27 : decode cX10_find 27 = .ok (.getfield 17, 3) := by decide +kernel
theorem dX10_find_30 : decode cX10_find 30 = .ok (.iconst 4, 1) := by decide +kernel
theorem dX10_find_31 : decode cX10_find 31 = .ok (.if_icmp .lt 5, 3) := by decide +kernel
theorem dX10_find_34 : decode cX10_find 34 = .ok (.iconst 0, 1) := by decide +kernel
theorem dX10_find_35 : decode cX10_find 35 = .ok (.ireturn, 1) := by decide +kernel
theorem dX10_find_36 : decode cX10_find 36 = .ok (.aload_n 0, 1) := by decide +kernel
theorem dX10_find_37 : decode cX10_find 37 = .ok (.getfield 9, 3) := by decide +kernel
theorem dX10_find_40 : decode cX10_find 40 = .ok (.aload_n 0, 1) := by decide +kernel
theorem dX10_find_41 : decode cX10_find 41 = .ok (.getfield 17, 3) := by decide +kernel
theorem dX10_find_44 : decode cX10_find 44 = .ok (.iload_n 3, 1) := by decide +kernel
theorem dX10_find_45 : decode cX10_find 45 = .ok (.iastore, 1) := by decide +kernel
theorem dX10_find_46 : decode cX10_find 46 = .ok (.aload_n 0, 1) := by decide +kernel
theorem dX10_find_47 : decode cX10_find 47 = .ok (.dup, 1) := by decide +kernel
theorem dX10_find_48 : decode cX10_find 48 = .ok (.getfield 17, 3) := by decide +kernel
theorem dX10_find_51 : decode cX10_find 51 = .ok (.iconst 1, 1) := by decide +kernel
theorem dX10_find_52 : decode cX10_find 52 = .ok (.iadd, 1) := by decide +kernel
theorem dX10_find_53 : decode cX10_find 53 = .ok (.putfield 17, 3) := by decide +kernel
theorem dX10_find_56 : decode cX10_find 56 = .ok (.aload_n 0, 1) := by decide +kernel
theorem dX10_find_57 : decode cX10_find 57 = .ok (.aload_n 1, 1) := by decide +kernel
theorem dX10_find_58 : decode cX10_find 58 = .ok (.invokevirtual 30, 3) := by decide +kernel
theorem dX10_find_61 : decode cX10_find 61 = .ok (.ifCond .eq 9, 3) := by decide +kernel
theorem dX10_find_64 : decode cX10_find 64 = .ok (.aload_n 0, 1) := by decide +kernel
theorem dX10_find_65 : decode cX10_find 65 = .ok (.invokevirtual 34, 3) := by decide +kernel
theorem dX10_find_68 : decode cX10_find 68 = .ok (.iconst 1, 1) := by decide +kernel
theorem dX10_find_69 : decode cX10_find 69 = .ok (.ireturn, 1) := by decide +kernel
theorem dX10_find_70 : decode cX10_find 70 = .ok (.iinc 3 1, 3) := by decide +kernel
theorem dX10_find_73 : decode cX10_find 73 = .ok (.goto (-66), 3) := by decide +kernel
theorem dX10_find_76 : decode cX10_find 76 = .ok (.iconst 0, 1) := by decide +kernel
theorem dX10_find_77 : decode cX10_find 77 = .ok (.ireturn, 1) := by decide +kernel
set_option maxRecDepth 100000 in
set_option maxHeartbeats 4000000 in
theorem wX10_find_L7 {p : Program} {l : Launch} {e : Env} {R : Room} {s : State} {m : MethodId} {args : Array Value} {below : List Frame} {meth : Method} {c : Code} {Q : State → Prop} {A : Nat → Prop} {dC : Nat → ClassId} {dI : Nat → Nat → Nat} {cI cL cB : ClassId} {K : Nat} (C0 : Sx p R s m args c cX10_find 4 RX10 A dC dI cI cL cB 3 81) (h_t h_t_member h_t_factor h_p1 h_p1_x h_p1_y h_p1_colour h_p1_load : Nat) (p1_size : Int32) (p1_centreX : Int32) (p1_centreY : Int32) (p1_x : Nat → Int32) (p1_y : Nat → Int32) (l2 : Int32) : ∀ (n : Nat) (l3 : Int32) (t_size : Int32) (t_member : Nat → Int32) (t_factor : Nat → Int64) (ex : (Int32 × (Nat → Int32) × (Nat → Int64)) ⊕ ((Int32 × (Nat → Int32) × (Nat → Int64)) ⊕ (Int32 × (Nat → Int32) × (Nat → Int64)))) (H : Heap) (locs : List Loc) (ls : Array Slot), va_P (dC, dI) vwCl [(h_t, .inr (10, [.ref h_t_member, .ref h_t_factor, .int t_size])), (h_t_member, .inl (cI, 4, .inl t_member)), (h_t_factor, .inl (cL, 4, .inr (.inl t_factor))), (h_p1, .inr (0, [.ref h_p1_x, .ref h_p1_y, .ref h_p1_colour, .ref h_p1_load, .int p1_size, .int p1_centreX, .int p1_centreY])), (h_p1_x, .inl (cI, 24, .inl p1_x)), (h_p1_y, .inl (cI, 24, .inl p1_y))] H → va_D A [(h_t, .inr (10, [.ref h_t_member, .ref h_t_factor, .int t_size])), (h_t_member, .inl (cI, 4, .inl t_member)), (h_t_factor, .inl (cL, 4, .inr (.inl t_factor))), (h_p1, .inr (0, [.ref h_p1_x, .ref h_p1_y, .ref h_p1_colour, .ref h_p1_load, .int p1_size, .int p1_centreX, .int p1_centreY])), (h_p1_x, .inl (cI, 24, .inl p1_x)), (h_p1_y, .inl (cI, 24, .inl p1_y))] → va_S A s.heap H locs → lv_has ls 4 [(0, .ref h_t), (1, .ref h_p1), (2, .int l2), (3, .int l3)] → fX10_find_L7 K l2 p1_size p1_x p1_y n l3 t_size t_member t_factor = some ex → (∀ (x_t_size : Int32) (x_t_member : Nat → Int32) (x_t_factor : Nat → Int64), ex = (.inl (x_t_size, x_t_member, x_t_factor)) → ∀ (H : Heap) (locs : List Loc) (ls : Array Slot), va_P (dC, dI) vwCl [(h_t, .inr (10, [.ref h_t_member, .ref h_t_factor, .int x_t_size])), (h_t_member, .inl (cI, 4, .inl x_t_member)), (h_t_factor, .inl (cL, 4, .inr (.inl x_t_factor))), (h_p1, .inr (0, [.ref h_p1_x, .ref h_p1_y, .ref h_p1_colour, .ref h_p1_load, .int p1_size, .int p1_centreX, .int p1_centreY])), (h_p1_x, .inl (cI, 24, .inl p1_x)), (h_p1_y, .inl (cI, 24, .inl p1_y))] H → va_D A [(h_t, .inr (10, [.ref h_t_member, .ref h_t_factor, .int x_t_size])), (h_t_member, .inl (cI, 4, .inl x_t_member)), (h_t_factor, .inl (cL, 4, .inr (.inl x_t_factor))), (h_p1, .inr (0, [.ref h_p1_x, .ref h_p1_y, .ref h_p1_colour, .ref h_p1_load, .int p1_size, .int p1_centreX, .int p1_centreY])), (h_p1_x, .inl (cI, 24, .inl p1_x)), (h_p1_y, .inl (cI, 24, .inl p1_y))] → va_S A s.heap H locs → lv_has ls 4 [] → W p l e R s m args below meth c H locs 0 0 Q (F0 m 34 ls [])) → (∀ (x_t_size : Int32) (x_t_member : Nat → Int32) (x_t_factor : Nat → Int64), ex = (.inr (.inl (x_t_size, x_t_member, x_t_factor))) → ∀ (H : Heap) (locs : List Loc) (ls : Array Slot), va_P (dC, dI) vwCl [(h_t, .inr (10, [.ref h_t_member, .ref h_t_factor, .int x_t_size])), (h_t_member, .inl (cI, 4, .inl x_t_member)), (h_t_factor, .inl (cL, 4, .inr (.inl x_t_factor))), (h_p1, .inr (0, [.ref h_p1_x, .ref h_p1_y, .ref h_p1_colour, .ref h_p1_load, .int p1_size, .int p1_centreX, .int p1_centreY])), (h_p1_x, .inl (cI, 24, .inl p1_x)), (h_p1_y, .inl (cI, 24, .inl p1_y))] H → va_D A [(h_t, .inr (10, [.ref h_t_member, .ref h_t_factor, .int x_t_size])), (h_t_member, .inl (cI, 4, .inl x_t_member)), (h_t_factor, .inl (cL, 4, .inr (.inl x_t_factor))), (h_p1, .inr (0, [.ref h_p1_x, .ref h_p1_y, .ref h_p1_colour, .ref h_p1_load, .int p1_size, .int p1_centreX, .int p1_centreY])), (h_p1_x, .inl (cI, 24, .inl p1_x)), (h_p1_y, .inl (cI, 24, .inl p1_y))] → va_S A s.heap H locs → lv_has ls 4 [(0, .ref h_t)] → W p l e R s m args below meth c H locs 0 0 Q (F0 m 64 ls [])) → (∀ (x_t_size : Int32) (x_t_member : Nat → Int32) (x_t_factor : Nat → Int64), ex = (.inr (.inr (x_t_size, x_t_member, x_t_factor))) → ∀ (H : Heap) (locs : List Loc) (ls : Array Slot), va_P (dC, dI) vwCl [(h_t, .inr (10, [.ref h_t_member, .ref h_t_factor, .int x_t_size])), (h_t_member, .inl (cI, 4, .inl x_t_member)), (h_t_factor, .inl (cL, 4, .inr (.inl x_t_factor))), (h_p1, .inr (0, [.ref h_p1_x, .ref h_p1_y, .ref h_p1_colour, .ref h_p1_load, .int p1_size, .int p1_centreX, .int p1_centreY])), (h_p1_x, .inl (cI, 24, .inl p1_x)), (h_p1_y, .inl (cI, 24, .inl p1_y))] H → va_D A [(h_t, .inr (10, [.ref h_t_member, .ref h_t_factor, .int x_t_size])), (h_t_member, .inl (cI, 4, .inl x_t_member)), (h_t_factor, .inl (cL, 4, .inr (.inl x_t_factor))), (h_p1, .inr (0, [.ref h_p1_x, .ref h_p1_y, .ref h_p1_colour, .ref h_p1_load, .int p1_size, .int p1_centreX, .int p1_centreY])), (h_p1_x, .inl (cI, 24, .inl p1_x)), (h_p1_y, .inl (cI, 24, .inl p1_y))] → va_S A s.heap H locs → lv_has ls 4 [] → W p l e R s m args below meth c H locs 0 0 Q (F0 m 76 ls [])) → W p l e R s m args below meth c H locs 0 0 Q (F0 m 7 ls []) := by
  obtain ⟨hx, hb, hml, hown, hts, hK, hT, hA, hF, hLo⟩ := id C0
  intro n
  induction n with
  | zero =>
    intro l3 t_size t_member t_factor ex H locs ls hP hD hS hl hf
    rw [fX10_find_L7] at hf
    cases hf
  | succ n ih =>
    intro l3 t_size t_member t_factor ex H locs ls hP hD hS hl hf hk0 hk1 hk2
    rw [fX10_find_L7] at hf
    refine lv_iload_n hx hb dX10_find_7 rfl (lv_at hl 3 rfl) ?_
    refine lv_aload_n hx hb dX10_find_8 rfl (lv_at hl 1 rfl) ?_
    refine va_get (D := (dC, dI)) (ci := 0) (v := .int p1_size) (C := RX0) (T := TX0) (N := 7) hx hb hts in_X0 hown hK hP 3 rfl rfl 4 (Nat.le_of_ble_eq_true rfl) (hts _ qf_X10_21) (fun _ h9 => h9) rfl dX10_find_9 ?_
    refine lv_icmp_ge (tgt := 76) hx hb dX10_find_12 (by decide) (fun hc => ?_) (fun hc => ?_)
    · replace hf := it_t (hc) hf
      exact hk2 t_size t_member t_factor (Option.some.inj hf).symm H locs ls hP hD hS (lv_sub hl [] rfl)
    · replace hf := it_f (hc) hf
      refine lv_iload_n hx hb dX10_find_15 rfl (lv_at hl 2 rfl) ?_
      refine lv_iload_n hx hb dX10_find_16 rfl (lv_at hl 3 rfl) ?_
      obtain ⟨r_1, hq_2, hf⟩ := b1_some hf
      refine xci (wr := [(h_t, .inr (10, [.ref h_t_member, .ref h_t_factor, .int t_size])), (h_t_member, .inl (cI, 4, .inl t_member)), (h_t_factor, .inl (cL, 4, .inr (.inl t_factor))), (h_p1, .inr (0, [.ref h_p1_x, .ref h_p1_y, .ref h_p1_colour, .ref h_p1_load, .int p1_size, .int p1_centreX, .int p1_centreY])), (h_p1_x, .inl (cI, 24, .inl p1_x)), (h_p1_y, .inl (cI, 24, .inl p1_y))]) (w2 := [(h_t, .inr (10, [.ref h_t_member, .ref h_t_factor, .int t_size])), (h_t_member, .inl (cI, 4, .inl t_member)), (h_t_factor, .inl (cL, 4, .inr (.inl t_factor))), (h_p1, .inr (0, [.ref h_p1_x, .ref h_p1_y, .ref h_p1_colour, .ref h_p1_load, .int p1_size, .int p1_centreX, .int p1_centreY])), (h_p1_x, .inl (cI, 24, .inl p1_x)), (h_p1_y, .inl (cI, 24, .inl p1_y))]) (va_runSN (As := [.int l2, .int l3]) (rest := []) ⟨hx, hb, hml, hown, hts⟩ (mtX11_isIn l dC dI cI cL cB K H.size l2 l3 r_1 hq_2) ⟨va_cnB 2 hts (gcode qc_X11_isIn) rfl rfl rfl (hT _ qm_X10_24) (hts _ qz_X11) hdS_X11_isIn ⟨Nat.le_trans (Nat.le_of_ble_eq_true rfl) hF, Nat.le_trans (Nat.le_of_ble_eq_true rfl) hLo⟩, hts _ qt_X11_isIn, trivial⟩ (cPreS hK hP hD hT [] rfl rfl) rfl rfl hl.1 rfl (lv_room (Nat.le_of_ble_eq_true rfl)) dX10_find_17 ⟨Nat.zero_le _, Nat.zero_le _⟩) hP hD hS hA [] [0, 1, 2, 3, 4, 5] [0, 1, 2, 3, 4, 5] rfl rfl rfl rfl rfl rfl (fun H locs hP hD hS => ?_)
      obtain ⟨k_6, ek_6, hf⟩ := jn_out hf
      have J_7 : ∀ (t_size_3 : Int32) (t_member_4 : Nat → Int32) (t_factor_5 : Nat → Int64) (H : Heap) (locs : List Loc) (ls : Array Slot), va_P (dC, dI) vwCl [(h_t, .inr (10, [.ref h_t_member, .ref h_t_factor, .int t_size_3])), (h_t_member, .inl (cI, 4, .inl t_member_4)), (h_t_factor, .inl (cL, 4, .inr (.inl t_factor_5))), (h_p1, .inr (0, [.ref h_p1_x, .ref h_p1_y, .ref h_p1_colour, .ref h_p1_load, .int p1_size, .int p1_centreX, .int p1_centreY])), (h_p1_x, .inl (cI, 24, .inl p1_x)), (h_p1_y, .inl (cI, 24, .inl p1_y))] H → va_D A [(h_t, .inr (10, [.ref h_t_member, .ref h_t_factor, .int t_size_3])), (h_t_member, .inl (cI, 4, .inl t_member_4)), (h_t_factor, .inl (cL, 4, .inr (.inl t_factor_5))), (h_p1, .inr (0, [.ref h_p1_x, .ref h_p1_y, .ref h_p1_colour, .ref h_p1_load, .int p1_size, .int p1_centreX, .int p1_centreY])), (h_p1_x, .inl (cI, 24, .inl p1_x)), (h_p1_y, .inl (cI, 24, .inl p1_y))] → va_S A s.heap H locs → lv_has ls 4 [(0, .ref h_t), (1, .ref h_p1), (2, .int l2), (3, .int l3)] → k_6 t_size_3 t_member_4 t_factor_5 = some ex → W p l e R s m args below meth c H locs 0 0 Q (F0 m 70 ls []) := by
        intro t_size_3 t_member_4 t_factor_5 H locs ls hP hD hS hl hf
        rw [ek_6] at hf
        try dsimp only at hf
        obtain ⟨l3_8, el3_8⟩ : ∃ y : Int32, y = l3 + (1 : Int32) := ⟨_, rfl⟩
        replace hf := xl_at hf el3_8
        refine lv_iinc (v := l3_8) (lv' := [(3, .int l3_8), (0, .ref h_t), (1, .ref h_p1), (2, .int l2)]) hx hb dX10_find_70 hl (k := 3) rfl (by rw [el3_8]; rfl) (Nat.le_of_ble_eq_true rfl) rfl (fun ls hl => ?_)
        refine lv_goto (tgt := 7) hx hb dX10_find_73 (by decide) ?_
        exact ih l3_8 t_size_3 t_member_4 t_factor_5 _ H locs ls hP hD hS (lv_sub hl [1, 2, 3, 0] rfl) hf hk0 hk1 hk2
      refine lv_if_ne (tgt := 26) hx hb dX10_find_20 (by decide) (fun hc => ?_) (fun hc => ?_)
      · replace hf := it_f (hc) hf
        refine lv_aload_n hx hb dX10_find_26 rfl (lv_at hl 0 rfl) ?_
        refine va_get (D := (dC, dI)) (ci := 10) (v := .int t_size) (C := RX10) (T := TX10) (N := 3) hx hb hts in_X10 hown hK hP 0 rfl rfl 2 (Nat.le_of_ble_eq_true rfl) (hts _ qf_X10_17) (fun _ h9 => h9) rfl dX10_find_27 ?_
        refine lv_iconst (v := (4 : Int32)) hx hb dX10_find_30 (by decide) ?_
        refine lv_icmp_lt (tgt := 36) hx hb dX10_find_31 (by decide) (fun hc => ?_) (fun hc => ?_)
        · replace hf := it_t (hc) hf
          refine lv_aload_n hx hb dX10_find_36 rfl (lv_at hl 0 rfl) ?_
          refine va_get (D := (dC, dI)) (ci := 10) (v := .ref h_t_member) (C := RX10) (T := TX10) (N := 3) hx hb hts in_X10 hown hK hP 0 rfl rfl 0 (Nat.le_of_ble_eq_true rfl) (hts _ qf_X10_9) (fun _ h9 => h9) rfl dX10_find_37 ?_
          refine lv_aload_n hx hb dX10_find_40 rfl (lv_at hl 0 rfl) ?_
          refine va_get (D := (dC, dI)) (ci := 10) (v := .int t_size) (C := RX10) (T := TX10) (N := 3) hx hb hts in_X10 hown hK hP 0 rfl rfl 2 (Nat.le_of_ble_eq_true rfl) (hts _ qf_X10_17) (fun _ h9 => h9) rfl dX10_find_41 ?_
          refine lv_iload_n hx hb dX10_find_44 rfl (lv_at hl 3 rfl) ?_
          obtain ⟨hg_9, hf⟩ := gd_some hf
          obtain ⟨t_member_10, et_member_10⟩ : ∃ y : Nat → Int32, y = upd t_member t_size.toNatClampNeg l3 := ⟨_, rfl⟩
          replace hf := xl_at hf et_member_10
          refine xiast (w2 := [(h_t, .inr (10, [.ref h_t_member, .ref h_t_factor, .int t_size])), (h_t_member, .inl (cI, 4, .inl t_member_10)), (h_t_factor, .inl (cL, 4, .inr (.inl t_factor))), (h_p1, .inr (0, [.ref h_p1_x, .ref h_p1_y, .ref h_p1_colour, .ref h_p1_load, .int p1_size, .int p1_centreX, .int p1_centreY])), (h_p1_x, .inl (cI, 24, .inl p1_x)), (h_p1_y, .inl (cI, 24, .inl p1_y))]) hx hb hK hP hD hS 1 0 rfl rfl (inb_in hg_9) et_member_10 rfl dX10_find_45 (fun H locs hP hD hS => ?_)
          refine lv_aload_n hx hb dX10_find_46 rfl (lv_at hl 0 rfl) ?_
          refine lv_dup hx hb dX10_find_47 rfl ?_
          refine va_get (D := (dC, dI)) (ci := 10) (v := .int t_size) (C := RX10) (T := TX10) (N := 3) hx hb hts in_X10 hown hK hP 0 rfl rfl 2 (Nat.le_of_ble_eq_true rfl) (hts _ qf_X10_17) (fun _ h9 => h9) rfl dX10_find_48 ?_
          refine lv_iconst (v := (1 : Int32)) hx hb dX10_find_51 (by decide) ?_
          refine lv_iadd hx hb dX10_find_52 ?_
          refine lv_topi (fun f_size_11 ef_size_11 => ?_)
          replace hf := xl_at hf ef_size_11
          refine xput (D := (dC, dI)) (ci := 10) (v := .int f_size_11) (C := RX10) (T := TX10) (N := 3) (w2 := [(h_t, .inr (10, [.ref h_t_member, .ref h_t_factor, .int f_size_11])), (h_t_member, .inl (cI, 4, .inl t_member_10)), (h_t_factor, .inl (cL, 4, .inr (.inl t_factor))), (h_p1, .inr (0, [.ref h_p1_x, .ref h_p1_y, .ref h_p1_colour, .ref h_p1_load, .int p1_size, .int p1_centreX, .int p1_centreY])), (h_p1_x, .inl (cI, 24, .inl p1_x)), (h_p1_y, .inl (cI, 24, .inl p1_y))]) hx hb hts in_X10 tyX10 tyX10_ok nmX10 hown hK hP hD hS 0 rfl rfl 2 (Nat.le_of_ble_eq_true rfl) (hts _ qf_X10_17) (fun _ h9 => h9) rfl rfl rfl (Nat.le_of_ble_eq_true rfl) rfl dX10_find_53 (fun H locs hP hD hS => ?_)
          refine lv_aload_n hx hb dX10_find_56 rfl (lv_at hl 0 rfl) ?_
          refine lv_aload_n hx hb dX10_find_57 rfl (lv_at hl 1 rfl) ?_
          obtain ⟨r_12, t_factor_13, hq_14, hf⟩ := b2_some hf
          refine xci (wr := []) (w2 := [(h_t, .inr (10, [.ref h_t_member, .ref h_t_factor, .int f_size_11])), (h_t_member, .inl (cI, 4, .inl t_member_10)), (h_t_factor, .inl (cL, 4, .inr (.inl t_factor_13))), (h_p1, .inr (0, [.ref h_p1_x, .ref h_p1_y, .ref h_p1_colour, .ref h_p1_load, .int p1_size, .int p1_centreX, .int p1_centreY])), (h_p1_x, .inl (cI, 24, .inl p1_x)), (h_p1_y, .inl (cI, 24, .inl p1_y))]) (va_runV (As := [.ref h_p1]) (rest := []) ⟨hx, hb, hml, hown, hts⟩ (mtX10_bind l dC dI cI cL cB K h_t h_t_member h_t_factor h_p1 h_p1_x h_p1_y h_p1_colour h_p1_load H.size f_size_11 t_member_10 t_factor p1_size p1_centreX p1_centreY p1_x p1_y r_12 t_factor_13 hq_14) (cwV 1 hts gv_X10_30 rfl rfl rfl hdV_X10_bind ⟨Nat.le_trans (Nat.le_of_ble_eq_true rfl) hF, Nat.le_trans (Nat.le_of_ble_eq_true rfl) hLo⟩) (cPreV hK hP hD hT [0, 1, 2, 3, 4, 5] rfl rfl (ci := 10) (q0 := 0) rfl rfl) rfl rfl hl.1 rfl (lv_room (Nat.le_of_ble_eq_true rfl)) dX10_find_58 ⟨Nat.zero_le _, Nat.zero_le _⟩) hP hD hS hA [0, 1, 2, 3, 4, 5] [] [0, 1, 2, 3, 4, 5] rfl rfl rfl rfl rfl rfl (fun H locs hP hD hS => ?_)
          refine lv_if_eq (tgt := 70) hx hb dX10_find_61 (by decide) (fun hc => ?_) (fun hc => ?_)
          · replace hf := it_t (hc) hf
            exact J_7 f_size_11 t_member_10 t_factor_13 H locs ls hP hD hS (lv_sub hl [0, 1, 2, 3] rfl) hf
          · replace hf := it_f (hc) hf
            exact hk1 f_size_11 t_member_10 t_factor_13 (Option.some.inj hf).symm H locs ls hP hD hS (lv_sub hl [0] rfl)
        · replace hf := it_f (hc) hf
          exact hk0 t_size t_member t_factor (Option.some.inj hf).symm H locs ls hP hD hS (lv_sub hl [] rfl)
      · replace hf := it_t (hc) hf
        refine lv_goto (tgt := 70) hx hb dX10_find_23 (by decide) ?_
        exact J_7 t_size t_member t_factor H locs ls hP hD hS (lv_sub hl [0, 1, 2, 3] rfl) hf
set_option maxRecDepth 100000 in
set_option maxHeartbeats 4000000 in
theorem mtX10_find (l : Launch) (dC : Nat → ClassId) (dI : Nat → Nat → Nat) (cI cL cB : ClassId) (K : Nat) (h_t h_t_member h_t_factor h_p1 h_p1_x h_p1_y h_p1_colour h_p1_load : Nat) (sz : Nat) (t_size : Int32) (t_member : Nat → Int32) (t_factor : Nat → Int64) (p1_size : Int32) (p1_centreX : Int32) (p1_centreY : Int32) (p1_x : Nat → Int32) (p1_y : Nat → Int32) (a2 : Int32) (o_r : Int32) (o_t_size : Int32) (o_t_member : Nat → Int32) (o_t_factor : Nat → Int64) (hf : fX10_find K t_size t_member t_factor p1_size p1_x p1_y a2 = some (o_r, o_t_size, o_t_member, o_t_factor)) : Met l yX10_find [Cond.code yX10_find cX10_find 4 (some .boolean)] ({ frames := 3, cells := 0, slots := 0, locals := 81 }) (va_Pc [.ref h_t, .ref h_p1, .int a2] (cPre dC dI cI cL cB sz [(h_t, .inr (10, [.ref h_t_member, .ref h_t_factor, .int t_size])), (h_t_member, .inl (cI, 4, .inl t_member)), (h_t_factor, .inl (cL, 4, .inr (.inl t_factor))), (h_p1, .inr (0, [.ref h_p1_x, .ref h_p1_y, .ref h_p1_colour, .ref h_p1_load, .int p1_size, .int p1_centreX, .int p1_centreY])), (h_p1_x, .inl (cI, 24, .inl p1_x)), (h_p1_y, .inl (cI, 24, .inl p1_y))])) (cQi dC dI (va_A [(h_t, .inr (10, [.ref h_t_member, .ref h_t_factor, .int t_size])), (h_t_member, .inl (cI, 4, .inl t_member)), (h_t_factor, .inl (cL, 4, .inr (.inl t_factor))), (h_p1, .inr (0, [.ref h_p1_x, .ref h_p1_y, .ref h_p1_colour, .ref h_p1_load, .int p1_size, .int p1_centreX, .int p1_centreY])), (h_p1_x, .inl (cI, 24, .inl p1_x)), (h_p1_y, .inl (cI, 24, .inl p1_y))] sz) o_r [(h_t, .inr (10, [.ref h_t_member, .ref h_t_factor, .int o_t_size])), (h_t_member, .inl (cI, 4, .inl o_t_member)), (h_t_factor, .inl (cL, 4, .inr (.inl o_t_factor))), (h_p1, .inr (0, [.ref h_p1_x, .ref h_p1_y, .ref h_p1_colour, .ref h_p1_load, .int p1_size, .int p1_centreX, .int p1_centreY])), (h_p1_x, .inl (cI, 24, .inl p1_x)), (h_p1_y, .inl (cI, 24, .inl p1_y))]) 0 0 (va_A [(h_t, .inr (10, [.ref h_t_member, .ref h_t_factor, .int t_size])), (h_t_member, .inl (cI, 4, .inl t_member)), (h_t_factor, .inl (cL, 4, .inr (.inl t_factor))), (h_p1, .inr (0, [.ref h_p1_x, .ref h_p1_y, .ref h_p1_colour, .ref h_p1_load, .int p1_size, .int p1_centreX, .int p1_centreY])), (h_p1_x, .inl (cI, 24, .inl p1_x)), (h_p1_y, .inl (cI, 24, .inl p1_y))] sz) := by
  refine Met.ofW (cc := cX10_find) (maxL := 4) (ret := (some .boolean)) (by decide) rfl ?_
  intro p e s m args below meth c s₁ B hml hv
  obtain ⟨rfl, hsz, hP, hK, hD0, hT⟩ := hv
  have hx := B.exec
  have hb := B.bytes
  have hr := B.returns
  have hown : s.vm.findClass RX10 = some m.cls := findClass_of_methodNamed B.named
  have hlocks := B.notSynchronized
  have hts := TB.use hT ([.ref h_t, .ref h_p1, .int a2] : List Value).toArray
  subst hsz
  have hD := hD0.self (sz := s.heap.size)
  generalize hAe : va_A [(h_t, .inr (10, [.ref h_t_member, .ref h_t_factor, .int t_size])), (h_t_member, .inl (cI, 4, .inl t_member)), (h_t_factor, .inl (cL, 4, .inr (.inl t_factor))), (h_p1, .inr (0, [.ref h_p1_x, .ref h_p1_y, .ref h_p1_colour, .ref h_p1_load, .int p1_size, .int p1_centreX, .int p1_centreY])), (h_p1_x, .inl (cI, 24, .inl p1_x)), (h_p1_y, .inl (cI, 24, .inl p1_y))] s.heap.size = A at hD ⊢
  have hA : ∀ q : Nat, s.heap.size ≤ q → A q := fun q h => by rw [← hAe]; exact Or.inr h
  clear hAe hD0
  have hl := lv_entry ([.ref h_t, .ref h_p1, .int a2]) (n := 4) (Nat.le_of_ble_eq_true rfl)
  rw [lg_entry_eq]
  generalize (lg_sl ([.ref h_t, .ref h_p1, .int a2]) ++ List.replicate (4 - (lg_sl ([.ref h_t, .ref h_p1, .int a2])).length) Slot.unset).toArray = ls at hl ⊢
  have hl : lv_has ls 4 [(0, .ref h_t), (1, .ref h_p1), (2, .int a2)] := hl
  have hF : 3 ≤ (headSpec [Cond.code yX10_find cX10_find 4 (some .boolean)] ({ frames := 3, cells := 0, slots := 0, locals := 81 })).room.frames := Nat.le_refl _
  have hLo : 81 ≤ (headSpec [Cond.code yX10_find cX10_find 4 (some .boolean)] ({ frames := 3, cells := 0, slots := 0, locals := 81 })).room.locals := Nat.le_refl _
  have C0 : Sx p (headSpec [Cond.code yX10_find cX10_find 4 (some .boolean)] ({ frames := 3, cells := 0, slots := 0, locals := 81 })).room s m ([.ref h_t, .ref h_p1, .int a2] : List Value).toArray c cX10_find 4 RX10 A dC dI cI cL cB 3 81 := ⟨hx, hb, hml, hown, hts, hK, hT, hA, hF, hLo⟩
  refine startH (A := A) hP (fun H locs hP hS => ?_)
  rw [fX10_find] at hf
  refine lv_aload_n hx hb dX10_find_0 rfl (lv_at hl 0 rfl) ?_
  refine lv_iconst (v := (0 : Int32)) hx hb dX10_find_1 (by decide) ?_
  refine xput (D := (dC, dI)) (ci := 10) (v := .int (0 : Int32)) (C := RX10) (T := TX10) (N := 3) (w2 := [(h_t, .inr (10, [.ref h_t_member, .ref h_t_factor, .int (0 : Int32)])), (h_t_member, .inl (cI, 4, .inl t_member)), (h_t_factor, .inl (cL, 4, .inr (.inl t_factor))), (h_p1, .inr (0, [.ref h_p1_x, .ref h_p1_y, .ref h_p1_colour, .ref h_p1_load, .int p1_size, .int p1_centreX, .int p1_centreY])), (h_p1_x, .inl (cI, 24, .inl p1_x)), (h_p1_y, .inl (cI, 24, .inl p1_y))]) hx hb hts in_X10 tyX10 tyX10_ok nmX10 hown hK hP hD hS 0 rfl rfl 2 (Nat.le_of_ble_eq_true rfl) (hts _ qf_X10_17) (fun _ h9 => h9) rfl rfl rfl (Nat.le_of_ble_eq_true rfl) rfl dX10_find_2 (fun H locs hP hD hS => ?_)
  refine lv_iconst (v := (0 : Int32)) hx hb dX10_find_5 (by decide) ?_
  refine lv_istore_n (lv' := [(3, .int (0 : Int32)), (0, .ref h_t), (1, .ref h_p1), (2, .int a2)]) hx hb dX10_find_6 rfl hl (Nat.le_of_ble_eq_true rfl) rfl (fun ls hl => ?_)
  obtain ⟨ex_27, hq_15, hf⟩ := sm_some hf
  refine wX10_find_L7 C0 h_t h_t_member h_t_factor h_p1 h_p1_x h_p1_y h_p1_colour h_p1_load p1_size p1_centreX p1_centreY p1_x p1_y a2 K (0 : Int32) (0 : Int32) t_member t_factor ex_27 H locs ls hP hD hS (lv_sub hl [1, 2, 3, 0] rfl) hq_15 ?_ ?_ ?_
  · intro t_size_16 t_member_17 t_factor_18 he H locs ls hP hD hS hl
    subst he
    replace hf := el3 hf
    refine lv_iconst (v := (0 : Int32)) hx hb dX10_find_34 (by decide) ?_
    obtain ⟨rfl, rfl, rfl, rfl⟩ := o4 hf
    exact W.zret hx hb hr rfl (fun t ht hW => ⟨⟨_, (), rfl, rfl, by rw [ht]; exact hP, hD⟩, hS.F ht⟩) hS.2.2 dX10_find_35
  · intro t_size_19 t_member_20 t_factor_21 he H locs ls hP hD hS hl
    subst he
    replace hf := erS hf
    replace hf := el3 hf
    refine lv_aload_n hx hb dX10_find_64 rfl (lv_at hl 0 rfl) ?_
    obtain ⟨t_factor_22, hq_23, hf⟩ := b1_some hf
    refine xcv (wr := [(h_t_member, .inl (cI, 4, .inl t_member_20)), (h_p1, .inr (0, [.ref h_p1_x, .ref h_p1_y, .ref h_p1_colour, .ref h_p1_load, .int p1_size, .int p1_centreX, .int p1_centreY])), (h_p1_x, .inl (cI, 24, .inl p1_x)), (h_p1_y, .inl (cI, 24, .inl p1_y))]) (w2 := [(h_t, .inr (10, [.ref h_t_member, .ref h_t_factor, .int t_size_19])), (h_t_member, .inl (cI, 4, .inl t_member_20)), (h_t_factor, .inl (cL, 4, .inr (.inl t_factor_22))), (h_p1, .inr (0, [.ref h_p1_x, .ref h_p1_y, .ref h_p1_colour, .ref h_p1_load, .int p1_size, .int p1_centreX, .int p1_centreY])), (h_p1_x, .inl (cI, 24, .inl p1_x)), (h_p1_y, .inl (cI, 24, .inl p1_y))]) (va_runV (As := []) (rest := []) ⟨hx, hb, hml, hown, hts⟩ (mtX10_settle l dC dI cI cL cB K h_t h_t_member h_t_factor H.size t_size_19 t_factor_21 t_factor_22 hq_23) (cwV 0 hts gv_X10_34 rfl rfl rfl hdV_X10_settle ⟨Nat.le_trans (Nat.le_of_ble_eq_true rfl) hF, Nat.le_trans (Nat.le_of_ble_eq_true rfl) hLo⟩) (cPreV hK hP hD hT [0, 2] rfl rfl (ci := 10) (q0 := 0) rfl rfl) rfl rfl hl.1 rfl (lv_room (Nat.le_of_ble_eq_true rfl)) dX10_find_65 ⟨Nat.zero_le _, Nat.zero_le _⟩) hP hD hS hA [0, 2] [1, 3, 4, 5] [4, 0, 5, 1, 2, 3] rfl rfl rfl rfl rfl rfl (fun H locs hP hD hS => ?_)
    refine lv_iconst (v := (1 : Int32)) hx hb dX10_find_68 (by decide) ?_
    obtain ⟨rfl, rfl, rfl, rfl⟩ := o4 hf
    exact W.zret hx hb hr rfl (fun t ht hW => ⟨⟨_, (), rfl, rfl, by rw [ht]; exact hP, hD⟩, hS.F ht⟩) hS.2.2 dX10_find_69
  · intro t_size_24 t_member_25 t_factor_26 he H locs ls hP hD hS hl
    subst he
    replace hf := erS hf
    replace hf := er3 hf
    refine lv_iconst (v := (0 : Int32)) hx hb dX10_find_76 (by decide) ?_
    obtain ⟨rfl, rfl, rfl, rfl⟩ := o4 hf
    exact W.zret hx hb hr rfl (fun t ht hW => ⟨⟨_, (), rfl, rfl, by rw [ht]; exact hP, hD⟩, hS.F ht⟩) hS.2.2 dX10_find_77
theorem dX10_factorOf_0 : decode cX10_factorOf 0 = .ok (.iconst 0, 1) := by decide +kernel
theorem dX10_factorOf_1 : decode cX10_factorOf 1 = .ok (.istore_n 2, 1) := by decide +kernel
theorem dX10_factorOf_2 : decode cX10_factorOf 2 = .ok (.iload_n 2, 1) := by decide +kernel
theorem dX10_factorOf_3 : decode cX10_factorOf 3 = .ok (.aload_n 0, 1) := by decide +kernel
theorem dX10_factorOf_4 : decode cX10_factorOf 4 = .ok (.getfield 17, 3) := by decide +kernel
theorem dX10_factorOf_7 : decode cX10_factorOf 7 = .ok (.if_icmp .ge 26, 3) := by decide +kernel
theorem dX10_factorOf_10 : decode cX10_factorOf 10 = .ok (.aload_n 0, 1) := by decide +kernel
theorem dX10_factorOf_11 : decode cX10_factorOf 11 = .ok (.getfield 9, 3) := by decide +kernel
theorem dX10_factorOf_14 : decode cX10_factorOf 14 = .ok (.iload_n 2, 1) := by decide +kernel
theorem dX10_factorOf_15 : decode cX10_factorOf 15 = .ok (.iaload, 1) := by decide +kernel
theorem dX10_factorOf_16 : decode cX10_factorOf 16 = .ok (.iload_n 1, 1) := by decide +kernel
theorem dX10_factorOf_17 : decode cX10_factorOf 17 = .ok (.if_icmp .ne 10, 3) := by decide +kernel
theorem dX10_factorOf_20 : decode cX10_factorOf 20 = .ok (.aload_n 0, 1) := by decide +kernel
theorem dX10_factorOf_21 : decode cX10_factorOf 21 = .ok (.getfield 13, 3) := by decide +kernel
theorem dX10_factorOf_24 : decode cX10_factorOf 24 = .ok (.iload_n 2, 1) := by decide +kernel
theorem dX10_factorOf_25 : decode cX10_factorOf 25 = .ok (.laload, 1) := by decide +kernel
theorem dX10_factorOf_26 : decode cX10_factorOf 26 = .ok (.lreturn, 1) := by decide +kernel
theorem dX10_factorOf_27 : decode cX10_factorOf 27 = .ok (.iinc 2 1, 3) := by decide +kernel
theorem dX10_factorOf_30 : decode cX10_factorOf 30 = .ok (.goto (-28), 3) := by decide +kernel
theorem dX10_factorOf_33 : decode cX10_factorOf 33 = .ok (.lconst 0, 1) := by decide +kernel
theorem dX10_factorOf_34 : decode cX10_factorOf 34 = .ok (.lreturn, 1) := by decide +kernel
set_option maxRecDepth 100000 in
set_option maxHeartbeats 4000000 in
theorem wX10_factorOf_L2 {p : Program} {l : Launch} {e : Env} {R : Room} {s : State} {m : MethodId} {args : Array Value} {below : List Frame} {meth : Method} {c : Code} {Q : State → Prop} {A : Nat → Prop} {dC : Nat → ClassId} {dI : Nat → Nat → Nat} {cI cL cB : ClassId} {K : Nat} (C0 : Sx p R s m args c cX10_factorOf 3 RX10 A dC dI cI cL cB 0 0) (h_t h_t_member h_t_factor : Nat) (t_size : Int32) (t_member : Nat → Int32) (t_factor : Nat → Int64) (l1 : Int32) : ∀ (n : Nat) (l2 : Int32) (ex : (Int32) ⊕ (Unit)) (H : Heap) (locs : List Loc) (ls : Array Slot), va_P (dC, dI) vwCl [(h_t, .inr (10, [.ref h_t_member, .ref h_t_factor, .int t_size])), (h_t_member, .inl (cI, 4, .inl t_member)), (h_t_factor, .inl (cL, 4, .inr (.inl t_factor)))] H → va_D A [(h_t, .inr (10, [.ref h_t_member, .ref h_t_factor, .int t_size])), (h_t_member, .inl (cI, 4, .inl t_member)), (h_t_factor, .inl (cL, 4, .inr (.inl t_factor)))] → va_S A s.heap H locs → lv_has ls 3 [(0, .ref h_t), (1, .int l1), (2, .int l2)] → fX10_factorOf_L2 K l1 t_size t_member n l2 = some ex → (∀ (x2_ : Int32), ex = (.inl x2_) → ∀ (H : Heap) (locs : List Loc) (ls : Array Slot), va_P (dC, dI) vwCl [(h_t, .inr (10, [.ref h_t_member, .ref h_t_factor, .int t_size])), (h_t_member, .inl (cI, 4, .inl t_member)), (h_t_factor, .inl (cL, 4, .inr (.inl t_factor)))] H → va_D A [(h_t, .inr (10, [.ref h_t_member, .ref h_t_factor, .int t_size])), (h_t_member, .inl (cI, 4, .inl t_member)), (h_t_factor, .inl (cL, 4, .inr (.inl t_factor)))] → va_S A s.heap H locs → lv_has ls 3 [(0, .ref h_t), (2, .int x2_)] → W p l e R s m args below meth c H locs 0 0 Q (F0 m 20 ls [])) → (∀ (_ : Unit), ex = (.inr ()) → ∀ (H : Heap) (locs : List Loc) (ls : Array Slot), va_P (dC, dI) vwCl [(h_t, .inr (10, [.ref h_t_member, .ref h_t_factor, .int t_size])), (h_t_member, .inl (cI, 4, .inl t_member)), (h_t_factor, .inl (cL, 4, .inr (.inl t_factor)))] H → va_D A [(h_t, .inr (10, [.ref h_t_member, .ref h_t_factor, .int t_size])), (h_t_member, .inl (cI, 4, .inl t_member)), (h_t_factor, .inl (cL, 4, .inr (.inl t_factor)))] → va_S A s.heap H locs → lv_has ls 3 [] → W p l e R s m args below meth c H locs 0 0 Q (F0 m 33 ls [])) → W p l e R s m args below meth c H locs 0 0 Q (F0 m 2 ls []) := by
  obtain ⟨hx, hb, hml, hown, hts, hK, hT, hA, hF, hLo⟩ := id C0
  intro n
  induction n with
  | zero =>
    intro l2 ex H locs ls hP hD hS hl hf
    rw [fX10_factorOf_L2] at hf
    cases hf
  | succ n ih =>
    intro l2 ex H locs ls hP hD hS hl hf hk0 hk1
    rw [fX10_factorOf_L2] at hf
    refine lv_iload_n hx hb dX10_factorOf_2 rfl (lv_at hl 2 rfl) ?_
    refine lv_aload_n hx hb dX10_factorOf_3 rfl (lv_at hl 0 rfl) ?_
    refine va_get (D := (dC, dI)) (ci := 10) (v := .int t_size) (C := RX10) (T := TX10) (N := 3) hx hb hts in_X10 hown hK hP 0 rfl rfl 2 (Nat.le_of_ble_eq_true rfl) (hts _ qf_X10_17) (fun _ h9 => h9) rfl dX10_factorOf_4 ?_
    refine lv_icmp_ge (tgt := 33) hx hb dX10_factorOf_7 (by decide) (fun hc => ?_) (fun hc => ?_)
    · replace hf := it_t (hc) hf
      exact hk1 () (Option.some.inj hf).symm H locs ls hP hD hS (lv_sub hl [] rfl)
    · replace hf := it_f (hc) hf
      refine lv_aload_n hx hb dX10_factorOf_10 rfl (lv_at hl 0 rfl) ?_
      refine va_get (D := (dC, dI)) (ci := 10) (v := .ref h_t_member) (C := RX10) (T := TX10) (N := 3) hx hb hts in_X10 hown hK hP 0 rfl rfl 0 (Nat.le_of_ble_eq_true rfl) (hts _ qf_X10_9) (fun _ h9 => h9) rfl dX10_factorOf_11 ?_
      refine lv_iload_n hx hb dX10_factorOf_14 rfl (lv_at hl 2 rfl) ?_
      obtain ⟨hg_1, hf⟩ := gd_some hf
      refine va_iald hx hb hK hP 1 0 rfl rfl (inb_in hg_1) dX10_factorOf_15 ?_
      refine lv_iload_n hx hb dX10_factorOf_16 rfl (lv_at hl 1 rfl) ?_
      refine lv_icmp_ne (tgt := 27) hx hb dX10_factorOf_17 (by decide) (fun hc => ?_) (fun hc => ?_)
      · replace hf := it_f (hc) hf
        obtain ⟨l2_2, el2_2⟩ : ∃ y : Int32, y = l2 + (1 : Int32) := ⟨_, rfl⟩
        replace hf := xl_at hf el2_2
        refine lv_iinc (v := l2_2) (lv' := [(2, .int l2_2), (0, .ref h_t), (1, .int l1)]) hx hb dX10_factorOf_27 hl (k := 2) rfl (by rw [el2_2]; rfl) (Nat.le_of_ble_eq_true rfl) rfl (fun ls hl => ?_)
        refine lv_goto (tgt := 2) hx hb dX10_factorOf_30 (by decide) ?_
        exact ih l2_2 _ H locs ls hP hD hS (lv_sub hl [1, 2, 0] rfl) hf hk0 hk1
      · replace hf := it_t (hc) hf
        exact hk0 l2 (Option.some.inj hf).symm H locs ls hP hD hS (lv_sub hl [0, 2] rfl)
set_option maxRecDepth 100000 in
set_option maxHeartbeats 4000000 in
theorem mtX10_factorOf (l : Launch) (dC : Nat → ClassId) (dI : Nat → Nat → Nat) (cI cL cB : ClassId) (K : Nat) (h_t h_t_member h_t_factor : Nat) (sz : Nat) (t_size : Int32) (t_member : Nat → Int32) (t_factor : Nat → Int64) (a1 : Int32) (o_r : Int64) (hf : fX10_factorOf K t_size t_member t_factor a1 = some o_r) : Met l yX10_factorOf [Cond.code yX10_factorOf cX10_factorOf 3 (some .long)] ({ frames := 0, cells := 0, slots := 0, locals := 0 }) (va_Pc [.ref h_t, .int a1] (cPre dC dI cI cL cB sz [(h_t, .inr (10, [.ref h_t_member, .ref h_t_factor, .int t_size])), (h_t_member, .inl (cI, 4, .inl t_member)), (h_t_factor, .inl (cL, 4, .inr (.inl t_factor)))])) (cQl dC dI (va_A [(h_t, .inr (10, [.ref h_t_member, .ref h_t_factor, .int t_size])), (h_t_member, .inl (cI, 4, .inl t_member)), (h_t_factor, .inl (cL, 4, .inr (.inl t_factor)))] sz) o_r [(h_t, .inr (10, [.ref h_t_member, .ref h_t_factor, .int t_size])), (h_t_member, .inl (cI, 4, .inl t_member)), (h_t_factor, .inl (cL, 4, .inr (.inl t_factor)))]) 0 0 (va_A [(h_t, .inr (10, [.ref h_t_member, .ref h_t_factor, .int t_size])), (h_t_member, .inl (cI, 4, .inl t_member)), (h_t_factor, .inl (cL, 4, .inr (.inl t_factor)))] sz) := by
  refine Met.ofW (cc := cX10_factorOf) (maxL := 3) (ret := (some .long)) (by decide) rfl ?_
  intro p e s m args below meth c s₁ B hml hv
  obtain ⟨rfl, hsz, hP, hK, hD0, hT⟩ := hv
  have hx := B.exec
  have hb := B.bytes
  have hr := B.returns
  have hown : s.vm.findClass RX10 = some m.cls := findClass_of_methodNamed B.named
  have hlocks := B.notSynchronized
  have hts := TB.use hT ([.ref h_t, .int a1] : List Value).toArray
  subst hsz
  have hD := hD0.self (sz := s.heap.size)
  generalize hAe : va_A [(h_t, .inr (10, [.ref h_t_member, .ref h_t_factor, .int t_size])), (h_t_member, .inl (cI, 4, .inl t_member)), (h_t_factor, .inl (cL, 4, .inr (.inl t_factor)))] s.heap.size = A at hD ⊢
  have hA : ∀ q : Nat, s.heap.size ≤ q → A q := fun q h => by rw [← hAe]; exact Or.inr h
  clear hAe hD0
  have hl := lv_entry ([.ref h_t, .int a1]) (n := 3) (Nat.le_of_ble_eq_true rfl)
  rw [lg_entry_eq]
  generalize (lg_sl ([.ref h_t, .int a1]) ++ List.replicate (3 - (lg_sl ([.ref h_t, .int a1])).length) Slot.unset).toArray = ls at hl ⊢
  have hl : lv_has ls 3 [(0, .ref h_t), (1, .int a1)] := hl
  have hF : 0 ≤ (headSpec [Cond.code yX10_factorOf cX10_factorOf 3 (some .long)] ({ frames := 0, cells := 0, slots := 0, locals := 0 })).room.frames := Nat.le_refl _
  have hLo : 0 ≤ (headSpec [Cond.code yX10_factorOf cX10_factorOf 3 (some .long)] ({ frames := 0, cells := 0, slots := 0, locals := 0 })).room.locals := Nat.le_refl _
  have C0 : Sx p (headSpec [Cond.code yX10_factorOf cX10_factorOf 3 (some .long)] ({ frames := 0, cells := 0, slots := 0, locals := 0 })).room s m ([.ref h_t, .int a1] : List Value).toArray c cX10_factorOf 3 RX10 A dC dI cI cL cB 0 0 := ⟨hx, hb, hml, hown, hts, hK, hT, hA, hF, hLo⟩
  refine startH (A := A) hP (fun H locs hP hS => ?_)
  rw [fX10_factorOf] at hf
  refine lv_iconst (v := (0 : Int32)) hx hb dX10_factorOf_0 (by decide) ?_
  refine lv_istore_n (lv' := [(2, .int (0 : Int32)), (0, .ref h_t), (1, .int a1)]) hx hb dX10_factorOf_1 rfl hl (Nat.le_of_ble_eq_true rfl) rfl (fun ls hl => ?_)
  obtain ⟨ex_6, hq_3, hf⟩ := sm_some hf
  refine wX10_factorOf_L2 C0 h_t h_t_member h_t_factor t_size t_member t_factor a1 K (0 : Int32) ex_6 H locs ls hP hD hS (lv_sub hl [1, 2, 0] rfl) hq_3 ?_ ?_
  · intro l2_4 he H locs ls hP hD hS hl
    subst he
    replace hf := el1 hf
    refine lv_aload_n hx hb dX10_factorOf_20 rfl (lv_at hl 0 rfl) ?_
    refine va_get (D := (dC, dI)) (ci := 10) (v := .ref h_t_factor) (C := RX10) (T := TX10) (N := 3) hx hb hts in_X10 hown hK hP 0 rfl rfl 1 (Nat.le_of_ble_eq_true rfl) (hts _ qf_X10_13) (fun _ h9 => h9) rfl dX10_factorOf_21 ?_
    refine lv_iload_n hx hb dX10_factorOf_24 rfl (lv_at hl 1 rfl) ?_
    obtain ⟨hg_5, hf⟩ := gd_some hf
    refine va_lald hx hb hK hP 2 1 rfl rfl (inb_in hg_5) dX10_factorOf_25 ?_
    obtain rfl := o1 hf
    exact W.lret hx hb hr (fun t ht hW => ⟨⟨_, (), rfl, rfl, by rw [ht]; exact hP, hD⟩, hS.F ht⟩) hS.2.2 dX10_factorOf_26
  · intro _ he H locs ls hP hD hS hl
    subst he
    replace hf := er0 hf
    refine lv_lconst (v := (0 : Int64)) hx hb dX10_factorOf_33 (by decide) ?_
    obtain rfl := o1 hf
    exact W.lret hx hb hr (fun t ht hW => ⟨⟨_, (), rfl, rfl, by rw [ht]; exact hP, hD⟩, hS.F ht⟩) hS.2.2 dX10_factorOf_34
theorem dX11_tie_0 : decode cX11_tie 0 = .ok (.aload_n 0, 1) := by decide +kernel
theorem dX11_tie_1 : decode cX11_tie 1 = .ok (.getfield 12, 3) := by decide +kernel
theorem dX11_tie_4 : decode cX11_tie 4 = .ok (.iload_n 1, 1) := by decide +kernel
theorem dX11_tie_5 : decode cX11_tie 5 = .ok (.invokevirtual 152, 3) := by decide +kernel
theorem dX11_tie_8 : decode cX11_tie 8 = .ok (.ifCond .eq 29, 3) := by decide +kernel
theorem dX11_tie_11 : decode cX11_tie 11 = .ok (.aload_n 0, 1) := by decide +kernel
theorem dX11_tie_12 : decode cX11_tie 12 = .ok (.getfield 12, 3) := by decide +kernel
theorem dX11_tie_15 : decode cX11_tie 15 = .ok (.iload_n 2, 1) := by decide +kernel
theorem dX11_tie_16 : decode cX11_tie 16 = .ok (.invokevirtual 128, 3) := by decide +kernel
theorem dX11_tie_19 : decode cX11_tie 19 = .ok (.ifCond .eq 18, 3) := by decide +kernel
theorem dX11_tie_22 : decode cX11_tie 22 = .ok (.aload_n 0, 1) := by decide +kernel
theorem dX11_tie_23 : decode cX11_tie 23 = .ok (.getfield 42, 3) := by decide +kernel
theorem dX11_tie_26 : decode cX11_tie 26 = .ok (.aload_n 0, 1) := by decide +kernel
theorem dX11_tie_27 : decode cX11_tie 27 = .ok (.getfield 12, 3) := by decide +kernel
theorem dX11_tie_30 : decode cX11_tie 30 = .ok (.iload_n 1, 1) := by decide +kernel
theorem dX11_tie_31 : decode cX11_tie 31 = .ok (.invokevirtual 212, 3) := by decide +kernel
theorem dX11_tie_34 : decode cX11_tie 34 = .ok (.ifCond .ne 7, 3) := by decide +kernel
theorem dX11_tie_37 : decode cX11_tie 37 = .ok (.ldc2_w 131, 3) := by decide +kernel
theorem dX11_tie_40 : decode cX11_tie 40 = .ok (.lreturn, 1) := by decide +kernel
theorem dX11_tie_41 : decode cX11_tie 41 = .ok (.aload_n 0, 1) := by decide +kernel
theorem dX11_tie_42 : decode cX11_tie 42 = .ok (.getfield 42, 3) := by decide +kernel
theorem dX11_tie_45 : decode cX11_tie 45 = .ok (.iload_n 2, 1) := by decide +kernel
theorem dX11_tie_46 : decode cX11_tie 46 = .ok (.invokevirtual 216, 3) := by decide +kernel
theorem dX11_tie_49 : decode cX11_tie 49 = .ok (.lreturn, 1) := by decide +kernel
set_option maxRecDepth 100000 in
set_option maxHeartbeats 4000000 in
theorem mtX11_tie (l : Launch) (dC : Nat → ClassId) (dI : Nat → Nat → Nat) (cI cL cB : ClassId) (K : Nat) (h_t h_t_cloud h_t_reader h_t_hull h_t_near h_t_firstTie h_t_reducer h_t_chooser h_t_pair h_t_divider h_t_depths h_t_spot h_t_cloud_x h_t_cloud_y h_t_cloud_colour h_t_cloud_load h_t_firstTie_member h_t_firstTie_factor : Nat) (sz : Nat) (t_cloud_size : Int32) (t_cloud_centreX : Int32) (t_cloud_centreY : Int32) (t_cloud_x : Nat → Int32) (t_cloud_y : Nat → Int32) (t_firstTie_size : Int32) (t_firstTie_member : Nat → Int32) (t_firstTie_factor : Nat → Int64) (a1 : Int32) (a2 : Int32) (o_r : Int64) (o_t_firstTie_size : Int32) (o_t_firstTie_member : Nat → Int32) (o_t_firstTie_factor : Nat → Int64) (hf : fX11_tie K t_cloud_size t_cloud_x t_cloud_y t_firstTie_size t_firstTie_member t_firstTie_factor a1 a2 = some (o_r, o_t_firstTie_size, o_t_firstTie_member, o_t_firstTie_factor)) : Met l yX11_tie [Cond.code yX11_tie cX11_tie 3 (some .long)] ({ frames := 4, cells := 0, slots := 0, locals := 104 }) (va_Pc [.ref h_t, .int a1, .int a2] (cPre dC dI cI cL cB sz [(h_t, .inr (11, [.ref h_t_cloud, .ref h_t_reader, .ref h_t_hull, .ref h_t_near, .ref h_t_firstTie, .ref h_t_reducer, .ref h_t_chooser, .ref h_t_pair, .ref h_t_divider, .ref h_t_depths, .ref h_t_spot])), (h_t_cloud, .inr (0, [.ref h_t_cloud_x, .ref h_t_cloud_y, .ref h_t_cloud_colour, .ref h_t_cloud_load, .int t_cloud_size, .int t_cloud_centreX, .int t_cloud_centreY])), (h_t_cloud_x, .inl (cI, 24, .inl t_cloud_x)), (h_t_cloud_y, .inl (cI, 24, .inl t_cloud_y)), (h_t_firstTie, .inr (10, [.ref h_t_firstTie_member, .ref h_t_firstTie_factor, .int t_firstTie_size])), (h_t_firstTie_member, .inl (cI, 4, .inl t_firstTie_member)), (h_t_firstTie_factor, .inl (cL, 4, .inr (.inl t_firstTie_factor)))])) (cQl dC dI (va_A [(h_t, .inr (11, [.ref h_t_cloud, .ref h_t_reader, .ref h_t_hull, .ref h_t_near, .ref h_t_firstTie, .ref h_t_reducer, .ref h_t_chooser, .ref h_t_pair, .ref h_t_divider, .ref h_t_depths, .ref h_t_spot])), (h_t_cloud, .inr (0, [.ref h_t_cloud_x, .ref h_t_cloud_y, .ref h_t_cloud_colour, .ref h_t_cloud_load, .int t_cloud_size, .int t_cloud_centreX, .int t_cloud_centreY])), (h_t_cloud_x, .inl (cI, 24, .inl t_cloud_x)), (h_t_cloud_y, .inl (cI, 24, .inl t_cloud_y)), (h_t_firstTie, .inr (10, [.ref h_t_firstTie_member, .ref h_t_firstTie_factor, .int t_firstTie_size])), (h_t_firstTie_member, .inl (cI, 4, .inl t_firstTie_member)), (h_t_firstTie_factor, .inl (cL, 4, .inr (.inl t_firstTie_factor)))] sz) o_r [(h_t, .inr (11, [.ref h_t_cloud, .ref h_t_reader, .ref h_t_hull, .ref h_t_near, .ref h_t_firstTie, .ref h_t_reducer, .ref h_t_chooser, .ref h_t_pair, .ref h_t_divider, .ref h_t_depths, .ref h_t_spot])), (h_t_cloud, .inr (0, [.ref h_t_cloud_x, .ref h_t_cloud_y, .ref h_t_cloud_colour, .ref h_t_cloud_load, .int t_cloud_size, .int t_cloud_centreX, .int t_cloud_centreY])), (h_t_cloud_x, .inl (cI, 24, .inl t_cloud_x)), (h_t_cloud_y, .inl (cI, 24, .inl t_cloud_y)), (h_t_firstTie, .inr (10, [.ref h_t_firstTie_member, .ref h_t_firstTie_factor, .int o_t_firstTie_size])), (h_t_firstTie_member, .inl (cI, 4, .inl o_t_firstTie_member)), (h_t_firstTie_factor, .inl (cL, 4, .inr (.inl o_t_firstTie_factor)))]) 0 0 (va_A [(h_t, .inr (11, [.ref h_t_cloud, .ref h_t_reader, .ref h_t_hull, .ref h_t_near, .ref h_t_firstTie, .ref h_t_reducer, .ref h_t_chooser, .ref h_t_pair, .ref h_t_divider, .ref h_t_depths, .ref h_t_spot])), (h_t_cloud, .inr (0, [.ref h_t_cloud_x, .ref h_t_cloud_y, .ref h_t_cloud_colour, .ref h_t_cloud_load, .int t_cloud_size, .int t_cloud_centreX, .int t_cloud_centreY])), (h_t_cloud_x, .inl (cI, 24, .inl t_cloud_x)), (h_t_cloud_y, .inl (cI, 24, .inl t_cloud_y)), (h_t_firstTie, .inr (10, [.ref h_t_firstTie_member, .ref h_t_firstTie_factor, .int t_firstTie_size])), (h_t_firstTie_member, .inl (cI, 4, .inl t_firstTie_member)), (h_t_firstTie_factor, .inl (cL, 4, .inr (.inl t_firstTie_factor)))] sz) := by
  refine Met.ofW (cc := cX11_tie) (maxL := 3) (ret := (some .long)) (by decide) rfl ?_
  intro p e s m args below meth c s₁ B hml hv
  obtain ⟨rfl, hsz, hP, hK, hD0, hT⟩ := hv
  have hx := B.exec
  have hb := B.bytes
  have hr := B.returns
  have hown : s.vm.findClass RX11 = some m.cls := findClass_of_methodNamed B.named
  have hlocks := B.notSynchronized
  have hts := TB.use hT ([.ref h_t, .int a1, .int a2] : List Value).toArray
  subst hsz
  have hD := hD0.self (sz := s.heap.size)
  generalize hAe : va_A [(h_t, .inr (11, [.ref h_t_cloud, .ref h_t_reader, .ref h_t_hull, .ref h_t_near, .ref h_t_firstTie, .ref h_t_reducer, .ref h_t_chooser, .ref h_t_pair, .ref h_t_divider, .ref h_t_depths, .ref h_t_spot])), (h_t_cloud, .inr (0, [.ref h_t_cloud_x, .ref h_t_cloud_y, .ref h_t_cloud_colour, .ref h_t_cloud_load, .int t_cloud_size, .int t_cloud_centreX, .int t_cloud_centreY])), (h_t_cloud_x, .inl (cI, 24, .inl t_cloud_x)), (h_t_cloud_y, .inl (cI, 24, .inl t_cloud_y)), (h_t_firstTie, .inr (10, [.ref h_t_firstTie_member, .ref h_t_firstTie_factor, .int t_firstTie_size])), (h_t_firstTie_member, .inl (cI, 4, .inl t_firstTie_member)), (h_t_firstTie_factor, .inl (cL, 4, .inr (.inl t_firstTie_factor)))] s.heap.size = A at hD ⊢
  have hA : ∀ q : Nat, s.heap.size ≤ q → A q := fun q h => by rw [← hAe]; exact Or.inr h
  clear hAe hD0
  have hl := lv_entry ([.ref h_t, .int a1, .int a2]) (n := 3) (Nat.le_of_ble_eq_true rfl)
  rw [lg_entry_eq]
  generalize (lg_sl ([.ref h_t, .int a1, .int a2]) ++ List.replicate (3 - (lg_sl ([.ref h_t, .int a1, .int a2])).length) Slot.unset).toArray = ls at hl ⊢
  have hl : lv_has ls 3 [(0, .ref h_t), (1, .int a1), (2, .int a2)] := hl
  have hF : 4 ≤ (headSpec [Cond.code yX11_tie cX11_tie 3 (some .long)] ({ frames := 4, cells := 0, slots := 0, locals := 104 })).room.frames := Nat.le_refl _
  have hLo : 104 ≤ (headSpec [Cond.code yX11_tie cX11_tie 3 (some .long)] ({ frames := 4, cells := 0, slots := 0, locals := 104 })).room.locals := Nat.le_refl _
  have C0 : Sx p (headSpec [Cond.code yX11_tie cX11_tie 3 (some .long)] ({ frames := 4, cells := 0, slots := 0, locals := 104 })).room s m ([.ref h_t, .int a1, .int a2] : List Value).toArray c cX11_tie 3 RX11 A dC dI cI cL cB 4 104 := ⟨hx, hb, hml, hown, hts, hK, hT, hA, hF, hLo⟩
  refine startH (A := A) hP (fun H locs hP hS => ?_)
  rw [fX11_tie] at hf
  refine lv_aload_n hx hb dX11_tie_0 rfl (lv_at hl 0 rfl) ?_
  refine va_get (D := (dC, dI)) (ci := 11) (v := .ref h_t_cloud) (C := RX11) (T := TX11) (N := 11) hx hb hts in_X11 hown hK hP 0 rfl rfl 0 (Nat.le_of_ble_eq_true rfl) (hts _ qf_X11_12) (fun _ h9 => h9) rfl dX11_tie_1 ?_
  refine lv_iload_n hx hb dX11_tie_4 rfl (lv_at hl 1 rfl) ?_
  obtain ⟨r_1, hq_2, hf⟩ := b1_some hf
  refine xci (wr := [(h_t, .inr (11, [.ref h_t_cloud, .ref h_t_reader, .ref h_t_hull, .ref h_t_near, .ref h_t_firstTie, .ref h_t_reducer, .ref h_t_chooser, .ref h_t_pair, .ref h_t_divider, .ref h_t_depths, .ref h_t_spot])), (h_t_cloud_x, .inl (cI, 24, .inl t_cloud_x)), (h_t_cloud_y, .inl (cI, 24, .inl t_cloud_y)), (h_t_firstTie, .inr (10, [.ref h_t_firstTie_member, .ref h_t_firstTie_factor, .int t_firstTie_size])), (h_t_firstTie_member, .inl (cI, 4, .inl t_firstTie_member)), (h_t_firstTie_factor, .inl (cL, 4, .inr (.inl t_firstTie_factor)))]) (w2 := [(h_t, .inr (11, [.ref h_t_cloud, .ref h_t_reader, .ref h_t_hull, .ref h_t_near, .ref h_t_firstTie, .ref h_t_reducer, .ref h_t_chooser, .ref h_t_pair, .ref h_t_divider, .ref h_t_depths, .ref h_t_spot])), (h_t_cloud, .inr (0, [.ref h_t_cloud_x, .ref h_t_cloud_y, .ref h_t_cloud_colour, .ref h_t_cloud_load, .int t_cloud_size, .int t_cloud_centreX, .int t_cloud_centreY])), (h_t_cloud_x, .inl (cI, 24, .inl t_cloud_x)), (h_t_cloud_y, .inl (cI, 24, .inl t_cloud_y)), (h_t_firstTie, .inr (10, [.ref h_t_firstTie_member, .ref h_t_firstTie_factor, .int t_firstTie_size])), (h_t_firstTie_member, .inl (cI, 4, .inl t_firstTie_member)), (h_t_firstTie_factor, .inl (cL, 4, .inr (.inl t_firstTie_factor)))]) (va_runV (As := [.int a1]) (rest := []) ⟨hx, hb, hml, hown, hts⟩ (mtX0_hasSet l dC dI cI cL cB K h_t_cloud h_t_cloud_x h_t_cloud_y h_t_cloud_colour h_t_cloud_load H.size t_cloud_size t_cloud_centreX t_cloud_centreY a1 r_1 hq_2) (cwV 1 hts gv_X11_152 rfl rfl rfl hdV_X0_hasSet ⟨Nat.le_trans (Nat.le_of_ble_eq_true rfl) hF, Nat.le_trans (Nat.le_of_ble_eq_true rfl) hLo⟩) (cPreV hK hP hD hT [1] rfl rfl (ci := 0) (q0 := 0) rfl rfl) rfl rfl hl.1 rfl (lv_room (Nat.le_of_ble_eq_true rfl)) dX11_tie_5 ⟨Nat.zero_le _, Nat.zero_le _⟩) hP hD hS hA [1] [0, 2, 3, 4, 5, 6] [0, 6, 1, 2, 3, 4, 5] rfl rfl rfl rfl rfl rfl (fun H locs hP hD hS => ?_)
  refine lv_if_eq (tgt := 37) hx hb dX11_tie_8 (by decide) (fun hc => ?_) (fun hc => ?_)
  · replace hf := it_t (hc) hf
    refine lv_ldc2 (v := (-9223372036854775808 : Int64)) hx hb hown (hts _ qj_X11_131) dX11_tie_37 ?_
    obtain ⟨rfl, rfl, rfl, rfl⟩ := o4 hf
    exact W.lret hx hb hr (fun t ht hW => ⟨⟨_, (), rfl, rfl, by rw [ht]; exact hP, hD⟩, hS.F ht⟩) hS.2.2 dX11_tie_40
  · replace hf := it_f (hc) hf
    refine lv_aload_n hx hb dX11_tie_11 rfl (lv_at hl 0 rfl) ?_
    refine va_get (D := (dC, dI)) (ci := 11) (v := .ref h_t_cloud) (C := RX11) (T := TX11) (N := 11) hx hb hts in_X11 hown hK hP 0 rfl rfl 0 (Nat.le_of_ble_eq_true rfl) (hts _ qf_X11_12) (fun _ h9 => h9) rfl dX11_tie_12 ?_
    refine lv_iload_n hx hb dX11_tie_15 rfl (lv_at hl 2 rfl) ?_
    obtain ⟨r_3, hq_4, hf⟩ := b1_some hf
    refine xci (wr := [(h_t, .inr (11, [.ref h_t_cloud, .ref h_t_reader, .ref h_t_hull, .ref h_t_near, .ref h_t_firstTie, .ref h_t_reducer, .ref h_t_chooser, .ref h_t_pair, .ref h_t_divider, .ref h_t_depths, .ref h_t_spot])), (h_t_cloud_x, .inl (cI, 24, .inl t_cloud_x)), (h_t_cloud_y, .inl (cI, 24, .inl t_cloud_y)), (h_t_firstTie, .inr (10, [.ref h_t_firstTie_member, .ref h_t_firstTie_factor, .int t_firstTie_size])), (h_t_firstTie_member, .inl (cI, 4, .inl t_firstTie_member)), (h_t_firstTie_factor, .inl (cL, 4, .inr (.inl t_firstTie_factor)))]) (w2 := [(h_t, .inr (11, [.ref h_t_cloud, .ref h_t_reader, .ref h_t_hull, .ref h_t_near, .ref h_t_firstTie, .ref h_t_reducer, .ref h_t_chooser, .ref h_t_pair, .ref h_t_divider, .ref h_t_depths, .ref h_t_spot])), (h_t_cloud, .inr (0, [.ref h_t_cloud_x, .ref h_t_cloud_y, .ref h_t_cloud_colour, .ref h_t_cloud_load, .int t_cloud_size, .int t_cloud_centreX, .int t_cloud_centreY])), (h_t_cloud_x, .inl (cI, 24, .inl t_cloud_x)), (h_t_cloud_y, .inl (cI, 24, .inl t_cloud_y)), (h_t_firstTie, .inr (10, [.ref h_t_firstTie_member, .ref h_t_firstTie_factor, .int t_firstTie_size])), (h_t_firstTie_member, .inl (cI, 4, .inl t_firstTie_member)), (h_t_firstTie_factor, .inl (cL, 4, .inr (.inl t_firstTie_factor)))]) (va_runV (As := [.int a2]) (rest := []) ⟨hx, hb, hml, hown, hts⟩ (mtX0_has l dC dI cI cL cB K h_t_cloud h_t_cloud_x h_t_cloud_y h_t_cloud_colour h_t_cloud_load H.size t_cloud_size t_cloud_centreX t_cloud_centreY a2 r_3 hq_4) (cwV 1 hts gv_X11_128 rfl rfl rfl hdV_X0_has ⟨Nat.le_trans (Nat.le_of_ble_eq_true rfl) hF, Nat.le_trans (Nat.le_of_ble_eq_true rfl) hLo⟩) (cPreV hK hP hD hT [1] rfl rfl (ci := 0) (q0 := 0) rfl rfl) rfl rfl hl.1 rfl (lv_room (Nat.le_of_ble_eq_true rfl)) dX11_tie_16 ⟨Nat.zero_le _, Nat.zero_le _⟩) hP hD hS hA [1] [0, 2, 3, 4, 5, 6] [0, 6, 1, 2, 3, 4, 5] rfl rfl rfl rfl rfl rfl (fun H locs hP hD hS => ?_)
    refine lv_if_eq (tgt := 37) hx hb dX11_tie_19 (by decide) (fun hc => ?_) (fun hc => ?_)
    · replace hf := it_t (hc) hf
      refine lv_ldc2 (v := (-9223372036854775808 : Int64)) hx hb hown (hts _ qj_X11_131) dX11_tie_37 ?_
      obtain ⟨rfl, rfl, rfl, rfl⟩ := o4 hf
      exact W.lret hx hb hr (fun t ht hW => ⟨⟨_, (), rfl, rfl, by rw [ht]; exact hP, hD⟩, hS.F ht⟩) hS.2.2 dX11_tie_40
    · replace hf := it_f (hc) hf
      refine lv_aload_n hx hb dX11_tie_22 rfl (lv_at hl 0 rfl) ?_
      refine va_get (D := (dC, dI)) (ci := 11) (v := .ref h_t_firstTie) (C := RX11) (T := TX11) (N := 11) hx hb hts in_X11 hown hK hP 0 rfl rfl 4 (Nat.le_of_ble_eq_true rfl) (hts _ qf_X11_42) (fun _ h9 => h9) rfl dX11_tie_23 ?_
      refine lv_aload_n hx hb dX11_tie_26 rfl (lv_at hl 0 rfl) ?_
      refine va_get (D := (dC, dI)) (ci := 11) (v := .ref h_t_cloud) (C := RX11) (T := TX11) (N := 11) hx hb hts in_X11 hown hK hP 0 rfl rfl 0 (Nat.le_of_ble_eq_true rfl) (hts _ qf_X11_12) (fun _ h9 => h9) rfl dX11_tie_27 ?_
      refine lv_iload_n hx hb dX11_tie_30 rfl (lv_at hl 1 rfl) ?_
      obtain ⟨r_5, t_firstTie_size_6, t_firstTie_member_7, t_firstTie_factor_8, hq_9, hf⟩ := b4_some hf
      refine xci (wr := [(h_t, .inr (11, [.ref h_t_cloud, .ref h_t_reader, .ref h_t_hull, .ref h_t_near, .ref h_t_firstTie, .ref h_t_reducer, .ref h_t_chooser, .ref h_t_pair, .ref h_t_divider, .ref h_t_depths, .ref h_t_spot]))]) (w2 := [(h_t, .inr (11, [.ref h_t_cloud, .ref h_t_reader, .ref h_t_hull, .ref h_t_near, .ref h_t_firstTie, .ref h_t_reducer, .ref h_t_chooser, .ref h_t_pair, .ref h_t_divider, .ref h_t_depths, .ref h_t_spot])), (h_t_cloud, .inr (0, [.ref h_t_cloud_x, .ref h_t_cloud_y, .ref h_t_cloud_colour, .ref h_t_cloud_load, .int t_cloud_size, .int t_cloud_centreX, .int t_cloud_centreY])), (h_t_cloud_x, .inl (cI, 24, .inl t_cloud_x)), (h_t_cloud_y, .inl (cI, 24, .inl t_cloud_y)), (h_t_firstTie, .inr (10, [.ref h_t_firstTie_member, .ref h_t_firstTie_factor, .int t_firstTie_size_6])), (h_t_firstTie_member, .inl (cI, 4, .inl t_firstTie_member_7)), (h_t_firstTie_factor, .inl (cL, 4, .inr (.inl t_firstTie_factor_8)))]) (va_runV (As := [.ref h_t_cloud, .int a1]) (rest := []) ⟨hx, hb, hml, hown, hts⟩ (mtX10_find l dC dI cI cL cB K h_t_firstTie h_t_firstTie_member h_t_firstTie_factor h_t_cloud h_t_cloud_x h_t_cloud_y h_t_cloud_colour h_t_cloud_load H.size t_firstTie_size t_firstTie_member t_firstTie_factor t_cloud_size t_cloud_centreX t_cloud_centreY t_cloud_x t_cloud_y a1 r_5 t_firstTie_size_6 t_firstTie_member_7 t_firstTie_factor_8 hq_9) (cwV 2 hts gv_X11_212 rfl rfl rfl hdV_X10_find ⟨Nat.le_trans (Nat.le_of_ble_eq_true rfl) hF, Nat.le_trans (Nat.le_of_ble_eq_true rfl) hLo⟩) (cPreV hK hP hD hT [4, 5, 6, 1, 2, 3] rfl rfl (ci := 10) (q0 := 0) rfl rfl) rfl rfl hl.1 rfl (lv_room (Nat.le_of_ble_eq_true rfl)) dX11_tie_31 ⟨Nat.zero_le _, Nat.zero_le _⟩) hP hD hS hA [4, 5, 6, 1, 2, 3] [0] [0, 4, 5, 6, 1, 2, 3] rfl rfl rfl rfl rfl rfl (fun H locs hP hD hS => ?_)
      refine lv_if_ne (tgt := 41) hx hb dX11_tie_34 (by decide) (fun hc => ?_) (fun hc => ?_)
      · replace hf := it_f (hc) hf
        refine lv_aload_n hx hb dX11_tie_41 rfl (lv_at hl 0 rfl) ?_
        refine va_get (D := (dC, dI)) (ci := 11) (v := .ref h_t_firstTie) (C := RX11) (T := TX11) (N := 11) hx hb hts in_X11 hown hK hP 0 rfl rfl 4 (Nat.le_of_ble_eq_true rfl) (hts _ qf_X11_42) (fun _ h9 => h9) rfl dX11_tie_42 ?_
        refine lv_iload_n hx hb dX11_tie_45 rfl (lv_at hl 2 rfl) ?_
        obtain ⟨r_10, hq_11, hf⟩ := b1_some hf
        refine xcl (wr := [(h_t, .inr (11, [.ref h_t_cloud, .ref h_t_reader, .ref h_t_hull, .ref h_t_near, .ref h_t_firstTie, .ref h_t_reducer, .ref h_t_chooser, .ref h_t_pair, .ref h_t_divider, .ref h_t_depths, .ref h_t_spot])), (h_t_cloud, .inr (0, [.ref h_t_cloud_x, .ref h_t_cloud_y, .ref h_t_cloud_colour, .ref h_t_cloud_load, .int t_cloud_size, .int t_cloud_centreX, .int t_cloud_centreY])), (h_t_cloud_x, .inl (cI, 24, .inl t_cloud_x)), (h_t_cloud_y, .inl (cI, 24, .inl t_cloud_y))]) (w2 := [(h_t, .inr (11, [.ref h_t_cloud, .ref h_t_reader, .ref h_t_hull, .ref h_t_near, .ref h_t_firstTie, .ref h_t_reducer, .ref h_t_chooser, .ref h_t_pair, .ref h_t_divider, .ref h_t_depths, .ref h_t_spot])), (h_t_cloud, .inr (0, [.ref h_t_cloud_x, .ref h_t_cloud_y, .ref h_t_cloud_colour, .ref h_t_cloud_load, .int t_cloud_size, .int t_cloud_centreX, .int t_cloud_centreY])), (h_t_cloud_x, .inl (cI, 24, .inl t_cloud_x)), (h_t_cloud_y, .inl (cI, 24, .inl t_cloud_y)), (h_t_firstTie, .inr (10, [.ref h_t_firstTie_member, .ref h_t_firstTie_factor, .int t_firstTie_size_6])), (h_t_firstTie_member, .inl (cI, 4, .inl t_firstTie_member_7)), (h_t_firstTie_factor, .inl (cL, 4, .inr (.inl t_firstTie_factor_8)))]) (va_runV (As := [.int a2]) (rest := []) ⟨hx, hb, hml, hown, hts⟩ (mtX10_factorOf l dC dI cI cL cB K h_t_firstTie h_t_firstTie_member h_t_firstTie_factor H.size t_firstTie_size_6 t_firstTie_member_7 t_firstTie_factor_8 a2 r_10 hq_11) (cwV 1 hts gv_X11_216 rfl rfl rfl hdV_X10_factorOf ⟨Nat.le_trans (Nat.le_of_ble_eq_true rfl) hF, Nat.le_trans (Nat.le_of_ble_eq_true rfl) hLo⟩) (cPreV hK hP hD hT [4, 5, 6] rfl rfl (ci := 10) (q0 := 0) rfl rfl) rfl rfl hl.1 rfl (lv_room (Nat.le_of_ble_eq_true rfl)) dX11_tie_46 ⟨Nat.zero_le _, Nat.zero_le _⟩) hP hD hS hA [4, 5, 6] [0, 1, 2, 3] [0, 1, 2, 3, 4, 5, 6] rfl rfl rfl rfl rfl rfl (fun H locs hP hD hS => ?_)
        obtain ⟨rfl, rfl, rfl, rfl⟩ := o4 hf
        exact W.lret hx hb hr (fun t ht hW => ⟨⟨_, (), rfl, rfl, by rw [ht]; exact hP, hD⟩, hS.F ht⟩) hS.2.2 dX11_tie_49
      · replace hf := it_t (hc) hf
        refine lv_ldc2 (v := (-9223372036854775808 : Int64)) hx hb hown (hts _ qj_X11_131) dX11_tie_37 ?_
        obtain ⟨rfl, rfl, rfl, rfl⟩ := o4 hf
        exact W.lret hx hb hr (fun t ht hW => ⟨⟨_, (), rfl, rfl, by rw [ht]; exact hP, hD⟩, hS.F ht⟩) hS.2.2 dX11_tie_40
theorem dX6_put_0 : decode cX6_put 0 = .ok (.lload_n 1, 1) := by decide +kernel
theorem dX6_put_1 : decode cX6_put 1 = .ok (.lload_n 3, 1) := by decide +kernel
theorem dX6_put_2 : decode cX6_put 2 = .ok (.invokestatic 13, 3) := by decide +kernel
theorem dX6_put_5 : decode cX6_put 5 = .ok (.lload 5, 2) := by decide +kernel
theorem dX6_put_7 : decode cX6_put 7 = .ok (.invokestatic 13, 3) := by decide +kernel
theorem dX6_put_10 : decode cX6_put 10 = .ok (.lstore 7, 2) := by decide +kernel
theorem dX6_put_12 : decode cX6_put 12 = .ok (.lload 5, 2) := by decide +kernel
theorem dX6_put_14 : decode cX6_put 14 = .ok (.lconst 0, 1) := by decide +kernel
theorem dX6_put_15 : decode cX6_put 15 = .ok (.lcmp, 1) := by decide +kernel
theorem dX6_put_16 : decode cX6_put 16 = .ok (.ifCond .eq 10, 3) := by decide +kernel
theorem dX6_put_19 : decode cX6_put 19 = .ok (.lload 7, 2) := by decide +kernel
theorem dX6_put_21 : decode cX6_put 21 = .ok (.lconst 0, 1) := by decide +kernel
theorem dX6_put_22 : decode cX6_put 22 = .ok (.lcmp, 1) := by decide +kernel
theorem dX6_put_23 : decode cX6_put 23 = .ok (.ifCond .ne 4, 3) := by decide +kernel
theorem dX6_put_26 : decode cX6_put 26 = .ok (.return_, 1) := by decide +kernel
theorem dX6_put_27 : decode cX6_put 27 = .ok (.lload 5, 2) := by decide +kernel
theorem dX6_put_29 : decode cX6_put 29 = .ok (.lconst 0, 1) := by decide +kernel
theorem dX6_put_30 : decode cX6_put 30 = .ok (.lcmp, 1) := by decide +kernel
theorem dX6_put_31 : decode cX6_put 31 = .ok (.ifCond .ge 8, 3) := by decide +kernel
theorem dX6_put_34 : decode cX6_put 34 = .ok (.lload 7, 2) := by decide +kernel
theorem dX6_put_36 : decode cX6_put 36 = .ok (.lneg, 1) := by decide +kernel
theorem dX6_put_37 : decode cX6_put 37 = .ok (.lstore 7, 2) := by decide +kernel
theorem dX6_put_39 : decode cX6_put 39 = .ok (.aload_n 0, 1) := by decide +kernel
theorem dX6_put_40 : decode cX6_put 40 = .ok (.lload_n 1, 1) := by decide +kernel
theorem dX6_put_41 : decode cX6_put 41 = .ok (.lload 7, 2) := by decide +kernel
theorem dX6_put_43 : decode cX6_put 43 = .ok (.ldiv, 1) := by decide +kernel
theorem dX6_put_44 : decode cX6_put 44 = .ok (.putfield 19, 3) := by decide +kernel
theorem dX6_put_47 : decode cX6_put 47 = .ok (.aload_n 0, 1) := by decide +kernel
theorem dX6_put_48 : decode cX6_put 48 = .ok (.lload_n 3, 1) := by decide +kernel
theorem dX6_put_49 : decode cX6_put 49 = .ok (.lload 7, 2) := by decide +kernel
theorem dX6_put_51 : decode cX6_put 51 = .ok (.ldiv, 1) := by decide +kernel
theorem dX6_put_52 : decode cX6_put 52 = .ok (.putfield 22, 3) := by decide +kernel
theorem dX6_put_55 : decode cX6_put 55 = .ok (.aload_n 0, 1) := by decide +kernel
theorem dX6_put_56 : decode cX6_put 56 = .ok (.lload 5, 2) := by decide +kernel
theorem dX6_put_58 : decode cX6_put 58 = .ok (.lload 7, 2) := by decide +kernel
theorem dX6_put_60 : decode cX6_put 60 = .ok (.ldiv, 1) := by decide +kernel
theorem dX6_put_61 : decode cX6_put 61 = .ok (.putfield 7, 3) := by decide +kernel
theorem dX6_put_64 : decode cX6_put 64 = .ok (.return_, 1) := by decide +kernel
set_option maxRecDepth 100000 in
set_option maxHeartbeats 4000000 in
theorem mtX6_put (l : Launch) (dC : Nat → ClassId) (dI : Nat → Nat → Nat) (cI cL cB : ClassId) (K : Nat) (h_t : Nat) (sz : Nat) (t_x : Int64) (t_y : Int64) (t_lower : Int64) (a1 : Int64) (a3 : Int64) (a5 : Int64) (o_t_x : Int64) (o_t_y : Int64) (o_t_lower : Int64) (hf : fX6_put K t_x t_y t_lower a1 a3 a5 = some (o_t_x, o_t_y, o_t_lower)) : Met l yX6_put [Cond.code yX6_put cX6_put 9 none] ({ frames := 2, cells := 0, slots := 0, locals := 45 }) (va_Pc [.ref h_t, .long a1, .long a3, .long a5] (cPre dC dI cI cL cB sz [(h_t, .inr (6, [.long t_x, .long t_y, .long t_lower]))])) (cQv dC dI (va_A [(h_t, .inr (6, [.long t_x, .long t_y, .long t_lower]))] sz) [(h_t, .inr (6, [.long o_t_x, .long o_t_y, .long o_t_lower]))]) 0 0 (va_A [(h_t, .inr (6, [.long t_x, .long t_y, .long t_lower]))] sz) := by
  refine Met.ofW (cc := cX6_put) (maxL := 9) (ret := none) (by decide) rfl ?_
  intro p e s m args below meth c s₁ B hml hv
  obtain ⟨rfl, hsz, hP, hK, hD0, hT⟩ := hv
  have hx := B.exec
  have hb := B.bytes
  have hr := B.returns
  have hown : s.vm.findClass RX6 = some m.cls := findClass_of_methodNamed B.named
  have hlocks := B.notSynchronized
  have hts := TB.use hT ([.ref h_t, .long a1, .long a3, .long a5] : List Value).toArray
  subst hsz
  have hD := hD0.self (sz := s.heap.size)
  generalize hAe : va_A [(h_t, .inr (6, [.long t_x, .long t_y, .long t_lower]))] s.heap.size = A at hD ⊢
  have hA : ∀ q : Nat, s.heap.size ≤ q → A q := fun q h => by rw [← hAe]; exact Or.inr h
  clear hAe hD0
  have hl := lv_entry ([.ref h_t, .long a1, .long a3, .long a5]) (n := 9) (Nat.le_of_ble_eq_true rfl)
  rw [lg_entry_eq]
  generalize (lg_sl ([.ref h_t, .long a1, .long a3, .long a5]) ++ List.replicate (9 - (lg_sl ([.ref h_t, .long a1, .long a3, .long a5])).length) Slot.unset).toArray = ls at hl ⊢
  have hl : lv_has ls 9 [(0, .ref h_t), (1, .long a1), (3, .long a3), (5, .long a5)] := hl
  have hF : 2 ≤ (headSpec [Cond.code yX6_put cX6_put 9 none] ({ frames := 2, cells := 0, slots := 0, locals := 45 })).room.frames := Nat.le_refl _
  have hLo : 45 ≤ (headSpec [Cond.code yX6_put cX6_put 9 none] ({ frames := 2, cells := 0, slots := 0, locals := 45 })).room.locals := Nat.le_refl _
  have C0 : Sx p (headSpec [Cond.code yX6_put cX6_put 9 none] ({ frames := 2, cells := 0, slots := 0, locals := 45 })).room s m ([.ref h_t, .long a1, .long a3, .long a5] : List Value).toArray c cX6_put 9 RX6 A dC dI cI cL cB 2 45 := ⟨hx, hb, hml, hown, hts, hK, hT, hA, hF, hLo⟩
  refine startH (A := A) hP (fun H locs hP hS => ?_)
  rw [fX6_put] at hf
  refine lv_lload_n hx hb dX6_put_0 rfl (lv_at hl 1 rfl) ?_
  refine lv_lload_n hx hb dX6_put_1 rfl (lv_at hl 2 rfl) ?_
  obtain ⟨r_1, hq_2, hf⟩ := b1_some hf
  refine xcl (wr := [(h_t, .inr (6, [.long t_x, .long t_y, .long t_lower]))]) (w2 := [(h_t, .inr (6, [.long t_x, .long t_y, .long t_lower]))]) (va_runSN (As := [.long a1, .long a3]) (rest := []) ⟨hx, hb, hml, hown, hts⟩ (mtX11_gcd l dC dI cI cL cB K H.size a1 a3 r_1 hq_2) ⟨va_cnB 2 hts (gcode qc_X11_gcd) rfl rfl rfl (hT _ qm_X6_13) (hts _ qz_X11) hdS_X11_gcd ⟨Nat.le_trans (Nat.le_of_ble_eq_true rfl) hF, Nat.le_trans (Nat.le_of_ble_eq_true rfl) hLo⟩, hts _ qt_X11_gcd, trivial⟩ (cPreS hK hP hD hT [] rfl rfl) rfl rfl hl.1 rfl (lv_room (Nat.le_of_ble_eq_true rfl)) dX6_put_2 ⟨Nat.zero_le _, Nat.zero_le _⟩) hP hD hS hA [] [0] [0] rfl rfl rfl rfl rfl rfl (fun H locs hP hD hS => ?_)
  refine lv_lload hx hb dX6_put_5 (lv_at hl 3 rfl) ?_
  obtain ⟨r_3, hq_4, hf⟩ := b1_some hf
  refine xcl (wr := [(h_t, .inr (6, [.long t_x, .long t_y, .long t_lower]))]) (w2 := [(h_t, .inr (6, [.long t_x, .long t_y, .long t_lower]))]) (va_runSN (As := [.long r_1, .long a5]) (rest := []) ⟨hx, hb, hml, hown, hts⟩ (mtX11_gcd l dC dI cI cL cB K H.size r_1 a5 r_3 hq_4) ⟨va_cnB 2 hts (gcode qc_X11_gcd) rfl rfl rfl (hT _ qm_X6_13) (hts _ qz_X11) hdS_X11_gcd ⟨Nat.le_trans (Nat.le_of_ble_eq_true rfl) hF, Nat.le_trans (Nat.le_of_ble_eq_true rfl) hLo⟩, hts _ qt_X11_gcd, trivial⟩ (cPreS hK hP hD hT [] rfl rfl) rfl rfl hl.1 rfl (lv_room (Nat.le_of_ble_eq_true rfl)) dX6_put_7 ⟨Nat.zero_le _, Nat.zero_le _⟩) hP hD hS hA [] [0] [0] rfl rfl rfl rfl rfl rfl (fun H locs hP hD hS => ?_)
  refine lv_lstore (lv' := [(7, .long r_3), (0, .ref h_t), (1, .long a1), (3, .long a3), (5, .long a5)]) hx hb dX6_put_10 hl (Nat.le_of_ble_eq_true rfl) rfl (fun ls hl => ?_)
  refine lv_lload hx hb dX6_put_12 (lv_at hl 4 rfl) ?_
  refine lv_lconst (v := (0 : Int64)) hx hb dX6_put_14 (by decide) ?_
  refine W.lcmp hx hb dX6_put_15 ?_
  refine lv_if_eq (tgt := 26) hx hb dX6_put_16 (by decide) (fun hc => ?_) (fun hc => ?_)
  · replace hf := it_t ((lg_cmp_eq _ _).mp hc) hf
    obtain ⟨rfl, rfl, rfl⟩ := o3 hf
    exact W.vret hx hb hr (fun t ht hW => ⟨⟨(), rfl, trivial, by rw [ht]; exact hP, hD⟩, hS.F ht⟩) hS.2.2 dX6_put_26
  · replace hf := it_f (fun h9 => hc ((lg_cmp_eq _ _).mpr h9)) hf
    refine lv_lload hx hb dX6_put_19 (lv_at hl 0 rfl) ?_
    refine lv_lconst (v := (0 : Int64)) hx hb dX6_put_21 (by decide) ?_
    refine W.lcmp hx hb dX6_put_22 ?_
    refine lv_if_ne (tgt := 27) hx hb dX6_put_23 (by decide) (fun hc => ?_) (fun hc => ?_)
    · replace hf := it_f (fun h9 => hc ((lg_cmp_eq _ _).mpr h9)) hf
      refine lv_lload hx hb dX6_put_27 (lv_at hl 4 rfl) ?_
      refine lv_lconst (v := (0 : Int64)) hx hb dX6_put_29 (by decide) ?_
      refine W.lcmp hx hb dX6_put_30 ?_
      obtain ⟨k_6, ek_6, hf⟩ := jn_out hf
      have J_7 : ∀ (l7_5 : Int64) (H : Heap) (locs : List Loc) (ls : Array Slot), va_P (dC, dI) vwCl [(h_t, .inr (6, [.long t_x, .long t_y, .long t_lower]))] H → va_D A [(h_t, .inr (6, [.long t_x, .long t_y, .long t_lower]))] → va_S A s.heap H locs → lv_has ls 9 [(0, .ref h_t), (1, .long a1), (3, .long a3), (5, .long a5), (7, .long l7_5)] → k_6 l7_5 = some (o_t_x, o_t_y, o_t_lower) → W p l e (headSpec [Cond.code yX6_put cX6_put 9 none] ({ frames := 2, cells := 0, slots := 0, locals := 45 })).room s m ([.ref h_t, .long a1, .long a3, .long a5] : List Value).toArray below meth c H locs 0 0 (MQ below (cQv dC dI A [(h_t, .inr (6, [.long o_t_x, .long o_t_y, .long o_t_lower]))]) ([.ref h_t, .long a1, .long a3, .long a5] : List Value).toArray s 0 0 A) (F0 m 39 ls []) := by
        intro l7_5 H locs ls hP hD hS hl hf
        rw [ek_6] at hf
        try dsimp only at hf
        refine lv_aload_n hx hb dX6_put_39 rfl (lv_at hl 0 rfl) ?_
        refine lv_lload_n hx hb dX6_put_40 rfl (lv_at hl 1 rfl) ?_
        refine lv_lload hx hb dX6_put_41 (lv_at hl 4 rfl) ?_
        obtain ⟨hg_8, hf⟩ := gd_some hf
        refine lv_ldiv hx hb dX6_put_43 (nz_ne hg_8) ?_
        refine lv_topl (fun f_x_9 ef_x_9 => ?_)
        replace hf := xl_at hf ef_x_9
        refine xput (D := (dC, dI)) (ci := 6) (v := .long f_x_9) (C := RX6) (T := TX6) (N := 3) (w2 := [(h_t, .inr (6, [.long f_x_9, .long t_y, .long t_lower]))]) hx hb hts in_X6 tyX6 tyX6_ok nmX6 hown hK hP hD hS 0 rfl rfl 0 (Nat.le_of_ble_eq_true rfl) (hts _ qf_X6_19) (fun _ h9 => h9) rfl rfl rfl (Nat.le_of_ble_eq_true rfl) rfl dX6_put_44 (fun H locs hP hD hS => ?_)
        refine lv_aload_n hx hb dX6_put_47 rfl (lv_at hl 0 rfl) ?_
        refine lv_lload_n hx hb dX6_put_48 rfl (lv_at hl 2 rfl) ?_
        refine lv_lload hx hb dX6_put_49 (lv_at hl 4 rfl) ?_
        obtain ⟨hg_10, hf⟩ := gd_some hf
        refine lv_ldiv hx hb dX6_put_51 (nz_ne hg_10) ?_
        refine lv_topl (fun f_y_11 ef_y_11 => ?_)
        replace hf := xl_at hf ef_y_11
        refine xput (D := (dC, dI)) (ci := 6) (v := .long f_y_11) (C := RX6) (T := TX6) (N := 3) (w2 := [(h_t, .inr (6, [.long f_x_9, .long f_y_11, .long t_lower]))]) hx hb hts in_X6 tyX6 tyX6_ok nmX6 hown hK hP hD hS 0 rfl rfl 1 (Nat.le_of_ble_eq_true rfl) (hts _ qf_X6_22) (fun _ h9 => h9) rfl rfl rfl (Nat.le_of_ble_eq_true rfl) rfl dX6_put_52 (fun H locs hP hD hS => ?_)
        refine lv_aload_n hx hb dX6_put_55 rfl (lv_at hl 0 rfl) ?_
        refine lv_lload hx hb dX6_put_56 (lv_at hl 3 rfl) ?_
        refine lv_lload hx hb dX6_put_58 (lv_at hl 4 rfl) ?_
        obtain ⟨hg_12, hf⟩ := gd_some hf
        refine lv_ldiv hx hb dX6_put_60 (nz_ne hg_12) ?_
        refine lv_topl (fun f_lower_13 ef_lower_13 => ?_)
        replace hf := xl_at hf ef_lower_13
        refine xput (D := (dC, dI)) (ci := 6) (v := .long f_lower_13) (C := RX6) (T := TX6) (N := 3) (w2 := [(h_t, .inr (6, [.long f_x_9, .long f_y_11, .long f_lower_13]))]) hx hb hts in_X6 tyX6 tyX6_ok nmX6 hown hK hP hD hS 0 rfl rfl 2 (Nat.le_of_ble_eq_true rfl) (hts _ qf_X6_7) (fun _ h9 => h9) rfl rfl rfl (Nat.le_of_ble_eq_true rfl) rfl dX6_put_61 (fun H locs hP hD hS => ?_)
        obtain ⟨rfl, rfl, rfl⟩ := o3 hf
        exact W.vret hx hb hr (fun t ht hW => ⟨⟨(), rfl, trivial, by rw [ht]; exact hP, hD⟩, hS.F ht⟩) hS.2.2 dX6_put_64
      refine lv_if_ge (tgt := 39) hx hb dX6_put_31 (by decide) (fun hc => ?_) (fun hc => ?_)
      · replace hf := it_t ((lg_cmp_ge _ _).mp hc) hf
        exact J_7 r_3 H locs ls hP hD hS (lv_sub hl [1, 2, 3, 4, 0] rfl) hf
      · replace hf := it_f (fun h9 => hc ((lg_cmp_ge _ _).mpr h9)) hf
        refine lv_lload hx hb dX6_put_34 (lv_at hl 0 rfl) ?_
        refine lv_lneg hx hb dX6_put_36 ?_
        refine lv_topl (fun l7_14 el7_14 => ?_)
        replace hf := xl_at hf el7_14
        refine lv_lstore (lv' := [(7, .long l7_14), (0, .ref h_t), (1, .long a1), (3, .long a3), (5, .long a5)]) hx hb dX6_put_37 hl (Nat.le_of_ble_eq_true rfl) rfl (fun ls hl => ?_)
        exact J_7 l7_14 H locs ls hP hD hS (lv_sub hl [1, 2, 3, 4, 0] rfl) hf
    · replace hf := it_t ((lg_cmp_eq _ _).mp hc) hf
      obtain ⟨rfl, rfl, rfl⟩ := o3 hf
      exact W.vret hx hb hr (fun t ht hW => ⟨⟨(), rfl, trivial, by rw [ht]; exact hP, hD⟩, hS.F ht⟩) hS.2.2 dX6_put_26
theorem dX10_locate_0 : decode cX10_locate 0 = .ok (.lconst 0, 1) := by decide +kernel
theorem dX10_locate_1 : decode cX10_locate 1 = .ok (.lstore_n 3, 1) := by decide +kernel
theorem dX10_locate_2 : decode cX10_locate 2 = .ok (.lconst 0, 1) := by decide +kernel
theorem dX10_locate_3 : decode cX10_locate 3 = .ok (.lstore 5, 2) := by decide +kernel
theorem dX10_locate_5 : decode cX10_locate 5 = .ok (.lconst 0, 1) := by decide +kernel
theorem dX10_locate_6 : decode cX10_locate 6 = .ok (.lstore 7, 2) := by decide +kernel
theorem dX10_locate_8 : decode cX10_locate 8 = .ok (.iconst 0, 1) := by decide +kernel
theorem dX10_locate_9 : decode cX10_locate 9 = .ok (.istore 9, 2) := by decide +kernel
theorem dX10_locate_11 : decode cX10_locate 11 = .ok (.iload 9, 2) := by decide +kernel
theorem dX10_locate_13 : decode cX10_locate 13 = .ok (.aload_n 0, 1) := by decide +kernel
theorem dX10_locate_14 : decode cX10_locate 14 = .ok (.getfield 17, 3) := by decide +kernel
theorem dX10_locate_17 : decode cX10_locate 17 = .ok (.if_icmp .ge 83, 3) := by decide +kernel
theorem dX10_locate_20 : decode cX10_locate 20 = .ok (.aload_n 0, 1) := by decide +kernel
theorem dX10_locate_21 : decode cX10_locate 21 = .ok (.getfield 13, 3) := by decide +kernel
theorem dX10_locate_24 : decode cX10_locate 24 = .ok (.iload 9, 2) := by decide +kernel
theorem dX10_locate_26 : decode cX10_locate 26 = .ok (.laload, 1) := by decide +kernel
theorem dX10_locate_27 : decode cX10_locate 27 = .ok (.lconst 0, 1) := by decide +kernel
theorem dX10_locate_28 : decode cX10_locate 28 = .ok (.lcmp, 1) := by decide +kernel
theorem dX10_locate_29 : decode cX10_locate 29 = .ok (.ifCond .le 65, 3) := by decide +kernel
theorem dX10_locate_32 : decode cX10_locate 32 = .ok (.lload_n 3, 1) := by decide +kernel
theorem dX10_locate_33 : decode cX10_locate 33 = .ok (.aload_n 0, 1) := by decide +kernel
theorem dX10_locate_34 : decode cX10_locate 34 = .ok (.getfield 13, 3) := by decide +kernel
theorem dX10_locate_37 : decode cX10_locate 37 = .ok (.iload 9, 2) := by decide +kernel
theorem dX10_locate_39 : decode cX10_locate 39 = .ok (.laload, 1) := by decide +kernel
theorem dX10_locate_40 : decode cX10_locate 40 = .ok (.aload_n 1, 1) := by decide +kernel
theorem dX10_locate_41 : decode cX10_locate 41 = .ok (.getfield 48, 3) := by decide +kernel
theorem dX10_locate_44 : decode cX10_locate 44 = .ok (.aload_n 0, 1) := by decide +kernel
theorem dX10_locate_45 : decode cX10_locate 45 = .ok (.getfield 9, 3) := by decide +kernel
theorem dX10_locate_48 : decode cX10_locate 48 = .ok (.iload 9, 2) := by decide +kernel
theorem dX10_locate_50 : decode cX10_locate 50 = .ok (.iaload, 1) := by decide +kernel
theorem dX10_locate_51 : decode cX10_locate 51 = .ok (.iaload, 1) := by decide +kernel
theorem dX10_locate_52 : decode cX10_locate 52 = .ok (.i2l, 1) := by decide +kernel
theorem dX10_locate_53 : decode cX10_locate 53 = .ok (.lmul, 1) := by decide +kernel
theorem dX10_locate_54 : decode cX10_locate 54 = .ok (.ladd, 1) := by decide +kernel
theorem dX10_locate_55 : decode cX10_locate 55 = .ok (.lstore_n 3, 1) := by decide +kernel
theorem dX10_locate_56 : decode cX10_locate 56 = .ok (.lload 5, 2) := by decide +kernel
theorem dX10_locate_58 : decode cX10_locate 58 = .ok (.aload_n 0, 1) := by decide +kernel
theorem dX10_locate_59 : decode cX10_locate 59 = .ok (.getfield 13, 3) := by decide +kernel
theorem dX10_locate_62 : decode cX10_locate 62 = .ok (.iload 9, 2) := by decide +kernel
theorem dX10_locate_64 : decode cX10_locate 64 = .ok (.laload, 1) := by decide +kernel
theorem dX10_locate_65 : decode cX10_locate 65 = .ok (.aload_n 1, 1) := by decide +kernel
theorem dX10_locate_66 : decode cX10_locate 66 = .ok (.getfield 51, 3) := by decide +kernel
theorem dX10_locate_69 : decode cX10_locate 69 = .ok (.aload_n 0, 1) := by decide +kernel
theorem dX10_locate_70 : decode cX10_locate 70 = .ok (.getfield 9, 3) := by decide +kernel
theorem dX10_locate_73 : decode cX10_locate 73 = .ok (.iload 9, 2) := by decide +kernel
theorem dX10_locate_75 : decode cX10_locate 75 = .ok (.iaload, 1) := by decide +kernel
theorem dX10_locate_76 : decode cX10_locate 76 = .ok (.iaload, 1) := by decide +kernel
theorem dX10_locate_77 : decode cX10_locate 77 = .ok (.i2l, 1) := by decide +kernel
theorem dX10_locate_78 : decode cX10_locate 78 = .ok (.lmul, 1) := by decide +kernel
theorem dX10_locate_79 : decode cX10_locate 79 = .ok (.ladd, 1) := by decide +kernel
theorem dX10_locate_80 : decode cX10_locate 80 = .ok (.lstore 5, 2) := by decide +kernel
theorem dX10_locate_82 : decode cX10_locate 82 = .ok (.lload 7, 2) := by decide +kernel
theorem dX10_locate_84 : decode cX10_locate 84 = .ok (.aload_n 0, 1) := by decide +kernel
theorem dX10_locate_85 : decode cX10_locate 85 = .ok (.getfield 13, 3) := by decide +kernel
theorem dX10_locate_88 : decode cX10_locate 88 = .ok (.iload 9, 2) := by decide +kernel
theorem dX10_locate_90 : decode cX10_locate 90 = .ok (.laload, 1) := by decide +kernel
theorem dX10_locate_91 : decode cX10_locate 91 = .ok (.ladd, 1) := by decide +kernel
theorem dX10_locate_92 : decode cX10_locate 92 = .ok (.lstore 7, 2) := by decide +kernel
theorem dX10_locate_94 : decode cX10_locate 94 = .ok (.iinc 9 1, 3) := by decide +kernel
theorem dX10_locate_97 : decode cX10_locate 97 = .ok (.goto (-86), 3) := by decide +kernel
theorem dX10_locate_100 : decode cX10_locate 100 = .ok (.aload_n 2, 1) := by decide +kernel
theorem dX10_locate_101 : decode cX10_locate 101 = .ok (.lload_n 3, 1) := by decide +kernel
theorem dX10_locate_102 : decode cX10_locate 102 = .ok (.lload 5, 2) := by decide +kernel
theorem dX10_locate_104 : decode cX10_locate 104 = .ok (.lload 7, 2) := by decide +kernel
theorem dX10_locate_106 : decode cX10_locate 106 = .ok (.invokevirtual 66, 3) := by decide +kernel
theorem dX10_locate_109 : decode cX10_locate 109 = .ok (.return_, 1) := by decide +kernel
set_option maxRecDepth 100000 in
set_option maxHeartbeats 4000000 in
theorem wX10_locate_L11 {p : Program} {l : Launch} {e : Env} {R : Room} {s : State} {m : MethodId} {args : Array Value} {below : List Frame} {meth : Method} {c : Code} {Q : State → Prop} {A : Nat → Prop} {dC : Nat → ClassId} {dI : Nat → Nat → Nat} {cI cL cB : ClassId} {K : Nat} (C0 : Sx p R s m args c cX10_locate 10 RX10 A dC dI cI cL cB 3 73) (h_t h_t_member h_t_factor h_p1 h_p1_x h_p1_y h_p1_colour h_p1_load h_p2 : Nat) (t_size : Int32) (t_member : Nat → Int32) (t_factor : Nat → Int64) (p1_size : Int32) (p1_centreX : Int32) (p1_centreY : Int32) (p1_x : Nat → Int32) (p1_y : Nat → Int32) (p2_x : Int64) (p2_y : Int64) (p2_lower : Int64) : ∀ (n : Nat) (l3 : Int64) (l5 : Int64) (l7 : Int64) (l9 : Int32) (x3_ : Int64) (x5_ : Int64) (x7_ : Int64) (H : Heap) (locs : List Loc) (ls : Array Slot), va_P (dC, dI) vwCl [(h_t, .inr (10, [.ref h_t_member, .ref h_t_factor, .int t_size])), (h_t_member, .inl (cI, 4, .inl t_member)), (h_t_factor, .inl (cL, 4, .inr (.inl t_factor))), (h_p1, .inr (0, [.ref h_p1_x, .ref h_p1_y, .ref h_p1_colour, .ref h_p1_load, .int p1_size, .int p1_centreX, .int p1_centreY])), (h_p1_x, .inl (cI, 24, .inl p1_x)), (h_p1_y, .inl (cI, 24, .inl p1_y)), (h_p2, .inr (6, [.long p2_x, .long p2_y, .long p2_lower]))] H → va_D A [(h_t, .inr (10, [.ref h_t_member, .ref h_t_factor, .int t_size])), (h_t_member, .inl (cI, 4, .inl t_member)), (h_t_factor, .inl (cL, 4, .inr (.inl t_factor))), (h_p1, .inr (0, [.ref h_p1_x, .ref h_p1_y, .ref h_p1_colour, .ref h_p1_load, .int p1_size, .int p1_centreX, .int p1_centreY])), (h_p1_x, .inl (cI, 24, .inl p1_x)), (h_p1_y, .inl (cI, 24, .inl p1_y)), (h_p2, .inr (6, [.long p2_x, .long p2_y, .long p2_lower]))] → va_S A s.heap H locs → lv_has ls 10 [(0, .ref h_t), (1, .ref h_p1), (2, .ref h_p2), (3, .long l3), (5, .long l5), (7, .long l7), (9, .int l9)] → fX10_locate_L11 K t_size t_member t_factor p1_x p1_y n l3 l5 l7 l9 = some (x3_, x5_, x7_) → (∀ (H : Heap) (locs : List Loc) (ls : Array Slot), va_P (dC, dI) vwCl [(h_t, .inr (10, [.ref h_t_member, .ref h_t_factor, .int t_size])), (h_t_member, .inl (cI, 4, .inl t_member)), (h_t_factor, .inl (cL, 4, .inr (.inl t_factor))), (h_p1, .inr (0, [.ref h_p1_x, .ref h_p1_y, .ref h_p1_colour, .ref h_p1_load, .int p1_size, .int p1_centreX, .int p1_centreY])), (h_p1_x, .inl (cI, 24, .inl p1_x)), (h_p1_y, .inl (cI, 24, .inl p1_y)), (h_p2, .inr (6, [.long p2_x, .long p2_y, .long p2_lower]))] H → va_D A [(h_t, .inr (10, [.ref h_t_member, .ref h_t_factor, .int t_size])), (h_t_member, .inl (cI, 4, .inl t_member)), (h_t_factor, .inl (cL, 4, .inr (.inl t_factor))), (h_p1, .inr (0, [.ref h_p1_x, .ref h_p1_y, .ref h_p1_colour, .ref h_p1_load, .int p1_size, .int p1_centreX, .int p1_centreY])), (h_p1_x, .inl (cI, 24, .inl p1_x)), (h_p1_y, .inl (cI, 24, .inl p1_y)), (h_p2, .inr (6, [.long p2_x, .long p2_y, .long p2_lower]))] → va_S A s.heap H locs → lv_has ls 10 [(2, .ref h_p2), (3, .long x3_), (5, .long x5_), (7, .long x7_)] → W p l e R s m args below meth c H locs 0 0 Q (F0 m 100 ls [])) → W p l e R s m args below meth c H locs 0 0 Q (F0 m 11 ls []) := by
  obtain ⟨hx, hb, hml, hown, hts, hK, hT, hA, hF, hLo⟩ := id C0
  intro n
  induction n with
  | zero =>
    intro l3 l5 l7 l9 x3_ x5_ x7_ H locs ls hP hD hS hl hf
    rw [fX10_locate_L11] at hf
    cases hf
  | succ n ih =>
    intro l3 l5 l7 l9 x3_ x5_ x7_ H locs ls hP hD hS hl hf hk
    rw [fX10_locate_L11] at hf
    refine lv_iload hx hb dX10_locate_11 (lv_at hl 6 rfl) ?_
    refine lv_aload_n hx hb dX10_locate_13 rfl (lv_at hl 0 rfl) ?_
    refine va_get (D := (dC, dI)) (ci := 10) (v := .int t_size) (C := RX10) (T := TX10) (N := 3) hx hb hts in_X10 hown hK hP 0 rfl rfl 2 (Nat.le_of_ble_eq_true rfl) (hts _ qf_X10_17) (fun _ h9 => h9) rfl dX10_locate_14 ?_
    refine lv_icmp_ge (tgt := 100) hx hb dX10_locate_17 (by decide) (fun hc => ?_) (fun hc => ?_)
    · replace hf := it_t (hc) hf
      obtain ⟨rfl, rfl, rfl⟩ := o3 hf
      exact hk H locs ls hP hD hS (lv_sub hl [2, 3, 4, 5] rfl)
    · replace hf := it_f (hc) hf
      refine lv_aload_n hx hb dX10_locate_20 rfl (lv_at hl 0 rfl) ?_
      refine va_get (D := (dC, dI)) (ci := 10) (v := .ref h_t_factor) (C := RX10) (T := TX10) (N := 3) hx hb hts in_X10 hown hK hP 0 rfl rfl 1 (Nat.le_of_ble_eq_true rfl) (hts _ qf_X10_13) (fun _ h9 => h9) rfl dX10_locate_21 ?_
      refine lv_iload hx hb dX10_locate_24 (lv_at hl 6 rfl) ?_
      obtain ⟨hg_1, hf⟩ := gd_some hf
      refine va_lald hx hb hK hP 2 1 rfl rfl (inb_in hg_1) dX10_locate_26 ?_
      refine lv_lconst (v := (0 : Int64)) hx hb dX10_locate_27 (by decide) ?_
      refine W.lcmp hx hb dX10_locate_28 ?_
      obtain ⟨k_5, ek_5, hf⟩ := jn_out hf
      have J_6 : ∀ (l3_2 : Int64) (l5_3 : Int64) (l7_4 : Int64) (H : Heap) (locs : List Loc) (ls : Array Slot), va_P (dC, dI) vwCl [(h_t, .inr (10, [.ref h_t_member, .ref h_t_factor, .int t_size])), (h_t_member, .inl (cI, 4, .inl t_member)), (h_t_factor, .inl (cL, 4, .inr (.inl t_factor))), (h_p1, .inr (0, [.ref h_p1_x, .ref h_p1_y, .ref h_p1_colour, .ref h_p1_load, .int p1_size, .int p1_centreX, .int p1_centreY])), (h_p1_x, .inl (cI, 24, .inl p1_x)), (h_p1_y, .inl (cI, 24, .inl p1_y)), (h_p2, .inr (6, [.long p2_x, .long p2_y, .long p2_lower]))] H → va_D A [(h_t, .inr (10, [.ref h_t_member, .ref h_t_factor, .int t_size])), (h_t_member, .inl (cI, 4, .inl t_member)), (h_t_factor, .inl (cL, 4, .inr (.inl t_factor))), (h_p1, .inr (0, [.ref h_p1_x, .ref h_p1_y, .ref h_p1_colour, .ref h_p1_load, .int p1_size, .int p1_centreX, .int p1_centreY])), (h_p1_x, .inl (cI, 24, .inl p1_x)), (h_p1_y, .inl (cI, 24, .inl p1_y)), (h_p2, .inr (6, [.long p2_x, .long p2_y, .long p2_lower]))] → va_S A s.heap H locs → lv_has ls 10 [(0, .ref h_t), (1, .ref h_p1), (2, .ref h_p2), (3, .long l3_2), (5, .long l5_3), (7, .long l7_4), (9, .int l9)] → k_5 l3_2 l5_3 l7_4 = some (x3_, x5_, x7_) → W p l e R s m args below meth c H locs 0 0 Q (F0 m 94 ls []) := by
        intro l3_2 l5_3 l7_4 H locs ls hP hD hS hl hf
        rw [ek_5] at hf
        try dsimp only at hf
        obtain ⟨l9_7, el9_7⟩ : ∃ y : Int32, y = l9 + (1 : Int32) := ⟨_, rfl⟩
        replace hf := xl_at hf el9_7
        refine lv_iinc (v := l9_7) (lv' := [(9, .int l9_7), (0, .ref h_t), (1, .ref h_p1), (2, .ref h_p2), (3, .long l3_2), (5, .long l5_3), (7, .long l7_4)]) hx hb dX10_locate_94 hl (k := 6) rfl (by rw [el9_7]; rfl) (Nat.le_of_ble_eq_true rfl) rfl (fun ls hl => ?_)
        refine lv_goto (tgt := 11) hx hb dX10_locate_97 (by decide) ?_
        exact ih l3_2 l5_3 l7_4 l9_7 _ _ _ H locs ls hP hD hS (lv_sub hl [1, 2, 3, 4, 5, 6, 0] rfl) hf hk
      refine lv_if_le (tgt := 94) hx hb dX10_locate_29 (by decide) (fun hc => ?_) (fun hc => ?_)
      · replace hf := it_t ((lg_cmp_le _ _).mp hc) hf
        exact J_6 l3 l5 l7 H locs ls hP hD hS (lv_sub hl [0, 1, 2, 3, 4, 5, 6] rfl) hf
      · replace hf := it_f (fun h9 => hc ((lg_cmp_le _ _).mpr h9)) hf
        refine lv_lload_n hx hb dX10_locate_32 rfl (lv_at hl 3 rfl) ?_
        refine lv_aload_n hx hb dX10_locate_33 rfl (lv_at hl 0 rfl) ?_
        refine va_get (D := (dC, dI)) (ci := 10) (v := .ref h_t_factor) (C := RX10) (T := TX10) (N := 3) hx hb hts in_X10 hown hK hP 0 rfl rfl 1 (Nat.le_of_ble_eq_true rfl) (hts _ qf_X10_13) (fun _ h9 => h9) rfl dX10_locate_34 ?_
        refine lv_iload hx hb dX10_locate_37 (lv_at hl 6 rfl) ?_
        obtain ⟨hg_8, hf⟩ := gd_some hf
        refine va_lald hx hb hK hP 2 1 rfl rfl (inb_in hg_8) dX10_locate_39 ?_
        refine lv_aload_n hx hb dX10_locate_40 rfl (lv_at hl 1 rfl) ?_
        refine va_get (D := (dC, dI)) (ci := 0) (v := .ref h_p1_x) (C := RX0) (T := TX0) (N := 7) hx hb hts in_X0 hown hK hP 3 rfl rfl 0 (Nat.le_of_ble_eq_true rfl) (hts _ qf_X10_48) (fun _ h9 => h9) rfl dX10_locate_41 ?_
        refine lv_aload_n hx hb dX10_locate_44 rfl (lv_at hl 0 rfl) ?_
        refine va_get (D := (dC, dI)) (ci := 10) (v := .ref h_t_member) (C := RX10) (T := TX10) (N := 3) hx hb hts in_X10 hown hK hP 0 rfl rfl 0 (Nat.le_of_ble_eq_true rfl) (hts _ qf_X10_9) (fun _ h9 => h9) rfl dX10_locate_45 ?_
        refine lv_iload hx hb dX10_locate_48 (lv_at hl 6 rfl) ?_
        obtain ⟨hg_9, hf⟩ := gd_some hf
        refine va_iald hx hb hK hP 1 0 rfl rfl (inb_in hg_9) dX10_locate_50 ?_
        obtain ⟨hg_10, hf⟩ := gd_some hf
        refine va_iald hx hb hK hP 4 0 rfl rfl (inb_in hg_10) dX10_locate_51 ?_
        refine lv_i2l hx hb dX10_locate_52 rfl ?_
        refine lv_lmul hx hb dX10_locate_53 ?_
        refine lv_ladd hx hb dX10_locate_54 ?_
        refine lv_topl (fun l3_11 el3_11 => ?_)
        replace hf := xl_at hf el3_11
        refine lv_lstore_n (lv' := [(3, .long l3_11), (0, .ref h_t), (1, .ref h_p1), (2, .ref h_p2), (5, .long l5), (7, .long l7), (9, .int l9)]) hx hb dX10_locate_55 rfl hl (Nat.le_of_ble_eq_true rfl) rfl (fun ls hl => ?_)
        refine lv_lload hx hb dX10_locate_56 (lv_at hl 4 rfl) ?_
        refine lv_aload_n hx hb dX10_locate_58 rfl (lv_at hl 1 rfl) ?_
        refine va_get (D := (dC, dI)) (ci := 10) (v := .ref h_t_factor) (C := RX10) (T := TX10) (N := 3) hx hb hts in_X10 hown hK hP 0 rfl rfl 1 (Nat.le_of_ble_eq_true rfl) (hts _ qf_X10_13) (fun _ h9 => h9) rfl dX10_locate_59 ?_
        refine lv_iload hx hb dX10_locate_62 (lv_at hl 6 rfl) ?_
        obtain ⟨hg_12, hf⟩ := gd_some hf
        refine va_lald hx hb hK hP 2 1 rfl rfl (inb_in hg_12) dX10_locate_64 ?_
        refine lv_aload_n hx hb dX10_locate_65 rfl (lv_at hl 2 rfl) ?_
        refine va_get (D := (dC, dI)) (ci := 0) (v := .ref h_p1_y) (C := RX0) (T := TX0) (N := 7) hx hb hts in_X0 hown hK hP 3 rfl rfl 1 (Nat.le_of_ble_eq_true rfl) (hts _ qf_X10_51) (fun _ h9 => h9) rfl dX10_locate_66 ?_
        refine lv_aload_n hx hb dX10_locate_69 rfl (lv_at hl 1 rfl) ?_
        refine va_get (D := (dC, dI)) (ci := 10) (v := .ref h_t_member) (C := RX10) (T := TX10) (N := 3) hx hb hts in_X10 hown hK hP 0 rfl rfl 0 (Nat.le_of_ble_eq_true rfl) (hts _ qf_X10_9) (fun _ h9 => h9) rfl dX10_locate_70 ?_
        refine lv_iload hx hb dX10_locate_73 (lv_at hl 6 rfl) ?_
        obtain ⟨hg_13, hf⟩ := gd_some hf
        refine va_iald hx hb hK hP 1 0 rfl rfl (inb_in hg_13) dX10_locate_75 ?_
        obtain ⟨hg_14, hf⟩ := gd_some hf
        refine va_iald hx hb hK hP 5 0 rfl rfl (inb_in hg_14) dX10_locate_76 ?_
        refine lv_i2l hx hb dX10_locate_77 rfl ?_
        refine lv_lmul hx hb dX10_locate_78 ?_
        refine lv_ladd hx hb dX10_locate_79 ?_
        refine lv_topl (fun l5_15 el5_15 => ?_)
        replace hf := xl_at hf el5_15
        refine lv_lstore (lv' := [(5, .long l5_15), (3, .long l3_11), (0, .ref h_t), (1, .ref h_p1), (2, .ref h_p2), (7, .long l7), (9, .int l9)]) hx hb dX10_locate_80 hl (Nat.le_of_ble_eq_true rfl) rfl (fun ls hl => ?_)
        refine lv_lload hx hb dX10_locate_82 (lv_at hl 5 rfl) ?_
        refine lv_aload_n hx hb dX10_locate_84 rfl (lv_at hl 2 rfl) ?_
        refine va_get (D := (dC, dI)) (ci := 10) (v := .ref h_t_factor) (C := RX10) (T := TX10) (N := 3) hx hb hts in_X10 hown hK hP 0 rfl rfl 1 (Nat.le_of_ble_eq_true rfl) (hts _ qf_X10_13) (fun _ h9 => h9) rfl dX10_locate_85 ?_
        refine lv_iload hx hb dX10_locate_88 (lv_at hl 6 rfl) ?_
        obtain ⟨hg_16, hf⟩ := gd_some hf
        refine va_lald hx hb hK hP 2 1 rfl rfl (inb_in hg_16) dX10_locate_90 ?_
        refine lv_ladd hx hb dX10_locate_91 ?_
        refine lv_topl (fun l7_17 el7_17 => ?_)
        replace hf := xl_at hf el7_17
        refine lv_lstore (lv' := [(7, .long l7_17), (5, .long l5_15), (3, .long l3_11), (0, .ref h_t), (1, .ref h_p1), (2, .ref h_p2), (9, .int l9)]) hx hb dX10_locate_92 hl (Nat.le_of_ble_eq_true rfl) rfl (fun ls hl => ?_)
        exact J_6 l3_11 l5_15 l7_17 H locs ls hP hD hS (lv_sub hl [3, 4, 5, 2, 1, 0, 6] rfl) hf
set_option maxRecDepth 100000 in
set_option maxHeartbeats 4000000 in
theorem mtX10_locate (l : Launch) (dC : Nat → ClassId) (dI : Nat → Nat → Nat) (cI cL cB : ClassId) (K : Nat) (h_t h_t_member h_t_factor h_p1 h_p1_x h_p1_y h_p1_colour h_p1_load h_p2 : Nat) (sz : Nat) (t_size : Int32) (t_member : Nat → Int32) (t_factor : Nat → Int64) (p1_size : Int32) (p1_centreX : Int32) (p1_centreY : Int32) (p1_x : Nat → Int32) (p1_y : Nat → Int32) (p2_x : Int64) (p2_y : Int64) (p2_lower : Int64) (o_p2_x : Int64) (o_p2_y : Int64) (o_p2_lower : Int64) (hf : fX10_locate K t_size t_member t_factor p1_x p1_y p2_x p2_y p2_lower = some (o_p2_x, o_p2_y, o_p2_lower)) : Met l yX10_locate [Cond.code yX10_locate cX10_locate 10 none] ({ frames := 3, cells := 0, slots := 0, locals := 73 }) (va_Pc [.ref h_t, .ref h_p1, .ref h_p2] (cPre dC dI cI cL cB sz [(h_t, .inr (10, [.ref h_t_member, .ref h_t_factor, .int t_size])), (h_t_member, .inl (cI, 4, .inl t_member)), (h_t_factor, .inl (cL, 4, .inr (.inl t_factor))), (h_p1, .inr (0, [.ref h_p1_x, .ref h_p1_y, .ref h_p1_colour, .ref h_p1_load, .int p1_size, .int p1_centreX, .int p1_centreY])), (h_p1_x, .inl (cI, 24, .inl p1_x)), (h_p1_y, .inl (cI, 24, .inl p1_y)), (h_p2, .inr (6, [.long p2_x, .long p2_y, .long p2_lower]))])) (cQv dC dI (va_A [(h_t, .inr (10, [.ref h_t_member, .ref h_t_factor, .int t_size])), (h_t_member, .inl (cI, 4, .inl t_member)), (h_t_factor, .inl (cL, 4, .inr (.inl t_factor))), (h_p1, .inr (0, [.ref h_p1_x, .ref h_p1_y, .ref h_p1_colour, .ref h_p1_load, .int p1_size, .int p1_centreX, .int p1_centreY])), (h_p1_x, .inl (cI, 24, .inl p1_x)), (h_p1_y, .inl (cI, 24, .inl p1_y)), (h_p2, .inr (6, [.long p2_x, .long p2_y, .long p2_lower]))] sz) [(h_t, .inr (10, [.ref h_t_member, .ref h_t_factor, .int t_size])), (h_t_member, .inl (cI, 4, .inl t_member)), (h_t_factor, .inl (cL, 4, .inr (.inl t_factor))), (h_p1, .inr (0, [.ref h_p1_x, .ref h_p1_y, .ref h_p1_colour, .ref h_p1_load, .int p1_size, .int p1_centreX, .int p1_centreY])), (h_p1_x, .inl (cI, 24, .inl p1_x)), (h_p1_y, .inl (cI, 24, .inl p1_y)), (h_p2, .inr (6, [.long o_p2_x, .long o_p2_y, .long o_p2_lower]))]) 0 0 (va_A [(h_t, .inr (10, [.ref h_t_member, .ref h_t_factor, .int t_size])), (h_t_member, .inl (cI, 4, .inl t_member)), (h_t_factor, .inl (cL, 4, .inr (.inl t_factor))), (h_p1, .inr (0, [.ref h_p1_x, .ref h_p1_y, .ref h_p1_colour, .ref h_p1_load, .int p1_size, .int p1_centreX, .int p1_centreY])), (h_p1_x, .inl (cI, 24, .inl p1_x)), (h_p1_y, .inl (cI, 24, .inl p1_y)), (h_p2, .inr (6, [.long p2_x, .long p2_y, .long p2_lower]))] sz) := by
  refine Met.ofW (cc := cX10_locate) (maxL := 10) (ret := none) (by decide) rfl ?_
  intro p e s m args below meth c s₁ B hml hv
  obtain ⟨rfl, hsz, hP, hK, hD0, hT⟩ := hv
  have hx := B.exec
  have hb := B.bytes
  have hr := B.returns
  have hown : s.vm.findClass RX10 = some m.cls := findClass_of_methodNamed B.named
  have hlocks := B.notSynchronized
  have hts := TB.use hT ([.ref h_t, .ref h_p1, .ref h_p2] : List Value).toArray
  subst hsz
  have hD := hD0.self (sz := s.heap.size)
  generalize hAe : va_A [(h_t, .inr (10, [.ref h_t_member, .ref h_t_factor, .int t_size])), (h_t_member, .inl (cI, 4, .inl t_member)), (h_t_factor, .inl (cL, 4, .inr (.inl t_factor))), (h_p1, .inr (0, [.ref h_p1_x, .ref h_p1_y, .ref h_p1_colour, .ref h_p1_load, .int p1_size, .int p1_centreX, .int p1_centreY])), (h_p1_x, .inl (cI, 24, .inl p1_x)), (h_p1_y, .inl (cI, 24, .inl p1_y)), (h_p2, .inr (6, [.long p2_x, .long p2_y, .long p2_lower]))] s.heap.size = A at hD ⊢
  have hA : ∀ q : Nat, s.heap.size ≤ q → A q := fun q h => by rw [← hAe]; exact Or.inr h
  clear hAe hD0
  have hl := lv_entry ([.ref h_t, .ref h_p1, .ref h_p2]) (n := 10) (Nat.le_of_ble_eq_true rfl)
  rw [lg_entry_eq]
  generalize (lg_sl ([.ref h_t, .ref h_p1, .ref h_p2]) ++ List.replicate (10 - (lg_sl ([.ref h_t, .ref h_p1, .ref h_p2])).length) Slot.unset).toArray = ls at hl ⊢
  have hl : lv_has ls 10 [(0, .ref h_t), (1, .ref h_p1), (2, .ref h_p2)] := hl
  have hF : 3 ≤ (headSpec [Cond.code yX10_locate cX10_locate 10 none] ({ frames := 3, cells := 0, slots := 0, locals := 73 })).room.frames := Nat.le_refl _
  have hLo : 73 ≤ (headSpec [Cond.code yX10_locate cX10_locate 10 none] ({ frames := 3, cells := 0, slots := 0, locals := 73 })).room.locals := Nat.le_refl _
  have C0 : Sx p (headSpec [Cond.code yX10_locate cX10_locate 10 none] ({ frames := 3, cells := 0, slots := 0, locals := 73 })).room s m ([.ref h_t, .ref h_p1, .ref h_p2] : List Value).toArray c cX10_locate 10 RX10 A dC dI cI cL cB 3 73 := ⟨hx, hb, hml, hown, hts, hK, hT, hA, hF, hLo⟩
  refine startH (A := A) hP (fun H locs hP hS => ?_)
  rw [fX10_locate] at hf
  refine lv_lconst (v := (0 : Int64)) hx hb dX10_locate_0 (by decide) ?_
  refine lv_lstore_n (lv' := [(3, .long (0 : Int64)), (0, .ref h_t), (1, .ref h_p1), (2, .ref h_p2)]) hx hb dX10_locate_1 rfl hl (Nat.le_of_ble_eq_true rfl) rfl (fun ls hl => ?_)
  refine lv_lconst (v := (0 : Int64)) hx hb dX10_locate_2 (by decide) ?_
  refine lv_lstore (lv' := [(5, .long (0 : Int64)), (3, .long (0 : Int64)), (0, .ref h_t), (1, .ref h_p1), (2, .ref h_p2)]) hx hb dX10_locate_3 hl (Nat.le_of_ble_eq_true rfl) rfl (fun ls hl => ?_)
  refine lv_lconst (v := (0 : Int64)) hx hb dX10_locate_5 (by decide) ?_
  refine lv_lstore (lv' := [(7, .long (0 : Int64)), (5, .long (0 : Int64)), (3, .long (0 : Int64)), (0, .ref h_t), (1, .ref h_p1), (2, .ref h_p2)]) hx hb dX10_locate_6 hl (Nat.le_of_ble_eq_true rfl) rfl (fun ls hl => ?_)
  refine lv_iconst (v := (0 : Int32)) hx hb dX10_locate_8 (by decide) ?_
  refine lv_istore (lv' := [(9, .int (0 : Int32)), (7, .long (0 : Int64)), (5, .long (0 : Int64)), (3, .long (0 : Int64)), (0, .ref h_t), (1, .ref h_p1), (2, .ref h_p2)]) hx hb dX10_locate_9 hl (Nat.le_of_ble_eq_true rfl) rfl (fun ls hl => ?_)
  obtain ⟨l3_19, l5_20, l7_21, hq_18, hf⟩ := b3_some hf
  refine wX10_locate_L11 C0 h_t h_t_member h_t_factor h_p1 h_p1_x h_p1_y h_p1_colour h_p1_load h_p2 t_size t_member t_factor p1_size p1_centreX p1_centreY p1_x p1_y p2_x p2_y p2_lower K (0 : Int64) (0 : Int64) (0 : Int64) (0 : Int32) l3_19 l5_20 l7_21 H locs ls hP hD hS (lv_sub hl [4, 5, 6, 3, 2, 1, 0] rfl) hq_18 ?_
  intro H locs ls hP hD hS hl
  refine lv_aload_n hx hb dX10_locate_100 rfl (lv_at hl 0 rfl) ?_
  refine lv_lload_n hx hb dX10_locate_101 rfl (lv_at hl 1 rfl) ?_
  refine lv_lload hx hb dX10_locate_102 (lv_at hl 2 rfl) ?_
  refine lv_lload hx hb dX10_locate_104 (lv_at hl 3 rfl) ?_
  obtain ⟨p2_x_22, p2_y_23, p2_lower_24, hq_25, hf⟩ := b3_some hf
  refine xcv (wr := [(h_t, .inr (10, [.ref h_t_member, .ref h_t_factor, .int t_size])), (h_t_member, .inl (cI, 4, .inl t_member)), (h_t_factor, .inl (cL, 4, .inr (.inl t_factor))), (h_p1, .inr (0, [.ref h_p1_x, .ref h_p1_y, .ref h_p1_colour, .ref h_p1_load, .int p1_size, .int p1_centreX, .int p1_centreY])), (h_p1_x, .inl (cI, 24, .inl p1_x)), (h_p1_y, .inl (cI, 24, .inl p1_y))]) (w2 := [(h_t, .inr (10, [.ref h_t_member, .ref h_t_factor, .int t_size])), (h_t_member, .inl (cI, 4, .inl t_member)), (h_t_factor, .inl (cL, 4, .inr (.inl t_factor))), (h_p1, .inr (0, [.ref h_p1_x, .ref h_p1_y, .ref h_p1_colour, .ref h_p1_load, .int p1_size, .int p1_centreX, .int p1_centreY])), (h_p1_x, .inl (cI, 24, .inl p1_x)), (h_p1_y, .inl (cI, 24, .inl p1_y)), (h_p2, .inr (6, [.long p2_x_22, .long p2_y_23, .long p2_lower_24]))]) (va_runV (As := [.long l3_19, .long l5_20, .long l7_21]) (rest := []) ⟨hx, hb, hml, hown, hts⟩ (mtX6_put l dC dI cI cL cB K h_p2 H.size p2_x p2_y p2_lower l3_19 l5_20 l7_21 p2_x_22 p2_y_23 p2_lower_24 hq_25) (cwV 3 hts gv_X10_66 rfl rfl rfl hdV_X6_put ⟨Nat.le_trans (Nat.le_of_ble_eq_true rfl) hF, Nat.le_trans (Nat.le_of_ble_eq_true rfl) hLo⟩) (cPreV hK hP hD hT [6] rfl rfl (ci := 6) (q0 := 0) rfl rfl) rfl rfl hl.1 rfl (lv_room (Nat.le_of_ble_eq_true rfl)) dX10_locate_106 ⟨Nat.zero_le _, Nat.zero_le _⟩) hP hD hS hA [6] [0, 1, 2, 3, 4, 5] [0, 1, 2, 3, 4, 5, 6] rfl rfl rfl rfl rfl rfl (fun H locs hP hD hS => ?_)
  obtain ⟨rfl, rfl, rfl⟩ := o3 hf
  exact W.vret hx hb hr (fun t ht hW => ⟨⟨(), rfl, trivial, by rw [ht]; exact hP, hD⟩, hS.F ht⟩) hS.2.2 dX10_locate_109
theorem dX10_bitsAbove_0 : decode cX10_bitsAbove 0 = .ok (.iconst 0, 1) := by decide +kernel
theorem dX10_bitsAbove_1 : decode cX10_bitsAbove 1 = .ok (.istore_n 1, 1) := by decide +kernel
theorem dX10_bitsAbove_2 : decode cX10_bitsAbove 2 = .ok (.iconst 0, 1) := by decide +kernel
theorem dX10_bitsAbove_3 : decode cX10_bitsAbove 3 = .ok (.istore_n 2, 1) := by decide +kernel
theorem dX10_bitsAbove_4 : decode cX10_bitsAbove 4 = .ok (.iload_n 2, 1) := by decide +kernel
theorem dX10_bitsAbove_5 : decode cX10_bitsAbove 5 = .ok (.aload_n 0, 1) := by decide +kernel
theorem dX10_bitsAbove_6 : decode cX10_bitsAbove 6 = .ok (.getfield 17, 3) := by decide +kernel
theorem dX10_bitsAbove_9 : decode cX10_bitsAbove 9 = .ok (.if_icmp .ge 35, 3) := by decide +kernel
theorem dX10_bitsAbove_12 : decode cX10_bitsAbove 12 = .ok (.iload_n 1, 1) := by decide +kernel
theorem dX10_bitsAbove_13 : decode cX10_bitsAbove 13 = .ok (.aload_n 0, 1) := by decide +kernel
theorem dX10_bitsAbove_14 : decode cX10_bitsAbove 14 = .ok (.getfield 13, 3) := by decide +kernel
theorem dX10_bitsAbove_17 : decode cX10_bitsAbove 17 = .ok (.iload_n 2, 1) := by decide +kernel
theorem dX10_bitsAbove_18 : decode cX10_bitsAbove 18 = .ok (.laload, 1) := by decide +kernel
theorem dX10_bitsAbove_19 : decode cX10_bitsAbove 19 = .ok (.lconst 0, 1) := by decide +kernel
theorem dX10_bitsAbove_20 : decode cX10_bitsAbove 20 = .ok (.lcmp, 1) := by decide +kernel
theorem dX10_bitsAbove_21 : decode cX10_bitsAbove 21 = .ok (.ifCond .le 14, 3) := by decide +kernel
theorem dX10_bitsAbove_24 : decode cX10_bitsAbove 24 = .ok (.iconst 1, 1) := by decide +kernel
theorem dX10_bitsAbove_25 : decode cX10_bitsAbove 25 = .ok (.aload_n 0, 1) := by decide +kernel
theorem dX10_bitsAbove_26 : decode cX10_bitsAbove 26 = .ok (.getfield 9, 3) := by decide +kernel
theorem dX10_bitsAbove_29 : decode cX10_bitsAbove 29 = .ok (.iload_n 2, 1) := by decide +kernel
theorem dX10_bitsAbove_30 : decode cX10_bitsAbove 30 = .ok (.iaload, 1) := by decide +kernel
theorem dX10_bitsAbove_31 : decode cX10_bitsAbove 31 = .ok (.ishl, 1) := by decide +kernel
theorem dX10_bitsAbove_32 : decode cX10_bitsAbove 32 = .ok (.goto 4, 3) := by decide +kernel
theorem dX10_bitsAbove_35 : decode cX10_bitsAbove 35 = .ok (.iconst 0, 1) := by decide +kernel
theorem dX10_bitsAbove_36 : decode cX10_bitsAbove 36 = .ok (.ior, 1) := by decide +kernel
theorem dX10_bitsAbove_37 : decode cX10_bitsAbove 37 = .ok (.istore_n 1, 1) := by decide +kernel
theorem dX10_bitsAbove_38 : decode cX10_bitsAbove 38 = .ok (.iinc 2 1, 3) := by decide +kernel
theorem dX10_bitsAbove_41 : decode cX10_bitsAbove 41 = .ok (.goto (-37), 3) := by decide +kernel
theorem dX10_bitsAbove_44 : decode cX10_bitsAbove 44 = .ok (.iload_n 1, 1) := by decide +kernel
theorem dX10_bitsAbove_45 : decode cX10_bitsAbove 45 = .ok (.ireturn, 1) := by decide +kernel
set_option maxRecDepth 100000 in
set_option maxHeartbeats 4000000 in
theorem wX10_bitsAbove_L4 {p : Program} {l : Launch} {e : Env} {R : Room} {s : State} {m : MethodId} {args : Array Value} {below : List Frame} {meth : Method} {c : Code} {Q : State → Prop} {A : Nat → Prop} {dC : Nat → ClassId} {dI : Nat → Nat → Nat} {cI cL cB : ClassId} {K : Nat} (C0 : Sx p R s m args c cX10_bitsAbove 3 RX10 A dC dI cI cL cB 0 0) (h_t h_t_member h_t_factor : Nat) (t_size : Int32) (t_member : Nat → Int32) (t_factor : Nat → Int64) : ∀ (n : Nat) (l1 : Int32) (l2 : Int32) (x1_ : Int32) (H : Heap) (locs : List Loc) (ls : Array Slot), va_P (dC, dI) vwCl [(h_t, .inr (10, [.ref h_t_member, .ref h_t_factor, .int t_size])), (h_t_member, .inl (cI, 4, .inl t_member)), (h_t_factor, .inl (cL, 4, .inr (.inl t_factor)))] H → va_D A [(h_t, .inr (10, [.ref h_t_member, .ref h_t_factor, .int t_size])), (h_t_member, .inl (cI, 4, .inl t_member)), (h_t_factor, .inl (cL, 4, .inr (.inl t_factor)))] → va_S A s.heap H locs → lv_has ls 3 [(0, .ref h_t), (1, .int l1), (2, .int l2)] → fX10_bitsAbove_L4 K t_size t_member t_factor n l1 l2 = some x1_ → (∀ (H : Heap) (locs : List Loc) (ls : Array Slot), va_P (dC, dI) vwCl [(h_t, .inr (10, [.ref h_t_member, .ref h_t_factor, .int t_size])), (h_t_member, .inl (cI, 4, .inl t_member)), (h_t_factor, .inl (cL, 4, .inr (.inl t_factor)))] H → va_D A [(h_t, .inr (10, [.ref h_t_member, .ref h_t_factor, .int t_size])), (h_t_member, .inl (cI, 4, .inl t_member)), (h_t_factor, .inl (cL, 4, .inr (.inl t_factor)))] → va_S A s.heap H locs → lv_has ls 3 [(1, .int x1_)] → W p l e R s m args below meth c H locs 0 0 Q (F0 m 44 ls [])) → W p l e R s m args below meth c H locs 0 0 Q (F0 m 4 ls []) := by
  obtain ⟨hx, hb, hml, hown, hts, hK, hT, hA, hF, hLo⟩ := id C0
  intro n
  induction n with
  | zero =>
    intro l1 l2 x1_ H locs ls hP hD hS hl hf
    rw [fX10_bitsAbove_L4] at hf
    cases hf
  | succ n ih =>
    intro l1 l2 x1_ H locs ls hP hD hS hl hf hk
    rw [fX10_bitsAbove_L4] at hf
    refine lv_iload_n hx hb dX10_bitsAbove_4 rfl (lv_at hl 2 rfl) ?_
    refine lv_aload_n hx hb dX10_bitsAbove_5 rfl (lv_at hl 0 rfl) ?_
    refine va_get (D := (dC, dI)) (ci := 10) (v := .int t_size) (C := RX10) (T := TX10) (N := 3) hx hb hts in_X10 hown hK hP 0 rfl rfl 2 (Nat.le_of_ble_eq_true rfl) (hts _ qf_X10_17) (fun _ h9 => h9) rfl dX10_bitsAbove_6 ?_
    refine lv_icmp_ge (tgt := 44) hx hb dX10_bitsAbove_9 (by decide) (fun hc => ?_) (fun hc => ?_)
    · replace hf := it_t (hc) hf
      obtain rfl := o1 hf
      exact hk H locs ls hP hD hS (lv_sub hl [1] rfl)
    · replace hf := it_f (hc) hf
      refine lv_iload_n hx hb dX10_bitsAbove_12 rfl (lv_at hl 1 rfl) ?_
      refine lv_aload_n hx hb dX10_bitsAbove_13 rfl (lv_at hl 0 rfl) ?_
      refine va_get (D := (dC, dI)) (ci := 10) (v := .ref h_t_factor) (C := RX10) (T := TX10) (N := 3) hx hb hts in_X10 hown hK hP 0 rfl rfl 1 (Nat.le_of_ble_eq_true rfl) (hts _ qf_X10_13) (fun _ h9 => h9) rfl dX10_bitsAbove_14 ?_
      refine lv_iload_n hx hb dX10_bitsAbove_17 rfl (lv_at hl 2 rfl) ?_
      obtain ⟨hg_1, hf⟩ := gd_some hf
      refine va_lald hx hb hK hP 2 1 rfl rfl (inb_in hg_1) dX10_bitsAbove_18 ?_
      refine lv_lconst (v := (0 : Int64)) hx hb dX10_bitsAbove_19 (by decide) ?_
      refine W.lcmp hx hb dX10_bitsAbove_20 ?_
      obtain ⟨k_3, ek_3, hf⟩ := jn_out hf
      have J_4 : ∀ (s_2 : Int32) (H : Heap) (locs : List Loc) (ls : Array Slot), va_P (dC, dI) vwCl [(h_t, .inr (10, [.ref h_t_member, .ref h_t_factor, .int t_size])), (h_t_member, .inl (cI, 4, .inl t_member)), (h_t_factor, .inl (cL, 4, .inr (.inl t_factor)))] H → va_D A [(h_t, .inr (10, [.ref h_t_member, .ref h_t_factor, .int t_size])), (h_t_member, .inl (cI, 4, .inl t_member)), (h_t_factor, .inl (cL, 4, .inr (.inl t_factor)))] → va_S A s.heap H locs → lv_has ls 3 [(0, .ref h_t), (2, .int l2)] → k_3 s_2 = some x1_ → W p l e R s m args below meth c H locs 0 0 Q (F0 m 36 ls [.int s_2, .int l1]) := by
        intro s_2 H locs ls hP hD hS hl hf
        rw [ek_3] at hf
        try dsimp only at hf
        refine lv_ior hx hb dX10_bitsAbove_36 ?_
        refine lv_topi (fun l1_5 el1_5 => ?_)
        replace hf := xl_at hf el1_5
        refine lv_istore_n (lv' := [(1, .int l1_5), (0, .ref h_t), (2, .int l2)]) hx hb dX10_bitsAbove_37 rfl hl (Nat.le_of_ble_eq_true rfl) rfl (fun ls hl => ?_)
        obtain ⟨l2_6, el2_6⟩ : ∃ y : Int32, y = l2 + (1 : Int32) := ⟨_, rfl⟩
        replace hf := xl_at hf el2_6
        refine lv_iinc (v := l2_6) (lv' := [(2, .int l2_6), (1, .int l1_5), (0, .ref h_t)]) hx hb dX10_bitsAbove_38 hl (k := 2) rfl (by rw [el2_6]; rfl) (Nat.le_of_ble_eq_true rfl) rfl (fun ls hl => ?_)
        refine lv_goto (tgt := 4) hx hb dX10_bitsAbove_41 (by decide) ?_
        exact ih l1_5 l2_6 _ H locs ls hP hD hS (lv_sub hl [2, 1, 0] rfl) hf hk
      refine lv_if_le (tgt := 35) hx hb dX10_bitsAbove_21 (by decide) (fun hc => ?_) (fun hc => ?_)
      · replace hf := it_t ((lg_cmp_le _ _).mp hc) hf
        refine lv_iconst (v := (0 : Int32)) hx hb dX10_bitsAbove_35 (by decide) ?_
        exact J_4 (0 : Int32) H locs ls hP hD hS (lv_sub hl [0, 2] rfl) hf
      · replace hf := it_f (fun h9 => hc ((lg_cmp_le _ _).mpr h9)) hf
        refine lv_iconst (v := (1 : Int32)) hx hb dX10_bitsAbove_24 (by decide) ?_
        refine lv_aload_n hx hb dX10_bitsAbove_25 rfl (lv_at hl 0 rfl) ?_
        refine va_get (D := (dC, dI)) (ci := 10) (v := .ref h_t_member) (C := RX10) (T := TX10) (N := 3) hx hb hts in_X10 hown hK hP 0 rfl rfl 0 (Nat.le_of_ble_eq_true rfl) (hts _ qf_X10_9) (fun _ h9 => h9) rfl dX10_bitsAbove_26 ?_
        refine lv_iload_n hx hb dX10_bitsAbove_29 rfl (lv_at hl 2 rfl) ?_
        obtain ⟨hg_7, hf⟩ := gd_some hf
        refine va_iald hx hb hK hP 1 0 rfl rfl (inb_in hg_7) dX10_bitsAbove_30 ?_
        refine lv_ishl hx hb dX10_bitsAbove_31 ?_
        refine lv_goto (tgt := 36) hx hb dX10_bitsAbove_32 (by decide) ?_
        exact J_4 ((1 : Int32) <<< ((t_member l2.toNatClampNeg) &&& 31)) H locs ls hP hD hS (lv_sub hl [0, 2] rfl) hf
set_option maxRecDepth 100000 in
set_option maxHeartbeats 4000000 in
theorem mtX10_bitsAbove (l : Launch) (dC : Nat → ClassId) (dI : Nat → Nat → Nat) (cI cL cB : ClassId) (K : Nat) (h_t h_t_member h_t_factor : Nat) (sz : Nat) (t_size : Int32) (t_member : Nat → Int32) (t_factor : Nat → Int64) (o_r : Int32) (hf : fX10_bitsAbove K t_size t_member t_factor = some o_r) : Met l yX10_bitsAbove [Cond.code yX10_bitsAbove cX10_bitsAbove 3 (some .int)] ({ frames := 0, cells := 0, slots := 0, locals := 0 }) (va_Pc [.ref h_t] (cPre dC dI cI cL cB sz [(h_t, .inr (10, [.ref h_t_member, .ref h_t_factor, .int t_size])), (h_t_member, .inl (cI, 4, .inl t_member)), (h_t_factor, .inl (cL, 4, .inr (.inl t_factor)))])) (cQi dC dI (va_A [(h_t, .inr (10, [.ref h_t_member, .ref h_t_factor, .int t_size])), (h_t_member, .inl (cI, 4, .inl t_member)), (h_t_factor, .inl (cL, 4, .inr (.inl t_factor)))] sz) o_r [(h_t, .inr (10, [.ref h_t_member, .ref h_t_factor, .int t_size])), (h_t_member, .inl (cI, 4, .inl t_member)), (h_t_factor, .inl (cL, 4, .inr (.inl t_factor)))]) 0 0 (va_A [(h_t, .inr (10, [.ref h_t_member, .ref h_t_factor, .int t_size])), (h_t_member, .inl (cI, 4, .inl t_member)), (h_t_factor, .inl (cL, 4, .inr (.inl t_factor)))] sz) := by
  refine Met.ofW (cc := cX10_bitsAbove) (maxL := 3) (ret := (some .int)) (by decide) rfl ?_
  intro p e s m args below meth c s₁ B hml hv
  obtain ⟨rfl, hsz, hP, hK, hD0, hT⟩ := hv
  have hx := B.exec
  have hb := B.bytes
  have hr := B.returns
  have hown : s.vm.findClass RX10 = some m.cls := findClass_of_methodNamed B.named
  have hlocks := B.notSynchronized
  have hts := TB.use hT ([.ref h_t] : List Value).toArray
  subst hsz
  have hD := hD0.self (sz := s.heap.size)
  generalize hAe : va_A [(h_t, .inr (10, [.ref h_t_member, .ref h_t_factor, .int t_size])), (h_t_member, .inl (cI, 4, .inl t_member)), (h_t_factor, .inl (cL, 4, .inr (.inl t_factor)))] s.heap.size = A at hD ⊢
  have hA : ∀ q : Nat, s.heap.size ≤ q → A q := fun q h => by rw [← hAe]; exact Or.inr h
  clear hAe hD0
  have hl := lv_entry ([.ref h_t]) (n := 3) (Nat.le_of_ble_eq_true rfl)
  rw [lg_entry_eq]
  generalize (lg_sl ([.ref h_t]) ++ List.replicate (3 - (lg_sl ([.ref h_t])).length) Slot.unset).toArray = ls at hl ⊢
  have hl : lv_has ls 3 [(0, .ref h_t)] := hl
  have hF : 0 ≤ (headSpec [Cond.code yX10_bitsAbove cX10_bitsAbove 3 (some .int)] ({ frames := 0, cells := 0, slots := 0, locals := 0 })).room.frames := Nat.le_refl _
  have hLo : 0 ≤ (headSpec [Cond.code yX10_bitsAbove cX10_bitsAbove 3 (some .int)] ({ frames := 0, cells := 0, slots := 0, locals := 0 })).room.locals := Nat.le_refl _
  have C0 : Sx p (headSpec [Cond.code yX10_bitsAbove cX10_bitsAbove 3 (some .int)] ({ frames := 0, cells := 0, slots := 0, locals := 0 })).room s m ([.ref h_t] : List Value).toArray c cX10_bitsAbove 3 RX10 A dC dI cI cL cB 0 0 := ⟨hx, hb, hml, hown, hts, hK, hT, hA, hF, hLo⟩
  refine startH (A := A) hP (fun H locs hP hS => ?_)
  rw [fX10_bitsAbove] at hf
  refine lv_iconst (v := (0 : Int32)) hx hb dX10_bitsAbove_0 (by decide) ?_
  refine lv_istore_n (lv' := [(1, .int (0 : Int32)), (0, .ref h_t)]) hx hb dX10_bitsAbove_1 rfl hl (Nat.le_of_ble_eq_true rfl) rfl (fun ls hl => ?_)
  refine lv_iconst (v := (0 : Int32)) hx hb dX10_bitsAbove_2 (by decide) ?_
  refine lv_istore_n (lv' := [(2, .int (0 : Int32)), (1, .int (0 : Int32)), (0, .ref h_t)]) hx hb dX10_bitsAbove_3 rfl hl (Nat.le_of_ble_eq_true rfl) rfl (fun ls hl => ?_)
  obtain ⟨l1_9, hq_8, hf⟩ := b1_some hf
  refine wX10_bitsAbove_L4 C0 h_t h_t_member h_t_factor t_size t_member t_factor K (0 : Int32) (0 : Int32) l1_9 H locs ls hP hD hS (lv_sub hl [2, 1, 0] rfl) hq_8 ?_
  intro H locs ls hP hD hS hl
  refine lv_iload_n hx hb dX10_bitsAbove_44 rfl (lv_at hl 0 rfl) ?_
  obtain rfl := o1 hf
  exact W.iret hx hb hr (fun t ht hW => ⟨⟨_, (), rfl, rfl, by rw [ht]; exact hP, hD⟩, hS.F ht⟩) hS.2.2 dX10_bitsAbove_45
theorem dX10_bitsBelow_0 : decode cX10_bitsBelow 0 = .ok (.iconst 0, 1) := by decide +kernel
theorem dX10_bitsBelow_1 : decode cX10_bitsBelow 1 = .ok (.istore_n 1, 1) := by decide +kernel
theorem dX10_bitsBelow_2 : decode cX10_bitsBelow 2 = .ok (.iconst 0, 1) := by decide +kernel
theorem dX10_bitsBelow_3 : decode cX10_bitsBelow 3 = .ok (.istore_n 2, 1) := by decide +kernel
theorem dX10_bitsBelow_4 : decode cX10_bitsBelow 4 = .ok (.iload_n 2, 1) := by decide +kernel
theorem dX10_bitsBelow_5 : decode cX10_bitsBelow 5 = .ok (.aload_n 0, 1) := by decide +kernel
theorem dX10_bitsBelow_6 : decode cX10_bitsBelow 6 = .ok (.getfield 17, 3) := by decide +kernel
theorem dX10_bitsBelow_9 : decode cX10_bitsBelow 9 = .ok (.if_icmp .ge 35, 3) := by decide +kernel
theorem dX10_bitsBelow_12 : decode cX10_bitsBelow 12 = .ok (.iload_n 1, 1) := by decide +kernel
theorem dX10_bitsBelow_13 : decode cX10_bitsBelow 13 = .ok (.aload_n 0, 1) := by decide +kernel
theorem dX10_bitsBelow_14 : decode cX10_bitsBelow 14 = .ok (.getfield 13, 3) := by decide +kernel
theorem dX10_bitsBelow_17 : decode cX10_bitsBelow 17 = .ok (.iload_n 2, 1) := by decide +kernel
theorem dX10_bitsBelow_18 : decode cX10_bitsBelow 18 = .ok (.laload, 1) := by decide +kernel
theorem dX10_bitsBelow_19 : decode cX10_bitsBelow 19 = .ok (.lconst 0, 1) := by decide +kernel
theorem dX10_bitsBelow_20 : decode cX10_bitsBelow 20 = .ok (.lcmp, 1) := by decide +kernel
theorem dX10_bitsBelow_21 : decode cX10_bitsBelow 21 = .ok (.ifCond .ge 14, 3) := by decide +kernel
theorem dX10_bitsBelow_24 : decode cX10_bitsBelow 24 = .ok (.iconst 1, 1) := by decide +kernel
theorem dX10_bitsBelow_25 : decode cX10_bitsBelow 25 = .ok (.aload_n 0, 1) := by decide +kernel
theorem dX10_bitsBelow_26 : decode cX10_bitsBelow 26 = .ok (.getfield 9, 3) := by decide +kernel
theorem dX10_bitsBelow_29 : decode cX10_bitsBelow 29 = .ok (.iload_n 2, 1) := by decide +kernel
theorem dX10_bitsBelow_30 : decode cX10_bitsBelow 30 = .ok (.iaload, 1) := by decide +kernel
theorem dX10_bitsBelow_31 : decode cX10_bitsBelow 31 = .ok (.ishl, 1) := by decide +kernel
theorem dX10_bitsBelow_32 : decode cX10_bitsBelow 32 = .ok (.goto 4, 3) := by decide +kernel
theorem dX10_bitsBelow_35 : decode cX10_bitsBelow 35 = .ok (.iconst 0, 1) := by decide +kernel
theorem dX10_bitsBelow_36 : decode cX10_bitsBelow 36 = .ok (.ior, 1) := by decide +kernel
theorem dX10_bitsBelow_37 : decode cX10_bitsBelow 37 = .ok (.istore_n 1, 1) := by decide +kernel
theorem dX10_bitsBelow_38 : decode cX10_bitsBelow 38 = .ok (.iinc 2 1, 3) := by decide +kernel
theorem dX10_bitsBelow_41 : decode cX10_bitsBelow 41 = .ok (.goto (-37), 3) := by decide +kernel
theorem dX10_bitsBelow_44 : decode cX10_bitsBelow 44 = .ok (.iload_n 1, 1) := by decide +kernel
theorem dX10_bitsBelow_45 : decode cX10_bitsBelow 45 = .ok (.ireturn, 1) := by decide +kernel
set_option maxRecDepth 100000 in
set_option maxHeartbeats 4000000 in
theorem wX10_bitsBelow_L4 {p : Program} {l : Launch} {e : Env} {R : Room} {s : State} {m : MethodId} {args : Array Value} {below : List Frame} {meth : Method} {c : Code} {Q : State → Prop} {A : Nat → Prop} {dC : Nat → ClassId} {dI : Nat → Nat → Nat} {cI cL cB : ClassId} {K : Nat} (C0 : Sx p R s m args c cX10_bitsBelow 3 RX10 A dC dI cI cL cB 0 0) (h_t h_t_member h_t_factor : Nat) (t_size : Int32) (t_member : Nat → Int32) (t_factor : Nat → Int64) : ∀ (n : Nat) (l1 : Int32) (l2 : Int32) (x1_ : Int32) (H : Heap) (locs : List Loc) (ls : Array Slot), va_P (dC, dI) vwCl [(h_t, .inr (10, [.ref h_t_member, .ref h_t_factor, .int t_size])), (h_t_member, .inl (cI, 4, .inl t_member)), (h_t_factor, .inl (cL, 4, .inr (.inl t_factor)))] H → va_D A [(h_t, .inr (10, [.ref h_t_member, .ref h_t_factor, .int t_size])), (h_t_member, .inl (cI, 4, .inl t_member)), (h_t_factor, .inl (cL, 4, .inr (.inl t_factor)))] → va_S A s.heap H locs → lv_has ls 3 [(0, .ref h_t), (1, .int l1), (2, .int l2)] → fX10_bitsBelow_L4 K t_size t_member t_factor n l1 l2 = some x1_ → (∀ (H : Heap) (locs : List Loc) (ls : Array Slot), va_P (dC, dI) vwCl [(h_t, .inr (10, [.ref h_t_member, .ref h_t_factor, .int t_size])), (h_t_member, .inl (cI, 4, .inl t_member)), (h_t_factor, .inl (cL, 4, .inr (.inl t_factor)))] H → va_D A [(h_t, .inr (10, [.ref h_t_member, .ref h_t_factor, .int t_size])), (h_t_member, .inl (cI, 4, .inl t_member)), (h_t_factor, .inl (cL, 4, .inr (.inl t_factor)))] → va_S A s.heap H locs → lv_has ls 3 [(1, .int x1_)] → W p l e R s m args below meth c H locs 0 0 Q (F0 m 44 ls [])) → W p l e R s m args below meth c H locs 0 0 Q (F0 m 4 ls []) := by
  obtain ⟨hx, hb, hml, hown, hts, hK, hT, hA, hF, hLo⟩ := id C0
  intro n
  induction n with
  | zero =>
    intro l1 l2 x1_ H locs ls hP hD hS hl hf
    rw [fX10_bitsBelow_L4] at hf
    cases hf
  | succ n ih =>
    intro l1 l2 x1_ H locs ls hP hD hS hl hf hk
    rw [fX10_bitsBelow_L4] at hf
    refine lv_iload_n hx hb dX10_bitsBelow_4 rfl (lv_at hl 2 rfl) ?_
    refine lv_aload_n hx hb dX10_bitsBelow_5 rfl (lv_at hl 0 rfl) ?_
    refine va_get (D := (dC, dI)) (ci := 10) (v := .int t_size) (C := RX10) (T := TX10) (N := 3) hx hb hts in_X10 hown hK hP 0 rfl rfl 2 (Nat.le_of_ble_eq_true rfl) (hts _ qf_X10_17) (fun _ h9 => h9) rfl dX10_bitsBelow_6 ?_
    refine lv_icmp_ge (tgt := 44) hx hb dX10_bitsBelow_9 (by decide) (fun hc => ?_) (fun hc => ?_)
    · replace hf := it_t (hc) hf
      obtain rfl := o1 hf
      exact hk H locs ls hP hD hS (lv_sub hl [1] rfl)
    · replace hf := it_f (hc) hf
      refine lv_iload_n hx hb dX10_bitsBelow_12 rfl (lv_at hl 1 rfl) ?_
      refine lv_aload_n hx hb dX10_bitsBelow_13 rfl (lv_at hl 0 rfl) ?_
      refine va_get (D := (dC, dI)) (ci := 10) (v := .ref h_t_factor) (C := RX10) (T := TX10) (N := 3) hx hb hts in_X10 hown hK hP 0 rfl rfl 1 (Nat.le_of_ble_eq_true rfl) (hts _ qf_X10_13) (fun _ h9 => h9) rfl dX10_bitsBelow_14 ?_
      refine lv_iload_n hx hb dX10_bitsBelow_17 rfl (lv_at hl 2 rfl) ?_
      obtain ⟨hg_1, hf⟩ := gd_some hf
      refine va_lald hx hb hK hP 2 1 rfl rfl (inb_in hg_1) dX10_bitsBelow_18 ?_
      refine lv_lconst (v := (0 : Int64)) hx hb dX10_bitsBelow_19 (by decide) ?_
      refine W.lcmp hx hb dX10_bitsBelow_20 ?_
      obtain ⟨k_3, ek_3, hf⟩ := jn_out hf
      have J_4 : ∀ (s_2 : Int32) (H : Heap) (locs : List Loc) (ls : Array Slot), va_P (dC, dI) vwCl [(h_t, .inr (10, [.ref h_t_member, .ref h_t_factor, .int t_size])), (h_t_member, .inl (cI, 4, .inl t_member)), (h_t_factor, .inl (cL, 4, .inr (.inl t_factor)))] H → va_D A [(h_t, .inr (10, [.ref h_t_member, .ref h_t_factor, .int t_size])), (h_t_member, .inl (cI, 4, .inl t_member)), (h_t_factor, .inl (cL, 4, .inr (.inl t_factor)))] → va_S A s.heap H locs → lv_has ls 3 [(0, .ref h_t), (2, .int l2)] → k_3 s_2 = some x1_ → W p l e R s m args below meth c H locs 0 0 Q (F0 m 36 ls [.int s_2, .int l1]) := by
        intro s_2 H locs ls hP hD hS hl hf
        rw [ek_3] at hf
        try dsimp only at hf
        refine lv_ior hx hb dX10_bitsBelow_36 ?_
        refine lv_topi (fun l1_5 el1_5 => ?_)
        replace hf := xl_at hf el1_5
        refine lv_istore_n (lv' := [(1, .int l1_5), (0, .ref h_t), (2, .int l2)]) hx hb dX10_bitsBelow_37 rfl hl (Nat.le_of_ble_eq_true rfl) rfl (fun ls hl => ?_)
        obtain ⟨l2_6, el2_6⟩ : ∃ y : Int32, y = l2 + (1 : Int32) := ⟨_, rfl⟩
        replace hf := xl_at hf el2_6
        refine lv_iinc (v := l2_6) (lv' := [(2, .int l2_6), (1, .int l1_5), (0, .ref h_t)]) hx hb dX10_bitsBelow_38 hl (k := 2) rfl (by rw [el2_6]; rfl) (Nat.le_of_ble_eq_true rfl) rfl (fun ls hl => ?_)
        refine lv_goto (tgt := 4) hx hb dX10_bitsBelow_41 (by decide) ?_
        exact ih l1_5 l2_6 _ H locs ls hP hD hS (lv_sub hl [2, 1, 0] rfl) hf hk
      refine lv_if_ge (tgt := 35) hx hb dX10_bitsBelow_21 (by decide) (fun hc => ?_) (fun hc => ?_)
      · replace hf := it_t ((lg_cmp_ge _ _).mp hc) hf
        refine lv_iconst (v := (0 : Int32)) hx hb dX10_bitsBelow_35 (by decide) ?_
        exact J_4 (0 : Int32) H locs ls hP hD hS (lv_sub hl [0, 2] rfl) hf
      · replace hf := it_f (fun h9 => hc ((lg_cmp_ge _ _).mpr h9)) hf
        refine lv_iconst (v := (1 : Int32)) hx hb dX10_bitsBelow_24 (by decide) ?_
        refine lv_aload_n hx hb dX10_bitsBelow_25 rfl (lv_at hl 0 rfl) ?_
        refine va_get (D := (dC, dI)) (ci := 10) (v := .ref h_t_member) (C := RX10) (T := TX10) (N := 3) hx hb hts in_X10 hown hK hP 0 rfl rfl 0 (Nat.le_of_ble_eq_true rfl) (hts _ qf_X10_9) (fun _ h9 => h9) rfl dX10_bitsBelow_26 ?_
        refine lv_iload_n hx hb dX10_bitsBelow_29 rfl (lv_at hl 2 rfl) ?_
        obtain ⟨hg_7, hf⟩ := gd_some hf
        refine va_iald hx hb hK hP 1 0 rfl rfl (inb_in hg_7) dX10_bitsBelow_30 ?_
        refine lv_ishl hx hb dX10_bitsBelow_31 ?_
        refine lv_goto (tgt := 36) hx hb dX10_bitsBelow_32 (by decide) ?_
        exact J_4 ((1 : Int32) <<< ((t_member l2.toNatClampNeg) &&& 31)) H locs ls hP hD hS (lv_sub hl [0, 2] rfl) hf
set_option maxRecDepth 100000 in
set_option maxHeartbeats 4000000 in
theorem mtX10_bitsBelow (l : Launch) (dC : Nat → ClassId) (dI : Nat → Nat → Nat) (cI cL cB : ClassId) (K : Nat) (h_t h_t_member h_t_factor : Nat) (sz : Nat) (t_size : Int32) (t_member : Nat → Int32) (t_factor : Nat → Int64) (o_r : Int32) (hf : fX10_bitsBelow K t_size t_member t_factor = some o_r) : Met l yX10_bitsBelow [Cond.code yX10_bitsBelow cX10_bitsBelow 3 (some .int)] ({ frames := 0, cells := 0, slots := 0, locals := 0 }) (va_Pc [.ref h_t] (cPre dC dI cI cL cB sz [(h_t, .inr (10, [.ref h_t_member, .ref h_t_factor, .int t_size])), (h_t_member, .inl (cI, 4, .inl t_member)), (h_t_factor, .inl (cL, 4, .inr (.inl t_factor)))])) (cQi dC dI (va_A [(h_t, .inr (10, [.ref h_t_member, .ref h_t_factor, .int t_size])), (h_t_member, .inl (cI, 4, .inl t_member)), (h_t_factor, .inl (cL, 4, .inr (.inl t_factor)))] sz) o_r [(h_t, .inr (10, [.ref h_t_member, .ref h_t_factor, .int t_size])), (h_t_member, .inl (cI, 4, .inl t_member)), (h_t_factor, .inl (cL, 4, .inr (.inl t_factor)))]) 0 0 (va_A [(h_t, .inr (10, [.ref h_t_member, .ref h_t_factor, .int t_size])), (h_t_member, .inl (cI, 4, .inl t_member)), (h_t_factor, .inl (cL, 4, .inr (.inl t_factor)))] sz) := by
  refine Met.ofW (cc := cX10_bitsBelow) (maxL := 3) (ret := (some .int)) (by decide) rfl ?_
  intro p e s m args below meth c s₁ B hml hv
  obtain ⟨rfl, hsz, hP, hK, hD0, hT⟩ := hv
  have hx := B.exec
  have hb := B.bytes
  have hr := B.returns
  have hown : s.vm.findClass RX10 = some m.cls := findClass_of_methodNamed B.named
  have hlocks := B.notSynchronized
  have hts := TB.use hT ([.ref h_t] : List Value).toArray
  subst hsz
  have hD := hD0.self (sz := s.heap.size)
  generalize hAe : va_A [(h_t, .inr (10, [.ref h_t_member, .ref h_t_factor, .int t_size])), (h_t_member, .inl (cI, 4, .inl t_member)), (h_t_factor, .inl (cL, 4, .inr (.inl t_factor)))] s.heap.size = A at hD ⊢
  have hA : ∀ q : Nat, s.heap.size ≤ q → A q := fun q h => by rw [← hAe]; exact Or.inr h
  clear hAe hD0
  have hl := lv_entry ([.ref h_t]) (n := 3) (Nat.le_of_ble_eq_true rfl)
  rw [lg_entry_eq]
  generalize (lg_sl ([.ref h_t]) ++ List.replicate (3 - (lg_sl ([.ref h_t])).length) Slot.unset).toArray = ls at hl ⊢
  have hl : lv_has ls 3 [(0, .ref h_t)] := hl
  have hF : 0 ≤ (headSpec [Cond.code yX10_bitsBelow cX10_bitsBelow 3 (some .int)] ({ frames := 0, cells := 0, slots := 0, locals := 0 })).room.frames := Nat.le_refl _
  have hLo : 0 ≤ (headSpec [Cond.code yX10_bitsBelow cX10_bitsBelow 3 (some .int)] ({ frames := 0, cells := 0, slots := 0, locals := 0 })).room.locals := Nat.le_refl _
  have C0 : Sx p (headSpec [Cond.code yX10_bitsBelow cX10_bitsBelow 3 (some .int)] ({ frames := 0, cells := 0, slots := 0, locals := 0 })).room s m ([.ref h_t] : List Value).toArray c cX10_bitsBelow 3 RX10 A dC dI cI cL cB 0 0 := ⟨hx, hb, hml, hown, hts, hK, hT, hA, hF, hLo⟩
  refine startH (A := A) hP (fun H locs hP hS => ?_)
  rw [fX10_bitsBelow] at hf
  refine lv_iconst (v := (0 : Int32)) hx hb dX10_bitsBelow_0 (by decide) ?_
  refine lv_istore_n (lv' := [(1, .int (0 : Int32)), (0, .ref h_t)]) hx hb dX10_bitsBelow_1 rfl hl (Nat.le_of_ble_eq_true rfl) rfl (fun ls hl => ?_)
  refine lv_iconst (v := (0 : Int32)) hx hb dX10_bitsBelow_2 (by decide) ?_
  refine lv_istore_n (lv' := [(2, .int (0 : Int32)), (1, .int (0 : Int32)), (0, .ref h_t)]) hx hb dX10_bitsBelow_3 rfl hl (Nat.le_of_ble_eq_true rfl) rfl (fun ls hl => ?_)
  obtain ⟨l1_9, hq_8, hf⟩ := b1_some hf
  refine wX10_bitsBelow_L4 C0 h_t h_t_member h_t_factor t_size t_member t_factor K (0 : Int32) (0 : Int32) l1_9 H locs ls hP hD hS (lv_sub hl [2, 1, 0] rfl) hq_8 ?_
  intro H locs ls hP hD hS hl
  refine lv_iload_n hx hb dX10_bitsBelow_44 rfl (lv_at hl 0 rfl) ?_
  obtain rfl := o1 hf
  exact W.iret hx hb hr (fun t ht hW => ⟨⟨_, (), rfl, rfl, by rw [ht]; exact hP, hD⟩, hS.F ht⟩) hS.2.2 dX10_bitsBelow_45
theorem dX11_coordinate_0 : decode cX11_coordinate 0 = .ok (.lload_n 1, 1) := by decide +kernel
theorem dX11_coordinate_1 : decode cX11_coordinate 1 = .ok (.lconst 0, 1) := by decide +kernel
theorem dX11_coordinate_2 : decode cX11_coordinate 2 = .ok (.lcmp, 1) := by decide +kernel
theorem dX11_coordinate_3 : decode cX11_coordinate 3 = .ok (.ifCond .ne 8, 3) := by decide +kernel
theorem dX11_coordinate_6 : decode cX11_coordinate 6 = .ok (.aload_n 0, 1) := by decide +kernel
theorem dX11_coordinate_7 : decode cX11_coordinate 7 = .ok (.getfield 389, 3) := by decide +kernel
theorem dX11_coordinate_10 : decode cX11_coordinate 10 = .ok (.lreturn, 1) := by decide +kernel
theorem dX11_coordinate_11 : decode cX11_coordinate 11 = .ok (.lload_n 1, 1) := by decide +kernel
theorem dX11_coordinate_12 : decode cX11_coordinate 12 = .ok (.lconst 1, 1) := by decide +kernel
theorem dX11_coordinate_13 : decode cX11_coordinate 13 = .ok (.lcmp, 1) := by decide +kernel
theorem dX11_coordinate_14 : decode cX11_coordinate 14 = .ok (.ifCond .ne 8, 3) := by decide +kernel
theorem dX11_coordinate_17 : decode cX11_coordinate 17 = .ok (.aload_n 0, 1) := by decide +kernel
theorem dX11_coordinate_18 : decode cX11_coordinate 18 = .ok (.getfield 390, 3) := by decide +kernel
theorem dX11_coordinate_21 : decode cX11_coordinate 21 = .ok (.lreturn, 1) := by decide +kernel
theorem dX11_coordinate_22 : decode cX11_coordinate 22 = .ok (.lload_n 1, 1) := by decide +kernel
theorem dX11_coordinate_23 : decode cX11_coordinate 23 = .ok (.ldc2_w 230, 3) := by decide +kernel
theorem dX11_coordinate_26 : decode cX11_coordinate 26 = .ok (.lcmp, 1) := by decide +kernel
theorem dX11_coordinate_27 : decode cX11_coordinate 27 = .ok (.ifCond .ne 10, 3) := by decide +kernel
theorem dX11_coordinate_30 : decode cX11_coordinate 30 = .ok (.aload_n 0, 1) := by decide +kernel
theorem dX11_coordinate_31 : decode cX11_coordinate 31 = .ok (.getfield 391, 3) := by decide +kernel
theorem dX11_coordinate_34 : decode cX11_coordinate 34 = .ok (.goto 6, 3) := by decide +kernel
theorem dX11_coordinate_37 : decode cX11_coordinate 37 = .ok (.ldc2_w 131, 3) := by decide +kernel
theorem dX11_coordinate_40 : decode cX11_coordinate 40 = .ok (.lreturn, 1) := by decide +kernel
set_option maxRecDepth 100000 in
set_option maxHeartbeats 4000000 in
theorem mtX11_coordinate (l : Launch) (dC : Nat → ClassId) (dI : Nat → Nat → Nat) (cI cL cB : ClassId) (K : Nat) (h_p0 : Nat) (sz : Nat) (p0_x : Int64) (p0_y : Int64) (p0_lower : Int64) (a1 : Int64) (o_r : Int64) (hf : fX11_coordinate K p0_x p0_y p0_lower a1 = some o_r) : Met l yX11_coordinate [Cond.code yX11_coordinate cX11_coordinate 3 (some .long)] ({ frames := 0, cells := 0, slots := 0, locals := 0 }) (va_Pc [.ref h_p0, .long a1] (cPre dC dI cI cL cB sz [(h_p0, .inr (6, [.long p0_x, .long p0_y, .long p0_lower]))])) (cQl dC dI (va_A [(h_p0, .inr (6, [.long p0_x, .long p0_y, .long p0_lower]))] sz) o_r [(h_p0, .inr (6, [.long p0_x, .long p0_y, .long p0_lower]))]) 0 0 (va_A [(h_p0, .inr (6, [.long p0_x, .long p0_y, .long p0_lower]))] sz) := by
  refine Met.ofW (cc := cX11_coordinate) (maxL := 3) (ret := (some .long)) (by decide) rfl ?_
  intro p e s m args below meth c s₁ B hml hv
  obtain ⟨rfl, hsz, hP, hK, hD0, hT⟩ := hv
  have hx := B.exec
  have hb := B.bytes
  have hr := B.returns
  have hown : s.vm.findClass RX11 = some m.cls := findClass_of_methodNamed B.named
  have hlocks := B.notSynchronized
  have hts := TB.use hT ([.ref h_p0, .long a1] : List Value).toArray
  subst hsz
  have hD := hD0.self (sz := s.heap.size)
  generalize hAe : va_A [(h_p0, .inr (6, [.long p0_x, .long p0_y, .long p0_lower]))] s.heap.size = A at hD ⊢
  have hA : ∀ q : Nat, s.heap.size ≤ q → A q := fun q h => by rw [← hAe]; exact Or.inr h
  clear hAe hD0
  have hl := lv_entry ([.ref h_p0, .long a1]) (n := 3) (Nat.le_of_ble_eq_true rfl)
  rw [lg_entry_eq]
  generalize (lg_sl ([.ref h_p0, .long a1]) ++ List.replicate (3 - (lg_sl ([.ref h_p0, .long a1])).length) Slot.unset).toArray = ls at hl ⊢
  have hl : lv_has ls 3 [(0, .ref h_p0), (1, .long a1)] := hl
  have hF : 0 ≤ (headSpec [Cond.code yX11_coordinate cX11_coordinate 3 (some .long)] ({ frames := 0, cells := 0, slots := 0, locals := 0 })).room.frames := Nat.le_refl _
  have hLo : 0 ≤ (headSpec [Cond.code yX11_coordinate cX11_coordinate 3 (some .long)] ({ frames := 0, cells := 0, slots := 0, locals := 0 })).room.locals := Nat.le_refl _
  have C0 : Sx p (headSpec [Cond.code yX11_coordinate cX11_coordinate 3 (some .long)] ({ frames := 0, cells := 0, slots := 0, locals := 0 })).room s m ([.ref h_p0, .long a1] : List Value).toArray c cX11_coordinate 3 RX11 A dC dI cI cL cB 0 0 := ⟨hx, hb, hml, hown, hts, hK, hT, hA, hF, hLo⟩
  refine startH (A := A) hP (fun H locs hP hS => ?_)
  rw [fX11_coordinate] at hf
  refine lv_lload_n hx hb dX11_coordinate_0 rfl (lv_at hl 1 rfl) ?_
  refine lv_lconst (v := (0 : Int64)) hx hb dX11_coordinate_1 (by decide) ?_
  refine W.lcmp hx hb dX11_coordinate_2 ?_
  refine lv_if_ne (tgt := 11) hx hb dX11_coordinate_3 (by decide) (fun hc => ?_) (fun hc => ?_)
  · replace hf := it_f (fun h9 => hc ((lg_cmp_eq _ _).mpr h9)) hf
    refine lv_lload_n hx hb dX11_coordinate_11 rfl (lv_at hl 1 rfl) ?_
    refine lv_lconst (v := (1 : Int64)) hx hb dX11_coordinate_12 (by decide) ?_
    refine W.lcmp hx hb dX11_coordinate_13 ?_
    refine lv_if_ne (tgt := 22) hx hb dX11_coordinate_14 (by decide) (fun hc => ?_) (fun hc => ?_)
    · replace hf := it_f (fun h9 => hc ((lg_cmp_eq _ _).mpr h9)) hf
      refine lv_lload_n hx hb dX11_coordinate_22 rfl (lv_at hl 1 rfl) ?_
      refine lv_ldc2 (v := (2 : Int64)) hx hb hown (hts _ qj_X11_230) dX11_coordinate_23 ?_
      refine W.lcmp hx hb dX11_coordinate_26 ?_
      refine lv_if_ne (tgt := 37) hx hb dX11_coordinate_27 (by decide) (fun hc => ?_) (fun hc => ?_)
      · replace hf := it_f (fun h9 => hc ((lg_cmp_eq _ _).mpr h9)) hf
        refine lv_ldc2 (v := (-9223372036854775808 : Int64)) hx hb hown (hts _ qj_X11_131) dX11_coordinate_37 ?_
        obtain rfl := o1 hf
        exact W.lret hx hb hr (fun t ht hW => ⟨⟨_, (), rfl, rfl, by rw [ht]; exact hP, hD⟩, hS.F ht⟩) hS.2.2 dX11_coordinate_40
      · replace hf := it_t ((lg_cmp_eq _ _).mp hc) hf
        refine lv_aload_n hx hb dX11_coordinate_30 rfl (lv_at hl 0 rfl) ?_
        refine va_get (D := (dC, dI)) (ci := 6) (v := .long p0_lower) (C := RX6) (T := TX6) (N := 3) hx hb hts in_X6 hown hK hP 0 rfl rfl 2 (Nat.le_of_ble_eq_true rfl) (hts _ qf_X11_391) (fun _ h9 => h9) rfl dX11_coordinate_31 ?_
        refine lv_goto (tgt := 40) hx hb dX11_coordinate_34 (by decide) ?_
        obtain rfl := o1 hf
        exact W.lret hx hb hr (fun t ht hW => ⟨⟨_, (), rfl, rfl, by rw [ht]; exact hP, hD⟩, hS.F ht⟩) hS.2.2 dX11_coordinate_40
    · replace hf := it_t ((lg_cmp_eq _ _).mp hc) hf
      refine lv_aload_n hx hb dX11_coordinate_17 rfl (lv_at hl 0 rfl) ?_
      refine va_get (D := (dC, dI)) (ci := 6) (v := .long p0_y) (C := RX6) (T := TX6) (N := 3) hx hb hts in_X6 hown hK hP 0 rfl rfl 1 (Nat.le_of_ble_eq_true rfl) (hts _ qf_X11_390) (fun _ h9 => h9) rfl dX11_coordinate_18 ?_
      obtain rfl := o1 hf
      exact W.lret hx hb hr (fun t ht hW => ⟨⟨_, (), rfl, rfl, by rw [ht]; exact hP, hD⟩, hS.F ht⟩) hS.2.2 dX11_coordinate_21
  · replace hf := it_t ((lg_cmp_eq _ _).mp hc) hf
    refine lv_aload_n hx hb dX11_coordinate_6 rfl (lv_at hl 0 rfl) ?_
    refine va_get (D := (dC, dI)) (ci := 6) (v := .long p0_x) (C := RX6) (T := TX6) (N := 3) hx hb hts in_X6 hown hK hP 0 rfl rfl 0 (Nat.le_of_ble_eq_true rfl) (hts _ qf_X11_389) (fun _ h9 => h9) rfl dX11_coordinate_7 ?_
    obtain rfl := o1 hf
    exact W.lret hx hb hr (fun t ht hW => ⟨⟨_, (), rfl, rfl, by rw [ht]; exact hP, hD⟩, hS.F ht⟩) hS.2.2 dX11_coordinate_10
