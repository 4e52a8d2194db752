theorem dJ6_bitCount_0f7a4_0 : decode cJ6_bitCount_0f7a4 0 = .ok (.iload_n 0, 1) := by decide +kernel
theorem dJ6_bitCount_0f7a4_1 : decode cJ6_bitCount_0f7a4 1 = .ok (.iload_n 0, 1) := by decide +kernel
theorem dJ6_bitCount_0f7a4_2 : decode cJ6_bitCount_0f7a4 2 = .ok (.iconst 1, 1) := by decide +kernel
theorem dJ6_bitCount_0f7a4_3 : decode cJ6_bitCount_0f7a4 3 = .ok (.iushr, 1) := by decide +kernel
theorem dJ6_bitCount_0f7a4_4 : decode cJ6_bitCount_0f7a4 4 = .ok (.ldc_w 265, 3) := by decide +kernel
theorem dJ6_bitCount_0f7a4_7 : decode cJ6_bitCount_0f7a4 7 = .ok (.iand, 1) := by decide +kernel
theorem dJ6_bitCount_0f7a4_8 : decode cJ6_bitCount_0f7a4 8 = .ok (.isub, 1) := by decide +kernel
theorem dJ6_bitCount_0f7a4_9 : decode cJ6_bitCount_0f7a4 9 = .ok (.istore_n 0, 1) := by decide +kernel
theorem dJ6_bitCount_0f7a4_10 : decode cJ6_bitCount_0f7a4 10 = .ok (.iload_n 0, 1) := by decide +kernel
theorem dJ6_bitCount_0f7a4_11 : decode cJ6_bitCount_0f7a4 11 = .ok (.ldc_w 266, 3) := by decide +kernel
theorem dJ6_bitCount_0f7a4_14 : decode cJ6_bitCount_0f7a4 14 = .ok (.iand, 1) := by decide +kernel
theorem dJ6_bitCount_0f7a4_15 : decode cJ6_bitCount_0f7a4 15 = .ok (.iload_n 0, 1) := by decide +kernel
theorem dJ6_bitCount_0f7a4_16 : decode cJ6_bitCount_0f7a4 16 = .ok (.iconst 2, 1) := by decide +kernel
theorem dJ6_bitCount_0f7a4_17 : decode cJ6_bitCount_0f7a4 17 = .ok (.iushr, 1) := by decide +kernel
theorem dJ6_bitCount_0f7a4_18 : decode cJ6_bitCount_0f7a4 18 = .ok (.ldc_w 266, 3) := by decide +kernel
theorem dJ6_bitCount_0f7a4_21 : decode cJ6_bitCount_0f7a4 21 = .ok (.iand, 1) := by decide +kernel
theorem dJ6_bitCount_0f7a4_22 : decode cJ6_bitCount_0f7a4 22 = .ok (.iadd, 1) := by decide +kernel
theorem dJ6_bitCount_0f7a4_23 : decode cJ6_bitCount_0f7a4 23 = .ok (.istore_n 0, 1) := by decide +kernel
theorem dJ6_bitCount_0f7a4_24 : decode cJ6_bitCount_0f7a4 24 = .ok (.iload_n 0, 1) := by decide +kernel
theorem dJ6_bitCount_0f7a4_25 : decode cJ6_bitCount_0f7a4 25 = .ok (.iload_n 0, 1) := by decide +kernel
theorem dJ6_bitCount_0f7a4_26 : decode cJ6_bitCount_0f7a4 26 = .ok (.iconst 4, 1) := by decide +kernel
theorem dJ6_bitCount_0f7a4_27 : decode cJ6_bitCount_0f7a4 27 = .ok (.iushr, 1) := by decide +kernel
theorem dJ6_bitCount_0f7a4_28 : decode cJ6_bitCount_0f7a4 28 = .ok (.iadd, 1) := by decide +kernel
theorem dJ6_bitCount_0f7a4_29 : decode cJ6_bitCount_0f7a4 29 = .ok (.ldc_w 267, 3) := by decide +kernel
theorem dJ6_bitCount_0f7a4_32 : decode cJ6_bitCount_0f7a4 32 = .ok (.iand, 1) := by decide +kernel
theorem dJ6_bitCount_0f7a4_33 : decode cJ6_bitCount_0f7a4 33 = .ok (.istore_n 0, 1) := by decide +kernel
theorem dJ6_bitCount_0f7a4_34 : decode cJ6_bitCount_0f7a4 34 = .ok (.iload_n 0, 1) := by decide +kernel
theorem dJ6_bitCount_0f7a4_35 : decode cJ6_bitCount_0f7a4 35 = .ok (.iload_n 0, 1) := by decide +kernel
theorem dJ6_bitCount_0f7a4_36 : decode cJ6_bitCount_0f7a4 36 = .ok (.bipush 8, 2) := by decide +kernel
theorem dJ6_bitCount_0f7a4_38 : decode cJ6_bitCount_0f7a4 38 = .ok (.iushr, 1) := by decide +kernel
theorem dJ6_bitCount_0f7a4_39 : decode cJ6_bitCount_0f7a4 39 = .ok (.iadd, 1) := by decide +kernel
theorem dJ6_bitCount_0f7a4_40 : decode cJ6_bitCount_0f7a4 40 = .ok (.istore_n 0, 1) := by decide +kernel
theorem dJ6_bitCount_0f7a4_41 : decode cJ6_bitCount_0f7a4 41 = .ok (.iload_n 0, 1) := by decide +kernel
theorem dJ6_bitCount_0f7a4_42 : decode cJ6_bitCount_0f7a4 42 = .ok (.iload_n 0, 1) := by decide +kernel
theorem dJ6_bitCount_0f7a4_43 : decode cJ6_bitCount_0f7a4 43 = .ok (.bipush 16, 2) := by decide +kernel
theorem dJ6_bitCount_0f7a4_45 : decode cJ6_bitCount_0f7a4 45 = .ok (.iushr, 1) := by decide +kernel
theorem dJ6_bitCount_0f7a4_46 : decode cJ6_bitCount_0f7a4 46 = .ok (.iadd, 1) := by decide +kernel
theorem dJ6_bitCount_0f7a4_47 : decode cJ6_bitCount_0f7a4 47 = .ok (.istore_n 0, 1) := by decide +kernel
theorem dJ6_bitCount_0f7a4_48 : decode cJ6_bitCount_0f7a4 48 = .ok (.iload_n 0, 1) := by decide +kernel
theorem dJ6_bitCount_0f7a4_49 : decode cJ6_bitCount_0f7a4 49 = .ok (.bipush 63, 2) := by decide +kernel
theorem dJ6_bitCount_0f7a4_51 : decode cJ6_bitCount_0f7a4 51 = .ok (.iand, 1) := by decide +kernel
theorem dJ6_bitCount_0f7a4_52 : decode cJ6_bitCount_0f7a4 52 = .ok (.ireturn, 1) := by decide +kernel
set_option maxRecDepth 100000 in
set_option maxHeartbeats 4000000 in
theorem mtJ6_bitCount_0f7a4 (l : Launch) (dC : Nat → ClassId) (dI : Nat → Nat → Nat) (cI cL cB : ClassId) (K : Nat) (sz : Nat) (a0 : Int32) (o_r : Int32) (hf : fJ6_bitCount_0f7a4 K a0 = some o_r) : Met l yJ6_bitCount_0f7a4 [Cond.code yJ6_bitCount_0f7a4 cJ6_bitCount_0f7a4 1 (some .int)] ({ frames := 0, cells := 0, slots := 0, locals := 0 }) (va_Pc [.int a0] (cPre dC dI cI cL cB sz [])) (cQi dC dI (va_A [] sz) o_r []) 0 0 (va_A [] sz) := by
  refine Met.ofW (cc := cJ6_bitCount_0f7a4) (maxL := 1) (ret := (some .int)) (by decide) rfl ?_
  intro p e s m args below meth c s₁ B hml hv
  obtain ⟨rfl, hsz, hP, hK, hD0, hT⟩ := hv
  have hx := B.exec
  have hb := B.bytes
  have hr := B.returns
  have hown : s.vm.findClass RJ6 = some m.cls := findClass_of_methodNamed B.named
  have hlocks := B.notSynchronized
  have hts := TB.use hT ([.int a0] : List Value).toArray
  subst hsz
  have hD := hD0.self (sz := s.heap.size)
  generalize hAe : va_A [] s.heap.size = A at hD ⊢
  have hA : ∀ q : Nat, s.heap.size ≤ q → A q := fun q h => by rw [← hAe]; exact Or.inr h
  clear hAe hD0
  have hl := lv_entry ([.int a0]) (n := 1) (Nat.le_of_ble_eq_true rfl)
  rw [lg_entry_eq]
  generalize (lg_sl ([.int a0]) ++ List.replicate (1 - (lg_sl ([.int a0])).length) Slot.unset).toArray = ls at hl ⊢
  have hl : lv_has ls 1 [(0, .int a0)] := hl
  have hF : 0 ≤ (headSpec [Cond.code yJ6_bitCount_0f7a4 cJ6_bitCount_0f7a4 1 (some .int)] ({ frames := 0, cells := 0, slots := 0, locals := 0 })).room.frames := Nat.le_refl _
  have hLo : 0 ≤ (headSpec [Cond.code yJ6_bitCount_0f7a4 cJ6_bitCount_0f7a4 1 (some .int)] ({ frames := 0, cells := 0, slots := 0, locals := 0 })).room.locals := Nat.le_refl _
  have C0 : Sx p (headSpec [Cond.code yJ6_bitCount_0f7a4 cJ6_bitCount_0f7a4 1 (some .int)] ({ frames := 0, cells := 0, slots := 0, locals := 0 })).room s m ([.int a0] : List Value).toArray c cJ6_bitCount_0f7a4 1 RJ6 A dC dI cI cL cB 0 0 := ⟨hx, hb, hml, hown, hts, hK, hT, hA, hF, hLo⟩
  refine startH (A := A) hP (fun H locs hP hS => ?_)
  rw [fJ6_bitCount_0f7a4] at hf
  refine lv_iload_n hx hb dJ6_bitCount_0f7a4_0 rfl (lv_at hl 0 rfl) ?_
  refine lv_iload_n hx hb dJ6_bitCount_0f7a4_1 rfl (lv_at hl 0 rfl) ?_
  refine lv_iconst (v := (1 : Int32)) hx hb dJ6_bitCount_0f7a4_2 (by decide) ?_
  refine lv_iushr (v := jushr a0 (1 : Int32)) hx hb dJ6_bitCount_0f7a4_3 rfl ?_
  refine lv_ldcw (v := (1431655765 : Int32)) hx hb hown (hts _ qk_J6_265) dJ6_bitCount_0f7a4_4 ?_
  refine lv_iand hx hb dJ6_bitCount_0f7a4_7 ?_
  refine lv_isub hx hb dJ6_bitCount_0f7a4_8 ?_
  refine lv_topi (fun l0_1 el0_1 => ?_)
  replace hf := xl_at hf el0_1
  refine lv_istore_n (lv' := [(0, .int l0_1)]) hx hb dJ6_bitCount_0f7a4_9 rfl hl (Nat.le_of_ble_eq_true rfl) rfl (fun ls hl => ?_)
  refine lv_iload_n hx hb dJ6_bitCount_0f7a4_10 rfl (lv_at hl 0 rfl) ?_
  refine lv_ldcw (v := (858993459 : Int32)) hx hb hown (hts _ qk_J6_266) dJ6_bitCount_0f7a4_11 ?_
  refine lv_iand hx hb dJ6_bitCount_0f7a4_14 ?_
  refine lv_iload_n hx hb dJ6_bitCount_0f7a4_15 rfl (lv_at hl 0 rfl) ?_
  refine lv_iconst (v := (2 : Int32)) hx hb dJ6_bitCount_0f7a4_16 (by decide) ?_
  refine lv_iushr (v := jushr l0_1 (2 : Int32)) hx hb dJ6_bitCount_0f7a4_17 rfl ?_
  refine lv_ldcw (v := (858993459 : Int32)) hx hb hown (hts _ qk_J6_266) dJ6_bitCount_0f7a4_18 ?_
  refine lv_iand hx hb dJ6_bitCount_0f7a4_21 ?_
  refine lv_iadd hx hb dJ6_bitCount_0f7a4_22 ?_
  refine lv_topi (fun l0_2 el0_2 => ?_)
  replace hf := xl_at hf el0_2
  refine lv_istore_n (lv' := [(0, .int l0_2)]) hx hb dJ6_bitCount_0f7a4_23 rfl hl (Nat.le_of_ble_eq_true rfl) rfl (fun ls hl => ?_)
  refine lv_iload_n hx hb dJ6_bitCount_0f7a4_24 rfl (lv_at hl 0 rfl) ?_
  refine lv_iload_n hx hb dJ6_bitCount_0f7a4_25 rfl (lv_at hl 0 rfl) ?_
  refine lv_iconst (v := (4 : Int32)) hx hb dJ6_bitCount_0f7a4_26 (by decide) ?_
  refine lv_iushr (v := jushr l0_2 (4 : Int32)) hx hb dJ6_bitCount_0f7a4_27 rfl ?_
  refine lv_iadd hx hb dJ6_bitCount_0f7a4_28 ?_
  refine lv_ldcw (v := (252645135 : Int32)) hx hb hown (hts _ qk_J6_267) dJ6_bitCount_0f7a4_29 ?_
  refine lv_iand hx hb dJ6_bitCount_0f7a4_32 ?_
  refine lv_topi (fun l0_3 el0_3 => ?_)
  replace hf := xl_at hf el0_3
  refine lv_istore_n (lv' := [(0, .int l0_3)]) hx hb dJ6_bitCount_0f7a4_33 rfl hl (Nat.le_of_ble_eq_true rfl) rfl (fun ls hl => ?_)
  refine lv_iload_n hx hb dJ6_bitCount_0f7a4_34 rfl (lv_at hl 0 rfl) ?_
  refine lv_iload_n hx hb dJ6_bitCount_0f7a4_35 rfl (lv_at hl 0 rfl) ?_
  refine lv_bipush (v := (8 : Int32)) hx hb dJ6_bitCount_0f7a4_36 (by decide) ?_
  refine lv_iushr (v := jushr l0_3 (8 : Int32)) hx hb dJ6_bitCount_0f7a4_38 rfl ?_
  refine lv_iadd hx hb dJ6_bitCount_0f7a4_39 ?_
  refine lv_topi (fun l0_4 el0_4 => ?_)
  replace hf := xl_at hf el0_4
  refine lv_istore_n (lv' := [(0, .int l0_4)]) hx hb dJ6_bitCount_0f7a4_40 rfl hl (Nat.le_of_ble_eq_true rfl) rfl (fun ls hl => ?_)
  refine lv_iload_n hx hb dJ6_bitCount_0f7a4_41 rfl (lv_at hl 0 rfl) ?_
  refine lv_iload_n hx hb dJ6_bitCount_0f7a4_42 rfl (lv_at hl 0 rfl) ?_
  refine lv_bipush (v := (16 : Int32)) hx hb dJ6_bitCount_0f7a4_43 (by decide) ?_
  refine lv_iushr (v := jushr l0_4 (16 : Int32)) hx hb dJ6_bitCount_0f7a4_45 rfl ?_
  refine lv_iadd hx hb dJ6_bitCount_0f7a4_46 ?_
  refine lv_topi (fun l0_5 el0_5 => ?_)
  replace hf := xl_at hf el0_5
  refine lv_istore_n (lv' := [(0, .int l0_5)]) hx hb dJ6_bitCount_0f7a4_47 rfl hl (Nat.le_of_ble_eq_true rfl) rfl (fun ls hl => ?_)
  refine lv_iload_n hx hb dJ6_bitCount_0f7a4_48 rfl (lv_at hl 0 rfl) ?_
  refine lv_bipush (v := (63 : Int32)) hx hb dJ6_bitCount_0f7a4_49 (by decide) ?_
  refine lv_iand hx hb dJ6_bitCount_0f7a4_51 ?_
  obtain rfl := o1 hf
  exact W.iret hx hb hr (fun t ht hW => ⟨⟨_, (), rfl, rfl, by rw [ht]; exact hP, hD⟩, hS.F ht⟩) hS.2.2 dJ6_bitCount_0f7a4_52
theorem dX8_hasRoom_0 : decode cX8_hasRoom 0 = .ok (.aload_n 0, 1) := by decide +kernel
theorem dX8_hasRoom_1 : decode cX8_hasRoom 1 = .ok (.getfield 26, 3) := by decide +kernel
theorem dX8_hasRoom_4 : decode cX8_hasRoom 4 = .ok (.iload_n 1, 1) := by decide +kernel
theorem dX8_hasRoom_5 : decode cX8_hasRoom 5 = .ok (.iadd, 1) := by decide +kernel
theorem dX8_hasRoom_6 : decode cX8_hasRoom 6 = .ok (.aload_n 0, 1) := by decide +kernel
theorem dX8_hasRoom_7 : decode cX8_hasRoom 7 = .ok (.getfield 9, 3) := by decide +kernel
theorem dX8_hasRoom_10 : decode cX8_hasRoom 10 = .ok (.arraylength, 1) := by decide +kernel
theorem dX8_hasRoom_11 : decode cX8_hasRoom 11 = .ok (.if_icmp .gt 7, 3) := by decide +kernel
theorem dX8_hasRoom_14 : decode cX8_hasRoom 14 = .ok (.iconst 1, 1) := by decide +kernel
theorem dX8_hasRoom_15 : decode cX8_hasRoom 15 = .ok (.goto 4, 3) := by decide +kernel
theorem dX8_hasRoom_18 : decode cX8_hasRoom 18 = .ok (.iconst 0, 1) := by decide +kernel
theorem dX8_hasRoom_19 : decode cX8_hasRoom 19 = .ok (.ireturn, 1) := by decide +kernel
set_option maxRecDepth 100000 in
set_option maxHeartbeats 4000000 in
theorem mtX8_hasRoom (l : Launch) (dC : Nat → ClassId) (dI : Nat → Nat → Nat) (cI cL cB : ClassId) (K : Nat) (h_t h_t_tape h_t_draft : Nat) (sz : Nat) (t_length : Int32) (t_faultKind : Int32) (t_faultPlace : Int32) (t_centreTold : Int32) (t_start : Int32) (t_next : Int32) (t_kind : Int32) (t_value : Int32) (t_tape : Nat → Int32) (a1 : Int32) (o_r : Int32) (hf : fX8_hasRoom K t_length a1 = some o_r) : Met l yX8_hasRoom [Cond.code yX8_hasRoom cX8_hasRoom 2 (some .boolean)] ({ frames := 0, cells := 0, slots := 0, locals := 0 }) (va_Pc [.ref h_t, .int a1] (cPre dC dI cI cL cB sz [(h_t, .inr (8, [.ref h_t_tape, .ref h_t_draft, .int t_length, .int t_faultKind, .int t_faultPlace, .int t_centreTold, .int t_start, .int t_next, .int t_kind, .int t_value])), (h_t_tape, .inl (cB, 600, .inl t_tape))])) (cQi dC dI (va_A [(h_t, .inr (8, [.ref h_t_tape, .ref h_t_draft, .int t_length, .int t_faultKind, .int t_faultPlace, .int t_centreTold, .int t_start, .int t_next, .int t_kind, .int t_value])), (h_t_tape, .inl (cB, 600, .inl t_tape))] sz) o_r [(h_t, .inr (8, [.ref h_t_tape, .ref h_t_draft, .int t_length, .int t_faultKind, .int t_faultPlace, .int t_centreTold, .int t_start, .int t_next, .int t_kind, .int t_value])), (h_t_tape, .inl (cB, 600, .inl t_tape))]) 0 0 (va_A [(h_t, .inr (8, [.ref h_t_tape, .ref h_t_draft, .int t_length, .int t_faultKind, .int t_faultPlace, .int t_centreTold, .int t_start, .int t_next, .int t_kind, .int t_value])), (h_t_tape, .inl (cB, 600, .inl t_tape))] sz) := by
  refine Met.ofW (cc := cX8_hasRoom) (maxL := 2) (ret := (some .boolean)) (by decide) rfl ?_
  intro p e s m args below meth c s₁ B hml hv
  obtain ⟨rfl, hsz, hP, hK, hD0, hT⟩ := hv
  have hx := B.exec
  have hb := B.bytes
  have hr := B.returns
  have hown : s.vm.findClass RX8 = some m.cls := findClass_of_methodNamed B.named
  have hlocks := B.notSynchronized
  have hts := TB.use hT ([.ref h_t, .int a1] : List Value).toArray
  subst hsz
  have hD := hD0.self (sz := s.heap.size)
  generalize hAe : va_A [(h_t, .inr (8, [.ref h_t_tape, .ref h_t_draft, .int t_length, .int t_faultKind, .int t_faultPlace, .int t_centreTold, .int t_start, .int t_next, .int t_kind, .int t_value])), (h_t_tape, .inl (cB, 600, .inl t_tape))] s.heap.size = A at hD ⊢
  have hA : ∀ q : Nat, s.heap.size ≤ q → A q := fun q h => by rw [← hAe]; exact Or.inr h
  clear hAe hD0
  have hl := lv_entry ([.ref h_t, .int a1]) (n := 2) (Nat.le_of_ble_eq_true rfl)
  rw [lg_entry_eq]
  generalize (lg_sl ([.ref h_t, .int a1]) ++ List.replicate (2 - (lg_sl ([.ref h_t, .int a1])).length) Slot.unset).toArray = ls at hl ⊢
  have hl : lv_has ls 2 [(0, .ref h_t), (1, .int a1)] := hl
  have hF : 0 ≤ (headSpec [Cond.code yX8_hasRoom cX8_hasRoom 2 (some .boolean)] ({ frames := 0, cells := 0, slots := 0, locals := 0 })).room.frames := Nat.le_refl _
  have hLo : 0 ≤ (headSpec [Cond.code yX8_hasRoom cX8_hasRoom 2 (some .boolean)] ({ frames := 0, cells := 0, slots := 0, locals := 0 })).room.locals := Nat.le_refl _
  have C0 : Sx p (headSpec [Cond.code yX8_hasRoom cX8_hasRoom 2 (some .boolean)] ({ frames := 0, cells := 0, slots := 0, locals := 0 })).room s m ([.ref h_t, .int a1] : List Value).toArray c cX8_hasRoom 2 RX8 A dC dI cI cL cB 0 0 := ⟨hx, hb, hml, hown, hts, hK, hT, hA, hF, hLo⟩
  refine startH (A := A) hP (fun H locs hP hS => ?_)
  rw [fX8_hasRoom] at hf
  refine lv_aload_n hx hb dX8_hasRoom_0 rfl (lv_at hl 0 rfl) ?_
  refine va_get (D := (dC, dI)) (ci := 8) (v := .int t_length) (C := RX8) (T := TX8) (N := 10) hx hb hts in_X8 hown hK hP 0 rfl rfl 2 (Nat.le_of_ble_eq_true rfl) (hts _ qf_X8_26) (fun _ h9 => h9) rfl dX8_hasRoom_1 ?_
  refine lv_iload_n hx hb dX8_hasRoom_4 rfl (lv_at hl 1 rfl) ?_
  refine lv_iadd hx hb dX8_hasRoom_5 ?_
  refine lv_aload_n hx hb dX8_hasRoom_6 rfl (lv_at hl 0 rfl) ?_
  refine va_get (D := (dC, dI)) (ci := 8) (v := .ref h_t_tape) (C := RX8) (T := TX8) (N := 10) hx hb hts in_X8 hown hK hP 0 rfl rfl 0 (Nat.le_of_ble_eq_true rfl) (hts _ qf_X8_9) (fun _ h9 => h9) rfl dX8_hasRoom_7 ?_
  refine va_alen (v := (600 : Int32)) hx hb hK hP 1 2 rfl rfl rfl dX8_hasRoom_10 ?_
  refine lv_icmp_gt (tgt := 18) hx hb dX8_hasRoom_11 (by decide) (fun hc => ?_) (fun hc => ?_)
  · replace hf := it_t (hc) hf
    refine lv_iconst (v := (0 : Int32)) hx hb dX8_hasRoom_18 (by decide) ?_
    obtain rfl := o1 hf
    exact W.zret hx hb hr rfl (fun t ht hW => ⟨⟨_, (), rfl, rfl, by rw [ht]; exact hP, hD⟩, hS.F ht⟩) hS.2.2 dX8_hasRoom_19
  · replace hf := it_f (hc) hf
    refine lv_iconst (v := (1 : Int32)) hx hb dX8_hasRoom_14 (by decide) ?_
    refine lv_goto (tgt := 19) hx hb dX8_hasRoom_15 (by decide) ?_
    obtain rfl := o1 hf
    exact W.zret hx hb hr rfl (fun t ht hW => ⟨⟨_, (), rfl, rfl, by rw [ht]; exact hP, hD⟩, hS.F ht⟩) hS.2.2 dX8_hasRoom_19
theorem dX8_append_0 : decode cX8_append 0 = .ok (.bipush 24, 2) := by decide +kernel
theorem dX8_append_2 : decode cX8_append 2 = .ok (.istore_n 2, 1) := by decide +kernel
theorem dX8_append_3 : decode cX8_append 3 = .ok (.iload_n 2, 1) := by decide +kernel
theorem dX8_append_4 : decode cX8_append 4 = .ok (.ifCond .lt 44, 3) := by decide +kernel
theorem dX8_append_7 : decode cX8_append 7 = .ok (.aload_n 0, 1) := by decide +kernel
theorem dX8_append_8 : decode cX8_append 8 = .ok (.getfield 26, 3) := by decide +kernel
theorem dX8_append_11 : decode cX8_append 11 = .ok (.aload_n 0, 1) := by decide +kernel
theorem dX8_append_12 : decode cX8_append 12 = .ok (.getfield 9, 3) := by decide +kernel
theorem dX8_append_15 : decode cX8_append 15 = .ok (.arraylength, 1) := by decide +kernel
theorem dX8_append_16 : decode cX8_append 16 = .ok (.if_icmp .ge 32, 3) := by decide +kernel
theorem dX8_append_19 : decode cX8_append 19 = .ok (.aload_n 0, 1) := by decide +kernel
theorem dX8_append_20 : decode cX8_append 20 = .ok (.getfield 9, 3) := by decide +kernel
theorem dX8_append_23 : decode cX8_append 23 = .ok (.aload_n 0, 1) := by decide +kernel
theorem dX8_append_24 : decode cX8_append 24 = .ok (.getfield 26, 3) := by decide +kernel
theorem dX8_append_27 : decode cX8_append 27 = .ok (.iload_n 1, 1) := by decide +kernel
theorem dX8_append_28 : decode cX8_append 28 = .ok (.iload_n 2, 1) := by decide +kernel
theorem dX8_append_29 : decode cX8_append 29 = .ok (.ishr, 1) := by decide +kernel
theorem dX8_append_30 : decode cX8_append 30 = .ok (.i2b, 1) := by decide +kernel
theorem dX8_append_31 : decode cX8_append 31 = .ok (.bastore, 1) := by decide +kernel
theorem dX8_append_32 : decode cX8_append 32 = .ok (.aload_n 0, 1) := by decide +kernel
theorem dX8_append_33 : decode cX8_append 33 = .ok (.dup, 1) := by decide +kernel
theorem dX8_append_34 : decode cX8_append 34 = .ok (.getfield 26, 3) := by decide +kernel
theorem dX8_append_37 : decode cX8_append 37 = .ok (.iconst 1, 1) := by decide +kernel
theorem dX8_append_38 : decode cX8_append 38 = .ok (.iadd, 1) := by decide +kernel
theorem dX8_append_39 : decode cX8_append 39 = .ok (.putfield 26, 3) := by decide +kernel
theorem dX8_append_42 : decode cX8_append 42 = .ok (.iinc 2 (-8), 3) := by decide +kernel
theorem dX8_append_45 : decode cX8_append 45 = .ok (.goto (-42), 3) := by decide +kernel
theorem dX8_append_48 : decode cX8_append 48 = .ok (.return_, 1) := by decide +kernel
set_option maxRecDepth 100000 in
set_option maxHeartbeats 4000000 in
theorem wX8_append_L3 {p : Program} {l : Launch} {e : Env} {R : Room} {s : State} {m : MethodId} {args : Array Value} {below : List Frame} {meth : Method} {c : Code} {Q : State → Prop} {A : Nat → Prop} {dC : Nat → ClassId} {dI : Nat → Nat → Nat} {cI cL cB : ClassId} {K : Nat} (C0 : Sx p R s m args c cX8_append 3 RX8 A dC dI cI cL cB 0 0) (h_t h_t_tape h_t_draft : Nat) (t_faultKind : Int32) (t_faultPlace : Int32) (t_centreTold : Int32) (t_start : Int32) (t_next : Int32) (t_kind : Int32) (t_value : Int32) (l1 : Int32) : ∀ (n : Nat) (l2 : Int32) (t_length : Int32) (t_tape : Nat → Int32) (x_t_length : Int32) (x_t_tape : Nat → Int32) (H : Heap) (locs : List Loc) (ls : Array Slot), va_P (dC, dI) vwCl [(h_t, .inr (8, [.ref h_t_tape, .ref h_t_draft, .int t_length, .int t_faultKind, .int t_faultPlace, .int t_centreTold, .int t_start, .int t_next, .int t_kind, .int t_value])), (h_t_tape, .inl (cB, 600, .inl t_tape))] H → va_D A [(h_t, .inr (8, [.ref h_t_tape, .ref h_t_draft, .int t_length, .int t_faultKind, .int t_faultPlace, .int t_centreTold, .int t_start, .int t_next, .int t_kind, .int t_value])), (h_t_tape, .inl (cB, 600, .inl t_tape))] → va_S A s.heap H locs → lv_has ls 3 [(0, .ref h_t), (1, .int l1), (2, .int l2)] → fX8_append_L3 K l1 n l2 t_length t_tape = some (x_t_length, x_t_tape) → (∀ (H : Heap) (locs : List Loc) (ls : Array Slot), va_P (dC, dI) vwCl [(h_t, .inr (8, [.ref h_t_tape, .ref h_t_draft, .int x_t_length, .int t_faultKind, .int t_faultPlace, .int t_centreTold, .int t_start, .int t_next, .int t_kind, .int t_value])), (h_t_tape, .inl (cB, 600, .inl x_t_tape))] H → va_D A [(h_t, .inr (8, [.ref h_t_tape, .ref h_t_draft, .int x_t_length, .int t_faultKind, .int t_faultPlace, .int t_centreTold, .int t_start, .int t_next, .int t_kind, .int t_value])), (h_t_tape, .inl (cB, 600, .inl x_t_tape))] → va_S A s.heap H locs → lv_has ls 3 [] → W p l e R s m args below meth c H locs 0 0 Q (F0 m 48 ls [])) → W p l e R s m args below meth c H locs 0 0 Q (F0 m 3 ls []) := by
  obtain ⟨hx, hb, hml, hown, hts, hK, hT, hA, hF, hLo⟩ := id C0
  intro n
  induction n with
  | zero =>
    intro l2 t_length t_tape x_t_length x_t_tape H locs ls hP hD hS hl hf
    rw [fX8_append_L3] at hf
    cases hf
  | succ n ih =>
    intro l2 t_length t_tape x_t_length x_t_tape H locs ls hP hD hS hl hf hk
    rw [fX8_append_L3] at hf
    refine lv_iload_n hx hb dX8_append_3 rfl (lv_at hl 2 rfl) ?_
    refine lv_if_lt (tgt := 48) hx hb dX8_append_4 (by decide) (fun hc => ?_) (fun hc => ?_)
    · replace hf := it_t (hc) hf
      obtain ⟨rfl, rfl⟩ := o2 hf
      exact hk H locs ls hP hD hS (lv_sub hl [] rfl)
    · replace hf := it_f (hc) hf
      refine lv_aload_n hx hb dX8_append_7 rfl (lv_at hl 0 rfl) ?_
      refine va_get (D := (dC, dI)) (ci := 8) (v := .int t_length) (C := RX8) (T := TX8) (N := 10) hx hb hts in_X8 hown hK hP 0 rfl rfl 2 (Nat.le_of_ble_eq_true rfl) (hts _ qf_X8_26) (fun _ h9 => h9) rfl dX8_append_8 ?_
      refine lv_aload_n hx hb dX8_append_11 rfl (lv_at hl 0 rfl) ?_
      refine va_get (D := (dC, dI)) (ci := 8) (v := .ref h_t_tape) (C := RX8) (T := TX8) (N := 10) hx hb hts in_X8 hown hK hP 0 rfl rfl 0 (Nat.le_of_ble_eq_true rfl) (hts _ qf_X8_9) (fun _ h9 => h9) rfl dX8_append_12 ?_
      refine va_alen (v := (600 : Int32)) hx hb hK hP 1 2 rfl rfl rfl dX8_append_15 ?_
      refine lv_icmp_ge (tgt := 48) hx hb dX8_append_16 (by decide) (fun hc => ?_) (fun hc => ?_)
      · replace hf := it_t (hc) hf
        obtain ⟨rfl, rfl⟩ := o2 hf
        exact hk H locs ls hP hD hS (lv_sub hl [] rfl)
      · replace hf := it_f (hc) hf
        refine lv_aload_n hx hb dX8_append_19 rfl (lv_at hl 0 rfl) ?_
        refine va_get (D := (dC, dI)) (ci := 8) (v := .ref h_t_tape) (C := RX8) (T := TX8) (N := 10) hx hb hts in_X8 hown hK hP 0 rfl rfl 0 (Nat.le_of_ble_eq_true rfl) (hts _ qf_X8_9) (fun _ h9 => h9) rfl dX8_append_20 ?_
        refine lv_aload_n hx hb dX8_append_23 rfl (lv_at hl 0 rfl) ?_
        refine va_get (D := (dC, dI)) (ci := 8) (v := .int t_length) (C := RX8) (T := TX8) (N := 10) hx hb hts in_X8 hown hK hP 0 rfl rfl 2 (Nat.le_of_ble_eq_true rfl) (hts _ qf_X8_26) (fun _ h9 => h9) rfl dX8_append_24 ?_
        refine lv_iload_n hx hb dX8_append_27 rfl (lv_at hl 1 rfl) ?_
        refine lv_iload_n hx hb dX8_append_28 rfl (lv_at hl 2 rfl) ?_
        refine lv_ishr hx hb dX8_append_29 ?_
        refine lv_i2b hx hb dX8_append_30 rfl ?_
        obtain ⟨hg_1, hf⟩ := gd_some hf
        obtain ⟨t_tape_2, et_tape_2⟩ : ∃ y : Nat → Int32, y = upd t_tape t_length.toNatClampNeg (vp_nar .byte ((l1 >>> (l2 &&& 31)).toInt8.toInt32)) := ⟨_, rfl⟩
        replace hf := xl_at hf et_tape_2
        refine xbast (w2 := [(h_t, .inr (8, [.ref h_t_tape, .ref h_t_draft, .int t_length, .int t_faultKind, .int t_faultPlace, .int t_centreTold, .int t_start, .int t_next, .int t_kind, .int t_value])), (h_t_tape, .inl (cB, 600, .inl t_tape_2))]) hx hb hK hP hD hS 1 2 rfl rfl (inb_in hg_1) et_tape_2 rfl dX8_append_31 (fun H locs hP hD hS => ?_)
        refine lv_aload_n hx hb dX8_append_32 rfl (lv_at hl 0 rfl) ?_
        refine lv_dup hx hb dX8_append_33 rfl ?_
        refine va_get (D := (dC, dI)) (ci := 8) (v := .int t_length) (C := RX8) (T := TX8) (N := 10) hx hb hts in_X8 hown hK hP 0 rfl rfl 2 (Nat.le_of_ble_eq_true rfl) (hts _ qf_X8_26) (fun _ h9 => h9) rfl dX8_append_34 ?_
        refine lv_iconst (v := (1 : Int32)) hx hb dX8_append_37 (by decide) ?_
        refine lv_iadd hx hb dX8_append_38 ?_
        refine lv_topi (fun f_length_3 ef_length_3 => ?_)
        replace hf := xl_at hf ef_length_3
        refine xput (D := (dC, dI)) (ci := 8) (v := .int f_length_3) (C := RX8) (T := TX8) (N := 10) (w2 := [(h_t, .inr (8, [.ref h_t_tape, .ref h_t_draft, .int f_length_3, .int t_faultKind, .int t_faultPlace, .int t_centreTold, .int t_start, .int t_next, .int t_kind, .int t_value])), (h_t_tape, .inl (cB, 600, .inl t_tape_2))]) hx hb hts in_X8 tyX8 tyX8_ok nmX8 hown hK hP hD hS 0 rfl rfl 2 (Nat.le_of_ble_eq_true rfl) (hts _ qf_X8_26) (fun _ h9 => h9) rfl rfl rfl (Nat.le_of_ble_eq_true rfl) rfl dX8_append_39 (fun H locs hP hD hS => ?_)
        obtain ⟨l2_4, el2_4⟩ : ∃ y : Int32, y = l2 + (-8 : Int32) := ⟨_, rfl⟩
        replace hf := xl_at hf el2_4
        refine lv_iinc (v := l2_4) (lv' := [(2, .int l2_4), (0, .ref h_t), (1, .int l1)]) hx hb dX8_append_42 hl (k := 2) rfl (by rw [el2_4]; rfl) (Nat.le_of_ble_eq_true rfl) rfl (fun ls hl => ?_)
        refine lv_goto (tgt := 3) hx hb dX8_append_45 (by decide) ?_
        exact ih l2_4 f_length_3 t_tape_2 _ _ H locs ls hP hD hS (lv_sub hl [1, 2, 0] rfl) hf hk
set_option maxRecDepth 100000 in
set_option maxHeartbeats 4000000 in
theorem mtX8_append (l : Launch) (dC : Nat → ClassId) (dI : Nat → Nat → Nat) (cI cL cB : ClassId) (K : Nat) (h_t h_t_tape h_t_draft : Nat) (sz : Nat) (t_length : Int32) (t_faultKind : Int32) (t_faultPlace : Int32) (t_centreTold : Int32) (t_start : Int32) (t_next : Int32) (t_kind : Int32) (t_value : Int32) (t_tape : Nat → Int32) (a1 : Int32) (o_t_length : Int32) (o_t_tape : Nat → Int32) (hf : fX8_append K t_length t_tape a1 = some (o_t_length, o_t_tape)) : Met l yX8_append [Cond.code yX8_append cX8_append 3 none] ({ frames := 0, cells := 0, slots := 0, locals := 0 }) (va_Pc [.ref h_t, .int a1] (cPre dC dI cI cL cB sz [(h_t, .inr (8, [.ref h_t_tape, .ref h_t_draft, .int t_length, .int t_faultKind, .int t_faultPlace, .int t_centreTold, .int t_start, .int t_next, .int t_kind, .int t_value])), (h_t_tape, .inl (cB, 600, .inl t_tape))])) (cQv dC dI (va_A [(h_t, .inr (8, [.ref h_t_tape, .ref h_t_draft, .int t_length, .int t_faultKind, .int t_faultPlace, .int t_centreTold, .int t_start, .int t_next, .int t_kind, .int t_value])), (h_t_tape, .inl (cB, 600, .inl t_tape))] sz) [(h_t, .inr (8, [.ref h_t_tape, .ref h_t_draft, .int o_t_length, .int t_faultKind, .int t_faultPlace, .int t_centreTold, .int t_start, .int t_next, .int t_kind, .int t_value])), (h_t_tape, .inl (cB, 600, .inl o_t_tape))]) 0 0 (va_A [(h_t, .inr (8, [.ref h_t_tape, .ref h_t_draft, .int t_length, .int t_faultKind, .int t_faultPlace, .int t_centreTold, .int t_start, .int t_next, .int t_kind, .int t_value])), (h_t_tape, .inl (cB, 600, .inl t_tape))] sz) := by
  refine Met.ofW (cc := cX8_append) (maxL := 3) (ret := none) (by decide) rfl ?_
  intro p e s m args below meth c s₁ B hml hv
  obtain ⟨rfl, hsz, hP, hK, hD0, hT⟩ := hv
  have hx := B.exec
  have hb := B.bytes
  have hr := B.returns
  have hown : s.vm.findClass RX8 = some m.cls := findClass_of_methodNamed B.named
  have hlocks := B.notSynchronized
  have hts := TB.use hT ([.ref h_t, .int a1] : List Value).toArray
  subst hsz
  have hD := hD0.self (sz := s.heap.size)
  generalize hAe : va_A [(h_t, .inr (8, [.ref h_t_tape, .ref h_t_draft, .int t_length, .int t_faultKind, .int t_faultPlace, .int t_centreTold, .int t_start, .int t_next, .int t_kind, .int t_value])), (h_t_tape, .inl (cB, 600, .inl t_tape))] s.heap.size = A at hD ⊢
  have hA : ∀ q : Nat, s.heap.size ≤ q → A q := fun q h => by rw [← hAe]; exact Or.inr h
  clear hAe hD0
  have hl := lv_entry ([.ref h_t, .int a1]) (n := 3) (Nat.le_of_ble_eq_true rfl)
  rw [lg_entry_eq]
  generalize (lg_sl ([.ref h_t, .int a1]) ++ List.replicate (3 - (lg_sl ([.ref h_t, .int a1])).length) Slot.unset).toArray = ls at hl ⊢
  have hl : lv_has ls 3 [(0, .ref h_t), (1, .int a1)] := hl
  have hF : 0 ≤ (headSpec [Cond.code yX8_append cX8_append 3 none] ({ frames := 0, cells := 0, slots := 0, locals := 0 })).room.frames := Nat.le_refl _
  have hLo : 0 ≤ (headSpec [Cond.code yX8_append cX8_append 3 none] ({ frames := 0, cells := 0, slots := 0, locals := 0 })).room.locals := Nat.le_refl _
  have C0 : Sx p (headSpec [Cond.code yX8_append cX8_append 3 none] ({ frames := 0, cells := 0, slots := 0, locals := 0 })).room s m ([.ref h_t, .int a1] : List Value).toArray c cX8_append 3 RX8 A dC dI cI cL cB 0 0 := ⟨hx, hb, hml, hown, hts, hK, hT, hA, hF, hLo⟩
  refine startH (A := A) hP (fun H locs hP hS => ?_)
  rw [fX8_append] at hf
  refine lv_bipush (v := (24 : Int32)) hx hb dX8_append_0 (by decide) ?_
  refine lv_istore_n (lv' := [(2, .int (24 : Int32)), (0, .ref h_t), (1, .int a1)]) hx hb dX8_append_2 rfl hl (Nat.le_of_ble_eq_true rfl) rfl (fun ls hl => ?_)
  obtain ⟨t_length_6, t_tape_7, hq_5, hf⟩ := b2_some hf
  refine wX8_append_L3 C0 h_t h_t_tape h_t_draft t_faultKind t_faultPlace t_centreTold t_start t_next t_kind t_value a1 K (24 : Int32) t_length t_tape t_length_6 t_tape_7 H locs ls hP hD hS (lv_sub hl [1, 2, 0] rfl) hq_5 ?_
  intro H locs ls hP hD hS hl
  obtain ⟨rfl, rfl⟩ := o2 hf
  exact W.vret hx hb hr (fun t ht hW => ⟨⟨(), rfl, trivial, by rw [ht]; exact hP, hD⟩, hS.F ht⟩) hS.2.2 dX8_append_48
theorem dX11_feed_0 : decode cX11_feed 0 = .ok (.aload_n 0, 1) := by decide +kernel
theorem dX11_feed_1 : decode cX11_feed 1 = .ok (.getfield 21, 3) := by decide +kernel
theorem dX11_feed_4 : decode cX11_feed 4 = .ok (.bipush 20, 2) := by decide +kernel
theorem dX11_feed_6 : decode cX11_feed 6 = .ok (.invokevirtual 88, 3) := by decide +kernel
theorem dX11_feed_9 : decode cX11_feed 9 = .ok (.ifCond .ne 5, 3) := by decide +kernel
theorem dX11_feed_12 : decode cX11_feed 12 = .ok (.iconst (-1), 1) := by decide +kernel
theorem dX11_feed_13 : decode cX11_feed 13 = .ok (.ireturn, 1) := by decide +kernel
theorem dX11_feed_14 : decode cX11_feed 14 = .ok (.aload_n 0, 1) := by decide +kernel
theorem dX11_feed_15 : decode cX11_feed 15 = .ok (.getfield 21, 3) := by decide +kernel
theorem dX11_feed_18 : decode cX11_feed 18 = .ok (.iload_n 1, 1) := by decide +kernel
theorem dX11_feed_19 : decode cX11_feed 19 = .ok (.invokevirtual 92, 3) := by decide +kernel
theorem dX11_feed_22 : decode cX11_feed 22 = .ok (.aload_n 0, 1) := by decide +kernel
theorem dX11_feed_23 : decode cX11_feed 23 = .ok (.getfield 21, 3) := by decide +kernel
theorem dX11_feed_26 : decode cX11_feed 26 = .ok (.iload_n 2, 1) := by decide +kernel
theorem dX11_feed_27 : decode cX11_feed 27 = .ok (.invokevirtual 92, 3) := by decide +kernel
theorem dX11_feed_30 : decode cX11_feed 30 = .ok (.aload_n 0, 1) := by decide +kernel
theorem dX11_feed_31 : decode cX11_feed 31 = .ok (.getfield 21, 3) := by decide +kernel
theorem dX11_feed_34 : decode cX11_feed 34 = .ok (.iload_n 3, 1) := by decide +kernel
theorem dX11_feed_35 : decode cX11_feed 35 = .ok (.invokevirtual 92, 3) := by decide +kernel
theorem dX11_feed_38 : decode cX11_feed 38 = .ok (.aload_n 0, 1) := by decide +kernel
theorem dX11_feed_39 : decode cX11_feed 39 = .ok (.getfield 21, 3) := by decide +kernel
theorem dX11_feed_42 : decode cX11_feed 42 = .ok (.iload 4, 2) := by decide +kernel
theorem dX11_feed_44 : decode cX11_feed 44 = .ok (.invokevirtual 92, 3) := by decide +kernel
theorem dX11_feed_47 : decode cX11_feed 47 = .ok (.aload_n 0, 1) := by decide +kernel
theorem dX11_feed_48 : decode cX11_feed 48 = .ok (.getfield 21, 3) := by decide +kernel
theorem dX11_feed_51 : decode cX11_feed 51 = .ok (.iload 5, 2) := by decide +kernel
theorem dX11_feed_53 : decode cX11_feed 53 = .ok (.invokevirtual 92, 3) := by decide +kernel
theorem dX11_feed_56 : decode cX11_feed 56 = .ok (.aload_n 0, 1) := by decide +kernel
theorem dX11_feed_57 : decode cX11_feed 57 = .ok (.getfield 21, 3) := by decide +kernel
theorem dX11_feed_60 : decode cX11_feed 60 = .ok (.getfield 96, 3) := by decide +kernel
theorem dX11_feed_63 : decode cX11_feed 63 = .ok (.ireturn, 1) := by decide +kernel
set_option maxRecDepth 100000 in
set_option maxHeartbeats 4000000 in
theorem mtX11_feed (l : Launch) (dC : Nat → ClassId) (dI : Nat → Nat → Nat) (cI cL cB : ClassId) (K : Nat) (h_t h_t_cloud h_t_reader h_t_hull h_t_near h_t_firstTie h_t_reducer h_t_chooser h_t_pair h_t_divider h_t_depths h_t_spot h_t_reader_tape h_t_reader_draft : Nat) (sz : Nat) (t_reader_length : Int32) (t_reader_faultKind : Int32) (t_reader_faultPlace : Int32) (t_reader_centreTold : Int32) (t_reader_start : Int32) (t_reader_next : Int32) (t_reader_kind : Int32) (t_reader_value : Int32) (t_reader_tape : Nat → Int32) (a1 : Int32) (a2 : Int32) (a3 : Int32) (a4 : Int32) (a5 : Int32) (o_r : Int32) (o_t_reader_length : Int32) (o_t_reader_tape : Nat → Int32) (hf : fX11_feed K t_reader_length t_reader_tape a1 a2 a3 a4 a5 = some (o_r, o_t_reader_length, o_t_reader_tape)) : Met l yX11_feed [Cond.code yX11_feed cX11_feed 6 (some .int)] ({ frames := 1, cells := 0, slots := 0, locals := 22 }) (va_Pc [.ref h_t, .int a1, .int a2, .int a3, .int a4, .int a5] (cPre dC dI cI cL cB sz [(h_t, .inr (11, [.ref h_t_cloud, .ref h_t_reader, .ref h_t_hull, .ref h_t_near, .ref h_t_firstTie, .ref h_t_reducer, .ref h_t_chooser, .ref h_t_pair, .ref h_t_divider, .ref h_t_depths, .ref h_t_spot])), (h_t_reader, .inr (8, [.ref h_t_reader_tape, .ref h_t_reader_draft, .int t_reader_length, .int t_reader_faultKind, .int t_reader_faultPlace, .int t_reader_centreTold, .int t_reader_start, .int t_reader_next, .int t_reader_kind, .int t_reader_value])), (h_t_reader_tape, .inl (cB, 600, .inl t_reader_tape))])) (cQi dC dI (va_A [(h_t, .inr (11, [.ref h_t_cloud, .ref h_t_reader, .ref h_t_hull, .ref h_t_near, .ref h_t_firstTie, .ref h_t_reducer, .ref h_t_chooser, .ref h_t_pair, .ref h_t_divider, .ref h_t_depths, .ref h_t_spot])), (h_t_reader, .inr (8, [.ref h_t_reader_tape, .ref h_t_reader_draft, .int t_reader_length, .int t_reader_faultKind, .int t_reader_faultPlace, .int t_reader_centreTold, .int t_reader_start, .int t_reader_next, .int t_reader_kind, .int t_reader_value])), (h_t_reader_tape, .inl (cB, 600, .inl t_reader_tape))] sz) o_r [(h_t, .inr (11, [.ref h_t_cloud, .ref h_t_reader, .ref h_t_hull, .ref h_t_near, .ref h_t_firstTie, .ref h_t_reducer, .ref h_t_chooser, .ref h_t_pair, .ref h_t_divider, .ref h_t_depths, .ref h_t_spot])), (h_t_reader, .inr (8, [.ref h_t_reader_tape, .ref h_t_reader_draft, .int o_t_reader_length, .int t_reader_faultKind, .int t_reader_faultPlace, .int t_reader_centreTold, .int t_reader_start, .int t_reader_next, .int t_reader_kind, .int t_reader_value])), (h_t_reader_tape, .inl (cB, 600, .inl o_t_reader_tape))]) 0 0 (va_A [(h_t, .inr (11, [.ref h_t_cloud, .ref h_t_reader, .ref h_t_hull, .ref h_t_near, .ref h_t_firstTie, .ref h_t_reducer, .ref h_t_chooser, .ref h_t_pair, .ref h_t_divider, .ref h_t_depths, .ref h_t_spot])), (h_t_reader, .inr (8, [.ref h_t_reader_tape, .ref h_t_reader_draft, .int t_reader_length, .int t_reader_faultKind, .int t_reader_faultPlace, .int t_reader_centreTold, .int t_reader_start, .int t_reader_next, .int t_reader_kind, .int t_reader_value])), (h_t_reader_tape, .inl (cB, 600, .inl t_reader_tape))] sz) := by
  refine Met.ofW (cc := cX11_feed) (maxL := 6) (ret := (some .int)) (by decide) rfl ?_
  intro p e s m args below meth c s₁ B hml hv
  obtain ⟨rfl, hsz, hP, hK, hD0, hT⟩ := hv
  have hx := B.exec
  have hb := B.bytes
  have hr := B.returns
  have hown : s.vm.findClass RX11 = some m.cls := findClass_of_methodNamed B.named
  have hlocks := B.notSynchronized
  have hts := TB.use hT ([.ref h_t, .int a1, .int a2, .int a3, .int a4, .int a5] : List Value).toArray
  subst hsz
  have hD := hD0.self (sz := s.heap.size)
  generalize hAe : va_A [(h_t, .inr (11, [.ref h_t_cloud, .ref h_t_reader, .ref h_t_hull, .ref h_t_near, .ref h_t_firstTie, .ref h_t_reducer, .ref h_t_chooser, .ref h_t_pair, .ref h_t_divider, .ref h_t_depths, .ref h_t_spot])), (h_t_reader, .inr (8, [.ref h_t_reader_tape, .ref h_t_reader_draft, .int t_reader_length, .int t_reader_faultKind, .int t_reader_faultPlace, .int t_reader_centreTold, .int t_reader_start, .int t_reader_next, .int t_reader_kind, .int t_reader_value])), (h_t_reader_tape, .inl (cB, 600, .inl t_reader_tape))] s.heap.size = A at hD ⊢
  have hA : ∀ q : Nat, s.heap.size ≤ q → A q := fun q h => by rw [← hAe]; exact Or.inr h
  clear hAe hD0
  have hl := lv_entry ([.ref h_t, .int a1, .int a2, .int a3, .int a4, .int a5]) (n := 6) (Nat.le_of_ble_eq_true rfl)
  rw [lg_entry_eq]
  generalize (lg_sl ([.ref h_t, .int a1, .int a2, .int a3, .int a4, .int a5]) ++ List.replicate (6 - (lg_sl ([.ref h_t, .int a1, .int a2, .int a3, .int a4, .int a5])).length) Slot.unset).toArray = ls at hl ⊢
  have hl : lv_has ls 6 [(0, .ref h_t), (1, .int a1), (2, .int a2), (3, .int a3), (4, .int a4), (5, .int a5)] := hl
  have hF : 1 ≤ (headSpec [Cond.code yX11_feed cX11_feed 6 (some .int)] ({ frames := 1, cells := 0, slots := 0, locals := 22 })).room.frames := Nat.le_refl _
  have hLo : 22 ≤ (headSpec [Cond.code yX11_feed cX11_feed 6 (some .int)] ({ frames := 1, cells := 0, slots := 0, locals := 22 })).room.locals := Nat.le_refl _
  have C0 : Sx p (headSpec [Cond.code yX11_feed cX11_feed 6 (some .int)] ({ frames := 1, cells := 0, slots := 0, locals := 22 })).room s m ([.ref h_t, .int a1, .int a2, .int a3, .int a4, .int a5] : List Value).toArray c cX11_feed 6 RX11 A dC dI cI cL cB 1 22 := ⟨hx, hb, hml, hown, hts, hK, hT, hA, hF, hLo⟩
  refine startH (A := A) hP (fun H locs hP hS => ?_)
  rw [fX11_feed] at hf
  refine lv_aload_n hx hb dX11_feed_0 rfl (lv_at hl 0 rfl) ?_
  refine va_get (D := (dC, dI)) (ci := 11) (v := .ref h_t_reader) (C := RX11) (T := TX11) (N := 11) hx hb hts in_X11 hown hK hP 0 rfl rfl 1 (Nat.le_of_ble_eq_true rfl) (hts _ qf_X11_21) (fun _ h9 => h9) rfl dX11_feed_1 ?_
  refine lv_bipush (v := (20 : Int32)) hx hb dX11_feed_4 (by decide) ?_
  obtain ⟨r_1, hq_2, hf⟩ := b1_some hf
  refine xci (wr := [(h_t, .inr (11, [.ref h_t_cloud, .ref h_t_reader, .ref h_t_hull, .ref h_t_near, .ref h_t_firstTie, .ref h_t_reducer, .ref h_t_chooser, .ref h_t_pair, .ref h_t_divider, .ref h_t_depths, .ref h_t_spot]))]) (w2 := [(h_t, .inr (11, [.ref h_t_cloud, .ref h_t_reader, .ref h_t_hull, .ref h_t_near, .ref h_t_firstTie, .ref h_t_reducer, .ref h_t_chooser, .ref h_t_pair, .ref h_t_divider, .ref h_t_depths, .ref h_t_spot])), (h_t_reader, .inr (8, [.ref h_t_reader_tape, .ref h_t_reader_draft, .int t_reader_length, .int t_reader_faultKind, .int t_reader_faultPlace, .int t_reader_centreTold, .int t_reader_start, .int t_reader_next, .int t_reader_kind, .int t_reader_value])), (h_t_reader_tape, .inl (cB, 600, .inl t_reader_tape))]) (va_runV (As := [.int (20 : Int32)]) (rest := []) ⟨hx, hb, hml, hown, hts⟩ (mtX8_hasRoom l dC dI cI cL cB K h_t_reader h_t_reader_tape h_t_reader_draft H.size t_reader_length t_reader_faultKind t_reader_faultPlace t_reader_centreTold t_reader_start t_reader_next t_reader_kind t_reader_value t_reader_tape (20 : Int32) r_1 hq_2) (cwV 1 hts gv_X11_88 rfl rfl rfl hdV_X8_hasRoom ⟨Nat.le_trans (Nat.le_of_ble_eq_true rfl) hF, Nat.le_trans (Nat.le_of_ble_eq_true rfl) hLo⟩) (cPreV hK hP hD hT [1, 2] rfl rfl (ci := 8) (q0 := 0) rfl rfl) rfl rfl hl.1 rfl (lv_room (Nat.le_of_ble_eq_true rfl)) dX11_feed_6 ⟨Nat.zero_le _, Nat.zero_le _⟩) hP hD hS hA [1, 2] [0] [0, 1, 2] rfl rfl rfl rfl rfl rfl (fun H locs hP hD hS => ?_)
  refine lv_if_ne (tgt := 14) hx hb dX11_feed_9 (by decide) (fun hc => ?_) (fun hc => ?_)
  · replace hf := it_f (hc) hf
    refine lv_aload_n hx hb dX11_feed_14 rfl (lv_at hl 0 rfl) ?_
    refine va_get (D := (dC, dI)) (ci := 11) (v := .ref h_t_reader) (C := RX11) (T := TX11) (N := 11) hx hb hts in_X11 hown hK hP 0 rfl rfl 1 (Nat.le_of_ble_eq_true rfl) (hts _ qf_X11_21) (fun _ h9 => h9) rfl dX11_feed_15 ?_
    refine lv_iload_n hx hb dX11_feed_18 rfl (lv_at hl 1 rfl) ?_
    obtain ⟨t_reader_length_3, t_reader_tape_4, hq_5, hf⟩ := b2_some hf
    refine xcv (wr := [(h_t, .inr (11, [.ref h_t_cloud, .ref h_t_reader, .ref h_t_hull, .ref h_t_near, .ref h_t_firstTie, .ref h_t_reducer, .ref h_t_chooser, .ref h_t_pair, .ref h_t_divider, .ref h_t_depths, .ref h_t_spot]))]) (w2 := [(h_t, .inr (11, [.ref h_t_cloud, .ref h_t_reader, .ref h_t_hull, .ref h_t_near, .ref h_t_firstTie, .ref h_t_reducer, .ref h_t_chooser, .ref h_t_pair, .ref h_t_divider, .ref h_t_depths, .ref h_t_spot])), (h_t_reader, .inr (8, [.ref h_t_reader_tape, .ref h_t_reader_draft, .int t_reader_length_3, .int t_reader_faultKind, .int t_reader_faultPlace, .int t_reader_centreTold, .int t_reader_start, .int t_reader_next, .int t_reader_kind, .int t_reader_value])), (h_t_reader_tape, .inl (cB, 600, .inl t_reader_tape_4))]) (va_runV (As := [.int a1]) (rest := []) ⟨hx, hb, hml, hown, hts⟩ (mtX8_append l dC dI cI cL cB K h_t_reader h_t_reader_tape h_t_reader_draft H.size t_reader_length t_reader_faultKind t_reader_faultPlace t_reader_centreTold t_reader_start t_reader_next t_reader_kind t_reader_value t_reader_tape a1 t_reader_length_3 t_reader_tape_4 hq_5) (cwV 1 hts gv_X11_92 rfl rfl rfl hdV_X8_append ⟨Nat.le_trans (Nat.le_of_ble_eq_true rfl) hF, Nat.le_trans (Nat.le_of_ble_eq_true rfl) hLo⟩) (cPreV hK hP hD hT [1, 2] rfl rfl (ci := 8) (q0 := 0) rfl rfl) rfl rfl hl.1 rfl (lv_room (Nat.le_of_ble_eq_true rfl)) dX11_feed_19 ⟨Nat.zero_le _, Nat.zero_le _⟩) hP hD hS hA [1, 2] [0] [0, 1, 2] rfl rfl rfl rfl rfl rfl (fun H locs hP hD hS => ?_)
    refine lv_aload_n hx hb dX11_feed_22 rfl (lv_at hl 0 rfl) ?_
    refine va_get (D := (dC, dI)) (ci := 11) (v := .ref h_t_reader) (C := RX11) (T := TX11) (N := 11) hx hb hts in_X11 hown hK hP 0 rfl rfl 1 (Nat.le_of_ble_eq_true rfl) (hts _ qf_X11_21) (fun _ h9 => h9) rfl dX11_feed_23 ?_
    refine lv_iload_n hx hb dX11_feed_26 rfl (lv_at hl 2 rfl) ?_
    obtain ⟨t_reader_length_6, t_reader_tape_7, hq_8, hf⟩ := b2_some hf
    refine xcv (wr := [(h_t, .inr (11, [.ref h_t_cloud, .ref h_t_reader, .ref h_t_hull, .ref h_t_near, .ref h_t_firstTie, .ref h_t_reducer, .ref h_t_chooser, .ref h_t_pair, .ref h_t_divider, .ref h_t_depths, .ref h_t_spot]))]) (w2 := [(h_t, .inr (11, [.ref h_t_cloud, .ref h_t_reader, .ref h_t_hull, .ref h_t_near, .ref h_t_firstTie, .ref h_t_reducer, .ref h_t_chooser, .ref h_t_pair, .ref h_t_divider, .ref h_t_depths, .ref h_t_spot])), (h_t_reader, .inr (8, [.ref h_t_reader_tape, .ref h_t_reader_draft, .int t_reader_length_6, .int t_reader_faultKind, .int t_reader_faultPlace, .int t_reader_centreTold, .int t_reader_start, .int t_reader_next, .int t_reader_kind, .int t_reader_value])), (h_t_reader_tape, .inl (cB, 600, .inl t_reader_tape_7))]) (va_runV (As := [.int a2]) (rest := []) ⟨hx, hb, hml, hown, hts⟩ (mtX8_append l dC dI cI cL cB K h_t_reader h_t_reader_tape h_t_reader_draft H.size t_reader_length_3 t_reader_faultKind t_reader_faultPlace t_reader_centreTold t_reader_start t_reader_next t_reader_kind t_reader_value t_reader_tape_4 a2 t_reader_length_6 t_reader_tape_7 hq_8) (cwV 1 hts gv_X11_92 rfl rfl rfl hdV_X8_append ⟨Nat.le_trans (Nat.le_of_ble_eq_true rfl) hF, Nat.le_trans (Nat.le_of_ble_eq_true rfl) hLo⟩) (cPreV hK hP hD hT [1, 2] rfl rfl (ci := 8) (q0 := 0) rfl rfl) rfl rfl hl.1 rfl (lv_room (Nat.le_of_ble_eq_true rfl)) dX11_feed_27 ⟨Nat.zero_le _, Nat.zero_le _⟩) hP hD hS hA [1, 2] [0] [0, 1, 2] rfl rfl rfl rfl rfl rfl (fun H locs hP hD hS => ?_)
    refine lv_aload_n hx hb dX11_feed_30 rfl (lv_at hl 0 rfl) ?_
    refine va_get (D := (dC, dI)) (ci := 11) (v := .ref h_t_reader) (C := RX11) (T := TX11) (N := 11) hx hb hts in_X11 hown hK hP 0 rfl rfl 1 (Nat.le_of_ble_eq_true rfl) (hts _ qf_X11_21) (fun _ h9 => h9) rfl dX11_feed_31 ?_
    refine lv_iload_n hx hb dX11_feed_34 rfl (lv_at hl 3 rfl) ?_
    obtain ⟨t_reader_length_9, t_reader_tape_10, hq_11, hf⟩ := b2_some hf
    refine xcv (wr := [(h_t, .inr (11, [.ref h_t_cloud, .ref h_t_reader, .ref h_t_hull, .ref h_t_near, .ref h_t_firstTie, .ref h_t_reducer, .ref h_t_chooser, .ref h_t_pair, .ref h_t_divider, .ref h_t_depths, .ref h_t_spot]))]) (w2 := [(h_t, .inr (11, [.ref h_t_cloud, .ref h_t_reader, .ref h_t_hull, .ref h_t_near, .ref h_t_firstTie, .ref h_t_reducer, .ref h_t_chooser, .ref h_t_pair, .ref h_t_divider, .ref h_t_depths, .ref h_t_spot])), (h_t_reader, .inr (8, [.ref h_t_reader_tape, .ref h_t_reader_draft, .int t_reader_length_9, .int t_reader_faultKind, .int t_reader_faultPlace, .int t_reader_centreTold, .int t_reader_start, .int t_reader_next, .int t_reader_kind, .int t_reader_value])), (h_t_reader_tape, .inl (cB, 600, .inl t_reader_tape_10))]) (va_runV (As := [.int a3]) (rest := []) ⟨hx, hb, hml, hown, hts⟩ (mtX8_append l dC dI cI cL cB K h_t_reader h_t_reader_tape h_t_reader_draft H.size t_reader_length_6 t_reader_faultKind t_reader_faultPlace t_reader_centreTold t_reader_start t_reader_next t_reader_kind t_reader_value t_reader_tape_7 a3 t_reader_length_9 t_reader_tape_10 hq_11) (cwV 1 hts gv_X11_92 rfl rfl rfl hdV_X8_append ⟨Nat.le_trans (Nat.le_of_ble_eq_true rfl) hF, Nat.le_trans (Nat.le_of_ble_eq_true rfl) hLo⟩) (cPreV hK hP hD hT [1, 2] rfl rfl (ci := 8) (q0 := 0) rfl rfl) rfl rfl hl.1 rfl (lv_room (Nat.le_of_ble_eq_true rfl)) dX11_feed_35 ⟨Nat.zero_le _, Nat.zero_le _⟩) hP hD hS hA [1, 2] [0] [0, 1, 2] rfl rfl rfl rfl rfl rfl (fun H locs hP hD hS => ?_)
    refine lv_aload_n hx hb dX11_feed_38 rfl (lv_at hl 0 rfl) ?_
    refine va_get (D := (dC, dI)) (ci := 11) (v := .ref h_t_reader) (C := RX11) (T := TX11) (N := 11) hx hb hts in_X11 hown hK hP 0 rfl rfl 1 (Nat.le_of_ble_eq_true rfl) (hts _ qf_X11_21) (fun _ h9 => h9) rfl dX11_feed_39 ?_
    refine lv_iload hx hb dX11_feed_42 (lv_at hl 4 rfl) ?_
    obtain ⟨t_reader_length_12, t_reader_tape_13, hq_14, hf⟩ := b2_some hf
    refine xcv (wr := [(h_t, .inr (11, [.ref h_t_cloud, .ref h_t_reader, .ref h_t_hull, .ref h_t_near, .ref h_t_firstTie, .ref h_t_reducer, .ref h_t_chooser, .ref h_t_pair, .ref h_t_divider, .ref h_t_depths, .ref h_t_spot]))]) (w2 := [(h_t, .inr (11, [.ref h_t_cloud, .ref h_t_reader, .ref h_t_hull, .ref h_t_near, .ref h_t_firstTie, .ref h_t_reducer, .ref h_t_chooser, .ref h_t_pair, .ref h_t_divider, .ref h_t_depths, .ref h_t_spot])), (h_t_reader, .inr (8, [.ref h_t_reader_tape, .ref h_t_reader_draft, .int t_reader_length_12, .int t_reader_faultKind, .int t_reader_faultPlace, .int t_reader_centreTold, .int t_reader_start, .int t_reader_next, .int t_reader_kind, .int t_reader_value])), (h_t_reader_tape, .inl (cB, 600, .inl t_reader_tape_13))]) (va_runV (As := [.int a4]) (rest := []) ⟨hx, hb, hml, hown, hts⟩ (mtX8_append l dC dI cI cL cB K h_t_reader h_t_reader_tape h_t_reader_draft H.size t_reader_length_9 t_reader_faultKind t_reader_faultPlace t_reader_centreTold t_reader_start t_reader_next t_reader_kind t_reader_value t_reader_tape_10 a4 t_reader_length_12 t_reader_tape_13 hq_14) (cwV 1 hts gv_X11_92 rfl rfl rfl hdV_X8_append ⟨Nat.le_trans (Nat.le_of_ble_eq_true rfl) hF, Nat.le_trans (Nat.le_of_ble_eq_true rfl) hLo⟩) (cPreV hK hP hD hT [1, 2] rfl rfl (ci := 8) (q0 := 0) rfl rfl) rfl rfl hl.1 rfl (lv_room (Nat.le_of_ble_eq_true rfl)) dX11_feed_44 ⟨Nat.zero_le _, Nat.zero_le _⟩) hP hD hS hA [1, 2] [0] [0, 1, 2] rfl rfl rfl rfl rfl rfl (fun H locs hP hD hS => ?_)
    refine lv_aload_n hx hb dX11_feed_47 rfl (lv_at hl 0 rfl) ?_
    refine va_get (D := (dC, dI)) (ci := 11) (v := .ref h_t_reader) (C := RX11) (T := TX11) (N := 11) hx hb hts in_X11 hown hK hP 0 rfl rfl 1 (Nat.le_of_ble_eq_true rfl) (hts _ qf_X11_21) (fun _ h9 => h9) rfl dX11_feed_48 ?_
    refine lv_iload hx hb dX11_feed_51 (lv_at hl 5 rfl) ?_
    obtain ⟨t_reader_length_15, t_reader_tape_16, hq_17, hf⟩ := b2_some hf
    refine xcv (wr := [(h_t, .inr (11, [.ref h_t_cloud, .ref h_t_reader, .ref h_t_hull, .ref h_t_near, .ref h_t_firstTie, .ref h_t_reducer, .ref h_t_chooser, .ref h_t_pair, .ref h_t_divider, .ref h_t_depths, .ref h_t_spot]))]) (w2 := [(h_t, .inr (11, [.ref h_t_cloud, .ref h_t_reader, .ref h_t_hull, .ref h_t_near, .ref h_t_firstTie, .ref h_t_reducer, .ref h_t_chooser, .ref h_t_pair, .ref h_t_divider, .ref h_t_depths, .ref h_t_spot])), (h_t_reader, .inr (8, [.ref h_t_reader_tape, .ref h_t_reader_draft, .int t_reader_length_15, .int t_reader_faultKind, .int t_reader_faultPlace, .int t_reader_centreTold, .int t_reader_start, .int t_reader_next, .int t_reader_kind, .int t_reader_value])), (h_t_reader_tape, .inl (cB, 600, .inl t_reader_tape_16))]) (va_runV (As := [.int a5]) (rest := []) ⟨hx, hb, hml, hown, hts⟩ (mtX8_append l dC dI cI cL cB K h_t_reader h_t_reader_tape h_t_reader_draft H.size t_reader_length_12 t_reader_faultKind t_reader_faultPlace t_reader_centreTold t_reader_start t_reader_next t_reader_kind t_reader_value t_reader_tape_13 a5 t_reader_length_15 t_reader_tape_16 hq_17) (cwV 1 hts gv_X11_92 rfl rfl rfl hdV_X8_append ⟨Nat.le_trans (Nat.le_of_ble_eq_true rfl) hF, Nat.le_trans (Nat.le_of_ble_eq_true rfl) hLo⟩) (cPreV hK hP hD hT [1, 2] rfl rfl (ci := 8) (q0 := 0) rfl rfl) rfl rfl hl.1 rfl (lv_room (Nat.le_of_ble_eq_true rfl)) dX11_feed_53 ⟨Nat.zero_le _, Nat.zero_le _⟩) hP hD hS hA [1, 2] [0] [0, 1, 2] rfl rfl rfl rfl rfl rfl (fun H locs hP hD hS => ?_)
    refine lv_aload_n hx hb dX11_feed_56 rfl (lv_at hl 0 rfl) ?_
    refine va_get (D := (dC, dI)) (ci := 11) (v := .ref h_t_reader) (C := RX11) (T := TX11) (N := 11) hx hb hts in_X11 hown hK hP 0 rfl rfl 1 (Nat.le_of_ble_eq_true rfl) (hts _ qf_X11_21) (fun _ h9 => h9) rfl dX11_feed_57 ?_
    refine va_get (D := (dC, dI)) (ci := 8) (v := .int t_reader_length_15) (C := RX8) (T := TX8) (N := 10) hx hb hts in_X8 hown hK hP 1 rfl rfl 2 (Nat.le_of_ble_eq_true rfl) (hts _ qf_X11_96) (fun _ h9 => h9) rfl dX11_feed_60 ?_
    obtain ⟨rfl, rfl, rfl⟩ := o3 hf
    exact W.iret hx hb hr (fun t ht hW => ⟨⟨_, (), rfl, rfl, by rw [ht]; exact hP, hD⟩, hS.F ht⟩) hS.2.2 dX11_feed_63
  · replace hf := it_t (hc) hf
    refine lv_iconst (v := (-1 : Int32)) hx hb dX11_feed_12 (by decide) ?_
    obtain ⟨rfl, rfl, rfl⟩ := o3 hf
    exact W.iret hx hb hr (fun t ht hW => ⟨⟨_, (), rfl, rfl, by rw [ht]; exact hP, hD⟩, hS.F ht⟩) hS.2.2 dX11_feed_13
theorem dX11_end_0 : decode cX11_end 0 = .ok (.iload_n 1, 1) := by decide +kernel
theorem dX11_end_1 : decode cX11_end 1 = .ok (.ifCond .lt 14, 3) := by decide +kernel
theorem dX11_end_4 : decode cX11_end 4 = .ok (.iload_n 1, 1) := by decide +kernel
theorem dX11_end_5 : decode cX11_end 5 = .ok (.aload_n 0, 1) := by decide +kernel
theorem dX11_end_6 : decode cX11_end 6 = .ok (.getfield 21, 3) := by decide +kernel
theorem dX11_end_9 : decode cX11_end 9 = .ok (.getfield 96, 3) := by decide +kernel
theorem dX11_end_12 : decode cX11_end 12 = .ok (.if_icmp .le 5, 3) := by decide +kernel
theorem dX11_end_15 : decode cX11_end 15 = .ok (.iconst (-1), 1) := by decide +kernel
theorem dX11_end_16 : decode cX11_end 16 = .ok (.ireturn, 1) := by decide +kernel
theorem dX11_end_17 : decode cX11_end 17 = .ok (.aload_n 0, 1) := by decide +kernel
theorem dX11_end_18 : decode cX11_end 18 = .ok (.getfield 21, 3) := by decide +kernel
theorem dX11_end_21 : decode cX11_end 21 = .ok (.iload_n 1, 1) := by decide +kernel
theorem dX11_end_22 : decode cX11_end 22 = .ok (.putfield 96, 3) := by decide +kernel
theorem dX11_end_25 : decode cX11_end 25 = .ok (.iload_n 1, 1) := by decide +kernel
theorem dX11_end_26 : decode cX11_end 26 = .ok (.ireturn, 1) := by decide +kernel
set_option maxRecDepth 100000 in
set_option maxHeartbeats 4000000 in
theorem mtX11_end (l : Launch) (dC : Nat → ClassId) (dI : Nat → Nat → Nat) (cI cL cB : ClassId) (K : Nat) (h_t h_t_cloud h_t_reader h_t_hull h_t_near h_t_firstTie h_t_reducer h_t_chooser h_t_pair h_t_divider h_t_depths h_t_spot h_t_reader_tape h_t_reader_draft : Nat) (sz : Nat) (t_reader_length : Int32) (t_reader_faultKind : Int32) (t_reader_faultPlace : Int32) (t_reader_centreTold : Int32) (t_reader_start : Int32) (t_reader_next : Int32) (t_reader_kind : Int32) (t_reader_value : Int32) (a1 : Int32) (o_r : Int32) (o_t_reader_length : Int32) (hf : fX11_end K t_reader_length a1 = some (o_r, o_t_reader_length)) : Met l yX11_end [Cond.code yX11_end cX11_end 2 (some .int)] ({ frames := 0, cells := 0, slots := 0, locals := 0 }) (va_Pc [.ref h_t, .int a1] (cPre dC dI cI cL cB sz [(h_t, .inr (11, [.ref h_t_cloud, .ref h_t_reader, .ref h_t_hull, .ref h_t_near, .ref h_t_firstTie, .ref h_t_reducer, .ref h_t_chooser, .ref h_t_pair, .ref h_t_divider, .ref h_t_depths, .ref h_t_spot])), (h_t_reader, .inr (8, [.ref h_t_reader_tape, .ref h_t_reader_draft, .int t_reader_length, .int t_reader_faultKind, .int t_reader_faultPlace, .int t_reader_centreTold, .int t_reader_start, .int t_reader_next, .int t_reader_kind, .int t_reader_value]))])) (cQi dC dI (va_A [(h_t, .inr (11, [.ref h_t_cloud, .ref h_t_reader, .ref h_t_hull, .ref h_t_near, .ref h_t_firstTie, .ref h_t_reducer, .ref h_t_chooser, .ref h_t_pair, .ref h_t_divider, .ref h_t_depths, .ref h_t_spot])), (h_t_reader, .inr (8, [.ref h_t_reader_tape, .ref h_t_reader_draft, .int t_reader_length, .int t_reader_faultKind, .int t_reader_faultPlace, .int t_reader_centreTold, .int t_reader_start, .int t_reader_next, .int t_reader_kind, .int t_reader_value]))] sz) o_r [(h_t, .inr (11, [.ref h_t_cloud, .ref h_t_reader, .ref h_t_hull, .ref h_t_near, .ref h_t_firstTie, .ref h_t_reducer, .ref h_t_chooser, .ref h_t_pair, .ref h_t_divider, .ref h_t_depths, .ref h_t_spot])), (h_t_reader, .inr (8, [.ref h_t_reader_tape, .ref h_t_reader_draft, .int o_t_reader_length, .int t_reader_faultKind, .int t_reader_faultPlace, .int t_reader_centreTold, .int t_reader_start, .int t_reader_next, .int t_reader_kind, .int t_reader_value]))]) 0 0 (va_A [(h_t, .inr (11, [.ref h_t_cloud, .ref h_t_reader, .ref h_t_hull, .ref h_t_near, .ref h_t_firstTie, .ref h_t_reducer, .ref h_t_chooser, .ref h_t_pair, .ref h_t_divider, .ref h_t_depths, .ref h_t_spot])), (h_t_reader, .inr (8, [.ref h_t_reader_tape, .ref h_t_reader_draft, .int t_reader_length, .int t_reader_faultKind, .int t_reader_faultPlace, .int t_reader_centreTold, .int t_reader_start, .int t_reader_next, .int t_reader_kind, .int t_reader_value]))] sz) := by
  refine Met.ofW (cc := cX11_end) (maxL := 2) (ret := (some .int)) (by decide) rfl ?_
  intro p e s m args below meth c s₁ B hml hv
  obtain ⟨rfl, hsz, hP, hK, hD0, hT⟩ := hv
  have hx := B.exec
  have hb := B.bytes
  have hr := B.returns
  have hown : s.vm.findClass RX11 = some m.cls := findClass_of_methodNamed B.named
  have hlocks := B.notSynchronized
  have hts := TB.use hT ([.ref h_t, .int a1] : List Value).toArray
  subst hsz
  have hD := hD0.self (sz := s.heap.size)
  generalize hAe : va_A [(h_t, .inr (11, [.ref h_t_cloud, .ref h_t_reader, .ref h_t_hull, .ref h_t_near, .ref h_t_firstTie, .ref h_t_reducer, .ref h_t_chooser, .ref h_t_pair, .ref h_t_divider, .ref h_t_depths, .ref h_t_spot])), (h_t_reader, .inr (8, [.ref h_t_reader_tape, .ref h_t_reader_draft, .int t_reader_length, .int t_reader_faultKind, .int t_reader_faultPlace, .int t_reader_centreTold, .int t_reader_start, .int t_reader_next, .int t_reader_kind, .int t_reader_value]))] s.heap.size = A at hD ⊢
  have hA : ∀ q : Nat, s.heap.size ≤ q → A q := fun q h => by rw [← hAe]; exact Or.inr h
  clear hAe hD0
  have hl := lv_entry ([.ref h_t, .int a1]) (n := 2) (Nat.le_of_ble_eq_true rfl)
  rw [lg_entry_eq]
  generalize (lg_sl ([.ref h_t, .int a1]) ++ List.replicate (2 - (lg_sl ([.ref h_t, .int a1])).length) Slot.unset).toArray = ls at hl ⊢
  have hl : lv_has ls 2 [(0, .ref h_t), (1, .int a1)] := hl
  have hF : 0 ≤ (headSpec [Cond.code yX11_end cX11_end 2 (some .int)] ({ frames := 0, cells := 0, slots := 0, locals := 0 })).room.frames := Nat.le_refl _
  have hLo : 0 ≤ (headSpec [Cond.code yX11_end cX11_end 2 (some .int)] ({ frames := 0, cells := 0, slots := 0, locals := 0 })).room.locals := Nat.le_refl _
  have C0 : Sx p (headSpec [Cond.code yX11_end cX11_end 2 (some .int)] ({ frames := 0, cells := 0, slots := 0, locals := 0 })).room s m ([.ref h_t, .int a1] : List Value).toArray c cX11_end 2 RX11 A dC dI cI cL cB 0 0 := ⟨hx, hb, hml, hown, hts, hK, hT, hA, hF, hLo⟩
  refine startH (A := A) hP (fun H locs hP hS => ?_)
  rw [fX11_end] at hf
  refine lv_iload_n hx hb dX11_end_0 rfl (lv_at hl 1 rfl) ?_
  refine lv_if_lt (tgt := 15) hx hb dX11_end_1 (by decide) (fun hc => ?_) (fun hc => ?_)
  · replace hf := it_t (hc) hf
    refine lv_iconst (v := (-1 : Int32)) hx hb dX11_end_15 (by decide) ?_
    obtain ⟨rfl, rfl⟩ := o2 hf
    exact W.iret hx hb hr (fun t ht hW => ⟨⟨_, (), rfl, rfl, by rw [ht]; exact hP, hD⟩, hS.F ht⟩) hS.2.2 dX11_end_16
  · replace hf := it_f (hc) hf
    refine lv_iload_n hx hb dX11_end_4 rfl (lv_at hl 1 rfl) ?_
    refine lv_aload_n hx hb dX11_end_5 rfl (lv_at hl 0 rfl) ?_
    refine va_get (D := (dC, dI)) (ci := 11) (v := .ref h_t_reader) (C := RX11) (T := TX11) (N := 11) hx hb hts in_X11 hown hK hP 0 rfl rfl 1 (Nat.le_of_ble_eq_true rfl) (hts _ qf_X11_21) (fun _ h9 => h9) rfl dX11_end_6 ?_
    refine va_get (D := (dC, dI)) (ci := 8) (v := .int t_reader_length) (C := RX8) (T := TX8) (N := 10) hx hb hts in_X8 hown hK hP 1 rfl rfl 2 (Nat.le_of_ble_eq_true rfl) (hts _ qf_X11_96) (fun _ h9 => h9) rfl dX11_end_9 ?_
    refine lv_icmp_le (tgt := 17) hx hb dX11_end_12 (by decide) (fun hc => ?_) (fun hc => ?_)
    · replace hf := it_t (hc) hf
      refine lv_aload_n hx hb dX11_end_17 rfl (lv_at hl 0 rfl) ?_
      refine va_get (D := (dC, dI)) (ci := 11) (v := .ref h_t_reader) (C := RX11) (T := TX11) (N := 11) hx hb hts in_X11 hown hK hP 0 rfl rfl 1 (Nat.le_of_ble_eq_true rfl) (hts _ qf_X11_21) (fun _ h9 => h9) rfl dX11_end_18 ?_
      refine lv_iload_n hx hb dX11_end_21 rfl (lv_at hl 1 rfl) ?_
      refine xput (D := (dC, dI)) (ci := 8) (v := .int a1) (C := RX8) (T := TX8) (N := 10) (w2 := [(h_t, .inr (11, [.ref h_t_cloud, .ref h_t_reader, .ref h_t_hull, .ref h_t_near, .ref h_t_firstTie, .ref h_t_reducer, .ref h_t_chooser, .ref h_t_pair, .ref h_t_divider, .ref h_t_depths, .ref h_t_spot])), (h_t_reader, .inr (8, [.ref h_t_reader_tape, .ref h_t_reader_draft, .int a1, .int t_reader_faultKind, .int t_reader_faultPlace, .int t_reader_centreTold, .int t_reader_start, .int t_reader_next, .int t_reader_kind, .int t_reader_value]))]) hx hb hts in_X8 tyX8 tyX8_ok nmX8 hown hK hP hD hS 1 rfl rfl 2 (Nat.le_of_ble_eq_true rfl) (hts _ qf_X11_96) (fun _ h9 => h9) rfl rfl rfl (Nat.le_of_ble_eq_true rfl) rfl dX11_end_22 (fun H locs hP hD hS => ?_)
      refine lv_iload_n hx hb dX11_end_25 rfl (lv_at hl 1 rfl) ?_
      obtain ⟨rfl, rfl⟩ := o2 hf
      exact W.iret hx hb hr (fun t ht hW => ⟨⟨_, (), rfl, rfl, by rw [ht]; exact hP, hD⟩, hS.F ht⟩) hS.2.2 dX11_end_26
    · replace hf := it_f (hc) hf
      refine lv_iconst (v := (-1 : Int32)) hx hb dX11_end_15 (by decide) ?_
      obtain ⟨rfl, rfl⟩ := o2 hf
      exact W.iret hx hb hr (fun t ht hW => ⟨⟨_, (), rfl, rfl, by rw [ht]; exact hP, hD⟩, hS.F ht⟩) hS.2.2 dX11_end_16
theorem dX0_clear_0 : decode cX0_clear 0 = .ok (.aload_n 0, 1) := by decide +kernel
theorem dX0_clear_1 : decode cX0_clear 1 = .ok (.iconst 0, 1) := by decide +kernel
theorem dX0_clear_2 : decode cX0_clear 2 = .ok (.putfield 24, 3) := by decide +kernel
theorem dX0_clear_5 : decode cX0_clear 5 = .ok (.aload_n 0, 1) := by decide +kernel
theorem dX0_clear_6 : decode cX0_clear 6 = .ok (.iconst 0, 1) := by decide +kernel
theorem dX0_clear_7 : decode cX0_clear 7 = .ok (.putfield 38, 3) := by decide +kernel
theorem dX0_clear_10 : decode cX0_clear 10 = .ok (.aload_n 0, 1) := by decide +kernel
theorem dX0_clear_11 : decode cX0_clear 11 = .ok (.iconst 0, 1) := by decide +kernel
theorem dX0_clear_12 : decode cX0_clear 12 = .ok (.putfield 41, 3) := by decide +kernel
theorem dX0_clear_15 : decode cX0_clear 15 = .ok (.return_, 1) := by decide +kernel
set_option maxRecDepth 100000 in
set_option maxHeartbeats 4000000 in
theorem mtX0_clear (l : Launch) (dC : Nat → ClassId) (dI : Nat → Nat → Nat) (cI cL cB : ClassId) (K : Nat) (h_t h_t_x h_t_y h_t_colour h_t_load : Nat) (sz : Nat) (t_size : Int32) (t_centreX : Int32) (t_centreY : Int32) (o_t_size : Int32) (o_t_centreX : Int32) (o_t_centreY : Int32) (hf : fX0_clear K t_size t_centreX t_centreY = some (o_t_size, o_t_centreX, o_t_centreY)) : Met l yX0_clear [Cond.code yX0_clear cX0_clear 1 none] ({ frames := 0, cells := 0, slots := 0, locals := 0 }) (va_Pc [.ref h_t] (cPre dC dI cI cL cB sz [(h_t, .inr (0, [.ref h_t_x, .ref h_t_y, .ref h_t_colour, .ref h_t_load, .int t_size, .int t_centreX, .int t_centreY]))])) (cQv dC dI (va_A [(h_t, .inr (0, [.ref h_t_x, .ref h_t_y, .ref h_t_colour, .ref h_t_load, .int t_size, .int t_centreX, .int t_centreY]))] sz) [(h_t, .inr (0, [.ref h_t_x, .ref h_t_y, .ref h_t_colour, .ref h_t_load, .int o_t_size, .int o_t_centreX, .int o_t_centreY]))]) 0 0 (va_A [(h_t, .inr (0, [.ref h_t_x, .ref h_t_y, .ref h_t_colour, .ref h_t_load, .int t_size, .int t_centreX, .int t_centreY]))] sz) := by
  refine Met.ofW (cc := cX0_clear) (maxL := 1) (ret := none) (by decide) rfl ?_
  intro p e s m args below meth c s₁ B hml hv
  obtain ⟨rfl, hsz, hP, hK, hD0, hT⟩ := hv
  have hx := B.exec
  have hb := B.bytes
  have hr := B.returns
  have hown : s.vm.findClass RX0 = some m.cls := findClass_of_methodNamed B.named
  have hlocks := B.notSynchronized
  have hts := TB.use hT ([.ref h_t] : List Value).toArray
  subst hsz
  have hD := hD0.self (sz := s.heap.size)
  generalize hAe : va_A [(h_t, .inr (0, [.ref h_t_x, .ref h_t_y, .ref h_t_colour, .ref h_t_load, .int t_size, .int t_centreX, .int t_centreY]))] s.heap.size = A at hD ⊢
  have hA : ∀ q : Nat, s.heap.size ≤ q → A q := fun q h => by rw [← hAe]; exact Or.inr h
  clear hAe hD0
  have hl := lv_entry ([.ref h_t]) (n := 1) (Nat.le_of_ble_eq_true rfl)
  rw [lg_entry_eq]
  generalize (lg_sl ([.ref h_t]) ++ List.replicate (1 - (lg_sl ([.ref h_t])).length) Slot.unset).toArray = ls at hl ⊢
  have hl : lv_has ls 1 [(0, .ref h_t)] := hl
  have hF : 0 ≤ (headSpec [Cond.code yX0_clear cX0_clear 1 none] ({ frames := 0, cells := 0, slots := 0, locals := 0 })).room.frames := Nat.le_refl _
  have hLo : 0 ≤ (headSpec [Cond.code yX0_clear cX0_clear 1 none] ({ frames := 0, cells := 0, slots := 0, locals := 0 })).room.locals := Nat.le_refl _
  have C0 : Sx p (headSpec [Cond.code yX0_clear cX0_clear 1 none] ({ frames := 0, cells := 0, slots := 0, locals := 0 })).room s m ([.ref h_t] : List Value).toArray c cX0_clear 1 RX0 A dC dI cI cL cB 0 0 := ⟨hx, hb, hml, hown, hts, hK, hT, hA, hF, hLo⟩
  refine startH (A := A) hP (fun H locs hP hS => ?_)
  rw [fX0_clear] at hf
  refine lv_aload_n hx hb dX0_clear_0 rfl (lv_at hl 0 rfl) ?_
  refine lv_iconst (v := (0 : Int32)) hx hb dX0_clear_1 (by decide) ?_
  refine xput (D := (dC, dI)) (ci := 0) (v := .int (0 : Int32)) (C := RX0) (T := TX0) (N := 7) (w2 := [(h_t, .inr (0, [.ref h_t_x, .ref h_t_y, .ref h_t_colour, .ref h_t_load, .int (0 : Int32), .int t_centreX, .int t_centreY]))]) hx hb hts in_X0 tyX0 tyX0_ok nmX0 hown hK hP hD hS 0 rfl rfl 4 (Nat.le_of_ble_eq_true rfl) (hts _ qf_X0_24) (fun _ h9 => h9) rfl rfl rfl (Nat.le_of_ble_eq_true rfl) rfl dX0_clear_2 (fun H locs hP hD hS => ?_)
  refine lv_aload_n hx hb dX0_clear_5 rfl (lv_at hl 0 rfl) ?_
  refine lv_iconst (v := (0 : Int32)) hx hb dX0_clear_6 (by decide) ?_
  refine xput (D := (dC, dI)) (ci := 0) (v := .int (0 : Int32)) (C := RX0) (T := TX0) (N := 7) (w2 := [(h_t, .inr (0, [.ref h_t_x, .ref h_t_y, .ref h_t_colour, .ref h_t_load, .int (0 : Int32), .int (0 : Int32), .int t_centreY]))]) hx hb hts in_X0 tyX0 tyX0_ok nmX0 hown hK hP hD hS 0 rfl rfl 5 (Nat.le_of_ble_eq_true rfl) (hts _ qf_X0_38) (fun _ h9 => h9) rfl rfl rfl (Nat.le_of_ble_eq_true rfl) rfl dX0_clear_7 (fun H locs hP hD hS => ?_)
  refine lv_aload_n hx hb dX0_clear_10 rfl (lv_at hl 0 rfl) ?_
  refine lv_iconst (v := (0 : Int32)) hx hb dX0_clear_11 (by decide) ?_
  refine xput (D := (dC, dI)) (ci := 0) (v := .int (0 : Int32)) (C := RX0) (T := TX0) (N := 7) (w2 := [(h_t, .inr (0, [.ref h_t_x, .ref h_t_y, .ref h_t_colour, .ref h_t_load, .int (0 : Int32), .int (0 : Int32), .int (0 : Int32)]))]) hx hb hts in_X0 tyX0 tyX0_ok nmX0 hown hK hP hD hS 0 rfl rfl 6 (Nat.le_of_ble_eq_true rfl) (hts _ qf_X0_41) (fun _ h9 => h9) rfl rfl rfl (Nat.le_of_ble_eq_true rfl) rfl dX0_clear_12 (fun H locs hP hD hS => ?_)
  obtain ⟨rfl, rfl, rfl⟩ := o3 hf
  exact W.vret hx hb hr (fun t ht hW => ⟨⟨(), rfl, trivial, by rw [ht]; exact hP, hD⟩, hS.F ht⟩) hS.2.2 dX0_clear_15
theorem dX8_isLetter_0 : decode cX8_isLetter 0 = .ok (.iload_n 0, 1) := by decide +kernel
theorem dX8_isLetter_1 : decode cX8_isLetter 1 = .ok (.bipush 97, 2) := by decide +kernel
theorem dX8_isLetter_3 : decode cX8_isLetter 3 = .ok (.if_icmp .lt 13, 3) := by decide +kernel
theorem dX8_isLetter_6 : decode cX8_isLetter 6 = .ok (.iload_n 0, 1) := by decide +kernel
theorem dX8_isLetter_7 : decode cX8_isLetter 7 = .ok (.bipush 122, 2) := by decide +kernel
theorem dX8_isLetter_9 : decode cX8_isLetter 9 = .ok (.if_icmp .gt 7, 3) := by decide +kernel
theorem dX8_isLetter_12 : decode cX8_isLetter 12 = .ok (.iconst 1, 1) := by decide +kernel
theorem dX8_isLetter_13 : decode cX8_isLetter 13 = .ok (.goto 4, 3) := by decide +kernel
theorem dX8_isLetter_16 : decode cX8_isLetter 16 = .ok (.iconst 0, 1) := by decide +kernel
theorem dX8_isLetter_17 : decode cX8_isLetter 17 = .ok (.ireturn, 1) := by decide +kernel
set_option maxRecDepth 100000 in
set_option maxHeartbeats 4000000 in
theorem mtX8_isLetter (l : Launch) (dC : Nat → ClassId) (dI : Nat → Nat → Nat) (cI cL cB : ClassId) (K : Nat) (sz : Nat) (a0 : Int32) (o_r : Int32) (hf : fX8_isLetter K a0 = some o_r) : Met l yX8_isLetter [Cond.code yX8_isLetter cX8_isLetter 1 (some .boolean)] ({ frames := 0, cells := 0, slots := 0, locals := 0 }) (va_Pc [.int a0] (cPre dC dI cI cL cB sz [])) (cQi dC dI (va_A [] sz) o_r []) 0 0 (va_A [] sz) := by
  refine Met.ofW (cc := cX8_isLetter) (maxL := 1) (ret := (some .boolean)) (by decide) rfl ?_
  intro p e s m args below meth c s₁ B hml hv
  obtain ⟨rfl, hsz, hP, hK, hD0, hT⟩ := hv
  have hx := B.exec
  have hb := B.bytes
  have hr := B.returns
  have hown : s.vm.findClass RX8 = some m.cls := findClass_of_methodNamed B.named
  have hlocks := B.notSynchronized
  have hts := TB.use hT ([.int a0] : List Value).toArray
  subst hsz
  have hD := hD0.self (sz := s.heap.size)
  generalize hAe : va_A [] s.heap.size = A at hD ⊢
  have hA : ∀ q : Nat, s.heap.size ≤ q → A q := fun q h => by rw [← hAe]; exact Or.inr h
  clear hAe hD0
  have hl := lv_entry ([.int a0]) (n := 1) (Nat.le_of_ble_eq_true rfl)
  rw [lg_entry_eq]
  generalize (lg_sl ([.int a0]) ++ List.replicate (1 - (lg_sl ([.int a0])).length) Slot.unset).toArray = ls at hl ⊢
  have hl : lv_has ls 1 [(0, .int a0)] := hl
  have hF : 0 ≤ (headSpec [Cond.code yX8_isLetter cX8_isLetter 1 (some .boolean)] ({ frames := 0, cells := 0, slots := 0, locals := 0 })).room.frames := Nat.le_refl _
  have hLo : 0 ≤ (headSpec [Cond.code yX8_isLetter cX8_isLetter 1 (some .boolean)] ({ frames := 0, cells := 0, slots := 0, locals := 0 })).room.locals := Nat.le_refl _
  have C0 : Sx p (headSpec [Cond.code yX8_isLetter cX8_isLetter 1 (some .boolean)] ({ frames := 0, cells := 0, slots := 0, locals := 0 })).room s m ([.int a0] : List Value).toArray c cX8_isLetter 1 RX8 A dC dI cI cL cB 0 0 := ⟨hx, hb, hml, hown, hts, hK, hT, hA, hF, hLo⟩
  refine startH (A := A) hP (fun H locs hP hS => ?_)
  rw [fX8_isLetter] at hf
  refine lv_iload_n hx hb dX8_isLetter_0 rfl (lv_at hl 0 rfl) ?_
  refine lv_bipush (v := (97 : Int32)) hx hb dX8_isLetter_1 (by decide) ?_
  refine lv_icmp_lt (tgt := 16) hx hb dX8_isLetter_3 (by decide) (fun hc => ?_) (fun hc => ?_)
  · replace hf := it_t (hc) hf
    refine lv_iconst (v := (0 : Int32)) hx hb dX8_isLetter_16 (by decide) ?_
    obtain rfl := o1 hf
    exact W.zret hx hb hr rfl (fun t ht hW => ⟨⟨_, (), rfl, rfl, by rw [ht]; exact hP, hD⟩, hS.F ht⟩) hS.2.2 dX8_isLetter_17
  · replace hf := it_f (hc) hf
    refine lv_iload_n hx hb dX8_isLetter_6 rfl (lv_at hl 0 rfl) ?_
    refine lv_bipush (v := (122 : Int32)) hx hb dX8_isLetter_7 (by decide) ?_
    refine lv_icmp_gt (tgt := 16) hx hb dX8_isLetter_9 (by decide) (fun hc => ?_) (fun hc => ?_)
    · replace hf := it_t (hc) hf
      refine lv_iconst (v := (0 : Int32)) hx hb dX8_isLetter_16 (by decide) ?_
      obtain rfl := o1 hf
      exact W.zret hx hb hr rfl (fun t ht hW => ⟨⟨_, (), rfl, rfl, by rw [ht]; exact hP, hD⟩, hS.F ht⟩) hS.2.2 dX8_isLetter_17
    · replace hf := it_f (hc) hf
      refine lv_iconst (v := (1 : Int32)) hx hb dX8_isLetter_12 (by decide) ?_
      refine lv_goto (tgt := 17) hx hb dX8_isLetter_13 (by decide) ?_
      obtain rfl := o1 hf
      exact W.zret hx hb hr rfl (fun t ht hW => ⟨⟨_, (), rfl, rfl, by rw [ht]; exact hP, hD⟩, hS.F ht⟩) hS.2.2 dX8_isLetter_17
theorem dX8_isDigit_0 : decode cX8_isDigit 0 = .ok (.iload_n 0, 1) := by decide +kernel
theorem dX8_isDigit_1 : decode cX8_isDigit 1 = .ok (.bipush 48, 2) := by decide +kernel
theorem dX8_isDigit_3 : decode cX8_isDigit 3 = .ok (.if_icmp .lt 13, 3) := by decide +kernel
theorem dX8_isDigit_6 : decode cX8_isDigit 6 = .ok (.iload_n 0, 1) := by decide +kernel
theorem dX8_isDigit_7 : decode cX8_isDigit 7 = .ok (.bipush 57, 2) := by decide +kernel
theorem dX8_isDigit_9 : decode cX8_isDigit 9 = .ok (.if_icmp .gt 7, 3) := by decide +kernel
theorem dX8_isDigit_12 : decode cX8_isDigit 12 = .ok (.iconst 1, 1) := by decide +kernel
theorem dX8_isDigit_13 : decode cX8_isDigit 13 = .ok (.goto 4, 3) := by decide +kernel
theorem dX8_isDigit_16 : decode cX8_isDigit 16 = .ok (.iconst 0, 1) := by decide +kernel
theorem dX8_isDigit_17 : decode cX8_isDigit 17 = .ok (.ireturn, 1) := by decide +kernel
set_option maxRecDepth 100000 in
set_option maxHeartbeats 4000000 in
theorem mtX8_isDigit (l : Launch) (dC : Nat → ClassId) (dI : Nat → Nat → Nat) (cI cL cB : ClassId) (K : Nat) (sz : Nat) (a0 : Int32) (o_r : Int32) (hf : fX8_isDigit K a0 = some o_r) : Met l yX8_isDigit [Cond.code yX8_isDigit cX8_isDigit 1 (some .boolean)] ({ frames := 0, cells := 0, slots := 0, locals := 0 }) (va_Pc [.int a0] (cPre dC dI cI cL cB sz [])) (cQi dC dI (va_A [] sz) o_r []) 0 0 (va_A [] sz) := by
  refine Met.ofW (cc := cX8_isDigit) (maxL := 1) (ret := (some .boolean)) (by decide) rfl ?_
  intro p e s m args below meth c s₁ B hml hv
  obtain ⟨rfl, hsz, hP, hK, hD0, hT⟩ := hv
  have hx := B.exec
  have hb := B.bytes
  have hr := B.returns
  have hown : s.vm.findClass RX8 = some m.cls := findClass_of_methodNamed B.named
  have hlocks := B.notSynchronized
  have hts := TB.use hT ([.int a0] : List Value).toArray
  subst hsz
  have hD := hD0.self (sz := s.heap.size)
  generalize hAe : va_A [] s.heap.size = A at hD ⊢
  have hA : ∀ q : Nat, s.heap.size ≤ q → A q := fun q h => by rw [← hAe]; exact Or.inr h
  clear hAe hD0
  have hl := lv_entry ([.int a0]) (n := 1) (Nat.le_of_ble_eq_true rfl)
  rw [lg_entry_eq]
  generalize (lg_sl ([.int a0]) ++ List.replicate (1 - (lg_sl ([.int a0])).length) Slot.unset).toArray = ls at hl ⊢
  have hl : lv_has ls 1 [(0, .int a0)] := hl
  have hF : 0 ≤ (headSpec [Cond.code yX8_isDigit cX8_isDigit 1 (some .boolean)] ({ frames := 0, cells := 0, slots := 0, locals := 0 })).room.frames := Nat.le_refl _
  have hLo : 0 ≤ (headSpec [Cond.code yX8_isDigit cX8_isDigit 1 (some .boolean)] ({ frames := 0, cells := 0, slots := 0, locals := 0 })).room.locals := Nat.le_refl _
  have C0 : Sx p (headSpec [Cond.code yX8_isDigit cX8_isDigit 1 (some .boolean)] ({ frames := 0, cells := 0, slots := 0, locals := 0 })).room s m ([.int a0] : List Value).toArray c cX8_isDigit 1 RX8 A dC dI cI cL cB 0 0 := ⟨hx, hb, hml, hown, hts, hK, hT, hA, hF, hLo⟩
  refine startH (A := A) hP (fun H locs hP hS => ?_)
  rw [fX8_isDigit] at hf
  refine lv_iload_n hx hb dX8_isDigit_0 rfl (lv_at hl 0 rfl) ?_
  refine lv_bipush (v := (48 : Int32)) hx hb dX8_isDigit_1 (by decide) ?_
  refine lv_icmp_lt (tgt := 16) hx hb dX8_isDigit_3 (by decide) (fun hc => ?_) (fun hc => ?_)
  · replace hf := it_t (hc) hf
    refine lv_iconst (v := (0 : Int32)) hx hb dX8_isDigit_16 (by decide) ?_
    obtain rfl := o1 hf
    exact W.zret hx hb hr rfl (fun t ht hW => ⟨⟨_, (), rfl, rfl, by rw [ht]; exact hP, hD⟩, hS.F ht⟩) hS.2.2 dX8_isDigit_17
  · replace hf := it_f (hc) hf
    refine lv_iload_n hx hb dX8_isDigit_6 rfl (lv_at hl 0 rfl) ?_
    refine lv_bipush (v := (57 : Int32)) hx hb dX8_isDigit_7 (by decide) ?_
    refine lv_icmp_gt (tgt := 16) hx hb dX8_isDigit_9 (by decide) (fun hc => ?_) (fun hc => ?_)
    · replace hf := it_t (hc) hf
      refine lv_iconst (v := (0 : Int32)) hx hb dX8_isDigit_16 (by decide) ?_
      obtain rfl := o1 hf
      exact W.zret hx hb hr rfl (fun t ht hW => ⟨⟨_, (), rfl, rfl, by rw [ht]; exact hP, hD⟩, hS.F ht⟩) hS.2.2 dX8_isDigit_17
    · replace hf := it_f (hc) hf
      refine lv_iconst (v := (1 : Int32)) hx hb dX8_isDigit_12 (by decide) ?_
      refine lv_goto (tgt := 17) hx hb dX8_isDigit_13 (by decide) ?_
      obtain rfl := o1 hf
      exact W.zret hx hb hr rfl (fun t ht hW => ⟨⟨_, (), rfl, rfl, by rw [ht]; exact hP, hD⟩, hS.F ht⟩) hS.2.2 dX8_isDigit_17
theorem dX8_signKind_0 : decode cX8_signKind 0 = .ok (.iload_n 0, 1) := by decide +kernel
theorem dX8_signKind_1 : decode cX8_signKind 1 = .ok (.lookupswitch 41 #[(44, 37), (45, 39), (59, 35)], 35) := by decide +kernel
theorem dX8_signKind_36 : decode cX8_signKind 36 = .ok (.iconst 3, 1) := by decide +kernel
theorem dX8_signKind_37 : decode cX8_signKind 37 = .ok (.ireturn, 1) := by decide +kernel
theorem dX8_signKind_38 : decode cX8_signKind 38 = .ok (.iconst 4, 1) := by decide +kernel
theorem dX8_signKind_39 : decode cX8_signKind 39 = .ok (.ireturn, 1) := by decide +kernel
theorem dX8_signKind_40 : decode cX8_signKind 40 = .ok (.iconst 5, 1) := by decide +kernel
theorem dX8_signKind_41 : decode cX8_signKind 41 = .ok (.ireturn, 1) := by decide +kernel
theorem dX8_signKind_42 : decode cX8_signKind 42 = .ok (.bipush 6, 2) := by decide +kernel
theorem dX8_signKind_44 : decode cX8_signKind 44 = .ok (.ireturn, 1) := by decide +kernel
set_option maxRecDepth 100000 in
set_option maxHeartbeats 4000000 in
theorem mtX8_signKind (l : Launch) (dC : Nat → ClassId) (dI : Nat → Nat → Nat) (cI cL cB : ClassId) (K : Nat) (sz : Nat) (a0 : Int32) (o_r : Int32) (hf : fX8_signKind K a0 = some o_r) : Met l yX8_signKind [Cond.code yX8_signKind cX8_signKind 1 (some .int)] ({ frames := 0, cells := 0, slots := 0, locals := 0 }) (va_Pc [.int a0] (cPre dC dI cI cL cB sz [])) (cQi dC dI (va_A [] sz) o_r []) 0 0 (va_A [] sz) := by
  refine Met.ofW (cc := cX8_signKind) (maxL := 1) (ret := (some .int)) (by decide) rfl ?_
  intro p e s m args below meth c s₁ B hml hv
  obtain ⟨rfl, hsz, hP, hK, hD0, hT⟩ := hv
  have hx := B.exec
  have hb := B.bytes
  have hr := B.returns
  have hown : s.vm.findClass RX8 = some m.cls := findClass_of_methodNamed B.named
  have hlocks := B.notSynchronized
  have hts := TB.use hT ([.int a0] : List Value).toArray
  subst hsz
  have hD := hD0.self (sz := s.heap.size)
  generalize hAe : va_A [] s.heap.size = A at hD ⊢
  have hA : ∀ q : Nat, s.heap.size ≤ q → A q := fun q h => by rw [← hAe]; exact Or.inr h
  clear hAe hD0
  have hl := lv_entry ([.int a0]) (n := 1) (Nat.le_of_ble_eq_true rfl)
  rw [lg_entry_eq]
  generalize (lg_sl ([.int a0]) ++ List.replicate (1 - (lg_sl ([.int a0])).length) Slot.unset).toArray = ls at hl ⊢
  have hl : lv_has ls 1 [(0, .int a0)] := hl
  have hF : 0 ≤ (headSpec [Cond.code yX8_signKind cX8_signKind 1 (some .int)] ({ frames := 0, cells := 0, slots := 0, locals := 0 })).room.frames := Nat.le_refl _
  have hLo : 0 ≤ (headSpec [Cond.code yX8_signKind cX8_signKind 1 (some .int)] ({ frames := 0, cells := 0, slots := 0, locals := 0 })).room.locals := Nat.le_refl _
  have C0 : Sx p (headSpec [Cond.code yX8_signKind cX8_signKind 1 (some .int)] ({ frames := 0, cells := 0, slots := 0, locals := 0 })).room s m ([.int a0] : List Value).toArray c cX8_signKind 1 RX8 A dC dI cI cL cB 0 0 := ⟨hx, hb, hml, hown, hts, hK, hT, hA, hF, hLo⟩
  refine startH (A := A) hP (fun H locs hP hS => ?_)
  rw [fX8_signKind] at hf
  refine lv_iload_n hx hb dX8_signKind_0 rfl (lv_at hl 0 rfl) ?_
  by_cases hk_1 : a0 = (44 : Int32)
  · replace hf := it_t hk_1 hf
    refine lv_lookup (off := 37) (tgt := 38) hx hb dX8_signKind_1 (by decide) (by rw [hk_1]; decide) (by decide) ?_
    refine lv_iconst (v := (4 : Int32)) hx hb dX8_signKind_38 (by decide) ?_
    obtain rfl := o1 hf
    exact W.iret hx hb hr (fun t ht hW => ⟨⟨_, (), rfl, rfl, by rw [ht]; exact hP, hD⟩, hS.F ht⟩) hS.2.2 dX8_signKind_39
  · replace hf := it_f hk_1 hf
    by_cases hk_2 : a0 = (45 : Int32)
    · replace hf := it_t hk_2 hf
      refine lv_lookup (off := 39) (tgt := 40) hx hb dX8_signKind_1 (by decide) (by rw [hk_2]; decide) (by decide) ?_
      refine lv_iconst (v := (5 : Int32)) hx hb dX8_signKind_40 (by decide) ?_
      obtain rfl := o1 hf
      exact W.iret hx hb hr (fun t ht hW => ⟨⟨_, (), rfl, rfl, by rw [ht]; exact hP, hD⟩, hS.F ht⟩) hS.2.2 dX8_signKind_41
    · replace hf := it_f hk_2 hf
      by_cases hk_3 : a0 = (59 : Int32)
      · replace hf := it_t hk_3 hf
        refine lv_lookup (off := 35) (tgt := 36) hx hb dX8_signKind_1 (by decide) (by rw [hk_3]; decide) (by decide) ?_
        refine lv_iconst (v := (3 : Int32)) hx hb dX8_signKind_36 (by decide) ?_
        obtain rfl := o1 hf
        exact W.iret hx hb hr (fun t ht hW => ⟨⟨_, (), rfl, rfl, by rw [ht]; exact hP, hD⟩, hS.F ht⟩) hS.2.2 dX8_signKind_37
      · replace hf := it_f hk_3 hf
        refine lv_lookup (off := 41) (tgt := 42) hx hb dX8_signKind_1 (by decide) ((lv_osw (k := (44 : Int32)) hk_1 (by decide)).trans ((lv_osw (k := (45 : Int32)) hk_2 (by decide)).trans ((lv_osw (k := (59 : Int32)) hk_3 (by decide)).trans rfl))) (by decide) ?_
        refine lv_bipush (v := (6 : Int32)) hx hb dX8_signKind_42 (by decide) ?_
        obtain rfl := o1 hf
        exact W.iret hx hb hr (fun t ht hW => ⟨⟨_, (), rfl, rfl, by rw [ht]; exact hP, hD⟩, hS.F ht⟩) hS.2.2 dX8_signKind_44
theorem dX8_advance_0 : decode cX8_advance 0 = .ok (.aload_n 0, 1) := by decide +kernel
theorem dX8_advance_1 : decode cX8_advance 1 = .ok (.getfield 39, 3) := by decide +kernel
theorem dX8_advance_4 : decode cX8_advance 4 = .ok (.aload_n 0, 1) := by decide +kernel
theorem dX8_advance_5 : decode cX8_advance 5 = .ok (.getfield 26, 3) := by decide +kernel
theorem dX8_advance_8 : decode cX8_advance 8 = .ok (.if_icmp .ge 44, 3) := by decide +kernel
theorem dX8_advance_11 : decode cX8_advance 11 = .ok (.aload_n 0, 1) := by decide +kernel
theorem dX8_advance_12 : decode cX8_advance 12 = .ok (.getfield 9, 3) := by decide +kernel
theorem dX8_advance_15 : decode cX8_advance 15 = .ok (.aload_n 0, 1) := by decide +kernel
theorem dX8_advance_16 : decode cX8_advance 16 = .ok (.getfield 39, 3) := by decide +kernel
theorem dX8_advance_19 : decode cX8_advance 19 = .ok (.baload, 1) := by decide +kernel
theorem dX8_advance_20 : decode cX8_advance 20 = .ok (.bipush 32, 2) := by decide +kernel
theorem dX8_advance_22 : decode cX8_advance 22 = .ok (.if_icmp .eq 17, 3) := by decide +kernel
theorem dX8_advance_25 : decode cX8_advance 25 = .ok (.aload_n 0, 1) := by decide +kernel
theorem dX8_advance_26 : decode cX8_advance 26 = .ok (.getfield 9, 3) := by decide +kernel
theorem dX8_advance_29 : decode cX8_advance 29 = .ok (.aload_n 0, 1) := by decide +kernel
theorem dX8_advance_30 : decode cX8_advance 30 = .ok (.getfield 39, 3) := by decide +kernel
theorem dX8_advance_33 : decode cX8_advance 33 = .ok (.baload, 1) := by decide +kernel
theorem dX8_advance_34 : decode cX8_advance 34 = .ok (.bipush 10, 2) := by decide +kernel
theorem dX8_advance_36 : decode cX8_advance 36 = .ok (.if_icmp .ne 16, 3) := by decide +kernel
theorem dX8_advance_39 : decode cX8_advance 39 = .ok (.aload_n 0, 1) := by decide +kernel
theorem dX8_advance_40 : decode cX8_advance 40 = .ok (.dup, 1) := by decide +kernel
theorem dX8_advance_41 : decode cX8_advance 41 = .ok (.getfield 39, 3) := by decide +kernel
theorem dX8_advance_44 : decode cX8_advance 44 = .ok (.iconst 1, 1) := by decide +kernel
theorem dX8_advance_45 : decode cX8_advance 45 = .ok (.iadd, 1) := by decide +kernel
theorem dX8_advance_46 : decode cX8_advance 46 = .ok (.putfield 39, 3) := by decide +kernel
theorem dX8_advance_49 : decode cX8_advance 49 = .ok (.goto (-49), 3) := by decide +kernel
theorem dX8_advance_52 : decode cX8_advance 52 = .ok (.aload_n 0, 1) := by decide +kernel
theorem dX8_advance_53 : decode cX8_advance 53 = .ok (.aload_n 0, 1) := by decide +kernel
theorem dX8_advance_54 : decode cX8_advance 54 = .ok (.getfield 39, 3) := by decide +kernel
theorem dX8_advance_57 : decode cX8_advance 57 = .ok (.putfield 108, 3) := by decide +kernel
theorem dX8_advance_60 : decode cX8_advance 60 = .ok (.aload_n 0, 1) := by decide +kernel
theorem dX8_advance_61 : decode cX8_advance 61 = .ok (.getfield 108, 3) := by decide +kernel
theorem dX8_advance_64 : decode cX8_advance 64 = .ok (.aload_n 0, 1) := by decide +kernel
theorem dX8_advance_65 : decode cX8_advance 65 = .ok (.getfield 26, 3) := by decide +kernel
theorem dX8_advance_68 : decode cX8_advance 68 = .ok (.if_icmp .lt 12, 3) := by decide +kernel
theorem dX8_advance_71 : decode cX8_advance 71 = .ok (.aload_n 0, 1) := by decide +kernel
theorem dX8_advance_72 : decode cX8_advance 72 = .ok (.bipush 7, 2) := by decide +kernel
theorem dX8_advance_74 : decode cX8_advance 74 = .ok (.putfield 45, 3) := by decide +kernel
theorem dX8_advance_77 : decode cX8_advance 77 = .ok (.goto 188, 3) := by decide +kernel
theorem dX8_advance_80 : decode cX8_advance 80 = .ok (.aload_n 0, 1) := by decide +kernel
theorem dX8_advance_81 : decode cX8_advance 81 = .ok (.getfield 9, 3) := by decide +kernel
theorem dX8_advance_84 : decode cX8_advance 84 = .ok (.aload_n 0, 1) := by decide +kernel
theorem dX8_advance_85 : decode cX8_advance 85 = .ok (.getfield 108, 3) := by decide +kernel
theorem dX8_advance_88 : decode cX8_advance 88 = .ok (.baload, 1) := by decide +kernel
theorem dX8_advance_89 : decode cX8_advance 89 = .ok (.invokestatic 111, 3) := by decide +kernel
theorem dX8_advance_92 : decode cX8_advance 92 = .ok (.ifCond .eq 50, 3) := by decide +kernel
theorem dX8_advance_95 : decode cX8_advance 95 = .ok (.aload_n 0, 1) := by decide +kernel
theorem dX8_advance_96 : decode cX8_advance 96 = .ok (.getfield 39, 3) := by decide +kernel
theorem dX8_advance_99 : decode cX8_advance 99 = .ok (.aload_n 0, 1) := by decide +kernel
theorem dX8_advance_100 : decode cX8_advance 100 = .ok (.getfield 26, 3) := by decide +kernel
theorem dX8_advance_103 : decode cX8_advance 103 = .ok (.if_icmp .ge 31, 3) := by decide +kernel
theorem dX8_advance_106 : decode cX8_advance 106 = .ok (.aload_n 0, 1) := by decide +kernel
theorem dX8_advance_107 : decode cX8_advance 107 = .ok (.getfield 9, 3) := by decide +kernel
theorem dX8_advance_110 : decode cX8_advance 110 = .ok (.aload_n 0, 1) := by decide +kernel
theorem dX8_advance_111 : decode cX8_advance 111 = .ok (.getfield 39, 3) := by decide +kernel
theorem dX8_advance_114 : decode cX8_advance 114 = .ok (.baload, 1) := by decide +kernel
theorem dX8_advance_115 : decode cX8_advance 115 = .ok (.invokestatic 111, 3) := by decide +kernel
theorem dX8_advance_118 : decode cX8_advance 118 = .ok (.ifCond .eq 16, 3) := by decide +kernel
theorem dX8_advance_121 : decode cX8_advance 121 = .ok (.aload_n 0, 1) := by decide +kernel
theorem dX8_advance_122 : decode cX8_advance 122 = .ok (.dup, 1) := by decide +kernel
theorem dX8_advance_123 : decode cX8_advance 123 = .ok (.getfield 39, 3) := by decide +kernel
theorem dX8_advance_126 : decode cX8_advance 126 = .ok (.iconst 1, 1) := by decide +kernel
theorem dX8_advance_127 : decode cX8_advance 127 = .ok (.iadd, 1) := by decide +kernel
theorem dX8_advance_128 : decode cX8_advance 128 = .ok (.putfield 39, 3) := by decide +kernel
theorem dX8_advance_131 : decode cX8_advance 131 = .ok (.goto (-36), 3) := by decide +kernel
theorem dX8_advance_134 : decode cX8_advance 134 = .ok (.aload_n 0, 1) := by decide +kernel
theorem dX8_advance_135 : decode cX8_advance 135 = .ok (.iconst 1, 1) := by decide +kernel
theorem dX8_advance_136 : decode cX8_advance 136 = .ok (.putfield 45, 3) := by decide +kernel
theorem dX8_advance_139 : decode cX8_advance 139 = .ok (.goto 126, 3) := by decide +kernel
theorem dX8_advance_142 : decode cX8_advance 142 = .ok (.aload_n 0, 1) := by decide +kernel
theorem dX8_advance_143 : decode cX8_advance 143 = .ok (.getfield 9, 3) := by decide +kernel
theorem dX8_advance_146 : decode cX8_advance 146 = .ok (.aload_n 0, 1) := by decide +kernel
theorem dX8_advance_147 : decode cX8_advance 147 = .ok (.getfield 108, 3) := by decide +kernel
theorem dX8_advance_150 : decode cX8_advance 150 = .ok (.baload, 1) := by decide +kernel
theorem dX8_advance_151 : decode cX8_advance 151 = .ok (.invokestatic 115, 3) := by decide +kernel
theorem dX8_advance_154 : decode cX8_advance 154 = .ok (.ifCond .eq 85, 3) := by decide +kernel
theorem dX8_advance_157 : decode cX8_advance 157 = .ok (.aload_n 0, 1) := by decide +kernel
theorem dX8_advance_158 : decode cX8_advance 158 = .ok (.iconst 0, 1) := by decide +kernel
theorem dX8_advance_159 : decode cX8_advance 159 = .ok (.putfield 105, 3) := by decide +kernel
theorem dX8_advance_162 : decode cX8_advance 162 = .ok (.aload_n 0, 1) := by decide +kernel
theorem dX8_advance_163 : decode cX8_advance 163 = .ok (.getfield 39, 3) := by decide +kernel
theorem dX8_advance_166 : decode cX8_advance 166 = .ok (.aload_n 0, 1) := by decide +kernel
theorem dX8_advance_167 : decode cX8_advance 167 = .ok (.getfield 26, 3) := by decide +kernel
theorem dX8_advance_170 : decode cX8_advance 170 = .ok (.if_icmp .ge 61, 3) := by decide +kernel
theorem dX8_advance_173 : decode cX8_advance 173 = .ok (.aload_n 0, 1) := by decide +kernel
theorem dX8_advance_174 : decode cX8_advance 174 = .ok (.getfield 9, 3) := by decide +kernel
theorem dX8_advance_177 : decode cX8_advance 177 = .ok (.aload_n 0, 1) := by decide +kernel
theorem dX8_advance_178 : decode cX8_advance 178 = .ok (.getfield 39, 3) := by decide +kernel
theorem dX8_advance_181 : decode cX8_advance 181 = .ok (.baload, 1) := by decide +kernel
theorem dX8_advance_182 : decode cX8_advance 182 = .ok (.invokestatic 115, 3) := by decide +kernel
theorem dX8_advance_185 : decode cX8_advance 185 = .ok (.ifCond .eq 46, 3) := by decide +kernel
theorem dX8_advance_188 : decode cX8_advance 188 = .ok (.aload_n 0, 1) := by decide +kernel
theorem dX8_advance_189 : decode cX8_advance 189 = .ok (.aload_n 0, 1) := by decide +kernel
theorem dX8_advance_190 : decode cX8_advance 190 = .ok (.getfield 105, 3) := by decide +kernel
theorem dX8_advance_193 : decode cX8_advance 193 = .ok (.bipush 10, 2) := by decide +kernel
theorem dX8_advance_195 : decode cX8_advance 195 = .ok (.imul, 1) := by decide +kernel
theorem dX8_advance_196 : decode cX8_advance 196 = .ok (.aload_n 0, 1) := by decide +kernel
theorem dX8_advance_197 : decode cX8_advance 197 = .ok (.getfield 9, 3) := by decide +kernel
theorem dX8_advance_200 : decode cX8_advance 200 = .ok (.aload_n 0, 1) := by decide +kernel
theorem dX8_advance_201 : decode cX8_advance 201 = .ok (.getfield 39, 3) := by decide +kernel
theorem dX8_advance_204 : decode cX8_advance 204 = .ok (.baload, 1) := by decide +kernel
theorem dX8_advance_205 : decode cX8_advance 205 = .ok (.iadd, 1) := by decide +kernel
theorem dX8_advance_206 : decode cX8_advance 206 = .ok (.bipush 48, 2) := by decide +kernel
theorem dX8_advance_208 : decode cX8_advance 208 = .ok (.isub, 1) := by decide +kernel
theorem dX8_advance_209 : decode cX8_advance 209 = .ok (.sipush 1000, 3) := by decide +kernel
theorem dX8_advance_212 : decode cX8_advance 212 = .ok (.invokestatic 118, 3) := by decide +kernel
theorem dX8_advance_215 : decode cX8_advance 215 = .ok (.putfield 105, 3) := by decide +kernel
theorem dX8_advance_218 : decode cX8_advance 218 = .ok (.aload_n 0, 1) := by decide +kernel
theorem dX8_advance_219 : decode cX8_advance 219 = .ok (.dup, 1) := by decide +kernel
theorem dX8_advance_220 : decode cX8_advance 220 = .ok (.getfield 39, 3) := by decide +kernel
theorem dX8_advance_223 : decode cX8_advance 223 = .ok (.iconst 1, 1) := by decide +kernel
theorem dX8_advance_224 : decode cX8_advance 224 = .ok (.iadd, 1) := by decide +kernel
theorem dX8_advance_225 : decode cX8_advance 225 = .ok (.putfield 39, 3) := by decide +kernel
theorem dX8_advance_228 : decode cX8_advance 228 = .ok (.goto (-66), 3) := by decide +kernel
theorem dX8_advance_231 : decode cX8_advance 231 = .ok (.aload_n 0, 1) := by decide +kernel
theorem dX8_advance_232 : decode cX8_advance 232 = .ok (.iconst 2, 1) := by decide +kernel
theorem dX8_advance_233 : decode cX8_advance 233 = .ok (.putfield 45, 3) := by decide +kernel
theorem dX8_advance_236 : decode cX8_advance 236 = .ok (.goto 29, 3) := by decide +kernel
theorem dX8_advance_239 : decode cX8_advance 239 = .ok (.aload_n 0, 1) := by decide +kernel
theorem dX8_advance_240 : decode cX8_advance 240 = .ok (.aload_n 0, 1) := by decide +kernel
theorem dX8_advance_241 : decode cX8_advance 241 = .ok (.getfield 9, 3) := by decide +kernel
theorem dX8_advance_244 : decode cX8_advance 244 = .ok (.aload_n 0, 1) := by decide +kernel
theorem dX8_advance_245 : decode cX8_advance 245 = .ok (.getfield 108, 3) := by decide +kernel
theorem dX8_advance_248 : decode cX8_advance 248 = .ok (.baload, 1) := by decide +kernel
theorem dX8_advance_249 : decode cX8_advance 249 = .ok (.invokestatic 124, 3) := by decide +kernel
theorem dX8_advance_252 : decode cX8_advance 252 = .ok (.putfield 45, 3) := by decide +kernel
theorem dX8_advance_255 : decode cX8_advance 255 = .ok (.aload_n 0, 1) := by decide +kernel
theorem dX8_advance_256 : decode cX8_advance 256 = .ok (.dup, 1) := by decide +kernel
theorem dX8_advance_257 : decode cX8_advance 257 = .ok (.getfield 39, 3) := by decide +kernel
theorem dX8_advance_260 : decode cX8_advance 260 = .ok (.iconst 1, 1) := by decide +kernel
theorem dX8_advance_261 : decode cX8_advance 261 = .ok (.iadd, 1) := by decide +kernel
theorem dX8_advance_262 : decode cX8_advance 262 = .ok (.putfield 39, 3) := by decide +kernel
theorem dX8_advance_265 : decode cX8_advance 265 = .ok (.return_, 1) := by decide +kernel
set_option maxRecDepth 100000 in
set_option maxHeartbeats 4000000 in
theorem wX8_advance_L0 {p : Program} {l : Launch} {e : Env} {R : Room} {s : State} {m : MethodId} {args : Array Value} {below : List Frame} {meth : Method} {c : Code} {Q : State → Prop} {A : Nat → Prop} {dC : Nat → ClassId} {dI : Nat → Nat → Nat} {cI cL cB : ClassId} {K : Nat} (C0 : Sx p R s m args c cX8_advance 1 RX8 A dC dI cI cL cB 1 20) (h_t h_t_tape h_t_draft : Nat) (t_length : Int32) (t_faultKind : Int32) (t_faultPlace : Int32) (t_centreTold : Int32) (t_start : Int32) (t_kind : Int32) (t_value : Int32) (t_tape : Nat → Int32) : ∀ (n : Nat) (t_next : Int32) (x_t_next : Int32) (H : Heap) (locs : List Loc) (ls : Array Slot), va_P (dC, dI) vwCl [(h_t, .inr (8, [.ref h_t_tape, .ref h_t_draft, .int t_length, .int t_faultKind, .int t_faultPlace, .int t_centreTold, .int t_start, .int t_next, .int t_kind, .int t_value])), (h_t_tape, .inl (cB, 600, .inl t_tape))] H → va_D A [(h_t, .inr (8, [.ref h_t_tape, .ref h_t_draft, .int t_length, .int t_faultKind, .int t_faultPlace, .int t_centreTold, .int t_start, .int t_next, .int t_kind, .int t_value])), (h_t_tape, .inl (cB, 600, .inl t_tape))] → va_S A s.heap H locs → lv_has ls 1 [(0, .ref h_t)] → fX8_advance_L0 K t_length t_tape n t_next = some x_t_next → (∀ (H : Heap) (locs : List Loc) (ls : Array Slot), va_P (dC, dI) vwCl [(h_t, .inr (8, [.ref h_t_tape, .ref h_t_draft, .int t_length, .int t_faultKind, .int t_faultPlace, .int t_centreTold, .int t_start, .int x_t_next, .int t_kind, .int t_value])), (h_t_tape, .inl (cB, 600, .inl t_tape))] H → va_D A [(h_t, .inr (8, [.ref h_t_tape, .ref h_t_draft, .int t_length, .int t_faultKind, .int t_faultPlace, .int t_centreTold, .int t_start, .int x_t_next, .int t_kind, .int t_value])), (h_t_tape, .inl (cB, 600, .inl t_tape))] → va_S A s.heap H locs → lv_has ls 1 [(0, .ref h_t)] → W p l e R s m args below meth c H locs 0 0 Q (F0 m 52 ls [])) → W p l e R s m args below meth c H locs 0 0 Q (F0 m 0 ls []) := by
  obtain ⟨hx, hb, hml, hown, hts, hK, hT, hA, hF, hLo⟩ := id C0
  intro n
  induction n with
  | zero =>
    intro t_next x_t_next H locs ls hP hD hS hl hf
    rw [fX8_advance_L0] at hf
    cases hf
  | succ n ih =>
    intro t_next x_t_next H locs ls hP hD hS hl hf hk
    rw [fX8_advance_L0] at hf
    refine lv_aload_n hx hb dX8_advance_0 rfl (lv_at hl 0 rfl) ?_
    refine va_get (D := (dC, dI)) (ci := 8) (v := .int t_next) (C := RX8) (T := TX8) (N := 10) hx hb hts in_X8 hown hK hP 0 rfl rfl 7 (Nat.le_of_ble_eq_true rfl) (hts _ qf_X8_39) (fun _ h9 => h9) rfl dX8_advance_1 ?_
    refine lv_aload_n hx hb dX8_advance_4 rfl (lv_at hl 0 rfl) ?_
    refine va_get (D := (dC, dI)) (ci := 8) (v := .int t_length) (C := RX8) (T := TX8) (N := 10) hx hb hts in_X8 hown hK hP 0 rfl rfl 2 (Nat.le_of_ble_eq_true rfl) (hts _ qf_X8_26) (fun _ h9 => h9) rfl dX8_advance_5 ?_
    refine lv_icmp_ge (tgt := 52) hx hb dX8_advance_8 (by decide) (fun hc => ?_) (fun hc => ?_)
    · replace hf := it_t (hc) hf
      obtain rfl := o1 hf
      exact hk H locs ls hP hD hS (lv_sub hl [0] rfl)
    · replace hf := it_f (hc) hf
      refine lv_aload_n hx hb dX8_advance_11 rfl (lv_at hl 0 rfl) ?_
      refine va_get (D := (dC, dI)) (ci := 8) (v := .ref h_t_tape) (C := RX8) (T := TX8) (N := 10) hx hb hts in_X8 hown hK hP 0 rfl rfl 0 (Nat.le_of_ble_eq_true rfl) (hts _ qf_X8_9) (fun _ h9 => h9) rfl dX8_advance_12 ?_
      refine lv_aload_n hx hb dX8_advance_15 rfl (lv_at hl 0 rfl) ?_
      refine va_get (D := (dC, dI)) (ci := 8) (v := .int t_next) (C := RX8) (T := TX8) (N := 10) hx hb hts in_X8 hown hK hP 0 rfl rfl 7 (Nat.le_of_ble_eq_true rfl) (hts _ qf_X8_39) (fun _ h9 => h9) rfl dX8_advance_16 ?_
      obtain ⟨hg_1, hf⟩ := gd_some hf
      refine va_bald hx hb hK hP 1 2 rfl rfl (inb_in hg_1) dX8_advance_19 ?_
      refine lv_bipush (v := (32 : Int32)) hx hb dX8_advance_20 (by decide) ?_
      obtain ⟨k_2, ek_2, hf⟩ := jn_out hf
      have J_3 : ∀ (H : Heap) (locs : List Loc) (ls : Array Slot), va_P (dC, dI) vwCl [(h_t, .inr (8, [.ref h_t_tape, .ref h_t_draft, .int t_length, .int t_faultKind, .int t_faultPlace, .int t_centreTold, .int t_start, .int t_next, .int t_kind, .int t_value])), (h_t_tape, .inl (cB, 600, .inl t_tape))] H → va_D A [(h_t, .inr (8, [.ref h_t_tape, .ref h_t_draft, .int t_length, .int t_faultKind, .int t_faultPlace, .int t_centreTold, .int t_start, .int t_next, .int t_kind, .int t_value])), (h_t_tape, .inl (cB, 600, .inl t_tape))] → va_S A s.heap H locs → lv_has ls 1 [(0, .ref h_t)] → k_2 = some x_t_next → W p l e R s m args below meth c H locs 0 0 Q (F0 m 39 ls []) := by
        intro H locs ls hP hD hS hl hf
        rw [ek_2] at hf
        refine lv_aload_n hx hb dX8_advance_39 rfl (lv_at hl 0 rfl) ?_
        refine lv_dup hx hb dX8_advance_40 rfl ?_
        refine va_get (D := (dC, dI)) (ci := 8) (v := .int t_next) (C := RX8) (T := TX8) (N := 10) hx hb hts in_X8 hown hK hP 0 rfl rfl 7 (Nat.le_of_ble_eq_true rfl) (hts _ qf_X8_39) (fun _ h9 => h9) rfl dX8_advance_41 ?_
        refine lv_iconst (v := (1 : Int32)) hx hb dX8_advance_44 (by decide) ?_
        refine lv_iadd hx hb dX8_advance_45 ?_
        refine lv_topi (fun f_next_4 ef_next_4 => ?_)
        replace hf := xl_at hf ef_next_4
        refine xput (D := (dC, dI)) (ci := 8) (v := .int f_next_4) (C := RX8) (T := TX8) (N := 10) (w2 := [(h_t, .inr (8, [.ref h_t_tape, .ref h_t_draft, .int t_length, .int t_faultKind, .int t_faultPlace, .int t_centreTold, .int t_start, .int f_next_4, .int t_kind, .int t_value])), (h_t_tape, .inl (cB, 600, .inl t_tape))]) hx hb hts in_X8 tyX8 tyX8_ok nmX8 hown hK hP hD hS 0 rfl rfl 7 (Nat.le_of_ble_eq_true rfl) (hts _ qf_X8_39) (fun _ h9 => h9) rfl rfl rfl (Nat.le_of_ble_eq_true rfl) rfl dX8_advance_46 (fun H locs hP hD hS => ?_)
        refine lv_goto (tgt := 0) hx hb dX8_advance_49 (by decide) ?_
        exact ih f_next_4 _ H locs ls hP hD hS (lv_sub hl [0] rfl) hf hk
      refine lv_icmp_eq (tgt := 39) hx hb dX8_advance_22 (by decide) (fun hc => ?_) (fun hc => ?_)
      · replace hf := it_t (hc) hf
        exact J_3 H locs ls hP hD hS (lv_sub hl [0] rfl) hf
      · replace hf := it_f (hc) hf
        refine lv_aload_n hx hb dX8_advance_25 rfl (lv_at hl 0 rfl) ?_
        refine va_get (D := (dC, dI)) (ci := 8) (v := .ref h_t_tape) (C := RX8) (T := TX8) (N := 10) hx hb hts in_X8 hown hK hP 0 rfl rfl 0 (Nat.le_of_ble_eq_true rfl) (hts _ qf_X8_9) (fun _ h9 => h9) rfl dX8_advance_26 ?_
        refine lv_aload_n hx hb dX8_advance_29 rfl (lv_at hl 0 rfl) ?_
        refine va_get (D := (dC, dI)) (ci := 8) (v := .int t_next) (C := RX8) (T := TX8) (N := 10) hx hb hts in_X8 hown hK hP 0 rfl rfl 7 (Nat.le_of_ble_eq_true rfl) (hts _ qf_X8_39) (fun _ h9 => h9) rfl dX8_advance_30 ?_
        obtain ⟨hg_5, hf⟩ := gd_some hf
        refine va_bald hx hb hK hP 1 2 rfl rfl (inb_in hg_5) dX8_advance_33 ?_
        refine lv_bipush (v := (10 : Int32)) hx hb dX8_advance_34 (by decide) ?_
        refine lv_icmp_ne (tgt := 52) hx hb dX8_advance_36 (by decide) (fun hc => ?_) (fun hc => ?_)
        · replace hf := it_f (hc) hf
          obtain rfl := o1 hf
          exact hk H locs ls hP hD hS (lv_sub hl [0] rfl)
        · replace hf := it_t (hc) hf
          exact J_3 H locs ls hP hD hS (lv_sub hl [0] rfl) hf
set_option maxRecDepth 100000 in
set_option maxHeartbeats 4000000 in
theorem wX8_advance_L162 {p : Program} {l : Launch} {e : Env} {R : Room} {s : State} {m : MethodId} {args : Array Value} {below : List Frame} {meth : Method} {c : Code} {Q : State → Prop} {A : Nat → Prop} {dC : Nat → ClassId} {dI : Nat → Nat → Nat} {cI cL cB : ClassId} {K : Nat} (C0 : Sx p R s m args c cX8_advance 1 RX8 A dC dI cI cL cB 1 20) (h_t h_t_tape h_t_draft : Nat) (t_length : Int32) (t_faultKind : Int32) (t_faultPlace : Int32) (t_centreTold : Int32) (t_start : Int32) (t_kind : Int32) (t_tape : Nat → Int32) : ∀ (n : Nat) (t_next : Int32) (t_value : Int32) (x_t_next : Int32) (x_t_value : Int32) (H : Heap) (locs : List Loc) (ls : Array Slot), va_P (dC, dI) vwCl [(h_t, .inr (8, [.ref h_t_tape, .ref h_t_draft, .int t_length, .int t_faultKind, .int t_faultPlace, .int t_centreTold, .int t_start, .int t_next, .int t_kind, .int t_value])), (h_t_tape, .inl (cB, 600, .inl t_tape))] H → va_D A [(h_t, .inr (8, [.ref h_t_tape, .ref h_t_draft, .int t_length, .int t_faultKind, .int t_faultPlace, .int t_centreTold, .int t_start, .int t_next, .int t_kind, .int t_value])), (h_t_tape, .inl (cB, 600, .inl t_tape))] → va_S A s.heap H locs → lv_has ls 1 [(0, .ref h_t)] → fX8_advance_L162 K t_length t_tape n t_next t_value = some (x_t_next, x_t_value) → (∀ (H : Heap) (locs : List Loc) (ls : Array Slot), va_P (dC, dI) vwCl [(h_t, .inr (8, [.ref h_t_tape, .ref h_t_draft, .int t_length, .int t_faultKind, .int t_faultPlace, .int t_centreTold, .int t_start, .int x_t_next, .int t_kind, .int x_t_value])), (h_t_tape, .inl (cB, 600, .inl t_tape))] H → va_D A [(h_t, .inr (8, [.ref h_t_tape, .ref h_t_draft, .int t_length, .int t_faultKind, .int t_faultPlace, .int t_centreTold, .int t_start, .int x_t_next, .int t_kind, .int x_t_value])), (h_t_tape, .inl (cB, 600, .inl t_tape))] → va_S A s.heap H locs → lv_has ls 1 [(0, .ref h_t)] → W p l e R s m args below meth c H locs 0 0 Q (F0 m 231 ls [])) → W p l e R s m args below meth c H locs 0 0 Q (F0 m 162 ls []) := by
  obtain ⟨hx, hb, hml, hown, hts, hK, hT, hA, hF, hLo⟩ := id C0
  intro n
  induction n with
  | zero =>
    intro t_next t_value x_t_next x_t_value H locs ls hP hD hS hl hf
    rw [fX8_advance_L162] at hf
    cases hf
  | succ n ih =>
    intro t_next t_value x_t_next x_t_value H locs ls hP hD hS hl hf hk
    rw [fX8_advance_L162] at hf
    refine lv_aload_n hx hb dX8_advance_162 rfl (lv_at hl 0 rfl) ?_
    refine va_get (D := (dC, dI)) (ci := 8) (v := .int t_next) (C := RX8) (T := TX8) (N := 10) hx hb hts in_X8 hown hK hP 0 rfl rfl 7 (Nat.le_of_ble_eq_true rfl) (hts _ qf_X8_39) (fun _ h9 => h9) rfl dX8_advance_163 ?_
    refine lv_aload_n hx hb dX8_advance_166 rfl (lv_at hl 0 rfl) ?_
    refine va_get (D := (dC, dI)) (ci := 8) (v := .int t_length) (C := RX8) (T := TX8) (N := 10) hx hb hts in_X8 hown hK hP 0 rfl rfl 2 (Nat.le_of_ble_eq_true rfl) (hts _ qf_X8_26) (fun _ h9 => h9) rfl dX8_advance_167 ?_
    refine lv_icmp_ge (tgt := 231) hx hb dX8_advance_170 (by decide) (fun hc => ?_) (fun hc => ?_)
    · replace hf := it_t (hc) hf
      obtain ⟨rfl, rfl⟩ := o2 hf
      exact hk H locs ls hP hD hS (lv_sub hl [0] rfl)
    · replace hf := it_f (hc) hf
      refine lv_aload_n hx hb dX8_advance_173 rfl (lv_at hl 0 rfl) ?_
      refine va_get (D := (dC, dI)) (ci := 8) (v := .ref h_t_tape) (C := RX8) (T := TX8) (N := 10) hx hb hts in_X8 hown hK hP 0 rfl rfl 0 (Nat.le_of_ble_eq_true rfl) (hts _ qf_X8_9) (fun _ h9 => h9) rfl dX8_advance_174 ?_
      refine lv_aload_n hx hb dX8_advance_177 rfl (lv_at hl 0 rfl) ?_
      refine va_get (D := (dC, dI)) (ci := 8) (v := .int t_next) (C := RX8) (T := TX8) (N := 10) hx hb hts in_X8 hown hK hP 0 rfl rfl 7 (Nat.le_of_ble_eq_true rfl) (hts _ qf_X8_39) (fun _ h9 => h9) rfl dX8_advance_178 ?_
      obtain ⟨hg_18, hf⟩ := gd_some hf
      refine va_bald hx hb hK hP 1 2 rfl rfl (inb_in hg_18) dX8_advance_181 ?_
      obtain ⟨r_19, hq_20, hf⟩ := b1_some hf
      refine xci (wr := [(h_t, .inr (8, [.ref h_t_tape, .ref h_t_draft, .int t_length, .int t_faultKind, .int t_faultPlace, .int t_centreTold, .int t_start, .int t_next, .int t_kind, .int t_value])), (h_t_tape, .inl (cB, 600, .inl t_tape))]) (w2 := [(h_t, .inr (8, [.ref h_t_tape, .ref h_t_draft, .int t_length, .int t_faultKind, .int t_faultPlace, .int t_centreTold, .int t_start, .int t_next, .int t_kind, .int t_value])), (h_t_tape, .inl (cB, 600, .inl t_tape))]) (va_runS (As := [.int (t_tape t_next.toNatClampNeg)]) (rest := []) ⟨hx, hb, hml, hown, hts⟩ (mtX8_isDigit l dC dI cI cL cB K H.size (t_tape t_next.toNatClampNeg) r_19 hq_20) (va_cwS 1 hts gs_X8_115 rfl rfl rfl hdS_X8_isDigit ⟨Nat.le_trans (Nat.le_of_ble_eq_true rfl) hF, Nat.le_trans (Nat.le_of_ble_eq_true rfl) hLo⟩) (cPreS hK hP hD hT [] rfl rfl) rfl rfl hl.1 rfl (lv_room (Nat.le_of_ble_eq_true rfl)) dX8_advance_182 ⟨Nat.zero_le _, Nat.zero_le _⟩) hP hD hS hA [] [0, 1] [0, 1] rfl rfl rfl rfl rfl rfl (fun H locs hP hD hS => ?_)
      refine lv_if_eq (tgt := 231) hx hb dX8_advance_185 (by decide) (fun hc => ?_) (fun hc => ?_)
      · replace hf := it_t (hc) hf
        obtain ⟨rfl, rfl⟩ := o2 hf
        exact hk H locs ls hP hD hS (lv_sub hl [0] rfl)
      · replace hf := it_f (hc) hf
        refine lv_aload_n hx hb dX8_advance_188 rfl (lv_at hl 0 rfl) ?_
        refine lv_aload_n hx hb dX8_advance_189 rfl (lv_at hl 0 rfl) ?_
        refine va_get (D := (dC, dI)) (ci := 8) (v := .int t_value) (C := RX8) (T := TX8) (N := 10) hx hb hts in_X8 hown hK hP 0 rfl rfl 9 (Nat.le_of_ble_eq_true rfl) (hts _ qf_X8_105) (fun _ h9 => h9) rfl dX8_advance_190 ?_
        refine lv_bipush (v := (10 : Int32)) hx hb dX8_advance_193 (by decide) ?_
        refine lv_imul hx hb dX8_advance_195 ?_
        refine lv_aload_n hx hb dX8_advance_196 rfl (lv_at hl 0 rfl) ?_
        refine va_get (D := (dC, dI)) (ci := 8) (v := .ref h_t_tape) (C := RX8) (T := TX8) (N := 10) hx hb hts in_X8 hown hK hP 0 rfl rfl 0 (Nat.le_of_ble_eq_true rfl) (hts _ qf_X8_9) (fun _ h9 => h9) rfl dX8_advance_197 ?_
        refine lv_aload_n hx hb dX8_advance_200 rfl (lv_at hl 0 rfl) ?_
        refine va_get (D := (dC, dI)) (ci := 8) (v := .int t_next) (C := RX8) (T := TX8) (N := 10) hx hb hts in_X8 hown hK hP 0 rfl rfl 7 (Nat.le_of_ble_eq_true rfl) (hts _ qf_X8_39) (fun _ h9 => h9) rfl dX8_advance_201 ?_
        obtain ⟨hg_21, hf⟩ := gd_some hf
        refine va_bald hx hb hK hP 1 2 rfl rfl (inb_in hg_21) dX8_advance_204 ?_
        refine lv_iadd hx hb dX8_advance_205 ?_
        refine lv_bipush (v := (48 : Int32)) hx hb dX8_advance_206 (by decide) ?_
        refine lv_isub hx hb dX8_advance_208 ?_
        refine lv_sipush (v := (1000 : Int32)) hx hb dX8_advance_209 (by decide) ?_
        refine va_mmin hx hb (hml.trans hl.1.symm) hown (hts _ qm_X8_118) (hts _ qt_Lib_Math_min) (hts _ qz_Math) (hts _ qc_Lib_Math_min) (Nat.le_trans (Nat.le_of_ble_eq_true rfl) hF) (Nat.le_trans (Nat.le_of_ble_eq_true rfl) hLo) (Nat.zero_le _) (Nat.zero_le _) dX8_advance_212 ?_
        refine lv_topi (fun v_22 ev_22 => ?_)
        replace hf := xl_at hf ev_22
        refine xput (D := (dC, dI)) (ci := 8) (v := .int v_22) (C := RX8) (T := TX8) (N := 10) (w2 := [(h_t, .inr (8, [.ref h_t_tape, .ref h_t_draft, .int t_length, .int t_faultKind, .int t_faultPlace, .int t_centreTold, .int t_start, .int t_next, .int t_kind, .int v_22])), (h_t_tape, .inl (cB, 600, .inl t_tape))]) hx hb hts in_X8 tyX8 tyX8_ok nmX8 hown hK hP hD hS 0 rfl rfl 9 (Nat.le_of_ble_eq_true rfl) (hts _ qf_X8_105) (fun _ h9 => h9) rfl rfl rfl (Nat.le_of_ble_eq_true rfl) rfl dX8_advance_215 (fun H locs hP hD hS => ?_)
        refine lv_aload_n hx hb dX8_advance_218 rfl (lv_at hl 0 rfl) ?_
        refine lv_dup hx hb dX8_advance_219 rfl ?_
        refine va_get (D := (dC, dI)) (ci := 8) (v := .int t_next) (C := RX8) (T := TX8) (N := 10) hx hb hts in_X8 hown hK hP 0 rfl rfl 7 (Nat.le_of_ble_eq_true rfl) (hts _ qf_X8_39) (fun _ h9 => h9) rfl dX8_advance_220 ?_
        refine lv_iconst (v := (1 : Int32)) hx hb dX8_advance_223 (by decide) ?_
        refine lv_iadd hx hb dX8_advance_224 ?_
        refine lv_topi (fun f_next_23 ef_next_23 => ?_)
        replace hf := xl_at hf ef_next_23
        refine xput (D := (dC, dI)) (ci := 8) (v := .int f_next_23) (C := RX8) (T := TX8) (N := 10) (w2 := [(h_t, .inr (8, [.ref h_t_tape, .ref h_t_draft, .int t_length, .int t_faultKind, .int t_faultPlace, .int t_centreTold, .int t_start, .int f_next_23, .int t_kind, .int v_22])), (h_t_tape, .inl (cB, 600, .inl t_tape))]) hx hb hts in_X8 tyX8 tyX8_ok nmX8 hown hK hP hD hS 0 rfl rfl 7 (Nat.le_of_ble_eq_true rfl) (hts _ qf_X8_39) (fun _ h9 => h9) rfl rfl rfl (Nat.le_of_ble_eq_true rfl) rfl dX8_advance_225 (fun H locs hP hD hS => ?_)
        refine lv_goto (tgt := 162) hx hb dX8_advance_228 (by decide) ?_
        exact ih f_next_23 v_22 _ _ H locs ls hP hD hS (lv_sub hl [0] rfl) hf hk
set_option maxRecDepth 100000 in
set_option maxHeartbeats 4000000 in
theorem wX8_advance_L95 {p : Program} {l : Launch} {e : Env} {R : Room} {s : State} {m : MethodId} {args : Array Value} {below : List Frame} {meth : Method} {c : Code} {Q : State → Prop} {A : Nat → Prop} {dC : Nat → ClassId} {dI : Nat → Nat → Nat} {cI cL cB : ClassId} {K : Nat} (C0 : Sx p R s m args c cX8_advance 1 RX8 A dC dI cI cL cB 1 20) (h_t h_t_tape h_t_draft : Nat) (t_length : Int32) (t_faultKind : Int32) (t_faultPlace : Int32) (t_centreTold : Int32) (t_start : Int32) (t_kind : Int32) (t_value : Int32) (t_tape : Nat → Int32) : ∀ (n : Nat) (t_next : Int32) (x_t_next : Int32) (H : Heap) (locs : List Loc) (ls : Array Slot), va_P (dC, dI) vwCl [(h_t, .inr (8, [.ref h_t_tape, .ref h_t_draft, .int t_length, .int t_faultKind, .int t_faultPlace, .int t_centreTold, .int t_start, .int t_next, .int t_kind, .int t_value])), (h_t_tape, .inl (cB, 600, .inl t_tape))] H → va_D A [(h_t, .inr (8, [.ref h_t_tape, .ref h_t_draft, .int t_length, .int t_faultKind, .int t_faultPlace, .int t_centreTold, .int t_start, .int t_next, .int t_kind, .int t_value])), (h_t_tape, .inl (cB, 600, .inl t_tape))] → va_S A s.heap H locs → lv_has ls 1 [(0, .ref h_t)] → fX8_advance_L95 K t_length t_tape n t_next = some x_t_next → (∀ (H : Heap) (locs : List Loc) (ls : Array Slot), va_P (dC, dI) vwCl [(h_t, .inr (8, [.ref h_t_tape, .ref h_t_draft, .int t_length, .int t_faultKind, .int t_faultPlace, .int t_centreTold, .int t_start, .int x_t_next, .int t_kind, .int t_value])), (h_t_tape, .inl (cB, 600, .inl t_tape))] H → va_D A [(h_t, .inr (8, [.ref h_t_tape, .ref h_t_draft, .int t_length, .int t_faultKind, .int t_faultPlace, .int t_centreTold, .int t_start, .int x_t_next, .int t_kind, .int t_value])), (h_t_tape, .inl (cB, 600, .inl t_tape))] → va_S A s.heap H locs → lv_has ls 1 [(0, .ref h_t)] → W p l e R s m args below meth c H locs 0 0 Q (F0 m 134 ls [])) → W p l e R s m args below meth c H locs 0 0 Q (F0 m 95 ls []) := by
  obtain ⟨hx, hb, hml, hown, hts, hK, hT, hA, hF, hLo⟩ := id C0
  intro n
  induction n with
  | zero =>
    intro t_next x_t_next H locs ls hP hD hS hl hf
    rw [fX8_advance_L95] at hf
    cases hf
  | succ n ih =>
    intro t_next x_t_next H locs ls hP hD hS hl hf hk
    rw [fX8_advance_L95] at hf
    refine lv_aload_n hx hb dX8_advance_95 rfl (lv_at hl 0 rfl) ?_
    refine va_get (D := (dC, dI)) (ci := 8) (v := .int t_next) (C := RX8) (T := TX8) (N := 10) hx hb hts in_X8 hown hK hP 0 rfl rfl 7 (Nat.le_of_ble_eq_true rfl) (hts _ qf_X8_39) (fun _ h9 => h9) rfl dX8_advance_96 ?_
    refine lv_aload_n hx hb dX8_advance_99 rfl (lv_at hl 0 rfl) ?_
    refine va_get (D := (dC, dI)) (ci := 8) (v := .int t_length) (C := RX8) (T := TX8) (N := 10) hx hb hts in_X8 hown hK hP 0 rfl rfl 2 (Nat.le_of_ble_eq_true rfl) (hts _ qf_X8_26) (fun _ h9 => h9) rfl dX8_advance_100 ?_
    refine lv_icmp_ge (tgt := 134) hx hb dX8_advance_103 (by decide) (fun hc => ?_) (fun hc => ?_)
    · replace hf := it_t (hc) hf
      obtain rfl := o1 hf
      exact hk H locs ls hP hD hS (lv_sub hl [0] rfl)
    · replace hf := it_f (hc) hf
      refine lv_aload_n hx hb dX8_advance_106 rfl (lv_at hl 0 rfl) ?_
      refine va_get (D := (dC, dI)) (ci := 8) (v := .ref h_t_tape) (C := RX8) (T := TX8) (N := 10) hx hb hts in_X8 hown hK hP 0 rfl rfl 0 (Nat.le_of_ble_eq_true rfl) (hts _ qf_X8_9) (fun _ h9 => h9) rfl dX8_advance_107 ?_
      refine lv_aload_n hx hb dX8_advance_110 rfl (lv_at hl 0 rfl) ?_
      refine va_get (D := (dC, dI)) (ci := 8) (v := .int t_next) (C := RX8) (T := TX8) (N := 10) hx hb hts in_X8 hown hK hP 0 rfl rfl 7 (Nat.le_of_ble_eq_true rfl) (hts _ qf_X8_39) (fun _ h9 => h9) rfl dX8_advance_111 ?_
      obtain ⟨hg_27, hf⟩ := gd_some hf
      refine va_bald hx hb hK hP 1 2 rfl rfl (inb_in hg_27) dX8_advance_114 ?_
      obtain ⟨r_28, hq_29, hf⟩ := b1_some hf
      refine xci (wr := [(h_t, .inr (8, [.ref h_t_tape, .ref h_t_draft, .int t_length, .int t_faultKind, .int t_faultPlace, .int t_centreTold, .int t_start, .int t_next, .int t_kind, .int t_value])), (h_t_tape, .inl (cB, 600, .inl t_tape))]) (w2 := [(h_t, .inr (8, [.ref h_t_tape, .ref h_t_draft, .int t_length, .int t_faultKind, .int t_faultPlace, .int t_centreTold, .int t_start, .int t_next, .int t_kind, .int t_value])), (h_t_tape, .inl (cB, 600, .inl t_tape))]) (va_runS (As := [.int (t_tape t_next.toNatClampNeg)]) (rest := []) ⟨hx, hb, hml, hown, hts⟩ (mtX8_isLetter l dC dI cI cL cB K H.size (t_tape t_next.toNatClampNeg) r_28 hq_29) (va_cwS 1 hts gs_X8_111 rfl rfl rfl hdS_X8_isLetter ⟨Nat.le_trans (Nat.le_of_ble_eq_true rfl) hF, Nat.le_trans (Nat.le_of_ble_eq_true rfl) hLo⟩) (cPreS hK hP hD hT [] rfl rfl) rfl rfl hl.1 rfl (lv_room (Nat.le_of_ble_eq_true rfl)) dX8_advance_115 ⟨Nat.zero_le _, Nat.zero_le _⟩) hP hD hS hA [] [0, 1] [0, 1] rfl rfl rfl rfl rfl rfl (fun H locs hP hD hS => ?_)
      refine lv_if_eq (tgt := 134) hx hb dX8_advance_118 (by decide) (fun hc => ?_) (fun hc => ?_)
      · replace hf := it_t (hc) hf
        obtain rfl := o1 hf
        exact hk H locs ls hP hD hS (lv_sub hl [0] rfl)
      · replace hf := it_f (hc) hf
        refine lv_aload_n hx hb dX8_advance_121 rfl (lv_at hl 0 rfl) ?_
        refine lv_dup hx hb dX8_advance_122 rfl ?_
        refine va_get (D := (dC, dI)) (ci := 8) (v := .int t_next) (C := RX8) (T := TX8) (N := 10) hx hb hts in_X8 hown hK hP 0 rfl rfl 7 (Nat.le_of_ble_eq_true rfl) (hts _ qf_X8_39) (fun _ h9 => h9) rfl dX8_advance_123 ?_
        refine lv_iconst (v := (1 : Int32)) hx hb dX8_advance_126 (by decide) ?_
        refine lv_iadd hx hb dX8_advance_127 ?_
        refine lv_topi (fun f_next_30 ef_next_30 => ?_)
        replace hf := xl_at hf ef_next_30
        refine xput (D := (dC, dI)) (ci := 8) (v := .int f_next_30) (C := RX8) (T := TX8) (N := 10) (w2 := [(h_t, .inr (8, [.ref h_t_tape, .ref h_t_draft, .int t_length, .int t_faultKind, .int t_faultPlace, .int t_centreTold, .int t_start, .int f_next_30, .int t_kind, .int t_value])), (h_t_tape, .inl (cB, 600, .inl t_tape))]) hx hb hts in_X8 tyX8 tyX8_ok nmX8 hown hK hP hD hS 0 rfl rfl 7 (Nat.le_of_ble_eq_true rfl) (hts _ qf_X8_39) (fun _ h9 => h9) rfl rfl rfl (Nat.le_of_ble_eq_true rfl) rfl dX8_advance_128 (fun H locs hP hD hS => ?_)
        refine lv_goto (tgt := 95) hx hb dX8_advance_131 (by decide) ?_
        exact ih f_next_30 _ H locs ls hP hD hS (lv_sub hl [0] rfl) hf hk
set_option maxRecDepth 100000 in
set_option maxHeartbeats 4000000 in
theorem mtX8_advance (l : Launch) (dC : Nat → ClassId) (dI : Nat → Nat → Nat) (cI cL cB : ClassId) (K : Nat) (h_t h_t_tape h_t_draft : Nat) (sz : Nat) (t_length : Int32) (t_faultKind : Int32) (t_faultPlace : Int32) (t_centreTold : Int32) (t_start : Int32) (t_next : Int32) (t_kind : Int32) (t_value : Int32) (t_tape : Nat → Int32) (o_t_start : Int32) (o_t_next : Int32) (o_t_kind : Int32) (o_t_value : Int32) (hf : fX8_advance K t_length t_start t_next t_kind t_value t_tape = some (o_t_start, o_t_next, o_t_kind, o_t_value)) : Met l yX8_advance [Cond.code yX8_advance cX8_advance 1 none] ({ frames := 1, cells := 0, slots := 0, locals := 20 }) (va_Pc [.ref h_t] (cPre dC dI cI cL cB sz [(h_t, .inr (8, [.ref h_t_tape, .ref h_t_draft, .int t_length, .int t_faultKind, .int t_faultPlace, .int t_centreTold, .int t_start, .int t_next, .int t_kind, .int t_value])), (h_t_tape, .inl (cB, 600, .inl t_tape))])) (cQv dC dI (va_A [(h_t, .inr (8, [.ref h_t_tape, .ref h_t_draft, .int t_length, .int t_faultKind, .int t_faultPlace, .int t_centreTold, .int t_start, .int t_next, .int t_kind, .int t_value])), (h_t_tape, .inl (cB, 600, .inl t_tape))] sz) [(h_t, .inr (8, [.ref h_t_tape, .ref h_t_draft, .int t_length, .int t_faultKind, .int t_faultPlace, .int t_centreTold, .int o_t_start, .int o_t_next, .int o_t_kind, .int o_t_value])), (h_t_tape, .inl (cB, 600, .inl t_tape))]) 0 0 (va_A [(h_t, .inr (8, [.ref h_t_tape, .ref h_t_draft, .int t_length, .int t_faultKind, .int t_faultPlace, .int t_centreTold, .int t_start, .int t_next, .int t_kind, .int t_value])), (h_t_tape, .inl (cB, 600, .inl t_tape))] sz) := by
  refine Met.ofW (cc := cX8_advance) (maxL := 1) (ret := none) (by decide) rfl ?_
  intro p e s m args below meth c s₁ B hml hv
  obtain ⟨rfl, hsz, hP, hK, hD0, hT⟩ := hv
  have hx := B.exec
  have hb := B.bytes
  have hr := B.returns
  have hown : s.vm.findClass RX8 = some m.cls := findClass_of_methodNamed B.named
  have hlocks := B.notSynchronized
  have hts := TB.use hT ([.ref h_t] : List Value).toArray
  subst hsz
  have hD := hD0.self (sz := s.heap.size)
  generalize hAe : va_A [(h_t, .inr (8, [.ref h_t_tape, .ref h_t_draft, .int t_length, .int t_faultKind, .int t_faultPlace, .int t_centreTold, .int t_start, .int t_next, .int t_kind, .int t_value])), (h_t_tape, .inl (cB, 600, .inl t_tape))] s.heap.size = A at hD ⊢
  have hA : ∀ q : Nat, s.heap.size ≤ q → A q := fun q h => by rw [← hAe]; exact Or.inr h
  clear hAe hD0
  have hl := lv_entry ([.ref h_t]) (n := 1) (Nat.le_of_ble_eq_true rfl)
  rw [lg_entry_eq]
  generalize (lg_sl ([.ref h_t]) ++ List.replicate (1 - (lg_sl ([.ref h_t])).length) Slot.unset).toArray = ls at hl ⊢
  have hl : lv_has ls 1 [(0, .ref h_t)] := hl
  have hF : 1 ≤ (headSpec [Cond.code yX8_advance cX8_advance 1 none] ({ frames := 1, cells := 0, slots := 0, locals := 20 })).room.frames := Nat.le_refl _
  have hLo : 20 ≤ (headSpec [Cond.code yX8_advance cX8_advance 1 none] ({ frames := 1, cells := 0, slots := 0, locals := 20 })).room.locals := Nat.le_refl _
  have C0 : Sx p (headSpec [Cond.code yX8_advance cX8_advance 1 none] ({ frames := 1, cells := 0, slots := 0, locals := 20 })).room s m ([.ref h_t] : List Value).toArray c cX8_advance 1 RX8 A dC dI cI cL cB 1 20 := ⟨hx, hb, hml, hown, hts, hK, hT, hA, hF, hLo⟩
  refine startH (A := A) hP (fun H locs hP hS => ?_)
  rw [fX8_advance] at hf
  obtain ⟨t_next_7, hq_6, hf⟩ := b1_some hf
  refine wX8_advance_L0 C0 h_t h_t_tape h_t_draft t_length t_faultKind t_faultPlace t_centreTold t_start t_kind t_value t_tape K t_next t_next_7 H locs ls hP hD hS (lv_sub hl [0] rfl) hq_6 ?_
  intro H locs ls hP hD hS hl
  refine lv_aload_n hx hb dX8_advance_52 rfl (lv_at hl 0 rfl) ?_
  refine lv_aload_n hx hb dX8_advance_53 rfl (lv_at hl 0 rfl) ?_
  refine va_get (D := (dC, dI)) (ci := 8) (v := .int t_next_7) (C := RX8) (T := TX8) (N := 10) hx hb hts in_X8 hown hK hP 0 rfl rfl 7 (Nat.le_of_ble_eq_true rfl) (hts _ qf_X8_39) (fun _ h9 => h9) rfl dX8_advance_54 ?_
  refine xput (D := (dC, dI)) (ci := 8) (v := .int t_next_7) (C := RX8) (T := TX8) (N := 10) (w2 := [(h_t, .inr (8, [.ref h_t_tape, .ref h_t_draft, .int t_length, .int t_faultKind, .int t_faultPlace, .int t_centreTold, .int t_next_7, .int t_next_7, .int t_kind, .int t_value])), (h_t_tape, .inl (cB, 600, .inl t_tape))]) hx hb hts in_X8 tyX8 tyX8_ok nmX8 hown hK hP hD hS 0 rfl rfl 6 (Nat.le_of_ble_eq_true rfl) (hts _ qf_X8_108) (fun _ h9 => h9) rfl rfl rfl (Nat.le_of_ble_eq_true rfl) rfl dX8_advance_57 (fun H locs hP hD hS => ?_)
  refine lv_aload_n hx hb dX8_advance_60 rfl (lv_at hl 0 rfl) ?_
  refine va_get (D := (dC, dI)) (ci := 8) (v := .int t_next_7) (C := RX8) (T := TX8) (N := 10) hx hb hts in_X8 hown hK hP 0 rfl rfl 6 (Nat.le_of_ble_eq_true rfl) (hts _ qf_X8_108) (fun _ h9 => h9) rfl dX8_advance_61 ?_
  refine lv_aload_n hx hb dX8_advance_64 rfl (lv_at hl 0 rfl) ?_
  refine va_get (D := (dC, dI)) (ci := 8) (v := .int t_length) (C := RX8) (T := TX8) (N := 10) hx hb hts in_X8 hown hK hP 0 rfl rfl 2 (Nat.le_of_ble_eq_true rfl) (hts _ qf_X8_26) (fun _ h9 => h9) rfl dX8_advance_65 ?_
  refine lv_icmp_lt (tgt := 80) hx hb dX8_advance_68 (by decide) (fun hc => ?_) (fun hc => ?_)
  · replace hf := it_t (hc) hf
    refine lv_aload_n hx hb dX8_advance_80 rfl (lv_at hl 0 rfl) ?_
    refine va_get (D := (dC, dI)) (ci := 8) (v := .ref h_t_tape) (C := RX8) (T := TX8) (N := 10) hx hb hts in_X8 hown hK hP 0 rfl rfl 0 (Nat.le_of_ble_eq_true rfl) (hts _ qf_X8_9) (fun _ h9 => h9) rfl dX8_advance_81 ?_
    refine lv_aload_n hx hb dX8_advance_84 rfl (lv_at hl 0 rfl) ?_
    refine va_get (D := (dC, dI)) (ci := 8) (v := .int t_next_7) (C := RX8) (T := TX8) (N := 10) hx hb hts in_X8 hown hK hP 0 rfl rfl 6 (Nat.le_of_ble_eq_true rfl) (hts _ qf_X8_108) (fun _ h9 => h9) rfl dX8_advance_85 ?_
    obtain ⟨hg_8, hf⟩ := gd_some hf
    refine va_bald hx hb hK hP 1 2 rfl rfl (inb_in hg_8) dX8_advance_88 ?_
    obtain ⟨r_9, hq_10, hf⟩ := b1_some hf
    refine xci (wr := [(h_t, .inr (8, [.ref h_t_tape, .ref h_t_draft, .int t_length, .int t_faultKind, .int t_faultPlace, .int t_centreTold, .int t_next_7, .int t_next_7, .int t_kind, .int t_value])), (h_t_tape, .inl (cB, 600, .inl t_tape))]) (w2 := [(h_t, .inr (8, [.ref h_t_tape, .ref h_t_draft, .int t_length, .int t_faultKind, .int t_faultPlace, .int t_centreTold, .int t_next_7, .int t_next_7, .int t_kind, .int t_value])), (h_t_tape, .inl (cB, 600, .inl t_tape))]) (va_runS (As := [.int (t_tape t_next_7.toNatClampNeg)]) (rest := []) ⟨hx, hb, hml, hown, hts⟩ (mtX8_isLetter l dC dI cI cL cB K H.size (t_tape t_next_7.toNatClampNeg) r_9 hq_10) (va_cwS 1 hts gs_X8_111 rfl rfl rfl hdS_X8_isLetter ⟨Nat.le_trans (Nat.le_of_ble_eq_true rfl) hF, Nat.le_trans (Nat.le_of_ble_eq_true rfl) hLo⟩) (cPreS hK hP hD hT [] rfl rfl) rfl rfl hl.1 rfl (lv_room (Nat.le_of_ble_eq_true rfl)) dX8_advance_89 ⟨Nat.zero_le _, Nat.zero_le _⟩) hP hD hS hA [] [0, 1] [0, 1] rfl rfl rfl rfl rfl rfl (fun H locs hP hD hS => ?_)
    refine lv_if_eq (tgt := 142) hx hb dX8_advance_92 (by decide) (fun hc => ?_) (fun hc => ?_)
    · replace hf := it_t (hc) hf
      refine lv_aload_n hx hb dX8_advance_142 rfl (lv_at hl 0 rfl) ?_
      refine va_get (D := (dC, dI)) (ci := 8) (v := .ref h_t_tape) (C := RX8) (T := TX8) (N := 10) hx hb hts in_X8 hown hK hP 0 rfl rfl 0 (Nat.le_of_ble_eq_true rfl) (hts _ qf_X8_9) (fun _ h9 => h9) rfl dX8_advance_143 ?_
      refine lv_aload_n hx hb dX8_advance_146 rfl (lv_at hl 0 rfl) ?_
      refine va_get (D := (dC, dI)) (ci := 8) (v := .int t_next_7) (C := RX8) (T := TX8) (N := 10) hx hb hts in_X8 hown hK hP 0 rfl rfl 6 (Nat.le_of_ble_eq_true rfl) (hts _ qf_X8_108) (fun _ h9 => h9) rfl dX8_advance_147 ?_
      obtain ⟨hg_11, hf⟩ := gd_some hf
      refine va_bald hx hb hK hP 1 2 rfl rfl (inb_in hg_11) dX8_advance_150 ?_
      obtain ⟨r_12, hq_13, hf⟩ := b1_some hf
      refine xci (wr := [(h_t, .inr (8, [.ref h_t_tape, .ref h_t_draft, .int t_length, .int t_faultKind, .int t_faultPlace, .int t_centreTold, .int t_next_7, .int t_next_7, .int t_kind, .int t_value])), (h_t_tape, .inl (cB, 600, .inl t_tape))]) (w2 := [(h_t, .inr (8, [.ref h_t_tape, .ref h_t_draft, .int t_length, .int t_faultKind, .int t_faultPlace, .int t_centreTold, .int t_next_7, .int t_next_7, .int t_kind, .int t_value])), (h_t_tape, .inl (cB, 600, .inl t_tape))]) (va_runS (As := [.int (t_tape t_next_7.toNatClampNeg)]) (rest := []) ⟨hx, hb, hml, hown, hts⟩ (mtX8_isDigit l dC dI cI cL cB K H.size (t_tape t_next_7.toNatClampNeg) r_12 hq_13) (va_cwS 1 hts gs_X8_115 rfl rfl rfl hdS_X8_isDigit ⟨Nat.le_trans (Nat.le_of_ble_eq_true rfl) hF, Nat.le_trans (Nat.le_of_ble_eq_true rfl) hLo⟩) (cPreS hK hP hD hT [] rfl rfl) rfl rfl hl.1 rfl (lv_room (Nat.le_of_ble_eq_true rfl)) dX8_advance_151 ⟨Nat.zero_le _, Nat.zero_le _⟩) hP hD hS hA [] [0, 1] [0, 1] rfl rfl rfl rfl rfl rfl (fun H locs hP hD hS => ?_)
      refine lv_if_eq (tgt := 239) hx hb dX8_advance_154 (by decide) (fun hc => ?_) (fun hc => ?_)
      · replace hf := it_t (hc) hf
        refine lv_aload_n hx hb dX8_advance_239 rfl (lv_at hl 0 rfl) ?_
        refine lv_aload_n hx hb dX8_advance_240 rfl (lv_at hl 0 rfl) ?_
        refine va_get (D := (dC, dI)) (ci := 8) (v := .ref h_t_tape) (C := RX8) (T := TX8) (N := 10) hx hb hts in_X8 hown hK hP 0 rfl rfl 0 (Nat.le_of_ble_eq_true rfl) (hts _ qf_X8_9) (fun _ h9 => h9) rfl dX8_advance_241 ?_
        refine lv_aload_n hx hb dX8_advance_244 rfl (lv_at hl 0 rfl) ?_
        refine va_get (D := (dC, dI)) (ci := 8) (v := .int t_next_7) (C := RX8) (T := TX8) (N := 10) hx hb hts in_X8 hown hK hP 0 rfl rfl 6 (Nat.le_of_ble_eq_true rfl) (hts _ qf_X8_108) (fun _ h9 => h9) rfl dX8_advance_245 ?_
        obtain ⟨hg_14, hf⟩ := gd_some hf
        refine va_bald hx hb hK hP 1 2 rfl rfl (inb_in hg_14) dX8_advance_248 ?_
        obtain ⟨r_15, hq_16, hf⟩ := b1_some hf
        refine xci (wr := [(h_t, .inr (8, [.ref h_t_tape, .ref h_t_draft, .int t_length, .int t_faultKind, .int t_faultPlace, .int t_centreTold, .int t_next_7, .int t_next_7, .int t_kind, .int t_value])), (h_t_tape, .inl (cB, 600, .inl t_tape))]) (w2 := [(h_t, .inr (8, [.ref h_t_tape, .ref h_t_draft, .int t_length, .int t_faultKind, .int t_faultPlace, .int t_centreTold, .int t_next_7, .int t_next_7, .int t_kind, .int t_value])), (h_t_tape, .inl (cB, 600, .inl t_tape))]) (va_runS (As := [.int (t_tape t_next_7.toNatClampNeg)]) (rest := [.ref h_t]) ⟨hx, hb, hml, hown, hts⟩ (mtX8_signKind l dC dI cI cL cB K H.size (t_tape t_next_7.toNatClampNeg) r_15 hq_16) (va_cwS 1 hts gs_X8_124 rfl rfl rfl hdS_X8_signKind ⟨Nat.le_trans (Nat.le_of_ble_eq_true rfl) hF, Nat.le_trans (Nat.le_of_ble_eq_true rfl) hLo⟩) (cPreS hK hP hD hT [] rfl rfl) rfl rfl hl.1 rfl (lv_room (Nat.le_of_ble_eq_true rfl)) dX8_advance_249 ⟨Nat.zero_le _, Nat.zero_le _⟩) hP hD hS hA [] [0, 1] [0, 1] rfl rfl rfl rfl rfl rfl (fun H locs hP hD hS => ?_)
        refine xput (D := (dC, dI)) (ci := 8) (v := .int r_15) (C := RX8) (T := TX8) (N := 10) (w2 := [(h_t, .inr (8, [.ref h_t_tape, .ref h_t_draft, .int t_length, .int t_faultKind, .int t_faultPlace, .int t_centreTold, .int t_next_7, .int t_next_7, .int r_15, .int t_value])), (h_t_tape, .inl (cB, 600, .inl t_tape))]) hx hb hts in_X8 tyX8 tyX8_ok nmX8 hown hK hP hD hS 0 rfl rfl 8 (Nat.le_of_ble_eq_true rfl) (hts _ qf_X8_45) (fun _ h9 => h9) rfl rfl rfl (Nat.le_of_ble_eq_true rfl) rfl dX8_advance_252 (fun H locs hP hD hS => ?_)
        refine lv_aload_n hx hb dX8_advance_255 rfl (lv_at hl 0 rfl) ?_
        refine lv_dup hx hb dX8_advance_256 rfl ?_
        refine va_get (D := (dC, dI)) (ci := 8) (v := .int t_next_7) (C := RX8) (T := TX8) (N := 10) hx hb hts in_X8 hown hK hP 0 rfl rfl 7 (Nat.le_of_ble_eq_true rfl) (hts _ qf_X8_39) (fun _ h9 => h9) rfl dX8_advance_257 ?_
        refine lv_iconst (v := (1 : Int32)) hx hb dX8_advance_260 (by decide) ?_
        refine lv_iadd hx hb dX8_advance_261 ?_
        refine lv_topi (fun f_next_17 ef_next_17 => ?_)
        replace hf := xl_at hf ef_next_17
        refine xput (D := (dC, dI)) (ci := 8) (v := .int f_next_17) (C := RX8) (T := TX8) (N := 10) (w2 := [(h_t, .inr (8, [.ref h_t_tape, .ref h_t_draft, .int t_length, .int t_faultKind, .int t_faultPlace, .int t_centreTold, .int t_next_7, .int f_next_17, .int r_15, .int t_value])), (h_t_tape, .inl (cB, 600, .inl t_tape))]) hx hb hts in_X8 tyX8 tyX8_ok nmX8 hown hK hP hD hS 0 rfl rfl 7 (Nat.le_of_ble_eq_true rfl) (hts _ qf_X8_39) (fun _ h9 => h9) rfl rfl rfl (Nat.le_of_ble_eq_true rfl) rfl dX8_advance_262 (fun H locs hP hD hS => ?_)
        obtain ⟨rfl, rfl, rfl, rfl⟩ := o4 hf
        exact W.vret hx hb hr (fun t ht hW => ⟨⟨(), rfl, trivial, by rw [ht]; exact hP, hD⟩, hS.F ht⟩) hS.2.2 dX8_advance_265
      · replace hf := it_f (hc) hf
        refine lv_aload_n hx hb dX8_advance_157 rfl (lv_at hl 0 rfl) ?_
        refine lv_iconst (v := (0 : Int32)) hx hb dX8_advance_158 (by decide) ?_
        refine xput (D := (dC, dI)) (ci := 8) (v := .int (0 : Int32)) (C := RX8) (T := TX8) (N := 10) (w2 := [(h_t, .inr (8, [.ref h_t_tape, .ref h_t_draft, .int t_length, .int t_faultKind, .int t_faultPlace, .int t_centreTold, .int t_next_7, .int t_next_7, .int t_kind, .int (0 : Int32)])), (h_t_tape, .inl (cB, 600, .inl t_tape))]) hx hb hts in_X8 tyX8 tyX8_ok nmX8 hown hK hP hD hS 0 rfl rfl 9 (Nat.le_of_ble_eq_true rfl) (hts _ qf_X8_105) (fun _ h9 => h9) rfl rfl rfl (Nat.le_of_ble_eq_true rfl) rfl dX8_advance_159 (fun H locs hP hD hS => ?_)
        obtain ⟨t_next_25, t_value_26, hq_24, hf⟩ := b2_some hf
        refine wX8_advance_L162 C0 h_t h_t_tape h_t_draft t_length t_faultKind t_faultPlace t_centreTold t_next_7 t_kind t_tape K t_next_7 (0 : Int32) t_next_25 t_value_26 H locs ls hP hD hS (lv_sub hl [0] rfl) hq_24 ?_
        intro H locs ls hP hD hS hl
        refine lv_aload_n hx hb dX8_advance_231 rfl (lv_at hl 0 rfl) ?_
        refine lv_iconst (v := (2 : Int32)) hx hb dX8_advance_232 (by decide) ?_
        refine xput (D := (dC, dI)) (ci := 8) (v := .int (2 : Int32)) (C := RX8) (T := TX8) (N := 10) (w2 := [(h_t, .inr (8, [.ref h_t_tape, .ref h_t_draft, .int t_length, .int t_faultKind, .int t_faultPlace, .int t_centreTold, .int t_next_7, .int t_next_25, .int (2 : Int32), .int t_value_26])), (h_t_tape, .inl (cB, 600, .inl t_tape))]) hx hb hts in_X8 tyX8 tyX8_ok nmX8 hown hK hP hD hS 0 rfl rfl 8 (Nat.le_of_ble_eq_true rfl) (hts _ qf_X8_45) (fun _ h9 => h9) rfl rfl rfl (Nat.le_of_ble_eq_true rfl) rfl dX8_advance_233 (fun H locs hP hD hS => ?_)
        refine lv_goto (tgt := 265) hx hb dX8_advance_236 (by decide) ?_
        obtain ⟨rfl, rfl, rfl, rfl⟩ := o4 hf
        exact W.vret hx hb hr (fun t ht hW => ⟨⟨(), rfl, trivial, by rw [ht]; exact hP, hD⟩, hS.F ht⟩) hS.2.2 dX8_advance_265
    · replace hf := it_f (hc) hf
      obtain ⟨t_next_32, hq_31, hf⟩ := b1_some hf
      refine wX8_advance_L95 C0 h_t h_t_tape h_t_draft t_length t_faultKind t_faultPlace t_centreTold t_next_7 t_kind t_value t_tape K t_next_7 t_next_32 H locs ls hP hD hS (lv_sub hl [0] rfl) hq_31 ?_
      intro H locs ls hP hD hS hl
      refine lv_aload_n hx hb dX8_advance_134 rfl (lv_at hl 0 rfl) ?_
      refine lv_iconst (v := (1 : Int32)) hx hb dX8_advance_135 (by decide) ?_
      refine xput (D := (dC, dI)) (ci := 8) (v := .int (1 : Int32)) (C := RX8) (T := TX8) (N := 10) (w2 := [(h_t, .inr (8, [.ref h_t_tape, .ref h_t_draft, .int t_length, .int t_faultKind, .int t_faultPlace, .int t_centreTold, .int t_next_7, .int t_next_32, .int (1 : Int32), .int t_value])), (h_t_tape, .inl (cB, 600, .inl t_tape))]) hx hb hts in_X8 tyX8 tyX8_ok nmX8 hown hK hP hD hS 0 rfl rfl 8 (Nat.le_of_ble_eq_true rfl) (hts _ qf_X8_45) (fun _ h9 => h9) rfl rfl rfl (Nat.le_of_ble_eq_true rfl) rfl dX8_advance_136 (fun H locs hP hD hS => ?_)
      refine lv_goto (tgt := 265) hx hb dX8_advance_139 (by decide) ?_
      obtain ⟨rfl, rfl, rfl, rfl⟩ := o4 hf
      exact W.vret hx hb hr (fun t ht hW => ⟨⟨(), rfl, trivial, by rw [ht]; exact hP, hD⟩, hS.F ht⟩) hS.2.2 dX8_advance_265
  · replace hf := it_f (hc) hf
    refine lv_aload_n hx hb dX8_advance_71 rfl (lv_at hl 0 rfl) ?_
    refine lv_bipush (v := (7 : Int32)) hx hb dX8_advance_72 (by decide) ?_
    refine xput (D := (dC, dI)) (ci := 8) (v := .int (7 : Int32)) (C := RX8) (T := TX8) (N := 10) (w2 := [(h_t, .inr (8, [.ref h_t_tape, .ref h_t_draft, .int t_length, .int t_faultKind, .int t_faultPlace, .int t_centreTold, .int t_next_7, .int t_next_7, .int (7 : Int32), .int t_value])), (h_t_tape, .inl (cB, 600, .inl t_tape))]) hx hb hts in_X8 tyX8 tyX8_ok nmX8 hown hK hP hD hS 0 rfl rfl 8 (Nat.le_of_ble_eq_true rfl) (hts _ qf_X8_45) (fun _ h9 => h9) rfl rfl rfl (Nat.le_of_ble_eq_true rfl) rfl dX8_advance_74 (fun H locs hP hD hS => ?_)
    refine lv_goto (tgt := 265) hx hb dX8_advance_77 (by decide) ?_
    obtain ⟨rfl, rfl, rfl, rfl⟩ := o4 hf
    exact W.vret hx hb hr (fun t ht hW => ⟨⟨(), rfl, trivial, by rw [ht]; exact hP, hD⟩, hS.F ht⟩) hS.2.2 dX8_advance_265
theorem dX8_refuse_0 : decode cX8_refuse 0 = .ok (.aload_n 0, 1) := by decide +kernel
theorem dX8_refuse_1 : decode cX8_refuse 1 = .ok (.getfield 36, 3) := by decide +kernel
theorem dX8_refuse_4 : decode cX8_refuse 4 = .ok (.ifCond .ne 16, 3) := by decide +kernel
theorem dX8_refuse_7 : decode cX8_refuse 7 = .ok (.aload_n 0, 1) := by decide +kernel
theorem dX8_refuse_8 : decode cX8_refuse 8 = .ok (.iload_n 1, 1) := by decide +kernel
theorem dX8_refuse_9 : decode cX8_refuse 9 = .ok (.putfield 36, 3) := by decide +kernel
theorem dX8_refuse_12 : decode cX8_refuse 12 = .ok (.aload_n 0, 1) := by decide +kernel
theorem dX8_refuse_13 : decode cX8_refuse 13 = .ok (.aload_n 0, 1) := by decide +kernel
theorem dX8_refuse_14 : decode cX8_refuse 14 = .ok (.getfield 108, 3) := by decide +kernel
theorem dX8_refuse_17 : decode cX8_refuse 17 = .ok (.putfield 22, 3) := by decide +kernel
theorem dX8_refuse_20 : decode cX8_refuse 20 = .ok (.return_, 1) := by decide +kernel
set_option maxRecDepth 100000 in
set_option maxHeartbeats 4000000 in
theorem mtX8_refuse (l : Launch) (dC : Nat → ClassId) (dI : Nat → Nat → Nat) (cI cL cB : ClassId) (K : Nat) (h_t h_t_tape h_t_draft : Nat) (sz : Nat) (t_length : Int32) (t_faultKind : Int32) (t_faultPlace : Int32) (t_centreTold : Int32) (t_start : Int32) (t_next : Int32) (t_kind : Int32) (t_value : Int32) (a1 : Int32) (o_t_faultKind : Int32) (o_t_faultPlace : Int32) (hf : fX8_refuse K t_faultKind t_faultPlace t_start a1 = some (o_t_faultKind, o_t_faultPlace)) : Met l yX8_refuse [Cond.code yX8_refuse cX8_refuse 2 none] ({ frames := 0, cells := 0, slots := 0, locals := 0 }) (va_Pc [.ref h_t, .int a1] (cPre dC dI cI cL cB sz [(h_t, .inr (8, [.ref h_t_tape, .ref h_t_draft, .int t_length, .int t_faultKind, .int t_faultPlace, .int t_centreTold, .int t_start, .int t_next, .int t_kind, .int t_value]))])) (cQv dC dI (va_A [(h_t, .inr (8, [.ref h_t_tape, .ref h_t_draft, .int t_length, .int t_faultKind, .int t_faultPlace, .int t_centreTold, .int t_start, .int t_next, .int t_kind, .int t_value]))] sz) [(h_t, .inr (8, [.ref h_t_tape, .ref h_t_draft, .int t_length, .int o_t_faultKind, .int o_t_faultPlace, .int t_centreTold, .int t_start, .int t_next, .int t_kind, .int t_value]))]) 0 0 (va_A [(h_t, .inr (8, [.ref h_t_tape, .ref h_t_draft, .int t_length, .int t_faultKind, .int t_faultPlace, .int t_centreTold, .int t_start, .int t_next, .int t_kind, .int t_value]))] sz) := by
  refine Met.ofW (cc := cX8_refuse) (maxL := 2) (ret := none) (by decide) rfl ?_
  intro p e s m args below meth c s₁ B hml hv
  obtain ⟨rfl, hsz, hP, hK, hD0, hT⟩ := hv
  have hx := B.exec
  have hb := B.bytes
  have hr := B.returns
  have hown : s.vm.findClass RX8 = some m.cls := findClass_of_methodNamed B.named
  have hlocks := B.notSynchronized
  have hts := TB.use hT ([.ref h_t, .int a1] : List Value).toArray
  subst hsz
  have hD := hD0.self (sz := s.heap.size)
  generalize hAe : va_A [(h_t, .inr (8, [.ref h_t_tape, .ref h_t_draft, .int t_length, .int t_faultKind, .int t_faultPlace, .int t_centreTold, .int t_start, .int t_next, .int t_kind, .int t_value]))] s.heap.size = A at hD ⊢
  have hA : ∀ q : Nat, s.heap.size ≤ q → A q := fun q h => by rw [← hAe]; exact Or.inr h
  clear hAe hD0
  have hl := lv_entry ([.ref h_t, .int a1]) (n := 2) (Nat.le_of_ble_eq_true rfl)
  rw [lg_entry_eq]
  generalize (lg_sl ([.ref h_t, .int a1]) ++ List.replicate (2 - (lg_sl ([.ref h_t, .int a1])).length) Slot.unset).toArray = ls at hl ⊢
  have hl : lv_has ls 2 [(0, .ref h_t), (1, .int a1)] := hl
  have hF : 0 ≤ (headSpec [Cond.code yX8_refuse cX8_refuse 2 none] ({ frames := 0, cells := 0, slots := 0, locals := 0 })).room.frames := Nat.le_refl _
  have hLo : 0 ≤ (headSpec [Cond.code yX8_refuse cX8_refuse 2 none] ({ frames := 0, cells := 0, slots := 0, locals := 0 })).room.locals := Nat.le_refl _
  have C0 : Sx p (headSpec [Cond.code yX8_refuse cX8_refuse 2 none] ({ frames := 0, cells := 0, slots := 0, locals := 0 })).room s m ([.ref h_t, .int a1] : List Value).toArray c cX8_refuse 2 RX8 A dC dI cI cL cB 0 0 := ⟨hx, hb, hml, hown, hts, hK, hT, hA, hF, hLo⟩
  refine startH (A := A) hP (fun H locs hP hS => ?_)
  rw [fX8_refuse] at hf
  refine lv_aload_n hx hb dX8_refuse_0 rfl (lv_at hl 0 rfl) ?_
  refine va_get (D := (dC, dI)) (ci := 8) (v := .int t_faultKind) (C := RX8) (T := TX8) (N := 10) hx hb hts in_X8 hown hK hP 0 rfl rfl 3 (Nat.le_of_ble_eq_true rfl) (hts _ qf_X8_36) (fun _ h9 => h9) rfl dX8_refuse_1 ?_
  refine lv_if_ne (tgt := 20) hx hb dX8_refuse_4 (by decide) (fun hc => ?_) (fun hc => ?_)
  · replace hf := it_f (hc) hf
    obtain ⟨rfl, rfl⟩ := o2 hf
    exact W.vret hx hb hr (fun t ht hW => ⟨⟨(), rfl, trivial, by rw [ht]; exact hP, hD⟩, hS.F ht⟩) hS.2.2 dX8_refuse_20
  · replace hf := it_t (hc) hf
    refine lv_aload_n hx hb dX8_refuse_7 rfl (lv_at hl 0 rfl) ?_
    refine lv_iload_n hx hb dX8_refuse_8 rfl (lv_at hl 1 rfl) ?_
    refine xput (D := (dC, dI)) (ci := 8) (v := .int a1) (C := RX8) (T := TX8) (N := 10) (w2 := [(h_t, .inr (8, [.ref h_t_tape, .ref h_t_draft, .int t_length, .int a1, .int t_faultPlace, .int t_centreTold, .int t_start, .int t_next, .int t_kind, .int t_value]))]) hx hb hts in_X8 tyX8 tyX8_ok nmX8 hown hK hP hD hS 0 rfl rfl 3 (Nat.le_of_ble_eq_true rfl) (hts _ qf_X8_36) (fun _ h9 => h9) rfl rfl rfl (Nat.le_of_ble_eq_true rfl) rfl dX8_refuse_9 (fun H locs hP hD hS => ?_)
    refine lv_aload_n hx hb dX8_refuse_12 rfl (lv_at hl 0 rfl) ?_
    refine lv_aload_n hx hb dX8_refuse_13 rfl (lv_at hl 0 rfl) ?_
    refine va_get (D := (dC, dI)) (ci := 8) (v := .int t_start) (C := RX8) (T := TX8) (N := 10) hx hb hts in_X8 hown hK hP 0 rfl rfl 6 (Nat.le_of_ble_eq_true rfl) (hts _ qf_X8_108) (fun _ h9 => h9) rfl dX8_refuse_14 ?_
    refine xput (D := (dC, dI)) (ci := 8) (v := .int t_start) (C := RX8) (T := TX8) (N := 10) (w2 := [(h_t, .inr (8, [.ref h_t_tape, .ref h_t_draft, .int t_length, .int a1, .int t_start, .int t_centreTold, .int t_start, .int t_next, .int t_kind, .int t_value]))]) hx hb hts in_X8 tyX8 tyX8_ok nmX8 hown hK hP hD hS 0 rfl rfl 4 (Nat.le_of_ble_eq_true rfl) (hts _ qf_X8_22) (fun _ h9 => h9) rfl rfl rfl (Nat.le_of_ble_eq_true rfl) rfl dX8_refuse_17 (fun H locs hP hD hS => ?_)
    obtain ⟨rfl, rfl⟩ := o2 hf
    exact W.vret hx hb hr (fun t ht hW => ⟨⟨(), rfl, trivial, by rw [ht]; exact hP, hD⟩, hS.F ht⟩) hS.2.2 dX8_refuse_20
theorem dX8_refuseBeyondLast_0 : decode cX8_refuseBeyondLast 0 = .ok (.aload_n 0, 1) := by decide +kernel
theorem dX8_refuseBeyondLast_1 : decode cX8_refuseBeyondLast 1 = .ok (.getfield 45, 3) := by decide +kernel
theorem dX8_refuseBeyondLast_4 : decode cX8_refuseBeyondLast 4 = .ok (.iconst 5, 1) := by decide +kernel
theorem dX8_refuseBeyondLast_5 : decode cX8_refuseBeyondLast 5 = .ok (.if_icmp .eq 20, 3) := by decide +kernel
theorem dX8_refuseBeyondLast_8 : decode cX8_refuseBeyondLast 8 = .ok (.aload_n 0, 1) := by decide +kernel
theorem dX8_refuseBeyondLast_9 : decode cX8_refuseBeyondLast 9 = .ok (.getfield 45, 3) := by decide +kernel
theorem dX8_refuseBeyondLast_12 : decode cX8_refuseBeyondLast 12 = .ok (.iconst 2, 1) := by decide +kernel
theorem dX8_refuseBeyondLast_13 : decode cX8_refuseBeyondLast 13 = .ok (.if_icmp .ne 16, 3) := by decide +kernel
theorem dX8_refuseBeyondLast_16 : decode cX8_refuseBeyondLast 16 = .ok (.aload_n 0, 1) := by decide +kernel
theorem dX8_refuseBeyondLast_17 : decode cX8_refuseBeyondLast 17 = .ok (.getfield 105, 3) := by decide +kernel
theorem dX8_refuseBeyondLast_20 : decode cX8_refuseBeyondLast 20 = .ok (.bipush 20, 2) := by decide +kernel
theorem dX8_refuseBeyondLast_22 : decode cX8_refuseBeyondLast 22 = .ok (.if_icmp .gt 7, 3) := by decide +kernel
theorem dX8_refuseBeyondLast_25 : decode cX8_refuseBeyondLast 25 = .ok (.iconst 1, 1) := by decide +kernel
theorem dX8_refuseBeyondLast_26 : decode cX8_refuseBeyondLast 26 = .ok (.goto 4, 3) := by decide +kernel
theorem dX8_refuseBeyondLast_29 : decode cX8_refuseBeyondLast 29 = .ok (.iconst 0, 1) := by decide +kernel
theorem dX8_refuseBeyondLast_30 : decode cX8_refuseBeyondLast 30 = .ok (.istore_n 1, 1) := by decide +kernel
theorem dX8_refuseBeyondLast_31 : decode cX8_refuseBeyondLast 31 = .ok (.aload_n 0, 1) := by decide +kernel
theorem dX8_refuseBeyondLast_32 : decode cX8_refuseBeyondLast 32 = .ok (.getfield 18, 3) := by decide +kernel
theorem dX8_refuseBeyondLast_35 : decode cX8_refuseBeyondLast 35 = .ok (.getfield 86, 3) := by decide +kernel
theorem dX8_refuseBeyondLast_38 : decode cX8_refuseBeyondLast 38 = .ok (.bipush 24, 2) := by decide +kernel
theorem dX8_refuseBeyondLast_40 : decode cX8_refuseBeyondLast 40 = .ok (.if_icmp .lt 12, 3) := by decide +kernel
theorem dX8_refuseBeyondLast_43 : decode cX8_refuseBeyondLast 43 = .ok (.iload_n 1, 1) := by decide +kernel
theorem dX8_refuseBeyondLast_44 : decode cX8_refuseBeyondLast 44 = .ok (.ifCond .eq 8, 3) := by decide +kernel
theorem dX8_refuseBeyondLast_47 : decode cX8_refuseBeyondLast 47 = .ok (.aload_n 0, 1) := by decide +kernel
theorem dX8_refuseBeyondLast_48 : decode cX8_refuseBeyondLast 48 = .ok (.iconst 3, 1) := by decide +kernel
theorem dX8_refuseBeyondLast_49 : decode cX8_refuseBeyondLast 49 = .ok (.invokevirtual 74, 3) := by decide +kernel
theorem dX8_refuseBeyondLast_52 : decode cX8_refuseBeyondLast 52 = .ok (.return_, 1) := by decide +kernel
set_option maxRecDepth 100000 in
set_option maxHeartbeats 4000000 in
theorem mtX8_refuseBeyondLast (l : Launch) (dC : Nat → ClassId) (dI : Nat → Nat → Nat) (cI cL cB : ClassId) (K : Nat) (h_t h_t_tape h_t_draft h_t_draft_x h_t_draft_y h_t_draft_colour h_t_draft_load : Nat) (sz : Nat) (t_length : Int32) (t_faultKind : Int32) (t_faultPlace : Int32) (t_centreTold : Int32) (t_start : Int32) (t_next : Int32) (t_kind : Int32) (t_value : Int32) (t_draft_size : Int32) (t_draft_centreX : Int32) (t_draft_centreY : Int32) (o_t_faultKind : Int32) (o_t_faultPlace : Int32) (hf : fX8_refuseBeyondLast K t_faultKind t_faultPlace t_start t_kind t_value t_draft_size = some (o_t_faultKind, o_t_faultPlace)) : Met l yX8_refuseBeyondLast [Cond.code yX8_refuseBeyondLast cX8_refuseBeyondLast 2 none] ({ frames := 1, cells := 0, slots := 0, locals := 21 }) (va_Pc [.ref h_t] (cPre dC dI cI cL cB sz [(h_t, .inr (8, [.ref h_t_tape, .ref h_t_draft, .int t_length, .int t_faultKind, .int t_faultPlace, .int t_centreTold, .int t_start, .int t_next, .int t_kind, .int t_value])), (h_t_draft, .inr (0, [.ref h_t_draft_x, .ref h_t_draft_y, .ref h_t_draft_colour, .ref h_t_draft_load, .int t_draft_size, .int t_draft_centreX, .int t_draft_centreY]))])) (cQv dC dI (va_A [(h_t, .inr (8, [.ref h_t_tape, .ref h_t_draft, .int t_length, .int t_faultKind, .int t_faultPlace, .int t_centreTold, .int t_start, .int t_next, .int t_kind, .int t_value])), (h_t_draft, .inr (0, [.ref h_t_draft_x, .ref h_t_draft_y, .ref h_t_draft_colour, .ref h_t_draft_load, .int t_draft_size, .int t_draft_centreX, .int t_draft_centreY]))] sz) [(h_t, .inr (8, [.ref h_t_tape, .ref h_t_draft, .int t_length, .int o_t_faultKind, .int o_t_faultPlace, .int t_centreTold, .int t_start, .int t_next, .int t_kind, .int t_value])), (h_t_draft, .inr (0, [.ref h_t_draft_x, .ref h_t_draft_y, .ref h_t_draft_colour, .ref h_t_draft_load, .int t_draft_size, .int t_draft_centreX, .int t_draft_centreY]))]) 0 0 (va_A [(h_t, .inr (8, [.ref h_t_tape, .ref h_t_draft, .int t_length, .int t_faultKind, .int t_faultPlace, .int t_centreTold, .int t_start, .int t_next, .int t_kind, .int t_value])), (h_t_draft, .inr (0, [.ref h_t_draft_x, .ref h_t_draft_y, .ref h_t_draft_colour, .ref h_t_draft_load, .int t_draft_size, .int t_draft_centreX, .int t_draft_centreY]))] sz) := by
  refine Met.ofW (cc := cX8_refuseBeyondLast) (maxL := 2) (ret := none) (by decide) rfl ?_
  intro p e s m args below meth c s₁ B hml hv
  obtain ⟨rfl, hsz, hP, hK, hD0, hT⟩ := hv
  have hx := B.exec
  have hb := B.bytes
  have hr := B.returns
  have hown : s.vm.findClass RX8 = some m.cls := findClass_of_methodNamed B.named
  have hlocks := B.notSynchronized
  have hts := TB.use hT ([.ref h_t] : List Value).toArray
  subst hsz
  have hD := hD0.self (sz := s.heap.size)
  generalize hAe : va_A [(h_t, .inr (8, [.ref h_t_tape, .ref h_t_draft, .int t_length, .int t_faultKind, .int t_faultPlace, .int t_centreTold, .int t_start, .int t_next, .int t_kind, .int t_value])), (h_t_draft, .inr (0, [.ref h_t_draft_x, .ref h_t_draft_y, .ref h_t_draft_colour, .ref h_t_draft_load, .int t_draft_size, .int t_draft_centreX, .int t_draft_centreY]))] s.heap.size = A at hD ⊢
  have hA : ∀ q : Nat, s.heap.size ≤ q → A q := fun q h => by rw [← hAe]; exact Or.inr h
  clear hAe hD0
  have hl := lv_entry ([.ref h_t]) (n := 2) (Nat.le_of_ble_eq_true rfl)
  rw [lg_entry_eq]
  generalize (lg_sl ([.ref h_t]) ++ List.replicate (2 - (lg_sl ([.ref h_t])).length) Slot.unset).toArray = ls at hl ⊢
  have hl : lv_has ls 2 [(0, .ref h_t)] := hl
  have hF : 1 ≤ (headSpec [Cond.code yX8_refuseBeyondLast cX8_refuseBeyondLast 2 none] ({ frames := 1, cells := 0, slots := 0, locals := 21 })).room.frames := Nat.le_refl _
  have hLo : 21 ≤ (headSpec [Cond.code yX8_refuseBeyondLast cX8_refuseBeyondLast 2 none] ({ frames := 1, cells := 0, slots := 0, locals := 21 })).room.locals := Nat.le_refl _
  have C0 : Sx p (headSpec [Cond.code yX8_refuseBeyondLast cX8_refuseBeyondLast 2 none] ({ frames := 1, cells := 0, slots := 0, locals := 21 })).room s m ([.ref h_t] : List Value).toArray c cX8_refuseBeyondLast 2 RX8 A dC dI cI cL cB 1 21 := ⟨hx, hb, hml, hown, hts, hK, hT, hA, hF, hLo⟩
  refine startH (A := A) hP (fun H locs hP hS => ?_)
  rw [fX8_refuseBeyondLast] at hf
  refine lv_aload_n hx hb dX8_refuseBeyondLast_0 rfl (lv_at hl 0 rfl) ?_
  refine va_get (D := (dC, dI)) (ci := 8) (v := .int t_kind) (C := RX8) (T := TX8) (N := 10) hx hb hts in_X8 hown hK hP 0 rfl rfl 8 (Nat.le_of_ble_eq_true rfl) (hts _ qf_X8_45) (fun _ h9 => h9) rfl dX8_refuseBeyondLast_1 ?_
  refine lv_iconst (v := (5 : Int32)) hx hb dX8_refuseBeyondLast_4 (by decide) ?_
  obtain ⟨k_2, ek_2, hf⟩ := jn_out hf
  have J_3 : ∀ (s_1 : Int32) (H : Heap) (locs : List Loc) (ls : Array Slot), va_P (dC, dI) vwCl [(h_t, .inr (8, [.ref h_t_tape, .ref h_t_draft, .int t_length, .int t_faultKind, .int t_faultPlace, .int t_centreTold, .int t_start, .int t_next, .int t_kind, .int t_value])), (h_t_draft, .inr (0, [.ref h_t_draft_x, .ref h_t_draft_y, .ref h_t_draft_colour, .ref h_t_draft_load, .int t_draft_size, .int t_draft_centreX, .int t_draft_centreY]))] H → va_D A [(h_t, .inr (8, [.ref h_t_tape, .ref h_t_draft, .int t_length, .int t_faultKind, .int t_faultPlace, .int t_centreTold, .int t_start, .int t_next, .int t_kind, .int t_value])), (h_t_draft, .inr (0, [.ref h_t_draft_x, .ref h_t_draft_y, .ref h_t_draft_colour, .ref h_t_draft_load, .int t_draft_size, .int t_draft_centreX, .int t_draft_centreY]))] → va_S A s.heap H locs → lv_has ls 2 [(0, .ref h_t)] → k_2 s_1 = some (o_t_faultKind, o_t_faultPlace) → W p l e (headSpec [Cond.code yX8_refuseBeyondLast cX8_refuseBeyondLast 2 none] ({ frames := 1, cells := 0, slots := 0, locals := 21 })).room s m ([.ref h_t] : List Value).toArray below meth c H locs 0 0 (MQ below (cQv dC dI A [(h_t, .inr (8, [.ref h_t_tape, .ref h_t_draft, .int t_length, .int o_t_faultKind, .int o_t_faultPlace, .int t_centreTold, .int t_start, .int t_next, .int t_kind, .int t_value])), (h_t_draft, .inr (0, [.ref h_t_draft_x, .ref h_t_draft_y, .ref h_t_draft_colour, .ref h_t_draft_load, .int t_draft_size, .int t_draft_centreX, .int t_draft_centreY]))]) ([.ref h_t] : List Value).toArray s 0 0 A) (F0 m 30 ls [.int s_1]) := by
    intro s_1 H locs ls hP hD hS hl hf
    rw [ek_2] at hf
    try dsimp only at hf
    refine lv_istore_n (lv' := [(1, .int s_1), (0, .ref h_t)]) hx hb dX8_refuseBeyondLast_30 rfl hl (Nat.le_of_ble_eq_true rfl) rfl (fun ls hl => ?_)
    refine lv_aload_n hx hb dX8_refuseBeyondLast_31 rfl (lv_at hl 1 rfl) ?_
    refine va_get (D := (dC, dI)) (ci := 8) (v := .ref h_t_draft) (C := RX8) (T := TX8) (N := 10) hx hb hts in_X8 hown hK hP 0 rfl rfl 1 (Nat.le_of_ble_eq_true rfl) (hts _ qf_X8_18) (fun _ h9 => h9) rfl dX8_refuseBeyondLast_32 ?_
    refine va_get (D := (dC, dI)) (ci := 0) (v := .int t_draft_size) (C := RX0) (T := TX0) (N := 7) hx hb hts in_X0 hown hK hP 1 rfl rfl 4 (Nat.le_of_ble_eq_true rfl) (hts _ qf_X8_86) (fun _ h9 => h9) rfl dX8_refuseBeyondLast_35 ?_
    refine lv_bipush (v := (24 : Int32)) hx hb dX8_refuseBeyondLast_38 (by decide) ?_
    refine lv_icmp_lt (tgt := 52) hx hb dX8_refuseBeyondLast_40 (by decide) (fun hc => ?_) (fun hc => ?_)
    · replace hf := it_t (hc) hf
      obtain ⟨rfl, rfl⟩ := o2 hf
      exact W.vret hx hb hr (fun t ht hW => ⟨⟨(), rfl, trivial, by rw [ht]; exact hP, hD⟩, hS.F ht⟩) hS.2.2 dX8_refuseBeyondLast_52
    · replace hf := it_f (hc) hf
      refine lv_iload_n hx hb dX8_refuseBeyondLast_43 rfl (lv_at hl 0 rfl) ?_
      refine lv_if_eq (tgt := 52) hx hb dX8_refuseBeyondLast_44 (by decide) (fun hc => ?_) (fun hc => ?_)
      · replace hf := it_t (hc) hf
        obtain ⟨rfl, rfl⟩ := o2 hf
        exact W.vret hx hb hr (fun t ht hW => ⟨⟨(), rfl, trivial, by rw [ht]; exact hP, hD⟩, hS.F ht⟩) hS.2.2 dX8_refuseBeyondLast_52
      · replace hf := it_f (hc) hf
        refine lv_aload_n hx hb dX8_refuseBeyondLast_47 rfl (lv_at hl 1 rfl) ?_
        refine lv_iconst (v := (3 : Int32)) hx hb dX8_refuseBeyondLast_48 (by decide) ?_
        obtain ⟨t_faultKind_4, t_faultPlace_5, hq_6, hf⟩ := b2_some hf
        refine xcv (wr := [(h_t_draft, .inr (0, [.ref h_t_draft_x, .ref h_t_draft_y, .ref h_t_draft_colour, .ref h_t_draft_load, .int t_draft_size, .int t_draft_centreX, .int t_draft_centreY]))]) (w2 := [(h_t, .inr (8, [.ref h_t_tape, .ref h_t_draft, .int t_length, .int t_faultKind_4, .int t_faultPlace_5, .int t_centreTold, .int t_start, .int t_next, .int t_kind, .int t_value])), (h_t_draft, .inr (0, [.ref h_t_draft_x, .ref h_t_draft_y, .ref h_t_draft_colour, .ref h_t_draft_load, .int t_draft_size, .int t_draft_centreX, .int t_draft_centreY]))]) (va_runV (As := [.int (3 : Int32)]) (rest := []) ⟨hx, hb, hml, hown, hts⟩ (mtX8_refuse l dC dI cI cL cB K h_t h_t_tape h_t_draft H.size t_length t_faultKind t_faultPlace t_centreTold t_start t_next t_kind t_value (3 : Int32) t_faultKind_4 t_faultPlace_5 hq_6) (cwV 1 hts gv_X8_74 rfl rfl rfl hdV_X8_refuse ⟨Nat.le_trans (Nat.le_of_ble_eq_true rfl) hF, Nat.le_trans (Nat.le_of_ble_eq_true rfl) hLo⟩) (cPreV hK hP hD hT [0] rfl rfl (ci := 8) (q0 := 0) rfl rfl) rfl rfl hl.1 rfl (lv_room (Nat.le_of_ble_eq_true rfl)) dX8_refuseBeyondLast_49 ⟨Nat.zero_le _, Nat.zero_le _⟩) hP hD hS hA [0] [1] [1, 0] rfl rfl rfl rfl rfl rfl (fun H locs hP hD hS => ?_)
        obtain ⟨rfl, rfl⟩ := o2 hf
        exact W.vret hx hb hr (fun t ht hW => ⟨⟨(), rfl, trivial, by rw [ht]; exact hP, hD⟩, hS.F ht⟩) hS.2.2 dX8_refuseBeyondLast_52
  obtain ⟨k_7, ek_7, hf⟩ := jn_out hf
  have J_8 : ∀ (H : Heap) (locs : List Loc) (ls : Array Slot), va_P (dC, dI) vwCl [(h_t, .inr (8, [.ref h_t_tape, .ref h_t_draft, .int t_length, .int t_faultKind, .int t_faultPlace, .int t_centreTold, .int t_start, .int t_next, .int t_kind, .int t_value])), (h_t_draft, .inr (0, [.ref h_t_draft_x, .ref h_t_draft_y, .ref h_t_draft_colour, .ref h_t_draft_load, .int t_draft_size, .int t_draft_centreX, .int t_draft_centreY]))] H → va_D A [(h_t, .inr (8, [.ref h_t_tape, .ref h_t_draft, .int t_length, .int t_faultKind, .int t_faultPlace, .int t_centreTold, .int t_start, .int t_next, .int t_kind, .int t_value])), (h_t_draft, .inr (0, [.ref h_t_draft_x, .ref h_t_draft_y, .ref h_t_draft_colour, .ref h_t_draft_load, .int t_draft_size, .int t_draft_centreX, .int t_draft_centreY]))] → va_S A s.heap H locs → lv_has ls 2 [(0, .ref h_t)] → k_7 = some (o_t_faultKind, o_t_faultPlace) → W p l e (headSpec [Cond.code yX8_refuseBeyondLast cX8_refuseBeyondLast 2 none] ({ frames := 1, cells := 0, slots := 0, locals := 21 })).room s m ([.ref h_t] : List Value).toArray below meth c H locs 0 0 (MQ below (cQv dC dI A [(h_t, .inr (8, [.ref h_t_tape, .ref h_t_draft, .int t_length, .int o_t_faultKind, .int o_t_faultPlace, .int t_centreTold, .int t_start, .int t_next, .int t_kind, .int t_value])), (h_t_draft, .inr (0, [.ref h_t_draft_x, .ref h_t_draft_y, .ref h_t_draft_colour, .ref h_t_draft_load, .int t_draft_size, .int t_draft_centreX, .int t_draft_centreY]))]) ([.ref h_t] : List Value).toArray s 0 0 A) (F0 m 25 ls []) := by
    intro H locs ls hP hD hS hl hf
    rw [ek_7] at hf
    refine lv_iconst (v := (1 : Int32)) hx hb dX8_refuseBeyondLast_25 (by decide) ?_
    refine lv_goto (tgt := 30) hx hb dX8_refuseBeyondLast_26 (by decide) ?_
    exact J_3 (1 : Int32) H locs ls hP hD hS (lv_sub hl [0] rfl) hf
  refine lv_icmp_eq (tgt := 25) hx hb dX8_refuseBeyondLast_5 (by decide) (fun hc => ?_) (fun hc => ?_)
  · replace hf := it_t (hc) hf
    exact J_8 H locs ls hP hD hS (lv_sub hl [0] rfl) hf
  · replace hf := it_f (hc) hf
    refine lv_aload_n hx hb dX8_refuseBeyondLast_8 rfl (lv_at hl 0 rfl) ?_
    refine va_get (D := (dC, dI)) (ci := 8) (v := .int t_kind) (C := RX8) (T := TX8) (N := 10) hx hb hts in_X8 hown hK hP 0 rfl rfl 8 (Nat.le_of_ble_eq_true rfl) (hts _ qf_X8_45) (fun _ h9 => h9) rfl dX8_refuseBeyondLast_9 ?_
    refine lv_iconst (v := (2 : Int32)) hx hb dX8_refuseBeyondLast_12 (by decide) ?_
    obtain ⟨k_9, ek_9, hf⟩ := jn_out hf
    have J_10 : ∀ (H : Heap) (locs : List Loc) (ls : Array Slot), va_P (dC, dI) vwCl [(h_t, .inr (8, [.ref h_t_tape, .ref h_t_draft, .int t_length, .int t_faultKind, .int t_faultPlace, .int t_centreTold, .int t_start, .int t_next, .int t_kind, .int t_value])), (h_t_draft, .inr (0, [.ref h_t_draft_x, .ref h_t_draft_y, .ref h_t_draft_colour, .ref h_t_draft_load, .int t_draft_size, .int t_draft_centreX, .int t_draft_centreY]))] H → va_D A [(h_t, .inr (8, [.ref h_t_tape, .ref h_t_draft, .int t_length, .int t_faultKind, .int t_faultPlace, .int t_centreTold, .int t_start, .int t_next, .int t_kind, .int t_value])), (h_t_draft, .inr (0, [.ref h_t_draft_x, .ref h_t_draft_y, .ref h_t_draft_colour, .ref h_t_draft_load, .int t_draft_size, .int t_draft_centreX, .int t_draft_centreY]))] → va_S A s.heap H locs → lv_has ls 2 [(0, .ref h_t)] → k_9 = some (o_t_faultKind, o_t_faultPlace) → W p l e (headSpec [Cond.code yX8_refuseBeyondLast cX8_refuseBeyondLast 2 none] ({ frames := 1, cells := 0, slots := 0, locals := 21 })).room s m ([.ref h_t] : List Value).toArray below meth c H locs 0 0 (MQ below (cQv dC dI A [(h_t, .inr (8, [.ref h_t_tape, .ref h_t_draft, .int t_length, .int o_t_faultKind, .int o_t_faultPlace, .int t_centreTold, .int t_start, .int t_next, .int t_kind, .int t_value])), (h_t_draft, .inr (0, [.ref h_t_draft_x, .ref h_t_draft_y, .ref h_t_draft_colour, .ref h_t_draft_load, .int t_draft_size, .int t_draft_centreX, .int t_draft_centreY]))]) ([.ref h_t] : List Value).toArray s 0 0 A) (F0 m 29 ls []) := by
      intro H locs ls hP hD hS hl hf
      rw [ek_9] at hf
      refine lv_iconst (v := (0 : Int32)) hx hb dX8_refuseBeyondLast_29 (by decide) ?_
      exact J_3 (0 : Int32) H locs ls hP hD hS (lv_sub hl [0] rfl) hf
    refine lv_icmp_ne (tgt := 29) hx hb dX8_refuseBeyondLast_13 (by decide) (fun hc => ?_) (fun hc => ?_)
    · replace hf := it_f (hc) hf
      exact J_10 H locs ls hP hD hS (lv_sub hl [0] rfl) hf
    · replace hf := it_t (hc) hf
      refine lv_aload_n hx hb dX8_refuseBeyondLast_16 rfl (lv_at hl 0 rfl) ?_
      refine va_get (D := (dC, dI)) (ci := 8) (v := .int t_value) (C := RX8) (T := TX8) (N := 10) hx hb hts in_X8 hown hK hP 0 rfl rfl 9 (Nat.le_of_ble_eq_true rfl) (hts _ qf_X8_105) (fun _ h9 => h9) rfl dX8_refuseBeyondLast_17 ?_
      refine lv_bipush (v := (20 : Int32)) hx hb dX8_refuseBeyondLast_20 (by decide) ?_
      refine lv_icmp_gt (tgt := 29) hx hb dX8_refuseBeyondLast_22 (by decide) (fun hc => ?_) (fun hc => ?_)
      · replace hf := it_t (hc) hf
        exact J_10 H locs ls hP hD hS (lv_sub hl [0] rfl) hf
      · replace hf := it_f (hc) hf
        exact J_8 H locs ls hP hD hS (lv_sub hl [0] rfl) hf
theorem dX8_readNumber_0 : decode cX8_readNumber 0 = .ok (.aload_n 0, 1) := by decide +kernel
theorem dX8_readNumber_1 : decode cX8_readNumber 1 = .ok (.getfield 45, 3) := by decide +kernel
theorem dX8_readNumber_4 : decode cX8_readNumber 4 = .ok (.iconst 2, 1) := by decide +kernel
theorem dX8_readNumber_5 : decode cX8_readNumber 5 = .ok (.if_icmp .eq 11, 3) := by decide +kernel
theorem dX8_readNumber_8 : decode cX8_readNumber 8 = .ok (.aload_n 0, 1) := by decide +kernel
theorem dX8_readNumber_9 : decode cX8_readNumber 9 = .ok (.iconst 1, 1) := by decide +kernel
theorem dX8_readNumber_10 : decode cX8_readNumber 10 = .ok (.invokevirtual 74, 3) := by decide +kernel
theorem dX8_readNumber_13 : decode cX8_readNumber 13 = .ok (.goto 16, 3) := by decide +kernel
theorem dX8_readNumber_16 : decode cX8_readNumber 16 = .ok (.aload_n 0, 1) := by decide +kernel
theorem dX8_readNumber_17 : decode cX8_readNumber 17 = .ok (.getfield 105, 3) := by decide +kernel
theorem dX8_readNumber_20 : decode cX8_readNumber 20 = .ok (.iload_n 1, 1) := by decide +kernel
theorem dX8_readNumber_21 : decode cX8_readNumber 21 = .ok (.if_icmp .le 8, 3) := by decide +kernel
theorem dX8_readNumber_24 : decode cX8_readNumber 24 = .ok (.aload_n 0, 1) := by decide +kernel
theorem dX8_readNumber_25 : decode cX8_readNumber 25 = .ok (.iconst 2, 1) := by decide +kernel
theorem dX8_readNumber_26 : decode cX8_readNumber 26 = .ok (.invokevirtual 74, 3) := by decide +kernel
theorem dX8_readNumber_29 : decode cX8_readNumber 29 = .ok (.aload_n 0, 1) := by decide +kernel
theorem dX8_readNumber_30 : decode cX8_readNumber 30 = .ok (.getfield 36, 3) := by decide +kernel
theorem dX8_readNumber_33 : decode cX8_readNumber 33 = .ok (.ifCond .eq 5, 3) := by decide +kernel
theorem dX8_readNumber_36 : decode cX8_readNumber 36 = .ok (.iconst 0, 1) := by decide +kernel
theorem dX8_readNumber_37 : decode cX8_readNumber 37 = .ok (.ireturn, 1) := by decide +kernel
theorem dX8_readNumber_38 : decode cX8_readNumber 38 = .ok (.aload_n 0, 1) := by decide +kernel
theorem dX8_readNumber_39 : decode cX8_readNumber 39 = .ok (.getfield 105, 3) := by decide +kernel
theorem dX8_readNumber_42 : decode cX8_readNumber 42 = .ok (.istore_n 2, 1) := by decide +kernel
theorem dX8_readNumber_43 : decode cX8_readNumber 43 = .ok (.aload_n 0, 1) := by decide +kernel
theorem dX8_readNumber_44 : decode cX8_readNumber 44 = .ok (.invokevirtual 42, 3) := by decide +kernel
theorem dX8_readNumber_47 : decode cX8_readNumber 47 = .ok (.iload_n 2, 1) := by decide +kernel
theorem dX8_readNumber_48 : decode cX8_readNumber 48 = .ok (.ireturn, 1) := by decide +kernel
set_option maxRecDepth 100000 in
set_option maxHeartbeats 4000000 in
theorem mtX8_readNumber (l : Launch) (dC : Nat → ClassId) (dI : Nat → Nat → Nat) (cI cL cB : ClassId) (K : Nat) (h_t h_t_tape h_t_draft : Nat) (sz : Nat) (t_length : Int32) (t_faultKind : Int32) (t_faultPlace : Int32) (t_centreTold : Int32) (t_start : Int32) (t_next : Int32) (t_kind : Int32) (t_value : Int32) (t_tape : Nat → Int32) (a1 : Int32) (o_r : Int32) (o_t_faultKind : Int32) (o_t_faultPlace : Int32) (o_t_start : Int32) (o_t_next : Int32) (o_t_kind : Int32) (o_t_value : Int32) (hf : fX8_readNumber K t_length t_faultKind t_faultPlace t_start t_next t_kind t_value t_tape a1 = some (o_r, o_t_faultKind, o_t_faultPlace, o_t_start, o_t_next, o_t_kind, o_t_value)) : Met l yX8_readNumber [Cond.code yX8_readNumber cX8_readNumber 3 (some .int)] ({ frames := 2, cells := 0, slots := 0, locals := 40 }) (va_Pc [.ref h_t, .int a1] (cPre dC dI cI cL cB sz [(h_t, .inr (8, [.ref h_t_tape, .ref h_t_draft, .int t_length, .int t_faultKind, .int t_faultPlace, .int t_centreTold, .int t_start, .int t_next, .int t_kind, .int t_value])), (h_t_tape, .inl (cB, 600, .inl t_tape))])) (cQi dC dI (va_A [(h_t, .inr (8, [.ref h_t_tape, .ref h_t_draft, .int t_length, .int t_faultKind, .int t_faultPlace, .int t_centreTold, .int t_start, .int t_next, .int t_kind, .int t_value])), (h_t_tape, .inl (cB, 600, .inl t_tape))] sz) o_r [(h_t, .inr (8, [.ref h_t_tape, .ref h_t_draft, .int t_length, .int o_t_faultKind, .int o_t_faultPlace, .int t_centreTold, .int o_t_start, .int o_t_next, .int o_t_kind, .int o_t_value])), (h_t_tape, .inl (cB, 600, .inl t_tape))]) 0 0 (va_A [(h_t, .inr (8, [.ref h_t_tape, .ref h_t_draft, .int t_length, .int t_faultKind, .int t_faultPlace, .int t_centreTold, .int t_start, .int t_next, .int t_kind, .int t_value])), (h_t_tape, .inl (cB, 600, .inl t_tape))] sz) := by
  refine Met.ofW (cc := cX8_readNumber) (maxL := 3) (ret := (some .int)) (by decide) rfl ?_
  intro p e s m args below meth c s₁ B hml hv
  obtain ⟨rfl, hsz, hP, hK, hD0, hT⟩ := hv
  have hx := B.exec
  have hb := B.bytes
  have hr := B.returns
  have hown : s.vm.findClass RX8 = some m.cls := findClass_of_methodNamed B.named
  have hlocks := B.notSynchronized
  have hts := TB.use hT ([.ref h_t, .int a1] : List Value).toArray
  subst hsz
  have hD := hD0.self (sz := s.heap.size)
  generalize hAe : va_A [(h_t, .inr (8, [.ref h_t_tape, .ref h_t_draft, .int t_length, .int t_faultKind, .int t_faultPlace, .int t_centreTold, .int t_start, .int t_next, .int t_kind, .int t_value])), (h_t_tape, .inl (cB, 600, .inl t_tape))] s.heap.size = A at hD ⊢
  have hA : ∀ q : Nat, s.heap.size ≤ q → A q := fun q h => by rw [← hAe]; exact Or.inr h
  clear hAe hD0
  have hl := lv_entry ([.ref h_t, .int a1]) (n := 3) (Nat.le_of_ble_eq_true rfl)
  rw [lg_entry_eq]
  generalize (lg_sl ([.ref h_t, .int a1]) ++ List.replicate (3 - (lg_sl ([.ref h_t, .int a1])).length) Slot.unset).toArray = ls at hl ⊢
  have hl : lv_has ls 3 [(0, .ref h_t), (1, .int a1)] := hl
  have hF : 2 ≤ (headSpec [Cond.code yX8_readNumber cX8_readNumber 3 (some .int)] ({ frames := 2, cells := 0, slots := 0, locals := 40 })).room.frames := Nat.le_refl _
  have hLo : 40 ≤ (headSpec [Cond.code yX8_readNumber cX8_readNumber 3 (some .int)] ({ frames := 2, cells := 0, slots := 0, locals := 40 })).room.locals := Nat.le_refl _
  have C0 : Sx p (headSpec [Cond.code yX8_readNumber cX8_readNumber 3 (some .int)] ({ frames := 2, cells := 0, slots := 0, locals := 40 })).room s m ([.ref h_t, .int a1] : List Value).toArray c cX8_readNumber 3 RX8 A dC dI cI cL cB 2 40 := ⟨hx, hb, hml, hown, hts, hK, hT, hA, hF, hLo⟩
  refine startH (A := A) hP (fun H locs hP hS => ?_)
  rw [fX8_readNumber] at hf
  refine lv_aload_n hx hb dX8_readNumber_0 rfl (lv_at hl 0 rfl) ?_
  refine va_get (D := (dC, dI)) (ci := 8) (v := .int t_kind) (C := RX8) (T := TX8) (N := 10) hx hb hts in_X8 hown hK hP 0 rfl rfl 8 (Nat.le_of_ble_eq_true rfl) (hts _ qf_X8_45) (fun _ h9 => h9) rfl dX8_readNumber_1 ?_
  refine lv_iconst (v := (2 : Int32)) hx hb dX8_readNumber_4 (by decide) ?_
  obtain ⟨k_3, ek_3, hf⟩ := jn_out hf
  have J_4 : ∀ (t_faultKind_1 : Int32) (t_faultPlace_2 : Int32) (H : Heap) (locs : List Loc) (ls : Array Slot), va_P (dC, dI) vwCl [(h_t, .inr (8, [.ref h_t_tape, .ref h_t_draft, .int t_length, .int t_faultKind_1, .int t_faultPlace_2, .int t_centreTold, .int t_start, .int t_next, .int t_kind, .int t_value])), (h_t_tape, .inl (cB, 600, .inl t_tape))] H → va_D A [(h_t, .inr (8, [.ref h_t_tape, .ref h_t_draft, .int t_length, .int t_faultKind_1, .int t_faultPlace_2, .int t_centreTold, .int t_start, .int t_next, .int t_kind, .int t_value])), (h_t_tape, .inl (cB, 600, .inl t_tape))] → va_S A s.heap H locs → lv_has ls 3 [(0, .ref h_t)] → k_3 t_faultKind_1 t_faultPlace_2 = some (o_r, o_t_faultKind, o_t_faultPlace, o_t_start, o_t_next, o_t_kind, o_t_value) → W p l e (headSpec [Cond.code yX8_readNumber cX8_readNumber 3 (some .int)] ({ frames := 2, cells := 0, slots := 0, locals := 40 })).room s m ([.ref h_t, .int a1] : List Value).toArray below meth c H locs 0 0 (MQ below (cQi dC dI A o_r [(h_t, .inr (8, [.ref h_t_tape, .ref h_t_draft, .int t_length, .int o_t_faultKind, .int o_t_faultPlace, .int t_centreTold, .int o_t_start, .int o_t_next, .int o_t_kind, .int o_t_value])), (h_t_tape, .inl (cB, 600, .inl t_tape))]) ([.ref h_t, .int a1] : List Value).toArray s 0 0 A) (F0 m 29 ls []) := by
    intro t_faultKind_1 t_faultPlace_2 H locs ls hP hD hS hl hf
    rw [ek_3] at hf
    try dsimp only at hf
    refine lv_aload_n hx hb dX8_readNumber_29 rfl (lv_at hl 0 rfl) ?_
    refine va_get (D := (dC, dI)) (ci := 8) (v := .int t_faultKind_1) (C := RX8) (T := TX8) (N := 10) hx hb hts in_X8 hown hK hP 0 rfl rfl 3 (Nat.le_of_ble_eq_true rfl) (hts _ qf_X8_36) (fun _ h9 => h9) rfl dX8_readNumber_30 ?_
    refine lv_if_eq (tgt := 38) hx hb dX8_readNumber_33 (by decide) (fun hc => ?_) (fun hc => ?_)
    · replace hf := it_t (hc) hf
      refine lv_aload_n hx hb dX8_readNumber_38 rfl (lv_at hl 0 rfl) ?_
      refine va_get (D := (dC, dI)) (ci := 8) (v := .int t_value) (C := RX8) (T := TX8) (N := 10) hx hb hts in_X8 hown hK hP 0 rfl rfl 9 (Nat.le_of_ble_eq_true rfl) (hts _ qf_X8_105) (fun _ h9 => h9) rfl dX8_readNumber_39 ?_
      refine lv_istore_n (lv' := [(2, .int t_value), (0, .ref h_t)]) hx hb dX8_readNumber_42 rfl hl (Nat.le_of_ble_eq_true rfl) rfl (fun ls hl => ?_)
      refine lv_aload_n hx hb dX8_readNumber_43 rfl (lv_at hl 1 rfl) ?_
      obtain ⟨t_start_5, t_next_6, t_kind_7, t_value_8, hq_9, hf⟩ := b4_some hf
      refine xcv (wr := []) (w2 := [(h_t, .inr (8, [.ref h_t_tape, .ref h_t_draft, .int t_length, .int t_faultKind_1, .int t_faultPlace_2, .int t_centreTold, .int t_start_5, .int t_next_6, .int t_kind_7, .int t_value_8])), (h_t_tape, .inl (cB, 600, .inl t_tape))]) (va_runV (As := []) (rest := []) ⟨hx, hb, hml, hown, hts⟩ (mtX8_advance l dC dI cI cL cB K h_t h_t_tape h_t_draft H.size t_length t_faultKind_1 t_faultPlace_2 t_centreTold t_start t_next t_kind t_value t_tape t_start_5 t_next_6 t_kind_7 t_value_8 hq_9) (cwV 0 hts gv_X8_42 rfl rfl rfl hdV_X8_advance ⟨Nat.le_trans (Nat.le_of_ble_eq_true rfl) hF, Nat.le_trans (Nat.le_of_ble_eq_true rfl) hLo⟩) (cPreV hK hP hD hT [0, 1] rfl rfl (ci := 8) (q0 := 0) rfl rfl) rfl rfl hl.1 rfl (lv_room (Nat.le_of_ble_eq_true rfl)) dX8_readNumber_44 ⟨Nat.zero_le _, Nat.zero_le _⟩) hP hD hS hA [0, 1] [] [0, 1] rfl rfl rfl rfl rfl rfl (fun H locs hP hD hS => ?_)
      refine lv_iload_n hx hb dX8_readNumber_47 rfl (lv_at hl 0 rfl) ?_
      obtain ⟨rfl, rfl, rfl, rfl, rfl, rfl, rfl⟩ := o7 hf
      exact W.iret hx hb hr (fun t ht hW => ⟨⟨_, (), rfl, rfl, by rw [ht]; exact hP, hD⟩, hS.F ht⟩) hS.2.2 dX8_readNumber_48
    · replace hf := it_f (hc) hf
      refine lv_iconst (v := (0 : Int32)) hx hb dX8_readNumber_36 (by decide) ?_
      obtain ⟨rfl, rfl, rfl, rfl, rfl, rfl, rfl⟩ := o7 hf
      exact W.iret hx hb hr (fun t ht hW => ⟨⟨_, (), rfl, rfl, by rw [ht]; exact hP, hD⟩, hS.F ht⟩) hS.2.2 dX8_readNumber_37
  refine lv_icmp_eq (tgt := 16) hx hb dX8_readNumber_5 (by decide) (fun hc => ?_) (fun hc => ?_)
  · replace hf := it_t (hc) hf
    refine lv_aload_n hx hb dX8_readNumber_16 rfl (lv_at hl 0 rfl) ?_
    refine va_get (D := (dC, dI)) (ci := 8) (v := .int t_value) (C := RX8) (T := TX8) (N := 10) hx hb hts in_X8 hown hK hP 0 rfl rfl 9 (Nat.le_of_ble_eq_true rfl) (hts _ qf_X8_105) (fun _ h9 => h9) rfl dX8_readNumber_17 ?_
    refine lv_iload_n hx hb dX8_readNumber_20 rfl (lv_at hl 1 rfl) ?_
    refine lv_icmp_le (tgt := 29) hx hb dX8_readNumber_21 (by decide) (fun hc => ?_) (fun hc => ?_)
    · replace hf := it_t (hc) hf
      exact J_4 t_faultKind t_faultPlace H locs ls hP hD hS (lv_sub hl [0] rfl) hf
    · replace hf := it_f (hc) hf
      refine lv_aload_n hx hb dX8_readNumber_24 rfl (lv_at hl 0 rfl) ?_
      refine lv_iconst (v := (2 : Int32)) hx hb dX8_readNumber_25 (by decide) ?_
      obtain ⟨t_faultKind_10, t_faultPlace_11, hq_12, hf⟩ := b2_some hf
      refine xcv (wr := [(h_t_tape, .inl (cB, 600, .inl t_tape))]) (w2 := [(h_t, .inr (8, [.ref h_t_tape, .ref h_t_draft, .int t_length, .int t_faultKind_10, .int t_faultPlace_11, .int t_centreTold, .int t_start, .int t_next, .int t_kind, .int t_value])), (h_t_tape, .inl (cB, 600, .inl t_tape))]) (va_runV (As := [.int (2 : Int32)]) (rest := []) ⟨hx, hb, hml, hown, hts⟩ (mtX8_refuse l dC dI cI cL cB K h_t h_t_tape h_t_draft H.size t_length t_faultKind t_faultPlace t_centreTold t_start t_next t_kind t_value (2 : Int32) t_faultKind_10 t_faultPlace_11 hq_12) (cwV 1 hts gv_X8_74 rfl rfl rfl hdV_X8_refuse ⟨Nat.le_trans (Nat.le_of_ble_eq_true rfl) hF, Nat.le_trans (Nat.le_of_ble_eq_true rfl) hLo⟩) (cPreV hK hP hD hT [0] rfl rfl (ci := 8) (q0 := 0) rfl rfl) rfl rfl hl.1 rfl (lv_room (Nat.le_of_ble_eq_true rfl)) dX8_readNumber_26 ⟨Nat.zero_le _, Nat.zero_le _⟩) hP hD hS hA [0] [1] [1, 0] rfl rfl rfl rfl rfl rfl (fun H locs hP hD hS => ?_)
      exact J_4 t_faultKind_10 t_faultPlace_11 H locs ls hP hD hS (lv_sub hl [0] rfl) hf
  · replace hf := it_f (hc) hf
    refine lv_aload_n hx hb dX8_readNumber_8 rfl (lv_at hl 0 rfl) ?_
    refine lv_iconst (v := (1 : Int32)) hx hb dX8_readNumber_9 (by decide) ?_
    obtain ⟨t_faultKind_13, t_faultPlace_14, hq_15, hf⟩ := b2_some hf
    refine xcv (wr := [(h_t_tape, .inl (cB, 600, .inl t_tape))]) (w2 := [(h_t, .inr (8, [.ref h_t_tape, .ref h_t_draft, .int t_length, .int t_faultKind_13, .int t_faultPlace_14, .int t_centreTold, .int t_start, .int t_next, .int t_kind, .int t_value])), (h_t_tape, .inl (cB, 600, .inl t_tape))]) (va_runV (As := [.int (1 : Int32)]) (rest := []) ⟨hx, hb, hml, hown, hts⟩ (mtX8_refuse l dC dI cI cL cB K h_t h_t_tape h_t_draft H.size t_length t_faultKind t_faultPlace t_centreTold t_start t_next t_kind t_value (1 : Int32) t_faultKind_13 t_faultPlace_14 hq_15) (cwV 1 hts gv_X8_74 rfl rfl rfl hdV_X8_refuse ⟨Nat.le_trans (Nat.le_of_ble_eq_true rfl) hF, Nat.le_trans (Nat.le_of_ble_eq_true rfl) hLo⟩) (cPreV hK hP hD hT [0] rfl rfl (ci := 8) (q0 := 0) rfl rfl) rfl rfl hl.1 rfl (lv_room (Nat.le_of_ble_eq_true rfl)) dX8_readNumber_10 ⟨Nat.zero_le _, Nat.zero_le _⟩) hP hD hS hA [0] [1] [1, 0] rfl rfl rfl rfl rfl rfl (fun H locs hP hD hS => ?_)
    refine lv_goto (tgt := 29) hx hb dX8_readNumber_13 (by decide) ?_
    exact J_4 t_faultKind_13 t_faultPlace_14 H locs ls hP hD hS (lv_sub hl [0] rfl) hf
theorem dX8_readCoordinate_0 : decode cX8_readCoordinate 0 = .ok (.aload_n 0, 1) := by decide +kernel
theorem dX8_readCoordinate_1 : decode cX8_readCoordinate 1 = .ok (.getfield 45, 3) := by decide +kernel
theorem dX8_readCoordinate_4 : decode cX8_readCoordinate 4 = .ok (.iconst 5, 1) := by decide +kernel
theorem dX8_readCoordinate_5 : decode cX8_readCoordinate 5 = .ok (.if_icmp .ne 14, 3) := by decide +kernel
theorem dX8_readCoordinate_8 : decode cX8_readCoordinate 8 = .ok (.aload_n 0, 1) := by decide +kernel
theorem dX8_readCoordinate_9 : decode cX8_readCoordinate 9 = .ok (.getfield 36, 3) := by decide +kernel
theorem dX8_readCoordinate_12 : decode cX8_readCoordinate 12 = .ok (.ifCond .ne 7, 3) := by decide +kernel
theorem dX8_readCoordinate_15 : decode cX8_readCoordinate 15 = .ok (.iconst 1, 1) := by decide +kernel
theorem dX8_readCoordinate_16 : decode cX8_readCoordinate 16 = .ok (.goto 4, 3) := by decide +kernel
theorem dX8_readCoordinate_19 : decode cX8_readCoordinate 19 = .ok (.iconst 0, 1) := by decide +kernel
theorem dX8_readCoordinate_20 : decode cX8_readCoordinate 20 = .ok (.istore_n 1, 1) := by decide +kernel
theorem dX8_readCoordinate_21 : decode cX8_readCoordinate 21 = .ok (.iload_n 1, 1) := by decide +kernel
theorem dX8_readCoordinate_22 : decode cX8_readCoordinate 22 = .ok (.ifCond .eq 7, 3) := by decide +kernel
theorem dX8_readCoordinate_25 : decode cX8_readCoordinate 25 = .ok (.aload_n 0, 1) := by decide +kernel
theorem dX8_readCoordinate_26 : decode cX8_readCoordinate 26 = .ok (.invokevirtual 42, 3) := by decide +kernel
theorem dX8_readCoordinate_29 : decode cX8_readCoordinate 29 = .ok (.aload_n 0, 1) := by decide +kernel
theorem dX8_readCoordinate_30 : decode cX8_readCoordinate 30 = .ok (.bipush 20, 2) := by decide +kernel
theorem dX8_readCoordinate_32 : decode cX8_readCoordinate 32 = .ok (.invokevirtual 98, 3) := by decide +kernel
theorem dX8_readCoordinate_35 : decode cX8_readCoordinate 35 = .ok (.istore_n 2, 1) := by decide +kernel
theorem dX8_readCoordinate_36 : decode cX8_readCoordinate 36 = .ok (.iload_n 1, 1) := by decide +kernel
theorem dX8_readCoordinate_37 : decode cX8_readCoordinate 37 = .ok (.ifCond .eq 8, 3) := by decide +kernel
theorem dX8_readCoordinate_40 : decode cX8_readCoordinate 40 = .ok (.iload_n 2, 1) := by decide +kernel
theorem dX8_readCoordinate_41 : decode cX8_readCoordinate 41 = .ok (.ineg, 1) := by decide +kernel
theorem dX8_readCoordinate_42 : decode cX8_readCoordinate 42 = .ok (.goto 4, 3) := by decide +kernel
theorem dX8_readCoordinate_45 : decode cX8_readCoordinate 45 = .ok (.iload_n 2, 1) := by decide +kernel
theorem dX8_readCoordinate_46 : decode cX8_readCoordinate 46 = .ok (.ireturn, 1) := by decide +kernel
set_option maxRecDepth 100000 in
set_option maxHeartbeats 4000000 in
theorem mtX8_readCoordinate (l : Launch) (dC : Nat → ClassId) (dI : Nat → Nat → Nat) (cI cL cB : ClassId) (K : Nat) (h_t h_t_tape h_t_draft : Nat) (sz : Nat) (t_length : Int32) (t_faultKind : Int32) (t_faultPlace : Int32) (t_centreTold : Int32) (t_start : Int32) (t_next : Int32) (t_kind : Int32) (t_value : Int32) (t_tape : Nat → Int32) (o_r : Int32) (o_t_faultKind : Int32) (o_t_faultPlace : Int32) (o_t_start : Int32) (o_t_next : Int32) (o_t_kind : Int32) (o_t_value : Int32) (hf : fX8_readCoordinate K t_length t_faultKind t_faultPlace t_start t_next t_kind t_value t_tape = some (o_r, o_t_faultKind, o_t_faultPlace, o_t_start, o_t_next, o_t_kind, o_t_value)) : Met l yX8_readCoordinate [Cond.code yX8_readCoordinate cX8_readCoordinate 3 (some .int)] ({ frames := 3, cells := 0, slots := 0, locals := 62 }) (va_Pc [.ref h_t] (cPre dC dI cI cL cB sz [(h_t, .inr (8, [.ref h_t_tape, .ref h_t_draft, .int t_length, .int t_faultKind, .int t_faultPlace, .int t_centreTold, .int t_start, .int t_next, .int t_kind, .int t_value])), (h_t_tape, .inl (cB, 600, .inl t_tape))])) (cQi dC dI (va_A [(h_t, .inr (8, [.ref h_t_tape, .ref h_t_draft, .int t_length, .int t_faultKind, .int t_faultPlace, .int t_centreTold, .int t_start, .int t_next, .int t_kind, .int t_value])), (h_t_tape, .inl (cB, 600, .inl t_tape))] sz) o_r [(h_t, .inr (8, [.ref h_t_tape, .ref h_t_draft, .int t_length, .int o_t_faultKind, .int o_t_faultPlace, .int t_centreTold, .int o_t_start, .int o_t_next, .int o_t_kind, .int o_t_value])), (h_t_tape, .inl (cB, 600, .inl t_tape))]) 0 0 (va_A [(h_t, .inr (8, [.ref h_t_tape, .ref h_t_draft, .int t_length, .int t_faultKind, .int t_faultPlace, .int t_centreTold, .int t_start, .int t_next, .int t_kind, .int t_value])), (h_t_tape, .inl (cB, 600, .inl t_tape))] sz) := by
  refine Met.ofW (cc := cX8_readCoordinate) (maxL := 3) (ret := (some .int)) (by decide) rfl ?_
  intro p e s m args below meth c s₁ B hml hv
  obtain ⟨rfl, hsz, hP, hK, hD0, hT⟩ := hv
  have hx := B.exec
  have hb := B.bytes
  have hr := B.returns
  have hown : s.vm.findClass RX8 = some m.cls := findClass_of_methodNamed B.named
  have hlocks := B.notSynchronized
  have hts := TB.use hT ([.ref h_t] : List Value).toArray
  subst hsz
  have hD := hD0.self (sz := s.heap.size)
  generalize hAe : va_A [(h_t, .inr (8, [.ref h_t_tape, .ref h_t_draft, .int t_length, .int t_faultKind, .int t_faultPlace, .int t_centreTold, .int t_start, .int t_next, .int t_kind, .int t_value])), (h_t_tape, .inl (cB, 600, .inl t_tape))] s.heap.size = A at hD ⊢
  have hA : ∀ q : Nat, s.heap.size ≤ q → A q := fun q h => by rw [← hAe]; exact Or.inr h
  clear hAe hD0
  have hl := lv_entry ([.ref h_t]) (n := 3) (Nat.le_of_ble_eq_true rfl)
  rw [lg_entry_eq]
  generalize (lg_sl ([.ref h_t]) ++ List.replicate (3 - (lg_sl ([.ref h_t])).length) Slot.unset).toArray = ls at hl ⊢
  have hl : lv_has ls 3 [(0, .ref h_t)] := hl
  have hF : 3 ≤ (headSpec [Cond.code yX8_readCoordinate cX8_readCoordinate 3 (some .int)] ({ frames := 3, cells := 0, slots := 0, locals := 62 })).room.frames := Nat.le_refl _
  have hLo : 62 ≤ (headSpec [Cond.code yX8_readCoordinate cX8_readCoordinate 3 (some .int)] ({ frames := 3, cells := 0, slots := 0, locals := 62 })).room.locals := Nat.le_refl _
  have C0 : Sx p (headSpec [Cond.code yX8_readCoordinate cX8_readCoordinate 3 (some .int)] ({ frames := 3, cells := 0, slots := 0, locals := 62 })).room s m ([.ref h_t] : List Value).toArray c cX8_readCoordinate 3 RX8 A dC dI cI cL cB 3 62 := ⟨hx, hb, hml, hown, hts, hK, hT, hA, hF, hLo⟩
  refine startH (A := A) hP (fun H locs hP hS => ?_)
  rw [fX8_readCoordinate] at hf
  refine lv_aload_n hx hb dX8_readCoordinate_0 rfl (lv_at hl 0 rfl) ?_
  refine va_get (D := (dC, dI)) (ci := 8) (v := .int t_kind) (C := RX8) (T := TX8) (N := 10) hx hb hts in_X8 hown hK hP 0 rfl rfl 8 (Nat.le_of_ble_eq_true rfl) (hts _ qf_X8_45) (fun _ h9 => h9) rfl dX8_readCoordinate_1 ?_
  refine lv_iconst (v := (5 : Int32)) hx hb dX8_readCoordinate_4 (by decide) ?_
  obtain ⟨k_2, ek_2, hf⟩ := jn_out hf
  have J_3 : ∀ (s_1 : Int32) (H : Heap) (locs : List Loc) (ls : Array Slot), va_P (dC, dI) vwCl [(h_t, .inr (8, [.ref h_t_tape, .ref h_t_draft, .int t_length, .int t_faultKind, .int t_faultPlace, .int t_centreTold, .int t_start, .int t_next, .int t_kind, .int t_value])), (h_t_tape, .inl (cB, 600, .inl t_tape))] H → va_D A [(h_t, .inr (8, [.ref h_t_tape, .ref h_t_draft, .int t_length, .int t_faultKind, .int t_faultPlace, .int t_centreTold, .int t_start, .int t_next, .int t_kind, .int t_value])), (h_t_tape, .inl (cB, 600, .inl t_tape))] → va_S A s.heap H locs → lv_has ls 3 [(0, .ref h_t)] → k_2 s_1 = some (o_r, o_t_faultKind, o_t_faultPlace, o_t_start, o_t_next, o_t_kind, o_t_value) → W p l e (headSpec [Cond.code yX8_readCoordinate cX8_readCoordinate 3 (some .int)] ({ frames := 3, cells := 0, slots := 0, locals := 62 })).room s m ([.ref h_t] : List Value).toArray below meth c H locs 0 0 (MQ below (cQi dC dI A o_r [(h_t, .inr (8, [.ref h_t_tape, .ref h_t_draft, .int t_length, .int o_t_faultKind, .int o_t_faultPlace, .int t_centreTold, .int o_t_start, .int o_t_next, .int o_t_kind, .int o_t_value])), (h_t_tape, .inl (cB, 600, .inl t_tape))]) ([.ref h_t] : List Value).toArray s 0 0 A) (F0 m 20 ls [.int s_1]) := by
    intro s_1 H locs ls hP hD hS hl hf
    rw [ek_2] at hf
    try dsimp only at hf
    refine lv_istore_n (lv' := [(1, .int s_1), (0, .ref h_t)]) hx hb dX8_readCoordinate_20 rfl hl (Nat.le_of_ble_eq_true rfl) rfl (fun ls hl => ?_)
    refine lv_iload_n hx hb dX8_readCoordinate_21 rfl (lv_at hl 0 rfl) ?_
    obtain ⟨k_8, ek_8, hf⟩ := jn_out hf
    have J_9 : ∀ (t_start_4 : Int32) (t_next_5 : Int32) (t_kind_6 : Int32) (t_value_7 : Int32) (H : Heap) (locs : List Loc) (ls : Array Slot), va_P (dC, dI) vwCl [(h_t, .inr (8, [.ref h_t_tape, .ref h_t_draft, .int t_length, .int t_faultKind, .int t_faultPlace, .int t_centreTold, .int t_start_4, .int t_next_5, .int t_kind_6, .int t_value_7])), (h_t_tape, .inl (cB, 600, .inl t_tape))] H → va_D A [(h_t, .inr (8, [.ref h_t_tape, .ref h_t_draft, .int t_length, .int t_faultKind, .int t_faultPlace, .int t_centreTold, .int t_start_4, .int t_next_5, .int t_kind_6, .int t_value_7])), (h_t_tape, .inl (cB, 600, .inl t_tape))] → va_S A s.heap H locs → lv_has ls 3 [(0, .ref h_t), (1, .int s_1)] → k_8 t_start_4 t_next_5 t_kind_6 t_value_7 = some (o_r, o_t_faultKind, o_t_faultPlace, o_t_start, o_t_next, o_t_kind, o_t_value) → W p l e (headSpec [Cond.code yX8_readCoordinate cX8_readCoordinate 3 (some .int)] ({ frames := 3, cells := 0, slots := 0, locals := 62 })).room s m ([.ref h_t] : List Value).toArray below meth c H locs 0 0 (MQ below (cQi dC dI A o_r [(h_t, .inr (8, [.ref h_t_tape, .ref h_t_draft, .int t_length, .int o_t_faultKind, .int o_t_faultPlace, .int t_centreTold, .int o_t_start, .int o_t_next, .int o_t_kind, .int o_t_value])), (h_t_tape, .inl (cB, 600, .inl t_tape))]) ([.ref h_t] : List Value).toArray s 0 0 A) (F0 m 29 ls []) := by
      intro t_start_4 t_next_5 t_kind_6 t_value_7 H locs ls hP hD hS hl hf
      rw [ek_8] at hf
      try dsimp only at hf
      refine lv_aload_n hx hb dX8_readCoordinate_29 rfl (lv_at hl 0 rfl) ?_
      refine lv_bipush (v := (20 : Int32)) hx hb dX8_readCoordinate_30 (by decide) ?_
      obtain ⟨r_10, t_faultKind_11, t_faultPlace_12, t_start_13, t_next_14, t_kind_15, t_value_16, hq_17, hf⟩ := b7_some hf
      refine xci (wr := []) (w2 := [(h_t, .inr (8, [.ref h_t_tape, .ref h_t_draft, .int t_length, .int t_faultKind_11, .int t_faultPlace_12, .int t_centreTold, .int t_start_13, .int t_next_14, .int t_kind_15, .int t_value_16])), (h_t_tape, .inl (cB, 600, .inl t_tape))]) (va_runV (As := [.int (20 : Int32)]) (rest := []) ⟨hx, hb, hml, hown, hts⟩ (mtX8_readNumber l dC dI cI cL cB K h_t h_t_tape h_t_draft H.size t_length t_faultKind t_faultPlace t_centreTold t_start_4 t_next_5 t_kind_6 t_value_7 t_tape (20 : Int32) r_10 t_faultKind_11 t_faultPlace_12 t_start_13 t_next_14 t_kind_15 t_value_16 hq_17) (cwV 1 hts gv_X8_98 rfl rfl rfl hdV_X8_readNumber ⟨Nat.le_trans (Nat.le_of_ble_eq_true rfl) hF, Nat.le_trans (Nat.le_of_ble_eq_true rfl) hLo⟩) (cPreV hK hP hD hT [0, 1] rfl rfl (ci := 8) (q0 := 0) rfl rfl) rfl rfl hl.1 rfl (lv_room (Nat.le_of_ble_eq_true rfl)) dX8_readCoordinate_32 ⟨Nat.zero_le _, Nat.zero_le _⟩) hP hD hS hA [0, 1] [] [0, 1] rfl rfl rfl rfl rfl rfl (fun H locs hP hD hS => ?_)
      refine lv_istore_n (lv' := [(2, .int r_10), (0, .ref h_t), (1, .int s_1)]) hx hb dX8_readCoordinate_35 rfl hl (Nat.le_of_ble_eq_true rfl) rfl (fun ls hl => ?_)
      refine lv_iload_n hx hb dX8_readCoordinate_36 rfl (lv_at hl 2 rfl) ?_
      refine lv_if_eq (tgt := 45) hx hb dX8_readCoordinate_37 (by decide) (fun hc => ?_) (fun hc => ?_)
      · replace hf := it_t (hc) hf
        refine lv_iload_n hx hb dX8_readCoordinate_45 rfl (lv_at hl 0 rfl) ?_
        obtain ⟨rfl, rfl, rfl, rfl, rfl, rfl, rfl⟩ := o7 hf
        exact W.iret hx hb hr (fun t ht hW => ⟨⟨_, (), rfl, rfl, by rw [ht]; exact hP, hD⟩, hS.F ht⟩) hS.2.2 dX8_readCoordinate_46
      · replace hf := it_f (hc) hf
        refine lv_iload_n hx hb dX8_readCoordinate_40 rfl (lv_at hl 0 rfl) ?_
        refine lv_ineg hx hb dX8_readCoordinate_41 ?_
        refine lv_goto (tgt := 46) hx hb dX8_readCoordinate_42 (by decide) ?_
        obtain ⟨rfl, rfl, rfl, rfl, rfl, rfl, rfl⟩ := o7 hf
        exact W.iret hx hb hr (fun t ht hW => ⟨⟨_, (), rfl, rfl, by rw [ht]; exact hP, hD⟩, hS.F ht⟩) hS.2.2 dX8_readCoordinate_46
    refine lv_if_eq (tgt := 29) hx hb dX8_readCoordinate_22 (by decide) (fun hc => ?_) (fun hc => ?_)
    · replace hf := it_t (hc) hf
      exact J_9 t_start t_next t_kind t_value H locs ls hP hD hS (lv_sub hl [1, 0] rfl) hf
    · replace hf := it_f (hc) hf
      refine lv_aload_n hx hb dX8_readCoordinate_25 rfl (lv_at hl 1 rfl) ?_
      obtain ⟨t_start_18, t_next_19, t_kind_20, t_value_21, hq_22, hf⟩ := b4_some hf
      refine xcv (wr := []) (w2 := [(h_t, .inr (8, [.ref h_t_tape, .ref h_t_draft, .int t_length, .int t_faultKind, .int t_faultPlace, .int t_centreTold, .int t_start_18, .int t_next_19, .int t_kind_20, .int t_value_21])), (h_t_tape, .inl (cB, 600, .inl t_tape))]) (va_runV (As := []) (rest := []) ⟨hx, hb, hml, hown, hts⟩ (mtX8_advance l dC dI cI cL cB K h_t h_t_tape h_t_draft H.size t_length t_faultKind t_faultPlace t_centreTold t_start t_next t_kind t_value t_tape t_start_18 t_next_19 t_kind_20 t_value_21 hq_22) (cwV 0 hts gv_X8_42 rfl rfl rfl hdV_X8_advance ⟨Nat.le_trans (Nat.le_of_ble_eq_true rfl) hF, Nat.le_trans (Nat.le_of_ble_eq_true rfl) hLo⟩) (cPreV hK hP hD hT [0, 1] rfl rfl (ci := 8) (q0 := 0) rfl rfl) rfl rfl hl.1 rfl (lv_room (Nat.le_of_ble_eq_true rfl)) dX8_readCoordinate_26 ⟨Nat.zero_le _, Nat.zero_le _⟩) hP hD hS hA [0, 1] [] [0, 1] rfl rfl rfl rfl rfl rfl (fun H locs hP hD hS => ?_)
      exact J_9 t_start_18 t_next_19 t_kind_20 t_value_21 H locs ls hP hD hS (lv_sub hl [1, 0] rfl) hf
  obtain ⟨k_23, ek_23, hf⟩ := jn_out hf
  have J_24 : ∀ (H : Heap) (locs : List Loc) (ls : Array Slot), va_P (dC, dI) vwCl [(h_t, .inr (8, [.ref h_t_tape, .ref h_t_draft, .int t_length, .int t_faultKind, .int t_faultPlace, .int t_centreTold, .int t_start, .int t_next, .int t_kind, .int t_value])), (h_t_tape, .inl (cB, 600, .inl t_tape))] H → va_D A [(h_t, .inr (8, [.ref h_t_tape, .ref h_t_draft, .int t_length, .int t_faultKind, .int t_faultPlace, .int t_centreTold, .int t_start, .int t_next, .int t_kind, .int t_value])), (h_t_tape, .inl (cB, 600, .inl t_tape))] → va_S A s.heap H locs → lv_has ls 3 [(0, .ref h_t)] → k_23 = some (o_r, o_t_faultKind, o_t_faultPlace, o_t_start, o_t_next, o_t_kind, o_t_value) → W p l e (headSpec [Cond.code yX8_readCoordinate cX8_readCoordinate 3 (some .int)] ({ frames := 3, cells := 0, slots := 0, locals := 62 })).room s m ([.ref h_t] : List Value).toArray below meth c H locs 0 0 (MQ below (cQi dC dI A o_r [(h_t, .inr (8, [.ref h_t_tape, .ref h_t_draft, .int t_length, .int o_t_faultKind, .int o_t_faultPlace, .int t_centreTold, .int o_t_start, .int o_t_next, .int o_t_kind, .int o_t_value])), (h_t_tape, .inl (cB, 600, .inl t_tape))]) ([.ref h_t] : List Value).toArray s 0 0 A) (F0 m 19 ls []) := by
    intro H locs ls hP hD hS hl hf
    rw [ek_23] at hf
    refine lv_iconst (v := (0 : Int32)) hx hb dX8_readCoordinate_19 (by decide) ?_
    exact J_3 (0 : Int32) H locs ls hP hD hS (lv_sub hl [0] rfl) hf
  refine lv_icmp_ne (tgt := 19) hx hb dX8_readCoordinate_5 (by decide) (fun hc => ?_) (fun hc => ?_)
  · replace hf := it_f (hc) hf
    exact J_24 H locs ls hP hD hS (lv_sub hl [0] rfl) hf
  · replace hf := it_t (hc) hf
    refine lv_aload_n hx hb dX8_readCoordinate_8 rfl (lv_at hl 0 rfl) ?_
    refine va_get (D := (dC, dI)) (ci := 8) (v := .int t_faultKind) (C := RX8) (T := TX8) (N := 10) hx hb hts in_X8 hown hK hP 0 rfl rfl 3 (Nat.le_of_ble_eq_true rfl) (hts _ qf_X8_36) (fun _ h9 => h9) rfl dX8_readCoordinate_9 ?_
    refine lv_if_ne (tgt := 19) hx hb dX8_readCoordinate_12 (by decide) (fun hc => ?_) (fun hc => ?_)
    · replace hf := it_f (hc) hf
      exact J_24 H locs ls hP hD hS (lv_sub hl [0] rfl) hf
    · replace hf := it_t (hc) hf
      refine lv_iconst (v := (1 : Int32)) hx hb dX8_readCoordinate_15 (by decide) ?_
      refine lv_goto (tgt := 20) hx hb dX8_readCoordinate_16 (by decide) ?_
      exact J_3 (1 : Int32) H locs ls hP hD hS (lv_sub hl [0] rfl) hf
theorem dX0_append_0 : decode cX0_append 0 = .ok (.aload_n 0, 1) := by decide +kernel
theorem dX0_append_1 : decode cX0_append 1 = .ok (.getfield 24, 3) := by decide +kernel
theorem dX0_append_4 : decode cX0_append 4 = .ok (.bipush 24, 2) := by decide +kernel
theorem dX0_append_6 : decode cX0_append 6 = .ok (.if_icmp .lt 5, 3) := by decide +kernel
theorem dX0_append_9 : decode cX0_append 9 = .ok (.iconst 0, 1) := by decide +kernel
theorem dX0_append_10 : decode cX0_append 10 = .ok (.ireturn, 1) := by decide +kernel
theorem dX0_append_11 : decode cX0_append 11 = .ok (.aload_n 0, 1) := by decide +kernel
theorem dX0_append_12 : decode cX0_append 12 = .ok (.getfield 9, 3) := by decide +kernel
theorem dX0_append_15 : decode cX0_append 15 = .ok (.aload_n 0, 1) := by decide +kernel
theorem dX0_append_16 : decode cX0_append 16 = .ok (.getfield 24, 3) := by decide +kernel
theorem dX0_append_19 : decode cX0_append 19 = .ok (.iload_n 1, 1) := by decide +kernel
theorem dX0_append_20 : decode cX0_append 20 = .ok (.iastore, 1) := by decide +kernel
theorem dX0_append_21 : decode cX0_append 21 = .ok (.aload_n 0, 1) := by decide +kernel
theorem dX0_append_22 : decode cX0_append 22 = .ok (.getfield 15, 3) := by decide +kernel
theorem dX0_append_25 : decode cX0_append 25 = .ok (.aload_n 0, 1) := by decide +kernel
theorem dX0_append_26 : decode cX0_append 26 = .ok (.getfield 24, 3) := by decide +kernel
theorem dX0_append_29 : decode cX0_append 29 = .ok (.iload_n 2, 1) := by decide +kernel
theorem dX0_append_30 : decode cX0_append 30 = .ok (.iastore, 1) := by decide +kernel
theorem dX0_append_31 : decode cX0_append 31 = .ok (.aload_n 0, 1) := by decide +kernel
theorem dX0_append_32 : decode cX0_append 32 = .ok (.getfield 18, 3) := by decide +kernel
theorem dX0_append_35 : decode cX0_append 35 = .ok (.aload_n 0, 1) := by decide +kernel
theorem dX0_append_36 : decode cX0_append 36 = .ok (.getfield 24, 3) := by decide +kernel
theorem dX0_append_39 : decode cX0_append 39 = .ok (.iload_n 3, 1) := by decide +kernel
theorem dX0_append_40 : decode cX0_append 40 = .ok (.iastore, 1) := by decide +kernel
theorem dX0_append_41 : decode cX0_append 41 = .ok (.aload_n 0, 1) := by decide +kernel
theorem dX0_append_42 : decode cX0_append 42 = .ok (.getfield 21, 3) := by decide +kernel
theorem dX0_append_45 : decode cX0_append 45 = .ok (.aload_n 0, 1) := by decide +kernel
theorem dX0_append_46 : decode cX0_append 46 = .ok (.getfield 24, 3) := by decide +kernel
theorem dX0_append_49 : decode cX0_append 49 = .ok (.iconst 0, 1) := by decide +kernel
theorem dX0_append_50 : decode cX0_append 50 = .ok (.iastore, 1) := by decide +kernel
theorem dX0_append_51 : decode cX0_append 51 = .ok (.aload_n 0, 1) := by decide +kernel
theorem dX0_append_52 : decode cX0_append 52 = .ok (.dup, 1) := by decide +kernel
theorem dX0_append_53 : decode cX0_append 53 = .ok (.getfield 24, 3) := by decide +kernel
theorem dX0_append_56 : decode cX0_append 56 = .ok (.iconst 1, 1) := by decide +kernel
theorem dX0_append_57 : decode cX0_append 57 = .ok (.iadd, 1) := by decide +kernel
theorem dX0_append_58 : decode cX0_append 58 = .ok (.putfield 24, 3) := by decide +kernel
theorem dX0_append_61 : decode cX0_append 61 = .ok (.iconst 1, 1) := by decide +kernel
theorem dX0_append_62 : decode cX0_append 62 = .ok (.ireturn, 1) := by decide +kernel
set_option maxRecDepth 100000 in
set_option maxHeartbeats 4000000 in
theorem mtX0_append (l : Launch) (dC : Nat → ClassId) (dI : Nat → Nat → Nat) (cI cL cB : ClassId) (K : Nat) (h_t h_t_x h_t_y h_t_colour h_t_load : Nat) (sz : Nat) (t_size : Int32) (t_centreX : Int32) (t_centreY : Int32) (t_x : Nat → Int32) (t_y : Nat → Int32) (t_colour : Nat → Int32) (t_load : Nat → Int32) (a1 : Int32) (a2 : Int32) (a3 : Int32) (o_r : Int32) (o_t_size : Int32) (o_t_x : Nat → Int32) (o_t_y : Nat → Int32) (o_t_colour : Nat → Int32) (o_t_load : Nat → Int32) (hf : fX0_append K t_size t_x t_y t_colour t_load a1 a2 a3 = some (o_r, o_t_size, o_t_x, o_t_y, o_t_colour, o_t_load)) : Met l yX0_append [Cond.code yX0_append cX0_append 4 (some .boolean)] ({ frames := 0, cells := 0, slots := 0, locals := 0 }) (va_Pc [.ref h_t, .int a1, .int a2, .int a3] (cPre dC dI cI cL cB sz [(h_t, .inr (0, [.ref h_t_x, .ref h_t_y, .ref h_t_colour, .ref h_t_load, .int t_size, .int t_centreX, .int t_centreY])), (h_t_x, .inl (cI, 24, .inl t_x)), (h_t_y, .inl (cI, 24, .inl t_y)), (h_t_colour, .inl (cI, 24, .inl t_colour)), (h_t_load, .inl (cI, 24, .inl t_load))])) (cQi dC dI (va_A [(h_t, .inr (0, [.ref h_t_x, .ref h_t_y, .ref h_t_colour, .ref h_t_load, .int t_size, .int t_centreX, .int t_centreY])), (h_t_x, .inl (cI, 24, .inl t_x)), (h_t_y, .inl (cI, 24, .inl t_y)), (h_t_colour, .inl (cI, 24, .inl t_colour)), (h_t_load, .inl (cI, 24, .inl t_load))] sz) o_r [(h_t, .inr (0, [.ref h_t_x, .ref h_t_y, .ref h_t_colour, .ref h_t_load, .int o_t_size, .int t_centreX, .int t_centreY])), (h_t_x, .inl (cI, 24, .inl o_t_x)), (h_t_y, .inl (cI, 24, .inl o_t_y)), (h_t_colour, .inl (cI, 24, .inl o_t_colour)), (h_t_load, .inl (cI, 24, .inl o_t_load))]) 0 0 (va_A [(h_t, .inr (0, [.ref h_t_x, .ref h_t_y, .ref h_t_colour, .ref h_t_load, .int t_size, .int t_centreX, .int t_centreY])), (h_t_x, .inl (cI, 24, .inl t_x)), (h_t_y, .inl (cI, 24, .inl t_y)), (h_t_colour, .inl (cI, 24, .inl t_colour)), (h_t_load, .inl (cI, 24, .inl t_load))] sz) := by
  refine Met.ofW (cc := cX0_append) (maxL := 4) (ret := (some .boolean)) (by decide) rfl ?_
  intro p e s m args below meth c s₁ B hml hv
  obtain ⟨rfl, hsz, hP, hK, hD0, hT⟩ := hv
  have hx := B.exec
  have hb := B.bytes
  have hr := B.returns
  have hown : s.vm.findClass RX0 = some m.cls := findClass_of_methodNamed B.named
  have hlocks := B.notSynchronized
  have hts := TB.use hT ([.ref h_t, .int a1, .int a2, .int a3] : List Value).toArray
  subst hsz
  have hD := hD0.self (sz := s.heap.size)
  generalize hAe : va_A [(h_t, .inr (0, [.ref h_t_x, .ref h_t_y, .ref h_t_colour, .ref h_t_load, .int t_size, .int t_centreX, .int t_centreY])), (h_t_x, .inl (cI, 24, .inl t_x)), (h_t_y, .inl (cI, 24, .inl t_y)), (h_t_colour, .inl (cI, 24, .inl t_colour)), (h_t_load, .inl (cI, 24, .inl t_load))] s.heap.size = A at hD ⊢
  have hA : ∀ q : Nat, s.heap.size ≤ q → A q := fun q h => by rw [← hAe]; exact Or.inr h
  clear hAe hD0
  have hl := lv_entry ([.ref h_t, .int a1, .int a2, .int a3]) (n := 4) (Nat.le_of_ble_eq_true rfl)
  rw [lg_entry_eq]
  generalize (lg_sl ([.ref h_t, .int a1, .int a2, .int a3]) ++ List.replicate (4 - (lg_sl ([.ref h_t, .int a1, .int a2, .int a3])).length) Slot.unset).toArray = ls at hl ⊢
  have hl : lv_has ls 4 [(0, .ref h_t), (1, .int a1), (2, .int a2), (3, .int a3)] := hl
  have hF : 0 ≤ (headSpec [Cond.code yX0_append cX0_append 4 (some .boolean)] ({ frames := 0, cells := 0, slots := 0, locals := 0 })).room.frames := Nat.le_refl _
  have hLo : 0 ≤ (headSpec [Cond.code yX0_append cX0_append 4 (some .boolean)] ({ frames := 0, cells := 0, slots := 0, locals := 0 })).room.locals := Nat.le_refl _
  have C0 : Sx p (headSpec [Cond.code yX0_append cX0_append 4 (some .boolean)] ({ frames := 0, cells := 0, slots := 0, locals := 0 })).room s m ([.ref h_t, .int a1, .int a2, .int a3] : List Value).toArray c cX0_append 4 RX0 A dC dI cI cL cB 0 0 := ⟨hx, hb, hml, hown, hts, hK, hT, hA, hF, hLo⟩
  refine startH (A := A) hP (fun H locs hP hS => ?_)
  rw [fX0_append] at hf
  refine lv_aload_n hx hb dX0_append_0 rfl (lv_at hl 0 rfl) ?_
  refine va_get (D := (dC, dI)) (ci := 0) (v := .int t_size) (C := RX0) (T := TX0) (N := 7) hx hb hts in_X0 hown hK hP 0 rfl rfl 4 (Nat.le_of_ble_eq_true rfl) (hts _ qf_X0_24) (fun _ h9 => h9) rfl dX0_append_1 ?_
  refine lv_bipush (v := (24 : Int32)) hx hb dX0_append_4 (by decide) ?_
  refine lv_icmp_lt (tgt := 11) hx hb dX0_append_6 (by decide) (fun hc => ?_) (fun hc => ?_)
  · replace hf := it_t (hc) hf
    refine lv_aload_n hx hb dX0_append_11 rfl (lv_at hl 0 rfl) ?_
    refine va_get (D := (dC, dI)) (ci := 0) (v := .ref h_t_x) (C := RX0) (T := TX0) (N := 7) hx hb hts in_X0 hown hK hP 0 rfl rfl 0 (Nat.le_of_ble_eq_true rfl) (hts _ qf_X0_9) (fun _ h9 => h9) rfl dX0_append_12 ?_
    refine lv_aload_n hx hb dX0_append_15 rfl (lv_at hl 0 rfl) ?_
    refine va_get (D := (dC, dI)) (ci := 0) (v := .int t_size) (C := RX0) (T := TX0) (N := 7) hx hb hts in_X0 hown hK hP 0 rfl rfl 4 (Nat.le_of_ble_eq_true rfl) (hts _ qf_X0_24) (fun _ h9 => h9) rfl dX0_append_16 ?_
    refine lv_iload_n hx hb dX0_append_19 rfl (lv_at hl 1 rfl) ?_
    obtain ⟨hg_1, hf⟩ := gd_some hf
    obtain ⟨t_x_2, et_x_2⟩ : ∃ y : Nat → Int32, y = upd t_x t_size.toNatClampNeg a1 := ⟨_, rfl⟩
    replace hf := xl_at hf et_x_2
    refine xiast (w2 := [(h_t, .inr (0, [.ref h_t_x, .ref h_t_y, .ref h_t_colour, .ref h_t_load, .int t_size, .int t_centreX, .int t_centreY])), (h_t_x, .inl (cI, 24, .inl t_x_2)), (h_t_y, .inl (cI, 24, .inl t_y)), (h_t_colour, .inl (cI, 24, .inl t_colour)), (h_t_load, .inl (cI, 24, .inl t_load))]) hx hb hK hP hD hS 1 0 rfl rfl (inb_in hg_1) et_x_2 rfl dX0_append_20 (fun H locs hP hD hS => ?_)
    refine lv_aload_n hx hb dX0_append_21 rfl (lv_at hl 0 rfl) ?_
    refine va_get (D := (dC, dI)) (ci := 0) (v := .ref h_t_y) (C := RX0) (T := TX0) (N := 7) hx hb hts in_X0 hown hK hP 0 rfl rfl 1 (Nat.le_of_ble_eq_true rfl) (hts _ qf_X0_15) (fun _ h9 => h9) rfl dX0_append_22 ?_
    refine lv_aload_n hx hb dX0_append_25 rfl (lv_at hl 0 rfl) ?_
    refine va_get (D := (dC, dI)) (ci := 0) (v := .int t_size) (C := RX0) (T := TX0) (N := 7) hx hb hts in_X0 hown hK hP 0 rfl rfl 4 (Nat.le_of_ble_eq_true rfl) (hts _ qf_X0_24) (fun _ h9 => h9) rfl dX0_append_26 ?_
    refine lv_iload_n hx hb dX0_append_29 rfl (lv_at hl 2 rfl) ?_
    obtain ⟨hg_3, hf⟩ := gd_some hf
    obtain ⟨t_y_4, et_y_4⟩ : ∃ y : Nat → Int32, y = upd t_y t_size.toNatClampNeg a2 := ⟨_, rfl⟩
    replace hf := xl_at hf et_y_4
    refine xiast (w2 := [(h_t, .inr (0, [.ref h_t_x, .ref h_t_y, .ref h_t_colour, .ref h_t_load, .int t_size, .int t_centreX, .int t_centreY])), (h_t_x, .inl (cI, 24, .inl t_x_2)), (h_t_y, .inl (cI, 24, .inl t_y_4)), (h_t_colour, .inl (cI, 24, .inl t_colour)), (h_t_load, .inl (cI, 24, .inl t_load))]) hx hb hK hP hD hS 2 0 rfl rfl (inb_in hg_3) et_y_4 rfl dX0_append_30 (fun H locs hP hD hS => ?_)
    refine lv_aload_n hx hb dX0_append_31 rfl (lv_at hl 0 rfl) ?_
    refine va_get (D := (dC, dI)) (ci := 0) (v := .ref h_t_colour) (C := RX0) (T := TX0) (N := 7) hx hb hts in_X0 hown hK hP 0 rfl rfl 2 (Nat.le_of_ble_eq_true rfl) (hts _ qf_X0_18) (fun _ h9 => h9) rfl dX0_append_32 ?_
    refine lv_aload_n hx hb dX0_append_35 rfl (lv_at hl 0 rfl) ?_
    refine va_get (D := (dC, dI)) (ci := 0) (v := .int t_size) (C := RX0) (T := TX0) (N := 7) hx hb hts in_X0 hown hK hP 0 rfl rfl 4 (Nat.le_of_ble_eq_true rfl) (hts _ qf_X0_24) (fun _ h9 => h9) rfl dX0_append_36 ?_
    refine lv_iload_n hx hb dX0_append_39 rfl (lv_at hl 3 rfl) ?_
    obtain ⟨hg_5, hf⟩ := gd_some hf
    obtain ⟨t_colour_6, et_colour_6⟩ : ∃ y : Nat → Int32, y = upd t_colour t_size.toNatClampNeg a3 := ⟨_, rfl⟩
    replace hf := xl_at hf et_colour_6
    refine xiast (w2 := [(h_t, .inr (0, [.ref h_t_x, .ref h_t_y, .ref h_t_colour, .ref h_t_load, .int t_size, .int t_centreX, .int t_centreY])), (h_t_x, .inl (cI, 24, .inl t_x_2)), (h_t_y, .inl (cI, 24, .inl t_y_4)), (h_t_colour, .inl (cI, 24, .inl t_colour_6)), (h_t_load, .inl (cI, 24, .inl t_load))]) hx hb hK hP hD hS 3 0 rfl rfl (inb_in hg_5) et_colour_6 rfl dX0_append_40 (fun H locs hP hD hS => ?_)
    refine lv_aload_n hx hb dX0_append_41 rfl (lv_at hl 0 rfl) ?_
    refine va_get (D := (dC, dI)) (ci := 0) (v := .ref h_t_load) (C := RX0) (T := TX0) (N := 7) hx hb hts in_X0 hown hK hP 0 rfl rfl 3 (Nat.le_of_ble_eq_true rfl) (hts _ qf_X0_21) (fun _ h9 => h9) rfl dX0_append_42 ?_
    refine lv_aload_n hx hb dX0_append_45 rfl (lv_at hl 0 rfl) ?_
    refine va_get (D := (dC, dI)) (ci := 0) (v := .int t_size) (C := RX0) (T := TX0) (N := 7) hx hb hts in_X0 hown hK hP 0 rfl rfl 4 (Nat.le_of_ble_eq_true rfl) (hts _ qf_X0_24) (fun _ h9 => h9) rfl dX0_append_46 ?_
    refine lv_iconst (v := (0 : Int32)) hx hb dX0_append_49 (by decide) ?_
    obtain ⟨hg_7, hf⟩ := gd_some hf
    obtain ⟨t_load_8, et_load_8⟩ : ∃ y : Nat → Int32, y = upd t_load t_size.toNatClampNeg (0 : Int32) := ⟨_, rfl⟩
    replace hf := xl_at hf et_load_8
    refine xiast (w2 := [(h_t, .inr (0, [.ref h_t_x, .ref h_t_y, .ref h_t_colour, .ref h_t_load, .int t_size, .int t_centreX, .int t_centreY])), (h_t_x, .inl (cI, 24, .inl t_x_2)), (h_t_y, .inl (cI, 24, .inl t_y_4)), (h_t_colour, .inl (cI, 24, .inl t_colour_6)), (h_t_load, .inl (cI, 24, .inl t_load_8))]) hx hb hK hP hD hS 4 0 rfl rfl (inb_in hg_7) et_load_8 rfl dX0_append_50 (fun H locs hP hD hS => ?_)
    refine lv_aload_n hx hb dX0_append_51 rfl (lv_at hl 0 rfl) ?_
    refine lv_dup hx hb dX0_append_52 rfl ?_
    refine va_get (D := (dC, dI)) (ci := 0) (v := .int t_size) (C := RX0) (T := TX0) (N := 7) hx hb hts in_X0 hown hK hP 0 rfl rfl 4 (Nat.le_of_ble_eq_true rfl) (hts _ qf_X0_24) (fun _ h9 => h9) rfl dX0_append_53 ?_
    refine lv_iconst (v := (1 : Int32)) hx hb dX0_append_56 (by decide) ?_
    refine lv_iadd hx hb dX0_append_57 ?_
    refine lv_topi (fun f_size_9 ef_size_9 => ?_)
    replace hf := xl_at hf ef_size_9
    refine xput (D := (dC, dI)) (ci := 0) (v := .int f_size_9) (C := RX0) (T := TX0) (N := 7) (w2 := [(h_t, .inr (0, [.ref h_t_x, .ref h_t_y, .ref h_t_colour, .ref h_t_load, .int f_size_9, .int t_centreX, .int t_centreY])), (h_t_x, .inl (cI, 24, .inl t_x_2)), (h_t_y, .inl (cI, 24, .inl t_y_4)), (h_t_colour, .inl (cI, 24, .inl t_colour_6)), (h_t_load, .inl (cI, 24, .inl t_load_8))]) hx hb hts in_X0 tyX0 tyX0_ok nmX0 hown hK hP hD hS 0 rfl rfl 4 (Nat.le_of_ble_eq_true rfl) (hts _ qf_X0_24) (fun _ h9 => h9) rfl rfl rfl (Nat.le_of_ble_eq_true rfl) rfl dX0_append_58 (fun H locs hP hD hS => ?_)
    refine lv_iconst (v := (1 : Int32)) hx hb dX0_append_61 (by decide) ?_
    obtain ⟨rfl, rfl, rfl, rfl, rfl, rfl⟩ := o6 hf
    exact W.zret hx hb hr rfl (fun t ht hW => ⟨⟨_, (), rfl, rfl, by rw [ht]; exact hP, hD⟩, hS.F ht⟩) hS.2.2 dX0_append_62
  · replace hf := it_f (hc) hf
    refine lv_iconst (v := (0 : Int32)) hx hb dX0_append_9 (by decide) ?_
    obtain ⟨rfl, rfl, rfl, rfl, rfl, rfl⟩ := o6 hf
    exact W.zret hx hb hr rfl (fun t ht hW => ⟨⟨_, (), rfl, rfl, by rw [ht]; exact hP, hD⟩, hS.F ht⟩) hS.2.2 dX0_append_10
theorem dX8_readCentre_0 : decode cX8_readCentre 0 = .ok (.aload_n 0, 1) := by decide +kernel
theorem dX8_readCentre_1 : decode cX8_readCentre 1 = .ok (.getfield 32, 3) := by decide +kernel
theorem dX8_readCentre_4 : decode cX8_readCentre 4 = .ok (.ifCond .eq 9, 3) := by decide +kernel
theorem dX8_readCentre_7 : decode cX8_readCentre 7 = .ok (.aload_n 0, 1) := by decide +kernel
theorem dX8_readCentre_8 : decode cX8_readCentre 8 = .ok (.iconst 3, 1) := by decide +kernel
theorem dX8_readCentre_9 : decode cX8_readCentre 9 = .ok (.invokevirtual 74, 3) := by decide +kernel
theorem dX8_readCentre_12 : decode cX8_readCentre 12 = .ok (.return_, 1) := by decide +kernel
theorem dX8_readCentre_13 : decode cX8_readCentre 13 = .ok (.aload_n 0, 1) := by decide +kernel
theorem dX8_readCentre_14 : decode cX8_readCentre 14 = .ok (.iconst 1, 1) := by decide +kernel
theorem dX8_readCentre_15 : decode cX8_readCentre 15 = .ok (.putfield 32, 3) := by decide +kernel
theorem dX8_readCentre_18 : decode cX8_readCentre 18 = .ok (.aload_n 0, 1) := by decide +kernel
theorem dX8_readCentre_19 : decode cX8_readCentre 19 = .ok (.invokevirtual 42, 3) := by decide +kernel
theorem dX8_readCentre_22 : decode cX8_readCentre 22 = .ok (.aload_n 0, 1) := by decide +kernel
theorem dX8_readCentre_23 : decode cX8_readCentre 23 = .ok (.getfield 18, 3) := by decide +kernel
theorem dX8_readCentre_26 : decode cX8_readCentre 26 = .ok (.aload_n 0, 1) := by decide +kernel
theorem dX8_readCentre_27 : decode cX8_readCentre 27 = .ok (.invokevirtual 77, 3) := by decide +kernel
theorem dX8_readCentre_30 : decode cX8_readCentre 30 = .ok (.putfield 80, 3) := by decide +kernel
theorem dX8_readCentre_33 : decode cX8_readCentre 33 = .ok (.aload_n 0, 1) := by decide +kernel
theorem dX8_readCentre_34 : decode cX8_readCentre 34 = .ok (.getfield 18, 3) := by decide +kernel
theorem dX8_readCentre_37 : decode cX8_readCentre 37 = .ok (.aload_n 0, 1) := by decide +kernel
theorem dX8_readCentre_38 : decode cX8_readCentre 38 = .ok (.invokevirtual 77, 3) := by decide +kernel
theorem dX8_readCentre_41 : decode cX8_readCentre 41 = .ok (.putfield 83, 3) := by decide +kernel
theorem dX8_readCentre_44 : decode cX8_readCentre 44 = .ok (.return_, 1) := by decide +kernel
set_option maxRecDepth 100000 in
set_option maxHeartbeats 4000000 in
theorem mtX8_readCentre (l : Launch) (dC : Nat → ClassId) (dI : Nat → Nat → Nat) (cI cL cB : ClassId) (K : Nat) (h_t h_t_tape h_t_draft h_t_draft_x h_t_draft_y h_t_draft_colour h_t_draft_load : Nat) (sz : Nat) (t_length : Int32) (t_faultKind : Int32) (t_faultPlace : Int32) (t_centreTold : Int32) (t_start : Int32) (t_next : Int32) (t_kind : Int32) (t_value : Int32) (t_tape : Nat → Int32) (t_draft_size : Int32) (t_draft_centreX : Int32) (t_draft_centreY : Int32) (o_t_faultKind : Int32) (o_t_faultPlace : Int32) (o_t_centreTold : Int32) (o_t_start : Int32) (o_t_next : Int32) (o_t_kind : Int32) (o_t_value : Int32) (o_t_draft_centreX : Int32) (o_t_draft_centreY : Int32) (hf : fX8_readCentre K t_length t_faultKind t_faultPlace t_centreTold t_start t_next t_kind t_value t_tape t_draft_centreX t_draft_centreY = some (o_t_faultKind, o_t_faultPlace, o_t_centreTold, o_t_start, o_t_next, o_t_kind, o_t_value, o_t_draft_centreX, o_t_draft_centreY)) : Met l yX8_readCentre [Cond.code yX8_readCentre cX8_readCentre 1 none] ({ frames := 4, cells := 0, slots := 0, locals := 84 }) (va_Pc [.ref h_t] (cPre dC dI cI cL cB sz [(h_t, .inr (8, [.ref h_t_tape, .ref h_t_draft, .int t_length, .int t_faultKind, .int t_faultPlace, .int t_centreTold, .int t_start, .int t_next, .int t_kind, .int t_value])), (h_t_tape, .inl (cB, 600, .inl t_tape)), (h_t_draft, .inr (0, [.ref h_t_draft_x, .ref h_t_draft_y, .ref h_t_draft_colour, .ref h_t_draft_load, .int t_draft_size, .int t_draft_centreX, .int t_draft_centreY]))])) (cQv dC dI (va_A [(h_t, .inr (8, [.ref h_t_tape, .ref h_t_draft, .int t_length, .int t_faultKind, .int t_faultPlace, .int t_centreTold, .int t_start, .int t_next, .int t_kind, .int t_value])), (h_t_tape, .inl (cB, 600, .inl t_tape)), (h_t_draft, .inr (0, [.ref h_t_draft_x, .ref h_t_draft_y, .ref h_t_draft_colour, .ref h_t_draft_load, .int t_draft_size, .int t_draft_centreX, .int t_draft_centreY]))] sz) [(h_t, .inr (8, [.ref h_t_tape, .ref h_t_draft, .int t_length, .int o_t_faultKind, .int o_t_faultPlace, .int o_t_centreTold, .int o_t_start, .int o_t_next, .int o_t_kind, .int o_t_value])), (h_t_tape, .inl (cB, 600, .inl t_tape)), (h_t_draft, .inr (0, [.ref h_t_draft_x, .ref h_t_draft_y, .ref h_t_draft_colour, .ref h_t_draft_load, .int t_draft_size, .int o_t_draft_centreX, .int o_t_draft_centreY]))]) 0 0 (va_A [(h_t, .inr (8, [.ref h_t_tape, .ref h_t_draft, .int t_length, .int t_faultKind, .int t_faultPlace, .int t_centreTold, .int t_start, .int t_next, .int t_kind, .int t_value])), (h_t_tape, .inl (cB, 600, .inl t_tape)), (h_t_draft, .inr (0, [.ref h_t_draft_x, .ref h_t_draft_y, .ref h_t_draft_colour, .ref h_t_draft_load, .int t_draft_size, .int t_draft_centreX, .int t_draft_centreY]))] sz) := by
  refine Met.ofW (cc := cX8_readCentre) (maxL := 1) (ret := none) (by decide) rfl ?_
  intro p e s m args below meth c s₁ B hml hv
  obtain ⟨rfl, hsz, hP, hK, hD0, hT⟩ := hv
  have hx := B.exec
  have hb := B.bytes
  have hr := B.returns
  have hown : s.vm.findClass RX8 = some m.cls := findClass_of_methodNamed B.named
  have hlocks := B.notSynchronized
  have hts := TB.use hT ([.ref h_t] : List Value).toArray
  subst hsz
  have hD := hD0.self (sz := s.heap.size)
  generalize hAe : va_A [(h_t, .inr (8, [.ref h_t_tape, .ref h_t_draft, .int t_length, .int t_faultKind, .int t_faultPlace, .int t_centreTold, .int t_start, .int t_next, .int t_kind, .int t_value])), (h_t_tape, .inl (cB, 600, .inl t_tape)), (h_t_draft, .inr (0, [.ref h_t_draft_x, .ref h_t_draft_y, .ref h_t_draft_colour, .ref h_t_draft_load, .int t_draft_size, .int t_draft_centreX, .int t_draft_centreY]))] s.heap.size = A at hD ⊢
  have hA : ∀ q : Nat, s.heap.size ≤ q → A q := fun q h => by rw [← hAe]; exact Or.inr h
  clear hAe hD0
  have hl := lv_entry ([.ref h_t]) (n := 1) (Nat.le_of_ble_eq_true rfl)
  rw [lg_entry_eq]
  generalize (lg_sl ([.ref h_t]) ++ List.replicate (1 - (lg_sl ([.ref h_t])).length) Slot.unset).toArray = ls at hl ⊢
  have hl : lv_has ls 1 [(0, .ref h_t)] := hl
  have hF : 4 ≤ (headSpec [Cond.code yX8_readCentre cX8_readCentre 1 none] ({ frames := 4, cells := 0, slots := 0, locals := 84 })).room.frames := Nat.le_refl _
  have hLo : 84 ≤ (headSpec [Cond.code yX8_readCentre cX8_readCentre 1 none] ({ frames := 4, cells := 0, slots := 0, locals := 84 })).room.locals := Nat.le_refl _
  have C0 : Sx p (headSpec [Cond.code yX8_readCentre cX8_readCentre 1 none] ({ frames := 4, cells := 0, slots := 0, locals := 84 })).room s m ([.ref h_t] : List Value).toArray c cX8_readCentre 1 RX8 A dC dI cI cL cB 4 84 := ⟨hx, hb, hml, hown, hts, hK, hT, hA, hF, hLo⟩
  refine startH (A := A) hP (fun H locs hP hS => ?_)
  rw [fX8_readCentre] at hf
  refine lv_aload_n hx hb dX8_readCentre_0 rfl (lv_at hl 0 rfl) ?_
  refine va_get (D := (dC, dI)) (ci := 8) (v := .int t_centreTold) (C := RX8) (T := TX8) (N := 10) hx hb hts in_X8 hown hK hP 0 rfl rfl 5 (Nat.le_of_ble_eq_true rfl) (hts _ qf_X8_32) (fun _ h9 => h9) rfl dX8_readCentre_1 ?_
  refine lv_if_eq (tgt := 13) hx hb dX8_readCentre_4 (by decide) (fun hc => ?_) (fun hc => ?_)
  · replace hf := it_t (hc) hf
    refine lv_aload_n hx hb dX8_readCentre_13 rfl (lv_at hl 0 rfl) ?_
    refine lv_iconst (v := (1 : Int32)) hx hb dX8_readCentre_14 (by decide) ?_
    refine xput (D := (dC, dI)) (ci := 8) (v := .int (1 : Int32)) (C := RX8) (T := TX8) (N := 10) (w2 := [(h_t, .inr (8, [.ref h_t_tape, .ref h_t_draft, .int t_length, .int t_faultKind, .int t_faultPlace, .int (1 : Int32), .int t_start, .int t_next, .int t_kind, .int t_value])), (h_t_tape, .inl (cB, 600, .inl t_tape)), (h_t_draft, .inr (0, [.ref h_t_draft_x, .ref h_t_draft_y, .ref h_t_draft_colour, .ref h_t_draft_load, .int t_draft_size, .int t_draft_centreX, .int t_draft_centreY]))]) hx hb hts in_X8 tyX8 tyX8_ok nmX8 hown hK hP hD hS 0 rfl rfl 5 (Nat.le_of_ble_eq_true rfl) (hts _ qf_X8_32) (fun _ h9 => h9) rfl rfl rfl (Nat.le_of_ble_eq_true rfl) rfl dX8_readCentre_15 (fun H locs hP hD hS => ?_)
    refine lv_aload_n hx hb dX8_readCentre_18 rfl (lv_at hl 0 rfl) ?_
    obtain ⟨t_start_1, t_next_2, t_kind_3, t_value_4, hq_5, hf⟩ := b4_some hf
    refine xcv (wr := [(h_t_draft, .inr (0, [.ref h_t_draft_x, .ref h_t_draft_y, .ref h_t_draft_colour, .ref h_t_draft_load, .int t_draft_size, .int t_draft_centreX, .int t_draft_centreY]))]) (w2 := [(h_t, .inr (8, [.ref h_t_tape, .ref h_t_draft, .int t_length, .int t_faultKind, .int t_faultPlace, .int (1 : Int32), .int t_start_1, .int t_next_2, .int t_kind_3, .int t_value_4])), (h_t_tape, .inl (cB, 600, .inl t_tape)), (h_t_draft, .inr (0, [.ref h_t_draft_x, .ref h_t_draft_y, .ref h_t_draft_colour, .ref h_t_draft_load, .int t_draft_size, .int t_draft_centreX, .int t_draft_centreY]))]) (va_runV (As := []) (rest := []) ⟨hx, hb, hml, hown, hts⟩ (mtX8_advance l dC dI cI cL cB K h_t h_t_tape h_t_draft H.size t_length t_faultKind t_faultPlace (1 : Int32) t_start t_next t_kind t_value t_tape t_start_1 t_next_2 t_kind_3 t_value_4 hq_5) (cwV 0 hts gv_X8_42 rfl rfl rfl hdV_X8_advance ⟨Nat.le_trans (Nat.le_of_ble_eq_true rfl) hF, Nat.le_trans (Nat.le_of_ble_eq_true rfl) hLo⟩) (cPreV hK hP hD hT [0, 1] rfl rfl (ci := 8) (q0 := 0) rfl rfl) rfl rfl hl.1 rfl (lv_room (Nat.le_of_ble_eq_true rfl)) dX8_readCentre_19 ⟨Nat.zero_le _, Nat.zero_le _⟩) hP hD hS hA [0, 1] [2] [1, 2, 0] rfl rfl rfl rfl rfl rfl (fun H locs hP hD hS => ?_)
    refine lv_aload_n hx hb dX8_readCentre_22 rfl (lv_at hl 0 rfl) ?_
    refine va_get (D := (dC, dI)) (ci := 8) (v := .ref h_t_draft) (C := RX8) (T := TX8) (N := 10) hx hb hts in_X8 hown hK hP 0 rfl rfl 1 (Nat.le_of_ble_eq_true rfl) (hts _ qf_X8_18) (fun _ h9 => h9) rfl dX8_readCentre_23 ?_
    refine lv_aload_n hx hb dX8_readCentre_26 rfl (lv_at hl 0 rfl) ?_
    obtain ⟨r_6, t_faultKind_7, t_faultPlace_8, t_start_9, t_next_10, t_kind_11, t_value_12, hq_13, hf⟩ := b7_some hf
    refine xci (wr := [(h_t_draft, .inr (0, [.ref h_t_draft_x, .ref h_t_draft_y, .ref h_t_draft_colour, .ref h_t_draft_load, .int t_draft_size, .int t_draft_centreX, .int t_draft_centreY]))]) (w2 := [(h_t, .inr (8, [.ref h_t_tape, .ref h_t_draft, .int t_length, .int t_faultKind_7, .int t_faultPlace_8, .int (1 : Int32), .int t_start_9, .int t_next_10, .int t_kind_11, .int t_value_12])), (h_t_tape, .inl (cB, 600, .inl t_tape)), (h_t_draft, .inr (0, [.ref h_t_draft_x, .ref h_t_draft_y, .ref h_t_draft_colour, .ref h_t_draft_load, .int t_draft_size, .int t_draft_centreX, .int t_draft_centreY]))]) (va_runV (As := []) (rest := [.ref h_t_draft]) ⟨hx, hb, hml, hown, hts⟩ (mtX8_readCoordinate l dC dI cI cL cB K h_t h_t_tape h_t_draft H.size t_length t_faultKind t_faultPlace (1 : Int32) t_start_1 t_next_2 t_kind_3 t_value_4 t_tape r_6 t_faultKind_7 t_faultPlace_8 t_start_9 t_next_10 t_kind_11 t_value_12 hq_13) (cwV 0 hts gv_X8_77 rfl rfl rfl hdV_X8_readCoordinate ⟨Nat.le_trans (Nat.le_of_ble_eq_true rfl) hF, Nat.le_trans (Nat.le_of_ble_eq_true rfl) hLo⟩) (cPreV hK hP hD hT [0, 1] rfl rfl (ci := 8) (q0 := 0) rfl rfl) rfl rfl hl.1 rfl (lv_room (Nat.le_of_ble_eq_true rfl)) dX8_readCentre_27 ⟨Nat.zero_le _, Nat.zero_le _⟩) hP hD hS hA [0, 1] [2] [1, 2, 0] rfl rfl rfl rfl rfl rfl (fun H locs hP hD hS => ?_)
    refine xput (D := (dC, dI)) (ci := 0) (v := .int r_6) (C := RX0) (T := TX0) (N := 7) (w2 := [(h_t, .inr (8, [.ref h_t_tape, .ref h_t_draft, .int t_length, .int t_faultKind_7, .int t_faultPlace_8, .int (1 : Int32), .int t_start_9, .int t_next_10, .int t_kind_11, .int t_value_12])), (h_t_tape, .inl (cB, 600, .inl t_tape)), (h_t_draft, .inr (0, [.ref h_t_draft_x, .ref h_t_draft_y, .ref h_t_draft_colour, .ref h_t_draft_load, .int t_draft_size, .int r_6, .int t_draft_centreY]))]) hx hb hts in_X0 tyX0 tyX0_ok nmX0 hown hK hP hD hS 2 rfl rfl 5 (Nat.le_of_ble_eq_true rfl) (hts _ qf_X8_80) (fun _ h9 => h9) rfl rfl rfl (Nat.le_of_ble_eq_true rfl) rfl dX8_readCentre_30 (fun H locs hP hD hS => ?_)
    refine lv_aload_n hx hb dX8_readCentre_33 rfl (lv_at hl 0 rfl) ?_
    refine va_get (D := (dC, dI)) (ci := 8) (v := .ref h_t_draft) (C := RX8) (T := TX8) (N := 10) hx hb hts in_X8 hown hK hP 0 rfl rfl 1 (Nat.le_of_ble_eq_true rfl) (hts _ qf_X8_18) (fun _ h9 => h9) rfl dX8_readCentre_34 ?_
    refine lv_aload_n hx hb dX8_readCentre_37 rfl (lv_at hl 0 rfl) ?_
    obtain ⟨r_14, t_faultKind_15, t_faultPlace_16, t_start_17, t_next_18, t_kind_19, t_value_20, hq_21, hf⟩ := b7_some hf
    refine xci (wr := [(h_t_draft, .inr (0, [.ref h_t_draft_x, .ref h_t_draft_y, .ref h_t_draft_colour, .ref h_t_draft_load, .int t_draft_size, .int r_6, .int t_draft_centreY]))]) (w2 := [(h_t, .inr (8, [.ref h_t_tape, .ref h_t_draft, .int t_length, .int t_faultKind_15, .int t_faultPlace_16, .int (1 : Int32), .int t_start_17, .int t_next_18, .int t_kind_19, .int t_value_20])), (h_t_tape, .inl (cB, 600, .inl t_tape)), (h_t_draft, .inr (0, [.ref h_t_draft_x, .ref h_t_draft_y, .ref h_t_draft_colour, .ref h_t_draft_load, .int t_draft_size, .int r_6, .int t_draft_centreY]))]) (va_runV (As := []) (rest := [.ref h_t_draft]) ⟨hx, hb, hml, hown, hts⟩ (mtX8_readCoordinate l dC dI cI cL cB K h_t h_t_tape h_t_draft H.size t_length t_faultKind_7 t_faultPlace_8 (1 : Int32) t_start_9 t_next_10 t_kind_11 t_value_12 t_tape r_14 t_faultKind_15 t_faultPlace_16 t_start_17 t_next_18 t_kind_19 t_value_20 hq_21) (cwV 0 hts gv_X8_77 rfl rfl rfl hdV_X8_readCoordinate ⟨Nat.le_trans (Nat.le_of_ble_eq_true rfl) hF, Nat.le_trans (Nat.le_of_ble_eq_true rfl) hLo⟩) (cPreV hK hP hD hT [0, 1] rfl rfl (ci := 8) (q0 := 0) rfl rfl) rfl rfl hl.1 rfl (lv_room (Nat.le_of_ble_eq_true rfl)) dX8_readCentre_38 ⟨Nat.zero_le _, Nat.zero_le _⟩) hP hD hS hA [0, 1] [2] [1, 2, 0] rfl rfl rfl rfl rfl rfl (fun H locs hP hD hS => ?_)
    refine xput (D := (dC, dI)) (ci := 0) (v := .int r_14) (C := RX0) (T := TX0) (N := 7) (w2 := [(h_t, .inr (8, [.ref h_t_tape, .ref h_t_draft, .int t_length, .int t_faultKind_15, .int t_faultPlace_16, .int (1 : Int32), .int t_start_17, .int t_next_18, .int t_kind_19, .int t_value_20])), (h_t_tape, .inl (cB, 600, .inl t_tape)), (h_t_draft, .inr (0, [.ref h_t_draft_x, .ref h_t_draft_y, .ref h_t_draft_colour, .ref h_t_draft_load, .int t_draft_size, .int r_6, .int r_14]))]) hx hb hts in_X0 tyX0 tyX0_ok nmX0 hown hK hP hD hS 2 rfl rfl 6 (Nat.le_of_ble_eq_true rfl) (hts _ qf_X8_83) (fun _ h9 => h9) rfl rfl rfl (Nat.le_of_ble_eq_true rfl) rfl dX8_readCentre_41 (fun H locs hP hD hS => ?_)
    obtain ⟨rfl, rfl, rfl, rfl, rfl, rfl, rfl, rfl, rfl⟩ := o9 hf
    exact W.vret hx hb hr (fun t ht hW => ⟨⟨(), rfl, trivial, by rw [ht]; exact hP, hD⟩, hS.F ht⟩) hS.2.2 dX8_readCentre_44
  · replace hf := it_f (hc) hf
    refine lv_aload_n hx hb dX8_readCentre_7 rfl (lv_at hl 0 rfl) ?_
    refine lv_iconst (v := (3 : Int32)) hx hb dX8_readCentre_8 (by decide) ?_
    obtain ⟨t_faultKind_22, t_faultPlace_23, hq_24, hf⟩ := b2_some hf
    refine xcv (wr := [(h_t_tape, .inl (cB, 600, .inl t_tape)), (h_t_draft, .inr (0, [.ref h_t_draft_x, .ref h_t_draft_y, .ref h_t_draft_colour, .ref h_t_draft_load, .int t_draft_size, .int t_draft_centreX, .int t_draft_centreY]))]) (w2 := [(h_t, .inr (8, [.ref h_t_tape, .ref h_t_draft, .int t_length, .int t_faultKind_22, .int t_faultPlace_23, .int t_centreTold, .int t_start, .int t_next, .int t_kind, .int t_value])), (h_t_tape, .inl (cB, 600, .inl t_tape)), (h_t_draft, .inr (0, [.ref h_t_draft_x, .ref h_t_draft_y, .ref h_t_draft_colour, .ref h_t_draft_load, .int t_draft_size, .int t_draft_centreX, .int t_draft_centreY]))]) (va_runV (As := [.int (3 : Int32)]) (rest := []) ⟨hx, hb, hml, hown, hts⟩ (mtX8_refuse l dC dI cI cL cB K h_t h_t_tape h_t_draft H.size t_length t_faultKind t_faultPlace t_centreTold t_start t_next t_kind t_value (3 : Int32) t_faultKind_22 t_faultPlace_23 hq_24) (cwV 1 hts gv_X8_74 rfl rfl rfl hdV_X8_refuse ⟨Nat.le_trans (Nat.le_of_ble_eq_true rfl) hF, Nat.le_trans (Nat.le_of_ble_eq_true rfl) hLo⟩) (cPreV hK hP hD hT [0] rfl rfl (ci := 8) (q0 := 0) rfl rfl) rfl rfl hl.1 rfl (lv_room (Nat.le_of_ble_eq_true rfl)) dX8_readCentre_9 ⟨Nat.zero_le _, Nat.zero_le _⟩) hP hD hS hA [0] [1, 2] [2, 0, 1] rfl rfl rfl rfl rfl rfl (fun H locs hP hD hS => ?_)
    obtain ⟨rfl, rfl, rfl, rfl, rfl, rfl, rfl, rfl, rfl⟩ := o9 hf
    exact W.vret hx hb hr (fun t ht hW => ⟨⟨(), rfl, trivial, by rw [ht]; exact hP, hD⟩, hS.F ht⟩) hS.2.2 dX8_readCentre_12
theorem dX8_skip_0 : decode cX8_skip 0 = .ok (.aload_n 0, 1) := by decide +kernel
theorem dX8_skip_1 : decode cX8_skip 1 = .ok (.getfield 45, 3) := by decide +kernel
theorem dX8_skip_4 : decode cX8_skip 4 = .ok (.iload_n 1, 1) := by decide +kernel
theorem dX8_skip_5 : decode cX8_skip 5 = .ok (.if_icmp .eq 8, 3) := by decide +kernel
theorem dX8_skip_8 : decode cX8_skip 8 = .ok (.aload_n 0, 1) := by decide +kernel
theorem dX8_skip_9 : decode cX8_skip 9 = .ok (.iconst 1, 1) := by decide +kernel
theorem dX8_skip_10 : decode cX8_skip 10 = .ok (.invokevirtual 74, 3) := by decide +kernel
theorem dX8_skip_13 : decode cX8_skip 13 = .ok (.aload_n 0, 1) := by decide +kernel
theorem dX8_skip_14 : decode cX8_skip 14 = .ok (.getfield 36, 3) := by decide +kernel
theorem dX8_skip_17 : decode cX8_skip 17 = .ok (.ifCond .ne 7, 3) := by decide +kernel
theorem dX8_skip_20 : decode cX8_skip 20 = .ok (.aload_n 0, 1) := by decide +kernel
theorem dX8_skip_21 : decode cX8_skip 21 = .ok (.invokevirtual 42, 3) := by decide +kernel
theorem dX8_skip_24 : decode cX8_skip 24 = .ok (.return_, 1) := by decide +kernel
set_option maxRecDepth 100000 in
set_option maxHeartbeats 4000000 in
theorem mtX8_skip (l : Launch) (dC : Nat → ClassId) (dI : Nat → Nat → Nat) (cI cL cB : ClassId) (K : Nat) (h_t h_t_tape h_t_draft : Nat) (sz : Nat) (t_length : Int32) (t_faultKind : Int32) (t_faultPlace : Int32) (t_centreTold : Int32) (t_start : Int32) (t_next : Int32) (t_kind : Int32) (t_value : Int32) (t_tape : Nat → Int32) (a1 : Int32) (o_t_faultKind : Int32) (o_t_faultPlace : Int32) (o_t_start : Int32) (o_t_next : Int32) (o_t_kind : Int32) (o_t_value : Int32) (hf : fX8_skip K t_length t_faultKind t_faultPlace t_start t_next t_kind t_value t_tape a1 = some (o_t_faultKind, o_t_faultPlace, o_t_start, o_t_next, o_t_kind, o_t_value)) : Met l yX8_skip [Cond.code yX8_skip cX8_skip 2 none] ({ frames := 2, cells := 0, slots := 0, locals := 40 }) (va_Pc [.ref h_t, .int a1] (cPre dC dI cI cL cB sz [(h_t, .inr (8, [.ref h_t_tape, .ref h_t_draft, .int t_length, .int t_faultKind, .int t_faultPlace, .int t_centreTold, .int t_start, .int t_next, .int t_kind, .int t_value])), (h_t_tape, .inl (cB, 600, .inl t_tape))])) (cQv dC dI (va_A [(h_t, .inr (8, [.ref h_t_tape, .ref h_t_draft, .int t_length, .int t_faultKind, .int t_faultPlace, .int t_centreTold, .int t_start, .int t_next, .int t_kind, .int t_value])), (h_t_tape, .inl (cB, 600, .inl t_tape))] sz) [(h_t, .inr (8, [.ref h_t_tape, .ref h_t_draft, .int t_length, .int o_t_faultKind, .int o_t_faultPlace, .int t_centreTold, .int o_t_start, .int o_t_next, .int o_t_kind, .int o_t_value])), (h_t_tape, .inl (cB, 600, .inl t_tape))]) 0 0 (va_A [(h_t, .inr (8, [.ref h_t_tape, .ref h_t_draft, .int t_length, .int t_faultKind, .int t_faultPlace, .int t_centreTold, .int t_start, .int t_next, .int t_kind, .int t_value])), (h_t_tape, .inl (cB, 600, .inl t_tape))] sz) := by
  refine Met.ofW (cc := cX8_skip) (maxL := 2) (ret := none) (by decide) rfl ?_
  intro p e s m args below meth c s₁ B hml hv
  obtain ⟨rfl, hsz, hP, hK, hD0, hT⟩ := hv
  have hx := B.exec
  have hb := B.bytes
  have hr := B.returns
  have hown : s.vm.findClass RX8 = some m.cls := findClass_of_methodNamed B.named
  have hlocks := B.notSynchronized
  have hts := TB.use hT ([.ref h_t, .int a1] : List Value).toArray
  subst hsz
  have hD := hD0.self (sz := s.heap.size)
  generalize hAe : va_A [(h_t, .inr (8, [.ref h_t_tape, .ref h_t_draft, .int t_length, .int t_faultKind, .int t_faultPlace, .int t_centreTold, .int t_start, .int t_next, .int t_kind, .int t_value])), (h_t_tape, .inl (cB, 600, .inl t_tape))] s.heap.size = A at hD ⊢
  have hA : ∀ q : Nat, s.heap.size ≤ q → A q := fun q h => by rw [← hAe]; exact Or.inr h
  clear hAe hD0
  have hl := lv_entry ([.ref h_t, .int a1]) (n := 2) (Nat.le_of_ble_eq_true rfl)
  rw [lg_entry_eq]
  generalize (lg_sl ([.ref h_t, .int a1]) ++ List.replicate (2 - (lg_sl ([.ref h_t, .int a1])).length) Slot.unset).toArray = ls at hl ⊢
  have hl : lv_has ls 2 [(0, .ref h_t), (1, .int a1)] := hl
  have hF : 2 ≤ (headSpec [Cond.code yX8_skip cX8_skip 2 none] ({ frames := 2, cells := 0, slots := 0, locals := 40 })).room.frames := Nat.le_refl _
  have hLo : 40 ≤ (headSpec [Cond.code yX8_skip cX8_skip 2 none] ({ frames := 2, cells := 0, slots := 0, locals := 40 })).room.locals := Nat.le_refl _
  have C0 : Sx p (headSpec [Cond.code yX8_skip cX8_skip 2 none] ({ frames := 2, cells := 0, slots := 0, locals := 40 })).room s m ([.ref h_t, .int a1] : List Value).toArray c cX8_skip 2 RX8 A dC dI cI cL cB 2 40 := ⟨hx, hb, hml, hown, hts, hK, hT, hA, hF, hLo⟩
  refine startH (A := A) hP (fun H locs hP hS => ?_)
  rw [fX8_skip] at hf
  refine lv_aload_n hx hb dX8_skip_0 rfl (lv_at hl 0 rfl) ?_
  refine va_get (D := (dC, dI)) (ci := 8) (v := .int t_kind) (C := RX8) (T := TX8) (N := 10) hx hb hts in_X8 hown hK hP 0 rfl rfl 8 (Nat.le_of_ble_eq_true rfl) (hts _ qf_X8_45) (fun _ h9 => h9) rfl dX8_skip_1 ?_
  refine lv_iload_n hx hb dX8_skip_4 rfl (lv_at hl 1 rfl) ?_
  obtain ⟨k_3, ek_3, hf⟩ := jn_out hf
  have J_4 : ∀ (t_faultKind_1 : Int32) (t_faultPlace_2 : Int32) (H : Heap) (locs : List Loc) (ls : Array Slot), va_P (dC, dI) vwCl [(h_t, .inr (8, [.ref h_t_tape, .ref h_t_draft, .int t_length, .int t_faultKind_1, .int t_faultPlace_2, .int t_centreTold, .int t_start, .int t_next, .int t_kind, .int t_value])), (h_t_tape, .inl (cB, 600, .inl t_tape))] H → va_D A [(h_t, .inr (8, [.ref h_t_tape, .ref h_t_draft, .int t_length, .int t_faultKind_1, .int t_faultPlace_2, .int t_centreTold, .int t_start, .int t_next, .int t_kind, .int t_value])), (h_t_tape, .inl (cB, 600, .inl t_tape))] → va_S A s.heap H locs → lv_has ls 2 [(0, .ref h_t)] → k_3 t_faultKind_1 t_faultPlace_2 = some (o_t_faultKind, o_t_faultPlace, o_t_start, o_t_next, o_t_kind, o_t_value) → W p l e (headSpec [Cond.code yX8_skip cX8_skip 2 none] ({ frames := 2, cells := 0, slots := 0, locals := 40 })).room s m ([.ref h_t, .int a1] : List Value).toArray below meth c H locs 0 0 (MQ below (cQv dC dI A [(h_t, .inr (8, [.ref h_t_tape, .ref h_t_draft, .int t_length, .int o_t_faultKind, .int o_t_faultPlace, .int t_centreTold, .int o_t_start, .int o_t_next, .int o_t_kind, .int o_t_value])), (h_t_tape, .inl (cB, 600, .inl t_tape))]) ([.ref h_t, .int a1] : List Value).toArray s 0 0 A) (F0 m 13 ls []) := by
    intro t_faultKind_1 t_faultPlace_2 H locs ls hP hD hS hl hf
    rw [ek_3] at hf
    try dsimp only at hf
    refine lv_aload_n hx hb dX8_skip_13 rfl (lv_at hl 0 rfl) ?_
    refine va_get (D := (dC, dI)) (ci := 8) (v := .int t_faultKind_1) (C := RX8) (T := TX8) (N := 10) hx hb hts in_X8 hown hK hP 0 rfl rfl 3 (Nat.le_of_ble_eq_true rfl) (hts _ qf_X8_36) (fun _ h9 => h9) rfl dX8_skip_14 ?_
    refine lv_if_ne (tgt := 24) hx hb dX8_skip_17 (by decide) (fun hc => ?_) (fun hc => ?_)
    · replace hf := it_f (hc) hf
      obtain ⟨rfl, rfl, rfl, rfl, rfl, rfl⟩ := o6 hf
      exact W.vret hx hb hr (fun t ht hW => ⟨⟨(), rfl, trivial, by rw [ht]; exact hP, hD⟩, hS.F ht⟩) hS.2.2 dX8_skip_24
    · replace hf := it_t (hc) hf
      refine lv_aload_n hx hb dX8_skip_20 rfl (lv_at hl 0 rfl) ?_
      obtain ⟨t_start_5, t_next_6, t_kind_7, t_value_8, hq_9, hf⟩ := b4_some hf
      refine xcv (wr := []) (w2 := [(h_t, .inr (8, [.ref h_t_tape, .ref h_t_draft, .int t_length, .int t_faultKind_1, .int t_faultPlace_2, .int t_centreTold, .int t_start_5, .int t_next_6, .int t_kind_7, .int t_value_8])), (h_t_tape, .inl (cB, 600, .inl t_tape))]) (va_runV (As := []) (rest := []) ⟨hx, hb, hml, hown, hts⟩ (mtX8_advance l dC dI cI cL cB K h_t h_t_tape h_t_draft H.size t_length t_faultKind_1 t_faultPlace_2 t_centreTold t_start t_next t_kind t_value t_tape t_start_5 t_next_6 t_kind_7 t_value_8 hq_9) (cwV 0 hts gv_X8_42 rfl rfl rfl hdV_X8_advance ⟨Nat.le_trans (Nat.le_of_ble_eq_true rfl) hF, Nat.le_trans (Nat.le_of_ble_eq_true rfl) hLo⟩) (cPreV hK hP hD hT [0, 1] rfl rfl (ci := 8) (q0 := 0) rfl rfl) rfl rfl hl.1 rfl (lv_room (Nat.le_of_ble_eq_true rfl)) dX8_skip_21 ⟨Nat.zero_le _, Nat.zero_le _⟩) hP hD hS hA [0, 1] [] [0, 1] rfl rfl rfl rfl rfl rfl (fun H locs hP hD hS => ?_)
      obtain ⟨rfl, rfl, rfl, rfl, rfl, rfl⟩ := o6 hf
      exact W.vret hx hb hr (fun t ht hW => ⟨⟨(), rfl, trivial, by rw [ht]; exact hP, hD⟩, hS.F ht⟩) hS.2.2 dX8_skip_24
  refine lv_icmp_eq (tgt := 13) hx hb dX8_skip_5 (by decide) (fun hc => ?_) (fun hc => ?_)
  · replace hf := it_t (hc) hf
    exact J_4 t_faultKind t_faultPlace H locs ls hP hD hS (lv_sub hl [0] rfl) hf
  · replace hf := it_f (hc) hf
    refine lv_aload_n hx hb dX8_skip_8 rfl (lv_at hl 0 rfl) ?_
    refine lv_iconst (v := (1 : Int32)) hx hb dX8_skip_9 (by decide) ?_
    obtain ⟨t_faultKind_10, t_faultPlace_11, hq_12, hf⟩ := b2_some hf
    refine xcv (wr := [(h_t_tape, .inl (cB, 600, .inl t_tape))]) (w2 := [(h_t, .inr (8, [.ref h_t_tape, .ref h_t_draft, .int t_length, .int t_faultKind_10, .int t_faultPlace_11, .int t_centreTold, .int t_start, .int t_next, .int t_kind, .int t_value])), (h_t_tape, .inl (cB, 600, .inl t_tape))]) (va_runV (As := [.int (1 : Int32)]) (rest := []) ⟨hx, hb, hml, hown, hts⟩ (mtX8_refuse l dC dI cI cL cB K h_t h_t_tape h_t_draft H.size t_length t_faultKind t_faultPlace t_centreTold t_start t_next t_kind t_value (1 : Int32) t_faultKind_10 t_faultPlace_11 hq_12) (cwV 1 hts gv_X8_74 rfl rfl rfl hdV_X8_refuse ⟨Nat.le_trans (Nat.le_of_ble_eq_true rfl) hF, Nat.le_trans (Nat.le_of_ble_eq_true rfl) hLo⟩) (cPreV hK hP hD hT [0] rfl rfl (ci := 8) (q0 := 0) rfl rfl) rfl rfl hl.1 rfl (lv_room (Nat.le_of_ble_eq_true rfl)) dX8_skip_10 ⟨Nat.zero_le _, Nat.zero_le _⟩) hP hD hS hA [0] [1] [1, 0] rfl rfl rfl rfl rfl rfl (fun H locs hP hD hS => ?_)
    exact J_4 t_faultKind_10 t_faultPlace_11 H locs ls hP hD hS (lv_sub hl [0] rfl) hf
theorem dX0_copyFrom_0 : decode cX0_copyFrom 0 = .ok (.iconst 0, 1) := by decide +kernel
theorem dX0_copyFrom_1 : decode cX0_copyFrom 1 = .ok (.istore_n 2, 1) := by decide +kernel
theorem dX0_copyFrom_2 : decode cX0_copyFrom 2 = .ok (.iload_n 2, 1) := by decide +kernel
theorem dX0_copyFrom_3 : decode cX0_copyFrom 3 = .ok (.aload_n 1, 1) := by decide +kernel
theorem dX0_copyFrom_4 : decode cX0_copyFrom 4 = .ok (.getfield 24, 3) := by decide +kernel
theorem dX0_copyFrom_7 : decode cX0_copyFrom 7 = .ok (.if_icmp .ge 57, 3) := by decide +kernel
theorem dX0_copyFrom_10 : decode cX0_copyFrom 10 = .ok (.aload_n 0, 1) := by decide +kernel
theorem dX0_copyFrom_11 : decode cX0_copyFrom 11 = .ok (.getfield 9, 3) := by decide +kernel
theorem dX0_copyFrom_14 : decode cX0_copyFrom 14 = .ok (.iload_n 2, 1) := by decide +kernel
theorem dX0_copyFrom_15 : decode cX0_copyFrom 15 = .ok (.aload_n 1, 1) := by decide +kernel
theorem dX0_copyFrom_16 : decode cX0_copyFrom 16 = .ok (.getfield 9, 3) := by decide +kernel
theorem dX0_copyFrom_19 : decode cX0_copyFrom 19 = .ok (.iload_n 2, 1) := by decide +kernel
theorem dX0_copyFrom_20 : decode cX0_copyFrom 20 = .ok (.iaload, 1) := by decide +kernel
theorem dX0_copyFrom_21 : decode cX0_copyFrom 21 = .ok (.iastore, 1) := by decide +kernel
theorem dX0_copyFrom_22 : decode cX0_copyFrom 22 = .ok (.aload_n 0, 1) := by decide +kernel
theorem dX0_copyFrom_23 : decode cX0_copyFrom 23 = .ok (.getfield 15, 3) := by decide +kernel
theorem dX0_copyFrom_26 : decode cX0_copyFrom 26 = .ok (.iload_n 2, 1) := by decide +kernel
theorem dX0_copyFrom_27 : decode cX0_copyFrom 27 = .ok (.aload_n 1, 1) := by decide +kernel
theorem dX0_copyFrom_28 : decode cX0_copyFrom 28 = .ok (.getfield 15, 3) := by decide +kernel
theorem dX0_copyFrom_31 : decode cX0_copyFrom 31 = .ok (.iload_n 2, 1) := by decide +kernel
theorem dX0_copyFrom_32 : decode cX0_copyFrom 32 = .ok (.iaload, 1) := by decide +kernel
theorem dX0_copyFrom_33 : decode cX0_copyFrom 33 = .ok (.iastore, 1) := by decide +kernel
theorem dX0_copyFrom_34 : decode cX0_copyFrom 34 = .ok (.aload_n 0, 1) := by decide +kernel
theorem dX0_copyFrom_35 : decode cX0_copyFrom 35 = .ok (.getfield 18, 3) := by decide +kernel
theorem dX0_copyFrom_38 : decode cX0_copyFrom 38 = .ok (.iload_n 2, 1) := by decide +kernel
theorem dX0_copyFrom_39 : decode cX0_copyFrom 39 = .ok (.aload_n 1, 1) := by decide +kernel
theorem dX0_copyFrom_40 : decode cX0_copyFrom 40 = .ok (.getfield 18, 3) := by decide +kernel
theorem dX0_copyFrom_43 : decode cX0_copyFrom 43 = .ok (.iload_n 2, 1) := by decide +kernel
theorem dX0_copyFrom_44 : decode cX0_copyFrom 44 = .ok (.iaload, 1) := by decide +kernel
theorem dX0_copyFrom_45 : decode cX0_copyFrom 45 = .ok (.iastore, 1) := by decide +kernel
theorem dX0_copyFrom_46 : decode cX0_copyFrom 46 = .ok (.aload_n 0, 1) := by decide +kernel
theorem dX0_copyFrom_47 : decode cX0_copyFrom 47 = .ok (.getfield 21, 3) := by decide +kernel
theorem dX0_copyFrom_50 : decode cX0_copyFrom 50 = .ok (.iload_n 2, 1) := by decide +kernel
theorem dX0_copyFrom_51 : decode cX0_copyFrom 51 = .ok (.aload_n 1, 1) := by decide +kernel
theorem dX0_copyFrom_52 : decode cX0_copyFrom 52 = .ok (.getfield 21, 3) := by decide +kernel
theorem dX0_copyFrom_55 : decode cX0_copyFrom 55 = .ok (.iload_n 2, 1) := by decide +kernel
theorem dX0_copyFrom_56 : decode cX0_copyFrom 56 = .ok (.iaload, 1) := by decide +kernel
theorem dX0_copyFrom_57 : decode cX0_copyFrom 57 = .ok (.iastore, 1) := by decide +kernel
theorem dX0_copyFrom_58 : decode cX0_copyFrom 58 = .ok (.iinc 2 1, 3) := by decide +kernel
theorem dX0_copyFrom_61 : decode cX0_copyFrom 61 = .ok (.goto (-59), 3) := by decide +kernel
theorem dX0_copyFrom_64 : decode cX0_copyFrom 64 = .ok (.aload_n 0, 1) := by decide +kernel
theorem dX0_copyFrom_65 : decode cX0_copyFrom 65 = .ok (.aload_n 1, 1) := by decide +kernel
theorem dX0_copyFrom_66 : decode cX0_copyFrom 66 = .ok (.getfield 24, 3) := by decide +kernel
theorem dX0_copyFrom_69 : decode cX0_copyFrom 69 = .ok (.putfield 24, 3) := by decide +kernel
theorem dX0_copyFrom_72 : decode cX0_copyFrom 72 = .ok (.aload_n 0, 1) := by decide +kernel
theorem dX0_copyFrom_73 : decode cX0_copyFrom 73 = .ok (.aload_n 1, 1) := by decide +kernel
theorem dX0_copyFrom_74 : decode cX0_copyFrom 74 = .ok (.getfield 38, 3) := by decide +kernel
theorem dX0_copyFrom_77 : decode cX0_copyFrom 77 = .ok (.putfield 38, 3) := by decide +kernel
theorem dX0_copyFrom_80 : decode cX0_copyFrom 80 = .ok (.aload_n 0, 1) := by decide +kernel
theorem dX0_copyFrom_81 : decode cX0_copyFrom 81 = .ok (.aload_n 1, 1) := by decide +kernel
theorem dX0_copyFrom_82 : decode cX0_copyFrom 82 = .ok (.getfield 41, 3) := by decide +kernel
theorem dX0_copyFrom_85 : decode cX0_copyFrom 85 = .ok (.putfield 41, 3) := by decide +kernel
theorem dX0_copyFrom_88 : decode cX0_copyFrom 88 = .ok (.return_, 1) := by decide +kernel
set_option maxRecDepth 100000 in
set_option maxHeartbeats 4000000 in
theorem wX0_copyFrom_L2 {p : Program} {l : Launch} {e : Env} {R : Room} {s : State} {m : MethodId} {args : Array Value} {below : List Frame} {meth : Method} {c : Code} {Q : State → Prop} {A : Nat → Prop} {dC : Nat → ClassId} {dI : Nat → Nat → Nat} {cI cL cB : ClassId} {K : Nat} (C0 : Sx p R s m args c cX0_copyFrom 3 RX0 A dC dI cI cL cB 0 0) (h_t h_t_x h_t_y h_t_colour h_t_load h_p1 h_p1_x h_p1_y h_p1_colour h_p1_load : Nat) (t_size : Int32) (t_centreX : Int32) (t_centreY : Int32) (p1_size : Int32) (p1_centreX : Int32) (p1_centreY : Int32) (p1_x : Nat → Int32) (p1_y : Nat → Int32) (p1_colour : Nat → Int32) (p1_load : Nat → Int32) : ∀ (n : Nat) (l2 : Int32) (t_x : Nat → Int32) (t_y : Nat → Int32) (t_colour : Nat → Int32) (t_load : Nat → Int32) (x_t_x : Nat → Int32) (x_t_y : Nat → Int32) (x_t_colour : Nat → Int32) (x_t_load : Nat → Int32) (H : Heap) (locs : List Loc) (ls : Array Slot), va_P (dC, dI) vwCl [(h_t, .inr (0, [.ref h_t_x, .ref h_t_y, .ref h_t_colour, .ref h_t_load, .int t_size, .int t_centreX, .int t_centreY])), (h_t_x, .inl (cI, 24, .inl t_x)), (h_t_y, .inl (cI, 24, .inl t_y)), (h_t_colour, .inl (cI, 24, .inl t_colour)), (h_t_load, .inl (cI, 24, .inl t_load)), (h_p1, .inr (0, [.ref h_p1_x, .ref h_p1_y, .ref h_p1_colour, .ref h_p1_load, .int p1_size, .int p1_centreX, .int p1_centreY])), (h_p1_x, .inl (cI, 24, .inl p1_x)), (h_p1_y, .inl (cI, 24, .inl p1_y)), (h_p1_colour, .inl (cI, 24, .inl p1_colour)), (h_p1_load, .inl (cI, 24, .inl p1_load))] H → va_D A [(h_t, .inr (0, [.ref h_t_x, .ref h_t_y, .ref h_t_colour, .ref h_t_load, .int t_size, .int t_centreX, .int t_centreY])), (h_t_x, .inl (cI, 24, .inl t_x)), (h_t_y, .inl (cI, 24, .inl t_y)), (h_t_colour, .inl (cI, 24, .inl t_colour)), (h_t_load, .inl (cI, 24, .inl t_load)), (h_p1, .inr (0, [.ref h_p1_x, .ref h_p1_y, .ref h_p1_colour, .ref h_p1_load, .int p1_size, .int p1_centreX, .int p1_centreY])), (h_p1_x, .inl (cI, 24, .inl p1_x)), (h_p1_y, .inl (cI, 24, .inl p1_y)), (h_p1_colour, .inl (cI, 24, .inl p1_colour)), (h_p1_load, .inl (cI, 24, .inl p1_load))] → va_S A s.heap H locs → lv_has ls 3 [(0, .ref h_t), (1, .ref h_p1), (2, .int l2)] → fX0_copyFrom_L2 K p1_size p1_x p1_y p1_colour p1_load n l2 t_x t_y t_colour t_load = some (x_t_x, x_t_y, x_t_colour, x_t_load) → (∀ (H : Heap) (locs : List Loc) (ls : Array Slot), va_P (dC, dI) vwCl [(h_t, .inr (0, [.ref h_t_x, .ref h_t_y, .ref h_t_colour, .ref h_t_load, .int t_size, .int t_centreX, .int t_centreY])), (h_t_x, .inl (cI, 24, .inl x_t_x)), (h_t_y, .inl (cI, 24, .inl x_t_y)), (h_t_colour, .inl (cI, 24, .inl x_t_colour)), (h_t_load, .inl (cI, 24, .inl x_t_load)), (h_p1, .inr (0, [.ref h_p1_x, .ref h_p1_y, .ref h_p1_colour, .ref h_p1_load, .int p1_size, .int p1_centreX, .int p1_centreY])), (h_p1_x, .inl (cI, 24, .inl p1_x)), (h_p1_y, .inl (cI, 24, .inl p1_y)), (h_p1_colour, .inl (cI, 24, .inl p1_colour)), (h_p1_load, .inl (cI, 24, .inl p1_load))] H → va_D A [(h_t, .inr (0, [.ref h_t_x, .ref h_t_y, .ref h_t_colour, .ref h_t_load, .int t_size, .int t_centreX, .int t_centreY])), (h_t_x, .inl (cI, 24, .inl x_t_x)), (h_t_y, .inl (cI, 24, .inl x_t_y)), (h_t_colour, .inl (cI, 24, .inl x_t_colour)), (h_t_load, .inl (cI, 24, .inl x_t_load)), (h_p1, .inr (0, [.ref h_p1_x, .ref h_p1_y, .ref h_p1_colour, .ref h_p1_load, .int p1_size, .int p1_centreX, .int p1_centreY])), (h_p1_x, .inl (cI, 24, .inl p1_x)), (h_p1_y, .inl (cI, 24, .inl p1_y)), (h_p1_colour, .inl (cI, 24, .inl p1_colour)), (h_p1_load, .inl (cI, 24, .inl p1_load))] → va_S A s.heap H locs → lv_has ls 3 [(0, .ref h_t), (1, .ref h_p1)] → W p l e R s m args below meth c H locs 0 0 Q (F0 m 64 ls [])) → W p l e R s m args below meth c H locs 0 0 Q (F0 m 2 ls []) := by
  obtain ⟨hx, hb, hml, hown, hts, hK, hT, hA, hF, hLo⟩ := id C0
  intro n
  induction n with
  | zero =>
    intro l2 t_x t_y t_colour t_load x_t_x x_t_y x_t_colour x_t_load H locs ls hP hD hS hl hf
    rw [fX0_copyFrom_L2] at hf
    cases hf
  | succ n ih =>
    intro l2 t_x t_y t_colour t_load x_t_x x_t_y x_t_colour x_t_load H locs ls hP hD hS hl hf hk
    rw [fX0_copyFrom_L2] at hf
    refine lv_iload_n hx hb dX0_copyFrom_2 rfl (lv_at hl 2 rfl) ?_
    refine lv_aload_n hx hb dX0_copyFrom_3 rfl (lv_at hl 1 rfl) ?_
    refine va_get (D := (dC, dI)) (ci := 0) (v := .int p1_size) (C := RX0) (T := TX0) (N := 7) hx hb hts in_X0 hown hK hP 5 rfl rfl 4 (Nat.le_of_ble_eq_true rfl) (hts _ qf_X0_24) (fun _ h9 => h9) rfl dX0_copyFrom_4 ?_
    refine lv_icmp_ge (tgt := 64) hx hb dX0_copyFrom_7 (by decide) (fun hc => ?_) (fun hc => ?_)
    · replace hf := it_t (hc) hf
      obtain ⟨rfl, rfl, rfl, rfl⟩ := o4 hf
      exact hk H locs ls hP hD hS (lv_sub hl [0, 1] rfl)
    · replace hf := it_f (hc) hf
      refine lv_aload_n hx hb dX0_copyFrom_10 rfl (lv_at hl 0 rfl) ?_
      refine va_get (D := (dC, dI)) (ci := 0) (v := .ref h_t_x) (C := RX0) (T := TX0) (N := 7) hx hb hts in_X0 hown hK hP 0 rfl rfl 0 (Nat.le_of_ble_eq_true rfl) (hts _ qf_X0_9) (fun _ h9 => h9) rfl dX0_copyFrom_11 ?_
      refine lv_iload_n hx hb dX0_copyFrom_14 rfl (lv_at hl 2 rfl) ?_
      refine lv_aload_n hx hb dX0_copyFrom_15 rfl (lv_at hl 1 rfl) ?_
      refine va_get (D := (dC, dI)) (ci := 0) (v := .ref h_p1_x) (C := RX0) (T := TX0) (N := 7) hx hb hts in_X0 hown hK hP 5 rfl rfl 0 (Nat.le_of_ble_eq_true rfl) (hts _ qf_X0_9) (fun _ h9 => h9) rfl dX0_copyFrom_16 ?_
      refine lv_iload_n hx hb dX0_copyFrom_19 rfl (lv_at hl 2 rfl) ?_
      obtain ⟨hg_1, hf⟩ := gd_some hf
      refine va_iald hx hb hK hP 6 0 rfl rfl (inb_in hg_1) dX0_copyFrom_20 ?_
      obtain ⟨hg_2, hf⟩ := gd_some hf
      obtain ⟨t_x_3, et_x_3⟩ : ∃ y : Nat → Int32, y = upd t_x l2.toNatClampNeg (p1_x l2.toNatClampNeg) := ⟨_, rfl⟩
      replace hf := xl_at hf et_x_3
      refine xiast (w2 := [(h_t, .inr (0, [.ref h_t_x, .ref h_t_y, .ref h_t_colour, .ref h_t_load, .int t_size, .int t_centreX, .int t_centreY])), (h_t_x, .inl (cI, 24, .inl t_x_3)), (h_t_y, .inl (cI, 24, .inl t_y)), (h_t_colour, .inl (cI, 24, .inl t_colour)), (h_t_load, .inl (cI, 24, .inl t_load)), (h_p1, .inr (0, [.ref h_p1_x, .ref h_p1_y, .ref h_p1_colour, .ref h_p1_load, .int p1_size, .int p1_centreX, .int p1_centreY])), (h_p1_x, .inl (cI, 24, .inl p1_x)), (h_p1_y, .inl (cI, 24, .inl p1_y)), (h_p1_colour, .inl (cI, 24, .inl p1_colour)), (h_p1_load, .inl (cI, 24, .inl p1_load))]) hx hb hK hP hD hS 1 0 rfl rfl (inb_in hg_2) et_x_3 rfl dX0_copyFrom_21 (fun H locs hP hD hS => ?_)
      refine lv_aload_n hx hb dX0_copyFrom_22 rfl (lv_at hl 0 rfl) ?_
      refine va_get (D := (dC, dI)) (ci := 0) (v := .ref h_t_y) (C := RX0) (T := TX0) (N := 7) hx hb hts in_X0 hown hK hP 0 rfl rfl 1 (Nat.le_of_ble_eq_true rfl) (hts _ qf_X0_15) (fun _ h9 => h9) rfl dX0_copyFrom_23 ?_
      refine lv_iload_n hx hb dX0_copyFrom_26 rfl (lv_at hl 2 rfl) ?_
      refine lv_aload_n hx hb dX0_copyFrom_27 rfl (lv_at hl 1 rfl) ?_
      refine va_get (D := (dC, dI)) (ci := 0) (v := .ref h_p1_y) (C := RX0) (T := TX0) (N := 7) hx hb hts in_X0 hown hK hP 5 rfl rfl 1 (Nat.le_of_ble_eq_true rfl) (hts _ qf_X0_15) (fun _ h9 => h9) rfl dX0_copyFrom_28 ?_
      refine lv_iload_n hx hb dX0_copyFrom_31 rfl (lv_at hl 2 rfl) ?_
      obtain ⟨hg_4, hf⟩ := gd_some hf
      refine va_iald hx hb hK hP 7 0 rfl rfl (inb_in hg_4) dX0_copyFrom_32 ?_
      obtain ⟨hg_5, hf⟩ := gd_some hf
      obtain ⟨t_y_6, et_y_6⟩ : ∃ y : Nat → Int32, y = upd t_y l2.toNatClampNeg (p1_y l2.toNatClampNeg) := ⟨_, rfl⟩
      replace hf := xl_at hf et_y_6
      refine xiast (w2 := [(h_t, .inr (0, [.ref h_t_x, .ref h_t_y, .ref h_t_colour, .ref h_t_load, .int t_size, .int t_centreX, .int t_centreY])), (h_t_x, .inl (cI, 24, .inl t_x_3)), (h_t_y, .inl (cI, 24, .inl t_y_6)), (h_t_colour, .inl (cI, 24, .inl t_colour)), (h_t_load, .inl (cI, 24, .inl t_load)), (h_p1, .inr (0, [.ref h_p1_x, .ref h_p1_y, .ref h_p1_colour, .ref h_p1_load, .int p1_size, .int p1_centreX, .int p1_centreY])), (h_p1_x, .inl (cI, 24, .inl p1_x)), (h_p1_y, .inl (cI, 24, .inl p1_y)), (h_p1_colour, .inl (cI, 24, .inl p1_colour)), (h_p1_load, .inl (cI, 24, .inl p1_load))]) hx hb hK hP hD hS 2 0 rfl rfl (inb_in hg_5) et_y_6 rfl dX0_copyFrom_33 (fun H locs hP hD hS => ?_)
      refine lv_aload_n hx hb dX0_copyFrom_34 rfl (lv_at hl 0 rfl) ?_
      refine va_get (D := (dC, dI)) (ci := 0) (v := .ref h_t_colour) (C := RX0) (T := TX0) (N := 7) hx hb hts in_X0 hown hK hP 0 rfl rfl 2 (Nat.le_of_ble_eq_true rfl) (hts _ qf_X0_18) (fun _ h9 => h9) rfl dX0_copyFrom_35 ?_
      refine lv_iload_n hx hb dX0_copyFrom_38 rfl (lv_at hl 2 rfl) ?_
      refine lv_aload_n hx hb dX0_copyFrom_39 rfl (lv_at hl 1 rfl) ?_
      refine va_get (D := (dC, dI)) (ci := 0) (v := .ref h_p1_colour) (C := RX0) (T := TX0) (N := 7) hx hb hts in_X0 hown hK hP 5 rfl rfl 2 (Nat.le_of_ble_eq_true rfl) (hts _ qf_X0_18) (fun _ h9 => h9) rfl dX0_copyFrom_40 ?_
      refine lv_iload_n hx hb dX0_copyFrom_43 rfl (lv_at hl 2 rfl) ?_
      obtain ⟨hg_7, hf⟩ := gd_some hf
      refine va_iald hx hb hK hP 8 0 rfl rfl (inb_in hg_7) dX0_copyFrom_44 ?_
      obtain ⟨hg_8, hf⟩ := gd_some hf
      obtain ⟨t_colour_9, et_colour_9⟩ : ∃ y : Nat → Int32, y = upd t_colour l2.toNatClampNeg (p1_colour l2.toNatClampNeg) := ⟨_, rfl⟩
      replace hf := xl_at hf et_colour_9
      refine xiast (w2 := [(h_t, .inr (0, [.ref h_t_x, .ref h_t_y, .ref h_t_colour, .ref h_t_load, .int t_size, .int t_centreX, .int t_centreY])), (h_t_x, .inl (cI, 24, .inl t_x_3)), (h_t_y, .inl (cI, 24, .inl t_y_6)), (h_t_colour, .inl (cI, 24, .inl t_colour_9)), (h_t_load, .inl (cI, 24, .inl t_load)), (h_p1, .inr (0, [.ref h_p1_x, .ref h_p1_y, .ref h_p1_colour, .ref h_p1_load, .int p1_size, .int p1_centreX, .int p1_centreY])), (h_p1_x, .inl (cI, 24, .inl p1_x)), (h_p1_y, .inl (cI, 24, .inl p1_y)), (h_p1_colour, .inl (cI, 24, .inl p1_colour)), (h_p1_load, .inl (cI, 24, .inl p1_load))]) hx hb hK hP hD hS 3 0 rfl rfl (inb_in hg_8) et_colour_9 rfl dX0_copyFrom_45 (fun H locs hP hD hS => ?_)
      refine lv_aload_n hx hb dX0_copyFrom_46 rfl (lv_at hl 0 rfl) ?_
      refine va_get (D := (dC, dI)) (ci := 0) (v := .ref h_t_load) (C := RX0) (T := TX0) (N := 7) hx hb hts in_X0 hown hK hP 0 rfl rfl 3 (Nat.le_of_ble_eq_true rfl) (hts _ qf_X0_21) (fun _ h9 => h9) rfl dX0_copyFrom_47 ?_
      refine lv_iload_n hx hb dX0_copyFrom_50 rfl (lv_at hl 2 rfl) ?_
      refine lv_aload_n hx hb dX0_copyFrom_51 rfl (lv_at hl 1 rfl) ?_
      refine va_get (D := (dC, dI)) (ci := 0) (v := .ref h_p1_load) (C := RX0) (T := TX0) (N := 7) hx hb hts in_X0 hown hK hP 5 rfl rfl 3 (Nat.le_of_ble_eq_true rfl) (hts _ qf_X0_21) (fun _ h9 => h9) rfl dX0_copyFrom_52 ?_
      refine lv_iload_n hx hb dX0_copyFrom_55 rfl (lv_at hl 2 rfl) ?_
      obtain ⟨hg_10, hf⟩ := gd_some hf
      refine va_iald hx hb hK hP 9 0 rfl rfl (inb_in hg_10) dX0_copyFrom_56 ?_
      obtain ⟨hg_11, hf⟩ := gd_some hf
      obtain ⟨t_load_12, et_load_12⟩ : ∃ y : Nat → Int32, y = upd t_load l2.toNatClampNeg (p1_load l2.toNatClampNeg) := ⟨_, rfl⟩
      replace hf := xl_at hf et_load_12
      refine xiast (w2 := [(h_t, .inr (0, [.ref h_t_x, .ref h_t_y, .ref h_t_colour, .ref h_t_load, .int t_size, .int t_centreX, .int t_centreY])), (h_t_x, .inl (cI, 24, .inl t_x_3)), (h_t_y, .inl (cI, 24, .inl t_y_6)), (h_t_colour, .inl (cI, 24, .inl t_colour_9)), (h_t_load, .inl (cI, 24, .inl t_load_12)), (h_p1, .inr (0, [.ref h_p1_x, .ref h_p1_y, .ref h_p1_colour, .ref h_p1_load, .int p1_size, .int p1_centreX, .int p1_centreY])), (h_p1_x, .inl (cI, 24, .inl p1_x)), (h_p1_y, .inl (cI, 24, .inl p1_y)), (h_p1_colour, .inl (cI, 24, .inl p1_colour)), (h_p1_load, .inl (cI, 24, .inl p1_load))]) hx hb hK hP hD hS 4 0 rfl rfl (inb_in hg_11) et_load_12 rfl dX0_copyFrom_57 (fun H locs hP hD hS => ?_)
      obtain ⟨l2_13, el2_13⟩ : ∃ y : Int32, y = l2 + (1 : Int32) := ⟨_, rfl⟩
      replace hf := xl_at hf el2_13
      refine lv_iinc (v := l2_13) (lv' := [(2, .int l2_13), (0, .ref h_t), (1, .ref h_p1)]) hx hb dX0_copyFrom_58 hl (k := 2) rfl (by rw [el2_13]; rfl) (Nat.le_of_ble_eq_true rfl) rfl (fun ls hl => ?_)
      refine lv_goto (tgt := 2) hx hb dX0_copyFrom_61 (by decide) ?_
      exact ih l2_13 t_x_3 t_y_6 t_colour_9 t_load_12 _ _ _ _ H locs ls hP hD hS (lv_sub hl [1, 2, 0] rfl) hf hk
set_option maxRecDepth 100000 in
set_option maxHeartbeats 4000000 in
theorem mtX0_copyFrom (l : Launch) (dC : Nat → ClassId) (dI : Nat → Nat → Nat) (cI cL cB : ClassId) (K : Nat) (h_t h_t_x h_t_y h_t_colour h_t_load h_p1 h_p1_x h_p1_y h_p1_colour h_p1_load : Nat) (sz : Nat) (t_size : Int32) (t_centreX : Int32) (t_centreY : Int32) (t_x : Nat → Int32) (t_y : Nat → Int32) (t_colour : Nat → Int32) (t_load : Nat → Int32) (p1_size : Int32) (p1_centreX : Int32) (p1_centreY : Int32) (p1_x : Nat → Int32) (p1_y : Nat → Int32) (p1_colour : Nat → Int32) (p1_load : Nat → Int32) (o_t_size : Int32) (o_t_centreX : Int32) (o_t_centreY : Int32) (o_t_x : Nat → Int32) (o_t_y : Nat → Int32) (o_t_colour : Nat → Int32) (o_t_load : Nat → Int32) (hf : fX0_copyFrom K t_size t_centreX t_centreY t_x t_y t_colour t_load p1_size p1_centreX p1_centreY p1_x p1_y p1_colour p1_load = some (o_t_size, o_t_centreX, o_t_centreY, o_t_x, o_t_y, o_t_colour, o_t_load)) : Met l yX0_copyFrom [Cond.code yX0_copyFrom cX0_copyFrom 3 none] ({ frames := 0, cells := 0, slots := 0, locals := 0 }) (va_Pc [.ref h_t, .ref h_p1] (cPre dC dI cI cL cB sz [(h_t, .inr (0, [.ref h_t_x, .ref h_t_y, .ref h_t_colour, .ref h_t_load, .int t_size, .int t_centreX, .int t_centreY])), (h_t_x, .inl (cI, 24, .inl t_x)), (h_t_y, .inl (cI, 24, .inl t_y)), (h_t_colour, .inl (cI, 24, .inl t_colour)), (h_t_load, .inl (cI, 24, .inl t_load)), (h_p1, .inr (0, [.ref h_p1_x, .ref h_p1_y, .ref h_p1_colour, .ref h_p1_load, .int p1_size, .int p1_centreX, .int p1_centreY])), (h_p1_x, .inl (cI, 24, .inl p1_x)), (h_p1_y, .inl (cI, 24, .inl p1_y)), (h_p1_colour, .inl (cI, 24, .inl p1_colour)), (h_p1_load, .inl (cI, 24, .inl p1_load))])) (cQv dC dI (va_A [(h_t, .inr (0, [.ref h_t_x, .ref h_t_y, .ref h_t_colour, .ref h_t_load, .int t_size, .int t_centreX, .int t_centreY])), (h_t_x, .inl (cI, 24, .inl t_x)), (h_t_y, .inl (cI, 24, .inl t_y)), (h_t_colour, .inl (cI, 24, .inl t_colour)), (h_t_load, .inl (cI, 24, .inl t_load)), (h_p1, .inr (0, [.ref h_p1_x, .ref h_p1_y, .ref h_p1_colour, .ref h_p1_load, .int p1_size, .int p1_centreX, .int p1_centreY])), (h_p1_x, .inl (cI, 24, .inl p1_x)), (h_p1_y, .inl (cI, 24, .inl p1_y)), (h_p1_colour, .inl (cI, 24, .inl p1_colour)), (h_p1_load, .inl (cI, 24, .inl p1_load))] sz) [(h_t, .inr (0, [.ref h_t_x, .ref h_t_y, .ref h_t_colour, .ref h_t_load, .int o_t_size, .int o_t_centreX, .int o_t_centreY])), (h_t_x, .inl (cI, 24, .inl o_t_x)), (h_t_y, .inl (cI, 24, .inl o_t_y)), (h_t_colour, .inl (cI, 24, .inl o_t_colour)), (h_t_load, .inl (cI, 24, .inl o_t_load)), (h_p1, .inr (0, [.ref h_p1_x, .ref h_p1_y, .ref h_p1_colour, .ref h_p1_load, .int p1_size, .int p1_centreX, .int p1_centreY])), (h_p1_x, .inl (cI, 24, .inl p1_x)), (h_p1_y, .inl (cI, 24, .inl p1_y)), (h_p1_colour, .inl (cI, 24, .inl p1_colour)), (h_p1_load, .inl (cI, 24, .inl p1_load))]) 0 0 (va_A [(h_t, .inr (0, [.ref h_t_x, .ref h_t_y, .ref h_t_colour, .ref h_t_load, .int t_size, .int t_centreX, .int t_centreY])), (h_t_x, .inl (cI, 24, .inl t_x)), (h_t_y, .inl (cI, 24, .inl t_y)), (h_t_colour, .inl (cI, 24, .inl t_colour)), (h_t_load, .inl (cI, 24, .inl t_load)), (h_p1, .inr (0, [.ref h_p1_x, .ref h_p1_y, .ref h_p1_colour, .ref h_p1_load, .int p1_size, .int p1_centreX, .int p1_centreY])), (h_p1_x, .inl (cI, 24, .inl p1_x)), (h_p1_y, .inl (cI, 24, .inl p1_y)), (h_p1_colour, .inl (cI, 24, .inl p1_colour)), (h_p1_load, .inl (cI, 24, .inl p1_load))] sz) := by
  refine Met.ofW (cc := cX0_copyFrom) (maxL := 3) (ret := none) (by decide) rfl ?_
  intro p e s m args below meth c s₁ B hml hv
  obtain ⟨rfl, hsz, hP, hK, hD0, hT⟩ := hv
  have hx := B.exec
  have hb := B.bytes
  have hr := B.returns
  have hown : s.vm.findClass RX0 = some m.cls := findClass_of_methodNamed B.named
  have hlocks := B.notSynchronized
  have hts := TB.use hT ([.ref h_t, .ref h_p1] : List Value).toArray
  subst hsz
  have hD := hD0.self (sz := s.heap.size)
  generalize hAe : va_A [(h_t, .inr (0, [.ref h_t_x, .ref h_t_y, .ref h_t_colour, .ref h_t_load, .int t_size, .int t_centreX, .int t_centreY])), (h_t_x, .inl (cI, 24, .inl t_x)), (h_t_y, .inl (cI, 24, .inl t_y)), (h_t_colour, .inl (cI, 24, .inl t_colour)), (h_t_load, .inl (cI, 24, .inl t_load)), (h_p1, .inr (0, [.ref h_p1_x, .ref h_p1_y, .ref h_p1_colour, .ref h_p1_load, .int p1_size, .int p1_centreX, .int p1_centreY])), (h_p1_x, .inl (cI, 24, .inl p1_x)), (h_p1_y, .inl (cI, 24, .inl p1_y)), (h_p1_colour, .inl (cI, 24, .inl p1_colour)), (h_p1_load, .inl (cI, 24, .inl p1_load))] s.heap.size = A at hD ⊢
  have hA : ∀ q : Nat, s.heap.size ≤ q → A q := fun q h => by rw [← hAe]; exact Or.inr h
  clear hAe hD0
  have hl := lv_entry ([.ref h_t, .ref h_p1]) (n := 3) (Nat.le_of_ble_eq_true rfl)
  rw [lg_entry_eq]
  generalize (lg_sl ([.ref h_t, .ref h_p1]) ++ List.replicate (3 - (lg_sl ([.ref h_t, .ref h_p1])).length) Slot.unset).toArray = ls at hl ⊢
  have hl : lv_has ls 3 [(0, .ref h_t), (1, .ref h_p1)] := hl
  have hF : 0 ≤ (headSpec [Cond.code yX0_copyFrom cX0_copyFrom 3 none] ({ frames := 0, cells := 0, slots := 0, locals := 0 })).room.frames := Nat.le_refl _
  have hLo : 0 ≤ (headSpec [Cond.code yX0_copyFrom cX0_copyFrom 3 none] ({ frames := 0, cells := 0, slots := 0, locals := 0 })).room.locals := Nat.le_refl _
  have C0 : Sx p (headSpec [Cond.code yX0_copyFrom cX0_copyFrom 3 none] ({ frames := 0, cells := 0, slots := 0, locals := 0 })).room s m ([.ref h_t, .ref h_p1] : List Value).toArray c cX0_copyFrom 3 RX0 A dC dI cI cL cB 0 0 := ⟨hx, hb, hml, hown, hts, hK, hT, hA, hF, hLo⟩
  refine startH (A := A) hP (fun H locs hP hS => ?_)
  rw [fX0_copyFrom] at hf
  refine lv_iconst (v := (0 : Int32)) hx hb dX0_copyFrom_0 (by decide) ?_
  refine lv_istore_n (lv' := [(2, .int (0 : Int32)), (0, .ref h_t), (1, .ref h_p1)]) hx hb dX0_copyFrom_1 rfl hl (Nat.le_of_ble_eq_true rfl) rfl (fun ls hl => ?_)
  obtain ⟨t_x_15, t_y_16, t_colour_17, t_load_18, hq_14, hf⟩ := b4_some hf
  refine wX0_copyFrom_L2 C0 h_t h_t_x h_t_y h_t_colour h_t_load h_p1 h_p1_x h_p1_y h_p1_colour h_p1_load t_size t_centreX t_centreY p1_size p1_centreX p1_centreY p1_x p1_y p1_colour p1_load K (0 : Int32) t_x t_y t_colour t_load t_x_15 t_y_16 t_colour_17 t_load_18 H locs ls hP hD hS (lv_sub hl [1, 2, 0] rfl) hq_14 ?_
  intro H locs ls hP hD hS hl
  refine lv_aload_n hx hb dX0_copyFrom_64 rfl (lv_at hl 0 rfl) ?_
  refine lv_aload_n hx hb dX0_copyFrom_65 rfl (lv_at hl 1 rfl) ?_
  refine va_get (D := (dC, dI)) (ci := 0) (v := .int p1_size) (C := RX0) (T := TX0) (N := 7) hx hb hts in_X0 hown hK hP 5 rfl rfl 4 (Nat.le_of_ble_eq_true rfl) (hts _ qf_X0_24) (fun _ h9 => h9) rfl dX0_copyFrom_66 ?_
  refine xput (D := (dC, dI)) (ci := 0) (v := .int p1_size) (C := RX0) (T := TX0) (N := 7) (w2 := [(h_t, .inr (0, [.ref h_t_x, .ref h_t_y, .ref h_t_colour, .ref h_t_load, .int p1_size, .int t_centreX, .int t_centreY])), (h_t_x, .inl (cI, 24, .inl t_x_15)), (h_t_y, .inl (cI, 24, .inl t_y_16)), (h_t_colour, .inl (cI, 24, .inl t_colour_17)), (h_t_load, .inl (cI, 24, .inl t_load_18)), (h_p1, .inr (0, [.ref h_p1_x, .ref h_p1_y, .ref h_p1_colour, .ref h_p1_load, .int p1_size, .int p1_centreX, .int p1_centreY])), (h_p1_x, .inl (cI, 24, .inl p1_x)), (h_p1_y, .inl (cI, 24, .inl p1_y)), (h_p1_colour, .inl (cI, 24, .inl p1_colour)), (h_p1_load, .inl (cI, 24, .inl p1_load))]) hx hb hts in_X0 tyX0 tyX0_ok nmX0 hown hK hP hD hS 0 rfl rfl 4 (Nat.le_of_ble_eq_true rfl) (hts _ qf_X0_24) (fun _ h9 => h9) rfl rfl rfl (Nat.le_of_ble_eq_true rfl) rfl dX0_copyFrom_69 (fun H locs hP hD hS => ?_)
  refine lv_aload_n hx hb dX0_copyFrom_72 rfl (lv_at hl 0 rfl) ?_
  refine lv_aload_n hx hb dX0_copyFrom_73 rfl (lv_at hl 1 rfl) ?_
  refine va_get (D := (dC, dI)) (ci := 0) (v := .int p1_centreX) (C := RX0) (T := TX0) (N := 7) hx hb hts in_X0 hown hK hP 5 rfl rfl 5 (Nat.le_of_ble_eq_true rfl) (hts _ qf_X0_38) (fun _ h9 => h9) rfl dX0_copyFrom_74 ?_
  refine xput (D := (dC, dI)) (ci := 0) (v := .int p1_centreX) (C := RX0) (T := TX0) (N := 7) (w2 := [(h_t, .inr (0, [.ref h_t_x, .ref h_t_y, .ref h_t_colour, .ref h_t_load, .int p1_size, .int p1_centreX, .int t_centreY])), (h_t_x, .inl (cI, 24, .inl t_x_15)), (h_t_y, .inl (cI, 24, .inl t_y_16)), (h_t_colour, .inl (cI, 24, .inl t_colour_17)), (h_t_load, .inl (cI, 24, .inl t_load_18)), (h_p1, .inr (0, [.ref h_p1_x, .ref h_p1_y, .ref h_p1_colour, .ref h_p1_load, .int p1_size, .int p1_centreX, .int p1_centreY])), (h_p1_x, .inl (cI, 24, .inl p1_x)), (h_p1_y, .inl (cI, 24, .inl p1_y)), (h_p1_colour, .inl (cI, 24, .inl p1_colour)), (h_p1_load, .inl (cI, 24, .inl p1_load))]) hx hb hts in_X0 tyX0 tyX0_ok nmX0 hown hK hP hD hS 0 rfl rfl 5 (Nat.le_of_ble_eq_true rfl) (hts _ qf_X0_38) (fun _ h9 => h9) rfl rfl rfl (Nat.le_of_ble_eq_true rfl) rfl dX0_copyFrom_77 (fun H locs hP hD hS => ?_)
  refine lv_aload_n hx hb dX0_copyFrom_80 rfl (lv_at hl 0 rfl) ?_
  refine lv_aload_n hx hb dX0_copyFrom_81 rfl (lv_at hl 1 rfl) ?_
  refine va_get (D := (dC, dI)) (ci := 0) (v := .int p1_centreY) (C := RX0) (T := TX0) (N := 7) hx hb hts in_X0 hown hK hP 5 rfl rfl 6 (Nat.le_of_ble_eq_true rfl) (hts _ qf_X0_41) (fun _ h9 => h9) rfl dX0_copyFrom_82 ?_
  refine xput (D := (dC, dI)) (ci := 0) (v := .int p1_centreY) (C := RX0) (T := TX0) (N := 7) (w2 := [(h_t, .inr (0, [.ref h_t_x, .ref h_t_y, .ref h_t_colour, .ref h_t_load, .int p1_size, .int p1_centreX, .int p1_centreY])), (h_t_x, .inl (cI, 24, .inl t_x_15)), (h_t_y, .inl (cI, 24, .inl t_y_16)), (h_t_colour, .inl (cI, 24, .inl t_colour_17)), (h_t_load, .inl (cI, 24, .inl t_load_18)), (h_p1, .inr (0, [.ref h_p1_x, .ref h_p1_y, .ref h_p1_colour, .ref h_p1_load, .int p1_size, .int p1_centreX, .int p1_centreY])), (h_p1_x, .inl (cI, 24, .inl p1_x)), (h_p1_y, .inl (cI, 24, .inl p1_y)), (h_p1_colour, .inl (cI, 24, .inl p1_colour)), (h_p1_load, .inl (cI, 24, .inl p1_load))]) hx hb hts in_X0 tyX0 tyX0_ok nmX0 hown hK hP hD hS 0 rfl rfl 6 (Nat.le_of_ble_eq_true rfl) (hts _ qf_X0_41) (fun _ h9 => h9) rfl rfl rfl (Nat.le_of_ble_eq_true rfl) rfl dX0_copyFrom_85 (fun H locs hP hD hS => ?_)
  obtain ⟨rfl, rfl, rfl, rfl, rfl, rfl, rfl⟩ := o7 hf
  exact W.vret hx hb hr (fun t ht hW => ⟨⟨(), rfl, trivial, by rw [ht]; exact hP, hD⟩, hS.F ht⟩) hS.2.2 dX0_copyFrom_88
theorem dX11_fault_0 : decode cX11_fault 0 = .ok (.iload_n 1, 1) := by decide +kernel
theorem dX11_fault_1 : decode cX11_fault 1 = .ok (.lookupswitch 43 #[(0, 27), (1, 35)], 27) := by decide +kernel
theorem dX11_fault_28 : decode cX11_fault 28 = .ok (.aload_n 0, 1) := by decide +kernel
theorem dX11_fault_29 : decode cX11_fault 29 = .ok (.getfield 21, 3) := by decide +kernel
theorem dX11_fault_32 : decode cX11_fault 32 = .ok (.getfield 114, 3) := by decide +kernel
theorem dX11_fault_35 : decode cX11_fault 35 = .ok (.ireturn, 1) := by decide +kernel
theorem dX11_fault_36 : decode cX11_fault 36 = .ok (.aload_n 0, 1) := by decide +kernel
theorem dX11_fault_37 : decode cX11_fault 37 = .ok (.getfield 21, 3) := by decide +kernel
theorem dX11_fault_40 : decode cX11_fault 40 = .ok (.getfield 117, 3) := by decide +kernel
theorem dX11_fault_43 : decode cX11_fault 43 = .ok (.ireturn, 1) := by decide +kernel
theorem dX11_fault_44 : decode cX11_fault 44 = .ok (.iconst (-1), 1) := by decide +kernel
theorem dX11_fault_45 : decode cX11_fault 45 = .ok (.ireturn, 1) := by decide +kernel
set_option maxRecDepth 100000 in
set_option maxHeartbeats 4000000 in
theorem mtX11_fault (l : Launch) (dC : Nat → ClassId) (dI : Nat → Nat → Nat) (cI cL cB : ClassId) (K : Nat) (h_t h_t_cloud h_t_reader h_t_hull h_t_near h_t_firstTie h_t_reducer h_t_chooser h_t_pair h_t_divider h_t_depths h_t_spot h_t_reader_tape h_t_reader_draft : Nat) (sz : Nat) (t_reader_length : Int32) (t_reader_faultKind : Int32) (t_reader_faultPlace : Int32) (t_reader_centreTold : Int32) (t_reader_start : Int32) (t_reader_next : Int32) (t_reader_kind : Int32) (t_reader_value : Int32) (a1 : Int32) (o_r : Int32) (hf : fX11_fault K t_reader_faultKind t_reader_faultPlace a1 = some o_r) : Met l yX11_fault [Cond.code yX11_fault cX11_fault 2 (some .int)] ({ frames := 0, cells := 0, slots := 0, locals := 0 }) (va_Pc [.ref h_t, .int a1] (cPre dC dI cI cL cB sz [(h_t, .inr (11, [.ref h_t_cloud, .ref h_t_reader, .ref h_t_hull, .ref h_t_near, .ref h_t_firstTie, .ref h_t_reducer, .ref h_t_chooser, .ref h_t_pair, .ref h_t_divider, .ref h_t_depths, .ref h_t_spot])), (h_t_reader, .inr (8, [.ref h_t_reader_tape, .ref h_t_reader_draft, .int t_reader_length, .int t_reader_faultKind, .int t_reader_faultPlace, .int t_reader_centreTold, .int t_reader_start, .int t_reader_next, .int t_reader_kind, .int t_reader_value]))])) (cQi dC dI (va_A [(h_t, .inr (11, [.ref h_t_cloud, .ref h_t_reader, .ref h_t_hull, .ref h_t_near, .ref h_t_firstTie, .ref h_t_reducer, .ref h_t_chooser, .ref h_t_pair, .ref h_t_divider, .ref h_t_depths, .ref h_t_spot])), (h_t_reader, .inr (8, [.ref h_t_reader_tape, .ref h_t_reader_draft, .int t_reader_length, .int t_reader_faultKind, .int t_reader_faultPlace, .int t_reader_centreTold, .int t_reader_start, .int t_reader_next, .int t_reader_kind, .int t_reader_value]))] sz) o_r [(h_t, .inr (11, [.ref h_t_cloud, .ref h_t_reader, .ref h_t_hull, .ref h_t_near, .ref h_t_firstTie, .ref h_t_reducer, .ref h_t_chooser, .ref h_t_pair, .ref h_t_divider, .ref h_t_depths, .ref h_t_spot])), (h_t_reader, .inr (8, [.ref h_t_reader_tape, .ref h_t_reader_draft, .int t_reader_length, .int t_reader_faultKind, .int t_reader_faultPlace, .int t_reader_centreTold, .int t_reader_start, .int t_reader_next, .int t_reader_kind, .int t_reader_value]))]) 0 0 (va_A [(h_t, .inr (11, [.ref h_t_cloud, .ref h_t_reader, .ref h_t_hull, .ref h_t_near, .ref h_t_firstTie, .ref h_t_reducer, .ref h_t_chooser, .ref h_t_pair, .ref h_t_divider, .ref h_t_depths, .ref h_t_spot])), (h_t_reader, .inr (8, [.ref h_t_reader_tape, .ref h_t_reader_draft, .int t_reader_length, .int t_reader_faultKind, .int t_reader_faultPlace, .int t_reader_centreTold, .int t_reader_start, .int t_reader_next, .int t_reader_kind, .int t_reader_value]))] sz) := by
  refine Met.ofW (cc := cX11_fault) (maxL := 2) (ret := (some .int)) (by decide) rfl ?_
  intro p e s m args below meth c s₁ B hml hv
  obtain ⟨rfl, hsz, hP, hK, hD0, hT⟩ := hv
  have hx := B.exec
  have hb := B.bytes
  have hr := B.returns
  have hown : s.vm.findClass RX11 = some m.cls := findClass_of_methodNamed B.named
  have hlocks := B.notSynchronized
  have hts := TB.use hT ([.ref h_t, .int a1] : List Value).toArray
  subst hsz
  have hD := hD0.self (sz := s.heap.size)
  generalize hAe : va_A [(h_t, .inr (11, [.ref h_t_cloud, .ref h_t_reader, .ref h_t_hull, .ref h_t_near, .ref h_t_firstTie, .ref h_t_reducer, .ref h_t_chooser, .ref h_t_pair, .ref h_t_divider, .ref h_t_depths, .ref h_t_spot])), (h_t_reader, .inr (8, [.ref h_t_reader_tape, .ref h_t_reader_draft, .int t_reader_length, .int t_reader_faultKind, .int t_reader_faultPlace, .int t_reader_centreTold, .int t_reader_start, .int t_reader_next, .int t_reader_kind, .int t_reader_value]))] s.heap.size = A at hD ⊢
  have hA : ∀ q : Nat, s.heap.size ≤ q → A q := fun q h => by rw [← hAe]; exact Or.inr h
  clear hAe hD0
  have hl := lv_entry ([.ref h_t, .int a1]) (n := 2) (Nat.le_of_ble_eq_true rfl)
  rw [lg_entry_eq]
  generalize (lg_sl ([.ref h_t, .int a1]) ++ List.replicate (2 - (lg_sl ([.ref h_t, .int a1])).length) Slot.unset).toArray = ls at hl ⊢
  have hl : lv_has ls 2 [(0, .ref h_t), (1, .int a1)] := hl
  have hF : 0 ≤ (headSpec [Cond.code yX11_fault cX11_fault 2 (some .int)] ({ frames := 0, cells := 0, slots := 0, locals := 0 })).room.frames := Nat.le_refl _
  have hLo : 0 ≤ (headSpec [Cond.code yX11_fault cX11_fault 2 (some .int)] ({ frames := 0, cells := 0, slots := 0, locals := 0 })).room.locals := Nat.le_refl _
  have C0 : Sx p (headSpec [Cond.code yX11_fault cX11_fault 2 (some .int)] ({ frames := 0, cells := 0, slots := 0, locals := 0 })).room s m ([.ref h_t, .int a1] : List Value).toArray c cX11_fault 2 RX11 A dC dI cI cL cB 0 0 := ⟨hx, hb, hml, hown, hts, hK, hT, hA, hF, hLo⟩
  refine startH (A := A) hP (fun H locs hP hS => ?_)
  rw [fX11_fault] at hf
  refine lv_iload_n hx hb dX11_fault_0 rfl (lv_at hl 1 rfl) ?_
  by_cases hk_1 : a1 = (0 : Int32)
  · replace hf := it_t hk_1 hf
    refine lv_lookup (off := 27) (tgt := 28) hx hb dX11_fault_1 (by decide) (by rw [hk_1]; decide) (by decide) ?_
    refine lv_aload_n hx hb dX11_fault_28 rfl (lv_at hl 0 rfl) ?_
    refine va_get (D := (dC, dI)) (ci := 11) (v := .ref h_t_reader) (C := RX11) (T := TX11) (N := 11) hx hb hts in_X11 hown hK hP 0 rfl rfl 1 (Nat.le_of_ble_eq_true rfl) (hts _ qf_X11_21) (fun _ h9 => h9) rfl dX11_fault_29 ?_
    refine va_get (D := (dC, dI)) (ci := 8) (v := .int t_reader_faultKind) (C := RX8) (T := TX8) (N := 10) hx hb hts in_X8 hown hK hP 1 rfl rfl 3 (Nat.le_of_ble_eq_true rfl) (hts _ qf_X11_114) (fun _ h9 => h9) rfl dX11_fault_32 ?_
    obtain rfl := o1 hf
    exact W.iret hx hb hr (fun t ht hW => ⟨⟨_, (), rfl, rfl, by rw [ht]; exact hP, hD⟩, hS.F ht⟩) hS.2.2 dX11_fault_35
  · replace hf := it_f hk_1 hf
    by_cases hk_2 : a1 = (1 : Int32)
    · replace hf := it_t hk_2 hf
      refine lv_lookup (off := 35) (tgt := 36) hx hb dX11_fault_1 (by decide) (by rw [hk_2]; decide) (by decide) ?_
      refine lv_aload_n hx hb dX11_fault_36 rfl (lv_at hl 0 rfl) ?_
      refine va_get (D := (dC, dI)) (ci := 11) (v := .ref h_t_reader) (C := RX11) (T := TX11) (N := 11) hx hb hts in_X11 hown hK hP 0 rfl rfl 1 (Nat.le_of_ble_eq_true rfl) (hts _ qf_X11_21) (fun _ h9 => h9) rfl dX11_fault_37 ?_
      refine va_get (D := (dC, dI)) (ci := 8) (v := .int t_reader_faultPlace) (C := RX8) (T := TX8) (N := 10) hx hb hts in_X8 hown hK hP 1 rfl rfl 4 (Nat.le_of_ble_eq_true rfl) (hts _ qf_X11_117) (fun _ h9 => h9) rfl dX11_fault_40 ?_
      obtain rfl := o1 hf
      exact W.iret hx hb hr (fun t ht hW => ⟨⟨_, (), rfl, rfl, by rw [ht]; exact hP, hD⟩, hS.F ht⟩) hS.2.2 dX11_fault_43
    · replace hf := it_f hk_2 hf
      refine lv_lookup (off := 43) (tgt := 44) hx hb dX11_fault_1 (by decide) ((lv_osw (k := (0 : Int32)) hk_1 (by decide)).trans ((lv_osw (k := (1 : Int32)) hk_2 (by decide)).trans rfl)) (by decide) ?_
      refine lv_iconst (v := (-1 : Int32)) hx hb dX11_fault_44 (by decide) ?_
      obtain rfl := o1 hf
      exact W.iret hx hb hr (fun t ht hW => ⟨⟨_, (), rfl, rfl, by rw [ht]; exact hP, hD⟩, hS.F ht⟩) hS.2.2 dX11_fault_45
theorem dX0_bitsOfColour_0 : decode cX0_bitsOfColour 0 = .ok (.iconst 0, 1) := by decide +kernel
theorem dX0_bitsOfColour_1 : decode cX0_bitsOfColour 1 = .ok (.istore_n 2, 1) := by decide +kernel
theorem dX0_bitsOfColour_2 : decode cX0_bitsOfColour 2 = .ok (.iconst 0, 1) := by decide +kernel
theorem dX0_bitsOfColour_3 : decode cX0_bitsOfColour 3 = .ok (.istore_n 3, 1) := by decide +kernel
theorem dX0_bitsOfColour_4 : decode cX0_bitsOfColour 4 = .ok (.iload_n 3, 1) := by decide +kernel
theorem dX0_bitsOfColour_5 : decode cX0_bitsOfColour 5 = .ok (.aload_n 0, 1) := by decide +kernel
theorem dX0_bitsOfColour_6 : decode cX0_bitsOfColour 6 = .ok (.getfield 24, 3) := by decide +kernel
theorem dX0_bitsOfColour_9 : decode cX0_bitsOfColour 9 = .ok (.if_icmp .ge 25, 3) := by decide +kernel
theorem dX0_bitsOfColour_12 : decode cX0_bitsOfColour 12 = .ok (.aload_n 0, 1) := by decide +kernel
theorem dX0_bitsOfColour_13 : decode cX0_bitsOfColour 13 = .ok (.getfield 18, 3) := by decide +kernel
theorem dX0_bitsOfColour_16 : decode cX0_bitsOfColour 16 = .ok (.iload_n 3, 1) := by decide +kernel
theorem dX0_bitsOfColour_17 : decode cX0_bitsOfColour 17 = .ok (.iaload, 1) := by decide +kernel
theorem dX0_bitsOfColour_18 : decode cX0_bitsOfColour 18 = .ok (.iload_n 1, 1) := by decide +kernel
theorem dX0_bitsOfColour_19 : decode cX0_bitsOfColour 19 = .ok (.if_icmp .ne 9, 3) := by decide +kernel
theorem dX0_bitsOfColour_22 : decode cX0_bitsOfColour 22 = .ok (.iload_n 2, 1) := by decide +kernel
theorem dX0_bitsOfColour_23 : decode cX0_bitsOfColour 23 = .ok (.iconst 1, 1) := by decide +kernel
theorem dX0_bitsOfColour_24 : decode cX0_bitsOfColour 24 = .ok (.iload_n 3, 1) := by decide +kernel
theorem dX0_bitsOfColour_25 : decode cX0_bitsOfColour 25 = .ok (.ishl, 1) := by decide +kernel
theorem dX0_bitsOfColour_26 : decode cX0_bitsOfColour 26 = .ok (.ior, 1) := by decide +kernel
theorem dX0_bitsOfColour_27 : decode cX0_bitsOfColour 27 = .ok (.istore_n 2, 1) := by decide +kernel
theorem dX0_bitsOfColour_28 : decode cX0_bitsOfColour 28 = .ok (.iinc 3 1, 3) := by decide +kernel
theorem dX0_bitsOfColour_31 : decode cX0_bitsOfColour 31 = .ok (.goto (-27), 3) := by decide +kernel
theorem dX0_bitsOfColour_34 : decode cX0_bitsOfColour 34 = .ok (.iload_n 2, 1) := by decide +kernel
theorem dX0_bitsOfColour_35 : decode cX0_bitsOfColour 35 = .ok (.ireturn, 1) := by decide +kernel
set_option maxRecDepth 100000 in
set_option maxHeartbeats 4000000 in
theorem wX0_bitsOfColour_L4 {p : Program} {l : Launch} {e : Env} {R : Room} {s : State} {m : MethodId} {args : Array Value} {below : List Frame} {meth : Method} {c : Code} {Q : State → Prop} {A : Nat → Prop} {dC : Nat → ClassId} {dI : Nat → Nat → Nat} {cI cL cB : ClassId} {K : Nat} (C0 : Sx p R s m args c cX0_bitsOfColour 4 RX0 A dC dI cI cL cB 0 0) (h_t h_t_x h_t_y h_t_colour h_t_load : Nat) (t_size : Int32) (t_centreX : Int32) (t_centreY : Int32) (t_colour : Nat → Int32) (l1 : Int32) : ∀ (n : Nat) (l2 : Int32) (l3 : Int32) (x2_ : Int32) (H : Heap) (locs : List Loc) (ls : Array Slot), va_P (dC, dI) vwCl [(h_t, .inr (0, [.ref h_t_x, .ref h_t_y, .ref h_t_colour, .ref h_t_load, .int t_size, .int t_centreX, .int t_centreY])), (h_t_colour, .inl (cI, 24, .inl t_colour))] H → va_D A [(h_t, .inr (0, [.ref h_t_x, .ref h_t_y, .ref h_t_colour, .ref h_t_load, .int t_size, .int t_centreX, .int t_centreY])), (h_t_colour, .inl (cI, 24, .inl t_colour))] → va_S A s.heap H locs → lv_has ls 4 [(0, .ref h_t), (1, .int l1), (2, .int l2), (3, .int l3)] → fX0_bitsOfColour_L4 K l1 t_size t_colour n l2 l3 = some x2_ → (∀ (H : Heap) (locs : List Loc) (ls : Array Slot), va_P (dC, dI) vwCl [(h_t, .inr (0, [.ref h_t_x, .ref h_t_y, .ref h_t_colour, .ref h_t_load, .int t_size, .int t_centreX, .int t_centreY])), (h_t_colour, .inl (cI, 24, .inl t_colour))] H → va_D A [(h_t, .inr (0, [.ref h_t_x, .ref h_t_y, .ref h_t_colour, .ref h_t_load, .int t_size, .int t_centreX, .int t_centreY])), (h_t_colour, .inl (cI, 24, .inl t_colour))] → va_S A s.heap H locs → lv_has ls 4 [(2, .int x2_)] → W p l e R s m args below meth c H locs 0 0 Q (F0 m 34 ls [])) → W p l e R s m args below meth c H locs 0 0 Q (F0 m 4 ls []) := by
  obtain ⟨hx, hb, hml, hown, hts, hK, hT, hA, hF, hLo⟩ := id C0
  intro n
  induction n with
  | zero =>
    intro l2 l3 x2_ H locs ls hP hD hS hl hf
    rw [fX0_bitsOfColour_L4] at hf
    cases hf
  | succ n ih =>
    intro l2 l3 x2_ H locs ls hP hD hS hl hf hk
    rw [fX0_bitsOfColour_L4] at hf
    refine lv_iload_n hx hb dX0_bitsOfColour_4 rfl (lv_at hl 3 rfl) ?_
    refine lv_aload_n hx hb dX0_bitsOfColour_5 rfl (lv_at hl 0 rfl) ?_
    refine va_get (D := (dC, dI)) (ci := 0) (v := .int t_size) (C := RX0) (T := TX0) (N := 7) hx hb hts in_X0 hown hK hP 0 rfl rfl 4 (Nat.le_of_ble_eq_true rfl) (hts _ qf_X0_24) (fun _ h9 => h9) rfl dX0_bitsOfColour_6 ?_
    refine lv_icmp_ge (tgt := 34) hx hb dX0_bitsOfColour_9 (by decide) (fun hc => ?_) (fun hc => ?_)
    · replace hf := it_t (hc) hf
      obtain rfl := o1 hf
      exact hk H locs ls hP hD hS (lv_sub hl [2] rfl)
    · replace hf := it_f (hc) hf
      refine lv_aload_n hx hb dX0_bitsOfColour_12 rfl (lv_at hl 0 rfl) ?_
      refine va_get (D := (dC, dI)) (ci := 0) (v := .ref h_t_colour) (C := RX0) (T := TX0) (N := 7) hx hb hts in_X0 hown hK hP 0 rfl rfl 2 (Nat.le_of_ble_eq_true rfl) (hts _ qf_X0_18) (fun _ h9 => h9) rfl dX0_bitsOfColour_13 ?_
      refine lv_iload_n hx hb dX0_bitsOfColour_16 rfl (lv_at hl 3 rfl) ?_
      obtain ⟨hg_1, hf⟩ := gd_some hf
      refine va_iald hx hb hK hP 1 0 rfl rfl (inb_in hg_1) dX0_bitsOfColour_17 ?_
      refine lv_iload_n hx hb dX0_bitsOfColour_18 rfl (lv_at hl 1 rfl) ?_
      obtain ⟨k_3, ek_3, hf⟩ := jn_out hf
      have J_4 : ∀ (l2_2 : Int32) (H : Heap) (locs : List Loc) (ls : Array Slot), va_P (dC, dI) vwCl [(h_t, .inr (0, [.ref h_t_x, .ref h_t_y, .ref h_t_colour, .ref h_t_load, .int t_size, .int t_centreX, .int t_centreY])), (h_t_colour, .inl (cI, 24, .inl t_colour))] H → va_D A [(h_t, .inr (0, [.ref h_t_x, .ref h_t_y, .ref h_t_colour, .ref h_t_load, .int t_size, .int t_centreX, .int t_centreY])), (h_t_colour, .inl (cI, 24, .inl t_colour))] → va_S A s.heap H locs → lv_has ls 4 [(0, .ref h_t), (1, .int l1), (2, .int l2_2), (3, .int l3)] → k_3 l2_2 = some x2_ → W p l e R s m args below meth c H locs 0 0 Q (F0 m 28 ls []) := by
        intro l2_2 H locs ls hP hD hS hl hf
        rw [ek_3] at hf
        try dsimp only at hf
        obtain ⟨l3_5, el3_5⟩ : ∃ y : Int32, y = l3 + (1 : Int32) := ⟨_, rfl⟩
        replace hf := xl_at hf el3_5
        refine lv_iinc (v := l3_5) (lv' := [(3, .int l3_5), (0, .ref h_t), (1, .int l1), (2, .int l2_2)]) hx hb dX0_bitsOfColour_28 hl (k := 3) rfl (by rw [el3_5]; rfl) (Nat.le_of_ble_eq_true rfl) rfl (fun ls hl => ?_)
        refine lv_goto (tgt := 4) hx hb dX0_bitsOfColour_31 (by decide) ?_
        exact ih l2_2 l3_5 _ H locs ls hP hD hS (lv_sub hl [1, 2, 3, 0] rfl) hf hk
      refine lv_icmp_ne (tgt := 28) hx hb dX0_bitsOfColour_19 (by decide) (fun hc => ?_) (fun hc => ?_)
      · replace hf := it_f (hc) hf
        exact J_4 l2 H locs ls hP hD hS (lv_sub hl [0, 1, 2, 3] rfl) hf
      · replace hf := it_t (hc) hf
        refine lv_iload_n hx hb dX0_bitsOfColour_22 rfl (lv_at hl 2 rfl) ?_
        refine lv_iconst (v := (1 : Int32)) hx hb dX0_bitsOfColour_23 (by decide) ?_
        refine lv_iload_n hx hb dX0_bitsOfColour_24 rfl (lv_at hl 3 rfl) ?_
        refine lv_ishl hx hb dX0_bitsOfColour_25 ?_
        refine lv_ior hx hb dX0_bitsOfColour_26 ?_
        refine lv_topi (fun l2_6 el2_6 => ?_)
        replace hf := xl_at hf el2_6
        refine lv_istore_n (lv' := [(2, .int l2_6), (0, .ref h_t), (1, .int l1), (3, .int l3)]) hx hb dX0_bitsOfColour_27 rfl hl (Nat.le_of_ble_eq_true rfl) rfl (fun ls hl => ?_)
        exact J_4 l2_6 H locs ls hP hD hS (lv_sub hl [1, 2, 0, 3] rfl) hf
set_option maxRecDepth 100000 in
set_option maxHeartbeats 4000000 in
theorem mtX0_bitsOfColour (l : Launch) (dC : Nat → ClassId) (dI : Nat → Nat → Nat) (cI cL cB : ClassId) (K : Nat) (h_t h_t_x h_t_y h_t_colour h_t_load : Nat) (sz : Nat) (t_size : Int32) (t_centreX : Int32) (t_centreY : Int32) (t_colour : Nat → Int32) (a1 : Int32) (o_r : Int32) (hf : fX0_bitsOfColour K t_size t_colour a1 = some o_r) : Met l yX0_bitsOfColour [Cond.code yX0_bitsOfColour cX0_bitsOfColour 4 (some .int)] ({ frames := 0, cells := 0, slots := 0, locals := 0 }) (va_Pc [.ref h_t, .int a1] (cPre dC dI cI cL cB sz [(h_t, .inr (0, [.ref h_t_x, .ref h_t_y, .ref h_t_colour, .ref h_t_load, .int t_size, .int t_centreX, .int t_centreY])), (h_t_colour, .inl (cI, 24, .inl t_colour))])) (cQi dC dI (va_A [(h_t, .inr (0, [.ref h_t_x, .ref h_t_y, .ref h_t_colour, .ref h_t_load, .int t_size, .int t_centreX, .int t_centreY])), (h_t_colour, .inl (cI, 24, .inl t_colour))] sz) o_r [(h_t, .inr (0, [.ref h_t_x, .ref h_t_y, .ref h_t_colour, .ref h_t_load, .int t_size, .int t_centreX, .int t_centreY])), (h_t_colour, .inl (cI, 24, .inl t_colour))]) 0 0 (va_A [(h_t, .inr (0, [.ref h_t_x, .ref h_t_y, .ref h_t_colour, .ref h_t_load, .int t_size, .int t_centreX, .int t_centreY])), (h_t_colour, .inl (cI, 24, .inl t_colour))] sz) := by
  refine Met.ofW (cc := cX0_bitsOfColour) (maxL := 4) (ret := (some .int)) (by decide) rfl ?_
  intro p e s m args below meth c s₁ B hml hv
  obtain ⟨rfl, hsz, hP, hK, hD0, hT⟩ := hv
  have hx := B.exec
  have hb := B.bytes
  have hr := B.returns
  have hown : s.vm.findClass RX0 = some m.cls := findClass_of_methodNamed B.named
  have hlocks := B.notSynchronized
  have hts := TB.use hT ([.ref h_t, .int a1] : List Value).toArray
  subst hsz
  have hD := hD0.self (sz := s.heap.size)
  generalize hAe : va_A [(h_t, .inr (0, [.ref h_t_x, .ref h_t_y, .ref h_t_colour, .ref h_t_load, .int t_size, .int t_centreX, .int t_centreY])), (h_t_colour, .inl (cI, 24, .inl t_colour))] s.heap.size = A at hD ⊢
  have hA : ∀ q : Nat, s.heap.size ≤ q → A q := fun q h => by rw [← hAe]; exact Or.inr h
  clear hAe hD0
  have hl := lv_entry ([.ref h_t, .int a1]) (n := 4) (Nat.le_of_ble_eq_true rfl)
  rw [lg_entry_eq]
  generalize (lg_sl ([.ref h_t, .int a1]) ++ List.replicate (4 - (lg_sl ([.ref h_t, .int a1])).length) Slot.unset).toArray = ls at hl ⊢
  have hl : lv_has ls 4 [(0, .ref h_t), (1, .int a1)] := hl
  have hF : 0 ≤ (headSpec [Cond.code yX0_bitsOfColour cX0_bitsOfColour 4 (some .int)] ({ frames := 0, cells := 0, slots := 0, locals := 0 })).room.frames := Nat.le_refl _
  have hLo : 0 ≤ (headSpec [Cond.code yX0_bitsOfColour cX0_bitsOfColour 4 (some .int)] ({ frames := 0, cells := 0, slots := 0, locals := 0 })).room.locals := Nat.le_refl _
  have C0 : Sx p (headSpec [Cond.code yX0_bitsOfColour cX0_bitsOfColour 4 (some .int)] ({ frames := 0, cells := 0, slots := 0, locals := 0 })).room s m ([.ref h_t, .int a1] : List Value).toArray c cX0_bitsOfColour 4 RX0 A dC dI cI cL cB 0 0 := ⟨hx, hb, hml, hown, hts, hK, hT, hA, hF, hLo⟩
  refine startH (A := A) hP (fun H locs hP hS => ?_)
  rw [fX0_bitsOfColour] at hf
  refine lv_iconst (v := (0 : Int32)) hx hb dX0_bitsOfColour_0 (by decide) ?_
  refine lv_istore_n (lv' := [(2, .int (0 : Int32)), (0, .ref h_t), (1, .int a1)]) hx hb dX0_bitsOfColour_1 rfl hl (Nat.le_of_ble_eq_true rfl) rfl (fun ls hl => ?_)
  refine lv_iconst (v := (0 : Int32)) hx hb dX0_bitsOfColour_2 (by decide) ?_
  refine lv_istore_n (lv' := [(3, .int (0 : Int32)), (2, .int (0 : Int32)), (0, .ref h_t), (1, .int a1)]) hx hb dX0_bitsOfColour_3 rfl hl (Nat.le_of_ble_eq_true rfl) rfl (fun ls hl => ?_)
  obtain ⟨l2_8, hq_7, hf⟩ := b1_some hf
  refine wX0_bitsOfColour_L4 C0 h_t h_t_x h_t_y h_t_colour h_t_load t_size t_centreX t_centreY t_colour a1 K (0 : Int32) (0 : Int32) l2_8 H locs ls hP hD hS (lv_sub hl [2, 3, 1, 0] rfl) hq_7 ?_
  intro H locs ls hP hD hS hl
  refine lv_iload_n hx hb dX0_bitsOfColour_34 rfl (lv_at hl 0 rfl) ?_
  obtain rfl := o1 hf
  exact W.iret hx hb hr (fun t ht hW => ⟨⟨_, (), rfl, rfl, by rw [ht]; exact hP, hD⟩, hS.F ht⟩) hS.2.2 dX0_bitsOfColour_35
theorem dX0_bitsLoaded_0 : decode cX0_bitsLoaded 0 = .ok (.iconst 0, 1) := by decide +kernel
theorem dX0_bitsLoaded_1 : decode cX0_bitsLoaded 1 = .ok (.istore_n 1, 1) := by decide +kernel
theorem dX0_bitsLoaded_2 : decode cX0_bitsLoaded 2 = .ok (.iconst 0, 1) := by decide +kernel
theorem dX0_bitsLoaded_3 : decode cX0_bitsLoaded 3 = .ok (.istore_n 2, 1) := by decide +kernel
theorem dX0_bitsLoaded_4 : decode cX0_bitsLoaded 4 = .ok (.iload_n 2, 1) := by decide +kernel
theorem dX0_bitsLoaded_5 : decode cX0_bitsLoaded 5 = .ok (.aload_n 0, 1) := by decide +kernel
theorem dX0_bitsLoaded_6 : decode cX0_bitsLoaded 6 = .ok (.getfield 24, 3) := by decide +kernel
theorem dX0_bitsLoaded_9 : decode cX0_bitsLoaded 9 = .ok (.if_icmp .ge 24, 3) := by decide +kernel
theorem dX0_bitsLoaded_12 : decode cX0_bitsLoaded 12 = .ok (.aload_n 0, 1) := by decide +kernel
theorem dX0_bitsLoaded_13 : decode cX0_bitsLoaded 13 = .ok (.getfield 21, 3) := by decide +kernel
theorem dX0_bitsLoaded_16 : decode cX0_bitsLoaded 16 = .ok (.iload_n 2, 1) := by decide +kernel
theorem dX0_bitsLoaded_17 : decode cX0_bitsLoaded 17 = .ok (.iaload, 1) := by decide +kernel
theorem dX0_bitsLoaded_18 : decode cX0_bitsLoaded 18 = .ok (.ifCond .le 9, 3) := by decide +kernel
theorem dX0_bitsLoaded_21 : decode cX0_bitsLoaded 21 = .ok (.iload_n 1, 1) := by decide +kernel
theorem dX0_bitsLoaded_22 : decode cX0_bitsLoaded 22 = .ok (.iconst 1, 1) := by decide +kernel
theorem dX0_bitsLoaded_23 : decode cX0_bitsLoaded 23 = .ok (.iload_n 2, 1) := by decide +kernel
theorem dX0_bitsLoaded_24 : decode cX0_bitsLoaded 24 = .ok (.ishl, 1) := by decide +kernel
theorem dX0_bitsLoaded_25 : decode cX0_bitsLoaded 25 = .ok (.ior, 1) := by decide +kernel
theorem dX0_bitsLoaded_26 : decode cX0_bitsLoaded 26 = .ok (.istore_n 1, 1) := by decide +kernel
theorem dX0_bitsLoaded_27 : decode cX0_bitsLoaded 27 = .ok (.iinc 2 1, 3) := by decide +kernel
theorem dX0_bitsLoaded_30 : decode cX0_bitsLoaded 30 = .ok (.goto (-26), 3) := by decide +kernel
theorem dX0_bitsLoaded_33 : decode cX0_bitsLoaded 33 = .ok (.iload_n 1, 1) := by decide +kernel
theorem dX0_bitsLoaded_34 : decode cX0_bitsLoaded 34 = .ok (.ireturn, 1) := by decide +kernel
set_option maxRecDepth 100000 in
set_option maxHeartbeats 4000000 in
theorem wX0_bitsLoaded_L4 {p : Program} {l : Launch} {e : Env} {R : Room} {s : State} {m : MethodId} {args : Array Value} {below : List Frame} {meth : Method} {c : Code} {Q : State → Prop} {A : Nat → Prop} {dC : Nat → ClassId} {dI : Nat → Nat → Nat} {cI cL cB : ClassId} {K : Nat} (C0 : Sx p R s m args c cX0_bitsLoaded 3 RX0 A dC dI cI cL cB 0 0) (h_t h_t_x h_t_y h_t_colour h_t_load : Nat) (t_size : Int32) (t_centreX : Int32) (t_centreY : Int32) (t_load : Nat → Int32) : ∀ (n : Nat) (l1 : Int32) (l2 : Int32) (x1_ : Int32) (H : Heap) (locs : List Loc) (ls : Array Slot), va_P (dC, dI) vwCl [(h_t, .inr (0, [.ref h_t_x, .ref h_t_y, .ref h_t_colour, .ref h_t_load, .int t_size, .int t_centreX, .int t_centreY])), (h_t_load, .inl (cI, 24, .inl t_load))] H → va_D A [(h_t, .inr (0, [.ref h_t_x, .ref h_t_y, .ref h_t_colour, .ref h_t_load, .int t_size, .int t_centreX, .int t_centreY])), (h_t_load, .inl (cI, 24, .inl t_load))] → va_S A s.heap H locs → lv_has ls 3 [(0, .ref h_t), (1, .int l1), (2, .int l2)] → fX0_bitsLoaded_L4 K t_size t_load n l1 l2 = some x1_ → (∀ (H : Heap) (locs : List Loc) (ls : Array Slot), va_P (dC, dI) vwCl [(h_t, .inr (0, [.ref h_t_x, .ref h_t_y, .ref h_t_colour, .ref h_t_load, .int t_size, .int t_centreX, .int t_centreY])), (h_t_load, .inl (cI, 24, .inl t_load))] H → va_D A [(h_t, .inr (0, [.ref h_t_x, .ref h_t_y, .ref h_t_colour, .ref h_t_load, .int t_size, .int t_centreX, .int t_centreY])), (h_t_load, .inl (cI, 24, .inl t_load))] → va_S A s.heap H locs → lv_has ls 3 [(1, .int x1_)] → W p l e R s m args below meth c H locs 0 0 Q (F0 m 33 ls [])) → W p l e R s m args below meth c H locs 0 0 Q (F0 m 4 ls []) := by
  obtain ⟨hx, hb, hml, hown, hts, hK, hT, hA, hF, hLo⟩ := id C0
  intro n
  induction n with
  | zero =>
    intro l1 l2 x1_ H locs ls hP hD hS hl hf
    rw [fX0_bitsLoaded_L4] at hf
    cases hf
  | succ n ih =>
    intro l1 l2 x1_ H locs ls hP hD hS hl hf hk
    rw [fX0_bitsLoaded_L4] at hf
    refine lv_iload_n hx hb dX0_bitsLoaded_4 rfl (lv_at hl 2 rfl) ?_
    refine lv_aload_n hx hb dX0_bitsLoaded_5 rfl (lv_at hl 0 rfl) ?_
    refine va_get (D := (dC, dI)) (ci := 0) (v := .int t_size) (C := RX0) (T := TX0) (N := 7) hx hb hts in_X0 hown hK hP 0 rfl rfl 4 (Nat.le_of_ble_eq_true rfl) (hts _ qf_X0_24) (fun _ h9 => h9) rfl dX0_bitsLoaded_6 ?_
    refine lv_icmp_ge (tgt := 33) hx hb dX0_bitsLoaded_9 (by decide) (fun hc => ?_) (fun hc => ?_)
    · replace hf := it_t (hc) hf
      obtain rfl := o1 hf
      exact hk H locs ls hP hD hS (lv_sub hl [1] rfl)
    · replace hf := it_f (hc) hf
      refine lv_aload_n hx hb dX0_bitsLoaded_12 rfl (lv_at hl 0 rfl) ?_
      refine va_get (D := (dC, dI)) (ci := 0) (v := .ref h_t_load) (C := RX0) (T := TX0) (N := 7) hx hb hts in_X0 hown hK hP 0 rfl rfl 3 (Nat.le_of_ble_eq_true rfl) (hts _ qf_X0_21) (fun _ h9 => h9) rfl dX0_bitsLoaded_13 ?_
      refine lv_iload_n hx hb dX0_bitsLoaded_16 rfl (lv_at hl 2 rfl) ?_
      obtain ⟨hg_1, hf⟩ := gd_some hf
      refine va_iald hx hb hK hP 1 0 rfl rfl (inb_in hg_1) dX0_bitsLoaded_17 ?_
      obtain ⟨k_3, ek_3, hf⟩ := jn_out hf
      have J_4 : ∀ (l1_2 : Int32) (H : Heap) (locs : List Loc) (ls : Array Slot), va_P (dC, dI) vwCl [(h_t, .inr (0, [.ref h_t_x, .ref h_t_y, .ref h_t_colour, .ref h_t_load, .int t_size, .int t_centreX, .int t_centreY])), (h_t_load, .inl (cI, 24, .inl t_load))] H → va_D A [(h_t, .inr (0, [.ref h_t_x, .ref h_t_y, .ref h_t_colour, .ref h_t_load, .int t_size, .int t_centreX, .int t_centreY])), (h_t_load, .inl (cI, 24, .inl t_load))] → va_S A s.heap H locs → lv_has ls 3 [(0, .ref h_t), (1, .int l1_2), (2, .int l2)] → k_3 l1_2 = some x1_ → W p l e R s m args below meth c H locs 0 0 Q (F0 m 27 ls []) := by
        intro l1_2 H locs ls hP hD hS hl hf
        rw [ek_3] at hf
        try dsimp only at hf
        obtain ⟨l2_5, el2_5⟩ : ∃ y : Int32, y = l2 + (1 : Int32) := ⟨_, rfl⟩
        replace hf := xl_at hf el2_5
        refine lv_iinc (v := l2_5) (lv' := [(2, .int l2_5), (0, .ref h_t), (1, .int l1_2)]) hx hb dX0_bitsLoaded_27 hl (k := 2) rfl (by rw [el2_5]; rfl) (Nat.le_of_ble_eq_true rfl) rfl (fun ls hl => ?_)
        refine lv_goto (tgt := 4) hx hb dX0_bitsLoaded_30 (by decide) ?_
        exact ih l1_2 l2_5 _ H locs ls hP hD hS (lv_sub hl [1, 2, 0] rfl) hf hk
      refine lv_if_le (tgt := 27) hx hb dX0_bitsLoaded_18 (by decide) (fun hc => ?_) (fun hc => ?_)
      · replace hf := it_t (hc) hf
        exact J_4 l1 H locs ls hP hD hS (lv_sub hl [0, 1, 2] rfl) hf
      · replace hf := it_f (hc) hf
        refine lv_iload_n hx hb dX0_bitsLoaded_21 rfl (lv_at hl 1 rfl) ?_
        refine lv_iconst (v := (1 : Int32)) hx hb dX0_bitsLoaded_22 (by decide) ?_
        refine lv_iload_n hx hb dX0_bitsLoaded_23 rfl (lv_at hl 2 rfl) ?_
        refine lv_ishl hx hb dX0_bitsLoaded_24 ?_
        refine lv_ior hx hb dX0_bitsLoaded_25 ?_
        refine lv_topi (fun l1_6 el1_6 => ?_)
        replace hf := xl_at hf el1_6
        refine lv_istore_n (lv' := [(1, .int l1_6), (0, .ref h_t), (2, .int l2)]) hx hb dX0_bitsLoaded_26 rfl hl (Nat.le_of_ble_eq_true rfl) rfl (fun ls hl => ?_)
        exact J_4 l1_6 H locs ls hP hD hS (lv_sub hl [1, 0, 2] rfl) hf
set_option maxRecDepth 100000 in
set_option maxHeartbeats 4000000 in
theorem mtX0_bitsLoaded (l : Launch) (dC : Nat → ClassId) (dI : Nat → Nat → Nat) (cI cL cB : ClassId) (K : Nat) (h_t h_t_x h_t_y h_t_colour h_t_load : Nat) (sz : Nat) (t_size : Int32) (t_centreX : Int32) (t_centreY : Int32) (t_load : Nat → Int32) (o_r : Int32) (hf : fX0_bitsLoaded K t_size t_load = some o_r) : Met l yX0_bitsLoaded [Cond.code yX0_bitsLoaded cX0_bitsLoaded 3 (some .int)] ({ frames := 0, cells := 0, slots := 0, locals := 0 }) (va_Pc [.ref h_t] (cPre dC dI cI cL cB sz [(h_t, .inr (0, [.ref h_t_x, .ref h_t_y, .ref h_t_colour, .ref h_t_load, .int t_size, .int t_centreX, .int t_centreY])), (h_t_load, .inl (cI, 24, .inl t_load))])) (cQi dC dI (va_A [(h_t, .inr (0, [.ref h_t_x, .ref h_t_y, .ref h_t_colour, .ref h_t_load, .int t_size, .int t_centreX, .int t_centreY])), (h_t_load, .inl (cI, 24, .inl t_load))] sz) o_r [(h_t, .inr (0, [.ref h_t_x, .ref h_t_y, .ref h_t_colour, .ref h_t_load, .int t_size, .int t_centreX, .int t_centreY])), (h_t_load, .inl (cI, 24, .inl t_load))]) 0 0 (va_A [(h_t, .inr (0, [.ref h_t_x, .ref h_t_y, .ref h_t_colour, .ref h_t_load, .int t_size, .int t_centreX, .int t_centreY])), (h_t_load, .inl (cI, 24, .inl t_load))] sz) := by
  refine Met.ofW (cc := cX0_bitsLoaded) (maxL := 3) (ret := (some .int)) (by decide) rfl ?_
  intro p e s m args below meth c s₁ B hml hv
  obtain ⟨rfl, hsz, hP, hK, hD0, hT⟩ := hv
  have hx := B.exec
  have hb := B.bytes
  have hr := B.returns
  have hown : s.vm.findClass RX0 = some m.cls := findClass_of_methodNamed B.named
  have hlocks := B.notSynchronized
  have hts := TB.use hT ([.ref h_t] : List Value).toArray
  subst hsz
  have hD := hD0.self (sz := s.heap.size)
  generalize hAe : va_A [(h_t, .inr (0, [.ref h_t_x, .ref h_t_y, .ref h_t_colour, .ref h_t_load, .int t_size, .int t_centreX, .int t_centreY])), (h_t_load, .inl (cI, 24, .inl t_load))] s.heap.size = A at hD ⊢
  have hA : ∀ q : Nat, s.heap.size ≤ q → A q := fun q h => by rw [← hAe]; exact Or.inr h
  clear hAe hD0
  have hl := lv_entry ([.ref h_t]) (n := 3) (Nat.le_of_ble_eq_true rfl)
  rw [lg_entry_eq]
  generalize (lg_sl ([.ref h_t]) ++ List.replicate (3 - (lg_sl ([.ref h_t])).length) Slot.unset).toArray = ls at hl ⊢
  have hl : lv_has ls 3 [(0, .ref h_t)] := hl
  have hF : 0 ≤ (headSpec [Cond.code yX0_bitsLoaded cX0_bitsLoaded 3 (some .int)] ({ frames := 0, cells := 0, slots := 0, locals := 0 })).room.frames := Nat.le_refl _
  have hLo : 0 ≤ (headSpec [Cond.code yX0_bitsLoaded cX0_bitsLoaded 3 (some .int)] ({ frames := 0, cells := 0, slots := 0, locals := 0 })).room.locals := Nat.le_refl _
  have C0 : Sx p (headSpec [Cond.code yX0_bitsLoaded cX0_bitsLoaded 3 (some .int)] ({ frames := 0, cells := 0, slots := 0, locals := 0 })).room s m ([.ref h_t] : List Value).toArray c cX0_bitsLoaded 3 RX0 A dC dI cI cL cB 0 0 := ⟨hx, hb, hml, hown, hts, hK, hT, hA, hF, hLo⟩
  refine startH (A := A) hP (fun H locs hP hS => ?_)
  rw [fX0_bitsLoaded] at hf
  refine lv_iconst (v := (0 : Int32)) hx hb dX0_bitsLoaded_0 (by decide) ?_
  refine lv_istore_n (lv' := [(1, .int (0 : Int32)), (0, .ref h_t)]) hx hb dX0_bitsLoaded_1 rfl hl (Nat.le_of_ble_eq_true rfl) rfl (fun ls hl => ?_)
  refine lv_iconst (v := (0 : Int32)) hx hb dX0_bitsLoaded_2 (by decide) ?_
  refine lv_istore_n (lv' := [(2, .int (0 : Int32)), (1, .int (0 : Int32)), (0, .ref h_t)]) hx hb dX0_bitsLoaded_3 rfl hl (Nat.le_of_ble_eq_true rfl) rfl (fun ls hl => ?_)
  obtain ⟨l1_8, hq_7, hf⟩ := b1_some hf
  refine wX0_bitsLoaded_L4 C0 h_t h_t_x h_t_y h_t_colour h_t_load t_size t_centreX t_centreY t_load K (0 : Int32) (0 : Int32) l1_8 H locs ls hP hD hS (lv_sub hl [2, 1, 0] rfl) hq_7 ?_
  intro H locs ls hP hD hS hl
  refine lv_iload_n hx hb dX0_bitsLoaded_33 rfl (lv_at hl 0 rfl) ?_
  obtain rfl := o1 hf
  exact W.iret hx hb hr (fun t ht hW => ⟨⟨_, (), rfl, rfl, by rw [ht]; exact hP, hD⟩, hS.F ht⟩) hS.2.2 dX0_bitsLoaded_34
theorem dX11_count_0 : decode cX11_count 0 = .ok (.iload_n 1, 1) := by decide +kernel
theorem dX11_count_1 : decode cX11_count 1 = .ok (.tableswitch 74 0 5 #[39, 47, 47, 47, 58, 66], 39) := by decide +kernel
theorem dX11_count_40 : decode cX11_count 40 = .ok (.aload_n 0, 1) := by decide +kernel
theorem dX11_count_41 : decode cX11_count 41 = .ok (.getfield 12, 3) := by decide +kernel
theorem dX11_count_44 : decode cX11_count 44 = .ok (.getfield 111, 3) := by decide +kernel
theorem dX11_count_47 : decode cX11_count 47 = .ok (.ireturn, 1) := by decide +kernel
theorem dX11_count_48 : decode cX11_count 48 = .ok (.aload_n 0, 1) := by decide +kernel
theorem dX11_count_49 : decode cX11_count 49 = .ok (.getfield 12, 3) := by decide +kernel
theorem dX11_count_52 : decode cX11_count 52 = .ok (.iload_n 1, 1) := by decide +kernel
theorem dX11_count_53 : decode cX11_count 53 = .ok (.iconst 1, 1) := by decide +kernel
theorem dX11_count_54 : decode cX11_count 54 = .ok (.isub, 1) := by decide +kernel
theorem dX11_count_55 : decode cX11_count 55 = .ok (.invokevirtual 120, 3) := by decide +kernel
theorem dX11_count_58 : decode cX11_count 58 = .ok (.ireturn, 1) := by decide +kernel
theorem dX11_count_59 : decode cX11_count 59 = .ok (.aload_n 0, 1) := by decide +kernel
theorem dX11_count_60 : decode cX11_count 60 = .ok (.getfield 12, 3) := by decide +kernel
theorem dX11_count_63 : decode cX11_count 63 = .ok (.invokevirtual 124, 3) := by decide +kernel
theorem dX11_count_66 : decode cX11_count 66 = .ok (.ireturn, 1) := by decide +kernel
theorem dX11_count_67 : decode cX11_count 67 = .ok (.aload_n 0, 1) := by decide +kernel
theorem dX11_count_68 : decode cX11_count 68 = .ok (.getfield 21, 3) := by decide +kernel
theorem dX11_count_71 : decode cX11_count 71 = .ok (.getfield 96, 3) := by decide +kernel
theorem dX11_count_74 : decode cX11_count 74 = .ok (.ireturn, 1) := by decide +kernel
theorem dX11_count_75 : decode cX11_count 75 = .ok (.iconst (-1), 1) := by decide +kernel
theorem dX11_count_76 : decode cX11_count 76 = .ok (.ireturn, 1) := by decide +kernel
set_option maxRecDepth 100000 in
set_option maxHeartbeats 4000000 in
theorem mtX11_count (l : Launch) (dC : Nat → ClassId) (dI : Nat → Nat → Nat) (cI cL cB : ClassId) (K : Nat) (h_t h_t_cloud h_t_reader h_t_hull h_t_near h_t_firstTie h_t_reducer h_t_chooser h_t_pair h_t_divider h_t_depths h_t_spot h_t_cloud_x h_t_cloud_y h_t_cloud_colour h_t_cloud_load h_t_reader_tape h_t_reader_draft : Nat) (sz : Nat) (t_cloud_size : Int32) (t_cloud_centreX : Int32) (t_cloud_centreY : Int32) (t_cloud_colour : Nat → Int32) (t_cloud_load : Nat → Int32) (t_reader_length : Int32) (t_reader_faultKind : Int32) (t_reader_faultPlace : Int32) (t_reader_centreTold : Int32) (t_reader_start : Int32) (t_reader_next : Int32) (t_reader_kind : Int32) (t_reader_value : Int32) (a1 : Int32) (o_r : Int32) (hf : fX11_count K t_cloud_size t_cloud_colour t_cloud_load t_reader_length a1 = some o_r) : Met l yX11_count [Cond.code yX11_count cX11_count 2 (some .int)] ({ frames := 1, cells := 0, slots := 0, locals := 23 }) (va_Pc [.ref h_t, .int a1] (cPre dC dI cI cL cB sz [(h_t, .inr (11, [.ref h_t_cloud, .ref h_t_reader, .ref h_t_hull, .ref h_t_near, .ref h_t_firstTie, .ref h_t_reducer, .ref h_t_chooser, .ref h_t_pair, .ref h_t_divider, .ref h_t_depths, .ref h_t_spot])), (h_t_cloud, .inr (0, [.ref h_t_cloud_x, .ref h_t_cloud_y, .ref h_t_cloud_colour, .ref h_t_cloud_load, .int t_cloud_size, .int t_cloud_centreX, .int t_cloud_centreY])), (h_t_cloud_colour, .inl (cI, 24, .inl t_cloud_colour)), (h_t_cloud_load, .inl (cI, 24, .inl t_cloud_load)), (h_t_reader, .inr (8, [.ref h_t_reader_tape, .ref h_t_reader_draft, .int t_reader_length, .int t_reader_faultKind, .int t_reader_faultPlace, .int t_reader_centreTold, .int t_reader_start, .int t_reader_next, .int t_reader_kind, .int t_reader_value]))])) (cQi dC dI (va_A [(h_t, .inr (11, [.ref h_t_cloud, .ref h_t_reader, .ref h_t_hull, .ref h_t_near, .ref h_t_firstTie, .ref h_t_reducer, .ref h_t_chooser, .ref h_t_pair, .ref h_t_divider, .ref h_t_depths, .ref h_t_spot])), (h_t_cloud, .inr (0, [.ref h_t_cloud_x, .ref h_t_cloud_y, .ref h_t_cloud_colour, .ref h_t_cloud_load, .int t_cloud_size, .int t_cloud_centreX, .int t_cloud_centreY])), (h_t_cloud_colour, .inl (cI, 24, .inl t_cloud_colour)), (h_t_cloud_load, .inl (cI, 24, .inl t_cloud_load)), (h_t_reader, .inr (8, [.ref h_t_reader_tape, .ref h_t_reader_draft, .int t_reader_length, .int t_reader_faultKind, .int t_reader_faultPlace, .int t_reader_centreTold, .int t_reader_start, .int t_reader_next, .int t_reader_kind, .int t_reader_value]))] sz) o_r [(h_t, .inr (11, [.ref h_t_cloud, .ref h_t_reader, .ref h_t_hull, .ref h_t_near, .ref h_t_firstTie, .ref h_t_reducer, .ref h_t_chooser, .ref h_t_pair, .ref h_t_divider, .ref h_t_depths, .ref h_t_spot])), (h_t_cloud, .inr (0, [.ref h_t_cloud_x, .ref h_t_cloud_y, .ref h_t_cloud_colour, .ref h_t_cloud_load, .int t_cloud_size, .int t_cloud_centreX, .int t_cloud_centreY])), (h_t_cloud_colour, .inl (cI, 24, .inl t_cloud_colour)), (h_t_cloud_load, .inl (cI, 24, .inl t_cloud_load)), (h_t_reader, .inr (8, [.ref h_t_reader_tape, .ref h_t_reader_draft, .int t_reader_length, .int t_reader_faultKind, .int t_reader_faultPlace, .int t_reader_centreTold, .int t_reader_start, .int t_reader_next, .int t_reader_kind, .int t_reader_value]))]) 0 0 (va_A [(h_t, .inr (11, [.ref h_t_cloud, .ref h_t_reader, .ref h_t_hull, .ref h_t_near, .ref h_t_firstTie, .ref h_t_reducer, .ref h_t_chooser, .ref h_t_pair, .ref h_t_divider, .ref h_t_depths, .ref h_t_spot])), (h_t_cloud, .inr (0, [.ref h_t_cloud_x, .ref h_t_cloud_y, .ref h_t_cloud_colour, .ref h_t_cloud_load, .int t_cloud_size, .int t_cloud_centreX, .int t_cloud_centreY])), (h_t_cloud_colour, .inl (cI, 24, .inl t_cloud_colour)), (h_t_cloud_load, .inl (cI, 24, .inl t_cloud_load)), (h_t_reader, .inr (8, [.ref h_t_reader_tape, .ref h_t_reader_draft, .int t_reader_length, .int t_reader_faultKind, .int t_reader_faultPlace, .int t_reader_centreTold, .int t_reader_start, .int t_reader_next, .int t_reader_kind, .int t_reader_value]))] sz) := by
  refine Met.ofW (cc := cX11_count) (maxL := 2) (ret := (some .int)) (by decide) rfl ?_
  intro p e s m args below meth c s₁ B hml hv
  obtain ⟨rfl, hsz, hP, hK, hD0, hT⟩ := hv
  have hx := B.exec
  have hb := B.bytes
  have hr := B.returns
  have hown : s.vm.findClass RX11 = some m.cls := findClass_of_methodNamed B.named
  have hlocks := B.notSynchronized
  have hts := TB.use hT ([.ref h_t, .int a1] : List Value).toArray
  subst hsz
  have hD := hD0.self (sz := s.heap.size)
  generalize hAe : va_A [(h_t, .inr (11, [.ref h_t_cloud, .ref h_t_reader, .ref h_t_hull, .ref h_t_near, .ref h_t_firstTie, .ref h_t_reducer, .ref h_t_chooser, .ref h_t_pair, .ref h_t_divider, .ref h_t_depths, .ref h_t_spot])), (h_t_cloud, .inr (0, [.ref h_t_cloud_x, .ref h_t_cloud_y, .ref h_t_cloud_colour, .ref h_t_cloud_load, .int t_cloud_size, .int t_cloud_centreX, .int t_cloud_centreY])), (h_t_cloud_colour, .inl (cI, 24, .inl t_cloud_colour)), (h_t_cloud_load, .inl (cI, 24, .inl t_cloud_load)), (h_t_reader, .inr (8, [.ref h_t_reader_tape, .ref h_t_reader_draft, .int t_reader_length, .int t_reader_faultKind, .int t_reader_faultPlace, .int t_reader_centreTold, .int t_reader_start, .int t_reader_next, .int t_reader_kind, .int t_reader_value]))] s.heap.size = A at hD ⊢
  have hA : ∀ q : Nat, s.heap.size ≤ q → A q := fun q h => by rw [← hAe]; exact Or.inr h
  clear hAe hD0
  have hl := lv_entry ([.ref h_t, .int a1]) (n := 2) (Nat.le_of_ble_eq_true rfl)
  rw [lg_entry_eq]
  generalize (lg_sl ([.ref h_t, .int a1]) ++ List.replicate (2 - (lg_sl ([.ref h_t, .int a1])).length) Slot.unset).toArray = ls at hl ⊢
  have hl : lv_has ls 2 [(0, .ref h_t), (1, .int a1)] := hl
  have hF : 1 ≤ (headSpec [Cond.code yX11_count cX11_count 2 (some .int)] ({ frames := 1, cells := 0, slots := 0, locals := 23 })).room.frames := Nat.le_refl _
  have hLo : 23 ≤ (headSpec [Cond.code yX11_count cX11_count 2 (some .int)] ({ frames := 1, cells := 0, slots := 0, locals := 23 })).room.locals := Nat.le_refl _
  have C0 : Sx p (headSpec [Cond.code yX11_count cX11_count 2 (some .int)] ({ frames := 1, cells := 0, slots := 0, locals := 23 })).room s m ([.ref h_t, .int a1] : List Value).toArray c cX11_count 2 RX11 A dC dI cI cL cB 1 23 := ⟨hx, hb, hml, hown, hts, hK, hT, hA, hF, hLo⟩
  refine startH (A := A) hP (fun H locs hP hS => ?_)
  rw [fX11_count] at hf
  refine lv_iload_n hx hb dX11_count_0 rfl (lv_at hl 1 rfl) ?_
  obtain ⟨k_1, ek_1, hf⟩ := jn_out hf
  have J_2 : ∀ (H : Heap) (locs : List Loc) (ls : Array Slot), va_P (dC, dI) vwCl [(h_t, .inr (11, [.ref h_t_cloud, .ref h_t_reader, .ref h_t_hull, .ref h_t_near, .ref h_t_firstTie, .ref h_t_reducer, .ref h_t_chooser, .ref h_t_pair, .ref h_t_divider, .ref h_t_depths, .ref h_t_spot])), (h_t_cloud, .inr (0, [.ref h_t_cloud_x, .ref h_t_cloud_y, .ref h_t_cloud_colour, .ref h_t_cloud_load, .int t_cloud_size, .int t_cloud_centreX, .int t_cloud_centreY])), (h_t_cloud_colour, .inl (cI, 24, .inl t_cloud_colour)), (h_t_cloud_load, .inl (cI, 24, .inl t_cloud_load)), (h_t_reader, .inr (8, [.ref h_t_reader_tape, .ref h_t_reader_draft, .int t_reader_length, .int t_reader_faultKind, .int t_reader_faultPlace, .int t_reader_centreTold, .int t_reader_start, .int t_reader_next, .int t_reader_kind, .int t_reader_value]))] H → va_D A [(h_t, .inr (11, [.ref h_t_cloud, .ref h_t_reader, .ref h_t_hull, .ref h_t_near, .ref h_t_firstTie, .ref h_t_reducer, .ref h_t_chooser, .ref h_t_pair, .ref h_t_divider, .ref h_t_depths, .ref h_t_spot])), (h_t_cloud, .inr (0, [.ref h_t_cloud_x, .ref h_t_cloud_y, .ref h_t_cloud_colour, .ref h_t_cloud_load, .int t_cloud_size, .int t_cloud_centreX, .int t_cloud_centreY])), (h_t_cloud_colour, .inl (cI, 24, .inl t_cloud_colour)), (h_t_cloud_load, .inl (cI, 24, .inl t_cloud_load)), (h_t_reader, .inr (8, [.ref h_t_reader_tape, .ref h_t_reader_draft, .int t_reader_length, .int t_reader_faultKind, .int t_reader_faultPlace, .int t_reader_centreTold, .int t_reader_start, .int t_reader_next, .int t_reader_kind, .int t_reader_value]))] → va_S A s.heap H locs → lv_has ls 2 [(0, .ref h_t), (1, .int a1)] → k_1 = some o_r → W p l e (headSpec [Cond.code yX11_count cX11_count 2 (some .int)] ({ frames := 1, cells := 0, slots := 0, locals := 23 })).room s m ([.ref h_t, .int a1] : List Value).toArray below meth c H locs 0 0 (MQ below (cQi dC dI A o_r [(h_t, .inr (11, [.ref h_t_cloud, .ref h_t_reader, .ref h_t_hull, .ref h_t_near, .ref h_t_firstTie, .ref h_t_reducer, .ref h_t_chooser, .ref h_t_pair, .ref h_t_divider, .ref h_t_depths, .ref h_t_spot])), (h_t_cloud, .inr (0, [.ref h_t_cloud_x, .ref h_t_cloud_y, .ref h_t_cloud_colour, .ref h_t_cloud_load, .int t_cloud_size, .int t_cloud_centreX, .int t_cloud_centreY])), (h_t_cloud_colour, .inl (cI, 24, .inl t_cloud_colour)), (h_t_cloud_load, .inl (cI, 24, .inl t_cloud_load)), (h_t_reader, .inr (8, [.ref h_t_reader_tape, .ref h_t_reader_draft, .int t_reader_length, .int t_reader_faultKind, .int t_reader_faultPlace, .int t_reader_centreTold, .int t_reader_start, .int t_reader_next, .int t_reader_kind, .int t_reader_value]))]) ([.ref h_t, .int a1] : List Value).toArray s 0 0 A) (F0 m 48 ls []) := by
    intro H locs ls hP hD hS hl hf
    rw [ek_1] at hf
    refine lv_aload_n hx hb dX11_count_48 rfl (lv_at hl 0 rfl) ?_
    refine va_get (D := (dC, dI)) (ci := 11) (v := .ref h_t_cloud) (C := RX11) (T := TX11) (N := 11) hx hb hts in_X11 hown hK hP 0 rfl rfl 0 (Nat.le_of_ble_eq_true rfl) (hts _ qf_X11_12) (fun _ h9 => h9) rfl dX11_count_49 ?_
    refine lv_iload_n hx hb dX11_count_52 rfl (lv_at hl 1 rfl) ?_
    refine lv_iconst (v := (1 : Int32)) hx hb dX11_count_53 (by decide) ?_
    refine lv_isub hx hb dX11_count_54 ?_
    obtain ⟨r_3, hq_4, hf⟩ := b1_some hf
    refine xci (wr := [(h_t, .inr (11, [.ref h_t_cloud, .ref h_t_reader, .ref h_t_hull, .ref h_t_near, .ref h_t_firstTie, .ref h_t_reducer, .ref h_t_chooser, .ref h_t_pair, .ref h_t_divider, .ref h_t_depths, .ref h_t_spot])), (h_t_cloud_load, .inl (cI, 24, .inl t_cloud_load)), (h_t_reader, .inr (8, [.ref h_t_reader_tape, .ref h_t_reader_draft, .int t_reader_length, .int t_reader_faultKind, .int t_reader_faultPlace, .int t_reader_centreTold, .int t_reader_start, .int t_reader_next, .int t_reader_kind, .int t_reader_value]))]) (w2 := [(h_t, .inr (11, [.ref h_t_cloud, .ref h_t_reader, .ref h_t_hull, .ref h_t_near, .ref h_t_firstTie, .ref h_t_reducer, .ref h_t_chooser, .ref h_t_pair, .ref h_t_divider, .ref h_t_depths, .ref h_t_spot])), (h_t_cloud, .inr (0, [.ref h_t_cloud_x, .ref h_t_cloud_y, .ref h_t_cloud_colour, .ref h_t_cloud_load, .int t_cloud_size, .int t_cloud_centreX, .int t_cloud_centreY])), (h_t_cloud_colour, .inl (cI, 24, .inl t_cloud_colour)), (h_t_cloud_load, .inl (cI, 24, .inl t_cloud_load)), (h_t_reader, .inr (8, [.ref h_t_reader_tape, .ref h_t_reader_draft, .int t_reader_length, .int t_reader_faultKind, .int t_reader_faultPlace, .int t_reader_centreTold, .int t_reader_start, .int t_reader_next, .int t_reader_kind, .int t_reader_value]))]) (va_runV (As := [.int (a1 - (1 : Int32))]) (rest := []) ⟨hx, hb, hml, hown, hts⟩ (mtX0_bitsOfColour l dC dI cI cL cB K h_t_cloud h_t_cloud_x h_t_cloud_y h_t_cloud_colour h_t_cloud_load H.size t_cloud_size t_cloud_centreX t_cloud_centreY t_cloud_colour (a1 - (1 : Int32)) r_3 hq_4) (cwV 1 hts gv_X11_120 rfl rfl rfl hdV_X0_bitsOfColour ⟨Nat.le_trans (Nat.le_of_ble_eq_true rfl) hF, Nat.le_trans (Nat.le_of_ble_eq_true rfl) hLo⟩) (cPreV hK hP hD hT [1, 2] rfl rfl (ci := 0) (q0 := 0) rfl rfl) rfl rfl hl.1 rfl (lv_room (Nat.le_of_ble_eq_true rfl)) dX11_count_55 ⟨Nat.zero_le _, Nat.zero_le _⟩) hP hD hS hA [1, 2] [0, 3, 4] [0, 3, 4, 1, 2] rfl rfl rfl rfl rfl rfl (fun H locs hP hD hS => ?_)
    obtain rfl := o1 hf
    exact W.iret hx hb hr (fun t ht hW => ⟨⟨_, (), rfl, rfl, by rw [ht]; exact hP, hD⟩, hS.F ht⟩) hS.2.2 dX11_count_58
  by_cases hk_5 : a1 = (0 : Int32)
  · replace hf := it_t hk_5 hf
    refine lv_tableIn (off := 39) (tgt := 40) hx hb dX11_count_1 (by rw [hk_5]; decide) (by rw [hk_5]; decide) (by rw [hk_5]; decide) (by decide) ?_
    refine lv_aload_n hx hb dX11_count_40 rfl (lv_at hl 0 rfl) ?_
    refine va_get (D := (dC, dI)) (ci := 11) (v := .ref h_t_cloud) (C := RX11) (T := TX11) (N := 11) hx hb hts in_X11 hown hK hP 0 rfl rfl 0 (Nat.le_of_ble_eq_true rfl) (hts _ qf_X11_12) (fun _ h9 => h9) rfl dX11_count_41 ?_
    refine va_get (D := (dC, dI)) (ci := 0) (v := .int t_cloud_size) (C := RX0) (T := TX0) (N := 7) hx hb hts in_X0 hown hK hP 1 rfl rfl 4 (Nat.le_of_ble_eq_true rfl) (hts _ qf_X11_111) (fun _ h9 => h9) rfl dX11_count_44 ?_
    obtain rfl := o1 hf
    exact W.iret hx hb hr (fun t ht hW => ⟨⟨_, (), rfl, rfl, by rw [ht]; exact hP, hD⟩, hS.F ht⟩) hS.2.2 dX11_count_47
  · replace hf := it_f hk_5 hf
    by_cases hk_6 : a1 = (1 : Int32)
    · replace hf := it_t hk_6 hf
      refine lv_tableIn (off := 47) (tgt := 48) hx hb dX11_count_1 (by rw [hk_6]; decide) (by rw [hk_6]; decide) (by rw [hk_6]; decide) (by decide) ?_
      exact J_2 H locs ls hP hD hS (lv_sub hl [0, 1] rfl) hf
    · replace hf := it_f hk_6 hf
      by_cases hk_7 : a1 = (2 : Int32)
      · replace hf := it_t hk_7 hf
        refine lv_tableIn (off := 47) (tgt := 48) hx hb dX11_count_1 (by rw [hk_7]; decide) (by rw [hk_7]; decide) (by rw [hk_7]; decide) (by decide) ?_
        exact J_2 H locs ls hP hD hS (lv_sub hl [0, 1] rfl) hf
      · replace hf := it_f hk_7 hf
        by_cases hk_8 : a1 = (3 : Int32)
        · replace hf := it_t hk_8 hf
          refine lv_tableIn (off := 47) (tgt := 48) hx hb dX11_count_1 (by rw [hk_8]; decide) (by rw [hk_8]; decide) (by rw [hk_8]; decide) (by decide) ?_
          exact J_2 H locs ls hP hD hS (lv_sub hl [0, 1] rfl) hf
        · replace hf := it_f hk_8 hf
          by_cases hk_9 : a1 = (4 : Int32)
          · replace hf := it_t hk_9 hf
            refine lv_tableIn (off := 58) (tgt := 59) hx hb dX11_count_1 (by rw [hk_9]; decide) (by rw [hk_9]; decide) (by rw [hk_9]; decide) (by decide) ?_
            refine lv_aload_n hx hb dX11_count_59 rfl (lv_at hl 0 rfl) ?_
            refine va_get (D := (dC, dI)) (ci := 11) (v := .ref h_t_cloud) (C := RX11) (T := TX11) (N := 11) hx hb hts in_X11 hown hK hP 0 rfl rfl 0 (Nat.le_of_ble_eq_true rfl) (hts _ qf_X11_12) (fun _ h9 => h9) rfl dX11_count_60 ?_
            obtain ⟨r_10, hq_11, hf⟩ := b1_some hf
            refine xci (wr := [(h_t, .inr (11, [.ref h_t_cloud, .ref h_t_reader, .ref h_t_hull, .ref h_t_near, .ref h_t_firstTie, .ref h_t_reducer, .ref h_t_chooser, .ref h_t_pair, .ref h_t_divider, .ref h_t_depths, .ref h_t_spot])), (h_t_cloud_colour, .inl (cI, 24, .inl t_cloud_colour)), (h_t_reader, .inr (8, [.ref h_t_reader_tape, .ref h_t_reader_draft, .int t_reader_length, .int t_reader_faultKind, .int t_reader_faultPlace, .int t_reader_centreTold, .int t_reader_start, .int t_reader_next, .int t_reader_kind, .int t_reader_value]))]) (w2 := [(h_t, .inr (11, [.ref h_t_cloud, .ref h_t_reader, .ref h_t_hull, .ref h_t_near, .ref h_t_firstTie, .ref h_t_reducer, .ref h_t_chooser, .ref h_t_pair, .ref h_t_divider, .ref h_t_depths, .ref h_t_spot])), (h_t_cloud, .inr (0, [.ref h_t_cloud_x, .ref h_t_cloud_y, .ref h_t_cloud_colour, .ref h_t_cloud_load, .int t_cloud_size, .int t_cloud_centreX, .int t_cloud_centreY])), (h_t_cloud_colour, .inl (cI, 24, .inl t_cloud_colour)), (h_t_cloud_load, .inl (cI, 24, .inl t_cloud_load)), (h_t_reader, .inr (8, [.ref h_t_reader_tape, .ref h_t_reader_draft, .int t_reader_length, .int t_reader_faultKind, .int t_reader_faultPlace, .int t_reader_centreTold, .int t_reader_start, .int t_reader_next, .int t_reader_kind, .int t_reader_value]))]) (va_runV (As := []) (rest := []) ⟨hx, hb, hml, hown, hts⟩ (mtX0_bitsLoaded l dC dI cI cL cB K h_t_cloud h_t_cloud_x h_t_cloud_y h_t_cloud_colour h_t_cloud_load H.size t_cloud_size t_cloud_centreX t_cloud_centreY t_cloud_load r_10 hq_11) (cwV 0 hts gv_X11_124 rfl rfl rfl hdV_X0_bitsLoaded ⟨Nat.le_trans (Nat.le_of_ble_eq_true rfl) hF, Nat.le_trans (Nat.le_of_ble_eq_true rfl) hLo⟩) (cPreV hK hP hD hT [1, 3] rfl rfl (ci := 0) (q0 := 0) rfl rfl) rfl rfl hl.1 rfl (lv_room (Nat.le_of_ble_eq_true rfl)) dX11_count_63 ⟨Nat.zero_le _, Nat.zero_le _⟩) hP hD hS hA [1, 3] [0, 2, 4] [0, 3, 1, 4, 2] rfl rfl rfl rfl rfl rfl (fun H locs hP hD hS => ?_)
            obtain rfl := o1 hf
            exact W.iret hx hb hr (fun t ht hW => ⟨⟨_, (), rfl, rfl, by rw [ht]; exact hP, hD⟩, hS.F ht⟩) hS.2.2 dX11_count_66
          · replace hf := it_f hk_9 hf
            by_cases hk_12 : a1 = (5 : Int32)
            · replace hf := it_t hk_12 hf
              refine lv_tableIn (off := 66) (tgt := 67) hx hb dX11_count_1 (by rw [hk_12]; decide) (by rw [hk_12]; decide) (by rw [hk_12]; decide) (by decide) ?_
              refine lv_aload_n hx hb dX11_count_67 rfl (lv_at hl 0 rfl) ?_
              refine va_get (D := (dC, dI)) (ci := 11) (v := .ref h_t_reader) (C := RX11) (T := TX11) (N := 11) hx hb hts in_X11 hown hK hP 0 rfl rfl 1 (Nat.le_of_ble_eq_true rfl) (hts _ qf_X11_21) (fun _ h9 => h9) rfl dX11_count_68 ?_
              refine va_get (D := (dC, dI)) (ci := 8) (v := .int t_reader_length) (C := RX8) (T := TX8) (N := 10) hx hb hts in_X8 hown hK hP 4 rfl rfl 2 (Nat.le_of_ble_eq_true rfl) (hts _ qf_X11_96) (fun _ h9 => h9) rfl dX11_count_71 ?_
              obtain rfl := o1 hf
              exact W.iret hx hb hr (fun t ht hW => ⟨⟨_, (), rfl, rfl, by rw [ht]; exact hP, hD⟩, hS.F ht⟩) hS.2.2 dX11_count_74
            · replace hf := it_f hk_12 hf
              have z0 := lv_neT (a := 0) hk_5 (by decide)
              have z1 := lv_neT (a := 1) hk_6 (by decide)
              have z2 := lv_neT (a := 2) hk_7 (by decide)
              have z3 := lv_neT (a := 3) hk_8 (by decide)
              have z4 := lv_neT (a := 4) hk_9 (by decide)
              have z5 := lv_neT (a := 5) hk_12 (by decide)
              refine lv_tableOut (tgt := 75) hx hb dX11_count_1 (by omega) (by decide) ?_
              refine lv_iconst (v := (-1 : Int32)) hx hb dX11_count_75 (by decide) ?_
              obtain rfl := o1 hf
              exact W.iret hx hb hr (fun t ht hW => ⟨⟨_, (), rfl, rfl, by rw [ht]; exact hP, hD⟩, hS.F ht⟩) hS.2.2 dX11_count_76
theorem dX0_has_0 : decode cX0_has 0 = .ok (.iload_n 1, 1) := by decide +kernel
theorem dX0_has_1 : decode cX0_has 1 = .ok (.ifCond .lt 15, 3) := by decide +kernel
theorem dX0_has_4 : decode cX0_has 4 = .ok (.iload_n 1, 1) := by decide +kernel
theorem dX0_has_5 : decode cX0_has 5 = .ok (.aload_n 0, 1) := by decide +kernel
theorem dX0_has_6 : decode cX0_has 6 = .ok (.getfield 24, 3) := by decide +kernel
theorem dX0_has_9 : decode cX0_has 9 = .ok (.if_icmp .ge 7, 3) := by decide +kernel
theorem dX0_has_12 : decode cX0_has 12 = .ok (.iconst 1, 1) := by decide +kernel
theorem dX0_has_13 : decode cX0_has 13 = .ok (.goto 4, 3) := by decide +kernel
theorem dX0_has_16 : decode cX0_has 16 = .ok (.iconst 0, 1) := by decide +kernel
theorem dX0_has_17 : decode cX0_has 17 = .ok (.ireturn, 1) := by decide +kernel
set_option maxRecDepth 100000 in
set_option maxHeartbeats 4000000 in
theorem mtX0_has (l : Launch) (dC : Nat → ClassId) (dI : Nat → Nat → Nat) (cI cL cB : ClassId) (K : Nat) (h_t h_t_x h_t_y h_t_colour h_t_load : Nat) (sz : Nat) (t_size : Int32) (t_centreX : Int32) (t_centreY : Int32) (a1 : Int32) (o_r : Int32) (hf : fX0_has K t_size a1 = some o_r) : Met l yX0_has [Cond.code yX0_has cX0_has 2 (some .boolean)] ({ frames := 0, cells := 0, slots := 0, locals := 0 }) (va_Pc [.ref h_t, .int a1] (cPre dC dI cI cL cB sz [(h_t, .inr (0, [.ref h_t_x, .ref h_t_y, .ref h_t_colour, .ref h_t_load, .int t_size, .int t_centreX, .int t_centreY]))])) (cQi dC dI (va_A [(h_t, .inr (0, [.ref h_t_x, .ref h_t_y, .ref h_t_colour, .ref h_t_load, .int t_size, .int t_centreX, .int t_centreY]))] sz) o_r [(h_t, .inr (0, [.ref h_t_x, .ref h_t_y, .ref h_t_colour, .ref h_t_load, .int t_size, .int t_centreX, .int t_centreY]))]) 0 0 (va_A [(h_t, .inr (0, [.ref h_t_x, .ref h_t_y, .ref h_t_colour, .ref h_t_load, .int t_size, .int t_centreX, .int t_centreY]))] sz) := by
  refine Met.ofW (cc := cX0_has) (maxL := 2) (ret := (some .boolean)) (by decide) rfl ?_
  intro p e s m args below meth c s₁ B hml hv
  obtain ⟨rfl, hsz, hP, hK, hD0, hT⟩ := hv
  have hx := B.exec
  have hb := B.bytes
  have hr := B.returns
  have hown : s.vm.findClass RX0 = some m.cls := findClass_of_methodNamed B.named
  have hlocks := B.notSynchronized
  have hts := TB.use hT ([.ref h_t, .int a1] : List Value).toArray
  subst hsz
  have hD := hD0.self (sz := s.heap.size)
  generalize hAe : va_A [(h_t, .inr (0, [.ref h_t_x, .ref h_t_y, .ref h_t_colour, .ref h_t_load, .int t_size, .int t_centreX, .int t_centreY]))] s.heap.size = A at hD ⊢
  have hA : ∀ q : Nat, s.heap.size ≤ q → A q := fun q h => by rw [← hAe]; exact Or.inr h
  clear hAe hD0
  have hl := lv_entry ([.ref h_t, .int a1]) (n := 2) (Nat.le_of_ble_eq_true rfl)
  rw [lg_entry_eq]
  generalize (lg_sl ([.ref h_t, .int a1]) ++ List.replicate (2 - (lg_sl ([.ref h_t, .int a1])).length) Slot.unset).toArray = ls at hl ⊢
  have hl : lv_has ls 2 [(0, .ref h_t), (1, .int a1)] := hl
  have hF : 0 ≤ (headSpec [Cond.code yX0_has cX0_has 2 (some .boolean)] ({ frames := 0, cells := 0, slots := 0, locals := 0 })).room.frames := Nat.le_refl _
  have hLo : 0 ≤ (headSpec [Cond.code yX0_has cX0_has 2 (some .boolean)] ({ frames := 0, cells := 0, slots := 0, locals := 0 })).room.locals := Nat.le_refl _
  have C0 : Sx p (headSpec [Cond.code yX0_has cX0_has 2 (some .boolean)] ({ frames := 0, cells := 0, slots := 0, locals := 0 })).room s m ([.ref h_t, .int a1] : List Value).toArray c cX0_has 2 RX0 A dC dI cI cL cB 0 0 := ⟨hx, hb, hml, hown, hts, hK, hT, hA, hF, hLo⟩
  refine startH (A := A) hP (fun H locs hP hS => ?_)
  rw [fX0_has] at hf
  refine lv_iload_n hx hb dX0_has_0 rfl (lv_at hl 1 rfl) ?_
  refine lv_if_lt (tgt := 16) hx hb dX0_has_1 (by decide) (fun hc => ?_) (fun hc => ?_)
  · replace hf := it_t (hc) hf
    refine lv_iconst (v := (0 : Int32)) hx hb dX0_has_16 (by decide) ?_
    obtain rfl := o1 hf
    exact W.zret hx hb hr rfl (fun t ht hW => ⟨⟨_, (), rfl, rfl, by rw [ht]; exact hP, hD⟩, hS.F ht⟩) hS.2.2 dX0_has_17
  · replace hf := it_f (hc) hf
    refine lv_iload_n hx hb dX0_has_4 rfl (lv_at hl 1 rfl) ?_
    refine lv_aload_n hx hb dX0_has_5 rfl (lv_at hl 0 rfl) ?_
    refine va_get (D := (dC, dI)) (ci := 0) (v := .int t_size) (C := RX0) (T := TX0) (N := 7) hx hb hts in_X0 hown hK hP 0 rfl rfl 4 (Nat.le_of_ble_eq_true rfl) (hts _ qf_X0_24) (fun _ h9 => h9) rfl dX0_has_6 ?_
    refine lv_icmp_ge (tgt := 16) hx hb dX0_has_9 (by decide) (fun hc => ?_) (fun hc => ?_)
    · replace hf := it_t (hc) hf
      refine lv_iconst (v := (0 : Int32)) hx hb dX0_has_16 (by decide) ?_
      obtain rfl := o1 hf
      exact W.zret hx hb hr rfl (fun t ht hW => ⟨⟨_, (), rfl, rfl, by rw [ht]; exact hP, hD⟩, hS.F ht⟩) hS.2.2 dX0_has_17
    · replace hf := it_f (hc) hf
      refine lv_iconst (v := (1 : Int32)) hx hb dX0_has_12 (by decide) ?_
      refine lv_goto (tgt := 17) hx hb dX0_has_13 (by decide) ?_
      obtain rfl := o1 hf
      exact W.zret hx hb hr rfl (fun t ht hW => ⟨⟨_, (), rfl, rfl, by rw [ht]; exact hP, hD⟩, hS.F ht⟩) hS.2.2 dX0_has_17
theorem dX11_point_0 : decode cX11_point 0 = .ok (.aload_n 0, 1) := by decide +kernel
theorem dX11_point_1 : decode cX11_point 1 = .ok (.getfield 12, 3) := by decide +kernel
theorem dX11_point_4 : decode cX11_point 4 = .ok (.iload_n 1, 1) := by decide +kernel
theorem dX11_point_5 : decode cX11_point 5 = .ok (.invokevirtual 128, 3) := by decide +kernel
theorem dX11_point_8 : decode cX11_point 8 = .ok (.ifCond .ne 7, 3) := by decide +kernel
theorem dX11_point_11 : decode cX11_point 11 = .ok (.ldc2_w 131, 3) := by decide +kernel
theorem dX11_point_14 : decode cX11_point 14 = .ok (.lreturn, 1) := by decide +kernel
theorem dX11_point_15 : decode cX11_point 15 = .ok (.iload_n 2, 1) := by decide +kernel
theorem dX11_point_16 : decode cX11_point 16 = .ok (.tableswitch 76 0 3 #[32, 43, 54, 65], 32) := by decide +kernel
theorem dX11_point_48 : decode cX11_point 48 = .ok (.aload_n 0, 1) := by decide +kernel
theorem dX11_point_49 : decode cX11_point 49 = .ok (.getfield 12, 3) := by decide +kernel
theorem dX11_point_52 : decode cX11_point 52 = .ok (.getfield 133, 3) := by decide +kernel
theorem dX11_point_55 : decode cX11_point 55 = .ok (.iload_n 1, 1) := by decide +kernel
theorem dX11_point_56 : decode cX11_point 56 = .ok (.iaload, 1) := by decide +kernel
theorem dX11_point_57 : decode cX11_point 57 = .ok (.i2l, 1) := by decide +kernel
theorem dX11_point_58 : decode cX11_point 58 = .ok (.lreturn, 1) := by decide +kernel
theorem dX11_point_59 : decode cX11_point 59 = .ok (.aload_n 0, 1) := by decide +kernel
theorem dX11_point_60 : decode cX11_point 60 = .ok (.getfield 12, 3) := by decide +kernel
theorem dX11_point_63 : decode cX11_point 63 = .ok (.getfield 137, 3) := by decide +kernel
theorem dX11_point_66 : decode cX11_point 66 = .ok (.iload_n 1, 1) := by decide +kernel
theorem dX11_point_67 : decode cX11_point 67 = .ok (.iaload, 1) := by decide +kernel
theorem dX11_point_68 : decode cX11_point 68 = .ok (.i2l, 1) := by decide +kernel
theorem dX11_point_69 : decode cX11_point 69 = .ok (.lreturn, 1) := by decide +kernel
theorem dX11_point_70 : decode cX11_point 70 = .ok (.aload_n 0, 1) := by decide +kernel
theorem dX11_point_71 : decode cX11_point 71 = .ok (.getfield 12, 3) := by decide +kernel
theorem dX11_point_74 : decode cX11_point 74 = .ok (.getfield 140, 3) := by decide +kernel
theorem dX11_point_77 : decode cX11_point 77 = .ok (.iload_n 1, 1) := by decide +kernel
theorem dX11_point_78 : decode cX11_point 78 = .ok (.iaload, 1) := by decide +kernel
theorem dX11_point_79 : decode cX11_point 79 = .ok (.i2l, 1) := by decide +kernel
theorem dX11_point_80 : decode cX11_point 80 = .ok (.lreturn, 1) := by decide +kernel
theorem dX11_point_81 : decode cX11_point 81 = .ok (.aload_n 0, 1) := by decide +kernel
theorem dX11_point_82 : decode cX11_point 82 = .ok (.getfield 12, 3) := by decide +kernel
theorem dX11_point_85 : decode cX11_point 85 = .ok (.getfield 143, 3) := by decide +kernel
theorem dX11_point_88 : decode cX11_point 88 = .ok (.iload_n 1, 1) := by decide +kernel
theorem dX11_point_89 : decode cX11_point 89 = .ok (.iaload, 1) := by decide +kernel
theorem dX11_point_90 : decode cX11_point 90 = .ok (.i2l, 1) := by decide +kernel
theorem dX11_point_91 : decode cX11_point 91 = .ok (.lreturn, 1) := by decide +kernel
theorem dX11_point_92 : decode cX11_point 92 = .ok (.ldc2_w 131, 3) := by decide +kernel
theorem dX11_point_95 : decode cX11_point 95 = .ok (.lreturn, 1) := by decide +kernel
set_option maxRecDepth 100000 in
set_option maxHeartbeats 4000000 in
theorem mtX11_point (l : Launch) (dC : Nat → ClassId) (dI : Nat → Nat → Nat) (cI cL cB : ClassId) (K : Nat) (h_t h_t_cloud h_t_reader h_t_hull h_t_near h_t_firstTie h_t_reducer h_t_chooser h_t_pair h_t_divider h_t_depths h_t_spot h_t_cloud_x h_t_cloud_y h_t_cloud_colour h_t_cloud_load : Nat) (sz : Nat) (t_cloud_size : Int32) (t_cloud_centreX : Int32) (t_cloud_centreY : Int32) (t_cloud_x : Nat → Int32) (t_cloud_y : Nat → Int32) (t_cloud_colour : Nat → Int32) (t_cloud_load : Nat → Int32) (a1 : Int32) (a2 : Int32) (o_r : Int64) (hf : fX11_point K t_cloud_size t_cloud_x t_cloud_y t_cloud_colour t_cloud_load a1 a2 = some o_r) : Met l yX11_point [Cond.code yX11_point cX11_point 3 (some .long)] ({ frames := 1, cells := 0, slots := 0, locals := 21 }) (va_Pc [.ref h_t, .int a1, .int a2] (cPre dC dI cI cL cB sz [(h_t, .inr (11, [.ref h_t_cloud, .ref h_t_reader, .ref h_t_hull, .ref h_t_near, .ref h_t_firstTie, .ref h_t_reducer, .ref h_t_chooser, .ref h_t_pair, .ref h_t_divider, .ref h_t_depths, .ref h_t_spot])), (h_t_cloud, .inr (0, [.ref h_t_cloud_x, .ref h_t_cloud_y, .ref h_t_cloud_colour, .ref h_t_cloud_load, .int t_cloud_size, .int t_cloud_centreX, .int t_cloud_centreY])), (h_t_cloud_x, .inl (cI, 24, .inl t_cloud_x)), (h_t_cloud_y, .inl (cI, 24, .inl t_cloud_y)), (h_t_cloud_colour, .inl (cI, 24, .inl t_cloud_colour)), (h_t_cloud_load, .inl (cI, 24, .inl t_cloud_load))])) (cQl dC dI (va_A [(h_t, .inr (11, [.ref h_t_cloud, .ref h_t_reader, .ref h_t_hull, .ref h_t_near, .ref h_t_firstTie, .ref h_t_reducer, .ref h_t_chooser, .ref h_t_pair, .ref h_t_divider, .ref h_t_depths, .ref h_t_spot])), (h_t_cloud, .inr (0, [.ref h_t_cloud_x, .ref h_t_cloud_y, .ref h_t_cloud_colour, .ref h_t_cloud_load, .int t_cloud_size, .int t_cloud_centreX, .int t_cloud_centreY])), (h_t_cloud_x, .inl (cI, 24, .inl t_cloud_x)), (h_t_cloud_y, .inl (cI, 24, .inl t_cloud_y)), (h_t_cloud_colour, .inl (cI, 24, .inl t_cloud_colour)), (h_t_cloud_load, .inl (cI, 24, .inl t_cloud_load))] sz) o_r [(h_t, .inr (11, [.ref h_t_cloud, .ref h_t_reader, .ref h_t_hull, .ref h_t_near, .ref h_t_firstTie, .ref h_t_reducer, .ref h_t_chooser, .ref h_t_pair, .ref h_t_divider, .ref h_t_depths, .ref h_t_spot])), (h_t_cloud, .inr (0, [.ref h_t_cloud_x, .ref h_t_cloud_y, .ref h_t_cloud_colour, .ref h_t_cloud_load, .int t_cloud_size, .int t_cloud_centreX, .int t_cloud_centreY])), (h_t_cloud_x, .inl (cI, 24, .inl t_cloud_x)), (h_t_cloud_y, .inl (cI, 24, .inl t_cloud_y)), (h_t_cloud_colour, .inl (cI, 24, .inl t_cloud_colour)), (h_t_cloud_load, .inl (cI, 24, .inl t_cloud_load))]) 0 0 (va_A [(h_t, .inr (11, [.ref h_t_cloud, .ref h_t_reader, .ref h_t_hull, .ref h_t_near, .ref h_t_firstTie, .ref h_t_reducer, .ref h_t_chooser, .ref h_t_pair, .ref h_t_divider, .ref h_t_depths, .ref h_t_spot])), (h_t_cloud, .inr (0, [.ref h_t_cloud_x, .ref h_t_cloud_y, .ref h_t_cloud_colour, .ref h_t_cloud_load, .int t_cloud_size, .int t_cloud_centreX, .int t_cloud_centreY])), (h_t_cloud_x, .inl (cI, 24, .inl t_cloud_x)), (h_t_cloud_y, .inl (cI, 24, .inl t_cloud_y)), (h_t_cloud_colour, .inl (cI, 24, .inl t_cloud_colour)), (h_t_cloud_load, .inl (cI, 24, .inl t_cloud_load))] sz) := by
  refine Met.ofW (cc := cX11_point) (maxL := 3) (ret := (some .long)) (by decide) rfl ?_
  intro p e s m args below meth c s₁ B hml hv
  obtain ⟨rfl, hsz, hP, hK, hD0, hT⟩ := hv
  have hx := B.exec
  have hb := B.bytes
  have hr := B.returns
  have hown : s.vm.findClass RX11 = some m.cls := findClass_of_methodNamed B.named
  have hlocks := B.notSynchronized
  have hts := TB.use hT ([.ref h_t, .int a1, .int a2] : List Value).toArray
  subst hsz
  have hD := hD0.self (sz := s.heap.size)
  generalize hAe : va_A [(h_t, .inr (11, [.ref h_t_cloud, .ref h_t_reader, .ref h_t_hull, .ref h_t_near, .ref h_t_firstTie, .ref h_t_reducer, .ref h_t_chooser, .ref h_t_pair, .ref h_t_divider, .ref h_t_depths, .ref h_t_spot])), (h_t_cloud, .inr (0, [.ref h_t_cloud_x, .ref h_t_cloud_y, .ref h_t_cloud_colour, .ref h_t_cloud_load, .int t_cloud_size, .int t_cloud_centreX, .int t_cloud_centreY])), (h_t_cloud_x, .inl (cI, 24, .inl t_cloud_x)), (h_t_cloud_y, .inl (cI, 24, .inl t_cloud_y)), (h_t_cloud_colour, .inl (cI, 24, .inl t_cloud_colour)), (h_t_cloud_load, .inl (cI, 24, .inl t_cloud_load))] s.heap.size = A at hD ⊢
  have hA : ∀ q : Nat, s.heap.size ≤ q → A q := fun q h => by rw [← hAe]; exact Or.inr h
  clear hAe hD0
  have hl := lv_entry ([.ref h_t, .int a1, .int a2]) (n := 3) (Nat.le_of_ble_eq_true rfl)
  rw [lg_entry_eq]
  generalize (lg_sl ([.ref h_t, .int a1, .int a2]) ++ List.replicate (3 - (lg_sl ([.ref h_t, .int a1, .int a2])).length) Slot.unset).toArray = ls at hl ⊢
  have hl : lv_has ls 3 [(0, .ref h_t), (1, .int a1), (2, .int a2)] := hl
  have hF : 1 ≤ (headSpec [Cond.code yX11_point cX11_point 3 (some .long)] ({ frames := 1, cells := 0, slots := 0, locals := 21 })).room.frames := Nat.le_refl _
  have hLo : 21 ≤ (headSpec [Cond.code yX11_point cX11_point 3 (some .long)] ({ frames := 1, cells := 0, slots := 0, locals := 21 })).room.locals := Nat.le_refl _
  have C0 : Sx p (headSpec [Cond.code yX11_point cX11_point 3 (some .long)] ({ frames := 1, cells := 0, slots := 0, locals := 21 })).room s m ([.ref h_t, .int a1, .int a2] : List Value).toArray c cX11_point 3 RX11 A dC dI cI cL cB 1 21 := ⟨hx, hb, hml, hown, hts, hK, hT, hA, hF, hLo⟩
  refine startH (A := A) hP (fun H locs hP hS => ?_)
  rw [fX11_point] at hf
  refine lv_aload_n hx hb dX11_point_0 rfl (lv_at hl 0 rfl) ?_
  refine va_get (D := (dC, dI)) (ci := 11) (v := .ref h_t_cloud) (C := RX11) (T := TX11) (N := 11) hx hb hts in_X11 hown hK hP 0 rfl rfl 0 (Nat.le_of_ble_eq_true rfl) (hts _ qf_X11_12) (fun _ h9 => h9) rfl dX11_point_1 ?_
  refine lv_iload_n hx hb dX11_point_4 rfl (lv_at hl 1 rfl) ?_
  obtain ⟨r_1, hq_2, hf⟩ := b1_some hf
  refine xci (wr := [(h_t, .inr (11, [.ref h_t_cloud, .ref h_t_reader, .ref h_t_hull, .ref h_t_near, .ref h_t_firstTie, .ref h_t_reducer, .ref h_t_chooser, .ref h_t_pair, .ref h_t_divider, .ref h_t_depths, .ref h_t_spot])), (h_t_cloud_x, .inl (cI, 24, .inl t_cloud_x)), (h_t_cloud_y, .inl (cI, 24, .inl t_cloud_y)), (h_t_cloud_colour, .inl (cI, 24, .inl t_cloud_colour)), (h_t_cloud_load, .inl (cI, 24, .inl t_cloud_load))]) (w2 := [(h_t, .inr (11, [.ref h_t_cloud, .ref h_t_reader, .ref h_t_hull, .ref h_t_near, .ref h_t_firstTie, .ref h_t_reducer, .ref h_t_chooser, .ref h_t_pair, .ref h_t_divider, .ref h_t_depths, .ref h_t_spot])), (h_t_cloud, .inr (0, [.ref h_t_cloud_x, .ref h_t_cloud_y, .ref h_t_cloud_colour, .ref h_t_cloud_load, .int t_cloud_size, .int t_cloud_centreX, .int t_cloud_centreY])), (h_t_cloud_x, .inl (cI, 24, .inl t_cloud_x)), (h_t_cloud_y, .inl (cI, 24, .inl t_cloud_y)), (h_t_cloud_colour, .inl (cI, 24, .inl t_cloud_colour)), (h_t_cloud_load, .inl (cI, 24, .inl t_cloud_load))]) (va_runV (As := [.int a1]) (rest := []) ⟨hx, hb, hml, hown, hts⟩ (mtX0_has l dC dI cI cL cB K h_t_cloud h_t_cloud_x h_t_cloud_y h_t_cloud_colour h_t_cloud_load H.size t_cloud_size t_cloud_centreX t_cloud_centreY a1 r_1 hq_2) (cwV 1 hts gv_X11_128 rfl rfl rfl hdV_X0_has ⟨Nat.le_trans (Nat.le_of_ble_eq_true rfl) hF, Nat.le_trans (Nat.le_of_ble_eq_true rfl) hLo⟩) (cPreV hK hP hD hT [1] rfl rfl (ci := 0) (q0 := 0) rfl rfl) rfl rfl hl.1 rfl (lv_room (Nat.le_of_ble_eq_true rfl)) dX11_point_5 ⟨Nat.zero_le _, Nat.zero_le _⟩) hP hD hS hA [1] [0, 2, 3, 4, 5] [0, 5, 1, 2, 3, 4] rfl rfl rfl rfl rfl rfl (fun H locs hP hD hS => ?_)
  refine lv_if_ne (tgt := 15) hx hb dX11_point_8 (by decide) (fun hc => ?_) (fun hc => ?_)
  · replace hf := it_f (hc) hf
    refine lv_iload_n hx hb dX11_point_15 rfl (lv_at hl 2 rfl) ?_
    by_cases hk_3 : a2 = (0 : Int32)
    · replace hf := it_t hk_3 hf
      refine lv_tableIn (off := 32) (tgt := 48) hx hb dX11_point_16 (by rw [hk_3]; decide) (by rw [hk_3]; decide) (by rw [hk_3]; decide) (by decide) ?_
      refine lv_aload_n hx hb dX11_point_48 rfl (lv_at hl 0 rfl) ?_
      refine va_get (D := (dC, dI)) (ci := 11) (v := .ref h_t_cloud) (C := RX11) (T := TX11) (N := 11) hx hb hts in_X11 hown hK hP 0 rfl rfl 0 (Nat.le_of_ble_eq_true rfl) (hts _ qf_X11_12) (fun _ h9 => h9) rfl dX11_point_49 ?_
      refine va_get (D := (dC, dI)) (ci := 0) (v := .ref h_t_cloud_x) (C := RX0) (T := TX0) (N := 7) hx hb hts in_X0 hown hK hP 1 rfl rfl 0 (Nat.le_of_ble_eq_true rfl) (hts _ qf_X11_133) (fun _ h9 => h9) rfl dX11_point_52 ?_
      refine lv_iload_n hx hb dX11_point_55 rfl (lv_at hl 1 rfl) ?_
      obtain ⟨hg_4, hf⟩ := gd_some hf
      refine va_iald hx hb hK hP 2 0 rfl rfl (inb_in hg_4) dX11_point_56 ?_
      refine lv_i2l hx hb dX11_point_57 rfl ?_
      obtain rfl := o1 hf
      exact W.lret hx hb hr (fun t ht hW => ⟨⟨_, (), rfl, rfl, by rw [ht]; exact hP, hD⟩, hS.F ht⟩) hS.2.2 dX11_point_58
    · replace hf := it_f hk_3 hf
      by_cases hk_5 : a2 = (1 : Int32)
      · replace hf := it_t hk_5 hf
        refine lv_tableIn (off := 43) (tgt := 59) hx hb dX11_point_16 (by rw [hk_5]; decide) (by rw [hk_5]; decide) (by rw [hk_5]; decide) (by decide) ?_
        refine lv_aload_n hx hb dX11_point_59 rfl (lv_at hl 0 rfl) ?_
        refine va_get (D := (dC, dI)) (ci := 11) (v := .ref h_t_cloud) (C := RX11) (T := TX11) (N := 11) hx hb hts in_X11 hown hK hP 0 rfl rfl 0 (Nat.le_of_ble_eq_true rfl) (hts _ qf_X11_12) (fun _ h9 => h9) rfl dX11_point_60 ?_
        refine va_get (D := (dC, dI)) (ci := 0) (v := .ref h_t_cloud_y) (C := RX0) (T := TX0) (N := 7) hx hb hts in_X0 hown hK hP 1 rfl rfl 1 (Nat.le_of_ble_eq_true rfl) (hts _ qf_X11_137) (fun _ h9 => h9) rfl dX11_point_63 ?_
        refine lv_iload_n hx hb dX11_point_66 rfl (lv_at hl 1 rfl) ?_
        obtain ⟨hg_6, hf⟩ := gd_some hf
        refine va_iald hx hb hK hP 3 0 rfl rfl (inb_in hg_6) dX11_point_67 ?_
        refine lv_i2l hx hb dX11_point_68 rfl ?_
        obtain rfl := o1 hf
        exact W.lret hx hb hr (fun t ht hW => ⟨⟨_, (), rfl, rfl, by rw [ht]; exact hP, hD⟩, hS.F ht⟩) hS.2.2 dX11_point_69
      · replace hf := it_f hk_5 hf
        by_cases hk_7 : a2 = (2 : Int32)
        · replace hf := it_t hk_7 hf
          refine lv_tableIn (off := 54) (tgt := 70) hx hb dX11_point_16 (by rw [hk_7]; decide) (by rw [hk_7]; decide) (by rw [hk_7]; decide) (by decide) ?_
          refine lv_aload_n hx hb dX11_point_70 rfl (lv_at hl 0 rfl) ?_
          refine va_get (D := (dC, dI)) (ci := 11) (v := .ref h_t_cloud) (C := RX11) (T := TX11) (N := 11) hx hb hts in_X11 hown hK hP 0 rfl rfl 0 (Nat.le_of_ble_eq_true rfl) (hts _ qf_X11_12) (fun _ h9 => h9) rfl dX11_point_71 ?_
          refine va_get (D := (dC, dI)) (ci := 0) (v := .ref h_t_cloud_colour) (C := RX0) (T := TX0) (N := 7) hx hb hts in_X0 hown hK hP 1 rfl rfl 2 (Nat.le_of_ble_eq_true rfl) (hts _ qf_X11_140) (fun _ h9 => h9) rfl dX11_point_74 ?_
          refine lv_iload_n hx hb dX11_point_77 rfl (lv_at hl 1 rfl) ?_
          obtain ⟨hg_8, hf⟩ := gd_some hf
          refine va_iald hx hb hK hP 4 0 rfl rfl (inb_in hg_8) dX11_point_78 ?_
          refine lv_i2l hx hb dX11_point_79 rfl ?_
          obtain rfl := o1 hf
          exact W.lret hx hb hr (fun t ht hW => ⟨⟨_, (), rfl, rfl, by rw [ht]; exact hP, hD⟩, hS.F ht⟩) hS.2.2 dX11_point_80
        · replace hf := it_f hk_7 hf
          by_cases hk_9 : a2 = (3 : Int32)
          · replace hf := it_t hk_9 hf
            refine lv_tableIn (off := 65) (tgt := 81) hx hb dX11_point_16 (by rw [hk_9]; decide) (by rw [hk_9]; decide) (by rw [hk_9]; decide) (by decide) ?_
            refine lv_aload_n hx hb dX11_point_81 rfl (lv_at hl 0 rfl) ?_
            refine va_get (D := (dC, dI)) (ci := 11) (v := .ref h_t_cloud) (C := RX11) (T := TX11) (N := 11) hx hb hts in_X11 hown hK hP 0 rfl rfl 0 (Nat.le_of_ble_eq_true rfl) (hts _ qf_X11_12) (fun _ h9 => h9) rfl dX11_point_82 ?_
            refine va_get (D := (dC, dI)) (ci := 0) (v := .ref h_t_cloud_load) (C := RX0) (T := TX0) (N := 7) hx hb hts in_X0 hown hK hP 1 rfl rfl 3 (Nat.le_of_ble_eq_true rfl) (hts _ qf_X11_143) (fun _ h9 => h9) rfl dX11_point_85 ?_
            refine lv_iload_n hx hb dX11_point_88 rfl (lv_at hl 1 rfl) ?_
            obtain ⟨hg_10, hf⟩ := gd_some hf
            refine va_iald hx hb hK hP 5 0 rfl rfl (inb_in hg_10) dX11_point_89 ?_
            refine lv_i2l hx hb dX11_point_90 rfl ?_
            obtain rfl := o1 hf
            exact W.lret hx hb hr (fun t ht hW => ⟨⟨_, (), rfl, rfl, by rw [ht]; exact hP, hD⟩, hS.F ht⟩) hS.2.2 dX11_point_91
          · replace hf := it_f hk_9 hf
            have z0 := lv_neT (a := 0) hk_3 (by decide)
            have z1 := lv_neT (a := 1) hk_5 (by decide)
            have z2 := lv_neT (a := 2) hk_7 (by decide)
            have z3 := lv_neT (a := 3) hk_9 (by decide)
            refine lv_tableOut (tgt := 92) hx hb dX11_point_16 (by omega) (by decide) ?_
            refine lv_ldc2 (v := (-9223372036854775808 : Int64)) hx hb hown (hts _ qj_X11_131) dX11_point_92 ?_
            obtain rfl := o1 hf
            exact W.lret hx hb hr (fun t ht hW => ⟨⟨_, (), rfl, rfl, by rw [ht]; exact hP, hD⟩, hS.F ht⟩) hS.2.2 dX11_point_95
  · replace hf := it_t (hc) hf
    refine lv_ldc2 (v := (-9223372036854775808 : Int64)) hx hb hown (hts _ qj_X11_131) dX11_point_11 ?_
    obtain rfl := o1 hf
    exact W.lret hx hb hr (fun t ht hW => ⟨⟨_, (), rfl, rfl, by rw [ht]; exact hP, hD⟩, hS.F ht⟩) hS.2.2 dX11_point_14
theorem dX11_centre_0 : decode cX11_centre 0 = .ok (.iload_n 1, 1) := by decide +kernel
theorem dX11_centre_1 : decode cX11_centre 1 = .ok (.lookupswitch 45 #[(0, 27), (1, 36)], 27) := by decide +kernel
theorem dX11_centre_28 : decode cX11_centre 28 = .ok (.aload_n 0, 1) := by decide +kernel
theorem dX11_centre_29 : decode cX11_centre 29 = .ok (.getfield 12, 3) := by decide +kernel
theorem dX11_centre_32 : decode cX11_centre 32 = .ok (.getfield 146, 3) := by decide +kernel
theorem dX11_centre_35 : decode cX11_centre 35 = .ok (.i2l, 1) := by decide +kernel
theorem dX11_centre_36 : decode cX11_centre 36 = .ok (.lreturn, 1) := by decide +kernel
theorem dX11_centre_37 : decode cX11_centre 37 = .ok (.aload_n 0, 1) := by decide +kernel
theorem dX11_centre_38 : decode cX11_centre 38 = .ok (.getfield 12, 3) := by decide +kernel
theorem dX11_centre_41 : decode cX11_centre 41 = .ok (.getfield 149, 3) := by decide +kernel
theorem dX11_centre_44 : decode cX11_centre 44 = .ok (.i2l, 1) := by decide +kernel
theorem dX11_centre_45 : decode cX11_centre 45 = .ok (.lreturn, 1) := by decide +kernel
theorem dX11_centre_46 : decode cX11_centre 46 = .ok (.ldc2_w 131, 3) := by decide +kernel
theorem dX11_centre_49 : decode cX11_centre 49 = .ok (.lreturn, 1) := by decide +kernel
set_option maxRecDepth 100000 in
set_option maxHeartbeats 4000000 in
theorem mtX11_centre (l : Launch) (dC : Nat → ClassId) (dI : Nat → Nat → Nat) (cI cL cB : ClassId) (K : Nat) (h_t h_t_cloud h_t_reader h_t_hull h_t_near h_t_firstTie h_t_reducer h_t_chooser h_t_pair h_t_divider h_t_depths h_t_spot h_t_cloud_x h_t_cloud_y h_t_cloud_colour h_t_cloud_load : Nat) (sz : Nat) (t_cloud_size : Int32) (t_cloud_centreX : Int32) (t_cloud_centreY : Int32) (a1 : Int32) (o_r : Int64) (hf : fX11_centre K t_cloud_centreX t_cloud_centreY a1 = some o_r) : Met l yX11_centre [Cond.code yX11_centre cX11_centre 2 (some .long)] ({ frames := 0, cells := 0, slots := 0, locals := 0 }) (va_Pc [.ref h_t, .int a1] (cPre dC dI cI cL cB sz [(h_t, .inr (11, [.ref h_t_cloud, .ref h_t_reader, .ref h_t_hull, .ref h_t_near, .ref h_t_firstTie, .ref h_t_reducer, .ref h_t_chooser, .ref h_t_pair, .ref h_t_divider, .ref h_t_depths, .ref h_t_spot])), (h_t_cloud, .inr (0, [.ref h_t_cloud_x, .ref h_t_cloud_y, .ref h_t_cloud_colour, .ref h_t_cloud_load, .int t_cloud_size, .int t_cloud_centreX, .int t_cloud_centreY]))])) (cQl dC dI (va_A [(h_t, .inr (11, [.ref h_t_cloud, .ref h_t_reader, .ref h_t_hull, .ref h_t_near, .ref h_t_firstTie, .ref h_t_reducer, .ref h_t_chooser, .ref h_t_pair, .ref h_t_divider, .ref h_t_depths, .ref h_t_spot])), (h_t_cloud, .inr (0, [.ref h_t_cloud_x, .ref h_t_cloud_y, .ref h_t_cloud_colour, .ref h_t_cloud_load, .int t_cloud_size, .int t_cloud_centreX, .int t_cloud_centreY]))] sz) o_r [(h_t, .inr (11, [.ref h_t_cloud, .ref h_t_reader, .ref h_t_hull, .ref h_t_near, .ref h_t_firstTie, .ref h_t_reducer, .ref h_t_chooser, .ref h_t_pair, .ref h_t_divider, .ref h_t_depths, .ref h_t_spot])), (h_t_cloud, .inr (0, [.ref h_t_cloud_x, .ref h_t_cloud_y, .ref h_t_cloud_colour, .ref h_t_cloud_load, .int t_cloud_size, .int t_cloud_centreX, .int t_cloud_centreY]))]) 0 0 (va_A [(h_t, .inr (11, [.ref h_t_cloud, .ref h_t_reader, .ref h_t_hull, .ref h_t_near, .ref h_t_firstTie, .ref h_t_reducer, .ref h_t_chooser, .ref h_t_pair, .ref h_t_divider, .ref h_t_depths, .ref h_t_spot])), (h_t_cloud, .inr (0, [.ref h_t_cloud_x, .ref h_t_cloud_y, .ref h_t_cloud_colour, .ref h_t_cloud_load, .int t_cloud_size, .int t_cloud_centreX, .int t_cloud_centreY]))] sz) := by
  refine Met.ofW (cc := cX11_centre) (maxL := 2) (ret := (some .long)) (by decide) rfl ?_
  intro p e s m args below meth c s₁ B hml hv
  obtain ⟨rfl, hsz, hP, hK, hD0, hT⟩ := hv
  have hx := B.exec
  have hb := B.bytes
  have hr := B.returns
  have hown : s.vm.findClass RX11 = some m.cls := findClass_of_methodNamed B.named
  have hlocks := B.notSynchronized
  have hts := TB.use hT ([.ref h_t, .int a1] : List Value).toArray
  subst hsz
  have hD := hD0.self (sz := s.heap.size)
  generalize hAe : va_A [(h_t, .inr (11, [.ref h_t_cloud, .ref h_t_reader, .ref h_t_hull, .ref h_t_near, .ref h_t_firstTie, .ref h_t_reducer, .ref h_t_chooser, .ref h_t_pair, .ref h_t_divider, .ref h_t_depths, .ref h_t_spot])), (h_t_cloud, .inr (0, [.ref h_t_cloud_x, .ref h_t_cloud_y, .ref h_t_cloud_colour, .ref h_t_cloud_load, .int t_cloud_size, .int t_cloud_centreX, .int t_cloud_centreY]))] s.heap.size = A at hD ⊢
  have hA : ∀ q : Nat, s.heap.size ≤ q → A q := fun q h => by rw [← hAe]; exact Or.inr h
  clear hAe hD0
  have hl := lv_entry ([.ref h_t, .int a1]) (n := 2) (Nat.le_of_ble_eq_true rfl)
  rw [lg_entry_eq]
  generalize (lg_sl ([.ref h_t, .int a1]) ++ List.replicate (2 - (lg_sl ([.ref h_t, .int a1])).length) Slot.unset).toArray = ls at hl ⊢
  have hl : lv_has ls 2 [(0, .ref h_t), (1, .int a1)] := hl
  have hF : 0 ≤ (headSpec [Cond.code yX11_centre cX11_centre 2 (some .long)] ({ frames := 0, cells := 0, slots := 0, locals := 0 })).room.frames := Nat.le_refl _
  have hLo : 0 ≤ (headSpec [Cond.code yX11_centre cX11_centre 2 (some .long)] ({ frames := 0, cells := 0, slots := 0, locals := 0 })).room.locals := Nat.le_refl _
  have C0 : Sx p (headSpec [Cond.code yX11_centre cX11_centre 2 (some .long)] ({ frames := 0, cells := 0, slots := 0, locals := 0 })).room s m ([.ref h_t, .int a1] : List Value).toArray c cX11_centre 2 RX11 A dC dI cI cL cB 0 0 := ⟨hx, hb, hml, hown, hts, hK, hT, hA, hF, hLo⟩
  refine startH (A := A) hP (fun H locs hP hS => ?_)
  rw [fX11_centre] at hf
  refine lv_iload_n hx hb dX11_centre_0 rfl (lv_at hl 1 rfl) ?_
  by_cases hk_1 : a1 = (0 : Int32)
  · replace hf := it_t hk_1 hf
    refine lv_lookup (off := 27) (tgt := 28) hx hb dX11_centre_1 (by decide) (by rw [hk_1]; decide) (by decide) ?_
    refine lv_aload_n hx hb dX11_centre_28 rfl (lv_at hl 0 rfl) ?_
    refine va_get (D := (dC, dI)) (ci := 11) (v := .ref h_t_cloud) (C := RX11) (T := TX11) (N := 11) hx hb hts in_X11 hown hK hP 0 rfl rfl 0 (Nat.le_of_ble_eq_true rfl) (hts _ qf_X11_12) (fun _ h9 => h9) rfl dX11_centre_29 ?_
    refine va_get (D := (dC, dI)) (ci := 0) (v := .int t_cloud_centreX) (C := RX0) (T := TX0) (N := 7) hx hb hts in_X0 hown hK hP 1 rfl rfl 5 (Nat.le_of_ble_eq_true rfl) (hts _ qf_X11_146) (fun _ h9 => h9) rfl dX11_centre_32 ?_
    refine lv_i2l hx hb dX11_centre_35 rfl ?_
    obtain rfl := o1 hf
    exact W.lret hx hb hr (fun t ht hW => ⟨⟨_, (), rfl, rfl, by rw [ht]; exact hP, hD⟩, hS.F ht⟩) hS.2.2 dX11_centre_36
  · replace hf := it_f hk_1 hf
    by_cases hk_2 : a1 = (1 : Int32)
    · replace hf := it_t hk_2 hf
      refine lv_lookup (off := 36) (tgt := 37) hx hb dX11_centre_1 (by decide) (by rw [hk_2]; decide) (by decide) ?_
      refine lv_aload_n hx hb dX11_centre_37 rfl (lv_at hl 0 rfl) ?_
      refine va_get (D := (dC, dI)) (ci := 11) (v := .ref h_t_cloud) (C := RX11) (T := TX11) (N := 11) hx hb hts in_X11 hown hK hP 0 rfl rfl 0 (Nat.le_of_ble_eq_true rfl) (hts _ qf_X11_12) (fun _ h9 => h9) rfl dX11_centre_38 ?_
      refine va_get (D := (dC, dI)) (ci := 0) (v := .int t_cloud_centreY) (C := RX0) (T := TX0) (N := 7) hx hb hts in_X0 hown hK hP 1 rfl rfl 6 (Nat.le_of_ble_eq_true rfl) (hts _ qf_X11_149) (fun _ h9 => h9) rfl dX11_centre_41 ?_
      refine lv_i2l hx hb dX11_centre_44 rfl ?_
      obtain rfl := o1 hf
      exact W.lret hx hb hr (fun t ht hW => ⟨⟨_, (), rfl, rfl, by rw [ht]; exact hP, hD⟩, hS.F ht⟩) hS.2.2 dX11_centre_45
    · replace hf := it_f hk_2 hf
      refine lv_lookup (off := 45) (tgt := 46) hx hb dX11_centre_1 (by decide) ((lv_osw (k := (0 : Int32)) hk_1 (by decide)).trans ((lv_osw (k := (1 : Int32)) hk_2 (by decide)).trans rfl)) (by decide) ?_
      refine lv_ldc2 (v := (-9223372036854775808 : Int64)) hx hb hown (hts _ qj_X11_131) dX11_centre_46 ?_
      obtain rfl := o1 hf
      exact W.lret hx hb hr (fun t ht hW => ⟨⟨_, (), rfl, rfl, by rw [ht]; exact hP, hD⟩, hS.F ht⟩) hS.2.2 dX11_centre_49
theorem dX0_hasSet_0 : decode cX0_hasSet 0 = .ok (.iload_n 1, 1) := by decide +kernel
theorem dX0_hasSet_1 : decode cX0_hasSet 1 = .ok (.ifCond .le 16, 3) := by decide +kernel
theorem dX0_hasSet_4 : decode cX0_hasSet 4 = .ok (.iload_n 1, 1) := by decide +kernel
theorem dX0_hasSet_5 : decode cX0_hasSet 5 = .ok (.aload_n 0, 1) := by decide +kernel
theorem dX0_hasSet_6 : decode cX0_hasSet 6 = .ok (.getfield 24, 3) := by decide +kernel
theorem dX0_hasSet_9 : decode cX0_hasSet 9 = .ok (.iushr, 1) := by decide +kernel
theorem dX0_hasSet_10 : decode cX0_hasSet 10 = .ok (.ifCond .ne 7, 3) := by decide +kernel
theorem dX0_hasSet_13 : decode cX0_hasSet 13 = .ok (.iconst 1, 1) := by decide +kernel
theorem dX0_hasSet_14 : decode cX0_hasSet 14 = .ok (.goto 4, 3) := by decide +kernel
theorem dX0_hasSet_17 : decode cX0_hasSet 17 = .ok (.iconst 0, 1) := by decide +kernel
theorem dX0_hasSet_18 : decode cX0_hasSet 18 = .ok (.ireturn, 1) := by decide +kernel
set_option maxRecDepth 100000 in
set_option maxHeartbeats 4000000 in
theorem mtX0_hasSet (l : Launch) (dC : Nat → ClassId) (dI : Nat → Nat → Nat) (cI cL cB : ClassId) (K : Nat) (h_t h_t_x h_t_y h_t_colour h_t_load : Nat) (sz : Nat) (t_size : Int32) (t_centreX : Int32) (t_centreY : Int32) (a1 : Int32) (o_r : Int32) (hf : fX0_hasSet K t_size a1 = some o_r) : Met l yX0_hasSet [Cond.code yX0_hasSet cX0_hasSet 2 (some .boolean)] ({ frames := 0, cells := 0, slots := 0, locals := 0 }) (va_Pc [.ref h_t, .int a1] (cPre dC dI cI cL cB sz [(h_t, .inr (0, [.ref h_t_x, .ref h_t_y, .ref h_t_colour, .ref h_t_load, .int t_size, .int t_centreX, .int t_centreY]))])) (cQi dC dI (va_A [(h_t, .inr (0, [.ref h_t_x, .ref h_t_y, .ref h_t_colour, .ref h_t_load, .int t_size, .int t_centreX, .int t_centreY]))] sz) o_r [(h_t, .inr (0, [.ref h_t_x, .ref h_t_y, .ref h_t_colour, .ref h_t_load, .int t_size, .int t_centreX, .int t_centreY]))]) 0 0 (va_A [(h_t, .inr (0, [.ref h_t_x, .ref h_t_y, .ref h_t_colour, .ref h_t_load, .int t_size, .int t_centreX, .int t_centreY]))] sz) := by
  refine Met.ofW (cc := cX0_hasSet) (maxL := 2) (ret := (some .boolean)) (by decide) rfl ?_
  intro p e s m args below meth c s₁ B hml hv
  obtain ⟨rfl, hsz, hP, hK, hD0, hT⟩ := hv
  have hx := B.exec
  have hb := B.bytes
  have hr := B.returns
  have hown : s.vm.findClass RX0 = some m.cls := findClass_of_methodNamed B.named
  have hlocks := B.notSynchronized
  have hts := TB.use hT ([.ref h_t, .int a1] : List Value).toArray
  subst hsz
  have hD := hD0.self (sz := s.heap.size)
  generalize hAe : va_A [(h_t, .inr (0, [.ref h_t_x, .ref h_t_y, .ref h_t_colour, .ref h_t_load, .int t_size, .int t_centreX, .int t_centreY]))] s.heap.size = A at hD ⊢
  have hA : ∀ q : Nat, s.heap.size ≤ q → A q := fun q h => by rw [← hAe]; exact Or.inr h
  clear hAe hD0
  have hl := lv_entry ([.ref h_t, .int a1]) (n := 2) (Nat.le_of_ble_eq_true rfl)
  rw [lg_entry_eq]
  generalize (lg_sl ([.ref h_t, .int a1]) ++ List.replicate (2 - (lg_sl ([.ref h_t, .int a1])).length) Slot.unset).toArray = ls at hl ⊢
  have hl : lv_has ls 2 [(0, .ref h_t), (1, .int a1)] := hl
  have hF : 0 ≤ (headSpec [Cond.code yX0_hasSet cX0_hasSet 2 (some .boolean)] ({ frames := 0, cells := 0, slots := 0, locals := 0 })).room.frames := Nat.le_refl _
  have hLo : 0 ≤ (headSpec [Cond.code yX0_hasSet cX0_hasSet 2 (some .boolean)] ({ frames := 0, cells := 0, slots := 0, locals := 0 })).room.locals := Nat.le_refl _
  have C0 : Sx p (headSpec [Cond.code yX0_hasSet cX0_hasSet 2 (some .boolean)] ({ frames := 0, cells := 0, slots := 0, locals := 0 })).room s m ([.ref h_t, .int a1] : List Value).toArray c cX0_hasSet 2 RX0 A dC dI cI cL cB 0 0 := ⟨hx, hb, hml, hown, hts, hK, hT, hA, hF, hLo⟩
  refine startH (A := A) hP (fun H locs hP hS => ?_)
  rw [fX0_hasSet] at hf
  refine lv_iload_n hx hb dX0_hasSet_0 rfl (lv_at hl 1 rfl) ?_
  refine lv_if_le (tgt := 17) hx hb dX0_hasSet_1 (by decide) (fun hc => ?_) (fun hc => ?_)
  · replace hf := it_t (hc) hf
    refine lv_iconst (v := (0 : Int32)) hx hb dX0_hasSet_17 (by decide) ?_
    obtain rfl := o1 hf
    exact W.zret hx hb hr rfl (fun t ht hW => ⟨⟨_, (), rfl, rfl, by rw [ht]; exact hP, hD⟩, hS.F ht⟩) hS.2.2 dX0_hasSet_18
  · replace hf := it_f (hc) hf
    refine lv_iload_n hx hb dX0_hasSet_4 rfl (lv_at hl 1 rfl) ?_
    refine lv_aload_n hx hb dX0_hasSet_5 rfl (lv_at hl 0 rfl) ?_
    refine va_get (D := (dC, dI)) (ci := 0) (v := .int t_size) (C := RX0) (T := TX0) (N := 7) hx hb hts in_X0 hown hK hP 0 rfl rfl 4 (Nat.le_of_ble_eq_true rfl) (hts _ qf_X0_24) (fun _ h9 => h9) rfl dX0_hasSet_6 ?_
    refine lv_iushr (v := jushr a1 t_size) hx hb dX0_hasSet_9 rfl ?_
    refine lv_if_ne (tgt := 17) hx hb dX0_hasSet_10 (by decide) (fun hc => ?_) (fun hc => ?_)
    · replace hf := it_f (hc) hf
      refine lv_iconst (v := (0 : Int32)) hx hb dX0_hasSet_17 (by decide) ?_
      obtain rfl := o1 hf
      exact W.zret hx hb hr rfl (fun t ht hW => ⟨⟨_, (), rfl, rfl, by rw [ht]; exact hP, hD⟩, hS.F ht⟩) hS.2.2 dX0_hasSet_18
    · replace hf := it_t (hc) hf
      refine lv_iconst (v := (1 : Int32)) hx hb dX0_hasSet_13 (by decide) ?_
      refine lv_goto (tgt := 18) hx hb dX0_hasSet_14 (by decide) ?_
      obtain rfl := o1 hf
      exact W.zret hx hb hr rfl (fun t ht hW => ⟨⟨_, (), rfl, rfl, by rw [ht]; exact hP, hD⟩, hS.F ht⟩) hS.2.2 dX0_hasSet_18
theorem dX11_isIn_0 : decode cX11_isIn 0 = .ok (.iload_n 0, 1) := by decide +kernel
theorem dX11_isIn_1 : decode cX11_isIn 1 = .ok (.iload_n 1, 1) := by decide +kernel
theorem dX11_isIn_2 : decode cX11_isIn 2 = .ok (.ishr, 1) := by decide +kernel
theorem dX11_isIn_3 : decode cX11_isIn 3 = .ok (.iconst 1, 1) := by decide +kernel
theorem dX11_isIn_4 : decode cX11_isIn 4 = .ok (.iand, 1) := by decide +kernel
theorem dX11_isIn_5 : decode cX11_isIn 5 = .ok (.ifCond .eq 7, 3) := by decide +kernel
theorem dX11_isIn_8 : decode cX11_isIn 8 = .ok (.iconst 1, 1) := by decide +kernel
theorem dX11_isIn_9 : decode cX11_isIn 9 = .ok (.goto 4, 3) := by decide +kernel
theorem dX11_isIn_12 : decode cX11_isIn 12 = .ok (.iconst 0, 1) := by decide +kernel
theorem dX11_isIn_13 : decode cX11_isIn 13 = .ok (.ireturn, 1) := by decide +kernel
set_option maxRecDepth 100000 in
set_option maxHeartbeats 4000000 in
theorem mtX11_isIn (l : Launch) (dC : Nat → ClassId) (dI : Nat → Nat → Nat) (cI cL cB : ClassId) (K : Nat) (sz : Nat) (a0 : Int32) (a1 : Int32) (o_r : Int32) (hf : fX11_isIn K a0 a1 = some o_r) : Met l yX11_isIn [Cond.code yX11_isIn cX11_isIn 2 (some .boolean)] ({ frames := 0, cells := 0, slots := 0, locals := 0 }) (va_Pc [.int a0, .int a1] (cPre dC dI cI cL cB sz [])) (cQi dC dI (va_A [] sz) o_r []) 0 0 (va_A [] sz) := by
  refine Met.ofW (cc := cX11_isIn) (maxL := 2) (ret := (some .boolean)) (by decide) rfl ?_
  intro p e s m args below meth c s₁ B hml hv
  obtain ⟨rfl, hsz, hP, hK, hD0, hT⟩ := hv
  have hx := B.exec
  have hb := B.bytes
  have hr := B.returns
  have hown : s.vm.findClass RX11 = some m.cls := findClass_of_methodNamed B.named
  have hlocks := B.notSynchronized
  have hts := TB.use hT ([.int a0, .int a1] : List Value).toArray
  subst hsz
  have hD := hD0.self (sz := s.heap.size)
  generalize hAe : va_A [] s.heap.size = A at hD ⊢
  have hA : ∀ q : Nat, s.heap.size ≤ q → A q := fun q h => by rw [← hAe]; exact Or.inr h
  clear hAe hD0
  have hl := lv_entry ([.int a0, .int a1]) (n := 2) (Nat.le_of_ble_eq_true rfl)
  rw [lg_entry_eq]
  generalize (lg_sl ([.int a0, .int a1]) ++ List.replicate (2 - (lg_sl ([.int a0, .int a1])).length) Slot.unset).toArray = ls at hl ⊢
  have hl : lv_has ls 2 [(0, .int a0), (1, .int a1)] := hl
  have hF : 0 ≤ (headSpec [Cond.code yX11_isIn cX11_isIn 2 (some .boolean)] ({ frames := 0, cells := 0, slots := 0, locals := 0 })).room.frames := Nat.le_refl _
  have hLo : 0 ≤ (headSpec [Cond.code yX11_isIn cX11_isIn 2 (some .boolean)] ({ frames := 0, cells := 0, slots := 0, locals := 0 })).room.locals := Nat.le_refl _
  have C0 : Sx p (headSpec [Cond.code yX11_isIn cX11_isIn 2 (some .boolean)] ({ frames := 0, cells := 0, slots := 0, locals := 0 })).room s m ([.int a0, .int a1] : List Value).toArray c cX11_isIn 2 RX11 A dC dI cI cL cB 0 0 := ⟨hx, hb, hml, hown, hts, hK, hT, hA, hF, hLo⟩
  refine startH (A := A) hP (fun H locs hP hS => ?_)
  rw [fX11_isIn] at hf
  refine lv_iload_n hx hb dX11_isIn_0 rfl (lv_at hl 0 rfl) ?_
  refine lv_iload_n hx hb dX11_isIn_1 rfl (lv_at hl 1 rfl) ?_
  refine lv_ishr hx hb dX11_isIn_2 ?_
  refine lv_iconst (v := (1 : Int32)) hx hb dX11_isIn_3 (by decide) ?_
  refine lv_iand hx hb dX11_isIn_4 ?_
  refine lv_if_eq (tgt := 12) hx hb dX11_isIn_5 (by decide) (fun hc => ?_) (fun hc => ?_)
  · replace hf := it_t (hc) hf
    refine lv_iconst (v := (0 : Int32)) hx hb dX11_isIn_12 (by decide) ?_
    obtain rfl := o1 hf
    exact W.zret hx hb hr rfl (fun t ht hW => ⟨⟨_, (), rfl, rfl, by rw [ht]; exact hP, hD⟩, hS.F ht⟩) hS.2.2 dX11_isIn_13
  · replace hf := it_f (hc) hf
    refine lv_iconst (v := (1 : Int32)) hx hb dX11_isIn_8 (by decide) ?_
    refine lv_goto (tgt := 13) hx hb dX11_isIn_9 (by decide) ?_
    obtain rfl := o1 hf
    exact W.zret hx hb hr rfl (fun t ht hW => ⟨⟨_, (), rfl, rfl, by rw [ht]; exact hP, hD⟩, hS.F ht⟩) hS.2.2 dX11_isIn_13
theorem dX2_isBefore_0 : decode cX2_isBefore 0 = .ok (.iload_n 0, 1) := by decide +kernel
theorem dX2_isBefore_1 : decode cX2_isBefore 1 = .ok (.iload_n 2, 1) := by decide +kernel
theorem dX2_isBefore_2 : decode cX2_isBefore 2 = .ok (.if_icmp .lt 13, 3) := by decide +kernel
theorem dX2_isBefore_5 : decode cX2_isBefore 5 = .ok (.iload_n 0, 1) := by decide +kernel
theorem dX2_isBefore_6 : decode cX2_isBefore 6 = .ok (.iload_n 2, 1) := by decide +kernel
theorem dX2_isBefore_7 : decode cX2_isBefore 7 = .ok (.if_icmp .ne 12, 3) := by decide +kernel
theorem dX2_isBefore_10 : decode cX2_isBefore 10 = .ok (.iload_n 1, 1) := by decide +kernel
theorem dX2_isBefore_11 : decode cX2_isBefore 11 = .ok (.iload_n 3, 1) := by decide +kernel
theorem dX2_isBefore_12 : decode cX2_isBefore 12 = .ok (.if_icmp .ge 7, 3) := by decide +kernel
theorem dX2_isBefore_15 : decode cX2_isBefore 15 = .ok (.iconst 1, 1) := by decide +kernel
theorem dX2_isBefore_16 : decode cX2_isBefore 16 = .ok (.goto 4, 3) := by decide +kernel
theorem dX2_isBefore_19 : decode cX2_isBefore 19 = .ok (.iconst 0, 1) := by decide +kernel
theorem dX2_isBefore_20 : decode cX2_isBefore 20 = .ok (.ireturn, 1) := by decide +kernel
set_option maxRecDepth 100000 in
set_option maxHeartbeats 4000000 in
theorem mtX2_isBefore (l : Launch) (dC : Nat → ClassId) (dI : Nat → Nat → Nat) (cI cL cB : ClassId) (K : Nat) (sz : Nat) (a0 : Int32) (a1 : Int32) (a2 : Int32) (a3 : Int32) (o_r : Int32) (hf : fX2_isBefore K a0 a1 a2 a3 = some o_r) : Met l yX2_isBefore [Cond.code yX2_isBefore cX2_isBefore 4 (some .boolean)] ({ frames := 0, cells := 0, slots := 0, locals := 0 }) (va_Pc [.int a0, .int a1, .int a2, .int a3] (cPre dC dI cI cL cB sz [])) (cQi dC dI (va_A [] sz) o_r []) 0 0 (va_A [] sz) := by
  refine Met.ofW (cc := cX2_isBefore) (maxL := 4) (ret := (some .boolean)) (by decide) rfl ?_
  intro p e s m args below meth c s₁ B hml hv
  obtain ⟨rfl, hsz, hP, hK, hD0, hT⟩ := hv
  have hx := B.exec
  have hb := B.bytes
  have hr := B.returns
  have hown : s.vm.findClass RX2 = some m.cls := findClass_of_methodNamed B.named
  have hlocks := B.notSynchronized
  have hts := TB.use hT ([.int a0, .int a1, .int a2, .int a3] : List Value).toArray
  subst hsz
  have hD := hD0.self (sz := s.heap.size)
  generalize hAe : va_A [] s.heap.size = A at hD ⊢
  have hA : ∀ q : Nat, s.heap.size ≤ q → A q := fun q h => by rw [← hAe]; exact Or.inr h
  clear hAe hD0
  have hl := lv_entry ([.int a0, .int a1, .int a2, .int a3]) (n := 4) (Nat.le_of_ble_eq_true rfl)
  rw [lg_entry_eq]
  generalize (lg_sl ([.int a0, .int a1, .int a2, .int a3]) ++ List.replicate (4 - (lg_sl ([.int a0, .int a1, .int a2, .int a3])).length) Slot.unset).toArray = ls at hl ⊢
  have hl : lv_has ls 4 [(0, .int a0), (1, .int a1), (2, .int a2), (3, .int a3)] := hl
  have hF : 0 ≤ (headSpec [Cond.code yX2_isBefore cX2_isBefore 4 (some .boolean)] ({ frames := 0, cells := 0, slots := 0, locals := 0 })).room.frames := Nat.le_refl _
  have hLo : 0 ≤ (headSpec [Cond.code yX2_isBefore cX2_isBefore 4 (some .boolean)] ({ frames := 0, cells := 0, slots := 0, locals := 0 })).room.locals := Nat.le_refl _
  have C0 : Sx p (headSpec [Cond.code yX2_isBefore cX2_isBefore 4 (some .boolean)] ({ frames := 0, cells := 0, slots := 0, locals := 0 })).room s m ([.int a0, .int a1, .int a2, .int a3] : List Value).toArray c cX2_isBefore 4 RX2 A dC dI cI cL cB 0 0 := ⟨hx, hb, hml, hown, hts, hK, hT, hA, hF, hLo⟩
  refine startH (A := A) hP (fun H locs hP hS => ?_)
  rw [fX2_isBefore] at hf
  refine lv_iload_n hx hb dX2_isBefore_0 rfl (lv_at hl 0 rfl) ?_
  refine lv_iload_n hx hb dX2_isBefore_1 rfl (lv_at hl 2 rfl) ?_
  refine lv_icmp_lt (tgt := 15) hx hb dX2_isBefore_2 (by decide) (fun hc => ?_) (fun hc => ?_)
  · replace hf := it_t (hc) hf
    refine lv_iconst (v := (1 : Int32)) hx hb dX2_isBefore_15 (by decide) ?_
    refine lv_goto (tgt := 20) hx hb dX2_isBefore_16 (by decide) ?_
    obtain rfl := o1 hf
    exact W.zret hx hb hr rfl (fun t ht hW => ⟨⟨_, (), rfl, rfl, by rw [ht]; exact hP, hD⟩, hS.F ht⟩) hS.2.2 dX2_isBefore_20
  · replace hf := it_f (hc) hf
    refine lv_iload_n hx hb dX2_isBefore_5 rfl (lv_at hl 0 rfl) ?_
    refine lv_iload_n hx hb dX2_isBefore_6 rfl (lv_at hl 2 rfl) ?_
    refine lv_icmp_ne (tgt := 19) hx hb dX2_isBefore_7 (by decide) (fun hc => ?_) (fun hc => ?_)
    · replace hf := it_f (hc) hf
      refine lv_iconst (v := (0 : Int32)) hx hb dX2_isBefore_19 (by decide) ?_
      obtain rfl := o1 hf
      exact W.zret hx hb hr rfl (fun t ht hW => ⟨⟨_, (), rfl, rfl, by rw [ht]; exact hP, hD⟩, hS.F ht⟩) hS.2.2 dX2_isBefore_20
    · replace hf := it_t (hc) hf
      refine lv_iload_n hx hb dX2_isBefore_10 rfl (lv_at hl 1 rfl) ?_
      refine lv_iload_n hx hb dX2_isBefore_11 rfl (lv_at hl 3 rfl) ?_
      refine lv_icmp_ge (tgt := 19) hx hb dX2_isBefore_12 (by decide) (fun hc => ?_) (fun hc => ?_)
      · replace hf := it_t (hc) hf
        refine lv_iconst (v := (0 : Int32)) hx hb dX2_isBefore_19 (by decide) ?_
        obtain rfl := o1 hf
        exact W.zret hx hb hr rfl (fun t ht hW => ⟨⟨_, (), rfl, rfl, by rw [ht]; exact hP, hD⟩, hS.F ht⟩) hS.2.2 dX2_isBefore_20
      · replace hf := it_f (hc) hf
        refine lv_iconst (v := (1 : Int32)) hx hb dX2_isBefore_15 (by decide) ?_
        refine lv_goto (tgt := 20) hx hb dX2_isBefore_16 (by decide) ?_
        obtain rfl := o1 hf
        exact W.zret hx hb hr rfl (fun t ht hW => ⟨⟨_, (), rfl, rfl, by rw [ht]; exact hP, hD⟩, hS.F ht⟩) hS.2.2 dX2_isBefore_20
theorem dX0_isAt_0 : decode cX0_isAt 0 = .ok (.aload_n 0, 1) := by decide +kernel
theorem dX0_isAt_1 : decode cX0_isAt 1 = .ok (.getfield 9, 3) := by decide +kernel
theorem dX0_isAt_4 : decode cX0_isAt 4 = .ok (.iload_n 1, 1) := by decide +kernel
theorem dX0_isAt_5 : decode cX0_isAt 5 = .ok (.iaload, 1) := by decide +kernel
theorem dX0_isAt_6 : decode cX0_isAt 6 = .ok (.iload_n 2, 1) := by decide +kernel
theorem dX0_isAt_7 : decode cX0_isAt 7 = .ok (.if_icmp .ne 17, 3) := by decide +kernel
theorem dX0_isAt_10 : decode cX0_isAt 10 = .ok (.aload_n 0, 1) := by decide +kernel
theorem dX0_isAt_11 : decode cX0_isAt 11 = .ok (.getfield 15, 3) := by decide +kernel
theorem dX0_isAt_14 : decode cX0_isAt 14 = .ok (.iload_n 1, 1) := by decide +kernel
theorem dX0_isAt_15 : decode cX0_isAt 15 = .ok (.iaload, 1) := by decide +kernel
theorem dX0_isAt_16 : decode cX0_isAt 16 = .ok (.iload_n 3, 1) := by decide +kernel
theorem dX0_isAt_17 : decode cX0_isAt 17 = .ok (.if_icmp .ne 7, 3) := by decide +kernel
theorem dX0_isAt_20 : decode cX0_isAt 20 = .ok (.iconst 1, 1) := by decide +kernel
theorem dX0_isAt_21 : decode cX0_isAt 21 = .ok (.goto 4, 3) := by decide +kernel
theorem dX0_isAt_24 : decode cX0_isAt 24 = .ok (.iconst 0, 1) := by decide +kernel
theorem dX0_isAt_25 : decode cX0_isAt 25 = .ok (.ireturn, 1) := by decide +kernel
set_option maxRecDepth 100000 in
set_option maxHeartbeats 4000000 in
theorem mtX0_isAt (l : Launch) (dC : Nat → ClassId) (dI : Nat → Nat → Nat) (cI cL cB : ClassId) (K : Nat) (h_t h_t_x h_t_y h_t_colour h_t_load : Nat) (sz : Nat) (t_size : Int32) (t_centreX : Int32) (t_centreY : Int32) (t_x : Nat → Int32) (t_y : Nat → Int32) (a1 : Int32) (a2 : Int32) (a3 : Int32) (o_r : Int32) (hf : fX0_isAt K t_x t_y a1 a2 a3 = some o_r) : Met l yX0_isAt [Cond.code yX0_isAt cX0_isAt 4 (some .boolean)] ({ frames := 0, cells := 0, slots := 0, locals := 0 }) (va_Pc [.ref h_t, .int a1, .int a2, .int a3] (cPre dC dI cI cL cB sz [(h_t, .inr (0, [.ref h_t_x, .ref h_t_y, .ref h_t_colour, .ref h_t_load, .int t_size, .int t_centreX, .int t_centreY])), (h_t_x, .inl (cI, 24, .inl t_x)), (h_t_y, .inl (cI, 24, .inl t_y))])) (cQi dC dI (va_A [(h_t, .inr (0, [.ref h_t_x, .ref h_t_y, .ref h_t_colour, .ref h_t_load, .int t_size, .int t_centreX, .int t_centreY])), (h_t_x, .inl (cI, 24, .inl t_x)), (h_t_y, .inl (cI, 24, .inl t_y))] sz) o_r [(h_t, .inr (0, [.ref h_t_x, .ref h_t_y, .ref h_t_colour, .ref h_t_load, .int t_size, .int t_centreX, .int t_centreY])), (h_t_x, .inl (cI, 24, .inl t_x)), (h_t_y, .inl (cI, 24, .inl t_y))]) 0 0 (va_A [(h_t, .inr (0, [.ref h_t_x, .ref h_t_y, .ref h_t_colour, .ref h_t_load, .int t_size, .int t_centreX, .int t_centreY])), (h_t_x, .inl (cI, 24, .inl t_x)), (h_t_y, .inl (cI, 24, .inl t_y))] sz) := by
  refine Met.ofW (cc := cX0_isAt) (maxL := 4) (ret := (some .boolean)) (by decide) rfl ?_
  intro p e s m args below meth c s₁ B hml hv
  obtain ⟨rfl, hsz, hP, hK, hD0, hT⟩ := hv
  have hx := B.exec
  have hb := B.bytes
  have hr := B.returns
  have hown : s.vm.findClass RX0 = some m.cls := findClass_of_methodNamed B.named
  have hlocks := B.notSynchronized
  have hts := TB.use hT ([.ref h_t, .int a1, .int a2, .int a3] : List Value).toArray
  subst hsz
  have hD := hD0.self (sz := s.heap.size)
  generalize hAe : va_A [(h_t, .inr (0, [.ref h_t_x, .ref h_t_y, .ref h_t_colour, .ref h_t_load, .int t_size, .int t_centreX, .int t_centreY])), (h_t_x, .inl (cI, 24, .inl t_x)), (h_t_y, .inl (cI, 24, .inl t_y))] s.heap.size = A at hD ⊢
  have hA : ∀ q : Nat, s.heap.size ≤ q → A q := fun q h => by rw [← hAe]; exact Or.inr h
  clear hAe hD0
  have hl := lv_entry ([.ref h_t, .int a1, .int a2, .int a3]) (n := 4) (Nat.le_of_ble_eq_true rfl)
  rw [lg_entry_eq]
  generalize (lg_sl ([.ref h_t, .int a1, .int a2, .int a3]) ++ List.replicate (4 - (lg_sl ([.ref h_t, .int a1, .int a2, .int a3])).length) Slot.unset).toArray = ls at hl ⊢
  have hl : lv_has ls 4 [(0, .ref h_t), (1, .int a1), (2, .int a2), (3, .int a3)] := hl
  have hF : 0 ≤ (headSpec [Cond.code yX0_isAt cX0_isAt 4 (some .boolean)] ({ frames := 0, cells := 0, slots := 0, locals := 0 })).room.frames := Nat.le_refl _
  have hLo : 0 ≤ (headSpec [Cond.code yX0_isAt cX0_isAt 4 (some .boolean)] ({ frames := 0, cells := 0, slots := 0, locals := 0 })).room.locals := Nat.le_refl _
  have C0 : Sx p (headSpec [Cond.code yX0_isAt cX0_isAt 4 (some .boolean)] ({ frames := 0, cells := 0, slots := 0, locals := 0 })).room s m ([.ref h_t, .int a1, .int a2, .int a3] : List Value).toArray c cX0_isAt 4 RX0 A dC dI cI cL cB 0 0 := ⟨hx, hb, hml, hown, hts, hK, hT, hA, hF, hLo⟩
  refine startH (A := A) hP (fun H locs hP hS => ?_)
  rw [fX0_isAt] at hf
  refine lv_aload_n hx hb dX0_isAt_0 rfl (lv_at hl 0 rfl) ?_
  refine va_get (D := (dC, dI)) (ci := 0) (v := .ref h_t_x) (C := RX0) (T := TX0) (N := 7) hx hb hts in_X0 hown hK hP 0 rfl rfl 0 (Nat.le_of_ble_eq_true rfl) (hts _ qf_X0_9) (fun _ h9 => h9) rfl dX0_isAt_1 ?_
  refine lv_iload_n hx hb dX0_isAt_4 rfl (lv_at hl 1 rfl) ?_
  obtain ⟨hg_1, hf⟩ := gd_some hf
  refine va_iald hx hb hK hP 1 0 rfl rfl (inb_in hg_1) dX0_isAt_5 ?_
  refine lv_iload_n hx hb dX0_isAt_6 rfl (lv_at hl 2 rfl) ?_
  refine lv_icmp_ne (tgt := 24) hx hb dX0_isAt_7 (by decide) (fun hc => ?_) (fun hc => ?_)
  · replace hf := it_f (hc) hf
    refine lv_iconst (v := (0 : Int32)) hx hb dX0_isAt_24 (by decide) ?_
    obtain rfl := o1 hf
    exact W.zret hx hb hr rfl (fun t ht hW => ⟨⟨_, (), rfl, rfl, by rw [ht]; exact hP, hD⟩, hS.F ht⟩) hS.2.2 dX0_isAt_25
  · replace hf := it_t (hc) hf
    refine lv_aload_n hx hb dX0_isAt_10 rfl (lv_at hl 0 rfl) ?_
    refine va_get (D := (dC, dI)) (ci := 0) (v := .ref h_t_y) (C := RX0) (T := TX0) (N := 7) hx hb hts in_X0 hown hK hP 0 rfl rfl 1 (Nat.le_of_ble_eq_true rfl) (hts _ qf_X0_15) (fun _ h9 => h9) rfl dX0_isAt_11 ?_
    refine lv_iload_n hx hb dX0_isAt_14 rfl (lv_at hl 1 rfl) ?_
    obtain ⟨hg_2, hf⟩ := gd_some hf
    refine va_iald hx hb hK hP 2 0 rfl rfl (inb_in hg_2) dX0_isAt_15 ?_
    refine lv_iload_n hx hb dX0_isAt_16 rfl (lv_at hl 3 rfl) ?_
    refine lv_icmp_ne (tgt := 24) hx hb dX0_isAt_17 (by decide) (fun hc => ?_) (fun hc => ?_)
    · replace hf := it_f (hc) hf
      refine lv_iconst (v := (0 : Int32)) hx hb dX0_isAt_24 (by decide) ?_
      obtain rfl := o1 hf
      exact W.zret hx hb hr rfl (fun t ht hW => ⟨⟨_, (), rfl, rfl, by rw [ht]; exact hP, hD⟩, hS.F ht⟩) hS.2.2 dX0_isAt_25
    · replace hf := it_t (hc) hf
      refine lv_iconst (v := (1 : Int32)) hx hb dX0_isAt_20 (by decide) ?_
      refine lv_goto (tgt := 25) hx hb dX0_isAt_21 (by decide) ?_
      obtain rfl := o1 hf
      exact W.zret hx hb hr rfl (fun t ht hW => ⟨⟨_, (), rfl, rfl, by rw [ht]; exact hP, hD⟩, hS.F ht⟩) hS.2.2 dX0_isAt_25
