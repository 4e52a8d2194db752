theorem dX3_offer_0 : decode cX3_offer 0 = .ok (.aload_n 0, 1) := by decide +kernel
theorem dX3_offer_1 : decode cX3_offer 1 = .ok (.getfield 44, 3) := by decide +kernel
theorem dX3_offer_4 : decode cX3_offer 4 = .ok (.lconst 0, 1) := by decide +kernel
theorem dX3_offer_5 : decode cX3_offer 5 = .ok (.lcmp, 1) := by decide +kernel
theorem dX3_offer_6 : decode cX3_offer 6 = .ok (.ifCond .eq 51, 3) := by decide +kernel
theorem dX3_offer_9 : decode cX3_offer 9 = .ok (.lload_n 1, 1) := by decide +kernel
theorem dX3_offer_10 : decode cX3_offer 10 = .ok (.aload_n 0, 1) := by decide +kernel
theorem dX3_offer_11 : decode cX3_offer 11 = .ok (.getfield 44, 3) := by decide +kernel
theorem dX3_offer_14 : decode cX3_offer 14 = .ok (.lmul, 1) := by decide +kernel
theorem dX3_offer_15 : decode cX3_offer 15 = .ok (.aload_n 0, 1) := by decide +kernel
theorem dX3_offer_16 : decode cX3_offer 16 = .ok (.getfield 56, 3) := by decide +kernel
theorem dX3_offer_19 : decode cX3_offer 19 = .ok (.lload 5, 2) := by decide +kernel
theorem dX3_offer_21 : decode cX3_offer 21 = .ok (.lmul, 1) := by decide +kernel
theorem dX3_offer_22 : decode cX3_offer 22 = .ok (.lsub, 1) := by decide +kernel
theorem dX3_offer_23 : decode cX3_offer 23 = .ok (.lstore 7, 2) := by decide +kernel
theorem dX3_offer_25 : decode cX3_offer 25 = .ok (.lload 7, 2) := by decide +kernel
theorem dX3_offer_27 : decode cX3_offer 27 = .ok (.lconst 0, 1) := by decide +kernel
theorem dX3_offer_28 : decode cX3_offer 28 = .ok (.lcmp, 1) := by decide +kernel
theorem dX3_offer_29 : decode cX3_offer 29 = .ok (.ifCond .gt 27, 3) := by decide +kernel
theorem dX3_offer_32 : decode cX3_offer 32 = .ok (.lload 7, 2) := by decide +kernel
theorem dX3_offer_34 : decode cX3_offer 34 = .ok (.lconst 0, 1) := by decide +kernel
theorem dX3_offer_35 : decode cX3_offer 35 = .ok (.lcmp, 1) := by decide +kernel
theorem dX3_offer_36 : decode cX3_offer 36 = .ok (.ifCond .ne 21, 3) := by decide +kernel
theorem dX3_offer_39 : decode cX3_offer 39 = .ok (.lload_n 3, 1) := by decide +kernel
theorem dX3_offer_40 : decode cX3_offer 40 = .ok (.aload_n 0, 1) := by decide +kernel
theorem dX3_offer_41 : decode cX3_offer 41 = .ok (.getfield 44, 3) := by decide +kernel
theorem dX3_offer_44 : decode cX3_offer 44 = .ok (.lmul, 1) := by decide +kernel
theorem dX3_offer_45 : decode cX3_offer 45 = .ok (.aload_n 0, 1) := by decide +kernel
theorem dX3_offer_46 : decode cX3_offer 46 = .ok (.getfield 59, 3) := by decide +kernel
theorem dX3_offer_49 : decode cX3_offer 49 = .ok (.lload 5, 2) := by decide +kernel
theorem dX3_offer_51 : decode cX3_offer 51 = .ok (.lmul, 1) := by decide +kernel
theorem dX3_offer_52 : decode cX3_offer 52 = .ok (.lcmp, 1) := by decide +kernel
theorem dX3_offer_53 : decode cX3_offer 53 = .ok (.ifCond .lt 4, 3) := by decide +kernel
theorem dX3_offer_56 : decode cX3_offer 56 = .ok (.return_, 1) := by decide +kernel
theorem dX3_offer_57 : decode cX3_offer 57 = .ok (.aload_n 0, 1) := by decide +kernel
theorem dX3_offer_58 : decode cX3_offer 58 = .ok (.getfield 10, 3) := by decide +kernel
theorem dX3_offer_61 : decode cX3_offer 61 = .ok (.lload_n 1, 1) := by decide +kernel
theorem dX3_offer_62 : decode cX3_offer 62 = .ok (.lload_n 3, 1) := by decide +kernel
theorem dX3_offer_63 : decode cX3_offer 63 = .ok (.lload 5, 2) := by decide +kernel
theorem dX3_offer_65 : decode cX3_offer 65 = .ok (.invokevirtual 80, 3) := by decide +kernel
theorem dX3_offer_68 : decode cX3_offer 68 = .ok (.ifCond .le 54, 3) := by decide +kernel
theorem dX3_offer_71 : decode cX3_offer 71 = .ok (.aload_n 0, 1) := by decide +kernel
theorem dX3_offer_72 : decode cX3_offer 72 = .ok (.getfield 16, 3) := by decide +kernel
theorem dX3_offer_75 : decode cX3_offer 75 = .ok (.lload_n 1, 1) := by decide +kernel
theorem dX3_offer_76 : decode cX3_offer 76 = .ok (.lload_n 3, 1) := by decide +kernel
theorem dX3_offer_77 : decode cX3_offer 77 = .ok (.lload 5, 2) := by decide +kernel
theorem dX3_offer_79 : decode cX3_offer 79 = .ok (.invokevirtual 80, 3) := by decide +kernel
theorem dX3_offer_82 : decode cX3_offer 82 = .ok (.ifCond .le 40, 3) := by decide +kernel
theorem dX3_offer_85 : decode cX3_offer 85 = .ok (.aload_n 0, 1) := by decide +kernel
theorem dX3_offer_86 : decode cX3_offer 86 = .ok (.getfield 40, 3) := by decide +kernel
theorem dX3_offer_89 : decode cX3_offer 89 = .ok (.ifCond .eq 17, 3) := by decide +kernel
theorem dX3_offer_92 : decode cX3_offer 92 = .ok (.aload_n 0, 1) := by decide +kernel
theorem dX3_offer_93 : decode cX3_offer 93 = .ok (.getfield 19, 3) := by decide +kernel
theorem dX3_offer_96 : decode cX3_offer 96 = .ok (.lload_n 1, 1) := by decide +kernel
theorem dX3_offer_97 : decode cX3_offer 97 = .ok (.lload_n 3, 1) := by decide +kernel
theorem dX3_offer_98 : decode cX3_offer 98 = .ok (.lload 5, 2) := by decide +kernel
theorem dX3_offer_100 : decode cX3_offer 100 = .ok (.invokevirtual 80, 3) := by decide +kernel
theorem dX3_offer_103 : decode cX3_offer 103 = .ok (.ifCond .le 19, 3) := by decide +kernel
theorem dX3_offer_106 : decode cX3_offer 106 = .ok (.aload_n 0, 1) := by decide +kernel
theorem dX3_offer_107 : decode cX3_offer 107 = .ok (.lload_n 1, 1) := by decide +kernel
theorem dX3_offer_108 : decode cX3_offer 108 = .ok (.putfield 56, 3) := by decide +kernel
theorem dX3_offer_111 : decode cX3_offer 111 = .ok (.aload_n 0, 1) := by decide +kernel
theorem dX3_offer_112 : decode cX3_offer 112 = .ok (.lload_n 3, 1) := by decide +kernel
theorem dX3_offer_113 : decode cX3_offer 113 = .ok (.putfield 59, 3) := by decide +kernel
theorem dX3_offer_116 : decode cX3_offer 116 = .ok (.aload_n 0, 1) := by decide +kernel
theorem dX3_offer_117 : decode cX3_offer 117 = .ok (.lload 5, 2) := by decide +kernel
theorem dX3_offer_119 : decode cX3_offer 119 = .ok (.putfield 44, 3) := by decide +kernel
theorem dX3_offer_122 : decode cX3_offer 122 = .ok (.return_, 1) := by decide +kernel
set_option maxRecDepth 100000 in
set_option maxHeartbeats 4000000 in
theorem mtX3_offer (l : Launch) (dC : Nat → ClassId) (dI : Nat → Nat → Nat) (cI cL cB : ClassId) (K : Nat) (h_t h_t_first h_t_second h_t_third h_t_place h_t_near h_t_first_chain h_t_first_x h_t_first_y h_t_first_sorted h_t_second_chain h_t_second_x h_t_second_y h_t_second_sorted h_t_third_chain h_t_third_x h_t_third_y h_t_third_sorted : Nat) (sz : Nat) (t_gapSquare : Int64) (t_gapLower : Int64) (t_gapX : Int64) (t_gapY : Int64) (t_threefold : Int32) (t_leastX : Int64) (t_leastY : Int64) (t_leastLower : Int64) (t_first_size : Int32) (t_first_x : Nat → Int32) (t_first_y : Nat → Int32) (t_second_size : Int32) (t_second_x : Nat → Int32) (t_second_y : Nat → Int32) (t_third_size : Int32) (t_third_x : Nat → Int32) (t_third_y : Nat → Int32) (a1 : Int64) (a3 : Int64) (a5 : Int64) (o_t_leastX : Int64) (o_t_leastY : Int64) (o_t_leastLower : Int64) (hf : fX3_offer K t_threefold t_leastX t_leastY t_leastLower t_first_size t_first_x t_first_y t_second_size t_second_x t_second_y t_third_size t_third_x t_third_y a1 a3 a5 = some (o_t_leastX, o_t_leastY, o_t_leastLower)) : Met l yX3_offer [Cond.code yX3_offer cX3_offer 9 none] ({ frames := 1, cells := 0, slots := 0, locals := 35 }) (va_Pc [.ref h_t, .long a1, .long a3, .long a5] (cPre dC dI cI cL cB sz [(h_t, .inr (3, [.ref h_t_first, .ref h_t_second, .ref h_t_third, .ref h_t_place, .long t_gapSquare, .long t_gapLower, .long t_gapX, .long t_gapY, .ref h_t_near, .int t_threefold, .long t_leastX, .long t_leastY, .long t_leastLower])), (h_t_first, .inr (2, [.ref h_t_first_chain, .ref h_t_first_x, .ref h_t_first_y, .ref h_t_first_sorted, .int t_first_size])), (h_t_first_x, .inl (cI, 48, .inl t_first_x)), (h_t_first_y, .inl (cI, 48, .inl t_first_y)), (h_t_second, .inr (2, [.ref h_t_second_chain, .ref h_t_second_x, .ref h_t_second_y, .ref h_t_second_sorted, .int t_second_size])), (h_t_second_x, .inl (cI, 48, .inl t_second_x)), (h_t_second_y, .inl (cI, 48, .inl t_second_y)), (h_t_third, .inr (2, [.ref h_t_third_chain, .ref h_t_third_x, .ref h_t_third_y, .ref h_t_third_sorted, .int t_third_size])), (h_t_third_x, .inl (cI, 48, .inl t_third_x)), (h_t_third_y, .inl (cI, 48, .inl t_third_y))])) (cQv dC dI (va_A [(h_t, .inr (3, [.ref h_t_first, .ref h_t_second, .ref h_t_third, .ref h_t_place, .long t_gapSquare, .long t_gapLower, .long t_gapX, .long t_gapY, .ref h_t_near, .int t_threefold, .long t_leastX, .long t_leastY, .long t_leastLower])), (h_t_first, .inr (2, [.ref h_t_first_chain, .ref h_t_first_x, .ref h_t_first_y, .ref h_t_first_sorted, .int t_first_size])), (h_t_first_x, .inl (cI, 48, .inl t_first_x)), (h_t_first_y, .inl (cI, 48, .inl t_first_y)), (h_t_second, .inr (2, [.ref h_t_second_chain, .ref h_t_second_x, .ref h_t_second_y, .ref h_t_second_sorted, .int t_second_size])), (h_t_second_x, .inl (cI, 48, .inl t_second_x)), (h_t_second_y, .inl (cI, 48, .inl t_second_y)), (h_t_third, .inr (2, [.ref h_t_third_chain, .ref h_t_third_x, .ref h_t_third_y, .ref h_t_third_sorted, .int t_third_size])), (h_t_third_x, .inl (cI, 48, .inl t_third_x)), (h_t_third_y, .inl (cI, 48, .inl t_third_y))] sz) [(h_t, .inr (3, [.ref h_t_first, .ref h_t_second, .ref h_t_third, .ref h_t_place, .long t_gapSquare, .long t_gapLower, .long t_gapX, .long t_gapY, .ref h_t_near, .int t_threefold, .long o_t_leastX, .long o_t_leastY, .long o_t_leastLower])), (h_t_first, .inr (2, [.ref h_t_first_chain, .ref h_t_first_x, .ref h_t_first_y, .ref h_t_first_sorted, .int t_first_size])), (h_t_first_x, .inl (cI, 48, .inl t_first_x)), (h_t_first_y, .inl (cI, 48, .inl t_first_y)), (h_t_second, .inr (2, [.ref h_t_second_chain, .ref h_t_second_x, .ref h_t_second_y, .ref h_t_second_sorted, .int t_second_size])), (h_t_second_x, .inl (cI, 48, .inl t_second_x)), (h_t_second_y, .inl (cI, 48, .inl t_second_y)), (h_t_third, .inr (2, [.ref h_t_third_chain, .ref h_t_third_x, .ref h_t_third_y, .ref h_t_third_sorted, .int t_third_size])), (h_t_third_x, .inl (cI, 48, .inl t_third_x)), (h_t_third_y, .inl (cI, 48, .inl t_third_y))]) 0 0 (va_A [(h_t, .inr (3, [.ref h_t_first, .ref h_t_second, .ref h_t_third, .ref h_t_place, .long t_gapSquare, .long t_gapLower, .long t_gapX, .long t_gapY, .ref h_t_near, .int t_threefold, .long t_leastX, .long t_leastY, .long t_leastLower])), (h_t_first, .inr (2, [.ref h_t_first_chain, .ref h_t_first_x, .ref h_t_first_y, .ref h_t_first_sorted, .int t_first_size])), (h_t_first_x, .inl (cI, 48, .inl t_first_x)), (h_t_first_y, .inl (cI, 48, .inl t_first_y)), (h_t_second, .inr (2, [.ref h_t_second_chain, .ref h_t_second_x, .ref h_t_second_y, .ref h_t_second_sorted, .int t_second_size])), (h_t_second_x, .inl (cI, 48, .inl t_second_x)), (h_t_second_y, .inl (cI, 48, .inl t_second_y)), (h_t_third, .inr (2, [.ref h_t_third_chain, .ref h_t_third_x, .ref h_t_third_y, .ref h_t_third_sorted, .int t_third_size])), (h_t_third_x, .inl (cI, 48, .inl t_third_x)), (h_t_third_y, .inl (cI, 48, .inl t_third_y))] sz) := by
  refine Met.ofW (cc := cX3_offer) (maxL := 9) (ret := none) (by decide) rfl ?_
  intro p e s m args below meth c s₁ B hml hv
  obtain ⟨rfl, hsz, hP, hK, hD0, hT⟩ := hv
  have hx := B.exec
  have hb := B.bytes
  have hr := B.returns
  have hown : s.vm.findClass RX3 = some m.cls := findClass_of_methodNamed B.named
  have hlocks := B.notSynchronized
  have hts := TB.use hT ([.ref h_t, .long a1, .long a3, .long a5] : List Value).toArray
  subst hsz
  have hD := hD0.self (sz := s.heap.size)
  generalize hAe : va_A [(h_t, .inr (3, [.ref h_t_first, .ref h_t_second, .ref h_t_third, .ref h_t_place, .long t_gapSquare, .long t_gapLower, .long t_gapX, .long t_gapY, .ref h_t_near, .int t_threefold, .long t_leastX, .long t_leastY, .long t_leastLower])), (h_t_first, .inr (2, [.ref h_t_first_chain, .ref h_t_first_x, .ref h_t_first_y, .ref h_t_first_sorted, .int t_first_size])), (h_t_first_x, .inl (cI, 48, .inl t_first_x)), (h_t_first_y, .inl (cI, 48, .inl t_first_y)), (h_t_second, .inr (2, [.ref h_t_second_chain, .ref h_t_second_x, .ref h_t_second_y, .ref h_t_second_sorted, .int t_second_size])), (h_t_second_x, .inl (cI, 48, .inl t_second_x)), (h_t_second_y, .inl (cI, 48, .inl t_second_y)), (h_t_third, .inr (2, [.ref h_t_third_chain, .ref h_t_third_x, .ref h_t_third_y, .ref h_t_third_sorted, .int t_third_size])), (h_t_third_x, .inl (cI, 48, .inl t_third_x)), (h_t_third_y, .inl (cI, 48, .inl t_third_y))] s.heap.size = A at hD ⊢
  have hA : ∀ q : Nat, s.heap.size ≤ q → A q := fun q h => by rw [← hAe]; exact Or.inr h
  clear hAe hD0
  have hl := lv_entry ([.ref h_t, .long a1, .long a3, .long a5]) (n := 9) (Nat.le_of_ble_eq_true rfl)
  rw [lg_entry_eq]
  generalize (lg_sl ([.ref h_t, .long a1, .long a3, .long a5]) ++ List.replicate (9 - (lg_sl ([.ref h_t, .long a1, .long a3, .long a5])).length) Slot.unset).toArray = ls at hl ⊢
  have hl : lv_has ls 9 [(0, .ref h_t), (1, .long a1), (3, .long a3), (5, .long a5)] := hl
  have hF : 1 ≤ (headSpec [Cond.code yX3_offer cX3_offer 9 none] ({ frames := 1, cells := 0, slots := 0, locals := 35 })).room.frames := Nat.le_refl _
  have hLo : 35 ≤ (headSpec [Cond.code yX3_offer cX3_offer 9 none] ({ frames := 1, cells := 0, slots := 0, locals := 35 })).room.locals := Nat.le_refl _
  have C0 : Sx p (headSpec [Cond.code yX3_offer cX3_offer 9 none] ({ frames := 1, cells := 0, slots := 0, locals := 35 })).room s m ([.ref h_t, .long a1, .long a3, .long a5] : List Value).toArray c cX3_offer 9 RX3 A dC dI cI cL cB 1 35 := ⟨hx, hb, hml, hown, hts, hK, hT, hA, hF, hLo⟩
  refine startH (A := A) hP (fun H locs hP hS => ?_)
  rw [fX3_offer] at hf
  refine lv_aload_n hx hb dX3_offer_0 rfl (lv_at hl 0 rfl) ?_
  refine va_get (D := (dC, dI)) (ci := 3) (v := .long t_leastLower) (C := RX3) (T := TX3) (N := 13) hx hb hts in_X3 hown hK hP 0 rfl rfl 12 (Nat.le_of_ble_eq_true rfl) (hts _ qf_X3_44) (fun _ h9 => h9) rfl dX3_offer_1 ?_
  refine lv_lconst (v := (0 : Int64)) hx hb dX3_offer_4 (by decide) ?_
  refine W.lcmp hx hb dX3_offer_5 ?_
  obtain ⟨k_1, ek_1, hf⟩ := jn_out hf
  have J_2 : ∀ (H : Heap) (locs : List Loc) (ls : Array Slot), va_P (dC, dI) vwCl [(h_t, .inr (3, [.ref h_t_first, .ref h_t_second, .ref h_t_third, .ref h_t_place, .long t_gapSquare, .long t_gapLower, .long t_gapX, .long t_gapY, .ref h_t_near, .int t_threefold, .long t_leastX, .long t_leastY, .long t_leastLower])), (h_t_first, .inr (2, [.ref h_t_first_chain, .ref h_t_first_x, .ref h_t_first_y, .ref h_t_first_sorted, .int t_first_size])), (h_t_first_x, .inl (cI, 48, .inl t_first_x)), (h_t_first_y, .inl (cI, 48, .inl t_first_y)), (h_t_second, .inr (2, [.ref h_t_second_chain, .ref h_t_second_x, .ref h_t_second_y, .ref h_t_second_sorted, .int t_second_size])), (h_t_second_x, .inl (cI, 48, .inl t_second_x)), (h_t_second_y, .inl (cI, 48, .inl t_second_y)), (h_t_third, .inr (2, [.ref h_t_third_chain, .ref h_t_third_x, .ref h_t_third_y, .ref h_t_third_sorted, .int t_third_size])), (h_t_third_x, .inl (cI, 48, .inl t_third_x)), (h_t_third_y, .inl (cI, 48, .inl t_third_y))] H → va_D A [(h_t, .inr (3, [.ref h_t_first, .ref h_t_second, .ref h_t_third, .ref h_t_place, .long t_gapSquare, .long t_gapLower, .long t_gapX, .long t_gapY, .ref h_t_near, .int t_threefold, .long t_leastX, .long t_leastY, .long t_leastLower])), (h_t_first, .inr (2, [.ref h_t_first_chain, .ref h_t_first_x, .ref h_t_first_y, .ref h_t_first_sorted, .int t_first_size])), (h_t_first_x, .inl (cI, 48, .inl t_first_x)), (h_t_first_y, .inl (cI, 48, .inl t_first_y)), (h_t_second, .inr (2, [.ref h_t_second_chain, .ref h_t_second_x, .ref h_t_second_y, .ref h_t_second_sorted, .int t_second_size])), (h_t_second_x, .inl (cI, 48, .inl t_second_x)), (h_t_second_y, .inl (cI, 48, .inl t_second_y)), (h_t_third, .inr (2, [.ref h_t_third_chain, .ref h_t_third_x, .ref h_t_third_y, .ref h_t_third_sorted, .int t_third_size])), (h_t_third_x, .inl (cI, 48, .inl t_third_x)), (h_t_third_y, .inl (cI, 48, .inl t_third_y))] → va_S A s.heap H locs → lv_has ls 9 [(0, .ref h_t), (1, .long a1), (3, .long a3), (5, .long a5)] → k_1 = some (o_t_leastX, o_t_leastY, o_t_leastLower) → W p l e (headSpec [Cond.code yX3_offer cX3_offer 9 none] ({ frames := 1, cells := 0, slots := 0, locals := 35 })).room s m ([.ref h_t, .long a1, .long a3, .long a5] : List Value).toArray below meth c H locs 0 0 (MQ below (cQv dC dI A [(h_t, .inr (3, [.ref h_t_first, .ref h_t_second, .ref h_t_third, .ref h_t_place, .long t_gapSquare, .long t_gapLower, .long t_gapX, .long t_gapY, .ref h_t_near, .int t_threefold, .long o_t_leastX, .long o_t_leastY, .long o_t_leastLower])), (h_t_first, .inr (2, [.ref h_t_first_chain, .ref h_t_first_x, .ref h_t_first_y, .ref h_t_first_sorted, .int t_first_size])), (h_t_first_x, .inl (cI, 48, .inl t_first_x)), (h_t_first_y, .inl (cI, 48, .inl t_first_y)), (h_t_second, .inr (2, [.ref h_t_second_chain, .ref h_t_second_x, .ref h_t_second_y, .ref h_t_second_sorted, .int t_second_size])), (h_t_second_x, .inl (cI, 48, .inl t_second_x)), (h_t_second_y, .inl (cI, 48, .inl t_second_y)), (h_t_third, .inr (2, [.ref h_t_third_chain, .ref h_t_third_x, .ref h_t_third_y, .ref h_t_third_sorted, .int t_third_size])), (h_t_third_x, .inl (cI, 48, .inl t_third_x)), (h_t_third_y, .inl (cI, 48, .inl t_third_y))]) ([.ref h_t, .long a1, .long a3, .long a5] : List Value).toArray s 0 0 A) (F0 m 57 ls []) := by
    intro H locs ls hP hD hS hl hf
    rw [ek_1] at hf
    refine lv_aload_n hx hb dX3_offer_57 rfl (lv_at hl 0 rfl) ?_
    refine va_get (D := (dC, dI)) (ci := 3) (v := .ref h_t_first) (C := RX3) (T := TX3) (N := 13) hx hb hts in_X3 hown hK hP 0 rfl rfl 0 (Nat.le_of_ble_eq_true rfl) (hts _ qf_X3_10) (fun _ h9 => h9) rfl dX3_offer_58 ?_
    refine lv_lload_n hx hb dX3_offer_61 rfl (lv_at hl 1 rfl) ?_
    refine lv_lload_n hx hb dX3_offer_62 rfl (lv_at hl 2 rfl) ?_
    refine lv_lload hx hb dX3_offer_63 (lv_at hl 3 rfl) ?_
    obtain ⟨r_3, hq_4, hf⟩ := b1_some hf
    refine xci (wr := [(h_t, .inr (3, [.ref h_t_first, .ref h_t_second, .ref h_t_third, .ref h_t_place, .long t_gapSquare, .long t_gapLower, .long t_gapX, .long t_gapY, .ref h_t_near, .int t_threefold, .long t_leastX, .long t_leastY, .long t_leastLower])), (h_t_second, .inr (2, [.ref h_t_second_chain, .ref h_t_second_x, .ref h_t_second_y, .ref h_t_second_sorted, .int t_second_size])), (h_t_second_x, .inl (cI, 48, .inl t_second_x)), (h_t_second_y, .inl (cI, 48, .inl t_second_y)), (h_t_third, .inr (2, [.ref h_t_third_chain, .ref h_t_third_x, .ref h_t_third_y, .ref h_t_third_sorted, .int t_third_size])), (h_t_third_x, .inl (cI, 48, .inl t_third_x)), (h_t_third_y, .inl (cI, 48, .inl t_third_y))]) (w2 := [(h_t, .inr (3, [.ref h_t_first, .ref h_t_second, .ref h_t_third, .ref h_t_place, .long t_gapSquare, .long t_gapLower, .long t_gapX, .long t_gapY, .ref h_t_near, .int t_threefold, .long t_leastX, .long t_leastY, .long t_leastLower])), (h_t_first, .inr (2, [.ref h_t_first_chain, .ref h_t_first_x, .ref h_t_first_y, .ref h_t_first_sorted, .int t_first_size])), (h_t_first_x, .inl (cI, 48, .inl t_first_x)), (h_t_first_y, .inl (cI, 48, .inl t_first_y)), (h_t_second, .inr (2, [.ref h_t_second_chain, .ref h_t_second_x, .ref h_t_second_y, .ref h_t_second_sorted, .int t_second_size])), (h_t_second_x, .inl (cI, 48, .inl t_second_x)), (h_t_second_y, .inl (cI, 48, .inl t_second_y)), (h_t_third, .inr (2, [.ref h_t_third_chain, .ref h_t_third_x, .ref h_t_third_y, .ref h_t_third_sorted, .int t_third_size])), (h_t_third_x, .inl (cI, 48, .inl t_third_x)), (h_t_third_y, .inl (cI, 48, .inl t_third_y))]) (va_runV (As := [.long a1, .long a3, .long a5]) (rest := []) ⟨hx, hb, hml, hown, hts⟩ (mtX2_sideOf l dC dI cI cL cB K h_t_first h_t_first_chain h_t_first_x h_t_first_y h_t_first_sorted H.size t_first_size t_first_x t_first_y a1 a3 a5 r_3 hq_4) (cwV 3 hts gv_X3_80 rfl rfl rfl hdV_X2_sideOf ⟨Nat.le_trans (Nat.le_of_ble_eq_true rfl) hF, Nat.le_trans (Nat.le_of_ble_eq_true rfl) hLo⟩) (cPreV hK hP hD hT [1, 2, 3] rfl rfl (ci := 2) (q0 := 0) rfl rfl) rfl rfl hl.1 rfl (lv_room (Nat.le_of_ble_eq_true rfl)) dX3_offer_65 ⟨Nat.zero_le _, Nat.zero_le _⟩) hP hD hS hA [1, 2, 3] [0, 4, 5, 6, 7, 8, 9] [0, 7, 8, 9, 1, 2, 3, 4, 5, 6] rfl rfl rfl rfl rfl rfl (fun H locs hP hD hS => ?_)
    refine lv_if_le (tgt := 122) hx hb dX3_offer_68 (by decide) (fun hc => ?_) (fun hc => ?_)
    · replace hf := it_t (hc) hf
      obtain ⟨rfl, rfl, rfl⟩ := o3 hf
      exact W.vret hx hb hr (fun t ht hW => ⟨⟨(), rfl, trivial, by rw [ht]; exact hP, hD⟩, hS.F ht⟩) hS.2.2 dX3_offer_122
    · replace hf := it_f (hc) hf
      refine lv_aload_n hx hb dX3_offer_71 rfl (lv_at hl 0 rfl) ?_
      refine va_get (D := (dC, dI)) (ci := 3) (v := .ref h_t_second) (C := RX3) (T := TX3) (N := 13) hx hb hts in_X3 hown hK hP 0 rfl rfl 1 (Nat.le_of_ble_eq_true rfl) (hts _ qf_X3_16) (fun _ h9 => h9) rfl dX3_offer_72 ?_
      refine lv_lload_n hx hb dX3_offer_75 rfl (lv_at hl 1 rfl) ?_
      refine lv_lload_n hx hb dX3_offer_76 rfl (lv_at hl 2 rfl) ?_
      refine lv_lload hx hb dX3_offer_77 (lv_at hl 3 rfl) ?_
      obtain ⟨r_5, hq_6, hf⟩ := b1_some hf
      refine xci (wr := [(h_t, .inr (3, [.ref h_t_first, .ref h_t_second, .ref h_t_third, .ref h_t_place, .long t_gapSquare, .long t_gapLower, .long t_gapX, .long t_gapY, .ref h_t_near, .int t_threefold, .long t_leastX, .long t_leastY, .long t_leastLower])), (h_t_first, .inr (2, [.ref h_t_first_chain, .ref h_t_first_x, .ref h_t_first_y, .ref h_t_first_sorted, .int t_first_size])), (h_t_first_x, .inl (cI, 48, .inl t_first_x)), (h_t_first_y, .inl (cI, 48, .inl t_first_y)), (h_t_third, .inr (2, [.ref h_t_third_chain, .ref h_t_third_x, .ref h_t_third_y, .ref h_t_third_sorted, .int t_third_size])), (h_t_third_x, .inl (cI, 48, .inl t_third_x)), (h_t_third_y, .inl (cI, 48, .inl t_third_y))]) (w2 := [(h_t, .inr (3, [.ref h_t_first, .ref h_t_second, .ref h_t_third, .ref h_t_place, .long t_gapSquare, .long t_gapLower, .long t_gapX, .long t_gapY, .ref h_t_near, .int t_threefold, .long t_leastX, .long t_leastY, .long t_leastLower])), (h_t_first, .inr (2, [.ref h_t_first_chain, .ref h_t_first_x, .ref h_t_first_y, .ref h_t_first_sorted, .int t_first_size])), (h_t_first_x, .inl (cI, 48, .inl t_first_x)), (h_t_first_y, .inl (cI, 48, .inl t_first_y)), (h_t_second, .inr (2, [.ref h_t_second_chain, .ref h_t_second_x, .ref h_t_second_y, .ref h_t_second_sorted, .int t_second_size])), (h_t_second_x, .inl (cI, 48, .inl t_second_x)), (h_t_second_y, .inl (cI, 48, .inl t_second_y)), (h_t_third, .inr (2, [.ref h_t_third_chain, .ref h_t_third_x, .ref h_t_third_y, .ref h_t_third_sorted, .int t_third_size])), (h_t_third_x, .inl (cI, 48, .inl t_third_x)), (h_t_third_y, .inl (cI, 48, .inl t_third_y))]) (va_runV (As := [.long a1, .long a3, .long a5]) (rest := []) ⟨hx, hb, hml, hown, hts⟩ (mtX2_sideOf l dC dI cI cL cB K h_t_second h_t_second_chain h_t_second_x h_t_second_y h_t_second_sorted H.size t_second_size t_second_x t_second_y a1 a3 a5 r_5 hq_6) (cwV 3 hts gv_X3_80 rfl rfl rfl hdV_X2_sideOf ⟨Nat.le_trans (Nat.le_of_ble_eq_true rfl) hF, Nat.le_trans (Nat.le_of_ble_eq_true rfl) hLo⟩) (cPreV hK hP hD hT [4, 5, 6] rfl rfl (ci := 2) (q0 := 0) rfl rfl) rfl rfl hl.1 rfl (lv_room (Nat.le_of_ble_eq_true rfl)) dX3_offer_79 ⟨Nat.zero_le _, Nat.zero_le _⟩) hP hD hS hA [4, 5, 6] [0, 1, 2, 3, 7, 8, 9] [0, 1, 2, 3, 7, 8, 9, 4, 5, 6] rfl rfl rfl rfl rfl rfl (fun H locs hP hD hS => ?_)
      refine lv_if_le (tgt := 122) hx hb dX3_offer_82 (by decide) (fun hc => ?_) (fun hc => ?_)
      · replace hf := it_t (hc) hf
        obtain ⟨rfl, rfl, rfl⟩ := o3 hf
        exact W.vret hx hb hr (fun t ht hW => ⟨⟨(), rfl, trivial, by rw [ht]; exact hP, hD⟩, hS.F ht⟩) hS.2.2 dX3_offer_122
      · replace hf := it_f (hc) hf
        refine lv_aload_n hx hb dX3_offer_85 rfl (lv_at hl 0 rfl) ?_
        refine va_get (D := (dC, dI)) (ci := 3) (v := .int t_threefold) (C := RX3) (T := TX3) (N := 13) hx hb hts in_X3 hown hK hP 0 rfl rfl 9 (Nat.le_of_ble_eq_true rfl) (hts _ qf_X3_40) (fun _ h9 => h9) rfl dX3_offer_86 ?_
        obtain ⟨k_7, ek_7, hf⟩ := jn_out hf
        have J_8 : ∀ (H : Heap) (locs : List Loc) (ls : Array Slot), va_P (dC, dI) vwCl [(h_t, .inr (3, [.ref h_t_first, .ref h_t_second, .ref h_t_third, .ref h_t_place, .long t_gapSquare, .long t_gapLower, .long t_gapX, .long t_gapY, .ref h_t_near, .int t_threefold, .long t_leastX, .long t_leastY, .long t_leastLower])), (h_t_first, .inr (2, [.ref h_t_first_chain, .ref h_t_first_x, .ref h_t_first_y, .ref h_t_first_sorted, .int t_first_size])), (h_t_first_x, .inl (cI, 48, .inl t_first_x)), (h_t_first_y, .inl (cI, 48, .inl t_first_y)), (h_t_second, .inr (2, [.ref h_t_second_chain, .ref h_t_second_x, .ref h_t_second_y, .ref h_t_second_sorted, .int t_second_size])), (h_t_second_x, .inl (cI, 48, .inl t_second_x)), (h_t_second_y, .inl (cI, 48, .inl t_second_y)), (h_t_third, .inr (2, [.ref h_t_third_chain, .ref h_t_third_x, .ref h_t_third_y, .ref h_t_third_sorted, .int t_third_size])), (h_t_third_x, .inl (cI, 48, .inl t_third_x)), (h_t_third_y, .inl (cI, 48, .inl t_third_y))] H → va_D A [(h_t, .inr (3, [.ref h_t_first, .ref h_t_second, .ref h_t_third, .ref h_t_place, .long t_gapSquare, .long t_gapLower, .long t_gapX, .long t_gapY, .ref h_t_near, .int t_threefold, .long t_leastX, .long t_leastY, .long t_leastLower])), (h_t_first, .inr (2, [.ref h_t_first_chain, .ref h_t_first_x, .ref h_t_first_y, .ref h_t_first_sorted, .int t_first_size])), (h_t_first_x, .inl (cI, 48, .inl t_first_x)), (h_t_first_y, .inl (cI, 48, .inl t_first_y)), (h_t_second, .inr (2, [.ref h_t_second_chain, .ref h_t_second_x, .ref h_t_second_y, .ref h_t_second_sorted, .int t_second_size])), (h_t_second_x, .inl (cI, 48, .inl t_second_x)), (h_t_second_y, .inl (cI, 48, .inl t_second_y)), (h_t_third, .inr (2, [.ref h_t_third_chain, .ref h_t_third_x, .ref h_t_third_y, .ref h_t_third_sorted, .int t_third_size])), (h_t_third_x, .inl (cI, 48, .inl t_third_x)), (h_t_third_y, .inl (cI, 48, .inl t_third_y))] → va_S A s.heap H locs → lv_has ls 9 [(0, .ref h_t), (1, .long a1), (3, .long a3), (5, .long a5)] → k_7 = some (o_t_leastX, o_t_leastY, o_t_leastLower) → W p l e (headSpec [Cond.code yX3_offer cX3_offer 9 none] ({ frames := 1, cells := 0, slots := 0, locals := 35 })).room s m ([.ref h_t, .long a1, .long a3, .long a5] : List Value).toArray below meth c H locs 0 0 (MQ below (cQv dC dI A [(h_t, .inr (3, [.ref h_t_first, .ref h_t_second, .ref h_t_third, .ref h_t_place, .long t_gapSquare, .long t_gapLower, .long t_gapX, .long t_gapY, .ref h_t_near, .int t_threefold, .long o_t_leastX, .long o_t_leastY, .long o_t_leastLower])), (h_t_first, .inr (2, [.ref h_t_first_chain, .ref h_t_first_x, .ref h_t_first_y, .ref h_t_first_sorted, .int t_first_size])), (h_t_first_x, .inl (cI, 48, .inl t_first_x)), (h_t_first_y, .inl (cI, 48, .inl t_first_y)), (h_t_second, .inr (2, [.ref h_t_second_chain, .ref h_t_second_x, .ref h_t_second_y, .ref h_t_second_sorted, .int t_second_size])), (h_t_second_x, .inl (cI, 48, .inl t_second_x)), (h_t_second_y, .inl (cI, 48, .inl t_second_y)), (h_t_third, .inr (2, [.ref h_t_third_chain, .ref h_t_third_x, .ref h_t_third_y, .ref h_t_third_sorted, .int t_third_size])), (h_t_third_x, .inl (cI, 48, .inl t_third_x)), (h_t_third_y, .inl (cI, 48, .inl t_third_y))]) ([.ref h_t, .long a1, .long a3, .long a5] : List Value).toArray s 0 0 A) (F0 m 106 ls []) := by
          intro H locs ls hP hD hS hl hf
          rw [ek_7] at hf
          refine lv_aload_n hx hb dX3_offer_106 rfl (lv_at hl 0 rfl) ?_
          refine lv_lload_n hx hb dX3_offer_107 rfl (lv_at hl 1 rfl) ?_
          refine xput (D := (dC, dI)) (ci := 3) (v := .long a1) (C := RX3) (T := TX3) (N := 13) (w2 := [(h_t, .inr (3, [.ref h_t_first, .ref h_t_second, .ref h_t_third, .ref h_t_place, .long t_gapSquare, .long t_gapLower, .long t_gapX, .long t_gapY, .ref h_t_near, .int t_threefold, .long a1, .long t_leastY, .long t_leastLower])), (h_t_first, .inr (2, [.ref h_t_first_chain, .ref h_t_first_x, .ref h_t_first_y, .ref h_t_first_sorted, .int t_first_size])), (h_t_first_x, .inl (cI, 48, .inl t_first_x)), (h_t_first_y, .inl (cI, 48, .inl t_first_y)), (h_t_second, .inr (2, [.ref h_t_second_chain, .ref h_t_second_x, .ref h_t_second_y, .ref h_t_second_sorted, .int t_second_size])), (h_t_second_x, .inl (cI, 48, .inl t_second_x)), (h_t_second_y, .inl (cI, 48, .inl t_second_y)), (h_t_third, .inr (2, [.ref h_t_third_chain, .ref h_t_third_x, .ref h_t_third_y, .ref h_t_third_sorted, .int t_third_size])), (h_t_third_x, .inl (cI, 48, .inl t_third_x)), (h_t_third_y, .inl (cI, 48, .inl t_third_y))]) hx hb hts in_X3 tyX3 tyX3_ok nmX3 hown hK hP hD hS 0 rfl rfl 10 (Nat.le_of_ble_eq_true rfl) (hts _ qf_X3_56) (fun _ h9 => h9) rfl rfl rfl (Nat.le_of_ble_eq_true rfl) rfl dX3_offer_108 (fun H locs hP hD hS => ?_)
          refine lv_aload_n hx hb dX3_offer_111 rfl (lv_at hl 0 rfl) ?_
          refine lv_lload_n hx hb dX3_offer_112 rfl (lv_at hl 2 rfl) ?_
          refine xput (D := (dC, dI)) (ci := 3) (v := .long a3) (C := RX3) (T := TX3) (N := 13) (w2 := [(h_t, .inr (3, [.ref h_t_first, .ref h_t_second, .ref h_t_third, .ref h_t_place, .long t_gapSquare, .long t_gapLower, .long t_gapX, .long t_gapY, .ref h_t_near, .int t_threefold, .long a1, .long a3, .long t_leastLower])), (h_t_first, .inr (2, [.ref h_t_first_chain, .ref h_t_first_x, .ref h_t_first_y, .ref h_t_first_sorted, .int t_first_size])), (h_t_first_x, .inl (cI, 48, .inl t_first_x)), (h_t_first_y, .inl (cI, 48, .inl t_first_y)), (h_t_second, .inr (2, [.ref h_t_second_chain, .ref h_t_second_x, .ref h_t_second_y, .ref h_t_second_sorted, .int t_second_size])), (h_t_second_x, .inl (cI, 48, .inl t_second_x)), (h_t_second_y, .inl (cI, 48, .inl t_second_y)), (h_t_third, .inr (2, [.ref h_t_third_chain, .ref h_t_third_x, .ref h_t_third_y, .ref h_t_third_sorted, .int t_third_size])), (h_t_third_x, .inl (cI, 48, .inl t_third_x)), (h_t_third_y, .inl (cI, 48, .inl t_third_y))]) hx hb hts in_X3 tyX3 tyX3_ok nmX3 hown hK hP hD hS 0 rfl rfl 11 (Nat.le_of_ble_eq_true rfl) (hts _ qf_X3_59) (fun _ h9 => h9) rfl rfl rfl (Nat.le_of_ble_eq_true rfl) rfl dX3_offer_113 (fun H locs hP hD hS => ?_)
          refine lv_aload_n hx hb dX3_offer_116 rfl (lv_at hl 0 rfl) ?_
          refine lv_lload hx hb dX3_offer_117 (lv_at hl 3 rfl) ?_
          refine xput (D := (dC, dI)) (ci := 3) (v := .long a5) (C := RX3) (T := TX3) (N := 13) (w2 := [(h_t, .inr (3, [.ref h_t_first, .ref h_t_second, .ref h_t_third, .ref h_t_place, .long t_gapSquare, .long t_gapLower, .long t_gapX, .long t_gapY, .ref h_t_near, .int t_threefold, .long a1, .long a3, .long a5])), (h_t_first, .inr (2, [.ref h_t_first_chain, .ref h_t_first_x, .ref h_t_first_y, .ref h_t_first_sorted, .int t_first_size])), (h_t_first_x, .inl (cI, 48, .inl t_first_x)), (h_t_first_y, .inl (cI, 48, .inl t_first_y)), (h_t_second, .inr (2, [.ref h_t_second_chain, .ref h_t_second_x, .ref h_t_second_y, .ref h_t_second_sorted, .int t_second_size])), (h_t_second_x, .inl (cI, 48, .inl t_second_x)), (h_t_second_y, .inl (cI, 48, .inl t_second_y)), (h_t_third, .inr (2, [.ref h_t_third_chain, .ref h_t_third_x, .ref h_t_third_y, .ref h_t_third_sorted, .int t_third_size])), (h_t_third_x, .inl (cI, 48, .inl t_third_x)), (h_t_third_y, .inl (cI, 48, .inl t_third_y))]) hx hb hts in_X3 tyX3 tyX3_ok nmX3 hown hK hP hD hS 0 rfl rfl 12 (Nat.le_of_ble_eq_true rfl) (hts _ qf_X3_44) (fun _ h9 => h9) rfl rfl rfl (Nat.le_of_ble_eq_true rfl) rfl dX3_offer_119 (fun H locs hP hD hS => ?_)
          obtain ⟨rfl, rfl, rfl⟩ := o3 hf
          exact W.vret hx hb hr (fun t ht hW => ⟨⟨(), rfl, trivial, by rw [ht]; exact hP, hD⟩, hS.F ht⟩) hS.2.2 dX3_offer_122
        refine lv_if_eq (tgt := 106) hx hb dX3_offer_89 (by decide) (fun hc => ?_) (fun hc => ?_)
        · replace hf := it_t (hc) hf
          exact J_8 H locs ls hP hD hS (lv_sub hl [0, 1, 2, 3] rfl) hf
        · replace hf := it_f (hc) hf
          refine lv_aload_n hx hb dX3_offer_92 rfl (lv_at hl 0 rfl) ?_
          refine va_get (D := (dC, dI)) (ci := 3) (v := .ref h_t_third) (C := RX3) (T := TX3) (N := 13) hx hb hts in_X3 hown hK hP 0 rfl rfl 2 (Nat.le_of_ble_eq_true rfl) (hts _ qf_X3_19) (fun _ h9 => h9) rfl dX3_offer_93 ?_
          refine lv_lload_n hx hb dX3_offer_96 rfl (lv_at hl 1 rfl) ?_
          refine lv_lload_n hx hb dX3_offer_97 rfl (lv_at hl 2 rfl) ?_
          refine lv_lload hx hb dX3_offer_98 (lv_at hl 3 rfl) ?_
          obtain ⟨r_9, hq_10, hf⟩ := b1_some hf
          refine xci (wr := [(h_t, .inr (3, [.ref h_t_first, .ref h_t_second, .ref h_t_third, .ref h_t_place, .long t_gapSquare, .long t_gapLower, .long t_gapX, .long t_gapY, .ref h_t_near, .int t_threefold, .long t_leastX, .long t_leastY, .long t_leastLower])), (h_t_first, .inr (2, [.ref h_t_first_chain, .ref h_t_first_x, .ref h_t_first_y, .ref h_t_first_sorted, .int t_first_size])), (h_t_first_x, .inl (cI, 48, .inl t_first_x)), (h_t_first_y, .inl (cI, 48, .inl t_first_y)), (h_t_second, .inr (2, [.ref h_t_second_chain, .ref h_t_second_x, .ref h_t_second_y, .ref h_t_second_sorted, .int t_second_size])), (h_t_second_x, .inl (cI, 48, .inl t_second_x)), (h_t_second_y, .inl (cI, 48, .inl t_second_y))]) (w2 := [(h_t, .inr (3, [.ref h_t_first, .ref h_t_second, .ref h_t_third, .ref h_t_place, .long t_gapSquare, .long t_gapLower, .long t_gapX, .long t_gapY, .ref h_t_near, .int t_threefold, .long t_leastX, .long t_leastY, .long t_leastLower])), (h_t_first, .inr (2, [.ref h_t_first_chain, .ref h_t_first_x, .ref h_t_first_y, .ref h_t_first_sorted, .int t_first_size])), (h_t_first_x, .inl (cI, 48, .inl t_first_x)), (h_t_first_y, .inl (cI, 48, .inl t_first_y)), (h_t_second, .inr (2, [.ref h_t_second_chain, .ref h_t_second_x, .ref h_t_second_y, .ref h_t_second_sorted, .int t_second_size])), (h_t_second_x, .inl (cI, 48, .inl t_second_x)), (h_t_second_y, .inl (cI, 48, .inl t_second_y)), (h_t_third, .inr (2, [.ref h_t_third_chain, .ref h_t_third_x, .ref h_t_third_y, .ref h_t_third_sorted, .int t_third_size])), (h_t_third_x, .inl (cI, 48, .inl t_third_x)), (h_t_third_y, .inl (cI, 48, .inl t_third_y))]) (va_runV (As := [.long a1, .long a3, .long a5]) (rest := []) ⟨hx, hb, hml, hown, hts⟩ (mtX2_sideOf l dC dI cI cL cB K h_t_third h_t_third_chain h_t_third_x h_t_third_y h_t_third_sorted H.size t_third_size t_third_x t_third_y a1 a3 a5 r_9 hq_10) (cwV 3 hts gv_X3_80 rfl rfl rfl hdV_X2_sideOf ⟨Nat.le_trans (Nat.le_of_ble_eq_true rfl) hF, Nat.le_trans (Nat.le_of_ble_eq_true rfl) hLo⟩) (cPreV hK hP hD hT [7, 8, 9] rfl rfl (ci := 2) (q0 := 0) rfl rfl) rfl rfl hl.1 rfl (lv_room (Nat.le_of_ble_eq_true rfl)) dX3_offer_100 ⟨Nat.zero_le _, Nat.zero_le _⟩) hP hD hS hA [7, 8, 9] [0, 1, 2, 3, 4, 5, 6] [0, 1, 2, 3, 4, 5, 6, 7, 8, 9] rfl rfl rfl rfl rfl rfl (fun H locs hP hD hS => ?_)
          refine lv_if_le (tgt := 122) hx hb dX3_offer_103 (by decide) (fun hc => ?_) (fun hc => ?_)
          · replace hf := it_t (hc) hf
            obtain ⟨rfl, rfl, rfl⟩ := o3 hf
            exact W.vret hx hb hr (fun t ht hW => ⟨⟨(), rfl, trivial, by rw [ht]; exact hP, hD⟩, hS.F ht⟩) hS.2.2 dX3_offer_122
          · replace hf := it_f (hc) hf
            exact J_8 H locs ls hP hD hS (lv_sub hl [0, 1, 2, 3] rfl) hf
  refine lv_if_eq (tgt := 57) hx hb dX3_offer_6 (by decide) (fun hc => ?_) (fun hc => ?_)
  · replace hf := it_t ((lg_cmp_eq _ _).mp hc) hf
    exact J_2 H locs ls hP hD hS (lv_sub hl [0, 1, 2, 3] rfl) hf
  · replace hf := it_f (fun h9 => hc ((lg_cmp_eq _ _).mpr h9)) hf
    refine lv_lload_n hx hb dX3_offer_9 rfl (lv_at hl 1 rfl) ?_
    refine lv_aload_n hx hb dX3_offer_10 rfl (lv_at hl 0 rfl) ?_
    refine va_get (D := (dC, dI)) (ci := 3) (v := .long t_leastLower) (C := RX3) (T := TX3) (N := 13) hx hb hts in_X3 hown hK hP 0 rfl rfl 12 (Nat.le_of_ble_eq_true rfl) (hts _ qf_X3_44) (fun _ h9 => h9) rfl dX3_offer_11 ?_
    refine lv_lmul hx hb dX3_offer_14 ?_
    refine lv_aload_n hx hb dX3_offer_15 rfl (lv_at hl 0 rfl) ?_
    refine va_get (D := (dC, dI)) (ci := 3) (v := .long t_leastX) (C := RX3) (T := TX3) (N := 13) hx hb hts in_X3 hown hK hP 0 rfl rfl 10 (Nat.le_of_ble_eq_true rfl) (hts _ qf_X3_56) (fun _ h9 => h9) rfl dX3_offer_16 ?_
    refine lv_lload hx hb dX3_offer_19 (lv_at hl 3 rfl) ?_
    refine lv_lmul hx hb dX3_offer_21 ?_
    refine lv_lsub hx hb dX3_offer_22 ?_
    refine lv_topl (fun l7_11 el7_11 => ?_)
    replace hf := xl_at hf el7_11
    refine lv_lstore (lv' := [(7, .long l7_11), (0, .ref h_t), (1, .long a1), (3, .long a3), (5, .long a5)]) hx hb dX3_offer_23 hl (Nat.le_of_ble_eq_true rfl) rfl (fun ls hl => ?_)
    refine lv_lload hx hb dX3_offer_25 (lv_at hl 0 rfl) ?_
    refine lv_lconst (v := (0 : Int64)) hx hb dX3_offer_27 (by decide) ?_
    refine W.lcmp hx hb dX3_offer_28 ?_
    refine lv_if_gt (tgt := 56) hx hb dX3_offer_29 (by decide) (fun hc => ?_) (fun hc => ?_)
    · replace hf := it_t ((lg_cmp_gt _ _).mp hc) hf
      obtain ⟨rfl, rfl, rfl⟩ := o3 hf
      exact W.vret hx hb hr (fun t ht hW => ⟨⟨(), rfl, trivial, by rw [ht]; exact hP, hD⟩, hS.F ht⟩) hS.2.2 dX3_offer_56
    · replace hf := it_f (fun h9 => hc ((lg_cmp_gt _ _).mpr h9)) hf
      refine lv_lload hx hb dX3_offer_32 (lv_at hl 0 rfl) ?_
      refine lv_lconst (v := (0 : Int64)) hx hb dX3_offer_34 (by decide) ?_
      refine W.lcmp hx hb dX3_offer_35 ?_
      refine lv_if_ne (tgt := 57) hx hb dX3_offer_36 (by decide) (fun hc => ?_) (fun hc => ?_)
      · replace hf := it_f (fun h9 => hc ((lg_cmp_eq _ _).mpr h9)) hf
        exact J_2 H locs ls hP hD hS (lv_sub hl [1, 2, 3, 4] rfl) hf
      · replace hf := it_t ((lg_cmp_eq _ _).mp hc) hf
        refine lv_lload_n hx hb dX3_offer_39 rfl (lv_at hl 3 rfl) ?_
        refine lv_aload_n hx hb dX3_offer_40 rfl (lv_at hl 1 rfl) ?_
        refine va_get (D := (dC, dI)) (ci := 3) (v := .long t_leastLower) (C := RX3) (T := TX3) (N := 13) hx hb hts in_X3 hown hK hP 0 rfl rfl 12 (Nat.le_of_ble_eq_true rfl) (hts _ qf_X3_44) (fun _ h9 => h9) rfl dX3_offer_41 ?_
        refine lv_lmul hx hb dX3_offer_44 ?_
        refine lv_aload_n hx hb dX3_offer_45 rfl (lv_at hl 1 rfl) ?_
        refine va_get (D := (dC, dI)) (ci := 3) (v := .long t_leastY) (C := RX3) (T := TX3) (N := 13) hx hb hts in_X3 hown hK hP 0 rfl rfl 11 (Nat.le_of_ble_eq_true rfl) (hts _ qf_X3_59) (fun _ h9 => h9) rfl dX3_offer_46 ?_
        refine lv_lload hx hb dX3_offer_49 (lv_at hl 4 rfl) ?_
        refine lv_lmul hx hb dX3_offer_51 ?_
        refine W.lcmp hx hb dX3_offer_52 ?_
        refine lv_if_lt (tgt := 57) hx hb dX3_offer_53 (by decide) (fun hc => ?_) (fun hc => ?_)
        · replace hf := it_t ((lg_cmp_lt _ _).mp hc) hf
          exact J_2 H locs ls hP hD hS (lv_sub hl [1, 2, 3, 4] rfl) hf
        · replace hf := it_f (fun h9 => hc ((lg_cmp_lt _ _).mpr h9)) hf
          obtain ⟨rfl, rfl, rfl⟩ := o3 hf
          exact W.vret hx hb hr (fun t ht hW => ⟨⟨(), rfl, trivial, by rw [ht]; exact hP, hD⟩, hS.F ht⟩) hS.2.2 dX3_offer_56
theorem dX3_offerCorners_0 : decode cX3_offerCorners 0 = .ok (.iconst 0, 1) := by decide +kernel
theorem dX3_offerCorners_1 : decode cX3_offerCorners 1 = .ok (.istore_n 2, 1) := by decide +kernel
theorem dX3_offerCorners_2 : decode cX3_offerCorners 2 = .ok (.iload_n 2, 1) := by decide +kernel
theorem dX3_offerCorners_3 : decode cX3_offerCorners 3 = .ok (.aload_n 1, 1) := by decide +kernel
theorem dX3_offerCorners_4 : decode cX3_offerCorners 4 = .ok (.getfield 66, 3) := by decide +kernel
theorem dX3_offerCorners_7 : decode cX3_offerCorners 7 = .ok (.if_icmp .ge 28, 3) := by decide +kernel
theorem dX3_offerCorners_10 : decode cX3_offerCorners 10 = .ok (.aload_n 0, 1) := by decide +kernel
theorem dX3_offerCorners_11 : decode cX3_offerCorners 11 = .ok (.aload_n 1, 1) := by decide +kernel
theorem dX3_offerCorners_12 : decode cX3_offerCorners 12 = .ok (.getfield 70, 3) := by decide +kernel
theorem dX3_offerCorners_15 : decode cX3_offerCorners 15 = .ok (.iload_n 2, 1) := by decide +kernel
theorem dX3_offerCorners_16 : decode cX3_offerCorners 16 = .ok (.iaload, 1) := by decide +kernel
theorem dX3_offerCorners_17 : decode cX3_offerCorners 17 = .ok (.i2l, 1) := by decide +kernel
theorem dX3_offerCorners_18 : decode cX3_offerCorners 18 = .ok (.aload_n 1, 1) := by decide +kernel
theorem dX3_offerCorners_19 : decode cX3_offerCorners 19 = .ok (.getfield 74, 3) := by decide +kernel
theorem dX3_offerCorners_22 : decode cX3_offerCorners 22 = .ok (.iload_n 2, 1) := by decide +kernel
theorem dX3_offerCorners_23 : decode cX3_offerCorners 23 = .ok (.iaload, 1) := by decide +kernel
theorem dX3_offerCorners_24 : decode cX3_offerCorners 24 = .ok (.i2l, 1) := by decide +kernel
theorem dX3_offerCorners_25 : decode cX3_offerCorners 25 = .ok (.lconst 1, 1) := by decide +kernel
theorem dX3_offerCorners_26 : decode cX3_offerCorners 26 = .ok (.invokevirtual 77, 3) := by decide +kernel
theorem dX3_offerCorners_29 : decode cX3_offerCorners 29 = .ok (.iinc 2 1, 3) := by decide +kernel
theorem dX3_offerCorners_32 : decode cX3_offerCorners 32 = .ok (.goto (-30), 3) := by decide +kernel
theorem dX3_offerCorners_35 : decode cX3_offerCorners 35 = .ok (.return_, 1) := by decide +kernel
set_option maxRecDepth 100000 in
set_option maxHeartbeats 4000000 in
theorem wX3_offerCorners_p1atfirst_L2 {p : Program} {l : Launch} {e : Env} {R : Room} {s : State} {m : MethodId} {args : Array Value} {below : List Frame} {meth : Method} {c : Code} {Q : State → Prop} {A : Nat → Prop} {dC : Nat → ClassId} {dI : Nat → Nat → Nat} {cI cL cB : ClassId} {K : Nat} (C0 : Sx p R s m args c cX3_offerCorners 3 RX3 A dC dI cI cL cB 2 63) (h_t h_t_first h_t_second h_t_third h_t_place h_t_near h_t_first_chain h_t_first_x h_t_first_y h_t_first_sorted h_t_second_chain h_t_second_x h_t_second_y h_t_second_sorted h_t_third_chain h_t_third_x h_t_third_y h_t_third_sorted : Nat) (t_gapSquare : Int64) (t_gapLower : Int64) (t_gapX : Int64) (t_gapY : Int64) (t_threefold : Int32) (t_first_size : Int32) (t_first_x : Nat → Int32) (t_first_y : Nat → Int32) (t_second_size : Int32) (t_second_x : Nat → Int32) (t_second_y : Nat → Int32) (t_third_size : Int32) (t_third_x : Nat → Int32) (t_third_y : Nat → Int32) : ∀ (n : Nat) (l2 : Int32) (t_leastX : Int64) (t_leastY : Int64) (t_leastLower : Int64) (x_t_leastX : Int64) (x_t_leastY : Int64) (x_t_leastLower : Int64) (H : Heap) (locs : List Loc) (ls : Array Slot), va_P (dC, dI) vwCl [(h_t, .inr (3, [.ref h_t_first, .ref h_t_second, .ref h_t_third, .ref h_t_place, .long t_gapSquare, .long t_gapLower, .long t_gapX, .long t_gapY, .ref h_t_near, .int t_threefold, .long t_leastX, .long t_leastY, .long t_leastLower])), (h_t_first, .inr (2, [.ref h_t_first_chain, .ref h_t_first_x, .ref h_t_first_y, .ref h_t_first_sorted, .int t_first_size])), (h_t_first_x, .inl (cI, 48, .inl t_first_x)), (h_t_first_y, .inl (cI, 48, .inl t_first_y)), (h_t_second, .inr (2, [.ref h_t_second_chain, .ref h_t_second_x, .ref h_t_second_y, .ref h_t_second_sorted, .int t_second_size])), (h_t_second_x, .inl (cI, 48, .inl t_second_x)), (h_t_second_y, .inl (cI, 48, .inl t_second_y)), (h_t_third, .inr (2, [.ref h_t_third_chain, .ref h_t_third_x, .ref h_t_third_y, .ref h_t_third_sorted, .int t_third_size])), (h_t_third_x, .inl (cI, 48, .inl t_third_x)), (h_t_third_y, .inl (cI, 48, .inl t_third_y))] H → va_D A [(h_t, .inr (3, [.ref h_t_first, .ref h_t_second, .ref h_t_third, .ref h_t_place, .long t_gapSquare, .long t_gapLower, .long t_gapX, .long t_gapY, .ref h_t_near, .int t_threefold, .long t_leastX, .long t_leastY, .long t_leastLower])), (h_t_first, .inr (2, [.ref h_t_first_chain, .ref h_t_first_x, .ref h_t_first_y, .ref h_t_first_sorted, .int t_first_size])), (h_t_first_x, .inl (cI, 48, .inl t_first_x)), (h_t_first_y, .inl (cI, 48, .inl t_first_y)), (h_t_second, .inr (2, [.ref h_t_second_chain, .ref h_t_second_x, .ref h_t_second_y, .ref h_t_second_sorted, .int t_second_size])), (h_t_second_x, .inl (cI, 48, .inl t_second_x)), (h_t_second_y, .inl (cI, 48, .inl t_second_y)), (h_t_third, .inr (2, [.ref h_t_third_chain, .ref h_t_third_x, .ref h_t_third_y, .ref h_t_third_sorted, .int t_third_size])), (h_t_third_x, .inl (cI, 48, .inl t_third_x)), (h_t_third_y, .inl (cI, 48, .inl t_third_y))] → va_S A s.heap H locs → lv_has ls 3 [(0, .ref h_t), (1, .ref h_t_first), (2, .int l2)] → fX3_offerCorners_p1atfirst_L2 K t_threefold t_first_size t_first_x t_first_y t_second_size t_second_x t_second_y t_third_size t_third_x t_third_y n l2 t_leastX t_leastY t_leastLower = some (x_t_leastX, x_t_leastY, x_t_leastLower) → (∀ (H : Heap) (locs : List Loc) (ls : Array Slot), va_P (dC, dI) vwCl [(h_t, .inr (3, [.ref h_t_first, .ref h_t_second, .ref h_t_third, .ref h_t_place, .long t_gapSquare, .long t_gapLower, .long t_gapX, .long t_gapY, .ref h_t_near, .int t_threefold, .long x_t_leastX, .long x_t_leastY, .long x_t_leastLower])), (h_t_first, .inr (2, [.ref h_t_first_chain, .ref h_t_first_x, .ref h_t_first_y, .ref h_t_first_sorted, .int t_first_size])), (h_t_first_x, .inl (cI, 48, .inl t_first_x)), (h_t_first_y, .inl (cI, 48, .inl t_first_y)), (h_t_second, .inr (2, [.ref h_t_second_chain, .ref h_t_second_x, .ref h_t_second_y, .ref h_t_second_sorted, .int t_second_size])), (h_t_second_x, .inl (cI, 48, .inl t_second_x)), (h_t_second_y, .inl (cI, 48, .inl t_second_y)), (h_t_third, .inr (2, [.ref h_t_third_chain, .ref h_t_third_x, .ref h_t_third_y, .ref h_t_third_sorted, .int t_third_size])), (h_t_third_x, .inl (cI, 48, .inl t_third_x)), (h_t_third_y, .inl (cI, 48, .inl t_third_y))] H → va_D A [(h_t, .inr (3, [.ref h_t_first, .ref h_t_second, .ref h_t_third, .ref h_t_place, .long t_gapSquare, .long t_gapLower, .long t_gapX, .long t_gapY, .ref h_t_near, .int t_threefold, .long x_t_leastX, .long x_t_leastY, .long x_t_leastLower])), (h_t_first, .inr (2, [.ref h_t_first_chain, .ref h_t_first_x, .ref h_t_first_y, .ref h_t_first_sorted, .int t_first_size])), (h_t_first_x, .inl (cI, 48, .inl t_first_x)), (h_t_first_y, .inl (cI, 48, .inl t_first_y)), (h_t_second, .inr (2, [.ref h_t_second_chain, .ref h_t_second_x, .ref h_t_second_y, .ref h_t_second_sorted, .int t_second_size])), (h_t_second_x, .inl (cI, 48, .inl t_second_x)), (h_t_second_y, .inl (cI, 48, .inl t_second_y)), (h_t_third, .inr (2, [.ref h_t_third_chain, .ref h_t_third_x, .ref h_t_third_y, .ref h_t_third_sorted, .int t_third_size])), (h_t_third_x, .inl (cI, 48, .inl t_third_x)), (h_t_third_y, .inl (cI, 48, .inl t_third_y))] → va_S A s.heap H locs → lv_has ls 3 [] → W p l e R s m args below meth c H locs 0 0 Q (F0 m 35 ls [])) → W p l e R s m args below meth c H locs 0 0 Q (F0 m 2 ls []) := by
  obtain ⟨hx, hb, hml, hown, hts, hK, hT, hA, hF, hLo⟩ := id C0
  intro n
  induction n with
  | zero =>
    intro l2 t_leastX t_leastY t_leastLower x_t_leastX x_t_leastY x_t_leastLower H locs ls hP hD hS hl hf
    rw [fX3_offerCorners_p1atfirst_L2] at hf
    cases hf
  | succ n ih =>
    intro l2 t_leastX t_leastY t_leastLower x_t_leastX x_t_leastY x_t_leastLower H locs ls hP hD hS hl hf hk
    rw [fX3_offerCorners_p1atfirst_L2] at hf
    refine lv_iload_n hx hb dX3_offerCorners_2 rfl (lv_at hl 2 rfl) ?_
    refine lv_aload_n hx hb dX3_offerCorners_3 rfl (lv_at hl 1 rfl) ?_
    refine va_get (D := (dC, dI)) (ci := 2) (v := .int t_first_size) (C := RX2) (T := TX2) (N := 5) hx hb hts in_X2 hown hK hP 1 rfl rfl 4 (Nat.le_of_ble_eq_true rfl) (hts _ qf_X3_66) (fun _ h9 => h9) rfl dX3_offerCorners_4 ?_
    refine lv_icmp_ge (tgt := 35) hx hb dX3_offerCorners_7 (by decide) (fun hc => ?_) (fun hc => ?_)
    · replace hf := it_t (hc) hf
      obtain ⟨rfl, rfl, rfl⟩ := o3 hf
      exact hk H locs ls hP hD hS (lv_sub hl [] rfl)
    · replace hf := it_f (hc) hf
      refine lv_aload_n hx hb dX3_offerCorners_10 rfl (lv_at hl 0 rfl) ?_
      refine lv_aload_n hx hb dX3_offerCorners_11 rfl (lv_at hl 1 rfl) ?_
      refine va_get (D := (dC, dI)) (ci := 2) (v := .ref h_t_first_x) (C := RX2) (T := TX2) (N := 5) hx hb hts in_X2 hown hK hP 1 rfl rfl 1 (Nat.le_of_ble_eq_true rfl) (hts _ qf_X3_70) (fun _ h9 => h9) rfl dX3_offerCorners_12 ?_
      refine lv_iload_n hx hb dX3_offerCorners_15 rfl (lv_at hl 2 rfl) ?_
      obtain ⟨hg_1, hf⟩ := gd_some hf
      refine va_iald hx hb hK hP 2 0 rfl rfl (inb_in hg_1) dX3_offerCorners_16 ?_
      refine lv_i2l hx hb dX3_offerCorners_17 rfl ?_
      refine lv_aload_n hx hb dX3_offerCorners_18 rfl (lv_at hl 1 rfl) ?_
      refine va_get (D := (dC, dI)) (ci := 2) (v := .ref h_t_first_y) (C := RX2) (T := TX2) (N := 5) hx hb hts in_X2 hown hK hP 1 rfl rfl 2 (Nat.le_of_ble_eq_true rfl) (hts _ qf_X3_74) (fun _ h9 => h9) rfl dX3_offerCorners_19 ?_
      refine lv_iload_n hx hb dX3_offerCorners_22 rfl (lv_at hl 2 rfl) ?_
      obtain ⟨hg_2, hf⟩ := gd_some hf
      refine va_iald hx hb hK hP 3 0 rfl rfl (inb_in hg_2) dX3_offerCorners_23 ?_
      refine lv_i2l hx hb dX3_offerCorners_24 rfl ?_
      refine lv_lconst (v := (1 : Int64)) hx hb dX3_offerCorners_25 (by decide) ?_
      obtain ⟨t_leastX_3, t_leastY_4, t_leastLower_5, hq_6, hf⟩ := b3_some hf
      refine xcv (wr := []) (w2 := [(h_t, .inr (3, [.ref h_t_first, .ref h_t_second, .ref h_t_third, .ref h_t_place, .long t_gapSquare, .long t_gapLower, .long t_gapX, .long t_gapY, .ref h_t_near, .int t_threefold, .long t_leastX_3, .long t_leastY_4, .long t_leastLower_5])), (h_t_first, .inr (2, [.ref h_t_first_chain, .ref h_t_first_x, .ref h_t_first_y, .ref h_t_first_sorted, .int t_first_size])), (h_t_first_x, .inl (cI, 48, .inl t_first_x)), (h_t_first_y, .inl (cI, 48, .inl t_first_y)), (h_t_second, .inr (2, [.ref h_t_second_chain, .ref h_t_second_x, .ref h_t_second_y, .ref h_t_second_sorted, .int t_second_size])), (h_t_second_x, .inl (cI, 48, .inl t_second_x)), (h_t_second_y, .inl (cI, 48, .inl t_second_y)), (h_t_third, .inr (2, [.ref h_t_third_chain, .ref h_t_third_x, .ref h_t_third_y, .ref h_t_third_sorted, .int t_third_size])), (h_t_third_x, .inl (cI, 48, .inl t_third_x)), (h_t_third_y, .inl (cI, 48, .inl t_third_y))]) (va_runV (As := [.long ((t_first_x l2.toNatClampNeg).toInt64), .long ((t_first_y l2.toNatClampNeg).toInt64), .long (1 : Int64)]) (rest := []) ⟨hx, hb, hml, hown, hts⟩ (mtX3_offer l dC dI cI cL cB K h_t h_t_first h_t_second h_t_third h_t_place h_t_near h_t_first_chain h_t_first_x h_t_first_y h_t_first_sorted h_t_second_chain h_t_second_x h_t_second_y h_t_second_sorted h_t_third_chain h_t_third_x h_t_third_y h_t_third_sorted H.size t_gapSquare t_gapLower t_gapX t_gapY t_threefold t_leastX t_leastY t_leastLower t_first_size t_first_x t_first_y t_second_size t_second_x t_second_y t_third_size t_third_x t_third_y ((t_first_x l2.toNatClampNeg).toInt64) ((t_first_y l2.toNatClampNeg).toInt64) (1 : Int64) t_leastX_3 t_leastY_4 t_leastLower_5 hq_6) (cwV 3 hts gv_X3_77 rfl rfl rfl hdV_X3_offer ⟨Nat.le_trans (Nat.le_of_ble_eq_true rfl) hF, Nat.le_trans (Nat.le_of_ble_eq_true rfl) hLo⟩) (cPreV hK hP hD hT [0, 1, 2, 3, 4, 5, 6, 7, 8, 9] rfl rfl (ci := 3) (q0 := 0) rfl rfl) rfl rfl hl.1 rfl (lv_room (Nat.le_of_ble_eq_true rfl)) dX3_offerCorners_26 ⟨Nat.zero_le _, Nat.zero_le _⟩) hP hD hS hA [0, 1, 2, 3, 4, 5, 6, 7, 8, 9] [] [0, 1, 2, 3, 4, 5, 6, 7, 8, 9] rfl rfl rfl rfl rfl rfl (fun H locs hP hD hS => ?_)
      obtain ⟨l2_7, el2_7⟩ : ∃ y : Int32, y = l2 + (1 : Int32) := ⟨_, rfl⟩
      replace hf := xl_at hf el2_7
      refine lv_iinc (v := l2_7) (lv' := [(2, .int l2_7), (0, .ref h_t), (1, .ref h_t_first)]) hx hb dX3_offerCorners_29 hl (k := 2) rfl (by rw [el2_7]; rfl) (Nat.le_of_ble_eq_true rfl) rfl (fun ls hl => ?_)
      refine lv_goto (tgt := 2) hx hb dX3_offerCorners_32 (by decide) ?_
      exact ih l2_7 t_leastX_3 t_leastY_4 t_leastLower_5 _ _ _ H locs ls hP hD hS (lv_sub hl [1, 2, 0] rfl) hf hk
set_option maxRecDepth 100000 in
set_option maxHeartbeats 4000000 in
theorem mtX3_offerCorners_p1atfirst (l : Launch) (dC : Nat → ClassId) (dI : Nat → Nat → Nat) (cI cL cB : ClassId) (K : Nat) (h_t h_t_first h_t_second h_t_third h_t_place h_t_near h_t_first_chain h_t_first_x h_t_first_y h_t_first_sorted h_t_second_chain h_t_second_x h_t_second_y h_t_second_sorted h_t_third_chain h_t_third_x h_t_third_y h_t_third_sorted : Nat) (sz : Nat) (t_gapSquare : Int64) (t_gapLower : Int64) (t_gapX : Int64) (t_gapY : Int64) (t_threefold : Int32) (t_leastX : Int64) (t_leastY : Int64) (t_leastLower : Int64) (t_first_size : Int32) (t_first_x : Nat → Int32) (t_first_y : Nat → Int32) (t_second_size : Int32) (t_second_x : Nat → Int32) (t_second_y : Nat → Int32) (t_third_size : Int32) (t_third_x : Nat → Int32) (t_third_y : Nat → Int32) (o_t_leastX : Int64) (o_t_leastY : Int64) (o_t_leastLower : Int64) (hf : fX3_offerCorners_p1atfirst K t_threefold t_leastX t_leastY t_leastLower t_first_size t_first_x t_first_y t_second_size t_second_x t_second_y t_third_size t_third_x t_third_y = some (o_t_leastX, o_t_leastY, o_t_leastLower)) : Met l yX3_offerCorners [Cond.code yX3_offerCorners cX3_offerCorners 3 none] ({ frames := 2, cells := 0, slots := 0, locals := 63 }) (va_Pc [.ref h_t, .ref h_t_first] (cPre dC dI cI cL cB sz [(h_t, .inr (3, [.ref h_t_first, .ref h_t_second, .ref h_t_third, .ref h_t_place, .long t_gapSquare, .long t_gapLower, .long t_gapX, .long t_gapY, .ref h_t_near, .int t_threefold, .long t_leastX, .long t_leastY, .long t_leastLower])), (h_t_first, .inr (2, [.ref h_t_first_chain, .ref h_t_first_x, .ref h_t_first_y, .ref h_t_first_sorted, .int t_first_size])), (h_t_first_x, .inl (cI, 48, .inl t_first_x)), (h_t_first_y, .inl (cI, 48, .inl t_first_y)), (h_t_second, .inr (2, [.ref h_t_second_chain, .ref h_t_second_x, .ref h_t_second_y, .ref h_t_second_sorted, .int t_second_size])), (h_t_second_x, .inl (cI, 48, .inl t_second_x)), (h_t_second_y, .inl (cI, 48, .inl t_second_y)), (h_t_third, .inr (2, [.ref h_t_third_chain, .ref h_t_third_x, .ref h_t_third_y, .ref h_t_third_sorted, .int t_third_size])), (h_t_third_x, .inl (cI, 48, .inl t_third_x)), (h_t_third_y, .inl (cI, 48, .inl t_third_y))])) (cQv dC dI (va_A [(h_t, .inr (3, [.ref h_t_first, .ref h_t_second, .ref h_t_third, .ref h_t_place, .long t_gapSquare, .long t_gapLower, .long t_gapX, .long t_gapY, .ref h_t_near, .int t_threefold, .long t_leastX, .long t_leastY, .long t_leastLower])), (h_t_first, .inr (2, [.ref h_t_first_chain, .ref h_t_first_x, .ref h_t_first_y, .ref h_t_first_sorted, .int t_first_size])), (h_t_first_x, .inl (cI, 48, .inl t_first_x)), (h_t_first_y, .inl (cI, 48, .inl t_first_y)), (h_t_second, .inr (2, [.ref h_t_second_chain, .ref h_t_second_x, .ref h_t_second_y, .ref h_t_second_sorted, .int t_second_size])), (h_t_second_x, .inl (cI, 48, .inl t_second_x)), (h_t_second_y, .inl (cI, 48, .inl t_second_y)), (h_t_third, .inr (2, [.ref h_t_third_chain, .ref h_t_third_x, .ref h_t_third_y, .ref h_t_third_sorted, .int t_third_size])), (h_t_third_x, .inl (cI, 48, .inl t_third_x)), (h_t_third_y, .inl (cI, 48, .inl t_third_y))] sz) [(h_t, .inr (3, [.ref h_t_first, .ref h_t_second, .ref h_t_third, .ref h_t_place, .long t_gapSquare, .long t_gapLower, .long t_gapX, .long t_gapY, .ref h_t_near, .int t_threefold, .long o_t_leastX, .long o_t_leastY, .long o_t_leastLower])), (h_t_first, .inr (2, [.ref h_t_first_chain, .ref h_t_first_x, .ref h_t_first_y, .ref h_t_first_sorted, .int t_first_size])), (h_t_first_x, .inl (cI, 48, .inl t_first_x)), (h_t_first_y, .inl (cI, 48, .inl t_first_y)), (h_t_second, .inr (2, [.ref h_t_second_chain, .ref h_t_second_x, .ref h_t_second_y, .ref h_t_second_sorted, .int t_second_size])), (h_t_second_x, .inl (cI, 48, .inl t_second_x)), (h_t_second_y, .inl (cI, 48, .inl t_second_y)), (h_t_third, .inr (2, [.ref h_t_third_chain, .ref h_t_third_x, .ref h_t_third_y, .ref h_t_third_sorted, .int t_third_size])), (h_t_third_x, .inl (cI, 48, .inl t_third_x)), (h_t_third_y, .inl (cI, 48, .inl t_third_y))]) 0 0 (va_A [(h_t, .inr (3, [.ref h_t_first, .ref h_t_second, .ref h_t_third, .ref h_t_place, .long t_gapSquare, .long t_gapLower, .long t_gapX, .long t_gapY, .ref h_t_near, .int t_threefold, .long t_leastX, .long t_leastY, .long t_leastLower])), (h_t_first, .inr (2, [.ref h_t_first_chain, .ref h_t_first_x, .ref h_t_first_y, .ref h_t_first_sorted, .int t_first_size])), (h_t_first_x, .inl (cI, 48, .inl t_first_x)), (h_t_first_y, .inl (cI, 48, .inl t_first_y)), (h_t_second, .inr (2, [.ref h_t_second_chain, .ref h_t_second_x, .ref h_t_second_y, .ref h_t_second_sorted, .int t_second_size])), (h_t_second_x, .inl (cI, 48, .inl t_second_x)), (h_t_second_y, .inl (cI, 48, .inl t_second_y)), (h_t_third, .inr (2, [.ref h_t_third_chain, .ref h_t_third_x, .ref h_t_third_y, .ref h_t_third_sorted, .int t_third_size])), (h_t_third_x, .inl (cI, 48, .inl t_third_x)), (h_t_third_y, .inl (cI, 48, .inl t_third_y))] sz) := by
  refine Met.ofW (cc := cX3_offerCorners) (maxL := 3) (ret := none) (by decide) rfl ?_
  intro p e s m args below meth c s₁ B hml hv
  obtain ⟨rfl, hsz, hP, hK, hD0, hT⟩ := hv
  have hx := B.exec
  have hb := B.bytes
  have hr := B.returns
  have hown : s.vm.findClass RX3 = some m.cls := findClass_of_methodNamed B.named
  have hlocks := B.notSynchronized
  have hts := TB.use hT ([.ref h_t, .ref h_t_first] : List Value).toArray
  subst hsz
  have hD := hD0.self (sz := s.heap.size)
  generalize hAe : va_A [(h_t, .inr (3, [.ref h_t_first, .ref h_t_second, .ref h_t_third, .ref h_t_place, .long t_gapSquare, .long t_gapLower, .long t_gapX, .long t_gapY, .ref h_t_near, .int t_threefold, .long t_leastX, .long t_leastY, .long t_leastLower])), (h_t_first, .inr (2, [.ref h_t_first_chain, .ref h_t_first_x, .ref h_t_first_y, .ref h_t_first_sorted, .int t_first_size])), (h_t_first_x, .inl (cI, 48, .inl t_first_x)), (h_t_first_y, .inl (cI, 48, .inl t_first_y)), (h_t_second, .inr (2, [.ref h_t_second_chain, .ref h_t_second_x, .ref h_t_second_y, .ref h_t_second_sorted, .int t_second_size])), (h_t_second_x, .inl (cI, 48, .inl t_second_x)), (h_t_second_y, .inl (cI, 48, .inl t_second_y)), (h_t_third, .inr (2, [.ref h_t_third_chain, .ref h_t_third_x, .ref h_t_third_y, .ref h_t_third_sorted, .int t_third_size])), (h_t_third_x, .inl (cI, 48, .inl t_third_x)), (h_t_third_y, .inl (cI, 48, .inl t_third_y))] s.heap.size = A at hD ⊢
  have hA : ∀ q : Nat, s.heap.size ≤ q → A q := fun q h => by rw [← hAe]; exact Or.inr h
  clear hAe hD0
  have hl := lv_entry ([.ref h_t, .ref h_t_first]) (n := 3) (Nat.le_of_ble_eq_true rfl)
  rw [lg_entry_eq]
  generalize (lg_sl ([.ref h_t, .ref h_t_first]) ++ List.replicate (3 - (lg_sl ([.ref h_t, .ref h_t_first])).length) Slot.unset).toArray = ls at hl ⊢
  have hl : lv_has ls 3 [(0, .ref h_t), (1, .ref h_t_first)] := hl
  have hF : 2 ≤ (headSpec [Cond.code yX3_offerCorners cX3_offerCorners 3 none] ({ frames := 2, cells := 0, slots := 0, locals := 63 })).room.frames := Nat.le_refl _
  have hLo : 63 ≤ (headSpec [Cond.code yX3_offerCorners cX3_offerCorners 3 none] ({ frames := 2, cells := 0, slots := 0, locals := 63 })).room.locals := Nat.le_refl _
  have C0 : Sx p (headSpec [Cond.code yX3_offerCorners cX3_offerCorners 3 none] ({ frames := 2, cells := 0, slots := 0, locals := 63 })).room s m ([.ref h_t, .ref h_t_first] : List Value).toArray c cX3_offerCorners 3 RX3 A dC dI cI cL cB 2 63 := ⟨hx, hb, hml, hown, hts, hK, hT, hA, hF, hLo⟩
  refine startH (A := A) hP (fun H locs hP hS => ?_)
  rw [fX3_offerCorners_p1atfirst] at hf
  refine lv_iconst (v := (0 : Int32)) hx hb dX3_offerCorners_0 (by decide) ?_
  refine lv_istore_n (lv' := [(2, .int (0 : Int32)), (0, .ref h_t), (1, .ref h_t_first)]) hx hb dX3_offerCorners_1 rfl hl (Nat.le_of_ble_eq_true rfl) rfl (fun ls hl => ?_)
  obtain ⟨t_leastX_9, t_leastY_10, t_leastLower_11, hq_8, hf⟩ := b3_some hf
  refine wX3_offerCorners_p1atfirst_L2 C0 h_t h_t_first h_t_second h_t_third h_t_place h_t_near h_t_first_chain h_t_first_x h_t_first_y h_t_first_sorted h_t_second_chain h_t_second_x h_t_second_y h_t_second_sorted h_t_third_chain h_t_third_x h_t_third_y h_t_third_sorted t_gapSquare t_gapLower t_gapX t_gapY t_threefold t_first_size t_first_x t_first_y t_second_size t_second_x t_second_y t_third_size t_third_x t_third_y K (0 : Int32) t_leastX t_leastY t_leastLower t_leastX_9 t_leastY_10 t_leastLower_11 H locs ls hP hD hS (lv_sub hl [1, 2, 0] rfl) hq_8 ?_
  intro H locs ls hP hD hS hl
  obtain ⟨rfl, rfl, rfl⟩ := o3 hf
  exact W.vret hx hb hr (fun t ht hW => ⟨⟨(), rfl, trivial, by rw [ht]; exact hP, hD⟩, hS.F ht⟩) hS.2.2 dX3_offerCorners_35
set_option maxRecDepth 100000 in
set_option maxHeartbeats 4000000 in
theorem wX3_offerCorners_p1atsecond_L2 {p : Program} {l : Launch} {e : Env} {R : Room} {s : State} {m : MethodId} {args : Array Value} {below : List Frame} {meth : Method} {c : Code} {Q : State → Prop} {A : Nat → Prop} {dC : Nat → ClassId} {dI : Nat → Nat → Nat} {cI cL cB : ClassId} {K : Nat} (C0 : Sx p R s m args c cX3_offerCorners 3 RX3 A dC dI cI cL cB 2 63) (h_t h_t_first h_t_second h_t_third h_t_place h_t_near h_t_first_chain h_t_first_x h_t_first_y h_t_first_sorted h_t_second_chain h_t_second_x h_t_second_y h_t_second_sorted h_t_third_chain h_t_third_x h_t_third_y h_t_third_sorted : Nat) (t_gapSquare : Int64) (t_gapLower : Int64) (t_gapX : Int64) (t_gapY : Int64) (t_threefold : Int32) (t_first_size : Int32) (t_first_x : Nat → Int32) (t_first_y : Nat → Int32) (t_second_size : Int32) (t_second_x : Nat → Int32) (t_second_y : Nat → Int32) (t_third_size : Int32) (t_third_x : Nat → Int32) (t_third_y : Nat → Int32) : ∀ (n : Nat) (l2 : Int32) (t_leastX : Int64) (t_leastY : Int64) (t_leastLower : Int64) (x_t_leastX : Int64) (x_t_leastY : Int64) (x_t_leastLower : Int64) (H : Heap) (locs : List Loc) (ls : Array Slot), va_P (dC, dI) vwCl [(h_t, .inr (3, [.ref h_t_first, .ref h_t_second, .ref h_t_third, .ref h_t_place, .long t_gapSquare, .long t_gapLower, .long t_gapX, .long t_gapY, .ref h_t_near, .int t_threefold, .long t_leastX, .long t_leastY, .long t_leastLower])), (h_t_first, .inr (2, [.ref h_t_first_chain, .ref h_t_first_x, .ref h_t_first_y, .ref h_t_first_sorted, .int t_first_size])), (h_t_first_x, .inl (cI, 48, .inl t_first_x)), (h_t_first_y, .inl (cI, 48, .inl t_first_y)), (h_t_second, .inr (2, [.ref h_t_second_chain, .ref h_t_second_x, .ref h_t_second_y, .ref h_t_second_sorted, .int t_second_size])), (h_t_second_x, .inl (cI, 48, .inl t_second_x)), (h_t_second_y, .inl (cI, 48, .inl t_second_y)), (h_t_third, .inr (2, [.ref h_t_third_chain, .ref h_t_third_x, .ref h_t_third_y, .ref h_t_third_sorted, .int t_third_size])), (h_t_third_x, .inl (cI, 48, .inl t_third_x)), (h_t_third_y, .inl (cI, 48, .inl t_third_y))] H → va_D A [(h_t, .inr (3, [.ref h_t_first, .ref h_t_second, .ref h_t_third, .ref h_t_place, .long t_gapSquare, .long t_gapLower, .long t_gapX, .long t_gapY, .ref h_t_near, .int t_threefold, .long t_leastX, .long t_leastY, .long t_leastLower])), (h_t_first, .inr (2, [.ref h_t_first_chain, .ref h_t_first_x, .ref h_t_first_y, .ref h_t_first_sorted, .int t_first_size])), (h_t_first_x, .inl (cI, 48, .inl t_first_x)), (h_t_first_y, .inl (cI, 48, .inl t_first_y)), (h_t_second, .inr (2, [.ref h_t_second_chain, .ref h_t_second_x, .ref h_t_second_y, .ref h_t_second_sorted, .int t_second_size])), (h_t_second_x, .inl (cI, 48, .inl t_second_x)), (h_t_second_y, .inl (cI, 48, .inl t_second_y)), (h_t_third, .inr (2, [.ref h_t_third_chain, .ref h_t_third_x, .ref h_t_third_y, .ref h_t_third_sorted, .int t_third_size])), (h_t_third_x, .inl (cI, 48, .inl t_third_x)), (h_t_third_y, .inl (cI, 48, .inl t_third_y))] → va_S A s.heap H locs → lv_has ls 3 [(0, .ref h_t), (1, .ref h_t_second), (2, .int l2)] → fX3_offerCorners_p1atsecond_L2 K t_threefold t_first_size t_first_x t_first_y t_second_size t_second_x t_second_y t_third_size t_third_x t_third_y n l2 t_leastX t_leastY t_leastLower = some (x_t_leastX, x_t_leastY, x_t_leastLower) → (∀ (H : Heap) (locs : List Loc) (ls : Array Slot), va_P (dC, dI) vwCl [(h_t, .inr (3, [.ref h_t_first, .ref h_t_second, .ref h_t_third, .ref h_t_place, .long t_gapSquare, .long t_gapLower, .long t_gapX, .long t_gapY, .ref h_t_near, .int t_threefold, .long x_t_leastX, .long x_t_leastY, .long x_t_leastLower])), (h_t_first, .inr (2, [.ref h_t_first_chain, .ref h_t_first_x, .ref h_t_first_y, .ref h_t_first_sorted, .int t_first_size])), (h_t_first_x, .inl (cI, 48, .inl t_first_x)), (h_t_first_y, .inl (cI, 48, .inl t_first_y)), (h_t_second, .inr (2, [.ref h_t_second_chain, .ref h_t_second_x, .ref h_t_second_y, .ref h_t_second_sorted, .int t_second_size])), (h_t_second_x, .inl (cI, 48, .inl t_second_x)), (h_t_second_y, .inl (cI, 48, .inl t_second_y)), (h_t_third, .inr (2, [.ref h_t_third_chain, .ref h_t_third_x, .ref h_t_third_y, .ref h_t_third_sorted, .int t_third_size])), (h_t_third_x, .inl (cI, 48, .inl t_third_x)), (h_t_third_y, .inl (cI, 48, .inl t_third_y))] H → va_D A [(h_t, .inr (3, [.ref h_t_first, .ref h_t_second, .ref h_t_third, .ref h_t_place, .long t_gapSquare, .long t_gapLower, .long t_gapX, .long t_gapY, .ref h_t_near, .int t_threefold, .long x_t_leastX, .long x_t_leastY, .long x_t_leastLower])), (h_t_first, .inr (2, [.ref h_t_first_chain, .ref h_t_first_x, .ref h_t_first_y, .ref h_t_first_sorted, .int t_first_size])), (h_t_first_x, .inl (cI, 48, .inl t_first_x)), (h_t_first_y, .inl (cI, 48, .inl t_first_y)), (h_t_second, .inr (2, [.ref h_t_second_chain, .ref h_t_second_x, .ref h_t_second_y, .ref h_t_second_sorted, .int t_second_size])), (h_t_second_x, .inl (cI, 48, .inl t_second_x)), (h_t_second_y, .inl (cI, 48, .inl t_second_y)), (h_t_third, .inr (2, [.ref h_t_third_chain, .ref h_t_third_x, .ref h_t_third_y, .ref h_t_third_sorted, .int t_third_size])), (h_t_third_x, .inl (cI, 48, .inl t_third_x)), (h_t_third_y, .inl (cI, 48, .inl t_third_y))] → va_S A s.heap H locs → lv_has ls 3 [] → W p l e R s m args below meth c H locs 0 0 Q (F0 m 35 ls [])) → W p l e R s m args below meth c H locs 0 0 Q (F0 m 2 ls []) := by
  obtain ⟨hx, hb, hml, hown, hts, hK, hT, hA, hF, hLo⟩ := id C0
  intro n
  induction n with
  | zero =>
    intro l2 t_leastX t_leastY t_leastLower x_t_leastX x_t_leastY x_t_leastLower H locs ls hP hD hS hl hf
    rw [fX3_offerCorners_p1atsecond_L2] at hf
    cases hf
  | succ n ih =>
    intro l2 t_leastX t_leastY t_leastLower x_t_leastX x_t_leastY x_t_leastLower H locs ls hP hD hS hl hf hk
    rw [fX3_offerCorners_p1atsecond_L2] at hf
    refine lv_iload_n hx hb dX3_offerCorners_2 rfl (lv_at hl 2 rfl) ?_
    refine lv_aload_n hx hb dX3_offerCorners_3 rfl (lv_at hl 1 rfl) ?_
    refine va_get (D := (dC, dI)) (ci := 2) (v := .int t_second_size) (C := RX2) (T := TX2) (N := 5) hx hb hts in_X2 hown hK hP 4 rfl rfl 4 (Nat.le_of_ble_eq_true rfl) (hts _ qf_X3_66) (fun _ h9 => h9) rfl dX3_offerCorners_4 ?_
    refine lv_icmp_ge (tgt := 35) hx hb dX3_offerCorners_7 (by decide) (fun hc => ?_) (fun hc => ?_)
    · replace hf := it_t (hc) hf
      obtain ⟨rfl, rfl, rfl⟩ := o3 hf
      exact hk H locs ls hP hD hS (lv_sub hl [] rfl)
    · replace hf := it_f (hc) hf
      refine lv_aload_n hx hb dX3_offerCorners_10 rfl (lv_at hl 0 rfl) ?_
      refine lv_aload_n hx hb dX3_offerCorners_11 rfl (lv_at hl 1 rfl) ?_
      refine va_get (D := (dC, dI)) (ci := 2) (v := .ref h_t_second_x) (C := RX2) (T := TX2) (N := 5) hx hb hts in_X2 hown hK hP 4 rfl rfl 1 (Nat.le_of_ble_eq_true rfl) (hts _ qf_X3_70) (fun _ h9 => h9) rfl dX3_offerCorners_12 ?_
      refine lv_iload_n hx hb dX3_offerCorners_15 rfl (lv_at hl 2 rfl) ?_
      obtain ⟨hg_1, hf⟩ := gd_some hf
      refine va_iald hx hb hK hP 5 0 rfl rfl (inb_in hg_1) dX3_offerCorners_16 ?_
      refine lv_i2l hx hb dX3_offerCorners_17 rfl ?_
      refine lv_aload_n hx hb dX3_offerCorners_18 rfl (lv_at hl 1 rfl) ?_
      refine va_get (D := (dC, dI)) (ci := 2) (v := .ref h_t_second_y) (C := RX2) (T := TX2) (N := 5) hx hb hts in_X2 hown hK hP 4 rfl rfl 2 (Nat.le_of_ble_eq_true rfl) (hts _ qf_X3_74) (fun _ h9 => h9) rfl dX3_offerCorners_19 ?_
      refine lv_iload_n hx hb dX3_offerCorners_22 rfl (lv_at hl 2 rfl) ?_
      obtain ⟨hg_2, hf⟩ := gd_some hf
      refine va_iald hx hb hK hP 6 0 rfl rfl (inb_in hg_2) dX3_offerCorners_23 ?_
      refine lv_i2l hx hb dX3_offerCorners_24 rfl ?_
      refine lv_lconst (v := (1 : Int64)) hx hb dX3_offerCorners_25 (by decide) ?_
      obtain ⟨t_leastX_3, t_leastY_4, t_leastLower_5, hq_6, hf⟩ := b3_some hf
      refine xcv (wr := []) (w2 := [(h_t, .inr (3, [.ref h_t_first, .ref h_t_second, .ref h_t_third, .ref h_t_place, .long t_gapSquare, .long t_gapLower, .long t_gapX, .long t_gapY, .ref h_t_near, .int t_threefold, .long t_leastX_3, .long t_leastY_4, .long t_leastLower_5])), (h_t_first, .inr (2, [.ref h_t_first_chain, .ref h_t_first_x, .ref h_t_first_y, .ref h_t_first_sorted, .int t_first_size])), (h_t_first_x, .inl (cI, 48, .inl t_first_x)), (h_t_first_y, .inl (cI, 48, .inl t_first_y)), (h_t_second, .inr (2, [.ref h_t_second_chain, .ref h_t_second_x, .ref h_t_second_y, .ref h_t_second_sorted, .int t_second_size])), (h_t_second_x, .inl (cI, 48, .inl t_second_x)), (h_t_second_y, .inl (cI, 48, .inl t_second_y)), (h_t_third, .inr (2, [.ref h_t_third_chain, .ref h_t_third_x, .ref h_t_third_y, .ref h_t_third_sorted, .int t_third_size])), (h_t_third_x, .inl (cI, 48, .inl t_third_x)), (h_t_third_y, .inl (cI, 48, .inl t_third_y))]) (va_runV (As := [.long ((t_second_x l2.toNatClampNeg).toInt64), .long ((t_second_y l2.toNatClampNeg).toInt64), .long (1 : Int64)]) (rest := []) ⟨hx, hb, hml, hown, hts⟩ (mtX3_offer l dC dI cI cL cB K h_t h_t_first h_t_second h_t_third h_t_place h_t_near h_t_first_chain h_t_first_x h_t_first_y h_t_first_sorted h_t_second_chain h_t_second_x h_t_second_y h_t_second_sorted h_t_third_chain h_t_third_x h_t_third_y h_t_third_sorted H.size t_gapSquare t_gapLower t_gapX t_gapY t_threefold t_leastX t_leastY t_leastLower t_first_size t_first_x t_first_y t_second_size t_second_x t_second_y t_third_size t_third_x t_third_y ((t_second_x l2.toNatClampNeg).toInt64) ((t_second_y l2.toNatClampNeg).toInt64) (1 : Int64) t_leastX_3 t_leastY_4 t_leastLower_5 hq_6) (cwV 3 hts gv_X3_77 rfl rfl rfl hdV_X3_offer ⟨Nat.le_trans (Nat.le_of_ble_eq_true rfl) hF, Nat.le_trans (Nat.le_of_ble_eq_true rfl) hLo⟩) (cPreV hK hP hD hT [0, 1, 2, 3, 4, 5, 6, 7, 8, 9] rfl rfl (ci := 3) (q0 := 0) rfl rfl) rfl rfl hl.1 rfl (lv_room (Nat.le_of_ble_eq_true rfl)) dX3_offerCorners_26 ⟨Nat.zero_le _, Nat.zero_le _⟩) hP hD hS hA [0, 1, 2, 3, 4, 5, 6, 7, 8, 9] [] [0, 1, 2, 3, 4, 5, 6, 7, 8, 9] rfl rfl rfl rfl rfl rfl (fun H locs hP hD hS => ?_)
      obtain ⟨l2_7, el2_7⟩ : ∃ y : Int32, y = l2 + (1 : Int32) := ⟨_, rfl⟩
      replace hf := xl_at hf el2_7
      refine lv_iinc (v := l2_7) (lv' := [(2, .int l2_7), (0, .ref h_t), (1, .ref h_t_second)]) hx hb dX3_offerCorners_29 hl (k := 2) rfl (by rw [el2_7]; rfl) (Nat.le_of_ble_eq_true rfl) rfl (fun ls hl => ?_)
      refine lv_goto (tgt := 2) hx hb dX3_offerCorners_32 (by decide) ?_
      exact ih l2_7 t_leastX_3 t_leastY_4 t_leastLower_5 _ _ _ H locs ls hP hD hS (lv_sub hl [1, 2, 0] rfl) hf hk
set_option maxRecDepth 100000 in
set_option maxHeartbeats 4000000 in
theorem mtX3_offerCorners_p1atsecond (l : Launch) (dC : Nat → ClassId) (dI : Nat → Nat → Nat) (cI cL cB : ClassId) (K : Nat) (h_t h_t_first h_t_second h_t_third h_t_place h_t_near h_t_first_chain h_t_first_x h_t_first_y h_t_first_sorted h_t_second_chain h_t_second_x h_t_second_y h_t_second_sorted h_t_third_chain h_t_third_x h_t_third_y h_t_third_sorted : Nat) (sz : Nat) (t_gapSquare : Int64) (t_gapLower : Int64) (t_gapX : Int64) (t_gapY : Int64) (t_threefold : Int32) (t_leastX : Int64) (t_leastY : Int64) (t_leastLower : Int64) (t_first_size : Int32) (t_first_x : Nat → Int32) (t_first_y : Nat → Int32) (t_second_size : Int32) (t_second_x : Nat → Int32) (t_second_y : Nat → Int32) (t_third_size : Int32) (t_third_x : Nat → Int32) (t_third_y : Nat → Int32) (o_t_leastX : Int64) (o_t_leastY : Int64) (o_t_leastLower : Int64) (hf : fX3_offerCorners_p1atsecond K t_threefold t_leastX t_leastY t_leastLower t_first_size t_first_x t_first_y t_second_size t_second_x t_second_y t_third_size t_third_x t_third_y = some (o_t_leastX, o_t_leastY, o_t_leastLower)) : Met l yX3_offerCorners [Cond.code yX3_offerCorners cX3_offerCorners 3 none] ({ frames := 2, cells := 0, slots := 0, locals := 63 }) (va_Pc [.ref h_t, .ref h_t_second] (cPre dC dI cI cL cB sz [(h_t, .inr (3, [.ref h_t_first, .ref h_t_second, .ref h_t_third, .ref h_t_place, .long t_gapSquare, .long t_gapLower, .long t_gapX, .long t_gapY, .ref h_t_near, .int t_threefold, .long t_leastX, .long t_leastY, .long t_leastLower])), (h_t_first, .inr (2, [.ref h_t_first_chain, .ref h_t_first_x, .ref h_t_first_y, .ref h_t_first_sorted, .int t_first_size])), (h_t_first_x, .inl (cI, 48, .inl t_first_x)), (h_t_first_y, .inl (cI, 48, .inl t_first_y)), (h_t_second, .inr (2, [.ref h_t_second_chain, .ref h_t_second_x, .ref h_t_second_y, .ref h_t_second_sorted, .int t_second_size])), (h_t_second_x, .inl (cI, 48, .inl t_second_x)), (h_t_second_y, .inl (cI, 48, .inl t_second_y)), (h_t_third, .inr (2, [.ref h_t_third_chain, .ref h_t_third_x, .ref h_t_third_y, .ref h_t_third_sorted, .int t_third_size])), (h_t_third_x, .inl (cI, 48, .inl t_third_x)), (h_t_third_y, .inl (cI, 48, .inl t_third_y))])) (cQv dC dI (va_A [(h_t, .inr (3, [.ref h_t_first, .ref h_t_second, .ref h_t_third, .ref h_t_place, .long t_gapSquare, .long t_gapLower, .long t_gapX, .long t_gapY, .ref h_t_near, .int t_threefold, .long t_leastX, .long t_leastY, .long t_leastLower])), (h_t_first, .inr (2, [.ref h_t_first_chain, .ref h_t_first_x, .ref h_t_first_y, .ref h_t_first_sorted, .int t_first_size])), (h_t_first_x, .inl (cI, 48, .inl t_first_x)), (h_t_first_y, .inl (cI, 48, .inl t_first_y)), (h_t_second, .inr (2, [.ref h_t_second_chain, .ref h_t_second_x, .ref h_t_second_y, .ref h_t_second_sorted, .int t_second_size])), (h_t_second_x, .inl (cI, 48, .inl t_second_x)), (h_t_second_y, .inl (cI, 48, .inl t_second_y)), (h_t_third, .inr (2, [.ref h_t_third_chain, .ref h_t_third_x, .ref h_t_third_y, .ref h_t_third_sorted, .int t_third_size])), (h_t_third_x, .inl (cI, 48, .inl t_third_x)), (h_t_third_y, .inl (cI, 48, .inl t_third_y))] sz) [(h_t, .inr (3, [.ref h_t_first, .ref h_t_second, .ref h_t_third, .ref h_t_place, .long t_gapSquare, .long t_gapLower, .long t_gapX, .long t_gapY, .ref h_t_near, .int t_threefold, .long o_t_leastX, .long o_t_leastY, .long o_t_leastLower])), (h_t_first, .inr (2, [.ref h_t_first_chain, .ref h_t_first_x, .ref h_t_first_y, .ref h_t_first_sorted, .int t_first_size])), (h_t_first_x, .inl (cI, 48, .inl t_first_x)), (h_t_first_y, .inl (cI, 48, .inl t_first_y)), (h_t_second, .inr (2, [.ref h_t_second_chain, .ref h_t_second_x, .ref h_t_second_y, .ref h_t_second_sorted, .int t_second_size])), (h_t_second_x, .inl (cI, 48, .inl t_second_x)), (h_t_second_y, .inl (cI, 48, .inl t_second_y)), (h_t_third, .inr (2, [.ref h_t_third_chain, .ref h_t_third_x, .ref h_t_third_y, .ref h_t_third_sorted, .int t_third_size])), (h_t_third_x, .inl (cI, 48, .inl t_third_x)), (h_t_third_y, .inl (cI, 48, .inl t_third_y))]) 0 0 (va_A [(h_t, .inr (3, [.ref h_t_first, .ref h_t_second, .ref h_t_third, .ref h_t_place, .long t_gapSquare, .long t_gapLower, .long t_gapX, .long t_gapY, .ref h_t_near, .int t_threefold, .long t_leastX, .long t_leastY, .long t_leastLower])), (h_t_first, .inr (2, [.ref h_t_first_chain, .ref h_t_first_x, .ref h_t_first_y, .ref h_t_first_sorted, .int t_first_size])), (h_t_first_x, .inl (cI, 48, .inl t_first_x)), (h_t_first_y, .inl (cI, 48, .inl t_first_y)), (h_t_second, .inr (2, [.ref h_t_second_chain, .ref h_t_second_x, .ref h_t_second_y, .ref h_t_second_sorted, .int t_second_size])), (h_t_second_x, .inl (cI, 48, .inl t_second_x)), (h_t_second_y, .inl (cI, 48, .inl t_second_y)), (h_t_third, .inr (2, [.ref h_t_third_chain, .ref h_t_third_x, .ref h_t_third_y, .ref h_t_third_sorted, .int t_third_size])), (h_t_third_x, .inl (cI, 48, .inl t_third_x)), (h_t_third_y, .inl (cI, 48, .inl t_third_y))] sz) := by
  refine Met.ofW (cc := cX3_offerCorners) (maxL := 3) (ret := none) (by decide) rfl ?_
  intro p e s m args below meth c s₁ B hml hv
  obtain ⟨rfl, hsz, hP, hK, hD0, hT⟩ := hv
  have hx := B.exec
  have hb := B.bytes
  have hr := B.returns
  have hown : s.vm.findClass RX3 = some m.cls := findClass_of_methodNamed B.named
  have hlocks := B.notSynchronized
  have hts := TB.use hT ([.ref h_t, .ref h_t_second] : List Value).toArray
  subst hsz
  have hD := hD0.self (sz := s.heap.size)
  generalize hAe : va_A [(h_t, .inr (3, [.ref h_t_first, .ref h_t_second, .ref h_t_third, .ref h_t_place, .long t_gapSquare, .long t_gapLower, .long t_gapX, .long t_gapY, .ref h_t_near, .int t_threefold, .long t_leastX, .long t_leastY, .long t_leastLower])), (h_t_first, .inr (2, [.ref h_t_first_chain, .ref h_t_first_x, .ref h_t_first_y, .ref h_t_first_sorted, .int t_first_size])), (h_t_first_x, .inl (cI, 48, .inl t_first_x)), (h_t_first_y, .inl (cI, 48, .inl t_first_y)), (h_t_second, .inr (2, [.ref h_t_second_chain, .ref h_t_second_x, .ref h_t_second_y, .ref h_t_second_sorted, .int t_second_size])), (h_t_second_x, .inl (cI, 48, .inl t_second_x)), (h_t_second_y, .inl (cI, 48, .inl t_second_y)), (h_t_third, .inr (2, [.ref h_t_third_chain, .ref h_t_third_x, .ref h_t_third_y, .ref h_t_third_sorted, .int t_third_size])), (h_t_third_x, .inl (cI, 48, .inl t_third_x)), (h_t_third_y, .inl (cI, 48, .inl t_third_y))] s.heap.size = A at hD ⊢
  have hA : ∀ q : Nat, s.heap.size ≤ q → A q := fun q h => by rw [← hAe]; exact Or.inr h
  clear hAe hD0
  have hl := lv_entry ([.ref h_t, .ref h_t_second]) (n := 3) (Nat.le_of_ble_eq_true rfl)
  rw [lg_entry_eq]
  generalize (lg_sl ([.ref h_t, .ref h_t_second]) ++ List.replicate (3 - (lg_sl ([.ref h_t, .ref h_t_second])).length) Slot.unset).toArray = ls at hl ⊢
  have hl : lv_has ls 3 [(0, .ref h_t), (1, .ref h_t_second)] := hl
  have hF : 2 ≤ (headSpec [Cond.code yX3_offerCorners cX3_offerCorners 3 none] ({ frames := 2, cells := 0, slots := 0, locals := 63 })).room.frames := Nat.le_refl _
  have hLo : 63 ≤ (headSpec [Cond.code yX3_offerCorners cX3_offerCorners 3 none] ({ frames := 2, cells := 0, slots := 0, locals := 63 })).room.locals := Nat.le_refl _
  have C0 : Sx p (headSpec [Cond.code yX3_offerCorners cX3_offerCorners 3 none] ({ frames := 2, cells := 0, slots := 0, locals := 63 })).room s m ([.ref h_t, .ref h_t_second] : List Value).toArray c cX3_offerCorners 3 RX3 A dC dI cI cL cB 2 63 := ⟨hx, hb, hml, hown, hts, hK, hT, hA, hF, hLo⟩
  refine startH (A := A) hP (fun H locs hP hS => ?_)
  rw [fX3_offerCorners_p1atsecond] at hf
  refine lv_iconst (v := (0 : Int32)) hx hb dX3_offerCorners_0 (by decide) ?_
  refine lv_istore_n (lv' := [(2, .int (0 : Int32)), (0, .ref h_t), (1, .ref h_t_second)]) hx hb dX3_offerCorners_1 rfl hl (Nat.le_of_ble_eq_true rfl) rfl (fun ls hl => ?_)
  obtain ⟨t_leastX_9, t_leastY_10, t_leastLower_11, hq_8, hf⟩ := b3_some hf
  refine wX3_offerCorners_p1atsecond_L2 C0 h_t h_t_first h_t_second h_t_third h_t_place h_t_near h_t_first_chain h_t_first_x h_t_first_y h_t_first_sorted h_t_second_chain h_t_second_x h_t_second_y h_t_second_sorted h_t_third_chain h_t_third_x h_t_third_y h_t_third_sorted t_gapSquare t_gapLower t_gapX t_gapY t_threefold t_first_size t_first_x t_first_y t_second_size t_second_x t_second_y t_third_size t_third_x t_third_y K (0 : Int32) t_leastX t_leastY t_leastLower t_leastX_9 t_leastY_10 t_leastLower_11 H locs ls hP hD hS (lv_sub hl [1, 2, 0] rfl) hq_8 ?_
  intro H locs ls hP hD hS hl
  obtain ⟨rfl, rfl, rfl⟩ := o3 hf
  exact W.vret hx hb hr (fun t ht hW => ⟨⟨(), rfl, trivial, by rw [ht]; exact hP, hD⟩, hS.F ht⟩) hS.2.2 dX3_offerCorners_35
theorem dX3_offerCrossings_0 : decode cX3_offerCrossings 0 = .ok (.iconst 0, 1) := by decide +kernel
theorem dX3_offerCrossings_1 : decode cX3_offerCrossings 1 = .ok (.istore_n 3, 1) := by decide +kernel
theorem dX3_offerCrossings_2 : decode cX3_offerCrossings 2 = .ok (.iload_n 3, 1) := by decide +kernel
theorem dX3_offerCrossings_3 : decode cX3_offerCrossings 3 = .ok (.aload_n 1, 1) := by decide +kernel
theorem dX3_offerCrossings_4 : decode cX3_offerCrossings 4 = .ok (.getfield 66, 3) := by decide +kernel
theorem dX3_offerCrossings_7 : decode cX3_offerCrossings 7 = .ok (.if_icmp .ge 232, 3) := by decide +kernel
theorem dX3_offerCrossings_10 : decode cX3_offerCrossings 10 = .ok (.iconst 0, 1) := by decide +kernel
theorem dX3_offerCrossings_11 : decode cX3_offerCrossings 11 = .ok (.istore 4, 2) := by decide +kernel
theorem dX3_offerCrossings_13 : decode cX3_offerCrossings 13 = .ok (.iload 4, 2) := by decide +kernel
theorem dX3_offerCrossings_15 : decode cX3_offerCrossings 15 = .ok (.aload_n 2, 1) := by decide +kernel
theorem dX3_offerCrossings_16 : decode cX3_offerCrossings 16 = .ok (.getfield 66, 3) := by decide +kernel
theorem dX3_offerCrossings_19 : decode cX3_offerCrossings 19 = .ok (.if_icmp .ge 214, 3) := by decide +kernel
theorem dX3_offerCrossings_22 : decode cX3_offerCrossings 22 = .ok (.aload_n 1, 1) := by decide +kernel
theorem dX3_offerCrossings_23 : decode cX3_offerCrossings 23 = .ok (.getfield 70, 3) := by decide +kernel
theorem dX3_offerCrossings_26 : decode cX3_offerCrossings 26 = .ok (.iload_n 3, 1) := by decide +kernel
theorem dX3_offerCrossings_27 : decode cX3_offerCrossings 27 = .ok (.iconst 1, 1) := by decide +kernel
theorem dX3_offerCrossings_28 : decode cX3_offerCrossings 28 = .ok (.iadd, 1) := by decide +kernel
theorem dX3_offerCrossings_29 : decode cX3_offerCrossings 29 = .ok (.iaload, 1) := by decide +kernel
theorem dX3_offerCrossings_30 : decode cX3_offerCrossings 30 = .ok (.aload_n 1, 1) := by decide +kernel
theorem dX3_offerCrossings_31 : decode cX3_offerCrossings 31 = .ok (.getfield 70, 3) := by decide +kernel
theorem dX3_offerCrossings_34 : decode cX3_offerCrossings 34 = .ok (.iload_n 3, 1) := by decide +kernel
theorem dX3_offerCrossings_35 : decode cX3_offerCrossings 35 = .ok (.iaload, 1) := by decide +kernel
theorem dX3_offerCrossings_36 : decode cX3_offerCrossings 36 = .ok (.isub, 1) := by decide +kernel
theorem dX3_offerCrossings_37 : decode cX3_offerCrossings 37 = .ok (.i2l, 1) := by decide +kernel
theorem dX3_offerCrossings_38 : decode cX3_offerCrossings 38 = .ok (.lstore 5, 2) := by decide +kernel
theorem dX3_offerCrossings_40 : decode cX3_offerCrossings 40 = .ok (.aload_n 1, 1) := by decide +kernel
theorem dX3_offerCrossings_41 : decode cX3_offerCrossings 41 = .ok (.getfield 74, 3) := by decide +kernel
theorem dX3_offerCrossings_44 : decode cX3_offerCrossings 44 = .ok (.iload_n 3, 1) := by decide +kernel
theorem dX3_offerCrossings_45 : decode cX3_offerCrossings 45 = .ok (.iconst 1, 1) := by decide +kernel
theorem dX3_offerCrossings_46 : decode cX3_offerCrossings 46 = .ok (.iadd, 1) := by decide +kernel
theorem dX3_offerCrossings_47 : decode cX3_offerCrossings 47 = .ok (.iaload, 1) := by decide +kernel
theorem dX3_offerCrossings_48 : decode cX3_offerCrossings 48 = .ok (.aload_n 1, 1) := by decide +kernel
theorem dX3_offerCrossings_49 : decode cX3_offerCrossings 49 = .ok (.getfield 74, 3) := by decide +kernel
theorem dX3_offerCrossings_52 : decode cX3_offerCrossings 52 = .ok (.iload_n 3, 1) := by decide +kernel
theorem dX3_offerCrossings_53 : decode cX3_offerCrossings 53 = .ok (.iaload, 1) := by decide +kernel
theorem dX3_offerCrossings_54 : decode cX3_offerCrossings 54 = .ok (.isub, 1) := by decide +kernel
theorem dX3_offerCrossings_55 : decode cX3_offerCrossings 55 = .ok (.i2l, 1) := by decide +kernel
theorem dX3_offerCrossings_56 : decode cX3_offerCrossings 56 = .ok (.lstore 7, 2) := by decide +kernel
theorem dX3_offerCrossings_58 : decode cX3_offerCrossings 58 = .ok (.aload_n 2, 1) := by decide +kernel
theorem dX3_offerCrossings_59 : decode cX3_offerCrossings 59 = .ok (.getfield 70, 3) := by decide +kernel
theorem dX3_offerCrossings_62 : decode cX3_offerCrossings 62 = .ok (.iload 4, 2) := by decide +kernel
theorem dX3_offerCrossings_64 : decode cX3_offerCrossings 64 = .ok (.iconst 1, 1) := by decide +kernel
theorem dX3_offerCrossings_65 : decode cX3_offerCrossings 65 = .ok (.iadd, 1) := by decide +kernel
theorem dX3_offerCrossings_66 : decode cX3_offerCrossings 66 = .ok (.iaload, 1) := by decide +kernel
theorem dX3_offerCrossings_67 : decode cX3_offerCrossings 67 = .ok (.aload_n 2, 1) := by decide +kernel
theorem dX3_offerCrossings_68 : decode cX3_offerCrossings 68 = .ok (.getfield 70, 3) := by decide +kernel
theorem dX3_offerCrossings_71 : decode cX3_offerCrossings 71 = .ok (.iload 4, 2) := by decide +kernel
theorem dX3_offerCrossings_73 : decode cX3_offerCrossings 73 = .ok (.iaload, 1) := by decide +kernel
theorem dX3_offerCrossings_74 : decode cX3_offerCrossings 74 = .ok (.isub, 1) := by decide +kernel
theorem dX3_offerCrossings_75 : decode cX3_offerCrossings 75 = .ok (.i2l, 1) := by decide +kernel
theorem dX3_offerCrossings_76 : decode cX3_offerCrossings 76 = .ok (.lstore 9, 2) := by decide +kernel
theorem dX3_offerCrossings_78 : decode cX3_offerCrossings 78 = .ok (.aload_n 2, 1) := by decide +kernel
theorem dX3_offerCrossings_79 : decode cX3_offerCrossings 79 = .ok (.getfield 74, 3) := by decide +kernel
theorem dX3_offerCrossings_82 : decode cX3_offerCrossings 82 = .ok (.iload 4, 2) := by decide +kernel
theorem dX3_offerCrossings_84 : decode cX3_offerCrossings 84 = .ok (.iconst 1, 1) := by decide +kernel
theorem dX3_offerCrossings_85 : decode cX3_offerCrossings 85 = .ok (.iadd, 1) := by decide +kernel
theorem dX3_offerCrossings_86 : decode cX3_offerCrossings 86 = .ok (.iaload, 1) := by decide +kernel
theorem dX3_offerCrossings_87 : decode cX3_offerCrossings 87 = .ok (.aload_n 2, 1) := by decide +kernel
theorem dX3_offerCrossings_88 : decode cX3_offerCrossings 88 = .ok (.getfield 74, 3) := by decide +kernel
theorem dX3_offerCrossings_91 : decode cX3_offerCrossings 91 = .ok (.iload 4, 2) := by decide +kernel
theorem dX3_offerCrossings_93 : decode cX3_offerCrossings 93 = .ok (.iaload, 1) := by decide +kernel
theorem dX3_offerCrossings_94 : decode cX3_offerCrossings 94 = .ok (.isub, 1) := by decide +kernel
theorem dX3_offerCrossings_95 : decode cX3_offerCrossings 95 = .ok (.i2l, 1) := by decide +kernel
theorem dX3_offerCrossings_96 : decode cX3_offerCrossings 96 = .ok (.lstore 11, 2) := by decide +kernel
theorem dX3_offerCrossings_98 : decode cX3_offerCrossings 98 = .ok (.lload 5, 2) := by decide +kernel
theorem dX3_offerCrossings_100 : decode cX3_offerCrossings 100 = .ok (.lload 11, 2) := by decide +kernel
theorem dX3_offerCrossings_102 : decode cX3_offerCrossings 102 = .ok (.lmul, 1) := by decide +kernel
theorem dX3_offerCrossings_103 : decode cX3_offerCrossings 103 = .ok (.lload 7, 2) := by decide +kernel
theorem dX3_offerCrossings_105 : decode cX3_offerCrossings 105 = .ok (.lload 9, 2) := by decide +kernel
theorem dX3_offerCrossings_107 : decode cX3_offerCrossings 107 = .ok (.lmul, 1) := by decide +kernel
theorem dX3_offerCrossings_108 : decode cX3_offerCrossings 108 = .ok (.lsub, 1) := by decide +kernel
theorem dX3_offerCrossings_109 : decode cX3_offerCrossings 109 = .ok (.lstore 13, 2) := by decide +kernel
theorem dX3_offerCrossings_111 : decode cX3_offerCrossings 111 = .ok (.aload_n 2, 1) := by decide +kernel
theorem dX3_offerCrossings_112 : decode cX3_offerCrossings 112 = .ok (.getfield 70, 3) := by decide +kernel
theorem dX3_offerCrossings_115 : decode cX3_offerCrossings 115 = .ok (.iload 4, 2) := by decide +kernel
theorem dX3_offerCrossings_117 : decode cX3_offerCrossings 117 = .ok (.iaload, 1) := by decide +kernel
theorem dX3_offerCrossings_118 : decode cX3_offerCrossings 118 = .ok (.aload_n 1, 1) := by decide +kernel
theorem dX3_offerCrossings_119 : decode cX3_offerCrossings 119 = .ok (.getfield 70, 3) := by decide +kernel
theorem dX3_offerCrossings_122 : decode cX3_offerCrossings 122 = .ok (.iload_n 3, 1) := by decide +kernel
theorem dX3_offerCrossings_123 : decode cX3_offerCrossings 123 = .ok (.iaload, 1) := by decide +kernel
theorem dX3_offerCrossings_124 : decode cX3_offerCrossings 124 = .ok (.isub, 1) := by decide +kernel
theorem dX3_offerCrossings_125 : decode cX3_offerCrossings 125 = .ok (.i2l, 1) := by decide +kernel
theorem dX3_offerCrossings_126 : decode cX3_offerCrossings 126 = .ok (.lload 11, 2) := by decide +kernel
theorem dX3_offerCrossings_128 : decode cX3_offerCrossings 128 = .ok (.lmul, 1) := by decide +kernel
theorem dX3_offerCrossings_129 : decode cX3_offerCrossings 129 = .ok (.aload_n 2, 1) := by decide +kernel
theorem dX3_offerCrossings_130 : decode cX3_offerCrossings 130 = .ok (.getfield 74, 3) := by decide +kernel
theorem dX3_offerCrossings_133 : decode cX3_offerCrossings 133 = .ok (.iload 4, 2) := by decide +kernel
theorem dX3_offerCrossings_135 : decode cX3_offerCrossings 135 = .ok (.iaload, 1) := by decide +kernel
theorem dX3_offerCrossings_136 : decode cX3_offerCrossings 136 = .ok (.aload_n 1, 1) := by decide +kernel
theorem dX3_offerCrossings_137 : decode cX3_offerCrossings 137 = .ok (.getfield 74, 3) := by decide +kernel
theorem dX3_offerCrossings_140 : decode cX3_offerCrossings 140 = .ok (.iload_n 3, 1) := by decide +kernel
theorem dX3_offerCrossings_141 : decode cX3_offerCrossings 141 = .ok (.iaload, 1) := by decide +kernel
theorem dX3_offerCrossings_142 : decode cX3_offerCrossings 142 = .ok (.isub, 1) := by decide +kernel
theorem dX3_offerCrossings_143 : decode cX3_offerCrossings 143 = .ok (.i2l, 1) := by decide +kernel
theorem dX3_offerCrossings_144 : decode cX3_offerCrossings 144 = .ok (.lload 9, 2) := by decide +kernel
theorem dX3_offerCrossings_146 : decode cX3_offerCrossings 146 = .ok (.lmul, 1) := by decide +kernel
theorem dX3_offerCrossings_147 : decode cX3_offerCrossings 147 = .ok (.lsub, 1) := by decide +kernel
theorem dX3_offerCrossings_148 : decode cX3_offerCrossings 148 = .ok (.lstore 15, 2) := by decide +kernel
theorem dX3_offerCrossings_150 : decode cX3_offerCrossings 150 = .ok (.lload 13, 2) := by decide +kernel
theorem dX3_offerCrossings_152 : decode cX3_offerCrossings 152 = .ok (.lconst 0, 1) := by decide +kernel
theorem dX3_offerCrossings_153 : decode cX3_offerCrossings 153 = .ok (.lcmp, 1) := by decide +kernel
theorem dX3_offerCrossings_154 : decode cX3_offerCrossings 154 = .ok (.ifCond .ge 13, 3) := by decide +kernel
theorem dX3_offerCrossings_157 : decode cX3_offerCrossings 157 = .ok (.lload 13, 2) := by decide +kernel
theorem dX3_offerCrossings_159 : decode cX3_offerCrossings 159 = .ok (.lneg, 1) := by decide +kernel
theorem dX3_offerCrossings_160 : decode cX3_offerCrossings 160 = .ok (.lstore 13, 2) := by decide +kernel
theorem dX3_offerCrossings_162 : decode cX3_offerCrossings 162 = .ok (.lload 15, 2) := by decide +kernel
theorem dX3_offerCrossings_164 : decode cX3_offerCrossings 164 = .ok (.lneg, 1) := by decide +kernel
theorem dX3_offerCrossings_165 : decode cX3_offerCrossings 165 = .ok (.lstore 15, 2) := by decide +kernel
theorem dX3_offerCrossings_167 : decode cX3_offerCrossings 167 = .ok (.lload 13, 2) := by decide +kernel
theorem dX3_offerCrossings_169 : decode cX3_offerCrossings 169 = .ok (.lconst 0, 1) := by decide +kernel
theorem dX3_offerCrossings_170 : decode cX3_offerCrossings 170 = .ok (.lcmp, 1) := by decide +kernel
theorem dX3_offerCrossings_171 : decode cX3_offerCrossings 171 = .ok (.ifCond .le 56, 3) := by decide +kernel
theorem dX3_offerCrossings_174 : decode cX3_offerCrossings 174 = .ok (.lload 15, 2) := by decide +kernel
theorem dX3_offerCrossings_176 : decode cX3_offerCrossings 176 = .ok (.lconst 0, 1) := by decide +kernel
theorem dX3_offerCrossings_177 : decode cX3_offerCrossings 177 = .ok (.lcmp, 1) := by decide +kernel
theorem dX3_offerCrossings_178 : decode cX3_offerCrossings 178 = .ok (.ifCond .lt 49, 3) := by decide +kernel
theorem dX3_offerCrossings_181 : decode cX3_offerCrossings 181 = .ok (.lload 15, 2) := by decide +kernel
theorem dX3_offerCrossings_183 : decode cX3_offerCrossings 183 = .ok (.lload 13, 2) := by decide +kernel
theorem dX3_offerCrossings_185 : decode cX3_offerCrossings 185 = .ok (.lcmp, 1) := by decide +kernel
theorem dX3_offerCrossings_186 : decode cX3_offerCrossings 186 = .ok (.ifCond .gt 41, 3) := by decide +kernel
theorem dX3_offerCrossings_189 : decode cX3_offerCrossings 189 = .ok (.aload_n 0, 1) := by decide +kernel
theorem dX3_offerCrossings_190 : decode cX3_offerCrossings 190 = .ok (.aload_n 1, 1) := by decide +kernel
theorem dX3_offerCrossings_191 : decode cX3_offerCrossings 191 = .ok (.getfield 70, 3) := by decide +kernel
theorem dX3_offerCrossings_194 : decode cX3_offerCrossings 194 = .ok (.iload_n 3, 1) := by decide +kernel
theorem dX3_offerCrossings_195 : decode cX3_offerCrossings 195 = .ok (.iaload, 1) := by decide +kernel
theorem dX3_offerCrossings_196 : decode cX3_offerCrossings 196 = .ok (.i2l, 1) := by decide +kernel
theorem dX3_offerCrossings_197 : decode cX3_offerCrossings 197 = .ok (.lload 13, 2) := by decide +kernel
theorem dX3_offerCrossings_199 : decode cX3_offerCrossings 199 = .ok (.lmul, 1) := by decide +kernel
theorem dX3_offerCrossings_200 : decode cX3_offerCrossings 200 = .ok (.lload 15, 2) := by decide +kernel
theorem dX3_offerCrossings_202 : decode cX3_offerCrossings 202 = .ok (.lload 5, 2) := by decide +kernel
theorem dX3_offerCrossings_204 : decode cX3_offerCrossings 204 = .ok (.lmul, 1) := by decide +kernel
theorem dX3_offerCrossings_205 : decode cX3_offerCrossings 205 = .ok (.ladd, 1) := by decide +kernel
theorem dX3_offerCrossings_206 : decode cX3_offerCrossings 206 = .ok (.aload_n 1, 1) := by decide +kernel
theorem dX3_offerCrossings_207 : decode cX3_offerCrossings 207 = .ok (.getfield 74, 3) := by decide +kernel
theorem dX3_offerCrossings_210 : decode cX3_offerCrossings 210 = .ok (.iload_n 3, 1) := by decide +kernel
theorem dX3_offerCrossings_211 : decode cX3_offerCrossings 211 = .ok (.iaload, 1) := by decide +kernel
theorem dX3_offerCrossings_212 : decode cX3_offerCrossings 212 = .ok (.i2l, 1) := by decide +kernel
theorem dX3_offerCrossings_213 : decode cX3_offerCrossings 213 = .ok (.lload 13, 2) := by decide +kernel
theorem dX3_offerCrossings_215 : decode cX3_offerCrossings 215 = .ok (.lmul, 1) := by decide +kernel
theorem dX3_offerCrossings_216 : decode cX3_offerCrossings 216 = .ok (.lload 15, 2) := by decide +kernel
theorem dX3_offerCrossings_218 : decode cX3_offerCrossings 218 = .ok (.lload 7, 2) := by decide +kernel
theorem dX3_offerCrossings_220 : decode cX3_offerCrossings 220 = .ok (.lmul, 1) := by decide +kernel
theorem dX3_offerCrossings_221 : decode cX3_offerCrossings 221 = .ok (.ladd, 1) := by decide +kernel
theorem dX3_offerCrossings_222 : decode cX3_offerCrossings 222 = .ok (.lload 13, 2) := by decide +kernel
theorem dX3_offerCrossings_224 : decode cX3_offerCrossings 224 = .ok (.invokevirtual 77, 3) := by decide +kernel
theorem dX3_offerCrossings_227 : decode cX3_offerCrossings 227 = .ok (.iinc 4 1, 3) := by decide +kernel
theorem dX3_offerCrossings_230 : decode cX3_offerCrossings 230 = .ok (.goto (-217), 3) := by decide +kernel
theorem dX3_offerCrossings_233 : decode cX3_offerCrossings 233 = .ok (.iinc 3 1, 3) := by decide +kernel
theorem dX3_offerCrossings_236 : decode cX3_offerCrossings 236 = .ok (.goto (-234), 3) := by decide +kernel
theorem dX3_offerCrossings_239 : decode cX3_offerCrossings 239 = .ok (.return_, 1) := by decide +kernel
set_option maxRecDepth 100000 in
set_option maxHeartbeats 4000000 in
theorem wX3_offerCrossings_p1atfirst_p2atsecond_L13 {p : Program} {l : Launch} {e : Env} {R : Room} {s : State} {m : MethodId} {args : Array Value} {below : List Frame} {meth : Method} {c : Code} {Q : State → Prop} {A : Nat → Prop} {dC : Nat → ClassId} {dI : Nat → Nat → Nat} {cI cL cB : ClassId} {K : Nat} (C0 : Sx p R s m args c cX3_offerCrossings 17 RX3 A dC dI cI cL cB 2 63) (h_t h_t_first h_t_second h_t_third h_t_place h_t_near h_t_first_chain h_t_first_x h_t_first_y h_t_first_sorted h_t_second_chain h_t_second_x h_t_second_y h_t_second_sorted h_t_third_chain h_t_third_x h_t_third_y h_t_third_sorted : Nat) (t_gapSquare : Int64) (t_gapLower : Int64) (t_gapX : Int64) (t_gapY : Int64) (t_threefold : Int32) (t_first_size : Int32) (t_first_x : Nat → Int32) (t_first_y : Nat → Int32) (t_second_size : Int32) (t_second_x : Nat → Int32) (t_second_y : Nat → Int32) (t_third_size : Int32) (t_third_x : Nat → Int32) (t_third_y : Nat → Int32) (l3 : Int32) : ∀ (n : Nat) (l4 : Int32) (t_leastX : Int64) (t_leastY : Int64) (t_leastLower : Int64) (x_t_leastX : Int64) (x_t_leastY : Int64) (x_t_leastLower : Int64) (H : Heap) (locs : List Loc) (ls : Array Slot), va_P (dC, dI) vwCl [(h_t, .inr (3, [.ref h_t_first, .ref h_t_second, .ref h_t_third, .ref h_t_place, .long t_gapSquare, .long t_gapLower, .long t_gapX, .long t_gapY, .ref h_t_near, .int t_threefold, .long t_leastX, .long t_leastY, .long t_leastLower])), (h_t_first, .inr (2, [.ref h_t_first_chain, .ref h_t_first_x, .ref h_t_first_y, .ref h_t_first_sorted, .int t_first_size])), (h_t_first_x, .inl (cI, 48, .inl t_first_x)), (h_t_first_y, .inl (cI, 48, .inl t_first_y)), (h_t_second, .inr (2, [.ref h_t_second_chain, .ref h_t_second_x, .ref h_t_second_y, .ref h_t_second_sorted, .int t_second_size])), (h_t_second_x, .inl (cI, 48, .inl t_second_x)), (h_t_second_y, .inl (cI, 48, .inl t_second_y)), (h_t_third, .inr (2, [.ref h_t_third_chain, .ref h_t_third_x, .ref h_t_third_y, .ref h_t_third_sorted, .int t_third_size])), (h_t_third_x, .inl (cI, 48, .inl t_third_x)), (h_t_third_y, .inl (cI, 48, .inl t_third_y))] H → va_D A [(h_t, .inr (3, [.ref h_t_first, .ref h_t_second, .ref h_t_third, .ref h_t_place, .long t_gapSquare, .long t_gapLower, .long t_gapX, .long t_gapY, .ref h_t_near, .int t_threefold, .long t_leastX, .long t_leastY, .long t_leastLower])), (h_t_first, .inr (2, [.ref h_t_first_chain, .ref h_t_first_x, .ref h_t_first_y, .ref h_t_first_sorted, .int t_first_size])), (h_t_first_x, .inl (cI, 48, .inl t_first_x)), (h_t_first_y, .inl (cI, 48, .inl t_first_y)), (h_t_second, .inr (2, [.ref h_t_second_chain, .ref h_t_second_x, .ref h_t_second_y, .ref h_t_second_sorted, .int t_second_size])), (h_t_second_x, .inl (cI, 48, .inl t_second_x)), (h_t_second_y, .inl (cI, 48, .inl t_second_y)), (h_t_third, .inr (2, [.ref h_t_third_chain, .ref h_t_third_x, .ref h_t_third_y, .ref h_t_third_sorted, .int t_third_size])), (h_t_third_x, .inl (cI, 48, .inl t_third_x)), (h_t_third_y, .inl (cI, 48, .inl t_third_y))] → va_S A s.heap H locs → lv_has ls 17 [(0, .ref h_t), (1, .ref h_t_first), (2, .ref h_t_second), (3, .int l3), (4, .int l4)] → fX3_offerCrossings_p1atfirst_p2atsecond_L13 K l3 t_threefold t_first_size t_first_x t_first_y t_second_size t_second_x t_second_y t_third_size t_third_x t_third_y n l4 t_leastX t_leastY t_leastLower = some (x_t_leastX, x_t_leastY, x_t_leastLower) → (∀ (H : Heap) (locs : List Loc) (ls : Array Slot), va_P (dC, dI) vwCl [(h_t, .inr (3, [.ref h_t_first, .ref h_t_second, .ref h_t_third, .ref h_t_place, .long t_gapSquare, .long t_gapLower, .long t_gapX, .long t_gapY, .ref h_t_near, .int t_threefold, .long x_t_leastX, .long x_t_leastY, .long x_t_leastLower])), (h_t_first, .inr (2, [.ref h_t_first_chain, .ref h_t_first_x, .ref h_t_first_y, .ref h_t_first_sorted, .int t_first_size])), (h_t_first_x, .inl (cI, 48, .inl t_first_x)), (h_t_first_y, .inl (cI, 48, .inl t_first_y)), (h_t_second, .inr (2, [.ref h_t_second_chain, .ref h_t_second_x, .ref h_t_second_y, .ref h_t_second_sorted, .int t_second_size])), (h_t_second_x, .inl (cI, 48, .inl t_second_x)), (h_t_second_y, .inl (cI, 48, .inl t_second_y)), (h_t_third, .inr (2, [.ref h_t_third_chain, .ref h_t_third_x, .ref h_t_third_y, .ref h_t_third_sorted, .int t_third_size])), (h_t_third_x, .inl (cI, 48, .inl t_third_x)), (h_t_third_y, .inl (cI, 48, .inl t_third_y))] H → va_D A [(h_t, .inr (3, [.ref h_t_first, .ref h_t_second, .ref h_t_third, .ref h_t_place, .long t_gapSquare, .long t_gapLower, .long t_gapX, .long t_gapY, .ref h_t_near, .int t_threefold, .long x_t_leastX, .long x_t_leastY, .long x_t_leastLower])), (h_t_first, .inr (2, [.ref h_t_first_chain, .ref h_t_first_x, .ref h_t_first_y, .ref h_t_first_sorted, .int t_first_size])), (h_t_first_x, .inl (cI, 48, .inl t_first_x)), (h_t_first_y, .inl (cI, 48, .inl t_first_y)), (h_t_second, .inr (2, [.ref h_t_second_chain, .ref h_t_second_x, .ref h_t_second_y, .ref h_t_second_sorted, .int t_second_size])), (h_t_second_x, .inl (cI, 48, .inl t_second_x)), (h_t_second_y, .inl (cI, 48, .inl t_second_y)), (h_t_third, .inr (2, [.ref h_t_third_chain, .ref h_t_third_x, .ref h_t_third_y, .ref h_t_third_sorted, .int t_third_size])), (h_t_third_x, .inl (cI, 48, .inl t_third_x)), (h_t_third_y, .inl (cI, 48, .inl t_third_y))] → va_S A s.heap H locs → lv_has ls 17 [(0, .ref h_t), (1, .ref h_t_first), (2, .ref h_t_second), (3, .int l3)] → W p l e R s m args below meth c H locs 0 0 Q (F0 m 233 ls [])) → W p l e R s m args below meth c H locs 0 0 Q (F0 m 13 ls []) := by
  obtain ⟨hx, hb, hml, hown, hts, hK, hT, hA, hF, hLo⟩ := id C0
  intro n
  induction n with
  | zero =>
    intro l4 t_leastX t_leastY t_leastLower x_t_leastX x_t_leastY x_t_leastLower H locs ls hP hD hS hl hf
    rw [fX3_offerCrossings_p1atfirst_p2atsecond_L13] at hf
    cases hf
  | succ n ih =>
    intro l4 t_leastX t_leastY t_leastLower x_t_leastX x_t_leastY x_t_leastLower H locs ls hP hD hS hl hf hk
    rw [fX3_offerCrossings_p1atfirst_p2atsecond_L13] at hf
    refine lv_iload hx hb dX3_offerCrossings_13 (lv_at hl 4 rfl) ?_
    refine lv_aload_n hx hb dX3_offerCrossings_15 rfl (lv_at hl 2 rfl) ?_
    refine va_get (D := (dC, dI)) (ci := 2) (v := .int t_second_size) (C := RX2) (T := TX2) (N := 5) hx hb hts in_X2 hown hK hP 4 rfl rfl 4 (Nat.le_of_ble_eq_true rfl) (hts _ qf_X3_66) (fun _ h9 => h9) rfl dX3_offerCrossings_16 ?_
    refine lv_icmp_ge (tgt := 233) hx hb dX3_offerCrossings_19 (by decide) (fun hc => ?_) (fun hc => ?_)
    · replace hf := it_t (hc) hf
      obtain ⟨rfl, rfl, rfl⟩ := o3 hf
      exact hk H locs ls hP hD hS (lv_sub hl [0, 1, 2, 3] rfl)
    · replace hf := it_f (hc) hf
      refine lv_aload_n hx hb dX3_offerCrossings_22 rfl (lv_at hl 1 rfl) ?_
      refine va_get (D := (dC, dI)) (ci := 2) (v := .ref h_t_first_x) (C := RX2) (T := TX2) (N := 5) hx hb hts in_X2 hown hK hP 1 rfl rfl 1 (Nat.le_of_ble_eq_true rfl) (hts _ qf_X3_70) (fun _ h9 => h9) rfl dX3_offerCrossings_23 ?_
      refine lv_iload_n hx hb dX3_offerCrossings_26 rfl (lv_at hl 3 rfl) ?_
      refine lv_iconst (v := (1 : Int32)) hx hb dX3_offerCrossings_27 (by decide) ?_
      refine lv_iadd hx hb dX3_offerCrossings_28 ?_
      obtain ⟨hg_1, hf⟩ := gd_some hf
      refine va_iald hx hb hK hP 2 0 rfl rfl (inb_in hg_1) dX3_offerCrossings_29 ?_
      refine lv_aload_n hx hb dX3_offerCrossings_30 rfl (lv_at hl 1 rfl) ?_
      refine va_get (D := (dC, dI)) (ci := 2) (v := .ref h_t_first_x) (C := RX2) (T := TX2) (N := 5) hx hb hts in_X2 hown hK hP 1 rfl rfl 1 (Nat.le_of_ble_eq_true rfl) (hts _ qf_X3_70) (fun _ h9 => h9) rfl dX3_offerCrossings_31 ?_
      refine lv_iload_n hx hb dX3_offerCrossings_34 rfl (lv_at hl 3 rfl) ?_
      obtain ⟨hg_2, hf⟩ := gd_some hf
      refine va_iald hx hb hK hP 2 0 rfl rfl (inb_in hg_2) dX3_offerCrossings_35 ?_
      refine lv_isub hx hb dX3_offerCrossings_36 ?_
      refine lv_i2l hx hb dX3_offerCrossings_37 rfl ?_
      refine lv_topl (fun l5_3 el5_3 => ?_)
      replace hf := xl_at hf el5_3
      refine lv_lstore (lv' := [(5, .long l5_3), (0, .ref h_t), (1, .ref h_t_first), (2, .ref h_t_second), (3, .int l3), (4, .int l4)]) hx hb dX3_offerCrossings_38 hl (Nat.le_of_ble_eq_true rfl) rfl (fun ls hl => ?_)
      refine lv_aload_n hx hb dX3_offerCrossings_40 rfl (lv_at hl 2 rfl) ?_
      refine va_get (D := (dC, dI)) (ci := 2) (v := .ref h_t_first_y) (C := RX2) (T := TX2) (N := 5) hx hb hts in_X2 hown hK hP 1 rfl rfl 2 (Nat.le_of_ble_eq_true rfl) (hts _ qf_X3_74) (fun _ h9 => h9) rfl dX3_offerCrossings_41 ?_
      refine lv_iload_n hx hb dX3_offerCrossings_44 rfl (lv_at hl 4 rfl) ?_
      refine lv_iconst (v := (1 : Int32)) hx hb dX3_offerCrossings_45 (by decide) ?_
      refine lv_iadd hx hb dX3_offerCrossings_46 ?_
      obtain ⟨hg_4, hf⟩ := gd_some hf
      refine va_iald hx hb hK hP 3 0 rfl rfl (inb_in hg_4) dX3_offerCrossings_47 ?_
      refine lv_aload_n hx hb dX3_offerCrossings_48 rfl (lv_at hl 2 rfl) ?_
      refine va_get (D := (dC, dI)) (ci := 2) (v := .ref h_t_first_y) (C := RX2) (T := TX2) (N := 5) hx hb hts in_X2 hown hK hP 1 rfl rfl 2 (Nat.le_of_ble_eq_true rfl) (hts _ qf_X3_74) (fun _ h9 => h9) rfl dX3_offerCrossings_49 ?_
      refine lv_iload_n hx hb dX3_offerCrossings_52 rfl (lv_at hl 4 rfl) ?_
      obtain ⟨hg_5, hf⟩ := gd_some hf
      refine va_iald hx hb hK hP 3 0 rfl rfl (inb_in hg_5) dX3_offerCrossings_53 ?_
      refine lv_isub hx hb dX3_offerCrossings_54 ?_
      refine lv_i2l hx hb dX3_offerCrossings_55 rfl ?_
      refine lv_topl (fun l7_6 el7_6 => ?_)
      replace hf := xl_at hf el7_6
      refine lv_lstore (lv' := [(7, .long l7_6), (5, .long l5_3), (0, .ref h_t), (1, .ref h_t_first), (2, .ref h_t_second), (3, .int l3), (4, .int l4)]) hx hb dX3_offerCrossings_56 hl (Nat.le_of_ble_eq_true rfl) rfl (fun ls hl => ?_)
      refine lv_aload_n hx hb dX3_offerCrossings_58 rfl (lv_at hl 4 rfl) ?_
      refine va_get (D := (dC, dI)) (ci := 2) (v := .ref h_t_second_x) (C := RX2) (T := TX2) (N := 5) hx hb hts in_X2 hown hK hP 4 rfl rfl 1 (Nat.le_of_ble_eq_true rfl) (hts _ qf_X3_70) (fun _ h9 => h9) rfl dX3_offerCrossings_59 ?_
      refine lv_iload hx hb dX3_offerCrossings_62 (lv_at hl 6 rfl) ?_
      refine lv_iconst (v := (1 : Int32)) hx hb dX3_offerCrossings_64 (by decide) ?_
      refine lv_iadd hx hb dX3_offerCrossings_65 ?_
      obtain ⟨hg_7, hf⟩ := gd_some hf
      refine va_iald hx hb hK hP 5 0 rfl rfl (inb_in hg_7) dX3_offerCrossings_66 ?_
      refine lv_aload_n hx hb dX3_offerCrossings_67 rfl (lv_at hl 4 rfl) ?_
      refine va_get (D := (dC, dI)) (ci := 2) (v := .ref h_t_second_x) (C := RX2) (T := TX2) (N := 5) hx hb hts in_X2 hown hK hP 4 rfl rfl 1 (Nat.le_of_ble_eq_true rfl) (hts _ qf_X3_70) (fun _ h9 => h9) rfl dX3_offerCrossings_68 ?_
      refine lv_iload hx hb dX3_offerCrossings_71 (lv_at hl 6 rfl) ?_
      obtain ⟨hg_8, hf⟩ := gd_some hf
      refine va_iald hx hb hK hP 5 0 rfl rfl (inb_in hg_8) dX3_offerCrossings_73 ?_
      refine lv_isub hx hb dX3_offerCrossings_74 ?_
      refine lv_i2l hx hb dX3_offerCrossings_75 rfl ?_
      refine lv_topl (fun l9_9 el9_9 => ?_)
      replace hf := xl_at hf el9_9
      refine lv_lstore (lv' := [(9, .long l9_9), (7, .long l7_6), (5, .long l5_3), (0, .ref h_t), (1, .ref h_t_first), (2, .ref h_t_second), (3, .int l3), (4, .int l4)]) hx hb dX3_offerCrossings_76 hl (Nat.le_of_ble_eq_true rfl) rfl (fun ls hl => ?_)
      refine lv_aload_n hx hb dX3_offerCrossings_78 rfl (lv_at hl 5 rfl) ?_
      refine va_get (D := (dC, dI)) (ci := 2) (v := .ref h_t_second_y) (C := RX2) (T := TX2) (N := 5) hx hb hts in_X2 hown hK hP 4 rfl rfl 2 (Nat.le_of_ble_eq_true rfl) (hts _ qf_X3_74) (fun _ h9 => h9) rfl dX3_offerCrossings_79 ?_
      refine lv_iload hx hb dX3_offerCrossings_82 (lv_at hl 7 rfl) ?_
      refine lv_iconst (v := (1 : Int32)) hx hb dX3_offerCrossings_84 (by decide) ?_
      refine lv_iadd hx hb dX3_offerCrossings_85 ?_
      obtain ⟨hg_10, hf⟩ := gd_some hf
      refine va_iald hx hb hK hP 6 0 rfl rfl (inb_in hg_10) dX3_offerCrossings_86 ?_
      refine lv_aload_n hx hb dX3_offerCrossings_87 rfl (lv_at hl 5 rfl) ?_
      refine va_get (D := (dC, dI)) (ci := 2) (v := .ref h_t_second_y) (C := RX2) (T := TX2) (N := 5) hx hb hts in_X2 hown hK hP 4 rfl rfl 2 (Nat.le_of_ble_eq_true rfl) (hts _ qf_X3_74) (fun _ h9 => h9) rfl dX3_offerCrossings_88 ?_
      refine lv_iload hx hb dX3_offerCrossings_91 (lv_at hl 7 rfl) ?_
      obtain ⟨hg_11, hf⟩ := gd_some hf
      refine va_iald hx hb hK hP 6 0 rfl rfl (inb_in hg_11) dX3_offerCrossings_93 ?_
      refine lv_isub hx hb dX3_offerCrossings_94 ?_
      refine lv_i2l hx hb dX3_offerCrossings_95 rfl ?_
      refine lv_topl (fun l11_12 el11_12 => ?_)
      replace hf := xl_at hf el11_12
      refine lv_lstore (lv' := [(11, .long l11_12), (9, .long l9_9), (7, .long l7_6), (5, .long l5_3), (0, .ref h_t), (1, .ref h_t_first), (2, .ref h_t_second), (3, .int l3), (4, .int l4)]) hx hb dX3_offerCrossings_96 hl (Nat.le_of_ble_eq_true rfl) rfl (fun ls hl => ?_)
      refine lv_lload hx hb dX3_offerCrossings_98 (lv_at hl 3 rfl) ?_
      refine lv_lload hx hb dX3_offerCrossings_100 (lv_at hl 0 rfl) ?_
      refine lv_lmul hx hb dX3_offerCrossings_102 ?_
      refine lv_lload hx hb dX3_offerCrossings_103 (lv_at hl 2 rfl) ?_
      refine lv_lload hx hb dX3_offerCrossings_105 (lv_at hl 1 rfl) ?_
      refine lv_lmul hx hb dX3_offerCrossings_107 ?_
      refine lv_lsub hx hb dX3_offerCrossings_108 ?_
      refine lv_topl (fun l13_13 el13_13 => ?_)
      replace hf := xl_at hf el13_13
      refine lv_lstore (lv' := [(13, .long l13_13), (11, .long l11_12), (9, .long l9_9), (7, .long l7_6), (5, .long l5_3), (0, .ref h_t), (1, .ref h_t_first), (2, .ref h_t_second), (3, .int l3), (4, .int l4)]) hx hb dX3_offerCrossings_109 hl (Nat.le_of_ble_eq_true rfl) rfl (fun ls hl => ?_)
      refine lv_aload_n hx hb dX3_offerCrossings_111 rfl (lv_at hl 7 rfl) ?_
      refine va_get (D := (dC, dI)) (ci := 2) (v := .ref h_t_second_x) (C := RX2) (T := TX2) (N := 5) hx hb hts in_X2 hown hK hP 4 rfl rfl 1 (Nat.le_of_ble_eq_true rfl) (hts _ qf_X3_70) (fun _ h9 => h9) rfl dX3_offerCrossings_112 ?_
      refine lv_iload hx hb dX3_offerCrossings_115 (lv_at hl 9 rfl) ?_
      obtain ⟨hg_14, hf⟩ := gd_some hf
      refine va_iald hx hb hK hP 5 0 rfl rfl (inb_in hg_14) dX3_offerCrossings_117 ?_
      refine lv_aload_n hx hb dX3_offerCrossings_118 rfl (lv_at hl 6 rfl) ?_
      refine va_get (D := (dC, dI)) (ci := 2) (v := .ref h_t_first_x) (C := RX2) (T := TX2) (N := 5) hx hb hts in_X2 hown hK hP 1 rfl rfl 1 (Nat.le_of_ble_eq_true rfl) (hts _ qf_X3_70) (fun _ h9 => h9) rfl dX3_offerCrossings_119 ?_
      refine lv_iload_n hx hb dX3_offerCrossings_122 rfl (lv_at hl 8 rfl) ?_
      obtain ⟨hg_15, hf⟩ := gd_some hf
      refine va_iald hx hb hK hP 2 0 rfl rfl (inb_in hg_15) dX3_offerCrossings_123 ?_
      refine lv_isub hx hb dX3_offerCrossings_124 ?_
      refine lv_i2l hx hb dX3_offerCrossings_125 rfl ?_
      refine lv_lload hx hb dX3_offerCrossings_126 (lv_at hl 1 rfl) ?_
      refine lv_lmul hx hb dX3_offerCrossings_128 ?_
      refine lv_aload_n hx hb dX3_offerCrossings_129 rfl (lv_at hl 7 rfl) ?_
      refine va_get (D := (dC, dI)) (ci := 2) (v := .ref h_t_second_y) (C := RX2) (T := TX2) (N := 5) hx hb hts in_X2 hown hK hP 4 rfl rfl 2 (Nat.le_of_ble_eq_true rfl) (hts _ qf_X3_74) (fun _ h9 => h9) rfl dX3_offerCrossings_130 ?_
      refine lv_iload hx hb dX3_offerCrossings_133 (lv_at hl 9 rfl) ?_
      obtain ⟨hg_16, hf⟩ := gd_some hf
      refine va_iald hx hb hK hP 6 0 rfl rfl (inb_in hg_16) dX3_offerCrossings_135 ?_
      refine lv_aload_n hx hb dX3_offerCrossings_136 rfl (lv_at hl 6 rfl) ?_
      refine va_get (D := (dC, dI)) (ci := 2) (v := .ref h_t_first_y) (C := RX2) (T := TX2) (N := 5) hx hb hts in_X2 hown hK hP 1 rfl rfl 2 (Nat.le_of_ble_eq_true rfl) (hts _ qf_X3_74) (fun _ h9 => h9) rfl dX3_offerCrossings_137 ?_
      refine lv_iload_n hx hb dX3_offerCrossings_140 rfl (lv_at hl 8 rfl) ?_
      obtain ⟨hg_17, hf⟩ := gd_some hf
      refine va_iald hx hb hK hP 3 0 rfl rfl (inb_in hg_17) dX3_offerCrossings_141 ?_
      refine lv_isub hx hb dX3_offerCrossings_142 ?_
      refine lv_i2l hx hb dX3_offerCrossings_143 rfl ?_
      refine lv_lload hx hb dX3_offerCrossings_144 (lv_at hl 2 rfl) ?_
      refine lv_lmul hx hb dX3_offerCrossings_146 ?_
      refine lv_lsub hx hb dX3_offerCrossings_147 ?_
      refine lv_topl (fun l15_18 el15_18 => ?_)
      replace hf := xl_at hf el15_18
      refine lv_lstore (lv' := [(15, .long l15_18), (13, .long l13_13), (11, .long l11_12), (9, .long l9_9), (7, .long l7_6), (5, .long l5_3), (0, .ref h_t), (1, .ref h_t_first), (2, .ref h_t_second), (3, .int l3), (4, .int l4)]) hx hb dX3_offerCrossings_148 hl (Nat.le_of_ble_eq_true rfl) rfl (fun ls hl => ?_)
      refine lv_lload hx hb dX3_offerCrossings_150 (lv_at hl 1 rfl) ?_
      refine lv_lconst (v := (0 : Int64)) hx hb dX3_offerCrossings_152 (by decide) ?_
      refine W.lcmp hx hb dX3_offerCrossings_153 ?_
      obtain ⟨k_21, ek_21, hf⟩ := jn_out hf
      have J_22 : ∀ (l13_19 : Int64) (l15_20 : Int64) (H : Heap) (locs : List Loc) (ls : Array Slot), va_P (dC, dI) vwCl [(h_t, .inr (3, [.ref h_t_first, .ref h_t_second, .ref h_t_third, .ref h_t_place, .long t_gapSquare, .long t_gapLower, .long t_gapX, .long t_gapY, .ref h_t_near, .int t_threefold, .long t_leastX, .long t_leastY, .long t_leastLower])), (h_t_first, .inr (2, [.ref h_t_first_chain, .ref h_t_first_x, .ref h_t_first_y, .ref h_t_first_sorted, .int t_first_size])), (h_t_first_x, .inl (cI, 48, .inl t_first_x)), (h_t_first_y, .inl (cI, 48, .inl t_first_y)), (h_t_second, .inr (2, [.ref h_t_second_chain, .ref h_t_second_x, .ref h_t_second_y, .ref h_t_second_sorted, .int t_second_size])), (h_t_second_x, .inl (cI, 48, .inl t_second_x)), (h_t_second_y, .inl (cI, 48, .inl t_second_y)), (h_t_third, .inr (2, [.ref h_t_third_chain, .ref h_t_third_x, .ref h_t_third_y, .ref h_t_third_sorted, .int t_third_size])), (h_t_third_x, .inl (cI, 48, .inl t_third_x)), (h_t_third_y, .inl (cI, 48, .inl t_third_y))] H → va_D A [(h_t, .inr (3, [.ref h_t_first, .ref h_t_second, .ref h_t_third, .ref h_t_place, .long t_gapSquare, .long t_gapLower, .long t_gapX, .long t_gapY, .ref h_t_near, .int t_threefold, .long t_leastX, .long t_leastY, .long t_leastLower])), (h_t_first, .inr (2, [.ref h_t_first_chain, .ref h_t_first_x, .ref h_t_first_y, .ref h_t_first_sorted, .int t_first_size])), (h_t_first_x, .inl (cI, 48, .inl t_first_x)), (h_t_first_y, .inl (cI, 48, .inl t_first_y)), (h_t_second, .inr (2, [.ref h_t_second_chain, .ref h_t_second_x, .ref h_t_second_y, .ref h_t_second_sorted, .int t_second_size])), (h_t_second_x, .inl (cI, 48, .inl t_second_x)), (h_t_second_y, .inl (cI, 48, .inl t_second_y)), (h_t_third, .inr (2, [.ref h_t_third_chain, .ref h_t_third_x, .ref h_t_third_y, .ref h_t_third_sorted, .int t_third_size])), (h_t_third_x, .inl (cI, 48, .inl t_third_x)), (h_t_third_y, .inl (cI, 48, .inl t_third_y))] → va_S A s.heap H locs → lv_has ls 17 [(0, .ref h_t), (1, .ref h_t_first), (2, .ref h_t_second), (3, .int l3), (4, .int l4), (5, .long l5_3), (7, .long l7_6), (13, .long l13_19), (15, .long l15_20)] → k_21 l13_19 l15_20 = some (x_t_leastX, x_t_leastY, x_t_leastLower) → W p l e R s m args below meth c H locs 0 0 Q (F0 m 167 ls []) := by
        intro l13_19 l15_20 H locs ls hP hD hS hl hf
        rw [ek_21] at hf
        try dsimp only at hf
        refine lv_lload hx hb dX3_offerCrossings_167 (lv_at hl 7 rfl) ?_
        refine lv_lconst (v := (0 : Int64)) hx hb dX3_offerCrossings_169 (by decide) ?_
        refine W.lcmp hx hb dX3_offerCrossings_170 ?_
        obtain ⟨k_26, ek_26, hf⟩ := jn_out hf
        have J_27 : ∀ (t_leastX_23 : Int64) (t_leastY_24 : Int64) (t_leastLower_25 : Int64) (H : Heap) (locs : List Loc) (ls : Array Slot), va_P (dC, dI) vwCl [(h_t, .inr (3, [.ref h_t_first, .ref h_t_second, .ref h_t_third, .ref h_t_place, .long t_gapSquare, .long t_gapLower, .long t_gapX, .long t_gapY, .ref h_t_near, .int t_threefold, .long t_leastX_23, .long t_leastY_24, .long t_leastLower_25])), (h_t_first, .inr (2, [.ref h_t_first_chain, .ref h_t_first_x, .ref h_t_first_y, .ref h_t_first_sorted, .int t_first_size])), (h_t_first_x, .inl (cI, 48, .inl t_first_x)), (h_t_first_y, .inl (cI, 48, .inl t_first_y)), (h_t_second, .inr (2, [.ref h_t_second_chain, .ref h_t_second_x, .ref h_t_second_y, .ref h_t_second_sorted, .int t_second_size])), (h_t_second_x, .inl (cI, 48, .inl t_second_x)), (h_t_second_y, .inl (cI, 48, .inl t_second_y)), (h_t_third, .inr (2, [.ref h_t_third_chain, .ref h_t_third_x, .ref h_t_third_y, .ref h_t_third_sorted, .int t_third_size])), (h_t_third_x, .inl (cI, 48, .inl t_third_x)), (h_t_third_y, .inl (cI, 48, .inl t_third_y))] H → va_D A [(h_t, .inr (3, [.ref h_t_first, .ref h_t_second, .ref h_t_third, .ref h_t_place, .long t_gapSquare, .long t_gapLower, .long t_gapX, .long t_gapY, .ref h_t_near, .int t_threefold, .long t_leastX_23, .long t_leastY_24, .long t_leastLower_25])), (h_t_first, .inr (2, [.ref h_t_first_chain, .ref h_t_first_x, .ref h_t_first_y, .ref h_t_first_sorted, .int t_first_size])), (h_t_first_x, .inl (cI, 48, .inl t_first_x)), (h_t_first_y, .inl (cI, 48, .inl t_first_y)), (h_t_second, .inr (2, [.ref h_t_second_chain, .ref h_t_second_x, .ref h_t_second_y, .ref h_t_second_sorted, .int t_second_size])), (h_t_second_x, .inl (cI, 48, .inl t_second_x)), (h_t_second_y, .inl (cI, 48, .inl t_second_y)), (h_t_third, .inr (2, [.ref h_t_third_chain, .ref h_t_third_x, .ref h_t_third_y, .ref h_t_third_sorted, .int t_third_size])), (h_t_third_x, .inl (cI, 48, .inl t_third_x)), (h_t_third_y, .inl (cI, 48, .inl t_third_y))] → va_S A s.heap H locs → lv_has ls 17 [(0, .ref h_t), (1, .ref h_t_first), (2, .ref h_t_second), (3, .int l3), (4, .int l4)] → k_26 t_leastX_23 t_leastY_24 t_leastLower_25 = some (x_t_leastX, x_t_leastY, x_t_leastLower) → W p l e R s m args below meth c H locs 0 0 Q (F0 m 227 ls []) := by
          intro t_leastX_23 t_leastY_24 t_leastLower_25 H locs ls hP hD hS hl hf
          rw [ek_26] at hf
          try dsimp only at hf
          obtain ⟨l4_28, el4_28⟩ : ∃ y : Int32, y = l4 + (1 : Int32) := ⟨_, rfl⟩
          replace hf := xl_at hf el4_28
          refine lv_iinc (v := l4_28) (lv' := [(4, .int l4_28), (0, .ref h_t), (1, .ref h_t_first), (2, .ref h_t_second), (3, .int l3)]) hx hb dX3_offerCrossings_227 hl (k := 4) rfl (by rw [el4_28]; rfl) (Nat.le_of_ble_eq_true rfl) rfl (fun ls hl => ?_)
          refine lv_goto (tgt := 13) hx hb dX3_offerCrossings_230 (by decide) ?_
          exact ih l4_28 t_leastX_23 t_leastY_24 t_leastLower_25 _ _ _ H locs ls hP hD hS (lv_sub hl [1, 2, 3, 4, 0] rfl) hf hk
        refine lv_if_le (tgt := 227) hx hb dX3_offerCrossings_171 (by decide) (fun hc => ?_) (fun hc => ?_)
        · replace hf := it_t ((lg_cmp_le _ _).mp hc) hf
          exact J_27 t_leastX t_leastY t_leastLower H locs ls hP hD hS (lv_sub hl [0, 1, 2, 3, 4] rfl) hf
        · replace hf := it_f (fun h9 => hc ((lg_cmp_le _ _).mpr h9)) hf
          refine lv_lload hx hb dX3_offerCrossings_174 (lv_at hl 8 rfl) ?_
          refine lv_lconst (v := (0 : Int64)) hx hb dX3_offerCrossings_176 (by decide) ?_
          refine W.lcmp hx hb dX3_offerCrossings_177 ?_
          refine lv_if_lt (tgt := 227) hx hb dX3_offerCrossings_178 (by decide) (fun hc => ?_) (fun hc => ?_)
          · replace hf := it_t ((lg_cmp_lt _ _).mp hc) hf
            exact J_27 t_leastX t_leastY t_leastLower H locs ls hP hD hS (lv_sub hl [0, 1, 2, 3, 4] rfl) hf
          · replace hf := it_f (fun h9 => hc ((lg_cmp_lt _ _).mpr h9)) hf
            refine lv_lload hx hb dX3_offerCrossings_181 (lv_at hl 8 rfl) ?_
            refine lv_lload hx hb dX3_offerCrossings_183 (lv_at hl 7 rfl) ?_
            refine W.lcmp hx hb dX3_offerCrossings_185 ?_
            refine lv_if_gt (tgt := 227) hx hb dX3_offerCrossings_186 (by decide) (fun hc => ?_) (fun hc => ?_)
            · replace hf := it_t ((lg_cmp_gt _ _).mp hc) hf
              exact J_27 t_leastX t_leastY t_leastLower H locs ls hP hD hS (lv_sub hl [0, 1, 2, 3, 4] rfl) hf
            · replace hf := it_f (fun h9 => hc ((lg_cmp_gt _ _).mpr h9)) hf
              refine lv_aload_n hx hb dX3_offerCrossings_189 rfl (lv_at hl 0 rfl) ?_
              refine lv_aload_n hx hb dX3_offerCrossings_190 rfl (lv_at hl 1 rfl) ?_
              refine va_get (D := (dC, dI)) (ci := 2) (v := .ref h_t_first_x) (C := RX2) (T := TX2) (N := 5) hx hb hts in_X2 hown hK hP 1 rfl rfl 1 (Nat.le_of_ble_eq_true rfl) (hts _ qf_X3_70) (fun _ h9 => h9) rfl dX3_offerCrossings_191 ?_
              refine lv_iload_n hx hb dX3_offerCrossings_194 rfl (lv_at hl 3 rfl) ?_
              obtain ⟨hg_29, hf⟩ := gd_some hf
              refine va_iald hx hb hK hP 2 0 rfl rfl (inb_in hg_29) dX3_offerCrossings_195 ?_
              refine lv_i2l hx hb dX3_offerCrossings_196 rfl ?_
              refine lv_lload hx hb dX3_offerCrossings_197 (lv_at hl 7 rfl) ?_
              refine lv_lmul hx hb dX3_offerCrossings_199 ?_
              refine lv_lload hx hb dX3_offerCrossings_200 (lv_at hl 8 rfl) ?_
              refine lv_lload hx hb dX3_offerCrossings_202 (lv_at hl 5 rfl) ?_
              refine lv_lmul hx hb dX3_offerCrossings_204 ?_
              refine lv_ladd hx hb dX3_offerCrossings_205 ?_
              refine lv_aload_n hx hb dX3_offerCrossings_206 rfl (lv_at hl 1 rfl) ?_
              refine va_get (D := (dC, dI)) (ci := 2) (v := .ref h_t_first_y) (C := RX2) (T := TX2) (N := 5) hx hb hts in_X2 hown hK hP 1 rfl rfl 2 (Nat.le_of_ble_eq_true rfl) (hts _ qf_X3_74) (fun _ h9 => h9) rfl dX3_offerCrossings_207 ?_
              refine lv_iload_n hx hb dX3_offerCrossings_210 rfl (lv_at hl 3 rfl) ?_
              obtain ⟨hg_30, hf⟩ := gd_some hf
              refine va_iald hx hb hK hP 3 0 rfl rfl (inb_in hg_30) dX3_offerCrossings_211 ?_
              refine lv_i2l hx hb dX3_offerCrossings_212 rfl ?_
              refine lv_lload hx hb dX3_offerCrossings_213 (lv_at hl 7 rfl) ?_
              refine lv_lmul hx hb dX3_offerCrossings_215 ?_
              refine lv_lload hx hb dX3_offerCrossings_216 (lv_at hl 8 rfl) ?_
              refine lv_lload hx hb dX3_offerCrossings_218 (lv_at hl 6 rfl) ?_
              refine lv_lmul hx hb dX3_offerCrossings_220 ?_
              refine lv_ladd hx hb dX3_offerCrossings_221 ?_
              refine lv_lload hx hb dX3_offerCrossings_222 (lv_at hl 7 rfl) ?_
              obtain ⟨t_leastX_31, t_leastY_32, t_leastLower_33, hq_34, hf⟩ := b3_some hf
              refine xcv (wr := []) (w2 := [(h_t, .inr (3, [.ref h_t_first, .ref h_t_second, .ref h_t_third, .ref h_t_place, .long t_gapSquare, .long t_gapLower, .long t_gapX, .long t_gapY, .ref h_t_near, .int t_threefold, .long t_leastX_31, .long t_leastY_32, .long t_leastLower_33])), (h_t_first, .inr (2, [.ref h_t_first_chain, .ref h_t_first_x, .ref h_t_first_y, .ref h_t_first_sorted, .int t_first_size])), (h_t_first_x, .inl (cI, 48, .inl t_first_x)), (h_t_first_y, .inl (cI, 48, .inl t_first_y)), (h_t_second, .inr (2, [.ref h_t_second_chain, .ref h_t_second_x, .ref h_t_second_y, .ref h_t_second_sorted, .int t_second_size])), (h_t_second_x, .inl (cI, 48, .inl t_second_x)), (h_t_second_y, .inl (cI, 48, .inl t_second_y)), (h_t_third, .inr (2, [.ref h_t_third_chain, .ref h_t_third_x, .ref h_t_third_y, .ref h_t_third_sorted, .int t_third_size])), (h_t_third_x, .inl (cI, 48, .inl t_third_x)), (h_t_third_y, .inl (cI, 48, .inl t_third_y))]) (va_runV (As := [.long ((((t_first_x l3.toNatClampNeg).toInt64) * l13_19) + (l15_20 * l5_3)), .long ((((t_first_y l3.toNatClampNeg).toInt64) * l13_19) + (l15_20 * l7_6)), .long l13_19]) (rest := []) ⟨hx, hb, hml, hown, hts⟩ (mtX3_offer l dC dI cI cL cB K h_t h_t_first h_t_second h_t_third h_t_place h_t_near h_t_first_chain h_t_first_x h_t_first_y h_t_first_sorted h_t_second_chain h_t_second_x h_t_second_y h_t_second_sorted h_t_third_chain h_t_third_x h_t_third_y h_t_third_sorted H.size t_gapSquare t_gapLower t_gapX t_gapY t_threefold t_leastX t_leastY t_leastLower t_first_size t_first_x t_first_y t_second_size t_second_x t_second_y t_third_size t_third_x t_third_y ((((t_first_x l3.toNatClampNeg).toInt64) * l13_19) + (l15_20 * l5_3)) ((((t_first_y l3.toNatClampNeg).toInt64) * l13_19) + (l15_20 * l7_6)) l13_19 t_leastX_31 t_leastY_32 t_leastLower_33 hq_34) (cwV 3 hts gv_X3_77 rfl rfl rfl hdV_X3_offer ⟨Nat.le_trans (Nat.le_of_ble_eq_true rfl) hF, Nat.le_trans (Nat.le_of_ble_eq_true rfl) hLo⟩) (cPreV hK hP hD hT [0, 1, 2, 3, 4, 5, 6, 7, 8, 9] rfl rfl (ci := 3) (q0 := 0) rfl rfl) rfl rfl hl.1 rfl (lv_room (Nat.le_of_ble_eq_true rfl)) dX3_offerCrossings_224 ⟨Nat.zero_le _, Nat.zero_le _⟩) hP hD hS hA [0, 1, 2, 3, 4, 5, 6, 7, 8, 9] [] [0, 1, 2, 3, 4, 5, 6, 7, 8, 9] rfl rfl rfl rfl rfl rfl (fun H locs hP hD hS => ?_)
              exact J_27 t_leastX_31 t_leastY_32 t_leastLower_33 H locs ls hP hD hS (lv_sub hl [0, 1, 2, 3, 4] rfl) hf
      refine lv_if_ge (tgt := 167) hx hb dX3_offerCrossings_154 (by decide) (fun hc => ?_) (fun hc => ?_)
      · replace hf := it_t ((lg_cmp_ge _ _).mp hc) hf
        exact J_22 l13_13 l15_18 H locs ls hP hD hS (lv_sub hl [6, 7, 8, 9, 10, 5, 4, 1, 0] rfl) hf
      · replace hf := it_f (fun h9 => hc ((lg_cmp_ge _ _).mpr h9)) hf
        refine lv_lload hx hb dX3_offerCrossings_157 (lv_at hl 1 rfl) ?_
        refine lv_lneg hx hb dX3_offerCrossings_159 ?_
        refine lv_topl (fun l13_35 el13_35 => ?_)
        replace hf := xl_at hf el13_35
        refine lv_lstore (lv' := [(13, .long l13_35), (15, .long l15_18), (11, .long l11_12), (9, .long l9_9), (7, .long l7_6), (5, .long l5_3), (0, .ref h_t), (1, .ref h_t_first), (2, .ref h_t_second), (3, .int l3), (4, .int l4)]) hx hb dX3_offerCrossings_160 hl (Nat.le_of_ble_eq_true rfl) rfl (fun ls hl => ?_)
        refine lv_lload hx hb dX3_offerCrossings_162 (lv_at hl 1 rfl) ?_
        refine lv_lneg hx hb dX3_offerCrossings_164 ?_
        refine lv_topl (fun l15_36 el15_36 => ?_)
        replace hf := xl_at hf el15_36
        refine lv_lstore (lv' := [(15, .long l15_36), (13, .long l13_35), (11, .long l11_12), (9, .long l9_9), (7, .long l7_6), (5, .long l5_3), (0, .ref h_t), (1, .ref h_t_first), (2, .ref h_t_second), (3, .int l3), (4, .int l4)]) hx hb dX3_offerCrossings_165 hl (Nat.le_of_ble_eq_true rfl) rfl (fun ls hl => ?_)
        exact J_22 l13_35 l15_36 H locs ls hP hD hS (lv_sub hl [6, 7, 8, 9, 10, 5, 4, 1, 0] rfl) hf
set_option maxRecDepth 100000 in
set_option maxHeartbeats 4000000 in
theorem wX3_offerCrossings_p1atfirst_p2atsecond_L2 {p : Program} {l : Launch} {e : Env} {R : Room} {s : State} {m : MethodId} {args : Array Value} {below : List Frame} {meth : Method} {c : Code} {Q : State → Prop} {A : Nat → Prop} {dC : Nat → ClassId} {dI : Nat → Nat → Nat} {cI cL cB : ClassId} {K : Nat} (C0 : Sx p R s m args c cX3_offerCrossings 17 RX3 A dC dI cI cL cB 2 63) (h_t h_t_first h_t_second h_t_third h_t_place h_t_near h_t_first_chain h_t_first_x h_t_first_y h_t_first_sorted h_t_second_chain h_t_second_x h_t_second_y h_t_second_sorted h_t_third_chain h_t_third_x h_t_third_y h_t_third_sorted : Nat) (t_gapSquare : Int64) (t_gapLower : Int64) (t_gapX : Int64) (t_gapY : Int64) (t_threefold : Int32) (t_first_size : Int32) (t_first_x : Nat → Int32) (t_first_y : Nat → Int32) (t_second_size : Int32) (t_second_x : Nat → Int32) (t_second_y : Nat → Int32) (t_third_size : Int32) (t_third_x : Nat → Int32) (t_third_y : Nat → Int32) : ∀ (n : Nat) (l3 : Int32) (t_leastX : Int64) (t_leastY : Int64) (t_leastLower : Int64) (x_t_leastX : Int64) (x_t_leastY : Int64) (x_t_leastLower : Int64) (H : Heap) (locs : List Loc) (ls : Array Slot), va_P (dC, dI) vwCl [(h_t, .inr (3, [.ref h_t_first, .ref h_t_second, .ref h_t_third, .ref h_t_place, .long t_gapSquare, .long t_gapLower, .long t_gapX, .long t_gapY, .ref h_t_near, .int t_threefold, .long t_leastX, .long t_leastY, .long t_leastLower])), (h_t_first, .inr (2, [.ref h_t_first_chain, .ref h_t_first_x, .ref h_t_first_y, .ref h_t_first_sorted, .int t_first_size])), (h_t_first_x, .inl (cI, 48, .inl t_first_x)), (h_t_first_y, .inl (cI, 48, .inl t_first_y)), (h_t_second, .inr (2, [.ref h_t_second_chain, .ref h_t_second_x, .ref h_t_second_y, .ref h_t_second_sorted, .int t_second_size])), (h_t_second_x, .inl (cI, 48, .inl t_second_x)), (h_t_second_y, .inl (cI, 48, .inl t_second_y)), (h_t_third, .inr (2, [.ref h_t_third_chain, .ref h_t_third_x, .ref h_t_third_y, .ref h_t_third_sorted, .int t_third_size])), (h_t_third_x, .inl (cI, 48, .inl t_third_x)), (h_t_third_y, .inl (cI, 48, .inl t_third_y))] H → va_D A [(h_t, .inr (3, [.ref h_t_first, .ref h_t_second, .ref h_t_third, .ref h_t_place, .long t_gapSquare, .long t_gapLower, .long t_gapX, .long t_gapY, .ref h_t_near, .int t_threefold, .long t_leastX, .long t_leastY, .long t_leastLower])), (h_t_first, .inr (2, [.ref h_t_first_chain, .ref h_t_first_x, .ref h_t_first_y, .ref h_t_first_sorted, .int t_first_size])), (h_t_first_x, .inl (cI, 48, .inl t_first_x)), (h_t_first_y, .inl (cI, 48, .inl t_first_y)), (h_t_second, .inr (2, [.ref h_t_second_chain, .ref h_t_second_x, .ref h_t_second_y, .ref h_t_second_sorted, .int t_second_size])), (h_t_second_x, .inl (cI, 48, .inl t_second_x)), (h_t_second_y, .inl (cI, 48, .inl t_second_y)), (h_t_third, .inr (2, [.ref h_t_third_chain, .ref h_t_third_x, .ref h_t_third_y, .ref h_t_third_sorted, .int t_third_size])), (h_t_third_x, .inl (cI, 48, .inl t_third_x)), (h_t_third_y, .inl (cI, 48, .inl t_third_y))] → va_S A s.heap H locs → lv_has ls 17 [(0, .ref h_t), (1, .ref h_t_first), (2, .ref h_t_second), (3, .int l3)] → fX3_offerCrossings_p1atfirst_p2atsecond_L2 K t_threefold t_first_size t_first_x t_first_y t_second_size t_second_x t_second_y t_third_size t_third_x t_third_y n l3 t_leastX t_leastY t_leastLower = some (x_t_leastX, x_t_leastY, x_t_leastLower) → (∀ (H : Heap) (locs : List Loc) (ls : Array Slot), va_P (dC, dI) vwCl [(h_t, .inr (3, [.ref h_t_first, .ref h_t_second, .ref h_t_third, .ref h_t_place, .long t_gapSquare, .long t_gapLower, .long t_gapX, .long t_gapY, .ref h_t_near, .int t_threefold, .long x_t_leastX, .long x_t_leastY, .long x_t_leastLower])), (h_t_first, .inr (2, [.ref h_t_first_chain, .ref h_t_first_x, .ref h_t_first_y, .ref h_t_first_sorted, .int t_first_size])), (h_t_first_x, .inl (cI, 48, .inl t_first_x)), (h_t_first_y, .inl (cI, 48, .inl t_first_y)), (h_t_second, .inr (2, [.ref h_t_second_chain, .ref h_t_second_x, .ref h_t_second_y, .ref h_t_second_sorted, .int t_second_size])), (h_t_second_x, .inl (cI, 48, .inl t_second_x)), (h_t_second_y, .inl (cI, 48, .inl t_second_y)), (h_t_third, .inr (2, [.ref h_t_third_chain, .ref h_t_third_x, .ref h_t_third_y, .ref h_t_third_sorted, .int t_third_size])), (h_t_third_x, .inl (cI, 48, .inl t_third_x)), (h_t_third_y, .inl (cI, 48, .inl t_third_y))] H → va_D A [(h_t, .inr (3, [.ref h_t_first, .ref h_t_second, .ref h_t_third, .ref h_t_place, .long t_gapSquare, .long t_gapLower, .long t_gapX, .long t_gapY, .ref h_t_near, .int t_threefold, .long x_t_leastX, .long x_t_leastY, .long x_t_leastLower])), (h_t_first, .inr (2, [.ref h_t_first_chain, .ref h_t_first_x, .ref h_t_first_y, .ref h_t_first_sorted, .int t_first_size])), (h_t_first_x, .inl (cI, 48, .inl t_first_x)), (h_t_first_y, .inl (cI, 48, .inl t_first_y)), (h_t_second, .inr (2, [.ref h_t_second_chain, .ref h_t_second_x, .ref h_t_second_y, .ref h_t_second_sorted, .int t_second_size])), (h_t_second_x, .inl (cI, 48, .inl t_second_x)), (h_t_second_y, .inl (cI, 48, .inl t_second_y)), (h_t_third, .inr (2, [.ref h_t_third_chain, .ref h_t_third_x, .ref h_t_third_y, .ref h_t_third_sorted, .int t_third_size])), (h_t_third_x, .inl (cI, 48, .inl t_third_x)), (h_t_third_y, .inl (cI, 48, .inl t_third_y))] → va_S A s.heap H locs → lv_has ls 17 [] → W p l e R s m args below meth c H locs 0 0 Q (F0 m 239 ls [])) → W p l e R s m args below meth c H locs 0 0 Q (F0 m 2 ls []) := by
  obtain ⟨hx, hb, hml, hown, hts, hK, hT, hA, hF, hLo⟩ := id C0
  intro n
  induction n with
  | zero =>
    intro l3 t_leastX t_leastY t_leastLower x_t_leastX x_t_leastY x_t_leastLower H locs ls hP hD hS hl hf
    rw [fX3_offerCrossings_p1atfirst_p2atsecond_L2] at hf
    cases hf
  | succ n ih =>
    intro l3 t_leastX t_leastY t_leastLower x_t_leastX x_t_leastY x_t_leastLower H locs ls hP hD hS hl hf hk
    rw [fX3_offerCrossings_p1atfirst_p2atsecond_L2] at hf
    refine lv_iload_n hx hb dX3_offerCrossings_2 rfl (lv_at hl 3 rfl) ?_
    refine lv_aload_n hx hb dX3_offerCrossings_3 rfl (lv_at hl 1 rfl) ?_
    refine va_get (D := (dC, dI)) (ci := 2) (v := .int t_first_size) (C := RX2) (T := TX2) (N := 5) hx hb hts in_X2 hown hK hP 1 rfl rfl 4 (Nat.le_of_ble_eq_true rfl) (hts _ qf_X3_66) (fun _ h9 => h9) rfl dX3_offerCrossings_4 ?_
    refine lv_icmp_ge (tgt := 239) hx hb dX3_offerCrossings_7 (by decide) (fun hc => ?_) (fun hc => ?_)
    · replace hf := it_t (hc) hf
      obtain ⟨rfl, rfl, rfl⟩ := o3 hf
      exact hk H locs ls hP hD hS (lv_sub hl [] rfl)
    · replace hf := it_f (hc) hf
      refine lv_iconst (v := (0 : Int32)) hx hb dX3_offerCrossings_10 (by decide) ?_
      refine lv_istore (lv' := [(4, .int (0 : Int32)), (0, .ref h_t), (1, .ref h_t_first), (2, .ref h_t_second), (3, .int l3)]) hx hb dX3_offerCrossings_11 hl (Nat.le_of_ble_eq_true rfl) rfl (fun ls hl => ?_)
      obtain ⟨t_leastX_38, t_leastY_39, t_leastLower_40, hq_37, hf⟩ := b3_some hf
      refine wX3_offerCrossings_p1atfirst_p2atsecond_L13 C0 h_t h_t_first h_t_second h_t_third h_t_place h_t_near h_t_first_chain h_t_first_x h_t_first_y h_t_first_sorted h_t_second_chain h_t_second_x h_t_second_y h_t_second_sorted h_t_third_chain h_t_third_x h_t_third_y h_t_third_sorted t_gapSquare t_gapLower t_gapX t_gapY t_threefold t_first_size t_first_x t_first_y t_second_size t_second_x t_second_y t_third_size t_third_x t_third_y l3 K (0 : Int32) t_leastX t_leastY t_leastLower t_leastX_38 t_leastY_39 t_leastLower_40 H locs ls hP hD hS (lv_sub hl [1, 2, 3, 4, 0] rfl) hq_37 ?_
      intro H locs ls hP hD hS hl
      obtain ⟨l3_41, el3_41⟩ : ∃ y : Int32, y = l3 + (1 : Int32) := ⟨_, rfl⟩
      replace hf := xl_at hf el3_41
      refine lv_iinc (v := l3_41) (lv' := [(3, .int l3_41), (0, .ref h_t), (1, .ref h_t_first), (2, .ref h_t_second)]) hx hb dX3_offerCrossings_233 hl (k := 3) rfl (by rw [el3_41]; rfl) (Nat.le_of_ble_eq_true rfl) rfl (fun ls hl => ?_)
      refine lv_goto (tgt := 2) hx hb dX3_offerCrossings_236 (by decide) ?_
      exact ih l3_41 t_leastX_38 t_leastY_39 t_leastLower_40 _ _ _ H locs ls hP hD hS (lv_sub hl [1, 2, 3, 0] rfl) hf hk
set_option maxRecDepth 100000 in
set_option maxHeartbeats 4000000 in
theorem mtX3_offerCrossings_p1atfirst_p2atsecond (l : Launch) (dC : Nat → ClassId) (dI : Nat → Nat → Nat) (cI cL cB : ClassId) (K : Nat) (h_t h_t_first h_t_second h_t_third h_t_place h_t_near h_t_first_chain h_t_first_x h_t_first_y h_t_first_sorted h_t_second_chain h_t_second_x h_t_second_y h_t_second_sorted h_t_third_chain h_t_third_x h_t_third_y h_t_third_sorted : Nat) (sz : Nat) (t_gapSquare : Int64) (t_gapLower : Int64) (t_gapX : Int64) (t_gapY : Int64) (t_threefold : Int32) (t_leastX : Int64) (t_leastY : Int64) (t_leastLower : Int64) (t_first_size : Int32) (t_first_x : Nat → Int32) (t_first_y : Nat → Int32) (t_second_size : Int32) (t_second_x : Nat → Int32) (t_second_y : Nat → Int32) (t_third_size : Int32) (t_third_x : Nat → Int32) (t_third_y : Nat → Int32) (o_t_leastX : Int64) (o_t_leastY : Int64) (o_t_leastLower : Int64) (hf : fX3_offerCrossings_p1atfirst_p2atsecond K t_threefold t_leastX t_leastY t_leastLower t_first_size t_first_x t_first_y t_second_size t_second_x t_second_y t_third_size t_third_x t_third_y = some (o_t_leastX, o_t_leastY, o_t_leastLower)) : Met l yX3_offerCrossings [Cond.code yX3_offerCrossings cX3_offerCrossings 17 none] ({ frames := 2, cells := 0, slots := 0, locals := 63 }) (va_Pc [.ref h_t, .ref h_t_first, .ref h_t_second] (cPre dC dI cI cL cB sz [(h_t, .inr (3, [.ref h_t_first, .ref h_t_second, .ref h_t_third, .ref h_t_place, .long t_gapSquare, .long t_gapLower, .long t_gapX, .long t_gapY, .ref h_t_near, .int t_threefold, .long t_leastX, .long t_leastY, .long t_leastLower])), (h_t_first, .inr (2, [.ref h_t_first_chain, .ref h_t_first_x, .ref h_t_first_y, .ref h_t_first_sorted, .int t_first_size])), (h_t_first_x, .inl (cI, 48, .inl t_first_x)), (h_t_first_y, .inl (cI, 48, .inl t_first_y)), (h_t_second, .inr (2, [.ref h_t_second_chain, .ref h_t_second_x, .ref h_t_second_y, .ref h_t_second_sorted, .int t_second_size])), (h_t_second_x, .inl (cI, 48, .inl t_second_x)), (h_t_second_y, .inl (cI, 48, .inl t_second_y)), (h_t_third, .inr (2, [.ref h_t_third_chain, .ref h_t_third_x, .ref h_t_third_y, .ref h_t_third_sorted, .int t_third_size])), (h_t_third_x, .inl (cI, 48, .inl t_third_x)), (h_t_third_y, .inl (cI, 48, .inl t_third_y))])) (cQv dC dI (va_A [(h_t, .inr (3, [.ref h_t_first, .ref h_t_second, .ref h_t_third, .ref h_t_place, .long t_gapSquare, .long t_gapLower, .long t_gapX, .long t_gapY, .ref h_t_near, .int t_threefold, .long t_leastX, .long t_leastY, .long t_leastLower])), (h_t_first, .inr (2, [.ref h_t_first_chain, .ref h_t_first_x, .ref h_t_first_y, .ref h_t_first_sorted, .int t_first_size])), (h_t_first_x, .inl (cI, 48, .inl t_first_x)), (h_t_first_y, .inl (cI, 48, .inl t_first_y)), (h_t_second, .inr (2, [.ref h_t_second_chain, .ref h_t_second_x, .ref h_t_second_y, .ref h_t_second_sorted, .int t_second_size])), (h_t_second_x, .inl (cI, 48, .inl t_second_x)), (h_t_second_y, .inl (cI, 48, .inl t_second_y)), (h_t_third, .inr (2, [.ref h_t_third_chain, .ref h_t_third_x, .ref h_t_third_y, .ref h_t_third_sorted, .int t_third_size])), (h_t_third_x, .inl (cI, 48, .inl t_third_x)), (h_t_third_y, .inl (cI, 48, .inl t_third_y))] sz) [(h_t, .inr (3, [.ref h_t_first, .ref h_t_second, .ref h_t_third, .ref h_t_place, .long t_gapSquare, .long t_gapLower, .long t_gapX, .long t_gapY, .ref h_t_near, .int t_threefold, .long o_t_leastX, .long o_t_leastY, .long o_t_leastLower])), (h_t_first, .inr (2, [.ref h_t_first_chain, .ref h_t_first_x, .ref h_t_first_y, .ref h_t_first_sorted, .int t_first_size])), (h_t_first_x, .inl (cI, 48, .inl t_first_x)), (h_t_first_y, .inl (cI, 48, .inl t_first_y)), (h_t_second, .inr (2, [.ref h_t_second_chain, .ref h_t_second_x, .ref h_t_second_y, .ref h_t_second_sorted, .int t_second_size])), (h_t_second_x, .inl (cI, 48, .inl t_second_x)), (h_t_second_y, .inl (cI, 48, .inl t_second_y)), (h_t_third, .inr (2, [.ref h_t_third_chain, .ref h_t_third_x, .ref h_t_third_y, .ref h_t_third_sorted, .int t_third_size])), (h_t_third_x, .inl (cI, 48, .inl t_third_x)), (h_t_third_y, .inl (cI, 48, .inl t_third_y))]) 0 0 (va_A [(h_t, .inr (3, [.ref h_t_first, .ref h_t_second, .ref h_t_third, .ref h_t_place, .long t_gapSquare, .long t_gapLower, .long t_gapX, .long t_gapY, .ref h_t_near, .int t_threefold, .long t_leastX, .long t_leastY, .long t_leastLower])), (h_t_first, .inr (2, [.ref h_t_first_chain, .ref h_t_first_x, .ref h_t_first_y, .ref h_t_first_sorted, .int t_first_size])), (h_t_first_x, .inl (cI, 48, .inl t_first_x)), (h_t_first_y, .inl (cI, 48, .inl t_first_y)), (h_t_second, .inr (2, [.ref h_t_second_chain, .ref h_t_second_x, .ref h_t_second_y, .ref h_t_second_sorted, .int t_second_size])), (h_t_second_x, .inl (cI, 48, .inl t_second_x)), (h_t_second_y, .inl (cI, 48, .inl t_second_y)), (h_t_third, .inr (2, [.ref h_t_third_chain, .ref h_t_third_x, .ref h_t_third_y, .ref h_t_third_sorted, .int t_third_size])), (h_t_third_x, .inl (cI, 48, .inl t_third_x)), (h_t_third_y, .inl (cI, 48, .inl t_third_y))] sz) := by
  refine Met.ofW (cc := cX3_offerCrossings) (maxL := 17) (ret := none) (by decide) rfl ?_
  intro p e s m args below meth c s₁ B hml hv
  obtain ⟨rfl, hsz, hP, hK, hD0, hT⟩ := hv
  have hx := B.exec
  have hb := B.bytes
  have hr := B.returns
  have hown : s.vm.findClass RX3 = some m.cls := findClass_of_methodNamed B.named
  have hlocks := B.notSynchronized
  have hts := TB.use hT ([.ref h_t, .ref h_t_first, .ref h_t_second] : List Value).toArray
  subst hsz
  have hD := hD0.self (sz := s.heap.size)
  generalize hAe : va_A [(h_t, .inr (3, [.ref h_t_first, .ref h_t_second, .ref h_t_third, .ref h_t_place, .long t_gapSquare, .long t_gapLower, .long t_gapX, .long t_gapY, .ref h_t_near, .int t_threefold, .long t_leastX, .long t_leastY, .long t_leastLower])), (h_t_first, .inr (2, [.ref h_t_first_chain, .ref h_t_first_x, .ref h_t_first_y, .ref h_t_first_sorted, .int t_first_size])), (h_t_first_x, .inl (cI, 48, .inl t_first_x)), (h_t_first_y, .inl (cI, 48, .inl t_first_y)), (h_t_second, .inr (2, [.ref h_t_second_chain, .ref h_t_second_x, .ref h_t_second_y, .ref h_t_second_sorted, .int t_second_size])), (h_t_second_x, .inl (cI, 48, .inl t_second_x)), (h_t_second_y, .inl (cI, 48, .inl t_second_y)), (h_t_third, .inr (2, [.ref h_t_third_chain, .ref h_t_third_x, .ref h_t_third_y, .ref h_t_third_sorted, .int t_third_size])), (h_t_third_x, .inl (cI, 48, .inl t_third_x)), (h_t_third_y, .inl (cI, 48, .inl t_third_y))] s.heap.size = A at hD ⊢
  have hA : ∀ q : Nat, s.heap.size ≤ q → A q := fun q h => by rw [← hAe]; exact Or.inr h
  clear hAe hD0
  have hl := lv_entry ([.ref h_t, .ref h_t_first, .ref h_t_second]) (n := 17) (Nat.le_of_ble_eq_true rfl)
  rw [lg_entry_eq]
  generalize (lg_sl ([.ref h_t, .ref h_t_first, .ref h_t_second]) ++ List.replicate (17 - (lg_sl ([.ref h_t, .ref h_t_first, .ref h_t_second])).length) Slot.unset).toArray = ls at hl ⊢
  have hl : lv_has ls 17 [(0, .ref h_t), (1, .ref h_t_first), (2, .ref h_t_second)] := hl
  have hF : 2 ≤ (headSpec [Cond.code yX3_offerCrossings cX3_offerCrossings 17 none] ({ frames := 2, cells := 0, slots := 0, locals := 63 })).room.frames := Nat.le_refl _
  have hLo : 63 ≤ (headSpec [Cond.code yX3_offerCrossings cX3_offerCrossings 17 none] ({ frames := 2, cells := 0, slots := 0, locals := 63 })).room.locals := Nat.le_refl _
  have C0 : Sx p (headSpec [Cond.code yX3_offerCrossings cX3_offerCrossings 17 none] ({ frames := 2, cells := 0, slots := 0, locals := 63 })).room s m ([.ref h_t, .ref h_t_first, .ref h_t_second] : List Value).toArray c cX3_offerCrossings 17 RX3 A dC dI cI cL cB 2 63 := ⟨hx, hb, hml, hown, hts, hK, hT, hA, hF, hLo⟩
  refine startH (A := A) hP (fun H locs hP hS => ?_)
  rw [fX3_offerCrossings_p1atfirst_p2atsecond] at hf
  refine lv_iconst (v := (0 : Int32)) hx hb dX3_offerCrossings_0 (by decide) ?_
  refine lv_istore_n (lv' := [(3, .int (0 : Int32)), (0, .ref h_t), (1, .ref h_t_first), (2, .ref h_t_second)]) hx hb dX3_offerCrossings_1 rfl hl (Nat.le_of_ble_eq_true rfl) rfl (fun ls hl => ?_)
  obtain ⟨t_leastX_43, t_leastY_44, t_leastLower_45, hq_42, hf⟩ := b3_some hf
  refine wX3_offerCrossings_p1atfirst_p2atsecond_L2 C0 h_t h_t_first h_t_second h_t_third h_t_place h_t_near h_t_first_chain h_t_first_x h_t_first_y h_t_first_sorted h_t_second_chain h_t_second_x h_t_second_y h_t_second_sorted h_t_third_chain h_t_third_x h_t_third_y h_t_third_sorted t_gapSquare t_gapLower t_gapX t_gapY t_threefold t_first_size t_first_x t_first_y t_second_size t_second_x t_second_y t_third_size t_third_x t_third_y K (0 : Int32) t_leastX t_leastY t_leastLower t_leastX_43 t_leastY_44 t_leastLower_45 H locs ls hP hD hS (lv_sub hl [1, 2, 3, 0] rfl) hq_42 ?_
  intro H locs ls hP hD hS hl
  obtain ⟨rfl, rfl, rfl⟩ := o3 hf
  exact W.vret hx hb hr (fun t ht hW => ⟨⟨(), rfl, trivial, by rw [ht]; exact hP, hD⟩, hS.F ht⟩) hS.2.2 dX3_offerCrossings_239
set_option maxRecDepth 100000 in
set_option maxHeartbeats 4000000 in
theorem wX3_offerCorners_p1atthird_L2 {p : Program} {l : Launch} {e : Env} {R : Room} {s : State} {m : MethodId} {args : Array Value} {below : List Frame} {meth : Method} {c : Code} {Q : State → Prop} {A : Nat → Prop} {dC : Nat → ClassId} {dI : Nat → Nat → Nat} {cI cL cB : ClassId} {K : Nat} (C0 : Sx p R s m args c cX3_offerCorners 3 RX3 A dC dI cI cL cB 2 63) (h_t h_t_first h_t_second h_t_third h_t_place h_t_near h_t_first_chain h_t_first_x h_t_first_y h_t_first_sorted h_t_second_chain h_t_second_x h_t_second_y h_t_second_sorted h_t_third_chain h_t_third_x h_t_third_y h_t_third_sorted : Nat) (t_gapSquare : Int64) (t_gapLower : Int64) (t_gapX : Int64) (t_gapY : Int64) (t_threefold : Int32) (t_first_size : Int32) (t_first_x : Nat → Int32) (t_first_y : Nat → Int32) (t_second_size : Int32) (t_second_x : Nat → Int32) (t_second_y : Nat → Int32) (t_third_size : Int32) (t_third_x : Nat → Int32) (t_third_y : Nat → Int32) : ∀ (n : Nat) (l2 : Int32) (t_leastX : Int64) (t_leastY : Int64) (t_leastLower : Int64) (x_t_leastX : Int64) (x_t_leastY : Int64) (x_t_leastLower : Int64) (H : Heap) (locs : List Loc) (ls : Array Slot), va_P (dC, dI) vwCl [(h_t, .inr (3, [.ref h_t_first, .ref h_t_second, .ref h_t_third, .ref h_t_place, .long t_gapSquare, .long t_gapLower, .long t_gapX, .long t_gapY, .ref h_t_near, .int t_threefold, .long t_leastX, .long t_leastY, .long t_leastLower])), (h_t_first, .inr (2, [.ref h_t_first_chain, .ref h_t_first_x, .ref h_t_first_y, .ref h_t_first_sorted, .int t_first_size])), (h_t_first_x, .inl (cI, 48, .inl t_first_x)), (h_t_first_y, .inl (cI, 48, .inl t_first_y)), (h_t_second, .inr (2, [.ref h_t_second_chain, .ref h_t_second_x, .ref h_t_second_y, .ref h_t_second_sorted, .int t_second_size])), (h_t_second_x, .inl (cI, 48, .inl t_second_x)), (h_t_second_y, .inl (cI, 48, .inl t_second_y)), (h_t_third, .inr (2, [.ref h_t_third_chain, .ref h_t_third_x, .ref h_t_third_y, .ref h_t_third_sorted, .int t_third_size])), (h_t_third_x, .inl (cI, 48, .inl t_third_x)), (h_t_third_y, .inl (cI, 48, .inl t_third_y))] H → va_D A [(h_t, .inr (3, [.ref h_t_first, .ref h_t_second, .ref h_t_third, .ref h_t_place, .long t_gapSquare, .long t_gapLower, .long t_gapX, .long t_gapY, .ref h_t_near, .int t_threefold, .long t_leastX, .long t_leastY, .long t_leastLower])), (h_t_first, .inr (2, [.ref h_t_first_chain, .ref h_t_first_x, .ref h_t_first_y, .ref h_t_first_sorted, .int t_first_size])), (h_t_first_x, .inl (cI, 48, .inl t_first_x)), (h_t_first_y, .inl (cI, 48, .inl t_first_y)), (h_t_second, .inr (2, [.ref h_t_second_chain, .ref h_t_second_x, .ref h_t_second_y, .ref h_t_second_sorted, .int t_second_size])), (h_t_second_x, .inl (cI, 48, .inl t_second_x)), (h_t_second_y, .inl (cI, 48, .inl t_second_y)), (h_t_third, .inr (2, [.ref h_t_third_chain, .ref h_t_third_x, .ref h_t_third_y, .ref h_t_third_sorted, .int t_third_size])), (h_t_third_x, .inl (cI, 48, .inl t_third_x)), (h_t_third_y, .inl (cI, 48, .inl t_third_y))] → va_S A s.heap H locs → lv_has ls 3 [(0, .ref h_t), (1, .ref h_t_third), (2, .int l2)] → fX3_offerCorners_p1atthird_L2 K t_threefold t_first_size t_first_x t_first_y t_second_size t_second_x t_second_y t_third_size t_third_x t_third_y n l2 t_leastX t_leastY t_leastLower = some (x_t_leastX, x_t_leastY, x_t_leastLower) → (∀ (H : Heap) (locs : List Loc) (ls : Array Slot), va_P (dC, dI) vwCl [(h_t, .inr (3, [.ref h_t_first, .ref h_t_second, .ref h_t_third, .ref h_t_place, .long t_gapSquare, .long t_gapLower, .long t_gapX, .long t_gapY, .ref h_t_near, .int t_threefold, .long x_t_leastX, .long x_t_leastY, .long x_t_leastLower])), (h_t_first, .inr (2, [.ref h_t_first_chain, .ref h_t_first_x, .ref h_t_first_y, .ref h_t_first_sorted, .int t_first_size])), (h_t_first_x, .inl (cI, 48, .inl t_first_x)), (h_t_first_y, .inl (cI, 48, .inl t_first_y)), (h_t_second, .inr (2, [.ref h_t_second_chain, .ref h_t_second_x, .ref h_t_second_y, .ref h_t_second_sorted, .int t_second_size])), (h_t_second_x, .inl (cI, 48, .inl t_second_x)), (h_t_second_y, .inl (cI, 48, .inl t_second_y)), (h_t_third, .inr (2, [.ref h_t_third_chain, .ref h_t_third_x, .ref h_t_third_y, .ref h_t_third_sorted, .int t_third_size])), (h_t_third_x, .inl (cI, 48, .inl t_third_x)), (h_t_third_y, .inl (cI, 48, .inl t_third_y))] H → va_D A [(h_t, .inr (3, [.ref h_t_first, .ref h_t_second, .ref h_t_third, .ref h_t_place, .long t_gapSquare, .long t_gapLower, .long t_gapX, .long t_gapY, .ref h_t_near, .int t_threefold, .long x_t_leastX, .long x_t_leastY, .long x_t_leastLower])), (h_t_first, .inr (2, [.ref h_t_first_chain, .ref h_t_first_x, .ref h_t_first_y, .ref h_t_first_sorted, .int t_first_size])), (h_t_first_x, .inl (cI, 48, .inl t_first_x)), (h_t_first_y, .inl (cI, 48, .inl t_first_y)), (h_t_second, .inr (2, [.ref h_t_second_chain, .ref h_t_second_x, .ref h_t_second_y, .ref h_t_second_sorted, .int t_second_size])), (h_t_second_x, .inl (cI, 48, .inl t_second_x)), (h_t_second_y, .inl (cI, 48, .inl t_second_y)), (h_t_third, .inr (2, [.ref h_t_third_chain, .ref h_t_third_x, .ref h_t_third_y, .ref h_t_third_sorted, .int t_third_size])), (h_t_third_x, .inl (cI, 48, .inl t_third_x)), (h_t_third_y, .inl (cI, 48, .inl t_third_y))] → va_S A s.heap H locs → lv_has ls 3 [] → W p l e R s m args below meth c H locs 0 0 Q (F0 m 35 ls [])) → W p l e R s m args below meth c H locs 0 0 Q (F0 m 2 ls []) := by
  obtain ⟨hx, hb, hml, hown, hts, hK, hT, hA, hF, hLo⟩ := id C0
  intro n
  induction n with
  | zero =>
    intro l2 t_leastX t_leastY t_leastLower x_t_leastX x_t_leastY x_t_leastLower H locs ls hP hD hS hl hf
    rw [fX3_offerCorners_p1atthird_L2] at hf
    cases hf
  | succ n ih =>
    intro l2 t_leastX t_leastY t_leastLower x_t_leastX x_t_leastY x_t_leastLower H locs ls hP hD hS hl hf hk
    rw [fX3_offerCorners_p1atthird_L2] at hf
    refine lv_iload_n hx hb dX3_offerCorners_2 rfl (lv_at hl 2 rfl) ?_
    refine lv_aload_n hx hb dX3_offerCorners_3 rfl (lv_at hl 1 rfl) ?_
    refine va_get (D := (dC, dI)) (ci := 2) (v := .int t_third_size) (C := RX2) (T := TX2) (N := 5) hx hb hts in_X2 hown hK hP 7 rfl rfl 4 (Nat.le_of_ble_eq_true rfl) (hts _ qf_X3_66) (fun _ h9 => h9) rfl dX3_offerCorners_4 ?_
    refine lv_icmp_ge (tgt := 35) hx hb dX3_offerCorners_7 (by decide) (fun hc => ?_) (fun hc => ?_)
    · replace hf := it_t (hc) hf
      obtain ⟨rfl, rfl, rfl⟩ := o3 hf
      exact hk H locs ls hP hD hS (lv_sub hl [] rfl)
    · replace hf := it_f (hc) hf
      refine lv_aload_n hx hb dX3_offerCorners_10 rfl (lv_at hl 0 rfl) ?_
      refine lv_aload_n hx hb dX3_offerCorners_11 rfl (lv_at hl 1 rfl) ?_
      refine va_get (D := (dC, dI)) (ci := 2) (v := .ref h_t_third_x) (C := RX2) (T := TX2) (N := 5) hx hb hts in_X2 hown hK hP 7 rfl rfl 1 (Nat.le_of_ble_eq_true rfl) (hts _ qf_X3_70) (fun _ h9 => h9) rfl dX3_offerCorners_12 ?_
      refine lv_iload_n hx hb dX3_offerCorners_15 rfl (lv_at hl 2 rfl) ?_
      obtain ⟨hg_1, hf⟩ := gd_some hf
      refine va_iald hx hb hK hP 8 0 rfl rfl (inb_in hg_1) dX3_offerCorners_16 ?_
      refine lv_i2l hx hb dX3_offerCorners_17 rfl ?_
      refine lv_aload_n hx hb dX3_offerCorners_18 rfl (lv_at hl 1 rfl) ?_
      refine va_get (D := (dC, dI)) (ci := 2) (v := .ref h_t_third_y) (C := RX2) (T := TX2) (N := 5) hx hb hts in_X2 hown hK hP 7 rfl rfl 2 (Nat.le_of_ble_eq_true rfl) (hts _ qf_X3_74) (fun _ h9 => h9) rfl dX3_offerCorners_19 ?_
      refine lv_iload_n hx hb dX3_offerCorners_22 rfl (lv_at hl 2 rfl) ?_
      obtain ⟨hg_2, hf⟩ := gd_some hf
      refine va_iald hx hb hK hP 9 0 rfl rfl (inb_in hg_2) dX3_offerCorners_23 ?_
      refine lv_i2l hx hb dX3_offerCorners_24 rfl ?_
      refine lv_lconst (v := (1 : Int64)) hx hb dX3_offerCorners_25 (by decide) ?_
      obtain ⟨t_leastX_3, t_leastY_4, t_leastLower_5, hq_6, hf⟩ := b3_some hf
      refine xcv (wr := []) (w2 := [(h_t, .inr (3, [.ref h_t_first, .ref h_t_second, .ref h_t_third, .ref h_t_place, .long t_gapSquare, .long t_gapLower, .long t_gapX, .long t_gapY, .ref h_t_near, .int t_threefold, .long t_leastX_3, .long t_leastY_4, .long t_leastLower_5])), (h_t_first, .inr (2, [.ref h_t_first_chain, .ref h_t_first_x, .ref h_t_first_y, .ref h_t_first_sorted, .int t_first_size])), (h_t_first_x, .inl (cI, 48, .inl t_first_x)), (h_t_first_y, .inl (cI, 48, .inl t_first_y)), (h_t_second, .inr (2, [.ref h_t_second_chain, .ref h_t_second_x, .ref h_t_second_y, .ref h_t_second_sorted, .int t_second_size])), (h_t_second_x, .inl (cI, 48, .inl t_second_x)), (h_t_second_y, .inl (cI, 48, .inl t_second_y)), (h_t_third, .inr (2, [.ref h_t_third_chain, .ref h_t_third_x, .ref h_t_third_y, .ref h_t_third_sorted, .int t_third_size])), (h_t_third_x, .inl (cI, 48, .inl t_third_x)), (h_t_third_y, .inl (cI, 48, .inl t_third_y))]) (va_runV (As := [.long ((t_third_x l2.toNatClampNeg).toInt64), .long ((t_third_y l2.toNatClampNeg).toInt64), .long (1 : Int64)]) (rest := []) ⟨hx, hb, hml, hown, hts⟩ (mtX3_offer l dC dI cI cL cB K h_t h_t_first h_t_second h_t_third h_t_place h_t_near h_t_first_chain h_t_first_x h_t_first_y h_t_first_sorted h_t_second_chain h_t_second_x h_t_second_y h_t_second_sorted h_t_third_chain h_t_third_x h_t_third_y h_t_third_sorted H.size t_gapSquare t_gapLower t_gapX t_gapY t_threefold t_leastX t_leastY t_leastLower t_first_size t_first_x t_first_y t_second_size t_second_x t_second_y t_third_size t_third_x t_third_y ((t_third_x l2.toNatClampNeg).toInt64) ((t_third_y l2.toNatClampNeg).toInt64) (1 : Int64) t_leastX_3 t_leastY_4 t_leastLower_5 hq_6) (cwV 3 hts gv_X3_77 rfl rfl rfl hdV_X3_offer ⟨Nat.le_trans (Nat.le_of_ble_eq_true rfl) hF, Nat.le_trans (Nat.le_of_ble_eq_true rfl) hLo⟩) (cPreV hK hP hD hT [0, 1, 2, 3, 4, 5, 6, 7, 8, 9] rfl rfl (ci := 3) (q0 := 0) rfl rfl) rfl rfl hl.1 rfl (lv_room (Nat.le_of_ble_eq_true rfl)) dX3_offerCorners_26 ⟨Nat.zero_le _, Nat.zero_le _⟩) hP hD hS hA [0, 1, 2, 3, 4, 5, 6, 7, 8, 9] [] [0, 1, 2, 3, 4, 5, 6, 7, 8, 9] rfl rfl rfl rfl rfl rfl (fun H locs hP hD hS => ?_)
      obtain ⟨l2_7, el2_7⟩ : ∃ y : Int32, y = l2 + (1 : Int32) := ⟨_, rfl⟩
      replace hf := xl_at hf el2_7
      refine lv_iinc (v := l2_7) (lv' := [(2, .int l2_7), (0, .ref h_t), (1, .ref h_t_third)]) hx hb dX3_offerCorners_29 hl (k := 2) rfl (by rw [el2_7]; rfl) (Nat.le_of_ble_eq_true rfl) rfl (fun ls hl => ?_)
      refine lv_goto (tgt := 2) hx hb dX3_offerCorners_32 (by decide) ?_
      exact ih l2_7 t_leastX_3 t_leastY_4 t_leastLower_5 _ _ _ H locs ls hP hD hS (lv_sub hl [1, 2, 0] rfl) hf hk
set_option maxRecDepth 100000 in
set_option maxHeartbeats 4000000 in
theorem mtX3_offerCorners_p1atthird (l : Launch) (dC : Nat → ClassId) (dI : Nat → Nat → Nat) (cI cL cB : ClassId) (K : Nat) (h_t h_t_first h_t_second h_t_third h_t_place h_t_near h_t_first_chain h_t_first_x h_t_first_y h_t_first_sorted h_t_second_chain h_t_second_x h_t_second_y h_t_second_sorted h_t_third_chain h_t_third_x h_t_third_y h_t_third_sorted : Nat) (sz : Nat) (t_gapSquare : Int64) (t_gapLower : Int64) (t_gapX : Int64) (t_gapY : Int64) (t_threefold : Int32) (t_leastX : Int64) (t_leastY : Int64) (t_leastLower : Int64) (t_first_size : Int32) (t_first_x : Nat → Int32) (t_first_y : Nat → Int32) (t_second_size : Int32) (t_second_x : Nat → Int32) (t_second_y : Nat → Int32) (t_third_size : Int32) (t_third_x : Nat → Int32) (t_third_y : Nat → Int32) (o_t_leastX : Int64) (o_t_leastY : Int64) (o_t_leastLower : Int64) (hf : fX3_offerCorners_p1atthird K t_threefold t_leastX t_leastY t_leastLower t_first_size t_first_x t_first_y t_second_size t_second_x t_second_y t_third_size t_third_x t_third_y = some (o_t_leastX, o_t_leastY, o_t_leastLower)) : Met l yX3_offerCorners [Cond.code yX3_offerCorners cX3_offerCorners 3 none] ({ frames := 2, cells := 0, slots := 0, locals := 63 }) (va_Pc [.ref h_t, .ref h_t_third] (cPre dC dI cI cL cB sz [(h_t, .inr (3, [.ref h_t_first, .ref h_t_second, .ref h_t_third, .ref h_t_place, .long t_gapSquare, .long t_gapLower, .long t_gapX, .long t_gapY, .ref h_t_near, .int t_threefold, .long t_leastX, .long t_leastY, .long t_leastLower])), (h_t_first, .inr (2, [.ref h_t_first_chain, .ref h_t_first_x, .ref h_t_first_y, .ref h_t_first_sorted, .int t_first_size])), (h_t_first_x, .inl (cI, 48, .inl t_first_x)), (h_t_first_y, .inl (cI, 48, .inl t_first_y)), (h_t_second, .inr (2, [.ref h_t_second_chain, .ref h_t_second_x, .ref h_t_second_y, .ref h_t_second_sorted, .int t_second_size])), (h_t_second_x, .inl (cI, 48, .inl t_second_x)), (h_t_second_y, .inl (cI, 48, .inl t_second_y)), (h_t_third, .inr (2, [.ref h_t_third_chain, .ref h_t_third_x, .ref h_t_third_y, .ref h_t_third_sorted, .int t_third_size])), (h_t_third_x, .inl (cI, 48, .inl t_third_x)), (h_t_third_y, .inl (cI, 48, .inl t_third_y))])) (cQv dC dI (va_A [(h_t, .inr (3, [.ref h_t_first, .ref h_t_second, .ref h_t_third, .ref h_t_place, .long t_gapSquare, .long t_gapLower, .long t_gapX, .long t_gapY, .ref h_t_near, .int t_threefold, .long t_leastX, .long t_leastY, .long t_leastLower])), (h_t_first, .inr (2, [.ref h_t_first_chain, .ref h_t_first_x, .ref h_t_first_y, .ref h_t_first_sorted, .int t_first_size])), (h_t_first_x, .inl (cI, 48, .inl t_first_x)), (h_t_first_y, .inl (cI, 48, .inl t_first_y)), (h_t_second, .inr (2, [.ref h_t_second_chain, .ref h_t_second_x, .ref h_t_second_y, .ref h_t_second_sorted, .int t_second_size])), (h_t_second_x, .inl (cI, 48, .inl t_second_x)), (h_t_second_y, .inl (cI, 48, .inl t_second_y)), (h_t_third, .inr (2, [.ref h_t_third_chain, .ref h_t_third_x, .ref h_t_third_y, .ref h_t_third_sorted, .int t_third_size])), (h_t_third_x, .inl (cI, 48, .inl t_third_x)), (h_t_third_y, .inl (cI, 48, .inl t_third_y))] sz) [(h_t, .inr (3, [.ref h_t_first, .ref h_t_second, .ref h_t_third, .ref h_t_place, .long t_gapSquare, .long t_gapLower, .long t_gapX, .long t_gapY, .ref h_t_near, .int t_threefold, .long o_t_leastX, .long o_t_leastY, .long o_t_leastLower])), (h_t_first, .inr (2, [.ref h_t_first_chain, .ref h_t_first_x, .ref h_t_first_y, .ref h_t_first_sorted, .int t_first_size])), (h_t_first_x, .inl (cI, 48, .inl t_first_x)), (h_t_first_y, .inl (cI, 48, .inl t_first_y)), (h_t_second, .inr (2, [.ref h_t_second_chain, .ref h_t_second_x, .ref h_t_second_y, .ref h_t_second_sorted, .int t_second_size])), (h_t_second_x, .inl (cI, 48, .inl t_second_x)), (h_t_second_y, .inl (cI, 48, .inl t_second_y)), (h_t_third, .inr (2, [.ref h_t_third_chain, .ref h_t_third_x, .ref h_t_third_y, .ref h_t_third_sorted, .int t_third_size])), (h_t_third_x, .inl (cI, 48, .inl t_third_x)), (h_t_third_y, .inl (cI, 48, .inl t_third_y))]) 0 0 (va_A [(h_t, .inr (3, [.ref h_t_first, .ref h_t_second, .ref h_t_third, .ref h_t_place, .long t_gapSquare, .long t_gapLower, .long t_gapX, .long t_gapY, .ref h_t_near, .int t_threefold, .long t_leastX, .long t_leastY, .long t_leastLower])), (h_t_first, .inr (2, [.ref h_t_first_chain, .ref h_t_first_x, .ref h_t_first_y, .ref h_t_first_sorted, .int t_first_size])), (h_t_first_x, .inl (cI, 48, .inl t_first_x)), (h_t_first_y, .inl (cI, 48, .inl t_first_y)), (h_t_second, .inr (2, [.ref h_t_second_chain, .ref h_t_second_x, .ref h_t_second_y, .ref h_t_second_sorted, .int t_second_size])), (h_t_second_x, .inl (cI, 48, .inl t_second_x)), (h_t_second_y, .inl (cI, 48, .inl t_second_y)), (h_t_third, .inr (2, [.ref h_t_third_chain, .ref h_t_third_x, .ref h_t_third_y, .ref h_t_third_sorted, .int t_third_size])), (h_t_third_x, .inl (cI, 48, .inl t_third_x)), (h_t_third_y, .inl (cI, 48, .inl t_third_y))] sz) := by
  refine Met.ofW (cc := cX3_offerCorners) (maxL := 3) (ret := none) (by decide) rfl ?_
  intro p e s m args below meth c s₁ B hml hv
  obtain ⟨rfl, hsz, hP, hK, hD0, hT⟩ := hv
  have hx := B.exec
  have hb := B.bytes
  have hr := B.returns
  have hown : s.vm.findClass RX3 = some m.cls := findClass_of_methodNamed B.named
  have hlocks := B.notSynchronized
  have hts := TB.use hT ([.ref h_t, .ref h_t_third] : List Value).toArray
  subst hsz
  have hD := hD0.self (sz := s.heap.size)
  generalize hAe : va_A [(h_t, .inr (3, [.ref h_t_first, .ref h_t_second, .ref h_t_third, .ref h_t_place, .long t_gapSquare, .long t_gapLower, .long t_gapX, .long t_gapY, .ref h_t_near, .int t_threefold, .long t_leastX, .long t_leastY, .long t_leastLower])), (h_t_first, .inr (2, [.ref h_t_first_chain, .ref h_t_first_x, .ref h_t_first_y, .ref h_t_first_sorted, .int t_first_size])), (h_t_first_x, .inl (cI, 48, .inl t_first_x)), (h_t_first_y, .inl (cI, 48, .inl t_first_y)), (h_t_second, .inr (2, [.ref h_t_second_chain, .ref h_t_second_x, .ref h_t_second_y, .ref h_t_second_sorted, .int t_second_size])), (h_t_second_x, .inl (cI, 48, .inl t_second_x)), (h_t_second_y, .inl (cI, 48, .inl t_second_y)), (h_t_third, .inr (2, [.ref h_t_third_chain, .ref h_t_third_x, .ref h_t_third_y, .ref h_t_third_sorted, .int t_third_size])), (h_t_third_x, .inl (cI, 48, .inl t_third_x)), (h_t_third_y, .inl (cI, 48, .inl t_third_y))] s.heap.size = A at hD ⊢
  have hA : ∀ q : Nat, s.heap.size ≤ q → A q := fun q h => by rw [← hAe]; exact Or.inr h
  clear hAe hD0
  have hl := lv_entry ([.ref h_t, .ref h_t_third]) (n := 3) (Nat.le_of_ble_eq_true rfl)
  rw [lg_entry_eq]
  generalize (lg_sl ([.ref h_t, .ref h_t_third]) ++ List.replicate (3 - (lg_sl ([.ref h_t, .ref h_t_third])).length) Slot.unset).toArray = ls at hl ⊢
  have hl : lv_has ls 3 [(0, .ref h_t), (1, .ref h_t_third)] := hl
  have hF : 2 ≤ (headSpec [Cond.code yX3_offerCorners cX3_offerCorners 3 none] ({ frames := 2, cells := 0, slots := 0, locals := 63 })).room.frames := Nat.le_refl _
  have hLo : 63 ≤ (headSpec [Cond.code yX3_offerCorners cX3_offerCorners 3 none] ({ frames := 2, cells := 0, slots := 0, locals := 63 })).room.locals := Nat.le_refl _
  have C0 : Sx p (headSpec [Cond.code yX3_offerCorners cX3_offerCorners 3 none] ({ frames := 2, cells := 0, slots := 0, locals := 63 })).room s m ([.ref h_t, .ref h_t_third] : List Value).toArray c cX3_offerCorners 3 RX3 A dC dI cI cL cB 2 63 := ⟨hx, hb, hml, hown, hts, hK, hT, hA, hF, hLo⟩
  refine startH (A := A) hP (fun H locs hP hS => ?_)
  rw [fX3_offerCorners_p1atthird] at hf
  refine lv_iconst (v := (0 : Int32)) hx hb dX3_offerCorners_0 (by decide) ?_
  refine lv_istore_n (lv' := [(2, .int (0 : Int32)), (0, .ref h_t), (1, .ref h_t_third)]) hx hb dX3_offerCorners_1 rfl hl (Nat.le_of_ble_eq_true rfl) rfl (fun ls hl => ?_)
  obtain ⟨t_leastX_9, t_leastY_10, t_leastLower_11, hq_8, hf⟩ := b3_some hf
  refine wX3_offerCorners_p1atthird_L2 C0 h_t h_t_first h_t_second h_t_third h_t_place h_t_near h_t_first_chain h_t_first_x h_t_first_y h_t_first_sorted h_t_second_chain h_t_second_x h_t_second_y h_t_second_sorted h_t_third_chain h_t_third_x h_t_third_y h_t_third_sorted t_gapSquare t_gapLower t_gapX t_gapY t_threefold t_first_size t_first_x t_first_y t_second_size t_second_x t_second_y t_third_size t_third_x t_third_y K (0 : Int32) t_leastX t_leastY t_leastLower t_leastX_9 t_leastY_10 t_leastLower_11 H locs ls hP hD hS (lv_sub hl [1, 2, 0] rfl) hq_8 ?_
  intro H locs ls hP hD hS hl
  obtain ⟨rfl, rfl, rfl⟩ := o3 hf
  exact W.vret hx hb hr (fun t ht hW => ⟨⟨(), rfl, trivial, by rw [ht]; exact hP, hD⟩, hS.F ht⟩) hS.2.2 dX3_offerCorners_35
set_option maxRecDepth 100000 in
set_option maxHeartbeats 4000000 in
theorem wX3_offerCrossings_p1atfirst_p2atthird_L13 {p : Program} {l : Launch} {e : Env} {R : Room} {s : State} {m : MethodId} {args : Array Value} {below : List Frame} {meth : Method} {c : Code} {Q : State → Prop} {A : Nat → Prop} {dC : Nat → ClassId} {dI : Nat → Nat → Nat} {cI cL cB : ClassId} {K : Nat} (C0 : Sx p R s m args c cX3_offerCrossings 17 RX3 A dC dI cI cL cB 2 63) (h_t h_t_first h_t_second h_t_third h_t_place h_t_near h_t_first_chain h_t_first_x h_t_first_y h_t_first_sorted h_t_second_chain h_t_second_x h_t_second_y h_t_second_sorted h_t_third_chain h_t_third_x h_t_third_y h_t_third_sorted : Nat) (t_gapSquare : Int64) (t_gapLower : Int64) (t_gapX : Int64) (t_gapY : Int64) (t_threefold : Int32) (t_first_size : Int32) (t_first_x : Nat → Int32) (t_first_y : Nat → Int32) (t_second_size : Int32) (t_second_x : Nat → Int32) (t_second_y : Nat → Int32) (t_third_size : Int32) (t_third_x : Nat → Int32) (t_third_y : Nat → Int32) (l3 : Int32) : ∀ (n : Nat) (l4 : Int32) (t_leastX : Int64) (t_leastY : Int64) (t_leastLower : Int64) (x_t_leastX : Int64) (x_t_leastY : Int64) (x_t_leastLower : Int64) (H : Heap) (locs : List Loc) (ls : Array Slot), va_P (dC, dI) vwCl [(h_t, .inr (3, [.ref h_t_first, .ref h_t_second, .ref h_t_third, .ref h_t_place, .long t_gapSquare, .long t_gapLower, .long t_gapX, .long t_gapY, .ref h_t_near, .int t_threefold, .long t_leastX, .long t_leastY, .long t_leastLower])), (h_t_first, .inr (2, [.ref h_t_first_chain, .ref h_t_first_x, .ref h_t_first_y, .ref h_t_first_sorted, .int t_first_size])), (h_t_first_x, .inl (cI, 48, .inl t_first_x)), (h_t_first_y, .inl (cI, 48, .inl t_first_y)), (h_t_second, .inr (2, [.ref h_t_second_chain, .ref h_t_second_x, .ref h_t_second_y, .ref h_t_second_sorted, .int t_second_size])), (h_t_second_x, .inl (cI, 48, .inl t_second_x)), (h_t_second_y, .inl (cI, 48, .inl t_second_y)), (h_t_third, .inr (2, [.ref h_t_third_chain, .ref h_t_third_x, .ref h_t_third_y, .ref h_t_third_sorted, .int t_third_size])), (h_t_third_x, .inl (cI, 48, .inl t_third_x)), (h_t_third_y, .inl (cI, 48, .inl t_third_y))] H → va_D A [(h_t, .inr (3, [.ref h_t_first, .ref h_t_second, .ref h_t_third, .ref h_t_place, .long t_gapSquare, .long t_gapLower, .long t_gapX, .long t_gapY, .ref h_t_near, .int t_threefold, .long t_leastX, .long t_leastY, .long t_leastLower])), (h_t_first, .inr (2, [.ref h_t_first_chain, .ref h_t_first_x, .ref h_t_first_y, .ref h_t_first_sorted, .int t_first_size])), (h_t_first_x, .inl (cI, 48, .inl t_first_x)), (h_t_first_y, .inl (cI, 48, .inl t_first_y)), (h_t_second, .inr (2, [.ref h_t_second_chain, .ref h_t_second_x, .ref h_t_second_y, .ref h_t_second_sorted, .int t_second_size])), (h_t_second_x, .inl (cI, 48, .inl t_second_x)), (h_t_second_y, .inl (cI, 48, .inl t_second_y)), (h_t_third, .inr (2, [.ref h_t_third_chain, .ref h_t_third_x, .ref h_t_third_y, .ref h_t_third_sorted, .int t_third_size])), (h_t_third_x, .inl (cI, 48, .inl t_third_x)), (h_t_third_y, .inl (cI, 48, .inl t_third_y))] → va_S A s.heap H locs → lv_has ls 17 [(0, .ref h_t), (1, .ref h_t_first), (2, .ref h_t_third), (3, .int l3), (4, .int l4)] → fX3_offerCrossings_p1atfirst_p2atthird_L13 K l3 t_threefold t_first_size t_first_x t_first_y t_second_size t_second_x t_second_y t_third_size t_third_x t_third_y n l4 t_leastX t_leastY t_leastLower = some (x_t_leastX, x_t_leastY, x_t_leastLower) → (∀ (H : Heap) (locs : List Loc) (ls : Array Slot), va_P (dC, dI) vwCl [(h_t, .inr (3, [.ref h_t_first, .ref h_t_second, .ref h_t_third, .ref h_t_place, .long t_gapSquare, .long t_gapLower, .long t_gapX, .long t_gapY, .ref h_t_near, .int t_threefold, .long x_t_leastX, .long x_t_leastY, .long x_t_leastLower])), (h_t_first, .inr (2, [.ref h_t_first_chain, .ref h_t_first_x, .ref h_t_first_y, .ref h_t_first_sorted, .int t_first_size])), (h_t_first_x, .inl (cI, 48, .inl t_first_x)), (h_t_first_y, .inl (cI, 48, .inl t_first_y)), (h_t_second, .inr (2, [.ref h_t_second_chain, .ref h_t_second_x, .ref h_t_second_y, .ref h_t_second_sorted, .int t_second_size])), (h_t_second_x, .inl (cI, 48, .inl t_second_x)), (h_t_second_y, .inl (cI, 48, .inl t_second_y)), (h_t_third, .inr (2, [.ref h_t_third_chain, .ref h_t_third_x, .ref h_t_third_y, .ref h_t_third_sorted, .int t_third_size])), (h_t_third_x, .inl (cI, 48, .inl t_third_x)), (h_t_third_y, .inl (cI, 48, .inl t_third_y))] H → va_D A [(h_t, .inr (3, [.ref h_t_first, .ref h_t_second, .ref h_t_third, .ref h_t_place, .long t_gapSquare, .long t_gapLower, .long t_gapX, .long t_gapY, .ref h_t_near, .int t_threefold, .long x_t_leastX, .long x_t_leastY, .long x_t_leastLower])), (h_t_first, .inr (2, [.ref h_t_first_chain, .ref h_t_first_x, .ref h_t_first_y, .ref h_t_first_sorted, .int t_first_size])), (h_t_first_x, .inl (cI, 48, .inl t_first_x)), (h_t_first_y, .inl (cI, 48, .inl t_first_y)), (h_t_second, .inr (2, [.ref h_t_second_chain, .ref h_t_second_x, .ref h_t_second_y, .ref h_t_second_sorted, .int t_second_size])), (h_t_second_x, .inl (cI, 48, .inl t_second_x)), (h_t_second_y, .inl (cI, 48, .inl t_second_y)), (h_t_third, .inr (2, [.ref h_t_third_chain, .ref h_t_third_x, .ref h_t_third_y, .ref h_t_third_sorted, .int t_third_size])), (h_t_third_x, .inl (cI, 48, .inl t_third_x)), (h_t_third_y, .inl (cI, 48, .inl t_third_y))] → va_S A s.heap H locs → lv_has ls 17 [(0, .ref h_t), (1, .ref h_t_first), (2, .ref h_t_third), (3, .int l3)] → W p l e R s m args below meth c H locs 0 0 Q (F0 m 233 ls [])) → W p l e R s m args below meth c H locs 0 0 Q (F0 m 13 ls []) := by
  obtain ⟨hx, hb, hml, hown, hts, hK, hT, hA, hF, hLo⟩ := id C0
  intro n
  induction n with
  | zero =>
    intro l4 t_leastX t_leastY t_leastLower x_t_leastX x_t_leastY x_t_leastLower H locs ls hP hD hS hl hf
    rw [fX3_offerCrossings_p1atfirst_p2atthird_L13] at hf
    cases hf
  | succ n ih =>
    intro l4 t_leastX t_leastY t_leastLower x_t_leastX x_t_leastY x_t_leastLower H locs ls hP hD hS hl hf hk
    rw [fX3_offerCrossings_p1atfirst_p2atthird_L13] at hf
    refine lv_iload hx hb dX3_offerCrossings_13 (lv_at hl 4 rfl) ?_
    refine lv_aload_n hx hb dX3_offerCrossings_15 rfl (lv_at hl 2 rfl) ?_
    refine va_get (D := (dC, dI)) (ci := 2) (v := .int t_third_size) (C := RX2) (T := TX2) (N := 5) hx hb hts in_X2 hown hK hP 7 rfl rfl 4 (Nat.le_of_ble_eq_true rfl) (hts _ qf_X3_66) (fun _ h9 => h9) rfl dX3_offerCrossings_16 ?_
    refine lv_icmp_ge (tgt := 233) hx hb dX3_offerCrossings_19 (by decide) (fun hc => ?_) (fun hc => ?_)
    · replace hf := it_t (hc) hf
      obtain ⟨rfl, rfl, rfl⟩ := o3 hf
      exact hk H locs ls hP hD hS (lv_sub hl [0, 1, 2, 3] rfl)
    · replace hf := it_f (hc) hf
      refine lv_aload_n hx hb dX3_offerCrossings_22 rfl (lv_at hl 1 rfl) ?_
      refine va_get (D := (dC, dI)) (ci := 2) (v := .ref h_t_first_x) (C := RX2) (T := TX2) (N := 5) hx hb hts in_X2 hown hK hP 1 rfl rfl 1 (Nat.le_of_ble_eq_true rfl) (hts _ qf_X3_70) (fun _ h9 => h9) rfl dX3_offerCrossings_23 ?_
      refine lv_iload_n hx hb dX3_offerCrossings_26 rfl (lv_at hl 3 rfl) ?_
      refine lv_iconst (v := (1 : Int32)) hx hb dX3_offerCrossings_27 (by decide) ?_
      refine lv_iadd hx hb dX3_offerCrossings_28 ?_
      obtain ⟨hg_1, hf⟩ := gd_some hf
      refine va_iald hx hb hK hP 2 0 rfl rfl (inb_in hg_1) dX3_offerCrossings_29 ?_
      refine lv_aload_n hx hb dX3_offerCrossings_30 rfl (lv_at hl 1 rfl) ?_
      refine va_get (D := (dC, dI)) (ci := 2) (v := .ref h_t_first_x) (C := RX2) (T := TX2) (N := 5) hx hb hts in_X2 hown hK hP 1 rfl rfl 1 (Nat.le_of_ble_eq_true rfl) (hts _ qf_X3_70) (fun _ h9 => h9) rfl dX3_offerCrossings_31 ?_
      refine lv_iload_n hx hb dX3_offerCrossings_34 rfl (lv_at hl 3 rfl) ?_
      obtain ⟨hg_2, hf⟩ := gd_some hf
      refine va_iald hx hb hK hP 2 0 rfl rfl (inb_in hg_2) dX3_offerCrossings_35 ?_
      refine lv_isub hx hb dX3_offerCrossings_36 ?_
      refine lv_i2l hx hb dX3_offerCrossings_37 rfl ?_
      refine lv_topl (fun l5_3 el5_3 => ?_)
      replace hf := xl_at hf el5_3
      refine lv_lstore (lv' := [(5, .long l5_3), (0, .ref h_t), (1, .ref h_t_first), (2, .ref h_t_third), (3, .int l3), (4, .int l4)]) hx hb dX3_offerCrossings_38 hl (Nat.le_of_ble_eq_true rfl) rfl (fun ls hl => ?_)
      refine lv_aload_n hx hb dX3_offerCrossings_40 rfl (lv_at hl 2 rfl) ?_
      refine va_get (D := (dC, dI)) (ci := 2) (v := .ref h_t_first_y) (C := RX2) (T := TX2) (N := 5) hx hb hts in_X2 hown hK hP 1 rfl rfl 2 (Nat.le_of_ble_eq_true rfl) (hts _ qf_X3_74) (fun _ h9 => h9) rfl dX3_offerCrossings_41 ?_
      refine lv_iload_n hx hb dX3_offerCrossings_44 rfl (lv_at hl 4 rfl) ?_
      refine lv_iconst (v := (1 : Int32)) hx hb dX3_offerCrossings_45 (by decide) ?_
      refine lv_iadd hx hb dX3_offerCrossings_46 ?_
      obtain ⟨hg_4, hf⟩ := gd_some hf
      refine va_iald hx hb hK hP 3 0 rfl rfl (inb_in hg_4) dX3_offerCrossings_47 ?_
      refine lv_aload_n hx hb dX3_offerCrossings_48 rfl (lv_at hl 2 rfl) ?_
      refine va_get (D := (dC, dI)) (ci := 2) (v := .ref h_t_first_y) (C := RX2) (T := TX2) (N := 5) hx hb hts in_X2 hown hK hP 1 rfl rfl 2 (Nat.le_of_ble_eq_true rfl) (hts _ qf_X3_74) (fun _ h9 => h9) rfl dX3_offerCrossings_49 ?_
      refine lv_iload_n hx hb dX3_offerCrossings_52 rfl (lv_at hl 4 rfl) ?_
      obtain ⟨hg_5, hf⟩ := gd_some hf
      refine va_iald hx hb hK hP 3 0 rfl rfl (inb_in hg_5) dX3_offerCrossings_53 ?_
      refine lv_isub hx hb dX3_offerCrossings_54 ?_
      refine lv_i2l hx hb dX3_offerCrossings_55 rfl ?_
      refine lv_topl (fun l7_6 el7_6 => ?_)
      replace hf := xl_at hf el7_6
      refine lv_lstore (lv' := [(7, .long l7_6), (5, .long l5_3), (0, .ref h_t), (1, .ref h_t_first), (2, .ref h_t_third), (3, .int l3), (4, .int l4)]) hx hb dX3_offerCrossings_56 hl (Nat.le_of_ble_eq_true rfl) rfl (fun ls hl => ?_)
      refine lv_aload_n hx hb dX3_offerCrossings_58 rfl (lv_at hl 4 rfl) ?_
      refine va_get (D := (dC, dI)) (ci := 2) (v := .ref h_t_third_x) (C := RX2) (T := TX2) (N := 5) hx hb hts in_X2 hown hK hP 7 rfl rfl 1 (Nat.le_of_ble_eq_true rfl) (hts _ qf_X3_70) (fun _ h9 => h9) rfl dX3_offerCrossings_59 ?_
      refine lv_iload hx hb dX3_offerCrossings_62 (lv_at hl 6 rfl) ?_
      refine lv_iconst (v := (1 : Int32)) hx hb dX3_offerCrossings_64 (by decide) ?_
      refine lv_iadd hx hb dX3_offerCrossings_65 ?_
      obtain ⟨hg_7, hf⟩ := gd_some hf
      refine va_iald hx hb hK hP 8 0 rfl rfl (inb_in hg_7) dX3_offerCrossings_66 ?_
      refine lv_aload_n hx hb dX3_offerCrossings_67 rfl (lv_at hl 4 rfl) ?_
      refine va_get (D := (dC, dI)) (ci := 2) (v := .ref h_t_third_x) (C := RX2) (T := TX2) (N := 5) hx hb hts in_X2 hown hK hP 7 rfl rfl 1 (Nat.le_of_ble_eq_true rfl) (hts _ qf_X3_70) (fun _ h9 => h9) rfl dX3_offerCrossings_68 ?_
      refine lv_iload hx hb dX3_offerCrossings_71 (lv_at hl 6 rfl) ?_
      obtain ⟨hg_8, hf⟩ := gd_some hf
      refine va_iald hx hb hK hP 8 0 rfl rfl (inb_in hg_8) dX3_offerCrossings_73 ?_
      refine lv_isub hx hb dX3_offerCrossings_74 ?_
      refine lv_i2l hx hb dX3_offerCrossings_75 rfl ?_
      refine lv_topl (fun l9_9 el9_9 => ?_)
      replace hf := xl_at hf el9_9
      refine lv_lstore (lv' := [(9, .long l9_9), (7, .long l7_6), (5, .long l5_3), (0, .ref h_t), (1, .ref h_t_first), (2, .ref h_t_third), (3, .int l3), (4, .int l4)]) hx hb dX3_offerCrossings_76 hl (Nat.le_of_ble_eq_true rfl) rfl (fun ls hl => ?_)
      refine lv_aload_n hx hb dX3_offerCrossings_78 rfl (lv_at hl 5 rfl) ?_
      refine va_get (D := (dC, dI)) (ci := 2) (v := .ref h_t_third_y) (C := RX2) (T := TX2) (N := 5) hx hb hts in_X2 hown hK hP 7 rfl rfl 2 (Nat.le_of_ble_eq_true rfl) (hts _ qf_X3_74) (fun _ h9 => h9) rfl dX3_offerCrossings_79 ?_
      refine lv_iload hx hb dX3_offerCrossings_82 (lv_at hl 7 rfl) ?_
      refine lv_iconst (v := (1 : Int32)) hx hb dX3_offerCrossings_84 (by decide) ?_
      refine lv_iadd hx hb dX3_offerCrossings_85 ?_
      obtain ⟨hg_10, hf⟩ := gd_some hf
      refine va_iald hx hb hK hP 9 0 rfl rfl (inb_in hg_10) dX3_offerCrossings_86 ?_
      refine lv_aload_n hx hb dX3_offerCrossings_87 rfl (lv_at hl 5 rfl) ?_
      refine va_get (D := (dC, dI)) (ci := 2) (v := .ref h_t_third_y) (C := RX2) (T := TX2) (N := 5) hx hb hts in_X2 hown hK hP 7 rfl rfl 2 (Nat.le_of_ble_eq_true rfl) (hts _ qf_X3_74) (fun _ h9 => h9) rfl dX3_offerCrossings_88 ?_
      refine lv_iload hx hb dX3_offerCrossings_91 (lv_at hl 7 rfl) ?_
      obtain ⟨hg_11, hf⟩ := gd_some hf
      refine va_iald hx hb hK hP 9 0 rfl rfl (inb_in hg_11) dX3_offerCrossings_93 ?_
      refine lv_isub hx hb dX3_offerCrossings_94 ?_
      refine lv_i2l hx hb dX3_offerCrossings_95 rfl ?_
      refine lv_topl (fun l11_12 el11_12 => ?_)
      replace hf := xl_at hf el11_12
      refine lv_lstore (lv' := [(11, .long l11_12), (9, .long l9_9), (7, .long l7_6), (5, .long l5_3), (0, .ref h_t), (1, .ref h_t_first), (2, .ref h_t_third), (3, .int l3), (4, .int l4)]) hx hb dX3_offerCrossings_96 hl (Nat.le_of_ble_eq_true rfl) rfl (fun ls hl => ?_)
      refine lv_lload hx hb dX3_offerCrossings_98 (lv_at hl 3 rfl) ?_
      refine lv_lload hx hb dX3_offerCrossings_100 (lv_at hl 0 rfl) ?_
      refine lv_lmul hx hb dX3_offerCrossings_102 ?_
      refine lv_lload hx hb dX3_offerCrossings_103 (lv_at hl 2 rfl) ?_
      refine lv_lload hx hb dX3_offerCrossings_105 (lv_at hl 1 rfl) ?_
      refine lv_lmul hx hb dX3_offerCrossings_107 ?_
      refine lv_lsub hx hb dX3_offerCrossings_108 ?_
      refine lv_topl (fun l13_13 el13_13 => ?_)
      replace hf := xl_at hf el13_13
      refine lv_lstore (lv' := [(13, .long l13_13), (11, .long l11_12), (9, .long l9_9), (7, .long l7_6), (5, .long l5_3), (0, .ref h_t), (1, .ref h_t_first), (2, .ref h_t_third), (3, .int l3), (4, .int l4)]) hx hb dX3_offerCrossings_109 hl (Nat.le_of_ble_eq_true rfl) rfl (fun ls hl => ?_)
      refine lv_aload_n hx hb dX3_offerCrossings_111 rfl (lv_at hl 7 rfl) ?_
      refine va_get (D := (dC, dI)) (ci := 2) (v := .ref h_t_third_x) (C := RX2) (T := TX2) (N := 5) hx hb hts in_X2 hown hK hP 7 rfl rfl 1 (Nat.le_of_ble_eq_true rfl) (hts _ qf_X3_70) (fun _ h9 => h9) rfl dX3_offerCrossings_112 ?_
      refine lv_iload hx hb dX3_offerCrossings_115 (lv_at hl 9 rfl) ?_
      obtain ⟨hg_14, hf⟩ := gd_some hf
      refine va_iald hx hb hK hP 8 0 rfl rfl (inb_in hg_14) dX3_offerCrossings_117 ?_
      refine lv_aload_n hx hb dX3_offerCrossings_118 rfl (lv_at hl 6 rfl) ?_
      refine va_get (D := (dC, dI)) (ci := 2) (v := .ref h_t_first_x) (C := RX2) (T := TX2) (N := 5) hx hb hts in_X2 hown hK hP 1 rfl rfl 1 (Nat.le_of_ble_eq_true rfl) (hts _ qf_X3_70) (fun _ h9 => h9) rfl dX3_offerCrossings_119 ?_
      refine lv_iload_n hx hb dX3_offerCrossings_122 rfl (lv_at hl 8 rfl) ?_
      obtain ⟨hg_15, hf⟩ := gd_some hf
      refine va_iald hx hb hK hP 2 0 rfl rfl (inb_in hg_15) dX3_offerCrossings_123 ?_
      refine lv_isub hx hb dX3_offerCrossings_124 ?_
      refine lv_i2l hx hb dX3_offerCrossings_125 rfl ?_
      refine lv_lload hx hb dX3_offerCrossings_126 (lv_at hl 1 rfl) ?_
      refine lv_lmul hx hb dX3_offerCrossings_128 ?_
      refine lv_aload_n hx hb dX3_offerCrossings_129 rfl (lv_at hl 7 rfl) ?_
      refine va_get (D := (dC, dI)) (ci := 2) (v := .ref h_t_third_y) (C := RX2) (T := TX2) (N := 5) hx hb hts in_X2 hown hK hP 7 rfl rfl 2 (Nat.le_of_ble_eq_true rfl) (hts _ qf_X3_74) (fun _ h9 => h9) rfl dX3_offerCrossings_130 ?_
      refine lv_iload hx hb dX3_offerCrossings_133 (lv_at hl 9 rfl) ?_
      obtain ⟨hg_16, hf⟩ := gd_some hf
      refine va_iald hx hb hK hP 9 0 rfl rfl (inb_in hg_16) dX3_offerCrossings_135 ?_
      refine lv_aload_n hx hb dX3_offerCrossings_136 rfl (lv_at hl 6 rfl) ?_
      refine va_get (D := (dC, dI)) (ci := 2) (v := .ref h_t_first_y) (C := RX2) (T := TX2) (N := 5) hx hb hts in_X2 hown hK hP 1 rfl rfl 2 (Nat.le_of_ble_eq_true rfl) (hts _ qf_X3_74) (fun _ h9 => h9) rfl dX3_offerCrossings_137 ?_
      refine lv_iload_n hx hb dX3_offerCrossings_140 rfl (lv_at hl 8 rfl) ?_
      obtain ⟨hg_17, hf⟩ := gd_some hf
      refine va_iald hx hb hK hP 3 0 rfl rfl (inb_in hg_17) dX3_offerCrossings_141 ?_
      refine lv_isub hx hb dX3_offerCrossings_142 ?_
      refine lv_i2l hx hb dX3_offerCrossings_143 rfl ?_
      refine lv_lload hx hb dX3_offerCrossings_144 (lv_at hl 2 rfl) ?_
      refine lv_lmul hx hb dX3_offerCrossings_146 ?_
      refine lv_lsub hx hb dX3_offerCrossings_147 ?_
      refine lv_topl (fun l15_18 el15_18 => ?_)
      replace hf := xl_at hf el15_18
      refine lv_lstore (lv' := [(15, .long l15_18), (13, .long l13_13), (11, .long l11_12), (9, .long l9_9), (7, .long l7_6), (5, .long l5_3), (0, .ref h_t), (1, .ref h_t_first), (2, .ref h_t_third), (3, .int l3), (4, .int l4)]) hx hb dX3_offerCrossings_148 hl (Nat.le_of_ble_eq_true rfl) rfl (fun ls hl => ?_)
      refine lv_lload hx hb dX3_offerCrossings_150 (lv_at hl 1 rfl) ?_
      refine lv_lconst (v := (0 : Int64)) hx hb dX3_offerCrossings_152 (by decide) ?_
      refine W.lcmp hx hb dX3_offerCrossings_153 ?_
      obtain ⟨k_21, ek_21, hf⟩ := jn_out hf
      have J_22 : ∀ (l13_19 : Int64) (l15_20 : Int64) (H : Heap) (locs : List Loc) (ls : Array Slot), va_P (dC, dI) vwCl [(h_t, .inr (3, [.ref h_t_first, .ref h_t_second, .ref h_t_third, .ref h_t_place, .long t_gapSquare, .long t_gapLower, .long t_gapX, .long t_gapY, .ref h_t_near, .int t_threefold, .long t_leastX, .long t_leastY, .long t_leastLower])), (h_t_first, .inr (2, [.ref h_t_first_chain, .ref h_t_first_x, .ref h_t_first_y, .ref h_t_first_sorted, .int t_first_size])), (h_t_first_x, .inl (cI, 48, .inl t_first_x)), (h_t_first_y, .inl (cI, 48, .inl t_first_y)), (h_t_second, .inr (2, [.ref h_t_second_chain, .ref h_t_second_x, .ref h_t_second_y, .ref h_t_second_sorted, .int t_second_size])), (h_t_second_x, .inl (cI, 48, .inl t_second_x)), (h_t_second_y, .inl (cI, 48, .inl t_second_y)), (h_t_third, .inr (2, [.ref h_t_third_chain, .ref h_t_third_x, .ref h_t_third_y, .ref h_t_third_sorted, .int t_third_size])), (h_t_third_x, .inl (cI, 48, .inl t_third_x)), (h_t_third_y, .inl (cI, 48, .inl t_third_y))] H → va_D A [(h_t, .inr (3, [.ref h_t_first, .ref h_t_second, .ref h_t_third, .ref h_t_place, .long t_gapSquare, .long t_gapLower, .long t_gapX, .long t_gapY, .ref h_t_near, .int t_threefold, .long t_leastX, .long t_leastY, .long t_leastLower])), (h_t_first, .inr (2, [.ref h_t_first_chain, .ref h_t_first_x, .ref h_t_first_y, .ref h_t_first_sorted, .int t_first_size])), (h_t_first_x, .inl (cI, 48, .inl t_first_x)), (h_t_first_y, .inl (cI, 48, .inl t_first_y)), (h_t_second, .inr (2, [.ref h_t_second_chain, .ref h_t_second_x, .ref h_t_second_y, .ref h_t_second_sorted, .int t_second_size])), (h_t_second_x, .inl (cI, 48, .inl t_second_x)), (h_t_second_y, .inl (cI, 48, .inl t_second_y)), (h_t_third, .inr (2, [.ref h_t_third_chain, .ref h_t_third_x, .ref h_t_third_y, .ref h_t_third_sorted, .int t_third_size])), (h_t_third_x, .inl (cI, 48, .inl t_third_x)), (h_t_third_y, .inl (cI, 48, .inl t_third_y))] → va_S A s.heap H locs → lv_has ls 17 [(0, .ref h_t), (1, .ref h_t_first), (2, .ref h_t_third), (3, .int l3), (4, .int l4), (5, .long l5_3), (7, .long l7_6), (13, .long l13_19), (15, .long l15_20)] → k_21 l13_19 l15_20 = some (x_t_leastX, x_t_leastY, x_t_leastLower) → W p l e R s m args below meth c H locs 0 0 Q (F0 m 167 ls []) := by
        intro l13_19 l15_20 H locs ls hP hD hS hl hf
        rw [ek_21] at hf
        try dsimp only at hf
        refine lv_lload hx hb dX3_offerCrossings_167 (lv_at hl 7 rfl) ?_
        refine lv_lconst (v := (0 : Int64)) hx hb dX3_offerCrossings_169 (by decide) ?_
        refine W.lcmp hx hb dX3_offerCrossings_170 ?_
        obtain ⟨k_26, ek_26, hf⟩ := jn_out hf
        have J_27 : ∀ (t_leastX_23 : Int64) (t_leastY_24 : Int64) (t_leastLower_25 : Int64) (H : Heap) (locs : List Loc) (ls : Array Slot), va_P (dC, dI) vwCl [(h_t, .inr (3, [.ref h_t_first, .ref h_t_second, .ref h_t_third, .ref h_t_place, .long t_gapSquare, .long t_gapLower, .long t_gapX, .long t_gapY, .ref h_t_near, .int t_threefold, .long t_leastX_23, .long t_leastY_24, .long t_leastLower_25])), (h_t_first, .inr (2, [.ref h_t_first_chain, .ref h_t_first_x, .ref h_t_first_y, .ref h_t_first_sorted, .int t_first_size])), (h_t_first_x, .inl (cI, 48, .inl t_first_x)), (h_t_first_y, .inl (cI, 48, .inl t_first_y)), (h_t_second, .inr (2, [.ref h_t_second_chain, .ref h_t_second_x, .ref h_t_second_y, .ref h_t_second_sorted, .int t_second_size])), (h_t_second_x, .inl (cI, 48, .inl t_second_x)), (h_t_second_y, .inl (cI, 48, .inl t_second_y)), (h_t_third, .inr (2, [.ref h_t_third_chain, .ref h_t_third_x, .ref h_t_third_y, .ref h_t_third_sorted, .int t_third_size])), (h_t_third_x, .inl (cI, 48, .inl t_third_x)), (h_t_third_y, .inl (cI, 48, .inl t_third_y))] H → va_D A [(h_t, .inr (3, [.ref h_t_first, .ref h_t_second, .ref h_t_third, .ref h_t_place, .long t_gapSquare, .long t_gapLower, .long t_gapX, .long t_gapY, .ref h_t_near, .int t_threefold, .long t_leastX_23, .long t_leastY_24, .long t_leastLower_25])), (h_t_first, .inr (2, [.ref h_t_first_chain, .ref h_t_first_x, .ref h_t_first_y, .ref h_t_first_sorted, .int t_first_size])), (h_t_first_x, .inl (cI, 48, .inl t_first_x)), (h_t_first_y, .inl (cI, 48, .inl t_first_y)), (h_t_second, .inr (2, [.ref h_t_second_chain, .ref h_t_second_x, .ref h_t_second_y, .ref h_t_second_sorted, .int t_second_size])), (h_t_second_x, .inl (cI, 48, .inl t_second_x)), (h_t_second_y, .inl (cI, 48, .inl t_second_y)), (h_t_third, .inr (2, [.ref h_t_third_chain, .ref h_t_third_x, .ref h_t_third_y, .ref h_t_third_sorted, .int t_third_size])), (h_t_third_x, .inl (cI, 48, .inl t_third_x)), (h_t_third_y, .inl (cI, 48, .inl t_third_y))] → va_S A s.heap H locs → lv_has ls 17 [(0, .ref h_t), (1, .ref h_t_first), (2, .ref h_t_third), (3, .int l3), (4, .int l4)] → k_26 t_leastX_23 t_leastY_24 t_leastLower_25 = some (x_t_leastX, x_t_leastY, x_t_leastLower) → W p l e R s m args below meth c H locs 0 0 Q (F0 m 227 ls []) := by
          intro t_leastX_23 t_leastY_24 t_leastLower_25 H locs ls hP hD hS hl hf
          rw [ek_26] at hf
          try dsimp only at hf
          obtain ⟨l4_28, el4_28⟩ : ∃ y : Int32, y = l4 + (1 : Int32) := ⟨_, rfl⟩
          replace hf := xl_at hf el4_28
          refine lv_iinc (v := l4_28) (lv' := [(4, .int l4_28), (0, .ref h_t), (1, .ref h_t_first), (2, .ref h_t_third), (3, .int l3)]) hx hb dX3_offerCrossings_227 hl (k := 4) rfl (by rw [el4_28]; rfl) (Nat.le_of_ble_eq_true rfl) rfl (fun ls hl => ?_)
          refine lv_goto (tgt := 13) hx hb dX3_offerCrossings_230 (by decide) ?_
          exact ih l4_28 t_leastX_23 t_leastY_24 t_leastLower_25 _ _ _ H locs ls hP hD hS (lv_sub hl [1, 2, 3, 4, 0] rfl) hf hk
        refine lv_if_le (tgt := 227) hx hb dX3_offerCrossings_171 (by decide) (fun hc => ?_) (fun hc => ?_)
        · replace hf := it_t ((lg_cmp_le _ _).mp hc) hf
          exact J_27 t_leastX t_leastY t_leastLower H locs ls hP hD hS (lv_sub hl [0, 1, 2, 3, 4] rfl) hf
        · replace hf := it_f (fun h9 => hc ((lg_cmp_le _ _).mpr h9)) hf
          refine lv_lload hx hb dX3_offerCrossings_174 (lv_at hl 8 rfl) ?_
          refine lv_lconst (v := (0 : Int64)) hx hb dX3_offerCrossings_176 (by decide) ?_
          refine W.lcmp hx hb dX3_offerCrossings_177 ?_
          refine lv_if_lt (tgt := 227) hx hb dX3_offerCrossings_178 (by decide) (fun hc => ?_) (fun hc => ?_)
          · replace hf := it_t ((lg_cmp_lt _ _).mp hc) hf
            exact J_27 t_leastX t_leastY t_leastLower H locs ls hP hD hS (lv_sub hl [0, 1, 2, 3, 4] rfl) hf
          · replace hf := it_f (fun h9 => hc ((lg_cmp_lt _ _).mpr h9)) hf
            refine lv_lload hx hb dX3_offerCrossings_181 (lv_at hl 8 rfl) ?_
            refine lv_lload hx hb dX3_offerCrossings_183 (lv_at hl 7 rfl) ?_
            refine W.lcmp hx hb dX3_offerCrossings_185 ?_
            refine lv_if_gt (tgt := 227) hx hb dX3_offerCrossings_186 (by decide) (fun hc => ?_) (fun hc => ?_)
            · replace hf := it_t ((lg_cmp_gt _ _).mp hc) hf
              exact J_27 t_leastX t_leastY t_leastLower H locs ls hP hD hS (lv_sub hl [0, 1, 2, 3, 4] rfl) hf
            · replace hf := it_f (fun h9 => hc ((lg_cmp_gt _ _).mpr h9)) hf
              refine lv_aload_n hx hb dX3_offerCrossings_189 rfl (lv_at hl 0 rfl) ?_
              refine lv_aload_n hx hb dX3_offerCrossings_190 rfl (lv_at hl 1 rfl) ?_
              refine va_get (D := (dC, dI)) (ci := 2) (v := .ref h_t_first_x) (C := RX2) (T := TX2) (N := 5) hx hb hts in_X2 hown hK hP 1 rfl rfl 1 (Nat.le_of_ble_eq_true rfl) (hts _ qf_X3_70) (fun _ h9 => h9) rfl dX3_offerCrossings_191 ?_
              refine lv_iload_n hx hb dX3_offerCrossings_194 rfl (lv_at hl 3 rfl) ?_
              obtain ⟨hg_29, hf⟩ := gd_some hf
              refine va_iald hx hb hK hP 2 0 rfl rfl (inb_in hg_29) dX3_offerCrossings_195 ?_
              refine lv_i2l hx hb dX3_offerCrossings_196 rfl ?_
              refine lv_lload hx hb dX3_offerCrossings_197 (lv_at hl 7 rfl) ?_
              refine lv_lmul hx hb dX3_offerCrossings_199 ?_
              refine lv_lload hx hb dX3_offerCrossings_200 (lv_at hl 8 rfl) ?_
              refine lv_lload hx hb dX3_offerCrossings_202 (lv_at hl 5 rfl) ?_
              refine lv_lmul hx hb dX3_offerCrossings_204 ?_
              refine lv_ladd hx hb dX3_offerCrossings_205 ?_
              refine lv_aload_n hx hb dX3_offerCrossings_206 rfl (lv_at hl 1 rfl) ?_
              refine va_get (D := (dC, dI)) (ci := 2) (v := .ref h_t_first_y) (C := RX2) (T := TX2) (N := 5) hx hb hts in_X2 hown hK hP 1 rfl rfl 2 (Nat.le_of_ble_eq_true rfl) (hts _ qf_X3_74) (fun _ h9 => h9) rfl dX3_offerCrossings_207 ?_
              refine lv_iload_n hx hb dX3_offerCrossings_210 rfl (lv_at hl 3 rfl) ?_
              obtain ⟨hg_30, hf⟩ := gd_some hf
              refine va_iald hx hb hK hP 3 0 rfl rfl (inb_in hg_30) dX3_offerCrossings_211 ?_
              refine lv_i2l hx hb dX3_offerCrossings_212 rfl ?_
              refine lv_lload hx hb dX3_offerCrossings_213 (lv_at hl 7 rfl) ?_
              refine lv_lmul hx hb dX3_offerCrossings_215 ?_
              refine lv_lload hx hb dX3_offerCrossings_216 (lv_at hl 8 rfl) ?_
              refine lv_lload hx hb dX3_offerCrossings_218 (lv_at hl 6 rfl) ?_
              refine lv_lmul hx hb dX3_offerCrossings_220 ?_
              refine lv_ladd hx hb dX3_offerCrossings_221 ?_
              refine lv_lload hx hb dX3_offerCrossings_222 (lv_at hl 7 rfl) ?_
              obtain ⟨t_leastX_31, t_leastY_32, t_leastLower_33, hq_34, hf⟩ := b3_some hf
              refine xcv (wr := []) (w2 := [(h_t, .inr (3, [.ref h_t_first, .ref h_t_second, .ref h_t_third, .ref h_t_place, .long t_gapSquare, .long t_gapLower, .long t_gapX, .long t_gapY, .ref h_t_near, .int t_threefold, .long t_leastX_31, .long t_leastY_32, .long t_leastLower_33])), (h_t_first, .inr (2, [.ref h_t_first_chain, .ref h_t_first_x, .ref h_t_first_y, .ref h_t_first_sorted, .int t_first_size])), (h_t_first_x, .inl (cI, 48, .inl t_first_x)), (h_t_first_y, .inl (cI, 48, .inl t_first_y)), (h_t_second, .inr (2, [.ref h_t_second_chain, .ref h_t_second_x, .ref h_t_second_y, .ref h_t_second_sorted, .int t_second_size])), (h_t_second_x, .inl (cI, 48, .inl t_second_x)), (h_t_second_y, .inl (cI, 48, .inl t_second_y)), (h_t_third, .inr (2, [.ref h_t_third_chain, .ref h_t_third_x, .ref h_t_third_y, .ref h_t_third_sorted, .int t_third_size])), (h_t_third_x, .inl (cI, 48, .inl t_third_x)), (h_t_third_y, .inl (cI, 48, .inl t_third_y))]) (va_runV (As := [.long ((((t_first_x l3.toNatClampNeg).toInt64) * l13_19) + (l15_20 * l5_3)), .long ((((t_first_y l3.toNatClampNeg).toInt64) * l13_19) + (l15_20 * l7_6)), .long l13_19]) (rest := []) ⟨hx, hb, hml, hown, hts⟩ (mtX3_offer l dC dI cI cL cB K h_t h_t_first h_t_second h_t_third h_t_place h_t_near h_t_first_chain h_t_first_x h_t_first_y h_t_first_sorted h_t_second_chain h_t_second_x h_t_second_y h_t_second_sorted h_t_third_chain h_t_third_x h_t_third_y h_t_third_sorted H.size t_gapSquare t_gapLower t_gapX t_gapY t_threefold t_leastX t_leastY t_leastLower t_first_size t_first_x t_first_y t_second_size t_second_x t_second_y t_third_size t_third_x t_third_y ((((t_first_x l3.toNatClampNeg).toInt64) * l13_19) + (l15_20 * l5_3)) ((((t_first_y l3.toNatClampNeg).toInt64) * l13_19) + (l15_20 * l7_6)) l13_19 t_leastX_31 t_leastY_32 t_leastLower_33 hq_34) (cwV 3 hts gv_X3_77 rfl rfl rfl hdV_X3_offer ⟨Nat.le_trans (Nat.le_of_ble_eq_true rfl) hF, Nat.le_trans (Nat.le_of_ble_eq_true rfl) hLo⟩) (cPreV hK hP hD hT [0, 1, 2, 3, 4, 5, 6, 7, 8, 9] rfl rfl (ci := 3) (q0 := 0) rfl rfl) rfl rfl hl.1 rfl (lv_room (Nat.le_of_ble_eq_true rfl)) dX3_offerCrossings_224 ⟨Nat.zero_le _, Nat.zero_le _⟩) hP hD hS hA [0, 1, 2, 3, 4, 5, 6, 7, 8, 9] [] [0, 1, 2, 3, 4, 5, 6, 7, 8, 9] rfl rfl rfl rfl rfl rfl (fun H locs hP hD hS => ?_)
              exact J_27 t_leastX_31 t_leastY_32 t_leastLower_33 H locs ls hP hD hS (lv_sub hl [0, 1, 2, 3, 4] rfl) hf
      refine lv_if_ge (tgt := 167) hx hb dX3_offerCrossings_154 (by decide) (fun hc => ?_) (fun hc => ?_)
      · replace hf := it_t ((lg_cmp_ge _ _).mp hc) hf
        exact J_22 l13_13 l15_18 H locs ls hP hD hS (lv_sub hl [6, 7, 8, 9, 10, 5, 4, 1, 0] rfl) hf
      · replace hf := it_f (fun h9 => hc ((lg_cmp_ge _ _).mpr h9)) hf
        refine lv_lload hx hb dX3_offerCrossings_157 (lv_at hl 1 rfl) ?_
        refine lv_lneg hx hb dX3_offerCrossings_159 ?_
        refine lv_topl (fun l13_35 el13_35 => ?_)
        replace hf := xl_at hf el13_35
        refine lv_lstore (lv' := [(13, .long l13_35), (15, .long l15_18), (11, .long l11_12), (9, .long l9_9), (7, .long l7_6), (5, .long l5_3), (0, .ref h_t), (1, .ref h_t_first), (2, .ref h_t_third), (3, .int l3), (4, .int l4)]) hx hb dX3_offerCrossings_160 hl (Nat.le_of_ble_eq_true rfl) rfl (fun ls hl => ?_)
        refine lv_lload hx hb dX3_offerCrossings_162 (lv_at hl 1 rfl) ?_
        refine lv_lneg hx hb dX3_offerCrossings_164 ?_
        refine lv_topl (fun l15_36 el15_36 => ?_)
        replace hf := xl_at hf el15_36
        refine lv_lstore (lv' := [(15, .long l15_36), (13, .long l13_35), (11, .long l11_12), (9, .long l9_9), (7, .long l7_6), (5, .long l5_3), (0, .ref h_t), (1, .ref h_t_first), (2, .ref h_t_third), (3, .int l3), (4, .int l4)]) hx hb dX3_offerCrossings_165 hl (Nat.le_of_ble_eq_true rfl) rfl (fun ls hl => ?_)
        exact J_22 l13_35 l15_36 H locs ls hP hD hS (lv_sub hl [6, 7, 8, 9, 10, 5, 4, 1, 0] rfl) hf
set_option maxRecDepth 100000 in
set_option maxHeartbeats 4000000 in
theorem wX3_offerCrossings_p1atfirst_p2atthird_L2 {p : Program} {l : Launch} {e : Env} {R : Room} {s : State} {m : MethodId} {args : Array Value} {below : List Frame} {meth : Method} {c : Code} {Q : State → Prop} {A : Nat → Prop} {dC : Nat → ClassId} {dI : Nat → Nat → Nat} {cI cL cB : ClassId} {K : Nat} (C0 : Sx p R s m args c cX3_offerCrossings 17 RX3 A dC dI cI cL cB 2 63) (h_t h_t_first h_t_second h_t_third h_t_place h_t_near h_t_first_chain h_t_first_x h_t_first_y h_t_first_sorted h_t_second_chain h_t_second_x h_t_second_y h_t_second_sorted h_t_third_chain h_t_third_x h_t_third_y h_t_third_sorted : Nat) (t_gapSquare : Int64) (t_gapLower : Int64) (t_gapX : Int64) (t_gapY : Int64) (t_threefold : Int32) (t_first_size : Int32) (t_first_x : Nat → Int32) (t_first_y : Nat → Int32) (t_second_size : Int32) (t_second_x : Nat → Int32) (t_second_y : Nat → Int32) (t_third_size : Int32) (t_third_x : Nat → Int32) (t_third_y : Nat → Int32) : ∀ (n : Nat) (l3 : Int32) (t_leastX : Int64) (t_leastY : Int64) (t_leastLower : Int64) (x_t_leastX : Int64) (x_t_leastY : Int64) (x_t_leastLower : Int64) (H : Heap) (locs : List Loc) (ls : Array Slot), va_P (dC, dI) vwCl [(h_t, .inr (3, [.ref h_t_first, .ref h_t_second, .ref h_t_third, .ref h_t_place, .long t_gapSquare, .long t_gapLower, .long t_gapX, .long t_gapY, .ref h_t_near, .int t_threefold, .long t_leastX, .long t_leastY, .long t_leastLower])), (h_t_first, .inr (2, [.ref h_t_first_chain, .ref h_t_first_x, .ref h_t_first_y, .ref h_t_first_sorted, .int t_first_size])), (h_t_first_x, .inl (cI, 48, .inl t_first_x)), (h_t_first_y, .inl (cI, 48, .inl t_first_y)), (h_t_second, .inr (2, [.ref h_t_second_chain, .ref h_t_second_x, .ref h_t_second_y, .ref h_t_second_sorted, .int t_second_size])), (h_t_second_x, .inl (cI, 48, .inl t_second_x)), (h_t_second_y, .inl (cI, 48, .inl t_second_y)), (h_t_third, .inr (2, [.ref h_t_third_chain, .ref h_t_third_x, .ref h_t_third_y, .ref h_t_third_sorted, .int t_third_size])), (h_t_third_x, .inl (cI, 48, .inl t_third_x)), (h_t_third_y, .inl (cI, 48, .inl t_third_y))] H → va_D A [(h_t, .inr (3, [.ref h_t_first, .ref h_t_second, .ref h_t_third, .ref h_t_place, .long t_gapSquare, .long t_gapLower, .long t_gapX, .long t_gapY, .ref h_t_near, .int t_threefold, .long t_leastX, .long t_leastY, .long t_leastLower])), (h_t_first, .inr (2, [.ref h_t_first_chain, .ref h_t_first_x, .ref h_t_first_y, .ref h_t_first_sorted, .int t_first_size])), (h_t_first_x, .inl (cI, 48, .inl t_first_x)), (h_t_first_y, .inl (cI, 48, .inl t_first_y)), (h_t_second, .inr (2, [.ref h_t_second_chain, .ref h_t_second_x, .ref h_t_second_y, .ref h_t_second_sorted, .int t_second_size])), (h_t_second_x, .inl (cI, 48, .inl t_second_x)), (h_t_second_y, .inl (cI, 48, .inl t_second_y)), (h_t_third, .inr (2, [.ref h_t_third_chain, .ref h_t_third_x, .ref h_t_third_y, .ref h_t_third_sorted, .int t_third_size])), (h_t_third_x, .inl (cI, 48, .inl t_third_x)), (h_t_third_y, .inl (cI, 48, .inl t_third_y))] → va_S A s.heap H locs → lv_has ls 17 [(0, .ref h_t), (1, .ref h_t_first), (2, .ref h_t_third), (3, .int l3)] → fX3_offerCrossings_p1atfirst_p2atthird_L2 K t_threefold t_first_size t_first_x t_first_y t_second_size t_second_x t_second_y t_third_size t_third_x t_third_y n l3 t_leastX t_leastY t_leastLower = some (x_t_leastX, x_t_leastY, x_t_leastLower) → (∀ (H : Heap) (locs : List Loc) (ls : Array Slot), va_P (dC, dI) vwCl [(h_t, .inr (3, [.ref h_t_first, .ref h_t_second, .ref h_t_third, .ref h_t_place, .long t_gapSquare, .long t_gapLower, .long t_gapX, .long t_gapY, .ref h_t_near, .int t_threefold, .long x_t_leastX, .long x_t_leastY, .long x_t_leastLower])), (h_t_first, .inr (2, [.ref h_t_first_chain, .ref h_t_first_x, .ref h_t_first_y, .ref h_t_first_sorted, .int t_first_size])), (h_t_first_x, .inl (cI, 48, .inl t_first_x)), (h_t_first_y, .inl (cI, 48, .inl t_first_y)), (h_t_second, .inr (2, [.ref h_t_second_chain, .ref h_t_second_x, .ref h_t_second_y, .ref h_t_second_sorted, .int t_second_size])), (h_t_second_x, .inl (cI, 48, .inl t_second_x)), (h_t_second_y, .inl (cI, 48, .inl t_second_y)), (h_t_third, .inr (2, [.ref h_t_third_chain, .ref h_t_third_x, .ref h_t_third_y, .ref h_t_third_sorted, .int t_third_size])), (h_t_third_x, .inl (cI, 48, .inl t_third_x)), (h_t_third_y, .inl (cI, 48, .inl t_third_y))] H → va_D A [(h_t, .inr (3, [.ref h_t_first, .ref h_t_second, .ref h_t_third, .ref h_t_place, .long t_gapSquare, .long t_gapLower, .long t_gapX, .long t_gapY, .ref h_t_near, .int t_threefold, .long x_t_leastX, .long x_t_leastY, .long x_t_leastLower])), (h_t_first, .inr (2, [.ref h_t_first_chain, .ref h_t_first_x, .ref h_t_first_y, .ref h_t_first_sorted, .int t_first_size])), (h_t_first_x, .inl (cI, 48, .inl t_first_x)), (h_t_first_y, .inl (cI, 48, .inl t_first_y)), (h_t_second, .inr (2, [.ref h_t_second_chain, .ref h_t_second_x, .ref h_t_second_y, .ref h_t_second_sorted, .int t_second_size])), (h_t_second_x, .inl (cI, 48, .inl t_second_x)), (h_t_second_y, .inl (cI, 48, .inl t_second_y)), (h_t_third, .inr (2, [.ref h_t_third_chain, .ref h_t_third_x, .ref h_t_third_y, .ref h_t_third_sorted, .int t_third_size])), (h_t_third_x, .inl (cI, 48, .inl t_third_x)), (h_t_third_y, .inl (cI, 48, .inl t_third_y))] → va_S A s.heap H locs → lv_has ls 17 [] → W p l e R s m args below meth c H locs 0 0 Q (F0 m 239 ls [])) → W p l e R s m args below meth c H locs 0 0 Q (F0 m 2 ls []) := by
  obtain ⟨hx, hb, hml, hown, hts, hK, hT, hA, hF, hLo⟩ := id C0
  intro n
  induction n with
  | zero =>
    intro l3 t_leastX t_leastY t_leastLower x_t_leastX x_t_leastY x_t_leastLower H locs ls hP hD hS hl hf
    rw [fX3_offerCrossings_p1atfirst_p2atthird_L2] at hf
    cases hf
  | succ n ih =>
    intro l3 t_leastX t_leastY t_leastLower x_t_leastX x_t_leastY x_t_leastLower H locs ls hP hD hS hl hf hk
    rw [fX3_offerCrossings_p1atfirst_p2atthird_L2] at hf
    refine lv_iload_n hx hb dX3_offerCrossings_2 rfl (lv_at hl 3 rfl) ?_
    refine lv_aload_n hx hb dX3_offerCrossings_3 rfl (lv_at hl 1 rfl) ?_
    refine va_get (D := (dC, dI)) (ci := 2) (v := .int t_first_size) (C := RX2) (T := TX2) (N := 5) hx hb hts in_X2 hown hK hP 1 rfl rfl 4 (Nat.le_of_ble_eq_true rfl) (hts _ qf_X3_66) (fun _ h9 => h9) rfl dX3_offerCrossings_4 ?_
    refine lv_icmp_ge (tgt := 239) hx hb dX3_offerCrossings_7 (by decide) (fun hc => ?_) (fun hc => ?_)
    · replace hf := it_t (hc) hf
      obtain ⟨rfl, rfl, rfl⟩ := o3 hf
      exact hk H locs ls hP hD hS (lv_sub hl [] rfl)
    · replace hf := it_f (hc) hf
      refine lv_iconst (v := (0 : Int32)) hx hb dX3_offerCrossings_10 (by decide) ?_
      refine lv_istore (lv' := [(4, .int (0 : Int32)), (0, .ref h_t), (1, .ref h_t_first), (2, .ref h_t_third), (3, .int l3)]) hx hb dX3_offerCrossings_11 hl (Nat.le_of_ble_eq_true rfl) rfl (fun ls hl => ?_)
      obtain ⟨t_leastX_38, t_leastY_39, t_leastLower_40, hq_37, hf⟩ := b3_some hf
      refine wX3_offerCrossings_p1atfirst_p2atthird_L13 C0 h_t h_t_first h_t_second h_t_third h_t_place h_t_near h_t_first_chain h_t_first_x h_t_first_y h_t_first_sorted h_t_second_chain h_t_second_x h_t_second_y h_t_second_sorted h_t_third_chain h_t_third_x h_t_third_y h_t_third_sorted t_gapSquare t_gapLower t_gapX t_gapY t_threefold t_first_size t_first_x t_first_y t_second_size t_second_x t_second_y t_third_size t_third_x t_third_y l3 K (0 : Int32) t_leastX t_leastY t_leastLower t_leastX_38 t_leastY_39 t_leastLower_40 H locs ls hP hD hS (lv_sub hl [1, 2, 3, 4, 0] rfl) hq_37 ?_
      intro H locs ls hP hD hS hl
      obtain ⟨l3_41, el3_41⟩ : ∃ y : Int32, y = l3 + (1 : Int32) := ⟨_, rfl⟩
      replace hf := xl_at hf el3_41
      refine lv_iinc (v := l3_41) (lv' := [(3, .int l3_41), (0, .ref h_t), (1, .ref h_t_first), (2, .ref h_t_third)]) hx hb dX3_offerCrossings_233 hl (k := 3) rfl (by rw [el3_41]; rfl) (Nat.le_of_ble_eq_true rfl) rfl (fun ls hl => ?_)
      refine lv_goto (tgt := 2) hx hb dX3_offerCrossings_236 (by decide) ?_
      exact ih l3_41 t_leastX_38 t_leastY_39 t_leastLower_40 _ _ _ H locs ls hP hD hS (lv_sub hl [1, 2, 3, 0] rfl) hf hk
set_option maxRecDepth 100000 in
set_option maxHeartbeats 4000000 in
theorem mtX3_offerCrossings_p1atfirst_p2atthird (l : Launch) (dC : Nat → ClassId) (dI : Nat → Nat → Nat) (cI cL cB : ClassId) (K : Nat) (h_t h_t_first h_t_second h_t_third h_t_place h_t_near h_t_first_chain h_t_first_x h_t_first_y h_t_first_sorted h_t_second_chain h_t_second_x h_t_second_y h_t_second_sorted h_t_third_chain h_t_third_x h_t_third_y h_t_third_sorted : Nat) (sz : Nat) (t_gapSquare : Int64) (t_gapLower : Int64) (t_gapX : Int64) (t_gapY : Int64) (t_threefold : Int32) (t_leastX : Int64) (t_leastY : Int64) (t_leastLower : Int64) (t_first_size : Int32) (t_first_x : Nat → Int32) (t_first_y : Nat → Int32) (t_second_size : Int32) (t_second_x : Nat → Int32) (t_second_y : Nat → Int32) (t_third_size : Int32) (t_third_x : Nat → Int32) (t_third_y : Nat → Int32) (o_t_leastX : Int64) (o_t_leastY : Int64) (o_t_leastLower : Int64) (hf : fX3_offerCrossings_p1atfirst_p2atthird K t_threefold t_leastX t_leastY t_leastLower t_first_size t_first_x t_first_y t_second_size t_second_x t_second_y t_third_size t_third_x t_third_y = some (o_t_leastX, o_t_leastY, o_t_leastLower)) : Met l yX3_offerCrossings [Cond.code yX3_offerCrossings cX3_offerCrossings 17 none] ({ frames := 2, cells := 0, slots := 0, locals := 63 }) (va_Pc [.ref h_t, .ref h_t_first, .ref h_t_third] (cPre dC dI cI cL cB sz [(h_t, .inr (3, [.ref h_t_first, .ref h_t_second, .ref h_t_third, .ref h_t_place, .long t_gapSquare, .long t_gapLower, .long t_gapX, .long t_gapY, .ref h_t_near, .int t_threefold, .long t_leastX, .long t_leastY, .long t_leastLower])), (h_t_first, .inr (2, [.ref h_t_first_chain, .ref h_t_first_x, .ref h_t_first_y, .ref h_t_first_sorted, .int t_first_size])), (h_t_first_x, .inl (cI, 48, .inl t_first_x)), (h_t_first_y, .inl (cI, 48, .inl t_first_y)), (h_t_second, .inr (2, [.ref h_t_second_chain, .ref h_t_second_x, .ref h_t_second_y, .ref h_t_second_sorted, .int t_second_size])), (h_t_second_x, .inl (cI, 48, .inl t_second_x)), (h_t_second_y, .inl (cI, 48, .inl t_second_y)), (h_t_third, .inr (2, [.ref h_t_third_chain, .ref h_t_third_x, .ref h_t_third_y, .ref h_t_third_sorted, .int t_third_size])), (h_t_third_x, .inl (cI, 48, .inl t_third_x)), (h_t_third_y, .inl (cI, 48, .inl t_third_y))])) (cQv dC dI (va_A [(h_t, .inr (3, [.ref h_t_first, .ref h_t_second, .ref h_t_third, .ref h_t_place, .long t_gapSquare, .long t_gapLower, .long t_gapX, .long t_gapY, .ref h_t_near, .int t_threefold, .long t_leastX, .long t_leastY, .long t_leastLower])), (h_t_first, .inr (2, [.ref h_t_first_chain, .ref h_t_first_x, .ref h_t_first_y, .ref h_t_first_sorted, .int t_first_size])), (h_t_first_x, .inl (cI, 48, .inl t_first_x)), (h_t_first_y, .inl (cI, 48, .inl t_first_y)), (h_t_second, .inr (2, [.ref h_t_second_chain, .ref h_t_second_x, .ref h_t_second_y, .ref h_t_second_sorted, .int t_second_size])), (h_t_second_x, .inl (cI, 48, .inl t_second_x)), (h_t_second_y, .inl (cI, 48, .inl t_second_y)), (h_t_third, .inr (2, [.ref h_t_third_chain, .ref h_t_third_x, .ref h_t_third_y, .ref h_t_third_sorted, .int t_third_size])), (h_t_third_x, .inl (cI, 48, .inl t_third_x)), (h_t_third_y, .inl (cI, 48, .inl t_third_y))] sz) [(h_t, .inr (3, [.ref h_t_first, .ref h_t_second, .ref h_t_third, .ref h_t_place, .long t_gapSquare, .long t_gapLower, .long t_gapX, .long t_gapY, .ref h_t_near, .int t_threefold, .long o_t_leastX, .long o_t_leastY, .long o_t_leastLower])), (h_t_first, .inr (2, [.ref h_t_first_chain, .ref h_t_first_x, .ref h_t_first_y, .ref h_t_first_sorted, .int t_first_size])), (h_t_first_x, .inl (cI, 48, .inl t_first_x)), (h_t_first_y, .inl (cI, 48, .inl t_first_y)), (h_t_second, .inr (2, [.ref h_t_second_chain, .ref h_t_second_x, .ref h_t_second_y, .ref h_t_second_sorted, .int t_second_size])), (h_t_second_x, .inl (cI, 48, .inl t_second_x)), (h_t_second_y, .inl (cI, 48, .inl t_second_y)), (h_t_third, .inr (2, [.ref h_t_third_chain, .ref h_t_third_x, .ref h_t_third_y, .ref h_t_third_sorted, .int t_third_size])), (h_t_third_x, .inl (cI, 48, .inl t_third_x)), (h_t_third_y, .inl (cI, 48, .inl t_third_y))]) 0 0 (va_A [(h_t, .inr (3, [.ref h_t_first, .ref h_t_second, .ref h_t_third, .ref h_t_place, .long t_gapSquare, .long t_gapLower, .long t_gapX, .long t_gapY, .ref h_t_near, .int t_threefold, .long t_leastX, .long t_leastY, .long t_leastLower])), (h_t_first, .inr (2, [.ref h_t_first_chain, .ref h_t_first_x, .ref h_t_first_y, .ref h_t_first_sorted, .int t_first_size])), (h_t_first_x, .inl (cI, 48, .inl t_first_x)), (h_t_first_y, .inl (cI, 48, .inl t_first_y)), (h_t_second, .inr (2, [.ref h_t_second_chain, .ref h_t_second_x, .ref h_t_second_y, .ref h_t_second_sorted, .int t_second_size])), (h_t_second_x, .inl (cI, 48, .inl t_second_x)), (h_t_second_y, .inl (cI, 48, .inl t_second_y)), (h_t_third, .inr (2, [.ref h_t_third_chain, .ref h_t_third_x, .ref h_t_third_y, .ref h_t_third_sorted, .int t_third_size])), (h_t_third_x, .inl (cI, 48, .inl t_third_x)), (h_t_third_y, .inl (cI, 48, .inl t_third_y))] sz) := by
  refine Met.ofW (cc := cX3_offerCrossings) (maxL := 17) (ret := none) (by decide) rfl ?_
  intro p e s m args below meth c s₁ B hml hv
  obtain ⟨rfl, hsz, hP, hK, hD0, hT⟩ := hv
  have hx := B.exec
  have hb := B.bytes
  have hr := B.returns
  have hown : s.vm.findClass RX3 = some m.cls := findClass_of_methodNamed B.named
  have hlocks := B.notSynchronized
  have hts := TB.use hT ([.ref h_t, .ref h_t_first, .ref h_t_third] : List Value).toArray
  subst hsz
  have hD := hD0.self (sz := s.heap.size)
  generalize hAe : va_A [(h_t, .inr (3, [.ref h_t_first, .ref h_t_second, .ref h_t_third, .ref h_t_place, .long t_gapSquare, .long t_gapLower, .long t_gapX, .long t_gapY, .ref h_t_near, .int t_threefold, .long t_leastX, .long t_leastY, .long t_leastLower])), (h_t_first, .inr (2, [.ref h_t_first_chain, .ref h_t_first_x, .ref h_t_first_y, .ref h_t_first_sorted, .int t_first_size])), (h_t_first_x, .inl (cI, 48, .inl t_first_x)), (h_t_first_y, .inl (cI, 48, .inl t_first_y)), (h_t_second, .inr (2, [.ref h_t_second_chain, .ref h_t_second_x, .ref h_t_second_y, .ref h_t_second_sorted, .int t_second_size])), (h_t_second_x, .inl (cI, 48, .inl t_second_x)), (h_t_second_y, .inl (cI, 48, .inl t_second_y)), (h_t_third, .inr (2, [.ref h_t_third_chain, .ref h_t_third_x, .ref h_t_third_y, .ref h_t_third_sorted, .int t_third_size])), (h_t_third_x, .inl (cI, 48, .inl t_third_x)), (h_t_third_y, .inl (cI, 48, .inl t_third_y))] s.heap.size = A at hD ⊢
  have hA : ∀ q : Nat, s.heap.size ≤ q → A q := fun q h => by rw [← hAe]; exact Or.inr h
  clear hAe hD0
  have hl := lv_entry ([.ref h_t, .ref h_t_first, .ref h_t_third]) (n := 17) (Nat.le_of_ble_eq_true rfl)
  rw [lg_entry_eq]
  generalize (lg_sl ([.ref h_t, .ref h_t_first, .ref h_t_third]) ++ List.replicate (17 - (lg_sl ([.ref h_t, .ref h_t_first, .ref h_t_third])).length) Slot.unset).toArray = ls at hl ⊢
  have hl : lv_has ls 17 [(0, .ref h_t), (1, .ref h_t_first), (2, .ref h_t_third)] := hl
  have hF : 2 ≤ (headSpec [Cond.code yX3_offerCrossings cX3_offerCrossings 17 none] ({ frames := 2, cells := 0, slots := 0, locals := 63 })).room.frames := Nat.le_refl _
  have hLo : 63 ≤ (headSpec [Cond.code yX3_offerCrossings cX3_offerCrossings 17 none] ({ frames := 2, cells := 0, slots := 0, locals := 63 })).room.locals := Nat.le_refl _
  have C0 : Sx p (headSpec [Cond.code yX3_offerCrossings cX3_offerCrossings 17 none] ({ frames := 2, cells := 0, slots := 0, locals := 63 })).room s m ([.ref h_t, .ref h_t_first, .ref h_t_third] : List Value).toArray c cX3_offerCrossings 17 RX3 A dC dI cI cL cB 2 63 := ⟨hx, hb, hml, hown, hts, hK, hT, hA, hF, hLo⟩
  refine startH (A := A) hP (fun H locs hP hS => ?_)
  rw [fX3_offerCrossings_p1atfirst_p2atthird] at hf
  refine lv_iconst (v := (0 : Int32)) hx hb dX3_offerCrossings_0 (by decide) ?_
  refine lv_istore_n (lv' := [(3, .int (0 : Int32)), (0, .ref h_t), (1, .ref h_t_first), (2, .ref h_t_third)]) hx hb dX3_offerCrossings_1 rfl hl (Nat.le_of_ble_eq_true rfl) rfl (fun ls hl => ?_)
  obtain ⟨t_leastX_43, t_leastY_44, t_leastLower_45, hq_42, hf⟩ := b3_some hf
  refine wX3_offerCrossings_p1atfirst_p2atthird_L2 C0 h_t h_t_first h_t_second h_t_third h_t_place h_t_near h_t_first_chain h_t_first_x h_t_first_y h_t_first_sorted h_t_second_chain h_t_second_x h_t_second_y h_t_second_sorted h_t_third_chain h_t_third_x h_t_third_y h_t_third_sorted t_gapSquare t_gapLower t_gapX t_gapY t_threefold t_first_size t_first_x t_first_y t_second_size t_second_x t_second_y t_third_size t_third_x t_third_y K (0 : Int32) t_leastX t_leastY t_leastLower t_leastX_43 t_leastY_44 t_leastLower_45 H locs ls hP hD hS (lv_sub hl [1, 2, 3, 0] rfl) hq_42 ?_
  intro H locs ls hP hD hS hl
  obtain ⟨rfl, rfl, rfl⟩ := o3 hf
  exact W.vret hx hb hr (fun t ht hW => ⟨⟨(), rfl, trivial, by rw [ht]; exact hP, hD⟩, hS.F ht⟩) hS.2.2 dX3_offerCrossings_239
set_option maxRecDepth 100000 in
set_option maxHeartbeats 4000000 in
theorem wX3_offerCrossings_p1atsecond_p2atthird_L13 {p : Program} {l : Launch} {e : Env} {R : Room} {s : State} {m : MethodId} {args : Array Value} {below : List Frame} {meth : Method} {c : Code} {Q : State → Prop} {A : Nat → Prop} {dC : Nat → ClassId} {dI : Nat → Nat → Nat} {cI cL cB : ClassId} {K : Nat} (C0 : Sx p R s m args c cX3_offerCrossings 17 RX3 A dC dI cI cL cB 2 63) (h_t h_t_first h_t_second h_t_third h_t_place h_t_near h_t_first_chain h_t_first_x h_t_first_y h_t_first_sorted h_t_second_chain h_t_second_x h_t_second_y h_t_second_sorted h_t_third_chain h_t_third_x h_t_third_y h_t_third_sorted : Nat) (t_gapSquare : Int64) (t_gapLower : Int64) (t_gapX : Int64) (t_gapY : Int64) (t_threefold : Int32) (t_first_size : Int32) (t_first_x : Nat → Int32) (t_first_y : Nat → Int32) (t_second_size : Int32) (t_second_x : Nat → Int32) (t_second_y : Nat → Int32) (t_third_size : Int32) (t_third_x : Nat → Int32) (t_third_y : Nat → Int32) (l3 : Int32) : ∀ (n : Nat) (l4 : Int32) (t_leastX : Int64) (t_leastY : Int64) (t_leastLower : Int64) (x_t_leastX : Int64) (x_t_leastY : Int64) (x_t_leastLower : Int64) (H : Heap) (locs : List Loc) (ls : Array Slot), va_P (dC, dI) vwCl [(h_t, .inr (3, [.ref h_t_first, .ref h_t_second, .ref h_t_third, .ref h_t_place, .long t_gapSquare, .long t_gapLower, .long t_gapX, .long t_gapY, .ref h_t_near, .int t_threefold, .long t_leastX, .long t_leastY, .long t_leastLower])), (h_t_first, .inr (2, [.ref h_t_first_chain, .ref h_t_first_x, .ref h_t_first_y, .ref h_t_first_sorted, .int t_first_size])), (h_t_first_x, .inl (cI, 48, .inl t_first_x)), (h_t_first_y, .inl (cI, 48, .inl t_first_y)), (h_t_second, .inr (2, [.ref h_t_second_chain, .ref h_t_second_x, .ref h_t_second_y, .ref h_t_second_sorted, .int t_second_size])), (h_t_second_x, .inl (cI, 48, .inl t_second_x)), (h_t_second_y, .inl (cI, 48, .inl t_second_y)), (h_t_third, .inr (2, [.ref h_t_third_chain, .ref h_t_third_x, .ref h_t_third_y, .ref h_t_third_sorted, .int t_third_size])), (h_t_third_x, .inl (cI, 48, .inl t_third_x)), (h_t_third_y, .inl (cI, 48, .inl t_third_y))] H → va_D A [(h_t, .inr (3, [.ref h_t_first, .ref h_t_second, .ref h_t_third, .ref h_t_place, .long t_gapSquare, .long t_gapLower, .long t_gapX, .long t_gapY, .ref h_t_near, .int t_threefold, .long t_leastX, .long t_leastY, .long t_leastLower])), (h_t_first, .inr (2, [.ref h_t_first_chain, .ref h_t_first_x, .ref h_t_first_y, .ref h_t_first_sorted, .int t_first_size])), (h_t_first_x, .inl (cI, 48, .inl t_first_x)), (h_t_first_y, .inl (cI, 48, .inl t_first_y)), (h_t_second, .inr (2, [.ref h_t_second_chain, .ref h_t_second_x, .ref h_t_second_y, .ref h_t_second_sorted, .int t_second_size])), (h_t_second_x, .inl (cI, 48, .inl t_second_x)), (h_t_second_y, .inl (cI, 48, .inl t_second_y)), (h_t_third, .inr (2, [.ref h_t_third_chain, .ref h_t_third_x, .ref h_t_third_y, .ref h_t_third_sorted, .int t_third_size])), (h_t_third_x, .inl (cI, 48, .inl t_third_x)), (h_t_third_y, .inl (cI, 48, .inl t_third_y))] → va_S A s.heap H locs → lv_has ls 17 [(0, .ref h_t), (1, .ref h_t_second), (2, .ref h_t_third), (3, .int l3), (4, .int l4)] → fX3_offerCrossings_p1atsecond_p2atthird_L13 K l3 t_threefold t_first_size t_first_x t_first_y t_second_size t_second_x t_second_y t_third_size t_third_x t_third_y n l4 t_leastX t_leastY t_leastLower = some (x_t_leastX, x_t_leastY, x_t_leastLower) → (∀ (H : Heap) (locs : List Loc) (ls : Array Slot), va_P (dC, dI) vwCl [(h_t, .inr (3, [.ref h_t_first, .ref h_t_second, .ref h_t_third, .ref h_t_place, .long t_gapSquare, .long t_gapLower, .long t_gapX, .long t_gapY, .ref h_t_near, .int t_threefold, .long x_t_leastX, .long x_t_leastY, .long x_t_leastLower])), (h_t_first, .inr (2, [.ref h_t_first_chain, .ref h_t_first_x, .ref h_t_first_y, .ref h_t_first_sorted, .int t_first_size])), (h_t_first_x, .inl (cI, 48, .inl t_first_x)), (h_t_first_y, .inl (cI, 48, .inl t_first_y)), (h_t_second, .inr (2, [.ref h_t_second_chain, .ref h_t_second_x, .ref h_t_second_y, .ref h_t_second_sorted, .int t_second_size])), (h_t_second_x, .inl (cI, 48, .inl t_second_x)), (h_t_second_y, .inl (cI, 48, .inl t_second_y)), (h_t_third, .inr (2, [.ref h_t_third_chain, .ref h_t_third_x, .ref h_t_third_y, .ref h_t_third_sorted, .int t_third_size])), (h_t_third_x, .inl (cI, 48, .inl t_third_x)), (h_t_third_y, .inl (cI, 48, .inl t_third_y))] H → va_D A [(h_t, .inr (3, [.ref h_t_first, .ref h_t_second, .ref h_t_third, .ref h_t_place, .long t_gapSquare, .long t_gapLower, .long t_gapX, .long t_gapY, .ref h_t_near, .int t_threefold, .long x_t_leastX, .long x_t_leastY, .long x_t_leastLower])), (h_t_first, .inr (2, [.ref h_t_first_chain, .ref h_t_first_x, .ref h_t_first_y, .ref h_t_first_sorted, .int t_first_size])), (h_t_first_x, .inl (cI, 48, .inl t_first_x)), (h_t_first_y, .inl (cI, 48, .inl t_first_y)), (h_t_second, .inr (2, [.ref h_t_second_chain, .ref h_t_second_x, .ref h_t_second_y, .ref h_t_second_sorted, .int t_second_size])), (h_t_second_x, .inl (cI, 48, .inl t_second_x)), (h_t_second_y, .inl (cI, 48, .inl t_second_y)), (h_t_third, .inr (2, [.ref h_t_third_chain, .ref h_t_third_x, .ref h_t_third_y, .ref h_t_third_sorted, .int t_third_size])), (h_t_third_x, .inl (cI, 48, .inl t_third_x)), (h_t_third_y, .inl (cI, 48, .inl t_third_y))] → va_S A s.heap H locs → lv_has ls 17 [(0, .ref h_t), (1, .ref h_t_second), (2, .ref h_t_third), (3, .int l3)] → W p l e R s m args below meth c H locs 0 0 Q (F0 m 233 ls [])) → W p l e R s m args below meth c H locs 0 0 Q (F0 m 13 ls []) := by
  obtain ⟨hx, hb, hml, hown, hts, hK, hT, hA, hF, hLo⟩ := id C0
  intro n
  induction n with
  | zero =>
    intro l4 t_leastX t_leastY t_leastLower x_t_leastX x_t_leastY x_t_leastLower H locs ls hP hD hS hl hf
    rw [fX3_offerCrossings_p1atsecond_p2atthird_L13] at hf
    cases hf
  | succ n ih =>
    intro l4 t_leastX t_leastY t_leastLower x_t_leastX x_t_leastY x_t_leastLower H locs ls hP hD hS hl hf hk
    rw [fX3_offerCrossings_p1atsecond_p2atthird_L13] at hf
    refine lv_iload hx hb dX3_offerCrossings_13 (lv_at hl 4 rfl) ?_
    refine lv_aload_n hx hb dX3_offerCrossings_15 rfl (lv_at hl 2 rfl) ?_
    refine va_get (D := (dC, dI)) (ci := 2) (v := .int t_third_size) (C := RX2) (T := TX2) (N := 5) hx hb hts in_X2 hown hK hP 7 rfl rfl 4 (Nat.le_of_ble_eq_true rfl) (hts _ qf_X3_66) (fun _ h9 => h9) rfl dX3_offerCrossings_16 ?_
    refine lv_icmp_ge (tgt := 233) hx hb dX3_offerCrossings_19 (by decide) (fun hc => ?_) (fun hc => ?_)
    · replace hf := it_t (hc) hf
      obtain ⟨rfl, rfl, rfl⟩ := o3 hf
      exact hk H locs ls hP hD hS (lv_sub hl [0, 1, 2, 3] rfl)
    · replace hf := it_f (hc) hf
      refine lv_aload_n hx hb dX3_offerCrossings_22 rfl (lv_at hl 1 rfl) ?_
      refine va_get (D := (dC, dI)) (ci := 2) (v := .ref h_t_second_x) (C := RX2) (T := TX2) (N := 5) hx hb hts in_X2 hown hK hP 4 rfl rfl 1 (Nat.le_of_ble_eq_true rfl) (hts _ qf_X3_70) (fun _ h9 => h9) rfl dX3_offerCrossings_23 ?_
      refine lv_iload_n hx hb dX3_offerCrossings_26 rfl (lv_at hl 3 rfl) ?_
      refine lv_iconst (v := (1 : Int32)) hx hb dX3_offerCrossings_27 (by decide) ?_
      refine lv_iadd hx hb dX3_offerCrossings_28 ?_
      obtain ⟨hg_1, hf⟩ := gd_some hf
      refine va_iald hx hb hK hP 5 0 rfl rfl (inb_in hg_1) dX3_offerCrossings_29 ?_
      refine lv_aload_n hx hb dX3_offerCrossings_30 rfl (lv_at hl 1 rfl) ?_
      refine va_get (D := (dC, dI)) (ci := 2) (v := .ref h_t_second_x) (C := RX2) (T := TX2) (N := 5) hx hb hts in_X2 hown hK hP 4 rfl rfl 1 (Nat.le_of_ble_eq_true rfl) (hts _ qf_X3_70) (fun _ h9 => h9) rfl dX3_offerCrossings_31 ?_
      refine lv_iload_n hx hb dX3_offerCrossings_34 rfl (lv_at hl 3 rfl) ?_
      obtain ⟨hg_2, hf⟩ := gd_some hf
      refine va_iald hx hb hK hP 5 0 rfl rfl (inb_in hg_2) dX3_offerCrossings_35 ?_
      refine lv_isub hx hb dX3_offerCrossings_36 ?_
      refine lv_i2l hx hb dX3_offerCrossings_37 rfl ?_
      refine lv_topl (fun l5_3 el5_3 => ?_)
      replace hf := xl_at hf el5_3
      refine lv_lstore (lv' := [(5, .long l5_3), (0, .ref h_t), (1, .ref h_t_second), (2, .ref h_t_third), (3, .int l3), (4, .int l4)]) hx hb dX3_offerCrossings_38 hl (Nat.le_of_ble_eq_true rfl) rfl (fun ls hl => ?_)
      refine lv_aload_n hx hb dX3_offerCrossings_40 rfl (lv_at hl 2 rfl) ?_
      refine va_get (D := (dC, dI)) (ci := 2) (v := .ref h_t_second_y) (C := RX2) (T := TX2) (N := 5) hx hb hts in_X2 hown hK hP 4 rfl rfl 2 (Nat.le_of_ble_eq_true rfl) (hts _ qf_X3_74) (fun _ h9 => h9) rfl dX3_offerCrossings_41 ?_
      refine lv_iload_n hx hb dX3_offerCrossings_44 rfl (lv_at hl 4 rfl) ?_
      refine lv_iconst (v := (1 : Int32)) hx hb dX3_offerCrossings_45 (by decide) ?_
      refine lv_iadd hx hb dX3_offerCrossings_46 ?_
      obtain ⟨hg_4, hf⟩ := gd_some hf
      refine va_iald hx hb hK hP 6 0 rfl rfl (inb_in hg_4) dX3_offerCrossings_47 ?_
      refine lv_aload_n hx hb dX3_offerCrossings_48 rfl (lv_at hl 2 rfl) ?_
      refine va_get (D := (dC, dI)) (ci := 2) (v := .ref h_t_second_y) (C := RX2) (T := TX2) (N := 5) hx hb hts in_X2 hown hK hP 4 rfl rfl 2 (Nat.le_of_ble_eq_true rfl) (hts _ qf_X3_74) (fun _ h9 => h9) rfl dX3_offerCrossings_49 ?_
      refine lv_iload_n hx hb dX3_offerCrossings_52 rfl (lv_at hl 4 rfl) ?_
      obtain ⟨hg_5, hf⟩ := gd_some hf
      refine va_iald hx hb hK hP 6 0 rfl rfl (inb_in hg_5) dX3_offerCrossings_53 ?_
      refine lv_isub hx hb dX3_offerCrossings_54 ?_
      refine lv_i2l hx hb dX3_offerCrossings_55 rfl ?_
      refine lv_topl (fun l7_6 el7_6 => ?_)
      replace hf := xl_at hf el7_6
      refine lv_lstore (lv' := [(7, .long l7_6), (5, .long l5_3), (0, .ref h_t), (1, .ref h_t_second), (2, .ref h_t_third), (3, .int l3), (4, .int l4)]) hx hb dX3_offerCrossings_56 hl (Nat.le_of_ble_eq_true rfl) rfl (fun ls hl => ?_)
      refine lv_aload_n hx hb dX3_offerCrossings_58 rfl (lv_at hl 4 rfl) ?_
      refine va_get (D := (dC, dI)) (ci := 2) (v := .ref h_t_third_x) (C := RX2) (T := TX2) (N := 5) hx hb hts in_X2 hown hK hP 7 rfl rfl 1 (Nat.le_of_ble_eq_true rfl) (hts _ qf_X3_70) (fun _ h9 => h9) rfl dX3_offerCrossings_59 ?_
      refine lv_iload hx hb dX3_offerCrossings_62 (lv_at hl 6 rfl) ?_
      refine lv_iconst (v := (1 : Int32)) hx hb dX3_offerCrossings_64 (by decide) ?_
      refine lv_iadd hx hb dX3_offerCrossings_65 ?_
      obtain ⟨hg_7, hf⟩ := gd_some hf
      refine va_iald hx hb hK hP 8 0 rfl rfl (inb_in hg_7) dX3_offerCrossings_66 ?_
      refine lv_aload_n hx hb dX3_offerCrossings_67 rfl (lv_at hl 4 rfl) ?_
      refine va_get (D := (dC, dI)) (ci := 2) (v := .ref h_t_third_x) (C := RX2) (T := TX2) (N := 5) hx hb hts in_X2 hown hK hP 7 rfl rfl 1 (Nat.le_of_ble_eq_true rfl) (hts _ qf_X3_70) (fun _ h9 => h9) rfl dX3_offerCrossings_68 ?_
      refine lv_iload hx hb dX3_offerCrossings_71 (lv_at hl 6 rfl) ?_
      obtain ⟨hg_8, hf⟩ := gd_some hf
      refine va_iald hx hb hK hP 8 0 rfl rfl (inb_in hg_8) dX3_offerCrossings_73 ?_
      refine lv_isub hx hb dX3_offerCrossings_74 ?_
      refine lv_i2l hx hb dX3_offerCrossings_75 rfl ?_
      refine lv_topl (fun l9_9 el9_9 => ?_)
      replace hf := xl_at hf el9_9
      refine lv_lstore (lv' := [(9, .long l9_9), (7, .long l7_6), (5, .long l5_3), (0, .ref h_t), (1, .ref h_t_second), (2, .ref h_t_third), (3, .int l3), (4, .int l4)]) hx hb dX3_offerCrossings_76 hl (Nat.le_of_ble_eq_true rfl) rfl (fun ls hl => ?_)
      refine lv_aload_n hx hb dX3_offerCrossings_78 rfl (lv_at hl 5 rfl) ?_
      refine va_get (D := (dC, dI)) (ci := 2) (v := .ref h_t_third_y) (C := RX2) (T := TX2) (N := 5) hx hb hts in_X2 hown hK hP 7 rfl rfl 2 (Nat.le_of_ble_eq_true rfl) (hts _ qf_X3_74) (fun _ h9 => h9) rfl dX3_offerCrossings_79 ?_
      refine lv_iload hx hb dX3_offerCrossings_82 (lv_at hl 7 rfl) ?_
      refine lv_iconst (v := (1 : Int32)) hx hb dX3_offerCrossings_84 (by decide) ?_
      refine lv_iadd hx hb dX3_offerCrossings_85 ?_
      obtain ⟨hg_10, hf⟩ := gd_some hf
      refine va_iald hx hb hK hP 9 0 rfl rfl (inb_in hg_10) dX3_offerCrossings_86 ?_
      refine lv_aload_n hx hb dX3_offerCrossings_87 rfl (lv_at hl 5 rfl) ?_
      refine va_get (D := (dC, dI)) (ci := 2) (v := .ref h_t_third_y) (C := RX2) (T := TX2) (N := 5) hx hb hts in_X2 hown hK hP 7 rfl rfl 2 (Nat.le_of_ble_eq_true rfl) (hts _ qf_X3_74) (fun _ h9 => h9) rfl dX3_offerCrossings_88 ?_
      refine lv_iload hx hb dX3_offerCrossings_91 (lv_at hl 7 rfl) ?_
      obtain ⟨hg_11, hf⟩ := gd_some hf
      refine va_iald hx hb hK hP 9 0 rfl rfl (inb_in hg_11) dX3_offerCrossings_93 ?_
      refine lv_isub hx hb dX3_offerCrossings_94 ?_
      refine lv_i2l hx hb dX3_offerCrossings_95 rfl ?_
      refine lv_topl (fun l11_12 el11_12 => ?_)
      replace hf := xl_at hf el11_12
      refine lv_lstore (lv' := [(11, .long l11_12), (9, .long l9_9), (7, .long l7_6), (5, .long l5_3), (0, .ref h_t), (1, .ref h_t_second), (2, .ref h_t_third), (3, .int l3), (4, .int l4)]) hx hb dX3_offerCrossings_96 hl (Nat.le_of_ble_eq_true rfl) rfl (fun ls hl => ?_)
      refine lv_lload hx hb dX3_offerCrossings_98 (lv_at hl 3 rfl) ?_
      refine lv_lload hx hb dX3_offerCrossings_100 (lv_at hl 0 rfl) ?_
      refine lv_lmul hx hb dX3_offerCrossings_102 ?_
      refine lv_lload hx hb dX3_offerCrossings_103 (lv_at hl 2 rfl) ?_
      refine lv_lload hx hb dX3_offerCrossings_105 (lv_at hl 1 rfl) ?_
      refine lv_lmul hx hb dX3_offerCrossings_107 ?_
      refine lv_lsub hx hb dX3_offerCrossings_108 ?_
      refine lv_topl (fun l13_13 el13_13 => ?_)
      replace hf := xl_at hf el13_13
      refine lv_lstore (lv' := [(13, .long l13_13), (11, .long l11_12), (9, .long l9_9), (7, .long l7_6), (5, .long l5_3), (0, .ref h_t), (1, .ref h_t_second), (2, .ref h_t_third), (3, .int l3), (4, .int l4)]) hx hb dX3_offerCrossings_109 hl (Nat.le_of_ble_eq_true rfl) rfl (fun ls hl => ?_)
      refine lv_aload_n hx hb dX3_offerCrossings_111 rfl (lv_at hl 7 rfl) ?_
      refine va_get (D := (dC, dI)) (ci := 2) (v := .ref h_t_third_x) (C := RX2) (T := TX2) (N := 5) hx hb hts in_X2 hown hK hP 7 rfl rfl 1 (Nat.le_of_ble_eq_true rfl) (hts _ qf_X3_70) (fun _ h9 => h9) rfl dX3_offerCrossings_112 ?_
      refine lv_iload hx hb dX3_offerCrossings_115 (lv_at hl 9 rfl) ?_
      obtain ⟨hg_14, hf⟩ := gd_some hf
      refine va_iald hx hb hK hP 8 0 rfl rfl (inb_in hg_14) dX3_offerCrossings_117 ?_
      refine lv_aload_n hx hb dX3_offerCrossings_118 rfl (lv_at hl 6 rfl) ?_
      refine va_get (D := (dC, dI)) (ci := 2) (v := .ref h_t_second_x) (C := RX2) (T := TX2) (N := 5) hx hb hts in_X2 hown hK hP 4 rfl rfl 1 (Nat.le_of_ble_eq_true rfl) (hts _ qf_X3_70) (fun _ h9 => h9) rfl dX3_offerCrossings_119 ?_
      refine lv_iload_n hx hb dX3_offerCrossings_122 rfl (lv_at hl 8 rfl) ?_
      obtain ⟨hg_15, hf⟩ := gd_some hf
      refine va_iald hx hb hK hP 5 0 rfl rfl (inb_in hg_15) dX3_offerCrossings_123 ?_
      refine lv_isub hx hb dX3_offerCrossings_124 ?_
      refine lv_i2l hx hb dX3_offerCrossings_125 rfl ?_
      refine lv_lload hx hb dX3_offerCrossings_126 (lv_at hl 1 rfl) ?_
      refine lv_lmul hx hb dX3_offerCrossings_128 ?_
      refine lv_aload_n hx hb dX3_offerCrossings_129 rfl (lv_at hl 7 rfl) ?_
      refine va_get (D := (dC, dI)) (ci := 2) (v := .ref h_t_third_y) (C := RX2) (T := TX2) (N := 5) hx hb hts in_X2 hown hK hP 7 rfl rfl 2 (Nat.le_of_ble_eq_true rfl) (hts _ qf_X3_74) (fun _ h9 => h9) rfl dX3_offerCrossings_130 ?_
      refine lv_iload hx hb dX3_offerCrossings_133 (lv_at hl 9 rfl) ?_
      obtain ⟨hg_16, hf⟩ := gd_some hf
      refine va_iald hx hb hK hP 9 0 rfl rfl (inb_in hg_16) dX3_offerCrossings_135 ?_
      refine lv_aload_n hx hb dX3_offerCrossings_136 rfl (lv_at hl 6 rfl) ?_
      refine va_get (D := (dC, dI)) (ci := 2) (v := .ref h_t_second_y) (C := RX2) (T := TX2) (N := 5) hx hb hts in_X2 hown hK hP 4 rfl rfl 2 (Nat.le_of_ble_eq_true rfl) (hts _ qf_X3_74) (fun _ h9 => h9) rfl dX3_offerCrossings_137 ?_
      refine lv_iload_n hx hb dX3_offerCrossings_140 rfl (lv_at hl 8 rfl) ?_
      obtain ⟨hg_17, hf⟩ := gd_some hf
      refine va_iald hx hb hK hP 6 0 rfl rfl (inb_in hg_17) dX3_offerCrossings_141 ?_
      refine lv_isub hx hb dX3_offerCrossings_142 ?_
      refine lv_i2l hx hb dX3_offerCrossings_143 rfl ?_
      refine lv_lload hx hb dX3_offerCrossings_144 (lv_at hl 2 rfl) ?_
      refine lv_lmul hx hb dX3_offerCrossings_146 ?_
      refine lv_lsub hx hb dX3_offerCrossings_147 ?_
      refine lv_topl (fun l15_18 el15_18 => ?_)
      replace hf := xl_at hf el15_18
      refine lv_lstore (lv' := [(15, .long l15_18), (13, .long l13_13), (11, .long l11_12), (9, .long l9_9), (7, .long l7_6), (5, .long l5_3), (0, .ref h_t), (1, .ref h_t_second), (2, .ref h_t_third), (3, .int l3), (4, .int l4)]) hx hb dX3_offerCrossings_148 hl (Nat.le_of_ble_eq_true rfl) rfl (fun ls hl => ?_)
      refine lv_lload hx hb dX3_offerCrossings_150 (lv_at hl 1 rfl) ?_
      refine lv_lconst (v := (0 : Int64)) hx hb dX3_offerCrossings_152 (by decide) ?_
      refine W.lcmp hx hb dX3_offerCrossings_153 ?_
      obtain ⟨k_21, ek_21, hf⟩ := jn_out hf
      have J_22 : ∀ (l13_19 : Int64) (l15_20 : Int64) (H : Heap) (locs : List Loc) (ls : Array Slot), va_P (dC, dI) vwCl [(h_t, .inr (3, [.ref h_t_first, .ref h_t_second, .ref h_t_third, .ref h_t_place, .long t_gapSquare, .long t_gapLower, .long t_gapX, .long t_gapY, .ref h_t_near, .int t_threefold, .long t_leastX, .long t_leastY, .long t_leastLower])), (h_t_first, .inr (2, [.ref h_t_first_chain, .ref h_t_first_x, .ref h_t_first_y, .ref h_t_first_sorted, .int t_first_size])), (h_t_first_x, .inl (cI, 48, .inl t_first_x)), (h_t_first_y, .inl (cI, 48, .inl t_first_y)), (h_t_second, .inr (2, [.ref h_t_second_chain, .ref h_t_second_x, .ref h_t_second_y, .ref h_t_second_sorted, .int t_second_size])), (h_t_second_x, .inl (cI, 48, .inl t_second_x)), (h_t_second_y, .inl (cI, 48, .inl t_second_y)), (h_t_third, .inr (2, [.ref h_t_third_chain, .ref h_t_third_x, .ref h_t_third_y, .ref h_t_third_sorted, .int t_third_size])), (h_t_third_x, .inl (cI, 48, .inl t_third_x)), (h_t_third_y, .inl (cI, 48, .inl t_third_y))] H → va_D A [(h_t, .inr (3, [.ref h_t_first, .ref h_t_second, .ref h_t_third, .ref h_t_place, .long t_gapSquare, .long t_gapLower, .long t_gapX, .long t_gapY, .ref h_t_near, .int t_threefold, .long t_leastX, .long t_leastY, .long t_leastLower])), (h_t_first, .inr (2, [.ref h_t_first_chain, .ref h_t_first_x, .ref h_t_first_y, .ref h_t_first_sorted, .int t_first_size])), (h_t_first_x, .inl (cI, 48, .inl t_first_x)), (h_t_first_y, .inl (cI, 48, .inl t_first_y)), (h_t_second, .inr (2, [.ref h_t_second_chain, .ref h_t_second_x, .ref h_t_second_y, .ref h_t_second_sorted, .int t_second_size])), (h_t_second_x, .inl (cI, 48, .inl t_second_x)), (h_t_second_y, .inl (cI, 48, .inl t_second_y)), (h_t_third, .inr (2, [.ref h_t_third_chain, .ref h_t_third_x, .ref h_t_third_y, .ref h_t_third_sorted, .int t_third_size])), (h_t_third_x, .inl (cI, 48, .inl t_third_x)), (h_t_third_y, .inl (cI, 48, .inl t_third_y))] → va_S A s.heap H locs → lv_has ls 17 [(0, .ref h_t), (1, .ref h_t_second), (2, .ref h_t_third), (3, .int l3), (4, .int l4), (5, .long l5_3), (7, .long l7_6), (13, .long l13_19), (15, .long l15_20)] → k_21 l13_19 l15_20 = some (x_t_leastX, x_t_leastY, x_t_leastLower) → W p l e R s m args below meth c H locs 0 0 Q (F0 m 167 ls []) := by
        intro l13_19 l15_20 H locs ls hP hD hS hl hf
        rw [ek_21] at hf
        try dsimp only at hf
        refine lv_lload hx hb dX3_offerCrossings_167 (lv_at hl 7 rfl) ?_
        refine lv_lconst (v := (0 : Int64)) hx hb dX3_offerCrossings_169 (by decide) ?_
        refine W.lcmp hx hb dX3_offerCrossings_170 ?_
        obtain ⟨k_26, ek_26, hf⟩ := jn_out hf
        have J_27 : ∀ (t_leastX_23 : Int64) (t_leastY_24 : Int64) (t_leastLower_25 : Int64) (H : Heap) (locs : List Loc) (ls : Array Slot), va_P (dC, dI) vwCl [(h_t, .inr (3, [.ref h_t_first, .ref h_t_second, .ref h_t_third, .ref h_t_place, .long t_gapSquare, .long t_gapLower, .long t_gapX, .long t_gapY, .ref h_t_near, .int t_threefold, .long t_leastX_23, .long t_leastY_24, .long t_leastLower_25])), (h_t_first, .inr (2, [.ref h_t_first_chain, .ref h_t_first_x, .ref h_t_first_y, .ref h_t_first_sorted, .int t_first_size])), (h_t_first_x, .inl (cI, 48, .inl t_first_x)), (h_t_first_y, .inl (cI, 48, .inl t_first_y)), (h_t_second, .inr (2, [.ref h_t_second_chain, .ref h_t_second_x, .ref h_t_second_y, .ref h_t_second_sorted, .int t_second_size])), (h_t_second_x, .inl (cI, 48, .inl t_second_x)), (h_t_second_y, .inl (cI, 48, .inl t_second_y)), (h_t_third, .inr (2, [.ref h_t_third_chain, .ref h_t_third_x, .ref h_t_third_y, .ref h_t_third_sorted, .int t_third_size])), (h_t_third_x, .inl (cI, 48, .inl t_third_x)), (h_t_third_y, .inl (cI, 48, .inl t_third_y))] H → va_D A [(h_t, .inr (3, [.ref h_t_first, .ref h_t_second, .ref h_t_third, .ref h_t_place, .long t_gapSquare, .long t_gapLower, .long t_gapX, .long t_gapY, .ref h_t_near, .int t_threefold, .long t_leastX_23, .long t_leastY_24, .long t_leastLower_25])), (h_t_first, .inr (2, [.ref h_t_first_chain, .ref h_t_first_x, .ref h_t_first_y, .ref h_t_first_sorted, .int t_first_size])), (h_t_first_x, .inl (cI, 48, .inl t_first_x)), (h_t_first_y, .inl (cI, 48, .inl t_first_y)), (h_t_second, .inr (2, [.ref h_t_second_chain, .ref h_t_second_x, .ref h_t_second_y, .ref h_t_second_sorted, .int t_second_size])), (h_t_second_x, .inl (cI, 48, .inl t_second_x)), (h_t_second_y, .inl (cI, 48, .inl t_second_y)), (h_t_third, .inr (2, [.ref h_t_third_chain, .ref h_t_third_x, .ref h_t_third_y, .ref h_t_third_sorted, .int t_third_size])), (h_t_third_x, .inl (cI, 48, .inl t_third_x)), (h_t_third_y, .inl (cI, 48, .inl t_third_y))] → va_S A s.heap H locs → lv_has ls 17 [(0, .ref h_t), (1, .ref h_t_second), (2, .ref h_t_third), (3, .int l3), (4, .int l4)] → k_26 t_leastX_23 t_leastY_24 t_leastLower_25 = some (x_t_leastX, x_t_leastY, x_t_leastLower) → W p l e R s m args below meth c H locs 0 0 Q (F0 m 227 ls []) := by
          intro t_leastX_23 t_leastY_24 t_leastLower_25 H locs ls hP hD hS hl hf
          rw [ek_26] at hf
          try dsimp only at hf
          obtain ⟨l4_28, el4_28⟩ : ∃ y : Int32, y = l4 + (1 : Int32) := ⟨_, rfl⟩
          replace hf := xl_at hf el4_28
          refine lv_iinc (v := l4_28) (lv' := [(4, .int l4_28), (0, .ref h_t), (1, .ref h_t_second), (2, .ref h_t_third), (3, .int l3)]) hx hb dX3_offerCrossings_227 hl (k := 4) rfl (by rw [el4_28]; rfl) (Nat.le_of_ble_eq_true rfl) rfl (fun ls hl => ?_)
          refine lv_goto (tgt := 13) hx hb dX3_offerCrossings_230 (by decide) ?_
          exact ih l4_28 t_leastX_23 t_leastY_24 t_leastLower_25 _ _ _ H locs ls hP hD hS (lv_sub hl [1, 2, 3, 4, 0] rfl) hf hk
        refine lv_if_le (tgt := 227) hx hb dX3_offerCrossings_171 (by decide) (fun hc => ?_) (fun hc => ?_)
        · replace hf := it_t ((lg_cmp_le _ _).mp hc) hf
          exact J_27 t_leastX t_leastY t_leastLower H locs ls hP hD hS (lv_sub hl [0, 1, 2, 3, 4] rfl) hf
        · replace hf := it_f (fun h9 => hc ((lg_cmp_le _ _).mpr h9)) hf
          refine lv_lload hx hb dX3_offerCrossings_174 (lv_at hl 8 rfl) ?_
          refine lv_lconst (v := (0 : Int64)) hx hb dX3_offerCrossings_176 (by decide) ?_
          refine W.lcmp hx hb dX3_offerCrossings_177 ?_
          refine lv_if_lt (tgt := 227) hx hb dX3_offerCrossings_178 (by decide) (fun hc => ?_) (fun hc => ?_)
          · replace hf := it_t ((lg_cmp_lt _ _).mp hc) hf
            exact J_27 t_leastX t_leastY t_leastLower H locs ls hP hD hS (lv_sub hl [0, 1, 2, 3, 4] rfl) hf
          · replace hf := it_f (fun h9 => hc ((lg_cmp_lt _ _).mpr h9)) hf
            refine lv_lload hx hb dX3_offerCrossings_181 (lv_at hl 8 rfl) ?_
            refine lv_lload hx hb dX3_offerCrossings_183 (lv_at hl 7 rfl) ?_
            refine W.lcmp hx hb dX3_offerCrossings_185 ?_
            refine lv_if_gt (tgt := 227) hx hb dX3_offerCrossings_186 (by decide) (fun hc => ?_) (fun hc => ?_)
            · replace hf := it_t ((lg_cmp_gt _ _).mp hc) hf
              exact J_27 t_leastX t_leastY t_leastLower H locs ls hP hD hS (lv_sub hl [0, 1, 2, 3, 4] rfl) hf
            · replace hf := it_f (fun h9 => hc ((lg_cmp_gt _ _).mpr h9)) hf
              refine lv_aload_n hx hb dX3_offerCrossings_189 rfl (lv_at hl 0 rfl) ?_
              refine lv_aload_n hx hb dX3_offerCrossings_190 rfl (lv_at hl 1 rfl) ?_
              refine va_get (D := (dC, dI)) (ci := 2) (v := .ref h_t_second_x) (C := RX2) (T := TX2) (N := 5) hx hb hts in_X2 hown hK hP 4 rfl rfl 1 (Nat.le_of_ble_eq_true rfl) (hts _ qf_X3_70) (fun _ h9 => h9) rfl dX3_offerCrossings_191 ?_
              refine lv_iload_n hx hb dX3_offerCrossings_194 rfl (lv_at hl 3 rfl) ?_
              obtain ⟨hg_29, hf⟩ := gd_some hf
              refine va_iald hx hb hK hP 5 0 rfl rfl (inb_in hg_29) dX3_offerCrossings_195 ?_
              refine lv_i2l hx hb dX3_offerCrossings_196 rfl ?_
              refine lv_lload hx hb dX3_offerCrossings_197 (lv_at hl 7 rfl) ?_
              refine lv_lmul hx hb dX3_offerCrossings_199 ?_
              refine lv_lload hx hb dX3_offerCrossings_200 (lv_at hl 8 rfl) ?_
              refine lv_lload hx hb dX3_offerCrossings_202 (lv_at hl 5 rfl) ?_
              refine lv_lmul hx hb dX3_offerCrossings_204 ?_
              refine lv_ladd hx hb dX3_offerCrossings_205 ?_
              refine lv_aload_n hx hb dX3_offerCrossings_206 rfl (lv_at hl 1 rfl) ?_
              refine va_get (D := (dC, dI)) (ci := 2) (v := .ref h_t_second_y) (C := RX2) (T := TX2) (N := 5) hx hb hts in_X2 hown hK hP 4 rfl rfl 2 (Nat.le_of_ble_eq_true rfl) (hts _ qf_X3_74) (fun _ h9 => h9) rfl dX3_offerCrossings_207 ?_
              refine lv_iload_n hx hb dX3_offerCrossings_210 rfl (lv_at hl 3 rfl) ?_
              obtain ⟨hg_30, hf⟩ := gd_some hf
              refine va_iald hx hb hK hP 6 0 rfl rfl (inb_in hg_30) dX3_offerCrossings_211 ?_
              refine lv_i2l hx hb dX3_offerCrossings_212 rfl ?_
              refine lv_lload hx hb dX3_offerCrossings_213 (lv_at hl 7 rfl) ?_
              refine lv_lmul hx hb dX3_offerCrossings_215 ?_
              refine lv_lload hx hb dX3_offerCrossings_216 (lv_at hl 8 rfl) ?_
              refine lv_lload hx hb dX3_offerCrossings_218 (lv_at hl 6 rfl) ?_
              refine lv_lmul hx hb dX3_offerCrossings_220 ?_
              refine lv_ladd hx hb dX3_offerCrossings_221 ?_
              refine lv_lload hx hb dX3_offerCrossings_222 (lv_at hl 7 rfl) ?_
              obtain ⟨t_leastX_31, t_leastY_32, t_leastLower_33, hq_34, hf⟩ := b3_some hf
              refine xcv (wr := []) (w2 := [(h_t, .inr (3, [.ref h_t_first, .ref h_t_second, .ref h_t_third, .ref h_t_place, .long t_gapSquare, .long t_gapLower, .long t_gapX, .long t_gapY, .ref h_t_near, .int t_threefold, .long t_leastX_31, .long t_leastY_32, .long t_leastLower_33])), (h_t_first, .inr (2, [.ref h_t_first_chain, .ref h_t_first_x, .ref h_t_first_y, .ref h_t_first_sorted, .int t_first_size])), (h_t_first_x, .inl (cI, 48, .inl t_first_x)), (h_t_first_y, .inl (cI, 48, .inl t_first_y)), (h_t_second, .inr (2, [.ref h_t_second_chain, .ref h_t_second_x, .ref h_t_second_y, .ref h_t_second_sorted, .int t_second_size])), (h_t_second_x, .inl (cI, 48, .inl t_second_x)), (h_t_second_y, .inl (cI, 48, .inl t_second_y)), (h_t_third, .inr (2, [.ref h_t_third_chain, .ref h_t_third_x, .ref h_t_third_y, .ref h_t_third_sorted, .int t_third_size])), (h_t_third_x, .inl (cI, 48, .inl t_third_x)), (h_t_third_y, .inl (cI, 48, .inl t_third_y))]) (va_runV (As := [.long ((((t_second_x l3.toNatClampNeg).toInt64) * l13_19) + (l15_20 * l5_3)), .long ((((t_second_y l3.toNatClampNeg).toInt64) * l13_19) + (l15_20 * l7_6)), .long l13_19]) (rest := []) ⟨hx, hb, hml, hown, hts⟩ (mtX3_offer l dC dI cI cL cB K h_t h_t_first h_t_second h_t_third h_t_place h_t_near h_t_first_chain h_t_first_x h_t_first_y h_t_first_sorted h_t_second_chain h_t_second_x h_t_second_y h_t_second_sorted h_t_third_chain h_t_third_x h_t_third_y h_t_third_sorted H.size t_gapSquare t_gapLower t_gapX t_gapY t_threefold t_leastX t_leastY t_leastLower t_first_size t_first_x t_first_y t_second_size t_second_x t_second_y t_third_size t_third_x t_third_y ((((t_second_x l3.toNatClampNeg).toInt64) * l13_19) + (l15_20 * l5_3)) ((((t_second_y l3.toNatClampNeg).toInt64) * l13_19) + (l15_20 * l7_6)) l13_19 t_leastX_31 t_leastY_32 t_leastLower_33 hq_34) (cwV 3 hts gv_X3_77 rfl rfl rfl hdV_X3_offer ⟨Nat.le_trans (Nat.le_of_ble_eq_true rfl) hF, Nat.le_trans (Nat.le_of_ble_eq_true rfl) hLo⟩) (cPreV hK hP hD hT [0, 1, 2, 3, 4, 5, 6, 7, 8, 9] rfl rfl (ci := 3) (q0 := 0) rfl rfl) rfl rfl hl.1 rfl (lv_room (Nat.le_of_ble_eq_true rfl)) dX3_offerCrossings_224 ⟨Nat.zero_le _, Nat.zero_le _⟩) hP hD hS hA [0, 1, 2, 3, 4, 5, 6, 7, 8, 9] [] [0, 1, 2, 3, 4, 5, 6, 7, 8, 9] rfl rfl rfl rfl rfl rfl (fun H locs hP hD hS => ?_)
              exact J_27 t_leastX_31 t_leastY_32 t_leastLower_33 H locs ls hP hD hS (lv_sub hl [0, 1, 2, 3, 4] rfl) hf
      refine lv_if_ge (tgt := 167) hx hb dX3_offerCrossings_154 (by decide) (fun hc => ?_) (fun hc => ?_)
      · replace hf := it_t ((lg_cmp_ge _ _).mp hc) hf
        exact J_22 l13_13 l15_18 H locs ls hP hD hS (lv_sub hl [6, 7, 8, 9, 10, 5, 4, 1, 0] rfl) hf
      · replace hf := it_f (fun h9 => hc ((lg_cmp_ge _ _).mpr h9)) hf
        refine lv_lload hx hb dX3_offerCrossings_157 (lv_at hl 1 rfl) ?_
        refine lv_lneg hx hb dX3_offerCrossings_159 ?_
        refine lv_topl (fun l13_35 el13_35 => ?_)
        replace hf := xl_at hf el13_35
        refine lv_lstore (lv' := [(13, .long l13_35), (15, .long l15_18), (11, .long l11_12), (9, .long l9_9), (7, .long l7_6), (5, .long l5_3), (0, .ref h_t), (1, .ref h_t_second), (2, .ref h_t_third), (3, .int l3), (4, .int l4)]) hx hb dX3_offerCrossings_160 hl (Nat.le_of_ble_eq_true rfl) rfl (fun ls hl => ?_)
        refine lv_lload hx hb dX3_offerCrossings_162 (lv_at hl 1 rfl) ?_
        refine lv_lneg hx hb dX3_offerCrossings_164 ?_
        refine lv_topl (fun l15_36 el15_36 => ?_)
        replace hf := xl_at hf el15_36
        refine lv_lstore (lv' := [(15, .long l15_36), (13, .long l13_35), (11, .long l11_12), (9, .long l9_9), (7, .long l7_6), (5, .long l5_3), (0, .ref h_t), (1, .ref h_t_second), (2, .ref h_t_third), (3, .int l3), (4, .int l4)]) hx hb dX3_offerCrossings_165 hl (Nat.le_of_ble_eq_true rfl) rfl (fun ls hl => ?_)
        exact J_22 l13_35 l15_36 H locs ls hP hD hS (lv_sub hl [6, 7, 8, 9, 10, 5, 4, 1, 0] rfl) hf
set_option maxRecDepth 100000 in
set_option maxHeartbeats 4000000 in
theorem wX3_offerCrossings_p1atsecond_p2atthird_L2 {p : Program} {l : Launch} {e : Env} {R : Room} {s : State} {m : MethodId} {args : Array Value} {below : List Frame} {meth : Method} {c : Code} {Q : State → Prop} {A : Nat → Prop} {dC : Nat → ClassId} {dI : Nat → Nat → Nat} {cI cL cB : ClassId} {K : Nat} (C0 : Sx p R s m args c cX3_offerCrossings 17 RX3 A dC dI cI cL cB 2 63) (h_t h_t_first h_t_second h_t_third h_t_place h_t_near h_t_first_chain h_t_first_x h_t_first_y h_t_first_sorted h_t_second_chain h_t_second_x h_t_second_y h_t_second_sorted h_t_third_chain h_t_third_x h_t_third_y h_t_third_sorted : Nat) (t_gapSquare : Int64) (t_gapLower : Int64) (t_gapX : Int64) (t_gapY : Int64) (t_threefold : Int32) (t_first_size : Int32) (t_first_x : Nat → Int32) (t_first_y : Nat → Int32) (t_second_size : Int32) (t_second_x : Nat → Int32) (t_second_y : Nat → Int32) (t_third_size : Int32) (t_third_x : Nat → Int32) (t_third_y : Nat → Int32) : ∀ (n : Nat) (l3 : Int32) (t_leastX : Int64) (t_leastY : Int64) (t_leastLower : Int64) (x_t_leastX : Int64) (x_t_leastY : Int64) (x_t_leastLower : Int64) (H : Heap) (locs : List Loc) (ls : Array Slot), va_P (dC, dI) vwCl [(h_t, .inr (3, [.ref h_t_first, .ref h_t_second, .ref h_t_third, .ref h_t_place, .long t_gapSquare, .long t_gapLower, .long t_gapX, .long t_gapY, .ref h_t_near, .int t_threefold, .long t_leastX, .long t_leastY, .long t_leastLower])), (h_t_first, .inr (2, [.ref h_t_first_chain, .ref h_t_first_x, .ref h_t_first_y, .ref h_t_first_sorted, .int t_first_size])), (h_t_first_x, .inl (cI, 48, .inl t_first_x)), (h_t_first_y, .inl (cI, 48, .inl t_first_y)), (h_t_second, .inr (2, [.ref h_t_second_chain, .ref h_t_second_x, .ref h_t_second_y, .ref h_t_second_sorted, .int t_second_size])), (h_t_second_x, .inl (cI, 48, .inl t_second_x)), (h_t_second_y, .inl (cI, 48, .inl t_second_y)), (h_t_third, .inr (2, [.ref h_t_third_chain, .ref h_t_third_x, .ref h_t_third_y, .ref h_t_third_sorted, .int t_third_size])), (h_t_third_x, .inl (cI, 48, .inl t_third_x)), (h_t_third_y, .inl (cI, 48, .inl t_third_y))] H → va_D A [(h_t, .inr (3, [.ref h_t_first, .ref h_t_second, .ref h_t_third, .ref h_t_place, .long t_gapSquare, .long t_gapLower, .long t_gapX, .long t_gapY, .ref h_t_near, .int t_threefold, .long t_leastX, .long t_leastY, .long t_leastLower])), (h_t_first, .inr (2, [.ref h_t_first_chain, .ref h_t_first_x, .ref h_t_first_y, .ref h_t_first_sorted, .int t_first_size])), (h_t_first_x, .inl (cI, 48, .inl t_first_x)), (h_t_first_y, .inl (cI, 48, .inl t_first_y)), (h_t_second, .inr (2, [.ref h_t_second_chain, .ref h_t_second_x, .ref h_t_second_y, .ref h_t_second_sorted, .int t_second_size])), (h_t_second_x, .inl (cI, 48, .inl t_second_x)), (h_t_second_y, .inl (cI, 48, .inl t_second_y)), (h_t_third, .inr (2, [.ref h_t_third_chain, .ref h_t_third_x, .ref h_t_third_y, .ref h_t_third_sorted, .int t_third_size])), (h_t_third_x, .inl (cI, 48, .inl t_third_x)), (h_t_third_y, .inl (cI, 48, .inl t_third_y))] → va_S A s.heap H locs → lv_has ls 17 [(0, .ref h_t), (1, .ref h_t_second), (2, .ref h_t_third), (3, .int l3)] → fX3_offerCrossings_p1atsecond_p2atthird_L2 K t_threefold t_first_size t_first_x t_first_y t_second_size t_second_x t_second_y t_third_size t_third_x t_third_y n l3 t_leastX t_leastY t_leastLower = some (x_t_leastX, x_t_leastY, x_t_leastLower) → (∀ (H : Heap) (locs : List Loc) (ls : Array Slot), va_P (dC, dI) vwCl [(h_t, .inr (3, [.ref h_t_first, .ref h_t_second, .ref h_t_third, .ref h_t_place, .long t_gapSquare, .long t_gapLower, .long t_gapX, .long t_gapY, .ref h_t_near, .int t_threefold, .long x_t_leastX, .long x_t_leastY, .long x_t_leastLower])), (h_t_first, .inr (2, [.ref h_t_first_chain, .ref h_t_first_x, .ref h_t_first_y, .ref h_t_first_sorted, .int t_first_size])), (h_t_first_x, .inl (cI, 48, .inl t_first_x)), (h_t_first_y, .inl (cI, 48, .inl t_first_y)), (h_t_second, .inr (2, [.ref h_t_second_chain, .ref h_t_second_x, .ref h_t_second_y, .ref h_t_second_sorted, .int t_second_size])), (h_t_second_x, .inl (cI, 48, .inl t_second_x)), (h_t_second_y, .inl (cI, 48, .inl t_second_y)), (h_t_third, .inr (2, [.ref h_t_third_chain, .ref h_t_third_x, .ref h_t_third_y, .ref h_t_third_sorted, .int t_third_size])), (h_t_third_x, .inl (cI, 48, .inl t_third_x)), (h_t_third_y, .inl (cI, 48, .inl t_third_y))] H → va_D A [(h_t, .inr (3, [.ref h_t_first, .ref h_t_second, .ref h_t_third, .ref h_t_place, .long t_gapSquare, .long t_gapLower, .long t_gapX, .long t_gapY, .ref h_t_near, .int t_threefold, .long x_t_leastX, .long x_t_leastY, .long x_t_leastLower])), (h_t_first, .inr (2, [.ref h_t_first_chain, .ref h_t_first_x, .ref h_t_first_y, .ref h_t_first_sorted, .int t_first_size])), (h_t_first_x, .inl (cI, 48, .inl t_first_x)), (h_t_first_y, .inl (cI, 48, .inl t_first_y)), (h_t_second, .inr (2, [.ref h_t_second_chain, .ref h_t_second_x, .ref h_t_second_y, .ref h_t_second_sorted, .int t_second_size])), (h_t_second_x, .inl (cI, 48, .inl t_second_x)), (h_t_second_y, .inl (cI, 48, .inl t_second_y)), (h_t_third, .inr (2, [.ref h_t_third_chain, .ref h_t_third_x, .ref h_t_third_y, .ref h_t_third_sorted, .int t_third_size])), (h_t_third_x, .inl (cI, 48, .inl t_third_x)), (h_t_third_y, .inl (cI, 48, .inl t_third_y))] → va_S A s.heap H locs → lv_has ls 17 [] → W p l e R s m args below meth c H locs 0 0 Q (F0 m 239 ls [])) → W p l e R s m args below meth c H locs 0 0 Q (F0 m 2 ls []) := by
  obtain ⟨hx, hb, hml, hown, hts, hK, hT, hA, hF, hLo⟩ := id C0
  intro n
  induction n with
  | zero =>
    intro l3 t_leastX t_leastY t_leastLower x_t_leastX x_t_leastY x_t_leastLower H locs ls hP hD hS hl hf
    rw [fX3_offerCrossings_p1atsecond_p2atthird_L2] at hf
    cases hf
  | succ n ih =>
    intro l3 t_leastX t_leastY t_leastLower x_t_leastX x_t_leastY x_t_leastLower H locs ls hP hD hS hl hf hk
    rw [fX3_offerCrossings_p1atsecond_p2atthird_L2] at hf
    refine lv_iload_n hx hb dX3_offerCrossings_2 rfl (lv_at hl 3 rfl) ?_
    refine lv_aload_n hx hb dX3_offerCrossings_3 rfl (lv_at hl 1 rfl) ?_
    refine va_get (D := (dC, dI)) (ci := 2) (v := .int t_second_size) (C := RX2) (T := TX2) (N := 5) hx hb hts in_X2 hown hK hP 4 rfl rfl 4 (Nat.le_of_ble_eq_true rfl) (hts _ qf_X3_66) (fun _ h9 => h9) rfl dX3_offerCrossings_4 ?_
    refine lv_icmp_ge (tgt := 239) hx hb dX3_offerCrossings_7 (by decide) (fun hc => ?_) (fun hc => ?_)
    · replace hf := it_t (hc) hf
      obtain ⟨rfl, rfl, rfl⟩ := o3 hf
      exact hk H locs ls hP hD hS (lv_sub hl [] rfl)
    · replace hf := it_f (hc) hf
      refine lv_iconst (v := (0 : Int32)) hx hb dX3_offerCrossings_10 (by decide) ?_
      refine lv_istore (lv' := [(4, .int (0 : Int32)), (0, .ref h_t), (1, .ref h_t_second), (2, .ref h_t_third), (3, .int l3)]) hx hb dX3_offerCrossings_11 hl (Nat.le_of_ble_eq_true rfl) rfl (fun ls hl => ?_)
      obtain ⟨t_leastX_38, t_leastY_39, t_leastLower_40, hq_37, hf⟩ := b3_some hf
      refine wX3_offerCrossings_p1atsecond_p2atthird_L13 C0 h_t h_t_first h_t_second h_t_third h_t_place h_t_near h_t_first_chain h_t_first_x h_t_first_y h_t_first_sorted h_t_second_chain h_t_second_x h_t_second_y h_t_second_sorted h_t_third_chain h_t_third_x h_t_third_y h_t_third_sorted t_gapSquare t_gapLower t_gapX t_gapY t_threefold t_first_size t_first_x t_first_y t_second_size t_second_x t_second_y t_third_size t_third_x t_third_y l3 K (0 : Int32) t_leastX t_leastY t_leastLower t_leastX_38 t_leastY_39 t_leastLower_40 H locs ls hP hD hS (lv_sub hl [1, 2, 3, 4, 0] rfl) hq_37 ?_
      intro H locs ls hP hD hS hl
      obtain ⟨l3_41, el3_41⟩ : ∃ y : Int32, y = l3 + (1 : Int32) := ⟨_, rfl⟩
      replace hf := xl_at hf el3_41
      refine lv_iinc (v := l3_41) (lv' := [(3, .int l3_41), (0, .ref h_t), (1, .ref h_t_second), (2, .ref h_t_third)]) hx hb dX3_offerCrossings_233 hl (k := 3) rfl (by rw [el3_41]; rfl) (Nat.le_of_ble_eq_true rfl) rfl (fun ls hl => ?_)
      refine lv_goto (tgt := 2) hx hb dX3_offerCrossings_236 (by decide) ?_
      exact ih l3_41 t_leastX_38 t_leastY_39 t_leastLower_40 _ _ _ H locs ls hP hD hS (lv_sub hl [1, 2, 3, 0] rfl) hf hk
set_option maxRecDepth 100000 in
set_option maxHeartbeats 4000000 in
theorem mtX3_offerCrossings_p1atsecond_p2atthird (l : Launch) (dC : Nat → ClassId) (dI : Nat → Nat → Nat) (cI cL cB : ClassId) (K : Nat) (h_t h_t_first h_t_second h_t_third h_t_place h_t_near h_t_first_chain h_t_first_x h_t_first_y h_t_first_sorted h_t_second_chain h_t_second_x h_t_second_y h_t_second_sorted h_t_third_chain h_t_third_x h_t_third_y h_t_third_sorted : Nat) (sz : Nat) (t_gapSquare : Int64) (t_gapLower : Int64) (t_gapX : Int64) (t_gapY : Int64) (t_threefold : Int32) (t_leastX : Int64) (t_leastY : Int64) (t_leastLower : Int64) (t_first_size : Int32) (t_first_x : Nat → Int32) (t_first_y : Nat → Int32) (t_second_size : Int32) (t_second_x : Nat → Int32) (t_second_y : Nat → Int32) (t_third_size : Int32) (t_third_x : Nat → Int32) (t_third_y : Nat → Int32) (o_t_leastX : Int64) (o_t_leastY : Int64) (o_t_leastLower : Int64) (hf : fX3_offerCrossings_p1atsecond_p2atthird K t_threefold t_leastX t_leastY t_leastLower t_first_size t_first_x t_first_y t_second_size t_second_x t_second_y t_third_size t_third_x t_third_y = some (o_t_leastX, o_t_leastY, o_t_leastLower)) : Met l yX3_offerCrossings [Cond.code yX3_offerCrossings cX3_offerCrossings 17 none] ({ frames := 2, cells := 0, slots := 0, locals := 63 }) (va_Pc [.ref h_t, .ref h_t_second, .ref h_t_third] (cPre dC dI cI cL cB sz [(h_t, .inr (3, [.ref h_t_first, .ref h_t_second, .ref h_t_third, .ref h_t_place, .long t_gapSquare, .long t_gapLower, .long t_gapX, .long t_gapY, .ref h_t_near, .int t_threefold, .long t_leastX, .long t_leastY, .long t_leastLower])), (h_t_first, .inr (2, [.ref h_t_first_chain, .ref h_t_first_x, .ref h_t_first_y, .ref h_t_first_sorted, .int t_first_size])), (h_t_first_x, .inl (cI, 48, .inl t_first_x)), (h_t_first_y, .inl (cI, 48, .inl t_first_y)), (h_t_second, .inr (2, [.ref h_t_second_chain, .ref h_t_second_x, .ref h_t_second_y, .ref h_t_second_sorted, .int t_second_size])), (h_t_second_x, .inl (cI, 48, .inl t_second_x)), (h_t_second_y, .inl (cI, 48, .inl t_second_y)), (h_t_third, .inr (2, [.ref h_t_third_chain, .ref h_t_third_x, .ref h_t_third_y, .ref h_t_third_sorted, .int t_third_size])), (h_t_third_x, .inl (cI, 48, .inl t_third_x)), (h_t_third_y, .inl (cI, 48, .inl t_third_y))])) (cQv dC dI (va_A [(h_t, .inr (3, [.ref h_t_first, .ref h_t_second, .ref h_t_third, .ref h_t_place, .long t_gapSquare, .long t_gapLower, .long t_gapX, .long t_gapY, .ref h_t_near, .int t_threefold, .long t_leastX, .long t_leastY, .long t_leastLower])), (h_t_first, .inr (2, [.ref h_t_first_chain, .ref h_t_first_x, .ref h_t_first_y, .ref h_t_first_sorted, .int t_first_size])), (h_t_first_x, .inl (cI, 48, .inl t_first_x)), (h_t_first_y, .inl (cI, 48, .inl t_first_y)), (h_t_second, .inr (2, [.ref h_t_second_chain, .ref h_t_second_x, .ref h_t_second_y, .ref h_t_second_sorted, .int t_second_size])), (h_t_second_x, .inl (cI, 48, .inl t_second_x)), (h_t_second_y, .inl (cI, 48, .inl t_second_y)), (h_t_third, .inr (2, [.ref h_t_third_chain, .ref h_t_third_x, .ref h_t_third_y, .ref h_t_third_sorted, .int t_third_size])), (h_t_third_x, .inl (cI, 48, .inl t_third_x)), (h_t_third_y, .inl (cI, 48, .inl t_third_y))] sz) [(h_t, .inr (3, [.ref h_t_first, .ref h_t_second, .ref h_t_third, .ref h_t_place, .long t_gapSquare, .long t_gapLower, .long t_gapX, .long t_gapY, .ref h_t_near, .int t_threefold, .long o_t_leastX, .long o_t_leastY, .long o_t_leastLower])), (h_t_first, .inr (2, [.ref h_t_first_chain, .ref h_t_first_x, .ref h_t_first_y, .ref h_t_first_sorted, .int t_first_size])), (h_t_first_x, .inl (cI, 48, .inl t_first_x)), (h_t_first_y, .inl (cI, 48, .inl t_first_y)), (h_t_second, .inr (2, [.ref h_t_second_chain, .ref h_t_second_x, .ref h_t_second_y, .ref h_t_second_sorted, .int t_second_size])), (h_t_second_x, .inl (cI, 48, .inl t_second_x)), (h_t_second_y, .inl (cI, 48, .inl t_second_y)), (h_t_third, .inr (2, [.ref h_t_third_chain, .ref h_t_third_x, .ref h_t_third_y, .ref h_t_third_sorted, .int t_third_size])), (h_t_third_x, .inl (cI, 48, .inl t_third_x)), (h_t_third_y, .inl (cI, 48, .inl t_third_y))]) 0 0 (va_A [(h_t, .inr (3, [.ref h_t_first, .ref h_t_second, .ref h_t_third, .ref h_t_place, .long t_gapSquare, .long t_gapLower, .long t_gapX, .long t_gapY, .ref h_t_near, .int t_threefold, .long t_leastX, .long t_leastY, .long t_leastLower])), (h_t_first, .inr (2, [.ref h_t_first_chain, .ref h_t_first_x, .ref h_t_first_y, .ref h_t_first_sorted, .int t_first_size])), (h_t_first_x, .inl (cI, 48, .inl t_first_x)), (h_t_first_y, .inl (cI, 48, .inl t_first_y)), (h_t_second, .inr (2, [.ref h_t_second_chain, .ref h_t_second_x, .ref h_t_second_y, .ref h_t_second_sorted, .int t_second_size])), (h_t_second_x, .inl (cI, 48, .inl t_second_x)), (h_t_second_y, .inl (cI, 48, .inl t_second_y)), (h_t_third, .inr (2, [.ref h_t_third_chain, .ref h_t_third_x, .ref h_t_third_y, .ref h_t_third_sorted, .int t_third_size])), (h_t_third_x, .inl (cI, 48, .inl t_third_x)), (h_t_third_y, .inl (cI, 48, .inl t_third_y))] sz) := by
  refine Met.ofW (cc := cX3_offerCrossings) (maxL := 17) (ret := none) (by decide) rfl ?_
  intro p e s m args below meth c s₁ B hml hv
  obtain ⟨rfl, hsz, hP, hK, hD0, hT⟩ := hv
  have hx := B.exec
  have hb := B.bytes
  have hr := B.returns
  have hown : s.vm.findClass RX3 = some m.cls := findClass_of_methodNamed B.named
  have hlocks := B.notSynchronized
  have hts := TB.use hT ([.ref h_t, .ref h_t_second, .ref h_t_third] : List Value).toArray
  subst hsz
  have hD := hD0.self (sz := s.heap.size)
  generalize hAe : va_A [(h_t, .inr (3, [.ref h_t_first, .ref h_t_second, .ref h_t_third, .ref h_t_place, .long t_gapSquare, .long t_gapLower, .long t_gapX, .long t_gapY, .ref h_t_near, .int t_threefold, .long t_leastX, .long t_leastY, .long t_leastLower])), (h_t_first, .inr (2, [.ref h_t_first_chain, .ref h_t_first_x, .ref h_t_first_y, .ref h_t_first_sorted, .int t_first_size])), (h_t_first_x, .inl (cI, 48, .inl t_first_x)), (h_t_first_y, .inl (cI, 48, .inl t_first_y)), (h_t_second, .inr (2, [.ref h_t_second_chain, .ref h_t_second_x, .ref h_t_second_y, .ref h_t_second_sorted, .int t_second_size])), (h_t_second_x, .inl (cI, 48, .inl t_second_x)), (h_t_second_y, .inl (cI, 48, .inl t_second_y)), (h_t_third, .inr (2, [.ref h_t_third_chain, .ref h_t_third_x, .ref h_t_third_y, .ref h_t_third_sorted, .int t_third_size])), (h_t_third_x, .inl (cI, 48, .inl t_third_x)), (h_t_third_y, .inl (cI, 48, .inl t_third_y))] s.heap.size = A at hD ⊢
  have hA : ∀ q : Nat, s.heap.size ≤ q → A q := fun q h => by rw [← hAe]; exact Or.inr h
  clear hAe hD0
  have hl := lv_entry ([.ref h_t, .ref h_t_second, .ref h_t_third]) (n := 17) (Nat.le_of_ble_eq_true rfl)
  rw [lg_entry_eq]
  generalize (lg_sl ([.ref h_t, .ref h_t_second, .ref h_t_third]) ++ List.replicate (17 - (lg_sl ([.ref h_t, .ref h_t_second, .ref h_t_third])).length) Slot.unset).toArray = ls at hl ⊢
  have hl : lv_has ls 17 [(0, .ref h_t), (1, .ref h_t_second), (2, .ref h_t_third)] := hl
  have hF : 2 ≤ (headSpec [Cond.code yX3_offerCrossings cX3_offerCrossings 17 none] ({ frames := 2, cells := 0, slots := 0, locals := 63 })).room.frames := Nat.le_refl _
  have hLo : 63 ≤ (headSpec [Cond.code yX3_offerCrossings cX3_offerCrossings 17 none] ({ frames := 2, cells := 0, slots := 0, locals := 63 })).room.locals := Nat.le_refl _
  have C0 : Sx p (headSpec [Cond.code yX3_offerCrossings cX3_offerCrossings 17 none] ({ frames := 2, cells := 0, slots := 0, locals := 63 })).room s m ([.ref h_t, .ref h_t_second, .ref h_t_third] : List Value).toArray c cX3_offerCrossings 17 RX3 A dC dI cI cL cB 2 63 := ⟨hx, hb, hml, hown, hts, hK, hT, hA, hF, hLo⟩
  refine startH (A := A) hP (fun H locs hP hS => ?_)
  rw [fX3_offerCrossings_p1atsecond_p2atthird] at hf
  refine lv_iconst (v := (0 : Int32)) hx hb dX3_offerCrossings_0 (by decide) ?_
  refine lv_istore_n (lv' := [(3, .int (0 : Int32)), (0, .ref h_t), (1, .ref h_t_second), (2, .ref h_t_third)]) hx hb dX3_offerCrossings_1 rfl hl (Nat.le_of_ble_eq_true rfl) rfl (fun ls hl => ?_)
  obtain ⟨t_leastX_43, t_leastY_44, t_leastLower_45, hq_42, hf⟩ := b3_some hf
  refine wX3_offerCrossings_p1atsecond_p2atthird_L2 C0 h_t h_t_first h_t_second h_t_third h_t_place h_t_near h_t_first_chain h_t_first_x h_t_first_y h_t_first_sorted h_t_second_chain h_t_second_x h_t_second_y h_t_second_sorted h_t_third_chain h_t_third_x h_t_third_y h_t_third_sorted t_gapSquare t_gapLower t_gapX t_gapY t_threefold t_first_size t_first_x t_first_y t_second_size t_second_x t_second_y t_third_size t_third_x t_third_y K (0 : Int32) t_leastX t_leastY t_leastLower t_leastX_43 t_leastY_44 t_leastLower_45 H locs ls hP hD hS (lv_sub hl [1, 2, 3, 0] rfl) hq_42 ?_
  intro H locs ls hP hD hS hl
  obtain ⟨rfl, rfl, rfl⟩ := o3 hf
  exact W.vret hx hb hr (fun t ht hW => ⟨⟨(), rfl, trivial, by rw [ht]; exact hP, hD⟩, hS.F ht⟩) hS.2.2 dX3_offerCrossings_239
theorem dX3_find_0 : decode cX3_find 0 = .ok (.aload_n 0, 1) := by decide +kernel
theorem dX3_find_1 : decode cX3_find 1 = .ok (.lconst 0, 1) := by decide +kernel
theorem dX3_find_2 : decode cX3_find 2 = .ok (.putfield 44, 3) := by decide +kernel
theorem dX3_find_5 : decode cX3_find 5 = .ok (.aload_n 0, 1) := by decide +kernel
theorem dX3_find_6 : decode cX3_find 6 = .ok (.aload_n 0, 1) := by decide +kernel
theorem dX3_find_7 : decode cX3_find 7 = .ok (.getfield 10, 3) := by decide +kernel
theorem dX3_find_10 : decode cX3_find 10 = .ok (.invokevirtual 48, 3) := by decide +kernel
theorem dX3_find_13 : decode cX3_find 13 = .ok (.aload_n 0, 1) := by decide +kernel
theorem dX3_find_14 : decode cX3_find 14 = .ok (.aload_n 0, 1) := by decide +kernel
theorem dX3_find_15 : decode cX3_find 15 = .ok (.getfield 16, 3) := by decide +kernel
theorem dX3_find_18 : decode cX3_find 18 = .ok (.invokevirtual 48, 3) := by decide +kernel
theorem dX3_find_21 : decode cX3_find 21 = .ok (.aload_n 0, 1) := by decide +kernel
theorem dX3_find_22 : decode cX3_find 22 = .ok (.aload_n 0, 1) := by decide +kernel
theorem dX3_find_23 : decode cX3_find 23 = .ok (.getfield 10, 3) := by decide +kernel
theorem dX3_find_26 : decode cX3_find 26 = .ok (.aload_n 0, 1) := by decide +kernel
theorem dX3_find_27 : decode cX3_find 27 = .ok (.getfield 16, 3) := by decide +kernel
theorem dX3_find_30 : decode cX3_find 30 = .ok (.invokevirtual 52, 3) := by decide +kernel
theorem dX3_find_33 : decode cX3_find 33 = .ok (.aload_n 0, 1) := by decide +kernel
theorem dX3_find_34 : decode cX3_find 34 = .ok (.getfield 40, 3) := by decide +kernel
theorem dX3_find_37 : decode cX3_find 37 = .ok (.ifCond .eq 35, 3) := by decide +kernel
theorem dX3_find_40 : decode cX3_find 40 = .ok (.aload_n 0, 1) := by decide +kernel
theorem dX3_find_41 : decode cX3_find 41 = .ok (.aload_n 0, 1) := by decide +kernel
theorem dX3_find_42 : decode cX3_find 42 = .ok (.getfield 19, 3) := by decide +kernel
theorem dX3_find_45 : decode cX3_find 45 = .ok (.invokevirtual 48, 3) := by decide +kernel
theorem dX3_find_48 : decode cX3_find 48 = .ok (.aload_n 0, 1) := by decide +kernel
theorem dX3_find_49 : decode cX3_find 49 = .ok (.aload_n 0, 1) := by decide +kernel
theorem dX3_find_50 : decode cX3_find 50 = .ok (.getfield 10, 3) := by decide +kernel
theorem dX3_find_53 : decode cX3_find 53 = .ok (.aload_n 0, 1) := by decide +kernel
theorem dX3_find_54 : decode cX3_find 54 = .ok (.getfield 19, 3) := by decide +kernel
theorem dX3_find_57 : decode cX3_find 57 = .ok (.invokevirtual 52, 3) := by decide +kernel
theorem dX3_find_60 : decode cX3_find 60 = .ok (.aload_n 0, 1) := by decide +kernel
theorem dX3_find_61 : decode cX3_find 61 = .ok (.aload_n 0, 1) := by decide +kernel
theorem dX3_find_62 : decode cX3_find 62 = .ok (.getfield 16, 3) := by decide +kernel
theorem dX3_find_65 : decode cX3_find 65 = .ok (.aload_n 0, 1) := by decide +kernel
theorem dX3_find_66 : decode cX3_find 66 = .ok (.getfield 19, 3) := by decide +kernel
theorem dX3_find_69 : decode cX3_find 69 = .ok (.invokevirtual 52, 3) := by decide +kernel
theorem dX3_find_72 : decode cX3_find 72 = .ok (.aload_n 0, 1) := by decide +kernel
theorem dX3_find_73 : decode cX3_find 73 = .ok (.getfield 25, 3) := by decide +kernel
theorem dX3_find_76 : decode cX3_find 76 = .ok (.aload_n 0, 1) := by decide +kernel
theorem dX3_find_77 : decode cX3_find 77 = .ok (.getfield 56, 3) := by decide +kernel
theorem dX3_find_80 : decode cX3_find 80 = .ok (.aload_n 0, 1) := by decide +kernel
theorem dX3_find_81 : decode cX3_find 81 = .ok (.getfield 59, 3) := by decide +kernel
theorem dX3_find_84 : decode cX3_find 84 = .ok (.aload_n 0, 1) := by decide +kernel
theorem dX3_find_85 : decode cX3_find 85 = .ok (.getfield 44, 3) := by decide +kernel
theorem dX3_find_88 : decode cX3_find 88 = .ok (.invokevirtual 62, 3) := by decide +kernel
theorem dX3_find_91 : decode cX3_find 91 = .ok (.aload_n 0, 1) := by decide +kernel
theorem dX3_find_92 : decode cX3_find 92 = .ok (.getfield 44, 3) := by decide +kernel
theorem dX3_find_95 : decode cX3_find 95 = .ok (.lconst 0, 1) := by decide +kernel
theorem dX3_find_96 : decode cX3_find 96 = .ok (.lcmp, 1) := by decide +kernel
theorem dX3_find_97 : decode cX3_find 97 = .ok (.ifCond .eq 7, 3) := by decide +kernel
theorem dX3_find_100 : decode cX3_find 100 = .ok (.iconst 1, 1) := by decide +kernel
theorem dX3_find_101 : decode cX3_find 101 = .ok (.goto 4, 3) := by decide +kernel
theorem dX3_find_104 : decode cX3_find 104 = .ok (.iconst 0, 1) := by decide +kernel
theorem dX3_find_105 : decode cX3_find 105 = .ok (.ireturn, 1) := by decide +kernel
set_option maxRecDepth 100000 in
set_option maxHeartbeats 4000000 in
theorem mtX3_find (l : Launch) (dC : Nat → ClassId) (dI : Nat → Nat → Nat) (cI cL cB : ClassId) (K : Nat) (h_t h_t_first h_t_second h_t_third h_t_place h_t_near h_t_first_chain h_t_first_x h_t_first_y h_t_first_sorted h_t_second_chain h_t_second_x h_t_second_y h_t_second_sorted h_t_third_chain h_t_third_x h_t_third_y h_t_third_sorted : Nat) (sz : Nat) (t_gapSquare : Int64) (t_gapLower : Int64) (t_gapX : Int64) (t_gapY : Int64) (t_threefold : Int32) (t_leastX : Int64) (t_leastY : Int64) (t_leastLower : Int64) (t_first_size : Int32) (t_first_x : Nat → Int32) (t_first_y : Nat → Int32) (t_second_size : Int32) (t_second_x : Nat → Int32) (t_second_y : Nat → Int32) (t_third_size : Int32) (t_third_x : Nat → Int32) (t_third_y : Nat → Int32) (t_place_x : Int64) (t_place_y : Int64) (t_place_lower : Int64) (o_r : Int32) (o_t_leastX : Int64) (o_t_leastY : Int64) (o_t_leastLower : Int64) (o_t_place_x : Int64) (o_t_place_y : Int64) (o_t_place_lower : Int64) (hf : fX3_find K t_threefold t_leastX t_leastY t_leastLower t_first_size t_first_x t_first_y t_second_size t_second_x t_second_y t_third_size t_third_x t_third_y t_place_x t_place_y t_place_lower = some (o_r, o_t_leastX, o_t_leastY, o_t_leastLower, o_t_place_x, o_t_place_y, o_t_place_lower)) : Met l yX3_find [Cond.code yX3_find cX3_find 1 (some .boolean)] ({ frames := 3, cells := 0, slots := 0, locals := 99 }) (va_Pc [.ref h_t] (cPre dC dI cI cL cB sz [(h_t, .inr (3, [.ref h_t_first, .ref h_t_second, .ref h_t_third, .ref h_t_place, .long t_gapSquare, .long t_gapLower, .long t_gapX, .long t_gapY, .ref h_t_near, .int t_threefold, .long t_leastX, .long t_leastY, .long t_leastLower])), (h_t_first, .inr (2, [.ref h_t_first_chain, .ref h_t_first_x, .ref h_t_first_y, .ref h_t_first_sorted, .int t_first_size])), (h_t_first_x, .inl (cI, 48, .inl t_first_x)), (h_t_first_y, .inl (cI, 48, .inl t_first_y)), (h_t_second, .inr (2, [.ref h_t_second_chain, .ref h_t_second_x, .ref h_t_second_y, .ref h_t_second_sorted, .int t_second_size])), (h_t_second_x, .inl (cI, 48, .inl t_second_x)), (h_t_second_y, .inl (cI, 48, .inl t_second_y)), (h_t_third, .inr (2, [.ref h_t_third_chain, .ref h_t_third_x, .ref h_t_third_y, .ref h_t_third_sorted, .int t_third_size])), (h_t_third_x, .inl (cI, 48, .inl t_third_x)), (h_t_third_y, .inl (cI, 48, .inl t_third_y)), (h_t_place, .inr (6, [.long t_place_x, .long t_place_y, .long t_place_lower]))])) (cQi dC dI (va_A [(h_t, .inr (3, [.ref h_t_first, .ref h_t_second, .ref h_t_third, .ref h_t_place, .long t_gapSquare, .long t_gapLower, .long t_gapX, .long t_gapY, .ref h_t_near, .int t_threefold, .long t_leastX, .long t_leastY, .long t_leastLower])), (h_t_first, .inr (2, [.ref h_t_first_chain, .ref h_t_first_x, .ref h_t_first_y, .ref h_t_first_sorted, .int t_first_size])), (h_t_first_x, .inl (cI, 48, .inl t_first_x)), (h_t_first_y, .inl (cI, 48, .inl t_first_y)), (h_t_second, .inr (2, [.ref h_t_second_chain, .ref h_t_second_x, .ref h_t_second_y, .ref h_t_second_sorted, .int t_second_size])), (h_t_second_x, .inl (cI, 48, .inl t_second_x)), (h_t_second_y, .inl (cI, 48, .inl t_second_y)), (h_t_third, .inr (2, [.ref h_t_third_chain, .ref h_t_third_x, .ref h_t_third_y, .ref h_t_third_sorted, .int t_third_size])), (h_t_third_x, .inl (cI, 48, .inl t_third_x)), (h_t_third_y, .inl (cI, 48, .inl t_third_y)), (h_t_place, .inr (6, [.long t_place_x, .long t_place_y, .long t_place_lower]))] sz) o_r [(h_t, .inr (3, [.ref h_t_first, .ref h_t_second, .ref h_t_third, .ref h_t_place, .long t_gapSquare, .long t_gapLower, .long t_gapX, .long t_gapY, .ref h_t_near, .int t_threefold, .long o_t_leastX, .long o_t_leastY, .long o_t_leastLower])), (h_t_first, .inr (2, [.ref h_t_first_chain, .ref h_t_first_x, .ref h_t_first_y, .ref h_t_first_sorted, .int t_first_size])), (h_t_first_x, .inl (cI, 48, .inl t_first_x)), (h_t_first_y, .inl (cI, 48, .inl t_first_y)), (h_t_second, .inr (2, [.ref h_t_second_chain, .ref h_t_second_x, .ref h_t_second_y, .ref h_t_second_sorted, .int t_second_size])), (h_t_second_x, .inl (cI, 48, .inl t_second_x)), (h_t_second_y, .inl (cI, 48, .inl t_second_y)), (h_t_third, .inr (2, [.ref h_t_third_chain, .ref h_t_third_x, .ref h_t_third_y, .ref h_t_third_sorted, .int t_third_size])), (h_t_third_x, .inl (cI, 48, .inl t_third_x)), (h_t_third_y, .inl (cI, 48, .inl t_third_y)), (h_t_place, .inr (6, [.long o_t_place_x, .long o_t_place_y, .long o_t_place_lower]))]) 0 0 (va_A [(h_t, .inr (3, [.ref h_t_first, .ref h_t_second, .ref h_t_third, .ref h_t_place, .long t_gapSquare, .long t_gapLower, .long t_gapX, .long t_gapY, .ref h_t_near, .int t_threefold, .long t_leastX, .long t_leastY, .long t_leastLower])), (h_t_first, .inr (2, [.ref h_t_first_chain, .ref h_t_first_x, .ref h_t_first_y, .ref h_t_first_sorted, .int t_first_size])), (h_t_first_x, .inl (cI, 48, .inl t_first_x)), (h_t_first_y, .inl (cI, 48, .inl t_first_y)), (h_t_second, .inr (2, [.ref h_t_second_chain, .ref h_t_second_x, .ref h_t_second_y, .ref h_t_second_sorted, .int t_second_size])), (h_t_second_x, .inl (cI, 48, .inl t_second_x)), (h_t_second_y, .inl (cI, 48, .inl t_second_y)), (h_t_third, .inr (2, [.ref h_t_third_chain, .ref h_t_third_x, .ref h_t_third_y, .ref h_t_third_sorted, .int t_third_size])), (h_t_third_x, .inl (cI, 48, .inl t_third_x)), (h_t_third_y, .inl (cI, 48, .inl t_third_y)), (h_t_place, .inr (6, [.long t_place_x, .long t_place_y, .long t_place_lower]))] sz) := by
  refine Met.ofW (cc := cX3_find) (maxL := 1) (ret := (some .boolean)) (by decide) rfl ?_
  intro p e s m args below meth c s₁ B hml hv
  obtain ⟨rfl, hsz, hP, hK, hD0, hT⟩ := hv
  have hx := B.exec
  have hb := B.bytes
  have hr := B.returns
  have hown : s.vm.findClass RX3 = some m.cls := findClass_of_methodNamed B.named
  have hlocks := B.notSynchronized
  have hts := TB.use hT ([.ref h_t] : List Value).toArray
  subst hsz
  have hD := hD0.self (sz := s.heap.size)
  generalize hAe : va_A [(h_t, .inr (3, [.ref h_t_first, .ref h_t_second, .ref h_t_third, .ref h_t_place, .long t_gapSquare, .long t_gapLower, .long t_gapX, .long t_gapY, .ref h_t_near, .int t_threefold, .long t_leastX, .long t_leastY, .long t_leastLower])), (h_t_first, .inr (2, [.ref h_t_first_chain, .ref h_t_first_x, .ref h_t_first_y, .ref h_t_first_sorted, .int t_first_size])), (h_t_first_x, .inl (cI, 48, .inl t_first_x)), (h_t_first_y, .inl (cI, 48, .inl t_first_y)), (h_t_second, .inr (2, [.ref h_t_second_chain, .ref h_t_second_x, .ref h_t_second_y, .ref h_t_second_sorted, .int t_second_size])), (h_t_second_x, .inl (cI, 48, .inl t_second_x)), (h_t_second_y, .inl (cI, 48, .inl t_second_y)), (h_t_third, .inr (2, [.ref h_t_third_chain, .ref h_t_third_x, .ref h_t_third_y, .ref h_t_third_sorted, .int t_third_size])), (h_t_third_x, .inl (cI, 48, .inl t_third_x)), (h_t_third_y, .inl (cI, 48, .inl t_third_y)), (h_t_place, .inr (6, [.long t_place_x, .long t_place_y, .long t_place_lower]))] s.heap.size = A at hD ⊢
  have hA : ∀ q : Nat, s.heap.size ≤ q → A q := fun q h => by rw [← hAe]; exact Or.inr h
  clear hAe hD0
  have hl := lv_entry ([.ref h_t]) (n := 1) (Nat.le_of_ble_eq_true rfl)
  rw [lg_entry_eq]
  generalize (lg_sl ([.ref h_t]) ++ List.replicate (1 - (lg_sl ([.ref h_t])).length) Slot.unset).toArray = ls at hl ⊢
  have hl : lv_has ls 1 [(0, .ref h_t)] := hl
  have hF : 3 ≤ (headSpec [Cond.code yX3_find cX3_find 1 (some .boolean)] ({ frames := 3, cells := 0, slots := 0, locals := 99 })).room.frames := Nat.le_refl _
  have hLo : 99 ≤ (headSpec [Cond.code yX3_find cX3_find 1 (some .boolean)] ({ frames := 3, cells := 0, slots := 0, locals := 99 })).room.locals := Nat.le_refl _
  have C0 : Sx p (headSpec [Cond.code yX3_find cX3_find 1 (some .boolean)] ({ frames := 3, cells := 0, slots := 0, locals := 99 })).room s m ([.ref h_t] : List Value).toArray c cX3_find 1 RX3 A dC dI cI cL cB 3 99 := ⟨hx, hb, hml, hown, hts, hK, hT, hA, hF, hLo⟩
  refine startH (A := A) hP (fun H locs hP hS => ?_)
  rw [fX3_find] at hf
  refine lv_aload_n hx hb dX3_find_0 rfl (lv_at hl 0 rfl) ?_
  refine lv_lconst (v := (0 : Int64)) hx hb dX3_find_1 (by decide) ?_
  refine xput (D := (dC, dI)) (ci := 3) (v := .long (0 : Int64)) (C := RX3) (T := TX3) (N := 13) (w2 := [(h_t, .inr (3, [.ref h_t_first, .ref h_t_second, .ref h_t_third, .ref h_t_place, .long t_gapSquare, .long t_gapLower, .long t_gapX, .long t_gapY, .ref h_t_near, .int t_threefold, .long t_leastX, .long t_leastY, .long (0 : Int64)])), (h_t_first, .inr (2, [.ref h_t_first_chain, .ref h_t_first_x, .ref h_t_first_y, .ref h_t_first_sorted, .int t_first_size])), (h_t_first_x, .inl (cI, 48, .inl t_first_x)), (h_t_first_y, .inl (cI, 48, .inl t_first_y)), (h_t_second, .inr (2, [.ref h_t_second_chain, .ref h_t_second_x, .ref h_t_second_y, .ref h_t_second_sorted, .int t_second_size])), (h_t_second_x, .inl (cI, 48, .inl t_second_x)), (h_t_second_y, .inl (cI, 48, .inl t_second_y)), (h_t_third, .inr (2, [.ref h_t_third_chain, .ref h_t_third_x, .ref h_t_third_y, .ref h_t_third_sorted, .int t_third_size])), (h_t_third_x, .inl (cI, 48, .inl t_third_x)), (h_t_third_y, .inl (cI, 48, .inl t_third_y)), (h_t_place, .inr (6, [.long t_place_x, .long t_place_y, .long t_place_lower]))]) hx hb hts in_X3 tyX3 tyX3_ok nmX3 hown hK hP hD hS 0 rfl rfl 12 (Nat.le_of_ble_eq_true rfl) (hts _ qf_X3_44) (fun _ h9 => h9) rfl rfl rfl (Nat.le_of_ble_eq_true rfl) rfl dX3_find_2 (fun H locs hP hD hS => ?_)
  refine lv_aload_n hx hb dX3_find_5 rfl (lv_at hl 0 rfl) ?_
  refine lv_aload_n hx hb dX3_find_6 rfl (lv_at hl 0 rfl) ?_
  refine va_get (D := (dC, dI)) (ci := 3) (v := .ref h_t_first) (C := RX3) (T := TX3) (N := 13) hx hb hts in_X3 hown hK hP 0 rfl rfl 0 (Nat.le_of_ble_eq_true rfl) (hts _ qf_X3_10) (fun _ h9 => h9) rfl dX3_find_7 ?_
  obtain ⟨t_leastX_1, t_leastY_2, t_leastLower_3, hq_4, hf⟩ := b3_some hf
  refine xcv (wr := [(h_t_place, .inr (6, [.long t_place_x, .long t_place_y, .long t_place_lower]))]) (w2 := [(h_t, .inr (3, [.ref h_t_first, .ref h_t_second, .ref h_t_third, .ref h_t_place, .long t_gapSquare, .long t_gapLower, .long t_gapX, .long t_gapY, .ref h_t_near, .int t_threefold, .long t_leastX_1, .long t_leastY_2, .long t_leastLower_3])), (h_t_first, .inr (2, [.ref h_t_first_chain, .ref h_t_first_x, .ref h_t_first_y, .ref h_t_first_sorted, .int t_first_size])), (h_t_first_x, .inl (cI, 48, .inl t_first_x)), (h_t_first_y, .inl (cI, 48, .inl t_first_y)), (h_t_second, .inr (2, [.ref h_t_second_chain, .ref h_t_second_x, .ref h_t_second_y, .ref h_t_second_sorted, .int t_second_size])), (h_t_second_x, .inl (cI, 48, .inl t_second_x)), (h_t_second_y, .inl (cI, 48, .inl t_second_y)), (h_t_third, .inr (2, [.ref h_t_third_chain, .ref h_t_third_x, .ref h_t_third_y, .ref h_t_third_sorted, .int t_third_size])), (h_t_third_x, .inl (cI, 48, .inl t_third_x)), (h_t_third_y, .inl (cI, 48, .inl t_third_y)), (h_t_place, .inr (6, [.long t_place_x, .long t_place_y, .long t_place_lower]))]) (va_runV (As := [.ref h_t_first]) (rest := []) ⟨hx, hb, hml, hown, hts⟩ (mtX3_offerCorners_p1atfirst l dC dI cI cL cB K h_t h_t_first h_t_second h_t_third h_t_place h_t_near h_t_first_chain h_t_first_x h_t_first_y h_t_first_sorted h_t_second_chain h_t_second_x h_t_second_y h_t_second_sorted h_t_third_chain h_t_third_x h_t_third_y h_t_third_sorted H.size t_gapSquare t_gapLower t_gapX t_gapY t_threefold t_leastX t_leastY (0 : Int64) t_first_size t_first_x t_first_y t_second_size t_second_x t_second_y t_third_size t_third_x t_third_y t_leastX_1 t_leastY_2 t_leastLower_3 hq_4) (cwV 1 hts gv_X3_48 rfl rfl rfl hdV_X3_offerCorners ⟨Nat.le_trans (Nat.le_of_ble_eq_true rfl) hF, Nat.le_trans (Nat.le_of_ble_eq_true rfl) hLo⟩) (cPreV hK hP hD hT [0, 1, 2, 3, 4, 5, 6, 7, 8, 9] rfl rfl (ci := 3) (q0 := 0) rfl rfl) rfl rfl hl.1 rfl (lv_room (Nat.le_of_ble_eq_true rfl)) dX3_find_10 ⟨Nat.zero_le _, Nat.zero_le _⟩) hP hD hS hA [0, 1, 2, 3, 4, 5, 6, 7, 8, 9] [10] [1, 2, 3, 4, 5, 6, 7, 8, 9, 10, 0] rfl rfl rfl rfl rfl rfl (fun H locs hP hD hS => ?_)
  refine lv_aload_n hx hb dX3_find_13 rfl (lv_at hl 0 rfl) ?_
  refine lv_aload_n hx hb dX3_find_14 rfl (lv_at hl 0 rfl) ?_
  refine va_get (D := (dC, dI)) (ci := 3) (v := .ref h_t_second) (C := RX3) (T := TX3) (N := 13) hx hb hts in_X3 hown hK hP 0 rfl rfl 1 (Nat.le_of_ble_eq_true rfl) (hts _ qf_X3_16) (fun _ h9 => h9) rfl dX3_find_15 ?_
  obtain ⟨t_leastX_5, t_leastY_6, t_leastLower_7, hq_8, hf⟩ := b3_some hf
  refine xcv (wr := [(h_t_place, .inr (6, [.long t_place_x, .long t_place_y, .long t_place_lower]))]) (w2 := [(h_t, .inr (3, [.ref h_t_first, .ref h_t_second, .ref h_t_third, .ref h_t_place, .long t_gapSquare, .long t_gapLower, .long t_gapX, .long t_gapY, .ref h_t_near, .int t_threefold, .long t_leastX_5, .long t_leastY_6, .long t_leastLower_7])), (h_t_first, .inr (2, [.ref h_t_first_chain, .ref h_t_first_x, .ref h_t_first_y, .ref h_t_first_sorted, .int t_first_size])), (h_t_first_x, .inl (cI, 48, .inl t_first_x)), (h_t_first_y, .inl (cI, 48, .inl t_first_y)), (h_t_second, .inr (2, [.ref h_t_second_chain, .ref h_t_second_x, .ref h_t_second_y, .ref h_t_second_sorted, .int t_second_size])), (h_t_second_x, .inl (cI, 48, .inl t_second_x)), (h_t_second_y, .inl (cI, 48, .inl t_second_y)), (h_t_third, .inr (2, [.ref h_t_third_chain, .ref h_t_third_x, .ref h_t_third_y, .ref h_t_third_sorted, .int t_third_size])), (h_t_third_x, .inl (cI, 48, .inl t_third_x)), (h_t_third_y, .inl (cI, 48, .inl t_third_y)), (h_t_place, .inr (6, [.long t_place_x, .long t_place_y, .long t_place_lower]))]) (va_runV (As := [.ref h_t_second]) (rest := []) ⟨hx, hb, hml, hown, hts⟩ (mtX3_offerCorners_p1atsecond l dC dI cI cL cB K h_t h_t_first h_t_second h_t_third h_t_place h_t_near h_t_first_chain h_t_first_x h_t_first_y h_t_first_sorted h_t_second_chain h_t_second_x h_t_second_y h_t_second_sorted h_t_third_chain h_t_third_x h_t_third_y h_t_third_sorted H.size t_gapSquare t_gapLower t_gapX t_gapY t_threefold t_leastX_1 t_leastY_2 t_leastLower_3 t_first_size t_first_x t_first_y t_second_size t_second_x t_second_y t_third_size t_third_x t_third_y t_leastX_5 t_leastY_6 t_leastLower_7 hq_8) (cwV 1 hts gv_X3_48 rfl rfl rfl hdV_X3_offerCorners ⟨Nat.le_trans (Nat.le_of_ble_eq_true rfl) hF, Nat.le_trans (Nat.le_of_ble_eq_true rfl) hLo⟩) (cPreV hK hP hD hT [0, 1, 2, 3, 4, 5, 6, 7, 8, 9] rfl rfl (ci := 3) (q0 := 0) rfl rfl) rfl rfl hl.1 rfl (lv_room (Nat.le_of_ble_eq_true rfl)) dX3_find_18 ⟨Nat.zero_le _, Nat.zero_le _⟩) hP hD hS hA [0, 1, 2, 3, 4, 5, 6, 7, 8, 9] [10] [1, 2, 3, 4, 5, 6, 7, 8, 9, 10, 0] rfl rfl rfl rfl rfl rfl (fun H locs hP hD hS => ?_)
  refine lv_aload_n hx hb dX3_find_21 rfl (lv_at hl 0 rfl) ?_
  refine lv_aload_n hx hb dX3_find_22 rfl (lv_at hl 0 rfl) ?_
  refine va_get (D := (dC, dI)) (ci := 3) (v := .ref h_t_first) (C := RX3) (T := TX3) (N := 13) hx hb hts in_X3 hown hK hP 0 rfl rfl 0 (Nat.le_of_ble_eq_true rfl) (hts _ qf_X3_10) (fun _ h9 => h9) rfl dX3_find_23 ?_
  refine lv_aload_n hx hb dX3_find_26 rfl (lv_at hl 0 rfl) ?_
  refine va_get (D := (dC, dI)) (ci := 3) (v := .ref h_t_second) (C := RX3) (T := TX3) (N := 13) hx hb hts in_X3 hown hK hP 0 rfl rfl 1 (Nat.le_of_ble_eq_true rfl) (hts _ qf_X3_16) (fun _ h9 => h9) rfl dX3_find_27 ?_
  obtain ⟨t_leastX_9, t_leastY_10, t_leastLower_11, hq_12, hf⟩ := b3_some hf
  refine xcv (wr := [(h_t_place, .inr (6, [.long t_place_x, .long t_place_y, .long t_place_lower]))]) (w2 := [(h_t, .inr (3, [.ref h_t_first, .ref h_t_second, .ref h_t_third, .ref h_t_place, .long t_gapSquare, .long t_gapLower, .long t_gapX, .long t_gapY, .ref h_t_near, .int t_threefold, .long t_leastX_9, .long t_leastY_10, .long t_leastLower_11])), (h_t_first, .inr (2, [.ref h_t_first_chain, .ref h_t_first_x, .ref h_t_first_y, .ref h_t_first_sorted, .int t_first_size])), (h_t_first_x, .inl (cI, 48, .inl t_first_x)), (h_t_first_y, .inl (cI, 48, .inl t_first_y)), (h_t_second, .inr (2, [.ref h_t_second_chain, .ref h_t_second_x, .ref h_t_second_y, .ref h_t_second_sorted, .int t_second_size])), (h_t_second_x, .inl (cI, 48, .inl t_second_x)), (h_t_second_y, .inl (cI, 48, .inl t_second_y)), (h_t_third, .inr (2, [.ref h_t_third_chain, .ref h_t_third_x, .ref h_t_third_y, .ref h_t_third_sorted, .int t_third_size])), (h_t_third_x, .inl (cI, 48, .inl t_third_x)), (h_t_third_y, .inl (cI, 48, .inl t_third_y)), (h_t_place, .inr (6, [.long t_place_x, .long t_place_y, .long t_place_lower]))]) (va_runV (As := [.ref h_t_first, .ref h_t_second]) (rest := []) ⟨hx, hb, hml, hown, hts⟩ (mtX3_offerCrossings_p1atfirst_p2atsecond l dC dI cI cL cB K h_t h_t_first h_t_second h_t_third h_t_place h_t_near h_t_first_chain h_t_first_x h_t_first_y h_t_first_sorted h_t_second_chain h_t_second_x h_t_second_y h_t_second_sorted h_t_third_chain h_t_third_x h_t_third_y h_t_third_sorted H.size t_gapSquare t_gapLower t_gapX t_gapY t_threefold t_leastX_5 t_leastY_6 t_leastLower_7 t_first_size t_first_x t_first_y t_second_size t_second_x t_second_y t_third_size t_third_x t_third_y t_leastX_9 t_leastY_10 t_leastLower_11 hq_12) (cwV 2 hts gv_X3_52 rfl rfl rfl hdV_X3_offerCrossings ⟨Nat.le_trans (Nat.le_of_ble_eq_true rfl) hF, Nat.le_trans (Nat.le_of_ble_eq_true rfl) hLo⟩) (cPreV hK hP hD hT [0, 1, 2, 3, 4, 5, 6, 7, 8, 9] rfl rfl (ci := 3) (q0 := 0) rfl rfl) rfl rfl hl.1 rfl (lv_room (Nat.le_of_ble_eq_true rfl)) dX3_find_30 ⟨Nat.zero_le _, Nat.zero_le _⟩) hP hD hS hA [0, 1, 2, 3, 4, 5, 6, 7, 8, 9] [10] [1, 2, 3, 4, 5, 6, 7, 8, 9, 10, 0] rfl rfl rfl rfl rfl rfl (fun H locs hP hD hS => ?_)
  refine lv_aload_n hx hb dX3_find_33 rfl (lv_at hl 0 rfl) ?_
  refine va_get (D := (dC, dI)) (ci := 3) (v := .int t_threefold) (C := RX3) (T := TX3) (N := 13) hx hb hts in_X3 hown hK hP 0 rfl rfl 9 (Nat.le_of_ble_eq_true rfl) (hts _ qf_X3_40) (fun _ h9 => h9) rfl dX3_find_34 ?_
  obtain ⟨k_16, ek_16, hf⟩ := jn_out hf
  have J_17 : ∀ (t_leastX_13 : Int64) (t_leastY_14 : Int64) (t_leastLower_15 : Int64) (H : Heap) (locs : List Loc) (ls : Array Slot), va_P (dC, dI) vwCl [(h_t, .inr (3, [.ref h_t_first, .ref h_t_second, .ref h_t_third, .ref h_t_place, .long t_gapSquare, .long t_gapLower, .long t_gapX, .long t_gapY, .ref h_t_near, .int t_threefold, .long t_leastX_13, .long t_leastY_14, .long t_leastLower_15])), (h_t_first, .inr (2, [.ref h_t_first_chain, .ref h_t_first_x, .ref h_t_first_y, .ref h_t_first_sorted, .int t_first_size])), (h_t_first_x, .inl (cI, 48, .inl t_first_x)), (h_t_first_y, .inl (cI, 48, .inl t_first_y)), (h_t_second, .inr (2, [.ref h_t_second_chain, .ref h_t_second_x, .ref h_t_second_y, .ref h_t_second_sorted, .int t_second_size])), (h_t_second_x, .inl (cI, 48, .inl t_second_x)), (h_t_second_y, .inl (cI, 48, .inl t_second_y)), (h_t_third, .inr (2, [.ref h_t_third_chain, .ref h_t_third_x, .ref h_t_third_y, .ref h_t_third_sorted, .int t_third_size])), (h_t_third_x, .inl (cI, 48, .inl t_third_x)), (h_t_third_y, .inl (cI, 48, .inl t_third_y)), (h_t_place, .inr (6, [.long t_place_x, .long t_place_y, .long t_place_lower]))] H → va_D A [(h_t, .inr (3, [.ref h_t_first, .ref h_t_second, .ref h_t_third, .ref h_t_place, .long t_gapSquare, .long t_gapLower, .long t_gapX, .long t_gapY, .ref h_t_near, .int t_threefold, .long t_leastX_13, .long t_leastY_14, .long t_leastLower_15])), (h_t_first, .inr (2, [.ref h_t_first_chain, .ref h_t_first_x, .ref h_t_first_y, .ref h_t_first_sorted, .int t_first_size])), (h_t_first_x, .inl (cI, 48, .inl t_first_x)), (h_t_first_y, .inl (cI, 48, .inl t_first_y)), (h_t_second, .inr (2, [.ref h_t_second_chain, .ref h_t_second_x, .ref h_t_second_y, .ref h_t_second_sorted, .int t_second_size])), (h_t_second_x, .inl (cI, 48, .inl t_second_x)), (h_t_second_y, .inl (cI, 48, .inl t_second_y)), (h_t_third, .inr (2, [.ref h_t_third_chain, .ref h_t_third_x, .ref h_t_third_y, .ref h_t_third_sorted, .int t_third_size])), (h_t_third_x, .inl (cI, 48, .inl t_third_x)), (h_t_third_y, .inl (cI, 48, .inl t_third_y)), (h_t_place, .inr (6, [.long t_place_x, .long t_place_y, .long t_place_lower]))] → va_S A s.heap H locs → lv_has ls 1 [(0, .ref h_t)] → k_16 t_leastX_13 t_leastY_14 t_leastLower_15 = some (o_r, o_t_leastX, o_t_leastY, o_t_leastLower, o_t_place_x, o_t_place_y, o_t_place_lower) → W p l e (headSpec [Cond.code yX3_find cX3_find 1 (some .boolean)] ({ frames := 3, cells := 0, slots := 0, locals := 99 })).room s m ([.ref h_t] : List Value).toArray below meth c H locs 0 0 (MQ below (cQi dC dI A o_r [(h_t, .inr (3, [.ref h_t_first, .ref h_t_second, .ref h_t_third, .ref h_t_place, .long t_gapSquare, .long t_gapLower, .long t_gapX, .long t_gapY, .ref h_t_near, .int t_threefold, .long o_t_leastX, .long o_t_leastY, .long o_t_leastLower])), (h_t_first, .inr (2, [.ref h_t_first_chain, .ref h_t_first_x, .ref h_t_first_y, .ref h_t_first_sorted, .int t_first_size])), (h_t_first_x, .inl (cI, 48, .inl t_first_x)), (h_t_first_y, .inl (cI, 48, .inl t_first_y)), (h_t_second, .inr (2, [.ref h_t_second_chain, .ref h_t_second_x, .ref h_t_second_y, .ref h_t_second_sorted, .int t_second_size])), (h_t_second_x, .inl (cI, 48, .inl t_second_x)), (h_t_second_y, .inl (cI, 48, .inl t_second_y)), (h_t_third, .inr (2, [.ref h_t_third_chain, .ref h_t_third_x, .ref h_t_third_y, .ref h_t_third_sorted, .int t_third_size])), (h_t_third_x, .inl (cI, 48, .inl t_third_x)), (h_t_third_y, .inl (cI, 48, .inl t_third_y)), (h_t_place, .inr (6, [.long o_t_place_x, .long o_t_place_y, .long o_t_place_lower]))]) ([.ref h_t] : List Value).toArray s 0 0 A) (F0 m 72 ls []) := by
    intro t_leastX_13 t_leastY_14 t_leastLower_15 H locs ls hP hD hS hl hf
    rw [ek_16] at hf
    try dsimp only at hf
    refine lv_aload_n hx hb dX3_find_72 rfl (lv_at hl 0 rfl) ?_
    refine va_get (D := (dC, dI)) (ci := 3) (v := .ref h_t_place) (C := RX3) (T := TX3) (N := 13) hx hb hts in_X3 hown hK hP 0 rfl rfl 3 (Nat.le_of_ble_eq_true rfl) (hts _ qf_X3_25) (fun _ h9 => h9) rfl dX3_find_73 ?_
    refine lv_aload_n hx hb dX3_find_76 rfl (lv_at hl 0 rfl) ?_
    refine va_get (D := (dC, dI)) (ci := 3) (v := .long t_leastX_13) (C := RX3) (T := TX3) (N := 13) hx hb hts in_X3 hown hK hP 0 rfl rfl 10 (Nat.le_of_ble_eq_true rfl) (hts _ qf_X3_56) (fun _ h9 => h9) rfl dX3_find_77 ?_
    refine lv_aload_n hx hb dX3_find_80 rfl (lv_at hl 0 rfl) ?_
    refine va_get (D := (dC, dI)) (ci := 3) (v := .long t_leastY_14) (C := RX3) (T := TX3) (N := 13) hx hb hts in_X3 hown hK hP 0 rfl rfl 11 (Nat.le_of_ble_eq_true rfl) (hts _ qf_X3_59) (fun _ h9 => h9) rfl dX3_find_81 ?_
    refine lv_aload_n hx hb dX3_find_84 rfl (lv_at hl 0 rfl) ?_
    refine va_get (D := (dC, dI)) (ci := 3) (v := .long t_leastLower_15) (C := RX3) (T := TX3) (N := 13) hx hb hts in_X3 hown hK hP 0 rfl rfl 12 (Nat.le_of_ble_eq_true rfl) (hts _ qf_X3_44) (fun _ h9 => h9) rfl dX3_find_85 ?_
    obtain ⟨t_place_x_18, t_place_y_19, t_place_lower_20, hq_21, hf⟩ := b3_some hf
    refine xcv (wr := [(h_t, .inr (3, [.ref h_t_first, .ref h_t_second, .ref h_t_third, .ref h_t_place, .long t_gapSquare, .long t_gapLower, .long t_gapX, .long t_gapY, .ref h_t_near, .int t_threefold, .long t_leastX_13, .long t_leastY_14, .long t_leastLower_15])), (h_t_first, .inr (2, [.ref h_t_first_chain, .ref h_t_first_x, .ref h_t_first_y, .ref h_t_first_sorted, .int t_first_size])), (h_t_first_x, .inl (cI, 48, .inl t_first_x)), (h_t_first_y, .inl (cI, 48, .inl t_first_y)), (h_t_second, .inr (2, [.ref h_t_second_chain, .ref h_t_second_x, .ref h_t_second_y, .ref h_t_second_sorted, .int t_second_size])), (h_t_second_x, .inl (cI, 48, .inl t_second_x)), (h_t_second_y, .inl (cI, 48, .inl t_second_y)), (h_t_third, .inr (2, [.ref h_t_third_chain, .ref h_t_third_x, .ref h_t_third_y, .ref h_t_third_sorted, .int t_third_size])), (h_t_third_x, .inl (cI, 48, .inl t_third_x)), (h_t_third_y, .inl (cI, 48, .inl t_third_y))]) (w2 := [(h_t, .inr (3, [.ref h_t_first, .ref h_t_second, .ref h_t_third, .ref h_t_place, .long t_gapSquare, .long t_gapLower, .long t_gapX, .long t_gapY, .ref h_t_near, .int t_threefold, .long t_leastX_13, .long t_leastY_14, .long t_leastLower_15])), (h_t_first, .inr (2, [.ref h_t_first_chain, .ref h_t_first_x, .ref h_t_first_y, .ref h_t_first_sorted, .int t_first_size])), (h_t_first_x, .inl (cI, 48, .inl t_first_x)), (h_t_first_y, .inl (cI, 48, .inl t_first_y)), (h_t_second, .inr (2, [.ref h_t_second_chain, .ref h_t_second_x, .ref h_t_second_y, .ref h_t_second_sorted, .int t_second_size])), (h_t_second_x, .inl (cI, 48, .inl t_second_x)), (h_t_second_y, .inl (cI, 48, .inl t_second_y)), (h_t_third, .inr (2, [.ref h_t_third_chain, .ref h_t_third_x, .ref h_t_third_y, .ref h_t_third_sorted, .int t_third_size])), (h_t_third_x, .inl (cI, 48, .inl t_third_x)), (h_t_third_y, .inl (cI, 48, .inl t_third_y)), (h_t_place, .inr (6, [.long t_place_x_18, .long t_place_y_19, .long t_place_lower_20]))]) (va_runV (As := [.long t_leastX_13, .long t_leastY_14, .long t_leastLower_15]) (rest := []) ⟨hx, hb, hml, hown, hts⟩ (mtX6_put l dC dI cI cL cB K h_t_place H.size t_place_x t_place_y t_place_lower t_leastX_13 t_leastY_14 t_leastLower_15 t_place_x_18 t_place_y_19 t_place_lower_20 hq_21) (cwV 3 hts gv_X3_62 rfl rfl rfl hdV_X6_put ⟨Nat.le_trans (Nat.le_of_ble_eq_true rfl) hF, Nat.le_trans (Nat.le_of_ble_eq_true rfl) hLo⟩) (cPreV hK hP hD hT [10] rfl rfl (ci := 6) (q0 := 0) rfl rfl) rfl rfl hl.1 rfl (lv_room (Nat.le_of_ble_eq_true rfl)) dX3_find_88 ⟨Nat.zero_le _, Nat.zero_le _⟩) hP hD hS hA [10] [0, 1, 2, 3, 4, 5, 6, 7, 8, 9] [0, 1, 2, 3, 4, 5, 6, 7, 8, 9, 10] rfl rfl rfl rfl rfl rfl (fun H locs hP hD hS => ?_)
    refine lv_aload_n hx hb dX3_find_91 rfl (lv_at hl 0 rfl) ?_
    refine va_get (D := (dC, dI)) (ci := 3) (v := .long t_leastLower_15) (C := RX3) (T := TX3) (N := 13) hx hb hts in_X3 hown hK hP 0 rfl rfl 12 (Nat.le_of_ble_eq_true rfl) (hts _ qf_X3_44) (fun _ h9 => h9) rfl dX3_find_92 ?_
    refine lv_lconst (v := (0 : Int64)) hx hb dX3_find_95 (by decide) ?_
    refine W.lcmp hx hb dX3_find_96 ?_
    refine lv_if_eq (tgt := 104) hx hb dX3_find_97 (by decide) (fun hc => ?_) (fun hc => ?_)
    · replace hf := it_t ((lg_cmp_eq _ _).mp hc) hf
      refine lv_iconst (v := (0 : Int32)) hx hb dX3_find_104 (by decide) ?_
      obtain ⟨rfl, rfl, rfl, rfl, rfl, rfl, rfl⟩ := o7 hf
      exact W.zret hx hb hr rfl (fun t ht hW => ⟨⟨_, (), rfl, rfl, by rw [ht]; exact hP, hD⟩, hS.F ht⟩) hS.2.2 dX3_find_105
    · replace hf := it_f (fun h9 => hc ((lg_cmp_eq _ _).mpr h9)) hf
      refine lv_iconst (v := (1 : Int32)) hx hb dX3_find_100 (by decide) ?_
      refine lv_goto (tgt := 105) hx hb dX3_find_101 (by decide) ?_
      obtain ⟨rfl, rfl, rfl, rfl, rfl, rfl, rfl⟩ := o7 hf
      exact W.zret hx hb hr rfl (fun t ht hW => ⟨⟨_, (), rfl, rfl, by rw [ht]; exact hP, hD⟩, hS.F ht⟩) hS.2.2 dX3_find_105
  refine lv_if_eq (tgt := 72) hx hb dX3_find_37 (by decide) (fun hc => ?_) (fun hc => ?_)
  · replace hf := it_t (hc) hf
    exact J_17 t_leastX_9 t_leastY_10 t_leastLower_11 H locs ls hP hD hS (lv_sub hl [0] rfl) hf
  · replace hf := it_f (hc) hf
    refine lv_aload_n hx hb dX3_find_40 rfl (lv_at hl 0 rfl) ?_
    refine lv_aload_n hx hb dX3_find_41 rfl (lv_at hl 0 rfl) ?_
    refine va_get (D := (dC, dI)) (ci := 3) (v := .ref h_t_third) (C := RX3) (T := TX3) (N := 13) hx hb hts in_X3 hown hK hP 0 rfl rfl 2 (Nat.le_of_ble_eq_true rfl) (hts _ qf_X3_19) (fun _ h9 => h9) rfl dX3_find_42 ?_
    obtain ⟨t_leastX_22, t_leastY_23, t_leastLower_24, hq_25, hf⟩ := b3_some hf
    refine xcv (wr := [(h_t_place, .inr (6, [.long t_place_x, .long t_place_y, .long t_place_lower]))]) (w2 := [(h_t, .inr (3, [.ref h_t_first, .ref h_t_second, .ref h_t_third, .ref h_t_place, .long t_gapSquare, .long t_gapLower, .long t_gapX, .long t_gapY, .ref h_t_near, .int t_threefold, .long t_leastX_22, .long t_leastY_23, .long t_leastLower_24])), (h_t_first, .inr (2, [.ref h_t_first_chain, .ref h_t_first_x, .ref h_t_first_y, .ref h_t_first_sorted, .int t_first_size])), (h_t_first_x, .inl (cI, 48, .inl t_first_x)), (h_t_first_y, .inl (cI, 48, .inl t_first_y)), (h_t_second, .inr (2, [.ref h_t_second_chain, .ref h_t_second_x, .ref h_t_second_y, .ref h_t_second_sorted, .int t_second_size])), (h_t_second_x, .inl (cI, 48, .inl t_second_x)), (h_t_second_y, .inl (cI, 48, .inl t_second_y)), (h_t_third, .inr (2, [.ref h_t_third_chain, .ref h_t_third_x, .ref h_t_third_y, .ref h_t_third_sorted, .int t_third_size])), (h_t_third_x, .inl (cI, 48, .inl t_third_x)), (h_t_third_y, .inl (cI, 48, .inl t_third_y)), (h_t_place, .inr (6, [.long t_place_x, .long t_place_y, .long t_place_lower]))]) (va_runV (As := [.ref h_t_third]) (rest := []) ⟨hx, hb, hml, hown, hts⟩ (mtX3_offerCorners_p1atthird l dC dI cI cL cB K h_t h_t_first h_t_second h_t_third h_t_place h_t_near h_t_first_chain h_t_first_x h_t_first_y h_t_first_sorted h_t_second_chain h_t_second_x h_t_second_y h_t_second_sorted h_t_third_chain h_t_third_x h_t_third_y h_t_third_sorted H.size t_gapSquare t_gapLower t_gapX t_gapY t_threefold t_leastX_9 t_leastY_10 t_leastLower_11 t_first_size t_first_x t_first_y t_second_size t_second_x t_second_y t_third_size t_third_x t_third_y t_leastX_22 t_leastY_23 t_leastLower_24 hq_25) (cwV 1 hts gv_X3_48 rfl rfl rfl hdV_X3_offerCorners ⟨Nat.le_trans (Nat.le_of_ble_eq_true rfl) hF, Nat.le_trans (Nat.le_of_ble_eq_true rfl) hLo⟩) (cPreV hK hP hD hT [0, 1, 2, 3, 4, 5, 6, 7, 8, 9] rfl rfl (ci := 3) (q0 := 0) rfl rfl) rfl rfl hl.1 rfl (lv_room (Nat.le_of_ble_eq_true rfl)) dX3_find_45 ⟨Nat.zero_le _, Nat.zero_le _⟩) hP hD hS hA [0, 1, 2, 3, 4, 5, 6, 7, 8, 9] [10] [1, 2, 3, 4, 5, 6, 7, 8, 9, 10, 0] rfl rfl rfl rfl rfl rfl (fun H locs hP hD hS => ?_)
    refine lv_aload_n hx hb dX3_find_48 rfl (lv_at hl 0 rfl) ?_
    refine lv_aload_n hx hb dX3_find_49 rfl (lv_at hl 0 rfl) ?_
    refine va_get (D := (dC, dI)) (ci := 3) (v := .ref h_t_first) (C := RX3) (T := TX3) (N := 13) hx hb hts in_X3 hown hK hP 0 rfl rfl 0 (Nat.le_of_ble_eq_true rfl) (hts _ qf_X3_10) (fun _ h9 => h9) rfl dX3_find_50 ?_
    refine lv_aload_n hx hb dX3_find_53 rfl (lv_at hl 0 rfl) ?_
    refine va_get (D := (dC, dI)) (ci := 3) (v := .ref h_t_third) (C := RX3) (T := TX3) (N := 13) hx hb hts in_X3 hown hK hP 0 rfl rfl 2 (Nat.le_of_ble_eq_true rfl) (hts _ qf_X3_19) (fun _ h9 => h9) rfl dX3_find_54 ?_
    obtain ⟨t_leastX_26, t_leastY_27, t_leastLower_28, hq_29, hf⟩ := b3_some hf
    refine xcv (wr := [(h_t_place, .inr (6, [.long t_place_x, .long t_place_y, .long t_place_lower]))]) (w2 := [(h_t, .inr (3, [.ref h_t_first, .ref h_t_second, .ref h_t_third, .ref h_t_place, .long t_gapSquare, .long t_gapLower, .long t_gapX, .long t_gapY, .ref h_t_near, .int t_threefold, .long t_leastX_26, .long t_leastY_27, .long t_leastLower_28])), (h_t_first, .inr (2, [.ref h_t_first_chain, .ref h_t_first_x, .ref h_t_first_y, .ref h_t_first_sorted, .int t_first_size])), (h_t_first_x, .inl (cI, 48, .inl t_first_x)), (h_t_first_y, .inl (cI, 48, .inl t_first_y)), (h_t_second, .inr (2, [.ref h_t_second_chain, .ref h_t_second_x, .ref h_t_second_y, .ref h_t_second_sorted, .int t_second_size])), (h_t_second_x, .inl (cI, 48, .inl t_second_x)), (h_t_second_y, .inl (cI, 48, .inl t_second_y)), (h_t_third, .inr (2, [.ref h_t_third_chain, .ref h_t_third_x, .ref h_t_third_y, .ref h_t_third_sorted, .int t_third_size])), (h_t_third_x, .inl (cI, 48, .inl t_third_x)), (h_t_third_y, .inl (cI, 48, .inl t_third_y)), (h_t_place, .inr (6, [.long t_place_x, .long t_place_y, .long t_place_lower]))]) (va_runV (As := [.ref h_t_first, .ref h_t_third]) (rest := []) ⟨hx, hb, hml, hown, hts⟩ (mtX3_offerCrossings_p1atfirst_p2atthird l dC dI cI cL cB K h_t h_t_first h_t_second h_t_third h_t_place h_t_near h_t_first_chain h_t_first_x h_t_first_y h_t_first_sorted h_t_second_chain h_t_second_x h_t_second_y h_t_second_sorted h_t_third_chain h_t_third_x h_t_third_y h_t_third_sorted H.size t_gapSquare t_gapLower t_gapX t_gapY t_threefold t_leastX_22 t_leastY_23 t_leastLower_24 t_first_size t_first_x t_first_y t_second_size t_second_x t_second_y t_third_size t_third_x t_third_y t_leastX_26 t_leastY_27 t_leastLower_28 hq_29) (cwV 2 hts gv_X3_52 rfl rfl rfl hdV_X3_offerCrossings ⟨Nat.le_trans (Nat.le_of_ble_eq_true rfl) hF, Nat.le_trans (Nat.le_of_ble_eq_true rfl) hLo⟩) (cPreV hK hP hD hT [0, 1, 2, 3, 4, 5, 6, 7, 8, 9] rfl rfl (ci := 3) (q0 := 0) rfl rfl) rfl rfl hl.1 rfl (lv_room (Nat.le_of_ble_eq_true rfl)) dX3_find_57 ⟨Nat.zero_le _, Nat.zero_le _⟩) hP hD hS hA [0, 1, 2, 3, 4, 5, 6, 7, 8, 9] [10] [1, 2, 3, 4, 5, 6, 7, 8, 9, 10, 0] rfl rfl rfl rfl rfl rfl (fun H locs hP hD hS => ?_)
    refine lv_aload_n hx hb dX3_find_60 rfl (lv_at hl 0 rfl) ?_
    refine lv_aload_n hx hb dX3_find_61 rfl (lv_at hl 0 rfl) ?_
    refine va_get (D := (dC, dI)) (ci := 3) (v := .ref h_t_second) (C := RX3) (T := TX3) (N := 13) hx hb hts in_X3 hown hK hP 0 rfl rfl 1 (Nat.le_of_ble_eq_true rfl) (hts _ qf_X3_16) (fun _ h9 => h9) rfl dX3_find_62 ?_
    refine lv_aload_n hx hb dX3_find_65 rfl (lv_at hl 0 rfl) ?_
    refine va_get (D := (dC, dI)) (ci := 3) (v := .ref h_t_third) (C := RX3) (T := TX3) (N := 13) hx hb hts in_X3 hown hK hP 0 rfl rfl 2 (Nat.le_of_ble_eq_true rfl) (hts _ qf_X3_19) (fun _ h9 => h9) rfl dX3_find_66 ?_
    obtain ⟨t_leastX_30, t_leastY_31, t_leastLower_32, hq_33, hf⟩ := b3_some hf
    refine xcv (wr := [(h_t_place, .inr (6, [.long t_place_x, .long t_place_y, .long t_place_lower]))]) (w2 := [(h_t, .inr (3, [.ref h_t_first, .ref h_t_second, .ref h_t_third, .ref h_t_place, .long t_gapSquare, .long t_gapLower, .long t_gapX, .long t_gapY, .ref h_t_near, .int t_threefold, .long t_leastX_30, .long t_leastY_31, .long t_leastLower_32])), (h_t_first, .inr (2, [.ref h_t_first_chain, .ref h_t_first_x, .ref h_t_first_y, .ref h_t_first_sorted, .int t_first_size])), (h_t_first_x, .inl (cI, 48, .inl t_first_x)), (h_t_first_y, .inl (cI, 48, .inl t_first_y)), (h_t_second, .inr (2, [.ref h_t_second_chain, .ref h_t_second_x, .ref h_t_second_y, .ref h_t_second_sorted, .int t_second_size])), (h_t_second_x, .inl (cI, 48, .inl t_second_x)), (h_t_second_y, .inl (cI, 48, .inl t_second_y)), (h_t_third, .inr (2, [.ref h_t_third_chain, .ref h_t_third_x, .ref h_t_third_y, .ref h_t_third_sorted, .int t_third_size])), (h_t_third_x, .inl (cI, 48, .inl t_third_x)), (h_t_third_y, .inl (cI, 48, .inl t_third_y)), (h_t_place, .inr (6, [.long t_place_x, .long t_place_y, .long t_place_lower]))]) (va_runV (As := [.ref h_t_second, .ref h_t_third]) (rest := []) ⟨hx, hb, hml, hown, hts⟩ (mtX3_offerCrossings_p1atsecond_p2atthird l dC dI cI cL cB K h_t h_t_first h_t_second h_t_third h_t_place h_t_near h_t_first_chain h_t_first_x h_t_first_y h_t_first_sorted h_t_second_chain h_t_second_x h_t_second_y h_t_second_sorted h_t_third_chain h_t_third_x h_t_third_y h_t_third_sorted H.size t_gapSquare t_gapLower t_gapX t_gapY t_threefold t_leastX_26 t_leastY_27 t_leastLower_28 t_first_size t_first_x t_first_y t_second_size t_second_x t_second_y t_third_size t_third_x t_third_y t_leastX_30 t_leastY_31 t_leastLower_32 hq_33) (cwV 2 hts gv_X3_52 rfl rfl rfl hdV_X3_offerCrossings ⟨Nat.le_trans (Nat.le_of_ble_eq_true rfl) hF, Nat.le_trans (Nat.le_of_ble_eq_true rfl) hLo⟩) (cPreV hK hP hD hT [0, 1, 2, 3, 4, 5, 6, 7, 8, 9] rfl rfl (ci := 3) (q0 := 0) rfl rfl) rfl rfl hl.1 rfl (lv_room (Nat.le_of_ble_eq_true rfl)) dX3_find_69 ⟨Nat.zero_le _, Nat.zero_le _⟩) hP hD hS hA [0, 1, 2, 3, 4, 5, 6, 7, 8, 9] [10] [1, 2, 3, 4, 5, 6, 7, 8, 9, 10, 0] rfl rfl rfl rfl rfl rfl (fun H locs hP hD hS => ?_)
    exact J_17 t_leastX_30 t_leastY_31 t_leastLower_32 H locs ls hP hD hS (lv_sub hl [0] rfl) hf
theorem dX11_meet_0 : decode cX11_meet 0 = .ok (.aload_n 0, 1) := by decide +kernel
theorem dX11_meet_1 : decode cX11_meet 1 = .ok (.getfield 12, 3) := by decide +kernel
theorem dX11_meet_4 : decode cX11_meet 4 = .ok (.iload_n 1, 1) := by decide +kernel
theorem dX11_meet_5 : decode cX11_meet 5 = .ok (.invokevirtual 152, 3) := by decide +kernel
theorem dX11_meet_8 : decode cX11_meet 8 = .ok (.ifCond .eq 14, 3) := by decide +kernel
theorem dX11_meet_11 : decode cX11_meet 11 = .ok (.aload_n 0, 1) := by decide +kernel
theorem dX11_meet_12 : decode cX11_meet 12 = .ok (.getfield 12, 3) := by decide +kernel
theorem dX11_meet_15 : decode cX11_meet 15 = .ok (.iload_n 2, 1) := by decide +kernel
theorem dX11_meet_16 : decode cX11_meet 16 = .ok (.invokevirtual 152, 3) := by decide +kernel
theorem dX11_meet_19 : decode cX11_meet 19 = .ok (.ifCond .ne 6, 3) := by decide +kernel
theorem dX11_meet_22 : decode cX11_meet 22 = .ok (.bipush (-2), 2) := by decide +kernel
theorem dX11_meet_24 : decode cX11_meet 24 = .ok (.ireturn, 1) := by decide +kernel
theorem dX11_meet_25 : decode cX11_meet 25 = .ok (.aload_n 0, 1) := by decide +kernel
theorem dX11_meet_26 : decode cX11_meet 26 = .ok (.getfield 63, 3) := by decide +kernel
theorem dX11_meet_29 : decode cX11_meet 29 = .ok (.aload_n 0, 1) := by decide +kernel
theorem dX11_meet_30 : decode cX11_meet 30 = .ok (.getfield 12, 3) := by decide +kernel
theorem dX11_meet_33 : decode cX11_meet 33 = .ok (.iload_n 1, 1) := by decide +kernel
theorem dX11_meet_34 : decode cX11_meet 34 = .ok (.iload_n 2, 1) := by decide +kernel
theorem dX11_meet_35 : decode cX11_meet 35 = .ok (.invokevirtual 301, 3) := by decide +kernel
theorem dX11_meet_38 : decode cX11_meet 38 = .ok (.aload_n 0, 1) := by decide +kernel
theorem dX11_meet_39 : decode cX11_meet 39 = .ok (.getfield 63, 3) := by decide +kernel
theorem dX11_meet_42 : decode cX11_meet 42 = .ok (.invokevirtual 305, 3) := by decide +kernel
theorem dX11_meet_45 : decode cX11_meet 45 = .ok (.ifCond .eq 7, 3) := by decide +kernel
theorem dX11_meet_48 : decode cX11_meet 48 = .ok (.iconst 1, 1) := by decide +kernel
theorem dX11_meet_49 : decode cX11_meet 49 = .ok (.goto 4, 3) := by decide +kernel
theorem dX11_meet_52 : decode cX11_meet 52 = .ok (.iconst 0, 1) := by decide +kernel
theorem dX11_meet_53 : decode cX11_meet 53 = .ok (.ireturn, 1) := by decide +kernel
set_option maxRecDepth 100000 in
set_option maxHeartbeats 4000000 in
theorem mtX11_meet (l : Launch) (dC : Nat → ClassId) (dI : Nat → Nat → Nat) (cI cL cB : ClassId) (K : Nat) (h_t h_t_cloud h_t_reader h_t_hull h_t_near h_t_firstTie h_t_reducer h_t_chooser h_t_pair h_t_divider h_t_depths h_t_spot h_t_cloud_x h_t_cloud_y h_t_cloud_colour h_t_cloud_load h_t_pair_first h_t_pair_second h_t_pair_third h_t_pair_place h_t_pair_near h_t_pair_first_chain h_t_pair_first_x h_t_pair_first_y h_t_pair_first_sorted h_t_pair_second_chain h_t_pair_second_x h_t_pair_second_y h_t_pair_second_sorted h_t_pair_third_chain h_t_pair_third_x h_t_pair_third_y h_t_pair_third_sorted : Nat) (sz : Nat) (t_cloud_size : Int32) (t_cloud_centreX : Int32) (t_cloud_centreY : Int32) (t_cloud_x : Nat → Int32) (t_cloud_y : Nat → Int32) (t_pair_gapSquare : Int64) (t_pair_gapLower : Int64) (t_pair_gapX : Int64) (t_pair_gapY : Int64) (t_pair_threefold : Int32) (t_pair_leastX : Int64) (t_pair_leastY : Int64) (t_pair_leastLower : Int64) (t_pair_first_size : Int32) (t_pair_first_chain : Nat → Int32) (t_pair_first_x : Nat → Int32) (t_pair_first_y : Nat → Int32) (t_pair_first_sorted : Nat → Int32) (t_pair_second_size : Int32) (t_pair_second_chain : Nat → Int32) (t_pair_second_x : Nat → Int32) (t_pair_second_y : Nat → Int32) (t_pair_second_sorted : Nat → Int32) (t_pair_third_size : Int32) (t_pair_third_x : Nat → Int32) (t_pair_third_y : Nat → Int32) (t_pair_place_x : Int64) (t_pair_place_y : Int64) (t_pair_place_lower : Int64) (a1 : Int32) (a2 : Int32) (o_r : Int32) (o_t_pair_threefold : Int32) (o_t_pair_leastX : Int64) (o_t_pair_leastY : Int64) (o_t_pair_leastLower : Int64) (o_t_pair_first_size : Int32) (o_t_pair_first_chain : Nat → Int32) (o_t_pair_first_x : Nat → Int32) (o_t_pair_first_y : Nat → Int32) (o_t_pair_first_sorted : Nat → Int32) (o_t_pair_second_size : Int32) (o_t_pair_second_chain : Nat → Int32) (o_t_pair_second_x : Nat → Int32) (o_t_pair_second_y : Nat → Int32) (o_t_pair_second_sorted : Nat → Int32) (o_t_pair_place_x : Int64) (o_t_pair_place_y : Int64) (o_t_pair_place_lower : Int64) (hf : fX11_meet K t_cloud_size t_cloud_x t_cloud_y t_pair_threefold t_pair_leastX t_pair_leastY t_pair_leastLower t_pair_first_size t_pair_first_chain t_pair_first_x t_pair_first_y t_pair_first_sorted t_pair_second_size t_pair_second_chain t_pair_second_x t_pair_second_y t_pair_second_sorted t_pair_third_size t_pair_third_x t_pair_third_y t_pair_place_x t_pair_place_y t_pair_place_lower a1 a2 = some (o_r, o_t_pair_threefold, o_t_pair_leastX, o_t_pair_leastY, o_t_pair_leastLower, o_t_pair_first_size, o_t_pair_first_chain, o_t_pair_first_x, o_t_pair_first_y, o_t_pair_first_sorted, o_t_pair_second_size, o_t_pair_second_chain, o_t_pair_second_x, o_t_pair_second_y, o_t_pair_second_sorted, o_t_pair_place_x, o_t_pair_place_y, o_t_pair_place_lower)) : Met l yX11_meet [Cond.code yX11_meet cX11_meet 3 (some .int)] ({ frames := 4, cells := 0, slots := 0, locals := 119 }) (va_Pc [.ref h_t, .int a1, .int a2] (cPre dC dI cI cL cB sz [(h_t, .inr (11, [.ref h_t_cloud, .ref h_t_reader, .ref h_t_hull, .ref h_t_near, .ref h_t_firstTie, .ref h_t_reducer, .ref h_t_chooser, .ref h_t_pair, .ref h_t_divider, .ref h_t_depths, .ref h_t_spot])), (h_t_cloud, .inr (0, [.ref h_t_cloud_x, .ref h_t_cloud_y, .ref h_t_cloud_colour, .ref h_t_cloud_load, .int t_cloud_size, .int t_cloud_centreX, .int t_cloud_centreY])), (h_t_cloud_x, .inl (cI, 24, .inl t_cloud_x)), (h_t_cloud_y, .inl (cI, 24, .inl t_cloud_y)), (h_t_pair, .inr (3, [.ref h_t_pair_first, .ref h_t_pair_second, .ref h_t_pair_third, .ref h_t_pair_place, .long t_pair_gapSquare, .long t_pair_gapLower, .long t_pair_gapX, .long t_pair_gapY, .ref h_t_pair_near, .int t_pair_threefold, .long t_pair_leastX, .long t_pair_leastY, .long t_pair_leastLower])), (h_t_pair_first, .inr (2, [.ref h_t_pair_first_chain, .ref h_t_pair_first_x, .ref h_t_pair_first_y, .ref h_t_pair_first_sorted, .int t_pair_first_size])), (h_t_pair_first_chain, .inl (cI, 48, .inl t_pair_first_chain)), (h_t_pair_first_x, .inl (cI, 48, .inl t_pair_first_x)), (h_t_pair_first_y, .inl (cI, 48, .inl t_pair_first_y)), (h_t_pair_first_sorted, .inl (cI, 24, .inl t_pair_first_sorted)), (h_t_pair_second, .inr (2, [.ref h_t_pair_second_chain, .ref h_t_pair_second_x, .ref h_t_pair_second_y, .ref h_t_pair_second_sorted, .int t_pair_second_size])), (h_t_pair_second_chain, .inl (cI, 48, .inl t_pair_second_chain)), (h_t_pair_second_x, .inl (cI, 48, .inl t_pair_second_x)), (h_t_pair_second_y, .inl (cI, 48, .inl t_pair_second_y)), (h_t_pair_second_sorted, .inl (cI, 24, .inl t_pair_second_sorted)), (h_t_pair_third, .inr (2, [.ref h_t_pair_third_chain, .ref h_t_pair_third_x, .ref h_t_pair_third_y, .ref h_t_pair_third_sorted, .int t_pair_third_size])), (h_t_pair_third_x, .inl (cI, 48, .inl t_pair_third_x)), (h_t_pair_third_y, .inl (cI, 48, .inl t_pair_third_y)), (h_t_pair_place, .inr (6, [.long t_pair_place_x, .long t_pair_place_y, .long t_pair_place_lower]))])) (cQi dC dI (va_A [(h_t, .inr (11, [.ref h_t_cloud, .ref h_t_reader, .ref h_t_hull, .ref h_t_near, .ref h_t_firstTie, .ref h_t_reducer, .ref h_t_chooser, .ref h_t_pair, .ref h_t_divider, .ref h_t_depths, .ref h_t_spot])), (h_t_cloud, .inr (0, [.ref h_t_cloud_x, .ref h_t_cloud_y, .ref h_t_cloud_colour, .ref h_t_cloud_load, .int t_cloud_size, .int t_cloud_centreX, .int t_cloud_centreY])), (h_t_cloud_x, .inl (cI, 24, .inl t_cloud_x)), (h_t_cloud_y, .inl (cI, 24, .inl t_cloud_y)), (h_t_pair, .inr (3, [.ref h_t_pair_first, .ref h_t_pair_second, .ref h_t_pair_third, .ref h_t_pair_place, .long t_pair_gapSquare, .long t_pair_gapLower, .long t_pair_gapX, .long t_pair_gapY, .ref h_t_pair_near, .int t_pair_threefold, .long t_pair_leastX, .long t_pair_leastY, .long t_pair_leastLower])), (h_t_pair_first, .inr (2, [.ref h_t_pair_first_chain, .ref h_t_pair_first_x, .ref h_t_pair_first_y, .ref h_t_pair_first_sorted, .int t_pair_first_size])), (h_t_pair_first_chain, .inl (cI, 48, .inl t_pair_first_chain)), (h_t_pair_first_x, .inl (cI, 48, .inl t_pair_first_x)), (h_t_pair_first_y, .inl (cI, 48, .inl t_pair_first_y)), (h_t_pair_first_sorted, .inl (cI, 24, .inl t_pair_first_sorted)), (h_t_pair_second, .inr (2, [.ref h_t_pair_second_chain, .ref h_t_pair_second_x, .ref h_t_pair_second_y, .ref h_t_pair_second_sorted, .int t_pair_second_size])), (h_t_pair_second_chain, .inl (cI, 48, .inl t_pair_second_chain)), (h_t_pair_second_x, .inl (cI, 48, .inl t_pair_second_x)), (h_t_pair_second_y, .inl (cI, 48, .inl t_pair_second_y)), (h_t_pair_second_sorted, .inl (cI, 24, .inl t_pair_second_sorted)), (h_t_pair_third, .inr (2, [.ref h_t_pair_third_chain, .ref h_t_pair_third_x, .ref h_t_pair_third_y, .ref h_t_pair_third_sorted, .int t_pair_third_size])), (h_t_pair_third_x, .inl (cI, 48, .inl t_pair_third_x)), (h_t_pair_third_y, .inl (cI, 48, .inl t_pair_third_y)), (h_t_pair_place, .inr (6, [.long t_pair_place_x, .long t_pair_place_y, .long t_pair_place_lower]))] sz) o_r [(h_t, .inr (11, [.ref h_t_cloud, .ref h_t_reader, .ref h_t_hull, .ref h_t_near, .ref h_t_firstTie, .ref h_t_reducer, .ref h_t_chooser, .ref h_t_pair, .ref h_t_divider, .ref h_t_depths, .ref h_t_spot])), (h_t_cloud, .inr (0, [.ref h_t_cloud_x, .ref h_t_cloud_y, .ref h_t_cloud_colour, .ref h_t_cloud_load, .int t_cloud_size, .int t_cloud_centreX, .int t_cloud_centreY])), (h_t_cloud_x, .inl (cI, 24, .inl t_cloud_x)), (h_t_cloud_y, .inl (cI, 24, .inl t_cloud_y)), (h_t_pair, .inr (3, [.ref h_t_pair_first, .ref h_t_pair_second, .ref h_t_pair_third, .ref h_t_pair_place, .long t_pair_gapSquare, .long t_pair_gapLower, .long t_pair_gapX, .long t_pair_gapY, .ref h_t_pair_near, .int o_t_pair_threefold, .long o_t_pair_leastX, .long o_t_pair_leastY, .long o_t_pair_leastLower])), (h_t_pair_first, .inr (2, [.ref h_t_pair_first_chain, .ref h_t_pair_first_x, .ref h_t_pair_first_y, .ref h_t_pair_first_sorted, .int o_t_pair_first_size])), (h_t_pair_first_chain, .inl (cI, 48, .inl o_t_pair_first_chain)), (h_t_pair_first_x, .inl (cI, 48, .inl o_t_pair_first_x)), (h_t_pair_first_y, .inl (cI, 48, .inl o_t_pair_first_y)), (h_t_pair_first_sorted, .inl (cI, 24, .inl o_t_pair_first_sorted)), (h_t_pair_second, .inr (2, [.ref h_t_pair_second_chain, .ref h_t_pair_second_x, .ref h_t_pair_second_y, .ref h_t_pair_second_sorted, .int o_t_pair_second_size])), (h_t_pair_second_chain, .inl (cI, 48, .inl o_t_pair_second_chain)), (h_t_pair_second_x, .inl (cI, 48, .inl o_t_pair_second_x)), (h_t_pair_second_y, .inl (cI, 48, .inl o_t_pair_second_y)), (h_t_pair_second_sorted, .inl (cI, 24, .inl o_t_pair_second_sorted)), (h_t_pair_third, .inr (2, [.ref h_t_pair_third_chain, .ref h_t_pair_third_x, .ref h_t_pair_third_y, .ref h_t_pair_third_sorted, .int t_pair_third_size])), (h_t_pair_third_x, .inl (cI, 48, .inl t_pair_third_x)), (h_t_pair_third_y, .inl (cI, 48, .inl t_pair_third_y)), (h_t_pair_place, .inr (6, [.long o_t_pair_place_x, .long o_t_pair_place_y, .long o_t_pair_place_lower]))]) 0 0 (va_A [(h_t, .inr (11, [.ref h_t_cloud, .ref h_t_reader, .ref h_t_hull, .ref h_t_near, .ref h_t_firstTie, .ref h_t_reducer, .ref h_t_chooser, .ref h_t_pair, .ref h_t_divider, .ref h_t_depths, .ref h_t_spot])), (h_t_cloud, .inr (0, [.ref h_t_cloud_x, .ref h_t_cloud_y, .ref h_t_cloud_colour, .ref h_t_cloud_load, .int t_cloud_size, .int t_cloud_centreX, .int t_cloud_centreY])), (h_t_cloud_x, .inl (cI, 24, .inl t_cloud_x)), (h_t_cloud_y, .inl (cI, 24, .inl t_cloud_y)), (h_t_pair, .inr (3, [.ref h_t_pair_first, .ref h_t_pair_second, .ref h_t_pair_third, .ref h_t_pair_place, .long t_pair_gapSquare, .long t_pair_gapLower, .long t_pair_gapX, .long t_pair_gapY, .ref h_t_pair_near, .int t_pair_threefold, .long t_pair_leastX, .long t_pair_leastY, .long t_pair_leastLower])), (h_t_pair_first, .inr (2, [.ref h_t_pair_first_chain, .ref h_t_pair_first_x, .ref h_t_pair_first_y, .ref h_t_pair_first_sorted, .int t_pair_first_size])), (h_t_pair_first_chain, .inl (cI, 48, .inl t_pair_first_chain)), (h_t_pair_first_x, .inl (cI, 48, .inl t_pair_first_x)), (h_t_pair_first_y, .inl (cI, 48, .inl t_pair_first_y)), (h_t_pair_first_sorted, .inl (cI, 24, .inl t_pair_first_sorted)), (h_t_pair_second, .inr (2, [.ref h_t_pair_second_chain, .ref h_t_pair_second_x, .ref h_t_pair_second_y, .ref h_t_pair_second_sorted, .int t_pair_second_size])), (h_t_pair_second_chain, .inl (cI, 48, .inl t_pair_second_chain)), (h_t_pair_second_x, .inl (cI, 48, .inl t_pair_second_x)), (h_t_pair_second_y, .inl (cI, 48, .inl t_pair_second_y)), (h_t_pair_second_sorted, .inl (cI, 24, .inl t_pair_second_sorted)), (h_t_pair_third, .inr (2, [.ref h_t_pair_third_chain, .ref h_t_pair_third_x, .ref h_t_pair_third_y, .ref h_t_pair_third_sorted, .int t_pair_third_size])), (h_t_pair_third_x, .inl (cI, 48, .inl t_pair_third_x)), (h_t_pair_third_y, .inl (cI, 48, .inl t_pair_third_y)), (h_t_pair_place, .inr (6, [.long t_pair_place_x, .long t_pair_place_y, .long t_pair_place_lower]))] sz) := by
  refine Met.ofW (cc := cX11_meet) (maxL := 3) (ret := (some .int)) (by decide) rfl ?_
  intro p e s m args below meth c s₁ B hml hv
  obtain ⟨rfl, hsz, hP, hK, hD0, hT⟩ := hv
  have hx := B.exec
  have hb := B.bytes
  have hr := B.returns
  have hown : s.vm.findClass RX11 = some m.cls := findClass_of_methodNamed B.named
  have hlocks := B.notSynchronized
  have hts := TB.use hT ([.ref h_t, .int a1, .int a2] : List Value).toArray
  subst hsz
  have hD := hD0.self (sz := s.heap.size)
  generalize hAe : va_A [(h_t, .inr (11, [.ref h_t_cloud, .ref h_t_reader, .ref h_t_hull, .ref h_t_near, .ref h_t_firstTie, .ref h_t_reducer, .ref h_t_chooser, .ref h_t_pair, .ref h_t_divider, .ref h_t_depths, .ref h_t_spot])), (h_t_cloud, .inr (0, [.ref h_t_cloud_x, .ref h_t_cloud_y, .ref h_t_cloud_colour, .ref h_t_cloud_load, .int t_cloud_size, .int t_cloud_centreX, .int t_cloud_centreY])), (h_t_cloud_x, .inl (cI, 24, .inl t_cloud_x)), (h_t_cloud_y, .inl (cI, 24, .inl t_cloud_y)), (h_t_pair, .inr (3, [.ref h_t_pair_first, .ref h_t_pair_second, .ref h_t_pair_third, .ref h_t_pair_place, .long t_pair_gapSquare, .long t_pair_gapLower, .long t_pair_gapX, .long t_pair_gapY, .ref h_t_pair_near, .int t_pair_threefold, .long t_pair_leastX, .long t_pair_leastY, .long t_pair_leastLower])), (h_t_pair_first, .inr (2, [.ref h_t_pair_first_chain, .ref h_t_pair_first_x, .ref h_t_pair_first_y, .ref h_t_pair_first_sorted, .int t_pair_first_size])), (h_t_pair_first_chain, .inl (cI, 48, .inl t_pair_first_chain)), (h_t_pair_first_x, .inl (cI, 48, .inl t_pair_first_x)), (h_t_pair_first_y, .inl (cI, 48, .inl t_pair_first_y)), (h_t_pair_first_sorted, .inl (cI, 24, .inl t_pair_first_sorted)), (h_t_pair_second, .inr (2, [.ref h_t_pair_second_chain, .ref h_t_pair_second_x, .ref h_t_pair_second_y, .ref h_t_pair_second_sorted, .int t_pair_second_size])), (h_t_pair_second_chain, .inl (cI, 48, .inl t_pair_second_chain)), (h_t_pair_second_x, .inl (cI, 48, .inl t_pair_second_x)), (h_t_pair_second_y, .inl (cI, 48, .inl t_pair_second_y)), (h_t_pair_second_sorted, .inl (cI, 24, .inl t_pair_second_sorted)), (h_t_pair_third, .inr (2, [.ref h_t_pair_third_chain, .ref h_t_pair_third_x, .ref h_t_pair_third_y, .ref h_t_pair_third_sorted, .int t_pair_third_size])), (h_t_pair_third_x, .inl (cI, 48, .inl t_pair_third_x)), (h_t_pair_third_y, .inl (cI, 48, .inl t_pair_third_y)), (h_t_pair_place, .inr (6, [.long t_pair_place_x, .long t_pair_place_y, .long t_pair_place_lower]))] s.heap.size = A at hD ⊢
  have hA : ∀ q : Nat, s.heap.size ≤ q → A q := fun q h => by rw [← hAe]; exact Or.inr h
  clear hAe hD0
  have hl := lv_entry ([.ref h_t, .int a1, .int a2]) (n := 3) (Nat.le_of_ble_eq_true rfl)
  rw [lg_entry_eq]
  generalize (lg_sl ([.ref h_t, .int a1, .int a2]) ++ List.replicate (3 - (lg_sl ([.ref h_t, .int a1, .int a2])).length) Slot.unset).toArray = ls at hl ⊢
  have hl : lv_has ls 3 [(0, .ref h_t), (1, .int a1), (2, .int a2)] := hl
  have hF : 4 ≤ (headSpec [Cond.code yX11_meet cX11_meet 3 (some .int)] ({ frames := 4, cells := 0, slots := 0, locals := 119 })).room.frames := Nat.le_refl _
  have hLo : 119 ≤ (headSpec [Cond.code yX11_meet cX11_meet 3 (some .int)] ({ frames := 4, cells := 0, slots := 0, locals := 119 })).room.locals := Nat.le_refl _
  have C0 : Sx p (headSpec [Cond.code yX11_meet cX11_meet 3 (some .int)] ({ frames := 4, cells := 0, slots := 0, locals := 119 })).room s m ([.ref h_t, .int a1, .int a2] : List Value).toArray c cX11_meet 3 RX11 A dC dI cI cL cB 4 119 := ⟨hx, hb, hml, hown, hts, hK, hT, hA, hF, hLo⟩
  refine startH (A := A) hP (fun H locs hP hS => ?_)
  rw [fX11_meet] at hf
  refine lv_aload_n hx hb dX11_meet_0 rfl (lv_at hl 0 rfl) ?_
  refine va_get (D := (dC, dI)) (ci := 11) (v := .ref h_t_cloud) (C := RX11) (T := TX11) (N := 11) hx hb hts in_X11 hown hK hP 0 rfl rfl 0 (Nat.le_of_ble_eq_true rfl) (hts _ qf_X11_12) (fun _ h9 => h9) rfl dX11_meet_1 ?_
  refine lv_iload_n hx hb dX11_meet_4 rfl (lv_at hl 1 rfl) ?_
  obtain ⟨r_1, hq_2, hf⟩ := b1_some hf
  refine xci (wr := [(h_t, .inr (11, [.ref h_t_cloud, .ref h_t_reader, .ref h_t_hull, .ref h_t_near, .ref h_t_firstTie, .ref h_t_reducer, .ref h_t_chooser, .ref h_t_pair, .ref h_t_divider, .ref h_t_depths, .ref h_t_spot])), (h_t_cloud_x, .inl (cI, 24, .inl t_cloud_x)), (h_t_cloud_y, .inl (cI, 24, .inl t_cloud_y)), (h_t_pair, .inr (3, [.ref h_t_pair_first, .ref h_t_pair_second, .ref h_t_pair_third, .ref h_t_pair_place, .long t_pair_gapSquare, .long t_pair_gapLower, .long t_pair_gapX, .long t_pair_gapY, .ref h_t_pair_near, .int t_pair_threefold, .long t_pair_leastX, .long t_pair_leastY, .long t_pair_leastLower])), (h_t_pair_first, .inr (2, [.ref h_t_pair_first_chain, .ref h_t_pair_first_x, .ref h_t_pair_first_y, .ref h_t_pair_first_sorted, .int t_pair_first_size])), (h_t_pair_first_chain, .inl (cI, 48, .inl t_pair_first_chain)), (h_t_pair_first_x, .inl (cI, 48, .inl t_pair_first_x)), (h_t_pair_first_y, .inl (cI, 48, .inl t_pair_first_y)), (h_t_pair_first_sorted, .inl (cI, 24, .inl t_pair_first_sorted)), (h_t_pair_second, .inr (2, [.ref h_t_pair_second_chain, .ref h_t_pair_second_x, .ref h_t_pair_second_y, .ref h_t_pair_second_sorted, .int t_pair_second_size])), (h_t_pair_second_chain, .inl (cI, 48, .inl t_pair_second_chain)), (h_t_pair_second_x, .inl (cI, 48, .inl t_pair_second_x)), (h_t_pair_second_y, .inl (cI, 48, .inl t_pair_second_y)), (h_t_pair_second_sorted, .inl (cI, 24, .inl t_pair_second_sorted)), (h_t_pair_third, .inr (2, [.ref h_t_pair_third_chain, .ref h_t_pair_third_x, .ref h_t_pair_third_y, .ref h_t_pair_third_sorted, .int t_pair_third_size])), (h_t_pair_third_x, .inl (cI, 48, .inl t_pair_third_x)), (h_t_pair_third_y, .inl (cI, 48, .inl t_pair_third_y)), (h_t_pair_place, .inr (6, [.long t_pair_place_x, .long t_pair_place_y, .long t_pair_place_lower]))]) (w2 := [(h_t, .inr (11, [.ref h_t_cloud, .ref h_t_reader, .ref h_t_hull, .ref h_t_near, .ref h_t_firstTie, .ref h_t_reducer, .ref h_t_chooser, .ref h_t_pair, .ref h_t_divider, .ref h_t_depths, .ref h_t_spot])), (h_t_cloud, .inr (0, [.ref h_t_cloud_x, .ref h_t_cloud_y, .ref h_t_cloud_colour, .ref h_t_cloud_load, .int t_cloud_size, .int t_cloud_centreX, .int t_cloud_centreY])), (h_t_cloud_x, .inl (cI, 24, .inl t_cloud_x)), (h_t_cloud_y, .inl (cI, 24, .inl t_cloud_y)), (h_t_pair, .inr (3, [.ref h_t_pair_first, .ref h_t_pair_second, .ref h_t_pair_third, .ref h_t_pair_place, .long t_pair_gapSquare, .long t_pair_gapLower, .long t_pair_gapX, .long t_pair_gapY, .ref h_t_pair_near, .int t_pair_threefold, .long t_pair_leastX, .long t_pair_leastY, .long t_pair_leastLower])), (h_t_pair_first, .inr (2, [.ref h_t_pair_first_chain, .ref h_t_pair_first_x, .ref h_t_pair_first_y, .ref h_t_pair_first_sorted, .int t_pair_first_size])), (h_t_pair_first_chain, .inl (cI, 48, .inl t_pair_first_chain)), (h_t_pair_first_x, .inl (cI, 48, .inl t_pair_first_x)), (h_t_pair_first_y, .inl (cI, 48, .inl t_pair_first_y)), (h_t_pair_first_sorted, .inl (cI, 24, .inl t_pair_first_sorted)), (h_t_pair_second, .inr (2, [.ref h_t_pair_second_chain, .ref h_t_pair_second_x, .ref h_t_pair_second_y, .ref h_t_pair_second_sorted, .int t_pair_second_size])), (h_t_pair_second_chain, .inl (cI, 48, .inl t_pair_second_chain)), (h_t_pair_second_x, .inl (cI, 48, .inl t_pair_second_x)), (h_t_pair_second_y, .inl (cI, 48, .inl t_pair_second_y)), (h_t_pair_second_sorted, .inl (cI, 24, .inl t_pair_second_sorted)), (h_t_pair_third, .inr (2, [.ref h_t_pair_third_chain, .ref h_t_pair_third_x, .ref h_t_pair_third_y, .ref h_t_pair_third_sorted, .int t_pair_third_size])), (h_t_pair_third_x, .inl (cI, 48, .inl t_pair_third_x)), (h_t_pair_third_y, .inl (cI, 48, .inl t_pair_third_y)), (h_t_pair_place, .inr (6, [.long t_pair_place_x, .long t_pair_place_y, .long t_pair_place_lower]))]) (va_runV (As := [.int a1]) (rest := []) ⟨hx, hb, hml, hown, hts⟩ (mtX0_hasSet l dC dI cI cL cB K h_t_cloud h_t_cloud_x h_t_cloud_y h_t_cloud_colour h_t_cloud_load H.size t_cloud_size t_cloud_centreX t_cloud_centreY a1 r_1 hq_2) (cwV 1 hts gv_X11_152 rfl rfl rfl hdV_X0_hasSet ⟨Nat.le_trans (Nat.le_of_ble_eq_true rfl) hF, Nat.le_trans (Nat.le_of_ble_eq_true rfl) hLo⟩) (cPreV hK hP hD hT [1] rfl rfl (ci := 0) (q0 := 0) rfl rfl) rfl rfl hl.1 rfl (lv_room (Nat.le_of_ble_eq_true rfl)) dX11_meet_5 ⟨Nat.zero_le _, Nat.zero_le _⟩) hP hD hS hA [1] [0, 2, 3, 4, 5, 6, 7, 8, 9, 10, 11, 12, 13, 14, 15, 16, 17, 18] [0, 18, 1, 2, 3, 4, 5, 6, 7, 8, 9, 10, 11, 12, 13, 14, 15, 16, 17] rfl rfl rfl rfl rfl rfl (fun H locs hP hD hS => ?_)
  refine lv_if_eq (tgt := 22) hx hb dX11_meet_8 (by decide) (fun hc => ?_) (fun hc => ?_)
  · replace hf := it_t (hc) hf
    refine lv_bipush (v := (-2 : Int32)) hx hb dX11_meet_22 (by decide) ?_
    obtain ⟨rfl, rfl, rfl, rfl, rfl, rfl, rfl, rfl, rfl, rfl, rfl, rfl, rfl, rfl, rfl, rfl, rfl, rfl⟩ := o18 hf
    exact W.iret hx hb hr (fun t ht hW => ⟨⟨_, (), rfl, rfl, by rw [ht]; exact hP, hD⟩, hS.F ht⟩) hS.2.2 dX11_meet_24
  · replace hf := it_f (hc) hf
    refine lv_aload_n hx hb dX11_meet_11 rfl (lv_at hl 0 rfl) ?_
    refine va_get (D := (dC, dI)) (ci := 11) (v := .ref h_t_cloud) (C := RX11) (T := TX11) (N := 11) hx hb hts in_X11 hown hK hP 0 rfl rfl 0 (Nat.le_of_ble_eq_true rfl) (hts _ qf_X11_12) (fun _ h9 => h9) rfl dX11_meet_12 ?_
    refine lv_iload_n hx hb dX11_meet_15 rfl (lv_at hl 2 rfl) ?_
    obtain ⟨r_3, hq_4, hf⟩ := b1_some hf
    refine xci (wr := [(h_t, .inr (11, [.ref h_t_cloud, .ref h_t_reader, .ref h_t_hull, .ref h_t_near, .ref h_t_firstTie, .ref h_t_reducer, .ref h_t_chooser, .ref h_t_pair, .ref h_t_divider, .ref h_t_depths, .ref h_t_spot])), (h_t_cloud_x, .inl (cI, 24, .inl t_cloud_x)), (h_t_cloud_y, .inl (cI, 24, .inl t_cloud_y)), (h_t_pair, .inr (3, [.ref h_t_pair_first, .ref h_t_pair_second, .ref h_t_pair_third, .ref h_t_pair_place, .long t_pair_gapSquare, .long t_pair_gapLower, .long t_pair_gapX, .long t_pair_gapY, .ref h_t_pair_near, .int t_pair_threefold, .long t_pair_leastX, .long t_pair_leastY, .long t_pair_leastLower])), (h_t_pair_first, .inr (2, [.ref h_t_pair_first_chain, .ref h_t_pair_first_x, .ref h_t_pair_first_y, .ref h_t_pair_first_sorted, .int t_pair_first_size])), (h_t_pair_first_chain, .inl (cI, 48, .inl t_pair_first_chain)), (h_t_pair_first_x, .inl (cI, 48, .inl t_pair_first_x)), (h_t_pair_first_y, .inl (cI, 48, .inl t_pair_first_y)), (h_t_pair_first_sorted, .inl (cI, 24, .inl t_pair_first_sorted)), (h_t_pair_second, .inr (2, [.ref h_t_pair_second_chain, .ref h_t_pair_second_x, .ref h_t_pair_second_y, .ref h_t_pair_second_sorted, .int t_pair_second_size])), (h_t_pair_second_chain, .inl (cI, 48, .inl t_pair_second_chain)), (h_t_pair_second_x, .inl (cI, 48, .inl t_pair_second_x)), (h_t_pair_second_y, .inl (cI, 48, .inl t_pair_second_y)), (h_t_pair_second_sorted, .inl (cI, 24, .inl t_pair_second_sorted)), (h_t_pair_third, .inr (2, [.ref h_t_pair_third_chain, .ref h_t_pair_third_x, .ref h_t_pair_third_y, .ref h_t_pair_third_sorted, .int t_pair_third_size])), (h_t_pair_third_x, .inl (cI, 48, .inl t_pair_third_x)), (h_t_pair_third_y, .inl (cI, 48, .inl t_pair_third_y)), (h_t_pair_place, .inr (6, [.long t_pair_place_x, .long t_pair_place_y, .long t_pair_place_lower]))]) (w2 := [(h_t, .inr (11, [.ref h_t_cloud, .ref h_t_reader, .ref h_t_hull, .ref h_t_near, .ref h_t_firstTie, .ref h_t_reducer, .ref h_t_chooser, .ref h_t_pair, .ref h_t_divider, .ref h_t_depths, .ref h_t_spot])), (h_t_cloud, .inr (0, [.ref h_t_cloud_x, .ref h_t_cloud_y, .ref h_t_cloud_colour, .ref h_t_cloud_load, .int t_cloud_size, .int t_cloud_centreX, .int t_cloud_centreY])), (h_t_cloud_x, .inl (cI, 24, .inl t_cloud_x)), (h_t_cloud_y, .inl (cI, 24, .inl t_cloud_y)), (h_t_pair, .inr (3, [.ref h_t_pair_first, .ref h_t_pair_second, .ref h_t_pair_third, .ref h_t_pair_place, .long t_pair_gapSquare, .long t_pair_gapLower, .long t_pair_gapX, .long t_pair_gapY, .ref h_t_pair_near, .int t_pair_threefold, .long t_pair_leastX, .long t_pair_leastY, .long t_pair_leastLower])), (h_t_pair_first, .inr (2, [.ref h_t_pair_first_chain, .ref h_t_pair_first_x, .ref h_t_pair_first_y, .ref h_t_pair_first_sorted, .int t_pair_first_size])), (h_t_pair_first_chain, .inl (cI, 48, .inl t_pair_first_chain)), (h_t_pair_first_x, .inl (cI, 48, .inl t_pair_first_x)), (h_t_pair_first_y, .inl (cI, 48, .inl t_pair_first_y)), (h_t_pair_first_sorted, .inl (cI, 24, .inl t_pair_first_sorted)), (h_t_pair_second, .inr (2, [.ref h_t_pair_second_chain, .ref h_t_pair_second_x, .ref h_t_pair_second_y, .ref h_t_pair_second_sorted, .int t_pair_second_size])), (h_t_pair_second_chain, .inl (cI, 48, .inl t_pair_second_chain)), (h_t_pair_second_x, .inl (cI, 48, .inl t_pair_second_x)), (h_t_pair_second_y, .inl (cI, 48, .inl t_pair_second_y)), (h_t_pair_second_sorted, .inl (cI, 24, .inl t_pair_second_sorted)), (h_t_pair_third, .inr (2, [.ref h_t_pair_third_chain, .ref h_t_pair_third_x, .ref h_t_pair_third_y, .ref h_t_pair_third_sorted, .int t_pair_third_size])), (h_t_pair_third_x, .inl (cI, 48, .inl t_pair_third_x)), (h_t_pair_third_y, .inl (cI, 48, .inl t_pair_third_y)), (h_t_pair_place, .inr (6, [.long t_pair_place_x, .long t_pair_place_y, .long t_pair_place_lower]))]) (va_runV (As := [.int a2]) (rest := []) ⟨hx, hb, hml, hown, hts⟩ (mtX0_hasSet l dC dI cI cL cB K h_t_cloud h_t_cloud_x h_t_cloud_y h_t_cloud_colour h_t_cloud_load H.size t_cloud_size t_cloud_centreX t_cloud_centreY a2 r_3 hq_4) (cwV 1 hts gv_X11_152 rfl rfl rfl hdV_X0_hasSet ⟨Nat.le_trans (Nat.le_of_ble_eq_true rfl) hF, Nat.le_trans (Nat.le_of_ble_eq_true rfl) hLo⟩) (cPreV hK hP hD hT [1] rfl rfl (ci := 0) (q0 := 0) rfl rfl) rfl rfl hl.1 rfl (lv_room (Nat.le_of_ble_eq_true rfl)) dX11_meet_16 ⟨Nat.zero_le _, Nat.zero_le _⟩) hP hD hS hA [1] [0, 2, 3, 4, 5, 6, 7, 8, 9, 10, 11, 12, 13, 14, 15, 16, 17, 18] [0, 18, 1, 2, 3, 4, 5, 6, 7, 8, 9, 10, 11, 12, 13, 14, 15, 16, 17] rfl rfl rfl rfl rfl rfl (fun H locs hP hD hS => ?_)
    refine lv_if_ne (tgt := 25) hx hb dX11_meet_19 (by decide) (fun hc => ?_) (fun hc => ?_)
    · replace hf := it_f (hc) hf
      refine lv_aload_n hx hb dX11_meet_25 rfl (lv_at hl 0 rfl) ?_
      refine va_get (D := (dC, dI)) (ci := 11) (v := .ref h_t_pair) (C := RX11) (T := TX11) (N := 11) hx hb hts in_X11 hown hK hP 0 rfl rfl 7 (Nat.le_of_ble_eq_true rfl) (hts _ qf_X11_63) (fun _ h9 => h9) rfl dX11_meet_26 ?_
      refine lv_aload_n hx hb dX11_meet_29 rfl (lv_at hl 0 rfl) ?_
      refine va_get (D := (dC, dI)) (ci := 11) (v := .ref h_t_cloud) (C := RX11) (T := TX11) (N := 11) hx hb hts in_X11 hown hK hP 0 rfl rfl 0 (Nat.le_of_ble_eq_true rfl) (hts _ qf_X11_12) (fun _ h9 => h9) rfl dX11_meet_30 ?_
      refine lv_iload_n hx hb dX11_meet_33 rfl (lv_at hl 1 rfl) ?_
      refine lv_iload_n hx hb dX11_meet_34 rfl (lv_at hl 2 rfl) ?_
      obtain ⟨t_pair_threefold_5, t_pair_first_size_6, t_pair_first_chain_7, t_pair_first_x_8, t_pair_first_y_9, t_pair_first_sorted_10, t_pair_second_size_11, t_pair_second_chain_12, t_pair_second_x_13, t_pair_second_y_14, t_pair_second_sorted_15, hq_16, hf⟩ := b11_some hf
      refine xcv (wr := [(h_t, .inr (11, [.ref h_t_cloud, .ref h_t_reader, .ref h_t_hull, .ref h_t_near, .ref h_t_firstTie, .ref h_t_reducer, .ref h_t_chooser, .ref h_t_pair, .ref h_t_divider, .ref h_t_depths, .ref h_t_spot])), (h_t_pair_third, .inr (2, [.ref h_t_pair_third_chain, .ref h_t_pair_third_x, .ref h_t_pair_third_y, .ref h_t_pair_third_sorted, .int t_pair_third_size])), (h_t_pair_third_x, .inl (cI, 48, .inl t_pair_third_x)), (h_t_pair_third_y, .inl (cI, 48, .inl t_pair_third_y)), (h_t_pair_place, .inr (6, [.long t_pair_place_x, .long t_pair_place_y, .long t_pair_place_lower]))]) (w2 := [(h_t, .inr (11, [.ref h_t_cloud, .ref h_t_reader, .ref h_t_hull, .ref h_t_near, .ref h_t_firstTie, .ref h_t_reducer, .ref h_t_chooser, .ref h_t_pair, .ref h_t_divider, .ref h_t_depths, .ref h_t_spot])), (h_t_cloud, .inr (0, [.ref h_t_cloud_x, .ref h_t_cloud_y, .ref h_t_cloud_colour, .ref h_t_cloud_load, .int t_cloud_size, .int t_cloud_centreX, .int t_cloud_centreY])), (h_t_cloud_x, .inl (cI, 24, .inl t_cloud_x)), (h_t_cloud_y, .inl (cI, 24, .inl t_cloud_y)), (h_t_pair, .inr (3, [.ref h_t_pair_first, .ref h_t_pair_second, .ref h_t_pair_third, .ref h_t_pair_place, .long t_pair_gapSquare, .long t_pair_gapLower, .long t_pair_gapX, .long t_pair_gapY, .ref h_t_pair_near, .int t_pair_threefold_5, .long t_pair_leastX, .long t_pair_leastY, .long t_pair_leastLower])), (h_t_pair_first, .inr (2, [.ref h_t_pair_first_chain, .ref h_t_pair_first_x, .ref h_t_pair_first_y, .ref h_t_pair_first_sorted, .int t_pair_first_size_6])), (h_t_pair_first_chain, .inl (cI, 48, .inl t_pair_first_chain_7)), (h_t_pair_first_x, .inl (cI, 48, .inl t_pair_first_x_8)), (h_t_pair_first_y, .inl (cI, 48, .inl t_pair_first_y_9)), (h_t_pair_first_sorted, .inl (cI, 24, .inl t_pair_first_sorted_10)), (h_t_pair_second, .inr (2, [.ref h_t_pair_second_chain, .ref h_t_pair_second_x, .ref h_t_pair_second_y, .ref h_t_pair_second_sorted, .int t_pair_second_size_11])), (h_t_pair_second_chain, .inl (cI, 48, .inl t_pair_second_chain_12)), (h_t_pair_second_x, .inl (cI, 48, .inl t_pair_second_x_13)), (h_t_pair_second_y, .inl (cI, 48, .inl t_pair_second_y_14)), (h_t_pair_second_sorted, .inl (cI, 24, .inl t_pair_second_sorted_15)), (h_t_pair_third, .inr (2, [.ref h_t_pair_third_chain, .ref h_t_pair_third_x, .ref h_t_pair_third_y, .ref h_t_pair_third_sorted, .int t_pair_third_size])), (h_t_pair_third_x, .inl (cI, 48, .inl t_pair_third_x)), (h_t_pair_third_y, .inl (cI, 48, .inl t_pair_third_y)), (h_t_pair_place, .inr (6, [.long t_pair_place_x, .long t_pair_place_y, .long t_pair_place_lower]))]) (va_runV (As := [.ref h_t_cloud, .int a1, .int a2]) (rest := []) ⟨hx, hb, hml, hown, hts⟩ (mtX3_take l dC dI cI cL cB K h_t_pair h_t_pair_first h_t_pair_second h_t_pair_third h_t_pair_place h_t_pair_near h_t_pair_first_chain h_t_pair_first_x h_t_pair_first_y h_t_pair_first_sorted h_t_pair_second_chain h_t_pair_second_x h_t_pair_second_y h_t_pair_second_sorted h_t_cloud h_t_cloud_x h_t_cloud_y h_t_cloud_colour h_t_cloud_load H.size t_pair_gapSquare t_pair_gapLower t_pair_gapX t_pair_gapY t_pair_threefold t_pair_leastX t_pair_leastY t_pair_leastLower t_pair_first_size t_pair_first_chain t_pair_first_x t_pair_first_y t_pair_first_sorted t_pair_second_size t_pair_second_chain t_pair_second_x t_pair_second_y t_pair_second_sorted t_cloud_size t_cloud_centreX t_cloud_centreY t_cloud_x t_cloud_y a1 a2 t_pair_threefold_5 t_pair_first_size_6 t_pair_first_chain_7 t_pair_first_x_8 t_pair_first_y_9 t_pair_first_sorted_10 t_pair_second_size_11 t_pair_second_chain_12 t_pair_second_x_13 t_pair_second_y_14 t_pair_second_sorted_15 hq_16) (cwV 3 hts gv_X11_301 rfl rfl rfl hdV_X3_take ⟨Nat.le_trans (Nat.le_of_ble_eq_true rfl) hF, Nat.le_trans (Nat.le_of_ble_eq_true rfl) hLo⟩) (cPreV hK hP hD hT [4, 5, 6, 7, 8, 9, 10, 11, 12, 13, 14, 1, 2, 3] rfl rfl (ci := 3) (q0 := 0) rfl rfl) rfl rfl hl.1 rfl (lv_room (Nat.le_of_ble_eq_true rfl)) dX11_meet_35 ⟨Nat.zero_le _, Nat.zero_le _⟩) hP hD hS hA [4, 5, 6, 7, 8, 9, 10, 11, 12, 13, 14, 1, 2, 3] [0, 15, 16, 17, 18] [0, 16, 17, 18, 5, 6, 7, 8, 9, 10, 11, 12, 13, 14, 15, 1, 2, 3, 4] rfl rfl rfl rfl rfl rfl (fun H locs hP hD hS => ?_)
      refine lv_aload_n hx hb dX11_meet_38 rfl (lv_at hl 0 rfl) ?_
      refine va_get (D := (dC, dI)) (ci := 11) (v := .ref h_t_pair) (C := RX11) (T := TX11) (N := 11) hx hb hts in_X11 hown hK hP 0 rfl rfl 7 (Nat.le_of_ble_eq_true rfl) (hts _ qf_X11_63) (fun _ h9 => h9) rfl dX11_meet_39 ?_
      obtain ⟨r_17, t_pair_leastX_18, t_pair_leastY_19, t_pair_leastLower_20, t_pair_place_x_21, t_pair_place_y_22, t_pair_place_lower_23, hq_24, hf⟩ := b7_some hf
      refine xci (wr := [(h_t, .inr (11, [.ref h_t_cloud, .ref h_t_reader, .ref h_t_hull, .ref h_t_near, .ref h_t_firstTie, .ref h_t_reducer, .ref h_t_chooser, .ref h_t_pair, .ref h_t_divider, .ref h_t_depths, .ref h_t_spot])), (h_t_cloud, .inr (0, [.ref h_t_cloud_x, .ref h_t_cloud_y, .ref h_t_cloud_colour, .ref h_t_cloud_load, .int t_cloud_size, .int t_cloud_centreX, .int t_cloud_centreY])), (h_t_cloud_x, .inl (cI, 24, .inl t_cloud_x)), (h_t_cloud_y, .inl (cI, 24, .inl t_cloud_y)), (h_t_pair_first_chain, .inl (cI, 48, .inl t_pair_first_chain_7)), (h_t_pair_first_sorted, .inl (cI, 24, .inl t_pair_first_sorted_10)), (h_t_pair_second_chain, .inl (cI, 48, .inl t_pair_second_chain_12)), (h_t_pair_second_sorted, .inl (cI, 24, .inl t_pair_second_sorted_15))]) (w2 := [(h_t, .inr (11, [.ref h_t_cloud, .ref h_t_reader, .ref h_t_hull, .ref h_t_near, .ref h_t_firstTie, .ref h_t_reducer, .ref h_t_chooser, .ref h_t_pair, .ref h_t_divider, .ref h_t_depths, .ref h_t_spot])), (h_t_cloud, .inr (0, [.ref h_t_cloud_x, .ref h_t_cloud_y, .ref h_t_cloud_colour, .ref h_t_cloud_load, .int t_cloud_size, .int t_cloud_centreX, .int t_cloud_centreY])), (h_t_cloud_x, .inl (cI, 24, .inl t_cloud_x)), (h_t_cloud_y, .inl (cI, 24, .inl t_cloud_y)), (h_t_pair, .inr (3, [.ref h_t_pair_first, .ref h_t_pair_second, .ref h_t_pair_third, .ref h_t_pair_place, .long t_pair_gapSquare, .long t_pair_gapLower, .long t_pair_gapX, .long t_pair_gapY, .ref h_t_pair_near, .int t_pair_threefold_5, .long t_pair_leastX_18, .long t_pair_leastY_19, .long t_pair_leastLower_20])), (h_t_pair_first, .inr (2, [.ref h_t_pair_first_chain, .ref h_t_pair_first_x, .ref h_t_pair_first_y, .ref h_t_pair_first_sorted, .int t_pair_first_size_6])), (h_t_pair_first_chain, .inl (cI, 48, .inl t_pair_first_chain_7)), (h_t_pair_first_x, .inl (cI, 48, .inl t_pair_first_x_8)), (h_t_pair_first_y, .inl (cI, 48, .inl t_pair_first_y_9)), (h_t_pair_first_sorted, .inl (cI, 24, .inl t_pair_first_sorted_10)), (h_t_pair_second, .inr (2, [.ref h_t_pair_second_chain, .ref h_t_pair_second_x, .ref h_t_pair_second_y, .ref h_t_pair_second_sorted, .int t_pair_second_size_11])), (h_t_pair_second_chain, .inl (cI, 48, .inl t_pair_second_chain_12)), (h_t_pair_second_x, .inl (cI, 48, .inl t_pair_second_x_13)), (h_t_pair_second_y, .inl (cI, 48, .inl t_pair_second_y_14)), (h_t_pair_second_sorted, .inl (cI, 24, .inl t_pair_second_sorted_15)), (h_t_pair_third, .inr (2, [.ref h_t_pair_third_chain, .ref h_t_pair_third_x, .ref h_t_pair_third_y, .ref h_t_pair_third_sorted, .int t_pair_third_size])), (h_t_pair_third_x, .inl (cI, 48, .inl t_pair_third_x)), (h_t_pair_third_y, .inl (cI, 48, .inl t_pair_third_y)), (h_t_pair_place, .inr (6, [.long t_pair_place_x_21, .long t_pair_place_y_22, .long t_pair_place_lower_23]))]) (va_runV (As := []) (rest := []) ⟨hx, hb, hml, hown, hts⟩ (mtX3_find l dC dI cI cL cB K h_t_pair h_t_pair_first h_t_pair_second h_t_pair_third h_t_pair_place h_t_pair_near h_t_pair_first_chain h_t_pair_first_x h_t_pair_first_y h_t_pair_first_sorted h_t_pair_second_chain h_t_pair_second_x h_t_pair_second_y h_t_pair_second_sorted h_t_pair_third_chain h_t_pair_third_x h_t_pair_third_y h_t_pair_third_sorted H.size t_pair_gapSquare t_pair_gapLower t_pair_gapX t_pair_gapY t_pair_threefold_5 t_pair_leastX t_pair_leastY t_pair_leastLower t_pair_first_size_6 t_pair_first_x_8 t_pair_first_y_9 t_pair_second_size_11 t_pair_second_x_13 t_pair_second_y_14 t_pair_third_size t_pair_third_x t_pair_third_y t_pair_place_x t_pair_place_y t_pair_place_lower r_17 t_pair_leastX_18 t_pair_leastY_19 t_pair_leastLower_20 t_pair_place_x_21 t_pair_place_y_22 t_pair_place_lower_23 hq_24) (cwV 0 hts gv_X11_305 rfl rfl rfl hdV_X3_find ⟨Nat.le_trans (Nat.le_of_ble_eq_true rfl) hF, Nat.le_trans (Nat.le_of_ble_eq_true rfl) hLo⟩) (cPreV hK hP hD hT [4, 5, 7, 8, 10, 12, 13, 15, 16, 17, 18] rfl rfl (ci := 3) (q0 := 0) rfl rfl) rfl rfl hl.1 rfl (lv_room (Nat.le_of_ble_eq_true rfl)) dX11_meet_42 ⟨Nat.zero_le _, Nat.zero_le _⟩) hP hD hS hA [4, 5, 7, 8, 10, 12, 13, 15, 16, 17, 18] [0, 1, 2, 3, 6, 9, 11, 14] [0, 1, 2, 3, 8, 9, 4, 10, 11, 5, 12, 6, 13, 14, 7, 15, 16, 17, 18] rfl rfl rfl rfl rfl rfl (fun H locs hP hD hS => ?_)
      refine lv_if_eq (tgt := 52) hx hb dX11_meet_45 (by decide) (fun hc => ?_) (fun hc => ?_)
      · replace hf := it_t (hc) hf
        refine lv_iconst (v := (0 : Int32)) hx hb dX11_meet_52 (by decide) ?_
        obtain ⟨rfl, rfl, rfl, rfl, rfl, rfl, rfl, rfl, rfl, rfl, rfl, rfl, rfl, rfl, rfl, rfl, rfl, rfl⟩ := o18 hf
        exact W.iret hx hb hr (fun t ht hW => ⟨⟨_, (), rfl, rfl, by rw [ht]; exact hP, hD⟩, hS.F ht⟩) hS.2.2 dX11_meet_53
      · replace hf := it_f (hc) hf
        refine lv_iconst (v := (1 : Int32)) hx hb dX11_meet_48 (by decide) ?_
        refine lv_goto (tgt := 53) hx hb dX11_meet_49 (by decide) ?_
        obtain ⟨rfl, rfl, rfl, rfl, rfl, rfl, rfl, rfl, rfl, rfl, rfl, rfl, rfl, rfl, rfl, rfl, rfl, rfl⟩ := o18 hf
        exact W.iret hx hb hr (fun t ht hW => ⟨⟨_, (), rfl, rfl, by rw [ht]; exact hP, hD⟩, hS.F ht⟩) hS.2.2 dX11_meet_53
    · replace hf := it_t (hc) hf
      refine lv_bipush (v := (-2 : Int32)) hx hb dX11_meet_22 (by decide) ?_
      obtain ⟨rfl, rfl, rfl, rfl, rfl, rfl, rfl, rfl, rfl, rfl, rfl, rfl, rfl, rfl, rfl, rfl, rfl, rfl⟩ := o18 hf
      exact W.iret hx hb hr (fun t ht hW => ⟨⟨_, (), rfl, rfl, by rw [ht]; exact hP, hD⟩, hS.F ht⟩) hS.2.2 dX11_meet_24
theorem dX11_meeting_0 : decode cX11_meeting 0 = .ok (.aload_n 0, 1) := by decide +kernel
theorem dX11_meeting_1 : decode cX11_meeting 1 = .ok (.getfield 12, 3) := by decide +kernel
theorem dX11_meeting_4 : decode cX11_meeting 4 = .ok (.iload_n 1, 1) := by decide +kernel
theorem dX11_meeting_5 : decode cX11_meeting 5 = .ok (.invokevirtual 152, 3) := by decide +kernel
theorem dX11_meeting_8 : decode cX11_meeting 8 = .ok (.ifCond .eq 14, 3) := by decide +kernel
theorem dX11_meeting_11 : decode cX11_meeting 11 = .ok (.aload_n 0, 1) := by decide +kernel
theorem dX11_meeting_12 : decode cX11_meeting 12 = .ok (.getfield 12, 3) := by decide +kernel
theorem dX11_meeting_15 : decode cX11_meeting 15 = .ok (.iload_n 2, 1) := by decide +kernel
theorem dX11_meeting_16 : decode cX11_meeting 16 = .ok (.invokevirtual 152, 3) := by decide +kernel
theorem dX11_meeting_19 : decode cX11_meeting 19 = .ok (.ifCond .ne 7, 3) := by decide +kernel
theorem dX11_meeting_22 : decode cX11_meeting 22 = .ok (.ldc2_w 131, 3) := by decide +kernel
theorem dX11_meeting_25 : decode cX11_meeting 25 = .ok (.lreturn, 1) := by decide +kernel
theorem dX11_meeting_26 : decode cX11_meeting 26 = .ok (.aload_n 0, 1) := by decide +kernel
theorem dX11_meeting_27 : decode cX11_meeting 27 = .ok (.getfield 63, 3) := by decide +kernel
theorem dX11_meeting_30 : decode cX11_meeting 30 = .ok (.aload_n 0, 1) := by decide +kernel
theorem dX11_meeting_31 : decode cX11_meeting 31 = .ok (.getfield 12, 3) := by decide +kernel
theorem dX11_meeting_34 : decode cX11_meeting 34 = .ok (.iload_n 1, 1) := by decide +kernel
theorem dX11_meeting_35 : decode cX11_meeting 35 = .ok (.iload_n 2, 1) := by decide +kernel
theorem dX11_meeting_36 : decode cX11_meeting 36 = .ok (.invokevirtual 301, 3) := by decide +kernel
theorem dX11_meeting_39 : decode cX11_meeting 39 = .ok (.aload_n 0, 1) := by decide +kernel
theorem dX11_meeting_40 : decode cX11_meeting 40 = .ok (.getfield 63, 3) := by decide +kernel
theorem dX11_meeting_43 : decode cX11_meeting 43 = .ok (.invokevirtual 305, 3) := by decide +kernel
theorem dX11_meeting_46 : decode cX11_meeting 46 = .ok (.ifCond .eq 18, 3) := by decide +kernel
theorem dX11_meeting_49 : decode cX11_meeting 49 = .ok (.aload_n 0, 1) := by decide +kernel
theorem dX11_meeting_50 : decode cX11_meeting 50 = .ok (.getfield 63, 3) := by decide +kernel
theorem dX11_meeting_53 : decode cX11_meeting 53 = .ok (.getfield 307, 3) := by decide +kernel
theorem dX11_meeting_56 : decode cX11_meeting 56 = .ok (.iload_n 3, 1) := by decide +kernel
theorem dX11_meeting_57 : decode cX11_meeting 57 = .ok (.i2l, 1) := by decide +kernel
theorem dX11_meeting_58 : decode cX11_meeting 58 = .ok (.invokestatic 232, 3) := by decide +kernel
theorem dX11_meeting_61 : decode cX11_meeting 61 = .ok (.goto 6, 3) := by decide +kernel
theorem dX11_meeting_64 : decode cX11_meeting 64 = .ok (.ldc2_w 131, 3) := by decide +kernel
theorem dX11_meeting_67 : decode cX11_meeting 67 = .ok (.lreturn, 1) := by decide +kernel
set_option maxRecDepth 100000 in
set_option maxHeartbeats 4000000 in
theorem mtX11_meeting (l : Launch) (dC : Nat → ClassId) (dI : Nat → Nat → Nat) (cI cL cB : ClassId) (K : Nat) (h_t h_t_cloud h_t_reader h_t_hull h_t_near h_t_firstTie h_t_reducer h_t_chooser h_t_pair h_t_divider h_t_depths h_t_spot h_t_cloud_x h_t_cloud_y h_t_cloud_colour h_t_cloud_load h_t_pair_first h_t_pair_second h_t_pair_third h_t_pair_place h_t_pair_near h_t_pair_first_chain h_t_pair_first_x h_t_pair_first_y h_t_pair_first_sorted h_t_pair_second_chain h_t_pair_second_x h_t_pair_second_y h_t_pair_second_sorted h_t_pair_third_chain h_t_pair_third_x h_t_pair_third_y h_t_pair_third_sorted : Nat) (sz : Nat) (t_cloud_size : Int32) (t_cloud_centreX : Int32) (t_cloud_centreY : Int32) (t_cloud_x : Nat → Int32) (t_cloud_y : Nat → Int32) (t_pair_gapSquare : Int64) (t_pair_gapLower : Int64) (t_pair_gapX : Int64) (t_pair_gapY : Int64) (t_pair_threefold : Int32) (t_pair_leastX : Int64) (t_pair_leastY : Int64) (t_pair_leastLower : Int64) (t_pair_first_size : Int32) (t_pair_first_chain : Nat → Int32) (t_pair_first_x : Nat → Int32) (t_pair_first_y : Nat → Int32) (t_pair_first_sorted : Nat → Int32) (t_pair_second_size : Int32) (t_pair_second_chain : Nat → Int32) (t_pair_second_x : Nat → Int32) (t_pair_second_y : Nat → Int32) (t_pair_second_sorted : Nat → Int32) (t_pair_third_size : Int32) (t_pair_third_x : Nat → Int32) (t_pair_third_y : Nat → Int32) (t_pair_place_x : Int64) (t_pair_place_y : Int64) (t_pair_place_lower : Int64) (a1 : Int32) (a2 : Int32) (a3 : Int32) (o_r : Int64) (o_t_pair_threefold : Int32) (o_t_pair_leastX : Int64) (o_t_pair_leastY : Int64) (o_t_pair_leastLower : Int64) (o_t_pair_first_size : Int32) (o_t_pair_first_chain : Nat → Int32) (o_t_pair_first_x : Nat → Int32) (o_t_pair_first_y : Nat → Int32) (o_t_pair_first_sorted : Nat → Int32) (o_t_pair_second_size : Int32) (o_t_pair_second_chain : Nat → Int32) (o_t_pair_second_x : Nat → Int32) (o_t_pair_second_y : Nat → Int32) (o_t_pair_second_sorted : Nat → Int32) (o_t_pair_place_x : Int64) (o_t_pair_place_y : Int64) (o_t_pair_place_lower : Int64) (hf : fX11_meeting K t_cloud_size t_cloud_x t_cloud_y t_pair_threefold t_pair_leastX t_pair_leastY t_pair_leastLower t_pair_first_size t_pair_first_chain t_pair_first_x t_pair_first_y t_pair_first_sorted t_pair_second_size t_pair_second_chain t_pair_second_x t_pair_second_y t_pair_second_sorted t_pair_third_size t_pair_third_x t_pair_third_y t_pair_place_x t_pair_place_y t_pair_place_lower a1 a2 a3 = some (o_r, o_t_pair_threefold, o_t_pair_leastX, o_t_pair_leastY, o_t_pair_leastLower, o_t_pair_first_size, o_t_pair_first_chain, o_t_pair_first_x, o_t_pair_first_y, o_t_pair_first_sorted, o_t_pair_second_size, o_t_pair_second_chain, o_t_pair_second_x, o_t_pair_second_y, o_t_pair_second_sorted, o_t_pair_place_x, o_t_pair_place_y, o_t_pair_place_lower)) : Met l yX11_meeting [Cond.code yX11_meeting cX11_meeting 4 (some .long)] ({ frames := 4, cells := 0, slots := 0, locals := 119 }) (va_Pc [.ref h_t, .int a1, .int a2, .int a3] (cPre dC dI cI cL cB sz [(h_t, .inr (11, [.ref h_t_cloud, .ref h_t_reader, .ref h_t_hull, .ref h_t_near, .ref h_t_firstTie, .ref h_t_reducer, .ref h_t_chooser, .ref h_t_pair, .ref h_t_divider, .ref h_t_depths, .ref h_t_spot])), (h_t_cloud, .inr (0, [.ref h_t_cloud_x, .ref h_t_cloud_y, .ref h_t_cloud_colour, .ref h_t_cloud_load, .int t_cloud_size, .int t_cloud_centreX, .int t_cloud_centreY])), (h_t_cloud_x, .inl (cI, 24, .inl t_cloud_x)), (h_t_cloud_y, .inl (cI, 24, .inl t_cloud_y)), (h_t_pair, .inr (3, [.ref h_t_pair_first, .ref h_t_pair_second, .ref h_t_pair_third, .ref h_t_pair_place, .long t_pair_gapSquare, .long t_pair_gapLower, .long t_pair_gapX, .long t_pair_gapY, .ref h_t_pair_near, .int t_pair_threefold, .long t_pair_leastX, .long t_pair_leastY, .long t_pair_leastLower])), (h_t_pair_first, .inr (2, [.ref h_t_pair_first_chain, .ref h_t_pair_first_x, .ref h_t_pair_first_y, .ref h_t_pair_first_sorted, .int t_pair_first_size])), (h_t_pair_first_chain, .inl (cI, 48, .inl t_pair_first_chain)), (h_t_pair_first_x, .inl (cI, 48, .inl t_pair_first_x)), (h_t_pair_first_y, .inl (cI, 48, .inl t_pair_first_y)), (h_t_pair_first_sorted, .inl (cI, 24, .inl t_pair_first_sorted)), (h_t_pair_second, .inr (2, [.ref h_t_pair_second_chain, .ref h_t_pair_second_x, .ref h_t_pair_second_y, .ref h_t_pair_second_sorted, .int t_pair_second_size])), (h_t_pair_second_chain, .inl (cI, 48, .inl t_pair_second_chain)), (h_t_pair_second_x, .inl (cI, 48, .inl t_pair_second_x)), (h_t_pair_second_y, .inl (cI, 48, .inl t_pair_second_y)), (h_t_pair_second_sorted, .inl (cI, 24, .inl t_pair_second_sorted)), (h_t_pair_third, .inr (2, [.ref h_t_pair_third_chain, .ref h_t_pair_third_x, .ref h_t_pair_third_y, .ref h_t_pair_third_sorted, .int t_pair_third_size])), (h_t_pair_third_x, .inl (cI, 48, .inl t_pair_third_x)), (h_t_pair_third_y, .inl (cI, 48, .inl t_pair_third_y)), (h_t_pair_place, .inr (6, [.long t_pair_place_x, .long t_pair_place_y, .long t_pair_place_lower]))])) (cQl dC dI (va_A [(h_t, .inr (11, [.ref h_t_cloud, .ref h_t_reader, .ref h_t_hull, .ref h_t_near, .ref h_t_firstTie, .ref h_t_reducer, .ref h_t_chooser, .ref h_t_pair, .ref h_t_divider, .ref h_t_depths, .ref h_t_spot])), (h_t_cloud, .inr (0, [.ref h_t_cloud_x, .ref h_t_cloud_y, .ref h_t_cloud_colour, .ref h_t_cloud_load, .int t_cloud_size, .int t_cloud_centreX, .int t_cloud_centreY])), (h_t_cloud_x, .inl (cI, 24, .inl t_cloud_x)), (h_t_cloud_y, .inl (cI, 24, .inl t_cloud_y)), (h_t_pair, .inr (3, [.ref h_t_pair_first, .ref h_t_pair_second, .ref h_t_pair_third, .ref h_t_pair_place, .long t_pair_gapSquare, .long t_pair_gapLower, .long t_pair_gapX, .long t_pair_gapY, .ref h_t_pair_near, .int t_pair_threefold, .long t_pair_leastX, .long t_pair_leastY, .long t_pair_leastLower])), (h_t_pair_first, .inr (2, [.ref h_t_pair_first_chain, .ref h_t_pair_first_x, .ref h_t_pair_first_y, .ref h_t_pair_first_sorted, .int t_pair_first_size])), (h_t_pair_first_chain, .inl (cI, 48, .inl t_pair_first_chain)), (h_t_pair_first_x, .inl (cI, 48, .inl t_pair_first_x)), (h_t_pair_first_y, .inl (cI, 48, .inl t_pair_first_y)), (h_t_pair_first_sorted, .inl (cI, 24, .inl t_pair_first_sorted)), (h_t_pair_second, .inr (2, [.ref h_t_pair_second_chain, .ref h_t_pair_second_x, .ref h_t_pair_second_y, .ref h_t_pair_second_sorted, .int t_pair_second_size])), (h_t_pair_second_chain, .inl (cI, 48, .inl t_pair_second_chain)), (h_t_pair_second_x, .inl (cI, 48, .inl t_pair_second_x)), (h_t_pair_second_y, .inl (cI, 48, .inl t_pair_second_y)), (h_t_pair_second_sorted, .inl (cI, 24, .inl t_pair_second_sorted)), (h_t_pair_third, .inr (2, [.ref h_t_pair_third_chain, .ref h_t_pair_third_x, .ref h_t_pair_third_y, .ref h_t_pair_third_sorted, .int t_pair_third_size])), (h_t_pair_third_x, .inl (cI, 48, .inl t_pair_third_x)), (h_t_pair_third_y, .inl (cI, 48, .inl t_pair_third_y)), (h_t_pair_place, .inr (6, [.long t_pair_place_x, .long t_pair_place_y, .long t_pair_place_lower]))] sz) o_r [(h_t, .inr (11, [.ref h_t_cloud, .ref h_t_reader, .ref h_t_hull, .ref h_t_near, .ref h_t_firstTie, .ref h_t_reducer, .ref h_t_chooser, .ref h_t_pair, .ref h_t_divider, .ref h_t_depths, .ref h_t_spot])), (h_t_cloud, .inr (0, [.ref h_t_cloud_x, .ref h_t_cloud_y, .ref h_t_cloud_colour, .ref h_t_cloud_load, .int t_cloud_size, .int t_cloud_centreX, .int t_cloud_centreY])), (h_t_cloud_x, .inl (cI, 24, .inl t_cloud_x)), (h_t_cloud_y, .inl (cI, 24, .inl t_cloud_y)), (h_t_pair, .inr (3, [.ref h_t_pair_first, .ref h_t_pair_second, .ref h_t_pair_third, .ref h_t_pair_place, .long t_pair_gapSquare, .long t_pair_gapLower, .long t_pair_gapX, .long t_pair_gapY, .ref h_t_pair_near, .int o_t_pair_threefold, .long o_t_pair_leastX, .long o_t_pair_leastY, .long o_t_pair_leastLower])), (h_t_pair_first, .inr (2, [.ref h_t_pair_first_chain, .ref h_t_pair_first_x, .ref h_t_pair_first_y, .ref h_t_pair_first_sorted, .int o_t_pair_first_size])), (h_t_pair_first_chain, .inl (cI, 48, .inl o_t_pair_first_chain)), (h_t_pair_first_x, .inl (cI, 48, .inl o_t_pair_first_x)), (h_t_pair_first_y, .inl (cI, 48, .inl o_t_pair_first_y)), (h_t_pair_first_sorted, .inl (cI, 24, .inl o_t_pair_first_sorted)), (h_t_pair_second, .inr (2, [.ref h_t_pair_second_chain, .ref h_t_pair_second_x, .ref h_t_pair_second_y, .ref h_t_pair_second_sorted, .int o_t_pair_second_size])), (h_t_pair_second_chain, .inl (cI, 48, .inl o_t_pair_second_chain)), (h_t_pair_second_x, .inl (cI, 48, .inl o_t_pair_second_x)), (h_t_pair_second_y, .inl (cI, 48, .inl o_t_pair_second_y)), (h_t_pair_second_sorted, .inl (cI, 24, .inl o_t_pair_second_sorted)), (h_t_pair_third, .inr (2, [.ref h_t_pair_third_chain, .ref h_t_pair_third_x, .ref h_t_pair_third_y, .ref h_t_pair_third_sorted, .int t_pair_third_size])), (h_t_pair_third_x, .inl (cI, 48, .inl t_pair_third_x)), (h_t_pair_third_y, .inl (cI, 48, .inl t_pair_third_y)), (h_t_pair_place, .inr (6, [.long o_t_pair_place_x, .long o_t_pair_place_y, .long o_t_pair_place_lower]))]) 0 0 (va_A [(h_t, .inr (11, [.ref h_t_cloud, .ref h_t_reader, .ref h_t_hull, .ref h_t_near, .ref h_t_firstTie, .ref h_t_reducer, .ref h_t_chooser, .ref h_t_pair, .ref h_t_divider, .ref h_t_depths, .ref h_t_spot])), (h_t_cloud, .inr (0, [.ref h_t_cloud_x, .ref h_t_cloud_y, .ref h_t_cloud_colour, .ref h_t_cloud_load, .int t_cloud_size, .int t_cloud_centreX, .int t_cloud_centreY])), (h_t_cloud_x, .inl (cI, 24, .inl t_cloud_x)), (h_t_cloud_y, .inl (cI, 24, .inl t_cloud_y)), (h_t_pair, .inr (3, [.ref h_t_pair_first, .ref h_t_pair_second, .ref h_t_pair_third, .ref h_t_pair_place, .long t_pair_gapSquare, .long t_pair_gapLower, .long t_pair_gapX, .long t_pair_gapY, .ref h_t_pair_near, .int t_pair_threefold, .long t_pair_leastX, .long t_pair_leastY, .long t_pair_leastLower])), (h_t_pair_first, .inr (2, [.ref h_t_pair_first_chain, .ref h_t_pair_first_x, .ref h_t_pair_first_y, .ref h_t_pair_first_sorted, .int t_pair_first_size])), (h_t_pair_first_chain, .inl (cI, 48, .inl t_pair_first_chain)), (h_t_pair_first_x, .inl (cI, 48, .inl t_pair_first_x)), (h_t_pair_first_y, .inl (cI, 48, .inl t_pair_first_y)), (h_t_pair_first_sorted, .inl (cI, 24, .inl t_pair_first_sorted)), (h_t_pair_second, .inr (2, [.ref h_t_pair_second_chain, .ref h_t_pair_second_x, .ref h_t_pair_second_y, .ref h_t_pair_second_sorted, .int t_pair_second_size])), (h_t_pair_second_chain, .inl (cI, 48, .inl t_pair_second_chain)), (h_t_pair_second_x, .inl (cI, 48, .inl t_pair_second_x)), (h_t_pair_second_y, .inl (cI, 48, .inl t_pair_second_y)), (h_t_pair_second_sorted, .inl (cI, 24, .inl t_pair_second_sorted)), (h_t_pair_third, .inr (2, [.ref h_t_pair_third_chain, .ref h_t_pair_third_x, .ref h_t_pair_third_y, .ref h_t_pair_third_sorted, .int t_pair_third_size])), (h_t_pair_third_x, .inl (cI, 48, .inl t_pair_third_x)), (h_t_pair_third_y, .inl (cI, 48, .inl t_pair_third_y)), (h_t_pair_place, .inr (6, [.long t_pair_place_x, .long t_pair_place_y, .long t_pair_place_lower]))] sz) := by
  refine Met.ofW (cc := cX11_meeting) (maxL := 4) (ret := (some .long)) (by decide) rfl ?_
  intro p e s m args below meth c s₁ B hml hv
  obtain ⟨rfl, hsz, hP, hK, hD0, hT⟩ := hv
  have hx := B.exec
  have hb := B.bytes
  have hr := B.returns
  have hown : s.vm.findClass RX11 = some m.cls := findClass_of_methodNamed B.named
  have hlocks := B.notSynchronized
  have hts := TB.use hT ([.ref h_t, .int a1, .int a2, .int a3] : List Value).toArray
  subst hsz
  have hD := hD0.self (sz := s.heap.size)
  generalize hAe : va_A [(h_t, .inr (11, [.ref h_t_cloud, .ref h_t_reader, .ref h_t_hull, .ref h_t_near, .ref h_t_firstTie, .ref h_t_reducer, .ref h_t_chooser, .ref h_t_pair, .ref h_t_divider, .ref h_t_depths, .ref h_t_spot])), (h_t_cloud, .inr (0, [.ref h_t_cloud_x, .ref h_t_cloud_y, .ref h_t_cloud_colour, .ref h_t_cloud_load, .int t_cloud_size, .int t_cloud_centreX, .int t_cloud_centreY])), (h_t_cloud_x, .inl (cI, 24, .inl t_cloud_x)), (h_t_cloud_y, .inl (cI, 24, .inl t_cloud_y)), (h_t_pair, .inr (3, [.ref h_t_pair_first, .ref h_t_pair_second, .ref h_t_pair_third, .ref h_t_pair_place, .long t_pair_gapSquare, .long t_pair_gapLower, .long t_pair_gapX, .long t_pair_gapY, .ref h_t_pair_near, .int t_pair_threefold, .long t_pair_leastX, .long t_pair_leastY, .long t_pair_leastLower])), (h_t_pair_first, .inr (2, [.ref h_t_pair_first_chain, .ref h_t_pair_first_x, .ref h_t_pair_first_y, .ref h_t_pair_first_sorted, .int t_pair_first_size])), (h_t_pair_first_chain, .inl (cI, 48, .inl t_pair_first_chain)), (h_t_pair_first_x, .inl (cI, 48, .inl t_pair_first_x)), (h_t_pair_first_y, .inl (cI, 48, .inl t_pair_first_y)), (h_t_pair_first_sorted, .inl (cI, 24, .inl t_pair_first_sorted)), (h_t_pair_second, .inr (2, [.ref h_t_pair_second_chain, .ref h_t_pair_second_x, .ref h_t_pair_second_y, .ref h_t_pair_second_sorted, .int t_pair_second_size])), (h_t_pair_second_chain, .inl (cI, 48, .inl t_pair_second_chain)), (h_t_pair_second_x, .inl (cI, 48, .inl t_pair_second_x)), (h_t_pair_second_y, .inl (cI, 48, .inl t_pair_second_y)), (h_t_pair_second_sorted, .inl (cI, 24, .inl t_pair_second_sorted)), (h_t_pair_third, .inr (2, [.ref h_t_pair_third_chain, .ref h_t_pair_third_x, .ref h_t_pair_third_y, .ref h_t_pair_third_sorted, .int t_pair_third_size])), (h_t_pair_third_x, .inl (cI, 48, .inl t_pair_third_x)), (h_t_pair_third_y, .inl (cI, 48, .inl t_pair_third_y)), (h_t_pair_place, .inr (6, [.long t_pair_place_x, .long t_pair_place_y, .long t_pair_place_lower]))] s.heap.size = A at hD ⊢
  have hA : ∀ q : Nat, s.heap.size ≤ q → A q := fun q h => by rw [← hAe]; exact Or.inr h
  clear hAe hD0
  have hl := lv_entry ([.ref h_t, .int a1, .int a2, .int a3]) (n := 4) (Nat.le_of_ble_eq_true rfl)
  rw [lg_entry_eq]
  generalize (lg_sl ([.ref h_t, .int a1, .int a2, .int a3]) ++ List.replicate (4 - (lg_sl ([.ref h_t, .int a1, .int a2, .int a3])).length) Slot.unset).toArray = ls at hl ⊢
  have hl : lv_has ls 4 [(0, .ref h_t), (1, .int a1), (2, .int a2), (3, .int a3)] := hl
  have hF : 4 ≤ (headSpec [Cond.code yX11_meeting cX11_meeting 4 (some .long)] ({ frames := 4, cells := 0, slots := 0, locals := 119 })).room.frames := Nat.le_refl _
  have hLo : 119 ≤ (headSpec [Cond.code yX11_meeting cX11_meeting 4 (some .long)] ({ frames := 4, cells := 0, slots := 0, locals := 119 })).room.locals := Nat.le_refl _
  have C0 : Sx p (headSpec [Cond.code yX11_meeting cX11_meeting 4 (some .long)] ({ frames := 4, cells := 0, slots := 0, locals := 119 })).room s m ([.ref h_t, .int a1, .int a2, .int a3] : List Value).toArray c cX11_meeting 4 RX11 A dC dI cI cL cB 4 119 := ⟨hx, hb, hml, hown, hts, hK, hT, hA, hF, hLo⟩
  refine startH (A := A) hP (fun H locs hP hS => ?_)
  rw [fX11_meeting] at hf
  refine lv_aload_n hx hb dX11_meeting_0 rfl (lv_at hl 0 rfl) ?_
  refine va_get (D := (dC, dI)) (ci := 11) (v := .ref h_t_cloud) (C := RX11) (T := TX11) (N := 11) hx hb hts in_X11 hown hK hP 0 rfl rfl 0 (Nat.le_of_ble_eq_true rfl) (hts _ qf_X11_12) (fun _ h9 => h9) rfl dX11_meeting_1 ?_
  refine lv_iload_n hx hb dX11_meeting_4 rfl (lv_at hl 1 rfl) ?_
  obtain ⟨r_1, hq_2, hf⟩ := b1_some hf
  refine xci (wr := [(h_t, .inr (11, [.ref h_t_cloud, .ref h_t_reader, .ref h_t_hull, .ref h_t_near, .ref h_t_firstTie, .ref h_t_reducer, .ref h_t_chooser, .ref h_t_pair, .ref h_t_divider, .ref h_t_depths, .ref h_t_spot])), (h_t_cloud_x, .inl (cI, 24, .inl t_cloud_x)), (h_t_cloud_y, .inl (cI, 24, .inl t_cloud_y)), (h_t_pair, .inr (3, [.ref h_t_pair_first, .ref h_t_pair_second, .ref h_t_pair_third, .ref h_t_pair_place, .long t_pair_gapSquare, .long t_pair_gapLower, .long t_pair_gapX, .long t_pair_gapY, .ref h_t_pair_near, .int t_pair_threefold, .long t_pair_leastX, .long t_pair_leastY, .long t_pair_leastLower])), (h_t_pair_first, .inr (2, [.ref h_t_pair_first_chain, .ref h_t_pair_first_x, .ref h_t_pair_first_y, .ref h_t_pair_first_sorted, .int t_pair_first_size])), (h_t_pair_first_chain, .inl (cI, 48, .inl t_pair_first_chain)), (h_t_pair_first_x, .inl (cI, 48, .inl t_pair_first_x)), (h_t_pair_first_y, .inl (cI, 48, .inl t_pair_first_y)), (h_t_pair_first_sorted, .inl (cI, 24, .inl t_pair_first_sorted)), (h_t_pair_second, .inr (2, [.ref h_t_pair_second_chain, .ref h_t_pair_second_x, .ref h_t_pair_second_y, .ref h_t_pair_second_sorted, .int t_pair_second_size])), (h_t_pair_second_chain, .inl (cI, 48, .inl t_pair_second_chain)), (h_t_pair_second_x, .inl (cI, 48, .inl t_pair_second_x)), (h_t_pair_second_y, .inl (cI, 48, .inl t_pair_second_y)), (h_t_pair_second_sorted, .inl (cI, 24, .inl t_pair_second_sorted)), (h_t_pair_third, .inr (2, [.ref h_t_pair_third_chain, .ref h_t_pair_third_x, .ref h_t_pair_third_y, .ref h_t_pair_third_sorted, .int t_pair_third_size])), (h_t_pair_third_x, .inl (cI, 48, .inl t_pair_third_x)), (h_t_pair_third_y, .inl (cI, 48, .inl t_pair_third_y)), (h_t_pair_place, .inr (6, [.long t_pair_place_x, .long t_pair_place_y, .long t_pair_place_lower]))]) (w2 := [(h_t, .inr (11, [.ref h_t_cloud, .ref h_t_reader, .ref h_t_hull, .ref h_t_near, .ref h_t_firstTie, .ref h_t_reducer, .ref h_t_chooser, .ref h_t_pair, .ref h_t_divider, .ref h_t_depths, .ref h_t_spot])), (h_t_cloud, .inr (0, [.ref h_t_cloud_x, .ref h_t_cloud_y, .ref h_t_cloud_colour, .ref h_t_cloud_load, .int t_cloud_size, .int t_cloud_centreX, .int t_cloud_centreY])), (h_t_cloud_x, .inl (cI, 24, .inl t_cloud_x)), (h_t_cloud_y, .inl (cI, 24, .inl t_cloud_y)), (h_t_pair, .inr (3, [.ref h_t_pair_first, .ref h_t_pair_second, .ref h_t_pair_third, .ref h_t_pair_place, .long t_pair_gapSquare, .long t_pair_gapLower, .long t_pair_gapX, .long t_pair_gapY, .ref h_t_pair_near, .int t_pair_threefold, .long t_pair_leastX, .long t_pair_leastY, .long t_pair_leastLower])), (h_t_pair_first, .inr (2, [.ref h_t_pair_first_chain, .ref h_t_pair_first_x, .ref h_t_pair_first_y, .ref h_t_pair_first_sorted, .int t_pair_first_size])), (h_t_pair_first_chain, .inl (cI, 48, .inl t_pair_first_chain)), (h_t_pair_first_x, .inl (cI, 48, .inl t_pair_first_x)), (h_t_pair_first_y, .inl (cI, 48, .inl t_pair_first_y)), (h_t_pair_first_sorted, .inl (cI, 24, .inl t_pair_first_sorted)), (h_t_pair_second, .inr (2, [.ref h_t_pair_second_chain, .ref h_t_pair_second_x, .ref h_t_pair_second_y, .ref h_t_pair_second_sorted, .int t_pair_second_size])), (h_t_pair_second_chain, .inl (cI, 48, .inl t_pair_second_chain)), (h_t_pair_second_x, .inl (cI, 48, .inl t_pair_second_x)), (h_t_pair_second_y, .inl (cI, 48, .inl t_pair_second_y)), (h_t_pair_second_sorted, .inl (cI, 24, .inl t_pair_second_sorted)), (h_t_pair_third, .inr (2, [.ref h_t_pair_third_chain, .ref h_t_pair_third_x, .ref h_t_pair_third_y, .ref h_t_pair_third_sorted, .int t_pair_third_size])), (h_t_pair_third_x, .inl (cI, 48, .inl t_pair_third_x)), (h_t_pair_third_y, .inl (cI, 48, .inl t_pair_third_y)), (h_t_pair_place, .inr (6, [.long t_pair_place_x, .long t_pair_place_y, .long t_pair_place_lower]))]) (va_runV (As := [.int a1]) (rest := []) ⟨hx, hb, hml, hown, hts⟩ (mtX0_hasSet l dC dI cI cL cB K h_t_cloud h_t_cloud_x h_t_cloud_y h_t_cloud_colour h_t_cloud_load H.size t_cloud_size t_cloud_centreX t_cloud_centreY a1 r_1 hq_2) (cwV 1 hts gv_X11_152 rfl rfl rfl hdV_X0_hasSet ⟨Nat.le_trans (Nat.le_of_ble_eq_true rfl) hF, Nat.le_trans (Nat.le_of_ble_eq_true rfl) hLo⟩) (cPreV hK hP hD hT [1] rfl rfl (ci := 0) (q0 := 0) rfl rfl) rfl rfl hl.1 rfl (lv_room (Nat.le_of_ble_eq_true rfl)) dX11_meeting_5 ⟨Nat.zero_le _, Nat.zero_le _⟩) hP hD hS hA [1] [0, 2, 3, 4, 5, 6, 7, 8, 9, 10, 11, 12, 13, 14, 15, 16, 17, 18] [0, 18, 1, 2, 3, 4, 5, 6, 7, 8, 9, 10, 11, 12, 13, 14, 15, 16, 17] rfl rfl rfl rfl rfl rfl (fun H locs hP hD hS => ?_)
  refine lv_if_eq (tgt := 22) hx hb dX11_meeting_8 (by decide) (fun hc => ?_) (fun hc => ?_)
  · replace hf := it_t (hc) hf
    refine lv_ldc2 (v := (-9223372036854775808 : Int64)) hx hb hown (hts _ qj_X11_131) dX11_meeting_22 ?_
    obtain ⟨rfl, rfl, rfl, rfl, rfl, rfl, rfl, rfl, rfl, rfl, rfl, rfl, rfl, rfl, rfl, rfl, rfl, rfl⟩ := o18 hf
    exact W.lret hx hb hr (fun t ht hW => ⟨⟨_, (), rfl, rfl, by rw [ht]; exact hP, hD⟩, hS.F ht⟩) hS.2.2 dX11_meeting_25
  · replace hf := it_f (hc) hf
    refine lv_aload_n hx hb dX11_meeting_11 rfl (lv_at hl 0 rfl) ?_
    refine va_get (D := (dC, dI)) (ci := 11) (v := .ref h_t_cloud) (C := RX11) (T := TX11) (N := 11) hx hb hts in_X11 hown hK hP 0 rfl rfl 0 (Nat.le_of_ble_eq_true rfl) (hts _ qf_X11_12) (fun _ h9 => h9) rfl dX11_meeting_12 ?_
    refine lv_iload_n hx hb dX11_meeting_15 rfl (lv_at hl 2 rfl) ?_
    obtain ⟨r_3, hq_4, hf⟩ := b1_some hf
    refine xci (wr := [(h_t, .inr (11, [.ref h_t_cloud, .ref h_t_reader, .ref h_t_hull, .ref h_t_near, .ref h_t_firstTie, .ref h_t_reducer, .ref h_t_chooser, .ref h_t_pair, .ref h_t_divider, .ref h_t_depths, .ref h_t_spot])), (h_t_cloud_x, .inl (cI, 24, .inl t_cloud_x)), (h_t_cloud_y, .inl (cI, 24, .inl t_cloud_y)), (h_t_pair, .inr (3, [.ref h_t_pair_first, .ref h_t_pair_second, .ref h_t_pair_third, .ref h_t_pair_place, .long t_pair_gapSquare, .long t_pair_gapLower, .long t_pair_gapX, .long t_pair_gapY, .ref h_t_pair_near, .int t_pair_threefold, .long t_pair_leastX, .long t_pair_leastY, .long t_pair_leastLower])), (h_t_pair_first, .inr (2, [.ref h_t_pair_first_chain, .ref h_t_pair_first_x, .ref h_t_pair_first_y, .ref h_t_pair_first_sorted, .int t_pair_first_size])), (h_t_pair_first_chain, .inl (cI, 48, .inl t_pair_first_chain)), (h_t_pair_first_x, .inl (cI, 48, .inl t_pair_first_x)), (h_t_pair_first_y, .inl (cI, 48, .inl t_pair_first_y)), (h_t_pair_first_sorted, .inl (cI, 24, .inl t_pair_first_sorted)), (h_t_pair_second, .inr (2, [.ref h_t_pair_second_chain, .ref h_t_pair_second_x, .ref h_t_pair_second_y, .ref h_t_pair_second_sorted, .int t_pair_second_size])), (h_t_pair_second_chain, .inl (cI, 48, .inl t_pair_second_chain)), (h_t_pair_second_x, .inl (cI, 48, .inl t_pair_second_x)), (h_t_pair_second_y, .inl (cI, 48, .inl t_pair_second_y)), (h_t_pair_second_sorted, .inl (cI, 24, .inl t_pair_second_sorted)), (h_t_pair_third, .inr (2, [.ref h_t_pair_third_chain, .ref h_t_pair_third_x, .ref h_t_pair_third_y, .ref h_t_pair_third_sorted, .int t_pair_third_size])), (h_t_pair_third_x, .inl (cI, 48, .inl t_pair_third_x)), (h_t_pair_third_y, .inl (cI, 48, .inl t_pair_third_y)), (h_t_pair_place, .inr (6, [.long t_pair_place_x, .long t_pair_place_y, .long t_pair_place_lower]))]) (w2 := [(h_t, .inr (11, [.ref h_t_cloud, .ref h_t_reader, .ref h_t_hull, .ref h_t_near, .ref h_t_firstTie, .ref h_t_reducer, .ref h_t_chooser, .ref h_t_pair, .ref h_t_divider, .ref h_t_depths, .ref h_t_spot])), (h_t_cloud, .inr (0, [.ref h_t_cloud_x, .ref h_t_cloud_y, .ref h_t_cloud_colour, .ref h_t_cloud_load, .int t_cloud_size, .int t_cloud_centreX, .int t_cloud_centreY])), (h_t_cloud_x, .inl (cI, 24, .inl t_cloud_x)), (h_t_cloud_y, .inl (cI, 24, .inl t_cloud_y)), (h_t_pair, .inr (3, [.ref h_t_pair_first, .ref h_t_pair_second, .ref h_t_pair_third, .ref h_t_pair_place, .long t_pair_gapSquare, .long t_pair_gapLower, .long t_pair_gapX, .long t_pair_gapY, .ref h_t_pair_near, .int t_pair_threefold, .long t_pair_leastX, .long t_pair_leastY, .long t_pair_leastLower])), (h_t_pair_first, .inr (2, [.ref h_t_pair_first_chain, .ref h_t_pair_first_x, .ref h_t_pair_first_y, .ref h_t_pair_first_sorted, .int t_pair_first_size])), (h_t_pair_first_chain, .inl (cI, 48, .inl t_pair_first_chain)), (h_t_pair_first_x, .inl (cI, 48, .inl t_pair_first_x)), (h_t_pair_first_y, .inl (cI, 48, .inl t_pair_first_y)), (h_t_pair_first_sorted, .inl (cI, 24, .inl t_pair_first_sorted)), (h_t_pair_second, .inr (2, [.ref h_t_pair_second_chain, .ref h_t_pair_second_x, .ref h_t_pair_second_y, .ref h_t_pair_second_sorted, .int t_pair_second_size])), (h_t_pair_second_chain, .inl (cI, 48, .inl t_pair_second_chain)), (h_t_pair_second_x, .inl (cI, 48, .inl t_pair_second_x)), (h_t_pair_second_y, .inl (cI, 48, .inl t_pair_second_y)), (h_t_pair_second_sorted, .inl (cI, 24, .inl t_pair_second_sorted)), (h_t_pair_third, .inr (2, [.ref h_t_pair_third_chain, .ref h_t_pair_third_x, .ref h_t_pair_third_y, .ref h_t_pair_third_sorted, .int t_pair_third_size])), (h_t_pair_third_x, .inl (cI, 48, .inl t_pair_third_x)), (h_t_pair_third_y, .inl (cI, 48, .inl t_pair_third_y)), (h_t_pair_place, .inr (6, [.long t_pair_place_x, .long t_pair_place_y, .long t_pair_place_lower]))]) (va_runV (As := [.int a2]) (rest := []) ⟨hx, hb, hml, hown, hts⟩ (mtX0_hasSet l dC dI cI cL cB K h_t_cloud h_t_cloud_x h_t_cloud_y h_t_cloud_colour h_t_cloud_load H.size t_cloud_size t_cloud_centreX t_cloud_centreY a2 r_3 hq_4) (cwV 1 hts gv_X11_152 rfl rfl rfl hdV_X0_hasSet ⟨Nat.le_trans (Nat.le_of_ble_eq_true rfl) hF, Nat.le_trans (Nat.le_of_ble_eq_true rfl) hLo⟩) (cPreV hK hP hD hT [1] rfl rfl (ci := 0) (q0 := 0) rfl rfl) rfl rfl hl.1 rfl (lv_room (Nat.le_of_ble_eq_true rfl)) dX11_meeting_16 ⟨Nat.zero_le _, Nat.zero_le _⟩) hP hD hS hA [1] [0, 2, 3, 4, 5, 6, 7, 8, 9, 10, 11, 12, 13, 14, 15, 16, 17, 18] [0, 18, 1, 2, 3, 4, 5, 6, 7, 8, 9, 10, 11, 12, 13, 14, 15, 16, 17] rfl rfl rfl rfl rfl rfl (fun H locs hP hD hS => ?_)
    refine lv_if_ne (tgt := 26) hx hb dX11_meeting_19 (by decide) (fun hc => ?_) (fun hc => ?_)
    · replace hf := it_f (hc) hf
      refine lv_aload_n hx hb dX11_meeting_26 rfl (lv_at hl 0 rfl) ?_
      refine va_get (D := (dC, dI)) (ci := 11) (v := .ref h_t_pair) (C := RX11) (T := TX11) (N := 11) hx hb hts in_X11 hown hK hP 0 rfl rfl 7 (Nat.le_of_ble_eq_true rfl) (hts _ qf_X11_63) (fun _ h9 => h9) rfl dX11_meeting_27 ?_
      refine lv_aload_n hx hb dX11_meeting_30 rfl (lv_at hl 0 rfl) ?_
      refine va_get (D := (dC, dI)) (ci := 11) (v := .ref h_t_cloud) (C := RX11) (T := TX11) (N := 11) hx hb hts in_X11 hown hK hP 0 rfl rfl 0 (Nat.le_of_ble_eq_true rfl) (hts _ qf_X11_12) (fun _ h9 => h9) rfl dX11_meeting_31 ?_
      refine lv_iload_n hx hb dX11_meeting_34 rfl (lv_at hl 1 rfl) ?_
      refine lv_iload_n hx hb dX11_meeting_35 rfl (lv_at hl 2 rfl) ?_
      obtain ⟨t_pair_threefold_5, t_pair_first_size_6, t_pair_first_chain_7, t_pair_first_x_8, t_pair_first_y_9, t_pair_first_sorted_10, t_pair_second_size_11, t_pair_second_chain_12, t_pair_second_x_13, t_pair_second_y_14, t_pair_second_sorted_15, hq_16, hf⟩ := b11_some hf
      refine xcv (wr := [(h_t, .inr (11, [.ref h_t_cloud, .ref h_t_reader, .ref h_t_hull, .ref h_t_near, .ref h_t_firstTie, .ref h_t_reducer, .ref h_t_chooser, .ref h_t_pair, .ref h_t_divider, .ref h_t_depths, .ref h_t_spot])), (h_t_pair_third, .inr (2, [.ref h_t_pair_third_chain, .ref h_t_pair_third_x, .ref h_t_pair_third_y, .ref h_t_pair_third_sorted, .int t_pair_third_size])), (h_t_pair_third_x, .inl (cI, 48, .inl t_pair_third_x)), (h_t_pair_third_y, .inl (cI, 48, .inl t_pair_third_y)), (h_t_pair_place, .inr (6, [.long t_pair_place_x, .long t_pair_place_y, .long t_pair_place_lower]))]) (w2 := [(h_t, .inr (11, [.ref h_t_cloud, .ref h_t_reader, .ref h_t_hull, .ref h_t_near, .ref h_t_firstTie, .ref h_t_reducer, .ref h_t_chooser, .ref h_t_pair, .ref h_t_divider, .ref h_t_depths, .ref h_t_spot])), (h_t_cloud, .inr (0, [.ref h_t_cloud_x, .ref h_t_cloud_y, .ref h_t_cloud_colour, .ref h_t_cloud_load, .int t_cloud_size, .int t_cloud_centreX, .int t_cloud_centreY])), (h_t_cloud_x, .inl (cI, 24, .inl t_cloud_x)), (h_t_cloud_y, .inl (cI, 24, .inl t_cloud_y)), (h_t_pair, .inr (3, [.ref h_t_pair_first, .ref h_t_pair_second, .ref h_t_pair_third, .ref h_t_pair_place, .long t_pair_gapSquare, .long t_pair_gapLower, .long t_pair_gapX, .long t_pair_gapY, .ref h_t_pair_near, .int t_pair_threefold_5, .long t_pair_leastX, .long t_pair_leastY, .long t_pair_leastLower])), (h_t_pair_first, .inr (2, [.ref h_t_pair_first_chain, .ref h_t_pair_first_x, .ref h_t_pair_first_y, .ref h_t_pair_first_sorted, .int t_pair_first_size_6])), (h_t_pair_first_chain, .inl (cI, 48, .inl t_pair_first_chain_7)), (h_t_pair_first_x, .inl (cI, 48, .inl t_pair_first_x_8)), (h_t_pair_first_y, .inl (cI, 48, .inl t_pair_first_y_9)), (h_t_pair_first_sorted, .inl (cI, 24, .inl t_pair_first_sorted_10)), (h_t_pair_second, .inr (2, [.ref h_t_pair_second_chain, .ref h_t_pair_second_x, .ref h_t_pair_second_y, .ref h_t_pair_second_sorted, .int t_pair_second_size_11])), (h_t_pair_second_chain, .inl (cI, 48, .inl t_pair_second_chain_12)), (h_t_pair_second_x, .inl (cI, 48, .inl t_pair_second_x_13)), (h_t_pair_second_y, .inl (cI, 48, .inl t_pair_second_y_14)), (h_t_pair_second_sorted, .inl (cI, 24, .inl t_pair_second_sorted_15)), (h_t_pair_third, .inr (2, [.ref h_t_pair_third_chain, .ref h_t_pair_third_x, .ref h_t_pair_third_y, .ref h_t_pair_third_sorted, .int t_pair_third_size])), (h_t_pair_third_x, .inl (cI, 48, .inl t_pair_third_x)), (h_t_pair_third_y, .inl (cI, 48, .inl t_pair_third_y)), (h_t_pair_place, .inr (6, [.long t_pair_place_x, .long t_pair_place_y, .long t_pair_place_lower]))]) (va_runV (As := [.ref h_t_cloud, .int a1, .int a2]) (rest := []) ⟨hx, hb, hml, hown, hts⟩ (mtX3_take l dC dI cI cL cB K h_t_pair h_t_pair_first h_t_pair_second h_t_pair_third h_t_pair_place h_t_pair_near h_t_pair_first_chain h_t_pair_first_x h_t_pair_first_y h_t_pair_first_sorted h_t_pair_second_chain h_t_pair_second_x h_t_pair_second_y h_t_pair_second_sorted h_t_cloud h_t_cloud_x h_t_cloud_y h_t_cloud_colour h_t_cloud_load H.size t_pair_gapSquare t_pair_gapLower t_pair_gapX t_pair_gapY t_pair_threefold t_pair_leastX t_pair_leastY t_pair_leastLower t_pair_first_size t_pair_first_chain t_pair_first_x t_pair_first_y t_pair_first_sorted t_pair_second_size t_pair_second_chain t_pair_second_x t_pair_second_y t_pair_second_sorted t_cloud_size t_cloud_centreX t_cloud_centreY t_cloud_x t_cloud_y a1 a2 t_pair_threefold_5 t_pair_first_size_6 t_pair_first_chain_7 t_pair_first_x_8 t_pair_first_y_9 t_pair_first_sorted_10 t_pair_second_size_11 t_pair_second_chain_12 t_pair_second_x_13 t_pair_second_y_14 t_pair_second_sorted_15 hq_16) (cwV 3 hts gv_X11_301 rfl rfl rfl hdV_X3_take ⟨Nat.le_trans (Nat.le_of_ble_eq_true rfl) hF, Nat.le_trans (Nat.le_of_ble_eq_true rfl) hLo⟩) (cPreV hK hP hD hT [4, 5, 6, 7, 8, 9, 10, 11, 12, 13, 14, 1, 2, 3] rfl rfl (ci := 3) (q0 := 0) rfl rfl) rfl rfl hl.1 rfl (lv_room (Nat.le_of_ble_eq_true rfl)) dX11_meeting_36 ⟨Nat.zero_le _, Nat.zero_le _⟩) hP hD hS hA [4, 5, 6, 7, 8, 9, 10, 11, 12, 13, 14, 1, 2, 3] [0, 15, 16, 17, 18] [0, 16, 17, 18, 5, 6, 7, 8, 9, 10, 11, 12, 13, 14, 15, 1, 2, 3, 4] rfl rfl rfl rfl rfl rfl (fun H locs hP hD hS => ?_)
      refine lv_aload_n hx hb dX11_meeting_39 rfl (lv_at hl 0 rfl) ?_
      refine va_get (D := (dC, dI)) (ci := 11) (v := .ref h_t_pair) (C := RX11) (T := TX11) (N := 11) hx hb hts in_X11 hown hK hP 0 rfl rfl 7 (Nat.le_of_ble_eq_true rfl) (hts _ qf_X11_63) (fun _ h9 => h9) rfl dX11_meeting_40 ?_
      obtain ⟨r_17, t_pair_leastX_18, t_pair_leastY_19, t_pair_leastLower_20, t_pair_place_x_21, t_pair_place_y_22, t_pair_place_lower_23, hq_24, hf⟩ := b7_some hf
      refine xci (wr := [(h_t, .inr (11, [.ref h_t_cloud, .ref h_t_reader, .ref h_t_hull, .ref h_t_near, .ref h_t_firstTie, .ref h_t_reducer, .ref h_t_chooser, .ref h_t_pair, .ref h_t_divider, .ref h_t_depths, .ref h_t_spot])), (h_t_cloud, .inr (0, [.ref h_t_cloud_x, .ref h_t_cloud_y, .ref h_t_cloud_colour, .ref h_t_cloud_load, .int t_cloud_size, .int t_cloud_centreX, .int t_cloud_centreY])), (h_t_cloud_x, .inl (cI, 24, .inl t_cloud_x)), (h_t_cloud_y, .inl (cI, 24, .inl t_cloud_y)), (h_t_pair_first_chain, .inl (cI, 48, .inl t_pair_first_chain_7)), (h_t_pair_first_sorted, .inl (cI, 24, .inl t_pair_first_sorted_10)), (h_t_pair_second_chain, .inl (cI, 48, .inl t_pair_second_chain_12)), (h_t_pair_second_sorted, .inl (cI, 24, .inl t_pair_second_sorted_15))]) (w2 := [(h_t, .inr (11, [.ref h_t_cloud, .ref h_t_reader, .ref h_t_hull, .ref h_t_near, .ref h_t_firstTie, .ref h_t_reducer, .ref h_t_chooser, .ref h_t_pair, .ref h_t_divider, .ref h_t_depths, .ref h_t_spot])), (h_t_cloud, .inr (0, [.ref h_t_cloud_x, .ref h_t_cloud_y, .ref h_t_cloud_colour, .ref h_t_cloud_load, .int t_cloud_size, .int t_cloud_centreX, .int t_cloud_centreY])), (h_t_cloud_x, .inl (cI, 24, .inl t_cloud_x)), (h_t_cloud_y, .inl (cI, 24, .inl t_cloud_y)), (h_t_pair, .inr (3, [.ref h_t_pair_first, .ref h_t_pair_second, .ref h_t_pair_third, .ref h_t_pair_place, .long t_pair_gapSquare, .long t_pair_gapLower, .long t_pair_gapX, .long t_pair_gapY, .ref h_t_pair_near, .int t_pair_threefold_5, .long t_pair_leastX_18, .long t_pair_leastY_19, .long t_pair_leastLower_20])), (h_t_pair_first, .inr (2, [.ref h_t_pair_first_chain, .ref h_t_pair_first_x, .ref h_t_pair_first_y, .ref h_t_pair_first_sorted, .int t_pair_first_size_6])), (h_t_pair_first_chain, .inl (cI, 48, .inl t_pair_first_chain_7)), (h_t_pair_first_x, .inl (cI, 48, .inl t_pair_first_x_8)), (h_t_pair_first_y, .inl (cI, 48, .inl t_pair_first_y_9)), (h_t_pair_first_sorted, .inl (cI, 24, .inl t_pair_first_sorted_10)), (h_t_pair_second, .inr (2, [.ref h_t_pair_second_chain, .ref h_t_pair_second_x, .ref h_t_pair_second_y, .ref h_t_pair_second_sorted, .int t_pair_second_size_11])), (h_t_pair_second_chain, .inl (cI, 48, .inl t_pair_second_chain_12)), (h_t_pair_second_x, .inl (cI, 48, .inl t_pair_second_x_13)), (h_t_pair_second_y, .inl (cI, 48, .inl t_pair_second_y_14)), (h_t_pair_second_sorted, .inl (cI, 24, .inl t_pair_second_sorted_15)), (h_t_pair_third, .inr (2, [.ref h_t_pair_third_chain, .ref h_t_pair_third_x, .ref h_t_pair_third_y, .ref h_t_pair_third_sorted, .int t_pair_third_size])), (h_t_pair_third_x, .inl (cI, 48, .inl t_pair_third_x)), (h_t_pair_third_y, .inl (cI, 48, .inl t_pair_third_y)), (h_t_pair_place, .inr (6, [.long t_pair_place_x_21, .long t_pair_place_y_22, .long t_pair_place_lower_23]))]) (va_runV (As := []) (rest := []) ⟨hx, hb, hml, hown, hts⟩ (mtX3_find l dC dI cI cL cB K h_t_pair h_t_pair_first h_t_pair_second h_t_pair_third h_t_pair_place h_t_pair_near h_t_pair_first_chain h_t_pair_first_x h_t_pair_first_y h_t_pair_first_sorted h_t_pair_second_chain h_t_pair_second_x h_t_pair_second_y h_t_pair_second_sorted h_t_pair_third_chain h_t_pair_third_x h_t_pair_third_y h_t_pair_third_sorted H.size t_pair_gapSquare t_pair_gapLower t_pair_gapX t_pair_gapY t_pair_threefold_5 t_pair_leastX t_pair_leastY t_pair_leastLower t_pair_first_size_6 t_pair_first_x_8 t_pair_first_y_9 t_pair_second_size_11 t_pair_second_x_13 t_pair_second_y_14 t_pair_third_size t_pair_third_x t_pair_third_y t_pair_place_x t_pair_place_y t_pair_place_lower r_17 t_pair_leastX_18 t_pair_leastY_19 t_pair_leastLower_20 t_pair_place_x_21 t_pair_place_y_22 t_pair_place_lower_23 hq_24) (cwV 0 hts gv_X11_305 rfl rfl rfl hdV_X3_find ⟨Nat.le_trans (Nat.le_of_ble_eq_true rfl) hF, Nat.le_trans (Nat.le_of_ble_eq_true rfl) hLo⟩) (cPreV hK hP hD hT [4, 5, 7, 8, 10, 12, 13, 15, 16, 17, 18] rfl rfl (ci := 3) (q0 := 0) rfl rfl) rfl rfl hl.1 rfl (lv_room (Nat.le_of_ble_eq_true rfl)) dX11_meeting_43 ⟨Nat.zero_le _, Nat.zero_le _⟩) hP hD hS hA [4, 5, 7, 8, 10, 12, 13, 15, 16, 17, 18] [0, 1, 2, 3, 6, 9, 11, 14] [0, 1, 2, 3, 8, 9, 4, 10, 11, 5, 12, 6, 13, 14, 7, 15, 16, 17, 18] rfl rfl rfl rfl rfl rfl (fun H locs hP hD hS => ?_)
      refine lv_if_eq (tgt := 64) hx hb dX11_meeting_46 (by decide) (fun hc => ?_) (fun hc => ?_)
      · replace hf := it_t (hc) hf
        refine lv_ldc2 (v := (-9223372036854775808 : Int64)) hx hb hown (hts _ qj_X11_131) dX11_meeting_64 ?_
        obtain ⟨rfl, rfl, rfl, rfl, rfl, rfl, rfl, rfl, rfl, rfl, rfl, rfl, rfl, rfl, rfl, rfl, rfl, rfl⟩ := o18 hf
        exact W.lret hx hb hr (fun t ht hW => ⟨⟨_, (), rfl, rfl, by rw [ht]; exact hP, hD⟩, hS.F ht⟩) hS.2.2 dX11_meeting_67
      · replace hf := it_f (hc) hf
        refine lv_aload_n hx hb dX11_meeting_49 rfl (lv_at hl 0 rfl) ?_
        refine va_get (D := (dC, dI)) (ci := 11) (v := .ref h_t_pair) (C := RX11) (T := TX11) (N := 11) hx hb hts in_X11 hown hK hP 0 rfl rfl 7 (Nat.le_of_ble_eq_true rfl) (hts _ qf_X11_63) (fun _ h9 => h9) rfl dX11_meeting_50 ?_
        refine va_get (D := (dC, dI)) (ci := 3) (v := .ref h_t_pair_place) (C := RX3) (T := TX3) (N := 13) hx hb hts in_X3 hown hK hP 4 rfl rfl 3 (Nat.le_of_ble_eq_true rfl) (hts _ qf_X11_307) (fun _ h9 => h9) rfl dX11_meeting_53 ?_
        refine lv_iload_n hx hb dX11_meeting_56 rfl (lv_at hl 3 rfl) ?_
        refine lv_i2l hx hb dX11_meeting_57 rfl ?_
        obtain ⟨r_25, hq_26, hf⟩ := b1_some hf
        refine xcl (wr := [(h_t, .inr (11, [.ref h_t_cloud, .ref h_t_reader, .ref h_t_hull, .ref h_t_near, .ref h_t_firstTie, .ref h_t_reducer, .ref h_t_chooser, .ref h_t_pair, .ref h_t_divider, .ref h_t_depths, .ref h_t_spot])), (h_t_cloud, .inr (0, [.ref h_t_cloud_x, .ref h_t_cloud_y, .ref h_t_cloud_colour, .ref h_t_cloud_load, .int t_cloud_size, .int t_cloud_centreX, .int t_cloud_centreY])), (h_t_cloud_x, .inl (cI, 24, .inl t_cloud_x)), (h_t_cloud_y, .inl (cI, 24, .inl t_cloud_y)), (h_t_pair, .inr (3, [.ref h_t_pair_first, .ref h_t_pair_second, .ref h_t_pair_third, .ref h_t_pair_place, .long t_pair_gapSquare, .long t_pair_gapLower, .long t_pair_gapX, .long t_pair_gapY, .ref h_t_pair_near, .int t_pair_threefold_5, .long t_pair_leastX_18, .long t_pair_leastY_19, .long t_pair_leastLower_20])), (h_t_pair_first, .inr (2, [.ref h_t_pair_first_chain, .ref h_t_pair_first_x, .ref h_t_pair_first_y, .ref h_t_pair_first_sorted, .int t_pair_first_size_6])), (h_t_pair_first_chain, .inl (cI, 48, .inl t_pair_first_chain_7)), (h_t_pair_first_x, .inl (cI, 48, .inl t_pair_first_x_8)), (h_t_pair_first_y, .inl (cI, 48, .inl t_pair_first_y_9)), (h_t_pair_first_sorted, .inl (cI, 24, .inl t_pair_first_sorted_10)), (h_t_pair_second, .inr (2, [.ref h_t_pair_second_chain, .ref h_t_pair_second_x, .ref h_t_pair_second_y, .ref h_t_pair_second_sorted, .int t_pair_second_size_11])), (h_t_pair_second_chain, .inl (cI, 48, .inl t_pair_second_chain_12)), (h_t_pair_second_x, .inl (cI, 48, .inl t_pair_second_x_13)), (h_t_pair_second_y, .inl (cI, 48, .inl t_pair_second_y_14)), (h_t_pair_second_sorted, .inl (cI, 24, .inl t_pair_second_sorted_15)), (h_t_pair_third, .inr (2, [.ref h_t_pair_third_chain, .ref h_t_pair_third_x, .ref h_t_pair_third_y, .ref h_t_pair_third_sorted, .int t_pair_third_size])), (h_t_pair_third_x, .inl (cI, 48, .inl t_pair_third_x)), (h_t_pair_third_y, .inl (cI, 48, .inl t_pair_third_y))]) (w2 := [(h_t, .inr (11, [.ref h_t_cloud, .ref h_t_reader, .ref h_t_hull, .ref h_t_near, .ref h_t_firstTie, .ref h_t_reducer, .ref h_t_chooser, .ref h_t_pair, .ref h_t_divider, .ref h_t_depths, .ref h_t_spot])), (h_t_cloud, .inr (0, [.ref h_t_cloud_x, .ref h_t_cloud_y, .ref h_t_cloud_colour, .ref h_t_cloud_load, .int t_cloud_size, .int t_cloud_centreX, .int t_cloud_centreY])), (h_t_cloud_x, .inl (cI, 24, .inl t_cloud_x)), (h_t_cloud_y, .inl (cI, 24, .inl t_cloud_y)), (h_t_pair, .inr (3, [.ref h_t_pair_first, .ref h_t_pair_second, .ref h_t_pair_third, .ref h_t_pair_place, .long t_pair_gapSquare, .long t_pair_gapLower, .long t_pair_gapX, .long t_pair_gapY, .ref h_t_pair_near, .int t_pair_threefold_5, .long t_pair_leastX_18, .long t_pair_leastY_19, .long t_pair_leastLower_20])), (h_t_pair_first, .inr (2, [.ref h_t_pair_first_chain, .ref h_t_pair_first_x, .ref h_t_pair_first_y, .ref h_t_pair_first_sorted, .int t_pair_first_size_6])), (h_t_pair_first_chain, .inl (cI, 48, .inl t_pair_first_chain_7)), (h_t_pair_first_x, .inl (cI, 48, .inl t_pair_first_x_8)), (h_t_pair_first_y, .inl (cI, 48, .inl t_pair_first_y_9)), (h_t_pair_first_sorted, .inl (cI, 24, .inl t_pair_first_sorted_10)), (h_t_pair_second, .inr (2, [.ref h_t_pair_second_chain, .ref h_t_pair_second_x, .ref h_t_pair_second_y, .ref h_t_pair_second_sorted, .int t_pair_second_size_11])), (h_t_pair_second_chain, .inl (cI, 48, .inl t_pair_second_chain_12)), (h_t_pair_second_x, .inl (cI, 48, .inl t_pair_second_x_13)), (h_t_pair_second_y, .inl (cI, 48, .inl t_pair_second_y_14)), (h_t_pair_second_sorted, .inl (cI, 24, .inl t_pair_second_sorted_15)), (h_t_pair_third, .inr (2, [.ref h_t_pair_third_chain, .ref h_t_pair_third_x, .ref h_t_pair_third_y, .ref h_t_pair_third_sorted, .int t_pair_third_size])), (h_t_pair_third_x, .inl (cI, 48, .inl t_pair_third_x)), (h_t_pair_third_y, .inl (cI, 48, .inl t_pair_third_y)), (h_t_pair_place, .inr (6, [.long t_pair_place_x_21, .long t_pair_place_y_22, .long t_pair_place_lower_23]))]) (va_runS (As := [.ref h_t_pair_place, .long (a3.toInt64)]) (rest := []) ⟨hx, hb, hml, hown, hts⟩ (mtX11_coordinate l dC dI cI cL cB K h_t_pair_place H.size t_pair_place_x_21 t_pair_place_y_22 t_pair_place_lower_23 (a3.toInt64) r_25 hq_26) (va_cwS 2 hts gs_X11_232 rfl rfl rfl hdS_X11_coordinate ⟨Nat.le_trans (Nat.le_of_ble_eq_true rfl) hF, Nat.le_trans (Nat.le_of_ble_eq_true rfl) hLo⟩) (cPreS hK hP hD hT [18] rfl rfl) rfl rfl hl.1 rfl (lv_room (Nat.le_of_ble_eq_true rfl)) dX11_meeting_58 ⟨Nat.zero_le _, Nat.zero_le _⟩) hP hD hS hA [18] [0, 1, 2, 3, 4, 5, 6, 7, 8, 9, 10, 11, 12, 13, 14, 15, 16, 17] [0, 1, 2, 3, 4, 5, 6, 7, 8, 9, 10, 11, 12, 13, 14, 15, 16, 17, 18] rfl rfl rfl rfl rfl rfl (fun H locs hP hD hS => ?_)
        refine lv_goto (tgt := 67) hx hb dX11_meeting_61 (by decide) ?_
        obtain ⟨rfl, rfl, rfl, rfl, rfl, rfl, rfl, rfl, rfl, rfl, rfl, rfl, rfl, rfl, rfl, rfl, rfl, rfl⟩ := o18 hf
        exact W.lret hx hb hr (fun t ht hW => ⟨⟨_, (), rfl, rfl, by rw [ht]; exact hP, hD⟩, hS.F ht⟩) hS.2.2 dX11_meeting_67
    · replace hf := it_t (hc) hf
      refine lv_ldc2 (v := (-9223372036854775808 : Int64)) hx hb hown (hts _ qj_X11_131) dX11_meeting_22 ?_
      obtain ⟨rfl, rfl, rfl, rfl, rfl, rfl, rfl, rfl, rfl, rfl, rfl, rfl, rfl, rfl, rfl, rfl, rfl, rfl⟩ := o18 hf
      exact W.lret hx hb hr (fun t ht hW => ⟨⟨_, (), rfl, rfl, by rw [ht]; exact hP, hD⟩, hS.F ht⟩) hS.2.2 dX11_meeting_25
theorem dX3_offerGap_0 : decode cX3_offerGap 0 = .ok (.aload_n 0, 1) := by decide +kernel
theorem dX3_offerGap_1 : decode cX3_offerGap 1 = .ok (.getfield 87, 3) := by decide +kernel
theorem dX3_offerGap_4 : decode cX3_offerGap 4 = .ok (.lconst 0, 1) := by decide +kernel
theorem dX3_offerGap_5 : decode cX3_offerGap 5 = .ok (.lcmp, 1) := by decide +kernel
theorem dX3_offerGap_6 : decode cX3_offerGap 6 = .ok (.ifCond .eq 31, 3) := by decide +kernel
theorem dX3_offerGap_9 : decode cX3_offerGap 9 = .ok (.aload_n 0, 1) := by decide +kernel
theorem dX3_offerGap_10 : decode cX3_offerGap 10 = .ok (.getfield 32, 3) := by decide +kernel
theorem dX3_offerGap_13 : decode cX3_offerGap 13 = .ok (.getfield 110, 3) := by decide +kernel
theorem dX3_offerGap_16 : decode cX3_offerGap 16 = .ok (.aload_n 0, 1) := by decide +kernel
theorem dX3_offerGap_17 : decode cX3_offerGap 17 = .ok (.getfield 87, 3) := by decide +kernel
theorem dX3_offerGap_20 : decode cX3_offerGap 20 = .ok (.lmul, 1) := by decide +kernel
theorem dX3_offerGap_21 : decode cX3_offerGap 21 = .ok (.aload_n 0, 1) := by decide +kernel
theorem dX3_offerGap_22 : decode cX3_offerGap 22 = .ok (.getfield 84, 3) := by decide +kernel
theorem dX3_offerGap_25 : decode cX3_offerGap 25 = .ok (.aload_n 0, 1) := by decide +kernel
theorem dX3_offerGap_26 : decode cX3_offerGap 26 = .ok (.getfield 32, 3) := by decide +kernel
theorem dX3_offerGap_29 : decode cX3_offerGap 29 = .ok (.getfield 113, 3) := by decide +kernel
theorem dX3_offerGap_32 : decode cX3_offerGap 32 = .ok (.lmul, 1) := by decide +kernel
theorem dX3_offerGap_33 : decode cX3_offerGap 33 = .ok (.lcmp, 1) := by decide +kernel
theorem dX3_offerGap_34 : decode cX3_offerGap 34 = .ok (.ifCond .ge 53, 3) := by decide +kernel
theorem dX3_offerGap_37 : decode cX3_offerGap 37 = .ok (.aload_n 0, 1) := by decide +kernel
theorem dX3_offerGap_38 : decode cX3_offerGap 38 = .ok (.aload_n 0, 1) := by decide +kernel
theorem dX3_offerGap_39 : decode cX3_offerGap 39 = .ok (.getfield 32, 3) := by decide +kernel
theorem dX3_offerGap_42 : decode cX3_offerGap 42 = .ok (.getfield 110, 3) := by decide +kernel
theorem dX3_offerGap_45 : decode cX3_offerGap 45 = .ok (.putfield 84, 3) := by decide +kernel
theorem dX3_offerGap_48 : decode cX3_offerGap 48 = .ok (.aload_n 0, 1) := by decide +kernel
theorem dX3_offerGap_49 : decode cX3_offerGap 49 = .ok (.aload_n 0, 1) := by decide +kernel
theorem dX3_offerGap_50 : decode cX3_offerGap 50 = .ok (.getfield 32, 3) := by decide +kernel
theorem dX3_offerGap_53 : decode cX3_offerGap 53 = .ok (.getfield 113, 3) := by decide +kernel
theorem dX3_offerGap_56 : decode cX3_offerGap 56 = .ok (.putfield 87, 3) := by decide +kernel
theorem dX3_offerGap_59 : decode cX3_offerGap 59 = .ok (.aload_n 0, 1) := by decide +kernel
theorem dX3_offerGap_60 : decode cX3_offerGap 60 = .ok (.iload_n 1, 1) := by decide +kernel
theorem dX3_offerGap_61 : decode cX3_offerGap 61 = .ok (.i2l, 1) := by decide +kernel
theorem dX3_offerGap_62 : decode cX3_offerGap 62 = .ok (.aload_n 0, 1) := by decide +kernel
theorem dX3_offerGap_63 : decode cX3_offerGap 63 = .ok (.getfield 32, 3) := by decide +kernel
theorem dX3_offerGap_66 : decode cX3_offerGap 66 = .ok (.invokevirtual 116, 3) := by decide +kernel
theorem dX3_offerGap_69 : decode cX3_offerGap 69 = .ok (.lmul, 1) := by decide +kernel
theorem dX3_offerGap_70 : decode cX3_offerGap 70 = .ok (.putfield 98, 3) := by decide +kernel
theorem dX3_offerGap_73 : decode cX3_offerGap 73 = .ok (.aload_n 0, 1) := by decide +kernel
theorem dX3_offerGap_74 : decode cX3_offerGap 74 = .ok (.iload_n 1, 1) := by decide +kernel
theorem dX3_offerGap_75 : decode cX3_offerGap 75 = .ok (.i2l, 1) := by decide +kernel
theorem dX3_offerGap_76 : decode cX3_offerGap 76 = .ok (.aload_n 0, 1) := by decide +kernel
theorem dX3_offerGap_77 : decode cX3_offerGap 77 = .ok (.getfield 32, 3) := by decide +kernel
theorem dX3_offerGap_80 : decode cX3_offerGap 80 = .ok (.invokevirtual 120, 3) := by decide +kernel
theorem dX3_offerGap_83 : decode cX3_offerGap 83 = .ok (.lmul, 1) := by decide +kernel
theorem dX3_offerGap_84 : decode cX3_offerGap 84 = .ok (.putfield 101, 3) := by decide +kernel
theorem dX3_offerGap_87 : decode cX3_offerGap 87 = .ok (.return_, 1) := by decide +kernel
set_option maxRecDepth 100000 in
set_option maxHeartbeats 4000000 in
theorem mtX3_offerGap (l : Launch) (dC : Nat → ClassId) (dI : Nat → Nat → Nat) (cI cL cB : ClassId) (K : Nat) (h_t h_t_first h_t_second h_t_third h_t_place h_t_near : Nat) (sz : Nat) (t_gapSquare : Int64) (t_gapLower : Int64) (t_gapX : Int64) (t_gapY : Int64) (t_threefold : Int32) (t_leastX : Int64) (t_leastY : Int64) (t_leastLower : Int64) (t_near_x : Int64) (t_near_y : Int64) (t_near_lower : Int64) (t_near_square : Int64) (t_near_squareLower : Int64) (t_near_fromX : Int32) (t_near_fromY : Int32) (a1 : Int32) (o_t_gapSquare : Int64) (o_t_gapLower : Int64) (o_t_gapX : Int64) (o_t_gapY : Int64) (hf : fX3_offerGap K t_gapSquare t_gapLower t_gapX t_gapY t_near_x t_near_y t_near_lower t_near_square t_near_squareLower t_near_fromX t_near_fromY a1 = some (o_t_gapSquare, o_t_gapLower, o_t_gapX, o_t_gapY)) : Met l yX3_offerGap [Cond.code yX3_offerGap cX3_offerGap 2 none] ({ frames := 1, cells := 0, slots := 0, locals := 20 }) (va_Pc [.ref h_t, .int a1] (cPre dC dI cI cL cB sz [(h_t, .inr (3, [.ref h_t_first, .ref h_t_second, .ref h_t_third, .ref h_t_place, .long t_gapSquare, .long t_gapLower, .long t_gapX, .long t_gapY, .ref h_t_near, .int t_threefold, .long t_leastX, .long t_leastY, .long t_leastLower])), (h_t_near, .inr (4, [.long t_near_x, .long t_near_y, .long t_near_lower, .long t_near_square, .long t_near_squareLower, .int t_near_fromX, .int t_near_fromY]))])) (cQv dC dI (va_A [(h_t, .inr (3, [.ref h_t_first, .ref h_t_second, .ref h_t_third, .ref h_t_place, .long t_gapSquare, .long t_gapLower, .long t_gapX, .long t_gapY, .ref h_t_near, .int t_threefold, .long t_leastX, .long t_leastY, .long t_leastLower])), (h_t_near, .inr (4, [.long t_near_x, .long t_near_y, .long t_near_lower, .long t_near_square, .long t_near_squareLower, .int t_near_fromX, .int t_near_fromY]))] sz) [(h_t, .inr (3, [.ref h_t_first, .ref h_t_second, .ref h_t_third, .ref h_t_place, .long o_t_gapSquare, .long o_t_gapLower, .long o_t_gapX, .long o_t_gapY, .ref h_t_near, .int t_threefold, .long t_leastX, .long t_leastY, .long t_leastLower])), (h_t_near, .inr (4, [.long t_near_x, .long t_near_y, .long t_near_lower, .long t_near_square, .long t_near_squareLower, .int t_near_fromX, .int t_near_fromY]))]) 0 0 (va_A [(h_t, .inr (3, [.ref h_t_first, .ref h_t_second, .ref h_t_third, .ref h_t_place, .long t_gapSquare, .long t_gapLower, .long t_gapX, .long t_gapY, .ref h_t_near, .int t_threefold, .long t_leastX, .long t_leastY, .long t_leastLower])), (h_t_near, .inr (4, [.long t_near_x, .long t_near_y, .long t_near_lower, .long t_near_square, .long t_near_squareLower, .int t_near_fromX, .int t_near_fromY]))] sz) := by
  refine Met.ofW (cc := cX3_offerGap) (maxL := 2) (ret := none) (by decide) rfl ?_
  intro p e s m args below meth c s₁ B hml hv
  obtain ⟨rfl, hsz, hP, hK, hD0, hT⟩ := hv
  have hx := B.exec
  have hb := B.bytes
  have hr := B.returns
  have hown : s.vm.findClass RX3 = some m.cls := findClass_of_methodNamed B.named
  have hlocks := B.notSynchronized
  have hts := TB.use hT ([.ref h_t, .int a1] : List Value).toArray
  subst hsz
  have hD := hD0.self (sz := s.heap.size)
  generalize hAe : va_A [(h_t, .inr (3, [.ref h_t_first, .ref h_t_second, .ref h_t_third, .ref h_t_place, .long t_gapSquare, .long t_gapLower, .long t_gapX, .long t_gapY, .ref h_t_near, .int t_threefold, .long t_leastX, .long t_leastY, .long t_leastLower])), (h_t_near, .inr (4, [.long t_near_x, .long t_near_y, .long t_near_lower, .long t_near_square, .long t_near_squareLower, .int t_near_fromX, .int t_near_fromY]))] s.heap.size = A at hD ⊢
  have hA : ∀ q : Nat, s.heap.size ≤ q → A q := fun q h => by rw [← hAe]; exact Or.inr h
  clear hAe hD0
  have hl := lv_entry ([.ref h_t, .int a1]) (n := 2) (Nat.le_of_ble_eq_true rfl)
  rw [lg_entry_eq]
  generalize (lg_sl ([.ref h_t, .int a1]) ++ List.replicate (2 - (lg_sl ([.ref h_t, .int a1])).length) Slot.unset).toArray = ls at hl ⊢
  have hl : lv_has ls 2 [(0, .ref h_t), (1, .int a1)] := hl
  have hF : 1 ≤ (headSpec [Cond.code yX3_offerGap cX3_offerGap 2 none] ({ frames := 1, cells := 0, slots := 0, locals := 20 })).room.frames := Nat.le_refl _
  have hLo : 20 ≤ (headSpec [Cond.code yX3_offerGap cX3_offerGap 2 none] ({ frames := 1, cells := 0, slots := 0, locals := 20 })).room.locals := Nat.le_refl _
  have C0 : Sx p (headSpec [Cond.code yX3_offerGap cX3_offerGap 2 none] ({ frames := 1, cells := 0, slots := 0, locals := 20 })).room s m ([.ref h_t, .int a1] : List Value).toArray c cX3_offerGap 2 RX3 A dC dI cI cL cB 1 20 := ⟨hx, hb, hml, hown, hts, hK, hT, hA, hF, hLo⟩
  refine startH (A := A) hP (fun H locs hP hS => ?_)
  rw [fX3_offerGap] at hf
  refine lv_aload_n hx hb dX3_offerGap_0 rfl (lv_at hl 0 rfl) ?_
  refine va_get (D := (dC, dI)) (ci := 3) (v := .long t_gapLower) (C := RX3) (T := TX3) (N := 13) hx hb hts in_X3 hown hK hP 0 rfl rfl 5 (Nat.le_of_ble_eq_true rfl) (hts _ qf_X3_87) (fun _ h9 => h9) rfl dX3_offerGap_1 ?_
  refine lv_lconst (v := (0 : Int64)) hx hb dX3_offerGap_4 (by decide) ?_
  refine W.lcmp hx hb dX3_offerGap_5 ?_
  obtain ⟨k_1, ek_1, hf⟩ := jn_out hf
  have J_2 : ∀ (H : Heap) (locs : List Loc) (ls : Array Slot), va_P (dC, dI) vwCl [(h_t, .inr (3, [.ref h_t_first, .ref h_t_second, .ref h_t_third, .ref h_t_place, .long t_gapSquare, .long t_gapLower, .long t_gapX, .long t_gapY, .ref h_t_near, .int t_threefold, .long t_leastX, .long t_leastY, .long t_leastLower])), (h_t_near, .inr (4, [.long t_near_x, .long t_near_y, .long t_near_lower, .long t_near_square, .long t_near_squareLower, .int t_near_fromX, .int t_near_fromY]))] H → va_D A [(h_t, .inr (3, [.ref h_t_first, .ref h_t_second, .ref h_t_third, .ref h_t_place, .long t_gapSquare, .long t_gapLower, .long t_gapX, .long t_gapY, .ref h_t_near, .int t_threefold, .long t_leastX, .long t_leastY, .long t_leastLower])), (h_t_near, .inr (4, [.long t_near_x, .long t_near_y, .long t_near_lower, .long t_near_square, .long t_near_squareLower, .int t_near_fromX, .int t_near_fromY]))] → va_S A s.heap H locs → lv_has ls 2 [(0, .ref h_t), (1, .int a1)] → k_1 = some (o_t_gapSquare, o_t_gapLower, o_t_gapX, o_t_gapY) → W p l e (headSpec [Cond.code yX3_offerGap cX3_offerGap 2 none] ({ frames := 1, cells := 0, slots := 0, locals := 20 })).room s m ([.ref h_t, .int a1] : List Value).toArray below meth c H locs 0 0 (MQ below (cQv dC dI A [(h_t, .inr (3, [.ref h_t_first, .ref h_t_second, .ref h_t_third, .ref h_t_place, .long o_t_gapSquare, .long o_t_gapLower, .long o_t_gapX, .long o_t_gapY, .ref h_t_near, .int t_threefold, .long t_leastX, .long t_leastY, .long t_leastLower])), (h_t_near, .inr (4, [.long t_near_x, .long t_near_y, .long t_near_lower, .long t_near_square, .long t_near_squareLower, .int t_near_fromX, .int t_near_fromY]))]) ([.ref h_t, .int a1] : List Value).toArray s 0 0 A) (F0 m 37 ls []) := by
    intro H locs ls hP hD hS hl hf
    rw [ek_1] at hf
    refine lv_aload_n hx hb dX3_offerGap_37 rfl (lv_at hl 0 rfl) ?_
    refine lv_aload_n hx hb dX3_offerGap_38 rfl (lv_at hl 0 rfl) ?_
    refine va_get (D := (dC, dI)) (ci := 3) (v := .ref h_t_near) (C := RX3) (T := TX3) (N := 13) hx hb hts in_X3 hown hK hP 0 rfl rfl 8 (Nat.le_of_ble_eq_true rfl) (hts _ qf_X3_32) (fun _ h9 => h9) rfl dX3_offerGap_39 ?_
    refine va_get (D := (dC, dI)) (ci := 4) (v := .long t_near_square) (C := RX4) (T := TX4) (N := 7) hx hb hts in_X4 hown hK hP 1 rfl rfl 3 (Nat.le_of_ble_eq_true rfl) (hts _ qf_X3_110) (fun _ h9 => h9) rfl dX3_offerGap_42 ?_
    refine xput (D := (dC, dI)) (ci := 3) (v := .long t_near_square) (C := RX3) (T := TX3) (N := 13) (w2 := [(h_t, .inr (3, [.ref h_t_first, .ref h_t_second, .ref h_t_third, .ref h_t_place, .long t_near_square, .long t_gapLower, .long t_gapX, .long t_gapY, .ref h_t_near, .int t_threefold, .long t_leastX, .long t_leastY, .long t_leastLower])), (h_t_near, .inr (4, [.long t_near_x, .long t_near_y, .long t_near_lower, .long t_near_square, .long t_near_squareLower, .int t_near_fromX, .int t_near_fromY]))]) hx hb hts in_X3 tyX3 tyX3_ok nmX3 hown hK hP hD hS 0 rfl rfl 4 (Nat.le_of_ble_eq_true rfl) (hts _ qf_X3_84) (fun _ h9 => h9) rfl rfl rfl (Nat.le_of_ble_eq_true rfl) rfl dX3_offerGap_45 (fun H locs hP hD hS => ?_)
    refine lv_aload_n hx hb dX3_offerGap_48 rfl (lv_at hl 0 rfl) ?_
    refine lv_aload_n hx hb dX3_offerGap_49 rfl (lv_at hl 0 rfl) ?_
    refine va_get (D := (dC, dI)) (ci := 3) (v := .ref h_t_near) (C := RX3) (T := TX3) (N := 13) hx hb hts in_X3 hown hK hP 0 rfl rfl 8 (Nat.le_of_ble_eq_true rfl) (hts _ qf_X3_32) (fun _ h9 => h9) rfl dX3_offerGap_50 ?_
    refine va_get (D := (dC, dI)) (ci := 4) (v := .long t_near_squareLower) (C := RX4) (T := TX4) (N := 7) hx hb hts in_X4 hown hK hP 1 rfl rfl 4 (Nat.le_of_ble_eq_true rfl) (hts _ qf_X3_113) (fun _ h9 => h9) rfl dX3_offerGap_53 ?_
    refine xput (D := (dC, dI)) (ci := 3) (v := .long t_near_squareLower) (C := RX3) (T := TX3) (N := 13) (w2 := [(h_t, .inr (3, [.ref h_t_first, .ref h_t_second, .ref h_t_third, .ref h_t_place, .long t_near_square, .long t_near_squareLower, .long t_gapX, .long t_gapY, .ref h_t_near, .int t_threefold, .long t_leastX, .long t_leastY, .long t_leastLower])), (h_t_near, .inr (4, [.long t_near_x, .long t_near_y, .long t_near_lower, .long t_near_square, .long t_near_squareLower, .int t_near_fromX, .int t_near_fromY]))]) hx hb hts in_X3 tyX3 tyX3_ok nmX3 hown hK hP hD hS 0 rfl rfl 5 (Nat.le_of_ble_eq_true rfl) (hts _ qf_X3_87) (fun _ h9 => h9) rfl rfl rfl (Nat.le_of_ble_eq_true rfl) rfl dX3_offerGap_56 (fun H locs hP hD hS => ?_)
    refine lv_aload_n hx hb dX3_offerGap_59 rfl (lv_at hl 0 rfl) ?_
    refine lv_iload_n hx hb dX3_offerGap_60 rfl (lv_at hl 1 rfl) ?_
    refine lv_i2l hx hb dX3_offerGap_61 rfl ?_
    refine lv_aload_n hx hb dX3_offerGap_62 rfl (lv_at hl 0 rfl) ?_
    refine va_get (D := (dC, dI)) (ci := 3) (v := .ref h_t_near) (C := RX3) (T := TX3) (N := 13) hx hb hts in_X3 hown hK hP 0 rfl rfl 8 (Nat.le_of_ble_eq_true rfl) (hts _ qf_X3_32) (fun _ h9 => h9) rfl dX3_offerGap_63 ?_
    obtain ⟨r_3, hq_4, hf⟩ := b1_some hf
    refine xcl (wr := [(h_t, .inr (3, [.ref h_t_first, .ref h_t_second, .ref h_t_third, .ref h_t_place, .long t_near_square, .long t_near_squareLower, .long t_gapX, .long t_gapY, .ref h_t_near, .int t_threefold, .long t_leastX, .long t_leastY, .long t_leastLower]))]) (w2 := [(h_t, .inr (3, [.ref h_t_first, .ref h_t_second, .ref h_t_third, .ref h_t_place, .long t_near_square, .long t_near_squareLower, .long t_gapX, .long t_gapY, .ref h_t_near, .int t_threefold, .long t_leastX, .long t_leastY, .long t_leastLower])), (h_t_near, .inr (4, [.long t_near_x, .long t_near_y, .long t_near_lower, .long t_near_square, .long t_near_squareLower, .int t_near_fromX, .int t_near_fromY]))]) (va_runV (As := []) (rest := [.long (a1.toInt64), .ref h_t]) ⟨hx, hb, hml, hown, hts⟩ (mtX4_wayX l dC dI cI cL cB K h_t_near H.size t_near_x t_near_y t_near_lower t_near_square t_near_squareLower t_near_fromX t_near_fromY r_3 hq_4) (cwV 0 hts gv_X3_116 rfl rfl rfl hdV_X4_wayX ⟨Nat.le_trans (Nat.le_of_ble_eq_true rfl) hF, Nat.le_trans (Nat.le_of_ble_eq_true rfl) hLo⟩) (cPreV hK hP hD hT [1] rfl rfl (ci := 4) (q0 := 0) rfl rfl) rfl rfl hl.1 rfl (lv_room (Nat.le_of_ble_eq_true rfl)) dX3_offerGap_66 ⟨Nat.zero_le _, Nat.zero_le _⟩) hP hD hS hA [1] [0] [0, 1] rfl rfl rfl rfl rfl rfl (fun H locs hP hD hS => ?_)
    refine lv_lmul hx hb dX3_offerGap_69 ?_
    refine lv_topl (fun f_gapX_5 ef_gapX_5 => ?_)
    replace hf := xl_at hf ef_gapX_5
    refine xput (D := (dC, dI)) (ci := 3) (v := .long f_gapX_5) (C := RX3) (T := TX3) (N := 13) (w2 := [(h_t, .inr (3, [.ref h_t_first, .ref h_t_second, .ref h_t_third, .ref h_t_place, .long t_near_square, .long t_near_squareLower, .long f_gapX_5, .long t_gapY, .ref h_t_near, .int t_threefold, .long t_leastX, .long t_leastY, .long t_leastLower])), (h_t_near, .inr (4, [.long t_near_x, .long t_near_y, .long t_near_lower, .long t_near_square, .long t_near_squareLower, .int t_near_fromX, .int t_near_fromY]))]) hx hb hts in_X3 tyX3 tyX3_ok nmX3 hown hK hP hD hS 0 rfl rfl 6 (Nat.le_of_ble_eq_true rfl) (hts _ qf_X3_98) (fun _ h9 => h9) rfl rfl rfl (Nat.le_of_ble_eq_true rfl) rfl dX3_offerGap_70 (fun H locs hP hD hS => ?_)
    refine lv_aload_n hx hb dX3_offerGap_73 rfl (lv_at hl 0 rfl) ?_
    refine lv_iload_n hx hb dX3_offerGap_74 rfl (lv_at hl 1 rfl) ?_
    refine lv_i2l hx hb dX3_offerGap_75 rfl ?_
    refine lv_aload_n hx hb dX3_offerGap_76 rfl (lv_at hl 0 rfl) ?_
    refine va_get (D := (dC, dI)) (ci := 3) (v := .ref h_t_near) (C := RX3) (T := TX3) (N := 13) hx hb hts in_X3 hown hK hP 0 rfl rfl 8 (Nat.le_of_ble_eq_true rfl) (hts _ qf_X3_32) (fun _ h9 => h9) rfl dX3_offerGap_77 ?_
    obtain ⟨r_6, hq_7, hf⟩ := b1_some hf
    refine xcl (wr := [(h_t, .inr (3, [.ref h_t_first, .ref h_t_second, .ref h_t_third, .ref h_t_place, .long t_near_square, .long t_near_squareLower, .long f_gapX_5, .long t_gapY, .ref h_t_near, .int t_threefold, .long t_leastX, .long t_leastY, .long t_leastLower]))]) (w2 := [(h_t, .inr (3, [.ref h_t_first, .ref h_t_second, .ref h_t_third, .ref h_t_place, .long t_near_square, .long t_near_squareLower, .long f_gapX_5, .long t_gapY, .ref h_t_near, .int t_threefold, .long t_leastX, .long t_leastY, .long t_leastLower])), (h_t_near, .inr (4, [.long t_near_x, .long t_near_y, .long t_near_lower, .long t_near_square, .long t_near_squareLower, .int t_near_fromX, .int t_near_fromY]))]) (va_runV (As := []) (rest := [.long (a1.toInt64), .ref h_t]) ⟨hx, hb, hml, hown, hts⟩ (mtX4_wayY l dC dI cI cL cB K h_t_near H.size t_near_x t_near_y t_near_lower t_near_square t_near_squareLower t_near_fromX t_near_fromY r_6 hq_7) (cwV 0 hts gv_X3_120 rfl rfl rfl hdV_X4_wayY ⟨Nat.le_trans (Nat.le_of_ble_eq_true rfl) hF, Nat.le_trans (Nat.le_of_ble_eq_true rfl) hLo⟩) (cPreV hK hP hD hT [1] rfl rfl (ci := 4) (q0 := 0) rfl rfl) rfl rfl hl.1 rfl (lv_room (Nat.le_of_ble_eq_true rfl)) dX3_offerGap_80 ⟨Nat.zero_le _, Nat.zero_le _⟩) hP hD hS hA [1] [0] [0, 1] rfl rfl rfl rfl rfl rfl (fun H locs hP hD hS => ?_)
    refine lv_lmul hx hb dX3_offerGap_83 ?_
    refine lv_topl (fun f_gapY_8 ef_gapY_8 => ?_)
    replace hf := xl_at hf ef_gapY_8
    refine xput (D := (dC, dI)) (ci := 3) (v := .long f_gapY_8) (C := RX3) (T := TX3) (N := 13) (w2 := [(h_t, .inr (3, [.ref h_t_first, .ref h_t_second, .ref h_t_third, .ref h_t_place, .long t_near_square, .long t_near_squareLower, .long f_gapX_5, .long f_gapY_8, .ref h_t_near, .int t_threefold, .long t_leastX, .long t_leastY, .long t_leastLower])), (h_t_near, .inr (4, [.long t_near_x, .long t_near_y, .long t_near_lower, .long t_near_square, .long t_near_squareLower, .int t_near_fromX, .int t_near_fromY]))]) hx hb hts in_X3 tyX3 tyX3_ok nmX3 hown hK hP hD hS 0 rfl rfl 7 (Nat.le_of_ble_eq_true rfl) (hts _ qf_X3_101) (fun _ h9 => h9) rfl rfl rfl (Nat.le_of_ble_eq_true rfl) rfl dX3_offerGap_84 (fun H locs hP hD hS => ?_)
    obtain ⟨rfl, rfl, rfl, rfl⟩ := o4 hf
    exact W.vret hx hb hr (fun t ht hW => ⟨⟨(), rfl, trivial, by rw [ht]; exact hP, hD⟩, hS.F ht⟩) hS.2.2 dX3_offerGap_87
  refine lv_if_eq (tgt := 37) hx hb dX3_offerGap_6 (by decide) (fun hc => ?_) (fun hc => ?_)
  · replace hf := it_t ((lg_cmp_eq _ _).mp hc) hf
    exact J_2 H locs ls hP hD hS (lv_sub hl [0, 1] rfl) hf
  · replace hf := it_f (fun h9 => hc ((lg_cmp_eq _ _).mpr h9)) hf
    refine lv_aload_n hx hb dX3_offerGap_9 rfl (lv_at hl 0 rfl) ?_
    refine va_get (D := (dC, dI)) (ci := 3) (v := .ref h_t_near) (C := RX3) (T := TX3) (N := 13) hx hb hts in_X3 hown hK hP 0 rfl rfl 8 (Nat.le_of_ble_eq_true rfl) (hts _ qf_X3_32) (fun _ h9 => h9) rfl dX3_offerGap_10 ?_
    refine va_get (D := (dC, dI)) (ci := 4) (v := .long t_near_square) (C := RX4) (T := TX4) (N := 7) hx hb hts in_X4 hown hK hP 1 rfl rfl 3 (Nat.le_of_ble_eq_true rfl) (hts _ qf_X3_110) (fun _ h9 => h9) rfl dX3_offerGap_13 ?_
    refine lv_aload_n hx hb dX3_offerGap_16 rfl (lv_at hl 0 rfl) ?_
    refine va_get (D := (dC, dI)) (ci := 3) (v := .long t_gapLower) (C := RX3) (T := TX3) (N := 13) hx hb hts in_X3 hown hK hP 0 rfl rfl 5 (Nat.le_of_ble_eq_true rfl) (hts _ qf_X3_87) (fun _ h9 => h9) rfl dX3_offerGap_17 ?_
    refine lv_lmul hx hb dX3_offerGap_20 ?_
    refine lv_aload_n hx hb dX3_offerGap_21 rfl (lv_at hl 0 rfl) ?_
    refine va_get (D := (dC, dI)) (ci := 3) (v := .long t_gapSquare) (C := RX3) (T := TX3) (N := 13) hx hb hts in_X3 hown hK hP 0 rfl rfl 4 (Nat.le_of_ble_eq_true rfl) (hts _ qf_X3_84) (fun _ h9 => h9) rfl dX3_offerGap_22 ?_
    refine lv_aload_n hx hb dX3_offerGap_25 rfl (lv_at hl 0 rfl) ?_
    refine va_get (D := (dC, dI)) (ci := 3) (v := .ref h_t_near) (C := RX3) (T := TX3) (N := 13) hx hb hts in_X3 hown hK hP 0 rfl rfl 8 (Nat.le_of_ble_eq_true rfl) (hts _ qf_X3_32) (fun _ h9 => h9) rfl dX3_offerGap_26 ?_
    refine va_get (D := (dC, dI)) (ci := 4) (v := .long t_near_squareLower) (C := RX4) (T := TX4) (N := 7) hx hb hts in_X4 hown hK hP 1 rfl rfl 4 (Nat.le_of_ble_eq_true rfl) (hts _ qf_X3_113) (fun _ h9 => h9) rfl dX3_offerGap_29 ?_
    refine lv_lmul hx hb dX3_offerGap_32 ?_
    refine W.lcmp hx hb dX3_offerGap_33 ?_
    refine lv_if_ge (tgt := 87) hx hb dX3_offerGap_34 (by decide) (fun hc => ?_) (fun hc => ?_)
    · replace hf := it_t ((lg_cmp_ge _ _).mp hc) hf
      obtain ⟨rfl, rfl, rfl, rfl⟩ := o4 hf
      exact W.vret hx hb hr (fun t ht hW => ⟨⟨(), rfl, trivial, by rw [ht]; exact hP, hD⟩, hS.F ht⟩) hS.2.2 dX3_offerGap_87
    · replace hf := it_f (fun h9 => hc ((lg_cmp_ge _ _).mpr h9)) hf
      exact J_2 H locs ls hP hD hS (lv_sub hl [0, 1] rfl) hf
theorem dX3_measureGap_0 : decode cX3_measureGap 0 = .ok (.aload_n 0, 1) := by decide +kernel
theorem dX3_measureGap_1 : decode cX3_measureGap 1 = .ok (.lconst 0, 1) := by decide +kernel
theorem dX3_measureGap_2 : decode cX3_measureGap 2 = .ok (.putfield 84, 3) := by decide +kernel
theorem dX3_measureGap_5 : decode cX3_measureGap 5 = .ok (.aload_n 0, 1) := by decide +kernel
theorem dX3_measureGap_6 : decode cX3_measureGap 6 = .ok (.lconst 0, 1) := by decide +kernel
theorem dX3_measureGap_7 : decode cX3_measureGap 7 = .ok (.putfield 87, 3) := by decide +kernel
theorem dX3_measureGap_10 : decode cX3_measureGap 10 = .ok (.iconst 0, 1) := by decide +kernel
theorem dX3_measureGap_11 : decode cX3_measureGap 11 = .ok (.istore_n 1, 1) := by decide +kernel
theorem dX3_measureGap_12 : decode cX3_measureGap 12 = .ok (.iload_n 1, 1) := by decide +kernel
theorem dX3_measureGap_13 : decode cX3_measureGap 13 = .ok (.aload_n 0, 1) := by decide +kernel
theorem dX3_measureGap_14 : decode cX3_measureGap 14 = .ok (.getfield 16, 3) := by decide +kernel
theorem dX3_measureGap_17 : decode cX3_measureGap 17 = .ok (.getfield 66, 3) := by decide +kernel
theorem dX3_measureGap_20 : decode cX3_measureGap 20 = .ok (.if_icmp .ge 43, 3) := by decide +kernel
theorem dX3_measureGap_23 : decode cX3_measureGap 23 = .ok (.aload_n 0, 1) := by decide +kernel
theorem dX3_measureGap_24 : decode cX3_measureGap 24 = .ok (.getfield 32, 3) := by decide +kernel
theorem dX3_measureGap_27 : decode cX3_measureGap 27 = .ok (.aload_n 0, 1) := by decide +kernel
theorem dX3_measureGap_28 : decode cX3_measureGap 28 = .ok (.getfield 10, 3) := by decide +kernel
theorem dX3_measureGap_31 : decode cX3_measureGap 31 = .ok (.aload_n 0, 1) := by decide +kernel
theorem dX3_measureGap_32 : decode cX3_measureGap 32 = .ok (.getfield 16, 3) := by decide +kernel
theorem dX3_measureGap_35 : decode cX3_measureGap 35 = .ok (.getfield 70, 3) := by decide +kernel
theorem dX3_measureGap_38 : decode cX3_measureGap 38 = .ok (.iload_n 1, 1) := by decide +kernel
theorem dX3_measureGap_39 : decode cX3_measureGap 39 = .ok (.iaload, 1) := by decide +kernel
theorem dX3_measureGap_40 : decode cX3_measureGap 40 = .ok (.aload_n 0, 1) := by decide +kernel
theorem dX3_measureGap_41 : decode cX3_measureGap 41 = .ok (.getfield 16, 3) := by decide +kernel
theorem dX3_measureGap_44 : decode cX3_measureGap 44 = .ok (.getfield 74, 3) := by decide +kernel
theorem dX3_measureGap_47 : decode cX3_measureGap 47 = .ok (.iload_n 1, 1) := by decide +kernel
theorem dX3_measureGap_48 : decode cX3_measureGap 48 = .ok (.iaload, 1) := by decide +kernel
theorem dX3_measureGap_49 : decode cX3_measureGap 49 = .ok (.invokevirtual 90, 3) := by decide +kernel
theorem dX3_measureGap_52 : decode cX3_measureGap 52 = .ok (.aload_n 0, 1) := by decide +kernel
theorem dX3_measureGap_53 : decode cX3_measureGap 53 = .ok (.iconst (-1), 1) := by decide +kernel
theorem dX3_measureGap_54 : decode cX3_measureGap 54 = .ok (.invokevirtual 94, 3) := by decide +kernel
theorem dX3_measureGap_57 : decode cX3_measureGap 57 = .ok (.iinc 1 1, 3) := by decide +kernel
theorem dX3_measureGap_60 : decode cX3_measureGap 60 = .ok (.goto (-48), 3) := by decide +kernel
theorem dX3_measureGap_63 : decode cX3_measureGap 63 = .ok (.iconst 0, 1) := by decide +kernel
theorem dX3_measureGap_64 : decode cX3_measureGap 64 = .ok (.istore_n 1, 1) := by decide +kernel
theorem dX3_measureGap_65 : decode cX3_measureGap 65 = .ok (.iload_n 1, 1) := by decide +kernel
theorem dX3_measureGap_66 : decode cX3_measureGap 66 = .ok (.aload_n 0, 1) := by decide +kernel
theorem dX3_measureGap_67 : decode cX3_measureGap 67 = .ok (.getfield 10, 3) := by decide +kernel
theorem dX3_measureGap_70 : decode cX3_measureGap 70 = .ok (.getfield 66, 3) := by decide +kernel
theorem dX3_measureGap_73 : decode cX3_measureGap 73 = .ok (.if_icmp .ge 43, 3) := by decide +kernel
theorem dX3_measureGap_76 : decode cX3_measureGap 76 = .ok (.aload_n 0, 1) := by decide +kernel
theorem dX3_measureGap_77 : decode cX3_measureGap 77 = .ok (.getfield 32, 3) := by decide +kernel
theorem dX3_measureGap_80 : decode cX3_measureGap 80 = .ok (.aload_n 0, 1) := by decide +kernel
theorem dX3_measureGap_81 : decode cX3_measureGap 81 = .ok (.getfield 16, 3) := by decide +kernel
theorem dX3_measureGap_84 : decode cX3_measureGap 84 = .ok (.aload_n 0, 1) := by decide +kernel
theorem dX3_measureGap_85 : decode cX3_measureGap 85 = .ok (.getfield 10, 3) := by decide +kernel
theorem dX3_measureGap_88 : decode cX3_measureGap 88 = .ok (.getfield 70, 3) := by decide +kernel
theorem dX3_measureGap_91 : decode cX3_measureGap 91 = .ok (.iload_n 1, 1) := by decide +kernel
theorem dX3_measureGap_92 : decode cX3_measureGap 92 = .ok (.iaload, 1) := by decide +kernel
theorem dX3_measureGap_93 : decode cX3_measureGap 93 = .ok (.aload_n 0, 1) := by decide +kernel
theorem dX3_measureGap_94 : decode cX3_measureGap 94 = .ok (.getfield 10, 3) := by decide +kernel
theorem dX3_measureGap_97 : decode cX3_measureGap 97 = .ok (.getfield 74, 3) := by decide +kernel
theorem dX3_measureGap_100 : decode cX3_measureGap 100 = .ok (.iload_n 1, 1) := by decide +kernel
theorem dX3_measureGap_101 : decode cX3_measureGap 101 = .ok (.iaload, 1) := by decide +kernel
theorem dX3_measureGap_102 : decode cX3_measureGap 102 = .ok (.invokevirtual 90, 3) := by decide +kernel
theorem dX3_measureGap_105 : decode cX3_measureGap 105 = .ok (.aload_n 0, 1) := by decide +kernel
theorem dX3_measureGap_106 : decode cX3_measureGap 106 = .ok (.iconst 1, 1) := by decide +kernel
theorem dX3_measureGap_107 : decode cX3_measureGap 107 = .ok (.invokevirtual 94, 3) := by decide +kernel
theorem dX3_measureGap_110 : decode cX3_measureGap 110 = .ok (.iinc 1 1, 3) := by decide +kernel
theorem dX3_measureGap_113 : decode cX3_measureGap 113 = .ok (.goto (-48), 3) := by decide +kernel
theorem dX3_measureGap_116 : decode cX3_measureGap 116 = .ok (.aload_n 0, 1) := by decide +kernel
theorem dX3_measureGap_117 : decode cX3_measureGap 117 = .ok (.getfield 98, 3) := by decide +kernel
theorem dX3_measureGap_120 : decode cX3_measureGap 120 = .ok (.aload_n 0, 1) := by decide +kernel
theorem dX3_measureGap_121 : decode cX3_measureGap 121 = .ok (.getfield 101, 3) := by decide +kernel
theorem dX3_measureGap_124 : decode cX3_measureGap 124 = .ok (.invokestatic 104, 3) := by decide +kernel
theorem dX3_measureGap_127 : decode cX3_measureGap 127 = .ok (.lstore_n 1, 1) := by decide +kernel
theorem dX3_measureGap_128 : decode cX3_measureGap 128 = .ok (.aload_n 0, 1) := by decide +kernel
theorem dX3_measureGap_129 : decode cX3_measureGap 129 = .ok (.getfield 84, 3) := by decide +kernel
theorem dX3_measureGap_132 : decode cX3_measureGap 132 = .ok (.aload_n 0, 1) := by decide +kernel
theorem dX3_measureGap_133 : decode cX3_measureGap 133 = .ok (.getfield 87, 3) := by decide +kernel
theorem dX3_measureGap_136 : decode cX3_measureGap 136 = .ok (.invokestatic 104, 3) := by decide +kernel
theorem dX3_measureGap_139 : decode cX3_measureGap 139 = .ok (.lstore_n 3, 1) := by decide +kernel
theorem dX3_measureGap_140 : decode cX3_measureGap 140 = .ok (.lload_n 1, 1) := by decide +kernel
theorem dX3_measureGap_141 : decode cX3_measureGap 141 = .ok (.lconst 0, 1) := by decide +kernel
theorem dX3_measureGap_142 : decode cX3_measureGap 142 = .ok (.lcmp, 1) := by decide +kernel
theorem dX3_measureGap_143 : decode cX3_measureGap 143 = .ok (.ifCond .eq 9, 3) := by decide +kernel
theorem dX3_measureGap_146 : decode cX3_measureGap 146 = .ok (.lload_n 3, 1) := by decide +kernel
theorem dX3_measureGap_147 : decode cX3_measureGap 147 = .ok (.lconst 0, 1) := by decide +kernel
theorem dX3_measureGap_148 : decode cX3_measureGap 148 = .ok (.lcmp, 1) := by decide +kernel
theorem dX3_measureGap_149 : decode cX3_measureGap 149 = .ok (.ifCond .ne 5, 3) := by decide +kernel
theorem dX3_measureGap_152 : decode cX3_measureGap 152 = .ok (.iconst 0, 1) := by decide +kernel
theorem dX3_measureGap_153 : decode cX3_measureGap 153 = .ok (.ireturn, 1) := by decide +kernel
theorem dX3_measureGap_154 : decode cX3_measureGap 154 = .ok (.aload_n 0, 1) := by decide +kernel
theorem dX3_measureGap_155 : decode cX3_measureGap 155 = .ok (.dup, 1) := by decide +kernel
theorem dX3_measureGap_156 : decode cX3_measureGap 156 = .ok (.getfield 98, 3) := by decide +kernel
theorem dX3_measureGap_159 : decode cX3_measureGap 159 = .ok (.lload_n 1, 1) := by decide +kernel
theorem dX3_measureGap_160 : decode cX3_measureGap 160 = .ok (.ldiv, 1) := by decide +kernel
theorem dX3_measureGap_161 : decode cX3_measureGap 161 = .ok (.putfield 98, 3) := by decide +kernel
theorem dX3_measureGap_164 : decode cX3_measureGap 164 = .ok (.aload_n 0, 1) := by decide +kernel
theorem dX3_measureGap_165 : decode cX3_measureGap 165 = .ok (.dup, 1) := by decide +kernel
theorem dX3_measureGap_166 : decode cX3_measureGap 166 = .ok (.getfield 101, 3) := by decide +kernel
theorem dX3_measureGap_169 : decode cX3_measureGap 169 = .ok (.lload_n 1, 1) := by decide +kernel
theorem dX3_measureGap_170 : decode cX3_measureGap 170 = .ok (.ldiv, 1) := by decide +kernel
theorem dX3_measureGap_171 : decode cX3_measureGap 171 = .ok (.putfield 101, 3) := by decide +kernel
theorem dX3_measureGap_174 : decode cX3_measureGap 174 = .ok (.aload_n 0, 1) := by decide +kernel
theorem dX3_measureGap_175 : decode cX3_measureGap 175 = .ok (.dup, 1) := by decide +kernel
theorem dX3_measureGap_176 : decode cX3_measureGap 176 = .ok (.getfield 84, 3) := by decide +kernel
theorem dX3_measureGap_179 : decode cX3_measureGap 179 = .ok (.lload_n 3, 1) := by decide +kernel
theorem dX3_measureGap_180 : decode cX3_measureGap 180 = .ok (.ldiv, 1) := by decide +kernel
theorem dX3_measureGap_181 : decode cX3_measureGap 181 = .ok (.putfield 84, 3) := by decide +kernel
theorem dX3_measureGap_184 : decode cX3_measureGap 184 = .ok (.aload_n 0, 1) := by decide +kernel
theorem dX3_measureGap_185 : decode cX3_measureGap 185 = .ok (.dup, 1) := by decide +kernel
theorem dX3_measureGap_186 : decode cX3_measureGap 186 = .ok (.getfield 87, 3) := by decide +kernel
theorem dX3_measureGap_189 : decode cX3_measureGap 189 = .ok (.lload_n 3, 1) := by decide +kernel
theorem dX3_measureGap_190 : decode cX3_measureGap 190 = .ok (.ldiv, 1) := by decide +kernel
theorem dX3_measureGap_191 : decode cX3_measureGap 191 = .ok (.putfield 87, 3) := by decide +kernel
theorem dX3_measureGap_194 : decode cX3_measureGap 194 = .ok (.iconst 1, 1) := by decide +kernel
theorem dX3_measureGap_195 : decode cX3_measureGap 195 = .ok (.ireturn, 1) := by decide +kernel
set_option maxRecDepth 100000 in
set_option maxHeartbeats 4000000 in
theorem wX3_measureGap_L12 {p : Program} {l : Launch} {e : Env} {R : Room} {s : State} {m : MethodId} {args : Array Value} {below : List Frame} {meth : Method} {c : Code} {Q : State → Prop} {A : Nat → Prop} {dC : Nat → ClassId} {dI : Nat → Nat → Nat} {cI cL cB : ClassId} {K : Nat} (C0 : Sx p R s m args c cX3_measureGap 5 RX3 A dC dI cI cL cB 3 88) (h_t h_t_first h_t_second h_t_third h_t_place h_t_near h_t_first_chain h_t_first_x h_t_first_y h_t_first_sorted h_t_second_chain h_t_second_x h_t_second_y h_t_second_sorted : Nat) (t_threefold : Int32) (t_leastX : Int64) (t_leastY : Int64) (t_leastLower : Int64) (t_first_size : Int32) (t_first_x : Nat → Int32) (t_first_y : Nat → Int32) (t_second_size : Int32) (t_second_x : Nat → Int32) (t_second_y : Nat → Int32) : ∀ (n : Nat) (l1 : Int32) (t_gapSquare : Int64) (t_gapLower : Int64) (t_gapX : Int64) (t_gapY : Int64) (t_near_x : Int64) (t_near_y : Int64) (t_near_lower : Int64) (t_near_square : Int64) (t_near_squareLower : Int64) (t_near_fromX : Int32) (t_near_fromY : Int32) (x_t_gapSquare : Int64) (x_t_gapLower : Int64) (x_t_gapX : Int64) (x_t_gapY : Int64) (x_t_near_x : Int64) (x_t_near_y : Int64) (x_t_near_lower : Int64) (x_t_near_square : Int64) (x_t_near_squareLower : Int64) (x_t_near_fromX : Int32) (x_t_near_fromY : Int32) (H : Heap) (locs : List Loc) (ls : Array Slot), va_P (dC, dI) vwCl [(h_t, .inr (3, [.ref h_t_first, .ref h_t_second, .ref h_t_third, .ref h_t_place, .long t_gapSquare, .long t_gapLower, .long t_gapX, .long t_gapY, .ref h_t_near, .int t_threefold, .long t_leastX, .long t_leastY, .long t_leastLower])), (h_t_first, .inr (2, [.ref h_t_first_chain, .ref h_t_first_x, .ref h_t_first_y, .ref h_t_first_sorted, .int t_first_size])), (h_t_first_x, .inl (cI, 48, .inl t_first_x)), (h_t_first_y, .inl (cI, 48, .inl t_first_y)), (h_t_second, .inr (2, [.ref h_t_second_chain, .ref h_t_second_x, .ref h_t_second_y, .ref h_t_second_sorted, .int t_second_size])), (h_t_second_x, .inl (cI, 48, .inl t_second_x)), (h_t_second_y, .inl (cI, 48, .inl t_second_y)), (h_t_near, .inr (4, [.long t_near_x, .long t_near_y, .long t_near_lower, .long t_near_square, .long t_near_squareLower, .int t_near_fromX, .int t_near_fromY]))] H → va_D A [(h_t, .inr (3, [.ref h_t_first, .ref h_t_second, .ref h_t_third, .ref h_t_place, .long t_gapSquare, .long t_gapLower, .long t_gapX, .long t_gapY, .ref h_t_near, .int t_threefold, .long t_leastX, .long t_leastY, .long t_leastLower])), (h_t_first, .inr (2, [.ref h_t_first_chain, .ref h_t_first_x, .ref h_t_first_y, .ref h_t_first_sorted, .int t_first_size])), (h_t_first_x, .inl (cI, 48, .inl t_first_x)), (h_t_first_y, .inl (cI, 48, .inl t_first_y)), (h_t_second, .inr (2, [.ref h_t_second_chain, .ref h_t_second_x, .ref h_t_second_y, .ref h_t_second_sorted, .int t_second_size])), (h_t_second_x, .inl (cI, 48, .inl t_second_x)), (h_t_second_y, .inl (cI, 48, .inl t_second_y)), (h_t_near, .inr (4, [.long t_near_x, .long t_near_y, .long t_near_lower, .long t_near_square, .long t_near_squareLower, .int t_near_fromX, .int t_near_fromY]))] → va_S A s.heap H locs → lv_has ls 5 [(0, .ref h_t), (1, .int l1)] → fX3_measureGap_L12 K t_first_size t_first_x t_first_y t_second_size t_second_x t_second_y n l1 t_gapSquare t_gapLower t_gapX t_gapY t_near_x t_near_y t_near_lower t_near_square t_near_squareLower t_near_fromX t_near_fromY = some (x_t_gapSquare, x_t_gapLower, x_t_gapX, x_t_gapY, x_t_near_x, x_t_near_y, x_t_near_lower, x_t_near_square, x_t_near_squareLower, x_t_near_fromX, x_t_near_fromY) → (∀ (H : Heap) (locs : List Loc) (ls : Array Slot), va_P (dC, dI) vwCl [(h_t, .inr (3, [.ref h_t_first, .ref h_t_second, .ref h_t_third, .ref h_t_place, .long x_t_gapSquare, .long x_t_gapLower, .long x_t_gapX, .long x_t_gapY, .ref h_t_near, .int t_threefold, .long t_leastX, .long t_leastY, .long t_leastLower])), (h_t_first, .inr (2, [.ref h_t_first_chain, .ref h_t_first_x, .ref h_t_first_y, .ref h_t_first_sorted, .int t_first_size])), (h_t_first_x, .inl (cI, 48, .inl t_first_x)), (h_t_first_y, .inl (cI, 48, .inl t_first_y)), (h_t_second, .inr (2, [.ref h_t_second_chain, .ref h_t_second_x, .ref h_t_second_y, .ref h_t_second_sorted, .int t_second_size])), (h_t_second_x, .inl (cI, 48, .inl t_second_x)), (h_t_second_y, .inl (cI, 48, .inl t_second_y)), (h_t_near, .inr (4, [.long x_t_near_x, .long x_t_near_y, .long x_t_near_lower, .long x_t_near_square, .long x_t_near_squareLower, .int x_t_near_fromX, .int x_t_near_fromY]))] H → va_D A [(h_t, .inr (3, [.ref h_t_first, .ref h_t_second, .ref h_t_third, .ref h_t_place, .long x_t_gapSquare, .long x_t_gapLower, .long x_t_gapX, .long x_t_gapY, .ref h_t_near, .int t_threefold, .long t_leastX, .long t_leastY, .long t_leastLower])), (h_t_first, .inr (2, [.ref h_t_first_chain, .ref h_t_first_x, .ref h_t_first_y, .ref h_t_first_sorted, .int t_first_size])), (h_t_first_x, .inl (cI, 48, .inl t_first_x)), (h_t_first_y, .inl (cI, 48, .inl t_first_y)), (h_t_second, .inr (2, [.ref h_t_second_chain, .ref h_t_second_x, .ref h_t_second_y, .ref h_t_second_sorted, .int t_second_size])), (h_t_second_x, .inl (cI, 48, .inl t_second_x)), (h_t_second_y, .inl (cI, 48, .inl t_second_y)), (h_t_near, .inr (4, [.long x_t_near_x, .long x_t_near_y, .long x_t_near_lower, .long x_t_near_square, .long x_t_near_squareLower, .int x_t_near_fromX, .int x_t_near_fromY]))] → va_S A s.heap H locs → lv_has ls 5 [(0, .ref h_t)] → W p l e R s m args below meth c H locs 0 0 Q (F0 m 63 ls [])) → W p l e R s m args below meth c H locs 0 0 Q (F0 m 12 ls []) := by
  obtain ⟨hx, hb, hml, hown, hts, hK, hT, hA, hF, hLo⟩ := id C0
  intro n
  induction n with
  | zero =>
    intro l1 t_gapSquare t_gapLower t_gapX t_gapY t_near_x t_near_y t_near_lower t_near_square t_near_squareLower t_near_fromX t_near_fromY x_t_gapSquare x_t_gapLower x_t_gapX x_t_gapY x_t_near_x x_t_near_y x_t_near_lower x_t_near_square x_t_near_squareLower x_t_near_fromX x_t_near_fromY H locs ls hP hD hS hl hf
    rw [fX3_measureGap_L12] at hf
    cases hf
  | succ n ih =>
    intro l1 t_gapSquare t_gapLower t_gapX t_gapY t_near_x t_near_y t_near_lower t_near_square t_near_squareLower t_near_fromX t_near_fromY x_t_gapSquare x_t_gapLower x_t_gapX x_t_gapY x_t_near_x x_t_near_y x_t_near_lower x_t_near_square x_t_near_squareLower x_t_near_fromX x_t_near_fromY H locs ls hP hD hS hl hf hk
    rw [fX3_measureGap_L12] at hf
    refine lv_iload_n hx hb dX3_measureGap_12 rfl (lv_at hl 1 rfl) ?_
    refine lv_aload_n hx hb dX3_measureGap_13 rfl (lv_at hl 0 rfl) ?_
    refine va_get (D := (dC, dI)) (ci := 3) (v := .ref h_t_second) (C := RX3) (T := TX3) (N := 13) hx hb hts in_X3 hown hK hP 0 rfl rfl 1 (Nat.le_of_ble_eq_true rfl) (hts _ qf_X3_16) (fun _ h9 => h9) rfl dX3_measureGap_14 ?_
    refine va_get (D := (dC, dI)) (ci := 2) (v := .int t_second_size) (C := RX2) (T := TX2) (N := 5) hx hb hts in_X2 hown hK hP 4 rfl rfl 4 (Nat.le_of_ble_eq_true rfl) (hts _ qf_X3_66) (fun _ h9 => h9) rfl dX3_measureGap_17 ?_
    refine lv_icmp_ge (tgt := 63) hx hb dX3_measureGap_20 (by decide) (fun hc => ?_) (fun hc => ?_)
    · replace hf := it_t (hc) hf
      obtain ⟨rfl, rfl, rfl, rfl, rfl, rfl, rfl, rfl, rfl, rfl, rfl⟩ := o11 hf
      exact hk H locs ls hP hD hS (lv_sub hl [0] rfl)
    · replace hf := it_f (hc) hf
      refine lv_aload_n hx hb dX3_measureGap_23 rfl (lv_at hl 0 rfl) ?_
      refine va_get (D := (dC, dI)) (ci := 3) (v := .ref h_t_near) (C := RX3) (T := TX3) (N := 13) hx hb hts in_X3 hown hK hP 0 rfl rfl 8 (Nat.le_of_ble_eq_true rfl) (hts _ qf_X3_32) (fun _ h9 => h9) rfl dX3_measureGap_24 ?_
      refine lv_aload_n hx hb dX3_measureGap_27 rfl (lv_at hl 0 rfl) ?_
      refine va_get (D := (dC, dI)) (ci := 3) (v := .ref h_t_first) (C := RX3) (T := TX3) (N := 13) hx hb hts in_X3 hown hK hP 0 rfl rfl 0 (Nat.le_of_ble_eq_true rfl) (hts _ qf_X3_10) (fun _ h9 => h9) rfl dX3_measureGap_28 ?_
      refine lv_aload_n hx hb dX3_measureGap_31 rfl (lv_at hl 0 rfl) ?_
      refine va_get (D := (dC, dI)) (ci := 3) (v := .ref h_t_second) (C := RX3) (T := TX3) (N := 13) hx hb hts in_X3 hown hK hP 0 rfl rfl 1 (Nat.le_of_ble_eq_true rfl) (hts _ qf_X3_16) (fun _ h9 => h9) rfl dX3_measureGap_32 ?_
      refine va_get (D := (dC, dI)) (ci := 2) (v := .ref h_t_second_x) (C := RX2) (T := TX2) (N := 5) hx hb hts in_X2 hown hK hP 4 rfl rfl 1 (Nat.le_of_ble_eq_true rfl) (hts _ qf_X3_70) (fun _ h9 => h9) rfl dX3_measureGap_35 ?_
      refine lv_iload_n hx hb dX3_measureGap_38 rfl (lv_at hl 1 rfl) ?_
      obtain ⟨hg_1, hf⟩ := gd_some hf
      refine va_iald hx hb hK hP 5 0 rfl rfl (inb_in hg_1) dX3_measureGap_39 ?_
      refine lv_aload_n hx hb dX3_measureGap_40 rfl (lv_at hl 0 rfl) ?_
      refine va_get (D := (dC, dI)) (ci := 3) (v := .ref h_t_second) (C := RX3) (T := TX3) (N := 13) hx hb hts in_X3 hown hK hP 0 rfl rfl 1 (Nat.le_of_ble_eq_true rfl) (hts _ qf_X3_16) (fun _ h9 => h9) rfl dX3_measureGap_41 ?_
      refine va_get (D := (dC, dI)) (ci := 2) (v := .ref h_t_second_y) (C := RX2) (T := TX2) (N := 5) hx hb hts in_X2 hown hK hP 4 rfl rfl 2 (Nat.le_of_ble_eq_true rfl) (hts _ qf_X3_74) (fun _ h9 => h9) rfl dX3_measureGap_44 ?_
      refine lv_iload_n hx hb dX3_measureGap_47 rfl (lv_at hl 1 rfl) ?_
      obtain ⟨hg_2, hf⟩ := gd_some hf
      refine va_iald hx hb hK hP 6 0 rfl rfl (inb_in hg_2) dX3_measureGap_48 ?_
      obtain ⟨t_near_x_3, t_near_y_4, t_near_lower_5, t_near_square_6, t_near_squareLower_7, t_near_fromX_8, t_near_fromY_9, hq_10, hf⟩ := b7_some hf
      refine xcv (wr := [(h_t, .inr (3, [.ref h_t_first, .ref h_t_second, .ref h_t_third, .ref h_t_place, .long t_gapSquare, .long t_gapLower, .long t_gapX, .long t_gapY, .ref h_t_near, .int t_threefold, .long t_leastX, .long t_leastY, .long t_leastLower])), (h_t_second, .inr (2, [.ref h_t_second_chain, .ref h_t_second_x, .ref h_t_second_y, .ref h_t_second_sorted, .int t_second_size])), (h_t_second_x, .inl (cI, 48, .inl t_second_x)), (h_t_second_y, .inl (cI, 48, .inl t_second_y))]) (w2 := [(h_t, .inr (3, [.ref h_t_first, .ref h_t_second, .ref h_t_third, .ref h_t_place, .long t_gapSquare, .long t_gapLower, .long t_gapX, .long t_gapY, .ref h_t_near, .int t_threefold, .long t_leastX, .long t_leastY, .long t_leastLower])), (h_t_first, .inr (2, [.ref h_t_first_chain, .ref h_t_first_x, .ref h_t_first_y, .ref h_t_first_sorted, .int t_first_size])), (h_t_first_x, .inl (cI, 48, .inl t_first_x)), (h_t_first_y, .inl (cI, 48, .inl t_first_y)), (h_t_second, .inr (2, [.ref h_t_second_chain, .ref h_t_second_x, .ref h_t_second_y, .ref h_t_second_sorted, .int t_second_size])), (h_t_second_x, .inl (cI, 48, .inl t_second_x)), (h_t_second_y, .inl (cI, 48, .inl t_second_y)), (h_t_near, .inr (4, [.long t_near_x_3, .long t_near_y_4, .long t_near_lower_5, .long t_near_square_6, .long t_near_squareLower_7, .int t_near_fromX_8, .int t_near_fromY_9]))]) (va_runV (As := [.ref h_t_first, .int (t_second_x l1.toNatClampNeg), .int (t_second_y l1.toNatClampNeg)]) (rest := []) ⟨hx, hb, hml, hown, hts⟩ (mtX4_findOnHull l dC dI cI cL cB K h_t_near h_t_first h_t_first_chain h_t_first_x h_t_first_y h_t_first_sorted H.size t_near_x t_near_y t_near_lower t_near_square t_near_squareLower t_near_fromX t_near_fromY t_first_size t_first_x t_first_y (t_second_x l1.toNatClampNeg) (t_second_y l1.toNatClampNeg) t_near_x_3 t_near_y_4 t_near_lower_5 t_near_square_6 t_near_squareLower_7 t_near_fromX_8 t_near_fromY_9 hq_10) (cwV 3 hts gv_X3_90 rfl rfl rfl hdV_X4_findOnHull ⟨Nat.le_trans (Nat.le_of_ble_eq_true rfl) hF, Nat.le_trans (Nat.le_of_ble_eq_true rfl) hLo⟩) (cPreV hK hP hD hT [7, 1, 2, 3] rfl rfl (ci := 4) (q0 := 0) rfl rfl) rfl rfl hl.1 rfl (lv_room (Nat.le_of_ble_eq_true rfl)) dX3_measureGap_49 ⟨Nat.zero_le _, Nat.zero_le _⟩) hP hD hS hA [7, 1, 2, 3] [0, 4, 5, 6] [0, 5, 6, 7, 1, 2, 3, 4] rfl rfl rfl rfl rfl rfl (fun H locs hP hD hS => ?_)
      refine lv_aload_n hx hb dX3_measureGap_52 rfl (lv_at hl 0 rfl) ?_
      refine lv_iconst (v := (-1 : Int32)) hx hb dX3_measureGap_53 (by decide) ?_
      obtain ⟨t_gapSquare_11, t_gapLower_12, t_gapX_13, t_gapY_14, hq_15, hf⟩ := b4_some hf
      refine xcv (wr := [(h_t_first, .inr (2, [.ref h_t_first_chain, .ref h_t_first_x, .ref h_t_first_y, .ref h_t_first_sorted, .int t_first_size])), (h_t_first_x, .inl (cI, 48, .inl t_first_x)), (h_t_first_y, .inl (cI, 48, .inl t_first_y)), (h_t_second, .inr (2, [.ref h_t_second_chain, .ref h_t_second_x, .ref h_t_second_y, .ref h_t_second_sorted, .int t_second_size])), (h_t_second_x, .inl (cI, 48, .inl t_second_x)), (h_t_second_y, .inl (cI, 48, .inl t_second_y))]) (w2 := [(h_t, .inr (3, [.ref h_t_first, .ref h_t_second, .ref h_t_third, .ref h_t_place, .long t_gapSquare_11, .long t_gapLower_12, .long t_gapX_13, .long t_gapY_14, .ref h_t_near, .int t_threefold, .long t_leastX, .long t_leastY, .long t_leastLower])), (h_t_first, .inr (2, [.ref h_t_first_chain, .ref h_t_first_x, .ref h_t_first_y, .ref h_t_first_sorted, .int t_first_size])), (h_t_first_x, .inl (cI, 48, .inl t_first_x)), (h_t_first_y, .inl (cI, 48, .inl t_first_y)), (h_t_second, .inr (2, [.ref h_t_second_chain, .ref h_t_second_x, .ref h_t_second_y, .ref h_t_second_sorted, .int t_second_size])), (h_t_second_x, .inl (cI, 48, .inl t_second_x)), (h_t_second_y, .inl (cI, 48, .inl t_second_y)), (h_t_near, .inr (4, [.long t_near_x_3, .long t_near_y_4, .long t_near_lower_5, .long t_near_square_6, .long t_near_squareLower_7, .int t_near_fromX_8, .int t_near_fromY_9]))]) (va_runV (As := [.int (-1 : Int32)]) (rest := []) ⟨hx, hb, hml, hown, hts⟩ (mtX3_offerGap l dC dI cI cL cB K h_t h_t_first h_t_second h_t_third h_t_place h_t_near H.size t_gapSquare t_gapLower t_gapX t_gapY t_threefold t_leastX t_leastY t_leastLower t_near_x_3 t_near_y_4 t_near_lower_5 t_near_square_6 t_near_squareLower_7 t_near_fromX_8 t_near_fromY_9 (-1 : Int32) t_gapSquare_11 t_gapLower_12 t_gapX_13 t_gapY_14 hq_15) (cwV 1 hts gv_X3_94 rfl rfl rfl hdV_X3_offerGap ⟨Nat.le_trans (Nat.le_of_ble_eq_true rfl) hF, Nat.le_trans (Nat.le_of_ble_eq_true rfl) hLo⟩) (cPreV hK hP hD hT [0, 7] rfl rfl (ci := 3) (q0 := 0) rfl rfl) rfl rfl hl.1 rfl (lv_room (Nat.le_of_ble_eq_true rfl)) dX3_measureGap_54 ⟨Nat.zero_le _, Nat.zero_le _⟩) hP hD hS hA [0, 7] [1, 2, 3, 4, 5, 6] [6, 0, 1, 2, 3, 4, 5, 7] rfl rfl rfl rfl rfl rfl (fun H locs hP hD hS => ?_)
      obtain ⟨l1_16, el1_16⟩ : ∃ y : Int32, y = l1 + (1 : Int32) := ⟨_, rfl⟩
      replace hf := xl_at hf el1_16
      refine lv_iinc (v := l1_16) (lv' := [(1, .int l1_16), (0, .ref h_t)]) hx hb dX3_measureGap_57 hl (k := 1) rfl (by rw [el1_16]; rfl) (Nat.le_of_ble_eq_true rfl) rfl (fun ls hl => ?_)
      refine lv_goto (tgt := 12) hx hb dX3_measureGap_60 (by decide) ?_
      exact ih l1_16 t_gapSquare_11 t_gapLower_12 t_gapX_13 t_gapY_14 t_near_x_3 t_near_y_4 t_near_lower_5 t_near_square_6 t_near_squareLower_7 t_near_fromX_8 t_near_fromY_9 _ _ _ _ _ _ _ _ _ _ _ H locs ls hP hD hS (lv_sub hl [1, 0] rfl) hf hk
set_option maxRecDepth 100000 in
set_option maxHeartbeats 4000000 in
theorem wX3_measureGap_L65 {p : Program} {l : Launch} {e : Env} {R : Room} {s : State} {m : MethodId} {args : Array Value} {below : List Frame} {meth : Method} {c : Code} {Q : State → Prop} {A : Nat → Prop} {dC : Nat → ClassId} {dI : Nat → Nat → Nat} {cI cL cB : ClassId} {K : Nat} (C0 : Sx p R s m args c cX3_measureGap 5 RX3 A dC dI cI cL cB 3 88) (h_t h_t_first h_t_second h_t_third h_t_place h_t_near h_t_first_chain h_t_first_x h_t_first_y h_t_first_sorted h_t_second_chain h_t_second_x h_t_second_y h_t_second_sorted : Nat) (t_threefold : Int32) (t_leastX : Int64) (t_leastY : Int64) (t_leastLower : Int64) (t_first_size : Int32) (t_first_x : Nat → Int32) (t_first_y : Nat → Int32) (t_second_size : Int32) (t_second_x : Nat → Int32) (t_second_y : Nat → Int32) : ∀ (n : Nat) (l1 : Int32) (t_gapSquare : Int64) (t_gapLower : Int64) (t_gapX : Int64) (t_gapY : Int64) (t_near_x : Int64) (t_near_y : Int64) (t_near_lower : Int64) (t_near_square : Int64) (t_near_squareLower : Int64) (t_near_fromX : Int32) (t_near_fromY : Int32) (x_t_gapSquare : Int64) (x_t_gapLower : Int64) (x_t_gapX : Int64) (x_t_gapY : Int64) (x_t_near_x : Int64) (x_t_near_y : Int64) (x_t_near_lower : Int64) (x_t_near_square : Int64) (x_t_near_squareLower : Int64) (x_t_near_fromX : Int32) (x_t_near_fromY : Int32) (H : Heap) (locs : List Loc) (ls : Array Slot), va_P (dC, dI) vwCl [(h_t, .inr (3, [.ref h_t_first, .ref h_t_second, .ref h_t_third, .ref h_t_place, .long t_gapSquare, .long t_gapLower, .long t_gapX, .long t_gapY, .ref h_t_near, .int t_threefold, .long t_leastX, .long t_leastY, .long t_leastLower])), (h_t_first, .inr (2, [.ref h_t_first_chain, .ref h_t_first_x, .ref h_t_first_y, .ref h_t_first_sorted, .int t_first_size])), (h_t_first_x, .inl (cI, 48, .inl t_first_x)), (h_t_first_y, .inl (cI, 48, .inl t_first_y)), (h_t_second, .inr (2, [.ref h_t_second_chain, .ref h_t_second_x, .ref h_t_second_y, .ref h_t_second_sorted, .int t_second_size])), (h_t_second_x, .inl (cI, 48, .inl t_second_x)), (h_t_second_y, .inl (cI, 48, .inl t_second_y)), (h_t_near, .inr (4, [.long t_near_x, .long t_near_y, .long t_near_lower, .long t_near_square, .long t_near_squareLower, .int t_near_fromX, .int t_near_fromY]))] H → va_D A [(h_t, .inr (3, [.ref h_t_first, .ref h_t_second, .ref h_t_third, .ref h_t_place, .long t_gapSquare, .long t_gapLower, .long t_gapX, .long t_gapY, .ref h_t_near, .int t_threefold, .long t_leastX, .long t_leastY, .long t_leastLower])), (h_t_first, .inr (2, [.ref h_t_first_chain, .ref h_t_first_x, .ref h_t_first_y, .ref h_t_first_sorted, .int t_first_size])), (h_t_first_x, .inl (cI, 48, .inl t_first_x)), (h_t_first_y, .inl (cI, 48, .inl t_first_y)), (h_t_second, .inr (2, [.ref h_t_second_chain, .ref h_t_second_x, .ref h_t_second_y, .ref h_t_second_sorted, .int t_second_size])), (h_t_second_x, .inl (cI, 48, .inl t_second_x)), (h_t_second_y, .inl (cI, 48, .inl t_second_y)), (h_t_near, .inr (4, [.long t_near_x, .long t_near_y, .long t_near_lower, .long t_near_square, .long t_near_squareLower, .int t_near_fromX, .int t_near_fromY]))] → va_S A s.heap H locs → lv_has ls 5 [(0, .ref h_t), (1, .int l1)] → fX3_measureGap_L65 K t_first_size t_first_x t_first_y t_second_size t_second_x t_second_y n l1 t_gapSquare t_gapLower t_gapX t_gapY t_near_x t_near_y t_near_lower t_near_square t_near_squareLower t_near_fromX t_near_fromY = some (x_t_gapSquare, x_t_gapLower, x_t_gapX, x_t_gapY, x_t_near_x, x_t_near_y, x_t_near_lower, x_t_near_square, x_t_near_squareLower, x_t_near_fromX, x_t_near_fromY) → (∀ (H : Heap) (locs : List Loc) (ls : Array Slot), va_P (dC, dI) vwCl [(h_t, .inr (3, [.ref h_t_first, .ref h_t_second, .ref h_t_third, .ref h_t_place, .long x_t_gapSquare, .long x_t_gapLower, .long x_t_gapX, .long x_t_gapY, .ref h_t_near, .int t_threefold, .long t_leastX, .long t_leastY, .long t_leastLower])), (h_t_first, .inr (2, [.ref h_t_first_chain, .ref h_t_first_x, .ref h_t_first_y, .ref h_t_first_sorted, .int t_first_size])), (h_t_first_x, .inl (cI, 48, .inl t_first_x)), (h_t_first_y, .inl (cI, 48, .inl t_first_y)), (h_t_second, .inr (2, [.ref h_t_second_chain, .ref h_t_second_x, .ref h_t_second_y, .ref h_t_second_sorted, .int t_second_size])), (h_t_second_x, .inl (cI, 48, .inl t_second_x)), (h_t_second_y, .inl (cI, 48, .inl t_second_y)), (h_t_near, .inr (4, [.long x_t_near_x, .long x_t_near_y, .long x_t_near_lower, .long x_t_near_square, .long x_t_near_squareLower, .int x_t_near_fromX, .int x_t_near_fromY]))] H → va_D A [(h_t, .inr (3, [.ref h_t_first, .ref h_t_second, .ref h_t_third, .ref h_t_place, .long x_t_gapSquare, .long x_t_gapLower, .long x_t_gapX, .long x_t_gapY, .ref h_t_near, .int t_threefold, .long t_leastX, .long t_leastY, .long t_leastLower])), (h_t_first, .inr (2, [.ref h_t_first_chain, .ref h_t_first_x, .ref h_t_first_y, .ref h_t_first_sorted, .int t_first_size])), (h_t_first_x, .inl (cI, 48, .inl t_first_x)), (h_t_first_y, .inl (cI, 48, .inl t_first_y)), (h_t_second, .inr (2, [.ref h_t_second_chain, .ref h_t_second_x, .ref h_t_second_y, .ref h_t_second_sorted, .int t_second_size])), (h_t_second_x, .inl (cI, 48, .inl t_second_x)), (h_t_second_y, .inl (cI, 48, .inl t_second_y)), (h_t_near, .inr (4, [.long x_t_near_x, .long x_t_near_y, .long x_t_near_lower, .long x_t_near_square, .long x_t_near_squareLower, .int x_t_near_fromX, .int x_t_near_fromY]))] → va_S A s.heap H locs → lv_has ls 5 [(0, .ref h_t)] → W p l e R s m args below meth c H locs 0 0 Q (F0 m 116 ls [])) → W p l e R s m args below meth c H locs 0 0 Q (F0 m 65 ls []) := by
  obtain ⟨hx, hb, hml, hown, hts, hK, hT, hA, hF, hLo⟩ := id C0
  intro n
  induction n with
  | zero =>
    intro l1 t_gapSquare t_gapLower t_gapX t_gapY t_near_x t_near_y t_near_lower t_near_square t_near_squareLower t_near_fromX t_near_fromY x_t_gapSquare x_t_gapLower x_t_gapX x_t_gapY x_t_near_x x_t_near_y x_t_near_lower x_t_near_square x_t_near_squareLower x_t_near_fromX x_t_near_fromY H locs ls hP hD hS hl hf
    rw [fX3_measureGap_L65] at hf
    cases hf
  | succ n ih =>
    intro l1 t_gapSquare t_gapLower t_gapX t_gapY t_near_x t_near_y t_near_lower t_near_square t_near_squareLower t_near_fromX t_near_fromY x_t_gapSquare x_t_gapLower x_t_gapX x_t_gapY x_t_near_x x_t_near_y x_t_near_lower x_t_near_square x_t_near_squareLower x_t_near_fromX x_t_near_fromY H locs ls hP hD hS hl hf hk
    rw [fX3_measureGap_L65] at hf
    refine lv_iload_n hx hb dX3_measureGap_65 rfl (lv_at hl 1 rfl) ?_
    refine lv_aload_n hx hb dX3_measureGap_66 rfl (lv_at hl 0 rfl) ?_
    refine va_get (D := (dC, dI)) (ci := 3) (v := .ref h_t_first) (C := RX3) (T := TX3) (N := 13) hx hb hts in_X3 hown hK hP 0 rfl rfl 0 (Nat.le_of_ble_eq_true rfl) (hts _ qf_X3_10) (fun _ h9 => h9) rfl dX3_measureGap_67 ?_
    refine va_get (D := (dC, dI)) (ci := 2) (v := .int t_first_size) (C := RX2) (T := TX2) (N := 5) hx hb hts in_X2 hown hK hP 1 rfl rfl 4 (Nat.le_of_ble_eq_true rfl) (hts _ qf_X3_66) (fun _ h9 => h9) rfl dX3_measureGap_70 ?_
    refine lv_icmp_ge (tgt := 116) hx hb dX3_measureGap_73 (by decide) (fun hc => ?_) (fun hc => ?_)
    · replace hf := it_t (hc) hf
      obtain ⟨rfl, rfl, rfl, rfl, rfl, rfl, rfl, rfl, rfl, rfl, rfl⟩ := o11 hf
      exact hk H locs ls hP hD hS (lv_sub hl [0] rfl)
    · replace hf := it_f (hc) hf
      refine lv_aload_n hx hb dX3_measureGap_76 rfl (lv_at hl 0 rfl) ?_
      refine va_get (D := (dC, dI)) (ci := 3) (v := .ref h_t_near) (C := RX3) (T := TX3) (N := 13) hx hb hts in_X3 hown hK hP 0 rfl rfl 8 (Nat.le_of_ble_eq_true rfl) (hts _ qf_X3_32) (fun _ h9 => h9) rfl dX3_measureGap_77 ?_
      refine lv_aload_n hx hb dX3_measureGap_80 rfl (lv_at hl 0 rfl) ?_
      refine va_get (D := (dC, dI)) (ci := 3) (v := .ref h_t_second) (C := RX3) (T := TX3) (N := 13) hx hb hts in_X3 hown hK hP 0 rfl rfl 1 (Nat.le_of_ble_eq_true rfl) (hts _ qf_X3_16) (fun _ h9 => h9) rfl dX3_measureGap_81 ?_
      refine lv_aload_n hx hb dX3_measureGap_84 rfl (lv_at hl 0 rfl) ?_
      refine va_get (D := (dC, dI)) (ci := 3) (v := .ref h_t_first) (C := RX3) (T := TX3) (N := 13) hx hb hts in_X3 hown hK hP 0 rfl rfl 0 (Nat.le_of_ble_eq_true rfl) (hts _ qf_X3_10) (fun _ h9 => h9) rfl dX3_measureGap_85 ?_
      refine va_get (D := (dC, dI)) (ci := 2) (v := .ref h_t_first_x) (C := RX2) (T := TX2) (N := 5) hx hb hts in_X2 hown hK hP 1 rfl rfl 1 (Nat.le_of_ble_eq_true rfl) (hts _ qf_X3_70) (fun _ h9 => h9) rfl dX3_measureGap_88 ?_
      refine lv_iload_n hx hb dX3_measureGap_91 rfl (lv_at hl 1 rfl) ?_
      obtain ⟨hg_29, hf⟩ := gd_some hf
      refine va_iald hx hb hK hP 2 0 rfl rfl (inb_in hg_29) dX3_measureGap_92 ?_
      refine lv_aload_n hx hb dX3_measureGap_93 rfl (lv_at hl 0 rfl) ?_
      refine va_get (D := (dC, dI)) (ci := 3) (v := .ref h_t_first) (C := RX3) (T := TX3) (N := 13) hx hb hts in_X3 hown hK hP 0 rfl rfl 0 (Nat.le_of_ble_eq_true rfl) (hts _ qf_X3_10) (fun _ h9 => h9) rfl dX3_measureGap_94 ?_
      refine va_get (D := (dC, dI)) (ci := 2) (v := .ref h_t_first_y) (C := RX2) (T := TX2) (N := 5) hx hb hts in_X2 hown hK hP 1 rfl rfl 2 (Nat.le_of_ble_eq_true rfl) (hts _ qf_X3_74) (fun _ h9 => h9) rfl dX3_measureGap_97 ?_
      refine lv_iload_n hx hb dX3_measureGap_100 rfl (lv_at hl 1 rfl) ?_
      obtain ⟨hg_30, hf⟩ := gd_some hf
      refine va_iald hx hb hK hP 3 0 rfl rfl (inb_in hg_30) dX3_measureGap_101 ?_
      obtain ⟨t_near_x_31, t_near_y_32, t_near_lower_33, t_near_square_34, t_near_squareLower_35, t_near_fromX_36, t_near_fromY_37, hq_38, hf⟩ := b7_some hf
      refine xcv (wr := [(h_t, .inr (3, [.ref h_t_first, .ref h_t_second, .ref h_t_third, .ref h_t_place, .long t_gapSquare, .long t_gapLower, .long t_gapX, .long t_gapY, .ref h_t_near, .int t_threefold, .long t_leastX, .long t_leastY, .long t_leastLower])), (h_t_first, .inr (2, [.ref h_t_first_chain, .ref h_t_first_x, .ref h_t_first_y, .ref h_t_first_sorted, .int t_first_size])), (h_t_first_x, .inl (cI, 48, .inl t_first_x)), (h_t_first_y, .inl (cI, 48, .inl t_first_y))]) (w2 := [(h_t, .inr (3, [.ref h_t_first, .ref h_t_second, .ref h_t_third, .ref h_t_place, .long t_gapSquare, .long t_gapLower, .long t_gapX, .long t_gapY, .ref h_t_near, .int t_threefold, .long t_leastX, .long t_leastY, .long t_leastLower])), (h_t_first, .inr (2, [.ref h_t_first_chain, .ref h_t_first_x, .ref h_t_first_y, .ref h_t_first_sorted, .int t_first_size])), (h_t_first_x, .inl (cI, 48, .inl t_first_x)), (h_t_first_y, .inl (cI, 48, .inl t_first_y)), (h_t_second, .inr (2, [.ref h_t_second_chain, .ref h_t_second_x, .ref h_t_second_y, .ref h_t_second_sorted, .int t_second_size])), (h_t_second_x, .inl (cI, 48, .inl t_second_x)), (h_t_second_y, .inl (cI, 48, .inl t_second_y)), (h_t_near, .inr (4, [.long t_near_x_31, .long t_near_y_32, .long t_near_lower_33, .long t_near_square_34, .long t_near_squareLower_35, .int t_near_fromX_36, .int t_near_fromY_37]))]) (va_runV (As := [.ref h_t_second, .int (t_first_x l1.toNatClampNeg), .int (t_first_y l1.toNatClampNeg)]) (rest := []) ⟨hx, hb, hml, hown, hts⟩ (mtX4_findOnHull l dC dI cI cL cB K h_t_near h_t_second h_t_second_chain h_t_second_x h_t_second_y h_t_second_sorted H.size t_near_x t_near_y t_near_lower t_near_square t_near_squareLower t_near_fromX t_near_fromY t_second_size t_second_x t_second_y (t_first_x l1.toNatClampNeg) (t_first_y l1.toNatClampNeg) t_near_x_31 t_near_y_32 t_near_lower_33 t_near_square_34 t_near_squareLower_35 t_near_fromX_36 t_near_fromY_37 hq_38) (cwV 3 hts gv_X3_90 rfl rfl rfl hdV_X4_findOnHull ⟨Nat.le_trans (Nat.le_of_ble_eq_true rfl) hF, Nat.le_trans (Nat.le_of_ble_eq_true rfl) hLo⟩) (cPreV hK hP hD hT [7, 4, 5, 6] rfl rfl (ci := 4) (q0 := 0) rfl rfl) rfl rfl hl.1 rfl (lv_room (Nat.le_of_ble_eq_true rfl)) dX3_measureGap_102 ⟨Nat.zero_le _, Nat.zero_le _⟩) hP hD hS hA [7, 4, 5, 6] [0, 1, 2, 3] [0, 1, 2, 3, 5, 6, 7, 4] rfl rfl rfl rfl rfl rfl (fun H locs hP hD hS => ?_)
      refine lv_aload_n hx hb dX3_measureGap_105 rfl (lv_at hl 0 rfl) ?_
      refine lv_iconst (v := (1 : Int32)) hx hb dX3_measureGap_106 (by decide) ?_
      obtain ⟨t_gapSquare_39, t_gapLower_40, t_gapX_41, t_gapY_42, hq_43, hf⟩ := b4_some hf
      refine xcv (wr := [(h_t_first, .inr (2, [.ref h_t_first_chain, .ref h_t_first_x, .ref h_t_first_y, .ref h_t_first_sorted, .int t_first_size])), (h_t_first_x, .inl (cI, 48, .inl t_first_x)), (h_t_first_y, .inl (cI, 48, .inl t_first_y)), (h_t_second, .inr (2, [.ref h_t_second_chain, .ref h_t_second_x, .ref h_t_second_y, .ref h_t_second_sorted, .int t_second_size])), (h_t_second_x, .inl (cI, 48, .inl t_second_x)), (h_t_second_y, .inl (cI, 48, .inl t_second_y))]) (w2 := [(h_t, .inr (3, [.ref h_t_first, .ref h_t_second, .ref h_t_third, .ref h_t_place, .long t_gapSquare_39, .long t_gapLower_40, .long t_gapX_41, .long t_gapY_42, .ref h_t_near, .int t_threefold, .long t_leastX, .long t_leastY, .long t_leastLower])), (h_t_first, .inr (2, [.ref h_t_first_chain, .ref h_t_first_x, .ref h_t_first_y, .ref h_t_first_sorted, .int t_first_size])), (h_t_first_x, .inl (cI, 48, .inl t_first_x)), (h_t_first_y, .inl (cI, 48, .inl t_first_y)), (h_t_second, .inr (2, [.ref h_t_second_chain, .ref h_t_second_x, .ref h_t_second_y, .ref h_t_second_sorted, .int t_second_size])), (h_t_second_x, .inl (cI, 48, .inl t_second_x)), (h_t_second_y, .inl (cI, 48, .inl t_second_y)), (h_t_near, .inr (4, [.long t_near_x_31, .long t_near_y_32, .long t_near_lower_33, .long t_near_square_34, .long t_near_squareLower_35, .int t_near_fromX_36, .int t_near_fromY_37]))]) (va_runV (As := [.int (1 : Int32)]) (rest := []) ⟨hx, hb, hml, hown, hts⟩ (mtX3_offerGap l dC dI cI cL cB K h_t h_t_first h_t_second h_t_third h_t_place h_t_near H.size t_gapSquare t_gapLower t_gapX t_gapY t_threefold t_leastX t_leastY t_leastLower t_near_x_31 t_near_y_32 t_near_lower_33 t_near_square_34 t_near_squareLower_35 t_near_fromX_36 t_near_fromY_37 (1 : Int32) t_gapSquare_39 t_gapLower_40 t_gapX_41 t_gapY_42 hq_43) (cwV 1 hts gv_X3_94 rfl rfl rfl hdV_X3_offerGap ⟨Nat.le_trans (Nat.le_of_ble_eq_true rfl) hF, Nat.le_trans (Nat.le_of_ble_eq_true rfl) hLo⟩) (cPreV hK hP hD hT [0, 7] rfl rfl (ci := 3) (q0 := 0) rfl rfl) rfl rfl hl.1 rfl (lv_room (Nat.le_of_ble_eq_true rfl)) dX3_measureGap_107 ⟨Nat.zero_le _, Nat.zero_le _⟩) hP hD hS hA [0, 7] [1, 2, 3, 4, 5, 6] [6, 0, 1, 2, 3, 4, 5, 7] rfl rfl rfl rfl rfl rfl (fun H locs hP hD hS => ?_)
      obtain ⟨l1_44, el1_44⟩ : ∃ y : Int32, y = l1 + (1 : Int32) := ⟨_, rfl⟩
      replace hf := xl_at hf el1_44
      refine lv_iinc (v := l1_44) (lv' := [(1, .int l1_44), (0, .ref h_t)]) hx hb dX3_measureGap_110 hl (k := 1) rfl (by rw [el1_44]; rfl) (Nat.le_of_ble_eq_true rfl) rfl (fun ls hl => ?_)
      refine lv_goto (tgt := 65) hx hb dX3_measureGap_113 (by decide) ?_
      exact ih l1_44 t_gapSquare_39 t_gapLower_40 t_gapX_41 t_gapY_42 t_near_x_31 t_near_y_32 t_near_lower_33 t_near_square_34 t_near_squareLower_35 t_near_fromX_36 t_near_fromY_37 _ _ _ _ _ _ _ _ _ _ _ H locs ls hP hD hS (lv_sub hl [1, 0] rfl) hf hk
set_option maxRecDepth 100000 in
set_option maxHeartbeats 4000000 in
theorem mtX3_measureGap (l : Launch) (dC : Nat → ClassId) (dI : Nat → Nat → Nat) (cI cL cB : ClassId) (K : Nat) (h_t h_t_first h_t_second h_t_third h_t_place h_t_near h_t_first_chain h_t_first_x h_t_first_y h_t_first_sorted h_t_second_chain h_t_second_x h_t_second_y h_t_second_sorted : Nat) (sz : Nat) (t_gapSquare : Int64) (t_gapLower : Int64) (t_gapX : Int64) (t_gapY : Int64) (t_threefold : Int32) (t_leastX : Int64) (t_leastY : Int64) (t_leastLower : Int64) (t_first_size : Int32) (t_first_x : Nat → Int32) (t_first_y : Nat → Int32) (t_second_size : Int32) (t_second_x : Nat → Int32) (t_second_y : Nat → Int32) (t_near_x : Int64) (t_near_y : Int64) (t_near_lower : Int64) (t_near_square : Int64) (t_near_squareLower : Int64) (t_near_fromX : Int32) (t_near_fromY : Int32) (o_r : Int32) (o_t_gapSquare : Int64) (o_t_gapLower : Int64) (o_t_gapX : Int64) (o_t_gapY : Int64) (o_t_near_x : Int64) (o_t_near_y : Int64) (o_t_near_lower : Int64) (o_t_near_square : Int64) (o_t_near_squareLower : Int64) (o_t_near_fromX : Int32) (o_t_near_fromY : Int32) (hf : fX3_measureGap K t_gapSquare t_gapLower t_gapX t_gapY t_first_size t_first_x t_first_y t_second_size t_second_x t_second_y t_near_x t_near_y t_near_lower t_near_square t_near_squareLower t_near_fromX t_near_fromY = some (o_r, o_t_gapSquare, o_t_gapLower, o_t_gapX, o_t_gapY, o_t_near_x, o_t_near_y, o_t_near_lower, o_t_near_square, o_t_near_squareLower, o_t_near_fromX, o_t_near_fromY)) : Met l yX3_measureGap [Cond.code yX3_measureGap cX3_measureGap 5 (some .boolean)] ({ frames := 3, cells := 0, slots := 0, locals := 88 }) (va_Pc [.ref h_t] (cPre dC dI cI cL cB sz [(h_t, .inr (3, [.ref h_t_first, .ref h_t_second, .ref h_t_third, .ref h_t_place, .long t_gapSquare, .long t_gapLower, .long t_gapX, .long t_gapY, .ref h_t_near, .int t_threefold, .long t_leastX, .long t_leastY, .long t_leastLower])), (h_t_first, .inr (2, [.ref h_t_first_chain, .ref h_t_first_x, .ref h_t_first_y, .ref h_t_first_sorted, .int t_first_size])), (h_t_first_x, .inl (cI, 48, .inl t_first_x)), (h_t_first_y, .inl (cI, 48, .inl t_first_y)), (h_t_second, .inr (2, [.ref h_t_second_chain, .ref h_t_second_x, .ref h_t_second_y, .ref h_t_second_sorted, .int t_second_size])), (h_t_second_x, .inl (cI, 48, .inl t_second_x)), (h_t_second_y, .inl (cI, 48, .inl t_second_y)), (h_t_near, .inr (4, [.long t_near_x, .long t_near_y, .long t_near_lower, .long t_near_square, .long t_near_squareLower, .int t_near_fromX, .int t_near_fromY]))])) (cQi dC dI (va_A [(h_t, .inr (3, [.ref h_t_first, .ref h_t_second, .ref h_t_third, .ref h_t_place, .long t_gapSquare, .long t_gapLower, .long t_gapX, .long t_gapY, .ref h_t_near, .int t_threefold, .long t_leastX, .long t_leastY, .long t_leastLower])), (h_t_first, .inr (2, [.ref h_t_first_chain, .ref h_t_first_x, .ref h_t_first_y, .ref h_t_first_sorted, .int t_first_size])), (h_t_first_x, .inl (cI, 48, .inl t_first_x)), (h_t_first_y, .inl (cI, 48, .inl t_first_y)), (h_t_second, .inr (2, [.ref h_t_second_chain, .ref h_t_second_x, .ref h_t_second_y, .ref h_t_second_sorted, .int t_second_size])), (h_t_second_x, .inl (cI, 48, .inl t_second_x)), (h_t_second_y, .inl (cI, 48, .inl t_second_y)), (h_t_near, .inr (4, [.long t_near_x, .long t_near_y, .long t_near_lower, .long t_near_square, .long t_near_squareLower, .int t_near_fromX, .int t_near_fromY]))] sz) o_r [(h_t, .inr (3, [.ref h_t_first, .ref h_t_second, .ref h_t_third, .ref h_t_place, .long o_t_gapSquare, .long o_t_gapLower, .long o_t_gapX, .long o_t_gapY, .ref h_t_near, .int t_threefold, .long t_leastX, .long t_leastY, .long t_leastLower])), (h_t_first, .inr (2, [.ref h_t_first_chain, .ref h_t_first_x, .ref h_t_first_y, .ref h_t_first_sorted, .int t_first_size])), (h_t_first_x, .inl (cI, 48, .inl t_first_x)), (h_t_first_y, .inl (cI, 48, .inl t_first_y)), (h_t_second, .inr (2, [.ref h_t_second_chain, .ref h_t_second_x, .ref h_t_second_y, .ref h_t_second_sorted, .int t_second_size])), (h_t_second_x, .inl (cI, 48, .inl t_second_x)), (h_t_second_y, .inl (cI, 48, .inl t_second_y)), (h_t_near, .inr (4, [.long o_t_near_x, .long o_t_near_y, .long o_t_near_lower, .long o_t_near_square, .long o_t_near_squareLower, .int o_t_near_fromX, .int o_t_near_fromY]))]) 0 0 (va_A [(h_t, .inr (3, [.ref h_t_first, .ref h_t_second, .ref h_t_third, .ref h_t_place, .long t_gapSquare, .long t_gapLower, .long t_gapX, .long t_gapY, .ref h_t_near, .int t_threefold, .long t_leastX, .long t_leastY, .long t_leastLower])), (h_t_first, .inr (2, [.ref h_t_first_chain, .ref h_t_first_x, .ref h_t_first_y, .ref h_t_first_sorted, .int t_first_size])), (h_t_first_x, .inl (cI, 48, .inl t_first_x)), (h_t_first_y, .inl (cI, 48, .inl t_first_y)), (h_t_second, .inr (2, [.ref h_t_second_chain, .ref h_t_second_x, .ref h_t_second_y, .ref h_t_second_sorted, .int t_second_size])), (h_t_second_x, .inl (cI, 48, .inl t_second_x)), (h_t_second_y, .inl (cI, 48, .inl t_second_y)), (h_t_near, .inr (4, [.long t_near_x, .long t_near_y, .long t_near_lower, .long t_near_square, .long t_near_squareLower, .int t_near_fromX, .int t_near_fromY]))] sz) := by
  refine Met.ofW (cc := cX3_measureGap) (maxL := 5) (ret := (some .boolean)) (by decide) rfl ?_
  intro p e s m args below meth c s₁ B hml hv
  obtain ⟨rfl, hsz, hP, hK, hD0, hT⟩ := hv
  have hx := B.exec
  have hb := B.bytes
  have hr := B.returns
  have hown : s.vm.findClass RX3 = some m.cls := findClass_of_methodNamed B.named
  have hlocks := B.notSynchronized
  have hts := TB.use hT ([.ref h_t] : List Value).toArray
  subst hsz
  have hD := hD0.self (sz := s.heap.size)
  generalize hAe : va_A [(h_t, .inr (3, [.ref h_t_first, .ref h_t_second, .ref h_t_third, .ref h_t_place, .long t_gapSquare, .long t_gapLower, .long t_gapX, .long t_gapY, .ref h_t_near, .int t_threefold, .long t_leastX, .long t_leastY, .long t_leastLower])), (h_t_first, .inr (2, [.ref h_t_first_chain, .ref h_t_first_x, .ref h_t_first_y, .ref h_t_first_sorted, .int t_first_size])), (h_t_first_x, .inl (cI, 48, .inl t_first_x)), (h_t_first_y, .inl (cI, 48, .inl t_first_y)), (h_t_second, .inr (2, [.ref h_t_second_chain, .ref h_t_second_x, .ref h_t_second_y, .ref h_t_second_sorted, .int t_second_size])), (h_t_second_x, .inl (cI, 48, .inl t_second_x)), (h_t_second_y, .inl (cI, 48, .inl t_second_y)), (h_t_near, .inr (4, [.long t_near_x, .long t_near_y, .long t_near_lower, .long t_near_square, .long t_near_squareLower, .int t_near_fromX, .int t_near_fromY]))] s.heap.size = A at hD ⊢
  have hA : ∀ q : Nat, s.heap.size ≤ q → A q := fun q h => by rw [← hAe]; exact Or.inr h
  clear hAe hD0
  have hl := lv_entry ([.ref h_t]) (n := 5) (Nat.le_of_ble_eq_true rfl)
  rw [lg_entry_eq]
  generalize (lg_sl ([.ref h_t]) ++ List.replicate (5 - (lg_sl ([.ref h_t])).length) Slot.unset).toArray = ls at hl ⊢
  have hl : lv_has ls 5 [(0, .ref h_t)] := hl
  have hF : 3 ≤ (headSpec [Cond.code yX3_measureGap cX3_measureGap 5 (some .boolean)] ({ frames := 3, cells := 0, slots := 0, locals := 88 })).room.frames := Nat.le_refl _
  have hLo : 88 ≤ (headSpec [Cond.code yX3_measureGap cX3_measureGap 5 (some .boolean)] ({ frames := 3, cells := 0, slots := 0, locals := 88 })).room.locals := Nat.le_refl _
  have C0 : Sx p (headSpec [Cond.code yX3_measureGap cX3_measureGap 5 (some .boolean)] ({ frames := 3, cells := 0, slots := 0, locals := 88 })).room s m ([.ref h_t] : List Value).toArray c cX3_measureGap 5 RX3 A dC dI cI cL cB 3 88 := ⟨hx, hb, hml, hown, hts, hK, hT, hA, hF, hLo⟩
  refine startH (A := A) hP (fun H locs hP hS => ?_)
  rw [fX3_measureGap] at hf
  refine lv_aload_n hx hb dX3_measureGap_0 rfl (lv_at hl 0 rfl) ?_
  refine lv_lconst (v := (0 : Int64)) hx hb dX3_measureGap_1 (by decide) ?_
  refine xput (D := (dC, dI)) (ci := 3) (v := .long (0 : Int64)) (C := RX3) (T := TX3) (N := 13) (w2 := [(h_t, .inr (3, [.ref h_t_first, .ref h_t_second, .ref h_t_third, .ref h_t_place, .long (0 : Int64), .long t_gapLower, .long t_gapX, .long t_gapY, .ref h_t_near, .int t_threefold, .long t_leastX, .long t_leastY, .long t_leastLower])), (h_t_first, .inr (2, [.ref h_t_first_chain, .ref h_t_first_x, .ref h_t_first_y, .ref h_t_first_sorted, .int t_first_size])), (h_t_first_x, .inl (cI, 48, .inl t_first_x)), (h_t_first_y, .inl (cI, 48, .inl t_first_y)), (h_t_second, .inr (2, [.ref h_t_second_chain, .ref h_t_second_x, .ref h_t_second_y, .ref h_t_second_sorted, .int t_second_size])), (h_t_second_x, .inl (cI, 48, .inl t_second_x)), (h_t_second_y, .inl (cI, 48, .inl t_second_y)), (h_t_near, .inr (4, [.long t_near_x, .long t_near_y, .long t_near_lower, .long t_near_square, .long t_near_squareLower, .int t_near_fromX, .int t_near_fromY]))]) hx hb hts in_X3 tyX3 tyX3_ok nmX3 hown hK hP hD hS 0 rfl rfl 4 (Nat.le_of_ble_eq_true rfl) (hts _ qf_X3_84) (fun _ h9 => h9) rfl rfl rfl (Nat.le_of_ble_eq_true rfl) rfl dX3_measureGap_2 (fun H locs hP hD hS => ?_)
  refine lv_aload_n hx hb dX3_measureGap_5 rfl (lv_at hl 0 rfl) ?_
  refine lv_lconst (v := (0 : Int64)) hx hb dX3_measureGap_6 (by decide) ?_
  refine xput (D := (dC, dI)) (ci := 3) (v := .long (0 : Int64)) (C := RX3) (T := TX3) (N := 13) (w2 := [(h_t, .inr (3, [.ref h_t_first, .ref h_t_second, .ref h_t_third, .ref h_t_place, .long (0 : Int64), .long (0 : Int64), .long t_gapX, .long t_gapY, .ref h_t_near, .int t_threefold, .long t_leastX, .long t_leastY, .long t_leastLower])), (h_t_first, .inr (2, [.ref h_t_first_chain, .ref h_t_first_x, .ref h_t_first_y, .ref h_t_first_sorted, .int t_first_size])), (h_t_first_x, .inl (cI, 48, .inl t_first_x)), (h_t_first_y, .inl (cI, 48, .inl t_first_y)), (h_t_second, .inr (2, [.ref h_t_second_chain, .ref h_t_second_x, .ref h_t_second_y, .ref h_t_second_sorted, .int t_second_size])), (h_t_second_x, .inl (cI, 48, .inl t_second_x)), (h_t_second_y, .inl (cI, 48, .inl t_second_y)), (h_t_near, .inr (4, [.long t_near_x, .long t_near_y, .long t_near_lower, .long t_near_square, .long t_near_squareLower, .int t_near_fromX, .int t_near_fromY]))]) hx hb hts in_X3 tyX3 tyX3_ok nmX3 hown hK hP hD hS 0 rfl rfl 5 (Nat.le_of_ble_eq_true rfl) (hts _ qf_X3_87) (fun _ h9 => h9) rfl rfl rfl (Nat.le_of_ble_eq_true rfl) rfl dX3_measureGap_7 (fun H locs hP hD hS => ?_)
  refine lv_iconst (v := (0 : Int32)) hx hb dX3_measureGap_10 (by decide) ?_
  refine lv_istore_n (lv' := [(1, .int (0 : Int32)), (0, .ref h_t)]) hx hb dX3_measureGap_11 rfl hl (Nat.le_of_ble_eq_true rfl) rfl (fun ls hl => ?_)
  obtain ⟨t_gapSquare_18, t_gapLower_19, t_gapX_20, t_gapY_21, t_near_x_22, t_near_y_23, t_near_lower_24, t_near_square_25, t_near_squareLower_26, t_near_fromX_27, t_near_fromY_28, hq_17, hf⟩ := b11_some hf
  refine wX3_measureGap_L12 C0 h_t h_t_first h_t_second h_t_third h_t_place h_t_near h_t_first_chain h_t_first_x h_t_first_y h_t_first_sorted h_t_second_chain h_t_second_x h_t_second_y h_t_second_sorted t_threefold t_leastX t_leastY t_leastLower t_first_size t_first_x t_first_y t_second_size t_second_x t_second_y K (0 : Int32) (0 : Int64) (0 : Int64) t_gapX t_gapY t_near_x t_near_y t_near_lower t_near_square t_near_squareLower t_near_fromX t_near_fromY t_gapSquare_18 t_gapLower_19 t_gapX_20 t_gapY_21 t_near_x_22 t_near_y_23 t_near_lower_24 t_near_square_25 t_near_squareLower_26 t_near_fromX_27 t_near_fromY_28 H locs ls hP hD hS (lv_sub hl [1, 0] rfl) hq_17 ?_
  intro H locs ls hP hD hS hl
  refine lv_iconst (v := (0 : Int32)) hx hb dX3_measureGap_63 (by decide) ?_
  refine lv_istore_n (lv' := [(1, .int (0 : Int32)), (0, .ref h_t)]) hx hb dX3_measureGap_64 rfl hl (Nat.le_of_ble_eq_true rfl) rfl (fun ls hl => ?_)
  obtain ⟨t_gapSquare_46, t_gapLower_47, t_gapX_48, t_gapY_49, t_near_x_50, t_near_y_51, t_near_lower_52, t_near_square_53, t_near_squareLower_54, t_near_fromX_55, t_near_fromY_56, hq_45, hf⟩ := b11_some hf
  refine wX3_measureGap_L65 C0 h_t h_t_first h_t_second h_t_third h_t_place h_t_near h_t_first_chain h_t_first_x h_t_first_y h_t_first_sorted h_t_second_chain h_t_second_x h_t_second_y h_t_second_sorted t_threefold t_leastX t_leastY t_leastLower t_first_size t_first_x t_first_y t_second_size t_second_x t_second_y K (0 : Int32) t_gapSquare_18 t_gapLower_19 t_gapX_20 t_gapY_21 t_near_x_22 t_near_y_23 t_near_lower_24 t_near_square_25 t_near_squareLower_26 t_near_fromX_27 t_near_fromY_28 t_gapSquare_46 t_gapLower_47 t_gapX_48 t_gapY_49 t_near_x_50 t_near_y_51 t_near_lower_52 t_near_square_53 t_near_squareLower_54 t_near_fromX_55 t_near_fromY_56 H locs ls hP hD hS (lv_sub hl [1, 0] rfl) hq_45 ?_
  intro H locs ls hP hD hS hl
  refine lv_aload_n hx hb dX3_measureGap_116 rfl (lv_at hl 0 rfl) ?_
  refine va_get (D := (dC, dI)) (ci := 3) (v := .long t_gapX_48) (C := RX3) (T := TX3) (N := 13) hx hb hts in_X3 hown hK hP 0 rfl rfl 6 (Nat.le_of_ble_eq_true rfl) (hts _ qf_X3_98) (fun _ h9 => h9) rfl dX3_measureGap_117 ?_
  refine lv_aload_n hx hb dX3_measureGap_120 rfl (lv_at hl 0 rfl) ?_
  refine va_get (D := (dC, dI)) (ci := 3) (v := .long t_gapY_49) (C := RX3) (T := TX3) (N := 13) hx hb hts in_X3 hown hK hP 0 rfl rfl 7 (Nat.le_of_ble_eq_true rfl) (hts _ qf_X3_101) (fun _ h9 => h9) rfl dX3_measureGap_121 ?_
  obtain ⟨r_57, hq_58, hf⟩ := b1_some hf
  refine xcl (wr := [(h_t, .inr (3, [.ref h_t_first, .ref h_t_second, .ref h_t_third, .ref h_t_place, .long t_gapSquare_46, .long t_gapLower_47, .long t_gapX_48, .long t_gapY_49, .ref h_t_near, .int t_threefold, .long t_leastX, .long t_leastY, .long t_leastLower])), (h_t_first, .inr (2, [.ref h_t_first_chain, .ref h_t_first_x, .ref h_t_first_y, .ref h_t_first_sorted, .int t_first_size])), (h_t_first_x, .inl (cI, 48, .inl t_first_x)), (h_t_first_y, .inl (cI, 48, .inl t_first_y)), (h_t_second, .inr (2, [.ref h_t_second_chain, .ref h_t_second_x, .ref h_t_second_y, .ref h_t_second_sorted, .int t_second_size])), (h_t_second_x, .inl (cI, 48, .inl t_second_x)), (h_t_second_y, .inl (cI, 48, .inl t_second_y)), (h_t_near, .inr (4, [.long t_near_x_50, .long t_near_y_51, .long t_near_lower_52, .long t_near_square_53, .long t_near_squareLower_54, .int t_near_fromX_55, .int t_near_fromY_56]))]) (w2 := [(h_t, .inr (3, [.ref h_t_first, .ref h_t_second, .ref h_t_third, .ref h_t_place, .long t_gapSquare_46, .long t_gapLower_47, .long t_gapX_48, .long t_gapY_49, .ref h_t_near, .int t_threefold, .long t_leastX, .long t_leastY, .long t_leastLower])), (h_t_first, .inr (2, [.ref h_t_first_chain, .ref h_t_first_x, .ref h_t_first_y, .ref h_t_first_sorted, .int t_first_size])), (h_t_first_x, .inl (cI, 48, .inl t_first_x)), (h_t_first_y, .inl (cI, 48, .inl t_first_y)), (h_t_second, .inr (2, [.ref h_t_second_chain, .ref h_t_second_x, .ref h_t_second_y, .ref h_t_second_sorted, .int t_second_size])), (h_t_second_x, .inl (cI, 48, .inl t_second_x)), (h_t_second_y, .inl (cI, 48, .inl t_second_y)), (h_t_near, .inr (4, [.long t_near_x_50, .long t_near_y_51, .long t_near_lower_52, .long t_near_square_53, .long t_near_squareLower_54, .int t_near_fromX_55, .int t_near_fromY_56]))]) (va_runSN (As := [.long t_gapX_48, .long t_gapY_49]) (rest := []) ⟨hx, hb, hml, hown, hts⟩ (mtX11_gcd l dC dI cI cL cB K H.size t_gapX_48 t_gapY_49 r_57 hq_58) ⟨va_cnB 2 hts (gcode qc_X11_gcd) rfl rfl rfl (hT _ qm_X3_104) (hts _ qz_X11) hdS_X11_gcd ⟨Nat.le_trans (Nat.le_of_ble_eq_true rfl) hF, Nat.le_trans (Nat.le_of_ble_eq_true rfl) hLo⟩, hts _ qt_X11_gcd, trivial⟩ (cPreS hK hP hD hT [] rfl rfl) rfl rfl hl.1 rfl (lv_room (Nat.le_of_ble_eq_true rfl)) dX3_measureGap_124 ⟨Nat.zero_le _, Nat.zero_le _⟩) hP hD hS hA [] [0, 1, 2, 3, 4, 5, 6, 7] [0, 1, 2, 3, 4, 5, 6, 7] rfl rfl rfl rfl rfl rfl (fun H locs hP hD hS => ?_)
  refine lv_lstore_n (lv' := [(1, .long r_57), (0, .ref h_t)]) hx hb dX3_measureGap_127 rfl hl (Nat.le_of_ble_eq_true rfl) rfl (fun ls hl => ?_)
  refine lv_aload_n hx hb dX3_measureGap_128 rfl (lv_at hl 1 rfl) ?_
  refine va_get (D := (dC, dI)) (ci := 3) (v := .long t_gapSquare_46) (C := RX3) (T := TX3) (N := 13) hx hb hts in_X3 hown hK hP 0 rfl rfl 4 (Nat.le_of_ble_eq_true rfl) (hts _ qf_X3_84) (fun _ h9 => h9) rfl dX3_measureGap_129 ?_
  refine lv_aload_n hx hb dX3_measureGap_132 rfl (lv_at hl 1 rfl) ?_
  refine va_get (D := (dC, dI)) (ci := 3) (v := .long t_gapLower_47) (C := RX3) (T := TX3) (N := 13) hx hb hts in_X3 hown hK hP 0 rfl rfl 5 (Nat.le_of_ble_eq_true rfl) (hts _ qf_X3_87) (fun _ h9 => h9) rfl dX3_measureGap_133 ?_
  obtain ⟨r_59, hq_60, hf⟩ := b1_some hf
  refine xcl (wr := [(h_t, .inr (3, [.ref h_t_first, .ref h_t_second, .ref h_t_third, .ref h_t_place, .long t_gapSquare_46, .long t_gapLower_47, .long t_gapX_48, .long t_gapY_49, .ref h_t_near, .int t_threefold, .long t_leastX, .long t_leastY, .long t_leastLower])), (h_t_first, .inr (2, [.ref h_t_first_chain, .ref h_t_first_x, .ref h_t_first_y, .ref h_t_first_sorted, .int t_first_size])), (h_t_first_x, .inl (cI, 48, .inl t_first_x)), (h_t_first_y, .inl (cI, 48, .inl t_first_y)), (h_t_second, .inr (2, [.ref h_t_second_chain, .ref h_t_second_x, .ref h_t_second_y, .ref h_t_second_sorted, .int t_second_size])), (h_t_second_x, .inl (cI, 48, .inl t_second_x)), (h_t_second_y, .inl (cI, 48, .inl t_second_y)), (h_t_near, .inr (4, [.long t_near_x_50, .long t_near_y_51, .long t_near_lower_52, .long t_near_square_53, .long t_near_squareLower_54, .int t_near_fromX_55, .int t_near_fromY_56]))]) (w2 := [(h_t, .inr (3, [.ref h_t_first, .ref h_t_second, .ref h_t_third, .ref h_t_place, .long t_gapSquare_46, .long t_gapLower_47, .long t_gapX_48, .long t_gapY_49, .ref h_t_near, .int t_threefold, .long t_leastX, .long t_leastY, .long t_leastLower])), (h_t_first, .inr (2, [.ref h_t_first_chain, .ref h_t_first_x, .ref h_t_first_y, .ref h_t_first_sorted, .int t_first_size])), (h_t_first_x, .inl (cI, 48, .inl t_first_x)), (h_t_first_y, .inl (cI, 48, .inl t_first_y)), (h_t_second, .inr (2, [.ref h_t_second_chain, .ref h_t_second_x, .ref h_t_second_y, .ref h_t_second_sorted, .int t_second_size])), (h_t_second_x, .inl (cI, 48, .inl t_second_x)), (h_t_second_y, .inl (cI, 48, .inl t_second_y)), (h_t_near, .inr (4, [.long t_near_x_50, .long t_near_y_51, .long t_near_lower_52, .long t_near_square_53, .long t_near_squareLower_54, .int t_near_fromX_55, .int t_near_fromY_56]))]) (va_runSN (As := [.long t_gapSquare_46, .long t_gapLower_47]) (rest := []) ⟨hx, hb, hml, hown, hts⟩ (mtX11_gcd l dC dI cI cL cB K H.size t_gapSquare_46 t_gapLower_47 r_59 hq_60) ⟨va_cnB 2 hts (gcode qc_X11_gcd) rfl rfl rfl (hT _ qm_X3_104) (hts _ qz_X11) hdS_X11_gcd ⟨Nat.le_trans (Nat.le_of_ble_eq_true rfl) hF, Nat.le_trans (Nat.le_of_ble_eq_true rfl) hLo⟩, hts _ qt_X11_gcd, trivial⟩ (cPreS hK hP hD hT [] rfl rfl) rfl rfl hl.1 rfl (lv_room (Nat.le_of_ble_eq_true rfl)) dX3_measureGap_136 ⟨Nat.zero_le _, Nat.zero_le _⟩) hP hD hS hA [] [0, 1, 2, 3, 4, 5, 6, 7] [0, 1, 2, 3, 4, 5, 6, 7] rfl rfl rfl rfl rfl rfl (fun H locs hP hD hS => ?_)
  refine lv_lstore_n (lv' := [(3, .long r_59), (1, .long r_57), (0, .ref h_t)]) hx hb dX3_measureGap_139 rfl hl (Nat.le_of_ble_eq_true rfl) rfl (fun ls hl => ?_)
  refine lv_lload_n hx hb dX3_measureGap_140 rfl (lv_at hl 1 rfl) ?_
  refine lv_lconst (v := (0 : Int64)) hx hb dX3_measureGap_141 (by decide) ?_
  refine W.lcmp hx hb dX3_measureGap_142 ?_
  refine lv_if_eq (tgt := 152) hx hb dX3_measureGap_143 (by decide) (fun hc => ?_) (fun hc => ?_)
  · replace hf := it_t ((lg_cmp_eq _ _).mp hc) hf
    refine lv_iconst (v := (0 : Int32)) hx hb dX3_measureGap_152 (by decide) ?_
    obtain ⟨rfl, rfl, rfl, rfl, rfl, rfl, rfl, rfl, rfl, rfl, rfl, rfl⟩ := o12 hf
    exact W.zret hx hb hr rfl (fun t ht hW => ⟨⟨_, (), rfl, rfl, by rw [ht]; exact hP, hD⟩, hS.F ht⟩) hS.2.2 dX3_measureGap_153
  · replace hf := it_f (fun h9 => hc ((lg_cmp_eq _ _).mpr h9)) hf
    refine lv_lload_n hx hb dX3_measureGap_146 rfl (lv_at hl 0 rfl) ?_
    refine lv_lconst (v := (0 : Int64)) hx hb dX3_measureGap_147 (by decide) ?_
    refine W.lcmp hx hb dX3_measureGap_148 ?_
    refine lv_if_ne (tgt := 154) hx hb dX3_measureGap_149 (by decide) (fun hc => ?_) (fun hc => ?_)
    · replace hf := it_f (fun h9 => hc ((lg_cmp_eq _ _).mpr h9)) hf
      refine lv_aload_n hx hb dX3_measureGap_154 rfl (lv_at hl 2 rfl) ?_
      refine lv_dup hx hb dX3_measureGap_155 rfl ?_
      refine va_get (D := (dC, dI)) (ci := 3) (v := .long t_gapX_48) (C := RX3) (T := TX3) (N := 13) hx hb hts in_X3 hown hK hP 0 rfl rfl 6 (Nat.le_of_ble_eq_true rfl) (hts _ qf_X3_98) (fun _ h9 => h9) rfl dX3_measureGap_156 ?_
      refine lv_lload_n hx hb dX3_measureGap_159 rfl (lv_at hl 1 rfl) ?_
      obtain ⟨hg_61, hf⟩ := gd_some hf
      refine lv_ldiv hx hb dX3_measureGap_160 (nz_ne hg_61) ?_
      refine lv_topl (fun f_gapX_62 ef_gapX_62 => ?_)
      replace hf := xl_at hf ef_gapX_62
      refine xput (D := (dC, dI)) (ci := 3) (v := .long f_gapX_62) (C := RX3) (T := TX3) (N := 13) (w2 := [(h_t, .inr (3, [.ref h_t_first, .ref h_t_second, .ref h_t_third, .ref h_t_place, .long t_gapSquare_46, .long t_gapLower_47, .long f_gapX_62, .long t_gapY_49, .ref h_t_near, .int t_threefold, .long t_leastX, .long t_leastY, .long t_leastLower])), (h_t_first, .inr (2, [.ref h_t_first_chain, .ref h_t_first_x, .ref h_t_first_y, .ref h_t_first_sorted, .int t_first_size])), (h_t_first_x, .inl (cI, 48, .inl t_first_x)), (h_t_first_y, .inl (cI, 48, .inl t_first_y)), (h_t_second, .inr (2, [.ref h_t_second_chain, .ref h_t_second_x, .ref h_t_second_y, .ref h_t_second_sorted, .int t_second_size])), (h_t_second_x, .inl (cI, 48, .inl t_second_x)), (h_t_second_y, .inl (cI, 48, .inl t_second_y)), (h_t_near, .inr (4, [.long t_near_x_50, .long t_near_y_51, .long t_near_lower_52, .long t_near_square_53, .long t_near_squareLower_54, .int t_near_fromX_55, .int t_near_fromY_56]))]) hx hb hts in_X3 tyX3 tyX3_ok nmX3 hown hK hP hD hS 0 rfl rfl 6 (Nat.le_of_ble_eq_true rfl) (hts _ qf_X3_98) (fun _ h9 => h9) rfl rfl rfl (Nat.le_of_ble_eq_true rfl) rfl dX3_measureGap_161 (fun H locs hP hD hS => ?_)
      refine lv_aload_n hx hb dX3_measureGap_164 rfl (lv_at hl 2 rfl) ?_
      refine lv_dup hx hb dX3_measureGap_165 rfl ?_
      refine va_get (D := (dC, dI)) (ci := 3) (v := .long t_gapY_49) (C := RX3) (T := TX3) (N := 13) hx hb hts in_X3 hown hK hP 0 rfl rfl 7 (Nat.le_of_ble_eq_true rfl) (hts _ qf_X3_101) (fun _ h9 => h9) rfl dX3_measureGap_166 ?_
      refine lv_lload_n hx hb dX3_measureGap_169 rfl (lv_at hl 1 rfl) ?_
      obtain ⟨hg_63, hf⟩ := gd_some hf
      refine lv_ldiv hx hb dX3_measureGap_170 (nz_ne hg_63) ?_
      refine lv_topl (fun f_gapY_64 ef_gapY_64 => ?_)
      replace hf := xl_at hf ef_gapY_64
      refine xput (D := (dC, dI)) (ci := 3) (v := .long f_gapY_64) (C := RX3) (T := TX3) (N := 13) (w2 := [(h_t, .inr (3, [.ref h_t_first, .ref h_t_second, .ref h_t_third, .ref h_t_place, .long t_gapSquare_46, .long t_gapLower_47, .long f_gapX_62, .long f_gapY_64, .ref h_t_near, .int t_threefold, .long t_leastX, .long t_leastY, .long t_leastLower])), (h_t_first, .inr (2, [.ref h_t_first_chain, .ref h_t_first_x, .ref h_t_first_y, .ref h_t_first_sorted, .int t_first_size])), (h_t_first_x, .inl (cI, 48, .inl t_first_x)), (h_t_first_y, .inl (cI, 48, .inl t_first_y)), (h_t_second, .inr (2, [.ref h_t_second_chain, .ref h_t_second_x, .ref h_t_second_y, .ref h_t_second_sorted, .int t_second_size])), (h_t_second_x, .inl (cI, 48, .inl t_second_x)), (h_t_second_y, .inl (cI, 48, .inl t_second_y)), (h_t_near, .inr (4, [.long t_near_x_50, .long t_near_y_51, .long t_near_lower_52, .long t_near_square_53, .long t_near_squareLower_54, .int t_near_fromX_55, .int t_near_fromY_56]))]) hx hb hts in_X3 tyX3 tyX3_ok nmX3 hown hK hP hD hS 0 rfl rfl 7 (Nat.le_of_ble_eq_true rfl) (hts _ qf_X3_101) (fun _ h9 => h9) rfl rfl rfl (Nat.le_of_ble_eq_true rfl) rfl dX3_measureGap_171 (fun H locs hP hD hS => ?_)
      refine lv_aload_n hx hb dX3_measureGap_174 rfl (lv_at hl 2 rfl) ?_
      refine lv_dup hx hb dX3_measureGap_175 rfl ?_
      refine va_get (D := (dC, dI)) (ci := 3) (v := .long t_gapSquare_46) (C := RX3) (T := TX3) (N := 13) hx hb hts in_X3 hown hK hP 0 rfl rfl 4 (Nat.le_of_ble_eq_true rfl) (hts _ qf_X3_84) (fun _ h9 => h9) rfl dX3_measureGap_176 ?_
      refine lv_lload_n hx hb dX3_measureGap_179 rfl (lv_at hl 0 rfl) ?_
      obtain ⟨hg_65, hf⟩ := gd_some hf
      refine lv_ldiv hx hb dX3_measureGap_180 (nz_ne hg_65) ?_
      refine lv_topl (fun f_gapSquare_66 ef_gapSquare_66 => ?_)
      replace hf := xl_at hf ef_gapSquare_66
      refine xput (D := (dC, dI)) (ci := 3) (v := .long f_gapSquare_66) (C := RX3) (T := TX3) (N := 13) (w2 := [(h_t, .inr (3, [.ref h_t_first, .ref h_t_second, .ref h_t_third, .ref h_t_place, .long f_gapSquare_66, .long t_gapLower_47, .long f_gapX_62, .long f_gapY_64, .ref h_t_near, .int t_threefold, .long t_leastX, .long t_leastY, .long t_leastLower])), (h_t_first, .inr (2, [.ref h_t_first_chain, .ref h_t_first_x, .ref h_t_first_y, .ref h_t_first_sorted, .int t_first_size])), (h_t_first_x, .inl (cI, 48, .inl t_first_x)), (h_t_first_y, .inl (cI, 48, .inl t_first_y)), (h_t_second, .inr (2, [.ref h_t_second_chain, .ref h_t_second_x, .ref h_t_second_y, .ref h_t_second_sorted, .int t_second_size])), (h_t_second_x, .inl (cI, 48, .inl t_second_x)), (h_t_second_y, .inl (cI, 48, .inl t_second_y)), (h_t_near, .inr (4, [.long t_near_x_50, .long t_near_y_51, .long t_near_lower_52, .long t_near_square_53, .long t_near_squareLower_54, .int t_near_fromX_55, .int t_near_fromY_56]))]) hx hb hts in_X3 tyX3 tyX3_ok nmX3 hown hK hP hD hS 0 rfl rfl 4 (Nat.le_of_ble_eq_true rfl) (hts _ qf_X3_84) (fun _ h9 => h9) rfl rfl rfl (Nat.le_of_ble_eq_true rfl) rfl dX3_measureGap_181 (fun H locs hP hD hS => ?_)
      refine lv_aload_n hx hb dX3_measureGap_184 rfl (lv_at hl 2 rfl) ?_
      refine lv_dup hx hb dX3_measureGap_185 rfl ?_
      refine va_get (D := (dC, dI)) (ci := 3) (v := .long t_gapLower_47) (C := RX3) (T := TX3) (N := 13) hx hb hts in_X3 hown hK hP 0 rfl rfl 5 (Nat.le_of_ble_eq_true rfl) (hts _ qf_X3_87) (fun _ h9 => h9) rfl dX3_measureGap_186 ?_
      refine lv_lload_n hx hb dX3_measureGap_189 rfl (lv_at hl 0 rfl) ?_
      obtain ⟨hg_67, hf⟩ := gd_some hf
      refine lv_ldiv hx hb dX3_measureGap_190 (nz_ne hg_67) ?_
      refine lv_topl (fun f_gapLower_68 ef_gapLower_68 => ?_)
      replace hf := xl_at hf ef_gapLower_68
      refine xput (D := (dC, dI)) (ci := 3) (v := .long f_gapLower_68) (C := RX3) (T := TX3) (N := 13) (w2 := [(h_t, .inr (3, [.ref h_t_first, .ref h_t_second, .ref h_t_third, .ref h_t_place, .long f_gapSquare_66, .long f_gapLower_68, .long f_gapX_62, .long f_gapY_64, .ref h_t_near, .int t_threefold, .long t_leastX, .long t_leastY, .long t_leastLower])), (h_t_first, .inr (2, [.ref h_t_first_chain, .ref h_t_first_x, .ref h_t_first_y, .ref h_t_first_sorted, .int t_first_size])), (h_t_first_x, .inl (cI, 48, .inl t_first_x)), (h_t_first_y, .inl (cI, 48, .inl t_first_y)), (h_t_second, .inr (2, [.ref h_t_second_chain, .ref h_t_second_x, .ref h_t_second_y, .ref h_t_second_sorted, .int t_second_size])), (h_t_second_x, .inl (cI, 48, .inl t_second_x)), (h_t_second_y, .inl (cI, 48, .inl t_second_y)), (h_t_near, .inr (4, [.long t_near_x_50, .long t_near_y_51, .long t_near_lower_52, .long t_near_square_53, .long t_near_squareLower_54, .int t_near_fromX_55, .int t_near_fromY_56]))]) hx hb hts in_X3 tyX3 tyX3_ok nmX3 hown hK hP hD hS 0 rfl rfl 5 (Nat.le_of_ble_eq_true rfl) (hts _ qf_X3_87) (fun _ h9 => h9) rfl rfl rfl (Nat.le_of_ble_eq_true rfl) rfl dX3_measureGap_191 (fun H locs hP hD hS => ?_)
      refine lv_iconst (v := (1 : Int32)) hx hb dX3_measureGap_194 (by decide) ?_
      obtain ⟨rfl, rfl, rfl, rfl, rfl, rfl, rfl, rfl, rfl, rfl, rfl, rfl⟩ := o12 hf
      exact W.zret hx hb hr rfl (fun t ht hW => ⟨⟨_, (), rfl, rfl, by rw [ht]; exact hP, hD⟩, hS.F ht⟩) hS.2.2 dX3_measureGap_195
    · replace hf := it_t ((lg_cmp_eq _ _).mp hc) hf
      refine lv_iconst (v := (0 : Int32)) hx hb dX3_measureGap_152 (by decide) ?_
      obtain ⟨rfl, rfl, rfl, rfl, rfl, rfl, rfl, rfl, rfl, rfl, rfl, rfl⟩ := o12 hf
      exact W.zret hx hb hr rfl (fun t ht hW => ⟨⟨_, (), rfl, rfl, by rw [ht]; exact hP, hD⟩, hS.F ht⟩) hS.2.2 dX3_measureGap_153
theorem dX11_apart_0 : decode cX11_apart 0 = .ok (.aload_n 0, 1) := by decide +kernel
theorem dX11_apart_1 : decode cX11_apart 1 = .ok (.getfield 12, 3) := by decide +kernel
theorem dX11_apart_4 : decode cX11_apart 4 = .ok (.iload_n 1, 1) := by decide +kernel
theorem dX11_apart_5 : decode cX11_apart 5 = .ok (.invokevirtual 152, 3) := by decide +kernel
theorem dX11_apart_8 : decode cX11_apart 8 = .ok (.ifCond .eq 14, 3) := by decide +kernel
theorem dX11_apart_11 : decode cX11_apart 11 = .ok (.aload_n 0, 1) := by decide +kernel
theorem dX11_apart_12 : decode cX11_apart 12 = .ok (.getfield 12, 3) := by decide +kernel
theorem dX11_apart_15 : decode cX11_apart 15 = .ok (.iload_n 2, 1) := by decide +kernel
theorem dX11_apart_16 : decode cX11_apart 16 = .ok (.invokevirtual 152, 3) := by decide +kernel
theorem dX11_apart_19 : decode cX11_apart 19 = .ok (.ifCond .ne 7, 3) := by decide +kernel
theorem dX11_apart_22 : decode cX11_apart 22 = .ok (.ldc2_w 131, 3) := by decide +kernel
theorem dX11_apart_25 : decode cX11_apart 25 = .ok (.lreturn, 1) := by decide +kernel
theorem dX11_apart_26 : decode cX11_apart 26 = .ok (.aload_n 0, 1) := by decide +kernel
theorem dX11_apart_27 : decode cX11_apart 27 = .ok (.getfield 63, 3) := by decide +kernel
theorem dX11_apart_30 : decode cX11_apart 30 = .ok (.aload_n 0, 1) := by decide +kernel
theorem dX11_apart_31 : decode cX11_apart 31 = .ok (.getfield 12, 3) := by decide +kernel
theorem dX11_apart_34 : decode cX11_apart 34 = .ok (.iload_n 1, 1) := by decide +kernel
theorem dX11_apart_35 : decode cX11_apart 35 = .ok (.iload_n 2, 1) := by decide +kernel
theorem dX11_apart_36 : decode cX11_apart 36 = .ok (.invokevirtual 301, 3) := by decide +kernel
theorem dX11_apart_39 : decode cX11_apart 39 = .ok (.aload_n 0, 1) := by decide +kernel
theorem dX11_apart_40 : decode cX11_apart 40 = .ok (.getfield 63, 3) := by decide +kernel
theorem dX11_apart_43 : decode cX11_apart 43 = .ok (.invokevirtual 305, 3) := by decide +kernel
theorem dX11_apart_46 : decode cX11_apart 46 = .ok (.ifCond .ne 13, 3) := by decide +kernel
theorem dX11_apart_49 : decode cX11_apart 49 = .ok (.aload_n 0, 1) := by decide +kernel
theorem dX11_apart_50 : decode cX11_apart 50 = .ok (.getfield 63, 3) := by decide +kernel
theorem dX11_apart_53 : decode cX11_apart 53 = .ok (.invokevirtual 310, 3) := by decide +kernel
theorem dX11_apart_56 : decode cX11_apart 56 = .ok (.ifCond .ne 7, 3) := by decide +kernel
theorem dX11_apart_59 : decode cX11_apart 59 = .ok (.ldc2_w 131, 3) := by decide +kernel
theorem dX11_apart_62 : decode cX11_apart 62 = .ok (.lreturn, 1) := by decide +kernel
theorem dX11_apart_63 : decode cX11_apart 63 = .ok (.iload_n 3, 1) := by decide +kernel
theorem dX11_apart_64 : decode cX11_apart 64 = .ok (.tableswitch 93 0 4 #[36, 44, 52, 60, 68], 36) := by decide +kernel
theorem dX11_apart_100 : decode cX11_apart 100 = .ok (.aload_n 0, 1) := by decide +kernel
theorem dX11_apart_101 : decode cX11_apart 101 = .ok (.getfield 63, 3) := by decide +kernel
theorem dX11_apart_104 : decode cX11_apart 104 = .ok (.getfield 313, 3) := by decide +kernel
theorem dX11_apart_107 : decode cX11_apart 107 = .ok (.lreturn, 1) := by decide +kernel
theorem dX11_apart_108 : decode cX11_apart 108 = .ok (.aload_n 0, 1) := by decide +kernel
theorem dX11_apart_109 : decode cX11_apart 109 = .ok (.getfield 63, 3) := by decide +kernel
theorem dX11_apart_112 : decode cX11_apart 112 = .ok (.getfield 316, 3) := by decide +kernel
theorem dX11_apart_115 : decode cX11_apart 115 = .ok (.lreturn, 1) := by decide +kernel
theorem dX11_apart_116 : decode cX11_apart 116 = .ok (.aload_n 0, 1) := by decide +kernel
theorem dX11_apart_117 : decode cX11_apart 117 = .ok (.getfield 63, 3) := by decide +kernel
theorem dX11_apart_120 : decode cX11_apart 120 = .ok (.getfield 319, 3) := by decide +kernel
theorem dX11_apart_123 : decode cX11_apart 123 = .ok (.lreturn, 1) := by decide +kernel
theorem dX11_apart_124 : decode cX11_apart 124 = .ok (.aload_n 0, 1) := by decide +kernel
theorem dX11_apart_125 : decode cX11_apart 125 = .ok (.getfield 63, 3) := by decide +kernel
theorem dX11_apart_128 : decode cX11_apart 128 = .ok (.getfield 322, 3) := by decide +kernel
theorem dX11_apart_131 : decode cX11_apart 131 = .ok (.lreturn, 1) := by decide +kernel
theorem dX11_apart_132 : decode cX11_apart 132 = .ok (.aload_n 0, 1) := by decide +kernel
theorem dX11_apart_133 : decode cX11_apart 133 = .ok (.getfield 63, 3) := by decide +kernel
theorem dX11_apart_136 : decode cX11_apart 136 = .ok (.getfield 325, 3) := by decide +kernel
theorem dX11_apart_139 : decode cX11_apart 139 = .ok (.aload_n 0, 1) := by decide +kernel
theorem dX11_apart_140 : decode cX11_apart 140 = .ok (.getfield 63, 3) := by decide +kernel
theorem dX11_apart_143 : decode cX11_apart 143 = .ok (.getfield 319, 3) := by decide +kernel
theorem dX11_apart_146 : decode cX11_apart 146 = .ok (.aload_n 0, 1) := by decide +kernel
theorem dX11_apart_147 : decode cX11_apart 147 = .ok (.getfield 63, 3) := by decide +kernel
theorem dX11_apart_150 : decode cX11_apart 150 = .ok (.getfield 322, 3) := by decide +kernel
theorem dX11_apart_153 : decode cX11_apart 153 = .ok (.invokevirtual 209, 3) := by decide +kernel
theorem dX11_apart_156 : decode cX11_apart 156 = .ok (.lreturn, 1) := by decide +kernel
theorem dX11_apart_157 : decode cX11_apart 157 = .ok (.ldc2_w 131, 3) := by decide +kernel
theorem dX11_apart_160 : decode cX11_apart 160 = .ok (.lreturn, 1) := by decide +kernel
set_option maxRecDepth 100000 in
set_option maxHeartbeats 4000000 in
theorem mtX11_apart (l : Launch) (dC : Nat → ClassId) (dI : Nat → Nat → Nat) (cI cL cB : ClassId) (K : Nat) (h_t h_t_cloud h_t_reader h_t_hull h_t_near h_t_firstTie h_t_reducer h_t_chooser h_t_pair h_t_divider h_t_depths h_t_spot h_t_cloud_x h_t_cloud_y h_t_cloud_colour h_t_cloud_load h_t_pair_first h_t_pair_second h_t_pair_third h_t_pair_place h_t_pair_near h_t_pair_first_chain h_t_pair_first_x h_t_pair_first_y h_t_pair_first_sorted h_t_pair_second_chain h_t_pair_second_x h_t_pair_second_y h_t_pair_second_sorted h_t_pair_third_chain h_t_pair_third_x h_t_pair_third_y h_t_pair_third_sorted : Nat) (sz : Nat) (t_cloud_size : Int32) (t_cloud_centreX : Int32) (t_cloud_centreY : Int32) (t_cloud_x : Nat → Int32) (t_cloud_y : Nat → Int32) (t_pair_gapSquare : Int64) (t_pair_gapLower : Int64) (t_pair_gapX : Int64) (t_pair_gapY : Int64) (t_pair_threefold : Int32) (t_pair_leastX : Int64) (t_pair_leastY : Int64) (t_pair_leastLower : Int64) (t_pair_first_size : Int32) (t_pair_first_chain : Nat → Int32) (t_pair_first_x : Nat → Int32) (t_pair_first_y : Nat → Int32) (t_pair_first_sorted : Nat → Int32) (t_pair_second_size : Int32) (t_pair_second_chain : Nat → Int32) (t_pair_second_x : Nat → Int32) (t_pair_second_y : Nat → Int32) (t_pair_second_sorted : Nat → Int32) (t_pair_third_size : Int32) (t_pair_third_x : Nat → Int32) (t_pair_third_y : Nat → Int32) (t_pair_place_x : Int64) (t_pair_place_y : Int64) (t_pair_place_lower : Int64) (t_pair_near_x : Int64) (t_pair_near_y : Int64) (t_pair_near_lower : Int64) (t_pair_near_square : Int64) (t_pair_near_squareLower : Int64) (t_pair_near_fromX : Int32) (t_pair_near_fromY : Int32) (a1 : Int32) (a2 : Int32) (a3 : Int32) (o_r : Int64) (o_t_pair_gapSquare : Int64) (o_t_pair_gapLower : Int64) (o_t_pair_gapX : Int64) (o_t_pair_gapY : Int64) (o_t_pair_threefold : Int32) (o_t_pair_leastX : Int64) (o_t_pair_leastY : Int64) (o_t_pair_leastLower : Int64) (o_t_pair_first_size : Int32) (o_t_pair_first_chain : Nat → Int32) (o_t_pair_first_x : Nat → Int32) (o_t_pair_first_y : Nat → Int32) (o_t_pair_first_sorted : Nat → Int32) (o_t_pair_second_size : Int32) (o_t_pair_second_chain : Nat → Int32) (o_t_pair_second_x : Nat → Int32) (o_t_pair_second_y : Nat → Int32) (o_t_pair_second_sorted : Nat → Int32) (o_t_pair_place_x : Int64) (o_t_pair_place_y : Int64) (o_t_pair_place_lower : Int64) (o_t_pair_near_x : Int64) (o_t_pair_near_y : Int64) (o_t_pair_near_lower : Int64) (o_t_pair_near_square : Int64) (o_t_pair_near_squareLower : Int64) (o_t_pair_near_fromX : Int32) (o_t_pair_near_fromY : Int32) (hf : fX11_apart K t_cloud_size t_cloud_x t_cloud_y t_pair_gapSquare t_pair_gapLower t_pair_gapX t_pair_gapY t_pair_threefold t_pair_leastX t_pair_leastY t_pair_leastLower t_pair_first_size t_pair_first_chain t_pair_first_x t_pair_first_y t_pair_first_sorted t_pair_second_size t_pair_second_chain t_pair_second_x t_pair_second_y t_pair_second_sorted t_pair_third_size t_pair_third_x t_pair_third_y t_pair_place_x t_pair_place_y t_pair_place_lower t_pair_near_x t_pair_near_y t_pair_near_lower t_pair_near_square t_pair_near_squareLower t_pair_near_fromX t_pair_near_fromY a1 a2 a3 = some (o_r, o_t_pair_gapSquare, o_t_pair_gapLower, o_t_pair_gapX, o_t_pair_gapY, o_t_pair_threefold, o_t_pair_leastX, o_t_pair_leastY, o_t_pair_leastLower, o_t_pair_first_size, o_t_pair_first_chain, o_t_pair_first_x, o_t_pair_first_y, o_t_pair_first_sorted, o_t_pair_second_size, o_t_pair_second_chain, o_t_pair_second_x, o_t_pair_second_y, o_t_pair_second_sorted, o_t_pair_place_x, o_t_pair_place_y, o_t_pair_place_lower, o_t_pair_near_x, o_t_pair_near_y, o_t_pair_near_lower, o_t_pair_near_square, o_t_pair_near_squareLower, o_t_pair_near_fromX, o_t_pair_near_fromY)) : Met l yX11_apart [Cond.code yX11_apart cX11_apart 4 (some .long)] ({ frames := 4, cells := 0, slots := 0, locals := 119 }) (va_Pc [.ref h_t, .int a1, .int a2, .int a3] (cPre dC dI cI cL cB sz [(h_t, .inr (11, [.ref h_t_cloud, .ref h_t_reader, .ref h_t_hull, .ref h_t_near, .ref h_t_firstTie, .ref h_t_reducer, .ref h_t_chooser, .ref h_t_pair, .ref h_t_divider, .ref h_t_depths, .ref h_t_spot])), (h_t_cloud, .inr (0, [.ref h_t_cloud_x, .ref h_t_cloud_y, .ref h_t_cloud_colour, .ref h_t_cloud_load, .int t_cloud_size, .int t_cloud_centreX, .int t_cloud_centreY])), (h_t_cloud_x, .inl (cI, 24, .inl t_cloud_x)), (h_t_cloud_y, .inl (cI, 24, .inl t_cloud_y)), (h_t_pair, .inr (3, [.ref h_t_pair_first, .ref h_t_pair_second, .ref h_t_pair_third, .ref h_t_pair_place, .long t_pair_gapSquare, .long t_pair_gapLower, .long t_pair_gapX, .long t_pair_gapY, .ref h_t_pair_near, .int t_pair_threefold, .long t_pair_leastX, .long t_pair_leastY, .long t_pair_leastLower])), (h_t_pair_first, .inr (2, [.ref h_t_pair_first_chain, .ref h_t_pair_first_x, .ref h_t_pair_first_y, .ref h_t_pair_first_sorted, .int t_pair_first_size])), (h_t_pair_first_chain, .inl (cI, 48, .inl t_pair_first_chain)), (h_t_pair_first_x, .inl (cI, 48, .inl t_pair_first_x)), (h_t_pair_first_y, .inl (cI, 48, .inl t_pair_first_y)), (h_t_pair_first_sorted, .inl (cI, 24, .inl t_pair_first_sorted)), (h_t_pair_second, .inr (2, [.ref h_t_pair_second_chain, .ref h_t_pair_second_x, .ref h_t_pair_second_y, .ref h_t_pair_second_sorted, .int t_pair_second_size])), (h_t_pair_second_chain, .inl (cI, 48, .inl t_pair_second_chain)), (h_t_pair_second_x, .inl (cI, 48, .inl t_pair_second_x)), (h_t_pair_second_y, .inl (cI, 48, .inl t_pair_second_y)), (h_t_pair_second_sorted, .inl (cI, 24, .inl t_pair_second_sorted)), (h_t_pair_third, .inr (2, [.ref h_t_pair_third_chain, .ref h_t_pair_third_x, .ref h_t_pair_third_y, .ref h_t_pair_third_sorted, .int t_pair_third_size])), (h_t_pair_third_x, .inl (cI, 48, .inl t_pair_third_x)), (h_t_pair_third_y, .inl (cI, 48, .inl t_pair_third_y)), (h_t_pair_place, .inr (6, [.long t_pair_place_x, .long t_pair_place_y, .long t_pair_place_lower])), (h_t_pair_near, .inr (4, [.long t_pair_near_x, .long t_pair_near_y, .long t_pair_near_lower, .long t_pair_near_square, .long t_pair_near_squareLower, .int t_pair_near_fromX, .int t_pair_near_fromY]))])) (cQl dC dI (va_A [(h_t, .inr (11, [.ref h_t_cloud, .ref h_t_reader, .ref h_t_hull, .ref h_t_near, .ref h_t_firstTie, .ref h_t_reducer, .ref h_t_chooser, .ref h_t_pair, .ref h_t_divider, .ref h_t_depths, .ref h_t_spot])), (h_t_cloud, .inr (0, [.ref h_t_cloud_x, .ref h_t_cloud_y, .ref h_t_cloud_colour, .ref h_t_cloud_load, .int t_cloud_size, .int t_cloud_centreX, .int t_cloud_centreY])), (h_t_cloud_x, .inl (cI, 24, .inl t_cloud_x)), (h_t_cloud_y, .inl (cI, 24, .inl t_cloud_y)), (h_t_pair, .inr (3, [.ref h_t_pair_first, .ref h_t_pair_second, .ref h_t_pair_third, .ref h_t_pair_place, .long t_pair_gapSquare, .long t_pair_gapLower, .long t_pair_gapX, .long t_pair_gapY, .ref h_t_pair_near, .int t_pair_threefold, .long t_pair_leastX, .long t_pair_leastY, .long t_pair_leastLower])), (h_t_pair_first, .inr (2, [.ref h_t_pair_first_chain, .ref h_t_pair_first_x, .ref h_t_pair_first_y, .ref h_t_pair_first_sorted, .int t_pair_first_size])), (h_t_pair_first_chain, .inl (cI, 48, .inl t_pair_first_chain)), (h_t_pair_first_x, .inl (cI, 48, .inl t_pair_first_x)), (h_t_pair_first_y, .inl (cI, 48, .inl t_pair_first_y)), (h_t_pair_first_sorted, .inl (cI, 24, .inl t_pair_first_sorted)), (h_t_pair_second, .inr (2, [.ref h_t_pair_second_chain, .ref h_t_pair_second_x, .ref h_t_pair_second_y, .ref h_t_pair_second_sorted, .int t_pair_second_size])), (h_t_pair_second_chain, .inl (cI, 48, .inl t_pair_second_chain)), (h_t_pair_second_x, .inl (cI, 48, .inl t_pair_second_x)), (h_t_pair_second_y, .inl (cI, 48, .inl t_pair_second_y)), (h_t_pair_second_sorted, .inl (cI, 24, .inl t_pair_second_sorted)), (h_t_pair_third, .inr (2, [.ref h_t_pair_third_chain, .ref h_t_pair_third_x, .ref h_t_pair_third_y, .ref h_t_pair_third_sorted, .int t_pair_third_size])), (h_t_pair_third_x, .inl (cI, 48, .inl t_pair_third_x)), (h_t_pair_third_y, .inl (cI, 48, .inl t_pair_third_y)), (h_t_pair_place, .inr (6, [.long t_pair_place_x, .long t_pair_place_y, .long t_pair_place_lower])), (h_t_pair_near, .inr (4, [.long t_pair_near_x, .long t_pair_near_y, .long t_pair_near_lower, .long t_pair_near_square, .long t_pair_near_squareLower, .int t_pair_near_fromX, .int t_pair_near_fromY]))] sz) o_r [(h_t, .inr (11, [.ref h_t_cloud, .ref h_t_reader, .ref h_t_hull, .ref h_t_near, .ref h_t_firstTie, .ref h_t_reducer, .ref h_t_chooser, .ref h_t_pair, .ref h_t_divider, .ref h_t_depths, .ref h_t_spot])), (h_t_cloud, .inr (0, [.ref h_t_cloud_x, .ref h_t_cloud_y, .ref h_t_cloud_colour, .ref h_t_cloud_load, .int t_cloud_size, .int t_cloud_centreX, .int t_cloud_centreY])), (h_t_cloud_x, .inl (cI, 24, .inl t_cloud_x)), (h_t_cloud_y, .inl (cI, 24, .inl t_cloud_y)), (h_t_pair, .inr (3, [.ref h_t_pair_first, .ref h_t_pair_second, .ref h_t_pair_third, .ref h_t_pair_place, .long o_t_pair_gapSquare, .long o_t_pair_gapLower, .long o_t_pair_gapX, .long o_t_pair_gapY, .ref h_t_pair_near, .int o_t_pair_threefold, .long o_t_pair_leastX, .long o_t_pair_leastY, .long o_t_pair_leastLower])), (h_t_pair_first, .inr (2, [.ref h_t_pair_first_chain, .ref h_t_pair_first_x, .ref h_t_pair_first_y, .ref h_t_pair_first_sorted, .int o_t_pair_first_size])), (h_t_pair_first_chain, .inl (cI, 48, .inl o_t_pair_first_chain)), (h_t_pair_first_x, .inl (cI, 48, .inl o_t_pair_first_x)), (h_t_pair_first_y, .inl (cI, 48, .inl o_t_pair_first_y)), (h_t_pair_first_sorted, .inl (cI, 24, .inl o_t_pair_first_sorted)), (h_t_pair_second, .inr (2, [.ref h_t_pair_second_chain, .ref h_t_pair_second_x, .ref h_t_pair_second_y, .ref h_t_pair_second_sorted, .int o_t_pair_second_size])), (h_t_pair_second_chain, .inl (cI, 48, .inl o_t_pair_second_chain)), (h_t_pair_second_x, .inl (cI, 48, .inl o_t_pair_second_x)), (h_t_pair_second_y, .inl (cI, 48, .inl o_t_pair_second_y)), (h_t_pair_second_sorted, .inl (cI, 24, .inl o_t_pair_second_sorted)), (h_t_pair_third, .inr (2, [.ref h_t_pair_third_chain, .ref h_t_pair_third_x, .ref h_t_pair_third_y, .ref h_t_pair_third_sorted, .int t_pair_third_size])), (h_t_pair_third_x, .inl (cI, 48, .inl t_pair_third_x)), (h_t_pair_third_y, .inl (cI, 48, .inl t_pair_third_y)), (h_t_pair_place, .inr (6, [.long o_t_pair_place_x, .long o_t_pair_place_y, .long o_t_pair_place_lower])), (h_t_pair_near, .inr (4, [.long o_t_pair_near_x, .long o_t_pair_near_y, .long o_t_pair_near_lower, .long o_t_pair_near_square, .long o_t_pair_near_squareLower, .int o_t_pair_near_fromX, .int o_t_pair_near_fromY]))]) 0 0 (va_A [(h_t, .inr (11, [.ref h_t_cloud, .ref h_t_reader, .ref h_t_hull, .ref h_t_near, .ref h_t_firstTie, .ref h_t_reducer, .ref h_t_chooser, .ref h_t_pair, .ref h_t_divider, .ref h_t_depths, .ref h_t_spot])), (h_t_cloud, .inr (0, [.ref h_t_cloud_x, .ref h_t_cloud_y, .ref h_t_cloud_colour, .ref h_t_cloud_load, .int t_cloud_size, .int t_cloud_centreX, .int t_cloud_centreY])), (h_t_cloud_x, .inl (cI, 24, .inl t_cloud_x)), (h_t_cloud_y, .inl (cI, 24, .inl t_cloud_y)), (h_t_pair, .inr (3, [.ref h_t_pair_first, .ref h_t_pair_second, .ref h_t_pair_third, .ref h_t_pair_place, .long t_pair_gapSquare, .long t_pair_gapLower, .long t_pair_gapX, .long t_pair_gapY, .ref h_t_pair_near, .int t_pair_threefold, .long t_pair_leastX, .long t_pair_leastY, .long t_pair_leastLower])), (h_t_pair_first, .inr (2, [.ref h_t_pair_first_chain, .ref h_t_pair_first_x, .ref h_t_pair_first_y, .ref h_t_pair_first_sorted, .int t_pair_first_size])), (h_t_pair_first_chain, .inl (cI, 48, .inl t_pair_first_chain)), (h_t_pair_first_x, .inl (cI, 48, .inl t_pair_first_x)), (h_t_pair_first_y, .inl (cI, 48, .inl t_pair_first_y)), (h_t_pair_first_sorted, .inl (cI, 24, .inl t_pair_first_sorted)), (h_t_pair_second, .inr (2, [.ref h_t_pair_second_chain, .ref h_t_pair_second_x, .ref h_t_pair_second_y, .ref h_t_pair_second_sorted, .int t_pair_second_size])), (h_t_pair_second_chain, .inl (cI, 48, .inl t_pair_second_chain)), (h_t_pair_second_x, .inl (cI, 48, .inl t_pair_second_x)), (h_t_pair_second_y, .inl (cI, 48, .inl t_pair_second_y)), (h_t_pair_second_sorted, .inl (cI, 24, .inl t_pair_second_sorted)), (h_t_pair_third, .inr (2, [.ref h_t_pair_third_chain, .ref h_t_pair_third_x, .ref h_t_pair_third_y, .ref h_t_pair_third_sorted, .int t_pair_third_size])), (h_t_pair_third_x, .inl (cI, 48, .inl t_pair_third_x)), (h_t_pair_third_y, .inl (cI, 48, .inl t_pair_third_y)), (h_t_pair_place, .inr (6, [.long t_pair_place_x, .long t_pair_place_y, .long t_pair_place_lower])), (h_t_pair_near, .inr (4, [.long t_pair_near_x, .long t_pair_near_y, .long t_pair_near_lower, .long t_pair_near_square, .long t_pair_near_squareLower, .int t_pair_near_fromX, .int t_pair_near_fromY]))] sz) := by
  refine Met.ofW (cc := cX11_apart) (maxL := 4) (ret := (some .long)) (by decide) rfl ?_
  intro p e s m args below meth c s₁ B hml hv
  obtain ⟨rfl, hsz, hP, hK, hD0, hT⟩ := hv
  have hx := B.exec
  have hb := B.bytes
  have hr := B.returns
  have hown : s.vm.findClass RX11 = some m.cls := findClass_of_methodNamed B.named
  have hlocks := B.notSynchronized
  have hts := TB.use hT ([.ref h_t, .int a1, .int a2, .int a3] : List Value).toArray
  subst hsz
  have hD := hD0.self (sz := s.heap.size)
  generalize hAe : va_A [(h_t, .inr (11, [.ref h_t_cloud, .ref h_t_reader, .ref h_t_hull, .ref h_t_near, .ref h_t_firstTie, .ref h_t_reducer, .ref h_t_chooser, .ref h_t_pair, .ref h_t_divider, .ref h_t_depths, .ref h_t_spot])), (h_t_cloud, .inr (0, [.ref h_t_cloud_x, .ref h_t_cloud_y, .ref h_t_cloud_colour, .ref h_t_cloud_load, .int t_cloud_size, .int t_cloud_centreX, .int t_cloud_centreY])), (h_t_cloud_x, .inl (cI, 24, .inl t_cloud_x)), (h_t_cloud_y, .inl (cI, 24, .inl t_cloud_y)), (h_t_pair, .inr (3, [.ref h_t_pair_first, .ref h_t_pair_second, .ref h_t_pair_third, .ref h_t_pair_place, .long t_pair_gapSquare, .long t_pair_gapLower, .long t_pair_gapX, .long t_pair_gapY, .ref h_t_pair_near, .int t_pair_threefold, .long t_pair_leastX, .long t_pair_leastY, .long t_pair_leastLower])), (h_t_pair_first, .inr (2, [.ref h_t_pair_first_chain, .ref h_t_pair_first_x, .ref h_t_pair_first_y, .ref h_t_pair_first_sorted, .int t_pair_first_size])), (h_t_pair_first_chain, .inl (cI, 48, .inl t_pair_first_chain)), (h_t_pair_first_x, .inl (cI, 48, .inl t_pair_first_x)), (h_t_pair_first_y, .inl (cI, 48, .inl t_pair_first_y)), (h_t_pair_first_sorted, .inl (cI, 24, .inl t_pair_first_sorted)), (h_t_pair_second, .inr (2, [.ref h_t_pair_second_chain, .ref h_t_pair_second_x, .ref h_t_pair_second_y, .ref h_t_pair_second_sorted, .int t_pair_second_size])), (h_t_pair_second_chain, .inl (cI, 48, .inl t_pair_second_chain)), (h_t_pair_second_x, .inl (cI, 48, .inl t_pair_second_x)), (h_t_pair_second_y, .inl (cI, 48, .inl t_pair_second_y)), (h_t_pair_second_sorted, .inl (cI, 24, .inl t_pair_second_sorted)), (h_t_pair_third, .inr (2, [.ref h_t_pair_third_chain, .ref h_t_pair_third_x, .ref h_t_pair_third_y, .ref h_t_pair_third_sorted, .int t_pair_third_size])), (h_t_pair_third_x, .inl (cI, 48, .inl t_pair_third_x)), (h_t_pair_third_y, .inl (cI, 48, .inl t_pair_third_y)), (h_t_pair_place, .inr (6, [.long t_pair_place_x, .long t_pair_place_y, .long t_pair_place_lower])), (h_t_pair_near, .inr (4, [.long t_pair_near_x, .long t_pair_near_y, .long t_pair_near_lower, .long t_pair_near_square, .long t_pair_near_squareLower, .int t_pair_near_fromX, .int t_pair_near_fromY]))] s.heap.size = A at hD ⊢
  have hA : ∀ q : Nat, s.heap.size ≤ q → A q := fun q h => by rw [← hAe]; exact Or.inr h
  clear hAe hD0
  have hl := lv_entry ([.ref h_t, .int a1, .int a2, .int a3]) (n := 4) (Nat.le_of_ble_eq_true rfl)
  rw [lg_entry_eq]
  generalize (lg_sl ([.ref h_t, .int a1, .int a2, .int a3]) ++ List.replicate (4 - (lg_sl ([.ref h_t, .int a1, .int a2, .int a3])).length) Slot.unset).toArray = ls at hl ⊢
  have hl : lv_has ls 4 [(0, .ref h_t), (1, .int a1), (2, .int a2), (3, .int a3)] := hl
  have hF : 4 ≤ (headSpec [Cond.code yX11_apart cX11_apart 4 (some .long)] ({ frames := 4, cells := 0, slots := 0, locals := 119 })).room.frames := Nat.le_refl _
  have hLo : 119 ≤ (headSpec [Cond.code yX11_apart cX11_apart 4 (some .long)] ({ frames := 4, cells := 0, slots := 0, locals := 119 })).room.locals := Nat.le_refl _
  have C0 : Sx p (headSpec [Cond.code yX11_apart cX11_apart 4 (some .long)] ({ frames := 4, cells := 0, slots := 0, locals := 119 })).room s m ([.ref h_t, .int a1, .int a2, .int a3] : List Value).toArray c cX11_apart 4 RX11 A dC dI cI cL cB 4 119 := ⟨hx, hb, hml, hown, hts, hK, hT, hA, hF, hLo⟩
  refine startH (A := A) hP (fun H locs hP hS => ?_)
  rw [fX11_apart] at hf
  refine lv_aload_n hx hb dX11_apart_0 rfl (lv_at hl 0 rfl) ?_
  refine va_get (D := (dC, dI)) (ci := 11) (v := .ref h_t_cloud) (C := RX11) (T := TX11) (N := 11) hx hb hts in_X11 hown hK hP 0 rfl rfl 0 (Nat.le_of_ble_eq_true rfl) (hts _ qf_X11_12) (fun _ h9 => h9) rfl dX11_apart_1 ?_
  refine lv_iload_n hx hb dX11_apart_4 rfl (lv_at hl 1 rfl) ?_
  obtain ⟨r_1, hq_2, hf⟩ := b1_some hf
  refine xci (wr := [(h_t, .inr (11, [.ref h_t_cloud, .ref h_t_reader, .ref h_t_hull, .ref h_t_near, .ref h_t_firstTie, .ref h_t_reducer, .ref h_t_chooser, .ref h_t_pair, .ref h_t_divider, .ref h_t_depths, .ref h_t_spot])), (h_t_cloud_x, .inl (cI, 24, .inl t_cloud_x)), (h_t_cloud_y, .inl (cI, 24, .inl t_cloud_y)), (h_t_pair, .inr (3, [.ref h_t_pair_first, .ref h_t_pair_second, .ref h_t_pair_third, .ref h_t_pair_place, .long t_pair_gapSquare, .long t_pair_gapLower, .long t_pair_gapX, .long t_pair_gapY, .ref h_t_pair_near, .int t_pair_threefold, .long t_pair_leastX, .long t_pair_leastY, .long t_pair_leastLower])), (h_t_pair_first, .inr (2, [.ref h_t_pair_first_chain, .ref h_t_pair_first_x, .ref h_t_pair_first_y, .ref h_t_pair_first_sorted, .int t_pair_first_size])), (h_t_pair_first_chain, .inl (cI, 48, .inl t_pair_first_chain)), (h_t_pair_first_x, .inl (cI, 48, .inl t_pair_first_x)), (h_t_pair_first_y, .inl (cI, 48, .inl t_pair_first_y)), (h_t_pair_first_sorted, .inl (cI, 24, .inl t_pair_first_sorted)), (h_t_pair_second, .inr (2, [.ref h_t_pair_second_chain, .ref h_t_pair_second_x, .ref h_t_pair_second_y, .ref h_t_pair_second_sorted, .int t_pair_second_size])), (h_t_pair_second_chain, .inl (cI, 48, .inl t_pair_second_chain)), (h_t_pair_second_x, .inl (cI, 48, .inl t_pair_second_x)), (h_t_pair_second_y, .inl (cI, 48, .inl t_pair_second_y)), (h_t_pair_second_sorted, .inl (cI, 24, .inl t_pair_second_sorted)), (h_t_pair_third, .inr (2, [.ref h_t_pair_third_chain, .ref h_t_pair_third_x, .ref h_t_pair_third_y, .ref h_t_pair_third_sorted, .int t_pair_third_size])), (h_t_pair_third_x, .inl (cI, 48, .inl t_pair_third_x)), (h_t_pair_third_y, .inl (cI, 48, .inl t_pair_third_y)), (h_t_pair_place, .inr (6, [.long t_pair_place_x, .long t_pair_place_y, .long t_pair_place_lower])), (h_t_pair_near, .inr (4, [.long t_pair_near_x, .long t_pair_near_y, .long t_pair_near_lower, .long t_pair_near_square, .long t_pair_near_squareLower, .int t_pair_near_fromX, .int t_pair_near_fromY]))]) (w2 := [(h_t, .inr (11, [.ref h_t_cloud, .ref h_t_reader, .ref h_t_hull, .ref h_t_near, .ref h_t_firstTie, .ref h_t_reducer, .ref h_t_chooser, .ref h_t_pair, .ref h_t_divider, .ref h_t_depths, .ref h_t_spot])), (h_t_cloud, .inr (0, [.ref h_t_cloud_x, .ref h_t_cloud_y, .ref h_t_cloud_colour, .ref h_t_cloud_load, .int t_cloud_size, .int t_cloud_centreX, .int t_cloud_centreY])), (h_t_cloud_x, .inl (cI, 24, .inl t_cloud_x)), (h_t_cloud_y, .inl (cI, 24, .inl t_cloud_y)), (h_t_pair, .inr (3, [.ref h_t_pair_first, .ref h_t_pair_second, .ref h_t_pair_third, .ref h_t_pair_place, .long t_pair_gapSquare, .long t_pair_gapLower, .long t_pair_gapX, .long t_pair_gapY, .ref h_t_pair_near, .int t_pair_threefold, .long t_pair_leastX, .long t_pair_leastY, .long t_pair_leastLower])), (h_t_pair_first, .inr (2, [.ref h_t_pair_first_chain, .ref h_t_pair_first_x, .ref h_t_pair_first_y, .ref h_t_pair_first_sorted, .int t_pair_first_size])), (h_t_pair_first_chain, .inl (cI, 48, .inl t_pair_first_chain)), (h_t_pair_first_x, .inl (cI, 48, .inl t_pair_first_x)), (h_t_pair_first_y, .inl (cI, 48, .inl t_pair_first_y)), (h_t_pair_first_sorted, .inl (cI, 24, .inl t_pair_first_sorted)), (h_t_pair_second, .inr (2, [.ref h_t_pair_second_chain, .ref h_t_pair_second_x, .ref h_t_pair_second_y, .ref h_t_pair_second_sorted, .int t_pair_second_size])), (h_t_pair_second_chain, .inl (cI, 48, .inl t_pair_second_chain)), (h_t_pair_second_x, .inl (cI, 48, .inl t_pair_second_x)), (h_t_pair_second_y, .inl (cI, 48, .inl t_pair_second_y)), (h_t_pair_second_sorted, .inl (cI, 24, .inl t_pair_second_sorted)), (h_t_pair_third, .inr (2, [.ref h_t_pair_third_chain, .ref h_t_pair_third_x, .ref h_t_pair_third_y, .ref h_t_pair_third_sorted, .int t_pair_third_size])), (h_t_pair_third_x, .inl (cI, 48, .inl t_pair_third_x)), (h_t_pair_third_y, .inl (cI, 48, .inl t_pair_third_y)), (h_t_pair_place, .inr (6, [.long t_pair_place_x, .long t_pair_place_y, .long t_pair_place_lower])), (h_t_pair_near, .inr (4, [.long t_pair_near_x, .long t_pair_near_y, .long t_pair_near_lower, .long t_pair_near_square, .long t_pair_near_squareLower, .int t_pair_near_fromX, .int t_pair_near_fromY]))]) (va_runV (As := [.int a1]) (rest := []) ⟨hx, hb, hml, hown, hts⟩ (mtX0_hasSet l dC dI cI cL cB K h_t_cloud h_t_cloud_x h_t_cloud_y h_t_cloud_colour h_t_cloud_load H.size t_cloud_size t_cloud_centreX t_cloud_centreY a1 r_1 hq_2) (cwV 1 hts gv_X11_152 rfl rfl rfl hdV_X0_hasSet ⟨Nat.le_trans (Nat.le_of_ble_eq_true rfl) hF, Nat.le_trans (Nat.le_of_ble_eq_true rfl) hLo⟩) (cPreV hK hP hD hT [1] rfl rfl (ci := 0) (q0 := 0) rfl rfl) rfl rfl hl.1 rfl (lv_room (Nat.le_of_ble_eq_true rfl)) dX11_apart_5 ⟨Nat.zero_le _, Nat.zero_le _⟩) hP hD hS hA [1] [0, 2, 3, 4, 5, 6, 7, 8, 9, 10, 11, 12, 13, 14, 15, 16, 17, 18, 19] [0, 19, 1, 2, 3, 4, 5, 6, 7, 8, 9, 10, 11, 12, 13, 14, 15, 16, 17, 18] rfl rfl rfl rfl rfl rfl (fun H locs hP hD hS => ?_)
  refine lv_if_eq (tgt := 22) hx hb dX11_apart_8 (by decide) (fun hc => ?_) (fun hc => ?_)
  · replace hf := it_t (hc) hf
    refine lv_ldc2 (v := (-9223372036854775808 : Int64)) hx hb hown (hts _ qj_X11_131) dX11_apart_22 ?_
    obtain ⟨rfl, rfl, rfl, rfl, rfl, rfl, rfl, rfl, rfl, rfl, rfl, rfl, rfl, rfl, rfl, rfl, rfl, rfl, rfl, rfl, rfl, rfl, rfl, rfl, rfl, rfl, rfl, rfl, rfl⟩ := o29 hf
    exact W.lret hx hb hr (fun t ht hW => ⟨⟨_, (), rfl, rfl, by rw [ht]; exact hP, hD⟩, hS.F ht⟩) hS.2.2 dX11_apart_25
  · replace hf := it_f (hc) hf
    refine lv_aload_n hx hb dX11_apart_11 rfl (lv_at hl 0 rfl) ?_
    refine va_get (D := (dC, dI)) (ci := 11) (v := .ref h_t_cloud) (C := RX11) (T := TX11) (N := 11) hx hb hts in_X11 hown hK hP 0 rfl rfl 0 (Nat.le_of_ble_eq_true rfl) (hts _ qf_X11_12) (fun _ h9 => h9) rfl dX11_apart_12 ?_
    refine lv_iload_n hx hb dX11_apart_15 rfl (lv_at hl 2 rfl) ?_
    obtain ⟨r_3, hq_4, hf⟩ := b1_some hf
    refine xci (wr := [(h_t, .inr (11, [.ref h_t_cloud, .ref h_t_reader, .ref h_t_hull, .ref h_t_near, .ref h_t_firstTie, .ref h_t_reducer, .ref h_t_chooser, .ref h_t_pair, .ref h_t_divider, .ref h_t_depths, .ref h_t_spot])), (h_t_cloud_x, .inl (cI, 24, .inl t_cloud_x)), (h_t_cloud_y, .inl (cI, 24, .inl t_cloud_y)), (h_t_pair, .inr (3, [.ref h_t_pair_first, .ref h_t_pair_second, .ref h_t_pair_third, .ref h_t_pair_place, .long t_pair_gapSquare, .long t_pair_gapLower, .long t_pair_gapX, .long t_pair_gapY, .ref h_t_pair_near, .int t_pair_threefold, .long t_pair_leastX, .long t_pair_leastY, .long t_pair_leastLower])), (h_t_pair_first, .inr (2, [.ref h_t_pair_first_chain, .ref h_t_pair_first_x, .ref h_t_pair_first_y, .ref h_t_pair_first_sorted, .int t_pair_first_size])), (h_t_pair_first_chain, .inl (cI, 48, .inl t_pair_first_chain)), (h_t_pair_first_x, .inl (cI, 48, .inl t_pair_first_x)), (h_t_pair_first_y, .inl (cI, 48, .inl t_pair_first_y)), (h_t_pair_first_sorted, .inl (cI, 24, .inl t_pair_first_sorted)), (h_t_pair_second, .inr (2, [.ref h_t_pair_second_chain, .ref h_t_pair_second_x, .ref h_t_pair_second_y, .ref h_t_pair_second_sorted, .int t_pair_second_size])), (h_t_pair_second_chain, .inl (cI, 48, .inl t_pair_second_chain)), (h_t_pair_second_x, .inl (cI, 48, .inl t_pair_second_x)), (h_t_pair_second_y, .inl (cI, 48, .inl t_pair_second_y)), (h_t_pair_second_sorted, .inl (cI, 24, .inl t_pair_second_sorted)), (h_t_pair_third, .inr (2, [.ref h_t_pair_third_chain, .ref h_t_pair_third_x, .ref h_t_pair_third_y, .ref h_t_pair_third_sorted, .int t_pair_third_size])), (h_t_pair_third_x, .inl (cI, 48, .inl t_pair_third_x)), (h_t_pair_third_y, .inl (cI, 48, .inl t_pair_third_y)), (h_t_pair_place, .inr (6, [.long t_pair_place_x, .long t_pair_place_y, .long t_pair_place_lower])), (h_t_pair_near, .inr (4, [.long t_pair_near_x, .long t_pair_near_y, .long t_pair_near_lower, .long t_pair_near_square, .long t_pair_near_squareLower, .int t_pair_near_fromX, .int t_pair_near_fromY]))]) (w2 := [(h_t, .inr (11, [.ref h_t_cloud, .ref h_t_reader, .ref h_t_hull, .ref h_t_near, .ref h_t_firstTie, .ref h_t_reducer, .ref h_t_chooser, .ref h_t_pair, .ref h_t_divider, .ref h_t_depths, .ref h_t_spot])), (h_t_cloud, .inr (0, [.ref h_t_cloud_x, .ref h_t_cloud_y, .ref h_t_cloud_colour, .ref h_t_cloud_load, .int t_cloud_size, .int t_cloud_centreX, .int t_cloud_centreY])), (h_t_cloud_x, .inl (cI, 24, .inl t_cloud_x)), (h_t_cloud_y, .inl (cI, 24, .inl t_cloud_y)), (h_t_pair, .inr (3, [.ref h_t_pair_first, .ref h_t_pair_second, .ref h_t_pair_third, .ref h_t_pair_place, .long t_pair_gapSquare, .long t_pair_gapLower, .long t_pair_gapX, .long t_pair_gapY, .ref h_t_pair_near, .int t_pair_threefold, .long t_pair_leastX, .long t_pair_leastY, .long t_pair_leastLower])), (h_t_pair_first, .inr (2, [.ref h_t_pair_first_chain, .ref h_t_pair_first_x, .ref h_t_pair_first_y, .ref h_t_pair_first_sorted, .int t_pair_first_size])), (h_t_pair_first_chain, .inl (cI, 48, .inl t_pair_first_chain)), (h_t_pair_first_x, .inl (cI, 48, .inl t_pair_first_x)), (h_t_pair_first_y, .inl (cI, 48, .inl t_pair_first_y)), (h_t_pair_first_sorted, .inl (cI, 24, .inl t_pair_first_sorted)), (h_t_pair_second, .inr (2, [.ref h_t_pair_second_chain, .ref h_t_pair_second_x, .ref h_t_pair_second_y, .ref h_t_pair_second_sorted, .int t_pair_second_size])), (h_t_pair_second_chain, .inl (cI, 48, .inl t_pair_second_chain)), (h_t_pair_second_x, .inl (cI, 48, .inl t_pair_second_x)), (h_t_pair_second_y, .inl (cI, 48, .inl t_pair_second_y)), (h_t_pair_second_sorted, .inl (cI, 24, .inl t_pair_second_sorted)), (h_t_pair_third, .inr (2, [.ref h_t_pair_third_chain, .ref h_t_pair_third_x, .ref h_t_pair_third_y, .ref h_t_pair_third_sorted, .int t_pair_third_size])), (h_t_pair_third_x, .inl (cI, 48, .inl t_pair_third_x)), (h_t_pair_third_y, .inl (cI, 48, .inl t_pair_third_y)), (h_t_pair_place, .inr (6, [.long t_pair_place_x, .long t_pair_place_y, .long t_pair_place_lower])), (h_t_pair_near, .inr (4, [.long t_pair_near_x, .long t_pair_near_y, .long t_pair_near_lower, .long t_pair_near_square, .long t_pair_near_squareLower, .int t_pair_near_fromX, .int t_pair_near_fromY]))]) (va_runV (As := [.int a2]) (rest := []) ⟨hx, hb, hml, hown, hts⟩ (mtX0_hasSet l dC dI cI cL cB K h_t_cloud h_t_cloud_x h_t_cloud_y h_t_cloud_colour h_t_cloud_load H.size t_cloud_size t_cloud_centreX t_cloud_centreY a2 r_3 hq_4) (cwV 1 hts gv_X11_152 rfl rfl rfl hdV_X0_hasSet ⟨Nat.le_trans (Nat.le_of_ble_eq_true rfl) hF, Nat.le_trans (Nat.le_of_ble_eq_true rfl) hLo⟩) (cPreV hK hP hD hT [1] rfl rfl (ci := 0) (q0 := 0) rfl rfl) rfl rfl hl.1 rfl (lv_room (Nat.le_of_ble_eq_true rfl)) dX11_apart_16 ⟨Nat.zero_le _, Nat.zero_le _⟩) hP hD hS hA [1] [0, 2, 3, 4, 5, 6, 7, 8, 9, 10, 11, 12, 13, 14, 15, 16, 17, 18, 19] [0, 19, 1, 2, 3, 4, 5, 6, 7, 8, 9, 10, 11, 12, 13, 14, 15, 16, 17, 18] rfl rfl rfl rfl rfl rfl (fun H locs hP hD hS => ?_)
    refine lv_if_ne (tgt := 26) hx hb dX11_apart_19 (by decide) (fun hc => ?_) (fun hc => ?_)
    · replace hf := it_f (hc) hf
      refine lv_aload_n hx hb dX11_apart_26 rfl (lv_at hl 0 rfl) ?_
      refine va_get (D := (dC, dI)) (ci := 11) (v := .ref h_t_pair) (C := RX11) (T := TX11) (N := 11) hx hb hts in_X11 hown hK hP 0 rfl rfl 7 (Nat.le_of_ble_eq_true rfl) (hts _ qf_X11_63) (fun _ h9 => h9) rfl dX11_apart_27 ?_
      refine lv_aload_n hx hb dX11_apart_30 rfl (lv_at hl 0 rfl) ?_
      refine va_get (D := (dC, dI)) (ci := 11) (v := .ref h_t_cloud) (C := RX11) (T := TX11) (N := 11) hx hb hts in_X11 hown hK hP 0 rfl rfl 0 (Nat.le_of_ble_eq_true rfl) (hts _ qf_X11_12) (fun _ h9 => h9) rfl dX11_apart_31 ?_
      refine lv_iload_n hx hb dX11_apart_34 rfl (lv_at hl 1 rfl) ?_
      refine lv_iload_n hx hb dX11_apart_35 rfl (lv_at hl 2 rfl) ?_
      obtain ⟨t_pair_threefold_5, t_pair_first_size_6, t_pair_first_chain_7, t_pair_first_x_8, t_pair_first_y_9, t_pair_first_sorted_10, t_pair_second_size_11, t_pair_second_chain_12, t_pair_second_x_13, t_pair_second_y_14, t_pair_second_sorted_15, hq_16, hf⟩ := b11_some hf
      refine xcv (wr := [(h_t, .inr (11, [.ref h_t_cloud, .ref h_t_reader, .ref h_t_hull, .ref h_t_near, .ref h_t_firstTie, .ref h_t_reducer, .ref h_t_chooser, .ref h_t_pair, .ref h_t_divider, .ref h_t_depths, .ref h_t_spot])), (h_t_pair_third, .inr (2, [.ref h_t_pair_third_chain, .ref h_t_pair_third_x, .ref h_t_pair_third_y, .ref h_t_pair_third_sorted, .int t_pair_third_size])), (h_t_pair_third_x, .inl (cI, 48, .inl t_pair_third_x)), (h_t_pair_third_y, .inl (cI, 48, .inl t_pair_third_y)), (h_t_pair_place, .inr (6, [.long t_pair_place_x, .long t_pair_place_y, .long t_pair_place_lower])), (h_t_pair_near, .inr (4, [.long t_pair_near_x, .long t_pair_near_y, .long t_pair_near_lower, .long t_pair_near_square, .long t_pair_near_squareLower, .int t_pair_near_fromX, .int t_pair_near_fromY]))]) (w2 := [(h_t, .inr (11, [.ref h_t_cloud, .ref h_t_reader, .ref h_t_hull, .ref h_t_near, .ref h_t_firstTie, .ref h_t_reducer, .ref h_t_chooser, .ref h_t_pair, .ref h_t_divider, .ref h_t_depths, .ref h_t_spot])), (h_t_cloud, .inr (0, [.ref h_t_cloud_x, .ref h_t_cloud_y, .ref h_t_cloud_colour, .ref h_t_cloud_load, .int t_cloud_size, .int t_cloud_centreX, .int t_cloud_centreY])), (h_t_cloud_x, .inl (cI, 24, .inl t_cloud_x)), (h_t_cloud_y, .inl (cI, 24, .inl t_cloud_y)), (h_t_pair, .inr (3, [.ref h_t_pair_first, .ref h_t_pair_second, .ref h_t_pair_third, .ref h_t_pair_place, .long t_pair_gapSquare, .long t_pair_gapLower, .long t_pair_gapX, .long t_pair_gapY, .ref h_t_pair_near, .int t_pair_threefold_5, .long t_pair_leastX, .long t_pair_leastY, .long t_pair_leastLower])), (h_t_pair_first, .inr (2, [.ref h_t_pair_first_chain, .ref h_t_pair_first_x, .ref h_t_pair_first_y, .ref h_t_pair_first_sorted, .int t_pair_first_size_6])), (h_t_pair_first_chain, .inl (cI, 48, .inl t_pair_first_chain_7)), (h_t_pair_first_x, .inl (cI, 48, .inl t_pair_first_x_8)), (h_t_pair_first_y, .inl (cI, 48, .inl t_pair_first_y_9)), (h_t_pair_first_sorted, .inl (cI, 24, .inl t_pair_first_sorted_10)), (h_t_pair_second, .inr (2, [.ref h_t_pair_second_chain, .ref h_t_pair_second_x, .ref h_t_pair_second_y, .ref h_t_pair_second_sorted, .int t_pair_second_size_11])), (h_t_pair_second_chain, .inl (cI, 48, .inl t_pair_second_chain_12)), (h_t_pair_second_x, .inl (cI, 48, .inl t_pair_second_x_13)), (h_t_pair_second_y, .inl (cI, 48, .inl t_pair_second_y_14)), (h_t_pair_second_sorted, .inl (cI, 24, .inl t_pair_second_sorted_15)), (h_t_pair_third, .inr (2, [.ref h_t_pair_third_chain, .ref h_t_pair_third_x, .ref h_t_pair_third_y, .ref h_t_pair_third_sorted, .int t_pair_third_size])), (h_t_pair_third_x, .inl (cI, 48, .inl t_pair_third_x)), (h_t_pair_third_y, .inl (cI, 48, .inl t_pair_third_y)), (h_t_pair_place, .inr (6, [.long t_pair_place_x, .long t_pair_place_y, .long t_pair_place_lower])), (h_t_pair_near, .inr (4, [.long t_pair_near_x, .long t_pair_near_y, .long t_pair_near_lower, .long t_pair_near_square, .long t_pair_near_squareLower, .int t_pair_near_fromX, .int t_pair_near_fromY]))]) (va_runV (As := [.ref h_t_cloud, .int a1, .int a2]) (rest := []) ⟨hx, hb, hml, hown, hts⟩ (mtX3_take l dC dI cI cL cB K h_t_pair h_t_pair_first h_t_pair_second h_t_pair_third h_t_pair_place h_t_pair_near h_t_pair_first_chain h_t_pair_first_x h_t_pair_first_y h_t_pair_first_sorted h_t_pair_second_chain h_t_pair_second_x h_t_pair_second_y h_t_pair_second_sorted h_t_cloud h_t_cloud_x h_t_cloud_y h_t_cloud_colour h_t_cloud_load H.size t_pair_gapSquare t_pair_gapLower t_pair_gapX t_pair_gapY t_pair_threefold t_pair_leastX t_pair_leastY t_pair_leastLower t_pair_first_size t_pair_first_chain t_pair_first_x t_pair_first_y t_pair_first_sorted t_pair_second_size t_pair_second_chain t_pair_second_x t_pair_second_y t_pair_second_sorted t_cloud_size t_cloud_centreX t_cloud_centreY t_cloud_x t_cloud_y a1 a2 t_pair_threefold_5 t_pair_first_size_6 t_pair_first_chain_7 t_pair_first_x_8 t_pair_first_y_9 t_pair_first_sorted_10 t_pair_second_size_11 t_pair_second_chain_12 t_pair_second_x_13 t_pair_second_y_14 t_pair_second_sorted_15 hq_16) (cwV 3 hts gv_X11_301 rfl rfl rfl hdV_X3_take ⟨Nat.le_trans (Nat.le_of_ble_eq_true rfl) hF, Nat.le_trans (Nat.le_of_ble_eq_true rfl) hLo⟩) (cPreV hK hP hD hT [4, 5, 6, 7, 8, 9, 10, 11, 12, 13, 14, 1, 2, 3] rfl rfl (ci := 3) (q0 := 0) rfl rfl) rfl rfl hl.1 rfl (lv_room (Nat.le_of_ble_eq_true rfl)) dX11_apart_36 ⟨Nat.zero_le _, Nat.zero_le _⟩) hP hD hS hA [4, 5, 6, 7, 8, 9, 10, 11, 12, 13, 14, 1, 2, 3] [0, 15, 16, 17, 18, 19] [0, 17, 18, 19, 6, 7, 8, 9, 10, 11, 12, 13, 14, 15, 16, 1, 2, 3, 4, 5] rfl rfl rfl rfl rfl rfl (fun H locs hP hD hS => ?_)
      refine lv_aload_n hx hb dX11_apart_39 rfl (lv_at hl 0 rfl) ?_
      refine va_get (D := (dC, dI)) (ci := 11) (v := .ref h_t_pair) (C := RX11) (T := TX11) (N := 11) hx hb hts in_X11 hown hK hP 0 rfl rfl 7 (Nat.le_of_ble_eq_true rfl) (hts _ qf_X11_63) (fun _ h9 => h9) rfl dX11_apart_40 ?_
      obtain ⟨r_17, t_pair_leastX_18, t_pair_leastY_19, t_pair_leastLower_20, t_pair_place_x_21, t_pair_place_y_22, t_pair_place_lower_23, hq_24, hf⟩ := b7_some hf
      refine xci (wr := [(h_t, .inr (11, [.ref h_t_cloud, .ref h_t_reader, .ref h_t_hull, .ref h_t_near, .ref h_t_firstTie, .ref h_t_reducer, .ref h_t_chooser, .ref h_t_pair, .ref h_t_divider, .ref h_t_depths, .ref h_t_spot])), (h_t_cloud, .inr (0, [.ref h_t_cloud_x, .ref h_t_cloud_y, .ref h_t_cloud_colour, .ref h_t_cloud_load, .int t_cloud_size, .int t_cloud_centreX, .int t_cloud_centreY])), (h_t_cloud_x, .inl (cI, 24, .inl t_cloud_x)), (h_t_cloud_y, .inl (cI, 24, .inl t_cloud_y)), (h_t_pair_first_chain, .inl (cI, 48, .inl t_pair_first_chain_7)), (h_t_pair_first_sorted, .inl (cI, 24, .inl t_pair_first_sorted_10)), (h_t_pair_second_chain, .inl (cI, 48, .inl t_pair_second_chain_12)), (h_t_pair_second_sorted, .inl (cI, 24, .inl t_pair_second_sorted_15)), (h_t_pair_near, .inr (4, [.long t_pair_near_x, .long t_pair_near_y, .long t_pair_near_lower, .long t_pair_near_square, .long t_pair_near_squareLower, .int t_pair_near_fromX, .int t_pair_near_fromY]))]) (w2 := [(h_t, .inr (11, [.ref h_t_cloud, .ref h_t_reader, .ref h_t_hull, .ref h_t_near, .ref h_t_firstTie, .ref h_t_reducer, .ref h_t_chooser, .ref h_t_pair, .ref h_t_divider, .ref h_t_depths, .ref h_t_spot])), (h_t_cloud, .inr (0, [.ref h_t_cloud_x, .ref h_t_cloud_y, .ref h_t_cloud_colour, .ref h_t_cloud_load, .int t_cloud_size, .int t_cloud_centreX, .int t_cloud_centreY])), (h_t_cloud_x, .inl (cI, 24, .inl t_cloud_x)), (h_t_cloud_y, .inl (cI, 24, .inl t_cloud_y)), (h_t_pair, .inr (3, [.ref h_t_pair_first, .ref h_t_pair_second, .ref h_t_pair_third, .ref h_t_pair_place, .long t_pair_gapSquare, .long t_pair_gapLower, .long t_pair_gapX, .long t_pair_gapY, .ref h_t_pair_near, .int t_pair_threefold_5, .long t_pair_leastX_18, .long t_pair_leastY_19, .long t_pair_leastLower_20])), (h_t_pair_first, .inr (2, [.ref h_t_pair_first_chain, .ref h_t_pair_first_x, .ref h_t_pair_first_y, .ref h_t_pair_first_sorted, .int t_pair_first_size_6])), (h_t_pair_first_chain, .inl (cI, 48, .inl t_pair_first_chain_7)), (h_t_pair_first_x, .inl (cI, 48, .inl t_pair_first_x_8)), (h_t_pair_first_y, .inl (cI, 48, .inl t_pair_first_y_9)), (h_t_pair_first_sorted, .inl (cI, 24, .inl t_pair_first_sorted_10)), (h_t_pair_second, .inr (2, [.ref h_t_pair_second_chain, .ref h_t_pair_second_x, .ref h_t_pair_second_y, .ref h_t_pair_second_sorted, .int t_pair_second_size_11])), (h_t_pair_second_chain, .inl (cI, 48, .inl t_pair_second_chain_12)), (h_t_pair_second_x, .inl (cI, 48, .inl t_pair_second_x_13)), (h_t_pair_second_y, .inl (cI, 48, .inl t_pair_second_y_14)), (h_t_pair_second_sorted, .inl (cI, 24, .inl t_pair_second_sorted_15)), (h_t_pair_third, .inr (2, [.ref h_t_pair_third_chain, .ref h_t_pair_third_x, .ref h_t_pair_third_y, .ref h_t_pair_third_sorted, .int t_pair_third_size])), (h_t_pair_third_x, .inl (cI, 48, .inl t_pair_third_x)), (h_t_pair_third_y, .inl (cI, 48, .inl t_pair_third_y)), (h_t_pair_place, .inr (6, [.long t_pair_place_x_21, .long t_pair_place_y_22, .long t_pair_place_lower_23])), (h_t_pair_near, .inr (4, [.long t_pair_near_x, .long t_pair_near_y, .long t_pair_near_lower, .long t_pair_near_square, .long t_pair_near_squareLower, .int t_pair_near_fromX, .int t_pair_near_fromY]))]) (va_runV (As := []) (rest := []) ⟨hx, hb, hml, hown, hts⟩ (mtX3_find l dC dI cI cL cB K h_t_pair h_t_pair_first h_t_pair_second h_t_pair_third h_t_pair_place h_t_pair_near h_t_pair_first_chain h_t_pair_first_x h_t_pair_first_y h_t_pair_first_sorted h_t_pair_second_chain h_t_pair_second_x h_t_pair_second_y h_t_pair_second_sorted h_t_pair_third_chain h_t_pair_third_x h_t_pair_third_y h_t_pair_third_sorted H.size t_pair_gapSquare t_pair_gapLower t_pair_gapX t_pair_gapY t_pair_threefold_5 t_pair_leastX t_pair_leastY t_pair_leastLower t_pair_first_size_6 t_pair_first_x_8 t_pair_first_y_9 t_pair_second_size_11 t_pair_second_x_13 t_pair_second_y_14 t_pair_third_size t_pair_third_x t_pair_third_y t_pair_place_x t_pair_place_y t_pair_place_lower r_17 t_pair_leastX_18 t_pair_leastY_19 t_pair_leastLower_20 t_pair_place_x_21 t_pair_place_y_22 t_pair_place_lower_23 hq_24) (cwV 0 hts gv_X11_305 rfl rfl rfl hdV_X3_find ⟨Nat.le_trans (Nat.le_of_ble_eq_true rfl) hF, Nat.le_trans (Nat.le_of_ble_eq_true rfl) hLo⟩) (cPreV hK hP hD hT [4, 5, 7, 8, 10, 12, 13, 15, 16, 17, 18] rfl rfl (ci := 3) (q0 := 0) rfl rfl) rfl rfl hl.1 rfl (lv_room (Nat.le_of_ble_eq_true rfl)) dX11_apart_43 ⟨Nat.zero_le _, Nat.zero_le _⟩) hP hD hS hA [4, 5, 7, 8, 10, 12, 13, 15, 16, 17, 18] [0, 1, 2, 3, 6, 9, 11, 14, 19] [0, 1, 2, 3, 9, 10, 4, 11, 12, 5, 13, 6, 14, 15, 7, 16, 17, 18, 19, 8] rfl rfl rfl rfl rfl rfl (fun H locs hP hD hS => ?_)
      refine lv_if_ne (tgt := 59) hx hb dX11_apart_46 (by decide) (fun hc => ?_) (fun hc => ?_)
      · replace hf := it_f (hc) hf
        refine lv_ldc2 (v := (-9223372036854775808 : Int64)) hx hb hown (hts _ qj_X11_131) dX11_apart_59 ?_
        obtain ⟨rfl, rfl, rfl, rfl, rfl, rfl, rfl, rfl, rfl, rfl, rfl, rfl, rfl, rfl, rfl, rfl, rfl, rfl, rfl, rfl, rfl, rfl, rfl, rfl, rfl, rfl, rfl, rfl, rfl⟩ := o29 hf
        exact W.lret hx hb hr (fun t ht hW => ⟨⟨_, (), rfl, rfl, by rw [ht]; exact hP, hD⟩, hS.F ht⟩) hS.2.2 dX11_apart_62
      · replace hf := it_t (hc) hf
        refine lv_aload_n hx hb dX11_apart_49 rfl (lv_at hl 0 rfl) ?_
        refine va_get (D := (dC, dI)) (ci := 11) (v := .ref h_t_pair) (C := RX11) (T := TX11) (N := 11) hx hb hts in_X11 hown hK hP 0 rfl rfl 7 (Nat.le_of_ble_eq_true rfl) (hts _ qf_X11_63) (fun _ h9 => h9) rfl dX11_apart_50 ?_
        obtain ⟨r_25, t_pair_gapSquare_26, t_pair_gapLower_27, t_pair_gapX_28, t_pair_gapY_29, t_pair_near_x_30, t_pair_near_y_31, t_pair_near_lower_32, t_pair_near_square_33, t_pair_near_squareLower_34, t_pair_near_fromX_35, t_pair_near_fromY_36, hq_37, hf⟩ := b12_some hf
        refine xci (wr := [(h_t, .inr (11, [.ref h_t_cloud, .ref h_t_reader, .ref h_t_hull, .ref h_t_near, .ref h_t_firstTie, .ref h_t_reducer, .ref h_t_chooser, .ref h_t_pair, .ref h_t_divider, .ref h_t_depths, .ref h_t_spot])), (h_t_cloud, .inr (0, [.ref h_t_cloud_x, .ref h_t_cloud_y, .ref h_t_cloud_colour, .ref h_t_cloud_load, .int t_cloud_size, .int t_cloud_centreX, .int t_cloud_centreY])), (h_t_cloud_x, .inl (cI, 24, .inl t_cloud_x)), (h_t_cloud_y, .inl (cI, 24, .inl t_cloud_y)), (h_t_pair_first_chain, .inl (cI, 48, .inl t_pair_first_chain_7)), (h_t_pair_first_sorted, .inl (cI, 24, .inl t_pair_first_sorted_10)), (h_t_pair_second_chain, .inl (cI, 48, .inl t_pair_second_chain_12)), (h_t_pair_second_sorted, .inl (cI, 24, .inl t_pair_second_sorted_15)), (h_t_pair_third, .inr (2, [.ref h_t_pair_third_chain, .ref h_t_pair_third_x, .ref h_t_pair_third_y, .ref h_t_pair_third_sorted, .int t_pair_third_size])), (h_t_pair_third_x, .inl (cI, 48, .inl t_pair_third_x)), (h_t_pair_third_y, .inl (cI, 48, .inl t_pair_third_y)), (h_t_pair_place, .inr (6, [.long t_pair_place_x_21, .long t_pair_place_y_22, .long t_pair_place_lower_23]))]) (w2 := [(h_t, .inr (11, [.ref h_t_cloud, .ref h_t_reader, .ref h_t_hull, .ref h_t_near, .ref h_t_firstTie, .ref h_t_reducer, .ref h_t_chooser, .ref h_t_pair, .ref h_t_divider, .ref h_t_depths, .ref h_t_spot])), (h_t_cloud, .inr (0, [.ref h_t_cloud_x, .ref h_t_cloud_y, .ref h_t_cloud_colour, .ref h_t_cloud_load, .int t_cloud_size, .int t_cloud_centreX, .int t_cloud_centreY])), (h_t_cloud_x, .inl (cI, 24, .inl t_cloud_x)), (h_t_cloud_y, .inl (cI, 24, .inl t_cloud_y)), (h_t_pair, .inr (3, [.ref h_t_pair_first, .ref h_t_pair_second, .ref h_t_pair_third, .ref h_t_pair_place, .long t_pair_gapSquare_26, .long t_pair_gapLower_27, .long t_pair_gapX_28, .long t_pair_gapY_29, .ref h_t_pair_near, .int t_pair_threefold_5, .long t_pair_leastX_18, .long t_pair_leastY_19, .long t_pair_leastLower_20])), (h_t_pair_first, .inr (2, [.ref h_t_pair_first_chain, .ref h_t_pair_first_x, .ref h_t_pair_first_y, .ref h_t_pair_first_sorted, .int t_pair_first_size_6])), (h_t_pair_first_chain, .inl (cI, 48, .inl t_pair_first_chain_7)), (h_t_pair_first_x, .inl (cI, 48, .inl t_pair_first_x_8)), (h_t_pair_first_y, .inl (cI, 48, .inl t_pair_first_y_9)), (h_t_pair_first_sorted, .inl (cI, 24, .inl t_pair_first_sorted_10)), (h_t_pair_second, .inr (2, [.ref h_t_pair_second_chain, .ref h_t_pair_second_x, .ref h_t_pair_second_y, .ref h_t_pair_second_sorted, .int t_pair_second_size_11])), (h_t_pair_second_chain, .inl (cI, 48, .inl t_pair_second_chain_12)), (h_t_pair_second_x, .inl (cI, 48, .inl t_pair_second_x_13)), (h_t_pair_second_y, .inl (cI, 48, .inl t_pair_second_y_14)), (h_t_pair_second_sorted, .inl (cI, 24, .inl t_pair_second_sorted_15)), (h_t_pair_third, .inr (2, [.ref h_t_pair_third_chain, .ref h_t_pair_third_x, .ref h_t_pair_third_y, .ref h_t_pair_third_sorted, .int t_pair_third_size])), (h_t_pair_third_x, .inl (cI, 48, .inl t_pair_third_x)), (h_t_pair_third_y, .inl (cI, 48, .inl t_pair_third_y)), (h_t_pair_place, .inr (6, [.long t_pair_place_x_21, .long t_pair_place_y_22, .long t_pair_place_lower_23])), (h_t_pair_near, .inr (4, [.long t_pair_near_x_30, .long t_pair_near_y_31, .long t_pair_near_lower_32, .long t_pair_near_square_33, .long t_pair_near_squareLower_34, .int t_pair_near_fromX_35, .int t_pair_near_fromY_36]))]) (va_runV (As := []) (rest := []) ⟨hx, hb, hml, hown, hts⟩ (mtX3_measureGap l dC dI cI cL cB K h_t_pair h_t_pair_first h_t_pair_second h_t_pair_third h_t_pair_place h_t_pair_near h_t_pair_first_chain h_t_pair_first_x h_t_pair_first_y h_t_pair_first_sorted h_t_pair_second_chain h_t_pair_second_x h_t_pair_second_y h_t_pair_second_sorted H.size t_pair_gapSquare t_pair_gapLower t_pair_gapX t_pair_gapY t_pair_threefold_5 t_pair_leastX_18 t_pair_leastY_19 t_pair_leastLower_20 t_pair_first_size_6 t_pair_first_x_8 t_pair_first_y_9 t_pair_second_size_11 t_pair_second_x_13 t_pair_second_y_14 t_pair_near_x t_pair_near_y t_pair_near_lower t_pair_near_square t_pair_near_squareLower t_pair_near_fromX t_pair_near_fromY r_25 t_pair_gapSquare_26 t_pair_gapLower_27 t_pair_gapX_28 t_pair_gapY_29 t_pair_near_x_30 t_pair_near_y_31 t_pair_near_lower_32 t_pair_near_square_33 t_pair_near_squareLower_34 t_pair_near_fromX_35 t_pair_near_fromY_36 hq_37) (cwV 0 hts gv_X11_310 rfl rfl rfl hdV_X3_measureGap ⟨Nat.le_trans (Nat.le_of_ble_eq_true rfl) hF, Nat.le_trans (Nat.le_of_ble_eq_true rfl) hLo⟩) (cPreV hK hP hD hT [4, 5, 7, 8, 10, 12, 13, 19] rfl rfl (ci := 3) (q0 := 0) rfl rfl) rfl rfl hl.1 rfl (lv_room (Nat.le_of_ble_eq_true rfl)) dX11_apart_53 ⟨Nat.zero_le _, Nat.zero_le _⟩) hP hD hS hA [4, 5, 7, 8, 10, 12, 13, 19] [0, 1, 2, 3, 6, 9, 11, 14, 15, 16, 17, 18] [0, 1, 2, 3, 12, 13, 4, 14, 15, 5, 16, 6, 17, 18, 7, 8, 9, 10, 11, 19] rfl rfl rfl rfl rfl rfl (fun H locs hP hD hS => ?_)
        refine lv_if_ne (tgt := 63) hx hb dX11_apart_56 (by decide) (fun hc => ?_) (fun hc => ?_)
        · replace hf := it_f (hc) hf
          refine lv_iload_n hx hb dX11_apart_63 rfl (lv_at hl 3 rfl) ?_
          by_cases hk_38 : a3 = (0 : Int32)
          · replace hf := it_t hk_38 hf
            refine lv_tableIn (off := 36) (tgt := 100) hx hb dX11_apart_64 (by rw [hk_38]; decide) (by rw [hk_38]; decide) (by rw [hk_38]; decide) (by decide) ?_
            refine lv_aload_n hx hb dX11_apart_100 rfl (lv_at hl 0 rfl) ?_
            refine va_get (D := (dC, dI)) (ci := 11) (v := .ref h_t_pair) (C := RX11) (T := TX11) (N := 11) hx hb hts in_X11 hown hK hP 0 rfl rfl 7 (Nat.le_of_ble_eq_true rfl) (hts _ qf_X11_63) (fun _ h9 => h9) rfl dX11_apart_101 ?_
            refine va_get (D := (dC, dI)) (ci := 3) (v := .long t_pair_gapSquare_26) (C := RX3) (T := TX3) (N := 13) hx hb hts in_X3 hown hK hP 4 rfl rfl 4 (Nat.le_of_ble_eq_true rfl) (hts _ qf_X11_313) (fun _ h9 => h9) rfl dX11_apart_104 ?_
            obtain ⟨rfl, rfl, rfl, rfl, rfl, rfl, rfl, rfl, rfl, rfl, rfl, rfl, rfl, rfl, rfl, rfl, rfl, rfl, rfl, rfl, rfl, rfl, rfl, rfl, rfl, rfl, rfl, rfl, rfl⟩ := o29 hf
            exact W.lret hx hb hr (fun t ht hW => ⟨⟨_, (), rfl, rfl, by rw [ht]; exact hP, hD⟩, hS.F ht⟩) hS.2.2 dX11_apart_107
          · replace hf := it_f hk_38 hf
            by_cases hk_39 : a3 = (1 : Int32)
            · replace hf := it_t hk_39 hf
              refine lv_tableIn (off := 44) (tgt := 108) hx hb dX11_apart_64 (by rw [hk_39]; decide) (by rw [hk_39]; decide) (by rw [hk_39]; decide) (by decide) ?_
              refine lv_aload_n hx hb dX11_apart_108 rfl (lv_at hl 0 rfl) ?_
              refine va_get (D := (dC, dI)) (ci := 11) (v := .ref h_t_pair) (C := RX11) (T := TX11) (N := 11) hx hb hts in_X11 hown hK hP 0 rfl rfl 7 (Nat.le_of_ble_eq_true rfl) (hts _ qf_X11_63) (fun _ h9 => h9) rfl dX11_apart_109 ?_
              refine va_get (D := (dC, dI)) (ci := 3) (v := .long t_pair_gapLower_27) (C := RX3) (T := TX3) (N := 13) hx hb hts in_X3 hown hK hP 4 rfl rfl 5 (Nat.le_of_ble_eq_true rfl) (hts _ qf_X11_316) (fun _ h9 => h9) rfl dX11_apart_112 ?_
              obtain ⟨rfl, rfl, rfl, rfl, rfl, rfl, rfl, rfl, rfl, rfl, rfl, rfl, rfl, rfl, rfl, rfl, rfl, rfl, rfl, rfl, rfl, rfl, rfl, rfl, rfl, rfl, rfl, rfl, rfl⟩ := o29 hf
              exact W.lret hx hb hr (fun t ht hW => ⟨⟨_, (), rfl, rfl, by rw [ht]; exact hP, hD⟩, hS.F ht⟩) hS.2.2 dX11_apart_115
            · replace hf := it_f hk_39 hf
              by_cases hk_40 : a3 = (2 : Int32)
              · replace hf := it_t hk_40 hf
                refine lv_tableIn (off := 52) (tgt := 116) hx hb dX11_apart_64 (by rw [hk_40]; decide) (by rw [hk_40]; decide) (by rw [hk_40]; decide) (by decide) ?_
                refine lv_aload_n hx hb dX11_apart_116 rfl (lv_at hl 0 rfl) ?_
                refine va_get (D := (dC, dI)) (ci := 11) (v := .ref h_t_pair) (C := RX11) (T := TX11) (N := 11) hx hb hts in_X11 hown hK hP 0 rfl rfl 7 (Nat.le_of_ble_eq_true rfl) (hts _ qf_X11_63) (fun _ h9 => h9) rfl dX11_apart_117 ?_
                refine va_get (D := (dC, dI)) (ci := 3) (v := .long t_pair_gapX_28) (C := RX3) (T := TX3) (N := 13) hx hb hts in_X3 hown hK hP 4 rfl rfl 6 (Nat.le_of_ble_eq_true rfl) (hts _ qf_X11_319) (fun _ h9 => h9) rfl dX11_apart_120 ?_
                obtain ⟨rfl, rfl, rfl, rfl, rfl, rfl, rfl, rfl, rfl, rfl, rfl, rfl, rfl, rfl, rfl, rfl, rfl, rfl, rfl, rfl, rfl, rfl, rfl, rfl, rfl, rfl, rfl, rfl, rfl⟩ := o29 hf
                exact W.lret hx hb hr (fun t ht hW => ⟨⟨_, (), rfl, rfl, by rw [ht]; exact hP, hD⟩, hS.F ht⟩) hS.2.2 dX11_apart_123
              · replace hf := it_f hk_40 hf
                by_cases hk_41 : a3 = (3 : Int32)
                · replace hf := it_t hk_41 hf
                  refine lv_tableIn (off := 60) (tgt := 124) hx hb dX11_apart_64 (by rw [hk_41]; decide) (by rw [hk_41]; decide) (by rw [hk_41]; decide) (by decide) ?_
                  refine lv_aload_n hx hb dX11_apart_124 rfl (lv_at hl 0 rfl) ?_
                  refine va_get (D := (dC, dI)) (ci := 11) (v := .ref h_t_pair) (C := RX11) (T := TX11) (N := 11) hx hb hts in_X11 hown hK hP 0 rfl rfl 7 (Nat.le_of_ble_eq_true rfl) (hts _ qf_X11_63) (fun _ h9 => h9) rfl dX11_apart_125 ?_
                  refine va_get (D := (dC, dI)) (ci := 3) (v := .long t_pair_gapY_29) (C := RX3) (T := TX3) (N := 13) hx hb hts in_X3 hown hK hP 4 rfl rfl 7 (Nat.le_of_ble_eq_true rfl) (hts _ qf_X11_322) (fun _ h9 => h9) rfl dX11_apart_128 ?_
                  obtain ⟨rfl, rfl, rfl, rfl, rfl, rfl, rfl, rfl, rfl, rfl, rfl, rfl, rfl, rfl, rfl, rfl, rfl, rfl, rfl, rfl, rfl, rfl, rfl, rfl, rfl, rfl, rfl, rfl, rfl⟩ := o29 hf
                  exact W.lret hx hb hr (fun t ht hW => ⟨⟨_, (), rfl, rfl, by rw [ht]; exact hP, hD⟩, hS.F ht⟩) hS.2.2 dX11_apart_131
                · replace hf := it_f hk_41 hf
                  by_cases hk_42 : a3 = (4 : Int32)
                  · replace hf := it_t hk_42 hf
                    refine lv_tableIn (off := 68) (tgt := 132) hx hb dX11_apart_64 (by rw [hk_42]; decide) (by rw [hk_42]; decide) (by rw [hk_42]; decide) (by decide) ?_
                    refine lv_aload_n hx hb dX11_apart_132 rfl (lv_at hl 0 rfl) ?_
                    refine va_get (D := (dC, dI)) (ci := 11) (v := .ref h_t_pair) (C := RX11) (T := TX11) (N := 11) hx hb hts in_X11 hown hK hP 0 rfl rfl 7 (Nat.le_of_ble_eq_true rfl) (hts _ qf_X11_63) (fun _ h9 => h9) rfl dX11_apart_133 ?_
                    refine va_get (D := (dC, dI)) (ci := 3) (v := .ref h_t_pair_second) (C := RX3) (T := TX3) (N := 13) hx hb hts in_X3 hown hK hP 4 rfl rfl 1 (Nat.le_of_ble_eq_true rfl) (hts _ qf_X11_325) (fun _ h9 => h9) rfl dX11_apart_136 ?_
                    refine lv_aload_n hx hb dX11_apart_139 rfl (lv_at hl 0 rfl) ?_
                    refine va_get (D := (dC, dI)) (ci := 11) (v := .ref h_t_pair) (C := RX11) (T := TX11) (N := 11) hx hb hts in_X11 hown hK hP 0 rfl rfl 7 (Nat.le_of_ble_eq_true rfl) (hts _ qf_X11_63) (fun _ h9 => h9) rfl dX11_apart_140 ?_
                    refine va_get (D := (dC, dI)) (ci := 3) (v := .long t_pair_gapX_28) (C := RX3) (T := TX3) (N := 13) hx hb hts in_X3 hown hK hP 4 rfl rfl 6 (Nat.le_of_ble_eq_true rfl) (hts _ qf_X11_319) (fun _ h9 => h9) rfl dX11_apart_143 ?_
                    refine lv_aload_n hx hb dX11_apart_146 rfl (lv_at hl 0 rfl) ?_
                    refine va_get (D := (dC, dI)) (ci := 11) (v := .ref h_t_pair) (C := RX11) (T := TX11) (N := 11) hx hb hts in_X11 hown hK hP 0 rfl rfl 7 (Nat.le_of_ble_eq_true rfl) (hts _ qf_X11_63) (fun _ h9 => h9) rfl dX11_apart_147 ?_
                    refine va_get (D := (dC, dI)) (ci := 3) (v := .long t_pair_gapY_29) (C := RX3) (T := TX3) (N := 13) hx hb hts in_X3 hown hK hP 4 rfl rfl 7 (Nat.le_of_ble_eq_true rfl) (hts _ qf_X11_322) (fun _ h9 => h9) rfl dX11_apart_150 ?_
                    obtain ⟨r_43, hq_44, hf⟩ := b1_some hf
                    refine xcl (wr := [(h_t, .inr (11, [.ref h_t_cloud, .ref h_t_reader, .ref h_t_hull, .ref h_t_near, .ref h_t_firstTie, .ref h_t_reducer, .ref h_t_chooser, .ref h_t_pair, .ref h_t_divider, .ref h_t_depths, .ref h_t_spot])), (h_t_cloud, .inr (0, [.ref h_t_cloud_x, .ref h_t_cloud_y, .ref h_t_cloud_colour, .ref h_t_cloud_load, .int t_cloud_size, .int t_cloud_centreX, .int t_cloud_centreY])), (h_t_cloud_x, .inl (cI, 24, .inl t_cloud_x)), (h_t_cloud_y, .inl (cI, 24, .inl t_cloud_y)), (h_t_pair, .inr (3, [.ref h_t_pair_first, .ref h_t_pair_second, .ref h_t_pair_third, .ref h_t_pair_place, .long t_pair_gapSquare_26, .long t_pair_gapLower_27, .long t_pair_gapX_28, .long t_pair_gapY_29, .ref h_t_pair_near, .int t_pair_threefold_5, .long t_pair_leastX_18, .long t_pair_leastY_19, .long t_pair_leastLower_20])), (h_t_pair_first, .inr (2, [.ref h_t_pair_first_chain, .ref h_t_pair_first_x, .ref h_t_pair_first_y, .ref h_t_pair_first_sorted, .int t_pair_first_size_6])), (h_t_pair_first_chain, .inl (cI, 48, .inl t_pair_first_chain_7)), (h_t_pair_first_x, .inl (cI, 48, .inl t_pair_first_x_8)), (h_t_pair_first_y, .inl (cI, 48, .inl t_pair_first_y_9)), (h_t_pair_first_sorted, .inl (cI, 24, .inl t_pair_first_sorted_10)), (h_t_pair_second_chain, .inl (cI, 48, .inl t_pair_second_chain_12)), (h_t_pair_second_sorted, .inl (cI, 24, .inl t_pair_second_sorted_15)), (h_t_pair_third, .inr (2, [.ref h_t_pair_third_chain, .ref h_t_pair_third_x, .ref h_t_pair_third_y, .ref h_t_pair_third_sorted, .int t_pair_third_size])), (h_t_pair_third_x, .inl (cI, 48, .inl t_pair_third_x)), (h_t_pair_third_y, .inl (cI, 48, .inl t_pair_third_y)), (h_t_pair_place, .inr (6, [.long t_pair_place_x_21, .long t_pair_place_y_22, .long t_pair_place_lower_23])), (h_t_pair_near, .inr (4, [.long t_pair_near_x_30, .long t_pair_near_y_31, .long t_pair_near_lower_32, .long t_pair_near_square_33, .long t_pair_near_squareLower_34, .int t_pair_near_fromX_35, .int t_pair_near_fromY_36]))]) (w2 := [(h_t, .inr (11, [.ref h_t_cloud, .ref h_t_reader, .ref h_t_hull, .ref h_t_near, .ref h_t_firstTie, .ref h_t_reducer, .ref h_t_chooser, .ref h_t_pair, .ref h_t_divider, .ref h_t_depths, .ref h_t_spot])), (h_t_cloud, .inr (0, [.ref h_t_cloud_x, .ref h_t_cloud_y, .ref h_t_cloud_colour, .ref h_t_cloud_load, .int t_cloud_size, .int t_cloud_centreX, .int t_cloud_centreY])), (h_t_cloud_x, .inl (cI, 24, .inl t_cloud_x)), (h_t_cloud_y, .inl (cI, 24, .inl t_cloud_y)), (h_t_pair, .inr (3, [.ref h_t_pair_first, .ref h_t_pair_second, .ref h_t_pair_third, .ref h_t_pair_place, .long t_pair_gapSquare_26, .long t_pair_gapLower_27, .long t_pair_gapX_28, .long t_pair_gapY_29, .ref h_t_pair_near, .int t_pair_threefold_5, .long t_pair_leastX_18, .long t_pair_leastY_19, .long t_pair_leastLower_20])), (h_t_pair_first, .inr (2, [.ref h_t_pair_first_chain, .ref h_t_pair_first_x, .ref h_t_pair_first_y, .ref h_t_pair_first_sorted, .int t_pair_first_size_6])), (h_t_pair_first_chain, .inl (cI, 48, .inl t_pair_first_chain_7)), (h_t_pair_first_x, .inl (cI, 48, .inl t_pair_first_x_8)), (h_t_pair_first_y, .inl (cI, 48, .inl t_pair_first_y_9)), (h_t_pair_first_sorted, .inl (cI, 24, .inl t_pair_first_sorted_10)), (h_t_pair_second, .inr (2, [.ref h_t_pair_second_chain, .ref h_t_pair_second_x, .ref h_t_pair_second_y, .ref h_t_pair_second_sorted, .int t_pair_second_size_11])), (h_t_pair_second_chain, .inl (cI, 48, .inl t_pair_second_chain_12)), (h_t_pair_second_x, .inl (cI, 48, .inl t_pair_second_x_13)), (h_t_pair_second_y, .inl (cI, 48, .inl t_pair_second_y_14)), (h_t_pair_second_sorted, .inl (cI, 24, .inl t_pair_second_sorted_15)), (h_t_pair_third, .inr (2, [.ref h_t_pair_third_chain, .ref h_t_pair_third_x, .ref h_t_pair_third_y, .ref h_t_pair_third_sorted, .int t_pair_third_size])), (h_t_pair_third_x, .inl (cI, 48, .inl t_pair_third_x)), (h_t_pair_third_y, .inl (cI, 48, .inl t_pair_third_y)), (h_t_pair_place, .inr (6, [.long t_pair_place_x_21, .long t_pair_place_y_22, .long t_pair_place_lower_23])), (h_t_pair_near, .inr (4, [.long t_pair_near_x_30, .long t_pair_near_y_31, .long t_pair_near_lower_32, .long t_pair_near_square_33, .long t_pair_near_squareLower_34, .int t_pair_near_fromX_35, .int t_pair_near_fromY_36]))]) (va_runV (As := [.long t_pair_gapX_28, .long t_pair_gapY_29]) (rest := []) ⟨hx, hb, hml, hown, hts⟩ (mtX2_leastAlong l dC dI cI cL cB K h_t_pair_second h_t_pair_second_chain h_t_pair_second_x h_t_pair_second_y h_t_pair_second_sorted H.size t_pair_second_size_11 t_pair_second_x_13 t_pair_second_y_14 t_pair_gapX_28 t_pair_gapY_29 r_43 hq_44) (cwV 2 hts gv_X11_209 rfl rfl rfl hdV_X2_leastAlong ⟨Nat.le_trans (Nat.le_of_ble_eq_true rfl) hF, Nat.le_trans (Nat.le_of_ble_eq_true rfl) hLo⟩) (cPreV hK hP hD hT [10, 12, 13] rfl rfl (ci := 2) (q0 := 0) rfl rfl) rfl rfl hl.1 rfl (lv_room (Nat.le_of_ble_eq_true rfl)) dX11_apart_153 ⟨Nat.zero_le _, Nat.zero_le _⟩) hP hD hS hA [10, 12, 13] [0, 1, 2, 3, 4, 5, 6, 7, 8, 9, 11, 14, 15, 16, 17, 18, 19] [0, 1, 2, 3, 4, 5, 6, 7, 8, 9, 17, 10, 18, 19, 11, 12, 13, 14, 15, 16] rfl rfl rfl rfl rfl rfl (fun H locs hP hD hS => ?_)
                    obtain ⟨rfl, rfl, rfl, rfl, rfl, rfl, rfl, rfl, rfl, rfl, rfl, rfl, rfl, rfl, rfl, rfl, rfl, rfl, rfl, rfl, rfl, rfl, rfl, rfl, rfl, rfl, rfl, rfl, rfl⟩ := o29 hf
                    exact W.lret hx hb hr (fun t ht hW => ⟨⟨_, (), rfl, rfl, by rw [ht]; exact hP, hD⟩, hS.F ht⟩) hS.2.2 dX11_apart_156
                  · replace hf := it_f hk_42 hf
                    have z0 := lv_neT (a := 0) hk_38 (by decide)
                    have z1 := lv_neT (a := 1) hk_39 (by decide)
                    have z2 := lv_neT (a := 2) hk_40 (by decide)
                    have z3 := lv_neT (a := 3) hk_41 (by decide)
                    have z4 := lv_neT (a := 4) hk_42 (by decide)
                    refine lv_tableOut (tgt := 157) hx hb dX11_apart_64 (by omega) (by decide) ?_
                    refine lv_ldc2 (v := (-9223372036854775808 : Int64)) hx hb hown (hts _ qj_X11_131) dX11_apart_157 ?_
                    obtain ⟨rfl, rfl, rfl, rfl, rfl, rfl, rfl, rfl, rfl, rfl, rfl, rfl, rfl, rfl, rfl, rfl, rfl, rfl, rfl, rfl, rfl, rfl, rfl, rfl, rfl, rfl, rfl, rfl, rfl⟩ := o29 hf
                    exact W.lret hx hb hr (fun t ht hW => ⟨⟨_, (), rfl, rfl, by rw [ht]; exact hP, hD⟩, hS.F ht⟩) hS.2.2 dX11_apart_160
        · replace hf := it_t (hc) hf
          refine lv_ldc2 (v := (-9223372036854775808 : Int64)) hx hb hown (hts _ qj_X11_131) dX11_apart_59 ?_
          obtain ⟨rfl, rfl, rfl, rfl, rfl, rfl, rfl, rfl, rfl, rfl, rfl, rfl, rfl, rfl, rfl, rfl, rfl, rfl, rfl, rfl, rfl, rfl, rfl, rfl, rfl, rfl, rfl, rfl, rfl⟩ := o29 hf
          exact W.lret hx hb hr (fun t ht hW => ⟨⟨_, (), rfl, rfl, by rw [ht]; exact hP, hD⟩, hS.F ht⟩) hS.2.2 dX11_apart_62
    · replace hf := it_t (hc) hf
      refine lv_ldc2 (v := (-9223372036854775808 : Int64)) hx hb hown (hts _ qj_X11_131) dX11_apart_22 ?_
      obtain ⟨rfl, rfl, rfl, rfl, rfl, rfl, rfl, rfl, rfl, rfl, rfl, rfl, rfl, rfl, rfl, rfl, rfl, rfl, rfl, rfl, rfl, rfl, rfl, rfl, rfl, rfl, rfl, rfl, rfl⟩ := o29 hf
      exact W.lret hx hb hr (fun t ht hW => ⟨⟨_, (), rfl, rfl, by rw [ht]; exact hP, hD⟩, hS.F ht⟩) hS.2.2 dX11_apart_25
theorem dX5_begin_0 : decode cX5_begin 0 = .ok (.aload_n 1, 1) := by decide +kernel
theorem dX5_begin_1 : decode cX5_begin 1 = .ok (.iload_n 2, 1) := by decide +kernel
theorem dX5_begin_2 : decode cX5_begin 2 = .ok (.invokevirtual 18, 3) := by decide +kernel
theorem dX5_begin_5 : decode cX5_begin 5 = .ok (.ifCond .eq 22, 3) := by decide +kernel
theorem dX5_begin_8 : decode cX5_begin 8 = .ok (.iload_n 2, 1) := by decide +kernel
theorem dX5_begin_9 : decode cX5_begin 9 = .ok (.invokestatic 24, 3) := by decide +kernel
theorem dX5_begin_12 : decode cX5_begin 12 = .ok (.bipush 7, 2) := by decide +kernel
theorem dX5_begin_14 : decode cX5_begin 14 = .ok (.if_icmp .gt 13, 3) := by decide +kernel
theorem dX5_begin_17 : decode cX5_begin 17 = .ok (.iload_n 3, 1) := by decide +kernel
theorem dX5_begin_18 : decode cX5_begin 18 = .ok (.iconst 2, 1) := by decide +kernel
theorem dX5_begin_19 : decode cX5_begin 19 = .ok (.if_icmp .lt 8, 3) := by decide +kernel
theorem dX5_begin_22 : decode cX5_begin 22 = .ok (.iload_n 3, 1) := by decide +kernel
theorem dX5_begin_23 : decode cX5_begin 23 = .ok (.iconst 3, 1) := by decide +kernel
theorem dX5_begin_24 : decode cX5_begin 24 = .ok (.if_icmp .le 5, 3) := by decide +kernel
theorem dX5_begin_27 : decode cX5_begin 27 = .ok (.iconst 0, 1) := by decide +kernel
theorem dX5_begin_28 : decode cX5_begin 28 = .ok (.ireturn, 1) := by decide +kernel
theorem dX5_begin_29 : decode cX5_begin 29 = .ok (.aload_n 0, 1) := by decide +kernel
theorem dX5_begin_30 : decode cX5_begin 30 = .ok (.iload_n 3, 1) := by decide +kernel
theorem dX5_begin_31 : decode cX5_begin 31 = .ok (.putfield 30, 3) := by decide +kernel
theorem dX5_begin_34 : decode cX5_begin 34 = .ok (.aload_n 0, 1) := by decide +kernel
theorem dX5_begin_35 : decode cX5_begin 35 = .ok (.iconst 0, 1) := by decide +kernel
theorem dX5_begin_36 : decode cX5_begin 36 = .ok (.putfield 34, 3) := by decide +kernel
theorem dX5_begin_39 : decode cX5_begin 39 = .ok (.iconst 0, 1) := by decide +kernel
theorem dX5_begin_40 : decode cX5_begin 40 = .ok (.istore 4, 2) := by decide +kernel
theorem dX5_begin_42 : decode cX5_begin 42 = .ok (.iload 4, 2) := by decide +kernel
theorem dX5_begin_44 : decode cX5_begin 44 = .ok (.aload_n 1, 1) := by decide +kernel
theorem dX5_begin_45 : decode cX5_begin 45 = .ok (.getfield 37, 3) := by decide +kernel
theorem dX5_begin_48 : decode cX5_begin 48 = .ok (.if_icmp .ge 58, 3) := by decide +kernel
theorem dX5_begin_51 : decode cX5_begin 51 = .ok (.iload_n 2, 1) := by decide +kernel
theorem dX5_begin_52 : decode cX5_begin 52 = .ok (.iload 4, 2) := by decide +kernel
theorem dX5_begin_54 : decode cX5_begin 54 = .ok (.invokestatic 38, 3) := by decide +kernel
theorem dX5_begin_57 : decode cX5_begin 57 = .ok (.ifCond .eq 43, 3) := by decide +kernel
theorem dX5_begin_60 : decode cX5_begin 60 = .ok (.aload_n 0, 1) := by decide +kernel
theorem dX5_begin_61 : decode cX5_begin 61 = .ok (.getfield 34, 3) := by decide +kernel
theorem dX5_begin_64 : decode cX5_begin 64 = .ok (.bipush 7, 2) := by decide +kernel
theorem dX5_begin_66 : decode cX5_begin 66 = .ok (.if_icmp .ge 34, 3) := by decide +kernel
theorem dX5_begin_69 : decode cX5_begin 69 = .ok (.aload_n 0, 1) := by decide +kernel
theorem dX5_begin_70 : decode cX5_begin 70 = .ok (.getfield 9, 3) := by decide +kernel
theorem dX5_begin_73 : decode cX5_begin 73 = .ok (.aload_n 0, 1) := by decide +kernel
theorem dX5_begin_74 : decode cX5_begin 74 = .ok (.getfield 34, 3) := by decide +kernel
theorem dX5_begin_77 : decode cX5_begin 77 = .ok (.iload 4, 2) := by decide +kernel
theorem dX5_begin_79 : decode cX5_begin 79 = .ok (.iastore, 1) := by decide +kernel
theorem dX5_begin_80 : decode cX5_begin 80 = .ok (.aload_n 0, 1) := by decide +kernel
theorem dX5_begin_81 : decode cX5_begin 81 = .ok (.getfield 15, 3) := by decide +kernel
theorem dX5_begin_84 : decode cX5_begin 84 = .ok (.aload_n 0, 1) := by decide +kernel
theorem dX5_begin_85 : decode cX5_begin 85 = .ok (.getfield 34, 3) := by decide +kernel
theorem dX5_begin_88 : decode cX5_begin 88 = .ok (.iconst 0, 1) := by decide +kernel
theorem dX5_begin_89 : decode cX5_begin 89 = .ok (.iastore, 1) := by decide +kernel
theorem dX5_begin_90 : decode cX5_begin 90 = .ok (.aload_n 0, 1) := by decide +kernel
theorem dX5_begin_91 : decode cX5_begin 91 = .ok (.dup, 1) := by decide +kernel
theorem dX5_begin_92 : decode cX5_begin 92 = .ok (.getfield 34, 3) := by decide +kernel
theorem dX5_begin_95 : decode cX5_begin 95 = .ok (.iconst 1, 1) := by decide +kernel
theorem dX5_begin_96 : decode cX5_begin 96 = .ok (.iadd, 1) := by decide +kernel
theorem dX5_begin_97 : decode cX5_begin 97 = .ok (.putfield 34, 3) := by decide +kernel
theorem dX5_begin_100 : decode cX5_begin 100 = .ok (.iinc 4 1, 3) := by decide +kernel
theorem dX5_begin_103 : decode cX5_begin 103 = .ok (.goto (-61), 3) := by decide +kernel
theorem dX5_begin_106 : decode cX5_begin 106 = .ok (.iconst 1, 1) := by decide +kernel
theorem dX5_begin_107 : decode cX5_begin 107 = .ok (.ireturn, 1) := by decide +kernel
set_option maxRecDepth 100000 in
set_option maxHeartbeats 4000000 in
theorem wX5_begin_L42 {p : Program} {l : Launch} {e : Env} {R : Room} {s : State} {m : MethodId} {args : Array Value} {below : List Frame} {meth : Method} {c : Code} {Q : State → Prop} {A : Nat → Prop} {dC : Nat → ClassId} {dI : Nat → Nat → Nat} {cI cL cB : ClassId} {K : Nat} (C0 : Sx p R s m args c cX5_begin 5 RX5 A dC dI cI cL cB 1 21) (h_t h_t_member h_t_row h_p1 h_p1_x h_p1_y h_p1_colour h_p1_load : Nat) (t_parts : Int32) (p1_size : Int32) (p1_centreX : Int32) (p1_centreY : Int32) (l2 : Int32) : ∀ (n : Nat) (l4 : Int32) (t_size : Int32) (t_member : Nat → Int32) (t_row : Nat → Int32) (x_t_size : Int32) (x_t_member : Nat → Int32) (x_t_row : Nat → Int32) (H : Heap) (locs : List Loc) (ls : Array Slot), va_P (dC, dI) vwCl [(h_t, .inr (5, [.ref h_t_member, .ref h_t_row, .int t_size, .int t_parts])), (h_t_member, .inl (cI, 7, .inl t_member)), (h_t_row, .inl (cI, 7, .inl t_row)), (h_p1, .inr (0, [.ref h_p1_x, .ref h_p1_y, .ref h_p1_colour, .ref h_p1_load, .int p1_size, .int p1_centreX, .int p1_centreY]))] H → va_D A [(h_t, .inr (5, [.ref h_t_member, .ref h_t_row, .int t_size, .int t_parts])), (h_t_member, .inl (cI, 7, .inl t_member)), (h_t_row, .inl (cI, 7, .inl t_row)), (h_p1, .inr (0, [.ref h_p1_x, .ref h_p1_y, .ref h_p1_colour, .ref h_p1_load, .int p1_size, .int p1_centreX, .int p1_centreY]))] → va_S A s.heap H locs → lv_has ls 5 [(0, .ref h_t), (1, .ref h_p1), (2, .int l2), (4, .int l4)] → fX5_begin_L42 K l2 p1_size n l4 t_size t_member t_row = some (x_t_size, x_t_member, x_t_row) → (∀ (H : Heap) (locs : List Loc) (ls : Array Slot), va_P (dC, dI) vwCl [(h_t, .inr (5, [.ref h_t_member, .ref h_t_row, .int x_t_size, .int t_parts])), (h_t_member, .inl (cI, 7, .inl x_t_member)), (h_t_row, .inl (cI, 7, .inl x_t_row)), (h_p1, .inr (0, [.ref h_p1_x, .ref h_p1_y, .ref h_p1_colour, .ref h_p1_load, .int p1_size, .int p1_centreX, .int p1_centreY]))] H → va_D A [(h_t, .inr (5, [.ref h_t_member, .ref h_t_row, .int x_t_size, .int t_parts])), (h_t_member, .inl (cI, 7, .inl x_t_member)), (h_t_row, .inl (cI, 7, .inl x_t_row)), (h_p1, .inr (0, [.ref h_p1_x, .ref h_p1_y, .ref h_p1_colour, .ref h_p1_load, .int p1_size, .int p1_centreX, .int p1_centreY]))] → va_S A s.heap H locs → lv_has ls 5 [] → W p l e R s m args below meth c H locs 0 0 Q (F0 m 106 ls [])) → W p l e R s m args below meth c H locs 0 0 Q (F0 m 42 ls []) := by
  obtain ⟨hx, hb, hml, hown, hts, hK, hT, hA, hF, hLo⟩ := id C0
  intro n
  induction n with
  | zero =>
    intro l4 t_size t_member t_row x_t_size x_t_member x_t_row H locs ls hP hD hS hl hf
    rw [fX5_begin_L42] at hf
    cases hf
  | succ n ih =>
    intro l4 t_size t_member t_row x_t_size x_t_member x_t_row H locs ls hP hD hS hl hf hk
    rw [fX5_begin_L42] at hf
    refine lv_iload hx hb dX5_begin_42 (lv_at hl 3 rfl) ?_
    refine lv_aload_n hx hb dX5_begin_44 rfl (lv_at hl 1 rfl) ?_
    refine va_get (D := (dC, dI)) (ci := 0) (v := .int p1_size) (C := RX0) (T := TX0) (N := 7) hx hb hts in_X0 hown hK hP 3 rfl rfl 4 (Nat.le_of_ble_eq_true rfl) (hts _ qf_X5_37) (fun _ h9 => h9) rfl dX5_begin_45 ?_
    refine lv_icmp_ge (tgt := 106) hx hb dX5_begin_48 (by decide) (fun hc => ?_) (fun hc => ?_)
    · replace hf := it_t (hc) hf
      obtain ⟨rfl, rfl, rfl⟩ := o3 hf
      exact hk H locs ls hP hD hS (lv_sub hl [] rfl)
    · replace hf := it_f (hc) hf
      refine lv_iload_n hx hb dX5_begin_51 rfl (lv_at hl 2 rfl) ?_
      refine lv_iload hx hb dX5_begin_52 (lv_at hl 3 rfl) ?_
      obtain ⟨r_5, hq_6, hf⟩ := b1_some hf
      refine xci (wr := [(h_t, .inr (5, [.ref h_t_member, .ref h_t_row, .int t_size, .int t_parts])), (h_t_member, .inl (cI, 7, .inl t_member)), (h_t_row, .inl (cI, 7, .inl t_row)), (h_p1, .inr (0, [.ref h_p1_x, .ref h_p1_y, .ref h_p1_colour, .ref h_p1_load, .int p1_size, .int p1_centreX, .int p1_centreY]))]) (w2 := [(h_t, .inr (5, [.ref h_t_member, .ref h_t_row, .int t_size, .int t_parts])), (h_t_member, .inl (cI, 7, .inl t_member)), (h_t_row, .inl (cI, 7, .inl t_row)), (h_p1, .inr (0, [.ref h_p1_x, .ref h_p1_y, .ref h_p1_colour, .ref h_p1_load, .int p1_size, .int p1_centreX, .int p1_centreY]))]) (va_runSN (As := [.int l2, .int l4]) (rest := []) ⟨hx, hb, hml, hown, hts⟩ (mtX11_isIn l dC dI cI cL cB K H.size l2 l4 r_5 hq_6) ⟨va_cnB 2 hts (gcode qc_X11_isIn) rfl rfl rfl (hT _ qm_X5_38) (hts _ qz_X11) hdS_X11_isIn ⟨Nat.le_trans (Nat.le_of_ble_eq_true rfl) hF, Nat.le_trans (Nat.le_of_ble_eq_true rfl) hLo⟩, hts _ qt_X11_isIn, trivial⟩ (cPreS hK hP hD hT [] rfl rfl) rfl rfl hl.1 rfl (lv_room (Nat.le_of_ble_eq_true rfl)) dX5_begin_54 ⟨Nat.zero_le _, Nat.zero_le _⟩) hP hD hS hA [] [0, 1, 2, 3] [0, 1, 2, 3] rfl rfl rfl rfl rfl rfl (fun H locs hP hD hS => ?_)
      obtain ⟨k_10, ek_10, hf⟩ := jn_out hf
      have J_11 : ∀ (t_size_7 : Int32) (t_member_8 : Nat → Int32) (t_row_9 : Nat → Int32) (H : Heap) (locs : List Loc) (ls : Array Slot), va_P (dC, dI) vwCl [(h_t, .inr (5, [.ref h_t_member, .ref h_t_row, .int t_size_7, .int t_parts])), (h_t_member, .inl (cI, 7, .inl t_member_8)), (h_t_row, .inl (cI, 7, .inl t_row_9)), (h_p1, .inr (0, [.ref h_p1_x, .ref h_p1_y, .ref h_p1_colour, .ref h_p1_load, .int p1_size, .int p1_centreX, .int p1_centreY]))] H → va_D A [(h_t, .inr (5, [.ref h_t_member, .ref h_t_row, .int t_size_7, .int t_parts])), (h_t_member, .inl (cI, 7, .inl t_member_8)), (h_t_row, .inl (cI, 7, .inl t_row_9)), (h_p1, .inr (0, [.ref h_p1_x, .ref h_p1_y, .ref h_p1_colour, .ref h_p1_load, .int p1_size, .int p1_centreX, .int p1_centreY]))] → va_S A s.heap H locs → lv_has ls 5 [(0, .ref h_t), (1, .ref h_p1), (2, .int l2), (4, .int l4)] → k_10 t_size_7 t_member_8 t_row_9 = some (x_t_size, x_t_member, x_t_row) → W p l e R s m args below meth c H locs 0 0 Q (F0 m 100 ls []) := by
        intro t_size_7 t_member_8 t_row_9 H locs ls hP hD hS hl hf
        rw [ek_10] at hf
        try dsimp only at hf
        obtain ⟨l4_12, el4_12⟩ : ∃ y : Int32, y = l4 + (1 : Int32) := ⟨_, rfl⟩
        replace hf := xl_at hf el4_12
        refine lv_iinc (v := l4_12) (lv' := [(4, .int l4_12), (0, .ref h_t), (1, .ref h_p1), (2, .int l2)]) hx hb dX5_begin_100 hl (k := 3) rfl (by rw [el4_12]; rfl) (Nat.le_of_ble_eq_true rfl) rfl (fun ls hl => ?_)
        refine lv_goto (tgt := 42) hx hb dX5_begin_103 (by decide) ?_
        exact ih l4_12 t_size_7 t_member_8 t_row_9 _ _ _ H locs ls hP hD hS (lv_sub hl [1, 2, 3, 0] rfl) hf hk
      refine lv_if_eq (tgt := 100) hx hb dX5_begin_57 (by decide) (fun hc => ?_) (fun hc => ?_)
      · replace hf := it_t (hc) hf
        exact J_11 t_size t_member t_row H locs ls hP hD hS (lv_sub hl [0, 1, 2, 3] rfl) hf
      · replace hf := it_f (hc) hf
        refine lv_aload_n hx hb dX5_begin_60 rfl (lv_at hl 0 rfl) ?_
        refine va_get (D := (dC, dI)) (ci := 5) (v := .int t_size) (C := RX5) (T := TX5) (N := 4) hx hb hts in_X5 hown hK hP 0 rfl rfl 2 (Nat.le_of_ble_eq_true rfl) (hts _ qf_X5_34) (fun _ h9 => h9) rfl dX5_begin_61 ?_
        refine lv_bipush (v := (7 : Int32)) hx hb dX5_begin_64 (by decide) ?_
        refine lv_icmp_ge (tgt := 100) hx hb dX5_begin_66 (by decide) (fun hc => ?_) (fun hc => ?_)
        · replace hf := it_t (hc) hf
          exact J_11 t_size t_member t_row H locs ls hP hD hS (lv_sub hl [0, 1, 2, 3] rfl) hf
        · replace hf := it_f (hc) hf
          refine lv_aload_n hx hb dX5_begin_69 rfl (lv_at hl 0 rfl) ?_
          refine va_get (D := (dC, dI)) (ci := 5) (v := .ref h_t_member) (C := RX5) (T := TX5) (N := 4) hx hb hts in_X5 hown hK hP 0 rfl rfl 0 (Nat.le_of_ble_eq_true rfl) (hts _ qf_X5_9) (fun _ h9 => h9) rfl dX5_begin_70 ?_
          refine lv_aload_n hx hb dX5_begin_73 rfl (lv_at hl 0 rfl) ?_
          refine va_get (D := (dC, dI)) (ci := 5) (v := .int t_size) (C := RX5) (T := TX5) (N := 4) hx hb hts in_X5 hown hK hP 0 rfl rfl 2 (Nat.le_of_ble_eq_true rfl) (hts _ qf_X5_34) (fun _ h9 => h9) rfl dX5_begin_74 ?_
          refine lv_iload hx hb dX5_begin_77 (lv_at hl 3 rfl) ?_
          obtain ⟨hg_13, hf⟩ := gd_some hf
          obtain ⟨t_member_14, et_member_14⟩ : ∃ y : Nat → Int32, y = upd t_member t_size.toNatClampNeg l4 := ⟨_, rfl⟩
          replace hf := xl_at hf et_member_14
          refine xiast (w2 := [(h_t, .inr (5, [.ref h_t_member, .ref h_t_row, .int t_size, .int t_parts])), (h_t_member, .inl (cI, 7, .inl t_member_14)), (h_t_row, .inl (cI, 7, .inl t_row)), (h_p1, .inr (0, [.ref h_p1_x, .ref h_p1_y, .ref h_p1_colour, .ref h_p1_load, .int p1_size, .int p1_centreX, .int p1_centreY]))]) hx hb hK hP hD hS 1 0 rfl rfl (inb_in hg_13) et_member_14 rfl dX5_begin_79 (fun H locs hP hD hS => ?_)
          refine lv_aload_n hx hb dX5_begin_80 rfl (lv_at hl 0 rfl) ?_
          refine va_get (D := (dC, dI)) (ci := 5) (v := .ref h_t_row) (C := RX5) (T := TX5) (N := 4) hx hb hts in_X5 hown hK hP 0 rfl rfl 1 (Nat.le_of_ble_eq_true rfl) (hts _ qf_X5_15) (fun _ h9 => h9) rfl dX5_begin_81 ?_
          refine lv_aload_n hx hb dX5_begin_84 rfl (lv_at hl 0 rfl) ?_
          refine va_get (D := (dC, dI)) (ci := 5) (v := .int t_size) (C := RX5) (T := TX5) (N := 4) hx hb hts in_X5 hown hK hP 0 rfl rfl 2 (Nat.le_of_ble_eq_true rfl) (hts _ qf_X5_34) (fun _ h9 => h9) rfl dX5_begin_85 ?_
          refine lv_iconst (v := (0 : Int32)) hx hb dX5_begin_88 (by decide) ?_
          obtain ⟨hg_15, hf⟩ := gd_some hf
          obtain ⟨t_row_16, et_row_16⟩ : ∃ y : Nat → Int32, y = upd t_row t_size.toNatClampNeg (0 : Int32) := ⟨_, rfl⟩
          replace hf := xl_at hf et_row_16
          refine xiast (w2 := [(h_t, .inr (5, [.ref h_t_member, .ref h_t_row, .int t_size, .int t_parts])), (h_t_member, .inl (cI, 7, .inl t_member_14)), (h_t_row, .inl (cI, 7, .inl t_row_16)), (h_p1, .inr (0, [.ref h_p1_x, .ref h_p1_y, .ref h_p1_colour, .ref h_p1_load, .int p1_size, .int p1_centreX, .int p1_centreY]))]) hx hb hK hP hD hS 2 0 rfl rfl (inb_in hg_15) et_row_16 rfl dX5_begin_89 (fun H locs hP hD hS => ?_)
          refine lv_aload_n hx hb dX5_begin_90 rfl (lv_at hl 0 rfl) ?_
          refine lv_dup hx hb dX5_begin_91 rfl ?_
          refine va_get (D := (dC, dI)) (ci := 5) (v := .int t_size) (C := RX5) (T := TX5) (N := 4) hx hb hts in_X5 hown hK hP 0 rfl rfl 2 (Nat.le_of_ble_eq_true rfl) (hts _ qf_X5_34) (fun _ h9 => h9) rfl dX5_begin_92 ?_
          refine lv_iconst (v := (1 : Int32)) hx hb dX5_begin_95 (by decide) ?_
          refine lv_iadd hx hb dX5_begin_96 ?_
          refine lv_topi (fun f_size_17 ef_size_17 => ?_)
          replace hf := xl_at hf ef_size_17
          refine xput (D := (dC, dI)) (ci := 5) (v := .int f_size_17) (C := RX5) (T := TX5) (N := 4) (w2 := [(h_t, .inr (5, [.ref h_t_member, .ref h_t_row, .int f_size_17, .int t_parts])), (h_t_member, .inl (cI, 7, .inl t_member_14)), (h_t_row, .inl (cI, 7, .inl t_row_16)), (h_p1, .inr (0, [.ref h_p1_x, .ref h_p1_y, .ref h_p1_colour, .ref h_p1_load, .int p1_size, .int p1_centreX, .int p1_centreY]))]) hx hb hts in_X5 tyX5 tyX5_ok nmX5 hown hK hP hD hS 0 rfl rfl 2 (Nat.le_of_ble_eq_true rfl) (hts _ qf_X5_34) (fun _ h9 => h9) rfl rfl rfl (Nat.le_of_ble_eq_true rfl) rfl dX5_begin_97 (fun H locs hP hD hS => ?_)
          exact J_11 f_size_17 t_member_14 t_row_16 H locs ls hP hD hS (lv_sub hl [0, 1, 2, 3] rfl) hf
set_option maxRecDepth 100000 in
set_option maxHeartbeats 4000000 in
theorem mtX5_begin (l : Launch) (dC : Nat → ClassId) (dI : Nat → Nat → Nat) (cI cL cB : ClassId) (K : Nat) (h_t h_t_member h_t_row h_p1 h_p1_x h_p1_y h_p1_colour h_p1_load : Nat) (sz : Nat) (t_size : Int32) (t_parts : Int32) (t_member : Nat → Int32) (t_row : Nat → Int32) (p1_size : Int32) (p1_centreX : Int32) (p1_centreY : Int32) (a2 : Int32) (a3 : Int32) (o_r : Int32) (o_t_size : Int32) (o_t_parts : Int32) (o_t_member : Nat → Int32) (o_t_row : Nat → Int32) (hf : fX5_begin K t_size t_parts t_member t_row p1_size a2 a3 = some (o_r, o_t_size, o_t_parts, o_t_member, o_t_row)) : Met l yX5_begin [Cond.code yX5_begin cX5_begin 5 (some .boolean)] ({ frames := 1, cells := 0, slots := 0, locals := 21 }) (va_Pc [.ref h_t, .ref h_p1, .int a2, .int a3] (cPre dC dI cI cL cB sz [(h_t, .inr (5, [.ref h_t_member, .ref h_t_row, .int t_size, .int t_parts])), (h_t_member, .inl (cI, 7, .inl t_member)), (h_t_row, .inl (cI, 7, .inl t_row)), (h_p1, .inr (0, [.ref h_p1_x, .ref h_p1_y, .ref h_p1_colour, .ref h_p1_load, .int p1_size, .int p1_centreX, .int p1_centreY]))])) (cQi dC dI (va_A [(h_t, .inr (5, [.ref h_t_member, .ref h_t_row, .int t_size, .int t_parts])), (h_t_member, .inl (cI, 7, .inl t_member)), (h_t_row, .inl (cI, 7, .inl t_row)), (h_p1, .inr (0, [.ref h_p1_x, .ref h_p1_y, .ref h_p1_colour, .ref h_p1_load, .int p1_size, .int p1_centreX, .int p1_centreY]))] sz) o_r [(h_t, .inr (5, [.ref h_t_member, .ref h_t_row, .int o_t_size, .int o_t_parts])), (h_t_member, .inl (cI, 7, .inl o_t_member)), (h_t_row, .inl (cI, 7, .inl o_t_row)), (h_p1, .inr (0, [.ref h_p1_x, .ref h_p1_y, .ref h_p1_colour, .ref h_p1_load, .int p1_size, .int p1_centreX, .int p1_centreY]))]) 0 0 (va_A [(h_t, .inr (5, [.ref h_t_member, .ref h_t_row, .int t_size, .int t_parts])), (h_t_member, .inl (cI, 7, .inl t_member)), (h_t_row, .inl (cI, 7, .inl t_row)), (h_p1, .inr (0, [.ref h_p1_x, .ref h_p1_y, .ref h_p1_colour, .ref h_p1_load, .int p1_size, .int p1_centreX, .int p1_centreY]))] sz) := by
  refine Met.ofW (cc := cX5_begin) (maxL := 5) (ret := (some .boolean)) (by decide) rfl ?_
  intro p e s m args below meth c s₁ B hml hv
  obtain ⟨rfl, hsz, hP, hK, hD0, hT⟩ := hv
  have hx := B.exec
  have hb := B.bytes
  have hr := B.returns
  have hown : s.vm.findClass RX5 = some m.cls := findClass_of_methodNamed B.named
  have hlocks := B.notSynchronized
  have hts := TB.use hT ([.ref h_t, .ref h_p1, .int a2, .int a3] : List Value).toArray
  subst hsz
  have hD := hD0.self (sz := s.heap.size)
  generalize hAe : va_A [(h_t, .inr (5, [.ref h_t_member, .ref h_t_row, .int t_size, .int t_parts])), (h_t_member, .inl (cI, 7, .inl t_member)), (h_t_row, .inl (cI, 7, .inl t_row)), (h_p1, .inr (0, [.ref h_p1_x, .ref h_p1_y, .ref h_p1_colour, .ref h_p1_load, .int p1_size, .int p1_centreX, .int p1_centreY]))] s.heap.size = A at hD ⊢
  have hA : ∀ q : Nat, s.heap.size ≤ q → A q := fun q h => by rw [← hAe]; exact Or.inr h
  clear hAe hD0
  have hl := lv_entry ([.ref h_t, .ref h_p1, .int a2, .int a3]) (n := 5) (Nat.le_of_ble_eq_true rfl)
  rw [lg_entry_eq]
  generalize (lg_sl ([.ref h_t, .ref h_p1, .int a2, .int a3]) ++ List.replicate (5 - (lg_sl ([.ref h_t, .ref h_p1, .int a2, .int a3])).length) Slot.unset).toArray = ls at hl ⊢
  have hl : lv_has ls 5 [(0, .ref h_t), (1, .ref h_p1), (2, .int a2), (3, .int a3)] := hl
  have hF : 1 ≤ (headSpec [Cond.code yX5_begin cX5_begin 5 (some .boolean)] ({ frames := 1, cells := 0, slots := 0, locals := 21 })).room.frames := Nat.le_refl _
  have hLo : 21 ≤ (headSpec [Cond.code yX5_begin cX5_begin 5 (some .boolean)] ({ frames := 1, cells := 0, slots := 0, locals := 21 })).room.locals := Nat.le_refl _
  have C0 : Sx p (headSpec [Cond.code yX5_begin cX5_begin 5 (some .boolean)] ({ frames := 1, cells := 0, slots := 0, locals := 21 })).room s m ([.ref h_t, .ref h_p1, .int a2, .int a3] : List Value).toArray c cX5_begin 5 RX5 A dC dI cI cL cB 1 21 := ⟨hx, hb, hml, hown, hts, hK, hT, hA, hF, hLo⟩
  refine startH (A := A) hP (fun H locs hP hS => ?_)
  rw [fX5_begin] at hf
  refine lv_aload_n hx hb dX5_begin_0 rfl (lv_at hl 1 rfl) ?_
  refine lv_iload_n hx hb dX5_begin_1 rfl (lv_at hl 2 rfl) ?_
  obtain ⟨r_1, hq_2, hf⟩ := b1_some hf
  refine xci (wr := [(h_t, .inr (5, [.ref h_t_member, .ref h_t_row, .int t_size, .int t_parts])), (h_t_member, .inl (cI, 7, .inl t_member)), (h_t_row, .inl (cI, 7, .inl t_row))]) (w2 := [(h_t, .inr (5, [.ref h_t_member, .ref h_t_row, .int t_size, .int t_parts])), (h_t_member, .inl (cI, 7, .inl t_member)), (h_t_row, .inl (cI, 7, .inl t_row)), (h_p1, .inr (0, [.ref h_p1_x, .ref h_p1_y, .ref h_p1_colour, .ref h_p1_load, .int p1_size, .int p1_centreX, .int p1_centreY]))]) (va_runV (As := [.int a2]) (rest := []) ⟨hx, hb, hml, hown, hts⟩ (mtX0_hasSet l dC dI cI cL cB K h_p1 h_p1_x h_p1_y h_p1_colour h_p1_load H.size p1_size p1_centreX p1_centreY a2 r_1 hq_2) (cwV 1 hts gv_X5_18 rfl rfl rfl hdV_X0_hasSet ⟨Nat.le_trans (Nat.le_of_ble_eq_true rfl) hF, Nat.le_trans (Nat.le_of_ble_eq_true rfl) hLo⟩) (cPreV hK hP hD hT [3] rfl rfl (ci := 0) (q0 := 0) rfl rfl) rfl rfl hl.1 rfl (lv_room (Nat.le_of_ble_eq_true rfl)) dX5_begin_2 ⟨Nat.zero_le _, Nat.zero_le _⟩) hP hD hS hA [3] [0, 1, 2] [0, 1, 2, 3] rfl rfl rfl rfl rfl rfl (fun H locs hP hD hS => ?_)
  refine lv_if_eq (tgt := 27) hx hb dX5_begin_5 (by decide) (fun hc => ?_) (fun hc => ?_)
  · replace hf := it_t (hc) hf
    refine lv_iconst (v := (0 : Int32)) hx hb dX5_begin_27 (by decide) ?_
    obtain ⟨rfl, rfl, rfl, rfl, rfl⟩ := o5 hf
    exact W.zret hx hb hr rfl (fun t ht hW => ⟨⟨_, (), rfl, rfl, by rw [ht]; exact hP, hD⟩, hS.F ht⟩) hS.2.2 dX5_begin_28
  · replace hf := it_f (hc) hf
    refine lv_iload_n hx hb dX5_begin_8 rfl (lv_at hl 2 rfl) ?_
    obtain ⟨r_3, hq_4, hf⟩ := b1_some hf
    refine xci (wr := [(h_t, .inr (5, [.ref h_t_member, .ref h_t_row, .int t_size, .int t_parts])), (h_t_member, .inl (cI, 7, .inl t_member)), (h_t_row, .inl (cI, 7, .inl t_row)), (h_p1, .inr (0, [.ref h_p1_x, .ref h_p1_y, .ref h_p1_colour, .ref h_p1_load, .int p1_size, .int p1_centreX, .int p1_centreY]))]) (w2 := [(h_t, .inr (5, [.ref h_t_member, .ref h_t_row, .int t_size, .int t_parts])), (h_t_member, .inl (cI, 7, .inl t_member)), (h_t_row, .inl (cI, 7, .inl t_row)), (h_p1, .inr (0, [.ref h_p1_x, .ref h_p1_y, .ref h_p1_colour, .ref h_p1_load, .int p1_size, .int p1_centreX, .int p1_centreY]))]) (va_runS (As := [.int a2]) (rest := []) ⟨hx, hb, hml, hown, hts⟩ (mtJ6_bitCount_0f7a4 l dC dI cI cL cB K H.size a2 r_3 hq_4) (va_cwS 1 hts gs_X5_24 rfl rfl rfl hdS_J6_bitCount_0f7a4 ⟨Nat.le_trans (Nat.le_of_ble_eq_true rfl) hF, Nat.le_trans (Nat.le_of_ble_eq_true rfl) hLo⟩) (cPreS hK hP hD hT [] rfl rfl) rfl rfl hl.1 rfl (lv_room (Nat.le_of_ble_eq_true rfl)) dX5_begin_9 ⟨Nat.zero_le _, Nat.zero_le _⟩) hP hD hS hA [] [0, 1, 2, 3] [0, 1, 2, 3] rfl rfl rfl rfl rfl rfl (fun H locs hP hD hS => ?_)
    refine lv_bipush (v := (7 : Int32)) hx hb dX5_begin_12 (by decide) ?_
    refine lv_icmp_gt (tgt := 27) hx hb dX5_begin_14 (by decide) (fun hc => ?_) (fun hc => ?_)
    · replace hf := it_t (hc) hf
      refine lv_iconst (v := (0 : Int32)) hx hb dX5_begin_27 (by decide) ?_
      obtain ⟨rfl, rfl, rfl, rfl, rfl⟩ := o5 hf
      exact W.zret hx hb hr rfl (fun t ht hW => ⟨⟨_, (), rfl, rfl, by rw [ht]; exact hP, hD⟩, hS.F ht⟩) hS.2.2 dX5_begin_28
    · replace hf := it_f (hc) hf
      refine lv_iload_n hx hb dX5_begin_17 rfl (lv_at hl 3 rfl) ?_
      refine lv_iconst (v := (2 : Int32)) hx hb dX5_begin_18 (by decide) ?_
      refine lv_icmp_lt (tgt := 27) hx hb dX5_begin_19 (by decide) (fun hc => ?_) (fun hc => ?_)
      · replace hf := it_t (hc) hf
        refine lv_iconst (v := (0 : Int32)) hx hb dX5_begin_27 (by decide) ?_
        obtain ⟨rfl, rfl, rfl, rfl, rfl⟩ := o5 hf
        exact W.zret hx hb hr rfl (fun t ht hW => ⟨⟨_, (), rfl, rfl, by rw [ht]; exact hP, hD⟩, hS.F ht⟩) hS.2.2 dX5_begin_28
      · replace hf := it_f (hc) hf
        refine lv_iload_n hx hb dX5_begin_22 rfl (lv_at hl 3 rfl) ?_
        refine lv_iconst (v := (3 : Int32)) hx hb dX5_begin_23 (by decide) ?_
        refine lv_icmp_le (tgt := 29) hx hb dX5_begin_24 (by decide) (fun hc => ?_) (fun hc => ?_)
        · replace hf := it_t (hc) hf
          refine lv_aload_n hx hb dX5_begin_29 rfl (lv_at hl 0 rfl) ?_
          refine lv_iload_n hx hb dX5_begin_30 rfl (lv_at hl 3 rfl) ?_
          refine xput (D := (dC, dI)) (ci := 5) (v := .int a3) (C := RX5) (T := TX5) (N := 4) (w2 := [(h_t, .inr (5, [.ref h_t_member, .ref h_t_row, .int t_size, .int a3])), (h_t_member, .inl (cI, 7, .inl t_member)), (h_t_row, .inl (cI, 7, .inl t_row)), (h_p1, .inr (0, [.ref h_p1_x, .ref h_p1_y, .ref h_p1_colour, .ref h_p1_load, .int p1_size, .int p1_centreX, .int p1_centreY]))]) hx hb hts in_X5 tyX5 tyX5_ok nmX5 hown hK hP hD hS 0 rfl rfl 3 (Nat.le_of_ble_eq_true rfl) (hts _ qf_X5_30) (fun _ h9 => h9) rfl rfl rfl (Nat.le_of_ble_eq_true rfl) rfl dX5_begin_31 (fun H locs hP hD hS => ?_)
          refine lv_aload_n hx hb dX5_begin_34 rfl (lv_at hl 0 rfl) ?_
          refine lv_iconst (v := (0 : Int32)) hx hb dX5_begin_35 (by decide) ?_
          refine xput (D := (dC, dI)) (ci := 5) (v := .int (0 : Int32)) (C := RX5) (T := TX5) (N := 4) (w2 := [(h_t, .inr (5, [.ref h_t_member, .ref h_t_row, .int (0 : Int32), .int a3])), (h_t_member, .inl (cI, 7, .inl t_member)), (h_t_row, .inl (cI, 7, .inl t_row)), (h_p1, .inr (0, [.ref h_p1_x, .ref h_p1_y, .ref h_p1_colour, .ref h_p1_load, .int p1_size, .int p1_centreX, .int p1_centreY]))]) hx hb hts in_X5 tyX5 tyX5_ok nmX5 hown hK hP hD hS 0 rfl rfl 2 (Nat.le_of_ble_eq_true rfl) (hts _ qf_X5_34) (fun _ h9 => h9) rfl rfl rfl (Nat.le_of_ble_eq_true rfl) rfl dX5_begin_36 (fun H locs hP hD hS => ?_)
          refine lv_iconst (v := (0 : Int32)) hx hb dX5_begin_39 (by decide) ?_
          refine lv_istore (lv' := [(4, .int (0 : Int32)), (0, .ref h_t), (1, .ref h_p1), (2, .int a2), (3, .int a3)]) hx hb dX5_begin_40 hl (Nat.le_of_ble_eq_true rfl) rfl (fun ls hl => ?_)
          obtain ⟨t_size_19, t_member_20, t_row_21, hq_18, hf⟩ := b3_some hf
          refine wX5_begin_L42 C0 h_t h_t_member h_t_row h_p1 h_p1_x h_p1_y h_p1_colour h_p1_load a3 p1_size p1_centreX p1_centreY a2 K (0 : Int32) (0 : Int32) t_member t_row t_size_19 t_member_20 t_row_21 H locs ls hP hD hS (lv_sub hl [1, 2, 3, 0] rfl) hq_18 ?_
          intro H locs ls hP hD hS hl
          refine lv_iconst (v := (1 : Int32)) hx hb dX5_begin_106 (by decide) ?_
          obtain ⟨rfl, rfl, rfl, rfl, rfl⟩ := o5 hf
          exact W.zret hx hb hr rfl (fun t ht hW => ⟨⟨_, (), rfl, rfl, by rw [ht]; exact hP, hD⟩, hS.F ht⟩) hS.2.2 dX5_begin_107
        · replace hf := it_f (hc) hf
          refine lv_iconst (v := (0 : Int32)) hx hb dX5_begin_27 (by decide) ?_
          obtain ⟨rfl, rfl, rfl, rfl, rfl⟩ := o5 hf
          exact W.zret hx hb hr rfl (fun t ht hW => ⟨⟨_, (), rfl, rfl, by rw [ht]; exact hP, hD⟩, hS.F ht⟩) hS.2.2 dX5_begin_28
theorem dX5_highestAhead_0 : decode cX5_highestAhead 0 = .ok (.iconst 0, 1) := by decide +kernel
theorem dX5_highestAhead_1 : decode cX5_highestAhead 1 = .ok (.istore_n 2, 1) := by decide +kernel
theorem dX5_highestAhead_2 : decode cX5_highestAhead 2 = .ok (.iconst 0, 1) := by decide +kernel
theorem dX5_highestAhead_3 : decode cX5_highestAhead 3 = .ok (.istore_n 3, 1) := by decide +kernel
theorem dX5_highestAhead_4 : decode cX5_highestAhead 4 = .ok (.iload_n 3, 1) := by decide +kernel
theorem dX5_highestAhead_5 : decode cX5_highestAhead 5 = .ok (.iload_n 1, 1) := by decide +kernel
theorem dX5_highestAhead_6 : decode cX5_highestAhead 6 = .ok (.if_icmp .ge 20, 3) := by decide +kernel
theorem dX5_highestAhead_9 : decode cX5_highestAhead 9 = .ok (.iload_n 2, 1) := by decide +kernel
theorem dX5_highestAhead_10 : decode cX5_highestAhead 10 = .ok (.aload_n 0, 1) := by decide +kernel
theorem dX5_highestAhead_11 : decode cX5_highestAhead 11 = .ok (.getfield 15, 3) := by decide +kernel
theorem dX5_highestAhead_14 : decode cX5_highestAhead 14 = .ok (.iload_n 3, 1) := by decide +kernel
theorem dX5_highestAhead_15 : decode cX5_highestAhead 15 = .ok (.iaload, 1) := by decide +kernel
theorem dX5_highestAhead_16 : decode cX5_highestAhead 16 = .ok (.invokestatic 45, 3) := by decide +kernel
theorem dX5_highestAhead_19 : decode cX5_highestAhead 19 = .ok (.istore_n 2, 1) := by decide +kernel
theorem dX5_highestAhead_20 : decode cX5_highestAhead 20 = .ok (.iinc 3 1, 3) := by decide +kernel
theorem dX5_highestAhead_23 : decode cX5_highestAhead 23 = .ok (.goto (-19), 3) := by decide +kernel
theorem dX5_highestAhead_26 : decode cX5_highestAhead 26 = .ok (.iload_n 2, 1) := by decide +kernel
theorem dX5_highestAhead_27 : decode cX5_highestAhead 27 = .ok (.ireturn, 1) := by decide +kernel
set_option maxRecDepth 100000 in
set_option maxHeartbeats 4000000 in
theorem wX5_highestAhead_L4 {p : Program} {l : Launch} {e : Env} {R : Room} {s : State} {m : MethodId} {args : Array Value} {below : List Frame} {meth : Method} {c : Code} {Q : State → Prop} {A : Nat → Prop} {dC : Nat → ClassId} {dI : Nat → Nat → Nat} {cI cL cB : ClassId} {K : Nat} (C0 : Sx p R s m args c cX5_highestAhead 4 RX5 A dC dI cI cL cB 1 15) (h_t h_t_member h_t_row : Nat) (t_size : Int32) (t_parts : Int32) (t_row : Nat → Int32) (l1 : Int32) : ∀ (n : Nat) (l2 : Int32) (l3 : Int32) (x2_ : Int32) (H : Heap) (locs : List Loc) (ls : Array Slot), va_P (dC, dI) vwCl [(h_t, .inr (5, [.ref h_t_member, .ref h_t_row, .int t_size, .int t_parts])), (h_t_row, .inl (cI, 7, .inl t_row))] H → va_D A [(h_t, .inr (5, [.ref h_t_member, .ref h_t_row, .int t_size, .int t_parts])), (h_t_row, .inl (cI, 7, .inl t_row))] → va_S A s.heap H locs → lv_has ls 4 [(0, .ref h_t), (1, .int l1), (2, .int l2), (3, .int l3)] → fX5_highestAhead_L4 K l1 t_row n l2 l3 = some x2_ → (∀ (H : Heap) (locs : List Loc) (ls : Array Slot), va_P (dC, dI) vwCl [(h_t, .inr (5, [.ref h_t_member, .ref h_t_row, .int t_size, .int t_parts])), (h_t_row, .inl (cI, 7, .inl t_row))] H → va_D A [(h_t, .inr (5, [.ref h_t_member, .ref h_t_row, .int t_size, .int t_parts])), (h_t_row, .inl (cI, 7, .inl t_row))] → va_S A s.heap H locs → lv_has ls 4 [(2, .int x2_)] → W p l e R s m args below meth c H locs 0 0 Q (F0 m 26 ls [])) → W p l e R s m args below meth c H locs 0 0 Q (F0 m 4 ls []) := by
  obtain ⟨hx, hb, hml, hown, hts, hK, hT, hA, hF, hLo⟩ := id C0
  intro n
  induction n with
  | zero =>
    intro l2 l3 x2_ H locs ls hP hD hS hl hf
    rw [fX5_highestAhead_L4] at hf
    cases hf
  | succ n ih =>
    intro l2 l3 x2_ H locs ls hP hD hS hl hf hk
    rw [fX5_highestAhead_L4] at hf
    refine lv_iload_n hx hb dX5_highestAhead_4 rfl (lv_at hl 3 rfl) ?_
    refine lv_iload_n hx hb dX5_highestAhead_5 rfl (lv_at hl 1 rfl) ?_
    refine lv_icmp_ge (tgt := 26) hx hb dX5_highestAhead_6 (by decide) (fun hc => ?_) (fun hc => ?_)
    · replace hf := it_t (hc) hf
      obtain rfl := o1 hf
      exact hk H locs ls hP hD hS (lv_sub hl [2] rfl)
    · replace hf := it_f (hc) hf
      refine lv_iload_n hx hb dX5_highestAhead_9 rfl (lv_at hl 2 rfl) ?_
      refine lv_aload_n hx hb dX5_highestAhead_10 rfl (lv_at hl 0 rfl) ?_
      refine va_get (D := (dC, dI)) (ci := 5) (v := .ref h_t_row) (C := RX5) (T := TX5) (N := 4) hx hb hts in_X5 hown hK hP 0 rfl rfl 1 (Nat.le_of_ble_eq_true rfl) (hts _ qf_X5_15) (fun _ h9 => h9) rfl dX5_highestAhead_11 ?_
      refine lv_iload_n hx hb dX5_highestAhead_14 rfl (lv_at hl 3 rfl) ?_
      obtain ⟨hg_1, hf⟩ := gd_some hf
      refine va_iald hx hb hK hP 1 0 rfl rfl (inb_in hg_1) dX5_highestAhead_15 ?_
      refine va_mmax hx hb (hml.trans hl.1.symm) hown (hts _ qm_X5_45) (hts _ qt_Lib_Math_max) (hts _ qz_Math) (hts _ qc_Lib_Math_max) (Nat.le_trans (Nat.le_of_ble_eq_true rfl) hF) (Nat.le_trans (Nat.le_of_ble_eq_true rfl) hLo) (Nat.zero_le _) (Nat.zero_le _) dX5_highestAhead_16 ?_
      refine lv_topi (fun v_2 ev_2 => ?_)
      replace hf := xl_at hf ev_2
      refine lv_istore_n (lv' := [(2, .int v_2), (0, .ref h_t), (1, .int l1), (3, .int l3)]) hx hb dX5_highestAhead_19 rfl hl (Nat.le_of_ble_eq_true rfl) rfl (fun ls hl => ?_)
      obtain ⟨l3_3, el3_3⟩ : ∃ y : Int32, y = l3 + (1 : Int32) := ⟨_, rfl⟩
      replace hf := xl_at hf el3_3
      refine lv_iinc (v := l3_3) (lv' := [(3, .int l3_3), (2, .int v_2), (0, .ref h_t), (1, .int l1)]) hx hb dX5_highestAhead_20 hl (k := 3) rfl (by rw [el3_3]; rfl) (Nat.le_of_ble_eq_true rfl) rfl (fun ls hl => ?_)
      refine lv_goto (tgt := 4) hx hb dX5_highestAhead_23 (by decide) ?_
      exact ih v_2 l3_3 _ H locs ls hP hD hS (lv_sub hl [2, 3, 1, 0] rfl) hf hk
set_option maxRecDepth 100000 in
set_option maxHeartbeats 4000000 in
theorem mtX5_highestAhead (l : Launch) (dC : Nat → ClassId) (dI : Nat → Nat → Nat) (cI cL cB : ClassId) (K : Nat) (h_t h_t_member h_t_row : Nat) (sz : Nat) (t_size : Int32) (t_parts : Int32) (t_row : Nat → Int32) (a1 : Int32) (o_r : Int32) (hf : fX5_highestAhead K t_row a1 = some o_r) : Met l yX5_highestAhead [Cond.code yX5_highestAhead cX5_highestAhead 4 (some .int)] ({ frames := 1, cells := 0, slots := 0, locals := 15 }) (va_Pc [.ref h_t, .int a1] (cPre dC dI cI cL cB sz [(h_t, .inr (5, [.ref h_t_member, .ref h_t_row, .int t_size, .int t_parts])), (h_t_row, .inl (cI, 7, .inl t_row))])) (cQi dC dI (va_A [(h_t, .inr (5, [.ref h_t_member, .ref h_t_row, .int t_size, .int t_parts])), (h_t_row, .inl (cI, 7, .inl t_row))] sz) o_r [(h_t, .inr (5, [.ref h_t_member, .ref h_t_row, .int t_size, .int t_parts])), (h_t_row, .inl (cI, 7, .inl t_row))]) 0 0 (va_A [(h_t, .inr (5, [.ref h_t_member, .ref h_t_row, .int t_size, .int t_parts])), (h_t_row, .inl (cI, 7, .inl t_row))] sz) := by
  refine Met.ofW (cc := cX5_highestAhead) (maxL := 4) (ret := (some .int)) (by decide) rfl ?_
  intro p e s m args below meth c s₁ B hml hv
  obtain ⟨rfl, hsz, hP, hK, hD0, hT⟩ := hv
  have hx := B.exec
  have hb := B.bytes
  have hr := B.returns
  have hown : s.vm.findClass RX5 = some m.cls := findClass_of_methodNamed B.named
  have hlocks := B.notSynchronized
  have hts := TB.use hT ([.ref h_t, .int a1] : List Value).toArray
  subst hsz
  have hD := hD0.self (sz := s.heap.size)
  generalize hAe : va_A [(h_t, .inr (5, [.ref h_t_member, .ref h_t_row, .int t_size, .int t_parts])), (h_t_row, .inl (cI, 7, .inl t_row))] s.heap.size = A at hD ⊢
  have hA : ∀ q : Nat, s.heap.size ≤ q → A q := fun q h => by rw [← hAe]; exact Or.inr h
  clear hAe hD0
  have hl := lv_entry ([.ref h_t, .int a1]) (n := 4) (Nat.le_of_ble_eq_true rfl)
  rw [lg_entry_eq]
  generalize (lg_sl ([.ref h_t, .int a1]) ++ List.replicate (4 - (lg_sl ([.ref h_t, .int a1])).length) Slot.unset).toArray = ls at hl ⊢
  have hl : lv_has ls 4 [(0, .ref h_t), (1, .int a1)] := hl
  have hF : 1 ≤ (headSpec [Cond.code yX5_highestAhead cX5_highestAhead 4 (some .int)] ({ frames := 1, cells := 0, slots := 0, locals := 15 })).room.frames := Nat.le_refl _
  have hLo : 15 ≤ (headSpec [Cond.code yX5_highestAhead cX5_highestAhead 4 (some .int)] ({ frames := 1, cells := 0, slots := 0, locals := 15 })).room.locals := Nat.le_refl _
  have C0 : Sx p (headSpec [Cond.code yX5_highestAhead cX5_highestAhead 4 (some .int)] ({ frames := 1, cells := 0, slots := 0, locals := 15 })).room s m ([.ref h_t, .int a1] : List Value).toArray c cX5_highestAhead 4 RX5 A dC dI cI cL cB 1 15 := ⟨hx, hb, hml, hown, hts, hK, hT, hA, hF, hLo⟩
  refine startH (A := A) hP (fun H locs hP hS => ?_)
  rw [fX5_highestAhead] at hf
  refine lv_iconst (v := (0 : Int32)) hx hb dX5_highestAhead_0 (by decide) ?_
  refine lv_istore_n (lv' := [(2, .int (0 : Int32)), (0, .ref h_t), (1, .int a1)]) hx hb dX5_highestAhead_1 rfl hl (Nat.le_of_ble_eq_true rfl) rfl (fun ls hl => ?_)
  refine lv_iconst (v := (0 : Int32)) hx hb dX5_highestAhead_2 (by decide) ?_
  refine lv_istore_n (lv' := [(3, .int (0 : Int32)), (2, .int (0 : Int32)), (0, .ref h_t), (1, .int a1)]) hx hb dX5_highestAhead_3 rfl hl (Nat.le_of_ble_eq_true rfl) rfl (fun ls hl => ?_)
  obtain ⟨l2_5, hq_4, hf⟩ := b1_some hf
  refine wX5_highestAhead_L4 C0 h_t h_t_member h_t_row t_size t_parts t_row a1 K (0 : Int32) (0 : Int32) l2_5 H locs ls hP hD hS (lv_sub hl [2, 3, 1, 0] rfl) hq_4 ?_
  intro H locs ls hP hD hS hl
  refine lv_iload_n hx hb dX5_highestAhead_26 rfl (lv_at hl 0 rfl) ?_
  obtain rfl := o1 hf
  exact W.iret hx hb hr (fun t ht hW => ⟨⟨_, (), rfl, rfl, by rw [ht]; exact hP, hD⟩, hS.F ht⟩) hS.2.2 dX5_highestAhead_27
theorem dX5_nextRow_0 : decode cX5_nextRow 0 = .ok (.aload_n 0, 1) := by decide +kernel
theorem dX5_nextRow_1 : decode cX5_nextRow 1 = .ok (.getfield 34, 3) := by decide +kernel
theorem dX5_nextRow_4 : decode cX5_nextRow 4 = .ok (.iconst 1, 1) := by decide +kernel
theorem dX5_nextRow_5 : decode cX5_nextRow 5 = .ok (.isub, 1) := by decide +kernel
theorem dX5_nextRow_6 : decode cX5_nextRow 6 = .ok (.istore_n 1, 1) := by decide +kernel
theorem dX5_nextRow_7 : decode cX5_nextRow 7 = .ok (.iload_n 1, 1) := by decide +kernel
theorem dX5_nextRow_8 : decode cX5_nextRow 8 = .ok (.ifCond .le 75, 3) := by decide +kernel
theorem dX5_nextRow_11 : decode cX5_nextRow 11 = .ok (.aload_n 0, 1) := by decide +kernel
theorem dX5_nextRow_12 : decode cX5_nextRow 12 = .ok (.getfield 15, 3) := by decide +kernel
theorem dX5_nextRow_15 : decode cX5_nextRow 15 = .ok (.iload_n 1, 1) := by decide +kernel
theorem dX5_nextRow_16 : decode cX5_nextRow 16 = .ok (.iaload, 1) := by decide +kernel
theorem dX5_nextRow_17 : decode cX5_nextRow 17 = .ok (.aload_n 0, 1) := by decide +kernel
theorem dX5_nextRow_18 : decode cX5_nextRow 18 = .ok (.getfield 30, 3) := by decide +kernel
theorem dX5_nextRow_21 : decode cX5_nextRow 21 = .ok (.iconst 1, 1) := by decide +kernel
theorem dX5_nextRow_22 : decode cX5_nextRow 22 = .ok (.isub, 1) := by decide +kernel
theorem dX5_nextRow_23 : decode cX5_nextRow 23 = .ok (.if_icmp .ge 54, 3) := by decide +kernel
theorem dX5_nextRow_26 : decode cX5_nextRow 26 = .ok (.aload_n 0, 1) := by decide +kernel
theorem dX5_nextRow_27 : decode cX5_nextRow 27 = .ok (.getfield 15, 3) := by decide +kernel
theorem dX5_nextRow_30 : decode cX5_nextRow 30 = .ok (.iload_n 1, 1) := by decide +kernel
theorem dX5_nextRow_31 : decode cX5_nextRow 31 = .ok (.iaload, 1) := by decide +kernel
theorem dX5_nextRow_32 : decode cX5_nextRow 32 = .ok (.aload_n 0, 1) := by decide +kernel
theorem dX5_nextRow_33 : decode cX5_nextRow 33 = .ok (.iload_n 1, 1) := by decide +kernel
theorem dX5_nextRow_34 : decode cX5_nextRow 34 = .ok (.invokevirtual 42, 3) := by decide +kernel
theorem dX5_nextRow_37 : decode cX5_nextRow 37 = .ok (.if_icmp .gt 40, 3) := by decide +kernel
theorem dX5_nextRow_40 : decode cX5_nextRow 40 = .ok (.aload_n 0, 1) := by decide +kernel
theorem dX5_nextRow_41 : decode cX5_nextRow 41 = .ok (.getfield 15, 3) := by decide +kernel
theorem dX5_nextRow_44 : decode cX5_nextRow 44 = .ok (.iload_n 1, 1) := by decide +kernel
theorem dX5_nextRow_45 : decode cX5_nextRow 45 = .ok (.dup2, 1) := by decide +kernel
theorem dX5_nextRow_46 : decode cX5_nextRow 46 = .ok (.iaload, 1) := by decide +kernel
theorem dX5_nextRow_47 : decode cX5_nextRow 47 = .ok (.iconst 1, 1) := by decide +kernel
theorem dX5_nextRow_48 : decode cX5_nextRow 48 = .ok (.iadd, 1) := by decide +kernel
theorem dX5_nextRow_49 : decode cX5_nextRow 49 = .ok (.iastore, 1) := by decide +kernel
theorem dX5_nextRow_50 : decode cX5_nextRow 50 = .ok (.iload_n 1, 1) := by decide +kernel
theorem dX5_nextRow_51 : decode cX5_nextRow 51 = .ok (.iconst 1, 1) := by decide +kernel
theorem dX5_nextRow_52 : decode cX5_nextRow 52 = .ok (.iadd, 1) := by decide +kernel
theorem dX5_nextRow_53 : decode cX5_nextRow 53 = .ok (.istore_n 2, 1) := by decide +kernel
theorem dX5_nextRow_54 : decode cX5_nextRow 54 = .ok (.iload_n 2, 1) := by decide +kernel
theorem dX5_nextRow_55 : decode cX5_nextRow 55 = .ok (.aload_n 0, 1) := by decide +kernel
theorem dX5_nextRow_56 : decode cX5_nextRow 56 = .ok (.getfield 34, 3) := by decide +kernel
theorem dX5_nextRow_59 : decode cX5_nextRow 59 = .ok (.if_icmp .ge 16, 3) := by decide +kernel
theorem dX5_nextRow_62 : decode cX5_nextRow 62 = .ok (.aload_n 0, 1) := by decide +kernel
theorem dX5_nextRow_63 : decode cX5_nextRow 63 = .ok (.getfield 15, 3) := by decide +kernel
theorem dX5_nextRow_66 : decode cX5_nextRow 66 = .ok (.iload_n 2, 1) := by decide +kernel
theorem dX5_nextRow_67 : decode cX5_nextRow 67 = .ok (.iconst 0, 1) := by decide +kernel
theorem dX5_nextRow_68 : decode cX5_nextRow 68 = .ok (.iastore, 1) := by decide +kernel
theorem dX5_nextRow_69 : decode cX5_nextRow 69 = .ok (.iinc 2 1, 3) := by decide +kernel
theorem dX5_nextRow_72 : decode cX5_nextRow 72 = .ok (.goto (-18), 3) := by decide +kernel
theorem dX5_nextRow_75 : decode cX5_nextRow 75 = .ok (.iconst 1, 1) := by decide +kernel
theorem dX5_nextRow_76 : decode cX5_nextRow 76 = .ok (.ireturn, 1) := by decide +kernel
theorem dX5_nextRow_77 : decode cX5_nextRow 77 = .ok (.iinc 1 (-1), 3) := by decide +kernel
theorem dX5_nextRow_80 : decode cX5_nextRow 80 = .ok (.goto (-73), 3) := by decide +kernel
theorem dX5_nextRow_83 : decode cX5_nextRow 83 = .ok (.iconst 0, 1) := by decide +kernel
theorem dX5_nextRow_84 : decode cX5_nextRow 84 = .ok (.ireturn, 1) := by decide +kernel
set_option maxRecDepth 100000 in
set_option maxHeartbeats 4000000 in
theorem wX5_nextRow_L7 {p : Program} {l : Launch} {e : Env} {R : Room} {s : State} {m : MethodId} {args : Array Value} {below : List Frame} {meth : Method} {c : Code} {Q : State → Prop} {A : Nat → Prop} {dC : Nat → ClassId} {dI : Nat → Nat → Nat} {cI cL cB : ClassId} {K : Nat} (C0 : Sx p R s m args c cX5_nextRow 3 RX5 A dC dI cI cL cB 2 38) (h_t h_t_member h_t_row : Nat) (t_size : Int32) (t_parts : Int32) (t_row : Nat → Int32) : ∀ (n : Nat) (l1 : Int32) (ex : (Int32) ⊕ (Unit)) (H : Heap) (locs : List Loc) (ls : Array Slot), va_P (dC, dI) vwCl [(h_t, .inr (5, [.ref h_t_member, .ref h_t_row, .int t_size, .int t_parts])), (h_t_row, .inl (cI, 7, .inl t_row))] H → va_D A [(h_t, .inr (5, [.ref h_t_member, .ref h_t_row, .int t_size, .int t_parts])), (h_t_row, .inl (cI, 7, .inl t_row))] → va_S A s.heap H locs → lv_has ls 3 [(0, .ref h_t), (1, .int l1)] → fX5_nextRow_L7 K t_parts t_row n l1 = some ex → (∀ (x1_ : Int32), ex = (.inl x1_) → ∀ (H : Heap) (locs : List Loc) (ls : Array Slot), va_P (dC, dI) vwCl [(h_t, .inr (5, [.ref h_t_member, .ref h_t_row, .int t_size, .int t_parts])), (h_t_row, .inl (cI, 7, .inl t_row))] H → va_D A [(h_t, .inr (5, [.ref h_t_member, .ref h_t_row, .int t_size, .int t_parts])), (h_t_row, .inl (cI, 7, .inl t_row))] → va_S A s.heap H locs → lv_has ls 3 [(0, .ref h_t), (1, .int x1_)] → W p l e R s m args below meth c H locs 0 0 Q (F0 m 40 ls [])) → (∀ (_ : Unit), ex = (.inr ()) → ∀ (H : Heap) (locs : List Loc) (ls : Array Slot), va_P (dC, dI) vwCl [(h_t, .inr (5, [.ref h_t_member, .ref h_t_row, .int t_size, .int t_parts])), (h_t_row, .inl (cI, 7, .inl t_row))] H → va_D A [(h_t, .inr (5, [.ref h_t_member, .ref h_t_row, .int t_size, .int t_parts])), (h_t_row, .inl (cI, 7, .inl t_row))] → va_S A s.heap H locs → lv_has ls 3 [] → W p l e R s m args below meth c H locs 0 0 Q (F0 m 83 ls [])) → W p l e R s m args below meth c H locs 0 0 Q (F0 m 7 ls []) := by
  obtain ⟨hx, hb, hml, hown, hts, hK, hT, hA, hF, hLo⟩ := id C0
  intro n
  induction n with
  | zero =>
    intro l1 ex H locs ls hP hD hS hl hf
    rw [fX5_nextRow_L7] at hf
    cases hf
  | succ n ih =>
    intro l1 ex H locs ls hP hD hS hl hf hk0 hk1
    rw [fX5_nextRow_L7] at hf
    refine lv_iload_n hx hb dX5_nextRow_7 rfl (lv_at hl 1 rfl) ?_
    refine lv_if_le (tgt := 83) hx hb dX5_nextRow_8 (by decide) (fun hc => ?_) (fun hc => ?_)
    · replace hf := it_t (hc) hf
      exact hk1 () (Option.some.inj hf).symm H locs ls hP hD hS (lv_sub hl [] rfl)
    · replace hf := it_f (hc) hf
      refine lv_aload_n hx hb dX5_nextRow_11 rfl (lv_at hl 0 rfl) ?_
      refine va_get (D := (dC, dI)) (ci := 5) (v := .ref h_t_row) (C := RX5) (T := TX5) (N := 4) hx hb hts in_X5 hown hK hP 0 rfl rfl 1 (Nat.le_of_ble_eq_true rfl) (hts _ qf_X5_15) (fun _ h9 => h9) rfl dX5_nextRow_12 ?_
      refine lv_iload_n hx hb dX5_nextRow_15 rfl (lv_at hl 1 rfl) ?_
      obtain ⟨hg_2, hf⟩ := gd_some hf
      refine va_iald hx hb hK hP 1 0 rfl rfl (inb_in hg_2) dX5_nextRow_16 ?_
      refine lv_aload_n hx hb dX5_nextRow_17 rfl (lv_at hl 0 rfl) ?_
      refine va_get (D := (dC, dI)) (ci := 5) (v := .int t_parts) (C := RX5) (T := TX5) (N := 4) hx hb hts in_X5 hown hK hP 0 rfl rfl 3 (Nat.le_of_ble_eq_true rfl) (hts _ qf_X5_30) (fun _ h9 => h9) rfl dX5_nextRow_18 ?_
      refine lv_iconst (v := (1 : Int32)) hx hb dX5_nextRow_21 (by decide) ?_
      refine lv_isub hx hb dX5_nextRow_22 ?_
      obtain ⟨k_3, ek_3, hf⟩ := jn_out hf
      have J_4 : ∀ (H : Heap) (locs : List Loc) (ls : Array Slot), va_P (dC, dI) vwCl [(h_t, .inr (5, [.ref h_t_member, .ref h_t_row, .int t_size, .int t_parts])), (h_t_row, .inl (cI, 7, .inl t_row))] H → va_D A [(h_t, .inr (5, [.ref h_t_member, .ref h_t_row, .int t_size, .int t_parts])), (h_t_row, .inl (cI, 7, .inl t_row))] → va_S A s.heap H locs → lv_has ls 3 [(0, .ref h_t), (1, .int l1)] → k_3 = some ex → W p l e R s m args below meth c H locs 0 0 Q (F0 m 77 ls []) := by
        intro H locs ls hP hD hS hl hf
        rw [ek_3] at hf
        obtain ⟨l1_5, el1_5⟩ : ∃ y : Int32, y = l1 + (-1 : Int32) := ⟨_, rfl⟩
        replace hf := xl_at hf el1_5
        refine lv_iinc (v := l1_5) (lv' := [(1, .int l1_5), (0, .ref h_t)]) hx hb dX5_nextRow_77 hl (k := 1) rfl (by rw [el1_5]; rfl) (Nat.le_of_ble_eq_true rfl) rfl (fun ls hl => ?_)
        refine lv_goto (tgt := 7) hx hb dX5_nextRow_80 (by decide) ?_
        exact ih l1_5 _ H locs ls hP hD hS (lv_sub hl [1, 0] rfl) hf hk0 hk1
      refine lv_icmp_ge (tgt := 77) hx hb dX5_nextRow_23 (by decide) (fun hc => ?_) (fun hc => ?_)
      · replace hf := it_t (hc) hf
        exact J_4 H locs ls hP hD hS (lv_sub hl [0, 1] rfl) hf
      · replace hf := it_f (hc) hf
        refine lv_aload_n hx hb dX5_nextRow_26 rfl (lv_at hl 0 rfl) ?_
        refine va_get (D := (dC, dI)) (ci := 5) (v := .ref h_t_row) (C := RX5) (T := TX5) (N := 4) hx hb hts in_X5 hown hK hP 0 rfl rfl 1 (Nat.le_of_ble_eq_true rfl) (hts _ qf_X5_15) (fun _ h9 => h9) rfl dX5_nextRow_27 ?_
        refine lv_iload_n hx hb dX5_nextRow_30 rfl (lv_at hl 1 rfl) ?_
        obtain ⟨hg_6, hf⟩ := gd_some hf
        refine va_iald hx hb hK hP 1 0 rfl rfl (inb_in hg_6) dX5_nextRow_31 ?_
        refine lv_aload_n hx hb dX5_nextRow_32 rfl (lv_at hl 0 rfl) ?_
        refine lv_iload_n hx hb dX5_nextRow_33 rfl (lv_at hl 1 rfl) ?_
        obtain ⟨r_7, hq_8, hf⟩ := b1_some hf
        refine xci (wr := []) (w2 := [(h_t, .inr (5, [.ref h_t_member, .ref h_t_row, .int t_size, .int t_parts])), (h_t_row, .inl (cI, 7, .inl t_row))]) (va_runV (As := [.int l1]) (rest := [.int (t_row l1.toNatClampNeg)]) ⟨hx, hb, hml, hown, hts⟩ (mtX5_highestAhead l dC dI cI cL cB K h_t h_t_member h_t_row H.size t_size t_parts t_row l1 r_7 hq_8) (cwV 1 hts gv_X5_42 rfl rfl rfl hdV_X5_highestAhead ⟨Nat.le_trans (Nat.le_of_ble_eq_true rfl) hF, Nat.le_trans (Nat.le_of_ble_eq_true rfl) hLo⟩) (cPreV hK hP hD hT [0, 1] rfl rfl (ci := 5) (q0 := 0) rfl rfl) rfl rfl hl.1 rfl (lv_room (Nat.le_of_ble_eq_true rfl)) dX5_nextRow_34 ⟨Nat.zero_le _, Nat.zero_le _⟩) hP hD hS hA [0, 1] [] [0, 1] rfl rfl rfl rfl rfl rfl (fun H locs hP hD hS => ?_)
        refine lv_icmp_gt (tgt := 77) hx hb dX5_nextRow_37 (by decide) (fun hc => ?_) (fun hc => ?_)
        · replace hf := it_t (hc) hf
          exact J_4 H locs ls hP hD hS (lv_sub hl [0, 1] rfl) hf
        · replace hf := it_f (hc) hf
          exact hk0 l1 (Option.some.inj hf).symm H locs ls hP hD hS (lv_sub hl [0, 1] rfl)
set_option maxRecDepth 100000 in
set_option maxHeartbeats 4000000 in
theorem wX5_nextRow_L54 {p : Program} {l : Launch} {e : Env} {R : Room} {s : State} {m : MethodId} {args : Array Value} {below : List Frame} {meth : Method} {c : Code} {Q : State → Prop} {A : Nat → Prop} {dC : Nat → ClassId} {dI : Nat → Nat → Nat} {cI cL cB : ClassId} {K : Nat} (C0 : Sx p R s m args c cX5_nextRow 3 RX5 A dC dI cI cL cB 2 38) (h_t h_t_member h_t_row : Nat) (t_size : Int32) (t_parts : Int32) : ∀ (n : Nat) (l2 : Int32) (t_row : Nat → Int32) (x_t_row : Nat → Int32) (H : Heap) (locs : List Loc) (ls : Array Slot), va_P (dC, dI) vwCl [(h_t, .inr (5, [.ref h_t_member, .ref h_t_row, .int t_size, .int t_parts])), (h_t_row, .inl (cI, 7, .inl t_row))] H → va_D A [(h_t, .inr (5, [.ref h_t_member, .ref h_t_row, .int t_size, .int t_parts])), (h_t_row, .inl (cI, 7, .inl t_row))] → va_S A s.heap H locs → lv_has ls 3 [(0, .ref h_t), (2, .int l2)] → fX5_nextRow_L54 K t_size n l2 t_row = some x_t_row → (∀ (H : Heap) (locs : List Loc) (ls : Array Slot), va_P (dC, dI) vwCl [(h_t, .inr (5, [.ref h_t_member, .ref h_t_row, .int t_size, .int t_parts])), (h_t_row, .inl (cI, 7, .inl x_t_row))] H → va_D A [(h_t, .inr (5, [.ref h_t_member, .ref h_t_row, .int t_size, .int t_parts])), (h_t_row, .inl (cI, 7, .inl x_t_row))] → va_S A s.heap H locs → lv_has ls 3 [] → W p l e R s m args below meth c H locs 0 0 Q (F0 m 75 ls [])) → W p l e R s m args below meth c H locs 0 0 Q (F0 m 54 ls []) := by
  obtain ⟨hx, hb, hml, hown, hts, hK, hT, hA, hF, hLo⟩ := id C0
  intro n
  induction n with
  | zero =>
    intro l2 t_row x_t_row H locs ls hP hD hS hl hf
    rw [fX5_nextRow_L54] at hf
    cases hf
  | succ n ih =>
    intro l2 t_row x_t_row H locs ls hP hD hS hl hf hk
    rw [fX5_nextRow_L54] at hf
    refine lv_iload_n hx hb dX5_nextRow_54 rfl (lv_at hl 1 rfl) ?_
    refine lv_aload_n hx hb dX5_nextRow_55 rfl (lv_at hl 0 rfl) ?_
    refine va_get (D := (dC, dI)) (ci := 5) (v := .int t_size) (C := RX5) (T := TX5) (N := 4) hx hb hts in_X5 hown hK hP 0 rfl rfl 2 (Nat.le_of_ble_eq_true rfl) (hts _ qf_X5_34) (fun _ h9 => h9) rfl dX5_nextRow_56 ?_
    refine lv_icmp_ge (tgt := 75) hx hb dX5_nextRow_59 (by decide) (fun hc => ?_) (fun hc => ?_)
    · replace hf := it_t (hc) hf
      obtain rfl := o1 hf
      exact hk H locs ls hP hD hS (lv_sub hl [] rfl)
    · replace hf := it_f (hc) hf
      refine lv_aload_n hx hb dX5_nextRow_62 rfl (lv_at hl 0 rfl) ?_
      refine va_get (D := (dC, dI)) (ci := 5) (v := .ref h_t_row) (C := RX5) (T := TX5) (N := 4) hx hb hts in_X5 hown hK hP 0 rfl rfl 1 (Nat.le_of_ble_eq_true rfl) (hts _ qf_X5_15) (fun _ h9 => h9) rfl dX5_nextRow_63 ?_
      refine lv_iload_n hx hb dX5_nextRow_66 rfl (lv_at hl 1 rfl) ?_
      refine lv_iconst (v := (0 : Int32)) hx hb dX5_nextRow_67 (by decide) ?_
      obtain ⟨hg_15, hf⟩ := gd_some hf
      obtain ⟨t_row_16, et_row_16⟩ : ∃ y : Nat → Int32, y = upd t_row l2.toNatClampNeg (0 : Int32) := ⟨_, rfl⟩
      replace hf := xl_at hf et_row_16
      refine xiast (w2 := [(h_t, .inr (5, [.ref h_t_member, .ref h_t_row, .int t_size, .int t_parts])), (h_t_row, .inl (cI, 7, .inl t_row_16))]) hx hb hK hP hD hS 1 0 rfl rfl (inb_in hg_15) et_row_16 rfl dX5_nextRow_68 (fun H locs hP hD hS => ?_)
      obtain ⟨l2_17, el2_17⟩ : ∃ y : Int32, y = l2 + (1 : Int32) := ⟨_, rfl⟩
      replace hf := xl_at hf el2_17
      refine lv_iinc (v := l2_17) (lv' := [(2, .int l2_17), (0, .ref h_t)]) hx hb dX5_nextRow_69 hl (k := 1) rfl (by rw [el2_17]; rfl) (Nat.le_of_ble_eq_true rfl) rfl (fun ls hl => ?_)
      refine lv_goto (tgt := 54) hx hb dX5_nextRow_72 (by decide) ?_
      exact ih l2_17 t_row_16 _ H locs ls hP hD hS (lv_sub hl [1, 0] rfl) hf hk
set_option maxRecDepth 100000 in
set_option maxHeartbeats 4000000 in
theorem mtX5_nextRow (l : Launch) (dC : Nat → ClassId) (dI : Nat → Nat → Nat) (cI cL cB : ClassId) (K : Nat) (h_t h_t_member h_t_row : Nat) (sz : Nat) (t_size : Int32) (t_parts : Int32) (t_row : Nat → Int32) (o_r : Int32) (o_t_row : Nat → Int32) (hf : fX5_nextRow K t_size t_parts t_row = some (o_r, o_t_row)) : Met l yX5_nextRow [Cond.code yX5_nextRow cX5_nextRow 3 (some .boolean)] ({ frames := 2, cells := 0, slots := 0, locals := 38 }) (va_Pc [.ref h_t] (cPre dC dI cI cL cB sz [(h_t, .inr (5, [.ref h_t_member, .ref h_t_row, .int t_size, .int t_parts])), (h_t_row, .inl (cI, 7, .inl t_row))])) (cQi dC dI (va_A [(h_t, .inr (5, [.ref h_t_member, .ref h_t_row, .int t_size, .int t_parts])), (h_t_row, .inl (cI, 7, .inl t_row))] sz) o_r [(h_t, .inr (5, [.ref h_t_member, .ref h_t_row, .int t_size, .int t_parts])), (h_t_row, .inl (cI, 7, .inl o_t_row))]) 0 0 (va_A [(h_t, .inr (5, [.ref h_t_member, .ref h_t_row, .int t_size, .int t_parts])), (h_t_row, .inl (cI, 7, .inl t_row))] sz) := by
  refine Met.ofW (cc := cX5_nextRow) (maxL := 3) (ret := (some .boolean)) (by decide) rfl ?_
  intro p e s m args below meth c s₁ B hml hv
  obtain ⟨rfl, hsz, hP, hK, hD0, hT⟩ := hv
  have hx := B.exec
  have hb := B.bytes
  have hr := B.returns
  have hown : s.vm.findClass RX5 = some m.cls := findClass_of_methodNamed B.named
  have hlocks := B.notSynchronized
  have hts := TB.use hT ([.ref h_t] : List Value).toArray
  subst hsz
  have hD := hD0.self (sz := s.heap.size)
  generalize hAe : va_A [(h_t, .inr (5, [.ref h_t_member, .ref h_t_row, .int t_size, .int t_parts])), (h_t_row, .inl (cI, 7, .inl t_row))] s.heap.size = A at hD ⊢
  have hA : ∀ q : Nat, s.heap.size ≤ q → A q := fun q h => by rw [← hAe]; exact Or.inr h
  clear hAe hD0
  have hl := lv_entry ([.ref h_t]) (n := 3) (Nat.le_of_ble_eq_true rfl)
  rw [lg_entry_eq]
  generalize (lg_sl ([.ref h_t]) ++ List.replicate (3 - (lg_sl ([.ref h_t])).length) Slot.unset).toArray = ls at hl ⊢
  have hl : lv_has ls 3 [(0, .ref h_t)] := hl
  have hF : 2 ≤ (headSpec [Cond.code yX5_nextRow cX5_nextRow 3 (some .boolean)] ({ frames := 2, cells := 0, slots := 0, locals := 38 })).room.frames := Nat.le_refl _
  have hLo : 38 ≤ (headSpec [Cond.code yX5_nextRow cX5_nextRow 3 (some .boolean)] ({ frames := 2, cells := 0, slots := 0, locals := 38 })).room.locals := Nat.le_refl _
  have C0 : Sx p (headSpec [Cond.code yX5_nextRow cX5_nextRow 3 (some .boolean)] ({ frames := 2, cells := 0, slots := 0, locals := 38 })).room s m ([.ref h_t] : List Value).toArray c cX5_nextRow 3 RX5 A dC dI cI cL cB 2 38 := ⟨hx, hb, hml, hown, hts, hK, hT, hA, hF, hLo⟩
  refine startH (A := A) hP (fun H locs hP hS => ?_)
  rw [fX5_nextRow] at hf
  refine lv_aload_n hx hb dX5_nextRow_0 rfl (lv_at hl 0 rfl) ?_
  refine va_get (D := (dC, dI)) (ci := 5) (v := .int t_size) (C := RX5) (T := TX5) (N := 4) hx hb hts in_X5 hown hK hP 0 rfl rfl 2 (Nat.le_of_ble_eq_true rfl) (hts _ qf_X5_34) (fun _ h9 => h9) rfl dX5_nextRow_1 ?_
  refine lv_iconst (v := (1 : Int32)) hx hb dX5_nextRow_4 (by decide) ?_
  refine lv_isub hx hb dX5_nextRow_5 ?_
  refine lv_topi (fun l1_1 el1_1 => ?_)
  replace hf := xl_at hf el1_1
  refine lv_istore_n (lv' := [(1, .int l1_1), (0, .ref h_t)]) hx hb dX5_nextRow_6 rfl hl (Nat.le_of_ble_eq_true rfl) rfl (fun ls hl => ?_)
  obtain ⟨ex_20, hq_9, hf⟩ := sm_some hf
  refine wX5_nextRow_L7 C0 h_t h_t_member h_t_row t_size t_parts t_row K l1_1 ex_20 H locs ls hP hD hS (lv_sub hl [1, 0] rfl) hq_9 ?_ ?_
  · intro l1_10 he H locs ls hP hD hS hl
    subst he
    replace hf := el1 hf
    refine lv_aload_n hx hb dX5_nextRow_40 rfl (lv_at hl 0 rfl) ?_
    refine va_get (D := (dC, dI)) (ci := 5) (v := .ref h_t_row) (C := RX5) (T := TX5) (N := 4) hx hb hts in_X5 hown hK hP 0 rfl rfl 1 (Nat.le_of_ble_eq_true rfl) (hts _ qf_X5_15) (fun _ h9 => h9) rfl dX5_nextRow_41 ?_
    refine lv_iload_n hx hb dX5_nextRow_44 rfl (lv_at hl 1 rfl) ?_
    refine lv_dup2_11 hx hb dX5_nextRow_45 rfl rfl ?_
    obtain ⟨hg_11, hf⟩ := gd_some hf
    refine va_iald hx hb hK hP 1 0 rfl rfl (inb_in hg_11) dX5_nextRow_46 ?_
    refine lv_iconst (v := (1 : Int32)) hx hb dX5_nextRow_47 (by decide) ?_
    refine lv_iadd hx hb dX5_nextRow_48 ?_
    obtain ⟨hg_12, hf⟩ := gd_some hf
    obtain ⟨t_row_13, et_row_13⟩ : ∃ y : Nat → Int32, y = upd t_row l1_10.toNatClampNeg ((t_row l1_10.toNatClampNeg) + (1 : Int32)) := ⟨_, rfl⟩
    replace hf := xl_at hf et_row_13
    refine xiast (w2 := [(h_t, .inr (5, [.ref h_t_member, .ref h_t_row, .int t_size, .int t_parts])), (h_t_row, .inl (cI, 7, .inl t_row_13))]) hx hb hK hP hD hS 1 0 rfl rfl (inb_in hg_12) et_row_13 rfl dX5_nextRow_49 (fun H locs hP hD hS => ?_)
    refine lv_iload_n hx hb dX5_nextRow_50 rfl (lv_at hl 1 rfl) ?_
    refine lv_iconst (v := (1 : Int32)) hx hb dX5_nextRow_51 (by decide) ?_
    refine lv_iadd hx hb dX5_nextRow_52 ?_
    refine lv_topi (fun l2_14 el2_14 => ?_)
    replace hf := xl_at hf el2_14
    refine lv_istore_n (lv' := [(2, .int l2_14), (0, .ref h_t), (1, .int l1_10)]) hx hb dX5_nextRow_53 rfl hl (Nat.le_of_ble_eq_true rfl) rfl (fun ls hl => ?_)
    obtain ⟨t_row_19, hq_18, hf⟩ := b1_some hf
    refine wX5_nextRow_L54 C0 h_t h_t_member h_t_row t_size t_parts K l2_14 t_row_13 t_row_19 H locs ls hP hD hS (lv_sub hl [1, 0] rfl) hq_18 ?_
    intro H locs ls hP hD hS hl
    refine lv_iconst (v := (1 : Int32)) hx hb dX5_nextRow_75 (by decide) ?_
    obtain ⟨rfl, rfl⟩ := o2 hf
    exact W.zret hx hb hr rfl (fun t ht hW => ⟨⟨_, (), rfl, rfl, by rw [ht]; exact hP, hD⟩, hS.F ht⟩) hS.2.2 dX5_nextRow_76
  · intro _ he H locs ls hP hD hS hl
    subst he
    replace hf := er0 hf
    refine lv_iconst (v := (0 : Int32)) hx hb dX5_nextRow_83 (by decide) ?_
    obtain ⟨rfl, rfl⟩ := o2 hf
    exact W.zret hx hb hr rfl (fun t ht hW => ⟨⟨_, (), rfl, rfl, by rw [ht]; exact hP, hD⟩, hS.F ht⟩) hS.2.2 dX5_nextRow_84
