theorem dX2_insert_0 : decode cX2_insert 0 = .ok (.aload_n 1, 1) := by decide +kernel
theorem dX2_insert_1 : decode cX2_insert 1 = .ok (.getfield 43, 3) := by decide +kernel
theorem dX2_insert_4 : decode cX2_insert 4 = .ok (.iload_n 2, 1) := by decide +kernel
theorem dX2_insert_5 : decode cX2_insert 5 = .ok (.iaload, 1) := by decide +kernel
theorem dX2_insert_6 : decode cX2_insert 6 = .ok (.istore 4, 2) := by decide +kernel
theorem dX2_insert_8 : decode cX2_insert 8 = .ok (.aload_n 1, 1) := by decide +kernel
theorem dX2_insert_9 : decode cX2_insert 9 = .ok (.getfield 44, 3) := by decide +kernel
theorem dX2_insert_12 : decode cX2_insert 12 = .ok (.iload_n 2, 1) := by decide +kernel
theorem dX2_insert_13 : decode cX2_insert 13 = .ok (.iaload, 1) := by decide +kernel
theorem dX2_insert_14 : decode cX2_insert 14 = .ok (.istore 5, 2) := by decide +kernel
theorem dX2_insert_16 : decode cX2_insert 16 = .ok (.iload_n 3, 1) := by decide +kernel
theorem dX2_insert_17 : decode cX2_insert 17 = .ok (.istore 6, 2) := by decide +kernel
theorem dX2_insert_19 : decode cX2_insert 19 = .ok (.iload 6, 2) := by decide +kernel
theorem dX2_insert_21 : decode cX2_insert 21 = .ok (.ifCond .le 47, 3) := by decide +kernel
theorem dX2_insert_24 : decode cX2_insert 24 = .ok (.iload 4, 2) := by decide +kernel
theorem dX2_insert_26 : decode cX2_insert 26 = .ok (.iload 5, 2) := by decide +kernel
theorem dX2_insert_28 : decode cX2_insert 28 = .ok (.aload_n 1, 1) := by decide +kernel
theorem dX2_insert_29 : decode cX2_insert 29 = .ok (.getfield 43, 3) := by decide +kernel
theorem dX2_insert_32 : decode cX2_insert 32 = .ok (.aload_n 0, 1) := by decide +kernel
theorem dX2_insert_33 : decode cX2_insert 33 = .ok (.getfield 21, 3) := by decide +kernel
theorem dX2_insert_36 : decode cX2_insert 36 = .ok (.iload 6, 2) := by decide +kernel
theorem dX2_insert_38 : decode cX2_insert 38 = .ok (.iconst 1, 1) := by decide +kernel
theorem dX2_insert_39 : decode cX2_insert 39 = .ok (.isub, 1) := by decide +kernel
theorem dX2_insert_40 : decode cX2_insert 40 = .ok (.iaload, 1) := by decide +kernel
theorem dX2_insert_41 : decode cX2_insert 41 = .ok (.iaload, 1) := by decide +kernel
theorem dX2_insert_42 : decode cX2_insert 42 = .ok (.aload_n 1, 1) := by decide +kernel
theorem dX2_insert_43 : decode cX2_insert 43 = .ok (.getfield 44, 3) := by decide +kernel
theorem dX2_insert_46 : decode cX2_insert 46 = .ok (.aload_n 0, 1) := by decide +kernel
theorem dX2_insert_47 : decode cX2_insert 47 = .ok (.getfield 21, 3) := by decide +kernel
theorem dX2_insert_50 : decode cX2_insert 50 = .ok (.iload 6, 2) := by decide +kernel
theorem dX2_insert_52 : decode cX2_insert 52 = .ok (.iconst 1, 1) := by decide +kernel
theorem dX2_insert_53 : decode cX2_insert 53 = .ok (.isub, 1) := by decide +kernel
theorem dX2_insert_54 : decode cX2_insert 54 = .ok (.iaload, 1) := by decide +kernel
theorem dX2_insert_55 : decode cX2_insert 55 = .ok (.iaload, 1) := by decide +kernel
theorem dX2_insert_56 : decode cX2_insert 56 = .ok (.invokestatic 45, 3) := by decide +kernel
theorem dX2_insert_59 : decode cX2_insert 59 = .ok (.ifCond .eq 9, 3) := by decide +kernel
theorem dX2_insert_62 : decode cX2_insert 62 = .ok (.iinc 6 (-1), 3) := by decide +kernel
theorem dX2_insert_65 : decode cX2_insert 65 = .ok (.goto (-46), 3) := by decide +kernel
theorem dX2_insert_68 : decode cX2_insert 68 = .ok (.iload 6, 2) := by decide +kernel
theorem dX2_insert_70 : decode cX2_insert 70 = .ok (.ifCond .le 23, 3) := by decide +kernel
theorem dX2_insert_73 : decode cX2_insert 73 = .ok (.aload_n 1, 1) := by decide +kernel
theorem dX2_insert_74 : decode cX2_insert 74 = .ok (.aload_n 0, 1) := by decide +kernel
theorem dX2_insert_75 : decode cX2_insert 75 = .ok (.getfield 21, 3) := by decide +kernel
theorem dX2_insert_78 : decode cX2_insert 78 = .ok (.iload 6, 2) := by decide +kernel
theorem dX2_insert_80 : decode cX2_insert 80 = .ok (.iconst 1, 1) := by decide +kernel
theorem dX2_insert_81 : decode cX2_insert 81 = .ok (.isub, 1) := by decide +kernel
theorem dX2_insert_82 : decode cX2_insert 82 = .ok (.iaload, 1) := by decide +kernel
theorem dX2_insert_83 : decode cX2_insert 83 = .ok (.iload 4, 2) := by decide +kernel
theorem dX2_insert_85 : decode cX2_insert 85 = .ok (.iload 5, 2) := by decide +kernel
theorem dX2_insert_87 : decode cX2_insert 87 = .ok (.invokevirtual 49, 3) := by decide +kernel
theorem dX2_insert_90 : decode cX2_insert 90 = .ok (.ifCond .ne 12, 3) := by decide +kernel
theorem dX2_insert_93 : decode cX2_insert 93 = .ok (.iload_n 3, 1) := by decide +kernel
theorem dX2_insert_94 : decode cX2_insert 94 = .ok (.aload_n 0, 1) := by decide +kernel
theorem dX2_insert_95 : decode cX2_insert 95 = .ok (.getfield 21, 3) := by decide +kernel
theorem dX2_insert_98 : decode cX2_insert 98 = .ok (.arraylength, 1) := by decide +kernel
theorem dX2_insert_99 : decode cX2_insert 99 = .ok (.if_icmp .lt 5, 3) := by decide +kernel
theorem dX2_insert_102 : decode cX2_insert 102 = .ok (.iload_n 3, 1) := by decide +kernel
theorem dX2_insert_103 : decode cX2_insert 103 = .ok (.ireturn, 1) := by decide +kernel
theorem dX2_insert_104 : decode cX2_insert 104 = .ok (.iload_n 3, 1) := by decide +kernel
theorem dX2_insert_105 : decode cX2_insert 105 = .ok (.istore 7, 2) := by decide +kernel
theorem dX2_insert_107 : decode cX2_insert 107 = .ok (.iload 7, 2) := by decide +kernel
theorem dX2_insert_109 : decode cX2_insert 109 = .ok (.iload 6, 2) := by decide +kernel
theorem dX2_insert_111 : decode cX2_insert 111 = .ok (.if_icmp .le 25, 3) := by decide +kernel
theorem dX2_insert_114 : decode cX2_insert 114 = .ok (.aload_n 0, 1) := by decide +kernel
theorem dX2_insert_115 : decode cX2_insert 115 = .ok (.getfield 21, 3) := by decide +kernel
theorem dX2_insert_118 : decode cX2_insert 118 = .ok (.iload 7, 2) := by decide +kernel
theorem dX2_insert_120 : decode cX2_insert 120 = .ok (.aload_n 0, 1) := by decide +kernel
theorem dX2_insert_121 : decode cX2_insert 121 = .ok (.getfield 21, 3) := by decide +kernel
theorem dX2_insert_124 : decode cX2_insert 124 = .ok (.iload 7, 2) := by decide +kernel
theorem dX2_insert_126 : decode cX2_insert 126 = .ok (.iconst 1, 1) := by decide +kernel
theorem dX2_insert_127 : decode cX2_insert 127 = .ok (.isub, 1) := by decide +kernel
theorem dX2_insert_128 : decode cX2_insert 128 = .ok (.iaload, 1) := by decide +kernel
theorem dX2_insert_129 : decode cX2_insert 129 = .ok (.iastore, 1) := by decide +kernel
theorem dX2_insert_130 : decode cX2_insert 130 = .ok (.iinc 7 (-1), 3) := by decide +kernel
theorem dX2_insert_133 : decode cX2_insert 133 = .ok (.goto (-26), 3) := by decide +kernel
theorem dX2_insert_136 : decode cX2_insert 136 = .ok (.aload_n 0, 1) := by decide +kernel
theorem dX2_insert_137 : decode cX2_insert 137 = .ok (.getfield 21, 3) := by decide +kernel
theorem dX2_insert_140 : decode cX2_insert 140 = .ok (.iload 6, 2) := by decide +kernel
theorem dX2_insert_142 : decode cX2_insert 142 = .ok (.iload_n 2, 1) := by decide +kernel
theorem dX2_insert_143 : decode cX2_insert 143 = .ok (.iastore, 1) := by decide +kernel
theorem dX2_insert_144 : decode cX2_insert 144 = .ok (.iload_n 3, 1) := by decide +kernel
theorem dX2_insert_145 : decode cX2_insert 145 = .ok (.iconst 1, 1) := by decide +kernel
theorem dX2_insert_146 : decode cX2_insert 146 = .ok (.iadd, 1) := by decide +kernel
theorem dX2_insert_147 : decode cX2_insert 147 = .ok (.ireturn, 1) := by decide +kernel
set_option maxRecDepth 100000 in
set_option maxHeartbeats 4000000 in
theorem wX2_insert_L19 {p : Program} {l : Launch} {e : Env} {R : Room} {s : State} {m : MethodId} {args : Array Value} {below : List Frame} {meth : Method} {c : Code} {Q : State → Prop} {A : Nat → Prop} {dC : Nat → ClassId} {dI : Nat → Nat → Nat} {cI cL cB : ClassId} {K : Nat} (C0 : Sx p R s m args c cX2_insert 8 RX2 A dC dI cI cL cB 1 23) (h_t h_t_chain h_t_x h_t_y h_t_sorted h_p1 h_p1_x h_p1_y h_p1_colour h_p1_load : Nat) (t_size : Int32) (t_sorted : Nat → Int32) (p1_size : Int32) (p1_centreX : Int32) (p1_centreY : Int32) (p1_x : Nat → Int32) (p1_y : Nat → Int32) (l2 : Int32) (l3 : Int32) (l4 : Int32) (l5 : Int32) : ∀ (n : Nat) (l6 : Int32) (x6_ : Int32) (H : Heap) (locs : List Loc) (ls : Array Slot), va_P (dC, dI) vwCl [(h_t, .inr (2, [.ref h_t_chain, .ref h_t_x, .ref h_t_y, .ref h_t_sorted, .int t_size])), (h_t_sorted, .inl (cI, 24, .inl t_sorted)), (h_p1, .inr (0, [.ref h_p1_x, .ref h_p1_y, .ref h_p1_colour, .ref h_p1_load, .int p1_size, .int p1_centreX, .int p1_centreY])), (h_p1_x, .inl (cI, 24, .inl p1_x)), (h_p1_y, .inl (cI, 24, .inl p1_y))] H → va_D A [(h_t, .inr (2, [.ref h_t_chain, .ref h_t_x, .ref h_t_y, .ref h_t_sorted, .int t_size])), (h_t_sorted, .inl (cI, 24, .inl t_sorted)), (h_p1, .inr (0, [.ref h_p1_x, .ref h_p1_y, .ref h_p1_colour, .ref h_p1_load, .int p1_size, .int p1_centreX, .int p1_centreY])), (h_p1_x, .inl (cI, 24, .inl p1_x)), (h_p1_y, .inl (cI, 24, .inl p1_y))] → va_S A s.heap H locs → lv_has ls 8 [(0, .ref h_t), (1, .ref h_p1), (2, .int l2), (3, .int l3), (4, .int l4), (5, .int l5), (6, .int l6)] → fX2_insert_L19 K l4 l5 t_sorted p1_x p1_y n l6 = some x6_ → (∀ (H : Heap) (locs : List Loc) (ls : Array Slot), va_P (dC, dI) vwCl [(h_t, .inr (2, [.ref h_t_chain, .ref h_t_x, .ref h_t_y, .ref h_t_sorted, .int t_size])), (h_t_sorted, .inl (cI, 24, .inl t_sorted)), (h_p1, .inr (0, [.ref h_p1_x, .ref h_p1_y, .ref h_p1_colour, .ref h_p1_load, .int p1_size, .int p1_centreX, .int p1_centreY])), (h_p1_x, .inl (cI, 24, .inl p1_x)), (h_p1_y, .inl (cI, 24, .inl p1_y))] H → va_D A [(h_t, .inr (2, [.ref h_t_chain, .ref h_t_x, .ref h_t_y, .ref h_t_sorted, .int t_size])), (h_t_sorted, .inl (cI, 24, .inl t_sorted)), (h_p1, .inr (0, [.ref h_p1_x, .ref h_p1_y, .ref h_p1_colour, .ref h_p1_load, .int p1_size, .int p1_centreX, .int p1_centreY])), (h_p1_x, .inl (cI, 24, .inl p1_x)), (h_p1_y, .inl (cI, 24, .inl p1_y))] → va_S A s.heap H locs → lv_has ls 8 [(0, .ref h_t), (1, .ref h_p1), (2, .int l2), (3, .int l3), (4, .int l4), (5, .int l5), (6, .int x6_)] → W p l e R s m args below meth c H locs 0 0 Q (F0 m 68 ls [])) → W p l e R s m args below meth c H locs 0 0 Q (F0 m 19 ls []) := by
  obtain ⟨hx, hb, hml, hown, hts, hK, hT, hA, hF, hLo⟩ := id C0
  intro n
  induction n with
  | zero =>
    intro l6 x6_ H locs ls hP hD hS hl hf
    rw [fX2_insert_L19] at hf
    cases hf
  | succ n ih =>
    intro l6 x6_ H locs ls hP hD hS hl hf hk
    rw [fX2_insert_L19] at hf
    refine lv_iload hx hb dX2_insert_19 (lv_at hl 6 rfl) ?_
    refine lv_if_le (tgt := 68) hx hb dX2_insert_21 (by decide) (fun hc => ?_) (fun hc => ?_)
    · replace hf := it_t (hc) hf
      obtain rfl := o1 hf
      exact hk H locs ls hP hD hS (lv_sub hl [0, 1, 2, 3, 4, 5, 6] rfl)
    · replace hf := it_f (hc) hf
      refine lv_iload hx hb dX2_insert_24 (lv_at hl 4 rfl) ?_
      refine lv_iload hx hb dX2_insert_26 (lv_at hl 5 rfl) ?_
      refine lv_aload_n hx hb dX2_insert_28 rfl (lv_at hl 1 rfl) ?_
      refine va_get (D := (dC, dI)) (ci := 0) (v := .ref h_p1_x) (C := RX0) (T := TX0) (N := 7) hx hb hts in_X0 hown hK hP 2 rfl rfl 0 (Nat.le_of_ble_eq_true rfl) (hts _ qf_X2_43) (fun _ h9 => h9) rfl dX2_insert_29 ?_
      refine lv_aload_n hx hb dX2_insert_32 rfl (lv_at hl 0 rfl) ?_
      refine va_get (D := (dC, dI)) (ci := 2) (v := .ref h_t_sorted) (C := RX2) (T := TX2) (N := 5) hx hb hts in_X2 hown hK hP 0 rfl rfl 3 (Nat.le_of_ble_eq_true rfl) (hts _ qf_X2_21) (fun _ h9 => h9) rfl dX2_insert_33 ?_
      refine lv_iload hx hb dX2_insert_36 (lv_at hl 6 rfl) ?_
      refine lv_iconst (v := (1 : Int32)) hx hb dX2_insert_38 (by decide) ?_
      refine lv_isub hx hb dX2_insert_39 ?_
      obtain ⟨hg_5, hf⟩ := gd_some hf
      refine va_iald hx hb hK hP 1 0 rfl rfl (inb_in hg_5) dX2_insert_40 ?_
      obtain ⟨hg_6, hf⟩ := gd_some hf
      refine va_iald hx hb hK hP 3 0 rfl rfl (inb_in hg_6) dX2_insert_41 ?_
      refine lv_aload_n hx hb dX2_insert_42 rfl (lv_at hl 1 rfl) ?_
      refine va_get (D := (dC, dI)) (ci := 0) (v := .ref h_p1_y) (C := RX0) (T := TX0) (N := 7) hx hb hts in_X0 hown hK hP 2 rfl rfl 1 (Nat.le_of_ble_eq_true rfl) (hts _ qf_X2_44) (fun _ h9 => h9) rfl dX2_insert_43 ?_
      refine lv_aload_n hx hb dX2_insert_46 rfl (lv_at hl 0 rfl) ?_
      refine va_get (D := (dC, dI)) (ci := 2) (v := .ref h_t_sorted) (C := RX2) (T := TX2) (N := 5) hx hb hts in_X2 hown hK hP 0 rfl rfl 3 (Nat.le_of_ble_eq_true rfl) (hts _ qf_X2_21) (fun _ h9 => h9) rfl dX2_insert_47 ?_
      refine lv_iload hx hb dX2_insert_50 (lv_at hl 6 rfl) ?_
      refine lv_iconst (v := (1 : Int32)) hx hb dX2_insert_52 (by decide) ?_
      refine lv_isub hx hb dX2_insert_53 ?_
      obtain ⟨hg_7, hf⟩ := gd_some hf
      refine va_iald hx hb hK hP 1 0 rfl rfl (inb_in hg_7) dX2_insert_54 ?_
      obtain ⟨hg_8, hf⟩ := gd_some hf
      refine va_iald hx hb hK hP 4 0 rfl rfl (inb_in hg_8) dX2_insert_55 ?_
      obtain ⟨r_9, hq_10, hf⟩ := b1_some hf
      refine xci (wr := [(h_t, .inr (2, [.ref h_t_chain, .ref h_t_x, .ref h_t_y, .ref h_t_sorted, .int t_size])), (h_t_sorted, .inl (cI, 24, .inl t_sorted)), (h_p1, .inr (0, [.ref h_p1_x, .ref h_p1_y, .ref h_p1_colour, .ref h_p1_load, .int p1_size, .int p1_centreX, .int p1_centreY])), (h_p1_x, .inl (cI, 24, .inl p1_x)), (h_p1_y, .inl (cI, 24, .inl p1_y))]) (w2 := [(h_t, .inr (2, [.ref h_t_chain, .ref h_t_x, .ref h_t_y, .ref h_t_sorted, .int t_size])), (h_t_sorted, .inl (cI, 24, .inl t_sorted)), (h_p1, .inr (0, [.ref h_p1_x, .ref h_p1_y, .ref h_p1_colour, .ref h_p1_load, .int p1_size, .int p1_centreX, .int p1_centreY])), (h_p1_x, .inl (cI, 24, .inl p1_x)), (h_p1_y, .inl (cI, 24, .inl p1_y))]) (va_runS (As := [.int l4, .int l5, .int (p1_x (t_sorted (l6 - (1 : Int32)).toNatClampNeg).toNatClampNeg), .int (p1_y (t_sorted (l6 - (1 : Int32)).toNatClampNeg).toNatClampNeg)]) (rest := []) ⟨hx, hb, hml, hown, hts⟩ (mtX2_isBefore l dC dI cI cL cB K H.size l4 l5 (p1_x (t_sorted (l6 - (1 : Int32)).toNatClampNeg).toNatClampNeg) (p1_y (t_sorted (l6 - (1 : Int32)).toNatClampNeg).toNatClampNeg) r_9 hq_10) (va_cwS 4 hts gs_X2_45 rfl rfl rfl hdS_X2_isBefore ⟨Nat.le_trans (Nat.le_of_ble_eq_true rfl) hF, Nat.le_trans (Nat.le_of_ble_eq_true rfl) hLo⟩) (cPreS hK hP hD hT [] rfl rfl) rfl rfl hl.1 rfl (lv_room (Nat.le_of_ble_eq_true rfl)) dX2_insert_56 ⟨Nat.zero_le _, Nat.zero_le _⟩) hP hD hS hA [] [0, 1, 2, 3, 4] [0, 1, 2, 3, 4] rfl rfl rfl rfl rfl rfl (fun H locs hP hD hS => ?_)
      refine lv_if_eq (tgt := 68) hx hb dX2_insert_59 (by decide) (fun hc => ?_) (fun hc => ?_)
      · replace hf := it_t (hc) hf
        obtain rfl := o1 hf
        exact hk H locs ls hP hD hS (lv_sub hl [0, 1, 2, 3, 4, 5, 6] rfl)
      · replace hf := it_f (hc) hf
        obtain ⟨l6_11, el6_11⟩ : ∃ y : Int32, y = l6 + (-1 : Int32) := ⟨_, rfl⟩
        replace hf := xl_at hf el6_11
        refine lv_iinc (v := l6_11) (lv' := [(6, .int l6_11), (0, .ref h_t), (1, .ref h_p1), (2, .int l2), (3, .int l3), (4, .int l4), (5, .int l5)]) hx hb dX2_insert_62 hl (k := 6) rfl (by rw [el6_11]; rfl) (Nat.le_of_ble_eq_true rfl) rfl (fun ls hl => ?_)
        refine lv_goto (tgt := 19) hx hb dX2_insert_65 (by decide) ?_
        exact ih l6_11 _ H locs ls hP hD hS (lv_sub hl [1, 2, 3, 4, 5, 6, 0] rfl) hf hk
set_option maxRecDepth 100000 in
set_option maxHeartbeats 4000000 in
theorem wX2_insert_L107 {p : Program} {l : Launch} {e : Env} {R : Room} {s : State} {m : MethodId} {args : Array Value} {below : List Frame} {meth : Method} {c : Code} {Q : State → Prop} {A : Nat → Prop} {dC : Nat → ClassId} {dI : Nat → Nat → Nat} {cI cL cB : ClassId} {K : Nat} (C0 : Sx p R s m args c cX2_insert 8 RX2 A dC dI cI cL cB 1 23) (h_t h_t_chain h_t_x h_t_y h_t_sorted h_p1 h_p1_x h_p1_y h_p1_colour h_p1_load : Nat) (t_size : Int32) (p1_size : Int32) (p1_centreX : Int32) (p1_centreY : Int32) (p1_x : Nat → Int32) (p1_y : Nat → Int32) (l2 : Int32) (l3 : Int32) (l6 : Int32) : ∀ (n : Nat) (l7 : Int32) (t_sorted : Nat → Int32) (x_t_sorted : Nat → Int32) (H : Heap) (locs : List Loc) (ls : Array Slot), va_P (dC, dI) vwCl [(h_t, .inr (2, [.ref h_t_chain, .ref h_t_x, .ref h_t_y, .ref h_t_sorted, .int t_size])), (h_t_sorted, .inl (cI, 24, .inl t_sorted)), (h_p1, .inr (0, [.ref h_p1_x, .ref h_p1_y, .ref h_p1_colour, .ref h_p1_load, .int p1_size, .int p1_centreX, .int p1_centreY])), (h_p1_x, .inl (cI, 24, .inl p1_x)), (h_p1_y, .inl (cI, 24, .inl p1_y))] H → va_D A [(h_t, .inr (2, [.ref h_t_chain, .ref h_t_x, .ref h_t_y, .ref h_t_sorted, .int t_size])), (h_t_sorted, .inl (cI, 24, .inl t_sorted)), (h_p1, .inr (0, [.ref h_p1_x, .ref h_p1_y, .ref h_p1_colour, .ref h_p1_load, .int p1_size, .int p1_centreX, .int p1_centreY])), (h_p1_x, .inl (cI, 24, .inl p1_x)), (h_p1_y, .inl (cI, 24, .inl p1_y))] → va_S A s.heap H locs → lv_has ls 8 [(0, .ref h_t), (2, .int l2), (3, .int l3), (6, .int l6), (7, .int l7)] → fX2_insert_L107 K l6 n l7 t_sorted = some x_t_sorted → (∀ (H : Heap) (locs : List Loc) (ls : Array Slot), va_P (dC, dI) vwCl [(h_t, .inr (2, [.ref h_t_chain, .ref h_t_x, .ref h_t_y, .ref h_t_sorted, .int t_size])), (h_t_sorted, .inl (cI, 24, .inl x_t_sorted)), (h_p1, .inr (0, [.ref h_p1_x, .ref h_p1_y, .ref h_p1_colour, .ref h_p1_load, .int p1_size, .int p1_centreX, .int p1_centreY])), (h_p1_x, .inl (cI, 24, .inl p1_x)), (h_p1_y, .inl (cI, 24, .inl p1_y))] H → va_D A [(h_t, .inr (2, [.ref h_t_chain, .ref h_t_x, .ref h_t_y, .ref h_t_sorted, .int t_size])), (h_t_sorted, .inl (cI, 24, .inl x_t_sorted)), (h_p1, .inr (0, [.ref h_p1_x, .ref h_p1_y, .ref h_p1_colour, .ref h_p1_load, .int p1_size, .int p1_centreX, .int p1_centreY])), (h_p1_x, .inl (cI, 24, .inl p1_x)), (h_p1_y, .inl (cI, 24, .inl p1_y))] → va_S A s.heap H locs → lv_has ls 8 [(0, .ref h_t), (2, .int l2), (3, .int l3), (6, .int l6)] → W p l e R s m args below meth c H locs 0 0 Q (F0 m 136 ls [])) → W p l e R s m args below meth c H locs 0 0 Q (F0 m 107 ls []) := by
  obtain ⟨hx, hb, hml, hown, hts, hK, hT, hA, hF, hLo⟩ := id C0
  intro n
  induction n with
  | zero =>
    intro l7 t_sorted x_t_sorted H locs ls hP hD hS hl hf
    rw [fX2_insert_L107] at hf
    cases hf
  | succ n ih =>
    intro l7 t_sorted x_t_sorted H locs ls hP hD hS hl hf hk
    rw [fX2_insert_L107] at hf
    refine lv_iload hx hb dX2_insert_107 (lv_at hl 4 rfl) ?_
    refine lv_iload hx hb dX2_insert_109 (lv_at hl 3 rfl) ?_
    refine lv_icmp_le (tgt := 136) hx hb dX2_insert_111 (by decide) (fun hc => ?_) (fun hc => ?_)
    · replace hf := it_t (hc) hf
      obtain rfl := o1 hf
      exact hk H locs ls hP hD hS (lv_sub hl [0, 1, 2, 3] rfl)
    · replace hf := it_f (hc) hf
      refine lv_aload_n hx hb dX2_insert_114 rfl (lv_at hl 0 rfl) ?_
      refine va_get (D := (dC, dI)) (ci := 2) (v := .ref h_t_sorted) (C := RX2) (T := TX2) (N := 5) hx hb hts in_X2 hown hK hP 0 rfl rfl 3 (Nat.le_of_ble_eq_true rfl) (hts _ qf_X2_21) (fun _ h9 => h9) rfl dX2_insert_115 ?_
      refine lv_iload hx hb dX2_insert_118 (lv_at hl 4 rfl) ?_
      refine lv_aload_n hx hb dX2_insert_120 rfl (lv_at hl 0 rfl) ?_
      refine va_get (D := (dC, dI)) (ci := 2) (v := .ref h_t_sorted) (C := RX2) (T := TX2) (N := 5) hx hb hts in_X2 hown hK hP 0 rfl rfl 3 (Nat.le_of_ble_eq_true rfl) (hts _ qf_X2_21) (fun _ h9 => h9) rfl dX2_insert_121 ?_
      refine lv_iload hx hb dX2_insert_124 (lv_at hl 4 rfl) ?_
      refine lv_iconst (v := (1 : Int32)) hx hb dX2_insert_126 (by decide) ?_
      refine lv_isub hx hb dX2_insert_127 ?_
      obtain ⟨hg_16, hf⟩ := gd_some hf
      refine va_iald hx hb hK hP 1 0 rfl rfl (inb_in hg_16) dX2_insert_128 ?_
      obtain ⟨hg_17, hf⟩ := gd_some hf
      obtain ⟨t_sorted_18, et_sorted_18⟩ : ∃ y : Nat → Int32, y = upd t_sorted l7.toNatClampNeg (t_sorted (l7 - (1 : Int32)).toNatClampNeg) := ⟨_, rfl⟩
      replace hf := xl_at hf et_sorted_18
      refine xiast (w2 := [(h_t, .inr (2, [.ref h_t_chain, .ref h_t_x, .ref h_t_y, .ref h_t_sorted, .int t_size])), (h_t_sorted, .inl (cI, 24, .inl t_sorted_18)), (h_p1, .inr (0, [.ref h_p1_x, .ref h_p1_y, .ref h_p1_colour, .ref h_p1_load, .int p1_size, .int p1_centreX, .int p1_centreY])), (h_p1_x, .inl (cI, 24, .inl p1_x)), (h_p1_y, .inl (cI, 24, .inl p1_y))]) hx hb hK hP hD hS 1 0 rfl rfl (inb_in hg_17) et_sorted_18 rfl dX2_insert_129 (fun H locs hP hD hS => ?_)
      obtain ⟨l7_19, el7_19⟩ : ∃ y : Int32, y = l7 + (-1 : Int32) := ⟨_, rfl⟩
      replace hf := xl_at hf el7_19
      refine lv_iinc (v := l7_19) (lv' := [(7, .int l7_19), (0, .ref h_t), (2, .int l2), (3, .int l3), (6, .int l6)]) hx hb dX2_insert_130 hl (k := 4) rfl (by rw [el7_19]; rfl) (Nat.le_of_ble_eq_true rfl) rfl (fun ls hl => ?_)
      refine lv_goto (tgt := 107) hx hb dX2_insert_133 (by decide) ?_
      exact ih l7_19 t_sorted_18 _ H locs ls hP hD hS (lv_sub hl [1, 2, 3, 4, 0] rfl) hf hk
set_option maxRecDepth 100000 in
set_option maxHeartbeats 4000000 in
theorem mtX2_insert (l : Launch) (dC : Nat → ClassId) (dI : Nat → Nat → Nat) (cI cL cB : ClassId) (K : Nat) (h_t h_t_chain h_t_x h_t_y h_t_sorted h_p1 h_p1_x h_p1_y h_p1_colour h_p1_load : Nat) (sz : Nat) (t_size : Int32) (t_sorted : Nat → Int32) (p1_size : Int32) (p1_centreX : Int32) (p1_centreY : Int32) (p1_x : Nat → Int32) (p1_y : Nat → Int32) (a2 : Int32) (a3 : Int32) (o_r : Int32) (o_t_sorted : Nat → Int32) (hf : fX2_insert K t_sorted p1_x p1_y a2 a3 = some (o_r, o_t_sorted)) : Met l yX2_insert [Cond.code yX2_insert cX2_insert 8 (some .int)] ({ frames := 1, cells := 0, slots := 0, locals := 23 }) (va_Pc [.ref h_t, .ref h_p1, .int a2, .int a3] (cPre dC dI cI cL cB sz [(h_t, .inr (2, [.ref h_t_chain, .ref h_t_x, .ref h_t_y, .ref h_t_sorted, .int t_size])), (h_t_sorted, .inl (cI, 24, .inl t_sorted)), (h_p1, .inr (0, [.ref h_p1_x, .ref h_p1_y, .ref h_p1_colour, .ref h_p1_load, .int p1_size, .int p1_centreX, .int p1_centreY])), (h_p1_x, .inl (cI, 24, .inl p1_x)), (h_p1_y, .inl (cI, 24, .inl p1_y))])) (cQi dC dI (va_A [(h_t, .inr (2, [.ref h_t_chain, .ref h_t_x, .ref h_t_y, .ref h_t_sorted, .int t_size])), (h_t_sorted, .inl (cI, 24, .inl t_sorted)), (h_p1, .inr (0, [.ref h_p1_x, .ref h_p1_y, .ref h_p1_colour, .ref h_p1_load, .int p1_size, .int p1_centreX, .int p1_centreY])), (h_p1_x, .inl (cI, 24, .inl p1_x)), (h_p1_y, .inl (cI, 24, .inl p1_y))] sz) o_r [(h_t, .inr (2, [.ref h_t_chain, .ref h_t_x, .ref h_t_y, .ref h_t_sorted, .int t_size])), (h_t_sorted, .inl (cI, 24, .inl o_t_sorted)), (h_p1, .inr (0, [.ref h_p1_x, .ref h_p1_y, .ref h_p1_colour, .ref h_p1_load, .int p1_size, .int p1_centreX, .int p1_centreY])), (h_p1_x, .inl (cI, 24, .inl p1_x)), (h_p1_y, .inl (cI, 24, .inl p1_y))]) 0 0 (va_A [(h_t, .inr (2, [.ref h_t_chain, .ref h_t_x, .ref h_t_y, .ref h_t_sorted, .int t_size])), (h_t_sorted, .inl (cI, 24, .inl t_sorted)), (h_p1, .inr (0, [.ref h_p1_x, .ref h_p1_y, .ref h_p1_colour, .ref h_p1_load, .int p1_size, .int p1_centreX, .int p1_centreY])), (h_p1_x, .inl (cI, 24, .inl p1_x)), (h_p1_y, .inl (cI, 24, .inl p1_y))] sz) := by
  refine Met.ofW (cc := cX2_insert) (maxL := 8) (ret := (some .int)) (by decide) rfl ?_
  intro p e s m args below meth c s₁ B hml hv
  obtain ⟨rfl, hsz, hP, hK, hD0, hT⟩ := hv
  have hx := B.exec
  have hb := B.bytes
  have hr := B.returns
  have hown : s.vm.findClass RX2 = some m.cls := findClass_of_methodNamed B.named
  have hlocks := B.notSynchronized
  have hts := TB.use hT ([.ref h_t, .ref h_p1, .int a2, .int a3] : List Value).toArray
  subst hsz
  have hD := hD0.self (sz := s.heap.size)
  generalize hAe : va_A [(h_t, .inr (2, [.ref h_t_chain, .ref h_t_x, .ref h_t_y, .ref h_t_sorted, .int t_size])), (h_t_sorted, .inl (cI, 24, .inl t_sorted)), (h_p1, .inr (0, [.ref h_p1_x, .ref h_p1_y, .ref h_p1_colour, .ref h_p1_load, .int p1_size, .int p1_centreX, .int p1_centreY])), (h_p1_x, .inl (cI, 24, .inl p1_x)), (h_p1_y, .inl (cI, 24, .inl p1_y))] s.heap.size = A at hD ⊢
  have hA : ∀ q : Nat, s.heap.size ≤ q → A q := fun q h => by rw [← hAe]; exact Or.inr h
  clear hAe hD0
  have hl := lv_entry ([.ref h_t, .ref h_p1, .int a2, .int a3]) (n := 8) (Nat.le_of_ble_eq_true rfl)
  rw [lg_entry_eq]
  generalize (lg_sl ([.ref h_t, .ref h_p1, .int a2, .int a3]) ++ List.replicate (8 - (lg_sl ([.ref h_t, .ref h_p1, .int a2, .int a3])).length) Slot.unset).toArray = ls at hl ⊢
  have hl : lv_has ls 8 [(0, .ref h_t), (1, .ref h_p1), (2, .int a2), (3, .int a3)] := hl
  have hF : 1 ≤ (headSpec [Cond.code yX2_insert cX2_insert 8 (some .int)] ({ frames := 1, cells := 0, slots := 0, locals := 23 })).room.frames := Nat.le_refl _
  have hLo : 23 ≤ (headSpec [Cond.code yX2_insert cX2_insert 8 (some .int)] ({ frames := 1, cells := 0, slots := 0, locals := 23 })).room.locals := Nat.le_refl _
  have C0 : Sx p (headSpec [Cond.code yX2_insert cX2_insert 8 (some .int)] ({ frames := 1, cells := 0, slots := 0, locals := 23 })).room s m ([.ref h_t, .ref h_p1, .int a2, .int a3] : List Value).toArray c cX2_insert 8 RX2 A dC dI cI cL cB 1 23 := ⟨hx, hb, hml, hown, hts, hK, hT, hA, hF, hLo⟩
  refine startH (A := A) hP (fun H locs hP hS => ?_)
  rw [fX2_insert] at hf
  refine lv_aload_n hx hb dX2_insert_0 rfl (lv_at hl 1 rfl) ?_
  refine va_get (D := (dC, dI)) (ci := 0) (v := .ref h_p1_x) (C := RX0) (T := TX0) (N := 7) hx hb hts in_X0 hown hK hP 2 rfl rfl 0 (Nat.le_of_ble_eq_true rfl) (hts _ qf_X2_43) (fun _ h9 => h9) rfl dX2_insert_1 ?_
  refine lv_iload_n hx hb dX2_insert_4 rfl (lv_at hl 2 rfl) ?_
  obtain ⟨hg_1, hf⟩ := gd_some hf
  refine va_iald hx hb hK hP 3 0 rfl rfl (inb_in hg_1) dX2_insert_5 ?_
  refine lv_topi (fun l4_2 el4_2 => ?_)
  replace hf := xl_at hf el4_2
  refine lv_istore (lv' := [(4, .int l4_2), (0, .ref h_t), (1, .ref h_p1), (2, .int a2), (3, .int a3)]) hx hb dX2_insert_6 hl (Nat.le_of_ble_eq_true rfl) rfl (fun ls hl => ?_)
  refine lv_aload_n hx hb dX2_insert_8 rfl (lv_at hl 2 rfl) ?_
  refine va_get (D := (dC, dI)) (ci := 0) (v := .ref h_p1_y) (C := RX0) (T := TX0) (N := 7) hx hb hts in_X0 hown hK hP 2 rfl rfl 1 (Nat.le_of_ble_eq_true rfl) (hts _ qf_X2_44) (fun _ h9 => h9) rfl dX2_insert_9 ?_
  refine lv_iload_n hx hb dX2_insert_12 rfl (lv_at hl 3 rfl) ?_
  obtain ⟨hg_3, hf⟩ := gd_some hf
  refine va_iald hx hb hK hP 4 0 rfl rfl (inb_in hg_3) dX2_insert_13 ?_
  refine lv_topi (fun l5_4 el5_4 => ?_)
  replace hf := xl_at hf el5_4
  refine lv_istore (lv' := [(5, .int l5_4), (4, .int l4_2), (0, .ref h_t), (1, .ref h_p1), (2, .int a2), (3, .int a3)]) hx hb dX2_insert_14 hl (Nat.le_of_ble_eq_true rfl) rfl (fun ls hl => ?_)
  refine lv_iload_n hx hb dX2_insert_16 rfl (lv_at hl 5 rfl) ?_
  refine lv_istore (lv' := [(6, .int a3), (5, .int l5_4), (4, .int l4_2), (0, .ref h_t), (1, .ref h_p1), (2, .int a2), (3, .int a3)]) hx hb dX2_insert_17 hl (Nat.le_of_ble_eq_true rfl) rfl (fun ls hl => ?_)
  obtain ⟨l6_13, hq_12, hf⟩ := b1_some hf
  refine wX2_insert_L19 C0 h_t h_t_chain h_t_x h_t_y h_t_sorted h_p1 h_p1_x h_p1_y h_p1_colour h_p1_load t_size t_sorted p1_size p1_centreX p1_centreY p1_x p1_y a2 a3 l4_2 l5_4 K a3 l6_13 H locs ls hP hD hS (lv_sub hl [3, 4, 5, 6, 2, 1, 0] rfl) hq_12 ?_
  intro H locs ls hP hD hS hl
  refine lv_iload hx hb dX2_insert_68 (lv_at hl 6 rfl) ?_
  obtain ⟨k_14, ek_14, hf⟩ := jn_out hf
  have J_15 : ∀ (H : Heap) (locs : List Loc) (ls : Array Slot), va_P (dC, dI) vwCl [(h_t, .inr (2, [.ref h_t_chain, .ref h_t_x, .ref h_t_y, .ref h_t_sorted, .int t_size])), (h_t_sorted, .inl (cI, 24, .inl t_sorted)), (h_p1, .inr (0, [.ref h_p1_x, .ref h_p1_y, .ref h_p1_colour, .ref h_p1_load, .int p1_size, .int p1_centreX, .int p1_centreY])), (h_p1_x, .inl (cI, 24, .inl p1_x)), (h_p1_y, .inl (cI, 24, .inl p1_y))] H → va_D A [(h_t, .inr (2, [.ref h_t_chain, .ref h_t_x, .ref h_t_y, .ref h_t_sorted, .int t_size])), (h_t_sorted, .inl (cI, 24, .inl t_sorted)), (h_p1, .inr (0, [.ref h_p1_x, .ref h_p1_y, .ref h_p1_colour, .ref h_p1_load, .int p1_size, .int p1_centreX, .int p1_centreY])), (h_p1_x, .inl (cI, 24, .inl p1_x)), (h_p1_y, .inl (cI, 24, .inl p1_y))] → va_S A s.heap H locs → lv_has ls 8 [(0, .ref h_t), (2, .int a2), (3, .int a3), (6, .int l6_13)] → k_14 = some (o_r, o_t_sorted) → W p l e (headSpec [Cond.code yX2_insert cX2_insert 8 (some .int)] ({ frames := 1, cells := 0, slots := 0, locals := 23 })).room s m ([.ref h_t, .ref h_p1, .int a2, .int a3] : List Value).toArray below meth c H locs 0 0 (MQ below (cQi dC dI A o_r [(h_t, .inr (2, [.ref h_t_chain, .ref h_t_x, .ref h_t_y, .ref h_t_sorted, .int t_size])), (h_t_sorted, .inl (cI, 24, .inl o_t_sorted)), (h_p1, .inr (0, [.ref h_p1_x, .ref h_p1_y, .ref h_p1_colour, .ref h_p1_load, .int p1_size, .int p1_centreX, .int p1_centreY])), (h_p1_x, .inl (cI, 24, .inl p1_x)), (h_p1_y, .inl (cI, 24, .inl p1_y))]) ([.ref h_t, .ref h_p1, .int a2, .int a3] : List Value).toArray s 0 0 A) (F0 m 93 ls []) := by
    intro H locs ls hP hD hS hl hf
    rw [ek_14] at hf
    refine lv_iload_n hx hb dX2_insert_93 rfl (lv_at hl 2 rfl) ?_
    refine lv_aload_n hx hb dX2_insert_94 rfl (lv_at hl 0 rfl) ?_
    refine va_get (D := (dC, dI)) (ci := 2) (v := .ref h_t_sorted) (C := RX2) (T := TX2) (N := 5) hx hb hts in_X2 hown hK hP 0 rfl rfl 3 (Nat.le_of_ble_eq_true rfl) (hts _ qf_X2_21) (fun _ h9 => h9) rfl dX2_insert_95 ?_
    refine va_alen (v := (24 : Int32)) hx hb hK hP 1 0 rfl rfl rfl dX2_insert_98 ?_
    refine lv_icmp_lt (tgt := 104) hx hb dX2_insert_99 (by decide) (fun hc => ?_) (fun hc => ?_)
    · replace hf := it_t (hc) hf
      refine lv_iload_n hx hb dX2_insert_104 rfl (lv_at hl 2 rfl) ?_
      refine lv_istore (lv' := [(7, .int a3), (0, .ref h_t), (2, .int a2), (3, .int a3), (6, .int l6_13)]) hx hb dX2_insert_105 hl (Nat.le_of_ble_eq_true rfl) rfl (fun ls hl => ?_)
      obtain ⟨t_sorted_21, hq_20, hf⟩ := b1_some hf
      refine wX2_insert_L107 C0 h_t h_t_chain h_t_x h_t_y h_t_sorted h_p1 h_p1_x h_p1_y h_p1_colour h_p1_load t_size p1_size p1_centreX p1_centreY p1_x p1_y a2 a3 l6_13 K a3 t_sorted t_sorted_21 H locs ls hP hD hS (lv_sub hl [1, 2, 3, 4, 0] rfl) hq_20 ?_
      intro H locs ls hP hD hS hl
      refine lv_aload_n hx hb dX2_insert_136 rfl (lv_at hl 0 rfl) ?_
      refine va_get (D := (dC, dI)) (ci := 2) (v := .ref h_t_sorted) (C := RX2) (T := TX2) (N := 5) hx hb hts in_X2 hown hK hP 0 rfl rfl 3 (Nat.le_of_ble_eq_true rfl) (hts _ qf_X2_21) (fun _ h9 => h9) rfl dX2_insert_137 ?_
      refine lv_iload hx hb dX2_insert_140 (lv_at hl 3 rfl) ?_
      refine lv_iload_n hx hb dX2_insert_142 rfl (lv_at hl 1 rfl) ?_
      obtain ⟨hg_22, hf⟩ := gd_some hf
      obtain ⟨t_sorted_23, et_sorted_23⟩ : ∃ y : Nat → Int32, y = upd t_sorted_21 l6_13.toNatClampNeg a2 := ⟨_, rfl⟩
      replace hf := xl_at hf et_sorted_23
      refine xiast (w2 := [(h_t, .inr (2, [.ref h_t_chain, .ref h_t_x, .ref h_t_y, .ref h_t_sorted, .int t_size])), (h_t_sorted, .inl (cI, 24, .inl t_sorted_23)), (h_p1, .inr (0, [.ref h_p1_x, .ref h_p1_y, .ref h_p1_colour, .ref h_p1_load, .int p1_size, .int p1_centreX, .int p1_centreY])), (h_p1_x, .inl (cI, 24, .inl p1_x)), (h_p1_y, .inl (cI, 24, .inl p1_y))]) hx hb hK hP hD hS 1 0 rfl rfl (inb_in hg_22) et_sorted_23 rfl dX2_insert_143 (fun H locs hP hD hS => ?_)
      refine lv_iload_n hx hb dX2_insert_144 rfl (lv_at hl 2 rfl) ?_
      refine lv_iconst (v := (1 : Int32)) hx hb dX2_insert_145 (by decide) ?_
      refine lv_iadd hx hb dX2_insert_146 ?_
      obtain ⟨rfl, rfl⟩ := o2 hf
      exact W.iret hx hb hr (fun t ht hW => ⟨⟨_, (), rfl, rfl, by rw [ht]; exact hP, hD⟩, hS.F ht⟩) hS.2.2 dX2_insert_147
    · replace hf := it_f (hc) hf
      refine lv_iload_n hx hb dX2_insert_102 rfl (lv_at hl 2 rfl) ?_
      obtain ⟨rfl, rfl⟩ := o2 hf
      exact W.iret hx hb hr (fun t ht hW => ⟨⟨_, (), rfl, rfl, by rw [ht]; exact hP, hD⟩, hS.F ht⟩) hS.2.2 dX2_insert_103
  refine lv_if_le (tgt := 93) hx hb dX2_insert_70 (by decide) (fun hc => ?_) (fun hc => ?_)
  · replace hf := it_t (hc) hf
    exact J_15 H locs ls hP hD hS (lv_sub hl [0, 2, 3, 6] rfl) hf
  · replace hf := it_f (hc) hf
    refine lv_aload_n hx hb dX2_insert_73 rfl (lv_at hl 1 rfl) ?_
    refine lv_aload_n hx hb dX2_insert_74 rfl (lv_at hl 0 rfl) ?_
    refine va_get (D := (dC, dI)) (ci := 2) (v := .ref h_t_sorted) (C := RX2) (T := TX2) (N := 5) hx hb hts in_X2 hown hK hP 0 rfl rfl 3 (Nat.le_of_ble_eq_true rfl) (hts _ qf_X2_21) (fun _ h9 => h9) rfl dX2_insert_75 ?_
    refine lv_iload hx hb dX2_insert_78 (lv_at hl 6 rfl) ?_
    refine lv_iconst (v := (1 : Int32)) hx hb dX2_insert_80 (by decide) ?_
    refine lv_isub hx hb dX2_insert_81 ?_
    obtain ⟨hg_24, hf⟩ := gd_some hf
    refine va_iald hx hb hK hP 1 0 rfl rfl (inb_in hg_24) dX2_insert_82 ?_
    refine lv_iload hx hb dX2_insert_83 (lv_at hl 4 rfl) ?_
    refine lv_iload hx hb dX2_insert_85 (lv_at hl 5 rfl) ?_
    obtain ⟨r_25, hq_26, hf⟩ := b1_some hf
    refine xci (wr := [(h_t, .inr (2, [.ref h_t_chain, .ref h_t_x, .ref h_t_y, .ref h_t_sorted, .int t_size])), (h_t_sorted, .inl (cI, 24, .inl t_sorted))]) (w2 := [(h_t, .inr (2, [.ref h_t_chain, .ref h_t_x, .ref h_t_y, .ref h_t_sorted, .int t_size])), (h_t_sorted, .inl (cI, 24, .inl t_sorted)), (h_p1, .inr (0, [.ref h_p1_x, .ref h_p1_y, .ref h_p1_colour, .ref h_p1_load, .int p1_size, .int p1_centreX, .int p1_centreY])), (h_p1_x, .inl (cI, 24, .inl p1_x)), (h_p1_y, .inl (cI, 24, .inl p1_y))]) (va_runV (As := [.int (t_sorted (l6_13 - (1 : Int32)).toNatClampNeg), .int l4_2, .int l5_4]) (rest := []) ⟨hx, hb, hml, hown, hts⟩ (mtX0_isAt l dC dI cI cL cB K h_p1 h_p1_x h_p1_y h_p1_colour h_p1_load H.size p1_size p1_centreX p1_centreY p1_x p1_y (t_sorted (l6_13 - (1 : Int32)).toNatClampNeg) l4_2 l5_4 r_25 hq_26) (cwV 3 hts gv_X2_49 rfl rfl rfl hdV_X0_isAt ⟨Nat.le_trans (Nat.le_of_ble_eq_true rfl) hF, Nat.le_trans (Nat.le_of_ble_eq_true rfl) hLo⟩) (cPreV hK hP hD hT [2, 3, 4] rfl rfl (ci := 0) (q0 := 0) rfl rfl) rfl rfl hl.1 rfl (lv_room (Nat.le_of_ble_eq_true rfl)) dX2_insert_87 ⟨Nat.zero_le _, Nat.zero_le _⟩) hP hD hS hA [2, 3, 4] [0, 1] [0, 1, 2, 3, 4] rfl rfl rfl rfl rfl rfl (fun H locs hP hD hS => ?_)
    refine lv_if_ne (tgt := 102) hx hb dX2_insert_90 (by decide) (fun hc => ?_) (fun hc => ?_)
    · replace hf := it_f (hc) hf
      refine lv_iload_n hx hb dX2_insert_102 rfl (lv_at hl 3 rfl) ?_
      obtain ⟨rfl, rfl⟩ := o2 hf
      exact W.iret hx hb hr (fun t ht hW => ⟨⟨_, (), rfl, rfl, by rw [ht]; exact hP, hD⟩, hS.F ht⟩) hS.2.2 dX2_insert_103
    · replace hf := it_t (hc) hf
      exact J_15 H locs ls hP hD hS (lv_sub hl [0, 2, 3, 6] rfl) hf
theorem dX2_turnsLeft_0 : decode cX2_turnsLeft 0 = .ok (.aload_n 0, 1) := by decide +kernel
theorem dX2_turnsLeft_1 : decode cX2_turnsLeft 1 = .ok (.getfield 15, 3) := by decide +kernel
theorem dX2_turnsLeft_4 : decode cX2_turnsLeft 4 = .ok (.aload_n 0, 1) := by decide +kernel
theorem dX2_turnsLeft_5 : decode cX2_turnsLeft 5 = .ok (.getfield 38, 3) := by decide +kernel
theorem dX2_turnsLeft_8 : decode cX2_turnsLeft 8 = .ok (.iconst 2, 1) := by decide +kernel
theorem dX2_turnsLeft_9 : decode cX2_turnsLeft 9 = .ok (.isub, 1) := by decide +kernel
theorem dX2_turnsLeft_10 : decode cX2_turnsLeft 10 = .ok (.iaload, 1) := by decide +kernel
theorem dX2_turnsLeft_11 : decode cX2_turnsLeft 11 = .ok (.istore_n 3, 1) := by decide +kernel
theorem dX2_turnsLeft_12 : decode cX2_turnsLeft 12 = .ok (.aload_n 0, 1) := by decide +kernel
theorem dX2_turnsLeft_13 : decode cX2_turnsLeft 13 = .ok (.getfield 18, 3) := by decide +kernel
theorem dX2_turnsLeft_16 : decode cX2_turnsLeft 16 = .ok (.aload_n 0, 1) := by decide +kernel
theorem dX2_turnsLeft_17 : decode cX2_turnsLeft 17 = .ok (.getfield 38, 3) := by decide +kernel
theorem dX2_turnsLeft_20 : decode cX2_turnsLeft 20 = .ok (.iconst 2, 1) := by decide +kernel
theorem dX2_turnsLeft_21 : decode cX2_turnsLeft 21 = .ok (.isub, 1) := by decide +kernel
theorem dX2_turnsLeft_22 : decode cX2_turnsLeft 22 = .ok (.iaload, 1) := by decide +kernel
theorem dX2_turnsLeft_23 : decode cX2_turnsLeft 23 = .ok (.istore 4, 2) := by decide +kernel
theorem dX2_turnsLeft_25 : decode cX2_turnsLeft 25 = .ok (.aload_n 0, 1) := by decide +kernel
theorem dX2_turnsLeft_26 : decode cX2_turnsLeft 26 = .ok (.getfield 15, 3) := by decide +kernel
theorem dX2_turnsLeft_29 : decode cX2_turnsLeft 29 = .ok (.aload_n 0, 1) := by decide +kernel
theorem dX2_turnsLeft_30 : decode cX2_turnsLeft 30 = .ok (.getfield 38, 3) := by decide +kernel
theorem dX2_turnsLeft_33 : decode cX2_turnsLeft 33 = .ok (.iconst 1, 1) := by decide +kernel
theorem dX2_turnsLeft_34 : decode cX2_turnsLeft 34 = .ok (.isub, 1) := by decide +kernel
theorem dX2_turnsLeft_35 : decode cX2_turnsLeft 35 = .ok (.iaload, 1) := by decide +kernel
theorem dX2_turnsLeft_36 : decode cX2_turnsLeft 36 = .ok (.iload_n 3, 1) := by decide +kernel
theorem dX2_turnsLeft_37 : decode cX2_turnsLeft 37 = .ok (.isub, 1) := by decide +kernel
theorem dX2_turnsLeft_38 : decode cX2_turnsLeft 38 = .ok (.iload_n 2, 1) := by decide +kernel
theorem dX2_turnsLeft_39 : decode cX2_turnsLeft 39 = .ok (.iload 4, 2) := by decide +kernel
theorem dX2_turnsLeft_41 : decode cX2_turnsLeft 41 = .ok (.isub, 1) := by decide +kernel
theorem dX2_turnsLeft_42 : decode cX2_turnsLeft 42 = .ok (.imul, 1) := by decide +kernel
theorem dX2_turnsLeft_43 : decode cX2_turnsLeft 43 = .ok (.aload_n 0, 1) := by decide +kernel
theorem dX2_turnsLeft_44 : decode cX2_turnsLeft 44 = .ok (.getfield 18, 3) := by decide +kernel
theorem dX2_turnsLeft_47 : decode cX2_turnsLeft 47 = .ok (.aload_n 0, 1) := by decide +kernel
theorem dX2_turnsLeft_48 : decode cX2_turnsLeft 48 = .ok (.getfield 38, 3) := by decide +kernel
theorem dX2_turnsLeft_51 : decode cX2_turnsLeft 51 = .ok (.iconst 1, 1) := by decide +kernel
theorem dX2_turnsLeft_52 : decode cX2_turnsLeft 52 = .ok (.isub, 1) := by decide +kernel
theorem dX2_turnsLeft_53 : decode cX2_turnsLeft 53 = .ok (.iaload, 1) := by decide +kernel
theorem dX2_turnsLeft_54 : decode cX2_turnsLeft 54 = .ok (.iload 4, 2) := by decide +kernel
theorem dX2_turnsLeft_56 : decode cX2_turnsLeft 56 = .ok (.isub, 1) := by decide +kernel
theorem dX2_turnsLeft_57 : decode cX2_turnsLeft 57 = .ok (.iload_n 1, 1) := by decide +kernel
theorem dX2_turnsLeft_58 : decode cX2_turnsLeft 58 = .ok (.iload_n 3, 1) := by decide +kernel
theorem dX2_turnsLeft_59 : decode cX2_turnsLeft 59 = .ok (.isub, 1) := by decide +kernel
theorem dX2_turnsLeft_60 : decode cX2_turnsLeft 60 = .ok (.imul, 1) := by decide +kernel
theorem dX2_turnsLeft_61 : decode cX2_turnsLeft 61 = .ok (.isub, 1) := by decide +kernel
theorem dX2_turnsLeft_62 : decode cX2_turnsLeft 62 = .ok (.ifCond .le 7, 3) := by decide +kernel
theorem dX2_turnsLeft_65 : decode cX2_turnsLeft 65 = .ok (.iconst 1, 1) := by decide +kernel
theorem dX2_turnsLeft_66 : decode cX2_turnsLeft 66 = .ok (.goto 4, 3) := by decide +kernel
theorem dX2_turnsLeft_69 : decode cX2_turnsLeft 69 = .ok (.iconst 0, 1) := by decide +kernel
theorem dX2_turnsLeft_70 : decode cX2_turnsLeft 70 = .ok (.ireturn, 1) := by decide +kernel
set_option maxRecDepth 100000 in
set_option maxHeartbeats 4000000 in
theorem mtX2_turnsLeft (l : Launch) (dC : Nat → ClassId) (dI : Nat → Nat → Nat) (cI cL cB : ClassId) (K : Nat) (h_t h_t_chain h_t_x h_t_y h_t_sorted : Nat) (sz : Nat) (t_size : Int32) (t_x : Nat → Int32) (t_y : Nat → Int32) (a1 : Int32) (a2 : Int32) (o_r : Int32) (hf : fX2_turnsLeft K t_size t_x t_y a1 a2 = some o_r) : Met l yX2_turnsLeft [Cond.code yX2_turnsLeft cX2_turnsLeft 5 (some .boolean)] ({ frames := 0, cells := 0, slots := 0, locals := 0 }) (va_Pc [.ref h_t, .int a1, .int a2] (cPre dC dI cI cL cB sz [(h_t, .inr (2, [.ref h_t_chain, .ref h_t_x, .ref h_t_y, .ref h_t_sorted, .int t_size])), (h_t_x, .inl (cI, 48, .inl t_x)), (h_t_y, .inl (cI, 48, .inl t_y))])) (cQi dC dI (va_A [(h_t, .inr (2, [.ref h_t_chain, .ref h_t_x, .ref h_t_y, .ref h_t_sorted, .int t_size])), (h_t_x, .inl (cI, 48, .inl t_x)), (h_t_y, .inl (cI, 48, .inl t_y))] sz) o_r [(h_t, .inr (2, [.ref h_t_chain, .ref h_t_x, .ref h_t_y, .ref h_t_sorted, .int t_size])), (h_t_x, .inl (cI, 48, .inl t_x)), (h_t_y, .inl (cI, 48, .inl t_y))]) 0 0 (va_A [(h_t, .inr (2, [.ref h_t_chain, .ref h_t_x, .ref h_t_y, .ref h_t_sorted, .int t_size])), (h_t_x, .inl (cI, 48, .inl t_x)), (h_t_y, .inl (cI, 48, .inl t_y))] sz) := by
  refine Met.ofW (cc := cX2_turnsLeft) (maxL := 5) (ret := (some .boolean)) (by decide) rfl ?_
  intro p e s m args below meth c s₁ B hml hv
  obtain ⟨rfl, hsz, hP, hK, hD0, hT⟩ := hv
  have hx := B.exec
  have hb := B.bytes
  have hr := B.returns
  have hown : s.vm.findClass RX2 = some m.cls := findClass_of_methodNamed B.named
  have hlocks := B.notSynchronized
  have hts := TB.use hT ([.ref h_t, .int a1, .int a2] : List Value).toArray
  subst hsz
  have hD := hD0.self (sz := s.heap.size)
  generalize hAe : va_A [(h_t, .inr (2, [.ref h_t_chain, .ref h_t_x, .ref h_t_y, .ref h_t_sorted, .int t_size])), (h_t_x, .inl (cI, 48, .inl t_x)), (h_t_y, .inl (cI, 48, .inl t_y))] s.heap.size = A at hD ⊢
  have hA : ∀ q : Nat, s.heap.size ≤ q → A q := fun q h => by rw [← hAe]; exact Or.inr h
  clear hAe hD0
  have hl := lv_entry ([.ref h_t, .int a1, .int a2]) (n := 5) (Nat.le_of_ble_eq_true rfl)
  rw [lg_entry_eq]
  generalize (lg_sl ([.ref h_t, .int a1, .int a2]) ++ List.replicate (5 - (lg_sl ([.ref h_t, .int a1, .int a2])).length) Slot.unset).toArray = ls at hl ⊢
  have hl : lv_has ls 5 [(0, .ref h_t), (1, .int a1), (2, .int a2)] := hl
  have hF : 0 ≤ (headSpec [Cond.code yX2_turnsLeft cX2_turnsLeft 5 (some .boolean)] ({ frames := 0, cells := 0, slots := 0, locals := 0 })).room.frames := Nat.le_refl _
  have hLo : 0 ≤ (headSpec [Cond.code yX2_turnsLeft cX2_turnsLeft 5 (some .boolean)] ({ frames := 0, cells := 0, slots := 0, locals := 0 })).room.locals := Nat.le_refl _
  have C0 : Sx p (headSpec [Cond.code yX2_turnsLeft cX2_turnsLeft 5 (some .boolean)] ({ frames := 0, cells := 0, slots := 0, locals := 0 })).room s m ([.ref h_t, .int a1, .int a2] : List Value).toArray c cX2_turnsLeft 5 RX2 A dC dI cI cL cB 0 0 := ⟨hx, hb, hml, hown, hts, hK, hT, hA, hF, hLo⟩
  refine startH (A := A) hP (fun H locs hP hS => ?_)
  rw [fX2_turnsLeft] at hf
  refine lv_aload_n hx hb dX2_turnsLeft_0 rfl (lv_at hl 0 rfl) ?_
  refine va_get (D := (dC, dI)) (ci := 2) (v := .ref h_t_x) (C := RX2) (T := TX2) (N := 5) hx hb hts in_X2 hown hK hP 0 rfl rfl 1 (Nat.le_of_ble_eq_true rfl) (hts _ qf_X2_15) (fun _ h9 => h9) rfl dX2_turnsLeft_1 ?_
  refine lv_aload_n hx hb dX2_turnsLeft_4 rfl (lv_at hl 0 rfl) ?_
  refine va_get (D := (dC, dI)) (ci := 2) (v := .int t_size) (C := RX2) (T := TX2) (N := 5) hx hb hts in_X2 hown hK hP 0 rfl rfl 4 (Nat.le_of_ble_eq_true rfl) (hts _ qf_X2_38) (fun _ h9 => h9) rfl dX2_turnsLeft_5 ?_
  refine lv_iconst (v := (2 : Int32)) hx hb dX2_turnsLeft_8 (by decide) ?_
  refine lv_isub hx hb dX2_turnsLeft_9 ?_
  obtain ⟨hg_1, hf⟩ := gd_some hf
  refine va_iald hx hb hK hP 1 0 rfl rfl (inb_in hg_1) dX2_turnsLeft_10 ?_
  refine lv_topi (fun l3_2 el3_2 => ?_)
  replace hf := xl_at hf el3_2
  refine lv_istore_n (lv' := [(3, .int l3_2), (0, .ref h_t), (1, .int a1), (2, .int a2)]) hx hb dX2_turnsLeft_11 rfl hl (Nat.le_of_ble_eq_true rfl) rfl (fun ls hl => ?_)
  refine lv_aload_n hx hb dX2_turnsLeft_12 rfl (lv_at hl 1 rfl) ?_
  refine va_get (D := (dC, dI)) (ci := 2) (v := .ref h_t_y) (C := RX2) (T := TX2) (N := 5) hx hb hts in_X2 hown hK hP 0 rfl rfl 2 (Nat.le_of_ble_eq_true rfl) (hts _ qf_X2_18) (fun _ h9 => h9) rfl dX2_turnsLeft_13 ?_
  refine lv_aload_n hx hb dX2_turnsLeft_16 rfl (lv_at hl 1 rfl) ?_
  refine va_get (D := (dC, dI)) (ci := 2) (v := .int t_size) (C := RX2) (T := TX2) (N := 5) hx hb hts in_X2 hown hK hP 0 rfl rfl 4 (Nat.le_of_ble_eq_true rfl) (hts _ qf_X2_38) (fun _ h9 => h9) rfl dX2_turnsLeft_17 ?_
  refine lv_iconst (v := (2 : Int32)) hx hb dX2_turnsLeft_20 (by decide) ?_
  refine lv_isub hx hb dX2_turnsLeft_21 ?_
  obtain ⟨hg_3, hf⟩ := gd_some hf
  refine va_iald hx hb hK hP 2 0 rfl rfl (inb_in hg_3) dX2_turnsLeft_22 ?_
  refine lv_topi (fun l4_4 el4_4 => ?_)
  replace hf := xl_at hf el4_4
  refine lv_istore (lv' := [(4, .int l4_4), (3, .int l3_2), (0, .ref h_t), (1, .int a1), (2, .int a2)]) hx hb dX2_turnsLeft_23 hl (Nat.le_of_ble_eq_true rfl) rfl (fun ls hl => ?_)
  refine lv_aload_n hx hb dX2_turnsLeft_25 rfl (lv_at hl 2 rfl) ?_
  refine va_get (D := (dC, dI)) (ci := 2) (v := .ref h_t_x) (C := RX2) (T := TX2) (N := 5) hx hb hts in_X2 hown hK hP 0 rfl rfl 1 (Nat.le_of_ble_eq_true rfl) (hts _ qf_X2_15) (fun _ h9 => h9) rfl dX2_turnsLeft_26 ?_
  refine lv_aload_n hx hb dX2_turnsLeft_29 rfl (lv_at hl 2 rfl) ?_
  refine va_get (D := (dC, dI)) (ci := 2) (v := .int t_size) (C := RX2) (T := TX2) (N := 5) hx hb hts in_X2 hown hK hP 0 rfl rfl 4 (Nat.le_of_ble_eq_true rfl) (hts _ qf_X2_38) (fun _ h9 => h9) rfl dX2_turnsLeft_30 ?_
  refine lv_iconst (v := (1 : Int32)) hx hb dX2_turnsLeft_33 (by decide) ?_
  refine lv_isub hx hb dX2_turnsLeft_34 ?_
  obtain ⟨hg_5, hf⟩ := gd_some hf
  refine va_iald hx hb hK hP 1 0 rfl rfl (inb_in hg_5) dX2_turnsLeft_35 ?_
  refine lv_iload_n hx hb dX2_turnsLeft_36 rfl (lv_at hl 1 rfl) ?_
  refine lv_isub hx hb dX2_turnsLeft_37 ?_
  refine lv_iload_n hx hb dX2_turnsLeft_38 rfl (lv_at hl 4 rfl) ?_
  refine lv_iload hx hb dX2_turnsLeft_39 (lv_at hl 0 rfl) ?_
  refine lv_isub hx hb dX2_turnsLeft_41 ?_
  refine lv_imul hx hb dX2_turnsLeft_42 ?_
  refine lv_aload_n hx hb dX2_turnsLeft_43 rfl (lv_at hl 2 rfl) ?_
  refine va_get (D := (dC, dI)) (ci := 2) (v := .ref h_t_y) (C := RX2) (T := TX2) (N := 5) hx hb hts in_X2 hown hK hP 0 rfl rfl 2 (Nat.le_of_ble_eq_true rfl) (hts _ qf_X2_18) (fun _ h9 => h9) rfl dX2_turnsLeft_44 ?_
  refine lv_aload_n hx hb dX2_turnsLeft_47 rfl (lv_at hl 2 rfl) ?_
  refine va_get (D := (dC, dI)) (ci := 2) (v := .int t_size) (C := RX2) (T := TX2) (N := 5) hx hb hts in_X2 hown hK hP 0 rfl rfl 4 (Nat.le_of_ble_eq_true rfl) (hts _ qf_X2_38) (fun _ h9 => h9) rfl dX2_turnsLeft_48 ?_
  refine lv_iconst (v := (1 : Int32)) hx hb dX2_turnsLeft_51 (by decide) ?_
  refine lv_isub hx hb dX2_turnsLeft_52 ?_
  obtain ⟨hg_6, hf⟩ := gd_some hf
  refine va_iald hx hb hK hP 2 0 rfl rfl (inb_in hg_6) dX2_turnsLeft_53 ?_
  refine lv_iload hx hb dX2_turnsLeft_54 (lv_at hl 0 rfl) ?_
  refine lv_isub hx hb dX2_turnsLeft_56 ?_
  refine lv_iload_n hx hb dX2_turnsLeft_57 rfl (lv_at hl 3 rfl) ?_
  refine lv_iload_n hx hb dX2_turnsLeft_58 rfl (lv_at hl 1 rfl) ?_
  refine lv_isub hx hb dX2_turnsLeft_59 ?_
  refine lv_imul hx hb dX2_turnsLeft_60 ?_
  refine lv_isub hx hb dX2_turnsLeft_61 ?_
  refine lv_if_le (tgt := 69) hx hb dX2_turnsLeft_62 (by decide) (fun hc => ?_) (fun hc => ?_)
  · replace hf := it_t (hc) hf
    refine lv_iconst (v := (0 : Int32)) hx hb dX2_turnsLeft_69 (by decide) ?_
    obtain rfl := o1 hf
    exact W.zret hx hb hr rfl (fun t ht hW => ⟨⟨_, (), rfl, rfl, by rw [ht]; exact hP, hD⟩, hS.F ht⟩) hS.2.2 dX2_turnsLeft_70
  · replace hf := it_f (hc) hf
    refine lv_iconst (v := (1 : Int32)) hx hb dX2_turnsLeft_65 (by decide) ?_
    refine lv_goto (tgt := 70) hx hb dX2_turnsLeft_66 (by decide) ?_
    obtain rfl := o1 hf
    exact W.zret hx hb hr rfl (fun t ht hW => ⟨⟨_, (), rfl, rfl, by rw [ht]; exact hP, hD⟩, hS.F ht⟩) hS.2.2 dX2_turnsLeft_70
theorem dX2_push_0 : decode cX2_push 0 = .ok (.aload_n 1, 1) := by decide +kernel
theorem dX2_push_1 : decode cX2_push 1 = .ok (.getfield 43, 3) := by decide +kernel
theorem dX2_push_4 : decode cX2_push 4 = .ok (.iload_n 2, 1) := by decide +kernel
theorem dX2_push_5 : decode cX2_push 5 = .ok (.iaload, 1) := by decide +kernel
theorem dX2_push_6 : decode cX2_push 6 = .ok (.istore 4, 2) := by decide +kernel
theorem dX2_push_8 : decode cX2_push 8 = .ok (.aload_n 1, 1) := by decide +kernel
theorem dX2_push_9 : decode cX2_push 9 = .ok (.getfield 44, 3) := by decide +kernel
theorem dX2_push_12 : decode cX2_push 12 = .ok (.iload_n 2, 1) := by decide +kernel
theorem dX2_push_13 : decode cX2_push 13 = .ok (.iaload, 1) := by decide +kernel
theorem dX2_push_14 : decode cX2_push 14 = .ok (.istore 5, 2) := by decide +kernel
theorem dX2_push_16 : decode cX2_push 16 = .ok (.aload_n 0, 1) := by decide +kernel
theorem dX2_push_17 : decode cX2_push 17 = .ok (.getfield 38, 3) := by decide +kernel
theorem dX2_push_20 : decode cX2_push 20 = .ok (.iload_n 3, 1) := by decide +kernel
theorem dX2_push_21 : decode cX2_push 21 = .ok (.if_icmp .lt 35, 3) := by decide +kernel
theorem dX2_push_24 : decode cX2_push 24 = .ok (.aload_n 0, 1) := by decide +kernel
theorem dX2_push_25 : decode cX2_push 25 = .ok (.getfield 38, 3) := by decide +kernel
theorem dX2_push_28 : decode cX2_push 28 = .ok (.iconst 2, 1) := by decide +kernel
theorem dX2_push_29 : decode cX2_push 29 = .ok (.if_icmp .lt 27, 3) := by decide +kernel
theorem dX2_push_32 : decode cX2_push 32 = .ok (.aload_n 0, 1) := by decide +kernel
theorem dX2_push_33 : decode cX2_push 33 = .ok (.iload 4, 2) := by decide +kernel
theorem dX2_push_35 : decode cX2_push 35 = .ok (.iload 5, 2) := by decide +kernel
theorem dX2_push_37 : decode cX2_push 37 = .ok (.invokevirtual 53, 3) := by decide +kernel
theorem dX2_push_40 : decode cX2_push 40 = .ok (.ifCond .ne 16, 3) := by decide +kernel
theorem dX2_push_43 : decode cX2_push 43 = .ok (.aload_n 0, 1) := by decide +kernel
theorem dX2_push_44 : decode cX2_push 44 = .ok (.dup, 1) := by decide +kernel
theorem dX2_push_45 : decode cX2_push 45 = .ok (.getfield 38, 3) := by decide +kernel
theorem dX2_push_48 : decode cX2_push 48 = .ok (.iconst 1, 1) := by decide +kernel
theorem dX2_push_49 : decode cX2_push 49 = .ok (.isub, 1) := by decide +kernel
theorem dX2_push_50 : decode cX2_push 50 = .ok (.putfield 38, 3) := by decide +kernel
theorem dX2_push_53 : decode cX2_push 53 = .ok (.goto (-37), 3) := by decide +kernel
theorem dX2_push_56 : decode cX2_push 56 = .ok (.aload_n 0, 1) := by decide +kernel
theorem dX2_push_57 : decode cX2_push 57 = .ok (.getfield 38, 3) := by decide +kernel
theorem dX2_push_60 : decode cX2_push 60 = .ok (.aload_n 0, 1) := by decide +kernel
theorem dX2_push_61 : decode cX2_push 61 = .ok (.getfield 9, 3) := by decide +kernel
theorem dX2_push_64 : decode cX2_push 64 = .ok (.arraylength, 1) := by decide +kernel
theorem dX2_push_65 : decode cX2_push 65 = .ok (.if_icmp .ge 45, 3) := by decide +kernel
theorem dX2_push_68 : decode cX2_push 68 = .ok (.aload_n 0, 1) := by decide +kernel
theorem dX2_push_69 : decode cX2_push 69 = .ok (.getfield 9, 3) := by decide +kernel
theorem dX2_push_72 : decode cX2_push 72 = .ok (.aload_n 0, 1) := by decide +kernel
theorem dX2_push_73 : decode cX2_push 73 = .ok (.getfield 38, 3) := by decide +kernel
theorem dX2_push_76 : decode cX2_push 76 = .ok (.iload_n 2, 1) := by decide +kernel
theorem dX2_push_77 : decode cX2_push 77 = .ok (.iastore, 1) := by decide +kernel
theorem dX2_push_78 : decode cX2_push 78 = .ok (.aload_n 0, 1) := by decide +kernel
theorem dX2_push_79 : decode cX2_push 79 = .ok (.getfield 15, 3) := by decide +kernel
theorem dX2_push_82 : decode cX2_push 82 = .ok (.aload_n 0, 1) := by decide +kernel
theorem dX2_push_83 : decode cX2_push 83 = .ok (.getfield 38, 3) := by decide +kernel
theorem dX2_push_86 : decode cX2_push 86 = .ok (.iload 4, 2) := by decide +kernel
theorem dX2_push_88 : decode cX2_push 88 = .ok (.iastore, 1) := by decide +kernel
theorem dX2_push_89 : decode cX2_push 89 = .ok (.aload_n 0, 1) := by decide +kernel
theorem dX2_push_90 : decode cX2_push 90 = .ok (.getfield 18, 3) := by decide +kernel
theorem dX2_push_93 : decode cX2_push 93 = .ok (.aload_n 0, 1) := by decide +kernel
theorem dX2_push_94 : decode cX2_push 94 = .ok (.getfield 38, 3) := by decide +kernel
theorem dX2_push_97 : decode cX2_push 97 = .ok (.iload 5, 2) := by decide +kernel
theorem dX2_push_99 : decode cX2_push 99 = .ok (.iastore, 1) := by decide +kernel
theorem dX2_push_100 : decode cX2_push 100 = .ok (.aload_n 0, 1) := by decide +kernel
theorem dX2_push_101 : decode cX2_push 101 = .ok (.dup, 1) := by decide +kernel
theorem dX2_push_102 : decode cX2_push 102 = .ok (.getfield 38, 3) := by decide +kernel
theorem dX2_push_105 : decode cX2_push 105 = .ok (.iconst 1, 1) := by decide +kernel
theorem dX2_push_106 : decode cX2_push 106 = .ok (.iadd, 1) := by decide +kernel
theorem dX2_push_107 : decode cX2_push 107 = .ok (.putfield 38, 3) := by decide +kernel
theorem dX2_push_110 : decode cX2_push 110 = .ok (.return_, 1) := by decide +kernel
set_option maxRecDepth 100000 in
set_option maxHeartbeats 4000000 in
theorem wX2_push_L16 {p : Program} {l : Launch} {e : Env} {R : Room} {s : State} {m : MethodId} {args : Array Value} {below : List Frame} {meth : Method} {c : Code} {Q : State → Prop} {A : Nat → Prop} {dC : Nat → ClassId} {dI : Nat → Nat → Nat} {cI cL cB : ClassId} {K : Nat} (C0 : Sx p R s m args c cX2_push 6 RX2 A dC dI cI cL cB 1 24) (h_t h_t_chain h_t_x h_t_y h_t_sorted h_p1 h_p1_x h_p1_y h_p1_colour h_p1_load : Nat) (t_chain : Nat → Int32) (t_x : Nat → Int32) (t_y : Nat → Int32) (p1_size : Int32) (p1_centreX : Int32) (p1_centreY : Int32) (p1_x : Nat → Int32) (p1_y : Nat → Int32) (l2 : Int32) (l3 : Int32) (l4 : Int32) (l5 : Int32) : ∀ (n : Nat) (t_size : Int32) (x_t_size : Int32) (H : Heap) (locs : List Loc) (ls : Array Slot), va_P (dC, dI) vwCl [(h_t, .inr (2, [.ref h_t_chain, .ref h_t_x, .ref h_t_y, .ref h_t_sorted, .int t_size])), (h_t_chain, .inl (cI, 48, .inl t_chain)), (h_t_x, .inl (cI, 48, .inl t_x)), (h_t_y, .inl (cI, 48, .inl t_y)), (h_p1, .inr (0, [.ref h_p1_x, .ref h_p1_y, .ref h_p1_colour, .ref h_p1_load, .int p1_size, .int p1_centreX, .int p1_centreY])), (h_p1_x, .inl (cI, 24, .inl p1_x)), (h_p1_y, .inl (cI, 24, .inl p1_y))] H → va_D A [(h_t, .inr (2, [.ref h_t_chain, .ref h_t_x, .ref h_t_y, .ref h_t_sorted, .int t_size])), (h_t_chain, .inl (cI, 48, .inl t_chain)), (h_t_x, .inl (cI, 48, .inl t_x)), (h_t_y, .inl (cI, 48, .inl t_y)), (h_p1, .inr (0, [.ref h_p1_x, .ref h_p1_y, .ref h_p1_colour, .ref h_p1_load, .int p1_size, .int p1_centreX, .int p1_centreY])), (h_p1_x, .inl (cI, 24, .inl p1_x)), (h_p1_y, .inl (cI, 24, .inl p1_y))] → va_S A s.heap H locs → lv_has ls 6 [(0, .ref h_t), (2, .int l2), (3, .int l3), (4, .int l4), (5, .int l5)] → fX2_push_L16 K l3 l4 l5 t_x t_y n t_size = some x_t_size → (∀ (H : Heap) (locs : List Loc) (ls : Array Slot), va_P (dC, dI) vwCl [(h_t, .inr (2, [.ref h_t_chain, .ref h_t_x, .ref h_t_y, .ref h_t_sorted, .int x_t_size])), (h_t_chain, .inl (cI, 48, .inl t_chain)), (h_t_x, .inl (cI, 48, .inl t_x)), (h_t_y, .inl (cI, 48, .inl t_y)), (h_p1, .inr (0, [.ref h_p1_x, .ref h_p1_y, .ref h_p1_colour, .ref h_p1_load, .int p1_size, .int p1_centreX, .int p1_centreY])), (h_p1_x, .inl (cI, 24, .inl p1_x)), (h_p1_y, .inl (cI, 24, .inl p1_y))] H → va_D A [(h_t, .inr (2, [.ref h_t_chain, .ref h_t_x, .ref h_t_y, .ref h_t_sorted, .int x_t_size])), (h_t_chain, .inl (cI, 48, .inl t_chain)), (h_t_x, .inl (cI, 48, .inl t_x)), (h_t_y, .inl (cI, 48, .inl t_y)), (h_p1, .inr (0, [.ref h_p1_x, .ref h_p1_y, .ref h_p1_colour, .ref h_p1_load, .int p1_size, .int p1_centreX, .int p1_centreY])), (h_p1_x, .inl (cI, 24, .inl p1_x)), (h_p1_y, .inl (cI, 24, .inl p1_y))] → va_S A s.heap H locs → lv_has ls 6 [(0, .ref h_t), (2, .int l2), (4, .int l4), (5, .int l5)] → W p l e R s m args below meth c H locs 0 0 Q (F0 m 56 ls [])) → W p l e R s m args below meth c H locs 0 0 Q (F0 m 16 ls []) := by
  obtain ⟨hx, hb, hml, hown, hts, hK, hT, hA, hF, hLo⟩ := id C0
  intro n
  induction n with
  | zero =>
    intro t_size x_t_size H locs ls hP hD hS hl hf
    rw [fX2_push_L16] at hf
    cases hf
  | succ n ih =>
    intro t_size x_t_size H locs ls hP hD hS hl hf hk
    rw [fX2_push_L16] at hf
    refine lv_aload_n hx hb dX2_push_16 rfl (lv_at hl 0 rfl) ?_
    refine va_get (D := (dC, dI)) (ci := 2) (v := .int t_size) (C := RX2) (T := TX2) (N := 5) hx hb hts in_X2 hown hK hP 0 rfl rfl 4 (Nat.le_of_ble_eq_true rfl) (hts _ qf_X2_38) (fun _ h9 => h9) rfl dX2_push_17 ?_
    refine lv_iload_n hx hb dX2_push_20 rfl (lv_at hl 2 rfl) ?_
    refine lv_icmp_lt (tgt := 56) hx hb dX2_push_21 (by decide) (fun hc => ?_) (fun hc => ?_)
    · replace hf := it_t (hc) hf
      obtain rfl := o1 hf
      exact hk H locs ls hP hD hS (lv_sub hl [0, 1, 3, 4] rfl)
    · replace hf := it_f (hc) hf
      refine lv_aload_n hx hb dX2_push_24 rfl (lv_at hl 0 rfl) ?_
      refine va_get (D := (dC, dI)) (ci := 2) (v := .int t_size) (C := RX2) (T := TX2) (N := 5) hx hb hts in_X2 hown hK hP 0 rfl rfl 4 (Nat.le_of_ble_eq_true rfl) (hts _ qf_X2_38) (fun _ h9 => h9) rfl dX2_push_25 ?_
      refine lv_iconst (v := (2 : Int32)) hx hb dX2_push_28 (by decide) ?_
      refine lv_icmp_lt (tgt := 56) hx hb dX2_push_29 (by decide) (fun hc => ?_) (fun hc => ?_)
      · replace hf := it_t (hc) hf
        obtain rfl := o1 hf
        exact hk H locs ls hP hD hS (lv_sub hl [0, 1, 3, 4] rfl)
      · replace hf := it_f (hc) hf
        refine lv_aload_n hx hb dX2_push_32 rfl (lv_at hl 0 rfl) ?_
        refine lv_iload hx hb dX2_push_33 (lv_at hl 3 rfl) ?_
        refine lv_iload hx hb dX2_push_35 (lv_at hl 4 rfl) ?_
        obtain ⟨r_5, hq_6, hf⟩ := b1_some hf
        refine xci (wr := [(h_t_chain, .inl (cI, 48, .inl t_chain)), (h_p1, .inr (0, [.ref h_p1_x, .ref h_p1_y, .ref h_p1_colour, .ref h_p1_load, .int p1_size, .int p1_centreX, .int p1_centreY])), (h_p1_x, .inl (cI, 24, .inl p1_x)), (h_p1_y, .inl (cI, 24, .inl p1_y))]) (w2 := [(h_t, .inr (2, [.ref h_t_chain, .ref h_t_x, .ref h_t_y, .ref h_t_sorted, .int t_size])), (h_t_chain, .inl (cI, 48, .inl t_chain)), (h_t_x, .inl (cI, 48, .inl t_x)), (h_t_y, .inl (cI, 48, .inl t_y)), (h_p1, .inr (0, [.ref h_p1_x, .ref h_p1_y, .ref h_p1_colour, .ref h_p1_load, .int p1_size, .int p1_centreX, .int p1_centreY])), (h_p1_x, .inl (cI, 24, .inl p1_x)), (h_p1_y, .inl (cI, 24, .inl p1_y))]) (va_runV (As := [.int l4, .int l5]) (rest := []) ⟨hx, hb, hml, hown, hts⟩ (mtX2_turnsLeft l dC dI cI cL cB K h_t h_t_chain h_t_x h_t_y h_t_sorted H.size t_size t_x t_y l4 l5 r_5 hq_6) (cwV 2 hts gv_X2_53 rfl rfl rfl hdV_X2_turnsLeft ⟨Nat.le_trans (Nat.le_of_ble_eq_true rfl) hF, Nat.le_trans (Nat.le_of_ble_eq_true rfl) hLo⟩) (cPreV hK hP hD hT [0, 2, 3] rfl rfl (ci := 2) (q0 := 0) rfl rfl) rfl rfl hl.1 rfl (lv_room (Nat.le_of_ble_eq_true rfl)) dX2_push_37 ⟨Nat.zero_le _, Nat.zero_le _⟩) hP hD hS hA [0, 2, 3] [1, 4, 5, 6] [4, 0, 5, 6, 1, 2, 3] rfl rfl rfl rfl rfl rfl (fun H locs hP hD hS => ?_)
        refine lv_if_ne (tgt := 56) hx hb dX2_push_40 (by decide) (fun hc => ?_) (fun hc => ?_)
        · replace hf := it_f (hc) hf
          obtain rfl := o1 hf
          exact hk H locs ls hP hD hS (lv_sub hl [0, 1, 3, 4] rfl)
        · replace hf := it_t (hc) hf
          refine lv_aload_n hx hb dX2_push_43 rfl (lv_at hl 0 rfl) ?_
          refine lv_dup hx hb dX2_push_44 rfl ?_
          refine va_get (D := (dC, dI)) (ci := 2) (v := .int t_size) (C := RX2) (T := TX2) (N := 5) hx hb hts in_X2 hown hK hP 0 rfl rfl 4 (Nat.le_of_ble_eq_true rfl) (hts _ qf_X2_38) (fun _ h9 => h9) rfl dX2_push_45 ?_
          refine lv_iconst (v := (1 : Int32)) hx hb dX2_push_48 (by decide) ?_
          refine lv_isub hx hb dX2_push_49 ?_
          refine lv_topi (fun f_size_7 ef_size_7 => ?_)
          replace hf := xl_at hf ef_size_7
          refine xput (D := (dC, dI)) (ci := 2) (v := .int f_size_7) (C := RX2) (T := TX2) (N := 5) (w2 := [(h_t, .inr (2, [.ref h_t_chain, .ref h_t_x, .ref h_t_y, .ref h_t_sorted, .int f_size_7])), (h_t_chain, .inl (cI, 48, .inl t_chain)), (h_t_x, .inl (cI, 48, .inl t_x)), (h_t_y, .inl (cI, 48, .inl t_y)), (h_p1, .inr (0, [.ref h_p1_x, .ref h_p1_y, .ref h_p1_colour, .ref h_p1_load, .int p1_size, .int p1_centreX, .int p1_centreY])), (h_p1_x, .inl (cI, 24, .inl p1_x)), (h_p1_y, .inl (cI, 24, .inl p1_y))]) hx hb hts in_X2 tyX2 tyX2_ok nmX2 hown hK hP hD hS 0 rfl rfl 4 (Nat.le_of_ble_eq_true rfl) (hts _ qf_X2_38) (fun _ h9 => h9) rfl rfl rfl (Nat.le_of_ble_eq_true rfl) rfl dX2_push_50 (fun H locs hP hD hS => ?_)
          refine lv_goto (tgt := 16) hx hb dX2_push_53 (by decide) ?_
          exact ih f_size_7 _ H locs ls hP hD hS (lv_sub hl [0, 1, 2, 3, 4] rfl) hf hk
set_option maxRecDepth 100000 in
set_option maxHeartbeats 4000000 in
theorem mtX2_push (l : Launch) (dC : Nat → ClassId) (dI : Nat → Nat → Nat) (cI cL cB : ClassId) (K : Nat) (h_t h_t_chain h_t_x h_t_y h_t_sorted h_p1 h_p1_x h_p1_y h_p1_colour h_p1_load : Nat) (sz : Nat) (t_size : Int32) (t_chain : Nat → Int32) (t_x : Nat → Int32) (t_y : Nat → Int32) (p1_size : Int32) (p1_centreX : Int32) (p1_centreY : Int32) (p1_x : Nat → Int32) (p1_y : Nat → Int32) (a2 : Int32) (a3 : Int32) (o_t_size : Int32) (o_t_chain : Nat → Int32) (o_t_x : Nat → Int32) (o_t_y : Nat → Int32) (hf : fX2_push K t_size t_chain t_x t_y p1_x p1_y a2 a3 = some (o_t_size, o_t_chain, o_t_x, o_t_y)) : Met l yX2_push [Cond.code yX2_push cX2_push 6 none] ({ frames := 1, cells := 0, slots := 0, locals := 24 }) (va_Pc [.ref h_t, .ref h_p1, .int a2, .int a3] (cPre dC dI cI cL cB sz [(h_t, .inr (2, [.ref h_t_chain, .ref h_t_x, .ref h_t_y, .ref h_t_sorted, .int t_size])), (h_t_chain, .inl (cI, 48, .inl t_chain)), (h_t_x, .inl (cI, 48, .inl t_x)), (h_t_y, .inl (cI, 48, .inl t_y)), (h_p1, .inr (0, [.ref h_p1_x, .ref h_p1_y, .ref h_p1_colour, .ref h_p1_load, .int p1_size, .int p1_centreX, .int p1_centreY])), (h_p1_x, .inl (cI, 24, .inl p1_x)), (h_p1_y, .inl (cI, 24, .inl p1_y))])) (cQv dC dI (va_A [(h_t, .inr (2, [.ref h_t_chain, .ref h_t_x, .ref h_t_y, .ref h_t_sorted, .int t_size])), (h_t_chain, .inl (cI, 48, .inl t_chain)), (h_t_x, .inl (cI, 48, .inl t_x)), (h_t_y, .inl (cI, 48, .inl t_y)), (h_p1, .inr (0, [.ref h_p1_x, .ref h_p1_y, .ref h_p1_colour, .ref h_p1_load, .int p1_size, .int p1_centreX, .int p1_centreY])), (h_p1_x, .inl (cI, 24, .inl p1_x)), (h_p1_y, .inl (cI, 24, .inl p1_y))] sz) [(h_t, .inr (2, [.ref h_t_chain, .ref h_t_x, .ref h_t_y, .ref h_t_sorted, .int o_t_size])), (h_t_chain, .inl (cI, 48, .inl o_t_chain)), (h_t_x, .inl (cI, 48, .inl o_t_x)), (h_t_y, .inl (cI, 48, .inl o_t_y)), (h_p1, .inr (0, [.ref h_p1_x, .ref h_p1_y, .ref h_p1_colour, .ref h_p1_load, .int p1_size, .int p1_centreX, .int p1_centreY])), (h_p1_x, .inl (cI, 24, .inl p1_x)), (h_p1_y, .inl (cI, 24, .inl p1_y))]) 0 0 (va_A [(h_t, .inr (2, [.ref h_t_chain, .ref h_t_x, .ref h_t_y, .ref h_t_sorted, .int t_size])), (h_t_chain, .inl (cI, 48, .inl t_chain)), (h_t_x, .inl (cI, 48, .inl t_x)), (h_t_y, .inl (cI, 48, .inl t_y)), (h_p1, .inr (0, [.ref h_p1_x, .ref h_p1_y, .ref h_p1_colour, .ref h_p1_load, .int p1_size, .int p1_centreX, .int p1_centreY])), (h_p1_x, .inl (cI, 24, .inl p1_x)), (h_p1_y, .inl (cI, 24, .inl p1_y))] sz) := by
  refine Met.ofW (cc := cX2_push) (maxL := 6) (ret := none) (by decide) rfl ?_
  intro p e s m args below meth c s₁ B hml hv
  obtain ⟨rfl, hsz, hP, hK, hD0, hT⟩ := hv
  have hx := B.exec
  have hb := B.bytes
  have hr := B.returns
  have hown : s.vm.findClass RX2 = some m.cls := findClass_of_methodNamed B.named
  have hlocks := B.notSynchronized
  have hts := TB.use hT ([.ref h_t, .ref h_p1, .int a2, .int a3] : List Value).toArray
  subst hsz
  have hD := hD0.self (sz := s.heap.size)
  generalize hAe : va_A [(h_t, .inr (2, [.ref h_t_chain, .ref h_t_x, .ref h_t_y, .ref h_t_sorted, .int t_size])), (h_t_chain, .inl (cI, 48, .inl t_chain)), (h_t_x, .inl (cI, 48, .inl t_x)), (h_t_y, .inl (cI, 48, .inl t_y)), (h_p1, .inr (0, [.ref h_p1_x, .ref h_p1_y, .ref h_p1_colour, .ref h_p1_load, .int p1_size, .int p1_centreX, .int p1_centreY])), (h_p1_x, .inl (cI, 24, .inl p1_x)), (h_p1_y, .inl (cI, 24, .inl p1_y))] s.heap.size = A at hD ⊢
  have hA : ∀ q : Nat, s.heap.size ≤ q → A q := fun q h => by rw [← hAe]; exact Or.inr h
  clear hAe hD0
  have hl := lv_entry ([.ref h_t, .ref h_p1, .int a2, .int a3]) (n := 6) (Nat.le_of_ble_eq_true rfl)
  rw [lg_entry_eq]
  generalize (lg_sl ([.ref h_t, .ref h_p1, .int a2, .int a3]) ++ List.replicate (6 - (lg_sl ([.ref h_t, .ref h_p1, .int a2, .int a3])).length) Slot.unset).toArray = ls at hl ⊢
  have hl : lv_has ls 6 [(0, .ref h_t), (1, .ref h_p1), (2, .int a2), (3, .int a3)] := hl
  have hF : 1 ≤ (headSpec [Cond.code yX2_push cX2_push 6 none] ({ frames := 1, cells := 0, slots := 0, locals := 24 })).room.frames := Nat.le_refl _
  have hLo : 24 ≤ (headSpec [Cond.code yX2_push cX2_push 6 none] ({ frames := 1, cells := 0, slots := 0, locals := 24 })).room.locals := Nat.le_refl _
  have C0 : Sx p (headSpec [Cond.code yX2_push cX2_push 6 none] ({ frames := 1, cells := 0, slots := 0, locals := 24 })).room s m ([.ref h_t, .ref h_p1, .int a2, .int a3] : List Value).toArray c cX2_push 6 RX2 A dC dI cI cL cB 1 24 := ⟨hx, hb, hml, hown, hts, hK, hT, hA, hF, hLo⟩
  refine startH (A := A) hP (fun H locs hP hS => ?_)
  rw [fX2_push] at hf
  refine lv_aload_n hx hb dX2_push_0 rfl (lv_at hl 1 rfl) ?_
  refine va_get (D := (dC, dI)) (ci := 0) (v := .ref h_p1_x) (C := RX0) (T := TX0) (N := 7) hx hb hts in_X0 hown hK hP 4 rfl rfl 0 (Nat.le_of_ble_eq_true rfl) (hts _ qf_X2_43) (fun _ h9 => h9) rfl dX2_push_1 ?_
  refine lv_iload_n hx hb dX2_push_4 rfl (lv_at hl 2 rfl) ?_
  obtain ⟨hg_1, hf⟩ := gd_some hf
  refine va_iald hx hb hK hP 5 0 rfl rfl (inb_in hg_1) dX2_push_5 ?_
  refine lv_topi (fun l4_2 el4_2 => ?_)
  replace hf := xl_at hf el4_2
  refine lv_istore (lv' := [(4, .int l4_2), (0, .ref h_t), (1, .ref h_p1), (2, .int a2), (3, .int a3)]) hx hb dX2_push_6 hl (Nat.le_of_ble_eq_true rfl) rfl (fun ls hl => ?_)
  refine lv_aload_n hx hb dX2_push_8 rfl (lv_at hl 2 rfl) ?_
  refine va_get (D := (dC, dI)) (ci := 0) (v := .ref h_p1_y) (C := RX0) (T := TX0) (N := 7) hx hb hts in_X0 hown hK hP 4 rfl rfl 1 (Nat.le_of_ble_eq_true rfl) (hts _ qf_X2_44) (fun _ h9 => h9) rfl dX2_push_9 ?_
  refine lv_iload_n hx hb dX2_push_12 rfl (lv_at hl 3 rfl) ?_
  obtain ⟨hg_3, hf⟩ := gd_some hf
  refine va_iald hx hb hK hP 6 0 rfl rfl (inb_in hg_3) dX2_push_13 ?_
  refine lv_topi (fun l5_4 el5_4 => ?_)
  replace hf := xl_at hf el5_4
  refine lv_istore (lv' := [(5, .int l5_4), (4, .int l4_2), (0, .ref h_t), (1, .ref h_p1), (2, .int a2), (3, .int a3)]) hx hb dX2_push_14 hl (Nat.le_of_ble_eq_true rfl) rfl (fun ls hl => ?_)
  obtain ⟨t_size_9, hq_8, hf⟩ := b1_some hf
  refine wX2_push_L16 C0 h_t h_t_chain h_t_x h_t_y h_t_sorted h_p1 h_p1_x h_p1_y h_p1_colour h_p1_load t_chain t_x t_y p1_size p1_centreX p1_centreY p1_x p1_y a2 a3 l4_2 l5_4 K t_size t_size_9 H locs ls hP hD hS (lv_sub hl [2, 4, 5, 1, 0] rfl) hq_8 ?_
  intro H locs ls hP hD hS hl
  refine lv_aload_n hx hb dX2_push_56 rfl (lv_at hl 0 rfl) ?_
  refine va_get (D := (dC, dI)) (ci := 2) (v := .int t_size_9) (C := RX2) (T := TX2) (N := 5) hx hb hts in_X2 hown hK hP 0 rfl rfl 4 (Nat.le_of_ble_eq_true rfl) (hts _ qf_X2_38) (fun _ h9 => h9) rfl dX2_push_57 ?_
  refine lv_aload_n hx hb dX2_push_60 rfl (lv_at hl 0 rfl) ?_
  refine va_get (D := (dC, dI)) (ci := 2) (v := .ref h_t_chain) (C := RX2) (T := TX2) (N := 5) hx hb hts in_X2 hown hK hP 0 rfl rfl 0 (Nat.le_of_ble_eq_true rfl) (hts _ qf_X2_9) (fun _ h9 => h9) rfl dX2_push_61 ?_
  refine va_alen (v := (48 : Int32)) hx hb hK hP 1 0 rfl rfl rfl dX2_push_64 ?_
  refine lv_icmp_ge (tgt := 110) hx hb dX2_push_65 (by decide) (fun hc => ?_) (fun hc => ?_)
  · replace hf := it_t (hc) hf
    obtain ⟨rfl, rfl, rfl, rfl⟩ := o4 hf
    exact W.vret hx hb hr (fun t ht hW => ⟨⟨(), rfl, trivial, by rw [ht]; exact hP, hD⟩, hS.F ht⟩) hS.2.2 dX2_push_110
  · replace hf := it_f (hc) hf
    refine lv_aload_n hx hb dX2_push_68 rfl (lv_at hl 0 rfl) ?_
    refine va_get (D := (dC, dI)) (ci := 2) (v := .ref h_t_chain) (C := RX2) (T := TX2) (N := 5) hx hb hts in_X2 hown hK hP 0 rfl rfl 0 (Nat.le_of_ble_eq_true rfl) (hts _ qf_X2_9) (fun _ h9 => h9) rfl dX2_push_69 ?_
    refine lv_aload_n hx hb dX2_push_72 rfl (lv_at hl 0 rfl) ?_
    refine va_get (D := (dC, dI)) (ci := 2) (v := .int t_size_9) (C := RX2) (T := TX2) (N := 5) hx hb hts in_X2 hown hK hP 0 rfl rfl 4 (Nat.le_of_ble_eq_true rfl) (hts _ qf_X2_38) (fun _ h9 => h9) rfl dX2_push_73 ?_
    refine lv_iload_n hx hb dX2_push_76 rfl (lv_at hl 1 rfl) ?_
    obtain ⟨hg_10, hf⟩ := gd_some hf
    obtain ⟨t_chain_11, et_chain_11⟩ : ∃ y : Nat → Int32, y = upd t_chain t_size_9.toNatClampNeg a2 := ⟨_, rfl⟩
    replace hf := xl_at hf et_chain_11
    refine xiast (w2 := [(h_t, .inr (2, [.ref h_t_chain, .ref h_t_x, .ref h_t_y, .ref h_t_sorted, .int t_size_9])), (h_t_chain, .inl (cI, 48, .inl t_chain_11)), (h_t_x, .inl (cI, 48, .inl t_x)), (h_t_y, .inl (cI, 48, .inl t_y)), (h_p1, .inr (0, [.ref h_p1_x, .ref h_p1_y, .ref h_p1_colour, .ref h_p1_load, .int p1_size, .int p1_centreX, .int p1_centreY])), (h_p1_x, .inl (cI, 24, .inl p1_x)), (h_p1_y, .inl (cI, 24, .inl p1_y))]) hx hb hK hP hD hS 1 0 rfl rfl (inb_in hg_10) et_chain_11 rfl dX2_push_77 (fun H locs hP hD hS => ?_)
    refine lv_aload_n hx hb dX2_push_78 rfl (lv_at hl 0 rfl) ?_
    refine va_get (D := (dC, dI)) (ci := 2) (v := .ref h_t_x) (C := RX2) (T := TX2) (N := 5) hx hb hts in_X2 hown hK hP 0 rfl rfl 1 (Nat.le_of_ble_eq_true rfl) (hts _ qf_X2_15) (fun _ h9 => h9) rfl dX2_push_79 ?_
    refine lv_aload_n hx hb dX2_push_82 rfl (lv_at hl 0 rfl) ?_
    refine va_get (D := (dC, dI)) (ci := 2) (v := .int t_size_9) (C := RX2) (T := TX2) (N := 5) hx hb hts in_X2 hown hK hP 0 rfl rfl 4 (Nat.le_of_ble_eq_true rfl) (hts _ qf_X2_38) (fun _ h9 => h9) rfl dX2_push_83 ?_
    refine lv_iload hx hb dX2_push_86 (lv_at hl 2 rfl) ?_
    obtain ⟨hg_12, hf⟩ := gd_some hf
    obtain ⟨t_x_13, et_x_13⟩ : ∃ y : Nat → Int32, y = upd t_x t_size_9.toNatClampNeg l4_2 := ⟨_, rfl⟩
    replace hf := xl_at hf et_x_13
    refine xiast (w2 := [(h_t, .inr (2, [.ref h_t_chain, .ref h_t_x, .ref h_t_y, .ref h_t_sorted, .int t_size_9])), (h_t_chain, .inl (cI, 48, .inl t_chain_11)), (h_t_x, .inl (cI, 48, .inl t_x_13)), (h_t_y, .inl (cI, 48, .inl t_y)), (h_p1, .inr (0, [.ref h_p1_x, .ref h_p1_y, .ref h_p1_colour, .ref h_p1_load, .int p1_size, .int p1_centreX, .int p1_centreY])), (h_p1_x, .inl (cI, 24, .inl p1_x)), (h_p1_y, .inl (cI, 24, .inl p1_y))]) hx hb hK hP hD hS 2 0 rfl rfl (inb_in hg_12) et_x_13 rfl dX2_push_88 (fun H locs hP hD hS => ?_)
    refine lv_aload_n hx hb dX2_push_89 rfl (lv_at hl 0 rfl) ?_
    refine va_get (D := (dC, dI)) (ci := 2) (v := .ref h_t_y) (C := RX2) (T := TX2) (N := 5) hx hb hts in_X2 hown hK hP 0 rfl rfl 2 (Nat.le_of_ble_eq_true rfl) (hts _ qf_X2_18) (fun _ h9 => h9) rfl dX2_push_90 ?_
    refine lv_aload_n hx hb dX2_push_93 rfl (lv_at hl 0 rfl) ?_
    refine va_get (D := (dC, dI)) (ci := 2) (v := .int t_size_9) (C := RX2) (T := TX2) (N := 5) hx hb hts in_X2 hown hK hP 0 rfl rfl 4 (Nat.le_of_ble_eq_true rfl) (hts _ qf_X2_38) (fun _ h9 => h9) rfl dX2_push_94 ?_
    refine lv_iload hx hb dX2_push_97 (lv_at hl 3 rfl) ?_
    obtain ⟨hg_14, hf⟩ := gd_some hf
    obtain ⟨t_y_15, et_y_15⟩ : ∃ y : Nat → Int32, y = upd t_y t_size_9.toNatClampNeg l5_4 := ⟨_, rfl⟩
    replace hf := xl_at hf et_y_15
    refine xiast (w2 := [(h_t, .inr (2, [.ref h_t_chain, .ref h_t_x, .ref h_t_y, .ref h_t_sorted, .int t_size_9])), (h_t_chain, .inl (cI, 48, .inl t_chain_11)), (h_t_x, .inl (cI, 48, .inl t_x_13)), (h_t_y, .inl (cI, 48, .inl t_y_15)), (h_p1, .inr (0, [.ref h_p1_x, .ref h_p1_y, .ref h_p1_colour, .ref h_p1_load, .int p1_size, .int p1_centreX, .int p1_centreY])), (h_p1_x, .inl (cI, 24, .inl p1_x)), (h_p1_y, .inl (cI, 24, .inl p1_y))]) hx hb hK hP hD hS 3 0 rfl rfl (inb_in hg_14) et_y_15 rfl dX2_push_99 (fun H locs hP hD hS => ?_)
    refine lv_aload_n hx hb dX2_push_100 rfl (lv_at hl 0 rfl) ?_
    refine lv_dup hx hb dX2_push_101 rfl ?_
    refine va_get (D := (dC, dI)) (ci := 2) (v := .int t_size_9) (C := RX2) (T := TX2) (N := 5) hx hb hts in_X2 hown hK hP 0 rfl rfl 4 (Nat.le_of_ble_eq_true rfl) (hts _ qf_X2_38) (fun _ h9 => h9) rfl dX2_push_102 ?_
    refine lv_iconst (v := (1 : Int32)) hx hb dX2_push_105 (by decide) ?_
    refine lv_iadd hx hb dX2_push_106 ?_
    refine lv_topi (fun f_size_16 ef_size_16 => ?_)
    replace hf := xl_at hf ef_size_16
    refine xput (D := (dC, dI)) (ci := 2) (v := .int f_size_16) (C := RX2) (T := TX2) (N := 5) (w2 := [(h_t, .inr (2, [.ref h_t_chain, .ref h_t_x, .ref h_t_y, .ref h_t_sorted, .int f_size_16])), (h_t_chain, .inl (cI, 48, .inl t_chain_11)), (h_t_x, .inl (cI, 48, .inl t_x_13)), (h_t_y, .inl (cI, 48, .inl t_y_15)), (h_p1, .inr (0, [.ref h_p1_x, .ref h_p1_y, .ref h_p1_colour, .ref h_p1_load, .int p1_size, .int p1_centreX, .int p1_centreY])), (h_p1_x, .inl (cI, 24, .inl p1_x)), (h_p1_y, .inl (cI, 24, .inl p1_y))]) hx hb hts in_X2 tyX2 tyX2_ok nmX2 hown hK hP hD hS 0 rfl rfl 4 (Nat.le_of_ble_eq_true rfl) (hts _ qf_X2_38) (fun _ h9 => h9) rfl rfl rfl (Nat.le_of_ble_eq_true rfl) rfl dX2_push_107 (fun H locs hP hD hS => ?_)
    obtain ⟨rfl, rfl, rfl, rfl⟩ := o4 hf
    exact W.vret hx hb hr (fun t ht hW => ⟨⟨(), rfl, trivial, by rw [ht]; exact hP, hD⟩, hS.F ht⟩) hS.2.2 dX2_push_110
theorem dX2_build_0 : decode cX2_build 0 = .ok (.iconst 0, 1) := by decide +kernel
theorem dX2_build_1 : decode cX2_build 1 = .ok (.istore_n 3, 1) := by decide +kernel
theorem dX2_build_2 : decode cX2_build 2 = .ok (.iconst 0, 1) := by decide +kernel
theorem dX2_build_3 : decode cX2_build 3 = .ok (.istore 4, 2) := by decide +kernel
theorem dX2_build_5 : decode cX2_build 5 = .ok (.iload 4, 2) := by decide +kernel
theorem dX2_build_7 : decode cX2_build 7 = .ok (.aload_n 1, 1) := by decide +kernel
theorem dX2_build_8 : decode cX2_build 8 = .ok (.getfield 24, 3) := by decide +kernel
theorem dX2_build_11 : decode cX2_build 11 = .ok (.if_icmp .ge 27, 3) := by decide +kernel
theorem dX2_build_14 : decode cX2_build 14 = .ok (.iload_n 2, 1) := by decide +kernel
theorem dX2_build_15 : decode cX2_build 15 = .ok (.iload 4, 2) := by decide +kernel
theorem dX2_build_17 : decode cX2_build 17 = .ok (.invokestatic 30, 3) := by decide +kernel
theorem dX2_build_20 : decode cX2_build 20 = .ok (.ifCond .eq 12, 3) := by decide +kernel
theorem dX2_build_23 : decode cX2_build 23 = .ok (.aload_n 0, 1) := by decide +kernel
theorem dX2_build_24 : decode cX2_build 24 = .ok (.aload_n 1, 1) := by decide +kernel
theorem dX2_build_25 : decode cX2_build 25 = .ok (.iload 4, 2) := by decide +kernel
theorem dX2_build_27 : decode cX2_build 27 = .ok (.iload_n 3, 1) := by decide +kernel
theorem dX2_build_28 : decode cX2_build 28 = .ok (.invokevirtual 34, 3) := by decide +kernel
theorem dX2_build_31 : decode cX2_build 31 = .ok (.istore_n 3, 1) := by decide +kernel
theorem dX2_build_32 : decode cX2_build 32 = .ok (.iinc 4 1, 3) := by decide +kernel
theorem dX2_build_35 : decode cX2_build 35 = .ok (.goto (-30), 3) := by decide +kernel
theorem dX2_build_38 : decode cX2_build 38 = .ok (.aload_n 0, 1) := by decide +kernel
theorem dX2_build_39 : decode cX2_build 39 = .ok (.iconst 0, 1) := by decide +kernel
theorem dX2_build_40 : decode cX2_build 40 = .ok (.putfield 38, 3) := by decide +kernel
theorem dX2_build_43 : decode cX2_build 43 = .ok (.iconst 0, 1) := by decide +kernel
theorem dX2_build_44 : decode cX2_build 44 = .ok (.istore 4, 2) := by decide +kernel
theorem dX2_build_46 : decode cX2_build 46 = .ok (.iload 4, 2) := by decide +kernel
theorem dX2_build_48 : decode cX2_build 48 = .ok (.iload_n 3, 1) := by decide +kernel
theorem dX2_build_49 : decode cX2_build 49 = .ok (.if_icmp .ge 22, 3) := by decide +kernel
theorem dX2_build_52 : decode cX2_build 52 = .ok (.aload_n 0, 1) := by decide +kernel
theorem dX2_build_53 : decode cX2_build 53 = .ok (.aload_n 1, 1) := by decide +kernel
theorem dX2_build_54 : decode cX2_build 54 = .ok (.aload_n 0, 1) := by decide +kernel
theorem dX2_build_55 : decode cX2_build 55 = .ok (.getfield 21, 3) := by decide +kernel
theorem dX2_build_58 : decode cX2_build 58 = .ok (.iload 4, 2) := by decide +kernel
theorem dX2_build_60 : decode cX2_build 60 = .ok (.iaload, 1) := by decide +kernel
theorem dX2_build_61 : decode cX2_build 61 = .ok (.iconst 2, 1) := by decide +kernel
theorem dX2_build_62 : decode cX2_build 62 = .ok (.invokevirtual 39, 3) := by decide +kernel
theorem dX2_build_65 : decode cX2_build 65 = .ok (.iinc 4 1, 3) := by decide +kernel
theorem dX2_build_68 : decode cX2_build 68 = .ok (.goto (-22), 3) := by decide +kernel
theorem dX2_build_71 : decode cX2_build 71 = .ok (.aload_n 0, 1) := by decide +kernel
theorem dX2_build_72 : decode cX2_build 72 = .ok (.getfield 38, 3) := by decide +kernel
theorem dX2_build_75 : decode cX2_build 75 = .ok (.iconst 1, 1) := by decide +kernel
theorem dX2_build_76 : decode cX2_build 76 = .ok (.iadd, 1) := by decide +kernel
theorem dX2_build_77 : decode cX2_build 77 = .ok (.istore 4, 2) := by decide +kernel
theorem dX2_build_79 : decode cX2_build 79 = .ok (.iload_n 3, 1) := by decide +kernel
theorem dX2_build_80 : decode cX2_build 80 = .ok (.iconst 2, 1) := by decide +kernel
theorem dX2_build_81 : decode cX2_build 81 = .ok (.isub, 1) := by decide +kernel
theorem dX2_build_82 : decode cX2_build 82 = .ok (.istore 5, 2) := by decide +kernel
theorem dX2_build_84 : decode cX2_build 84 = .ok (.iload 5, 2) := by decide +kernel
theorem dX2_build_86 : decode cX2_build 86 = .ok (.ifCond .lt 23, 3) := by decide +kernel
theorem dX2_build_89 : decode cX2_build 89 = .ok (.aload_n 0, 1) := by decide +kernel
theorem dX2_build_90 : decode cX2_build 90 = .ok (.aload_n 1, 1) := by decide +kernel
theorem dX2_build_91 : decode cX2_build 91 = .ok (.aload_n 0, 1) := by decide +kernel
theorem dX2_build_92 : decode cX2_build 92 = .ok (.getfield 21, 3) := by decide +kernel
theorem dX2_build_95 : decode cX2_build 95 = .ok (.iload 5, 2) := by decide +kernel
theorem dX2_build_97 : decode cX2_build 97 = .ok (.iaload, 1) := by decide +kernel
theorem dX2_build_98 : decode cX2_build 98 = .ok (.iload 4, 2) := by decide +kernel
theorem dX2_build_100 : decode cX2_build 100 = .ok (.invokevirtual 39, 3) := by decide +kernel
theorem dX2_build_103 : decode cX2_build 103 = .ok (.iinc 5 (-1), 3) := by decide +kernel
theorem dX2_build_106 : decode cX2_build 106 = .ok (.goto (-22), 3) := by decide +kernel
theorem dX2_build_109 : decode cX2_build 109 = .ok (.iload_n 3, 1) := by decide +kernel
theorem dX2_build_110 : decode cX2_build 110 = .ok (.iconst 1, 1) := by decide +kernel
theorem dX2_build_111 : decode cX2_build 111 = .ok (.if_icmp .le 13, 3) := by decide +kernel
theorem dX2_build_114 : decode cX2_build 114 = .ok (.aload_n 0, 1) := by decide +kernel
theorem dX2_build_115 : decode cX2_build 115 = .ok (.dup, 1) := by decide +kernel
theorem dX2_build_116 : decode cX2_build 116 = .ok (.getfield 38, 3) := by decide +kernel
theorem dX2_build_119 : decode cX2_build 119 = .ok (.iconst 1, 1) := by decide +kernel
theorem dX2_build_120 : decode cX2_build 120 = .ok (.isub, 1) := by decide +kernel
theorem dX2_build_121 : decode cX2_build 121 = .ok (.putfield 38, 3) := by decide +kernel
theorem dX2_build_124 : decode cX2_build 124 = .ok (.aload_n 0, 1) := by decide +kernel
theorem dX2_build_125 : decode cX2_build 125 = .ok (.getfield 15, 3) := by decide +kernel
theorem dX2_build_128 : decode cX2_build 128 = .ok (.aload_n 0, 1) := by decide +kernel
theorem dX2_build_129 : decode cX2_build 129 = .ok (.getfield 38, 3) := by decide +kernel
theorem dX2_build_132 : decode cX2_build 132 = .ok (.aload_n 0, 1) := by decide +kernel
theorem dX2_build_133 : decode cX2_build 133 = .ok (.getfield 15, 3) := by decide +kernel
theorem dX2_build_136 : decode cX2_build 136 = .ok (.iconst 0, 1) := by decide +kernel
theorem dX2_build_137 : decode cX2_build 137 = .ok (.iaload, 1) := by decide +kernel
theorem dX2_build_138 : decode cX2_build 138 = .ok (.iastore, 1) := by decide +kernel
theorem dX2_build_139 : decode cX2_build 139 = .ok (.aload_n 0, 1) := by decide +kernel
theorem dX2_build_140 : decode cX2_build 140 = .ok (.getfield 18, 3) := by decide +kernel
theorem dX2_build_143 : decode cX2_build 143 = .ok (.aload_n 0, 1) := by decide +kernel
theorem dX2_build_144 : decode cX2_build 144 = .ok (.getfield 38, 3) := by decide +kernel
theorem dX2_build_147 : decode cX2_build 147 = .ok (.aload_n 0, 1) := by decide +kernel
theorem dX2_build_148 : decode cX2_build 148 = .ok (.getfield 18, 3) := by decide +kernel
theorem dX2_build_151 : decode cX2_build 151 = .ok (.iconst 0, 1) := by decide +kernel
theorem dX2_build_152 : decode cX2_build 152 = .ok (.iaload, 1) := by decide +kernel
theorem dX2_build_153 : decode cX2_build 153 = .ok (.iastore, 1) := by decide +kernel
theorem dX2_build_154 : decode cX2_build 154 = .ok (.return_, 1) := by decide +kernel
set_option maxRecDepth 100000 in
set_option maxHeartbeats 4000000 in
theorem wX2_build_L5 {p : Program} {l : Launch} {e : Env} {R : Room} {s : State} {m : MethodId} {args : Array Value} {below : List Frame} {meth : Method} {c : Code} {Q : State → Prop} {A : Nat → Prop} {dC : Nat → ClassId} {dI : Nat → Nat → Nat} {cI cL cB : ClassId} {K : Nat} (C0 : Sx p R s m args c cX2_build 6 RX2 A dC dI cI cL cB 2 50) (h_t h_t_chain h_t_x h_t_y h_t_sorted h_p1 h_p1_x h_p1_y h_p1_colour h_p1_load : Nat) (t_size : Int32) (t_chain : Nat → Int32) (t_x : Nat → Int32) (t_y : Nat → Int32) (p1_size : Int32) (p1_centreX : Int32) (p1_centreY : Int32) (p1_x : Nat → Int32) (p1_y : Nat → Int32) (l2 : Int32) : ∀ (n : Nat) (l3 : Int32) (l4 : Int32) (t_sorted : Nat → Int32) (x3_ : Int32) (x_t_sorted : Nat → Int32) (H : Heap) (locs : List Loc) (ls : Array Slot), va_P (dC, dI) vwCl [(h_t, .inr (2, [.ref h_t_chain, .ref h_t_x, .ref h_t_y, .ref h_t_sorted, .int t_size])), (h_t_chain, .inl (cI, 48, .inl t_chain)), (h_t_x, .inl (cI, 48, .inl t_x)), (h_t_y, .inl (cI, 48, .inl t_y)), (h_t_sorted, .inl (cI, 24, .inl t_sorted)), (h_p1, .inr (0, [.ref h_p1_x, .ref h_p1_y, .ref h_p1_colour, .ref h_p1_load, .int p1_size, .int p1_centreX, .int p1_centreY])), (h_p1_x, .inl (cI, 24, .inl p1_x)), (h_p1_y, .inl (cI, 24, .inl p1_y))] H → va_D A [(h_t, .inr (2, [.ref h_t_chain, .ref h_t_x, .ref h_t_y, .ref h_t_sorted, .int t_size])), (h_t_chain, .inl (cI, 48, .inl t_chain)), (h_t_x, .inl (cI, 48, .inl t_x)), (h_t_y, .inl (cI, 48, .inl t_y)), (h_t_sorted, .inl (cI, 24, .inl t_sorted)), (h_p1, .inr (0, [.ref h_p1_x, .ref h_p1_y, .ref h_p1_colour, .ref h_p1_load, .int p1_size, .int p1_centreX, .int p1_centreY])), (h_p1_x, .inl (cI, 24, .inl p1_x)), (h_p1_y, .inl (cI, 24, .inl p1_y))] → va_S A s.heap H locs → lv_has ls 6 [(0, .ref h_t), (1, .ref h_p1), (2, .int l2), (3, .int l3), (4, .int l4)] → fX2_build_L5 K l2 p1_size p1_x p1_y n l3 l4 t_sorted = some (x3_, x_t_sorted) → (∀ (H : Heap) (locs : List Loc) (ls : Array Slot), va_P (dC, dI) vwCl [(h_t, .inr (2, [.ref h_t_chain, .ref h_t_x, .ref h_t_y, .ref h_t_sorted, .int t_size])), (h_t_chain, .inl (cI, 48, .inl t_chain)), (h_t_x, .inl (cI, 48, .inl t_x)), (h_t_y, .inl (cI, 48, .inl t_y)), (h_t_sorted, .inl (cI, 24, .inl x_t_sorted)), (h_p1, .inr (0, [.ref h_p1_x, .ref h_p1_y, .ref h_p1_colour, .ref h_p1_load, .int p1_size, .int p1_centreX, .int p1_centreY])), (h_p1_x, .inl (cI, 24, .inl p1_x)), (h_p1_y, .inl (cI, 24, .inl p1_y))] H → va_D A [(h_t, .inr (2, [.ref h_t_chain, .ref h_t_x, .ref h_t_y, .ref h_t_sorted, .int t_size])), (h_t_chain, .inl (cI, 48, .inl t_chain)), (h_t_x, .inl (cI, 48, .inl t_x)), (h_t_y, .inl (cI, 48, .inl t_y)), (h_t_sorted, .inl (cI, 24, .inl x_t_sorted)), (h_p1, .inr (0, [.ref h_p1_x, .ref h_p1_y, .ref h_p1_colour, .ref h_p1_load, .int p1_size, .int p1_centreX, .int p1_centreY])), (h_p1_x, .inl (cI, 24, .inl p1_x)), (h_p1_y, .inl (cI, 24, .inl p1_y))] → va_S A s.heap H locs → lv_has ls 6 [(0, .ref h_t), (1, .ref h_p1), (3, .int x3_)] → W p l e R s m args below meth c H locs 0 0 Q (F0 m 38 ls [])) → W p l e R s m args below meth c H locs 0 0 Q (F0 m 5 ls []) := by
  obtain ⟨hx, hb, hml, hown, hts, hK, hT, hA, hF, hLo⟩ := id C0
  intro n
  induction n with
  | zero =>
    intro l3 l4 t_sorted x3_ x_t_sorted H locs ls hP hD hS hl hf
    rw [fX2_build_L5] at hf
    cases hf
  | succ n ih =>
    intro l3 l4 t_sorted x3_ x_t_sorted H locs ls hP hD hS hl hf hk
    rw [fX2_build_L5] at hf
    refine lv_iload hx hb dX2_build_5 (lv_at hl 4 rfl) ?_
    refine lv_aload_n hx hb dX2_build_7 rfl (lv_at hl 1 rfl) ?_
    refine va_get (D := (dC, dI)) (ci := 0) (v := .int p1_size) (C := RX0) (T := TX0) (N := 7) hx hb hts in_X0 hown hK hP 5 rfl rfl 4 (Nat.le_of_ble_eq_true rfl) (hts _ qf_X2_24) (fun _ h9 => h9) rfl dX2_build_8 ?_
    refine lv_icmp_ge (tgt := 38) hx hb dX2_build_11 (by decide) (fun hc => ?_) (fun hc => ?_)
    · replace hf := it_t (hc) hf
      obtain ⟨rfl, rfl⟩ := o2 hf
      exact hk H locs ls hP hD hS (lv_sub hl [0, 1, 3] rfl)
    · replace hf := it_f (hc) hf
      refine lv_iload_n hx hb dX2_build_14 rfl (lv_at hl 2 rfl) ?_
      refine lv_iload hx hb dX2_build_15 (lv_at hl 4 rfl) ?_
      obtain ⟨r_1, hq_2, hf⟩ := b1_some hf
      refine xci (wr := [(h_t, .inr (2, [.ref h_t_chain, .ref h_t_x, .ref h_t_y, .ref h_t_sorted, .int t_size])), (h_t_chain, .inl (cI, 48, .inl t_chain)), (h_t_x, .inl (cI, 48, .inl t_x)), (h_t_y, .inl (cI, 48, .inl t_y)), (h_t_sorted, .inl (cI, 24, .inl t_sorted)), (h_p1, .inr (0, [.ref h_p1_x, .ref h_p1_y, .ref h_p1_colour, .ref h_p1_load, .int p1_size, .int p1_centreX, .int p1_centreY])), (h_p1_x, .inl (cI, 24, .inl p1_x)), (h_p1_y, .inl (cI, 24, .inl p1_y))]) (w2 := [(h_t, .inr (2, [.ref h_t_chain, .ref h_t_x, .ref h_t_y, .ref h_t_sorted, .int t_size])), (h_t_chain, .inl (cI, 48, .inl t_chain)), (h_t_x, .inl (cI, 48, .inl t_x)), (h_t_y, .inl (cI, 48, .inl t_y)), (h_t_sorted, .inl (cI, 24, .inl t_sorted)), (h_p1, .inr (0, [.ref h_p1_x, .ref h_p1_y, .ref h_p1_colour, .ref h_p1_load, .int p1_size, .int p1_centreX, .int p1_centreY])), (h_p1_x, .inl (cI, 24, .inl p1_x)), (h_p1_y, .inl (cI, 24, .inl p1_y))]) (va_runSN (As := [.int l2, .int l4]) (rest := []) ⟨hx, hb, hml, hown, hts⟩ (mtX11_isIn l dC dI cI cL cB K H.size l2 l4 r_1 hq_2) ⟨va_cnB 2 hts (gcode qc_X11_isIn) rfl rfl rfl (hT _ qm_X2_30) (hts _ qz_X11) hdS_X11_isIn ⟨Nat.le_trans (Nat.le_of_ble_eq_true rfl) hF, Nat.le_trans (Nat.le_of_ble_eq_true rfl) hLo⟩, hts _ qt_X11_isIn, trivial⟩ (cPreS hK hP hD hT [] rfl rfl) rfl rfl hl.1 rfl (lv_room (Nat.le_of_ble_eq_true rfl)) dX2_build_17 ⟨Nat.zero_le _, Nat.zero_le _⟩) hP hD hS hA [] [0, 1, 2, 3, 4, 5, 6, 7] [0, 1, 2, 3, 4, 5, 6, 7] rfl rfl rfl rfl rfl rfl (fun H locs hP hD hS => ?_)
      obtain ⟨k_5, ek_5, hf⟩ := jn_out hf
      have J_6 : ∀ (l3_3 : Int32) (t_sorted_4 : Nat → Int32) (H : Heap) (locs : List Loc) (ls : Array Slot), va_P (dC, dI) vwCl [(h_t, .inr (2, [.ref h_t_chain, .ref h_t_x, .ref h_t_y, .ref h_t_sorted, .int t_size])), (h_t_chain, .inl (cI, 48, .inl t_chain)), (h_t_x, .inl (cI, 48, .inl t_x)), (h_t_y, .inl (cI, 48, .inl t_y)), (h_t_sorted, .inl (cI, 24, .inl t_sorted_4)), (h_p1, .inr (0, [.ref h_p1_x, .ref h_p1_y, .ref h_p1_colour, .ref h_p1_load, .int p1_size, .int p1_centreX, .int p1_centreY])), (h_p1_x, .inl (cI, 24, .inl p1_x)), (h_p1_y, .inl (cI, 24, .inl p1_y))] H → va_D A [(h_t, .inr (2, [.ref h_t_chain, .ref h_t_x, .ref h_t_y, .ref h_t_sorted, .int t_size])), (h_t_chain, .inl (cI, 48, .inl t_chain)), (h_t_x, .inl (cI, 48, .inl t_x)), (h_t_y, .inl (cI, 48, .inl t_y)), (h_t_sorted, .inl (cI, 24, .inl t_sorted_4)), (h_p1, .inr (0, [.ref h_p1_x, .ref h_p1_y, .ref h_p1_colour, .ref h_p1_load, .int p1_size, .int p1_centreX, .int p1_centreY])), (h_p1_x, .inl (cI, 24, .inl p1_x)), (h_p1_y, .inl (cI, 24, .inl p1_y))] → va_S A s.heap H locs → lv_has ls 6 [(0, .ref h_t), (1, .ref h_p1), (2, .int l2), (3, .int l3_3), (4, .int l4)] → k_5 l3_3 t_sorted_4 = some (x3_, x_t_sorted) → W p l e R s m args below meth c H locs 0 0 Q (F0 m 32 ls []) := by
        intro l3_3 t_sorted_4 H locs ls hP hD hS hl hf
        rw [ek_5] at hf
        try dsimp only at hf
        obtain ⟨l4_7, el4_7⟩ : ∃ y : Int32, y = l4 + (1 : Int32) := ⟨_, rfl⟩
        replace hf := xl_at hf el4_7
        refine lv_iinc (v := l4_7) (lv' := [(4, .int l4_7), (0, .ref h_t), (1, .ref h_p1), (2, .int l2), (3, .int l3_3)]) hx hb dX2_build_32 hl (k := 4) rfl (by rw [el4_7]; rfl) (Nat.le_of_ble_eq_true rfl) rfl (fun ls hl => ?_)
        refine lv_goto (tgt := 5) hx hb dX2_build_35 (by decide) ?_
        exact ih l3_3 l4_7 t_sorted_4 _ _ H locs ls hP hD hS (lv_sub hl [1, 2, 3, 4, 0] rfl) hf hk
      refine lv_if_eq (tgt := 32) hx hb dX2_build_20 (by decide) (fun hc => ?_) (fun hc => ?_)
      · replace hf := it_t (hc) hf
        exact J_6 l3 t_sorted H locs ls hP hD hS (lv_sub hl [0, 1, 2, 3, 4] rfl) hf
      · replace hf := it_f (hc) hf
        refine lv_aload_n hx hb dX2_build_23 rfl (lv_at hl 0 rfl) ?_
        refine lv_aload_n hx hb dX2_build_24 rfl (lv_at hl 1 rfl) ?_
        refine lv_iload hx hb dX2_build_25 (lv_at hl 4 rfl) ?_
        refine lv_iload_n hx hb dX2_build_27 rfl (lv_at hl 3 rfl) ?_
        obtain ⟨r_8, t_sorted_9, hq_10, hf⟩ := b2_some hf
        refine xci (wr := [(h_t_chain, .inl (cI, 48, .inl t_chain)), (h_t_x, .inl (cI, 48, .inl t_x)), (h_t_y, .inl (cI, 48, .inl t_y))]) (w2 := [(h_t, .inr (2, [.ref h_t_chain, .ref h_t_x, .ref h_t_y, .ref h_t_sorted, .int t_size])), (h_t_chain, .inl (cI, 48, .inl t_chain)), (h_t_x, .inl (cI, 48, .inl t_x)), (h_t_y, .inl (cI, 48, .inl t_y)), (h_t_sorted, .inl (cI, 24, .inl t_sorted_9)), (h_p1, .inr (0, [.ref h_p1_x, .ref h_p1_y, .ref h_p1_colour, .ref h_p1_load, .int p1_size, .int p1_centreX, .int p1_centreY])), (h_p1_x, .inl (cI, 24, .inl p1_x)), (h_p1_y, .inl (cI, 24, .inl p1_y))]) (va_runV (As := [.ref h_p1, .int l4, .int l3]) (rest := []) ⟨hx, hb, hml, hown, hts⟩ (mtX2_insert l dC dI cI cL cB K h_t h_t_chain h_t_x h_t_y h_t_sorted h_p1 h_p1_x h_p1_y h_p1_colour h_p1_load H.size t_size t_sorted p1_size p1_centreX p1_centreY p1_x p1_y l4 l3 r_8 t_sorted_9 hq_10) (cwV 3 hts gv_X2_34 rfl rfl rfl hdV_X2_insert ⟨Nat.le_trans (Nat.le_of_ble_eq_true rfl) hF, Nat.le_trans (Nat.le_of_ble_eq_true rfl) hLo⟩) (cPreV hK hP hD hT [0, 4, 5, 6, 7] rfl rfl (ci := 2) (q0 := 0) rfl rfl) rfl rfl hl.1 rfl (lv_room (Nat.le_of_ble_eq_true rfl)) dX2_build_28 ⟨Nat.zero_le _, Nat.zero_le _⟩) hP hD hS hA [0, 4, 5, 6, 7] [1, 2, 3] [3, 0, 1, 2, 4, 5, 6, 7] rfl rfl rfl rfl rfl rfl (fun H locs hP hD hS => ?_)
        refine lv_istore_n (lv' := [(3, .int r_8), (0, .ref h_t), (1, .ref h_p1), (2, .int l2), (4, .int l4)]) hx hb dX2_build_31 rfl hl (Nat.le_of_ble_eq_true rfl) rfl (fun ls hl => ?_)
        exact J_6 r_8 t_sorted_9 H locs ls hP hD hS (lv_sub hl [1, 2, 3, 0, 4] rfl) hf
set_option maxRecDepth 100000 in
set_option maxHeartbeats 4000000 in
theorem wX2_build_L46 {p : Program} {l : Launch} {e : Env} {R : Room} {s : State} {m : MethodId} {args : Array Value} {below : List Frame} {meth : Method} {c : Code} {Q : State → Prop} {A : Nat → Prop} {dC : Nat → ClassId} {dI : Nat → Nat → Nat} {cI cL cB : ClassId} {K : Nat} (C0 : Sx p R s m args c cX2_build 6 RX2 A dC dI cI cL cB 2 50) (h_t h_t_chain h_t_x h_t_y h_t_sorted h_p1 h_p1_x h_p1_y h_p1_colour h_p1_load : Nat) (t_sorted : Nat → Int32) (p1_size : Int32) (p1_centreX : Int32) (p1_centreY : Int32) (p1_x : Nat → Int32) (p1_y : Nat → Int32) (l3 : Int32) : ∀ (n : Nat) (l4 : Int32) (t_size : Int32) (t_chain : Nat → Int32) (t_x : Nat → Int32) (t_y : Nat → Int32) (x_t_size : Int32) (x_t_chain : Nat → Int32) (x_t_x : Nat → Int32) (x_t_y : Nat → Int32) (H : Heap) (locs : List Loc) (ls : Array Slot), va_P (dC, dI) vwCl [(h_t, .inr (2, [.ref h_t_chain, .ref h_t_x, .ref h_t_y, .ref h_t_sorted, .int t_size])), (h_t_chain, .inl (cI, 48, .inl t_chain)), (h_t_x, .inl (cI, 48, .inl t_x)), (h_t_y, .inl (cI, 48, .inl t_y)), (h_t_sorted, .inl (cI, 24, .inl t_sorted)), (h_p1, .inr (0, [.ref h_p1_x, .ref h_p1_y, .ref h_p1_colour, .ref h_p1_load, .int p1_size, .int p1_centreX, .int p1_centreY])), (h_p1_x, .inl (cI, 24, .inl p1_x)), (h_p1_y, .inl (cI, 24, .inl p1_y))] H → va_D A [(h_t, .inr (2, [.ref h_t_chain, .ref h_t_x, .ref h_t_y, .ref h_t_sorted, .int t_size])), (h_t_chain, .inl (cI, 48, .inl t_chain)), (h_t_x, .inl (cI, 48, .inl t_x)), (h_t_y, .inl (cI, 48, .inl t_y)), (h_t_sorted, .inl (cI, 24, .inl t_sorted)), (h_p1, .inr (0, [.ref h_p1_x, .ref h_p1_y, .ref h_p1_colour, .ref h_p1_load, .int p1_size, .int p1_centreX, .int p1_centreY])), (h_p1_x, .inl (cI, 24, .inl p1_x)), (h_p1_y, .inl (cI, 24, .inl p1_y))] → va_S A s.heap H locs → lv_has ls 6 [(0, .ref h_t), (1, .ref h_p1), (3, .int l3), (4, .int l4)] → fX2_build_L46 K l3 t_sorted p1_x p1_y n l4 t_size t_chain t_x t_y = some (x_t_size, x_t_chain, x_t_x, x_t_y) → (∀ (H : Heap) (locs : List Loc) (ls : Array Slot), va_P (dC, dI) vwCl [(h_t, .inr (2, [.ref h_t_chain, .ref h_t_x, .ref h_t_y, .ref h_t_sorted, .int x_t_size])), (h_t_chain, .inl (cI, 48, .inl x_t_chain)), (h_t_x, .inl (cI, 48, .inl x_t_x)), (h_t_y, .inl (cI, 48, .inl x_t_y)), (h_t_sorted, .inl (cI, 24, .inl t_sorted)), (h_p1, .inr (0, [.ref h_p1_x, .ref h_p1_y, .ref h_p1_colour, .ref h_p1_load, .int p1_size, .int p1_centreX, .int p1_centreY])), (h_p1_x, .inl (cI, 24, .inl p1_x)), (h_p1_y, .inl (cI, 24, .inl p1_y))] H → va_D A [(h_t, .inr (2, [.ref h_t_chain, .ref h_t_x, .ref h_t_y, .ref h_t_sorted, .int x_t_size])), (h_t_chain, .inl (cI, 48, .inl x_t_chain)), (h_t_x, .inl (cI, 48, .inl x_t_x)), (h_t_y, .inl (cI, 48, .inl x_t_y)), (h_t_sorted, .inl (cI, 24, .inl t_sorted)), (h_p1, .inr (0, [.ref h_p1_x, .ref h_p1_y, .ref h_p1_colour, .ref h_p1_load, .int p1_size, .int p1_centreX, .int p1_centreY])), (h_p1_x, .inl (cI, 24, .inl p1_x)), (h_p1_y, .inl (cI, 24, .inl p1_y))] → va_S A s.heap H locs → lv_has ls 6 [(0, .ref h_t), (1, .ref h_p1), (3, .int l3)] → W p l e R s m args below meth c H locs 0 0 Q (F0 m 71 ls [])) → W p l e R s m args below meth c H locs 0 0 Q (F0 m 46 ls []) := by
  obtain ⟨hx, hb, hml, hown, hts, hK, hT, hA, hF, hLo⟩ := id C0
  intro n
  induction n with
  | zero =>
    intro l4 t_size t_chain t_x t_y x_t_size x_t_chain x_t_x x_t_y H locs ls hP hD hS hl hf
    rw [fX2_build_L46] at hf
    cases hf
  | succ n ih =>
    intro l4 t_size t_chain t_x t_y x_t_size x_t_chain x_t_x x_t_y H locs ls hP hD hS hl hf hk
    rw [fX2_build_L46] at hf
    refine lv_iload hx hb dX2_build_46 (lv_at hl 3 rfl) ?_
    refine lv_iload_n hx hb dX2_build_48 rfl (lv_at hl 2 rfl) ?_
    refine lv_icmp_ge (tgt := 71) hx hb dX2_build_49 (by decide) (fun hc => ?_) (fun hc => ?_)
    · replace hf := it_t (hc) hf
      obtain ⟨rfl, rfl, rfl, rfl⟩ := o4 hf
      exact hk H locs ls hP hD hS (lv_sub hl [0, 1, 2] rfl)
    · replace hf := it_f (hc) hf
      refine lv_aload_n hx hb dX2_build_52 rfl (lv_at hl 0 rfl) ?_
      refine lv_aload_n hx hb dX2_build_53 rfl (lv_at hl 1 rfl) ?_
      refine lv_aload_n hx hb dX2_build_54 rfl (lv_at hl 0 rfl) ?_
      refine va_get (D := (dC, dI)) (ci := 2) (v := .ref h_t_sorted) (C := RX2) (T := TX2) (N := 5) hx hb hts in_X2 hown hK hP 0 rfl rfl 3 (Nat.le_of_ble_eq_true rfl) (hts _ qf_X2_21) (fun _ h9 => h9) rfl dX2_build_55 ?_
      refine lv_iload hx hb dX2_build_58 (lv_at hl 3 rfl) ?_
      obtain ⟨hg_14, hf⟩ := gd_some hf
      refine va_iald hx hb hK hP 4 0 rfl rfl (inb_in hg_14) dX2_build_60 ?_
      refine lv_iconst (v := (2 : Int32)) hx hb dX2_build_61 (by decide) ?_
      obtain ⟨t_size_15, t_chain_16, t_x_17, t_y_18, hq_19, hf⟩ := b4_some hf
      refine xcv (wr := [(h_t_sorted, .inl (cI, 24, .inl t_sorted))]) (w2 := [(h_t, .inr (2, [.ref h_t_chain, .ref h_t_x, .ref h_t_y, .ref h_t_sorted, .int t_size_15])), (h_t_chain, .inl (cI, 48, .inl t_chain_16)), (h_t_x, .inl (cI, 48, .inl t_x_17)), (h_t_y, .inl (cI, 48, .inl t_y_18)), (h_t_sorted, .inl (cI, 24, .inl t_sorted)), (h_p1, .inr (0, [.ref h_p1_x, .ref h_p1_y, .ref h_p1_colour, .ref h_p1_load, .int p1_size, .int p1_centreX, .int p1_centreY])), (h_p1_x, .inl (cI, 24, .inl p1_x)), (h_p1_y, .inl (cI, 24, .inl p1_y))]) (va_runV (As := [.ref h_p1, .int (t_sorted l4.toNatClampNeg), .int (2 : Int32)]) (rest := []) ⟨hx, hb, hml, hown, hts⟩ (mtX2_push l dC dI cI cL cB K h_t h_t_chain h_t_x h_t_y h_t_sorted h_p1 h_p1_x h_p1_y h_p1_colour h_p1_load H.size t_size t_chain t_x t_y p1_size p1_centreX p1_centreY p1_x p1_y (t_sorted l4.toNatClampNeg) (2 : Int32) t_size_15 t_chain_16 t_x_17 t_y_18 hq_19) (cwV 3 hts gv_X2_39 rfl rfl rfl hdV_X2_push ⟨Nat.le_trans (Nat.le_of_ble_eq_true rfl) hF, Nat.le_trans (Nat.le_of_ble_eq_true rfl) hLo⟩) (cPreV hK hP hD hT [0, 1, 2, 3, 5, 6, 7] rfl rfl (ci := 2) (q0 := 0) rfl rfl) rfl rfl hl.1 rfl (lv_room (Nat.le_of_ble_eq_true rfl)) dX2_build_62 ⟨Nat.zero_le _, Nat.zero_le _⟩) hP hD hS hA [0, 1, 2, 3, 5, 6, 7] [4] [1, 2, 3, 4, 0, 5, 6, 7] rfl rfl rfl rfl rfl rfl (fun H locs hP hD hS => ?_)
      obtain ⟨l4_20, el4_20⟩ : ∃ y : Int32, y = l4 + (1 : Int32) := ⟨_, rfl⟩
      replace hf := xl_at hf el4_20
      refine lv_iinc (v := l4_20) (lv' := [(4, .int l4_20), (0, .ref h_t), (1, .ref h_p1), (3, .int l3)]) hx hb dX2_build_65 hl (k := 3) rfl (by rw [el4_20]; rfl) (Nat.le_of_ble_eq_true rfl) rfl (fun ls hl => ?_)
      refine lv_goto (tgt := 46) hx hb dX2_build_68 (by decide) ?_
      exact ih l4_20 t_size_15 t_chain_16 t_x_17 t_y_18 _ _ _ _ H locs ls hP hD hS (lv_sub hl [1, 2, 3, 0] rfl) hf hk
set_option maxRecDepth 100000 in
set_option maxHeartbeats 4000000 in
theorem wX2_build_L84 {p : Program} {l : Launch} {e : Env} {R : Room} {s : State} {m : MethodId} {args : Array Value} {below : List Frame} {meth : Method} {c : Code} {Q : State → Prop} {A : Nat → Prop} {dC : Nat → ClassId} {dI : Nat → Nat → Nat} {cI cL cB : ClassId} {K : Nat} (C0 : Sx p R s m args c cX2_build 6 RX2 A dC dI cI cL cB 2 50) (h_t h_t_chain h_t_x h_t_y h_t_sorted h_p1 h_p1_x h_p1_y h_p1_colour h_p1_load : Nat) (t_sorted : Nat → Int32) (p1_size : Int32) (p1_centreX : Int32) (p1_centreY : Int32) (p1_x : Nat → Int32) (p1_y : Nat → Int32) (l3 : Int32) (l4 : Int32) : ∀ (n : Nat) (l5 : Int32) (t_size : Int32) (t_chain : Nat → Int32) (t_x : Nat → Int32) (t_y : Nat → Int32) (x_t_size : Int32) (x_t_chain : Nat → Int32) (x_t_x : Nat → Int32) (x_t_y : Nat → Int32) (H : Heap) (locs : List Loc) (ls : Array Slot), va_P (dC, dI) vwCl [(h_t, .inr (2, [.ref h_t_chain, .ref h_t_x, .ref h_t_y, .ref h_t_sorted, .int t_size])), (h_t_chain, .inl (cI, 48, .inl t_chain)), (h_t_x, .inl (cI, 48, .inl t_x)), (h_t_y, .inl (cI, 48, .inl t_y)), (h_t_sorted, .inl (cI, 24, .inl t_sorted)), (h_p1, .inr (0, [.ref h_p1_x, .ref h_p1_y, .ref h_p1_colour, .ref h_p1_load, .int p1_size, .int p1_centreX, .int p1_centreY])), (h_p1_x, .inl (cI, 24, .inl p1_x)), (h_p1_y, .inl (cI, 24, .inl p1_y))] H → va_D A [(h_t, .inr (2, [.ref h_t_chain, .ref h_t_x, .ref h_t_y, .ref h_t_sorted, .int t_size])), (h_t_chain, .inl (cI, 48, .inl t_chain)), (h_t_x, .inl (cI, 48, .inl t_x)), (h_t_y, .inl (cI, 48, .inl t_y)), (h_t_sorted, .inl (cI, 24, .inl t_sorted)), (h_p1, .inr (0, [.ref h_p1_x, .ref h_p1_y, .ref h_p1_colour, .ref h_p1_load, .int p1_size, .int p1_centreX, .int p1_centreY])), (h_p1_x, .inl (cI, 24, .inl p1_x)), (h_p1_y, .inl (cI, 24, .inl p1_y))] → va_S A s.heap H locs → lv_has ls 6 [(0, .ref h_t), (1, .ref h_p1), (3, .int l3), (4, .int l4), (5, .int l5)] → fX2_build_L84 K l4 t_sorted p1_x p1_y n l5 t_size t_chain t_x t_y = some (x_t_size, x_t_chain, x_t_x, x_t_y) → (∀ (H : Heap) (locs : List Loc) (ls : Array Slot), va_P (dC, dI) vwCl [(h_t, .inr (2, [.ref h_t_chain, .ref h_t_x, .ref h_t_y, .ref h_t_sorted, .int x_t_size])), (h_t_chain, .inl (cI, 48, .inl x_t_chain)), (h_t_x, .inl (cI, 48, .inl x_t_x)), (h_t_y, .inl (cI, 48, .inl x_t_y)), (h_t_sorted, .inl (cI, 24, .inl t_sorted)), (h_p1, .inr (0, [.ref h_p1_x, .ref h_p1_y, .ref h_p1_colour, .ref h_p1_load, .int p1_size, .int p1_centreX, .int p1_centreY])), (h_p1_x, .inl (cI, 24, .inl p1_x)), (h_p1_y, .inl (cI, 24, .inl p1_y))] H → va_D A [(h_t, .inr (2, [.ref h_t_chain, .ref h_t_x, .ref h_t_y, .ref h_t_sorted, .int x_t_size])), (h_t_chain, .inl (cI, 48, .inl x_t_chain)), (h_t_x, .inl (cI, 48, .inl x_t_x)), (h_t_y, .inl (cI, 48, .inl x_t_y)), (h_t_sorted, .inl (cI, 24, .inl t_sorted)), (h_p1, .inr (0, [.ref h_p1_x, .ref h_p1_y, .ref h_p1_colour, .ref h_p1_load, .int p1_size, .int p1_centreX, .int p1_centreY])), (h_p1_x, .inl (cI, 24, .inl p1_x)), (h_p1_y, .inl (cI, 24, .inl p1_y))] → va_S A s.heap H locs → lv_has ls 6 [(0, .ref h_t), (3, .int l3)] → W p l e R s m args below meth c H locs 0 0 Q (F0 m 109 ls [])) → W p l e R s m args below meth c H locs 0 0 Q (F0 m 84 ls []) := by
  obtain ⟨hx, hb, hml, hown, hts, hK, hT, hA, hF, hLo⟩ := id C0
  intro n
  induction n with
  | zero =>
    intro l5 t_size t_chain t_x t_y x_t_size x_t_chain x_t_x x_t_y H locs ls hP hD hS hl hf
    rw [fX2_build_L84] at hf
    cases hf
  | succ n ih =>
    intro l5 t_size t_chain t_x t_y x_t_size x_t_chain x_t_x x_t_y H locs ls hP hD hS hl hf hk
    rw [fX2_build_L84] at hf
    refine lv_iload hx hb dX2_build_84 (lv_at hl 4 rfl) ?_
    refine lv_if_lt (tgt := 109) hx hb dX2_build_86 (by decide) (fun hc => ?_) (fun hc => ?_)
    · replace hf := it_t (hc) hf
      obtain ⟨rfl, rfl, rfl, rfl⟩ := o4 hf
      exact hk H locs ls hP hD hS (lv_sub hl [0, 2] rfl)
    · replace hf := it_f (hc) hf
      refine lv_aload_n hx hb dX2_build_89 rfl (lv_at hl 0 rfl) ?_
      refine lv_aload_n hx hb dX2_build_90 rfl (lv_at hl 1 rfl) ?_
      refine lv_aload_n hx hb dX2_build_91 rfl (lv_at hl 0 rfl) ?_
      refine va_get (D := (dC, dI)) (ci := 2) (v := .ref h_t_sorted) (C := RX2) (T := TX2) (N := 5) hx hb hts in_X2 hown hK hP 0 rfl rfl 3 (Nat.le_of_ble_eq_true rfl) (hts _ qf_X2_21) (fun _ h9 => h9) rfl dX2_build_92 ?_
      refine lv_iload hx hb dX2_build_95 (lv_at hl 4 rfl) ?_
      obtain ⟨hg_28, hf⟩ := gd_some hf
      refine va_iald hx hb hK hP 4 0 rfl rfl (inb_in hg_28) dX2_build_97 ?_
      refine lv_iload hx hb dX2_build_98 (lv_at hl 3 rfl) ?_
      obtain ⟨t_size_29, t_chain_30, t_x_31, t_y_32, hq_33, hf⟩ := b4_some hf
      refine xcv (wr := [(h_t_sorted, .inl (cI, 24, .inl t_sorted))]) (w2 := [(h_t, .inr (2, [.ref h_t_chain, .ref h_t_x, .ref h_t_y, .ref h_t_sorted, .int t_size_29])), (h_t_chain, .inl (cI, 48, .inl t_chain_30)), (h_t_x, .inl (cI, 48, .inl t_x_31)), (h_t_y, .inl (cI, 48, .inl t_y_32)), (h_t_sorted, .inl (cI, 24, .inl t_sorted)), (h_p1, .inr (0, [.ref h_p1_x, .ref h_p1_y, .ref h_p1_colour, .ref h_p1_load, .int p1_size, .int p1_centreX, .int p1_centreY])), (h_p1_x, .inl (cI, 24, .inl p1_x)), (h_p1_y, .inl (cI, 24, .inl p1_y))]) (va_runV (As := [.ref h_p1, .int (t_sorted l5.toNatClampNeg), .int l4]) (rest := []) ⟨hx, hb, hml, hown, hts⟩ (mtX2_push l dC dI cI cL cB K h_t h_t_chain h_t_x h_t_y h_t_sorted h_p1 h_p1_x h_p1_y h_p1_colour h_p1_load H.size t_size t_chain t_x t_y p1_size p1_centreX p1_centreY p1_x p1_y (t_sorted l5.toNatClampNeg) l4 t_size_29 t_chain_30 t_x_31 t_y_32 hq_33) (cwV 3 hts gv_X2_39 rfl rfl rfl hdV_X2_push ⟨Nat.le_trans (Nat.le_of_ble_eq_true rfl) hF, Nat.le_trans (Nat.le_of_ble_eq_true rfl) hLo⟩) (cPreV hK hP hD hT [0, 1, 2, 3, 5, 6, 7] rfl rfl (ci := 2) (q0 := 0) rfl rfl) rfl rfl hl.1 rfl (lv_room (Nat.le_of_ble_eq_true rfl)) dX2_build_100 ⟨Nat.zero_le _, Nat.zero_le _⟩) hP hD hS hA [0, 1, 2, 3, 5, 6, 7] [4] [1, 2, 3, 4, 0, 5, 6, 7] rfl rfl rfl rfl rfl rfl (fun H locs hP hD hS => ?_)
      obtain ⟨l5_34, el5_34⟩ : ∃ y : Int32, y = l5 + (-1 : Int32) := ⟨_, rfl⟩
      replace hf := xl_at hf el5_34
      refine lv_iinc (v := l5_34) (lv' := [(5, .int l5_34), (0, .ref h_t), (1, .ref h_p1), (3, .int l3), (4, .int l4)]) hx hb dX2_build_103 hl (k := 4) rfl (by rw [el5_34]; rfl) (Nat.le_of_ble_eq_true rfl) rfl (fun ls hl => ?_)
      refine lv_goto (tgt := 84) hx hb dX2_build_106 (by decide) ?_
      exact ih l5_34 t_size_29 t_chain_30 t_x_31 t_y_32 _ _ _ _ H locs ls hP hD hS (lv_sub hl [1, 2, 3, 4, 0] rfl) hf hk
set_option maxRecDepth 100000 in
set_option maxHeartbeats 4000000 in
theorem mtX2_build (l : Launch) (dC : Nat → ClassId) (dI : Nat → Nat → Nat) (cI cL cB : ClassId) (K : Nat) (h_t h_t_chain h_t_x h_t_y h_t_sorted h_p1 h_p1_x h_p1_y h_p1_colour h_p1_load : Nat) (sz : Nat) (t_size : Int32) (t_chain : Nat → Int32) (t_x : Nat → Int32) (t_y : Nat → Int32) (t_sorted : Nat → Int32) (p1_size : Int32) (p1_centreX : Int32) (p1_centreY : Int32) (p1_x : Nat → Int32) (p1_y : Nat → Int32) (a2 : Int32) (o_t_size : Int32) (o_t_chain : Nat → Int32) (o_t_x : Nat → Int32) (o_t_y : Nat → Int32) (o_t_sorted : Nat → Int32) (hf : fX2_build K t_size t_chain t_x t_y t_sorted p1_size p1_x p1_y a2 = some (o_t_size, o_t_chain, o_t_x, o_t_y, o_t_sorted)) : Met l yX2_build [Cond.code yX2_build cX2_build 6 none] ({ frames := 2, cells := 0, slots := 0, locals := 50 }) (va_Pc [.ref h_t, .ref h_p1, .int a2] (cPre dC dI cI cL cB sz [(h_t, .inr (2, [.ref h_t_chain, .ref h_t_x, .ref h_t_y, .ref h_t_sorted, .int t_size])), (h_t_chain, .inl (cI, 48, .inl t_chain)), (h_t_x, .inl (cI, 48, .inl t_x)), (h_t_y, .inl (cI, 48, .inl t_y)), (h_t_sorted, .inl (cI, 24, .inl t_sorted)), (h_p1, .inr (0, [.ref h_p1_x, .ref h_p1_y, .ref h_p1_colour, .ref h_p1_load, .int p1_size, .int p1_centreX, .int p1_centreY])), (h_p1_x, .inl (cI, 24, .inl p1_x)), (h_p1_y, .inl (cI, 24, .inl p1_y))])) (cQv dC dI (va_A [(h_t, .inr (2, [.ref h_t_chain, .ref h_t_x, .ref h_t_y, .ref h_t_sorted, .int t_size])), (h_t_chain, .inl (cI, 48, .inl t_chain)), (h_t_x, .inl (cI, 48, .inl t_x)), (h_t_y, .inl (cI, 48, .inl t_y)), (h_t_sorted, .inl (cI, 24, .inl t_sorted)), (h_p1, .inr (0, [.ref h_p1_x, .ref h_p1_y, .ref h_p1_colour, .ref h_p1_load, .int p1_size, .int p1_centreX, .int p1_centreY])), (h_p1_x, .inl (cI, 24, .inl p1_x)), (h_p1_y, .inl (cI, 24, .inl p1_y))] sz) [(h_t, .inr (2, [.ref h_t_chain, .ref h_t_x, .ref h_t_y, .ref h_t_sorted, .int o_t_size])), (h_t_chain, .inl (cI, 48, .inl o_t_chain)), (h_t_x, .inl (cI, 48, .inl o_t_x)), (h_t_y, .inl (cI, 48, .inl o_t_y)), (h_t_sorted, .inl (cI, 24, .inl o_t_sorted)), (h_p1, .inr (0, [.ref h_p1_x, .ref h_p1_y, .ref h_p1_colour, .ref h_p1_load, .int p1_size, .int p1_centreX, .int p1_centreY])), (h_p1_x, .inl (cI, 24, .inl p1_x)), (h_p1_y, .inl (cI, 24, .inl p1_y))]) 0 0 (va_A [(h_t, .inr (2, [.ref h_t_chain, .ref h_t_x, .ref h_t_y, .ref h_t_sorted, .int t_size])), (h_t_chain, .inl (cI, 48, .inl t_chain)), (h_t_x, .inl (cI, 48, .inl t_x)), (h_t_y, .inl (cI, 48, .inl t_y)), (h_t_sorted, .inl (cI, 24, .inl t_sorted)), (h_p1, .inr (0, [.ref h_p1_x, .ref h_p1_y, .ref h_p1_colour, .ref h_p1_load, .int p1_size, .int p1_centreX, .int p1_centreY])), (h_p1_x, .inl (cI, 24, .inl p1_x)), (h_p1_y, .inl (cI, 24, .inl p1_y))] sz) := by
  refine Met.ofW (cc := cX2_build) (maxL := 6) (ret := none) (by decide) rfl ?_
  intro p e s m args below meth c s₁ B hml hv
  obtain ⟨rfl, hsz, hP, hK, hD0, hT⟩ := hv
  have hx := B.exec
  have hb := B.bytes
  have hr := B.returns
  have hown : s.vm.findClass RX2 = some m.cls := findClass_of_methodNamed B.named
  have hlocks := B.notSynchronized
  have hts := TB.use hT ([.ref h_t, .ref h_p1, .int a2] : List Value).toArray
  subst hsz
  have hD := hD0.self (sz := s.heap.size)
  generalize hAe : va_A [(h_t, .inr (2, [.ref h_t_chain, .ref h_t_x, .ref h_t_y, .ref h_t_sorted, .int t_size])), (h_t_chain, .inl (cI, 48, .inl t_chain)), (h_t_x, .inl (cI, 48, .inl t_x)), (h_t_y, .inl (cI, 48, .inl t_y)), (h_t_sorted, .inl (cI, 24, .inl t_sorted)), (h_p1, .inr (0, [.ref h_p1_x, .ref h_p1_y, .ref h_p1_colour, .ref h_p1_load, .int p1_size, .int p1_centreX, .int p1_centreY])), (h_p1_x, .inl (cI, 24, .inl p1_x)), (h_p1_y, .inl (cI, 24, .inl p1_y))] s.heap.size = A at hD ⊢
  have hA : ∀ q : Nat, s.heap.size ≤ q → A q := fun q h => by rw [← hAe]; exact Or.inr h
  clear hAe hD0
  have hl := lv_entry ([.ref h_t, .ref h_p1, .int a2]) (n := 6) (Nat.le_of_ble_eq_true rfl)
  rw [lg_entry_eq]
  generalize (lg_sl ([.ref h_t, .ref h_p1, .int a2]) ++ List.replicate (6 - (lg_sl ([.ref h_t, .ref h_p1, .int a2])).length) Slot.unset).toArray = ls at hl ⊢
  have hl : lv_has ls 6 [(0, .ref h_t), (1, .ref h_p1), (2, .int a2)] := hl
  have hF : 2 ≤ (headSpec [Cond.code yX2_build cX2_build 6 none] ({ frames := 2, cells := 0, slots := 0, locals := 50 })).room.frames := Nat.le_refl _
  have hLo : 50 ≤ (headSpec [Cond.code yX2_build cX2_build 6 none] ({ frames := 2, cells := 0, slots := 0, locals := 50 })).room.locals := Nat.le_refl _
  have C0 : Sx p (headSpec [Cond.code yX2_build cX2_build 6 none] ({ frames := 2, cells := 0, slots := 0, locals := 50 })).room s m ([.ref h_t, .ref h_p1, .int a2] : List Value).toArray c cX2_build 6 RX2 A dC dI cI cL cB 2 50 := ⟨hx, hb, hml, hown, hts, hK, hT, hA, hF, hLo⟩
  refine startH (A := A) hP (fun H locs hP hS => ?_)
  rw [fX2_build] at hf
  refine lv_iconst (v := (0 : Int32)) hx hb dX2_build_0 (by decide) ?_
  refine lv_istore_n (lv' := [(3, .int (0 : Int32)), (0, .ref h_t), (1, .ref h_p1), (2, .int a2)]) hx hb dX2_build_1 rfl hl (Nat.le_of_ble_eq_true rfl) rfl (fun ls hl => ?_)
  refine lv_iconst (v := (0 : Int32)) hx hb dX2_build_2 (by decide) ?_
  refine lv_istore (lv' := [(4, .int (0 : Int32)), (3, .int (0 : Int32)), (0, .ref h_t), (1, .ref h_p1), (2, .int a2)]) hx hb dX2_build_3 hl (Nat.le_of_ble_eq_true rfl) rfl (fun ls hl => ?_)
  obtain ⟨l3_12, t_sorted_13, hq_11, hf⟩ := b2_some hf
  refine wX2_build_L5 C0 h_t h_t_chain h_t_x h_t_y h_t_sorted h_p1 h_p1_x h_p1_y h_p1_colour h_p1_load t_size t_chain t_x t_y p1_size p1_centreX p1_centreY p1_x p1_y a2 K (0 : Int32) (0 : Int32) t_sorted l3_12 t_sorted_13 H locs ls hP hD hS (lv_sub hl [2, 3, 4, 1, 0] rfl) hq_11 ?_
  intro H locs ls hP hD hS hl
  refine lv_aload_n hx hb dX2_build_38 rfl (lv_at hl 0 rfl) ?_
  refine lv_iconst (v := (0 : Int32)) hx hb dX2_build_39 (by decide) ?_
  refine xput (D := (dC, dI)) (ci := 2) (v := .int (0 : Int32)) (C := RX2) (T := TX2) (N := 5) (w2 := [(h_t, .inr (2, [.ref h_t_chain, .ref h_t_x, .ref h_t_y, .ref h_t_sorted, .int (0 : Int32)])), (h_t_chain, .inl (cI, 48, .inl t_chain)), (h_t_x, .inl (cI, 48, .inl t_x)), (h_t_y, .inl (cI, 48, .inl t_y)), (h_t_sorted, .inl (cI, 24, .inl t_sorted_13)), (h_p1, .inr (0, [.ref h_p1_x, .ref h_p1_y, .ref h_p1_colour, .ref h_p1_load, .int p1_size, .int p1_centreX, .int p1_centreY])), (h_p1_x, .inl (cI, 24, .inl p1_x)), (h_p1_y, .inl (cI, 24, .inl p1_y))]) hx hb hts in_X2 tyX2 tyX2_ok nmX2 hown hK hP hD hS 0 rfl rfl 4 (Nat.le_of_ble_eq_true rfl) (hts _ qf_X2_38) (fun _ h9 => h9) rfl rfl rfl (Nat.le_of_ble_eq_true rfl) rfl dX2_build_40 (fun H locs hP hD hS => ?_)
  refine lv_iconst (v := (0 : Int32)) hx hb dX2_build_43 (by decide) ?_
  refine lv_istore (lv' := [(4, .int (0 : Int32)), (0, .ref h_t), (1, .ref h_p1), (3, .int l3_12)]) hx hb dX2_build_44 hl (Nat.le_of_ble_eq_true rfl) rfl (fun ls hl => ?_)
  obtain ⟨t_size_22, t_chain_23, t_x_24, t_y_25, hq_21, hf⟩ := b4_some hf
  refine wX2_build_L46 C0 h_t h_t_chain h_t_x h_t_y h_t_sorted h_p1 h_p1_x h_p1_y h_p1_colour h_p1_load t_sorted_13 p1_size p1_centreX p1_centreY p1_x p1_y l3_12 K (0 : Int32) (0 : Int32) t_chain t_x t_y t_size_22 t_chain_23 t_x_24 t_y_25 H locs ls hP hD hS (lv_sub hl [1, 2, 3, 0] rfl) hq_21 ?_
  intro H locs ls hP hD hS hl
  refine lv_aload_n hx hb dX2_build_71 rfl (lv_at hl 0 rfl) ?_
  refine va_get (D := (dC, dI)) (ci := 2) (v := .int t_size_22) (C := RX2) (T := TX2) (N := 5) hx hb hts in_X2 hown hK hP 0 rfl rfl 4 (Nat.le_of_ble_eq_true rfl) (hts _ qf_X2_38) (fun _ h9 => h9) rfl dX2_build_72 ?_
  refine lv_iconst (v := (1 : Int32)) hx hb dX2_build_75 (by decide) ?_
  refine lv_iadd hx hb dX2_build_76 ?_
  refine lv_topi (fun l4_26 el4_26 => ?_)
  replace hf := xl_at hf el4_26
  refine lv_istore (lv' := [(4, .int l4_26), (0, .ref h_t), (1, .ref h_p1), (3, .int l3_12)]) hx hb dX2_build_77 hl (Nat.le_of_ble_eq_true rfl) rfl (fun ls hl => ?_)
  refine lv_iload_n hx hb dX2_build_79 rfl (lv_at hl 3 rfl) ?_
  refine lv_iconst (v := (2 : Int32)) hx hb dX2_build_80 (by decide) ?_
  refine lv_isub hx hb dX2_build_81 ?_
  refine lv_topi (fun l5_27 el5_27 => ?_)
  replace hf := xl_at hf el5_27
  refine lv_istore (lv' := [(5, .int l5_27), (4, .int l4_26), (0, .ref h_t), (1, .ref h_p1), (3, .int l3_12)]) hx hb dX2_build_82 hl (Nat.le_of_ble_eq_true rfl) rfl (fun ls hl => ?_)
  obtain ⟨t_size_36, t_chain_37, t_x_38, t_y_39, hq_35, hf⟩ := b4_some hf
  refine wX2_build_L84 C0 h_t h_t_chain h_t_x h_t_y h_t_sorted h_p1 h_p1_x h_p1_y h_p1_colour h_p1_load t_sorted_13 p1_size p1_centreX p1_centreY p1_x p1_y l3_12 l4_26 K l5_27 t_size_22 t_chain_23 t_x_24 t_y_25 t_size_36 t_chain_37 t_x_38 t_y_39 H locs ls hP hD hS (lv_sub hl [2, 3, 4, 1, 0] rfl) hq_35 ?_
  intro H locs ls hP hD hS hl
  refine lv_iload_n hx hb dX2_build_109 rfl (lv_at hl 1 rfl) ?_
  refine lv_iconst (v := (1 : Int32)) hx hb dX2_build_110 (by decide) ?_
  obtain ⟨k_41, ek_41, hf⟩ := jn_out hf
  have J_42 : ∀ (t_size_40 : Int32) (H : Heap) (locs : List Loc) (ls : Array Slot), va_P (dC, dI) vwCl [(h_t, .inr (2, [.ref h_t_chain, .ref h_t_x, .ref h_t_y, .ref h_t_sorted, .int t_size_40])), (h_t_chain, .inl (cI, 48, .inl t_chain_37)), (h_t_x, .inl (cI, 48, .inl t_x_38)), (h_t_y, .inl (cI, 48, .inl t_y_39)), (h_t_sorted, .inl (cI, 24, .inl t_sorted_13)), (h_p1, .inr (0, [.ref h_p1_x, .ref h_p1_y, .ref h_p1_colour, .ref h_p1_load, .int p1_size, .int p1_centreX, .int p1_centreY])), (h_p1_x, .inl (cI, 24, .inl p1_x)), (h_p1_y, .inl (cI, 24, .inl p1_y))] H → va_D A [(h_t, .inr (2, [.ref h_t_chain, .ref h_t_x, .ref h_t_y, .ref h_t_sorted, .int t_size_40])), (h_t_chain, .inl (cI, 48, .inl t_chain_37)), (h_t_x, .inl (cI, 48, .inl t_x_38)), (h_t_y, .inl (cI, 48, .inl t_y_39)), (h_t_sorted, .inl (cI, 24, .inl t_sorted_13)), (h_p1, .inr (0, [.ref h_p1_x, .ref h_p1_y, .ref h_p1_colour, .ref h_p1_load, .int p1_size, .int p1_centreX, .int p1_centreY])), (h_p1_x, .inl (cI, 24, .inl p1_x)), (h_p1_y, .inl (cI, 24, .inl p1_y))] → va_S A s.heap H locs → lv_has ls 6 [(0, .ref h_t)] → k_41 t_size_40 = some (o_t_size, o_t_chain, o_t_x, o_t_y, o_t_sorted) → W p l e (headSpec [Cond.code yX2_build cX2_build 6 none] ({ frames := 2, cells := 0, slots := 0, locals := 50 })).room s m ([.ref h_t, .ref h_p1, .int a2] : List Value).toArray below meth c H locs 0 0 (MQ below (cQv dC dI A [(h_t, .inr (2, [.ref h_t_chain, .ref h_t_x, .ref h_t_y, .ref h_t_sorted, .int o_t_size])), (h_t_chain, .inl (cI, 48, .inl o_t_chain)), (h_t_x, .inl (cI, 48, .inl o_t_x)), (h_t_y, .inl (cI, 48, .inl o_t_y)), (h_t_sorted, .inl (cI, 24, .inl o_t_sorted)), (h_p1, .inr (0, [.ref h_p1_x, .ref h_p1_y, .ref h_p1_colour, .ref h_p1_load, .int p1_size, .int p1_centreX, .int p1_centreY])), (h_p1_x, .inl (cI, 24, .inl p1_x)), (h_p1_y, .inl (cI, 24, .inl p1_y))]) ([.ref h_t, .ref h_p1, .int a2] : List Value).toArray s 0 0 A) (F0 m 124 ls []) := by
    intro t_size_40 H locs ls hP hD hS hl hf
    rw [ek_41] at hf
    try dsimp only at hf
    refine lv_aload_n hx hb dX2_build_124 rfl (lv_at hl 0 rfl) ?_
    refine va_get (D := (dC, dI)) (ci := 2) (v := .ref h_t_x) (C := RX2) (T := TX2) (N := 5) hx hb hts in_X2 hown hK hP 0 rfl rfl 1 (Nat.le_of_ble_eq_true rfl) (hts _ qf_X2_15) (fun _ h9 => h9) rfl dX2_build_125 ?_
    refine lv_aload_n hx hb dX2_build_128 rfl (lv_at hl 0 rfl) ?_
    refine va_get (D := (dC, dI)) (ci := 2) (v := .int t_size_40) (C := RX2) (T := TX2) (N := 5) hx hb hts in_X2 hown hK hP 0 rfl rfl 4 (Nat.le_of_ble_eq_true rfl) (hts _ qf_X2_38) (fun _ h9 => h9) rfl dX2_build_129 ?_
    refine lv_aload_n hx hb dX2_build_132 rfl (lv_at hl 0 rfl) ?_
    refine va_get (D := (dC, dI)) (ci := 2) (v := .ref h_t_x) (C := RX2) (T := TX2) (N := 5) hx hb hts in_X2 hown hK hP 0 rfl rfl 1 (Nat.le_of_ble_eq_true rfl) (hts _ qf_X2_15) (fun _ h9 => h9) rfl dX2_build_133 ?_
    refine lv_iconst (v := (0 : Int32)) hx hb dX2_build_136 (by decide) ?_
    refine va_iald hx hb hK hP 2 0 rfl rfl (inb_in (by decide)) dX2_build_137 ?_
    obtain ⟨hg_43, hf⟩ := gd_some hf
    obtain ⟨t_x_44, et_x_44⟩ : ∃ y : Nat → Int32, y = upd t_x_38 t_size_40.toNatClampNeg (t_x_38 (0 : Int32).toNatClampNeg) := ⟨_, rfl⟩
    replace hf := xl_at hf et_x_44
    refine xiast (w2 := [(h_t, .inr (2, [.ref h_t_chain, .ref h_t_x, .ref h_t_y, .ref h_t_sorted, .int t_size_40])), (h_t_chain, .inl (cI, 48, .inl t_chain_37)), (h_t_x, .inl (cI, 48, .inl t_x_44)), (h_t_y, .inl (cI, 48, .inl t_y_39)), (h_t_sorted, .inl (cI, 24, .inl t_sorted_13)), (h_p1, .inr (0, [.ref h_p1_x, .ref h_p1_y, .ref h_p1_colour, .ref h_p1_load, .int p1_size, .int p1_centreX, .int p1_centreY])), (h_p1_x, .inl (cI, 24, .inl p1_x)), (h_p1_y, .inl (cI, 24, .inl p1_y))]) hx hb hK hP hD hS 2 0 rfl rfl (inb_in hg_43) et_x_44 rfl dX2_build_138 (fun H locs hP hD hS => ?_)
    refine lv_aload_n hx hb dX2_build_139 rfl (lv_at hl 0 rfl) ?_
    refine va_get (D := (dC, dI)) (ci := 2) (v := .ref h_t_y) (C := RX2) (T := TX2) (N := 5) hx hb hts in_X2 hown hK hP 0 rfl rfl 2 (Nat.le_of_ble_eq_true rfl) (hts _ qf_X2_18) (fun _ h9 => h9) rfl dX2_build_140 ?_
    refine lv_aload_n hx hb dX2_build_143 rfl (lv_at hl 0 rfl) ?_
    refine va_get (D := (dC, dI)) (ci := 2) (v := .int t_size_40) (C := RX2) (T := TX2) (N := 5) hx hb hts in_X2 hown hK hP 0 rfl rfl 4 (Nat.le_of_ble_eq_true rfl) (hts _ qf_X2_38) (fun _ h9 => h9) rfl dX2_build_144 ?_
    refine lv_aload_n hx hb dX2_build_147 rfl (lv_at hl 0 rfl) ?_
    refine va_get (D := (dC, dI)) (ci := 2) (v := .ref h_t_y) (C := RX2) (T := TX2) (N := 5) hx hb hts in_X2 hown hK hP 0 rfl rfl 2 (Nat.le_of_ble_eq_true rfl) (hts _ qf_X2_18) (fun _ h9 => h9) rfl dX2_build_148 ?_
    refine lv_iconst (v := (0 : Int32)) hx hb dX2_build_151 (by decide) ?_
    refine va_iald hx hb hK hP 3 0 rfl rfl (inb_in (by decide)) dX2_build_152 ?_
    obtain ⟨hg_45, hf⟩ := gd_some hf
    obtain ⟨t_y_46, et_y_46⟩ : ∃ y : Nat → Int32, y = upd t_y_39 t_size_40.toNatClampNeg (t_y_39 (0 : Int32).toNatClampNeg) := ⟨_, rfl⟩
    replace hf := xl_at hf et_y_46
    refine xiast (w2 := [(h_t, .inr (2, [.ref h_t_chain, .ref h_t_x, .ref h_t_y, .ref h_t_sorted, .int t_size_40])), (h_t_chain, .inl (cI, 48, .inl t_chain_37)), (h_t_x, .inl (cI, 48, .inl t_x_44)), (h_t_y, .inl (cI, 48, .inl t_y_46)), (h_t_sorted, .inl (cI, 24, .inl t_sorted_13)), (h_p1, .inr (0, [.ref h_p1_x, .ref h_p1_y, .ref h_p1_colour, .ref h_p1_load, .int p1_size, .int p1_centreX, .int p1_centreY])), (h_p1_x, .inl (cI, 24, .inl p1_x)), (h_p1_y, .inl (cI, 24, .inl p1_y))]) hx hb hK hP hD hS 3 0 rfl rfl (inb_in hg_45) et_y_46 rfl dX2_build_153 (fun H locs hP hD hS => ?_)
    obtain ⟨rfl, rfl, rfl, rfl, rfl⟩ := o5 hf
    exact W.vret hx hb hr (fun t ht hW => ⟨⟨(), rfl, trivial, by rw [ht]; exact hP, hD⟩, hS.F ht⟩) hS.2.2 dX2_build_154
  refine lv_icmp_le (tgt := 124) hx hb dX2_build_111 (by decide) (fun hc => ?_) (fun hc => ?_)
  · replace hf := it_t (hc) hf
    exact J_42 t_size_36 H locs ls hP hD hS (lv_sub hl [0] rfl) hf
  · replace hf := it_f (hc) hf
    refine lv_aload_n hx hb dX2_build_114 rfl (lv_at hl 0 rfl) ?_
    refine lv_dup hx hb dX2_build_115 rfl ?_
    refine va_get (D := (dC, dI)) (ci := 2) (v := .int t_size_36) (C := RX2) (T := TX2) (N := 5) hx hb hts in_X2 hown hK hP 0 rfl rfl 4 (Nat.le_of_ble_eq_true rfl) (hts _ qf_X2_38) (fun _ h9 => h9) rfl dX2_build_116 ?_
    refine lv_iconst (v := (1 : Int32)) hx hb dX2_build_119 (by decide) ?_
    refine lv_isub hx hb dX2_build_120 ?_
    refine lv_topi (fun f_size_47 ef_size_47 => ?_)
    replace hf := xl_at hf ef_size_47
    refine xput (D := (dC, dI)) (ci := 2) (v := .int f_size_47) (C := RX2) (T := TX2) (N := 5) (w2 := [(h_t, .inr (2, [.ref h_t_chain, .ref h_t_x, .ref h_t_y, .ref h_t_sorted, .int f_size_47])), (h_t_chain, .inl (cI, 48, .inl t_chain_37)), (h_t_x, .inl (cI, 48, .inl t_x_38)), (h_t_y, .inl (cI, 48, .inl t_y_39)), (h_t_sorted, .inl (cI, 24, .inl t_sorted_13)), (h_p1, .inr (0, [.ref h_p1_x, .ref h_p1_y, .ref h_p1_colour, .ref h_p1_load, .int p1_size, .int p1_centreX, .int p1_centreY])), (h_p1_x, .inl (cI, 24, .inl p1_x)), (h_p1_y, .inl (cI, 24, .inl p1_y))]) hx hb hts in_X2 tyX2 tyX2_ok nmX2 hown hK hP hD hS 0 rfl rfl 4 (Nat.le_of_ble_eq_true rfl) (hts _ qf_X2_38) (fun _ h9 => h9) rfl rfl rfl (Nat.le_of_ble_eq_true rfl) rfl dX2_build_121 (fun H locs hP hD hS => ?_)
    exact J_42 f_size_47 H locs ls hP hD hS (lv_sub hl [0] rfl) hf
theorem dX11_corners_0 : decode cX11_corners 0 = .ok (.aload_n 0, 1) := by decide +kernel
theorem dX11_corners_1 : decode cX11_corners 1 = .ok (.getfield 12, 3) := by decide +kernel
theorem dX11_corners_4 : decode cX11_corners 4 = .ok (.iload_n 1, 1) := by decide +kernel
theorem dX11_corners_5 : decode cX11_corners 5 = .ok (.invokevirtual 152, 3) := by decide +kernel
theorem dX11_corners_8 : decode cX11_corners 8 = .ok (.ifCond .ne 6, 3) := by decide +kernel
theorem dX11_corners_11 : decode cX11_corners 11 = .ok (.bipush (-2), 2) := by decide +kernel
theorem dX11_corners_13 : decode cX11_corners 13 = .ok (.ireturn, 1) := by decide +kernel
theorem dX11_corners_14 : decode cX11_corners 14 = .ok (.aload_n 0, 1) := by decide +kernel
theorem dX11_corners_15 : decode cX11_corners 15 = .ok (.getfield 28, 3) := by decide +kernel
theorem dX11_corners_18 : decode cX11_corners 18 = .ok (.aload_n 0, 1) := by decide +kernel
theorem dX11_corners_19 : decode cX11_corners 19 = .ok (.getfield 12, 3) := by decide +kernel
theorem dX11_corners_22 : decode cX11_corners 22 = .ok (.iload_n 1, 1) := by decide +kernel
theorem dX11_corners_23 : decode cX11_corners 23 = .ok (.invokevirtual 155, 3) := by decide +kernel
theorem dX11_corners_26 : decode cX11_corners 26 = .ok (.aload_n 0, 1) := by decide +kernel
theorem dX11_corners_27 : decode cX11_corners 27 = .ok (.getfield 28, 3) := by decide +kernel
theorem dX11_corners_30 : decode cX11_corners 30 = .ok (.getfield 159, 3) := by decide +kernel
theorem dX11_corners_33 : decode cX11_corners 33 = .ok (.ireturn, 1) := by decide +kernel
set_option maxRecDepth 100000 in
set_option maxHeartbeats 4000000 in
theorem mtX11_corners (l : Launch) (dC : Nat → ClassId) (dI : Nat → Nat → Nat) (cI cL cB : ClassId) (K : Nat) (h_t h_t_cloud h_t_reader h_t_hull h_t_near h_t_firstTie h_t_reducer h_t_chooser h_t_pair h_t_divider h_t_depths h_t_spot h_t_cloud_x h_t_cloud_y h_t_cloud_colour h_t_cloud_load h_t_hull_chain h_t_hull_x h_t_hull_y h_t_hull_sorted : Nat) (sz : Nat) (t_cloud_size : Int32) (t_cloud_centreX : Int32) (t_cloud_centreY : Int32) (t_cloud_x : Nat → Int32) (t_cloud_y : Nat → Int32) (t_hull_size : Int32) (t_hull_chain : Nat → Int32) (t_hull_x : Nat → Int32) (t_hull_y : Nat → Int32) (t_hull_sorted : Nat → Int32) (a1 : Int32) (o_r : Int32) (o_t_hull_size : Int32) (o_t_hull_chain : Nat → Int32) (o_t_hull_x : Nat → Int32) (o_t_hull_y : Nat → Int32) (o_t_hull_sorted : Nat → Int32) (hf : fX11_corners K t_cloud_size t_cloud_x t_cloud_y t_hull_size t_hull_chain t_hull_x t_hull_y t_hull_sorted a1 = some (o_r, o_t_hull_size, o_t_hull_chain, o_t_hull_x, o_t_hull_y, o_t_hull_sorted)) : Met l yX11_corners [Cond.code yX11_corners cX11_corners 2 (some .int)] ({ frames := 3, cells := 0, slots := 0, locals := 75 }) (va_Pc [.ref h_t, .int a1] (cPre dC dI cI cL cB sz [(h_t, .inr (11, [.ref h_t_cloud, .ref h_t_reader, .ref h_t_hull, .ref h_t_near, .ref h_t_firstTie, .ref h_t_reducer, .ref h_t_chooser, .ref h_t_pair, .ref h_t_divider, .ref h_t_depths, .ref h_t_spot])), (h_t_cloud, .inr (0, [.ref h_t_cloud_x, .ref h_t_cloud_y, .ref h_t_cloud_colour, .ref h_t_cloud_load, .int t_cloud_size, .int t_cloud_centreX, .int t_cloud_centreY])), (h_t_cloud_x, .inl (cI, 24, .inl t_cloud_x)), (h_t_cloud_y, .inl (cI, 24, .inl t_cloud_y)), (h_t_hull, .inr (2, [.ref h_t_hull_chain, .ref h_t_hull_x, .ref h_t_hull_y, .ref h_t_hull_sorted, .int t_hull_size])), (h_t_hull_chain, .inl (cI, 48, .inl t_hull_chain)), (h_t_hull_x, .inl (cI, 48, .inl t_hull_x)), (h_t_hull_y, .inl (cI, 48, .inl t_hull_y)), (h_t_hull_sorted, .inl (cI, 24, .inl t_hull_sorted))])) (cQi dC dI (va_A [(h_t, .inr (11, [.ref h_t_cloud, .ref h_t_reader, .ref h_t_hull, .ref h_t_near, .ref h_t_firstTie, .ref h_t_reducer, .ref h_t_chooser, .ref h_t_pair, .ref h_t_divider, .ref h_t_depths, .ref h_t_spot])), (h_t_cloud, .inr (0, [.ref h_t_cloud_x, .ref h_t_cloud_y, .ref h_t_cloud_colour, .ref h_t_cloud_load, .int t_cloud_size, .int t_cloud_centreX, .int t_cloud_centreY])), (h_t_cloud_x, .inl (cI, 24, .inl t_cloud_x)), (h_t_cloud_y, .inl (cI, 24, .inl t_cloud_y)), (h_t_hull, .inr (2, [.ref h_t_hull_chain, .ref h_t_hull_x, .ref h_t_hull_y, .ref h_t_hull_sorted, .int t_hull_size])), (h_t_hull_chain, .inl (cI, 48, .inl t_hull_chain)), (h_t_hull_x, .inl (cI, 48, .inl t_hull_x)), (h_t_hull_y, .inl (cI, 48, .inl t_hull_y)), (h_t_hull_sorted, .inl (cI, 24, .inl t_hull_sorted))] sz) o_r [(h_t, .inr (11, [.ref h_t_cloud, .ref h_t_reader, .ref h_t_hull, .ref h_t_near, .ref h_t_firstTie, .ref h_t_reducer, .ref h_t_chooser, .ref h_t_pair, .ref h_t_divider, .ref h_t_depths, .ref h_t_spot])), (h_t_cloud, .inr (0, [.ref h_t_cloud_x, .ref h_t_cloud_y, .ref h_t_cloud_colour, .ref h_t_cloud_load, .int t_cloud_size, .int t_cloud_centreX, .int t_cloud_centreY])), (h_t_cloud_x, .inl (cI, 24, .inl t_cloud_x)), (h_t_cloud_y, .inl (cI, 24, .inl t_cloud_y)), (h_t_hull, .inr (2, [.ref h_t_hull_chain, .ref h_t_hull_x, .ref h_t_hull_y, .ref h_t_hull_sorted, .int o_t_hull_size])), (h_t_hull_chain, .inl (cI, 48, .inl o_t_hull_chain)), (h_t_hull_x, .inl (cI, 48, .inl o_t_hull_x)), (h_t_hull_y, .inl (cI, 48, .inl o_t_hull_y)), (h_t_hull_sorted, .inl (cI, 24, .inl o_t_hull_sorted))]) 0 0 (va_A [(h_t, .inr (11, [.ref h_t_cloud, .ref h_t_reader, .ref h_t_hull, .ref h_t_near, .ref h_t_firstTie, .ref h_t_reducer, .ref h_t_chooser, .ref h_t_pair, .ref h_t_divider, .ref h_t_depths, .ref h_t_spot])), (h_t_cloud, .inr (0, [.ref h_t_cloud_x, .ref h_t_cloud_y, .ref h_t_cloud_colour, .ref h_t_cloud_load, .int t_cloud_size, .int t_cloud_centreX, .int t_cloud_centreY])), (h_t_cloud_x, .inl (cI, 24, .inl t_cloud_x)), (h_t_cloud_y, .inl (cI, 24, .inl t_cloud_y)), (h_t_hull, .inr (2, [.ref h_t_hull_chain, .ref h_t_hull_x, .ref h_t_hull_y, .ref h_t_hull_sorted, .int t_hull_size])), (h_t_hull_chain, .inl (cI, 48, .inl t_hull_chain)), (h_t_hull_x, .inl (cI, 48, .inl t_hull_x)), (h_t_hull_y, .inl (cI, 48, .inl t_hull_y)), (h_t_hull_sorted, .inl (cI, 24, .inl t_hull_sorted))] sz) := by
  refine Met.ofW (cc := cX11_corners) (maxL := 2) (ret := (some .int)) (by decide) rfl ?_
  intro p e s m args below meth c s₁ B hml hv
  obtain ⟨rfl, hsz, hP, hK, hD0, hT⟩ := hv
  have hx := B.exec
  have hb := B.bytes
  have hr := B.returns
  have hown : s.vm.findClass RX11 = some m.cls := findClass_of_methodNamed B.named
  have hlocks := B.notSynchronized
  have hts := TB.use hT ([.ref h_t, .int a1] : List Value).toArray
  subst hsz
  have hD := hD0.self (sz := s.heap.size)
  generalize hAe : va_A [(h_t, .inr (11, [.ref h_t_cloud, .ref h_t_reader, .ref h_t_hull, .ref h_t_near, .ref h_t_firstTie, .ref h_t_reducer, .ref h_t_chooser, .ref h_t_pair, .ref h_t_divider, .ref h_t_depths, .ref h_t_spot])), (h_t_cloud, .inr (0, [.ref h_t_cloud_x, .ref h_t_cloud_y, .ref h_t_cloud_colour, .ref h_t_cloud_load, .int t_cloud_size, .int t_cloud_centreX, .int t_cloud_centreY])), (h_t_cloud_x, .inl (cI, 24, .inl t_cloud_x)), (h_t_cloud_y, .inl (cI, 24, .inl t_cloud_y)), (h_t_hull, .inr (2, [.ref h_t_hull_chain, .ref h_t_hull_x, .ref h_t_hull_y, .ref h_t_hull_sorted, .int t_hull_size])), (h_t_hull_chain, .inl (cI, 48, .inl t_hull_chain)), (h_t_hull_x, .inl (cI, 48, .inl t_hull_x)), (h_t_hull_y, .inl (cI, 48, .inl t_hull_y)), (h_t_hull_sorted, .inl (cI, 24, .inl t_hull_sorted))] s.heap.size = A at hD ⊢
  have hA : ∀ q : Nat, s.heap.size ≤ q → A q := fun q h => by rw [← hAe]; exact Or.inr h
  clear hAe hD0
  have hl := lv_entry ([.ref h_t, .int a1]) (n := 2) (Nat.le_of_ble_eq_true rfl)
  rw [lg_entry_eq]
  generalize (lg_sl ([.ref h_t, .int a1]) ++ List.replicate (2 - (lg_sl ([.ref h_t, .int a1])).length) Slot.unset).toArray = ls at hl ⊢
  have hl : lv_has ls 2 [(0, .ref h_t), (1, .int a1)] := hl
  have hF : 3 ≤ (headSpec [Cond.code yX11_corners cX11_corners 2 (some .int)] ({ frames := 3, cells := 0, slots := 0, locals := 75 })).room.frames := Nat.le_refl _
  have hLo : 75 ≤ (headSpec [Cond.code yX11_corners cX11_corners 2 (some .int)] ({ frames := 3, cells := 0, slots := 0, locals := 75 })).room.locals := Nat.le_refl _
  have C0 : Sx p (headSpec [Cond.code yX11_corners cX11_corners 2 (some .int)] ({ frames := 3, cells := 0, slots := 0, locals := 75 })).room s m ([.ref h_t, .int a1] : List Value).toArray c cX11_corners 2 RX11 A dC dI cI cL cB 3 75 := ⟨hx, hb, hml, hown, hts, hK, hT, hA, hF, hLo⟩
  refine startH (A := A) hP (fun H locs hP hS => ?_)
  rw [fX11_corners] at hf
  refine lv_aload_n hx hb dX11_corners_0 rfl (lv_at hl 0 rfl) ?_
  refine va_get (D := (dC, dI)) (ci := 11) (v := .ref h_t_cloud) (C := RX11) (T := TX11) (N := 11) hx hb hts in_X11 hown hK hP 0 rfl rfl 0 (Nat.le_of_ble_eq_true rfl) (hts _ qf_X11_12) (fun _ h9 => h9) rfl dX11_corners_1 ?_
  refine lv_iload_n hx hb dX11_corners_4 rfl (lv_at hl 1 rfl) ?_
  obtain ⟨r_1, hq_2, hf⟩ := b1_some hf
  refine xci (wr := [(h_t, .inr (11, [.ref h_t_cloud, .ref h_t_reader, .ref h_t_hull, .ref h_t_near, .ref h_t_firstTie, .ref h_t_reducer, .ref h_t_chooser, .ref h_t_pair, .ref h_t_divider, .ref h_t_depths, .ref h_t_spot])), (h_t_cloud_x, .inl (cI, 24, .inl t_cloud_x)), (h_t_cloud_y, .inl (cI, 24, .inl t_cloud_y)), (h_t_hull, .inr (2, [.ref h_t_hull_chain, .ref h_t_hull_x, .ref h_t_hull_y, .ref h_t_hull_sorted, .int t_hull_size])), (h_t_hull_chain, .inl (cI, 48, .inl t_hull_chain)), (h_t_hull_x, .inl (cI, 48, .inl t_hull_x)), (h_t_hull_y, .inl (cI, 48, .inl t_hull_y)), (h_t_hull_sorted, .inl (cI, 24, .inl t_hull_sorted))]) (w2 := [(h_t, .inr (11, [.ref h_t_cloud, .ref h_t_reader, .ref h_t_hull, .ref h_t_near, .ref h_t_firstTie, .ref h_t_reducer, .ref h_t_chooser, .ref h_t_pair, .ref h_t_divider, .ref h_t_depths, .ref h_t_spot])), (h_t_cloud, .inr (0, [.ref h_t_cloud_x, .ref h_t_cloud_y, .ref h_t_cloud_colour, .ref h_t_cloud_load, .int t_cloud_size, .int t_cloud_centreX, .int t_cloud_centreY])), (h_t_cloud_x, .inl (cI, 24, .inl t_cloud_x)), (h_t_cloud_y, .inl (cI, 24, .inl t_cloud_y)), (h_t_hull, .inr (2, [.ref h_t_hull_chain, .ref h_t_hull_x, .ref h_t_hull_y, .ref h_t_hull_sorted, .int t_hull_size])), (h_t_hull_chain, .inl (cI, 48, .inl t_hull_chain)), (h_t_hull_x, .inl (cI, 48, .inl t_hull_x)), (h_t_hull_y, .inl (cI, 48, .inl t_hull_y)), (h_t_hull_sorted, .inl (cI, 24, .inl t_hull_sorted))]) (va_runV (As := [.int a1]) (rest := []) ⟨hx, hb, hml, hown, hts⟩ (mtX0_hasSet l dC dI cI cL cB K h_t_cloud h_t_cloud_x h_t_cloud_y h_t_cloud_colour h_t_cloud_load H.size t_cloud_size t_cloud_centreX t_cloud_centreY a1 r_1 hq_2) (cwV 1 hts gv_X11_152 rfl rfl rfl hdV_X0_hasSet ⟨Nat.le_trans (Nat.le_of_ble_eq_true rfl) hF, Nat.le_trans (Nat.le_of_ble_eq_true rfl) hLo⟩) (cPreV hK hP hD hT [1] rfl rfl (ci := 0) (q0 := 0) rfl rfl) rfl rfl hl.1 rfl (lv_room (Nat.le_of_ble_eq_true rfl)) dX11_corners_5 ⟨Nat.zero_le _, Nat.zero_le _⟩) hP hD hS hA [1] [0, 2, 3, 4, 5, 6, 7, 8] [0, 8, 1, 2, 3, 4, 5, 6, 7] rfl rfl rfl rfl rfl rfl (fun H locs hP hD hS => ?_)
  refine lv_if_ne (tgt := 14) hx hb dX11_corners_8 (by decide) (fun hc => ?_) (fun hc => ?_)
  · replace hf := it_f (hc) hf
    refine lv_aload_n hx hb dX11_corners_14 rfl (lv_at hl 0 rfl) ?_
    refine va_get (D := (dC, dI)) (ci := 11) (v := .ref h_t_hull) (C := RX11) (T := TX11) (N := 11) hx hb hts in_X11 hown hK hP 0 rfl rfl 2 (Nat.le_of_ble_eq_true rfl) (hts _ qf_X11_28) (fun _ h9 => h9) rfl dX11_corners_15 ?_
    refine lv_aload_n hx hb dX11_corners_18 rfl (lv_at hl 0 rfl) ?_
    refine va_get (D := (dC, dI)) (ci := 11) (v := .ref h_t_cloud) (C := RX11) (T := TX11) (N := 11) hx hb hts in_X11 hown hK hP 0 rfl rfl 0 (Nat.le_of_ble_eq_true rfl) (hts _ qf_X11_12) (fun _ h9 => h9) rfl dX11_corners_19 ?_
    refine lv_iload_n hx hb dX11_corners_22 rfl (lv_at hl 1 rfl) ?_
    obtain ⟨t_hull_size_3, t_hull_chain_4, t_hull_x_5, t_hull_y_6, t_hull_sorted_7, hq_8, hf⟩ := b5_some hf
    refine xcv (wr := [(h_t, .inr (11, [.ref h_t_cloud, .ref h_t_reader, .ref h_t_hull, .ref h_t_near, .ref h_t_firstTie, .ref h_t_reducer, .ref h_t_chooser, .ref h_t_pair, .ref h_t_divider, .ref h_t_depths, .ref h_t_spot]))]) (w2 := [(h_t, .inr (11, [.ref h_t_cloud, .ref h_t_reader, .ref h_t_hull, .ref h_t_near, .ref h_t_firstTie, .ref h_t_reducer, .ref h_t_chooser, .ref h_t_pair, .ref h_t_divider, .ref h_t_depths, .ref h_t_spot])), (h_t_cloud, .inr (0, [.ref h_t_cloud_x, .ref h_t_cloud_y, .ref h_t_cloud_colour, .ref h_t_cloud_load, .int t_cloud_size, .int t_cloud_centreX, .int t_cloud_centreY])), (h_t_cloud_x, .inl (cI, 24, .inl t_cloud_x)), (h_t_cloud_y, .inl (cI, 24, .inl t_cloud_y)), (h_t_hull, .inr (2, [.ref h_t_hull_chain, .ref h_t_hull_x, .ref h_t_hull_y, .ref h_t_hull_sorted, .int t_hull_size_3])), (h_t_hull_chain, .inl (cI, 48, .inl t_hull_chain_4)), (h_t_hull_x, .inl (cI, 48, .inl t_hull_x_5)), (h_t_hull_y, .inl (cI, 48, .inl t_hull_y_6)), (h_t_hull_sorted, .inl (cI, 24, .inl t_hull_sorted_7))]) (va_runV (As := [.ref h_t_cloud, .int a1]) (rest := []) ⟨hx, hb, hml, hown, hts⟩ (mtX2_build l dC dI cI cL cB K h_t_hull h_t_hull_chain h_t_hull_x h_t_hull_y h_t_hull_sorted h_t_cloud h_t_cloud_x h_t_cloud_y h_t_cloud_colour h_t_cloud_load H.size t_hull_size t_hull_chain t_hull_x t_hull_y t_hull_sorted t_cloud_size t_cloud_centreX t_cloud_centreY t_cloud_x t_cloud_y a1 t_hull_size_3 t_hull_chain_4 t_hull_x_5 t_hull_y_6 t_hull_sorted_7 hq_8) (cwV 2 hts gv_X11_155 rfl rfl rfl hdV_X2_build ⟨Nat.le_trans (Nat.le_of_ble_eq_true rfl) hF, Nat.le_trans (Nat.le_of_ble_eq_true rfl) hLo⟩) (cPreV hK hP hD hT [4, 5, 6, 7, 8, 1, 2, 3] rfl rfl (ci := 2) (q0 := 0) rfl rfl) rfl rfl hl.1 rfl (lv_room (Nat.le_of_ble_eq_true rfl)) dX11_corners_23 ⟨Nat.zero_le _, Nat.zero_le _⟩) hP hD hS hA [4, 5, 6, 7, 8, 1, 2, 3] [0] [0, 6, 7, 8, 1, 2, 3, 4, 5] rfl rfl rfl rfl rfl rfl (fun H locs hP hD hS => ?_)
    refine lv_aload_n hx hb dX11_corners_26 rfl (lv_at hl 0 rfl) ?_
    refine va_get (D := (dC, dI)) (ci := 11) (v := .ref h_t_hull) (C := RX11) (T := TX11) (N := 11) hx hb hts in_X11 hown hK hP 0 rfl rfl 2 (Nat.le_of_ble_eq_true rfl) (hts _ qf_X11_28) (fun _ h9 => h9) rfl dX11_corners_27 ?_
    refine va_get (D := (dC, dI)) (ci := 2) (v := .int t_hull_size_3) (C := RX2) (T := TX2) (N := 5) hx hb hts in_X2 hown hK hP 4 rfl rfl 4 (Nat.le_of_ble_eq_true rfl) (hts _ qf_X11_159) (fun _ h9 => h9) rfl dX11_corners_30 ?_
    obtain ⟨rfl, rfl, rfl, rfl, rfl, rfl⟩ := o6 hf
    exact W.iret hx hb hr (fun t ht hW => ⟨⟨_, (), rfl, rfl, by rw [ht]; exact hP, hD⟩, hS.F ht⟩) hS.2.2 dX11_corners_33
  · replace hf := it_t (hc) hf
    refine lv_bipush (v := (-2 : Int32)) hx hb dX11_corners_11 (by decide) ?_
    obtain ⟨rfl, rfl, rfl, rfl, rfl, rfl⟩ := o6 hf
    exact W.iret hx hb hr (fun t ht hW => ⟨⟨_, (), rfl, rfl, by rw [ht]; exact hP, hD⟩, hS.F ht⟩) hS.2.2 dX11_corners_13
theorem dX11_corner_0 : decode cX11_corner 0 = .ok (.aload_n 0, 1) := by decide +kernel
theorem dX11_corner_1 : decode cX11_corner 1 = .ok (.getfield 12, 3) := by decide +kernel
theorem dX11_corner_4 : decode cX11_corner 4 = .ok (.iload_n 1, 1) := by decide +kernel
theorem dX11_corner_5 : decode cX11_corner 5 = .ok (.invokevirtual 152, 3) := by decide +kernel
theorem dX11_corner_8 : decode cX11_corner 8 = .ok (.ifCond .eq 7, 3) := by decide +kernel
theorem dX11_corner_11 : decode cX11_corner 11 = .ok (.iload_n 2, 1) := by decide +kernel
theorem dX11_corner_12 : decode cX11_corner 12 = .ok (.ifCond .ge 6, 3) := by decide +kernel
theorem dX11_corner_15 : decode cX11_corner 15 = .ok (.bipush (-2), 2) := by decide +kernel
theorem dX11_corner_17 : decode cX11_corner 17 = .ok (.ireturn, 1) := by decide +kernel
theorem dX11_corner_18 : decode cX11_corner 18 = .ok (.aload_n 0, 1) := by decide +kernel
theorem dX11_corner_19 : decode cX11_corner 19 = .ok (.getfield 28, 3) := by decide +kernel
theorem dX11_corner_22 : decode cX11_corner 22 = .ok (.aload_n 0, 1) := by decide +kernel
theorem dX11_corner_23 : decode cX11_corner 23 = .ok (.getfield 12, 3) := by decide +kernel
theorem dX11_corner_26 : decode cX11_corner 26 = .ok (.iload_n 1, 1) := by decide +kernel
theorem dX11_corner_27 : decode cX11_corner 27 = .ok (.invokevirtual 155, 3) := by decide +kernel
theorem dX11_corner_30 : decode cX11_corner 30 = .ok (.iload_n 2, 1) := by decide +kernel
theorem dX11_corner_31 : decode cX11_corner 31 = .ok (.aload_n 0, 1) := by decide +kernel
theorem dX11_corner_32 : decode cX11_corner 32 = .ok (.getfield 28, 3) := by decide +kernel
theorem dX11_corner_35 : decode cX11_corner 35 = .ok (.getfield 159, 3) := by decide +kernel
theorem dX11_corner_38 : decode cX11_corner 38 = .ok (.if_icmp .ge 15, 3) := by decide +kernel
theorem dX11_corner_41 : decode cX11_corner 41 = .ok (.aload_n 0, 1) := by decide +kernel
theorem dX11_corner_42 : decode cX11_corner 42 = .ok (.getfield 28, 3) := by decide +kernel
theorem dX11_corner_45 : decode cX11_corner 45 = .ok (.getfield 160, 3) := by decide +kernel
theorem dX11_corner_48 : decode cX11_corner 48 = .ok (.iload_n 2, 1) := by decide +kernel
theorem dX11_corner_49 : decode cX11_corner 49 = .ok (.iaload, 1) := by decide +kernel
theorem dX11_corner_50 : decode cX11_corner 50 = .ok (.goto 4, 3) := by decide +kernel
theorem dX11_corner_53 : decode cX11_corner 53 = .ok (.iconst (-1), 1) := by decide +kernel
theorem dX11_corner_54 : decode cX11_corner 54 = .ok (.ireturn, 1) := by decide +kernel
set_option maxRecDepth 100000 in
set_option maxHeartbeats 4000000 in
theorem mtX11_corner (l : Launch) (dC : Nat → ClassId) (dI : Nat → Nat → Nat) (cI cL cB : ClassId) (K : Nat) (h_t h_t_cloud h_t_reader h_t_hull h_t_near h_t_firstTie h_t_reducer h_t_chooser h_t_pair h_t_divider h_t_depths h_t_spot h_t_cloud_x h_t_cloud_y h_t_cloud_colour h_t_cloud_load h_t_hull_chain h_t_hull_x h_t_hull_y h_t_hull_sorted : Nat) (sz : Nat) (t_cloud_size : Int32) (t_cloud_centreX : Int32) (t_cloud_centreY : Int32) (t_cloud_x : Nat → Int32) (t_cloud_y : Nat → Int32) (t_hull_size : Int32) (t_hull_chain : Nat → Int32) (t_hull_x : Nat → Int32) (t_hull_y : Nat → Int32) (t_hull_sorted : Nat → Int32) (a1 : Int32) (a2 : Int32) (o_r : Int32) (o_t_hull_size : Int32) (o_t_hull_chain : Nat → Int32) (o_t_hull_x : Nat → Int32) (o_t_hull_y : Nat → Int32) (o_t_hull_sorted : Nat → Int32) (hf : fX11_corner K t_cloud_size t_cloud_x t_cloud_y t_hull_size t_hull_chain t_hull_x t_hull_y t_hull_sorted a1 a2 = some (o_r, o_t_hull_size, o_t_hull_chain, o_t_hull_x, o_t_hull_y, o_t_hull_sorted)) : Met l yX11_corner [Cond.code yX11_corner cX11_corner 3 (some .int)] ({ frames := 3, cells := 0, slots := 0, locals := 75 }) (va_Pc [.ref h_t, .int a1, .int a2] (cPre dC dI cI cL cB sz [(h_t, .inr (11, [.ref h_t_cloud, .ref h_t_reader, .ref h_t_hull, .ref h_t_near, .ref h_t_firstTie, .ref h_t_reducer, .ref h_t_chooser, .ref h_t_pair, .ref h_t_divider, .ref h_t_depths, .ref h_t_spot])), (h_t_cloud, .inr (0, [.ref h_t_cloud_x, .ref h_t_cloud_y, .ref h_t_cloud_colour, .ref h_t_cloud_load, .int t_cloud_size, .int t_cloud_centreX, .int t_cloud_centreY])), (h_t_cloud_x, .inl (cI, 24, .inl t_cloud_x)), (h_t_cloud_y, .inl (cI, 24, .inl t_cloud_y)), (h_t_hull, .inr (2, [.ref h_t_hull_chain, .ref h_t_hull_x, .ref h_t_hull_y, .ref h_t_hull_sorted, .int t_hull_size])), (h_t_hull_chain, .inl (cI, 48, .inl t_hull_chain)), (h_t_hull_x, .inl (cI, 48, .inl t_hull_x)), (h_t_hull_y, .inl (cI, 48, .inl t_hull_y)), (h_t_hull_sorted, .inl (cI, 24, .inl t_hull_sorted))])) (cQi dC dI (va_A [(h_t, .inr (11, [.ref h_t_cloud, .ref h_t_reader, .ref h_t_hull, .ref h_t_near, .ref h_t_firstTie, .ref h_t_reducer, .ref h_t_chooser, .ref h_t_pair, .ref h_t_divider, .ref h_t_depths, .ref h_t_spot])), (h_t_cloud, .inr (0, [.ref h_t_cloud_x, .ref h_t_cloud_y, .ref h_t_cloud_colour, .ref h_t_cloud_load, .int t_cloud_size, .int t_cloud_centreX, .int t_cloud_centreY])), (h_t_cloud_x, .inl (cI, 24, .inl t_cloud_x)), (h_t_cloud_y, .inl (cI, 24, .inl t_cloud_y)), (h_t_hull, .inr (2, [.ref h_t_hull_chain, .ref h_t_hull_x, .ref h_t_hull_y, .ref h_t_hull_sorted, .int t_hull_size])), (h_t_hull_chain, .inl (cI, 48, .inl t_hull_chain)), (h_t_hull_x, .inl (cI, 48, .inl t_hull_x)), (h_t_hull_y, .inl (cI, 48, .inl t_hull_y)), (h_t_hull_sorted, .inl (cI, 24, .inl t_hull_sorted))] sz) o_r [(h_t, .inr (11, [.ref h_t_cloud, .ref h_t_reader, .ref h_t_hull, .ref h_t_near, .ref h_t_firstTie, .ref h_t_reducer, .ref h_t_chooser, .ref h_t_pair, .ref h_t_divider, .ref h_t_depths, .ref h_t_spot])), (h_t_cloud, .inr (0, [.ref h_t_cloud_x, .ref h_t_cloud_y, .ref h_t_cloud_colour, .ref h_t_cloud_load, .int t_cloud_size, .int t_cloud_centreX, .int t_cloud_centreY])), (h_t_cloud_x, .inl (cI, 24, .inl t_cloud_x)), (h_t_cloud_y, .inl (cI, 24, .inl t_cloud_y)), (h_t_hull, .inr (2, [.ref h_t_hull_chain, .ref h_t_hull_x, .ref h_t_hull_y, .ref h_t_hull_sorted, .int o_t_hull_size])), (h_t_hull_chain, .inl (cI, 48, .inl o_t_hull_chain)), (h_t_hull_x, .inl (cI, 48, .inl o_t_hull_x)), (h_t_hull_y, .inl (cI, 48, .inl o_t_hull_y)), (h_t_hull_sorted, .inl (cI, 24, .inl o_t_hull_sorted))]) 0 0 (va_A [(h_t, .inr (11, [.ref h_t_cloud, .ref h_t_reader, .ref h_t_hull, .ref h_t_near, .ref h_t_firstTie, .ref h_t_reducer, .ref h_t_chooser, .ref h_t_pair, .ref h_t_divider, .ref h_t_depths, .ref h_t_spot])), (h_t_cloud, .inr (0, [.ref h_t_cloud_x, .ref h_t_cloud_y, .ref h_t_cloud_colour, .ref h_t_cloud_load, .int t_cloud_size, .int t_cloud_centreX, .int t_cloud_centreY])), (h_t_cloud_x, .inl (cI, 24, .inl t_cloud_x)), (h_t_cloud_y, .inl (cI, 24, .inl t_cloud_y)), (h_t_hull, .inr (2, [.ref h_t_hull_chain, .ref h_t_hull_x, .ref h_t_hull_y, .ref h_t_hull_sorted, .int t_hull_size])), (h_t_hull_chain, .inl (cI, 48, .inl t_hull_chain)), (h_t_hull_x, .inl (cI, 48, .inl t_hull_x)), (h_t_hull_y, .inl (cI, 48, .inl t_hull_y)), (h_t_hull_sorted, .inl (cI, 24, .inl t_hull_sorted))] sz) := by
  refine Met.ofW (cc := cX11_corner) (maxL := 3) (ret := (some .int)) (by decide) rfl ?_
  intro p e s m args below meth c s₁ B hml hv
  obtain ⟨rfl, hsz, hP, hK, hD0, hT⟩ := hv
  have hx := B.exec
  have hb := B.bytes
  have hr := B.returns
  have hown : s.vm.findClass RX11 = some m.cls := findClass_of_methodNamed B.named
  have hlocks := B.notSynchronized
  have hts := TB.use hT ([.ref h_t, .int a1, .int a2] : List Value).toArray
  subst hsz
  have hD := hD0.self (sz := s.heap.size)
  generalize hAe : va_A [(h_t, .inr (11, [.ref h_t_cloud, .ref h_t_reader, .ref h_t_hull, .ref h_t_near, .ref h_t_firstTie, .ref h_t_reducer, .ref h_t_chooser, .ref h_t_pair, .ref h_t_divider, .ref h_t_depths, .ref h_t_spot])), (h_t_cloud, .inr (0, [.ref h_t_cloud_x, .ref h_t_cloud_y, .ref h_t_cloud_colour, .ref h_t_cloud_load, .int t_cloud_size, .int t_cloud_centreX, .int t_cloud_centreY])), (h_t_cloud_x, .inl (cI, 24, .inl t_cloud_x)), (h_t_cloud_y, .inl (cI, 24, .inl t_cloud_y)), (h_t_hull, .inr (2, [.ref h_t_hull_chain, .ref h_t_hull_x, .ref h_t_hull_y, .ref h_t_hull_sorted, .int t_hull_size])), (h_t_hull_chain, .inl (cI, 48, .inl t_hull_chain)), (h_t_hull_x, .inl (cI, 48, .inl t_hull_x)), (h_t_hull_y, .inl (cI, 48, .inl t_hull_y)), (h_t_hull_sorted, .inl (cI, 24, .inl t_hull_sorted))] s.heap.size = A at hD ⊢
  have hA : ∀ q : Nat, s.heap.size ≤ q → A q := fun q h => by rw [← hAe]; exact Or.inr h
  clear hAe hD0
  have hl := lv_entry ([.ref h_t, .int a1, .int a2]) (n := 3) (Nat.le_of_ble_eq_true rfl)
  rw [lg_entry_eq]
  generalize (lg_sl ([.ref h_t, .int a1, .int a2]) ++ List.replicate (3 - (lg_sl ([.ref h_t, .int a1, .int a2])).length) Slot.unset).toArray = ls at hl ⊢
  have hl : lv_has ls 3 [(0, .ref h_t), (1, .int a1), (2, .int a2)] := hl
  have hF : 3 ≤ (headSpec [Cond.code yX11_corner cX11_corner 3 (some .int)] ({ frames := 3, cells := 0, slots := 0, locals := 75 })).room.frames := Nat.le_refl _
  have hLo : 75 ≤ (headSpec [Cond.code yX11_corner cX11_corner 3 (some .int)] ({ frames := 3, cells := 0, slots := 0, locals := 75 })).room.locals := Nat.le_refl _
  have C0 : Sx p (headSpec [Cond.code yX11_corner cX11_corner 3 (some .int)] ({ frames := 3, cells := 0, slots := 0, locals := 75 })).room s m ([.ref h_t, .int a1, .int a2] : List Value).toArray c cX11_corner 3 RX11 A dC dI cI cL cB 3 75 := ⟨hx, hb, hml, hown, hts, hK, hT, hA, hF, hLo⟩
  refine startH (A := A) hP (fun H locs hP hS => ?_)
  rw [fX11_corner] at hf
  refine lv_aload_n hx hb dX11_corner_0 rfl (lv_at hl 0 rfl) ?_
  refine va_get (D := (dC, dI)) (ci := 11) (v := .ref h_t_cloud) (C := RX11) (T := TX11) (N := 11) hx hb hts in_X11 hown hK hP 0 rfl rfl 0 (Nat.le_of_ble_eq_true rfl) (hts _ qf_X11_12) (fun _ h9 => h9) rfl dX11_corner_1 ?_
  refine lv_iload_n hx hb dX11_corner_4 rfl (lv_at hl 1 rfl) ?_
  obtain ⟨r_1, hq_2, hf⟩ := b1_some hf
  refine xci (wr := [(h_t, .inr (11, [.ref h_t_cloud, .ref h_t_reader, .ref h_t_hull, .ref h_t_near, .ref h_t_firstTie, .ref h_t_reducer, .ref h_t_chooser, .ref h_t_pair, .ref h_t_divider, .ref h_t_depths, .ref h_t_spot])), (h_t_cloud_x, .inl (cI, 24, .inl t_cloud_x)), (h_t_cloud_y, .inl (cI, 24, .inl t_cloud_y)), (h_t_hull, .inr (2, [.ref h_t_hull_chain, .ref h_t_hull_x, .ref h_t_hull_y, .ref h_t_hull_sorted, .int t_hull_size])), (h_t_hull_chain, .inl (cI, 48, .inl t_hull_chain)), (h_t_hull_x, .inl (cI, 48, .inl t_hull_x)), (h_t_hull_y, .inl (cI, 48, .inl t_hull_y)), (h_t_hull_sorted, .inl (cI, 24, .inl t_hull_sorted))]) (w2 := [(h_t, .inr (11, [.ref h_t_cloud, .ref h_t_reader, .ref h_t_hull, .ref h_t_near, .ref h_t_firstTie, .ref h_t_reducer, .ref h_t_chooser, .ref h_t_pair, .ref h_t_divider, .ref h_t_depths, .ref h_t_spot])), (h_t_cloud, .inr (0, [.ref h_t_cloud_x, .ref h_t_cloud_y, .ref h_t_cloud_colour, .ref h_t_cloud_load, .int t_cloud_size, .int t_cloud_centreX, .int t_cloud_centreY])), (h_t_cloud_x, .inl (cI, 24, .inl t_cloud_x)), (h_t_cloud_y, .inl (cI, 24, .inl t_cloud_y)), (h_t_hull, .inr (2, [.ref h_t_hull_chain, .ref h_t_hull_x, .ref h_t_hull_y, .ref h_t_hull_sorted, .int t_hull_size])), (h_t_hull_chain, .inl (cI, 48, .inl t_hull_chain)), (h_t_hull_x, .inl (cI, 48, .inl t_hull_x)), (h_t_hull_y, .inl (cI, 48, .inl t_hull_y)), (h_t_hull_sorted, .inl (cI, 24, .inl t_hull_sorted))]) (va_runV (As := [.int a1]) (rest := []) ⟨hx, hb, hml, hown, hts⟩ (mtX0_hasSet l dC dI cI cL cB K h_t_cloud h_t_cloud_x h_t_cloud_y h_t_cloud_colour h_t_cloud_load H.size t_cloud_size t_cloud_centreX t_cloud_centreY a1 r_1 hq_2) (cwV 1 hts gv_X11_152 rfl rfl rfl hdV_X0_hasSet ⟨Nat.le_trans (Nat.le_of_ble_eq_true rfl) hF, Nat.le_trans (Nat.le_of_ble_eq_true rfl) hLo⟩) (cPreV hK hP hD hT [1] rfl rfl (ci := 0) (q0 := 0) rfl rfl) rfl rfl hl.1 rfl (lv_room (Nat.le_of_ble_eq_true rfl)) dX11_corner_5 ⟨Nat.zero_le _, Nat.zero_le _⟩) hP hD hS hA [1] [0, 2, 3, 4, 5, 6, 7, 8] [0, 8, 1, 2, 3, 4, 5, 6, 7] rfl rfl rfl rfl rfl rfl (fun H locs hP hD hS => ?_)
  refine lv_if_eq (tgt := 15) hx hb dX11_corner_8 (by decide) (fun hc => ?_) (fun hc => ?_)
  · replace hf := it_t (hc) hf
    refine lv_bipush (v := (-2 : Int32)) hx hb dX11_corner_15 (by decide) ?_
    obtain ⟨rfl, rfl, rfl, rfl, rfl, rfl⟩ := o6 hf
    exact W.iret hx hb hr (fun t ht hW => ⟨⟨_, (), rfl, rfl, by rw [ht]; exact hP, hD⟩, hS.F ht⟩) hS.2.2 dX11_corner_17
  · replace hf := it_f (hc) hf
    refine lv_iload_n hx hb dX11_corner_11 rfl (lv_at hl 2 rfl) ?_
    refine lv_if_ge (tgt := 18) hx hb dX11_corner_12 (by decide) (fun hc => ?_) (fun hc => ?_)
    · replace hf := it_t (hc) hf
      refine lv_aload_n hx hb dX11_corner_18 rfl (lv_at hl 0 rfl) ?_
      refine va_get (D := (dC, dI)) (ci := 11) (v := .ref h_t_hull) (C := RX11) (T := TX11) (N := 11) hx hb hts in_X11 hown hK hP 0 rfl rfl 2 (Nat.le_of_ble_eq_true rfl) (hts _ qf_X11_28) (fun _ h9 => h9) rfl dX11_corner_19 ?_
      refine lv_aload_n hx hb dX11_corner_22 rfl (lv_at hl 0 rfl) ?_
      refine va_get (D := (dC, dI)) (ci := 11) (v := .ref h_t_cloud) (C := RX11) (T := TX11) (N := 11) hx hb hts in_X11 hown hK hP 0 rfl rfl 0 (Nat.le_of_ble_eq_true rfl) (hts _ qf_X11_12) (fun _ h9 => h9) rfl dX11_corner_23 ?_
      refine lv_iload_n hx hb dX11_corner_26 rfl (lv_at hl 1 rfl) ?_
      obtain ⟨t_hull_size_3, t_hull_chain_4, t_hull_x_5, t_hull_y_6, t_hull_sorted_7, hq_8, hf⟩ := b5_some hf
      refine xcv (wr := [(h_t, .inr (11, [.ref h_t_cloud, .ref h_t_reader, .ref h_t_hull, .ref h_t_near, .ref h_t_firstTie, .ref h_t_reducer, .ref h_t_chooser, .ref h_t_pair, .ref h_t_divider, .ref h_t_depths, .ref h_t_spot]))]) (w2 := [(h_t, .inr (11, [.ref h_t_cloud, .ref h_t_reader, .ref h_t_hull, .ref h_t_near, .ref h_t_firstTie, .ref h_t_reducer, .ref h_t_chooser, .ref h_t_pair, .ref h_t_divider, .ref h_t_depths, .ref h_t_spot])), (h_t_cloud, .inr (0, [.ref h_t_cloud_x, .ref h_t_cloud_y, .ref h_t_cloud_colour, .ref h_t_cloud_load, .int t_cloud_size, .int t_cloud_centreX, .int t_cloud_centreY])), (h_t_cloud_x, .inl (cI, 24, .inl t_cloud_x)), (h_t_cloud_y, .inl (cI, 24, .inl t_cloud_y)), (h_t_hull, .inr (2, [.ref h_t_hull_chain, .ref h_t_hull_x, .ref h_t_hull_y, .ref h_t_hull_sorted, .int t_hull_size_3])), (h_t_hull_chain, .inl (cI, 48, .inl t_hull_chain_4)), (h_t_hull_x, .inl (cI, 48, .inl t_hull_x_5)), (h_t_hull_y, .inl (cI, 48, .inl t_hull_y_6)), (h_t_hull_sorted, .inl (cI, 24, .inl t_hull_sorted_7))]) (va_runV (As := [.ref h_t_cloud, .int a1]) (rest := []) ⟨hx, hb, hml, hown, hts⟩ (mtX2_build l dC dI cI cL cB K h_t_hull h_t_hull_chain h_t_hull_x h_t_hull_y h_t_hull_sorted h_t_cloud h_t_cloud_x h_t_cloud_y h_t_cloud_colour h_t_cloud_load H.size t_hull_size t_hull_chain t_hull_x t_hull_y t_hull_sorted t_cloud_size t_cloud_centreX t_cloud_centreY t_cloud_x t_cloud_y a1 t_hull_size_3 t_hull_chain_4 t_hull_x_5 t_hull_y_6 t_hull_sorted_7 hq_8) (cwV 2 hts gv_X11_155 rfl rfl rfl hdV_X2_build ⟨Nat.le_trans (Nat.le_of_ble_eq_true rfl) hF, Nat.le_trans (Nat.le_of_ble_eq_true rfl) hLo⟩) (cPreV hK hP hD hT [4, 5, 6, 7, 8, 1, 2, 3] rfl rfl (ci := 2) (q0 := 0) rfl rfl) rfl rfl hl.1 rfl (lv_room (Nat.le_of_ble_eq_true rfl)) dX11_corner_27 ⟨Nat.zero_le _, Nat.zero_le _⟩) hP hD hS hA [4, 5, 6, 7, 8, 1, 2, 3] [0] [0, 6, 7, 8, 1, 2, 3, 4, 5] rfl rfl rfl rfl rfl rfl (fun H locs hP hD hS => ?_)
      refine lv_iload_n hx hb dX11_corner_30 rfl (lv_at hl 2 rfl) ?_
      refine lv_aload_n hx hb dX11_corner_31 rfl (lv_at hl 0 rfl) ?_
      refine va_get (D := (dC, dI)) (ci := 11) (v := .ref h_t_hull) (C := RX11) (T := TX11) (N := 11) hx hb hts in_X11 hown hK hP 0 rfl rfl 2 (Nat.le_of_ble_eq_true rfl) (hts _ qf_X11_28) (fun _ h9 => h9) rfl dX11_corner_32 ?_
      refine va_get (D := (dC, dI)) (ci := 2) (v := .int t_hull_size_3) (C := RX2) (T := TX2) (N := 5) hx hb hts in_X2 hown hK hP 4 rfl rfl 4 (Nat.le_of_ble_eq_true rfl) (hts _ qf_X11_159) (fun _ h9 => h9) rfl dX11_corner_35 ?_
      refine lv_icmp_ge (tgt := 53) hx hb dX11_corner_38 (by decide) (fun hc => ?_) (fun hc => ?_)
      · replace hf := it_t (hc) hf
        refine lv_iconst (v := (-1 : Int32)) hx hb dX11_corner_53 (by decide) ?_
        obtain ⟨rfl, rfl, rfl, rfl, rfl, rfl⟩ := o6 hf
        exact W.iret hx hb hr (fun t ht hW => ⟨⟨_, (), rfl, rfl, by rw [ht]; exact hP, hD⟩, hS.F ht⟩) hS.2.2 dX11_corner_54
      · replace hf := it_f (hc) hf
        refine lv_aload_n hx hb dX11_corner_41 rfl (lv_at hl 0 rfl) ?_
        refine va_get (D := (dC, dI)) (ci := 11) (v := .ref h_t_hull) (C := RX11) (T := TX11) (N := 11) hx hb hts in_X11 hown hK hP 0 rfl rfl 2 (Nat.le_of_ble_eq_true rfl) (hts _ qf_X11_28) (fun _ h9 => h9) rfl dX11_corner_42 ?_
        refine va_get (D := (dC, dI)) (ci := 2) (v := .ref h_t_hull_chain) (C := RX2) (T := TX2) (N := 5) hx hb hts in_X2 hown hK hP 4 rfl rfl 0 (Nat.le_of_ble_eq_true rfl) (hts _ qf_X11_160) (fun _ h9 => h9) rfl dX11_corner_45 ?_
        refine lv_iload_n hx hb dX11_corner_48 rfl (lv_at hl 2 rfl) ?_
        obtain ⟨hg_9, hf⟩ := gd_some hf
        refine va_iald hx hb hK hP 5 0 rfl rfl (inb_in hg_9) dX11_corner_49 ?_
        refine lv_goto (tgt := 54) hx hb dX11_corner_50 (by decide) ?_
        obtain ⟨rfl, rfl, rfl, rfl, rfl, rfl⟩ := o6 hf
        exact W.iret hx hb hr (fun t ht hW => ⟨⟨_, (), rfl, rfl, by rw [ht]; exact hP, hD⟩, hS.F ht⟩) hS.2.2 dX11_corner_54
    · replace hf := it_f (hc) hf
      refine lv_bipush (v := (-2 : Int32)) hx hb dX11_corner_15 (by decide) ?_
      obtain ⟨rfl, rfl, rfl, rfl, rfl, rfl⟩ := o6 hf
      exact W.iret hx hb hr (fun t ht hW => ⟨⟨_, (), rfl, rfl, by rw [ht]; exact hP, hD⟩, hS.F ht⟩) hS.2.2 dX11_corner_17
theorem dX2_doubleArea_0 : decode cX2_doubleArea 0 = .ok (.iconst 0, 1) := by decide +kernel
theorem dX2_doubleArea_1 : decode cX2_doubleArea 1 = .ok (.istore_n 1, 1) := by decide +kernel
theorem dX2_doubleArea_2 : decode cX2_doubleArea 2 = .ok (.iconst 0, 1) := by decide +kernel
theorem dX2_doubleArea_3 : decode cX2_doubleArea 3 = .ok (.istore_n 2, 1) := by decide +kernel
theorem dX2_doubleArea_4 : decode cX2_doubleArea 4 = .ok (.iload_n 2, 1) := by decide +kernel
theorem dX2_doubleArea_5 : decode cX2_doubleArea 5 = .ok (.aload_n 0, 1) := by decide +kernel
theorem dX2_doubleArea_6 : decode cX2_doubleArea 6 = .ok (.getfield 38, 3) := by decide +kernel
theorem dX2_doubleArea_9 : decode cX2_doubleArea 9 = .ok (.if_icmp .ge 43, 3) := by decide +kernel
theorem dX2_doubleArea_12 : decode cX2_doubleArea 12 = .ok (.iload_n 1, 1) := by decide +kernel
theorem dX2_doubleArea_13 : decode cX2_doubleArea 13 = .ok (.aload_n 0, 1) := by decide +kernel
theorem dX2_doubleArea_14 : decode cX2_doubleArea 14 = .ok (.getfield 15, 3) := by decide +kernel
theorem dX2_doubleArea_17 : decode cX2_doubleArea 17 = .ok (.iload_n 2, 1) := by decide +kernel
theorem dX2_doubleArea_18 : decode cX2_doubleArea 18 = .ok (.iaload, 1) := by decide +kernel
theorem dX2_doubleArea_19 : decode cX2_doubleArea 19 = .ok (.aload_n 0, 1) := by decide +kernel
theorem dX2_doubleArea_20 : decode cX2_doubleArea 20 = .ok (.getfield 18, 3) := by decide +kernel
theorem dX2_doubleArea_23 : decode cX2_doubleArea 23 = .ok (.iload_n 2, 1) := by decide +kernel
theorem dX2_doubleArea_24 : decode cX2_doubleArea 24 = .ok (.iconst 1, 1) := by decide +kernel
theorem dX2_doubleArea_25 : decode cX2_doubleArea 25 = .ok (.iadd, 1) := by decide +kernel
theorem dX2_doubleArea_26 : decode cX2_doubleArea 26 = .ok (.iaload, 1) := by decide +kernel
theorem dX2_doubleArea_27 : decode cX2_doubleArea 27 = .ok (.imul, 1) := by decide +kernel
theorem dX2_doubleArea_28 : decode cX2_doubleArea 28 = .ok (.aload_n 0, 1) := by decide +kernel
theorem dX2_doubleArea_29 : decode cX2_doubleArea 29 = .ok (.getfield 18, 3) := by decide +kernel
theorem dX2_doubleArea_32 : decode cX2_doubleArea 32 = .ok (.iload_n 2, 1) := by decide +kernel
theorem dX2_doubleArea_33 : decode cX2_doubleArea 33 = .ok (.iaload, 1) := by decide +kernel
theorem dX2_doubleArea_34 : decode cX2_doubleArea 34 = .ok (.aload_n 0, 1) := by decide +kernel
theorem dX2_doubleArea_35 : decode cX2_doubleArea 35 = .ok (.getfield 15, 3) := by decide +kernel
theorem dX2_doubleArea_38 : decode cX2_doubleArea 38 = .ok (.iload_n 2, 1) := by decide +kernel
theorem dX2_doubleArea_39 : decode cX2_doubleArea 39 = .ok (.iconst 1, 1) := by decide +kernel
theorem dX2_doubleArea_40 : decode cX2_doubleArea 40 = .ok (.iadd, 1) := by decide +kernel
theorem dX2_doubleArea_41 : decode cX2_doubleArea 41 = .ok (.iaload, 1) := by decide +kernel
theorem dX2_doubleArea_42 : decode cX2_doubleArea 42 = .ok (.imul, 1) := by decide +kernel
theorem dX2_doubleArea_43 : decode cX2_doubleArea 43 = .ok (.isub, 1) := by decide +kernel
theorem dX2_doubleArea_44 : decode cX2_doubleArea 44 = .ok (.iadd, 1) := by decide +kernel
theorem dX2_doubleArea_45 : decode cX2_doubleArea 45 = .ok (.istore_n 1, 1) := by decide +kernel
theorem dX2_doubleArea_46 : decode cX2_doubleArea 46 = .ok (.iinc 2 1, 3) := by decide +kernel
theorem dX2_doubleArea_49 : decode cX2_doubleArea 49 = .ok (.goto (-45), 3) := by decide +kernel
theorem dX2_doubleArea_52 : decode cX2_doubleArea 52 = .ok (.iload_n 1, 1) := by decide +kernel
theorem dX2_doubleArea_53 : decode cX2_doubleArea 53 = .ok (.ireturn, 1) := by decide +kernel
set_option maxRecDepth 100000 in
set_option maxHeartbeats 4000000 in
theorem wX2_doubleArea_L4 {p : Program} {l : Launch} {e : Env} {R : Room} {s : State} {m : MethodId} {args : Array Value} {below : List Frame} {meth : Method} {c : Code} {Q : State → Prop} {A : Nat → Prop} {dC : Nat → ClassId} {dI : Nat → Nat → Nat} {cI cL cB : ClassId} {K : Nat} (C0 : Sx p R s m args c cX2_doubleArea 3 RX2 A dC dI cI cL cB 0 0) (h_t h_t_chain h_t_x h_t_y h_t_sorted : Nat) (t_size : Int32) (t_x : Nat → Int32) (t_y : Nat → Int32) : ∀ (n : Nat) (l1 : Int32) (l2 : Int32) (x1_ : Int32) (H : Heap) (locs : List Loc) (ls : Array Slot), va_P (dC, dI) vwCl [(h_t, .inr (2, [.ref h_t_chain, .ref h_t_x, .ref h_t_y, .ref h_t_sorted, .int t_size])), (h_t_x, .inl (cI, 48, .inl t_x)), (h_t_y, .inl (cI, 48, .inl t_y))] H → va_D A [(h_t, .inr (2, [.ref h_t_chain, .ref h_t_x, .ref h_t_y, .ref h_t_sorted, .int t_size])), (h_t_x, .inl (cI, 48, .inl t_x)), (h_t_y, .inl (cI, 48, .inl t_y))] → va_S A s.heap H locs → lv_has ls 3 [(0, .ref h_t), (1, .int l1), (2, .int l2)] → fX2_doubleArea_L4 K t_size t_x t_y n l1 l2 = some x1_ → (∀ (H : Heap) (locs : List Loc) (ls : Array Slot), va_P (dC, dI) vwCl [(h_t, .inr (2, [.ref h_t_chain, .ref h_t_x, .ref h_t_y, .ref h_t_sorted, .int t_size])), (h_t_x, .inl (cI, 48, .inl t_x)), (h_t_y, .inl (cI, 48, .inl t_y))] H → va_D A [(h_t, .inr (2, [.ref h_t_chain, .ref h_t_x, .ref h_t_y, .ref h_t_sorted, .int t_size])), (h_t_x, .inl (cI, 48, .inl t_x)), (h_t_y, .inl (cI, 48, .inl t_y))] → va_S A s.heap H locs → lv_has ls 3 [(1, .int x1_)] → W p l e R s m args below meth c H locs 0 0 Q (F0 m 52 ls [])) → W p l e R s m args below meth c H locs 0 0 Q (F0 m 4 ls []) := by
  obtain ⟨hx, hb, hml, hown, hts, hK, hT, hA, hF, hLo⟩ := id C0
  intro n
  induction n with
  | zero =>
    intro l1 l2 x1_ H locs ls hP hD hS hl hf
    rw [fX2_doubleArea_L4] at hf
    cases hf
  | succ n ih =>
    intro l1 l2 x1_ H locs ls hP hD hS hl hf hk
    rw [fX2_doubleArea_L4] at hf
    refine lv_iload_n hx hb dX2_doubleArea_4 rfl (lv_at hl 2 rfl) ?_
    refine lv_aload_n hx hb dX2_doubleArea_5 rfl (lv_at hl 0 rfl) ?_
    refine va_get (D := (dC, dI)) (ci := 2) (v := .int t_size) (C := RX2) (T := TX2) (N := 5) hx hb hts in_X2 hown hK hP 0 rfl rfl 4 (Nat.le_of_ble_eq_true rfl) (hts _ qf_X2_38) (fun _ h9 => h9) rfl dX2_doubleArea_6 ?_
    refine lv_icmp_ge (tgt := 52) hx hb dX2_doubleArea_9 (by decide) (fun hc => ?_) (fun hc => ?_)
    · replace hf := it_t (hc) hf
      obtain rfl := o1 hf
      exact hk H locs ls hP hD hS (lv_sub hl [1] rfl)
    · replace hf := it_f (hc) hf
      refine lv_iload_n hx hb dX2_doubleArea_12 rfl (lv_at hl 1 rfl) ?_
      refine lv_aload_n hx hb dX2_doubleArea_13 rfl (lv_at hl 0 rfl) ?_
      refine va_get (D := (dC, dI)) (ci := 2) (v := .ref h_t_x) (C := RX2) (T := TX2) (N := 5) hx hb hts in_X2 hown hK hP 0 rfl rfl 1 (Nat.le_of_ble_eq_true rfl) (hts _ qf_X2_15) (fun _ h9 => h9) rfl dX2_doubleArea_14 ?_
      refine lv_iload_n hx hb dX2_doubleArea_17 rfl (lv_at hl 2 rfl) ?_
      obtain ⟨hg_1, hf⟩ := gd_some hf
      refine va_iald hx hb hK hP 1 0 rfl rfl (inb_in hg_1) dX2_doubleArea_18 ?_
      refine lv_aload_n hx hb dX2_doubleArea_19 rfl (lv_at hl 0 rfl) ?_
      refine va_get (D := (dC, dI)) (ci := 2) (v := .ref h_t_y) (C := RX2) (T := TX2) (N := 5) hx hb hts in_X2 hown hK hP 0 rfl rfl 2 (Nat.le_of_ble_eq_true rfl) (hts _ qf_X2_18) (fun _ h9 => h9) rfl dX2_doubleArea_20 ?_
      refine lv_iload_n hx hb dX2_doubleArea_23 rfl (lv_at hl 2 rfl) ?_
      refine lv_iconst (v := (1 : Int32)) hx hb dX2_doubleArea_24 (by decide) ?_
      refine lv_iadd hx hb dX2_doubleArea_25 ?_
      obtain ⟨hg_2, hf⟩ := gd_some hf
      refine va_iald hx hb hK hP 2 0 rfl rfl (inb_in hg_2) dX2_doubleArea_26 ?_
      refine lv_imul hx hb dX2_doubleArea_27 ?_
      refine lv_aload_n hx hb dX2_doubleArea_28 rfl (lv_at hl 0 rfl) ?_
      refine va_get (D := (dC, dI)) (ci := 2) (v := .ref h_t_y) (C := RX2) (T := TX2) (N := 5) hx hb hts in_X2 hown hK hP 0 rfl rfl 2 (Nat.le_of_ble_eq_true rfl) (hts _ qf_X2_18) (fun _ h9 => h9) rfl dX2_doubleArea_29 ?_
      refine lv_iload_n hx hb dX2_doubleArea_32 rfl (lv_at hl 2 rfl) ?_
      obtain ⟨hg_3, hf⟩ := gd_some hf
      refine va_iald hx hb hK hP 2 0 rfl rfl (inb_in hg_3) dX2_doubleArea_33 ?_
      refine lv_aload_n hx hb dX2_doubleArea_34 rfl (lv_at hl 0 rfl) ?_
      refine va_get (D := (dC, dI)) (ci := 2) (v := .ref h_t_x) (C := RX2) (T := TX2) (N := 5) hx hb hts in_X2 hown hK hP 0 rfl rfl 1 (Nat.le_of_ble_eq_true rfl) (hts _ qf_X2_15) (fun _ h9 => h9) rfl dX2_doubleArea_35 ?_
      refine lv_iload_n hx hb dX2_doubleArea_38 rfl (lv_at hl 2 rfl) ?_
      refine lv_iconst (v := (1 : Int32)) hx hb dX2_doubleArea_39 (by decide) ?_
      refine lv_iadd hx hb dX2_doubleArea_40 ?_
      obtain ⟨hg_4, hf⟩ := gd_some hf
      refine va_iald hx hb hK hP 1 0 rfl rfl (inb_in hg_4) dX2_doubleArea_41 ?_
      refine lv_imul hx hb dX2_doubleArea_42 ?_
      refine lv_isub hx hb dX2_doubleArea_43 ?_
      refine lv_iadd hx hb dX2_doubleArea_44 ?_
      refine lv_topi (fun l1_5 el1_5 => ?_)
      replace hf := xl_at hf el1_5
      refine lv_istore_n (lv' := [(1, .int l1_5), (0, .ref h_t), (2, .int l2)]) hx hb dX2_doubleArea_45 rfl hl (Nat.le_of_ble_eq_true rfl) rfl (fun ls hl => ?_)
      obtain ⟨l2_6, el2_6⟩ : ∃ y : Int32, y = l2 + (1 : Int32) := ⟨_, rfl⟩
      replace hf := xl_at hf el2_6
      refine lv_iinc (v := l2_6) (lv' := [(2, .int l2_6), (1, .int l1_5), (0, .ref h_t)]) hx hb dX2_doubleArea_46 hl (k := 2) rfl (by rw [el2_6]; rfl) (Nat.le_of_ble_eq_true rfl) rfl (fun ls hl => ?_)
      refine lv_goto (tgt := 4) hx hb dX2_doubleArea_49 (by decide) ?_
      exact ih l1_5 l2_6 _ H locs ls hP hD hS (lv_sub hl [2, 1, 0] rfl) hf hk
set_option maxRecDepth 100000 in
set_option maxHeartbeats 4000000 in
theorem mtX2_doubleArea (l : Launch) (dC : Nat → ClassId) (dI : Nat → Nat → Nat) (cI cL cB : ClassId) (K : Nat) (h_t h_t_chain h_t_x h_t_y h_t_sorted : Nat) (sz : Nat) (t_size : Int32) (t_x : Nat → Int32) (t_y : Nat → Int32) (o_r : Int32) (hf : fX2_doubleArea K t_size t_x t_y = some o_r) : Met l yX2_doubleArea [Cond.code yX2_doubleArea cX2_doubleArea 3 (some .int)] ({ frames := 0, cells := 0, slots := 0, locals := 0 }) (va_Pc [.ref h_t] (cPre dC dI cI cL cB sz [(h_t, .inr (2, [.ref h_t_chain, .ref h_t_x, .ref h_t_y, .ref h_t_sorted, .int t_size])), (h_t_x, .inl (cI, 48, .inl t_x)), (h_t_y, .inl (cI, 48, .inl t_y))])) (cQi dC dI (va_A [(h_t, .inr (2, [.ref h_t_chain, .ref h_t_x, .ref h_t_y, .ref h_t_sorted, .int t_size])), (h_t_x, .inl (cI, 48, .inl t_x)), (h_t_y, .inl (cI, 48, .inl t_y))] sz) o_r [(h_t, .inr (2, [.ref h_t_chain, .ref h_t_x, .ref h_t_y, .ref h_t_sorted, .int t_size])), (h_t_x, .inl (cI, 48, .inl t_x)), (h_t_y, .inl (cI, 48, .inl t_y))]) 0 0 (va_A [(h_t, .inr (2, [.ref h_t_chain, .ref h_t_x, .ref h_t_y, .ref h_t_sorted, .int t_size])), (h_t_x, .inl (cI, 48, .inl t_x)), (h_t_y, .inl (cI, 48, .inl t_y))] sz) := by
  refine Met.ofW (cc := cX2_doubleArea) (maxL := 3) (ret := (some .int)) (by decide) rfl ?_
  intro p e s m args below meth c s₁ B hml hv
  obtain ⟨rfl, hsz, hP, hK, hD0, hT⟩ := hv
  have hx := B.exec
  have hb := B.bytes
  have hr := B.returns
  have hown : s.vm.findClass RX2 = some m.cls := findClass_of_methodNamed B.named
  have hlocks := B.notSynchronized
  have hts := TB.use hT ([.ref h_t] : List Value).toArray
  subst hsz
  have hD := hD0.self (sz := s.heap.size)
  generalize hAe : va_A [(h_t, .inr (2, [.ref h_t_chain, .ref h_t_x, .ref h_t_y, .ref h_t_sorted, .int t_size])), (h_t_x, .inl (cI, 48, .inl t_x)), (h_t_y, .inl (cI, 48, .inl t_y))] s.heap.size = A at hD ⊢
  have hA : ∀ q : Nat, s.heap.size ≤ q → A q := fun q h => by rw [← hAe]; exact Or.inr h
  clear hAe hD0
  have hl := lv_entry ([.ref h_t]) (n := 3) (Nat.le_of_ble_eq_true rfl)
  rw [lg_entry_eq]
  generalize (lg_sl ([.ref h_t]) ++ List.replicate (3 - (lg_sl ([.ref h_t])).length) Slot.unset).toArray = ls at hl ⊢
  have hl : lv_has ls 3 [(0, .ref h_t)] := hl
  have hF : 0 ≤ (headSpec [Cond.code yX2_doubleArea cX2_doubleArea 3 (some .int)] ({ frames := 0, cells := 0, slots := 0, locals := 0 })).room.frames := Nat.le_refl _
  have hLo : 0 ≤ (headSpec [Cond.code yX2_doubleArea cX2_doubleArea 3 (some .int)] ({ frames := 0, cells := 0, slots := 0, locals := 0 })).room.locals := Nat.le_refl _
  have C0 : Sx p (headSpec [Cond.code yX2_doubleArea cX2_doubleArea 3 (some .int)] ({ frames := 0, cells := 0, slots := 0, locals := 0 })).room s m ([.ref h_t] : List Value).toArray c cX2_doubleArea 3 RX2 A dC dI cI cL cB 0 0 := ⟨hx, hb, hml, hown, hts, hK, hT, hA, hF, hLo⟩
  refine startH (A := A) hP (fun H locs hP hS => ?_)
  rw [fX2_doubleArea] at hf
  refine lv_iconst (v := (0 : Int32)) hx hb dX2_doubleArea_0 (by decide) ?_
  refine lv_istore_n (lv' := [(1, .int (0 : Int32)), (0, .ref h_t)]) hx hb dX2_doubleArea_1 rfl hl (Nat.le_of_ble_eq_true rfl) rfl (fun ls hl => ?_)
  refine lv_iconst (v := (0 : Int32)) hx hb dX2_doubleArea_2 (by decide) ?_
  refine lv_istore_n (lv' := [(2, .int (0 : Int32)), (1, .int (0 : Int32)), (0, .ref h_t)]) hx hb dX2_doubleArea_3 rfl hl (Nat.le_of_ble_eq_true rfl) rfl (fun ls hl => ?_)
  obtain ⟨l1_8, hq_7, hf⟩ := b1_some hf
  refine wX2_doubleArea_L4 C0 h_t h_t_chain h_t_x h_t_y h_t_sorted t_size t_x t_y K (0 : Int32) (0 : Int32) l1_8 H locs ls hP hD hS (lv_sub hl [2, 1, 0] rfl) hq_7 ?_
  intro H locs ls hP hD hS hl
  refine lv_iload_n hx hb dX2_doubleArea_52 rfl (lv_at hl 0 rfl) ?_
  obtain rfl := o1 hf
  exact W.iret hx hb hr (fun t ht hW => ⟨⟨_, (), rfl, rfl, by rw [ht]; exact hP, hD⟩, hS.F ht⟩) hS.2.2 dX2_doubleArea_53
theorem dX11_area_0 : decode cX11_area 0 = .ok (.aload_n 0, 1) := by decide +kernel
theorem dX11_area_1 : decode cX11_area 1 = .ok (.getfield 12, 3) := by decide +kernel
theorem dX11_area_4 : decode cX11_area 4 = .ok (.iload_n 1, 1) := by decide +kernel
theorem dX11_area_5 : decode cX11_area 5 = .ok (.invokevirtual 152, 3) := by decide +kernel
theorem dX11_area_8 : decode cX11_area 8 = .ok (.ifCond .ne 6, 3) := by decide +kernel
theorem dX11_area_11 : decode cX11_area 11 = .ok (.bipush (-2), 2) := by decide +kernel
theorem dX11_area_13 : decode cX11_area 13 = .ok (.ireturn, 1) := by decide +kernel
theorem dX11_area_14 : decode cX11_area 14 = .ok (.aload_n 0, 1) := by decide +kernel
theorem dX11_area_15 : decode cX11_area 15 = .ok (.getfield 28, 3) := by decide +kernel
theorem dX11_area_18 : decode cX11_area 18 = .ok (.aload_n 0, 1) := by decide +kernel
theorem dX11_area_19 : decode cX11_area 19 = .ok (.getfield 12, 3) := by decide +kernel
theorem dX11_area_22 : decode cX11_area 22 = .ok (.iload_n 1, 1) := by decide +kernel
theorem dX11_area_23 : decode cX11_area 23 = .ok (.invokevirtual 155, 3) := by decide +kernel
theorem dX11_area_26 : decode cX11_area 26 = .ok (.aload_n 0, 1) := by decide +kernel
theorem dX11_area_27 : decode cX11_area 27 = .ok (.getfield 28, 3) := by decide +kernel
theorem dX11_area_30 : decode cX11_area 30 = .ok (.invokevirtual 163, 3) := by decide +kernel
theorem dX11_area_33 : decode cX11_area 33 = .ok (.ireturn, 1) := by decide +kernel
set_option maxRecDepth 100000 in
set_option maxHeartbeats 4000000 in
theorem mtX11_area (l : Launch) (dC : Nat → ClassId) (dI : Nat → Nat → Nat) (cI cL cB : ClassId) (K : Nat) (h_t h_t_cloud h_t_reader h_t_hull h_t_near h_t_firstTie h_t_reducer h_t_chooser h_t_pair h_t_divider h_t_depths h_t_spot h_t_cloud_x h_t_cloud_y h_t_cloud_colour h_t_cloud_load h_t_hull_chain h_t_hull_x h_t_hull_y h_t_hull_sorted : Nat) (sz : Nat) (t_cloud_size : Int32) (t_cloud_centreX : Int32) (t_cloud_centreY : Int32) (t_cloud_x : Nat → Int32) (t_cloud_y : Nat → Int32) (t_hull_size : Int32) (t_hull_chain : Nat → Int32) (t_hull_x : Nat → Int32) (t_hull_y : Nat → Int32) (t_hull_sorted : Nat → Int32) (a1 : Int32) (o_r : Int32) (o_t_hull_size : Int32) (o_t_hull_chain : Nat → Int32) (o_t_hull_x : Nat → Int32) (o_t_hull_y : Nat → Int32) (o_t_hull_sorted : Nat → Int32) (hf : fX11_area K t_cloud_size t_cloud_x t_cloud_y t_hull_size t_hull_chain t_hull_x t_hull_y t_hull_sorted a1 = some (o_r, o_t_hull_size, o_t_hull_chain, o_t_hull_x, o_t_hull_y, o_t_hull_sorted)) : Met l yX11_area [Cond.code yX11_area cX11_area 2 (some .int)] ({ frames := 3, cells := 0, slots := 0, locals := 75 }) (va_Pc [.ref h_t, .int a1] (cPre dC dI cI cL cB sz [(h_t, .inr (11, [.ref h_t_cloud, .ref h_t_reader, .ref h_t_hull, .ref h_t_near, .ref h_t_firstTie, .ref h_t_reducer, .ref h_t_chooser, .ref h_t_pair, .ref h_t_divider, .ref h_t_depths, .ref h_t_spot])), (h_t_cloud, .inr (0, [.ref h_t_cloud_x, .ref h_t_cloud_y, .ref h_t_cloud_colour, .ref h_t_cloud_load, .int t_cloud_size, .int t_cloud_centreX, .int t_cloud_centreY])), (h_t_cloud_x, .inl (cI, 24, .inl t_cloud_x)), (h_t_cloud_y, .inl (cI, 24, .inl t_cloud_y)), (h_t_hull, .inr (2, [.ref h_t_hull_chain, .ref h_t_hull_x, .ref h_t_hull_y, .ref h_t_hull_sorted, .int t_hull_size])), (h_t_hull_chain, .inl (cI, 48, .inl t_hull_chain)), (h_t_hull_x, .inl (cI, 48, .inl t_hull_x)), (h_t_hull_y, .inl (cI, 48, .inl t_hull_y)), (h_t_hull_sorted, .inl (cI, 24, .inl t_hull_sorted))])) (cQi dC dI (va_A [(h_t, .inr (11, [.ref h_t_cloud, .ref h_t_reader, .ref h_t_hull, .ref h_t_near, .ref h_t_firstTie, .ref h_t_reducer, .ref h_t_chooser, .ref h_t_pair, .ref h_t_divider, .ref h_t_depths, .ref h_t_spot])), (h_t_cloud, .inr (0, [.ref h_t_cloud_x, .ref h_t_cloud_y, .ref h_t_cloud_colour, .ref h_t_cloud_load, .int t_cloud_size, .int t_cloud_centreX, .int t_cloud_centreY])), (h_t_cloud_x, .inl (cI, 24, .inl t_cloud_x)), (h_t_cloud_y, .inl (cI, 24, .inl t_cloud_y)), (h_t_hull, .inr (2, [.ref h_t_hull_chain, .ref h_t_hull_x, .ref h_t_hull_y, .ref h_t_hull_sorted, .int t_hull_size])), (h_t_hull_chain, .inl (cI, 48, .inl t_hull_chain)), (h_t_hull_x, .inl (cI, 48, .inl t_hull_x)), (h_t_hull_y, .inl (cI, 48, .inl t_hull_y)), (h_t_hull_sorted, .inl (cI, 24, .inl t_hull_sorted))] sz) o_r [(h_t, .inr (11, [.ref h_t_cloud, .ref h_t_reader, .ref h_t_hull, .ref h_t_near, .ref h_t_firstTie, .ref h_t_reducer, .ref h_t_chooser, .ref h_t_pair, .ref h_t_divider, .ref h_t_depths, .ref h_t_spot])), (h_t_cloud, .inr (0, [.ref h_t_cloud_x, .ref h_t_cloud_y, .ref h_t_cloud_colour, .ref h_t_cloud_load, .int t_cloud_size, .int t_cloud_centreX, .int t_cloud_centreY])), (h_t_cloud_x, .inl (cI, 24, .inl t_cloud_x)), (h_t_cloud_y, .inl (cI, 24, .inl t_cloud_y)), (h_t_hull, .inr (2, [.ref h_t_hull_chain, .ref h_t_hull_x, .ref h_t_hull_y, .ref h_t_hull_sorted, .int o_t_hull_size])), (h_t_hull_chain, .inl (cI, 48, .inl o_t_hull_chain)), (h_t_hull_x, .inl (cI, 48, .inl o_t_hull_x)), (h_t_hull_y, .inl (cI, 48, .inl o_t_hull_y)), (h_t_hull_sorted, .inl (cI, 24, .inl o_t_hull_sorted))]) 0 0 (va_A [(h_t, .inr (11, [.ref h_t_cloud, .ref h_t_reader, .ref h_t_hull, .ref h_t_near, .ref h_t_firstTie, .ref h_t_reducer, .ref h_t_chooser, .ref h_t_pair, .ref h_t_divider, .ref h_t_depths, .ref h_t_spot])), (h_t_cloud, .inr (0, [.ref h_t_cloud_x, .ref h_t_cloud_y, .ref h_t_cloud_colour, .ref h_t_cloud_load, .int t_cloud_size, .int t_cloud_centreX, .int t_cloud_centreY])), (h_t_cloud_x, .inl (cI, 24, .inl t_cloud_x)), (h_t_cloud_y, .inl (cI, 24, .inl t_cloud_y)), (h_t_hull, .inr (2, [.ref h_t_hull_chain, .ref h_t_hull_x, .ref h_t_hull_y, .ref h_t_hull_sorted, .int t_hull_size])), (h_t_hull_chain, .inl (cI, 48, .inl t_hull_chain)), (h_t_hull_x, .inl (cI, 48, .inl t_hull_x)), (h_t_hull_y, .inl (cI, 48, .inl t_hull_y)), (h_t_hull_sorted, .inl (cI, 24, .inl t_hull_sorted))] sz) := by
  refine Met.ofW (cc := cX11_area) (maxL := 2) (ret := (some .int)) (by decide) rfl ?_
  intro p e s m args below meth c s₁ B hml hv
  obtain ⟨rfl, hsz, hP, hK, hD0, hT⟩ := hv
  have hx := B.exec
  have hb := B.bytes
  have hr := B.returns
  have hown : s.vm.findClass RX11 = some m.cls := findClass_of_methodNamed B.named
  have hlocks := B.notSynchronized
  have hts := TB.use hT ([.ref h_t, .int a1] : List Value).toArray
  subst hsz
  have hD := hD0.self (sz := s.heap.size)
  generalize hAe : va_A [(h_t, .inr (11, [.ref h_t_cloud, .ref h_t_reader, .ref h_t_hull, .ref h_t_near, .ref h_t_firstTie, .ref h_t_reducer, .ref h_t_chooser, .ref h_t_pair, .ref h_t_divider, .ref h_t_depths, .ref h_t_spot])), (h_t_cloud, .inr (0, [.ref h_t_cloud_x, .ref h_t_cloud_y, .ref h_t_cloud_colour, .ref h_t_cloud_load, .int t_cloud_size, .int t_cloud_centreX, .int t_cloud_centreY])), (h_t_cloud_x, .inl (cI, 24, .inl t_cloud_x)), (h_t_cloud_y, .inl (cI, 24, .inl t_cloud_y)), (h_t_hull, .inr (2, [.ref h_t_hull_chain, .ref h_t_hull_x, .ref h_t_hull_y, .ref h_t_hull_sorted, .int t_hull_size])), (h_t_hull_chain, .inl (cI, 48, .inl t_hull_chain)), (h_t_hull_x, .inl (cI, 48, .inl t_hull_x)), (h_t_hull_y, .inl (cI, 48, .inl t_hull_y)), (h_t_hull_sorted, .inl (cI, 24, .inl t_hull_sorted))] s.heap.size = A at hD ⊢
  have hA : ∀ q : Nat, s.heap.size ≤ q → A q := fun q h => by rw [← hAe]; exact Or.inr h
  clear hAe hD0
  have hl := lv_entry ([.ref h_t, .int a1]) (n := 2) (Nat.le_of_ble_eq_true rfl)
  rw [lg_entry_eq]
  generalize (lg_sl ([.ref h_t, .int a1]) ++ List.replicate (2 - (lg_sl ([.ref h_t, .int a1])).length) Slot.unset).toArray = ls at hl ⊢
  have hl : lv_has ls 2 [(0, .ref h_t), (1, .int a1)] := hl
  have hF : 3 ≤ (headSpec [Cond.code yX11_area cX11_area 2 (some .int)] ({ frames := 3, cells := 0, slots := 0, locals := 75 })).room.frames := Nat.le_refl _
  have hLo : 75 ≤ (headSpec [Cond.code yX11_area cX11_area 2 (some .int)] ({ frames := 3, cells := 0, slots := 0, locals := 75 })).room.locals := Nat.le_refl _
  have C0 : Sx p (headSpec [Cond.code yX11_area cX11_area 2 (some .int)] ({ frames := 3, cells := 0, slots := 0, locals := 75 })).room s m ([.ref h_t, .int a1] : List Value).toArray c cX11_area 2 RX11 A dC dI cI cL cB 3 75 := ⟨hx, hb, hml, hown, hts, hK, hT, hA, hF, hLo⟩
  refine startH (A := A) hP (fun H locs hP hS => ?_)
  rw [fX11_area] at hf
  refine lv_aload_n hx hb dX11_area_0 rfl (lv_at hl 0 rfl) ?_
  refine va_get (D := (dC, dI)) (ci := 11) (v := .ref h_t_cloud) (C := RX11) (T := TX11) (N := 11) hx hb hts in_X11 hown hK hP 0 rfl rfl 0 (Nat.le_of_ble_eq_true rfl) (hts _ qf_X11_12) (fun _ h9 => h9) rfl dX11_area_1 ?_
  refine lv_iload_n hx hb dX11_area_4 rfl (lv_at hl 1 rfl) ?_
  obtain ⟨r_1, hq_2, hf⟩ := b1_some hf
  refine xci (wr := [(h_t, .inr (11, [.ref h_t_cloud, .ref h_t_reader, .ref h_t_hull, .ref h_t_near, .ref h_t_firstTie, .ref h_t_reducer, .ref h_t_chooser, .ref h_t_pair, .ref h_t_divider, .ref h_t_depths, .ref h_t_spot])), (h_t_cloud_x, .inl (cI, 24, .inl t_cloud_x)), (h_t_cloud_y, .inl (cI, 24, .inl t_cloud_y)), (h_t_hull, .inr (2, [.ref h_t_hull_chain, .ref h_t_hull_x, .ref h_t_hull_y, .ref h_t_hull_sorted, .int t_hull_size])), (h_t_hull_chain, .inl (cI, 48, .inl t_hull_chain)), (h_t_hull_x, .inl (cI, 48, .inl t_hull_x)), (h_t_hull_y, .inl (cI, 48, .inl t_hull_y)), (h_t_hull_sorted, .inl (cI, 24, .inl t_hull_sorted))]) (w2 := [(h_t, .inr (11, [.ref h_t_cloud, .ref h_t_reader, .ref h_t_hull, .ref h_t_near, .ref h_t_firstTie, .ref h_t_reducer, .ref h_t_chooser, .ref h_t_pair, .ref h_t_divider, .ref h_t_depths, .ref h_t_spot])), (h_t_cloud, .inr (0, [.ref h_t_cloud_x, .ref h_t_cloud_y, .ref h_t_cloud_colour, .ref h_t_cloud_load, .int t_cloud_size, .int t_cloud_centreX, .int t_cloud_centreY])), (h_t_cloud_x, .inl (cI, 24, .inl t_cloud_x)), (h_t_cloud_y, .inl (cI, 24, .inl t_cloud_y)), (h_t_hull, .inr (2, [.ref h_t_hull_chain, .ref h_t_hull_x, .ref h_t_hull_y, .ref h_t_hull_sorted, .int t_hull_size])), (h_t_hull_chain, .inl (cI, 48, .inl t_hull_chain)), (h_t_hull_x, .inl (cI, 48, .inl t_hull_x)), (h_t_hull_y, .inl (cI, 48, .inl t_hull_y)), (h_t_hull_sorted, .inl (cI, 24, .inl t_hull_sorted))]) (va_runV (As := [.int a1]) (rest := []) ⟨hx, hb, hml, hown, hts⟩ (mtX0_hasSet l dC dI cI cL cB K h_t_cloud h_t_cloud_x h_t_cloud_y h_t_cloud_colour h_t_cloud_load H.size t_cloud_size t_cloud_centreX t_cloud_centreY a1 r_1 hq_2) (cwV 1 hts gv_X11_152 rfl rfl rfl hdV_X0_hasSet ⟨Nat.le_trans (Nat.le_of_ble_eq_true rfl) hF, Nat.le_trans (Nat.le_of_ble_eq_true rfl) hLo⟩) (cPreV hK hP hD hT [1] rfl rfl (ci := 0) (q0 := 0) rfl rfl) rfl rfl hl.1 rfl (lv_room (Nat.le_of_ble_eq_true rfl)) dX11_area_5 ⟨Nat.zero_le _, Nat.zero_le _⟩) hP hD hS hA [1] [0, 2, 3, 4, 5, 6, 7, 8] [0, 8, 1, 2, 3, 4, 5, 6, 7] rfl rfl rfl rfl rfl rfl (fun H locs hP hD hS => ?_)
  refine lv_if_ne (tgt := 14) hx hb dX11_area_8 (by decide) (fun hc => ?_) (fun hc => ?_)
  · replace hf := it_f (hc) hf
    refine lv_aload_n hx hb dX11_area_14 rfl (lv_at hl 0 rfl) ?_
    refine va_get (D := (dC, dI)) (ci := 11) (v := .ref h_t_hull) (C := RX11) (T := TX11) (N := 11) hx hb hts in_X11 hown hK hP 0 rfl rfl 2 (Nat.le_of_ble_eq_true rfl) (hts _ qf_X11_28) (fun _ h9 => h9) rfl dX11_area_15 ?_
    refine lv_aload_n hx hb dX11_area_18 rfl (lv_at hl 0 rfl) ?_
    refine va_get (D := (dC, dI)) (ci := 11) (v := .ref h_t_cloud) (C := RX11) (T := TX11) (N := 11) hx hb hts in_X11 hown hK hP 0 rfl rfl 0 (Nat.le_of_ble_eq_true rfl) (hts _ qf_X11_12) (fun _ h9 => h9) rfl dX11_area_19 ?_
    refine lv_iload_n hx hb dX11_area_22 rfl (lv_at hl 1 rfl) ?_
    obtain ⟨t_hull_size_3, t_hull_chain_4, t_hull_x_5, t_hull_y_6, t_hull_sorted_7, hq_8, hf⟩ := b5_some hf
    refine xcv (wr := [(h_t, .inr (11, [.ref h_t_cloud, .ref h_t_reader, .ref h_t_hull, .ref h_t_near, .ref h_t_firstTie, .ref h_t_reducer, .ref h_t_chooser, .ref h_t_pair, .ref h_t_divider, .ref h_t_depths, .ref h_t_spot]))]) (w2 := [(h_t, .inr (11, [.ref h_t_cloud, .ref h_t_reader, .ref h_t_hull, .ref h_t_near, .ref h_t_firstTie, .ref h_t_reducer, .ref h_t_chooser, .ref h_t_pair, .ref h_t_divider, .ref h_t_depths, .ref h_t_spot])), (h_t_cloud, .inr (0, [.ref h_t_cloud_x, .ref h_t_cloud_y, .ref h_t_cloud_colour, .ref h_t_cloud_load, .int t_cloud_size, .int t_cloud_centreX, .int t_cloud_centreY])), (h_t_cloud_x, .inl (cI, 24, .inl t_cloud_x)), (h_t_cloud_y, .inl (cI, 24, .inl t_cloud_y)), (h_t_hull, .inr (2, [.ref h_t_hull_chain, .ref h_t_hull_x, .ref h_t_hull_y, .ref h_t_hull_sorted, .int t_hull_size_3])), (h_t_hull_chain, .inl (cI, 48, .inl t_hull_chain_4)), (h_t_hull_x, .inl (cI, 48, .inl t_hull_x_5)), (h_t_hull_y, .inl (cI, 48, .inl t_hull_y_6)), (h_t_hull_sorted, .inl (cI, 24, .inl t_hull_sorted_7))]) (va_runV (As := [.ref h_t_cloud, .int a1]) (rest := []) ⟨hx, hb, hml, hown, hts⟩ (mtX2_build l dC dI cI cL cB K h_t_hull h_t_hull_chain h_t_hull_x h_t_hull_y h_t_hull_sorted h_t_cloud h_t_cloud_x h_t_cloud_y h_t_cloud_colour h_t_cloud_load H.size t_hull_size t_hull_chain t_hull_x t_hull_y t_hull_sorted t_cloud_size t_cloud_centreX t_cloud_centreY t_cloud_x t_cloud_y a1 t_hull_size_3 t_hull_chain_4 t_hull_x_5 t_hull_y_6 t_hull_sorted_7 hq_8) (cwV 2 hts gv_X11_155 rfl rfl rfl hdV_X2_build ⟨Nat.le_trans (Nat.le_of_ble_eq_true rfl) hF, Nat.le_trans (Nat.le_of_ble_eq_true rfl) hLo⟩) (cPreV hK hP hD hT [4, 5, 6, 7, 8, 1, 2, 3] rfl rfl (ci := 2) (q0 := 0) rfl rfl) rfl rfl hl.1 rfl (lv_room (Nat.le_of_ble_eq_true rfl)) dX11_area_23 ⟨Nat.zero_le _, Nat.zero_le _⟩) hP hD hS hA [4, 5, 6, 7, 8, 1, 2, 3] [0] [0, 6, 7, 8, 1, 2, 3, 4, 5] rfl rfl rfl rfl rfl rfl (fun H locs hP hD hS => ?_)
    refine lv_aload_n hx hb dX11_area_26 rfl (lv_at hl 0 rfl) ?_
    refine va_get (D := (dC, dI)) (ci := 11) (v := .ref h_t_hull) (C := RX11) (T := TX11) (N := 11) hx hb hts in_X11 hown hK hP 0 rfl rfl 2 (Nat.le_of_ble_eq_true rfl) (hts _ qf_X11_28) (fun _ h9 => h9) rfl dX11_area_27 ?_
    obtain ⟨r_9, hq_10, hf⟩ := b1_some hf
    refine xci (wr := [(h_t, .inr (11, [.ref h_t_cloud, .ref h_t_reader, .ref h_t_hull, .ref h_t_near, .ref h_t_firstTie, .ref h_t_reducer, .ref h_t_chooser, .ref h_t_pair, .ref h_t_divider, .ref h_t_depths, .ref h_t_spot])), (h_t_cloud, .inr (0, [.ref h_t_cloud_x, .ref h_t_cloud_y, .ref h_t_cloud_colour, .ref h_t_cloud_load, .int t_cloud_size, .int t_cloud_centreX, .int t_cloud_centreY])), (h_t_cloud_x, .inl (cI, 24, .inl t_cloud_x)), (h_t_cloud_y, .inl (cI, 24, .inl t_cloud_y)), (h_t_hull_chain, .inl (cI, 48, .inl t_hull_chain_4)), (h_t_hull_sorted, .inl (cI, 24, .inl t_hull_sorted_7))]) (w2 := [(h_t, .inr (11, [.ref h_t_cloud, .ref h_t_reader, .ref h_t_hull, .ref h_t_near, .ref h_t_firstTie, .ref h_t_reducer, .ref h_t_chooser, .ref h_t_pair, .ref h_t_divider, .ref h_t_depths, .ref h_t_spot])), (h_t_cloud, .inr (0, [.ref h_t_cloud_x, .ref h_t_cloud_y, .ref h_t_cloud_colour, .ref h_t_cloud_load, .int t_cloud_size, .int t_cloud_centreX, .int t_cloud_centreY])), (h_t_cloud_x, .inl (cI, 24, .inl t_cloud_x)), (h_t_cloud_y, .inl (cI, 24, .inl t_cloud_y)), (h_t_hull, .inr (2, [.ref h_t_hull_chain, .ref h_t_hull_x, .ref h_t_hull_y, .ref h_t_hull_sorted, .int t_hull_size_3])), (h_t_hull_chain, .inl (cI, 48, .inl t_hull_chain_4)), (h_t_hull_x, .inl (cI, 48, .inl t_hull_x_5)), (h_t_hull_y, .inl (cI, 48, .inl t_hull_y_6)), (h_t_hull_sorted, .inl (cI, 24, .inl t_hull_sorted_7))]) (va_runV (As := []) (rest := []) ⟨hx, hb, hml, hown, hts⟩ (mtX2_doubleArea l dC dI cI cL cB K h_t_hull h_t_hull_chain h_t_hull_x h_t_hull_y h_t_hull_sorted H.size t_hull_size_3 t_hull_x_5 t_hull_y_6 r_9 hq_10) (cwV 0 hts gv_X11_163 rfl rfl rfl hdV_X2_doubleArea ⟨Nat.le_trans (Nat.le_of_ble_eq_true rfl) hF, Nat.le_trans (Nat.le_of_ble_eq_true rfl) hLo⟩) (cPreV hK hP hD hT [4, 6, 7] rfl rfl (ci := 2) (q0 := 0) rfl rfl) rfl rfl hl.1 rfl (lv_room (Nat.le_of_ble_eq_true rfl)) dX11_area_30 ⟨Nat.zero_le _, Nat.zero_le _⟩) hP hD hS hA [4, 6, 7] [0, 1, 2, 3, 5, 8] [0, 1, 2, 3, 6, 4, 7, 8, 5] rfl rfl rfl rfl rfl rfl (fun H locs hP hD hS => ?_)
    obtain ⟨rfl, rfl, rfl, rfl, rfl, rfl⟩ := o6 hf
    exact W.iret hx hb hr (fun t ht hW => ⟨⟨_, (), rfl, rfl, by rw [ht]; exact hP, hD⟩, hS.F ht⟩) hS.2.2 dX11_area_33
  · replace hf := it_t (hc) hf
    refine lv_bipush (v := (-2 : Int32)) hx hb dX11_area_11 (by decide) ?_
    obtain ⟨rfl, rfl, rfl, rfl, rfl, rfl⟩ := o6 hf
    exact W.iret hx hb hr (fun t ht hW => ⟨⟨_, (), rfl, rfl, by rw [ht]; exact hP, hD⟩, hS.F ht⟩) hS.2.2 dX11_area_13
theorem dX11_gcd_0 : decode cX11_gcd 0 = .ok (.lload_n 0, 1) := by decide +kernel
theorem dX11_gcd_1 : decode cX11_gcd 1 = .ok (.invokestatic 383, 3) := by decide +kernel
theorem dX11_gcd_4 : decode cX11_gcd 4 = .ok (.lstore 4, 2) := by decide +kernel
theorem dX11_gcd_6 : decode cX11_gcd 6 = .ok (.lload_n 2, 1) := by decide +kernel
theorem dX11_gcd_7 : decode cX11_gcd 7 = .ok (.invokestatic 383, 3) := by decide +kernel
theorem dX11_gcd_10 : decode cX11_gcd 10 = .ok (.lstore 6, 2) := by decide +kernel
theorem dX11_gcd_12 : decode cX11_gcd 12 = .ok (.iconst 0, 1) := by decide +kernel
theorem dX11_gcd_13 : decode cX11_gcd 13 = .ok (.istore 8, 2) := by decide +kernel
theorem dX11_gcd_15 : decode cX11_gcd 15 = .ok (.iload 8, 2) := by decide +kernel
theorem dX11_gcd_17 : decode cX11_gcd 17 = .ok (.bipush 100, 2) := by decide +kernel
theorem dX11_gcd_19 : decode cX11_gcd 19 = .ok (.if_icmp .ge 31, 3) := by decide +kernel
theorem dX11_gcd_22 : decode cX11_gcd 22 = .ok (.lload 6, 2) := by decide +kernel
theorem dX11_gcd_24 : decode cX11_gcd 24 = .ok (.lconst 0, 1) := by decide +kernel
theorem dX11_gcd_25 : decode cX11_gcd 25 = .ok (.lcmp, 1) := by decide +kernel
theorem dX11_gcd_26 : decode cX11_gcd 26 = .ok (.ifCond .eq 24, 3) := by decide +kernel
theorem dX11_gcd_29 : decode cX11_gcd 29 = .ok (.lload 4, 2) := by decide +kernel
theorem dX11_gcd_31 : decode cX11_gcd 31 = .ok (.lload 6, 2) := by decide +kernel
theorem dX11_gcd_33 : decode cX11_gcd 33 = .ok (.lrem, 1) := by decide +kernel
theorem dX11_gcd_34 : decode cX11_gcd 34 = .ok (.lstore 9, 2) := by decide +kernel
theorem dX11_gcd_36 : decode cX11_gcd 36 = .ok (.lload 6, 2) := by decide +kernel
theorem dX11_gcd_38 : decode cX11_gcd 38 = .ok (.lstore 4, 2) := by decide +kernel
theorem dX11_gcd_40 : decode cX11_gcd 40 = .ok (.lload 9, 2) := by decide +kernel
theorem dX11_gcd_42 : decode cX11_gcd 42 = .ok (.lstore 6, 2) := by decide +kernel
theorem dX11_gcd_44 : decode cX11_gcd 44 = .ok (.iinc 8 1, 3) := by decide +kernel
theorem dX11_gcd_47 : decode cX11_gcd 47 = .ok (.goto (-32), 3) := by decide +kernel
theorem dX11_gcd_50 : decode cX11_gcd 50 = .ok (.lload 4, 2) := by decide +kernel
theorem dX11_gcd_52 : decode cX11_gcd 52 = .ok (.lreturn, 1) := by decide +kernel
set_option maxRecDepth 100000 in
set_option maxHeartbeats 4000000 in
theorem wX11_gcd_L15 {p : Program} {l : Launch} {e : Env} {R : Room} {s : State} {m : MethodId} {args : Array Value} {below : List Frame} {meth : Method} {c : Code} {Q : State → Prop} {A : Nat → Prop} {dC : Nat → ClassId} {dI : Nat → Nat → Nat} {cI cL cB : ClassId} {K : Nat} (C0 : Sx p R s m args c cX11_gcd 11 RX11 A dC dI cI cL cB 1 15) : ∀ (n : Nat) (l4 : Int64) (l6 : Int64) (l8 : Int32) (x4_ : Int64) (H : Heap) (locs : List Loc) (ls : Array Slot), va_P (dC, dI) vwCl [] H → va_D A [] → va_S A s.heap H locs → lv_has ls 11 [(4, .long l4), (6, .long l6), (8, .int l8)] → fX11_gcd_L15 K n l4 l6 l8 = some x4_ → (∀ (H : Heap) (locs : List Loc) (ls : Array Slot), va_P (dC, dI) vwCl [] H → va_D A [] → va_S A s.heap H locs → lv_has ls 11 [(4, .long x4_)] → W p l e R s m args below meth c H locs 0 0 Q (F0 m 50 ls [])) → W p l e R s m args below meth c H locs 0 0 Q (F0 m 15 ls []) := by
  obtain ⟨hx, hb, hml, hown, hts, hK, hT, hA, hF, hLo⟩ := id C0
  intro n
  induction n with
  | zero =>
    intro l4 l6 l8 x4_ H locs ls hP hD hS hl hf
    rw [fX11_gcd_L15] at hf
    cases hf
  | succ n ih =>
    intro l4 l6 l8 x4_ H locs ls hP hD hS hl hf hk
    rw [fX11_gcd_L15] at hf
    refine lv_iload hx hb dX11_gcd_15 (lv_at hl 2 rfl) ?_
    refine lv_bipush (v := (100 : Int32)) hx hb dX11_gcd_17 (by decide) ?_
    refine lv_icmp_ge (tgt := 50) hx hb dX11_gcd_19 (by decide) (fun hc => ?_) (fun hc => ?_)
    · replace hf := it_t (hc) hf
      obtain rfl := o1 hf
      exact hk H locs ls hP hD hS (lv_sub hl [0] rfl)
    · replace hf := it_f (hc) hf
      refine lv_lload hx hb dX11_gcd_22 (lv_at hl 1 rfl) ?_
      refine lv_lconst (v := (0 : Int64)) hx hb dX11_gcd_24 (by decide) ?_
      refine W.lcmp hx hb dX11_gcd_25 ?_
      refine lv_if_eq (tgt := 50) hx hb dX11_gcd_26 (by decide) (fun hc => ?_) (fun hc => ?_)
      · replace hf := it_t ((lg_cmp_eq _ _).mp hc) hf
        obtain rfl := o1 hf
        exact hk H locs ls hP hD hS (lv_sub hl [0] rfl)
      · replace hf := it_f (fun h9 => hc ((lg_cmp_eq _ _).mpr h9)) hf
        refine lv_lload hx hb dX11_gcd_29 (lv_at hl 0 rfl) ?_
        refine lv_lload hx hb dX11_gcd_31 (lv_at hl 1 rfl) ?_
        obtain ⟨hg_3, hf⟩ := gd_some hf
        refine lv_lrem hx hb dX11_gcd_33 (nz_ne hg_3) ?_
        refine lv_topl (fun v_4 ev_4 => ?_)
        replace hf := xl_at hf ev_4
        refine lv_lstore (lv' := [(9, .long v_4), (4, .long l4), (6, .long l6), (8, .int l8)]) hx hb dX11_gcd_34 hl (Nat.le_of_ble_eq_true rfl) rfl (fun ls hl => ?_)
        refine lv_lload hx hb dX11_gcd_36 (lv_at hl 2 rfl) ?_
        refine lv_lstore (lv' := [(4, .long l6), (9, .long v_4), (6, .long l6), (8, .int l8)]) hx hb dX11_gcd_38 hl (Nat.le_of_ble_eq_true rfl) rfl (fun ls hl => ?_)
        refine lv_lload hx hb dX11_gcd_40 (lv_at hl 1 rfl) ?_
        refine lv_lstore (lv' := [(6, .long v_4), (4, .long l6), (9, .long v_4), (8, .int l8)]) hx hb dX11_gcd_42 hl (Nat.le_of_ble_eq_true rfl) rfl (fun ls hl => ?_)
        obtain ⟨l8_5, el8_5⟩ : ∃ y : Int32, y = l8 + (1 : Int32) := ⟨_, rfl⟩
        replace hf := xl_at hf el8_5
        refine lv_iinc (v := l8_5) (lv' := [(8, .int l8_5), (6, .long v_4), (4, .long l6), (9, .long v_4)]) hx hb dX11_gcd_44 hl (k := 3) rfl (by rw [el8_5]; rfl) (Nat.le_of_ble_eq_true rfl) rfl (fun ls hl => ?_)
        refine lv_goto (tgt := 15) hx hb dX11_gcd_47 (by decide) ?_
        exact ih l6 v_4 l8_5 _ H locs ls hP hD hS (lv_sub hl [2, 1, 0] rfl) hf hk
set_option maxRecDepth 100000 in
set_option maxHeartbeats 4000000 in
theorem mtX11_gcd (l : Launch) (dC : Nat → ClassId) (dI : Nat → Nat → Nat) (cI cL cB : ClassId) (K : Nat) (sz : Nat) (a0 : Int64) (a2 : Int64) (o_r : Int64) (hf : fX11_gcd K a0 a2 = some o_r) : Met l yX11_gcd [Cond.code yX11_gcd cX11_gcd 11 (some .long)] ({ frames := 1, cells := 0, slots := 0, locals := 15 }) (va_Pc [.long a0, .long a2] (cPre dC dI cI cL cB sz [])) (cQl dC dI (va_A [] sz) o_r []) 0 0 (va_A [] sz) := by
  refine Met.ofW (cc := cX11_gcd) (maxL := 11) (ret := (some .long)) (by decide) rfl ?_
  intro p e s m args below meth c s₁ B hml hv
  obtain ⟨rfl, hsz, hP, hK, hD0, hT⟩ := hv
  have hx := B.exec
  have hb := B.bytes
  have hr := B.returns
  have hown : s.vm.findClass RX11 = some m.cls := findClass_of_methodNamed B.named
  have hlocks := B.notSynchronized
  have hts := TB.use hT ([.long a0, .long a2] : List Value).toArray
  subst hsz
  have hD := hD0.self (sz := s.heap.size)
  generalize hAe : va_A [] s.heap.size = A at hD ⊢
  have hA : ∀ q : Nat, s.heap.size ≤ q → A q := fun q h => by rw [← hAe]; exact Or.inr h
  clear hAe hD0
  have hl := lv_entry ([.long a0, .long a2]) (n := 11) (Nat.le_of_ble_eq_true rfl)
  rw [lg_entry_eq]
  generalize (lg_sl ([.long a0, .long a2]) ++ List.replicate (11 - (lg_sl ([.long a0, .long a2])).length) Slot.unset).toArray = ls at hl ⊢
  have hl : lv_has ls 11 [(0, .long a0), (2, .long a2)] := hl
  have hF : 1 ≤ (headSpec [Cond.code yX11_gcd cX11_gcd 11 (some .long)] ({ frames := 1, cells := 0, slots := 0, locals := 15 })).room.frames := Nat.le_refl _
  have hLo : 15 ≤ (headSpec [Cond.code yX11_gcd cX11_gcd 11 (some .long)] ({ frames := 1, cells := 0, slots := 0, locals := 15 })).room.locals := Nat.le_refl _
  have C0 : Sx p (headSpec [Cond.code yX11_gcd cX11_gcd 11 (some .long)] ({ frames := 1, cells := 0, slots := 0, locals := 15 })).room s m ([.long a0, .long a2] : List Value).toArray c cX11_gcd 11 RX11 A dC dI cI cL cB 1 15 := ⟨hx, hb, hml, hown, hts, hK, hT, hA, hF, hLo⟩
  refine startH (A := A) hP (fun H locs hP hS => ?_)
  rw [fX11_gcd] at hf
  refine lv_lload_n hx hb dX11_gcd_0 rfl (lv_at hl 0 rfl) ?_
  refine va_mabs_long hx hb (hml.trans hl.1.symm) hown (hts _ qm_X11_383) (hts _ qt_Lib_MathLoose_abs_long) (hts _ qz_Math) (hts _ qc_Lib_MathLoose_abs_long) (Nat.le_trans (Nat.le_of_ble_eq_true rfl) hF) (Nat.le_trans (Nat.le_of_ble_eq_true rfl) hLo) (Nat.zero_le _) (Nat.zero_le _) dX11_gcd_1 ?_
  refine lv_topl (fun v_1 ev_1 => ?_)
  replace hf := xl_at hf ev_1
  refine lv_lstore (lv' := [(4, .long v_1), (0, .long a0), (2, .long a2)]) hx hb dX11_gcd_4 hl (Nat.le_of_ble_eq_true rfl) rfl (fun ls hl => ?_)
  refine lv_lload_n hx hb dX11_gcd_6 rfl (lv_at hl 2 rfl) ?_
  refine va_mabs_long hx hb (hml.trans hl.1.symm) hown (hts _ qm_X11_383) (hts _ qt_Lib_MathLoose_abs_long) (hts _ qz_Math) (hts _ qc_Lib_MathLoose_abs_long) (Nat.le_trans (Nat.le_of_ble_eq_true rfl) hF) (Nat.le_trans (Nat.le_of_ble_eq_true rfl) hLo) (Nat.zero_le _) (Nat.zero_le _) dX11_gcd_7 ?_
  refine lv_topl (fun v_2 ev_2 => ?_)
  replace hf := xl_at hf ev_2
  refine lv_lstore (lv' := [(6, .long v_2), (4, .long v_1), (0, .long a0), (2, .long a2)]) hx hb dX11_gcd_10 hl (Nat.le_of_ble_eq_true rfl) rfl (fun ls hl => ?_)
  refine lv_iconst (v := (0 : Int32)) hx hb dX11_gcd_12 (by decide) ?_
  refine lv_istore (lv' := [(8, .int (0 : Int32)), (6, .long v_2), (4, .long v_1), (0, .long a0), (2, .long a2)]) hx hb dX11_gcd_13 hl (Nat.le_of_ble_eq_true rfl) rfl (fun ls hl => ?_)
  obtain ⟨l4_7, hq_6, hf⟩ := b1_some hf
  refine wX11_gcd_L15 C0  K v_1 v_2 (0 : Int32) l4_7 H locs ls hP hD hS (lv_sub hl [2, 1, 0] rfl) hq_6 ?_
  intro H locs ls hP hD hS hl
  refine lv_lload hx hb dX11_gcd_50 (lv_at hl 0 rfl) ?_
  obtain rfl := o1 hf
  exact W.lret hx hb hr (fun t ht hW => ⟨⟨_, (), rfl, rfl, by rw [ht]; exact hP, hD⟩, hS.F ht⟩) hS.2.2 dX11_gcd_52
theorem dX2_wholePlaces_0 : decode cX2_wholePlaces 0 = .ok (.iconst 0, 1) := by decide +kernel
theorem dX2_wholePlaces_1 : decode cX2_wholePlaces 1 = .ok (.istore_n 1, 1) := by decide +kernel
theorem dX2_wholePlaces_2 : decode cX2_wholePlaces 2 = .ok (.iconst 0, 1) := by decide +kernel
theorem dX2_wholePlaces_3 : decode cX2_wholePlaces 3 = .ok (.istore_n 2, 1) := by decide +kernel
theorem dX2_wholePlaces_4 : decode cX2_wholePlaces 4 = .ok (.iload_n 2, 1) := by decide +kernel
theorem dX2_wholePlaces_5 : decode cX2_wholePlaces 5 = .ok (.aload_n 0, 1) := by decide +kernel
theorem dX2_wholePlaces_6 : decode cX2_wholePlaces 6 = .ok (.getfield 38, 3) := by decide +kernel
theorem dX2_wholePlaces_9 : decode cX2_wholePlaces 9 = .ok (.if_icmp .ge 48, 3) := by decide +kernel
theorem dX2_wholePlaces_12 : decode cX2_wholePlaces 12 = .ok (.iload_n 1, 1) := by decide +kernel
theorem dX2_wholePlaces_13 : decode cX2_wholePlaces 13 = .ok (.aload_n 0, 1) := by decide +kernel
theorem dX2_wholePlaces_14 : decode cX2_wholePlaces 14 = .ok (.getfield 15, 3) := by decide +kernel
theorem dX2_wholePlaces_17 : decode cX2_wholePlaces 17 = .ok (.iload_n 2, 1) := by decide +kernel
theorem dX2_wholePlaces_18 : decode cX2_wholePlaces 18 = .ok (.iconst 1, 1) := by decide +kernel
theorem dX2_wholePlaces_19 : decode cX2_wholePlaces 19 = .ok (.iadd, 1) := by decide +kernel
theorem dX2_wholePlaces_20 : decode cX2_wholePlaces 20 = .ok (.iaload, 1) := by decide +kernel
theorem dX2_wholePlaces_21 : decode cX2_wholePlaces 21 = .ok (.aload_n 0, 1) := by decide +kernel
theorem dX2_wholePlaces_22 : decode cX2_wholePlaces 22 = .ok (.getfield 15, 3) := by decide +kernel
theorem dX2_wholePlaces_25 : decode cX2_wholePlaces 25 = .ok (.iload_n 2, 1) := by decide +kernel
theorem dX2_wholePlaces_26 : decode cX2_wholePlaces 26 = .ok (.iaload, 1) := by decide +kernel
theorem dX2_wholePlaces_27 : decode cX2_wholePlaces 27 = .ok (.isub, 1) := by decide +kernel
theorem dX2_wholePlaces_28 : decode cX2_wholePlaces 28 = .ok (.i2l, 1) := by decide +kernel
theorem dX2_wholePlaces_29 : decode cX2_wholePlaces 29 = .ok (.aload_n 0, 1) := by decide +kernel
theorem dX2_wholePlaces_30 : decode cX2_wholePlaces 30 = .ok (.getfield 18, 3) := by decide +kernel
theorem dX2_wholePlaces_33 : decode cX2_wholePlaces 33 = .ok (.iload_n 2, 1) := by decide +kernel
theorem dX2_wholePlaces_34 : decode cX2_wholePlaces 34 = .ok (.iconst 1, 1) := by decide +kernel
theorem dX2_wholePlaces_35 : decode cX2_wholePlaces 35 = .ok (.iadd, 1) := by decide +kernel
theorem dX2_wholePlaces_36 : decode cX2_wholePlaces 36 = .ok (.iaload, 1) := by decide +kernel
theorem dX2_wholePlaces_37 : decode cX2_wholePlaces 37 = .ok (.aload_n 0, 1) := by decide +kernel
theorem dX2_wholePlaces_38 : decode cX2_wholePlaces 38 = .ok (.getfield 18, 3) := by decide +kernel
theorem dX2_wholePlaces_41 : decode cX2_wholePlaces 41 = .ok (.iload_n 2, 1) := by decide +kernel
theorem dX2_wholePlaces_42 : decode cX2_wholePlaces 42 = .ok (.iaload, 1) := by decide +kernel
theorem dX2_wholePlaces_43 : decode cX2_wholePlaces 43 = .ok (.isub, 1) := by decide +kernel
theorem dX2_wholePlaces_44 : decode cX2_wholePlaces 44 = .ok (.i2l, 1) := by decide +kernel
theorem dX2_wholePlaces_45 : decode cX2_wholePlaces 45 = .ok (.invokestatic 56, 3) := by decide +kernel
theorem dX2_wholePlaces_48 : decode cX2_wholePlaces 48 = .ok (.l2i, 1) := by decide +kernel
theorem dX2_wholePlaces_49 : decode cX2_wholePlaces 49 = .ok (.iadd, 1) := by decide +kernel
theorem dX2_wholePlaces_50 : decode cX2_wholePlaces 50 = .ok (.istore_n 1, 1) := by decide +kernel
theorem dX2_wholePlaces_51 : decode cX2_wholePlaces 51 = .ok (.iinc 2 1, 3) := by decide +kernel
theorem dX2_wholePlaces_54 : decode cX2_wholePlaces 54 = .ok (.goto (-50), 3) := by decide +kernel
theorem dX2_wholePlaces_57 : decode cX2_wholePlaces 57 = .ok (.aload_n 0, 1) := by decide +kernel
theorem dX2_wholePlaces_58 : decode cX2_wholePlaces 58 = .ok (.invokevirtual 60, 3) := by decide +kernel
theorem dX2_wholePlaces_61 : decode cX2_wholePlaces 61 = .ok (.iload_n 1, 1) := by decide +kernel
theorem dX2_wholePlaces_62 : decode cX2_wholePlaces 62 = .ok (.iadd, 1) := by decide +kernel
theorem dX2_wholePlaces_63 : decode cX2_wholePlaces 63 = .ok (.iconst 2, 1) := by decide +kernel
theorem dX2_wholePlaces_64 : decode cX2_wholePlaces 64 = .ok (.idiv, 1) := by decide +kernel
theorem dX2_wholePlaces_65 : decode cX2_wholePlaces 65 = .ok (.iconst 1, 1) := by decide +kernel
theorem dX2_wholePlaces_66 : decode cX2_wholePlaces 66 = .ok (.iadd, 1) := by decide +kernel
theorem dX2_wholePlaces_67 : decode cX2_wholePlaces 67 = .ok (.ireturn, 1) := by decide +kernel
set_option maxRecDepth 100000 in
set_option maxHeartbeats 4000000 in
theorem wX2_wholePlaces_L4 {p : Program} {l : Launch} {e : Env} {R : Room} {s : State} {m : MethodId} {args : Array Value} {below : List Frame} {meth : Method} {c : Code} {Q : State → Prop} {A : Nat → Prop} {dC : Nat → ClassId} {dI : Nat → Nat → Nat} {cI cL cB : ClassId} {K : Nat} (C0 : Sx p R s m args c cX2_wholePlaces 3 RX2 A dC dI cI cL cB 2 45) (h_t h_t_chain h_t_x h_t_y h_t_sorted : Nat) (t_size : Int32) (t_x : Nat → Int32) (t_y : Nat → Int32) : ∀ (n : Nat) (l1 : Int32) (l2 : Int32) (x1_ : Int32) (H : Heap) (locs : List Loc) (ls : Array Slot), va_P (dC, dI) vwCl [(h_t, .inr (2, [.ref h_t_chain, .ref h_t_x, .ref h_t_y, .ref h_t_sorted, .int t_size])), (h_t_x, .inl (cI, 48, .inl t_x)), (h_t_y, .inl (cI, 48, .inl t_y))] H → va_D A [(h_t, .inr (2, [.ref h_t_chain, .ref h_t_x, .ref h_t_y, .ref h_t_sorted, .int t_size])), (h_t_x, .inl (cI, 48, .inl t_x)), (h_t_y, .inl (cI, 48, .inl t_y))] → va_S A s.heap H locs → lv_has ls 3 [(0, .ref h_t), (1, .int l1), (2, .int l2)] → fX2_wholePlaces_L4 K t_size t_x t_y n l1 l2 = some x1_ → (∀ (H : Heap) (locs : List Loc) (ls : Array Slot), va_P (dC, dI) vwCl [(h_t, .inr (2, [.ref h_t_chain, .ref h_t_x, .ref h_t_y, .ref h_t_sorted, .int t_size])), (h_t_x, .inl (cI, 48, .inl t_x)), (h_t_y, .inl (cI, 48, .inl t_y))] H → va_D A [(h_t, .inr (2, [.ref h_t_chain, .ref h_t_x, .ref h_t_y, .ref h_t_sorted, .int t_size])), (h_t_x, .inl (cI, 48, .inl t_x)), (h_t_y, .inl (cI, 48, .inl t_y))] → va_S A s.heap H locs → lv_has ls 3 [(0, .ref h_t), (1, .int x1_)] → W p l e R s m args below meth c H locs 0 0 Q (F0 m 57 ls [])) → W p l e R s m args below meth c H locs 0 0 Q (F0 m 4 ls []) := by
  obtain ⟨hx, hb, hml, hown, hts, hK, hT, hA, hF, hLo⟩ := id C0
  intro n
  induction n with
  | zero =>
    intro l1 l2 x1_ H locs ls hP hD hS hl hf
    rw [fX2_wholePlaces_L4] at hf
    cases hf
  | succ n ih =>
    intro l1 l2 x1_ H locs ls hP hD hS hl hf hk
    rw [fX2_wholePlaces_L4] at hf
    refine lv_iload_n hx hb dX2_wholePlaces_4 rfl (lv_at hl 2 rfl) ?_
    refine lv_aload_n hx hb dX2_wholePlaces_5 rfl (lv_at hl 0 rfl) ?_
    refine va_get (D := (dC, dI)) (ci := 2) (v := .int t_size) (C := RX2) (T := TX2) (N := 5) hx hb hts in_X2 hown hK hP 0 rfl rfl 4 (Nat.le_of_ble_eq_true rfl) (hts _ qf_X2_38) (fun _ h9 => h9) rfl dX2_wholePlaces_6 ?_
    refine lv_icmp_ge (tgt := 57) hx hb dX2_wholePlaces_9 (by decide) (fun hc => ?_) (fun hc => ?_)
    · replace hf := it_t (hc) hf
      obtain rfl := o1 hf
      exact hk H locs ls hP hD hS (lv_sub hl [0, 1] rfl)
    · replace hf := it_f (hc) hf
      refine lv_iload_n hx hb dX2_wholePlaces_12 rfl (lv_at hl 1 rfl) ?_
      refine lv_aload_n hx hb dX2_wholePlaces_13 rfl (lv_at hl 0 rfl) ?_
      refine va_get (D := (dC, dI)) (ci := 2) (v := .ref h_t_x) (C := RX2) (T := TX2) (N := 5) hx hb hts in_X2 hown hK hP 0 rfl rfl 1 (Nat.le_of_ble_eq_true rfl) (hts _ qf_X2_15) (fun _ h9 => h9) rfl dX2_wholePlaces_14 ?_
      refine lv_iload_n hx hb dX2_wholePlaces_17 rfl (lv_at hl 2 rfl) ?_
      refine lv_iconst (v := (1 : Int32)) hx hb dX2_wholePlaces_18 (by decide) ?_
      refine lv_iadd hx hb dX2_wholePlaces_19 ?_
      obtain ⟨hg_1, hf⟩ := gd_some hf
      refine va_iald hx hb hK hP 1 0 rfl rfl (inb_in hg_1) dX2_wholePlaces_20 ?_
      refine lv_aload_n hx hb dX2_wholePlaces_21 rfl (lv_at hl 0 rfl) ?_
      refine va_get (D := (dC, dI)) (ci := 2) (v := .ref h_t_x) (C := RX2) (T := TX2) (N := 5) hx hb hts in_X2 hown hK hP 0 rfl rfl 1 (Nat.le_of_ble_eq_true rfl) (hts _ qf_X2_15) (fun _ h9 => h9) rfl dX2_wholePlaces_22 ?_
      refine lv_iload_n hx hb dX2_wholePlaces_25 rfl (lv_at hl 2 rfl) ?_
      obtain ⟨hg_2, hf⟩ := gd_some hf
      refine va_iald hx hb hK hP 1 0 rfl rfl (inb_in hg_2) dX2_wholePlaces_26 ?_
      refine lv_isub hx hb dX2_wholePlaces_27 ?_
      refine lv_i2l hx hb dX2_wholePlaces_28 rfl ?_
      refine lv_aload_n hx hb dX2_wholePlaces_29 rfl (lv_at hl 0 rfl) ?_
      refine va_get (D := (dC, dI)) (ci := 2) (v := .ref h_t_y) (C := RX2) (T := TX2) (N := 5) hx hb hts in_X2 hown hK hP 0 rfl rfl 2 (Nat.le_of_ble_eq_true rfl) (hts _ qf_X2_18) (fun _ h9 => h9) rfl dX2_wholePlaces_30 ?_
      refine lv_iload_n hx hb dX2_wholePlaces_33 rfl (lv_at hl 2 rfl) ?_
      refine lv_iconst (v := (1 : Int32)) hx hb dX2_wholePlaces_34 (by decide) ?_
      refine lv_iadd hx hb dX2_wholePlaces_35 ?_
      obtain ⟨hg_3, hf⟩ := gd_some hf
      refine va_iald hx hb hK hP 2 0 rfl rfl (inb_in hg_3) dX2_wholePlaces_36 ?_
      refine lv_aload_n hx hb dX2_wholePlaces_37 rfl (lv_at hl 0 rfl) ?_
      refine va_get (D := (dC, dI)) (ci := 2) (v := .ref h_t_y) (C := RX2) (T := TX2) (N := 5) hx hb hts in_X2 hown hK hP 0 rfl rfl 2 (Nat.le_of_ble_eq_true rfl) (hts _ qf_X2_18) (fun _ h9 => h9) rfl dX2_wholePlaces_38 ?_
      refine lv_iload_n hx hb dX2_wholePlaces_41 rfl (lv_at hl 2 rfl) ?_
      obtain ⟨hg_4, hf⟩ := gd_some hf
      refine va_iald hx hb hK hP 2 0 rfl rfl (inb_in hg_4) dX2_wholePlaces_42 ?_
      refine lv_isub hx hb dX2_wholePlaces_43 ?_
      refine lv_i2l hx hb dX2_wholePlaces_44 rfl ?_
      obtain ⟨r_5, hq_6, hf⟩ := b1_some hf
      refine xcl (wr := [(h_t, .inr (2, [.ref h_t_chain, .ref h_t_x, .ref h_t_y, .ref h_t_sorted, .int t_size])), (h_t_x, .inl (cI, 48, .inl t_x)), (h_t_y, .inl (cI, 48, .inl t_y))]) (w2 := [(h_t, .inr (2, [.ref h_t_chain, .ref h_t_x, .ref h_t_y, .ref h_t_sorted, .int t_size])), (h_t_x, .inl (cI, 48, .inl t_x)), (h_t_y, .inl (cI, 48, .inl t_y))]) (va_runSN (As := [.long (((t_x (l2 + (1 : Int32)).toNatClampNeg) - (t_x l2.toNatClampNeg)).toInt64), .long (((t_y (l2 + (1 : Int32)).toNatClampNeg) - (t_y l2.toNatClampNeg)).toInt64)]) (rest := [.int l1]) ⟨hx, hb, hml, hown, hts⟩ (mtX11_gcd l dC dI cI cL cB K H.size (((t_x (l2 + (1 : Int32)).toNatClampNeg) - (t_x l2.toNatClampNeg)).toInt64) (((t_y (l2 + (1 : Int32)).toNatClampNeg) - (t_y l2.toNatClampNeg)).toInt64) r_5 hq_6) ⟨va_cnB 2 hts (gcode qc_X11_gcd) rfl rfl rfl (hT _ qm_X2_56) (hts _ qz_X11) hdS_X11_gcd ⟨Nat.le_trans (Nat.le_of_ble_eq_true rfl) hF, Nat.le_trans (Nat.le_of_ble_eq_true rfl) hLo⟩, hts _ qt_X11_gcd, trivial⟩ (cPreS hK hP hD hT [] rfl rfl) rfl rfl hl.1 rfl (lv_room (Nat.le_of_ble_eq_true rfl)) dX2_wholePlaces_45 ⟨Nat.zero_le _, Nat.zero_le _⟩) hP hD hS hA [] [0, 1, 2] [0, 1, 2] rfl rfl rfl rfl rfl rfl (fun H locs hP hD hS => ?_)
      refine lv_l2i hx hb dX2_wholePlaces_48 rfl ?_
      refine lv_iadd hx hb dX2_wholePlaces_49 ?_
      refine lv_topi (fun l1_7 el1_7 => ?_)
      replace hf := xl_at hf el1_7
      refine lv_istore_n (lv' := [(1, .int l1_7), (0, .ref h_t), (2, .int l2)]) hx hb dX2_wholePlaces_50 rfl hl (Nat.le_of_ble_eq_true rfl) rfl (fun ls hl => ?_)
      obtain ⟨l2_8, el2_8⟩ : ∃ y : Int32, y = l2 + (1 : Int32) := ⟨_, rfl⟩
      replace hf := xl_at hf el2_8
      refine lv_iinc (v := l2_8) (lv' := [(2, .int l2_8), (1, .int l1_7), (0, .ref h_t)]) hx hb dX2_wholePlaces_51 hl (k := 2) rfl (by rw [el2_8]; rfl) (Nat.le_of_ble_eq_true rfl) rfl (fun ls hl => ?_)
      refine lv_goto (tgt := 4) hx hb dX2_wholePlaces_54 (by decide) ?_
      exact ih l1_7 l2_8 _ H locs ls hP hD hS (lv_sub hl [2, 1, 0] rfl) hf hk
set_option maxRecDepth 100000 in
set_option maxHeartbeats 4000000 in
theorem mtX2_wholePlaces (l : Launch) (dC : Nat → ClassId) (dI : Nat → Nat → Nat) (cI cL cB : ClassId) (K : Nat) (h_t h_t_chain h_t_x h_t_y h_t_sorted : Nat) (sz : Nat) (t_size : Int32) (t_x : Nat → Int32) (t_y : Nat → Int32) (o_r : Int32) (hf : fX2_wholePlaces K t_size t_x t_y = some o_r) : Met l yX2_wholePlaces [Cond.code yX2_wholePlaces cX2_wholePlaces 3 (some .int)] ({ frames := 2, cells := 0, slots := 0, locals := 45 }) (va_Pc [.ref h_t] (cPre dC dI cI cL cB sz [(h_t, .inr (2, [.ref h_t_chain, .ref h_t_x, .ref h_t_y, .ref h_t_sorted, .int t_size])), (h_t_x, .inl (cI, 48, .inl t_x)), (h_t_y, .inl (cI, 48, .inl t_y))])) (cQi dC dI (va_A [(h_t, .inr (2, [.ref h_t_chain, .ref h_t_x, .ref h_t_y, .ref h_t_sorted, .int t_size])), (h_t_x, .inl (cI, 48, .inl t_x)), (h_t_y, .inl (cI, 48, .inl t_y))] sz) o_r [(h_t, .inr (2, [.ref h_t_chain, .ref h_t_x, .ref h_t_y, .ref h_t_sorted, .int t_size])), (h_t_x, .inl (cI, 48, .inl t_x)), (h_t_y, .inl (cI, 48, .inl t_y))]) 0 0 (va_A [(h_t, .inr (2, [.ref h_t_chain, .ref h_t_x, .ref h_t_y, .ref h_t_sorted, .int t_size])), (h_t_x, .inl (cI, 48, .inl t_x)), (h_t_y, .inl (cI, 48, .inl t_y))] sz) := by
  refine Met.ofW (cc := cX2_wholePlaces) (maxL := 3) (ret := (some .int)) (by decide) rfl ?_
  intro p e s m args below meth c s₁ B hml hv
  obtain ⟨rfl, hsz, hP, hK, hD0, hT⟩ := hv
  have hx := B.exec
  have hb := B.bytes
  have hr := B.returns
  have hown : s.vm.findClass RX2 = some m.cls := findClass_of_methodNamed B.named
  have hlocks := B.notSynchronized
  have hts := TB.use hT ([.ref h_t] : List Value).toArray
  subst hsz
  have hD := hD0.self (sz := s.heap.size)
  generalize hAe : va_A [(h_t, .inr (2, [.ref h_t_chain, .ref h_t_x, .ref h_t_y, .ref h_t_sorted, .int t_size])), (h_t_x, .inl (cI, 48, .inl t_x)), (h_t_y, .inl (cI, 48, .inl t_y))] s.heap.size = A at hD ⊢
  have hA : ∀ q : Nat, s.heap.size ≤ q → A q := fun q h => by rw [← hAe]; exact Or.inr h
  clear hAe hD0
  have hl := lv_entry ([.ref h_t]) (n := 3) (Nat.le_of_ble_eq_true rfl)
  rw [lg_entry_eq]
  generalize (lg_sl ([.ref h_t]) ++ List.replicate (3 - (lg_sl ([.ref h_t])).length) Slot.unset).toArray = ls at hl ⊢
  have hl : lv_has ls 3 [(0, .ref h_t)] := hl
  have hF : 2 ≤ (headSpec [Cond.code yX2_wholePlaces cX2_wholePlaces 3 (some .int)] ({ frames := 2, cells := 0, slots := 0, locals := 45 })).room.frames := Nat.le_refl _
  have hLo : 45 ≤ (headSpec [Cond.code yX2_wholePlaces cX2_wholePlaces 3 (some .int)] ({ frames := 2, cells := 0, slots := 0, locals := 45 })).room.locals := Nat.le_refl _
  have C0 : Sx p (headSpec [Cond.code yX2_wholePlaces cX2_wholePlaces 3 (some .int)] ({ frames := 2, cells := 0, slots := 0, locals := 45 })).room s m ([.ref h_t] : List Value).toArray c cX2_wholePlaces 3 RX2 A dC dI cI cL cB 2 45 := ⟨hx, hb, hml, hown, hts, hK, hT, hA, hF, hLo⟩
  refine startH (A := A) hP (fun H locs hP hS => ?_)
  rw [fX2_wholePlaces] at hf
  refine lv_iconst (v := (0 : Int32)) hx hb dX2_wholePlaces_0 (by decide) ?_
  refine lv_istore_n (lv' := [(1, .int (0 : Int32)), (0, .ref h_t)]) hx hb dX2_wholePlaces_1 rfl hl (Nat.le_of_ble_eq_true rfl) rfl (fun ls hl => ?_)
  refine lv_iconst (v := (0 : Int32)) hx hb dX2_wholePlaces_2 (by decide) ?_
  refine lv_istore_n (lv' := [(2, .int (0 : Int32)), (1, .int (0 : Int32)), (0, .ref h_t)]) hx hb dX2_wholePlaces_3 rfl hl (Nat.le_of_ble_eq_true rfl) rfl (fun ls hl => ?_)
  obtain ⟨l1_10, hq_9, hf⟩ := b1_some hf
  refine wX2_wholePlaces_L4 C0 h_t h_t_chain h_t_x h_t_y h_t_sorted t_size t_x t_y K (0 : Int32) (0 : Int32) l1_10 H locs ls hP hD hS (lv_sub hl [2, 1, 0] rfl) hq_9 ?_
  intro H locs ls hP hD hS hl
  refine lv_aload_n hx hb dX2_wholePlaces_57 rfl (lv_at hl 0 rfl) ?_
  obtain ⟨r_11, hq_12, hf⟩ := b1_some hf
  refine xci (wr := []) (w2 := [(h_t, .inr (2, [.ref h_t_chain, .ref h_t_x, .ref h_t_y, .ref h_t_sorted, .int t_size])), (h_t_x, .inl (cI, 48, .inl t_x)), (h_t_y, .inl (cI, 48, .inl t_y))]) (va_runV (As := []) (rest := []) ⟨hx, hb, hml, hown, hts⟩ (mtX2_doubleArea l dC dI cI cL cB K h_t h_t_chain h_t_x h_t_y h_t_sorted H.size t_size t_x t_y r_11 hq_12) (cwV 0 hts gv_X2_60 rfl rfl rfl hdV_X2_doubleArea ⟨Nat.le_trans (Nat.le_of_ble_eq_true rfl) hF, Nat.le_trans (Nat.le_of_ble_eq_true rfl) hLo⟩) (cPreV hK hP hD hT [0, 1, 2] rfl rfl (ci := 2) (q0 := 0) rfl rfl) rfl rfl hl.1 rfl (lv_room (Nat.le_of_ble_eq_true rfl)) dX2_wholePlaces_58 ⟨Nat.zero_le _, Nat.zero_le _⟩) hP hD hS hA [0, 1, 2] [] [0, 1, 2] rfl rfl rfl rfl rfl rfl (fun H locs hP hD hS => ?_)
  refine lv_iload_n hx hb dX2_wholePlaces_61 rfl (lv_at hl 1 rfl) ?_
  refine lv_iadd hx hb dX2_wholePlaces_62 ?_
  refine lv_iconst (v := (2 : Int32)) hx hb dX2_wholePlaces_63 (by decide) ?_
  refine lv_idiv hx hb dX2_wholePlaces_64 (by decide) ?_
  refine lv_iconst (v := (1 : Int32)) hx hb dX2_wholePlaces_65 (by decide) ?_
  refine lv_iadd hx hb dX2_wholePlaces_66 ?_
  obtain rfl := o1 hf
  exact W.iret hx hb hr (fun t ht hW => ⟨⟨_, (), rfl, rfl, by rw [ht]; exact hP, hD⟩, hS.F ht⟩) hS.2.2 dX2_wholePlaces_67
theorem dX11_places_0 : decode cX11_places 0 = .ok (.aload_n 0, 1) := by decide +kernel
theorem dX11_places_1 : decode cX11_places 1 = .ok (.getfield 12, 3) := by decide +kernel
theorem dX11_places_4 : decode cX11_places 4 = .ok (.iload_n 1, 1) := by decide +kernel
theorem dX11_places_5 : decode cX11_places 5 = .ok (.invokevirtual 152, 3) := by decide +kernel
theorem dX11_places_8 : decode cX11_places 8 = .ok (.ifCond .ne 6, 3) := by decide +kernel
theorem dX11_places_11 : decode cX11_places 11 = .ok (.bipush (-2), 2) := by decide +kernel
theorem dX11_places_13 : decode cX11_places 13 = .ok (.ireturn, 1) := by decide +kernel
theorem dX11_places_14 : decode cX11_places 14 = .ok (.aload_n 0, 1) := by decide +kernel
theorem dX11_places_15 : decode cX11_places 15 = .ok (.getfield 28, 3) := by decide +kernel
theorem dX11_places_18 : decode cX11_places 18 = .ok (.aload_n 0, 1) := by decide +kernel
theorem dX11_places_19 : decode cX11_places 19 = .ok (.getfield 12, 3) := by decide +kernel
theorem dX11_places_22 : decode cX11_places 22 = .ok (.iload_n 1, 1) := by decide +kernel
theorem dX11_places_23 : decode cX11_places 23 = .ok (.invokevirtual 155, 3) := by decide +kernel
theorem dX11_places_26 : decode cX11_places 26 = .ok (.aload_n 0, 1) := by decide +kernel
theorem dX11_places_27 : decode cX11_places 27 = .ok (.getfield 28, 3) := by decide +kernel
theorem dX11_places_30 : decode cX11_places 30 = .ok (.invokevirtual 166, 3) := by decide +kernel
theorem dX11_places_33 : decode cX11_places 33 = .ok (.ireturn, 1) := by decide +kernel
set_option maxRecDepth 100000 in
set_option maxHeartbeats 4000000 in
theorem mtX11_places (l : Launch) (dC : Nat → ClassId) (dI : Nat → Nat → Nat) (cI cL cB : ClassId) (K : Nat) (h_t h_t_cloud h_t_reader h_t_hull h_t_near h_t_firstTie h_t_reducer h_t_chooser h_t_pair h_t_divider h_t_depths h_t_spot h_t_cloud_x h_t_cloud_y h_t_cloud_colour h_t_cloud_load h_t_hull_chain h_t_hull_x h_t_hull_y h_t_hull_sorted : Nat) (sz : Nat) (t_cloud_size : Int32) (t_cloud_centreX : Int32) (t_cloud_centreY : Int32) (t_cloud_x : Nat → Int32) (t_cloud_y : Nat → Int32) (t_hull_size : Int32) (t_hull_chain : Nat → Int32) (t_hull_x : Nat → Int32) (t_hull_y : Nat → Int32) (t_hull_sorted : Nat → Int32) (a1 : Int32) (o_r : Int32) (o_t_hull_size : Int32) (o_t_hull_chain : Nat → Int32) (o_t_hull_x : Nat → Int32) (o_t_hull_y : Nat → Int32) (o_t_hull_sorted : Nat → Int32) (hf : fX11_places K t_cloud_size t_cloud_x t_cloud_y t_hull_size t_hull_chain t_hull_x t_hull_y t_hull_sorted a1 = some (o_r, o_t_hull_size, o_t_hull_chain, o_t_hull_x, o_t_hull_y, o_t_hull_sorted)) : Met l yX11_places [Cond.code yX11_places cX11_places 2 (some .int)] ({ frames := 3, cells := 0, slots := 0, locals := 75 }) (va_Pc [.ref h_t, .int a1] (cPre dC dI cI cL cB sz [(h_t, .inr (11, [.ref h_t_cloud, .ref h_t_reader, .ref h_t_hull, .ref h_t_near, .ref h_t_firstTie, .ref h_t_reducer, .ref h_t_chooser, .ref h_t_pair, .ref h_t_divider, .ref h_t_depths, .ref h_t_spot])), (h_t_cloud, .inr (0, [.ref h_t_cloud_x, .ref h_t_cloud_y, .ref h_t_cloud_colour, .ref h_t_cloud_load, .int t_cloud_size, .int t_cloud_centreX, .int t_cloud_centreY])), (h_t_cloud_x, .inl (cI, 24, .inl t_cloud_x)), (h_t_cloud_y, .inl (cI, 24, .inl t_cloud_y)), (h_t_hull, .inr (2, [.ref h_t_hull_chain, .ref h_t_hull_x, .ref h_t_hull_y, .ref h_t_hull_sorted, .int t_hull_size])), (h_t_hull_chain, .inl (cI, 48, .inl t_hull_chain)), (h_t_hull_x, .inl (cI, 48, .inl t_hull_x)), (h_t_hull_y, .inl (cI, 48, .inl t_hull_y)), (h_t_hull_sorted, .inl (cI, 24, .inl t_hull_sorted))])) (cQi dC dI (va_A [(h_t, .inr (11, [.ref h_t_cloud, .ref h_t_reader, .ref h_t_hull, .ref h_t_near, .ref h_t_firstTie, .ref h_t_reducer, .ref h_t_chooser, .ref h_t_pair, .ref h_t_divider, .ref h_t_depths, .ref h_t_spot])), (h_t_cloud, .inr (0, [.ref h_t_cloud_x, .ref h_t_cloud_y, .ref h_t_cloud_colour, .ref h_t_cloud_load, .int t_cloud_size, .int t_cloud_centreX, .int t_cloud_centreY])), (h_t_cloud_x, .inl (cI, 24, .inl t_cloud_x)), (h_t_cloud_y, .inl (cI, 24, .inl t_cloud_y)), (h_t_hull, .inr (2, [.ref h_t_hull_chain, .ref h_t_hull_x, .ref h_t_hull_y, .ref h_t_hull_sorted, .int t_hull_size])), (h_t_hull_chain, .inl (cI, 48, .inl t_hull_chain)), (h_t_hull_x, .inl (cI, 48, .inl t_hull_x)), (h_t_hull_y, .inl (cI, 48, .inl t_hull_y)), (h_t_hull_sorted, .inl (cI, 24, .inl t_hull_sorted))] sz) o_r [(h_t, .inr (11, [.ref h_t_cloud, .ref h_t_reader, .ref h_t_hull, .ref h_t_near, .ref h_t_firstTie, .ref h_t_reducer, .ref h_t_chooser, .ref h_t_pair, .ref h_t_divider, .ref h_t_depths, .ref h_t_spot])), (h_t_cloud, .inr (0, [.ref h_t_cloud_x, .ref h_t_cloud_y, .ref h_t_cloud_colour, .ref h_t_cloud_load, .int t_cloud_size, .int t_cloud_centreX, .int t_cloud_centreY])), (h_t_cloud_x, .inl (cI, 24, .inl t_cloud_x)), (h_t_cloud_y, .inl (cI, 24, .inl t_cloud_y)), (h_t_hull, .inr (2, [.ref h_t_hull_chain, .ref h_t_hull_x, .ref h_t_hull_y, .ref h_t_hull_sorted, .int o_t_hull_size])), (h_t_hull_chain, .inl (cI, 48, .inl o_t_hull_chain)), (h_t_hull_x, .inl (cI, 48, .inl o_t_hull_x)), (h_t_hull_y, .inl (cI, 48, .inl o_t_hull_y)), (h_t_hull_sorted, .inl (cI, 24, .inl o_t_hull_sorted))]) 0 0 (va_A [(h_t, .inr (11, [.ref h_t_cloud, .ref h_t_reader, .ref h_t_hull, .ref h_t_near, .ref h_t_firstTie, .ref h_t_reducer, .ref h_t_chooser, .ref h_t_pair, .ref h_t_divider, .ref h_t_depths, .ref h_t_spot])), (h_t_cloud, .inr (0, [.ref h_t_cloud_x, .ref h_t_cloud_y, .ref h_t_cloud_colour, .ref h_t_cloud_load, .int t_cloud_size, .int t_cloud_centreX, .int t_cloud_centreY])), (h_t_cloud_x, .inl (cI, 24, .inl t_cloud_x)), (h_t_cloud_y, .inl (cI, 24, .inl t_cloud_y)), (h_t_hull, .inr (2, [.ref h_t_hull_chain, .ref h_t_hull_x, .ref h_t_hull_y, .ref h_t_hull_sorted, .int t_hull_size])), (h_t_hull_chain, .inl (cI, 48, .inl t_hull_chain)), (h_t_hull_x, .inl (cI, 48, .inl t_hull_x)), (h_t_hull_y, .inl (cI, 48, .inl t_hull_y)), (h_t_hull_sorted, .inl (cI, 24, .inl t_hull_sorted))] sz) := by
  refine Met.ofW (cc := cX11_places) (maxL := 2) (ret := (some .int)) (by decide) rfl ?_
  intro p e s m args below meth c s₁ B hml hv
  obtain ⟨rfl, hsz, hP, hK, hD0, hT⟩ := hv
  have hx := B.exec
  have hb := B.bytes
  have hr := B.returns
  have hown : s.vm.findClass RX11 = some m.cls := findClass_of_methodNamed B.named
  have hlocks := B.notSynchronized
  have hts := TB.use hT ([.ref h_t, .int a1] : List Value).toArray
  subst hsz
  have hD := hD0.self (sz := s.heap.size)
  generalize hAe : va_A [(h_t, .inr (11, [.ref h_t_cloud, .ref h_t_reader, .ref h_t_hull, .ref h_t_near, .ref h_t_firstTie, .ref h_t_reducer, .ref h_t_chooser, .ref h_t_pair, .ref h_t_divider, .ref h_t_depths, .ref h_t_spot])), (h_t_cloud, .inr (0, [.ref h_t_cloud_x, .ref h_t_cloud_y, .ref h_t_cloud_colour, .ref h_t_cloud_load, .int t_cloud_size, .int t_cloud_centreX, .int t_cloud_centreY])), (h_t_cloud_x, .inl (cI, 24, .inl t_cloud_x)), (h_t_cloud_y, .inl (cI, 24, .inl t_cloud_y)), (h_t_hull, .inr (2, [.ref h_t_hull_chain, .ref h_t_hull_x, .ref h_t_hull_y, .ref h_t_hull_sorted, .int t_hull_size])), (h_t_hull_chain, .inl (cI, 48, .inl t_hull_chain)), (h_t_hull_x, .inl (cI, 48, .inl t_hull_x)), (h_t_hull_y, .inl (cI, 48, .inl t_hull_y)), (h_t_hull_sorted, .inl (cI, 24, .inl t_hull_sorted))] s.heap.size = A at hD ⊢
  have hA : ∀ q : Nat, s.heap.size ≤ q → A q := fun q h => by rw [← hAe]; exact Or.inr h
  clear hAe hD0
  have hl := lv_entry ([.ref h_t, .int a1]) (n := 2) (Nat.le_of_ble_eq_true rfl)
  rw [lg_entry_eq]
  generalize (lg_sl ([.ref h_t, .int a1]) ++ List.replicate (2 - (lg_sl ([.ref h_t, .int a1])).length) Slot.unset).toArray = ls at hl ⊢
  have hl : lv_has ls 2 [(0, .ref h_t), (1, .int a1)] := hl
  have hF : 3 ≤ (headSpec [Cond.code yX11_places cX11_places 2 (some .int)] ({ frames := 3, cells := 0, slots := 0, locals := 75 })).room.frames := Nat.le_refl _
  have hLo : 75 ≤ (headSpec [Cond.code yX11_places cX11_places 2 (some .int)] ({ frames := 3, cells := 0, slots := 0, locals := 75 })).room.locals := Nat.le_refl _
  have C0 : Sx p (headSpec [Cond.code yX11_places cX11_places 2 (some .int)] ({ frames := 3, cells := 0, slots := 0, locals := 75 })).room s m ([.ref h_t, .int a1] : List Value).toArray c cX11_places 2 RX11 A dC dI cI cL cB 3 75 := ⟨hx, hb, hml, hown, hts, hK, hT, hA, hF, hLo⟩
  refine startH (A := A) hP (fun H locs hP hS => ?_)
  rw [fX11_places] at hf
  refine lv_aload_n hx hb dX11_places_0 rfl (lv_at hl 0 rfl) ?_
  refine va_get (D := (dC, dI)) (ci := 11) (v := .ref h_t_cloud) (C := RX11) (T := TX11) (N := 11) hx hb hts in_X11 hown hK hP 0 rfl rfl 0 (Nat.le_of_ble_eq_true rfl) (hts _ qf_X11_12) (fun _ h9 => h9) rfl dX11_places_1 ?_
  refine lv_iload_n hx hb dX11_places_4 rfl (lv_at hl 1 rfl) ?_
  obtain ⟨r_1, hq_2, hf⟩ := b1_some hf
  refine xci (wr := [(h_t, .inr (11, [.ref h_t_cloud, .ref h_t_reader, .ref h_t_hull, .ref h_t_near, .ref h_t_firstTie, .ref h_t_reducer, .ref h_t_chooser, .ref h_t_pair, .ref h_t_divider, .ref h_t_depths, .ref h_t_spot])), (h_t_cloud_x, .inl (cI, 24, .inl t_cloud_x)), (h_t_cloud_y, .inl (cI, 24, .inl t_cloud_y)), (h_t_hull, .inr (2, [.ref h_t_hull_chain, .ref h_t_hull_x, .ref h_t_hull_y, .ref h_t_hull_sorted, .int t_hull_size])), (h_t_hull_chain, .inl (cI, 48, .inl t_hull_chain)), (h_t_hull_x, .inl (cI, 48, .inl t_hull_x)), (h_t_hull_y, .inl (cI, 48, .inl t_hull_y)), (h_t_hull_sorted, .inl (cI, 24, .inl t_hull_sorted))]) (w2 := [(h_t, .inr (11, [.ref h_t_cloud, .ref h_t_reader, .ref h_t_hull, .ref h_t_near, .ref h_t_firstTie, .ref h_t_reducer, .ref h_t_chooser, .ref h_t_pair, .ref h_t_divider, .ref h_t_depths, .ref h_t_spot])), (h_t_cloud, .inr (0, [.ref h_t_cloud_x, .ref h_t_cloud_y, .ref h_t_cloud_colour, .ref h_t_cloud_load, .int t_cloud_size, .int t_cloud_centreX, .int t_cloud_centreY])), (h_t_cloud_x, .inl (cI, 24, .inl t_cloud_x)), (h_t_cloud_y, .inl (cI, 24, .inl t_cloud_y)), (h_t_hull, .inr (2, [.ref h_t_hull_chain, .ref h_t_hull_x, .ref h_t_hull_y, .ref h_t_hull_sorted, .int t_hull_size])), (h_t_hull_chain, .inl (cI, 48, .inl t_hull_chain)), (h_t_hull_x, .inl (cI, 48, .inl t_hull_x)), (h_t_hull_y, .inl (cI, 48, .inl t_hull_y)), (h_t_hull_sorted, .inl (cI, 24, .inl t_hull_sorted))]) (va_runV (As := [.int a1]) (rest := []) ⟨hx, hb, hml, hown, hts⟩ (mtX0_hasSet l dC dI cI cL cB K h_t_cloud h_t_cloud_x h_t_cloud_y h_t_cloud_colour h_t_cloud_load H.size t_cloud_size t_cloud_centreX t_cloud_centreY a1 r_1 hq_2) (cwV 1 hts gv_X11_152 rfl rfl rfl hdV_X0_hasSet ⟨Nat.le_trans (Nat.le_of_ble_eq_true rfl) hF, Nat.le_trans (Nat.le_of_ble_eq_true rfl) hLo⟩) (cPreV hK hP hD hT [1] rfl rfl (ci := 0) (q0 := 0) rfl rfl) rfl rfl hl.1 rfl (lv_room (Nat.le_of_ble_eq_true rfl)) dX11_places_5 ⟨Nat.zero_le _, Nat.zero_le _⟩) hP hD hS hA [1] [0, 2, 3, 4, 5, 6, 7, 8] [0, 8, 1, 2, 3, 4, 5, 6, 7] rfl rfl rfl rfl rfl rfl (fun H locs hP hD hS => ?_)
  refine lv_if_ne (tgt := 14) hx hb dX11_places_8 (by decide) (fun hc => ?_) (fun hc => ?_)
  · replace hf := it_f (hc) hf
    refine lv_aload_n hx hb dX11_places_14 rfl (lv_at hl 0 rfl) ?_
    refine va_get (D := (dC, dI)) (ci := 11) (v := .ref h_t_hull) (C := RX11) (T := TX11) (N := 11) hx hb hts in_X11 hown hK hP 0 rfl rfl 2 (Nat.le_of_ble_eq_true rfl) (hts _ qf_X11_28) (fun _ h9 => h9) rfl dX11_places_15 ?_
    refine lv_aload_n hx hb dX11_places_18 rfl (lv_at hl 0 rfl) ?_
    refine va_get (D := (dC, dI)) (ci := 11) (v := .ref h_t_cloud) (C := RX11) (T := TX11) (N := 11) hx hb hts in_X11 hown hK hP 0 rfl rfl 0 (Nat.le_of_ble_eq_true rfl) (hts _ qf_X11_12) (fun _ h9 => h9) rfl dX11_places_19 ?_
    refine lv_iload_n hx hb dX11_places_22 rfl (lv_at hl 1 rfl) ?_
    obtain ⟨t_hull_size_3, t_hull_chain_4, t_hull_x_5, t_hull_y_6, t_hull_sorted_7, hq_8, hf⟩ := b5_some hf
    refine xcv (wr := [(h_t, .inr (11, [.ref h_t_cloud, .ref h_t_reader, .ref h_t_hull, .ref h_t_near, .ref h_t_firstTie, .ref h_t_reducer, .ref h_t_chooser, .ref h_t_pair, .ref h_t_divider, .ref h_t_depths, .ref h_t_spot]))]) (w2 := [(h_t, .inr (11, [.ref h_t_cloud, .ref h_t_reader, .ref h_t_hull, .ref h_t_near, .ref h_t_firstTie, .ref h_t_reducer, .ref h_t_chooser, .ref h_t_pair, .ref h_t_divider, .ref h_t_depths, .ref h_t_spot])), (h_t_cloud, .inr (0, [.ref h_t_cloud_x, .ref h_t_cloud_y, .ref h_t_cloud_colour, .ref h_t_cloud_load, .int t_cloud_size, .int t_cloud_centreX, .int t_cloud_centreY])), (h_t_cloud_x, .inl (cI, 24, .inl t_cloud_x)), (h_t_cloud_y, .inl (cI, 24, .inl t_cloud_y)), (h_t_hull, .inr (2, [.ref h_t_hull_chain, .ref h_t_hull_x, .ref h_t_hull_y, .ref h_t_hull_sorted, .int t_hull_size_3])), (h_t_hull_chain, .inl (cI, 48, .inl t_hull_chain_4)), (h_t_hull_x, .inl (cI, 48, .inl t_hull_x_5)), (h_t_hull_y, .inl (cI, 48, .inl t_hull_y_6)), (h_t_hull_sorted, .inl (cI, 24, .inl t_hull_sorted_7))]) (va_runV (As := [.ref h_t_cloud, .int a1]) (rest := []) ⟨hx, hb, hml, hown, hts⟩ (mtX2_build l dC dI cI cL cB K h_t_hull h_t_hull_chain h_t_hull_x h_t_hull_y h_t_hull_sorted h_t_cloud h_t_cloud_x h_t_cloud_y h_t_cloud_colour h_t_cloud_load H.size t_hull_size t_hull_chain t_hull_x t_hull_y t_hull_sorted t_cloud_size t_cloud_centreX t_cloud_centreY t_cloud_x t_cloud_y a1 t_hull_size_3 t_hull_chain_4 t_hull_x_5 t_hull_y_6 t_hull_sorted_7 hq_8) (cwV 2 hts gv_X11_155 rfl rfl rfl hdV_X2_build ⟨Nat.le_trans (Nat.le_of_ble_eq_true rfl) hF, Nat.le_trans (Nat.le_of_ble_eq_true rfl) hLo⟩) (cPreV hK hP hD hT [4, 5, 6, 7, 8, 1, 2, 3] rfl rfl (ci := 2) (q0 := 0) rfl rfl) rfl rfl hl.1 rfl (lv_room (Nat.le_of_ble_eq_true rfl)) dX11_places_23 ⟨Nat.zero_le _, Nat.zero_le _⟩) hP hD hS hA [4, 5, 6, 7, 8, 1, 2, 3] [0] [0, 6, 7, 8, 1, 2, 3, 4, 5] rfl rfl rfl rfl rfl rfl (fun H locs hP hD hS => ?_)
    refine lv_aload_n hx hb dX11_places_26 rfl (lv_at hl 0 rfl) ?_
    refine va_get (D := (dC, dI)) (ci := 11) (v := .ref h_t_hull) (C := RX11) (T := TX11) (N := 11) hx hb hts in_X11 hown hK hP 0 rfl rfl 2 (Nat.le_of_ble_eq_true rfl) (hts _ qf_X11_28) (fun _ h9 => h9) rfl dX11_places_27 ?_
    obtain ⟨r_9, hq_10, hf⟩ := b1_some hf
    refine xci (wr := [(h_t, .inr (11, [.ref h_t_cloud, .ref h_t_reader, .ref h_t_hull, .ref h_t_near, .ref h_t_firstTie, .ref h_t_reducer, .ref h_t_chooser, .ref h_t_pair, .ref h_t_divider, .ref h_t_depths, .ref h_t_spot])), (h_t_cloud, .inr (0, [.ref h_t_cloud_x, .ref h_t_cloud_y, .ref h_t_cloud_colour, .ref h_t_cloud_load, .int t_cloud_size, .int t_cloud_centreX, .int t_cloud_centreY])), (h_t_cloud_x, .inl (cI, 24, .inl t_cloud_x)), (h_t_cloud_y, .inl (cI, 24, .inl t_cloud_y)), (h_t_hull_chain, .inl (cI, 48, .inl t_hull_chain_4)), (h_t_hull_sorted, .inl (cI, 24, .inl t_hull_sorted_7))]) (w2 := [(h_t, .inr (11, [.ref h_t_cloud, .ref h_t_reader, .ref h_t_hull, .ref h_t_near, .ref h_t_firstTie, .ref h_t_reducer, .ref h_t_chooser, .ref h_t_pair, .ref h_t_divider, .ref h_t_depths, .ref h_t_spot])), (h_t_cloud, .inr (0, [.ref h_t_cloud_x, .ref h_t_cloud_y, .ref h_t_cloud_colour, .ref h_t_cloud_load, .int t_cloud_size, .int t_cloud_centreX, .int t_cloud_centreY])), (h_t_cloud_x, .inl (cI, 24, .inl t_cloud_x)), (h_t_cloud_y, .inl (cI, 24, .inl t_cloud_y)), (h_t_hull, .inr (2, [.ref h_t_hull_chain, .ref h_t_hull_x, .ref h_t_hull_y, .ref h_t_hull_sorted, .int t_hull_size_3])), (h_t_hull_chain, .inl (cI, 48, .inl t_hull_chain_4)), (h_t_hull_x, .inl (cI, 48, .inl t_hull_x_5)), (h_t_hull_y, .inl (cI, 48, .inl t_hull_y_6)), (h_t_hull_sorted, .inl (cI, 24, .inl t_hull_sorted_7))]) (va_runV (As := []) (rest := []) ⟨hx, hb, hml, hown, hts⟩ (mtX2_wholePlaces l dC dI cI cL cB K h_t_hull h_t_hull_chain h_t_hull_x h_t_hull_y h_t_hull_sorted H.size t_hull_size_3 t_hull_x_5 t_hull_y_6 r_9 hq_10) (cwV 0 hts gv_X11_166 rfl rfl rfl hdV_X2_wholePlaces ⟨Nat.le_trans (Nat.le_of_ble_eq_true rfl) hF, Nat.le_trans (Nat.le_of_ble_eq_true rfl) hLo⟩) (cPreV hK hP hD hT [4, 6, 7] rfl rfl (ci := 2) (q0 := 0) rfl rfl) rfl rfl hl.1 rfl (lv_room (Nat.le_of_ble_eq_true rfl)) dX11_places_30 ⟨Nat.zero_le _, Nat.zero_le _⟩) hP hD hS hA [4, 6, 7] [0, 1, 2, 3, 5, 8] [0, 1, 2, 3, 6, 4, 7, 8, 5] rfl rfl rfl rfl rfl rfl (fun H locs hP hD hS => ?_)
    obtain ⟨rfl, rfl, rfl, rfl, rfl, rfl⟩ := o6 hf
    exact W.iret hx hb hr (fun t ht hW => ⟨⟨_, (), rfl, rfl, by rw [ht]; exact hP, hD⟩, hS.F ht⟩) hS.2.2 dX11_places_33
  · replace hf := it_t (hc) hf
    refine lv_bipush (v := (-2 : Int32)) hx hb dX11_places_11 (by decide) ?_
    obtain ⟨rfl, rfl, rfl, rfl, rfl, rfl⟩ := o6 hf
    exact W.iret hx hb hr (fun t ht hW => ⟨⟨_, (), rfl, rfl, by rw [ht]; exact hP, hD⟩, hS.F ht⟩) hS.2.2 dX11_places_13
theorem dX11_isPlace_0 : decode cX11_isPlace 0 = .ok (.iload_n 0, 1) := by decide +kernel
theorem dX11_isPlace_1 : decode cX11_isPlace 1 = .ok (.bipush (-20), 2) := by decide +kernel
theorem dX11_isPlace_3 : decode cX11_isPlace 3 = .ok (.if_icmp .lt 25, 3) := by decide +kernel
theorem dX11_isPlace_6 : decode cX11_isPlace 6 = .ok (.iload_n 0, 1) := by decide +kernel
theorem dX11_isPlace_7 : decode cX11_isPlace 7 = .ok (.bipush 20, 2) := by decide +kernel
theorem dX11_isPlace_9 : decode cX11_isPlace 9 = .ok (.if_icmp .gt 19, 3) := by decide +kernel
theorem dX11_isPlace_12 : decode cX11_isPlace 12 = .ok (.iload_n 1, 1) := by decide +kernel
theorem dX11_isPlace_13 : decode cX11_isPlace 13 = .ok (.bipush (-20), 2) := by decide +kernel
theorem dX11_isPlace_15 : decode cX11_isPlace 15 = .ok (.if_icmp .lt 13, 3) := by decide +kernel
theorem dX11_isPlace_18 : decode cX11_isPlace 18 = .ok (.iload_n 1, 1) := by decide +kernel
theorem dX11_isPlace_19 : decode cX11_isPlace 19 = .ok (.bipush 20, 2) := by decide +kernel
theorem dX11_isPlace_21 : decode cX11_isPlace 21 = .ok (.if_icmp .gt 7, 3) := by decide +kernel
theorem dX11_isPlace_24 : decode cX11_isPlace 24 = .ok (.iconst 1, 1) := by decide +kernel
theorem dX11_isPlace_25 : decode cX11_isPlace 25 = .ok (.goto 4, 3) := by decide +kernel
theorem dX11_isPlace_28 : decode cX11_isPlace 28 = .ok (.iconst 0, 1) := by decide +kernel
theorem dX11_isPlace_29 : decode cX11_isPlace 29 = .ok (.ireturn, 1) := by decide +kernel
set_option maxRecDepth 100000 in
set_option maxHeartbeats 4000000 in
theorem mtX11_isPlace (l : Launch) (dC : Nat → ClassId) (dI : Nat → Nat → Nat) (cI cL cB : ClassId) (K : Nat) (sz : Nat) (a0 : Int32) (a1 : Int32) (o_r : Int32) (hf : fX11_isPlace K a0 a1 = some o_r) : Met l yX11_isPlace [Cond.code yX11_isPlace cX11_isPlace 2 (some .boolean)] ({ frames := 0, cells := 0, slots := 0, locals := 0 }) (va_Pc [.int a0, .int a1] (cPre dC dI cI cL cB sz [])) (cQi dC dI (va_A [] sz) o_r []) 0 0 (va_A [] sz) := by
  refine Met.ofW (cc := cX11_isPlace) (maxL := 2) (ret := (some .boolean)) (by decide) rfl ?_
  intro p e s m args below meth c s₁ B hml hv
  obtain ⟨rfl, hsz, hP, hK, hD0, hT⟩ := hv
  have hx := B.exec
  have hb := B.bytes
  have hr := B.returns
  have hown : s.vm.findClass RX11 = some m.cls := findClass_of_methodNamed B.named
  have hlocks := B.notSynchronized
  have hts := TB.use hT ([.int a0, .int a1] : List Value).toArray
  subst hsz
  have hD := hD0.self (sz := s.heap.size)
  generalize hAe : va_A [] s.heap.size = A at hD ⊢
  have hA : ∀ q : Nat, s.heap.size ≤ q → A q := fun q h => by rw [← hAe]; exact Or.inr h
  clear hAe hD0
  have hl := lv_entry ([.int a0, .int a1]) (n := 2) (Nat.le_of_ble_eq_true rfl)
  rw [lg_entry_eq]
  generalize (lg_sl ([.int a0, .int a1]) ++ List.replicate (2 - (lg_sl ([.int a0, .int a1])).length) Slot.unset).toArray = ls at hl ⊢
  have hl : lv_has ls 2 [(0, .int a0), (1, .int a1)] := hl
  have hF : 0 ≤ (headSpec [Cond.code yX11_isPlace cX11_isPlace 2 (some .boolean)] ({ frames := 0, cells := 0, slots := 0, locals := 0 })).room.frames := Nat.le_refl _
  have hLo : 0 ≤ (headSpec [Cond.code yX11_isPlace cX11_isPlace 2 (some .boolean)] ({ frames := 0, cells := 0, slots := 0, locals := 0 })).room.locals := Nat.le_refl _
  have C0 : Sx p (headSpec [Cond.code yX11_isPlace cX11_isPlace 2 (some .boolean)] ({ frames := 0, cells := 0, slots := 0, locals := 0 })).room s m ([.int a0, .int a1] : List Value).toArray c cX11_isPlace 2 RX11 A dC dI cI cL cB 0 0 := ⟨hx, hb, hml, hown, hts, hK, hT, hA, hF, hLo⟩
  refine startH (A := A) hP (fun H locs hP hS => ?_)
  rw [fX11_isPlace] at hf
  refine lv_iload_n hx hb dX11_isPlace_0 rfl (lv_at hl 0 rfl) ?_
  refine lv_bipush (v := (-20 : Int32)) hx hb dX11_isPlace_1 (by decide) ?_
  refine lv_icmp_lt (tgt := 28) hx hb dX11_isPlace_3 (by decide) (fun hc => ?_) (fun hc => ?_)
  · replace hf := it_t (hc) hf
    refine lv_iconst (v := (0 : Int32)) hx hb dX11_isPlace_28 (by decide) ?_
    obtain rfl := o1 hf
    exact W.zret hx hb hr rfl (fun t ht hW => ⟨⟨_, (), rfl, rfl, by rw [ht]; exact hP, hD⟩, hS.F ht⟩) hS.2.2 dX11_isPlace_29
  · replace hf := it_f (hc) hf
    refine lv_iload_n hx hb dX11_isPlace_6 rfl (lv_at hl 0 rfl) ?_
    refine lv_bipush (v := (20 : Int32)) hx hb dX11_isPlace_7 (by decide) ?_
    refine lv_icmp_gt (tgt := 28) hx hb dX11_isPlace_9 (by decide) (fun hc => ?_) (fun hc => ?_)
    · replace hf := it_t (hc) hf
      refine lv_iconst (v := (0 : Int32)) hx hb dX11_isPlace_28 (by decide) ?_
      obtain rfl := o1 hf
      exact W.zret hx hb hr rfl (fun t ht hW => ⟨⟨_, (), rfl, rfl, by rw [ht]; exact hP, hD⟩, hS.F ht⟩) hS.2.2 dX11_isPlace_29
    · replace hf := it_f (hc) hf
      refine lv_iload_n hx hb dX11_isPlace_12 rfl (lv_at hl 1 rfl) ?_
      refine lv_bipush (v := (-20 : Int32)) hx hb dX11_isPlace_13 (by decide) ?_
      refine lv_icmp_lt (tgt := 28) hx hb dX11_isPlace_15 (by decide) (fun hc => ?_) (fun hc => ?_)
      · replace hf := it_t (hc) hf
        refine lv_iconst (v := (0 : Int32)) hx hb dX11_isPlace_28 (by decide) ?_
        obtain rfl := o1 hf
        exact W.zret hx hb hr rfl (fun t ht hW => ⟨⟨_, (), rfl, rfl, by rw [ht]; exact hP, hD⟩, hS.F ht⟩) hS.2.2 dX11_isPlace_29
      · replace hf := it_f (hc) hf
        refine lv_iload_n hx hb dX11_isPlace_18 rfl (lv_at hl 1 rfl) ?_
        refine lv_bipush (v := (20 : Int32)) hx hb dX11_isPlace_19 (by decide) ?_
        refine lv_icmp_gt (tgt := 28) hx hb dX11_isPlace_21 (by decide) (fun hc => ?_) (fun hc => ?_)
        · replace hf := it_t (hc) hf
          refine lv_iconst (v := (0 : Int32)) hx hb dX11_isPlace_28 (by decide) ?_
          obtain rfl := o1 hf
          exact W.zret hx hb hr rfl (fun t ht hW => ⟨⟨_, (), rfl, rfl, by rw [ht]; exact hP, hD⟩, hS.F ht⟩) hS.2.2 dX11_isPlace_29
        · replace hf := it_f (hc) hf
          refine lv_iconst (v := (1 : Int32)) hx hb dX11_isPlace_24 (by decide) ?_
          refine lv_goto (tgt := 29) hx hb dX11_isPlace_25 (by decide) ?_
          obtain rfl := o1 hf
          exact W.zret hx hb hr rfl (fun t ht hW => ⟨⟨_, (), rfl, rfl, by rw [ht]; exact hP, hD⟩, hS.F ht⟩) hS.2.2 dX11_isPlace_29
theorem dX2_sideOf_0 : decode cX2_sideOf 0 = .ok (.aload_n 0, 1) := by decide +kernel
theorem dX2_sideOf_1 : decode cX2_sideOf 1 = .ok (.getfield 38, 3) := by decide +kernel
theorem dX2_sideOf_4 : decode cX2_sideOf 4 = .ok (.iconst 1, 1) := by decide +kernel
theorem dX2_sideOf_5 : decode cX2_sideOf 5 = .ok (.if_icmp .ge 5, 3) := by decide +kernel
theorem dX2_sideOf_8 : decode cX2_sideOf 8 = .ok (.iconst 0, 1) := by decide +kernel
theorem dX2_sideOf_9 : decode cX2_sideOf 9 = .ok (.ireturn, 1) := by decide +kernel
theorem dX2_sideOf_10 : decode cX2_sideOf 10 = .ok (.iconst 0, 1) := by decide +kernel
theorem dX2_sideOf_11 : decode cX2_sideOf 11 = .ok (.istore 7, 2) := by decide +kernel
theorem dX2_sideOf_13 : decode cX2_sideOf 13 = .ok (.iconst 0, 1) := by decide +kernel
theorem dX2_sideOf_14 : decode cX2_sideOf 14 = .ok (.istore 8, 2) := by decide +kernel
theorem dX2_sideOf_16 : decode cX2_sideOf 16 = .ok (.iload 8, 2) := by decide +kernel
theorem dX2_sideOf_18 : decode cX2_sideOf 18 = .ok (.aload_n 0, 1) := by decide +kernel
theorem dX2_sideOf_19 : decode cX2_sideOf 19 = .ok (.getfield 38, 3) := by decide +kernel
theorem dX2_sideOf_22 : decode cX2_sideOf 22 = .ok (.if_icmp .ge 104, 3) := by decide +kernel
theorem dX2_sideOf_25 : decode cX2_sideOf 25 = .ok (.aload_n 0, 1) := by decide +kernel
theorem dX2_sideOf_26 : decode cX2_sideOf 26 = .ok (.getfield 15, 3) := by decide +kernel
theorem dX2_sideOf_29 : decode cX2_sideOf 29 = .ok (.iload 8, 2) := by decide +kernel
theorem dX2_sideOf_31 : decode cX2_sideOf 31 = .ok (.iconst 1, 1) := by decide +kernel
theorem dX2_sideOf_32 : decode cX2_sideOf 32 = .ok (.iadd, 1) := by decide +kernel
theorem dX2_sideOf_33 : decode cX2_sideOf 33 = .ok (.iaload, 1) := by decide +kernel
theorem dX2_sideOf_34 : decode cX2_sideOf 34 = .ok (.aload_n 0, 1) := by decide +kernel
theorem dX2_sideOf_35 : decode cX2_sideOf 35 = .ok (.getfield 15, 3) := by decide +kernel
theorem dX2_sideOf_38 : decode cX2_sideOf 38 = .ok (.iload 8, 2) := by decide +kernel
theorem dX2_sideOf_40 : decode cX2_sideOf 40 = .ok (.iaload, 1) := by decide +kernel
theorem dX2_sideOf_41 : decode cX2_sideOf 41 = .ok (.isub, 1) := by decide +kernel
theorem dX2_sideOf_42 : decode cX2_sideOf 42 = .ok (.i2l, 1) := by decide +kernel
theorem dX2_sideOf_43 : decode cX2_sideOf 43 = .ok (.lload_n 3, 1) := by decide +kernel
theorem dX2_sideOf_44 : decode cX2_sideOf 44 = .ok (.aload_n 0, 1) := by decide +kernel
theorem dX2_sideOf_45 : decode cX2_sideOf 45 = .ok (.getfield 18, 3) := by decide +kernel
theorem dX2_sideOf_48 : decode cX2_sideOf 48 = .ok (.iload 8, 2) := by decide +kernel
theorem dX2_sideOf_50 : decode cX2_sideOf 50 = .ok (.iaload, 1) := by decide +kernel
theorem dX2_sideOf_51 : decode cX2_sideOf 51 = .ok (.i2l, 1) := by decide +kernel
theorem dX2_sideOf_52 : decode cX2_sideOf 52 = .ok (.lload 5, 2) := by decide +kernel
theorem dX2_sideOf_54 : decode cX2_sideOf 54 = .ok (.lmul, 1) := by decide +kernel
theorem dX2_sideOf_55 : decode cX2_sideOf 55 = .ok (.lsub, 1) := by decide +kernel
theorem dX2_sideOf_56 : decode cX2_sideOf 56 = .ok (.lmul, 1) := by decide +kernel
theorem dX2_sideOf_57 : decode cX2_sideOf 57 = .ok (.aload_n 0, 1) := by decide +kernel
theorem dX2_sideOf_58 : decode cX2_sideOf 58 = .ok (.getfield 18, 3) := by decide +kernel
theorem dX2_sideOf_61 : decode cX2_sideOf 61 = .ok (.iload 8, 2) := by decide +kernel
theorem dX2_sideOf_63 : decode cX2_sideOf 63 = .ok (.iconst 1, 1) := by decide +kernel
theorem dX2_sideOf_64 : decode cX2_sideOf 64 = .ok (.iadd, 1) := by decide +kernel
theorem dX2_sideOf_65 : decode cX2_sideOf 65 = .ok (.iaload, 1) := by decide +kernel
theorem dX2_sideOf_66 : decode cX2_sideOf 66 = .ok (.aload_n 0, 1) := by decide +kernel
theorem dX2_sideOf_67 : decode cX2_sideOf 67 = .ok (.getfield 18, 3) := by decide +kernel
theorem dX2_sideOf_70 : decode cX2_sideOf 70 = .ok (.iload 8, 2) := by decide +kernel
theorem dX2_sideOf_72 : decode cX2_sideOf 72 = .ok (.iaload, 1) := by decide +kernel
theorem dX2_sideOf_73 : decode cX2_sideOf 73 = .ok (.isub, 1) := by decide +kernel
theorem dX2_sideOf_74 : decode cX2_sideOf 74 = .ok (.i2l, 1) := by decide +kernel
theorem dX2_sideOf_75 : decode cX2_sideOf 75 = .ok (.lload_n 1, 1) := by decide +kernel
theorem dX2_sideOf_76 : decode cX2_sideOf 76 = .ok (.aload_n 0, 1) := by decide +kernel
theorem dX2_sideOf_77 : decode cX2_sideOf 77 = .ok (.getfield 15, 3) := by decide +kernel
theorem dX2_sideOf_80 : decode cX2_sideOf 80 = .ok (.iload 8, 2) := by decide +kernel
theorem dX2_sideOf_82 : decode cX2_sideOf 82 = .ok (.iaload, 1) := by decide +kernel
theorem dX2_sideOf_83 : decode cX2_sideOf 83 = .ok (.i2l, 1) := by decide +kernel
theorem dX2_sideOf_84 : decode cX2_sideOf 84 = .ok (.lload 5, 2) := by decide +kernel
theorem dX2_sideOf_86 : decode cX2_sideOf 86 = .ok (.lmul, 1) := by decide +kernel
theorem dX2_sideOf_87 : decode cX2_sideOf 87 = .ok (.lsub, 1) := by decide +kernel
theorem dX2_sideOf_88 : decode cX2_sideOf 88 = .ok (.lmul, 1) := by decide +kernel
theorem dX2_sideOf_89 : decode cX2_sideOf 89 = .ok (.lsub, 1) := by decide +kernel
theorem dX2_sideOf_90 : decode cX2_sideOf 90 = .ok (.lstore 9, 2) := by decide +kernel
theorem dX2_sideOf_92 : decode cX2_sideOf 92 = .ok (.lload 9, 2) := by decide +kernel
theorem dX2_sideOf_94 : decode cX2_sideOf 94 = .ok (.lconst 0, 1) := by decide +kernel
theorem dX2_sideOf_95 : decode cX2_sideOf 95 = .ok (.lcmp, 1) := by decide +kernel
theorem dX2_sideOf_96 : decode cX2_sideOf 96 = .ok (.ifCond .ge 5, 3) := by decide +kernel
theorem dX2_sideOf_99 : decode cX2_sideOf 99 = .ok (.iconst 0, 1) := by decide +kernel
theorem dX2_sideOf_100 : decode cX2_sideOf 100 = .ok (.ireturn, 1) := by decide +kernel
theorem dX2_sideOf_101 : decode cX2_sideOf 101 = .ok (.iload 7, 2) := by decide +kernel
theorem dX2_sideOf_103 : decode cX2_sideOf 103 = .ok (.ifCond .ne 10, 3) := by decide +kernel
theorem dX2_sideOf_106 : decode cX2_sideOf 106 = .ok (.lload 9, 2) := by decide +kernel
theorem dX2_sideOf_108 : decode cX2_sideOf 108 = .ok (.lconst 0, 1) := by decide +kernel
theorem dX2_sideOf_109 : decode cX2_sideOf 109 = .ok (.lcmp, 1) := by decide +kernel
theorem dX2_sideOf_110 : decode cX2_sideOf 110 = .ok (.ifCond .ne 7, 3) := by decide +kernel
theorem dX2_sideOf_113 : decode cX2_sideOf 113 = .ok (.iconst 1, 1) := by decide +kernel
theorem dX2_sideOf_114 : decode cX2_sideOf 114 = .ok (.goto 4, 3) := by decide +kernel
theorem dX2_sideOf_117 : decode cX2_sideOf 117 = .ok (.iconst 0, 1) := by decide +kernel
theorem dX2_sideOf_118 : decode cX2_sideOf 118 = .ok (.istore 7, 2) := by decide +kernel
theorem dX2_sideOf_120 : decode cX2_sideOf 120 = .ok (.iinc 8 1, 3) := by decide +kernel
theorem dX2_sideOf_123 : decode cX2_sideOf 123 = .ok (.goto (-107), 3) := by decide +kernel
theorem dX2_sideOf_126 : decode cX2_sideOf 126 = .ok (.aload_n 0, 1) := by decide +kernel
theorem dX2_sideOf_127 : decode cX2_sideOf 127 = .ok (.getfield 38, 3) := by decide +kernel
theorem dX2_sideOf_130 : decode cX2_sideOf 130 = .ok (.iconst 3, 1) := by decide +kernel
theorem dX2_sideOf_131 : decode cX2_sideOf 131 = .ok (.if_icmp .lt 14, 3) := by decide +kernel
theorem dX2_sideOf_134 : decode cX2_sideOf 134 = .ok (.iload 7, 2) := by decide +kernel
theorem dX2_sideOf_136 : decode cX2_sideOf 136 = .ok (.ifCond .eq 7, 3) := by decide +kernel
theorem dX2_sideOf_139 : decode cX2_sideOf 139 = .ok (.iconst 1, 1) := by decide +kernel
theorem dX2_sideOf_140 : decode cX2_sideOf 140 = .ok (.goto 4, 3) := by decide +kernel
theorem dX2_sideOf_143 : decode cX2_sideOf 143 = .ok (.iconst 2, 1) := by decide +kernel
theorem dX2_sideOf_144 : decode cX2_sideOf 144 = .ok (.ireturn, 1) := by decide +kernel
theorem dX2_sideOf_145 : decode cX2_sideOf 145 = .ok (.aload_n 0, 1) := by decide +kernel
theorem dX2_sideOf_146 : decode cX2_sideOf 146 = .ok (.getfield 15, 3) := by decide +kernel
theorem dX2_sideOf_149 : decode cX2_sideOf 149 = .ok (.iconst 0, 1) := by decide +kernel
theorem dX2_sideOf_150 : decode cX2_sideOf 150 = .ok (.iaload, 1) := by decide +kernel
theorem dX2_sideOf_151 : decode cX2_sideOf 151 = .ok (.i2l, 1) := by decide +kernel
theorem dX2_sideOf_152 : decode cX2_sideOf 152 = .ok (.lload 5, 2) := by decide +kernel
theorem dX2_sideOf_154 : decode cX2_sideOf 154 = .ok (.lmul, 1) := by decide +kernel
theorem dX2_sideOf_155 : decode cX2_sideOf 155 = .ok (.lload_n 1, 1) := by decide +kernel
theorem dX2_sideOf_156 : decode cX2_sideOf 156 = .ok (.lsub, 1) := by decide +kernel
theorem dX2_sideOf_157 : decode cX2_sideOf 157 = .ok (.lstore 8, 2) := by decide +kernel
theorem dX2_sideOf_159 : decode cX2_sideOf 159 = .ok (.aload_n 0, 1) := by decide +kernel
theorem dX2_sideOf_160 : decode cX2_sideOf 160 = .ok (.getfield 18, 3) := by decide +kernel
theorem dX2_sideOf_163 : decode cX2_sideOf 163 = .ok (.iconst 0, 1) := by decide +kernel
theorem dX2_sideOf_164 : decode cX2_sideOf 164 = .ok (.iaload, 1) := by decide +kernel
theorem dX2_sideOf_165 : decode cX2_sideOf 165 = .ok (.i2l, 1) := by decide +kernel
theorem dX2_sideOf_166 : decode cX2_sideOf 166 = .ok (.lload 5, 2) := by decide +kernel
theorem dX2_sideOf_168 : decode cX2_sideOf 168 = .ok (.lmul, 1) := by decide +kernel
theorem dX2_sideOf_169 : decode cX2_sideOf 169 = .ok (.lload_n 3, 1) := by decide +kernel
theorem dX2_sideOf_170 : decode cX2_sideOf 170 = .ok (.lsub, 1) := by decide +kernel
theorem dX2_sideOf_171 : decode cX2_sideOf 171 = .ok (.lstore 10, 2) := by decide +kernel
theorem dX2_sideOf_173 : decode cX2_sideOf 173 = .ok (.aload_n 0, 1) := by decide +kernel
theorem dX2_sideOf_174 : decode cX2_sideOf 174 = .ok (.getfield 15, 3) := by decide +kernel
theorem dX2_sideOf_177 : decode cX2_sideOf 177 = .ok (.aload_n 0, 1) := by decide +kernel
theorem dX2_sideOf_178 : decode cX2_sideOf 178 = .ok (.getfield 38, 3) := by decide +kernel
theorem dX2_sideOf_181 : decode cX2_sideOf 181 = .ok (.iconst 1, 1) := by decide +kernel
theorem dX2_sideOf_182 : decode cX2_sideOf 182 = .ok (.isub, 1) := by decide +kernel
theorem dX2_sideOf_183 : decode cX2_sideOf 183 = .ok (.iaload, 1) := by decide +kernel
theorem dX2_sideOf_184 : decode cX2_sideOf 184 = .ok (.i2l, 1) := by decide +kernel
theorem dX2_sideOf_185 : decode cX2_sideOf 185 = .ok (.lload 5, 2) := by decide +kernel
theorem dX2_sideOf_187 : decode cX2_sideOf 187 = .ok (.lmul, 1) := by decide +kernel
theorem dX2_sideOf_188 : decode cX2_sideOf 188 = .ok (.lload_n 1, 1) := by decide +kernel
theorem dX2_sideOf_189 : decode cX2_sideOf 189 = .ok (.lsub, 1) := by decide +kernel
theorem dX2_sideOf_190 : decode cX2_sideOf 190 = .ok (.lstore 12, 2) := by decide +kernel
theorem dX2_sideOf_192 : decode cX2_sideOf 192 = .ok (.aload_n 0, 1) := by decide +kernel
theorem dX2_sideOf_193 : decode cX2_sideOf 193 = .ok (.getfield 18, 3) := by decide +kernel
theorem dX2_sideOf_196 : decode cX2_sideOf 196 = .ok (.aload_n 0, 1) := by decide +kernel
theorem dX2_sideOf_197 : decode cX2_sideOf 197 = .ok (.getfield 38, 3) := by decide +kernel
theorem dX2_sideOf_200 : decode cX2_sideOf 200 = .ok (.iconst 1, 1) := by decide +kernel
theorem dX2_sideOf_201 : decode cX2_sideOf 201 = .ok (.isub, 1) := by decide +kernel
theorem dX2_sideOf_202 : decode cX2_sideOf 202 = .ok (.iaload, 1) := by decide +kernel
theorem dX2_sideOf_203 : decode cX2_sideOf 203 = .ok (.i2l, 1) := by decide +kernel
theorem dX2_sideOf_204 : decode cX2_sideOf 204 = .ok (.lload 5, 2) := by decide +kernel
theorem dX2_sideOf_206 : decode cX2_sideOf 206 = .ok (.lmul, 1) := by decide +kernel
theorem dX2_sideOf_207 : decode cX2_sideOf 207 = .ok (.lload_n 3, 1) := by decide +kernel
theorem dX2_sideOf_208 : decode cX2_sideOf 208 = .ok (.lsub, 1) := by decide +kernel
theorem dX2_sideOf_209 : decode cX2_sideOf 209 = .ok (.lstore 14, 2) := by decide +kernel
theorem dX2_sideOf_211 : decode cX2_sideOf 211 = .ok (.lload 8, 2) := by decide +kernel
theorem dX2_sideOf_213 : decode cX2_sideOf 213 = .ok (.lload 12, 2) := by decide +kernel
theorem dX2_sideOf_215 : decode cX2_sideOf 215 = .ok (.lmul, 1) := by decide +kernel
theorem dX2_sideOf_216 : decode cX2_sideOf 216 = .ok (.lload 10, 2) := by decide +kernel
theorem dX2_sideOf_218 : decode cX2_sideOf 218 = .ok (.lload 14, 2) := by decide +kernel
theorem dX2_sideOf_220 : decode cX2_sideOf 220 = .ok (.lmul, 1) := by decide +kernel
theorem dX2_sideOf_221 : decode cX2_sideOf 221 = .ok (.ladd, 1) := by decide +kernel
theorem dX2_sideOf_222 : decode cX2_sideOf 222 = .ok (.lconst 0, 1) := by decide +kernel
theorem dX2_sideOf_223 : decode cX2_sideOf 223 = .ok (.lcmp, 1) := by decide +kernel
theorem dX2_sideOf_224 : decode cX2_sideOf 224 = .ok (.ifCond .gt 7, 3) := by decide +kernel
theorem dX2_sideOf_227 : decode cX2_sideOf 227 = .ok (.iconst 1, 1) := by decide +kernel
theorem dX2_sideOf_228 : decode cX2_sideOf 228 = .ok (.goto 4, 3) := by decide +kernel
theorem dX2_sideOf_231 : decode cX2_sideOf 231 = .ok (.iconst 0, 1) := by decide +kernel
theorem dX2_sideOf_232 : decode cX2_sideOf 232 = .ok (.ireturn, 1) := by decide +kernel
set_option maxRecDepth 100000 in
set_option maxHeartbeats 4000000 in
theorem wX2_sideOf_L16 {p : Program} {l : Launch} {e : Env} {R : Room} {s : State} {m : MethodId} {args : Array Value} {below : List Frame} {meth : Method} {c : Code} {Q : State → Prop} {A : Nat → Prop} {dC : Nat → ClassId} {dI : Nat → Nat → Nat} {cI cL cB : ClassId} {K : Nat} (C0 : Sx p R s m args c cX2_sideOf 16 RX2 A dC dI cI cL cB 0 0) (h_t h_t_chain h_t_x h_t_y h_t_sorted : Nat) (t_size : Int32) (t_x : Nat → Int32) (t_y : Nat → Int32) (l1 : Int64) (l3 : Int64) (l5 : Int64) : ∀ (n : Nat) (l7 : Int32) (l8 : Int32) (ex : (Unit) ⊕ (Int32)) (H : Heap) (locs : List Loc) (ls : Array Slot), va_P (dC, dI) vwCl [(h_t, .inr (2, [.ref h_t_chain, .ref h_t_x, .ref h_t_y, .ref h_t_sorted, .int t_size])), (h_t_x, .inl (cI, 48, .inl t_x)), (h_t_y, .inl (cI, 48, .inl t_y))] H → va_D A [(h_t, .inr (2, [.ref h_t_chain, .ref h_t_x, .ref h_t_y, .ref h_t_sorted, .int t_size])), (h_t_x, .inl (cI, 48, .inl t_x)), (h_t_y, .inl (cI, 48, .inl t_y))] → va_S A s.heap H locs → lv_has ls 16 [(0, .ref h_t), (1, .long l1), (3, .long l3), (5, .long l5), (7, .int l7), (8, .int l8)] → fX2_sideOf_L16 K l1 l3 l5 t_size t_x t_y n l7 l8 = some ex → (∀ (_ : Unit), ex = (.inl ()) → ∀ (H : Heap) (locs : List Loc) (ls : Array Slot), va_P (dC, dI) vwCl [(h_t, .inr (2, [.ref h_t_chain, .ref h_t_x, .ref h_t_y, .ref h_t_sorted, .int t_size])), (h_t_x, .inl (cI, 48, .inl t_x)), (h_t_y, .inl (cI, 48, .inl t_y))] H → va_D A [(h_t, .inr (2, [.ref h_t_chain, .ref h_t_x, .ref h_t_y, .ref h_t_sorted, .int t_size])), (h_t_x, .inl (cI, 48, .inl t_x)), (h_t_y, .inl (cI, 48, .inl t_y))] → va_S A s.heap H locs → lv_has ls 16 [] → W p l e R s m args below meth c H locs 0 0 Q (F0 m 99 ls [])) → (∀ (x7_ : Int32), ex = (.inr x7_) → ∀ (H : Heap) (locs : List Loc) (ls : Array Slot), va_P (dC, dI) vwCl [(h_t, .inr (2, [.ref h_t_chain, .ref h_t_x, .ref h_t_y, .ref h_t_sorted, .int t_size])), (h_t_x, .inl (cI, 48, .inl t_x)), (h_t_y, .inl (cI, 48, .inl t_y))] H → va_D A [(h_t, .inr (2, [.ref h_t_chain, .ref h_t_x, .ref h_t_y, .ref h_t_sorted, .int t_size])), (h_t_x, .inl (cI, 48, .inl t_x)), (h_t_y, .inl (cI, 48, .inl t_y))] → va_S A s.heap H locs → lv_has ls 16 [(0, .ref h_t), (1, .long l1), (3, .long l3), (5, .long l5), (7, .int x7_)] → W p l e R s m args below meth c H locs 0 0 Q (F0 m 126 ls [])) → W p l e R s m args below meth c H locs 0 0 Q (F0 m 16 ls []) := by
  obtain ⟨hx, hb, hml, hown, hts, hK, hT, hA, hF, hLo⟩ := id C0
  intro n
  induction n with
  | zero =>
    intro l7 l8 ex H locs ls hP hD hS hl hf
    rw [fX2_sideOf_L16] at hf
    cases hf
  | succ n ih =>
    intro l7 l8 ex H locs ls hP hD hS hl hf hk0 hk1
    rw [fX2_sideOf_L16] at hf
    refine lv_iload hx hb dX2_sideOf_16 (lv_at hl 5 rfl) ?_
    refine lv_aload_n hx hb dX2_sideOf_18 rfl (lv_at hl 0 rfl) ?_
    refine va_get (D := (dC, dI)) (ci := 2) (v := .int t_size) (C := RX2) (T := TX2) (N := 5) hx hb hts in_X2 hown hK hP 0 rfl rfl 4 (Nat.le_of_ble_eq_true rfl) (hts _ qf_X2_38) (fun _ h9 => h9) rfl dX2_sideOf_19 ?_
    refine lv_icmp_ge (tgt := 126) hx hb dX2_sideOf_22 (by decide) (fun hc => ?_) (fun hc => ?_)
    · replace hf := it_t (hc) hf
      exact hk1 l7 (Option.some.inj hf).symm H locs ls hP hD hS (lv_sub hl [0, 1, 2, 3, 4] rfl)
    · replace hf := it_f (hc) hf
      refine lv_aload_n hx hb dX2_sideOf_25 rfl (lv_at hl 0 rfl) ?_
      refine va_get (D := (dC, dI)) (ci := 2) (v := .ref h_t_x) (C := RX2) (T := TX2) (N := 5) hx hb hts in_X2 hown hK hP 0 rfl rfl 1 (Nat.le_of_ble_eq_true rfl) (hts _ qf_X2_15) (fun _ h9 => h9) rfl dX2_sideOf_26 ?_
      refine lv_iload hx hb dX2_sideOf_29 (lv_at hl 5 rfl) ?_
      refine lv_iconst (v := (1 : Int32)) hx hb dX2_sideOf_31 (by decide) ?_
      refine lv_iadd hx hb dX2_sideOf_32 ?_
      obtain ⟨hg_1, hf⟩ := gd_some hf
      refine va_iald hx hb hK hP 1 0 rfl rfl (inb_in hg_1) dX2_sideOf_33 ?_
      refine lv_aload_n hx hb dX2_sideOf_34 rfl (lv_at hl 0 rfl) ?_
      refine va_get (D := (dC, dI)) (ci := 2) (v := .ref h_t_x) (C := RX2) (T := TX2) (N := 5) hx hb hts in_X2 hown hK hP 0 rfl rfl 1 (Nat.le_of_ble_eq_true rfl) (hts _ qf_X2_15) (fun _ h9 => h9) rfl dX2_sideOf_35 ?_
      refine lv_iload hx hb dX2_sideOf_38 (lv_at hl 5 rfl) ?_
      obtain ⟨hg_2, hf⟩ := gd_some hf
      refine va_iald hx hb hK hP 1 0 rfl rfl (inb_in hg_2) dX2_sideOf_40 ?_
      refine lv_isub hx hb dX2_sideOf_41 ?_
      refine lv_i2l hx hb dX2_sideOf_42 rfl ?_
      refine lv_lload_n hx hb dX2_sideOf_43 rfl (lv_at hl 2 rfl) ?_
      refine lv_aload_n hx hb dX2_sideOf_44 rfl (lv_at hl 0 rfl) ?_
      refine va_get (D := (dC, dI)) (ci := 2) (v := .ref h_t_y) (C := RX2) (T := TX2) (N := 5) hx hb hts in_X2 hown hK hP 0 rfl rfl 2 (Nat.le_of_ble_eq_true rfl) (hts _ qf_X2_18) (fun _ h9 => h9) rfl dX2_sideOf_45 ?_
      refine lv_iload hx hb dX2_sideOf_48 (lv_at hl 5 rfl) ?_
      obtain ⟨hg_3, hf⟩ := gd_some hf
      refine va_iald hx hb hK hP 2 0 rfl rfl (inb_in hg_3) dX2_sideOf_50 ?_
      refine lv_i2l hx hb dX2_sideOf_51 rfl ?_
      refine lv_lload hx hb dX2_sideOf_52 (lv_at hl 3 rfl) ?_
      refine lv_lmul hx hb dX2_sideOf_54 ?_
      refine lv_lsub hx hb dX2_sideOf_55 ?_
      refine lv_lmul hx hb dX2_sideOf_56 ?_
      refine lv_aload_n hx hb dX2_sideOf_57 rfl (lv_at hl 0 rfl) ?_
      refine va_get (D := (dC, dI)) (ci := 2) (v := .ref h_t_y) (C := RX2) (T := TX2) (N := 5) hx hb hts in_X2 hown hK hP 0 rfl rfl 2 (Nat.le_of_ble_eq_true rfl) (hts _ qf_X2_18) (fun _ h9 => h9) rfl dX2_sideOf_58 ?_
      refine lv_iload hx hb dX2_sideOf_61 (lv_at hl 5 rfl) ?_
      refine lv_iconst (v := (1 : Int32)) hx hb dX2_sideOf_63 (by decide) ?_
      refine lv_iadd hx hb dX2_sideOf_64 ?_
      obtain ⟨hg_4, hf⟩ := gd_some hf
      refine va_iald hx hb hK hP 2 0 rfl rfl (inb_in hg_4) dX2_sideOf_65 ?_
      refine lv_aload_n hx hb dX2_sideOf_66 rfl (lv_at hl 0 rfl) ?_
      refine va_get (D := (dC, dI)) (ci := 2) (v := .ref h_t_y) (C := RX2) (T := TX2) (N := 5) hx hb hts in_X2 hown hK hP 0 rfl rfl 2 (Nat.le_of_ble_eq_true rfl) (hts _ qf_X2_18) (fun _ h9 => h9) rfl dX2_sideOf_67 ?_
      refine lv_iload hx hb dX2_sideOf_70 (lv_at hl 5 rfl) ?_
      obtain ⟨hg_5, hf⟩ := gd_some hf
      refine va_iald hx hb hK hP 2 0 rfl rfl (inb_in hg_5) dX2_sideOf_72 ?_
      refine lv_isub hx hb dX2_sideOf_73 ?_
      refine lv_i2l hx hb dX2_sideOf_74 rfl ?_
      refine lv_lload_n hx hb dX2_sideOf_75 rfl (lv_at hl 1 rfl) ?_
      refine lv_aload_n hx hb dX2_sideOf_76 rfl (lv_at hl 0 rfl) ?_
      refine va_get (D := (dC, dI)) (ci := 2) (v := .ref h_t_x) (C := RX2) (T := TX2) (N := 5) hx hb hts in_X2 hown hK hP 0 rfl rfl 1 (Nat.le_of_ble_eq_true rfl) (hts _ qf_X2_15) (fun _ h9 => h9) rfl dX2_sideOf_77 ?_
      refine lv_iload hx hb dX2_sideOf_80 (lv_at hl 5 rfl) ?_
      obtain ⟨hg_6, hf⟩ := gd_some hf
      refine va_iald hx hb hK hP 1 0 rfl rfl (inb_in hg_6) dX2_sideOf_82 ?_
      refine lv_i2l hx hb dX2_sideOf_83 rfl ?_
      refine lv_lload hx hb dX2_sideOf_84 (lv_at hl 3 rfl) ?_
      refine lv_lmul hx hb dX2_sideOf_86 ?_
      refine lv_lsub hx hb dX2_sideOf_87 ?_
      refine lv_lmul hx hb dX2_sideOf_88 ?_
      refine lv_lsub hx hb dX2_sideOf_89 ?_
      refine lv_topl (fun l9_7 el9_7 => ?_)
      replace hf := xl_at hf el9_7
      refine lv_lstore (lv' := [(9, .long l9_7), (0, .ref h_t), (1, .long l1), (3, .long l3), (5, .long l5), (7, .int l7), (8, .int l8)]) hx hb dX2_sideOf_90 hl (Nat.le_of_ble_eq_true rfl) rfl (fun ls hl => ?_)
      refine lv_lload hx hb dX2_sideOf_92 (lv_at hl 0 rfl) ?_
      refine lv_lconst (v := (0 : Int64)) hx hb dX2_sideOf_94 (by decide) ?_
      refine W.lcmp hx hb dX2_sideOf_95 ?_
      refine lv_if_ge (tgt := 101) hx hb dX2_sideOf_96 (by decide) (fun hc => ?_) (fun hc => ?_)
      · replace hf := it_t ((lg_cmp_ge _ _).mp hc) hf
        refine lv_iload hx hb dX2_sideOf_101 (lv_at hl 5 rfl) ?_
        obtain ⟨k_9, ek_9, hf⟩ := jn_out hf
        have J_10 : ∀ (s_8 : Int32) (H : Heap) (locs : List Loc) (ls : Array Slot), va_P (dC, dI) vwCl [(h_t, .inr (2, [.ref h_t_chain, .ref h_t_x, .ref h_t_y, .ref h_t_sorted, .int t_size])), (h_t_x, .inl (cI, 48, .inl t_x)), (h_t_y, .inl (cI, 48, .inl t_y))] H → va_D A [(h_t, .inr (2, [.ref h_t_chain, .ref h_t_x, .ref h_t_y, .ref h_t_sorted, .int t_size])), (h_t_x, .inl (cI, 48, .inl t_x)), (h_t_y, .inl (cI, 48, .inl t_y))] → va_S A s.heap H locs → lv_has ls 16 [(0, .ref h_t), (1, .long l1), (3, .long l3), (5, .long l5), (8, .int l8)] → k_9 s_8 = some ex → W p l e R s m args below meth c H locs 0 0 Q (F0 m 118 ls [.int s_8]) := by
          intro s_8 H locs ls hP hD hS hl hf
          rw [ek_9] at hf
          try dsimp only at hf
          refine lv_istore (lv' := [(7, .int s_8), (0, .ref h_t), (1, .long l1), (3, .long l3), (5, .long l5), (8, .int l8)]) hx hb dX2_sideOf_118 hl (Nat.le_of_ble_eq_true rfl) rfl (fun ls hl => ?_)
          obtain ⟨l8_11, el8_11⟩ : ∃ y : Int32, y = l8 + (1 : Int32) := ⟨_, rfl⟩
          replace hf := xl_at hf el8_11
          refine lv_iinc (v := l8_11) (lv' := [(8, .int l8_11), (7, .int s_8), (0, .ref h_t), (1, .long l1), (3, .long l3), (5, .long l5)]) hx hb dX2_sideOf_120 hl (k := 5) rfl (by rw [el8_11]; rfl) (Nat.le_of_ble_eq_true rfl) rfl (fun ls hl => ?_)
          refine lv_goto (tgt := 16) hx hb dX2_sideOf_123 (by decide) ?_
          exact ih s_8 l8_11 _ H locs ls hP hD hS (lv_sub hl [2, 3, 4, 5, 1, 0] rfl) hf hk0 hk1
        obtain ⟨k_12, ek_12, hf⟩ := jn_out hf
        have J_13 : ∀ (H : Heap) (locs : List Loc) (ls : Array Slot), va_P (dC, dI) vwCl [(h_t, .inr (2, [.ref h_t_chain, .ref h_t_x, .ref h_t_y, .ref h_t_sorted, .int t_size])), (h_t_x, .inl (cI, 48, .inl t_x)), (h_t_y, .inl (cI, 48, .inl t_y))] H → va_D A [(h_t, .inr (2, [.ref h_t_chain, .ref h_t_x, .ref h_t_y, .ref h_t_sorted, .int t_size])), (h_t_x, .inl (cI, 48, .inl t_x)), (h_t_y, .inl (cI, 48, .inl t_y))] → va_S A s.heap H locs → lv_has ls 16 [(0, .ref h_t), (1, .long l1), (3, .long l3), (5, .long l5), (8, .int l8)] → k_12 = some ex → W p l e R s m args below meth c H locs 0 0 Q (F0 m 113 ls []) := by
          intro H locs ls hP hD hS hl hf
          rw [ek_12] at hf
          refine lv_iconst (v := (1 : Int32)) hx hb dX2_sideOf_113 (by decide) ?_
          refine lv_goto (tgt := 118) hx hb dX2_sideOf_114 (by decide) ?_
          exact J_10 (1 : Int32) H locs ls hP hD hS (lv_sub hl [0, 1, 2, 3, 4] rfl) hf
        refine lv_if_ne (tgt := 113) hx hb dX2_sideOf_103 (by decide) (fun hc => ?_) (fun hc => ?_)
        · replace hf := it_f (hc) hf
          exact J_13 H locs ls hP hD hS (lv_sub hl [1, 2, 3, 4, 6] rfl) hf
        · replace hf := it_t (hc) hf
          refine lv_lload hx hb dX2_sideOf_106 (lv_at hl 0 rfl) ?_
          refine lv_lconst (v := (0 : Int64)) hx hb dX2_sideOf_108 (by decide) ?_
          refine W.lcmp hx hb dX2_sideOf_109 ?_
          refine lv_if_ne (tgt := 117) hx hb dX2_sideOf_110 (by decide) (fun hc => ?_) (fun hc => ?_)
          · replace hf := it_f (fun h9 => hc ((lg_cmp_eq _ _).mpr h9)) hf
            refine lv_iconst (v := (0 : Int32)) hx hb dX2_sideOf_117 (by decide) ?_
            exact J_10 (0 : Int32) H locs ls hP hD hS (lv_sub hl [1, 2, 3, 4, 6] rfl) hf
          · replace hf := it_t ((lg_cmp_eq _ _).mp hc) hf
            exact J_13 H locs ls hP hD hS (lv_sub hl [1, 2, 3, 4, 6] rfl) hf
      · replace hf := it_f (fun h9 => hc ((lg_cmp_ge _ _).mpr h9)) hf
        exact hk0 () (Option.some.inj hf).symm H locs ls hP hD hS (lv_sub hl [] rfl)
set_option maxRecDepth 100000 in
set_option maxHeartbeats 4000000 in
theorem mtX2_sideOf (l : Launch) (dC : Nat → ClassId) (dI : Nat → Nat → Nat) (cI cL cB : ClassId) (K : Nat) (h_t h_t_chain h_t_x h_t_y h_t_sorted : Nat) (sz : Nat) (t_size : Int32) (t_x : Nat → Int32) (t_y : Nat → Int32) (a1 : Int64) (a3 : Int64) (a5 : Int64) (o_r : Int32) (hf : fX2_sideOf K t_size t_x t_y a1 a3 a5 = some o_r) : Met l yX2_sideOf [Cond.code yX2_sideOf cX2_sideOf 16 (some .int)] ({ frames := 0, cells := 0, slots := 0, locals := 0 }) (va_Pc [.ref h_t, .long a1, .long a3, .long a5] (cPre dC dI cI cL cB sz [(h_t, .inr (2, [.ref h_t_chain, .ref h_t_x, .ref h_t_y, .ref h_t_sorted, .int t_size])), (h_t_x, .inl (cI, 48, .inl t_x)), (h_t_y, .inl (cI, 48, .inl t_y))])) (cQi dC dI (va_A [(h_t, .inr (2, [.ref h_t_chain, .ref h_t_x, .ref h_t_y, .ref h_t_sorted, .int t_size])), (h_t_x, .inl (cI, 48, .inl t_x)), (h_t_y, .inl (cI, 48, .inl t_y))] sz) o_r [(h_t, .inr (2, [.ref h_t_chain, .ref h_t_x, .ref h_t_y, .ref h_t_sorted, .int t_size])), (h_t_x, .inl (cI, 48, .inl t_x)), (h_t_y, .inl (cI, 48, .inl t_y))]) 0 0 (va_A [(h_t, .inr (2, [.ref h_t_chain, .ref h_t_x, .ref h_t_y, .ref h_t_sorted, .int t_size])), (h_t_x, .inl (cI, 48, .inl t_x)), (h_t_y, .inl (cI, 48, .inl t_y))] sz) := by
  refine Met.ofW (cc := cX2_sideOf) (maxL := 16) (ret := (some .int)) (by decide) rfl ?_
  intro p e s m args below meth c s₁ B hml hv
  obtain ⟨rfl, hsz, hP, hK, hD0, hT⟩ := hv
  have hx := B.exec
  have hb := B.bytes
  have hr := B.returns
  have hown : s.vm.findClass RX2 = some m.cls := findClass_of_methodNamed B.named
  have hlocks := B.notSynchronized
  have hts := TB.use hT ([.ref h_t, .long a1, .long a3, .long a5] : List Value).toArray
  subst hsz
  have hD := hD0.self (sz := s.heap.size)
  generalize hAe : va_A [(h_t, .inr (2, [.ref h_t_chain, .ref h_t_x, .ref h_t_y, .ref h_t_sorted, .int t_size])), (h_t_x, .inl (cI, 48, .inl t_x)), (h_t_y, .inl (cI, 48, .inl t_y))] s.heap.size = A at hD ⊢
  have hA : ∀ q : Nat, s.heap.size ≤ q → A q := fun q h => by rw [← hAe]; exact Or.inr h
  clear hAe hD0
  have hl := lv_entry ([.ref h_t, .long a1, .long a3, .long a5]) (n := 16) (Nat.le_of_ble_eq_true rfl)
  rw [lg_entry_eq]
  generalize (lg_sl ([.ref h_t, .long a1, .long a3, .long a5]) ++ List.replicate (16 - (lg_sl ([.ref h_t, .long a1, .long a3, .long a5])).length) Slot.unset).toArray = ls at hl ⊢
  have hl : lv_has ls 16 [(0, .ref h_t), (1, .long a1), (3, .long a3), (5, .long a5)] := hl
  have hF : 0 ≤ (headSpec [Cond.code yX2_sideOf cX2_sideOf 16 (some .int)] ({ frames := 0, cells := 0, slots := 0, locals := 0 })).room.frames := Nat.le_refl _
  have hLo : 0 ≤ (headSpec [Cond.code yX2_sideOf cX2_sideOf 16 (some .int)] ({ frames := 0, cells := 0, slots := 0, locals := 0 })).room.locals := Nat.le_refl _
  have C0 : Sx p (headSpec [Cond.code yX2_sideOf cX2_sideOf 16 (some .int)] ({ frames := 0, cells := 0, slots := 0, locals := 0 })).room s m ([.ref h_t, .long a1, .long a3, .long a5] : List Value).toArray c cX2_sideOf 16 RX2 A dC dI cI cL cB 0 0 := ⟨hx, hb, hml, hown, hts, hK, hT, hA, hF, hLo⟩
  refine startH (A := A) hP (fun H locs hP hS => ?_)
  rw [fX2_sideOf] at hf
  refine lv_aload_n hx hb dX2_sideOf_0 rfl (lv_at hl 0 rfl) ?_
  refine va_get (D := (dC, dI)) (ci := 2) (v := .int t_size) (C := RX2) (T := TX2) (N := 5) hx hb hts in_X2 hown hK hP 0 rfl rfl 4 (Nat.le_of_ble_eq_true rfl) (hts _ qf_X2_38) (fun _ h9 => h9) rfl dX2_sideOf_1 ?_
  refine lv_iconst (v := (1 : Int32)) hx hb dX2_sideOf_4 (by decide) ?_
  refine lv_icmp_ge (tgt := 10) hx hb dX2_sideOf_5 (by decide) (fun hc => ?_) (fun hc => ?_)
  · replace hf := it_t (hc) hf
    refine lv_iconst (v := (0 : Int32)) hx hb dX2_sideOf_10 (by decide) ?_
    refine lv_istore (lv' := [(7, .int (0 : Int32)), (0, .ref h_t), (1, .long a1), (3, .long a3), (5, .long a5)]) hx hb dX2_sideOf_11 hl (Nat.le_of_ble_eq_true rfl) rfl (fun ls hl => ?_)
    refine lv_iconst (v := (0 : Int32)) hx hb dX2_sideOf_13 (by decide) ?_
    refine lv_istore (lv' := [(8, .int (0 : Int32)), (7, .int (0 : Int32)), (0, .ref h_t), (1, .long a1), (3, .long a3), (5, .long a5)]) hx hb dX2_sideOf_14 hl (Nat.le_of_ble_eq_true rfl) rfl (fun ls hl => ?_)
    obtain ⟨ex_22, hq_14, hf⟩ := sm_some hf
    refine wX2_sideOf_L16 C0 h_t h_t_chain h_t_x h_t_y h_t_sorted t_size t_x t_y a1 a3 a5 K (0 : Int32) (0 : Int32) ex_22 H locs ls hP hD hS (lv_sub hl [2, 3, 4, 5, 1, 0] rfl) hq_14 ?_ ?_
    · intro _ he H locs ls hP hD hS hl
      subst he
      replace hf := el0 hf
      refine lv_iconst (v := (0 : Int32)) hx hb dX2_sideOf_99 (by decide) ?_
      obtain rfl := o1 hf
      exact W.iret hx hb hr (fun t ht hW => ⟨⟨_, (), rfl, rfl, by rw [ht]; exact hP, hD⟩, hS.F ht⟩) hS.2.2 dX2_sideOf_100
    · intro l7_15 he H locs ls hP hD hS hl
      subst he
      replace hf := er1 hf
      refine lv_aload_n hx hb dX2_sideOf_126 rfl (lv_at hl 0 rfl) ?_
      refine va_get (D := (dC, dI)) (ci := 2) (v := .int t_size) (C := RX2) (T := TX2) (N := 5) hx hb hts in_X2 hown hK hP 0 rfl rfl 4 (Nat.le_of_ble_eq_true rfl) (hts _ qf_X2_38) (fun _ h9 => h9) rfl dX2_sideOf_127 ?_
      refine lv_iconst (v := (3 : Int32)) hx hb dX2_sideOf_130 (by decide) ?_
      refine lv_icmp_lt (tgt := 145) hx hb dX2_sideOf_131 (by decide) (fun hc => ?_) (fun hc => ?_)
      · replace hf := it_t (hc) hf
        refine lv_aload_n hx hb dX2_sideOf_145 rfl (lv_at hl 0 rfl) ?_
        refine va_get (D := (dC, dI)) (ci := 2) (v := .ref h_t_x) (C := RX2) (T := TX2) (N := 5) hx hb hts in_X2 hown hK hP 0 rfl rfl 1 (Nat.le_of_ble_eq_true rfl) (hts _ qf_X2_15) (fun _ h9 => h9) rfl dX2_sideOf_146 ?_
        refine lv_iconst (v := (0 : Int32)) hx hb dX2_sideOf_149 (by decide) ?_
        refine va_iald hx hb hK hP 1 0 rfl rfl (inb_in (by decide)) dX2_sideOf_150 ?_
        refine lv_i2l hx hb dX2_sideOf_151 rfl ?_
        refine lv_lload hx hb dX2_sideOf_152 (lv_at hl 3 rfl) ?_
        refine lv_lmul hx hb dX2_sideOf_154 ?_
        refine lv_lload_n hx hb dX2_sideOf_155 rfl (lv_at hl 1 rfl) ?_
        refine lv_lsub hx hb dX2_sideOf_156 ?_
        refine lv_topl (fun l8_16 el8_16 => ?_)
        replace hf := xl_at hf el8_16
        refine lv_lstore (lv' := [(8, .long l8_16), (0, .ref h_t), (1, .long a1), (3, .long a3), (5, .long a5), (7, .int l7_15)]) hx hb dX2_sideOf_157 hl (Nat.le_of_ble_eq_true rfl) rfl (fun ls hl => ?_)
        refine lv_aload_n hx hb dX2_sideOf_159 rfl (lv_at hl 1 rfl) ?_
        refine va_get (D := (dC, dI)) (ci := 2) (v := .ref h_t_y) (C := RX2) (T := TX2) (N := 5) hx hb hts in_X2 hown hK hP 0 rfl rfl 2 (Nat.le_of_ble_eq_true rfl) (hts _ qf_X2_18) (fun _ h9 => h9) rfl dX2_sideOf_160 ?_
        refine lv_iconst (v := (0 : Int32)) hx hb dX2_sideOf_163 (by decide) ?_
        refine va_iald hx hb hK hP 2 0 rfl rfl (inb_in (by decide)) dX2_sideOf_164 ?_
        refine lv_i2l hx hb dX2_sideOf_165 rfl ?_
        refine lv_lload hx hb dX2_sideOf_166 (lv_at hl 4 rfl) ?_
        refine lv_lmul hx hb dX2_sideOf_168 ?_
        refine lv_lload_n hx hb dX2_sideOf_169 rfl (lv_at hl 3 rfl) ?_
        refine lv_lsub hx hb dX2_sideOf_170 ?_
        refine lv_topl (fun l10_17 el10_17 => ?_)
        replace hf := xl_at hf el10_17
        refine lv_lstore (lv' := [(10, .long l10_17), (8, .long l8_16), (0, .ref h_t), (1, .long a1), (3, .long a3), (5, .long a5), (7, .int l7_15)]) hx hb dX2_sideOf_171 hl (Nat.le_of_ble_eq_true rfl) rfl (fun ls hl => ?_)
        refine lv_aload_n hx hb dX2_sideOf_173 rfl (lv_at hl 2 rfl) ?_
        refine va_get (D := (dC, dI)) (ci := 2) (v := .ref h_t_x) (C := RX2) (T := TX2) (N := 5) hx hb hts in_X2 hown hK hP 0 rfl rfl 1 (Nat.le_of_ble_eq_true rfl) (hts _ qf_X2_15) (fun _ h9 => h9) rfl dX2_sideOf_174 ?_
        refine lv_aload_n hx hb dX2_sideOf_177 rfl (lv_at hl 2 rfl) ?_
        refine va_get (D := (dC, dI)) (ci := 2) (v := .int t_size) (C := RX2) (T := TX2) (N := 5) hx hb hts in_X2 hown hK hP 0 rfl rfl 4 (Nat.le_of_ble_eq_true rfl) (hts _ qf_X2_38) (fun _ h9 => h9) rfl dX2_sideOf_178 ?_
        refine lv_iconst (v := (1 : Int32)) hx hb dX2_sideOf_181 (by decide) ?_
        refine lv_isub hx hb dX2_sideOf_182 ?_
        obtain ⟨hg_18, hf⟩ := gd_some hf
        refine va_iald hx hb hK hP 1 0 rfl rfl (inb_in hg_18) dX2_sideOf_183 ?_
        refine lv_i2l hx hb dX2_sideOf_184 rfl ?_
        refine lv_lload hx hb dX2_sideOf_185 (lv_at hl 5 rfl) ?_
        refine lv_lmul hx hb dX2_sideOf_187 ?_
        refine lv_lload_n hx hb dX2_sideOf_188 rfl (lv_at hl 3 rfl) ?_
        refine lv_lsub hx hb dX2_sideOf_189 ?_
        refine lv_topl (fun l12_19 el12_19 => ?_)
        replace hf := xl_at hf el12_19
        refine lv_lstore (lv' := [(12, .long l12_19), (10, .long l10_17), (8, .long l8_16), (0, .ref h_t), (1, .long a1), (3, .long a3), (5, .long a5), (7, .int l7_15)]) hx hb dX2_sideOf_190 hl (Nat.le_of_ble_eq_true rfl) rfl (fun ls hl => ?_)
        refine lv_aload_n hx hb dX2_sideOf_192 rfl (lv_at hl 3 rfl) ?_
        refine va_get (D := (dC, dI)) (ci := 2) (v := .ref h_t_y) (C := RX2) (T := TX2) (N := 5) hx hb hts in_X2 hown hK hP 0 rfl rfl 2 (Nat.le_of_ble_eq_true rfl) (hts _ qf_X2_18) (fun _ h9 => h9) rfl dX2_sideOf_193 ?_
        refine lv_aload_n hx hb dX2_sideOf_196 rfl (lv_at hl 3 rfl) ?_
        refine va_get (D := (dC, dI)) (ci := 2) (v := .int t_size) (C := RX2) (T := TX2) (N := 5) hx hb hts in_X2 hown hK hP 0 rfl rfl 4 (Nat.le_of_ble_eq_true rfl) (hts _ qf_X2_38) (fun _ h9 => h9) rfl dX2_sideOf_197 ?_
        refine lv_iconst (v := (1 : Int32)) hx hb dX2_sideOf_200 (by decide) ?_
        refine lv_isub hx hb dX2_sideOf_201 ?_
        obtain ⟨hg_20, hf⟩ := gd_some hf
        refine va_iald hx hb hK hP 2 0 rfl rfl (inb_in hg_20) dX2_sideOf_202 ?_
        refine lv_i2l hx hb dX2_sideOf_203 rfl ?_
        refine lv_lload hx hb dX2_sideOf_204 (lv_at hl 6 rfl) ?_
        refine lv_lmul hx hb dX2_sideOf_206 ?_
        refine lv_lload_n hx hb dX2_sideOf_207 rfl (lv_at hl 5 rfl) ?_
        refine lv_lsub hx hb dX2_sideOf_208 ?_
        refine lv_topl (fun l14_21 el14_21 => ?_)
        replace hf := xl_at hf el14_21
        refine lv_lstore (lv' := [(14, .long l14_21), (12, .long l12_19), (10, .long l10_17), (8, .long l8_16), (0, .ref h_t), (1, .long a1), (3, .long a3), (5, .long a5), (7, .int l7_15)]) hx hb dX2_sideOf_209 hl (Nat.le_of_ble_eq_true rfl) rfl (fun ls hl => ?_)
        refine lv_lload hx hb dX2_sideOf_211 (lv_at hl 3 rfl) ?_
        refine lv_lload hx hb dX2_sideOf_213 (lv_at hl 1 rfl) ?_
        refine lv_lmul hx hb dX2_sideOf_215 ?_
        refine lv_lload hx hb dX2_sideOf_216 (lv_at hl 2 rfl) ?_
        refine lv_lload hx hb dX2_sideOf_218 (lv_at hl 0 rfl) ?_
        refine lv_lmul hx hb dX2_sideOf_220 ?_
        refine lv_ladd hx hb dX2_sideOf_221 ?_
        refine lv_lconst (v := (0 : Int64)) hx hb dX2_sideOf_222 (by decide) ?_
        refine W.lcmp hx hb dX2_sideOf_223 ?_
        refine lv_if_gt (tgt := 231) hx hb dX2_sideOf_224 (by decide) (fun hc => ?_) (fun hc => ?_)
        · replace hf := it_t ((lg_cmp_gt _ _).mp hc) hf
          refine lv_iconst (v := (0 : Int32)) hx hb dX2_sideOf_231 (by decide) ?_
          obtain rfl := o1 hf
          exact W.iret hx hb hr (fun t ht hW => ⟨⟨_, (), rfl, rfl, by rw [ht]; exact hP, hD⟩, hS.F ht⟩) hS.2.2 dX2_sideOf_232
        · replace hf := it_f (fun h9 => hc ((lg_cmp_gt _ _).mpr h9)) hf
          refine lv_iconst (v := (1 : Int32)) hx hb dX2_sideOf_227 (by decide) ?_
          refine lv_goto (tgt := 232) hx hb dX2_sideOf_228 (by decide) ?_
          obtain rfl := o1 hf
          exact W.iret hx hb hr (fun t ht hW => ⟨⟨_, (), rfl, rfl, by rw [ht]; exact hP, hD⟩, hS.F ht⟩) hS.2.2 dX2_sideOf_232
      · replace hf := it_f (hc) hf
        refine lv_iload hx hb dX2_sideOf_134 (lv_at hl 4 rfl) ?_
        refine lv_if_eq (tgt := 143) hx hb dX2_sideOf_136 (by decide) (fun hc => ?_) (fun hc => ?_)
        · replace hf := it_t (hc) hf
          refine lv_iconst (v := (2 : Int32)) hx hb dX2_sideOf_143 (by decide) ?_
          obtain rfl := o1 hf
          exact W.iret hx hb hr (fun t ht hW => ⟨⟨_, (), rfl, rfl, by rw [ht]; exact hP, hD⟩, hS.F ht⟩) hS.2.2 dX2_sideOf_144
        · replace hf := it_f (hc) hf
          refine lv_iconst (v := (1 : Int32)) hx hb dX2_sideOf_139 (by decide) ?_
          refine lv_goto (tgt := 144) hx hb dX2_sideOf_140 (by decide) ?_
          obtain rfl := o1 hf
          exact W.iret hx hb hr (fun t ht hW => ⟨⟨_, (), rfl, rfl, by rw [ht]; exact hP, hD⟩, hS.F ht⟩) hS.2.2 dX2_sideOf_144
  · replace hf := it_f (hc) hf
    refine lv_iconst (v := (0 : Int32)) hx hb dX2_sideOf_8 (by decide) ?_
    obtain rfl := o1 hf
    exact W.iret hx hb hr (fun t ht hW => ⟨⟨_, (), rfl, rfl, by rw [ht]; exact hP, hD⟩, hS.F ht⟩) hS.2.2 dX2_sideOf_9
theorem dX11_where_0 : decode cX11_where 0 = .ok (.aload_n 0, 1) := by decide +kernel
theorem dX11_where_1 : decode cX11_where 1 = .ok (.getfield 12, 3) := by decide +kernel
theorem dX11_where_4 : decode cX11_where 4 = .ok (.iload_n 1, 1) := by decide +kernel
theorem dX11_where_5 : decode cX11_where 5 = .ok (.invokevirtual 152, 3) := by decide +kernel
theorem dX11_where_8 : decode cX11_where 8 = .ok (.ifCond .eq 11, 3) := by decide +kernel
theorem dX11_where_11 : decode cX11_where 11 = .ok (.iload_n 2, 1) := by decide +kernel
theorem dX11_where_12 : decode cX11_where 12 = .ok (.iload_n 3, 1) := by decide +kernel
theorem dX11_where_13 : decode cX11_where 13 = .ok (.invokestatic 169, 3) := by decide +kernel
theorem dX11_where_16 : decode cX11_where 16 = .ok (.ifCond .ne 6, 3) := by decide +kernel
theorem dX11_where_19 : decode cX11_where 19 = .ok (.bipush (-2), 2) := by decide +kernel
theorem dX11_where_21 : decode cX11_where 21 = .ok (.ireturn, 1) := by decide +kernel
theorem dX11_where_22 : decode cX11_where 22 = .ok (.aload_n 0, 1) := by decide +kernel
theorem dX11_where_23 : decode cX11_where 23 = .ok (.getfield 28, 3) := by decide +kernel
theorem dX11_where_26 : decode cX11_where 26 = .ok (.aload_n 0, 1) := by decide +kernel
theorem dX11_where_27 : decode cX11_where 27 = .ok (.getfield 12, 3) := by decide +kernel
theorem dX11_where_30 : decode cX11_where 30 = .ok (.iload_n 1, 1) := by decide +kernel
theorem dX11_where_31 : decode cX11_where 31 = .ok (.invokevirtual 155, 3) := by decide +kernel
theorem dX11_where_34 : decode cX11_where 34 = .ok (.aload_n 0, 1) := by decide +kernel
theorem dX11_where_35 : decode cX11_where 35 = .ok (.getfield 28, 3) := by decide +kernel
theorem dX11_where_38 : decode cX11_where 38 = .ok (.iload_n 2, 1) := by decide +kernel
theorem dX11_where_39 : decode cX11_where 39 = .ok (.i2l, 1) := by decide +kernel
theorem dX11_where_40 : decode cX11_where 40 = .ok (.iload_n 3, 1) := by decide +kernel
theorem dX11_where_41 : decode cX11_where 41 = .ok (.i2l, 1) := by decide +kernel
theorem dX11_where_42 : decode cX11_where 42 = .ok (.lconst 1, 1) := by decide +kernel
theorem dX11_where_43 : decode cX11_where 43 = .ok (.invokevirtual 173, 3) := by decide +kernel
theorem dX11_where_46 : decode cX11_where 46 = .ok (.ireturn, 1) := by decide +kernel
set_option maxRecDepth 100000 in
set_option maxHeartbeats 4000000 in
theorem mtX11_where (l : Launch) (dC : Nat → ClassId) (dI : Nat → Nat → Nat) (cI cL cB : ClassId) (K : Nat) (h_t h_t_cloud h_t_reader h_t_hull h_t_near h_t_firstTie h_t_reducer h_t_chooser h_t_pair h_t_divider h_t_depths h_t_spot h_t_cloud_x h_t_cloud_y h_t_cloud_colour h_t_cloud_load h_t_hull_chain h_t_hull_x h_t_hull_y h_t_hull_sorted : Nat) (sz : Nat) (t_cloud_size : Int32) (t_cloud_centreX : Int32) (t_cloud_centreY : Int32) (t_cloud_x : Nat → Int32) (t_cloud_y : Nat → Int32) (t_hull_size : Int32) (t_hull_chain : Nat → Int32) (t_hull_x : Nat → Int32) (t_hull_y : Nat → Int32) (t_hull_sorted : Nat → Int32) (a1 : Int32) (a2 : Int32) (a3 : Int32) (o_r : Int32) (o_t_hull_size : Int32) (o_t_hull_chain : Nat → Int32) (o_t_hull_x : Nat → Int32) (o_t_hull_y : Nat → Int32) (o_t_hull_sorted : Nat → Int32) (hf : fX11_where K t_cloud_size t_cloud_x t_cloud_y t_hull_size t_hull_chain t_hull_x t_hull_y t_hull_sorted a1 a2 a3 = some (o_r, o_t_hull_size, o_t_hull_chain, o_t_hull_x, o_t_hull_y, o_t_hull_sorted)) : Met l yX11_where [Cond.code yX11_where cX11_where 4 (some .int)] ({ frames := 3, cells := 0, slots := 0, locals := 75 }) (va_Pc [.ref h_t, .int a1, .int a2, .int a3] (cPre dC dI cI cL cB sz [(h_t, .inr (11, [.ref h_t_cloud, .ref h_t_reader, .ref h_t_hull, .ref h_t_near, .ref h_t_firstTie, .ref h_t_reducer, .ref h_t_chooser, .ref h_t_pair, .ref h_t_divider, .ref h_t_depths, .ref h_t_spot])), (h_t_cloud, .inr (0, [.ref h_t_cloud_x, .ref h_t_cloud_y, .ref h_t_cloud_colour, .ref h_t_cloud_load, .int t_cloud_size, .int t_cloud_centreX, .int t_cloud_centreY])), (h_t_cloud_x, .inl (cI, 24, .inl t_cloud_x)), (h_t_cloud_y, .inl (cI, 24, .inl t_cloud_y)), (h_t_hull, .inr (2, [.ref h_t_hull_chain, .ref h_t_hull_x, .ref h_t_hull_y, .ref h_t_hull_sorted, .int t_hull_size])), (h_t_hull_chain, .inl (cI, 48, .inl t_hull_chain)), (h_t_hull_x, .inl (cI, 48, .inl t_hull_x)), (h_t_hull_y, .inl (cI, 48, .inl t_hull_y)), (h_t_hull_sorted, .inl (cI, 24, .inl t_hull_sorted))])) (cQi dC dI (va_A [(h_t, .inr (11, [.ref h_t_cloud, .ref h_t_reader, .ref h_t_hull, .ref h_t_near, .ref h_t_firstTie, .ref h_t_reducer, .ref h_t_chooser, .ref h_t_pair, .ref h_t_divider, .ref h_t_depths, .ref h_t_spot])), (h_t_cloud, .inr (0, [.ref h_t_cloud_x, .ref h_t_cloud_y, .ref h_t_cloud_colour, .ref h_t_cloud_load, .int t_cloud_size, .int t_cloud_centreX, .int t_cloud_centreY])), (h_t_cloud_x, .inl (cI, 24, .inl t_cloud_x)), (h_t_cloud_y, .inl (cI, 24, .inl t_cloud_y)), (h_t_hull, .inr (2, [.ref h_t_hull_chain, .ref h_t_hull_x, .ref h_t_hull_y, .ref h_t_hull_sorted, .int t_hull_size])), (h_t_hull_chain, .inl (cI, 48, .inl t_hull_chain)), (h_t_hull_x, .inl (cI, 48, .inl t_hull_x)), (h_t_hull_y, .inl (cI, 48, .inl t_hull_y)), (h_t_hull_sorted, .inl (cI, 24, .inl t_hull_sorted))] sz) o_r [(h_t, .inr (11, [.ref h_t_cloud, .ref h_t_reader, .ref h_t_hull, .ref h_t_near, .ref h_t_firstTie, .ref h_t_reducer, .ref h_t_chooser, .ref h_t_pair, .ref h_t_divider, .ref h_t_depths, .ref h_t_spot])), (h_t_cloud, .inr (0, [.ref h_t_cloud_x, .ref h_t_cloud_y, .ref h_t_cloud_colour, .ref h_t_cloud_load, .int t_cloud_size, .int t_cloud_centreX, .int t_cloud_centreY])), (h_t_cloud_x, .inl (cI, 24, .inl t_cloud_x)), (h_t_cloud_y, .inl (cI, 24, .inl t_cloud_y)), (h_t_hull, .inr (2, [.ref h_t_hull_chain, .ref h_t_hull_x, .ref h_t_hull_y, .ref h_t_hull_sorted, .int o_t_hull_size])), (h_t_hull_chain, .inl (cI, 48, .inl o_t_hull_chain)), (h_t_hull_x, .inl (cI, 48, .inl o_t_hull_x)), (h_t_hull_y, .inl (cI, 48, .inl o_t_hull_y)), (h_t_hull_sorted, .inl (cI, 24, .inl o_t_hull_sorted))]) 0 0 (va_A [(h_t, .inr (11, [.ref h_t_cloud, .ref h_t_reader, .ref h_t_hull, .ref h_t_near, .ref h_t_firstTie, .ref h_t_reducer, .ref h_t_chooser, .ref h_t_pair, .ref h_t_divider, .ref h_t_depths, .ref h_t_spot])), (h_t_cloud, .inr (0, [.ref h_t_cloud_x, .ref h_t_cloud_y, .ref h_t_cloud_colour, .ref h_t_cloud_load, .int t_cloud_size, .int t_cloud_centreX, .int t_cloud_centreY])), (h_t_cloud_x, .inl (cI, 24, .inl t_cloud_x)), (h_t_cloud_y, .inl (cI, 24, .inl t_cloud_y)), (h_t_hull, .inr (2, [.ref h_t_hull_chain, .ref h_t_hull_x, .ref h_t_hull_y, .ref h_t_hull_sorted, .int t_hull_size])), (h_t_hull_chain, .inl (cI, 48, .inl t_hull_chain)), (h_t_hull_x, .inl (cI, 48, .inl t_hull_x)), (h_t_hull_y, .inl (cI, 48, .inl t_hull_y)), (h_t_hull_sorted, .inl (cI, 24, .inl t_hull_sorted))] sz) := by
  refine Met.ofW (cc := cX11_where) (maxL := 4) (ret := (some .int)) (by decide) rfl ?_
  intro p e s m args below meth c s₁ B hml hv
  obtain ⟨rfl, hsz, hP, hK, hD0, hT⟩ := hv
  have hx := B.exec
  have hb := B.bytes
  have hr := B.returns
  have hown : s.vm.findClass RX11 = some m.cls := findClass_of_methodNamed B.named
  have hlocks := B.notSynchronized
  have hts := TB.use hT ([.ref h_t, .int a1, .int a2, .int a3] : List Value).toArray
  subst hsz
  have hD := hD0.self (sz := s.heap.size)
  generalize hAe : va_A [(h_t, .inr (11, [.ref h_t_cloud, .ref h_t_reader, .ref h_t_hull, .ref h_t_near, .ref h_t_firstTie, .ref h_t_reducer, .ref h_t_chooser, .ref h_t_pair, .ref h_t_divider, .ref h_t_depths, .ref h_t_spot])), (h_t_cloud, .inr (0, [.ref h_t_cloud_x, .ref h_t_cloud_y, .ref h_t_cloud_colour, .ref h_t_cloud_load, .int t_cloud_size, .int t_cloud_centreX, .int t_cloud_centreY])), (h_t_cloud_x, .inl (cI, 24, .inl t_cloud_x)), (h_t_cloud_y, .inl (cI, 24, .inl t_cloud_y)), (h_t_hull, .inr (2, [.ref h_t_hull_chain, .ref h_t_hull_x, .ref h_t_hull_y, .ref h_t_hull_sorted, .int t_hull_size])), (h_t_hull_chain, .inl (cI, 48, .inl t_hull_chain)), (h_t_hull_x, .inl (cI, 48, .inl t_hull_x)), (h_t_hull_y, .inl (cI, 48, .inl t_hull_y)), (h_t_hull_sorted, .inl (cI, 24, .inl t_hull_sorted))] s.heap.size = A at hD ⊢
  have hA : ∀ q : Nat, s.heap.size ≤ q → A q := fun q h => by rw [← hAe]; exact Or.inr h
  clear hAe hD0
  have hl := lv_entry ([.ref h_t, .int a1, .int a2, .int a3]) (n := 4) (Nat.le_of_ble_eq_true rfl)
  rw [lg_entry_eq]
  generalize (lg_sl ([.ref h_t, .int a1, .int a2, .int a3]) ++ List.replicate (4 - (lg_sl ([.ref h_t, .int a1, .int a2, .int a3])).length) Slot.unset).toArray = ls at hl ⊢
  have hl : lv_has ls 4 [(0, .ref h_t), (1, .int a1), (2, .int a2), (3, .int a3)] := hl
  have hF : 3 ≤ (headSpec [Cond.code yX11_where cX11_where 4 (some .int)] ({ frames := 3, cells := 0, slots := 0, locals := 75 })).room.frames := Nat.le_refl _
  have hLo : 75 ≤ (headSpec [Cond.code yX11_where cX11_where 4 (some .int)] ({ frames := 3, cells := 0, slots := 0, locals := 75 })).room.locals := Nat.le_refl _
  have C0 : Sx p (headSpec [Cond.code yX11_where cX11_where 4 (some .int)] ({ frames := 3, cells := 0, slots := 0, locals := 75 })).room s m ([.ref h_t, .int a1, .int a2, .int a3] : List Value).toArray c cX11_where 4 RX11 A dC dI cI cL cB 3 75 := ⟨hx, hb, hml, hown, hts, hK, hT, hA, hF, hLo⟩
  refine startH (A := A) hP (fun H locs hP hS => ?_)
  rw [fX11_where] at hf
  refine lv_aload_n hx hb dX11_where_0 rfl (lv_at hl 0 rfl) ?_
  refine va_get (D := (dC, dI)) (ci := 11) (v := .ref h_t_cloud) (C := RX11) (T := TX11) (N := 11) hx hb hts in_X11 hown hK hP 0 rfl rfl 0 (Nat.le_of_ble_eq_true rfl) (hts _ qf_X11_12) (fun _ h9 => h9) rfl dX11_where_1 ?_
  refine lv_iload_n hx hb dX11_where_4 rfl (lv_at hl 1 rfl) ?_
  obtain ⟨r_1, hq_2, hf⟩ := b1_some hf
  refine xci (wr := [(h_t, .inr (11, [.ref h_t_cloud, .ref h_t_reader, .ref h_t_hull, .ref h_t_near, .ref h_t_firstTie, .ref h_t_reducer, .ref h_t_chooser, .ref h_t_pair, .ref h_t_divider, .ref h_t_depths, .ref h_t_spot])), (h_t_cloud_x, .inl (cI, 24, .inl t_cloud_x)), (h_t_cloud_y, .inl (cI, 24, .inl t_cloud_y)), (h_t_hull, .inr (2, [.ref h_t_hull_chain, .ref h_t_hull_x, .ref h_t_hull_y, .ref h_t_hull_sorted, .int t_hull_size])), (h_t_hull_chain, .inl (cI, 48, .inl t_hull_chain)), (h_t_hull_x, .inl (cI, 48, .inl t_hull_x)), (h_t_hull_y, .inl (cI, 48, .inl t_hull_y)), (h_t_hull_sorted, .inl (cI, 24, .inl t_hull_sorted))]) (w2 := [(h_t, .inr (11, [.ref h_t_cloud, .ref h_t_reader, .ref h_t_hull, .ref h_t_near, .ref h_t_firstTie, .ref h_t_reducer, .ref h_t_chooser, .ref h_t_pair, .ref h_t_divider, .ref h_t_depths, .ref h_t_spot])), (h_t_cloud, .inr (0, [.ref h_t_cloud_x, .ref h_t_cloud_y, .ref h_t_cloud_colour, .ref h_t_cloud_load, .int t_cloud_size, .int t_cloud_centreX, .int t_cloud_centreY])), (h_t_cloud_x, .inl (cI, 24, .inl t_cloud_x)), (h_t_cloud_y, .inl (cI, 24, .inl t_cloud_y)), (h_t_hull, .inr (2, [.ref h_t_hull_chain, .ref h_t_hull_x, .ref h_t_hull_y, .ref h_t_hull_sorted, .int t_hull_size])), (h_t_hull_chain, .inl (cI, 48, .inl t_hull_chain)), (h_t_hull_x, .inl (cI, 48, .inl t_hull_x)), (h_t_hull_y, .inl (cI, 48, .inl t_hull_y)), (h_t_hull_sorted, .inl (cI, 24, .inl t_hull_sorted))]) (va_runV (As := [.int a1]) (rest := []) ⟨hx, hb, hml, hown, hts⟩ (mtX0_hasSet l dC dI cI cL cB K h_t_cloud h_t_cloud_x h_t_cloud_y h_t_cloud_colour h_t_cloud_load H.size t_cloud_size t_cloud_centreX t_cloud_centreY a1 r_1 hq_2) (cwV 1 hts gv_X11_152 rfl rfl rfl hdV_X0_hasSet ⟨Nat.le_trans (Nat.le_of_ble_eq_true rfl) hF, Nat.le_trans (Nat.le_of_ble_eq_true rfl) hLo⟩) (cPreV hK hP hD hT [1] rfl rfl (ci := 0) (q0 := 0) rfl rfl) rfl rfl hl.1 rfl (lv_room (Nat.le_of_ble_eq_true rfl)) dX11_where_5 ⟨Nat.zero_le _, Nat.zero_le _⟩) hP hD hS hA [1] [0, 2, 3, 4, 5, 6, 7, 8] [0, 8, 1, 2, 3, 4, 5, 6, 7] rfl rfl rfl rfl rfl rfl (fun H locs hP hD hS => ?_)
  refine lv_if_eq (tgt := 19) hx hb dX11_where_8 (by decide) (fun hc => ?_) (fun hc => ?_)
  · replace hf := it_t (hc) hf
    refine lv_bipush (v := (-2 : Int32)) hx hb dX11_where_19 (by decide) ?_
    obtain ⟨rfl, rfl, rfl, rfl, rfl, rfl⟩ := o6 hf
    exact W.iret hx hb hr (fun t ht hW => ⟨⟨_, (), rfl, rfl, by rw [ht]; exact hP, hD⟩, hS.F ht⟩) hS.2.2 dX11_where_21
  · replace hf := it_f (hc) hf
    refine lv_iload_n hx hb dX11_where_11 rfl (lv_at hl 2 rfl) ?_
    refine lv_iload_n hx hb dX11_where_12 rfl (lv_at hl 3 rfl) ?_
    obtain ⟨r_3, hq_4, hf⟩ := b1_some hf
    refine xci (wr := [(h_t, .inr (11, [.ref h_t_cloud, .ref h_t_reader, .ref h_t_hull, .ref h_t_near, .ref h_t_firstTie, .ref h_t_reducer, .ref h_t_chooser, .ref h_t_pair, .ref h_t_divider, .ref h_t_depths, .ref h_t_spot])), (h_t_cloud, .inr (0, [.ref h_t_cloud_x, .ref h_t_cloud_y, .ref h_t_cloud_colour, .ref h_t_cloud_load, .int t_cloud_size, .int t_cloud_centreX, .int t_cloud_centreY])), (h_t_cloud_x, .inl (cI, 24, .inl t_cloud_x)), (h_t_cloud_y, .inl (cI, 24, .inl t_cloud_y)), (h_t_hull, .inr (2, [.ref h_t_hull_chain, .ref h_t_hull_x, .ref h_t_hull_y, .ref h_t_hull_sorted, .int t_hull_size])), (h_t_hull_chain, .inl (cI, 48, .inl t_hull_chain)), (h_t_hull_x, .inl (cI, 48, .inl t_hull_x)), (h_t_hull_y, .inl (cI, 48, .inl t_hull_y)), (h_t_hull_sorted, .inl (cI, 24, .inl t_hull_sorted))]) (w2 := [(h_t, .inr (11, [.ref h_t_cloud, .ref h_t_reader, .ref h_t_hull, .ref h_t_near, .ref h_t_firstTie, .ref h_t_reducer, .ref h_t_chooser, .ref h_t_pair, .ref h_t_divider, .ref h_t_depths, .ref h_t_spot])), (h_t_cloud, .inr (0, [.ref h_t_cloud_x, .ref h_t_cloud_y, .ref h_t_cloud_colour, .ref h_t_cloud_load, .int t_cloud_size, .int t_cloud_centreX, .int t_cloud_centreY])), (h_t_cloud_x, .inl (cI, 24, .inl t_cloud_x)), (h_t_cloud_y, .inl (cI, 24, .inl t_cloud_y)), (h_t_hull, .inr (2, [.ref h_t_hull_chain, .ref h_t_hull_x, .ref h_t_hull_y, .ref h_t_hull_sorted, .int t_hull_size])), (h_t_hull_chain, .inl (cI, 48, .inl t_hull_chain)), (h_t_hull_x, .inl (cI, 48, .inl t_hull_x)), (h_t_hull_y, .inl (cI, 48, .inl t_hull_y)), (h_t_hull_sorted, .inl (cI, 24, .inl t_hull_sorted))]) (va_runS (As := [.int a2, .int a3]) (rest := []) ⟨hx, hb, hml, hown, hts⟩ (mtX11_isPlace l dC dI cI cL cB K H.size a2 a3 r_3 hq_4) (va_cwS 2 hts gs_X11_169 rfl rfl rfl hdS_X11_isPlace ⟨Nat.le_trans (Nat.le_of_ble_eq_true rfl) hF, Nat.le_trans (Nat.le_of_ble_eq_true rfl) hLo⟩) (cPreS hK hP hD hT [] rfl rfl) rfl rfl hl.1 rfl (lv_room (Nat.le_of_ble_eq_true rfl)) dX11_where_13 ⟨Nat.zero_le _, Nat.zero_le _⟩) hP hD hS hA [] [0, 1, 2, 3, 4, 5, 6, 7, 8] [0, 1, 2, 3, 4, 5, 6, 7, 8] rfl rfl rfl rfl rfl rfl (fun H locs hP hD hS => ?_)
    refine lv_if_ne (tgt := 22) hx hb dX11_where_16 (by decide) (fun hc => ?_) (fun hc => ?_)
    · replace hf := it_f (hc) hf
      refine lv_aload_n hx hb dX11_where_22 rfl (lv_at hl 0 rfl) ?_
      refine va_get (D := (dC, dI)) (ci := 11) (v := .ref h_t_hull) (C := RX11) (T := TX11) (N := 11) hx hb hts in_X11 hown hK hP 0 rfl rfl 2 (Nat.le_of_ble_eq_true rfl) (hts _ qf_X11_28) (fun _ h9 => h9) rfl dX11_where_23 ?_
      refine lv_aload_n hx hb dX11_where_26 rfl (lv_at hl 0 rfl) ?_
      refine va_get (D := (dC, dI)) (ci := 11) (v := .ref h_t_cloud) (C := RX11) (T := TX11) (N := 11) hx hb hts in_X11 hown hK hP 0 rfl rfl 0 (Nat.le_of_ble_eq_true rfl) (hts _ qf_X11_12) (fun _ h9 => h9) rfl dX11_where_27 ?_
      refine lv_iload_n hx hb dX11_where_30 rfl (lv_at hl 1 rfl) ?_
      obtain ⟨t_hull_size_5, t_hull_chain_6, t_hull_x_7, t_hull_y_8, t_hull_sorted_9, hq_10, hf⟩ := b5_some hf
      refine xcv (wr := [(h_t, .inr (11, [.ref h_t_cloud, .ref h_t_reader, .ref h_t_hull, .ref h_t_near, .ref h_t_firstTie, .ref h_t_reducer, .ref h_t_chooser, .ref h_t_pair, .ref h_t_divider, .ref h_t_depths, .ref h_t_spot]))]) (w2 := [(h_t, .inr (11, [.ref h_t_cloud, .ref h_t_reader, .ref h_t_hull, .ref h_t_near, .ref h_t_firstTie, .ref h_t_reducer, .ref h_t_chooser, .ref h_t_pair, .ref h_t_divider, .ref h_t_depths, .ref h_t_spot])), (h_t_cloud, .inr (0, [.ref h_t_cloud_x, .ref h_t_cloud_y, .ref h_t_cloud_colour, .ref h_t_cloud_load, .int t_cloud_size, .int t_cloud_centreX, .int t_cloud_centreY])), (h_t_cloud_x, .inl (cI, 24, .inl t_cloud_x)), (h_t_cloud_y, .inl (cI, 24, .inl t_cloud_y)), (h_t_hull, .inr (2, [.ref h_t_hull_chain, .ref h_t_hull_x, .ref h_t_hull_y, .ref h_t_hull_sorted, .int t_hull_size_5])), (h_t_hull_chain, .inl (cI, 48, .inl t_hull_chain_6)), (h_t_hull_x, .inl (cI, 48, .inl t_hull_x_7)), (h_t_hull_y, .inl (cI, 48, .inl t_hull_y_8)), (h_t_hull_sorted, .inl (cI, 24, .inl t_hull_sorted_9))]) (va_runV (As := [.ref h_t_cloud, .int a1]) (rest := []) ⟨hx, hb, hml, hown, hts⟩ (mtX2_build l dC dI cI cL cB K h_t_hull h_t_hull_chain h_t_hull_x h_t_hull_y h_t_hull_sorted h_t_cloud h_t_cloud_x h_t_cloud_y h_t_cloud_colour h_t_cloud_load H.size t_hull_size t_hull_chain t_hull_x t_hull_y t_hull_sorted t_cloud_size t_cloud_centreX t_cloud_centreY t_cloud_x t_cloud_y a1 t_hull_size_5 t_hull_chain_6 t_hull_x_7 t_hull_y_8 t_hull_sorted_9 hq_10) (cwV 2 hts gv_X11_155 rfl rfl rfl hdV_X2_build ⟨Nat.le_trans (Nat.le_of_ble_eq_true rfl) hF, Nat.le_trans (Nat.le_of_ble_eq_true rfl) hLo⟩) (cPreV hK hP hD hT [4, 5, 6, 7, 8, 1, 2, 3] rfl rfl (ci := 2) (q0 := 0) rfl rfl) rfl rfl hl.1 rfl (lv_room (Nat.le_of_ble_eq_true rfl)) dX11_where_31 ⟨Nat.zero_le _, Nat.zero_le _⟩) hP hD hS hA [4, 5, 6, 7, 8, 1, 2, 3] [0] [0, 6, 7, 8, 1, 2, 3, 4, 5] rfl rfl rfl rfl rfl rfl (fun H locs hP hD hS => ?_)
      refine lv_aload_n hx hb dX11_where_34 rfl (lv_at hl 0 rfl) ?_
      refine va_get (D := (dC, dI)) (ci := 11) (v := .ref h_t_hull) (C := RX11) (T := TX11) (N := 11) hx hb hts in_X11 hown hK hP 0 rfl rfl 2 (Nat.le_of_ble_eq_true rfl) (hts _ qf_X11_28) (fun _ h9 => h9) rfl dX11_where_35 ?_
      refine lv_iload_n hx hb dX11_where_38 rfl (lv_at hl 2 rfl) ?_
      refine lv_i2l hx hb dX11_where_39 rfl ?_
      refine lv_iload_n hx hb dX11_where_40 rfl (lv_at hl 3 rfl) ?_
      refine lv_i2l hx hb dX11_where_41 rfl ?_
      refine lv_lconst (v := (1 : Int64)) hx hb dX11_where_42 (by decide) ?_
      obtain ⟨r_11, hq_12, hf⟩ := b1_some hf
      refine xci (wr := [(h_t, .inr (11, [.ref h_t_cloud, .ref h_t_reader, .ref h_t_hull, .ref h_t_near, .ref h_t_firstTie, .ref h_t_reducer, .ref h_t_chooser, .ref h_t_pair, .ref h_t_divider, .ref h_t_depths, .ref h_t_spot])), (h_t_cloud, .inr (0, [.ref h_t_cloud_x, .ref h_t_cloud_y, .ref h_t_cloud_colour, .ref h_t_cloud_load, .int t_cloud_size, .int t_cloud_centreX, .int t_cloud_centreY])), (h_t_cloud_x, .inl (cI, 24, .inl t_cloud_x)), (h_t_cloud_y, .inl (cI, 24, .inl t_cloud_y)), (h_t_hull_chain, .inl (cI, 48, .inl t_hull_chain_6)), (h_t_hull_sorted, .inl (cI, 24, .inl t_hull_sorted_9))]) (w2 := [(h_t, .inr (11, [.ref h_t_cloud, .ref h_t_reader, .ref h_t_hull, .ref h_t_near, .ref h_t_firstTie, .ref h_t_reducer, .ref h_t_chooser, .ref h_t_pair, .ref h_t_divider, .ref h_t_depths, .ref h_t_spot])), (h_t_cloud, .inr (0, [.ref h_t_cloud_x, .ref h_t_cloud_y, .ref h_t_cloud_colour, .ref h_t_cloud_load, .int t_cloud_size, .int t_cloud_centreX, .int t_cloud_centreY])), (h_t_cloud_x, .inl (cI, 24, .inl t_cloud_x)), (h_t_cloud_y, .inl (cI, 24, .inl t_cloud_y)), (h_t_hull, .inr (2, [.ref h_t_hull_chain, .ref h_t_hull_x, .ref h_t_hull_y, .ref h_t_hull_sorted, .int t_hull_size_5])), (h_t_hull_chain, .inl (cI, 48, .inl t_hull_chain_6)), (h_t_hull_x, .inl (cI, 48, .inl t_hull_x_7)), (h_t_hull_y, .inl (cI, 48, .inl t_hull_y_8)), (h_t_hull_sorted, .inl (cI, 24, .inl t_hull_sorted_9))]) (va_runV (As := [.long (a2.toInt64), .long (a3.toInt64), .long (1 : Int64)]) (rest := []) ⟨hx, hb, hml, hown, hts⟩ (mtX2_sideOf l dC dI cI cL cB K h_t_hull h_t_hull_chain h_t_hull_x h_t_hull_y h_t_hull_sorted H.size t_hull_size_5 t_hull_x_7 t_hull_y_8 (a2.toInt64) (a3.toInt64) (1 : Int64) r_11 hq_12) (cwV 3 hts gv_X11_173 rfl rfl rfl hdV_X2_sideOf ⟨Nat.le_trans (Nat.le_of_ble_eq_true rfl) hF, Nat.le_trans (Nat.le_of_ble_eq_true rfl) hLo⟩) (cPreV hK hP hD hT [4, 6, 7] rfl rfl (ci := 2) (q0 := 0) rfl rfl) rfl rfl hl.1 rfl (lv_room (Nat.le_of_ble_eq_true rfl)) dX11_where_43 ⟨Nat.zero_le _, Nat.zero_le _⟩) hP hD hS hA [4, 6, 7] [0, 1, 2, 3, 5, 8] [0, 1, 2, 3, 6, 4, 7, 8, 5] rfl rfl rfl rfl rfl rfl (fun H locs hP hD hS => ?_)
      obtain ⟨rfl, rfl, rfl, rfl, rfl, rfl⟩ := o6 hf
      exact W.iret hx hb hr (fun t ht hW => ⟨⟨_, (), rfl, rfl, by rw [ht]; exact hP, hD⟩, hS.F ht⟩) hS.2.2 dX11_where_46
    · replace hf := it_t (hc) hf
      refine lv_bipush (v := (-2 : Int32)) hx hb dX11_where_19 (by decide) ?_
      obtain ⟨rfl, rfl, rfl, rfl, rfl, rfl⟩ := o6 hf
      exact W.iret hx hb hr (fun t ht hW => ⟨⟨_, (), rfl, rfl, by rw [ht]; exact hP, hD⟩, hS.F ht⟩) hS.2.2 dX11_where_21
theorem dX11_holds_0 : decode cX11_holds 0 = .ok (.aload_n 0, 1) := by decide +kernel
theorem dX11_holds_1 : decode cX11_holds 1 = .ok (.getfield 12, 3) := by decide +kernel
theorem dX11_holds_4 : decode cX11_holds 4 = .ok (.iload_n 1, 1) := by decide +kernel
theorem dX11_holds_5 : decode cX11_holds 5 = .ok (.invokevirtual 152, 3) := by decide +kernel
theorem dX11_holds_8 : decode cX11_holds 8 = .ok (.ifCond .ne 6, 3) := by decide +kernel
theorem dX11_holds_11 : decode cX11_holds 11 = .ok (.bipush (-2), 2) := by decide +kernel
theorem dX11_holds_13 : decode cX11_holds 13 = .ok (.ireturn, 1) := by decide +kernel
theorem dX11_holds_14 : decode cX11_holds 14 = .ok (.aload_n 0, 1) := by decide +kernel
theorem dX11_holds_15 : decode cX11_holds 15 = .ok (.getfield 28, 3) := by decide +kernel
theorem dX11_holds_18 : decode cX11_holds 18 = .ok (.aload_n 0, 1) := by decide +kernel
theorem dX11_holds_19 : decode cX11_holds 19 = .ok (.getfield 12, 3) := by decide +kernel
theorem dX11_holds_22 : decode cX11_holds 22 = .ok (.iload_n 1, 1) := by decide +kernel
theorem dX11_holds_23 : decode cX11_holds 23 = .ok (.invokevirtual 155, 3) := by decide +kernel
theorem dX11_holds_26 : decode cX11_holds 26 = .ok (.aload_n 0, 1) := by decide +kernel
theorem dX11_holds_27 : decode cX11_holds 27 = .ok (.getfield 28, 3) := by decide +kernel
theorem dX11_holds_30 : decode cX11_holds 30 = .ok (.aload_n 0, 1) := by decide +kernel
theorem dX11_holds_31 : decode cX11_holds 31 = .ok (.getfield 12, 3) := by decide +kernel
theorem dX11_holds_34 : decode cX11_holds 34 = .ok (.getfield 146, 3) := by decide +kernel
theorem dX11_holds_37 : decode cX11_holds 37 = .ok (.i2l, 1) := by decide +kernel
theorem dX11_holds_38 : decode cX11_holds 38 = .ok (.aload_n 0, 1) := by decide +kernel
theorem dX11_holds_39 : decode cX11_holds 39 = .ok (.getfield 12, 3) := by decide +kernel
theorem dX11_holds_42 : decode cX11_holds 42 = .ok (.getfield 149, 3) := by decide +kernel
theorem dX11_holds_45 : decode cX11_holds 45 = .ok (.i2l, 1) := by decide +kernel
theorem dX11_holds_46 : decode cX11_holds 46 = .ok (.lconst 1, 1) := by decide +kernel
theorem dX11_holds_47 : decode cX11_holds 47 = .ok (.invokevirtual 173, 3) := by decide +kernel
theorem dX11_holds_50 : decode cX11_holds 50 = .ok (.ifCond .le 7, 3) := by decide +kernel
theorem dX11_holds_53 : decode cX11_holds 53 = .ok (.iconst 1, 1) := by decide +kernel
theorem dX11_holds_54 : decode cX11_holds 54 = .ok (.goto 4, 3) := by decide +kernel
theorem dX11_holds_57 : decode cX11_holds 57 = .ok (.iconst 0, 1) := by decide +kernel
theorem dX11_holds_58 : decode cX11_holds 58 = .ok (.ireturn, 1) := by decide +kernel
set_option maxRecDepth 100000 in
set_option maxHeartbeats 4000000 in
theorem mtX11_holds (l : Launch) (dC : Nat → ClassId) (dI : Nat → Nat → Nat) (cI cL cB : ClassId) (K : Nat) (h_t h_t_cloud h_t_reader h_t_hull h_t_near h_t_firstTie h_t_reducer h_t_chooser h_t_pair h_t_divider h_t_depths h_t_spot h_t_cloud_x h_t_cloud_y h_t_cloud_colour h_t_cloud_load h_t_hull_chain h_t_hull_x h_t_hull_y h_t_hull_sorted : Nat) (sz : Nat) (t_cloud_size : Int32) (t_cloud_centreX : Int32) (t_cloud_centreY : Int32) (t_cloud_x : Nat → Int32) (t_cloud_y : Nat → Int32) (t_hull_size : Int32) (t_hull_chain : Nat → Int32) (t_hull_x : Nat → Int32) (t_hull_y : Nat → Int32) (t_hull_sorted : Nat → Int32) (a1 : Int32) (o_r : Int32) (o_t_hull_size : Int32) (o_t_hull_chain : Nat → Int32) (o_t_hull_x : Nat → Int32) (o_t_hull_y : Nat → Int32) (o_t_hull_sorted : Nat → Int32) (hf : fX11_holds K t_cloud_size t_cloud_centreX t_cloud_centreY t_cloud_x t_cloud_y t_hull_size t_hull_chain t_hull_x t_hull_y t_hull_sorted a1 = some (o_r, o_t_hull_size, o_t_hull_chain, o_t_hull_x, o_t_hull_y, o_t_hull_sorted)) : Met l yX11_holds [Cond.code yX11_holds cX11_holds 2 (some .int)] ({ frames := 3, cells := 0, slots := 0, locals := 75 }) (va_Pc [.ref h_t, .int a1] (cPre dC dI cI cL cB sz [(h_t, .inr (11, [.ref h_t_cloud, .ref h_t_reader, .ref h_t_hull, .ref h_t_near, .ref h_t_firstTie, .ref h_t_reducer, .ref h_t_chooser, .ref h_t_pair, .ref h_t_divider, .ref h_t_depths, .ref h_t_spot])), (h_t_cloud, .inr (0, [.ref h_t_cloud_x, .ref h_t_cloud_y, .ref h_t_cloud_colour, .ref h_t_cloud_load, .int t_cloud_size, .int t_cloud_centreX, .int t_cloud_centreY])), (h_t_cloud_x, .inl (cI, 24, .inl t_cloud_x)), (h_t_cloud_y, .inl (cI, 24, .inl t_cloud_y)), (h_t_hull, .inr (2, [.ref h_t_hull_chain, .ref h_t_hull_x, .ref h_t_hull_y, .ref h_t_hull_sorted, .int t_hull_size])), (h_t_hull_chain, .inl (cI, 48, .inl t_hull_chain)), (h_t_hull_x, .inl (cI, 48, .inl t_hull_x)), (h_t_hull_y, .inl (cI, 48, .inl t_hull_y)), (h_t_hull_sorted, .inl (cI, 24, .inl t_hull_sorted))])) (cQi dC dI (va_A [(h_t, .inr (11, [.ref h_t_cloud, .ref h_t_reader, .ref h_t_hull, .ref h_t_near, .ref h_t_firstTie, .ref h_t_reducer, .ref h_t_chooser, .ref h_t_pair, .ref h_t_divider, .ref h_t_depths, .ref h_t_spot])), (h_t_cloud, .inr (0, [.ref h_t_cloud_x, .ref h_t_cloud_y, .ref h_t_cloud_colour, .ref h_t_cloud_load, .int t_cloud_size, .int t_cloud_centreX, .int t_cloud_centreY])), (h_t_cloud_x, .inl (cI, 24, .inl t_cloud_x)), (h_t_cloud_y, .inl (cI, 24, .inl t_cloud_y)), (h_t_hull, .inr (2, [.ref h_t_hull_chain, .ref h_t_hull_x, .ref h_t_hull_y, .ref h_t_hull_sorted, .int t_hull_size])), (h_t_hull_chain, .inl (cI, 48, .inl t_hull_chain)), (h_t_hull_x, .inl (cI, 48, .inl t_hull_x)), (h_t_hull_y, .inl (cI, 48, .inl t_hull_y)), (h_t_hull_sorted, .inl (cI, 24, .inl t_hull_sorted))] sz) o_r [(h_t, .inr (11, [.ref h_t_cloud, .ref h_t_reader, .ref h_t_hull, .ref h_t_near, .ref h_t_firstTie, .ref h_t_reducer, .ref h_t_chooser, .ref h_t_pair, .ref h_t_divider, .ref h_t_depths, .ref h_t_spot])), (h_t_cloud, .inr (0, [.ref h_t_cloud_x, .ref h_t_cloud_y, .ref h_t_cloud_colour, .ref h_t_cloud_load, .int t_cloud_size, .int t_cloud_centreX, .int t_cloud_centreY])), (h_t_cloud_x, .inl (cI, 24, .inl t_cloud_x)), (h_t_cloud_y, .inl (cI, 24, .inl t_cloud_y)), (h_t_hull, .inr (2, [.ref h_t_hull_chain, .ref h_t_hull_x, .ref h_t_hull_y, .ref h_t_hull_sorted, .int o_t_hull_size])), (h_t_hull_chain, .inl (cI, 48, .inl o_t_hull_chain)), (h_t_hull_x, .inl (cI, 48, .inl o_t_hull_x)), (h_t_hull_y, .inl (cI, 48, .inl o_t_hull_y)), (h_t_hull_sorted, .inl (cI, 24, .inl o_t_hull_sorted))]) 0 0 (va_A [(h_t, .inr (11, [.ref h_t_cloud, .ref h_t_reader, .ref h_t_hull, .ref h_t_near, .ref h_t_firstTie, .ref h_t_reducer, .ref h_t_chooser, .ref h_t_pair, .ref h_t_divider, .ref h_t_depths, .ref h_t_spot])), (h_t_cloud, .inr (0, [.ref h_t_cloud_x, .ref h_t_cloud_y, .ref h_t_cloud_colour, .ref h_t_cloud_load, .int t_cloud_size, .int t_cloud_centreX, .int t_cloud_centreY])), (h_t_cloud_x, .inl (cI, 24, .inl t_cloud_x)), (h_t_cloud_y, .inl (cI, 24, .inl t_cloud_y)), (h_t_hull, .inr (2, [.ref h_t_hull_chain, .ref h_t_hull_x, .ref h_t_hull_y, .ref h_t_hull_sorted, .int t_hull_size])), (h_t_hull_chain, .inl (cI, 48, .inl t_hull_chain)), (h_t_hull_x, .inl (cI, 48, .inl t_hull_x)), (h_t_hull_y, .inl (cI, 48, .inl t_hull_y)), (h_t_hull_sorted, .inl (cI, 24, .inl t_hull_sorted))] sz) := by
  refine Met.ofW (cc := cX11_holds) (maxL := 2) (ret := (some .int)) (by decide) rfl ?_
  intro p e s m args below meth c s₁ B hml hv
  obtain ⟨rfl, hsz, hP, hK, hD0, hT⟩ := hv
  have hx := B.exec
  have hb := B.bytes
  have hr := B.returns
  have hown : s.vm.findClass RX11 = some m.cls := findClass_of_methodNamed B.named
  have hlocks := B.notSynchronized
  have hts := TB.use hT ([.ref h_t, .int a1] : List Value).toArray
  subst hsz
  have hD := hD0.self (sz := s.heap.size)
  generalize hAe : va_A [(h_t, .inr (11, [.ref h_t_cloud, .ref h_t_reader, .ref h_t_hull, .ref h_t_near, .ref h_t_firstTie, .ref h_t_reducer, .ref h_t_chooser, .ref h_t_pair, .ref h_t_divider, .ref h_t_depths, .ref h_t_spot])), (h_t_cloud, .inr (0, [.ref h_t_cloud_x, .ref h_t_cloud_y, .ref h_t_cloud_colour, .ref h_t_cloud_load, .int t_cloud_size, .int t_cloud_centreX, .int t_cloud_centreY])), (h_t_cloud_x, .inl (cI, 24, .inl t_cloud_x)), (h_t_cloud_y, .inl (cI, 24, .inl t_cloud_y)), (h_t_hull, .inr (2, [.ref h_t_hull_chain, .ref h_t_hull_x, .ref h_t_hull_y, .ref h_t_hull_sorted, .int t_hull_size])), (h_t_hull_chain, .inl (cI, 48, .inl t_hull_chain)), (h_t_hull_x, .inl (cI, 48, .inl t_hull_x)), (h_t_hull_y, .inl (cI, 48, .inl t_hull_y)), (h_t_hull_sorted, .inl (cI, 24, .inl t_hull_sorted))] s.heap.size = A at hD ⊢
  have hA : ∀ q : Nat, s.heap.size ≤ q → A q := fun q h => by rw [← hAe]; exact Or.inr h
  clear hAe hD0
  have hl := lv_entry ([.ref h_t, .int a1]) (n := 2) (Nat.le_of_ble_eq_true rfl)
  rw [lg_entry_eq]
  generalize (lg_sl ([.ref h_t, .int a1]) ++ List.replicate (2 - (lg_sl ([.ref h_t, .int a1])).length) Slot.unset).toArray = ls at hl ⊢
  have hl : lv_has ls 2 [(0, .ref h_t), (1, .int a1)] := hl
  have hF : 3 ≤ (headSpec [Cond.code yX11_holds cX11_holds 2 (some .int)] ({ frames := 3, cells := 0, slots := 0, locals := 75 })).room.frames := Nat.le_refl _
  have hLo : 75 ≤ (headSpec [Cond.code yX11_holds cX11_holds 2 (some .int)] ({ frames := 3, cells := 0, slots := 0, locals := 75 })).room.locals := Nat.le_refl _
  have C0 : Sx p (headSpec [Cond.code yX11_holds cX11_holds 2 (some .int)] ({ frames := 3, cells := 0, slots := 0, locals := 75 })).room s m ([.ref h_t, .int a1] : List Value).toArray c cX11_holds 2 RX11 A dC dI cI cL cB 3 75 := ⟨hx, hb, hml, hown, hts, hK, hT, hA, hF, hLo⟩
  refine startH (A := A) hP (fun H locs hP hS => ?_)
  rw [fX11_holds] at hf
  refine lv_aload_n hx hb dX11_holds_0 rfl (lv_at hl 0 rfl) ?_
  refine va_get (D := (dC, dI)) (ci := 11) (v := .ref h_t_cloud) (C := RX11) (T := TX11) (N := 11) hx hb hts in_X11 hown hK hP 0 rfl rfl 0 (Nat.le_of_ble_eq_true rfl) (hts _ qf_X11_12) (fun _ h9 => h9) rfl dX11_holds_1 ?_
  refine lv_iload_n hx hb dX11_holds_4 rfl (lv_at hl 1 rfl) ?_
  obtain ⟨r_1, hq_2, hf⟩ := b1_some hf
  refine xci (wr := [(h_t, .inr (11, [.ref h_t_cloud, .ref h_t_reader, .ref h_t_hull, .ref h_t_near, .ref h_t_firstTie, .ref h_t_reducer, .ref h_t_chooser, .ref h_t_pair, .ref h_t_divider, .ref h_t_depths, .ref h_t_spot])), (h_t_cloud_x, .inl (cI, 24, .inl t_cloud_x)), (h_t_cloud_y, .inl (cI, 24, .inl t_cloud_y)), (h_t_hull, .inr (2, [.ref h_t_hull_chain, .ref h_t_hull_x, .ref h_t_hull_y, .ref h_t_hull_sorted, .int t_hull_size])), (h_t_hull_chain, .inl (cI, 48, .inl t_hull_chain)), (h_t_hull_x, .inl (cI, 48, .inl t_hull_x)), (h_t_hull_y, .inl (cI, 48, .inl t_hull_y)), (h_t_hull_sorted, .inl (cI, 24, .inl t_hull_sorted))]) (w2 := [(h_t, .inr (11, [.ref h_t_cloud, .ref h_t_reader, .ref h_t_hull, .ref h_t_near, .ref h_t_firstTie, .ref h_t_reducer, .ref h_t_chooser, .ref h_t_pair, .ref h_t_divider, .ref h_t_depths, .ref h_t_spot])), (h_t_cloud, .inr (0, [.ref h_t_cloud_x, .ref h_t_cloud_y, .ref h_t_cloud_colour, .ref h_t_cloud_load, .int t_cloud_size, .int t_cloud_centreX, .int t_cloud_centreY])), (h_t_cloud_x, .inl (cI, 24, .inl t_cloud_x)), (h_t_cloud_y, .inl (cI, 24, .inl t_cloud_y)), (h_t_hull, .inr (2, [.ref h_t_hull_chain, .ref h_t_hull_x, .ref h_t_hull_y, .ref h_t_hull_sorted, .int t_hull_size])), (h_t_hull_chain, .inl (cI, 48, .inl t_hull_chain)), (h_t_hull_x, .inl (cI, 48, .inl t_hull_x)), (h_t_hull_y, .inl (cI, 48, .inl t_hull_y)), (h_t_hull_sorted, .inl (cI, 24, .inl t_hull_sorted))]) (va_runV (As := [.int a1]) (rest := []) ⟨hx, hb, hml, hown, hts⟩ (mtX0_hasSet l dC dI cI cL cB K h_t_cloud h_t_cloud_x h_t_cloud_y h_t_cloud_colour h_t_cloud_load H.size t_cloud_size t_cloud_centreX t_cloud_centreY a1 r_1 hq_2) (cwV 1 hts gv_X11_152 rfl rfl rfl hdV_X0_hasSet ⟨Nat.le_trans (Nat.le_of_ble_eq_true rfl) hF, Nat.le_trans (Nat.le_of_ble_eq_true rfl) hLo⟩) (cPreV hK hP hD hT [1] rfl rfl (ci := 0) (q0 := 0) rfl rfl) rfl rfl hl.1 rfl (lv_room (Nat.le_of_ble_eq_true rfl)) dX11_holds_5 ⟨Nat.zero_le _, Nat.zero_le _⟩) hP hD hS hA [1] [0, 2, 3, 4, 5, 6, 7, 8] [0, 8, 1, 2, 3, 4, 5, 6, 7] rfl rfl rfl rfl rfl rfl (fun H locs hP hD hS => ?_)
  refine lv_if_ne (tgt := 14) hx hb dX11_holds_8 (by decide) (fun hc => ?_) (fun hc => ?_)
  · replace hf := it_f (hc) hf
    refine lv_aload_n hx hb dX11_holds_14 rfl (lv_at hl 0 rfl) ?_
    refine va_get (D := (dC, dI)) (ci := 11) (v := .ref h_t_hull) (C := RX11) (T := TX11) (N := 11) hx hb hts in_X11 hown hK hP 0 rfl rfl 2 (Nat.le_of_ble_eq_true rfl) (hts _ qf_X11_28) (fun _ h9 => h9) rfl dX11_holds_15 ?_
    refine lv_aload_n hx hb dX11_holds_18 rfl (lv_at hl 0 rfl) ?_
    refine va_get (D := (dC, dI)) (ci := 11) (v := .ref h_t_cloud) (C := RX11) (T := TX11) (N := 11) hx hb hts in_X11 hown hK hP 0 rfl rfl 0 (Nat.le_of_ble_eq_true rfl) (hts _ qf_X11_12) (fun _ h9 => h9) rfl dX11_holds_19 ?_
    refine lv_iload_n hx hb dX11_holds_22 rfl (lv_at hl 1 rfl) ?_
    obtain ⟨t_hull_size_3, t_hull_chain_4, t_hull_x_5, t_hull_y_6, t_hull_sorted_7, hq_8, hf⟩ := b5_some hf
    refine xcv (wr := [(h_t, .inr (11, [.ref h_t_cloud, .ref h_t_reader, .ref h_t_hull, .ref h_t_near, .ref h_t_firstTie, .ref h_t_reducer, .ref h_t_chooser, .ref h_t_pair, .ref h_t_divider, .ref h_t_depths, .ref h_t_spot]))]) (w2 := [(h_t, .inr (11, [.ref h_t_cloud, .ref h_t_reader, .ref h_t_hull, .ref h_t_near, .ref h_t_firstTie, .ref h_t_reducer, .ref h_t_chooser, .ref h_t_pair, .ref h_t_divider, .ref h_t_depths, .ref h_t_spot])), (h_t_cloud, .inr (0, [.ref h_t_cloud_x, .ref h_t_cloud_y, .ref h_t_cloud_colour, .ref h_t_cloud_load, .int t_cloud_size, .int t_cloud_centreX, .int t_cloud_centreY])), (h_t_cloud_x, .inl (cI, 24, .inl t_cloud_x)), (h_t_cloud_y, .inl (cI, 24, .inl t_cloud_y)), (h_t_hull, .inr (2, [.ref h_t_hull_chain, .ref h_t_hull_x, .ref h_t_hull_y, .ref h_t_hull_sorted, .int t_hull_size_3])), (h_t_hull_chain, .inl (cI, 48, .inl t_hull_chain_4)), (h_t_hull_x, .inl (cI, 48, .inl t_hull_x_5)), (h_t_hull_y, .inl (cI, 48, .inl t_hull_y_6)), (h_t_hull_sorted, .inl (cI, 24, .inl t_hull_sorted_7))]) (va_runV (As := [.ref h_t_cloud, .int a1]) (rest := []) ⟨hx, hb, hml, hown, hts⟩ (mtX2_build l dC dI cI cL cB K h_t_hull h_t_hull_chain h_t_hull_x h_t_hull_y h_t_hull_sorted h_t_cloud h_t_cloud_x h_t_cloud_y h_t_cloud_colour h_t_cloud_load H.size t_hull_size t_hull_chain t_hull_x t_hull_y t_hull_sorted t_cloud_size t_cloud_centreX t_cloud_centreY t_cloud_x t_cloud_y a1 t_hull_size_3 t_hull_chain_4 t_hull_x_5 t_hull_y_6 t_hull_sorted_7 hq_8) (cwV 2 hts gv_X11_155 rfl rfl rfl hdV_X2_build ⟨Nat.le_trans (Nat.le_of_ble_eq_true rfl) hF, Nat.le_trans (Nat.le_of_ble_eq_true rfl) hLo⟩) (cPreV hK hP hD hT [4, 5, 6, 7, 8, 1, 2, 3] rfl rfl (ci := 2) (q0 := 0) rfl rfl) rfl rfl hl.1 rfl (lv_room (Nat.le_of_ble_eq_true rfl)) dX11_holds_23 ⟨Nat.zero_le _, Nat.zero_le _⟩) hP hD hS hA [4, 5, 6, 7, 8, 1, 2, 3] [0] [0, 6, 7, 8, 1, 2, 3, 4, 5] rfl rfl rfl rfl rfl rfl (fun H locs hP hD hS => ?_)
    refine lv_aload_n hx hb dX11_holds_26 rfl (lv_at hl 0 rfl) ?_
    refine va_get (D := (dC, dI)) (ci := 11) (v := .ref h_t_hull) (C := RX11) (T := TX11) (N := 11) hx hb hts in_X11 hown hK hP 0 rfl rfl 2 (Nat.le_of_ble_eq_true rfl) (hts _ qf_X11_28) (fun _ h9 => h9) rfl dX11_holds_27 ?_
    refine lv_aload_n hx hb dX11_holds_30 rfl (lv_at hl 0 rfl) ?_
    refine va_get (D := (dC, dI)) (ci := 11) (v := .ref h_t_cloud) (C := RX11) (T := TX11) (N := 11) hx hb hts in_X11 hown hK hP 0 rfl rfl 0 (Nat.le_of_ble_eq_true rfl) (hts _ qf_X11_12) (fun _ h9 => h9) rfl dX11_holds_31 ?_
    refine va_get (D := (dC, dI)) (ci := 0) (v := .int t_cloud_centreX) (C := RX0) (T := TX0) (N := 7) hx hb hts in_X0 hown hK hP 1 rfl rfl 5 (Nat.le_of_ble_eq_true rfl) (hts _ qf_X11_146) (fun _ h9 => h9) rfl dX11_holds_34 ?_
    refine lv_i2l hx hb dX11_holds_37 rfl ?_
    refine lv_aload_n hx hb dX11_holds_38 rfl (lv_at hl 0 rfl) ?_
    refine va_get (D := (dC, dI)) (ci := 11) (v := .ref h_t_cloud) (C := RX11) (T := TX11) (N := 11) hx hb hts in_X11 hown hK hP 0 rfl rfl 0 (Nat.le_of_ble_eq_true rfl) (hts _ qf_X11_12) (fun _ h9 => h9) rfl dX11_holds_39 ?_
    refine va_get (D := (dC, dI)) (ci := 0) (v := .int t_cloud_centreY) (C := RX0) (T := TX0) (N := 7) hx hb hts in_X0 hown hK hP 1 rfl rfl 6 (Nat.le_of_ble_eq_true rfl) (hts _ qf_X11_149) (fun _ h9 => h9) rfl dX11_holds_42 ?_
    refine lv_i2l hx hb dX11_holds_45 rfl ?_
    refine lv_lconst (v := (1 : Int64)) hx hb dX11_holds_46 (by decide) ?_
    obtain ⟨r_9, hq_10, hf⟩ := b1_some hf
    refine xci (wr := [(h_t, .inr (11, [.ref h_t_cloud, .ref h_t_reader, .ref h_t_hull, .ref h_t_near, .ref h_t_firstTie, .ref h_t_reducer, .ref h_t_chooser, .ref h_t_pair, .ref h_t_divider, .ref h_t_depths, .ref h_t_spot])), (h_t_cloud, .inr (0, [.ref h_t_cloud_x, .ref h_t_cloud_y, .ref h_t_cloud_colour, .ref h_t_cloud_load, .int t_cloud_size, .int t_cloud_centreX, .int t_cloud_centreY])), (h_t_cloud_x, .inl (cI, 24, .inl t_cloud_x)), (h_t_cloud_y, .inl (cI, 24, .inl t_cloud_y)), (h_t_hull_chain, .inl (cI, 48, .inl t_hull_chain_4)), (h_t_hull_sorted, .inl (cI, 24, .inl t_hull_sorted_7))]) (w2 := [(h_t, .inr (11, [.ref h_t_cloud, .ref h_t_reader, .ref h_t_hull, .ref h_t_near, .ref h_t_firstTie, .ref h_t_reducer, .ref h_t_chooser, .ref h_t_pair, .ref h_t_divider, .ref h_t_depths, .ref h_t_spot])), (h_t_cloud, .inr (0, [.ref h_t_cloud_x, .ref h_t_cloud_y, .ref h_t_cloud_colour, .ref h_t_cloud_load, .int t_cloud_size, .int t_cloud_centreX, .int t_cloud_centreY])), (h_t_cloud_x, .inl (cI, 24, .inl t_cloud_x)), (h_t_cloud_y, .inl (cI, 24, .inl t_cloud_y)), (h_t_hull, .inr (2, [.ref h_t_hull_chain, .ref h_t_hull_x, .ref h_t_hull_y, .ref h_t_hull_sorted, .int t_hull_size_3])), (h_t_hull_chain, .inl (cI, 48, .inl t_hull_chain_4)), (h_t_hull_x, .inl (cI, 48, .inl t_hull_x_5)), (h_t_hull_y, .inl (cI, 48, .inl t_hull_y_6)), (h_t_hull_sorted, .inl (cI, 24, .inl t_hull_sorted_7))]) (va_runV (As := [.long (t_cloud_centreX.toInt64), .long (t_cloud_centreY.toInt64), .long (1 : Int64)]) (rest := []) ⟨hx, hb, hml, hown, hts⟩ (mtX2_sideOf l dC dI cI cL cB K h_t_hull h_t_hull_chain h_t_hull_x h_t_hull_y h_t_hull_sorted H.size t_hull_size_3 t_hull_x_5 t_hull_y_6 (t_cloud_centreX.toInt64) (t_cloud_centreY.toInt64) (1 : Int64) r_9 hq_10) (cwV 3 hts gv_X11_173 rfl rfl rfl hdV_X2_sideOf ⟨Nat.le_trans (Nat.le_of_ble_eq_true rfl) hF, Nat.le_trans (Nat.le_of_ble_eq_true rfl) hLo⟩) (cPreV hK hP hD hT [4, 6, 7] rfl rfl (ci := 2) (q0 := 0) rfl rfl) rfl rfl hl.1 rfl (lv_room (Nat.le_of_ble_eq_true rfl)) dX11_holds_47 ⟨Nat.zero_le _, Nat.zero_le _⟩) hP hD hS hA [4, 6, 7] [0, 1, 2, 3, 5, 8] [0, 1, 2, 3, 6, 4, 7, 8, 5] rfl rfl rfl rfl rfl rfl (fun H locs hP hD hS => ?_)
    refine lv_if_le (tgt := 57) hx hb dX11_holds_50 (by decide) (fun hc => ?_) (fun hc => ?_)
    · replace hf := it_t (hc) hf
      refine lv_iconst (v := (0 : Int32)) hx hb dX11_holds_57 (by decide) ?_
      obtain ⟨rfl, rfl, rfl, rfl, rfl, rfl⟩ := o6 hf
      exact W.iret hx hb hr (fun t ht hW => ⟨⟨_, (), rfl, rfl, by rw [ht]; exact hP, hD⟩, hS.F ht⟩) hS.2.2 dX11_holds_58
    · replace hf := it_f (hc) hf
      refine lv_iconst (v := (1 : Int32)) hx hb dX11_holds_53 (by decide) ?_
      refine lv_goto (tgt := 58) hx hb dX11_holds_54 (by decide) ?_
      obtain ⟨rfl, rfl, rfl, rfl, rfl, rfl⟩ := o6 hf
      exact W.iret hx hb hr (fun t ht hW => ⟨⟨_, (), rfl, rfl, by rw [ht]; exact hP, hD⟩, hS.F ht⟩) hS.2.2 dX11_holds_58
  · replace hf := it_t (hc) hf
    refine lv_bipush (v := (-2 : Int32)) hx hb dX11_holds_11 (by decide) ?_
    obtain ⟨rfl, rfl, rfl, rfl, rfl, rfl⟩ := o6 hf
    exact W.iret hx hb hr (fun t ht hW => ⟨⟨_, (), rfl, rfl, by rw [ht]; exact hP, hD⟩, hS.F ht⟩) hS.2.2 dX11_holds_13
theorem dX4_start_0 : decode cX4_start 0 = .ok (.aload_n 0, 1) := by decide +kernel
theorem dX4_start_1 : decode cX4_start 1 = .ok (.iload_n 1, 1) := by decide +kernel
theorem dX4_start_2 : decode cX4_start 2 = .ok (.putfield 16, 3) := by decide +kernel
theorem dX4_start_5 : decode cX4_start 5 = .ok (.aload_n 0, 1) := by decide +kernel
theorem dX4_start_6 : decode cX4_start 6 = .ok (.iload_n 2, 1) := by decide +kernel
theorem dX4_start_7 : decode cX4_start 7 = .ok (.putfield 20, 3) := by decide +kernel
theorem dX4_start_10 : decode cX4_start 10 = .ok (.aload_n 0, 1) := by decide +kernel
theorem dX4_start_11 : decode cX4_start 11 = .ok (.lconst 0, 1) := by decide +kernel
theorem dX4_start_12 : decode cX4_start 12 = .ok (.putfield 23, 3) := by decide +kernel
theorem dX4_start_15 : decode cX4_start 15 = .ok (.aload_n 0, 1) := by decide +kernel
theorem dX4_start_16 : decode cX4_start 16 = .ok (.lconst 0, 1) := by decide +kernel
theorem dX4_start_17 : decode cX4_start 17 = .ok (.putfield 13, 3) := by decide +kernel
theorem dX4_start_20 : decode cX4_start 20 = .ok (.return_, 1) := by decide +kernel
set_option maxRecDepth 100000 in
set_option maxHeartbeats 4000000 in
theorem mtX4_start (l : Launch) (dC : Nat → ClassId) (dI : Nat → Nat → Nat) (cI cL cB : ClassId) (K : Nat) (h_t : Nat) (sz : Nat) (t_x : Int64) (t_y : Int64) (t_lower : Int64) (t_square : Int64) (t_squareLower : Int64) (t_fromX : Int32) (t_fromY : Int32) (a1 : Int32) (a2 : Int32) (o_t_square : Int64) (o_t_squareLower : Int64) (o_t_fromX : Int32) (o_t_fromY : Int32) (hf : fX4_start K t_square t_squareLower t_fromX t_fromY a1 a2 = some (o_t_square, o_t_squareLower, o_t_fromX, o_t_fromY)) : Met l yX4_start [Cond.code yX4_start cX4_start 3 none] ({ frames := 0, cells := 0, slots := 0, locals := 0 }) (va_Pc [.ref h_t, .int a1, .int a2] (cPre dC dI cI cL cB sz [(h_t, .inr (4, [.long t_x, .long t_y, .long t_lower, .long t_square, .long t_squareLower, .int t_fromX, .int t_fromY]))])) (cQv dC dI (va_A [(h_t, .inr (4, [.long t_x, .long t_y, .long t_lower, .long t_square, .long t_squareLower, .int t_fromX, .int t_fromY]))] sz) [(h_t, .inr (4, [.long t_x, .long t_y, .long t_lower, .long o_t_square, .long o_t_squareLower, .int o_t_fromX, .int o_t_fromY]))]) 0 0 (va_A [(h_t, .inr (4, [.long t_x, .long t_y, .long t_lower, .long t_square, .long t_squareLower, .int t_fromX, .int t_fromY]))] sz) := by
  refine Met.ofW (cc := cX4_start) (maxL := 3) (ret := none) (by decide) rfl ?_
  intro p e s m args below meth c s₁ B hml hv
  obtain ⟨rfl, hsz, hP, hK, hD0, hT⟩ := hv
  have hx := B.exec
  have hb := B.bytes
  have hr := B.returns
  have hown : s.vm.findClass RX4 = some m.cls := findClass_of_methodNamed B.named
  have hlocks := B.notSynchronized
  have hts := TB.use hT ([.ref h_t, .int a1, .int a2] : List Value).toArray
  subst hsz
  have hD := hD0.self (sz := s.heap.size)
  generalize hAe : va_A [(h_t, .inr (4, [.long t_x, .long t_y, .long t_lower, .long t_square, .long t_squareLower, .int t_fromX, .int t_fromY]))] s.heap.size = A at hD ⊢
  have hA : ∀ q : Nat, s.heap.size ≤ q → A q := fun q h => by rw [← hAe]; exact Or.inr h
  clear hAe hD0
  have hl := lv_entry ([.ref h_t, .int a1, .int a2]) (n := 3) (Nat.le_of_ble_eq_true rfl)
  rw [lg_entry_eq]
  generalize (lg_sl ([.ref h_t, .int a1, .int a2]) ++ List.replicate (3 - (lg_sl ([.ref h_t, .int a1, .int a2])).length) Slot.unset).toArray = ls at hl ⊢
  have hl : lv_has ls 3 [(0, .ref h_t), (1, .int a1), (2, .int a2)] := hl
  have hF : 0 ≤ (headSpec [Cond.code yX4_start cX4_start 3 none] ({ frames := 0, cells := 0, slots := 0, locals := 0 })).room.frames := Nat.le_refl _
  have hLo : 0 ≤ (headSpec [Cond.code yX4_start cX4_start 3 none] ({ frames := 0, cells := 0, slots := 0, locals := 0 })).room.locals := Nat.le_refl _
  have C0 : Sx p (headSpec [Cond.code yX4_start cX4_start 3 none] ({ frames := 0, cells := 0, slots := 0, locals := 0 })).room s m ([.ref h_t, .int a1, .int a2] : List Value).toArray c cX4_start 3 RX4 A dC dI cI cL cB 0 0 := ⟨hx, hb, hml, hown, hts, hK, hT, hA, hF, hLo⟩
  refine startH (A := A) hP (fun H locs hP hS => ?_)
  rw [fX4_start] at hf
  refine lv_aload_n hx hb dX4_start_0 rfl (lv_at hl 0 rfl) ?_
  refine lv_iload_n hx hb dX4_start_1 rfl (lv_at hl 1 rfl) ?_
  refine xput (D := (dC, dI)) (ci := 4) (v := .int a1) (C := RX4) (T := TX4) (N := 7) (w2 := [(h_t, .inr (4, [.long t_x, .long t_y, .long t_lower, .long t_square, .long t_squareLower, .int a1, .int t_fromY]))]) hx hb hts in_X4 tyX4 tyX4_ok nmX4 hown hK hP hD hS 0 rfl rfl 5 (Nat.le_of_ble_eq_true rfl) (hts _ qf_X4_16) (fun _ h9 => h9) rfl rfl rfl (Nat.le_of_ble_eq_true rfl) rfl dX4_start_2 (fun H locs hP hD hS => ?_)
  refine lv_aload_n hx hb dX4_start_5 rfl (lv_at hl 0 rfl) ?_
  refine lv_iload_n hx hb dX4_start_6 rfl (lv_at hl 2 rfl) ?_
  refine xput (D := (dC, dI)) (ci := 4) (v := .int a2) (C := RX4) (T := TX4) (N := 7) (w2 := [(h_t, .inr (4, [.long t_x, .long t_y, .long t_lower, .long t_square, .long t_squareLower, .int a1, .int a2]))]) hx hb hts in_X4 tyX4 tyX4_ok nmX4 hown hK hP hD hS 0 rfl rfl 6 (Nat.le_of_ble_eq_true rfl) (hts _ qf_X4_20) (fun _ h9 => h9) rfl rfl rfl (Nat.le_of_ble_eq_true rfl) rfl dX4_start_7 (fun H locs hP hD hS => ?_)
  refine lv_aload_n hx hb dX4_start_10 rfl (lv_at hl 0 rfl) ?_
  refine lv_lconst (v := (0 : Int64)) hx hb dX4_start_11 (by decide) ?_
  refine xput (D := (dC, dI)) (ci := 4) (v := .long (0 : Int64)) (C := RX4) (T := TX4) (N := 7) (w2 := [(h_t, .inr (4, [.long t_x, .long t_y, .long t_lower, .long (0 : Int64), .long t_squareLower, .int a1, .int a2]))]) hx hb hts in_X4 tyX4 tyX4_ok nmX4 hown hK hP hD hS 0 rfl rfl 3 (Nat.le_of_ble_eq_true rfl) (hts _ qf_X4_23) (fun _ h9 => h9) rfl rfl rfl (Nat.le_of_ble_eq_true rfl) rfl dX4_start_12 (fun H locs hP hD hS => ?_)
  refine lv_aload_n hx hb dX4_start_15 rfl (lv_at hl 0 rfl) ?_
  refine lv_lconst (v := (0 : Int64)) hx hb dX4_start_16 (by decide) ?_
  refine xput (D := (dC, dI)) (ci := 4) (v := .long (0 : Int64)) (C := RX4) (T := TX4) (N := 7) (w2 := [(h_t, .inr (4, [.long t_x, .long t_y, .long t_lower, .long (0 : Int64), .long (0 : Int64), .int a1, .int a2]))]) hx hb hts in_X4 tyX4 tyX4_ok nmX4 hown hK hP hD hS 0 rfl rfl 4 (Nat.le_of_ble_eq_true rfl) (hts _ qf_X4_13) (fun _ h9 => h9) rfl rfl rfl (Nat.le_of_ble_eq_true rfl) rfl dX4_start_17 (fun H locs hP hD hS => ?_)
  obtain ⟨rfl, rfl, rfl, rfl⟩ := o4 hf
  exact W.vret hx hb hr (fun t ht hW => ⟨⟨(), rfl, trivial, by rw [ht]; exact hP, hD⟩, hS.F ht⟩) hS.2.2 dX4_start_20
theorem dX4_offer_0 : decode cX4_offer 0 = .ok (.lload_n 1, 1) := by decide +kernel
theorem dX4_offer_1 : decode cX4_offer 1 = .ok (.aload_n 0, 1) := by decide +kernel
theorem dX4_offer_2 : decode cX4_offer 2 = .ok (.getfield 16, 3) := by decide +kernel
theorem dX4_offer_5 : decode cX4_offer 5 = .ok (.i2l, 1) := by decide +kernel
theorem dX4_offer_6 : decode cX4_offer 6 = .ok (.lload 5, 2) := by decide +kernel
theorem dX4_offer_8 : decode cX4_offer 8 = .ok (.lmul, 1) := by decide +kernel
theorem dX4_offer_9 : decode cX4_offer 9 = .ok (.lsub, 1) := by decide +kernel
theorem dX4_offer_10 : decode cX4_offer 10 = .ok (.lstore 7, 2) := by decide +kernel
theorem dX4_offer_12 : decode cX4_offer 12 = .ok (.lload_n 3, 1) := by decide +kernel
theorem dX4_offer_13 : decode cX4_offer 13 = .ok (.aload_n 0, 1) := by decide +kernel
theorem dX4_offer_14 : decode cX4_offer 14 = .ok (.getfield 20, 3) := by decide +kernel
theorem dX4_offer_17 : decode cX4_offer 17 = .ok (.i2l, 1) := by decide +kernel
theorem dX4_offer_18 : decode cX4_offer 18 = .ok (.lload 5, 2) := by decide +kernel
theorem dX4_offer_20 : decode cX4_offer 20 = .ok (.lmul, 1) := by decide +kernel
theorem dX4_offer_21 : decode cX4_offer 21 = .ok (.lsub, 1) := by decide +kernel
theorem dX4_offer_22 : decode cX4_offer 22 = .ok (.lstore 9, 2) := by decide +kernel
theorem dX4_offer_24 : decode cX4_offer 24 = .ok (.lload 7, 2) := by decide +kernel
theorem dX4_offer_26 : decode cX4_offer 26 = .ok (.lload 7, 2) := by decide +kernel
theorem dX4_offer_28 : decode cX4_offer 28 = .ok (.lmul, 1) := by decide +kernel
theorem dX4_offer_29 : decode cX4_offer 29 = .ok (.lload 9, 2) := by decide +kernel
theorem dX4_offer_31 : decode cX4_offer 31 = .ok (.lload 9, 2) := by decide +kernel
theorem dX4_offer_33 : decode cX4_offer 33 = .ok (.lmul, 1) := by decide +kernel
theorem dX4_offer_34 : decode cX4_offer 34 = .ok (.ladd, 1) := by decide +kernel
theorem dX4_offer_35 : decode cX4_offer 35 = .ok (.lstore 11, 2) := by decide +kernel
theorem dX4_offer_37 : decode cX4_offer 37 = .ok (.aload_n 0, 1) := by decide +kernel
theorem dX4_offer_38 : decode cX4_offer 38 = .ok (.getfield 13, 3) := by decide +kernel
theorem dX4_offer_41 : decode cX4_offer 41 = .ok (.lconst 0, 1) := by decide +kernel
theorem dX4_offer_42 : decode cX4_offer 42 = .ok (.lcmp, 1) := by decide +kernel
theorem dX4_offer_43 : decode cX4_offer 43 = .ok (.ifCond .eq 26, 3) := by decide +kernel
theorem dX4_offer_46 : decode cX4_offer 46 = .ok (.lload 11, 2) := by decide +kernel
theorem dX4_offer_48 : decode cX4_offer 48 = .ok (.aload_n 0, 1) := by decide +kernel
theorem dX4_offer_49 : decode cX4_offer 49 = .ok (.getfield 13, 3) := by decide +kernel
theorem dX4_offer_52 : decode cX4_offer 52 = .ok (.lmul, 1) := by decide +kernel
theorem dX4_offer_53 : decode cX4_offer 53 = .ok (.aload_n 0, 1) := by decide +kernel
theorem dX4_offer_54 : decode cX4_offer 54 = .ok (.getfield 23, 3) := by decide +kernel
theorem dX4_offer_57 : decode cX4_offer 57 = .ok (.lload 5, 2) := by decide +kernel
theorem dX4_offer_59 : decode cX4_offer 59 = .ok (.lmul, 1) := by decide +kernel
theorem dX4_offer_60 : decode cX4_offer 60 = .ok (.lload 5, 2) := by decide +kernel
theorem dX4_offer_62 : decode cX4_offer 62 = .ok (.lmul, 1) := by decide +kernel
theorem dX4_offer_63 : decode cX4_offer 63 = .ok (.lcmp, 1) := by decide +kernel
theorem dX4_offer_64 : decode cX4_offer 64 = .ok (.ifCond .lt 5, 3) := by decide +kernel
theorem dX4_offer_67 : decode cX4_offer 67 = .ok (.iconst 0, 1) := by decide +kernel
theorem dX4_offer_68 : decode cX4_offer 68 = .ok (.ireturn, 1) := by decide +kernel
theorem dX4_offer_69 : decode cX4_offer 69 = .ok (.aload_n 0, 1) := by decide +kernel
theorem dX4_offer_70 : decode cX4_offer 70 = .ok (.lload_n 1, 1) := by decide +kernel
theorem dX4_offer_71 : decode cX4_offer 71 = .ok (.putfield 54, 3) := by decide +kernel
theorem dX4_offer_74 : decode cX4_offer 74 = .ok (.aload_n 0, 1) := by decide +kernel
theorem dX4_offer_75 : decode cX4_offer 75 = .ok (.lload_n 3, 1) := by decide +kernel
theorem dX4_offer_76 : decode cX4_offer 76 = .ok (.putfield 56, 3) := by decide +kernel
theorem dX4_offer_79 : decode cX4_offer 79 = .ok (.aload_n 0, 1) := by decide +kernel
theorem dX4_offer_80 : decode cX4_offer 80 = .ok (.lload 5, 2) := by decide +kernel
theorem dX4_offer_82 : decode cX4_offer 82 = .ok (.putfield 7, 3) := by decide +kernel
theorem dX4_offer_85 : decode cX4_offer 85 = .ok (.aload_n 0, 1) := by decide +kernel
theorem dX4_offer_86 : decode cX4_offer 86 = .ok (.lload 11, 2) := by decide +kernel
theorem dX4_offer_88 : decode cX4_offer 88 = .ok (.putfield 23, 3) := by decide +kernel
theorem dX4_offer_91 : decode cX4_offer 91 = .ok (.aload_n 0, 1) := by decide +kernel
theorem dX4_offer_92 : decode cX4_offer 92 = .ok (.lload 5, 2) := by decide +kernel
theorem dX4_offer_94 : decode cX4_offer 94 = .ok (.lload 5, 2) := by decide +kernel
theorem dX4_offer_96 : decode cX4_offer 96 = .ok (.lmul, 1) := by decide +kernel
theorem dX4_offer_97 : decode cX4_offer 97 = .ok (.putfield 13, 3) := by decide +kernel
theorem dX4_offer_100 : decode cX4_offer 100 = .ok (.iconst 1, 1) := by decide +kernel
theorem dX4_offer_101 : decode cX4_offer 101 = .ok (.ireturn, 1) := by decide +kernel
set_option maxRecDepth 100000 in
set_option maxHeartbeats 4000000 in
theorem mtX4_offer (l : Launch) (dC : Nat → ClassId) (dI : Nat → Nat → Nat) (cI cL cB : ClassId) (K : Nat) (h_t : Nat) (sz : Nat) (t_x : Int64) (t_y : Int64) (t_lower : Int64) (t_square : Int64) (t_squareLower : Int64) (t_fromX : Int32) (t_fromY : Int32) (a1 : Int64) (a3 : Int64) (a5 : Int64) (o_r : Int32) (o_t_x : Int64) (o_t_y : Int64) (o_t_lower : Int64) (o_t_square : Int64) (o_t_squareLower : Int64) (hf : fX4_offer K t_x t_y t_lower t_square t_squareLower t_fromX t_fromY a1 a3 a5 = some (o_r, o_t_x, o_t_y, o_t_lower, o_t_square, o_t_squareLower)) : Met l yX4_offer [Cond.code yX4_offer cX4_offer 13 (some .boolean)] ({ frames := 0, cells := 0, slots := 0, locals := 0 }) (va_Pc [.ref h_t, .long a1, .long a3, .long a5] (cPre dC dI cI cL cB sz [(h_t, .inr (4, [.long t_x, .long t_y, .long t_lower, .long t_square, .long t_squareLower, .int t_fromX, .int t_fromY]))])) (cQi dC dI (va_A [(h_t, .inr (4, [.long t_x, .long t_y, .long t_lower, .long t_square, .long t_squareLower, .int t_fromX, .int t_fromY]))] sz) o_r [(h_t, .inr (4, [.long o_t_x, .long o_t_y, .long o_t_lower, .long o_t_square, .long o_t_squareLower, .int t_fromX, .int t_fromY]))]) 0 0 (va_A [(h_t, .inr (4, [.long t_x, .long t_y, .long t_lower, .long t_square, .long t_squareLower, .int t_fromX, .int t_fromY]))] sz) := by
  refine Met.ofW (cc := cX4_offer) (maxL := 13) (ret := (some .boolean)) (by decide) rfl ?_
  intro p e s m args below meth c s₁ B hml hv
  obtain ⟨rfl, hsz, hP, hK, hD0, hT⟩ := hv
  have hx := B.exec
  have hb := B.bytes
  have hr := B.returns
  have hown : s.vm.findClass RX4 = some m.cls := findClass_of_methodNamed B.named
  have hlocks := B.notSynchronized
  have hts := TB.use hT ([.ref h_t, .long a1, .long a3, .long a5] : List Value).toArray
  subst hsz
  have hD := hD0.self (sz := s.heap.size)
  generalize hAe : va_A [(h_t, .inr (4, [.long t_x, .long t_y, .long t_lower, .long t_square, .long t_squareLower, .int t_fromX, .int t_fromY]))] s.heap.size = A at hD ⊢
  have hA : ∀ q : Nat, s.heap.size ≤ q → A q := fun q h => by rw [← hAe]; exact Or.inr h
  clear hAe hD0
  have hl := lv_entry ([.ref h_t, .long a1, .long a3, .long a5]) (n := 13) (Nat.le_of_ble_eq_true rfl)
  rw [lg_entry_eq]
  generalize (lg_sl ([.ref h_t, .long a1, .long a3, .long a5]) ++ List.replicate (13 - (lg_sl ([.ref h_t, .long a1, .long a3, .long a5])).length) Slot.unset).toArray = ls at hl ⊢
  have hl : lv_has ls 13 [(0, .ref h_t), (1, .long a1), (3, .long a3), (5, .long a5)] := hl
  have hF : 0 ≤ (headSpec [Cond.code yX4_offer cX4_offer 13 (some .boolean)] ({ frames := 0, cells := 0, slots := 0, locals := 0 })).room.frames := Nat.le_refl _
  have hLo : 0 ≤ (headSpec [Cond.code yX4_offer cX4_offer 13 (some .boolean)] ({ frames := 0, cells := 0, slots := 0, locals := 0 })).room.locals := Nat.le_refl _
  have C0 : Sx p (headSpec [Cond.code yX4_offer cX4_offer 13 (some .boolean)] ({ frames := 0, cells := 0, slots := 0, locals := 0 })).room s m ([.ref h_t, .long a1, .long a3, .long a5] : List Value).toArray c cX4_offer 13 RX4 A dC dI cI cL cB 0 0 := ⟨hx, hb, hml, hown, hts, hK, hT, hA, hF, hLo⟩
  refine startH (A := A) hP (fun H locs hP hS => ?_)
  rw [fX4_offer] at hf
  refine lv_lload_n hx hb dX4_offer_0 rfl (lv_at hl 1 rfl) ?_
  refine lv_aload_n hx hb dX4_offer_1 rfl (lv_at hl 0 rfl) ?_
  refine va_get (D := (dC, dI)) (ci := 4) (v := .int t_fromX) (C := RX4) (T := TX4) (N := 7) hx hb hts in_X4 hown hK hP 0 rfl rfl 5 (Nat.le_of_ble_eq_true rfl) (hts _ qf_X4_16) (fun _ h9 => h9) rfl dX4_offer_2 ?_
  refine lv_i2l hx hb dX4_offer_5 rfl ?_
  refine lv_lload hx hb dX4_offer_6 (lv_at hl 3 rfl) ?_
  refine lv_lmul hx hb dX4_offer_8 ?_
  refine lv_lsub hx hb dX4_offer_9 ?_
  refine lv_topl (fun l7_1 el7_1 => ?_)
  replace hf := xl_at hf el7_1
  refine lv_lstore (lv' := [(7, .long l7_1), (0, .ref h_t), (1, .long a1), (3, .long a3), (5, .long a5)]) hx hb dX4_offer_10 hl (Nat.le_of_ble_eq_true rfl) rfl (fun ls hl => ?_)
  refine lv_lload_n hx hb dX4_offer_12 rfl (lv_at hl 3 rfl) ?_
  refine lv_aload_n hx hb dX4_offer_13 rfl (lv_at hl 1 rfl) ?_
  refine va_get (D := (dC, dI)) (ci := 4) (v := .int t_fromY) (C := RX4) (T := TX4) (N := 7) hx hb hts in_X4 hown hK hP 0 rfl rfl 6 (Nat.le_of_ble_eq_true rfl) (hts _ qf_X4_20) (fun _ h9 => h9) rfl dX4_offer_14 ?_
  refine lv_i2l hx hb dX4_offer_17 rfl ?_
  refine lv_lload hx hb dX4_offer_18 (lv_at hl 4 rfl) ?_
  refine lv_lmul hx hb dX4_offer_20 ?_
  refine lv_lsub hx hb dX4_offer_21 ?_
  refine lv_topl (fun l9_2 el9_2 => ?_)
  replace hf := xl_at hf el9_2
  refine lv_lstore (lv' := [(9, .long l9_2), (7, .long l7_1), (0, .ref h_t), (1, .long a1), (3, .long a3), (5, .long a5)]) hx hb dX4_offer_22 hl (Nat.le_of_ble_eq_true rfl) rfl (fun ls hl => ?_)
  refine lv_lload hx hb dX4_offer_24 (lv_at hl 1 rfl) ?_
  refine lv_lload hx hb dX4_offer_26 (lv_at hl 1 rfl) ?_
  refine lv_lmul hx hb dX4_offer_28 ?_
  refine lv_lload hx hb dX4_offer_29 (lv_at hl 0 rfl) ?_
  refine lv_lload hx hb dX4_offer_31 (lv_at hl 0 rfl) ?_
  refine lv_lmul hx hb dX4_offer_33 ?_
  refine lv_ladd hx hb dX4_offer_34 ?_
  refine lv_topl (fun l11_3 el11_3 => ?_)
  replace hf := xl_at hf el11_3
  refine lv_lstore (lv' := [(11, .long l11_3), (9, .long l9_2), (7, .long l7_1), (0, .ref h_t), (1, .long a1), (3, .long a3), (5, .long a5)]) hx hb dX4_offer_35 hl (Nat.le_of_ble_eq_true rfl) rfl (fun ls hl => ?_)
  refine lv_aload_n hx hb dX4_offer_37 rfl (lv_at hl 3 rfl) ?_
  refine va_get (D := (dC, dI)) (ci := 4) (v := .long t_squareLower) (C := RX4) (T := TX4) (N := 7) hx hb hts in_X4 hown hK hP 0 rfl rfl 4 (Nat.le_of_ble_eq_true rfl) (hts _ qf_X4_13) (fun _ h9 => h9) rfl dX4_offer_38 ?_
  refine lv_lconst (v := (0 : Int64)) hx hb dX4_offer_41 (by decide) ?_
  refine W.lcmp hx hb dX4_offer_42 ?_
  obtain ⟨k_4, ek_4, hf⟩ := jn_out hf
  have J_5 : ∀ (H : Heap) (locs : List Loc) (ls : Array Slot), va_P (dC, dI) vwCl [(h_t, .inr (4, [.long t_x, .long t_y, .long t_lower, .long t_square, .long t_squareLower, .int t_fromX, .int t_fromY]))] H → va_D A [(h_t, .inr (4, [.long t_x, .long t_y, .long t_lower, .long t_square, .long t_squareLower, .int t_fromX, .int t_fromY]))] → va_S A s.heap H locs → lv_has ls 13 [(0, .ref h_t), (1, .long a1), (3, .long a3), (5, .long a5), (11, .long l11_3)] → k_4 = some (o_r, o_t_x, o_t_y, o_t_lower, o_t_square, o_t_squareLower) → W p l e (headSpec [Cond.code yX4_offer cX4_offer 13 (some .boolean)] ({ frames := 0, cells := 0, slots := 0, locals := 0 })).room s m ([.ref h_t, .long a1, .long a3, .long a5] : List Value).toArray below meth c H locs 0 0 (MQ below (cQi dC dI A o_r [(h_t, .inr (4, [.long o_t_x, .long o_t_y, .long o_t_lower, .long o_t_square, .long o_t_squareLower, .int t_fromX, .int t_fromY]))]) ([.ref h_t, .long a1, .long a3, .long a5] : List Value).toArray s 0 0 A) (F0 m 69 ls []) := by
    intro H locs ls hP hD hS hl hf
    rw [ek_4] at hf
    refine lv_aload_n hx hb dX4_offer_69 rfl (lv_at hl 0 rfl) ?_
    refine lv_lload_n hx hb dX4_offer_70 rfl (lv_at hl 1 rfl) ?_
    refine xput (D := (dC, dI)) (ci := 4) (v := .long a1) (C := RX4) (T := TX4) (N := 7) (w2 := [(h_t, .inr (4, [.long a1, .long t_y, .long t_lower, .long t_square, .long t_squareLower, .int t_fromX, .int t_fromY]))]) hx hb hts in_X4 tyX4 tyX4_ok nmX4 hown hK hP hD hS 0 rfl rfl 0 (Nat.le_of_ble_eq_true rfl) (hts _ qf_X4_54) (fun _ h9 => h9) rfl rfl rfl (Nat.le_of_ble_eq_true rfl) rfl dX4_offer_71 (fun H locs hP hD hS => ?_)
    refine lv_aload_n hx hb dX4_offer_74 rfl (lv_at hl 0 rfl) ?_
    refine lv_lload_n hx hb dX4_offer_75 rfl (lv_at hl 2 rfl) ?_
    refine xput (D := (dC, dI)) (ci := 4) (v := .long a3) (C := RX4) (T := TX4) (N := 7) (w2 := [(h_t, .inr (4, [.long a1, .long a3, .long t_lower, .long t_square, .long t_squareLower, .int t_fromX, .int t_fromY]))]) hx hb hts in_X4 tyX4 tyX4_ok nmX4 hown hK hP hD hS 0 rfl rfl 1 (Nat.le_of_ble_eq_true rfl) (hts _ qf_X4_56) (fun _ h9 => h9) rfl rfl rfl (Nat.le_of_ble_eq_true rfl) rfl dX4_offer_76 (fun H locs hP hD hS => ?_)
    refine lv_aload_n hx hb dX4_offer_79 rfl (lv_at hl 0 rfl) ?_
    refine lv_lload hx hb dX4_offer_80 (lv_at hl 3 rfl) ?_
    refine xput (D := (dC, dI)) (ci := 4) (v := .long a5) (C := RX4) (T := TX4) (N := 7) (w2 := [(h_t, .inr (4, [.long a1, .long a3, .long a5, .long t_square, .long t_squareLower, .int t_fromX, .int t_fromY]))]) hx hb hts in_X4 tyX4 tyX4_ok nmX4 hown hK hP hD hS 0 rfl rfl 2 (Nat.le_of_ble_eq_true rfl) (hts _ qf_X4_7) (fun _ h9 => h9) rfl rfl rfl (Nat.le_of_ble_eq_true rfl) rfl dX4_offer_82 (fun H locs hP hD hS => ?_)
    refine lv_aload_n hx hb dX4_offer_85 rfl (lv_at hl 0 rfl) ?_
    refine lv_lload hx hb dX4_offer_86 (lv_at hl 4 rfl) ?_
    refine xput (D := (dC, dI)) (ci := 4) (v := .long l11_3) (C := RX4) (T := TX4) (N := 7) (w2 := [(h_t, .inr (4, [.long a1, .long a3, .long a5, .long l11_3, .long t_squareLower, .int t_fromX, .int t_fromY]))]) hx hb hts in_X4 tyX4 tyX4_ok nmX4 hown hK hP hD hS 0 rfl rfl 3 (Nat.le_of_ble_eq_true rfl) (hts _ qf_X4_23) (fun _ h9 => h9) rfl rfl rfl (Nat.le_of_ble_eq_true rfl) rfl dX4_offer_88 (fun H locs hP hD hS => ?_)
    refine lv_aload_n hx hb dX4_offer_91 rfl (lv_at hl 0 rfl) ?_
    refine lv_lload hx hb dX4_offer_92 (lv_at hl 3 rfl) ?_
    refine lv_lload hx hb dX4_offer_94 (lv_at hl 3 rfl) ?_
    refine lv_lmul hx hb dX4_offer_96 ?_
    refine lv_topl (fun f_squareLower_6 ef_squareLower_6 => ?_)
    replace hf := xl_at hf ef_squareLower_6
    refine xput (D := (dC, dI)) (ci := 4) (v := .long f_squareLower_6) (C := RX4) (T := TX4) (N := 7) (w2 := [(h_t, .inr (4, [.long a1, .long a3, .long a5, .long l11_3, .long f_squareLower_6, .int t_fromX, .int t_fromY]))]) hx hb hts in_X4 tyX4 tyX4_ok nmX4 hown hK hP hD hS 0 rfl rfl 4 (Nat.le_of_ble_eq_true rfl) (hts _ qf_X4_13) (fun _ h9 => h9) rfl rfl rfl (Nat.le_of_ble_eq_true rfl) rfl dX4_offer_97 (fun H locs hP hD hS => ?_)
    refine lv_iconst (v := (1 : Int32)) hx hb dX4_offer_100 (by decide) ?_
    obtain ⟨rfl, rfl, rfl, rfl, rfl, rfl⟩ := o6 hf
    exact W.zret hx hb hr rfl (fun t ht hW => ⟨⟨_, (), rfl, rfl, by rw [ht]; exact hP, hD⟩, hS.F ht⟩) hS.2.2 dX4_offer_101
  refine lv_if_eq (tgt := 69) hx hb dX4_offer_43 (by decide) (fun hc => ?_) (fun hc => ?_)
  · replace hf := it_t ((lg_cmp_eq _ _).mp hc) hf
    exact J_5 H locs ls hP hD hS (lv_sub hl [3, 4, 5, 6, 0] rfl) hf
  · replace hf := it_f (fun h9 => hc ((lg_cmp_eq _ _).mpr h9)) hf
    refine lv_lload hx hb dX4_offer_46 (lv_at hl 0 rfl) ?_
    refine lv_aload_n hx hb dX4_offer_48 rfl (lv_at hl 3 rfl) ?_
    refine va_get (D := (dC, dI)) (ci := 4) (v := .long t_squareLower) (C := RX4) (T := TX4) (N := 7) hx hb hts in_X4 hown hK hP 0 rfl rfl 4 (Nat.le_of_ble_eq_true rfl) (hts _ qf_X4_13) (fun _ h9 => h9) rfl dX4_offer_49 ?_
    refine lv_lmul hx hb dX4_offer_52 ?_
    refine lv_aload_n hx hb dX4_offer_53 rfl (lv_at hl 3 rfl) ?_
    refine va_get (D := (dC, dI)) (ci := 4) (v := .long t_square) (C := RX4) (T := TX4) (N := 7) hx hb hts in_X4 hown hK hP 0 rfl rfl 3 (Nat.le_of_ble_eq_true rfl) (hts _ qf_X4_23) (fun _ h9 => h9) rfl dX4_offer_54 ?_
    refine lv_lload hx hb dX4_offer_57 (lv_at hl 6 rfl) ?_
    refine lv_lmul hx hb dX4_offer_59 ?_
    refine lv_lload hx hb dX4_offer_60 (lv_at hl 6 rfl) ?_
    refine lv_lmul hx hb dX4_offer_62 ?_
    refine W.lcmp hx hb dX4_offer_63 ?_
    refine lv_if_lt (tgt := 69) hx hb dX4_offer_64 (by decide) (fun hc => ?_) (fun hc => ?_)
    · replace hf := it_t ((lg_cmp_lt _ _).mp hc) hf
      exact J_5 H locs ls hP hD hS (lv_sub hl [3, 4, 5, 6, 0] rfl) hf
    · replace hf := it_f (fun h9 => hc ((lg_cmp_lt _ _).mpr h9)) hf
      refine lv_iconst (v := (0 : Int32)) hx hb dX4_offer_67 (by decide) ?_
      obtain ⟨rfl, rfl, rfl, rfl, rfl, rfl⟩ := o6 hf
      exact W.zret hx hb hr rfl (fun t ht hW => ⟨⟨_, (), rfl, rfl, by rw [ht]; exact hP, hD⟩, hS.F ht⟩) hS.2.2 dX4_offer_68
theorem dX4_offerEdge_0 : decode cX4_offerEdge 0 = .ok (.iload_n 3, 1) := by decide +kernel
theorem dX4_offerEdge_1 : decode cX4_offerEdge 1 = .ok (.iload_n 1, 1) := by decide +kernel
theorem dX4_offerEdge_2 : decode cX4_offerEdge 2 = .ok (.isub, 1) := by decide +kernel
theorem dX4_offerEdge_3 : decode cX4_offerEdge 3 = .ok (.i2l, 1) := by decide +kernel
theorem dX4_offerEdge_4 : decode cX4_offerEdge 4 = .ok (.lstore 5, 2) := by decide +kernel
theorem dX4_offerEdge_6 : decode cX4_offerEdge 6 = .ok (.iload 4, 2) := by decide +kernel
theorem dX4_offerEdge_8 : decode cX4_offerEdge 8 = .ok (.iload_n 2, 1) := by decide +kernel
theorem dX4_offerEdge_9 : decode cX4_offerEdge 9 = .ok (.isub, 1) := by decide +kernel
theorem dX4_offerEdge_10 : decode cX4_offerEdge 10 = .ok (.i2l, 1) := by decide +kernel
theorem dX4_offerEdge_11 : decode cX4_offerEdge 11 = .ok (.lstore 7, 2) := by decide +kernel
theorem dX4_offerEdge_13 : decode cX4_offerEdge 13 = .ok (.lload 5, 2) := by decide +kernel
theorem dX4_offerEdge_15 : decode cX4_offerEdge 15 = .ok (.lload 5, 2) := by decide +kernel
theorem dX4_offerEdge_17 : decode cX4_offerEdge 17 = .ok (.lmul, 1) := by decide +kernel
theorem dX4_offerEdge_18 : decode cX4_offerEdge 18 = .ok (.lload 7, 2) := by decide +kernel
theorem dX4_offerEdge_20 : decode cX4_offerEdge 20 = .ok (.lload 7, 2) := by decide +kernel
theorem dX4_offerEdge_22 : decode cX4_offerEdge 22 = .ok (.lmul, 1) := by decide +kernel
theorem dX4_offerEdge_23 : decode cX4_offerEdge 23 = .ok (.ladd, 1) := by decide +kernel
theorem dX4_offerEdge_24 : decode cX4_offerEdge 24 = .ok (.lstore 9, 2) := by decide +kernel
theorem dX4_offerEdge_26 : decode cX4_offerEdge 26 = .ok (.lload 5, 2) := by decide +kernel
theorem dX4_offerEdge_28 : decode cX4_offerEdge 28 = .ok (.aload_n 0, 1) := by decide +kernel
theorem dX4_offerEdge_29 : decode cX4_offerEdge 29 = .ok (.getfield 16, 3) := by decide +kernel
theorem dX4_offerEdge_32 : decode cX4_offerEdge 32 = .ok (.iload_n 1, 1) := by decide +kernel
theorem dX4_offerEdge_33 : decode cX4_offerEdge 33 = .ok (.isub, 1) := by decide +kernel
theorem dX4_offerEdge_34 : decode cX4_offerEdge 34 = .ok (.i2l, 1) := by decide +kernel
theorem dX4_offerEdge_35 : decode cX4_offerEdge 35 = .ok (.lmul, 1) := by decide +kernel
theorem dX4_offerEdge_36 : decode cX4_offerEdge 36 = .ok (.lload 7, 2) := by decide +kernel
theorem dX4_offerEdge_38 : decode cX4_offerEdge 38 = .ok (.aload_n 0, 1) := by decide +kernel
theorem dX4_offerEdge_39 : decode cX4_offerEdge 39 = .ok (.getfield 20, 3) := by decide +kernel
theorem dX4_offerEdge_42 : decode cX4_offerEdge 42 = .ok (.iload_n 2, 1) := by decide +kernel
theorem dX4_offerEdge_43 : decode cX4_offerEdge 43 = .ok (.isub, 1) := by decide +kernel
theorem dX4_offerEdge_44 : decode cX4_offerEdge 44 = .ok (.i2l, 1) := by decide +kernel
theorem dX4_offerEdge_45 : decode cX4_offerEdge 45 = .ok (.lmul, 1) := by decide +kernel
theorem dX4_offerEdge_46 : decode cX4_offerEdge 46 = .ok (.ladd, 1) := by decide +kernel
theorem dX4_offerEdge_47 : decode cX4_offerEdge 47 = .ok (.lstore 11, 2) := by decide +kernel
theorem dX4_offerEdge_49 : decode cX4_offerEdge 49 = .ok (.lload 11, 2) := by decide +kernel
theorem dX4_offerEdge_51 : decode cX4_offerEdge 51 = .ok (.lconst 0, 1) := by decide +kernel
theorem dX4_offerEdge_52 : decode cX4_offerEdge 52 = .ok (.lcmp, 1) := by decide +kernel
theorem dX4_offerEdge_53 : decode cX4_offerEdge 53 = .ok (.ifCond .gt 13, 3) := by decide +kernel
theorem dX4_offerEdge_56 : decode cX4_offerEdge 56 = .ok (.aload_n 0, 1) := by decide +kernel
theorem dX4_offerEdge_57 : decode cX4_offerEdge 57 = .ok (.iload_n 1, 1) := by decide +kernel
theorem dX4_offerEdge_58 : decode cX4_offerEdge 58 = .ok (.i2l, 1) := by decide +kernel
theorem dX4_offerEdge_59 : decode cX4_offerEdge 59 = .ok (.iload_n 2, 1) := by decide +kernel
theorem dX4_offerEdge_60 : decode cX4_offerEdge 60 = .ok (.i2l, 1) := by decide +kernel
theorem dX4_offerEdge_61 : decode cX4_offerEdge 61 = .ok (.lconst 1, 1) := by decide +kernel
theorem dX4_offerEdge_62 : decode cX4_offerEdge 62 = .ok (.invokevirtual 36, 3) := by decide +kernel
theorem dX4_offerEdge_65 : decode cX4_offerEdge 65 = .ok (.ireturn, 1) := by decide +kernel
theorem dX4_offerEdge_66 : decode cX4_offerEdge 66 = .ok (.lload 11, 2) := by decide +kernel
theorem dX4_offerEdge_68 : decode cX4_offerEdge 68 = .ok (.lload 9, 2) := by decide +kernel
theorem dX4_offerEdge_70 : decode cX4_offerEdge 70 = .ok (.lcmp, 1) := by decide +kernel
theorem dX4_offerEdge_71 : decode cX4_offerEdge 71 = .ok (.ifCond .lt 14, 3) := by decide +kernel
theorem dX4_offerEdge_74 : decode cX4_offerEdge 74 = .ok (.aload_n 0, 1) := by decide +kernel
theorem dX4_offerEdge_75 : decode cX4_offerEdge 75 = .ok (.iload_n 3, 1) := by decide +kernel
theorem dX4_offerEdge_76 : decode cX4_offerEdge 76 = .ok (.i2l, 1) := by decide +kernel
theorem dX4_offerEdge_77 : decode cX4_offerEdge 77 = .ok (.iload 4, 2) := by decide +kernel
theorem dX4_offerEdge_79 : decode cX4_offerEdge 79 = .ok (.i2l, 1) := by decide +kernel
theorem dX4_offerEdge_80 : decode cX4_offerEdge 80 = .ok (.lconst 1, 1) := by decide +kernel
theorem dX4_offerEdge_81 : decode cX4_offerEdge 81 = .ok (.invokevirtual 36, 3) := by decide +kernel
theorem dX4_offerEdge_84 : decode cX4_offerEdge 84 = .ok (.ireturn, 1) := by decide +kernel
theorem dX4_offerEdge_85 : decode cX4_offerEdge 85 = .ok (.aload_n 0, 1) := by decide +kernel
theorem dX4_offerEdge_86 : decode cX4_offerEdge 86 = .ok (.iload_n 1, 1) := by decide +kernel
theorem dX4_offerEdge_87 : decode cX4_offerEdge 87 = .ok (.i2l, 1) := by decide +kernel
theorem dX4_offerEdge_88 : decode cX4_offerEdge 88 = .ok (.lload 9, 2) := by decide +kernel
theorem dX4_offerEdge_90 : decode cX4_offerEdge 90 = .ok (.lmul, 1) := by decide +kernel
theorem dX4_offerEdge_91 : decode cX4_offerEdge 91 = .ok (.lload 11, 2) := by decide +kernel
theorem dX4_offerEdge_93 : decode cX4_offerEdge 93 = .ok (.lload 5, 2) := by decide +kernel
theorem dX4_offerEdge_95 : decode cX4_offerEdge 95 = .ok (.lmul, 1) := by decide +kernel
theorem dX4_offerEdge_96 : decode cX4_offerEdge 96 = .ok (.ladd, 1) := by decide +kernel
theorem dX4_offerEdge_97 : decode cX4_offerEdge 97 = .ok (.iload_n 2, 1) := by decide +kernel
theorem dX4_offerEdge_98 : decode cX4_offerEdge 98 = .ok (.i2l, 1) := by decide +kernel
theorem dX4_offerEdge_99 : decode cX4_offerEdge 99 = .ok (.lload 9, 2) := by decide +kernel
theorem dX4_offerEdge_101 : decode cX4_offerEdge 101 = .ok (.lmul, 1) := by decide +kernel
theorem dX4_offerEdge_102 : decode cX4_offerEdge 102 = .ok (.lload 11, 2) := by decide +kernel
theorem dX4_offerEdge_104 : decode cX4_offerEdge 104 = .ok (.lload 7, 2) := by decide +kernel
theorem dX4_offerEdge_106 : decode cX4_offerEdge 106 = .ok (.lmul, 1) := by decide +kernel
theorem dX4_offerEdge_107 : decode cX4_offerEdge 107 = .ok (.ladd, 1) := by decide +kernel
theorem dX4_offerEdge_108 : decode cX4_offerEdge 108 = .ok (.lload 9, 2) := by decide +kernel
theorem dX4_offerEdge_110 : decode cX4_offerEdge 110 = .ok (.invokevirtual 36, 3) := by decide +kernel
theorem dX4_offerEdge_113 : decode cX4_offerEdge 113 = .ok (.ireturn, 1) := by decide +kernel
set_option maxRecDepth 100000 in
set_option maxHeartbeats 4000000 in
theorem mtX4_offerEdge (l : Launch) (dC : Nat → ClassId) (dI : Nat → Nat → Nat) (cI cL cB : ClassId) (K : Nat) (h_t : Nat) (sz : Nat) (t_x : Int64) (t_y : Int64) (t_lower : Int64) (t_square : Int64) (t_squareLower : Int64) (t_fromX : Int32) (t_fromY : Int32) (a1 : Int32) (a2 : Int32) (a3 : Int32) (a4 : Int32) (o_r : Int32) (o_t_x : Int64) (o_t_y : Int64) (o_t_lower : Int64) (o_t_square : Int64) (o_t_squareLower : Int64) (hf : fX4_offerEdge K t_x t_y t_lower t_square t_squareLower t_fromX t_fromY a1 a2 a3 a4 = some (o_r, o_t_x, o_t_y, o_t_lower, o_t_square, o_t_squareLower)) : Met l yX4_offerEdge [Cond.code yX4_offerEdge cX4_offerEdge 13 (some .boolean)] ({ frames := 1, cells := 0, slots := 0, locals := 32 }) (va_Pc [.ref h_t, .int a1, .int a2, .int a3, .int a4] (cPre dC dI cI cL cB sz [(h_t, .inr (4, [.long t_x, .long t_y, .long t_lower, .long t_square, .long t_squareLower, .int t_fromX, .int t_fromY]))])) (cQi dC dI (va_A [(h_t, .inr (4, [.long t_x, .long t_y, .long t_lower, .long t_square, .long t_squareLower, .int t_fromX, .int t_fromY]))] sz) o_r [(h_t, .inr (4, [.long o_t_x, .long o_t_y, .long o_t_lower, .long o_t_square, .long o_t_squareLower, .int t_fromX, .int t_fromY]))]) 0 0 (va_A [(h_t, .inr (4, [.long t_x, .long t_y, .long t_lower, .long t_square, .long t_squareLower, .int t_fromX, .int t_fromY]))] sz) := by
  refine Met.ofW (cc := cX4_offerEdge) (maxL := 13) (ret := (some .boolean)) (by decide) rfl ?_
  intro p e s m args below meth c s₁ B hml hv
  obtain ⟨rfl, hsz, hP, hK, hD0, hT⟩ := hv
  have hx := B.exec
  have hb := B.bytes
  have hr := B.returns
  have hown : s.vm.findClass RX4 = some m.cls := findClass_of_methodNamed B.named
  have hlocks := B.notSynchronized
  have hts := TB.use hT ([.ref h_t, .int a1, .int a2, .int a3, .int a4] : List Value).toArray
  subst hsz
  have hD := hD0.self (sz := s.heap.size)
  generalize hAe : va_A [(h_t, .inr (4, [.long t_x, .long t_y, .long t_lower, .long t_square, .long t_squareLower, .int t_fromX, .int t_fromY]))] s.heap.size = A at hD ⊢
  have hA : ∀ q : Nat, s.heap.size ≤ q → A q := fun q h => by rw [← hAe]; exact Or.inr h
  clear hAe hD0
  have hl := lv_entry ([.ref h_t, .int a1, .int a2, .int a3, .int a4]) (n := 13) (Nat.le_of_ble_eq_true rfl)
  rw [lg_entry_eq]
  generalize (lg_sl ([.ref h_t, .int a1, .int a2, .int a3, .int a4]) ++ List.replicate (13 - (lg_sl ([.ref h_t, .int a1, .int a2, .int a3, .int a4])).length) Slot.unset).toArray = ls at hl ⊢
  have hl : lv_has ls 13 [(0, .ref h_t), (1, .int a1), (2, .int a2), (3, .int a3), (4, .int a4)] := hl
  have hF : 1 ≤ (headSpec [Cond.code yX4_offerEdge cX4_offerEdge 13 (some .boolean)] ({ frames := 1, cells := 0, slots := 0, locals := 32 })).room.frames := Nat.le_refl _
  have hLo : 32 ≤ (headSpec [Cond.code yX4_offerEdge cX4_offerEdge 13 (some .boolean)] ({ frames := 1, cells := 0, slots := 0, locals := 32 })).room.locals := Nat.le_refl _
  have C0 : Sx p (headSpec [Cond.code yX4_offerEdge cX4_offerEdge 13 (some .boolean)] ({ frames := 1, cells := 0, slots := 0, locals := 32 })).room s m ([.ref h_t, .int a1, .int a2, .int a3, .int a4] : List Value).toArray c cX4_offerEdge 13 RX4 A dC dI cI cL cB 1 32 := ⟨hx, hb, hml, hown, hts, hK, hT, hA, hF, hLo⟩
  refine startH (A := A) hP (fun H locs hP hS => ?_)
  rw [fX4_offerEdge] at hf
  refine lv_iload_n hx hb dX4_offerEdge_0 rfl (lv_at hl 3 rfl) ?_
  refine lv_iload_n hx hb dX4_offerEdge_1 rfl (lv_at hl 1 rfl) ?_
  refine lv_isub hx hb dX4_offerEdge_2 ?_
  refine lv_i2l hx hb dX4_offerEdge_3 rfl ?_
  refine lv_topl (fun l5_1 el5_1 => ?_)
  replace hf := xl_at hf el5_1
  refine lv_lstore (lv' := [(5, .long l5_1), (0, .ref h_t), (1, .int a1), (2, .int a2), (3, .int a3), (4, .int a4)]) hx hb dX4_offerEdge_4 hl (Nat.le_of_ble_eq_true rfl) rfl (fun ls hl => ?_)
  refine lv_iload hx hb dX4_offerEdge_6 (lv_at hl 5 rfl) ?_
  refine lv_iload_n hx hb dX4_offerEdge_8 rfl (lv_at hl 3 rfl) ?_
  refine lv_isub hx hb dX4_offerEdge_9 ?_
  refine lv_i2l hx hb dX4_offerEdge_10 rfl ?_
  refine lv_topl (fun l7_2 el7_2 => ?_)
  replace hf := xl_at hf el7_2
  refine lv_lstore (lv' := [(7, .long l7_2), (5, .long l5_1), (0, .ref h_t), (1, .int a1), (2, .int a2), (3, .int a3), (4, .int a4)]) hx hb dX4_offerEdge_11 hl (Nat.le_of_ble_eq_true rfl) rfl (fun ls hl => ?_)
  refine lv_lload hx hb dX4_offerEdge_13 (lv_at hl 1 rfl) ?_
  refine lv_lload hx hb dX4_offerEdge_15 (lv_at hl 1 rfl) ?_
  refine lv_lmul hx hb dX4_offerEdge_17 ?_
  refine lv_lload hx hb dX4_offerEdge_18 (lv_at hl 0 rfl) ?_
  refine lv_lload hx hb dX4_offerEdge_20 (lv_at hl 0 rfl) ?_
  refine lv_lmul hx hb dX4_offerEdge_22 ?_
  refine lv_ladd hx hb dX4_offerEdge_23 ?_
  refine lv_topl (fun l9_3 el9_3 => ?_)
  replace hf := xl_at hf el9_3
  refine lv_lstore (lv' := [(9, .long l9_3), (7, .long l7_2), (5, .long l5_1), (0, .ref h_t), (1, .int a1), (2, .int a2), (3, .int a3), (4, .int a4)]) hx hb dX4_offerEdge_24 hl (Nat.le_of_ble_eq_true rfl) rfl (fun ls hl => ?_)
  refine lv_lload hx hb dX4_offerEdge_26 (lv_at hl 2 rfl) ?_
  refine lv_aload_n hx hb dX4_offerEdge_28 rfl (lv_at hl 3 rfl) ?_
  refine va_get (D := (dC, dI)) (ci := 4) (v := .int t_fromX) (C := RX4) (T := TX4) (N := 7) hx hb hts in_X4 hown hK hP 0 rfl rfl 5 (Nat.le_of_ble_eq_true rfl) (hts _ qf_X4_16) (fun _ h9 => h9) rfl dX4_offerEdge_29 ?_
  refine lv_iload_n hx hb dX4_offerEdge_32 rfl (lv_at hl 4 rfl) ?_
  refine lv_isub hx hb dX4_offerEdge_33 ?_
  refine lv_i2l hx hb dX4_offerEdge_34 rfl ?_
  refine lv_lmul hx hb dX4_offerEdge_35 ?_
  refine lv_lload hx hb dX4_offerEdge_36 (lv_at hl 1 rfl) ?_
  refine lv_aload_n hx hb dX4_offerEdge_38 rfl (lv_at hl 3 rfl) ?_
  refine va_get (D := (dC, dI)) (ci := 4) (v := .int t_fromY) (C := RX4) (T := TX4) (N := 7) hx hb hts in_X4 hown hK hP 0 rfl rfl 6 (Nat.le_of_ble_eq_true rfl) (hts _ qf_X4_20) (fun _ h9 => h9) rfl dX4_offerEdge_39 ?_
  refine lv_iload_n hx hb dX4_offerEdge_42 rfl (lv_at hl 5 rfl) ?_
  refine lv_isub hx hb dX4_offerEdge_43 ?_
  refine lv_i2l hx hb dX4_offerEdge_44 rfl ?_
  refine lv_lmul hx hb dX4_offerEdge_45 ?_
  refine lv_ladd hx hb dX4_offerEdge_46 ?_
  refine lv_topl (fun l11_4 el11_4 => ?_)
  replace hf := xl_at hf el11_4
  refine lv_lstore (lv' := [(11, .long l11_4), (9, .long l9_3), (7, .long l7_2), (5, .long l5_1), (0, .ref h_t), (1, .int a1), (2, .int a2), (3, .int a3), (4, .int a4)]) hx hb dX4_offerEdge_47 hl (Nat.le_of_ble_eq_true rfl) rfl (fun ls hl => ?_)
  refine lv_lload hx hb dX4_offerEdge_49 (lv_at hl 0 rfl) ?_
  refine lv_lconst (v := (0 : Int64)) hx hb dX4_offerEdge_51 (by decide) ?_
  refine W.lcmp hx hb dX4_offerEdge_52 ?_
  refine lv_if_gt (tgt := 66) hx hb dX4_offerEdge_53 (by decide) (fun hc => ?_) (fun hc => ?_)
  · replace hf := it_t ((lg_cmp_gt _ _).mp hc) hf
    refine lv_lload hx hb dX4_offerEdge_66 (lv_at hl 0 rfl) ?_
    refine lv_lload hx hb dX4_offerEdge_68 (lv_at hl 1 rfl) ?_
    refine W.lcmp hx hb dX4_offerEdge_70 ?_
    refine lv_if_lt (tgt := 85) hx hb dX4_offerEdge_71 (by decide) (fun hc => ?_) (fun hc => ?_)
    · replace hf := it_t ((lg_cmp_lt _ _).mp hc) hf
      refine lv_aload_n hx hb dX4_offerEdge_85 rfl (lv_at hl 4 rfl) ?_
      refine lv_iload_n hx hb dX4_offerEdge_86 rfl (lv_at hl 5 rfl) ?_
      refine lv_i2l hx hb dX4_offerEdge_87 rfl ?_
      refine lv_lload hx hb dX4_offerEdge_88 (lv_at hl 1 rfl) ?_
      refine lv_lmul hx hb dX4_offerEdge_90 ?_
      refine lv_lload hx hb dX4_offerEdge_91 (lv_at hl 0 rfl) ?_
      refine lv_lload hx hb dX4_offerEdge_93 (lv_at hl 3 rfl) ?_
      refine lv_lmul hx hb dX4_offerEdge_95 ?_
      refine lv_ladd hx hb dX4_offerEdge_96 ?_
      refine lv_iload_n hx hb dX4_offerEdge_97 rfl (lv_at hl 6 rfl) ?_
      refine lv_i2l hx hb dX4_offerEdge_98 rfl ?_
      refine lv_lload hx hb dX4_offerEdge_99 (lv_at hl 1 rfl) ?_
      refine lv_lmul hx hb dX4_offerEdge_101 ?_
      refine lv_lload hx hb dX4_offerEdge_102 (lv_at hl 0 rfl) ?_
      refine lv_lload hx hb dX4_offerEdge_104 (lv_at hl 2 rfl) ?_
      refine lv_lmul hx hb dX4_offerEdge_106 ?_
      refine lv_ladd hx hb dX4_offerEdge_107 ?_
      refine lv_lload hx hb dX4_offerEdge_108 (lv_at hl 1 rfl) ?_
      obtain ⟨r_5, t_x_6, t_y_7, t_lower_8, t_square_9, t_squareLower_10, hq_11, hf⟩ := b6_some hf
      refine xci (wr := []) (w2 := [(h_t, .inr (4, [.long t_x_6, .long t_y_7, .long t_lower_8, .long t_square_9, .long t_squareLower_10, .int t_fromX, .int t_fromY]))]) (va_runV (As := [.long (((a1.toInt64) * l9_3) + (l11_4 * l5_1)), .long (((a2.toInt64) * l9_3) + (l11_4 * l7_2)), .long l9_3]) (rest := []) ⟨hx, hb, hml, hown, hts⟩ (mtX4_offer l dC dI cI cL cB K h_t H.size t_x t_y t_lower t_square t_squareLower t_fromX t_fromY (((a1.toInt64) * l9_3) + (l11_4 * l5_1)) (((a2.toInt64) * l9_3) + (l11_4 * l7_2)) l9_3 r_5 t_x_6 t_y_7 t_lower_8 t_square_9 t_squareLower_10 hq_11) (cwV 3 hts gv_X4_36 rfl rfl rfl hdV_X4_offer ⟨Nat.le_trans (Nat.le_of_ble_eq_true rfl) hF, Nat.le_trans (Nat.le_of_ble_eq_true rfl) hLo⟩) (cPreV hK hP hD hT [0] rfl rfl (ci := 4) (q0 := 0) rfl rfl) rfl rfl hl.1 rfl (lv_room (Nat.le_of_ble_eq_true rfl)) dX4_offerEdge_110 ⟨Nat.zero_le _, Nat.zero_le _⟩) hP hD hS hA [0] [] [0] rfl rfl rfl rfl rfl rfl (fun H locs hP hD hS => ?_)
      obtain ⟨hg_12, hf⟩ := gd_some hf
      obtain ⟨rfl, rfl, rfl, rfl, rfl, rfl⟩ := o6 hf
      exact W.zret hx hb hr (z01_b hg_12) (fun t ht hW => ⟨⟨_, (), rfl, rfl, by rw [ht]; exact hP, hD⟩, hS.F ht⟩) hS.2.2 dX4_offerEdge_113
    · replace hf := it_f (fun h9 => hc ((lg_cmp_lt _ _).mpr h9)) hf
      refine lv_aload_n hx hb dX4_offerEdge_74 rfl (lv_at hl 4 rfl) ?_
      refine lv_iload_n hx hb dX4_offerEdge_75 rfl (lv_at hl 7 rfl) ?_
      refine lv_i2l hx hb dX4_offerEdge_76 rfl ?_
      refine lv_iload hx hb dX4_offerEdge_77 (lv_at hl 8 rfl) ?_
      refine lv_i2l hx hb dX4_offerEdge_79 rfl ?_
      refine lv_lconst (v := (1 : Int64)) hx hb dX4_offerEdge_80 (by decide) ?_
      obtain ⟨r_13, t_x_14, t_y_15, t_lower_16, t_square_17, t_squareLower_18, hq_19, hf⟩ := b6_some hf
      refine xci (wr := []) (w2 := [(h_t, .inr (4, [.long t_x_14, .long t_y_15, .long t_lower_16, .long t_square_17, .long t_squareLower_18, .int t_fromX, .int t_fromY]))]) (va_runV (As := [.long (a3.toInt64), .long (a4.toInt64), .long (1 : Int64)]) (rest := []) ⟨hx, hb, hml, hown, hts⟩ (mtX4_offer l dC dI cI cL cB K h_t H.size t_x t_y t_lower t_square t_squareLower t_fromX t_fromY (a3.toInt64) (a4.toInt64) (1 : Int64) r_13 t_x_14 t_y_15 t_lower_16 t_square_17 t_squareLower_18 hq_19) (cwV 3 hts gv_X4_36 rfl rfl rfl hdV_X4_offer ⟨Nat.le_trans (Nat.le_of_ble_eq_true rfl) hF, Nat.le_trans (Nat.le_of_ble_eq_true rfl) hLo⟩) (cPreV hK hP hD hT [0] rfl rfl (ci := 4) (q0 := 0) rfl rfl) rfl rfl hl.1 rfl (lv_room (Nat.le_of_ble_eq_true rfl)) dX4_offerEdge_81 ⟨Nat.zero_le _, Nat.zero_le _⟩) hP hD hS hA [0] [] [0] rfl rfl rfl rfl rfl rfl (fun H locs hP hD hS => ?_)
      obtain ⟨hg_20, hf⟩ := gd_some hf
      obtain ⟨rfl, rfl, rfl, rfl, rfl, rfl⟩ := o6 hf
      exact W.zret hx hb hr (z01_b hg_20) (fun t ht hW => ⟨⟨_, (), rfl, rfl, by rw [ht]; exact hP, hD⟩, hS.F ht⟩) hS.2.2 dX4_offerEdge_84
  · replace hf := it_f (fun h9 => hc ((lg_cmp_gt _ _).mpr h9)) hf
    refine lv_aload_n hx hb dX4_offerEdge_56 rfl (lv_at hl 4 rfl) ?_
    refine lv_iload_n hx hb dX4_offerEdge_57 rfl (lv_at hl 5 rfl) ?_
    refine lv_i2l hx hb dX4_offerEdge_58 rfl ?_
    refine lv_iload_n hx hb dX4_offerEdge_59 rfl (lv_at hl 6 rfl) ?_
    refine lv_i2l hx hb dX4_offerEdge_60 rfl ?_
    refine lv_lconst (v := (1 : Int64)) hx hb dX4_offerEdge_61 (by decide) ?_
    obtain ⟨r_21, t_x_22, t_y_23, t_lower_24, t_square_25, t_squareLower_26, hq_27, hf⟩ := b6_some hf
    refine xci (wr := []) (w2 := [(h_t, .inr (4, [.long t_x_22, .long t_y_23, .long t_lower_24, .long t_square_25, .long t_squareLower_26, .int t_fromX, .int t_fromY]))]) (va_runV (As := [.long (a1.toInt64), .long (a2.toInt64), .long (1 : Int64)]) (rest := []) ⟨hx, hb, hml, hown, hts⟩ (mtX4_offer l dC dI cI cL cB K h_t H.size t_x t_y t_lower t_square t_squareLower t_fromX t_fromY (a1.toInt64) (a2.toInt64) (1 : Int64) r_21 t_x_22 t_y_23 t_lower_24 t_square_25 t_squareLower_26 hq_27) (cwV 3 hts gv_X4_36 rfl rfl rfl hdV_X4_offer ⟨Nat.le_trans (Nat.le_of_ble_eq_true rfl) hF, Nat.le_trans (Nat.le_of_ble_eq_true rfl) hLo⟩) (cPreV hK hP hD hT [0] rfl rfl (ci := 4) (q0 := 0) rfl rfl) rfl rfl hl.1 rfl (lv_room (Nat.le_of_ble_eq_true rfl)) dX4_offerEdge_62 ⟨Nat.zero_le _, Nat.zero_le _⟩) hP hD hS hA [0] [] [0] rfl rfl rfl rfl rfl rfl (fun H locs hP hD hS => ?_)
    obtain ⟨hg_28, hf⟩ := gd_some hf
    obtain ⟨rfl, rfl, rfl, rfl, rfl, rfl⟩ := o6 hf
    exact W.zret hx hb hr (z01_b hg_28) (fun t ht hW => ⟨⟨_, (), rfl, rfl, by rw [ht]; exact hP, hD⟩, hS.F ht⟩) hS.2.2 dX4_offerEdge_65
theorem dX4_findOnHull_0 : decode cX4_findOnHull 0 = .ok (.aload_n 0, 1) := by decide +kernel
theorem dX4_findOnHull_1 : decode cX4_findOnHull 1 = .ok (.iload_n 2, 1) := by decide +kernel
theorem dX4_findOnHull_2 : decode cX4_findOnHull 2 = .ok (.iload_n 3, 1) := by decide +kernel
theorem dX4_findOnHull_3 : decode cX4_findOnHull 3 = .ok (.invokevirtual 26, 3) := by decide +kernel
theorem dX4_findOnHull_6 : decode cX4_findOnHull 6 = .ok (.aload_n 1, 1) := by decide +kernel
theorem dX4_findOnHull_7 : decode cX4_findOnHull 7 = .ok (.iload_n 2, 1) := by decide +kernel
theorem dX4_findOnHull_8 : decode cX4_findOnHull 8 = .ok (.i2l, 1) := by decide +kernel
theorem dX4_findOnHull_9 : decode cX4_findOnHull 9 = .ok (.iload_n 3, 1) := by decide +kernel
theorem dX4_findOnHull_10 : decode cX4_findOnHull 10 = .ok (.i2l, 1) := by decide +kernel
theorem dX4_findOnHull_11 : decode cX4_findOnHull 11 = .ok (.lconst 1, 1) := by decide +kernel
theorem dX4_findOnHull_12 : decode cX4_findOnHull 12 = .ok (.invokevirtual 30, 3) := by decide +kernel
theorem dX4_findOnHull_15 : decode cX4_findOnHull 15 = .ok (.ifCond .le 14, 3) := by decide +kernel
theorem dX4_findOnHull_18 : decode cX4_findOnHull 18 = .ok (.aload_n 0, 1) := by decide +kernel
theorem dX4_findOnHull_19 : decode cX4_findOnHull 19 = .ok (.iload_n 2, 1) := by decide +kernel
theorem dX4_findOnHull_20 : decode cX4_findOnHull 20 = .ok (.i2l, 1) := by decide +kernel
theorem dX4_findOnHull_21 : decode cX4_findOnHull 21 = .ok (.iload_n 3, 1) := by decide +kernel
theorem dX4_findOnHull_22 : decode cX4_findOnHull 22 = .ok (.i2l, 1) := by decide +kernel
theorem dX4_findOnHull_23 : decode cX4_findOnHull 23 = .ok (.lconst 1, 1) := by decide +kernel
theorem dX4_findOnHull_24 : decode cX4_findOnHull 24 = .ok (.invokevirtual 36, 3) := by decide +kernel
theorem dX4_findOnHull_27 : decode cX4_findOnHull 27 = .ok (.pop, 1) := by decide +kernel
theorem dX4_findOnHull_28 : decode cX4_findOnHull 28 = .ok (.return_, 1) := by decide +kernel
theorem dX4_findOnHull_29 : decode cX4_findOnHull 29 = .ok (.iconst 0, 1) := by decide +kernel
theorem dX4_findOnHull_30 : decode cX4_findOnHull 30 = .ok (.istore 4, 2) := by decide +kernel
theorem dX4_findOnHull_32 : decode cX4_findOnHull 32 = .ok (.iload 4, 2) := by decide +kernel
theorem dX4_findOnHull_34 : decode cX4_findOnHull 34 = .ok (.aload_n 1, 1) := by decide +kernel
theorem dX4_findOnHull_35 : decode cX4_findOnHull 35 = .ok (.getfield 40, 3) := by decide +kernel
theorem dX4_findOnHull_38 : decode cX4_findOnHull 38 = .ok (.if_icmp .ge 46, 3) := by decide +kernel
theorem dX4_findOnHull_41 : decode cX4_findOnHull 41 = .ok (.aload_n 0, 1) := by decide +kernel
theorem dX4_findOnHull_42 : decode cX4_findOnHull 42 = .ok (.aload_n 1, 1) := by decide +kernel
theorem dX4_findOnHull_43 : decode cX4_findOnHull 43 = .ok (.getfield 43, 3) := by decide +kernel
theorem dX4_findOnHull_46 : decode cX4_findOnHull 46 = .ok (.iload 4, 2) := by decide +kernel
theorem dX4_findOnHull_48 : decode cX4_findOnHull 48 = .ok (.iaload, 1) := by decide +kernel
theorem dX4_findOnHull_49 : decode cX4_findOnHull 49 = .ok (.aload_n 1, 1) := by decide +kernel
theorem dX4_findOnHull_50 : decode cX4_findOnHull 50 = .ok (.getfield 47, 3) := by decide +kernel
theorem dX4_findOnHull_53 : decode cX4_findOnHull 53 = .ok (.iload 4, 2) := by decide +kernel
theorem dX4_findOnHull_55 : decode cX4_findOnHull 55 = .ok (.iaload, 1) := by decide +kernel
theorem dX4_findOnHull_56 : decode cX4_findOnHull 56 = .ok (.aload_n 1, 1) := by decide +kernel
theorem dX4_findOnHull_57 : decode cX4_findOnHull 57 = .ok (.getfield 43, 3) := by decide +kernel
theorem dX4_findOnHull_60 : decode cX4_findOnHull 60 = .ok (.iload 4, 2) := by decide +kernel
theorem dX4_findOnHull_62 : decode cX4_findOnHull 62 = .ok (.iconst 1, 1) := by decide +kernel
theorem dX4_findOnHull_63 : decode cX4_findOnHull 63 = .ok (.iadd, 1) := by decide +kernel
theorem dX4_findOnHull_64 : decode cX4_findOnHull 64 = .ok (.iaload, 1) := by decide +kernel
theorem dX4_findOnHull_65 : decode cX4_findOnHull 65 = .ok (.aload_n 1, 1) := by decide +kernel
theorem dX4_findOnHull_66 : decode cX4_findOnHull 66 = .ok (.getfield 47, 3) := by decide +kernel
theorem dX4_findOnHull_69 : decode cX4_findOnHull 69 = .ok (.iload 4, 2) := by decide +kernel
theorem dX4_findOnHull_71 : decode cX4_findOnHull 71 = .ok (.iconst 1, 1) := by decide +kernel
theorem dX4_findOnHull_72 : decode cX4_findOnHull 72 = .ok (.iadd, 1) := by decide +kernel
theorem dX4_findOnHull_73 : decode cX4_findOnHull 73 = .ok (.iaload, 1) := by decide +kernel
theorem dX4_findOnHull_74 : decode cX4_findOnHull 74 = .ok (.invokevirtual 50, 3) := by decide +kernel
theorem dX4_findOnHull_77 : decode cX4_findOnHull 77 = .ok (.pop, 1) := by decide +kernel
theorem dX4_findOnHull_78 : decode cX4_findOnHull 78 = .ok (.iinc 4 1, 3) := by decide +kernel
theorem dX4_findOnHull_81 : decode cX4_findOnHull 81 = .ok (.goto (-49), 3) := by decide +kernel
theorem dX4_findOnHull_84 : decode cX4_findOnHull 84 = .ok (.return_, 1) := by decide +kernel
set_option maxRecDepth 100000 in
set_option maxHeartbeats 4000000 in
theorem wX4_findOnHull_L32 {p : Program} {l : Launch} {e : Env} {R : Room} {s : State} {m : MethodId} {args : Array Value} {below : List Frame} {meth : Method} {c : Code} {Q : State → Prop} {A : Nat → Prop} {dC : Nat → ClassId} {dI : Nat → Nat → Nat} {cI cL cB : ClassId} {K : Nat} (C0 : Sx p R s m args c cX4_findOnHull 5 RX4 A dC dI cI cL cB 2 64) (h_t h_p1 h_p1_chain h_p1_x h_p1_y h_p1_sorted : Nat) (t_fromX : Int32) (t_fromY : Int32) (p1_size : Int32) (p1_x : Nat → Int32) (p1_y : Nat → Int32) : ∀ (n : Nat) (l4 : Int32) (t_x : Int64) (t_y : Int64) (t_lower : Int64) (t_square : Int64) (t_squareLower : Int64) (x_t_x : Int64) (x_t_y : Int64) (x_t_lower : Int64) (x_t_square : Int64) (x_t_squareLower : Int64) (H : Heap) (locs : List Loc) (ls : Array Slot), va_P (dC, dI) vwCl [(h_t, .inr (4, [.long t_x, .long t_y, .long t_lower, .long t_square, .long t_squareLower, .int t_fromX, .int t_fromY])), (h_p1, .inr (2, [.ref h_p1_chain, .ref h_p1_x, .ref h_p1_y, .ref h_p1_sorted, .int p1_size])), (h_p1_x, .inl (cI, 48, .inl p1_x)), (h_p1_y, .inl (cI, 48, .inl p1_y))] H → va_D A [(h_t, .inr (4, [.long t_x, .long t_y, .long t_lower, .long t_square, .long t_squareLower, .int t_fromX, .int t_fromY])), (h_p1, .inr (2, [.ref h_p1_chain, .ref h_p1_x, .ref h_p1_y, .ref h_p1_sorted, .int p1_size])), (h_p1_x, .inl (cI, 48, .inl p1_x)), (h_p1_y, .inl (cI, 48, .inl p1_y))] → va_S A s.heap H locs → lv_has ls 5 [(0, .ref h_t), (1, .ref h_p1), (4, .int l4)] → fX4_findOnHull_L32 K t_fromX t_fromY p1_size p1_x p1_y n l4 t_x t_y t_lower t_square t_squareLower = some (x_t_x, x_t_y, x_t_lower, x_t_square, x_t_squareLower) → (∀ (H : Heap) (locs : List Loc) (ls : Array Slot), va_P (dC, dI) vwCl [(h_t, .inr (4, [.long x_t_x, .long x_t_y, .long x_t_lower, .long x_t_square, .long x_t_squareLower, .int t_fromX, .int t_fromY])), (h_p1, .inr (2, [.ref h_p1_chain, .ref h_p1_x, .ref h_p1_y, .ref h_p1_sorted, .int p1_size])), (h_p1_x, .inl (cI, 48, .inl p1_x)), (h_p1_y, .inl (cI, 48, .inl p1_y))] H → va_D A [(h_t, .inr (4, [.long x_t_x, .long x_t_y, .long x_t_lower, .long x_t_square, .long x_t_squareLower, .int t_fromX, .int t_fromY])), (h_p1, .inr (2, [.ref h_p1_chain, .ref h_p1_x, .ref h_p1_y, .ref h_p1_sorted, .int p1_size])), (h_p1_x, .inl (cI, 48, .inl p1_x)), (h_p1_y, .inl (cI, 48, .inl p1_y))] → va_S A s.heap H locs → lv_has ls 5 [] → W p l e R s m args below meth c H locs 0 0 Q (F0 m 84 ls [])) → W p l e R s m args below meth c H locs 0 0 Q (F0 m 32 ls []) := by
  obtain ⟨hx, hb, hml, hown, hts, hK, hT, hA, hF, hLo⟩ := id C0
  intro n
  induction n with
  | zero =>
    intro l4 t_x t_y t_lower t_square t_squareLower x_t_x x_t_y x_t_lower x_t_square x_t_squareLower H locs ls hP hD hS hl hf
    rw [fX4_findOnHull_L32] at hf
    cases hf
  | succ n ih =>
    intro l4 t_x t_y t_lower t_square t_squareLower x_t_x x_t_y x_t_lower x_t_square x_t_squareLower H locs ls hP hD hS hl hf hk
    rw [fX4_findOnHull_L32] at hf
    refine lv_iload hx hb dX4_findOnHull_32 (lv_at hl 2 rfl) ?_
    refine lv_aload_n hx hb dX4_findOnHull_34 rfl (lv_at hl 1 rfl) ?_
    refine va_get (D := (dC, dI)) (ci := 2) (v := .int p1_size) (C := RX2) (T := TX2) (N := 5) hx hb hts in_X2 hown hK hP 1 rfl rfl 4 (Nat.le_of_ble_eq_true rfl) (hts _ qf_X4_40) (fun _ h9 => h9) rfl dX4_findOnHull_35 ?_
    refine lv_icmp_ge (tgt := 84) hx hb dX4_findOnHull_38 (by decide) (fun hc => ?_) (fun hc => ?_)
    · replace hf := it_t (hc) hf
      obtain ⟨rfl, rfl, rfl, rfl, rfl⟩ := o5 hf
      exact hk H locs ls hP hD hS (lv_sub hl [] rfl)
    · replace hf := it_f (hc) hf
      refine lv_aload_n hx hb dX4_findOnHull_41 rfl (lv_at hl 0 rfl) ?_
      refine lv_aload_n hx hb dX4_findOnHull_42 rfl (lv_at hl 1 rfl) ?_
      refine va_get (D := (dC, dI)) (ci := 2) (v := .ref h_p1_x) (C := RX2) (T := TX2) (N := 5) hx hb hts in_X2 hown hK hP 1 rfl rfl 1 (Nat.le_of_ble_eq_true rfl) (hts _ qf_X4_43) (fun _ h9 => h9) rfl dX4_findOnHull_43 ?_
      refine lv_iload hx hb dX4_findOnHull_46 (lv_at hl 2 rfl) ?_
      obtain ⟨hg_8, hf⟩ := gd_some hf
      refine va_iald hx hb hK hP 2 0 rfl rfl (inb_in hg_8) dX4_findOnHull_48 ?_
      refine lv_aload_n hx hb dX4_findOnHull_49 rfl (lv_at hl 1 rfl) ?_
      refine va_get (D := (dC, dI)) (ci := 2) (v := .ref h_p1_y) (C := RX2) (T := TX2) (N := 5) hx hb hts in_X2 hown hK hP 1 rfl rfl 2 (Nat.le_of_ble_eq_true rfl) (hts _ qf_X4_47) (fun _ h9 => h9) rfl dX4_findOnHull_50 ?_
      refine lv_iload hx hb dX4_findOnHull_53 (lv_at hl 2 rfl) ?_
      obtain ⟨hg_9, hf⟩ := gd_some hf
      refine va_iald hx hb hK hP 3 0 rfl rfl (inb_in hg_9) dX4_findOnHull_55 ?_
      refine lv_aload_n hx hb dX4_findOnHull_56 rfl (lv_at hl 1 rfl) ?_
      refine va_get (D := (dC, dI)) (ci := 2) (v := .ref h_p1_x) (C := RX2) (T := TX2) (N := 5) hx hb hts in_X2 hown hK hP 1 rfl rfl 1 (Nat.le_of_ble_eq_true rfl) (hts _ qf_X4_43) (fun _ h9 => h9) rfl dX4_findOnHull_57 ?_
      refine lv_iload hx hb dX4_findOnHull_60 (lv_at hl 2 rfl) ?_
      refine lv_iconst (v := (1 : Int32)) hx hb dX4_findOnHull_62 (by decide) ?_
      refine lv_iadd hx hb dX4_findOnHull_63 ?_
      obtain ⟨hg_10, hf⟩ := gd_some hf
      refine va_iald hx hb hK hP 2 0 rfl rfl (inb_in hg_10) dX4_findOnHull_64 ?_
      refine lv_aload_n hx hb dX4_findOnHull_65 rfl (lv_at hl 1 rfl) ?_
      refine va_get (D := (dC, dI)) (ci := 2) (v := .ref h_p1_y) (C := RX2) (T := TX2) (N := 5) hx hb hts in_X2 hown hK hP 1 rfl rfl 2 (Nat.le_of_ble_eq_true rfl) (hts _ qf_X4_47) (fun _ h9 => h9) rfl dX4_findOnHull_66 ?_
      refine lv_iload hx hb dX4_findOnHull_69 (lv_at hl 2 rfl) ?_
      refine lv_iconst (v := (1 : Int32)) hx hb dX4_findOnHull_71 (by decide) ?_
      refine lv_iadd hx hb dX4_findOnHull_72 ?_
      obtain ⟨hg_11, hf⟩ := gd_some hf
      refine va_iald hx hb hK hP 3 0 rfl rfl (inb_in hg_11) dX4_findOnHull_73 ?_
      obtain ⟨r_12, t_x_13, t_y_14, t_lower_15, t_square_16, t_squareLower_17, hq_18, hf⟩ := b6_some hf
      refine xci (wr := [(h_p1, .inr (2, [.ref h_p1_chain, .ref h_p1_x, .ref h_p1_y, .ref h_p1_sorted, .int p1_size])), (h_p1_x, .inl (cI, 48, .inl p1_x)), (h_p1_y, .inl (cI, 48, .inl p1_y))]) (w2 := [(h_t, .inr (4, [.long t_x_13, .long t_y_14, .long t_lower_15, .long t_square_16, .long t_squareLower_17, .int t_fromX, .int t_fromY])), (h_p1, .inr (2, [.ref h_p1_chain, .ref h_p1_x, .ref h_p1_y, .ref h_p1_sorted, .int p1_size])), (h_p1_x, .inl (cI, 48, .inl p1_x)), (h_p1_y, .inl (cI, 48, .inl p1_y))]) (va_runV (As := [.int (p1_x l4.toNatClampNeg), .int (p1_y l4.toNatClampNeg), .int (p1_x (l4 + (1 : Int32)).toNatClampNeg), .int (p1_y (l4 + (1 : Int32)).toNatClampNeg)]) (rest := []) ⟨hx, hb, hml, hown, hts⟩ (mtX4_offerEdge l dC dI cI cL cB K h_t H.size t_x t_y t_lower t_square t_squareLower t_fromX t_fromY (p1_x l4.toNatClampNeg) (p1_y l4.toNatClampNeg) (p1_x (l4 + (1 : Int32)).toNatClampNeg) (p1_y (l4 + (1 : Int32)).toNatClampNeg) r_12 t_x_13 t_y_14 t_lower_15 t_square_16 t_squareLower_17 hq_18) (cwV 4 hts gv_X4_50 rfl rfl rfl hdV_X4_offerEdge ⟨Nat.le_trans (Nat.le_of_ble_eq_true rfl) hF, Nat.le_trans (Nat.le_of_ble_eq_true rfl) hLo⟩) (cPreV hK hP hD hT [0] rfl rfl (ci := 4) (q0 := 0) rfl rfl) rfl rfl hl.1 rfl (lv_room (Nat.le_of_ble_eq_true rfl)) dX4_findOnHull_74 ⟨Nat.zero_le _, Nat.zero_le _⟩) hP hD hS hA [0] [1, 2, 3] [3, 0, 1, 2] rfl rfl rfl rfl rfl rfl (fun H locs hP hD hS => ?_)
      refine lv_pop hx hb dX4_findOnHull_77 rfl ?_
      obtain ⟨l4_19, el4_19⟩ : ∃ y : Int32, y = l4 + (1 : Int32) := ⟨_, rfl⟩
      replace hf := xl_at hf el4_19
      refine lv_iinc (v := l4_19) (lv' := [(4, .int l4_19), (0, .ref h_t), (1, .ref h_p1)]) hx hb dX4_findOnHull_78 hl (k := 2) rfl (by rw [el4_19]; rfl) (Nat.le_of_ble_eq_true rfl) rfl (fun ls hl => ?_)
      refine lv_goto (tgt := 32) hx hb dX4_findOnHull_81 (by decide) ?_
      exact ih l4_19 t_x_13 t_y_14 t_lower_15 t_square_16 t_squareLower_17 _ _ _ _ _ H locs ls hP hD hS (lv_sub hl [1, 2, 0] rfl) hf hk
set_option maxRecDepth 100000 in
set_option maxHeartbeats 4000000 in
theorem mtX4_findOnHull (l : Launch) (dC : Nat → ClassId) (dI : Nat → Nat → Nat) (cI cL cB : ClassId) (K : Nat) (h_t h_p1 h_p1_chain h_p1_x h_p1_y h_p1_sorted : Nat) (sz : Nat) (t_x : Int64) (t_y : Int64) (t_lower : Int64) (t_square : Int64) (t_squareLower : Int64) (t_fromX : Int32) (t_fromY : Int32) (p1_size : Int32) (p1_x : Nat → Int32) (p1_y : Nat → Int32) (a2 : Int32) (a3 : Int32) (o_t_x : Int64) (o_t_y : Int64) (o_t_lower : Int64) (o_t_square : Int64) (o_t_squareLower : Int64) (o_t_fromX : Int32) (o_t_fromY : Int32) (hf : fX4_findOnHull K t_x t_y t_lower t_square t_squareLower t_fromX t_fromY p1_size p1_x p1_y a2 a3 = some (o_t_x, o_t_y, o_t_lower, o_t_square, o_t_squareLower, o_t_fromX, o_t_fromY)) : Met l yX4_findOnHull [Cond.code yX4_findOnHull cX4_findOnHull 5 none] ({ frames := 2, cells := 0, slots := 0, locals := 64 }) (va_Pc [.ref h_t, .ref h_p1, .int a2, .int a3] (cPre dC dI cI cL cB sz [(h_t, .inr (4, [.long t_x, .long t_y, .long t_lower, .long t_square, .long t_squareLower, .int t_fromX, .int t_fromY])), (h_p1, .inr (2, [.ref h_p1_chain, .ref h_p1_x, .ref h_p1_y, .ref h_p1_sorted, .int p1_size])), (h_p1_x, .inl (cI, 48, .inl p1_x)), (h_p1_y, .inl (cI, 48, .inl p1_y))])) (cQv dC dI (va_A [(h_t, .inr (4, [.long t_x, .long t_y, .long t_lower, .long t_square, .long t_squareLower, .int t_fromX, .int t_fromY])), (h_p1, .inr (2, [.ref h_p1_chain, .ref h_p1_x, .ref h_p1_y, .ref h_p1_sorted, .int p1_size])), (h_p1_x, .inl (cI, 48, .inl p1_x)), (h_p1_y, .inl (cI, 48, .inl p1_y))] sz) [(h_t, .inr (4, [.long o_t_x, .long o_t_y, .long o_t_lower, .long o_t_square, .long o_t_squareLower, .int o_t_fromX, .int o_t_fromY])), (h_p1, .inr (2, [.ref h_p1_chain, .ref h_p1_x, .ref h_p1_y, .ref h_p1_sorted, .int p1_size])), (h_p1_x, .inl (cI, 48, .inl p1_x)), (h_p1_y, .inl (cI, 48, .inl p1_y))]) 0 0 (va_A [(h_t, .inr (4, [.long t_x, .long t_y, .long t_lower, .long t_square, .long t_squareLower, .int t_fromX, .int t_fromY])), (h_p1, .inr (2, [.ref h_p1_chain, .ref h_p1_x, .ref h_p1_y, .ref h_p1_sorted, .int p1_size])), (h_p1_x, .inl (cI, 48, .inl p1_x)), (h_p1_y, .inl (cI, 48, .inl p1_y))] sz) := by
  refine Met.ofW (cc := cX4_findOnHull) (maxL := 5) (ret := none) (by decide) rfl ?_
  intro p e s m args below meth c s₁ B hml hv
  obtain ⟨rfl, hsz, hP, hK, hD0, hT⟩ := hv
  have hx := B.exec
  have hb := B.bytes
  have hr := B.returns
  have hown : s.vm.findClass RX4 = some m.cls := findClass_of_methodNamed B.named
  have hlocks := B.notSynchronized
  have hts := TB.use hT ([.ref h_t, .ref h_p1, .int a2, .int a3] : List Value).toArray
  subst hsz
  have hD := hD0.self (sz := s.heap.size)
  generalize hAe : va_A [(h_t, .inr (4, [.long t_x, .long t_y, .long t_lower, .long t_square, .long t_squareLower, .int t_fromX, .int t_fromY])), (h_p1, .inr (2, [.ref h_p1_chain, .ref h_p1_x, .ref h_p1_y, .ref h_p1_sorted, .int p1_size])), (h_p1_x, .inl (cI, 48, .inl p1_x)), (h_p1_y, .inl (cI, 48, .inl p1_y))] s.heap.size = A at hD ⊢
  have hA : ∀ q : Nat, s.heap.size ≤ q → A q := fun q h => by rw [← hAe]; exact Or.inr h
  clear hAe hD0
  have hl := lv_entry ([.ref h_t, .ref h_p1, .int a2, .int a3]) (n := 5) (Nat.le_of_ble_eq_true rfl)
  rw [lg_entry_eq]
  generalize (lg_sl ([.ref h_t, .ref h_p1, .int a2, .int a3]) ++ List.replicate (5 - (lg_sl ([.ref h_t, .ref h_p1, .int a2, .int a3])).length) Slot.unset).toArray = ls at hl ⊢
  have hl : lv_has ls 5 [(0, .ref h_t), (1, .ref h_p1), (2, .int a2), (3, .int a3)] := hl
  have hF : 2 ≤ (headSpec [Cond.code yX4_findOnHull cX4_findOnHull 5 none] ({ frames := 2, cells := 0, slots := 0, locals := 64 })).room.frames := Nat.le_refl _
  have hLo : 64 ≤ (headSpec [Cond.code yX4_findOnHull cX4_findOnHull 5 none] ({ frames := 2, cells := 0, slots := 0, locals := 64 })).room.locals := Nat.le_refl _
  have C0 : Sx p (headSpec [Cond.code yX4_findOnHull cX4_findOnHull 5 none] ({ frames := 2, cells := 0, slots := 0, locals := 64 })).room s m ([.ref h_t, .ref h_p1, .int a2, .int a3] : List Value).toArray c cX4_findOnHull 5 RX4 A dC dI cI cL cB 2 64 := ⟨hx, hb, hml, hown, hts, hK, hT, hA, hF, hLo⟩
  refine startH (A := A) hP (fun H locs hP hS => ?_)
  rw [fX4_findOnHull] at hf
  refine lv_aload_n hx hb dX4_findOnHull_0 rfl (lv_at hl 0 rfl) ?_
  refine lv_iload_n hx hb dX4_findOnHull_1 rfl (lv_at hl 2 rfl) ?_
  refine lv_iload_n hx hb dX4_findOnHull_2 rfl (lv_at hl 3 rfl) ?_
  obtain ⟨t_square_1, t_squareLower_2, t_fromX_3, t_fromY_4, hq_5, hf⟩ := b4_some hf
  refine xcv (wr := [(h_p1, .inr (2, [.ref h_p1_chain, .ref h_p1_x, .ref h_p1_y, .ref h_p1_sorted, .int p1_size])), (h_p1_x, .inl (cI, 48, .inl p1_x)), (h_p1_y, .inl (cI, 48, .inl p1_y))]) (w2 := [(h_t, .inr (4, [.long t_x, .long t_y, .long t_lower, .long t_square_1, .long t_squareLower_2, .int t_fromX_3, .int t_fromY_4])), (h_p1, .inr (2, [.ref h_p1_chain, .ref h_p1_x, .ref h_p1_y, .ref h_p1_sorted, .int p1_size])), (h_p1_x, .inl (cI, 48, .inl p1_x)), (h_p1_y, .inl (cI, 48, .inl p1_y))]) (va_runV (As := [.int a2, .int a3]) (rest := []) ⟨hx, hb, hml, hown, hts⟩ (mtX4_start l dC dI cI cL cB K h_t H.size t_x t_y t_lower t_square t_squareLower t_fromX t_fromY a2 a3 t_square_1 t_squareLower_2 t_fromX_3 t_fromY_4 hq_5) (cwV 2 hts gv_X4_26 rfl rfl rfl hdV_X4_start ⟨Nat.le_trans (Nat.le_of_ble_eq_true rfl) hF, Nat.le_trans (Nat.le_of_ble_eq_true rfl) hLo⟩) (cPreV hK hP hD hT [0] rfl rfl (ci := 4) (q0 := 0) rfl rfl) rfl rfl hl.1 rfl (lv_room (Nat.le_of_ble_eq_true rfl)) dX4_findOnHull_3 ⟨Nat.zero_le _, Nat.zero_le _⟩) hP hD hS hA [0] [1, 2, 3] [3, 0, 1, 2] rfl rfl rfl rfl rfl rfl (fun H locs hP hD hS => ?_)
  refine lv_aload_n hx hb dX4_findOnHull_6 rfl (lv_at hl 1 rfl) ?_
  refine lv_iload_n hx hb dX4_findOnHull_7 rfl (lv_at hl 2 rfl) ?_
  refine lv_i2l hx hb dX4_findOnHull_8 rfl ?_
  refine lv_iload_n hx hb dX4_findOnHull_9 rfl (lv_at hl 3 rfl) ?_
  refine lv_i2l hx hb dX4_findOnHull_10 rfl ?_
  refine lv_lconst (v := (1 : Int64)) hx hb dX4_findOnHull_11 (by decide) ?_
  obtain ⟨r_6, hq_7, hf⟩ := b1_some hf
  refine xci (wr := [(h_t, .inr (4, [.long t_x, .long t_y, .long t_lower, .long t_square_1, .long t_squareLower_2, .int t_fromX_3, .int t_fromY_4]))]) (w2 := [(h_t, .inr (4, [.long t_x, .long t_y, .long t_lower, .long t_square_1, .long t_squareLower_2, .int t_fromX_3, .int t_fromY_4])), (h_p1, .inr (2, [.ref h_p1_chain, .ref h_p1_x, .ref h_p1_y, .ref h_p1_sorted, .int p1_size])), (h_p1_x, .inl (cI, 48, .inl p1_x)), (h_p1_y, .inl (cI, 48, .inl p1_y))]) (va_runV (As := [.long (a2.toInt64), .long (a3.toInt64), .long (1 : Int64)]) (rest := []) ⟨hx, hb, hml, hown, hts⟩ (mtX2_sideOf l dC dI cI cL cB K h_p1 h_p1_chain h_p1_x h_p1_y h_p1_sorted H.size p1_size p1_x p1_y (a2.toInt64) (a3.toInt64) (1 : Int64) r_6 hq_7) (cwV 3 hts gv_X4_30 rfl rfl rfl hdV_X2_sideOf ⟨Nat.le_trans (Nat.le_of_ble_eq_true rfl) hF, Nat.le_trans (Nat.le_of_ble_eq_true rfl) hLo⟩) (cPreV hK hP hD hT [1, 2, 3] rfl rfl (ci := 2) (q0 := 0) rfl rfl) rfl rfl hl.1 rfl (lv_room (Nat.le_of_ble_eq_true rfl)) dX4_findOnHull_12 ⟨Nat.zero_le _, Nat.zero_le _⟩) hP hD hS hA [1, 2, 3] [0] [0, 1, 2, 3] rfl rfl rfl rfl rfl rfl (fun H locs hP hD hS => ?_)
  refine lv_if_le (tgt := 29) hx hb dX4_findOnHull_15 (by decide) (fun hc => ?_) (fun hc => ?_)
  · replace hf := it_t (hc) hf
    refine lv_iconst (v := (0 : Int32)) hx hb dX4_findOnHull_29 (by decide) ?_
    refine lv_istore (lv' := [(4, .int (0 : Int32)), (0, .ref h_t), (1, .ref h_p1), (2, .int a2), (3, .int a3)]) hx hb dX4_findOnHull_30 hl (Nat.le_of_ble_eq_true rfl) rfl (fun ls hl => ?_)
    obtain ⟨t_x_21, t_y_22, t_lower_23, t_square_24, t_squareLower_25, hq_20, hf⟩ := b5_some hf
    refine wX4_findOnHull_L32 C0 h_t h_p1 h_p1_chain h_p1_x h_p1_y h_p1_sorted t_fromX_3 t_fromY_4 p1_size p1_x p1_y K (0 : Int32) t_x t_y t_lower t_square_1 t_squareLower_2 t_x_21 t_y_22 t_lower_23 t_square_24 t_squareLower_25 H locs ls hP hD hS (lv_sub hl [1, 2, 0] rfl) hq_20 ?_
    intro H locs ls hP hD hS hl
    obtain ⟨rfl, rfl, rfl, rfl, rfl, rfl, rfl⟩ := o7 hf
    exact W.vret hx hb hr (fun t ht hW => ⟨⟨(), rfl, trivial, by rw [ht]; exact hP, hD⟩, hS.F ht⟩) hS.2.2 dX4_findOnHull_84
  · replace hf := it_f (hc) hf
    refine lv_aload_n hx hb dX4_findOnHull_18 rfl (lv_at hl 0 rfl) ?_
    refine lv_iload_n hx hb dX4_findOnHull_19 rfl (lv_at hl 2 rfl) ?_
    refine lv_i2l hx hb dX4_findOnHull_20 rfl ?_
    refine lv_iload_n hx hb dX4_findOnHull_21 rfl (lv_at hl 3 rfl) ?_
    refine lv_i2l hx hb dX4_findOnHull_22 rfl ?_
    refine lv_lconst (v := (1 : Int64)) hx hb dX4_findOnHull_23 (by decide) ?_
    obtain ⟨r_26, t_x_27, t_y_28, t_lower_29, t_square_30, t_squareLower_31, hq_32, hf⟩ := b6_some hf
    refine xci (wr := [(h_p1, .inr (2, [.ref h_p1_chain, .ref h_p1_x, .ref h_p1_y, .ref h_p1_sorted, .int p1_size])), (h_p1_x, .inl (cI, 48, .inl p1_x)), (h_p1_y, .inl (cI, 48, .inl p1_y))]) (w2 := [(h_t, .inr (4, [.long t_x_27, .long t_y_28, .long t_lower_29, .long t_square_30, .long t_squareLower_31, .int t_fromX_3, .int t_fromY_4])), (h_p1, .inr (2, [.ref h_p1_chain, .ref h_p1_x, .ref h_p1_y, .ref h_p1_sorted, .int p1_size])), (h_p1_x, .inl (cI, 48, .inl p1_x)), (h_p1_y, .inl (cI, 48, .inl p1_y))]) (va_runV (As := [.long (a2.toInt64), .long (a3.toInt64), .long (1 : Int64)]) (rest := []) ⟨hx, hb, hml, hown, hts⟩ (mtX4_offer l dC dI cI cL cB K h_t H.size t_x t_y t_lower t_square_1 t_squareLower_2 t_fromX_3 t_fromY_4 (a2.toInt64) (a3.toInt64) (1 : Int64) r_26 t_x_27 t_y_28 t_lower_29 t_square_30 t_squareLower_31 hq_32) (cwV 3 hts gv_X4_36 rfl rfl rfl hdV_X4_offer ⟨Nat.le_trans (Nat.le_of_ble_eq_true rfl) hF, Nat.le_trans (Nat.le_of_ble_eq_true rfl) hLo⟩) (cPreV hK hP hD hT [0] rfl rfl (ci := 4) (q0 := 0) rfl rfl) rfl rfl hl.1 rfl (lv_room (Nat.le_of_ble_eq_true rfl)) dX4_findOnHull_24 ⟨Nat.zero_le _, Nat.zero_le _⟩) hP hD hS hA [0] [1, 2, 3] [3, 0, 1, 2] rfl rfl rfl rfl rfl rfl (fun H locs hP hD hS => ?_)
    refine lv_pop hx hb dX4_findOnHull_27 rfl ?_
    obtain ⟨rfl, rfl, rfl, rfl, rfl, rfl, rfl⟩ := o7 hf
    exact W.vret hx hb hr (fun t ht hW => ⟨⟨(), rfl, trivial, by rw [ht]; exact hP, hD⟩, hS.F ht⟩) hS.2.2 dX4_findOnHull_28
