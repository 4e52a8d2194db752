def R_law : String := "RainbowHullsLaw"
def lw_P (b : Addr) (xs : List Int32) (args : Array Value) (s : State) : Prop := args = #[.ref b] ∧ s.IntsAt b xs ∧ xs.length ≤ 3072 ∧ (Jvm.Cond.and given_1 narrow_1).before args s = true
def lw_Q (_ : Array Value) (s : State) (o : Outcome) (t : State) : Prop := o = .returned (some (.int 1)) ∧ Framed s o t [] 600000 7302250
def lw_Z (below : List Frame) (a : Array Value) (s : State) : State → Prop := fun t => ∃ o, t.status = .running ∧ Ended t below o ∧ lw_Q a s o t
/-- the law's own end, with 1 on the stack, nothing written that was there before, its room as the claim has it -/
theorem lw_ret {p : Program} {l : Launch} {e : Env} {s : State} {m : MethodId} {below : List Frame} {meth : Method} {c : Code} {b : Nat} (hx : p.tables.exec = Jvm.exec) (hb : c.code = code) (hr : meth.sig.returnType = ret) (hlocks : meth.locks = false) {pc : Nat} {H : Heap} {ls : Array Slot} (hdg : decode code pc = .ok (.ireturn, 1)) : W p l e room_1 s m #[Value.ref b] below meth c H [] 600000 7302250 (lw_Z below #[Value.ref b] s) (F0 m pc ls [.int 1]) := by
  intro T hT X
  obtain ⟨fs, hret, hrun, hended, hW, hframe⟩ := X.leave (v := some (.int 1)) (hlocks := hlocks) (fun h => by rw [hr] at h; cases h)
  have hmeth' : T.vm.method? m = some meth := X.method'
  refine ⟨T.setFrames fs, ?_, .returned (some (.int 1)), hrun, hended, rfl, ⟨_, rfl⟩, hW, hframe⟩
  jvm_step X.here [X.here.top, hx, hb, hdg, hmeth', hr, ret, narrow_b1]
  (try refine ⟨rfl, ?_⟩); (try refine ⟨rfl, ?_⟩)
  first | (intro acts; rw [hret _ acts rfl rfl rfl]) | rw [hret _ _ rfl rfl rfl]
  exact Steps.refl _
/-- what holds at the law's entry: the machine, the code, the tables' words (any of lw_tbl by 'hts w (by decide +kernel)'), the script of L ints xs at the cell b, what the Statement gives of the start (any of its parts by flat_of_before) -/
def lw_At (p : Program) (s : State) (m : MethodId) (meth : Method) (c : Code) (b L : Nat) (xs : Nat → Int32) : Prop :=
  p.tables.exec = Jvm.exec ∧ c.code = code ∧ meth.sig.returnType = ret ∧ c.maxLocals = 4 ∧ s.vm.findClass R_law = some m.cls ∧ (∀ w ∈ lw_tbl, w.before #[Value.ref b] s = true) ∧ va_X b L xs s s.heap ∧ b < s.heap.size ∧ meth.locks = false ∧ (Jvm.Cond.and given_1 narrow_1).before #[Value.ref b] s = true

theorem qm_L_13 : Cond.methodLink RL 13 yX11_feed ∈ lw_ok := mkc2 210 (by decide +kernel) rfl
theorem qi_X11_feed : Cond.instanceMethod yX11_feed ∈ lw_ok := mkc2 211 (by decide +kernel) rfl
theorem qs_X11_feed : Cond.selects RX11 yX11_feed yX11_feed ∈ lw_ok := mkc2 212 (by decide +kernel) rfl
theorem qc_X11_feed : Cond.code yX11_feed cX11_feed 6 (some .int) ∈ lw_ok := mkc2 213 (by decide +kernel) rfl
theorem gv_L_13 : GoodIn lw_ok (wsV RL 13 RX11 yX11_feed [Cond.code yX11_feed cX11_feed 6 (some .int)]) := gV qm_L_13 qi_X11_feed qs_X11_feed qz_X11 qc_X11_feed
theorem hdV_X11_feed : yX11_feed.cls = RX11 ∧ yX11_feed.cls ≠ "java/lang/invoke/MethodHandle" ∧ yX11_feed.cls ≠ "java/lang/invoke/VarHandle" ∧ (parseMethodDescriptor yX11_feed.desc).map (fun d => d.parameters.length) = some 5 := by decide +kernel
theorem qm_L_17 : Cond.methodLink RL 17 yX12_feed ∈ lw_ok := mkc6 143 (by decide +kernel) rfl
theorem qi_X12_feed : Cond.instanceMethod yX12_feed ∈ lw_ok := mkc6 144 (by decide +kernel) rfl
theorem qs_X12_feed : Cond.selects RX12 yX12_feed yX12_feed ∈ lw_ok := mkc6 145 (by decide +kernel) rfl
theorem qc_X12_feed : Cond.code yX12_feed cX12_feed 7 (some .int) ∈ lw_ok := mkc6 146 (by decide +kernel) rfl
theorem gv_L_17 : GoodIn lw_ok (wsV RL 17 RX12 yX12_feed [Cond.code yX12_feed cX12_feed 7 (some .int)]) := gV qm_L_17 qi_X12_feed qs_X12_feed qz_X12 qc_X12_feed
theorem hdV_X12_feed : yX12_feed.cls = RX12 ∧ yX12_feed.cls ≠ "java/lang/invoke/MethodHandle" ∧ yX12_feed.cls ≠ "java/lang/invoke/VarHandle" ∧ (parseMethodDescriptor yX12_feed.desc).map (fun d => d.parameters.length) = some 5 := by decide +kernel
theorem qm_L_18 : Cond.methodLink RL 18 yX11_end ∈ lw_ok := mkc2 222 (by decide +kernel) rfl
theorem qi_X11_end : Cond.instanceMethod yX11_end ∈ lw_ok := mkc2 223 (by decide +kernel) rfl
theorem qs_X11_end : Cond.selects RX11 yX11_end yX11_end ∈ lw_ok := mkc2 224 (by decide +kernel) rfl
theorem qc_X11_end : Cond.code yX11_end cX11_end 2 (some .int) ∈ lw_ok := mkc2 225 (by decide +kernel) rfl
theorem gv_L_18 : GoodIn lw_ok (wsV RL 18 RX11 yX11_end [Cond.code yX11_end cX11_end 2 (some .int)]) := gV qm_L_18 qi_X11_end qs_X11_end qz_X11 qc_X11_end
theorem hdV_X11_end : yX11_end.cls = RX11 ∧ yX11_end.cls ≠ "java/lang/invoke/MethodHandle" ∧ yX11_end.cls ≠ "java/lang/invoke/VarHandle" ∧ (parseMethodDescriptor yX11_end.desc).map (fun d => d.parameters.length) = some 1 := by decide +kernel
theorem qm_L_22 : Cond.methodLink RL 22 yX12_end ∈ lw_ok := mkc6 147 (by decide +kernel) rfl
theorem qi_X12_end : Cond.instanceMethod yX12_end ∈ lw_ok := mkc6 148 (by decide +kernel) rfl
theorem qs_X12_end : Cond.selects RX12 yX12_end yX12_end ∈ lw_ok := mkc6 149 (by decide +kernel) rfl
theorem qc_X12_end : Cond.code yX12_end cX12_end 2 (some .int) ∈ lw_ok := mkc6 150 (by decide +kernel) rfl
theorem gv_L_22 : GoodIn lw_ok (wsV RL 22 RX12 yX12_end [Cond.code yX12_end cX12_end 2 (some .int)]) := gV qm_L_22 qi_X12_end qs_X12_end qz_X12 qc_X12_end
theorem hdV_X12_end : yX12_end.cls = RX12 ∧ yX12_end.cls ≠ "java/lang/invoke/MethodHandle" ∧ yX12_end.cls ≠ "java/lang/invoke/VarHandle" ∧ (parseMethodDescriptor yX12_end.desc).map (fun d => d.parameters.length) = some 1 := by decide +kernel
theorem qm_L_23 : Cond.methodLink RL 23 yX11_points ∈ lw_ok := mkc2 226 (by decide +kernel) rfl
theorem qi_X11_points : Cond.instanceMethod yX11_points ∈ lw_ok := mkc2 227 (by decide +kernel) rfl
theorem qs_X11_points : Cond.selects RX11 yX11_points yX11_points ∈ lw_ok := mkc2 228 (by decide +kernel) rfl
theorem qc_X11_points : Cond.code yX11_points cX11_points 2 (some .int) ∈ lw_ok := mkc2 229 (by decide +kernel) rfl
theorem gv_L_23 : GoodIn lw_ok (wsV RL 23 RX11 yX11_points [Cond.code yX11_points cX11_points 2 (some .int)]) := gV qm_L_23 qi_X11_points qs_X11_points qz_X11 qc_X11_points
theorem hdV_X11_points : yX11_points.cls = RX11 ∧ yX11_points.cls ≠ "java/lang/invoke/MethodHandle" ∧ yX11_points.cls ≠ "java/lang/invoke/VarHandle" ∧ (parseMethodDescriptor yX11_points.desc).map (fun d => d.parameters.length) = some 0 := by decide +kernel
theorem qm_L_27 : Cond.methodLink RL 27 yX12_points ∈ lw_ok := mkc6 154 (by decide +kernel) rfl
theorem qi_X12_points : Cond.instanceMethod yX12_points ∈ lw_ok := mkc6 155 (by decide +kernel) rfl
theorem qs_X12_points : Cond.selects RX12 yX12_points yX12_points ∈ lw_ok := mkc6 156 (by decide +kernel) rfl
theorem qc_X12_points : Cond.code yX12_points cX12_points 2 (some .int) ∈ lw_ok := mkc6 157 (by decide +kernel) rfl
theorem gv_L_27 : GoodIn lw_ok (wsV RL 27 RX12 yX12_points [Cond.code yX12_points cX12_points 2 (some .int)]) := gV qm_L_27 qi_X12_points qs_X12_points qz_X12 qc_X12_points
theorem hdV_X12_points : yX12_points.cls = RX12 ∧ yX12_points.cls ≠ "java/lang/invoke/MethodHandle" ∧ yX12_points.cls ≠ "java/lang/invoke/VarHandle" ∧ (parseMethodDescriptor yX12_points.desc).map (fun d => d.parameters.length) = some 0 := by decide +kernel
theorem qm_L_28 : Cond.methodLink RL 28 yX11_fault ∈ lw_ok := mkc3 111 (by decide +kernel) rfl
theorem qi_X11_fault : Cond.instanceMethod yX11_fault ∈ lw_ok := mkc3 112 (by decide +kernel) rfl
theorem qs_X11_fault : Cond.selects RX11 yX11_fault yX11_fault ∈ lw_ok := mkc3 113 (by decide +kernel) rfl
theorem qc_X11_fault : Cond.code yX11_fault cX11_fault 2 (some .int) ∈ lw_ok := mkc3 114 (by decide +kernel) rfl
theorem gv_L_28 : GoodIn lw_ok (wsV RL 28 RX11 yX11_fault [Cond.code yX11_fault cX11_fault 2 (some .int)]) := gV qm_L_28 qi_X11_fault qs_X11_fault qz_X11 qc_X11_fault
theorem hdV_X11_fault : yX11_fault.cls = RX11 ∧ yX11_fault.cls ≠ "java/lang/invoke/MethodHandle" ∧ yX11_fault.cls ≠ "java/lang/invoke/VarHandle" ∧ (parseMethodDescriptor yX11_fault.desc).map (fun d => d.parameters.length) = some 1 := by decide +kernel
theorem qm_L_31 : Cond.methodLink RL 31 yX12_fault ∈ lw_ok := mkc6 219 (by decide +kernel) rfl
theorem qi_X12_fault : Cond.instanceMethod yX12_fault ∈ lw_ok := mkc6 220 (by decide +kernel) rfl
theorem qs_X12_fault : Cond.selects RX12 yX12_fault yX12_fault ∈ lw_ok := mkc6 221 (by decide +kernel) rfl
theorem qc_X12_fault : Cond.code yX12_fault cX12_fault 2 (some .int) ∈ lw_ok := mkc6 222 (by decide +kernel) rfl
theorem gv_L_31 : GoodIn lw_ok (wsV RL 31 RX12 yX12_fault [Cond.code yX12_fault cX12_fault 2 (some .int)]) := gV qm_L_31 qi_X12_fault qs_X12_fault qz_X12 qc_X12_fault
theorem hdV_X12_fault : yX12_fault.cls = RX12 ∧ yX12_fault.cls ≠ "java/lang/invoke/MethodHandle" ∧ yX12_fault.cls ≠ "java/lang/invoke/VarHandle" ∧ (parseMethodDescriptor yX12_fault.desc).map (fun d => d.parameters.length) = some 1 := by decide +kernel
theorem qm_L_32 : Cond.methodLink RL 32 yX11_count ∈ lw_ok := mkc3 115 (by decide +kernel) rfl
theorem qi_X11_count : Cond.instanceMethod yX11_count ∈ lw_ok := mkc3 116 (by decide +kernel) rfl
theorem qs_X11_count : Cond.selects RX11 yX11_count yX11_count ∈ lw_ok := mkc3 117 (by decide +kernel) rfl
theorem qc_X11_count : Cond.code yX11_count cX11_count 2 (some .int) ∈ lw_ok := mkc3 118 (by decide +kernel) rfl
theorem gv_L_32 : GoodIn lw_ok (wsV RL 32 RX11 yX11_count [Cond.code yX11_count cX11_count 2 (some .int)]) := gV qm_L_32 qi_X11_count qs_X11_count qz_X11 qc_X11_count
theorem hdV_X11_count : yX11_count.cls = RX11 ∧ yX11_count.cls ≠ "java/lang/invoke/MethodHandle" ∧ yX11_count.cls ≠ "java/lang/invoke/VarHandle" ∧ (parseMethodDescriptor yX11_count.desc).map (fun d => d.parameters.length) = some 1 := by decide +kernel
theorem qm_L_35 : Cond.methodLink RL 35 yX12_count ∈ lw_ok := mkc6 223 (by decide +kernel) rfl
theorem qi_X12_count : Cond.instanceMethod yX12_count ∈ lw_ok := mkc6 224 (by decide +kernel) rfl
theorem qs_X12_count : Cond.selects RX12 yX12_count yX12_count ∈ lw_ok := mkc6 225 (by decide +kernel) rfl
theorem qc_X12_count : Cond.code yX12_count cX12_count 2 (some .int) ∈ lw_ok := mkc6 226 (by decide +kernel) rfl
theorem gv_L_35 : GoodIn lw_ok (wsV RL 35 RX12 yX12_count [Cond.code yX12_count cX12_count 2 (some .int)]) := gV qm_L_35 qi_X12_count qs_X12_count qz_X12 qc_X12_count
theorem hdV_X12_count : yX12_count.cls = RX12 ∧ yX12_count.cls ≠ "java/lang/invoke/MethodHandle" ∧ yX12_count.cls ≠ "java/lang/invoke/VarHandle" ∧ (parseMethodDescriptor yX12_count.desc).map (fun d => d.parameters.length) = some 1 := by decide +kernel
theorem qm_L_36 : Cond.methodLink RL 36 yX11_point ∈ lw_ok := mkc3 127 (by decide +kernel) rfl
theorem qi_X11_point : Cond.instanceMethod yX11_point ∈ lw_ok := mkc3 128 (by decide +kernel) rfl
theorem qs_X11_point : Cond.selects RX11 yX11_point yX11_point ∈ lw_ok := mkc3 129 (by decide +kernel) rfl
theorem qc_X11_point : Cond.code yX11_point cX11_point 3 (some .long) ∈ lw_ok := mkc3 130 (by decide +kernel) rfl
theorem gv_L_36 : GoodIn lw_ok (wsV RL 36 RX11 yX11_point [Cond.code yX11_point cX11_point 3 (some .long)]) := gV qm_L_36 qi_X11_point qs_X11_point qz_X11 qc_X11_point
theorem hdV_X11_point : yX11_point.cls = RX11 ∧ yX11_point.cls ≠ "java/lang/invoke/MethodHandle" ∧ yX11_point.cls ≠ "java/lang/invoke/VarHandle" ∧ (parseMethodDescriptor yX11_point.desc).map (fun d => d.parameters.length) = some 2 := by decide +kernel
theorem qm_L_40 : Cond.methodLink RL 40 yX12_point ∈ lw_ok := mkc6 235 (by decide +kernel) rfl
theorem qi_X12_point : Cond.instanceMethod yX12_point ∈ lw_ok := mkc6 236 (by decide +kernel) rfl
theorem qs_X12_point : Cond.selects RX12 yX12_point yX12_point ∈ lw_ok := mkc6 237 (by decide +kernel) rfl
theorem qc_X12_point : Cond.code yX12_point cX12_point 3 (some .long) ∈ lw_ok := mkc6 238 (by decide +kernel) rfl
theorem gv_L_40 : GoodIn lw_ok (wsV RL 40 RX12 yX12_point [Cond.code yX12_point cX12_point 3 (some .long)]) := gV qm_L_40 qi_X12_point qs_X12_point qz_X12 qc_X12_point
theorem hdV_X12_point : yX12_point.cls = RX12 ∧ yX12_point.cls ≠ "java/lang/invoke/MethodHandle" ∧ yX12_point.cls ≠ "java/lang/invoke/VarHandle" ∧ (parseMethodDescriptor yX12_point.desc).map (fun d => d.parameters.length) = some 2 := by decide +kernel
theorem qm_L_41 : Cond.methodLink RL 41 yX11_centre ∈ lw_ok := mkc3 136 (by decide +kernel) rfl
theorem qi_X11_centre : Cond.instanceMethod yX11_centre ∈ lw_ok := mkc3 137 (by decide +kernel) rfl
theorem qs_X11_centre : Cond.selects RX11 yX11_centre yX11_centre ∈ lw_ok := mkc3 138 (by decide +kernel) rfl
theorem qc_X11_centre : Cond.code yX11_centre cX11_centre 2 (some .long) ∈ lw_ok := mkc3 139 (by decide +kernel) rfl
theorem gv_L_41 : GoodIn lw_ok (wsV RL 41 RX11 yX11_centre [Cond.code yX11_centre cX11_centre 2 (some .long)]) := gV qm_L_41 qi_X11_centre qs_X11_centre qz_X11 qc_X11_centre
theorem hdV_X11_centre : yX11_centre.cls = RX11 ∧ yX11_centre.cls ≠ "java/lang/invoke/MethodHandle" ∧ yX11_centre.cls ≠ "java/lang/invoke/VarHandle" ∧ (parseMethodDescriptor yX11_centre.desc).map (fun d => d.parameters.length) = some 1 := by decide +kernel
theorem qm_L_45 : Cond.methodLink RL 45 yX12_centre ∈ lw_ok := mkc7 5 (by decide +kernel) rfl
theorem qi_X12_centre : Cond.instanceMethod yX12_centre ∈ lw_ok := mkc7 6 (by decide +kernel) rfl
theorem qs_X12_centre : Cond.selects RX12 yX12_centre yX12_centre ∈ lw_ok := mkc7 7 (by decide +kernel) rfl
theorem qc_X12_centre : Cond.code yX12_centre cX12_centre 2 (some .long) ∈ lw_ok := mkc7 8 (by decide +kernel) rfl
theorem gv_L_45 : GoodIn lw_ok (wsV RL 45 RX12 yX12_centre [Cond.code yX12_centre cX12_centre 2 (some .long)]) := gV qm_L_45 qi_X12_centre qs_X12_centre qz_X12 qc_X12_centre
theorem hdV_X12_centre : yX12_centre.cls = RX12 ∧ yX12_centre.cls ≠ "java/lang/invoke/MethodHandle" ∧ yX12_centre.cls ≠ "java/lang/invoke/VarHandle" ∧ (parseMethodDescriptor yX12_centre.desc).map (fun d => d.parameters.length) = some 1 := by decide +kernel
theorem qm_L_46 : Cond.methodLink RL 46 yX11_corners ∈ lw_ok := mkc3 140 (by decide +kernel) rfl
theorem qi_X11_corners : Cond.instanceMethod yX11_corners ∈ lw_ok := mkc3 141 (by decide +kernel) rfl
theorem qs_X11_corners : Cond.selects RX11 yX11_corners yX11_corners ∈ lw_ok := mkc3 142 (by decide +kernel) rfl
theorem qc_X11_corners : Cond.code yX11_corners cX11_corners 2 (some .int) ∈ lw_ok := mkc3 143 (by decide +kernel) rfl
theorem gv_L_46 : GoodIn lw_ok (wsV RL 46 RX11 yX11_corners [Cond.code yX11_corners cX11_corners 2 (some .int)]) := gV qm_L_46 qi_X11_corners qs_X11_corners qz_X11 qc_X11_corners
theorem hdV_X11_corners : yX11_corners.cls = RX11 ∧ yX11_corners.cls ≠ "java/lang/invoke/MethodHandle" ∧ yX11_corners.cls ≠ "java/lang/invoke/VarHandle" ∧ (parseMethodDescriptor yX11_corners.desc).map (fun d => d.parameters.length) = some 1 := by decide +kernel
theorem qm_L_49 : Cond.methodLink RL 49 yX12_corners ∈ lw_ok := mkc7 9 (by decide +kernel) rfl
theorem qi_X12_corners : Cond.instanceMethod yX12_corners ∈ lw_ok := mkc7 10 (by decide +kernel) rfl
theorem qs_X12_corners : Cond.selects RX12 yX12_corners yX12_corners ∈ lw_ok := mkc7 11 (by decide +kernel) rfl
theorem qc_X12_corners : Cond.code yX12_corners cX12_corners 2 (some .int) ∈ lw_ok := mkc7 12 (by decide +kernel) rfl
theorem gv_L_49 : GoodIn lw_ok (wsV RL 49 RX12 yX12_corners [Cond.code yX12_corners cX12_corners 2 (some .int)]) := gV qm_L_49 qi_X12_corners qs_X12_corners qz_X12 qc_X12_corners
theorem hdV_X12_corners : yX12_corners.cls = RX12 ∧ yX12_corners.cls ≠ "java/lang/invoke/MethodHandle" ∧ yX12_corners.cls ≠ "java/lang/invoke/VarHandle" ∧ (parseMethodDescriptor yX12_corners.desc).map (fun d => d.parameters.length) = some 1 := by decide +kernel
theorem qm_L_50 : Cond.methodLink RL 50 yX11_corner ∈ lw_ok := mkc3 174 (by decide +kernel) rfl
theorem qi_X11_corner : Cond.instanceMethod yX11_corner ∈ lw_ok := mkc3 175 (by decide +kernel) rfl
theorem qs_X11_corner : Cond.selects RX11 yX11_corner yX11_corner ∈ lw_ok := mkc3 176 (by decide +kernel) rfl
theorem qc_X11_corner : Cond.code yX11_corner cX11_corner 3 (some .int) ∈ lw_ok := mkc3 177 (by decide +kernel) rfl
theorem gv_L_50 : GoodIn lw_ok (wsV RL 50 RX11 yX11_corner [Cond.code yX11_corner cX11_corner 3 (some .int)]) := gV qm_L_50 qi_X11_corner qs_X11_corner qz_X11 qc_X11_corner
theorem hdV_X11_corner : yX11_corner.cls = RX11 ∧ yX11_corner.cls ≠ "java/lang/invoke/MethodHandle" ∧ yX11_corner.cls ≠ "java/lang/invoke/VarHandle" ∧ (parseMethodDescriptor yX11_corner.desc).map (fun d => d.parameters.length) = some 2 := by decide +kernel
theorem qm_L_54 : Cond.methodLink RL 54 yX12_corner ∈ lw_ok := mkc7 37 (by decide +kernel) rfl
theorem qi_X12_corner : Cond.instanceMethod yX12_corner ∈ lw_ok := mkc7 38 (by decide +kernel) rfl
theorem qs_X12_corner : Cond.selects RX12 yX12_corner yX12_corner ∈ lw_ok := mkc7 39 (by decide +kernel) rfl
theorem qc_X12_corner : Cond.code yX12_corner cX12_corner 3 (some .int) ∈ lw_ok := mkc7 40 (by decide +kernel) rfl
theorem gv_L_54 : GoodIn lw_ok (wsV RL 54 RX12 yX12_corner [Cond.code yX12_corner cX12_corner 3 (some .int)]) := gV qm_L_54 qi_X12_corner qs_X12_corner qz_X12 qc_X12_corner
theorem hdV_X12_corner : yX12_corner.cls = RX12 ∧ yX12_corner.cls ≠ "java/lang/invoke/MethodHandle" ∧ yX12_corner.cls ≠ "java/lang/invoke/VarHandle" ∧ (parseMethodDescriptor yX12_corner.desc).map (fun d => d.parameters.length) = some 2 := by decide +kernel
theorem qm_L_55 : Cond.methodLink RL 55 yX11_area ∈ lw_ok := mkc3 178 (by decide +kernel) rfl
theorem qi_X11_area : Cond.instanceMethod yX11_area ∈ lw_ok := mkc3 179 (by decide +kernel) rfl
theorem qs_X11_area : Cond.selects RX11 yX11_area yX11_area ∈ lw_ok := mkc3 180 (by decide +kernel) rfl
theorem qc_X11_area : Cond.code yX11_area cX11_area 2 (some .int) ∈ lw_ok := mkc3 181 (by decide +kernel) rfl
theorem gv_L_55 : GoodIn lw_ok (wsV RL 55 RX11 yX11_area [Cond.code yX11_area cX11_area 2 (some .int)]) := gV qm_L_55 qi_X11_area qs_X11_area qz_X11 qc_X11_area
theorem hdV_X11_area : yX11_area.cls = RX11 ∧ yX11_area.cls ≠ "java/lang/invoke/MethodHandle" ∧ yX11_area.cls ≠ "java/lang/invoke/VarHandle" ∧ (parseMethodDescriptor yX11_area.desc).map (fun d => d.parameters.length) = some 1 := by decide +kernel
theorem qm_L_58 : Cond.methodLink RL 58 yX12_area ∈ lw_ok := mkc7 45 (by decide +kernel) rfl
theorem qi_X12_area : Cond.instanceMethod yX12_area ∈ lw_ok := mkc7 46 (by decide +kernel) rfl
theorem qs_X12_area : Cond.selects RX12 yX12_area yX12_area ∈ lw_ok := mkc7 47 (by decide +kernel) rfl
theorem qc_X12_area : Cond.code yX12_area cX12_area 2 (some .int) ∈ lw_ok := mkc7 48 (by decide +kernel) rfl
theorem gv_L_58 : GoodIn lw_ok (wsV RL 58 RX12 yX12_area [Cond.code yX12_area cX12_area 2 (some .int)]) := gV qm_L_58 qi_X12_area qs_X12_area qz_X12 qc_X12_area
theorem hdV_X12_area : yX12_area.cls = RX12 ∧ yX12_area.cls ≠ "java/lang/invoke/MethodHandle" ∧ yX12_area.cls ≠ "java/lang/invoke/VarHandle" ∧ (parseMethodDescriptor yX12_area.desc).map (fun d => d.parameters.length) = some 1 := by decide +kernel
theorem qm_L_59 : Cond.methodLink RL 59 yX11_places ∈ lw_ok := mkc3 186 (by decide +kernel) rfl
theorem qi_X11_places : Cond.instanceMethod yX11_places ∈ lw_ok := mkc3 187 (by decide +kernel) rfl
theorem qs_X11_places : Cond.selects RX11 yX11_places yX11_places ∈ lw_ok := mkc3 188 (by decide +kernel) rfl
theorem qc_X11_places : Cond.code yX11_places cX11_places 2 (some .int) ∈ lw_ok := mkc3 189 (by decide +kernel) rfl
theorem gv_L_59 : GoodIn lw_ok (wsV RL 59 RX11 yX11_places [Cond.code yX11_places cX11_places 2 (some .int)]) := gV qm_L_59 qi_X11_places qs_X11_places qz_X11 qc_X11_places
theorem hdV_X11_places : yX11_places.cls = RX11 ∧ yX11_places.cls ≠ "java/lang/invoke/MethodHandle" ∧ yX11_places.cls ≠ "java/lang/invoke/VarHandle" ∧ (parseMethodDescriptor yX11_places.desc).map (fun d => d.parameters.length) = some 1 := by decide +kernel
theorem qm_L_62 : Cond.methodLink RL 62 yX12_places ∈ lw_ok := mkc7 53 (by decide +kernel) rfl
theorem qi_X12_places : Cond.instanceMethod yX12_places ∈ lw_ok := mkc7 54 (by decide +kernel) rfl
theorem qs_X12_places : Cond.selects RX12 yX12_places yX12_places ∈ lw_ok := mkc7 55 (by decide +kernel) rfl
theorem qc_X12_places : Cond.code yX12_places cX12_places 4 (some .int) ∈ lw_ok := mkc7 56 (by decide +kernel) rfl
theorem gv_L_62 : GoodIn lw_ok (wsV RL 62 RX12 yX12_places [Cond.code yX12_places cX12_places 4 (some .int)]) := gV qm_L_62 qi_X12_places qs_X12_places qz_X12 qc_X12_places
theorem hdV_X12_places : yX12_places.cls = RX12 ∧ yX12_places.cls ≠ "java/lang/invoke/MethodHandle" ∧ yX12_places.cls ≠ "java/lang/invoke/VarHandle" ∧ (parseMethodDescriptor yX12_places.desc).map (fun d => d.parameters.length) = some 1 := by decide +kernel
theorem qm_L_63 : Cond.methodLink RL 63 yX11_where ∈ lw_ok := mkc3 201 (by decide +kernel) rfl
theorem qi_X11_where : Cond.instanceMethod yX11_where ∈ lw_ok := mkc3 202 (by decide +kernel) rfl
theorem qs_X11_where : Cond.selects RX11 yX11_where yX11_where ∈ lw_ok := mkc3 203 (by decide +kernel) rfl
theorem qc_X11_where : Cond.code yX11_where cX11_where 4 (some .int) ∈ lw_ok := mkc3 204 (by decide +kernel) rfl
theorem gv_L_63 : GoodIn lw_ok (wsV RL 63 RX11 yX11_where [Cond.code yX11_where cX11_where 4 (some .int)]) := gV qm_L_63 qi_X11_where qs_X11_where qz_X11 qc_X11_where
theorem hdV_X11_where : yX11_where.cls = RX11 ∧ yX11_where.cls ≠ "java/lang/invoke/MethodHandle" ∧ yX11_where.cls ≠ "java/lang/invoke/VarHandle" ∧ (parseMethodDescriptor yX11_where.desc).map (fun d => d.parameters.length) = some 3 := by decide +kernel
theorem qm_L_67 : Cond.methodLink RL 67 yX12_where ∈ lw_ok := mkc7 65 (by decide +kernel) rfl
theorem qi_X12_where : Cond.instanceMethod yX12_where ∈ lw_ok := mkc7 66 (by decide +kernel) rfl
theorem qs_X12_where : Cond.selects RX12 yX12_where yX12_where ∈ lw_ok := mkc7 67 (by decide +kernel) rfl
theorem qc_X12_where : Cond.code yX12_where cX12_where 4 (some .int) ∈ lw_ok := mkc7 68 (by decide +kernel) rfl
theorem gv_L_67 : GoodIn lw_ok (wsV RL 67 RX12 yX12_where [Cond.code yX12_where cX12_where 4 (some .int)]) := gV qm_L_67 qi_X12_where qs_X12_where qz_X12 qc_X12_where
theorem hdV_X12_where : yX12_where.cls = RX12 ∧ yX12_where.cls ≠ "java/lang/invoke/MethodHandle" ∧ yX12_where.cls ≠ "java/lang/invoke/VarHandle" ∧ (parseMethodDescriptor yX12_where.desc).map (fun d => d.parameters.length) = some 3 := by decide +kernel
theorem qm_L_68 : Cond.methodLink RL 68 yX11_holds ∈ lw_ok := mkc3 212 (by decide +kernel) rfl
theorem qi_X11_holds : Cond.instanceMethod yX11_holds ∈ lw_ok := mkc3 213 (by decide +kernel) rfl
theorem qs_X11_holds : Cond.selects RX11 yX11_holds yX11_holds ∈ lw_ok := mkc3 214 (by decide +kernel) rfl
theorem qc_X11_holds : Cond.code yX11_holds cX11_holds 2 (some .int) ∈ lw_ok := mkc3 215 (by decide +kernel) rfl
theorem gv_L_68 : GoodIn lw_ok (wsV RL 68 RX11 yX11_holds [Cond.code yX11_holds cX11_holds 2 (some .int)]) := gV qm_L_68 qi_X11_holds qs_X11_holds qz_X11 qc_X11_holds
theorem hdV_X11_holds : yX11_holds.cls = RX11 ∧ yX11_holds.cls ≠ "java/lang/invoke/MethodHandle" ∧ yX11_holds.cls ≠ "java/lang/invoke/VarHandle" ∧ (parseMethodDescriptor yX11_holds.desc).map (fun d => d.parameters.length) = some 1 := by decide +kernel
theorem qm_L_71 : Cond.methodLink RL 71 yX12_holds ∈ lw_ok := mkc7 83 (by decide +kernel) rfl
theorem qi_X12_holds : Cond.instanceMethod yX12_holds ∈ lw_ok := mkc7 84 (by decide +kernel) rfl
theorem qs_X12_holds : Cond.selects RX12 yX12_holds yX12_holds ∈ lw_ok := mkc7 85 (by decide +kernel) rfl
theorem qc_X12_holds : Cond.code yX12_holds cX12_holds 2 (some .int) ∈ lw_ok := mkc7 86 (by decide +kernel) rfl
theorem gv_L_71 : GoodIn lw_ok (wsV RL 71 RX12 yX12_holds [Cond.code yX12_holds cX12_holds 2 (some .int)]) := gV qm_L_71 qi_X12_holds qs_X12_holds qz_X12 qc_X12_holds
theorem hdV_X12_holds : yX12_holds.cls = RX12 ∧ yX12_holds.cls ≠ "java/lang/invoke/MethodHandle" ∧ yX12_holds.cls ≠ "java/lang/invoke/VarHandle" ∧ (parseMethodDescriptor yX12_holds.desc).map (fun d => d.parameters.length) = some 1 := by decide +kernel
theorem qm_L_72 : Cond.methodLink RL 72 yX11_nearest ∈ lw_ok := mkc3 216 (by decide +kernel) rfl
theorem qi_X11_nearest : Cond.instanceMethod yX11_nearest ∈ lw_ok := mkc3 217 (by decide +kernel) rfl
theorem qs_X11_nearest : Cond.selects RX11 yX11_nearest yX11_nearest ∈ lw_ok := mkc3 218 (by decide +kernel) rfl
theorem qc_X11_nearest : Cond.code yX11_nearest cX11_nearest 3 (some .long) ∈ lw_ok := mkc3 219 (by decide +kernel) rfl
theorem gv_L_72 : GoodIn lw_ok (wsV RL 72 RX11 yX11_nearest [Cond.code yX11_nearest cX11_nearest 3 (some .long)]) := gV qm_L_72 qi_X11_nearest qs_X11_nearest qz_X11 qc_X11_nearest
theorem hdV_X11_nearest : yX11_nearest.cls = RX11 ∧ yX11_nearest.cls ≠ "java/lang/invoke/MethodHandle" ∧ yX11_nearest.cls ≠ "java/lang/invoke/VarHandle" ∧ (parseMethodDescriptor yX11_nearest.desc).map (fun d => d.parameters.length) = some 2 := by decide +kernel
theorem qm_L_75 : Cond.methodLink RL 75 yX12_nearest ∈ lw_ok := mkc7 91 (by decide +kernel) rfl
theorem qi_X12_nearest : Cond.instanceMethod yX12_nearest ∈ lw_ok := mkc7 92 (by decide +kernel) rfl
theorem qs_X12_nearest : Cond.selects RX12 yX12_nearest yX12_nearest ∈ lw_ok := mkc7 93 (by decide +kernel) rfl
theorem qc_X12_nearest : Cond.code yX12_nearest cX12_nearest 3 (some .long) ∈ lw_ok := mkc7 94 (by decide +kernel) rfl
theorem gv_L_75 : GoodIn lw_ok (wsV RL 75 RX12 yX12_nearest [Cond.code yX12_nearest cX12_nearest 3 (some .long)]) := gV qm_L_75 qi_X12_nearest qs_X12_nearest qz_X12 qc_X12_nearest
theorem hdV_X12_nearest : yX12_nearest.cls = RX12 ∧ yX12_nearest.cls ≠ "java/lang/invoke/MethodHandle" ∧ yX12_nearest.cls ≠ "java/lang/invoke/VarHandle" ∧ (parseMethodDescriptor yX12_nearest.desc).map (fun d => d.parameters.length) = some 2 := by decide +kernel
theorem qm_L_76 : Cond.methodLink RL 76 yX11_line ∈ lw_ok := mkc4 2 (by decide +kernel) rfl
theorem qi_X11_line : Cond.instanceMethod yX11_line ∈ lw_ok := mkc4 3 (by decide +kernel) rfl
theorem qs_X11_line : Cond.selects RX11 yX11_line yX11_line ∈ lw_ok := mkc4 4 (by decide +kernel) rfl
theorem qc_X11_line : Cond.code yX11_line cX11_line 9 (some .long) ∈ lw_ok := mkc4 5 (by decide +kernel) rfl
theorem gv_L_76 : GoodIn lw_ok (wsV RL 76 RX11 yX11_line [Cond.code yX11_line cX11_line 9 (some .long)]) := gV qm_L_76 qi_X11_line qs_X11_line qz_X11 qc_X11_line
theorem hdV_X11_line : yX11_line.cls = RX11 ∧ yX11_line.cls ≠ "java/lang/invoke/MethodHandle" ∧ yX11_line.cls ≠ "java/lang/invoke/VarHandle" ∧ (parseMethodDescriptor yX11_line.desc).map (fun d => d.parameters.length) = some 2 := by decide +kernel
theorem qm_L_79 : Cond.methodLink RL 79 yX12_line ∈ lw_ok := mkc7 112 (by decide +kernel) rfl
theorem qi_X12_line : Cond.instanceMethod yX12_line ∈ lw_ok := mkc7 113 (by decide +kernel) rfl
theorem qs_X12_line : Cond.selects RX12 yX12_line yX12_line ∈ lw_ok := mkc7 114 (by decide +kernel) rfl
theorem qc_X12_line : Cond.code yX12_line cX12_line 12 (some .long) ∈ lw_ok := mkc7 115 (by decide +kernel) rfl
theorem gv_L_79 : GoodIn lw_ok (wsV RL 79 RX12 yX12_line [Cond.code yX12_line cX12_line 12 (some .long)]) := gV qm_L_79 qi_X12_line qs_X12_line qz_X12 qc_X12_line
theorem hdV_X12_line : yX12_line.cls = RX12 ∧ yX12_line.cls ≠ "java/lang/invoke/MethodHandle" ∧ yX12_line.cls ≠ "java/lang/invoke/VarHandle" ∧ (parseMethodDescriptor yX12_line.desc).map (fun d => d.parameters.length) = some 2 := by decide +kernel
theorem qm_L_80 : Cond.methodLink RL 80 yX11_tie ∈ lw_ok := mkc4 22 (by decide +kernel) rfl
theorem qi_X11_tie : Cond.instanceMethod yX11_tie ∈ lw_ok := mkc4 23 (by decide +kernel) rfl
theorem qs_X11_tie : Cond.selects RX11 yX11_tie yX11_tie ∈ lw_ok := mkc4 24 (by decide +kernel) rfl
theorem qc_X11_tie : Cond.code yX11_tie cX11_tie 3 (some .long) ∈ lw_ok := mkc4 25 (by decide +kernel) rfl
theorem gv_L_80 : GoodIn lw_ok (wsV RL 80 RX11 yX11_tie [Cond.code yX11_tie cX11_tie 3 (some .long)]) := gV qm_L_80 qi_X11_tie qs_X11_tie qz_X11 qc_X11_tie
theorem hdV_X11_tie : yX11_tie.cls = RX11 ∧ yX11_tie.cls ≠ "java/lang/invoke/MethodHandle" ∧ yX11_tie.cls ≠ "java/lang/invoke/VarHandle" ∧ (parseMethodDescriptor yX11_tie.desc).map (fun d => d.parameters.length) = some 2 := by decide +kernel
theorem qm_L_83 : Cond.methodLink RL 83 yX12_tie ∈ lw_ok := mkc7 119 (by decide +kernel) rfl
theorem qi_X12_tie : Cond.instanceMethod yX12_tie ∈ lw_ok := mkc7 120 (by decide +kernel) rfl
theorem qs_X12_tie : Cond.selects RX12 yX12_tie yX12_tie ∈ lw_ok := mkc7 121 (by decide +kernel) rfl
theorem qc_X12_tie : Cond.code yX12_tie cX12_tie 3 (some .long) ∈ lw_ok := mkc7 122 (by decide +kernel) rfl
theorem gv_L_83 : GoodIn lw_ok (wsV RL 83 RX12 yX12_tie [Cond.code yX12_tie cX12_tie 3 (some .long)]) := gV qm_L_83 qi_X12_tie qs_X12_tie qz_X12 qc_X12_tie
theorem hdV_X12_tie : yX12_tie.cls = RX12 ∧ yX12_tie.cls ≠ "java/lang/invoke/MethodHandle" ∧ yX12_tie.cls ≠ "java/lang/invoke/VarHandle" ∧ (parseMethodDescriptor yX12_tie.desc).map (fun d => d.parameters.length) = some 2 := by decide +kernel
theorem qm_L_84 : Cond.methodLink RL 84 yX11_radon ∈ lw_ok := mkc4 61 (by decide +kernel) rfl
theorem qi_X11_radon : Cond.instanceMethod yX11_radon ∈ lw_ok := mkc4 62 (by decide +kernel) rfl
theorem qs_X11_radon : Cond.selects RX11 yX11_radon yX11_radon ∈ lw_ok := mkc4 63 (by decide +kernel) rfl
theorem qc_X11_radon : Cond.code yX11_radon cX11_radon 3 (some .long) ∈ lw_ok := mkc4 64 (by decide +kernel) rfl
theorem gv_L_84 : GoodIn lw_ok (wsV RL 84 RX11 yX11_radon [Cond.code yX11_radon cX11_radon 3 (some .long)]) := gV qm_L_84 qi_X11_radon qs_X11_radon qz_X11 qc_X11_radon
theorem hdV_X11_radon : yX11_radon.cls = RX11 ∧ yX11_radon.cls ≠ "java/lang/invoke/MethodHandle" ∧ yX11_radon.cls ≠ "java/lang/invoke/VarHandle" ∧ (parseMethodDescriptor yX11_radon.desc).map (fun d => d.parameters.length) = some 2 := by decide +kernel
theorem qm_L_87 : Cond.methodLink RL 87 yX12_radon ∈ lw_ok := mkc7 136 (by decide +kernel) rfl
theorem qi_X12_radon : Cond.instanceMethod yX12_radon ∈ lw_ok := mkc7 137 (by decide +kernel) rfl
theorem qs_X12_radon : Cond.selects RX12 yX12_radon yX12_radon ∈ lw_ok := mkc7 138 (by decide +kernel) rfl
theorem qc_X12_radon : Cond.code yX12_radon cX12_radon 12 (some .long) ∈ lw_ok := mkc7 139 (by decide +kernel) rfl
theorem gv_L_87 : GoodIn lw_ok (wsV RL 87 RX12 yX12_radon [Cond.code yX12_radon cX12_radon 12 (some .long)]) := gV qm_L_87 qi_X12_radon qs_X12_radon qz_X12 qc_X12_radon
theorem hdV_X12_radon : yX12_radon.cls = RX12 ∧ yX12_radon.cls ≠ "java/lang/invoke/MethodHandle" ∧ yX12_radon.cls ≠ "java/lang/invoke/VarHandle" ∧ (parseMethodDescriptor yX12_radon.desc).map (fun d => d.parameters.length) = some 2 := by decide +kernel
theorem qm_L_88 : Cond.methodLink RL 88 yX11_balance ∈ lw_ok := mkc4 86 (by decide +kernel) rfl
theorem qi_X11_balance : Cond.instanceMethod yX11_balance ∈ lw_ok := mkc4 87 (by decide +kernel) rfl
theorem qs_X11_balance : Cond.selects RX11 yX11_balance yX11_balance ∈ lw_ok := mkc4 88 (by decide +kernel) rfl
theorem qc_X11_balance : Cond.code yX11_balance cX11_balance 2 (some .long) ∈ lw_ok := mkc4 89 (by decide +kernel) rfl
theorem gv_L_88 : GoodIn lw_ok (wsV RL 88 RX11 yX11_balance [Cond.code yX11_balance cX11_balance 2 (some .long)]) := gV qm_L_88 qi_X11_balance qs_X11_balance qz_X11 qc_X11_balance
theorem hdV_X11_balance : yX11_balance.cls = RX11 ∧ yX11_balance.cls ≠ "java/lang/invoke/MethodHandle" ∧ yX11_balance.cls ≠ "java/lang/invoke/VarHandle" ∧ (parseMethodDescriptor yX11_balance.desc).map (fun d => d.parameters.length) = some 1 := by decide +kernel
theorem qm_L_91 : Cond.methodLink RL 91 yX12_balance ∈ lw_ok := mkc7 140 (by decide +kernel) rfl
theorem qi_X12_balance : Cond.instanceMethod yX12_balance ∈ lw_ok := mkc7 141 (by decide +kernel) rfl
theorem qs_X12_balance : Cond.selects RX12 yX12_balance yX12_balance ∈ lw_ok := mkc7 142 (by decide +kernel) rfl
theorem qc_X12_balance : Cond.code yX12_balance cX12_balance 9 (some .long) ∈ lw_ok := mkc7 143 (by decide +kernel) rfl
theorem gv_L_91 : GoodIn lw_ok (wsV RL 91 RX12 yX12_balance [Cond.code yX12_balance cX12_balance 9 (some .long)]) := gV qm_L_91 qi_X12_balance qs_X12_balance qz_X12 qc_X12_balance
theorem hdV_X12_balance : yX12_balance.cls = RX12 ∧ yX12_balance.cls ≠ "java/lang/invoke/MethodHandle" ∧ yX12_balance.cls ≠ "java/lang/invoke/VarHandle" ∧ (parseMethodDescriptor yX12_balance.desc).map (fun d => d.parameters.length) = some 1 := by decide +kernel
theorem qm_L_92 : Cond.methodLink RL 92 yX11_steps ∈ lw_ok := mkc4 95 (by decide +kernel) rfl
theorem qi_X11_steps : Cond.instanceMethod yX11_steps ∈ lw_ok := mkc4 96 (by decide +kernel) rfl
theorem qs_X11_steps : Cond.selects RX11 yX11_steps yX11_steps ∈ lw_ok := mkc4 97 (by decide +kernel) rfl
theorem qc_X11_steps : Cond.code yX11_steps cX11_steps 2 (some .int) ∈ lw_ok := mkc4 98 (by decide +kernel) rfl
theorem gv_L_92 : GoodIn lw_ok (wsV RL 92 RX11 yX11_steps [Cond.code yX11_steps cX11_steps 2 (some .int)]) := gV qm_L_92 qi_X11_steps qs_X11_steps qz_X11 qc_X11_steps
theorem hdV_X11_steps : yX11_steps.cls = RX11 ∧ yX11_steps.cls ≠ "java/lang/invoke/MethodHandle" ∧ yX11_steps.cls ≠ "java/lang/invoke/VarHandle" ∧ (parseMethodDescriptor yX11_steps.desc).map (fun d => d.parameters.length) = some 0 := by decide +kernel
theorem qm_L_95 : Cond.methodLink RL 95 yX12_steps ∈ lw_ok := mkc7 144 (by decide +kernel) rfl
theorem qi_X12_steps : Cond.instanceMethod yX12_steps ∈ lw_ok := mkc7 145 (by decide +kernel) rfl
theorem qs_X12_steps : Cond.selects RX12 yX12_steps yX12_steps ∈ lw_ok := mkc7 146 (by decide +kernel) rfl
theorem qc_X12_steps : Cond.code yX12_steps cX12_steps 2 (some .int) ∈ lw_ok := mkc7 147 (by decide +kernel) rfl
theorem gv_L_95 : GoodIn lw_ok (wsV RL 95 RX12 yX12_steps [Cond.code yX12_steps cX12_steps 2 (some .int)]) := gV qm_L_95 qi_X12_steps qs_X12_steps qz_X12 qc_X12_steps
theorem hdV_X12_steps : yX12_steps.cls = RX12 ∧ yX12_steps.cls ≠ "java/lang/invoke/MethodHandle" ∧ yX12_steps.cls ≠ "java/lang/invoke/VarHandle" ∧ (parseMethodDescriptor yX12_steps.desc).map (fun d => d.parameters.length) = some 0 := by decide +kernel
theorem qm_L_96 : Cond.methodLink RL 96 yX11_weight ∈ lw_ok := mkc4 125 (by decide +kernel) rfl
theorem qi_X11_weight : Cond.instanceMethod yX11_weight ∈ lw_ok := mkc4 126 (by decide +kernel) rfl
theorem qs_X11_weight : Cond.selects RX11 yX11_weight yX11_weight ∈ lw_ok := mkc4 127 (by decide +kernel) rfl
theorem qc_X11_weight : Cond.code yX11_weight cX11_weight 8 (some .long) ∈ lw_ok := mkc4 128 (by decide +kernel) rfl
theorem gv_L_96 : GoodIn lw_ok (wsV RL 96 RX11 yX11_weight [Cond.code yX11_weight cX11_weight 8 (some .long)]) := gV qm_L_96 qi_X11_weight qs_X11_weight qz_X11 qc_X11_weight
theorem hdV_X11_weight : yX11_weight.cls = RX11 ∧ yX11_weight.cls ≠ "java/lang/invoke/MethodHandle" ∧ yX11_weight.cls ≠ "java/lang/invoke/VarHandle" ∧ (parseMethodDescriptor yX11_weight.desc).map (fun d => d.parameters.length) = some 3 := by decide +kernel
theorem qm_L_100 : Cond.methodLink RL 100 yX12_weight ∈ lw_ok := mkc7 157 (by decide +kernel) rfl
theorem qi_X12_weight : Cond.instanceMethod yX12_weight ∈ lw_ok := mkc7 158 (by decide +kernel) rfl
theorem qs_X12_weight : Cond.selects RX12 yX12_weight yX12_weight ∈ lw_ok := mkc7 159 (by decide +kernel) rfl
theorem qc_X12_weight : Cond.code yX12_weight cX12_weight 8 (some .long) ∈ lw_ok := mkc7 160 (by decide +kernel) rfl
theorem gv_L_100 : GoodIn lw_ok (wsV RL 100 RX12 yX12_weight [Cond.code yX12_weight cX12_weight 8 (some .long)]) := gV qm_L_100 qi_X12_weight qs_X12_weight qz_X12 qc_X12_weight
theorem hdV_X12_weight : yX12_weight.cls = RX12 ∧ yX12_weight.cls ≠ "java/lang/invoke/MethodHandle" ∧ yX12_weight.cls ≠ "java/lang/invoke/VarHandle" ∧ (parseMethodDescriptor yX12_weight.desc).map (fun d => d.parameters.length) = some 3 := by decide +kernel
theorem qm_L_101 : Cond.methodLink RL 101 yX11_left ∈ lw_ok := mkc4 129 (by decide +kernel) rfl
theorem qi_X11_left : Cond.instanceMethod yX11_left ∈ lw_ok := mkc4 130 (by decide +kernel) rfl
theorem qs_X11_left : Cond.selects RX11 yX11_left yX11_left ∈ lw_ok := mkc4 131 (by decide +kernel) rfl
theorem qc_X11_left : Cond.code yX11_left cX11_left 3 (some .int) ∈ lw_ok := mkc4 132 (by decide +kernel) rfl
theorem gv_L_101 : GoodIn lw_ok (wsV RL 101 RX11 yX11_left [Cond.code yX11_left cX11_left 3 (some .int)]) := gV qm_L_101 qi_X11_left qs_X11_left qz_X11 qc_X11_left
theorem hdV_X11_left : yX11_left.cls = RX11 ∧ yX11_left.cls ≠ "java/lang/invoke/MethodHandle" ∧ yX11_left.cls ≠ "java/lang/invoke/VarHandle" ∧ (parseMethodDescriptor yX11_left.desc).map (fun d => d.parameters.length) = some 1 := by decide +kernel
theorem qm_L_104 : Cond.methodLink RL 104 yX12_left ∈ lw_ok := mkc7 165 (by decide +kernel) rfl
theorem qi_X12_left : Cond.instanceMethod yX12_left ∈ lw_ok := mkc7 166 (by decide +kernel) rfl
theorem qs_X12_left : Cond.selects RX12 yX12_left yX12_left ∈ lw_ok := mkc7 167 (by decide +kernel) rfl
theorem qc_X12_left : Cond.code yX12_left cX12_left 2 (some .int) ∈ lw_ok := mkc7 168 (by decide +kernel) rfl
theorem gv_L_104 : GoodIn lw_ok (wsV RL 104 RX12 yX12_left [Cond.code yX12_left cX12_left 2 (some .int)]) := gV qm_L_104 qi_X12_left qs_X12_left qz_X12 qc_X12_left
theorem hdV_X12_left : yX12_left.cls = RX12 ∧ yX12_left.cls ≠ "java/lang/invoke/MethodHandle" ∧ yX12_left.cls ≠ "java/lang/invoke/VarHandle" ∧ (parseMethodDescriptor yX12_left.desc).map (fun d => d.parameters.length) = some 1 := by decide +kernel
theorem qm_L_105 : Cond.methodLink RL 105 yX11_rainbows ∈ lw_ok := mkc4 133 (by decide +kernel) rfl
theorem qi_X11_rainbows : Cond.instanceMethod yX11_rainbows ∈ lw_ok := mkc4 134 (by decide +kernel) rfl
theorem qs_X11_rainbows : Cond.selects RX11 yX11_rainbows yX11_rainbows ∈ lw_ok := mkc4 135 (by decide +kernel) rfl
theorem qc_X11_rainbows : Cond.code yX11_rainbows cX11_rainbows 1 (some .int) ∈ lw_ok := mkc4 136 (by decide +kernel) rfl
theorem gv_L_105 : GoodIn lw_ok (wsV RL 105 RX11 yX11_rainbows [Cond.code yX11_rainbows cX11_rainbows 1 (some .int)]) := gV qm_L_105 qi_X11_rainbows qs_X11_rainbows qz_X11 qc_X11_rainbows
theorem hdV_X11_rainbows : yX11_rainbows.cls = RX11 ∧ yX11_rainbows.cls ≠ "java/lang/invoke/MethodHandle" ∧ yX11_rainbows.cls ≠ "java/lang/invoke/VarHandle" ∧ (parseMethodDescriptor yX11_rainbows.desc).map (fun d => d.parameters.length) = some 0 := by decide +kernel
theorem qm_L_108 : Cond.methodLink RL 108 yX12_rainbows ∈ lw_ok := mkc7 169 (by decide +kernel) rfl
theorem qi_X12_rainbows : Cond.instanceMethod yX12_rainbows ∈ lw_ok := mkc7 170 (by decide +kernel) rfl
theorem qs_X12_rainbows : Cond.selects RX12 yX12_rainbows yX12_rainbows ∈ lw_ok := mkc7 171 (by decide +kernel) rfl
theorem qc_X12_rainbows : Cond.code yX12_rainbows cX12_rainbows 1 (some .int) ∈ lw_ok := mkc7 172 (by decide +kernel) rfl
theorem gv_L_108 : GoodIn lw_ok (wsV RL 108 RX12 yX12_rainbows [Cond.code yX12_rainbows cX12_rainbows 1 (some .int)]) := gV qm_L_108 qi_X12_rainbows qs_X12_rainbows qz_X12 qc_X12_rainbows
theorem hdV_X12_rainbows : yX12_rainbows.cls = RX12 ∧ yX12_rainbows.cls ≠ "java/lang/invoke/MethodHandle" ∧ yX12_rainbows.cls ≠ "java/lang/invoke/VarHandle" ∧ (parseMethodDescriptor yX12_rainbows.desc).map (fun d => d.parameters.length) = some 0 := by decide +kernel
theorem qm_L_109 : Cond.methodLink RL 109 yX11_rainbow ∈ lw_ok := mkc4 159 (by decide +kernel) rfl
theorem qi_X11_rainbow : Cond.instanceMethod yX11_rainbow ∈ lw_ok := mkc4 160 (by decide +kernel) rfl
theorem qs_X11_rainbow : Cond.selects RX11 yX11_rainbow yX11_rainbow ∈ lw_ok := mkc4 161 (by decide +kernel) rfl
theorem qc_X11_rainbow : Cond.code yX11_rainbow cX11_rainbow 3 (some .int) ∈ lw_ok := mkc4 162 (by decide +kernel) rfl
theorem gv_L_109 : GoodIn lw_ok (wsV RL 109 RX11 yX11_rainbow [Cond.code yX11_rainbow cX11_rainbow 3 (some .int)]) := gV qm_L_109 qi_X11_rainbow qs_X11_rainbow qz_X11 qc_X11_rainbow
theorem hdV_X11_rainbow : yX11_rainbow.cls = RX11 ∧ yX11_rainbow.cls ≠ "java/lang/invoke/MethodHandle" ∧ yX11_rainbow.cls ≠ "java/lang/invoke/VarHandle" ∧ (parseMethodDescriptor yX11_rainbow.desc).map (fun d => d.parameters.length) = some 2 := by decide +kernel
theorem qm_L_112 : Cond.methodLink RL 112 yX12_rainbow ∈ lw_ok := mkc7 184 (by decide +kernel) rfl
theorem qi_X12_rainbow : Cond.instanceMethod yX12_rainbow ∈ lw_ok := mkc7 185 (by decide +kernel) rfl
theorem qs_X12_rainbow : Cond.selects RX12 yX12_rainbow yX12_rainbow ∈ lw_ok := mkc7 186 (by decide +kernel) rfl
theorem qc_X12_rainbow : Cond.code yX12_rainbow cX12_rainbow 3 (some .int) ∈ lw_ok := mkc7 187 (by decide +kernel) rfl
theorem gv_L_112 : GoodIn lw_ok (wsV RL 112 RX12 yX12_rainbow [Cond.code yX12_rainbow cX12_rainbow 3 (some .int)]) := gV qm_L_112 qi_X12_rainbow qs_X12_rainbow qz_X12 qc_X12_rainbow
theorem hdV_X12_rainbow : yX12_rainbow.cls = RX12 ∧ yX12_rainbow.cls ≠ "java/lang/invoke/MethodHandle" ∧ yX12_rainbow.cls ≠ "java/lang/invoke/VarHandle" ∧ (parseMethodDescriptor yX12_rainbow.desc).map (fun d => d.parameters.length) = some 2 := by decide +kernel
theorem qm_L_113 : Cond.methodLink RL 113 yX11_mixture ∈ lw_ok := mkc4 170 (by decide +kernel) rfl
theorem qi_X11_mixture : Cond.instanceMethod yX11_mixture ∈ lw_ok := mkc4 171 (by decide +kernel) rfl
theorem qs_X11_mixture : Cond.selects RX11 yX11_mixture yX11_mixture ∈ lw_ok := mkc4 172 (by decide +kernel) rfl
theorem qc_X11_mixture : Cond.code yX11_mixture cX11_mixture 5 (some .long) ∈ lw_ok := mkc4 173 (by decide +kernel) rfl
theorem gv_L_113 : GoodIn lw_ok (wsV RL 113 RX11 yX11_mixture [Cond.code yX11_mixture cX11_mixture 5 (some .long)]) := gV qm_L_113 qi_X11_mixture qs_X11_mixture qz_X11 qc_X11_mixture
theorem hdV_X11_mixture : yX11_mixture.cls = RX11 ∧ yX11_mixture.cls ≠ "java/lang/invoke/MethodHandle" ∧ yX11_mixture.cls ≠ "java/lang/invoke/VarHandle" ∧ (parseMethodDescriptor yX11_mixture.desc).map (fun d => d.parameters.length) = some 4 := by decide +kernel
theorem qm_L_117 : Cond.methodLink RL 117 yX12_mixture ∈ lw_ok := mkc7 188 (by decide +kernel) rfl
theorem qi_X12_mixture : Cond.instanceMethod yX12_mixture ∈ lw_ok := mkc7 189 (by decide +kernel) rfl
theorem qs_X12_mixture : Cond.selects RX12 yX12_mixture yX12_mixture ∈ lw_ok := mkc7 190 (by decide +kernel) rfl
theorem qc_X12_mixture : Cond.code yX12_mixture cX12_mixture 10 (some .long) ∈ lw_ok := mkc7 191 (by decide +kernel) rfl
theorem gv_L_117 : GoodIn lw_ok (wsV RL 117 RX12 yX12_mixture [Cond.code yX12_mixture cX12_mixture 10 (some .long)]) := gV qm_L_117 qi_X12_mixture qs_X12_mixture qz_X12 qc_X12_mixture
theorem hdV_X12_mixture : yX12_mixture.cls = RX12 ∧ yX12_mixture.cls ≠ "java/lang/invoke/MethodHandle" ∧ yX12_mixture.cls ≠ "java/lang/invoke/VarHandle" ∧ (parseMethodDescriptor yX12_mixture.desc).map (fun d => d.parameters.length) = some 4 := by decide +kernel
theorem qm_L_118 : Cond.methodLink RL 118 yX11_exchanges ∈ lw_ok := mkc4 207 (by decide +kernel) rfl
theorem qi_X11_exchanges : Cond.instanceMethod yX11_exchanges ∈ lw_ok := mkc4 208 (by decide +kernel) rfl
theorem qs_X11_exchanges : Cond.selects RX11 yX11_exchanges yX11_exchanges ∈ lw_ok := mkc4 209 (by decide +kernel) rfl
theorem qc_X11_exchanges : Cond.code yX11_exchanges cX11_exchanges 6 (some .int) ∈ lw_ok := mkc4 210 (by decide +kernel) rfl
theorem gv_L_118 : GoodIn lw_ok (wsV RL 118 RX11 yX11_exchanges [Cond.code yX11_exchanges cX11_exchanges 6 (some .int)]) := gV qm_L_118 qi_X11_exchanges qs_X11_exchanges qz_X11 qc_X11_exchanges
theorem hdV_X11_exchanges : yX11_exchanges.cls = RX11 ∧ yX11_exchanges.cls ≠ "java/lang/invoke/MethodHandle" ∧ yX11_exchanges.cls ≠ "java/lang/invoke/VarHandle" ∧ (parseMethodDescriptor yX11_exchanges.desc).map (fun d => d.parameters.length) = some 4 := by decide +kernel
theorem qm_L_122 : Cond.methodLink RL 122 yX12_exchanges ∈ lw_ok := mkc7 204 (by decide +kernel) rfl
theorem qi_X12_exchanges : Cond.instanceMethod yX12_exchanges ∈ lw_ok := mkc7 205 (by decide +kernel) rfl
theorem qs_X12_exchanges : Cond.selects RX12 yX12_exchanges yX12_exchanges ∈ lw_ok := mkc7 206 (by decide +kernel) rfl
theorem qc_X12_exchanges : Cond.code yX12_exchanges cX12_exchanges 6 (some .int) ∈ lw_ok := mkc7 207 (by decide +kernel) rfl
theorem gv_L_122 : GoodIn lw_ok (wsV RL 122 RX12 yX12_exchanges [Cond.code yX12_exchanges cX12_exchanges 6 (some .int)]) := gV qm_L_122 qi_X12_exchanges qs_X12_exchanges qz_X12 qc_X12_exchanges
theorem hdV_X12_exchanges : yX12_exchanges.cls = RX12 ∧ yX12_exchanges.cls ≠ "java/lang/invoke/MethodHandle" ∧ yX12_exchanges.cls ≠ "java/lang/invoke/VarHandle" ∧ (parseMethodDescriptor yX12_exchanges.desc).map (fun d => d.parameters.length) = some 4 := by decide +kernel
theorem qm_L_123 : Cond.methodLink RL 123 yX11_exchanged ∈ lw_ok := mkc4 236 (by decide +kernel) rfl
theorem qi_X11_exchanged : Cond.instanceMethod yX11_exchanged ∈ lw_ok := mkc4 237 (by decide +kernel) rfl
theorem qs_X11_exchanged : Cond.selects RX11 yX11_exchanged yX11_exchanged ∈ lw_ok := mkc4 238 (by decide +kernel) rfl
theorem qc_X11_exchanged : Cond.code yX11_exchanged cX11_exchanged 6 (some .int) ∈ lw_ok := mkc4 239 (by decide +kernel) rfl
theorem gv_L_123 : GoodIn lw_ok (wsV RL 123 RX11 yX11_exchanged [Cond.code yX11_exchanged cX11_exchanged 6 (some .int)]) := gV qm_L_123 qi_X11_exchanged qs_X11_exchanged qz_X11 qc_X11_exchanged
theorem hdV_X11_exchanged : yX11_exchanged.cls = RX11 ∧ yX11_exchanged.cls ≠ "java/lang/invoke/MethodHandle" ∧ yX11_exchanged.cls ≠ "java/lang/invoke/VarHandle" ∧ (parseMethodDescriptor yX11_exchanged.desc).map (fun d => d.parameters.length) = some 5 := by decide +kernel
theorem qm_L_126 : Cond.methodLink RL 126 yX12_exchanged ∈ lw_ok := mkc7 232 (by decide +kernel) rfl
theorem qi_X12_exchanged : Cond.instanceMethod yX12_exchanged ∈ lw_ok := mkc7 233 (by decide +kernel) rfl
theorem qs_X12_exchanged : Cond.selects RX12 yX12_exchanged yX12_exchanged ∈ lw_ok := mkc7 234 (by decide +kernel) rfl
theorem qc_X12_exchanged : Cond.code yX12_exchanged cX12_exchanged 6 (some .int) ∈ lw_ok := mkc7 235 (by decide +kernel) rfl
theorem gv_L_126 : GoodIn lw_ok (wsV RL 126 RX12 yX12_exchanged [Cond.code yX12_exchanged cX12_exchanged 6 (some .int)]) := gV qm_L_126 qi_X12_exchanged qs_X12_exchanged qz_X12 qc_X12_exchanged
theorem hdV_X12_exchanged : yX12_exchanged.cls = RX12 ∧ yX12_exchanged.cls ≠ "java/lang/invoke/MethodHandle" ∧ yX12_exchanged.cls ≠ "java/lang/invoke/VarHandle" ∧ (parseMethodDescriptor yX12_exchanged.desc).map (fun d => d.parameters.length) = some 5 := by decide +kernel
theorem qm_L_127 : Cond.methodLink RL 127 yX11_distance ∈ lw_ok := mkc5 0 (by decide +kernel) rfl
theorem qi_X11_distance : Cond.instanceMethod yX11_distance ∈ lw_ok := mkc5 1 (by decide +kernel) rfl
theorem qs_X11_distance : Cond.selects RX11 yX11_distance yX11_distance ∈ lw_ok := mkc5 2 (by decide +kernel) rfl
theorem qc_X11_distance : Cond.code yX11_distance cX11_distance 6 (some .long) ∈ lw_ok := mkc5 3 (by decide +kernel) rfl
theorem gv_L_127 : GoodIn lw_ok (wsV RL 127 RX11 yX11_distance [Cond.code yX11_distance cX11_distance 6 (some .long)]) := gV qm_L_127 qi_X11_distance qs_X11_distance qz_X11 qc_X11_distance
theorem hdV_X11_distance : yX11_distance.cls = RX11 ∧ yX11_distance.cls ≠ "java/lang/invoke/MethodHandle" ∧ yX11_distance.cls ≠ "java/lang/invoke/VarHandle" ∧ (parseMethodDescriptor yX11_distance.desc).map (fun d => d.parameters.length) = some 5 := by decide +kernel
theorem qm_L_131 : Cond.methodLink RL 131 yX12_distance ∈ lw_ok := mkc8 0 (by decide +kernel) rfl
theorem qi_X12_distance : Cond.instanceMethod yX12_distance ∈ lw_ok := mkc8 1 (by decide +kernel) rfl
theorem qs_X12_distance : Cond.selects RX12 yX12_distance yX12_distance ∈ lw_ok := mkc8 2 (by decide +kernel) rfl
theorem qc_X12_distance : Cond.code yX12_distance cX12_distance 7 (some .long) ∈ lw_ok := mkc8 3 (by decide +kernel) rfl
theorem gv_L_131 : GoodIn lw_ok (wsV RL 131 RX12 yX12_distance [Cond.code yX12_distance cX12_distance 7 (some .long)]) := gV qm_L_131 qi_X12_distance qs_X12_distance qz_X12 qc_X12_distance
theorem hdV_X12_distance : yX12_distance.cls = RX12 ∧ yX12_distance.cls ≠ "java/lang/invoke/MethodHandle" ∧ yX12_distance.cls ≠ "java/lang/invoke/VarHandle" ∧ (parseMethodDescriptor yX12_distance.desc).map (fun d => d.parameters.length) = some 5 := by decide +kernel
theorem qm_L_132 : Cond.methodLink RL 132 yX11_starts ∈ lw_ok := mkc5 5 (by decide +kernel) rfl
theorem qi_X11_starts : Cond.instanceMethod yX11_starts ∈ lw_ok := mkc5 6 (by decide +kernel) rfl
theorem qs_X11_starts : Cond.selects RX11 yX11_starts yX11_starts ∈ lw_ok := mkc5 7 (by decide +kernel) rfl
theorem qc_X11_starts : Cond.code yX11_starts cX11_starts 2 (some .int) ∈ lw_ok := mkc5 8 (by decide +kernel) rfl
theorem gv_L_132 : GoodIn lw_ok (wsV RL 132 RX11 yX11_starts [Cond.code yX11_starts cX11_starts 2 (some .int)]) := gV qm_L_132 qi_X11_starts qs_X11_starts qz_X11 qc_X11_starts
theorem hdV_X11_starts : yX11_starts.cls = RX11 ∧ yX11_starts.cls ≠ "java/lang/invoke/MethodHandle" ∧ yX11_starts.cls ≠ "java/lang/invoke/VarHandle" ∧ (parseMethodDescriptor yX11_starts.desc).map (fun d => d.parameters.length) = some 1 := by decide +kernel
theorem qm_L_135 : Cond.methodLink RL 135 yX12_starts ∈ lw_ok := mkc8 4 (by decide +kernel) rfl
theorem qi_X12_starts : Cond.instanceMethod yX12_starts ∈ lw_ok := mkc8 5 (by decide +kernel) rfl
theorem qs_X12_starts : Cond.selects RX12 yX12_starts yX12_starts ∈ lw_ok := mkc8 6 (by decide +kernel) rfl
theorem qc_X12_starts : Cond.code yX12_starts cX12_starts 5 (some .int) ∈ lw_ok := mkc8 7 (by decide +kernel) rfl
theorem gv_L_135 : GoodIn lw_ok (wsV RL 135 RX12 yX12_starts [Cond.code yX12_starts cX12_starts 5 (some .int)]) := gV qm_L_135 qi_X12_starts qs_X12_starts qz_X12 qc_X12_starts
theorem hdV_X12_starts : yX12_starts.cls = RX12 ∧ yX12_starts.cls ≠ "java/lang/invoke/MethodHandle" ∧ yX12_starts.cls ≠ "java/lang/invoke/VarHandle" ∧ (parseMethodDescriptor yX12_starts.desc).map (fun d => d.parameters.length) = some 1 := by decide +kernel
theorem qm_L_136 : Cond.methodLink RL 136 yX11_meet ∈ lw_ok := mkc5 18 (by decide +kernel) rfl
theorem qi_X11_meet : Cond.instanceMethod yX11_meet ∈ lw_ok := mkc5 19 (by decide +kernel) rfl
theorem qs_X11_meet : Cond.selects RX11 yX11_meet yX11_meet ∈ lw_ok := mkc5 20 (by decide +kernel) rfl
theorem qc_X11_meet : Cond.code yX11_meet cX11_meet 3 (some .int) ∈ lw_ok := mkc5 21 (by decide +kernel) rfl
theorem gv_L_136 : GoodIn lw_ok (wsV RL 136 RX11 yX11_meet [Cond.code yX11_meet cX11_meet 3 (some .int)]) := gV qm_L_136 qi_X11_meet qs_X11_meet qz_X11 qc_X11_meet
theorem hdV_X11_meet : yX11_meet.cls = RX11 ∧ yX11_meet.cls ≠ "java/lang/invoke/MethodHandle" ∧ yX11_meet.cls ≠ "java/lang/invoke/VarHandle" ∧ (parseMethodDescriptor yX11_meet.desc).map (fun d => d.parameters.length) = some 2 := by decide +kernel
theorem qm_L_139 : Cond.methodLink RL 139 yX12_meet ∈ lw_ok := mkc8 8 (by decide +kernel) rfl
theorem qi_X12_meet : Cond.instanceMethod yX12_meet ∈ lw_ok := mkc8 9 (by decide +kernel) rfl
theorem qs_X12_meet : Cond.selects RX12 yX12_meet yX12_meet ∈ lw_ok := mkc8 10 (by decide +kernel) rfl
theorem qc_X12_meet : Cond.code yX12_meet cX12_meet 3 (some .int) ∈ lw_ok := mkc8 11 (by decide +kernel) rfl
theorem gv_L_139 : GoodIn lw_ok (wsV RL 139 RX12 yX12_meet [Cond.code yX12_meet cX12_meet 3 (some .int)]) := gV qm_L_139 qi_X12_meet qs_X12_meet qz_X12 qc_X12_meet
theorem hdV_X12_meet : yX12_meet.cls = RX12 ∧ yX12_meet.cls ≠ "java/lang/invoke/MethodHandle" ∧ yX12_meet.cls ≠ "java/lang/invoke/VarHandle" ∧ (parseMethodDescriptor yX12_meet.desc).map (fun d => d.parameters.length) = some 2 := by decide +kernel
theorem qm_L_140 : Cond.methodLink RL 140 yX11_meeting ∈ lw_ok := mkc5 45 (by decide +kernel) rfl
theorem qi_X11_meeting : Cond.instanceMethod yX11_meeting ∈ lw_ok := mkc5 46 (by decide +kernel) rfl
theorem qs_X11_meeting : Cond.selects RX11 yX11_meeting yX11_meeting ∈ lw_ok := mkc5 47 (by decide +kernel) rfl
theorem qc_X11_meeting : Cond.code yX11_meeting cX11_meeting 4 (some .long) ∈ lw_ok := mkc5 48 (by decide +kernel) rfl
theorem gv_L_140 : GoodIn lw_ok (wsV RL 140 RX11 yX11_meeting [Cond.code yX11_meeting cX11_meeting 4 (some .long)]) := gV qm_L_140 qi_X11_meeting qs_X11_meeting qz_X11 qc_X11_meeting
theorem hdV_X11_meeting : yX11_meeting.cls = RX11 ∧ yX11_meeting.cls ≠ "java/lang/invoke/MethodHandle" ∧ yX11_meeting.cls ≠ "java/lang/invoke/VarHandle" ∧ (parseMethodDescriptor yX11_meeting.desc).map (fun d => d.parameters.length) = some 3 := by decide +kernel
theorem qm_L_143 : Cond.methodLink RL 143 yX12_meeting ∈ lw_ok := mkc8 28 (by decide +kernel) rfl
theorem qi_X12_meeting : Cond.instanceMethod yX12_meeting ∈ lw_ok := mkc8 29 (by decide +kernel) rfl
theorem qs_X12_meeting : Cond.selects RX12 yX12_meeting yX12_meeting ∈ lw_ok := mkc8 30 (by decide +kernel) rfl
theorem qc_X12_meeting : Cond.code yX12_meeting cX12_meeting 4 (some .long) ∈ lw_ok := mkc8 31 (by decide +kernel) rfl
theorem gv_L_143 : GoodIn lw_ok (wsV RL 143 RX12 yX12_meeting [Cond.code yX12_meeting cX12_meeting 4 (some .long)]) := gV qm_L_143 qi_X12_meeting qs_X12_meeting qz_X12 qc_X12_meeting
theorem hdV_X12_meeting : yX12_meeting.cls = RX12 ∧ yX12_meeting.cls ≠ "java/lang/invoke/MethodHandle" ∧ yX12_meeting.cls ≠ "java/lang/invoke/VarHandle" ∧ (parseMethodDescriptor yX12_meeting.desc).map (fun d => d.parameters.length) = some 3 := by decide +kernel
theorem qm_L_144 : Cond.methodLink RL 144 yX11_apart ∈ lw_ok := mkc5 49 (by decide +kernel) rfl
theorem qi_X11_apart : Cond.instanceMethod yX11_apart ∈ lw_ok := mkc5 50 (by decide +kernel) rfl
theorem qs_X11_apart : Cond.selects RX11 yX11_apart yX11_apart ∈ lw_ok := mkc5 51 (by decide +kernel) rfl
theorem qc_X11_apart : Cond.code yX11_apart cX11_apart 4 (some .long) ∈ lw_ok := mkc5 52 (by decide +kernel) rfl
theorem gv_L_144 : GoodIn lw_ok (wsV RL 144 RX11 yX11_apart [Cond.code yX11_apart cX11_apart 4 (some .long)]) := gV qm_L_144 qi_X11_apart qs_X11_apart qz_X11 qc_X11_apart
theorem hdV_X11_apart : yX11_apart.cls = RX11 ∧ yX11_apart.cls ≠ "java/lang/invoke/MethodHandle" ∧ yX11_apart.cls ≠ "java/lang/invoke/VarHandle" ∧ (parseMethodDescriptor yX11_apart.desc).map (fun d => d.parameters.length) = some 3 := by decide +kernel
theorem qm_L_147 : Cond.methodLink RL 147 yX12_apart ∈ lw_ok := mkc8 32 (by decide +kernel) rfl
theorem qi_X12_apart : Cond.instanceMethod yX12_apart ∈ lw_ok := mkc8 33 (by decide +kernel) rfl
theorem qs_X12_apart : Cond.selects RX12 yX12_apart yX12_apart ∈ lw_ok := mkc8 34 (by decide +kernel) rfl
theorem qc_X12_apart : Cond.code yX12_apart cX12_apart 7 (some .long) ∈ lw_ok := mkc8 35 (by decide +kernel) rfl
theorem gv_L_147 : GoodIn lw_ok (wsV RL 147 RX12 yX12_apart [Cond.code yX12_apart cX12_apart 7 (some .long)]) := gV qm_L_147 qi_X12_apart qs_X12_apart qz_X12 qc_X12_apart
theorem hdV_X12_apart : yX12_apart.cls = RX12 ∧ yX12_apart.cls ≠ "java/lang/invoke/MethodHandle" ∧ yX12_apart.cls ≠ "java/lang/invoke/VarHandle" ∧ (parseMethodDescriptor yX12_apart.desc).map (fun d => d.parameters.length) = some 3 := by decide +kernel
theorem qm_L_148 : Cond.methodLink RL 148 yX11_partings ∈ lw_ok := mkc5 65 (by decide +kernel) rfl
theorem qi_X11_partings : Cond.instanceMethod yX11_partings ∈ lw_ok := mkc5 66 (by decide +kernel) rfl
theorem qs_X11_partings : Cond.selects RX11 yX11_partings yX11_partings ∈ lw_ok := mkc5 67 (by decide +kernel) rfl
theorem qc_X11_partings : Cond.code yX11_partings cX11_partings 4 (some .int) ∈ lw_ok := mkc5 68 (by decide +kernel) rfl
theorem gv_L_148 : GoodIn lw_ok (wsV RL 148 RX11 yX11_partings [Cond.code yX11_partings cX11_partings 4 (some .int)]) := gV qm_L_148 qi_X11_partings qs_X11_partings qz_X11 qc_X11_partings
theorem hdV_X11_partings : yX11_partings.cls = RX11 ∧ yX11_partings.cls ≠ "java/lang/invoke/MethodHandle" ∧ yX11_partings.cls ≠ "java/lang/invoke/VarHandle" ∧ (parseMethodDescriptor yX11_partings.desc).map (fun d => d.parameters.length) = some 3 := by decide +kernel
theorem qm_L_151 : Cond.methodLink RL 151 yX12_partings ∈ lw_ok := mkc8 44 (by decide +kernel) rfl
theorem qi_X12_partings : Cond.instanceMethod yX12_partings ∈ lw_ok := mkc8 45 (by decide +kernel) rfl
theorem qs_X12_partings : Cond.selects RX12 yX12_partings yX12_partings ∈ lw_ok := mkc8 46 (by decide +kernel) rfl
theorem qc_X12_partings : Cond.code yX12_partings cX12_partings 5 (some .int) ∈ lw_ok := mkc8 47 (by decide +kernel) rfl
theorem gv_L_151 : GoodIn lw_ok (wsV RL 151 RX12 yX12_partings [Cond.code yX12_partings cX12_partings 5 (some .int)]) := gV qm_L_151 qi_X12_partings qs_X12_partings qz_X12 qc_X12_partings
theorem hdV_X12_partings : yX12_partings.cls = RX12 ∧ yX12_partings.cls ≠ "java/lang/invoke/MethodHandle" ∧ yX12_partings.cls ≠ "java/lang/invoke/VarHandle" ∧ (parseMethodDescriptor yX12_partings.desc).map (fun d => d.parameters.length) = some 3 := by decide +kernel
theorem qm_L_152 : Cond.methodLink RL 152 yX11_part ∈ lw_ok := mkc5 111 (by decide +kernel) rfl
theorem qi_X11_part : Cond.instanceMethod yX11_part ∈ lw_ok := mkc5 112 (by decide +kernel) rfl
theorem qs_X11_part : Cond.selects RX11 yX11_part yX11_part ∈ lw_ok := mkc5 113 (by decide +kernel) rfl
theorem qc_X11_part : Cond.code yX11_part cX11_part 5 (some .int) ∈ lw_ok := mkc5 114 (by decide +kernel) rfl
theorem gv_L_152 : GoodIn lw_ok (wsV RL 152 RX11 yX11_part [Cond.code yX11_part cX11_part 5 (some .int)]) := gV qm_L_152 qi_X11_part qs_X11_part qz_X11 qc_X11_part
theorem hdV_X11_part : yX11_part.cls = RX11 ∧ yX11_part.cls ≠ "java/lang/invoke/MethodHandle" ∧ yX11_part.cls ≠ "java/lang/invoke/VarHandle" ∧ (parseMethodDescriptor yX11_part.desc).map (fun d => d.parameters.length) = some 4 := by decide +kernel
theorem qm_L_155 : Cond.methodLink RL 155 yX12_part ∈ lw_ok := mkc8 64 (by decide +kernel) rfl
theorem qi_X12_part : Cond.instanceMethod yX12_part ∈ lw_ok := mkc8 65 (by decide +kernel) rfl
theorem qs_X12_part : Cond.selects RX12 yX12_part yX12_part ∈ lw_ok := mkc8 66 (by decide +kernel) rfl
theorem qc_X12_part : Cond.code yX12_part cX12_part 5 (some .int) ∈ lw_ok := mkc8 67 (by decide +kernel) rfl
theorem gv_L_155 : GoodIn lw_ok (wsV RL 155 RX12 yX12_part [Cond.code yX12_part cX12_part 5 (some .int)]) := gV qm_L_155 qi_X12_part qs_X12_part qz_X12 qc_X12_part
theorem hdV_X12_part : yX12_part.cls = RX12 ∧ yX12_part.cls ≠ "java/lang/invoke/MethodHandle" ∧ yX12_part.cls ≠ "java/lang/invoke/VarHandle" ∧ (parseMethodDescriptor yX12_part.desc).map (fun d => d.parameters.length) = some 4 := by decide +kernel
theorem qm_L_156 : Cond.methodLink RL 156 yX11_met ∈ lw_ok := mkc5 120 (by decide +kernel) rfl
theorem qi_X11_met : Cond.instanceMethod yX11_met ∈ lw_ok := mkc5 121 (by decide +kernel) rfl
theorem qs_X11_met : Cond.selects RX11 yX11_met yX11_met ∈ lw_ok := mkc5 122 (by decide +kernel) rfl
theorem qc_X11_met : Cond.code yX11_met cX11_met 5 (some .long) ∈ lw_ok := mkc5 123 (by decide +kernel) rfl
theorem gv_L_156 : GoodIn lw_ok (wsV RL 156 RX11 yX11_met [Cond.code yX11_met cX11_met 5 (some .long)]) := gV qm_L_156 qi_X11_met qs_X11_met qz_X11 qc_X11_met
theorem hdV_X11_met : yX11_met.cls = RX11 ∧ yX11_met.cls ≠ "java/lang/invoke/MethodHandle" ∧ yX11_met.cls ≠ "java/lang/invoke/VarHandle" ∧ (parseMethodDescriptor yX11_met.desc).map (fun d => d.parameters.length) = some 4 := by decide +kernel
theorem qm_L_159 : Cond.methodLink RL 159 yX12_met ∈ lw_ok := mkc8 68 (by decide +kernel) rfl
theorem qi_X12_met : Cond.instanceMethod yX12_met ∈ lw_ok := mkc8 69 (by decide +kernel) rfl
theorem qs_X12_met : Cond.selects RX12 yX12_met yX12_met ∈ lw_ok := mkc8 70 (by decide +kernel) rfl
theorem qc_X12_met : Cond.code yX12_met cX12_met 5 (some .long) ∈ lw_ok := mkc8 71 (by decide +kernel) rfl
theorem gv_L_159 : GoodIn lw_ok (wsV RL 159 RX12 yX12_met [Cond.code yX12_met cX12_met 5 (some .long)]) := gV qm_L_159 qi_X12_met qs_X12_met qz_X12 qc_X12_met
theorem hdV_X12_met : yX12_met.cls = RX12 ∧ yX12_met.cls ≠ "java/lang/invoke/MethodHandle" ∧ yX12_met.cls ≠ "java/lang/invoke/VarHandle" ∧ (parseMethodDescriptor yX12_met.desc).map (fun d => d.parameters.length) = some 4 := by decide +kernel
theorem qm_L_160 : Cond.methodLink RL 160 yX11_depth ∈ lw_ok := mkc5 124 (by decide +kernel) rfl
theorem qi_X11_depth : Cond.instanceMethod yX11_depth ∈ lw_ok := mkc5 125 (by decide +kernel) rfl
theorem qs_X11_depth : Cond.selects RX11 yX11_depth yX11_depth ∈ lw_ok := mkc5 126 (by decide +kernel) rfl
theorem qc_X11_depth : Cond.code yX11_depth cX11_depth 3 (some .int) ∈ lw_ok := mkc5 127 (by decide +kernel) rfl
theorem gv_L_160 : GoodIn lw_ok (wsV RL 160 RX11 yX11_depth [Cond.code yX11_depth cX11_depth 3 (some .int)]) := gV qm_L_160 qi_X11_depth qs_X11_depth qz_X11 qc_X11_depth
theorem hdV_X11_depth : yX11_depth.cls = RX11 ∧ yX11_depth.cls ≠ "java/lang/invoke/MethodHandle" ∧ yX11_depth.cls ≠ "java/lang/invoke/VarHandle" ∧ (parseMethodDescriptor yX11_depth.desc).map (fun d => d.parameters.length) = some 2 := by decide +kernel
theorem qm_L_163 : Cond.methodLink RL 163 yX12_depth ∈ lw_ok := mkc8 72 (by decide +kernel) rfl
theorem qi_X12_depth : Cond.instanceMethod yX12_depth ∈ lw_ok := mkc8 73 (by decide +kernel) rfl
theorem qs_X12_depth : Cond.selects RX12 yX12_depth yX12_depth ∈ lw_ok := mkc8 74 (by decide +kernel) rfl
theorem qc_X12_depth : Cond.code yX12_depth cX12_depth 3 (some .int) ∈ lw_ok := mkc8 75 (by decide +kernel) rfl
theorem gv_L_163 : GoodIn lw_ok (wsV RL 163 RX12 yX12_depth [Cond.code yX12_depth cX12_depth 3 (some .int)]) := gV qm_L_163 qi_X12_depth qs_X12_depth qz_X12 qc_X12_depth
theorem hdV_X12_depth : yX12_depth.cls = RX12 ∧ yX12_depth.cls ≠ "java/lang/invoke/MethodHandle" ∧ yX12_depth.cls ≠ "java/lang/invoke/VarHandle" ∧ (parseMethodDescriptor yX12_depth.desc).map (fun d => d.parameters.length) = some 2 := by decide +kernel
theorem qm_L_164 : Cond.methodLink RL 164 yX11_triangles ∈ lw_ok := mkc5 139 (by decide +kernel) rfl
theorem qi_X11_triangles : Cond.instanceMethod yX11_triangles ∈ lw_ok := mkc5 140 (by decide +kernel) rfl
theorem qs_X11_triangles : Cond.selects RX11 yX11_triangles yX11_triangles ∈ lw_ok := mkc5 141 (by decide +kernel) rfl
theorem qc_X11_triangles : Cond.code yX11_triangles cX11_triangles 4 (some .int) ∈ lw_ok := mkc5 142 (by decide +kernel) rfl
theorem gv_L_164 : GoodIn lw_ok (wsV RL 164 RX11 yX11_triangles [Cond.code yX11_triangles cX11_triangles 4 (some .int)]) := gV qm_L_164 qi_X11_triangles qs_X11_triangles qz_X11 qc_X11_triangles
theorem hdV_X11_triangles : yX11_triangles.cls = RX11 ∧ yX11_triangles.cls ≠ "java/lang/invoke/MethodHandle" ∧ yX11_triangles.cls ≠ "java/lang/invoke/VarHandle" ∧ (parseMethodDescriptor yX11_triangles.desc).map (fun d => d.parameters.length) = some 3 := by decide +kernel
theorem qm_L_167 : Cond.methodLink RL 167 yX12_triangles ∈ lw_ok := mkc8 84 (by decide +kernel) rfl
theorem qi_X12_triangles : Cond.instanceMethod yX12_triangles ∈ lw_ok := mkc8 85 (by decide +kernel) rfl
theorem qs_X12_triangles : Cond.selects RX12 yX12_triangles yX12_triangles ∈ lw_ok := mkc8 86 (by decide +kernel) rfl
theorem qc_X12_triangles : Cond.code yX12_triangles cX12_triangles 8 (some .int) ∈ lw_ok := mkc8 87 (by decide +kernel) rfl
theorem gv_L_167 : GoodIn lw_ok (wsV RL 167 RX12 yX12_triangles [Cond.code yX12_triangles cX12_triangles 8 (some .int)]) := gV qm_L_167 qi_X12_triangles qs_X12_triangles qz_X12 qc_X12_triangles
theorem hdV_X12_triangles : yX12_triangles.cls = RX12 ∧ yX12_triangles.cls ≠ "java/lang/invoke/MethodHandle" ∧ yX12_triangles.cls ≠ "java/lang/invoke/VarHandle" ∧ (parseMethodDescriptor yX12_triangles.desc).map (fun d => d.parameters.length) = some 3 := by decide +kernel
theorem qm_L_168 : Cond.methodLink RL 168 yX11_deepest ∈ lw_ok := mkc5 147 (by decide +kernel) rfl
theorem qi_X11_deepest : Cond.instanceMethod yX11_deepest ∈ lw_ok := mkc5 148 (by decide +kernel) rfl
theorem qs_X11_deepest : Cond.selects RX11 yX11_deepest yX11_deepest ∈ lw_ok := mkc5 149 (by decide +kernel) rfl
theorem qc_X11_deepest : Cond.code yX11_deepest cX11_deepest 2 (some .long) ∈ lw_ok := mkc5 150 (by decide +kernel) rfl
theorem gv_L_168 : GoodIn lw_ok (wsV RL 168 RX11 yX11_deepest [Cond.code yX11_deepest cX11_deepest 2 (some .long)]) := gV qm_L_168 qi_X11_deepest qs_X11_deepest qz_X11 qc_X11_deepest
theorem hdV_X11_deepest : yX11_deepest.cls = RX11 ∧ yX11_deepest.cls ≠ "java/lang/invoke/MethodHandle" ∧ yX11_deepest.cls ≠ "java/lang/invoke/VarHandle" ∧ (parseMethodDescriptor yX11_deepest.desc).map (fun d => d.parameters.length) = some 1 := by decide +kernel
theorem qm_L_171 : Cond.methodLink RL 171 yX12_deepest ∈ lw_ok := mkc8 88 (by decide +kernel) rfl
theorem qi_X12_deepest : Cond.instanceMethod yX12_deepest ∈ lw_ok := mkc8 89 (by decide +kernel) rfl
theorem qs_X12_deepest : Cond.selects RX12 yX12_deepest yX12_deepest ∈ lw_ok := mkc8 90 (by decide +kernel) rfl
theorem qc_X12_deepest : Cond.code yX12_deepest cX12_deepest 8 (some .long) ∈ lw_ok := mkc8 91 (by decide +kernel) rfl
theorem gv_L_171 : GoodIn lw_ok (wsV RL 171 RX12 yX12_deepest [Cond.code yX12_deepest cX12_deepest 8 (some .long)]) := gV qm_L_171 qi_X12_deepest qs_X12_deepest qz_X12 qc_X12_deepest
theorem hdV_X12_deepest : yX12_deepest.cls = RX12 ∧ yX12_deepest.cls ≠ "java/lang/invoke/MethodHandle" ∧ yX12_deepest.cls ≠ "java/lang/invoke/VarHandle" ∧ (parseMethodDescriptor yX12_deepest.desc).map (fun d => d.parameters.length) = some 1 := by decide +kernel
theorem qm_L_172 : Cond.methodLink RL 172 yX11_frees ∈ lw_ok := mkc5 163 (by decide +kernel) rfl
theorem qi_X11_frees : Cond.instanceMethod yX11_frees ∈ lw_ok := mkc5 164 (by decide +kernel) rfl
theorem qs_X11_frees : Cond.selects RX11 yX11_frees yX11_frees ∈ lw_ok := mkc5 165 (by decide +kernel) rfl
theorem qc_X11_frees : Cond.code yX11_frees cX11_frees 2 (some .int) ∈ lw_ok := mkc5 166 (by decide +kernel) rfl
theorem gv_L_172 : GoodIn lw_ok (wsV RL 172 RX11 yX11_frees [Cond.code yX11_frees cX11_frees 2 (some .int)]) := gV qm_L_172 qi_X11_frees qs_X11_frees qz_X11 qc_X11_frees
theorem hdV_X11_frees : yX11_frees.cls = RX11 ∧ yX11_frees.cls ≠ "java/lang/invoke/MethodHandle" ∧ yX11_frees.cls ≠ "java/lang/invoke/VarHandle" ∧ (parseMethodDescriptor yX11_frees.desc).map (fun d => d.parameters.length) = some 1 := by decide +kernel
theorem qm_L_175 : Cond.methodLink RL 175 yX12_frees ∈ lw_ok := mkc8 92 (by decide +kernel) rfl
theorem qi_X12_frees : Cond.instanceMethod yX12_frees ∈ lw_ok := mkc8 93 (by decide +kernel) rfl
theorem qs_X12_frees : Cond.selects RX12 yX12_frees yX12_frees ∈ lw_ok := mkc8 94 (by decide +kernel) rfl
theorem qc_X12_frees : Cond.code yX12_frees cX12_frees 3 (some .int) ∈ lw_ok := mkc8 95 (by decide +kernel) rfl
theorem gv_L_175 : GoodIn lw_ok (wsV RL 175 RX12 yX12_frees [Cond.code yX12_frees cX12_frees 3 (some .int)]) := gV qm_L_175 qi_X12_frees qs_X12_frees qz_X12 qc_X12_frees
theorem hdV_X12_frees : yX12_frees.cls = RX12 ∧ yX12_frees.cls ≠ "java/lang/invoke/MethodHandle" ∧ yX12_frees.cls ≠ "java/lang/invoke/VarHandle" ∧ (parseMethodDescriptor yX12_frees.desc).map (fun d => d.parameters.length) = some 1 := by decide +kernel
theorem qm_L_176 : Cond.methodLink RL 176 yX11_adds ∈ lw_ok := mkc5 176 (by decide +kernel) rfl
theorem qi_X11_adds : Cond.instanceMethod yX11_adds ∈ lw_ok := mkc5 177 (by decide +kernel) rfl
theorem qs_X11_adds : Cond.selects RX11 yX11_adds yX11_adds ∈ lw_ok := mkc5 178 (by decide +kernel) rfl
theorem qc_X11_adds : Cond.code yX11_adds cX11_adds 4 (some .int) ∈ lw_ok := mkc5 179 (by decide +kernel) rfl
theorem gv_L_176 : GoodIn lw_ok (wsV RL 176 RX11 yX11_adds [Cond.code yX11_adds cX11_adds 4 (some .int)]) := gV qm_L_176 qi_X11_adds qs_X11_adds qz_X11 qc_X11_adds
theorem hdV_X11_adds : yX11_adds.cls = RX11 ∧ yX11_adds.cls ≠ "java/lang/invoke/MethodHandle" ∧ yX11_adds.cls ≠ "java/lang/invoke/VarHandle" ∧ (parseMethodDescriptor yX11_adds.desc).map (fun d => d.parameters.length) = some 3 := by decide +kernel
theorem qm_L_179 : Cond.methodLink RL 179 yX12_adds ∈ lw_ok := mkc8 96 (by decide +kernel) rfl
theorem qi_X12_adds : Cond.instanceMethod yX12_adds ∈ lw_ok := mkc8 97 (by decide +kernel) rfl
theorem qs_X12_adds : Cond.selects RX12 yX12_adds yX12_adds ∈ lw_ok := mkc8 98 (by decide +kernel) rfl
theorem qc_X12_adds : Cond.code yX12_adds cX12_adds 4 (some .int) ∈ lw_ok := mkc8 99 (by decide +kernel) rfl
theorem gv_L_179 : GoodIn lw_ok (wsV RL 179 RX12 yX12_adds [Cond.code yX12_adds cX12_adds 4 (some .int)]) := gV qm_L_179 qi_X12_adds qs_X12_adds qz_X12 qc_X12_adds
theorem hdV_X12_adds : yX12_adds.cls = RX12 ∧ yX12_adds.cls ≠ "java/lang/invoke/MethodHandle" ∧ yX12_adds.cls ≠ "java/lang/invoke/VarHandle" ∧ (parseMethodDescriptor yX12_adds.desc).map (fun d => d.parameters.length) = some 3 := by decide +kernel
theorem qm_L_180 : Cond.methodLink RL 180 yX11_removes ∈ lw_ok := mkc5 181 (by decide +kernel) rfl
theorem qi_X11_removes : Cond.instanceMethod yX11_removes ∈ lw_ok := mkc5 182 (by decide +kernel) rfl
theorem qs_X11_removes : Cond.selects RX11 yX11_removes yX11_removes ∈ lw_ok := mkc5 183 (by decide +kernel) rfl
theorem qc_X11_removes : Cond.code yX11_removes cX11_removes 2 (some .int) ∈ lw_ok := mkc5 184 (by decide +kernel) rfl
theorem gv_L_180 : GoodIn lw_ok (wsV RL 180 RX11 yX11_removes [Cond.code yX11_removes cX11_removes 2 (some .int)]) := gV qm_L_180 qi_X11_removes qs_X11_removes qz_X11 qc_X11_removes
theorem hdV_X11_removes : yX11_removes.cls = RX11 ∧ yX11_removes.cls ≠ "java/lang/invoke/MethodHandle" ∧ yX11_removes.cls ≠ "java/lang/invoke/VarHandle" ∧ (parseMethodDescriptor yX11_removes.desc).map (fun d => d.parameters.length) = some 1 := by decide +kernel
theorem qm_L_183 : Cond.methodLink RL 183 yX12_removes ∈ lw_ok := mkc8 100 (by decide +kernel) rfl
theorem qi_X12_removes : Cond.instanceMethod yX12_removes ∈ lw_ok := mkc8 101 (by decide +kernel) rfl
theorem qs_X12_removes : Cond.selects RX12 yX12_removes yX12_removes ∈ lw_ok := mkc8 102 (by decide +kernel) rfl
theorem qc_X12_removes : Cond.code yX12_removes cX12_removes 3 (some .int) ∈ lw_ok := mkc8 103 (by decide +kernel) rfl
theorem gv_L_183 : GoodIn lw_ok (wsV RL 183 RX12 yX12_removes [Cond.code yX12_removes cX12_removes 3 (some .int)]) := gV qm_L_183 qi_X12_removes qs_X12_removes qz_X12 qc_X12_removes
theorem hdV_X12_removes : yX12_removes.cls = RX12 ∧ yX12_removes.cls ≠ "java/lang/invoke/MethodHandle" ∧ yX12_removes.cls ≠ "java/lang/invoke/VarHandle" ∧ (parseMethodDescriptor yX12_removes.desc).map (fun d => d.parameters.length) = some 1 := by decide +kernel
theorem qm_L_184 : Cond.methodLink RL 184 yX11_moves ∈ lw_ok := mkc5 189 (by decide +kernel) rfl
theorem qi_X11_moves : Cond.instanceMethod yX11_moves ∈ lw_ok := mkc5 190 (by decide +kernel) rfl
theorem qs_X11_moves : Cond.selects RX11 yX11_moves yX11_moves ∈ lw_ok := mkc5 191 (by decide +kernel) rfl
theorem qc_X11_moves : Cond.code yX11_moves cX11_moves 5 (some .int) ∈ lw_ok := mkc5 192 (by decide +kernel) rfl
theorem gv_L_184 : GoodIn lw_ok (wsV RL 184 RX11 yX11_moves [Cond.code yX11_moves cX11_moves 5 (some .int)]) := gV qm_L_184 qi_X11_moves qs_X11_moves qz_X11 qc_X11_moves
theorem hdV_X11_moves : yX11_moves.cls = RX11 ∧ yX11_moves.cls ≠ "java/lang/invoke/MethodHandle" ∧ yX11_moves.cls ≠ "java/lang/invoke/VarHandle" ∧ (parseMethodDescriptor yX11_moves.desc).map (fun d => d.parameters.length) = some 3 := by decide +kernel
theorem qm_L_187 : Cond.methodLink RL 187 yX12_moves ∈ lw_ok := mkc8 104 (by decide +kernel) rfl
theorem qi_X12_moves : Cond.instanceMethod yX12_moves ∈ lw_ok := mkc8 105 (by decide +kernel) rfl
theorem qs_X12_moves : Cond.selects RX12 yX12_moves yX12_moves ∈ lw_ok := mkc8 106 (by decide +kernel) rfl
theorem qc_X12_moves : Cond.code yX12_moves cX12_moves 5 (some .int) ∈ lw_ok := mkc8 107 (by decide +kernel) rfl
theorem gv_L_187 : GoodIn lw_ok (wsV RL 187 RX12 yX12_moves [Cond.code yX12_moves cX12_moves 5 (some .int)]) := gV qm_L_187 qi_X12_moves qs_X12_moves qz_X12 qc_X12_moves
theorem hdV_X12_moves : yX12_moves.cls = RX12 ∧ yX12_moves.cls ≠ "java/lang/invoke/MethodHandle" ∧ yX12_moves.cls ≠ "java/lang/invoke/VarHandle" ∧ (parseMethodDescriptor yX12_moves.desc).map (fun d => d.parameters.length) = some 3 := by decide +kernel
theorem qm_L_188 : Cond.methodLink RL 188 yX11_paints ∈ lw_ok := mkc5 194 (by decide +kernel) rfl
theorem qi_X11_paints : Cond.instanceMethod yX11_paints ∈ lw_ok := mkc5 195 (by decide +kernel) rfl
theorem qs_X11_paints : Cond.selects RX11 yX11_paints yX11_paints ∈ lw_ok := mkc5 196 (by decide +kernel) rfl
theorem qc_X11_paints : Cond.code yX11_paints cX11_paints 4 (some .int) ∈ lw_ok := mkc5 197 (by decide +kernel) rfl
theorem gv_L_188 : GoodIn lw_ok (wsV RL 188 RX11 yX11_paints [Cond.code yX11_paints cX11_paints 4 (some .int)]) := gV qm_L_188 qi_X11_paints qs_X11_paints qz_X11 qc_X11_paints
theorem hdV_X11_paints : yX11_paints.cls = RX11 ∧ yX11_paints.cls ≠ "java/lang/invoke/MethodHandle" ∧ yX11_paints.cls ≠ "java/lang/invoke/VarHandle" ∧ (parseMethodDescriptor yX11_paints.desc).map (fun d => d.parameters.length) = some 2 := by decide +kernel
theorem qm_L_191 : Cond.methodLink RL 191 yX12_paints ∈ lw_ok := mkc8 108 (by decide +kernel) rfl
theorem qi_X12_paints : Cond.instanceMethod yX12_paints ∈ lw_ok := mkc8 109 (by decide +kernel) rfl
theorem qs_X12_paints : Cond.selects RX12 yX12_paints yX12_paints ∈ lw_ok := mkc8 110 (by decide +kernel) rfl
theorem qc_X12_paints : Cond.code yX12_paints cX12_paints 4 (some .int) ∈ lw_ok := mkc8 111 (by decide +kernel) rfl
theorem gv_L_191 : GoodIn lw_ok (wsV RL 191 RX12 yX12_paints [Cond.code yX12_paints cX12_paints 4 (some .int)]) := gV qm_L_191 qi_X12_paints qs_X12_paints qz_X12 qc_X12_paints
theorem hdV_X12_paints : yX12_paints.cls = RX12 ∧ yX12_paints.cls ≠ "java/lang/invoke/MethodHandle" ∧ yX12_paints.cls ≠ "java/lang/invoke/VarHandle" ∧ (parseMethodDescriptor yX12_paints.desc).map (fun d => d.parameters.length) = some 2 := by decide +kernel
theorem qm_L_192 : Cond.methodLink RL 192 yX11_loads ∈ lw_ok := mkc5 198 (by decide +kernel) rfl
theorem qi_X11_loads : Cond.instanceMethod yX11_loads ∈ lw_ok := mkc5 199 (by decide +kernel) rfl
theorem qs_X11_loads : Cond.selects RX11 yX11_loads yX11_loads ∈ lw_ok := mkc5 200 (by decide +kernel) rfl
theorem qc_X11_loads : Cond.code yX11_loads cX11_loads 4 (some .int) ∈ lw_ok := mkc5 201 (by decide +kernel) rfl
theorem gv_L_192 : GoodIn lw_ok (wsV RL 192 RX11 yX11_loads [Cond.code yX11_loads cX11_loads 4 (some .int)]) := gV qm_L_192 qi_X11_loads qs_X11_loads qz_X11 qc_X11_loads
theorem hdV_X11_loads : yX11_loads.cls = RX11 ∧ yX11_loads.cls ≠ "java/lang/invoke/MethodHandle" ∧ yX11_loads.cls ≠ "java/lang/invoke/VarHandle" ∧ (parseMethodDescriptor yX11_loads.desc).map (fun d => d.parameters.length) = some 2 := by decide +kernel
theorem qm_L_195 : Cond.methodLink RL 195 yX12_loads ∈ lw_ok := mkc8 112 (by decide +kernel) rfl
theorem qi_X12_loads : Cond.instanceMethod yX12_loads ∈ lw_ok := mkc8 113 (by decide +kernel) rfl
theorem qs_X12_loads : Cond.selects RX12 yX12_loads yX12_loads ∈ lw_ok := mkc8 114 (by decide +kernel) rfl
theorem qc_X12_loads : Cond.code yX12_loads cX12_loads 4 (some .int) ∈ lw_ok := mkc8 115 (by decide +kernel) rfl
theorem gv_L_195 : GoodIn lw_ok (wsV RL 195 RX12 yX12_loads [Cond.code yX12_loads cX12_loads 4 (some .int)]) := gV qm_L_195 qi_X12_loads qs_X12_loads qz_X12 qc_X12_loads
theorem hdV_X12_loads : yX12_loads.cls = RX12 ∧ yX12_loads.cls ≠ "java/lang/invoke/MethodHandle" ∧ yX12_loads.cls ≠ "java/lang/invoke/VarHandle" ∧ (parseMethodDescriptor yX12_loads.desc).map (fun d => d.parameters.length) = some 2 := by decide +kernel
theorem qm_L_196 : Cond.methodLink RL 196 yX11_centres ∈ lw_ok := mkc5 202 (by decide +kernel) rfl
theorem qi_X11_centres : Cond.instanceMethod yX11_centres ∈ lw_ok := mkc5 203 (by decide +kernel) rfl
theorem qs_X11_centres : Cond.selects RX11 yX11_centres yX11_centres ∈ lw_ok := mkc5 204 (by decide +kernel) rfl
theorem qc_X11_centres : Cond.code yX11_centres cX11_centres 4 (some .int) ∈ lw_ok := mkc5 205 (by decide +kernel) rfl
theorem gv_L_196 : GoodIn lw_ok (wsV RL 196 RX11 yX11_centres [Cond.code yX11_centres cX11_centres 4 (some .int)]) := gV qm_L_196 qi_X11_centres qs_X11_centres qz_X11 qc_X11_centres
theorem hdV_X11_centres : yX11_centres.cls = RX11 ∧ yX11_centres.cls ≠ "java/lang/invoke/MethodHandle" ∧ yX11_centres.cls ≠ "java/lang/invoke/VarHandle" ∧ (parseMethodDescriptor yX11_centres.desc).map (fun d => d.parameters.length) = some 2 := by decide +kernel
theorem qm_L_199 : Cond.methodLink RL 199 yX12_centres ∈ lw_ok := mkc8 117 (by decide +kernel) rfl
theorem qi_X12_centres : Cond.instanceMethod yX12_centres ∈ lw_ok := mkc8 118 (by decide +kernel) rfl
theorem qs_X12_centres : Cond.selects RX12 yX12_centres yX12_centres ∈ lw_ok := mkc8 119 (by decide +kernel) rfl
theorem qc_X12_centres : Cond.code yX12_centres cX12_centres 4 (some .int) ∈ lw_ok := mkc8 120 (by decide +kernel) rfl
theorem gv_L_199 : GoodIn lw_ok (wsV RL 199 RX12 yX12_centres [Cond.code yX12_centres cX12_centres 4 (some .int)]) := gV qm_L_199 qi_X12_centres qs_X12_centres qz_X12 qc_X12_centres
theorem hdV_X12_centres : yX12_centres.cls = RX12 ∧ yX12_centres.cls ≠ "java/lang/invoke/MethodHandle" ∧ yX12_centres.cls ≠ "java/lang/invoke/VarHandle" ∧ (parseMethodDescriptor yX12_centres.desc).map (fun d => d.parameters.length) = some 2 := by decide +kernel
theorem dL_law_0 : decode cL_law 0 = .ok (.new 7, 3) := by decide +kernel
theorem dL_law_3 : decode cL_law 3 = .ok (.dup, 1) := by decide +kernel
theorem dL_law_4 : decode cL_law 4 = .ok (.invokespecial 9, 3) := by decide +kernel
theorem dL_law_7 : decode cL_law 7 = .ok (.astore_n 1, 1) := by decide +kernel
theorem dL_law_8 : decode cL_law 8 = .ok (.new 10, 3) := by decide +kernel
theorem dL_law_11 : decode cL_law 11 = .ok (.dup, 1) := by decide +kernel
theorem dL_law_12 : decode cL_law 12 = .ok (.invokespecial 12, 3) := by decide +kernel
theorem dL_law_15 : decode cL_law 15 = .ok (.astore_n 2, 1) := by decide +kernel
theorem dL_law_16 : decode cL_law 16 = .ok (.iconst 0, 1) := by decide +kernel
theorem dL_law_17 : decode cL_law 17 = .ok (.istore_n 3, 1) := by decide +kernel
theorem dL_law_18 : decode cL_law 18 = .ok (.iload_n 3, 1) := by decide +kernel
theorem dL_law_19 : decode cL_law 19 = .ok (.aload_n 0, 1) := by decide +kernel
theorem dL_law_20 : decode cL_law 20 = .ok (.arraylength, 1) := by decide +kernel
theorem dL_law_21 : decode cL_law 21 = .ok (.bipush 6, 2) := by decide +kernel
theorem dL_law_23 : decode cL_law 23 = .ok (.isub, 1) := by decide +kernel
theorem dL_law_24 : decode cL_law 24 = .ok (.if_icmp .gt 1722, 3) := by decide +kernel
theorem dL_law_27 : decode cL_law 27 = .ok (.aload_n 0, 1) := by decide +kernel
theorem dL_law_28 : decode cL_law 28 = .ok (.iload_n 3, 1) := by decide +kernel
theorem dL_law_29 : decode cL_law 29 = .ok (.iaload, 1) := by decide +kernel
theorem dL_law_30 : decode cL_law 30 = .ok (.bipush 63, 2) := by decide +kernel
theorem dL_law_32 : decode cL_law 32 = .ok (.iand, 1) := by decide +kernel
theorem dL_law_33 : decode cL_law 33 = .ok (.tableswitch 1707 0 43 #[191, 254, 277, 290, 313, 336, 370, 394, 417, 450, 473, 496, 539, 562, 596, 630, 664, 698, 722, 735, 779, 802, 815, 848, 902, 955, 1018, 1082, 1105, 1138, 1182, 1226, 1269, 1322, 1376, 1409, 1452, 1476, 1499, 1542, 1565, 1608, 1641, 1674], 191) := by decide +kernel
theorem dL_law_224 : decode cL_law 224 = .ok (.aload_n 1, 1) := by decide +kernel
theorem dL_law_225 : decode cL_law 225 = .ok (.aload_n 0, 1) := by decide +kernel
theorem dL_law_226 : decode cL_law 226 = .ok (.iload_n 3, 1) := by decide +kernel
theorem dL_law_227 : decode cL_law 227 = .ok (.iconst 1, 1) := by decide +kernel
theorem dL_law_228 : decode cL_law 228 = .ok (.iadd, 1) := by decide +kernel
theorem dL_law_229 : decode cL_law 229 = .ok (.iaload, 1) := by decide +kernel
theorem dL_law_230 : decode cL_law 230 = .ok (.aload_n 0, 1) := by decide +kernel
theorem dL_law_231 : decode cL_law 231 = .ok (.iload_n 3, 1) := by decide +kernel
theorem dL_law_232 : decode cL_law 232 = .ok (.iconst 2, 1) := by decide +kernel
theorem dL_law_233 : decode cL_law 233 = .ok (.iadd, 1) := by decide +kernel
theorem dL_law_234 : decode cL_law 234 = .ok (.iaload, 1) := by decide +kernel
theorem dL_law_235 : decode cL_law 235 = .ok (.aload_n 0, 1) := by decide +kernel
theorem dL_law_236 : decode cL_law 236 = .ok (.iload_n 3, 1) := by decide +kernel
theorem dL_law_237 : decode cL_law 237 = .ok (.iconst 3, 1) := by decide +kernel
theorem dL_law_238 : decode cL_law 238 = .ok (.iadd, 1) := by decide +kernel
theorem dL_law_239 : decode cL_law 239 = .ok (.iaload, 1) := by decide +kernel
theorem dL_law_240 : decode cL_law 240 = .ok (.aload_n 0, 1) := by decide +kernel
theorem dL_law_241 : decode cL_law 241 = .ok (.iload_n 3, 1) := by decide +kernel
theorem dL_law_242 : decode cL_law 242 = .ok (.iconst 4, 1) := by decide +kernel
theorem dL_law_243 : decode cL_law 243 = .ok (.iadd, 1) := by decide +kernel
theorem dL_law_244 : decode cL_law 244 = .ok (.iaload, 1) := by decide +kernel
theorem dL_law_245 : decode cL_law 245 = .ok (.aload_n 0, 1) := by decide +kernel
theorem dL_law_246 : decode cL_law 246 = .ok (.iload_n 3, 1) := by decide +kernel
theorem dL_law_247 : decode cL_law 247 = .ok (.iconst 5, 1) := by decide +kernel
theorem dL_law_248 : decode cL_law 248 = .ok (.iadd, 1) := by decide +kernel
theorem dL_law_249 : decode cL_law 249 = .ok (.iaload, 1) := by decide +kernel
theorem dL_law_250 : decode cL_law 250 = .ok (.invokevirtual 13, 3) := by decide +kernel
theorem dL_law_253 : decode cL_law 253 = .ok (.aload_n 2, 1) := by decide +kernel
theorem dL_law_254 : decode cL_law 254 = .ok (.aload_n 0, 1) := by decide +kernel
theorem dL_law_255 : decode cL_law 255 = .ok (.iload_n 3, 1) := by decide +kernel
theorem dL_law_256 : decode cL_law 256 = .ok (.iconst 1, 1) := by decide +kernel
theorem dL_law_257 : decode cL_law 257 = .ok (.iadd, 1) := by decide +kernel
theorem dL_law_258 : decode cL_law 258 = .ok (.iaload, 1) := by decide +kernel
theorem dL_law_259 : decode cL_law 259 = .ok (.aload_n 0, 1) := by decide +kernel
theorem dL_law_260 : decode cL_law 260 = .ok (.iload_n 3, 1) := by decide +kernel
theorem dL_law_261 : decode cL_law 261 = .ok (.iconst 2, 1) := by decide +kernel
theorem dL_law_262 : decode cL_law 262 = .ok (.iadd, 1) := by decide +kernel
theorem dL_law_263 : decode cL_law 263 = .ok (.iaload, 1) := by decide +kernel
theorem dL_law_264 : decode cL_law 264 = .ok (.aload_n 0, 1) := by decide +kernel
theorem dL_law_265 : decode cL_law 265 = .ok (.iload_n 3, 1) := by decide +kernel
theorem dL_law_266 : decode cL_law 266 = .ok (.iconst 3, 1) := by decide +kernel
theorem dL_law_267 : decode cL_law 267 = .ok (.iadd, 1) := by decide +kernel
theorem dL_law_268 : decode cL_law 268 = .ok (.iaload, 1) := by decide +kernel
theorem dL_law_269 : decode cL_law 269 = .ok (.aload_n 0, 1) := by decide +kernel
theorem dL_law_270 : decode cL_law 270 = .ok (.iload_n 3, 1) := by decide +kernel
theorem dL_law_271 : decode cL_law 271 = .ok (.iconst 4, 1) := by decide +kernel
theorem dL_law_272 : decode cL_law 272 = .ok (.iadd, 1) := by decide +kernel
theorem dL_law_273 : decode cL_law 273 = .ok (.iaload, 1) := by decide +kernel
theorem dL_law_274 : decode cL_law 274 = .ok (.aload_n 0, 1) := by decide +kernel
theorem dL_law_275 : decode cL_law 275 = .ok (.iload_n 3, 1) := by decide +kernel
theorem dL_law_276 : decode cL_law 276 = .ok (.iconst 5, 1) := by decide +kernel
theorem dL_law_277 : decode cL_law 277 = .ok (.iadd, 1) := by decide +kernel
theorem dL_law_278 : decode cL_law 278 = .ok (.iaload, 1) := by decide +kernel
theorem dL_law_279 : decode cL_law 279 = .ok (.invokevirtual 17, 3) := by decide +kernel
theorem dL_law_282 : decode cL_law 282 = .ok (.if_icmp .eq 1458, 3) := by decide +kernel
theorem dL_law_285 : decode cL_law 285 = .ok (.iconst 0, 1) := by decide +kernel
theorem dL_law_286 : decode cL_law 286 = .ok (.ireturn, 1) := by decide +kernel
theorem dL_law_287 : decode cL_law 287 = .ok (.aload_n 1, 1) := by decide +kernel
theorem dL_law_288 : decode cL_law 288 = .ok (.aload_n 0, 1) := by decide +kernel
theorem dL_law_289 : decode cL_law 289 = .ok (.iload_n 3, 1) := by decide +kernel
theorem dL_law_290 : decode cL_law 290 = .ok (.iconst 1, 1) := by decide +kernel
theorem dL_law_291 : decode cL_law 291 = .ok (.iadd, 1) := by decide +kernel
theorem dL_law_292 : decode cL_law 292 = .ok (.iaload, 1) := by decide +kernel
theorem dL_law_293 : decode cL_law 293 = .ok (.invokevirtual 18, 3) := by decide +kernel
theorem dL_law_296 : decode cL_law 296 = .ok (.aload_n 2, 1) := by decide +kernel
theorem dL_law_297 : decode cL_law 297 = .ok (.aload_n 0, 1) := by decide +kernel
theorem dL_law_298 : decode cL_law 298 = .ok (.iload_n 3, 1) := by decide +kernel
theorem dL_law_299 : decode cL_law 299 = .ok (.iconst 1, 1) := by decide +kernel
theorem dL_law_300 : decode cL_law 300 = .ok (.iadd, 1) := by decide +kernel
theorem dL_law_301 : decode cL_law 301 = .ok (.iaload, 1) := by decide +kernel
theorem dL_law_302 : decode cL_law 302 = .ok (.invokevirtual 22, 3) := by decide +kernel
theorem dL_law_305 : decode cL_law 305 = .ok (.if_icmp .eq 1435, 3) := by decide +kernel
theorem dL_law_308 : decode cL_law 308 = .ok (.iconst 0, 1) := by decide +kernel
theorem dL_law_309 : decode cL_law 309 = .ok (.ireturn, 1) := by decide +kernel
theorem dL_law_310 : decode cL_law 310 = .ok (.aload_n 1, 1) := by decide +kernel
theorem dL_law_311 : decode cL_law 311 = .ok (.invokevirtual 23, 3) := by decide +kernel
theorem dL_law_314 : decode cL_law 314 = .ok (.aload_n 2, 1) := by decide +kernel
theorem dL_law_315 : decode cL_law 315 = .ok (.invokevirtual 27, 3) := by decide +kernel
theorem dL_law_318 : decode cL_law 318 = .ok (.if_icmp .eq 1422, 3) := by decide +kernel
theorem dL_law_321 : decode cL_law 321 = .ok (.iconst 0, 1) := by decide +kernel
theorem dL_law_322 : decode cL_law 322 = .ok (.ireturn, 1) := by decide +kernel
theorem dL_law_323 : decode cL_law 323 = .ok (.aload_n 1, 1) := by decide +kernel
theorem dL_law_324 : decode cL_law 324 = .ok (.aload_n 0, 1) := by decide +kernel
theorem dL_law_325 : decode cL_law 325 = .ok (.iload_n 3, 1) := by decide +kernel
theorem dL_law_326 : decode cL_law 326 = .ok (.iconst 1, 1) := by decide +kernel
theorem dL_law_327 : decode cL_law 327 = .ok (.iadd, 1) := by decide +kernel
theorem dL_law_328 : decode cL_law 328 = .ok (.iaload, 1) := by decide +kernel
theorem dL_law_329 : decode cL_law 329 = .ok (.invokevirtual 28, 3) := by decide +kernel
theorem dL_law_332 : decode cL_law 332 = .ok (.aload_n 2, 1) := by decide +kernel
theorem dL_law_333 : decode cL_law 333 = .ok (.aload_n 0, 1) := by decide +kernel
theorem dL_law_334 : decode cL_law 334 = .ok (.iload_n 3, 1) := by decide +kernel
theorem dL_law_335 : decode cL_law 335 = .ok (.iconst 1, 1) := by decide +kernel
theorem dL_law_336 : decode cL_law 336 = .ok (.iadd, 1) := by decide +kernel
theorem dL_law_337 : decode cL_law 337 = .ok (.iaload, 1) := by decide +kernel
theorem dL_law_338 : decode cL_law 338 = .ok (.invokevirtual 31, 3) := by decide +kernel
theorem dL_law_341 : decode cL_law 341 = .ok (.if_icmp .eq 1399, 3) := by decide +kernel
theorem dL_law_344 : decode cL_law 344 = .ok (.iconst 0, 1) := by decide +kernel
theorem dL_law_345 : decode cL_law 345 = .ok (.ireturn, 1) := by decide +kernel
theorem dL_law_346 : decode cL_law 346 = .ok (.aload_n 1, 1) := by decide +kernel
theorem dL_law_347 : decode cL_law 347 = .ok (.aload_n 0, 1) := by decide +kernel
theorem dL_law_348 : decode cL_law 348 = .ok (.iload_n 3, 1) := by decide +kernel
theorem dL_law_349 : decode cL_law 349 = .ok (.iconst 1, 1) := by decide +kernel
theorem dL_law_350 : decode cL_law 350 = .ok (.iadd, 1) := by decide +kernel
theorem dL_law_351 : decode cL_law 351 = .ok (.iaload, 1) := by decide +kernel
theorem dL_law_352 : decode cL_law 352 = .ok (.invokevirtual 32, 3) := by decide +kernel
theorem dL_law_355 : decode cL_law 355 = .ok (.aload_n 2, 1) := by decide +kernel
theorem dL_law_356 : decode cL_law 356 = .ok (.aload_n 0, 1) := by decide +kernel
theorem dL_law_357 : decode cL_law 357 = .ok (.iload_n 3, 1) := by decide +kernel
theorem dL_law_358 : decode cL_law 358 = .ok (.iconst 1, 1) := by decide +kernel
theorem dL_law_359 : decode cL_law 359 = .ok (.iadd, 1) := by decide +kernel
theorem dL_law_360 : decode cL_law 360 = .ok (.iaload, 1) := by decide +kernel
theorem dL_law_361 : decode cL_law 361 = .ok (.invokevirtual 35, 3) := by decide +kernel
theorem dL_law_364 : decode cL_law 364 = .ok (.if_icmp .eq 1376, 3) := by decide +kernel
theorem dL_law_367 : decode cL_law 367 = .ok (.iconst 0, 1) := by decide +kernel
theorem dL_law_368 : decode cL_law 368 = .ok (.ireturn, 1) := by decide +kernel
theorem dL_law_369 : decode cL_law 369 = .ok (.aload_n 1, 1) := by decide +kernel
theorem dL_law_370 : decode cL_law 370 = .ok (.aload_n 0, 1) := by decide +kernel
theorem dL_law_371 : decode cL_law 371 = .ok (.iload_n 3, 1) := by decide +kernel
theorem dL_law_372 : decode cL_law 372 = .ok (.iconst 1, 1) := by decide +kernel
theorem dL_law_373 : decode cL_law 373 = .ok (.iadd, 1) := by decide +kernel
theorem dL_law_374 : decode cL_law 374 = .ok (.iaload, 1) := by decide +kernel
theorem dL_law_375 : decode cL_law 375 = .ok (.aload_n 0, 1) := by decide +kernel
theorem dL_law_376 : decode cL_law 376 = .ok (.iload_n 3, 1) := by decide +kernel
theorem dL_law_377 : decode cL_law 377 = .ok (.iconst 2, 1) := by decide +kernel
theorem dL_law_378 : decode cL_law 378 = .ok (.iadd, 1) := by decide +kernel
theorem dL_law_379 : decode cL_law 379 = .ok (.iaload, 1) := by decide +kernel
theorem dL_law_380 : decode cL_law 380 = .ok (.invokevirtual 36, 3) := by decide +kernel
theorem dL_law_383 : decode cL_law 383 = .ok (.aload_n 2, 1) := by decide +kernel
theorem dL_law_384 : decode cL_law 384 = .ok (.aload_n 0, 1) := by decide +kernel
theorem dL_law_385 : decode cL_law 385 = .ok (.iload_n 3, 1) := by decide +kernel
theorem dL_law_386 : decode cL_law 386 = .ok (.iconst 1, 1) := by decide +kernel
theorem dL_law_387 : decode cL_law 387 = .ok (.iadd, 1) := by decide +kernel
theorem dL_law_388 : decode cL_law 388 = .ok (.iaload, 1) := by decide +kernel
theorem dL_law_389 : decode cL_law 389 = .ok (.aload_n 0, 1) := by decide +kernel
theorem dL_law_390 : decode cL_law 390 = .ok (.iload_n 3, 1) := by decide +kernel
theorem dL_law_391 : decode cL_law 391 = .ok (.iconst 2, 1) := by decide +kernel
theorem dL_law_392 : decode cL_law 392 = .ok (.iadd, 1) := by decide +kernel
theorem dL_law_393 : decode cL_law 393 = .ok (.iaload, 1) := by decide +kernel
theorem dL_law_394 : decode cL_law 394 = .ok (.invokevirtual 40, 3) := by decide +kernel
theorem dL_law_397 : decode cL_law 397 = .ok (.lcmp, 1) := by decide +kernel
theorem dL_law_398 : decode cL_law 398 = .ok (.ifCond .eq 1342, 3) := by decide +kernel
theorem dL_law_401 : decode cL_law 401 = .ok (.iconst 0, 1) := by decide +kernel
theorem dL_law_402 : decode cL_law 402 = .ok (.ireturn, 1) := by decide +kernel
theorem dL_law_403 : decode cL_law 403 = .ok (.aload_n 1, 1) := by decide +kernel
theorem dL_law_404 : decode cL_law 404 = .ok (.aload_n 0, 1) := by decide +kernel
theorem dL_law_405 : decode cL_law 405 = .ok (.iload_n 3, 1) := by decide +kernel
theorem dL_law_406 : decode cL_law 406 = .ok (.iconst 1, 1) := by decide +kernel
theorem dL_law_407 : decode cL_law 407 = .ok (.iadd, 1) := by decide +kernel
theorem dL_law_408 : decode cL_law 408 = .ok (.iaload, 1) := by decide +kernel
theorem dL_law_409 : decode cL_law 409 = .ok (.invokevirtual 41, 3) := by decide +kernel
theorem dL_law_412 : decode cL_law 412 = .ok (.aload_n 2, 1) := by decide +kernel
theorem dL_law_413 : decode cL_law 413 = .ok (.aload_n 0, 1) := by decide +kernel
theorem dL_law_414 : decode cL_law 414 = .ok (.iload_n 3, 1) := by decide +kernel
theorem dL_law_415 : decode cL_law 415 = .ok (.iconst 1, 1) := by decide +kernel
theorem dL_law_416 : decode cL_law 416 = .ok (.iadd, 1) := by decide +kernel
theorem dL_law_417 : decode cL_law 417 = .ok (.iaload, 1) := by decide +kernel
theorem dL_law_418 : decode cL_law 418 = .ok (.invokevirtual 45, 3) := by decide +kernel
theorem dL_law_421 : decode cL_law 421 = .ok (.lcmp, 1) := by decide +kernel
theorem dL_law_422 : decode cL_law 422 = .ok (.ifCond .eq 1318, 3) := by decide +kernel
theorem dL_law_425 : decode cL_law 425 = .ok (.iconst 0, 1) := by decide +kernel
theorem dL_law_426 : decode cL_law 426 = .ok (.ireturn, 1) := by decide +kernel
theorem dL_law_427 : decode cL_law 427 = .ok (.aload_n 1, 1) := by decide +kernel
theorem dL_law_428 : decode cL_law 428 = .ok (.aload_n 0, 1) := by decide +kernel
theorem dL_law_429 : decode cL_law 429 = .ok (.iload_n 3, 1) := by decide +kernel
theorem dL_law_430 : decode cL_law 430 = .ok (.iconst 1, 1) := by decide +kernel
theorem dL_law_431 : decode cL_law 431 = .ok (.iadd, 1) := by decide +kernel
theorem dL_law_432 : decode cL_law 432 = .ok (.iaload, 1) := by decide +kernel
theorem dL_law_433 : decode cL_law 433 = .ok (.invokevirtual 46, 3) := by decide +kernel
theorem dL_law_436 : decode cL_law 436 = .ok (.aload_n 2, 1) := by decide +kernel
theorem dL_law_437 : decode cL_law 437 = .ok (.aload_n 0, 1) := by decide +kernel
theorem dL_law_438 : decode cL_law 438 = .ok (.iload_n 3, 1) := by decide +kernel
theorem dL_law_439 : decode cL_law 439 = .ok (.iconst 1, 1) := by decide +kernel
theorem dL_law_440 : decode cL_law 440 = .ok (.iadd, 1) := by decide +kernel
theorem dL_law_441 : decode cL_law 441 = .ok (.iaload, 1) := by decide +kernel
theorem dL_law_442 : decode cL_law 442 = .ok (.invokevirtual 49, 3) := by decide +kernel
theorem dL_law_445 : decode cL_law 445 = .ok (.if_icmp .eq 1295, 3) := by decide +kernel
theorem dL_law_448 : decode cL_law 448 = .ok (.iconst 0, 1) := by decide +kernel
theorem dL_law_449 : decode cL_law 449 = .ok (.ireturn, 1) := by decide +kernel
theorem dL_law_450 : decode cL_law 450 = .ok (.aload_n 1, 1) := by decide +kernel
theorem dL_law_451 : decode cL_law 451 = .ok (.aload_n 0, 1) := by decide +kernel
theorem dL_law_452 : decode cL_law 452 = .ok (.iload_n 3, 1) := by decide +kernel
theorem dL_law_453 : decode cL_law 453 = .ok (.iconst 1, 1) := by decide +kernel
theorem dL_law_454 : decode cL_law 454 = .ok (.iadd, 1) := by decide +kernel
theorem dL_law_455 : decode cL_law 455 = .ok (.iaload, 1) := by decide +kernel
theorem dL_law_456 : decode cL_law 456 = .ok (.aload_n 0, 1) := by decide +kernel
theorem dL_law_457 : decode cL_law 457 = .ok (.iload_n 3, 1) := by decide +kernel
theorem dL_law_458 : decode cL_law 458 = .ok (.iconst 2, 1) := by decide +kernel
theorem dL_law_459 : decode cL_law 459 = .ok (.iadd, 1) := by decide +kernel
theorem dL_law_460 : decode cL_law 460 = .ok (.iaload, 1) := by decide +kernel
theorem dL_law_461 : decode cL_law 461 = .ok (.invokevirtual 50, 3) := by decide +kernel
theorem dL_law_464 : decode cL_law 464 = .ok (.aload_n 2, 1) := by decide +kernel
theorem dL_law_465 : decode cL_law 465 = .ok (.aload_n 0, 1) := by decide +kernel
theorem dL_law_466 : decode cL_law 466 = .ok (.iload_n 3, 1) := by decide +kernel
theorem dL_law_467 : decode cL_law 467 = .ok (.iconst 1, 1) := by decide +kernel
theorem dL_law_468 : decode cL_law 468 = .ok (.iadd, 1) := by decide +kernel
theorem dL_law_469 : decode cL_law 469 = .ok (.iaload, 1) := by decide +kernel
theorem dL_law_470 : decode cL_law 470 = .ok (.aload_n 0, 1) := by decide +kernel
theorem dL_law_471 : decode cL_law 471 = .ok (.iload_n 3, 1) := by decide +kernel
theorem dL_law_472 : decode cL_law 472 = .ok (.iconst 2, 1) := by decide +kernel
theorem dL_law_473 : decode cL_law 473 = .ok (.iadd, 1) := by decide +kernel
theorem dL_law_474 : decode cL_law 474 = .ok (.iaload, 1) := by decide +kernel
theorem dL_law_475 : decode cL_law 475 = .ok (.invokevirtual 54, 3) := by decide +kernel
theorem dL_law_478 : decode cL_law 478 = .ok (.if_icmp .eq 1262, 3) := by decide +kernel
theorem dL_law_481 : decode cL_law 481 = .ok (.iconst 0, 1) := by decide +kernel
theorem dL_law_482 : decode cL_law 482 = .ok (.ireturn, 1) := by decide +kernel
theorem dL_law_483 : decode cL_law 483 = .ok (.aload_n 1, 1) := by decide +kernel
theorem dL_law_484 : decode cL_law 484 = .ok (.aload_n 0, 1) := by decide +kernel
theorem dL_law_485 : decode cL_law 485 = .ok (.iload_n 3, 1) := by decide +kernel
theorem dL_law_486 : decode cL_law 486 = .ok (.iconst 1, 1) := by decide +kernel
theorem dL_law_487 : decode cL_law 487 = .ok (.iadd, 1) := by decide +kernel
theorem dL_law_488 : decode cL_law 488 = .ok (.iaload, 1) := by decide +kernel
theorem dL_law_489 : decode cL_law 489 = .ok (.invokevirtual 55, 3) := by decide +kernel
theorem dL_law_492 : decode cL_law 492 = .ok (.aload_n 2, 1) := by decide +kernel
theorem dL_law_493 : decode cL_law 493 = .ok (.aload_n 0, 1) := by decide +kernel
theorem dL_law_494 : decode cL_law 494 = .ok (.iload_n 3, 1) := by decide +kernel
theorem dL_law_495 : decode cL_law 495 = .ok (.iconst 1, 1) := by decide +kernel
theorem dL_law_496 : decode cL_law 496 = .ok (.iadd, 1) := by decide +kernel
theorem dL_law_497 : decode cL_law 497 = .ok (.iaload, 1) := by decide +kernel
theorem dL_law_498 : decode cL_law 498 = .ok (.invokevirtual 58, 3) := by decide +kernel
theorem dL_law_501 : decode cL_law 501 = .ok (.if_icmp .eq 1239, 3) := by decide +kernel
theorem dL_law_504 : decode cL_law 504 = .ok (.iconst 0, 1) := by decide +kernel
theorem dL_law_505 : decode cL_law 505 = .ok (.ireturn, 1) := by decide +kernel
theorem dL_law_506 : decode cL_law 506 = .ok (.aload_n 1, 1) := by decide +kernel
theorem dL_law_507 : decode cL_law 507 = .ok (.aload_n 0, 1) := by decide +kernel
theorem dL_law_508 : decode cL_law 508 = .ok (.iload_n 3, 1) := by decide +kernel
theorem dL_law_509 : decode cL_law 509 = .ok (.iconst 1, 1) := by decide +kernel
theorem dL_law_510 : decode cL_law 510 = .ok (.iadd, 1) := by decide +kernel
theorem dL_law_511 : decode cL_law 511 = .ok (.iaload, 1) := by decide +kernel
theorem dL_law_512 : decode cL_law 512 = .ok (.invokevirtual 59, 3) := by decide +kernel
theorem dL_law_515 : decode cL_law 515 = .ok (.aload_n 2, 1) := by decide +kernel
theorem dL_law_516 : decode cL_law 516 = .ok (.aload_n 0, 1) := by decide +kernel
theorem dL_law_517 : decode cL_law 517 = .ok (.iload_n 3, 1) := by decide +kernel
theorem dL_law_518 : decode cL_law 518 = .ok (.iconst 1, 1) := by decide +kernel
theorem dL_law_519 : decode cL_law 519 = .ok (.iadd, 1) := by decide +kernel
theorem dL_law_520 : decode cL_law 520 = .ok (.iaload, 1) := by decide +kernel
theorem dL_law_521 : decode cL_law 521 = .ok (.invokevirtual 62, 3) := by decide +kernel
theorem dL_law_524 : decode cL_law 524 = .ok (.if_icmp .eq 1216, 3) := by decide +kernel
theorem dL_law_527 : decode cL_law 527 = .ok (.iconst 0, 1) := by decide +kernel
theorem dL_law_528 : decode cL_law 528 = .ok (.ireturn, 1) := by decide +kernel
theorem dL_law_529 : decode cL_law 529 = .ok (.aload_n 1, 1) := by decide +kernel
theorem dL_law_530 : decode cL_law 530 = .ok (.aload_n 0, 1) := by decide +kernel
theorem dL_law_531 : decode cL_law 531 = .ok (.iload_n 3, 1) := by decide +kernel
theorem dL_law_532 : decode cL_law 532 = .ok (.iconst 1, 1) := by decide +kernel
theorem dL_law_533 : decode cL_law 533 = .ok (.iadd, 1) := by decide +kernel
theorem dL_law_534 : decode cL_law 534 = .ok (.iaload, 1) := by decide +kernel
theorem dL_law_535 : decode cL_law 535 = .ok (.aload_n 0, 1) := by decide +kernel
theorem dL_law_536 : decode cL_law 536 = .ok (.iload_n 3, 1) := by decide +kernel
theorem dL_law_537 : decode cL_law 537 = .ok (.iconst 2, 1) := by decide +kernel
theorem dL_law_538 : decode cL_law 538 = .ok (.iadd, 1) := by decide +kernel
theorem dL_law_539 : decode cL_law 539 = .ok (.iaload, 1) := by decide +kernel
theorem dL_law_540 : decode cL_law 540 = .ok (.aload_n 0, 1) := by decide +kernel
theorem dL_law_541 : decode cL_law 541 = .ok (.iload_n 3, 1) := by decide +kernel
theorem dL_law_542 : decode cL_law 542 = .ok (.iconst 3, 1) := by decide +kernel
theorem dL_law_543 : decode cL_law 543 = .ok (.iadd, 1) := by decide +kernel
theorem dL_law_544 : decode cL_law 544 = .ok (.iaload, 1) := by decide +kernel
theorem dL_law_545 : decode cL_law 545 = .ok (.invokevirtual 63, 3) := by decide +kernel
theorem dL_law_548 : decode cL_law 548 = .ok (.aload_n 2, 1) := by decide +kernel
theorem dL_law_549 : decode cL_law 549 = .ok (.aload_n 0, 1) := by decide +kernel
theorem dL_law_550 : decode cL_law 550 = .ok (.iload_n 3, 1) := by decide +kernel
theorem dL_law_551 : decode cL_law 551 = .ok (.iconst 1, 1) := by decide +kernel
theorem dL_law_552 : decode cL_law 552 = .ok (.iadd, 1) := by decide +kernel
theorem dL_law_553 : decode cL_law 553 = .ok (.iaload, 1) := by decide +kernel
theorem dL_law_554 : decode cL_law 554 = .ok (.aload_n 0, 1) := by decide +kernel
theorem dL_law_555 : decode cL_law 555 = .ok (.iload_n 3, 1) := by decide +kernel
theorem dL_law_556 : decode cL_law 556 = .ok (.iconst 2, 1) := by decide +kernel
theorem dL_law_557 : decode cL_law 557 = .ok (.iadd, 1) := by decide +kernel
theorem dL_law_558 : decode cL_law 558 = .ok (.iaload, 1) := by decide +kernel
theorem dL_law_559 : decode cL_law 559 = .ok (.aload_n 0, 1) := by decide +kernel
theorem dL_law_560 : decode cL_law 560 = .ok (.iload_n 3, 1) := by decide +kernel
theorem dL_law_561 : decode cL_law 561 = .ok (.iconst 3, 1) := by decide +kernel
theorem dL_law_562 : decode cL_law 562 = .ok (.iadd, 1) := by decide +kernel
theorem dL_law_563 : decode cL_law 563 = .ok (.iaload, 1) := by decide +kernel
theorem dL_law_564 : decode cL_law 564 = .ok (.invokevirtual 67, 3) := by decide +kernel
theorem dL_law_567 : decode cL_law 567 = .ok (.if_icmp .eq 1173, 3) := by decide +kernel
theorem dL_law_570 : decode cL_law 570 = .ok (.iconst 0, 1) := by decide +kernel
theorem dL_law_571 : decode cL_law 571 = .ok (.ireturn, 1) := by decide +kernel
theorem dL_law_572 : decode cL_law 572 = .ok (.aload_n 1, 1) := by decide +kernel
theorem dL_law_573 : decode cL_law 573 = .ok (.aload_n 0, 1) := by decide +kernel
theorem dL_law_574 : decode cL_law 574 = .ok (.iload_n 3, 1) := by decide +kernel
theorem dL_law_575 : decode cL_law 575 = .ok (.iconst 1, 1) := by decide +kernel
theorem dL_law_576 : decode cL_law 576 = .ok (.iadd, 1) := by decide +kernel
theorem dL_law_577 : decode cL_law 577 = .ok (.iaload, 1) := by decide +kernel
theorem dL_law_578 : decode cL_law 578 = .ok (.invokevirtual 68, 3) := by decide +kernel
theorem dL_law_581 : decode cL_law 581 = .ok (.aload_n 2, 1) := by decide +kernel
theorem dL_law_582 : decode cL_law 582 = .ok (.aload_n 0, 1) := by decide +kernel
theorem dL_law_583 : decode cL_law 583 = .ok (.iload_n 3, 1) := by decide +kernel
theorem dL_law_584 : decode cL_law 584 = .ok (.iconst 1, 1) := by decide +kernel
theorem dL_law_585 : decode cL_law 585 = .ok (.iadd, 1) := by decide +kernel
theorem dL_law_586 : decode cL_law 586 = .ok (.iaload, 1) := by decide +kernel
theorem dL_law_587 : decode cL_law 587 = .ok (.invokevirtual 71, 3) := by decide +kernel
theorem dL_law_590 : decode cL_law 590 = .ok (.if_icmp .eq 1150, 3) := by decide +kernel
theorem dL_law_593 : decode cL_law 593 = .ok (.iconst 0, 1) := by decide +kernel
theorem dL_law_594 : decode cL_law 594 = .ok (.ireturn, 1) := by decide +kernel
theorem dL_law_595 : decode cL_law 595 = .ok (.aload_n 1, 1) := by decide +kernel
theorem dL_law_596 : decode cL_law 596 = .ok (.aload_n 0, 1) := by decide +kernel
theorem dL_law_597 : decode cL_law 597 = .ok (.iload_n 3, 1) := by decide +kernel
theorem dL_law_598 : decode cL_law 598 = .ok (.iconst 1, 1) := by decide +kernel
theorem dL_law_599 : decode cL_law 599 = .ok (.iadd, 1) := by decide +kernel
theorem dL_law_600 : decode cL_law 600 = .ok (.iaload, 1) := by decide +kernel
theorem dL_law_601 : decode cL_law 601 = .ok (.aload_n 0, 1) := by decide +kernel
theorem dL_law_602 : decode cL_law 602 = .ok (.iload_n 3, 1) := by decide +kernel
theorem dL_law_603 : decode cL_law 603 = .ok (.iconst 2, 1) := by decide +kernel
theorem dL_law_604 : decode cL_law 604 = .ok (.iadd, 1) := by decide +kernel
theorem dL_law_605 : decode cL_law 605 = .ok (.iaload, 1) := by decide +kernel
theorem dL_law_606 : decode cL_law 606 = .ok (.invokevirtual 72, 3) := by decide +kernel
theorem dL_law_609 : decode cL_law 609 = .ok (.aload_n 2, 1) := by decide +kernel
theorem dL_law_610 : decode cL_law 610 = .ok (.aload_n 0, 1) := by decide +kernel
theorem dL_law_611 : decode cL_law 611 = .ok (.iload_n 3, 1) := by decide +kernel
theorem dL_law_612 : decode cL_law 612 = .ok (.iconst 1, 1) := by decide +kernel
theorem dL_law_613 : decode cL_law 613 = .ok (.iadd, 1) := by decide +kernel
theorem dL_law_614 : decode cL_law 614 = .ok (.iaload, 1) := by decide +kernel
theorem dL_law_615 : decode cL_law 615 = .ok (.aload_n 0, 1) := by decide +kernel
theorem dL_law_616 : decode cL_law 616 = .ok (.iload_n 3, 1) := by decide +kernel
theorem dL_law_617 : decode cL_law 617 = .ok (.iconst 2, 1) := by decide +kernel
theorem dL_law_618 : decode cL_law 618 = .ok (.iadd, 1) := by decide +kernel
theorem dL_law_619 : decode cL_law 619 = .ok (.iaload, 1) := by decide +kernel
theorem dL_law_620 : decode cL_law 620 = .ok (.invokevirtual 75, 3) := by decide +kernel
theorem dL_law_623 : decode cL_law 623 = .ok (.lcmp, 1) := by decide +kernel
theorem dL_law_624 : decode cL_law 624 = .ok (.ifCond .eq 1116, 3) := by decide +kernel
theorem dL_law_627 : decode cL_law 627 = .ok (.iconst 0, 1) := by decide +kernel
theorem dL_law_628 : decode cL_law 628 = .ok (.ireturn, 1) := by decide +kernel
theorem dL_law_629 : decode cL_law 629 = .ok (.aload_n 1, 1) := by decide +kernel
theorem dL_law_630 : decode cL_law 630 = .ok (.aload_n 0, 1) := by decide +kernel
theorem dL_law_631 : decode cL_law 631 = .ok (.iload_n 3, 1) := by decide +kernel
theorem dL_law_632 : decode cL_law 632 = .ok (.iconst 1, 1) := by decide +kernel
theorem dL_law_633 : decode cL_law 633 = .ok (.iadd, 1) := by decide +kernel
theorem dL_law_634 : decode cL_law 634 = .ok (.iaload, 1) := by decide +kernel
theorem dL_law_635 : decode cL_law 635 = .ok (.aload_n 0, 1) := by decide +kernel
theorem dL_law_636 : decode cL_law 636 = .ok (.iload_n 3, 1) := by decide +kernel
theorem dL_law_637 : decode cL_law 637 = .ok (.iconst 2, 1) := by decide +kernel
theorem dL_law_638 : decode cL_law 638 = .ok (.iadd, 1) := by decide +kernel
theorem dL_law_639 : decode cL_law 639 = .ok (.iaload, 1) := by decide +kernel
theorem dL_law_640 : decode cL_law 640 = .ok (.invokevirtual 76, 3) := by decide +kernel
theorem dL_law_643 : decode cL_law 643 = .ok (.aload_n 2, 1) := by decide +kernel
theorem dL_law_644 : decode cL_law 644 = .ok (.aload_n 0, 1) := by decide +kernel
theorem dL_law_645 : decode cL_law 645 = .ok (.iload_n 3, 1) := by decide +kernel
theorem dL_law_646 : decode cL_law 646 = .ok (.iconst 1, 1) := by decide +kernel
theorem dL_law_647 : decode cL_law 647 = .ok (.iadd, 1) := by decide +kernel
theorem dL_law_648 : decode cL_law 648 = .ok (.iaload, 1) := by decide +kernel
theorem dL_law_649 : decode cL_law 649 = .ok (.aload_n 0, 1) := by decide +kernel
theorem dL_law_650 : decode cL_law 650 = .ok (.iload_n 3, 1) := by decide +kernel
theorem dL_law_651 : decode cL_law 651 = .ok (.iconst 2, 1) := by decide +kernel
theorem dL_law_652 : decode cL_law 652 = .ok (.iadd, 1) := by decide +kernel
theorem dL_law_653 : decode cL_law 653 = .ok (.iaload, 1) := by decide +kernel
theorem dL_law_654 : decode cL_law 654 = .ok (.invokevirtual 79, 3) := by decide +kernel
theorem dL_law_657 : decode cL_law 657 = .ok (.lcmp, 1) := by decide +kernel
theorem dL_law_658 : decode cL_law 658 = .ok (.ifCond .eq 1082, 3) := by decide +kernel
theorem dL_law_661 : decode cL_law 661 = .ok (.iconst 0, 1) := by decide +kernel
theorem dL_law_662 : decode cL_law 662 = .ok (.ireturn, 1) := by decide +kernel
theorem dL_law_663 : decode cL_law 663 = .ok (.aload_n 1, 1) := by decide +kernel
theorem dL_law_664 : decode cL_law 664 = .ok (.aload_n 0, 1) := by decide +kernel
theorem dL_law_665 : decode cL_law 665 = .ok (.iload_n 3, 1) := by decide +kernel
theorem dL_law_666 : decode cL_law 666 = .ok (.iconst 1, 1) := by decide +kernel
theorem dL_law_667 : decode cL_law 667 = .ok (.iadd, 1) := by decide +kernel
theorem dL_law_668 : decode cL_law 668 = .ok (.iaload, 1) := by decide +kernel
theorem dL_law_669 : decode cL_law 669 = .ok (.aload_n 0, 1) := by decide +kernel
theorem dL_law_670 : decode cL_law 670 = .ok (.iload_n 3, 1) := by decide +kernel
theorem dL_law_671 : decode cL_law 671 = .ok (.iconst 2, 1) := by decide +kernel
theorem dL_law_672 : decode cL_law 672 = .ok (.iadd, 1) := by decide +kernel
theorem dL_law_673 : decode cL_law 673 = .ok (.iaload, 1) := by decide +kernel
theorem dL_law_674 : decode cL_law 674 = .ok (.invokevirtual 80, 3) := by decide +kernel
theorem dL_law_677 : decode cL_law 677 = .ok (.aload_n 2, 1) := by decide +kernel
theorem dL_law_678 : decode cL_law 678 = .ok (.aload_n 0, 1) := by decide +kernel
theorem dL_law_679 : decode cL_law 679 = .ok (.iload_n 3, 1) := by decide +kernel
theorem dL_law_680 : decode cL_law 680 = .ok (.iconst 1, 1) := by decide +kernel
theorem dL_law_681 : decode cL_law 681 = .ok (.iadd, 1) := by decide +kernel
theorem dL_law_682 : decode cL_law 682 = .ok (.iaload, 1) := by decide +kernel
theorem dL_law_683 : decode cL_law 683 = .ok (.aload_n 0, 1) := by decide +kernel
theorem dL_law_684 : decode cL_law 684 = .ok (.iload_n 3, 1) := by decide +kernel
theorem dL_law_685 : decode cL_law 685 = .ok (.iconst 2, 1) := by decide +kernel
theorem dL_law_686 : decode cL_law 686 = .ok (.iadd, 1) := by decide +kernel
theorem dL_law_687 : decode cL_law 687 = .ok (.iaload, 1) := by decide +kernel
theorem dL_law_688 : decode cL_law 688 = .ok (.invokevirtual 83, 3) := by decide +kernel
theorem dL_law_691 : decode cL_law 691 = .ok (.lcmp, 1) := by decide +kernel
theorem dL_law_692 : decode cL_law 692 = .ok (.ifCond .eq 1048, 3) := by decide +kernel
theorem dL_law_695 : decode cL_law 695 = .ok (.iconst 0, 1) := by decide +kernel
theorem dL_law_696 : decode cL_law 696 = .ok (.ireturn, 1) := by decide +kernel
theorem dL_law_697 : decode cL_law 697 = .ok (.aload_n 1, 1) := by decide +kernel
theorem dL_law_698 : decode cL_law 698 = .ok (.aload_n 0, 1) := by decide +kernel
theorem dL_law_699 : decode cL_law 699 = .ok (.iload_n 3, 1) := by decide +kernel
theorem dL_law_700 : decode cL_law 700 = .ok (.iconst 1, 1) := by decide +kernel
theorem dL_law_701 : decode cL_law 701 = .ok (.iadd, 1) := by decide +kernel
theorem dL_law_702 : decode cL_law 702 = .ok (.iaload, 1) := by decide +kernel
theorem dL_law_703 : decode cL_law 703 = .ok (.aload_n 0, 1) := by decide +kernel
theorem dL_law_704 : decode cL_law 704 = .ok (.iload_n 3, 1) := by decide +kernel
theorem dL_law_705 : decode cL_law 705 = .ok (.iconst 2, 1) := by decide +kernel
theorem dL_law_706 : decode cL_law 706 = .ok (.iadd, 1) := by decide +kernel
theorem dL_law_707 : decode cL_law 707 = .ok (.iaload, 1) := by decide +kernel
theorem dL_law_708 : decode cL_law 708 = .ok (.invokevirtual 84, 3) := by decide +kernel
theorem dL_law_711 : decode cL_law 711 = .ok (.aload_n 2, 1) := by decide +kernel
theorem dL_law_712 : decode cL_law 712 = .ok (.aload_n 0, 1) := by decide +kernel
theorem dL_law_713 : decode cL_law 713 = .ok (.iload_n 3, 1) := by decide +kernel
theorem dL_law_714 : decode cL_law 714 = .ok (.iconst 1, 1) := by decide +kernel
theorem dL_law_715 : decode cL_law 715 = .ok (.iadd, 1) := by decide +kernel
theorem dL_law_716 : decode cL_law 716 = .ok (.iaload, 1) := by decide +kernel
theorem dL_law_717 : decode cL_law 717 = .ok (.aload_n 0, 1) := by decide +kernel
theorem dL_law_718 : decode cL_law 718 = .ok (.iload_n 3, 1) := by decide +kernel
theorem dL_law_719 : decode cL_law 719 = .ok (.iconst 2, 1) := by decide +kernel
theorem dL_law_720 : decode cL_law 720 = .ok (.iadd, 1) := by decide +kernel
theorem dL_law_721 : decode cL_law 721 = .ok (.iaload, 1) := by decide +kernel
theorem dL_law_722 : decode cL_law 722 = .ok (.invokevirtual 87, 3) := by decide +kernel
theorem dL_law_725 : decode cL_law 725 = .ok (.lcmp, 1) := by decide +kernel
theorem dL_law_726 : decode cL_law 726 = .ok (.ifCond .eq 1014, 3) := by decide +kernel
theorem dL_law_729 : decode cL_law 729 = .ok (.iconst 0, 1) := by decide +kernel
theorem dL_law_730 : decode cL_law 730 = .ok (.ireturn, 1) := by decide +kernel
theorem dL_law_731 : decode cL_law 731 = .ok (.aload_n 1, 1) := by decide +kernel
theorem dL_law_732 : decode cL_law 732 = .ok (.aload_n 0, 1) := by decide +kernel
theorem dL_law_733 : decode cL_law 733 = .ok (.iload_n 3, 1) := by decide +kernel
theorem dL_law_734 : decode cL_law 734 = .ok (.iconst 1, 1) := by decide +kernel
theorem dL_law_735 : decode cL_law 735 = .ok (.iadd, 1) := by decide +kernel
theorem dL_law_736 : decode cL_law 736 = .ok (.iaload, 1) := by decide +kernel
theorem dL_law_737 : decode cL_law 737 = .ok (.invokevirtual 88, 3) := by decide +kernel
theorem dL_law_740 : decode cL_law 740 = .ok (.aload_n 2, 1) := by decide +kernel
theorem dL_law_741 : decode cL_law 741 = .ok (.aload_n 0, 1) := by decide +kernel
theorem dL_law_742 : decode cL_law 742 = .ok (.iload_n 3, 1) := by decide +kernel
theorem dL_law_743 : decode cL_law 743 = .ok (.iconst 1, 1) := by decide +kernel
theorem dL_law_744 : decode cL_law 744 = .ok (.iadd, 1) := by decide +kernel
theorem dL_law_745 : decode cL_law 745 = .ok (.iaload, 1) := by decide +kernel
theorem dL_law_746 : decode cL_law 746 = .ok (.invokevirtual 91, 3) := by decide +kernel
theorem dL_law_749 : decode cL_law 749 = .ok (.lcmp, 1) := by decide +kernel
theorem dL_law_750 : decode cL_law 750 = .ok (.ifCond .eq 990, 3) := by decide +kernel
theorem dL_law_753 : decode cL_law 753 = .ok (.iconst 0, 1) := by decide +kernel
theorem dL_law_754 : decode cL_law 754 = .ok (.ireturn, 1) := by decide +kernel
theorem dL_law_755 : decode cL_law 755 = .ok (.aload_n 1, 1) := by decide +kernel
theorem dL_law_756 : decode cL_law 756 = .ok (.invokevirtual 92, 3) := by decide +kernel
theorem dL_law_759 : decode cL_law 759 = .ok (.aload_n 2, 1) := by decide +kernel
theorem dL_law_760 : decode cL_law 760 = .ok (.invokevirtual 95, 3) := by decide +kernel
theorem dL_law_763 : decode cL_law 763 = .ok (.if_icmp .eq 977, 3) := by decide +kernel
theorem dL_law_766 : decode cL_law 766 = .ok (.iconst 0, 1) := by decide +kernel
theorem dL_law_767 : decode cL_law 767 = .ok (.ireturn, 1) := by decide +kernel
theorem dL_law_768 : decode cL_law 768 = .ok (.aload_n 1, 1) := by decide +kernel
theorem dL_law_769 : decode cL_law 769 = .ok (.aload_n 0, 1) := by decide +kernel
theorem dL_law_770 : decode cL_law 770 = .ok (.iload_n 3, 1) := by decide +kernel
theorem dL_law_771 : decode cL_law 771 = .ok (.iconst 1, 1) := by decide +kernel
theorem dL_law_772 : decode cL_law 772 = .ok (.iadd, 1) := by decide +kernel
theorem dL_law_773 : decode cL_law 773 = .ok (.iaload, 1) := by decide +kernel
theorem dL_law_774 : decode cL_law 774 = .ok (.aload_n 0, 1) := by decide +kernel
theorem dL_law_775 : decode cL_law 775 = .ok (.iload_n 3, 1) := by decide +kernel
theorem dL_law_776 : decode cL_law 776 = .ok (.iconst 2, 1) := by decide +kernel
theorem dL_law_777 : decode cL_law 777 = .ok (.iadd, 1) := by decide +kernel
theorem dL_law_778 : decode cL_law 778 = .ok (.iaload, 1) := by decide +kernel
theorem dL_law_779 : decode cL_law 779 = .ok (.aload_n 0, 1) := by decide +kernel
theorem dL_law_780 : decode cL_law 780 = .ok (.iload_n 3, 1) := by decide +kernel
theorem dL_law_781 : decode cL_law 781 = .ok (.iconst 3, 1) := by decide +kernel
theorem dL_law_782 : decode cL_law 782 = .ok (.iadd, 1) := by decide +kernel
theorem dL_law_783 : decode cL_law 783 = .ok (.iaload, 1) := by decide +kernel
theorem dL_law_784 : decode cL_law 784 = .ok (.invokevirtual 96, 3) := by decide +kernel
theorem dL_law_787 : decode cL_law 787 = .ok (.aload_n 2, 1) := by decide +kernel
theorem dL_law_788 : decode cL_law 788 = .ok (.aload_n 0, 1) := by decide +kernel
theorem dL_law_789 : decode cL_law 789 = .ok (.iload_n 3, 1) := by decide +kernel
theorem dL_law_790 : decode cL_law 790 = .ok (.iconst 1, 1) := by decide +kernel
theorem dL_law_791 : decode cL_law 791 = .ok (.iadd, 1) := by decide +kernel
theorem dL_law_792 : decode cL_law 792 = .ok (.iaload, 1) := by decide +kernel
theorem dL_law_793 : decode cL_law 793 = .ok (.aload_n 0, 1) := by decide +kernel
theorem dL_law_794 : decode cL_law 794 = .ok (.iload_n 3, 1) := by decide +kernel
theorem dL_law_795 : decode cL_law 795 = .ok (.iconst 2, 1) := by decide +kernel
theorem dL_law_796 : decode cL_law 796 = .ok (.iadd, 1) := by decide +kernel
theorem dL_law_797 : decode cL_law 797 = .ok (.iaload, 1) := by decide +kernel
theorem dL_law_798 : decode cL_law 798 = .ok (.aload_n 0, 1) := by decide +kernel
theorem dL_law_799 : decode cL_law 799 = .ok (.iload_n 3, 1) := by decide +kernel
theorem dL_law_800 : decode cL_law 800 = .ok (.iconst 3, 1) := by decide +kernel
theorem dL_law_801 : decode cL_law 801 = .ok (.iadd, 1) := by decide +kernel
theorem dL_law_802 : decode cL_law 802 = .ok (.iaload, 1) := by decide +kernel
theorem dL_law_803 : decode cL_law 803 = .ok (.invokevirtual 100, 3) := by decide +kernel
theorem dL_law_806 : decode cL_law 806 = .ok (.lcmp, 1) := by decide +kernel
theorem dL_law_807 : decode cL_law 807 = .ok (.ifCond .eq 933, 3) := by decide +kernel
theorem dL_law_810 : decode cL_law 810 = .ok (.iconst 0, 1) := by decide +kernel
theorem dL_law_811 : decode cL_law 811 = .ok (.ireturn, 1) := by decide +kernel
theorem dL_law_812 : decode cL_law 812 = .ok (.aload_n 1, 1) := by decide +kernel
theorem dL_law_813 : decode cL_law 813 = .ok (.aload_n 0, 1) := by decide +kernel
theorem dL_law_814 : decode cL_law 814 = .ok (.iload_n 3, 1) := by decide +kernel
theorem dL_law_815 : decode cL_law 815 = .ok (.iconst 1, 1) := by decide +kernel
theorem dL_law_816 : decode cL_law 816 = .ok (.iadd, 1) := by decide +kernel
theorem dL_law_817 : decode cL_law 817 = .ok (.iaload, 1) := by decide +kernel
theorem dL_law_818 : decode cL_law 818 = .ok (.invokevirtual 101, 3) := by decide +kernel
theorem dL_law_821 : decode cL_law 821 = .ok (.aload_n 2, 1) := by decide +kernel
theorem dL_law_822 : decode cL_law 822 = .ok (.aload_n 0, 1) := by decide +kernel
theorem dL_law_823 : decode cL_law 823 = .ok (.iload_n 3, 1) := by decide +kernel
theorem dL_law_824 : decode cL_law 824 = .ok (.iconst 1, 1) := by decide +kernel
theorem dL_law_825 : decode cL_law 825 = .ok (.iadd, 1) := by decide +kernel
theorem dL_law_826 : decode cL_law 826 = .ok (.iaload, 1) := by decide +kernel
theorem dL_law_827 : decode cL_law 827 = .ok (.invokevirtual 104, 3) := by decide +kernel
theorem dL_law_830 : decode cL_law 830 = .ok (.if_icmp .eq 910, 3) := by decide +kernel
theorem dL_law_833 : decode cL_law 833 = .ok (.iconst 0, 1) := by decide +kernel
theorem dL_law_834 : decode cL_law 834 = .ok (.ireturn, 1) := by decide +kernel
theorem dL_law_835 : decode cL_law 835 = .ok (.aload_n 1, 1) := by decide +kernel
theorem dL_law_836 : decode cL_law 836 = .ok (.invokevirtual 105, 3) := by decide +kernel
theorem dL_law_839 : decode cL_law 839 = .ok (.aload_n 2, 1) := by decide +kernel
theorem dL_law_840 : decode cL_law 840 = .ok (.invokevirtual 108, 3) := by decide +kernel
theorem dL_law_843 : decode cL_law 843 = .ok (.if_icmp .eq 897, 3) := by decide +kernel
theorem dL_law_846 : decode cL_law 846 = .ok (.iconst 0, 1) := by decide +kernel
theorem dL_law_847 : decode cL_law 847 = .ok (.ireturn, 1) := by decide +kernel
theorem dL_law_848 : decode cL_law 848 = .ok (.aload_n 1, 1) := by decide +kernel
theorem dL_law_849 : decode cL_law 849 = .ok (.aload_n 0, 1) := by decide +kernel
theorem dL_law_850 : decode cL_law 850 = .ok (.iload_n 3, 1) := by decide +kernel
theorem dL_law_851 : decode cL_law 851 = .ok (.iconst 1, 1) := by decide +kernel
theorem dL_law_852 : decode cL_law 852 = .ok (.iadd, 1) := by decide +kernel
theorem dL_law_853 : decode cL_law 853 = .ok (.iaload, 1) := by decide +kernel
theorem dL_law_854 : decode cL_law 854 = .ok (.aload_n 0, 1) := by decide +kernel
theorem dL_law_855 : decode cL_law 855 = .ok (.iload_n 3, 1) := by decide +kernel
theorem dL_law_856 : decode cL_law 856 = .ok (.iconst 2, 1) := by decide +kernel
theorem dL_law_857 : decode cL_law 857 = .ok (.iadd, 1) := by decide +kernel
theorem dL_law_858 : decode cL_law 858 = .ok (.iaload, 1) := by decide +kernel
theorem dL_law_859 : decode cL_law 859 = .ok (.invokevirtual 109, 3) := by decide +kernel
theorem dL_law_862 : decode cL_law 862 = .ok (.aload_n 2, 1) := by decide +kernel
theorem dL_law_863 : decode cL_law 863 = .ok (.aload_n 0, 1) := by decide +kernel
theorem dL_law_864 : decode cL_law 864 = .ok (.iload_n 3, 1) := by decide +kernel
theorem dL_law_865 : decode cL_law 865 = .ok (.iconst 1, 1) := by decide +kernel
theorem dL_law_866 : decode cL_law 866 = .ok (.iadd, 1) := by decide +kernel
theorem dL_law_867 : decode cL_law 867 = .ok (.iaload, 1) := by decide +kernel
theorem dL_law_868 : decode cL_law 868 = .ok (.aload_n 0, 1) := by decide +kernel
theorem dL_law_869 : decode cL_law 869 = .ok (.iload_n 3, 1) := by decide +kernel
theorem dL_law_870 : decode cL_law 870 = .ok (.iconst 2, 1) := by decide +kernel
theorem dL_law_871 : decode cL_law 871 = .ok (.iadd, 1) := by decide +kernel
theorem dL_law_872 : decode cL_law 872 = .ok (.iaload, 1) := by decide +kernel
theorem dL_law_873 : decode cL_law 873 = .ok (.invokevirtual 112, 3) := by decide +kernel
theorem dL_law_876 : decode cL_law 876 = .ok (.if_icmp .eq 864, 3) := by decide +kernel
theorem dL_law_879 : decode cL_law 879 = .ok (.iconst 0, 1) := by decide +kernel
theorem dL_law_880 : decode cL_law 880 = .ok (.ireturn, 1) := by decide +kernel
theorem dL_law_881 : decode cL_law 881 = .ok (.aload_n 1, 1) := by decide +kernel
theorem dL_law_882 : decode cL_law 882 = .ok (.aload_n 0, 1) := by decide +kernel
theorem dL_law_883 : decode cL_law 883 = .ok (.iload_n 3, 1) := by decide +kernel
theorem dL_law_884 : decode cL_law 884 = .ok (.iconst 1, 1) := by decide +kernel
theorem dL_law_885 : decode cL_law 885 = .ok (.iadd, 1) := by decide +kernel
theorem dL_law_886 : decode cL_law 886 = .ok (.iaload, 1) := by decide +kernel
theorem dL_law_887 : decode cL_law 887 = .ok (.aload_n 0, 1) := by decide +kernel
theorem dL_law_888 : decode cL_law 888 = .ok (.iload_n 3, 1) := by decide +kernel
theorem dL_law_889 : decode cL_law 889 = .ok (.iconst 2, 1) := by decide +kernel
theorem dL_law_890 : decode cL_law 890 = .ok (.iadd, 1) := by decide +kernel
theorem dL_law_891 : decode cL_law 891 = .ok (.iaload, 1) := by decide +kernel
theorem dL_law_892 : decode cL_law 892 = .ok (.aload_n 0, 1) := by decide +kernel
theorem dL_law_893 : decode cL_law 893 = .ok (.iload_n 3, 1) := by decide +kernel
theorem dL_law_894 : decode cL_law 894 = .ok (.iconst 3, 1) := by decide +kernel
theorem dL_law_895 : decode cL_law 895 = .ok (.iadd, 1) := by decide +kernel
theorem dL_law_896 : decode cL_law 896 = .ok (.iaload, 1) := by decide +kernel
theorem dL_law_897 : decode cL_law 897 = .ok (.aload_n 0, 1) := by decide +kernel
theorem dL_law_898 : decode cL_law 898 = .ok (.iload_n 3, 1) := by decide +kernel
theorem dL_law_899 : decode cL_law 899 = .ok (.iconst 4, 1) := by decide +kernel
theorem dL_law_900 : decode cL_law 900 = .ok (.iadd, 1) := by decide +kernel
theorem dL_law_901 : decode cL_law 901 = .ok (.iaload, 1) := by decide +kernel
theorem dL_law_902 : decode cL_law 902 = .ok (.invokevirtual 113, 3) := by decide +kernel
theorem dL_law_905 : decode cL_law 905 = .ok (.aload_n 2, 1) := by decide +kernel
theorem dL_law_906 : decode cL_law 906 = .ok (.aload_n 0, 1) := by decide +kernel
theorem dL_law_907 : decode cL_law 907 = .ok (.iload_n 3, 1) := by decide +kernel
theorem dL_law_908 : decode cL_law 908 = .ok (.iconst 1, 1) := by decide +kernel
theorem dL_law_909 : decode cL_law 909 = .ok (.iadd, 1) := by decide +kernel
theorem dL_law_910 : decode cL_law 910 = .ok (.iaload, 1) := by decide +kernel
theorem dL_law_911 : decode cL_law 911 = .ok (.aload_n 0, 1) := by decide +kernel
theorem dL_law_912 : decode cL_law 912 = .ok (.iload_n 3, 1) := by decide +kernel
theorem dL_law_913 : decode cL_law 913 = .ok (.iconst 2, 1) := by decide +kernel
theorem dL_law_914 : decode cL_law 914 = .ok (.iadd, 1) := by decide +kernel
theorem dL_law_915 : decode cL_law 915 = .ok (.iaload, 1) := by decide +kernel
theorem dL_law_916 : decode cL_law 916 = .ok (.aload_n 0, 1) := by decide +kernel
theorem dL_law_917 : decode cL_law 917 = .ok (.iload_n 3, 1) := by decide +kernel
theorem dL_law_918 : decode cL_law 918 = .ok (.iconst 3, 1) := by decide +kernel
theorem dL_law_919 : decode cL_law 919 = .ok (.iadd, 1) := by decide +kernel
theorem dL_law_920 : decode cL_law 920 = .ok (.iaload, 1) := by decide +kernel
theorem dL_law_921 : decode cL_law 921 = .ok (.aload_n 0, 1) := by decide +kernel
theorem dL_law_922 : decode cL_law 922 = .ok (.iload_n 3, 1) := by decide +kernel
theorem dL_law_923 : decode cL_law 923 = .ok (.iconst 4, 1) := by decide +kernel
theorem dL_law_924 : decode cL_law 924 = .ok (.iadd, 1) := by decide +kernel
theorem dL_law_925 : decode cL_law 925 = .ok (.iaload, 1) := by decide +kernel
theorem dL_law_926 : decode cL_law 926 = .ok (.invokevirtual 117, 3) := by decide +kernel
theorem dL_law_929 : decode cL_law 929 = .ok (.lcmp, 1) := by decide +kernel
theorem dL_law_930 : decode cL_law 930 = .ok (.ifCond .eq 810, 3) := by decide +kernel
theorem dL_law_933 : decode cL_law 933 = .ok (.iconst 0, 1) := by decide +kernel
theorem dL_law_934 : decode cL_law 934 = .ok (.ireturn, 1) := by decide +kernel
theorem dL_law_935 : decode cL_law 935 = .ok (.aload_n 1, 1) := by decide +kernel
theorem dL_law_936 : decode cL_law 936 = .ok (.aload_n 0, 1) := by decide +kernel
theorem dL_law_937 : decode cL_law 937 = .ok (.iload_n 3, 1) := by decide +kernel
theorem dL_law_938 : decode cL_law 938 = .ok (.iconst 1, 1) := by decide +kernel
theorem dL_law_939 : decode cL_law 939 = .ok (.iadd, 1) := by decide +kernel
theorem dL_law_940 : decode cL_law 940 = .ok (.iaload, 1) := by decide +kernel
theorem dL_law_941 : decode cL_law 941 = .ok (.aload_n 0, 1) := by decide +kernel
theorem dL_law_942 : decode cL_law 942 = .ok (.iload_n 3, 1) := by decide +kernel
theorem dL_law_943 : decode cL_law 943 = .ok (.iconst 2, 1) := by decide +kernel
theorem dL_law_944 : decode cL_law 944 = .ok (.iadd, 1) := by decide +kernel
theorem dL_law_945 : decode cL_law 945 = .ok (.iaload, 1) := by decide +kernel
theorem dL_law_946 : decode cL_law 946 = .ok (.aload_n 0, 1) := by decide +kernel
theorem dL_law_947 : decode cL_law 947 = .ok (.iload_n 3, 1) := by decide +kernel
theorem dL_law_948 : decode cL_law 948 = .ok (.iconst 3, 1) := by decide +kernel
theorem dL_law_949 : decode cL_law 949 = .ok (.iadd, 1) := by decide +kernel
theorem dL_law_950 : decode cL_law 950 = .ok (.iaload, 1) := by decide +kernel
theorem dL_law_951 : decode cL_law 951 = .ok (.aload_n 0, 1) := by decide +kernel
theorem dL_law_952 : decode cL_law 952 = .ok (.iload_n 3, 1) := by decide +kernel
theorem dL_law_953 : decode cL_law 953 = .ok (.iconst 4, 1) := by decide +kernel
theorem dL_law_954 : decode cL_law 954 = .ok (.iadd, 1) := by decide +kernel
theorem dL_law_955 : decode cL_law 955 = .ok (.iaload, 1) := by decide +kernel
theorem dL_law_956 : decode cL_law 956 = .ok (.invokevirtual 118, 3) := by decide +kernel
theorem dL_law_959 : decode cL_law 959 = .ok (.aload_n 2, 1) := by decide +kernel
theorem dL_law_960 : decode cL_law 960 = .ok (.aload_n 0, 1) := by decide +kernel
theorem dL_law_961 : decode cL_law 961 = .ok (.iload_n 3, 1) := by decide +kernel
theorem dL_law_962 : decode cL_law 962 = .ok (.iconst 1, 1) := by decide +kernel
theorem dL_law_963 : decode cL_law 963 = .ok (.iadd, 1) := by decide +kernel
theorem dL_law_964 : decode cL_law 964 = .ok (.iaload, 1) := by decide +kernel
theorem dL_law_965 : decode cL_law 965 = .ok (.aload_n 0, 1) := by decide +kernel
theorem dL_law_966 : decode cL_law 966 = .ok (.iload_n 3, 1) := by decide +kernel
theorem dL_law_967 : decode cL_law 967 = .ok (.iconst 2, 1) := by decide +kernel
theorem dL_law_968 : decode cL_law 968 = .ok (.iadd, 1) := by decide +kernel
theorem dL_law_969 : decode cL_law 969 = .ok (.iaload, 1) := by decide +kernel
theorem dL_law_970 : decode cL_law 970 = .ok (.aload_n 0, 1) := by decide +kernel
theorem dL_law_971 : decode cL_law 971 = .ok (.iload_n 3, 1) := by decide +kernel
theorem dL_law_972 : decode cL_law 972 = .ok (.iconst 3, 1) := by decide +kernel
theorem dL_law_973 : decode cL_law 973 = .ok (.iadd, 1) := by decide +kernel
theorem dL_law_974 : decode cL_law 974 = .ok (.iaload, 1) := by decide +kernel
theorem dL_law_975 : decode cL_law 975 = .ok (.aload_n 0, 1) := by decide +kernel
theorem dL_law_976 : decode cL_law 976 = .ok (.iload_n 3, 1) := by decide +kernel
theorem dL_law_977 : decode cL_law 977 = .ok (.iconst 4, 1) := by decide +kernel
theorem dL_law_978 : decode cL_law 978 = .ok (.iadd, 1) := by decide +kernel
theorem dL_law_979 : decode cL_law 979 = .ok (.iaload, 1) := by decide +kernel
theorem dL_law_980 : decode cL_law 980 = .ok (.invokevirtual 122, 3) := by decide +kernel
theorem dL_law_983 : decode cL_law 983 = .ok (.if_icmp .eq 757, 3) := by decide +kernel
theorem dL_law_986 : decode cL_law 986 = .ok (.iconst 0, 1) := by decide +kernel
theorem dL_law_987 : decode cL_law 987 = .ok (.ireturn, 1) := by decide +kernel
theorem dL_law_988 : decode cL_law 988 = .ok (.aload_n 1, 1) := by decide +kernel
theorem dL_law_989 : decode cL_law 989 = .ok (.aload_n 0, 1) := by decide +kernel
theorem dL_law_990 : decode cL_law 990 = .ok (.iload_n 3, 1) := by decide +kernel
theorem dL_law_991 : decode cL_law 991 = .ok (.iconst 1, 1) := by decide +kernel
theorem dL_law_992 : decode cL_law 992 = .ok (.iadd, 1) := by decide +kernel
theorem dL_law_993 : decode cL_law 993 = .ok (.iaload, 1) := by decide +kernel
theorem dL_law_994 : decode cL_law 994 = .ok (.aload_n 0, 1) := by decide +kernel
theorem dL_law_995 : decode cL_law 995 = .ok (.iload_n 3, 1) := by decide +kernel
theorem dL_law_996 : decode cL_law 996 = .ok (.iconst 2, 1) := by decide +kernel
theorem dL_law_997 : decode cL_law 997 = .ok (.iadd, 1) := by decide +kernel
theorem dL_law_998 : decode cL_law 998 = .ok (.iaload, 1) := by decide +kernel
theorem dL_law_999 : decode cL_law 999 = .ok (.aload_n 0, 1) := by decide +kernel
theorem dL_law_1000 : decode cL_law 1000 = .ok (.iload_n 3, 1) := by decide +kernel
theorem dL_law_1001 : decode cL_law 1001 = .ok (.iconst 3, 1) := by decide +kernel
theorem dL_law_1002 : decode cL_law 1002 = .ok (.iadd, 1) := by decide +kernel
theorem dL_law_1003 : decode cL_law 1003 = .ok (.iaload, 1) := by decide +kernel
theorem dL_law_1004 : decode cL_law 1004 = .ok (.aload_n 0, 1) := by decide +kernel
theorem dL_law_1005 : decode cL_law 1005 = .ok (.iload_n 3, 1) := by decide +kernel
theorem dL_law_1006 : decode cL_law 1006 = .ok (.iconst 4, 1) := by decide +kernel
theorem dL_law_1007 : decode cL_law 1007 = .ok (.iadd, 1) := by decide +kernel
theorem dL_law_1008 : decode cL_law 1008 = .ok (.iaload, 1) := by decide +kernel
theorem dL_law_1009 : decode cL_law 1009 = .ok (.aload_n 0, 1) := by decide +kernel
theorem dL_law_1010 : decode cL_law 1010 = .ok (.iload_n 3, 1) := by decide +kernel
theorem dL_law_1011 : decode cL_law 1011 = .ok (.iconst 5, 1) := by decide +kernel
theorem dL_law_1012 : decode cL_law 1012 = .ok (.iadd, 1) := by decide +kernel
theorem dL_law_1013 : decode cL_law 1013 = .ok (.iaload, 1) := by decide +kernel
theorem dL_law_1014 : decode cL_law 1014 = .ok (.invokevirtual 123, 3) := by decide +kernel
theorem dL_law_1017 : decode cL_law 1017 = .ok (.aload_n 2, 1) := by decide +kernel
theorem dL_law_1018 : decode cL_law 1018 = .ok (.aload_n 0, 1) := by decide +kernel
theorem dL_law_1019 : decode cL_law 1019 = .ok (.iload_n 3, 1) := by decide +kernel
theorem dL_law_1020 : decode cL_law 1020 = .ok (.iconst 1, 1) := by decide +kernel
theorem dL_law_1021 : decode cL_law 1021 = .ok (.iadd, 1) := by decide +kernel
theorem dL_law_1022 : decode cL_law 1022 = .ok (.iaload, 1) := by decide +kernel
theorem dL_law_1023 : decode cL_law 1023 = .ok (.aload_n 0, 1) := by decide +kernel
theorem dL_law_1024 : decode cL_law 1024 = .ok (.iload_n 3, 1) := by decide +kernel
theorem dL_law_1025 : decode cL_law 1025 = .ok (.iconst 2, 1) := by decide +kernel
theorem dL_law_1026 : decode cL_law 1026 = .ok (.iadd, 1) := by decide +kernel
theorem dL_law_1027 : decode cL_law 1027 = .ok (.iaload, 1) := by decide +kernel
theorem dL_law_1028 : decode cL_law 1028 = .ok (.aload_n 0, 1) := by decide +kernel
theorem dL_law_1029 : decode cL_law 1029 = .ok (.iload_n 3, 1) := by decide +kernel
theorem dL_law_1030 : decode cL_law 1030 = .ok (.iconst 3, 1) := by decide +kernel
theorem dL_law_1031 : decode cL_law 1031 = .ok (.iadd, 1) := by decide +kernel
theorem dL_law_1032 : decode cL_law 1032 = .ok (.iaload, 1) := by decide +kernel
theorem dL_law_1033 : decode cL_law 1033 = .ok (.aload_n 0, 1) := by decide +kernel
theorem dL_law_1034 : decode cL_law 1034 = .ok (.iload_n 3, 1) := by decide +kernel
theorem dL_law_1035 : decode cL_law 1035 = .ok (.iconst 4, 1) := by decide +kernel
theorem dL_law_1036 : decode cL_law 1036 = .ok (.iadd, 1) := by decide +kernel
theorem dL_law_1037 : decode cL_law 1037 = .ok (.iaload, 1) := by decide +kernel
theorem dL_law_1038 : decode cL_law 1038 = .ok (.aload_n 0, 1) := by decide +kernel
theorem dL_law_1039 : decode cL_law 1039 = .ok (.iload_n 3, 1) := by decide +kernel
theorem dL_law_1040 : decode cL_law 1040 = .ok (.iconst 5, 1) := by decide +kernel
theorem dL_law_1041 : decode cL_law 1041 = .ok (.iadd, 1) := by decide +kernel
theorem dL_law_1042 : decode cL_law 1042 = .ok (.iaload, 1) := by decide +kernel
theorem dL_law_1043 : decode cL_law 1043 = .ok (.invokevirtual 126, 3) := by decide +kernel
theorem dL_law_1046 : decode cL_law 1046 = .ok (.if_icmp .eq 694, 3) := by decide +kernel
theorem dL_law_1049 : decode cL_law 1049 = .ok (.iconst 0, 1) := by decide +kernel
theorem dL_law_1050 : decode cL_law 1050 = .ok (.ireturn, 1) := by decide +kernel
theorem dL_law_1051 : decode cL_law 1051 = .ok (.aload_n 1, 1) := by decide +kernel
theorem dL_law_1052 : decode cL_law 1052 = .ok (.aload_n 0, 1) := by decide +kernel
theorem dL_law_1053 : decode cL_law 1053 = .ok (.iload_n 3, 1) := by decide +kernel
theorem dL_law_1054 : decode cL_law 1054 = .ok (.iconst 1, 1) := by decide +kernel
theorem dL_law_1055 : decode cL_law 1055 = .ok (.iadd, 1) := by decide +kernel
theorem dL_law_1056 : decode cL_law 1056 = .ok (.iaload, 1) := by decide +kernel
theorem dL_law_1057 : decode cL_law 1057 = .ok (.aload_n 0, 1) := by decide +kernel
theorem dL_law_1058 : decode cL_law 1058 = .ok (.iload_n 3, 1) := by decide +kernel
theorem dL_law_1059 : decode cL_law 1059 = .ok (.iconst 2, 1) := by decide +kernel
theorem dL_law_1060 : decode cL_law 1060 = .ok (.iadd, 1) := by decide +kernel
theorem dL_law_1061 : decode cL_law 1061 = .ok (.iaload, 1) := by decide +kernel
theorem dL_law_1062 : decode cL_law 1062 = .ok (.aload_n 0, 1) := by decide +kernel
theorem dL_law_1063 : decode cL_law 1063 = .ok (.iload_n 3, 1) := by decide +kernel
theorem dL_law_1064 : decode cL_law 1064 = .ok (.iconst 3, 1) := by decide +kernel
theorem dL_law_1065 : decode cL_law 1065 = .ok (.iadd, 1) := by decide +kernel
theorem dL_law_1066 : decode cL_law 1066 = .ok (.iaload, 1) := by decide +kernel
theorem dL_law_1067 : decode cL_law 1067 = .ok (.aload_n 0, 1) := by decide +kernel
theorem dL_law_1068 : decode cL_law 1068 = .ok (.iload_n 3, 1) := by decide +kernel
theorem dL_law_1069 : decode cL_law 1069 = .ok (.iconst 4, 1) := by decide +kernel
theorem dL_law_1070 : decode cL_law 1070 = .ok (.iadd, 1) := by decide +kernel
theorem dL_law_1071 : decode cL_law 1071 = .ok (.iaload, 1) := by decide +kernel
theorem dL_law_1072 : decode cL_law 1072 = .ok (.aload_n 0, 1) := by decide +kernel
theorem dL_law_1073 : decode cL_law 1073 = .ok (.iload_n 3, 1) := by decide +kernel
theorem dL_law_1074 : decode cL_law 1074 = .ok (.iconst 5, 1) := by decide +kernel
theorem dL_law_1075 : decode cL_law 1075 = .ok (.iadd, 1) := by decide +kernel
theorem dL_law_1076 : decode cL_law 1076 = .ok (.iaload, 1) := by decide +kernel
theorem dL_law_1077 : decode cL_law 1077 = .ok (.invokevirtual 127, 3) := by decide +kernel
theorem dL_law_1080 : decode cL_law 1080 = .ok (.aload_n 2, 1) := by decide +kernel
theorem dL_law_1081 : decode cL_law 1081 = .ok (.aload_n 0, 1) := by decide +kernel
theorem dL_law_1082 : decode cL_law 1082 = .ok (.iload_n 3, 1) := by decide +kernel
theorem dL_law_1083 : decode cL_law 1083 = .ok (.iconst 1, 1) := by decide +kernel
theorem dL_law_1084 : decode cL_law 1084 = .ok (.iadd, 1) := by decide +kernel
theorem dL_law_1085 : decode cL_law 1085 = .ok (.iaload, 1) := by decide +kernel
theorem dL_law_1086 : decode cL_law 1086 = .ok (.aload_n 0, 1) := by decide +kernel
theorem dL_law_1087 : decode cL_law 1087 = .ok (.iload_n 3, 1) := by decide +kernel
theorem dL_law_1088 : decode cL_law 1088 = .ok (.iconst 2, 1) := by decide +kernel
theorem dL_law_1089 : decode cL_law 1089 = .ok (.iadd, 1) := by decide +kernel
theorem dL_law_1090 : decode cL_law 1090 = .ok (.iaload, 1) := by decide +kernel
theorem dL_law_1091 : decode cL_law 1091 = .ok (.aload_n 0, 1) := by decide +kernel
theorem dL_law_1092 : decode cL_law 1092 = .ok (.iload_n 3, 1) := by decide +kernel
theorem dL_law_1093 : decode cL_law 1093 = .ok (.iconst 3, 1) := by decide +kernel
theorem dL_law_1094 : decode cL_law 1094 = .ok (.iadd, 1) := by decide +kernel
theorem dL_law_1095 : decode cL_law 1095 = .ok (.iaload, 1) := by decide +kernel
theorem dL_law_1096 : decode cL_law 1096 = .ok (.aload_n 0, 1) := by decide +kernel
theorem dL_law_1097 : decode cL_law 1097 = .ok (.iload_n 3, 1) := by decide +kernel
theorem dL_law_1098 : decode cL_law 1098 = .ok (.iconst 4, 1) := by decide +kernel
theorem dL_law_1099 : decode cL_law 1099 = .ok (.iadd, 1) := by decide +kernel
theorem dL_law_1100 : decode cL_law 1100 = .ok (.iaload, 1) := by decide +kernel
theorem dL_law_1101 : decode cL_law 1101 = .ok (.aload_n 0, 1) := by decide +kernel
theorem dL_law_1102 : decode cL_law 1102 = .ok (.iload_n 3, 1) := by decide +kernel
theorem dL_law_1103 : decode cL_law 1103 = .ok (.iconst 5, 1) := by decide +kernel
theorem dL_law_1104 : decode cL_law 1104 = .ok (.iadd, 1) := by decide +kernel
theorem dL_law_1105 : decode cL_law 1105 = .ok (.iaload, 1) := by decide +kernel
theorem dL_law_1106 : decode cL_law 1106 = .ok (.invokevirtual 131, 3) := by decide +kernel
theorem dL_law_1109 : decode cL_law 1109 = .ok (.lcmp, 1) := by decide +kernel
theorem dL_law_1110 : decode cL_law 1110 = .ok (.ifCond .eq 630, 3) := by decide +kernel
theorem dL_law_1113 : decode cL_law 1113 = .ok (.iconst 0, 1) := by decide +kernel
theorem dL_law_1114 : decode cL_law 1114 = .ok (.ireturn, 1) := by decide +kernel
theorem dL_law_1115 : decode cL_law 1115 = .ok (.aload_n 1, 1) := by decide +kernel
theorem dL_law_1116 : decode cL_law 1116 = .ok (.aload_n 0, 1) := by decide +kernel
theorem dL_law_1117 : decode cL_law 1117 = .ok (.iload_n 3, 1) := by decide +kernel
theorem dL_law_1118 : decode cL_law 1118 = .ok (.iconst 1, 1) := by decide +kernel
theorem dL_law_1119 : decode cL_law 1119 = .ok (.iadd, 1) := by decide +kernel
theorem dL_law_1120 : decode cL_law 1120 = .ok (.iaload, 1) := by decide +kernel
theorem dL_law_1121 : decode cL_law 1121 = .ok (.invokevirtual 132, 3) := by decide +kernel
theorem dL_law_1124 : decode cL_law 1124 = .ok (.aload_n 2, 1) := by decide +kernel
theorem dL_law_1125 : decode cL_law 1125 = .ok (.aload_n 0, 1) := by decide +kernel
theorem dL_law_1126 : decode cL_law 1126 = .ok (.iload_n 3, 1) := by decide +kernel
theorem dL_law_1127 : decode cL_law 1127 = .ok (.iconst 1, 1) := by decide +kernel
theorem dL_law_1128 : decode cL_law 1128 = .ok (.iadd, 1) := by decide +kernel
theorem dL_law_1129 : decode cL_law 1129 = .ok (.iaload, 1) := by decide +kernel
theorem dL_law_1130 : decode cL_law 1130 = .ok (.invokevirtual 135, 3) := by decide +kernel
theorem dL_law_1133 : decode cL_law 1133 = .ok (.if_icmp .eq 607, 3) := by decide +kernel
theorem dL_law_1136 : decode cL_law 1136 = .ok (.iconst 0, 1) := by decide +kernel
theorem dL_law_1137 : decode cL_law 1137 = .ok (.ireturn, 1) := by decide +kernel
theorem dL_law_1138 : decode cL_law 1138 = .ok (.aload_n 1, 1) := by decide +kernel
theorem dL_law_1139 : decode cL_law 1139 = .ok (.aload_n 0, 1) := by decide +kernel
theorem dL_law_1140 : decode cL_law 1140 = .ok (.iload_n 3, 1) := by decide +kernel
theorem dL_law_1141 : decode cL_law 1141 = .ok (.iconst 1, 1) := by decide +kernel
theorem dL_law_1142 : decode cL_law 1142 = .ok (.iadd, 1) := by decide +kernel
theorem dL_law_1143 : decode cL_law 1143 = .ok (.iaload, 1) := by decide +kernel
theorem dL_law_1144 : decode cL_law 1144 = .ok (.aload_n 0, 1) := by decide +kernel
theorem dL_law_1145 : decode cL_law 1145 = .ok (.iload_n 3, 1) := by decide +kernel
theorem dL_law_1146 : decode cL_law 1146 = .ok (.iconst 2, 1) := by decide +kernel
theorem dL_law_1147 : decode cL_law 1147 = .ok (.iadd, 1) := by decide +kernel
theorem dL_law_1148 : decode cL_law 1148 = .ok (.iaload, 1) := by decide +kernel
theorem dL_law_1149 : decode cL_law 1149 = .ok (.invokevirtual 136, 3) := by decide +kernel
theorem dL_law_1152 : decode cL_law 1152 = .ok (.aload_n 2, 1) := by decide +kernel
theorem dL_law_1153 : decode cL_law 1153 = .ok (.aload_n 0, 1) := by decide +kernel
theorem dL_law_1154 : decode cL_law 1154 = .ok (.iload_n 3, 1) := by decide +kernel
theorem dL_law_1155 : decode cL_law 1155 = .ok (.iconst 1, 1) := by decide +kernel
theorem dL_law_1156 : decode cL_law 1156 = .ok (.iadd, 1) := by decide +kernel
theorem dL_law_1157 : decode cL_law 1157 = .ok (.iaload, 1) := by decide +kernel
theorem dL_law_1158 : decode cL_law 1158 = .ok (.aload_n 0, 1) := by decide +kernel
theorem dL_law_1159 : decode cL_law 1159 = .ok (.iload_n 3, 1) := by decide +kernel
theorem dL_law_1160 : decode cL_law 1160 = .ok (.iconst 2, 1) := by decide +kernel
theorem dL_law_1161 : decode cL_law 1161 = .ok (.iadd, 1) := by decide +kernel
theorem dL_law_1162 : decode cL_law 1162 = .ok (.iaload, 1) := by decide +kernel
theorem dL_law_1163 : decode cL_law 1163 = .ok (.invokevirtual 139, 3) := by decide +kernel
theorem dL_law_1166 : decode cL_law 1166 = .ok (.if_icmp .eq 574, 3) := by decide +kernel
theorem dL_law_1169 : decode cL_law 1169 = .ok (.iconst 0, 1) := by decide +kernel
theorem dL_law_1170 : decode cL_law 1170 = .ok (.ireturn, 1) := by decide +kernel
theorem dL_law_1171 : decode cL_law 1171 = .ok (.aload_n 1, 1) := by decide +kernel
theorem dL_law_1172 : decode cL_law 1172 = .ok (.aload_n 0, 1) := by decide +kernel
theorem dL_law_1173 : decode cL_law 1173 = .ok (.iload_n 3, 1) := by decide +kernel
theorem dL_law_1174 : decode cL_law 1174 = .ok (.iconst 1, 1) := by decide +kernel
theorem dL_law_1175 : decode cL_law 1175 = .ok (.iadd, 1) := by decide +kernel
theorem dL_law_1176 : decode cL_law 1176 = .ok (.iaload, 1) := by decide +kernel
theorem dL_law_1177 : decode cL_law 1177 = .ok (.aload_n 0, 1) := by decide +kernel
theorem dL_law_1178 : decode cL_law 1178 = .ok (.iload_n 3, 1) := by decide +kernel
theorem dL_law_1179 : decode cL_law 1179 = .ok (.iconst 2, 1) := by decide +kernel
theorem dL_law_1180 : decode cL_law 1180 = .ok (.iadd, 1) := by decide +kernel
theorem dL_law_1181 : decode cL_law 1181 = .ok (.iaload, 1) := by decide +kernel
theorem dL_law_1182 : decode cL_law 1182 = .ok (.aload_n 0, 1) := by decide +kernel
theorem dL_law_1183 : decode cL_law 1183 = .ok (.iload_n 3, 1) := by decide +kernel
theorem dL_law_1184 : decode cL_law 1184 = .ok (.iconst 3, 1) := by decide +kernel
theorem dL_law_1185 : decode cL_law 1185 = .ok (.iadd, 1) := by decide +kernel
theorem dL_law_1186 : decode cL_law 1186 = .ok (.iaload, 1) := by decide +kernel
theorem dL_law_1187 : decode cL_law 1187 = .ok (.invokevirtual 140, 3) := by decide +kernel
theorem dL_law_1190 : decode cL_law 1190 = .ok (.aload_n 2, 1) := by decide +kernel
theorem dL_law_1191 : decode cL_law 1191 = .ok (.aload_n 0, 1) := by decide +kernel
theorem dL_law_1192 : decode cL_law 1192 = .ok (.iload_n 3, 1) := by decide +kernel
theorem dL_law_1193 : decode cL_law 1193 = .ok (.iconst 1, 1) := by decide +kernel
theorem dL_law_1194 : decode cL_law 1194 = .ok (.iadd, 1) := by decide +kernel
theorem dL_law_1195 : decode cL_law 1195 = .ok (.iaload, 1) := by decide +kernel
theorem dL_law_1196 : decode cL_law 1196 = .ok (.aload_n 0, 1) := by decide +kernel
theorem dL_law_1197 : decode cL_law 1197 = .ok (.iload_n 3, 1) := by decide +kernel
theorem dL_law_1198 : decode cL_law 1198 = .ok (.iconst 2, 1) := by decide +kernel
theorem dL_law_1199 : decode cL_law 1199 = .ok (.iadd, 1) := by decide +kernel
theorem dL_law_1200 : decode cL_law 1200 = .ok (.iaload, 1) := by decide +kernel
theorem dL_law_1201 : decode cL_law 1201 = .ok (.aload_n 0, 1) := by decide +kernel
theorem dL_law_1202 : decode cL_law 1202 = .ok (.iload_n 3, 1) := by decide +kernel
theorem dL_law_1203 : decode cL_law 1203 = .ok (.iconst 3, 1) := by decide +kernel
theorem dL_law_1204 : decode cL_law 1204 = .ok (.iadd, 1) := by decide +kernel
theorem dL_law_1205 : decode cL_law 1205 = .ok (.iaload, 1) := by decide +kernel
theorem dL_law_1206 : decode cL_law 1206 = .ok (.invokevirtual 143, 3) := by decide +kernel
theorem dL_law_1209 : decode cL_law 1209 = .ok (.lcmp, 1) := by decide +kernel
theorem dL_law_1210 : decode cL_law 1210 = .ok (.ifCond .eq 530, 3) := by decide +kernel
theorem dL_law_1213 : decode cL_law 1213 = .ok (.iconst 0, 1) := by decide +kernel
theorem dL_law_1214 : decode cL_law 1214 = .ok (.ireturn, 1) := by decide +kernel
theorem dL_law_1215 : decode cL_law 1215 = .ok (.aload_n 1, 1) := by decide +kernel
theorem dL_law_1216 : decode cL_law 1216 = .ok (.aload_n 0, 1) := by decide +kernel
theorem dL_law_1217 : decode cL_law 1217 = .ok (.iload_n 3, 1) := by decide +kernel
theorem dL_law_1218 : decode cL_law 1218 = .ok (.iconst 1, 1) := by decide +kernel
theorem dL_law_1219 : decode cL_law 1219 = .ok (.iadd, 1) := by decide +kernel
theorem dL_law_1220 : decode cL_law 1220 = .ok (.iaload, 1) := by decide +kernel
theorem dL_law_1221 : decode cL_law 1221 = .ok (.aload_n 0, 1) := by decide +kernel
theorem dL_law_1222 : decode cL_law 1222 = .ok (.iload_n 3, 1) := by decide +kernel
theorem dL_law_1223 : decode cL_law 1223 = .ok (.iconst 2, 1) := by decide +kernel
theorem dL_law_1224 : decode cL_law 1224 = .ok (.iadd, 1) := by decide +kernel
theorem dL_law_1225 : decode cL_law 1225 = .ok (.iaload, 1) := by decide +kernel
theorem dL_law_1226 : decode cL_law 1226 = .ok (.aload_n 0, 1) := by decide +kernel
theorem dL_law_1227 : decode cL_law 1227 = .ok (.iload_n 3, 1) := by decide +kernel
theorem dL_law_1228 : decode cL_law 1228 = .ok (.iconst 3, 1) := by decide +kernel
theorem dL_law_1229 : decode cL_law 1229 = .ok (.iadd, 1) := by decide +kernel
theorem dL_law_1230 : decode cL_law 1230 = .ok (.iaload, 1) := by decide +kernel
theorem dL_law_1231 : decode cL_law 1231 = .ok (.invokevirtual 144, 3) := by decide +kernel
theorem dL_law_1234 : decode cL_law 1234 = .ok (.aload_n 2, 1) := by decide +kernel
theorem dL_law_1235 : decode cL_law 1235 = .ok (.aload_n 0, 1) := by decide +kernel
theorem dL_law_1236 : decode cL_law 1236 = .ok (.iload_n 3, 1) := by decide +kernel
theorem dL_law_1237 : decode cL_law 1237 = .ok (.iconst 1, 1) := by decide +kernel
theorem dL_law_1238 : decode cL_law 1238 = .ok (.iadd, 1) := by decide +kernel
theorem dL_law_1239 : decode cL_law 1239 = .ok (.iaload, 1) := by decide +kernel
theorem dL_law_1240 : decode cL_law 1240 = .ok (.aload_n 0, 1) := by decide +kernel
theorem dL_law_1241 : decode cL_law 1241 = .ok (.iload_n 3, 1) := by decide +kernel
theorem dL_law_1242 : decode cL_law 1242 = .ok (.iconst 2, 1) := by decide +kernel
theorem dL_law_1243 : decode cL_law 1243 = .ok (.iadd, 1) := by decide +kernel
theorem dL_law_1244 : decode cL_law 1244 = .ok (.iaload, 1) := by decide +kernel
theorem dL_law_1245 : decode cL_law 1245 = .ok (.aload_n 0, 1) := by decide +kernel
theorem dL_law_1246 : decode cL_law 1246 = .ok (.iload_n 3, 1) := by decide +kernel
theorem dL_law_1247 : decode cL_law 1247 = .ok (.iconst 3, 1) := by decide +kernel
theorem dL_law_1248 : decode cL_law 1248 = .ok (.iadd, 1) := by decide +kernel
theorem dL_law_1249 : decode cL_law 1249 = .ok (.iaload, 1) := by decide +kernel
theorem dL_law_1250 : decode cL_law 1250 = .ok (.invokevirtual 147, 3) := by decide +kernel
theorem dL_law_1253 : decode cL_law 1253 = .ok (.lcmp, 1) := by decide +kernel
theorem dL_law_1254 : decode cL_law 1254 = .ok (.ifCond .eq 486, 3) := by decide +kernel
theorem dL_law_1257 : decode cL_law 1257 = .ok (.iconst 0, 1) := by decide +kernel
theorem dL_law_1258 : decode cL_law 1258 = .ok (.ireturn, 1) := by decide +kernel
theorem dL_law_1259 : decode cL_law 1259 = .ok (.aload_n 1, 1) := by decide +kernel
theorem dL_law_1260 : decode cL_law 1260 = .ok (.aload_n 0, 1) := by decide +kernel
theorem dL_law_1261 : decode cL_law 1261 = .ok (.iload_n 3, 1) := by decide +kernel
theorem dL_law_1262 : decode cL_law 1262 = .ok (.iconst 1, 1) := by decide +kernel
theorem dL_law_1263 : decode cL_law 1263 = .ok (.iadd, 1) := by decide +kernel
theorem dL_law_1264 : decode cL_law 1264 = .ok (.iaload, 1) := by decide +kernel
theorem dL_law_1265 : decode cL_law 1265 = .ok (.aload_n 0, 1) := by decide +kernel
theorem dL_law_1266 : decode cL_law 1266 = .ok (.iload_n 3, 1) := by decide +kernel
theorem dL_law_1267 : decode cL_law 1267 = .ok (.iconst 2, 1) := by decide +kernel
theorem dL_law_1268 : decode cL_law 1268 = .ok (.iadd, 1) := by decide +kernel
theorem dL_law_1269 : decode cL_law 1269 = .ok (.iaload, 1) := by decide +kernel
theorem dL_law_1270 : decode cL_law 1270 = .ok (.aload_n 0, 1) := by decide +kernel
theorem dL_law_1271 : decode cL_law 1271 = .ok (.iload_n 3, 1) := by decide +kernel
theorem dL_law_1272 : decode cL_law 1272 = .ok (.iconst 3, 1) := by decide +kernel
theorem dL_law_1273 : decode cL_law 1273 = .ok (.iadd, 1) := by decide +kernel
theorem dL_law_1274 : decode cL_law 1274 = .ok (.iaload, 1) := by decide +kernel
theorem dL_law_1275 : decode cL_law 1275 = .ok (.invokevirtual 148, 3) := by decide +kernel
theorem dL_law_1278 : decode cL_law 1278 = .ok (.aload_n 2, 1) := by decide +kernel
theorem dL_law_1279 : decode cL_law 1279 = .ok (.aload_n 0, 1) := by decide +kernel
theorem dL_law_1280 : decode cL_law 1280 = .ok (.iload_n 3, 1) := by decide +kernel
theorem dL_law_1281 : decode cL_law 1281 = .ok (.iconst 1, 1) := by decide +kernel
theorem dL_law_1282 : decode cL_law 1282 = .ok (.iadd, 1) := by decide +kernel
theorem dL_law_1283 : decode cL_law 1283 = .ok (.iaload, 1) := by decide +kernel
theorem dL_law_1284 : decode cL_law 1284 = .ok (.aload_n 0, 1) := by decide +kernel
theorem dL_law_1285 : decode cL_law 1285 = .ok (.iload_n 3, 1) := by decide +kernel
theorem dL_law_1286 : decode cL_law 1286 = .ok (.iconst 2, 1) := by decide +kernel
theorem dL_law_1287 : decode cL_law 1287 = .ok (.iadd, 1) := by decide +kernel
theorem dL_law_1288 : decode cL_law 1288 = .ok (.iaload, 1) := by decide +kernel
theorem dL_law_1289 : decode cL_law 1289 = .ok (.aload_n 0, 1) := by decide +kernel
theorem dL_law_1290 : decode cL_law 1290 = .ok (.iload_n 3, 1) := by decide +kernel
theorem dL_law_1291 : decode cL_law 1291 = .ok (.iconst 3, 1) := by decide +kernel
theorem dL_law_1292 : decode cL_law 1292 = .ok (.iadd, 1) := by decide +kernel
theorem dL_law_1293 : decode cL_law 1293 = .ok (.iaload, 1) := by decide +kernel
theorem dL_law_1294 : decode cL_law 1294 = .ok (.invokevirtual 151, 3) := by decide +kernel
theorem dL_law_1297 : decode cL_law 1297 = .ok (.if_icmp .eq 443, 3) := by decide +kernel
theorem dL_law_1300 : decode cL_law 1300 = .ok (.iconst 0, 1) := by decide +kernel
theorem dL_law_1301 : decode cL_law 1301 = .ok (.ireturn, 1) := by decide +kernel
theorem dL_law_1302 : decode cL_law 1302 = .ok (.aload_n 1, 1) := by decide +kernel
theorem dL_law_1303 : decode cL_law 1303 = .ok (.aload_n 0, 1) := by decide +kernel
theorem dL_law_1304 : decode cL_law 1304 = .ok (.iload_n 3, 1) := by decide +kernel
theorem dL_law_1305 : decode cL_law 1305 = .ok (.iconst 1, 1) := by decide +kernel
theorem dL_law_1306 : decode cL_law 1306 = .ok (.iadd, 1) := by decide +kernel
theorem dL_law_1307 : decode cL_law 1307 = .ok (.iaload, 1) := by decide +kernel
theorem dL_law_1308 : decode cL_law 1308 = .ok (.aload_n 0, 1) := by decide +kernel
theorem dL_law_1309 : decode cL_law 1309 = .ok (.iload_n 3, 1) := by decide +kernel
theorem dL_law_1310 : decode cL_law 1310 = .ok (.iconst 2, 1) := by decide +kernel
theorem dL_law_1311 : decode cL_law 1311 = .ok (.iadd, 1) := by decide +kernel
theorem dL_law_1312 : decode cL_law 1312 = .ok (.iaload, 1) := by decide +kernel
theorem dL_law_1313 : decode cL_law 1313 = .ok (.aload_n 0, 1) := by decide +kernel
theorem dL_law_1314 : decode cL_law 1314 = .ok (.iload_n 3, 1) := by decide +kernel
theorem dL_law_1315 : decode cL_law 1315 = .ok (.iconst 3, 1) := by decide +kernel
theorem dL_law_1316 : decode cL_law 1316 = .ok (.iadd, 1) := by decide +kernel
theorem dL_law_1317 : decode cL_law 1317 = .ok (.iaload, 1) := by decide +kernel
theorem dL_law_1318 : decode cL_law 1318 = .ok (.aload_n 0, 1) := by decide +kernel
theorem dL_law_1319 : decode cL_law 1319 = .ok (.iload_n 3, 1) := by decide +kernel
theorem dL_law_1320 : decode cL_law 1320 = .ok (.iconst 4, 1) := by decide +kernel
theorem dL_law_1321 : decode cL_law 1321 = .ok (.iadd, 1) := by decide +kernel
theorem dL_law_1322 : decode cL_law 1322 = .ok (.iaload, 1) := by decide +kernel
theorem dL_law_1323 : decode cL_law 1323 = .ok (.invokevirtual 152, 3) := by decide +kernel
theorem dL_law_1326 : decode cL_law 1326 = .ok (.aload_n 2, 1) := by decide +kernel
theorem dL_law_1327 : decode cL_law 1327 = .ok (.aload_n 0, 1) := by decide +kernel
theorem dL_law_1328 : decode cL_law 1328 = .ok (.iload_n 3, 1) := by decide +kernel
theorem dL_law_1329 : decode cL_law 1329 = .ok (.iconst 1, 1) := by decide +kernel
theorem dL_law_1330 : decode cL_law 1330 = .ok (.iadd, 1) := by decide +kernel
theorem dL_law_1331 : decode cL_law 1331 = .ok (.iaload, 1) := by decide +kernel
theorem dL_law_1332 : decode cL_law 1332 = .ok (.aload_n 0, 1) := by decide +kernel
theorem dL_law_1333 : decode cL_law 1333 = .ok (.iload_n 3, 1) := by decide +kernel
theorem dL_law_1334 : decode cL_law 1334 = .ok (.iconst 2, 1) := by decide +kernel
theorem dL_law_1335 : decode cL_law 1335 = .ok (.iadd, 1) := by decide +kernel
theorem dL_law_1336 : decode cL_law 1336 = .ok (.iaload, 1) := by decide +kernel
theorem dL_law_1337 : decode cL_law 1337 = .ok (.aload_n 0, 1) := by decide +kernel
theorem dL_law_1338 : decode cL_law 1338 = .ok (.iload_n 3, 1) := by decide +kernel
theorem dL_law_1339 : decode cL_law 1339 = .ok (.iconst 3, 1) := by decide +kernel
theorem dL_law_1340 : decode cL_law 1340 = .ok (.iadd, 1) := by decide +kernel
theorem dL_law_1341 : decode cL_law 1341 = .ok (.iaload, 1) := by decide +kernel
theorem dL_law_1342 : decode cL_law 1342 = .ok (.aload_n 0, 1) := by decide +kernel
theorem dL_law_1343 : decode cL_law 1343 = .ok (.iload_n 3, 1) := by decide +kernel
theorem dL_law_1344 : decode cL_law 1344 = .ok (.iconst 4, 1) := by decide +kernel
theorem dL_law_1345 : decode cL_law 1345 = .ok (.iadd, 1) := by decide +kernel
theorem dL_law_1346 : decode cL_law 1346 = .ok (.iaload, 1) := by decide +kernel
theorem dL_law_1347 : decode cL_law 1347 = .ok (.invokevirtual 155, 3) := by decide +kernel
theorem dL_law_1350 : decode cL_law 1350 = .ok (.if_icmp .eq 390, 3) := by decide +kernel
theorem dL_law_1353 : decode cL_law 1353 = .ok (.iconst 0, 1) := by decide +kernel
theorem dL_law_1354 : decode cL_law 1354 = .ok (.ireturn, 1) := by decide +kernel
theorem dL_law_1355 : decode cL_law 1355 = .ok (.aload_n 1, 1) := by decide +kernel
theorem dL_law_1356 : decode cL_law 1356 = .ok (.aload_n 0, 1) := by decide +kernel
theorem dL_law_1357 : decode cL_law 1357 = .ok (.iload_n 3, 1) := by decide +kernel
theorem dL_law_1358 : decode cL_law 1358 = .ok (.iconst 1, 1) := by decide +kernel
theorem dL_law_1359 : decode cL_law 1359 = .ok (.iadd, 1) := by decide +kernel
theorem dL_law_1360 : decode cL_law 1360 = .ok (.iaload, 1) := by decide +kernel
theorem dL_law_1361 : decode cL_law 1361 = .ok (.aload_n 0, 1) := by decide +kernel
theorem dL_law_1362 : decode cL_law 1362 = .ok (.iload_n 3, 1) := by decide +kernel
theorem dL_law_1363 : decode cL_law 1363 = .ok (.iconst 2, 1) := by decide +kernel
theorem dL_law_1364 : decode cL_law 1364 = .ok (.iadd, 1) := by decide +kernel
theorem dL_law_1365 : decode cL_law 1365 = .ok (.iaload, 1) := by decide +kernel
theorem dL_law_1366 : decode cL_law 1366 = .ok (.aload_n 0, 1) := by decide +kernel
theorem dL_law_1367 : decode cL_law 1367 = .ok (.iload_n 3, 1) := by decide +kernel
theorem dL_law_1368 : decode cL_law 1368 = .ok (.iconst 3, 1) := by decide +kernel
theorem dL_law_1369 : decode cL_law 1369 = .ok (.iadd, 1) := by decide +kernel
theorem dL_law_1370 : decode cL_law 1370 = .ok (.iaload, 1) := by decide +kernel
theorem dL_law_1371 : decode cL_law 1371 = .ok (.aload_n 0, 1) := by decide +kernel
theorem dL_law_1372 : decode cL_law 1372 = .ok (.iload_n 3, 1) := by decide +kernel
theorem dL_law_1373 : decode cL_law 1373 = .ok (.iconst 4, 1) := by decide +kernel
theorem dL_law_1374 : decode cL_law 1374 = .ok (.iadd, 1) := by decide +kernel
theorem dL_law_1375 : decode cL_law 1375 = .ok (.iaload, 1) := by decide +kernel
theorem dL_law_1376 : decode cL_law 1376 = .ok (.invokevirtual 156, 3) := by decide +kernel
theorem dL_law_1379 : decode cL_law 1379 = .ok (.aload_n 2, 1) := by decide +kernel
theorem dL_law_1380 : decode cL_law 1380 = .ok (.aload_n 0, 1) := by decide +kernel
theorem dL_law_1381 : decode cL_law 1381 = .ok (.iload_n 3, 1) := by decide +kernel
theorem dL_law_1382 : decode cL_law 1382 = .ok (.iconst 1, 1) := by decide +kernel
theorem dL_law_1383 : decode cL_law 1383 = .ok (.iadd, 1) := by decide +kernel
theorem dL_law_1384 : decode cL_law 1384 = .ok (.iaload, 1) := by decide +kernel
theorem dL_law_1385 : decode cL_law 1385 = .ok (.aload_n 0, 1) := by decide +kernel
theorem dL_law_1386 : decode cL_law 1386 = .ok (.iload_n 3, 1) := by decide +kernel
theorem dL_law_1387 : decode cL_law 1387 = .ok (.iconst 2, 1) := by decide +kernel
theorem dL_law_1388 : decode cL_law 1388 = .ok (.iadd, 1) := by decide +kernel
theorem dL_law_1389 : decode cL_law 1389 = .ok (.iaload, 1) := by decide +kernel
theorem dL_law_1390 : decode cL_law 1390 = .ok (.aload_n 0, 1) := by decide +kernel
theorem dL_law_1391 : decode cL_law 1391 = .ok (.iload_n 3, 1) := by decide +kernel
theorem dL_law_1392 : decode cL_law 1392 = .ok (.iconst 3, 1) := by decide +kernel
theorem dL_law_1393 : decode cL_law 1393 = .ok (.iadd, 1) := by decide +kernel
theorem dL_law_1394 : decode cL_law 1394 = .ok (.iaload, 1) := by decide +kernel
theorem dL_law_1395 : decode cL_law 1395 = .ok (.aload_n 0, 1) := by decide +kernel
theorem dL_law_1396 : decode cL_law 1396 = .ok (.iload_n 3, 1) := by decide +kernel
theorem dL_law_1397 : decode cL_law 1397 = .ok (.iconst 4, 1) := by decide +kernel
theorem dL_law_1398 : decode cL_law 1398 = .ok (.iadd, 1) := by decide +kernel
theorem dL_law_1399 : decode cL_law 1399 = .ok (.iaload, 1) := by decide +kernel
theorem dL_law_1400 : decode cL_law 1400 = .ok (.invokevirtual 159, 3) := by decide +kernel
theorem dL_law_1403 : decode cL_law 1403 = .ok (.lcmp, 1) := by decide +kernel
theorem dL_law_1404 : decode cL_law 1404 = .ok (.ifCond .eq 336, 3) := by decide +kernel
theorem dL_law_1407 : decode cL_law 1407 = .ok (.iconst 0, 1) := by decide +kernel
theorem dL_law_1408 : decode cL_law 1408 = .ok (.ireturn, 1) := by decide +kernel
theorem dL_law_1409 : decode cL_law 1409 = .ok (.aload_n 1, 1) := by decide +kernel
theorem dL_law_1410 : decode cL_law 1410 = .ok (.aload_n 0, 1) := by decide +kernel
theorem dL_law_1411 : decode cL_law 1411 = .ok (.iload_n 3, 1) := by decide +kernel
theorem dL_law_1412 : decode cL_law 1412 = .ok (.iconst 1, 1) := by decide +kernel
theorem dL_law_1413 : decode cL_law 1413 = .ok (.iadd, 1) := by decide +kernel
theorem dL_law_1414 : decode cL_law 1414 = .ok (.iaload, 1) := by decide +kernel
theorem dL_law_1415 : decode cL_law 1415 = .ok (.aload_n 0, 1) := by decide +kernel
theorem dL_law_1416 : decode cL_law 1416 = .ok (.iload_n 3, 1) := by decide +kernel
theorem dL_law_1417 : decode cL_law 1417 = .ok (.iconst 2, 1) := by decide +kernel
theorem dL_law_1418 : decode cL_law 1418 = .ok (.iadd, 1) := by decide +kernel
theorem dL_law_1419 : decode cL_law 1419 = .ok (.iaload, 1) := by decide +kernel
theorem dL_law_1420 : decode cL_law 1420 = .ok (.invokevirtual 160, 3) := by decide +kernel
theorem dL_law_1423 : decode cL_law 1423 = .ok (.aload_n 2, 1) := by decide +kernel
theorem dL_law_1424 : decode cL_law 1424 = .ok (.aload_n 0, 1) := by decide +kernel
theorem dL_law_1425 : decode cL_law 1425 = .ok (.iload_n 3, 1) := by decide +kernel
theorem dL_law_1426 : decode cL_law 1426 = .ok (.iconst 1, 1) := by decide +kernel
theorem dL_law_1427 : decode cL_law 1427 = .ok (.iadd, 1) := by decide +kernel
theorem dL_law_1428 : decode cL_law 1428 = .ok (.iaload, 1) := by decide +kernel
theorem dL_law_1429 : decode cL_law 1429 = .ok (.aload_n 0, 1) := by decide +kernel
theorem dL_law_1430 : decode cL_law 1430 = .ok (.iload_n 3, 1) := by decide +kernel
theorem dL_law_1431 : decode cL_law 1431 = .ok (.iconst 2, 1) := by decide +kernel
theorem dL_law_1432 : decode cL_law 1432 = .ok (.iadd, 1) := by decide +kernel
theorem dL_law_1433 : decode cL_law 1433 = .ok (.iaload, 1) := by decide +kernel
theorem dL_law_1434 : decode cL_law 1434 = .ok (.invokevirtual 163, 3) := by decide +kernel
theorem dL_law_1437 : decode cL_law 1437 = .ok (.if_icmp .eq 303, 3) := by decide +kernel
theorem dL_law_1440 : decode cL_law 1440 = .ok (.iconst 0, 1) := by decide +kernel
theorem dL_law_1441 : decode cL_law 1441 = .ok (.ireturn, 1) := by decide +kernel
theorem dL_law_1442 : decode cL_law 1442 = .ok (.aload_n 1, 1) := by decide +kernel
theorem dL_law_1443 : decode cL_law 1443 = .ok (.aload_n 0, 1) := by decide +kernel
theorem dL_law_1444 : decode cL_law 1444 = .ok (.iload_n 3, 1) := by decide +kernel
theorem dL_law_1445 : decode cL_law 1445 = .ok (.iconst 1, 1) := by decide +kernel
theorem dL_law_1446 : decode cL_law 1446 = .ok (.iadd, 1) := by decide +kernel
theorem dL_law_1447 : decode cL_law 1447 = .ok (.iaload, 1) := by decide +kernel
theorem dL_law_1448 : decode cL_law 1448 = .ok (.aload_n 0, 1) := by decide +kernel
theorem dL_law_1449 : decode cL_law 1449 = .ok (.iload_n 3, 1) := by decide +kernel
theorem dL_law_1450 : decode cL_law 1450 = .ok (.iconst 2, 1) := by decide +kernel
theorem dL_law_1451 : decode cL_law 1451 = .ok (.iadd, 1) := by decide +kernel
theorem dL_law_1452 : decode cL_law 1452 = .ok (.iaload, 1) := by decide +kernel
theorem dL_law_1453 : decode cL_law 1453 = .ok (.aload_n 0, 1) := by decide +kernel
theorem dL_law_1454 : decode cL_law 1454 = .ok (.iload_n 3, 1) := by decide +kernel
theorem dL_law_1455 : decode cL_law 1455 = .ok (.iconst 3, 1) := by decide +kernel
theorem dL_law_1456 : decode cL_law 1456 = .ok (.iadd, 1) := by decide +kernel
theorem dL_law_1457 : decode cL_law 1457 = .ok (.iaload, 1) := by decide +kernel
theorem dL_law_1458 : decode cL_law 1458 = .ok (.invokevirtual 164, 3) := by decide +kernel
theorem dL_law_1461 : decode cL_law 1461 = .ok (.aload_n 2, 1) := by decide +kernel
theorem dL_law_1462 : decode cL_law 1462 = .ok (.aload_n 0, 1) := by decide +kernel
theorem dL_law_1463 : decode cL_law 1463 = .ok (.iload_n 3, 1) := by decide +kernel
theorem dL_law_1464 : decode cL_law 1464 = .ok (.iconst 1, 1) := by decide +kernel
theorem dL_law_1465 : decode cL_law 1465 = .ok (.iadd, 1) := by decide +kernel
theorem dL_law_1466 : decode cL_law 1466 = .ok (.iaload, 1) := by decide +kernel
theorem dL_law_1467 : decode cL_law 1467 = .ok (.aload_n 0, 1) := by decide +kernel
theorem dL_law_1468 : decode cL_law 1468 = .ok (.iload_n 3, 1) := by decide +kernel
theorem dL_law_1469 : decode cL_law 1469 = .ok (.iconst 2, 1) := by decide +kernel
theorem dL_law_1470 : decode cL_law 1470 = .ok (.iadd, 1) := by decide +kernel
theorem dL_law_1471 : decode cL_law 1471 = .ok (.iaload, 1) := by decide +kernel
theorem dL_law_1472 : decode cL_law 1472 = .ok (.aload_n 0, 1) := by decide +kernel
theorem dL_law_1473 : decode cL_law 1473 = .ok (.iload_n 3, 1) := by decide +kernel
theorem dL_law_1474 : decode cL_law 1474 = .ok (.iconst 3, 1) := by decide +kernel
theorem dL_law_1475 : decode cL_law 1475 = .ok (.iadd, 1) := by decide +kernel
theorem dL_law_1476 : decode cL_law 1476 = .ok (.iaload, 1) := by decide +kernel
theorem dL_law_1477 : decode cL_law 1477 = .ok (.invokevirtual 167, 3) := by decide +kernel
theorem dL_law_1480 : decode cL_law 1480 = .ok (.if_icmp .eq 260, 3) := by decide +kernel
theorem dL_law_1483 : decode cL_law 1483 = .ok (.iconst 0, 1) := by decide +kernel
theorem dL_law_1484 : decode cL_law 1484 = .ok (.ireturn, 1) := by decide +kernel
theorem dL_law_1485 : decode cL_law 1485 = .ok (.aload_n 1, 1) := by decide +kernel
theorem dL_law_1486 : decode cL_law 1486 = .ok (.aload_n 0, 1) := by decide +kernel
theorem dL_law_1487 : decode cL_law 1487 = .ok (.iload_n 3, 1) := by decide +kernel
theorem dL_law_1488 : decode cL_law 1488 = .ok (.iconst 1, 1) := by decide +kernel
theorem dL_law_1489 : decode cL_law 1489 = .ok (.iadd, 1) := by decide +kernel
theorem dL_law_1490 : decode cL_law 1490 = .ok (.iaload, 1) := by decide +kernel
theorem dL_law_1491 : decode cL_law 1491 = .ok (.invokevirtual 168, 3) := by decide +kernel
theorem dL_law_1494 : decode cL_law 1494 = .ok (.aload_n 2, 1) := by decide +kernel
theorem dL_law_1495 : decode cL_law 1495 = .ok (.aload_n 0, 1) := by decide +kernel
theorem dL_law_1496 : decode cL_law 1496 = .ok (.iload_n 3, 1) := by decide +kernel
theorem dL_law_1497 : decode cL_law 1497 = .ok (.iconst 1, 1) := by decide +kernel
theorem dL_law_1498 : decode cL_law 1498 = .ok (.iadd, 1) := by decide +kernel
theorem dL_law_1499 : decode cL_law 1499 = .ok (.iaload, 1) := by decide +kernel
theorem dL_law_1500 : decode cL_law 1500 = .ok (.invokevirtual 171, 3) := by decide +kernel
theorem dL_law_1503 : decode cL_law 1503 = .ok (.lcmp, 1) := by decide +kernel
theorem dL_law_1504 : decode cL_law 1504 = .ok (.ifCond .eq 236, 3) := by decide +kernel
theorem dL_law_1507 : decode cL_law 1507 = .ok (.iconst 0, 1) := by decide +kernel
theorem dL_law_1508 : decode cL_law 1508 = .ok (.ireturn, 1) := by decide +kernel
theorem dL_law_1509 : decode cL_law 1509 = .ok (.aload_n 1, 1) := by decide +kernel
theorem dL_law_1510 : decode cL_law 1510 = .ok (.aload_n 0, 1) := by decide +kernel
theorem dL_law_1511 : decode cL_law 1511 = .ok (.iload_n 3, 1) := by decide +kernel
theorem dL_law_1512 : decode cL_law 1512 = .ok (.iconst 1, 1) := by decide +kernel
theorem dL_law_1513 : decode cL_law 1513 = .ok (.iadd, 1) := by decide +kernel
theorem dL_law_1514 : decode cL_law 1514 = .ok (.iaload, 1) := by decide +kernel
theorem dL_law_1515 : decode cL_law 1515 = .ok (.invokevirtual 172, 3) := by decide +kernel
theorem dL_law_1518 : decode cL_law 1518 = .ok (.aload_n 2, 1) := by decide +kernel
theorem dL_law_1519 : decode cL_law 1519 = .ok (.aload_n 0, 1) := by decide +kernel
theorem dL_law_1520 : decode cL_law 1520 = .ok (.iload_n 3, 1) := by decide +kernel
theorem dL_law_1521 : decode cL_law 1521 = .ok (.iconst 1, 1) := by decide +kernel
theorem dL_law_1522 : decode cL_law 1522 = .ok (.iadd, 1) := by decide +kernel
theorem dL_law_1523 : decode cL_law 1523 = .ok (.iaload, 1) := by decide +kernel
theorem dL_law_1524 : decode cL_law 1524 = .ok (.invokevirtual 175, 3) := by decide +kernel
theorem dL_law_1527 : decode cL_law 1527 = .ok (.if_icmp .eq 213, 3) := by decide +kernel
theorem dL_law_1530 : decode cL_law 1530 = .ok (.iconst 0, 1) := by decide +kernel
theorem dL_law_1531 : decode cL_law 1531 = .ok (.ireturn, 1) := by decide +kernel
theorem dL_law_1532 : decode cL_law 1532 = .ok (.aload_n 1, 1) := by decide +kernel
theorem dL_law_1533 : decode cL_law 1533 = .ok (.aload_n 0, 1) := by decide +kernel
theorem dL_law_1534 : decode cL_law 1534 = .ok (.iload_n 3, 1) := by decide +kernel
theorem dL_law_1535 : decode cL_law 1535 = .ok (.iconst 1, 1) := by decide +kernel
theorem dL_law_1536 : decode cL_law 1536 = .ok (.iadd, 1) := by decide +kernel
theorem dL_law_1537 : decode cL_law 1537 = .ok (.iaload, 1) := by decide +kernel
theorem dL_law_1538 : decode cL_law 1538 = .ok (.aload_n 0, 1) := by decide +kernel
theorem dL_law_1539 : decode cL_law 1539 = .ok (.iload_n 3, 1) := by decide +kernel
theorem dL_law_1540 : decode cL_law 1540 = .ok (.iconst 2, 1) := by decide +kernel
theorem dL_law_1541 : decode cL_law 1541 = .ok (.iadd, 1) := by decide +kernel
theorem dL_law_1542 : decode cL_law 1542 = .ok (.iaload, 1) := by decide +kernel
theorem dL_law_1543 : decode cL_law 1543 = .ok (.aload_n 0, 1) := by decide +kernel
theorem dL_law_1544 : decode cL_law 1544 = .ok (.iload_n 3, 1) := by decide +kernel
theorem dL_law_1545 : decode cL_law 1545 = .ok (.iconst 3, 1) := by decide +kernel
theorem dL_law_1546 : decode cL_law 1546 = .ok (.iadd, 1) := by decide +kernel
theorem dL_law_1547 : decode cL_law 1547 = .ok (.iaload, 1) := by decide +kernel
theorem dL_law_1548 : decode cL_law 1548 = .ok (.invokevirtual 176, 3) := by decide +kernel
theorem dL_law_1551 : decode cL_law 1551 = .ok (.aload_n 2, 1) := by decide +kernel
theorem dL_law_1552 : decode cL_law 1552 = .ok (.aload_n 0, 1) := by decide +kernel
theorem dL_law_1553 : decode cL_law 1553 = .ok (.iload_n 3, 1) := by decide +kernel
theorem dL_law_1554 : decode cL_law 1554 = .ok (.iconst 1, 1) := by decide +kernel
theorem dL_law_1555 : decode cL_law 1555 = .ok (.iadd, 1) := by decide +kernel
theorem dL_law_1556 : decode cL_law 1556 = .ok (.iaload, 1) := by decide +kernel
theorem dL_law_1557 : decode cL_law 1557 = .ok (.aload_n 0, 1) := by decide +kernel
theorem dL_law_1558 : decode cL_law 1558 = .ok (.iload_n 3, 1) := by decide +kernel
theorem dL_law_1559 : decode cL_law 1559 = .ok (.iconst 2, 1) := by decide +kernel
theorem dL_law_1560 : decode cL_law 1560 = .ok (.iadd, 1) := by decide +kernel
theorem dL_law_1561 : decode cL_law 1561 = .ok (.iaload, 1) := by decide +kernel
theorem dL_law_1562 : decode cL_law 1562 = .ok (.aload_n 0, 1) := by decide +kernel
theorem dL_law_1563 : decode cL_law 1563 = .ok (.iload_n 3, 1) := by decide +kernel
theorem dL_law_1564 : decode cL_law 1564 = .ok (.iconst 3, 1) := by decide +kernel
theorem dL_law_1565 : decode cL_law 1565 = .ok (.iadd, 1) := by decide +kernel
theorem dL_law_1566 : decode cL_law 1566 = .ok (.iaload, 1) := by decide +kernel
theorem dL_law_1567 : decode cL_law 1567 = .ok (.invokevirtual 179, 3) := by decide +kernel
theorem dL_law_1570 : decode cL_law 1570 = .ok (.if_icmp .eq 170, 3) := by decide +kernel
theorem dL_law_1573 : decode cL_law 1573 = .ok (.iconst 0, 1) := by decide +kernel
theorem dL_law_1574 : decode cL_law 1574 = .ok (.ireturn, 1) := by decide +kernel
theorem dL_law_1575 : decode cL_law 1575 = .ok (.aload_n 1, 1) := by decide +kernel
theorem dL_law_1576 : decode cL_law 1576 = .ok (.aload_n 0, 1) := by decide +kernel
theorem dL_law_1577 : decode cL_law 1577 = .ok (.iload_n 3, 1) := by decide +kernel
theorem dL_law_1578 : decode cL_law 1578 = .ok (.iconst 1, 1) := by decide +kernel
theorem dL_law_1579 : decode cL_law 1579 = .ok (.iadd, 1) := by decide +kernel
theorem dL_law_1580 : decode cL_law 1580 = .ok (.iaload, 1) := by decide +kernel
theorem dL_law_1581 : decode cL_law 1581 = .ok (.invokevirtual 180, 3) := by decide +kernel
theorem dL_law_1584 : decode cL_law 1584 = .ok (.aload_n 2, 1) := by decide +kernel
theorem dL_law_1585 : decode cL_law 1585 = .ok (.aload_n 0, 1) := by decide +kernel
theorem dL_law_1586 : decode cL_law 1586 = .ok (.iload_n 3, 1) := by decide +kernel
theorem dL_law_1587 : decode cL_law 1587 = .ok (.iconst 1, 1) := by decide +kernel
theorem dL_law_1588 : decode cL_law 1588 = .ok (.iadd, 1) := by decide +kernel
theorem dL_law_1589 : decode cL_law 1589 = .ok (.iaload, 1) := by decide +kernel
theorem dL_law_1590 : decode cL_law 1590 = .ok (.invokevirtual 183, 3) := by decide +kernel
theorem dL_law_1593 : decode cL_law 1593 = .ok (.if_icmp .eq 147, 3) := by decide +kernel
theorem dL_law_1596 : decode cL_law 1596 = .ok (.iconst 0, 1) := by decide +kernel
theorem dL_law_1597 : decode cL_law 1597 = .ok (.ireturn, 1) := by decide +kernel
theorem dL_law_1598 : decode cL_law 1598 = .ok (.aload_n 1, 1) := by decide +kernel
theorem dL_law_1599 : decode cL_law 1599 = .ok (.aload_n 0, 1) := by decide +kernel
theorem dL_law_1600 : decode cL_law 1600 = .ok (.iload_n 3, 1) := by decide +kernel
theorem dL_law_1601 : decode cL_law 1601 = .ok (.iconst 1, 1) := by decide +kernel
theorem dL_law_1602 : decode cL_law 1602 = .ok (.iadd, 1) := by decide +kernel
theorem dL_law_1603 : decode cL_law 1603 = .ok (.iaload, 1) := by decide +kernel
theorem dL_law_1604 : decode cL_law 1604 = .ok (.aload_n 0, 1) := by decide +kernel
theorem dL_law_1605 : decode cL_law 1605 = .ok (.iload_n 3, 1) := by decide +kernel
theorem dL_law_1606 : decode cL_law 1606 = .ok (.iconst 2, 1) := by decide +kernel
theorem dL_law_1607 : decode cL_law 1607 = .ok (.iadd, 1) := by decide +kernel
theorem dL_law_1608 : decode cL_law 1608 = .ok (.iaload, 1) := by decide +kernel
theorem dL_law_1609 : decode cL_law 1609 = .ok (.aload_n 0, 1) := by decide +kernel
theorem dL_law_1610 : decode cL_law 1610 = .ok (.iload_n 3, 1) := by decide +kernel
theorem dL_law_1611 : decode cL_law 1611 = .ok (.iconst 3, 1) := by decide +kernel
theorem dL_law_1612 : decode cL_law 1612 = .ok (.iadd, 1) := by decide +kernel
theorem dL_law_1613 : decode cL_law 1613 = .ok (.iaload, 1) := by decide +kernel
theorem dL_law_1614 : decode cL_law 1614 = .ok (.invokevirtual 184, 3) := by decide +kernel
theorem dL_law_1617 : decode cL_law 1617 = .ok (.aload_n 2, 1) := by decide +kernel
theorem dL_law_1618 : decode cL_law 1618 = .ok (.aload_n 0, 1) := by decide +kernel
theorem dL_law_1619 : decode cL_law 1619 = .ok (.iload_n 3, 1) := by decide +kernel
theorem dL_law_1620 : decode cL_law 1620 = .ok (.iconst 1, 1) := by decide +kernel
theorem dL_law_1621 : decode cL_law 1621 = .ok (.iadd, 1) := by decide +kernel
theorem dL_law_1622 : decode cL_law 1622 = .ok (.iaload, 1) := by decide +kernel
theorem dL_law_1623 : decode cL_law 1623 = .ok (.aload_n 0, 1) := by decide +kernel
theorem dL_law_1624 : decode cL_law 1624 = .ok (.iload_n 3, 1) := by decide +kernel
theorem dL_law_1625 : decode cL_law 1625 = .ok (.iconst 2, 1) := by decide +kernel
theorem dL_law_1626 : decode cL_law 1626 = .ok (.iadd, 1) := by decide +kernel
theorem dL_law_1627 : decode cL_law 1627 = .ok (.iaload, 1) := by decide +kernel
theorem dL_law_1628 : decode cL_law 1628 = .ok (.aload_n 0, 1) := by decide +kernel
theorem dL_law_1629 : decode cL_law 1629 = .ok (.iload_n 3, 1) := by decide +kernel
theorem dL_law_1630 : decode cL_law 1630 = .ok (.iconst 3, 1) := by decide +kernel
theorem dL_law_1631 : decode cL_law 1631 = .ok (.iadd, 1) := by decide +kernel
theorem dL_law_1632 : decode cL_law 1632 = .ok (.iaload, 1) := by decide +kernel
theorem dL_law_1633 : decode cL_law 1633 = .ok (.invokevirtual 187, 3) := by decide +kernel
theorem dL_law_1636 : decode cL_law 1636 = .ok (.if_icmp .eq 104, 3) := by decide +kernel
theorem dL_law_1639 : decode cL_law 1639 = .ok (.iconst 0, 1) := by decide +kernel
theorem dL_law_1640 : decode cL_law 1640 = .ok (.ireturn, 1) := by decide +kernel
theorem dL_law_1641 : decode cL_law 1641 = .ok (.aload_n 1, 1) := by decide +kernel
theorem dL_law_1642 : decode cL_law 1642 = .ok (.aload_n 0, 1) := by decide +kernel
theorem dL_law_1643 : decode cL_law 1643 = .ok (.iload_n 3, 1) := by decide +kernel
theorem dL_law_1644 : decode cL_law 1644 = .ok (.iconst 1, 1) := by decide +kernel
theorem dL_law_1645 : decode cL_law 1645 = .ok (.iadd, 1) := by decide +kernel
theorem dL_law_1646 : decode cL_law 1646 = .ok (.iaload, 1) := by decide +kernel
theorem dL_law_1647 : decode cL_law 1647 = .ok (.aload_n 0, 1) := by decide +kernel
theorem dL_law_1648 : decode cL_law 1648 = .ok (.iload_n 3, 1) := by decide +kernel
theorem dL_law_1649 : decode cL_law 1649 = .ok (.iconst 2, 1) := by decide +kernel
theorem dL_law_1650 : decode cL_law 1650 = .ok (.iadd, 1) := by decide +kernel
theorem dL_law_1651 : decode cL_law 1651 = .ok (.iaload, 1) := by decide +kernel
theorem dL_law_1652 : decode cL_law 1652 = .ok (.invokevirtual 188, 3) := by decide +kernel
theorem dL_law_1655 : decode cL_law 1655 = .ok (.aload_n 2, 1) := by decide +kernel
theorem dL_law_1656 : decode cL_law 1656 = .ok (.aload_n 0, 1) := by decide +kernel
theorem dL_law_1657 : decode cL_law 1657 = .ok (.iload_n 3, 1) := by decide +kernel
theorem dL_law_1658 : decode cL_law 1658 = .ok (.iconst 1, 1) := by decide +kernel
theorem dL_law_1659 : decode cL_law 1659 = .ok (.iadd, 1) := by decide +kernel
theorem dL_law_1660 : decode cL_law 1660 = .ok (.iaload, 1) := by decide +kernel
theorem dL_law_1661 : decode cL_law 1661 = .ok (.aload_n 0, 1) := by decide +kernel
theorem dL_law_1662 : decode cL_law 1662 = .ok (.iload_n 3, 1) := by decide +kernel
theorem dL_law_1663 : decode cL_law 1663 = .ok (.iconst 2, 1) := by decide +kernel
theorem dL_law_1664 : decode cL_law 1664 = .ok (.iadd, 1) := by decide +kernel
theorem dL_law_1665 : decode cL_law 1665 = .ok (.iaload, 1) := by decide +kernel
theorem dL_law_1666 : decode cL_law 1666 = .ok (.invokevirtual 191, 3) := by decide +kernel
theorem dL_law_1669 : decode cL_law 1669 = .ok (.if_icmp .eq 71, 3) := by decide +kernel
theorem dL_law_1672 : decode cL_law 1672 = .ok (.iconst 0, 1) := by decide +kernel
theorem dL_law_1673 : decode cL_law 1673 = .ok (.ireturn, 1) := by decide +kernel
theorem dL_law_1674 : decode cL_law 1674 = .ok (.aload_n 1, 1) := by decide +kernel
theorem dL_law_1675 : decode cL_law 1675 = .ok (.aload_n 0, 1) := by decide +kernel
theorem dL_law_1676 : decode cL_law 1676 = .ok (.iload_n 3, 1) := by decide +kernel
theorem dL_law_1677 : decode cL_law 1677 = .ok (.iconst 1, 1) := by decide +kernel
theorem dL_law_1678 : decode cL_law 1678 = .ok (.iadd, 1) := by decide +kernel
theorem dL_law_1679 : decode cL_law 1679 = .ok (.iaload, 1) := by decide +kernel
theorem dL_law_1680 : decode cL_law 1680 = .ok (.aload_n 0, 1) := by decide +kernel
theorem dL_law_1681 : decode cL_law 1681 = .ok (.iload_n 3, 1) := by decide +kernel
theorem dL_law_1682 : decode cL_law 1682 = .ok (.iconst 2, 1) := by decide +kernel
theorem dL_law_1683 : decode cL_law 1683 = .ok (.iadd, 1) := by decide +kernel
theorem dL_law_1684 : decode cL_law 1684 = .ok (.iaload, 1) := by decide +kernel
theorem dL_law_1685 : decode cL_law 1685 = .ok (.invokevirtual 192, 3) := by decide +kernel
theorem dL_law_1688 : decode cL_law 1688 = .ok (.aload_n 2, 1) := by decide +kernel
theorem dL_law_1689 : decode cL_law 1689 = .ok (.aload_n 0, 1) := by decide +kernel
theorem dL_law_1690 : decode cL_law 1690 = .ok (.iload_n 3, 1) := by decide +kernel
theorem dL_law_1691 : decode cL_law 1691 = .ok (.iconst 1, 1) := by decide +kernel
theorem dL_law_1692 : decode cL_law 1692 = .ok (.iadd, 1) := by decide +kernel
theorem dL_law_1693 : decode cL_law 1693 = .ok (.iaload, 1) := by decide +kernel
theorem dL_law_1694 : decode cL_law 1694 = .ok (.aload_n 0, 1) := by decide +kernel
theorem dL_law_1695 : decode cL_law 1695 = .ok (.iload_n 3, 1) := by decide +kernel
theorem dL_law_1696 : decode cL_law 1696 = .ok (.iconst 2, 1) := by decide +kernel
theorem dL_law_1697 : decode cL_law 1697 = .ok (.iadd, 1) := by decide +kernel
theorem dL_law_1698 : decode cL_law 1698 = .ok (.iaload, 1) := by decide +kernel
theorem dL_law_1699 : decode cL_law 1699 = .ok (.invokevirtual 195, 3) := by decide +kernel
theorem dL_law_1702 : decode cL_law 1702 = .ok (.if_icmp .eq 38, 3) := by decide +kernel
theorem dL_law_1705 : decode cL_law 1705 = .ok (.iconst 0, 1) := by decide +kernel
theorem dL_law_1706 : decode cL_law 1706 = .ok (.ireturn, 1) := by decide +kernel
theorem dL_law_1707 : decode cL_law 1707 = .ok (.aload_n 1, 1) := by decide +kernel
theorem dL_law_1708 : decode cL_law 1708 = .ok (.aload_n 0, 1) := by decide +kernel
theorem dL_law_1709 : decode cL_law 1709 = .ok (.iload_n 3, 1) := by decide +kernel
theorem dL_law_1710 : decode cL_law 1710 = .ok (.iconst 1, 1) := by decide +kernel
theorem dL_law_1711 : decode cL_law 1711 = .ok (.iadd, 1) := by decide +kernel
theorem dL_law_1712 : decode cL_law 1712 = .ok (.iaload, 1) := by decide +kernel
theorem dL_law_1713 : decode cL_law 1713 = .ok (.aload_n 0, 1) := by decide +kernel
theorem dL_law_1714 : decode cL_law 1714 = .ok (.iload_n 3, 1) := by decide +kernel
theorem dL_law_1715 : decode cL_law 1715 = .ok (.iconst 2, 1) := by decide +kernel
theorem dL_law_1716 : decode cL_law 1716 = .ok (.iadd, 1) := by decide +kernel
theorem dL_law_1717 : decode cL_law 1717 = .ok (.iaload, 1) := by decide +kernel
theorem dL_law_1718 : decode cL_law 1718 = .ok (.invokevirtual 196, 3) := by decide +kernel
theorem dL_law_1721 : decode cL_law 1721 = .ok (.aload_n 2, 1) := by decide +kernel
theorem dL_law_1722 : decode cL_law 1722 = .ok (.aload_n 0, 1) := by decide +kernel
theorem dL_law_1723 : decode cL_law 1723 = .ok (.iload_n 3, 1) := by decide +kernel
theorem dL_law_1724 : decode cL_law 1724 = .ok (.iconst 1, 1) := by decide +kernel
theorem dL_law_1725 : decode cL_law 1725 = .ok (.iadd, 1) := by decide +kernel
theorem dL_law_1726 : decode cL_law 1726 = .ok (.iaload, 1) := by decide +kernel
theorem dL_law_1727 : decode cL_law 1727 = .ok (.aload_n 0, 1) := by decide +kernel
theorem dL_law_1728 : decode cL_law 1728 = .ok (.iload_n 3, 1) := by decide +kernel
theorem dL_law_1729 : decode cL_law 1729 = .ok (.iconst 2, 1) := by decide +kernel
theorem dL_law_1730 : decode cL_law 1730 = .ok (.iadd, 1) := by decide +kernel
theorem dL_law_1731 : decode cL_law 1731 = .ok (.iaload, 1) := by decide +kernel
theorem dL_law_1732 : decode cL_law 1732 = .ok (.invokevirtual 199, 3) := by decide +kernel
theorem dL_law_1735 : decode cL_law 1735 = .ok (.if_icmp .eq 5, 3) := by decide +kernel
theorem dL_law_1738 : decode cL_law 1738 = .ok (.iconst 0, 1) := by decide +kernel
theorem dL_law_1739 : decode cL_law 1739 = .ok (.ireturn, 1) := by decide +kernel
theorem dL_law_1740 : decode cL_law 1740 = .ok (.iinc 3 6, 3) := by decide +kernel
theorem dL_law_1743 : decode cL_law 1743 = .ok (.goto (-1725), 3) := by decide +kernel
theorem dL_law_1746 : decode cL_law 1746 = .ok (.iconst 1, 1) := by decide +kernel
theorem dL_law_1747 : decode cL_law 1747 = .ok (.ireturn, 1) := by decide +kernel
theorem law_idx {L i : Nat} (hL : L ≤ 3072) (hi : i ≤ L) (h : ¬ (Int32.ofNat L - 6) < nI i) : i + 6 ≤ L := by
  have h1 : (Int32.ofNat L).toInt = (L : Int) := nI_toInt (by omega)
  have h2 : (nI i).toInt = (i : Int) := nI_toInt (by omega)
  have h6 : (6 : Int32).toInt = 6 := by decide
  have h3 : (Int32.ofNat L - 6).toInt = (L : Int) - 6 := by
    rw [Int32.toInt_sub, h1, h6]
    exact Int.bmod_eq_of_le (by omega) (by omega)
  have h4 := Int32.not_lt.mp h
  have h5 := Int32.le_iff_toInt_le.mp h4
  omega
theorem law_in {L i j : Nat} (hL : L ≤ 3072) (h : i + 6 ≤ L) (hj : j < 6) : vp_in (nI i + nI j) L := by
  rw [nI_add]
  exact vp_in_nI (by omega) (by omega)
section XLAW
variable {p : Program} {l : Launch} {e : Env} {R : Room} {s : State} {m : MethodId} {args : Array Value} {below : List Frame} {meth : Method} {c : Code} {H : Heap} {locs : List Loc} {Q : State → Prop} {cells slots : Nat}
variable {pc : Nat} {ls : Array Slot} {rest st0 : List Value} {a : Array Value} {A : Nat → Prop} {dC : Nat → ClassId} {dI : Nat → Nat → Nat} {ws wc wc' wr w2 : va_W}
theorem xgi {r0 : Int32} (hr : va_Run p l e R s m args below meth c H locs cells slots 0 0 (F0 m pc ls st0) rest (cQi dC dI (va_A wc H.size) r0 wc' a) (va_A wc H.size)) (hP : va_P (dC, dI) vwCl ws H) (hD : va_D A ws) (hS : va_S A s.heap H locs) (hA : ∀ q, s.heap.size ≤ q → A q) (isC isR perm : List Nat) (hC : isC.map (fun i => ws[i]?) = wc.map some) (hR : isR.map (fun i => ws[i]?) = wr.map some) (hn : va_nd isR = true) (hdis : isR.all (fun i => !isC.contains i) = true) (hpn : va_nd perm = true) (hp : perm.map (fun i => (wr ++ wc')[i]?) = w2.map some)
    (kk : ∀ (H1 : Heap) (locs1 : List Loc), va_P (dC, dI) vwCl w2 H1 → va_D A w2 → va_S A s.heap H1 locs1 → W p l e R s m args below meth c H1 locs1 cells slots Q (F0 m (pc + 3) ls (.int r0 :: rest))) : W p l e R s m args below meth c H locs cells slots Q (F0 m pc ls st0) := by
  have hF := va_free (wc := wc) hD hS hA isC hC
  refine va_calli hr hS (fun q _ h => hF q h) hF (fun r u t H1 locs1 ht hvm hw hB hz1 hk1 hS1 => ?_)
  obtain ⟨hP1, hD1⟩ := hB
  rw [ht] at hP1
  have hd2 : ∀ i ∈ isR, i ∉ isC := fun i hi hc => by
    have h1 := List.all_eq_true.mp hdis i hi
    simp [hc] at h1
  obtain ⟨hP2, hD2⟩ := va_join (wr := wr) (w1 := wc') hP hD isC isR hC hR hn hd2 hk1 hF hP1 hD1
  rw [show r = r0 from hw]
  exact kk H1 locs1 (hP2.sub perm (sub_fm perm hp)) (hD2.sub perm hpn hp) hS1
theorem xgl {r0 : Int64} (hr : va_Run p l e R s m args below meth c H locs cells slots 0 0 (F0 m pc ls st0) rest (cQl dC dI (va_A wc H.size) r0 wc' a) (va_A wc H.size)) (hP : va_P (dC, dI) vwCl ws H) (hD : va_D A ws) (hS : va_S A s.heap H locs) (hA : ∀ q, s.heap.size ≤ q → A q) (isC isR perm : List Nat) (hC : isC.map (fun i => ws[i]?) = wc.map some) (hR : isR.map (fun i => ws[i]?) = wr.map some) (hn : va_nd isR = true) (hdis : isR.all (fun i => !isC.contains i) = true) (hpn : va_nd perm = true) (hp : perm.map (fun i => (wr ++ wc')[i]?) = w2.map some)
    (kk : ∀ (H1 : Heap) (locs1 : List Loc), va_P (dC, dI) vwCl w2 H1 → va_D A w2 → va_S A s.heap H1 locs1 → W p l e R s m args below meth c H1 locs1 cells slots Q (F0 m (pc + 3) ls (.long r0 :: rest))) : W p l e R s m args below meth c H locs cells slots Q (F0 m pc ls st0) := by
  have hF := va_free (wc := wc) hD hS hA isC hC
  refine va_calll hr hS (fun q _ h => hF q h) hF (fun r u t H1 locs1 ht hvm hw hB hz1 hk1 hS1 => ?_)
  obtain ⟨hP1, hD1⟩ := hB
  rw [ht] at hP1
  have hd2 : ∀ i ∈ isR, i ∉ isC := fun i hi hc => by
    have h1 := List.all_eq_true.mp hdis i hi
    simp [hc] at h1
  obtain ⟨hP2, hD2⟩ := va_join (wr := wr) (w1 := wc') hP hD isC isR hC hR hn hd2 hk1 hF hP1 hD1
  rw [show r = r0 from hw]
  exact kk H1 locs1 (hP2.sub perm (sub_fm perm hp)) (hD2.sub perm hpn hp) hS1
end XLAW
def LoopSt (p : Program) (l : Launch) (e : Env) (s : State) (m : MethodId) (below : List Frame) (meth : Method) (c : Code) (b L : Nat) (xs : Nat → Int32) (dC : Nat → ClassId) (dI : Nat → Nat → Nat) (cI cL cB : ClassId) (adK adV : Nat → Nat) (K : Nat) (h_x h_x_cloud h_x_cloud_x h_x_cloud_y h_x_cloud_colour h_x_cloud_load h_x_reader h_x_reader_tape h_x_reader_draft h_x_reader_draft_x h_x_reader_draft_y h_x_reader_draft_colour h_x_reader_draft_load h_x_hull h_x_hull_chain h_x_hull_x h_x_hull_y h_x_hull_sorted h_x_near h_x_firstTie h_x_firstTie_member h_x_firstTie_factor h_x_reducer h_x_reducer_up h_x_reducer_tied h_x_reducer_tied_member h_x_reducer_tied_factor h_x_chooser h_x_chooser_chosen h_x_chooser_mixed h_x_chooser_near h_x_pair h_x_pair_first h_x_pair_first_chain h_x_pair_first_x h_x_pair_first_y h_x_pair_first_sorted h_x_pair_second h_x_pair_second_chain h_x_pair_second_x h_x_pair_second_y h_x_pair_second_sorted h_x_pair_third h_x_pair_third_chain h_x_pair_third_x h_x_pair_third_y h_x_pair_third_sorted h_x_pair_place h_x_pair_near h_x_divider h_x_divider_member h_x_divider_row h_x_depths h_x_depths_rowBound h_x_spot h_m h_m_px h_m_py h_m_colour h_m_load h_m_readX h_m_readY h_m_readColour h_m_readLoad h_m_tape h_m_five h_m_corner h_m_corners h_m_row h_m_tie h_m_weight h_m_rainbowAt h_m_mix h_m_trio h_m_partOf h_m_parted h_m_parts : Nat) (n : Nat) : Prop := ∀ (i : Nat) (v3 : Int32) (x_cloud_size : Int32) (x_cloud_centreX : Int32) (x_cloud_centreY : Int32) (x_cloud_x : Nat → Int32) (x_cloud_y : Nat → Int32) (x_cloud_colour : Nat → Int32) (x_cloud_load : Nat → Int32) (x_reader_length : Int32) (x_reader_faultKind : Int32) (x_reader_faultPlace : Int32) (x_reader_centreTold : Int32) (x_reader_start : Int32) (x_reader_next : Int32) (x_reader_kind : Int32) (x_reader_value : Int32) (x_reader_tape : Nat → Int32) (x_reader_draft_size : Int32) (x_reader_draft_centreX : Int32) (x_reader_draft_centreY : Int32) (x_reader_draft_x : Nat → Int32) (x_reader_draft_y : Nat → Int32) (x_reader_draft_colour : Nat → Int32) (x_reader_draft_load : Nat → Int32) (x_hull_size : Int32) (x_hull_chain : Nat → Int32) (x_hull_x : Nat → Int32) (x_hull_y : Nat → Int32) (x_hull_sorted : Nat → Int32) (x_near_x : Int64) (x_near_y : Int64) (x_near_lower : Int64) (x_near_square : Int64) (x_near_squareLower : Int64) (x_near_fromX : Int32) (x_near_fromY : Int32) (x_firstTie_size : Int32) (x_firstTie_member : Nat → Int32) (x_firstTie_factor : Nat → Int64) (x_reducer_lower : Int64) (x_reducer_alive : Int32) (x_reducer_up : Nat → Int64) (x_reducer_tied_size : Int32) (x_reducer_tied_member : Nat → Int32) (x_reducer_tied_factor : Nat → Int64) (x_chooser_gone : Int32) (x_chooser_stuck : Int32) (x_chooser_longest : Int32) (x_chooser_side : Int32) (x_chooser_chosen : Nat → Int32) (x_chooser_mixed : Nat → Int64) (x_chooser_near_x : Int64) (x_chooser_near_y : Int64) (x_chooser_near_lower : Int64) (x_chooser_near_square : Int64) (x_chooser_near_squareLower : Int64) (x_chooser_near_fromX : Int32) (x_chooser_near_fromY : Int32) (x_pair_gapSquare : Int64) (x_pair_gapLower : Int64) (x_pair_gapX : Int64) (x_pair_gapY : Int64) (x_pair_threefold : Int32) (x_pair_leastX : Int64) (x_pair_leastY : Int64) (x_pair_leastLower : Int64) (x_pair_first_size : Int32) (x_pair_first_chain : Nat → Int32) (x_pair_first_x : Nat → Int32) (x_pair_first_y : Nat → Int32) (x_pair_first_sorted : Nat → Int32) (x_pair_second_size : Int32) (x_pair_second_chain : Nat → Int32) (x_pair_second_x : Nat → Int32) (x_pair_second_y : Nat → Int32) (x_pair_second_sorted : Nat → Int32) (x_pair_third_size : Int32) (x_pair_third_chain : Nat → Int32) (x_pair_third_x : Nat → Int32) (x_pair_third_y : Nat → Int32) (x_pair_third_sorted : Nat → Int32) (x_pair_place_x : Int64) (x_pair_place_y : Int64) (x_pair_place_lower : Int64) (x_pair_near_x : Int64) (x_pair_near_y : Int64) (x_pair_near_lower : Int64) (x_pair_near_square : Int64) (x_pair_near_squareLower : Int64) (x_pair_near_fromX : Int32) (x_pair_near_fromY : Int32) (x_divider_size : Int32) (x_divider_parts : Int32) (x_divider_member : Nat → Int32) (x_divider_row : Nat → Int32) (x_depths_bestX : Int32) (x_depths_bestY : Int32) (x_depths_best : Int32) (x_depths_fewest : Int32) (x_depths_here : Int32) (x_depths_onLeft : Int32) (x_depths_onRight : Int32) (x_depths_ahead : Int32) (x_depths_behind : Int32) (x_depths_rowBound : Nat → Int32) (x_spot_x : Int64) (x_spot_y : Int64) (x_spot_lower : Int64) (m_thrown : Int32) (m_many : Int32) (m_cx : Int32) (m_cy : Int32) (m_readMany : Int32) (m_readCx : Int32) (m_readCy : Int32) (m_hasCentre : Int32) (m_taped : Int32) (m_size : Int32) (m_at : Int32) (m_from : Int32) (m_token : Int32) (m_value : Int32) (m_faultKind : Int32) (m_faultPlace : Int32) (m_rowMany : Int32) (m_placeX : Int64) (m_placeY : Int64) (m_below : Int64) (m_farAbove : Int64) (m_farBelow : Int64) (m_weightAll : Int64) (m_leftSet : Int32) (m_rainbowMany : Int32) (m_wentColour : Int32) (m_isHeld : Int32) (m_isMet : Int32) (m_hulls : Int32) (m_wayX : Int64) (m_wayY : Int64) (m_partedMany : Int32) (m_partings : Int32) (m_metPartings : Int32) (m_depthFound : Int32) (m_depthSet : Int32) (m_px : Nat → Int32) (m_py : Nat → Int32) (m_colour : Nat → Int32) (m_load : Nat → Int32) (m_readX : Nat → Int32) (m_readY : Nat → Int32) (m_readColour : Nat → Int32) (m_readLoad : Nat → Int32) (m_tape : Nat → Int32) (m_five : Nat → Int32) (m_corner : Nat → Int32) (m_corners : Nat → Int32) (m_row : Nat → Int32) (m_tie : Nat → Int64) (m_weight : Nat → Int64) (m_rainbowAt : Nat → Int32) (m_mix : Nat → Int64) (m_trio : Nat → Int32) (m_partOf : Nat → Int32) (m_parted : Nat → Int32) (m_parts : Nat → Int32) (H : Heap) (locs : List Loc) (ls : Array Slot), i ≤ L → L + 1 ≤ i + n → v3 = nI i → Rel x_cloud_size x_cloud_x x_cloud_y x_cloud_colour x_cloud_load x_cloud_centreX x_cloud_centreY x_reader_tape x_reader_length x_reader_faultKind x_reader_faultPlace m_many m_px m_py m_colour m_load m_cx m_cy m_tape m_taped m_faultKind m_faultPlace → va_P (dC, dI) vwCl [(h_x, .inr (11, [.ref h_x_cloud, .ref h_x_reader, .ref h_x_hull, .ref h_x_near, .ref h_x_firstTie, .ref h_x_reducer, .ref h_x_chooser, .ref h_x_pair, .ref h_x_divider, .ref h_x_depths, .ref h_x_spot])), (h_x_cloud, .inr (0, [.ref h_x_cloud_x, .ref h_x_cloud_y, .ref h_x_cloud_colour, .ref h_x_cloud_load, .int x_cloud_size, .int x_cloud_centreX, .int x_cloud_centreY])), (h_x_cloud_x, .inl (cI, 24, .inl x_cloud_x)), (h_x_cloud_y, .inl (cI, 24, .inl x_cloud_y)), (h_x_cloud_colour, .inl (cI, 24, .inl x_cloud_colour)), (h_x_cloud_load, .inl (cI, 24, .inl x_cloud_load)), (h_x_reader, .inr (8, [.ref h_x_reader_tape, .ref h_x_reader_draft, .int x_reader_length, .int x_reader_faultKind, .int x_reader_faultPlace, .int x_reader_centreTold, .int x_reader_start, .int x_reader_next, .int x_reader_kind, .int x_reader_value])), (h_x_reader_tape, .inl (cB, 600, .inl x_reader_tape)), (h_x_reader_draft, .inr (0, [.ref h_x_reader_draft_x, .ref h_x_reader_draft_y, .ref h_x_reader_draft_colour, .ref h_x_reader_draft_load, .int x_reader_draft_size, .int x_reader_draft_centreX, .int x_reader_draft_centreY])), (h_x_reader_draft_x, .inl (cI, 24, .inl x_reader_draft_x)), (h_x_reader_draft_y, .inl (cI, 24, .inl x_reader_draft_y)), (h_x_reader_draft_colour, .inl (cI, 24, .inl x_reader_draft_colour)), (h_x_reader_draft_load, .inl (cI, 24, .inl x_reader_draft_load)), (h_x_hull, .inr (2, [.ref h_x_hull_chain, .ref h_x_hull_x, .ref h_x_hull_y, .ref h_x_hull_sorted, .int x_hull_size])), (h_x_hull_chain, .inl (cI, 48, .inl x_hull_chain)), (h_x_hull_x, .inl (cI, 48, .inl x_hull_x)), (h_x_hull_y, .inl (cI, 48, .inl x_hull_y)), (h_x_hull_sorted, .inl (cI, 24, .inl x_hull_sorted)), (h_x_near, .inr (4, [.long x_near_x, .long x_near_y, .long x_near_lower, .long x_near_square, .long x_near_squareLower, .int x_near_fromX, .int x_near_fromY])), (h_x_firstTie, .inr (10, [.ref h_x_firstTie_member, .ref h_x_firstTie_factor, .int x_firstTie_size])), (h_x_firstTie_member, .inl (cI, 4, .inl x_firstTie_member)), (h_x_firstTie_factor, .inl (cL, 4, .inr (.inl x_firstTie_factor))), (h_x_reducer, .inr (9, [.ref h_x_reducer_up, .long x_reducer_lower, .int x_reducer_alive, .ref h_x_reducer_tied])), (h_x_reducer_up, .inl (cL, 24, .inr (.inl x_reducer_up))), (h_x_reducer_tied, .inr (10, [.ref h_x_reducer_tied_member, .ref h_x_reducer_tied_factor, .int x_reducer_tied_size])), (h_x_reducer_tied_member, .inl (cI, 4, .inl x_reducer_tied_member)), (h_x_reducer_tied_factor, .inl (cL, 4, .inr (.inl x_reducer_tied_factor))), (h_x_chooser, .inr (7, [.ref h_x_chooser_chosen, .ref h_x_chooser_mixed, .ref h_x_chooser_near, .int x_chooser_gone, .int x_chooser_stuck, .int x_chooser_longest, .int x_chooser_side])), (h_x_chooser_chosen, .inl (cI, 3, .inl x_chooser_chosen)), (h_x_chooser_mixed, .inl (cL, 4, .inr (.inl x_chooser_mixed))), (h_x_chooser_near, .inr (4, [.long x_chooser_near_x, .long x_chooser_near_y, .long x_chooser_near_lower, .long x_chooser_near_square, .long x_chooser_near_squareLower, .int x_chooser_near_fromX, .int x_chooser_near_fromY])), (h_x_pair, .inr (3, [.ref h_x_pair_first, .ref h_x_pair_second, .ref h_x_pair_third, .ref h_x_pair_place, .long x_pair_gapSquare, .long x_pair_gapLower, .long x_pair_gapX, .long x_pair_gapY, .ref h_x_pair_near, .int x_pair_threefold, .long x_pair_leastX, .long x_pair_leastY, .long x_pair_leastLower])), (h_x_pair_first, .inr (2, [.ref h_x_pair_first_chain, .ref h_x_pair_first_x, .ref h_x_pair_first_y, .ref h_x_pair_first_sorted, .int x_pair_first_size])), (h_x_pair_first_chain, .inl (cI, 48, .inl x_pair_first_chain)), (h_x_pair_first_x, .inl (cI, 48, .inl x_pair_first_x)), (h_x_pair_first_y, .inl (cI, 48, .inl x_pair_first_y)), (h_x_pair_first_sorted, .inl (cI, 24, .inl x_pair_first_sorted)), (h_x_pair_second, .inr (2, [.ref h_x_pair_second_chain, .ref h_x_pair_second_x, .ref h_x_pair_second_y, .ref h_x_pair_second_sorted, .int x_pair_second_size])), (h_x_pair_second_chain, .inl (cI, 48, .inl x_pair_second_chain)), (h_x_pair_second_x, .inl (cI, 48, .inl x_pair_second_x)), (h_x_pair_second_y, .inl (cI, 48, .inl x_pair_second_y)), (h_x_pair_second_sorted, .inl (cI, 24, .inl x_pair_second_sorted)), (h_x_pair_third, .inr (2, [.ref h_x_pair_third_chain, .ref h_x_pair_third_x, .ref h_x_pair_third_y, .ref h_x_pair_third_sorted, .int x_pair_third_size])), (h_x_pair_third_chain, .inl (cI, 48, .inl x_pair_third_chain)), (h_x_pair_third_x, .inl (cI, 48, .inl x_pair_third_x)), (h_x_pair_third_y, .inl (cI, 48, .inl x_pair_third_y)), (h_x_pair_third_sorted, .inl (cI, 24, .inl x_pair_third_sorted)), (h_x_pair_place, .inr (6, [.long x_pair_place_x, .long x_pair_place_y, .long x_pair_place_lower])), (h_x_pair_near, .inr (4, [.long x_pair_near_x, .long x_pair_near_y, .long x_pair_near_lower, .long x_pair_near_square, .long x_pair_near_squareLower, .int x_pair_near_fromX, .int x_pair_near_fromY])), (h_x_divider, .inr (5, [.ref h_x_divider_member, .ref h_x_divider_row, .int x_divider_size, .int x_divider_parts])), (h_x_divider_member, .inl (cI, 7, .inl x_divider_member)), (h_x_divider_row, .inl (cI, 7, .inl x_divider_row)), (h_x_depths, .inr (1, [.int x_depths_bestX, .int x_depths_bestY, .int x_depths_best, .int x_depths_fewest, .ref h_x_depths_rowBound, .int x_depths_here, .int x_depths_onLeft, .int x_depths_onRight, .int x_depths_ahead, .int x_depths_behind])), (h_x_depths_rowBound, .inl (cI, 41, .inl x_depths_rowBound)), (h_x_spot, .inr (6, [.long x_spot_x, .long x_spot_y, .long x_spot_lower])), (h_m, .inr (12, [.int m_thrown, .int m_many, .ref h_m_px, .ref h_m_py, .ref h_m_colour, .ref h_m_load, .int m_cx, .int m_cy, .int m_readMany, .ref h_m_readX, .ref h_m_readY, .ref h_m_readColour, .ref h_m_readLoad, .int m_readCx, .int m_readCy, .int m_hasCentre, .ref h_m_tape, .int m_taped, .ref h_m_five, .int m_size, .int m_at, .int m_from, .int m_token, .int m_value, .int m_faultKind, .int m_faultPlace, .ref h_m_corner, .ref h_m_corners, .ref h_m_row, .int m_rowMany, .long m_placeX, .long m_placeY, .long m_below, .long m_farAbove, .long m_farBelow, .ref h_m_tie, .ref h_m_weight, .long m_weightAll, .int m_leftSet, .ref h_m_rainbowAt, .int m_rainbowMany, .ref h_m_mix, .ref h_m_trio, .int m_wentColour, .int m_isHeld, .int m_isMet, .int m_hulls, .long m_wayX, .long m_wayY, .ref h_m_partOf, .ref h_m_parted, .int m_partedMany, .ref h_m_parts, .int m_partings, .int m_metPartings, .int m_depthFound, .int m_depthSet])), (h_m_px, .inl (cI, 24, .inl m_px)), (h_m_py, .inl (cI, 24, .inl m_py)), (h_m_colour, .inl (cI, 24, .inl m_colour)), (h_m_load, .inl (cI, 24, .inl m_load)), (h_m_readX, .inl (cI, 24, .inl m_readX)), (h_m_readY, .inl (cI, 24, .inl m_readY)), (h_m_readColour, .inl (cI, 24, .inl m_readColour)), (h_m_readLoad, .inl (cI, 24, .inl m_readLoad)), (h_m_tape, .inl (cB, 600, .inl m_tape)), (h_m_five, .inl (cI, 5, .inl m_five)), (h_m_corner, .inl (cI, 72, .inl m_corner)), (h_m_corners, .inl (cI, 3, .inl m_corners)), (h_m_row, .inl (cI, 24, .inl m_row)), (h_m_tie, .inl (cL, 24, .inr (.inl m_tie))), (h_m_weight, .inl (cL, 24, .inr (.inl m_weight))), (h_m_rainbowAt, .inl (cI, 1536, .inl m_rainbowAt)), (h_m_mix, .inl (cL, 3, .inr (.inl m_mix))), (h_m_trio, .inl (cI, 3, .inl m_trio)), (h_m_partOf, .inl (cI, 7, .inl m_partOf)), (h_m_parted, .inl (cI, 7, .inl m_parted)), (h_m_parts, .inl (cI, 3, .inl m_parts))] H → va_D (fun q : Nat => s.heap.size ≤ q) [(h_x, .inr (11, [.ref h_x_cloud, .ref h_x_reader, .ref h_x_hull, .ref h_x_near, .ref h_x_firstTie, .ref h_x_reducer, .ref h_x_chooser, .ref h_x_pair, .ref h_x_divider, .ref h_x_depths, .ref h_x_spot])), (h_x_cloud, .inr (0, [.ref h_x_cloud_x, .ref h_x_cloud_y, .ref h_x_cloud_colour, .ref h_x_cloud_load, .int x_cloud_size, .int x_cloud_centreX, .int x_cloud_centreY])), (h_x_cloud_x, .inl (cI, 24, .inl x_cloud_x)), (h_x_cloud_y, .inl (cI, 24, .inl x_cloud_y)), (h_x_cloud_colour, .inl (cI, 24, .inl x_cloud_colour)), (h_x_cloud_load, .inl (cI, 24, .inl x_cloud_load)), (h_x_reader, .inr (8, [.ref h_x_reader_tape, .ref h_x_reader_draft, .int x_reader_length, .int x_reader_faultKind, .int x_reader_faultPlace, .int x_reader_centreTold, .int x_reader_start, .int x_reader_next, .int x_reader_kind, .int x_reader_value])), (h_x_reader_tape, .inl (cB, 600, .inl x_reader_tape)), (h_x_reader_draft, .inr (0, [.ref h_x_reader_draft_x, .ref h_x_reader_draft_y, .ref h_x_reader_draft_colour, .ref h_x_reader_draft_load, .int x_reader_draft_size, .int x_reader_draft_centreX, .int x_reader_draft_centreY])), (h_x_reader_draft_x, .inl (cI, 24, .inl x_reader_draft_x)), (h_x_reader_draft_y, .inl (cI, 24, .inl x_reader_draft_y)), (h_x_reader_draft_colour, .inl (cI, 24, .inl x_reader_draft_colour)), (h_x_reader_draft_load, .inl (cI, 24, .inl x_reader_draft_load)), (h_x_hull, .inr (2, [.ref h_x_hull_chain, .ref h_x_hull_x, .ref h_x_hull_y, .ref h_x_hull_sorted, .int x_hull_size])), (h_x_hull_chain, .inl (cI, 48, .inl x_hull_chain)), (h_x_hull_x, .inl (cI, 48, .inl x_hull_x)), (h_x_hull_y, .inl (cI, 48, .inl x_hull_y)), (h_x_hull_sorted, .inl (cI, 24, .inl x_hull_sorted)), (h_x_near, .inr (4, [.long x_near_x, .long x_near_y, .long x_near_lower, .long x_near_square, .long x_near_squareLower, .int x_near_fromX, .int x_near_fromY])), (h_x_firstTie, .inr (10, [.ref h_x_firstTie_member, .ref h_x_firstTie_factor, .int x_firstTie_size])), (h_x_firstTie_member, .inl (cI, 4, .inl x_firstTie_member)), (h_x_firstTie_factor, .inl (cL, 4, .inr (.inl x_firstTie_factor))), (h_x_reducer, .inr (9, [.ref h_x_reducer_up, .long x_reducer_lower, .int x_reducer_alive, .ref h_x_reducer_tied])), (h_x_reducer_up, .inl (cL, 24, .inr (.inl x_reducer_up))), (h_x_reducer_tied, .inr (10, [.ref h_x_reducer_tied_member, .ref h_x_reducer_tied_factor, .int x_reducer_tied_size])), (h_x_reducer_tied_member, .inl (cI, 4, .inl x_reducer_tied_member)), (h_x_reducer_tied_factor, .inl (cL, 4, .inr (.inl x_reducer_tied_factor))), (h_x_chooser, .inr (7, [.ref h_x_chooser_chosen, .ref h_x_chooser_mixed, .ref h_x_chooser_near, .int x_chooser_gone, .int x_chooser_stuck, .int x_chooser_longest, .int x_chooser_side])), (h_x_chooser_chosen, .inl (cI, 3, .inl x_chooser_chosen)), (h_x_chooser_mixed, .inl (cL, 4, .inr (.inl x_chooser_mixed))), (h_x_chooser_near, .inr (4, [.long x_chooser_near_x, .long x_chooser_near_y, .long x_chooser_near_lower, .long x_chooser_near_square, .long x_chooser_near_squareLower, .int x_chooser_near_fromX, .int x_chooser_near_fromY])), (h_x_pair, .inr (3, [.ref h_x_pair_first, .ref h_x_pair_second, .ref h_x_pair_third, .ref h_x_pair_place, .long x_pair_gapSquare, .long x_pair_gapLower, .long x_pair_gapX, .long x_pair_gapY, .ref h_x_pair_near, .int x_pair_threefold, .long x_pair_leastX, .long x_pair_leastY, .long x_pair_leastLower])), (h_x_pair_first, .inr (2, [.ref h_x_pair_first_chain, .ref h_x_pair_first_x, .ref h_x_pair_first_y, .ref h_x_pair_first_sorted, .int x_pair_first_size])), (h_x_pair_first_chain, .inl (cI, 48, .inl x_pair_first_chain)), (h_x_pair_first_x, .inl (cI, 48, .inl x_pair_first_x)), (h_x_pair_first_y, .inl (cI, 48, .inl x_pair_first_y)), (h_x_pair_first_sorted, .inl (cI, 24, .inl x_pair_first_sorted)), (h_x_pair_second, .inr (2, [.ref h_x_pair_second_chain, .ref h_x_pair_second_x, .ref h_x_pair_second_y, .ref h_x_pair_second_sorted, .int x_pair_second_size])), (h_x_pair_second_chain, .inl (cI, 48, .inl x_pair_second_chain)), (h_x_pair_second_x, .inl (cI, 48, .inl x_pair_second_x)), (h_x_pair_second_y, .inl (cI, 48, .inl x_pair_second_y)), (h_x_pair_second_sorted, .inl (cI, 24, .inl x_pair_second_sorted)), (h_x_pair_third, .inr (2, [.ref h_x_pair_third_chain, .ref h_x_pair_third_x, .ref h_x_pair_third_y, .ref h_x_pair_third_sorted, .int x_pair_third_size])), (h_x_pair_third_chain, .inl (cI, 48, .inl x_pair_third_chain)), (h_x_pair_third_x, .inl (cI, 48, .inl x_pair_third_x)), (h_x_pair_third_y, .inl (cI, 48, .inl x_pair_third_y)), (h_x_pair_third_sorted, .inl (cI, 24, .inl x_pair_third_sorted)), (h_x_pair_place, .inr (6, [.long x_pair_place_x, .long x_pair_place_y, .long x_pair_place_lower])), (h_x_pair_near, .inr (4, [.long x_pair_near_x, .long x_pair_near_y, .long x_pair_near_lower, .long x_pair_near_square, .long x_pair_near_squareLower, .int x_pair_near_fromX, .int x_pair_near_fromY])), (h_x_divider, .inr (5, [.ref h_x_divider_member, .ref h_x_divider_row, .int x_divider_size, .int x_divider_parts])), (h_x_divider_member, .inl (cI, 7, .inl x_divider_member)), (h_x_divider_row, .inl (cI, 7, .inl x_divider_row)), (h_x_depths, .inr (1, [.int x_depths_bestX, .int x_depths_bestY, .int x_depths_best, .int x_depths_fewest, .ref h_x_depths_rowBound, .int x_depths_here, .int x_depths_onLeft, .int x_depths_onRight, .int x_depths_ahead, .int x_depths_behind])), (h_x_depths_rowBound, .inl (cI, 41, .inl x_depths_rowBound)), (h_x_spot, .inr (6, [.long x_spot_x, .long x_spot_y, .long x_spot_lower])), (h_m, .inr (12, [.int m_thrown, .int m_many, .ref h_m_px, .ref h_m_py, .ref h_m_colour, .ref h_m_load, .int m_cx, .int m_cy, .int m_readMany, .ref h_m_readX, .ref h_m_readY, .ref h_m_readColour, .ref h_m_readLoad, .int m_readCx, .int m_readCy, .int m_hasCentre, .ref h_m_tape, .int m_taped, .ref h_m_five, .int m_size, .int m_at, .int m_from, .int m_token, .int m_value, .int m_faultKind, .int m_faultPlace, .ref h_m_corner, .ref h_m_corners, .ref h_m_row, .int m_rowMany, .long m_placeX, .long m_placeY, .long m_below, .long m_farAbove, .long m_farBelow, .ref h_m_tie, .ref h_m_weight, .long m_weightAll, .int m_leftSet, .ref h_m_rainbowAt, .int m_rainbowMany, .ref h_m_mix, .ref h_m_trio, .int m_wentColour, .int m_isHeld, .int m_isMet, .int m_hulls, .long m_wayX, .long m_wayY, .ref h_m_partOf, .ref h_m_parted, .int m_partedMany, .ref h_m_parts, .int m_partings, .int m_metPartings, .int m_depthFound, .int m_depthSet])), (h_m_px, .inl (cI, 24, .inl m_px)), (h_m_py, .inl (cI, 24, .inl m_py)), (h_m_colour, .inl (cI, 24, .inl m_colour)), (h_m_load, .inl (cI, 24, .inl m_load)), (h_m_readX, .inl (cI, 24, .inl m_readX)), (h_m_readY, .inl (cI, 24, .inl m_readY)), (h_m_readColour, .inl (cI, 24, .inl m_readColour)), (h_m_readLoad, .inl (cI, 24, .inl m_readLoad)), (h_m_tape, .inl (cB, 600, .inl m_tape)), (h_m_five, .inl (cI, 5, .inl m_five)), (h_m_corner, .inl (cI, 72, .inl m_corner)), (h_m_corners, .inl (cI, 3, .inl m_corners)), (h_m_row, .inl (cI, 24, .inl m_row)), (h_m_tie, .inl (cL, 24, .inr (.inl m_tie))), (h_m_weight, .inl (cL, 24, .inr (.inl m_weight))), (h_m_rainbowAt, .inl (cI, 1536, .inl m_rainbowAt)), (h_m_mix, .inl (cL, 3, .inr (.inl m_mix))), (h_m_trio, .inl (cI, 3, .inl m_trio)), (h_m_partOf, .inl (cI, 7, .inl m_partOf)), (h_m_parted, .inl (cI, 7, .inl m_parted)), (h_m_parts, .inl (cI, 3, .inl m_parts))] → va_S (fun q : Nat => s.heap.size ≤ q) s.heap H locs → lv_has ls 4 [(0, .ref b), (1, .ref h_x), (2, .ref h_m), (3, .int v3)] → W p l e room_1 s m #[Value.ref b] below meth c H locs 600000 7302250 (lw_Z below #[Value.ref b] s) (F0 m 18 ls [])
def LawC (p : Program) (s : State) (m : MethodId) (meth : Method) (c : Code) (b L : Nat) (xs : Nat → Int32) (dC : Nat → ClassId) (dI : Nat → Nat → Nat) (cI cL cB : ClassId) (adK adV : Nat → Nat) (K : Nat) : Prop := p.tables.exec = Jvm.exec ∧ c.code = code ∧ meth.sig.returnType = ret ∧ c.maxLocals = 4 ∧ s.vm.findClass RL = some m.cls ∧ (∀ w ∈ lw_ok, w.before #[Value.ref b] s = true) ∧ va_X b L xs s s.heap ∧ b < s.heap.size ∧ meth.locks = false ∧ va_K (dC, dI) vwCl (ty3 cI cL cB) s ∧ TB s ∧ SV adK adV (fun q : Nat => s.heap.size ≤ q) s ∧ L ≤ 3072 ∧ 4000 ≤ K
