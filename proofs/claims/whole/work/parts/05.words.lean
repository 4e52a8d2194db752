theorem qk_J6_265 : Cond.constant RJ6 265 (1431655765) ∈ lw_ok := mkc4 107 (by decide +kernel) rfl
theorem qk_J6_266 : Cond.constant RJ6 266 (858993459) ∈ lw_ok := mkc4 108 (by decide +kernel) rfl
theorem qk_J6_267 : Cond.constant RJ6 267 (252645135) ∈ lw_ok := mkc4 109 (by decide +kernel) rfl
theorem qf_X8_26 : Cond.fieldLink RX8 26 (TX8 2).1 (TX8 2).2.1 (TX8 2).2.2.1 ∈ lw_ok := mkc1 99 (by decide +kernel) rfl
theorem in_X8 : ∀ w ∈ u_ws RX8 TX8 10, w ∈ lw_ok := okIn _ [110, 112, 114, 116, 118, 120, 122, 124, 126, 128] (by decide +kernel) (by decide +kernel)
theorem qf_X8_9 : Cond.fieldLink RX8 9 (TX8 0).1 (TX8 0).2.1 (TX8 0).2.2.1 ∈ lw_ok := mkc1 96 (by decide +kernel) rfl
theorem qf_X11_21 : Cond.fieldLink RX11 21 (TX11 1).1 (TX11 1).2.1 (TX11 1).2.2.1 ∈ lw_ok := mkc2 177 (by decide +kernel) rfl
theorem in_X11 : ∀ w ∈ u_ws RX11 TX11 11, w ∈ lw_ok := okIn _ [427, 429, 431, 433, 435, 437, 439, 441, 443, 445, 447] (by decide +kernel) (by decide +kernel)
theorem qm_X11_88 : Cond.methodLink RX11 88 yX8_hasRoom ∈ lw_ok := mkc2 214 (by decide +kernel) rfl
theorem qi_X8_hasRoom : Cond.instanceMethod yX8_hasRoom ∈ lw_ok := mkc2 215 (by decide +kernel) rfl
theorem qs_X8_hasRoom : Cond.selects RX8 yX8_hasRoom yX8_hasRoom ∈ lw_ok := mkc2 216 (by decide +kernel) rfl
theorem qz_X8 : Cond.initialized RX8 ∈ lw_ok := mkc1 3 (by decide +kernel) rfl
theorem qc_X8_hasRoom : Cond.code yX8_hasRoom cX8_hasRoom 2 (some .boolean) ∈ lw_ok := mkc2 217 (by decide +kernel) rfl
theorem gv_X11_88 : GoodIn lw_ok (wsV RX11 88 RX8 yX8_hasRoom [Cond.code yX8_hasRoom cX8_hasRoom 2 (some .boolean)]) := gV qm_X11_88 qi_X8_hasRoom qs_X8_hasRoom qz_X8 qc_X8_hasRoom
theorem hdV_X8_hasRoom : yX8_hasRoom.cls = RX8 ∧ yX8_hasRoom.cls ≠ "java/lang/invoke/MethodHandle" ∧ yX8_hasRoom.cls ≠ "java/lang/invoke/VarHandle" ∧ (parseMethodDescriptor yX8_hasRoom.desc).map (fun d => d.parameters.length) = some 1 := by decide +kernel
theorem qm_X11_92 : Cond.methodLink RX11 92 yX8_append ∈ lw_ok := mkc2 218 (by decide +kernel) rfl
theorem qi_X8_append : Cond.instanceMethod yX8_append ∈ lw_ok := mkc2 219 (by decide +kernel) rfl
theorem qs_X8_append : Cond.selects RX8 yX8_append yX8_append ∈ lw_ok := mkc2 220 (by decide +kernel) rfl
theorem qc_X8_append : Cond.code yX8_append cX8_append 3 none ∈ lw_ok := mkc2 221 (by decide +kernel) rfl
theorem gv_X11_92 : GoodIn lw_ok (wsV RX11 92 RX8 yX8_append [Cond.code yX8_append cX8_append 3 none]) := gV qm_X11_92 qi_X8_append qs_X8_append qz_X8 qc_X8_append
theorem hdV_X8_append : yX8_append.cls = RX8 ∧ yX8_append.cls ≠ "java/lang/invoke/MethodHandle" ∧ yX8_append.cls ≠ "java/lang/invoke/VarHandle" ∧ (parseMethodDescriptor yX8_append.desc).map (fun d => d.parameters.length) = some 1 := by decide +kernel
theorem qf_X11_96 : Cond.fieldLink RX11 96 (TX8 2).1 (TX8 2).2.1 (TX8 2).2.2.1 ∈ lw_ok := mkc1 100 (by decide +kernel) rfl
theorem qf_X0_24 : Cond.fieldLink RX0 24 (TX0 4).1 (TX0 4).2.1 (TX0 4).2.2.1 ∈ lw_ok := mkc1 53 (by decide +kernel) rfl
theorem in_X0 : ∀ w ∈ u_ws RX0 TX0 7, w ∈ lw_ok := okIn _ [72, 74, 76, 78, 80, 82, 84] (by decide +kernel) (by decide +kernel)
theorem qf_X0_38 : Cond.fieldLink RX0 38 (TX0 5).1 (TX0 5).2.1 (TX0 5).2.2.1 ∈ lw_ok := mkc1 66 (by decide +kernel) rfl
theorem qf_X0_41 : Cond.fieldLink RX0 41 (TX0 6).1 (TX0 6).2.1 (TX0 6).2.2.1 ∈ lw_ok := mkc1 71 (by decide +kernel) rfl
theorem qf_X8_39 : Cond.fieldLink RX8 39 (TX8 7).1 (TX8 7).2.1 (TX8 7).2.2.1 ∈ lw_ok := mkc1 107 (by decide +kernel) rfl
theorem qf_X8_108 : Cond.fieldLink RX8 108 (TX8 6).1 (TX8 6).2.1 (TX8 6).2.2.1 ∈ lw_ok := mkc1 106 (by decide +kernel) rfl
theorem qm_X8_111 : Cond.methodLink RX8 111 yX8_isLetter ∈ lw_ok := mkc3 2 (by decide +kernel) rfl
theorem qt_X8_isLetter : Cond.static yX8_isLetter ∈ lw_ok := mkc3 3 (by decide +kernel) rfl
theorem qc_X8_isLetter : Cond.code yX8_isLetter cX8_isLetter 1 (some .boolean) ∈ lw_ok := mkc3 4 (by decide +kernel) rfl
theorem gs_X8_111 : GoodIn lw_ok (va_wsS RX8 111 yX8_isLetter [Cond.code yX8_isLetter cX8_isLetter 1 (some .boolean)]) := gS qm_X8_111 qt_X8_isLetter qz_X8 qc_X8_isLetter
theorem hdS_X8_isLetter : yX8_isLetter.cls ≠ "java/lang/invoke/MethodHandle" ∧ yX8_isLetter.cls ≠ "java/lang/invoke/VarHandle" ∧ (parseMethodDescriptor yX8_isLetter.desc).map (fun d => d.parameters.length) = some 1 := by decide +kernel
theorem qm_X8_115 : Cond.methodLink RX8 115 yX8_isDigit ∈ lw_ok := mkc3 5 (by decide +kernel) rfl
theorem qt_X8_isDigit : Cond.static yX8_isDigit ∈ lw_ok := mkc3 6 (by decide +kernel) rfl
theorem qc_X8_isDigit : Cond.code yX8_isDigit cX8_isDigit 1 (some .boolean) ∈ lw_ok := mkc3 7 (by decide +kernel) rfl
theorem gs_X8_115 : GoodIn lw_ok (va_wsS RX8 115 yX8_isDigit [Cond.code yX8_isDigit cX8_isDigit 1 (some .boolean)]) := gS qm_X8_115 qt_X8_isDigit qz_X8 qc_X8_isDigit
theorem hdS_X8_isDigit : yX8_isDigit.cls ≠ "java/lang/invoke/MethodHandle" ∧ yX8_isDigit.cls ≠ "java/lang/invoke/VarHandle" ∧ (parseMethodDescriptor yX8_isDigit.desc).map (fun d => d.parameters.length) = some 1 := by decide +kernel
theorem qm_X8_124 : Cond.methodLink RX8 124 yX8_signKind ∈ lw_ok := mkc3 11 (by decide +kernel) rfl
theorem qt_X8_signKind : Cond.static yX8_signKind ∈ lw_ok := mkc3 12 (by decide +kernel) rfl
theorem qc_X8_signKind : Cond.code yX8_signKind cX8_signKind 1 (some .int) ∈ lw_ok := mkc3 13 (by decide +kernel) rfl
theorem gs_X8_124 : GoodIn lw_ok (va_wsS RX8 124 yX8_signKind [Cond.code yX8_signKind cX8_signKind 1 (some .int)]) := gS qm_X8_124 qt_X8_signKind qz_X8 qc_X8_signKind
theorem hdS_X8_signKind : yX8_signKind.cls ≠ "java/lang/invoke/MethodHandle" ∧ yX8_signKind.cls ≠ "java/lang/invoke/VarHandle" ∧ (parseMethodDescriptor yX8_signKind.desc).map (fun d => d.parameters.length) = some 1 := by decide +kernel
theorem qf_X8_45 : Cond.fieldLink RX8 45 (TX8 8).1 (TX8 8).2.1 (TX8 8).2.2.1 ∈ lw_ok := mkc1 108 (by decide +kernel) rfl
theorem qf_X8_105 : Cond.fieldLink RX8 105 (TX8 9).1 (TX8 9).2.1 (TX8 9).2.2.1 ∈ lw_ok := mkc1 109 (by decide +kernel) rfl
theorem qm_X8_118 : Cond.methodLink RX8 118 Lib.Math.min.name ∈ lw_ok := mkc3 8 (by decide +kernel) rfl
theorem qt_Lib_Math_min : Cond.static Lib.Math.min.name ∈ lw_ok := mkc3 9 (by decide +kernel) rfl
theorem qc_Lib_Math_min : Cond.code Lib.Math.min.name Lib.Math.min.code 2 (some .int) ∈ lw_ok := mkc3 10 (by decide +kernel) rfl
theorem qz_Math : Cond.initialized "java/lang/Math" ∈ lw_ok := mkc1 14 (by decide +kernel) rfl
theorem qm_X8_127 : Cond.methodLink RX8 127 yJ0_length_8abf5 ∈ lw_ok := mkc3 19 (by decide +kernel) rfl
theorem qi_J0_length_8abf5 : Cond.instanceMethod yJ0_length_8abf5 ∈ lw_ok := mkc3 20 (by decide +kernel) rfl
theorem qs_J0_length_8abf5 : Cond.selects RJ0 yJ0_length_8abf5 yJ0_length_8abf5 ∈ lw_ok := mkc3 21 (by decide +kernel) rfl
theorem qz_J0 : Cond.initialized RJ0 ∈ lw_ok := mkc1 15 (by decide +kernel) rfl
theorem qc_J0_length_8abf5 : Cond.code yJ0_length_8abf5 cJ0_length_8abf5 1 (some .int) ∈ lw_ok := mkc3 22 (by decide +kernel) rfl
theorem gv_X8_127 : GoodIn lw_ok (wsV RX8 127 RJ0 yJ0_length_8abf5 [Cond.code yJ0_length_8abf5 cJ0_length_8abf5 1 (some .int)]) := gV qm_X8_127 qi_J0_length_8abf5 qs_J0_length_8abf5 qz_J0 qc_J0_length_8abf5
theorem hdV_J0_length_8abf5 : yJ0_length_8abf5.cls = RJ0 ∧ yJ0_length_8abf5.cls ≠ "java/lang/invoke/MethodHandle" ∧ yJ0_length_8abf5.cls ≠ "java/lang/invoke/VarHandle" ∧ (parseMethodDescriptor yJ0_length_8abf5.desc).map (fun d => d.parameters.length) = some 0 := by decide +kernel
theorem qm_X8_131 : Cond.methodLink RX8 131 yJ0_charAt_5068e ∈ lw_ok := mkc3 29 (by decide +kernel) rfl
theorem qi_J0_charAt_5068e : Cond.instanceMethod yJ0_charAt_5068e ∈ lw_ok := mkc3 30 (by decide +kernel) rfl
theorem qs_J0_charAt_5068e : Cond.selects RJ0 yJ0_charAt_5068e yJ0_charAt_5068e ∈ lw_ok := mkc3 31 (by decide +kernel) rfl
theorem qc_J0_charAt_5068e : Cond.code yJ0_charAt_5068e cJ0_charAt_5068e 2 (some .char) ∈ lw_ok := mkc3 32 (by decide +kernel) rfl
theorem gv_X8_131 : GoodIn lw_ok (wsV RX8 131 RJ0 yJ0_charAt_5068e [Cond.code yJ0_charAt_5068e cJ0_charAt_5068e 2 (some .char)]) := gV qm_X8_131 qi_J0_charAt_5068e qs_J0_charAt_5068e qz_J0 qc_J0_charAt_5068e
theorem hdV_J0_charAt_5068e : yJ0_charAt_5068e.cls = RJ0 ∧ yJ0_charAt_5068e.cls ≠ "java/lang/invoke/MethodHandle" ∧ yJ0_charAt_5068e.cls ≠ "java/lang/invoke/VarHandle" ∧ (parseMethodDescriptor yJ0_charAt_5068e.desc).map (fun d => d.parameters.length) = some 1 := by decide +kernel
theorem qm_X8_50 : Cond.methodLink RX8 50 yX8_spells ∈ lw_ok := mkc3 15 (by decide +kernel) rfl
theorem qi_X8_spells : Cond.instanceMethod yX8_spells ∈ lw_ok := mkc3 17 (by decide +kernel) rfl
theorem qs_X8_spells : Cond.selects RX8 yX8_spells yX8_spells ∈ lw_ok := mks 1 (by decide +kernel) rfl
theorem qc_X8_spells : Cond.code yX8_spells cX8_spells 3 (some .boolean) ∈ lw_ok := mkc3 18 (by decide +kernel) rfl
theorem gv_X8_50 : GoodIn lw_ok (wsV RX8 50 RX8 yX8_spells [Cond.code yX8_spells cX8_spells 3 (some .boolean)]) := gV qm_X8_50 qi_X8_spells qs_X8_spells qz_X8 qc_X8_spells
theorem hdV_X8_spells : yX8_spells.cls = RX8 ∧ yX8_spells.cls ≠ "java/lang/invoke/MethodHandle" ∧ yX8_spells.cls ≠ "java/lang/invoke/VarHandle" ∧ (parseMethodDescriptor yX8_spells.desc).map (fun d => d.parameters.length) = some 1 := by decide +kernel
theorem qf_X8_36 : Cond.fieldLink RX8 36 (TX8 3).1 (TX8 3).2.1 (TX8 3).2.2.1 ∈ lw_ok := mkc1 101 (by decide +kernel) rfl
theorem qf_X8_22 : Cond.fieldLink RX8 22 (TX8 4).1 (TX8 4).2.1 (TX8 4).2.2.1 ∈ lw_ok := mkc1 103 (by decide +kernel) rfl
theorem qf_X8_18 : Cond.fieldLink RX8 18 (TX8 1).1 (TX8 1).2.1 (TX8 1).2.2.1 ∈ lw_ok := mkc1 97 (by decide +kernel) rfl
theorem qf_X8_86 : Cond.fieldLink RX8 86 (TX0 4).1 (TX0 4).2.1 (TX0 4).2.2.1 ∈ lw_ok := mkc1 61 (by decide +kernel) rfl
theorem qm_X8_74 : Cond.methodLink RX8 74 yX8_refuse ∈ lw_ok := mkc3 71 (by decide +kernel) rfl
theorem qi_X8_refuse : Cond.instanceMethod yX8_refuse ∈ lw_ok := mkc3 73 (by decide +kernel) rfl
theorem qs_X8_refuse : Cond.selects RX8 yX8_refuse yX8_refuse ∈ lw_ok := mks 3 (by decide +kernel) rfl
theorem qc_X8_refuse : Cond.code yX8_refuse cX8_refuse 2 none ∈ lw_ok := mkc3 74 (by decide +kernel) rfl
theorem gv_X8_74 : GoodIn lw_ok (wsV RX8 74 RX8 yX8_refuse [Cond.code yX8_refuse cX8_refuse 2 none]) := gV qm_X8_74 qi_X8_refuse qs_X8_refuse qz_X8 qc_X8_refuse
theorem hdV_X8_refuse : yX8_refuse.cls = RX8 ∧ yX8_refuse.cls ≠ "java/lang/invoke/MethodHandle" ∧ yX8_refuse.cls ≠ "java/lang/invoke/VarHandle" ∧ (parseMethodDescriptor yX8_refuse.desc).map (fun d => d.parameters.length) = some 1 := by decide +kernel
theorem qm_X8_42 : Cond.methodLink RX8 42 yX8_advance ∈ lw_ok := mkc2 238 (by decide +kernel) rfl
theorem qi_X8_advance : Cond.instanceMethod yX8_advance ∈ lw_ok := mkc3 0 (by decide +kernel) rfl
theorem qs_X8_advance : Cond.selects RX8 yX8_advance yX8_advance ∈ lw_ok := mks 0 (by decide +kernel) rfl
theorem qc_X8_advance : Cond.code yX8_advance cX8_advance 1 none ∈ lw_ok := mkc3 1 (by decide +kernel) rfl
theorem gv_X8_42 : GoodIn lw_ok (wsV RX8 42 RX8 yX8_advance [Cond.code yX8_advance cX8_advance 1 none]) := gV qm_X8_42 qi_X8_advance qs_X8_advance qz_X8 qc_X8_advance
theorem hdV_X8_advance : yX8_advance.cls = RX8 ∧ yX8_advance.cls ≠ "java/lang/invoke/MethodHandle" ∧ yX8_advance.cls ≠ "java/lang/invoke/VarHandle" ∧ (parseMethodDescriptor yX8_advance.desc).map (fun d => d.parameters.length) = some 0 := by decide +kernel
theorem qm_X8_98 : Cond.methodLink RX8 98 yX8_readNumber ∈ lw_ok := mkc3 79 (by decide +kernel) rfl
theorem qi_X8_readNumber : Cond.instanceMethod yX8_readNumber ∈ lw_ok := mkc3 81 (by decide +kernel) rfl
theorem qs_X8_readNumber : Cond.selects RX8 yX8_readNumber yX8_readNumber ∈ lw_ok := mks 5 (by decide +kernel) rfl
theorem qc_X8_readNumber : Cond.code yX8_readNumber cX8_readNumber 3 (some .int) ∈ lw_ok := mkc3 82 (by decide +kernel) rfl
theorem gv_X8_98 : GoodIn lw_ok (wsV RX8 98 RX8 yX8_readNumber [Cond.code yX8_readNumber cX8_readNumber 3 (some .int)]) := gV qm_X8_98 qi_X8_readNumber qs_X8_readNumber qz_X8 qc_X8_readNumber
theorem hdV_X8_readNumber : yX8_readNumber.cls = RX8 ∧ yX8_readNumber.cls ≠ "java/lang/invoke/MethodHandle" ∧ yX8_readNumber.cls ≠ "java/lang/invoke/VarHandle" ∧ (parseMethodDescriptor yX8_readNumber.desc).map (fun d => d.parameters.length) = some 1 := by decide +kernel
theorem qf_X0_9 : Cond.fieldLink RX0 9 (TX0 0).1 (TX0 0).2.1 (TX0 0).2.2.1 ∈ lw_ok := mkc1 34 (by decide +kernel) rfl
theorem qf_X0_15 : Cond.fieldLink RX0 15 (TX0 1).1 (TX0 1).2.1 (TX0 1).2.2.1 ∈ lw_ok := mkc1 40 (by decide +kernel) rfl
theorem qf_X0_18 : Cond.fieldLink RX0 18 (TX0 2).1 (TX0 2).2.1 (TX0 2).2.2.1 ∈ lw_ok := mkc1 46 (by decide +kernel) rfl
theorem qf_X0_21 : Cond.fieldLink RX0 21 (TX0 3).1 (TX0 3).2.1 (TX0 3).2.2.1 ∈ lw_ok := mkc1 49 (by decide +kernel) rfl
theorem qm_X8_89 : Cond.methodLink RX8 89 yX8_refuseBeyondLast ∈ lw_ok := mkc3 94 (by decide +kernel) rfl
theorem qi_X8_refuseBeyondLast : Cond.instanceMethod yX8_refuseBeyondLast ∈ lw_ok := mkc3 96 (by decide +kernel) rfl
theorem qs_X8_refuseBeyondLast : Cond.selects RX8 yX8_refuseBeyondLast yX8_refuseBeyondLast ∈ lw_ok := mks 8 (by decide +kernel) rfl
theorem qc_X8_refuseBeyondLast : Cond.code yX8_refuseBeyondLast cX8_refuseBeyondLast 2 none ∈ lw_ok := mkc3 97 (by decide +kernel) rfl
theorem gv_X8_89 : GoodIn lw_ok (wsV RX8 89 RX8 yX8_refuseBeyondLast [Cond.code yX8_refuseBeyondLast cX8_refuseBeyondLast 2 none]) := gV qm_X8_89 qi_X8_refuseBeyondLast qs_X8_refuseBeyondLast qz_X8 qc_X8_refuseBeyondLast
theorem hdV_X8_refuseBeyondLast : yX8_refuseBeyondLast.cls = RX8 ∧ yX8_refuseBeyondLast.cls ≠ "java/lang/invoke/MethodHandle" ∧ yX8_refuseBeyondLast.cls ≠ "java/lang/invoke/VarHandle" ∧ (parseMethodDescriptor yX8_refuseBeyondLast.desc).map (fun d => d.parameters.length) = some 0 := by decide +kernel
theorem qm_X8_77 : Cond.methodLink RX8 77 yX8_readCoordinate ∈ lw_ok := mkc3 75 (by decide +kernel) rfl
theorem qi_X8_readCoordinate : Cond.instanceMethod yX8_readCoordinate ∈ lw_ok := mkc3 77 (by decide +kernel) rfl
theorem qs_X8_readCoordinate : Cond.selects RX8 yX8_readCoordinate yX8_readCoordinate ∈ lw_ok := mks 4 (by decide +kernel) rfl
theorem qc_X8_readCoordinate : Cond.code yX8_readCoordinate cX8_readCoordinate 3 (some .int) ∈ lw_ok := mkc3 78 (by decide +kernel) rfl
theorem gv_X8_77 : GoodIn lw_ok (wsV RX8 77 RX8 yX8_readCoordinate [Cond.code yX8_readCoordinate cX8_readCoordinate 3 (some .int)]) := gV qm_X8_77 qi_X8_readCoordinate qs_X8_readCoordinate qz_X8 qc_X8_readCoordinate
theorem hdV_X8_readCoordinate : yX8_readCoordinate.cls = RX8 ∧ yX8_readCoordinate.cls ≠ "java/lang/invoke/MethodHandle" ∧ yX8_readCoordinate.cls ≠ "java/lang/invoke/VarHandle" ∧ (parseMethodDescriptor yX8_readCoordinate.desc).map (fun d => d.parameters.length) = some 0 := by decide +kernel
theorem qm_X8_92 : Cond.methodLink RX8 92 yX0_append ∈ lw_ok := mkc3 98 (by decide +kernel) rfl
theorem qi_X0_append : Cond.instanceMethod yX0_append ∈ lw_ok := mkc3 99 (by decide +kernel) rfl
theorem qs_X0_append : Cond.selects RX0 yX0_append yX0_append ∈ lw_ok := mkc3 100 (by decide +kernel) rfl
theorem qz_X0 : Cond.initialized RX0 ∈ lw_ok := mkc1 2 (by decide +kernel) rfl
theorem qc_X0_append : Cond.code yX0_append cX0_append 4 (some .boolean) ∈ lw_ok := mkc3 101 (by decide +kernel) rfl
theorem gv_X8_92 : GoodIn lw_ok (wsV RX8 92 RX0 yX0_append [Cond.code yX0_append cX0_append 4 (some .boolean)]) := gV qm_X8_92 qi_X0_append qs_X0_append qz_X0 qc_X0_append
theorem hdV_X0_append : yX0_append.cls = RX0 ∧ yX0_append.cls ≠ "java/lang/invoke/MethodHandle" ∧ yX0_append.cls ≠ "java/lang/invoke/VarHandle" ∧ (parseMethodDescriptor yX0_append.desc).map (fun d => d.parameters.length) = some 3 := by decide +kernel
theorem qf_X8_102 : Cond.fieldLink RX8 102 (TX0 3).1 (TX0 3).2.1 (TX0 3).2.2.1 ∈ lw_ok := mkc1 52 (by decide +kernel) rfl
theorem qf_X8_32 : Cond.fieldLink RX8 32 (TX8 5).1 (TX8 5).2.1 (TX8 5).2.2.1 ∈ lw_ok := mkc1 105 (by decide +kernel) rfl
theorem qf_X8_80 : Cond.fieldLink RX8 80 (TX0 5).1 (TX0 5).2.1 (TX0 5).2.2.1 ∈ lw_ok := mkc1 62 (by decide +kernel) rfl
theorem qf_X8_83 : Cond.fieldLink RX8 83 (TX0 6).1 (TX0 6).2.1 (TX0 6).2.2.1 ∈ lw_ok := mkc1 67 (by decide +kernel) rfl
theorem qm_X8_29 : Cond.methodLink RX8 29 yX0_clear ∈ lw_ok := mkc2 234 (by decide +kernel) rfl
theorem qi_X0_clear : Cond.instanceMethod yX0_clear ∈ lw_ok := mkc2 235 (by decide +kernel) rfl
theorem qs_X0_clear : Cond.selects RX0 yX0_clear yX0_clear ∈ lw_ok := mkc2 236 (by decide +kernel) rfl
theorem qc_X0_clear : Cond.code yX0_clear cX0_clear 1 none ∈ lw_ok := mkc2 237 (by decide +kernel) rfl
theorem gv_X8_29 : GoodIn lw_ok (wsV RX8 29 RX0 yX0_clear [Cond.code yX0_clear cX0_clear 1 none]) := gV qm_X8_29 qi_X0_clear qs_X0_clear qz_X0 qc_X0_clear
theorem hdV_X0_clear : yX0_clear.cls = RX0 ∧ yX0_clear.cls ≠ "java/lang/invoke/MethodHandle" ∧ yX0_clear.cls ≠ "java/lang/invoke/VarHandle" ∧ (parseMethodDescriptor yX0_clear.desc).map (fun d => d.parameters.length) = some 0 := by decide +kernel
theorem qm_X8_65 : Cond.methodLink RX8 65 yX8_skip ∈ lw_ok := mkc3 103 (by decide +kernel) rfl
theorem qi_X8_skip : Cond.instanceMethod yX8_skip ∈ lw_ok := mkc3 105 (by decide +kernel) rfl
theorem qs_X8_skip : Cond.selects RX8 yX8_skip yX8_skip ∈ lw_ok := mks 9 (by decide +kernel) rfl
theorem qc_X8_skip : Cond.code yX8_skip cX8_skip 2 none ∈ lw_ok := mkc3 106 (by decide +kernel) rfl
theorem gv_X8_65 : GoodIn lw_ok (wsV RX8 65 RX8 yX8_skip [Cond.code yX8_skip cX8_skip 2 none]) := gV qm_X8_65 qi_X8_skip qs_X8_skip qz_X8 qc_X8_skip
theorem hdV_X8_skip : yX8_skip.cls = RX8 ∧ yX8_skip.cls ≠ "java/lang/invoke/MethodHandle" ∧ yX8_skip.cls ≠ "java/lang/invoke/VarHandle" ∧ (parseMethodDescriptor yX8_skip.desc).map (fun d => d.parameters.length) = some 1 := by decide +kernel
theorem qm_X8_57 : Cond.methodLink RX8 57 yX8_colourTold ∈ lw_ok := mkc3 83 (by decide +kernel) rfl
theorem qi_X8_colourTold : Cond.instanceMethod yX8_colourTold ∈ lw_ok := mkc3 85 (by decide +kernel) rfl
theorem qs_X8_colourTold : Cond.selects RX8 yX8_colourTold yX8_colourTold ∈ lw_ok := mks 6 (by decide +kernel) rfl
theorem qc_X8_colourTold : Cond.code yX8_colourTold cX8_colourTold 1 (some .int) ∈ lw_ok := mkc3 86 (by decide +kernel) rfl
theorem gv_X8_57 : GoodIn lw_ok (wsV RX8 57 RX8 yX8_colourTold [Cond.code yX8_colourTold cX8_colourTold 1 (some .int)]) := gV qm_X8_57 qi_X8_colourTold qs_X8_colourTold qz_X8 qc_X8_colourTold
theorem hdV_X8_colourTold : yX8_colourTold.cls = RX8 ∧ yX8_colourTold.cls ≠ "java/lang/invoke/MethodHandle" ∧ yX8_colourTold.cls ≠ "java/lang/invoke/VarHandle" ∧ (parseMethodDescriptor yX8_colourTold.desc).map (fun d => d.parameters.length) = some 0 := by decide +kernel
theorem qm_X8_61 : Cond.methodLink RX8 61 yX8_readPoints ∈ lw_ok := mkc3 90 (by decide +kernel) rfl
theorem qi_X8_readPoints : Cond.instanceMethod yX8_readPoints ∈ lw_ok := mkc3 92 (by decide +kernel) rfl
theorem qs_X8_readPoints : Cond.selects RX8 yX8_readPoints yX8_readPoints ∈ lw_ok := mks 7 (by decide +kernel) rfl
theorem qc_X8_readPoints : Cond.code yX8_readPoints cX8_readPoints 7 none ∈ lw_ok := mkc3 93 (by decide +kernel) rfl
theorem gv_X8_61 : GoodIn lw_ok (wsV RX8 61 RX8 yX8_readPoints [Cond.code yX8_readPoints cX8_readPoints 7 none]) := gV qm_X8_61 qi_X8_readPoints qs_X8_readPoints qz_X8 qc_X8_readPoints
theorem hdV_X8_readPoints : yX8_readPoints.cls = RX8 ∧ yX8_readPoints.cls ≠ "java/lang/invoke/MethodHandle" ∧ yX8_readPoints.cls ≠ "java/lang/invoke/VarHandle" ∧ (parseMethodDescriptor yX8_readPoints.desc).map (fun d => d.parameters.length) = some 1 := by decide +kernel
theorem qm_X8_54 : Cond.methodLink RX8 54 yX8_readCentre ∈ lw_ok := mkc3 67 (by decide +kernel) rfl
theorem qi_X8_readCentre : Cond.instanceMethod yX8_readCentre ∈ lw_ok := mkc3 69 (by decide +kernel) rfl
theorem qs_X8_readCentre : Cond.selects RX8 yX8_readCentre yX8_readCentre ∈ lw_ok := mks 2 (by decide +kernel) rfl
theorem qc_X8_readCentre : Cond.code yX8_readCentre cX8_readCentre 1 none ∈ lw_ok := mkc3 70 (by decide +kernel) rfl
theorem gv_X8_54 : GoodIn lw_ok (wsV RX8 54 RX8 yX8_readCentre [Cond.code yX8_readCentre cX8_readCentre 1 none]) := gV qm_X8_54 qi_X8_readCentre qs_X8_readCentre qz_X8 qc_X8_readCentre
theorem hdV_X8_readCentre : yX8_readCentre.cls = RX8 ∧ yX8_readCentre.cls ≠ "java/lang/invoke/MethodHandle" ∧ yX8_readCentre.cls ≠ "java/lang/invoke/VarHandle" ∧ (parseMethodDescriptor yX8_readCentre.desc).map (fun d => d.parameters.length) = some 0 := by decide +kernel
theorem qm_X11_100 : Cond.methodLink RX11 100 yX8_readText ∈ lw_ok := mkc2 230 (by decide +kernel) rfl
theorem qi_X8_readText : Cond.instanceMethod yX8_readText ∈ lw_ok := mkc2 231 (by decide +kernel) rfl
theorem qs_X8_readText : Cond.selects RX8 yX8_readText yX8_readText ∈ lw_ok := mkc2 232 (by decide +kernel) rfl
theorem qc_X8_readText : Cond.code yX8_readText cX8_readText 2 (some .boolean) ∈ lw_ok := mkc2 233 (by decide +kernel) rfl
theorem gv_X11_100 : GoodIn lw_ok (wsV RX11 100 RX8 yX8_readText [Cond.code yX8_readText cX8_readText 2 (some .boolean)]) := gV qm_X11_100 qi_X8_readText qs_X8_readText qz_X8 qc_X8_readText
theorem hdV_X8_readText : yX8_readText.cls = RX8 ∧ yX8_readText.cls ≠ "java/lang/invoke/MethodHandle" ∧ yX8_readText.cls ≠ "java/lang/invoke/VarHandle" ∧ (parseMethodDescriptor yX8_readText.desc).map (fun d => d.parameters.length) = some 0 := by decide +kernel
theorem qf_X11_12 : Cond.fieldLink RX11 12 (TX11 0).1 (TX11 0).2.1 (TX11 0).2.2.1 ∈ lw_ok := mkc2 176 (by decide +kernel) rfl
theorem qf_X11_104 : Cond.fieldLink RX11 104 (TX8 1).1 (TX8 1).2.1 (TX8 1).2.2.1 ∈ lw_ok := mkc1 98 (by decide +kernel) rfl
theorem qm_X11_107 : Cond.methodLink RX11 107 yX0_copyFrom ∈ lw_ok := mkc3 107 (by decide +kernel) rfl
theorem qi_X0_copyFrom : Cond.instanceMethod yX0_copyFrom ∈ lw_ok := mkc3 108 (by decide +kernel) rfl
theorem qs_X0_copyFrom : Cond.selects RX0 yX0_copyFrom yX0_copyFrom ∈ lw_ok := mkc3 109 (by decide +kernel) rfl
theorem qc_X0_copyFrom : Cond.code yX0_copyFrom cX0_copyFrom 3 none ∈ lw_ok := mkc3 110 (by decide +kernel) rfl
theorem gv_X11_107 : GoodIn lw_ok (wsV RX11 107 RX0 yX0_copyFrom [Cond.code yX0_copyFrom cX0_copyFrom 3 none]) := gV qm_X11_107 qi_X0_copyFrom qs_X0_copyFrom qz_X0 qc_X0_copyFrom
theorem hdV_X0_copyFrom : yX0_copyFrom.cls = RX0 ∧ yX0_copyFrom.cls ≠ "java/lang/invoke/MethodHandle" ∧ yX0_copyFrom.cls ≠ "java/lang/invoke/VarHandle" ∧ (parseMethodDescriptor yX0_copyFrom.desc).map (fun d => d.parameters.length) = some 1 := by decide +kernel
theorem qf_X11_111 : Cond.fieldLink RX11 111 (TX0 4).1 (TX0 4).2.1 (TX0 4).2.2.1 ∈ lw_ok := mkc1 60 (by decide +kernel) rfl
theorem qf_X11_114 : Cond.fieldLink RX11 114 (TX8 3).1 (TX8 3).2.1 (TX8 3).2.2.1 ∈ lw_ok := mkc1 102 (by decide +kernel) rfl
theorem qf_X11_117 : Cond.fieldLink RX11 117 (TX8 4).1 (TX8 4).2.1 (TX8 4).2.2.1 ∈ lw_ok := mkc1 104 (by decide +kernel) rfl
theorem qm_X11_120 : Cond.methodLink RX11 120 yX0_bitsOfColour ∈ lw_ok := mkc3 119 (by decide +kernel) rfl
theorem qi_X0_bitsOfColour : Cond.instanceMethod yX0_bitsOfColour ∈ lw_ok := mkc3 120 (by decide +kernel) rfl
theorem qs_X0_bitsOfColour : Cond.selects RX0 yX0_bitsOfColour yX0_bitsOfColour ∈ lw_ok := mkc3 121 (by decide +kernel) rfl
theorem qc_X0_bitsOfColour : Cond.code yX0_bitsOfColour cX0_bitsOfColour 4 (some .int) ∈ lw_ok := mkc3 122 (by decide +kernel) rfl
theorem gv_X11_120 : GoodIn lw_ok (wsV RX11 120 RX0 yX0_bitsOfColour [Cond.code yX0_bitsOfColour cX0_bitsOfColour 4 (some .int)]) := gV qm_X11_120 qi_X0_bitsOfColour qs_X0_bitsOfColour qz_X0 qc_X0_bitsOfColour
theorem hdV_X0_bitsOfColour : yX0_bitsOfColour.cls = RX0 ∧ yX0_bitsOfColour.cls ≠ "java/lang/invoke/MethodHandle" ∧ yX0_bitsOfColour.cls ≠ "java/lang/invoke/VarHandle" ∧ (parseMethodDescriptor yX0_bitsOfColour.desc).map (fun d => d.parameters.length) = some 1 := by decide +kernel
theorem qm_X11_124 : Cond.methodLink RX11 124 yX0_bitsLoaded ∈ lw_ok := mkc3 123 (by decide +kernel) rfl
theorem qi_X0_bitsLoaded : Cond.instanceMethod yX0_bitsLoaded ∈ lw_ok := mkc3 124 (by decide +kernel) rfl
theorem qs_X0_bitsLoaded : Cond.selects RX0 yX0_bitsLoaded yX0_bitsLoaded ∈ lw_ok := mkc3 125 (by decide +kernel) rfl
theorem qc_X0_bitsLoaded : Cond.code yX0_bitsLoaded cX0_bitsLoaded 3 (some .int) ∈ lw_ok := mkc3 126 (by decide +kernel) rfl
theorem gv_X11_124 : GoodIn lw_ok (wsV RX11 124 RX0 yX0_bitsLoaded [Cond.code yX0_bitsLoaded cX0_bitsLoaded 3 (some .int)]) := gV qm_X11_124 qi_X0_bitsLoaded qs_X0_bitsLoaded qz_X0 qc_X0_bitsLoaded
theorem hdV_X0_bitsLoaded : yX0_bitsLoaded.cls = RX0 ∧ yX0_bitsLoaded.cls ≠ "java/lang/invoke/MethodHandle" ∧ yX0_bitsLoaded.cls ≠ "java/lang/invoke/VarHandle" ∧ (parseMethodDescriptor yX0_bitsLoaded.desc).map (fun d => d.parameters.length) = some 0 := by decide +kernel
theorem qm_X11_128 : Cond.methodLink RX11 128 yX0_has ∈ lw_ok := mkc3 131 (by decide +kernel) rfl
theorem qi_X0_has : Cond.instanceMethod yX0_has ∈ lw_ok := mkc3 132 (by decide +kernel) rfl
theorem qs_X0_has : Cond.selects RX0 yX0_has yX0_has ∈ lw_ok := mkc3 133 (by decide +kernel) rfl
theorem qc_X0_has : Cond.code yX0_has cX0_has 2 (some .boolean) ∈ lw_ok := mkc3 134 (by decide +kernel) rfl
theorem gv_X11_128 : GoodIn lw_ok (wsV RX11 128 RX0 yX0_has [Cond.code yX0_has cX0_has 2 (some .boolean)]) := gV qm_X11_128 qi_X0_has qs_X0_has qz_X0 qc_X0_has
theorem hdV_X0_has : yX0_has.cls = RX0 ∧ yX0_has.cls ≠ "java/lang/invoke/MethodHandle" ∧ yX0_has.cls ≠ "java/lang/invoke/VarHandle" ∧ (parseMethodDescriptor yX0_has.desc).map (fun d => d.parameters.length) = some 1 := by decide +kernel
theorem qf_X11_133 : Cond.fieldLink RX11 133 (TX0 0).1 (TX0 0).2.1 (TX0 0).2.2.1 ∈ lw_ok := mkc1 38 (by decide +kernel) rfl
theorem qf_X11_137 : Cond.fieldLink RX11 137 (TX0 1).1 (TX0 1).2.1 (TX0 1).2.2.1 ∈ lw_ok := mkc1 44 (by decide +kernel) rfl
theorem qf_X11_140 : Cond.fieldLink RX11 140 (TX0 2).1 (TX0 2).2.1 (TX0 2).2.2.1 ∈ lw_ok := mkc1 48 (by decide +kernel) rfl
theorem qf_X11_143 : Cond.fieldLink RX11 143 (TX0 3).1 (TX0 3).2.1 (TX0 3).2.2.1 ∈ lw_ok := mkc1 51 (by decide +kernel) rfl
theorem qj_X11_131 : Cond.constantLong RX11 131 (-9223372036854775808) ∈ lw_ok := mkc3 135 (by decide +kernel) rfl
theorem qf_X11_146 : Cond.fieldLink RX11 146 (TX0 5).1 (TX0 5).2.1 (TX0 5).2.2.1 ∈ lw_ok := mkc1 65 (by decide +kernel) rfl
theorem qf_X11_149 : Cond.fieldLink RX11 149 (TX0 6).1 (TX0 6).2.1 (TX0 6).2.2.1 ∈ lw_ok := mkc1 70 (by decide +kernel) rfl
theorem qf_X2_43 : Cond.fieldLink RX2 43 (TX0 0).1 (TX0 0).2.1 (TX0 0).2.2.1 ∈ lw_ok := mkc1 36 (by decide +kernel) rfl
theorem qf_X2_44 : Cond.fieldLink RX2 44 (TX0 1).1 (TX0 1).2.1 (TX0 1).2.2.1 ∈ lw_ok := mkc1 42 (by decide +kernel) rfl
theorem qf_X2_21 : Cond.fieldLink RX2 21 (TX2 3).1 (TX2 3).2.1 (TX2 3).2.2.1 ∈ lw_ok := mkc1 146 (by decide +kernel) rfl
theorem in_X2 : ∀ w ∈ u_ws RX2 TX2 5, w ∈ lw_ok := okIn _ [151, 153, 155, 157, 159] (by decide +kernel) (by decide +kernel)
theorem qm_X2_45 : Cond.methodLink RX2 45 yX2_isBefore ∈ lw_ok := mkc3 159 (by decide +kernel) rfl
theorem qt_X2_isBefore : Cond.static yX2_isBefore ∈ lw_ok := mkc3 160 (by decide +kernel) rfl
theorem qz_X2 : Cond.initialized RX2 ∈ lw_ok := mkc1 4 (by decide +kernel) rfl
theorem qc_X2_isBefore : Cond.code yX2_isBefore cX2_isBefore 4 (some .boolean) ∈ lw_ok := mkc3 161 (by decide +kernel) rfl
theorem gs_X2_45 : GoodIn lw_ok (va_wsS RX2 45 yX2_isBefore [Cond.code yX2_isBefore cX2_isBefore 4 (some .boolean)]) := gS qm_X2_45 qt_X2_isBefore qz_X2 qc_X2_isBefore
theorem hdS_X2_isBefore : yX2_isBefore.cls ≠ "java/lang/invoke/MethodHandle" ∧ yX2_isBefore.cls ≠ "java/lang/invoke/VarHandle" ∧ (parseMethodDescriptor yX2_isBefore.desc).map (fun d => d.parameters.length) = some 4 := by decide +kernel
theorem qm_X2_49 : Cond.methodLink RX2 49 yX0_isAt ∈ lw_ok := mkc3 162 (by decide +kernel) rfl
theorem qi_X0_isAt : Cond.instanceMethod yX0_isAt ∈ lw_ok := mkc3 163 (by decide +kernel) rfl
theorem qs_X0_isAt : Cond.selects RX0 yX0_isAt yX0_isAt ∈ lw_ok := mkc3 164 (by decide +kernel) rfl
theorem qc_X0_isAt : Cond.code yX0_isAt cX0_isAt 4 (some .boolean) ∈ lw_ok := mkc3 165 (by decide +kernel) rfl
theorem gv_X2_49 : GoodIn lw_ok (wsV RX2 49 RX0 yX0_isAt [Cond.code yX0_isAt cX0_isAt 4 (some .boolean)]) := gV qm_X2_49 qi_X0_isAt qs_X0_isAt qz_X0 qc_X0_isAt
theorem hdV_X0_isAt : yX0_isAt.cls = RX0 ∧ yX0_isAt.cls ≠ "java/lang/invoke/MethodHandle" ∧ yX0_isAt.cls ≠ "java/lang/invoke/VarHandle" ∧ (parseMethodDescriptor yX0_isAt.desc).map (fun d => d.parameters.length) = some 3 := by decide +kernel
theorem qf_X2_15 : Cond.fieldLink RX2 15 (TX2 1).1 (TX2 1).2.1 (TX2 1).2.2.1 ∈ lw_ok := mkc1 140 (by decide +kernel) rfl
theorem qf_X2_38 : Cond.fieldLink RX2 38 (TX2 4).1 (TX2 4).2.1 (TX2 4).2.2.1 ∈ lw_ok := mkc1 147 (by decide +kernel) rfl
theorem qf_X2_18 : Cond.fieldLink RX2 18 (TX2 2).1 (TX2 2).2.1 (TX2 2).2.2.1 ∈ lw_ok := mkc1 143 (by decide +kernel) rfl
theorem qm_X2_53 : Cond.methodLink RX2 53 yX2_turnsLeft ∈ lw_ok := mkc3 170 (by decide +kernel) rfl
theorem qi_X2_turnsLeft : Cond.instanceMethod yX2_turnsLeft ∈ lw_ok := mkc3 172 (by decide +kernel) rfl
theorem qs_X2_turnsLeft : Cond.selects RX2 yX2_turnsLeft yX2_turnsLeft ∈ lw_ok := mks 12 (by decide +kernel) rfl
theorem qc_X2_turnsLeft : Cond.code yX2_turnsLeft cX2_turnsLeft 5 (some .boolean) ∈ lw_ok := mkc3 173 (by decide +kernel) rfl
theorem gv_X2_53 : GoodIn lw_ok (wsV RX2 53 RX2 yX2_turnsLeft [Cond.code yX2_turnsLeft cX2_turnsLeft 5 (some .boolean)]) := gV qm_X2_53 qi_X2_turnsLeft qs_X2_turnsLeft qz_X2 qc_X2_turnsLeft
theorem hdV_X2_turnsLeft : yX2_turnsLeft.cls = RX2 ∧ yX2_turnsLeft.cls ≠ "java/lang/invoke/MethodHandle" ∧ yX2_turnsLeft.cls ≠ "java/lang/invoke/VarHandle" ∧ (parseMethodDescriptor yX2_turnsLeft.desc).map (fun d => d.parameters.length) = some 2 := by decide +kernel
theorem qf_X2_9 : Cond.fieldLink RX2 9 (TX2 0).1 (TX2 0).2.1 (TX2 0).2.2.1 ∈ lw_ok := mkc1 138 (by decide +kernel) rfl
theorem qf_X2_24 : Cond.fieldLink RX2 24 (TX0 4).1 (TX0 4).2.1 (TX0 4).2.2.1 ∈ lw_ok := mkc1 54 (by decide +kernel) rfl
theorem qc_X11_isIn : Cond.code yX11_isIn cX11_isIn 2 (some .boolean) ∈ lw_ok := mkc3 154 (by decide +kernel) rfl
theorem qm_X2_30 : Cond.methodLinkNest RX2 30 yX11_isIn "RainbowHulls" ∈ lw_ok := mkc3 152 (by decide +kernel) rfl
theorem qz_X11 : Cond.initialized RX11 ∈ lw_ok := mkc1 1 (by decide +kernel) rfl
theorem hdS_X11_isIn : yX11_isIn.cls ≠ "java/lang/invoke/MethodHandle" ∧ yX11_isIn.cls ≠ "java/lang/invoke/VarHandle" ∧ (parseMethodDescriptor yX11_isIn.desc).map (fun d => d.parameters.length) = some 2 := by decide +kernel
theorem qt_X11_isIn : Cond.static yX11_isIn ∈ lw_ok := mkc3 153 (by decide +kernel) rfl
theorem qm_X2_34 : Cond.methodLink RX2 34 yX2_insert ∈ lw_ok := mkc3 155 (by decide +kernel) rfl
theorem qi_X2_insert : Cond.instanceMethod yX2_insert ∈ lw_ok := mkc3 157 (by decide +kernel) rfl
theorem qs_X2_insert : Cond.selects RX2 yX2_insert yX2_insert ∈ lw_ok := mks 10 (by decide +kernel) rfl
theorem qc_X2_insert : Cond.code yX2_insert cX2_insert 8 (some .int) ∈ lw_ok := mkc3 158 (by decide +kernel) rfl
theorem gv_X2_34 : GoodIn lw_ok (wsV RX2 34 RX2 yX2_insert [Cond.code yX2_insert cX2_insert 8 (some .int)]) := gV qm_X2_34 qi_X2_insert qs_X2_insert qz_X2 qc_X2_insert
theorem hdV_X2_insert : yX2_insert.cls = RX2 ∧ yX2_insert.cls ≠ "java/lang/invoke/MethodHandle" ∧ yX2_insert.cls ≠ "java/lang/invoke/VarHandle" ∧ (parseMethodDescriptor yX2_insert.desc).map (fun d => d.parameters.length) = some 3 := by decide +kernel
theorem qm_X2_39 : Cond.methodLink RX2 39 yX2_push ∈ lw_ok := mkc3 166 (by decide +kernel) rfl
theorem qi_X2_push : Cond.instanceMethod yX2_push ∈ lw_ok := mkc3 168 (by decide +kernel) rfl
theorem qs_X2_push : Cond.selects RX2 yX2_push yX2_push ∈ lw_ok := mks 11 (by decide +kernel) rfl
theorem qc_X2_push : Cond.code yX2_push cX2_push 6 none ∈ lw_ok := mkc3 169 (by decide +kernel) rfl
theorem gv_X2_39 : GoodIn lw_ok (wsV RX2 39 RX2 yX2_push [Cond.code yX2_push cX2_push 6 none]) := gV qm_X2_39 qi_X2_push qs_X2_push qz_X2 qc_X2_push
theorem hdV_X2_push : yX2_push.cls = RX2 ∧ yX2_push.cls ≠ "java/lang/invoke/MethodHandle" ∧ yX2_push.cls ≠ "java/lang/invoke/VarHandle" ∧ (parseMethodDescriptor yX2_push.desc).map (fun d => d.parameters.length) = some 3 := by decide +kernel
theorem qm_X11_152 : Cond.methodLink RX11 152 yX0_hasSet ∈ lw_ok := mkc3 144 (by decide +kernel) rfl
theorem qi_X0_hasSet : Cond.instanceMethod yX0_hasSet ∈ lw_ok := mkc3 145 (by decide +kernel) rfl
theorem qs_X0_hasSet : Cond.selects RX0 yX0_hasSet yX0_hasSet ∈ lw_ok := mkc3 146 (by decide +kernel) rfl
theorem qc_X0_hasSet : Cond.code yX0_hasSet cX0_hasSet 2 (some .boolean) ∈ lw_ok := mkc3 147 (by decide +kernel) rfl
theorem gv_X11_152 : GoodIn lw_ok (wsV RX11 152 RX0 yX0_hasSet [Cond.code yX0_hasSet cX0_hasSet 2 (some .boolean)]) := gV qm_X11_152 qi_X0_hasSet qs_X0_hasSet qz_X0 qc_X0_hasSet
theorem hdV_X0_hasSet : yX0_hasSet.cls = RX0 ∧ yX0_hasSet.cls ≠ "java/lang/invoke/MethodHandle" ∧ yX0_hasSet.cls ≠ "java/lang/invoke/VarHandle" ∧ (parseMethodDescriptor yX0_hasSet.desc).map (fun d => d.parameters.length) = some 1 := by decide +kernel
theorem qf_X11_28 : Cond.fieldLink RX11 28 (TX11 2).1 (TX11 2).2.1 (TX11 2).2.2.1 ∈ lw_ok := mkc2 178 (by decide +kernel) rfl
theorem qm_X11_155 : Cond.methodLink RX11 155 yX2_build ∈ lw_ok := mkc3 148 (by decide +kernel) rfl
theorem qi_X2_build : Cond.instanceMethod yX2_build ∈ lw_ok := mkc3 149 (by decide +kernel) rfl
theorem qs_X2_build : Cond.selects RX2 yX2_build yX2_build ∈ lw_ok := mkc3 150 (by decide +kernel) rfl
theorem qc_X2_build : Cond.code yX2_build cX2_build 6 none ∈ lw_ok := mkc3 151 (by decide +kernel) rfl
theorem gv_X11_155 : GoodIn lw_ok (wsV RX11 155 RX2 yX2_build [Cond.code yX2_build cX2_build 6 none]) := gV qm_X11_155 qi_X2_build qs_X2_build qz_X2 qc_X2_build
theorem hdV_X2_build : yX2_build.cls = RX2 ∧ yX2_build.cls ≠ "java/lang/invoke/MethodHandle" ∧ yX2_build.cls ≠ "java/lang/invoke/VarHandle" ∧ (parseMethodDescriptor yX2_build.desc).map (fun d => d.parameters.length) = some 2 := by decide +kernel
theorem qf_X11_159 : Cond.fieldLink RX11 159 (TX2 4).1 (TX2 4).2.1 (TX2 4).2.2.1 ∈ lw_ok := mkc1 150 (by decide +kernel) rfl
theorem qf_X11_160 : Cond.fieldLink RX11 160 (TX2 0).1 (TX2 0).2.1 (TX2 0).2.2.1 ∈ lw_ok := mkc1 139 (by decide +kernel) rfl
theorem qm_X11_163 : Cond.methodLink RX11 163 yX2_doubleArea ∈ lw_ok := mkc3 182 (by decide +kernel) rfl
theorem qi_X2_doubleArea : Cond.instanceMethod yX2_doubleArea ∈ lw_ok := mkc3 183 (by decide +kernel) rfl
theorem qs_X2_doubleArea : Cond.selects RX2 yX2_doubleArea yX2_doubleArea ∈ lw_ok := mkc3 184 (by decide +kernel) rfl
theorem qc_X2_doubleArea : Cond.code yX2_doubleArea cX2_doubleArea 3 (some .int) ∈ lw_ok := mkc3 185 (by decide +kernel) rfl
theorem gv_X11_163 : GoodIn lw_ok (wsV RX11 163 RX2 yX2_doubleArea [Cond.code yX2_doubleArea cX2_doubleArea 3 (some .int)]) := gV qm_X11_163 qi_X2_doubleArea qs_X2_doubleArea qz_X2 qc_X2_doubleArea
theorem hdV_X2_doubleArea : yX2_doubleArea.cls = RX2 ∧ yX2_doubleArea.cls ≠ "java/lang/invoke/MethodHandle" ∧ yX2_doubleArea.cls ≠ "java/lang/invoke/VarHandle" ∧ (parseMethodDescriptor yX2_doubleArea.desc).map (fun d => d.parameters.length) = some 0 := by decide +kernel
theorem qm_X11_383 : Cond.methodLink RX11 383 Lib.MathLoose.abs_long.x ∈ lw_ok := mkc3 197 (by decide +kernel) rfl
theorem qt_Lib_MathLoose_abs_long : Cond.static Lib.MathLoose.abs_long.x ∈ lw_ok := mkc3 198 (by decide +kernel) rfl
theorem qc_Lib_MathLoose_abs_long : Cond.code Lib.MathLoose.abs_long.x Lib.MathLoose.abs_long.code 2 (some .long) ∈ lw_ok := mkc3 199 (by decide +kernel) rfl
theorem qc_X11_gcd : Cond.code yX11_gcd cX11_gcd 11 (some .long) ∈ lw_ok := mkc3 196 (by decide +kernel) rfl
theorem qm_X2_56 : Cond.methodLinkNest RX2 56 yX11_gcd "RainbowHulls" ∈ lw_ok := mkc3 194 (by decide +kernel) rfl
theorem hdS_X11_gcd : yX11_gcd.cls ≠ "java/lang/invoke/MethodHandle" ∧ yX11_gcd.cls ≠ "java/lang/invoke/VarHandle" ∧ (parseMethodDescriptor yX11_gcd.desc).map (fun d => d.parameters.length) = some 2 := by decide +kernel
theorem qt_X11_gcd : Cond.static yX11_gcd ∈ lw_ok := mkc3 195 (by decide +kernel) rfl
theorem qm_X2_60 : Cond.methodLink RX2 60 yX2_doubleArea ∈ lw_ok := mkc3 200 (by decide +kernel) rfl
theorem gv_X2_60 : GoodIn lw_ok (wsV RX2 60 RX2 yX2_doubleArea [Cond.code yX2_doubleArea cX2_doubleArea 3 (some .int)]) := gV qm_X2_60 qi_X2_doubleArea qs_X2_doubleArea qz_X2 qc_X2_doubleArea
theorem qm_X11_166 : Cond.methodLink RX11 166 yX2_wholePlaces ∈ lw_ok := mkc3 190 (by decide +kernel) rfl
theorem qi_X2_wholePlaces : Cond.instanceMethod yX2_wholePlaces ∈ lw_ok := mkc3 191 (by decide +kernel) rfl
theorem qs_X2_wholePlaces : Cond.selects RX2 yX2_wholePlaces yX2_wholePlaces ∈ lw_ok := mkc3 192 (by decide +kernel) rfl
theorem qc_X2_wholePlaces : Cond.code yX2_wholePlaces cX2_wholePlaces 3 (some .int) ∈ lw_ok := mkc3 193 (by decide +kernel) rfl
theorem gv_X11_166 : GoodIn lw_ok (wsV RX11 166 RX2 yX2_wholePlaces [Cond.code yX2_wholePlaces cX2_wholePlaces 3 (some .int)]) := gV qm_X11_166 qi_X2_wholePlaces qs_X2_wholePlaces qz_X2 qc_X2_wholePlaces
theorem hdV_X2_wholePlaces : yX2_wholePlaces.cls = RX2 ∧ yX2_wholePlaces.cls ≠ "java/lang/invoke/MethodHandle" ∧ yX2_wholePlaces.cls ≠ "java/lang/invoke/VarHandle" ∧ (parseMethodDescriptor yX2_wholePlaces.desc).map (fun d => d.parameters.length) = some 0 := by decide +kernel
theorem qm_X11_169 : Cond.methodLink RX11 169 yX11_isPlace ∈ lw_ok := mkc3 205 (by decide +kernel) rfl
theorem qt_X11_isPlace : Cond.static yX11_isPlace ∈ lw_ok := mkc3 206 (by decide +kernel) rfl
theorem qc_X11_isPlace : Cond.code yX11_isPlace cX11_isPlace 2 (some .boolean) ∈ lw_ok := mkc3 207 (by decide +kernel) rfl
theorem gs_X11_169 : GoodIn lw_ok (va_wsS RX11 169 yX11_isPlace [Cond.code yX11_isPlace cX11_isPlace 2 (some .boolean)]) := gS qm_X11_169 qt_X11_isPlace qz_X11 qc_X11_isPlace
theorem hdS_X11_isPlace : yX11_isPlace.cls ≠ "java/lang/invoke/MethodHandle" ∧ yX11_isPlace.cls ≠ "java/lang/invoke/VarHandle" ∧ (parseMethodDescriptor yX11_isPlace.desc).map (fun d => d.parameters.length) = some 2 := by decide +kernel
theorem qm_X11_173 : Cond.methodLink RX11 173 yX2_sideOf ∈ lw_ok := mkc3 208 (by decide +kernel) rfl
theorem qi_X2_sideOf : Cond.instanceMethod yX2_sideOf ∈ lw_ok := mkc3 209 (by decide +kernel) rfl
theorem qs_X2_sideOf : Cond.selects RX2 yX2_sideOf yX2_sideOf ∈ lw_ok := mkc3 210 (by decide +kernel) rfl
theorem qc_X2_sideOf : Cond.code yX2_sideOf cX2_sideOf 16 (some .int) ∈ lw_ok := mkc3 211 (by decide +kernel) rfl
theorem gv_X11_173 : GoodIn lw_ok (wsV RX11 173 RX2 yX2_sideOf [Cond.code yX2_sideOf cX2_sideOf 16 (some .int)]) := gV qm_X11_173 qi_X2_sideOf qs_X2_sideOf qz_X2 qc_X2_sideOf
theorem hdV_X2_sideOf : yX2_sideOf.cls = RX2 ∧ yX2_sideOf.cls ≠ "java/lang/invoke/MethodHandle" ∧ yX2_sideOf.cls ≠ "java/lang/invoke/VarHandle" ∧ (parseMethodDescriptor yX2_sideOf.desc).map (fun d => d.parameters.length) = some 3 := by decide +kernel
theorem qf_X4_16 : Cond.fieldLink RX4 16 (TX4 5).1 (TX4 5).2.1 (TX4 5).2.2.1 ∈ lw_ok := mkc1 182 (by decide +kernel) rfl
theorem in_X4 : ∀ w ∈ u_ws RX4 TX4 7, w ∈ lw_ok := okIn _ [184, 186, 188, 190, 192, 194, 196] (by decide +kernel) (by decide +kernel)
theorem qf_X4_20 : Cond.fieldLink RX4 20 (TX4 6).1 (TX4 6).2.1 (TX4 6).2.2.1 ∈ lw_ok := mkc1 183 (by decide +kernel) rfl
theorem qf_X4_23 : Cond.fieldLink RX4 23 (TX4 3).1 (TX4 3).2.1 (TX4 3).2.2.1 ∈ lw_ok := mkc1 175 (by decide +kernel) rfl
theorem qf_X4_13 : Cond.fieldLink RX4 13 (TX4 4).1 (TX4 4).2.1 (TX4 4).2.2.1 ∈ lw_ok := mkc1 179 (by decide +kernel) rfl
theorem qf_X4_54 : Cond.fieldLink RX4 54 (TX4 0).1 (TX4 0).2.1 (TX4 0).2.2.1 ∈ lw_ok := mkc1 168 (by decide +kernel) rfl
theorem qf_X4_56 : Cond.fieldLink RX4 56 (TX4 1).1 (TX4 1).2.1 (TX4 1).2.2.1 ∈ lw_ok := mkc1 170 (by decide +kernel) rfl
theorem qf_X4_7 : Cond.fieldLink RX4 7 (TX4 2).1 (TX4 2).2.1 (TX4 2).2.2.1 ∈ lw_ok := mkc1 172 (by decide +kernel) rfl
theorem qm_X4_36 : Cond.methodLink RX4 36 yX4_offer ∈ lw_ok := mkc3 229 (by decide +kernel) rfl
theorem qi_X4_offer : Cond.instanceMethod yX4_offer ∈ lw_ok := mkc3 230 (by decide +kernel) rfl
theorem qs_X4_offer : Cond.selects RX4 yX4_offer yX4_offer ∈ lw_ok := mkc3 231 (by decide +kernel) rfl
theorem qz_X4 : Cond.initialized RX4 ∈ lw_ok := mkc1 5 (by decide +kernel) rfl
theorem qc_X4_offer : Cond.code yX4_offer cX4_offer 13 (some .boolean) ∈ lw_ok := mkc3 232 (by decide +kernel) rfl
theorem gv_X4_36 : GoodIn lw_ok (wsV RX4 36 RX4 yX4_offer [Cond.code yX4_offer cX4_offer 13 (some .boolean)]) := gV qm_X4_36 qi_X4_offer qs_X4_offer qz_X4 qc_X4_offer
theorem hdV_X4_offer : yX4_offer.cls = RX4 ∧ yX4_offer.cls ≠ "java/lang/invoke/MethodHandle" ∧ yX4_offer.cls ≠ "java/lang/invoke/VarHandle" ∧ (parseMethodDescriptor yX4_offer.desc).map (fun d => d.parameters.length) = some 3 := by decide +kernel
theorem qm_X4_26 : Cond.methodLink RX4 26 yX4_start ∈ lw_ok := mkc3 224 (by decide +kernel) rfl
theorem qi_X4_start : Cond.instanceMethod yX4_start ∈ lw_ok := mkc3 225 (by decide +kernel) rfl
theorem qs_X4_start : Cond.selects RX4 yX4_start yX4_start ∈ lw_ok := mkc3 226 (by decide +kernel) rfl
theorem qc_X4_start : Cond.code yX4_start cX4_start 3 none ∈ lw_ok := mkc3 227 (by decide +kernel) rfl
theorem gv_X4_26 : GoodIn lw_ok (wsV RX4 26 RX4 yX4_start [Cond.code yX4_start cX4_start 3 none]) := gV qm_X4_26 qi_X4_start qs_X4_start qz_X4 qc_X4_start
theorem hdV_X4_start : yX4_start.cls = RX4 ∧ yX4_start.cls ≠ "java/lang/invoke/MethodHandle" ∧ yX4_start.cls ≠ "java/lang/invoke/VarHandle" ∧ (parseMethodDescriptor yX4_start.desc).map (fun d => d.parameters.length) = some 2 := by decide +kernel
theorem qm_X4_30 : Cond.methodLink RX4 30 yX2_sideOf ∈ lw_ok := mkc3 228 (by decide +kernel) rfl
theorem gv_X4_30 : GoodIn lw_ok (wsV RX4 30 RX2 yX2_sideOf [Cond.code yX2_sideOf cX2_sideOf 16 (some .int)]) := gV qm_X4_30 qi_X2_sideOf qs_X2_sideOf qz_X2 qc_X2_sideOf
theorem qf_X4_40 : Cond.fieldLink RX4 40 (TX2 4).1 (TX2 4).2.1 (TX2 4).2.2.1 ∈ lw_ok := mkc1 148 (by decide +kernel) rfl
theorem qf_X4_43 : Cond.fieldLink RX4 43 (TX2 1).1 (TX2 1).2.1 (TX2 1).2.2.1 ∈ lw_ok := mkc1 141 (by decide +kernel) rfl
theorem qf_X4_47 : Cond.fieldLink RX4 47 (TX2 2).1 (TX2 2).2.1 (TX2 2).2.2.1 ∈ lw_ok := mkc1 144 (by decide +kernel) rfl
theorem qm_X4_50 : Cond.methodLink RX4 50 yX4_offerEdge ∈ lw_ok := mkc3 233 (by decide +kernel) rfl
theorem qi_X4_offerEdge : Cond.instanceMethod yX4_offerEdge ∈ lw_ok := mkc3 234 (by decide +kernel) rfl
theorem qs_X4_offerEdge : Cond.selects RX4 yX4_offerEdge yX4_offerEdge ∈ lw_ok := mkc3 235 (by decide +kernel) rfl
theorem qc_X4_offerEdge : Cond.code yX4_offerEdge cX4_offerEdge 13 (some .boolean) ∈ lw_ok := mkc3 236 (by decide +kernel) rfl
theorem gv_X4_50 : GoodIn lw_ok (wsV RX4 50 RX4 yX4_offerEdge [Cond.code yX4_offerEdge cX4_offerEdge 13 (some .boolean)]) := gV qm_X4_50 qi_X4_offerEdge qs_X4_offerEdge qz_X4 qc_X4_offerEdge
theorem hdV_X4_offerEdge : yX4_offerEdge.cls = RX4 ∧ yX4_offerEdge.cls ≠ "java/lang/invoke/MethodHandle" ∧ yX4_offerEdge.cls ≠ "java/lang/invoke/VarHandle" ∧ (parseMethodDescriptor yX4_offerEdge.desc).map (fun d => d.parameters.length) = some 4 := by decide +kernel
theorem qm_X4_58 : Cond.methodLinkNest RX4 58 yX11_gcd "RainbowHulls" ∈ lw_ok := mkc4 1 (by decide +kernel) rfl
theorem qf_X11_35 : Cond.fieldLink RX11 35 (TX11 3).1 (TX11 3).2.1 (TX11 3).2.2.1 ∈ lw_ok := mkc2 179 (by decide +kernel) rfl
theorem qm_X11_177 : Cond.methodLink RX11 177 yX4_findOnHull ∈ lw_ok := mkc3 220 (by decide +kernel) rfl
theorem qi_X4_findOnHull : Cond.instanceMethod yX4_findOnHull ∈ lw_ok := mkc3 221 (by decide +kernel) rfl
theorem qs_X4_findOnHull : Cond.selects RX4 yX4_findOnHull yX4_findOnHull ∈ lw_ok := mkc3 222 (by decide +kernel) rfl
theorem qc_X4_findOnHull : Cond.code yX4_findOnHull cX4_findOnHull 5 none ∈ lw_ok := mkc3 223 (by decide +kernel) rfl
theorem gv_X11_177 : GoodIn lw_ok (wsV RX11 177 RX4 yX4_findOnHull [Cond.code yX4_findOnHull cX4_findOnHull 5 none]) := gV qm_X11_177 qi_X4_findOnHull qs_X4_findOnHull qz_X4 qc_X4_findOnHull
theorem hdV_X4_findOnHull : yX4_findOnHull.cls = RX4 ∧ yX4_findOnHull.cls ≠ "java/lang/invoke/MethodHandle" ∧ yX4_findOnHull.cls ≠ "java/lang/invoke/VarHandle" ∧ (parseMethodDescriptor yX4_findOnHull.desc).map (fun d => d.parameters.length) = some 3 := by decide +kernel
theorem qm_X11_181 : Cond.methodLink RX11 181 yX4_bringToLowestTerms ∈ lw_ok := mkc3 237 (by decide +kernel) rfl
theorem qi_X4_bringToLowestTerms : Cond.instanceMethod yX4_bringToLowestTerms ∈ lw_ok := mkc3 238 (by decide +kernel) rfl
theorem qs_X4_bringToLowestTerms : Cond.selects RX4 yX4_bringToLowestTerms yX4_bringToLowestTerms ∈ lw_ok := mkc3 239 (by decide +kernel) rfl
theorem qc_X4_bringToLowestTerms : Cond.code yX4_bringToLowestTerms cX4_bringToLowestTerms 3 none ∈ lw_ok := mkc4 0 (by decide +kernel) rfl
theorem gv_X11_181 : GoodIn lw_ok (wsV RX11 181 RX4 yX4_bringToLowestTerms [Cond.code yX4_bringToLowestTerms cX4_bringToLowestTerms 3 none]) := gV qm_X11_181 qi_X4_bringToLowestTerms qs_X4_bringToLowestTerms qz_X4 qc_X4_bringToLowestTerms
theorem hdV_X4_bringToLowestTerms : yX4_bringToLowestTerms.cls = RX4 ∧ yX4_bringToLowestTerms.cls ≠ "java/lang/invoke/MethodHandle" ∧ yX4_bringToLowestTerms.cls ≠ "java/lang/invoke/VarHandle" ∧ (parseMethodDescriptor yX4_bringToLowestTerms.desc).map (fun d => d.parameters.length) = some 0 := by decide +kernel
theorem qf_X11_184 : Cond.fieldLink RX11 184 (TX4 0).1 (TX4 0).2.1 (TX4 0).2.2.1 ∈ lw_ok := mkc1 169 (by decide +kernel) rfl
theorem qf_X11_187 : Cond.fieldLink RX11 187 (TX4 1).1 (TX4 1).2.1 (TX4 1).2.2.1 ∈ lw_ok := mkc1 171 (by decide +kernel) rfl
theorem qf_X11_189 : Cond.fieldLink RX11 189 (TX4 2).1 (TX4 2).2.1 (TX4 2).2.2.1 ∈ lw_ok := mkc1 174 (by decide +kernel) rfl
theorem qf_X11_192 : Cond.fieldLink RX11 192 (TX4 3).1 (TX4 3).2.1 (TX4 3).2.2.1 ∈ lw_ok := mkc1 178 (by decide +kernel) rfl
theorem qf_X11_195 : Cond.fieldLink RX11 195 (TX4 4).1 (TX4 4).2.1 (TX4 4).2.2.1 ∈ lw_ok := mkc1 181 (by decide +kernel) rfl
theorem qm_X2_64 : Cond.methodLink RX2 64 Lib.MathLoose.min_long.x ∈ lw_ok := mkc4 19 (by decide +kernel) rfl
theorem qt_Lib_MathLoose_min_long : Cond.static Lib.MathLoose.min_long.x ∈ lw_ok := mkc4 20 (by decide +kernel) rfl
theorem qc_Lib_MathLoose_min_long : Cond.code Lib.MathLoose.min_long.x Lib.MathLoose.min_long.code 4 (some .long) ∈ lw_ok := mkc4 21 (by decide +kernel) rfl
theorem qm_X11_198 : Cond.methodLink RX11 198 yX4_wayX ∈ lw_ok := mkc4 6 (by decide +kernel) rfl
theorem qi_X4_wayX : Cond.instanceMethod yX4_wayX ∈ lw_ok := mkc4 7 (by decide +kernel) rfl
theorem qs_X4_wayX : Cond.selects RX4 yX4_wayX yX4_wayX ∈ lw_ok := mkc4 8 (by decide +kernel) rfl
theorem qc_X4_wayX : Cond.code yX4_wayX cX4_wayX 1 (some .long) ∈ lw_ok := mkc4 9 (by decide +kernel) rfl
theorem gv_X11_198 : GoodIn lw_ok (wsV RX11 198 RX4 yX4_wayX [Cond.code yX4_wayX cX4_wayX 1 (some .long)]) := gV qm_X11_198 qi_X4_wayX qs_X4_wayX qz_X4 qc_X4_wayX
theorem hdV_X4_wayX : yX4_wayX.cls = RX4 ∧ yX4_wayX.cls ≠ "java/lang/invoke/MethodHandle" ∧ yX4_wayX.cls ≠ "java/lang/invoke/VarHandle" ∧ (parseMethodDescriptor yX4_wayX.desc).map (fun d => d.parameters.length) = some 0 := by decide +kernel
theorem qm_X11_202 : Cond.methodLink RX11 202 yX4_wayY ∈ lw_ok := mkc4 10 (by decide +kernel) rfl
theorem qi_X4_wayY : Cond.instanceMethod yX4_wayY ∈ lw_ok := mkc4 11 (by decide +kernel) rfl
theorem qs_X4_wayY : Cond.selects RX4 yX4_wayY yX4_wayY ∈ lw_ok := mkc4 12 (by decide +kernel) rfl
theorem qc_X4_wayY : Cond.code yX4_wayY cX4_wayY 1 (some .long) ∈ lw_ok := mkc4 13 (by decide +kernel) rfl
theorem gv_X11_202 : GoodIn lw_ok (wsV RX11 202 RX4 yX4_wayY [Cond.code yX4_wayY cX4_wayY 1 (some .long)]) := gV qm_X11_202 qi_X4_wayY qs_X4_wayY qz_X4 qc_X4_wayY
theorem hdV_X4_wayY : yX4_wayY.cls = RX4 ∧ yX4_wayY.cls ≠ "java/lang/invoke/MethodHandle" ∧ yX4_wayY.cls ≠ "java/lang/invoke/VarHandle" ∧ (parseMethodDescriptor yX4_wayY.desc).map (fun d => d.parameters.length) = some 0 := by decide +kernel
theorem qm_X11_205 : Cond.methodLink RX11 205 yX11_gcd ∈ lw_ok := mkc4 14 (by decide +kernel) rfl
theorem gs_X11_205 : GoodIn lw_ok (va_wsS RX11 205 yX11_gcd [Cond.code yX11_gcd cX11_gcd 11 (some .long)]) := gS qm_X11_205 qt_X11_gcd qz_X11 qc_X11_gcd
theorem qm_X11_209 : Cond.methodLink RX11 209 yX2_leastAlong ∈ lw_ok := mkc4 15 (by decide +kernel) rfl
theorem qi_X2_leastAlong : Cond.instanceMethod yX2_leastAlong ∈ lw_ok := mkc4 16 (by decide +kernel) rfl
theorem qs_X2_leastAlong : Cond.selects RX2 yX2_leastAlong yX2_leastAlong ∈ lw_ok := mkc4 17 (by decide +kernel) rfl
theorem qc_X2_leastAlong : Cond.code yX2_leastAlong cX2_leastAlong 8 (some .long) ∈ lw_ok := mkc4 18 (by decide +kernel) rfl
theorem gv_X11_209 : GoodIn lw_ok (wsV RX11 209 RX2 yX2_leastAlong [Cond.code yX2_leastAlong cX2_leastAlong 8 (some .long)]) := gV qm_X11_209 qi_X2_leastAlong qs_X2_leastAlong qz_X2 qc_X2_leastAlong
theorem hdV_X2_leastAlong : yX2_leastAlong.cls = RX2 ∧ yX2_leastAlong.cls ≠ "java/lang/invoke/MethodHandle" ∧ yX2_leastAlong.cls ≠ "java/lang/invoke/VarHandle" ∧ (parseMethodDescriptor yX2_leastAlong.desc).map (fun d => d.parameters.length) = some 2 := by decide +kernel
theorem qf_X10_13 : Cond.fieldLink RX10 13 (TX10 1).1 (TX10 1).2.1 (TX10 1).2.2.1 ∈ lw_ok := mkc1 207 (by decide +kernel) rfl
theorem in_X10 : ∀ w ∈ u_ws RX10 TX10 3, w ∈ lw_ok := okIn _ [211, 213, 215] (by decide +kernel) (by decide +kernel)
theorem qj_X10_46 : Cond.constantLong RX10 46 (-1) ∈ lw_ok := mkc4 39 (by decide +kernel) rfl
theorem qf_X10_9 : Cond.fieldLink RX10 9 (TX10 0).1 (TX10 0).2.1 (TX10 0).2.2.1 ∈ lw_ok := mkc1 205 (by decide +kernel) rfl
theorem qf_X10_48 : Cond.fieldLink RX10 48 (TX0 0).1 (TX0 0).2.1 (TX0 0).2.2.1 ∈ lw_ok := mkc1 37 (by decide +kernel) rfl
theorem qf_X10_51 : Cond.fieldLink RX10 51 (TX0 1).1 (TX0 1).2.1 (TX0 1).2.2.1 ∈ lw_ok := mkc1 43 (by decide +kernel) rfl
theorem qm_X10_54 : Cond.methodLink RX10 54 yX0_isAt ∈ lw_ok := mkc4 40 (by decide +kernel) rfl
theorem gv_X10_54 : GoodIn lw_ok (wsV RX10 54 RX0 yX0_isAt [Cond.code yX0_isAt cX0_isAt 4 (some .boolean)]) := gV qm_X10_54 qi_X0_isAt qs_X0_isAt qz_X0 qc_X0_isAt
theorem qc_X11_cross : Cond.code yX11_cross cX11_cross 8 (some .long) ∈ lw_ok := mkc4 47 (by decide +kernel) rfl
theorem qm_X10_58 : Cond.methodLinkNest RX10 58 yX11_cross "RainbowHulls" ∈ lw_ok := mkc4 45 (by decide +kernel) rfl
theorem hdS_X11_cross : yX11_cross.cls ≠ "java/lang/invoke/MethodHandle" ∧ yX11_cross.cls ≠ "java/lang/invoke/VarHandle" ∧ (parseMethodDescriptor yX11_cross.desc).map (fun d => d.parameters.length) = some 4 := by decide +kernel
theorem qt_X11_cross : Cond.static yX11_cross ∈ lw_ok := mkc4 46 (by decide +kernel) rfl
theorem qf_X10_17 : Cond.fieldLink RX10 17 (TX10 2).1 (TX10 2).2.1 (TX10 2).2.2.1 ∈ lw_ok := mkc1 209 (by decide +kernel) rfl
theorem qm_X10_37 : Cond.methodLink RX10 37 yX10_bindTwo ∈ lw_ok := mkc4 35 (by decide +kernel) rfl
theorem qi_X10_bindTwo : Cond.instanceMethod yX10_bindTwo ∈ lw_ok := mkc4 37 (by decide +kernel) rfl
theorem qs_X10_bindTwo : Cond.selects RX10 yX10_bindTwo yX10_bindTwo ∈ lw_ok := mks 14 (by decide +kernel) rfl
theorem qz_X10 : Cond.initialized RX10 ∈ lw_ok := mkc1 6 (by decide +kernel) rfl
theorem qc_X10_bindTwo : Cond.code yX10_bindTwo cX10_bindTwo 2 (some .boolean) ∈ lw_ok := mkc4 38 (by decide +kernel) rfl
theorem gv_X10_37 : GoodIn lw_ok (wsV RX10 37 RX10 yX10_bindTwo [Cond.code yX10_bindTwo cX10_bindTwo 2 (some .boolean)]) := gV qm_X10_37 qi_X10_bindTwo qs_X10_bindTwo qz_X10 qc_X10_bindTwo
theorem hdV_X10_bindTwo : yX10_bindTwo.cls = RX10 ∧ yX10_bindTwo.cls ≠ "java/lang/invoke/MethodHandle" ∧ yX10_bindTwo.cls ≠ "java/lang/invoke/VarHandle" ∧ (parseMethodDescriptor yX10_bindTwo.desc).map (fun d => d.parameters.length) = some 1 := by decide +kernel
theorem qm_X10_40 : Cond.methodLink RX10 40 yX10_bindThree ∈ lw_ok := mkc4 41 (by decide +kernel) rfl
theorem qi_X10_bindThree : Cond.instanceMethod yX10_bindThree ∈ lw_ok := mkc4 43 (by decide +kernel) rfl
theorem qs_X10_bindThree : Cond.selects RX10 yX10_bindThree yX10_bindThree ∈ lw_ok := mks 15 (by decide +kernel) rfl
theorem qc_X10_bindThree : Cond.code yX10_bindThree cX10_bindThree 14 (some .boolean) ∈ lw_ok := mkc4 44 (by decide +kernel) rfl
theorem gv_X10_40 : GoodIn lw_ok (wsV RX10 40 RX10 yX10_bindThree [Cond.code yX10_bindThree cX10_bindThree 14 (some .boolean)]) := gV qm_X10_40 qi_X10_bindThree qs_X10_bindThree qz_X10 qc_X10_bindThree
theorem hdV_X10_bindThree : yX10_bindThree.cls = RX10 ∧ yX10_bindThree.cls ≠ "java/lang/invoke/MethodHandle" ∧ yX10_bindThree.cls ≠ "java/lang/invoke/VarHandle" ∧ (parseMethodDescriptor yX10_bindThree.desc).map (fun d => d.parameters.length) = some 1 := by decide +kernel
theorem qm_X10_43 : Cond.methodLink RX10 43 yX10_bindFour ∈ lw_ok := mkc4 48 (by decide +kernel) rfl
theorem qi_X10_bindFour : Cond.instanceMethod yX10_bindFour ∈ lw_ok := mkc4 50 (by decide +kernel) rfl
theorem qs_X10_bindFour : Cond.selects RX10 yX10_bindFour yX10_bindFour ∈ lw_ok := mks 16 (by decide +kernel) rfl
theorem qc_X10_bindFour : Cond.code yX10_bindFour cX10_bindFour 14 (some .boolean) ∈ lw_ok := mkc4 51 (by decide +kernel) rfl
theorem gv_X10_43 : GoodIn lw_ok (wsV RX10 43 RX10 yX10_bindFour [Cond.code yX10_bindFour cX10_bindFour 14 (some .boolean)]) := gV qm_X10_43 qi_X10_bindFour qs_X10_bindFour qz_X10 qc_X10_bindFour
theorem hdV_X10_bindFour : yX10_bindFour.cls = RX10 ∧ yX10_bindFour.cls ≠ "java/lang/invoke/MethodHandle" ∧ yX10_bindFour.cls ≠ "java/lang/invoke/VarHandle" ∧ (parseMethodDescriptor yX10_bindFour.desc).map (fun d => d.parameters.length) = some 1 := by decide +kernel
theorem qm_X10_62 : Cond.methodLinkNest RX10 62 yX11_gcd "RainbowHulls" ∈ lw_ok := mkc4 56 (by decide +kernel) rfl
theorem qf_X10_21 : Cond.fieldLink RX10 21 (TX0 4).1 (TX0 4).2.1 (TX0 4).2.2.1 ∈ lw_ok := mkc1 55 (by decide +kernel) rfl
theorem qm_X10_24 : Cond.methodLinkNest RX10 24 yX11_isIn "RainbowHulls" ∈ lw_ok := mkc4 30 (by decide +kernel) rfl
theorem qm_X10_30 : Cond.methodLink RX10 30 yX10_bind ∈ lw_ok := mkc4 31 (by decide +kernel) rfl
theorem qi_X10_bind : Cond.instanceMethod yX10_bind ∈ lw_ok := mkc4 33 (by decide +kernel) rfl
theorem qs_X10_bind : Cond.selects RX10 yX10_bind yX10_bind ∈ lw_ok := mks 13 (by decide +kernel) rfl
theorem qc_X10_bind : Cond.code yX10_bind cX10_bind 2 (some .boolean) ∈ lw_ok := mkc4 34 (by decide +kernel) rfl
theorem gv_X10_30 : GoodIn lw_ok (wsV RX10 30 RX10 yX10_bind [Cond.code yX10_bind cX10_bind 2 (some .boolean)]) := gV qm_X10_30 qi_X10_bind qs_X10_bind qz_X10 qc_X10_bind
theorem hdV_X10_bind : yX10_bind.cls = RX10 ∧ yX10_bind.cls ≠ "java/lang/invoke/MethodHandle" ∧ yX10_bind.cls ≠ "java/lang/invoke/VarHandle" ∧ (parseMethodDescriptor yX10_bind.desc).map (fun d => d.parameters.length) = some 1 := by decide +kernel
theorem qm_X10_34 : Cond.methodLink RX10 34 yX10_settle ∈ lw_ok := mkc4 52 (by decide +kernel) rfl
theorem qi_X10_settle : Cond.instanceMethod yX10_settle ∈ lw_ok := mkc4 54 (by decide +kernel) rfl
theorem qs_X10_settle : Cond.selects RX10 yX10_settle yX10_settle ∈ lw_ok := mks 17 (by decide +kernel) rfl
theorem qc_X10_settle : Cond.code yX10_settle cX10_settle 4 none ∈ lw_ok := mkc4 55 (by decide +kernel) rfl
theorem gv_X10_34 : GoodIn lw_ok (wsV RX10 34 RX10 yX10_settle [Cond.code yX10_settle cX10_settle 4 none]) := gV qm_X10_34 qi_X10_settle qs_X10_settle qz_X10 qc_X10_settle
theorem hdV_X10_settle : yX10_settle.cls = RX10 ∧ yX10_settle.cls ≠ "java/lang/invoke/MethodHandle" ∧ yX10_settle.cls ≠ "java/lang/invoke/VarHandle" ∧ (parseMethodDescriptor yX10_settle.desc).map (fun d => d.parameters.length) = some 0 := by decide +kernel
theorem qf_X11_42 : Cond.fieldLink RX11 42 (TX11 4).1 (TX11 4).2.1 (TX11 4).2.2.1 ∈ lw_ok := mkc2 180 (by decide +kernel) rfl
theorem qm_X11_212 : Cond.methodLink RX11 212 yX10_find ∈ lw_ok := mkc4 26 (by decide +kernel) rfl
theorem qi_X10_find : Cond.instanceMethod yX10_find ∈ lw_ok := mkc4 27 (by decide +kernel) rfl
theorem qs_X10_find : Cond.selects RX10 yX10_find yX10_find ∈ lw_ok := mkc4 28 (by decide +kernel) rfl
theorem qc_X10_find : Cond.code yX10_find cX10_find 4 (some .boolean) ∈ lw_ok := mkc4 29 (by decide +kernel) rfl
theorem gv_X11_212 : GoodIn lw_ok (wsV RX11 212 RX10 yX10_find [Cond.code yX10_find cX10_find 4 (some .boolean)]) := gV qm_X11_212 qi_X10_find qs_X10_find qz_X10 qc_X10_find
theorem hdV_X10_find : yX10_find.cls = RX10 ∧ yX10_find.cls ≠ "java/lang/invoke/MethodHandle" ∧ yX10_find.cls ≠ "java/lang/invoke/VarHandle" ∧ (parseMethodDescriptor yX10_find.desc).map (fun d => d.parameters.length) = some 2 := by decide +kernel
theorem qm_X11_216 : Cond.methodLink RX11 216 yX10_factorOf ∈ lw_ok := mkc4 57 (by decide +kernel) rfl
theorem qi_X10_factorOf : Cond.instanceMethod yX10_factorOf ∈ lw_ok := mkc4 58 (by decide +kernel) rfl
theorem qs_X10_factorOf : Cond.selects RX10 yX10_factorOf yX10_factorOf ∈ lw_ok := mkc4 59 (by decide +kernel) rfl
theorem qc_X10_factorOf : Cond.code yX10_factorOf cX10_factorOf 3 (some .long) ∈ lw_ok := mkc4 60 (by decide +kernel) rfl
theorem gv_X11_216 : GoodIn lw_ok (wsV RX11 216 RX10 yX10_factorOf [Cond.code yX10_factorOf cX10_factorOf 3 (some .long)]) := gV qm_X11_216 qi_X10_factorOf qs_X10_factorOf qz_X10 qc_X10_factorOf
theorem hdV_X10_factorOf : yX10_factorOf.cls = RX10 ∧ yX10_factorOf.cls ≠ "java/lang/invoke/MethodHandle" ∧ yX10_factorOf.cls ≠ "java/lang/invoke/VarHandle" ∧ (parseMethodDescriptor yX10_factorOf.desc).map (fun d => d.parameters.length) = some 1 := by decide +kernel
theorem qm_X6_13 : Cond.methodLinkNest RX6 13 yX11_gcd "RainbowHulls" ∈ lw_ok := mkc4 73 (by decide +kernel) rfl
theorem qf_X6_19 : Cond.fieldLink RX6 19 (TX6 0).1 (TX6 0).2.1 (TX6 0).2.2.1 ∈ lw_ok := mkc2 53 (by decide +kernel) rfl
theorem in_X6 : ∀ w ∈ u_ws RX6 TX6 3, w ∈ lw_ok := okIn _ [299, 301, 303] (by decide +kernel) (by decide +kernel)
theorem qf_X6_22 : Cond.fieldLink RX6 22 (TX6 1).1 (TX6 1).2.1 (TX6 1).2.2.1 ∈ lw_ok := mkc2 55 (by decide +kernel) rfl
theorem qf_X6_7 : Cond.fieldLink RX6 7 (TX6 2).1 (TX6 2).2.1 (TX6 2).2.2.1 ∈ lw_ok := mkc2 57 (by decide +kernel) rfl
theorem qm_X10_66 : Cond.methodLink RX10 66 yX6_put ∈ lw_ok := mkc4 69 (by decide +kernel) rfl
theorem qi_X6_put : Cond.instanceMethod yX6_put ∈ lw_ok := mkc4 70 (by decide +kernel) rfl
theorem qs_X6_put : Cond.selects RX6 yX6_put yX6_put ∈ lw_ok := mkc4 71 (by decide +kernel) rfl
theorem qz_X6 : Cond.initialized RX6 ∈ lw_ok := mkc1 10 (by decide +kernel) rfl
theorem qc_X6_put : Cond.code yX6_put cX6_put 9 none ∈ lw_ok := mkc4 72 (by decide +kernel) rfl
theorem gv_X10_66 : GoodIn lw_ok (wsV RX10 66 RX6 yX6_put [Cond.code yX6_put cX6_put 9 none]) := gV qm_X10_66 qi_X6_put qs_X6_put qz_X6 qc_X6_put
theorem hdV_X6_put : yX6_put.cls = RX6 ∧ yX6_put.cls ≠ "java/lang/invoke/MethodHandle" ∧ yX6_put.cls ≠ "java/lang/invoke/VarHandle" ∧ (parseMethodDescriptor yX6_put.desc).map (fun d => d.parameters.length) = some 3 := by decide +kernel
theorem qj_X11_230 : Cond.constantLong RX11 230 (2) ∈ lw_ok := mkc4 82 (by decide +kernel) rfl
theorem qf_X11_391 : Cond.fieldLink RX11 391 (TX6 2).1 (TX6 2).2.1 (TX6 2).2.2.1 ∈ lw_ok := mkc2 58 (by decide +kernel) rfl
theorem qf_X11_390 : Cond.fieldLink RX11 390 (TX6 1).1 (TX6 1).2.1 (TX6 1).2.2.1 ∈ lw_ok := mkc2 56 (by decide +kernel) rfl
theorem qf_X11_389 : Cond.fieldLink RX11 389 (TX6 0).1 (TX6 0).2.1 (TX6 0).2.2.1 ∈ lw_ok := mkc2 54 (by decide +kernel) rfl
theorem qf_X11_84 : Cond.fieldLink RX11 84 (TX11 10).1 (TX11 10).2.1 (TX11 10).2.2.1 ∈ lw_ok := mkc2 186 (by decide +kernel) rfl
theorem qm_X11_220 : Cond.methodLink RX11 220 yX10_locate ∈ lw_ok := mkc4 65 (by decide +kernel) rfl
theorem qi_X10_locate : Cond.instanceMethod yX10_locate ∈ lw_ok := mkc4 66 (by decide +kernel) rfl
theorem qs_X10_locate : Cond.selects RX10 yX10_locate yX10_locate ∈ lw_ok := mkc4 67 (by decide +kernel) rfl
theorem qc_X10_locate : Cond.code yX10_locate cX10_locate 10 none ∈ lw_ok := mkc4 68 (by decide +kernel) rfl
theorem gv_X11_220 : GoodIn lw_ok (wsV RX11 220 RX10 yX10_locate [Cond.code yX10_locate cX10_locate 10 none]) := gV qm_X11_220 qi_X10_locate qs_X10_locate qz_X10 qc_X10_locate
theorem hdV_X10_locate : yX10_locate.cls = RX10 ∧ yX10_locate.cls ≠ "java/lang/invoke/MethodHandle" ∧ yX10_locate.cls ≠ "java/lang/invoke/VarHandle" ∧ (parseMethodDescriptor yX10_locate.desc).map (fun d => d.parameters.length) = some 2 := by decide +kernel
theorem qm_X11_224 : Cond.methodLink RX11 224 yX10_bitsAbove ∈ lw_ok := mkc4 74 (by decide +kernel) rfl
theorem qi_X10_bitsAbove : Cond.instanceMethod yX10_bitsAbove ∈ lw_ok := mkc4 75 (by decide +kernel) rfl
theorem qs_X10_bitsAbove : Cond.selects RX10 yX10_bitsAbove yX10_bitsAbove ∈ lw_ok := mkc4 76 (by decide +kernel) rfl
theorem qc_X10_bitsAbove : Cond.code yX10_bitsAbove cX10_bitsAbove 3 (some .int) ∈ lw_ok := mkc4 77 (by decide +kernel) rfl
theorem gv_X11_224 : GoodIn lw_ok (wsV RX11 224 RX10 yX10_bitsAbove [Cond.code yX10_bitsAbove cX10_bitsAbove 3 (some .int)]) := gV qm_X11_224 qi_X10_bitsAbove qs_X10_bitsAbove qz_X10 qc_X10_bitsAbove
theorem hdV_X10_bitsAbove : yX10_bitsAbove.cls = RX10 ∧ yX10_bitsAbove.cls ≠ "java/lang/invoke/MethodHandle" ∧ yX10_bitsAbove.cls ≠ "java/lang/invoke/VarHandle" ∧ (parseMethodDescriptor yX10_bitsAbove.desc).map (fun d => d.parameters.length) = some 0 := by decide +kernel
theorem qm_X11_227 : Cond.methodLink RX11 227 yX10_bitsBelow ∈ lw_ok := mkc4 78 (by decide +kernel) rfl
theorem qi_X10_bitsBelow : Cond.instanceMethod yX10_bitsBelow ∈ lw_ok := mkc4 79 (by decide +kernel) rfl
theorem qs_X10_bitsBelow : Cond.selects RX10 yX10_bitsBelow yX10_bitsBelow ∈ lw_ok := mkc4 80 (by decide +kernel) rfl
theorem qc_X10_bitsBelow : Cond.code yX10_bitsBelow cX10_bitsBelow 3 (some .int) ∈ lw_ok := mkc4 81 (by decide +kernel) rfl
theorem gv_X11_227 : GoodIn lw_ok (wsV RX11 227 RX10 yX10_bitsBelow [Cond.code yX10_bitsBelow cX10_bitsBelow 3 (some .int)]) := gV qm_X11_227 qi_X10_bitsBelow qs_X10_bitsBelow qz_X10 qc_X10_bitsBelow
theorem hdV_X10_bitsBelow : yX10_bitsBelow.cls = RX10 ∧ yX10_bitsBelow.cls ≠ "java/lang/invoke/MethodHandle" ∧ yX10_bitsBelow.cls ≠ "java/lang/invoke/VarHandle" ∧ (parseMethodDescriptor yX10_bitsBelow.desc).map (fun d => d.parameters.length) = some 0 := by decide +kernel
theorem qm_X11_232 : Cond.methodLink RX11 232 yX11_coordinate ∈ lw_ok := mkc4 83 (by decide +kernel) rfl
theorem qt_X11_coordinate : Cond.static yX11_coordinate ∈ lw_ok := mkc4 84 (by decide +kernel) rfl
theorem qc_X11_coordinate : Cond.code yX11_coordinate cX11_coordinate 3 (some .long) ∈ lw_ok := mkc4 85 (by decide +kernel) rfl
theorem gs_X11_232 : GoodIn lw_ok (va_wsS RX11 232 yX11_coordinate [Cond.code yX11_coordinate cX11_coordinate 3 (some .long)]) := gS qm_X11_232 qt_X11_coordinate qz_X11 qc_X11_coordinate
theorem hdS_X11_coordinate : yX11_coordinate.cls ≠ "java/lang/invoke/MethodHandle" ∧ yX11_coordinate.cls ≠ "java/lang/invoke/VarHandle" ∧ (parseMethodDescriptor yX11_coordinate.desc).map (fun d => d.parameters.length) = some 2 := by decide +kernel
theorem qm_X0_32 : Cond.methodLink RX0 32 yX6_put ∈ lw_ok := mkc4 94 (by decide +kernel) rfl
theorem gv_X0_32 : GoodIn lw_ok (wsV RX0 32 RX6 yX6_put [Cond.code yX6_put cX6_put 9 none]) := gV qm_X0_32 qi_X6_put qs_X6_put qz_X6 qc_X6_put
theorem qm_X11_236 : Cond.methodLink RX11 236 yX0_locateBalance ∈ lw_ok := mkc4 90 (by decide +kernel) rfl
theorem qi_X0_locateBalance : Cond.instanceMethod yX0_locateBalance ∈ lw_ok := mkc4 91 (by decide +kernel) rfl
theorem qs_X0_locateBalance : Cond.selects RX0 yX0_locateBalance yX0_locateBalance ∈ lw_ok := mkc4 92 (by decide +kernel) rfl
theorem qc_X0_locateBalance : Cond.code yX0_locateBalance cX0_locateBalance 9 (some .boolean) ∈ lw_ok := mkc4 93 (by decide +kernel) rfl
theorem gv_X11_236 : GoodIn lw_ok (wsV RX11 236 RX0 yX0_locateBalance [Cond.code yX0_locateBalance cX0_locateBalance 9 (some .boolean)]) := gV qm_X11_236 qi_X0_locateBalance qs_X0_locateBalance qz_X0 qc_X0_locateBalance
theorem hdV_X0_locateBalance : yX0_locateBalance.cls = RX0 ∧ yX0_locateBalance.cls ≠ "java/lang/invoke/MethodHandle" ∧ yX0_locateBalance.cls ≠ "java/lang/invoke/VarHandle" ∧ (parseMethodDescriptor yX0_locateBalance.desc).map (fun d => d.parameters.length) = some 1 := by decide +kernel
theorem qm_X9_26 : Cond.methodLink RX9 26 yX0_bitsLoaded ∈ lw_ok := mkc4 103 (by decide +kernel) rfl
theorem gv_X9_26 : GoodIn lw_ok (wsV RX9 26 RX0 yX0_bitsLoaded [Cond.code yX0_bitsLoaded cX0_bitsLoaded 3 (some .int)]) := gV qm_X9_26 qi_X0_bitsLoaded qs_X0_bitsLoaded qz_X0 qc_X0_bitsLoaded
theorem qf_X9_32 : Cond.fieldLink RX9 32 (TX9 2).1 (TX9 2).2.1 (TX9 2).2.2.1 ∈ lw_ok := mkc1 231 (by decide +kernel) rfl
theorem in_X9 : ∀ w ∈ u_ws RX9 TX9 4, w ∈ lw_ok := okIn _ [234, 236, 238, 240] (by decide +kernel) (by decide +kernel)
theorem qm_X9_36 : Cond.methodLink RX9 36 yJ6_bitCount_0f7a4 ∈ lw_ok := mkc4 104 (by decide +kernel) rfl
theorem qt_J6_bitCount_0f7a4 : Cond.static yJ6_bitCount_0f7a4 ∈ lw_ok := mkc4 105 (by decide +kernel) rfl
theorem qz_J6 : Cond.initialized RJ6 ∈ lw_ok := mkc1 19 (by decide +kernel) rfl
theorem qc_J6_bitCount_0f7a4 : Cond.code yJ6_bitCount_0f7a4 cJ6_bitCount_0f7a4 1 (some .int) ∈ lw_ok := mkc4 106 (by decide +kernel) rfl
theorem gs_X9_36 : GoodIn lw_ok (va_wsS RX9 36 yJ6_bitCount_0f7a4 [Cond.code yJ6_bitCount_0f7a4 cJ6_bitCount_0f7a4 1 (some .int)]) := gS qm_X9_36 qt_J6_bitCount_0f7a4 qz_J6 qc_J6_bitCount_0f7a4
theorem hdS_J6_bitCount_0f7a4 : yJ6_bitCount_0f7a4.cls ≠ "java/lang/invoke/MethodHandle" ∧ yJ6_bitCount_0f7a4.cls ≠ "java/lang/invoke/VarHandle" ∧ (parseMethodDescriptor yJ6_bitCount_0f7a4.desc).map (fun d => d.parameters.length) = some 1 := by decide +kernel
theorem qf_X9_15 : Cond.fieldLink RX9 15 (TX9 1).1 (TX9 1).2.1 (TX9 1).2.2.1 ∈ lw_ok := mkc1 229 (by decide +kernel) rfl
theorem qf_X9_42 : Cond.fieldLink RX9 42 (TX0 4).1 (TX0 4).2.1 (TX0 4).2.2.1 ∈ lw_ok := mkc1 56 (by decide +kernel) rfl
theorem qf_X9_9 : Cond.fieldLink RX9 9 (TX9 0).1 (TX9 0).2.1 (TX9 0).2.2.1 ∈ lw_ok := mkc1 227 (by decide +kernel) rfl
theorem qf_X9_45 : Cond.fieldLink RX9 45 (TX0 3).1 (TX0 3).2.1 (TX0 3).2.2.1 ∈ lw_ok := mkc1 50 (by decide +kernel) rfl
theorem qf_X9_22 : Cond.fieldLink RX9 22 (TX9 3).1 (TX9 3).2.1 (TX9 3).2.2.1 ∈ lw_ok := mkc1 233 (by decide +kernel) rfl
theorem qf_X9_60 : Cond.fieldLink RX9 60 (TX10 2).1 (TX10 2).2.1 (TX10 2).2.2.1 ∈ lw_ok := mkc1 210 (by decide +kernel) rfl
theorem qf_X9_61 : Cond.fieldLink RX9 61 (TX10 1).1 (TX10 1).2.1 (TX10 1).2.2.1 ∈ lw_ok := mkc1 208 (by decide +kernel) rfl
theorem qf_X9_64 : Cond.fieldLink RX9 64 (TX10 0).1 (TX10 0).2.1 (TX10 0).2.2.1 ∈ lw_ok := mkc1 206 (by decide +kernel) rfl
theorem qm_X9_67 : Cond.methodLink RX9 67 yX10_factorOf ∈ lw_ok := mkc4 123 (by decide +kernel) rfl
theorem gv_X9_67 : GoodIn lw_ok (wsV RX9 67 RX10 yX10_factorOf [Cond.code yX10_factorOf cX10_factorOf 3 (some .long)]) := gV qm_X9_67 qi_X10_factorOf qs_X10_factorOf qz_X10 qc_X10_factorOf
theorem qm_X9_71 : Cond.methodLinkNest RX9 71 yX11_gcd "RainbowHulls" ∈ lw_ok := mkc4 124 (by decide +kernel) rfl
theorem qm_X9_49 : Cond.methodLink RX9 49 yX10_find ∈ lw_ok := mkc4 114 (by decide +kernel) rfl
theorem gv_X9_49 : GoodIn lw_ok (wsV RX9 49 RX10 yX10_find [Cond.code yX10_find cX10_find 4 (some .boolean)]) := gV qm_X9_49 qi_X10_find qs_X10_find qz_X10 qc_X10_find
theorem qm_X9_53 : Cond.methodLink RX9 53 yX9_tightest ∈ lw_ok := mkc4 115 (by decide +kernel) rfl
theorem qi_X9_tightest : Cond.instanceMethod yX9_tightest ∈ lw_ok := mkc4 117 (by decide +kernel) rfl
theorem qs_X9_tightest : Cond.selects RX9 yX9_tightest yX9_tightest ∈ lw_ok := mks 18 (by decide +kernel) rfl
theorem qz_X9 : Cond.initialized RX9 ∈ lw_ok := mkc1 7 (by decide +kernel) rfl
theorem qc_X9_tightest : Cond.code yX9_tightest cX9_tightest 3 (some .int) ∈ lw_ok := mkc4 118 (by decide +kernel) rfl
theorem gv_X9_53 : GoodIn lw_ok (wsV RX9 53 RX9 yX9_tightest [Cond.code yX9_tightest cX9_tightest 3 (some .int)]) := gV qm_X9_53 qi_X9_tightest qs_X9_tightest qz_X9 qc_X9_tightest
theorem hdV_X9_tightest : yX9_tightest.cls = RX9 ∧ yX9_tightest.cls ≠ "java/lang/invoke/MethodHandle" ∧ yX9_tightest.cls ≠ "java/lang/invoke/VarHandle" ∧ (parseMethodDescriptor yX9_tightest.desc).map (fun d => d.parameters.length) = some 0 := by decide +kernel
theorem qm_X9_56 : Cond.methodLink RX9 56 yX9_step ∈ lw_ok := mkc4 119 (by decide +kernel) rfl
theorem qi_X9_step : Cond.instanceMethod yX9_step ∈ lw_ok := mkc4 121 (by decide +kernel) rfl
theorem qs_X9_step : Cond.selects RX9 yX9_step yX9_step ∈ lw_ok := mks 19 (by decide +kernel) rfl
theorem qc_X9_step : Cond.code yX9_step cX9_step 10 none ∈ lw_ok := mkc4 122 (by decide +kernel) rfl
theorem gv_X9_56 : GoodIn lw_ok (wsV RX9 56 RX9 yX9_step [Cond.code yX9_step cX9_step 10 none]) := gV qm_X9_56 qi_X9_step qs_X9_step qz_X9 qc_X9_step
theorem hdV_X9_step : yX9_step.cls = RX9 ∧ yX9_step.cls ≠ "java/lang/invoke/MethodHandle" ∧ yX9_step.cls ≠ "java/lang/invoke/VarHandle" ∧ (parseMethodDescriptor yX9_step.desc).map (fun d => d.parameters.length) = some 2 := by decide +kernel
theorem qf_X11_49 : Cond.fieldLink RX11 49 (TX11 5).1 (TX11 5).2.1 (TX11 5).2.2.1 ∈ lw_ok := mkc2 181 (by decide +kernel) rfl
theorem qm_X11_240 : Cond.methodLink RX11 240 yX9_begin ∈ lw_ok := mkc4 99 (by decide +kernel) rfl
theorem qi_X9_begin : Cond.instanceMethod yX9_begin ∈ lw_ok := mkc4 100 (by decide +kernel) rfl
theorem qs_X9_begin : Cond.selects RX9 yX9_begin yX9_begin ∈ lw_ok := mkc4 101 (by decide +kernel) rfl
theorem qc_X9_begin : Cond.code yX9_begin cX9_begin 3 (some .int) ∈ lw_ok := mkc4 102 (by decide +kernel) rfl
theorem gv_X11_240 : GoodIn lw_ok (wsV RX11 240 RX9 yX9_begin [Cond.code yX9_begin cX9_begin 3 (some .int)]) := gV qm_X11_240 qi_X9_begin qs_X9_begin qz_X9 qc_X9_begin
theorem hdV_X9_begin : yX9_begin.cls = RX9 ∧ yX9_begin.cls ≠ "java/lang/invoke/MethodHandle" ∧ yX9_begin.cls ≠ "java/lang/invoke/VarHandle" ∧ (parseMethodDescriptor yX9_begin.desc).map (fun d => d.parameters.length) = some 1 := by decide +kernel
theorem qm_X11_244 : Cond.methodLink RX11 244 yX9_run ∈ lw_ok := mkc4 110 (by decide +kernel) rfl
theorem qi_X9_run : Cond.instanceMethod yX9_run ∈ lw_ok := mkc4 111 (by decide +kernel) rfl
theorem qs_X9_run : Cond.selects RX9 yX9_run yX9_run ∈ lw_ok := mkc4 112 (by decide +kernel) rfl
theorem qc_X9_run : Cond.code yX9_run cX9_run 4 (some .int) ∈ lw_ok := mkc4 113 (by decide +kernel) rfl
theorem gv_X11_244 : GoodIn lw_ok (wsV RX11 244 RX9 yX9_run [Cond.code yX9_run cX9_run 4 (some .int)]) := gV qm_X11_244 qi_X9_run qs_X9_run qz_X9 qc_X9_run
theorem hdV_X9_run : yX9_run.cls = RX9 ∧ yX9_run.cls ≠ "java/lang/invoke/MethodHandle" ∧ yX9_run.cls ≠ "java/lang/invoke/VarHandle" ∧ (parseMethodDescriptor yX9_run.desc).map (fun d => d.parameters.length) = some 2 := by decide +kernel
theorem qf_X11_248 : Cond.fieldLink RX11 248 (TX9 0).1 (TX9 0).2.1 (TX9 0).2.2.1 ∈ lw_ok := mkc1 228 (by decide +kernel) rfl
theorem qf_X11_252 : Cond.fieldLink RX11 252 (TX9 1).1 (TX9 1).2.1 (TX9 1).2.2.1 ∈ lw_ok := mkc1 230 (by decide +kernel) rfl
theorem qf_X11_253 : Cond.fieldLink RX11 253 (TX9 2).1 (TX9 2).2.1 (TX9 2).2.2.1 ∈ lw_ok := mkc1 232 (by decide +kernel) rfl
theorem qf_X7_26 : Cond.fieldLink RX7 26 (TX0 4).1 (TX0 4).2.1 (TX0 4).2.2.1 ∈ lw_ok := mkc1 59 (by decide +kernel) rfl
theorem qf_X7_32 : Cond.fieldLink RX7 32 (TX0 2).1 (TX0 2).2.1 (TX0 2).2.2.1 ∈ lw_ok := mkc1 47 (by decide +kernel) rfl
theorem qf_X7_9 : Cond.fieldLink RX7 9 (TX7 0).1 (TX7 0).2.1 (TX7 0).2.2.1 ∈ lw_ok := mkc2 11 (by decide +kernel) rfl
theorem in_X7 : ∀ w ∈ u_ws RX7 TX7 7, w ∈ lw_ok := okIn _ [264, 266, 268, 270, 272, 274, 276] (by decide +kernel) (by decide +kernel)
theorem qm_X7_35 : Cond.methodLink RX7 35 yX7_following ∈ lw_ok := mkc4 145 (by decide +kernel) rfl
theorem qt_X7_following : Cond.static yX7_following ∈ lw_ok := mkc4 146 (by decide +kernel) rfl
theorem qz_X7 : Cond.initialized RX7 ∈ lw_ok := mkc1 8 (by decide +kernel) rfl
theorem qc_X7_following : Cond.code yX7_following cX7_following 4 (some .int) ∈ lw_ok := mkc4 147 (by decide +kernel) rfl
theorem gs_X7_35 : GoodIn lw_ok (va_wsS RX7 35 yX7_following [Cond.code yX7_following cX7_following 4 (some .int)]) := gS qm_X7_35 qt_X7_following qz_X7 qc_X7_following
theorem hdS_X7_following : yX7_following.cls ≠ "java/lang/invoke/MethodHandle" ∧ yX7_following.cls ≠ "java/lang/invoke/VarHandle" ∧ (parseMethodDescriptor yX7_following.desc).map (fun d => d.parameters.length) = some 3 := by decide +kernel
theorem qc_X11_triangleHolds : Cond.code yX11_triangleHolds cX11_triangleHolds 15 (some .boolean) ∈ lw_ok := mkc4 154 (by decide +kernel) rfl
theorem qm_X7_39 : Cond.methodLinkNest RX7 39 yX11_triangleHolds "RainbowHulls" ∈ lw_ok := mkc4 152 (by decide +kernel) rfl
theorem hdS_X11_triangleHolds : yX11_triangleHolds.cls ≠ "java/lang/invoke/MethodHandle" ∧ yX11_triangleHolds.cls ≠ "java/lang/invoke/VarHandle" ∧ (parseMethodDescriptor yX11_triangleHolds.desc).map (fun d => d.parameters.length) = some 6 := by decide +kernel
theorem qt_X11_triangleHolds : Cond.static yX11_triangleHolds ∈ lw_ok := mkc4 153 (by decide +kernel) rfl
theorem qm_X7_43 : Cond.methodLink RX7 43 yX7_chooseFirst ∈ lw_ok := mkc4 141 (by decide +kernel) rfl
theorem qi_X7_chooseFirst : Cond.instanceMethod yX7_chooseFirst ∈ lw_ok := mkc4 143 (by decide +kernel) rfl
theorem qs_X7_chooseFirst : Cond.selects RX7 yX7_chooseFirst yX7_chooseFirst ∈ lw_ok := mks 20 (by decide +kernel) rfl
theorem qc_X7_chooseFirst : Cond.code yX7_chooseFirst cX7_chooseFirst 3 (some .boolean) ∈ lw_ok := mkc4 144 (by decide +kernel) rfl
theorem gv_X7_43 : GoodIn lw_ok (wsV RX7 43 RX7 yX7_chooseFirst [Cond.code yX7_chooseFirst cX7_chooseFirst 3 (some .boolean)]) := gV qm_X7_43 qi_X7_chooseFirst qs_X7_chooseFirst qz_X7 qc_X7_chooseFirst
theorem hdV_X7_chooseFirst : yX7_chooseFirst.cls = RX7 ∧ yX7_chooseFirst.cls ≠ "java/lang/invoke/MethodHandle" ∧ yX7_chooseFirst.cls ≠ "java/lang/invoke/VarHandle" ∧ (parseMethodDescriptor yX7_chooseFirst.desc).map (fun d => d.parameters.length) = some 1 := by decide +kernel
theorem qm_X7_47 : Cond.methodLink RX7 47 yX7_chosenHold ∈ lw_ok := mkc4 148 (by decide +kernel) rfl
theorem qi_X7_chosenHold : Cond.instanceMethod yX7_chosenHold ∈ lw_ok := mkc4 150 (by decide +kernel) rfl
theorem qs_X7_chosenHold : Cond.selects RX7 yX7_chosenHold yX7_chosenHold ∈ lw_ok := mks 21 (by decide +kernel) rfl
theorem qc_X7_chosenHold : Cond.code yX7_chosenHold cX7_chosenHold 4 (some .boolean) ∈ lw_ok := mkc4 151 (by decide +kernel) rfl
theorem gv_X7_47 : GoodIn lw_ok (wsV RX7 47 RX7 yX7_chosenHold [Cond.code yX7_chosenHold cX7_chosenHold 4 (some .boolean)]) := gV qm_X7_47 qi_X7_chosenHold qs_X7_chosenHold qz_X7 qc_X7_chosenHold
theorem hdV_X7_chosenHold : yX7_chosenHold.cls = RX7 ∧ yX7_chosenHold.cls ≠ "java/lang/invoke/MethodHandle" ∧ yX7_chosenHold.cls ≠ "java/lang/invoke/VarHandle" ∧ (parseMethodDescriptor yX7_chosenHold.desc).map (fun d => d.parameters.length) = some 3 := by decide +kernel
theorem qm_X7_51 : Cond.methodLink RX7 51 yX7_chooseNext ∈ lw_ok := mkc4 155 (by decide +kernel) rfl
theorem qi_X7_chooseNext : Cond.instanceMethod yX7_chooseNext ∈ lw_ok := mkc4 157 (by decide +kernel) rfl
theorem qs_X7_chooseNext : Cond.selects RX7 yX7_chooseNext yX7_chooseNext ∈ lw_ok := mks 22 (by decide +kernel) rfl
theorem qc_X7_chooseNext : Cond.code yX7_chooseNext cX7_chooseNext 3 (some .boolean) ∈ lw_ok := mkc4 158 (by decide +kernel) rfl
theorem gv_X7_51 : GoodIn lw_ok (wsV RX7 51 RX7 yX7_chooseNext [Cond.code yX7_chooseNext cX7_chooseNext 3 (some .boolean)]) := gV qm_X7_51 qi_X7_chooseNext qs_X7_chooseNext qz_X7 qc_X7_chooseNext
theorem hdV_X7_chooseNext : yX7_chooseNext.cls = RX7 ∧ yX7_chooseNext.cls ≠ "java/lang/invoke/MethodHandle" ∧ yX7_chooseNext.cls ≠ "java/lang/invoke/VarHandle" ∧ (parseMethodDescriptor yX7_chooseNext.desc).map (fun d => d.parameters.length) = some 1 := by decide +kernel
theorem qf_X11_56 : Cond.fieldLink RX11 56 (TX11 6).1 (TX11 6).2.1 (TX11 6).2.2.1 ∈ lw_ok := mkc2 182 (by decide +kernel) rfl
theorem qm_X11_256 : Cond.methodLink RX11 256 yX7_countHolding ∈ lw_ok := mkc4 137 (by decide +kernel) rfl
theorem qi_X7_countHolding : Cond.instanceMethod yX7_countHolding ∈ lw_ok := mkc4 138 (by decide +kernel) rfl
theorem qs_X7_countHolding : Cond.selects RX7 yX7_countHolding yX7_countHolding ∈ lw_ok := mkc4 139 (by decide +kernel) rfl
theorem qc_X7_countHolding : Cond.code yX7_countHolding cX7_countHolding 7 (some .int) ∈ lw_ok := mkc4 140 (by decide +kernel) rfl
theorem gv_X11_256 : GoodIn lw_ok (wsV RX11 256 RX7 yX7_countHolding [Cond.code yX7_countHolding cX7_countHolding 7 (some .int)]) := gV qm_X11_256 qi_X7_countHolding qs_X7_countHolding qz_X7 qc_X7_countHolding
theorem hdV_X7_countHolding : yX7_countHolding.cls = RX7 ∧ yX7_countHolding.cls ≠ "java/lang/invoke/MethodHandle" ∧ yX7_countHolding.cls ≠ "java/lang/invoke/VarHandle" ∧ (parseMethodDescriptor yX7_countHolding.desc).map (fun d => d.parameters.length) = some 3 := by decide +kernel
theorem qf_X7_54 : Cond.fieldLink RX7 54 (TX0 5).1 (TX0 5).2.1 (TX0 5).2.2.1 ∈ lw_ok := mkc1 64 (by decide +kernel) rfl
theorem qf_X7_57 : Cond.fieldLink RX7 57 (TX0 6).1 (TX0 6).2.1 (TX0 6).2.2.1 ∈ lw_ok := mkc1 69 (by decide +kernel) rfl
theorem qm_X11_260 : Cond.methodLink RX11 260 yX11_isColour ∈ lw_ok := mkc4 163 (by decide +kernel) rfl
theorem qt_X11_isColour : Cond.static yX11_isColour ∈ lw_ok := mkc4 164 (by decide +kernel) rfl
theorem qc_X11_isColour : Cond.code yX11_isColour cX11_isColour 1 (some .boolean) ∈ lw_ok := mkc4 165 (by decide +kernel) rfl
theorem gs_X11_260 : GoodIn lw_ok (va_wsS RX11 260 yX11_isColour [Cond.code yX11_isColour cX11_isColour 1 (some .boolean)]) := gS qm_X11_260 qt_X11_isColour qz_X11 qc_X11_isColour
theorem hdS_X11_isColour : yX11_isColour.cls ≠ "java/lang/invoke/MethodHandle" ∧ yX11_isColour.cls ≠ "java/lang/invoke/VarHandle" ∧ (parseMethodDescriptor yX11_isColour.desc).map (fun d => d.parameters.length) = some 1 := by decide +kernel
theorem qm_X11_263 : Cond.methodLink RX11 263 yX7_seekHolding ∈ lw_ok := mkc4 166 (by decide +kernel) rfl
theorem qi_X7_seekHolding : Cond.instanceMethod yX7_seekHolding ∈ lw_ok := mkc4 167 (by decide +kernel) rfl
theorem qs_X7_seekHolding : Cond.selects RX7 yX7_seekHolding yX7_seekHolding ∈ lw_ok := mkc4 168 (by decide +kernel) rfl
theorem qc_X7_seekHolding : Cond.code yX7_seekHolding cX7_seekHolding 6 (some .boolean) ∈ lw_ok := mkc4 169 (by decide +kernel) rfl
theorem gv_X11_263 : GoodIn lw_ok (wsV RX11 263 RX7 yX7_seekHolding [Cond.code yX7_seekHolding cX7_seekHolding 6 (some .boolean)]) := gV qm_X11_263 qi_X7_seekHolding qs_X7_seekHolding qz_X7 qc_X7_seekHolding
theorem hdV_X7_seekHolding : yX7_seekHolding.cls = RX7 ∧ yX7_seekHolding.cls ≠ "java/lang/invoke/MethodHandle" ∧ yX7_seekHolding.cls ≠ "java/lang/invoke/VarHandle" ∧ (parseMethodDescriptor yX7_seekHolding.desc).map (fun d => d.parameters.length) = some 2 := by decide +kernel
theorem qf_X11_266 : Cond.fieldLink RX11 266 (TX7 0).1 (TX7 0).2.1 (TX7 0).2.2.1 ∈ lw_ok := mkc2 12 (by decide +kernel) rfl
theorem qm_X0_28 : Cond.methodLink RX0 28 yX0_has ∈ lw_ok := mkc4 178 (by decide +kernel) rfl
theorem gv_X0_28 : GoodIn lw_ok (wsV RX0 28 RX0 yX0_has [Cond.code yX0_has cX0_has 2 (some .boolean)]) := gV qm_X0_28 qi_X0_has qs_X0_has qz_X0 qc_X0_has
theorem qm_X7_146 : Cond.methodLink RX7 146 yX0_isAt ∈ lw_ok := mkc4 191 (by decide +kernel) rfl
theorem gv_X7_146 : GoodIn lw_ok (wsV RX7 146 RX0 yX0_isAt [Cond.code yX0_isAt cX0_isAt 4 (some .boolean)]) := gV qm_X7_146 qi_X0_isAt qs_X0_isAt qz_X0 qc_X0_isAt
theorem qf_X7_15 : Cond.fieldLink RX7 15 (TX7 1).1 (TX7 1).2.1 (TX7 1).2.2.1 ∈ lw_ok := mkc2 13 (by decide +kernel) rfl
theorem qf_X7_71 : Cond.fieldLink RX7 71 (TX0 0).1 (TX0 0).2.1 (TX0 0).2.2.1 ∈ lw_ok := mkc1 39 (by decide +kernel) rfl
theorem qf_X7_74 : Cond.fieldLink RX7 74 (TX0 1).1 (TX0 1).2.1 (TX0 1).2.2.1 ∈ lw_ok := mkc1 45 (by decide +kernel) rfl
theorem qm_X7_152 : Cond.methodLinkNest RX7 152 yX11_cross "RainbowHulls" ∈ lw_ok := mkc4 200 (by decide +kernel) rfl
theorem qm_X7_156 : Cond.methodLink RX7 156 Lib.MathLoose.abs_long.x ∈ lw_ok := mkc4 201 (by decide +kernel) rfl
theorem qm_X7_149 : Cond.methodLink RX7 149 yX7_mixPair ∈ lw_ok := mkc4 196 (by decide +kernel) rfl
theorem qi_X7_mixPair : Cond.instanceMethod yX7_mixPair ∈ lw_ok := mkc4 198 (by decide +kernel) rfl
theorem qs_X7_mixPair : Cond.selects RX7 yX7_mixPair yX7_mixPair ∈ lw_ok := mks 25 (by decide +kernel) rfl
theorem qc_X7_mixPair : Cond.code yX7_mixPair cX7_mixPair 12 (some .boolean) ∈ lw_ok := mkc4 199 (by decide +kernel) rfl
theorem gv_X7_149 : GoodIn lw_ok (wsV RX7 149 RX7 yX7_mixPair [Cond.code yX7_mixPair cX7_mixPair 12 (some .boolean)]) := gV qm_X7_149 qi_X7_mixPair qs_X7_mixPair qz_X7 qc_X7_mixPair
theorem hdV_X7_mixPair : yX7_mixPair.cls = RX7 ∧ yX7_mixPair.cls ≠ "java/lang/invoke/MethodHandle" ∧ yX7_mixPair.cls ≠ "java/lang/invoke/VarHandle" ∧ (parseMethodDescriptor yX7_mixPair.desc).map (fun d => d.parameters.length) = some 3 := by decide +kernel
theorem qm_X7_133 : Cond.methodLink RX7 133 yX7_mixOne ∈ lw_ok := mkc4 187 (by decide +kernel) rfl
theorem qi_X7_mixOne : Cond.instanceMethod yX7_mixOne ∈ lw_ok := mkc4 189 (by decide +kernel) rfl
theorem qs_X7_mixOne : Cond.selects RX7 yX7_mixOne yX7_mixOne ∈ lw_ok := mks 23 (by decide +kernel) rfl
theorem qc_X7_mixOne : Cond.code yX7_mixOne cX7_mixOne 3 (some .boolean) ∈ lw_ok := mkc4 190 (by decide +kernel) rfl
theorem gv_X7_133 : GoodIn lw_ok (wsV RX7 133 RX7 yX7_mixOne [Cond.code yX7_mixOne cX7_mixOne 3 (some .boolean)]) := gV qm_X7_133 qi_X7_mixOne qs_X7_mixOne qz_X7 qc_X7_mixOne
theorem hdV_X7_mixOne : yX7_mixOne.cls = RX7 ∧ yX7_mixOne.cls ≠ "java/lang/invoke/MethodHandle" ∧ yX7_mixOne.cls ≠ "java/lang/invoke/VarHandle" ∧ (parseMethodDescriptor yX7_mixOne.desc).map (fun d => d.parameters.length) = some 1 := by decide +kernel
theorem qm_X7_142 : Cond.methodLinkNest RX7 142 yX11_gcd "RainbowHulls" ∈ lw_ok := mkc4 206 (by decide +kernel) rfl
theorem qm_X7_136 : Cond.methodLink RX7 136 yX7_mixTwo ∈ lw_ok := mkc4 192 (by decide +kernel) rfl
theorem qi_X7_mixTwo : Cond.instanceMethod yX7_mixTwo ∈ lw_ok := mkc4 194 (by decide +kernel) rfl
theorem qs_X7_mixTwo : Cond.selects RX7 yX7_mixTwo yX7_mixTwo ∈ lw_ok := mks 24 (by decide +kernel) rfl
theorem qc_X7_mixTwo : Cond.code yX7_mixTwo cX7_mixTwo 4 (some .boolean) ∈ lw_ok := mkc4 195 (by decide +kernel) rfl
theorem gv_X7_136 : GoodIn lw_ok (wsV RX7 136 RX7 yX7_mixTwo [Cond.code yX7_mixTwo cX7_mixTwo 4 (some .boolean)]) := gV qm_X7_136 qi_X7_mixTwo qs_X7_mixTwo qz_X7 qc_X7_mixTwo
theorem hdV_X7_mixTwo : yX7_mixTwo.cls = RX7 ∧ yX7_mixTwo.cls ≠ "java/lang/invoke/MethodHandle" ∧ yX7_mixTwo.cls ≠ "java/lang/invoke/VarHandle" ∧ (parseMethodDescriptor yX7_mixTwo.desc).map (fun d => d.parameters.length) = some 1 := by decide +kernel
theorem qm_X7_139 : Cond.methodLink RX7 139 yX7_mixThree ∈ lw_ok := mkc4 202 (by decide +kernel) rfl
theorem qi_X7_mixThree : Cond.instanceMethod yX7_mixThree ∈ lw_ok := mkc4 204 (by decide +kernel) rfl
theorem qs_X7_mixThree : Cond.selects RX7 yX7_mixThree yX7_mixThree ∈ lw_ok := mks 26 (by decide +kernel) rfl
theorem qc_X7_mixThree : Cond.code yX7_mixThree cX7_mixThree 14 none ∈ lw_ok := mkc4 205 (by decide +kernel) rfl
theorem gv_X7_139 : GoodIn lw_ok (wsV RX7 139 RX7 yX7_mixThree [Cond.code yX7_mixThree cX7_mixThree 14 none]) := gV qm_X7_139 qi_X7_mixThree qs_X7_mixThree qz_X7 qc_X7_mixThree
theorem hdV_X7_mixThree : yX7_mixThree.cls = RX7 ∧ yX7_mixThree.cls ≠ "java/lang/invoke/MethodHandle" ∧ yX7_mixThree.cls ≠ "java/lang/invoke/VarHandle" ∧ (parseMethodDescriptor yX7_mixThree.desc).map (fun d => d.parameters.length) = some 1 := by decide +kernel
theorem qm_X11_269 : Cond.methodLink RX11 269 yX0_isRainbow ∈ lw_ok := mkc4 174 (by decide +kernel) rfl
theorem qi_X0_isRainbow : Cond.instanceMethod yX0_isRainbow ∈ lw_ok := mkc4 175 (by decide +kernel) rfl
theorem qs_X0_isRainbow : Cond.selects RX0 yX0_isRainbow yX0_isRainbow ∈ lw_ok := mkc4 176 (by decide +kernel) rfl
theorem qc_X0_isRainbow : Cond.code yX0_isRainbow cX0_isRainbow 4 (some .boolean) ∈ lw_ok := mkc4 177 (by decide +kernel) rfl
theorem gv_X11_269 : GoodIn lw_ok (wsV RX11 269 RX0 yX0_isRainbow [Cond.code yX0_isRainbow cX0_isRainbow 4 (some .boolean)]) := gV qm_X11_269 qi_X0_isRainbow qs_X0_isRainbow qz_X0 qc_X0_isRainbow
theorem hdV_X0_isRainbow : yX0_isRainbow.cls = RX0 ∧ yX0_isRainbow.cls ≠ "java/lang/invoke/MethodHandle" ∧ yX0_isRainbow.cls ≠ "java/lang/invoke/VarHandle" ∧ (parseMethodDescriptor yX0_isRainbow.desc).map (fun d => d.parameters.length) = some 3 := by decide +kernel
theorem qm_X11_273 : Cond.methodLink RX11 273 yX7_choose ∈ lw_ok := mkc4 179 (by decide +kernel) rfl
theorem qi_X7_choose : Cond.instanceMethod yX7_choose ∈ lw_ok := mkc4 180 (by decide +kernel) rfl
theorem qs_X7_choose : Cond.selects RX7 yX7_choose yX7_choose ∈ lw_ok := mkc4 181 (by decide +kernel) rfl
theorem qc_X7_choose : Cond.code yX7_choose cX7_choose 4 none ∈ lw_ok := mkc4 182 (by decide +kernel) rfl
theorem gv_X11_273 : GoodIn lw_ok (wsV RX11 273 RX7 yX7_choose [Cond.code yX7_choose cX7_choose 4 none]) := gV qm_X11_273 qi_X7_choose qs_X7_choose qz_X7 qc_X7_choose
theorem hdV_X7_choose : yX7_choose.cls = RX7 ∧ yX7_choose.cls ≠ "java/lang/invoke/MethodHandle" ∧ yX7_choose.cls ≠ "java/lang/invoke/VarHandle" ∧ (parseMethodDescriptor yX7_choose.desc).map (fun d => d.parameters.length) = some 3 := by decide +kernel
theorem qm_X11_277 : Cond.methodLink RX11 277 yX7_mix ∈ lw_ok := mkc4 183 (by decide +kernel) rfl
theorem qi_X7_mix : Cond.instanceMethod yX7_mix ∈ lw_ok := mkc4 184 (by decide +kernel) rfl
theorem qs_X7_mix : Cond.selects RX7 yX7_mix yX7_mix ∈ lw_ok := mkc4 185 (by decide +kernel) rfl
theorem qc_X7_mix : Cond.code yX7_mix cX7_mix 5 (some .boolean) ∈ lw_ok := mkc4 186 (by decide +kernel) rfl
theorem gv_X11_277 : GoodIn lw_ok (wsV RX11 277 RX7 yX7_mix [Cond.code yX7_mix cX7_mix 5 (some .boolean)]) := gV qm_X11_277 qi_X7_mix qs_X7_mix qz_X7 qc_X7_mix
theorem hdV_X7_mix : yX7_mix.cls = RX7 ∧ yX7_mix.cls ≠ "java/lang/invoke/MethodHandle" ∧ yX7_mix.cls ≠ "java/lang/invoke/VarHandle" ∧ (parseMethodDescriptor yX7_mix.desc).map (fun d => d.parameters.length) = some 1 := by decide +kernel
theorem qf_X11_281 : Cond.fieldLink RX11 281 (TX7 1).1 (TX7 1).2.1 (TX7 1).2.2.1 ∈ lw_ok := mkc2 14 (by decide +kernel) rfl
theorem qf_X7_22 : Cond.fieldLink RX7 22 (TX7 2).1 (TX7 2).2.1 (TX7 2).2.2.1 ∈ lw_ok := mkc2 15 (by decide +kernel) rfl
theorem qm_X7_60 : Cond.methodLink RX7 60 yX4_start ∈ lw_ok := mkc4 223 (by decide +kernel) rfl
theorem gv_X7_60 : GoodIn lw_ok (wsV RX7 60 RX4 yX4_start [Cond.code yX4_start cX4_start 3 none]) := gV qm_X7_60 qi_X4_start qs_X4_start qz_X4 qc_X4_start
theorem qf_X7_68 : Cond.fieldLink RX7 68 (TX7 6).1 (TX7 6).2.1 (TX7 6).2.2.1 ∈ lw_ok := mkc2 23 (by decide +kernel) rfl
theorem qm_X7_77 : Cond.methodLink RX7 77 yX4_offerEdge ∈ lw_ok := mkc4 225 (by decide +kernel) rfl
theorem gv_X7_77 : GoodIn lw_ok (wsV RX7 77 RX4 yX4_offerEdge [Cond.code yX4_offerEdge cX4_offerEdge 13 (some .boolean)]) := gV qm_X7_77 qi_X4_offerEdge qs_X4_offerEdge qz_X4 qc_X4_offerEdge
theorem qm_X7_64 : Cond.methodLink RX7 64 yX4_offer ∈ lw_ok := mkc4 224 (by decide +kernel) rfl
theorem gv_X7_64 : GoodIn lw_ok (wsV RX7 64 RX4 yX4_offer [Cond.code yX4_offer cX4_offer 13 (some .boolean)]) := gV qm_X7_64 qi_X4_offer qs_X4_offer qz_X4 qc_X4_offer
theorem qm_X7_109 : Cond.methodLink RX7 109 yX4_isAt ∈ lw_ok := mkc4 230 (by decide +kernel) rfl
theorem qi_X4_isAt : Cond.instanceMethod yX4_isAt ∈ lw_ok := mkc4 231 (by decide +kernel) rfl
theorem qs_X4_isAt : Cond.selects RX4 yX4_isAt yX4_isAt ∈ lw_ok := mkc4 232 (by decide +kernel) rfl
theorem qc_X4_isAt : Cond.code yX4_isAt cX4_isAt 3 (some .boolean) ∈ lw_ok := mkc4 233 (by decide +kernel) rfl
theorem gv_X7_109 : GoodIn lw_ok (wsV RX7 109 RX4 yX4_isAt [Cond.code yX4_isAt cX4_isAt 3 (some .boolean)]) := gV qm_X7_109 qi_X4_isAt qs_X4_isAt qz_X4 qc_X4_isAt
theorem hdV_X4_isAt : yX4_isAt.cls = RX4 ∧ yX4_isAt.cls ≠ "java/lang/invoke/MethodHandle" ∧ yX4_isAt.cls ≠ "java/lang/invoke/VarHandle" ∧ (parseMethodDescriptor yX4_isAt.desc).map (fun d => d.parameters.length) = some 2 := by decide +kernel
theorem qm_X7_87 : Cond.methodLink RX7 87 yX7_look ∈ lw_ok := mkc4 219 (by decide +kernel) rfl
theorem qi_X7_look : Cond.instanceMethod yX7_look ∈ lw_ok := mkc4 220 (by decide +kernel) rfl
theorem qs_X7_look : Cond.selects RX7 yX7_look yX7_look ∈ lw_ok := mkc4 221 (by decide +kernel) rfl
theorem qc_X7_look : Cond.code yX7_look cX7_look 6 none ∈ lw_ok := mkc4 222 (by decide +kernel) rfl
theorem gv_X7_87 : GoodIn lw_ok (wsV RX7 87 RX7 yX7_look [Cond.code yX7_look cX7_look 6 none]) := gV qm_X7_87 qi_X7_look qs_X7_look qz_X7 qc_X7_look
theorem hdV_X7_look : yX7_look.cls = RX7 ∧ yX7_look.cls ≠ "java/lang/invoke/MethodHandle" ∧ yX7_look.cls ≠ "java/lang/invoke/VarHandle" ∧ (parseMethodDescriptor yX7_look.desc).map (fun d => d.parameters.length) = some 1 := by decide +kernel
theorem qf_X7_91 : Cond.fieldLink RX7 91 (TX4 3).1 (TX4 3).2.1 (TX4 3).2.2.1 ∈ lw_ok := mkc1 177 (by decide +kernel) rfl
theorem qm_X7_95 : Cond.methodLink RX7 95 yX7_colourThatGoes ∈ lw_ok := mkc4 226 (by decide +kernel) rfl
theorem qi_X7_colourThatGoes : Cond.instanceMethod yX7_colourThatGoes ∈ lw_ok := mkc4 228 (by decide +kernel) rfl
theorem qs_X7_colourThatGoes : Cond.selects RX7 yX7_colourThatGoes yX7_colourThatGoes ∈ lw_ok := mks 28 (by decide +kernel) rfl
theorem qc_X7_colourThatGoes : Cond.code yX7_colourThatGoes cX7_colourThatGoes 3 (some .int) ∈ lw_ok := mkc4 229 (by decide +kernel) rfl
theorem gv_X7_95 : GoodIn lw_ok (wsV RX7 95 RX7 yX7_colourThatGoes [Cond.code yX7_colourThatGoes cX7_colourThatGoes 3 (some .int)]) := gV qm_X7_95 qi_X7_colourThatGoes qs_X7_colourThatGoes qz_X7 qc_X7_colourThatGoes
theorem hdV_X7_colourThatGoes : yX7_colourThatGoes.cls = RX7 ∧ yX7_colourThatGoes.cls ≠ "java/lang/invoke/MethodHandle" ∧ yX7_colourThatGoes.cls ≠ "java/lang/invoke/VarHandle" ∧ (parseMethodDescriptor yX7_colourThatGoes.desc).map (fun d => d.parameters.length) = some 1 := by decide +kernel
theorem qm_X7_99 : Cond.methodLink RX7 99 yX4_wayX ∈ lw_ok := mkc4 234 (by decide +kernel) rfl
theorem gv_X7_99 : GoodIn lw_ok (wsV RX7 99 RX4 yX4_wayX [Cond.code yX4_wayX cX4_wayX 1 (some .long)]) := gV qm_X7_99 qi_X4_wayX qs_X4_wayX qz_X4 qc_X4_wayX
theorem qm_X7_103 : Cond.methodLink RX7 103 yX4_wayY ∈ lw_ok := mkc4 235 (by decide +kernel) rfl
theorem gv_X7_103 : GoodIn lw_ok (wsV RX7 103 RX4 yX4_wayY [Cond.code yX4_wayY cX4_wayY 1 (some .long)]) := gV qm_X7_103 qi_X4_wayY qs_X4_wayY qz_X4 qc_X4_wayY
theorem qf_X7_106 : Cond.fieldLink RX7 106 (TX4 2).1 (TX4 2).2.1 (TX4 2).2.2.1 ∈ lw_ok := mkc1 173 (by decide +kernel) rfl
theorem qf_X7_81 : Cond.fieldLink RX7 81 (TX7 3).1 (TX7 3).2.1 (TX7 3).2.2.1 ∈ lw_ok := mkc2 17 (by decide +kernel) rfl
theorem qm_X7_84 : Cond.methodLink RX7 84 yX7_exchange ∈ lw_ok := mkc4 215 (by decide +kernel) rfl
theorem qi_X7_exchange : Cond.instanceMethod yX7_exchange ∈ lw_ok := mkc4 217 (by decide +kernel) rfl
theorem qs_X7_exchange : Cond.selects RX7 yX7_exchange yX7_exchange ∈ lw_ok := mks 27 (by decide +kernel) rfl
theorem qc_X7_exchange : Cond.code yX7_exchange cX7_exchange 13 (some .boolean) ∈ lw_ok := mkc4 218 (by decide +kernel) rfl
theorem gv_X7_84 : GoodIn lw_ok (wsV RX7 84 RX7 yX7_exchange [Cond.code yX7_exchange cX7_exchange 13 (some .boolean)]) := gV qm_X7_84 qi_X7_exchange qs_X7_exchange qz_X7 qc_X7_exchange
theorem hdV_X7_exchange : yX7_exchange.cls = RX7 ∧ yX7_exchange.cls ≠ "java/lang/invoke/MethodHandle" ∧ yX7_exchange.cls ≠ "java/lang/invoke/VarHandle" ∧ (parseMethodDescriptor yX7_exchange.desc).map (fun d => d.parameters.length) = some 1 := by decide +kernel
theorem qm_X11_284 : Cond.methodLink RX11 284 yX7_run ∈ lw_ok := mkc4 211 (by decide +kernel) rfl
theorem qi_X7_run : Cond.instanceMethod yX7_run ∈ lw_ok := mkc4 212 (by decide +kernel) rfl
theorem qs_X7_run : Cond.selects RX7 yX7_run yX7_run ∈ lw_ok := mkc4 213 (by decide +kernel) rfl
theorem qc_X7_run : Cond.code yX7_run cX7_run 4 (some .int) ∈ lw_ok := mkc4 214 (by decide +kernel) rfl
theorem gv_X11_284 : GoodIn lw_ok (wsV RX11 284 RX7 yX7_run [Cond.code yX7_run cX7_run 4 (some .int)]) := gV qm_X11_284 qi_X7_run qs_X7_run qz_X7 qc_X7_run
theorem hdV_X7_run : yX7_run.cls = RX7 ∧ yX7_run.cls ≠ "java/lang/invoke/MethodHandle" ∧ yX7_run.cls ≠ "java/lang/invoke/VarHandle" ∧ (parseMethodDescriptor yX7_run.desc).map (fun d => d.parameters.length) = some 2 := by decide +kernel
theorem qf_X11_285 : Cond.fieldLink RX11 285 (TX7 2).1 (TX7 2).2.1 (TX7 2).2.2.1 ∈ lw_ok := mkc2 16 (by decide +kernel) rfl
theorem qf_X11_286 : Cond.fieldLink RX11 286 (TX7 3).1 (TX7 3).2.1 (TX7 3).2.2.1 ∈ lw_ok := mkc2 18 (by decide +kernel) rfl
theorem qm_X11_289 : Cond.methodLink RX11 289 yX7_look ∈ lw_ok := mkc5 4 (by decide +kernel) rfl
theorem gv_X11_289 : GoodIn lw_ok (wsV RX11 289 RX7 yX7_look [Cond.code yX7_look cX7_look 6 none]) := gV qm_X11_289 qi_X7_look qs_X7_look qz_X7 qc_X7_look
theorem qf_X7_113 : Cond.fieldLink RX7 113 (TX7 4).1 (TX7 4).2.1 (TX7 4).2.2.1 ∈ lw_ok := mkc2 19 (by decide +kernel) rfl
theorem qf_X7_116 : Cond.fieldLink RX7 116 (TX7 5).1 (TX7 5).2.1 (TX7 5).2.2.1 ∈ lw_ok := mkc2 21 (by decide +kernel) rfl
theorem qm_X7_119 : Cond.methodLink RX7 119 yX7_run ∈ lw_ok := mkc5 13 (by decide +kernel) rfl
theorem gv_X7_119 : GoodIn lw_ok (wsV RX7 119 RX7 yX7_run [Cond.code yX7_run cX7_run 4 (some .int)]) := gV qm_X7_119 qi_X7_run qs_X7_run qz_X7 qc_X7_run
theorem qm_X7_123 : Cond.methodLink RX7 123 Lib.Math.max.name ∈ lw_ok := mkc5 14 (by decide +kernel) rfl
theorem qt_Lib_Math_max : Cond.static Lib.Math.max.name ∈ lw_ok := mkc5 15 (by decide +kernel) rfl
theorem qc_Lib_Math_max : Cond.code Lib.Math.max.name Lib.Math.max.code 2 (some .int) ∈ lw_ok := mkc5 16 (by decide +kernel) rfl
theorem qm_X7_129 : Cond.methodLink RX7 129 yX7_choose ∈ lw_ok := mkc5 17 (by decide +kernel) rfl
theorem gv_X7_129 : GoodIn lw_ok (wsV RX7 129 RX7 yX7_choose [Cond.code yX7_choose cX7_choose 4 none]) := gV qm_X7_129 qi_X7_choose qs_X7_choose qz_X7 qc_X7_choose
theorem qm_X11_292 : Cond.methodLink RX11 292 yX7_runAll ∈ lw_ok := mkc5 9 (by decide +kernel) rfl
theorem qi_X7_runAll : Cond.instanceMethod yX7_runAll ∈ lw_ok := mkc5 10 (by decide +kernel) rfl
theorem qs_X7_runAll : Cond.selects RX7 yX7_runAll yX7_runAll ∈ lw_ok := mkc5 11 (by decide +kernel) rfl
theorem qc_X7_runAll : Cond.code yX7_runAll cX7_runAll 7 none ∈ lw_ok := mkc5 12 (by decide +kernel) rfl
theorem gv_X11_292 : GoodIn lw_ok (wsV RX11 292 RX7 yX7_runAll [Cond.code yX7_runAll cX7_runAll 7 none]) := gV qm_X11_292 qi_X7_runAll qs_X7_runAll qz_X7 qc_X7_runAll
theorem hdV_X7_runAll : yX7_runAll.cls = RX7 ∧ yX7_runAll.cls ≠ "java/lang/invoke/MethodHandle" ∧ yX7_runAll.cls ≠ "java/lang/invoke/VarHandle" ∧ (parseMethodDescriptor yX7_runAll.desc).map (fun d => d.parameters.length) = some 1 := by decide +kernel
theorem qf_X11_295 : Cond.fieldLink RX11 295 (TX7 4).1 (TX7 4).2.1 (TX7 4).2.2.1 ∈ lw_ok := mkc2 20 (by decide +kernel) rfl
theorem qf_X11_298 : Cond.fieldLink RX11 298 (TX7 5).1 (TX7 5).2.1 (TX7 5).2.2.1 ∈ lw_ok := mkc2 22 (by decide +kernel) rfl
theorem qf_X3_10 : Cond.fieldLink RX3 10 (TX3 0).1 (TX3 0).2.1 (TX3 0).2.2.1 ∈ lw_ok := mkc2 68 (by decide +kernel) rfl
theorem in_X3 : ∀ w ∈ u_ws RX3 TX3 13, w ∈ lw_ok := okIn _ [327, 329, 331, 333, 335, 337, 339, 341, 343, 345, 347, 349, 351] (by decide +kernel) (by decide +kernel)
theorem qm_X3_36 : Cond.methodLink RX3 36 yX2_build ∈ lw_ok := mkc5 26 (by decide +kernel) rfl
theorem gv_X3_36 : GoodIn lw_ok (wsV RX3 36 RX2 yX2_build [Cond.code yX2_build cX2_build 6 none]) := gV qm_X3_36 qi_X2_build qs_X2_build qz_X2 qc_X2_build
theorem qf_X3_16 : Cond.fieldLink RX3 16 (TX3 1).1 (TX3 1).2.1 (TX3 1).2.2.1 ∈ lw_ok := mkc2 69 (by decide +kernel) rfl
theorem qf_X3_40 : Cond.fieldLink RX3 40 (TX3 9).1 (TX3 9).2.1 (TX3 9).2.2.1 ∈ lw_ok := mkc2 83 (by decide +kernel) rfl
theorem qf_X3_44 : Cond.fieldLink RX3 44 (TX3 12).1 (TX3 12).2.1 (TX3 12).2.2.1 ∈ lw_ok := mkc2 86 (by decide +kernel) rfl
theorem qm_X3_80 : Cond.methodLink RX3 80 yX2_sideOf ∈ lw_ok := mkc5 39 (by decide +kernel) rfl
theorem gv_X3_80 : GoodIn lw_ok (wsV RX3 80 RX2 yX2_sideOf [Cond.code yX2_sideOf cX2_sideOf 16 (some .int)]) := gV qm_X3_80 qi_X2_sideOf qs_X2_sideOf qz_X2 qc_X2_sideOf
theorem qf_X3_56 : Cond.fieldLink RX3 56 (TX3 10).1 (TX3 10).2.1 (TX3 10).2.2.1 ∈ lw_ok := mkc2 84 (by decide +kernel) rfl
theorem qf_X3_59 : Cond.fieldLink RX3 59 (TX3 11).1 (TX3 11).2.1 (TX3 11).2.2.1 ∈ lw_ok := mkc2 85 (by decide +kernel) rfl
theorem qf_X3_19 : Cond.fieldLink RX3 19 (TX3 2).1 (TX3 2).2.1 (TX3 2).2.2.1 ∈ lw_ok := mkc2 71 (by decide +kernel) rfl
theorem qf_X3_66 : Cond.fieldLink RX3 66 (TX2 4).1 (TX2 4).2.1 (TX2 4).2.2.1 ∈ lw_ok := mkc1 149 (by decide +kernel) rfl
theorem qf_X3_70 : Cond.fieldLink RX3 70 (TX2 1).1 (TX2 1).2.1 (TX2 1).2.2.1 ∈ lw_ok := mkc1 142 (by decide +kernel) rfl
theorem qf_X3_74 : Cond.fieldLink RX3 74 (TX2 2).1 (TX2 2).2.1 (TX2 2).2.2.1 ∈ lw_ok := mkc1 145 (by decide +kernel) rfl
theorem qm_X3_77 : Cond.methodLink RX3 77 yX3_offer ∈ lw_ok := mkc5 35 (by decide +kernel) rfl
theorem qi_X3_offer : Cond.instanceMethod yX3_offer ∈ lw_ok := mkc5 37 (by decide +kernel) rfl
theorem qs_X3_offer : Cond.selects RX3 yX3_offer yX3_offer ∈ lw_ok := mks 30 (by decide +kernel) rfl
theorem qz_X3 : Cond.initialized RX3 ∈ lw_ok := mkc1 9 (by decide +kernel) rfl
theorem qc_X3_offer : Cond.code yX3_offer cX3_offer 9 none ∈ lw_ok := mkc5 38 (by decide +kernel) rfl
theorem gv_X3_77 : GoodIn lw_ok (wsV RX3 77 RX3 yX3_offer [Cond.code yX3_offer cX3_offer 9 none]) := gV qm_X3_77 qi_X3_offer qs_X3_offer qz_X3 qc_X3_offer
theorem hdV_X3_offer : yX3_offer.cls = RX3 ∧ yX3_offer.cls ≠ "java/lang/invoke/MethodHandle" ∧ yX3_offer.cls ≠ "java/lang/invoke/VarHandle" ∧ (parseMethodDescriptor yX3_offer.desc).map (fun d => d.parameters.length) = some 3 := by decide +kernel
theorem qm_X3_48 : Cond.methodLink RX3 48 yX3_offerCorners ∈ lw_ok := mkc5 31 (by decide +kernel) rfl
theorem qi_X3_offerCorners : Cond.instanceMethod yX3_offerCorners ∈ lw_ok := mkc5 33 (by decide +kernel) rfl
theorem qs_X3_offerCorners : Cond.selects RX3 yX3_offerCorners yX3_offerCorners ∈ lw_ok := mks 29 (by decide +kernel) rfl
theorem qc_X3_offerCorners : Cond.code yX3_offerCorners cX3_offerCorners 3 none ∈ lw_ok := mkc5 34 (by decide +kernel) rfl
theorem gv_X3_48 : GoodIn lw_ok (wsV RX3 48 RX3 yX3_offerCorners [Cond.code yX3_offerCorners cX3_offerCorners 3 none]) := gV qm_X3_48 qi_X3_offerCorners qs_X3_offerCorners qz_X3 qc_X3_offerCorners
theorem hdV_X3_offerCorners : yX3_offerCorners.cls = RX3 ∧ yX3_offerCorners.cls ≠ "java/lang/invoke/MethodHandle" ∧ yX3_offerCorners.cls ≠ "java/lang/invoke/VarHandle" ∧ (parseMethodDescriptor yX3_offerCorners.desc).map (fun d => d.parameters.length) = some 1 := by decide +kernel
theorem qm_X3_52 : Cond.methodLink RX3 52 yX3_offerCrossings ∈ lw_ok := mkc5 40 (by decide +kernel) rfl
theorem qi_X3_offerCrossings : Cond.instanceMethod yX3_offerCrossings ∈ lw_ok := mkc5 42 (by decide +kernel) rfl
theorem qs_X3_offerCrossings : Cond.selects RX3 yX3_offerCrossings yX3_offerCrossings ∈ lw_ok := mks 31 (by decide +kernel) rfl
theorem qc_X3_offerCrossings : Cond.code yX3_offerCrossings cX3_offerCrossings 17 none ∈ lw_ok := mkc5 43 (by decide +kernel) rfl
theorem gv_X3_52 : GoodIn lw_ok (wsV RX3 52 RX3 yX3_offerCrossings [Cond.code yX3_offerCrossings cX3_offerCrossings 17 none]) := gV qm_X3_52 qi_X3_offerCrossings qs_X3_offerCrossings qz_X3 qc_X3_offerCrossings
theorem hdV_X3_offerCrossings : yX3_offerCrossings.cls = RX3 ∧ yX3_offerCrossings.cls ≠ "java/lang/invoke/MethodHandle" ∧ yX3_offerCrossings.cls ≠ "java/lang/invoke/VarHandle" ∧ (parseMethodDescriptor yX3_offerCrossings.desc).map (fun d => d.parameters.length) = some 2 := by decide +kernel
theorem qf_X3_25 : Cond.fieldLink RX3 25 (TX3 3).1 (TX3 3).2.1 (TX3 3).2.2.1 ∈ lw_ok := mkc2 72 (by decide +kernel) rfl
theorem qm_X3_62 : Cond.methodLink RX3 62 yX6_put ∈ lw_ok := mkc5 44 (by decide +kernel) rfl
theorem gv_X3_62 : GoodIn lw_ok (wsV RX3 62 RX6 yX6_put [Cond.code yX6_put cX6_put 9 none]) := gV qm_X3_62 qi_X6_put qs_X6_put qz_X6 qc_X6_put
theorem qf_X11_63 : Cond.fieldLink RX11 63 (TX11 7).1 (TX11 7).2.1 (TX11 7).2.2.1 ∈ lw_ok := mkc2 183 (by decide +kernel) rfl
theorem qm_X11_301 : Cond.methodLink RX11 301 yX3_take ∈ lw_ok := mkc5 22 (by decide +kernel) rfl
theorem qi_X3_take : Cond.instanceMethod yX3_take ∈ lw_ok := mkc5 23 (by decide +kernel) rfl
theorem qs_X3_take : Cond.selects RX3 yX3_take yX3_take ∈ lw_ok := mkc5 24 (by decide +kernel) rfl
theorem qc_X3_take : Cond.code yX3_take cX3_take 4 none ∈ lw_ok := mkc5 25 (by decide +kernel) rfl
theorem gv_X11_301 : GoodIn lw_ok (wsV RX11 301 RX3 yX3_take [Cond.code yX3_take cX3_take 4 none]) := gV qm_X11_301 qi_X3_take qs_X3_take qz_X3 qc_X3_take
theorem hdV_X3_take : yX3_take.cls = RX3 ∧ yX3_take.cls ≠ "java/lang/invoke/MethodHandle" ∧ yX3_take.cls ≠ "java/lang/invoke/VarHandle" ∧ (parseMethodDescriptor yX3_take.desc).map (fun d => d.parameters.length) = some 3 := by decide +kernel
theorem qm_X11_305 : Cond.methodLink RX11 305 yX3_find ∈ lw_ok := mkc5 27 (by decide +kernel) rfl
theorem qi_X3_find : Cond.instanceMethod yX3_find ∈ lw_ok := mkc5 28 (by decide +kernel) rfl
theorem qs_X3_find : Cond.selects RX3 yX3_find yX3_find ∈ lw_ok := mkc5 29 (by decide +kernel) rfl
theorem qc_X3_find : Cond.code yX3_find cX3_find 1 (some .boolean) ∈ lw_ok := mkc5 30 (by decide +kernel) rfl
theorem gv_X11_305 : GoodIn lw_ok (wsV RX11 305 RX3 yX3_find [Cond.code yX3_find cX3_find 1 (some .boolean)]) := gV qm_X11_305 qi_X3_find qs_X3_find qz_X3 qc_X3_find
theorem hdV_X3_find : yX3_find.cls = RX3 ∧ yX3_find.cls ≠ "java/lang/invoke/MethodHandle" ∧ yX3_find.cls ≠ "java/lang/invoke/VarHandle" ∧ (parseMethodDescriptor yX3_find.desc).map (fun d => d.parameters.length) = some 0 := by decide +kernel
theorem qf_X11_307 : Cond.fieldLink RX11 307 (TX3 3).1 (TX3 3).2.1 (TX3 3).2.2.1 ∈ lw_ok := mkc2 73 (by decide +kernel) rfl
theorem qf_X3_87 : Cond.fieldLink RX3 87 (TX3 5).1 (TX3 5).2.1 (TX3 5).2.2.1 ∈ lw_ok := mkc2 76 (by decide +kernel) rfl
theorem qf_X3_32 : Cond.fieldLink RX3 32 (TX3 8).1 (TX3 8).2.1 (TX3 8).2.2.1 ∈ lw_ok := mkc2 82 (by decide +kernel) rfl
theorem qf_X3_110 : Cond.fieldLink RX3 110 (TX4 3).1 (TX4 3).2.1 (TX4 3).2.2.1 ∈ lw_ok := mkc1 176 (by decide +kernel) rfl
theorem qf_X3_84 : Cond.fieldLink RX3 84 (TX3 4).1 (TX3 4).2.1 (TX3 4).2.2.1 ∈ lw_ok := mkc2 74 (by decide +kernel) rfl
theorem qf_X3_113 : Cond.fieldLink RX3 113 (TX4 4).1 (TX4 4).2.1 (TX4 4).2.2.1 ∈ lw_ok := mkc1 180 (by decide +kernel) rfl
theorem qm_X3_116 : Cond.methodLink RX3 116 yX4_wayX ∈ lw_ok := mkc5 62 (by decide +kernel) rfl
theorem gv_X3_116 : GoodIn lw_ok (wsV RX3 116 RX4 yX4_wayX [Cond.code yX4_wayX cX4_wayX 1 (some .long)]) := gV qm_X3_116 qi_X4_wayX qs_X4_wayX qz_X4 qc_X4_wayX
theorem qf_X3_98 : Cond.fieldLink RX3 98 (TX3 6).1 (TX3 6).2.1 (TX3 6).2.2.1 ∈ lw_ok := mkc2 78 (by decide +kernel) rfl
theorem qm_X3_120 : Cond.methodLink RX3 120 yX4_wayY ∈ lw_ok := mkc5 63 (by decide +kernel) rfl
theorem gv_X3_120 : GoodIn lw_ok (wsV RX3 120 RX4 yX4_wayY [Cond.code yX4_wayY cX4_wayY 1 (some .long)]) := gV qm_X3_120 qi_X4_wayY qs_X4_wayY qz_X4 qc_X4_wayY
theorem qf_X3_101 : Cond.fieldLink RX3 101 (TX3 7).1 (TX3 7).2.1 (TX3 7).2.2.1 ∈ lw_ok := mkc2 80 (by decide +kernel) rfl
theorem qm_X3_90 : Cond.methodLink RX3 90 yX4_findOnHull ∈ lw_ok := mkc5 57 (by decide +kernel) rfl
theorem gv_X3_90 : GoodIn lw_ok (wsV RX3 90 RX4 yX4_findOnHull [Cond.code yX4_findOnHull cX4_findOnHull 5 none]) := gV qm_X3_90 qi_X4_findOnHull qs_X4_findOnHull qz_X4 qc_X4_findOnHull
theorem qm_X3_94 : Cond.methodLink RX3 94 yX3_offerGap ∈ lw_ok := mkc5 58 (by decide +kernel) rfl
theorem qi_X3_offerGap : Cond.instanceMethod yX3_offerGap ∈ lw_ok := mkc5 60 (by decide +kernel) rfl
theorem qs_X3_offerGap : Cond.selects RX3 yX3_offerGap yX3_offerGap ∈ lw_ok := mks 32 (by decide +kernel) rfl
theorem qc_X3_offerGap : Cond.code yX3_offerGap cX3_offerGap 2 none ∈ lw_ok := mkc5 61 (by decide +kernel) rfl
theorem gv_X3_94 : GoodIn lw_ok (wsV RX3 94 RX3 yX3_offerGap [Cond.code yX3_offerGap cX3_offerGap 2 none]) := gV qm_X3_94 qi_X3_offerGap qs_X3_offerGap qz_X3 qc_X3_offerGap
theorem hdV_X3_offerGap : yX3_offerGap.cls = RX3 ∧ yX3_offerGap.cls ≠ "java/lang/invoke/MethodHandle" ∧ yX3_offerGap.cls ≠ "java/lang/invoke/VarHandle" ∧ (parseMethodDescriptor yX3_offerGap.desc).map (fun d => d.parameters.length) = some 1 := by decide +kernel
theorem qm_X3_104 : Cond.methodLinkNest RX3 104 yX11_gcd "RainbowHulls" ∈ lw_ok := mkc5 64 (by decide +kernel) rfl
theorem qm_X11_310 : Cond.methodLink RX11 310 yX3_measureGap ∈ lw_ok := mkc5 53 (by decide +kernel) rfl
theorem qi_X3_measureGap : Cond.instanceMethod yX3_measureGap ∈ lw_ok := mkc5 54 (by decide +kernel) rfl
theorem qs_X3_measureGap : Cond.selects RX3 yX3_measureGap yX3_measureGap ∈ lw_ok := mkc5 55 (by decide +kernel) rfl
theorem qc_X3_measureGap : Cond.code yX3_measureGap cX3_measureGap 5 (some .boolean) ∈ lw_ok := mkc5 56 (by decide +kernel) rfl
theorem gv_X11_310 : GoodIn lw_ok (wsV RX11 310 RX3 yX3_measureGap [Cond.code yX3_measureGap cX3_measureGap 5 (some .boolean)]) := gV qm_X11_310 qi_X3_measureGap qs_X3_measureGap qz_X3 qc_X3_measureGap
theorem hdV_X3_measureGap : yX3_measureGap.cls = RX3 ∧ yX3_measureGap.cls ≠ "java/lang/invoke/MethodHandle" ∧ yX3_measureGap.cls ≠ "java/lang/invoke/VarHandle" ∧ (parseMethodDescriptor yX3_measureGap.desc).map (fun d => d.parameters.length) = some 0 := by decide +kernel
theorem qf_X11_313 : Cond.fieldLink RX11 313 (TX3 4).1 (TX3 4).2.1 (TX3 4).2.2.1 ∈ lw_ok := mkc2 75 (by decide +kernel) rfl
theorem qf_X11_316 : Cond.fieldLink RX11 316 (TX3 5).1 (TX3 5).2.1 (TX3 5).2.2.1 ∈ lw_ok := mkc2 77 (by decide +kernel) rfl
theorem qf_X11_319 : Cond.fieldLink RX11 319 (TX3 6).1 (TX3 6).2.1 (TX3 6).2.2.1 ∈ lw_ok := mkc2 79 (by decide +kernel) rfl
theorem qf_X11_322 : Cond.fieldLink RX11 322 (TX3 7).1 (TX3 7).2.1 (TX3 7).2.2.1 ∈ lw_ok := mkc2 81 (by decide +kernel) rfl
theorem qf_X11_325 : Cond.fieldLink RX11 325 (TX3 1).1 (TX3 1).2.1 (TX3 1).2.2.1 ∈ lw_ok := mkc2 70 (by decide +kernel) rfl
theorem qm_X5_18 : Cond.methodLink RX5 18 yX0_hasSet ∈ lw_ok := mkc5 73 (by decide +kernel) rfl
theorem gv_X5_18 : GoodIn lw_ok (wsV RX5 18 RX0 yX0_hasSet [Cond.code yX0_hasSet cX0_hasSet 2 (some .boolean)]) := gV qm_X5_18 qi_X0_hasSet qs_X0_hasSet qz_X0 qc_X0_hasSet
theorem qm_X5_24 : Cond.methodLink RX5 24 yJ6_bitCount_0f7a4 ∈ lw_ok := mkc5 74 (by decide +kernel) rfl
theorem gs_X5_24 : GoodIn lw_ok (va_wsS RX5 24 yJ6_bitCount_0f7a4 [Cond.code yJ6_bitCount_0f7a4 cJ6_bitCount_0f7a4 1 (some .int)]) := gS qm_X5_24 qt_J6_bitCount_0f7a4 qz_J6 qc_J6_bitCount_0f7a4
theorem qf_X5_30 : Cond.fieldLink RX5 30 (TX5 3).1 (TX5 3).2.1 (TX5 3).2.2.1 ∈ lw_ok := mkc2 123 (by decide +kernel) rfl
theorem in_X5 : ∀ w ∈ u_ws RX5 TX5 4, w ∈ lw_ok := okIn _ [364, 366, 368, 370] (by decide +kernel) (by decide +kernel)
theorem qf_X5_34 : Cond.fieldLink RX5 34 (TX5 2).1 (TX5 2).2.1 (TX5 2).2.2.1 ∈ lw_ok := mkc2 122 (by decide +kernel) rfl
theorem qf_X5_37 : Cond.fieldLink RX5 37 (TX0 4).1 (TX0 4).2.1 (TX0 4).2.2.1 ∈ lw_ok := mkc1 57 (by decide +kernel) rfl
theorem qm_X5_38 : Cond.methodLinkNest RX5 38 yX11_isIn "RainbowHulls" ∈ lw_ok := mkc5 75 (by decide +kernel) rfl
theorem qf_X5_9 : Cond.fieldLink RX5 9 (TX5 0).1 (TX5 0).2.1 (TX5 0).2.2.1 ∈ lw_ok := mkc2 120 (by decide +kernel) rfl
theorem qf_X5_15 : Cond.fieldLink RX5 15 (TX5 1).1 (TX5 1).2.1 (TX5 1).2.2.1 ∈ lw_ok := mkc2 121 (by decide +kernel) rfl
theorem qm_X5_45 : Cond.methodLink RX5 45 Lib.Math.max.name ∈ lw_ok := mkc5 88 (by decide +kernel) rfl
theorem qm_X5_42 : Cond.methodLink RX5 42 yX5_highestAhead ∈ lw_ok := mkc5 84 (by decide +kernel) rfl
theorem qi_X5_highestAhead : Cond.instanceMethod yX5_highestAhead ∈ lw_ok := mkc5 86 (by decide +kernel) rfl
theorem qs_X5_highestAhead : Cond.selects RX5 yX5_highestAhead yX5_highestAhead ∈ lw_ok := mks 34 (by decide +kernel) rfl
theorem qz_X5 : Cond.initialized RX5 ∈ lw_ok := mkc1 11 (by decide +kernel) rfl
theorem qc_X5_highestAhead : Cond.code yX5_highestAhead cX5_highestAhead 4 (some .int) ∈ lw_ok := mkc5 87 (by decide +kernel) rfl
theorem gv_X5_42 : GoodIn lw_ok (wsV RX5 42 RX5 yX5_highestAhead [Cond.code yX5_highestAhead cX5_highestAhead 4 (some .int)]) := gV qm_X5_42 qi_X5_highestAhead qs_X5_highestAhead qz_X5 qc_X5_highestAhead
theorem hdV_X5_highestAhead : yX5_highestAhead.cls = RX5 ∧ yX5_highestAhead.cls ≠ "java/lang/invoke/MethodHandle" ∧ yX5_highestAhead.cls ≠ "java/lang/invoke/VarHandle" ∧ (parseMethodDescriptor yX5_highestAhead.desc).map (fun d => d.parameters.length) = some 1 := by decide +kernel
theorem qm_X5_62 : Cond.methodLink RX5 62 yX5_bitsOf ∈ lw_ok := mkc5 97 (by decide +kernel) rfl
theorem qi_X5_bitsOf : Cond.instanceMethod yX5_bitsOf ∈ lw_ok := mkc5 98 (by decide +kernel) rfl
theorem qs_X5_bitsOf : Cond.selects RX5 yX5_bitsOf yX5_bitsOf ∈ lw_ok := mkc5 99 (by decide +kernel) rfl
theorem qc_X5_bitsOf : Cond.code yX5_bitsOf cX5_bitsOf 4 (some .int) ∈ lw_ok := mkc5 100 (by decide +kernel) rfl
theorem gv_X5_62 : GoodIn lw_ok (wsV RX5 62 RX5 yX5_bitsOf [Cond.code yX5_bitsOf cX5_bitsOf 4 (some .int)]) := gV qm_X5_62 qi_X5_bitsOf qs_X5_bitsOf qz_X5 qc_X5_bitsOf
theorem hdV_X5_bitsOf : yX5_bitsOf.cls = RX5 ∧ yX5_bitsOf.cls ≠ "java/lang/invoke/MethodHandle" ∧ yX5_bitsOf.cls ≠ "java/lang/invoke/VarHandle" ∧ (parseMethodDescriptor yX5_bitsOf.desc).map (fun d => d.parameters.length) = some 1 := by decide +kernel
theorem qm_X5_65 : Cond.methodLink RX5 65 yX3_take ∈ lw_ok := mkc5 101 (by decide +kernel) rfl
theorem gv_X5_65 : GoodIn lw_ok (wsV RX5 65 RX3 yX3_take [Cond.code yX3_take cX3_take 4 none]) := gV qm_X5_65 qi_X3_take qs_X3_take qz_X3 qc_X3_take
theorem qm_X5_75 : Cond.methodLink RX5 75 yX3_find ∈ lw_ok := mkc5 106 (by decide +kernel) rfl
theorem gv_X5_75 : GoodIn lw_ok (wsV RX5 75 RX3 yX3_find [Cond.code yX3_find cX3_find 1 (some .boolean)]) := gV qm_X5_75 qi_X3_find qs_X3_find qz_X3 qc_X3_find
theorem qm_X5_71 : Cond.methodLink RX5 71 yX3_takeThird ∈ lw_ok := mkc5 102 (by decide +kernel) rfl
theorem qi_X3_takeThird : Cond.instanceMethod yX3_takeThird ∈ lw_ok := mkc5 103 (by decide +kernel) rfl
theorem qs_X3_takeThird : Cond.selects RX3 yX3_takeThird yX3_takeThird ∈ lw_ok := mkc5 104 (by decide +kernel) rfl
theorem qc_X3_takeThird : Cond.code yX3_takeThird cX3_takeThird 3 none ∈ lw_ok := mkc5 105 (by decide +kernel) rfl
theorem gv_X5_71 : GoodIn lw_ok (wsV RX5 71 RX3 yX3_takeThird [Cond.code yX3_takeThird cX3_takeThird 3 none]) := gV qm_X5_71 qi_X3_takeThird qs_X3_takeThird qz_X3 qc_X3_takeThird
theorem hdV_X3_takeThird : yX3_takeThird.cls = RX3 ∧ yX3_takeThird.cls ≠ "java/lang/invoke/MethodHandle" ∧ yX3_takeThird.cls ≠ "java/lang/invoke/VarHandle" ∧ (parseMethodDescriptor yX3_takeThird.desc).map (fun d => d.parameters.length) = some 2 := by decide +kernel
theorem qm_X5_51 : Cond.methodLink RX5 51 yX5_nextRow ∈ lw_ok := mkc5 80 (by decide +kernel) rfl
theorem qi_X5_nextRow : Cond.instanceMethod yX5_nextRow ∈ lw_ok := mkc5 82 (by decide +kernel) rfl
theorem qs_X5_nextRow : Cond.selects RX5 yX5_nextRow yX5_nextRow ∈ lw_ok := mks 33 (by decide +kernel) rfl
theorem qc_X5_nextRow : Cond.code yX5_nextRow cX5_nextRow 3 (some .boolean) ∈ lw_ok := mkc5 83 (by decide +kernel) rfl
theorem gv_X5_51 : GoodIn lw_ok (wsV RX5 51 RX5 yX5_nextRow [Cond.code yX5_nextRow cX5_nextRow 3 (some .boolean)]) := gV qm_X5_51 qi_X5_nextRow qs_X5_nextRow qz_X5 qc_X5_nextRow
theorem hdV_X5_nextRow : yX5_nextRow.cls = RX5 ∧ yX5_nextRow.cls ≠ "java/lang/invoke/MethodHandle" ∧ yX5_nextRow.cls ≠ "java/lang/invoke/VarHandle" ∧ (parseMethodDescriptor yX5_nextRow.desc).map (fun d => d.parameters.length) = some 0 := by decide +kernel
theorem qm_X5_55 : Cond.methodLink RX5 55 yX5_isFull ∈ lw_ok := mkc5 89 (by decide +kernel) rfl
theorem qi_X5_isFull : Cond.instanceMethod yX5_isFull ∈ lw_ok := mkc5 91 (by decide +kernel) rfl
theorem qs_X5_isFull : Cond.selects RX5 yX5_isFull yX5_isFull ∈ lw_ok := mks 35 (by decide +kernel) rfl
theorem qc_X5_isFull : Cond.code yX5_isFull cX5_isFull 1 (some .boolean) ∈ lw_ok := mkc5 92 (by decide +kernel) rfl
theorem gv_X5_55 : GoodIn lw_ok (wsV RX5 55 RX5 yX5_isFull [Cond.code yX5_isFull cX5_isFull 1 (some .boolean)]) := gV qm_X5_55 qi_X5_isFull qs_X5_isFull qz_X5 qc_X5_isFull
theorem hdV_X5_isFull : yX5_isFull.cls = RX5 ∧ yX5_isFull.cls ≠ "java/lang/invoke/MethodHandle" ∧ yX5_isFull.cls ≠ "java/lang/invoke/VarHandle" ∧ (parseMethodDescriptor yX5_isFull.desc).map (fun d => d.parameters.length) = some 0 := by decide +kernel
theorem qm_X5_58 : Cond.methodLink RX5 58 yX5_meets ∈ lw_ok := mkc5 93 (by decide +kernel) rfl
theorem qi_X5_meets : Cond.instanceMethod yX5_meets ∈ lw_ok := mkc5 95 (by decide +kernel) rfl
theorem qs_X5_meets : Cond.selects RX5 yX5_meets yX5_meets ∈ lw_ok := mks 36 (by decide +kernel) rfl
theorem qc_X5_meets : Cond.code yX5_meets cX5_meets 3 (some .boolean) ∈ lw_ok := mkc5 96 (by decide +kernel) rfl
theorem gv_X5_58 : GoodIn lw_ok (wsV RX5 58 RX5 yX5_meets [Cond.code yX5_meets cX5_meets 3 (some .boolean)]) := gV qm_X5_58 qi_X5_meets qs_X5_meets qz_X5 qc_X5_meets
theorem hdV_X5_meets : yX5_meets.cls = RX5 ∧ yX5_meets.cls ≠ "java/lang/invoke/MethodHandle" ∧ yX5_meets.cls ≠ "java/lang/invoke/VarHandle" ∧ (parseMethodDescriptor yX5_meets.desc).map (fun d => d.parameters.length) = some 2 := by decide +kernel
theorem qf_X11_70 : Cond.fieldLink RX11 70 (TX11 8).1 (TX11 8).2.1 (TX11 8).2.2.1 ∈ lw_ok := mkc2 184 (by decide +kernel) rfl
theorem qm_X11_328 : Cond.methodLink RX11 328 yX5_begin ∈ lw_ok := mkc5 69 (by decide +kernel) rfl
theorem qi_X5_begin : Cond.instanceMethod yX5_begin ∈ lw_ok := mkc5 70 (by decide +kernel) rfl
theorem qs_X5_begin : Cond.selects RX5 yX5_begin yX5_begin ∈ lw_ok := mkc5 71 (by decide +kernel) rfl
theorem qc_X5_begin : Cond.code yX5_begin cX5_begin 5 (some .boolean) ∈ lw_ok := mkc5 72 (by decide +kernel) rfl
theorem gv_X11_328 : GoodIn lw_ok (wsV RX11 328 RX5 yX5_begin [Cond.code yX5_begin cX5_begin 5 (some .boolean)]) := gV qm_X11_328 qi_X5_begin qs_X5_begin qz_X5 qc_X5_begin
theorem hdV_X5_begin : yX5_begin.cls = RX5 ∧ yX5_begin.cls ≠ "java/lang/invoke/MethodHandle" ∧ yX5_begin.cls ≠ "java/lang/invoke/VarHandle" ∧ (parseMethodDescriptor yX5_begin.desc).map (fun d => d.parameters.length) = some 3 := by decide +kernel
theorem qm_X11_331 : Cond.methodLink RX11 331 yX5_countMet ∈ lw_ok := mkc5 76 (by decide +kernel) rfl
theorem qi_X5_countMet : Cond.instanceMethod yX5_countMet ∈ lw_ok := mkc5 77 (by decide +kernel) rfl
theorem qs_X5_countMet : Cond.selects RX5 yX5_countMet yX5_countMet ∈ lw_ok := mkc5 78 (by decide +kernel) rfl
theorem qc_X5_countMet : Cond.code yX5_countMet cX5_countMet 5 (some .int) ∈ lw_ok := mkc5 79 (by decide +kernel) rfl
theorem gv_X11_331 : GoodIn lw_ok (wsV RX11 331 RX5 yX5_countMet [Cond.code yX5_countMet cX5_countMet 5 (some .int)]) := gV qm_X11_331 qi_X5_countMet qs_X5_countMet qz_X5 qc_X5_countMet
theorem hdV_X5_countMet : yX5_countMet.cls = RX5 ∧ yX5_countMet.cls ≠ "java/lang/invoke/MethodHandle" ∧ yX5_countMet.cls ≠ "java/lang/invoke/VarHandle" ∧ (parseMethodDescriptor yX5_countMet.desc).map (fun d => d.parameters.length) = some 2 := by decide +kernel
theorem qm_X11_335 : Cond.methodLink RX11 335 yX5_countAll ∈ lw_ok := mkc5 107 (by decide +kernel) rfl
theorem qi_X5_countAll : Cond.instanceMethod yX5_countAll ∈ lw_ok := mkc5 108 (by decide +kernel) rfl
theorem qs_X5_countAll : Cond.selects RX5 yX5_countAll yX5_countAll ∈ lw_ok := mkc5 109 (by decide +kernel) rfl
theorem qc_X5_countAll : Cond.code yX5_countAll cX5_countAll 3 (some .int) ∈ lw_ok := mkc5 110 (by decide +kernel) rfl
theorem gv_X11_335 : GoodIn lw_ok (wsV RX11 335 RX5 yX5_countAll [Cond.code yX5_countAll cX5_countAll 3 (some .int)]) := gV qm_X11_335 qi_X5_countAll qs_X5_countAll qz_X5 qc_X5_countAll
theorem hdV_X5_countAll : yX5_countAll.cls = RX5 ∧ yX5_countAll.cls ≠ "java/lang/invoke/MethodHandle" ∧ yX5_countAll.cls ≠ "java/lang/invoke/VarHandle" ∧ (parseMethodDescriptor yX5_countAll.desc).map (fun d => d.parameters.length) = some 0 := by decide +kernel
theorem qm_X11_338 : Cond.methodLink RX11 338 yX5_seekMet ∈ lw_ok := mkc5 115 (by decide +kernel) rfl
theorem qi_X5_seekMet : Cond.instanceMethod yX5_seekMet ∈ lw_ok := mkc5 116 (by decide +kernel) rfl
theorem qs_X5_seekMet : Cond.selects RX5 yX5_seekMet yX5_seekMet ∈ lw_ok := mkc5 117 (by decide +kernel) rfl
theorem qc_X5_seekMet : Cond.code yX5_seekMet cX5_seekMet 6 (some .boolean) ∈ lw_ok := mkc5 118 (by decide +kernel) rfl
theorem gv_X11_338 : GoodIn lw_ok (wsV RX11 338 RX5 yX5_seekMet [Cond.code yX5_seekMet cX5_seekMet 6 (some .boolean)]) := gV qm_X11_338 qi_X5_seekMet qs_X5_seekMet qz_X5 qc_X5_seekMet
theorem hdV_X5_seekMet : yX5_seekMet.cls = RX5 ∧ yX5_seekMet.cls ≠ "java/lang/invoke/MethodHandle" ∧ yX5_seekMet.cls ≠ "java/lang/invoke/VarHandle" ∧ (parseMethodDescriptor yX5_seekMet.desc).map (fun d => d.parameters.length) = some 3 := by decide +kernel
theorem qm_X11_342 : Cond.methodLink RX11 342 yX5_bitsOf ∈ lw_ok := mkc5 119 (by decide +kernel) rfl
theorem gv_X11_342 : GoodIn lw_ok (wsV RX11 342 RX5 yX5_bitsOf [Cond.code yX5_bitsOf cX5_bitsOf 4 (some .int)]) := gV qm_X11_342 qi_X5_bitsOf qs_X5_bitsOf qz_X5 qc_X5_bitsOf
theorem qf_X1_15 : Cond.fieldLink RX1 15 (TX0 0).1 (TX0 0).2.1 (TX0 0).2.2.1 ∈ lw_ok := mkc1 35 (by decide +kernel) rfl
theorem qf_X1_20 : Cond.fieldLink RX1 20 (TX0 1).1 (TX0 1).2.1 (TX0 1).2.2.1 ∈ lw_ok := mkc1 41 (by decide +kernel) rfl
theorem qf_X1_23 : Cond.fieldLink RX1 23 (TX1 5).1 (TX1 5).2.1 (TX1 5).2.2.1 ∈ lw_ok := mkc2 148 (by decide +kernel) rfl
theorem in_X1 : ∀ w ∈ u_ws RX1 TX1 10, w ∈ lw_ok := okIn _ [393, 395, 397, 399, 401, 403, 405, 407, 409, 411] (by decide +kernel) (by decide +kernel)
theorem qf_X1_27 : Cond.fieldLink RX1 27 (TX1 6).1 (TX1 6).2.1 (TX1 6).2.2.1 ∈ lw_ok := mkc2 149 (by decide +kernel) rfl
theorem qf_X1_30 : Cond.fieldLink RX1 30 (TX1 7).1 (TX1 7).2.1 (TX1 7).2.2.1 ∈ lw_ok := mkc2 150 (by decide +kernel) rfl
theorem qf_X1_33 : Cond.fieldLink RX1 33 (TX1 8).1 (TX1 8).2.1 (TX1 8).2.2.1 ∈ lw_ok := mkc2 151 (by decide +kernel) rfl
theorem qf_X1_36 : Cond.fieldLink RX1 36 (TX1 9).1 (TX1 9).2.1 (TX1 9).2.2.1 ∈ lw_ok := mkc2 152 (by decide +kernel) rfl
theorem qf_X1_39 : Cond.fieldLink RX1 39 (TX0 4).1 (TX0 4).2.1 (TX0 4).2.2.1 ∈ lw_ok := mkc1 58 (by decide +kernel) rfl
theorem qm_X1_42 : Cond.methodLink RX1 42 yX0_isAt ∈ lw_ok := mkc5 132 (by decide +kernel) rfl
theorem gv_X1_42 : GoodIn lw_ok (wsV RX1 42 RX0 yX0_isAt [Cond.code yX0_isAt cX0_isAt 4 (some .boolean)]) := gV qm_X1_42 qi_X0_isAt qs_X0_isAt qz_X0 qc_X0_isAt
theorem qm_X1_46 : Cond.methodLink RX1 46 yX1_split ∈ lw_ok := mkc5 133 (by decide +kernel) rfl
theorem qi_X1_split : Cond.instanceMethod yX1_split ∈ lw_ok := mkc5 135 (by decide +kernel) rfl
theorem qs_X1_split : Cond.selects RX1 yX1_split yX1_split ∈ lw_ok := mks 37 (by decide +kernel) rfl
theorem qz_X1 : Cond.initialized RX1 ∈ lw_ok := mkc1 12 (by decide +kernel) rfl
theorem qc_X1_split : Cond.code yX1_split cX1_split 13 none ∈ lw_ok := mkc5 136 (by decide +kernel) rfl
theorem gv_X1_46 : GoodIn lw_ok (wsV RX1 46 RX1 yX1_split [Cond.code yX1_split cX1_split 13 none]) := gV qm_X1_46 qi_X1_split qs_X1_split qz_X1 qc_X1_split
theorem hdV_X1_split : yX1_split.cls = RX1 ∧ yX1_split.cls ≠ "java/lang/invoke/MethodHandle" ∧ yX1_split.cls ≠ "java/lang/invoke/VarHandle" ∧ (parseMethodDescriptor yX1_split.desc).map (fun d => d.parameters.length) = some 4 := by decide +kernel
theorem qm_X1_50 : Cond.methodLink RX1 50 yJ6_bitCount_0f7a4 ∈ lw_ok := mkc5 137 (by decide +kernel) rfl
theorem gs_X1_50 : GoodIn lw_ok (va_wsS RX1 50 yJ6_bitCount_0f7a4 [Cond.code yJ6_bitCount_0f7a4 cJ6_bitCount_0f7a4 1 (some .int)]) := gS qm_X1_50 qt_J6_bitCount_0f7a4 qz_J6 qc_J6_bitCount_0f7a4
theorem qm_X1_56 : Cond.methodLink RX1 56 Lib.Math.min.name ∈ lw_ok := mkc5 138 (by decide +kernel) rfl
theorem qf_X11_77 : Cond.fieldLink RX11 77 (TX11 9).1 (TX11 9).2.1 (TX11 9).2.2.1 ∈ lw_ok := mkc2 185 (by decide +kernel) rfl
theorem qm_X11_345 : Cond.methodLink RX11 345 yX1_depthAt ∈ lw_ok := mkc5 128 (by decide +kernel) rfl
theorem qi_X1_depthAt : Cond.instanceMethod yX1_depthAt ∈ lw_ok := mkc5 129 (by decide +kernel) rfl
theorem qs_X1_depthAt : Cond.selects RX1 yX1_depthAt yX1_depthAt ∈ lw_ok := mkc5 130 (by decide +kernel) rfl
theorem qc_X1_depthAt : Cond.code yX1_depthAt cX1_depthAt 9 (some .int) ∈ lw_ok := mkc5 131 (by decide +kernel) rfl
theorem gv_X11_345 : GoodIn lw_ok (wsV RX11 345 RX1 yX1_depthAt [Cond.code yX1_depthAt cX1_depthAt 9 (some .int)]) := gV qm_X11_345 qi_X1_depthAt qs_X1_depthAt qz_X1 qc_X1_depthAt
theorem hdV_X1_depthAt : yX1_depthAt.cls = RX1 ∧ yX1_depthAt.cls ≠ "java/lang/invoke/MethodHandle" ∧ yX1_depthAt.cls ≠ "java/lang/invoke/VarHandle" ∧ (parseMethodDescriptor yX1_depthAt.desc).map (fun d => d.parameters.length) = some 4 := by decide +kernel
theorem qm_X11_392 : Cond.methodLink RX11 392 yX11_triangleHolds ∈ lw_ok := mkc5 146 (by decide +kernel) rfl
theorem gs_X11_392 : GoodIn lw_ok (va_wsS RX11 392 yX11_triangleHolds [Cond.code yX11_triangleHolds cX11_triangleHolds 15 (some .boolean)]) := gS qm_X11_392 qt_X11_triangleHolds qz_X11 qc_X11_triangleHolds
theorem qm_X11_349 : Cond.methodLink RX11 349 yX11_countTriangles ∈ lw_ok := mkc5 143 (by decide +kernel) rfl
theorem qt_X11_countTriangles : Cond.static yX11_countTriangles ∈ lw_ok := mkc5 144 (by decide +kernel) rfl
theorem qc_X11_countTriangles : Cond.code yX11_countTriangles cX11_countTriangles 7 (some .int) ∈ lw_ok := mkc5 145 (by decide +kernel) rfl
theorem gs_X11_349 : GoodIn lw_ok (va_wsS RX11 349 yX11_countTriangles [Cond.code yX11_countTriangles cX11_countTriangles 7 (some .int)]) := gS qm_X11_349 qt_X11_countTriangles qz_X11 qc_X11_countTriangles
theorem hdS_X11_countTriangles : yX11_countTriangles.cls ≠ "java/lang/invoke/MethodHandle" ∧ yX11_countTriangles.cls ≠ "java/lang/invoke/VarHandle" ∧ (parseMethodDescriptor yX11_countTriangles.desc).map (fun d => d.parameters.length) = some 3 := by decide +kernel
theorem qf_X1_9 : Cond.fieldLink RX1 9 (TX1 4).1 (TX1 4).2.1 (TX1 4).2.2.1 ∈ lw_ok := mkc2 147 (by decide +kernel) rfl
theorem qf_X1_62 : Cond.fieldLink RX1 62 (TX1 2).1 (TX1 2).2.1 (TX1 2).2.2.1 ∈ lw_ok := mkc2 143 (by decide +kernel) rfl
theorem qm_X1_73 : Cond.methodLink RX1 73 yX1_depthAt ∈ lw_ok := mkc5 162 (by decide +kernel) rfl
theorem gv_X1_73 : GoodIn lw_ok (wsV RX1 73 RX1 yX1_depthAt [Cond.code yX1_depthAt cX1_depthAt 9 (some .int)]) := gV qm_X1_73 qi_X1_depthAt qs_X1_depthAt qz_X1 qc_X1_depthAt
theorem qf_X1_77 : Cond.fieldLink RX1 77 (TX1 0).1 (TX1 0).2.1 (TX1 0).2.2.1 ∈ lw_ok := mkc2 139 (by decide +kernel) rfl
theorem qf_X1_80 : Cond.fieldLink RX1 80 (TX1 1).1 (TX1 1).2.1 (TX1 1).2.2.1 ∈ lw_ok := mkc2 141 (by decide +kernel) rfl
theorem qm_X1_65 : Cond.methodLink RX1 65 yX1_boundOf ∈ lw_ok := mkc5 155 (by decide +kernel) rfl
theorem qt_X1_boundOf : Cond.static yX1_boundOf ∈ lw_ok := mkc5 156 (by decide +kernel) rfl
theorem qc_X1_boundOf : Cond.code yX1_boundOf cX1_boundOf 6 (some .int) ∈ lw_ok := mkc5 157 (by decide +kernel) rfl
theorem gs_X1_65 : GoodIn lw_ok (va_wsS RX1 65 yX1_boundOf [Cond.code yX1_boundOf cX1_boundOf 6 (some .int)]) := gS qm_X1_65 qt_X1_boundOf qz_X1 qc_X1_boundOf
theorem hdS_X1_boundOf : yX1_boundOf.cls ≠ "java/lang/invoke/MethodHandle" ∧ yX1_boundOf.cls ≠ "java/lang/invoke/VarHandle" ∧ (parseMethodDescriptor yX1_boundOf.desc).map (fun d => d.parameters.length) = some 3 := by decide +kernel
theorem qm_X1_69 : Cond.methodLink RX1 69 yX1_searchColumn ∈ lw_ok := mkc5 158 (by decide +kernel) rfl
theorem qi_X1_searchColumn : Cond.instanceMethod yX1_searchColumn ∈ lw_ok := mkc5 160 (by decide +kernel) rfl
theorem qs_X1_searchColumn : Cond.selects RX1 yX1_searchColumn yX1_searchColumn ∈ lw_ok := mks 38 (by decide +kernel) rfl
theorem qc_X1_searchColumn : Cond.code yX1_searchColumn cX1_searchColumn 5 none ∈ lw_ok := mkc5 161 (by decide +kernel) rfl
theorem gv_X1_69 : GoodIn lw_ok (wsV RX1 69 RX1 yX1_searchColumn [Cond.code yX1_searchColumn cX1_searchColumn 5 none]) := gV qm_X1_69 qi_X1_searchColumn qs_X1_searchColumn qz_X1 qc_X1_searchColumn
theorem hdV_X1_searchColumn : yX1_searchColumn.cls = RX1 ∧ yX1_searchColumn.cls ≠ "java/lang/invoke/MethodHandle" ∧ yX1_searchColumn.cls ≠ "java/lang/invoke/VarHandle" ∧ (parseMethodDescriptor yX1_searchColumn.desc).map (fun d => d.parameters.length) = some 2 := by decide +kernel
theorem qm_X11_352 : Cond.methodLink RX11 352 yX1_findDeepest ∈ lw_ok := mkc5 151 (by decide +kernel) rfl
theorem qi_X1_findDeepest : Cond.instanceMethod yX1_findDeepest ∈ lw_ok := mkc5 152 (by decide +kernel) rfl
theorem qs_X1_findDeepest : Cond.selects RX1 yX1_findDeepest yX1_findDeepest ∈ lw_ok := mkc5 153 (by decide +kernel) rfl
theorem qc_X1_findDeepest : Cond.code yX1_findDeepest cX1_findDeepest 3 none ∈ lw_ok := mkc5 154 (by decide +kernel) rfl
theorem gv_X11_352 : GoodIn lw_ok (wsV RX11 352 RX1 yX1_findDeepest [Cond.code yX1_findDeepest cX1_findDeepest 3 none]) := gV qm_X11_352 qi_X1_findDeepest qs_X1_findDeepest qz_X1 qc_X1_findDeepest
theorem hdV_X1_findDeepest : yX1_findDeepest.cls = RX1 ∧ yX1_findDeepest.cls ≠ "java/lang/invoke/MethodHandle" ∧ yX1_findDeepest.cls ≠ "java/lang/invoke/VarHandle" ∧ (parseMethodDescriptor yX1_findDeepest.desc).map (fun d => d.parameters.length) = some 1 := by decide +kernel
theorem qf_X11_355 : Cond.fieldLink RX11 355 (TX1 0).1 (TX1 0).2.1 (TX1 0).2.2.1 ∈ lw_ok := mkc2 140 (by decide +kernel) rfl
theorem qf_X11_358 : Cond.fieldLink RX11 358 (TX1 1).1 (TX1 1).2.1 (TX1 1).2.2.1 ∈ lw_ok := mkc2 142 (by decide +kernel) rfl
theorem qf_X11_361 : Cond.fieldLink RX11 361 (TX1 2).1 (TX1 2).2.1 (TX1 2).2.2.1 ∈ lw_ok := mkc2 144 (by decide +kernel) rfl
theorem qf_X1_83 : Cond.fieldLink RX1 83 (TX1 3).1 (TX1 3).2.1 (TX1 3).2.2.1 ∈ lw_ok := mkc2 145 (by decide +kernel) rfl
theorem qf_X1_86 : Cond.fieldLink RX1 86 (TX0 5).1 (TX0 5).2.1 (TX0 5).2.2.1 ∈ lw_ok := mkc1 63 (by decide +kernel) rfl
theorem qf_X1_89 : Cond.fieldLink RX1 89 (TX0 6).1 (TX0 6).2.1 (TX0 6).2.2.1 ∈ lw_ok := mkc1 68 (by decide +kernel) rfl
theorem qm_X1_92 : Cond.methodLink RX1 92 yX1_offerFewest ∈ lw_ok := mkc5 171 (by decide +kernel) rfl
theorem qi_X1_offerFewest : Cond.instanceMethod yX1_offerFewest ∈ lw_ok := mkc5 173 (by decide +kernel) rfl
theorem qs_X1_offerFewest : Cond.selects RX1 yX1_offerFewest yX1_offerFewest ∈ lw_ok := mks 39 (by decide +kernel) rfl
theorem qc_X1_offerFewest : Cond.code yX1_offerFewest cX1_offerFewest 3 none ∈ lw_ok := mkc5 174 (by decide +kernel) rfl
theorem gv_X1_92 : GoodIn lw_ok (wsV RX1 92 RX1 yX1_offerFewest [Cond.code yX1_offerFewest cX1_offerFewest 3 none]) := gV qm_X1_92 qi_X1_offerFewest qs_X1_offerFewest qz_X1 qc_X1_offerFewest
theorem hdV_X1_offerFewest : yX1_offerFewest.cls = RX1 ∧ yX1_offerFewest.cls ≠ "java/lang/invoke/MethodHandle" ∧ yX1_offerFewest.cls ≠ "java/lang/invoke/VarHandle" ∧ (parseMethodDescriptor yX1_offerFewest.desc).map (fun d => d.parameters.length) = some 1 := by decide +kernel
theorem qm_X11_364 : Cond.methodLink RX11 364 yX1_findFewest ∈ lw_ok := mkc5 167 (by decide +kernel) rfl
theorem qi_X1_findFewest : Cond.instanceMethod yX1_findFewest ∈ lw_ok := mkc5 168 (by decide +kernel) rfl
theorem qs_X1_findFewest : Cond.selects RX1 yX1_findFewest yX1_findFewest ∈ lw_ok := mkc5 169 (by decide +kernel) rfl
theorem qc_X1_findFewest : Cond.code yX1_findFewest cX1_findFewest 3 none ∈ lw_ok := mkc5 170 (by decide +kernel) rfl
theorem gv_X11_364 : GoodIn lw_ok (wsV RX11 364 RX1 yX1_findFewest [Cond.code yX1_findFewest cX1_findFewest 3 none]) := gV qm_X11_364 qi_X1_findFewest qs_X1_findFewest qz_X1 qc_X1_findFewest
theorem hdV_X1_findFewest : yX1_findFewest.cls = RX1 ∧ yX1_findFewest.cls ≠ "java/lang/invoke/MethodHandle" ∧ yX1_findFewest.cls ≠ "java/lang/invoke/VarHandle" ∧ (parseMethodDescriptor yX1_findFewest.desc).map (fun d => d.parameters.length) = some 1 := by decide +kernel
theorem qf_X11_367 : Cond.fieldLink RX11 367 (TX1 3).1 (TX1 3).2.1 (TX1 3).2.2.1 ∈ lw_ok := mkc2 146 (by decide +kernel) rfl
theorem qm_X11_370 : Cond.methodLink RX11 370 yJ6_bitCount_0f7a4 ∈ lw_ok := mkc5 175 (by decide +kernel) rfl
theorem gs_X11_370 : GoodIn lw_ok (va_wsS RX11 370 yJ6_bitCount_0f7a4 [Cond.code yJ6_bitCount_0f7a4 cJ6_bitCount_0f7a4 1 (some .int)]) := gS qm_X11_370 qt_J6_bitCount_0f7a4 qz_J6 qc_J6_bitCount_0f7a4
theorem qm_X11_375 : Cond.methodLink RX11 375 yX0_append ∈ lw_ok := mkc5 180 (by decide +kernel) rfl
theorem gv_X11_375 : GoodIn lw_ok (wsV RX11 375 RX0 yX0_append [Cond.code yX0_append cX0_append 4 (some .boolean)]) := gV qm_X11_375 qi_X0_append qs_X0_append qz_X0 qc_X0_append
theorem qm_X11_377 : Cond.methodLink RX11 377 yX0_drop ∈ lw_ok := mkc5 185 (by decide +kernel) rfl
theorem qi_X0_drop : Cond.instanceMethod yX0_drop ∈ lw_ok := mkc5 186 (by decide +kernel) rfl
theorem qs_X0_drop : Cond.selects RX0 yX0_drop yX0_drop ∈ lw_ok := mkc5 187 (by decide +kernel) rfl
theorem qc_X0_drop : Cond.code yX0_drop cX0_drop 3 none ∈ lw_ok := mkc5 188 (by decide +kernel) rfl
theorem gv_X11_377 : GoodIn lw_ok (wsV RX11 377 RX0 yX0_drop [Cond.code yX0_drop cX0_drop 3 none]) := gV qm_X11_377 qi_X0_drop qs_X0_drop qz_X0 qc_X0_drop
theorem hdV_X0_drop : yX0_drop.cls = RX0 ∧ yX0_drop.cls ≠ "java/lang/invoke/MethodHandle" ∧ yX0_drop.cls ≠ "java/lang/invoke/VarHandle" ∧ (parseMethodDescriptor yX0_drop.desc).map (fun d => d.parameters.length) = some 1 := by decide +kernel
theorem qm_X11_380 : Cond.methodLink RX11 380 yX0_isAt ∈ lw_ok := mkc5 193 (by decide +kernel) rfl
theorem gv_X11_380 : GoodIn lw_ok (wsV RX11 380 RX0 yX0_isAt [Cond.code yX0_isAt cX0_isAt 4 (some .boolean)]) := gV qm_X11_380 qi_X0_isAt qs_X0_isAt qz_X0 qc_X0_isAt
theorem qm_X12_84 : Cond.methodLink RX12 84 Lib.MathLoose.abs_long.x ∈ lw_ok := mkc7 64 (by decide +kernel) rfl
theorem qf_X12_90 : Cond.fieldLink RX12 90 (TX12 1).1 (TX12 1).2.1 (TX12 1).2.2.1 ∈ lw_ok := mkc5 212 (by decide +kernel) rfl
theorem in_X12 : ∀ w ∈ u_ws RX12 TX12 57, w ∈ lw_ok := okIn _ [1228, 1230, 1232, 1234, 1236, 1238, 1240, 1242, 1244, 1246, 1248, 1250, 1252, 1254, 1256, 1258, 1260, 1262, 1264, 1266, 1268, 1270, 1272, 1274, 1276, 1278, 1280, 1282, 1284, 1286, 1288, 1290, 1292, 1294, 1296, 1298, 1300, 1302, 1304, 1306, 1308, 1310, 1312, 1314, 1316, 1318, 1320, 1322, 1324, 1326, 1328, 1330, 1332, 1334, 1336, 1338, 1340] (by decide +kernel) (by decide +kernel)
theorem qm_X12_93 : Cond.methodLink RX12 93 yX12_in ∈ lw_ok := mkc6 151 (by decide +kernel) rfl
theorem qt_X12_in : Cond.static yX12_in ∈ lw_ok := mkc6 152 (by decide +kernel) rfl
theorem qz_X12 : Cond.initialized RX12 ∈ lw_ok := mkc1 13 (by decide +kernel) rfl
theorem qc_X12_in : Cond.code yX12_in cX12_in 6 (some .boolean) ∈ lw_ok := mkc6 153 (by decide +kernel) rfl
theorem gs_X12_93 : GoodIn lw_ok (va_wsS RX12 93 yX12_in [Cond.code yX12_in cX12_in 6 (some .boolean)]) := gS qm_X12_93 qt_X12_in qz_X12 qc_X12_in
theorem hdS_X12_in : yX12_in.cls ≠ "java/lang/invoke/MethodHandle" ∧ yX12_in.cls ≠ "java/lang/invoke/VarHandle" ∧ (parseMethodDescriptor yX12_in.desc).map (fun d => d.parameters.length) = some 3 := by decide +kernel
theorem qj_X12_97 : Cond.constantLong RX12 97 (-20) ∈ lw_ok := mkc7 72 (by decide +kernel) rfl
theorem qj_X12_99 : Cond.constantLong RX12 99 (20) ∈ lw_ok := mkc7 73 (by decide +kernel) rfl
theorem qf_X12_101 : Cond.fieldLink RX12 101 (TX12 17).1 (TX12 17).2.1 (TX12 17).2.2.1 ∈ lw_ok := mkc5 228 (by decide +kernel) rfl
theorem qf_X12_40 : Cond.fieldLink RX12 40 (TX12 18).1 (TX12 18).2.1 (TX12 18).2.2.1 ∈ lw_ok := mkc5 229 (by decide +kernel) rfl
theorem qf_X12_36 : Cond.fieldLink RX12 36 (TX12 16).1 (TX12 16).2.1 (TX12 16).2.2.1 ∈ lw_ok := mkc5 227 (by decide +kernel) rfl
theorem qf_X12_104 : Cond.fieldLink RX12 104 (TX12 19).1 (TX12 19).2.1 (TX12 19).2.2.1 ∈ lw_ok := mkc5 230 (by decide +kernel) rfl
theorem qf_X12_107 : Cond.fieldLink RX12 107 (TX12 20).1 (TX12 20).2.1 (TX12 20).2.2.1 ∈ lw_ok := mkc5 231 (by decide +kernel) rfl
theorem qm_X12_110 : Cond.methodLink RX12 110 yX12_see ∈ lw_ok := mkc6 162 (by decide +kernel) rfl
theorem qi_X12_see : Cond.instanceMethod yX12_see ∈ lw_ok := mkc6 164 (by decide +kernel) rfl
theorem qs_X12_see : Cond.selects RX12 yX12_see yX12_see ∈ lw_ok := mks 41 (by decide +kernel) rfl
theorem qc_X12_see : Cond.code yX12_see cX12_see 2 (some .int) ∈ lw_ok := mkc6 165 (by decide +kernel) rfl
theorem gv_X12_110 : GoodIn lw_ok (wsV RX12 110 RX12 yX12_see [Cond.code yX12_see cX12_see 2 (some .int)]) := gV qm_X12_110 qi_X12_see qs_X12_see qz_X12 qc_X12_see
theorem hdV_X12_see : yX12_see.cls = RX12 ∧ yX12_see.cls ≠ "java/lang/invoke/MethodHandle" ∧ yX12_see.cls ≠ "java/lang/invoke/VarHandle" ∧ (parseMethodDescriptor yX12_see.desc).map (fun d => d.parameters.length) = some 1 := by decide +kernel
theorem qf_X12_114 : Cond.fieldLink RX12 114 (TX12 21).1 (TX12 21).2.1 (TX12 21).2.2.1 ∈ lw_ok := mkc5 232 (by decide +kernel) rfl
theorem qj_X12_120 : Cond.constantLong RX12 120 (97) ∈ lw_ok := mkc6 166 (by decide +kernel) rfl
theorem qj_X12_122 : Cond.constantLong RX12 122 (122) ∈ lw_ok := mkc6 167 (by decide +kernel) rfl
theorem qj_X12_124 : Cond.constantLong RX12 124 (48) ∈ lw_ok := mkc6 168 (by decide +kernel) rfl
theorem qj_X12_126 : Cond.constantLong RX12 126 (57) ∈ lw_ok := mkc6 169 (by decide +kernel) rfl
theorem qf_X12_128 : Cond.fieldLink RX12 128 (TX12 23).1 (TX12 23).2.1 (TX12 23).2.2.1 ∈ lw_ok := mkc5 234 (by decide +kernel) rfl
theorem qf_X12_117 : Cond.fieldLink RX12 117 (TX12 22).1 (TX12 22).2.1 (TX12 22).2.2.1 ∈ lw_ok := mkc5 233 (by decide +kernel) rfl
theorem qk_X12_131 : Cond.constant RX12 131 (99999) ∈ lw_ok := mkc6 170 (by decide +kernel) rfl
theorem qm_X12_132 : Cond.methodLink RX12 132 Lib.Math.min.name ∈ lw_ok := mkc6 171 (by decide +kernel) rfl
theorem qf_X12_136 : Cond.fieldLink RX12 136 (TX12 24).1 (TX12 24).2.1 (TX12 24).2.2.1 ∈ lw_ok := mkc5 235 (by decide +kernel) rfl
theorem qm_X12_139 : Cond.methodLink RX12 139 yX12_good ∈ lw_ok := mkc6 172 (by decide +kernel) rfl
theorem qi_X12_good : Cond.instanceMethod yX12_good ∈ lw_ok := mkc6 174 (by decide +kernel) rfl
theorem qs_X12_good : Cond.selects RX12 yX12_good yX12_good ∈ lw_ok := mks 42 (by decide +kernel) rfl
theorem qc_X12_good : Cond.code yX12_good cX12_good 1 (some .boolean) ∈ lw_ok := mkc6 175 (by decide +kernel) rfl
theorem gv_X12_139 : GoodIn lw_ok (wsV RX12 139 RX12 yX12_good [Cond.code yX12_good cX12_good 1 (some .boolean)]) := gV qm_X12_139 qi_X12_good qs_X12_good qz_X12 qc_X12_good
theorem hdV_X12_good : yX12_good.cls = RX12 ∧ yX12_good.cls ≠ "java/lang/invoke/MethodHandle" ∧ yX12_good.cls ≠ "java/lang/invoke/VarHandle" ∧ (parseMethodDescriptor yX12_good.desc).map (fun d => d.parameters.length) = some 0 := by decide +kernel
theorem qf_X12_43 : Cond.fieldLink RX12 43 (TX12 25).1 (TX12 25).2.1 (TX12 25).2.2.1 ∈ lw_ok := mkc5 236 (by decide +kernel) rfl
theorem qm_X12_143 : Cond.methodLink RX12 143 yJ0_length_8abf5 ∈ lw_ok := mkc6 185 (by decide +kernel) rfl
theorem gv_X12_143 : GoodIn lw_ok (wsV RX12 143 RJ0 yJ0_length_8abf5 [Cond.code yJ0_length_8abf5 cJ0_length_8abf5 1 (some .int)]) := gV qm_X12_143 qi_J0_length_8abf5 qs_J0_length_8abf5 qz_J0 qc_J0_length_8abf5
theorem qm_X12_149 : Cond.methodLink RX12 149 yJ0_charAt_5068e ∈ lw_ok := mkc6 186 (by decide +kernel) rfl
theorem gv_X12_149 : GoodIn lw_ok (wsV RX12 149 RJ0 yJ0_charAt_5068e [Cond.code yJ0_charAt_5068e cJ0_charAt_5068e 2 (some .char)]) := gV qm_X12_149 qi_J0_charAt_5068e qs_J0_charAt_5068e qz_J0 qc_J0_charAt_5068e
theorem qm_X12_157 : Cond.methodLink RX12 157 yX12_advance ∈ lw_ok := mkc6 158 (by decide +kernel) rfl
theorem qi_X12_advance : Cond.instanceMethod yX12_advance ∈ lw_ok := mkc6 160 (by decide +kernel) rfl
theorem qs_X12_advance : Cond.selects RX12 yX12_advance yX12_advance ∈ lw_ok := mks 40 (by decide +kernel) rfl
theorem qc_X12_advance : Cond.code yX12_advance cX12_advance 2 none ∈ lw_ok := mkc6 161 (by decide +kernel) rfl
theorem gv_X12_157 : GoodIn lw_ok (wsV RX12 157 RX12 yX12_advance [Cond.code yX12_advance cX12_advance 2 none]) := gV qm_X12_157 qi_X12_advance qs_X12_advance qz_X12 qc_X12_advance
theorem hdV_X12_advance : yX12_advance.cls = RX12 ∧ yX12_advance.cls ≠ "java/lang/invoke/MethodHandle" ∧ yX12_advance.cls ≠ "java/lang/invoke/VarHandle" ∧ (parseMethodDescriptor yX12_advance.desc).map (fun d => d.parameters.length) = some 0 := by decide +kernel
theorem qm_X12_153 : Cond.methodLink RX12 153 yX12_errs ∈ lw_ok := mkc6 191 (by decide +kernel) rfl
theorem qi_X12_errs : Cond.instanceMethod yX12_errs ∈ lw_ok := mkc6 193 (by decide +kernel) rfl
theorem qs_X12_errs : Cond.selects RX12 yX12_errs yX12_errs ∈ lw_ok := mks 46 (by decide +kernel) rfl
theorem qc_X12_errs : Cond.code yX12_errs cX12_errs 2 none ∈ lw_ok := mkc6 194 (by decide +kernel) rfl
theorem gv_X12_153 : GoodIn lw_ok (wsV RX12 153 RX12 yX12_errs [Cond.code yX12_errs cX12_errs 2 none]) := gV qm_X12_153 qi_X12_errs qs_X12_errs qz_X12 qc_X12_errs
theorem hdV_X12_errs : yX12_errs.cls = RX12 ∧ yX12_errs.cls ≠ "java/lang/invoke/MethodHandle" ∧ yX12_errs.cls ≠ "java/lang/invoke/VarHandle" ∧ (parseMethodDescriptor yX12_errs.desc).map (fun d => d.parameters.length) = some 1 := by decide +kernel
theorem qm_X12_160 : Cond.methodLink RX12 160 yX12_isSign ∈ lw_ok := mkc6 199 (by decide +kernel) rfl
theorem qi_X12_isSign : Cond.instanceMethod yX12_isSign ∈ lw_ok := mkc6 201 (by decide +kernel) rfl
theorem qs_X12_isSign : Cond.selects RX12 yX12_isSign yX12_isSign ∈ lw_ok := mks 48 (by decide +kernel) rfl
theorem qc_X12_isSign : Cond.code yX12_isSign cX12_isSign 2 (some .boolean) ∈ lw_ok := mkc6 202 (by decide +kernel) rfl
theorem gv_X12_160 : GoodIn lw_ok (wsV RX12 160 RX12 yX12_isSign [Cond.code yX12_isSign cX12_isSign 2 (some .boolean)]) := gV qm_X12_160 qi_X12_isSign qs_X12_isSign qz_X12 qc_X12_isSign
theorem hdV_X12_isSign : yX12_isSign.cls = RX12 ∧ yX12_isSign.cls ≠ "java/lang/invoke/MethodHandle" ∧ yX12_isSign.cls ≠ "java/lang/invoke/VarHandle" ∧ (parseMethodDescriptor yX12_isSign.desc).map (fun d => d.parameters.length) = some 1 := by decide +kernel
theorem qm_X12_164 : Cond.methodLink RX12 164 yX12_takes ∈ lw_ok := mkc6 203 (by decide +kernel) rfl
theorem qi_X12_takes : Cond.instanceMethod yX12_takes ∈ lw_ok := mkc6 205 (by decide +kernel) rfl
theorem qs_X12_takes : Cond.selects RX12 yX12_takes yX12_takes ∈ lw_ok := mks 49 (by decide +kernel) rfl
theorem qc_X12_takes : Cond.code yX12_takes cX12_takes 3 (some .int) ∈ lw_ok := mkc6 206 (by decide +kernel) rfl
theorem gv_X12_164 : GoodIn lw_ok (wsV RX12 164 RX12 yX12_takes [Cond.code yX12_takes cX12_takes 3 (some .int)]) := gV qm_X12_164 qi_X12_takes qs_X12_takes qz_X12 qc_X12_takes
theorem hdV_X12_takes : yX12_takes.cls = RX12 ∧ yX12_takes.cls ≠ "java/lang/invoke/MethodHandle" ∧ yX12_takes.cls ≠ "java/lang/invoke/VarHandle" ∧ (parseMethodDescriptor yX12_takes.desc).map (fun d => d.parameters.length) = some 1 := by decide +kernel
theorem qf_X12_167 : Cond.fieldLink RX12 167 (TX12 8).1 (TX12 8).2.1 (TX12 8).2.2.1 ∈ lw_ok := mkc5 219 (by decide +kernel) rfl
theorem qm_X12_170 : Cond.methodLink RX12 170 yX12_takesSigned ∈ lw_ok := mkc6 195 (by decide +kernel) rfl
theorem qi_X12_takesSigned : Cond.instanceMethod yX12_takesSigned ∈ lw_ok := mkc6 197 (by decide +kernel) rfl
theorem qs_X12_takesSigned : Cond.selects RX12 yX12_takesSigned yX12_takesSigned ∈ lw_ok := mks 47 (by decide +kernel) rfl
theorem qc_X12_takesSigned : Cond.code yX12_takesSigned cX12_takesSigned 3 (some .int) ∈ lw_ok := mkc6 198 (by decide +kernel) rfl
theorem gv_X12_170 : GoodIn lw_ok (wsV RX12 170 RX12 yX12_takesSigned [Cond.code yX12_takesSigned cX12_takesSigned 3 (some .int)]) := gV qm_X12_170 qi_X12_takesSigned qs_X12_takesSigned qz_X12 qc_X12_takesSigned
theorem hdV_X12_takesSigned : yX12_takesSigned.cls = RX12 ∧ yX12_takesSigned.cls ≠ "java/lang/invoke/MethodHandle" ∧ yX12_takesSigned.cls ≠ "java/lang/invoke/VarHandle" ∧ (parseMethodDescriptor yX12_takesSigned.desc).map (fun d => d.parameters.length) = some 0 := by decide +kernel
theorem qf_X12_24 : Cond.fieldLink RX12 24 (TX12 9).1 (TX12 9).2.1 (TX12 9).2.2.1 ∈ lw_ok := mkc5 220 (by decide +kernel) rfl
theorem qf_X12_27 : Cond.fieldLink RX12 27 (TX12 10).1 (TX12 10).2.1 (TX12 10).2.2.1 ∈ lw_ok := mkc5 221 (by decide +kernel) rfl
theorem qf_X12_30 : Cond.fieldLink RX12 30 (TX12 11).1 (TX12 11).2.1 (TX12 11).2.2.1 ∈ lw_ok := mkc5 222 (by decide +kernel) rfl
theorem qf_X12_33 : Cond.fieldLink RX12 33 (TX12 12).1 (TX12 12).2.1 (TX12 12).2.2.1 ∈ lw_ok := mkc5 223 (by decide +kernel) rfl
theorem qm_X12_173 : Cond.methodLink RX12 173 yX12_readPoint ∈ lw_ok := mkc6 212 (by decide +kernel) rfl
theorem qi_X12_readPoint : Cond.instanceMethod yX12_readPoint ∈ lw_ok := mkc6 214 (by decide +kernel) rfl
theorem qs_X12_readPoint : Cond.selects RX12 yX12_readPoint yX12_readPoint ∈ lw_ok := mks 51 (by decide +kernel) rfl
theorem qc_X12_readPoint : Cond.code yX12_readPoint cX12_readPoint 5 none ∈ lw_ok := mkc6 215 (by decide +kernel) rfl
theorem gv_X12_173 : GoodIn lw_ok (wsV RX12 173 RX12 yX12_readPoint [Cond.code yX12_readPoint cX12_readPoint 5 none]) := gV qm_X12_173 qi_X12_readPoint qs_X12_readPoint qz_X12 qc_X12_readPoint
theorem hdV_X12_readPoint : yX12_readPoint.cls = RX12 ∧ yX12_readPoint.cls ≠ "java/lang/invoke/MethodHandle" ∧ yX12_readPoint.cls ≠ "java/lang/invoke/VarHandle" ∧ (parseMethodDescriptor yX12_readPoint.desc).map (fun d => d.parameters.length) = some 1 := by decide +kernel
theorem qm_X12_177 : Cond.methodLink RX12 177 yX12_is ∈ lw_ok := mkc6 181 (by decide +kernel) rfl
theorem qi_X12_is : Cond.instanceMethod yX12_is ∈ lw_ok := mkc6 183 (by decide +kernel) rfl
theorem qs_X12_is : Cond.selects RX12 yX12_is yX12_is ∈ lw_ok := mks 44 (by decide +kernel) rfl
theorem qc_X12_is : Cond.code yX12_is cX12_is 4 (some .boolean) ∈ lw_ok := mkc6 184 (by decide +kernel) rfl
theorem gv_X12_177 : GoodIn lw_ok (wsV RX12 177 RX12 yX12_is [Cond.code yX12_is cX12_is 4 (some .boolean)]) := gV qm_X12_177 qi_X12_is qs_X12_is qz_X12 qc_X12_is
theorem hdV_X12_is : yX12_is.cls = RX12 ∧ yX12_is.cls ≠ "java/lang/invoke/MethodHandle" ∧ yX12_is.cls ≠ "java/lang/invoke/VarHandle" ∧ (parseMethodDescriptor yX12_is.desc).map (fun d => d.parameters.length) = some 1 := by decide +kernel
theorem qf_X12_181 : Cond.fieldLink RX12 181 (TX12 15).1 (TX12 15).2.1 (TX12 15).2.2.1 ∈ lw_ok := mkc5 226 (by decide +kernel) rfl
theorem qf_X12_185 : Cond.fieldLink RX12 185 (TX12 13).1 (TX12 13).2.1 (TX12 13).2.2.1 ∈ lw_ok := mkc5 224 (by decide +kernel) rfl
theorem qf_X12_188 : Cond.fieldLink RX12 188 (TX12 14).1 (TX12 14).2.1 (TX12 14).2.2.1 ∈ lw_ok := mkc5 225 (by decide +kernel) rfl
theorem qm_X12_198 : Cond.methodLink RX12 198 yX12_readPoints ∈ lw_ok := mkc6 208 (by decide +kernel) rfl
theorem qi_X12_readPoints : Cond.instanceMethod yX12_readPoints ∈ lw_ok := mkc6 210 (by decide +kernel) rfl
theorem qs_X12_readPoints : Cond.selects RX12 yX12_readPoints yX12_readPoints ∈ lw_ok := mks 50 (by decide +kernel) rfl
theorem qc_X12_readPoints : Cond.code yX12_readPoints cX12_readPoints 5 none ∈ lw_ok := mkc6 211 (by decide +kernel) rfl
theorem gv_X12_198 : GoodIn lw_ok (wsV RX12 198 RX12 yX12_readPoints [Cond.code yX12_readPoints cX12_readPoints 5 none]) := gV qm_X12_198 qi_X12_readPoints qs_X12_readPoints qz_X12 qc_X12_readPoints
theorem hdV_X12_readPoints : yX12_readPoints.cls = RX12 ∧ yX12_readPoints.cls ≠ "java/lang/invoke/MethodHandle" ∧ yX12_readPoints.cls ≠ "java/lang/invoke/VarHandle" ∧ (parseMethodDescriptor yX12_readPoints.desc).map (fun d => d.parameters.length) = some 1 := by decide +kernel
theorem qm_X12_193 : Cond.methodLink RX12 193 yX12_readCentre ∈ lw_ok := mkc6 187 (by decide +kernel) rfl
theorem qi_X12_readCentre : Cond.instanceMethod yX12_readCentre ∈ lw_ok := mkc6 189 (by decide +kernel) rfl
theorem qs_X12_readCentre : Cond.selects RX12 yX12_readCentre yX12_readCentre ∈ lw_ok := mks 45 (by decide +kernel) rfl
theorem qc_X12_readCentre : Cond.code yX12_readCentre cX12_readCentre 1 none ∈ lw_ok := mkc6 190 (by decide +kernel) rfl
theorem gv_X12_193 : GoodIn lw_ok (wsV RX12 193 RX12 yX12_readCentre [Cond.code yX12_readCentre cX12_readCentre 1 none]) := gV qm_X12_193 qi_X12_readCentre qs_X12_readCentre qz_X12 qc_X12_readCentre
theorem hdV_X12_readCentre : yX12_readCentre.cls = RX12 ∧ yX12_readCentre.cls ≠ "java/lang/invoke/MethodHandle" ∧ yX12_readCentre.cls ≠ "java/lang/invoke/VarHandle" ∧ (parseMethodDescriptor yX12_readCentre.desc).map (fun d => d.parameters.length) = some 0 := by decide +kernel
theorem qm_X12_205 : Cond.methodLink RX12 205 yX12_readLine ∈ lw_ok := mkc6 176 (by decide +kernel) rfl
theorem qi_X12_readLine : Cond.instanceMethod yX12_readLine ∈ lw_ok := mkc6 178 (by decide +kernel) rfl
theorem qs_X12_readLine : Cond.selects RX12 yX12_readLine yX12_readLine ∈ lw_ok := mks 43 (by decide +kernel) rfl
theorem qc_X12_readLine : Cond.code yX12_readLine cX12_readLine 1 none ∈ lw_ok := mkc6 179 (by decide +kernel) rfl
theorem gv_X12_205 : GoodIn lw_ok (wsV RX12 205 RX12 yX12_readLine [Cond.code yX12_readLine cX12_readLine 1 none]) := gV qm_X12_205 qi_X12_readLine qs_X12_readLine qz_X12 qc_X12_readLine
theorem hdV_X12_readLine : yX12_readLine.cls = RX12 ∧ yX12_readLine.cls ≠ "java/lang/invoke/MethodHandle" ∧ yX12_readLine.cls ≠ "java/lang/invoke/VarHandle" ∧ (parseMethodDescriptor yX12_readLine.desc).map (fun d => d.parameters.length) = some 0 := by decide +kernel
theorem qf_X12_208 : Cond.fieldLink RX12 208 (TX12 6).1 (TX12 6).2.1 (TX12 6).2.2.1 ∈ lw_ok := mkc5 217 (by decide +kernel) rfl
theorem qf_X12_211 : Cond.fieldLink RX12 211 (TX12 7).1 (TX12 7).2.1 (TX12 7).2.2.1 ∈ lw_ok := mkc5 218 (by decide +kernel) rfl
theorem qf_X12_11 : Cond.fieldLink RX12 11 (TX12 2).1 (TX12 2).2.1 (TX12 2).2.2.1 ∈ lw_ok := mkc5 213 (by decide +kernel) rfl
theorem qf_X12_15 : Cond.fieldLink RX12 15 (TX12 3).1 (TX12 3).2.1 (TX12 3).2.2.1 ∈ lw_ok := mkc5 214 (by decide +kernel) rfl
theorem qf_X12_18 : Cond.fieldLink RX12 18 (TX12 4).1 (TX12 4).2.1 (TX12 4).2.2.1 ∈ lw_ok := mkc5 215 (by decide +kernel) rfl
theorem qf_X12_21 : Cond.fieldLink RX12 21 (TX12 5).1 (TX12 5).2.1 (TX12 5).2.2.1 ∈ lw_ok := mkc5 216 (by decide +kernel) rfl
theorem qm_X12_214 : Cond.methodLink RX12 214 yX12_bitsOf ∈ lw_ok := mkc6 227 (by decide +kernel) rfl
theorem qi_X12_bitsOf : Cond.instanceMethod yX12_bitsOf ∈ lw_ok := mkc6 229 (by decide +kernel) rfl
theorem qs_X12_bitsOf : Cond.selects RX12 yX12_bitsOf yX12_bitsOf ∈ lw_ok := mks 52 (by decide +kernel) rfl
theorem qc_X12_bitsOf : Cond.code yX12_bitsOf cX12_bitsOf 4 (some .int) ∈ lw_ok := mkc6 230 (by decide +kernel) rfl
theorem gv_X12_214 : GoodIn lw_ok (wsV RX12 214 RX12 yX12_bitsOf [Cond.code yX12_bitsOf cX12_bitsOf 4 (some .int)]) := gV qm_X12_214 qi_X12_bitsOf qs_X12_bitsOf qz_X12 qc_X12_bitsOf
theorem hdV_X12_bitsOf : yX12_bitsOf.cls = RX12 ∧ yX12_bitsOf.cls ≠ "java/lang/invoke/MethodHandle" ∧ yX12_bitsOf.cls ≠ "java/lang/invoke/VarHandle" ∧ (parseMethodDescriptor yX12_bitsOf.desc).map (fun d => d.parameters.length) = some 1 := by decide +kernel
theorem qm_X12_217 : Cond.methodLink RX12 217 yX12_loaded ∈ lw_ok := mkc6 231 (by decide +kernel) rfl
theorem qi_X12_loaded : Cond.instanceMethod yX12_loaded ∈ lw_ok := mkc6 233 (by decide +kernel) rfl
theorem qs_X12_loaded : Cond.selects RX12 yX12_loaded yX12_loaded ∈ lw_ok := mks 53 (by decide +kernel) rfl
theorem qc_X12_loaded : Cond.code yX12_loaded cX12_loaded 3 (some .int) ∈ lw_ok := mkc6 234 (by decide +kernel) rfl
theorem gv_X12_217 : GoodIn lw_ok (wsV RX12 217 RX12 yX12_loaded [Cond.code yX12_loaded cX12_loaded 3 (some .int)]) := gV qm_X12_217 qi_X12_loaded qs_X12_loaded qz_X12 qc_X12_loaded
theorem hdV_X12_loaded : yX12_loaded.cls = RX12 ∧ yX12_loaded.cls ≠ "java/lang/invoke/MethodHandle" ∧ yX12_loaded.cls ≠ "java/lang/invoke/VarHandle" ∧ (parseMethodDescriptor yX12_loaded.desc).map (fun d => d.parameters.length) = some 0 := by decide +kernel
theorem qm_X12_220 : Cond.methodLink RX12 220 yX12_isPoint ∈ lw_ok := mkc6 239 (by decide +kernel) rfl
theorem qi_X12_isPoint : Cond.instanceMethod yX12_isPoint ∈ lw_ok := mkc7 1 (by decide +kernel) rfl
theorem qs_X12_isPoint : Cond.selects RX12 yX12_isPoint yX12_isPoint ∈ lw_ok := mks 54 (by decide +kernel) rfl
theorem qc_X12_isPoint : Cond.code yX12_isPoint cX12_isPoint 2 (some .boolean) ∈ lw_ok := mkc7 2 (by decide +kernel) rfl
theorem gv_X12_220 : GoodIn lw_ok (wsV RX12 220 RX12 yX12_isPoint [Cond.code yX12_isPoint cX12_isPoint 2 (some .boolean)]) := gV qm_X12_220 qi_X12_isPoint qs_X12_isPoint qz_X12 qc_X12_isPoint
theorem hdV_X12_isPoint : yX12_isPoint.cls = RX12 ∧ yX12_isPoint.cls ≠ "java/lang/invoke/MethodHandle" ∧ yX12_isPoint.cls ≠ "java/lang/invoke/VarHandle" ∧ (parseMethodDescriptor yX12_isPoint.desc).map (fun d => d.parameters.length) = some 1 := by decide +kernel
theorem qj_X12_225 : Cond.constantLong RX12 225 (-9223372036854775808) ∈ lw_ok := mkc7 4 (by decide +kernel) rfl
theorem qj_X12_223 : Cond.constantLong RX12 223 (3) ∈ lw_ok := mkc7 3 (by decide +kernel) rfl
theorem qf_X12_227 : Cond.fieldLink RX12 227 (TX12 29).1 (TX12 29).2.1 (TX12 29).2.2.1 ∈ lw_ok := mkc6 0 (by decide +kernel) rfl
theorem qf_X12_53 : Cond.fieldLink RX12 53 (TX12 28).1 (TX12 28).2.1 (TX12 28).2.2.1 ∈ lw_ok := mkc5 239 (by decide +kernel) rfl
theorem qm_X12_230 : Cond.methodLink RX12 230 yX12_isBefore ∈ lw_ok := mkc7 25 (by decide +kernel) rfl
theorem qi_X12_isBefore : Cond.instanceMethod yX12_isBefore ∈ lw_ok := mkc7 27 (by decide +kernel) rfl
theorem qs_X12_isBefore : Cond.selects RX12 yX12_isBefore yX12_isBefore ∈ lw_ok := mks 58 (by decide +kernel) rfl
theorem qc_X12_isBefore : Cond.code yX12_isBefore cX12_isBefore 3 (some .boolean) ∈ lw_ok := mkc7 28 (by decide +kernel) rfl
theorem gv_X12_230 : GoodIn lw_ok (wsV RX12 230 RX12 yX12_isBefore [Cond.code yX12_isBefore cX12_isBefore 3 (some .boolean)]) := gV qm_X12_230 qi_X12_isBefore qs_X12_isBefore qz_X12 qc_X12_isBefore
theorem hdV_X12_isBefore : yX12_isBefore.cls = RX12 ∧ yX12_isBefore.cls ≠ "java/lang/invoke/MethodHandle" ∧ yX12_isBefore.cls ≠ "java/lang/invoke/VarHandle" ∧ (parseMethodDescriptor yX12_isBefore.desc).map (fun d => d.parameters.length) = some 2 := by decide +kernel
theorem qm_X12_234 : Cond.methodLink RX12 234 yX12_isSamePlace ∈ lw_ok := mkc7 29 (by decide +kernel) rfl
theorem qi_X12_isSamePlace : Cond.instanceMethod yX12_isSamePlace ∈ lw_ok := mkc7 31 (by decide +kernel) rfl
theorem qs_X12_isSamePlace : Cond.selects RX12 yX12_isSamePlace yX12_isSamePlace ∈ lw_ok := mks 59 (by decide +kernel) rfl
theorem qc_X12_isSamePlace : Cond.code yX12_isSamePlace cX12_isSamePlace 3 (some .boolean) ∈ lw_ok := mkc7 32 (by decide +kernel) rfl
theorem gv_X12_234 : GoodIn lw_ok (wsV RX12 234 RX12 yX12_isSamePlace [Cond.code yX12_isSamePlace cX12_isSamePlace 3 (some .boolean)]) := gV qm_X12_234 qi_X12_isSamePlace qs_X12_isSamePlace qz_X12 qc_X12_isSamePlace
theorem hdV_X12_isSamePlace : yX12_isSamePlace.cls = RX12 ∧ yX12_isSamePlace.cls ≠ "java/lang/invoke/MethodHandle" ∧ yX12_isSamePlace.cls ≠ "java/lang/invoke/VarHandle" ∧ (parseMethodDescriptor yX12_isSamePlace.desc).map (fun d => d.parameters.length) = some 2 := by decide +kernel
theorem qm_X12_237 : Cond.methodLink RX12 237 yX12_laysRow ∈ lw_ok := mkc7 21 (by decide +kernel) rfl
theorem qi_X12_laysRow : Cond.instanceMethod yX12_laysRow ∈ lw_ok := mkc7 23 (by decide +kernel) rfl
theorem qs_X12_laysRow : Cond.selects RX12 yX12_laysRow yX12_laysRow ∈ lw_ok := mks 57 (by decide +kernel) rfl
theorem qc_X12_laysRow : Cond.code yX12_laysRow cX12_laysRow 5 none ∈ lw_ok := mkc7 24 (by decide +kernel) rfl
theorem gv_X12_237 : GoodIn lw_ok (wsV RX12 237 RX12 yX12_laysRow [Cond.code yX12_laysRow cX12_laysRow 5 none]) := gV qm_X12_237 qi_X12_laysRow qs_X12_laysRow qz_X12 qc_X12_laysRow
theorem hdV_X12_laysRow : yX12_laysRow.cls = RX12 ∧ yX12_laysRow.cls ≠ "java/lang/invoke/MethodHandle" ∧ yX12_laysRow.cls ≠ "java/lang/invoke/VarHandle" ∧ (parseMethodDescriptor yX12_laysRow.desc).map (fun d => d.parameters.length) = some 1 := by decide +kernel
theorem qf_X12_47 : Cond.fieldLink RX12 47 (TX12 26).1 (TX12 26).2.1 (TX12 26).2.2.1 ∈ lw_ok := mkc5 237 (by decide +kernel) rfl
theorem qm_X12_240 : Cond.methodLink RX12 240 yX12_turn ∈ lw_ok := mkc7 33 (by decide +kernel) rfl
theorem qi_X12_turn : Cond.instanceMethod yX12_turn ∈ lw_ok := mkc7 35 (by decide +kernel) rfl
theorem qs_X12_turn : Cond.selects RX12 yX12_turn yX12_turn ∈ lw_ok := mks 60 (by decide +kernel) rfl
theorem qc_X12_turn : Cond.code yX12_turn cX12_turn 4 (some .long) ∈ lw_ok := mkc7 36 (by decide +kernel) rfl
theorem gv_X12_240 : GoodIn lw_ok (wsV RX12 240 RX12 yX12_turn [Cond.code yX12_turn cX12_turn 4 (some .long)]) := gV qm_X12_240 qi_X12_turn qs_X12_turn qz_X12 qc_X12_turn
theorem hdV_X12_turn : yX12_turn.cls = RX12 ∧ yX12_turn.cls ≠ "java/lang/invoke/MethodHandle" ∧ yX12_turn.cls ≠ "java/lang/invoke/VarHandle" ∧ (parseMethodDescriptor yX12_turn.desc).map (fun d => d.parameters.length) = some 3 := by decide +kernel
theorem qf_X12_50 : Cond.fieldLink RX12 50 (TX12 27).1 (TX12 27).2.1 (TX12 27).2.2.1 ∈ lw_ok := mkc5 238 (by decide +kernel) rfl
theorem qm_X12_244 : Cond.methodLink RX12 244 yX12_isSet ∈ lw_ok := mkc7 13 (by decide +kernel) rfl
theorem qi_X12_isSet : Cond.instanceMethod yX12_isSet ∈ lw_ok := mkc7 15 (by decide +kernel) rfl
theorem qs_X12_isSet : Cond.selects RX12 yX12_isSet yX12_isSet ∈ lw_ok := mks 55 (by decide +kernel) rfl
theorem qc_X12_isSet : Cond.code yX12_isSet cX12_isSet 2 (some .boolean) ∈ lw_ok := mkc7 16 (by decide +kernel) rfl
theorem gv_X12_244 : GoodIn lw_ok (wsV RX12 244 RX12 yX12_isSet [Cond.code yX12_isSet cX12_isSet 2 (some .boolean)]) := gV qm_X12_244 qi_X12_isSet qs_X12_isSet qz_X12 qc_X12_isSet
theorem hdV_X12_isSet : yX12_isSet.cls = RX12 ∧ yX12_isSet.cls ≠ "java/lang/invoke/MethodHandle" ∧ yX12_isSet.cls ≠ "java/lang/invoke/VarHandle" ∧ (parseMethodDescriptor yX12_isSet.desc).map (fun d => d.parameters.length) = some 1 := by decide +kernel
theorem qm_X12_247 : Cond.methodLink RX12 247 yX12_laysHull ∈ lw_ok := mkc7 17 (by decide +kernel) rfl
theorem qi_X12_laysHull : Cond.instanceMethod yX12_laysHull ∈ lw_ok := mkc7 19 (by decide +kernel) rfl
theorem qs_X12_laysHull : Cond.selects RX12 yX12_laysHull yX12_laysHull ∈ lw_ok := mks 56 (by decide +kernel) rfl
theorem qc_X12_laysHull : Cond.code yX12_laysHull cX12_laysHull 7 none ∈ lw_ok := mkc7 20 (by decide +kernel) rfl
theorem gv_X12_247 : GoodIn lw_ok (wsV RX12 247 RX12 yX12_laysHull [Cond.code yX12_laysHull cX12_laysHull 7 none]) := gV qm_X12_247 qi_X12_laysHull qs_X12_laysHull qz_X12 qc_X12_laysHull
theorem hdV_X12_laysHull : yX12_laysHull.cls = RX12 ∧ yX12_laysHull.cls ≠ "java/lang/invoke/MethodHandle" ∧ yX12_laysHull.cls ≠ "java/lang/invoke/VarHandle" ∧ (parseMethodDescriptor yX12_laysHull.desc).map (fun d => d.parameters.length) = some 2 := by decide +kernel
theorem qm_X12_251 : Cond.methodLink RX12 251 yX12_cornerOf ∈ lw_ok := mkc7 41 (by decide +kernel) rfl
theorem qi_X12_cornerOf : Cond.instanceMethod yX12_cornerOf ∈ lw_ok := mkc7 43 (by decide +kernel) rfl
theorem qs_X12_cornerOf : Cond.selects RX12 yX12_cornerOf yX12_cornerOf ∈ lw_ok := mks 61 (by decide +kernel) rfl
theorem qc_X12_cornerOf : Cond.code yX12_cornerOf cX12_cornerOf 3 (some .int) ∈ lw_ok := mkc7 44 (by decide +kernel) rfl
theorem gv_X12_251 : GoodIn lw_ok (wsV RX12 251 RX12 yX12_cornerOf [Cond.code yX12_cornerOf cX12_cornerOf 3 (some .int)]) := gV qm_X12_251 qi_X12_cornerOf qs_X12_cornerOf qz_X12 qc_X12_cornerOf
theorem hdV_X12_cornerOf : yX12_cornerOf.cls = RX12 ∧ yX12_cornerOf.cls ≠ "java/lang/invoke/MethodHandle" ∧ yX12_cornerOf.cls ≠ "java/lang/invoke/VarHandle" ∧ (parseMethodDescriptor yX12_cornerOf.desc).map (fun d => d.parameters.length) = some 2 := by decide +kernel
theorem qm_X12_254 : Cond.methodLink RX12 254 yX12_twice ∈ lw_ok := mkc7 49 (by decide +kernel) rfl
theorem qi_X12_twice : Cond.instanceMethod yX12_twice ∈ lw_ok := mkc7 51 (by decide +kernel) rfl
theorem qs_X12_twice : Cond.selects RX12 yX12_twice yX12_twice ∈ lw_ok := mks 62 (by decide +kernel) rfl
theorem qc_X12_twice : Cond.code yX12_twice cX12_twice 5 (some .int) ∈ lw_ok := mkc7 52 (by decide +kernel) rfl
theorem gv_X12_254 : GoodIn lw_ok (wsV RX12 254 RX12 yX12_twice [Cond.code yX12_twice cX12_twice 5 (some .int)]) := gV qm_X12_254 qi_X12_twice qs_X12_twice qz_X12 qc_X12_twice
theorem hdV_X12_twice : yX12_twice.cls = RX12 ∧ yX12_twice.cls ≠ "java/lang/invoke/MethodHandle" ∧ yX12_twice.cls ≠ "java/lang/invoke/VarHandle" ∧ (parseMethodDescriptor yX12_twice.desc).map (fun d => d.parameters.length) = some 1 := by decide +kernel
theorem qm_X12_257 : Cond.methodLink RX12 257 yX12_edges ∈ lw_ok := mkc7 57 (by decide +kernel) rfl
theorem qi_X12_edges : Cond.instanceMethod yX12_edges ∈ lw_ok := mkc7 59 (by decide +kernel) rfl
theorem qs_X12_edges : Cond.selects RX12 yX12_edges yX12_edges ∈ lw_ok := mks 63 (by decide +kernel) rfl
theorem qc_X12_edges : Cond.code yX12_edges cX12_edges 2 (some .int) ∈ lw_ok := mkc7 60 (by decide +kernel) rfl
theorem gv_X12_257 : GoodIn lw_ok (wsV RX12 257 RX12 yX12_edges [Cond.code yX12_edges cX12_edges 2 (some .int)]) := gV qm_X12_257 qi_X12_edges qs_X12_edges qz_X12 qc_X12_edges
theorem hdV_X12_edges : yX12_edges.cls = RX12 ∧ yX12_edges.cls ≠ "java/lang/invoke/MethodHandle" ∧ yX12_edges.cls ≠ "java/lang/invoke/VarHandle" ∧ (parseMethodDescriptor yX12_edges.desc).map (fun d => d.parameters.length) = some 1 := by decide +kernel
theorem qm_X12_260 : Cond.methodLink RX12 260 yX12_common ∈ lw_ok := mkc7 61 (by decide +kernel) rfl
theorem qt_X12_common : Cond.static yX12_common ∈ lw_ok := mkc7 62 (by decide +kernel) rfl
theorem qc_X12_common : Cond.code yX12_common cX12_common 10 (some .long) ∈ lw_ok := mkc7 63 (by decide +kernel) rfl
theorem gs_X12_260 : GoodIn lw_ok (va_wsS RX12 260 yX12_common [Cond.code yX12_common cX12_common 10 (some .long)]) := gS qm_X12_260 qt_X12_common qz_X12 qc_X12_common
theorem hdS_X12_common : yX12_common.cls ≠ "java/lang/invoke/MethodHandle" ∧ yX12_common.cls ≠ "java/lang/invoke/VarHandle" ∧ (parseMethodDescriptor yX12_common.desc).map (fun d => d.parameters.length) = some 2 := by decide +kernel
theorem qm_X12_268 : Cond.methodLink RX12 268 Lib.Math.max.name ∈ lw_ok := mkc7 82 (by decide +kernel) rfl
theorem qm_X12_264 : Cond.methodLink RX12 264 yX12_isBetween ∈ lw_ok := mkc7 78 (by decide +kernel) rfl
theorem qi_X12_isBetween : Cond.instanceMethod yX12_isBetween ∈ lw_ok := mkc7 80 (by decide +kernel) rfl
theorem qs_X12_isBetween : Cond.selects RX12 yX12_isBetween yX12_isBetween ∈ lw_ok := mks 65 (by decide +kernel) rfl
theorem qc_X12_isBetween : Cond.code yX12_isBetween cX12_isBetween 9 (some .boolean) ∈ lw_ok := mkc7 81 (by decide +kernel) rfl
theorem gv_X12_264 : GoodIn lw_ok (wsV RX12 264 RX12 yX12_isBetween [Cond.code yX12_isBetween cX12_isBetween 9 (some .boolean)]) := gV qm_X12_264 qi_X12_isBetween qs_X12_isBetween qz_X12 qc_X12_isBetween
theorem hdV_X12_isBetween : yX12_isBetween.cls = RX12 ∧ yX12_isBetween.cls ≠ "java/lang/invoke/MethodHandle" ∧ yX12_isBetween.cls ≠ "java/lang/invoke/VarHandle" ∧ (parseMethodDescriptor yX12_isBetween.desc).map (fun d => d.parameters.length) = some 5 := by decide +kernel
theorem qm_X12_271 : Cond.methodLink RX12 271 yX12_isPlace ∈ lw_ok := mkc7 69 (by decide +kernel) rfl
theorem qt_X12_isPlace : Cond.static yX12_isPlace ∈ lw_ok := mkc7 70 (by decide +kernel) rfl
theorem qc_X12_isPlace : Cond.code yX12_isPlace cX12_isPlace 2 (some .boolean) ∈ lw_ok := mkc7 71 (by decide +kernel) rfl
theorem gs_X12_271 : GoodIn lw_ok (va_wsS RX12 271 yX12_isPlace [Cond.code yX12_isPlace cX12_isPlace 2 (some .boolean)]) := gS qm_X12_271 qt_X12_isPlace qz_X12 qc_X12_isPlace
theorem hdS_X12_isPlace : yX12_isPlace.cls ≠ "java/lang/invoke/MethodHandle" ∧ yX12_isPlace.cls ≠ "java/lang/invoke/VarHandle" ∧ (parseMethodDescriptor yX12_isPlace.desc).map (fun d => d.parameters.length) = some 2 := by decide +kernel
theorem qm_X12_274 : Cond.methodLink RX12 274 yX12_sideOf ∈ lw_ok := mkc7 74 (by decide +kernel) rfl
theorem qi_X12_sideOf : Cond.instanceMethod yX12_sideOf ∈ lw_ok := mkc7 76 (by decide +kernel) rfl
theorem qs_X12_sideOf : Cond.selects RX12 yX12_sideOf yX12_sideOf ∈ lw_ok := mks 64 (by decide +kernel) rfl
theorem qc_X12_sideOf : Cond.code yX12_sideOf cX12_sideOf 14 (some .int) ∈ lw_ok := mkc7 77 (by decide +kernel) rfl
theorem gv_X12_274 : GoodIn lw_ok (wsV RX12 274 RX12 yX12_sideOf [Cond.code yX12_sideOf cX12_sideOf 14 (some .int)]) := gV qm_X12_274 qi_X12_sideOf qs_X12_sideOf qz_X12 qc_X12_sideOf
theorem hdV_X12_sideOf : yX12_sideOf.cls = RX12 ∧ yX12_sideOf.cls ≠ "java/lang/invoke/MethodHandle" ∧ yX12_sideOf.cls ≠ "java/lang/invoke/VarHandle" ∧ (parseMethodDescriptor yX12_sideOf.desc).map (fun d => d.parameters.length) = some 4 := by decide +kernel
theorem qm_X12_278 : Cond.methodLink RX12 278 yX12_holdsSet ∈ lw_ok := mkc7 87 (by decide +kernel) rfl
theorem qi_X12_holdsSet : Cond.instanceMethod yX12_holdsSet ∈ lw_ok := mkc7 89 (by decide +kernel) rfl
theorem qs_X12_holdsSet : Cond.selects RX12 yX12_holdsSet yX12_holdsSet ∈ lw_ok := mks 66 (by decide +kernel) rfl
theorem qc_X12_holdsSet : Cond.code yX12_holdsSet cX12_holdsSet 4 (some .boolean) ∈ lw_ok := mkc7 90 (by decide +kernel) rfl
theorem gv_X12_278 : GoodIn lw_ok (wsV RX12 278 RX12 yX12_holdsSet [Cond.code yX12_holdsSet cX12_holdsSet 4 (some .boolean)]) := gV qm_X12_278 qi_X12_holdsSet qs_X12_holdsSet qz_X12 qc_X12_holdsSet
theorem hdV_X12_holdsSet : yX12_holdsSet.cls = RX12 ∧ yX12_holdsSet.cls ≠ "java/lang/invoke/MethodHandle" ∧ yX12_holdsSet.cls ≠ "java/lang/invoke/VarHandle" ∧ (parseMethodDescriptor yX12_holdsSet.desc).map (fun d => d.parameters.length) = some 3 := by decide +kernel
theorem qf_X12_282 : Cond.fieldLink RX12 282 (TX12 30).1 (TX12 30).2.1 (TX12 30).2.2.1 ∈ lw_ok := mkc6 1 (by decide +kernel) rfl
theorem qf_X12_286 : Cond.fieldLink RX12 286 (TX12 31).1 (TX12 31).2.1 (TX12 31).2.2.1 ∈ lw_ok := mkc6 2 (by decide +kernel) rfl
theorem qf_X12_289 : Cond.fieldLink RX12 289 (TX12 32).1 (TX12 32).2.1 (TX12 32).2.2.1 ∈ lw_ok := mkc6 3 (by decide +kernel) rfl
theorem qf_X12_292 : Cond.fieldLink RX12 292 (TX12 34).1 (TX12 34).2.1 (TX12 34).2.2.1 ∈ lw_ok := mkc6 5 (by decide +kernel) rfl
theorem qf_X12_295 : Cond.fieldLink RX12 295 (TX12 33).1 (TX12 33).2.1 (TX12 33).2.2.1 ∈ lw_ok := mkc6 4 (by decide +kernel) rfl
theorem qm_X12_298 : Cond.methodLink RX12 298 yX12_laysPlace ∈ lw_ok := mkc7 104 (by decide +kernel) rfl
theorem qi_X12_laysPlace : Cond.instanceMethod yX12_laysPlace ∈ lw_ok := mkc7 106 (by decide +kernel) rfl
theorem qs_X12_laysPlace : Cond.selects RX12 yX12_laysPlace yX12_laysPlace ∈ lw_ok := mks 69 (by decide +kernel) rfl
theorem qc_X12_laysPlace : Cond.code yX12_laysPlace cX12_laysPlace 9 none ∈ lw_ok := mkc7 107 (by decide +kernel) rfl
theorem gv_X12_298 : GoodIn lw_ok (wsV RX12 298 RX12 yX12_laysPlace [Cond.code yX12_laysPlace cX12_laysPlace 9 none]) := gV qm_X12_298 qi_X12_laysPlace qs_X12_laysPlace qz_X12 qc_X12_laysPlace
theorem hdV_X12_laysPlace : yX12_laysPlace.cls = RX12 ∧ yX12_laysPlace.cls ≠ "java/lang/invoke/MethodHandle" ∧ yX12_laysPlace.cls ≠ "java/lang/invoke/VarHandle" ∧ (parseMethodDescriptor yX12_laysPlace.desc).map (fun d => d.parameters.length) = some 3 := by decide +kernel
theorem qm_X12_302 : Cond.methodLink RX12 302 yX12_nearer ∈ lw_ok := mkc7 100 (by decide +kernel) rfl
theorem qi_X12_nearer : Cond.instanceMethod yX12_nearer ∈ lw_ok := mkc7 102 (by decide +kernel) rfl
theorem qs_X12_nearer : Cond.selects RX12 yX12_nearer yX12_nearer ∈ lw_ok := mks 68 (by decide +kernel) rfl
theorem qc_X12_nearer : Cond.code yX12_nearer cX12_nearer 17 none ∈ lw_ok := mkc7 103 (by decide +kernel) rfl
theorem gv_X12_302 : GoodIn lw_ok (wsV RX12 302 RX12 yX12_nearer [Cond.code yX12_nearer cX12_nearer 17 none]) := gV qm_X12_302 qi_X12_nearer qs_X12_nearer qz_X12 qc_X12_nearer
theorem hdV_X12_nearer : yX12_nearer.cls = RX12 ∧ yX12_nearer.cls ≠ "java/lang/invoke/MethodHandle" ∧ yX12_nearer.cls ≠ "java/lang/invoke/VarHandle" ∧ (parseMethodDescriptor yX12_nearer.desc).map (fun d => d.parameters.length) = some 3 := by decide +kernel
theorem qj_X12_305 : Cond.constantLong RX12 305 (4) ∈ lw_ok := mkc7 95 (by decide +kernel) rfl
theorem qm_X12_307 : Cond.methodLink RX12 307 yX12_laysNearest ∈ lw_ok := mkc7 96 (by decide +kernel) rfl
theorem qi_X12_laysNearest : Cond.instanceMethod yX12_laysNearest ∈ lw_ok := mkc7 98 (by decide +kernel) rfl
theorem qs_X12_laysNearest : Cond.selects RX12 yX12_laysNearest yX12_laysNearest ∈ lw_ok := mks 67 (by decide +kernel) rfl
theorem qc_X12_laysNearest : Cond.code yX12_laysNearest cX12_laysNearest 12 none ∈ lw_ok := mkc7 99 (by decide +kernel) rfl
theorem gv_X12_307 : GoodIn lw_ok (wsV RX12 307 RX12 yX12_laysNearest [Cond.code yX12_laysNearest cX12_laysNearest 12 none]) := gV qm_X12_307 qi_X12_laysNearest qs_X12_laysNearest qz_X12 qc_X12_laysNearest
theorem hdV_X12_laysNearest : yX12_laysNearest.cls = RX12 ∧ yX12_laysNearest.cls ≠ "java/lang/invoke/MethodHandle" ∧ yX12_laysNearest.cls ≠ "java/lang/invoke/VarHandle" ∧ (parseMethodDescriptor yX12_laysNearest.desc).map (fun d => d.parameters.length) = some 0 := by decide +kernel
theorem qm_X12_310 : Cond.methodLink RX12 310 yX12_toldPlace ∈ lw_ok := mkc7 108 (by decide +kernel) rfl
theorem qi_X12_toldPlace : Cond.instanceMethod yX12_toldPlace ∈ lw_ok := mkc7 110 (by decide +kernel) rfl
theorem qs_X12_toldPlace : Cond.selects RX12 yX12_toldPlace yX12_toldPlace ∈ lw_ok := mks 70 (by decide +kernel) rfl
theorem qc_X12_toldPlace : Cond.code yX12_toldPlace cX12_toldPlace 2 (some .long) ∈ lw_ok := mkc7 111 (by decide +kernel) rfl
theorem gv_X12_310 : GoodIn lw_ok (wsV RX12 310 RX12 yX12_toldPlace [Cond.code yX12_toldPlace cX12_toldPlace 2 (some .long)]) := gV qm_X12_310 qi_X12_toldPlace qs_X12_toldPlace qz_X12 qc_X12_toldPlace
theorem hdV_X12_toldPlace : yX12_toldPlace.cls = RX12 ∧ yX12_toldPlace.cls ≠ "java/lang/invoke/MethodHandle" ∧ yX12_toldPlace.cls ≠ "java/lang/invoke/VarHandle" ∧ (parseMethodDescriptor yX12_toldPlace.desc).map (fun d => d.parameters.length) = some 1 := by decide +kernel
theorem qj_X12_314 : Cond.constantLong RX12 314 (2) ∈ lw_ok := mkc7 116 (by decide +kernel) rfl
theorem qj_X12_316 : Cond.constantLong RX12 316 (9223372036854775807) ∈ lw_ok := mkc7 117 (by decide +kernel) rfl
theorem qm_X12_318 : Cond.methodLink RX12 318 Lib.MathLoose.min_long.x ∈ lw_ok := mkc7 118 (by decide +kernel) rfl
theorem qf_X12_56 : Cond.fieldLink RX12 56 (TX12 35).1 (TX12 35).2.1 (TX12 35).2.2.1 ∈ lw_ok := mkc6 6 (by decide +kernel) rfl
theorem qm_X12_322 : Cond.methodLink RX12 322 yX12_tied ∈ lw_ok := mkc7 128 (by decide +kernel) rfl
theorem qi_X12_tied : Cond.instanceMethod yX12_tied ∈ lw_ok := mkc7 130 (by decide +kernel) rfl
theorem qs_X12_tied : Cond.selects RX12 yX12_tied yX12_tied ∈ lw_ok := mks 72 (by decide +kernel) rfl
theorem qc_X12_tied : Cond.code yX12_tied cX12_tied 15 (some .boolean) ∈ lw_ok := mkc7 131 (by decide +kernel) rfl
theorem gv_X12_322 : GoodIn lw_ok (wsV RX12 322 RX12 yX12_tied [Cond.code yX12_tied cX12_tied 15 (some .boolean)]) := gV qm_X12_322 qi_X12_tied qs_X12_tied qz_X12 qc_X12_tied
theorem hdV_X12_tied : yX12_tied.cls = RX12 ∧ yX12_tied.cls ≠ "java/lang/invoke/MethodHandle" ∧ yX12_tied.cls ≠ "java/lang/invoke/VarHandle" ∧ (parseMethodDescriptor yX12_tied.desc).map (fun d => d.parameters.length) = some 8 := by decide +kernel
theorem qj_X12_320 : Cond.constantLong RX12 320 (-1) ∈ lw_ok := mkc7 127 (by decide +kernel) rfl
theorem qm_X12_326 : Cond.methodLink RX12 326 yX12_tiedOnLine ∈ lw_ok := mkc7 132 (by decide +kernel) rfl
theorem qi_X12_tiedOnLine : Cond.instanceMethod yX12_tiedOnLine ∈ lw_ok := mkc7 134 (by decide +kernel) rfl
theorem qs_X12_tiedOnLine : Cond.selects RX12 yX12_tiedOnLine yX12_tiedOnLine ∈ lw_ok := mks 73 (by decide +kernel) rfl
theorem qc_X12_tiedOnLine : Cond.code yX12_tiedOnLine cX12_tiedOnLine 12 (some .boolean) ∈ lw_ok := mkc7 135 (by decide +kernel) rfl
theorem gv_X12_326 : GoodIn lw_ok (wsV RX12 326 RX12 yX12_tiedOnLine [Cond.code yX12_tiedOnLine cX12_tiedOnLine 12 (some .boolean)]) := gV qm_X12_326 qi_X12_tiedOnLine qs_X12_tiedOnLine qz_X12 qc_X12_tiedOnLine
theorem hdV_X12_tiedOnLine : yX12_tiedOnLine.cls = RX12 ∧ yX12_tiedOnLine.cls ≠ "java/lang/invoke/MethodHandle" ∧ yX12_tiedOnLine.cls ≠ "java/lang/invoke/VarHandle" ∧ (parseMethodDescriptor yX12_tiedOnLine.desc).map (fun d => d.parameters.length) = some 3 := by decide +kernel
theorem qm_X12_329 : Cond.methodLink RX12 329 yX12_laysTie ∈ lw_ok := mkc7 123 (by decide +kernel) rfl
theorem qi_X12_laysTie : Cond.instanceMethod yX12_laysTie ∈ lw_ok := mkc7 125 (by decide +kernel) rfl
theorem qs_X12_laysTie : Cond.selects RX12 yX12_laysTie yX12_laysTie ∈ lw_ok := mks 71 (by decide +kernel) rfl
theorem qc_X12_laysTie : Cond.code yX12_laysTie cX12_laysTie 10 (some .boolean) ∈ lw_ok := mkc7 126 (by decide +kernel) rfl
theorem gv_X12_329 : GoodIn lw_ok (wsV RX12 329 RX12 yX12_laysTie [Cond.code yX12_laysTie cX12_laysTie 10 (some .boolean)]) := gV qm_X12_329 qi_X12_laysTie qs_X12_laysTie qz_X12 qc_X12_laysTie
theorem hdV_X12_laysTie : yX12_laysTie.cls = RX12 ∧ yX12_laysTie.cls ≠ "java/lang/invoke/MethodHandle" ∧ yX12_laysTie.cls ≠ "java/lang/invoke/VarHandle" ∧ (parseMethodDescriptor yX12_laysTie.desc).map (fun d => d.parameters.length) = some 1 := by decide +kernel
theorem qf_X12_332 : Cond.fieldLink RX12 332 (TX12 37).1 (TX12 37).2.1 (TX12 37).2.2.1 ∈ lw_ok := mkc6 8 (by decide +kernel) rfl
theorem qf_X12_335 : Cond.fieldLink RX12 335 (TX12 38).1 (TX12 38).2.1 (TX12 38).2.2.1 ∈ lw_ok := mkc6 9 (by decide +kernel) rfl
theorem qf_X12_60 : Cond.fieldLink RX12 60 (TX12 36).1 (TX12 36).2.1 (TX12 36).2.2.1 ∈ lw_ok := mkc6 7 (by decide +kernel) rfl
theorem qm_X12_338 : Cond.methodLink RX12 338 yJ6_bitCount_0f7a4 ∈ lw_ok := mkc7 148 (by decide +kernel) rfl
theorem gs_X12_338 : GoodIn lw_ok (va_wsS RX12 338 yJ6_bitCount_0f7a4 [Cond.code yJ6_bitCount_0f7a4 cJ6_bitCount_0f7a4 1 (some .int)]) := gS qm_X12_338 qt_J6_bitCount_0f7a4 qz_J6 qc_J6_bitCount_0f7a4
theorem qm_X12_343 : Cond.methodLink RX12 343 yX12_laysWeights ∈ lw_ok := mkc7 149 (by decide +kernel) rfl
theorem qi_X12_laysWeights : Cond.instanceMethod yX12_laysWeights ∈ lw_ok := mkc7 151 (by decide +kernel) rfl
theorem qs_X12_laysWeights : Cond.selects RX12 yX12_laysWeights yX12_laysWeights ∈ lw_ok := mks 74 (by decide +kernel) rfl
theorem qc_X12_laysWeights : Cond.code yX12_laysWeights cX12_laysWeights 2 none ∈ lw_ok := mkc7 152 (by decide +kernel) rfl
theorem gv_X12_343 : GoodIn lw_ok (wsV RX12 343 RX12 yX12_laysWeights [Cond.code yX12_laysWeights cX12_laysWeights 2 none]) := gV qm_X12_343 qi_X12_laysWeights qs_X12_laysWeights qz_X12 qc_X12_laysWeights
theorem hdV_X12_laysWeights : yX12_laysWeights.cls = RX12 ∧ yX12_laysWeights.cls ≠ "java/lang/invoke/MethodHandle" ∧ yX12_laysWeights.cls ≠ "java/lang/invoke/VarHandle" ∧ (parseMethodDescriptor yX12_laysWeights.desc).map (fun d => d.parameters.length) = some 0 := by decide +kernel
theorem qm_X12_346 : Cond.methodLink RX12 346 yX12_reduces ∈ lw_ok := mkc7 153 (by decide +kernel) rfl
theorem qi_X12_reduces : Cond.instanceMethod yX12_reduces ∈ lw_ok := mkc7 155 (by decide +kernel) rfl
theorem qs_X12_reduces : Cond.selects RX12 yX12_reduces yX12_reduces ∈ lw_ok := mks 75 (by decide +kernel) rfl
theorem qc_X12_reduces : Cond.code yX12_reduces cX12_reduces 9 (some .boolean) ∈ lw_ok := mkc7 156 (by decide +kernel) rfl
theorem gv_X12_346 : GoodIn lw_ok (wsV RX12 346 RX12 yX12_reduces [Cond.code yX12_reduces cX12_reduces 9 (some .boolean)]) := gV qm_X12_346 qi_X12_reduces qs_X12_reduces qz_X12 qc_X12_reduces
theorem hdV_X12_reduces : yX12_reduces.cls = RX12 ∧ yX12_reduces.cls ≠ "java/lang/invoke/MethodHandle" ∧ yX12_reduces.cls ≠ "java/lang/invoke/VarHandle" ∧ (parseMethodDescriptor yX12_reduces.desc).map (fun d => d.parameters.length) = some 0 := by decide +kernel
theorem qm_X12_349 : Cond.methodLink RX12 349 yX12_laysSteps ∈ lw_ok := mkc7 161 (by decide +kernel) rfl
theorem qi_X12_laysSteps : Cond.instanceMethod yX12_laysSteps ∈ lw_ok := mkc7 163 (by decide +kernel) rfl
theorem qs_X12_laysSteps : Cond.selects RX12 yX12_laysSteps yX12_laysSteps ∈ lw_ok := mks 76 (by decide +kernel) rfl
theorem qc_X12_laysSteps : Cond.code yX12_laysSteps cX12_laysSteps 3 (some .boolean) ∈ lw_ok := mkc7 164 (by decide +kernel) rfl
theorem gv_X12_349 : GoodIn lw_ok (wsV RX12 349 RX12 yX12_laysSteps [Cond.code yX12_laysSteps cX12_laysSteps 3 (some .boolean)]) := gV qm_X12_349 qi_X12_laysSteps qs_X12_laysSteps qz_X12 qc_X12_laysSteps
theorem hdV_X12_laysSteps : yX12_laysSteps.cls = RX12 ∧ yX12_laysSteps.cls ≠ "java/lang/invoke/MethodHandle" ∧ yX12_laysSteps.cls ≠ "java/lang/invoke/VarHandle" ∧ (parseMethodDescriptor yX12_laysSteps.desc).map (fun d => d.parameters.length) = some 1 := by decide +kernel
theorem qf_X12_352 : Cond.fieldLink RX12 352 (TX12 40).1 (TX12 40).2.1 (TX12 40).2.2.1 ∈ lw_ok := mkc6 11 (by decide +kernel) rfl
theorem qm_X12_355 : Cond.methodLink RX12 355 yX12_isRainbow ∈ lw_ok := mkc7 177 (by decide +kernel) rfl
theorem qi_X12_isRainbow : Cond.instanceMethod yX12_isRainbow ∈ lw_ok := mkc7 179 (by decide +kernel) rfl
theorem qs_X12_isRainbow : Cond.selects RX12 yX12_isRainbow yX12_isRainbow ∈ lw_ok := mks 78 (by decide +kernel) rfl
theorem qc_X12_isRainbow : Cond.code yX12_isRainbow cX12_isRainbow 4 (some .boolean) ∈ lw_ok := mkc7 180 (by decide +kernel) rfl
theorem gv_X12_355 : GoodIn lw_ok (wsV RX12 355 RX12 yX12_isRainbow [Cond.code yX12_isRainbow cX12_isRainbow 4 (some .boolean)]) := gV qm_X12_355 qi_X12_isRainbow qs_X12_isRainbow qz_X12 qc_X12_isRainbow
theorem hdV_X12_isRainbow : yX12_isRainbow.cls = RX12 ∧ yX12_isRainbow.cls ≠ "java/lang/invoke/MethodHandle" ∧ yX12_isRainbow.cls ≠ "java/lang/invoke/VarHandle" ∧ (parseMethodDescriptor yX12_isRainbow.desc).map (fun d => d.parameters.length) = some 3 := by decide +kernel
theorem qf_X12_63 : Cond.fieldLink RX12 63 (TX12 39).1 (TX12 39).2.1 (TX12 39).2.2.1 ∈ lw_ok := mkc6 10 (by decide +kernel) rfl
theorem qm_X12_358 : Cond.methodLink RX12 358 yX12_three ∈ lw_ok := mkc7 181 (by decide +kernel) rfl
theorem qt_X12_three : Cond.static yX12_three ∈ lw_ok := mkc7 182 (by decide +kernel) rfl
theorem qc_X12_three : Cond.code yX12_three cX12_three 3 (some .int) ∈ lw_ok := mkc7 183 (by decide +kernel) rfl
theorem gs_X12_358 : GoodIn lw_ok (va_wsS RX12 358 yX12_three [Cond.code yX12_three cX12_three 3 (some .int)]) := gS qm_X12_358 qt_X12_three qz_X12 qc_X12_three
theorem hdS_X12_three : yX12_three.cls ≠ "java/lang/invoke/MethodHandle" ∧ yX12_three.cls ≠ "java/lang/invoke/VarHandle" ∧ (parseMethodDescriptor yX12_three.desc).map (fun d => d.parameters.length) = some 3 := by decide +kernel
theorem qm_X12_362 : Cond.methodLink RX12 362 yX12_laysRainbows ∈ lw_ok := mkc7 173 (by decide +kernel) rfl
theorem qi_X12_laysRainbows : Cond.instanceMethod yX12_laysRainbows ∈ lw_ok := mkc7 175 (by decide +kernel) rfl
theorem qs_X12_laysRainbows : Cond.selects RX12 yX12_laysRainbows yX12_laysRainbows ∈ lw_ok := mks 77 (by decide +kernel) rfl
theorem qc_X12_laysRainbows : Cond.code yX12_laysRainbows cX12_laysRainbows 7 none ∈ lw_ok := mkc7 176 (by decide +kernel) rfl
theorem gv_X12_362 : GoodIn lw_ok (wsV RX12 362 RX12 yX12_laysRainbows [Cond.code yX12_laysRainbows cX12_laysRainbows 7 none]) := gV qm_X12_362 qi_X12_laysRainbows qs_X12_laysRainbows qz_X12 qc_X12_laysRainbows
theorem hdV_X12_laysRainbows : yX12_laysRainbows.cls = RX12 ∧ yX12_laysRainbows.cls ≠ "java/lang/invoke/MethodHandle" ∧ yX12_laysRainbows.cls ≠ "java/lang/invoke/VarHandle" ∧ (parseMethodDescriptor yX12_laysRainbows.desc).map (fun d => d.parameters.length) = some 3 := by decide +kernel
theorem qf_X12_69 : Cond.fieldLink RX12 69 (TX12 42).1 (TX12 42).2.1 (TX12 42).2.2.1 ∈ lw_ok := mkc6 13 (by decide +kernel) rfl
theorem qf_X12_66 : Cond.fieldLink RX12 66 (TX12 41).1 (TX12 41).2.1 (TX12 41).2.2.1 ∈ lw_ok := mkc6 12 (by decide +kernel) rfl
theorem qm_X12_366 : Cond.methodLink RX12 366 yX12_turnAt ∈ lw_ok := mkc7 200 (by decide +kernel) rfl
theorem qi_X12_turnAt : Cond.instanceMethod yX12_turnAt ∈ lw_ok := mkc7 202 (by decide +kernel) rfl
theorem qs_X12_turnAt : Cond.selects RX12 yX12_turnAt yX12_turnAt ∈ lw_ok := mks 81 (by decide +kernel) rfl
theorem qc_X12_turnAt : Cond.code yX12_turnAt cX12_turnAt 3 (some .long) ∈ lw_ok := mkc7 203 (by decide +kernel) rfl
theorem gv_X12_366 : GoodIn lw_ok (wsV RX12 366 RX12 yX12_turnAt [Cond.code yX12_turnAt cX12_turnAt 3 (some .long)]) := gV qm_X12_366 qi_X12_turnAt qs_X12_turnAt qz_X12 qc_X12_turnAt
theorem hdV_X12_turnAt : yX12_turnAt.cls = RX12 ∧ yX12_turnAt.cls ≠ "java/lang/invoke/MethodHandle" ∧ yX12_turnAt.cls ≠ "java/lang/invoke/VarHandle" ∧ (parseMethodDescriptor yX12_turnAt.desc).map (fun d => d.parameters.length) = some 2 := by decide +kernel
theorem qm_X12_373 : Cond.methodLink RX12 373 yX12_mixesAll ∈ lw_ok := mkc7 196 (by decide +kernel) rfl
theorem qi_X12_mixesAll : Cond.instanceMethod yX12_mixesAll ∈ lw_ok := mkc7 198 (by decide +kernel) rfl
theorem qs_X12_mixesAll : Cond.selects RX12 yX12_mixesAll yX12_mixesAll ∈ lw_ok := mks 80 (by decide +kernel) rfl
theorem qc_X12_mixesAll : Cond.code yX12_mixesAll cX12_mixesAll 1 none ∈ lw_ok := mkc7 199 (by decide +kernel) rfl
theorem gv_X12_373 : GoodIn lw_ok (wsV RX12 373 RX12 yX12_mixesAll [Cond.code yX12_mixesAll cX12_mixesAll 1 none]) := gV qm_X12_373 qi_X12_mixesAll qs_X12_mixesAll qz_X12 qc_X12_mixesAll
theorem hdV_X12_mixesAll : yX12_mixesAll.cls = RX12 ∧ yX12_mixesAll.cls ≠ "java/lang/invoke/MethodHandle" ∧ yX12_mixesAll.cls ≠ "java/lang/invoke/VarHandle" ∧ (parseMethodDescriptor yX12_mixesAll.desc).map (fun d => d.parameters.length) = some 0 := by decide +kernel
theorem qm_X12_370 : Cond.methodLink RX12 370 yX12_mixesTwo ∈ lw_ok := mkc7 192 (by decide +kernel) rfl
theorem qi_X12_mixesTwo : Cond.instanceMethod yX12_mixesTwo ∈ lw_ok := mkc7 194 (by decide +kernel) rfl
theorem qs_X12_mixesTwo : Cond.selects RX12 yX12_mixesTwo yX12_mixesTwo ∈ lw_ok := mks 79 (by decide +kernel) rfl
theorem qc_X12_mixesTwo : Cond.code yX12_mixesTwo cX12_mixesTwo 13 (some .boolean) ∈ lw_ok := mkc7 195 (by decide +kernel) rfl
theorem gv_X12_370 : GoodIn lw_ok (wsV RX12 370 RX12 yX12_mixesTwo [Cond.code yX12_mixesTwo cX12_mixesTwo 13 (some .boolean)]) := gV qm_X12_370 qi_X12_mixesTwo qs_X12_mixesTwo qz_X12 qc_X12_mixesTwo
theorem hdV_X12_mixesTwo : yX12_mixesTwo.cls = RX12 ∧ yX12_mixesTwo.cls ≠ "java/lang/invoke/MethodHandle" ∧ yX12_mixesTwo.cls ≠ "java/lang/invoke/VarHandle" ∧ (parseMethodDescriptor yX12_mixesTwo.desc).map (fun d => d.parameters.length) = some 2 := by decide +kernel
theorem qm_X12_376 : Cond.methodLink RX12 376 yX12_isFace ∈ lw_ok := mkc7 228 (by decide +kernel) rfl
theorem qi_X12_isFace : Cond.instanceMethod yX12_isFace ∈ lw_ok := mkc7 230 (by decide +kernel) rfl
theorem qs_X12_isFace : Cond.selects RX12 yX12_isFace yX12_isFace ∈ lw_ok := mks 87 (by decide +kernel) rfl
theorem qc_X12_isFace : Cond.code yX12_isFace cX12_isFace 3 (some .boolean) ∈ lw_ok := mkc7 231 (by decide +kernel) rfl
theorem gv_X12_376 : GoodIn lw_ok (wsV RX12 376 RX12 yX12_isFace [Cond.code yX12_isFace cX12_isFace 3 (some .boolean)]) := gV qm_X12_376 qi_X12_isFace qs_X12_isFace qz_X12 qc_X12_isFace
theorem hdV_X12_isFace : yX12_isFace.cls = RX12 ∧ yX12_isFace.cls ≠ "java/lang/invoke/MethodHandle" ∧ yX12_isFace.cls ≠ "java/lang/invoke/VarHandle" ∧ (parseMethodDescriptor yX12_isFace.desc).map (fun d => d.parameters.length) = some 2 := by decide +kernel
theorem qf_X12_379 : Cond.fieldLink RX12 379 (TX12 44).1 (TX12 44).2.1 (TX12 44).2.2.1 ∈ lw_ok := mkc6 15 (by decide +kernel) rfl
theorem qm_X12_382 : Cond.methodLink RX12 382 yX12_laysTrioNearest ∈ lw_ok := mkc7 220 (by decide +kernel) rfl
theorem qi_X12_laysTrioNearest : Cond.instanceMethod yX12_laysTrioNearest ∈ lw_ok := mkc7 222 (by decide +kernel) rfl
theorem qs_X12_laysTrioNearest : Cond.selects RX12 yX12_laysTrioNearest yX12_laysTrioNearest ∈ lw_ok := mks 85 (by decide +kernel) rfl
theorem qc_X12_laysTrioNearest : Cond.code yX12_laysTrioNearest cX12_laysTrioNearest 1 (some .boolean) ∈ lw_ok := mkc7 223 (by decide +kernel) rfl
theorem gv_X12_382 : GoodIn lw_ok (wsV RX12 382 RX12 yX12_laysTrioNearest [Cond.code yX12_laysTrioNearest cX12_laysTrioNearest 1 (some .boolean)]) := gV qm_X12_382 qi_X12_laysTrioNearest qs_X12_laysTrioNearest qz_X12 qc_X12_laysTrioNearest
theorem hdV_X12_laysTrioNearest : yX12_laysTrioNearest.cls = RX12 ∧ yX12_laysTrioNearest.cls ≠ "java/lang/invoke/MethodHandle" ∧ yX12_laysTrioNearest.cls ≠ "java/lang/invoke/VarHandle" ∧ (parseMethodDescriptor yX12_laysTrioNearest.desc).map (fun d => d.parameters.length) = some 0 := by decide +kernel
theorem qm_X12_385 : Cond.methodLink RX12 385 yX12_goesColour ∈ lw_ok := mkc7 224 (by decide +kernel) rfl
theorem qi_X12_goesColour : Cond.instanceMethod yX12_goesColour ∈ lw_ok := mkc7 226 (by decide +kernel) rfl
theorem qs_X12_goesColour : Cond.selects RX12 yX12_goesColour yX12_goesColour ∈ lw_ok := mks 86 (by decide +kernel) rfl
theorem qc_X12_goesColour : Cond.code yX12_goesColour cX12_goesColour 2 (some .int) ∈ lw_ok := mkc7 227 (by decide +kernel) rfl
theorem gv_X12_385 : GoodIn lw_ok (wsV RX12 385 RX12 yX12_goesColour [Cond.code yX12_goesColour cX12_goesColour 2 (some .int)]) := gV qm_X12_385 qi_X12_goesColour qs_X12_goesColour qz_X12 qc_X12_goesColour
theorem hdV_X12_goesColour : yX12_goesColour.cls = RX12 ∧ yX12_goesColour.cls ≠ "java/lang/invoke/MethodHandle" ∧ yX12_goesColour.cls ≠ "java/lang/invoke/VarHandle" ∧ (parseMethodDescriptor yX12_goesColour.desc).map (fun d => d.parameters.length) = some 0 := by decide +kernel
theorem qf_X12_388 : Cond.fieldLink RX12 388 (TX12 43).1 (TX12 43).2.1 (TX12 43).2.2.1 ∈ lw_ok := mkc6 14 (by decide +kernel) rfl
theorem qm_X12_391 : Cond.methodLink RX12 391 yX12_swaps ∈ lw_ok := mkc7 216 (by decide +kernel) rfl
theorem qi_X12_swaps : Cond.instanceMethod yX12_swaps ∈ lw_ok := mkc7 218 (by decide +kernel) rfl
theorem qs_X12_swaps : Cond.selects RX12 yX12_swaps yX12_swaps ∈ lw_ok := mks 84 (by decide +kernel) rfl
theorem qc_X12_swaps : Cond.code yX12_swaps cX12_swaps 12 (some .boolean) ∈ lw_ok := mkc7 219 (by decide +kernel) rfl
theorem gv_X12_391 : GoodIn lw_ok (wsV RX12 391 RX12 yX12_swaps [Cond.code yX12_swaps cX12_swaps 12 (some .boolean)]) := gV qm_X12_391 qi_X12_swaps qs_X12_swaps qz_X12 qc_X12_swaps
theorem hdV_X12_swaps : yX12_swaps.cls = RX12 ∧ yX12_swaps.cls ≠ "java/lang/invoke/MethodHandle" ∧ yX12_swaps.cls ≠ "java/lang/invoke/VarHandle" ∧ (parseMethodDescriptor yX12_swaps.desc).map (fun d => d.parameters.length) = some 0 := by decide +kernel
theorem qm_X12_394 : Cond.methodLink RX12 394 yX12_startsWith ∈ lw_ok := mkc7 208 (by decide +kernel) rfl
theorem qi_X12_startsWith : Cond.instanceMethod yX12_startsWith ∈ lw_ok := mkc7 210 (by decide +kernel) rfl
theorem qs_X12_startsWith : Cond.selects RX12 yX12_startsWith yX12_startsWith ∈ lw_ok := mks 82 (by decide +kernel) rfl
theorem qc_X12_startsWith : Cond.code yX12_startsWith cX12_startsWith 4 none ∈ lw_ok := mkc7 211 (by decide +kernel) rfl
theorem gv_X12_394 : GoodIn lw_ok (wsV RX12 394 RX12 yX12_startsWith [Cond.code yX12_startsWith cX12_startsWith 4 none]) := gV qm_X12_394 qi_X12_startsWith qs_X12_startsWith qz_X12 qc_X12_startsWith
theorem hdV_X12_startsWith : yX12_startsWith.cls = RX12 ∧ yX12_startsWith.cls ≠ "java/lang/invoke/MethodHandle" ∧ yX12_startsWith.cls ≠ "java/lang/invoke/VarHandle" ∧ (parseMethodDescriptor yX12_startsWith.desc).map (fun d => d.parameters.length) = some 3 := by decide +kernel
theorem qm_X12_398 : Cond.methodLink RX12 398 yX12_exchangesAll ∈ lw_ok := mkc7 212 (by decide +kernel) rfl
theorem qi_X12_exchangesAll : Cond.instanceMethod yX12_exchangesAll ∈ lw_ok := mkc7 214 (by decide +kernel) rfl
theorem qs_X12_exchangesAll : Cond.selects RX12 yX12_exchangesAll yX12_exchangesAll ∈ lw_ok := mks 83 (by decide +kernel) rfl
theorem qc_X12_exchangesAll : Cond.code yX12_exchangesAll cX12_exchangesAll 2 (some .int) ∈ lw_ok := mkc7 215 (by decide +kernel) rfl
theorem gv_X12_398 : GoodIn lw_ok (wsV RX12 398 RX12 yX12_exchangesAll [Cond.code yX12_exchangesAll cX12_exchangesAll 2 (some .int)]) := gV qm_X12_398 qi_X12_exchangesAll qs_X12_exchangesAll qz_X12 qc_X12_exchangesAll
theorem hdV_X12_exchangesAll : yX12_exchangesAll.cls = RX12 ∧ yX12_exchangesAll.cls ≠ "java/lang/invoke/MethodHandle" ∧ yX12_exchangesAll.cls ≠ "java/lang/invoke/VarHandle" ∧ (parseMethodDescriptor yX12_exchangesAll.desc).map (fun d => d.parameters.length) = some 0 := by decide +kernel
theorem qm_X12_401 : Cond.methodLink RX12 401 yX12_laysExchanged ∈ lw_ok := mkc7 236 (by decide +kernel) rfl
theorem qi_X12_laysExchanged : Cond.instanceMethod yX12_laysExchanged ∈ lw_ok := mkc7 238 (by decide +kernel) rfl
theorem qs_X12_laysExchanged : Cond.selects RX12 yX12_laysExchanged yX12_laysExchanged ∈ lw_ok := mks 88 (by decide +kernel) rfl
theorem qc_X12_laysExchanged : Cond.code yX12_laysExchanged cX12_laysExchanged 6 (some .boolean) ∈ lw_ok := mkc7 239 (by decide +kernel) rfl
theorem gv_X12_401 : GoodIn lw_ok (wsV RX12 401 RX12 yX12_laysExchanged [Cond.code yX12_laysExchanged cX12_laysExchanged 6 (some .boolean)]) := gV qm_X12_401 qi_X12_laysExchanged qs_X12_laysExchanged qz_X12 qc_X12_laysExchanged
theorem hdV_X12_laysExchanged : yX12_laysExchanged.cls = RX12 ∧ yX12_laysExchanged.cls ≠ "java/lang/invoke/MethodHandle" ∧ yX12_laysExchanged.cls ≠ "java/lang/invoke/VarHandle" ∧ (parseMethodDescriptor yX12_laysExchanged.desc).map (fun d => d.parameters.length) = some 4 := by decide +kernel
theorem qf_X12_405 : Cond.fieldLink RX12 405 (TX12 46).1 (TX12 46).2.1 (TX12 46).2.2.1 ∈ lw_ok := mkc6 17 (by decide +kernel) rfl
theorem qf_X12_408 : Cond.fieldLink RX12 408 (TX12 45).1 (TX12 45).2.1 (TX12 45).2.2.1 ∈ lw_ok := mkc6 16 (by decide +kernel) rfl
theorem qm_X12_411 : Cond.methodLink RX12 411 yX12_tries ∈ lw_ok := mkc8 20 (by decide +kernel) rfl
theorem qi_X12_tries : Cond.instanceMethod yX12_tries ∈ lw_ok := mkc8 22 (by decide +kernel) rfl
theorem qs_X12_tries : Cond.selects RX12 yX12_tries yX12_tries ∈ lw_ok := mks 91 (by decide +kernel) rfl
theorem qc_X12_tries : Cond.code yX12_tries cX12_tries 8 none ∈ lw_ok := mkc8 23 (by decide +kernel) rfl
theorem gv_X12_411 : GoodIn lw_ok (wsV RX12 411 RX12 yX12_tries [Cond.code yX12_tries cX12_tries 8 none]) := gV qm_X12_411 qi_X12_tries qs_X12_tries qz_X12 qc_X12_tries
theorem hdV_X12_tries : yX12_tries.cls = RX12 ∧ yX12_tries.cls ≠ "java/lang/invoke/MethodHandle" ∧ yX12_tries.cls ≠ "java/lang/invoke/VarHandle" ∧ (parseMethodDescriptor yX12_tries.desc).map (fun d => d.parameters.length) = some 3 := by decide +kernel
theorem qm_X12_414 : Cond.methodLink RX12 414 yX12_triesEdges ∈ lw_ok := mkc8 24 (by decide +kernel) rfl
theorem qi_X12_triesEdges : Cond.instanceMethod yX12_triesEdges ∈ lw_ok := mkc8 26 (by decide +kernel) rfl
theorem qs_X12_triesEdges : Cond.selects RX12 yX12_triesEdges yX12_triesEdges ∈ lw_ok := mks 92 (by decide +kernel) rfl
theorem qc_X12_triesEdges : Cond.code yX12_triesEdges cX12_triesEdges 23 none ∈ lw_ok := mkc8 27 (by decide +kernel) rfl
theorem gv_X12_414 : GoodIn lw_ok (wsV RX12 414 RX12 yX12_triesEdges [Cond.code yX12_triesEdges cX12_triesEdges 23 none]) := gV qm_X12_414 qi_X12_triesEdges qs_X12_triesEdges qz_X12 qc_X12_triesEdges
theorem hdV_X12_triesEdges : yX12_triesEdges.cls = RX12 ∧ yX12_triesEdges.cls ≠ "java/lang/invoke/MethodHandle" ∧ yX12_triesEdges.cls ≠ "java/lang/invoke/VarHandle" ∧ (parseMethodDescriptor yX12_triesEdges.desc).map (fun d => d.parameters.length) = some 4 := by decide +kernel
theorem qm_X12_418 : Cond.methodLink RX12 418 yX12_laysMeeting ∈ lw_ok := mkc8 16 (by decide +kernel) rfl
theorem qi_X12_laysMeeting : Cond.instanceMethod yX12_laysMeeting ∈ lw_ok := mkc8 18 (by decide +kernel) rfl
theorem qs_X12_laysMeeting : Cond.selects RX12 yX12_laysMeeting yX12_laysMeeting ∈ lw_ok := mks 90 (by decide +kernel) rfl
theorem qc_X12_laysMeeting : Cond.code yX12_laysMeeting cX12_laysMeeting 6 (some .boolean) ∈ lw_ok := mkc8 19 (by decide +kernel) rfl
theorem gv_X12_418 : GoodIn lw_ok (wsV RX12 418 RX12 yX12_laysMeeting [Cond.code yX12_laysMeeting cX12_laysMeeting 6 (some .boolean)]) := gV qm_X12_418 qi_X12_laysMeeting qs_X12_laysMeeting qz_X12 qc_X12_laysMeeting
theorem hdV_X12_laysMeeting : yX12_laysMeeting.cls = RX12 ∧ yX12_laysMeeting.cls ≠ "java/lang/invoke/MethodHandle" ∧ yX12_laysMeeting.cls ≠ "java/lang/invoke/VarHandle" ∧ (parseMethodDescriptor yX12_laysMeeting.desc).map (fun d => d.parameters.length) = some 1 := by decide +kernel
theorem qm_X12_421 : Cond.methodLink RX12 421 yX12_meetsSets ∈ lw_ok := mkc8 12 (by decide +kernel) rfl
theorem qi_X12_meetsSets : Cond.instanceMethod yX12_meetsSets ∈ lw_ok := mkc8 14 (by decide +kernel) rfl
theorem qs_X12_meetsSets : Cond.selects RX12 yX12_meetsSets yX12_meetsSets ∈ lw_ok := mks 89 (by decide +kernel) rfl
theorem qc_X12_meetsSets : Cond.code yX12_meetsSets cX12_meetsSets 3 (some .boolean) ∈ lw_ok := mkc8 15 (by decide +kernel) rfl
theorem gv_X12_421 : GoodIn lw_ok (wsV RX12 421 RX12 yX12_meetsSets [Cond.code yX12_meetsSets cX12_meetsSets 3 (some .boolean)]) := gV qm_X12_421 qi_X12_meetsSets qs_X12_meetsSets qz_X12 qc_X12_meetsSets
theorem hdV_X12_meetsSets : yX12_meetsSets.cls = RX12 ∧ yX12_meetsSets.cls ≠ "java/lang/invoke/MethodHandle" ∧ yX12_meetsSets.cls ≠ "java/lang/invoke/VarHandle" ∧ (parseMethodDescriptor yX12_meetsSets.desc).map (fun d => d.parameters.length) = some 2 := by decide +kernel
theorem qf_X12_424 : Cond.fieldLink RX12 424 (TX12 47).1 (TX12 47).2.1 (TX12 47).2.2.1 ∈ lw_ok := mkc6 18 (by decide +kernel) rfl
theorem qf_X12_427 : Cond.fieldLink RX12 427 (TX12 48).1 (TX12 48).2.1 (TX12 48).2.2.1 ∈ lw_ok := mkc6 19 (by decide +kernel) rfl
theorem qm_X12_430 : Cond.methodLink RX12 430 yX12_triesWay ∈ lw_ok := mkc8 40 (by decide +kernel) rfl
theorem qi_X12_triesWay : Cond.instanceMethod yX12_triesWay ∈ lw_ok := mkc8 42 (by decide +kernel) rfl
theorem qs_X12_triesWay : Cond.selects RX12 yX12_triesWay yX12_triesWay ∈ lw_ok := mks 94 (by decide +kernel) rfl
theorem qc_X12_triesWay : Cond.code yX12_triesWay cX12_triesWay 15 none ∈ lw_ok := mkc8 43 (by decide +kernel) rfl
theorem gv_X12_430 : GoodIn lw_ok (wsV RX12 430 RX12 yX12_triesWay [Cond.code yX12_triesWay cX12_triesWay 15 none]) := gV qm_X12_430 qi_X12_triesWay qs_X12_triesWay qz_X12 qc_X12_triesWay
theorem hdV_X12_triesWay : yX12_triesWay.cls = RX12 ∧ yX12_triesWay.cls ≠ "java/lang/invoke/MethodHandle" ∧ yX12_triesWay.cls ≠ "java/lang/invoke/VarHandle" ∧ (parseMethodDescriptor yX12_triesWay.desc).map (fun d => d.parameters.length) = some 3 := by decide +kernel
theorem qm_X12_433 : Cond.methodLink RX12 433 yX12_laysWays ∈ lw_ok := mkc8 36 (by decide +kernel) rfl
theorem qi_X12_laysWays : Cond.instanceMethod yX12_laysWays ∈ lw_ok := mkc8 38 (by decide +kernel) rfl
theorem qs_X12_laysWays : Cond.selects RX12 yX12_laysWays yX12_laysWays ∈ lw_ok := mks 93 (by decide +kernel) rfl
theorem qc_X12_laysWays : Cond.code yX12_laysWays cX12_laysWays 18 none ∈ lw_ok := mkc8 39 (by decide +kernel) rfl
theorem gv_X12_433 : GoodIn lw_ok (wsV RX12 433 RX12 yX12_laysWays [Cond.code yX12_laysWays cX12_laysWays 18 none]) := gV qm_X12_433 qi_X12_laysWays qs_X12_laysWays qz_X12 qc_X12_laysWays
theorem hdV_X12_laysWays : yX12_laysWays.cls = RX12 ∧ yX12_laysWays.cls ≠ "java/lang/invoke/MethodHandle" ∧ yX12_laysWays.cls ≠ "java/lang/invoke/VarHandle" ∧ (parseMethodDescriptor yX12_laysWays.desc).map (fun d => d.parameters.length) = some 3 := by decide +kernel
theorem qf_X12_78 : Cond.fieldLink RX12 78 (TX12 52).1 (TX12 52).2.1 (TX12 52).2.2.1 ∈ lw_ok := mkc6 23 (by decide +kernel) rfl
theorem qf_X12_437 : Cond.fieldLink RX12 437 (TX12 51).1 (TX12 51).2.1 (TX12 51).2.2.1 ∈ lw_ok := mkc6 22 (by decide +kernel) rfl
theorem qf_X12_72 : Cond.fieldLink RX12 72 (TX12 49).1 (TX12 49).2.1 (TX12 49).2.2.1 ∈ lw_ok := mkc6 20 (by decide +kernel) rfl
theorem qf_X12_75 : Cond.fieldLink RX12 75 (TX12 50).1 (TX12 50).2.1 (TX12 50).2.2.1 ∈ lw_ok := mkc6 21 (by decide +kernel) rfl
theorem qm_X12_449 : Cond.methodLink RX12 449 yX12_goesOn ∈ lw_ok := mkc8 56 (by decide +kernel) rfl
theorem qi_X12_goesOn : Cond.instanceMethod yX12_goesOn ∈ lw_ok := mkc8 58 (by decide +kernel) rfl
theorem qs_X12_goesOn : Cond.selects RX12 yX12_goesOn yX12_goesOn ∈ lw_ok := mks 97 (by decide +kernel) rfl
theorem qc_X12_goesOn : Cond.code yX12_goesOn cX12_goesOn 6 (some .boolean) ∈ lw_ok := mkc8 59 (by decide +kernel) rfl
theorem gv_X12_449 : GoodIn lw_ok (wsV RX12 449 RX12 yX12_goesOn [Cond.code yX12_goesOn cX12_goesOn 6 (some .boolean)]) := gV qm_X12_449 qi_X12_goesOn qs_X12_goesOn qz_X12 qc_X12_goesOn
theorem hdV_X12_goesOn : yX12_goesOn.cls = RX12 ∧ yX12_goesOn.cls ≠ "java/lang/invoke/MethodHandle" ∧ yX12_goesOn.cls ≠ "java/lang/invoke/VarHandle" ∧ (parseMethodDescriptor yX12_goesOn.desc).map (fun d => d.parameters.length) = some 4 := by decide +kernel
theorem qf_X12_440 : Cond.fieldLink RX12 440 (TX12 53).1 (TX12 53).2.1 (TX12 53).2.2.1 ∈ lw_ok := mkc6 24 (by decide +kernel) rfl
theorem qm_X12_443 : Cond.methodLink RX12 443 yX12_isMetParting ∈ lw_ok := mkc8 60 (by decide +kernel) rfl
theorem qi_X12_isMetParting : Cond.instanceMethod yX12_isMetParting ∈ lw_ok := mkc8 62 (by decide +kernel) rfl
theorem qs_X12_isMetParting : Cond.selects RX12 yX12_isMetParting yX12_isMetParting ∈ lw_ok := mks 98 (by decide +kernel) rfl
theorem qc_X12_isMetParting : Cond.code yX12_isMetParting cX12_isMetParting 3 (some .boolean) ∈ lw_ok := mkc8 63 (by decide +kernel) rfl
theorem gv_X12_443 : GoodIn lw_ok (wsV RX12 443 RX12 yX12_isMetParting [Cond.code yX12_isMetParting cX12_isMetParting 3 (some .boolean)]) := gV qm_X12_443 qi_X12_isMetParting qs_X12_isMetParting qz_X12 qc_X12_isMetParting
theorem hdV_X12_isMetParting : yX12_isMetParting.cls = RX12 ∧ yX12_isMetParting.cls ≠ "java/lang/invoke/MethodHandle" ∧ yX12_isMetParting.cls ≠ "java/lang/invoke/VarHandle" ∧ (parseMethodDescriptor yX12_isMetParting.desc).map (fun d => d.parameters.length) = some 1 := by decide +kernel
theorem qf_X12_446 : Cond.fieldLink RX12 446 (TX12 54).1 (TX12 54).2.1 (TX12 54).2.2.1 ∈ lw_ok := mkc6 25 (by decide +kernel) rfl
theorem qm_X12_452 : Cond.methodLink RX12 452 yX12_canPart ∈ lw_ok := mkc8 48 (by decide +kernel) rfl
theorem qi_X12_canPart : Cond.instanceMethod yX12_canPart ∈ lw_ok := mkc8 50 (by decide +kernel) rfl
theorem qs_X12_canPart : Cond.selects RX12 yX12_canPart yX12_canPart ∈ lw_ok := mks 95 (by decide +kernel) rfl
theorem qc_X12_canPart : Cond.code yX12_canPart cX12_canPart 3 (some .boolean) ∈ lw_ok := mkc8 51 (by decide +kernel) rfl
theorem gv_X12_452 : GoodIn lw_ok (wsV RX12 452 RX12 yX12_canPart [Cond.code yX12_canPart cX12_canPart 3 (some .boolean)]) := gV qm_X12_452 qi_X12_canPart qs_X12_canPart qz_X12 qc_X12_canPart
theorem hdV_X12_canPart : yX12_canPart.cls = RX12 ∧ yX12_canPart.cls ≠ "java/lang/invoke/MethodHandle" ∧ yX12_canPart.cls ≠ "java/lang/invoke/VarHandle" ∧ (parseMethodDescriptor yX12_canPart.desc).map (fun d => d.parameters.length) = some 2 := by decide +kernel
theorem qm_X12_455 : Cond.methodLink RX12 455 yX12_finds ∈ lw_ok := mkc8 52 (by decide +kernel) rfl
theorem qi_X12_finds : Cond.instanceMethod yX12_finds ∈ lw_ok := mkc8 54 (by decide +kernel) rfl
theorem qs_X12_finds : Cond.selects RX12 yX12_finds yX12_finds ∈ lw_ok := mks 96 (by decide +kernel) rfl
theorem qc_X12_finds : Cond.code yX12_finds cX12_finds 5 (some .boolean) ∈ lw_ok := mkc8 55 (by decide +kernel) rfl
theorem gv_X12_455 : GoodIn lw_ok (wsV RX12 455 RX12 yX12_finds [Cond.code yX12_finds cX12_finds 5 (some .boolean)]) := gV qm_X12_455 qi_X12_finds qs_X12_finds qz_X12 qc_X12_finds
theorem hdV_X12_finds : yX12_finds.cls = RX12 ∧ yX12_finds.cls ≠ "java/lang/invoke/MethodHandle" ∧ yX12_finds.cls ≠ "java/lang/invoke/VarHandle" ∧ (parseMethodDescriptor yX12_finds.desc).map (fun d => d.parameters.length) = some 3 := by decide +kernel
theorem qf_X12_458 : Cond.fieldLink RX12 458 (TX12 55).1 (TX12 55).2.1 (TX12 55).2.2.1 ∈ lw_ok := mkc6 26 (by decide +kernel) rfl
theorem qf_X12_461 : Cond.fieldLink RX12 461 (TX12 56).1 (TX12 56).2.1 (TX12 56).2.2.1 ∈ lw_ok := mkc6 27 (by decide +kernel) rfl
theorem qm_X12_464 : Cond.methodLink RX12 464 yX12_looks ∈ lw_ok := mkc8 80 (by decide +kernel) rfl
theorem qi_X12_looks : Cond.instanceMethod yX12_looks ∈ lw_ok := mkc8 82 (by decide +kernel) rfl
theorem qs_X12_looks : Cond.selects RX12 yX12_looks yX12_looks ∈ lw_ok := mks 100 (by decide +kernel) rfl
theorem qc_X12_looks : Cond.code yX12_looks cX12_looks 19 none ∈ lw_ok := mkc8 83 (by decide +kernel) rfl
theorem gv_X12_464 : GoodIn lw_ok (wsV RX12 464 RX12 yX12_looks [Cond.code yX12_looks cX12_looks 19 none]) := gV qm_X12_464 qi_X12_looks qs_X12_looks qz_X12 qc_X12_looks
theorem hdV_X12_looks : yX12_looks.cls = RX12 ∧ yX12_looks.cls ≠ "java/lang/invoke/MethodHandle" ∧ yX12_looks.cls ≠ "java/lang/invoke/VarHandle" ∧ (parseMethodDescriptor yX12_looks.desc).map (fun d => d.parameters.length) = some 6 := by decide +kernel
theorem qm_X12_468 : Cond.methodLink RX12 468 yX12_depthAt ∈ lw_ok := mkc8 76 (by decide +kernel) rfl
theorem qi_X12_depthAt : Cond.instanceMethod yX12_depthAt ∈ lw_ok := mkc8 78 (by decide +kernel) rfl
theorem qs_X12_depthAt : Cond.selects RX12 yX12_depthAt yX12_depthAt ∈ lw_ok := mks 99 (by decide +kernel) rfl
theorem qc_X12_depthAt : Cond.code yX12_depthAt cX12_depthAt 8 (some .int) ∈ lw_ok := mkc8 79 (by decide +kernel) rfl
theorem gv_X12_468 : GoodIn lw_ok (wsV RX12 468 RX12 yX12_depthAt [Cond.code yX12_depthAt cX12_depthAt 8 (some .int)]) := gV qm_X12_468 qi_X12_depthAt qs_X12_depthAt qz_X12 qc_X12_depthAt
theorem hdV_X12_depthAt : yX12_depthAt.cls = RX12 ∧ yX12_depthAt.cls ≠ "java/lang/invoke/MethodHandle" ∧ yX12_depthAt.cls ≠ "java/lang/invoke/VarHandle" ∧ (parseMethodDescriptor yX12_depthAt.desc).map (fun d => d.parameters.length) = some 2 := by decide +kernel
theorem qj_X12_471 : Cond.constantLong RX12 471 (99) ∈ lw_ok := mkc8 116 (by decide +kernel) rfl
