abbrev mX0_init : mv_M := (yX0_init, cX0_init, 1, none, [])
theorem pn_RX0 : plainName RX0 = true := by decide +kernel
theorem mh_RX0 : RX0 ≠ "java/lang/invoke/MethodHandle" ∧ RX0 ≠ "java/lang/invoke/VarHandle" := by decide +kernel
theorem pd_1 : (parseMethodDescriptor "()V").map (fun d => d.parameters.length) = some 0 := by decide +kernel
theorem ic_X0_init : mv_ic mX0_init 0 := ⟨rfl, rfl, mv_at 82 (by decide +kernel), mv_at 83 (by decide +kernel), rfl, pn_RX0, mh_RX0, pd_1⟩
abbrev mX0_restart : mv_M := (yX0_restart, cX0_restart, 2, none, [])
theorem pd_2 : (parseMethodDescriptor "(Ljava/lang/String;)V").map (fun d => d.parameters.length) = some 1 := by decide +kernel
theorem vc_X0_restart : mv_vc RX0 mX0_restart 1 := ⟨mv_at 707 (by decide +kernel), mv_at 708 (by decide +kernel), mv_at 709 (by decide +kernel), rfl, pn_RX0, mh_RX0, pd_2⟩
abbrev mX0_look : mv_M := (yX0_look, cX0_look, 1, (some .char), [])
theorem pd_3 : (parseMethodDescriptor "()C").map (fun d => d.parameters.length) = some 0 := by decide +kernel
theorem vc_X0_look : mv_vc RX0 mX0_look 0 := ⟨mv_at 720 (by decide +kernel), mv_at 721 (by decide +kernel), mv_at 722 (by decide +kernel), rfl, pn_RX0, mh_RX0, pd_3⟩
abbrev mX0_refuse : mv_M := (yX0_refuse, cX0_refuse, 2, none, [])
theorem pd_4 : (parseMethodDescriptor "(I)V").map (fun d => d.parameters.length) = some 1 := by decide +kernel
theorem vc_X0_refuse : mv_vc RX0 mX0_refuse 1 := ⟨mv_at 730 (by decide +kernel), mv_at 731 (by decide +kernel), mv_at 732 (by decide +kernel), rfl, pn_RX0, mh_RX0, pd_4⟩
abbrev mX0_skip : mv_M := (yX0_skip, cX0_skip, 1, none, [])
theorem vc_X0_skip : mv_vc RX0 mX0_skip 0 := ⟨mv_at 726 (by decide +kernel), mv_at 727 (by decide +kernel), mv_at 728 (by decide +kernel), rfl, pn_RX0, mh_RX0, pd_1⟩
abbrev mX0_passes : mv_M := (yX0_passes, cX0_passes, 2, (some .boolean), [])
theorem pd_5 : (parseMethodDescriptor "(C)Z").map (fun d => d.parameters.length) = some 1 := by decide +kernel
theorem vc_X0_passes : mv_vc RX0 mX0_passes 1 := ⟨mv_at 756 (by decide +kernel), mv_at 757 (by decide +kernel), mv_at 758 (by decide +kernel), rfl, pn_RX0, mh_RX0, pd_5⟩
abbrev mX0_expect : mv_M := (yX0_expect, cX0_expect, 2, none, [])
theorem pd_6 : (parseMethodDescriptor "(C)V").map (fun d => d.parameters.length) = some 1 := by decide +kernel
theorem vc_X0_expect : mv_vc RX0 mX0_expect 1 := ⟨mv_at 760 (by decide +kernel), mv_at 761 (by decide +kernel), mv_at 762 (by decide +kernel), rfl, pn_RX0, mh_RX0, pd_6⟩
abbrev mX0_expectWord : mv_M := (yX0_expectWord, cX0_expectWord, 3, none, [])
theorem vc_X0_expectWord : mv_vc RX0 mX0_expectWord 1 := ⟨mv_at 821 (by decide +kernel), mv_at 822 (by decide +kernel), mv_at 823 (by decide +kernel), rfl, pn_RX0, mh_RX0, pd_2⟩
abbrev mX0_expectEnd : mv_M := (yX0_expectEnd, cX0_expectEnd, 1, none, [])
theorem vc_X0_expectEnd : mv_vc RX0 mX0_expectEnd 0 := ⟨mv_at 836 (by decide +kernel), mv_at 837 (by decide +kernel), mv_at 838 (by decide +kernel), rfl, pn_RX0, mh_RX0, pd_1⟩
abbrev mX0_skipBlanks : mv_M := (yX0_skipBlanks, cX0_skipBlanks, 2, none, [])
theorem vc_X0_skipBlanks : mv_vc RX0 mX0_skipBlanks 0 := ⟨mv_at 716 (by decide +kernel), mv_at 717 (by decide +kernel), mv_at 718 (by decide +kernel), rfl, pn_RX0, mh_RX0, pd_1⟩
abbrev mX0_seesDigit : mv_M := (yX0_seesDigit, cX0_seesDigit, 1, (some .boolean), [])
theorem pd_7 : (parseMethodDescriptor "()Z").map (fun d => d.parameters.length) = some 0 := by decide +kernel
theorem vc_X0_seesDigit : mv_vc RX0 mX0_seesDigit 0 := ⟨mv_at 832 (by decide +kernel), mv_at 833 (by decide +kernel), mv_at 834 (by decide +kernel), rfl, pn_RX0, mh_RX0, pd_7⟩
abbrev mX0_seesLetter : mv_M := (yX0_seesLetter, cX0_seesLetter, 1, (some .boolean), [])
theorem vc_X0_seesLetter : mv_vc RX0 mX0_seesLetter 0 := ⟨mv_at 1140 (by decide +kernel), mv_at 1141 (by decide +kernel), mv_at 1142 (by decide +kernel), rfl, pn_RX0, mh_RX0, pd_7⟩
abbrev mX0_seesNumber : mv_M := (yX0_seesNumber, cX0_seesNumber, 1, (some .boolean), [])
theorem vc_X0_seesNumber : mv_vc RX0 mX0_seesNumber 0 := ⟨mv_at 1123 (by decide +kernel), mv_at 1124 (by decide +kernel), mv_at 1125 (by decide +kernel), rfl, pn_RX0, mh_RX0, pd_7⟩
abbrev mX0_readNumber : mv_M := (yX0_readNumber, cX0_readNumber, 6, (some .int), [])
theorem pd_8 : (parseMethodDescriptor "(I)I").map (fun d => d.parameters.length) = some 1 := by decide +kernel
theorem vc_X0_readNumber : mv_vc RX0 mX0_readNumber 1 := ⟨mv_at 827 (by decide +kernel), mv_at 828 (by decide +kernel), mv_at 829 (by decide +kernel), rfl, pn_RX0, mh_RX0, pd_8⟩
abbrev mX0_readString : mv_M := (yX0_readString, cX0_readString, 5, (some (.object "java/lang/String")), [])
theorem pd_9 : (parseMethodDescriptor "(CC)Ljava/lang/String;").map (fun d => d.parameters.length) = some 2 := by decide +kernel
theorem vc_X0_readString : mv_vc RX0 mX0_readString 2 := ⟨mv_at 773 (by decide +kernel), mv_at 774 (by decide +kernel), mv_at 775 (by decide +kernel), rfl, pn_RX0, mh_RX0, pd_9⟩
abbrev mX0_readName : mv_M := (yX0_readName, cX0_readName, 3, (some (.object "java/lang/String")), [])
theorem pd_10 : (parseMethodDescriptor "()Ljava/lang/String;").map (fun d => d.parameters.length) = some 0 := by decide +kernel
theorem vc_X0_readName : mv_vc RX0 mX0_readName 0 := ⟨mv_at 1136 (by decide +kernel), mv_at 1137 (by decide +kernel), mv_at 1138 (by decide +kernel), rfl, pn_RX0, mh_RX0, pd_10⟩
abbrev mX0_readPlain : mv_M := (yX0_readPlain, cX0_readPlain, 5, none, [])
theorem pd_11 : (parseMethodDescriptor "(LTreePaths$Value;CC)V").map (fun d => d.parameters.length) = some 3 := by decide +kernel
theorem vc_X0_readPlain : mv_vc RX0 mX0_readPlain 3 := ⟨mv_at 814 (by decide +kernel), mv_at 815 (by decide +kernel), mv_at 816 (by decide +kernel), rfl, pn_RX0, mh_RX0, pd_11⟩
abbrev mX1_init : mv_M := (yX1_init, cX1_init, 2, none, [])
theorem pn_RX1 : plainName RX1 = true := by decide +kernel
theorem mh_RX1 : RX1 ≠ "java/lang/invoke/MethodHandle" ∧ RX1 ≠ "java/lang/invoke/VarHandle" := by decide +kernel
theorem ic_X1_init : mv_ic mX1_init 0 := ⟨rfl, rfl, mv_at 163 (by decide +kernel), mv_at 164 (by decide +kernel), rfl, pn_RX1, mh_RX1, pd_1⟩
abbrev mX1_restart : mv_M := (yX1_restart, cX1_restart, 2, none, [])
theorem vc_X1_restart : mv_vc RX1 mX1_restart 1 := ⟨mv_at 703 (by decide +kernel), mv_at 704 (by decide +kernel), mv_at 705 (by decide +kernel), rfl, pn_RX1, mh_RX1, pd_2⟩
abbrev mX1_has : mv_M := (yX1_has, cX1_has, 2, (some .boolean), [])
theorem pd_13 : (parseMethodDescriptor "(I)Z").map (fun d => d.parameters.length) = some 1 := by decide +kernel
theorem vc_X1_has : mv_vc RX1 mX1_has 1 := ⟨mv_at 399 (by decide +kernel), mv_at 400 (by decide +kernel), mv_at 401 (by decide +kernel), rfl, pn_RX1, mh_RX1, pd_13⟩
abbrev mX1_add : mv_M := (yX1_add, cX1_add, 7, (some .int), [])
theorem pd_14 : (parseMethodDescriptor "(ILjava/lang/String;I)I").map (fun d => d.parameters.length) = some 3 := by decide +kernel
theorem vc_X1_add : mv_vc RX1 mX1_add 3 := ⟨mv_at 737 (by decide +kernel), mv_at 738 (by decide +kernel), mv_at 739 (by decide +kernel), rfl, pn_RX1, mh_RX1, pd_14⟩
abbrev mX1_childAt : mv_M := (yX1_childAt, cX1_childAt, 3, (some .int), [])
theorem pd_15 : (parseMethodDescriptor "(II)I").map (fun d => d.parameters.length) = some 2 := by decide +kernel
theorem vc_X1_childAt : mv_vc RX1 mX1_childAt 2 := ⟨mv_at 1246 (by decide +kernel), mv_at 1247 (by decide +kernel), mv_at 1248 (by decide +kernel), rfl, pn_RX1, mh_RX1, pd_15⟩
abbrev mX1_childNamed : mv_M := (yX1_childNamed, cX1_childNamed, 5, (some .int), [])
theorem pd_16 : (parseMethodDescriptor "(ILjava/lang/String;)I").map (fun d => d.parameters.length) = some 2 := by decide +kernel
theorem vc_X1_childNamed : mv_vc RX1 mX1_childNamed 2 := ⟨mv_at 802 (by decide +kernel), mv_at 803 (by decide +kernel), mv_at 804 (by decide +kernel), rfl, pn_RX1, mh_RX1, pd_16⟩
abbrev mX1_appendPath : mv_M := (yX1_appendPath, cX1_appendPath, 4, none, [])
theorem pd_17 : (parseMethodDescriptor "(ILjava/lang/StringBuilder;)V").map (fun d => d.parameters.length) = some 2 := by decide +kernel
theorem vc_X1_appendPath : mv_vc RX1 mX1_appendPath 2 := ⟨mv_at 653 (by decide +kernel), mv_at 654 (by decide +kernel), mv_at 655 (by decide +kernel), rfl, pn_RX1, mh_RX1, pd_17⟩
abbrev mX1_appendStep : mv_M := (yX1_appendStep, cX1_appendStep, 3, none, [])
theorem pd_18 : (parseMethodDescriptor "(LTreePaths$Value;Ljava/lang/StringBuilder;)V").map (fun d => d.parameters.length) = some 2 := by decide +kernel
theorem vc_X1_appendStep : mv_vc RX1 mX1_appendStep 2 := ⟨mv_at 659 (by decide +kernel), mv_atP 1 (q := (yX1_appendStep, 4)) (by decide +kernel), mv_at 660 (by decide +kernel), rfl, pn_RX1, mh_RX1, pd_18⟩
abbrev mX1_sourceCharacter : mv_M := (yX1_sourceCharacter, cX1_sourceCharacter, 7, (some .int), [])
theorem vc_X1_sourceCharacter : mv_vc RX1 mX1_sourceCharacter 2 := ⟨mv_at 680 (by decide +kernel), mv_at 681 (by decide +kernel), mv_at 682 (by decide +kernel), rfl, pn_RX1, mh_RX1, pd_15⟩
abbrev mX2_init : mv_M := (yX2_init, cX2_init, 1, none, [])
theorem pn_RX2 : plainName RX2 = true := by decide +kernel
theorem mh_RX2 : RX2 ≠ "java/lang/invoke/MethodHandle" ∧ RX2 ≠ "java/lang/invoke/VarHandle" := by decide +kernel
theorem ic_X2_init : mv_ic mX2_init 0 := ⟨rfl, rfl, mv_at 76 (by decide +kernel), mv_at 77 (by decide +kernel), rfl, pn_RX2, mh_RX2, pd_1⟩
abbrev mX2_readInto : mv_M := (yX2_readInto, cX2_readInto, 4, (some .int), [(21, 36, 39, 38)])
theorem pd_20 : (parseMethodDescriptor "(LTreePaths$Document;Ljava/lang/String;)I").map (fun d => d.parameters.length) = some 2 := by decide +kernel
theorem vc_X2_readInto : mv_vc RX2 mX2_readInto 2 := ⟨mv_at 698 (by decide +kernel), mv_at 699 (by decide +kernel), mv_at 700 (by decide +kernel), rfl, pn_RX2, mh_RX2, pd_20⟩
abbrev mX2_readValue : mv_M := (yX2_readValue, cX2_readValue, 6, none, [])
theorem pd_21 : (parseMethodDescriptor "(ILjava/lang/String;I)V").map (fun d => d.parameters.length) = some 3 := by decide +kernel
theorem vc_X2_readValue : mv_vc RX2 mX2_readValue 3 := ⟨mv_at 713 (by decide +kernel), mv_atP 3 (q := (yX2_readValue, 2)) (by decide +kernel), mv_at 714 (by decide +kernel), rfl, pn_RX2, mh_RX2, pd_21⟩
abbrev mX2_openHolder : mv_M := (yX2_openHolder, cX2_openHolder, 4, none, [])
theorem pd_22 : (parseMethodDescriptor "(III)V").map (fun d => d.parameters.length) = some 3 := by decide +kernel
theorem vc_X2_openHolder : mv_vc RX2 mX2_openHolder 3 := ⟨mv_at 752 (by decide +kernel), mv_atP 5 (q := (yX2_openHolder, 2)) (by decide +kernel), mv_at 753 (by decide +kernel), rfl, pn_RX2, mh_RX2, pd_22⟩
abbrev mX2_readArray : mv_M := (yX2_readArray, cX2_readArray, 4, none, [])
theorem pd_23 : (parseMethodDescriptor "(II)V").map (fun d => d.parameters.length) = some 2 := by decide +kernel
theorem vc_X2_readArray : mv_vc RX2 mX2_readArray 2 := ⟨mv_at 748 (by decide +kernel), mv_atP 4 (q := (yX2_readArray, 2)) (by decide +kernel), mv_at 749 (by decide +kernel), rfl, pn_RX2, mh_RX2, pd_23⟩
abbrev mX2_readObject : mv_M := (yX2_readObject, cX2_readObject, 4, none, [])
theorem vc_X2_readObject : mv_vc RX2 mX2_readObject 2 := ⟨mv_at 766 (by decide +kernel), mv_atP 6 (q := (yX2_readObject, 2)) (by decide +kernel), mv_at 767 (by decide +kernel), rfl, pn_RX2, mh_RX2, pd_23⟩
abbrev mX2_readMemberName : mv_M := (yX2_readMemberName, cX2_readMemberName, 4, (some (.object "java/lang/String")), [])
theorem pd_24 : (parseMethodDescriptor "(I)Ljava/lang/String;").map (fun d => d.parameters.length) = some 1 := by decide +kernel
theorem vc_X2_readMemberName : mv_vc RX2 mX2_readMemberName 1 := ⟨mv_at 770 (by decide +kernel), mv_atP 7 (q := (yX2_readMemberName, 2)) (by decide +kernel), mv_at 771 (by decide +kernel), rfl, pn_RX2, mh_RX2, pd_24⟩
abbrev mX3_init : mv_M := (yX3_init, cX3_init, 2, none, [])
theorem pn_RX3 : plainName RX3 = true := by decide +kernel
theorem mh_RX3 : RX3 ≠ "java/lang/invoke/MethodHandle" ∧ RX3 ≠ "java/lang/invoke/VarHandle" := by decide +kernel
theorem ic_X3_init : mv_ic mX3_init 0 := ⟨rfl, rfl, mv_at 126 (by decide +kernel), mv_at 127 (by decide +kernel), rfl, pn_RX3, mh_RX3, pd_1⟩
abbrev mX3_run : mv_M := (yX3_run, cX3_run, 3, (some (.object "TreePaths$Row")), [])
theorem pd_26 : (parseMethodDescriptor "(LTreePaths$Document;LTreePaths$Path;)LTreePaths$Row;").map (fun d => d.parameters.length) = some 2 := by decide +kernel
theorem vc_X3_run : mv_vc RX3 mX3_run 2 := ⟨mv_at 1179 (by decide +kernel), mv_at 1180 (by decide +kernel), mv_at 1181 (by decide +kernel), rfl, pn_RX3, mh_RX3, pd_26⟩
abbrev mX3_refuseBeyondLimit : mv_M := (yX3_refuseBeyondLimit, cX3_refuseBeyondLimit, 2, none, [])
theorem vc_X3_refuseBeyondLimit : mv_vc RX3 mX3_refuseBeyondLimit 1 := ⟨mv_at 1188 (by decide +kernel), mv_atP 29 (q := (yX3_refuseBeyondLimit, 3)) (by decide +kernel), mv_at 1189 (by decide +kernel), rfl, pn_RX3, mh_RX3, pd_4⟩
abbrev mX3_follow : mv_M := (yX3_follow, cX3_follow, 8, (some (.object "TreePaths$Row")), [])
theorem pd_27 : (parseMethodDescriptor "(LTreePaths$Path;II)LTreePaths$Row;").map (fun d => d.parameters.length) = some 3 := by decide +kernel
theorem vc_X3_follow : mv_vc RX3 mX3_follow 3 := ⟨mv_at 1184 (by decide +kernel), mv_atP 28 (q := (yX3_follow, 3)) (by decide +kernel), mv_at 1185 (by decide +kernel), rfl, pn_RX3, mh_RX3, pd_27⟩
abbrev mX3_goFrom : mv_M := (yX3_goFrom, cX3_goFrom, 8, none, [])
theorem pd_28 : (parseMethodDescriptor "(ILTreePaths$Segment;LTreePaths$Row;I)V").map (fun d => d.parameters.length) = some 4 := by decide +kernel
theorem vc_X3_goFrom : mv_vc RX3 mX3_goFrom 4 := ⟨mv_at 1216 (by decide +kernel), mv_atP 30 (q := (yX3_goFrom, 3)) (by decide +kernel), mv_at 1217 (by decide +kernel), rfl, pn_RX3, mh_RX3, pd_28⟩
abbrev mX3_select : mv_M := (yX3_select, cX3_select, 5, none, [])
theorem pd_29 : (parseMethodDescriptor "(ILTreePaths$Selector;LTreePaths$Row;I)V").map (fun d => d.parameters.length) = some 4 := by decide +kernel
theorem vc_X3_select : mv_vc RX3 mX3_select 4 := ⟨mv_at 1222 (by decide +kernel), mv_atP 31 (q := (yX3_select, 3)) (by decide +kernel), mv_at 1223 (by decide +kernel), rfl, pn_RX3, mh_RX3, pd_29⟩
abbrev mX3_selectAll : mv_M := (yX3_selectAll, cX3_selectAll, 5, none, [])
theorem pd_30 : (parseMethodDescriptor "(ILTreePaths$Row;)V").map (fun d => d.parameters.length) = some 2 := by decide +kernel
theorem vc_X3_selectAll : mv_vc RX3 mX3_selectAll 2 := ⟨mv_at 1232 (by decide +kernel), mv_atP 32 (q := (yX3_selectAll, 3)) (by decide +kernel), mv_at 1233 (by decide +kernel), rfl, pn_RX3, mh_RX3, pd_30⟩
abbrev mX3_selectPlace : mv_M := (yX3_selectPlace, cX3_selectPlace, 5, none, [])
theorem pd_31 : (parseMethodDescriptor "(IILTreePaths$Row;)V").map (fun d => d.parameters.length) = some 3 := by decide +kernel
theorem vc_X3_selectPlace : mv_vc RX3 mX3_selectPlace 3 := ⟨mv_at 1240 (by decide +kernel), mv_atP 33 (q := (yX3_selectPlace, 3)) (by decide +kernel), mv_at 1241 (by decide +kernel), rfl, pn_RX3, mh_RX3, pd_31⟩
abbrev mX3_fromBegin : mv_M := (yX3_fromBegin, cX3_fromBegin, 2, (some .int), [])
theorem sc_X3_fromBegin : mv_sc mX3_fromBegin 2 := ⟨mv_at 1243 (by decide +kernel), mv_at 9 (by decide +kernel), mv_at 1244 (by decide +kernel), rfl, pn_RX3, mh_RX3, pd_15⟩
abbrev mX3_selectStretch : mv_M := (yX3_selectStretch, cX3_selectStretch, 10, none, [])
theorem pd_32 : (parseMethodDescriptor "(ILTreePaths$Selector;LTreePaths$Row;)V").map (fun d => d.parameters.length) = some 3 := by decide +kernel
theorem vc_X3_selectStretch : mv_vc RX3 mX3_selectStretch 3 := ⟨mv_at 1252 (by decide +kernel), mv_atP 34 (q := (yX3_selectStretch, 3)) (by decide +kernel), mv_at 1253 (by decide +kernel), rfl, pn_RX3, mh_RX3, pd_32⟩
abbrev mX3_firstUpwards : mv_M := (yX3_firstUpwards, cX3_firstUpwards, 2, (some .int), [])
theorem pd_33 : (parseMethodDescriptor "(LTreePaths$Selector;I)I").map (fun d => d.parameters.length) = some 2 := by decide +kernel
theorem sc_X3_firstUpwards : mv_sc mX3_firstUpwards 2 := ⟨mv_at 1255 (by decide +kernel), mv_at 9 (by decide +kernel), mv_at 1256 (by decide +kernel), rfl, pn_RX3, mh_RX3, pd_33⟩
abbrev mX3_endUpwards : mv_M := (yX3_endUpwards, cX3_endUpwards, 2, (some .int), [])
theorem sc_X3_endUpwards : mv_sc mX3_endUpwards 2 := ⟨mv_at 1262 (by decide +kernel), mv_at 9 (by decide +kernel), mv_at 1263 (by decide +kernel), rfl, pn_RX3, mh_RX3, pd_33⟩
abbrev mX3_firstDownwards : mv_M := (yX3_firstDownwards, cX3_firstDownwards, 4, (some .int), [])
theorem sc_X3_firstDownwards : mv_sc mX3_firstDownwards 2 := ⟨mv_at 1259 (by decide +kernel), mv_at 9 (by decide +kernel), mv_at 1260 (by decide +kernel), rfl, pn_RX3, mh_RX3, pd_33⟩
abbrev mX3_endDownwards : mv_M := (yX3_endDownwards, cX3_endDownwards, 2, (some .int), [])
theorem sc_X3_endDownwards : mv_sc mX3_endDownwards 2 := ⟨mv_at 1265 (by decide +kernel), mv_at 9 (by decide +kernel), mv_at 1266 (by decide +kernel), rfl, pn_RX3, mh_RX3, pd_33⟩
abbrev mX3_selectHolding : mv_M := (yX3_selectHolding, cX3_selectHolding, 8, none, [])
theorem pd_34 : (parseMethodDescriptor "(ILTreePaths$Test;LTreePaths$Row;I)V").map (fun d => d.parameters.length) = some 4 := by decide +kernel
theorem vc_X3_selectHolding : mv_vc RX3 mX3_selectHolding 4 := ⟨mv_at 1269 (by decide +kernel), mv_atP 35 (q := (yX3_selectHolding, 3)) (by decide +kernel), mv_at 1270 (by decide +kernel), rfl, pn_RX3, mh_RX3, pd_34⟩
abbrev mX3_anyHolds : mv_M := (yX3_anyHolds, cX3_anyHolds, 6, (some .boolean), [])
theorem pd_35 : (parseMethodDescriptor "(LTreePaths$Test;II)Z").map (fun d => d.parameters.length) = some 3 := by decide +kernel
theorem vc_X3_anyHolds : mv_vc RX3 mX3_anyHolds 3 := ⟨mv_at 1273 (by decide +kernel), mv_atP 36 (q := (yX3_anyHolds, 3)) (by decide +kernel), mv_at 1274 (by decide +kernel), rfl, pn_RX3, mh_RX3, pd_35⟩
abbrev mX3_allHold : mv_M := (yX3_allHold, cX3_allHold, 6, (some .boolean), [])
theorem vc_X3_allHold : mv_vc RX3 mX3_allHold 3 := ⟨mv_at 1277 (by decide +kernel), mv_atP 37 (q := (yX3_allHold, 3)) (by decide +kernel), mv_at 1278 (by decide +kernel), rfl, pn_RX3, mh_RX3, pd_35⟩
abbrev mX3_holds : mv_M := (yX3_holds, cX3_holds, 6, (some .boolean), [])
theorem vc_X3_holds : mv_vc RX3 mX3_holds 3 := ⟨mv_at 1281 (by decide +kernel), mv_atP 38 (q := (yX3_holds, 3)) (by decide +kernel), mv_at 1282 (by decide +kernel), rfl, pn_RX3, mh_RX3, pd_35⟩
abbrev mX3_valueOf : mv_M := (yX3_valueOf, cX3_valueOf, 5, (some (.object "TreePaths$Value")), [])
theorem pd_36 : (parseMethodDescriptor "(LTreePaths$Thing;II)LTreePaths$Value;").map (fun d => d.parameters.length) = some 3 := by decide +kernel
theorem vc_X3_valueOf : mv_vc RX3 mX3_valueOf 3 := ⟨mv_at 1285 (by decide +kernel), mv_atP 39 (q := (yX3_valueOf, 3)) (by decide +kernel), mv_at 1286 (by decide +kernel), rfl, pn_RX3, mh_RX3, pd_36⟩
abbrev mX3_lengthOf : mv_M := (yX3_lengthOf, cX3_lengthOf, 2, (some (.object "TreePaths$Value")), [])
theorem pd_37 : (parseMethodDescriptor "(LTreePaths$Value;LTreePaths$Value;)LTreePaths$Value;").map (fun d => d.parameters.length) = some 2 := by decide +kernel
theorem sc_X3_lengthOf : mv_sc mX3_lengthOf 2 := ⟨mv_at 1288 (by decide +kernel), mv_at 9 (by decide +kernel), mv_at 1289 (by decide +kernel), rfl, pn_RX3, mh_RX3, pd_37⟩
abbrev mX3_compare : mv_M := (yX3_compare, cX3_compare, 4, (some .boolean), [])
theorem pd_38 : (parseMethodDescriptor "(LTreePaths$Value;ILTreePaths$Value;)Z").map (fun d => d.parameters.length) = some 3 := by decide +kernel
theorem vc_X3_compare : mv_vc RX3 mX3_compare 3 := ⟨mv_at 1294 (by decide +kernel), mv_atP 40 (q := (yX3_compare, 3)) (by decide +kernel), mv_at 1295 (by decide +kernel), rfl, pn_RX3, mh_RX3, pd_38⟩
abbrev mX3_equal : mv_M := (yX3_equal, cX3_equal, 4, (some .boolean), [])
theorem pd_39 : (parseMethodDescriptor "(LTreePaths$Value;LTreePaths$Value;I)Z").map (fun d => d.parameters.length) = some 3 := by decide +kernel
theorem vc_X3_equal : mv_vc RX3 mX3_equal 3 := ⟨mv_at 1298 (by decide +kernel), mv_atP 41 (q := (yX3_equal, 3)) (by decide +kernel), mv_at 1299 (by decide +kernel), rfl, pn_RX3, mh_RX3, pd_39⟩
abbrev mX3_equalChildren : mv_M := (yX3_equalChildren, cX3_equalChildren, 7, (some .boolean), [])
theorem vc_X3_equalChildren : mv_vc RX3 mX3_equalChildren 3 := ⟨mv_at 1303 (by decide +kernel), mv_atP 42 (q := (yX3_equalChildren, 3)) (by decide +kernel), mv_at 1304 (by decide +kernel), rfl, pn_RX3, mh_RX3, pd_39⟩
abbrev mX3_less : mv_M := (yX3_less, cX3_less, 2, (some .boolean), [])
theorem pd_40 : (parseMethodDescriptor "(LTreePaths$Value;LTreePaths$Value;)Z").map (fun d => d.parameters.length) = some 2 := by decide +kernel
theorem sc_X3_less : mv_sc mX3_less 2 := ⟨mv_at 1306 (by decide +kernel), mv_at 9 (by decide +kernel), mv_at 1307 (by decide +kernel), rfl, pn_RX3, mh_RX3, pd_40⟩
abbrev mX3_lessString : mv_M := (yX3_lessString, cX3_lessString, 4, (some .boolean), [])
theorem pd_41 : (parseMethodDescriptor "(Ljava/lang/String;Ljava/lang/String;)Z").map (fun d => d.parameters.length) = some 2 := by decide +kernel
theorem sc_X3_lessString : mv_sc mX3_lessString 2 := ⟨mv_at 1309 (by decide +kernel), mv_at 9 (by decide +kernel), mv_at 1310 (by decide +kernel), rfl, pn_RX3, mh_RX3, pd_41⟩
abbrev mX4_init : mv_M := (yX4_init, cX4_init, 2, none, [])
theorem pn_RX4 : plainName RX4 = true := by decide +kernel
theorem mh_RX4 : RX4 ≠ "java/lang/invoke/MethodHandle" ∧ RX4 ≠ "java/lang/invoke/VarHandle" := by decide +kernel
theorem pd_43 : (parseMethodDescriptor "(Z)V").map (fun d => d.parameters.length) = some 1 := by decide +kernel
theorem ic_X4_init : mv_ic mX4_init 1 := ⟨rfl, rfl, mv_at 868 (by decide +kernel), mv_at 869 (by decide +kernel), rfl, pn_RX4, mh_RX4, pd_43⟩
abbrev mX4_add : mv_M := (yX4_add, cX4_add, 2, none, [])
theorem pd_44 : (parseMethodDescriptor "(LTreePaths$Segment;)V").map (fun d => d.parameters.length) = some 1 := by decide +kernel
theorem vc_X4_add : mv_vc RX4 mX4_add 1 := ⟨mv_at 1144 (by decide +kernel), mv_at 1145 (by decide +kernel), mv_at 1146 (by decide +kernel), rfl, pn_RX4, mh_RX4, pd_44⟩
abbrev mX5_init : mv_M := (yX5_init, cX5_init, 1, none, [])
theorem pn_RX5 : plainName RX5 = true := by decide +kernel
theorem mh_RX5 : RX5 ≠ "java/lang/invoke/MethodHandle" ∧ RX5 ≠ "java/lang/invoke/VarHandle" := by decide +kernel
theorem ic_X5_init : mv_ic mX5_init 0 := ⟨rfl, rfl, mv_at 110 (by decide +kernel), mv_at 111 (by decide +kernel), rfl, pn_RX5, mh_RX5, pd_1⟩
abbrev mX5_readFrom : mv_M := (yX5_readFrom, cX5_readFrom, 3, (some .int), [(8, 52, 55, 45)])
theorem pd_46 : (parseMethodDescriptor "(Ljava/lang/String;)I").map (fun d => d.parameters.length) = some 1 := by decide +kernel
theorem vc_X5_readFrom : mv_vc RX5 mX5_readFrom 1 := ⟨mv_at 854 (by decide +kernel), mv_at 855 (by decide +kernel), mv_at 856 (by decide +kernel), rfl, pn_RX5, mh_RX5, pd_46⟩
abbrev mX5_readPath : mv_M := (yX5_readPath, cX5_readPath, 4, (some (.object "TreePaths$Path")), [])
theorem pd_47 : (parseMethodDescriptor "(I)LTreePaths$Path;").map (fun d => d.parameters.length) = some 1 := by decide +kernel
theorem vc_X5_readPath : mv_vc RX5 mX5_readPath 1 := ⟨mv_at 863 (by decide +kernel), mv_atP 8 (q := (yX5_readPath, 2)) (by decide +kernel), mv_at 864 (by decide +kernel), rfl, pn_RX5, mh_RX5, pd_47⟩
abbrev mX5_seesPath : mv_M := (yX5_seesPath, cX5_seesPath, 1, (some .boolean), [])
theorem vc_X5_seesPath : mv_vc RX5 mX5_seesPath 0 := ⟨mv_at 1052 (by decide +kernel), mv_atP 17 (q := (yX5_seesPath, 2)) (by decide +kernel), mv_at 1053 (by decide +kernel), rfl, pn_RX5, mh_RX5, pd_7⟩
abbrev mX5_seesSegment : mv_M := (yX5_seesSegment, cX5_seesSegment, 1, (some .boolean), [])
theorem vc_X5_seesSegment : mv_vc RX5 mX5_seesSegment 0 := ⟨mv_at 894 (by decide +kernel), mv_atP 9 (q := (yX5_seesSegment, 2)) (by decide +kernel), mv_at 895 (by decide +kernel), rfl, pn_RX5, mh_RX5, pd_7⟩
abbrev mX5_readSegment : mv_M := (yX5_readSegment, cX5_readSegment, 5, (some (.object "TreePaths$Segment")), [])
theorem pd_48 : (parseMethodDescriptor "(I)LTreePaths$Segment;").map (fun d => d.parameters.length) = some 1 := by decide +kernel
theorem vc_X5_readSegment : mv_vc RX5 mX5_readSegment 1 := ⟨mv_at 898 (by decide +kernel), mv_atP 10 (q := (yX5_readSegment, 2)) (by decide +kernel), mv_at 899 (by decide +kernel), rfl, pn_RX5, mh_RX5, pd_48⟩
abbrev mX5_readSelectors : mv_M := (yX5_readSelectors, cX5_readSelectors, 4, none, [])
theorem pd_49 : (parseMethodDescriptor "(LTreePaths$Segment;I)V").map (fun d => d.parameters.length) = some 2 := by decide +kernel
theorem vc_X5_readSelectors : mv_vc RX5 mX5_readSelectors 2 := ⟨mv_at 927 (by decide +kernel), mv_atP 11 (q := (yX5_readSelectors, 2)) (by decide +kernel), mv_at 928 (by decide +kernel), rfl, pn_RX5, mh_RX5, pd_49⟩
abbrev mX5_readSelector : mv_M := (yX5_readSelector, cX5_readSelector, 3, (some (.object "TreePaths$Selector")), [])
theorem pd_50 : (parseMethodDescriptor "(I)LTreePaths$Selector;").map (fun d => d.parameters.length) = some 1 := by decide +kernel
theorem vc_X5_readSelector : mv_vc RX5 mX5_readSelector 1 := ⟨mv_at 932 (by decide +kernel), mv_atP 12 (q := (yX5_readSelector, 2)) (by decide +kernel), mv_at 933 (by decide +kernel), rfl, pn_RX5, mh_RX5, pd_50⟩
abbrev mX5_readPlaceOrStretch : mv_M := (yX5_readPlaceOrStretch, cX5_readPlaceOrStretch, 3, (some (.object "TreePaths$Selector")), [])
theorem pd_51 : (parseMethodDescriptor "()LTreePaths$Selector;").map (fun d => d.parameters.length) = some 0 := by decide +kernel
theorem vc_X5_readPlaceOrStretch : mv_vc RX5 mX5_readPlaceOrStretch 0 := ⟨mv_at 1129 (by decide +kernel), mv_atP 27 (q := (yX5_readPlaceOrStretch, 2)) (by decide +kernel), mv_at 1130 (by decide +kernel), rfl, pn_RX5, mh_RX5, pd_51⟩
abbrev mX5_readStretch : mv_M := (yX5_readStretch, cX5_readStretch, 4, (some (.object "TreePaths$Selector")), [])
theorem pd_52 : (parseMethodDescriptor "(ZI)LTreePaths$Selector;").map (fun d => d.parameters.length) = some 2 := by decide +kernel
theorem vc_X5_readStretch : mv_vc RX5 mX5_readStretch 2 := ⟨mv_at 1120 (by decide +kernel), mv_atP 26 (q := (yX5_readStretch, 2)) (by decide +kernel), mv_at 1121 (by decide +kernel), rfl, pn_RX5, mh_RX5, pd_52⟩
abbrev mX5_open : mv_M := (yX5_open, cX5_open, 3, none, [])
theorem pd_53 : (parseMethodDescriptor "(CI)V").map (fun d => d.parameters.length) = some 2 := by decide +kernel
theorem vc_X5_open : mv_vc RX5 mX5_open 2 := ⟨mv_at 990 (by decide +kernel), mv_atP 13 (q := (yX5_open, 2)) (by decide +kernel), mv_at 991 (by decide +kernel), rfl, pn_RX5, mh_RX5, pd_53⟩
abbrev mX5_readAny : mv_M := (yX5_readAny, cX5_readAny, 4, (some (.object "TreePaths$Test")), [])
theorem pd_54 : (parseMethodDescriptor "(I)LTreePaths$Test;").map (fun d => d.parameters.length) = some 1 := by decide +kernel
theorem vc_X5_readAny : mv_vc RX5 mX5_readAny 1 := ⟨mv_at 994 (by decide +kernel), mv_atP 14 (q := (yX5_readAny, 2)) (by decide +kernel), mv_at 995 (by decide +kernel), rfl, pn_RX5, mh_RX5, pd_54⟩
abbrev mX5_readAll : mv_M := (yX5_readAll, cX5_readAll, 4, (some (.object "TreePaths$Test")), [])
theorem vc_X5_readAll : mv_vc RX5 mX5_readAll 1 := ⟨mv_at 1040 (by decide +kernel), mv_atP 15 (q := (yX5_readAll, 2)) (by decide +kernel), mv_at 1041 (by decide +kernel), rfl, pn_RX5, mh_RX5, pd_54⟩
abbrev mX5_readTest : mv_M := (yX5_readTest, cX5_readTest, 3, (some (.object "TreePaths$Test")), [])
theorem vc_X5_readTest : mv_vc RX5 mX5_readTest 1 := ⟨mv_at 1044 (by decide +kernel), mv_atP 16 (q := (yX5_readTest, 2)) (by decide +kernel), mv_at 1045 (by decide +kernel), rfl, pn_RX5, mh_RX5, pd_54⟩
abbrev mX5_readPathTest : mv_M := (yX5_readPathTest, cX5_readPathTest, 5, (some (.object "TreePaths$Test")), [])
theorem vc_X5_readPathTest : mv_vc RX5 mX5_readPathTest 1 := ⟨mv_at 1056 (by decide +kernel), mv_atP 18 (q := (yX5_readPathTest, 2)) (by decide +kernel), mv_at 1057 (by decide +kernel), rfl, pn_RX5, mh_RX5, pd_54⟩
abbrev mX5_readComparison : mv_M := (yX5_readComparison, cX5_readComparison, 4, (some (.object "TreePaths$Test")), [])
theorem pd_55 : (parseMethodDescriptor "(LTreePaths$Thing;I)LTreePaths$Test;").map (fun d => d.parameters.length) = some 2 := by decide +kernel
theorem vc_X5_readComparison : mv_vc RX5 mX5_readComparison 2 := ⟨mv_at 1096 (by decide +kernel), mv_atP 21 (q := (yX5_readComparison, 2)) (by decide +kernel), mv_at 1097 (by decide +kernel), rfl, pn_RX5, mh_RX5, pd_55⟩
abbrev mX5_seesRelation : mv_M := (yX5_seesRelation, cX5_seesRelation, 2, (some .boolean), [])
theorem vc_X5_seesRelation : mv_vc RX5 mX5_seesRelation 0 := ⟨mv_at 1060 (by decide +kernel), mv_atP 19 (q := (yX5_seesRelation, 2)) (by decide +kernel), mv_at 1061 (by decide +kernel), rfl, pn_RX5, mh_RX5, pd_7⟩
abbrev mX5_readRelation : mv_M := (yX5_readRelation, cX5_readRelation, 2, (some .int), [])
theorem pd_56 : (parseMethodDescriptor "()I").map (fun d => d.parameters.length) = some 0 := by decide +kernel
theorem vc_X5_readRelation : mv_vc RX5 mX5_readRelation 0 := ⟨mv_at 1100 (by decide +kernel), mv_atP 22 (q := (yX5_readRelation, 2)) (by decide +kernel), mv_at 1101 (by decide +kernel), rfl, pn_RX5, mh_RX5, pd_56⟩
abbrev mX5_readThing : mv_M := (yX5_readThing, cX5_readThing, 4, (some (.object "TreePaths$Thing")), [])
theorem pd_57 : (parseMethodDescriptor "(I)LTreePaths$Thing;").map (fun d => d.parameters.length) = some 1 := by decide +kernel
theorem vc_X5_readThing : mv_vc RX5 mX5_readThing 1 := ⟨mv_at 1104 (by decide +kernel), mv_atP 23 (q := (yX5_readThing, 2)) (by decide +kernel), mv_at 1105 (by decide +kernel), rfl, pn_RX5, mh_RX5, pd_57⟩
abbrev mX5_thingOfPath : mv_M := (yX5_thingOfPath, cX5_thingOfPath, 4, (some (.object "TreePaths$Thing")), [])
theorem pd_58 : (parseMethodDescriptor "(LTreePaths$Path;I)LTreePaths$Thing;").map (fun d => d.parameters.length) = some 2 := by decide +kernel
theorem vc_X5_thingOfPath : mv_vc RX5 mX5_thingOfPath 2 := ⟨mv_at 1064 (by decide +kernel), mv_atP 20 (q := (yX5_thingOfPath, 2)) (by decide +kernel), mv_at 1065 (by decide +kernel), rfl, pn_RX5, mh_RX5, pd_58⟩
abbrev mX5_readLength : mv_M := (yX5_readLength, cX5_readLength, 3, (some (.object "TreePaths$Thing")), [])
theorem vc_X5_readLength : mv_vc RX5 mX5_readLength 1 := ⟨mv_at 1108 (by decide +kernel), mv_atP 24 (q := (yX5_readLength, 2)) (by decide +kernel), mv_at 1109 (by decide +kernel), rfl, pn_RX5, mh_RX5, pd_57⟩
abbrev mX5_readCount : mv_M := (yX5_readCount, cX5_readCount, 3, (some (.object "TreePaths$Thing")), [])
theorem vc_X5_readCount : mv_vc RX5 mX5_readCount 1 := ⟨mv_at 1114 (by decide +kernel), mv_atP 25 (q := (yX5_readCount, 2)) (by decide +kernel), mv_at 1115 (by decide +kernel), rfl, pn_RX5, mh_RX5, pd_57⟩
abbrev mX6_init : mv_M := (yX6_init, cX6_init, 1, none, [])
theorem pn_RX6 : plainName RX6 = true := by decide +kernel
theorem mh_RX6 : RX6 ≠ "java/lang/invoke/MethodHandle" ∧ RX6 ≠ "java/lang/invoke/VarHandle" := by decide +kernel
theorem ic_X6_init : mv_ic mX6_init 0 := ⟨rfl, rfl, mv_at 133 (by decide +kernel), mv_at 134 (by decide +kernel), rfl, pn_RX6, mh_RX6, pd_1⟩
abbrev mX6_clear : mv_M := (yX6_clear, cX6_clear, 1, none, [])
theorem vc_X6_clear : mv_vc RX6 mX6_clear 0 := ⟨mv_at 843 (by decide +kernel), mv_at 844 (by decide +kernel), mv_at 845 (by decide +kernel), rfl, pn_RX6, mh_RX6, pd_1⟩
abbrev mX6_add : mv_M := (yX6_add, cX6_add, 2, none, [])
theorem vc_X6_add : mv_vc RX6 mX6_add 1 := ⟨mv_at 1208 (by decide +kernel), mv_at 1209 (by decide +kernel), mv_at 1210 (by decide +kernel), rfl, pn_RX6, mh_RX6, pd_4⟩
abbrev mX6_addIfThere : mv_M := (yX6_addIfThere, cX6_addIfThere, 2, none, [])
theorem vc_X6_addIfThere : mv_vc RX6 mX6_addIfThere 1 := ⟨mv_at 1226 (by decide +kernel), mv_at 1227 (by decide +kernel), mv_at 1228 (by decide +kernel), rfl, pn_RX6, mh_RX6, pd_4⟩
abbrev mX6_addAll : mv_M := (yX6_addAll, cX6_addAll, 3, none, [])
theorem pd_60 : (parseMethodDescriptor "(LTreePaths$Row;)V").map (fun d => d.parameters.length) = some 1 := by decide +kernel
theorem vc_X6_addAll : mv_vc RX6 mX6_addAll 1 := ⟨mv_at 1315 (by decide +kernel), mv_at 1316 (by decide +kernel), mv_at 1317 (by decide +kernel), rfl, pn_RX6, mh_RX6, pd_60⟩
abbrev mX7_init : mv_M := (yX7_init, cX7_init, 2, none, [])
theorem pn_RX7 : plainName RX7 = true := by decide +kernel
theorem mh_RX7 : RX7 ≠ "java/lang/invoke/MethodHandle" ∧ RX7 ≠ "java/lang/invoke/VarHandle" := by decide +kernel
theorem ic_X7_init : mv_ic mX7_init 1 := ⟨rfl, rfl, mv_at 904 (by decide +kernel), mv_at 905 (by decide +kernel), rfl, pn_RX7, mh_RX7, pd_43⟩
abbrev mX7_add : mv_M := (yX7_add, cX7_add, 2, none, [])
theorem pd_62 : (parseMethodDescriptor "(LTreePaths$Selector;)V").map (fun d => d.parameters.length) = some 1 := by decide +kernel
theorem vc_X7_add : mv_vc RX7 mX7_add 1 := ⟨mv_at 1132 (by decide +kernel), mv_at 1133 (by decide +kernel), mv_at 1134 (by decide +kernel), rfl, pn_RX7, mh_RX7, pd_62⟩
abbrev mX7_isSingle : mv_M := (yX7_isSingle, cX7_isSingle, 1, (some .boolean), [])
theorem vc_X7_isSingle : mv_vc RX7 mX7_isSingle 0 := ⟨mv_at 1148 (by decide +kernel), mv_at 1149 (by decide +kernel), mv_at 1150 (by decide +kernel), rfl, pn_RX7, mh_RX7, pd_7⟩
abbrev mX8_init : mv_M := (yX8_init, cX8_init, 2, none, [])
theorem pn_RX8 : plainName RX8 = true := by decide +kernel
theorem mh_RX8 : RX8 ≠ "java/lang/invoke/MethodHandle" ∧ RX8 ≠ "java/lang/invoke/VarHandle" := by decide +kernel
theorem ic_X8_init : mv_ic mX8_init 1 := ⟨rfl, rfl, mv_at 937 (by decide +kernel), mv_at 938 (by decide +kernel), rfl, pn_RX8, mh_RX8, pd_4⟩
abbrev mX9_init : mv_M := (yX9_init, cX9_init, 2, none, [])
theorem pn_RX9 : plainName RX9 = true := by decide +kernel
theorem mh_RX9 : RX9 ≠ "java/lang/invoke/MethodHandle" ∧ RX9 ≠ "java/lang/invoke/VarHandle" := by decide +kernel
theorem ic_X9_init : mv_ic mX9_init 1 := ⟨rfl, rfl, mv_at 999 (by decide +kernel), mv_at 1000 (by decide +kernel), rfl, pn_RX9, mh_RX9, pd_4⟩
abbrev mX9_add : mv_M := (yX9_add, cX9_add, 2, none, [])
theorem pd_65 : (parseMethodDescriptor "(LTreePaths$Test;)V").map (fun d => d.parameters.length) = some 1 := by decide +kernel
theorem vc_X9_add : mv_vc RX9 mX9_add 1 := ⟨mv_at 1047 (by decide +kernel), mv_at 1048 (by decide +kernel), mv_at 1049 (by decide +kernel), rfl, pn_RX9, mh_RX9, pd_65⟩
abbrev mX10_init : mv_M := (yX10_init, cX10_init, 2, none, [])
theorem pn_RX10 : plainName RX10 = true := by decide +kernel
theorem mh_RX10 : RX10 ≠ "java/lang/invoke/MethodHandle" ∧ RX10 ≠ "java/lang/invoke/VarHandle" := by decide +kernel
theorem ic_X10_init : mv_ic mX10_init 1 := ⟨rfl, rfl, mv_at 1069 (by decide +kernel), mv_at 1070 (by decide +kernel), rfl, pn_RX10, mh_RX10, pd_4⟩
abbrev mX11_init : mv_M := (yX11_init, cX11_init, 1, none, [])
theorem pn_RX11 : plainName RX11 = true := by decide +kernel
theorem mh_RX11 : RX11 ≠ "java/lang/invoke/MethodHandle" ∧ RX11 ≠ "java/lang/invoke/VarHandle" := by decide +kernel
theorem ic_X11_init : mv_ic mX11_init 0 := ⟨rfl, rfl, mv_at 173 (by decide +kernel), mv_at 174 (by decide +kernel), rfl, pn_RX11, mh_RX11, pd_1⟩
abbrev mX11_become : mv_M := (yX11_become, cX11_become, 4, none, [])
theorem pd_68 : (parseMethodDescriptor "(IILjava/lang/String;)V").map (fun d => d.parameters.length) = some 3 := by decide +kernel
theorem vc_X11_become : mv_vc RX11 mX11_become 3 := ⟨mv_at 741 (by decide +kernel), mv_at 742 (by decide +kernel), mv_at 743 (by decide +kernel), rfl, pn_RX11, mh_RX11, pd_68⟩
abbrev mX11_childCount : mv_M := (yX11_childCount, cX11_childCount, 1, (some .int), [])
theorem vc_X11_childCount : mv_vc RX11 mX11_childCount 0 := ⟨mv_at 1235 (by decide +kernel), mv_at 1236 (by decide +kernel), mv_at 1237 (by decide +kernel), rfl, pn_RX11, mh_RX11, pd_56⟩
abbrev mX12_init : mv_M := (yX12_init, cX12_init, 1, none, [])
theorem pn_RX12 : plainName RX12 = true := by decide +kernel
theorem mh_RX12 : RX12 ≠ "java/lang/invoke/MethodHandle" ∧ RX12 ≠ "java/lang/invoke/VarHandle" := by decide +kernel
theorem ic_X12_init : mv_ic mX12_init 0 := ⟨rfl, rfl, mv_at 35 (by decide +kernel), mv_at 36 (by decide +kernel), rfl, pn_RX12, mh_RX12, pd_1⟩
abbrev mX12_type : mv_M := (yX12_type, cX12_type, 2, (some .boolean), [])
theorem vc_X12_type : mv_vc RX12 mX12_type 1 := ⟨mv_at 281 (by decide +kernel), mv_at 282 (by decide +kernel), mv_at 283 (by decide +kernel), rfl, pn_RX12, mh_RX12, pd_5⟩
abbrev mX12_document : mv_M := (yX12_document, cX12_document, 2, (some .int), [])
theorem vc_X12_document : mv_vc RX12 mX12_document 0 := ⟨mv_at 689 (by decide +kernel), mv_at 690 (by decide +kernel), mv_at 691 (by decide +kernel), rfl, pn_RX12, mh_RX12, pd_56⟩
abbrev mX12_query : mv_M := (yX12_query, cX12_query, 1, (some .int), [])
theorem vc_X12_query : mv_vc RX12 mX12_query 0 := ⟨mv_at 850 (by decide +kernel), mv_at 851 (by decide +kernel), mv_at 852 (by decide +kernel), rfl, pn_RX12, mh_RX12, pd_56⟩
abbrev mX12_place : mv_M := (yX12_place, cX12_place, 1, (some .int), [])
theorem vc_X12_place : mv_vc RX12 mX12_place 0 := ⟨mv_at 387 (by decide +kernel), mv_at 388 (by decide +kernel), mv_at 389 (by decide +kernel), rfl, pn_RX12, mh_RX12, pd_56⟩
abbrev mX12_find : mv_M := (yX12_find, cX12_find, 1, (some .int), [])
theorem vc_X12_find : mv_vc RX12 mX12_find 0 := ⟨mv_at 1159 (by decide +kernel), mv_at 1160 (by decide +kernel), mv_at 1161 (by decide +kernel), rfl, pn_RX12, mh_RX12, pd_56⟩
abbrev mX12_found : mv_M := (yX12_found, cX12_found, 2, (some .int), [])
theorem vc_X12_found : mv_vc RX12 mX12_found 1 := ⟨mv_at 391 (by decide +kernel), mv_at 392 (by decide +kernel), mv_at 393 (by decide +kernel), rfl, pn_RX12, mh_RX12, pd_8⟩
abbrev mX12_kind : mv_M := (yX12_kind, cX12_kind, 2, (some .int), [])
theorem vc_X12_kind : mv_vc RX12 mX12_kind 1 := ⟨mv_at 395 (by decide +kernel), mv_at 396 (by decide +kernel), mv_at 397 (by decide +kernel), rfl, pn_RX12, mh_RX12, pd_8⟩
abbrev mX12_size : mv_M := (yX12_size, cX12_size, 2, (some .int), [])
theorem vc_X12_size : mv_vc RX12 mX12_size 1 := ⟨mv_at 403 (by decide +kernel), mv_at 404 (by decide +kernel), mv_at 405 (by decide +kernel), rfl, pn_RX12, mh_RX12, pd_8⟩
abbrev mX12_character : mv_M := (yX12_character, cX12_character, 3, (some .int), [])
theorem vc_X12_character : mv_vc RX12 mX12_character 2 := ⟨mv_at 407 (by decide +kernel), mv_at 408 (by decide +kernel), mv_at 409 (by decide +kernel), rfl, pn_RX12, mh_RX12, pd_15⟩
abbrev mX12_outer : mv_M := (yX12_outer, cX12_outer, 2, (some .int), [])
theorem vc_X12_outer : mv_vc RX12 mX12_outer 1 := ⟨mv_at 432 (by decide +kernel), mv_at 433 (by decide +kernel), mv_at 434 (by decide +kernel), rfl, pn_RX12, mh_RX12, pd_8⟩
abbrev mX12_path : mv_M := (yX12_path, cX12_path, 3, (some .int), [])
theorem vc_X12_path : mv_vc RX12 mX12_path 2 := ⟨mv_at 436 (by decide +kernel), mv_at 437 (by decide +kernel), mv_at 438 (by decide +kernel), rfl, pn_RX12, mh_RX12, pd_15⟩
abbrev mX12_text : mv_M := (yX12_text, cX12_text, 3, (some .int), [])
theorem vc_X12_text : mv_vc RX12 mX12_text 2 := ⟨mv_at 676 (by decide +kernel), mv_at 677 (by decide +kernel), mv_at 678 (by decide +kernel), rfl, pn_RX12, mh_RX12, pd_15⟩
abbrev mX12_takeText : mv_M := (yX12_takeText, cX12_takeText, 2, (some (.object "java/lang/String")), [])
theorem vc_X12_takeText : mv_vc RX12 mX12_takeText 0 := ⟨mv_at 694 (by decide +kernel), mv_atP 2 (q := (yX12_takeText, 10)) (by decide +kernel), mv_at 695 (by decide +kernel), rfl, pn_RX12, mh_RX12, pd_10⟩
abbrev mX13_init : mv_M := (yX13_init, cX13_init, 1, none, [])
theorem pn_RX13 : plainName RX13 = true := by decide +kernel
theorem mh_RX13 : RX13 ≠ "java/lang/invoke/MethodHandle" ∧ RX13 ≠ "java/lang/invoke/VarHandle" := by decide +kernel
theorem ic_X13_init : mv_ic mX13_init 0 := ⟨rfl, rfl, mv_at 1321 (by decide +kernel), mv_at 1322 (by decide +kernel), rfl, pn_RX13, mh_RX13, pd_1⟩
abbrev mX13_thrown : mv_M := (yX13_thrown, cX13_thrown, 1, (some .int), [])
theorem vc_X13_thrown : mv_vc RX13 mX13_thrown 0 := ⟨mv_at 1591 (by decide +kernel), mv_at 1592 (by decide +kernel), mv_at 1593 (by decide +kernel), rfl, pn_RX13, mh_RX13, pd_56⟩
abbrev mX13_type : mv_M := (yX13_type, cX13_type, 2, (some .boolean), [])
theorem vc_X13_type : mv_vc RX13 mX13_type 1 := ⟨mv_at 1595 (by decide +kernel), mv_at 1596 (by decide +kernel), mv_at 1597 (by decide +kernel), rfl, pn_RX13, mh_RX13, pd_5⟩
abbrev mX13_take : mv_M := (yX13_take, cX13_take, 4, none, [])
theorem pd_71 : (parseMethodDescriptor "([BI)V").map (fun d => d.parameters.length) = some 2 := by decide +kernel
theorem vc_X13_take : mv_vc RX13 mX13_take 2 := ⟨mv_at 1604 (by decide +kernel), mv_atP 43 (q := (yX13_take, 88)) (by decide +kernel), mv_at 1605 (by decide +kernel), rfl, pn_RX13, mh_RX13, pd_71⟩
abbrev mX13_at : mv_M := (yX13_at, cX13_at, 2, (some .int), [])
theorem vc_X13_at : mv_vc RX13 mX13_at 1 := ⟨mv_at 1620 (by decide +kernel), mv_atP 47 (q := (yX13_at, 88)) (by decide +kernel), mv_at 1621 (by decide +kernel), rfl, pn_RX13, mh_RX13, pd_8⟩
abbrev mX13_good : mv_M := (yX13_good, cX13_good, 1, (some .boolean), [])
theorem vc_X13_good : mv_vc RX13 mX13_good 0 := ⟨mv_at 1612 (by decide +kernel), mv_atP 45 (q := (yX13_good, 88)) (by decide +kernel), mv_at 1613 (by decide +kernel), rfl, pn_RX13, mh_RX13, pd_7⟩
abbrev mX13_fail : mv_M := (yX13_fail, cX13_fail, 2, none, [])
theorem vc_X13_fail : mv_vc RX13 mX13_fail 1 := ⟨mv_at 1624 (by decide +kernel), mv_atP 48 (q := (yX13_fail, 88)) (by decide +kernel), mv_at 1625 (by decide +kernel), rfl, pn_RX13, mh_RX13, pd_4⟩
abbrev mX13_isDigit : mv_M := (yX13_isDigit, cX13_isDigit, 1, (some .boolean), [])
theorem sc_X13_isDigit : mv_sc mX13_isDigit 1 := ⟨mv_at 1663 (by decide +kernel), mv_at 13 (by decide +kernel), mv_at 1664 (by decide +kernel), rfl, pn_RX13, mh_RX13, pd_13⟩
abbrev mX13_isLetter : mv_M := (yX13_isLetter, cX13_isLetter, 1, (some .boolean), [])
theorem sc_X13_isLetter : mv_sc mX13_isLetter 1 := ⟨mv_at 1710 (by decide +kernel), mv_at 13 (by decide +kernel), mv_at 1711 (by decide +kernel), rfl, pn_RX13, mh_RX13, pd_13⟩
abbrev mX13_need : mv_M := (yX13_need, cX13_need, 2, none, [])
theorem vc_X13_need : mv_vc RX13 mX13_need 1 := ⟨mv_at 1656 (by decide +kernel), mv_atP 56 (q := (yX13_need, 88)) (by decide +kernel), mv_at 1657 (by decide +kernel), rfl, pn_RX13, mh_RX13, pd_4⟩
abbrev mX13_word : mv_M := (yX13_word, cX13_word, 5, none, [])
theorem pd_72 : (parseMethodDescriptor "(JI)V").map (fun d => d.parameters.length) = some 2 := by decide +kernel
theorem vc_X13_word : mv_vc RX13 mX13_word 2 := ⟨mv_at 1672 (by decide +kernel), mv_atP 59 (q := (yX13_word, 88)) (by decide +kernel), mv_at 1673 (by decide +kernel), rfl, pn_RX13, mh_RX13, pd_72⟩
abbrev mX13_readString : mv_M := (yX13_readString, cX13_readString, 4, none, [])
theorem vc_X13_readString : mv_vc RX13 mX13_readString 2 := ⟨mv_at 1648 (by decide +kernel), mv_atP 54 (q := (yX13_readString, 88)) (by decide +kernel), mv_at 1649 (by decide +kernel), rfl, pn_RX13, mh_RX13, pd_23⟩
abbrev mX13_readNumber : mv_M := (yX13_readNumber, cX13_readNumber, 6, (some .int), [])
theorem vc_X13_readNumber : mv_vc RX13 mX13_readNumber 1 := ⟨mv_at 1667 (by decide +kernel), mv_atP 58 (q := (yX13_readNumber, 88)) (by decide +kernel), mv_at 1668 (by decide +kernel), rfl, pn_RX13, mh_RX13, pd_8⟩
abbrev mX13_blanks : mv_M := (yX13_blanks, cX13_blanks, 1, none, [])
theorem vc_X13_blanks : mv_vc RX13 mX13_blanks 0 := ⟨mv_at 1616 (by decide +kernel), mv_atP 46 (q := (yX13_blanks, 88)) (by decide +kernel), mv_at 1617 (by decide +kernel), rfl, pn_RX13, mh_RX13, pd_1⟩
abbrev mX13_top : mv_M := (yX13_top, cX13_top, 1, (some .int), [])
theorem vc_X13_top : mv_vc RX13 mX13_top 0 := ⟨mv_at 1636 (by decide +kernel), mv_atP 51 (q := (yX13_top, 88)) (by decide +kernel), mv_at 1637 (by decide +kernel), rfl, pn_RX13, mh_RX13, pd_56⟩
abbrev mX13_finish : mv_M := (yX13_finish, cX13_finish, 2, none, [])
theorem vc_X13_finish : mv_vc RX13 mX13_finish 1 := ⟨mv_at 1640 (by decide +kernel), mv_atP 52 (q := (yX13_finish, 88)) (by decide +kernel), mv_at 1641 (by decide +kernel), rfl, pn_RX13, mh_RX13, pd_4⟩
abbrev mX13_readValue : mv_M := (yX13_readValue, cX13_readValue, 4, none, [])
theorem vc_X13_readValue : mv_vc RX13 mX13_readValue 0 := ⟨mv_at 1660 (by decide +kernel), mv_atP 57 (q := (yX13_readValue, 88)) (by decide +kernel), mv_at 1661 (by decide +kernel), rfl, pn_RX13, mh_RX13, pd_1⟩
abbrev mX13_isSame : mv_M := (yX13_isSame, cX13_isSame, 9, (some .boolean), [])
theorem pd_73 : (parseMethodDescriptor "([BII[BII)Z").map (fun d => d.parameters.length) = some 6 := by decide +kernel
theorem vc_X13_isSame : mv_vc RX13 mX13_isSame 6 := ⟨mv_at 1652 (by decide +kernel), mv_atP 55 (q := (yX13_isSame, 88)) (by decide +kernel), mv_at 1653 (by decide +kernel), rfl, pn_RX13, mh_RX13, pd_73⟩
abbrev mX13_readName : mv_M := (yX13_readName, cX13_readName, 3, none, [])
theorem vc_X13_readName : mv_vc RX13 mX13_readName 0 := ⟨mv_at 1644 (by decide +kernel), mv_atP 53 (q := (yX13_readName, 88)) (by decide +kernel), mv_at 1645 (by decide +kernel), rfl, pn_RX13, mh_RX13, pd_1⟩
abbrev mX13_shut : mv_M := (yX13_shut, cX13_shut, 2, none, [])
theorem vc_X13_shut : mv_vc RX13 mX13_shut 1 := ⟨mv_at 1632 (by decide +kernel), mv_atP 50 (q := (yX13_shut, 88)) (by decide +kernel), mv_at 1633 (by decide +kernel), rfl, pn_RX13, mh_RX13, pd_4⟩
abbrev mX13_readStep : mv_M := (yX13_readStep, cX13_readStep, 4, (some .int), [])
theorem vc_X13_readStep : mv_vc RX13 mX13_readStep 1 := ⟨mv_at 1628 (by decide +kernel), mv_atP 49 (q := (yX13_readStep, 88)) (by decide +kernel), mv_at 1629 (by decide +kernel), rfl, pn_RX13, mh_RX13, pd_8⟩
abbrev mX13_readDocument : mv_M := (yX13_readDocument, cX13_readDocument, 3, none, [])
theorem vc_X13_readDocument : mv_vc RX13 mX13_readDocument 0 := ⟨mv_at 1608 (by decide +kernel), mv_atP 44 (q := (yX13_readDocument, 88)) (by decide +kernel), mv_at 1609 (by decide +kernel), rfl, pn_RX13, mh_RX13, pd_1⟩
abbrev mX13_document : mv_M := (yX13_document, cX13_document, 3, (some .int), [])
theorem vc_X13_document : mv_vc RX13 mX13_document 0 := ⟨mv_at 1599 (by decide +kernel), mv_at 1600 (by decide +kernel), mv_at 1601 (by decide +kernel), rfl, pn_RX13, mh_RX13, pd_56⟩
abbrev mX13_push : mv_M := (yX13_push, cX13_push, 4, none, [])
theorem vc_X13_push : mv_vc RX13 mX13_push 3 := ⟨mv_at 1691 (by decide +kernel), mv_atP 62 (q := (yX13_push, 88)) (by decide +kernel), mv_at 1692 (by decide +kernel), rfl, pn_RX13, mh_RX13, pd_22⟩
abbrev mX13_newPath : mv_M := (yX13_newPath, cX13_newPath, 2, (some .int), [])
theorem pd_74 : (parseMethodDescriptor "(Z)I").map (fun d => d.parameters.length) = some 1 := by decide +kernel
theorem vc_X13_newPath : mv_vc RX13 mX13_newPath 1 := ⟨mv_at 1687 (by decide +kernel), mv_atP 61 (q := (yX13_newPath, 88)) (by decide +kernel), mv_at 1688 (by decide +kernel), rfl, pn_RX13, mh_RX13, pd_74⟩
abbrev mX13_newSegment : mv_M := (yX13_newSegment, cX13_newSegment, 4, (some .int), [])
theorem pd_75 : (parseMethodDescriptor "(IZ)I").map (fun d => d.parameters.length) = some 2 := by decide +kernel
theorem vc_X13_newSegment : mv_vc RX13 mX13_newSegment 2 := ⟨mv_at 1703 (by decide +kernel), mv_atP 65 (q := (yX13_newSegment, 88)) (by decide +kernel), mv_at 1704 (by decide +kernel), rfl, pn_RX13, mh_RX13, pd_75⟩
abbrev mX13_newSelector : mv_M := (yX13_newSelector, cX13_newSelector, 8, (some .int), [])
theorem pd_76 : (parseMethodDescriptor "(IIIIII)I").map (fun d => d.parameters.length) = some 6 := by decide +kernel
theorem vc_X13_newSelector : mv_vc RX13 mX13_newSelector 6 := ⟨mv_at 1707 (by decide +kernel), mv_atP 66 (q := (yX13_newSelector, 88)) (by decide +kernel), mv_at 1708 (by decide +kernel), rfl, pn_RX13, mh_RX13, pd_76⟩
abbrev mX13_emit : mv_M := (yX13_emit, cX13_emit, 6, none, [])
theorem pd_77 : (parseMethodDescriptor "(IIII)V").map (fun d => d.parameters.length) = some 4 := by decide +kernel
theorem vc_X13_emit : mv_vc RX13 mX13_emit 4 := ⟨mv_at 1754 (by decide +kernel), mv_atP 77 (q := (yX13_emit, 88)) (by decide +kernel), mv_at 1755 (by decide +kernel), rfl, pn_RX13, mh_RX13, pd_77⟩
abbrev mX13_readMore : mv_M := (yX13_readMore, cX13_readMore, 6, none, [])
theorem vc_X13_readMore : mv_vc RX13 mX13_readMore 1 := ⟨mv_at 1699 (by decide +kernel), mv_atP 64 (q := (yX13_readMore, 88)) (by decide +kernel), mv_at 1700 (by decide +kernel), rfl, pn_RX13, mh_RX13, pd_4⟩
abbrev mX13_isNumberNext : mv_M := (yX13_isNumberNext, cX13_isNumberNext, 1, (some .boolean), [])
theorem vc_X13_isNumberNext : mv_vc RX13 mX13_isNumberNext 0 := ⟨mv_at 1718 (by decide +kernel), mv_atP 68 (q := (yX13_isNumberNext, 88)) (by decide +kernel), mv_at 1719 (by decide +kernel), rfl, pn_RX13, mh_RX13, pd_7⟩
abbrev mX13_readPlaces : mv_M := (yX13_readPlaces, cX13_readPlaces, 6, none, [])
theorem vc_X13_readPlaces : mv_vc RX13 mX13_readPlaces 1 := ⟨mv_at 1722 (by decide +kernel), mv_atP 69 (q := (yX13_readPlaces, 88)) (by decide +kernel), mv_at 1723 (by decide +kernel), rfl, pn_RX13, mh_RX13, pd_4⟩
abbrev mX13_opens : mv_M := (yX13_opens, cX13_opens, 1, none, [])
theorem vc_X13_opens : mv_vc RX13 mX13_opens 0 := ⟨mv_at 1726 (by decide +kernel), mv_atP 70 (q := (yX13_opens, 88)) (by decide +kernel), mv_at 1727 (by decide +kernel), rfl, pn_RX13, mh_RX13, pd_1⟩
abbrev mX13_bracket : mv_M := (yX13_bracket, cX13_bracket, 1, none, [])
theorem vc_X13_bracket : mv_vc RX13 mX13_bracket 0 := ⟨mv_at 1767 (by decide +kernel), mv_atP 80 (q := (yX13_bracket, 88)) (by decide +kernel), mv_at 1768 (by decide +kernel), rfl, pn_RX13, mh_RX13, pd_1⟩
abbrev mX13_readSelector : mv_M := (yX13_readSelector, cX13_readSelector, 3, none, [])
theorem vc_X13_readSelector : mv_vc RX13 mX13_readSelector 1 := ⟨mv_at 1714 (by decide +kernel), mv_atP 67 (q := (yX13_readSelector, 88)) (by decide +kernel), mv_at 1715 (by decide +kernel), rfl, pn_RX13, mh_RX13, pd_4⟩
abbrev mX13_readNext : mv_M := (yX13_readNext, cX13_readNext, 2, none, [])
theorem vc_X13_readNext : mv_vc RX13 mX13_readNext 1 := ⟨mv_at 1730 (by decide +kernel), mv_atP 71 (q := (yX13_readNext, 88)) (by decide +kernel), mv_at 1731 (by decide +kernel), rfl, pn_RX13, mh_RX13, pd_4⟩
abbrev mX13_isTwice : mv_M := (yX13_isTwice, cX13_isTwice, 2, (some .boolean), [])
theorem vc_X13_isTwice : mv_vc RX13 mX13_isTwice 1 := ⟨mv_at 1734 (by decide +kernel), mv_atP 72 (q := (yX13_isTwice, 88)) (by decide +kernel), mv_at 1735 (by decide +kernel), rfl, pn_RX13, mh_RX13, pd_13⟩
abbrev mX13_readTest : mv_M := (yX13_readTest, cX13_readTest, 4, none, [])
theorem vc_X13_readTest : mv_vc RX13 mX13_readTest 1 := ⟨mv_at 1738 (by decide +kernel), mv_atP 73 (q := (yX13_readTest, 88)) (by decide +kernel), mv_at 1739 (by decide +kernel), rfl, pn_RX13, mh_RX13, pd_4⟩
abbrev mX13_isSingle : mv_M := (yX13_isSingle, cX13_isSingle, 4, (some .boolean), [])
theorem vc_X13_isSingle : mv_vc RX13 mX13_isSingle 1 := ⟨mv_at 1750 (by decide +kernel), mv_atP 76 (q := (yX13_isSingle, 88)) (by decide +kernel), mv_at 1751 (by decide +kernel), rfl, pn_RX13, mh_RX13, pd_13⟩
abbrev mX13_mustBeSingle : mv_M := (yX13_mustBeSingle, cX13_mustBeSingle, 2, none, [])
theorem vc_X13_mustBeSingle : mv_vc RX13 mX13_mustBeSingle 1 := ⟨mv_at 1746 (by decide +kernel), mv_atP 75 (q := (yX13_mustBeSingle, 88)) (by decide +kernel), mv_at 1747 (by decide +kernel), rfl, pn_RX13, mh_RX13, pd_4⟩
abbrev mX13_readTestPath : mv_M := (yX13_readTestPath, cX13_readTestPath, 4, none, [])
theorem vc_X13_readTestPath : mv_vc RX13 mX13_readTestPath 2 := ⟨mv_at 1742 (by decide +kernel), mv_atP 74 (q := (yX13_readTestPath, 88)) (by decide +kernel), mv_at 1743 (by decide +kernel), rfl, pn_RX13, mh_RX13, pd_23⟩
abbrev mX13_readRelation : mv_M := (yX13_readRelation, cX13_readRelation, 5, none, [])
theorem vc_X13_readRelation : mv_vc RX13 mX13_readRelation 1 := ⟨mv_at 1758 (by decide +kernel), mv_atP 78 (q := (yX13_readRelation, 88)) (by decide +kernel), mv_at 1759 (by decide +kernel), rfl, pn_RX13, mh_RX13, pd_4⟩
abbrev mX13_readThing : mv_M := (yX13_readThing, cX13_readThing, 3, none, [])
theorem vc_X13_readThing : mv_vc RX13 mX13_readThing 1 := ⟨mv_at 1762 (by decide +kernel), mv_atP 79 (q := (yX13_readThing, 88)) (by decide +kernel), mv_at 1763 (by decide +kernel), rfl, pn_RX13, mh_RX13, pd_4⟩
abbrev mX13_readPathThing : mv_M := (yX13_readPathThing, cX13_readPathThing, 5, none, [])
theorem vc_X13_readPathThing : mv_vc RX13 mX13_readPathThing 2 := ⟨mv_at 1772 (by decide +kernel), mv_atP 81 (q := (yX13_readPathThing, 88)) (by decide +kernel), mv_at 1773 (by decide +kernel), rfl, pn_RX13, mh_RX13, pd_23⟩
abbrev mX13_readPart : mv_M := (yX13_readPart, cX13_readPart, 4, none, [])
theorem vc_X13_readPart : mv_vc RX13 mX13_readPart 3 := ⟨mv_at 1695 (by decide +kernel), mv_atP 63 (q := (yX13_readPart, 88)) (by decide +kernel), mv_at 1696 (by decide +kernel), rfl, pn_RX13, mh_RX13, pd_22⟩
abbrev mX13_readEnd : mv_M := (yX13_readEnd, cX13_readEnd, 4, none, [])
theorem vc_X13_readEnd : mv_vc RX13 mX13_readEnd 3 := ⟨mv_at 1776 (by decide +kernel), mv_atP 82 (q := (yX13_readEnd, 88)) (by decide +kernel), mv_at 1777 (by decide +kernel), rfl, pn_RX13, mh_RX13, pd_22⟩
abbrev mX13_readQuery : mv_M := (yX13_readQuery, cX13_readQuery, 3, (some .int), [])
theorem vc_X13_readQuery : mv_vc RX13 mX13_readQuery 0 := ⟨mv_at 1683 (by decide +kernel), mv_atP 60 (q := (yX13_readQuery, 88)) (by decide +kernel), mv_at 1684 (by decide +kernel), rfl, pn_RX13, mh_RX13, pd_56⟩
abbrev mX13_query : mv_M := (yX13_query, cX13_query, 4, (some .int), [])
theorem vc_X13_query : mv_vc RX13 mX13_query 0 := ⟨mv_at 1678 (by decide +kernel), mv_at 1679 (by decide +kernel), mv_at 1680 (by decide +kernel), rfl, pn_RX13, mh_RX13, pd_56⟩
abbrev mX13_place : mv_M := (yX13_place, cX13_place, 1, (some .int), [])
theorem vc_X13_place : mv_vc RX13 mX13_place 0 := ⟨mv_at 1779 (by decide +kernel), mv_at 1780 (by decide +kernel), mv_at 1781 (by decide +kernel), rfl, pn_RX13, mh_RX13, pd_56⟩
abbrev mX13_follower : mv_M := (yX13_follower, cX13_follower, 4, (some .int), [])
theorem vc_X13_follower : mv_vc RX13 mX13_follower 2 := ⟨mv_at 1821 (by decide +kernel), mv_atP 91 (q := (yX13_follower, 88)) (by decide +kernel), mv_at 1822 (by decide +kernel), rfl, pn_RX13, mh_RX13, pd_15⟩
abbrev mX13_children : mv_M := (yX13_children, cX13_children, 4, (some .int), [])
theorem vc_X13_children : mv_vc RX13 mX13_children 1 := ⟨mv_at 1829 (by decide +kernel), mv_atP 93 (q := (yX13_children, 88)) (by decide +kernel), mv_at 1830 (by decide +kernel), rfl, pn_RX13, mh_RX13, pd_8⟩
abbrev mX13_childAt : mv_M := (yX13_childAt, cX13_childAt, 5, (some .int), [])
theorem vc_X13_childAt : mv_vc RX13 mX13_childAt 2 := ⟨mv_at 1837 (by decide +kernel), mv_atP 95 (q := (yX13_childAt, 88)) (by decide +kernel), mv_at 1838 (by decide +kernel), rfl, pn_RX13, mh_RX13, pd_15⟩
abbrev mX13_add : mv_M := (yX13_add, cX13_add, 3, none, [])
theorem vc_X13_add : mv_vc RX13 mX13_add 2 := ⟨mv_at 1825 (by decide +kernel), mv_atP 92 (q := (yX13_add, 88)) (by decide +kernel), mv_at 1826 (by decide +kernel), rfl, pn_RX13, mh_RX13, pd_23⟩
abbrev mX13_addPlace : mv_M := (yX13_addPlace, cX13_addPlace, 4, none, [])
theorem vc_X13_addPlace : mv_vc RX13 mX13_addPlace 2 := ⟨mv_at 1833 (by decide +kernel), mv_atP 94 (q := (yX13_addPlace, 88)) (by decide +kernel), mv_at 1834 (by decide +kernel), rfl, pn_RX13, mh_RX13, pd_23⟩
abbrev mX13_slice : mv_M := (yX13_slice, cX13_slice, 10, none, [])
theorem vc_X13_slice : mv_vc RX13 mX13_slice 2 := ⟨mv_at 1841 (by decide +kernel), mv_atP 96 (q := (yX13_slice, 88)) (by decide +kernel), mv_at 1842 (by decide +kernel), rfl, pn_RX13, mh_RX13, pd_23⟩
abbrev mX13_select : mv_M := (yX13_select, cX13_select, 6, none, [])
theorem vc_X13_select : mv_vc RX13 mX13_select 2 := ⟨mv_at 1817 (by decide +kernel), mv_atP 90 (q := (yX13_select, 88)) (by decide +kernel), mv_at 1818 (by decide +kernel), rfl, pn_RX13, mh_RX13, pd_23⟩
abbrev mX13_enter : mv_M := (yX13_enter, cX13_enter, 5, none, [])
theorem vc_X13_enter : mv_vc RX13 mX13_enter 3 := ⟨mv_at 1788 (by decide +kernel), mv_atP 83 (q := (yX13_enter, 88)) (by decide +kernel), mv_at 1789 (by decide +kernel), rfl, pn_RX13, mh_RX13, pd_22⟩
abbrev mX13_value : mv_M := (yX13_value, cX13_value, 4, none, [])
theorem vc_X13_value : mv_vc RX13 mX13_value 3 := ⟨mv_at 1800 (by decide +kernel), mv_atP 86 (q := (yX13_value, 88)) (by decide +kernel), mv_at 1801 (by decide +kernel), rfl, pn_RX13, mh_RX13, pd_22⟩
abbrev mX13_nodeValue : mv_M := (yX13_nodeValue, cX13_nodeValue, 3, none, [])
theorem vc_X13_nodeValue : mv_vc RX13 mX13_nodeValue 1 := ⟨mv_at 1804 (by decide +kernel), mv_atP 87 (q := (yX13_nodeValue, 88)) (by decide +kernel), mv_at 1805 (by decide +kernel), rfl, pn_RX13, mh_RX13, pd_4⟩
abbrev mX13_leave : mv_M := (yX13_leave, cX13_leave, 4, none, [])
theorem vc_X13_leave : mv_vc RX13 mX13_leave 1 := ⟨mv_at 1796 (by decide +kernel), mv_atP 85 (q := (yX13_leave, 88)) (by decide +kernel), mv_at 1797 (by decide +kernel), rfl, pn_RX13, mh_RX13, pd_4⟩
abbrev mX13_stepNode : mv_M := (yX13_stepNode, cX13_stepNode, 3, none, [])
theorem vc_X13_stepNode : mv_vc RX13 mX13_stepNode 1 := ⟨mv_at 1808 (by decide +kernel), mv_atP 88 (q := (yX13_stepNode, 88)) (by decide +kernel), mv_at 1809 (by decide +kernel), rfl, pn_RX13, mh_RX13, pd_4⟩
abbrev mX13_stepSelector : mv_M := (yX13_stepSelector, cX13_stepSelector, 3, none, [])
theorem vc_X13_stepSelector : mv_vc RX13 mX13_stepSelector 1 := ⟨mv_at 1813 (by decide +kernel), mv_atP 89 (q := (yX13_stepSelector, 88)) (by decide +kernel), mv_at 1814 (by decide +kernel), rfl, pn_RX13, mh_RX13, pd_4⟩
abbrev mX13_stepChild : mv_M := (yX13_stepChild, cX13_stepChild, 3, none, [])
theorem vc_X13_stepChild : mv_vc RX13 mX13_stepChild 1 := ⟨mv_at 1845 (by decide +kernel), mv_atP 97 (q := (yX13_stepChild, 88)) (by decide +kernel), mv_at 1846 (by decide +kernel), rfl, pn_RX13, mh_RX13, pd_4⟩
abbrev mX13_takeTruth : mv_M := (yX13_takeTruth, cX13_takeTruth, 1, (some .boolean), [])
theorem vc_X13_takeTruth : mv_vc RX13 mX13_takeTruth 0 := ⟨mv_at 1853 (by decide +kernel), mv_atP 99 (q := (yX13_takeTruth, 88)) (by decide +kernel), mv_at 1854 (by decide +kernel), rfl, pn_RX13, mh_RX13, pd_7⟩
abbrev mX13_stepOp : mv_M := (yX13_stepOp, cX13_stepOp, 4, none, [])
theorem vc_X13_stepOp : mv_vc RX13 mX13_stepOp 1 := ⟨mv_at 1849 (by decide +kernel), mv_atP 98 (q := (yX13_stepOp, 88)) (by decide +kernel), mv_at 1850 (by decide +kernel), rfl, pn_RX13, mh_RX13, pd_4⟩
abbrev mX13_logic : mv_M := (yX13_logic, cX13_logic, 5, none, [])
theorem vc_X13_logic : mv_vc RX13 mX13_logic 1 := ⟨mv_at 1893 (by decide +kernel), mv_atP 109 (q := (yX13_logic, 88)) (by decide +kernel), mv_at 1894 (by decide +kernel), rfl, pn_RX13, mh_RX13, pd_4⟩
abbrev mX13_lengthOf : mv_M := (yX13_lengthOf, cX13_lengthOf, 2, none, [])
theorem vc_X13_lengthOf : mv_vc RX13 mX13_lengthOf 0 := ⟨mv_at 1857 (by decide +kernel), mv_atP 100 (q := (yX13_lengthOf, 88)) (by decide +kernel), mv_at 1858 (by decide +kernel), rfl, pn_RX13, mh_RX13, pd_1⟩
abbrev mX13_letterOf : mv_M := (yX13_letterOf, cX13_letterOf, 3, (some .int), [])
theorem vc_X13_letterOf : mv_vc RX13 mX13_letterOf 2 := ⟨mv_at 1873 (by decide +kernel), mv_atP 104 (q := (yX13_letterOf, 88)) (by decide +kernel), mv_at 1874 (by decide +kernel), rfl, pn_RX13, mh_RX13, pd_15⟩
abbrev mX13_order : mv_M := (yX13_order, cX13_order, 7, (some .int), [])
theorem pd_78 : (parseMethodDescriptor "(IIII)I").map (fun d => d.parameters.length) = some 4 := by decide +kernel
theorem vc_X13_order : mv_vc RX13 mX13_order 4 := ⟨mv_at 1869 (by decide +kernel), mv_atP 103 (q := (yX13_order, 88)) (by decide +kernel), mv_at 1870 (by decide +kernel), rfl, pn_RX13, mh_RX13, pd_78⟩
abbrev mX13_isLeafAlike : mv_M := (yX13_isLeafAlike, cX13_isLeafAlike, 3, (some .boolean), [])
theorem pd_79 : (parseMethodDescriptor "(II)Z").map (fun d => d.parameters.length) = some 2 := by decide +kernel
theorem vc_X13_isLeafAlike : mv_vc RX13 mX13_isLeafAlike 2 := ⟨mv_at 1881 (by decide +kernel), mv_atP 106 (q := (yX13_isLeafAlike, 88)) (by decide +kernel), mv_at 1882 (by decide +kernel), rfl, pn_RX13, mh_RX13, pd_79⟩
abbrev mX13_answer : mv_M := (yX13_answer, cX13_answer, 6, (some .int), [])
theorem vc_X13_answer : mv_vc RX13 mX13_answer 4 := ⟨mv_at 1885 (by decide +kernel), mv_atP 107 (q := (yX13_answer, 88)) (by decide +kernel), mv_at 1886 (by decide +kernel), rfl, pn_RX13, mh_RX13, pd_78⟩
abbrev mX13_isAlike : mv_M := (yX13_isAlike, cX13_isAlike, 10, (some .boolean), [])
theorem vc_X13_isAlike : mv_vc RX13 mX13_isAlike 2 := ⟨mv_at 1877 (by decide +kernel), mv_atP 105 (q := (yX13_isAlike, 88)) (by decide +kernel), mv_at 1878 (by decide +kernel), rfl, pn_RX13, mh_RX13, pd_79⟩
abbrev mX13_isEqual : mv_M := (yX13_isEqual, cX13_isEqual, 4, (some .boolean), [])
theorem vc_X13_isEqual : mv_vc RX13 mX13_isEqual 2 := ⟨mv_at 1865 (by decide +kernel), mv_atP 102 (q := (yX13_isEqual, 88)) (by decide +kernel), mv_at 1866 (by decide +kernel), rfl, pn_RX13, mh_RX13, pd_79⟩
abbrev mX13_isLess : mv_M := (yX13_isLess, cX13_isLess, 4, (some .boolean), [])
theorem vc_X13_isLess : mv_vc RX13 mX13_isLess 2 := ⟨mv_at 1889 (by decide +kernel), mv_atP 108 (q := (yX13_isLess, 88)) (by decide +kernel), mv_at 1890 (by decide +kernel), rfl, pn_RX13, mh_RX13, pd_79⟩
abbrev mX13_compare : mv_M := (yX13_compare, cX13_compare, 6, none, [])
theorem vc_X13_compare : mv_vc RX13 mX13_compare 1 := ⟨mv_at 1861 (by decide +kernel), mv_atP 101 (q := (yX13_compare, 88)) (by decide +kernel), mv_at 1862 (by decide +kernel), rfl, pn_RX13, mh_RX13, pd_4⟩
abbrev mX13_step : mv_M := (yX13_step, cX13_step, 2, none, [])
theorem vc_X13_step : mv_vc RX13 mX13_step 0 := ⟨mv_at 1792 (by decide +kernel), mv_atP 84 (q := (yX13_step, 88)) (by decide +kernel), mv_at 1793 (by decide +kernel), rfl, pn_RX13, mh_RX13, pd_1⟩
abbrev mX13_find : mv_M := (yX13_find, cX13_find, 2, (some .int), [])
theorem vc_X13_find : mv_vc RX13 mX13_find 0 := ⟨mv_at 1783 (by decide +kernel), mv_at 1784 (by decide +kernel), mv_at 1785 (by decide +kernel), rfl, pn_RX13, mh_RX13, pd_56⟩
abbrev mX13_found : mv_M := (yX13_found, cX13_found, 2, (some .int), [])
theorem vc_X13_found : mv_vc RX13 mX13_found 1 := ⟨mv_at 1896 (by decide +kernel), mv_at 1897 (by decide +kernel), mv_at 1898 (by decide +kernel), rfl, pn_RX13, mh_RX13, pd_8⟩
abbrev mX13_isNode : mv_M := (yX13_isNode, cX13_isNode, 2, (some .boolean), [])
theorem vc_X13_isNode : mv_vc RX13 mX13_isNode 1 := ⟨mv_at 1905 (by decide +kernel), mv_atP 110 (q := (yX13_isNode, 88)) (by decide +kernel), mv_at 1906 (by decide +kernel), rfl, pn_RX13, mh_RX13, pd_13⟩
abbrev mX13_kind : mv_M := (yX13_kind, cX13_kind, 2, (some .int), [])
theorem vc_X13_kind : mv_vc RX13 mX13_kind 1 := ⟨mv_at 1900 (by decide +kernel), mv_at 1901 (by decide +kernel), mv_at 1902 (by decide +kernel), rfl, pn_RX13, mh_RX13, pd_8⟩
abbrev mX13_size : mv_M := (yX13_size, cX13_size, 2, (some .int), [])
theorem vc_X13_size : mv_vc RX13 mX13_size 1 := ⟨mv_at 1908 (by decide +kernel), mv_at 1909 (by decide +kernel), mv_at 1910 (by decide +kernel), rfl, pn_RX13, mh_RX13, pd_8⟩
abbrev mX13_character : mv_M := (yX13_character, cX13_character, 3, (some .int), [])
theorem vc_X13_character : mv_vc RX13 mX13_character 2 := ⟨mv_at 1912 (by decide +kernel), mv_at 1913 (by decide +kernel), mv_at 1914 (by decide +kernel), rfl, pn_RX13, mh_RX13, pd_15⟩
abbrev mX13_outer : mv_M := (yX13_outer, cX13_outer, 2, (some .int), [])
theorem vc_X13_outer : mv_vc RX13 mX13_outer 1 := ⟨mv_at 1916 (by decide +kernel), mv_at 1917 (by decide +kernel), mv_at 1918 (by decide +kernel), rfl, pn_RX13, mh_RX13, pd_8⟩
abbrev mX13_tell : mv_M := (yX13_tell, cX13_tell, 2, none, [])
theorem vc_X13_tell : mv_vc RX13 mX13_tell 1 := ⟨mv_at 1925 (by decide +kernel), mv_atP 111 (q := (yX13_tell, 88)) (by decide +kernel), mv_at 1926 (by decide +kernel), rfl, pn_RX13, mh_RX13, pd_4⟩
abbrev mX13_tellStep : mv_M := (yX13_tellStep, cX13_tellStep, 4, none, [])
theorem vc_X13_tellStep : mv_vc RX13 mX13_tellStep 1 := ⟨mv_at 1929 (by decide +kernel), mv_atP 112 (q := (yX13_tellStep, 88)) (by decide +kernel), mv_at 1930 (by decide +kernel), rfl, pn_RX13, mh_RX13, pd_4⟩
abbrev mX13_path : mv_M := (yX13_path, cX13_path, 4, (some .int), [])
theorem vc_X13_path : mv_vc RX13 mX13_path 2 := ⟨mv_at 1920 (by decide +kernel), mv_at 1921 (by decide +kernel), mv_at 1922 (by decide +kernel), rfl, pn_RX13, mh_RX13, pd_15⟩
abbrev mX13_text : mv_M := (yX13_text, cX13_text, 6, (some .int), [])
theorem vc_X13_text : mv_vc RX13 mX13_text 2 := ⟨mv_at 1932 (by decide +kernel), mv_at 1933 (by decide +kernel), mv_at 1934 (by decide +kernel), rfl, pn_RX13, mh_RX13, pd_15⟩
abbrev mJ5_init_d00df : mv_M := (yJ5_init_d00df, cJ5_init_d00df, 2, none, [])
theorem pn_RJ5 : plainName RJ5 = true := by decide +kernel
theorem mh_RJ5 : RJ5 ≠ "java/lang/invoke/MethodHandle" ∧ RJ5 ≠ "java/lang/invoke/VarHandle" := by decide +kernel
theorem ic_J5_init_d00df : mv_ic mJ5_init_d00df 1 := ⟨rfl, rfl, mv_at 46 (by decide +kernel), mv_at 47 (by decide +kernel), rfl, pn_RJ5, mh_RJ5, pd_4⟩
abbrev mJ5_length_8abf5 : mv_M := (yJ5_length_8abf5, cJ5_length_8abf5, 1, (some .int), [])
abbrev mJ5_ensureCapacityInternal_d00df : mv_M := (yJ5_ensureCapacityInternal_d00df, cJ5_ensureCapacityInternal_d00df, 3, none, [])
abbrev mJ5_newCapacity_0f7a4 : mv_M := (yJ5_newCapacity_0f7a4, cJ5_newCapacity_0f7a4, 6, (some .int), [])
abbrev mJ5_inflate_da8c8 : mv_M := (yJ5_inflate_da8c8, cJ5_inflate_da8c8, 2, none, [])
abbrev mJ5_setLength_d00df : mv_M := (yJ5_setLength_d00df, cJ5_setLength_d00df, 2, none, [])
abbrev mJ5_charAt_5068e : mv_M := (yJ5_charAt_5068e, cJ5_charAt_5068e, 5, (some .char), [])
theorem pd_81 : (parseMethodDescriptor "(I)C").map (fun d => d.parameters.length) = some 1 := by decide +kernel
abbrev mJ5_append_cf1ce : mv_M := (yJ5_append_cf1ce, cJ5_append_cf1ce, 3, (some (.object "java/lang/AbstractStringBuilder")), [])
theorem pd_82 : (parseMethodDescriptor "(Ljava/lang/String;)Ljava/lang/AbstractStringBuilder;").map (fun d => d.parameters.length) = some 1 := by decide +kernel
abbrev mJ5_appendNull_278bc : mv_M := (yJ5_appendNull_278bc, cJ5_appendNull_278bc, 3, (some (.object "java/lang/AbstractStringBuilder")), [])
theorem pd_83 : (parseMethodDescriptor "()Ljava/lang/AbstractStringBuilder;").map (fun d => d.parameters.length) = some 0 := by decide +kernel
abbrev mJ5_append_3fe6f : mv_M := (yJ5_append_3fe6f, cJ5_append_3fe6f, 2, (some (.object "java/lang/AbstractStringBuilder")), [])
theorem pd_84 : (parseMethodDescriptor "(C)Ljava/lang/AbstractStringBuilder;").map (fun d => d.parameters.length) = some 1 := by decide +kernel
abbrev mJ5_append_c97b9 : mv_M := (yJ5_append_c97b9, cJ5_append_c97b9, 4, (some (.object "java/lang/AbstractStringBuilder")), [])
theorem pd_85 : (parseMethodDescriptor "(I)Ljava/lang/AbstractStringBuilder;").map (fun d => d.parameters.length) = some 1 := by decide +kernel
abbrev mJ5_getValue_6d5f1 : mv_M := (yJ5_getValue_6d5f1, cJ5_getValue_6d5f1, 1, (some (.array .byte)), [])
theorem pd_86 : (parseMethodDescriptor "()[B").map (fun d => d.parameters.length) = some 0 := by decide +kernel
abbrev mJ5_isLatin1_aae02 : mv_M := (yJ5_isLatin1_aae02, cJ5_isLatin1_aae02, 1, (some .boolean), [])
abbrev mJ5_inflateIfNeededFor_a7421 : mv_M := (yJ5_inflateIfNeededFor_a7421, cJ5_inflateIfNeededFor_a7421, 2, none, [])
abbrev mJ5_putStringAt_47b60 : mv_M := (yJ5_putStringAt_47b60, cJ5_putStringAt_47b60, 3, none, [])
theorem pd_87 : (parseMethodDescriptor "(ILjava/lang/String;)V").map (fun d => d.parameters.length) = some 2 := by decide +kernel
abbrev mJ6_getChars_ba4f3 : mv_M := (yJ6_getChars_ba4f3, cJ6_getChars_ba4f3, 7, (some .int), [])
theorem pn_RJ6 : plainName RJ6 = true := by decide +kernel
theorem mh_RJ6 : RJ6 ≠ "java/lang/invoke/MethodHandle" ∧ RJ6 ≠ "java/lang/invoke/VarHandle" := by decide +kernel
theorem pd_89 : (parseMethodDescriptor "(II[B)I").map (fun d => d.parameters.length) = some 3 := by decide +kernel
theorem sc_J6_getChars_ba4f3 : mv_sc mJ6_getChars_ba4f3 3 := ⟨mv_at 556 (by decide +kernel), mv_at 24 (by decide +kernel), mv_at 557 (by decide +kernel), rfl, pn_RJ6, mh_RJ6, pd_89⟩
abbrev mJ6_stringSize_0f7a4 : mv_M := (yJ6_stringSize_0f7a4, cJ6_stringSize_0f7a4, 4, (some .int), [])
theorem sc_J6_stringSize_0f7a4 : mv_sc mJ6_stringSize_0f7a4 1 := ⟨mv_at 553 (by decide +kernel), mv_at 24 (by decide +kernel), mv_at 554 (by decide +kernel), rfl, pn_RJ6, mh_RJ6, pd_8⟩
abbrev mJ0_init_81219 : mv_M := (yJ0_init_81219, cJ0_init_81219, 2, none, [])
theorem pn_RJ0 : plainName RJ0 = true := by decide +kernel
theorem mh_RJ0 : RJ0 ≠ "java/lang/invoke/MethodHandle" ∧ RJ0 ≠ "java/lang/invoke/VarHandle" := by decide +kernel
theorem pd_91 : (parseMethodDescriptor "(Ljava/lang/StringBuilder;)V").map (fun d => d.parameters.length) = some 1 := by decide +kernel
theorem ic_J0_init_81219 : mv_ic mJ0_init_81219 1 := ⟨rfl, rfl, mv_at 579 (by decide +kernel), mv_at 580 (by decide +kernel), rfl, pn_RJ0, mh_RJ0, pd_91⟩
abbrev mJ0_length_8abf5 : mv_M := (yJ0_length_8abf5, cJ0_length_8abf5, 1, (some .int), [])
theorem vc_J0_length_8abf5 : mv_vc RJ0 mJ0_length_8abf5 0 := ⟨mv_at 523 (by decide +kernel), mv_at 524 (by decide +kernel), mv_at 525 (by decide +kernel), rfl, pn_RJ0, mh_RJ0, pd_56⟩
abbrev mJ0_charAt_5068e : mv_M := (yJ0_charAt_5068e, cJ0_charAt_5068e, 2, (some .char), [])
theorem vc_J0_charAt_5068e : mv_vc RJ0 mJ0_charAt_5068e 1 := ⟨mv_at 413 (by decide +kernel), mv_at 414 (by decide +kernel), mv_at 415 (by decide +kernel), rfl, pn_RJ0, mh_RJ0, pd_81⟩
abbrev mJ0_equals_9ea2d : mv_M := (yJ0_equals_9ea2d, cJ0_equals_9ea2d, 3, (some .boolean), [])
theorem pd_92 : (parseMethodDescriptor "(Ljava/lang/Object;)Z").map (fun d => d.parameters.length) = some 1 := by decide +kernel
theorem vc_J0_equals_9ea2d : mv_vc RJ0 mJ0_equals_9ea2d 1 := ⟨mv_at 806 (by decide +kernel), mv_at 807 (by decide +kernel), mv_at 808 (by decide +kernel), rfl, pn_RJ0, mh_RJ0, pd_92⟩
abbrev mJ0_substring_37a41 : mv_M := (yJ0_substring_37a41, cJ0_substring_37a41, 5, (some (.object "java/lang/String")), [])
theorem pd_93 : (parseMethodDescriptor "(II)Ljava/lang/String;").map (fun d => d.parameters.length) = some 2 := by decide +kernel
theorem vc_J0_substring_37a41 : mv_vc RJ0 mJ0_substring_37a41 2 := ⟨mv_at 778 (by decide +kernel), mv_at 779 (by decide +kernel), mv_at 780 (by decide +kernel), rfl, pn_RJ0, mh_RJ0, pd_93⟩
abbrev mJ0_getBytes_840e7 : mv_M := (yJ0_getBytes_840e7, cJ0_getBytes_840e7, 4, none, [])
theorem pd_94 : (parseMethodDescriptor "([BIB)V").map (fun d => d.parameters.length) = some 3 := by decide +kernel
theorem vc_J0_getBytes_840e7 : mv_vc RJ0 mJ0_getBytes_840e7 3 := ⟨mv_at 540 (by decide +kernel), mv_at 541 (by decide +kernel), mv_at 542 (by decide +kernel), rfl, pn_RJ0, mh_RJ0, pd_94⟩
abbrev mJ0_init_db425 : mv_M := (yJ0_init_db425, cJ0_init_db425, 5, none, [])
theorem pd_95 : (parseMethodDescriptor "(Ljava/lang/AbstractStringBuilder;Ljava/lang/Void;)V").map (fun d => d.parameters.length) = some 2 := by decide +kernel
theorem ic_J0_init_db425 : mv_ic mJ0_init_db425 2 := ⟨rfl, rfl, mv_at 582 (by decide +kernel), mv_at 583 (by decide +kernel), rfl, pn_RJ0, mh_RJ0, pd_95⟩
abbrev mJ0_init_031fb : mv_M := (yJ0_init_031fb, cJ0_init_031fb, 3, none, [])
theorem pd_96 : (parseMethodDescriptor "([BB)V").map (fun d => d.parameters.length) = some 2 := by decide +kernel
theorem ic_J0_init_031fb : mv_ic mJ0_init_031fb 2 := ⟨rfl, rfl, mv_at 790 (by decide +kernel), mv_at 791 (by decide +kernel), rfl, pn_RJ0, mh_RJ0, pd_96⟩
abbrev mJ0_coder_7d493 : mv_M := (yJ0_coder_7d493, cJ0_coder_7d493, 1, (some .byte), [])
theorem pd_97 : (parseMethodDescriptor "()B").map (fun d => d.parameters.length) = some 0 := by decide +kernel
theorem vc_J0_coder_7d493 : mv_vc RJ0 mJ0_coder_7d493 0 := ⟨mv_at 527 (by decide +kernel), mv_at 528 (by decide +kernel), mv_at 529 (by decide +kernel), rfl, pn_RJ0, mh_RJ0, pd_97⟩
abbrev mJ0_isLatin1_aae02 : mv_M := (yJ0_isLatin1_aae02, cJ0_isLatin1_aae02, 1, (some .boolean), [])
theorem vc_J0_isLatin1_aae02 : mv_vc RJ0 mJ0_isLatin1_aae02 0 := ⟨mv_at 417 (by decide +kernel), mv_at 418 (by decide +kernel), mv_at 419 (by decide +kernel), rfl, pn_RJ0, mh_RJ0, pd_7⟩
abbrev mJ0_checkIndex_df160 : mv_M := (yJ0_checkIndex_df160, cJ0_checkIndex_df160, 2, none, [])
theorem sc_J0_checkIndex_df160 : mv_sc mJ0_checkIndex_df160 2 := ⟨mv_at 381 (by decide +kernel), mv_at 4 (by decide +kernel), mv_at 382 (by decide +kernel), rfl, pn_RJ0, mh_RJ0, pd_23⟩
abbrev mJ0_checkBoundsOffCount_cabcc : mv_M := (yJ0_checkBoundsOffCount_cabcc, cJ0_checkBoundsOffCount_cabcc, 3, (some .int), [])
theorem pd_98 : (parseMethodDescriptor "(III)I").map (fun d => d.parameters.length) = some 3 := by decide +kernel
theorem sc_J0_checkBoundsOffCount_cabcc : mv_sc mJ0_checkBoundsOffCount_cabcc 3 := ⟨mv_at 358 (by decide +kernel), mv_at 4 (by decide +kernel), mv_at 359 (by decide +kernel), rfl, pn_RJ0, mh_RJ0, pd_98⟩
abbrev mJ0_checkBoundsBeginEnd_23922 : mv_M := (yJ0_checkBoundsBeginEnd_23922, cJ0_checkBoundsBeginEnd_23922, 3, none, [])
theorem sc_J0_checkBoundsBeginEnd_23922 : mv_sc mJ0_checkBoundsBeginEnd_23922 3 := ⟨mv_at 517 (by decide +kernel), mv_at 4 (by decide +kernel), mv_at 518 (by decide +kernel), rfl, pn_RJ0, mh_RJ0, pd_22⟩
abbrev mJ4_init_da8c8 : mv_M := (yJ4_init_da8c8, cJ4_init_da8c8, 1, none, [])
theorem pn_RJ4 : plainName RJ4 = true := by decide +kernel
theorem mh_RJ4 : RJ4 ≠ "java/lang/invoke/MethodHandle" ∧ RJ4 ≠ "java/lang/invoke/VarHandle" := by decide +kernel
theorem ic_J4_init_da8c8 : mv_ic mJ4_init_da8c8 0 := ⟨rfl, rfl, mv_at 43 (by decide +kernel), mv_at 44 (by decide +kernel), rfl, pn_RJ4, mh_RJ4, pd_1⟩
abbrev mJ4_append_15ec4 : mv_M := (yJ4_append_15ec4, cJ4_append_15ec4, 2, (some (.object "java/lang/StringBuilder")), [])
theorem pd_100 : (parseMethodDescriptor "(Ljava/lang/String;)Ljava/lang/StringBuilder;").map (fun d => d.parameters.length) = some 1 := by decide +kernel
theorem vc_J4_append_15ec4 : mv_vc RJ4 mJ4_append_15ec4 1 := ⟨mv_at 500 (by decide +kernel), mv_at 501 (by decide +kernel), mv_at 502 (by decide +kernel), rfl, pn_RJ4, mh_RJ4, pd_100⟩
abbrev mJ4_append_cf468 : mv_M := (yJ4_append_cf468, cJ4_append_cf468, 2, (some (.object "java/lang/StringBuilder")), [])
theorem pd_101 : (parseMethodDescriptor "(C)Ljava/lang/StringBuilder;").map (fun d => d.parameters.length) = some 1 := by decide +kernel
theorem vc_J4_append_cf468 : mv_vc RJ4 mJ4_append_cf468 1 := ⟨mv_at 292 (by decide +kernel), mv_at 293 (by decide +kernel), mv_at 294 (by decide +kernel), rfl, pn_RJ4, mh_RJ4, pd_101⟩
abbrev mJ4_append_bf812 : mv_M := (yJ4_append_bf812, cJ4_append_bf812, 2, (some (.object "java/lang/StringBuilder")), [])
theorem pd_102 : (parseMethodDescriptor "(I)Ljava/lang/StringBuilder;").map (fun d => d.parameters.length) = some 1 := by decide +kernel
theorem vc_J4_append_bf812 : mv_vc RJ4 mJ4_append_bf812 1 := ⟨mv_at 546 (by decide +kernel), mv_at 547 (by decide +kernel), mv_at 548 (by decide +kernel), rfl, pn_RJ4, mh_RJ4, pd_102⟩
abbrev mJ4_toString_0e30d : mv_M := (yJ4_toString_0e30d, cJ4_toString_0e30d, 1, (some (.object "java/lang/String")), [])
theorem vc_J4_toString_0e30d : mv_vc RJ4 mJ4_toString_0e30d 0 := ⟨mv_at 573 (by decide +kernel), mv_at 574 (by decide +kernel), mv_at 575 (by decide +kernel), rfl, pn_RJ4, mh_RJ4, pd_10⟩
abbrev mJ4_charAt_5068e : mv_M := (yJ4_charAt_5068e, cJ4_charAt_5068e, 2, (some .char), [])
theorem vc_J4_charAt_5068e : mv_vc RJ4 mJ4_charAt_5068e 1 := ⟨mv_at 666 (by decide +kernel), mv_at 667 (by decide +kernel), mv_at 668 (by decide +kernel), rfl, pn_RJ4, mh_RJ4, pd_81⟩
abbrev mJ4_setLength_d00df : mv_M := (yJ4_setLength_d00df, cJ4_setLength_d00df, 2, none, [])
theorem vc_J4_setLength_d00df : mv_vc RJ4 mJ4_setLength_d00df 1 := ⟨mv_at 440 (by decide +kernel), mv_at 441 (by decide +kernel), mv_at 442 (by decide +kernel), rfl, pn_RJ4, mh_RJ4, pd_4⟩
abbrev mJ4_length_8abf5 : mv_M := (yJ4_length_8abf5, cJ4_length_8abf5, 1, (some .int), [])
theorem vc_J4_length_8abf5 : mv_vc RJ4 mJ4_length_8abf5 0 := ⟨mv_at 285 (by decide +kernel), mv_at 286 (by decide +kernel), mv_at 287 (by decide +kernel), rfl, pn_RJ4, mh_RJ4, pd_56⟩
abbrev mJ1_charAt_3b067 : mv_M := (yJ1_charAt_3b067, cJ1_charAt_3b067, 2, (some .char), [])
theorem pn_RJ1 : plainName RJ1 = true := by decide +kernel
theorem mh_RJ1 : RJ1 ≠ "java/lang/invoke/MethodHandle" ∧ RJ1 ≠ "java/lang/invoke/VarHandle" := by decide +kernel
theorem pd_104 : (parseMethodDescriptor "([BI)C").map (fun d => d.parameters.length) = some 2 := by decide +kernel
theorem sc_J1_charAt_3b067 : mv_sc mJ1_charAt_3b067 2 := ⟨mv_at 422 (by decide +kernel), mv_at 18 (by decide +kernel), mv_at 423 (by decide +kernel), rfl, pn_RJ1, mh_RJ1, pd_104⟩
abbrev mJ1_canEncode_fc78d : mv_M := (yJ1_canEncode_fc78d, cJ1_canEncode_fc78d, 1, (some .boolean), [])
theorem sc_J1_canEncode_fc78d : mv_sc mJ1_canEncode_fc78d 1 := ⟨mv_at 339 (by decide +kernel), mv_at 18 (by decide +kernel), mv_at 340 (by decide +kernel), rfl, pn_RJ1, mh_RJ1, pd_5⟩
abbrev mJ1_equals_b5fdf : mv_M := (yJ1_equals_b5fdf, cJ1_equals_b5fdf, 3, (some .boolean), [])
theorem pd_105 : (parseMethodDescriptor "([B[B)Z").map (fun d => d.parameters.length) = some 2 := by decide +kernel
theorem sc_J1_equals_b5fdf : mv_sc mJ1_equals_b5fdf 2 := ⟨mv_at 811 (by decide +kernel), mv_at 18 (by decide +kernel), mv_at 812 (by decide +kernel), rfl, pn_RJ1, mh_RJ1, pd_105⟩
abbrev mJ1_newString_b4f7a : mv_M := (yJ1_newString_b4f7a, cJ1_newString_b4f7a, 3, (some (.object "java/lang/String")), [])
theorem pd_106 : (parseMethodDescriptor "([BII)Ljava/lang/String;").map (fun d => d.parameters.length) = some 3 := by decide +kernel
theorem sc_J1_newString_b4f7a : mv_sc mJ1_newString_b4f7a 3 := ⟨mv_at 784 (by decide +kernel), mv_at 18 (by decide +kernel), mv_at 785 (by decide +kernel), rfl, pn_RJ1, mh_RJ1, pd_106⟩
abbrev mJ1_fillNull_b72d1 : mv_M := (yJ1_fillNull_b72d1, cJ1_fillNull_b72d1, 3, none, [])
theorem pd_107 : (parseMethodDescriptor "([BII)V").map (fun d => d.parameters.length) = some 3 := by decide +kernel
theorem sc_J1_fillNull_b72d1 : mv_sc mJ1_fillNull_b72d1 3 := ⟨mv_at 447 (by decide +kernel), mv_at 18 (by decide +kernel), mv_at 448 (by decide +kernel), rfl, pn_RJ1, mh_RJ1, pd_107⟩
abbrev mJ1_inflate_0e8fd : mv_M := (yJ1_inflate_0e8fd, cJ1_inflate_0e8fd, 5, none, [])
theorem pd_108 : (parseMethodDescriptor "([BI[BII)V").map (fun d => d.parameters.length) = some 5 := by decide +kernel
theorem sc_J1_inflate_0e8fd : mv_sc mJ1_inflate_0e8fd 5 := ⟨mv_at 346 (by decide +kernel), mv_at 18 (by decide +kernel), mv_at 347 (by decide +kernel), rfl, pn_RJ1, mh_RJ1, pd_108⟩
abbrev mJ2_newBytesFor_77867 : mv_M := (yJ2_newBytesFor_77867, cJ2_newBytesFor_77867, 1, (some (.array .byte)), [])
theorem pn_RJ2 : plainName RJ2 = true := by decide +kernel
theorem mh_RJ2 : RJ2 ≠ "java/lang/invoke/MethodHandle" ∧ RJ2 ≠ "java/lang/invoke/VarHandle" := by decide +kernel
theorem pd_110 : (parseMethodDescriptor "(I)[B").map (fun d => d.parameters.length) = some 1 := by decide +kernel
theorem sc_J2_newBytesFor_77867 : mv_sc mJ2_newBytesFor_77867 1 := ⟨mv_at 52 (by decide +kernel), mv_at 5 (by decide +kernel), mv_at 53 (by decide +kernel), rfl, pn_RJ2, mh_RJ2, pd_110⟩
abbrev mJ2_newBytesLength_0f7a4 : mv_M := (yJ2_newBytesLength_0f7a4, cJ2_newBytesLength_0f7a4, 1, (some .int), [])
theorem sc_J2_newBytesLength_0f7a4 : mv_sc mJ2_newBytesLength_0f7a4 1 := ⟨mv_at 55 (by decide +kernel), mv_at 5 (by decide +kernel), mv_at 56 (by decide +kernel), rfl, pn_RJ2, mh_RJ2, pd_8⟩
abbrev mJ2_putChar_b72d1 : mv_M := (yJ2_putChar_b72d1, cJ2_putChar_b72d1, 3, none, [])
theorem sc_J2_putChar_b72d1 : mv_sc mJ2_putChar_b72d1 3 := ⟨mv_at 366 (by decide +kernel), mv_at 5 (by decide +kernel), mv_at 367 (by decide +kernel), rfl, pn_RJ2, mh_RJ2, pd_107⟩
abbrev mJ2_getChar_3b067 : mv_M := (yJ2_getChar_3b067, cJ2_getChar_3b067, 2, (some .char), [])
theorem sc_J2_getChar_3b067 : mv_sc mJ2_getChar_3b067 2 := ⟨mv_at 429 (by decide +kernel), mv_at 5 (by decide +kernel), mv_at 430 (by decide +kernel), rfl, pn_RJ2, mh_RJ2, pd_104⟩
abbrev mJ2_length_9d52b : mv_M := (yJ2_length_9d52b, cJ2_length_9d52b, 1, (some .int), [])
theorem pd_111 : (parseMethodDescriptor "([B)I").map (fun d => d.parameters.length) = some 1 := by decide +kernel
theorem sc_J2_length_9d52b : mv_sc mJ2_length_9d52b 1 := ⟨mv_at 355 (by decide +kernel), mv_at 5 (by decide +kernel), mv_at 356 (by decide +kernel), rfl, pn_RJ2, mh_RJ2, pd_111⟩
abbrev mJ2_coderFromArrayLen_85cad : mv_M := (yJ2_coderFromArrayLen_85cad, cJ2_coderFromArrayLen_85cad, 2, (some .byte), [])
theorem pd_112 : (parseMethodDescriptor "([BI)B").map (fun d => d.parameters.length) = some 2 := by decide +kernel
theorem sc_J2_coderFromArrayLen_85cad : mv_sc mJ2_coderFromArrayLen_85cad 2 := ⟨mv_at 635 (by decide +kernel), mv_at 5 (by decide +kernel), mv_at 636 (by decide +kernel), rfl, pn_RJ2, mh_RJ2, pd_112⟩
abbrev mJ2_compress_39247 : mv_M := (yJ2_compress_39247, cJ2_compress_39247, 6, (some (.array .byte)), [])
theorem pd_113 : (parseMethodDescriptor "([BII)[B").map (fun d => d.parameters.length) = some 3 := by decide +kernel
theorem sc_J2_compress_39247 : mv_sc mJ2_compress_39247 3 := ⟨mv_at 628 (by decide +kernel), mv_at 5 (by decide +kernel), mv_at 629 (by decide +kernel), rfl, pn_RJ2, mh_RJ2, pd_113⟩
abbrev mJ2_compress_5af95 : mv_M := (yJ2_compress_5af95, cJ2_compress_5af95, 7, (some .int), [])
theorem pd_114 : (parseMethodDescriptor "([BI[BII)I").map (fun d => d.parameters.length) = some 5 := by decide +kernel
theorem sc_J2_compress_5af95 : mv_sc mJ2_compress_5af95 5 := ⟨mv_at 631 (by decide +kernel), mv_at 5 (by decide +kernel), mv_at 632 (by decide +kernel), rfl, pn_RJ2, mh_RJ2, pd_114⟩
abbrev mJ2_newString_b4f7a : mv_M := (yJ2_newString_b4f7a, cJ2_newString_b4f7a, 5, (some (.object "java/lang/String")), [])
theorem sc_J2_newString_b4f7a : mv_sc mJ2_newString_b4f7a 3 := ⟨mv_at 793 (by decide +kernel), mv_at 5 (by decide +kernel), mv_at 794 (by decide +kernel), rfl, pn_RJ2, mh_RJ2, pd_106⟩
abbrev mJ2_fillNull_b72d1 : mv_M := (yJ2_fillNull_b72d1, cJ2_fillNull_b72d1, 3, none, [])
theorem sc_J2_fillNull_b72d1 : mv_sc mJ2_fillNull_b72d1 3 := ⟨mv_at 649 (by decide +kernel), mv_at 5 (by decide +kernel), mv_at 650 (by decide +kernel), rfl, pn_RJ2, mh_RJ2, pd_107⟩
abbrev mJ2_putCharSB_b72d1 : mv_M := (yJ2_putCharSB_b72d1, cJ2_putCharSB_b72d1, 3, none, [])
theorem sc_J2_putCharSB_b72d1 : mv_sc mJ2_putCharSB_b72d1 3 := ⟨mv_at 375 (by decide +kernel), mv_at 5 (by decide +kernel), mv_at 376 (by decide +kernel), rfl, pn_RJ2, mh_RJ2, pd_107⟩
abbrev mJ2_getChars_46870 : mv_M := (yJ2_getChars_46870, cJ2_getChars_46870, 5, (some .int), [])
theorem pd_115 : (parseMethodDescriptor "(III[B)I").map (fun d => d.parameters.length) = some 4 := by decide +kernel
theorem sc_J2_getChars_46870 : mv_sc mJ2_getChars_46870 4 := ⟨mv_at 563 (by decide +kernel), mv_at 5 (by decide +kernel), mv_at 564 (by decide +kernel), rfl, pn_RJ2, mh_RJ2, pd_115⟩
abbrev mJ2_putCharsAt_cd4e5 : mv_M := (yJ2_putCharsAt_cd4e5, cJ2_putCharsAt_cd4e5, 7, (some .int), [])
theorem pd_116 : (parseMethodDescriptor "([BICCCC)I").map (fun d => d.parameters.length) = some 6 := by decide +kernel
theorem sc_J2_putCharsAt_cd4e5 : mv_sc mJ2_putCharsAt_cd4e5 6 := ⟨mv_at 511 (by decide +kernel), mv_at 5 (by decide +kernel), mv_at 512 (by decide +kernel), rfl, pn_RJ2, mh_RJ2, pd_116⟩
abbrev mJ2_charAt_3b067 : mv_M := (yJ2_charAt_3b067, cJ2_charAt_3b067, 2, (some .char), [])
theorem sc_J2_charAt_3b067 : mv_sc mJ2_charAt_3b067 2 := ⟨mv_at 426 (by decide +kernel), mv_at 5 (by decide +kernel), mv_at 427 (by decide +kernel), rfl, pn_RJ2, mh_RJ2, pd_104⟩
abbrev mJ2_inflate_0e8fd : mv_M := (yJ2_inflate_0e8fd, cJ2_inflate_0e8fd, 6, none, [])
theorem sc_J2_inflate_0e8fd : mv_sc mJ2_inflate_0e8fd 5 := ⟨mv_at 349 (by decide +kernel), mv_at 5 (by decide +kernel), mv_at 350 (by decide +kernel), rfl, pn_RJ2, mh_RJ2, pd_108⟩
abbrev mJ2_getChars_ba4f3 : mv_M := (yJ2_getChars_ba4f3, cJ2_getChars_ba4f3, 7, (some .int), [])
theorem sc_J2_getChars_ba4f3 : mv_sc mJ2_getChars_ba4f3 3 := ⟨mv_at 566 (by decide +kernel), mv_at 5 (by decide +kernel), mv_at 567 (by decide +kernel), rfl, pn_RJ2, mh_RJ2, pd_89⟩
abbrev mJ2_checkIndex_2214a : mv_M := (yJ2_checkIndex_2214a, cJ2_checkIndex_2214a, 2, none, [])
theorem pd_117 : (parseMethodDescriptor "(I[B)V").map (fun d => d.parameters.length) = some 2 := by decide +kernel
theorem sc_J2_checkIndex_2214a : mv_sc mJ2_checkIndex_2214a 2 := ⟨mv_at 378 (by decide +kernel), mv_at 5 (by decide +kernel), mv_at 379 (by decide +kernel), rfl, pn_RJ2, mh_RJ2, pd_117⟩
abbrev mJ2_checkBoundsBeginEnd_d044e : mv_M := (yJ2_checkBoundsBeginEnd_d044e, cJ2_checkBoundsBeginEnd_d044e, 3, none, [])
theorem pd_118 : (parseMethodDescriptor "(II[B)V").map (fun d => d.parameters.length) = some 3 := by decide +kernel
theorem sc_J2_checkBoundsBeginEnd_d044e : mv_sc mJ2_checkBoundsBeginEnd_d044e 3 := ⟨mv_at 514 (by decide +kernel), mv_at 5 (by decide +kernel), mv_at 515 (by decide +kernel), rfl, pn_RJ2, mh_RJ2, pd_118⟩
abbrev mJ2_checkBoundsOffCount_d044e : mv_M := (yJ2_checkBoundsOffCount_d044e, cJ2_checkBoundsOffCount_d044e, 3, none, [])
theorem sc_J2_checkBoundsOffCount_d044e : mv_sc mJ2_checkBoundsOffCount_d044e 3 := ⟨mv_at 352 (by decide +kernel), mv_at 5 (by decide +kernel), mv_at 353 (by decide +kernel), rfl, pn_RJ2, mh_RJ2, pd_118⟩
abbrev mJ7_rangeCheck_23922 : mv_M := (yJ7_rangeCheck_23922, cJ7_rangeCheck_23922, 3, none, [])
theorem pn_RJ7 : plainName RJ7 = true := by decide +kernel
theorem mh_RJ7 : RJ7 ≠ "java/lang/invoke/MethodHandle" ∧ RJ7 ≠ "java/lang/invoke/VarHandle" := by decide +kernel
theorem sc_J7_rangeCheck_23922 : mv_sc mJ7_rangeCheck_23922 3 := ⟨mv_at 453 (by decide +kernel), mv_at 16 (by decide +kernel), mv_at 454 (by decide +kernel), rfl, pn_RJ7, mh_RJ7, pd_22⟩
abbrev mJ7_fill_eb02e : mv_M := (yJ7_fill_eb02e, cJ7_fill_eb02e, 5, none, [])
theorem pd_120 : (parseMethodDescriptor "([BIIB)V").map (fun d => d.parameters.length) = some 4 := by decide +kernel
theorem sc_J7_fill_eb02e : mv_sc mJ7_fill_eb02e 4 := ⟨mv_at 450 (by decide +kernel), mv_at 16 (by decide +kernel), mv_at 451 (by decide +kernel), rfl, pn_RJ7, mh_RJ7, pd_120⟩
abbrev mJ7_copyOf_9075b : mv_M := (yJ7_copyOf_9075b, cJ7_copyOf_9075b, 3, (some (.array .byte)), [])
theorem pd_121 : (parseMethodDescriptor "([BI)[B").map (fun d => d.parameters.length) = some 2 := by decide +kernel
theorem sc_J7_copyOf_9075b : mv_sc mJ7_copyOf_9075b 2 := ⟨mv_at 318 (by decide +kernel), mv_at 16 (by decide +kernel), mv_at 319 (by decide +kernel), rfl, pn_RJ7, mh_RJ7, pd_121⟩
abbrev mJ7_checkLength_df160 : mv_M := (yJ7_checkLength_df160, cJ7_checkLength_df160, 2, none, [])
theorem sc_J7_checkLength_df160 : mv_sc mJ7_checkLength_df160 2 := ⟨mv_at 599 (by decide +kernel), mv_at 16 (by decide +kernel), mv_at 600 (by decide +kernel), rfl, pn_RJ7, mh_RJ7, pd_23⟩
abbrev mJ7_copyOfRange_39247 : mv_M := (yJ7_copyOfRange_39247, cJ7_copyOfRange_39247, 3, (some (.array .byte)), [])
theorem sc_J7_copyOfRange_39247 : mv_sc mJ7_copyOfRange_39247 3 := ⟨mv_at 593 (by decide +kernel), mv_at 16 (by decide +kernel), mv_at 594 (by decide +kernel), rfl, pn_RJ7, mh_RJ7, pd_113⟩
abbrev mJ7_copyOfRangeByte_39247 : mv_M := (yJ7_copyOfRangeByte_39247, cJ7_copyOfRangeByte_39247, 5, (some (.array .byte)), [])
theorem sc_J7_copyOfRangeByte_39247 : mv_sc mJ7_copyOfRangeByte_39247 3 := ⟨mv_at 596 (by decide +kernel), mv_at 16 (by decide +kernel), mv_at 597 (by decide +kernel), rfl, pn_RJ7, mh_RJ7, pd_113⟩
abbrev mJ8_newLength_cabcc : mv_M := (yJ8_newLength_cabcc, cJ8_newLength_cabcc, 4, (some .int), [])
theorem pn_RJ8 : plainName RJ8 = true := by decide +kernel
theorem mh_RJ8 : RJ8 ≠ "java/lang/invoke/MethodHandle" ∧ RJ8 ≠ "java/lang/invoke/VarHandle" := by decide +kernel
theorem sc_J8_newLength_cabcc : mv_sc mJ8_newLength_cabcc 3 := ⟨mv_at 307 (by decide +kernel), mv_at 14 (by decide +kernel), mv_at 308 (by decide +kernel), rfl, pn_RJ8, mh_RJ8, pd_98⟩
abbrev mJ8_hugeLength_7cf53 : mv_M := (yJ8_hugeLength_7cf53, cJ8_hugeLength_7cf53, 3, (some .int), [])
theorem sc_J8_hugeLength_7cf53 : mv_sc mJ8_hugeLength_7cf53 2 := ⟨mv_at 314 (by decide +kernel), mv_at 14 (by decide +kernel), mv_at 315 (by decide +kernel), rfl, pn_RJ8, mh_RJ8, pd_15⟩
abbrev mJ3_checkIndex_8e157 : mv_M := (yJ3_checkIndex_8e157, cJ3_checkIndex_8e157, 3, (some .int), [])
theorem pn_RJ3 : plainName RJ3 = true := by decide +kernel
theorem mh_RJ3 : RJ3 ≠ "java/lang/invoke/MethodHandle" ∧ RJ3 ≠ "java/lang/invoke/VarHandle" := by decide +kernel
theorem pd_124 : (parseMethodDescriptor "(IILjava/util/function/BiFunction;)I").map (fun d => d.parameters.length) = some 3 := by decide +kernel
theorem sc_J3_checkIndex_8e157 : mv_sc mJ3_checkIndex_8e157 3 := ⟨mv_at 384 (by decide +kernel), mv_at 19 (by decide +kernel), mv_at 385 (by decide +kernel), rfl, pn_RJ3, mh_RJ3, pd_124⟩
abbrev mJ3_checkFromToIndex_8c36e : mv_M := (yJ3_checkFromToIndex_8c36e, cJ3_checkFromToIndex_8c36e, 4, (some .int), [])
theorem pd_125 : (parseMethodDescriptor "(IIILjava/util/function/BiFunction;)I").map (fun d => d.parameters.length) = some 4 := by decide +kernel
theorem sc_J3_checkFromToIndex_8c36e : mv_sc mJ3_checkFromToIndex_8c36e 4 := ⟨mv_at 520 (by decide +kernel), mv_at 19 (by decide +kernel), mv_at 521 (by decide +kernel), rfl, pn_RJ3, mh_RJ3, pd_125⟩
abbrev mJ3_checkFromIndexSize_8c36e : mv_M := (yJ3_checkFromIndexSize_8c36e, cJ3_checkFromIndexSize_8c36e, 4, (some .int), [])
theorem sc_J3_checkFromIndexSize_8c36e : mv_sc mJ3_checkFromIndexSize_8c36e 4 := ⟨mv_at 363 (by decide +kernel), mv_at 19 (by decide +kernel), mv_at 364 (by decide +kernel), rfl, pn_RJ3, mh_RJ3, pd_125⟩
abbrev mL_document : mv_M := (yL_document, cL_document, 3, (some .int), [(0, 8, 11, 13)])
theorem pn_RL : plainName RL = true := by decide +kernel
theorem mh_RL : RL ≠ "java/lang/invoke/MethodHandle" ∧ RL ≠ "java/lang/invoke/VarHandle" := by decide +kernel
theorem pd_127 : (parseMethodDescriptor "(LTreePaths;[J)I").map (fun d => d.parameters.length) = some 2 := by decide +kernel
theorem sc_L_document : mv_sc mL_document 2 := ⟨mv_at 685 (by decide +kernel), mv_at 0 (by decide +kernel), mv_at 686 (by decide +kernel), rfl, pn_RL, mh_RL, pd_127⟩
abbrev mL_query : mv_M := (yL_query, cL_query, 3, (some .int), [(0, 8, 11, 13)])
theorem sc_L_query : mv_sc mL_query 2 := ⟨mv_at 847 (by decide +kernel), mv_at 0 (by decide +kernel), mv_at 848 (by decide +kernel), rfl, pn_RL, mh_RL, pd_127⟩
abbrev mL_find : mv_M := (yL_find, cL_find, 3, (some .int), [(0, 8, 11, 21), (0, 8, 14, 23)])
theorem sc_L_find : mv_sc mL_find 2 := ⟨mv_at 1154 (by decide +kernel), mv_at 0 (by decide +kernel), mv_at 1155 (by decide +kernel), rfl, pn_RL, mh_RL, pd_127⟩
