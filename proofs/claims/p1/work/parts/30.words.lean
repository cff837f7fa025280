set_option maxRecDepth 10000 in
theorem tw_744 : Cond.code y_Rule_partFits prog_8_method_13_code 3 (some .boolean) ∈ lw_g := q_g (q_t4 (List.mem_of_getElem? (i := 174) rfl)) rfl
set_option maxRecDepth 10000 in
theorem tw_745 : Cond.methodLink "PlainPage$Rule" 95 y_Rule_partFits ∈ lw_g := q_g (q_t4 (List.mem_of_getElem? (i := 171) rfl)) rfl
set_option maxRecDepth 10000 in
theorem tw_746 : Cond.instanceMethod y_Rule_partFits ∈ lw_g := q_g (q_t4 (List.mem_of_getElem? (i := 173) rfl)) rfl
set_option maxRecDepth 10000 in
theorem tw_747 : Cond.selects "PlainPage$Rule" y_Rule_partFits y_Rule_partFits ∈ lw_g := q_g (List.mem_of_getElem? (i := 27) rfl) rfl
set_option maxRecDepth 10000 in
theorem tw_748 : Cond.fieldLink "PlainPage$Rule" 98 "PlainPage$Node" "parent" "LPlainPage$Node;" ∈ lw_g := q_g (q_t1 (List.mem_of_getElem? (i := 147) rfl)) rfl
set_option maxRecDepth 10000 in
theorem tw_749 : Cond.code y_Rule_fitsUpTo prog_8_method_12_code 4 (some .boolean) ∈ lw_g := q_g (q_t4 (List.mem_of_getElem? (i := 170) rfl)) rfl
set_option maxRecDepth 10000 in
theorem tw_750 : Cond.methodLink "PlainPage$Rule" 91 y_Rule_fitsUpTo ∈ lw_g := q_g (q_t4 (List.mem_of_getElem? (i := 167) rfl)) rfl
set_option maxRecDepth 10000 in
theorem tw_751 : Cond.instanceMethod y_Rule_fitsUpTo ∈ lw_g := q_g (q_t4 (List.mem_of_getElem? (i := 169) rfl)) rfl
set_option maxRecDepth 10000 in
theorem tw_752 : Cond.selects "PlainPage$Rule" y_Rule_fitsUpTo y_Rule_fitsUpTo ∈ lw_g := q_g (List.mem_of_getElem? (i := 26) rfl) rfl
set_option maxRecDepth 10000 in
theorem tw_753 : Cond.code y_Rule_fits prog_8_method_11_code 2 (some .boolean) ∈ lw_g := q_g (q_t4 (List.mem_of_getElem? (i := 166) rfl)) rfl
set_option maxRecDepth 10000 in
theorem tw_754 : Cond.methodLink "PlainPage$Sheet" 90 y_Rule_fits ∈ lw_g := q_g (q_t4 (List.mem_of_getElem? (i := 163) rfl)) rfl
set_option maxRecDepth 10000 in
theorem tw_755 : Cond.instanceMethod y_Rule_fits ∈ lw_g := q_g (q_t4 (List.mem_of_getElem? (i := 164) rfl)) rfl
set_option maxRecDepth 10000 in
theorem tw_756 : Cond.selects "PlainPage$Rule" y_Rule_fits y_Rule_fits ∈ lw_g := q_g (q_t4 (List.mem_of_getElem? (i := 165) rfl)) rfl
set_option maxRecDepth 10000 in
theorem tw_757 : Cond.code y_Sheet_strongest prog_10_method_8_code 6 (some .int) ∈ lw_g := q_g (q_t4 (List.mem_of_getElem? (i := 179) rfl)) rfl
set_option maxRecDepth 10000 in
theorem tw_758 : Cond.methodLink "PlainPage$Sheet" 94 y_Sheet_strongest ∈ lw_g := q_g (q_t4 (List.mem_of_getElem? (i := 176) rfl)) rfl
set_option maxRecDepth 10000 in
theorem tw_759 : Cond.instanceMethod y_Sheet_strongest ∈ lw_g := q_g (q_t4 (List.mem_of_getElem? (i := 178) rfl)) rfl
set_option maxRecDepth 10000 in
theorem tw_760 : Cond.selects "PlainPage$Sheet" y_Sheet_strongest y_Sheet_strongest ∈ lw_g := q_g (List.mem_of_getElem? (i := 28) rfl) rfl
set_option maxRecDepth 10000 in
theorem tw_761 : Cond.fieldLink "PlainPage$Sheet" 51 "PlainPage$Tree" "used" "I" ∈ lw_g := q_g (q_t2 (List.mem_of_getElem? (i := 10) rfl)) rfl
set_option maxRecDepth 10000 in
theorem tw_762 : Cond.fieldLink "PlainPage$Sheet" 56 "PlainPage$Tree" "order" "[LPlainPage$Node;" ∈ lw_g := q_g (q_t2 (List.mem_of_getElem? (i := 0) rfl)) rfl
set_option maxRecDepth 10000 in
theorem tw_763 : Cond.methodLink "PlainPage$Sheet" 69 y_Node_isElement ∈ lw_g := q_g (q_t4 (List.mem_of_getElem? (i := 158) rfl)) rfl
set_option maxRecDepth 10000 in
theorem tw_764 : Cond.code y_Sheet_setDeclared prog_10_method_7_code 4 none ∈ lw_g := q_g (q_t4 (List.mem_of_getElem? (i := 162) rfl)) rfl
set_option maxRecDepth 10000 in
theorem tw_765 : Cond.methodLink "PlainPage$Sheet" 73 y_Sheet_setDeclared ∈ lw_g := q_g (q_t4 (List.mem_of_getElem? (i := 159) rfl)) rfl
set_option maxRecDepth 10000 in
theorem tw_766 : Cond.instanceMethod y_Sheet_setDeclared ∈ lw_g := q_g (q_t4 (List.mem_of_getElem? (i := 161) rfl)) rfl
set_option maxRecDepth 10000 in
theorem tw_767 : Cond.selects "PlainPage$Sheet" y_Sheet_setDeclared y_Sheet_setDeclared ∈ lw_g := q_g (List.mem_of_getElem? (i := 25) rfl) rfl
set_option maxRecDepth 10000 in
theorem tw_768 : Cond.code y_Sheet_setDefaults prog_10_method_6_code 3 none ∈ lw_g := q_g (q_t4 (List.mem_of_getElem? (i := 155) rfl)) rfl
set_option maxRecDepth 10000 in
theorem tw_769 : Cond.methodLink "PlainPage$Sheet" 65 y_Sheet_setDefaults ∈ lw_g := q_g (q_t4 (List.mem_of_getElem? (i := 153) rfl)) rfl
set_option maxRecDepth 10000 in
theorem tw_770 : Cond.static y_Sheet_setDefaults ∈ lw_g := q_g (q_t4 (List.mem_of_getElem? (i := 154) rfl)) rfl
set_option maxRecDepth 10000 in
theorem tw_771 : Cond.code y_Sheet_dress prog_10_method_5_code 4 none ∈ lw_g := q_g (q_t4 (List.mem_of_getElem? (i := 152) rfl)) rfl
set_option maxRecDepth 10000 in
theorem tw_772 : Cond.methodLink "PlainPage" 188 y_Sheet_dress ∈ lw_g := q_g (q_t4 (List.mem_of_getElem? (i := 149) rfl)) rfl
set_option maxRecDepth 10000 in
theorem tw_773 : Cond.instanceMethod y_Sheet_dress ∈ lw_g := q_g (q_t4 (List.mem_of_getElem? (i := 150) rfl)) rfl
set_option maxRecDepth 10000 in
theorem tw_774 : Cond.selects "PlainPage$Sheet" y_Sheet_dress y_Sheet_dress ∈ lw_g := q_g (q_t4 (List.mem_of_getElem? (i := 151) rfl)) rfl
set_option maxRecDepth 10000 in
theorem tw_775 : Cond.methodLink "PlainPage" 118 y_Node_isElement ∈ lw_g := q_g (q_t4 (List.mem_of_getElem? (i := 141) rfl)) rfl
set_option maxRecDepth 10000 in
theorem tw_776 : Cond.code y_Pg_dress prog_1_method_20_code 1 none ∈ lw_g := q_g (q_t4 (List.mem_of_getElem? (i := 148) rfl)) rfl
set_option maxRecDepth 10000 in
theorem tw_777 : Cond.methodLink "PlainPage" 122 y_Pg_dress ∈ lw_g := q_g (q_t4 (List.mem_of_getElem? (i := 145) rfl)) rfl
set_option maxRecDepth 10000 in
theorem tw_778 : Cond.instanceMethod y_Pg_dress ∈ lw_g := q_g (q_t4 (List.mem_of_getElem? (i := 147) rfl)) rfl
set_option maxRecDepth 10000 in
theorem tw_779 : Cond.selects "PlainPage" y_Pg_dress y_Pg_dress ∈ lw_g := q_g (List.mem_of_getElem? (i := 24) rfl) rfl
set_option maxRecDepth 10000 in
theorem tw_780 : Cond.fieldLink "PlainPage" 125 "PlainPage$Node" "values" "[I" ∈ lw_g := q_g (q_t1 (List.mem_of_getElem? (i := 167) rfl)) rfl
set_option maxRecDepth 10000 in
theorem tw_781 : Cond.fieldLink "PlainPage$Layout" 12 "PlainPage$Layout" "run" "LPlainPage$Run;" ∈ lw_g := q_g (q_t2 (List.mem_of_getElem? (i := 173) rfl)) rfl
set_option maxRecDepth 10000 in
theorem tw_782 : Cond.code y_Run_endIn prog_9_method_5_code 2 none ∈ lw_g := q_g (q_t4 (List.mem_of_getElem? (i := 238) rfl)) rfl
set_option maxRecDepth 10000 in
theorem tw_783 : Cond.methodLink "PlainPage$Layout" 113 y_Run_endIn ∈ lw_g := q_g (q_t4 (List.mem_of_getElem? (i := 235) rfl)) rfl
set_option maxRecDepth 10000 in
theorem tw_784 : Cond.instanceMethod y_Run_endIn ∈ lw_g := q_g (q_t4 (List.mem_of_getElem? (i := 236) rfl)) rfl
set_option maxRecDepth 10000 in
theorem tw_785 : Cond.selects "PlainPage$Run" y_Run_endIn y_Run_endIn ∈ lw_g := q_g (q_t4 (List.mem_of_getElem? (i := 237) rfl)) rfl
set_option maxRecDepth 10000 in
theorem tw_786 : Cond.fieldLink "PlainPage$Layout" 92 "PlainPage$Box" "end" "I" ∈ lw_g := q_g (q_t1 (List.mem_of_getElem? (i := 100) rfl)) rfl
set_option maxRecDepth 10000 in
theorem tw_787 : Cond.fieldLink "PlainPage$Layout" 95 "PlainPage$Box" "last" "I" ∈ lw_g := q_g (q_t1 (List.mem_of_getElem? (i := 102) rfl)) rfl
set_option maxRecDepth 10000 in
theorem tw_788 : Cond.methodLink "PlainPage$Layout" 82 Lib.Math.max.name ∈ lw_g := q_g (q_t4 (List.mem_of_getElem? (i := 201) rfl)) rfl
set_option maxRecDepth 10000 in
theorem tw_789 : Cond.fieldLink "PlainPage$Layout" 76 "PlainPage$Box" "contentLeft" "I" ∈ lw_g := q_g (q_t1 (List.mem_of_getElem? (i := 95) rfl)) rfl
set_option maxRecDepth 10000 in
theorem tw_790 : Cond.fieldLink "PlainPage$Layout" 88 "PlainPage$Box" "contentWidth" "I" ∈ lw_g := q_g (q_t1 (List.mem_of_getElem? (i := 98) rfl)) rfl
set_option maxRecDepth 10000 in
theorem tw_791 : Cond.code y_Layout_layBox prog_4_method_3_code 10 none ∈ lw_g := q_g (q_t4 (List.mem_of_getElem? (i := 200) rfl)) rfl
set_option maxRecDepth 10000 in
theorem tw_792 : Cond.methodLink "PlainPage$Layout" 62 y_Layout_layBox ∈ lw_g := q_g (q_t4 (List.mem_of_getElem? (i := 197) rfl)) rfl
set_option maxRecDepth 10000 in
theorem tw_793 : Cond.instanceMethod y_Layout_layBox ∈ lw_g := q_g (q_t4 (List.mem_of_getElem? (i := 199) rfl)) rfl
set_option maxRecDepth 10000 in
theorem tw_794 : Cond.selects "PlainPage$Layout" y_Layout_layBox y_Layout_layBox ∈ lw_g := q_g (List.mem_of_getElem? (i := 29) rfl) rfl
set_option maxRecDepth 10000 in
theorem tw_795 : Cond.code y_Run_beginIn prog_9_method_2_code 2 none ∈ lw_g := q_g (q_t4 (List.mem_of_getElem? (i := 213) rfl)) rfl
set_option maxRecDepth 10000 in
theorem tw_796 : Cond.methodLink "PlainPage$Layout" 105 y_Run_beginIn ∈ lw_g := q_g (q_t4 (List.mem_of_getElem? (i := 210) rfl)) rfl
set_option maxRecDepth 10000 in
theorem tw_797 : Cond.instanceMethod y_Run_beginIn ∈ lw_g := q_g (q_t4 (List.mem_of_getElem? (i := 211) rfl)) rfl
set_option maxRecDepth 10000 in
theorem tw_798 : Cond.selects "PlainPage$Run" y_Run_beginIn y_Run_beginIn ∈ lw_g := q_g (q_t4 (List.mem_of_getElem? (i := 212) rfl)) rfl
set_option maxRecDepth 10000 in
theorem tw_799 : Cond.fieldLink "PlainPage$Layout" 119 "PlainPage$Node" "first" "LPlainPage$Node;" ∈ lw_g := q_g (q_t1 (List.mem_of_getElem? (i := 150) rfl)) rfl
set_option maxRecDepth 10000 in
theorem tw_800 : Cond.fieldLink "PlainPage$Layout" 98 "PlainPage$Node" "name" "I" ∈ lw_g := q_g (q_t1 (List.mem_of_getElem? (i := 126) rfl)) rfl
set_option maxRecDepth 10000 in
theorem tw_801 : Cond.fieldLink "PlainPage$Layout" 126 "PlainPage$Node" "after" "LPlainPage$Node;" ∈ lw_g := q_g (q_t1 (List.mem_of_getElem? (i := 156) rfl)) rfl
set_option maxRecDepth 10000 in
theorem tw_802 : Cond.code y_Layout_layItems prog_4_method_6_code 5 none ∈ lw_g := q_g (q_t4 (List.mem_of_getElem? (i := 217) rfl)) rfl
set_option maxRecDepth 10000 in
theorem tw_803 : Cond.methodLink "PlainPage$Layout" 109 y_Layout_layItems ∈ lw_g := q_g (q_t4 (List.mem_of_getElem? (i := 214) rfl)) rfl
set_option maxRecDepth 10000 in
theorem tw_804 : Cond.instanceMethod y_Layout_layItems ∈ lw_g := q_g (q_t4 (List.mem_of_getElem? (i := 216) rfl)) rfl
set_option maxRecDepth 10000 in
theorem tw_805 : Cond.selects "PlainPage$Layout" y_Layout_layItems y_Layout_layItems ∈ lw_g := q_g (List.mem_of_getElem? (i := 31) rfl) rfl
set_option maxRecDepth 10000 in
theorem tw_806 : Cond.code y_Run_addBreak prog_9_method_4_code 2 none ∈ lw_g := q_g (q_t5 (List.mem_of_getElem? (i := 2) rfl)) rfl
set_option maxRecDepth 10000 in
theorem tw_807 : Cond.methodLink "PlainPage$Layout" 140 y_Run_addBreak ∈ lw_g := q_g (q_t4 (List.mem_of_getElem? (i := 239) rfl)) rfl
set_option maxRecDepth 10000 in
theorem tw_808 : Cond.instanceMethod y_Run_addBreak ∈ lw_g := q_g (q_t5 (List.mem_of_getElem? (i := 0) rfl)) rfl
set_option maxRecDepth 10000 in
theorem tw_809 : Cond.selects "PlainPage$Run" y_Run_addBreak y_Run_addBreak ∈ lw_g := q_g (q_t5 (List.mem_of_getElem? (i := 1) rfl)) rfl
set_option maxRecDepth 10000 in
theorem tw_810 : Cond.code y_Layout_layBelow prog_4_method_7_code 6 none ∈ lw_g := q_g (q_t4 (List.mem_of_getElem? (i := 234) rfl)) rfl
set_option maxRecDepth 10000 in
theorem tw_811 : Cond.methodLink "PlainPage$Layout" 137 y_Layout_layBelow ∈ lw_g := q_g (q_t4 (List.mem_of_getElem? (i := 231) rfl)) rfl
set_option maxRecDepth 10000 in
theorem tw_812 : Cond.instanceMethod y_Layout_layBelow ∈ lw_g := q_g (q_t4 (List.mem_of_getElem? (i := 233) rfl)) rfl
set_option maxRecDepth 10000 in
theorem tw_813 : Cond.selects "PlainPage$Layout" y_Layout_layBelow y_Layout_layBelow ∈ lw_g := q_g (List.mem_of_getElem? (i := 34) rfl) rfl
set_option maxRecDepth 10000 in
theorem tw_814 : Cond.code y_Run_addText prog_9_method_3_code 4 none ∈ lw_g := q_g (q_t4 (List.mem_of_getElem? (i := 221) rfl)) rfl
set_option maxRecDepth 10000 in
theorem tw_815 : Cond.methodLink "PlainPage$Layout" 133 y_Run_addText ∈ lw_g := q_g (q_t4 (List.mem_of_getElem? (i := 218) rfl)) rfl
set_option maxRecDepth 10000 in
theorem tw_816 : Cond.instanceMethod y_Run_addText ∈ lw_g := q_g (q_t4 (List.mem_of_getElem? (i := 219) rfl)) rfl
set_option maxRecDepth 10000 in
theorem tw_817 : Cond.selects "PlainPage$Run" y_Run_addText y_Run_addText ∈ lw_g := q_g (q_t4 (List.mem_of_getElem? (i := 220) rfl)) rfl
set_option maxRecDepth 10000 in
theorem tw_818 : Cond.code y_Layout_isBox prog_4_method_5_code 1 (some .boolean) ∈ lw_g := q_g (q_t4 (List.mem_of_getElem? (i := 208) rfl)) rfl
set_option maxRecDepth 10000 in
theorem tw_819 : Cond.methodLink "PlainPage$Layout" 122 y_Layout_isBox ∈ lw_g := q_g (q_t4 (List.mem_of_getElem? (i := 206) rfl)) rfl
set_option maxRecDepth 10000 in
theorem tw_820 : Cond.static y_Layout_isBox ∈ lw_g := q_g (q_t4 (List.mem_of_getElem? (i := 207) rfl)) rfl
set_option maxRecDepth 10000 in
theorem tw_821 : Cond.fieldLink "PlainPage$Layout" 79 "PlainPage$Box" "contentTop" "I" ∈ lw_g := q_g (q_t1 (List.mem_of_getElem? (i := 96) rfl)) rfl
set_option maxRecDepth 10000 in
theorem tw_822 : Cond.code y_Layout_layCells prog_4_method_4_code 10 (some .int) ∈ lw_g := q_g (q_t4 (List.mem_of_getElem? (i := 205) rfl)) rfl
set_option maxRecDepth 10000 in
theorem tw_823 : Cond.methodLink "PlainPage$Layout" 101 y_Layout_layCells ∈ lw_g := q_g (q_t4 (List.mem_of_getElem? (i := 202) rfl)) rfl
set_option maxRecDepth 10000 in
theorem tw_824 : Cond.instanceMethod y_Layout_layCells ∈ lw_g := q_g (q_t4 (List.mem_of_getElem? (i := 204) rfl)) rfl
set_option maxRecDepth 10000 in
theorem tw_825 : Cond.selects "PlainPage$Layout" y_Layout_layCells y_Layout_layCells ∈ lw_g := q_g (List.mem_of_getElem? (i := 30) rfl) rfl
set_option maxRecDepth 10000 in
theorem tw_826 : Cond.fieldLink "PlainPage$Layout" 18 "PlainPage$Layout" "width" "I" ∈ lw_g := q_g (q_t2 (List.mem_of_getElem? (i := 175) rfl)) rfl
set_option maxRecDepth 10000 in
theorem tw_827 : Cond.fieldLink "PlainPage$Layout" 22 "PlainPage$Run" "allLines" "I" ∈ lw_g := q_g (q_t2 (List.mem_of_getElem? (i := 143) rfl)) rfl
set_option maxRecDepth 10000 in
theorem tw_828 : Cond.fieldLink "PlainPage$Layout" 46 "PlainPage$Tree" "usedLetters" "I" ∈ lw_g := q_g (q_t2 (List.mem_of_getElem? (i := 13) rfl)) rfl
set_option maxRecDepth 10000 in
theorem tw_829 : Cond.fieldLink "PlainPage$Layout" 49 "PlainPage$Tree" "letters" "[LPlainPage$Letter;" ∈ lw_g := q_g (q_t2 (List.mem_of_getElem? (i := 2) rfl)) rfl
set_option maxRecDepth 10000 in
theorem tw_830 : Cond.fieldLink "PlainPage$Layout" 58 "PlainPage$Tree" "root" "LPlainPage$Node;" ∈ lw_g := q_g (q_t2 (List.mem_of_getElem? (i := 6) rfl)) rfl
set_option maxRecDepth 10000 in
theorem tw_831 : Cond.code y_Layout_lay prog_4_method_2_code 4 none ∈ lw_g := q_g (q_t4 (List.mem_of_getElem? (i := 196) rfl)) rfl
set_option maxRecDepth 10000 in
theorem tw_832 : Cond.methodLink "PlainPage" 129 y_Layout_lay ∈ lw_g := q_g (q_t4 (List.mem_of_getElem? (i := 193) rfl)) rfl
set_option maxRecDepth 10000 in
theorem tw_833 : Cond.instanceMethod y_Layout_lay ∈ lw_g := q_g (q_t4 (List.mem_of_getElem? (i := 194) rfl)) rfl
set_option maxRecDepth 10000 in
theorem tw_834 : Cond.selects "PlainPage$Layout" y_Layout_lay y_Layout_lay ∈ lw_g := q_g (q_t4 (List.mem_of_getElem? (i := 195) rfl)) rfl
set_option maxRecDepth 10000 in
theorem tw_835 : Cond.fieldLink "PlainPage" 136 "PlainPage$Tree" "root" "LPlainPage$Node;" ∈ lw_g := q_g (q_t2 (List.mem_of_getElem? (i := 7) rfl)) rfl
