def GW (w : Cond) : Prop := w ∈ lw_tbl ∧ ((w.onTables && w.keeps) = true ∨ ∃ ty, w = .arrayClass ty)
theorem tb0 {w : Cond} (h : w ∈ k2_sels lw_privs) : w ∈ lw_tbl := List.mem_append_left _ h
theorem tb1 {w : Cond} (h : w ∈ tables_1_1) : w ∈ lw_tbl := List.mem_append_right _ (List.mem_append_left _ h)
theorem tb2 {w : Cond} (h : w ∈ tables_1_2) : w ∈ lw_tbl := List.mem_append_right _ (List.mem_append_right _ (List.mem_append_left _ h))
theorem tb3 {w : Cond} (h : w ∈ tables_1_3) : w ∈ lw_tbl := List.mem_append_right _ (List.mem_append_right _ (List.mem_append_right _ (List.mem_append_left _ h)))
theorem tb4 {w : Cond} (h : w ∈ tables_1_4) : w ∈ lw_tbl := List.mem_append_right _ (List.mem_append_right _ (List.mem_append_right _ (List.mem_append_right _ h)))
theorem gw_0 : GW (Cond.code yX6_feed cX6_feed 6 (some .int)) := ⟨tb1 (List.mem_of_getElem? (i := 123) rfl), (Or.inl rfl)⟩
theorem gw_1 : GW (Cond.fieldLink RX6 15 "MossRings" "tape" "[I") := ⟨tb1 (List.mem_of_getElem? (i := 78) rfl), (Or.inl rfl)⟩
theorem gw_2 : GW (Cond.code yX6_putBytes cX6_putBytes 3 none) := ⟨tb1 (List.mem_of_getElem? (i := 127) rfl), (Or.inl rfl)⟩
theorem gw_3 : GW (Cond.initialized RX6) := ⟨tb1 (List.mem_of_getElem? (i := 1) rfl), (Or.inl rfl)⟩
theorem gw_4 : GW (Cond.selects RX6 yX6_putBytes yX6_putBytes) := ⟨tb0 (List.mem_of_getElem? (i := 0) rfl), (Or.inl rfl)⟩
theorem gw_5 : GW (Cond.instanceMethod yX6_putBytes) := ⟨tb1 (List.mem_of_getElem? (i := 126) rfl), (Or.inl rfl)⟩
theorem gw_6 : GW (Cond.methodLink RX6 56 yX6_putBytes) := ⟨tb1 (List.mem_of_getElem? (i := 124) rfl), (Or.inl rfl)⟩
theorem gw_7 : GW (Cond.fieldLink RX6 52 "MossRings" "tapeLength" "I") := ⟨tb1 (List.mem_of_getElem? (i := 79) rfl), (Or.inl rfl)⟩
theorem gw_8 : GW (Cond.methodLink RL 19 yX6_feed) := ⟨tb1 (List.mem_of_getElem? (i := 120) rfl), (Or.inl rfl)⟩
theorem gw_9 : GW (Cond.instanceMethod yX6_feed) := ⟨tb1 (List.mem_of_getElem? (i := 121) rfl), (Or.inl rfl)⟩
theorem gw_10 : GW (Cond.selects RX6 yX6_feed yX6_feed) := ⟨tb1 (List.mem_of_getElem? (i := 122) rfl), (Or.inl rfl)⟩
theorem gw_11 : GW (Cond.code yX7_feed cX7_feed 6 (some .int)) := ⟨tb4 (List.mem_of_getElem? (i := 11) rfl), (Or.inl rfl)⟩
theorem gw_12 : GW (Cond.fieldLink RX7 7 "MossRingsModel" "tape" "[B") := ⟨tb3 (List.mem_of_getElem? (i := 163) rfl), (Or.inl rfl)⟩
theorem gw_13 : GW (Cond.code yX7_four cX7_four 3 none) := ⟨tb4 (List.mem_of_getElem? (i := 15) rfl), (Or.inl rfl)⟩
theorem gw_14 : GW (Cond.initialized RX7) := ⟨tb1 (List.mem_of_getElem? (i := 5) rfl), (Or.inl rfl)⟩
theorem gw_15 : GW (Cond.selects RX7 yX7_four yX7_four) := ⟨tb0 (List.mem_of_getElem? (i := 33) rfl), (Or.inl rfl)⟩
theorem gw_16 : GW (Cond.instanceMethod yX7_four) := ⟨tb4 (List.mem_of_getElem? (i := 14) rfl), (Or.inl rfl)⟩
theorem gw_17 : GW (Cond.methodLink RX7 87 yX7_four) := ⟨tb4 (List.mem_of_getElem? (i := 12) rfl), (Or.inl rfl)⟩
theorem gw_18 : GW (Cond.fieldLink RX7 84 "MossRingsModel" "length" "I") := ⟨tb3 (List.mem_of_getElem? (i := 164) rfl), (Or.inl rfl)⟩
theorem gw_19 : GW (Cond.fieldLink RX7 80 "MossRingsModel" "thrown" "I") := ⟨tb3 (List.mem_of_getElem? (i := 162) rfl), (Or.inl rfl)⟩
theorem gw_20 : GW (Cond.methodLink RL 23 yX7_feed) := ⟨tb4 (List.mem_of_getElem? (i := 8) rfl), (Or.inl rfl)⟩
theorem gw_21 : GW (Cond.instanceMethod yX7_feed) := ⟨tb4 (List.mem_of_getElem? (i := 9) rfl), (Or.inl rfl)⟩
theorem gw_22 : GW (Cond.selects RX7 yX7_feed yX7_feed) := ⟨tb4 (List.mem_of_getElem? (i := 10) rfl), (Or.inl rfl)⟩
theorem gw_23 : GW (Cond.code yX6_end cX6_end 2 (some .boolean)) := ⟨tb1 (List.mem_of_getElem? (i := 131) rfl), (Or.inl rfl)⟩
theorem gw_24 : GW (Cond.methodLink RL 24 yX6_end) := ⟨tb1 (List.mem_of_getElem? (i := 128) rfl), (Or.inl rfl)⟩
theorem gw_25 : GW (Cond.instanceMethod yX6_end) := ⟨tb1 (List.mem_of_getElem? (i := 129) rfl), (Or.inl rfl)⟩
theorem gw_26 : GW (Cond.selects RX6 yX6_end yX6_end) := ⟨tb1 (List.mem_of_getElem? (i := 130) rfl), (Or.inl rfl)⟩
theorem gw_27 : GW (Cond.code yX7_end cX7_end 2 (some .boolean)) := ⟨tb4 (List.mem_of_getElem? (i := 19) rfl), (Or.inl rfl)⟩
theorem gw_28 : GW (Cond.methodLink RL 28 yX7_end) := ⟨tb4 (List.mem_of_getElem? (i := 16) rfl), (Or.inl rfl)⟩
theorem gw_29 : GW (Cond.instanceMethod yX7_end) := ⟨tb4 (List.mem_of_getElem? (i := 17) rfl), (Or.inl rfl)⟩
theorem gw_30 : GW (Cond.selects RX7 yX7_end yX7_end) := ⟨tb4 (List.mem_of_getElem? (i := 18) rfl), (Or.inl rfl)⟩
theorem gw_31 : GW (Cond.code yX6_rule cX6_rule 5 (some .boolean)) := ⟨tb1 (List.mem_of_getElem? (i := 135) rfl), (Or.inl rfl)⟩
theorem gw_32 : GW (Cond.selects RX6 yX6_areStates yX6_areStates) := ⟨tb0 (List.mem_of_getElem? (i := 2) rfl), (Or.inl rfl)⟩
theorem gw_33 : GW (Cond.instanceMethod yX6_areStates) := ⟨tb1 (List.mem_of_getElem? (i := 153) rfl), (Or.inl rfl)⟩
theorem gw_34 : GW (Cond.methodLink RX6 76 yX6_areStates) := ⟨tb1 (List.mem_of_getElem? (i := 151) rfl), (Or.inl rfl)⟩
theorem gw_35 : GW (Cond.code yX6_power cX6_power 4 (some .int)) := ⟨tb1 (List.mem_of_getElem? (i := 150) rfl), (Or.inl rfl)⟩
theorem gw_36 : GW (Cond.static yX6_power) := ⟨tb1 (List.mem_of_getElem? (i := 149) rfl), (Or.inl rfl)⟩
theorem gw_37 : GW (Cond.methodLink RX6 72 yX6_power) := ⟨tb1 (List.mem_of_getElem? (i := 148) rfl), (Or.inl rfl)⟩
theorem gw_38 : GW (Cond.fieldLink RX6 225 "MossRings" "MOST_WIDTH" "[I") := ⟨tb1 (List.mem_of_getElem? (i := 146) rfl), (Or.inl rfl)⟩
theorem gw_39 : GW (Cond.code yX6_mostWidth cX6_mostWidth 1 (some .int)) := ⟨tb1 (List.mem_of_getElem? (i := 145) rfl), (Or.inl rfl)⟩
theorem gw_40 : GW (Cond.static yX6_mostWidth) := ⟨tb1 (List.mem_of_getElem? (i := 144) rfl), (Or.inl rfl)⟩
theorem gw_41 : GW (Cond.methodLink RX6 68 yX6_mostWidth) := ⟨tb1 (List.mem_of_getElem? (i := 143) rfl), (Or.inl rfl)⟩
theorem gw_42 : GW (Cond.code yX6_isSlot cX6_isSlot 1 (some .boolean)) := ⟨tb1 (List.mem_of_getElem? (i := 142) rfl), (Or.inl rfl)⟩
theorem gw_43 : GW (Cond.static yX6_isSlot) := ⟨tb1 (List.mem_of_getElem? (i := 141) rfl), (Or.inl rfl)⟩
theorem gw_44 : GW (Cond.methodLink RX6 64 yX6_isSlot) := ⟨tb1 (List.mem_of_getElem? (i := 140) rfl), (Or.inl rfl)⟩
theorem gw_45 : GW (Cond.code yX6_takeTape cX6_takeTape 2 (some .int)) := ⟨tb1 (List.mem_of_getElem? (i := 139) rfl), (Or.inl rfl)⟩
theorem gw_46 : GW (Cond.selects RX6 yX6_takeTape yX6_takeTape) := ⟨tb0 (List.mem_of_getElem? (i := 1) rfl), (Or.inl rfl)⟩
theorem gw_47 : GW (Cond.instanceMethod yX6_takeTape) := ⟨tb1 (List.mem_of_getElem? (i := 138) rfl), (Or.inl rfl)⟩
theorem gw_48 : GW (Cond.methodLink RX6 60 yX6_takeTape) := ⟨tb1 (List.mem_of_getElem? (i := 136) rfl), (Or.inl rfl)⟩
theorem gw_49 : GW (Cond.initialized RX1) := ⟨tb1 (List.mem_of_getElem? (i := 6) rfl), (Or.inl rfl)⟩
theorem gw_50 : GW (Cond.instantiable RX1 5) := ⟨tb1 (List.mem_of_getElem? (i := 155) rfl), (Or.inl rfl)⟩
theorem gw_51 : GW (Cond.classLink RX6 9 RX1) := ⟨tb1 (List.mem_of_getElem? (i := 24) rfl), (Or.inl rfl)⟩
theorem gw_52 : GW (Cond.fieldLink RX6 11 "MossRings" "slots" "[LMossRings$Rule;") := ⟨tb1 (List.mem_of_getElem? (i := 77) rfl), (Or.inl rfl)⟩
theorem gw_53 : GW (Cond.instanceMethod ⟨"java/lang/Object", "clone", "()Ljava/lang/Object;"⟩) := ⟨tb1 (List.mem_of_getElem? (i := 170) rfl), (Or.inl rfl)⟩
theorem gw_54 : GW (Cond.native ⟨"java/lang/Object", "clone", "()Ljava/lang/Object;"⟩) := ⟨tb1 (List.mem_of_getElem? (i := 169) rfl), (Or.inl rfl)⟩
theorem gw_55 : GW (Cond.sameMethod "[I" "java/lang/Object" "clone" "()Ljava/lang/Object;") := ⟨tb1 (List.mem_of_getElem? (i := 168) rfl), (Or.inl rfl)⟩
theorem gw_56 : GW (Cond.methodLink RJ7 316 ⟨"[I", "clone", "()Ljava/lang/Object;"⟩) := ⟨tb1 (List.mem_of_getElem? (i := 167) rfl), (Or.inl rfl)⟩
theorem gw_57 : GW (Cond.code yJ7_copyOf_59c91 cJ7_copyOf_59c91 3 (some (.array .int))) := ⟨tb1 (List.mem_of_getElem? (i := 166) rfl), (Or.inl rfl)⟩
theorem gw_58 : GW (Cond.initialized RJ7) := ⟨tb1 (List.mem_of_getElem? (i := 8) rfl), (Or.inl rfl)⟩
theorem gw_59 : GW (Cond.static yJ7_copyOf_59c91) := ⟨tb1 (List.mem_of_getElem? (i := 165) rfl), (Or.inl rfl)⟩
theorem gw_60 : GW (Cond.methodLink RX1 33 yJ7_copyOf_59c91) := ⟨tb1 (List.mem_of_getElem? (i := 164) rfl), (Or.inl rfl)⟩
theorem gw_61 : GW (Cond.fieldLink RX1 39 "MossRings$Rule" "told" "[I") := ⟨tb1 (List.mem_of_getElem? (i := 197) rfl), (Or.inl rfl)⟩
theorem gw_62 : GW (Cond.fieldLink RX1 30 "MossRings$Rule" "words" "I") := ⟨tb1 (List.mem_of_getElem? (i := 189) rfl), (Or.inl rfl)⟩
theorem gw_63 : GW (Cond.fieldLink RX1 27 "MossRings$Rule" "nodes" "I") := ⟨tb1 (List.mem_of_getElem? (i := 193) rfl), (Or.inl rfl)⟩
theorem gw_64 : GW (Cond.fieldLink RX1 19 "MossRings$Rule" "width" "I") := ⟨tb1 (List.mem_of_getElem? (i := 186) rfl), (Or.inl rfl)⟩
theorem gw_65 : GW (Cond.fieldLink RX1 13 "MossRings$Rule" "states" "I") := ⟨tb1 (List.mem_of_getElem? (i := 180) rfl), (Or.inl rfl)⟩
theorem gw_66 : GW (Cond.code Lib.Math.max.name Lib.Math.max.code 2 (some .int)) := ⟨tb1 (List.mem_of_getElem? (i := 162) rfl), (Or.inl rfl)⟩
theorem gw_67 : GW (Cond.initialized "java/lang/Math") := ⟨tb1 (List.mem_of_getElem? (i := 7) rfl), (Or.inl rfl)⟩
theorem gw_68 : GW (Cond.static Lib.Math.max.name) := ⟨tb1 (List.mem_of_getElem? (i := 161) rfl), (Or.inl rfl)⟩
theorem gw_69 : GW (Cond.methodLink RX1 7 Lib.Math.max.name) := ⟨tb1 (List.mem_of_getElem? (i := 160) rfl), (Or.inl rfl)⟩
theorem gw_70 : GW (Cond.code objectInit ⟨#[0xb1]⟩ 1 none) := ⟨tb1 (List.mem_of_getElem? (i := 23) rfl), (Or.inl rfl)⟩
theorem gw_71 : GW (Cond.instanceMethod objectInit) := ⟨tb1 (List.mem_of_getElem? (i := 22) rfl), (Or.inl rfl)⟩
theorem gw_72 : GW (Cond.methodLink RX1 1 objectInit) := ⟨tb1 (List.mem_of_getElem? (i := 159) rfl), (Or.inl rfl)⟩
theorem gw_73 : GW (Cond.code yX1_init cX1_init 4 none) := ⟨tb1 (List.mem_of_getElem? (i := 158) rfl), (Or.inl rfl)⟩
theorem gw_74 : GW (Cond.instanceMethod yX1_init) := ⟨tb1 (List.mem_of_getElem? (i := 157) rfl), (Or.inl rfl)⟩
theorem gw_75 : GW (Cond.methodLink RX6 80 yX1_init) := ⟨tb1 (List.mem_of_getElem? (i := 156) rfl), (Or.inl rfl)⟩
theorem gw_76 : GW (Cond.code yX6_areStates cX6_areStates 4 (some .boolean)) := ⟨tb1 (List.mem_of_getElem? (i := 154) rfl), (Or.inl rfl)⟩
theorem gw_77 : GW (Cond.initialized "java/lang/System") := ⟨tb1 (List.mem_of_getElem? (i := 9) rfl), (Or.inl rfl)⟩
theorem gw_78 : GW (Cond.static arraycopyName) := ⟨tb1 (List.mem_of_getElem? (i := 178) rfl), (Or.inl rfl)⟩
theorem gw_79 : GW (Cond.native arraycopyName) := ⟨tb1 (List.mem_of_getElem? (i := 179) rfl), (Or.inl rfl)⟩
theorem gw_80 : GW (Cond.methodLink RJ7 150 arraycopyName) := ⟨tb1 (List.mem_of_getElem? (i := 177) rfl), (Or.inl rfl)⟩
theorem gw_81 : GW (Cond.code Lib.Math.min.name Lib.Math.min.code 2 (some .int)) := ⟨tb1 (List.mem_of_getElem? (i := 176) rfl), (Or.inl rfl)⟩
theorem gw_82 : GW (Cond.static Lib.Math.min.name) := ⟨tb1 (List.mem_of_getElem? (i := 175) rfl), (Or.inl rfl)⟩
theorem gw_83 : GW (Cond.methodLink RJ7 304 Lib.Math.min.name) := ⟨tb1 (List.mem_of_getElem? (i := 174) rfl), (Or.inl rfl)⟩
theorem gw_84 : GW (Cond.arrayClass .int) := ⟨tb1 (List.mem_of_getElem? (i := 42) rfl), (Or.inr ⟨_, rfl⟩)⟩
theorem gw_85 : GW (Cond.classLink RJ7 317 "[I") := ⟨tb1 (List.mem_of_getElem? (i := 173) rfl), (Or.inl rfl)⟩
theorem gw_86 : GW (Cond.selects "[I" ⟨"[I", "clone", "()Ljava/lang/Object;"⟩ ⟨"java/lang/Object", "clone", "()Ljava/lang/Object;"⟩) := ⟨tb1 (List.mem_of_getElem? (i := 171) rfl), (Or.inl rfl)⟩
theorem gw_87 : GW (Cond.methodLink RL 29 yX6_rule) := ⟨tb1 (List.mem_of_getElem? (i := 132) rfl), (Or.inl rfl)⟩
theorem gw_88 : GW (Cond.instanceMethod yX6_rule) := ⟨tb1 (List.mem_of_getElem? (i := 133) rfl), (Or.inl rfl)⟩
theorem gw_89 : GW (Cond.selects RX6 yX6_rule yX6_rule) := ⟨tb1 (List.mem_of_getElem? (i := 134) rfl), (Or.inl rfl)⟩
theorem gw_90 : GW (Cond.code yX7_rule cX7_rule 5 (some .boolean)) := ⟨tb4 (List.mem_of_getElem? (i := 23) rfl), (Or.inl rfl)⟩
theorem gw_91 : GW (Cond.fieldLink RX7 13 "MossRingsModel" "states" "[I") := ⟨tb3 (List.mem_of_getElem? (i := 166) rfl), (Or.inl rfl)⟩
theorem gw_92 : GW (Cond.code yX7_lay cX7_lay 5 none) := ⟨tb4 (List.mem_of_getElem? (i := 40) rfl), (Or.inl rfl)⟩
theorem gw_93 : GW (Cond.selects RX7 yX7_lay yX7_lay) := ⟨tb0 (List.mem_of_getElem? (i := 35) rfl), (Or.inl rfl)⟩
theorem gw_94 : GW (Cond.instanceMethod yX7_lay) := ⟨tb4 (List.mem_of_getElem? (i := 39) rfl), (Or.inl rfl)⟩
theorem gw_95 : GW (Cond.methodLink RX7 109 yX7_lay) := ⟨tb4 (List.mem_of_getElem? (i := 37) rfl), (Or.inl rfl)⟩
theorem gw_96 : GW (Cond.code yX7_power cX7_power 4 (some .int)) := ⟨tb4 (List.mem_of_getElem? (i := 36) rfl), (Or.inl rfl)⟩
theorem gw_97 : GW (Cond.static yX7_power) := ⟨tb4 (List.mem_of_getElem? (i := 35) rfl), (Or.inl rfl)⟩
theorem gw_98 : GW (Cond.methodLink RX7 98 yX7_power) := ⟨tb4 (List.mem_of_getElem? (i := 34) rfl), (Or.inl rfl)⟩
theorem gw_99 : GW (Cond.code yX7_widest cX7_widest 1 (some .int)) := ⟨tb4 (List.mem_of_getElem? (i := 33) rfl), (Or.inl rfl)⟩
theorem gw_100 : GW (Cond.static yX7_widest) := ⟨tb4 (List.mem_of_getElem? (i := 32) rfl), (Or.inl rfl)⟩
theorem gw_101 : GW (Cond.methodLink RX7 105 yX7_widest) := ⟨tb4 (List.mem_of_getElem? (i := 31) rfl), (Or.inl rfl)⟩
theorem gw_102 : GW (Cond.code yX7_isSlot cX7_isSlot 1 (some .boolean)) := ⟨tb4 (List.mem_of_getElem? (i := 30) rfl), (Or.inl rfl)⟩
theorem gw_103 : GW (Cond.static yX7_isSlot) := ⟨tb4 (List.mem_of_getElem? (i := 29) rfl), (Or.inl rfl)⟩
theorem gw_104 : GW (Cond.methodLink RX7 94 yX7_isSlot) := ⟨tb4 (List.mem_of_getElem? (i := 28) rfl), (Or.inl rfl)⟩
theorem gw_105 : GW (Cond.code yX7_taken cX7_taken 1 none) := ⟨tb4 (List.mem_of_getElem? (i := 27) rfl), (Or.inl rfl)⟩
theorem gw_106 : GW (Cond.selects RX7 yX7_taken yX7_taken) := ⟨tb0 (List.mem_of_getElem? (i := 34) rfl), (Or.inl rfl)⟩
theorem gw_107 : GW (Cond.instanceMethod yX7_taken) := ⟨tb4 (List.mem_of_getElem? (i := 26) rfl), (Or.inl rfl)⟩
theorem gw_108 : GW (Cond.methodLink RX7 102 yX7_taken) := ⟨tb4 (List.mem_of_getElem? (i := 24) rfl), (Or.inl rfl)⟩
theorem gw_109 : GW (Cond.fieldLink RX7 20 "MossRingsModel" "table" "[I") := ⟨tb3 (List.mem_of_getElem? (i := 168) rfl), (Or.inl rfl)⟩
theorem gw_110 : GW (Cond.fieldLink RX7 91 "MossRingsModel" "size" "I") := ⟨tb3 (List.mem_of_getElem? (i := 165) rfl), (Or.inl rfl)⟩
theorem gw_111 : GW (Cond.fieldLink RX7 17 "MossRingsModel" "widths" "[I") := ⟨tb3 (List.mem_of_getElem? (i := 167) rfl), (Or.inl rfl)⟩
theorem gw_112 : GW (Cond.methodLink RL 33 yX7_rule) := ⟨tb4 (List.mem_of_getElem? (i := 20) rfl), (Or.inl rfl)⟩
theorem gw_113 : GW (Cond.instanceMethod yX7_rule) := ⟨tb4 (List.mem_of_getElem? (i := 21) rfl), (Or.inl rfl)⟩
theorem gw_114 : GW (Cond.selects RX7 yX7_rule yX7_rule) := ⟨tb4 (List.mem_of_getElem? (i := 22) rfl), (Or.inl rfl)⟩
theorem gw_115 : GW (Cond.code yX6_about cX6_about 4 (some .int)) := ⟨tb1 (List.mem_of_getElem? (i := 212) rfl), (Or.inl rfl)⟩
theorem gw_116 : GW (Cond.code yX2_learn cX2_learn 4 none) := ⟨tb1 (List.mem_of_getElem? (i := 224) rfl), (Or.inl rfl)⟩
theorem gw_117 : GW (Cond.selects RX2 yX2_learn yX2_learn) := ⟨tb0 (List.mem_of_getElem? (i := 4) rfl), (Or.inl rfl)⟩
theorem gw_118 : GW (Cond.instanceMethod yX2_learn) := ⟨tb1 (List.mem_of_getElem? (i := 223) rfl), (Or.inl rfl)⟩
theorem gw_119 : GW (Cond.methodLink RX2 24 yX2_learn) := ⟨tb1 (List.mem_of_getElem? (i := 221) rfl), (Or.inl rfl)⟩
theorem gw_120 : GW (Cond.fieldLink RX2 18 "MossRings$Sets" "cameBy" "[I") := ⟨tb1 (List.mem_of_getElem? (i := 52) rfl), (Or.inl rfl)⟩
theorem gw_121 : GW (Cond.fieldLink RX2 9 "MossRings$Sets" "queue" "[I") := ⟨tb1 (List.mem_of_getElem? (i := 50) rfl), (Or.inl rfl)⟩
theorem gw_122 : GW (Cond.fieldLink RX2 15 "MossRings$Sets" "cameFrom" "[I") := ⟨tb1 (List.mem_of_getElem? (i := 51) rfl), (Or.inl rfl)⟩
theorem gw_123 : GW (Cond.fieldLink RX2 34 "MossRings$Sets" "whole" "I") := ⟨tb1 (List.mem_of_getElem? (i := 54) rfl), (Or.inl rfl)⟩
theorem gw_124 : GW (Cond.code yX2_missesSome cX2_missesSome 6 (some .boolean)) := ⟨tb1 (List.mem_of_getElem? (i := 220) rfl), (Or.inl rfl)⟩
theorem gw_125 : GW (Cond.initialized RX2) := ⟨tb1 (List.mem_of_getElem? (i := 3) rfl), (Or.inl rfl)⟩
theorem gw_126 : GW (Cond.selects RX2 yX2_missesSome yX2_missesSome) := ⟨tb1 (List.mem_of_getElem? (i := 219) rfl), (Or.inl rfl)⟩
theorem gw_127 : GW (Cond.instanceMethod yX2_missesSome) := ⟨tb1 (List.mem_of_getElem? (i := 218) rfl), (Or.inl rfl)⟩
theorem gw_128 : GW (Cond.methodLink RX6 93 yX2_missesSome) := ⟨tb1 (List.mem_of_getElem? (i := 217) rfl), (Or.inl rfl)⟩
theorem gw_129 : GW (Cond.code yX6_ruleIn cX6_ruleIn 2 (some (.object "MossRings$Rule"))) := ⟨tb1 (List.mem_of_getElem? (i := 216) rfl), (Or.inl rfl)⟩
theorem gw_130 : GW (Cond.selects RX6 yX6_ruleIn yX6_ruleIn) := ⟨tb0 (List.mem_of_getElem? (i := 3) rfl), (Or.inl rfl)⟩
theorem gw_131 : GW (Cond.instanceMethod yX6_ruleIn) := ⟨tb1 (List.mem_of_getElem? (i := 215) rfl), (Or.inl rfl)⟩
theorem gw_132 : GW (Cond.methodLink RX6 83 yX6_ruleIn) := ⟨tb1 (List.mem_of_getElem? (i := 213) rfl), (Or.inl rfl)⟩
theorem gw_133 : GW (Cond.fieldLink RX6 48 "MossRings" "pairs" "LMossRings$Pairs;") := ⟨tb1 (List.mem_of_getElem? (i := 88) rfl), (Or.inl rfl)⟩
theorem gw_134 : GW (Cond.fieldLink RX6 41 "MossRings" "sets" "LMossRings$Sets;") := ⟨tb1 (List.mem_of_getElem? (i := 87) rfl), (Or.inl rfl)⟩
theorem gw_135 : GW (Cond.selects RX0 yX0_begin yX0_begin) := ⟨tb0 (List.mem_of_getElem? (i := 6) rfl), (Or.inl rfl)⟩
theorem gw_136 : GW (Cond.instanceMethod yX0_begin) := ⟨tb2 (List.mem_of_getElem? (i := 2) rfl), (Or.inl rfl)⟩
theorem gw_137 : GW (Cond.methodLink RX0 15 yX0_begin) := ⟨tb2 (List.mem_of_getElem? (i := 0) rfl), (Or.inl rfl)⟩
theorem gw_138 : GW (Cond.fieldLink RX0 9 "MossRings$Pairs" "alive" "[Z") := ⟨tb1 (List.mem_of_getElem? (i := 72) rfl), (Or.inl rfl)⟩
theorem gw_139 : GW (Cond.code yX0_losesNothing cX0_losesNothing 5 (some .boolean)) := ⟨tb1 (List.mem_of_getElem? (i := 239) rfl), (Or.inl rfl)⟩
theorem gw_140 : GW (Cond.initialized RX0) := ⟨tb1 (List.mem_of_getElem? (i := 4) rfl), (Or.inl rfl)⟩
theorem gw_141 : GW (Cond.selects RX0 yX0_losesNothing yX0_losesNothing) := ⟨tb1 (List.mem_of_getElem? (i := 238) rfl), (Or.inl rfl)⟩
theorem gw_142 : GW (Cond.instanceMethod yX0_losesNothing) := ⟨tb1 (List.mem_of_getElem? (i := 237) rfl), (Or.inl rfl)⟩
theorem gw_143 : GW (Cond.methodLink RX6 97 yX0_losesNothing) := ⟨tb1 (List.mem_of_getElem? (i := 236) rfl), (Or.inl rfl)⟩
theorem gw_144 : GW (Cond.code yX2_follow cX2_follow 7 (some .int)) := ⟨tb1 (List.mem_of_getElem? (i := 235) rfl), (Or.inl rfl)⟩
theorem gw_145 : GW (Cond.selects RX2 yX2_follow yX2_follow) := ⟨tb0 (List.mem_of_getElem? (i := 5) rfl), (Or.inl rfl)⟩
theorem gw_146 : GW (Cond.instanceMethod yX2_follow) := ⟨tb1 (List.mem_of_getElem? (i := 234) rfl), (Or.inl rfl)⟩
theorem gw_147 : GW (Cond.methodLink RX2 46 yX2_follow) := ⟨tb1 (List.mem_of_getElem? (i := 232) rfl), (Or.inl rfl)⟩
theorem gw_148 : GW (Cond.code yX1_tells cX1_tells 2 (some .int)) := ⟨tb1 (List.mem_of_getElem? (i := 231) rfl), (Or.inl rfl)⟩
theorem gw_149 : GW (Cond.selects RX1 yX1_tells yX1_tells) := ⟨tb1 (List.mem_of_getElem? (i := 230) rfl), (Or.inl rfl)⟩
theorem gw_150 : GW (Cond.instanceMethod yX1_tells) := ⟨tb1 (List.mem_of_getElem? (i := 229) rfl), (Or.inl rfl)⟩
theorem gw_151 : GW (Cond.methodLink RX2 63 yX1_tells) := ⟨tb1 (List.mem_of_getElem? (i := 228) rfl), (Or.inl rfl)⟩
theorem gw_152 : GW (Cond.code yJ7_fill_53178 cJ7_fill_53178 4 none) := ⟨tb1 (List.mem_of_getElem? (i := 227) rfl), (Or.inl rfl)⟩
theorem gw_153 : GW (Cond.static yJ7_fill_53178) := ⟨tb1 (List.mem_of_getElem? (i := 226) rfl), (Or.inl rfl)⟩
theorem gw_154 : GW (Cond.methodLink RX2 37 yJ7_fill_53178) := ⟨tb1 (List.mem_of_getElem? (i := 225) rfl), (Or.inl rfl)⟩
theorem gw_155 : GW (Cond.fieldLink RX2 21 "MossRings$Sets" "reached" "[I") := ⟨tb1 (List.mem_of_getElem? (i := 53) rfl), (Or.inl rfl)⟩
theorem gw_156 : GW (Cond.code yX0_comesFrom cX0_comesFrom 8 (some .boolean)) := ⟨tb2 (List.mem_of_getElem? (i := 24) rfl), (Or.inl rfl)⟩
theorem gw_157 : GW (Cond.selects RX0 yX0_comesFrom yX0_comesFrom) := ⟨tb0 (List.mem_of_getElem? (i := 11) rfl), (Or.inl rfl)⟩
theorem gw_158 : GW (Cond.instanceMethod yX0_comesFrom) := ⟨tb2 (List.mem_of_getElem? (i := 23) rfl), (Or.inl rfl)⟩
theorem gw_159 : GW (Cond.methodLink RX0 45 yX0_comesFrom) := ⟨tb2 (List.mem_of_getElem? (i := 21) rfl), (Or.inl rfl)⟩
theorem gw_160 : GW (Cond.code yX0_goesOn cX0_goesOn 8 (some .boolean)) := ⟨tb2 (List.mem_of_getElem? (i := 20) rfl), (Or.inl rfl)⟩
theorem gw_161 : GW (Cond.selects RX0 yX0_goesOn yX0_goesOn) := ⟨tb0 (List.mem_of_getElem? (i := 10) rfl), (Or.inl rfl)⟩
theorem gw_162 : GW (Cond.instanceMethod yX0_goesOn) := ⟨tb2 (List.mem_of_getElem? (i := 19) rfl), (Or.inl rfl)⟩
theorem gw_163 : GW (Cond.methodLink RX0 41 yX0_goesOn) := ⟨tb2 (List.mem_of_getElem? (i := 17) rfl), (Or.inl rfl)⟩
theorem gw_164 : GW (Cond.code yX0_lives cX0_lives 4 (some .boolean)) := ⟨tb2 (List.mem_of_getElem? (i := 16) rfl), (Or.inl rfl)⟩
theorem gw_165 : GW (Cond.selects RX0 yX0_lives yX0_lives) := ⟨tb0 (List.mem_of_getElem? (i := 9) rfl), (Or.inl rfl)⟩
theorem gw_166 : GW (Cond.instanceMethod yX0_lives) := ⟨tb2 (List.mem_of_getElem? (i := 15) rfl), (Or.inl rfl)⟩
theorem gw_167 : GW (Cond.methodLink RX0 29 yX0_lives) := ⟨tb2 (List.mem_of_getElem? (i := 13) rfl), (Or.inl rfl)⟩
theorem gw_168 : GW (Cond.code yX0_prune cX0_prune 5 (some .boolean)) := ⟨tb2 (List.mem_of_getElem? (i := 12) rfl), (Or.inl rfl)⟩
theorem gw_169 : GW (Cond.selects RX0 yX0_prune yX0_prune) := ⟨tb0 (List.mem_of_getElem? (i := 8) rfl), (Or.inl rfl)⟩
theorem gw_170 : GW (Cond.instanceMethod yX0_prune) := ⟨tb2 (List.mem_of_getElem? (i := 11) rfl), (Or.inl rfl)⟩
theorem gw_171 : GW (Cond.methodLink RX0 19 yX0_prune) := ⟨tb2 (List.mem_of_getElem? (i := 9) rfl), (Or.inl rfl)⟩
theorem gw_172 : GW (Cond.code yX0_setLife cX0_setLife 5 none) := ⟨tb2 (List.mem_of_getElem? (i := 8) rfl), (Or.inl rfl)⟩
theorem gw_173 : GW (Cond.selects RX0 yX0_setLife yX0_setLife) := ⟨tb0 (List.mem_of_getElem? (i := 7) rfl), (Or.inl rfl)⟩
theorem gw_174 : GW (Cond.instanceMethod yX0_setLife) := ⟨tb2 (List.mem_of_getElem? (i := 7) rfl), (Or.inl rfl)⟩
theorem gw_175 : GW (Cond.methodLink RX0 37 yX0_setLife) := ⟨tb2 (List.mem_of_getElem? (i := 5) rfl), (Or.inl rfl)⟩
theorem gw_176 : GW (Cond.methodLink RX0 33 yX1_tells) := ⟨tb2 (List.mem_of_getElem? (i := 4) rfl), (Or.inl rfl)⟩
theorem gw_177 : GW (Cond.code yX0_begin cX0_begin 4 none) := ⟨tb2 (List.mem_of_getElem? (i := 3) rfl), (Or.inl rfl)⟩
theorem gw_178 : GW (Cond.methodLink RL 34 yX6_about) := ⟨tb1 (List.mem_of_getElem? (i := 209) rfl), (Or.inl rfl)⟩
theorem gw_179 : GW (Cond.instanceMethod yX6_about) := ⟨tb1 (List.mem_of_getElem? (i := 210) rfl), (Or.inl rfl)⟩
theorem gw_180 : GW (Cond.selects RX6 yX6_about yX6_about) := ⟨tb1 (List.mem_of_getElem? (i := 211) rfl), (Or.inl rfl)⟩
theorem gw_181 : GW (Cond.code yX7_about cX7_about 3 (some .int)) := ⟨tb4 (List.mem_of_getElem? (i := 113) rfl), (Or.inl rfl)⟩
theorem gw_182 : GW (Cond.instanceMethod yX7_tells) := ⟨tb4 (List.mem_of_getElem? (i := 59) rfl), (Or.inl rfl)⟩
theorem gw_183 : GW (Cond.methodLink RX7 123 yX7_tells) := ⟨tb4 (List.mem_of_getElem? (i := 57) rfl), (Or.inl rfl)⟩
theorem gw_184 : GW (Cond.code yX7_isEven cX7_isEven 6 (some .boolean)) := ⟨tb4 (List.mem_of_getElem? (i := 121) rfl), (Or.inl rfl)⟩
theorem gw_185 : GW (Cond.selects RX7 yX7_isEven yX7_isEven) := ⟨tb0 (List.mem_of_getElem? (i := 48) rfl), (Or.inl rfl)⟩
theorem gw_186 : GW (Cond.instanceMethod yX7_isEven) := ⟨tb4 (List.mem_of_getElem? (i := 120) rfl), (Or.inl rfl)⟩
theorem gw_187 : GW (Cond.methodLink RX7 161 yX7_isEven) := ⟨tb4 (List.mem_of_getElem? (i := 118) rfl), (Or.inl rfl)⟩
theorem gw_188 : GW (Cond.code yX7_isFull cX7_isFull 2 (some .boolean)) := ⟨tb4 (List.mem_of_getElem? (i := 117) rfl), (Or.inl rfl)⟩
theorem gw_189 : GW (Cond.selects RX7 yX7_isFull yX7_isFull) := ⟨tb0 (List.mem_of_getElem? (i := 47) rfl), (Or.inl rfl)⟩
theorem gw_190 : GW (Cond.instanceMethod yX7_isFull) := ⟨tb4 (List.mem_of_getElem? (i := 116) rfl), (Or.inl rfl)⟩
theorem gw_191 : GW (Cond.methodLink RX7 167 yX7_isFull) := ⟨tb4 (List.mem_of_getElem? (i := 114) rfl), (Or.inl rfl)⟩
theorem gw_192 : GW (Cond.code yX7_has cX7_has 2 (some .boolean)) := ⟨tb4 (List.mem_of_getElem? (i := 56) rfl), (Or.inl rfl)⟩
theorem gw_193 : GW (Cond.selects RX7 yX7_has yX7_has) := ⟨tb0 (List.mem_of_getElem? (i := 37) rfl), (Or.inl rfl)⟩
theorem gw_194 : GW (Cond.instanceMethod yX7_has) := ⟨tb4 (List.mem_of_getElem? (i := 55) rfl), (Or.inl rfl)⟩
theorem gw_195 : GW (Cond.methodLink RX7 120 yX7_has) := ⟨tb4 (List.mem_of_getElem? (i := 53) rfl), (Or.inl rfl)⟩
theorem gw_196 : GW (Cond.selects RX7 yX7_then yX7_then) := ⟨tb0 (List.mem_of_getElem? (i := 45) rfl), (Or.inl rfl)⟩
theorem gw_197 : GW (Cond.instanceMethod yX7_then) := ⟨tb4 (List.mem_of_getElem? (i := 100) rfl), (Or.inl rfl)⟩
theorem gw_198 : GW (Cond.methodLink RX7 144 yX7_then) := ⟨tb4 (List.mem_of_getElem? (i := 98) rfl), (Or.inl rfl)⟩
theorem gw_199 : GW (Cond.code yX7_leads cX7_leads 7 (some .boolean)) := ⟨tb4 (List.mem_of_getElem? (i := 133) rfl), (Or.inl rfl)⟩
theorem gw_200 : GW (Cond.selects RX7 yX7_leads yX7_leads) := ⟨tb0 (List.mem_of_getElem? (i := 51) rfl), (Or.inl rfl)⟩
theorem gw_201 : GW (Cond.instanceMethod yX7_leads) := ⟨tb4 (List.mem_of_getElem? (i := 132) rfl), (Or.inl rfl)⟩
theorem gw_202 : GW (Cond.methodLink RX7 159 yX7_leads) := ⟨tb4 (List.mem_of_getElem? (i := 130) rfl), (Or.inl rfl)⟩
theorem gw_203 : GW (Cond.code yX7_isOne cX7_isOne 3 (some .boolean)) := ⟨tb4 (List.mem_of_getElem? (i := 129) rfl), (Or.inl rfl)⟩
theorem gw_204 : GW (Cond.selects RX7 yX7_isOne yX7_isOne) := ⟨tb0 (List.mem_of_getElem? (i := 50) rfl), (Or.inl rfl)⟩
theorem gw_205 : GW (Cond.instanceMethod yX7_isOne) := ⟨tb4 (List.mem_of_getElem? (i := 128) rfl), (Or.inl rfl)⟩
theorem gw_206 : GW (Cond.methodLink RX7 155 yX7_isOne) := ⟨tb4 (List.mem_of_getElem? (i := 126) rfl), (Or.inl rfl)⟩
theorem gw_207 : GW (Cond.code yX7_overlaps cX7_overlaps 2 (some .int)) := ⟨tb4 (List.mem_of_getElem? (i := 97) rfl), (Or.inl rfl)⟩
theorem gw_208 : GW (Cond.selects RX7 yX7_overlaps yX7_overlaps) := ⟨tb0 (List.mem_of_getElem? (i := 44) rfl), (Or.inl rfl)⟩
theorem gw_209 : GW (Cond.instanceMethod yX7_overlaps) := ⟨tb4 (List.mem_of_getElem? (i := 96) rfl), (Or.inl rfl)⟩
theorem gw_210 : GW (Cond.methodLink RX7 141 yX7_overlaps) := ⟨tb4 (List.mem_of_getElem? (i := 94) rfl), (Or.inl rfl)⟩
theorem gw_211 : GW (Cond.fieldLink RX7 36 "MossRingsModel" "alive" "[Z") := ⟨tb3 (List.mem_of_getElem? (i := 174) rfl), (Or.inl rfl)⟩
theorem gw_212 : GW (Cond.fieldLink RX7 40 "MossRingsModel" "seen" "[Z") := ⟨tb3 (List.mem_of_getElem? (i := 175) rfl), (Or.inl rfl)⟩
theorem gw_213 : GW (Cond.code yX7_parts cX7_parts 7 (some .boolean)) := ⟨tb4 (List.mem_of_getElem? (i := 125) rfl), (Or.inl rfl)⟩
theorem gw_214 : GW (Cond.selects RX7 yX7_parts yX7_parts) := ⟨tb0 (List.mem_of_getElem? (i := 49) rfl), (Or.inl rfl)⟩
theorem gw_215 : GW (Cond.instanceMethod yX7_parts) := ⟨tb4 (List.mem_of_getElem? (i := 124) rfl), (Or.inl rfl)⟩
theorem gw_216 : GW (Cond.methodLink RX7 164 yX7_parts) := ⟨tb4 (List.mem_of_getElem? (i := 122) rfl), (Or.inl rfl)⟩
theorem gw_217 : GW (Cond.code yX7_tells cX7_tells 3 (some .int)) := ⟨tb4 (List.mem_of_getElem? (i := 60) rfl), (Or.inl rfl)⟩
theorem gw_218 : GW (Cond.selects RX7 yX7_tells yX7_tells) := ⟨tb0 (List.mem_of_getElem? (i := 38) rfl), (Or.inl rfl)⟩
theorem gw_219 : GW (Cond.code yX7_losesNothing cX7_losesNothing 8 (some .boolean)) := ⟨tb4 (List.mem_of_getElem? (i := 137) rfl), (Or.inl rfl)⟩
theorem gw_220 : GW (Cond.selects RX7 yX7_losesNothing yX7_losesNothing) := ⟨tb0 (List.mem_of_getElem? (i := 52) rfl), (Or.inl rfl)⟩
theorem gw_221 : GW (Cond.instanceMethod yX7_losesNothing) := ⟨tb4 (List.mem_of_getElem? (i := 136) rfl), (Or.inl rfl)⟩
theorem gw_222 : GW (Cond.methodLink RX7 170 yX7_losesNothing) := ⟨tb4 (List.mem_of_getElem? (i := 134) rfl), (Or.inl rfl)⟩
theorem gw_223 : GW (Cond.code yX7_then cX7_then 4 (some .int)) := ⟨tb4 (List.mem_of_getElem? (i := 101) rfl), (Or.inl rfl)⟩
theorem gw_224 : GW (Cond.methodLink RL 38 yX7_about) := ⟨tb4 (List.mem_of_getElem? (i := 110) rfl), (Or.inl rfl)⟩
theorem gw_225 : GW (Cond.instanceMethod yX7_about) := ⟨tb4 (List.mem_of_getElem? (i := 111) rfl), (Or.inl rfl)⟩
theorem gw_226 : GW (Cond.selects RX7 yX7_about yX7_about) := ⟨tb4 (List.mem_of_getElem? (i := 112) rfl), (Or.inl rfl)⟩
theorem gw_227 : GW (Cond.code yX6_table cX6_table 4 (some .int)) := ⟨tb2 (List.mem_of_getElem? (i := 28) rfl), (Or.inl rfl)⟩
theorem gw_228 : GW (Cond.methodLink RX6 103 yX1_tells) := ⟨tb2 (List.mem_of_getElem? (i := 29) rfl), (Or.inl rfl)⟩
theorem gw_229 : GW (Cond.fieldLink RX6 106 "MossRings" "outLength" "I") := ⟨tb1 (List.mem_of_getElem? (i := 81) rfl), (Or.inl rfl)⟩
theorem gw_230 : GW (Cond.fieldLink RX6 19 "MossRings" "out" "[I") := ⟨tb1 (List.mem_of_getElem? (i := 80) rfl), (Or.inl rfl)⟩
theorem gw_231 : GW (Cond.methodLink RL 39 yX6_table) := ⟨tb2 (List.mem_of_getElem? (i := 25) rfl), (Or.inl rfl)⟩
theorem gw_232 : GW (Cond.instanceMethod yX6_table) := ⟨tb2 (List.mem_of_getElem? (i := 26) rfl), (Or.inl rfl)⟩
theorem gw_233 : GW (Cond.selects RX6 yX6_table yX6_table) := ⟨tb2 (List.mem_of_getElem? (i := 27) rfl), (Or.inl rfl)⟩
theorem gw_234 : GW (Cond.code yX7_table cX7_table 3 (some .int)) := ⟨tb4 (List.mem_of_getElem? (i := 52) rfl), (Or.inl rfl)⟩
theorem gw_235 : GW (Cond.fieldLink RX7 23 "MossRingsModel" "out" "[B") := ⟨tb3 (List.mem_of_getElem? (i := 169) rfl), (Or.inl rfl)⟩
theorem gw_236 : GW (Cond.fieldLink RX7 113 "MossRingsModel" "outMany" "I") := ⟨tb3 (List.mem_of_getElem? (i := 170) rfl), (Or.inl rfl)⟩
theorem gw_237 : GW (Cond.methodLink RL 42 yX7_table) := ⟨tb4 (List.mem_of_getElem? (i := 49) rfl), (Or.inl rfl)⟩
theorem gw_238 : GW (Cond.instanceMethod yX7_table) := ⟨tb4 (List.mem_of_getElem? (i := 50) rfl), (Or.inl rfl)⟩
theorem gw_239 : GW (Cond.selects RX7 yX7_table yX7_table) := ⟨tb4 (List.mem_of_getElem? (i := 51) rfl), (Or.inl rfl)⟩
theorem gw_240 : GW (Cond.code yX6_row cX6_row 4 (some .int)) := ⟨tb2 (List.mem_of_getElem? (i := 33) rfl), (Or.inl rfl)⟩
theorem gw_241 : GW (Cond.selects RX1 yX1_grow yX1_grow) := ⟨tb2 (List.mem_of_getElem? (i := 36) rfl), (Or.inl rfl)⟩
theorem gw_242 : GW (Cond.instanceMethod yX1_grow) := ⟨tb2 (List.mem_of_getElem? (i := 35) rfl), (Or.inl rfl)⟩
theorem gw_243 : GW (Cond.methodLink RX6 109 yX1_grow) := ⟨tb2 (List.mem_of_getElem? (i := 34) rfl), (Or.inl rfl)⟩
theorem gw_244 : GW (Cond.methodLink RX1 43 yX1_tells) := ⟨tb2 (List.mem_of_getElem? (i := 38) rfl), (Or.inl rfl)⟩
theorem gw_245 : GW (Cond.code yX1_grow cX1_grow 11 (some .long)) := ⟨tb2 (List.mem_of_getElem? (i := 37) rfl), (Or.inl rfl)⟩
theorem gw_246 : GW (Cond.methodLink RL 43 yX6_row) := ⟨tb2 (List.mem_of_getElem? (i := 30) rfl), (Or.inl rfl)⟩
theorem gw_247 : GW (Cond.instanceMethod yX6_row) := ⟨tb2 (List.mem_of_getElem? (i := 31) rfl), (Or.inl rfl)⟩
theorem gw_248 : GW (Cond.selects RX6 yX6_row yX6_row) := ⟨tb2 (List.mem_of_getElem? (i := 32) rfl), (Or.inl rfl)⟩
theorem gw_249 : GW (Cond.code yX7_row cX7_row 3 (some .int)) := ⟨tb4 (List.mem_of_getElem? (i := 64) rfl), (Or.inl rfl)⟩
theorem gw_250 : GW (Cond.code yX7_areStates cX7_areStates 5 (some .boolean)) := ⟨tb4 (List.mem_of_getElem? (i := 68) rfl), (Or.inl rfl)⟩
theorem gw_251 : GW (Cond.selects RX7 yX7_areStates yX7_areStates) := ⟨tb0 (List.mem_of_getElem? (i := 39) rfl), (Or.inl rfl)⟩
theorem gw_252 : GW (Cond.instanceMethod yX7_areStates) := ⟨tb4 (List.mem_of_getElem? (i := 67) rfl), (Or.inl rfl)⟩
theorem gw_253 : GW (Cond.methodLink RX7 130 yX7_areStates) := ⟨tb4 (List.mem_of_getElem? (i := 65) rfl), (Or.inl rfl)⟩
theorem gw_254 : GW (Cond.code yX7_leadsTo cX7_leadsTo 6 (some .int)) := ⟨tb4 (List.mem_of_getElem? (i := 76) rfl), (Or.inl rfl)⟩
theorem gw_255 : GW (Cond.selects RX7 yX7_leadsTo yX7_leadsTo) := ⟨tb0 (List.mem_of_getElem? (i := 41) rfl), (Or.inl rfl)⟩
theorem gw_256 : GW (Cond.instanceMethod yX7_leadsTo) := ⟨tb4 (List.mem_of_getElem? (i := 75) rfl), (Or.inl rfl)⟩
theorem gw_257 : GW (Cond.methodLink RX7 126 yX7_leadsTo) := ⟨tb4 (List.mem_of_getElem? (i := 73) rfl), (Or.inl rfl)⟩
theorem gw_258 : GW (Cond.fieldLink RX7 26 "MossRingsModel" "cells" "[I") := ⟨tb3 (List.mem_of_getElem? (i := 171) rfl), (Or.inl rfl)⟩
theorem gw_259 : GW (Cond.code yX7_takeCells cX7_takeCells 2 none) := ⟨tb4 (List.mem_of_getElem? (i := 72) rfl), (Or.inl rfl)⟩
theorem gw_260 : GW (Cond.selects RX7 yX7_takeCells yX7_takeCells) := ⟨tb0 (List.mem_of_getElem? (i := 40) rfl), (Or.inl rfl)⟩
theorem gw_261 : GW (Cond.instanceMethod yX7_takeCells) := ⟨tb4 (List.mem_of_getElem? (i := 71) rfl), (Or.inl rfl)⟩
theorem gw_262 : GW (Cond.methodLink RX7 134 yX7_takeCells) := ⟨tb4 (List.mem_of_getElem? (i := 69) rfl), (Or.inl rfl)⟩
theorem gw_263 : GW (Cond.methodLink RL 46 yX7_row) := ⟨tb4 (List.mem_of_getElem? (i := 61) rfl), (Or.inl rfl)⟩
theorem gw_264 : GW (Cond.instanceMethod yX7_row) := ⟨tb4 (List.mem_of_getElem? (i := 62) rfl), (Or.inl rfl)⟩
theorem gw_265 : GW (Cond.selects RX7 yX7_row yX7_row) := ⟨tb4 (List.mem_of_getElem? (i := 63) rfl), (Or.inl rfl)⟩
theorem gw_266 : GW (Cond.code yX6_ring cX6_ring 7 (some .int)) := ⟨tb2 (List.mem_of_getElem? (i := 42) rfl), (Or.inl rfl)⟩
theorem gw_267 : GW (Cond.fieldLink RX6 25 "MossRings" "there" "[I") := ⟨tb1 (List.mem_of_getElem? (i := 84) rfl), (Or.inl rfl)⟩
theorem gw_268 : GW (Cond.methodLink RX6 113 arraycopyName) := ⟨tb2 (List.mem_of_getElem? (i := 43) rfl), (Or.inl rfl)⟩
theorem gw_269 : GW (Cond.fieldLink RX6 22 "MossRings" "here" "[I") := ⟨tb1 (List.mem_of_getElem? (i := 83) rfl), (Or.inl rfl)⟩
theorem gw_270 : GW (Cond.methodLink RL 47 yX6_ring) := ⟨tb2 (List.mem_of_getElem? (i := 39) rfl), (Or.inl rfl)⟩
theorem gw_271 : GW (Cond.instanceMethod yX6_ring) := ⟨tb2 (List.mem_of_getElem? (i := 40) rfl), (Or.inl rfl)⟩
theorem gw_272 : GW (Cond.selects RX6 yX6_ring yX6_ring) := ⟨tb2 (List.mem_of_getElem? (i := 41) rfl), (Or.inl rfl)⟩
theorem gw_273 : GW (Cond.code yX7_ring cX7_ring 4 (some .int)) := ⟨tb4 (List.mem_of_getElem? (i := 80) rfl), (Or.inl rfl)⟩
theorem gw_274 : GW (Cond.fieldLink RX7 29 "MossRingsModel" "next" "[I") := ⟨tb3 (List.mem_of_getElem? (i := 172) rfl), (Or.inl rfl)⟩
theorem gw_275 : GW (Cond.code yX7_step cX7_step 4 none) := ⟨tb4 (List.mem_of_getElem? (i := 84) rfl), (Or.inl rfl)⟩
theorem gw_276 : GW (Cond.selects RX7 yX7_step yX7_step) := ⟨tb0 (List.mem_of_getElem? (i := 42) rfl), (Or.inl rfl)⟩
theorem gw_277 : GW (Cond.instanceMethod yX7_step) := ⟨tb4 (List.mem_of_getElem? (i := 83) rfl), (Or.inl rfl)⟩
theorem gw_278 : GW (Cond.methodLink RX7 137 yX7_step) := ⟨tb4 (List.mem_of_getElem? (i := 81) rfl), (Or.inl rfl)⟩
theorem gw_279 : GW (Cond.methodLink RL 50 yX7_ring) := ⟨tb4 (List.mem_of_getElem? (i := 77) rfl), (Or.inl rfl)⟩
theorem gw_280 : GW (Cond.instanceMethod yX7_ring) := ⟨tb4 (List.mem_of_getElem? (i := 78) rfl), (Or.inl rfl)⟩
theorem gw_281 : GW (Cond.selects RX7 yX7_ring yX7_ring) := ⟨tb4 (List.mem_of_getElem? (i := 79) rfl), (Or.inl rfl)⟩
theorem gw_282 : GW (Cond.code yX6_behind cX6_behind 6 (some .long)) := ⟨tb2 (List.mem_of_getElem? (i := 47) rfl), (Or.inl rfl)⟩
theorem gw_283 : GW (Cond.code yX6_areFewStates cX6_areFewStates 3 (some .boolean)) := ⟨tb2 (List.mem_of_getElem? (i := 51) rfl), (Or.inl rfl)⟩
theorem gw_284 : GW (Cond.selects RX6 yX6_areFewStates yX6_areFewStates) := ⟨tb0 (List.mem_of_getElem? (i := 12) rfl), (Or.inl rfl)⟩
theorem gw_285 : GW (Cond.instanceMethod yX6_areFewStates) := ⟨tb2 (List.mem_of_getElem? (i := 50) rfl), (Or.inl rfl)⟩
theorem gw_286 : GW (Cond.methodLink RX6 119 yX6_areFewStates) := ⟨tb2 (List.mem_of_getElem? (i := 48) rfl), (Or.inl rfl)⟩
theorem gw_287 : GW (Cond.fieldLink RX6 34 "MossRings" "walks" "LMossRings$Walks;") := ⟨tb1 (List.mem_of_getElem? (i := 86) rfl), (Or.inl rfl)⟩
theorem gw_288 : GW (Cond.constantLong RX6 122 (-1)) := ⟨tb2 (List.mem_of_getElem? (i := 52) rfl), (Or.inl rfl)⟩
theorem gw_289 : GW (Cond.methodLink RX5 64 yX5_waysOver) := ⟨tb2 (List.mem_of_getElem? (i := 66) rfl), (Or.inl rfl)⟩
theorem gw_290 : GW (Cond.fieldLink RX5 9 "MossRings$Walks" "ways" "[J") := ⟨tb1 (List.mem_of_getElem? (i := 32) rfl), (Or.inl rfl)⟩
theorem gw_291 : GW (Cond.code yX5_putWays cX5_putWays 6 none) := ⟨tb2 (List.mem_of_getElem? (i := 64) rfl), (Or.inl rfl)⟩
theorem gw_292 : GW (Cond.selects RX5 yX5_putWays yX5_putWays) := ⟨tb0 (List.mem_of_getElem? (i := 14) rfl), (Or.inl rfl)⟩
theorem gw_293 : GW (Cond.instanceMethod yX5_putWays) := ⟨tb2 (List.mem_of_getElem? (i := 63) rfl), (Or.inl rfl)⟩
theorem gw_294 : GW (Cond.methodLink RX5 54 yX5_putWays) := ⟨tb2 (List.mem_of_getElem? (i := 61) rfl), (Or.inl rfl)⟩
theorem gw_295 : GW (Cond.methodLink RX5 58 Lib.Math.min.name) := ⟨tb2 (List.mem_of_getElem? (i := 65) rfl), (Or.inl rfl)⟩
theorem gw_296 : GW (Cond.code yX5_weigh cX5_weigh 6 none) := ⟨tb2 (List.mem_of_getElem? (i := 60) rfl), (Or.inl rfl)⟩
theorem gw_297 : GW (Cond.selects RX5 yX5_weigh yX5_weigh) := ⟨tb0 (List.mem_of_getElem? (i := 13) rfl), (Or.inl rfl)⟩
theorem gw_298 : GW (Cond.instanceMethod yX5_weigh) := ⟨tb2 (List.mem_of_getElem? (i := 59) rfl), (Or.inl rfl)⟩
theorem gw_299 : GW (Cond.methodLink RX5 19 yX5_weigh) := ⟨tb2 (List.mem_of_getElem? (i := 57) rfl), (Or.inl rfl)⟩
theorem gw_300 : GW (Cond.fieldLink RX5 23 "MossRings$Walks" "start" "I") := ⟨tb1 (List.mem_of_getElem? (i := 34) rfl), (Or.inl rfl)⟩
theorem gw_301 : GW (Cond.fieldLink RX5 15 "MossRings$Walks" "rule" "LMossRings$Rule;") := ⟨tb1 (List.mem_of_getElem? (i := 33) rfl), (Or.inl rfl)⟩
theorem gw_302 : GW (Cond.code yX5_rowsBehind cX5_rowsBehind 9 (some .long)) := ⟨tb2 (List.mem_of_getElem? (i := 56) rfl), (Or.inl rfl)⟩
theorem gw_303 : GW (Cond.initialized RX5) := ⟨tb1 (List.mem_of_getElem? (i := 2) rfl), (Or.inl rfl)⟩
theorem gw_304 : GW (Cond.selects RX5 yX5_rowsBehind yX5_rowsBehind) := ⟨tb2 (List.mem_of_getElem? (i := 55) rfl), (Or.inl rfl)⟩
theorem gw_305 : GW (Cond.instanceMethod yX5_rowsBehind) := ⟨tb2 (List.mem_of_getElem? (i := 54) rfl), (Or.inl rfl)⟩
theorem gw_306 : GW (Cond.methodLink RX6 124 yX5_rowsBehind) := ⟨tb2 (List.mem_of_getElem? (i := 53) rfl), (Or.inl rfl)⟩
theorem gw_307 : GW (Cond.methodLink RX5 43 yX5_firstCell) := ⟨tb2 (List.mem_of_getElem? (i := 84) rfl), (Or.inl rfl)⟩
theorem gw_308 : GW (Cond.methodLink RX1 47 Lib.Math.min.name) := ⟨tb2 (List.mem_of_getElem? (i := 83) rfl), (Or.inl rfl)⟩
theorem gw_309 : GW (Cond.code yX1_spread cX1_spread 6 none) := ⟨tb2 (List.mem_of_getElem? (i := 82) rfl), (Or.inl rfl)⟩
theorem gw_310 : GW (Cond.selects RX1 yX1_spread yX1_spread) := ⟨tb2 (List.mem_of_getElem? (i := 81) rfl), (Or.inl rfl)⟩
theorem gw_311 : GW (Cond.instanceMethod yX1_spread) := ⟨tb2 (List.mem_of_getElem? (i := 80) rfl), (Or.inl rfl)⟩
theorem gw_312 : GW (Cond.methodLink RX5 39 yX1_spread) := ⟨tb2 (List.mem_of_getElem? (i := 79) rfl), (Or.inl rfl)⟩
theorem gw_313 : GW (Cond.code yX5_writeFirst cX5_writeFirst 8 (some .int)) := ⟨tb2 (List.mem_of_getElem? (i := 78) rfl), (Or.inl rfl)⟩
theorem gw_314 : GW (Cond.selects RX5 yX5_writeFirst yX5_writeFirst) := ⟨tb2 (List.mem_of_getElem? (i := 77) rfl), (Or.inl rfl)⟩
theorem gw_315 : GW (Cond.instanceMethod yX5_writeFirst) := ⟨tb2 (List.mem_of_getElem? (i := 76) rfl), (Or.inl rfl)⟩
theorem gw_316 : GW (Cond.methodLink RX6 128 yX5_writeFirst) := ⟨tb2 (List.mem_of_getElem? (i := 75) rfl), (Or.inl rfl)⟩
theorem gw_317 : GW (Cond.code yX5_waysFrom cX5_waysFrom 4 (some .long)) := ⟨tb2 (List.mem_of_getElem? (i := 74) rfl), (Or.inl rfl)⟩
theorem gw_318 : GW (Cond.selects RX5 yX5_waysFrom yX5_waysFrom) := ⟨tb0 (List.mem_of_getElem? (i := 16) rfl), (Or.inl rfl)⟩
theorem gw_319 : GW (Cond.instanceMethod yX5_waysFrom) := ⟨tb2 (List.mem_of_getElem? (i := 73) rfl), (Or.inl rfl)⟩
theorem gw_320 : GW (Cond.methodLink RX5 32 yX5_waysFrom) := ⟨tb2 (List.mem_of_getElem? (i := 71) rfl), (Or.inl rfl)⟩
theorem gw_321 : GW (Cond.methodLink RX5 50 yX1_tells) := ⟨tb2 (List.mem_of_getElem? (i := 70) rfl), (Or.inl rfl)⟩
theorem gw_322 : GW (Cond.code yX5_waysOver cX5_waysOver 8 (some .long)) := ⟨tb2 (List.mem_of_getElem? (i := 69) rfl), (Or.inl rfl)⟩
theorem gw_323 : GW (Cond.selects RX5 yX5_waysOver yX5_waysOver) := ⟨tb0 (List.mem_of_getElem? (i := 15) rfl), (Or.inl rfl)⟩
theorem gw_324 : GW (Cond.instanceMethod yX5_waysOver) := ⟨tb2 (List.mem_of_getElem? (i := 68) rfl), (Or.inl rfl)⟩
theorem gw_325 : GW (Cond.code yX5_firstCell cX5_firstCell 6 (some .int)) := ⟨tb2 (List.mem_of_getElem? (i := 87) rfl), (Or.inl rfl)⟩
theorem gw_326 : GW (Cond.selects RX5 yX5_firstCell yX5_firstCell) := ⟨tb0 (List.mem_of_getElem? (i := 17) rfl), (Or.inl rfl)⟩
theorem gw_327 : GW (Cond.instanceMethod yX5_firstCell) := ⟨tb2 (List.mem_of_getElem? (i := 86) rfl), (Or.inl rfl)⟩
theorem gw_328 : GW (Cond.methodLink RL 51 yX6_behind) := ⟨tb2 (List.mem_of_getElem? (i := 44) rfl), (Or.inl rfl)⟩
theorem gw_329 : GW (Cond.instanceMethod yX6_behind) := ⟨tb2 (List.mem_of_getElem? (i := 45) rfl), (Or.inl rfl)⟩
theorem gw_330 : GW (Cond.selects RX6 yX6_behind yX6_behind) := ⟨tb2 (List.mem_of_getElem? (i := 46) rfl), (Or.inl rfl)⟩
theorem gw_331 : GW (Cond.code yX7_behind cX7_behind 6 (some .long)) := ⟨tb4 (List.mem_of_getElem? (i := 88) rfl), (Or.inl rfl)⟩
theorem gw_332 : GW (Cond.fieldLink RX7 32 "MossRingsModel" "ways" "[J") := ⟨tb3 (List.mem_of_getElem? (i := 173) rfl), (Or.inl rfl)⟩
theorem gw_333 : GW (Cond.constantLong RX7 147 (-1)) := ⟨tb4 (List.mem_of_getElem? (i := 89) rfl), (Or.inl rfl)⟩
theorem gw_334 : GW (Cond.methodLink RX7 152 yX7_first) := ⟨tb4 (List.mem_of_getElem? (i := 102) rfl), (Or.inl rfl)⟩
theorem gw_335 : GW (Cond.code yX7_count cX7_count 9 none) := ⟨tb4 (List.mem_of_getElem? (i := 93) rfl), (Or.inl rfl)⟩
theorem gw_336 : GW (Cond.selects RX7 yX7_count yX7_count) := ⟨tb0 (List.mem_of_getElem? (i := 43) rfl), (Or.inl rfl)⟩
theorem gw_337 : GW (Cond.instanceMethod yX7_count) := ⟨tb4 (List.mem_of_getElem? (i := 92) rfl), (Or.inl rfl)⟩
theorem gw_338 : GW (Cond.methodLink RX7 149 yX7_count) := ⟨tb4 (List.mem_of_getElem? (i := 90) rfl), (Or.inl rfl)⟩
theorem gw_339 : GW (Cond.code yX7_first cX7_first 7 none) := ⟨tb4 (List.mem_of_getElem? (i := 105) rfl), (Or.inl rfl)⟩
theorem gw_340 : GW (Cond.selects RX7 yX7_first yX7_first) := ⟨tb0 (List.mem_of_getElem? (i := 46) rfl), (Or.inl rfl)⟩
theorem gw_341 : GW (Cond.instanceMethod yX7_first) := ⟨tb4 (List.mem_of_getElem? (i := 104) rfl), (Or.inl rfl)⟩
theorem gw_342 : GW (Cond.methodLink RL 55 yX7_behind) := ⟨tb4 (List.mem_of_getElem? (i := 85) rfl), (Or.inl rfl)⟩
theorem gw_343 : GW (Cond.instanceMethod yX7_behind) := ⟨tb4 (List.mem_of_getElem? (i := 86) rfl), (Or.inl rfl)⟩
theorem gw_344 : GW (Cond.selects RX7 yX7_behind yX7_behind) := ⟨tb4 (List.mem_of_getElem? (i := 87) rfl), (Or.inl rfl)⟩
theorem gw_345 : GW (Cond.code yX6_ringsBehind cX6_ringsBehind 6 (some .long)) := ⟨tb2 (List.mem_of_getElem? (i := 91) rfl), (Or.inl rfl)⟩
theorem gw_346 : GW (Cond.code yX5_closedBehind cX5_closedBehind 9 (some .long)) := ⟨tb2 (List.mem_of_getElem? (i := 95) rfl), (Or.inl rfl)⟩
theorem gw_347 : GW (Cond.selects RX5 yX5_closedBehind yX5_closedBehind) := ⟨tb2 (List.mem_of_getElem? (i := 94) rfl), (Or.inl rfl)⟩
theorem gw_348 : GW (Cond.instanceMethod yX5_closedBehind) := ⟨tb2 (List.mem_of_getElem? (i := 93) rfl), (Or.inl rfl)⟩
theorem gw_349 : GW (Cond.methodLink RX6 132 yX5_closedBehind) := ⟨tb2 (List.mem_of_getElem? (i := 92) rfl), (Or.inl rfl)⟩
theorem gw_350 : GW (Cond.methodLink RL 56 yX6_ringsBehind) := ⟨tb2 (List.mem_of_getElem? (i := 88) rfl), (Or.inl rfl)⟩
theorem gw_351 : GW (Cond.instanceMethod yX6_ringsBehind) := ⟨tb2 (List.mem_of_getElem? (i := 89) rfl), (Or.inl rfl)⟩
theorem gw_352 : GW (Cond.selects RX6 yX6_ringsBehind yX6_ringsBehind) := ⟨tb2 (List.mem_of_getElem? (i := 90) rfl), (Or.inl rfl)⟩
theorem gw_353 : GW (Cond.code yX7_ringsBehind cX7_ringsBehind 6 (some .long)) := ⟨tb4 (List.mem_of_getElem? (i := 109) rfl), (Or.inl rfl)⟩
theorem gw_354 : GW (Cond.methodLink RL 59 yX7_ringsBehind) := ⟨tb4 (List.mem_of_getElem? (i := 106) rfl), (Or.inl rfl)⟩
theorem gw_355 : GW (Cond.instanceMethod yX7_ringsBehind) := ⟨tb4 (List.mem_of_getElem? (i := 107) rfl), (Or.inl rfl)⟩
theorem gw_356 : GW (Cond.selects RX7 yX7_ringsBehind yX7_ringsBehind) := ⟨tb4 (List.mem_of_getElem? (i := 108) rfl), (Or.inl rfl)⟩
theorem gw_357 : GW (Cond.code yX6_missed cX6_missed 3 (some .int)) := ⟨tb2 (List.mem_of_getElem? (i := 99) rfl), (Or.inl rfl)⟩
theorem gw_358 : GW (Cond.methodLink RX2 54 Lib.Math.min.name) := ⟨tb2 (List.mem_of_getElem? (i := 108) rfl), (Or.inl rfl)⟩
theorem gw_359 : GW (Cond.code yX2_writeMissed cX2_writeMissed 5 (some .int)) := ⟨tb2 (List.mem_of_getElem? (i := 103) rfl), (Or.inl rfl)⟩
theorem gw_360 : GW (Cond.selects RX2 yX2_writeMissed yX2_writeMissed) := ⟨tb2 (List.mem_of_getElem? (i := 102) rfl), (Or.inl rfl)⟩
theorem gw_361 : GW (Cond.instanceMethod yX2_writeMissed) := ⟨tb2 (List.mem_of_getElem? (i := 101) rfl), (Or.inl rfl)⟩
theorem gw_362 : GW (Cond.methodLink RX6 135 yX2_writeMissed) := ⟨tb2 (List.mem_of_getElem? (i := 100) rfl), (Or.inl rfl)⟩
theorem gw_363 : GW (Cond.code yX2_before cX2_before 2 (some .int)) := ⟨tb2 (List.mem_of_getElem? (i := 107) rfl), (Or.inl rfl)⟩
theorem gw_364 : GW (Cond.selects RX2 yX2_before yX2_before) := ⟨tb0 (List.mem_of_getElem? (i := 18) rfl), (Or.inl rfl)⟩
theorem gw_365 : GW (Cond.instanceMethod yX2_before) := ⟨tb2 (List.mem_of_getElem? (i := 106) rfl), (Or.inl rfl)⟩
theorem gw_366 : GW (Cond.methodLink RX2 50 yX2_before) := ⟨tb2 (List.mem_of_getElem? (i := 104) rfl), (Or.inl rfl)⟩
theorem gw_367 : GW (Cond.methodLink RL 60 yX6_missed) := ⟨tb2 (List.mem_of_getElem? (i := 96) rfl), (Or.inl rfl)⟩
theorem gw_368 : GW (Cond.instanceMethod yX6_missed) := ⟨tb2 (List.mem_of_getElem? (i := 97) rfl), (Or.inl rfl)⟩
theorem gw_369 : GW (Cond.selects RX6 yX6_missed yX6_missed) := ⟨tb2 (List.mem_of_getElem? (i := 98) rfl), (Or.inl rfl)⟩
theorem gw_370 : GW (Cond.code yX7_missed cX7_missed 9 (some .int)) := ⟨tb4 (List.mem_of_getElem? (i := 141) rfl), (Or.inl rfl)⟩
theorem gw_371 : GW (Cond.fieldLink RX7 49 "MossRingsModel" "by" "[I") := ⟨tb3 (List.mem_of_getElem? (i := 178) rfl), (Or.inl rfl)⟩
theorem gw_372 : GW (Cond.fieldLink RX7 46 "MossRingsModel" "from" "[I") := ⟨tb3 (List.mem_of_getElem? (i := 177) rfl), (Or.inl rfl)⟩
theorem gw_373 : GW (Cond.fieldLink RX7 43 "MossRingsModel" "line" "[I") := ⟨tb3 (List.mem_of_getElem? (i := 176) rfl), (Or.inl rfl)⟩
theorem gw_374 : GW (Cond.fieldLink RX7 52 "MossRingsModel" "met" "[Z") := ⟨tb3 (List.mem_of_getElem? (i := 179) rfl), (Or.inl rfl)⟩
theorem gw_375 : GW (Cond.code yX7_tellLine cX7_tellLine 4 (some .int)) := ⟨tb4 (List.mem_of_getElem? (i := 145) rfl), (Or.inl rfl)⟩
theorem gw_376 : GW (Cond.selects RX7 yX7_tellLine yX7_tellLine) := ⟨tb0 (List.mem_of_getElem? (i := 53) rfl), (Or.inl rfl)⟩
theorem gw_377 : GW (Cond.instanceMethod yX7_tellLine) := ⟨tb4 (List.mem_of_getElem? (i := 144) rfl), (Or.inl rfl)⟩
theorem gw_378 : GW (Cond.methodLink RX7 173 yX7_tellLine) := ⟨tb4 (List.mem_of_getElem? (i := 142) rfl), (Or.inl rfl)⟩
theorem gw_379 : GW (Cond.methodLink RL 63 yX7_missed) := ⟨tb4 (List.mem_of_getElem? (i := 138) rfl), (Or.inl rfl)⟩
theorem gw_380 : GW (Cond.instanceMethod yX7_missed) := ⟨tb4 (List.mem_of_getElem? (i := 139) rfl), (Or.inl rfl)⟩
theorem gw_381 : GW (Cond.selects RX7 yX7_missed yX7_missed) := ⟨tb4 (List.mem_of_getElem? (i := 140) rfl), (Or.inl rfl)⟩
theorem gw_382 : GW (Cond.code yX6_back cX6_back 6 (some .int)) := ⟨tb2 (List.mem_of_getElem? (i := 112) rfl), (Or.inl rfl)⟩
theorem gw_383 : GW (Cond.code yX6_turnsBack cX6_turnsBack 8 (some .boolean)) := ⟨tb2 (List.mem_of_getElem? (i := 116) rfl), (Or.inl rfl)⟩
theorem gw_384 : GW (Cond.selects RX6 yX6_turnsBack yX6_turnsBack) := ⟨tb0 (List.mem_of_getElem? (i := 19) rfl), (Or.inl rfl)⟩
theorem gw_385 : GW (Cond.instanceMethod yX6_turnsBack) := ⟨tb2 (List.mem_of_getElem? (i := 115) rfl), (Or.inl rfl)⟩
theorem gw_386 : GW (Cond.methodLink RX6 139 yX6_turnsBack) := ⟨tb2 (List.mem_of_getElem? (i := 113) rfl), (Or.inl rfl)⟩
theorem gw_387 : GW (Cond.fieldLink RX6 28 "MossRings" "told" "[I") := ⟨tb1 (List.mem_of_getElem? (i := 85) rfl), (Or.inl rfl)⟩
theorem gw_388 : GW (Cond.methodLink RX6 179 yX1_spread) := ⟨tb2 (List.mem_of_getElem? (i := 118) rfl), (Or.inl rfl)⟩
theorem gw_389 : GW (Cond.methodLink RX6 219 yJ7_fill_53178) := ⟨tb2 (List.mem_of_getElem? (i := 117) rfl), (Or.inl rfl)⟩
theorem gw_390 : GW (Cond.methodLink RL 64 yX6_back) := ⟨tb2 (List.mem_of_getElem? (i := 109) rfl), (Or.inl rfl)⟩
theorem gw_391 : GW (Cond.instanceMethod yX6_back) := ⟨tb2 (List.mem_of_getElem? (i := 110) rfl), (Or.inl rfl)⟩
theorem gw_392 : GW (Cond.selects RX6 yX6_back yX6_back) := ⟨tb2 (List.mem_of_getElem? (i := 111) rfl), (Or.inl rfl)⟩
theorem gw_393 : GW (Cond.code yX7_back cX7_back 5 (some .int)) := ⟨tb4 (List.mem_of_getElem? (i := 149) rfl), (Or.inl rfl)⟩
theorem gw_394 : GW (Cond.fieldLink RX7 55 "MossRingsModel" "made" "[I") := ⟨tb3 (List.mem_of_getElem? (i := 180) rfl), (Or.inl rfl)⟩
theorem gw_395 : GW (Cond.code yX7_turns cX7_turns 10 (some .boolean)) := ⟨tb4 (List.mem_of_getElem? (i := 153) rfl), (Or.inl rfl)⟩
theorem gw_396 : GW (Cond.selects RX7 yX7_turns yX7_turns) := ⟨tb0 (List.mem_of_getElem? (i := 54) rfl), (Or.inl rfl)⟩
theorem gw_397 : GW (Cond.instanceMethod yX7_turns) := ⟨tb4 (List.mem_of_getElem? (i := 152) rfl), (Or.inl rfl)⟩
theorem gw_398 : GW (Cond.methodLink RX7 176 yX7_turns) := ⟨tb4 (List.mem_of_getElem? (i := 150) rfl), (Or.inl rfl)⟩
theorem gw_399 : GW (Cond.methodLink RL 67 yX7_back) := ⟨tb4 (List.mem_of_getElem? (i := 146) rfl), (Or.inl rfl)⟩
theorem gw_400 : GW (Cond.instanceMethod yX7_back) := ⟨tb4 (List.mem_of_getElem? (i := 147) rfl), (Or.inl rfl)⟩
theorem gw_401 : GW (Cond.selects RX7 yX7_back yX7_back) := ⟨tb4 (List.mem_of_getElem? (i := 148) rfl), (Or.inl rfl)⟩
theorem gw_402 : GW (Cond.code yX6_height cX6_height 5 (some .int)) := ⟨tb2 (List.mem_of_getElem? (i := 122) rfl), (Or.inl rfl)⟩
theorem gw_403 : GW (Cond.fieldLink RX6 157 "MossRings" "roundLength" "I") := ⟨tb1 (List.mem_of_getElem? (i := 82) rfl), (Or.inl rfl)⟩
theorem gw_404 : GW (Cond.initialized RX4) := ⟨tb1 (List.mem_of_getElem? (i := 10) rfl), (Or.inl rfl)⟩
theorem gw_405 : GW (Cond.instantiable RX4 4) := ⟨tb2 (List.mem_of_getElem? (i := 124) rfl), (Or.inl rfl)⟩
theorem gw_406 : GW (Cond.classLink RX6 147 RX4) := ⟨tb2 (List.mem_of_getElem? (i := 123) rfl), (Or.inl rfl)⟩
theorem gw_407 : GW (Cond.fieldLink RX6 143 "MossRings" "trail" "LMossRings$Trail;") := ⟨tb1 (List.mem_of_getElem? (i := 89) rfl), (Or.inl rfl)⟩
theorem gw_408 : GW (Cond.selects RX4 yX4_begin yX4_begin) := ⟨tb0 (List.mem_of_getElem? (i := 20) rfl), (Or.inl rfl)⟩
theorem gw_409 : GW (Cond.instanceMethod yX4_begin) := ⟨tb2 (List.mem_of_getElem? (i := 149) rfl), (Or.inl rfl)⟩
theorem gw_410 : GW (Cond.methodLink RX4 22 yX4_begin) := ⟨tb2 (List.mem_of_getElem? (i := 147) rfl), (Or.inl rfl)⟩
theorem gw_411 : GW (Cond.fieldLink RX4 39 "MossRings$Trail" "roundLength" "I") := ⟨tb2 (List.mem_of_getElem? (i := 132) rfl), (Or.inl rfl)⟩
theorem gw_412 : GW (Cond.fieldLink RX4 26 "MossRings$Trail" "LOOKS" "[I") := ⟨tb2 (List.mem_of_getElem? (i := 151) rfl), (Or.inl rfl)⟩
theorem gw_413 : GW (Cond.code yX4_climb cX4_climb 11 (some .int)) := ⟨tb2 (List.mem_of_getElem? (i := 146) rfl), (Or.inl rfl)⟩
theorem gw_414 : GW (Cond.selects RX4 yX4_climb yX4_climb) := ⟨tb2 (List.mem_of_getElem? (i := 145) rfl), (Or.inl rfl)⟩
theorem gw_415 : GW (Cond.instanceMethod yX4_climb) := ⟨tb2 (List.mem_of_getElem? (i := 144) rfl), (Or.inl rfl)⟩
theorem gw_416 : GW (Cond.methodLink RX6 150 yX4_climb) := ⟨tb2 (List.mem_of_getElem? (i := 143) rfl), (Or.inl rfl)⟩
theorem gw_417 : GW (Cond.fieldLink RX4 19 "MossRings$Trail" "there" "[I") := ⟨tb2 (List.mem_of_getElem? (i := 131) rfl), (Or.inl rfl)⟩
theorem gw_418 : GW (Cond.fieldLink RX4 15 "MossRings$Trail" "here" "[I") := ⟨tb2 (List.mem_of_getElem? (i := 130) rfl), (Or.inl rfl)⟩
theorem gw_419 : GW (Cond.fieldLink RX4 9 "MossRings$Trail" "codes" "[J") := ⟨tb2 (List.mem_of_getElem? (i := 129) rfl), (Or.inl rfl)⟩
theorem gw_420 : GW (Cond.arrayClass .long) := ⟨tb1 (List.mem_of_getElem? (i := 43) rfl), (Or.inr ⟨_, rfl⟩)⟩
theorem gw_421 : GW (Cond.methodLink RX4 3 objectInit) := ⟨tb2 (List.mem_of_getElem? (i := 128) rfl), (Or.inl rfl)⟩
theorem gw_422 : GW (Cond.code yX4_init cX4_init 1 none) := ⟨tb2 (List.mem_of_getElem? (i := 127) rfl), (Or.inl rfl)⟩
theorem gw_423 : GW (Cond.instanceMethod yX4_init) := ⟨tb2 (List.mem_of_getElem? (i := 126) rfl), (Or.inl rfl)⟩
theorem gw_424 : GW (Cond.methodLink RX6 149 yX4_init) := ⟨tb2 (List.mem_of_getElem? (i := 125) rfl), (Or.inl rfl)⟩
theorem gw_425 : GW (Cond.code yX4_heightBefore cX4_heightBefore 4 (some .int)) := ⟨tb2 (List.mem_of_getElem? (i := 161) rfl), (Or.inl rfl)⟩
theorem gw_426 : GW (Cond.selects RX4 yX4_heightBefore yX4_heightBefore) := ⟨tb0 (List.mem_of_getElem? (i := 22) rfl), (Or.inl rfl)⟩
theorem gw_427 : GW (Cond.instanceMethod yX4_heightBefore) := ⟨tb2 (List.mem_of_getElem? (i := 160) rfl), (Or.inl rfl)⟩
theorem gw_428 : GW (Cond.methodLink RX4 43 yX4_heightBefore) := ⟨tb2 (List.mem_of_getElem? (i := 158) rfl), (Or.inl rfl)⟩
theorem gw_429 : GW (Cond.code yX4_lengthAt cX4_lengthAt 3 (some .int)) := ⟨tb2 (List.mem_of_getElem? (i := 157) rfl), (Or.inl rfl)⟩
theorem gw_430 : GW (Cond.selects RX4 yX4_lengthAt yX4_lengthAt) := ⟨tb0 (List.mem_of_getElem? (i := 21) rfl), (Or.inl rfl)⟩
theorem gw_431 : GW (Cond.instanceMethod yX4_lengthAt) := ⟨tb2 (List.mem_of_getElem? (i := 156) rfl), (Or.inl rfl)⟩
theorem gw_432 : GW (Cond.methodLink RX4 35 yX4_lengthAt) := ⟨tb2 (List.mem_of_getElem? (i := 154) rfl), (Or.inl rfl)⟩
theorem gw_433 : GW (Cond.methodLink RX4 29 yX1_grow) := ⟨tb2 (List.mem_of_getElem? (i := 153) rfl), (Or.inl rfl)⟩
theorem gw_434 : GW (Cond.code yX4_begin cX4_begin 7 none) := ⟨tb2 (List.mem_of_getElem? (i := 150) rfl), (Or.inl rfl)⟩
theorem gw_435 : GW (Cond.methodLink RL 68 yX6_height) := ⟨tb2 (List.mem_of_getElem? (i := 119) rfl), (Or.inl rfl)⟩
theorem gw_436 : GW (Cond.instanceMethod yX6_height) := ⟨tb2 (List.mem_of_getElem? (i := 120) rfl), (Or.inl rfl)⟩
theorem gw_437 : GW (Cond.selects RX6 yX6_height yX6_height) := ⟨tb2 (List.mem_of_getElem? (i := 121) rfl), (Or.inl rfl)⟩
theorem gw_438 : GW (Cond.code yX7_height cX7_height 6 (some .int)) := ⟨tb4 (List.mem_of_getElem? (i := 157) rfl), (Or.inl rfl)⟩
theorem gw_439 : GW (Cond.fieldLink RX7 187 "MossRingsModel" "round" "I") := ⟨tb3 (List.mem_of_getElem? (i := 183) rfl), (Or.inl rfl)⟩
theorem gw_440 : GW (Cond.fieldLink RX7 58 "MossRingsModel" "codes" "[J") := ⟨tb3 (List.mem_of_getElem? (i := 181) rfl), (Or.inl rfl)⟩
theorem gw_441 : GW (Cond.constantLong RX7 185 (65535)) := ⟨tb4 (List.mem_of_getElem? (i := 163) rfl), (Or.inl rfl)⟩
theorem gw_442 : GW (Cond.constantLong RX7 183 (2654435761)) := ⟨tb4 (List.mem_of_getElem? (i := 162) rfl), (Or.inl rfl)⟩
theorem gw_443 : GW (Cond.fieldLink RX7 62 "MossRingsModel" "places" "[I") := ⟨tb3 (List.mem_of_getElem? (i := 182) rfl), (Or.inl rfl)⟩
theorem gw_444 : GW (Cond.constant RX7 61 (65536)) := ⟨tb3 (List.mem_of_getElem? (i := 161) rfl), (Or.inl rfl)⟩
theorem gw_445 : GW (Cond.code yX7_codeOf cX7_codeOf 6 (some .long)) := ⟨tb4 (List.mem_of_getElem? (i := 161) rfl), (Or.inl rfl)⟩
theorem gw_446 : GW (Cond.selects RX7 yX7_codeOf yX7_codeOf) := ⟨tb0 (List.mem_of_getElem? (i := 55) rfl), (Or.inl rfl)⟩
theorem gw_447 : GW (Cond.instanceMethod yX7_codeOf) := ⟨tb4 (List.mem_of_getElem? (i := 160) rfl), (Or.inl rfl)⟩
theorem gw_448 : GW (Cond.methodLink RX7 179 yX7_codeOf) := ⟨tb4 (List.mem_of_getElem? (i := 158) rfl), (Or.inl rfl)⟩
theorem gw_449 : GW (Cond.methodLink RL 71 yX7_height) := ⟨tb4 (List.mem_of_getElem? (i := 154) rfl), (Or.inl rfl)⟩
theorem gw_450 : GW (Cond.instanceMethod yX7_height) := ⟨tb4 (List.mem_of_getElem? (i := 155) rfl), (Or.inl rfl)⟩
theorem gw_451 : GW (Cond.selects RX7 yX7_height yX7_height) := ⟨tb4 (List.mem_of_getElem? (i := 156) rfl), (Or.inl rfl)⟩
theorem gw_452 : GW (Cond.code yX6_round cX6_round 1 (some .int)) := ⟨tb2 (List.mem_of_getElem? (i := 165) rfl), (Or.inl rfl)⟩
theorem gw_453 : GW (Cond.methodLink RL 72 yX6_round) := ⟨tb2 (List.mem_of_getElem? (i := 162) rfl), (Or.inl rfl)⟩
theorem gw_454 : GW (Cond.instanceMethod yX6_round) := ⟨tb2 (List.mem_of_getElem? (i := 163) rfl), (Or.inl rfl)⟩
theorem gw_455 : GW (Cond.selects RX6 yX6_round yX6_round) := ⟨tb2 (List.mem_of_getElem? (i := 164) rfl), (Or.inl rfl)⟩
theorem gw_456 : GW (Cond.code yX7_round cX7_round 1 (some .int)) := ⟨tb4 (List.mem_of_getElem? (i := 167) rfl), (Or.inl rfl)⟩
theorem gw_457 : GW (Cond.methodLink RL 76 yX7_round) := ⟨tb4 (List.mem_of_getElem? (i := 164) rfl), (Or.inl rfl)⟩
theorem gw_458 : GW (Cond.instanceMethod yX7_round) := ⟨tb4 (List.mem_of_getElem? (i := 165) rfl), (Or.inl rfl)⟩
theorem gw_459 : GW (Cond.selects RX7 yX7_round yX7_round) := ⟨tb4 (List.mem_of_getElem? (i := 166) rfl), (Or.inl rfl)⟩
theorem gw_460 : GW (Cond.code yX6_all cX6_all 6 (some .int)) := ⟨tb2 (List.mem_of_getElem? (i := 169) rfl), (Or.inl rfl)⟩
theorem gw_461 : GW (Cond.fieldLink RX3 9 "MossRings$Survey" "next" "[I") := ⟨tb2 (List.mem_of_getElem? (i := 179) rfl), (Or.inl rfl)⟩
theorem gw_462 : GW (Cond.methodLink RX3 3 objectInit) := ⟨tb2 (List.mem_of_getElem? (i := 178) rfl), (Or.inl rfl)⟩
theorem gw_463 : GW (Cond.code yX3_init cX3_init 1 none) := ⟨tb2 (List.mem_of_getElem? (i := 177) rfl), (Or.inl rfl)⟩
theorem gw_464 : GW (Cond.instanceMethod yX3_init) := ⟨tb2 (List.mem_of_getElem? (i := 176) rfl), (Or.inl rfl)⟩
theorem gw_465 : GW (Cond.methodLink RX6 167 yX3_init) := ⟨tb2 (List.mem_of_getElem? (i := 175) rfl), (Or.inl rfl)⟩
theorem gw_466 : GW (Cond.code yX6_ringsOf cX6_ringsOf 4 (some .int)) := ⟨tb2 (List.mem_of_getElem? (i := 172) rfl), (Or.inl rfl)⟩
theorem gw_467 : GW (Cond.static yX6_ringsOf) := ⟨tb2 (List.mem_of_getElem? (i := 171) rfl), (Or.inl rfl)⟩
theorem gw_468 : GW (Cond.methodLink RX6 158 yX6_ringsOf) := ⟨tb2 (List.mem_of_getElem? (i := 170) rfl), (Or.inl rfl)⟩
theorem gw_469 : GW (Cond.initialized RX3) := ⟨tb1 (List.mem_of_getElem? (i := 11) rfl), (Or.inl rfl)⟩
theorem gw_470 : GW (Cond.instantiable RX3 13) := ⟨tb2 (List.mem_of_getElem? (i := 174) rfl), (Or.inl rfl)⟩
theorem gw_471 : GW (Cond.classLink RX6 165 RX3) := ⟨tb2 (List.mem_of_getElem? (i := 173) rfl), (Or.inl rfl)⟩
theorem gw_472 : GW (Cond.fieldLink RX6 161 "MossRings" "survey" "LMossRings$Survey;") := ⟨tb1 (List.mem_of_getElem? (i := 90) rfl), (Or.inl rfl)⟩
theorem gw_473 : GW (Cond.methodLink RX3 73 yX1_spread) := ⟨tb2 (List.mem_of_getElem? (i := 228) rfl), (Or.inl rfl)⟩
theorem gw_474 : GW (Cond.methodLink RX3 67 yJ7_fill_53178) := ⟨tb2 (List.mem_of_getElem? (i := 227) rfl), (Or.inl rfl)⟩
theorem gw_475 : GW (Cond.code yX3_lead cX3_lead 4 none) := ⟨tb2 (List.mem_of_getElem? (i := 226) rfl), (Or.inl rfl)⟩
theorem gw_476 : GW (Cond.selects RX3 yX3_lead yX3_lead) := ⟨tb0 (List.mem_of_getElem? (i := 23) rfl), (Or.inl rfl)⟩
theorem gw_477 : GW (Cond.instanceMethod yX3_lead) := ⟨tb2 (List.mem_of_getElem? (i := 225) rfl), (Or.inl rfl)⟩
theorem gw_478 : GW (Cond.methodLink RX3 53 yX3_lead) := ⟨tb2 (List.mem_of_getElem? (i := 223) rfl), (Or.inl rfl)⟩
theorem gw_479 : GW (Cond.fieldLink RX3 34 "MossRings$Survey" "onRounds" "I") := ⟨tb2 (List.mem_of_getElem? (i := 188) rfl), (Or.inl rfl)⟩
theorem gw_480 : GW (Cond.fieldLink RX3 50 "MossRings$Survey" "n" "I") := ⟨tb2 (List.mem_of_getElem? (i := 186) rfl), (Or.inl rfl)⟩
theorem gw_481 : GW (Cond.fieldLink RX3 46 "MossRings$Survey" "rule" "LMossRings$Rule;") := ⟨tb2 (List.mem_of_getElem? (i := 185) rfl), (Or.inl rfl)⟩
theorem gw_482 : GW (Cond.code yX3_look cX3_look 5 none) := ⟨tb2 (List.mem_of_getElem? (i := 222) rfl), (Or.inl rfl)⟩
theorem gw_483 : GW (Cond.selects RX3 yX3_look yX3_look) := ⟨tb2 (List.mem_of_getElem? (i := 221) rfl), (Or.inl rfl)⟩
theorem gw_484 : GW (Cond.instanceMethod yX3_look) := ⟨tb2 (List.mem_of_getElem? (i := 220) rfl), (Or.inl rfl)⟩
theorem gw_485 : GW (Cond.methodLink RX6 168 yX3_look) := ⟨tb2 (List.mem_of_getElem? (i := 219) rfl), (Or.inl rfl)⟩
theorem gw_486 : GW (Cond.fieldLink RX3 27 "MossRings$Survey" "grown" "[I") := ⟨tb2 (List.mem_of_getElem? (i := 184) rfl), (Or.inl rfl)⟩
theorem gw_487 : GW (Cond.fieldLink RX3 24 "MossRings$Survey" "cells" "[I") := ⟨tb2 (List.mem_of_getElem? (i := 183) rfl), (Or.inl rfl)⟩
theorem gw_488 : GW (Cond.fieldLink RX3 21 "MossRings$Survey" "heights" "[I") := ⟨tb2 (List.mem_of_getElem? (i := 182) rfl), (Or.inl rfl)⟩
theorem gw_489 : GW (Cond.fieldLink RX3 18 "MossRings$Survey" "queue" "[I") := ⟨tb2 (List.mem_of_getElem? (i := 181) rfl), (Or.inl rfl)⟩
theorem gw_490 : GW (Cond.fieldLink RX3 15 "MossRings$Survey" "behind" "[I") := ⟨tb2 (List.mem_of_getElem? (i := 180) rfl), (Or.inl rfl)⟩
theorem gw_491 : GW (Cond.instanceMethod yX3_goRound) := ⟨tb2 (List.mem_of_getElem? (i := 236) rfl), (Or.inl rfl)⟩
theorem gw_492 : GW (Cond.methodLink RX3 61 yX3_goRound) := ⟨tb2 (List.mem_of_getElem? (i := 234) rfl), (Or.inl rfl)⟩
theorem gw_493 : GW (Cond.fieldLink RX3 30 "MossRings$Survey" "leaves" "I") := ⟨tb2 (List.mem_of_getElem? (i := 187) rfl), (Or.inl rfl)⟩
theorem gw_494 : GW (Cond.code yX3_peel cX3_peel 5 (some .int)) := ⟨tb2 (List.mem_of_getElem? (i := 233) rfl), (Or.inl rfl)⟩
theorem gw_495 : GW (Cond.selects RX3 yX3_peel yX3_peel) := ⟨tb0 (List.mem_of_getElem? (i := 24) rfl), (Or.inl rfl)⟩
theorem gw_496 : GW (Cond.instanceMethod yX3_peel) := ⟨tb2 (List.mem_of_getElem? (i := 232) rfl), (Or.inl rfl)⟩
theorem gw_497 : GW (Cond.methodLink RX3 57 yX3_peel) := ⟨tb2 (List.mem_of_getElem? (i := 230) rfl), (Or.inl rfl)⟩
theorem gw_498 : GW (Cond.methodLink RX3 79 yX1_grow) := ⟨tb2 (List.mem_of_getElem? (i := 229) rfl), (Or.inl rfl)⟩
theorem gw_499 : GW (Cond.code yX3_tell cX3_tell 2 (some .int)) := ⟨tb3 (List.mem_of_getElem? (i := 6) rfl), (Or.inl rfl)⟩
theorem gw_500 : GW (Cond.selects RX3 yX3_tell yX3_tell) := ⟨tb3 (List.mem_of_getElem? (i := 5) rfl), (Or.inl rfl)⟩
theorem gw_501 : GW (Cond.instanceMethod yX3_tell) := ⟨tb3 (List.mem_of_getElem? (i := 4) rfl), (Or.inl rfl)⟩
theorem gw_502 : GW (Cond.methodLink RX6 172 yX3_tell) := ⟨tb3 (List.mem_of_getElem? (i := 3) rfl), (Or.inl rfl)⟩
theorem gw_503 : GW (Cond.fieldLink RX3 40 "MossRings$Survey" "greatestHeight" "I") := ⟨tb2 (List.mem_of_getElem? (i := 190) rfl), (Or.inl rfl)⟩
theorem gw_504 : GW (Cond.code yX3_climb cX3_climb 4 none) := ⟨tb3 (List.mem_of_getElem? (i := 2) rfl), (Or.inl rfl)⟩
theorem gw_505 : GW (Cond.selects RX3 yX3_climb yX3_climb) := ⟨tb0 (List.mem_of_getElem? (i := 26) rfl), (Or.inl rfl)⟩
theorem gw_506 : GW (Cond.instanceMethod yX3_climb) := ⟨tb3 (List.mem_of_getElem? (i := 1) rfl), (Or.inl rfl)⟩
theorem gw_507 : GW (Cond.methodLink RX3 64 yX3_climb) := ⟨tb2 (List.mem_of_getElem? (i := 239) rfl), (Or.inl rfl)⟩
theorem gw_508 : GW (Cond.methodLink RX3 83 Lib.Math.max.name) := ⟨tb2 (List.mem_of_getElem? (i := 238) rfl), (Or.inl rfl)⟩
theorem gw_509 : GW (Cond.fieldLink RX3 43 "MossRings$Survey" "greatestLength" "I") := ⟨tb2 (List.mem_of_getElem? (i := 191) rfl), (Or.inl rfl)⟩
theorem gw_510 : GW (Cond.fieldLink RX3 37 "MossRings$Survey" "rounds" "I") := ⟨tb2 (List.mem_of_getElem? (i := 189) rfl), (Or.inl rfl)⟩
theorem gw_511 : GW (Cond.code yX3_goRound cX3_goRound 6 none) := ⟨tb2 (List.mem_of_getElem? (i := 237) rfl), (Or.inl rfl)⟩
theorem gw_512 : GW (Cond.selects RX3 yX3_goRound yX3_goRound) := ⟨tb0 (List.mem_of_getElem? (i := 25) rfl), (Or.inl rfl)⟩
theorem gw_513 : GW (Cond.methodLink RL 77 yX6_all) := ⟨tb2 (List.mem_of_getElem? (i := 166) rfl), (Or.inl rfl)⟩
theorem gw_514 : GW (Cond.instanceMethod yX6_all) := ⟨tb2 (List.mem_of_getElem? (i := 167) rfl), (Or.inl rfl)⟩
theorem gw_515 : GW (Cond.selects RX6 yX6_all yX6_all) := ⟨tb2 (List.mem_of_getElem? (i := 168) rfl), (Or.inl rfl)⟩
theorem gw_516 : GW (Cond.code yX7_all cX7_all 15 (some .int)) := ⟨tb4 (List.mem_of_getElem? (i := 171) rfl), (Or.inl rfl)⟩
theorem gw_517 : GW (Cond.fieldLink RX7 74 "MossRingsModel" "mark" "[I") := ⟨tb3 (List.mem_of_getElem? (i := 187) rfl), (Or.inl rfl)⟩
theorem gw_518 : GW (Cond.fieldLink RX7 71 "MossRingsModel" "heightOf" "[I") := ⟨tb3 (List.mem_of_getElem? (i := 186) rfl), (Or.inl rfl)⟩
theorem gw_519 : GW (Cond.fieldLink RX7 65 "MossRingsModel" "leads" "[I") := ⟨tb3 (List.mem_of_getElem? (i := 184) rfl), (Or.inl rfl)⟩
theorem gw_520 : GW (Cond.fieldLink RX7 68 "MossRingsModel" "ahead" "[I") := ⟨tb3 (List.mem_of_getElem? (i := 185) rfl), (Or.inl rfl)⟩
theorem gw_521 : GW (Cond.methodLink RL 81 yX7_all) := ⟨tb4 (List.mem_of_getElem? (i := 168) rfl), (Or.inl rfl)⟩
theorem gw_522 : GW (Cond.instanceMethod yX7_all) := ⟨tb4 (List.mem_of_getElem? (i := 169) rfl), (Or.inl rfl)⟩
theorem gw_523 : GW (Cond.selects RX7 yX7_all yX7_all) := ⟨tb4 (List.mem_of_getElem? (i := 170) rfl), (Or.inl rfl)⟩
theorem gw_524 : GW (Cond.code yX6_keeps cX6_keeps 5 (some .int)) := ⟨tb3 (List.mem_of_getElem? (i := 10) rfl), (Or.inl rfl)⟩
theorem gw_525 : GW (Cond.code yX1_holds cX1_holds 5 (some .boolean)) := ⟨tb3 (List.mem_of_getElem? (i := 14) rfl), (Or.inl rfl)⟩
theorem gw_526 : GW (Cond.selects RX1 yX1_holds yX1_holds) := ⟨tb3 (List.mem_of_getElem? (i := 13) rfl), (Or.inl rfl)⟩
theorem gw_527 : GW (Cond.instanceMethod yX1_holds) := ⟨tb3 (List.mem_of_getElem? (i := 12) rfl), (Or.inl rfl)⟩
theorem gw_528 : GW (Cond.methodLink RX6 175 yX1_holds) := ⟨tb3 (List.mem_of_getElem? (i := 11) rfl), (Or.inl rfl)⟩
theorem gw_529 : GW (Cond.code yX1_gain cX1_gain 5 (some .int)) := ⟨tb3 (List.mem_of_getElem? (i := 22) rfl), (Or.inl rfl)⟩
theorem gw_530 : GW (Cond.selects RX1 yX1_gain yX1_gain) := ⟨tb0 (List.mem_of_getElem? (i := 28) rfl), (Or.inl rfl)⟩
theorem gw_531 : GW (Cond.instanceMethod yX1_gain) := ⟨tb3 (List.mem_of_getElem? (i := 21) rfl), (Or.inl rfl)⟩
theorem gw_532 : GW (Cond.methodLink RX1 57 yX1_gain) := ⟨tb3 (List.mem_of_getElem? (i := 19) rfl), (Or.inl rfl)⟩
theorem gw_533 : GW (Cond.code yX1_level cX1_level 8 (some .int)) := ⟨tb3 (List.mem_of_getElem? (i := 18) rfl), (Or.inl rfl)⟩
theorem gw_534 : GW (Cond.selects RX1 yX1_level yX1_level) := ⟨tb0 (List.mem_of_getElem? (i := 27) rfl), (Or.inl rfl)⟩
theorem gw_535 : GW (Cond.instanceMethod yX1_level) := ⟨tb3 (List.mem_of_getElem? (i := 17) rfl), (Or.inl rfl)⟩
theorem gw_536 : GW (Cond.methodLink RX1 53 yX1_level) := ⟨tb3 (List.mem_of_getElem? (i := 15) rfl), (Or.inl rfl)⟩
theorem gw_537 : GW (Cond.methodLink RL 82 yX6_keeps) := ⟨tb3 (List.mem_of_getElem? (i := 7) rfl), (Or.inl rfl)⟩
theorem gw_538 : GW (Cond.instanceMethod yX6_keeps) := ⟨tb3 (List.mem_of_getElem? (i := 8) rfl), (Or.inl rfl)⟩
theorem gw_539 : GW (Cond.selects RX6 yX6_keeps yX6_keeps) := ⟨tb3 (List.mem_of_getElem? (i := 9) rfl), (Or.inl rfl)⟩
theorem gw_540 : GW (Cond.code yX7_keeps cX7_keeps 8 (some .int)) := ⟨tb4 (List.mem_of_getElem? (i := 175) rfl), (Or.inl rfl)⟩
theorem gw_541 : GW (Cond.fieldLink RX7 77 "MossRingsModel" "pot" "[I") := ⟨tb3 (List.mem_of_getElem? (i := 188) rfl), (Or.inl rfl)⟩
theorem gw_542 : GW (Cond.code yX7_gain cX7_gain 3 (some .int)) := ⟨tb4 (List.mem_of_getElem? (i := 179) rfl), (Or.inl rfl)⟩
theorem gw_543 : GW (Cond.selects RX7 yX7_gain yX7_gain) := ⟨tb0 (List.mem_of_getElem? (i := 56) rfl), (Or.inl rfl)⟩
theorem gw_544 : GW (Cond.instanceMethod yX7_gain) := ⟨tb4 (List.mem_of_getElem? (i := 178) rfl), (Or.inl rfl)⟩
theorem gw_545 : GW (Cond.methodLink RX7 190 yX7_gain) := ⟨tb4 (List.mem_of_getElem? (i := 176) rfl), (Or.inl rfl)⟩
theorem gw_546 : GW (Cond.methodLink RL 85 yX7_keeps) := ⟨tb4 (List.mem_of_getElem? (i := 172) rfl), (Or.inl rfl)⟩
theorem gw_547 : GW (Cond.instanceMethod yX7_keeps) := ⟨tb4 (List.mem_of_getElem? (i := 173) rfl), (Or.inl rfl)⟩
theorem gw_548 : GW (Cond.selects RX7 yX7_keeps yX7_keeps) := ⟨tb4 (List.mem_of_getElem? (i := 174) rfl), (Or.inl rfl)⟩
theorem gw_549 : GW (Cond.code yX6_join cX6_join 9 (some .int)) := ⟨tb3 (List.mem_of_getElem? (i := 26) rfl), (Or.inl rfl)⟩
theorem gw_550 : GW (Cond.methodLink RL 86 yX6_join) := ⟨tb3 (List.mem_of_getElem? (i := 23) rfl), (Or.inl rfl)⟩
theorem gw_551 : GW (Cond.instanceMethod yX6_join) := ⟨tb3 (List.mem_of_getElem? (i := 24) rfl), (Or.inl rfl)⟩
theorem gw_552 : GW (Cond.selects RX6 yX6_join yX6_join) := ⟨tb3 (List.mem_of_getElem? (i := 25) rfl), (Or.inl rfl)⟩
theorem gw_553 : GW (Cond.code yX7_join cX7_join 10 (some .int)) := ⟨tb4 (List.mem_of_getElem? (i := 183) rfl), (Or.inl rfl)⟩
theorem gw_554 : GW (Cond.methodLink RL 89 yX7_join) := ⟨tb4 (List.mem_of_getElem? (i := 180) rfl), (Or.inl rfl)⟩
theorem gw_555 : GW (Cond.instanceMethod yX7_join) := ⟨tb4 (List.mem_of_getElem? (i := 181) rfl), (Or.inl rfl)⟩
theorem gw_556 : GW (Cond.selects RX7 yX7_join yX7_join) := ⟨tb4 (List.mem_of_getElem? (i := 182) rfl), (Or.inl rfl)⟩
theorem gw_557 : GW (Cond.code yX6_mirror cX6_mirror 5 (some .boolean)) := ⟨tb3 (List.mem_of_getElem? (i := 30) rfl), (Or.inl rfl)⟩
theorem gw_558 : GW (Cond.code yX1_backward cX1_backward 5 (some .int)) := ⟨tb3 (List.mem_of_getElem? (i := 34) rfl), (Or.inl rfl)⟩
theorem gw_559 : GW (Cond.selects RX1 yX1_backward yX1_backward) := ⟨tb3 (List.mem_of_getElem? (i := 33) rfl), (Or.inl rfl)⟩
theorem gw_560 : GW (Cond.instanceMethod yX1_backward) := ⟨tb3 (List.mem_of_getElem? (i := 32) rfl), (Or.inl rfl)⟩
theorem gw_561 : GW (Cond.methodLink RX6 182 yX1_backward) := ⟨tb3 (List.mem_of_getElem? (i := 31) rfl), (Or.inl rfl)⟩
theorem gw_562 : GW (Cond.methodLink RL 90 yX6_mirror) := ⟨tb3 (List.mem_of_getElem? (i := 27) rfl), (Or.inl rfl)⟩
theorem gw_563 : GW (Cond.instanceMethod yX6_mirror) := ⟨tb3 (List.mem_of_getElem? (i := 28) rfl), (Or.inl rfl)⟩
theorem gw_564 : GW (Cond.selects RX6 yX6_mirror yX6_mirror) := ⟨tb3 (List.mem_of_getElem? (i := 29) rfl), (Or.inl rfl)⟩
theorem gw_565 : GW (Cond.code yX7_mirror cX7_mirror 8 (some .boolean)) := ⟨tb4 (List.mem_of_getElem? (i := 187) rfl), (Or.inl rfl)⟩
theorem gw_566 : GW (Cond.methodLink RL 94 yX7_mirror) := ⟨tb4 (List.mem_of_getElem? (i := 184) rfl), (Or.inl rfl)⟩
theorem gw_567 : GW (Cond.instanceMethod yX7_mirror) := ⟨tb4 (List.mem_of_getElem? (i := 185) rfl), (Or.inl rfl)⟩
theorem gw_568 : GW (Cond.selects RX7 yX7_mirror yX7_mirror) := ⟨tb4 (List.mem_of_getElem? (i := 186) rfl), (Or.inl rfl)⟩
theorem gw_569 : GW (Cond.code yX6_rename cX6_rename 6 (some .boolean)) := ⟨tb3 (List.mem_of_getElem? (i := 38) rfl), (Or.inl rfl)⟩
theorem gw_570 : GW (Cond.methodLink RX6 188 yX1_translated) := ⟨tb3 (List.mem_of_getElem? (i := 43) rfl), (Or.inl rfl)⟩
theorem gw_571 : GW (Cond.code yX6_isEachOnce cX6_isEachOnce 4 (some .boolean)) := ⟨tb3 (List.mem_of_getElem? (i := 42) rfl), (Or.inl rfl)⟩
theorem gw_572 : GW (Cond.selects RX6 yX6_isEachOnce yX6_isEachOnce) := ⟨tb0 (List.mem_of_getElem? (i := 29) rfl), (Or.inl rfl)⟩
theorem gw_573 : GW (Cond.instanceMethod yX6_isEachOnce) := ⟨tb3 (List.mem_of_getElem? (i := 41) rfl), (Or.inl rfl)⟩
theorem gw_574 : GW (Cond.methodLink RX6 185 yX6_isEachOnce) := ⟨tb3 (List.mem_of_getElem? (i := 39) rfl), (Or.inl rfl)⟩
theorem gw_575 : GW (Cond.code yX6_placeOnTape cX6_placeOnTape 5 (some .int)) := ⟨tb3 (List.mem_of_getElem? (i := 50) rfl), (Or.inl rfl)⟩
theorem gw_576 : GW (Cond.selects RX6 yX6_placeOnTape yX6_placeOnTape) := ⟨tb0 (List.mem_of_getElem? (i := 30) rfl), (Or.inl rfl)⟩
theorem gw_577 : GW (Cond.instanceMethod yX6_placeOnTape) := ⟨tb3 (List.mem_of_getElem? (i := 49) rfl), (Or.inl rfl)⟩
theorem gw_578 : GW (Cond.methodLink RX6 192 yX6_placeOnTape) := ⟨tb3 (List.mem_of_getElem? (i := 47) rfl), (Or.inl rfl)⟩
theorem gw_579 : GW (Cond.code yX1_translated cX1_translated 8 (some .int)) := ⟨tb3 (List.mem_of_getElem? (i := 46) rfl), (Or.inl rfl)⟩
theorem gw_580 : GW (Cond.selects RX1 yX1_translated yX1_translated) := ⟨tb3 (List.mem_of_getElem? (i := 45) rfl), (Or.inl rfl)⟩
theorem gw_581 : GW (Cond.instanceMethod yX1_translated) := ⟨tb3 (List.mem_of_getElem? (i := 44) rfl), (Or.inl rfl)⟩
theorem gw_582 : GW (Cond.methodLink RL 95 yX6_rename) := ⟨tb3 (List.mem_of_getElem? (i := 35) rfl), (Or.inl rfl)⟩
theorem gw_583 : GW (Cond.instanceMethod yX6_rename) := ⟨tb3 (List.mem_of_getElem? (i := 36) rfl), (Or.inl rfl)⟩
theorem gw_584 : GW (Cond.selects RX6 yX6_rename yX6_rename) := ⟨tb3 (List.mem_of_getElem? (i := 37) rfl), (Or.inl rfl)⟩
theorem gw_585 : GW (Cond.code yX7_rename cX7_rename 8 (some .boolean)) := ⟨tb4 (List.mem_of_getElem? (i := 191) rfl), (Or.inl rfl)⟩
theorem gw_586 : GW (Cond.methodLink RL 98 yX7_rename) := ⟨tb4 (List.mem_of_getElem? (i := 188) rfl), (Or.inl rfl)⟩
theorem gw_587 : GW (Cond.instanceMethod yX7_rename) := ⟨tb4 (List.mem_of_getElem? (i := 189) rfl), (Or.inl rfl)⟩
theorem gw_588 : GW (Cond.selects RX7 yX7_rename yX7_rename) := ⟨tb4 (List.mem_of_getElem? (i := 190) rfl), (Or.inl rfl)⟩
theorem gw_589 : GW (Cond.code yX6_trim cX6_trim 6 (some .int)) := ⟨tb3 (List.mem_of_getElem? (i := 54) rfl), (Or.inl rfl)⟩
theorem gw_590 : GW (Cond.instanceMethod yX1_withoutAhead) := ⟨tb3 (List.mem_of_getElem? (i := 60) rfl), (Or.inl rfl)⟩
theorem gw_591 : GW (Cond.methodLink RX6 199 yX1_withoutAhead) := ⟨tb3 (List.mem_of_getElem? (i := 59) rfl), (Or.inl rfl)⟩
theorem gw_592 : GW (Cond.code yX1_idlesAhead cX1_idlesAhead 2 (some .boolean)) := ⟨tb3 (List.mem_of_getElem? (i := 58) rfl), (Or.inl rfl)⟩
theorem gw_593 : GW (Cond.selects RX1 yX1_idlesAhead yX1_idlesAhead) := ⟨tb3 (List.mem_of_getElem? (i := 57) rfl), (Or.inl rfl)⟩
theorem gw_594 : GW (Cond.instanceMethod yX1_idlesAhead) := ⟨tb3 (List.mem_of_getElem? (i := 56) rfl), (Or.inl rfl)⟩
theorem gw_595 : GW (Cond.methodLink RX6 195 yX1_idlesAhead) := ⟨tb3 (List.mem_of_getElem? (i := 55) rfl), (Or.inl rfl)⟩
theorem gw_596 : GW (Cond.methodLink RX1 50 yX1_init) := ⟨tb3 (List.mem_of_getElem? (i := 64) rfl), (Or.inl rfl)⟩
theorem gw_597 : GW (Cond.classLink RX1 14 RX1) := ⟨tb3 (List.mem_of_getElem? (i := 63) rfl), (Or.inl rfl)⟩
theorem gw_598 : GW (Cond.code yX1_withoutAhead cX1_withoutAhead 1 (some (.object "MossRings$Rule"))) := ⟨tb3 (List.mem_of_getElem? (i := 62) rfl), (Or.inl rfl)⟩
theorem gw_599 : GW (Cond.selects RX1 yX1_withoutAhead yX1_withoutAhead) := ⟨tb3 (List.mem_of_getElem? (i := 61) rfl), (Or.inl rfl)⟩
theorem gw_600 : GW (Cond.code yX1_withoutBehind cX1_withoutBehind 3 (some (.object "MossRings$Rule"))) := ⟨tb3 (List.mem_of_getElem? (i := 72) rfl), (Or.inl rfl)⟩
theorem gw_601 : GW (Cond.selects RX1 yX1_withoutBehind yX1_withoutBehind) := ⟨tb3 (List.mem_of_getElem? (i := 71) rfl), (Or.inl rfl)⟩
theorem gw_602 : GW (Cond.instanceMethod yX1_withoutBehind) := ⟨tb3 (List.mem_of_getElem? (i := 70) rfl), (Or.inl rfl)⟩
theorem gw_603 : GW (Cond.methodLink RX6 206 yX1_withoutBehind) := ⟨tb3 (List.mem_of_getElem? (i := 69) rfl), (Or.inl rfl)⟩
theorem gw_604 : GW (Cond.code yX1_idlesBehind cX1_idlesBehind 2 (some .boolean)) := ⟨tb3 (List.mem_of_getElem? (i := 68) rfl), (Or.inl rfl)⟩
theorem gw_605 : GW (Cond.selects RX1 yX1_idlesBehind yX1_idlesBehind) := ⟨tb3 (List.mem_of_getElem? (i := 67) rfl), (Or.inl rfl)⟩
theorem gw_606 : GW (Cond.instanceMethod yX1_idlesBehind) := ⟨tb3 (List.mem_of_getElem? (i := 66) rfl), (Or.inl rfl)⟩
theorem gw_607 : GW (Cond.methodLink RX6 203 yX1_idlesBehind) := ⟨tb3 (List.mem_of_getElem? (i := 65) rfl), (Or.inl rfl)⟩
theorem gw_608 : GW (Cond.methodLink RL 99 yX6_trim) := ⟨tb3 (List.mem_of_getElem? (i := 51) rfl), (Or.inl rfl)⟩
theorem gw_609 : GW (Cond.instanceMethod yX6_trim) := ⟨tb3 (List.mem_of_getElem? (i := 52) rfl), (Or.inl rfl)⟩
theorem gw_610 : GW (Cond.selects RX6 yX6_trim yX6_trim) := ⟨tb3 (List.mem_of_getElem? (i := 53) rfl), (Or.inl rfl)⟩
theorem gw_611 : GW (Cond.code yX7_trim cX7_trim 7 (some .int)) := ⟨tb4 (List.mem_of_getElem? (i := 195) rfl), (Or.inl rfl)⟩
theorem gw_612 : GW (Cond.code yX7_isIdle cX7_isIdle 6 (some .boolean)) := ⟨tb4 (List.mem_of_getElem? (i := 199) rfl), (Or.inl rfl)⟩
theorem gw_613 : GW (Cond.selects RX7 yX7_isIdle yX7_isIdle) := ⟨tb0 (List.mem_of_getElem? (i := 57) rfl), (Or.inl rfl)⟩
theorem gw_614 : GW (Cond.instanceMethod yX7_isIdle) := ⟨tb4 (List.mem_of_getElem? (i := 198) rfl), (Or.inl rfl)⟩
theorem gw_615 : GW (Cond.methodLink RX7 193 yX7_isIdle) := ⟨tb4 (List.mem_of_getElem? (i := 196) rfl), (Or.inl rfl)⟩
theorem gw_616 : GW (Cond.methodLink RL 102 yX7_trim) := ⟨tb4 (List.mem_of_getElem? (i := 192) rfl), (Or.inl rfl)⟩
theorem gw_617 : GW (Cond.instanceMethod yX7_trim) := ⟨tb4 (List.mem_of_getElem? (i := 193) rfl), (Or.inl rfl)⟩
theorem gw_618 : GW (Cond.selects RX7 yX7_trim yX7_trim) := ⟨tb4 (List.mem_of_getElem? (i := 194) rfl), (Or.inl rfl)⟩
theorem gw_619 : GW (Cond.code yX7_octet cX7_octet 2 (some .int)) := ⟨tb4 (List.mem_of_getElem? (i := 44) rfl), (Or.inl rfl)⟩
theorem gw_620 : GW (Cond.code yX7_throwsIf cX7_throwsIf 2 (some .boolean)) := ⟨tb4 (List.mem_of_getElem? (i := 48) rfl), (Or.inl rfl)⟩
theorem gw_621 : GW (Cond.selects RX7 yX7_throwsIf yX7_throwsIf) := ⟨tb0 (List.mem_of_getElem? (i := 36) rfl), (Or.inl rfl)⟩
theorem gw_622 : GW (Cond.instanceMethod yX7_throwsIf) := ⟨tb4 (List.mem_of_getElem? (i := 47) rfl), (Or.inl rfl)⟩
theorem gw_623 : GW (Cond.methodLink RX7 116 yX7_throwsIf) := ⟨tb4 (List.mem_of_getElem? (i := 45) rfl), (Or.inl rfl)⟩
theorem gw_624 : GW (Cond.methodLink RL 108 yX7_octet) := ⟨tb4 (List.mem_of_getElem? (i := 41) rfl), (Or.inl rfl)⟩
theorem gw_625 : GW (Cond.instanceMethod yX7_octet) := ⟨tb4 (List.mem_of_getElem? (i := 42) rfl), (Or.inl rfl)⟩
theorem gw_626 : GW (Cond.selects RX7 yX7_octet yX7_octet) := ⟨tb4 (List.mem_of_getElem? (i := 43) rfl), (Or.inl rfl)⟩
theorem gw_627 : GW (Cond.code yX7_thrown cX7_thrown 1 (some .int)) := ⟨tb4 (List.mem_of_getElem? (i := 7) rfl), (Or.inl rfl)⟩
theorem gw_628 : GW (Cond.methodLink RL 109 yX7_thrown) := ⟨tb4 (List.mem_of_getElem? (i := 4) rfl), (Or.inl rfl)⟩
theorem gw_629 : GW (Cond.instanceMethod yX7_thrown) := ⟨tb4 (List.mem_of_getElem? (i := 5) rfl), (Or.inl rfl)⟩
theorem gw_630 : GW (Cond.selects RX7 yX7_thrown yX7_thrown) := ⟨tb4 (List.mem_of_getElem? (i := 6) rfl), (Or.inl rfl)⟩
theorem gw_631 : GW (Cond.code yX6_count cX6_count 2 (some .int)) := ⟨tb3 (List.mem_of_getElem? (i := 76) rfl), (Or.inl rfl)⟩
theorem gw_632 : GW (Cond.code yX6_fullSlots cX6_fullSlots 3 (some .int)) := ⟨tb3 (List.mem_of_getElem? (i := 80) rfl), (Or.inl rfl)⟩
theorem gw_633 : GW (Cond.selects RX6 yX6_fullSlots yX6_fullSlots) := ⟨tb0 (List.mem_of_getElem? (i := 31) rfl), (Or.inl rfl)⟩
theorem gw_634 : GW (Cond.instanceMethod yX6_fullSlots) := ⟨tb3 (List.mem_of_getElem? (i := 79) rfl), (Or.inl rfl)⟩
theorem gw_635 : GW (Cond.methodLink RX6 216 yX6_fullSlots) := ⟨tb3 (List.mem_of_getElem? (i := 77) rfl), (Or.inl rfl)⟩
theorem gw_636 : GW (Cond.methodLink RL 112 yX6_count) := ⟨tb3 (List.mem_of_getElem? (i := 73) rfl), (Or.inl rfl)⟩
theorem gw_637 : GW (Cond.instanceMethod yX6_count) := ⟨tb3 (List.mem_of_getElem? (i := 74) rfl), (Or.inl rfl)⟩
theorem gw_638 : GW (Cond.selects RX6 yX6_count yX6_count) := ⟨tb3 (List.mem_of_getElem? (i := 75) rfl), (Or.inl rfl)⟩
theorem gw_639 : GW (Cond.code yX7_count_ cX7_count_ 4 (some .int)) := ⟨tb4 (List.mem_of_getElem? (i := 203) rfl), (Or.inl rfl)⟩
theorem gw_640 : GW (Cond.methodLink RL 115 yX7_count_) := ⟨tb4 (List.mem_of_getElem? (i := 200) rfl), (Or.inl rfl)⟩
theorem gw_641 : GW (Cond.instanceMethod yX7_count_) := ⟨tb4 (List.mem_of_getElem? (i := 201) rfl), (Or.inl rfl)⟩
theorem gw_642 : GW (Cond.selects RX7 yX7_count_ yX7_count_) := ⟨tb4 (List.mem_of_getElem? (i := 202) rfl), (Or.inl rfl)⟩
theorem gw_643 : GW (Cond.code yX6_init cX6_init 1 none) := ⟨tb1 (List.mem_of_getElem? (i := 20) rfl), (Or.inl rfl)⟩
theorem gw_644 : GW (Cond.methodLink RX6 33 yX5_init) := ⟨tb1 (List.mem_of_getElem? (i := 28) rfl), (Or.inl rfl)⟩
theorem gw_645 : GW (Cond.instantiable RX0 1) := ⟨tb1 (List.mem_of_getElem? (i := 67) rfl), (Or.inl rfl)⟩
theorem gw_646 : GW (Cond.classLink RX6 45 RX0) := ⟨tb1 (List.mem_of_getElem? (i := 66) rfl), (Or.inl rfl)⟩
theorem gw_647 : GW (Cond.instantiable RX2 5) := ⟨tb1 (List.mem_of_getElem? (i := 45) rfl), (Or.inl rfl)⟩
theorem gw_648 : GW (Cond.classLink RX6 38 RX2) := ⟨tb1 (List.mem_of_getElem? (i := 44) rfl), (Or.inl rfl)⟩
theorem gw_649 : GW (Cond.instantiable RX5 3) := ⟨tb1 (List.mem_of_getElem? (i := 27) rfl), (Or.inl rfl)⟩
theorem gw_650 : GW (Cond.classLink RX6 31 RX5) := ⟨tb1 (List.mem_of_getElem? (i := 26) rfl), (Or.inl rfl)⟩
theorem gw_651 : GW (Cond.methodLink RX6 3 objectInit) := ⟨tb1 (List.mem_of_getElem? (i := 21) rfl), (Or.inl rfl)⟩
theorem gw_652 : GW (Cond.arrayClass .boolean) := ⟨tb1 (List.mem_of_getElem? (i := 76) rfl), (Or.inr ⟨_, rfl⟩)⟩
theorem gw_653 : GW (Cond.methodLink RX0 3 objectInit) := ⟨tb1 (List.mem_of_getElem? (i := 71) rfl), (Or.inl rfl)⟩
theorem gw_654 : GW (Cond.code yX0_init cX0_init 1 none) := ⟨tb1 (List.mem_of_getElem? (i := 70) rfl), (Or.inl rfl)⟩
theorem gw_655 : GW (Cond.instanceMethod yX0_init) := ⟨tb1 (List.mem_of_getElem? (i := 69) rfl), (Or.inl rfl)⟩
theorem gw_656 : GW (Cond.methodLink RX6 47 yX0_init) := ⟨tb1 (List.mem_of_getElem? (i := 68) rfl), (Or.inl rfl)⟩
theorem gw_657 : GW (Cond.methodLink RX2 3 objectInit) := ⟨tb1 (List.mem_of_getElem? (i := 49) rfl), (Or.inl rfl)⟩
theorem gw_658 : GW (Cond.code yX2_init cX2_init 1 none) := ⟨tb1 (List.mem_of_getElem? (i := 48) rfl), (Or.inl rfl)⟩
theorem gw_659 : GW (Cond.instanceMethod yX2_init) := ⟨tb1 (List.mem_of_getElem? (i := 47) rfl), (Or.inl rfl)⟩
theorem gw_660 : GW (Cond.methodLink RX6 40 yX2_init) := ⟨tb1 (List.mem_of_getElem? (i := 46) rfl), (Or.inl rfl)⟩
theorem gw_661 : GW (Cond.methodLink RX5 3 objectInit) := ⟨tb1 (List.mem_of_getElem? (i := 31) rfl), (Or.inl rfl)⟩
theorem gw_662 : GW (Cond.code yX5_init cX5_init 1 none) := ⟨tb1 (List.mem_of_getElem? (i := 30) rfl), (Or.inl rfl)⟩
theorem gw_663 : GW (Cond.instanceMethod yX5_init) := ⟨tb1 (List.mem_of_getElem? (i := 29) rfl), (Or.inl rfl)⟩
theorem gw_664 : GW (Cond.code yX7_init cX7_init 1 none) := ⟨tb3 (List.mem_of_getElem? (i := 159) rfl), (Or.inl rfl)⟩
theorem gw_665 : GW (Cond.arrayClass .byte) := ⟨tb3 (List.mem_of_getElem? (i := 154) rfl), (Or.inr ⟨_, rfl⟩)⟩
theorem gw_666 : GW (Cond.methodLink RX7 1 objectInit) := ⟨tb3 (List.mem_of_getElem? (i := 160) rfl), (Or.inl rfl)⟩
theorem gw_667 : GW (Cond.codeWith yL_octet cL_octet 4 (some .int) [(0, 9, 12, 13)]) := ⟨tb3 (List.mem_of_getElem? (i := 83) rfl), (Or.inl rfl)⟩
theorem gw_668 : GW (Cond.initialized "java/util/NoSuchElementException") := ⟨tb1 (List.mem_of_getElem? (i := 15) rfl), (Or.inl rfl)⟩
theorem gw_669 : GW (Cond.classLink RX6 209 "java/util/NoSuchElementException") := ⟨tb3 (List.mem_of_getElem? (i := 89) rfl), (Or.inl rfl)⟩
theorem gw_670 : GW (Cond.code yX6_octet cX6_octet 2 (some .int)) := ⟨tb3 (List.mem_of_getElem? (i := 88) rfl), (Or.inl rfl)⟩
theorem gw_671 : GW (Cond.selects RX6 yX6_octet yX6_octet) := ⟨tb3 (List.mem_of_getElem? (i := 87) rfl), (Or.inl rfl)⟩
theorem gw_672 : GW (Cond.instanceMethod yX6_octet) := ⟨tb3 (List.mem_of_getElem? (i := 86) rfl), (Or.inl rfl)⟩
theorem gw_673 : GW (Cond.methodLink RL 7 yX6_octet) := ⟨tb3 (List.mem_of_getElem? (i := 85) rfl), (Or.inl rfl)⟩
theorem gw_674 : GW (Cond.classLink RL 13 "java/util/NoSuchElementException") := ⟨tb3 (List.mem_of_getElem? (i := 84) rfl), (Or.inl rfl)⟩
theorem gw_675 : GW (Cond.methodLink RL 103 yL_octet) := ⟨tb3 (List.mem_of_getElem? (i := 81) rfl), (Or.inl rfl)⟩
theorem gw_676 : GW (Cond.static yL_octet) := ⟨tb3 (List.mem_of_getElem? (i := 82) rfl), (Or.inl rfl)⟩
theorem gw_677 : GW (Cond.initialized RL) := ⟨tb1 (List.mem_of_getElem? (i := 0) rfl), (Or.inl rfl)⟩
theorem gw_678 : GW (Cond.classLink RL 8 RX6) := ⟨tb1 (List.mem_of_getElem? (i := 16) rfl), (Or.inl rfl)⟩
theorem gw_679 : GW (Cond.instantiable RX6 14) := ⟨tb1 (List.mem_of_getElem? (i := 17) rfl), (Or.inl rfl)⟩
theorem gw_680 : GW (Cond.classLink RL 16 RX7) := ⟨tb3 (List.mem_of_getElem? (i := 155) rfl), (Or.inl rfl)⟩
theorem gw_681 : GW (Cond.instantiable RX7 27) := ⟨tb3 (List.mem_of_getElem? (i := 156) rfl), (Or.inl rfl)⟩
theorem gw_682 : GW (Cond.methodLink RL 15 yX6_init) := ⟨tb1 (List.mem_of_getElem? (i := 18) rfl), (Or.inl rfl)⟩
theorem gw_683 : GW (Cond.instanceMethod yX6_init) := ⟨tb1 (List.mem_of_getElem? (i := 19) rfl), (Or.inl rfl)⟩
theorem gw_684 : GW (Cond.methodLink RL 18 yX7_init) := ⟨tb3 (List.mem_of_getElem? (i := 157) rfl), (Or.inl rfl)⟩
theorem gw_685 : GW (Cond.instanceMethod yX7_init) := ⟨tb3 (List.mem_of_getElem? (i := 158) rfl), (Or.inl rfl)⟩
theorem gw_686 : GW (Cond.instantiable "java/util/NoSuchElementException" 6) := ⟨tb3 (List.mem_of_getElem? (i := 90) rfl), (Or.inl rfl)⟩
