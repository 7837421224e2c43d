theorem gI_nil : GoodIn lw_tbl [] := fun _ h => absurd h List.not_mem_nil
theorem gI_cons {w : Cond} {ws : List Cond} (h : GW w) (t : GoodIn lw_tbl ws) : GoodIn lw_tbl (w :: ws) := fun v hv => (List.mem_cons.mp hv).elim (fun e => by rw [e]; exact h) (t v)
def xw_all : List Cond := vy_at RX6 213 "java/util/NoSuchElementException" 13 prog_18_method_4_code ["java/lang/RuntimeException", "java/lang/Exception"]
def xw_g : List Cond := xw_all.filter goodWord
def xw_b : List Cond := [.declares (Bundle.initS "java/lang/RuntimeException"), .declares (Bundle.initS "java/lang/Exception"), .declares (Bundle.initS Bundle.tN), .castable "java/util/NoSuchElementException" "java/util/NoSuchElementException"]
theorem xw_b_in : ∀ w ∈ xw_all.filter (fun w => !goodWord w), w ∈ xw_b := by decide +kernel
theorem xw_b_tb : ∀ w ∈ xw_b, w ∈ lw_tbl := List.forall_mem_cons.mpr ⟨tb3 (List.mem_of_getElem? (i := 93) rfl), List.forall_mem_cons.mpr ⟨tb3 (List.mem_of_getElem? (i := 95) rfl), List.forall_mem_cons.mpr ⟨tb3 (List.mem_of_getElem? (i := 97) rfl), List.forall_mem_cons.mpr ⟨tb3 (List.mem_of_getElem? (i := 91) rfl), fun _ h => absurd h List.not_mem_nil⟩⟩⟩⟩
theorem xw_ot : ∀ w ∈ Cond.classLink RX6 209 "java/util/NoSuchElementException" :: Cond.initialized "java/util/NoSuchElementException" :: xw_all, vx_ot w = true := by decide +kernel
set_option maxRecDepth 20000 in
theorem k_xw_g : GoodIn lw_tbl xw_g := goodIn_r _ [70, 649, 658, 660, 663, 665, 650, 651, 80, 81, 652, 657, 661, 681, 639, 682, 641, 683, 643, 653, 655, 645, 677, 678, 680, 645, 668, 669, 670, 671, 671, 672, 673, 674, 674, 675, 676, 677, 667, 628, 636, 637, 638, 640, 642, 644, 648, 647, 646] (by decide +kernel) (by decide +kernel)
def wsX6_oct : List Cond := .code yX6_octet cX6_octet 2 (some .int) :: ([.classLink RX6 209 "java/util/NoSuchElementException", .initialized "java/util/NoSuchElementException", .fieldLink RX6 106 "MossRings" "outLength" "I", .fieldLink RX6 19 "MossRings" "out" "[I"] ++ wsX60 ++ xw_g)
def wsL_oct : List Cond := .codeWith yL_octet cL_octet 4 (some .int) [(0, 9, 12, 13)] :: ([.classLink RL 13 "java/util/NoSuchElementException", .methodLink RL 7 yX6_octet, .instanceMethod yX6_octet, .selects RX6 yX6_octet yX6_octet, .initialized RX6, .code yX6_octet cX6_octet 2 (some .int), .classLink RX6 209 "java/util/NoSuchElementException", .initialized "java/util/NoSuchElementException", .fieldLink RX6 106 "MossRings" "outLength" "I", .fieldLink RX6 19 "MossRings" "out" "[I"] ++ wsX60 ++ xw_g)
set_option maxRecDepth 20000 in
theorem k_wsX60 : GoodIn lw_tbl wsX60 := goodIn_r _ [149, 151, 153, 155, 157, 159, 161, 163, 165, 167, 169, 171, 173, 175] (by decide +kernel) (by decide +kernel)
set_option maxRecDepth 20000 in
theorem k_wsX6_feed : GoodIn lw_tbl wsX6_feed := (gI_cons gw_0 (goodIn_app (gI_cons gw_7 (gI_cons gw_6 (gI_cons gw_5 (gI_cons gw_4 (gI_cons gw_3 (gI_cons gw_2 (gI_cons gw_1 gI_nil))))))) k_wsX60))
set_option maxRecDepth 20000 in
theorem k_wsX70 : GoodIn lw_tbl wsX70 := goodIn_r _ [727, 729, 731, 733, 735, 737, 739, 741, 743, 745, 747, 749, 751, 753, 755, 757, 759, 761, 763, 765, 767, 769, 771, 773, 775, 777, 779] (by decide +kernel) (by decide +kernel)
set_option maxRecDepth 20000 in
theorem k_wsX7_feed : GoodIn lw_tbl wsX7_feed := (gI_cons gw_11 (goodIn_app (gI_cons gw_19 (gI_cons gw_18 (gI_cons gw_17 (gI_cons gw_16 (gI_cons gw_15 (gI_cons gw_14 (gI_cons gw_13 (gI_cons gw_12 gI_nil)))))))) k_wsX70))
set_option maxRecDepth 20000 in
theorem k_wsX6_end : GoodIn lw_tbl wsX6_end := (gI_cons gw_23 (goodIn_app (gI_cons gw_7 gI_nil) k_wsX60))
set_option maxRecDepth 20000 in
theorem k_wsX7_end : GoodIn lw_tbl wsX7_end := (gI_cons gw_27 (goodIn_app (gI_cons gw_19 (gI_cons gw_18 gI_nil)) k_wsX70))
set_option maxRecDepth 20000 in
theorem k_wsX6_rule_r1 : GoodIn lw_tbl wsX6_rule_r1 := (gI_cons gw_52 (gI_cons gw_51 (gI_cons gw_50 (gI_cons gw_49 (gI_cons gw_1 (gI_cons gw_48 (gI_cons gw_47 (gI_cons gw_46 (gI_cons gw_3 (gI_cons gw_45 (gI_cons gw_7 (gI_cons gw_44 (gI_cons gw_43 (gI_cons gw_42 (gI_cons gw_41 (gI_cons gw_40 (gI_cons gw_39 (gI_cons gw_38 (gI_cons gw_37 (gI_cons gw_36 (gI_cons gw_35 (gI_cons gw_34 (gI_cons gw_33 (gI_cons gw_32 gI_nil))))))))))))))))))))))))
set_option maxRecDepth 20000 in
theorem k_wsX6_rule_r2 : GoodIn lw_tbl wsX6_rule_r2 := (gI_cons gw_76 (gI_cons gw_75 (gI_cons gw_74 (gI_cons gw_73 (gI_cons gw_72 (gI_cons gw_71 (gI_cons gw_70 (gI_cons gw_69 (gI_cons gw_68 (gI_cons gw_67 (gI_cons gw_66 (gI_cons gw_65 (gI_cons gw_64 (gI_cons gw_63 (gI_cons gw_62 (gI_cons gw_61 (gI_cons gw_60 (gI_cons gw_59 (gI_cons gw_58 (gI_cons gw_57 (gI_cons gw_56 (gI_cons gw_55 (gI_cons gw_54 (gI_cons gw_53 gI_nil))))))))))))))))))))))))
set_option maxRecDepth 20000 in
theorem k_wsX6_rule_r3 : GoodIn lw_tbl wsX6_rule_r3 := (gI_cons gw_86 (gI_cons gw_85 (gI_cons gw_84 (gI_cons gw_83 (gI_cons gw_82 (gI_cons gw_81 (gI_cons gw_80 (gI_cons gw_79 (gI_cons gw_78 (gI_cons gw_77 gI_nil))))))))))
set_option maxRecDepth 20000 in
theorem k_wsX10 : GoodIn lw_tbl wsX10 := goodIn_r _ [256, 258, 260, 262, 264] (by decide +kernel) (by decide +kernel)
set_option maxRecDepth 20000 in
theorem k_wsX6_rule : GoodIn lw_tbl wsX6_rule := (gI_cons gw_31 (goodIn_app (goodIn_app (goodIn_app k_wsX6_rule_r1 (goodIn_app k_wsX6_rule_r2 k_wsX6_rule_r3)) k_wsX60) k_wsX10))
set_option maxRecDepth 20000 in
theorem k_wsX7_rule_r1 : GoodIn lw_tbl wsX7_rule_r1 := (gI_cons gw_19 (gI_cons gw_110 (gI_cons gw_12 (gI_cons gw_109 (gI_cons gw_108 (gI_cons gw_107 (gI_cons gw_106 (gI_cons gw_14 (gI_cons gw_105 (gI_cons gw_18 (gI_cons gw_104 (gI_cons gw_103 (gI_cons gw_102 (gI_cons gw_101 (gI_cons gw_100 (gI_cons gw_99 (gI_cons gw_98 (gI_cons gw_97 (gI_cons gw_96 (gI_cons gw_95 (gI_cons gw_94 (gI_cons gw_93 (gI_cons gw_92 (gI_cons gw_91 gI_nil))))))))))))))))))))))))
set_option maxRecDepth 20000 in
theorem k_wsX7_rule_r2 : GoodIn lw_tbl wsX7_rule_r2 := (gI_cons gw_111 gI_nil)
set_option maxRecDepth 20000 in
theorem k_wsX7_rule : GoodIn lw_tbl wsX7_rule := (gI_cons gw_90 (goodIn_app (goodIn_app k_wsX7_rule_r1 k_wsX7_rule_r2) k_wsX70))
set_option maxRecDepth 20000 in
theorem k_wsX6_about_r1 : GoodIn lw_tbl wsX6_about_r1 := (gI_cons gw_134 (gI_cons gw_133 (gI_cons gw_132 (gI_cons gw_131 (gI_cons gw_130 (gI_cons gw_3 (gI_cons gw_129 (gI_cons gw_52 (gI_cons gw_44 (gI_cons gw_43 (gI_cons gw_42 (gI_cons gw_128 (gI_cons gw_127 (gI_cons gw_126 (gI_cons gw_125 (gI_cons gw_124 (gI_cons gw_123 (gI_cons gw_122 (gI_cons gw_121 (gI_cons gw_120 (gI_cons gw_119 (gI_cons gw_118 (gI_cons gw_117 (gI_cons gw_116 gI_nil))))))))))))))))))))))))
set_option maxRecDepth 20000 in
theorem k_wsX6_about_r2 : GoodIn lw_tbl wsX6_about_r2 := (gI_cons gw_155 (gI_cons gw_154 (gI_cons gw_153 (gI_cons gw_58 (gI_cons gw_152 (gI_cons gw_151 (gI_cons gw_150 (gI_cons gw_149 (gI_cons gw_49 (gI_cons gw_148 (gI_cons gw_61 (gI_cons gw_147 (gI_cons gw_146 (gI_cons gw_145 (gI_cons gw_144 (gI_cons gw_143 (gI_cons gw_142 (gI_cons gw_141 (gI_cons gw_140 (gI_cons gw_139 (gI_cons gw_138 (gI_cons gw_137 (gI_cons gw_136 (gI_cons gw_135 gI_nil))))))))))))))))))))))))
set_option maxRecDepth 20000 in
theorem k_wsX6_about_r3 : GoodIn lw_tbl wsX6_about_r3 := (gI_cons gw_177 (gI_cons gw_176 (gI_cons gw_175 (gI_cons gw_174 (gI_cons gw_173 (gI_cons gw_172 (gI_cons gw_171 (gI_cons gw_170 (gI_cons gw_169 (gI_cons gw_168 (gI_cons gw_167 (gI_cons gw_166 (gI_cons gw_165 (gI_cons gw_164 (gI_cons gw_163 (gI_cons gw_162 (gI_cons gw_161 (gI_cons gw_160 (gI_cons gw_159 (gI_cons gw_158 (gI_cons gw_157 (gI_cons gw_156 gI_nil))))))))))))))))))))))
set_option maxRecDepth 20000 in
theorem k_wsX20 : GoodIn lw_tbl wsX20 := goodIn_r _ [113, 115, 117, 119, 121] (by decide +kernel) (by decide +kernel)
set_option maxRecDepth 20000 in
theorem k_wsX00 : GoodIn lw_tbl wsX00 := goodIn_r _ [131] (by decide +kernel) (by decide +kernel)
set_option maxRecDepth 20000 in
theorem k_wsX6_about : GoodIn lw_tbl wsX6_about := (gI_cons gw_115 (goodIn_app (goodIn_app (goodIn_app (goodIn_app (goodIn_app k_wsX6_about_r1 (goodIn_app k_wsX6_about_r2 k_wsX6_about_r3)) k_wsX10) k_wsX60) k_wsX20) k_wsX00))
set_option maxRecDepth 20000 in
theorem k_wsX7_about_r1 : GoodIn lw_tbl wsX7_about_r1 := (gI_cons gw_19 (gI_cons gw_91 (gI_cons gw_111 (gI_cons gw_195 (gI_cons gw_194 (gI_cons gw_193 (gI_cons gw_14 (gI_cons gw_192 (gI_cons gw_104 (gI_cons gw_103 (gI_cons gw_102 (gI_cons gw_191 (gI_cons gw_190 (gI_cons gw_189 (gI_cons gw_188 (gI_cons gw_187 (gI_cons gw_186 (gI_cons gw_185 (gI_cons gw_184 (gI_cons gw_98 (gI_cons gw_97 (gI_cons gw_96 (gI_cons gw_183 (gI_cons gw_182 gI_nil))))))))))))))))))))))))
set_option maxRecDepth 20000 in
theorem k_wsX7_about_r2 : GoodIn lw_tbl wsX7_about_r2 := (gI_cons gw_218 (gI_cons gw_217 (gI_cons gw_109 (gI_cons gw_216 (gI_cons gw_215 (gI_cons gw_214 (gI_cons gw_213 (gI_cons gw_212 (gI_cons gw_211 (gI_cons gw_210 (gI_cons gw_209 (gI_cons gw_208 (gI_cons gw_207 (gI_cons gw_206 (gI_cons gw_205 (gI_cons gw_204 (gI_cons gw_203 (gI_cons gw_202 (gI_cons gw_201 (gI_cons gw_200 (gI_cons gw_199 (gI_cons gw_198 (gI_cons gw_197 (gI_cons gw_196 gI_nil))))))))))))))))))))))))
set_option maxRecDepth 20000 in
theorem k_wsX7_about_r3 : GoodIn lw_tbl wsX7_about_r3 := (gI_cons gw_223 (gI_cons gw_222 (gI_cons gw_221 (gI_cons gw_220 (gI_cons gw_219 gI_nil)))))
set_option maxRecDepth 20000 in
theorem k_wsX7_about : GoodIn lw_tbl wsX7_about := (gI_cons gw_181 (goodIn_app (goodIn_app k_wsX7_about_r1 (goodIn_app k_wsX7_about_r2 k_wsX7_about_r3)) k_wsX70))
set_option maxRecDepth 20000 in
theorem k_wsX6_table : GoodIn lw_tbl wsX6_table := (gI_cons gw_227 (goodIn_app (goodIn_app (gI_cons gw_230 (gI_cons gw_229 (gI_cons gw_132 (gI_cons gw_131 (gI_cons gw_130 (gI_cons gw_3 (gI_cons gw_129 (gI_cons gw_52 (gI_cons gw_44 (gI_cons gw_43 (gI_cons gw_42 (gI_cons gw_228 (gI_cons gw_150 (gI_cons gw_149 (gI_cons gw_49 (gI_cons gw_148 (gI_cons gw_61 gI_nil))))))))))))))))) k_wsX10) k_wsX60))
set_option maxRecDepth 20000 in
theorem k_wsX7_table : GoodIn lw_tbl wsX7_table := (gI_cons gw_234 (goodIn_app (gI_cons gw_19 (gI_cons gw_91 (gI_cons gw_111 (gI_cons gw_236 (gI_cons gw_235 (gI_cons gw_195 (gI_cons gw_194 (gI_cons gw_193 (gI_cons gw_14 (gI_cons gw_192 (gI_cons gw_104 (gI_cons gw_103 (gI_cons gw_102 (gI_cons gw_98 (gI_cons gw_97 (gI_cons gw_96 (gI_cons gw_183 (gI_cons gw_182 (gI_cons gw_218 (gI_cons gw_217 (gI_cons gw_109 gI_nil))))))))))))))))))))) k_wsX70))
set_option maxRecDepth 20000 in
theorem k_wsX6_row_r1 : GoodIn lw_tbl wsX6_row_r1 := (gI_cons gw_229 (gI_cons gw_1 (gI_cons gw_230 (gI_cons gw_48 (gI_cons gw_47 (gI_cons gw_46 (gI_cons gw_3 (gI_cons gw_45 (gI_cons gw_7 (gI_cons gw_132 (gI_cons gw_131 (gI_cons gw_130 (gI_cons gw_129 (gI_cons gw_52 (gI_cons gw_44 (gI_cons gw_43 (gI_cons gw_42 (gI_cons gw_34 (gI_cons gw_33 (gI_cons gw_32 (gI_cons gw_76 (gI_cons gw_243 (gI_cons gw_242 (gI_cons gw_241 gI_nil))))))))))))))))))))))))
set_option maxRecDepth 20000 in
theorem k_wsX6_row_r2 : GoodIn lw_tbl wsX6_row_r2 := (gI_cons gw_49 (gI_cons gw_245 (gI_cons gw_64 (gI_cons gw_65 (gI_cons gw_63 (gI_cons gw_244 (gI_cons gw_150 (gI_cons gw_149 (gI_cons gw_148 (gI_cons gw_61 gI_nil))))))))))
set_option maxRecDepth 20000 in
theorem k_wsX6_row : GoodIn lw_tbl wsX6_row := (gI_cons gw_240 (goodIn_app (goodIn_app (goodIn_app k_wsX6_row_r1 k_wsX6_row_r2) k_wsX10) k_wsX60))
set_option maxRecDepth 20000 in
theorem k_wsX7_row_r1 : GoodIn lw_tbl wsX7_row_r1 := (gI_cons gw_19 (gI_cons gw_111 (gI_cons gw_110 (gI_cons gw_236 (gI_cons gw_235 (gI_cons gw_108 (gI_cons gw_107 (gI_cons gw_106 (gI_cons gw_14 (gI_cons gw_105 (gI_cons gw_18 (gI_cons gw_195 (gI_cons gw_194 (gI_cons gw_193 (gI_cons gw_192 (gI_cons gw_91 (gI_cons gw_104 (gI_cons gw_103 (gI_cons gw_102 (gI_cons gw_253 (gI_cons gw_252 (gI_cons gw_251 (gI_cons gw_250 (gI_cons gw_12 gI_nil))))))))))))))))))))))))
set_option maxRecDepth 20000 in
theorem k_wsX7_row_r2 : GoodIn lw_tbl wsX7_row_r2 := (gI_cons gw_262 (gI_cons gw_261 (gI_cons gw_260 (gI_cons gw_259 (gI_cons gw_258 (gI_cons gw_257 (gI_cons gw_256 (gI_cons gw_255 (gI_cons gw_254 (gI_cons gw_183 (gI_cons gw_182 (gI_cons gw_218 (gI_cons gw_217 (gI_cons gw_109 gI_nil))))))))))))))
set_option maxRecDepth 20000 in
theorem k_wsX7_row : GoodIn lw_tbl wsX7_row := (gI_cons gw_249 (goodIn_app (goodIn_app k_wsX7_row_r1 k_wsX7_row_r2) k_wsX70))
set_option maxRecDepth 20000 in
theorem k_wsX6_ring_r1 : GoodIn lw_tbl wsX6_ring_r1 := (gI_cons gw_1 (gI_cons gw_269 (gI_cons gw_268 (gI_cons gw_79 (gI_cons gw_78 (gI_cons gw_77 (gI_cons gw_267 (gI_cons gw_230 (gI_cons gw_229 (gI_cons gw_48 (gI_cons gw_47 (gI_cons gw_46 (gI_cons gw_3 (gI_cons gw_45 (gI_cons gw_7 (gI_cons gw_132 (gI_cons gw_131 (gI_cons gw_130 (gI_cons gw_129 (gI_cons gw_52 (gI_cons gw_44 (gI_cons gw_43 (gI_cons gw_42 (gI_cons gw_34 gI_nil))))))))))))))))))))))))
set_option maxRecDepth 20000 in
theorem k_wsX6_ring_r2 : GoodIn lw_tbl wsX6_ring_r2 := (gI_cons gw_33 (gI_cons gw_32 (gI_cons gw_76 (gI_cons gw_243 (gI_cons gw_242 (gI_cons gw_241 (gI_cons gw_49 (gI_cons gw_245 (gI_cons gw_64 (gI_cons gw_65 (gI_cons gw_63 (gI_cons gw_244 (gI_cons gw_150 (gI_cons gw_149 (gI_cons gw_148 (gI_cons gw_61 gI_nil))))))))))))))))
set_option maxRecDepth 20000 in
theorem k_wsX6_ring : GoodIn lw_tbl wsX6_ring := (gI_cons gw_266 (goodIn_app (goodIn_app (goodIn_app k_wsX6_ring_r1 k_wsX6_ring_r2) k_wsX10) k_wsX60))
set_option maxRecDepth 20000 in
theorem k_wsX7_ring_r1 : GoodIn lw_tbl wsX7_ring_r1 := (gI_cons gw_19 (gI_cons gw_110 (gI_cons gw_236 (gI_cons gw_235 (gI_cons gw_258 (gI_cons gw_108 (gI_cons gw_107 (gI_cons gw_106 (gI_cons gw_14 (gI_cons gw_105 (gI_cons gw_18 (gI_cons gw_195 (gI_cons gw_194 (gI_cons gw_193 (gI_cons gw_192 (gI_cons gw_91 (gI_cons gw_104 (gI_cons gw_103 (gI_cons gw_102 (gI_cons gw_253 (gI_cons gw_252 (gI_cons gw_251 (gI_cons gw_250 (gI_cons gw_12 gI_nil))))))))))))))))))))))))
set_option maxRecDepth 20000 in
theorem k_wsX7_ring_r2 : GoodIn lw_tbl wsX7_ring_r2 := (gI_cons gw_262 (gI_cons gw_261 (gI_cons gw_260 (gI_cons gw_259 (gI_cons gw_278 (gI_cons gw_277 (gI_cons gw_276 (gI_cons gw_275 (gI_cons gw_274 (gI_cons gw_257 (gI_cons gw_256 (gI_cons gw_255 (gI_cons gw_254 (gI_cons gw_111 (gI_cons gw_183 (gI_cons gw_182 (gI_cons gw_218 (gI_cons gw_217 (gI_cons gw_109 gI_nil)))))))))))))))))))
set_option maxRecDepth 20000 in
theorem k_wsX7_ring : GoodIn lw_tbl wsX7_ring := (gI_cons gw_273 (goodIn_app (goodIn_app k_wsX7_ring_r1 k_wsX7_ring_r2) k_wsX70))
set_option maxRecDepth 20000 in
theorem k_wsX6_behind_r1 : GoodIn lw_tbl wsX6_behind_r1 := (gI_cons gw_288 (gI_cons gw_287 (gI_cons gw_1 (gI_cons gw_230 (gI_cons gw_229 (gI_cons gw_48 (gI_cons gw_47 (gI_cons gw_46 (gI_cons gw_3 (gI_cons gw_45 (gI_cons gw_7 (gI_cons gw_132 (gI_cons gw_131 (gI_cons gw_130 (gI_cons gw_129 (gI_cons gw_52 (gI_cons gw_44 (gI_cons gw_43 (gI_cons gw_42 (gI_cons gw_286 (gI_cons gw_285 (gI_cons gw_284 (gI_cons gw_283 (gI_cons gw_34 gI_nil))))))))))))))))))))))))
set_option maxRecDepth 20000 in
theorem k_wsX6_behind_r2 : GoodIn lw_tbl wsX6_behind_r2 := (gI_cons gw_33 (gI_cons gw_32 (gI_cons gw_76 (gI_cons gw_306 (gI_cons gw_305 (gI_cons gw_304 (gI_cons gw_303 (gI_cons gw_302 (gI_cons gw_301 (gI_cons gw_300 (gI_cons gw_299 (gI_cons gw_298 (gI_cons gw_297 (gI_cons gw_296 (gI_cons gw_295 (gI_cons gw_82 (gI_cons gw_67 (gI_cons gw_81 (gI_cons gw_294 (gI_cons gw_293 (gI_cons gw_292 (gI_cons gw_291 (gI_cons gw_290 (gI_cons gw_289 gI_nil))))))))))))))))))))))))
set_option maxRecDepth 20000 in
theorem k_wsX6_behind_r3 : GoodIn lw_tbl wsX6_behind_r3 := (gI_cons gw_324 (gI_cons gw_323 (gI_cons gw_322 (gI_cons gw_321 (gI_cons gw_150 (gI_cons gw_149 (gI_cons gw_49 (gI_cons gw_148 (gI_cons gw_61 (gI_cons gw_320 (gI_cons gw_319 (gI_cons gw_318 (gI_cons gw_317 (gI_cons gw_316 (gI_cons gw_315 (gI_cons gw_314 (gI_cons gw_313 (gI_cons gw_312 (gI_cons gw_311 (gI_cons gw_310 (gI_cons gw_309 (gI_cons gw_308 (gI_cons gw_65 (gI_cons gw_307 gI_nil))))))))))))))))))))))))
set_option maxRecDepth 20000 in
theorem k_wsX6_behind_r4 : GoodIn lw_tbl wsX6_behind_r4 := (gI_cons gw_327 (gI_cons gw_326 (gI_cons gw_325 gI_nil)))
set_option maxRecDepth 20000 in
theorem k_wsX50 : GoodIn lw_tbl wsX50 := goodIn_r _ [93, 95, 97] (by decide +kernel) (by decide +kernel)
set_option maxRecDepth 20000 in
theorem k_wsX6_behind : GoodIn lw_tbl wsX6_behind := (gI_cons gw_282 (goodIn_app (goodIn_app (goodIn_app (goodIn_app k_wsX6_behind_r1 (goodIn_app k_wsX6_behind_r2 (goodIn_app k_wsX6_behind_r3 k_wsX6_behind_r4))) k_wsX10) k_wsX60) k_wsX50))
set_option maxRecDepth 20000 in
theorem k_wsX7_behind_r1 : GoodIn lw_tbl wsX7_behind_r1 := (gI_cons gw_19 (gI_cons gw_333 (gI_cons gw_332 (gI_cons gw_110 (gI_cons gw_111 (gI_cons gw_236 (gI_cons gw_235 (gI_cons gw_258 (gI_cons gw_108 (gI_cons gw_107 (gI_cons gw_106 (gI_cons gw_14 (gI_cons gw_105 (gI_cons gw_18 (gI_cons gw_195 (gI_cons gw_194 (gI_cons gw_193 (gI_cons gw_192 (gI_cons gw_91 (gI_cons gw_104 (gI_cons gw_103 (gI_cons gw_102 (gI_cons gw_253 (gI_cons gw_252 gI_nil))))))))))))))))))))))))
set_option maxRecDepth 20000 in
theorem k_wsX7_behind_r2 : GoodIn lw_tbl wsX7_behind_r2 := (gI_cons gw_251 (gI_cons gw_250 (gI_cons gw_12 (gI_cons gw_338 (gI_cons gw_337 (gI_cons gw_336 (gI_cons gw_335 (gI_cons gw_210 (gI_cons gw_209 (gI_cons gw_208 (gI_cons gw_207 (gI_cons gw_98 (gI_cons gw_97 (gI_cons gw_96 (gI_cons gw_183 (gI_cons gw_182 (gI_cons gw_218 (gI_cons gw_217 (gI_cons gw_109 (gI_cons gw_198 (gI_cons gw_197 (gI_cons gw_196 (gI_cons gw_223 (gI_cons gw_334 gI_nil))))))))))))))))))))))))
set_option maxRecDepth 20000 in
theorem k_wsX7_behind_r3 : GoodIn lw_tbl wsX7_behind_r3 := (gI_cons gw_341 (gI_cons gw_340 (gI_cons gw_339 gI_nil)))
set_option maxRecDepth 20000 in
theorem k_wsX7_behind : GoodIn lw_tbl wsX7_behind := (gI_cons gw_331 (goodIn_app (goodIn_app k_wsX7_behind_r1 (goodIn_app k_wsX7_behind_r2 k_wsX7_behind_r3)) k_wsX70))
set_option maxRecDepth 20000 in
theorem k_wsX6_ringsBehind_r1 : GoodIn lw_tbl wsX6_ringsBehind_r1 := (gI_cons gw_288 (gI_cons gw_287 (gI_cons gw_1 (gI_cons gw_230 (gI_cons gw_229 (gI_cons gw_48 (gI_cons gw_47 (gI_cons gw_46 (gI_cons gw_3 (gI_cons gw_45 (gI_cons gw_7 (gI_cons gw_132 (gI_cons gw_131 (gI_cons gw_130 (gI_cons gw_129 (gI_cons gw_52 (gI_cons gw_44 (gI_cons gw_43 (gI_cons gw_42 (gI_cons gw_286 (gI_cons gw_285 (gI_cons gw_284 (gI_cons gw_283 (gI_cons gw_34 gI_nil))))))))))))))))))))))))
set_option maxRecDepth 20000 in
theorem k_wsX6_ringsBehind_r2 : GoodIn lw_tbl wsX6_ringsBehind_r2 := (gI_cons gw_33 (gI_cons gw_32 (gI_cons gw_76 (gI_cons gw_349 (gI_cons gw_348 (gI_cons gw_347 (gI_cons gw_303 (gI_cons gw_346 (gI_cons gw_301 (gI_cons gw_300 (gI_cons gw_299 (gI_cons gw_298 (gI_cons gw_297 (gI_cons gw_296 (gI_cons gw_295 (gI_cons gw_82 (gI_cons gw_67 (gI_cons gw_81 (gI_cons gw_294 (gI_cons gw_293 (gI_cons gw_292 (gI_cons gw_291 (gI_cons gw_290 (gI_cons gw_289 gI_nil))))))))))))))))))))))))
set_option maxRecDepth 20000 in
theorem k_wsX6_ringsBehind_r3 : GoodIn lw_tbl wsX6_ringsBehind_r3 := (gI_cons gw_324 (gI_cons gw_323 (gI_cons gw_322 (gI_cons gw_321 (gI_cons gw_150 (gI_cons gw_149 (gI_cons gw_49 (gI_cons gw_148 (gI_cons gw_61 (gI_cons gw_320 (gI_cons gw_319 (gI_cons gw_318 (gI_cons gw_317 (gI_cons gw_316 (gI_cons gw_315 (gI_cons gw_314 (gI_cons gw_313 (gI_cons gw_312 (gI_cons gw_311 (gI_cons gw_310 (gI_cons gw_309 (gI_cons gw_308 (gI_cons gw_65 (gI_cons gw_307 gI_nil))))))))))))))))))))))))
set_option maxRecDepth 20000 in
theorem k_wsX6_ringsBehind_r4 : GoodIn lw_tbl wsX6_ringsBehind_r4 := (gI_cons gw_327 (gI_cons gw_326 (gI_cons gw_325 gI_nil)))
set_option maxRecDepth 20000 in
theorem k_wsX6_ringsBehind : GoodIn lw_tbl wsX6_ringsBehind := (gI_cons gw_345 (goodIn_app (goodIn_app (goodIn_app (goodIn_app k_wsX6_ringsBehind_r1 (goodIn_app k_wsX6_ringsBehind_r2 (goodIn_app k_wsX6_ringsBehind_r3 k_wsX6_ringsBehind_r4))) k_wsX10) k_wsX60) k_wsX50))
set_option maxRecDepth 20000 in
theorem k_wsX7_ringsBehind_r1 : GoodIn lw_tbl wsX7_ringsBehind_r1 := (gI_cons gw_19 (gI_cons gw_333 (gI_cons gw_332 (gI_cons gw_110 (gI_cons gw_236 (gI_cons gw_235 (gI_cons gw_258 (gI_cons gw_108 (gI_cons gw_107 (gI_cons gw_106 (gI_cons gw_14 (gI_cons gw_105 (gI_cons gw_18 (gI_cons gw_195 (gI_cons gw_194 (gI_cons gw_193 (gI_cons gw_192 (gI_cons gw_91 (gI_cons gw_104 (gI_cons gw_103 (gI_cons gw_102 (gI_cons gw_253 (gI_cons gw_252 (gI_cons gw_251 gI_nil))))))))))))))))))))))))
set_option maxRecDepth 20000 in
theorem k_wsX7_ringsBehind_r2 : GoodIn lw_tbl wsX7_ringsBehind_r2 := (gI_cons gw_250 (gI_cons gw_12 (gI_cons gw_210 (gI_cons gw_209 (gI_cons gw_208 (gI_cons gw_207 (gI_cons gw_111 (gI_cons gw_98 (gI_cons gw_97 (gI_cons gw_96 (gI_cons gw_338 (gI_cons gw_337 (gI_cons gw_336 (gI_cons gw_335 (gI_cons gw_183 (gI_cons gw_182 (gI_cons gw_218 (gI_cons gw_217 (gI_cons gw_109 (gI_cons gw_198 (gI_cons gw_197 (gI_cons gw_196 (gI_cons gw_223 (gI_cons gw_334 gI_nil))))))))))))))))))))))))
set_option maxRecDepth 20000 in
theorem k_wsX7_ringsBehind_r3 : GoodIn lw_tbl wsX7_ringsBehind_r3 := (gI_cons gw_341 (gI_cons gw_340 (gI_cons gw_339 gI_nil)))
set_option maxRecDepth 20000 in
theorem k_wsX7_ringsBehind : GoodIn lw_tbl wsX7_ringsBehind := (gI_cons gw_353 (goodIn_app (goodIn_app k_wsX7_ringsBehind_r1 (goodIn_app k_wsX7_ringsBehind_r2 k_wsX7_ringsBehind_r3)) k_wsX70))
set_option maxRecDepth 20000 in
theorem k_wsX6_missed_r1 : GoodIn lw_tbl wsX6_missed_r1 := (gI_cons gw_134 (gI_cons gw_230 (gI_cons gw_229 (gI_cons gw_132 (gI_cons gw_131 (gI_cons gw_130 (gI_cons gw_3 (gI_cons gw_129 (gI_cons gw_52 (gI_cons gw_44 (gI_cons gw_43 (gI_cons gw_42 (gI_cons gw_128 (gI_cons gw_127 (gI_cons gw_126 (gI_cons gw_125 (gI_cons gw_124 (gI_cons gw_123 (gI_cons gw_122 (gI_cons gw_121 (gI_cons gw_120 (gI_cons gw_119 (gI_cons gw_118 (gI_cons gw_117 gI_nil))))))))))))))))))))))))
set_option maxRecDepth 20000 in
theorem k_wsX6_missed_r2 : GoodIn lw_tbl wsX6_missed_r2 := (gI_cons gw_116 (gI_cons gw_155 (gI_cons gw_154 (gI_cons gw_153 (gI_cons gw_58 (gI_cons gw_152 (gI_cons gw_151 (gI_cons gw_150 (gI_cons gw_149 (gI_cons gw_49 (gI_cons gw_148 (gI_cons gw_61 (gI_cons gw_147 (gI_cons gw_146 (gI_cons gw_145 (gI_cons gw_144 (gI_cons gw_362 (gI_cons gw_361 (gI_cons gw_360 (gI_cons gw_359 (gI_cons gw_358 (gI_cons gw_82 (gI_cons gw_67 (gI_cons gw_81 gI_nil))))))))))))))))))))))))
set_option maxRecDepth 20000 in
theorem k_wsX6_missed_r3 : GoodIn lw_tbl wsX6_missed_r3 := (gI_cons gw_366 (gI_cons gw_365 (gI_cons gw_364 (gI_cons gw_363 gI_nil))))
set_option maxRecDepth 20000 in
theorem k_wsX6_missed : GoodIn lw_tbl wsX6_missed := (gI_cons gw_357 (goodIn_app (goodIn_app (goodIn_app (goodIn_app k_wsX6_missed_r1 (goodIn_app k_wsX6_missed_r2 k_wsX6_missed_r3)) k_wsX60) k_wsX10) k_wsX20))
set_option maxRecDepth 20000 in
theorem k_wsX7_missed_r1 : GoodIn lw_tbl wsX7_missed_r1 := (gI_cons gw_19 (gI_cons gw_374 (gI_cons gw_373 (gI_cons gw_91 (gI_cons gw_372 (gI_cons gw_371 (gI_cons gw_195 (gI_cons gw_194 (gI_cons gw_193 (gI_cons gw_14 (gI_cons gw_192 (gI_cons gw_104 (gI_cons gw_103 (gI_cons gw_102 (gI_cons gw_210 (gI_cons gw_209 (gI_cons gw_208 (gI_cons gw_207 (gI_cons gw_111 (gI_cons gw_98 (gI_cons gw_97 (gI_cons gw_96 (gI_cons gw_183 (gI_cons gw_182 gI_nil))))))))))))))))))))))))
set_option maxRecDepth 20000 in
theorem k_wsX7_missed_r2 : GoodIn lw_tbl wsX7_missed_r2 := (gI_cons gw_218 (gI_cons gw_217 (gI_cons gw_109 (gI_cons gw_198 (gI_cons gw_197 (gI_cons gw_196 (gI_cons gw_223 (gI_cons gw_378 (gI_cons gw_377 (gI_cons gw_376 (gI_cons gw_375 (gI_cons gw_236 (gI_cons gw_235 gI_nil)))))))))))))
set_option maxRecDepth 20000 in
theorem k_wsX7_missed : GoodIn lw_tbl wsX7_missed := (gI_cons gw_370 (goodIn_app (goodIn_app k_wsX7_missed_r1 k_wsX7_missed_r2) k_wsX70))
set_option maxRecDepth 20000 in
theorem k_wsX6_back_r1 : GoodIn lw_tbl wsX6_back_r1 := (gI_cons gw_52 (gI_cons gw_51 (gI_cons gw_50 (gI_cons gw_49 (gI_cons gw_387 (gI_cons gw_132 (gI_cons gw_131 (gI_cons gw_130 (gI_cons gw_3 (gI_cons gw_129 (gI_cons gw_44 (gI_cons gw_43 (gI_cons gw_42 (gI_cons gw_41 (gI_cons gw_40 (gI_cons gw_39 (gI_cons gw_38 (gI_cons gw_386 (gI_cons gw_385 (gI_cons gw_384 (gI_cons gw_383 (gI_cons gw_269 (gI_cons gw_267 (gI_cons gw_37 gI_nil))))))))))))))))))))))))
set_option maxRecDepth 20000 in
theorem k_wsX6_back_r2 : GoodIn lw_tbl wsX6_back_r2 := (gI_cons gw_36 (gI_cons gw_35 (gI_cons gw_389 (gI_cons gw_153 (gI_cons gw_58 (gI_cons gw_152 (gI_cons gw_388 (gI_cons gw_311 (gI_cons gw_310 (gI_cons gw_309 (gI_cons gw_308 (gI_cons gw_82 (gI_cons gw_67 (gI_cons gw_81 (gI_cons gw_65 (gI_cons gw_243 (gI_cons gw_242 (gI_cons gw_241 (gI_cons gw_245 (gI_cons gw_64 (gI_cons gw_63 (gI_cons gw_244 (gI_cons gw_150 (gI_cons gw_149 gI_nil))))))))))))))))))))))))
set_option maxRecDepth 20000 in
theorem k_wsX6_back_r3 : GoodIn lw_tbl wsX6_back_r3 := (gI_cons gw_148 (gI_cons gw_61 (gI_cons gw_75 (gI_cons gw_74 (gI_cons gw_73 (gI_cons gw_72 (gI_cons gw_71 (gI_cons gw_70 (gI_cons gw_69 (gI_cons gw_68 (gI_cons gw_66 (gI_cons gw_62 (gI_cons gw_60 (gI_cons gw_59 (gI_cons gw_57 (gI_cons gw_56 (gI_cons gw_55 (gI_cons gw_54 (gI_cons gw_53 (gI_cons gw_86 (gI_cons gw_85 (gI_cons gw_84 (gI_cons gw_83 (gI_cons gw_80 gI_nil))))))))))))))))))))))))
set_option maxRecDepth 20000 in
theorem k_wsX6_back_r4 : GoodIn lw_tbl wsX6_back_r4 := (gI_cons gw_79 (gI_cons gw_78 (gI_cons gw_77 gI_nil)))
set_option maxRecDepth 20000 in
theorem k_wsX6_back : GoodIn lw_tbl wsX6_back := (gI_cons gw_382 (goodIn_app (goodIn_app (goodIn_app k_wsX6_back_r1 (goodIn_app k_wsX6_back_r2 (goodIn_app k_wsX6_back_r3 k_wsX6_back_r4))) k_wsX10) k_wsX60))
set_option maxRecDepth 20000 in
theorem k_wsX7_back_r1 : GoodIn lw_tbl wsX7_back_r1 := (gI_cons gw_19 (gI_cons gw_91 (gI_cons gw_111 (gI_cons gw_195 (gI_cons gw_194 (gI_cons gw_193 (gI_cons gw_14 (gI_cons gw_192 (gI_cons gw_104 (gI_cons gw_103 (gI_cons gw_102 (gI_cons gw_101 (gI_cons gw_100 (gI_cons gw_99 (gI_cons gw_398 (gI_cons gw_397 (gI_cons gw_396 (gI_cons gw_395 (gI_cons gw_394 (gI_cons gw_109 (gI_cons gw_98 (gI_cons gw_97 (gI_cons gw_96 (gI_cons gw_183 gI_nil))))))))))))))))))))))))
set_option maxRecDepth 20000 in
theorem k_wsX7_back_r2 : GoodIn lw_tbl wsX7_back_r2 := (gI_cons gw_182 (gI_cons gw_218 (gI_cons gw_217 (gI_cons gw_95 (gI_cons gw_94 (gI_cons gw_93 (gI_cons gw_92 gI_nil)))))))
set_option maxRecDepth 20000 in
theorem k_wsX7_back : GoodIn lw_tbl wsX7_back := (gI_cons gw_393 (goodIn_app (goodIn_app k_wsX7_back_r1 k_wsX7_back_r2) k_wsX70))
set_option maxRecDepth 20000 in
theorem k_wsX6_height_r1 : GoodIn lw_tbl wsX6_height_r1 := (gI_cons gw_407 (gI_cons gw_406 (gI_cons gw_405 (gI_cons gw_404 (gI_cons gw_1 (gI_cons gw_403 (gI_cons gw_48 (gI_cons gw_47 (gI_cons gw_46 (gI_cons gw_3 (gI_cons gw_45 (gI_cons gw_7 (gI_cons gw_132 (gI_cons gw_131 (gI_cons gw_130 (gI_cons gw_129 (gI_cons gw_52 (gI_cons gw_44 (gI_cons gw_43 (gI_cons gw_42 (gI_cons gw_286 (gI_cons gw_285 (gI_cons gw_284 (gI_cons gw_283 gI_nil))))))))))))))))))))))))
set_option maxRecDepth 20000 in
theorem k_wsX6_height_r2 : GoodIn lw_tbl wsX6_height_r2 := (gI_cons gw_34 (gI_cons gw_33 (gI_cons gw_32 (gI_cons gw_76 (gI_cons gw_424 (gI_cons gw_423 (gI_cons gw_422 (gI_cons gw_421 (gI_cons gw_71 (gI_cons gw_70 (gI_cons gw_420 (gI_cons gw_419 (gI_cons gw_84 (gI_cons gw_418 (gI_cons gw_417 (gI_cons gw_416 (gI_cons gw_415 (gI_cons gw_414 (gI_cons gw_413 (gI_cons gw_412 (gI_cons gw_411 (gI_cons gw_410 (gI_cons gw_409 (gI_cons gw_408 gI_nil))))))))))))))))))))))))
set_option maxRecDepth 20000 in
theorem k_wsX6_height_r3 : GoodIn lw_tbl wsX6_height_r3 := (gI_cons gw_434 (gI_cons gw_433 (gI_cons gw_242 (gI_cons gw_241 (gI_cons gw_49 (gI_cons gw_245 (gI_cons gw_64 (gI_cons gw_65 (gI_cons gw_63 (gI_cons gw_244 (gI_cons gw_150 (gI_cons gw_149 (gI_cons gw_148 (gI_cons gw_61 (gI_cons gw_432 (gI_cons gw_431 (gI_cons gw_430 (gI_cons gw_429 (gI_cons gw_428 (gI_cons gw_427 (gI_cons gw_426 (gI_cons gw_425 gI_nil))))))))))))))))))))))
set_option maxRecDepth 20000 in
theorem k_wsX40 : GoodIn lw_tbl wsX40 := goodIn_r _ [432, 434, 436, 438] (by decide +kernel) (by decide +kernel)
set_option maxRecDepth 20000 in
theorem k_wsX6_height : GoodIn lw_tbl wsX6_height := (gI_cons gw_402 (goodIn_app (goodIn_app (goodIn_app (goodIn_app k_wsX6_height_r1 (goodIn_app k_wsX6_height_r2 k_wsX6_height_r3)) k_wsX10) k_wsX60) k_wsX40))
set_option maxRecDepth 20000 in
theorem k_wsX7_height_r1 : GoodIn lw_tbl wsX7_height_r1 := (gI_cons gw_19 (gI_cons gw_444 (gI_cons gw_443 (gI_cons gw_110 (gI_cons gw_442 (gI_cons gw_441 (gI_cons gw_440 (gI_cons gw_439 (gI_cons gw_108 (gI_cons gw_107 (gI_cons gw_106 (gI_cons gw_14 (gI_cons gw_105 (gI_cons gw_18 (gI_cons gw_195 (gI_cons gw_194 (gI_cons gw_193 (gI_cons gw_192 (gI_cons gw_91 (gI_cons gw_104 (gI_cons gw_103 (gI_cons gw_102 (gI_cons gw_253 (gI_cons gw_252 gI_nil))))))))))))))))))))))))
set_option maxRecDepth 20000 in
theorem k_wsX7_height_r2 : GoodIn lw_tbl wsX7_height_r2 := (gI_cons gw_251 (gI_cons gw_250 (gI_cons gw_12 (gI_cons gw_262 (gI_cons gw_261 (gI_cons gw_260 (gI_cons gw_259 (gI_cons gw_258 (gI_cons gw_448 (gI_cons gw_447 (gI_cons gw_446 (gI_cons gw_445 (gI_cons gw_278 (gI_cons gw_277 (gI_cons gw_276 (gI_cons gw_275 (gI_cons gw_274 (gI_cons gw_257 (gI_cons gw_256 (gI_cons gw_255 (gI_cons gw_254 (gI_cons gw_111 (gI_cons gw_183 (gI_cons gw_182 gI_nil))))))))))))))))))))))))
set_option maxRecDepth 20000 in
theorem k_wsX7_height_r3 : GoodIn lw_tbl wsX7_height_r3 := (gI_cons gw_218 (gI_cons gw_217 (gI_cons gw_109 gI_nil)))
set_option maxRecDepth 20000 in
theorem k_wsX7_height : GoodIn lw_tbl wsX7_height := (gI_cons gw_438 (goodIn_app (goodIn_app k_wsX7_height_r1 (goodIn_app k_wsX7_height_r2 k_wsX7_height_r3)) k_wsX70))
set_option maxRecDepth 20000 in
theorem k_wsX6_round : GoodIn lw_tbl wsX6_round := (gI_cons gw_452 (goodIn_app (gI_cons gw_403 gI_nil) k_wsX60))
set_option maxRecDepth 20000 in
theorem k_wsX7_round : GoodIn lw_tbl wsX7_round := (gI_cons gw_456 (goodIn_app (gI_cons gw_19 (gI_cons gw_439 gI_nil)) k_wsX70))
set_option maxRecDepth 20000 in
theorem k_wsX6_all_r1 : GoodIn lw_tbl wsX6_all_r1 := (gI_cons gw_472 (gI_cons gw_471 (gI_cons gw_470 (gI_cons gw_469 (gI_cons gw_132 (gI_cons gw_131 (gI_cons gw_130 (gI_cons gw_3 (gI_cons gw_129 (gI_cons gw_52 (gI_cons gw_44 (gI_cons gw_43 (gI_cons gw_42 (gI_cons gw_468 (gI_cons gw_467 (gI_cons gw_466 (gI_cons gw_465 (gI_cons gw_464 (gI_cons gw_463 (gI_cons gw_462 (gI_cons gw_71 (gI_cons gw_70 (gI_cons gw_84 (gI_cons gw_461 gI_nil))))))))))))))))))))))))
set_option maxRecDepth 20000 in
theorem k_wsX6_all_r2 : GoodIn lw_tbl wsX6_all_r2 := (gI_cons gw_490 (gI_cons gw_489 (gI_cons gw_488 (gI_cons gw_487 (gI_cons gw_486 (gI_cons gw_485 (gI_cons gw_484 (gI_cons gw_483 (gI_cons gw_482 (gI_cons gw_481 (gI_cons gw_480 (gI_cons gw_479 (gI_cons gw_478 (gI_cons gw_477 (gI_cons gw_476 (gI_cons gw_475 (gI_cons gw_474 (gI_cons gw_153 (gI_cons gw_58 (gI_cons gw_152 (gI_cons gw_473 (gI_cons gw_311 (gI_cons gw_310 (gI_cons gw_49 gI_nil))))))))))))))))))))))))
set_option maxRecDepth 20000 in
theorem k_wsX6_all_r3 : GoodIn lw_tbl wsX6_all_r3 := (gI_cons gw_309 (gI_cons gw_308 (gI_cons gw_82 (gI_cons gw_67 (gI_cons gw_81 (gI_cons gw_65 (gI_cons gw_498 (gI_cons gw_242 (gI_cons gw_241 (gI_cons gw_245 (gI_cons gw_64 (gI_cons gw_63 (gI_cons gw_244 (gI_cons gw_150 (gI_cons gw_149 (gI_cons gw_148 (gI_cons gw_61 (gI_cons gw_497 (gI_cons gw_496 (gI_cons gw_495 (gI_cons gw_494 (gI_cons gw_493 (gI_cons gw_492 (gI_cons gw_491 gI_nil))))))))))))))))))))))))
set_option maxRecDepth 20000 in
theorem k_wsX6_all_r4 : GoodIn lw_tbl wsX6_all_r4 := (gI_cons gw_512 (gI_cons gw_511 (gI_cons gw_510 (gI_cons gw_509 (gI_cons gw_508 (gI_cons gw_68 (gI_cons gw_66 (gI_cons gw_507 (gI_cons gw_506 (gI_cons gw_505 (gI_cons gw_504 (gI_cons gw_503 (gI_cons gw_502 (gI_cons gw_501 (gI_cons gw_500 (gI_cons gw_499 gI_nil))))))))))))))))
set_option maxRecDepth 20000 in
theorem k_wsX30 : GoodIn lw_tbl wsX30 := goodIn_r _ [490, 492, 494, 496, 498, 500, 502, 504, 506, 508, 510, 512, 514] (by decide +kernel) (by decide +kernel)
set_option maxRecDepth 20000 in
theorem k_wsX6_all : GoodIn lw_tbl wsX6_all := (gI_cons gw_460 (goodIn_app (goodIn_app (goodIn_app (goodIn_app k_wsX6_all_r1 (goodIn_app k_wsX6_all_r2 (goodIn_app k_wsX6_all_r3 k_wsX6_all_r4))) k_wsX10) k_wsX60) k_wsX30))
set_option maxRecDepth 20000 in
theorem k_wsX7_all_r1 : GoodIn lw_tbl wsX7_all_r1 := (gI_cons gw_19 (gI_cons gw_91 (gI_cons gw_520 (gI_cons gw_258 (gI_cons gw_519 (gI_cons gw_518 (gI_cons gw_517 (gI_cons gw_195 (gI_cons gw_194 (gI_cons gw_193 (gI_cons gw_14 (gI_cons gw_192 (gI_cons gw_104 (gI_cons gw_103 (gI_cons gw_102 (gI_cons gw_98 (gI_cons gw_97 (gI_cons gw_96 (gI_cons gw_278 (gI_cons gw_277 (gI_cons gw_276 (gI_cons gw_275 (gI_cons gw_274 (gI_cons gw_257 gI_nil))))))))))))))))))))))))
set_option maxRecDepth 20000 in
theorem k_wsX7_all_r2 : GoodIn lw_tbl wsX7_all_r2 := (gI_cons gw_256 (gI_cons gw_255 (gI_cons gw_254 (gI_cons gw_111 (gI_cons gw_183 (gI_cons gw_182 (gI_cons gw_218 (gI_cons gw_217 (gI_cons gw_109 (gI_cons gw_448 (gI_cons gw_447 (gI_cons gw_446 (gI_cons gw_445 gI_nil)))))))))))))
set_option maxRecDepth 20000 in
theorem k_wsX7_all : GoodIn lw_tbl wsX7_all := (gI_cons gw_516 (goodIn_app (goodIn_app k_wsX7_all_r1 k_wsX7_all_r2) k_wsX70))
set_option maxRecDepth 20000 in
theorem k_wsX6_keeps_r1 : GoodIn lw_tbl wsX6_keeps_r1 := (gI_cons gw_269 (gI_cons gw_1 (gI_cons gw_48 (gI_cons gw_47 (gI_cons gw_46 (gI_cons gw_3 (gI_cons gw_45 (gI_cons gw_7 (gI_cons gw_132 (gI_cons gw_131 (gI_cons gw_130 (gI_cons gw_129 (gI_cons gw_52 (gI_cons gw_44 (gI_cons gw_43 (gI_cons gw_42 (gI_cons gw_528 (gI_cons gw_527 (gI_cons gw_526 (gI_cons gw_49 (gI_cons gw_525 (gI_cons gw_62 (gI_cons gw_65 (gI_cons gw_63 gI_nil))))))))))))))))))))))))
set_option maxRecDepth 20000 in
theorem k_wsX6_keeps_r2 : GoodIn lw_tbl wsX6_keeps_r2 := (gI_cons gw_536 (gI_cons gw_535 (gI_cons gw_534 (gI_cons gw_533 (gI_cons gw_64 (gI_cons gw_69 (gI_cons gw_68 (gI_cons gw_67 (gI_cons gw_66 (gI_cons gw_532 (gI_cons gw_531 (gI_cons gw_530 (gI_cons gw_529 (gI_cons gw_244 (gI_cons gw_150 (gI_cons gw_149 (gI_cons gw_148 (gI_cons gw_61 gI_nil))))))))))))))))))
set_option maxRecDepth 20000 in
theorem k_wsX6_keeps : GoodIn lw_tbl wsX6_keeps := (gI_cons gw_524 (goodIn_app (goodIn_app (goodIn_app k_wsX6_keeps_r1 k_wsX6_keeps_r2) k_wsX10) k_wsX60))
set_option maxRecDepth 20000 in
theorem k_wsX7_keeps_r1 : GoodIn lw_tbl wsX7_keeps_r1 := (gI_cons gw_19 (gI_cons gw_110 (gI_cons gw_91 (gI_cons gw_541 (gI_cons gw_111 (gI_cons gw_108 (gI_cons gw_107 (gI_cons gw_106 (gI_cons gw_14 (gI_cons gw_105 (gI_cons gw_18 (gI_cons gw_195 (gI_cons gw_194 (gI_cons gw_193 (gI_cons gw_192 (gI_cons gw_104 (gI_cons gw_103 (gI_cons gw_102 (gI_cons gw_210 (gI_cons gw_209 (gI_cons gw_208 (gI_cons gw_207 (gI_cons gw_98 (gI_cons gw_97 gI_nil))))))))))))))))))))))))
set_option maxRecDepth 20000 in
theorem k_wsX7_keeps_r2 : GoodIn lw_tbl wsX7_keeps_r2 := (gI_cons gw_96 (gI_cons gw_545 (gI_cons gw_544 (gI_cons gw_543 (gI_cons gw_542 (gI_cons gw_12 (gI_cons gw_183 (gI_cons gw_182 (gI_cons gw_218 (gI_cons gw_217 (gI_cons gw_109 (gI_cons gw_198 (gI_cons gw_197 (gI_cons gw_196 (gI_cons gw_223 gI_nil)))))))))))))))
set_option maxRecDepth 20000 in
theorem k_wsX7_keeps : GoodIn lw_tbl wsX7_keeps := (gI_cons gw_540 (goodIn_app (goodIn_app k_wsX7_keeps_r1 k_wsX7_keeps_r2) k_wsX70))
set_option maxRecDepth 20000 in
theorem k_wsX6_join_r1 : GoodIn lw_tbl wsX6_join_r1 := (gI_cons gw_387 (gI_cons gw_269 (gI_cons gw_267 (gI_cons gw_52 (gI_cons gw_51 (gI_cons gw_50 (gI_cons gw_49 (gI_cons gw_132 (gI_cons gw_131 (gI_cons gw_130 (gI_cons gw_3 (gI_cons gw_129 (gI_cons gw_44 (gI_cons gw_43 (gI_cons gw_42 (gI_cons gw_41 (gI_cons gw_40 (gI_cons gw_39 (gI_cons gw_38 (gI_cons gw_37 (gI_cons gw_36 (gI_cons gw_35 (gI_cons gw_388 (gI_cons gw_311 gI_nil))))))))))))))))))))))))
set_option maxRecDepth 20000 in
theorem k_wsX6_join_r2 : GoodIn lw_tbl wsX6_join_r2 := (gI_cons gw_310 (gI_cons gw_309 (gI_cons gw_308 (gI_cons gw_82 (gI_cons gw_67 (gI_cons gw_81 (gI_cons gw_65 (gI_cons gw_243 (gI_cons gw_242 (gI_cons gw_241 (gI_cons gw_245 (gI_cons gw_64 (gI_cons gw_63 (gI_cons gw_244 (gI_cons gw_150 (gI_cons gw_149 (gI_cons gw_148 (gI_cons gw_61 (gI_cons gw_228 (gI_cons gw_75 (gI_cons gw_74 (gI_cons gw_73 (gI_cons gw_72 (gI_cons gw_71 gI_nil))))))))))))))))))))))))
set_option maxRecDepth 20000 in
theorem k_wsX6_join_r3 : GoodIn lw_tbl wsX6_join_r3 := (gI_cons gw_70 (gI_cons gw_69 (gI_cons gw_68 (gI_cons gw_66 (gI_cons gw_62 (gI_cons gw_60 (gI_cons gw_59 (gI_cons gw_58 (gI_cons gw_57 (gI_cons gw_56 (gI_cons gw_55 (gI_cons gw_54 (gI_cons gw_53 (gI_cons gw_86 (gI_cons gw_85 (gI_cons gw_84 (gI_cons gw_83 (gI_cons gw_80 (gI_cons gw_79 (gI_cons gw_78 (gI_cons gw_77 gI_nil)))))))))))))))))))))
set_option maxRecDepth 20000 in
theorem k_wsX6_join : GoodIn lw_tbl wsX6_join := (gI_cons gw_549 (goodIn_app (goodIn_app (goodIn_app k_wsX6_join_r1 (goodIn_app k_wsX6_join_r2 k_wsX6_join_r3)) k_wsX10) k_wsX60))
set_option maxRecDepth 20000 in
theorem k_wsX7_join_r1 : GoodIn lw_tbl wsX7_join_r1 := (gI_cons gw_19 (gI_cons gw_91 (gI_cons gw_111 (gI_cons gw_109 (gI_cons gw_195 (gI_cons gw_194 (gI_cons gw_193 (gI_cons gw_14 (gI_cons gw_192 (gI_cons gw_104 (gI_cons gw_103 (gI_cons gw_102 (gI_cons gw_101 (gI_cons gw_100 (gI_cons gw_99 (gI_cons gw_98 (gI_cons gw_97 (gI_cons gw_96 (gI_cons gw_183 (gI_cons gw_182 (gI_cons gw_218 (gI_cons gw_217 (gI_cons gw_95 (gI_cons gw_94 gI_nil))))))))))))))))))))))))
set_option maxRecDepth 20000 in
theorem k_wsX7_join_r2 : GoodIn lw_tbl wsX7_join_r2 := (gI_cons gw_93 (gI_cons gw_92 gI_nil))
set_option maxRecDepth 20000 in
theorem k_wsX7_join : GoodIn lw_tbl wsX7_join := (gI_cons gw_553 (goodIn_app (goodIn_app k_wsX7_join_r1 k_wsX7_join_r2) k_wsX70))
set_option maxRecDepth 20000 in
theorem k_wsX6_mirror_r1 : GoodIn lw_tbl wsX6_mirror_r1 := (gI_cons gw_387 (gI_cons gw_52 (gI_cons gw_51 (gI_cons gw_50 (gI_cons gw_49 (gI_cons gw_132 (gI_cons gw_131 (gI_cons gw_130 (gI_cons gw_3 (gI_cons gw_129 (gI_cons gw_44 (gI_cons gw_43 (gI_cons gw_42 (gI_cons gw_561 (gI_cons gw_560 (gI_cons gw_559 (gI_cons gw_558 (gI_cons gw_64 (gI_cons gw_65 (gI_cons gw_228 (gI_cons gw_150 (gI_cons gw_149 (gI_cons gw_148 (gI_cons gw_61 gI_nil))))))))))))))))))))))))
set_option maxRecDepth 20000 in
theorem k_wsX6_mirror_r2 : GoodIn lw_tbl wsX6_mirror_r2 := (gI_cons gw_75 (gI_cons gw_74 (gI_cons gw_73 (gI_cons gw_72 (gI_cons gw_71 (gI_cons gw_70 (gI_cons gw_69 (gI_cons gw_68 (gI_cons gw_67 (gI_cons gw_66 (gI_cons gw_63 (gI_cons gw_62 (gI_cons gw_36 (gI_cons gw_35 (gI_cons gw_60 (gI_cons gw_59 (gI_cons gw_58 (gI_cons gw_57 (gI_cons gw_56 (gI_cons gw_55 (gI_cons gw_54 (gI_cons gw_53 (gI_cons gw_86 (gI_cons gw_85 gI_nil))))))))))))))))))))))))
set_option maxRecDepth 20000 in
theorem k_wsX6_mirror_r3 : GoodIn lw_tbl wsX6_mirror_r3 := (gI_cons gw_84 (gI_cons gw_83 (gI_cons gw_82 (gI_cons gw_81 (gI_cons gw_80 (gI_cons gw_79 (gI_cons gw_78 (gI_cons gw_77 gI_nil))))))))
set_option maxRecDepth 20000 in
theorem k_wsX6_mirror : GoodIn lw_tbl wsX6_mirror := (gI_cons gw_557 (goodIn_app (goodIn_app (goodIn_app k_wsX6_mirror_r1 (goodIn_app k_wsX6_mirror_r2 k_wsX6_mirror_r3)) k_wsX10) k_wsX60))
set_option maxRecDepth 20000 in
theorem k_wsX7_mirror : GoodIn lw_tbl wsX7_mirror := (gI_cons gw_565 (goodIn_app (gI_cons gw_19 (gI_cons gw_91 (gI_cons gw_111 (gI_cons gw_109 (gI_cons gw_195 (gI_cons gw_194 (gI_cons gw_193 (gI_cons gw_14 (gI_cons gw_192 (gI_cons gw_104 (gI_cons gw_103 (gI_cons gw_102 (gI_cons gw_98 (gI_cons gw_97 (gI_cons gw_96 (gI_cons gw_183 (gI_cons gw_182 (gI_cons gw_218 (gI_cons gw_217 (gI_cons gw_95 (gI_cons gw_94 (gI_cons gw_93 (gI_cons gw_92 gI_nil))))))))))))))))))))))) k_wsX70))
set_option maxRecDepth 20000 in
theorem k_wsX6_rename_r1 : GoodIn lw_tbl wsX6_rename_r1 := (gI_cons gw_387 (gI_cons gw_1 (gI_cons gw_52 (gI_cons gw_51 (gI_cons gw_50 (gI_cons gw_49 (gI_cons gw_48 (gI_cons gw_47 (gI_cons gw_46 (gI_cons gw_3 (gI_cons gw_45 (gI_cons gw_7 (gI_cons gw_132 (gI_cons gw_131 (gI_cons gw_130 (gI_cons gw_129 (gI_cons gw_44 (gI_cons gw_43 (gI_cons gw_42 (gI_cons gw_574 (gI_cons gw_573 (gI_cons gw_572 (gI_cons gw_571 (gI_cons gw_570 gI_nil))))))))))))))))))))))))
set_option maxRecDepth 20000 in
theorem k_wsX6_rename_r2 : GoodIn lw_tbl wsX6_rename_r2 := (gI_cons gw_581 (gI_cons gw_580 (gI_cons gw_579 (gI_cons gw_64 (gI_cons gw_65 (gI_cons gw_228 (gI_cons gw_150 (gI_cons gw_149 (gI_cons gw_148 (gI_cons gw_61 (gI_cons gw_578 (gI_cons gw_577 (gI_cons gw_576 (gI_cons gw_575 (gI_cons gw_75 (gI_cons gw_74 (gI_cons gw_73 (gI_cons gw_72 (gI_cons gw_71 (gI_cons gw_70 (gI_cons gw_69 (gI_cons gw_68 (gI_cons gw_67 (gI_cons gw_66 gI_nil))))))))))))))))))))))))
set_option maxRecDepth 20000 in
theorem k_wsX6_rename_r3 : GoodIn lw_tbl wsX6_rename_r3 := (gI_cons gw_63 (gI_cons gw_62 (gI_cons gw_36 (gI_cons gw_35 (gI_cons gw_60 (gI_cons gw_59 (gI_cons gw_58 (gI_cons gw_57 (gI_cons gw_56 (gI_cons gw_55 (gI_cons gw_54 (gI_cons gw_53 (gI_cons gw_86 (gI_cons gw_85 (gI_cons gw_84 (gI_cons gw_83 (gI_cons gw_82 (gI_cons gw_81 (gI_cons gw_80 (gI_cons gw_79 (gI_cons gw_78 (gI_cons gw_77 gI_nil))))))))))))))))))))))
set_option maxRecDepth 20000 in
theorem k_wsX6_rename : GoodIn lw_tbl wsX6_rename := (gI_cons gw_569 (goodIn_app (goodIn_app (goodIn_app k_wsX6_rename_r1 (goodIn_app k_wsX6_rename_r2 k_wsX6_rename_r3)) k_wsX10) k_wsX60))
set_option maxRecDepth 20000 in
theorem k_wsX7_rename_r1 : GoodIn lw_tbl wsX7_rename_r1 := (gI_cons gw_19 (gI_cons gw_110 (gI_cons gw_91 (gI_cons gw_12 (gI_cons gw_111 (gI_cons gw_109 (gI_cons gw_108 (gI_cons gw_107 (gI_cons gw_106 (gI_cons gw_14 (gI_cons gw_105 (gI_cons gw_18 (gI_cons gw_195 (gI_cons gw_194 (gI_cons gw_193 (gI_cons gw_192 (gI_cons gw_104 (gI_cons gw_103 (gI_cons gw_102 (gI_cons gw_98 (gI_cons gw_97 (gI_cons gw_96 (gI_cons gw_183 (gI_cons gw_182 gI_nil))))))))))))))))))))))))
set_option maxRecDepth 20000 in
theorem k_wsX7_rename_r2 : GoodIn lw_tbl wsX7_rename_r2 := (gI_cons gw_218 (gI_cons gw_217 (gI_cons gw_95 (gI_cons gw_94 (gI_cons gw_93 (gI_cons gw_92 gI_nil))))))
set_option maxRecDepth 20000 in
theorem k_wsX7_rename : GoodIn lw_tbl wsX7_rename := (gI_cons gw_585 (goodIn_app (goodIn_app k_wsX7_rename_r1 k_wsX7_rename_r2) k_wsX70))
set_option maxRecDepth 20000 in
theorem k_wsX6_trim_r1 : GoodIn lw_tbl wsX6_trim_r1 := (gI_cons gw_52 (gI_cons gw_132 (gI_cons gw_131 (gI_cons gw_130 (gI_cons gw_3 (gI_cons gw_129 (gI_cons gw_44 (gI_cons gw_43 (gI_cons gw_42 (gI_cons gw_595 (gI_cons gw_594 (gI_cons gw_593 (gI_cons gw_49 (gI_cons gw_592 (gI_cons gw_64 (gI_cons gw_63 (gI_cons gw_62 (gI_cons gw_244 (gI_cons gw_150 (gI_cons gw_149 (gI_cons gw_148 (gI_cons gw_61 (gI_cons gw_591 (gI_cons gw_590 gI_nil))))))))))))))))))))))))
set_option maxRecDepth 20000 in
theorem k_wsX6_trim_r2 : GoodIn lw_tbl wsX6_trim_r2 := (gI_cons gw_599 (gI_cons gw_598 (gI_cons gw_597 (gI_cons gw_50 (gI_cons gw_65 (gI_cons gw_596 (gI_cons gw_74 (gI_cons gw_73 (gI_cons gw_72 (gI_cons gw_71 (gI_cons gw_70 (gI_cons gw_69 (gI_cons gw_68 (gI_cons gw_67 (gI_cons gw_66 (gI_cons gw_36 (gI_cons gw_35 (gI_cons gw_60 (gI_cons gw_59 (gI_cons gw_58 (gI_cons gw_57 (gI_cons gw_56 (gI_cons gw_55 (gI_cons gw_54 gI_nil))))))))))))))))))))))))
set_option maxRecDepth 20000 in
theorem k_wsX6_trim_r3 : GoodIn lw_tbl wsX6_trim_r3 := (gI_cons gw_53 (gI_cons gw_86 (gI_cons gw_85 (gI_cons gw_84 (gI_cons gw_83 (gI_cons gw_82 (gI_cons gw_81 (gI_cons gw_80 (gI_cons gw_79 (gI_cons gw_78 (gI_cons gw_77 (gI_cons gw_607 (gI_cons gw_606 (gI_cons gw_605 (gI_cons gw_604 (gI_cons gw_603 (gI_cons gw_602 (gI_cons gw_601 (gI_cons gw_600 gI_nil)))))))))))))))))))
set_option maxRecDepth 20000 in
theorem k_wsX6_trim : GoodIn lw_tbl wsX6_trim := (gI_cons gw_589 (goodIn_app (goodIn_app (goodIn_app k_wsX6_trim_r1 (goodIn_app k_wsX6_trim_r2 k_wsX6_trim_r3)) k_wsX10) k_wsX60))
set_option maxRecDepth 20000 in
theorem k_wsX7_trim_r1 : GoodIn lw_tbl wsX7_trim_r1 := (gI_cons gw_19 (gI_cons gw_91 (gI_cons gw_111 (gI_cons gw_109 (gI_cons gw_195 (gI_cons gw_194 (gI_cons gw_193 (gI_cons gw_14 (gI_cons gw_192 (gI_cons gw_104 (gI_cons gw_103 (gI_cons gw_102 (gI_cons gw_98 (gI_cons gw_97 (gI_cons gw_96 (gI_cons gw_183 (gI_cons gw_182 (gI_cons gw_218 (gI_cons gw_217 (gI_cons gw_615 (gI_cons gw_614 (gI_cons gw_613 (gI_cons gw_612 (gI_cons gw_95 gI_nil))))))))))))))))))))))))
set_option maxRecDepth 20000 in
theorem k_wsX7_trim_r2 : GoodIn lw_tbl wsX7_trim_r2 := (gI_cons gw_94 (gI_cons gw_93 (gI_cons gw_92 gI_nil)))
set_option maxRecDepth 20000 in
theorem k_wsX7_trim : GoodIn lw_tbl wsX7_trim := (gI_cons gw_611 (goodIn_app (goodIn_app k_wsX7_trim_r1 k_wsX7_trim_r2) k_wsX70))
set_option maxRecDepth 20000 in
theorem k_wsX7_octet : GoodIn lw_tbl wsX7_octet := (gI_cons gw_619 (goodIn_app (gI_cons gw_236 (gI_cons gw_235 (gI_cons gw_623 (gI_cons gw_622 (gI_cons gw_621 (gI_cons gw_14 (gI_cons gw_620 (gI_cons gw_19 gI_nil)))))))) k_wsX70))
set_option maxRecDepth 20000 in
theorem k_wsX7_thrown : GoodIn lw_tbl wsX7_thrown := (gI_cons gw_627 (goodIn_app (gI_cons gw_19 gI_nil) k_wsX70))
set_option maxRecDepth 20000 in
theorem k_wsX6_count : GoodIn lw_tbl wsX6_count := (gI_cons gw_631 (goodIn_app (gI_cons gw_7 (gI_cons gw_229 (gI_cons gw_635 (gI_cons gw_634 (gI_cons gw_633 (gI_cons gw_3 (gI_cons gw_632 (gI_cons gw_52 gI_nil)))))))) k_wsX60))
set_option maxRecDepth 20000 in
theorem k_wsX7_count_ : GoodIn lw_tbl wsX7_count_ := (gI_cons gw_639 (goodIn_app (gI_cons gw_19 (gI_cons gw_91 (gI_cons gw_18 (gI_cons gw_236 gI_nil)))) k_wsX70))
set_option maxRecDepth 20000 in
theorem k_wsX6_init_r1 : GoodIn lw_tbl wsX6_init_r1 := (gI_cons gw_651 (gI_cons gw_71 (gI_cons gw_70 (gI_cons gw_51 (gI_cons gw_52 (gI_cons gw_84 (gI_cons gw_1 (gI_cons gw_230 (gI_cons gw_269 (gI_cons gw_267 (gI_cons gw_387 (gI_cons gw_650 (gI_cons gw_649 (gI_cons gw_303 (gI_cons gw_287 (gI_cons gw_648 (gI_cons gw_647 (gI_cons gw_125 (gI_cons gw_134 (gI_cons gw_646 (gI_cons gw_645 (gI_cons gw_140 (gI_cons gw_133 (gI_cons gw_644 gI_nil))))))))))))))))))))))))
set_option maxRecDepth 20000 in
theorem k_wsX6_init_r2 : GoodIn lw_tbl wsX6_init_r2 := (gI_cons gw_663 (gI_cons gw_662 (gI_cons gw_661 (gI_cons gw_420 (gI_cons gw_290 (gI_cons gw_660 (gI_cons gw_659 (gI_cons gw_658 (gI_cons gw_657 (gI_cons gw_121 (gI_cons gw_122 (gI_cons gw_120 (gI_cons gw_155 (gI_cons gw_656 (gI_cons gw_655 (gI_cons gw_654 (gI_cons gw_653 (gI_cons gw_652 (gI_cons gw_138 gI_nil)))))))))))))))))))
set_option maxRecDepth 20000 in
theorem k_wsX6_init : GoodIn lw_tbl wsX6_init := (gI_cons gw_643 (goodIn_app (goodIn_app (goodIn_app (goodIn_app (goodIn_app k_wsX6_init_r1 k_wsX6_init_r2) k_wsX60) k_wsX50) k_wsX20) k_wsX00))
set_option maxRecDepth 20000 in
theorem k_wsX7_init_r1 : GoodIn lw_tbl wsX7_init_r1 := (gI_cons gw_666 (gI_cons gw_71 (gI_cons gw_70 (gI_cons gw_665 (gI_cons gw_12 (gI_cons gw_84 (gI_cons gw_91 (gI_cons gw_111 (gI_cons gw_109 (gI_cons gw_235 (gI_cons gw_258 (gI_cons gw_274 (gI_cons gw_420 (gI_cons gw_332 (gI_cons gw_652 (gI_cons gw_211 (gI_cons gw_212 (gI_cons gw_373 (gI_cons gw_372 (gI_cons gw_371 (gI_cons gw_374 (gI_cons gw_394 (gI_cons gw_440 (gI_cons gw_444 gI_nil))))))))))))))))))))))))
set_option maxRecDepth 20000 in
theorem k_wsX7_init_r2 : GoodIn lw_tbl wsX7_init_r2 := (gI_cons gw_443 (gI_cons gw_519 (gI_cons gw_520 (gI_cons gw_518 (gI_cons gw_517 (gI_cons gw_541 gI_nil))))))
set_option maxRecDepth 20000 in
theorem k_wsX7_init : GoodIn lw_tbl wsX7_init := (gI_cons gw_664 (goodIn_app (goodIn_app k_wsX7_init_r1 k_wsX7_init_r2) k_wsX70))
set_option maxRecDepth 20000 in
theorem k_wsL_oct : GoodIn lw_tbl wsL_oct := (gI_cons gw_667 (goodIn_app (goodIn_app (gI_cons gw_674 (gI_cons gw_673 (gI_cons gw_672 (gI_cons gw_671 (gI_cons gw_3 (gI_cons gw_670 (gI_cons gw_669 (gI_cons gw_668 (gI_cons gw_229 (gI_cons gw_230 gI_nil)))))))))) k_wsX60) k_xw_g))
set_option maxRecDepth 20000 in
theorem k_wsX6_oct : GoodIn lw_tbl wsX6_oct := (gI_cons gw_670 (goodIn_app (goodIn_app (gI_cons gw_669 (gI_cons gw_668 (gI_cons gw_229 (gI_cons gw_230 gI_nil)))) k_wsX60) k_xw_g))
theorem gl_X6_feed : GoodIn lw_tbl (wsV RL 19 RX6 yX6_feed wsX6_feed) := goodIn_app (gI_cons gw_8 (gI_cons gw_9 (gI_cons gw_10 (gI_cons gw_3 gI_nil)))) k_wsX6_feed
theorem gl_X7_feed : GoodIn lw_tbl (wsV RL 23 RX7 yX7_feed wsX7_feed) := goodIn_app (gI_cons gw_20 (gI_cons gw_21 (gI_cons gw_22 (gI_cons gw_14 gI_nil)))) k_wsX7_feed
theorem gl_X6_end : GoodIn lw_tbl (wsV RL 24 RX6 yX6_end wsX6_end) := goodIn_app (gI_cons gw_24 (gI_cons gw_25 (gI_cons gw_26 (gI_cons gw_3 gI_nil)))) k_wsX6_end
theorem gl_X7_end : GoodIn lw_tbl (wsV RL 28 RX7 yX7_end wsX7_end) := goodIn_app (gI_cons gw_28 (gI_cons gw_29 (gI_cons gw_30 (gI_cons gw_14 gI_nil)))) k_wsX7_end
theorem gl_X6_rule : GoodIn lw_tbl (wsV RL 29 RX6 yX6_rule wsX6_rule) := goodIn_app (gI_cons gw_87 (gI_cons gw_88 (gI_cons gw_89 (gI_cons gw_3 gI_nil)))) k_wsX6_rule
theorem gl_X7_rule : GoodIn lw_tbl (wsV RL 33 RX7 yX7_rule wsX7_rule) := goodIn_app (gI_cons gw_112 (gI_cons gw_113 (gI_cons gw_114 (gI_cons gw_14 gI_nil)))) k_wsX7_rule
theorem gl_X6_about : GoodIn lw_tbl (wsV RL 34 RX6 yX6_about wsX6_about) := goodIn_app (gI_cons gw_178 (gI_cons gw_179 (gI_cons gw_180 (gI_cons gw_3 gI_nil)))) k_wsX6_about
theorem gl_X7_about : GoodIn lw_tbl (wsV RL 38 RX7 yX7_about wsX7_about) := goodIn_app (gI_cons gw_224 (gI_cons gw_225 (gI_cons gw_226 (gI_cons gw_14 gI_nil)))) k_wsX7_about
theorem gl_X6_table : GoodIn lw_tbl (wsV RL 39 RX6 yX6_table wsX6_table) := goodIn_app (gI_cons gw_231 (gI_cons gw_232 (gI_cons gw_233 (gI_cons gw_3 gI_nil)))) k_wsX6_table
theorem gl_X7_table : GoodIn lw_tbl (wsV RL 42 RX7 yX7_table wsX7_table) := goodIn_app (gI_cons gw_237 (gI_cons gw_238 (gI_cons gw_239 (gI_cons gw_14 gI_nil)))) k_wsX7_table
theorem gl_X6_row : GoodIn lw_tbl (wsV RL 43 RX6 yX6_row wsX6_row) := goodIn_app (gI_cons gw_246 (gI_cons gw_247 (gI_cons gw_248 (gI_cons gw_3 gI_nil)))) k_wsX6_row
theorem gl_X7_row : GoodIn lw_tbl (wsV RL 46 RX7 yX7_row wsX7_row) := goodIn_app (gI_cons gw_263 (gI_cons gw_264 (gI_cons gw_265 (gI_cons gw_14 gI_nil)))) k_wsX7_row
theorem gl_X6_ring : GoodIn lw_tbl (wsV RL 47 RX6 yX6_ring wsX6_ring) := goodIn_app (gI_cons gw_270 (gI_cons gw_271 (gI_cons gw_272 (gI_cons gw_3 gI_nil)))) k_wsX6_ring
theorem gl_X7_ring : GoodIn lw_tbl (wsV RL 50 RX7 yX7_ring wsX7_ring) := goodIn_app (gI_cons gw_279 (gI_cons gw_280 (gI_cons gw_281 (gI_cons gw_14 gI_nil)))) k_wsX7_ring
theorem gl_X6_behind : GoodIn lw_tbl (wsV RL 51 RX6 yX6_behind wsX6_behind) := goodIn_app (gI_cons gw_328 (gI_cons gw_329 (gI_cons gw_330 (gI_cons gw_3 gI_nil)))) k_wsX6_behind
theorem gl_X7_behind : GoodIn lw_tbl (wsV RL 55 RX7 yX7_behind wsX7_behind) := goodIn_app (gI_cons gw_342 (gI_cons gw_343 (gI_cons gw_344 (gI_cons gw_14 gI_nil)))) k_wsX7_behind
theorem gl_X6_ringsBehind : GoodIn lw_tbl (wsV RL 56 RX6 yX6_ringsBehind wsX6_ringsBehind) := goodIn_app (gI_cons gw_350 (gI_cons gw_351 (gI_cons gw_352 (gI_cons gw_3 gI_nil)))) k_wsX6_ringsBehind
theorem gl_X7_ringsBehind : GoodIn lw_tbl (wsV RL 59 RX7 yX7_ringsBehind wsX7_ringsBehind) := goodIn_app (gI_cons gw_354 (gI_cons gw_355 (gI_cons gw_356 (gI_cons gw_14 gI_nil)))) k_wsX7_ringsBehind
theorem gl_X6_missed : GoodIn lw_tbl (wsV RL 60 RX6 yX6_missed wsX6_missed) := goodIn_app (gI_cons gw_367 (gI_cons gw_368 (gI_cons gw_369 (gI_cons gw_3 gI_nil)))) k_wsX6_missed
theorem gl_X7_missed : GoodIn lw_tbl (wsV RL 63 RX7 yX7_missed wsX7_missed) := goodIn_app (gI_cons gw_379 (gI_cons gw_380 (gI_cons gw_381 (gI_cons gw_14 gI_nil)))) k_wsX7_missed
theorem gl_X6_back : GoodIn lw_tbl (wsV RL 64 RX6 yX6_back wsX6_back) := goodIn_app (gI_cons gw_390 (gI_cons gw_391 (gI_cons gw_392 (gI_cons gw_3 gI_nil)))) k_wsX6_back
theorem gl_X7_back : GoodIn lw_tbl (wsV RL 67 RX7 yX7_back wsX7_back) := goodIn_app (gI_cons gw_399 (gI_cons gw_400 (gI_cons gw_401 (gI_cons gw_14 gI_nil)))) k_wsX7_back
theorem gl_X6_height : GoodIn lw_tbl (wsV RL 68 RX6 yX6_height wsX6_height) := goodIn_app (gI_cons gw_435 (gI_cons gw_436 (gI_cons gw_437 (gI_cons gw_3 gI_nil)))) k_wsX6_height
theorem gl_X7_height : GoodIn lw_tbl (wsV RL 71 RX7 yX7_height wsX7_height) := goodIn_app (gI_cons gw_449 (gI_cons gw_450 (gI_cons gw_451 (gI_cons gw_14 gI_nil)))) k_wsX7_height
theorem gl_X6_round : GoodIn lw_tbl (wsV RL 72 RX6 yX6_round wsX6_round) := goodIn_app (gI_cons gw_453 (gI_cons gw_454 (gI_cons gw_455 (gI_cons gw_3 gI_nil)))) k_wsX6_round
theorem gl_X7_round : GoodIn lw_tbl (wsV RL 76 RX7 yX7_round wsX7_round) := goodIn_app (gI_cons gw_457 (gI_cons gw_458 (gI_cons gw_459 (gI_cons gw_14 gI_nil)))) k_wsX7_round
theorem gl_X6_all : GoodIn lw_tbl (wsV RL 77 RX6 yX6_all wsX6_all) := goodIn_app (gI_cons gw_513 (gI_cons gw_514 (gI_cons gw_515 (gI_cons gw_3 gI_nil)))) k_wsX6_all
theorem gl_X7_all : GoodIn lw_tbl (wsV RL 81 RX7 yX7_all wsX7_all) := goodIn_app (gI_cons gw_521 (gI_cons gw_522 (gI_cons gw_523 (gI_cons gw_14 gI_nil)))) k_wsX7_all
theorem gl_X6_keeps : GoodIn lw_tbl (wsV RL 82 RX6 yX6_keeps wsX6_keeps) := goodIn_app (gI_cons gw_537 (gI_cons gw_538 (gI_cons gw_539 (gI_cons gw_3 gI_nil)))) k_wsX6_keeps
theorem gl_X7_keeps : GoodIn lw_tbl (wsV RL 85 RX7 yX7_keeps wsX7_keeps) := goodIn_app (gI_cons gw_546 (gI_cons gw_547 (gI_cons gw_548 (gI_cons gw_14 gI_nil)))) k_wsX7_keeps
theorem gl_X6_join : GoodIn lw_tbl (wsV RL 86 RX6 yX6_join wsX6_join) := goodIn_app (gI_cons gw_550 (gI_cons gw_551 (gI_cons gw_552 (gI_cons gw_3 gI_nil)))) k_wsX6_join
theorem gl_X7_join : GoodIn lw_tbl (wsV RL 89 RX7 yX7_join wsX7_join) := goodIn_app (gI_cons gw_554 (gI_cons gw_555 (gI_cons gw_556 (gI_cons gw_14 gI_nil)))) k_wsX7_join
theorem gl_X6_mirror : GoodIn lw_tbl (wsV RL 90 RX6 yX6_mirror wsX6_mirror) := goodIn_app (gI_cons gw_562 (gI_cons gw_563 (gI_cons gw_564 (gI_cons gw_3 gI_nil)))) k_wsX6_mirror
theorem gl_X7_mirror : GoodIn lw_tbl (wsV RL 94 RX7 yX7_mirror wsX7_mirror) := goodIn_app (gI_cons gw_566 (gI_cons gw_567 (gI_cons gw_568 (gI_cons gw_14 gI_nil)))) k_wsX7_mirror
theorem gl_X6_rename : GoodIn lw_tbl (wsV RL 95 RX6 yX6_rename wsX6_rename) := goodIn_app (gI_cons gw_582 (gI_cons gw_583 (gI_cons gw_584 (gI_cons gw_3 gI_nil)))) k_wsX6_rename
theorem gl_X7_rename : GoodIn lw_tbl (wsV RL 98 RX7 yX7_rename wsX7_rename) := goodIn_app (gI_cons gw_586 (gI_cons gw_587 (gI_cons gw_588 (gI_cons gw_14 gI_nil)))) k_wsX7_rename
theorem gl_X6_trim : GoodIn lw_tbl (wsV RL 99 RX6 yX6_trim wsX6_trim) := goodIn_app (gI_cons gw_608 (gI_cons gw_609 (gI_cons gw_610 (gI_cons gw_3 gI_nil)))) k_wsX6_trim
theorem gl_X7_trim : GoodIn lw_tbl (wsV RL 102 RX7 yX7_trim wsX7_trim) := goodIn_app (gI_cons gw_616 (gI_cons gw_617 (gI_cons gw_618 (gI_cons gw_14 gI_nil)))) k_wsX7_trim
theorem gl_X7_octet : GoodIn lw_tbl (wsV RL 108 RX7 yX7_octet wsX7_octet) := goodIn_app (gI_cons gw_624 (gI_cons gw_625 (gI_cons gw_626 (gI_cons gw_14 gI_nil)))) k_wsX7_octet
theorem gl_X7_thrown : GoodIn lw_tbl (wsV RL 109 RX7 yX7_thrown wsX7_thrown) := goodIn_app (gI_cons gw_628 (gI_cons gw_629 (gI_cons gw_630 (gI_cons gw_14 gI_nil)))) k_wsX7_thrown
theorem gl_X6_count : GoodIn lw_tbl (wsV RL 112 RX6 yX6_count wsX6_count) := goodIn_app (gI_cons gw_636 (gI_cons gw_637 (gI_cons gw_638 (gI_cons gw_3 gI_nil)))) k_wsX6_count
theorem gl_X7_count_ : GoodIn lw_tbl (wsV RL 115 RX7 yX7_count_ wsX7_count_) := goodIn_app (gI_cons gw_640 (gI_cons gw_641 (gI_cons gw_642 (gI_cons gw_14 gI_nil)))) k_wsX7_count_
theorem gl_L_oct : GoodIn lw_tbl (va_wsS RL 103 yL_octet wsL_oct) := goodIn_app (gI_cons gw_675 (gI_cons gw_676 (gI_cons gw_677 gI_nil))) k_wsL_oct
theorem nw_0 : Cond.classLink RL 8 RX6 ∈ lw_tbl := gw_678.1
theorem nw_1 : Cond.instantiable RX6 14 ∈ lw_tbl := gw_679.1
theorem nw_2 : Cond.initialized RX6 ∈ lw_tbl := gw_3.1
theorem nw_3 : Cond.classLink RL 16 RX7 ∈ lw_tbl := gw_680.1
theorem nw_4 : Cond.instantiable RX7 27 ∈ lw_tbl := gw_681.1
theorem nw_5 : Cond.initialized RX7 ∈ lw_tbl := gw_14.1
theorem nw_6 : Cond.arrayClass .long ∈ lw_tbl := gw_420.1
theorem nw_7 : Cond.arrayClass .int ∈ lw_tbl := gw_84.1
theorem nw_8 : Cond.arrayClass .byte ∈ lw_tbl := gw_665.1
theorem nw_9 : Cond.arrayClass .boolean ∈ lw_tbl := gw_652.1
theorem nw_10 : Cond.methodLink RL 15 yX6_init ∈ lw_tbl := gw_682.1
theorem nw_11 : Cond.instanceMethod yX6_init ∈ lw_tbl := gw_683.1
theorem nw_12 : Cond.methodLink RL 18 yX7_init ∈ lw_tbl := gw_684.1
theorem nw_13 : Cond.instanceMethod yX7_init ∈ lw_tbl := gw_685.1
theorem nw_14 : Cond.instantiable "java/util/NoSuchElementException" 6 ∈ lw_tbl := gw_686.1
theorem nw_15 : Cond.instantiable RX0 1 ∈ lw_tbl := gw_645.1
theorem nw_16 : Cond.instantiable RX1 5 ∈ lw_tbl := gw_50.1
theorem nw_17 : Cond.instantiable RX2 5 ∈ lw_tbl := gw_647.1
theorem nw_18 : Cond.instantiable RX3 13 ∈ lw_tbl := gw_470.1
theorem nw_19 : Cond.instantiable RX4 4 ∈ lw_tbl := gw_405.1
theorem nw_20 : Cond.instantiable RX5 3 ∈ lw_tbl := gw_649.1
theorem nest_tb : ∀ w ∈ x_nest, w ∈ lw_tbl := List.forall_mem_cons.mpr ⟨tb1 (List.mem_of_getElem? (i := 163) rfl), List.forall_mem_cons.mpr ⟨tb1 (List.mem_of_getElem? (i := 181) rfl), List.forall_mem_cons.mpr ⟨tb1 (List.mem_of_getElem? (i := 182) rfl), List.forall_mem_cons.mpr ⟨tb1 (List.mem_of_getElem? (i := 183) rfl), List.forall_mem_cons.mpr ⟨tb1 (List.mem_of_getElem? (i := 184) rfl), List.forall_mem_cons.mpr ⟨tb1 (List.mem_of_getElem? (i := 185) rfl), List.forall_mem_cons.mpr ⟨tb1 (List.mem_of_getElem? (i := 187) rfl), List.forall_mem_cons.mpr ⟨tb1 (List.mem_of_getElem? (i := 188) rfl), List.forall_mem_cons.mpr ⟨tb1 (List.mem_of_getElem? (i := 190) rfl), List.forall_mem_cons.mpr ⟨tb1 (List.mem_of_getElem? (i := 191) rfl), List.forall_mem_cons.mpr ⟨tb1 (List.mem_of_getElem? (i := 192) rfl), List.forall_mem_cons.mpr ⟨tb1 (List.mem_of_getElem? (i := 194) rfl), List.forall_mem_cons.mpr ⟨tb1 (List.mem_of_getElem? (i := 195) rfl), List.forall_mem_cons.mpr ⟨tb1 (List.mem_of_getElem? (i := 196) rfl), List.forall_mem_cons.mpr ⟨tb2 (List.mem_of_getElem? (i := 133) rfl), fun _ h => absurd h List.not_mem_nil⟩⟩⟩⟩⟩⟩⟩⟩⟩⟩⟩⟩⟩⟩⟩
theorem tw_over : Cond.arrayOver (.object "MossRings$Rule") ∈ lw_tbl := tb1 (List.mem_of_getElem? (i := 25) rfl)
theorem tw_clone : Cond.castable "[I" "java/lang/Cloneable" ∈ lw_tbl := tb1 (List.mem_of_getElem? (i := 172) rfl)
theorem tw_lsW : Cond.laysStatic "MossRings" "MOST_WIDTH" "[I" ∈ lw_tbl := tb1 (List.mem_of_getElem? (i := 147) rfl)
theorem tw_lsL : Cond.laysStatic "MossRings$Trail" "LOOKS" "[I" ∈ lw_tbl := tb2 (List.mem_of_getElem? (i := 152) rfl)
theorem tw_lsU : Cond.laysStatic "java/lang/Throwable" "UNASSIGNED_STACK" "[Ljava/lang/StackTraceElement;" ∈ lw_tbl := tb3 (List.mem_of_getElem? (i := 116) rfl)
theorem tw_lsS : Cond.laysStatic "java/lang/Throwable" "SUPPRESSED_SENTINEL" "Ljava/util/List;" ∈ lw_tbl := tb3 (List.mem_of_getElem? (i := 118) rfl)
theorem tw_inM : Cond.initialized "MossRings" ∈ lw_tbl := tb1 (List.mem_of_getElem? (i := 1) rfl)
theorem tw_inT : Cond.initialized "MossRings$Trail" ∈ lw_tbl := tb1 (List.mem_of_getElem? (i := 10) rfl)
theorem tw_inH : Cond.initialized "java/lang/Throwable" ∈ lw_tbl := tb1 (List.mem_of_getElem? (i := 12) rfl)
theorem tw_str : Cond.stringRef "MossRings" 211 "OUT has no such byte" ∈ lw_tbl := tb3 (List.mem_of_getElem? (i := 128) rfl)
