theorem cs_L_9 : hp_WI RL 9 yX10_init cX10_init 2 := ⟨wq1_18, wq1_19, wq1_1, wq1_20⟩
theorem cs_L_12 : hp_WI RL 12 yX11_init cX11_init 1 := ⟨wq3_163, wq3_164, wq1_11, wq3_165⟩
theorem cs_L_13 : hp_WV RL 13 RX10 yX10_told cX10_told 2 (some .int) := ⟨wq2_33, wq2_34, wq2_35, wq1_1, wq2_36⟩
theorem cs_L_17 : hp_WV RL 17 RX11 yX11_told cX11_told 2 (some .int) := ⟨wq3_226, wq3_227, wq3_228, wq1_11, wq3_229⟩
theorem cs_L_18 : hp_WV RL 18 RX10 yX10_brokerAt cX10_brokerAt 3 (some .int) := ⟨wq2_136, wq2_137, wq2_138, wq1_1, wq2_139⟩
theorem cs_L_22 : hp_WV RL 22 RX11 yX11_brokerAt cX11_brokerAt 5 (some .int) := ⟨wq4_85, wq4_86, wq4_87, wq1_11, wq4_88⟩
theorem cs_L_23 : hp_WV RL 23 RX10 yX10_clientAt cX10_clientAt 4 (some .int) := ⟨wq2_149, wq2_150, wq2_151, wq1_1, wq2_152⟩
theorem cs_L_26 : hp_WV RL 26 RX11 yX11_clientAt cX11_clientAt 5 (some .int) := ⟨wq4_90, wq4_91, wq4_92, wq1_11, wq4_93⟩
theorem cs_L_27 : hp_WV RL 27 RX10 yX10_log cX10_log 3 (some .int) := ⟨wq2_154, wq2_155, wq2_156, wq1_1, wq2_157⟩
theorem cs_L_30 : hp_WV RL 30 RX11 yX11_log cX11_log 3 (some .int) := ⟨wq4_94, wq4_95, wq4_96, wq1_11, wq4_97⟩
theorem cs_L_31 : hp_WV RL 31 RX10 yX10_wishAt cX10_wishAt 3 (some .int) := ⟨wq2_163, wq2_164, wq2_165, wq1_1, wq2_166⟩
theorem cs_L_34 : hp_WV RL 34 RX11 yX11_wishAt cX11_wishAt 3 (some .int) := ⟨wq4_98, wq4_99, wq4_100, wq1_11, wq4_101⟩
theorem cs_L_35 : hp_WV RL 35 RX10 yX10_toldOn cX10_toldOn 3 (some .int) := ⟨wq2_180, wq2_181, wq2_182, wq1_1, wq2_183⟩
theorem cs_L_38 : hp_WV RL 38 RX11 yX11_toldOn cX11_toldOn 3 (some .int) := ⟨wq4_114, wq4_115, wq4_116, wq1_11, wq4_117⟩
theorem cs_L_39 : hp_WV RL 39 RX10 yX10_box cX10_box 7 (some .int) := ⟨wq2_186, wq2_187, wq2_188, wq1_1, wq2_189⟩
theorem cs_L_43 : hp_WV RL 43 RX11 yX11_box cX11_box 7 (some .int) := ⟨wq4_118, wq4_119, wq4_120, wq1_11, wq4_121⟩
theorem cs_L_44 : hp_WV RL 44 RX10 yX10_would cX10_would 6 (some .int) := ⟨wq2_194, wq2_195, wq2_196, wq1_1, wq2_197⟩
theorem cs_L_48 : hp_WV RL 48 RX11 yX11_would cX11_would 6 (some .int) := ⟨wq4_126, wq4_127, wq4_128, wq1_11, wq4_129⟩
theorem cs_L_49 : hp_WV RL 49 RX10 yX10_broker cX10_broker 2 (some .int) := ⟨wq2_221, wq2_222, wq2_223, wq1_1, wq2_224⟩
theorem cs_L_52 : hp_WV RL 52 RX11 yX11_broker cX11_broker 2 (some .int) := ⟨wq4_148, wq4_149, wq4_150, wq1_11, wq4_151⟩
theorem cs_L_53 : hp_WV RL 53 RX10 yX10_client cX10_client 2 (some .int) := ⟨wq3_10, wq3_11, wq3_12, wq1_1, wq3_13⟩
theorem cs_L_56 : hp_WV RL 56 RX11 yX11_client cX11_client 4 (some .int) := ⟨wq4_157, wq4_158, wq4_159, wq1_11, wq4_160⟩
theorem cs_L_57 : hp_WV RL 57 RX10 yX10_wish cX10_wish 9 (some .int) := ⟨wq3_22, wq3_23, wq3_24, wq1_1, wq3_25⟩
theorem cs_L_61 : hp_WV RL 61 RX11 yX11_wish_ cX11_wish_ 9 (some .int) := ⟨wq4_165, wq4_166, wq4_167, wq1_11, wq4_168⟩
theorem cs_L_62 : hp_WV RL 62 RX10 yX10_drop cX10_drop 2 (some .int) := ⟨wq3_36, wq3_37, wq3_38, wq1_1, wq3_39⟩
theorem cs_L_65 : hp_WV RL 65 RX11 yX11_drop cX11_drop 2 (some .int) := ⟨wq4_176, wq4_177, wq4_178, wq1_11, wq4_179⟩
theorem cs_L_66 : hp_WV RL 66 RX10 yX10_most cX10_most 3 (some .int) := ⟨wq3_44, wq3_45, wq3_46, wq1_1, wq3_47⟩
theorem cs_L_69 : hp_WV RL 69 RX11 yX11_most cX11_most 3 (some .int) := ⟨wq4_184, wq4_185, wq4_186, wq1_11, wq4_187⟩
theorem cs_L_70 : hp_WV RL 70 RX10 yX10_put cX10_put 5 (some .int) := ⟨wq3_48, wq3_49, wq3_50, wq1_1, wq3_51⟩
theorem cs_L_73 : hp_WV RL 73 RX11 yX11_put cX11_put 5 (some .int) := ⟨wq4_188, wq4_189, wq4_190, wq1_11, wq4_191⟩
theorem cs_L_74 : hp_WV RL 74 RX10 yX10_leave cX10_leave 3 (some .int) := ⟨wq3_83, wq3_84, wq3_85, wq1_1, wq3_86⟩
theorem cs_L_77 : hp_WV RL 77 RX11 yX11_leave cX11_leave 2 (some .int) := ⟨wq4_207, wq4_208, wq4_209, wq1_11, wq4_210⟩
theorem cs_L_78 : hp_WV RL 78 RX10 yX10_come cX10_come 4 (some .int) := ⟨wq3_88, wq3_89, wq3_90, wq1_1, wq3_91⟩
theorem cs_L_81 : hp_WV RL 81 RX11 yX11_come cX11_come 5 (some .int) := ⟨wq4_212, wq4_213, wq4_214, wq1_11, wq4_215⟩
theorem cs_L_82 : hp_WV RL 82 RX10 yX10_part cX10_part 1 (some .int) := ⟨wq3_96, wq3_97, wq3_98, wq1_1, wq3_99⟩
theorem cs_L_86 : hp_WV RL 86 RX11 yX11_part cX11_part 2 (some .int) := ⟨wq4_216, wq4_217, wq4_218, wq1_11, wq4_219⟩
theorem cs_L_87 : hp_WV RL 87 RX10 yX10_drift cX10_drift 7 (some .int) := ⟨wq3_105, wq3_106, wq3_107, wq1_1, wq3_108⟩
theorem cs_L_90 : hp_WV RL 90 RX11 yX11_drift cX11_drift 7 (some .int) := ⟨wq4_220, wq4_221, wq4_222, wq1_11, wq4_223⟩
theorem cs_L_91 : hp_WV RL 91 RX10 yX10_undo cX10_undo 2 (some .int) := ⟨wq3_116, wq3_117, wq3_118, wq1_1, wq3_119⟩
theorem cs_L_94 : hp_WV RL 94 RX11 yX11_undo cX11_undo 3 (some .int) := ⟨wq4_232, wq4_233, wq4_234, wq1_11, wq4_235⟩
theorem cs_L_95 : hp_WV RL 95 RX10 yX10_write cX10_write 3 (some .int) := ⟨wq3_124, wq3_125, wq3_126, wq1_1, wq3_127⟩
theorem cs_L_98 : hp_WV RL 98 RX11 yX11_write cX11_write 3 (some .int) := ⟨wq4_236, wq4_237, wq4_238, wq1_11, wq4_239⟩
theorem cs_L_99 : hp_WV RL 99 RX10 yX10_tear cX10_tear 2 (some .int) := ⟨wq3_132, wq3_133, wq3_134, wq1_1, wq3_135⟩
theorem cs_L_102 : hp_WV RL 102 RX11 yX11_tear cX11_tear 2 (some .int) := ⟨wq5_0, wq5_1, wq5_2, wq1_11, wq5_3⟩
theorem cs_L_103 : hp_WV RL 103 RX10 yX10_seed cX10_seed 3 (some .int) := ⟨wq3_136, wq3_137, wq3_138, wq1_1, wq3_139⟩
theorem cs_L_106 : hp_WV RL 106 RX11 yX11_seed cX11_seed 3 (some .int) := ⟨wq5_4, wq5_5, wq5_6, wq1_11, wq5_7⟩
theorem cs_L_107 : hp_WV RL 107 RX10 yX10_keep cX10_keep 2 (some .int) := ⟨wq3_140, wq3_141, wq3_142, wq1_1, wq3_143⟩
theorem cs_L_110 : hp_WV RL 110 RX11 yX11_keep cX11_keep 3 (some .int) := ⟨wq5_8, wq5_9, wq5_10, wq1_11, wq5_11⟩
theorem cs_L_111 : hp_WV RL 111 RX10 yX10_goBack cX10_goBack 2 (some .int) := ⟨wq3_153, wq3_154, wq3_155, wq1_1, wq3_156⟩
theorem cs_L_114 : hp_WV RL 114 RX11 yX11_goBack cX11_goBack 3 (some .int) := ⟨wq5_12, wq5_13, wq5_14, wq1_11, wq5_15⟩
def f_Law_l1 (xs : Nat → Int32) (L a1 a2 : Nat) : Nat → Int32 → hp_H → Option Unit
  | 0, _, _ => none
  | n + 1, x3, σ => if ((Int32.ofNat L) - 8) < x3 then (some ()) else ((hp_xs xs L x3).bind fun v6 => if (v6 &&& 31) = 0 then ((hp_xs xs L (x3 + 1)).bind fun v8 => hp_b (f_NB_told a1 v8 σ) fun v10 σ => (hp_xs xs L (x3 + 1)).bind fun v11 => hp_b (f_Mo_told a2 v11 σ) fun v13 σ => if v10 = v13 then (f_Law_l1 xs L a1 a2 n (x3 + 8) σ) else (none)) else (if (v6 &&& 31) = 1 then ((hp_xs xs L (x3 + 1)).bind fun v16 => (hp_xs xs L (x3 + 2)).bind fun v17 => (f_NB_brokerAt a1 v16 v17 σ).bind fun v19 => (hp_xs xs L (x3 + 1)).bind fun v20 => (hp_xs xs L (x3 + 2)).bind fun v21 => (f_Mo_brokerAt a2 v20 v21 σ).bind fun v23 => if v19 = v23 then (f_Law_l1 xs L a1 a2 n (x3 + 8) σ) else (none)) else (if (v6 &&& 31) = 2 then ((hp_xs xs L (x3 + 1)).bind fun v26 => (hp_xs xs L (x3 + 2)).bind fun v27 => (f_NB_clientAt a1 v26 v27 σ).bind fun v29 => (hp_xs xs L (x3 + 1)).bind fun v30 => (hp_xs xs L (x3 + 2)).bind fun v31 => (f_Mo_clientAt a2 v30 v31 σ).bind fun v33 => if v29 = v33 then (f_Law_l1 xs L a1 a2 n (x3 + 8) σ) else (none)) else (if (v6 &&& 31) = 3 then ((hp_xs xs L (x3 + 1)).bind fun v36 => (hp_xs xs L (x3 + 2)).bind fun v37 => (f_NB_log a1 v36 v37 σ).bind fun v39 => (hp_xs xs L (x3 + 1)).bind fun v40 => (hp_xs xs L (x3 + 2)).bind fun v41 => (f_Mo_log a2 v40 v41 σ).bind fun v43 => if v39 = v43 then (f_Law_l1 xs L a1 a2 n (x3 + 8) σ) else (none)) else (if (v6 &&& 31) = 4 then ((hp_xs xs L (x3 + 1)).bind fun v46 => (hp_xs xs L (x3 + 2)).bind fun v47 => (f_NB_wishAt a1 v46 v47 σ).bind fun v49 => (hp_xs xs L (x3 + 1)).bind fun v50 => (hp_xs xs L (x3 + 2)).bind fun v51 => hp_b (f_Mo_wishAt a2 v50 v51 σ) fun v53 σ => if v49 = v53 then (f_Law_l1 xs L a1 a2 n (x3 + 8) σ) else (none)) else (if (v6 &&& 31) = 5 then ((hp_xs xs L (x3 + 1)).bind fun v56 => (hp_xs xs L (x3 + 2)).bind fun v57 => hp_b (f_NB_toldOn a1 v56 v57 σ) fun v59 σ => (hp_xs xs L (x3 + 1)).bind fun v60 => (hp_xs xs L (x3 + 2)).bind fun v61 => hp_b (f_Mo_toldOn a2 v60 v61 σ) fun v63 σ => if v59 = v63 then (f_Law_l1 xs L a1 a2 n (x3 + 8) σ) else (none)) else (if (v6 &&& 31) = 6 then ((hp_xs xs L (x3 + 1)).bind fun v66 => (hp_xs xs L (x3 + 2)).bind fun v67 => (hp_xs xs L (x3 + 3)).bind fun v68 => (hp_xs xs L (x3 + 4)).bind fun v69 => hp_b (f_NB_box a1 v66 v67 v68 v69 σ) fun v71 σ => (hp_xs xs L (x3 + 1)).bind fun v72 => (hp_xs xs L (x3 + 2)).bind fun v73 => (hp_xs xs L (x3 + 3)).bind fun v74 => (hp_xs xs L (x3 + 4)).bind fun v75 => hp_b (f_Mo_box a2 v72 v73 v74 v75 σ) fun v77 σ => if v71 = v77 then (f_Law_l1 xs L a1 a2 n (x3 + 8) σ) else (none)) else (if (v6 &&& 31) = 7 then ((hp_xs xs L (x3 + 1)).bind fun v80 => (hp_xs xs L (x3 + 2)).bind fun v81 => (hp_xs xs L (x3 + 3)).bind fun v82 => (hp_xs xs L (x3 + 4)).bind fun v83 => (hp_xs xs L (x3 + 5)).bind fun v84 => hp_b (f_NB_would a1 v80 v81 v82 v83 v84 σ) fun v86 σ => (hp_xs xs L (x3 + 1)).bind fun v87 => (hp_xs xs L (x3 + 2)).bind fun v88 => (hp_xs xs L (x3 + 3)).bind fun v89 => (hp_xs xs L (x3 + 4)).bind fun v90 => (hp_xs xs L (x3 + 5)).bind fun v91 => hp_b (f_Mo_would a2 v87 v88 v89 v90 v91 σ) fun v93 σ => if v86 = v93 then (f_Law_l1 xs L a1 a2 n (x3 + 8) σ) else (none)) else (if (v6 &&& 31) = 8 then ((hp_xs xs L (x3 + 1)).bind fun v96 => hp_b (f_NB_broker a1 v96 σ) fun v98 σ => (hp_xs xs L (x3 + 1)).bind fun v99 => hp_b (f_Mo_broker a2 v99 σ) fun v101 σ => if v98 = v101 then (f_Law_l1 xs L a1 a2 n (x3 + 8) σ) else (none)) else (if (v6 &&& 31) = 9 then ((hp_xs xs L (x3 + 1)).bind fun v104 => hp_b (f_NB_client a1 v104 σ) fun v106 σ => (hp_xs xs L (x3 + 1)).bind fun v107 => hp_b (f_Mo_client a2 v107 σ) fun v109 σ => if v106 = v109 then (f_Law_l1 xs L a1 a2 n (x3 + 8) σ) else (none)) else (if (v6 &&& 31) = 10 then ((hp_xs xs L (x3 + 1)).bind fun v112 => (hp_xs xs L (x3 + 2)).bind fun v113 => (hp_xs xs L (x3 + 3)).bind fun v114 => (hp_xs xs L (x3 + 4)).bind fun v115 => (hp_xs xs L (x3 + 5)).bind fun v116 => (hp_xs xs L (x3 + 6)).bind fun v117 => (hp_xs xs L (x3 + 7)).bind fun v118 => hp_b (f_NB_wish a1 v112 v113 v114 v115 v116 v117 v118 σ) fun v120 σ => (hp_xs xs L (x3 + 1)).bind fun v121 => (hp_xs xs L (x3 + 2)).bind fun v122 => (hp_xs xs L (x3 + 3)).bind fun v123 => (hp_xs xs L (x3 + 4)).bind fun v124 => (hp_xs xs L (x3 + 5)).bind fun v125 => (hp_xs xs L (x3 + 6)).bind fun v126 => (hp_xs xs L (x3 + 7)).bind fun v127 => hp_b (f_Mo_wish_ a2 v121 v122 v123 v124 v125 v126 v127 σ) fun v129 σ => if v120 = v129 then (f_Law_l1 xs L a1 a2 n (x3 + 8) σ) else (none)) else (if (v6 &&& 31) = 11 then ((hp_xs xs L (x3 + 1)).bind fun v132 => hp_b (f_NB_drop a1 v132 σ) fun v134 σ => (hp_xs xs L (x3 + 1)).bind fun v135 => hp_b (f_Mo_drop a2 v135 σ) fun v137 σ => if v134 = v137 then (f_Law_l1 xs L a1 a2 n (x3 + 8) σ) else (none)) else (if (v6 &&& 31) = 12 then ((hp_xs xs L (x3 + 1)).bind fun v140 => hp_b (f_NB_most a1 v140 σ) fun v142 σ => (hp_xs xs L (x3 + 1)).bind fun v143 => hp_b (f_Mo_most a2 v143 σ) fun v145 σ => if v142 = v145 then (f_Law_l1 xs L a1 a2 n (x3 + 8) σ) else (none)) else (if (v6 &&& 31) = 13 then ((hp_xs xs L (x3 + 1)).bind fun v148 => (hp_xs xs L (x3 + 2)).bind fun v149 => (hp_xs xs L (x3 + 3)).bind fun v150 => (hp_xs xs L (x3 + 4)).bind fun v151 => hp_b (f_NB_put a1 v148 v149 v150 v151 σ) fun v153 σ => (hp_xs xs L (x3 + 1)).bind fun v154 => (hp_xs xs L (x3 + 2)).bind fun v155 => (hp_xs xs L (x3 + 3)).bind fun v156 => (hp_xs xs L (x3 + 4)).bind fun v157 => hp_b (f_Mo_put a2 v154 v155 v156 v157 σ) fun v159 σ => if v153 = v159 then (f_Law_l1 xs L a1 a2 n (x3 + 8) σ) else (none)) else (if (v6 &&& 31) = 14 then ((hp_xs xs L (x3 + 1)).bind fun v162 => hp_b (f_NB_leave a1 v162 σ) fun v164 σ => (hp_xs xs L (x3 + 1)).bind fun v165 => hp_b (f_Mo_leave a2 v165 σ) fun v167 σ => if v164 = v167 then (f_Law_l1 xs L a1 a2 n (x3 + 8) σ) else (none)) else (if (v6 &&& 31) = 15 then ((hp_xs xs L (x3 + 1)).bind fun v170 => (hp_xs xs L (x3 + 2)).bind fun v171 => hp_b (f_NB_come a1 v170 v171 σ) fun v173 σ => (hp_xs xs L (x3 + 1)).bind fun v174 => (hp_xs xs L (x3 + 2)).bind fun v175 => hp_b (f_Mo_come a2 v174 v175 σ) fun v177 σ => if v173 = v177 then (f_Law_l1 xs L a1 a2 n (x3 + 8) σ) else (none)) else (if (v6 &&& 31) = 16 then (hp_b (f_NB_part a1 σ) fun v181 σ => hp_b (f_Mo_part a2 σ) fun v183 σ => if v181 = v183 then (f_Law_l1 xs L a1 a2 n (x3 + 8) σ) else (none)) else (if (v6 &&& 31) = 17 then ((hp_xs xs L (x3 + 1)).bind fun v186 => hp_b (f_NB_drift a1 v186 σ) fun v188 σ => (hp_xs xs L (x3 + 1)).bind fun v189 => hp_b (f_Mo_drift a2 v189 σ) fun v191 σ => if v188 = v191 then (f_Law_l1 xs L a1 a2 n (x3 + 8) σ) else (none)) else (if (v6 &&& 31) = 18 then ((hp_xs xs L (x3 + 1)).bind fun v194 => hp_b (f_NB_undo a1 v194 σ) fun v196 σ => (hp_xs xs L (x3 + 1)).bind fun v197 => hp_b (f_Mo_undo a2 v197 σ) fun v199 σ => if v196 = v199 then (f_Law_l1 xs L a1 a2 n (x3 + 8) σ) else (none)) else (if (v6 &&& 31) = 19 then ((hp_xs xs L (x3 + 1)).bind fun v202 => (hp_xs xs L (x3 + 2)).bind fun v203 => hp_b (f_NB_write a1 v202 v203 σ) fun v205 σ => (hp_xs xs L (x3 + 1)).bind fun v206 => (hp_xs xs L (x3 + 2)).bind fun v207 => hp_b (f_Mo_write a2 v206 v207 σ) fun v209 σ => if v205 = v209 then (f_Law_l1 xs L a1 a2 n (x3 + 8) σ) else (none)) else (if (v6 &&& 31) = 20 then (hp_b (f_NB_tear a1 σ) fun v213 σ => hp_b (f_Mo_tear a2 σ) fun v215 σ => if v213 = v215 then (f_Law_l1 xs L a1 a2 n (x3 + 8) σ) else (none)) else (if (v6 &&& 31) = 21 then ((hp_xs xs L (x3 + 1)).bind fun v218 => hp_b (f_NB_seed a1 v218 σ) fun v220 σ => (hp_xs xs L (x3 + 1)).bind fun v221 => hp_b (f_Mo_seed a2 v221 σ) fun v223 σ => if v220 = v223 then (f_Law_l1 xs L a1 a2 n (x3 + 8) σ) else (none)) else (if (v6 &&& 31) = 22 then ((hp_xs xs L (x3 + 1)).bind fun v226 => hp_b (f_NB_keep a1 v226 σ) fun v228 σ => (hp_xs xs L (x3 + 1)).bind fun v229 => hp_b (f_Mo_keep a2 v229 σ) fun v231 σ => if v228 = v231 then (f_Law_l1 xs L a1 a2 n (x3 + 8) σ) else (none)) else (if (v6 &&& 31) = 23 then ((hp_xs xs L (x3 + 1)).bind fun v234 => hp_b (f_NB_goBack a1 v234 σ) fun v236 σ => (hp_xs xs L (x3 + 1)).bind fun v237 => hp_b (f_Mo_goBack a2 v237 σ) fun v239 σ => if v236 = v239 then (f_Law_l1 xs L a1 a2 n (x3 + 8) σ) else (none)) else (f_Law_l1 xs L a1 a2 n (x3 + 8) σ)))))))))))))))))))))))))
def f_Law (xs : Nat → Int32) (L : Nat) (σ : hp_H) : Option Unit := hp_nw σ (.inl (9, [.null, .null, .null, .null, .null, .null, .null])) fun q1 σ => (f_NB_init q1 σ).bind fun σ => hp_nw σ (.inl (10, [.null, .int 0, .null, .int 0, .null, .null, .null, .null, .int 0, .null, .null, .int 0, .null, .int 0, .null, .int 0, .int 0, .int 0, .int 0])) fun q3 σ => (f_Mo_init q3 σ).bind fun σ => f_Law_l1 xs L q1 q3 hp_F 0 σ
set_option maxHeartbeats 8000000 in
set_option maxRecDepth 100000 in
theorem w_Law_l1 {p : Program} {l : Launch} {e : Env} {s : State} {m : MethodId} {below : List Frame} {meth : Method} {c : Code} {G : hp_G} {bs L a1 a2 : Nat} {xs : Nat → Int32} (hX : hp_X G p s m c #[Value.ref bs] cL_law 4 RL) (hb2 : c.code = code) (hV : va_X bs L xs s s.heap ∧ bs < s.heap.size) (hlocks : meth.locks = false) (hr : meth.sig.returnType = ret) :
    ∀ (n : Nat) (x3 : Int32) (σ : hp_H) (H : Heap) (locs : List Loc) (ls : Array Slot), hp_R G s.heap.size s.heap σ H locs → f_Law_l1 xs L a1 a2 n x3 σ = some () → lv_has ls 4 [(0, .ref bs), (1, .ref a1), (2, .ref a2), (3, .int x3)] → W p l e room_1 s m #[Value.ref bs] below meth c H locs 491 10476 (lw_Z below #[Value.ref bs] s) (F0 m 18 ls []) := by
  obtain ⟨hx, hb, hml, hown, hts⟩ := id hX.1
  intro n
  induction n with
  | zero =>
    intro x3 σ H locs ls hR h hl
    rw [f_Law_l1] at h
    cases h
  | succ n ih =>
    intro x3 σ H locs ls hR h hl
    rw [f_Law_l1] at h
    refine lv_iload_n hx hb dL_law_18 rfl (lv_at hl 3 rfl) ?_
    refine lv_aload_n hx hb dL_law_19 rfl (lv_at hl 0 rfl) ?_
    refine hp_slen hX hV hR dL_law_20 ?_
    refine lv_bipush (v := 8) hx hb dL_law_21 (by decide) ?_
    refine lv_isub hx hb dL_law_23 ?_
    refine lv_icmp_gt (tgt := 916) hx hb dL_law_24 (by decide) (fun c5 => ?_) (fun c5 => ?_)
    · have h := hp_ip c5 h
      refine lv_iconst (v := 1) hx hb dL_law_916 (by decide) ?_
      exact hp_lend hX hb2 hlocks hr hR dL_law_917 (Nat.le_of_ble_eq_true rfl) (Nat.le_of_ble_eq_true rfl)
    · have h := hp_in c5 h
      refine lv_aload_n hx hb dL_law_27 rfl (lv_at hl 0 rfl) ?_
      refine lv_iload_n hx hb dL_law_28 rfl (lv_at hl 3 rfl) ?_
      refine hp_sld hX hV hR dL_law_29 h (fun v6 h => ?_)
      refine lv_bipush (v := 31) hx hb dL_law_30 (by decide) ?_
      refine lv_iand hx hb dL_law_32 ?_
      rcases Decidable.em ((v6 &&& 31) = 0) with c7 | c7
      · have h := hp_ip c7 h
        refine lv_tableIn (off := 111) (tgt := 144) hx hb dL_law_33 (by rw [c7]; decide) (by rw [c7]; decide) (by rw [c7]; decide) (by decide) ?_
        refine lv_aload_n hx hb dL_law_144 rfl (lv_at hl 1 rfl) ?_
        refine lv_aload_n hx hb dL_law_145 rfl (lv_at hl 0 rfl) ?_
        refine lv_iload_n hx hb dL_law_146 rfl (lv_at hl 3 rfl) ?_
        refine lv_iconst (v := 1) hx hb dL_law_147 (by decide) ?_
        refine lv_iadd hx hb dL_law_148 ?_
        refine hp_sld hX hV hR dL_law_149 h (fun v8 h => ?_)
        refine hp_b2 h (fun v10 σ h9 h => ?_)
        refine hp_ci hR (hp_runV (rest := []) (As := [.int v8]) hX hR (c_NB_told h9) cs_L_13 rfl rfl rfl hd_NB_told ⟨Nat.le_of_ble_eq_true rfl, Nat.le_of_ble_eq_true rfl⟩ (ci := 9) rfl (hp_own_is h9) rfl hl.1 rfl (Nat.le_of_ble_eq_true rfl) dL_law_150 ⟨Nat.le_of_ble_eq_true rfl, Nat.le_of_ble_eq_true rfl⟩) (fun H locs hR => ?_)
        refine lv_aload_n hx hb dL_law_153 rfl (lv_at hl 2 rfl) ?_
        refine lv_aload_n hx hb dL_law_154 rfl (lv_at hl 0 rfl) ?_
        refine lv_iload_n hx hb dL_law_155 rfl (lv_at hl 3 rfl) ?_
        refine lv_iconst (v := 1) hx hb dL_law_156 (by decide) ?_
        refine lv_iadd hx hb dL_law_157 ?_
        refine hp_sld hX hV hR dL_law_158 h (fun v11 h => ?_)
        refine hp_b2 h (fun v13 σ h12 h => ?_)
        refine hp_ci hR (hp_runV (rest := [.int v10]) (As := [.int v11]) hX hR (c_Mo_told h12) cs_L_17 rfl rfl rfl hd_Mo_told ⟨Nat.le_of_ble_eq_true rfl, Nat.le_of_ble_eq_true rfl⟩ (ci := 10) rfl (hp_own_is h12) rfl hl.1 rfl (Nat.le_of_ble_eq_true rfl) dL_law_159 ⟨Nat.le_of_ble_eq_true rfl, Nat.le_of_ble_eq_true rfl⟩) (fun H locs hR => ?_)
        refine lv_icmp_eq (tgt := 910) hx hb dL_law_162 (by decide) (fun c14 => ?_) (fun c14 => ?_)
        · have h := hp_ip c14 h
          refine lv_iinc (v := (x3 + 8)) (lv' := [(3, .int (x3 + 8)), (0, .ref bs), (1, .ref a1), (2, .ref a2)]) hx hb dL_law_910 hl (k := 3) rfl rfl (by decide) rfl (fun ls hl => ?_)
          refine lv_goto (tgt := 18) hx hb dL_law_913 (by decide) ?_
          exact ih _ _ _ _ _ hR h (lv_sub hl [1, 2, 3, 0] rfl)
        · have h := hp_in c14 h
          refine lv_iconst (v := 0) hx hb dL_law_165 (by decide) ?_
          cases h
      · have h := hp_in c7 h
        rcases Decidable.em ((v6 &&& 31) = 1) with c15 | c15
        · have h := hp_ip c15 h
          refine lv_tableIn (off := 134) (tgt := 167) hx hb dL_law_33 (by rw [c15]; decide) (by rw [c15]; decide) (by rw [c15]; decide) (by decide) ?_
          refine lv_aload_n hx hb dL_law_167 rfl (lv_at hl 1 rfl) ?_
          refine lv_aload_n hx hb dL_law_168 rfl (lv_at hl 0 rfl) ?_
          refine lv_iload_n hx hb dL_law_169 rfl (lv_at hl 3 rfl) ?_
          refine lv_iconst (v := 1) hx hb dL_law_170 (by decide) ?_
          refine lv_iadd hx hb dL_law_171 ?_
          refine hp_sld hX hV hR dL_law_172 h (fun v16 h => ?_)
          refine lv_aload_n hx hb dL_law_173 rfl (lv_at hl 0 rfl) ?_
          refine lv_iload_n hx hb dL_law_174 rfl (lv_at hl 3 rfl) ?_
          refine lv_iconst (v := 2) hx hb dL_law_175 (by decide) ?_
          refine lv_iadd hx hb dL_law_176 ?_
          refine hp_sld hX hV hR dL_law_177 h (fun v17 h => ?_)
          refine hp_bn h (fun v19 h18 h => ?_)
          refine hp_ci hR (hp_runV (rest := []) (As := [.int v16, .int v17]) hX hR (c_NB_brokerAt h18) cs_L_18 rfl rfl rfl hd_NB_brokerAt ⟨Nat.le_of_ble_eq_true rfl, Nat.le_of_ble_eq_true rfl⟩ (ci := 9) rfl (hp_own_is h18) rfl hl.1 rfl (Nat.le_of_ble_eq_true rfl) dL_law_178 ⟨Nat.le_of_ble_eq_true rfl, Nat.le_of_ble_eq_true rfl⟩) (fun H locs hR => ?_)
          refine lv_aload_n hx hb dL_law_181 rfl (lv_at hl 2 rfl) ?_
          refine lv_aload_n hx hb dL_law_182 rfl (lv_at hl 0 rfl) ?_
          refine lv_iload_n hx hb dL_law_183 rfl (lv_at hl 3 rfl) ?_
          refine lv_iconst (v := 1) hx hb dL_law_184 (by decide) ?_
          refine lv_iadd hx hb dL_law_185 ?_
          refine hp_sld hX hV hR dL_law_186 h (fun v20 h => ?_)
          refine lv_aload_n hx hb dL_law_187 rfl (lv_at hl 0 rfl) ?_
          refine lv_iload_n hx hb dL_law_188 rfl (lv_at hl 3 rfl) ?_
          refine lv_iconst (v := 2) hx hb dL_law_189 (by decide) ?_
          refine lv_iadd hx hb dL_law_190 ?_
          refine hp_sld hX hV hR dL_law_191 h (fun v21 h => ?_)
          refine hp_bn h (fun v23 h22 h => ?_)
          refine hp_ci hR (hp_runV (rest := [.int v19]) (As := [.int v20, .int v21]) hX hR (c_Mo_brokerAt h22) cs_L_22 rfl rfl rfl hd_Mo_brokerAt ⟨Nat.le_of_ble_eq_true rfl, Nat.le_of_ble_eq_true rfl⟩ (ci := 10) rfl (hp_own_is h22) rfl hl.1 rfl (Nat.le_of_ble_eq_true rfl) dL_law_192 ⟨Nat.le_of_ble_eq_true rfl, Nat.le_of_ble_eq_true rfl⟩) (fun H locs hR => ?_)
          refine lv_icmp_eq (tgt := 910) hx hb dL_law_195 (by decide) (fun c24 => ?_) (fun c24 => ?_)
          · have h := hp_ip c24 h
            refine lv_iinc (v := (x3 + 8)) (lv' := [(3, .int (x3 + 8)), (0, .ref bs), (1, .ref a1), (2, .ref a2)]) hx hb dL_law_910 hl (k := 3) rfl rfl (by decide) rfl (fun ls hl => ?_)
            refine lv_goto (tgt := 18) hx hb dL_law_913 (by decide) ?_
            exact ih _ _ _ _ _ hR h (lv_sub hl [1, 2, 3, 0] rfl)
          · have h := hp_in c24 h
            refine lv_iconst (v := 0) hx hb dL_law_198 (by decide) ?_
            cases h
        · have h := hp_in c15 h
          rcases Decidable.em ((v6 &&& 31) = 2) with c25 | c25
          · have h := hp_ip c25 h
            refine lv_tableIn (off := 167) (tgt := 200) hx hb dL_law_33 (by rw [c25]; decide) (by rw [c25]; decide) (by rw [c25]; decide) (by decide) ?_
            refine lv_aload_n hx hb dL_law_200 rfl (lv_at hl 1 rfl) ?_
            refine lv_aload_n hx hb dL_law_201 rfl (lv_at hl 0 rfl) ?_
            refine lv_iload_n hx hb dL_law_202 rfl (lv_at hl 3 rfl) ?_
            refine lv_iconst (v := 1) hx hb dL_law_203 (by decide) ?_
            refine lv_iadd hx hb dL_law_204 ?_
            refine hp_sld hX hV hR dL_law_205 h (fun v26 h => ?_)
            refine lv_aload_n hx hb dL_law_206 rfl (lv_at hl 0 rfl) ?_
            refine lv_iload_n hx hb dL_law_207 rfl (lv_at hl 3 rfl) ?_
            refine lv_iconst (v := 2) hx hb dL_law_208 (by decide) ?_
            refine lv_iadd hx hb dL_law_209 ?_
            refine hp_sld hX hV hR dL_law_210 h (fun v27 h => ?_)
            refine hp_bn h (fun v29 h28 h => ?_)
            refine hp_ci hR (hp_runV (rest := []) (As := [.int v26, .int v27]) hX hR (c_NB_clientAt h28) cs_L_23 rfl rfl rfl hd_NB_clientAt ⟨Nat.le_of_ble_eq_true rfl, Nat.le_of_ble_eq_true rfl⟩ (ci := 9) rfl (hp_own_is h28) rfl hl.1 rfl (Nat.le_of_ble_eq_true rfl) dL_law_211 ⟨Nat.le_of_ble_eq_true rfl, Nat.le_of_ble_eq_true rfl⟩) (fun H locs hR => ?_)
            refine lv_aload_n hx hb dL_law_214 rfl (lv_at hl 2 rfl) ?_
            refine lv_aload_n hx hb dL_law_215 rfl (lv_at hl 0 rfl) ?_
            refine lv_iload_n hx hb dL_law_216 rfl (lv_at hl 3 rfl) ?_
            refine lv_iconst (v := 1) hx hb dL_law_217 (by decide) ?_
            refine lv_iadd hx hb dL_law_218 ?_
            refine hp_sld hX hV hR dL_law_219 h (fun v30 h => ?_)
            refine lv_aload_n hx hb dL_law_220 rfl (lv_at hl 0 rfl) ?_
            refine lv_iload_n hx hb dL_law_221 rfl (lv_at hl 3 rfl) ?_
            refine lv_iconst (v := 2) hx hb dL_law_222 (by decide) ?_
            refine lv_iadd hx hb dL_law_223 ?_
            refine hp_sld hX hV hR dL_law_224 h (fun v31 h => ?_)
            refine hp_bn h (fun v33 h32 h => ?_)
            refine hp_ci hR (hp_runV (rest := [.int v29]) (As := [.int v30, .int v31]) hX hR (c_Mo_clientAt h32) cs_L_26 rfl rfl rfl hd_Mo_clientAt ⟨Nat.le_of_ble_eq_true rfl, Nat.le_of_ble_eq_true rfl⟩ (ci := 10) rfl (hp_own_is h32) rfl hl.1 rfl (Nat.le_of_ble_eq_true rfl) dL_law_225 ⟨Nat.le_of_ble_eq_true rfl, Nat.le_of_ble_eq_true rfl⟩) (fun H locs hR => ?_)
            refine lv_icmp_eq (tgt := 910) hx hb dL_law_228 (by decide) (fun c34 => ?_) (fun c34 => ?_)
            · have h := hp_ip c34 h
              refine lv_iinc (v := (x3 + 8)) (lv' := [(3, .int (x3 + 8)), (0, .ref bs), (1, .ref a1), (2, .ref a2)]) hx hb dL_law_910 hl (k := 3) rfl rfl (by decide) rfl (fun ls hl => ?_)
              refine lv_goto (tgt := 18) hx hb dL_law_913 (by decide) ?_
              exact ih _ _ _ _ _ hR h (lv_sub hl [1, 2, 3, 0] rfl)
            · have h := hp_in c34 h
              refine lv_iconst (v := 0) hx hb dL_law_231 (by decide) ?_
              cases h
          · have h := hp_in c25 h
            rcases Decidable.em ((v6 &&& 31) = 3) with c35 | c35
            · have h := hp_ip c35 h
              refine lv_tableIn (off := 200) (tgt := 233) hx hb dL_law_33 (by rw [c35]; decide) (by rw [c35]; decide) (by rw [c35]; decide) (by decide) ?_
              refine lv_aload_n hx hb dL_law_233 rfl (lv_at hl 1 rfl) ?_
              refine lv_aload_n hx hb dL_law_234 rfl (lv_at hl 0 rfl) ?_
              refine lv_iload_n hx hb dL_law_235 rfl (lv_at hl 3 rfl) ?_
              refine lv_iconst (v := 1) hx hb dL_law_236 (by decide) ?_
              refine lv_iadd hx hb dL_law_237 ?_
              refine hp_sld hX hV hR dL_law_238 h (fun v36 h => ?_)
              refine lv_aload_n hx hb dL_law_239 rfl (lv_at hl 0 rfl) ?_
              refine lv_iload_n hx hb dL_law_240 rfl (lv_at hl 3 rfl) ?_
              refine lv_iconst (v := 2) hx hb dL_law_241 (by decide) ?_
              refine lv_iadd hx hb dL_law_242 ?_
              refine hp_sld hX hV hR dL_law_243 h (fun v37 h => ?_)
              refine hp_bn h (fun v39 h38 h => ?_)
              refine hp_ci hR (hp_runV (rest := []) (As := [.int v36, .int v37]) hX hR (c_NB_log h38) cs_L_27 rfl rfl rfl hd_NB_log ⟨Nat.le_of_ble_eq_true rfl, Nat.le_of_ble_eq_true rfl⟩ (ci := 9) rfl (hp_own_is h38) rfl hl.1 rfl (Nat.le_of_ble_eq_true rfl) dL_law_244 ⟨Nat.le_of_ble_eq_true rfl, Nat.le_of_ble_eq_true rfl⟩) (fun H locs hR => ?_)
              refine lv_aload_n hx hb dL_law_247 rfl (lv_at hl 2 rfl) ?_
              refine lv_aload_n hx hb dL_law_248 rfl (lv_at hl 0 rfl) ?_
              refine lv_iload_n hx hb dL_law_249 rfl (lv_at hl 3 rfl) ?_
              refine lv_iconst (v := 1) hx hb dL_law_250 (by decide) ?_
              refine lv_iadd hx hb dL_law_251 ?_
              refine hp_sld hX hV hR dL_law_252 h (fun v40 h => ?_)
              refine lv_aload_n hx hb dL_law_253 rfl (lv_at hl 0 rfl) ?_
              refine lv_iload_n hx hb dL_law_254 rfl (lv_at hl 3 rfl) ?_
              refine lv_iconst (v := 2) hx hb dL_law_255 (by decide) ?_
              refine lv_iadd hx hb dL_law_256 ?_
              refine hp_sld hX hV hR dL_law_257 h (fun v41 h => ?_)
              refine hp_bn h (fun v43 h42 h => ?_)
              refine hp_ci hR (hp_runV (rest := [.int v39]) (As := [.int v40, .int v41]) hX hR (c_Mo_log h42) cs_L_30 rfl rfl rfl hd_Mo_log ⟨Nat.le_of_ble_eq_true rfl, Nat.le_of_ble_eq_true rfl⟩ (ci := 10) rfl (hp_own_is h42) rfl hl.1 rfl (Nat.le_of_ble_eq_true rfl) dL_law_258 ⟨Nat.le_of_ble_eq_true rfl, Nat.le_of_ble_eq_true rfl⟩) (fun H locs hR => ?_)
              refine lv_icmp_eq (tgt := 910) hx hb dL_law_261 (by decide) (fun c44 => ?_) (fun c44 => ?_)
              · have h := hp_ip c44 h
                refine lv_iinc (v := (x3 + 8)) (lv' := [(3, .int (x3 + 8)), (0, .ref bs), (1, .ref a1), (2, .ref a2)]) hx hb dL_law_910 hl (k := 3) rfl rfl (by decide) rfl (fun ls hl => ?_)
                refine lv_goto (tgt := 18) hx hb dL_law_913 (by decide) ?_
                exact ih _ _ _ _ _ hR h (lv_sub hl [1, 2, 3, 0] rfl)
              · have h := hp_in c44 h
                refine lv_iconst (v := 0) hx hb dL_law_264 (by decide) ?_
                cases h
            · have h := hp_in c35 h
              rcases Decidable.em ((v6 &&& 31) = 4) with c45 | c45
              · have h := hp_ip c45 h
                refine lv_tableIn (off := 233) (tgt := 266) hx hb dL_law_33 (by rw [c45]; decide) (by rw [c45]; decide) (by rw [c45]; decide) (by decide) ?_
                refine lv_aload_n hx hb dL_law_266 rfl (lv_at hl 1 rfl) ?_
                refine lv_aload_n hx hb dL_law_267 rfl (lv_at hl 0 rfl) ?_
                refine lv_iload_n hx hb dL_law_268 rfl (lv_at hl 3 rfl) ?_
                refine lv_iconst (v := 1) hx hb dL_law_269 (by decide) ?_
                refine lv_iadd hx hb dL_law_270 ?_
                refine hp_sld hX hV hR dL_law_271 h (fun v46 h => ?_)
                refine lv_aload_n hx hb dL_law_272 rfl (lv_at hl 0 rfl) ?_
                refine lv_iload_n hx hb dL_law_273 rfl (lv_at hl 3 rfl) ?_
                refine lv_iconst (v := 2) hx hb dL_law_274 (by decide) ?_
                refine lv_iadd hx hb dL_law_275 ?_
                refine hp_sld hX hV hR dL_law_276 h (fun v47 h => ?_)
                refine hp_bn h (fun v49 h48 h => ?_)
                refine hp_ci hR (hp_runV (rest := []) (As := [.int v46, .int v47]) hX hR (c_NB_wishAt h48) cs_L_31 rfl rfl rfl hd_NB_wishAt ⟨Nat.le_of_ble_eq_true rfl, Nat.le_of_ble_eq_true rfl⟩ (ci := 9) rfl (hp_own_is h48) rfl hl.1 rfl (Nat.le_of_ble_eq_true rfl) dL_law_277 ⟨Nat.le_of_ble_eq_true rfl, Nat.le_of_ble_eq_true rfl⟩) (fun H locs hR => ?_)
                refine lv_aload_n hx hb dL_law_280 rfl (lv_at hl 2 rfl) ?_
                refine lv_aload_n hx hb dL_law_281 rfl (lv_at hl 0 rfl) ?_
                refine lv_iload_n hx hb dL_law_282 rfl (lv_at hl 3 rfl) ?_
                refine lv_iconst (v := 1) hx hb dL_law_283 (by decide) ?_
                refine lv_iadd hx hb dL_law_284 ?_
                refine hp_sld hX hV hR dL_law_285 h (fun v50 h => ?_)
                refine lv_aload_n hx hb dL_law_286 rfl (lv_at hl 0 rfl) ?_
                refine lv_iload_n hx hb dL_law_287 rfl (lv_at hl 3 rfl) ?_
                refine lv_iconst (v := 2) hx hb dL_law_288 (by decide) ?_
                refine lv_iadd hx hb dL_law_289 ?_
                refine hp_sld hX hV hR dL_law_290 h (fun v51 h => ?_)
                refine hp_b2 h (fun v53 σ h52 h => ?_)
                refine hp_ci hR (hp_runV (rest := [.int v49]) (As := [.int v50, .int v51]) hX hR (c_Mo_wishAt h52) cs_L_34 rfl rfl rfl hd_Mo_wishAt ⟨Nat.le_of_ble_eq_true rfl, Nat.le_of_ble_eq_true rfl⟩ (ci := 10) rfl (hp_own_is h52) rfl hl.1 rfl (Nat.le_of_ble_eq_true rfl) dL_law_291 ⟨Nat.le_of_ble_eq_true rfl, Nat.le_of_ble_eq_true rfl⟩) (fun H locs hR => ?_)
                refine lv_icmp_eq (tgt := 910) hx hb dL_law_294 (by decide) (fun c54 => ?_) (fun c54 => ?_)
                · have h := hp_ip c54 h
                  refine lv_iinc (v := (x3 + 8)) (lv' := [(3, .int (x3 + 8)), (0, .ref bs), (1, .ref a1), (2, .ref a2)]) hx hb dL_law_910 hl (k := 3) rfl rfl (by decide) rfl (fun ls hl => ?_)
                  refine lv_goto (tgt := 18) hx hb dL_law_913 (by decide) ?_
                  exact ih _ _ _ _ _ hR h (lv_sub hl [1, 2, 3, 0] rfl)
                · have h := hp_in c54 h
                  refine lv_iconst (v := 0) hx hb dL_law_297 (by decide) ?_
                  cases h
              · have h := hp_in c45 h
                rcases Decidable.em ((v6 &&& 31) = 5) with c55 | c55
                · have h := hp_ip c55 h
                  refine lv_tableIn (off := 266) (tgt := 299) hx hb dL_law_33 (by rw [c55]; decide) (by rw [c55]; decide) (by rw [c55]; decide) (by decide) ?_
                  refine lv_aload_n hx hb dL_law_299 rfl (lv_at hl 1 rfl) ?_
                  refine lv_aload_n hx hb dL_law_300 rfl (lv_at hl 0 rfl) ?_
                  refine lv_iload_n hx hb dL_law_301 rfl (lv_at hl 3 rfl) ?_
                  refine lv_iconst (v := 1) hx hb dL_law_302 (by decide) ?_
                  refine lv_iadd hx hb dL_law_303 ?_
                  refine hp_sld hX hV hR dL_law_304 h (fun v56 h => ?_)
                  refine lv_aload_n hx hb dL_law_305 rfl (lv_at hl 0 rfl) ?_
                  refine lv_iload_n hx hb dL_law_306 rfl (lv_at hl 3 rfl) ?_
                  refine lv_iconst (v := 2) hx hb dL_law_307 (by decide) ?_
                  refine lv_iadd hx hb dL_law_308 ?_
                  refine hp_sld hX hV hR dL_law_309 h (fun v57 h => ?_)
                  refine hp_b2 h (fun v59 σ h58 h => ?_)
                  refine hp_ci hR (hp_runV (rest := []) (As := [.int v56, .int v57]) hX hR (c_NB_toldOn h58) cs_L_35 rfl rfl rfl hd_NB_toldOn ⟨Nat.le_of_ble_eq_true rfl, Nat.le_of_ble_eq_true rfl⟩ (ci := 9) rfl (hp_own_is h58) rfl hl.1 rfl (Nat.le_of_ble_eq_true rfl) dL_law_310 ⟨Nat.le_of_ble_eq_true rfl, Nat.le_of_ble_eq_true rfl⟩) (fun H locs hR => ?_)
                  refine lv_aload_n hx hb dL_law_313 rfl (lv_at hl 2 rfl) ?_
                  refine lv_aload_n hx hb dL_law_314 rfl (lv_at hl 0 rfl) ?_
                  refine lv_iload_n hx hb dL_law_315 rfl (lv_at hl 3 rfl) ?_
                  refine lv_iconst (v := 1) hx hb dL_law_316 (by decide) ?_
                  refine lv_iadd hx hb dL_law_317 ?_
                  refine hp_sld hX hV hR dL_law_318 h (fun v60 h => ?_)
                  refine lv_aload_n hx hb dL_law_319 rfl (lv_at hl 0 rfl) ?_
                  refine lv_iload_n hx hb dL_law_320 rfl (lv_at hl 3 rfl) ?_
                  refine lv_iconst (v := 2) hx hb dL_law_321 (by decide) ?_
                  refine lv_iadd hx hb dL_law_322 ?_
                  refine hp_sld hX hV hR dL_law_323 h (fun v61 h => ?_)
                  refine hp_b2 h (fun v63 σ h62 h => ?_)
                  refine hp_ci hR (hp_runV (rest := [.int v59]) (As := [.int v60, .int v61]) hX hR (c_Mo_toldOn h62) cs_L_38 rfl rfl rfl hd_Mo_toldOn ⟨Nat.le_of_ble_eq_true rfl, Nat.le_of_ble_eq_true rfl⟩ (ci := 10) rfl (hp_own_is h62) rfl hl.1 rfl (Nat.le_of_ble_eq_true rfl) dL_law_324 ⟨Nat.le_of_ble_eq_true rfl, Nat.le_of_ble_eq_true rfl⟩) (fun H locs hR => ?_)
                  refine lv_icmp_eq (tgt := 910) hx hb dL_law_327 (by decide) (fun c64 => ?_) (fun c64 => ?_)
                  · have h := hp_ip c64 h
                    refine lv_iinc (v := (x3 + 8)) (lv' := [(3, .int (x3 + 8)), (0, .ref bs), (1, .ref a1), (2, .ref a2)]) hx hb dL_law_910 hl (k := 3) rfl rfl (by decide) rfl (fun ls hl => ?_)
                    refine lv_goto (tgt := 18) hx hb dL_law_913 (by decide) ?_
                    exact ih _ _ _ _ _ hR h (lv_sub hl [1, 2, 3, 0] rfl)
                  · have h := hp_in c64 h
                    refine lv_iconst (v := 0) hx hb dL_law_330 (by decide) ?_
                    cases h
                · have h := hp_in c55 h
                  rcases Decidable.em ((v6 &&& 31) = 6) with c65 | c65
                  · have h := hp_ip c65 h
                    refine lv_tableIn (off := 299) (tgt := 332) hx hb dL_law_33 (by rw [c65]; decide) (by rw [c65]; decide) (by rw [c65]; decide) (by decide) ?_
                    refine lv_aload_n hx hb dL_law_332 rfl (lv_at hl 1 rfl) ?_
                    refine lv_aload_n hx hb dL_law_333 rfl (lv_at hl 0 rfl) ?_
                    refine lv_iload_n hx hb dL_law_334 rfl (lv_at hl 3 rfl) ?_
                    refine lv_iconst (v := 1) hx hb dL_law_335 (by decide) ?_
                    refine lv_iadd hx hb dL_law_336 ?_
                    refine hp_sld hX hV hR dL_law_337 h (fun v66 h => ?_)
                    refine lv_aload_n hx hb dL_law_338 rfl (lv_at hl 0 rfl) ?_
                    refine lv_iload_n hx hb dL_law_339 rfl (lv_at hl 3 rfl) ?_
                    refine lv_iconst (v := 2) hx hb dL_law_340 (by decide) ?_
                    refine lv_iadd hx hb dL_law_341 ?_
                    refine hp_sld hX hV hR dL_law_342 h (fun v67 h => ?_)
                    refine lv_aload_n hx hb dL_law_343 rfl (lv_at hl 0 rfl) ?_
                    refine lv_iload_n hx hb dL_law_344 rfl (lv_at hl 3 rfl) ?_
                    refine lv_iconst (v := 3) hx hb dL_law_345 (by decide) ?_
                    refine lv_iadd hx hb dL_law_346 ?_
                    refine hp_sld hX hV hR dL_law_347 h (fun v68 h => ?_)
                    refine lv_aload_n hx hb dL_law_348 rfl (lv_at hl 0 rfl) ?_
                    refine lv_iload_n hx hb dL_law_349 rfl (lv_at hl 3 rfl) ?_
                    refine lv_iconst (v := 4) hx hb dL_law_350 (by decide) ?_
                    refine lv_iadd hx hb dL_law_351 ?_
                    refine hp_sld hX hV hR dL_law_352 h (fun v69 h => ?_)
                    refine hp_b2 h (fun v71 σ h70 h => ?_)
                    refine hp_ci hR (hp_runV (rest := []) (As := [.int v66, .int v67, .int v68, .int v69]) hX hR (c_NB_box h70) cs_L_39 rfl rfl rfl hd_NB_box ⟨Nat.le_of_ble_eq_true rfl, Nat.le_of_ble_eq_true rfl⟩ (ci := 9) rfl (hp_own_is h70) rfl hl.1 rfl (Nat.le_of_ble_eq_true rfl) dL_law_353 ⟨Nat.le_of_ble_eq_true rfl, Nat.le_of_ble_eq_true rfl⟩) (fun H locs hR => ?_)
                    refine lv_aload_n hx hb dL_law_356 rfl (lv_at hl 2 rfl) ?_
                    refine lv_aload_n hx hb dL_law_357 rfl (lv_at hl 0 rfl) ?_
                    refine lv_iload_n hx hb dL_law_358 rfl (lv_at hl 3 rfl) ?_
                    refine lv_iconst (v := 1) hx hb dL_law_359 (by decide) ?_
                    refine lv_iadd hx hb dL_law_360 ?_
                    refine hp_sld hX hV hR dL_law_361 h (fun v72 h => ?_)
                    refine lv_aload_n hx hb dL_law_362 rfl (lv_at hl 0 rfl) ?_
                    refine lv_iload_n hx hb dL_law_363 rfl (lv_at hl 3 rfl) ?_
                    refine lv_iconst (v := 2) hx hb dL_law_364 (by decide) ?_
                    refine lv_iadd hx hb dL_law_365 ?_
                    refine hp_sld hX hV hR dL_law_366 h (fun v73 h => ?_)
                    refine lv_aload_n hx hb dL_law_367 rfl (lv_at hl 0 rfl) ?_
                    refine lv_iload_n hx hb dL_law_368 rfl (lv_at hl 3 rfl) ?_
                    refine lv_iconst (v := 3) hx hb dL_law_369 (by decide) ?_
                    refine lv_iadd hx hb dL_law_370 ?_
                    refine hp_sld hX hV hR dL_law_371 h (fun v74 h => ?_)
                    refine lv_aload_n hx hb dL_law_372 rfl (lv_at hl 0 rfl) ?_
                    refine lv_iload_n hx hb dL_law_373 rfl (lv_at hl 3 rfl) ?_
                    refine lv_iconst (v := 4) hx hb dL_law_374 (by decide) ?_
                    refine lv_iadd hx hb dL_law_375 ?_
                    refine hp_sld hX hV hR dL_law_376 h (fun v75 h => ?_)
                    refine hp_b2 h (fun v77 σ h76 h => ?_)
                    refine hp_ci hR (hp_runV (rest := [.int v71]) (As := [.int v72, .int v73, .int v74, .int v75]) hX hR (c_Mo_box h76) cs_L_43 rfl rfl rfl hd_Mo_box ⟨Nat.le_of_ble_eq_true rfl, Nat.le_of_ble_eq_true rfl⟩ (ci := 10) rfl (hp_own_is h76) rfl hl.1 rfl (Nat.le_of_ble_eq_true rfl) dL_law_377 ⟨Nat.le_of_ble_eq_true rfl, Nat.le_of_ble_eq_true rfl⟩) (fun H locs hR => ?_)
                    refine lv_icmp_eq (tgt := 910) hx hb dL_law_380 (by decide) (fun c78 => ?_) (fun c78 => ?_)
                    · have h := hp_ip c78 h
                      refine lv_iinc (v := (x3 + 8)) (lv' := [(3, .int (x3 + 8)), (0, .ref bs), (1, .ref a1), (2, .ref a2)]) hx hb dL_law_910 hl (k := 3) rfl rfl (by decide) rfl (fun ls hl => ?_)
                      refine lv_goto (tgt := 18) hx hb dL_law_913 (by decide) ?_
                      exact ih _ _ _ _ _ hR h (lv_sub hl [1, 2, 3, 0] rfl)
                    · have h := hp_in c78 h
                      refine lv_iconst (v := 0) hx hb dL_law_383 (by decide) ?_
                      cases h
                  · have h := hp_in c65 h
                    rcases Decidable.em ((v6 &&& 31) = 7) with c79 | c79
                    · have h := hp_ip c79 h
                      refine lv_tableIn (off := 352) (tgt := 385) hx hb dL_law_33 (by rw [c79]; decide) (by rw [c79]; decide) (by rw [c79]; decide) (by decide) ?_
                      refine lv_aload_n hx hb dL_law_385 rfl (lv_at hl 1 rfl) ?_
                      refine lv_aload_n hx hb dL_law_386 rfl (lv_at hl 0 rfl) ?_
                      refine lv_iload_n hx hb dL_law_387 rfl (lv_at hl 3 rfl) ?_
                      refine lv_iconst (v := 1) hx hb dL_law_388 (by decide) ?_
                      refine lv_iadd hx hb dL_law_389 ?_
                      refine hp_sld hX hV hR dL_law_390 h (fun v80 h => ?_)
                      refine lv_aload_n hx hb dL_law_391 rfl (lv_at hl 0 rfl) ?_
                      refine lv_iload_n hx hb dL_law_392 rfl (lv_at hl 3 rfl) ?_
                      refine lv_iconst (v := 2) hx hb dL_law_393 (by decide) ?_
                      refine lv_iadd hx hb dL_law_394 ?_
                      refine hp_sld hX hV hR dL_law_395 h (fun v81 h => ?_)
                      refine lv_aload_n hx hb dL_law_396 rfl (lv_at hl 0 rfl) ?_
                      refine lv_iload_n hx hb dL_law_397 rfl (lv_at hl 3 rfl) ?_
                      refine lv_iconst (v := 3) hx hb dL_law_398 (by decide) ?_
                      refine lv_iadd hx hb dL_law_399 ?_
                      refine hp_sld hX hV hR dL_law_400 h (fun v82 h => ?_)
                      refine lv_aload_n hx hb dL_law_401 rfl (lv_at hl 0 rfl) ?_
                      refine lv_iload_n hx hb dL_law_402 rfl (lv_at hl 3 rfl) ?_
                      refine lv_iconst (v := 4) hx hb dL_law_403 (by decide) ?_
                      refine lv_iadd hx hb dL_law_404 ?_
                      refine hp_sld hX hV hR dL_law_405 h (fun v83 h => ?_)
                      refine lv_aload_n hx hb dL_law_406 rfl (lv_at hl 0 rfl) ?_
                      refine lv_iload_n hx hb dL_law_407 rfl (lv_at hl 3 rfl) ?_
                      refine lv_iconst (v := 5) hx hb dL_law_408 (by decide) ?_
                      refine lv_iadd hx hb dL_law_409 ?_
                      refine hp_sld hX hV hR dL_law_410 h (fun v84 h => ?_)
                      refine hp_b2 h (fun v86 σ h85 h => ?_)
                      refine hp_ci hR (hp_runV (rest := []) (As := [.int v80, .int v81, .int v82, .int v83, .int v84]) hX hR (c_NB_would h85) cs_L_44 rfl rfl rfl hd_NB_would ⟨Nat.le_of_ble_eq_true rfl, Nat.le_of_ble_eq_true rfl⟩ (ci := 9) rfl (hp_own_is h85) rfl hl.1 rfl (Nat.le_of_ble_eq_true rfl) dL_law_411 ⟨Nat.le_of_ble_eq_true rfl, Nat.le_of_ble_eq_true rfl⟩) (fun H locs hR => ?_)
                      refine lv_aload_n hx hb dL_law_414 rfl (lv_at hl 2 rfl) ?_
                      refine lv_aload_n hx hb dL_law_415 rfl (lv_at hl 0 rfl) ?_
                      refine lv_iload_n hx hb dL_law_416 rfl (lv_at hl 3 rfl) ?_
                      refine lv_iconst (v := 1) hx hb dL_law_417 (by decide) ?_
                      refine lv_iadd hx hb dL_law_418 ?_
                      refine hp_sld hX hV hR dL_law_419 h (fun v87 h => ?_)
                      refine lv_aload_n hx hb dL_law_420 rfl (lv_at hl 0 rfl) ?_
                      refine lv_iload_n hx hb dL_law_421 rfl (lv_at hl 3 rfl) ?_
                      refine lv_iconst (v := 2) hx hb dL_law_422 (by decide) ?_
                      refine lv_iadd hx hb dL_law_423 ?_
                      refine hp_sld hX hV hR dL_law_424 h (fun v88 h => ?_)
                      refine lv_aload_n hx hb dL_law_425 rfl (lv_at hl 0 rfl) ?_
                      refine lv_iload_n hx hb dL_law_426 rfl (lv_at hl 3 rfl) ?_
                      refine lv_iconst (v := 3) hx hb dL_law_427 (by decide) ?_
                      refine lv_iadd hx hb dL_law_428 ?_
                      refine hp_sld hX hV hR dL_law_429 h (fun v89 h => ?_)
                      refine lv_aload_n hx hb dL_law_430 rfl (lv_at hl 0 rfl) ?_
                      refine lv_iload_n hx hb dL_law_431 rfl (lv_at hl 3 rfl) ?_
                      refine lv_iconst (v := 4) hx hb dL_law_432 (by decide) ?_
                      refine lv_iadd hx hb dL_law_433 ?_
                      refine hp_sld hX hV hR dL_law_434 h (fun v90 h => ?_)
                      refine lv_aload_n hx hb dL_law_435 rfl (lv_at hl 0 rfl) ?_
                      refine lv_iload_n hx hb dL_law_436 rfl (lv_at hl 3 rfl) ?_
                      refine lv_iconst (v := 5) hx hb dL_law_437 (by decide) ?_
                      refine lv_iadd hx hb dL_law_438 ?_
                      refine hp_sld hX hV hR dL_law_439 h (fun v91 h => ?_)
                      refine hp_b2 h (fun v93 σ h92 h => ?_)
                      refine hp_ci hR (hp_runV (rest := [.int v86]) (As := [.int v87, .int v88, .int v89, .int v90, .int v91]) hX hR (c_Mo_would h92) cs_L_48 rfl rfl rfl hd_Mo_would ⟨Nat.le_of_ble_eq_true rfl, Nat.le_of_ble_eq_true rfl⟩ (ci := 10) rfl (hp_own_is h92) rfl hl.1 rfl (Nat.le_of_ble_eq_true rfl) dL_law_440 ⟨Nat.le_of_ble_eq_true rfl, Nat.le_of_ble_eq_true rfl⟩) (fun H locs hR => ?_)
                      refine lv_icmp_eq (tgt := 910) hx hb dL_law_443 (by decide) (fun c94 => ?_) (fun c94 => ?_)
                      · have h := hp_ip c94 h
                        refine lv_iinc (v := (x3 + 8)) (lv' := [(3, .int (x3 + 8)), (0, .ref bs), (1, .ref a1), (2, .ref a2)]) hx hb dL_law_910 hl (k := 3) rfl rfl (by decide) rfl (fun ls hl => ?_)
                        refine lv_goto (tgt := 18) hx hb dL_law_913 (by decide) ?_
                        exact ih _ _ _ _ _ hR h (lv_sub hl [1, 2, 3, 0] rfl)
                      · have h := hp_in c94 h
                        refine lv_iconst (v := 0) hx hb dL_law_446 (by decide) ?_
                        cases h
                    · have h := hp_in c79 h
                      rcases Decidable.em ((v6 &&& 31) = 8) with c95 | c95
                      · have h := hp_ip c95 h
                        refine lv_tableIn (off := 415) (tgt := 448) hx hb dL_law_33 (by rw [c95]; decide) (by rw [c95]; decide) (by rw [c95]; decide) (by decide) ?_
                        refine lv_aload_n hx hb dL_law_448 rfl (lv_at hl 1 rfl) ?_
                        refine lv_aload_n hx hb dL_law_449 rfl (lv_at hl 0 rfl) ?_
                        refine lv_iload_n hx hb dL_law_450 rfl (lv_at hl 3 rfl) ?_
                        refine lv_iconst (v := 1) hx hb dL_law_451 (by decide) ?_
                        refine lv_iadd hx hb dL_law_452 ?_
                        refine hp_sld hX hV hR dL_law_453 h (fun v96 h => ?_)
                        refine hp_b2 h (fun v98 σ h97 h => ?_)
                        refine hp_ci hR (hp_runV (rest := []) (As := [.int v96]) hX hR (c_NB_broker h97) cs_L_49 rfl rfl rfl hd_NB_broker ⟨Nat.le_of_ble_eq_true rfl, Nat.le_of_ble_eq_true rfl⟩ (ci := 9) rfl (hp_own_is h97) rfl hl.1 rfl (Nat.le_of_ble_eq_true rfl) dL_law_454 ⟨Nat.le_of_ble_eq_true rfl, Nat.le_of_ble_eq_true rfl⟩) (fun H locs hR => ?_)
                        refine lv_aload_n hx hb dL_law_457 rfl (lv_at hl 2 rfl) ?_
                        refine lv_aload_n hx hb dL_law_458 rfl (lv_at hl 0 rfl) ?_
                        refine lv_iload_n hx hb dL_law_459 rfl (lv_at hl 3 rfl) ?_
                        refine lv_iconst (v := 1) hx hb dL_law_460 (by decide) ?_
                        refine lv_iadd hx hb dL_law_461 ?_
                        refine hp_sld hX hV hR dL_law_462 h (fun v99 h => ?_)
                        refine hp_b2 h (fun v101 σ h100 h => ?_)
                        refine hp_ci hR (hp_runV (rest := [.int v98]) (As := [.int v99]) hX hR (c_Mo_broker h100) cs_L_52 rfl rfl rfl hd_Mo_broker ⟨Nat.le_of_ble_eq_true rfl, Nat.le_of_ble_eq_true rfl⟩ (ci := 10) rfl (hp_own_is h100) rfl hl.1 rfl (Nat.le_of_ble_eq_true rfl) dL_law_463 ⟨Nat.le_of_ble_eq_true rfl, Nat.le_of_ble_eq_true rfl⟩) (fun H locs hR => ?_)
                        refine lv_icmp_eq (tgt := 910) hx hb dL_law_466 (by decide) (fun c102 => ?_) (fun c102 => ?_)
                        · have h := hp_ip c102 h
                          refine lv_iinc (v := (x3 + 8)) (lv' := [(3, .int (x3 + 8)), (0, .ref bs), (1, .ref a1), (2, .ref a2)]) hx hb dL_law_910 hl (k := 3) rfl rfl (by decide) rfl (fun ls hl => ?_)
                          refine lv_goto (tgt := 18) hx hb dL_law_913 (by decide) ?_
                          exact ih _ _ _ _ _ hR h (lv_sub hl [1, 2, 3, 0] rfl)
                        · have h := hp_in c102 h
                          refine lv_iconst (v := 0) hx hb dL_law_469 (by decide) ?_
                          cases h
                      · have h := hp_in c95 h
                        rcases Decidable.em ((v6 &&& 31) = 9) with c103 | c103
                        · have h := hp_ip c103 h
                          refine lv_tableIn (off := 438) (tgt := 471) hx hb dL_law_33 (by rw [c103]; decide) (by rw [c103]; decide) (by rw [c103]; decide) (by decide) ?_
                          refine lv_aload_n hx hb dL_law_471 rfl (lv_at hl 1 rfl) ?_
                          refine lv_aload_n hx hb dL_law_472 rfl (lv_at hl 0 rfl) ?_
                          refine lv_iload_n hx hb dL_law_473 rfl (lv_at hl 3 rfl) ?_
                          refine lv_iconst (v := 1) hx hb dL_law_474 (by decide) ?_
                          refine lv_iadd hx hb dL_law_475 ?_
                          refine hp_sld hX hV hR dL_law_476 h (fun v104 h => ?_)
                          refine hp_b2 h (fun v106 σ h105 h => ?_)
                          refine hp_ci hR (hp_runV (rest := []) (As := [.int v104]) hX hR (c_NB_client h105) cs_L_53 rfl rfl rfl hd_NB_client ⟨Nat.le_of_ble_eq_true rfl, Nat.le_of_ble_eq_true rfl⟩ (ci := 9) rfl (hp_own_is h105) rfl hl.1 rfl (Nat.le_of_ble_eq_true rfl) dL_law_477 ⟨Nat.le_of_ble_eq_true rfl, Nat.le_of_ble_eq_true rfl⟩) (fun H locs hR => ?_)
                          refine lv_aload_n hx hb dL_law_480 rfl (lv_at hl 2 rfl) ?_
                          refine lv_aload_n hx hb dL_law_481 rfl (lv_at hl 0 rfl) ?_
                          refine lv_iload_n hx hb dL_law_482 rfl (lv_at hl 3 rfl) ?_
                          refine lv_iconst (v := 1) hx hb dL_law_483 (by decide) ?_
                          refine lv_iadd hx hb dL_law_484 ?_
                          refine hp_sld hX hV hR dL_law_485 h (fun v107 h => ?_)
                          refine hp_b2 h (fun v109 σ h108 h => ?_)
                          refine hp_ci hR (hp_runV (rest := [.int v106]) (As := [.int v107]) hX hR (c_Mo_client h108) cs_L_56 rfl rfl rfl hd_Mo_client ⟨Nat.le_of_ble_eq_true rfl, Nat.le_of_ble_eq_true rfl⟩ (ci := 10) rfl (hp_own_is h108) rfl hl.1 rfl (Nat.le_of_ble_eq_true rfl) dL_law_486 ⟨Nat.le_of_ble_eq_true rfl, Nat.le_of_ble_eq_true rfl⟩) (fun H locs hR => ?_)
                          refine lv_icmp_eq (tgt := 910) hx hb dL_law_489 (by decide) (fun c110 => ?_) (fun c110 => ?_)
                          · have h := hp_ip c110 h
                            refine lv_iinc (v := (x3 + 8)) (lv' := [(3, .int (x3 + 8)), (0, .ref bs), (1, .ref a1), (2, .ref a2)]) hx hb dL_law_910 hl (k := 3) rfl rfl (by decide) rfl (fun ls hl => ?_)
                            refine lv_goto (tgt := 18) hx hb dL_law_913 (by decide) ?_
                            exact ih _ _ _ _ _ hR h (lv_sub hl [1, 2, 3, 0] rfl)
                          · have h := hp_in c110 h
                            refine lv_iconst (v := 0) hx hb dL_law_492 (by decide) ?_
                            cases h
                        · have h := hp_in c103 h
                          rcases Decidable.em ((v6 &&& 31) = 10) with c111 | c111
                          · have h := hp_ip c111 h
                            refine lv_tableIn (off := 461) (tgt := 494) hx hb dL_law_33 (by rw [c111]; decide) (by rw [c111]; decide) (by rw [c111]; decide) (by decide) ?_
                            refine lv_aload_n hx hb dL_law_494 rfl (lv_at hl 1 rfl) ?_
                            refine lv_aload_n hx hb dL_law_495 rfl (lv_at hl 0 rfl) ?_
                            refine lv_iload_n hx hb dL_law_496 rfl (lv_at hl 3 rfl) ?_
                            refine lv_iconst (v := 1) hx hb dL_law_497 (by decide) ?_
                            refine lv_iadd hx hb dL_law_498 ?_
                            refine hp_sld hX hV hR dL_law_499 h (fun v112 h => ?_)
                            refine lv_aload_n hx hb dL_law_500 rfl (lv_at hl 0 rfl) ?_
                            refine lv_iload_n hx hb dL_law_501 rfl (lv_at hl 3 rfl) ?_
                            refine lv_iconst (v := 2) hx hb dL_law_502 (by decide) ?_
                            refine lv_iadd hx hb dL_law_503 ?_
                            refine hp_sld hX hV hR dL_law_504 h (fun v113 h => ?_)
                            refine lv_aload_n hx hb dL_law_505 rfl (lv_at hl 0 rfl) ?_
                            refine lv_iload_n hx hb dL_law_506 rfl (lv_at hl 3 rfl) ?_
                            refine lv_iconst (v := 3) hx hb dL_law_507 (by decide) ?_
                            refine lv_iadd hx hb dL_law_508 ?_
                            refine hp_sld hX hV hR dL_law_509 h (fun v114 h => ?_)
                            refine lv_aload_n hx hb dL_law_510 rfl (lv_at hl 0 rfl) ?_
                            refine lv_iload_n hx hb dL_law_511 rfl (lv_at hl 3 rfl) ?_
                            refine lv_iconst (v := 4) hx hb dL_law_512 (by decide) ?_
                            refine lv_iadd hx hb dL_law_513 ?_
                            refine hp_sld hX hV hR dL_law_514 h (fun v115 h => ?_)
                            refine lv_aload_n hx hb dL_law_515 rfl (lv_at hl 0 rfl) ?_
                            refine lv_iload_n hx hb dL_law_516 rfl (lv_at hl 3 rfl) ?_
                            refine lv_iconst (v := 5) hx hb dL_law_517 (by decide) ?_
                            refine lv_iadd hx hb dL_law_518 ?_
                            refine hp_sld hX hV hR dL_law_519 h (fun v116 h => ?_)
                            refine lv_aload_n hx hb dL_law_520 rfl (lv_at hl 0 rfl) ?_
                            refine lv_iload_n hx hb dL_law_521 rfl (lv_at hl 3 rfl) ?_
                            refine lv_bipush (v := 6) hx hb dL_law_522 (by decide) ?_
                            refine lv_iadd hx hb dL_law_524 ?_
                            refine hp_sld hX hV hR dL_law_525 h (fun v117 h => ?_)
                            refine lv_aload_n hx hb dL_law_526 rfl (lv_at hl 0 rfl) ?_
                            refine lv_iload_n hx hb dL_law_527 rfl (lv_at hl 3 rfl) ?_
                            refine lv_bipush (v := 7) hx hb dL_law_528 (by decide) ?_
                            refine lv_iadd hx hb dL_law_530 ?_
                            refine hp_sld hX hV hR dL_law_531 h (fun v118 h => ?_)
                            refine hp_b2 h (fun v120 σ h119 h => ?_)
                            refine hp_ci hR (hp_runV (rest := []) (As := [.int v112, .int v113, .int v114, .int v115, .int v116, .int v117, .int v118]) hX hR (c_NB_wish h119) cs_L_57 rfl rfl rfl hd_NB_wish ⟨Nat.le_of_ble_eq_true rfl, Nat.le_of_ble_eq_true rfl⟩ (ci := 9) rfl (hp_own_is h119) rfl hl.1 rfl (Nat.le_of_ble_eq_true rfl) dL_law_532 ⟨Nat.le_of_ble_eq_true rfl, Nat.le_of_ble_eq_true rfl⟩) (fun H locs hR => ?_)
                            refine lv_aload_n hx hb dL_law_535 rfl (lv_at hl 2 rfl) ?_
                            refine lv_aload_n hx hb dL_law_536 rfl (lv_at hl 0 rfl) ?_
                            refine lv_iload_n hx hb dL_law_537 rfl (lv_at hl 3 rfl) ?_
                            refine lv_iconst (v := 1) hx hb dL_law_538 (by decide) ?_
                            refine lv_iadd hx hb dL_law_539 ?_
                            refine hp_sld hX hV hR dL_law_540 h (fun v121 h => ?_)
                            refine lv_aload_n hx hb dL_law_541 rfl (lv_at hl 0 rfl) ?_
                            refine lv_iload_n hx hb dL_law_542 rfl (lv_at hl 3 rfl) ?_
                            refine lv_iconst (v := 2) hx hb dL_law_543 (by decide) ?_
                            refine lv_iadd hx hb dL_law_544 ?_
                            refine hp_sld hX hV hR dL_law_545 h (fun v122 h => ?_)
                            refine lv_aload_n hx hb dL_law_546 rfl (lv_at hl 0 rfl) ?_
                            refine lv_iload_n hx hb dL_law_547 rfl (lv_at hl 3 rfl) ?_
                            refine lv_iconst (v := 3) hx hb dL_law_548 (by decide) ?_
                            refine lv_iadd hx hb dL_law_549 ?_
                            refine hp_sld hX hV hR dL_law_550 h (fun v123 h => ?_)
                            refine lv_aload_n hx hb dL_law_551 rfl (lv_at hl 0 rfl) ?_
                            refine lv_iload_n hx hb dL_law_552 rfl (lv_at hl 3 rfl) ?_
                            refine lv_iconst (v := 4) hx hb dL_law_553 (by decide) ?_
                            refine lv_iadd hx hb dL_law_554 ?_
                            refine hp_sld hX hV hR dL_law_555 h (fun v124 h => ?_)
                            refine lv_aload_n hx hb dL_law_556 rfl (lv_at hl 0 rfl) ?_
                            refine lv_iload_n hx hb dL_law_557 rfl (lv_at hl 3 rfl) ?_
                            refine lv_iconst (v := 5) hx hb dL_law_558 (by decide) ?_
                            refine lv_iadd hx hb dL_law_559 ?_
                            refine hp_sld hX hV hR dL_law_560 h (fun v125 h => ?_)
                            refine lv_aload_n hx hb dL_law_561 rfl (lv_at hl 0 rfl) ?_
                            refine lv_iload_n hx hb dL_law_562 rfl (lv_at hl 3 rfl) ?_
                            refine lv_bipush (v := 6) hx hb dL_law_563 (by decide) ?_
                            refine lv_iadd hx hb dL_law_565 ?_
                            refine hp_sld hX hV hR dL_law_566 h (fun v126 h => ?_)
                            refine lv_aload_n hx hb dL_law_567 rfl (lv_at hl 0 rfl) ?_
                            refine lv_iload_n hx hb dL_law_568 rfl (lv_at hl 3 rfl) ?_
                            refine lv_bipush (v := 7) hx hb dL_law_569 (by decide) ?_
                            refine lv_iadd hx hb dL_law_571 ?_
                            refine hp_sld hX hV hR dL_law_572 h (fun v127 h => ?_)
                            refine hp_b2 h (fun v129 σ h128 h => ?_)
                            refine hp_ci hR (hp_runV (rest := [.int v120]) (As := [.int v121, .int v122, .int v123, .int v124, .int v125, .int v126, .int v127]) hX hR (c_Mo_wish_ h128) cs_L_61 rfl rfl rfl hd_Mo_wish_ ⟨Nat.le_of_ble_eq_true rfl, Nat.le_of_ble_eq_true rfl⟩ (ci := 10) rfl (hp_own_is h128) rfl hl.1 rfl (Nat.le_of_ble_eq_true rfl) dL_law_573 ⟨Nat.le_of_ble_eq_true rfl, Nat.le_of_ble_eq_true rfl⟩) (fun H locs hR => ?_)
                            refine lv_icmp_eq (tgt := 910) hx hb dL_law_576 (by decide) (fun c130 => ?_) (fun c130 => ?_)
                            · have h := hp_ip c130 h
                              refine lv_iinc (v := (x3 + 8)) (lv' := [(3, .int (x3 + 8)), (0, .ref bs), (1, .ref a1), (2, .ref a2)]) hx hb dL_law_910 hl (k := 3) rfl rfl (by decide) rfl (fun ls hl => ?_)
                              refine lv_goto (tgt := 18) hx hb dL_law_913 (by decide) ?_
                              exact ih _ _ _ _ _ hR h (lv_sub hl [1, 2, 3, 0] rfl)
                            · have h := hp_in c130 h
                              refine lv_iconst (v := 0) hx hb dL_law_579 (by decide) ?_
                              cases h
                          · have h := hp_in c111 h
                            rcases Decidable.em ((v6 &&& 31) = 11) with c131 | c131
                            · have h := hp_ip c131 h
                              refine lv_tableIn (off := 548) (tgt := 581) hx hb dL_law_33 (by rw [c131]; decide) (by rw [c131]; decide) (by rw [c131]; decide) (by decide) ?_
                              refine lv_aload_n hx hb dL_law_581 rfl (lv_at hl 1 rfl) ?_
                              refine lv_aload_n hx hb dL_law_582 rfl (lv_at hl 0 rfl) ?_
                              refine lv_iload_n hx hb dL_law_583 rfl (lv_at hl 3 rfl) ?_
                              refine lv_iconst (v := 1) hx hb dL_law_584 (by decide) ?_
                              refine lv_iadd hx hb dL_law_585 ?_
                              refine hp_sld hX hV hR dL_law_586 h (fun v132 h => ?_)
                              refine hp_b2 h (fun v134 σ h133 h => ?_)
                              refine hp_ci hR (hp_runV (rest := []) (As := [.int v132]) hX hR (c_NB_drop h133) cs_L_62 rfl rfl rfl hd_NB_drop ⟨Nat.le_of_ble_eq_true rfl, Nat.le_of_ble_eq_true rfl⟩ (ci := 9) rfl (hp_own_is h133) rfl hl.1 rfl (Nat.le_of_ble_eq_true rfl) dL_law_587 ⟨Nat.le_of_ble_eq_true rfl, Nat.le_of_ble_eq_true rfl⟩) (fun H locs hR => ?_)
                              refine lv_aload_n hx hb dL_law_590 rfl (lv_at hl 2 rfl) ?_
                              refine lv_aload_n hx hb dL_law_591 rfl (lv_at hl 0 rfl) ?_
                              refine lv_iload_n hx hb dL_law_592 rfl (lv_at hl 3 rfl) ?_
                              refine lv_iconst (v := 1) hx hb dL_law_593 (by decide) ?_
                              refine lv_iadd hx hb dL_law_594 ?_
                              refine hp_sld hX hV hR dL_law_595 h (fun v135 h => ?_)
                              refine hp_b2 h (fun v137 σ h136 h => ?_)
                              refine hp_ci hR (hp_runV (rest := [.int v134]) (As := [.int v135]) hX hR (c_Mo_drop h136) cs_L_65 rfl rfl rfl hd_Mo_drop ⟨Nat.le_of_ble_eq_true rfl, Nat.le_of_ble_eq_true rfl⟩ (ci := 10) rfl (hp_own_is h136) rfl hl.1 rfl (Nat.le_of_ble_eq_true rfl) dL_law_596 ⟨Nat.le_of_ble_eq_true rfl, Nat.le_of_ble_eq_true rfl⟩) (fun H locs hR => ?_)
                              refine lv_icmp_eq (tgt := 910) hx hb dL_law_599 (by decide) (fun c138 => ?_) (fun c138 => ?_)
                              · have h := hp_ip c138 h
                                refine lv_iinc (v := (x3 + 8)) (lv' := [(3, .int (x3 + 8)), (0, .ref bs), (1, .ref a1), (2, .ref a2)]) hx hb dL_law_910 hl (k := 3) rfl rfl (by decide) rfl (fun ls hl => ?_)
                                refine lv_goto (tgt := 18) hx hb dL_law_913 (by decide) ?_
                                exact ih _ _ _ _ _ hR h (lv_sub hl [1, 2, 3, 0] rfl)
                              · have h := hp_in c138 h
                                refine lv_iconst (v := 0) hx hb dL_law_602 (by decide) ?_
                                cases h
                            · have h := hp_in c131 h
                              rcases Decidable.em ((v6 &&& 31) = 12) with c139 | c139
                              · have h := hp_ip c139 h
                                refine lv_tableIn (off := 571) (tgt := 604) hx hb dL_law_33 (by rw [c139]; decide) (by rw [c139]; decide) (by rw [c139]; decide) (by decide) ?_
                                refine lv_aload_n hx hb dL_law_604 rfl (lv_at hl 1 rfl) ?_
                                refine lv_aload_n hx hb dL_law_605 rfl (lv_at hl 0 rfl) ?_
                                refine lv_iload_n hx hb dL_law_606 rfl (lv_at hl 3 rfl) ?_
                                refine lv_iconst (v := 1) hx hb dL_law_607 (by decide) ?_
                                refine lv_iadd hx hb dL_law_608 ?_
                                refine hp_sld hX hV hR dL_law_609 h (fun v140 h => ?_)
                                refine hp_b2 h (fun v142 σ h141 h => ?_)
                                refine hp_ci hR (hp_runV (rest := []) (As := [.int v140]) hX hR (c_NB_most h141) cs_L_66 rfl rfl rfl hd_NB_most ⟨Nat.le_of_ble_eq_true rfl, Nat.le_of_ble_eq_true rfl⟩ (ci := 9) rfl (hp_own_is h141) rfl hl.1 rfl (Nat.le_of_ble_eq_true rfl) dL_law_610 ⟨Nat.le_of_ble_eq_true rfl, Nat.le_of_ble_eq_true rfl⟩) (fun H locs hR => ?_)
                                refine lv_aload_n hx hb dL_law_613 rfl (lv_at hl 2 rfl) ?_
                                refine lv_aload_n hx hb dL_law_614 rfl (lv_at hl 0 rfl) ?_
                                refine lv_iload_n hx hb dL_law_615 rfl (lv_at hl 3 rfl) ?_
                                refine lv_iconst (v := 1) hx hb dL_law_616 (by decide) ?_
                                refine lv_iadd hx hb dL_law_617 ?_
                                refine hp_sld hX hV hR dL_law_618 h (fun v143 h => ?_)
                                refine hp_b2 h (fun v145 σ h144 h => ?_)
                                refine hp_ci hR (hp_runV (rest := [.int v142]) (As := [.int v143]) hX hR (c_Mo_most h144) cs_L_69 rfl rfl rfl hd_Mo_most ⟨Nat.le_of_ble_eq_true rfl, Nat.le_of_ble_eq_true rfl⟩ (ci := 10) rfl (hp_own_is h144) rfl hl.1 rfl (Nat.le_of_ble_eq_true rfl) dL_law_619 ⟨Nat.le_of_ble_eq_true rfl, Nat.le_of_ble_eq_true rfl⟩) (fun H locs hR => ?_)
                                refine lv_icmp_eq (tgt := 910) hx hb dL_law_622 (by decide) (fun c146 => ?_) (fun c146 => ?_)
                                · have h := hp_ip c146 h
                                  refine lv_iinc (v := (x3 + 8)) (lv' := [(3, .int (x3 + 8)), (0, .ref bs), (1, .ref a1), (2, .ref a2)]) hx hb dL_law_910 hl (k := 3) rfl rfl (by decide) rfl (fun ls hl => ?_)
                                  refine lv_goto (tgt := 18) hx hb dL_law_913 (by decide) ?_
                                  exact ih _ _ _ _ _ hR h (lv_sub hl [1, 2, 3, 0] rfl)
                                · have h := hp_in c146 h
                                  refine lv_iconst (v := 0) hx hb dL_law_625 (by decide) ?_
                                  cases h
                              · have h := hp_in c139 h
                                rcases Decidable.em ((v6 &&& 31) = 13) with c147 | c147
                                · have h := hp_ip c147 h
                                  refine lv_tableIn (off := 594) (tgt := 627) hx hb dL_law_33 (by rw [c147]; decide) (by rw [c147]; decide) (by rw [c147]; decide) (by decide) ?_
                                  refine lv_aload_n hx hb dL_law_627 rfl (lv_at hl 1 rfl) ?_
                                  refine lv_aload_n hx hb dL_law_628 rfl (lv_at hl 0 rfl) ?_
                                  refine lv_iload_n hx hb dL_law_629 rfl (lv_at hl 3 rfl) ?_
                                  refine lv_iconst (v := 1) hx hb dL_law_630 (by decide) ?_
                                  refine lv_iadd hx hb dL_law_631 ?_
                                  refine hp_sld hX hV hR dL_law_632 h (fun v148 h => ?_)
                                  refine lv_aload_n hx hb dL_law_633 rfl (lv_at hl 0 rfl) ?_
                                  refine lv_iload_n hx hb dL_law_634 rfl (lv_at hl 3 rfl) ?_
                                  refine lv_iconst (v := 2) hx hb dL_law_635 (by decide) ?_
                                  refine lv_iadd hx hb dL_law_636 ?_
                                  refine hp_sld hX hV hR dL_law_637 h (fun v149 h => ?_)
                                  refine lv_aload_n hx hb dL_law_638 rfl (lv_at hl 0 rfl) ?_
                                  refine lv_iload_n hx hb dL_law_639 rfl (lv_at hl 3 rfl) ?_
                                  refine lv_iconst (v := 3) hx hb dL_law_640 (by decide) ?_
                                  refine lv_iadd hx hb dL_law_641 ?_
                                  refine hp_sld hX hV hR dL_law_642 h (fun v150 h => ?_)
                                  refine lv_aload_n hx hb dL_law_643 rfl (lv_at hl 0 rfl) ?_
                                  refine lv_iload_n hx hb dL_law_644 rfl (lv_at hl 3 rfl) ?_
                                  refine lv_iconst (v := 4) hx hb dL_law_645 (by decide) ?_
                                  refine lv_iadd hx hb dL_law_646 ?_
                                  refine hp_sld hX hV hR dL_law_647 h (fun v151 h => ?_)
                                  refine hp_b2 h (fun v153 σ h152 h => ?_)
                                  refine hp_ci hR (hp_runV (rest := []) (As := [.int v148, .int v149, .int v150, .int v151]) hX hR (c_NB_put h152) cs_L_70 rfl rfl rfl hd_NB_put ⟨Nat.le_of_ble_eq_true rfl, Nat.le_of_ble_eq_true rfl⟩ (ci := 9) rfl (hp_own_is h152) rfl hl.1 rfl (Nat.le_of_ble_eq_true rfl) dL_law_648 ⟨Nat.le_of_ble_eq_true rfl, Nat.le_of_ble_eq_true rfl⟩) (fun H locs hR => ?_)
                                  refine lv_aload_n hx hb dL_law_651 rfl (lv_at hl 2 rfl) ?_
                                  refine lv_aload_n hx hb dL_law_652 rfl (lv_at hl 0 rfl) ?_
                                  refine lv_iload_n hx hb dL_law_653 rfl (lv_at hl 3 rfl) ?_
                                  refine lv_iconst (v := 1) hx hb dL_law_654 (by decide) ?_
                                  refine lv_iadd hx hb dL_law_655 ?_
                                  refine hp_sld hX hV hR dL_law_656 h (fun v154 h => ?_)
                                  refine lv_aload_n hx hb dL_law_657 rfl (lv_at hl 0 rfl) ?_
                                  refine lv_iload_n hx hb dL_law_658 rfl (lv_at hl 3 rfl) ?_
                                  refine lv_iconst (v := 2) hx hb dL_law_659 (by decide) ?_
                                  refine lv_iadd hx hb dL_law_660 ?_
                                  refine hp_sld hX hV hR dL_law_661 h (fun v155 h => ?_)
                                  refine lv_aload_n hx hb dL_law_662 rfl (lv_at hl 0 rfl) ?_
                                  refine lv_iload_n hx hb dL_law_663 rfl (lv_at hl 3 rfl) ?_
                                  refine lv_iconst (v := 3) hx hb dL_law_664 (by decide) ?_
                                  refine lv_iadd hx hb dL_law_665 ?_
                                  refine hp_sld hX hV hR dL_law_666 h (fun v156 h => ?_)
                                  refine lv_aload_n hx hb dL_law_667 rfl (lv_at hl 0 rfl) ?_
                                  refine lv_iload_n hx hb dL_law_668 rfl (lv_at hl 3 rfl) ?_
                                  refine lv_iconst (v := 4) hx hb dL_law_669 (by decide) ?_
                                  refine lv_iadd hx hb dL_law_670 ?_
                                  refine hp_sld hX hV hR dL_law_671 h (fun v157 h => ?_)
                                  refine hp_b2 h (fun v159 σ h158 h => ?_)
                                  refine hp_ci hR (hp_runV (rest := [.int v153]) (As := [.int v154, .int v155, .int v156, .int v157]) hX hR (c_Mo_put h158) cs_L_73 rfl rfl rfl hd_Mo_put ⟨Nat.le_of_ble_eq_true rfl, Nat.le_of_ble_eq_true rfl⟩ (ci := 10) rfl (hp_own_is h158) rfl hl.1 rfl (Nat.le_of_ble_eq_true rfl) dL_law_672 ⟨Nat.le_of_ble_eq_true rfl, Nat.le_of_ble_eq_true rfl⟩) (fun H locs hR => ?_)
                                  refine lv_icmp_eq (tgt := 910) hx hb dL_law_675 (by decide) (fun c160 => ?_) (fun c160 => ?_)
                                  · have h := hp_ip c160 h
                                    refine lv_iinc (v := (x3 + 8)) (lv' := [(3, .int (x3 + 8)), (0, .ref bs), (1, .ref a1), (2, .ref a2)]) hx hb dL_law_910 hl (k := 3) rfl rfl (by decide) rfl (fun ls hl => ?_)
                                    refine lv_goto (tgt := 18) hx hb dL_law_913 (by decide) ?_
                                    exact ih _ _ _ _ _ hR h (lv_sub hl [1, 2, 3, 0] rfl)
                                  · have h := hp_in c160 h
                                    refine lv_iconst (v := 0) hx hb dL_law_678 (by decide) ?_
                                    cases h
                                · have h := hp_in c147 h
                                  rcases Decidable.em ((v6 &&& 31) = 14) with c161 | c161
                                  · have h := hp_ip c161 h
                                    refine lv_tableIn (off := 647) (tgt := 680) hx hb dL_law_33 (by rw [c161]; decide) (by rw [c161]; decide) (by rw [c161]; decide) (by decide) ?_
                                    refine lv_aload_n hx hb dL_law_680 rfl (lv_at hl 1 rfl) ?_
                                    refine lv_aload_n hx hb dL_law_681 rfl (lv_at hl 0 rfl) ?_
                                    refine lv_iload_n hx hb dL_law_682 rfl (lv_at hl 3 rfl) ?_
                                    refine lv_iconst (v := 1) hx hb dL_law_683 (by decide) ?_
                                    refine lv_iadd hx hb dL_law_684 ?_
                                    refine hp_sld hX hV hR dL_law_685 h (fun v162 h => ?_)
                                    refine hp_b2 h (fun v164 σ h163 h => ?_)
                                    refine hp_ci hR (hp_runV (rest := []) (As := [.int v162]) hX hR (c_NB_leave h163) cs_L_74 rfl rfl rfl hd_NB_leave ⟨Nat.le_of_ble_eq_true rfl, Nat.le_of_ble_eq_true rfl⟩ (ci := 9) rfl (hp_own_is h163) rfl hl.1 rfl (Nat.le_of_ble_eq_true rfl) dL_law_686 ⟨Nat.le_of_ble_eq_true rfl, Nat.le_of_ble_eq_true rfl⟩) (fun H locs hR => ?_)
                                    refine lv_aload_n hx hb dL_law_689 rfl (lv_at hl 2 rfl) ?_
                                    refine lv_aload_n hx hb dL_law_690 rfl (lv_at hl 0 rfl) ?_
                                    refine lv_iload_n hx hb dL_law_691 rfl (lv_at hl 3 rfl) ?_
                                    refine lv_iconst (v := 1) hx hb dL_law_692 (by decide) ?_
                                    refine lv_iadd hx hb dL_law_693 ?_
                                    refine hp_sld hX hV hR dL_law_694 h (fun v165 h => ?_)
                                    refine hp_b2 h (fun v167 σ h166 h => ?_)
                                    refine hp_ci hR (hp_runV (rest := [.int v164]) (As := [.int v165]) hX hR (c_Mo_leave h166) cs_L_77 rfl rfl rfl hd_Mo_leave ⟨Nat.le_of_ble_eq_true rfl, Nat.le_of_ble_eq_true rfl⟩ (ci := 10) rfl (hp_own_is h166) rfl hl.1 rfl (Nat.le_of_ble_eq_true rfl) dL_law_695 ⟨Nat.le_of_ble_eq_true rfl, Nat.le_of_ble_eq_true rfl⟩) (fun H locs hR => ?_)
                                    refine lv_icmp_eq (tgt := 910) hx hb dL_law_698 (by decide) (fun c168 => ?_) (fun c168 => ?_)
                                    · have h := hp_ip c168 h
                                      refine lv_iinc (v := (x3 + 8)) (lv' := [(3, .int (x3 + 8)), (0, .ref bs), (1, .ref a1), (2, .ref a2)]) hx hb dL_law_910 hl (k := 3) rfl rfl (by decide) rfl (fun ls hl => ?_)
                                      refine lv_goto (tgt := 18) hx hb dL_law_913 (by decide) ?_
                                      exact ih _ _ _ _ _ hR h (lv_sub hl [1, 2, 3, 0] rfl)
                                    · have h := hp_in c168 h
                                      refine lv_iconst (v := 0) hx hb dL_law_701 (by decide) ?_
                                      cases h
                                  · have h := hp_in c161 h
                                    rcases Decidable.em ((v6 &&& 31) = 15) with c169 | c169
                                    · have h := hp_ip c169 h
                                      refine lv_tableIn (off := 670) (tgt := 703) hx hb dL_law_33 (by rw [c169]; decide) (by rw [c169]; decide) (by rw [c169]; decide) (by decide) ?_
                                      refine lv_aload_n hx hb dL_law_703 rfl (lv_at hl 1 rfl) ?_
                                      refine lv_aload_n hx hb dL_law_704 rfl (lv_at hl 0 rfl) ?_
                                      refine lv_iload_n hx hb dL_law_705 rfl (lv_at hl 3 rfl) ?_
                                      refine lv_iconst (v := 1) hx hb dL_law_706 (by decide) ?_
                                      refine lv_iadd hx hb dL_law_707 ?_
                                      refine hp_sld hX hV hR dL_law_708 h (fun v170 h => ?_)
                                      refine lv_aload_n hx hb dL_law_709 rfl (lv_at hl 0 rfl) ?_
                                      refine lv_iload_n hx hb dL_law_710 rfl (lv_at hl 3 rfl) ?_
                                      refine lv_iconst (v := 2) hx hb dL_law_711 (by decide) ?_
                                      refine lv_iadd hx hb dL_law_712 ?_
                                      refine hp_sld hX hV hR dL_law_713 h (fun v171 h => ?_)
                                      refine hp_b2 h (fun v173 σ h172 h => ?_)
                                      refine hp_ci hR (hp_runV (rest := []) (As := [.int v170, .int v171]) hX hR (c_NB_come h172) cs_L_78 rfl rfl rfl hd_NB_come ⟨Nat.le_of_ble_eq_true rfl, Nat.le_of_ble_eq_true rfl⟩ (ci := 9) rfl (hp_own_is h172) rfl hl.1 rfl (Nat.le_of_ble_eq_true rfl) dL_law_714 ⟨Nat.le_of_ble_eq_true rfl, Nat.le_of_ble_eq_true rfl⟩) (fun H locs hR => ?_)
                                      refine lv_aload_n hx hb dL_law_717 rfl (lv_at hl 2 rfl) ?_
                                      refine lv_aload_n hx hb dL_law_718 rfl (lv_at hl 0 rfl) ?_
                                      refine lv_iload_n hx hb dL_law_719 rfl (lv_at hl 3 rfl) ?_
                                      refine lv_iconst (v := 1) hx hb dL_law_720 (by decide) ?_
                                      refine lv_iadd hx hb dL_law_721 ?_
                                      refine hp_sld hX hV hR dL_law_722 h (fun v174 h => ?_)
                                      refine lv_aload_n hx hb dL_law_723 rfl (lv_at hl 0 rfl) ?_
                                      refine lv_iload_n hx hb dL_law_724 rfl (lv_at hl 3 rfl) ?_
                                      refine lv_iconst (v := 2) hx hb dL_law_725 (by decide) ?_
                                      refine lv_iadd hx hb dL_law_726 ?_
                                      refine hp_sld hX hV hR dL_law_727 h (fun v175 h => ?_)
                                      refine hp_b2 h (fun v177 σ h176 h => ?_)
                                      refine hp_ci hR (hp_runV (rest := [.int v173]) (As := [.int v174, .int v175]) hX hR (c_Mo_come h176) cs_L_81 rfl rfl rfl hd_Mo_come ⟨Nat.le_of_ble_eq_true rfl, Nat.le_of_ble_eq_true rfl⟩ (ci := 10) rfl (hp_own_is h176) rfl hl.1 rfl (Nat.le_of_ble_eq_true rfl) dL_law_728 ⟨Nat.le_of_ble_eq_true rfl, Nat.le_of_ble_eq_true rfl⟩) (fun H locs hR => ?_)
                                      refine lv_icmp_eq (tgt := 910) hx hb dL_law_731 (by decide) (fun c178 => ?_) (fun c178 => ?_)
                                      · have h := hp_ip c178 h
                                        refine lv_iinc (v := (x3 + 8)) (lv' := [(3, .int (x3 + 8)), (0, .ref bs), (1, .ref a1), (2, .ref a2)]) hx hb dL_law_910 hl (k := 3) rfl rfl (by decide) rfl (fun ls hl => ?_)
                                        refine lv_goto (tgt := 18) hx hb dL_law_913 (by decide) ?_
                                        exact ih _ _ _ _ _ hR h (lv_sub hl [1, 2, 3, 0] rfl)
                                      · have h := hp_in c178 h
                                        refine lv_iconst (v := 0) hx hb dL_law_734 (by decide) ?_
                                        cases h
                                    · have h := hp_in c169 h
                                      rcases Decidable.em ((v6 &&& 31) = 16) with c179 | c179
                                      · have h := hp_ip c179 h
                                        refine lv_tableIn (off := 703) (tgt := 736) hx hb dL_law_33 (by rw [c179]; decide) (by rw [c179]; decide) (by rw [c179]; decide) (by decide) ?_
                                        refine lv_aload_n hx hb dL_law_736 rfl (lv_at hl 1 rfl) ?_
                                        refine hp_b2 h (fun v181 σ h180 h => ?_)
                                        refine hp_ci hR (hp_runV (rest := []) (As := []) hX hR (c_NB_part h180) cs_L_82 rfl rfl rfl hd_NB_part ⟨Nat.le_of_ble_eq_true rfl, Nat.le_of_ble_eq_true rfl⟩ (ci := 9) rfl (hp_own_is h180) rfl hl.1 rfl (Nat.le_of_ble_eq_true rfl) dL_law_737 ⟨Nat.le_of_ble_eq_true rfl, Nat.le_of_ble_eq_true rfl⟩) (fun H locs hR => ?_)
                                        refine lv_aload_n hx hb dL_law_740 rfl (lv_at hl 2 rfl) ?_
                                        refine hp_b2 h (fun v183 σ h182 h => ?_)
                                        refine hp_ci hR (hp_runV (rest := [.int v181]) (As := []) hX hR (c_Mo_part h182) cs_L_86 rfl rfl rfl hd_Mo_part ⟨Nat.le_of_ble_eq_true rfl, Nat.le_of_ble_eq_true rfl⟩ (ci := 10) rfl (hp_own_is h182) rfl hl.1 rfl (Nat.le_of_ble_eq_true rfl) dL_law_741 ⟨Nat.le_of_ble_eq_true rfl, Nat.le_of_ble_eq_true rfl⟩) (fun H locs hR => ?_)
                                        refine lv_icmp_eq (tgt := 910) hx hb dL_law_744 (by decide) (fun c184 => ?_) (fun c184 => ?_)
                                        · have h := hp_ip c184 h
                                          refine lv_iinc (v := (x3 + 8)) (lv' := [(3, .int (x3 + 8)), (0, .ref bs), (1, .ref a1), (2, .ref a2)]) hx hb dL_law_910 hl (k := 3) rfl rfl (by decide) rfl (fun ls hl => ?_)
                                          refine lv_goto (tgt := 18) hx hb dL_law_913 (by decide) ?_
                                          exact ih _ _ _ _ _ hR h (lv_sub hl [1, 2, 3, 0] rfl)
                                        · have h := hp_in c184 h
                                          refine lv_iconst (v := 0) hx hb dL_law_747 (by decide) ?_
                                          cases h
                                      · have h := hp_in c179 h
                                        rcases Decidable.em ((v6 &&& 31) = 17) with c185 | c185
                                        · have h := hp_ip c185 h
                                          refine lv_tableIn (off := 716) (tgt := 749) hx hb dL_law_33 (by rw [c185]; decide) (by rw [c185]; decide) (by rw [c185]; decide) (by decide) ?_
                                          refine lv_aload_n hx hb dL_law_749 rfl (lv_at hl 1 rfl) ?_
                                          refine lv_aload_n hx hb dL_law_750 rfl (lv_at hl 0 rfl) ?_
                                          refine lv_iload_n hx hb dL_law_751 rfl (lv_at hl 3 rfl) ?_
                                          refine lv_iconst (v := 1) hx hb dL_law_752 (by decide) ?_
                                          refine lv_iadd hx hb dL_law_753 ?_
                                          refine hp_sld hX hV hR dL_law_754 h (fun v186 h => ?_)
                                          refine hp_b2 h (fun v188 σ h187 h => ?_)
                                          refine hp_ci hR (hp_runV (rest := []) (As := [.int v186]) hX hR (c_NB_drift h187) cs_L_87 rfl rfl rfl hd_NB_drift ⟨Nat.le_of_ble_eq_true rfl, Nat.le_of_ble_eq_true rfl⟩ (ci := 9) rfl (hp_own_is h187) rfl hl.1 rfl (Nat.le_of_ble_eq_true rfl) dL_law_755 ⟨Nat.le_of_ble_eq_true rfl, Nat.le_of_ble_eq_true rfl⟩) (fun H locs hR => ?_)
                                          refine lv_aload_n hx hb dL_law_758 rfl (lv_at hl 2 rfl) ?_
                                          refine lv_aload_n hx hb dL_law_759 rfl (lv_at hl 0 rfl) ?_
                                          refine lv_iload_n hx hb dL_law_760 rfl (lv_at hl 3 rfl) ?_
                                          refine lv_iconst (v := 1) hx hb dL_law_761 (by decide) ?_
                                          refine lv_iadd hx hb dL_law_762 ?_
                                          refine hp_sld hX hV hR dL_law_763 h (fun v189 h => ?_)
                                          refine hp_b2 h (fun v191 σ h190 h => ?_)
                                          refine hp_ci hR (hp_runV (rest := [.int v188]) (As := [.int v189]) hX hR (c_Mo_drift h190) cs_L_90 rfl rfl rfl hd_Mo_drift ⟨Nat.le_of_ble_eq_true rfl, Nat.le_of_ble_eq_true rfl⟩ (ci := 10) rfl (hp_own_is h190) rfl hl.1 rfl (Nat.le_of_ble_eq_true rfl) dL_law_764 ⟨Nat.le_of_ble_eq_true rfl, Nat.le_of_ble_eq_true rfl⟩) (fun H locs hR => ?_)
                                          refine lv_icmp_eq (tgt := 910) hx hb dL_law_767 (by decide) (fun c192 => ?_) (fun c192 => ?_)
                                          · have h := hp_ip c192 h
                                            refine lv_iinc (v := (x3 + 8)) (lv' := [(3, .int (x3 + 8)), (0, .ref bs), (1, .ref a1), (2, .ref a2)]) hx hb dL_law_910 hl (k := 3) rfl rfl (by decide) rfl (fun ls hl => ?_)
                                            refine lv_goto (tgt := 18) hx hb dL_law_913 (by decide) ?_
                                            exact ih _ _ _ _ _ hR h (lv_sub hl [1, 2, 3, 0] rfl)
                                          · have h := hp_in c192 h
                                            refine lv_iconst (v := 0) hx hb dL_law_770 (by decide) ?_
                                            cases h
                                        · have h := hp_in c185 h
                                          rcases Decidable.em ((v6 &&& 31) = 18) with c193 | c193
                                          · have h := hp_ip c193 h
                                            refine lv_tableIn (off := 739) (tgt := 772) hx hb dL_law_33 (by rw [c193]; decide) (by rw [c193]; decide) (by rw [c193]; decide) (by decide) ?_
                                            refine lv_aload_n hx hb dL_law_772 rfl (lv_at hl 1 rfl) ?_
                                            refine lv_aload_n hx hb dL_law_773 rfl (lv_at hl 0 rfl) ?_
                                            refine lv_iload_n hx hb dL_law_774 rfl (lv_at hl 3 rfl) ?_
                                            refine lv_iconst (v := 1) hx hb dL_law_775 (by decide) ?_
                                            refine lv_iadd hx hb dL_law_776 ?_
                                            refine hp_sld hX hV hR dL_law_777 h (fun v194 h => ?_)
                                            refine hp_b2 h (fun v196 σ h195 h => ?_)
                                            refine hp_ci hR (hp_runV (rest := []) (As := [.int v194]) hX hR (c_NB_undo h195) cs_L_91 rfl rfl rfl hd_NB_undo ⟨Nat.le_of_ble_eq_true rfl, Nat.le_of_ble_eq_true rfl⟩ (ci := 9) rfl (hp_own_is h195) rfl hl.1 rfl (Nat.le_of_ble_eq_true rfl) dL_law_778 ⟨Nat.le_of_ble_eq_true rfl, Nat.le_of_ble_eq_true rfl⟩) (fun H locs hR => ?_)
                                            refine lv_aload_n hx hb dL_law_781 rfl (lv_at hl 2 rfl) ?_
                                            refine lv_aload_n hx hb dL_law_782 rfl (lv_at hl 0 rfl) ?_
                                            refine lv_iload_n hx hb dL_law_783 rfl (lv_at hl 3 rfl) ?_
                                            refine lv_iconst (v := 1) hx hb dL_law_784 (by decide) ?_
                                            refine lv_iadd hx hb dL_law_785 ?_
                                            refine hp_sld hX hV hR dL_law_786 h (fun v197 h => ?_)
                                            refine hp_b2 h (fun v199 σ h198 h => ?_)
                                            refine hp_ci hR (hp_runV (rest := [.int v196]) (As := [.int v197]) hX hR (c_Mo_undo h198) cs_L_94 rfl rfl rfl hd_Mo_undo ⟨Nat.le_of_ble_eq_true rfl, Nat.le_of_ble_eq_true rfl⟩ (ci := 10) rfl (hp_own_is h198) rfl hl.1 rfl (Nat.le_of_ble_eq_true rfl) dL_law_787 ⟨Nat.le_of_ble_eq_true rfl, Nat.le_of_ble_eq_true rfl⟩) (fun H locs hR => ?_)
                                            refine lv_icmp_eq (tgt := 910) hx hb dL_law_790 (by decide) (fun c200 => ?_) (fun c200 => ?_)
                                            · have h := hp_ip c200 h
                                              refine lv_iinc (v := (x3 + 8)) (lv' := [(3, .int (x3 + 8)), (0, .ref bs), (1, .ref a1), (2, .ref a2)]) hx hb dL_law_910 hl (k := 3) rfl rfl (by decide) rfl (fun ls hl => ?_)
                                              refine lv_goto (tgt := 18) hx hb dL_law_913 (by decide) ?_
                                              exact ih _ _ _ _ _ hR h (lv_sub hl [1, 2, 3, 0] rfl)
                                            · have h := hp_in c200 h
                                              refine lv_iconst (v := 0) hx hb dL_law_793 (by decide) ?_
                                              cases h
                                          · have h := hp_in c193 h
                                            rcases Decidable.em ((v6 &&& 31) = 19) with c201 | c201
                                            · have h := hp_ip c201 h
                                              refine lv_tableIn (off := 762) (tgt := 795) hx hb dL_law_33 (by rw [c201]; decide) (by rw [c201]; decide) (by rw [c201]; decide) (by decide) ?_
                                              refine lv_aload_n hx hb dL_law_795 rfl (lv_at hl 1 rfl) ?_
                                              refine lv_aload_n hx hb dL_law_796 rfl (lv_at hl 0 rfl) ?_
                                              refine lv_iload_n hx hb dL_law_797 rfl (lv_at hl 3 rfl) ?_
                                              refine lv_iconst (v := 1) hx hb dL_law_798 (by decide) ?_
                                              refine lv_iadd hx hb dL_law_799 ?_
                                              refine hp_sld hX hV hR dL_law_800 h (fun v202 h => ?_)
                                              refine lv_aload_n hx hb dL_law_801 rfl (lv_at hl 0 rfl) ?_
                                              refine lv_iload_n hx hb dL_law_802 rfl (lv_at hl 3 rfl) ?_
                                              refine lv_iconst (v := 2) hx hb dL_law_803 (by decide) ?_
                                              refine lv_iadd hx hb dL_law_804 ?_
                                              refine hp_sld hX hV hR dL_law_805 h (fun v203 h => ?_)
                                              refine hp_b2 h (fun v205 σ h204 h => ?_)
                                              refine hp_ci hR (hp_runV (rest := []) (As := [.int v202, .int v203]) hX hR (c_NB_write h204) cs_L_95 rfl rfl rfl hd_NB_write ⟨Nat.le_of_ble_eq_true rfl, Nat.le_of_ble_eq_true rfl⟩ (ci := 9) rfl (hp_own_is h204) rfl hl.1 rfl (Nat.le_of_ble_eq_true rfl) dL_law_806 ⟨Nat.le_of_ble_eq_true rfl, Nat.le_of_ble_eq_true rfl⟩) (fun H locs hR => ?_)
                                              refine lv_aload_n hx hb dL_law_809 rfl (lv_at hl 2 rfl) ?_
                                              refine lv_aload_n hx hb dL_law_810 rfl (lv_at hl 0 rfl) ?_
                                              refine lv_iload_n hx hb dL_law_811 rfl (lv_at hl 3 rfl) ?_
                                              refine lv_iconst (v := 1) hx hb dL_law_812 (by decide) ?_
                                              refine lv_iadd hx hb dL_law_813 ?_
                                              refine hp_sld hX hV hR dL_law_814 h (fun v206 h => ?_)
                                              refine lv_aload_n hx hb dL_law_815 rfl (lv_at hl 0 rfl) ?_
                                              refine lv_iload_n hx hb dL_law_816 rfl (lv_at hl 3 rfl) ?_
                                              refine lv_iconst (v := 2) hx hb dL_law_817 (by decide) ?_
                                              refine lv_iadd hx hb dL_law_818 ?_
                                              refine hp_sld hX hV hR dL_law_819 h (fun v207 h => ?_)
                                              refine hp_b2 h (fun v209 σ h208 h => ?_)
                                              refine hp_ci hR (hp_runV (rest := [.int v205]) (As := [.int v206, .int v207]) hX hR (c_Mo_write h208) cs_L_98 rfl rfl rfl hd_Mo_write ⟨Nat.le_of_ble_eq_true rfl, Nat.le_of_ble_eq_true rfl⟩ (ci := 10) rfl (hp_own_is h208) rfl hl.1 rfl (Nat.le_of_ble_eq_true rfl) dL_law_820 ⟨Nat.le_of_ble_eq_true rfl, Nat.le_of_ble_eq_true rfl⟩) (fun H locs hR => ?_)
                                              refine lv_icmp_eq (tgt := 910) hx hb dL_law_823 (by decide) (fun c210 => ?_) (fun c210 => ?_)
                                              · have h := hp_ip c210 h
                                                refine lv_iinc (v := (x3 + 8)) (lv' := [(3, .int (x3 + 8)), (0, .ref bs), (1, .ref a1), (2, .ref a2)]) hx hb dL_law_910 hl (k := 3) rfl rfl (by decide) rfl (fun ls hl => ?_)
                                                refine lv_goto (tgt := 18) hx hb dL_law_913 (by decide) ?_
                                                exact ih _ _ _ _ _ hR h (lv_sub hl [1, 2, 3, 0] rfl)
                                              · have h := hp_in c210 h
                                                refine lv_iconst (v := 0) hx hb dL_law_826 (by decide) ?_
                                                cases h
                                            · have h := hp_in c201 h
                                              rcases Decidable.em ((v6 &&& 31) = 20) with c211 | c211
                                              · have h := hp_ip c211 h
                                                refine lv_tableIn (off := 795) (tgt := 828) hx hb dL_law_33 (by rw [c211]; decide) (by rw [c211]; decide) (by rw [c211]; decide) (by decide) ?_
                                                refine lv_aload_n hx hb dL_law_828 rfl (lv_at hl 1 rfl) ?_
                                                refine hp_b2 h (fun v213 σ h212 h => ?_)
                                                refine hp_ci hR (hp_runV (rest := []) (As := []) hX hR (c_NB_tear h212) cs_L_99 rfl rfl rfl hd_NB_tear ⟨Nat.le_of_ble_eq_true rfl, Nat.le_of_ble_eq_true rfl⟩ (ci := 9) rfl (hp_own_is h212) rfl hl.1 rfl (Nat.le_of_ble_eq_true rfl) dL_law_829 ⟨Nat.le_of_ble_eq_true rfl, Nat.le_of_ble_eq_true rfl⟩) (fun H locs hR => ?_)
                                                refine lv_aload_n hx hb dL_law_832 rfl (lv_at hl 2 rfl) ?_
                                                refine hp_b2 h (fun v215 σ h214 h => ?_)
                                                refine hp_ci hR (hp_runV (rest := [.int v213]) (As := []) hX hR (c_Mo_tear h214) cs_L_102 rfl rfl rfl hd_Mo_tear ⟨Nat.le_of_ble_eq_true rfl, Nat.le_of_ble_eq_true rfl⟩ (ci := 10) rfl (hp_own_is h214) rfl hl.1 rfl (Nat.le_of_ble_eq_true rfl) dL_law_833 ⟨Nat.le_of_ble_eq_true rfl, Nat.le_of_ble_eq_true rfl⟩) (fun H locs hR => ?_)
                                                refine lv_icmp_eq (tgt := 910) hx hb dL_law_836 (by decide) (fun c216 => ?_) (fun c216 => ?_)
                                                · have h := hp_ip c216 h
                                                  refine lv_iinc (v := (x3 + 8)) (lv' := [(3, .int (x3 + 8)), (0, .ref bs), (1, .ref a1), (2, .ref a2)]) hx hb dL_law_910 hl (k := 3) rfl rfl (by decide) rfl (fun ls hl => ?_)
                                                  refine lv_goto (tgt := 18) hx hb dL_law_913 (by decide) ?_
                                                  exact ih _ _ _ _ _ hR h (lv_sub hl [1, 2, 3, 0] rfl)
                                                · have h := hp_in c216 h
                                                  refine lv_iconst (v := 0) hx hb dL_law_839 (by decide) ?_
                                                  cases h
                                              · have h := hp_in c211 h
                                                rcases Decidable.em ((v6 &&& 31) = 21) with c217 | c217
                                                · have h := hp_ip c217 h
                                                  refine lv_tableIn (off := 808) (tgt := 841) hx hb dL_law_33 (by rw [c217]; decide) (by rw [c217]; decide) (by rw [c217]; decide) (by decide) ?_
                                                  refine lv_aload_n hx hb dL_law_841 rfl (lv_at hl 1 rfl) ?_
                                                  refine lv_aload_n hx hb dL_law_842 rfl (lv_at hl 0 rfl) ?_
                                                  refine lv_iload_n hx hb dL_law_843 rfl (lv_at hl 3 rfl) ?_
                                                  refine lv_iconst (v := 1) hx hb dL_law_844 (by decide) ?_
                                                  refine lv_iadd hx hb dL_law_845 ?_
                                                  refine hp_sld hX hV hR dL_law_846 h (fun v218 h => ?_)
                                                  refine hp_b2 h (fun v220 σ h219 h => ?_)
                                                  refine hp_ci hR (hp_runV (rest := []) (As := [.int v218]) hX hR (c_NB_seed h219) cs_L_103 rfl rfl rfl hd_NB_seed ⟨Nat.le_of_ble_eq_true rfl, Nat.le_of_ble_eq_true rfl⟩ (ci := 9) rfl (hp_own_is h219) rfl hl.1 rfl (Nat.le_of_ble_eq_true rfl) dL_law_847 ⟨Nat.le_of_ble_eq_true rfl, Nat.le_of_ble_eq_true rfl⟩) (fun H locs hR => ?_)
                                                  refine lv_aload_n hx hb dL_law_850 rfl (lv_at hl 2 rfl) ?_
                                                  refine lv_aload_n hx hb dL_law_851 rfl (lv_at hl 0 rfl) ?_
                                                  refine lv_iload_n hx hb dL_law_852 rfl (lv_at hl 3 rfl) ?_
                                                  refine lv_iconst (v := 1) hx hb dL_law_853 (by decide) ?_
                                                  refine lv_iadd hx hb dL_law_854 ?_
                                                  refine hp_sld hX hV hR dL_law_855 h (fun v221 h => ?_)
                                                  refine hp_b2 h (fun v223 σ h222 h => ?_)
                                                  refine hp_ci hR (hp_runV (rest := [.int v220]) (As := [.int v221]) hX hR (c_Mo_seed h222) cs_L_106 rfl rfl rfl hd_Mo_seed ⟨Nat.le_of_ble_eq_true rfl, Nat.le_of_ble_eq_true rfl⟩ (ci := 10) rfl (hp_own_is h222) rfl hl.1 rfl (Nat.le_of_ble_eq_true rfl) dL_law_856 ⟨Nat.le_of_ble_eq_true rfl, Nat.le_of_ble_eq_true rfl⟩) (fun H locs hR => ?_)
                                                  refine lv_icmp_eq (tgt := 910) hx hb dL_law_859 (by decide) (fun c224 => ?_) (fun c224 => ?_)
                                                  · have h := hp_ip c224 h
                                                    refine lv_iinc (v := (x3 + 8)) (lv' := [(3, .int (x3 + 8)), (0, .ref bs), (1, .ref a1), (2, .ref a2)]) hx hb dL_law_910 hl (k := 3) rfl rfl (by decide) rfl (fun ls hl => ?_)
                                                    refine lv_goto (tgt := 18) hx hb dL_law_913 (by decide) ?_
                                                    exact ih _ _ _ _ _ hR h (lv_sub hl [1, 2, 3, 0] rfl)
                                                  · have h := hp_in c224 h
                                                    refine lv_iconst (v := 0) hx hb dL_law_862 (by decide) ?_
                                                    cases h
                                                · have h := hp_in c217 h
                                                  rcases Decidable.em ((v6 &&& 31) = 22) with c225 | c225
                                                  · have h := hp_ip c225 h
                                                    refine lv_tableIn (off := 831) (tgt := 864) hx hb dL_law_33 (by rw [c225]; decide) (by rw [c225]; decide) (by rw [c225]; decide) (by decide) ?_
                                                    refine lv_aload_n hx hb dL_law_864 rfl (lv_at hl 1 rfl) ?_
                                                    refine lv_aload_n hx hb dL_law_865 rfl (lv_at hl 0 rfl) ?_
                                                    refine lv_iload_n hx hb dL_law_866 rfl (lv_at hl 3 rfl) ?_
                                                    refine lv_iconst (v := 1) hx hb dL_law_867 (by decide) ?_
                                                    refine lv_iadd hx hb dL_law_868 ?_
                                                    refine hp_sld hX hV hR dL_law_869 h (fun v226 h => ?_)
                                                    refine hp_b2 h (fun v228 σ h227 h => ?_)
                                                    refine hp_ci hR (hp_runV (rest := []) (As := [.int v226]) hX hR (c_NB_keep h227) cs_L_107 rfl rfl rfl hd_NB_keep ⟨Nat.le_of_ble_eq_true rfl, Nat.le_of_ble_eq_true rfl⟩ (ci := 9) rfl (hp_own_is h227) rfl hl.1 rfl (Nat.le_of_ble_eq_true rfl) dL_law_870 ⟨Nat.le_of_ble_eq_true rfl, Nat.le_of_ble_eq_true rfl⟩) (fun H locs hR => ?_)
                                                    refine lv_aload_n hx hb dL_law_873 rfl (lv_at hl 2 rfl) ?_
                                                    refine lv_aload_n hx hb dL_law_874 rfl (lv_at hl 0 rfl) ?_
                                                    refine lv_iload_n hx hb dL_law_875 rfl (lv_at hl 3 rfl) ?_
                                                    refine lv_iconst (v := 1) hx hb dL_law_876 (by decide) ?_
                                                    refine lv_iadd hx hb dL_law_877 ?_
                                                    refine hp_sld hX hV hR dL_law_878 h (fun v229 h => ?_)
                                                    refine hp_b2 h (fun v231 σ h230 h => ?_)
                                                    refine hp_ci hR (hp_runV (rest := [.int v228]) (As := [.int v229]) hX hR (c_Mo_keep h230) cs_L_110 rfl rfl rfl hd_Mo_keep ⟨Nat.le_of_ble_eq_true rfl, Nat.le_of_ble_eq_true rfl⟩ (ci := 10) rfl (hp_own_is h230) rfl hl.1 rfl (Nat.le_of_ble_eq_true rfl) dL_law_879 ⟨Nat.le_of_ble_eq_true rfl, Nat.le_of_ble_eq_true rfl⟩) (fun H locs hR => ?_)
                                                    refine lv_icmp_eq (tgt := 910) hx hb dL_law_882 (by decide) (fun c232 => ?_) (fun c232 => ?_)
                                                    · have h := hp_ip c232 h
                                                      refine lv_iinc (v := (x3 + 8)) (lv' := [(3, .int (x3 + 8)), (0, .ref bs), (1, .ref a1), (2, .ref a2)]) hx hb dL_law_910 hl (k := 3) rfl rfl (by decide) rfl (fun ls hl => ?_)
                                                      refine lv_goto (tgt := 18) hx hb dL_law_913 (by decide) ?_
                                                      exact ih _ _ _ _ _ hR h (lv_sub hl [1, 2, 3, 0] rfl)
                                                    · have h := hp_in c232 h
                                                      refine lv_iconst (v := 0) hx hb dL_law_885 (by decide) ?_
                                                      cases h
                                                  · have h := hp_in c225 h
                                                    rcases Decidable.em ((v6 &&& 31) = 23) with c233 | c233
                                                    · have h := hp_ip c233 h
                                                      refine lv_tableIn (off := 854) (tgt := 887) hx hb dL_law_33 (by rw [c233]; decide) (by rw [c233]; decide) (by rw [c233]; decide) (by decide) ?_
                                                      refine lv_aload_n hx hb dL_law_887 rfl (lv_at hl 1 rfl) ?_
                                                      refine lv_aload_n hx hb dL_law_888 rfl (lv_at hl 0 rfl) ?_
                                                      refine lv_iload_n hx hb dL_law_889 rfl (lv_at hl 3 rfl) ?_
                                                      refine lv_iconst (v := 1) hx hb dL_law_890 (by decide) ?_
                                                      refine lv_iadd hx hb dL_law_891 ?_
                                                      refine hp_sld hX hV hR dL_law_892 h (fun v234 h => ?_)
                                                      refine hp_b2 h (fun v236 σ h235 h => ?_)
                                                      refine hp_ci hR (hp_runV (rest := []) (As := [.int v234]) hX hR (c_NB_goBack h235) cs_L_111 rfl rfl rfl hd_NB_goBack ⟨Nat.le_of_ble_eq_true rfl, Nat.le_of_ble_eq_true rfl⟩ (ci := 9) rfl (hp_own_is h235) rfl hl.1 rfl (Nat.le_of_ble_eq_true rfl) dL_law_893 ⟨Nat.le_of_ble_eq_true rfl, Nat.le_of_ble_eq_true rfl⟩) (fun H locs hR => ?_)
                                                      refine lv_aload_n hx hb dL_law_896 rfl (lv_at hl 2 rfl) ?_
                                                      refine lv_aload_n hx hb dL_law_897 rfl (lv_at hl 0 rfl) ?_
                                                      refine lv_iload_n hx hb dL_law_898 rfl (lv_at hl 3 rfl) ?_
                                                      refine lv_iconst (v := 1) hx hb dL_law_899 (by decide) ?_
                                                      refine lv_iadd hx hb dL_law_900 ?_
                                                      refine hp_sld hX hV hR dL_law_901 h (fun v237 h => ?_)
                                                      refine hp_b2 h (fun v239 σ h238 h => ?_)
                                                      refine hp_ci hR (hp_runV (rest := [.int v236]) (As := [.int v237]) hX hR (c_Mo_goBack h238) cs_L_114 rfl rfl rfl hd_Mo_goBack ⟨Nat.le_of_ble_eq_true rfl, Nat.le_of_ble_eq_true rfl⟩ (ci := 10) rfl (hp_own_is h238) rfl hl.1 rfl (Nat.le_of_ble_eq_true rfl) dL_law_902 ⟨Nat.le_of_ble_eq_true rfl, Nat.le_of_ble_eq_true rfl⟩) (fun H locs hR => ?_)
                                                      refine lv_icmp_eq (tgt := 910) hx hb dL_law_905 (by decide) (fun c240 => ?_) (fun c240 => ?_)
                                                      · have h := hp_ip c240 h
                                                        refine lv_iinc (v := (x3 + 8)) (lv' := [(3, .int (x3 + 8)), (0, .ref bs), (1, .ref a1), (2, .ref a2)]) hx hb dL_law_910 hl (k := 3) rfl rfl (by decide) rfl (fun ls hl => ?_)
                                                        refine lv_goto (tgt := 18) hx hb dL_law_913 (by decide) ?_
                                                        exact ih _ _ _ _ _ hR h (lv_sub hl [1, 2, 3, 0] rfl)
                                                      · have h := hp_in c240 h
                                                        refine lv_iconst (v := 0) hx hb dL_law_908 (by decide) ?_
                                                        cases h
                                                    · have h := hp_in c233 h
                                                      refine lv_tableOut (tgt := 910) hx hb dL_law_33 (by have := lv_neT (a := 0) c7 rfl; have := lv_neT (a := 1) c15 rfl; have := lv_neT (a := 2) c25 rfl; have := lv_neT (a := 3) c35 rfl; have := lv_neT (a := 4) c45 rfl; have := lv_neT (a := 5) c55 rfl; have := lv_neT (a := 6) c65 rfl; have := lv_neT (a := 7) c79 rfl; have := lv_neT (a := 8) c95 rfl; have := lv_neT (a := 9) c103 rfl; have := lv_neT (a := 10) c111 rfl; have := lv_neT (a := 11) c131 rfl; have := lv_neT (a := 12) c139 rfl; have := lv_neT (a := 13) c147 rfl; have := lv_neT (a := 14) c161 rfl; have := lv_neT (a := 15) c169 rfl; have := lv_neT (a := 16) c179 rfl; have := lv_neT (a := 17) c185 rfl; have := lv_neT (a := 18) c193 rfl; have := lv_neT (a := 19) c201 rfl; have := lv_neT (a := 20) c211 rfl; have := lv_neT (a := 21) c217 rfl; have := lv_neT (a := 22) c225 rfl; have := lv_neT (a := 23) c233 rfl; omega) (by decide) ?_
                                                      refine lv_iinc (v := (x3 + 8)) (lv' := [(3, .int (x3 + 8)), (0, .ref bs), (1, .ref a1), (2, .ref a2)]) hx hb dL_law_910 hl (k := 3) rfl rfl (by decide) rfl (fun ls hl => ?_)
                                                      refine lv_goto (tgt := 18) hx hb dL_law_913 (by decide) ?_
                                                      exact ih _ _ _ _ _ hR h (lv_sub hl [1, 2, 3, 0] rfl)
set_option maxHeartbeats 4000000 in
set_option maxRecDepth 100000 in
theorem w_Law {p : Program} {l : Launch} {e : Env} {s : State} {m : MethodId} {below : List Frame} {meth : Method} {c : Code} {G : hp_G} {bs L : Nat} {xs : Nat → Int32} {σ : hp_H} (hX : hp_X G p s m c #[Value.ref bs] cL_law 4 RL) (hb2 : c.code = code) (hV : va_X bs L xs s s.heap ∧ bs < s.heap.size) (hlocks : meth.locks = false) (hr : meth.sig.returnType = ret) {ls : Array Slot} (hR : hp_R G s.heap.size s.heap σ s.heap []) (h : f_Law xs L σ = some ()) (hl : lv_has ls 4 [(0, .ref bs)]) : W p l e room_1 s m #[Value.ref bs] below meth c s.heap [] 0 0 (lw_Z below #[Value.ref bs] s) (F0 m 0 ls []) := by
  obtain ⟨hx, hb, hml, hown, hts⟩ := id hX.1
  unfold f_Law at h
  refine hp_newO hX hR (ci := 9) (fs := [.null, .null, .null, .null, .null, .null, .null]) rfl wf10 tyX10_ok wq1_16 wq1_17 wq1_1 (by decide +kernel) (Nat.le_of_ble_eq_true rfl) (Nat.le_of_ble_eq_true rfl) dL_law_0 h (fun q1 σ H h hR => ?_)
  refine lv_dup hx hb dL_law_3 rfl ?_
  refine hp_bn h (fun σ h2 h => ?_)
  refine hp_cv hR (hp_runI (rest := [.ref q1]) (As := []) hX hR (c_NB_init h2) cs_L_9 rfl rfl rfl hd_NB_init ⟨Nat.le_of_ble_eq_true rfl, Nat.le_of_ble_eq_true rfl⟩ rfl hl.1 rfl (Nat.le_of_ble_eq_true rfl) dL_law_4 ⟨Nat.le_of_ble_eq_true rfl, Nat.le_of_ble_eq_true rfl⟩) (fun H locs hR => ?_)
  refine lv_astore_n (lv' := [(1, .ref q1), (0, .ref bs)]) hx hb dL_law_7 rfl hl (by decide) rfl (fun ls hl => ?_)
  refine hp_newO hX hR (ci := 10) (fs := [.null, .int 0, .null, .int 0, .null, .null, .null, .null, .int 0, .null, .null, .int 0, .null, .int 0, .null, .int 0, .int 0, .int 0, .int 0]) rfl wf11 tyX11_ok wq3_161 wq3_162 wq1_11 (by decide +kernel) (Nat.le_of_ble_eq_true rfl) (Nat.le_of_ble_eq_true rfl) dL_law_8 h (fun q3 σ H h hR => ?_)
  refine lv_dup hx hb dL_law_11 rfl ?_
  refine hp_bn h (fun σ h4 h => ?_)
  refine hp_cv hR (hp_runI (rest := [.ref q3]) (As := []) hX hR (c_Mo_init h4) cs_L_12 rfl rfl rfl hd_Mo_init ⟨Nat.le_of_ble_eq_true rfl, Nat.le_of_ble_eq_true rfl⟩ rfl hl.1 rfl (Nat.le_of_ble_eq_true rfl) dL_law_12 ⟨Nat.le_of_ble_eq_true rfl, Nat.le_of_ble_eq_true rfl⟩) (fun H locs hR => ?_)
  refine lv_astore_n (lv' := [(2, .ref q3), (1, .ref q1), (0, .ref bs)]) hx hb dL_law_15 rfl hl (by decide) rfl (fun ls hl => ?_)
  refine lv_iconst (v := 0) hx hb dL_law_16 (by decide) ?_
  refine lv_istore_n (lv' := [(3, .int 0), (2, .ref q3), (1, .ref q1), (0, .ref bs)]) hx hb dL_law_17 rfl hl (by decide) rfl (fun ls hl => ?_)
  exact w_Law_l1 hX hb2 hV hlocks hr hp_F _ _ _ _ _ hR h (lv_sub hl [3, 2, 1, 0] rfl)
