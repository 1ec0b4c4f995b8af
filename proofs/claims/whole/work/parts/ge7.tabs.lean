/-! the tables are right -/
theorem tn_316 : tx_PM lw_tbl "ContentRulesLaw" tm_316 := ⟨(List.forall_mem_append.mpr ⟨fun x hx => of_decide_eq_true (List.all_eq_true.mp tnl_0 x hx), (List.forall_mem_append.mpr ⟨fun x hx => of_decide_eq_true (List.all_eq_true.mp tnl_1 x hx), (List.forall_mem_append.mpr ⟨fun x hx => of_decide_eq_true (List.all_eq_true.mp tnl_2 x hx), (List.forall_mem_append.mpr ⟨fun x hx => of_decide_eq_true (List.all_eq_true.mp tnl_3 x hx), (List.forall_mem_append.mpr ⟨fun x hx => of_decide_eq_true (List.all_eq_true.mp tnl_4 x hx), (List.forall_mem_append.mpr ⟨fun x hx => of_decide_eq_true (List.all_eq_true.mp tnl_5 x hx), (List.forall_mem_append.mpr ⟨fun x hx => of_decide_eq_true (List.all_eq_true.mp tnl_6 x hx), (List.forall_mem_append.mpr ⟨fun x hx => of_decide_eq_true (List.all_eq_true.mp tnl_7 x hx), (List.forall_mem_append.mpr ⟨fun x hx => of_decide_eq_true (List.all_eq_true.mp tnl_8 x hx), (List.forall_mem_append.mpr ⟨fun x hx => of_decide_eq_true (List.all_eq_true.mp tnl_9 x hx), (List.forall_mem_append.mpr ⟨fun x hx => of_decide_eq_true (List.all_eq_true.mp tnl_10 x hx), (List.forall_mem_append.mpr ⟨fun x hx => of_decide_eq_true (List.all_eq_true.mp tnl_11 x hx), (List.forall_mem_append.mpr ⟨fun x hx => of_decide_eq_true (List.all_eq_true.mp tnl_12 x hx), (List.forall_mem_append.mpr ⟨fun x hx => of_decide_eq_true (List.all_eq_true.mp tnl_13 x hx), (List.forall_mem_append.mpr ⟨fun x hx => of_decide_eq_true (List.all_eq_true.mp tnl_14 x hx), (List.forall_mem_append.mpr ⟨fun x hx => of_decide_eq_true (List.all_eq_true.mp tnl_15 x hx), (List.forall_mem_append.mpr ⟨fun x hx => of_decide_eq_true (List.all_eq_true.mp tnl_16 x hx), (List.forall_mem_append.mpr ⟨fun x hx => of_decide_eq_true (List.all_eq_true.mp tnl_17 x hx), (List.forall_mem_append.mpr ⟨fun x hx => of_decide_eq_true (List.all_eq_true.mp tnl_18 x hx), (List.forall_mem_append.mpr ⟨fun x hx => of_decide_eq_true (List.all_eq_true.mp tnl_19 x hx), (List.forall_mem_append.mpr ⟨fun x hx => of_decide_eq_true (List.all_eq_true.mp tnl_20 x hx), (List.forall_mem_append.mpr ⟨fun x hx => of_decide_eq_true (List.all_eq_true.mp tnl_21 x hx), (List.forall_mem_append.mpr ⟨fun x hx => of_decide_eq_true (List.all_eq_true.mp tnl_22 x hx), (List.forall_mem_append.mpr ⟨fun x hx => of_decide_eq_true (List.all_eq_true.mp tnl_23 x hx), (List.forall_mem_append.mpr ⟨fun x hx => of_decide_eq_true (List.all_eq_true.mp tnl_24 x hx), (List.forall_mem_append.mpr ⟨fun x hx => of_decide_eq_true (List.all_eq_true.mp tnl_25 x hx), (fun x hx => nomatch hx)⟩)⟩)⟩)⟩)⟩)⟩)⟩)⟩)⟩)⟩)⟩)⟩)⟩)⟩)⟩)⟩)⟩)⟩)⟩)⟩)⟩)⟩)⟩)⟩)⟩)⟩), rfl, (fun q => nomatch q), (fun q => nomatch q)⟩
set_option maxRecDepth 100000 in
theorem tn_317 : tx_chkM lw_tbl "java/lang/String" tm_317 = true := by decide +kernel
set_option maxRecDepth 100000 in
theorem tn_318 : tx_chkM lw_tbl "java/lang/String" tm_318 = true := by decide +kernel
def tq_PM (q : zRM × Nat) : Prop := tx_PM lw_tbl (tq_cn q.2) q.1
theorem tq_Mok (mid : Nat) : tq_PM (tq_MC mid) := tx_bif (Pp := tq_PM) (fun _ => tx_bif (fun _ => tx_bif (fun _ => tx_bif (fun _ => tx_bif (fun _ => tx_bif (fun _ => tx_bif (fun _ => tx_bif (fun _ => tx_bif (fun _ => tx_PMof tn_0) (fun _ => tx_PMof tn_1)) (fun _ => tx_bif (fun _ => tx_PMof tn_2) (fun _ => tx_PMof tn_3))) (fun _ => tx_bif (fun _ => tx_bif (fun _ => tx_PMof tn_4) (fun _ => tx_PMof tn_5)) (fun _ => tx_bif (fun _ => tx_PMof tn_6) (fun _ => tx_bif (fun _ => tx_PMof tn_7) (fun _ => tx_PMof tn_8))))) (fun _ => tx_bif (fun _ => tx_bif (fun _ => tx_bif (fun _ => tx_PMof tn_9) (fun _ => tx_PMof tn_10)) (fun _ => tx_bif (fun _ => tx_PMof tn_11) (fun _ => tx_bif (fun _ => tx_PMof tn_12) (fun _ => tx_PMof tn_13)))) (fun _ => tx_bif (fun _ => tx_bif (fun _ => tx_PMof tn_14) (fun _ => tx_PMof tn_15)) (fun _ => tx_bif (fun _ => tx_PMof tn_16) (fun _ => tx_bif (fun _ => tx_PMof tn_17) (fun _ => tx_PMof tn_18)))))) (fun _ => tx_bif (fun _ => tx_bif (fun _ => tx_bif (fun _ => tx_bif (fun _ => tx_PMof tn_19) (fun _ => tx_PMof tn_20)) (fun _ => tx_bif (fun _ => tx_PMof tn_21) (fun _ => tx_bif (fun _ => tx_PMof tn_22) (fun _ => tx_PMof tn_23)))) (fun _ => tx_bif (fun _ => tx_bif (fun _ => tx_PMof tn_24) (fun _ => tx_PMof tn_25)) (fun _ => tx_bif (fun _ => tx_PMof tn_26) (fun _ => tx_bif (fun _ => tx_PMof tn_27) (fun _ => tx_PMof tn_28))))) (fun _ => tx_bif (fun _ => tx_bif (fun _ => tx_bif (fun _ => tx_PMof tn_29) (fun _ => tx_PMof tn_30)) (fun _ => tx_bif (fun _ => tx_PMof tn_31) (fun _ => tx_bif (fun _ => tx_PMof tn_32) (fun _ => tx_PMof tn_33)))) (fun _ => tx_bif (fun _ => tx_bif (fun _ => tx_PMof tn_34) (fun _ => tx_PMof tn_35)) (fun _ => tx_bif (fun _ => tx_PMof tn_36) (fun _ => tx_bif (fun _ => tx_PMof tn_37) (fun _ => tx_PMof tn_38))))))) (fun _ => tx_bif (fun _ => tx_bif (fun _ => tx_bif (fun _ => tx_bif (fun _ => tx_bif (fun _ => tx_PMof tn_39) (fun _ => tx_PMof tn_40)) (fun _ => tx_bif (fun _ => tx_PMof tn_41) (fun _ => tx_bif (fun _ => tx_PMof tn_42) (fun _ => tx_PMof tn_43)))) (fun _ => tx_bif (fun _ => tx_bif (fun _ => tx_PMof tn_44) (fun _ => tx_PMof tn_45)) (fun _ => tx_bif (fun _ => tx_PMof tn_46) (fun _ => tx_bif (fun _ => tx_PMof tn_47) (fun _ => tx_PMof tn_48))))) (fun _ => tx_bif (fun _ => tx_bif (fun _ => tx_bif (fun _ => tx_PMof tn_49) (fun _ => tx_PMof tn_50)) (fun _ => tx_bif (fun _ => tx_PMof tn_51) (fun _ => tx_bif (fun _ => tx_PMof tn_52) (fun _ => tx_PMof tn_53)))) (fun _ => tx_bif (fun _ => tx_bif (fun _ => tx_PMof tn_54) (fun _ => tx_PMof tn_55)) (fun _ => tx_bif (fun _ => tx_PMof tn_56) (fun _ => tx_bif (fun _ => tx_PMof tn_57) (fun _ => tx_PMof tn_58)))))) (fun _ => tx_bif (fun _ => tx_bif (fun _ => tx_bif (fun _ => tx_bif (fun _ => tx_PMof tn_59) (fun _ => tx_PMof tn_60)) (fun _ => tx_bif (fun _ => tx_PMof tn_61) (fun _ => tx_bif (fun _ => tx_PMof tn_62) (fun _ => tx_PMof tn_63)))) (fun _ => tx_bif (fun _ => tx_bif (fun _ => tx_PMof tn_64) (fun _ => tx_PMof tn_65)) (fun _ => tx_bif (fun _ => tx_PMof tn_66) (fun _ => tx_bif (fun _ => tx_PMof tn_67) (fun _ => tx_PMof tn_68))))) (fun _ => tx_bif (fun _ => tx_bif (fun _ => tx_bif (fun _ => tx_PMof tn_69) (fun _ => tx_PMof tn_70)) (fun _ => tx_bif (fun _ => tx_PMof tn_71) (fun _ => tx_bif (fun _ => tx_PMof tn_72) (fun _ => tx_PMof tn_73)))) (fun _ => tx_bif (fun _ => tx_bif (fun _ => tx_PMof tn_74) (fun _ => tx_PMof tn_75)) (fun _ => tx_bif (fun _ => tx_PMof tn_76) (fun _ => tx_bif (fun _ => tx_PMof tn_77) (fun _ => tx_PMof tn_78)))))))) (fun _ => tx_bif (fun _ => tx_bif (fun _ => tx_bif (fun _ => tx_bif (fun _ => tx_bif (fun _ => tx_bif (fun _ => tx_PMof tn_79) (fun _ => tx_PMof tn_80)) (fun _ => tx_bif (fun _ => tx_PMof tn_81) (fun _ => tx_bif (fun _ => tx_PMof tn_82) (fun _ => tx_PMof tn_83)))) (fun _ => tx_bif (fun _ => tx_bif (fun _ => tx_PMof tn_84) (fun _ => tx_PMof tn_85)) (fun _ => tx_bif (fun _ => tx_PMof tn_86) (fun _ => tx_bif (fun _ => tx_PMof tn_87) (fun _ => tx_PMof tn_88))))) (fun _ => tx_bif (fun _ => tx_bif (fun _ => tx_bif (fun _ => tx_PMof tn_89) (fun _ => tx_PMof tn_90)) (fun _ => tx_bif (fun _ => tx_PMof tn_91) (fun _ => tx_bif (fun _ => tx_PMof tn_92) (fun _ => tx_PMof tn_93)))) (fun _ => tx_bif (fun _ => tx_bif (fun _ => tx_PMof tn_94) (fun _ => tx_PMof tn_95)) (fun _ => tx_bif (fun _ => tx_PMof tn_96) (fun _ => tx_bif (fun _ => tx_PMof tn_97) (fun _ => tx_PMof tn_98)))))) (fun _ => tx_bif (fun _ => tx_bif (fun _ => tx_bif (fun _ => tx_bif (fun _ => tx_PMof tn_99) (fun _ => tx_PMof tn_100)) (fun _ => tx_bif (fun _ => tx_PMof tn_101) (fun _ => tx_bif (fun _ => tx_PMof tn_102) (fun _ => tx_PMof tn_103)))) (fun _ => tx_bif (fun _ => tx_bif (fun _ => tx_PMof tn_104) (fun _ => tx_PMof tn_105)) (fun _ => tx_bif (fun _ => tx_PMof tn_106) (fun _ => tx_bif (fun _ => tx_PMof tn_107) (fun _ => tx_PMof tn_108))))) (fun _ => tx_bif (fun _ => tx_bif (fun _ => tx_bif (fun _ => tx_PMof tn_109) (fun _ => tx_PMof tn_110)) (fun _ => tx_bif (fun _ => tx_PMof tn_111) (fun _ => tx_bif (fun _ => tx_PMof tn_112) (fun _ => tx_PMof tn_113)))) (fun _ => tx_bif (fun _ => tx_bif (fun _ => tx_PMof tn_114) (fun _ => tx_PMof tn_115)) (fun _ => tx_bif (fun _ => tx_PMof tn_116) (fun _ => tx_bif (fun _ => tx_PMof tn_117) (fun _ => tx_PMof tn_118))))))) (fun _ => tx_bif (fun _ => tx_bif (fun _ => tx_bif (fun _ => tx_bif (fun _ => tx_bif (fun _ => tx_PMof tn_119) (fun _ => tx_PMof tn_120)) (fun _ => tx_bif (fun _ => tx_PMof tn_121) (fun _ => tx_bif (fun _ => tx_PMof tn_122) (fun _ => tx_PMof tn_123)))) (fun _ => tx_bif (fun _ => tx_bif (fun _ => tx_PMof tn_124) (fun _ => tx_PMof tn_125)) (fun _ => tx_bif (fun _ => tx_PMof tn_126) (fun _ => tx_bif (fun _ => tx_PMof tn_127) (fun _ => tx_PMof tn_128))))) (fun _ => tx_bif (fun _ => tx_bif (fun _ => tx_bif (fun _ => tx_PMof tn_129) (fun _ => tx_PMof tn_130)) (fun _ => tx_bif (fun _ => tx_PMof tn_131) (fun _ => tx_bif (fun _ => tx_PMof tn_132) (fun _ => tx_PMof tn_133)))) (fun _ => tx_bif (fun _ => tx_bif (fun _ => tx_PMof tn_134) (fun _ => tx_PMof tn_135)) (fun _ => tx_bif (fun _ => tx_PMof tn_136) (fun _ => tx_bif (fun _ => tx_PMof tn_137) (fun _ => tx_PMof tn_138)))))) (fun _ => tx_bif (fun _ => tx_bif (fun _ => tx_bif (fun _ => tx_bif (fun _ => tx_PMof tn_139) (fun _ => tx_PMof tn_140)) (fun _ => tx_bif (fun _ => tx_PMof tn_141) (fun _ => tx_bif (fun _ => tx_PMof tn_142) (fun _ => tx_PMof tn_143)))) (fun _ => tx_bif (fun _ => tx_bif (fun _ => tx_PMof tn_144) (fun _ => tx_PMof tn_145)) (fun _ => tx_bif (fun _ => tx_PMof tn_146) (fun _ => tx_bif (fun _ => tx_PMof tn_147) (fun _ => tx_PMof tn_148))))) (fun _ => tx_bif (fun _ => tx_bif (fun _ => tx_bif (fun _ => tx_PMof tn_149) (fun _ => tx_PMof tn_150)) (fun _ => tx_bif (fun _ => tx_PMof tn_151) (fun _ => tx_bif (fun _ => tx_PMof tn_152) (fun _ => tx_PMof tn_153)))) (fun _ => tx_bif (fun _ => tx_bif (fun _ => tx_PMof tn_154) (fun _ => tx_PMof tn_155)) (fun _ => tx_bif (fun _ => tx_PMof tn_156) (fun _ => tx_bif (fun _ => tx_PMof tn_157) (fun _ => tx_PMof tn_158))))))))) (fun _ => tx_bif (fun _ => tx_bif (fun _ => tx_bif (fun _ => tx_bif (fun _ => tx_bif (fun _ => tx_bif (fun _ => tx_bif (fun _ => tx_PMof tn_159) (fun _ => tx_PMof tn_160)) (fun _ => tx_bif (fun _ => tx_PMof tn_161) (fun _ => tx_bif (fun _ => tx_PMof tn_162) (fun _ => tx_PMof tn_163)))) (fun _ => tx_bif (fun _ => tx_bif (fun _ => tx_PMof tn_164) (fun _ => tx_PMof tn_165)) (fun _ => tx_bif (fun _ => tx_PMof tn_166) (fun _ => tx_bif (fun _ => tx_PMof tn_167) (fun _ => tx_PMof tn_168))))) (fun _ => tx_bif (fun _ => tx_bif (fun _ => tx_bif (fun _ => tx_PMof tn_169) (fun _ => tx_PMof tn_170)) (fun _ => tx_bif (fun _ => tx_PMof tn_171) (fun _ => tx_bif (fun _ => tx_PMof tn_172) (fun _ => tx_PMof tn_173)))) (fun _ => tx_bif (fun _ => tx_bif (fun _ => tx_PMof tn_174) (fun _ => tx_PMof tn_175)) (fun _ => tx_bif (fun _ => tx_PMof tn_176) (fun _ => tx_bif (fun _ => tx_PMof tn_177) (fun _ => tx_PMof tn_178)))))) (fun _ => tx_bif (fun _ => tx_bif (fun _ => tx_bif (fun _ => tx_bif (fun _ => tx_PMof tn_179) (fun _ => tx_PMof tn_180)) (fun _ => tx_bif (fun _ => tx_PMof tn_181) (fun _ => tx_bif (fun _ => tx_PMof tn_182) (fun _ => tx_PMof tn_183)))) (fun _ => tx_bif (fun _ => tx_bif (fun _ => tx_PMof tn_184) (fun _ => tx_PMof tn_185)) (fun _ => tx_bif (fun _ => tx_PMof tn_186) (fun _ => tx_bif (fun _ => tx_PMof tn_187) (fun _ => tx_PMof tn_188))))) (fun _ => tx_bif (fun _ => tx_bif (fun _ => tx_bif (fun _ => tx_PMof tn_189) (fun _ => tx_PMof tn_190)) (fun _ => tx_bif (fun _ => tx_PMof tn_191) (fun _ => tx_bif (fun _ => tx_PMof tn_192) (fun _ => tx_PMof tn_193)))) (fun _ => tx_bif (fun _ => tx_bif (fun _ => tx_PMof tn_194) (fun _ => tx_PMof tn_195)) (fun _ => tx_bif (fun _ => tx_PMof tn_196) (fun _ => tx_bif (fun _ => tx_PMof tn_197) (fun _ => tx_PMof tn_198))))))) (fun _ => tx_bif (fun _ => tx_bif (fun _ => tx_bif (fun _ => tx_bif (fun _ => tx_bif (fun _ => tx_PMof tn_199) (fun _ => tx_PMof tn_200)) (fun _ => tx_bif (fun _ => tx_PMof tn_201) (fun _ => tx_bif (fun _ => tx_PMof tn_202) (fun _ => tx_PMof tn_203)))) (fun _ => tx_bif (fun _ => tx_bif (fun _ => tx_PMof tn_204) (fun _ => tx_PMof tn_205)) (fun _ => tx_bif (fun _ => tx_PMof tn_206) (fun _ => tx_bif (fun _ => tx_PMof tn_207) (fun _ => tx_PMof tn_208))))) (fun _ => tx_bif (fun _ => tx_bif (fun _ => tx_bif (fun _ => tx_PMof tn_209) (fun _ => tx_PMof tn_210)) (fun _ => tx_bif (fun _ => tx_PMof tn_211) (fun _ => tx_bif (fun _ => tx_PMof tn_212) (fun _ => tx_PMof tn_213)))) (fun _ => tx_bif (fun _ => tx_bif (fun _ => tx_PMof tn_214) (fun _ => tx_PMof tn_215)) (fun _ => tx_bif (fun _ => tx_PMof tn_216) (fun _ => tx_bif (fun _ => tx_PMof tn_217) (fun _ => tx_PMof tn_218)))))) (fun _ => tx_bif (fun _ => tx_bif (fun _ => tx_bif (fun _ => tx_bif (fun _ => tx_PMof tn_219) (fun _ => tx_PMof tn_220)) (fun _ => tx_bif (fun _ => tx_PMof tn_221) (fun _ => tx_bif (fun _ => tx_PMof tn_222) (fun _ => tx_PMof tn_223)))) (fun _ => tx_bif (fun _ => tx_bif (fun _ => tx_PMof tn_224) (fun _ => tx_PMof tn_225)) (fun _ => tx_bif (fun _ => tx_PMof tn_226) (fun _ => tx_bif (fun _ => tx_PMof tn_227) (fun _ => tx_PMof tn_228))))) (fun _ => tx_bif (fun _ => tx_bif (fun _ => tx_bif (fun _ => tx_PMof tn_229) (fun _ => tx_PMof tn_230)) (fun _ => tx_bif (fun _ => tx_PMof tn_231) (fun _ => tx_bif (fun _ => tx_PMof tn_232) (fun _ => tx_PMof tn_233)))) (fun _ => tx_bif (fun _ => tx_bif (fun _ => tx_PMof tn_234) (fun _ => tx_PMof tn_235)) (fun _ => tx_bif (fun _ => tx_PMof tn_236) (fun _ => tx_bif (fun _ => tx_PMof tn_237) (fun _ => tx_PMof tn_238)))))))) (fun _ => tx_bif (fun _ => tx_bif (fun _ => tx_bif (fun _ => tx_bif (fun _ => tx_bif (fun _ => tx_bif (fun _ => tx_PMof tn_239) (fun _ => tx_PMof tn_240)) (fun _ => tx_bif (fun _ => tx_PMof tn_241) (fun _ => tx_bif (fun _ => tx_PMof tn_242) (fun _ => tx_PMof tn_243)))) (fun _ => tx_bif (fun _ => tx_bif (fun _ => tx_PMof tn_244) (fun _ => tx_PMof tn_245)) (fun _ => tx_bif (fun _ => tx_PMof tn_246) (fun _ => tx_bif (fun _ => tx_PMof tn_247) (fun _ => tx_PMof tn_248))))) (fun _ => tx_bif (fun _ => tx_bif (fun _ => tx_bif (fun _ => tx_PMof tn_249) (fun _ => tx_PMof tn_250)) (fun _ => tx_bif (fun _ => tx_PMof tn_251) (fun _ => tx_bif (fun _ => tx_PMof tn_252) (fun _ => tx_PMof tn_253)))) (fun _ => tx_bif (fun _ => tx_bif (fun _ => tx_PMof tn_254) (fun _ => tx_PMof tn_255)) (fun _ => tx_bif (fun _ => tx_PMof tn_256) (fun _ => tx_bif (fun _ => tx_PMof tn_257) (fun _ => tx_PMof tn_258)))))) (fun _ => tx_bif (fun _ => tx_bif (fun _ => tx_bif (fun _ => tx_bif (fun _ => tx_PMof tn_259) (fun _ => tx_PMof tn_260)) (fun _ => tx_bif (fun _ => tx_PMof tn_261) (fun _ => tx_bif (fun _ => tx_PMof tn_262) (fun _ => tx_PMof tn_263)))) (fun _ => tx_bif (fun _ => tx_bif (fun _ => tx_PMof tn_264) (fun _ => tx_PMof tn_265)) (fun _ => tx_bif (fun _ => tx_PMof tn_266) (fun _ => tx_bif (fun _ => tx_PMof tn_267) (fun _ => tx_PMof tn_268))))) (fun _ => tx_bif (fun _ => tx_bif (fun _ => tx_bif (fun _ => tx_PMof tn_269) (fun _ => tx_PMof tn_270)) (fun _ => tx_bif (fun _ => tx_PMof tn_271) (fun _ => tx_bif (fun _ => tx_PMof tn_272) (fun _ => tx_PMof tn_273)))) (fun _ => tx_bif (fun _ => tx_bif (fun _ => tx_PMof tn_274) (fun _ => tx_PMof tn_275)) (fun _ => tx_bif (fun _ => tx_PMof tn_276) (fun _ => tx_bif (fun _ => tx_PMof tn_277) (fun _ => tx_PMof tn_278))))))) (fun _ => tx_bif (fun _ => tx_bif (fun _ => tx_bif (fun _ => tx_bif (fun _ => tx_bif (fun _ => tx_PMof tn_279) (fun _ => tx_PMof tn_280)) (fun _ => tx_bif (fun _ => tx_PMof tn_281) (fun _ => tx_bif (fun _ => tx_PMof tn_282) (fun _ => tx_PMof tn_283)))) (fun _ => tx_bif (fun _ => tx_bif (fun _ => tx_PMof tn_284) (fun _ => tx_PMof tn_285)) (fun _ => tx_bif (fun _ => tx_PMof tn_286) (fun _ => tx_bif (fun _ => tx_PMof tn_287) (fun _ => tx_PMof tn_288))))) (fun _ => tx_bif (fun _ => tx_bif (fun _ => tx_bif (fun _ => tx_PMof tn_289) (fun _ => tx_PMof tn_290)) (fun _ => tx_bif (fun _ => tx_PMof tn_291) (fun _ => tx_bif (fun _ => tx_PMof tn_292) (fun _ => tx_PMof tn_293)))) (fun _ => tx_bif (fun _ => tx_bif (fun _ => tx_PMof tn_294) (fun _ => tx_PMof tn_295)) (fun _ => tx_bif (fun _ => tx_PMof tn_296) (fun _ => tx_bif (fun _ => tx_PMof tn_297) (fun _ => tx_PMof tn_298)))))) (fun _ => tx_bif (fun _ => tx_bif (fun _ => tx_bif (fun _ => tx_bif (fun _ => tx_PMof tn_299) (fun _ => tx_PMof tn_300)) (fun _ => tx_bif (fun _ => tx_PMof tn_301) (fun _ => tx_bif (fun _ => tx_PMof tn_302) (fun _ => tx_PMof tn_303)))) (fun _ => tx_bif (fun _ => tx_bif (fun _ => tx_PMof tn_304) (fun _ => tx_PMof tn_305)) (fun _ => tx_bif (fun _ => tx_PMof tn_306) (fun _ => tx_bif (fun _ => tx_PMof tn_307) (fun _ => tx_PMof tn_308))))) (fun _ => tx_bif (fun _ => tx_bif (fun _ => tx_bif (fun _ => tx_PMof tn_309) (fun _ => tx_PMof tn_310)) (fun _ => tx_bif (fun _ => tx_PMof tn_311) (fun _ => tx_bif (fun _ => tx_PMof tn_312) (fun _ => tx_PMof tn_313)))) (fun _ => tx_bif (fun _ => tx_bif (fun _ => tx_PMof tn_314) (fun _ => tx_PMof tn_315)) (fun _ => tx_bif (fun _ => tn_316) (fun _ => tx_bif (fun _ => tx_PMof tn_317) (fun _ => tx_PMof tn_318)))))))))) (fun _ => ⟨(fun x hx => nomatch hx), rfl, (fun q => nomatch q), (fun q => nomatch q)⟩)
set_option maxRecDepth 100000 in
theorem tvF_0 : tF_0.all (fun x => tx_chkF tq_R lw_tbl "ContentRules$Difference" x) = true := by decide +kernel
set_option maxRecDepth 100000 in
theorem tvF_1 : tF_1.all (fun x => tx_chkF tq_R lw_tbl "ContentRules$Document" x) = true := by decide +kernel
set_option maxRecDepth 100000 in
theorem tvF_2 : tF_2.all (fun x => tx_chkF tq_R lw_tbl "ContentRules$Learner" x) = true := by decide +kernel
set_option maxRecDepth 100000 in
theorem tvF_3 : tF_3.all (fun x => tx_chkF tq_R lw_tbl "ContentRules$Node" x) = true := by decide +kernel
set_option maxRecDepth 100000 in
theorem tvF_4 : tF_4.all (fun x => tx_chkF tq_R lw_tbl "ContentRules$Reading" x) = true := by decide +kernel
set_option maxRecDepth 100000 in
theorem tvF_5 : tF_5.all (fun x => tx_chkF tq_R lw_tbl "ContentRules$Rule" x) = true := by decide +kernel
set_option maxRecDepth 100000 in
theorem tvF_6 : tF_6.all (fun x => tx_chkF tq_R lw_tbl "ContentRules$RuleSet" x) = true := by decide +kernel
set_option maxRecDepth 100000 in
theorem tvF_7 : tF_7.all (fun x => tx_chkF tq_R lw_tbl "ContentRules$Speller" x) = true := by decide +kernel
set_option maxRecDepth 100000 in
theorem tvF_8 : tF_8.all (fun x => tx_chkF tq_R lw_tbl "ContentRules$Walk" x) = true := by decide +kernel
set_option maxRecDepth 100000 in
theorem tvF_9 : tF_9.all (fun x => tx_chkF tq_R lw_tbl "ContentRules$Ways" x) = true := by decide +kernel
set_option maxRecDepth 100000 in
theorem tvF_10 : tF_10.all (fun x => tx_chkF tq_R lw_tbl "ContentRules$Witness" x) = true := by decide +kernel
set_option maxRecDepth 100000 in
theorem tvF_11 : tF_11.all (fun x => tx_chkF tq_R lw_tbl "ContentRules" x) = true := by decide +kernel
set_option maxRecDepth 100000 in
theorem tvF_12 : tF_12.all (fun x => tx_chkF tq_R lw_tbl "ContentRulesModel" x) = true := by decide +kernel
set_option maxRecDepth 100000 in
theorem tvF_13 : tF_13.all (fun x => tx_chkF tq_R lw_tbl "ContentRulesLaw" x) = true := by decide +kernel
theorem tw_F (c : Nat) (x : _) (hx : x ∈ tq_F c) : tx_chkF tq_R lw_tbl (tq_cn c) x = true := by
    match c, hx with
    | 0, hx => exact List.all_eq_true.mp tvF_0 x hx
    | 1, hx => exact List.all_eq_true.mp tvF_1 x hx
    | 2, hx => exact List.all_eq_true.mp tvF_2 x hx
    | 3, hx => exact List.all_eq_true.mp tvF_3 x hx
    | 4, hx => exact List.all_eq_true.mp tvF_4 x hx
    | 5, hx => exact List.all_eq_true.mp tvF_5 x hx
    | 6, hx => exact List.all_eq_true.mp tvF_6 x hx
    | 7, hx => exact List.all_eq_true.mp tvF_7 x hx
    | 8, hx => exact List.all_eq_true.mp tvF_8 x hx
    | 9, hx => exact List.all_eq_true.mp tvF_9 x hx
    | 10, hx => exact List.all_eq_true.mp tvF_10 x hx
    | 11, hx => exact List.all_eq_true.mp tvF_11 x hx
    | 12, hx => exact List.all_eq_true.mp tvF_12 x hx
    | 13, hx => exact List.all_eq_true.mp tvF_13 x hx
    | c + 14, hx => exact absurd hx (List.not_mem_nil)
set_option maxRecDepth 100000 in
theorem tvK_0 : tK_0.all (fun x => tx_chkK tq_R lw_tbl tq_NW "ContentRules$Difference" x) = true := by decide +kernel
set_option maxRecDepth 100000 in
theorem tvK_1 : tK_1.all (fun x => tx_chkK tq_R lw_tbl tq_NW "ContentRules$Document" x) = true := by decide +kernel
set_option maxRecDepth 100000 in
theorem tvK_2 : tK_2.all (fun x => tx_chkK tq_R lw_tbl tq_NW "ContentRules$Learner" x) = true := by decide +kernel
set_option maxRecDepth 100000 in
theorem tvK_3 : tK_3.all (fun x => tx_chkK tq_R lw_tbl tq_NW "ContentRules$Node" x) = true := by decide +kernel
set_option maxRecDepth 100000 in
theorem tvK_4 : tK_4.all (fun x => tx_chkK tq_R lw_tbl tq_NW "ContentRules$Reading" x) = true := by decide +kernel
set_option maxRecDepth 100000 in
theorem tvK_5 : tK_5.all (fun x => tx_chkK tq_R lw_tbl tq_NW "ContentRules$Rule" x) = true := by decide +kernel
set_option maxRecDepth 100000 in
theorem tvK_6 : tK_6.all (fun x => tx_chkK tq_R lw_tbl tq_NW "ContentRules$RuleSet" x) = true := by decide +kernel
set_option maxRecDepth 100000 in
theorem tvK_7 : tK_7.all (fun x => tx_chkK tq_R lw_tbl tq_NW "ContentRules$Speller" x) = true := by decide +kernel
set_option maxRecDepth 100000 in
theorem tvK_8 : tK_8.all (fun x => tx_chkK tq_R lw_tbl tq_NW "ContentRules$Walk" x) = true := by decide +kernel
set_option maxRecDepth 100000 in
theorem tvK_9 : tK_9.all (fun x => tx_chkK tq_R lw_tbl tq_NW "ContentRules$Ways" x) = true := by decide +kernel
set_option maxRecDepth 100000 in
theorem tvK_10 : tK_10.all (fun x => tx_chkK tq_R lw_tbl tq_NW "ContentRules$Witness" x) = true := by decide +kernel
set_option maxRecDepth 100000 in
theorem tvK_11 : tK_11.all (fun x => tx_chkK tq_R lw_tbl tq_NW "ContentRules" x) = true := by decide +kernel
set_option maxRecDepth 100000 in
theorem tvK_12 : tK_12.all (fun x => tx_chkK tq_R lw_tbl tq_NW "ContentRulesModel" x) = true := by decide +kernel
set_option maxRecDepth 100000 in
theorem tvK_13 : tK_13.all (fun x => tx_chkK tq_R lw_tbl tq_NW "ContentRulesLaw" x) = true := by decide +kernel
theorem tw_K (c : Nat) (x : _) (hx : x ∈ tq_K c) : tx_chkK tq_R lw_tbl tq_NW (tq_cn c) x = true := by
    match c, hx with
    | 0, hx => exact List.all_eq_true.mp tvK_0 x hx
    | 1, hx => exact List.all_eq_true.mp tvK_1 x hx
    | 2, hx => exact List.all_eq_true.mp tvK_2 x hx
    | 3, hx => exact List.all_eq_true.mp tvK_3 x hx
    | 4, hx => exact List.all_eq_true.mp tvK_4 x hx
    | 5, hx => exact List.all_eq_true.mp tvK_5 x hx
    | 6, hx => exact List.all_eq_true.mp tvK_6 x hx
    | 7, hx => exact List.all_eq_true.mp tvK_7 x hx
    | 8, hx => exact List.all_eq_true.mp tvK_8 x hx
    | 9, hx => exact List.all_eq_true.mp tvK_9 x hx
    | 10, hx => exact List.all_eq_true.mp tvK_10 x hx
    | 11, hx => exact List.all_eq_true.mp tvK_11 x hx
    | 12, hx => exact List.all_eq_true.mp tvK_12 x hx
    | 13, hx => exact List.all_eq_true.mp tvK_13 x hx
    | c + 14, hx => exact absurd hx (List.not_mem_nil)
set_option maxRecDepth 100000 in
theorem tvN_0 : tN_0.all (fun x => tx_chkN tq_R lw_tbl "ContentRules$Difference" x) = true := by decide +kernel
set_option maxRecDepth 100000 in
theorem tvN_1 : tN_1.all (fun x => tx_chkN tq_R lw_tbl "ContentRules$Document" x) = true := by decide +kernel
set_option maxRecDepth 100000 in
theorem tvN_2 : tN_2.all (fun x => tx_chkN tq_R lw_tbl "ContentRules$Learner" x) = true := by decide +kernel
set_option maxRecDepth 100000 in
theorem tvN_3 : tN_3.all (fun x => tx_chkN tq_R lw_tbl "ContentRules$Node" x) = true := by decide +kernel
set_option maxRecDepth 100000 in
theorem tvN_4 : tN_4.all (fun x => tx_chkN tq_R lw_tbl "ContentRules$Reading" x) = true := by decide +kernel
set_option maxRecDepth 100000 in
theorem tvN_5 : tN_5.all (fun x => tx_chkN tq_R lw_tbl "ContentRules$Rule" x) = true := by decide +kernel
set_option maxRecDepth 100000 in
theorem tvN_6 : tN_6.all (fun x => tx_chkN tq_R lw_tbl "ContentRules$RuleSet" x) = true := by decide +kernel
set_option maxRecDepth 100000 in
theorem tvN_7 : tN_7.all (fun x => tx_chkN tq_R lw_tbl "ContentRules$Speller" x) = true := by decide +kernel
set_option maxRecDepth 100000 in
theorem tvN_8 : tN_8.all (fun x => tx_chkN tq_R lw_tbl "ContentRules$Walk" x) = true := by decide +kernel
set_option maxRecDepth 100000 in
theorem tvN_9 : tN_9.all (fun x => tx_chkN tq_R lw_tbl "ContentRules$Ways" x) = true := by decide +kernel
set_option maxRecDepth 100000 in
theorem tvN_10 : tN_10.all (fun x => tx_chkN tq_R lw_tbl "ContentRules$Witness" x) = true := by decide +kernel
set_option maxRecDepth 100000 in
theorem tvN_11 : tN_11.all (fun x => tx_chkN tq_R lw_tbl "ContentRules" x) = true := by decide +kernel
set_option maxRecDepth 100000 in
theorem tvN_12 : tN_12.all (fun x => tx_chkN tq_R lw_tbl "ContentRulesModel" x) = true := by decide +kernel
set_option maxRecDepth 100000 in
theorem tvN_13 : tN_13.all (fun x => tx_chkN tq_R lw_tbl "ContentRulesLaw" x) = true := by decide +kernel
theorem tw_N (c : Nat) (x : _) (hx : x ∈ tq_N c) : tx_chkN tq_R lw_tbl (tq_cn c) x = true := by
    match c, hx with
    | 0, hx => exact List.all_eq_true.mp tvN_0 x hx
    | 1, hx => exact List.all_eq_true.mp tvN_1 x hx
    | 2, hx => exact List.all_eq_true.mp tvN_2 x hx
    | 3, hx => exact List.all_eq_true.mp tvN_3 x hx
    | 4, hx => exact List.all_eq_true.mp tvN_4 x hx
    | 5, hx => exact List.all_eq_true.mp tvN_5 x hx
    | 6, hx => exact List.all_eq_true.mp tvN_6 x hx
    | 7, hx => exact List.all_eq_true.mp tvN_7 x hx
    | 8, hx => exact List.all_eq_true.mp tvN_8 x hx
    | 9, hx => exact List.all_eq_true.mp tvN_9 x hx
    | 10, hx => exact List.all_eq_true.mp tvN_10 x hx
    | 11, hx => exact List.all_eq_true.mp tvN_11 x hx
    | 12, hx => exact List.all_eq_true.mp tvN_12 x hx
    | 13, hx => exact List.all_eq_true.mp tvN_13 x hx
    | c + 14, hx => exact absurd hx (List.not_mem_nil)
set_option maxRecDepth 100000 in
theorem tvA_0 : tA_0.all (fun x => tx_chkA lw_tbl "ContentRules$Difference" x) = true := by decide +kernel
set_option maxRecDepth 100000 in
theorem tvA_1 : tA_1.all (fun x => tx_chkA lw_tbl "ContentRules$Document" x) = true := by decide +kernel
set_option maxRecDepth 100000 in
theorem tvA_2 : tA_2.all (fun x => tx_chkA lw_tbl "ContentRules$Learner" x) = true := by decide +kernel
set_option maxRecDepth 100000 in
theorem tvA_3 : tA_3.all (fun x => tx_chkA lw_tbl "ContentRules$Node" x) = true := by decide +kernel
set_option maxRecDepth 100000 in
theorem tvA_4 : tA_4.all (fun x => tx_chkA lw_tbl "ContentRules$Reading" x) = true := by decide +kernel
set_option maxRecDepth 100000 in
theorem tvA_5 : tA_5.all (fun x => tx_chkA lw_tbl "ContentRules$Rule" x) = true := by decide +kernel
set_option maxRecDepth 100000 in
theorem tvA_6 : tA_6.all (fun x => tx_chkA lw_tbl "ContentRules$RuleSet" x) = true := by decide +kernel
set_option maxRecDepth 100000 in
theorem tvA_7 : tA_7.all (fun x => tx_chkA lw_tbl "ContentRules$Speller" x) = true := by decide +kernel
set_option maxRecDepth 100000 in
theorem tvA_8 : tA_8.all (fun x => tx_chkA lw_tbl "ContentRules$Walk" x) = true := by decide +kernel
set_option maxRecDepth 100000 in
theorem tvA_9 : tA_9.all (fun x => tx_chkA lw_tbl "ContentRules$Ways" x) = true := by decide +kernel
set_option maxRecDepth 100000 in
theorem tvA_10 : tA_10.all (fun x => tx_chkA lw_tbl "ContentRules$Witness" x) = true := by decide +kernel
set_option maxRecDepth 100000 in
theorem tvA_11 : tA_11.all (fun x => tx_chkA lw_tbl "ContentRules" x) = true := by decide +kernel
set_option maxRecDepth 100000 in
theorem tvA_12 : tA_12.all (fun x => tx_chkA lw_tbl "ContentRulesModel" x) = true := by decide +kernel
set_option maxRecDepth 100000 in
theorem tvA_13 : tA_13.all (fun x => tx_chkA lw_tbl "ContentRulesLaw" x) = true := by decide +kernel
theorem tw_A (c : Nat) (x : _) (hx : x ∈ tq_A c) : tx_chkA lw_tbl (tq_cn c) x = true := by
    match c, hx with
    | 0, hx => exact List.all_eq_true.mp tvA_0 x hx
    | 1, hx => exact List.all_eq_true.mp tvA_1 x hx
    | 2, hx => exact List.all_eq_true.mp tvA_2 x hx
    | 3, hx => exact List.all_eq_true.mp tvA_3 x hx
    | 4, hx => exact List.all_eq_true.mp tvA_4 x hx
    | 5, hx => exact List.all_eq_true.mp tvA_5 x hx
    | 6, hx => exact List.all_eq_true.mp tvA_6 x hx
    | 7, hx => exact List.all_eq_true.mp tvA_7 x hx
    | 8, hx => exact List.all_eq_true.mp tvA_8 x hx
    | 9, hx => exact List.all_eq_true.mp tvA_9 x hx
    | 10, hx => exact List.all_eq_true.mp tvA_10 x hx
    | 11, hx => exact List.all_eq_true.mp tvA_11 x hx
    | 12, hx => exact List.all_eq_true.mp tvA_12 x hx
    | 13, hx => exact List.all_eq_true.mp tvA_13 x hx
    | c + 14, hx => exact absurd hx (List.not_mem_nil)
set_option maxRecDepth 100000 in
theorem tvO_0 : tO_0.all (fun x => tx_chkO lw_tbl tq_SS 12 "ContentRules$Difference" x) = true := by decide +kernel
set_option maxRecDepth 100000 in
theorem tvO_1 : tO_1.all (fun x => tx_chkO lw_tbl tq_SS 12 "ContentRules$Document" x) = true := by decide +kernel
set_option maxRecDepth 100000 in
theorem tvO_2 : tO_2.all (fun x => tx_chkO lw_tbl tq_SS 12 "ContentRules$Learner" x) = true := by decide +kernel
set_option maxRecDepth 100000 in
theorem tvO_3 : tO_3.all (fun x => tx_chkO lw_tbl tq_SS 12 "ContentRules$Node" x) = true := by decide +kernel
set_option maxRecDepth 100000 in
theorem tvO_4 : tO_4.all (fun x => tx_chkO lw_tbl tq_SS 12 "ContentRules$Reading" x) = true := by decide +kernel
set_option maxRecDepth 100000 in
theorem tvO_5 : tO_5.all (fun x => tx_chkO lw_tbl tq_SS 12 "ContentRules$Rule" x) = true := by decide +kernel
set_option maxRecDepth 100000 in
theorem tvO_6 : tO_6.all (fun x => tx_chkO lw_tbl tq_SS 12 "ContentRules$RuleSet" x) = true := by decide +kernel
set_option maxRecDepth 100000 in
theorem tvO_7 : tO_7.all (fun x => tx_chkO lw_tbl tq_SS 12 "ContentRules$Speller" x) = true := by decide +kernel
set_option maxRecDepth 100000 in
theorem tvO_8 : tO_8.all (fun x => tx_chkO lw_tbl tq_SS 12 "ContentRules$Walk" x) = true := by decide +kernel
set_option maxRecDepth 100000 in
theorem tvO_9 : tO_9.all (fun x => tx_chkO lw_tbl tq_SS 12 "ContentRules$Ways" x) = true := by decide +kernel
set_option maxRecDepth 100000 in
theorem tvO_10 : tO_10.all (fun x => tx_chkO lw_tbl tq_SS 12 "ContentRules$Witness" x) = true := by decide +kernel
set_option maxRecDepth 100000 in
theorem tvO_11 : tO_11.all (fun x => tx_chkO lw_tbl tq_SS 12 "ContentRules" x) = true := by decide +kernel
set_option maxRecDepth 100000 in
theorem tvO_12 : tO_12.all (fun x => tx_chkO lw_tbl tq_SS 12 "ContentRulesModel" x) = true := by decide +kernel
set_option maxRecDepth 100000 in
theorem tvO_13 : tO_13.all (fun x => tx_chkO lw_tbl tq_SS 12 "ContentRulesLaw" x) = true := by decide +kernel
theorem tw_O (c : Nat) (x : _) (hx : x ∈ tq_O c) : tx_chkO lw_tbl tq_SS 12 (tq_cn c) x = true := by
    match c, hx with
    | 0, hx => exact List.all_eq_true.mp tvO_0 x hx
    | 1, hx => exact List.all_eq_true.mp tvO_1 x hx
    | 2, hx => exact List.all_eq_true.mp tvO_2 x hx
    | 3, hx => exact List.all_eq_true.mp tvO_3 x hx
    | 4, hx => exact List.all_eq_true.mp tvO_4 x hx
    | 5, hx => exact List.all_eq_true.mp tvO_5 x hx
    | 6, hx => exact List.all_eq_true.mp tvO_6 x hx
    | 7, hx => exact List.all_eq_true.mp tvO_7 x hx
    | 8, hx => exact List.all_eq_true.mp tvO_8 x hx
    | 9, hx => exact List.all_eq_true.mp tvO_9 x hx
    | 10, hx => exact List.all_eq_true.mp tvO_10 x hx
    | 11, hx => exact List.all_eq_true.mp tvO_11 x hx
    | 12, hx => exact List.all_eq_true.mp tvO_12 x hx
    | 13, hx => exact List.all_eq_true.mp tvO_13 x hx
    | c + 14, hx => exact absurd hx (List.not_mem_nil)
set_option maxRecDepth 100000 in
theorem tvC_0 : tx_chkC tq_R lw_tbl 0 ("ContentRules$Difference", tf_0) tp_0 ty_0 = true := by decide +kernel
set_option maxRecDepth 100000 in
theorem tvC_1 : tx_chkC tq_R lw_tbl 1 ("ContentRules$Document", tf_1) tp_1 ty_1 = true := by decide +kernel
set_option maxRecDepth 100000 in
theorem tvC_2 : tx_chkC tq_R lw_tbl 2 ("ContentRules$Learner", tf_2) tp_2 ty_2 = true := by decide +kernel
set_option maxRecDepth 100000 in
theorem tvC_3 : tx_chkC tq_R lw_tbl 3 ("ContentRules$Node", tf_3) tp_3 ty_3 = true := by decide +kernel
set_option maxRecDepth 100000 in
theorem tvC_4 : tx_chkC tq_R lw_tbl 4 ("ContentRules$Reading", tf_4) tp_4 ty_4 = true := by decide +kernel
set_option maxRecDepth 100000 in
theorem tvC_5 : tx_chkC tq_R lw_tbl 5 ("ContentRules$Rule", tf_5) tp_5 ty_5 = true := by decide +kernel
set_option maxRecDepth 100000 in
theorem tvC_6 : tx_chkC tq_R lw_tbl 6 ("ContentRules$RuleSet", tf_6) tp_6 ty_6 = true := by decide +kernel
set_option maxRecDepth 100000 in
theorem tvC_7 : tx_chkC tq_R lw_tbl 7 ("ContentRules$Speller", tf_7) tp_7 ty_7 = true := by decide +kernel
set_option maxRecDepth 100000 in
theorem tvC_8 : tx_chkC tq_R lw_tbl 8 ("ContentRules$Walk", tf_8) tp_8 ty_8 = true := by decide +kernel
set_option maxRecDepth 100000 in
theorem tvC_9 : tx_chkC tq_R lw_tbl 9 ("ContentRules$Ways", tf_9) tp_9 ty_9 = true := by decide +kernel
set_option maxRecDepth 100000 in
theorem tvC_10 : tx_chkC tq_R lw_tbl 10 ("ContentRules$Witness", tf_10) tp_10 ty_10 = true := by decide +kernel
set_option maxRecDepth 100000 in
theorem tvC_11 : tx_chkC tq_R lw_tbl 11 ("ContentRules", tf_11) tp_11 ty_11 = true := by decide +kernel
set_option maxRecDepth 100000 in
theorem tvC_12 : tx_chkC tq_R lw_tbl 12 ("ContentRulesModel", tf_12) tp_12 ty_12 = true := by decide +kernel
theorem tw_C (t : Nat) (q : _) (h : (rt_cl tq_R)[t]? = some q) : ∃ pls tys, tx_chkC tq_R lw_tbl t q pls tys = true := by
  match t, h with
  | 0, h => cases h; exact ⟨_, _, tvC_0⟩
  | 1, h => cases h; exact ⟨_, _, tvC_1⟩
  | 2, h => cases h; exact ⟨_, _, tvC_2⟩
  | 3, h => cases h; exact ⟨_, _, tvC_3⟩
  | 4, h => cases h; exact ⟨_, _, tvC_4⟩
  | 5, h => cases h; exact ⟨_, _, tvC_5⟩
  | 6, h => cases h; exact ⟨_, _, tvC_6⟩
  | 7, h => cases h; exact ⟨_, _, tvC_7⟩
  | 8, h => cases h; exact ⟨_, _, tvC_8⟩
  | 9, h => cases h; exact ⟨_, _, tvC_9⟩
  | 10, h => cases h; exact ⟨_, _, tvC_10⟩
  | 11, h => cases h; exact ⟨_, _, tvC_11⟩
  | 12, h => cases h; exact ⟨_, _, tvC_12⟩
  | t + 13, h => cases h
theorem tw_cn (t : Nat) (q : _) (h : (rt_cl tq_R)[t]? = some q) : rt_cn tq_R t = q.1 := by
  match t, h with
  | 0, h => cases h; rfl
  | 1, h => cases h; rfl
  | 2, h => cases h; rfl
  | 3, h => cases h; rfl
  | 4, h => cases h; rfl
  | 5, h => cases h; rfl
  | 6, h => cases h; rfl
  | 7, h => cases h; rfl
  | 8, h => cases h; rfl
  | 9, h => cases h; rfl
  | 10, h => cases h; rfl
  | 11, h => cases h; rfl
  | 12, h => cases h; rfl
  | t + 13, h => cases h
theorem twA_i : Cond.arrayClass .int ∈ lw_tbl.filter goodWord := tx_wOk (i := 342) (by decide +kernel)
theorem twA_b : Cond.arrayClass .byte ∈ lw_tbl.filter goodWord := tx_wOk (i := 1590) (by decide +kernel)
theorem twA_l : Cond.arrayClass .long ∈ lw_tbl.filter goodWord := tx_wOk (i := 2428) (by decide +kernel)
theorem zq_ok {G : zG} (hG : zg_cl G = tx_cl tq_R) (hGk : zg_fk G = tq_fk) (hGe : zg_elt G = tx_elt) (hS : zg_nS G = 12) : z_ok zq_T zq_P G := tx_ok tw_cn hG hGk hGe tq_Mok tw_F tw_K tw_N tw_A (by rw [hS]; exact tw_O) tw_C twA_i twA_b twA_l ⟨_, rfl⟩ ⟨_, rfl⟩
