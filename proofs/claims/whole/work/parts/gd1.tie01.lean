set_option maxRecDepth 100000 in
theorem tie_mo_init (d : Nat) (a0 : Nat) (M : zM) (so : zM) (hs : mo_init d a0 M = some so) : Ev zq_T d 0 0 (zl_args 0 [.inr (.inr (12, some a0))]) [] M (none, so) := by
  unfold mo_init at hs
  have g0 : zl_get (zl_args 0 [.inr (.inr (12, some a0))]) 0 = some (.inr (.inr (12, (some a0)))) := rfl
  refine e_aldn cd_0_0 g0 ?_
  refine e_obj cd_0_1 kd_0_3 rfl rfl ?_
  refine e_aldn cd_0_4 g0 ?_
  refine e_sip cd_0_5 cs_400 ?_
  refine k_let hs (fun M2 e3 hs => ?_)
  refine e_newa_byte cd_0_8 rfl (by decide) e3 ?_
  refine k_let hs (fun M4 e5 hs => ?_)
  refine e_putR cd_0_10 pd_0_9 rfl e5 ?_
  refine e_aldn cd_0_13 g0 ?_
  refine e_sip cd_0_14 cs_7200 ?_
  refine k_let hs (fun M7 e8 hs => ?_)
  refine e_newa_int cd_0_17 rfl (by decide) e8 ?_
  refine k_let hs (fun M9 e10 hs => ?_)
  refine e_putR cd_0_19 pd_0_13 rfl e10 ?_
  refine e_aldn cd_0_22 g0 ?_
  refine e_sip cd_0_23 cs_7200 ?_
  refine k_let hs (fun M12 e13 hs => ?_)
  refine e_newa_int cd_0_26 rfl (by decide) e13 ?_
  refine k_let hs (fun M14 e15 hs => ?_)
  refine e_putR cd_0_28 pd_0_17 rfl e15 ?_
  refine e_aldn cd_0_31 g0 ?_
  refine e_bip cd_0_32 cb_40 ?_
  refine k_let hs (fun M17 e18 hs => ?_)
  refine e_newa_int cd_0_34 rfl (by decide) e18 ?_
  refine k_let hs (fun M19 e20 hs => ?_)
  refine e_putR cd_0_36 pd_0_20 rfl e20 ?_
  refine e_aldn cd_0_39 g0 ?_
  refine e_bip cd_0_40 cb_40 ?_
  refine k_let hs (fun M22 e23 hs => ?_)
  refine e_newa_int cd_0_42 rfl (by decide) e23 ?_
  refine k_let hs (fun M24 e25 hs => ?_)
  refine e_putR cd_0_44 pd_0_23 rfl e25 ?_
  refine e_aldn cd_0_47 g0 ?_
  refine e_sip cd_0_48 cs_192 ?_
  refine k_let hs (fun M27 e28 hs => ?_)
  refine e_newa_int cd_0_51 rfl (by decide) e28 ?_
  refine k_let hs (fun M29 e30 hs => ?_)
  refine e_putR cd_0_53 pd_0_26 rfl e30 ?_
  refine e_aldn cd_0_56 g0 ?_
  refine e_sip cd_0_57 cs_192 ?_
  refine k_let hs (fun M32 e33 hs => ?_)
  refine e_newa_int cd_0_60 rfl (by decide) e33 ?_
  refine k_let hs (fun M34 e35 hs => ?_)
  refine e_putR cd_0_62 pd_0_29 rfl e35 ?_
  refine e_aldn cd_0_65 g0 ?_
  refine e_sip cd_0_66 cs_256 ?_
  refine k_let hs (fun M37 e38 hs => ?_)
  refine e_newa_int cd_0_69 rfl (by decide) e38 ?_
  refine k_let hs (fun M39 e40 hs => ?_)
  refine e_putR cd_0_71 pd_0_32 rfl e40 ?_
  refine e_aldn cd_0_74 g0 ?_
  refine e_sip cd_0_75 cs_256 ?_
  refine k_let hs (fun M42 e43 hs => ?_)
  refine e_newa_int cd_0_78 rfl (by decide) e43 ?_
  refine k_let hs (fun M44 e45 hs => ?_)
  refine e_putR cd_0_80 pd_0_35 rfl e45 ?_
  refine e_aldn cd_0_83 g0 ?_
  refine e_bip cd_0_84 cb_32 ?_
  refine k_let hs (fun M47 e48 hs => ?_)
  refine e_newa_int cd_0_86 rfl (by decide) e48 ?_
  refine k_let hs (fun M49 e50 hs => ?_)
  refine e_putR cd_0_88 pd_0_38 rfl e50 ?_
  refine e_aldn cd_0_91 g0 ?_
  refine e_bip cd_0_92 cb_32 ?_
  refine k_let hs (fun M52 e53 hs => ?_)
  refine e_newa_int cd_0_94 rfl (by decide) e53 ?_
  refine k_let hs (fun M54 e55 hs => ?_)
  refine e_putR cd_0_96 pd_0_41 rfl e55 ?_
  refine e_aldn cd_0_99 g0 ?_
  refine e_sip cd_0_100 cs_240 ?_
  refine k_let hs (fun M57 e58 hs => ?_)
  refine e_newa_int cd_0_103 rfl (by decide) e58 ?_
  refine k_let hs (fun M59 e60 hs => ?_)
  refine e_putR cd_0_105 pd_0_44 rfl e60 ?_
  refine e_aldn cd_0_108 g0 ?_
  refine e_sip cd_0_109 cs_240 ?_
  refine k_let hs (fun M62 e63 hs => ?_)
  refine e_newa_int cd_0_112 rfl (by decide) e63 ?_
  refine k_let hs (fun M64 e65 hs => ?_)
  refine e_putR cd_0_114 pd_0_47 rfl e65 ?_
  refine e_aldn cd_0_117 g0 ?_
  refine e_sip cd_0_118 cs_128 ?_
  refine k_let hs (fun M67 e68 hs => ?_)
  refine e_newa_int cd_0_121 rfl (by decide) e68 ?_
  refine k_let hs (fun M69 e70 hs => ?_)
  refine e_putR cd_0_123 pd_0_50 rfl e70 ?_
  refine e_aldn cd_0_126 g0 ?_
  refine e_sip cd_0_127 cs_128 ?_
  refine k_let hs (fun M72 e73 hs => ?_)
  refine e_newa_int cd_0_130 rfl (by decide) e73 ?_
  refine k_let hs (fun M74 e75 hs => ?_)
  refine e_putR cd_0_132 pd_0_53 rfl e75 ?_
  refine e_aldn cd_0_135 g0 ?_
  refine e_sip cd_0_136 cs_128 ?_
  refine k_let hs (fun M77 e78 hs => ?_)
  refine e_newa_int cd_0_139 rfl (by decide) e78 ?_
  refine k_let hs (fun M79 e80 hs => ?_)
  refine e_putR cd_0_141 pd_0_56 rfl e80 ?_
  refine e_aldn cd_0_144 g0 ?_
  refine e_sip cd_0_145 cs_128 ?_
  refine k_let hs (fun M82 e83 hs => ?_)
  refine e_newa_int cd_0_148 rfl (by decide) e83 ?_
  refine k_let hs (fun M84 e85 hs => ?_)
  refine e_putR cd_0_150 pd_0_59 rfl e85 ?_
  refine e_aldn cd_0_153 g0 ?_
  refine e_sip cd_0_154 cs_12000 ?_
  refine k_let hs (fun M87 e88 hs => ?_)
  refine e_newa_byte cd_0_157 rfl (by decide) e88 ?_
  refine k_let hs (fun M89 e90 hs => ?_)
  refine e_putR cd_0_159 pd_0_62 rfl e90 ?_
  refine e_aldn cd_0_162 g0 ?_
  refine e_sip cd_0_163 cs_320 ?_
  refine k_let hs (fun M92 e93 hs => ?_)
  refine e_newa_int cd_0_166 rfl (by decide) e93 ?_
  refine k_let hs (fun M94 e95 hs => ?_)
  refine e_putR cd_0_168 pd_0_65 rfl e95 ?_
  refine e_aldn cd_0_171 g0 ?_
  refine e_sip cd_0_172 cs_320 ?_
  refine k_let hs (fun M97 e98 hs => ?_)
  refine e_newa_int cd_0_175 rfl (by decide) e98 ?_
  refine k_let hs (fun M99 e100 hs => ?_)
  refine e_putR cd_0_177 pd_0_68 rfl e100 ?_
  refine e_aldn cd_0_180 g0 ?_
  refine e_const cd_0_181 ci_m1 ?_
  refine k_let hs (fun M101 e102 hs => ?_)
  refine e_putI cd_0_182 pd_0_71 rfl e102 ?_
  refine e_aldn cd_0_185 g0 ?_
  refine e_bip cd_0_186 cb_7 ?_
  refine k_let hs (fun M104 e105 hs => ?_)
  refine e_newa_int cd_0_188 rfl (by decide) e105 ?_
  refine k_let hs (fun M106 e107 hs => ?_)
  refine e_putR cd_0_190 pd_0_75 rfl e107 ?_
  refine e_aldn cd_0_193 g0 ?_
  refine e_sip cd_0_194 cs_12000 ?_
  refine k_let hs (fun M109 e110 hs => ?_)
  refine e_newa_byte cd_0_197 rfl (by decide) e110 ?_
  refine k_let hs (fun M111 e112 hs => ?_)
  refine e_putR cd_0_199 pd_0_78 rfl e112 ?_
  refine e_aldn cd_0_202 g0 ?_
  refine e_sip cd_0_203 cs_208 ?_
  refine k_let hs (fun M114 e115 hs => ?_)
  refine e_newa_int cd_0_206 rfl (by decide) e115 ?_
  refine k_let hs (fun M116 e117 hs => ?_)
  refine e_putR cd_0_208 pd_0_81 rfl e117 ?_
  refine e_aldn cd_0_211 g0 ?_
  refine e_bip cd_0_212 cb_26 ?_
  refine k_let hs (fun M119 e120 hs => ?_)
  refine e_newa_int cd_0_214 rfl (by decide) e120 ?_
  refine k_let hs (fun M121 e122 hs => ?_)
  refine e_putR cd_0_216 pd_0_84 rfl e122 ?_
  refine e_aldn cd_0_219 g0 ?_
  refine e_bip cd_0_220 cb_26 ?_
  refine k_let hs (fun M124 e125 hs => ?_)
  refine e_newa_int cd_0_222 rfl (by decide) e125 ?_
  refine k_let hs (fun M126 e127 hs => ?_)
  refine e_putR cd_0_224 pd_0_87 rfl e127 ?_
  refine e_aldn cd_0_227 g0 ?_
  refine e_bip cd_0_228 cb_26 ?_
  refine k_let hs (fun M129 e130 hs => ?_)
  refine e_newa_int cd_0_230 rfl (by decide) e130 ?_
  refine k_let hs (fun M131 e132 hs => ?_)
  refine e_putR cd_0_232 pd_0_90 rfl e132 ?_
  refine e_aldn cd_0_235 g0 ?_
  refine e_bip cd_0_236 cb_24 ?_
  refine k_let hs (fun M134 e135 hs => ?_)
  refine e_newa_int cd_0_238 rfl (by decide) e135 ?_
  refine k_let hs (fun M136 e137 hs => ?_)
  refine e_putR cd_0_240 pd_0_93 rfl e137 ?_
  refine e_aldn cd_0_243 g0 ?_
  refine e_bip cd_0_244 cb_24 ?_
  refine k_let hs (fun M139 e140 hs => ?_)
  refine e_newa_int cd_0_246 rfl (by decide) e140 ?_
  refine k_let hs (fun M141 e142 hs => ?_)
  refine e_putR cd_0_248 pd_0_96 rfl e142 ?_
  refine e_aldn cd_0_251 g0 ?_
  refine e_bip cd_0_252 cb_24 ?_
  refine k_let hs (fun M144 e145 hs => ?_)
  refine e_newa_int cd_0_254 rfl (by decide) e145 ?_
  refine k_let hs (fun M146 e147 hs => ?_)
  refine e_putR cd_0_256 pd_0_99 rfl e147 ?_
  refine e_aldn cd_0_259 g0 ?_
  refine e_bip cd_0_260 cb_13 ?_
  refine k_let hs (fun M149 e150 hs => ?_)
  refine e_newa_int cd_0_262 rfl (by decide) e150 ?_
  refine k_let hs (fun M151 e152 hs => ?_)
  refine e_putR cd_0_264 pd_0_102 rfl e152 ?_
  refine e_aldn cd_0_267 g0 ?_
  refine e_bip cd_0_268 cb_26 ?_
  refine k_let hs (fun M154 e155 hs => ?_)
  refine e_newa_int cd_0_270 rfl (by decide) e155 ?_
  refine k_let hs (fun M156 e157 hs => ?_)
  refine e_putR cd_0_272 pd_0_105 rfl e157 ?_
  refine e_aldn cd_0_275 g0 ?_
  refine e_const cd_0_276 ci_4 ?_
  refine k_let hs (fun M159 e160 hs => ?_)
  refine e_newa_int cd_0_277 rfl (by decide) e160 ?_
  refine k_let hs (fun M161 e162 hs => ?_)
  refine e_putR cd_0_279 pd_0_108 rfl e162 ?_
  refine e_aldn cd_0_282 g0 ?_
  refine e_sip cd_0_283 cs_300 ?_
  refine k_let hs (fun M164 e165 hs => ?_)
  refine e_newa_int cd_0_286 rfl (by decide) e165 ?_
  refine k_let hs (fun M166 e167 hs => ?_)
  refine e_putR cd_0_288 pd_0_111 rfl e167 ?_
  have e := Option.some.inj hs
  subst e
  exact e_rv cd_0_291 nr_0
theorem tie_mo_thrown (d : Nat) (a0 : Nat) (M : zM) (so : Int32 × zM) (hs : mo_thrown d a0 M = some so) : Ev zq_T d 1 0 (zl_args 0 [.inr (.inr (12, some a0))]) [] M (some (.inl so.1), so.2) := by
  unfold mo_thrown at hs
  have g0 : zl_get (zl_args 0 [.inr (.inr (12, some a0))]) 0 = some (.inr (.inr (12, (some a0)))) := rfl
  refine e_aldn cd_1_0 g0 ?_
  refine e_getI cd_1_1 (Or.inl fd_1_114) rfl ?_
  have e := Option.some.inj hs
  subst e
  exact e_ri cd_1_4 nr_1
theorem tie_mo_isIn_18  (d : Nat)  (s0 : Int32) (M : zM) (so : Int32 × zM) (ls : List (Nat × zV))  (hs : mo_isIn_18  d s0 M = some so) : Ev zq_T d 2 18 ls [.inl s0] M (some (.inl so.1), so.2) := by
  unfold mo_isIn_18 at hs
  obtain ⟨c1, hs⟩ := z_ite hs
  have e := Option.some.inj hs
  subst e
  exact e_rz cd_2_18 nr_2 c1
theorem tie_mo_isIn_17  (d : Nat)   (M : zM) (so : Int32 × zM) (ls : List (Nat × zV))  (hs : mo_isIn_17  d  M = some so) : Ev zq_T d 2 17 ls [] M (some (.inl so.1), so.2) := by
  unfold mo_isIn_17 at hs
  refine e_const cd_2_17 ci_0 ?_
  exact tie_mo_isIn_18  d  0 M so _  hs
theorem tie_mo_isIn (d : Nat) (a0 : Int64) (a1 : Int64) (a2 : Int64) (M : zM) (so : Int32 × zM) (hs : mo_isIn d a0 a1 a2 M = some so) : Ev zq_T d 2 0 (zl_args 0 [.inr (.inl a0), .inr (.inl a1), .inr (.inl a2)]) [] M (some (.inl so.1), so.2) := by
  unfold mo_isIn at hs
  have g0 : zl_get (zl_args 0 [.inr (.inl a0), .inr (.inl a1), .inr (.inl a2)]) 0 = some (.inr (.inl a0)) := rfl
  have g2 : zl_get (zl_args 0 [.inr (.inl a0), .inr (.inl a1), .inr (.inl a2)]) 2 = some (.inr (.inl a1)) := rfl
  have g4 : zl_get (zl_args 0 [.inr (.inl a0), .inr (.inl a1), .inr (.inl a2)]) 4 = some (.inr (.inl a2)) := rfl
  refine e_lldn cd_2_0 g0 ?_
  refine e_lldn cd_2_1 g2 ?_
  refine e_pure cd_2_2 rfl ?_
  refine k_if hs (fun c1 hs => ?_) (fun c1 hs => ?_)
  · refine e_izJ cd_2_3 rfl c1 ?_
    exact tie_mo_isIn_17  d   M so _  hs
  · refine e_izN cd_2_3 rfl c1 ?_
    refine e_lldn cd_2_6 g0 ?_
    refine e_lld cd_2_7 g4 ?_
    refine e_pure cd_2_9 rfl ?_
    refine k_if hs (fun c2 hs => ?_) (fun c2 hs => ?_)
    · refine e_izJ cd_2_10 rfl c2 ?_
      exact tie_mo_isIn_17  d   M so _  hs
    · refine e_izN cd_2_10 rfl c2 ?_
      refine e_const cd_2_13 ci_1 ?_
      refine e_goto cd_2_14 rfl ?_
      exact tie_mo_isIn_18  d  1 M so _  hs
theorem tie_mo_has_14  (d : Nat)  (s0 : Int32) (M : zM) (so : Int32 × zM) (ls : List (Nat × zV))  (hs : mo_has_14  d s0 M = some so) : Ev zq_T d 3 14 ls [.inl s0] M (some (.inl so.1), so.2) := by
  unfold mo_has_14 at hs
  obtain ⟨c1, hs⟩ := z_ite hs
  have e := Option.some.inj hs
  subst e
  exact e_rz cd_3_14 nr_3 c1
theorem tie_mo_has (d : Nat) (a0 : Int32) (a1 : Int32) (M : zM) (so : Int32 × zM) (hs : mo_has d a0 a1 M = some so) : Ev zq_T d 3 0 (zl_args 0 [.inl a0, .inl a1]) [] M (some (.inl so.1), so.2) := by
  unfold mo_has at hs
  have g0 : zl_get (zl_args 0 [.inl a0, .inl a1]) 0 = some (.inl a0) := rfl
  have g1 : zl_get (zl_args 0 [.inl a0, .inl a1]) 1 = some (.inl a1) := rfl
  refine e_ildn cd_3_0 g0 ?_
  refine e_ildn cd_3_1 g1 ?_
  refine e_pure cd_3_2 rfl ?_
  refine e_const cd_3_3 ci_1 ?_
  refine e_pure cd_3_4 rfl ?_
  refine e_const cd_3_5 ci_1 ?_
  refine k_if hs (fun c1 hs => ?_) (fun c1 hs => ?_)
  · refine e_icN cd_3_6 rfl (fun q => q c1) ?_
    refine e_const cd_3_9 ci_1 ?_
    refine e_goto cd_3_10 rfl ?_
    exact tie_mo_has_14  d  1 M so _  hs
  · refine e_icJ cd_3_6 rfl c1 ?_
    refine e_const cd_3_13 ci_0 ?_
    exact tie_mo_has_14  d  0 M so _  hs
theorem tie_mo_bytesOf_28 (kl4 : Int32 → Int32 → Int32 → zM → Option (Int32 × zM)) (d : Nat) (hk4 : ∀ (v0 : Int32) (v1 : Int32) (v2 : Int32) (M : zM) (so : Int32 × zM) (ls : List (Nat × zV)), zl_get ls 0 = some (.inl v0) → zl_get ls 1 = some (.inl v1) → zl_get ls 2 = some (.inl v2) → kl4 v0 v1 v2 M = some so → Ev zq_T d 4 4 ls [] M (some (.inl so.1), so.2)) (v0 : Int32) (v2 : Int32) (s0 : Int32) (s1 : Int32) (M : zM) (so : Int32 × zM) (ls : List (Nat × zV)) (g0 : zl_get ls 0 = some (.inl v0)) (g2 : zl_get ls 2 = some (.inl v2)) (hs : mo_bytesOf_28 kl4 d v0 v2 s0 s1 M = some so) : Ev zq_T d 4 28 ls [.inl s1, .inl s0] M (some (.inl so.1), so.2) := by
  unfold mo_bytesOf_28 at hs
  refine e_pure cd_4_28 rfl ?_
  refine k_let hs (fun x1 e2 hs => ?_)
  refine e_iKn cd_4_29 nl_4 rfl e2 ?_
  intro _ gn kp
  have u3 := kp 0 _ g0 rfl rfl
  have u4 := kp 2 _ g2 rfl rfl
  have u5 := gn
  refine k_let hs (fun x6 e7 hs => ?_)
  refine e_incK cd_4_30 nl_4 rfl u4 ci_1 e7 ?_
  intro _ gn kp
  have u8 := kp 0 _ u3 rfl rfl
  have u9 := kp 1 _ u5 rfl rfl
  have u10 := gn
  refine e_goto cd_4_33 rfl ?_
  exact hk4 v0 x1 x6 M so _ u8 u9 u10 hs
theorem tie_mo_bytesOf_4  (d : Nat)  : ∀ (fuel : Nat) (v0 : Int32) (v1 : Int32) (v2 : Int32) (M : zM) (so : Int32 × zM) (ls : List (Nat × zV)), zl_get ls 0 = some (.inl v0) → zl_get ls 1 = some (.inl v1) → zl_get ls 2 = some (.inl v2) → mo_bytesOf_4  d fuel v0 v1 v2 M = some so → Ev zq_T d 4 4 ls [] M (some (.inl so.1), so.2) := by
  intro fuel
  induction fuel with
  | zero => intro v0 v1 v2 M so ls g0 g1 g2 hs; exact nomatch hs
  | succ fuel ih =>
    intro v0 v1 v2 M so ls g0 g1 g2 hs
    unfold mo_bytesOf_4 at hs
    refine e_ildn cd_4_4 g2 ?_
    refine e_const cd_4_5 ci_4 ?_
    refine k_if hs (fun c1 hs => ?_) (fun c1 hs => ?_)
    · refine e_icJ cd_4_6 rfl c1 ?_
      refine e_ildn cd_4_36 g1 ?_
      have e := Option.some.inj hs
      subst e
      exact e_ri cd_4_37 nr_4
    · refine e_icN cd_4_6 rfl c1 ?_
      refine e_ildn cd_4_9 g1 ?_
      refine e_ildn cd_4_10 g0 ?_
      refine e_bip cd_4_11 cbb_8 ?_
      refine e_ildn cd_4_13 g2 ?_
      refine e_pure cd_4_14 rfl ?_
      refine e_pure cd_4_15 rfl ?_
      refine e_sip cd_4_16 cs_255 ?_
      refine e_pure cd_4_19 rfl ?_
      refine k_if hs (fun c2 hs => ?_) (fun c2 hs => ?_)
      · refine e_izN cd_4_20 rfl (fun q => q c2) ?_
        refine e_const cd_4_23 ci_0 ?_
        refine e_goto cd_4_24 rfl ?_
        exact tie_mo_bytesOf_28 (fun p0 p1 p2 m => mo_bytesOf_4  d fuel p0 p1 p2 m) d ih v0 v2 v1 0 M so _ g0 g2 hs
      · refine e_izJ cd_4_20 rfl c2 ?_
        refine e_const cd_4_27 ci_1 ?_
        exact tie_mo_bytesOf_28 (fun p0 p1 p2 m => mo_bytesOf_4  d fuel p0 p1 p2 m) d ih v0 v2 v1 1 M so _ g0 g2 hs
theorem tie_mo_bytesOf (d : Nat) (a0 : Int32) (M : zM) (so : Int32 × zM) (hs : mo_bytesOf d a0 M = some so) : Ev zq_T d 4 0 (zl_args 0 [.inl a0]) [] M (some (.inl so.1), so.2) := by
  unfold mo_bytesOf at hs
  have g0 : zl_get (zl_args 0 [.inl a0]) 0 = some (.inl a0) := rfl
  refine e_const cd_4_0 ci_0 ?_
  refine e_iKn cd_4_1 nl_4 rfl rfl ?_
  intro _ gn kp
  have u1 := kp 0 _ g0 rfl rfl
  have u2 := gn
  refine e_const cd_4_2 ci_0 ?_
  refine e_iKn cd_4_3 nl_4 rfl rfl ?_
  intro _ gn kp
  have u3 := kp 0 _ u1 rfl rfl
  have u4 := kp 1 _ u2 rfl rfl
  have u5 := gn
  exact tie_mo_bytesOf_4  d  zLF a0 0 0 M so _ u3 u4 u5 hs
theorem tie_mo_brings_43 (kl3 : Nat → Int32 → Int32 → zM → Option (zM)) (d : Nat) (hk3 : ∀ (t0 : Nat) (v1 : Int32) (v2 : Int32) (M : zM) (so : zM) (ls : List (Nat × zV)), zl_get ls 0 = some (.inr (.inr (12, (some t0)))) → zl_get ls 1 = some (.inl v1) → zl_get ls 2 = some (.inl v2) → kl3 t0 v1 v2 M = some so → Ev zq_T d 5 3 ls [] M (none, so)) (t0 : Nat) (v1 : Int32) (v2 : Int32) (M : zM) (so : zM) (ls : List (Nat × zV)) (g0 : zl_get ls 0 = some (.inr (.inr (12, (some t0))))) (g1 : zl_get ls 1 = some (.inl v1)) (g2 : zl_get ls 2 = some (.inl v2)) (hs : mo_brings_43 kl3 d t0 v1 v2 M = some so) : Ev zq_T d 5 43 ls [] M (none, so) := by
  unfold mo_brings_43 at hs
  refine k_let hs (fun x1 e2 hs => ?_)
  refine e_incK cd_5_43 nl_5 rfl g2 ci_m8 e2 ?_
  intro _ gn kp
  have u3 := kp 0 _ g0 rfl rfl
  have u4 := kp 1 _ g1 rfl rfl
  have u5 := gn
  refine e_goto cd_5_46 rfl ?_
  exact hk3 t0 v1 x1 M so _ u3 u4 u5 hs
theorem tie_mo_brings_3  (d : Nat)  : ∀ (fuel : Nat) (t0 : Nat) (v1 : Int32) (v2 : Int32) (M : zM) (so : zM) (ls : List (Nat × zV)), zl_get ls 0 = some (.inr (.inr (12, (some t0)))) → zl_get ls 1 = some (.inl v1) → zl_get ls 2 = some (.inl v2) → mo_brings_3  d fuel t0 v1 v2 M = some so → Ev zq_T d 5 3 ls [] M (none, so) := by
  intro fuel
  induction fuel with
  | zero => intro t0 v1 v2 M so ls g0 g1 g2 hs; exact nomatch hs
  | succ fuel ih =>
    intro t0 v1 v2 M so ls g0 g1 g2 hs
    unfold mo_brings_3 at hs
    refine e_ildn cd_5_3 g2 ?_
    refine k_if hs (fun c1 hs => ?_) (fun c1 hs => ?_)
    · refine e_izJ cd_5_4 rfl c1 ?_
      have e := Option.some.inj hs
      subst e
      exact e_rv cd_5_49 nr_5
    · refine e_izN cd_5_4 rfl c1 ?_
      refine e_ildn cd_5_7 g1 ?_
      refine e_ildn cd_5_8 g2 ?_
      refine e_pure cd_5_9 rfl ?_
      refine e_sip cd_5_10 cs_255 ?_
      refine e_pure cd_5_13 rfl ?_
      refine k_let hs (fun x2 e3 hs => ?_)
      refine e_iKn cd_5_14 nl_5 rfl e3 ?_
      intro _ gn kp
      have u4 := kp 0 _ g0 rfl rfl
      have u5 := kp 1 _ g1 rfl rfl
      have u6 := kp 2 _ g2 rfl rfl
      have u7 := gn
      refine e_ildn cd_5_15 u7 ?_
      refine k_if hs (fun c8 hs => ?_) (fun c8 hs => ?_)
      · refine e_izN cd_5_16 rfl (fun q => q c8) ?_
        refine e_goto cd_5_19 rfl ?_
        exact tie_mo_brings_43 (fun p0 p1 p2 m => mo_brings_3  d fuel p0 p1 p2 m) d ih t0 v1 v2 M so _ u4 u5 u6 hs
      · refine e_izJ cd_5_16 rfl c8 ?_
        refine e_aldn cd_5_22 u4 ?_
        refine e_getR cd_5_23 fd_5_9 rfl ?_
        refine e_aldn cd_5_26 u4 ?_
        refine e_getI cd_5_27 (Or.inl fd_5_117) rfl ?_
        refine e_ildn cd_5_30 u7 ?_
        refine e_pure cd_5_31 rfl ?_
        refine k_opt hs (fun _ q => nomatch q) (fun k9 h10 hs => ?_)
        obtain ⟨c11, hs⟩ := z_ite hs
        refine k_let hs (fun M12 e13 hs => ?_)
        refine e_bast cd_5_32 rfl h10 c11 e13 ?_
        refine e_aldn cd_5_33 u4 ?_
        refine e_pure cd_5_34 rfl ?_
        refine e_getI cd_5_35 (Or.inl fd_5_117) rfl ?_
        refine e_const cd_5_38 ci_1 ?_
        refine e_pure cd_5_39 rfl ?_
        refine k_let hs (fun M14 e15 hs => ?_)
        refine e_putI cd_5_40 pd_5_117 rfl e15 ?_
        exact tie_mo_brings_43 (fun p0 p1 p2 m => mo_brings_3  d fuel p0 p1 p2 m) d ih t0 v1 v2 M14 so _ u4 u5 u6 hs
theorem tie_mo_brings (d : Nat) (a0 : Nat) (a1 : Int32) (M : zM) (so : zM) (hs : mo_brings d a0 a1 M = some so) : Ev zq_T d 5 0 (zl_args 0 [.inr (.inr (12, some a0)), .inl a1]) [] M (none, so) := by
  unfold mo_brings at hs
  have g0 : zl_get (zl_args 0 [.inr (.inr (12, some a0)), .inl a1]) 0 = some (.inr (.inr (12, (some a0)))) := rfl
  have g1 : zl_get (zl_args 0 [.inr (.inr (12, some a0)), .inl a1]) 1 = some (.inl a1) := rfl
  refine e_bip cd_5_0 cb_24 ?_
  refine e_iKn cd_5_2 nl_5 rfl rfl ?_
  intro _ gn kp
  have u1 := kp 0 _ g0 rfl rfl
  have u2 := kp 1 _ g1 rfl rfl
  have u3 := gn
  exact tie_mo_brings_3  d  zLF a0 a1 24 M so _ u1 u2 u3 hs
theorem tieb_mo_feed  (d : Nat)  (a0 : Nat) (a1 : Int32) (a2 : Int32) (a3 : Int32) (a4 : Int32) (a5 : Int32) (M : zM) (so : Int32 × zM) (hs : mo_feed_b  d a0 a1 a2 a3 a4 a5 M = some so) : Ev zq_T (d + 1) 6 0 (zl_args 0 [.inr (.inr (12, some a0)), .inl a1, .inl a2, .inl a3, .inl a4, .inl a5]) [] M (some (.inl so.1), so.2) := by
  unfold mo_feed_b at hs
  have g0 : zl_get (zl_args 0 [.inr (.inr (12, some a0)), .inl a1, .inl a2, .inl a3, .inl a4, .inl a5]) 0 = some (.inr (.inr (12, (some a0)))) := rfl
  have g1 : zl_get (zl_args 0 [.inr (.inr (12, some a0)), .inl a1, .inl a2, .inl a3, .inl a4, .inl a5]) 1 = some (.inl a1) := rfl
  have g2 : zl_get (zl_args 0 [.inr (.inr (12, some a0)), .inl a1, .inl a2, .inl a3, .inl a4, .inl a5]) 2 = some (.inl a2) := rfl
  have g3 : zl_get (zl_args 0 [.inr (.inr (12, some a0)), .inl a1, .inl a2, .inl a3, .inl a4, .inl a5]) 3 = some (.inl a3) := rfl
  have g4 : zl_get (zl_args 0 [.inr (.inr (12, some a0)), .inl a1, .inl a2, .inl a3, .inl a4, .inl a5]) 4 = some (.inl a4) := rfl
  have g5 : zl_get (zl_args 0 [.inr (.inr (12, some a0)), .inl a1, .inl a2, .inl a3, .inl a4, .inl a5]) 5 = some (.inl a5) := rfl
  refine e_aldn cd_6_0 g0 ?_
  refine e_const cd_6_1 ci_0 ?_
  refine k_let hs (fun M1 e2 hs => ?_)
  refine e_putI cd_6_2 pd_6_114 rfl e2 ?_
  refine e_aldn cd_6_5 g0 ?_
  refine e_getI cd_6_6 (Or.inl fd_6_117) rfl ?_
  refine e_ildn cd_6_9 g1 ?_
  obtain ⟨q3, h4, hs⟩ := k_bind hs
  refine e_cst cd_6_10 kd_6_120 rfl rfl rfl nl_4 rfl rfl (tie_mo_bytesOf d a1 M1 _ h4) ?_
  refine e_pure cd_6_13 rfl ?_
  refine e_ildn cd_6_14 g2 ?_
  obtain ⟨q5, h6, hs⟩ := k_bind hs
  refine e_cst cd_6_15 kd_6_120 rfl rfl rfl nl_4 rfl rfl (tie_mo_bytesOf d a2 q3.2 _ h6) ?_
  refine e_pure cd_6_18 rfl ?_
  refine e_ildn cd_6_19 g3 ?_
  obtain ⟨q7, h8, hs⟩ := k_bind hs
  refine e_cst cd_6_20 kd_6_120 rfl rfl rfl nl_4 rfl rfl (tie_mo_bytesOf d a3 q5.2 _ h8) ?_
  refine e_pure cd_6_23 rfl ?_
  refine e_ild cd_6_24 g4 ?_
  obtain ⟨q9, h10, hs⟩ := k_bind hs
  refine e_cst cd_6_26 kd_6_120 rfl rfl rfl nl_4 rfl rfl (tie_mo_bytesOf d a4 q7.2 _ h10) ?_
  refine e_pure cd_6_29 rfl ?_
  refine e_ild cd_6_30 g5 ?_
  obtain ⟨q11, h12, hs⟩ := k_bind hs
  refine e_cst cd_6_32 kd_6_120 rfl rfl rfl nl_4 rfl rfl (tie_mo_bytesOf d a5 q9.2 _ h12) ?_
  refine e_pure cd_6_35 rfl ?_
  refine e_sip cd_6_36 cs_400 ?_
  refine k_if hs (fun c13 hs => ?_) (fun c13 hs => ?_)
  · refine e_icJ cd_6_39 rfl c13 ?_
    refine e_aldn cd_6_44 g0 ?_
    refine e_ildn cd_6_45 g1 ?_
    obtain ⟨q14, h15, hs⟩ := k_bind hs
    refine e_cvi cd_6_46 kd_6_124 rfl rfl rfl rfl rfl nl_5 rfl rfl (tie_mo_brings d a0 a1 q11.2 _ h15) ?_
    refine e_aldn cd_6_49 g0 ?_
    refine e_ildn cd_6_50 g2 ?_
    obtain ⟨q16, h17, hs⟩ := k_bind hs
    refine e_cvi cd_6_51 kd_6_124 rfl rfl rfl rfl rfl nl_5 rfl rfl (tie_mo_brings d a0 a2 q14 _ h17) ?_
    refine e_aldn cd_6_54 g0 ?_
    refine e_ildn cd_6_55 g3 ?_
    obtain ⟨q18, h19, hs⟩ := k_bind hs
    refine e_cvi cd_6_56 kd_6_124 rfl rfl rfl rfl rfl nl_5 rfl rfl (tie_mo_brings d a0 a3 q16 _ h19) ?_
    refine e_aldn cd_6_59 g0 ?_
    refine e_ild cd_6_60 g4 ?_
    obtain ⟨q20, h21, hs⟩ := k_bind hs
    refine e_cvi cd_6_62 kd_6_124 rfl rfl rfl rfl rfl nl_5 rfl rfl (tie_mo_brings d a0 a4 q18 _ h21) ?_
    refine e_aldn cd_6_65 g0 ?_
    refine e_ild cd_6_66 g5 ?_
    obtain ⟨q22, h23, hs⟩ := k_bind hs
    refine e_cvi cd_6_68 kd_6_124 rfl rfl rfl rfl rfl nl_5 rfl rfl (tie_mo_brings d a0 a5 q20 _ h23) ?_
    refine e_aldn cd_6_71 g0 ?_
    refine e_getI cd_6_72 (Or.inl fd_6_117) rfl ?_
    have e := Option.some.inj hs
    subst e
    exact e_ri cd_6_75 nr_6
  · refine e_icN cd_6_39 rfl c13 ?_
    refine e_const cd_6_42 ci_m1 ?_
    have e := Option.some.inj hs
    subst e
    exact e_ri cd_6_43 nr_6
theorem tie_mo_feed (d : Nat) (a0 : Nat) (a1 : Int32) (a2 : Int32) (a3 : Int32) (a4 : Int32) (a5 : Int32) (M : zM) (so : Int32 × zM) (hs : mo_feed d a0 a1 a2 a3 a4 a5 M = some so) : Ev zq_T d 6 0 (zl_args 0 [.inr (.inr (12, some a0)), .inl a1, .inl a2, .inl a3, .inl a4, .inl a5]) [] M (some (.inl so.1), so.2) := by
  cases d with
  | zero => exact nomatch hs
  | succ d => exact tieb_mo_feed d a0 a1 a2 a3 a4 a5 M so hs
theorem tie_mo_end_17  (d : Nat)   (M : zM) (so : Int32 × zM) (ls : List (Nat × zV))  (hs : mo_end_17  d  M = some so) : Ev zq_T d 7 17 ls [] M (some (.inl so.1), so.2) := by
  unfold mo_end_17 at hs
  refine e_const cd_7_17 ci_0 ?_
  have e := Option.some.inj hs
  subst e
  exact e_rz cd_7_18 nr_7 (Or.inl rfl)
theorem tie_mo_end (d : Nat) (a0 : Nat) (a1 : Int32) (M : zM) (so : Int32 × zM) (hs : mo_end d a0 a1 M = some so) : Ev zq_T d 7 0 (zl_args 0 [.inr (.inr (12, some a0)), .inl a1]) [] M (some (.inl so.1), so.2) := by
  unfold mo_end at hs
  have g0 : zl_get (zl_args 0 [.inr (.inr (12, some a0)), .inl a1]) 0 = some (.inr (.inr (12, (some a0)))) := rfl
  have g1 : zl_get (zl_args 0 [.inr (.inr (12, some a0)), .inl a1]) 1 = some (.inl a1) := rfl
  refine e_aldn cd_7_0 g0 ?_
  refine e_const cd_7_1 ci_0 ?_
  refine k_let hs (fun M1 e2 hs => ?_)
  refine e_putI cd_7_2 pd_7_114 rfl e2 ?_
  refine e_ildn cd_7_5 g1 ?_
  refine k_if hs (fun c3 hs => ?_) (fun c3 hs => ?_)
  · refine e_izJ cd_7_6 rfl c3 ?_
    exact tie_mo_end_17  d   M1 so _  hs
  · refine e_izN cd_7_6 rfl c3 ?_
    refine e_ildn cd_7_9 g1 ?_
    refine e_aldn cd_7_10 g0 ?_
    refine e_getI cd_7_11 (Or.inl fd_7_117) rfl ?_
    refine k_if hs (fun c4 hs => ?_) (fun c4 hs => ?_)
    · refine e_icJ cd_7_14 rfl c4 ?_
      refine e_aldn cd_7_19 g0 ?_
      refine e_ildn cd_7_20 g1 ?_
      refine k_let hs (fun M5 e6 hs => ?_)
      refine e_putI cd_7_21 pd_7_117 rfl e6 ?_
      refine e_const cd_7_24 ci_1 ?_
      have e := Option.some.inj hs
      subst e
      exact e_rz cd_7_25 nr_7 (Or.inr rfl)
    · refine e_icN cd_7_14 rfl c4 ?_
      exact tie_mo_end_17  d   M1 so _  hs
theorem tie_mo_here_28  (d : Nat)  (s0 : Int32) (M : zM) (so : Int32 × zM) (ls : List (Nat × zV))  (hs : mo_here_28  d s0 M = some so) : Ev zq_T d 8 28 ls [.inl s0] M (some (.inl so.1), so.2) := by
  unfold mo_here_28 at hs
  have e := Option.some.inj hs
  subst e
  exact e_ri cd_8_28 nr_8
theorem tie_mo_here (d : Nat) (a0 : Nat) (M : zM) (so : Int32 × zM) (hs : mo_here d a0 M = some so) : Ev zq_T d 8 0 (zl_args 0 [.inr (.inr (12, some a0))]) [] M (some (.inl so.1), so.2) := by
  unfold mo_here at hs
  have g0 : zl_get (zl_args 0 [.inr (.inr (12, some a0))]) 0 = some (.inr (.inr (12, (some a0)))) := rfl
  refine e_aldn cd_8_0 g0 ?_
  refine e_getI cd_8_1 (Or.inl fd_8_128) rfl ?_
  refine e_aldn cd_8_4 g0 ?_
  refine e_getI cd_8_5 (Or.inl fd_8_117) rfl ?_
  refine k_if hs (fun c1 hs => ?_) (fun c1 hs => ?_)
  · refine e_icJ cd_8_8 rfl c1 ?_
    refine e_const cd_8_27 ci_m1 ?_
    exact tie_mo_here_28  d  (-1) M so _  hs
  · refine e_icN cd_8_8 rfl c1 ?_
    refine e_aldn cd_8_11 g0 ?_
    refine e_getR cd_8_12 fd_8_9 rfl ?_
    refine e_aldn cd_8_15 g0 ?_
    refine e_getI cd_8_16 (Or.inl fd_8_128) rfl ?_
    refine k_opt hs (fun _ q => nomatch q) (fun k2 h3 hs => ?_)
    obtain ⟨c4, hs⟩ := z_ite hs
    refine e_bald cd_8_19 rfl h3 c4 ?_
    refine e_sip cd_8_20 cs_255 ?_
    refine e_pure cd_8_23 rfl ?_
    refine e_goto cd_8_24 rfl ?_
    exact tie_mo_here_28  d  ((zm_I M 22 k2 (zm_I M 12 a0 3).toNatClampNeg) &&& 255) M so _  hs
theorem tie_mo_look_0  (d : Nat)  : ∀ (fuel : Nat) (t0 : Nat) (M : zM) (so : Int32 × zM) (ls : List (Nat × zV)), zl_get ls 0 = some (.inr (.inr (12, (some t0)))) → mo_look_0  d fuel t0 M = some so → Ev zq_T (d + 1) 9 0 ls [] M (some (.inl so.1), so.2) := by
  intro fuel
  induction fuel with
  | zero => intro t0 M so ls g0 hs; exact nomatch hs
  | succ fuel ih =>
    intro t0 M so ls g0 hs
    unfold mo_look_0 at hs
    refine e_aldn cd_9_0 g0 ?_
    obtain ⟨q1, h2, hs⟩ := k_bind hs
    refine e_cvi cd_9_1 kd_9_131 rfl rfl rfl rfl rfl nl_8 rfl rfl (tie_mo_here d t0 M _ h2) ?_
    refine e_bip cd_9_4 cb_32 ?_
    refine k_if hs (fun c3 hs => ?_) (fun c3 hs => ?_)
    · refine e_icN cd_9_6 rfl (fun q => q c3) ?_
      refine e_aldn cd_9_9 g0 ?_
      refine e_pure cd_9_10 rfl ?_
      refine e_getI cd_9_11 (Or.inl fd_9_128) rfl ?_
      refine e_const cd_9_14 ci_1 ?_
      refine e_pure cd_9_15 rfl ?_
      refine k_let hs (fun M4 e5 hs => ?_)
      refine e_putI cd_9_16 pd_9_128 rfl e5 ?_
      refine e_goto cd_9_19 rfl ?_
      exact ih t0 M4 so _ g0 hs
    · refine e_icJ cd_9_6 rfl c3 ?_
      refine e_aldn cd_9_22 g0 ?_
      obtain ⟨q6, h7, hs⟩ := k_bind hs
      refine e_cvi cd_9_23 kd_9_131 rfl rfl rfl rfl rfl nl_8 rfl rfl (tie_mo_here d t0 q1.2 _ h7) ?_
      have e := Option.some.inj hs
      subst e
      exact e_ri cd_9_26 nr_9
theorem tieb_mo_look  (d : Nat)  (a0 : Nat) (M : zM) (so : Int32 × zM) (hs : mo_look_b  d a0 M = some so) : Ev zq_T (d + 1) 9 0 (zl_args 0 [.inr (.inr (12, some a0))]) [] M (some (.inl so.1), so.2) := by
  unfold mo_look_b at hs
  have g0 : zl_get (zl_args 0 [.inr (.inr (12, some a0))]) 0 = some (.inr (.inr (12, (some a0)))) := rfl
  exact tie_mo_look_0  d  zLF a0 M so _ g0 hs
theorem tie_mo_look (d : Nat) (a0 : Nat) (M : zM) (so : Int32 × zM) (hs : mo_look d a0 M = some so) : Ev zq_T d 9 0 (zl_args 0 [.inr (.inr (12, some a0))]) [] M (some (.inl so.1), so.2) := by
  cases d with
  | zero => exact nomatch hs
  | succ d => exact tieb_mo_look d a0 M so hs
theorem tie_mo_fails_13  (d : Nat)   (M : zM) (so : zM) (ls : List (Nat × zV))  (hs : mo_fails_13  d  M = some so) : Ev zq_T d 10 13 ls [] M (none, so) := by
  unfold mo_fails_13 at hs
  have e := Option.some.inj hs
  subst e
  exact e_rv cd_10_13 nr_10
theorem tie_mo_fails (d : Nat) (a0 : Nat) (a1 : Int32) (M : zM) (so : zM) (hs : mo_fails d a0 a1 M = some so) : Ev zq_T d 10 0 (zl_args 0 [.inr (.inr (12, some a0)), .inl a1]) [] M (none, so) := by
  unfold mo_fails at hs
  have g0 : zl_get (zl_args 0 [.inr (.inr (12, some a0)), .inl a1]) 0 = some (.inr (.inr (12, (some a0)))) := rfl
  have g1 : zl_get (zl_args 0 [.inr (.inr (12, some a0)), .inl a1]) 1 = some (.inl a1) := rfl
  refine e_aldn cd_10_0 g0 ?_
  refine e_getI cd_10_1 (Or.inl fd_10_135) rfl ?_
  refine e_const cd_10_4 ci_m1 ?_
  refine k_if hs (fun c1 hs => ?_) (fun c1 hs => ?_)
  · refine e_icN cd_10_5 rfl (fun q => q c1) ?_
    refine e_aldn cd_10_8 g0 ?_
    refine e_ildn cd_10_9 g1 ?_
    refine k_let hs (fun M2 e3 hs => ?_)
    refine e_putI cd_10_10 pd_10_135 rfl e3 ?_
    exact tie_mo_fails_13  d   M2 so _  hs
  · refine e_icJ cd_10_5 rfl c1 ?_
    exact tie_mo_fails_13  d   M so _  hs
theorem tie_mo_fine_13  (d : Nat)  (s0 : Int32) (M : zM) (so : Int32 × zM) (ls : List (Nat × zV))  (hs : mo_fine_13  d s0 M = some so) : Ev zq_T d 11 13 ls [.inl s0] M (some (.inl so.1), so.2) := by
  unfold mo_fine_13 at hs
  obtain ⟨c1, hs⟩ := z_ite hs
  have e := Option.some.inj hs
  subst e
  exact e_rz cd_11_13 nr_11 c1
theorem tie_mo_fine (d : Nat) (a0 : Nat) (M : zM) (so : Int32 × zM) (hs : mo_fine d a0 M = some so) : Ev zq_T d 11 0 (zl_args 0 [.inr (.inr (12, some a0))]) [] M (some (.inl so.1), so.2) := by
  unfold mo_fine at hs
  have g0 : zl_get (zl_args 0 [.inr (.inr (12, some a0))]) 0 = some (.inr (.inr (12, (some a0)))) := rfl
  refine e_aldn cd_11_0 g0 ?_
  refine e_getI cd_11_1 (Or.inl fd_11_135) rfl ?_
  refine e_const cd_11_4 ci_m1 ?_
  refine k_if hs (fun c1 hs => ?_) (fun c1 hs => ?_)
  · refine e_icN cd_11_5 rfl (fun q => q c1) ?_
    refine e_const cd_11_8 ci_1 ?_
    refine e_goto cd_11_9 rfl ?_
    exact tie_mo_fine_13  d  1 M so _  hs
  · refine e_icJ cd_11_5 rfl c1 ?_
    refine e_const cd_11_12 ci_0 ?_
    exact tie_mo_fine_13  d  0 M so _  hs
theorem tieb_mo_takes  (d : Nat)  (a0 : Nat) (a1 : Int32) (M : zM) (so : Int32 × zM) (hs : mo_takes_b  d a0 a1 M = some so) : Ev zq_T (d + 1) 12 0 (zl_args 0 [.inr (.inr (12, some a0)), .inl a1]) [] M (some (.inl so.1), so.2) := by
  unfold mo_takes_b at hs
  have g0 : zl_get (zl_args 0 [.inr (.inr (12, some a0)), .inl a1]) 0 = some (.inr (.inr (12, (some a0)))) := rfl
  have g1 : zl_get (zl_args 0 [.inr (.inr (12, some a0)), .inl a1]) 1 = some (.inl a1) := rfl
  refine e_aldn cd_12_0 g0 ?_
  obtain ⟨q1, h2, hs⟩ := k_bind hs
  refine e_cvi cd_12_1 kd_12_138 rfl rfl rfl rfl rfl nl_9 rfl rfl (tie_mo_look d a0 M _ h2) ?_
  refine e_ildn cd_12_4 g1 ?_
  refine k_if hs (fun c3 hs => ?_) (fun c3 hs => ?_)
  · refine e_icJ cd_12_5 rfl c3 ?_
    refine e_aldn cd_12_10 g0 ?_
    refine e_pure cd_12_11 rfl ?_
    refine e_getI cd_12_12 (Or.inl fd_12_128) rfl ?_
    refine e_const cd_12_15 ci_1 ?_
    refine e_pure cd_12_16 rfl ?_
    refine k_let hs (fun M4 e5 hs => ?_)
    refine e_putI cd_12_17 pd_12_128 rfl e5 ?_
    refine e_const cd_12_20 ci_1 ?_
    have e := Option.some.inj hs
    subst e
    exact e_rz cd_12_21 nr_12 (Or.inr rfl)
  · refine e_icN cd_12_5 rfl c3 ?_
    refine e_const cd_12_8 ci_0 ?_
    have e := Option.some.inj hs
    subst e
    exact e_rz cd_12_9 nr_12 (Or.inl rfl)
theorem tie_mo_takes (d : Nat) (a0 : Nat) (a1 : Int32) (M : zM) (so : Int32 × zM) (hs : mo_takes d a0 a1 M = some so) : Ev zq_T d 12 0 (zl_args 0 [.inr (.inr (12, some a0)), .inl a1]) [] M (some (.inl so.1), so.2) := by
  cases d with
  | zero => exact nomatch hs
  | succ d => exact tieb_mo_takes d a0 a1 M so hs
theorem tie_mo_isLetter_17  (d : Nat)  (s0 : Int32) (M : zM) (so : Int32 × zM) (ls : List (Nat × zV))  (hs : mo_isLetter_17  d s0 M = some so) : Ev zq_T d 13 17 ls [.inl s0] M (some (.inl so.1), so.2) := by
  unfold mo_isLetter_17 at hs
  obtain ⟨c1, hs⟩ := z_ite hs
  have e := Option.some.inj hs
  subst e
  exact e_rz cd_13_17 nr_13 c1
theorem tie_mo_isLetter_16  (d : Nat)   (M : zM) (so : Int32 × zM) (ls : List (Nat × zV))  (hs : mo_isLetter_16  d  M = some so) : Ev zq_T d 13 16 ls [] M (some (.inl so.1), so.2) := by
  unfold mo_isLetter_16 at hs
  refine e_const cd_13_16 ci_0 ?_
  exact tie_mo_isLetter_17  d  0 M so _  hs
theorem tie_mo_isLetter (d : Nat) (a0 : Int32) (M : zM) (so : Int32 × zM) (hs : mo_isLetter d a0 M = some so) : Ev zq_T d 13 0 (zl_args 0 [.inl a0]) [] M (some (.inl so.1), so.2) := by
  unfold mo_isLetter at hs
  have g0 : zl_get (zl_args 0 [.inl a0]) 0 = some (.inl a0) := rfl
  refine e_ildn cd_13_0 g0 ?_
  refine e_bip cd_13_1 cb_97 ?_
  refine k_if hs (fun c1 hs => ?_) (fun c1 hs => ?_)
  · refine e_icJ cd_13_3 rfl c1 ?_
    exact tie_mo_isLetter_16  d   M so _  hs
  · refine e_icN cd_13_3 rfl c1 ?_
    refine e_ildn cd_13_6 g0 ?_
    refine e_bip cd_13_7 cb_122 ?_
    refine k_if hs (fun c2 hs => ?_) (fun c2 hs => ?_)
    · refine e_icJ cd_13_9 rfl c2 ?_
      exact tie_mo_isLetter_16  d   M so _  hs
    · refine e_icN cd_13_9 rfl c2 ?_
      refine e_const cd_13_12 ci_1 ?_
      refine e_goto cd_13_13 rfl ?_
      exact tie_mo_isLetter_17  d  1 M so _  hs
theorem tie_mo_isDigit_17  (d : Nat)  (s0 : Int32) (M : zM) (so : Int32 × zM) (ls : List (Nat × zV))  (hs : mo_isDigit_17  d s0 M = some so) : Ev zq_T d 14 17 ls [.inl s0] M (some (.inl so.1), so.2) := by
  unfold mo_isDigit_17 at hs
  obtain ⟨c1, hs⟩ := z_ite hs
  have e := Option.some.inj hs
  subst e
  exact e_rz cd_14_17 nr_14 c1
theorem tie_mo_isDigit_16  (d : Nat)   (M : zM) (so : Int32 × zM) (ls : List (Nat × zV))  (hs : mo_isDigit_16  d  M = some so) : Ev zq_T d 14 16 ls [] M (some (.inl so.1), so.2) := by
  unfold mo_isDigit_16 at hs
  refine e_const cd_14_16 ci_0 ?_
  exact tie_mo_isDigit_17  d  0 M so _  hs
theorem tie_mo_isDigit (d : Nat) (a0 : Int32) (M : zM) (so : Int32 × zM) (hs : mo_isDigit d a0 M = some so) : Ev zq_T d 14 0 (zl_args 0 [.inl a0]) [] M (some (.inl so.1), so.2) := by
  unfold mo_isDigit at hs
  have g0 : zl_get (zl_args 0 [.inl a0]) 0 = some (.inl a0) := rfl
  refine e_ildn cd_14_0 g0 ?_
  refine e_bip cd_14_1 cb_48 ?_
  refine k_if hs (fun c1 hs => ?_) (fun c1 hs => ?_)
  · refine e_icJ cd_14_3 rfl c1 ?_
    exact tie_mo_isDigit_16  d   M so _  hs
  · refine e_icN cd_14_3 rfl c1 ?_
    refine e_ildn cd_14_6 g0 ?_
    refine e_bip cd_14_7 cb_57 ?_
    refine k_if hs (fun c2 hs => ?_) (fun c2 hs => ?_)
    · refine e_icJ cd_14_9 rfl c2 ?_
      exact tie_mo_isDigit_16  d   M so _  hs
    · refine e_icN cd_14_9 rfl c2 ?_
      refine e_const cd_14_12 ci_1 ?_
      refine e_goto cd_14_13 rfl ?_
      exact tie_mo_isDigit_17  d  1 M so _  hs
theorem tie_mo_opens_18  (d : Nat)  : ∀ (fuel : Nat) (t0 : Nat) (v1 : Int32) (v2 : Int32) (v3 : Int32) (v4 : Int32) (M : zM) (so : Int32 × zM) (ls : List (Nat × zV)), zl_get ls 0 = some (.inr (.inr (12, (some t0)))) → zl_get ls 1 = some (.inl v1) → zl_get ls 2 = some (.inl v2) → zl_get ls 3 = some (.inl v3) → zl_get ls 4 = some (.inl v4) → mo_opens_18  d fuel t0 v1 v2 v3 v4 M = some so → Ev zq_T d 15 18 ls [] M (some (.inl so.1), so.2) := by
  intro fuel
  induction fuel with
  | zero => intro t0 v1 v2 v3 v4 M so ls g0 g1 g2 g3 g4 hs; exact nomatch hs
  | succ fuel ih =>
    intro t0 v1 v2 v3 v4 M so ls g0 g1 g2 g3 g4 hs
    unfold mo_opens_18 at hs
    refine e_ild cd_15_18 g4 ?_
    refine e_bip cd_15_20 cb_6 ?_
    refine k_if hs (fun c1 hs => ?_) (fun c1 hs => ?_)
    · refine e_icJ cd_15_22 rfl c1 ?_
      refine e_aldn cd_15_44 g0 ?_
      refine e_getR cd_15_45 fd_15_17 rfl ?_
      refine e_bip cd_15_48 cb_6 ?_
      refine e_ildn cd_15_50 g3 ?_
      refine e_pure cd_15_51 rfl ?_
      refine e_const cd_15_52 ci_0 ?_
      refine e_pure cd_15_53 rfl ?_
      refine e_ildn cd_15_54 g1 ?_
      refine k_opt hs (fun _ q => nomatch q) (fun k2 h3 hs => ?_)
      obtain ⟨c4, hs⟩ := z_ite hs
      refine k_let hs (fun M5 e6 hs => ?_)
      refine e_iast cd_15_55 rfl h3 c4 e6 ?_
      refine e_aldn cd_15_56 g0 ?_
      refine e_getR cd_15_57 fd_15_17 rfl ?_
      refine e_bip cd_15_60 cb_6 ?_
      refine e_ildn cd_15_62 g3 ?_
      refine e_pure cd_15_63 rfl ?_
      refine e_const cd_15_64 ci_1 ?_
      refine e_pure cd_15_65 rfl ?_
      refine e_ildn cd_15_66 g2 ?_
      refine k_opt hs (fun _ q => nomatch q) (fun k7 h8 hs => ?_)
      obtain ⟨c9, hs⟩ := z_ite hs
      refine k_let hs (fun M10 e11 hs => ?_)
      refine e_iast cd_15_67 rfl h8 c9 e11 ?_
      refine e_aldn cd_15_68 g0 ?_
      refine e_getR cd_15_69 fd_15_17 rfl ?_
      refine e_bip cd_15_72 cb_6 ?_
      refine e_ildn cd_15_74 g3 ?_
      refine e_pure cd_15_75 rfl ?_
      refine e_const cd_15_76 ci_5 ?_
      refine e_pure cd_15_77 rfl ?_
      refine e_const cd_15_78 ci_0 ?_
      refine k_opt hs (fun _ q => nomatch q) (fun k12 h13 hs => ?_)
      obtain ⟨c14, hs⟩ := z_ite hs
      refine k_let hs (fun M15 e16 hs => ?_)
      refine e_iast cd_15_79 rfl h13 c14 e16 ?_
      refine e_ildn cd_15_80 g3 ?_
      have e := Option.some.inj hs
      subst e
      exact e_ri cd_15_81 nr_15
    · refine e_icN cd_15_22 rfl c1 ?_
      refine e_aldn cd_15_25 g0 ?_
      refine e_getR cd_15_26 fd_15_17 rfl ?_
      refine e_bip cd_15_29 cb_6 ?_
      refine e_ildn cd_15_31 g3 ?_
      refine e_pure cd_15_32 rfl ?_
      refine e_ild cd_15_33 g4 ?_
      refine e_pure cd_15_35 rfl ?_
      refine e_const cd_15_36 ci_m1 ?_
      refine k_opt hs (fun _ q => nomatch q) (fun k17 h18 hs => ?_)
      obtain ⟨c19, hs⟩ := z_ite hs
      refine k_let hs (fun M20 e21 hs => ?_)
      refine e_iast cd_15_37 rfl h18 c19 e21 ?_
      refine k_let hs (fun x22 e23 hs => ?_)
      refine e_incK cd_15_38 nl_15 rfl g4 ci_1 e23 ?_
      intro _ gn kp
      have u24 := kp 0 _ g0 rfl rfl
      have u25 := kp 1 _ g1 rfl rfl
      have u26 := kp 2 _ g2 rfl rfl
      have u27 := kp 3 _ g3 rfl rfl
      have u28 := gn
      refine e_goto cd_15_41 rfl ?_
      exact ih t0 v1 v2 v3 x22 M20 so _ u24 u25 u26 u27 u28 hs
theorem tie_mo_opens (d : Nat) (a0 : Nat) (a1 : Int32) (a2 : Int32) (M : zM) (so : Int32 × zM) (hs : mo_opens d a0 a1 a2 M = some so) : Ev zq_T d 15 0 (zl_args 0 [.inr (.inr (12, some a0)), .inl a1, .inl a2]) [] M (some (.inl so.1), so.2) := by
  unfold mo_opens at hs
  have g0 : zl_get (zl_args 0 [.inr (.inr (12, some a0)), .inl a1, .inl a2]) 0 = some (.inr (.inr (12, (some a0)))) := rfl
  have g1 : zl_get (zl_args 0 [.inr (.inr (12, some a0)), .inl a1, .inl a2]) 1 = some (.inl a1) := rfl
  have g2 : zl_get (zl_args 0 [.inr (.inr (12, some a0)), .inl a1, .inl a2]) 2 = some (.inl a2) := rfl
  refine e_aldn cd_15_0 g0 ?_
  refine e_getI cd_15_1 (Or.inl fd_15_141) rfl ?_
  refine k_let hs (fun x1 e2 hs => ?_)
  refine e_iKn cd_15_4 nl_15 rfl e2 ?_
  intro _ gn kp
  have u3 := kp 0 _ g0 rfl rfl
  have u4 := kp 1 _ g1 rfl rfl
  have u5 := kp 2 _ g2 rfl rfl
  have u6 := gn
  refine e_aldn cd_15_5 u3 ?_
  refine e_pure cd_15_6 rfl ?_
  refine e_getI cd_15_7 (Or.inl fd_15_141) rfl ?_
  refine e_const cd_15_10 ci_1 ?_
  refine e_pure cd_15_11 rfl ?_
  refine k_let hs (fun M7 e8 hs => ?_)
  refine e_putI cd_15_12 pd_15_141 rfl e8 ?_
  refine e_const cd_15_15 ci_0 ?_
  refine e_iK cd_15_16 nl_15 rfl rfl ?_
  intro _ gn kp
  have u9 := kp 0 _ u3 rfl rfl
  have u10 := kp 1 _ u4 rfl rfl
  have u11 := kp 2 _ u5 rfl rfl
  have u12 := kp 3 _ u6 rfl rfl
  have u13 := gn
  exact tie_mo_opens_18  d  zLF a0 a1 a2 x1 0 M7 so _ u9 u10 u11 u12 u13 hs
theorem tie_mo_puts_53  (d : Nat)  : ∀ (fuel : Nat) (t0 : Nat) (v2 : Int32) (v4 : Int32) (M : zM) (so : zM) (ls : List (Nat × zV)), zl_get ls 0 = some (.inr (.inr (12, (some t0)))) → zl_get ls 2 = some (.inl v2) → zl_get ls 4 = some (.inl v4) → mo_puts_53  d fuel t0 v2 v4 M = some so → Ev zq_T d 16 53 ls [] M (none, so) := by
  intro fuel
  induction fuel with
  | zero => intro t0 v2 v4 M so ls g0 g2 g4 hs; exact nomatch hs
  | succ fuel ih =>
    intro t0 v2 v4 M so ls g0 g2 g4 hs
    unfold mo_puts_53 at hs
    refine e_aldn cd_16_53 g0 ?_
    refine e_getR cd_16_54 fd_16_17 rfl ?_
    refine e_ild cd_16_57 g4 ?_
    refine k_opt hs (fun _ q => nomatch q) (fun k1 h2 hs => ?_)
    obtain ⟨c3, hs⟩ := z_ite hs
    refine e_iald cd_16_59 rfl h2 c3 ?_
    refine e_const cd_16_60 ci_m1 ?_
    refine k_if hs (fun c4 hs => ?_) (fun c4 hs => ?_)
    · refine e_icJ cd_16_61 rfl c4 ?_
      refine e_aldn cd_16_81 g0 ?_
      refine e_getR cd_16_82 fd_16_17 rfl ?_
      refine e_ild cd_16_85 g4 ?_
      refine e_ildn cd_16_87 g2 ?_
      refine k_opt hs (fun _ q => nomatch q) (fun k5 h6 hs => ?_)
      obtain ⟨c7, hs⟩ := z_ite hs
      refine k_let hs (fun M8 e9 hs => ?_)
      refine e_iast cd_16_88 rfl h6 c7 e9 ?_
      have e := Option.some.inj hs
      subst e
      exact e_rv cd_16_89 nr_16
    · refine e_icN cd_16_61 rfl c4 ?_
      refine e_bip cd_16_64 cb_6 ?_
      refine e_aldn cd_16_66 g0 ?_
      refine e_getR cd_16_67 fd_16_17 rfl ?_
      refine e_ild cd_16_70 g4 ?_
      refine k_opt hs (fun _ q => nomatch q) (fun k10 h11 hs => ?_)
      obtain ⟨c12, hs⟩ := z_ite hs
      refine e_iald cd_16_72 rfl h11 c12 ?_
      refine e_pure cd_16_73 rfl ?_
      refine e_const cd_16_74 ci_4 ?_
      refine e_pure cd_16_75 rfl ?_
      refine k_let hs (fun x13 e14 hs => ?_)
      refine e_iK cd_16_76 nl_16 rfl e14 ?_
      intro _ gn kp
      have u15 := kp 0 _ g0 rfl rfl
      have u16 := kp 2 _ g2 rfl rfl
      have u17 := gn
      refine e_goto cd_16_78 rfl ?_
      exact ih t0 v2 x13 M so _ u15 u16 u17 hs
theorem tie_mo_puts (d : Nat) (a0 : Nat) (a1 : Int32) (a2 : Int32) (M : zM) (so : zM) (hs : mo_puts d a0 a1 a2 M = some so) : Ev zq_T d 16 0 (zl_args 0 [.inr (.inr (12, some a0)), .inl a1, .inl a2]) [] M (none, so) := by
  unfold mo_puts at hs
  have g0 : zl_get (zl_args 0 [.inr (.inr (12, some a0)), .inl a1, .inl a2]) 0 = some (.inr (.inr (12, (some a0)))) := rfl
  have g1 : zl_get (zl_args 0 [.inr (.inr (12, some a0)), .inl a1, .inl a2]) 1 = some (.inl a1) := rfl
  have g2 : zl_get (zl_args 0 [.inr (.inr (12, some a0)), .inl a1, .inl a2]) 2 = some (.inl a2) := rfl
  refine e_aldn cd_16_0 g0 ?_
  refine e_getR cd_16_1 fd_16_17 rfl ?_
  refine e_bip cd_16_4 cb_6 ?_
  refine e_ildn cd_16_6 g2 ?_
  refine e_pure cd_16_7 rfl ?_
  refine e_const cd_16_8 ci_2 ?_
  refine e_pure cd_16_9 rfl ?_
  refine e_ildn cd_16_10 g1 ?_
  refine k_opt hs (fun _ q => nomatch q) (fun k1 h2 hs => ?_)
  obtain ⟨c3, hs⟩ := z_ite hs
  refine k_let hs (fun M4 e5 hs => ?_)
  refine e_iast cd_16_11 rfl h2 c3 e5 ?_
  refine e_bip cd_16_12 cb_6 ?_
  refine e_ildn cd_16_14 g1 ?_
  refine e_pure cd_16_15 rfl ?_
  refine e_const cd_16_16 ci_5 ?_
  refine e_pure cd_16_17 rfl ?_
  refine k_let hs (fun x6 e7 hs => ?_)
  refine e_iKn cd_16_18 nl_16 rfl e7 ?_
  intro _ gn kp
  have u8 := kp 0 _ g0 rfl rfl
  have u9 := kp 1 _ g1 rfl rfl
  have u10 := kp 2 _ g2 rfl rfl
  have u11 := gn
  refine e_aldn cd_16_19 u8 ?_
  refine e_getR cd_16_20 fd_16_17 rfl ?_
  refine e_ildn cd_16_23 u11 ?_
  refine e_aldn cd_16_24 u8 ?_
  refine e_getR cd_16_25 fd_16_17 rfl ?_
  refine e_ildn cd_16_28 u11 ?_
  refine k_opt hs (fun _ q => nomatch q) (fun k12 h13 hs => ?_)
  obtain ⟨c14, hs⟩ := z_ite hs
  refine e_iald cd_16_29 rfl h13 c14 ?_
  refine e_aldn cd_16_30 u8 ?_
  refine e_getR cd_16_31 fd_16_17 rfl ?_
  refine e_bip cd_16_34 cb_6 ?_
  refine e_ildn cd_16_36 u10 ?_
  refine e_pure cd_16_37 rfl ?_
  refine e_const cd_16_38 ci_5 ?_
  refine e_pure cd_16_39 rfl ?_
  refine k_opt hs (fun _ q => nomatch q) (fun k15 h16 hs => ?_)
  obtain ⟨c17, hs⟩ := z_ite hs
  refine e_iald cd_16_40 rfl h16 c17 ?_
  refine e_max cd_16_41 kd_16_144 rfl ?_
  obtain ⟨c18, hs⟩ := z_ite hs
  refine k_let hs (fun M19 e20 hs => ?_)
  refine e_iast cd_16_44 rfl h16 c18 e20 ?_
  refine e_bip cd_16_45 cb_6 ?_
  refine e_ildn cd_16_47 u9 ?_
  refine e_pure cd_16_48 rfl ?_
  refine e_const cd_16_49 ci_3 ?_
  refine e_pure cd_16_50 rfl ?_
  refine k_let hs (fun x21 e22 hs => ?_)
  refine e_iK cd_16_51 nl_16 rfl e22 ?_
  intro _ gn kp
  have u23 := kp 0 _ u8 rfl rfl
  have u24 := kp 2 _ u10 rfl rfl
  have u25 := gn
  exact tie_mo_puts_53  d  zLF a0 a2 x21 M19 so _ u23 u24 u25 hs
theorem tie_mo_many (d : Nat) (a0 : Nat) (a1 : Int32) (M : zM) (so : Int32 × zM) (hs : mo_many d a0 a1 M = some so) : Ev zq_T d 17 0 (zl_args 0 [.inr (.inr (12, some a0)), .inl a1]) [] M (some (.inl so.1), so.2) := by
  unfold mo_many at hs
  have g0 : zl_get (zl_args 0 [.inr (.inr (12, some a0)), .inl a1]) 0 = some (.inr (.inr (12, (some a0)))) := rfl
  have g1 : zl_get (zl_args 0 [.inr (.inr (12, some a0)), .inl a1]) 1 = some (.inl a1) := rfl
  refine e_aldn cd_17_0 g0 ?_
  refine e_getR cd_17_1 fd_17_23 rfl ?_
  refine e_const cd_17_4 ci_5 ?_
  refine e_aldn cd_17_5 g0 ?_
  refine e_getI cd_17_6 (Or.inl fd_17_150) rfl ?_
  refine e_pure cd_17_9 rfl ?_
  refine e_ildn cd_17_10 g1 ?_
  refine e_pure cd_17_11 rfl ?_
  refine k_opt hs (fun _ q => nomatch q) (fun k1 h2 hs => ?_)
  obtain ⟨c3, hs⟩ := z_ite hs
  refine e_iald cd_17_12 rfl h2 c3 ?_
  have e := Option.some.inj hs
  subst e
  exact e_ri cd_17_13 nr_17
theorem tie_mo_more (d : Nat) (a0 : Nat) (a1 : Int32) (M : zM) (so : Int32 × zM) (hs : mo_more d a0 a1 M = some so) : Ev zq_T d 18 0 (zl_args 0 [.inr (.inr (12, some a0)), .inl a1]) [] M (some (.inl so.1), so.2) := by
  unfold mo_more at hs
  have g0 : zl_get (zl_args 0 [.inr (.inr (12, some a0)), .inl a1]) 0 = some (.inr (.inr (12, (some a0)))) := rfl
  have g1 : zl_get (zl_args 0 [.inr (.inr (12, some a0)), .inl a1]) 1 = some (.inl a1) := rfl
  refine e_aldn cd_18_0 g0 ?_
  refine e_getR cd_18_1 fd_18_23 rfl ?_
  refine e_const cd_18_4 ci_5 ?_
  refine e_aldn cd_18_5 g0 ?_
  refine e_getI cd_18_6 (Or.inl fd_18_150) rfl ?_
  refine e_pure cd_18_9 rfl ?_
  refine e_ildn cd_18_10 g1 ?_
  refine e_pure cd_18_11 rfl ?_
  refine e_pure cd_18_12 rfl ?_
  refine k_opt hs (fun _ q => nomatch q) (fun k1 h2 hs => ?_)
  obtain ⟨c3, hs⟩ := z_ite hs
  refine e_iald cd_18_13 rfl h2 c3 ?_
  refine e_const cd_18_14 ci_1 ?_
  refine e_pure cd_18_15 rfl ?_
  obtain ⟨c4, hs⟩ := z_ite hs
  refine k_let hs (fun M5 e6 hs => ?_)
  refine e_iast cd_18_16 rfl h2 c4 e6 ?_
  refine e_aldn cd_18_17 g0 ?_
  refine e_getR cd_18_18 fd_18_23 rfl ?_
  refine e_const cd_18_21 ci_5 ?_
  refine e_aldn cd_18_22 g0 ?_
  refine e_getI cd_18_23 (Or.inl fd_18_150) rfl ?_
  refine e_pure cd_18_26 rfl ?_
  refine e_ildn cd_18_27 g1 ?_
  refine e_pure cd_18_28 rfl ?_
  refine k_opt hs (fun _ q => nomatch q) (fun k7 h8 hs => ?_)
  obtain ⟨c9, hs⟩ := z_ite hs
  refine e_iald cd_18_29 rfl h8 c9 ?_
  refine e_const cd_18_30 ci_1 ?_
  refine e_pure cd_18_31 rfl ?_
  have e := Option.some.inj hs
  subst e
  exact e_ri cd_18_32 nr_18
theorem tie_mo_number_139  (d : Nat)  (v3 : Int32) (M : zM) (so : Int32 × zM) (ls : List (Nat × zV)) (g3 : zl_get ls 3 = some (.inl v3)) (hs : mo_number_139  d v3 M = some so) : Ev zq_T (d + 1) 24 139 ls [] M (some (.inl so.1), so.2) := by
  unfold mo_number_139 at hs
  refine e_ildn cd_24_139 g3 ?_
  have e := Option.some.inj hs
  subst e
  exact e_ri cd_24_140 nr_24
theorem tie_mo_number_113  (d : Nat)  (t0 : Nat) (v3 : Int32) (M : zM) (so : Int32 × zM) (ls : List (Nat × zV)) (g0 : zl_get ls 0 = some (.inr (.inr (12, (some t0))))) (g3 : zl_get ls 3 = some (.inl v3)) (hs : mo_number_113  d t0 v3 M = some so) : Ev zq_T (d + 1) 24 113 ls [] M (some (.inl so.1), so.2) := by
  unfold mo_number_113 at hs
  refine e_aldn cd_24_113 g0 ?_
  refine e_pure cd_24_114 rfl ?_
  refine e_getI cd_24_115 (Or.inl fd_24_128) rfl ?_
  refine e_const cd_24_118 ci_1 ?_
  refine e_pure cd_24_119 rfl ?_
  refine k_let hs (fun M1 e2 hs => ?_)
  refine e_putI cd_24_120 pd_24_128 rfl e2 ?_
  refine e_goto cd_24_123 rfl ?_
  exact tie_mo_number_139  d  v3 M1 so _ g3 hs
theorem tie_mo_number_42  (d : Nat)  (t0 : Nat) (v1 : Int32) (v3 : Int32) (s0 : Int32) (M : zM) (so : Int32 × zM) (ls : List (Nat × zV)) (g0 : zl_get ls 0 = some (.inr (.inr (12, (some t0))))) (g1 : zl_get ls 1 = some (.inl v1)) (g3 : zl_get ls 3 = some (.inl v3)) (hs : mo_number_42  d t0 v1 v3 s0 M = some so) : Ev zq_T (d + 1) 24 42 ls [.inl s0] M (some (.inl so.1), so.2) := by
  unfold mo_number_42 at hs
  refine e_iK cd_24_42 nl_24 rfl rfl ?_
  intro _ gn kp
  have u1 := kp 0 _ g0 rfl rfl
  have u2 := kp 1 _ g1 rfl rfl
  have u3 := kp 3 _ g3 rfl rfl
  have u4 := gn
  refine e_ild cd_24_44 u4 ?_
  refine k_if hs (fun c5 hs => ?_) (fun c5 hs => ?_)
  · refine e_izN cd_24_46 rfl (fun q => q c5) ?_
    refine e_aldn cd_24_49 u1 ?_
    refine e_aldn cd_24_50 u1 ?_
    refine e_getI cd_24_51 (Or.inl fd_24_128) rfl ?_
    obtain ⟨q6, h7, hs⟩ := k_bind hs
    refine e_cvi cd_24_54 kd_24_181 rfl rfl rfl rfl rfl nl_10 rfl rfl (tie_mo_fails d t0 (zm_I M 12 t0 3) M _ h7) ?_
    refine e_const cd_24_57 ci_0 ?_
    have e := Option.some.inj hs
    subst e
    exact e_ri cd_24_58 nr_24
  · refine e_izJ cd_24_46 rfl c5 ?_
    refine e_aldn cd_24_59 u1 ?_
    refine e_pure cd_24_60 rfl ?_
    refine e_getI cd_24_61 (Or.inl fd_24_128) rfl ?_
    refine e_const cd_24_64 ci_1 ?_
    refine e_pure cd_24_65 rfl ?_
    refine k_let hs (fun M8 e9 hs => ?_)
    refine e_putI cd_24_66 pd_24_128 rfl e9 ?_
    refine e_aldn cd_24_69 u1 ?_
    obtain ⟨q10, h11, hs⟩ := k_bind hs
    refine e_cvi cd_24_70 kd_24_131 rfl rfl rfl rfl rfl nl_8 rfl rfl (tie_mo_here d t0 M8 _ h11) ?_
    obtain ⟨q12, h13, hs⟩ := k_bind hs
    refine e_cst cd_24_73 kd_24_199 rfl rfl rfl nl_14 rfl rfl (tie_mo_isDigit d q10.1 q10.2 _ h13) ?_
    refine k_if hs (fun c14 hs => ?_) (fun c14 hs => ?_)
    · refine e_izJ cd_24_76 rfl c14 ?_
      refine e_ildn cd_24_126 u3 ?_
      refine e_ildn cd_24_127 u2 ?_
      refine k_if hs (fun c15 hs => ?_) (fun c15 hs => ?_)
      · refine e_icJ cd_24_128 rfl c15 ?_
        exact tie_mo_number_139  d  v3 q12.2 so _ u3 hs
      · refine e_icN cd_24_128 rfl c15 ?_
        refine e_aldn cd_24_131 u1 ?_
        refine e_aldn cd_24_132 u1 ?_
        refine e_getI cd_24_133 (Or.inl fd_24_128) rfl ?_
        obtain ⟨q16, h17, hs⟩ := k_bind hs
        refine e_cvi cd_24_136 kd_24_181 rfl rfl rfl rfl rfl nl_10 rfl rfl (tie_mo_fails d t0 (zm_I q12.2 12 t0 3) q12.2 _ h17) ?_
        exact tie_mo_number_139  d  v3 q16 so _ u3 hs
    · refine e_izN cd_24_76 rfl c14 ?_
      refine e_bip cd_24_79 cb_10 ?_
      refine e_ildn cd_24_81 u3 ?_
      refine e_pure cd_24_82 rfl ?_
      refine e_aldn cd_24_83 u1 ?_
      obtain ⟨q18, h19, hs⟩ := k_bind hs
      refine e_cvi cd_24_84 kd_24_131 rfl rfl rfl rfl rfl nl_8 rfl rfl (tie_mo_here d t0 q12.2 _ h19) ?_
      refine e_pure cd_24_87 rfl ?_
      refine e_bip cd_24_88 cb_48 ?_
      refine e_pure cd_24_90 rfl ?_
      refine k_let hs (fun x20 e21 hs => ?_)
      refine e_iKn cd_24_91 nl_24 rfl e21 ?_
      intro _ gn kp
      have u22 := kp 0 _ u1 rfl rfl
      have u23 := kp 1 _ u2 rfl rfl
      have u24 := gn
      refine e_ildn cd_24_92 u24 ?_
      refine e_pure cd_24_93 rfl ?_
      refine e_ildn cd_24_94 u23 ?_
      refine e_pure cd_24_95 rfl ?_
      refine e_ld2 cd_24_96 od_24_202 ?_
      obtain ⟨q25, h26, hs⟩ := k_bind hs
      refine e_cst cd_24_99 kd_24_204 rfl rfl rfl nl_2 rfl rfl (tie_mo_isIn d x20.toInt64 v1.toInt64 12 q18.2 _ h26) ?_
      refine k_if hs (fun c27 hs => ?_) (fun c27 hs => ?_)
      · refine e_izN cd_24_102 rfl (fun q => q c27) ?_
        refine e_aldn cd_24_105 u22 ?_
        refine e_aldn cd_24_106 u22 ?_
        refine e_getI cd_24_107 (Or.inl fd_24_128) rfl ?_
        obtain ⟨q28, h29, hs⟩ := k_bind hs
        refine e_cvi cd_24_110 kd_24_181 rfl rfl rfl rfl rfl nl_10 rfl rfl (tie_mo_fails d t0 (zm_I q25.2 12 t0 3) q25.2 _ h29) ?_
        exact tie_mo_number_113  d  t0 x20 q28 so _ u22 u24 hs
      · refine e_izJ cd_24_102 rfl c27 ?_
        exact tie_mo_number_113  d  t0 x20 q25.2 so _ u22 u24 hs
theorem tie_mo_number_37  (d : Nat)  (t0 : Nat) (v1 : Int32) (v3 : Int32) (M : zM) (so : Int32 × zM) (ls : List (Nat × zV)) (g0 : zl_get ls 0 = some (.inr (.inr (12, (some t0))))) (g1 : zl_get ls 1 = some (.inl v1)) (g3 : zl_get ls 3 = some (.inl v3)) (hs : mo_number_37  d t0 v1 v3 M = some so) : Ev zq_T (d + 1) 24 37 ls [] M (some (.inl so.1), so.2) := by
  unfold mo_number_37 at hs
  refine e_const cd_24_37 ci_1 ?_
  refine e_goto cd_24_38 rfl ?_
  exact tie_mo_number_42  d  t0 v1 v3 1 M so _ g0 g1 g3 hs
theorem tie_mo_number_41  (d : Nat)  (t0 : Nat) (v1 : Int32) (v3 : Int32) (M : zM) (so : Int32 × zM) (ls : List (Nat × zV)) (g0 : zl_get ls 0 = some (.inr (.inr (12, (some t0))))) (g1 : zl_get ls 1 = some (.inl v1)) (g3 : zl_get ls 3 = some (.inl v3)) (hs : mo_number_41  d t0 v1 v3 M = some so) : Ev zq_T (d + 1) 24 41 ls [] M (some (.inl so.1), so.2) := by
  unfold mo_number_41 at hs
  refine e_const cd_24_41 ci_0 ?_
  exact tie_mo_number_42  d  t0 v1 v3 0 M so _ g0 g1 g3 hs
theorem tie_mo_number_32  (d : Nat)  (t0 : Nat) (v1 : Int32) (v3 : Int32) (M : zM) (so : Int32 × zM) (ls : List (Nat × zV)) (g0 : zl_get ls 0 = some (.inr (.inr (12, (some t0))))) (g1 : zl_get ls 1 = some (.inl v1)) (g3 : zl_get ls 3 = some (.inl v3)) (hs : mo_number_32  d t0 v1 v3 M = some so) : Ev zq_T (d + 1) 24 32 ls [] M (some (.inl so.1), so.2) := by
  unfold mo_number_32 at hs
  refine e_ildn cd_24_32 g3 ?_
  refine e_const cd_24_33 ci_1 ?_
  refine k_if hs (fun c1 hs => ?_) (fun c1 hs => ?_)
  · refine e_icN cd_24_34 rfl (fun q => q c1) ?_
    exact tie_mo_number_37  d  t0 v1 v3 M so _ g0 g1 g3 hs
  · refine e_icJ cd_24_34 rfl c1 ?_
    exact tie_mo_number_41  d  t0 v1 v3 M so _ g0 g1 g3 hs
theorem tieb_mo_number  (d : Nat)  (a0 : Nat) (a1 : Int32) (M : zM) (so : Int32 × zM) (hs : mo_number_b  d a0 a1 M = some so) : Ev zq_T (d + 1) 24 0 (zl_args 0 [.inr (.inr (12, some a0)), .inl a1]) [] M (some (.inl so.1), so.2) := by
  unfold mo_number_b at hs
  have g0 : zl_get (zl_args 0 [.inr (.inr (12, some a0)), .inl a1]) 0 = some (.inr (.inr (12, (some a0)))) := rfl
  have g1 : zl_get (zl_args 0 [.inr (.inr (12, some a0)), .inl a1]) 1 = some (.inl a1) := rfl
  refine e_aldn cd_24_0 g0 ?_
  obtain ⟨q1, h2, hs⟩ := k_bind hs
  refine e_cvi cd_24_1 kd_24_138 rfl rfl rfl rfl rfl nl_9 rfl rfl (tie_mo_look d a0 M _ h2) ?_
  refine e_iKn cd_24_4 nl_24 rfl rfl ?_
  intro _ gn kp
  have u3 := kp 0 _ g0 rfl rfl
  have u4 := kp 1 _ g1 rfl rfl
  have u5 := gn
  refine e_ildn cd_24_5 u5 ?_
  refine e_bip cd_24_6 cb_48 ?_
  refine e_pure cd_24_8 rfl ?_
  refine k_let hs (fun x6 e7 hs => ?_)
  refine e_iKn cd_24_9 nl_24 rfl e7 ?_
  intro _ gn kp
  have u8 := kp 0 _ u3 rfl rfl
  have u9 := kp 1 _ u4 rfl rfl
  have u10 := kp 2 _ u5 rfl rfl
  have u11 := gn
  refine e_ildn cd_24_10 u10 ?_
  obtain ⟨q12, h13, hs⟩ := k_bind hs
  refine e_cst cd_24_11 kd_24_199 rfl rfl rfl nl_14 rfl rfl (tie_mo_isDigit d q1.1 q1.2 _ h13) ?_
  refine k_if hs (fun c14 hs => ?_) (fun c14 hs => ?_)
  · refine e_izJ cd_24_14 rfl c14 ?_
    exact tie_mo_number_41  d  a0 a1 x6 q12.2 so _ u8 u9 u11 hs
  · refine e_izN cd_24_14 rfl c14 ?_
    refine e_ildn cd_24_17 u11 ?_
    refine e_ildn cd_24_18 u9 ?_
    refine k_if hs (fun c15 hs => ?_) (fun c15 hs => ?_)
    · refine e_icJ cd_24_19 rfl c15 ?_
      exact tie_mo_number_37  d  a0 a1 x6 q12.2 so _ u8 u9 u11 hs
    · refine e_icN cd_24_19 rfl c15 ?_
      refine e_ildn cd_24_22 u11 ?_
      refine k_if hs (fun c16 hs => ?_) (fun c16 hs => ?_)
      · refine e_izN cd_24_23 rfl (fun q => q c16) ?_
        refine e_ildn cd_24_26 u9 ?_
        refine e_bip cd_24_27 cb_10 ?_
        refine k_if hs (fun c17 hs => ?_) (fun c17 hs => ?_)
        · refine e_icJ cd_24_29 rfl c17 ?_
          exact tie_mo_number_37  d  a0 a1 x6 q12.2 so _ u8 u9 u11 hs
        · refine e_icN cd_24_29 rfl c17 ?_
          exact tie_mo_number_32  d  a0 a1 x6 q12.2 so _ u8 u9 u11 hs
      · refine e_izJ cd_24_23 rfl c16 ?_
        exact tie_mo_number_32  d  a0 a1 x6 q12.2 so _ u8 u9 u11 hs
theorem tie_mo_number (d : Nat) (a0 : Nat) (a1 : Int32) (M : zM) (so : Int32 × zM) (hs : mo_number d a0 a1 M = some so) : Ev zq_T d 24 0 (zl_args 0 [.inr (.inr (12, some a0)), .inl a1]) [] M (some (.inl so.1), so.2) := by
  cases d with
  | zero => exact nomatch hs
  | succ d => exact tieb_mo_number d a0 a1 M so hs
theorem tie_mo_bounds_51  (d : Nat)  (t0 : Nat) (M : zM) (so : zM) (ls : List (Nat × zV)) (g0 : zl_get ls 0 = some (.inr (.inr (12, (some t0))))) (hs : mo_bounds_51  d t0 M = some so) : Ev zq_T (d + 1) 25 51 ls [] M (none, so) := by
  unfold mo_bounds_51 at hs
  refine e_aldn cd_25_51 g0 ?_
  refine e_pure cd_25_52 rfl ?_
  refine e_getI cd_25_53 (Or.inl fd_25_128) rfl ?_
  refine e_const cd_25_56 ci_1 ?_
  refine e_pure cd_25_57 rfl ?_
  refine k_let hs (fun M1 e2 hs => ?_)
  refine e_putI cd_25_58 pd_25_128 rfl e2 ?_
  have e := Option.some.inj hs
  subst e
  exact e_rv cd_25_61 nr_25
theorem tie_mo_bounds_139  (d : Nat)   (M : zM) (so : zM) (ls : List (Nat × zV))  (hs : mo_bounds_139  d  M = some so) : Ev zq_T (d + 1) 25 139 ls [] M (none, so) := by
  unfold mo_bounds_139 at hs
  have e := Option.some.inj hs
  subst e
  exact e_rv cd_25_139 nr_25
theorem tie_mo_bounds_115  (d : Nat)  (t0 : Nat) (M : zM) (so : zM) (ls : List (Nat × zV)) (g0 : zl_get ls 0 = some (.inr (.inr (12, (some t0))))) (hs : mo_bounds_115  d t0 M = some so) : Ev zq_T (d + 1) 25 115 ls [] M (none, so) := by
  unfold mo_bounds_115 at hs
  refine e_aldn cd_25_115 g0 ?_
  obtain ⟨q1, h2, hs⟩ := k_bind hs
  refine e_cvi cd_25_116 kd_25_160 rfl rfl rfl rfl rfl nl_11 rfl rfl (tie_mo_fine d t0 M _ h2) ?_
  refine k_if hs (fun c3 hs => ?_) (fun c3 hs => ?_)
  · refine e_izJ cd_25_119 rfl c3 ?_
    exact tie_mo_bounds_139  d   q1.2 so _  hs
  · refine e_izN cd_25_119 rfl c3 ?_
    refine e_aldn cd_25_122 g0 ?_
    refine e_bip cd_25_123 cb_125 ?_
    obtain ⟨q4, h5, hs⟩ := k_bind hs
    refine e_cvi cd_25_125 kd_25_171 rfl rfl rfl rfl rfl nl_12 rfl rfl (tie_mo_takes d t0 125 q1.2 _ h5) ?_
    refine k_if hs (fun c6 hs => ?_) (fun c6 hs => ?_)
    · refine e_izN cd_25_128 rfl (fun q => q c6) ?_
      refine e_aldn cd_25_131 g0 ?_
      refine e_aldn cd_25_132 g0 ?_
      refine e_getI cd_25_133 (Or.inl fd_25_128) rfl ?_
      obtain ⟨q7, h8, hs⟩ := k_bind hs
      refine e_cvi cd_25_136 kd_25_181 rfl rfl rfl rfl rfl nl_10 rfl rfl (tie_mo_fails d t0 (zm_I q4.2 12 t0 3) q4.2 _ h8) ?_
      exact tie_mo_bounds_139  d   q7 so _  hs
    · refine e_izJ cd_25_128 rfl c6 ?_
      exact tie_mo_bounds_139  d   q4.2 so _  hs
set_option maxRecDepth 100000 in
theorem tieb_mo_bounds  (d : Nat)  (a0 : Nat) (a1 : Int32) (M : zM) (so : zM) (hs : mo_bounds_b  d a0 a1 M = some so) : Ev zq_T (d + 1) 25 0 (zl_args 0 [.inr (.inr (12, some a0)), .inl a1]) [] M (none, so) := by
  unfold mo_bounds_b at hs
  have g0 : zl_get (zl_args 0 [.inr (.inr (12, some a0)), .inl a1]) 0 = some (.inr (.inr (12, (some a0)))) := rfl
  have g1 : zl_get (zl_args 0 [.inr (.inr (12, some a0)), .inl a1]) 1 = some (.inl a1) := rfl
  refine e_aldn cd_25_0 g0 ?_
  refine e_const cd_25_1 ci_0 ?_
  obtain ⟨q1, h2, hs⟩ := k_bind hs
  refine e_cvi cd_25_2 kd_25_208 rfl rfl rfl rfl rfl nl_24 rfl rfl (tie_mo_number d a0 0 M _ h2) ?_
  refine e_iKn cd_25_5 nl_25 rfl rfl ?_
  intro _ gn kp
  have u3 := kp 0 _ g0 rfl rfl
  have u4 := kp 1 _ g1 rfl rfl
  have u5 := gn
  refine e_aldn cd_25_6 u3 ?_
  obtain ⟨q6, h7, hs⟩ := k_bind hs
  refine e_cvi cd_25_7 kd_25_160 rfl rfl rfl rfl rfl nl_11 rfl rfl (tie_mo_fine d a0 q1.2 _ h7) ?_
  refine k_if hs (fun c8 hs => ?_) (fun c8 hs => ?_)
  · refine e_izN cd_25_10 rfl (fun q => q c8) ?_
    have e := Option.some.inj hs
    subst e
    exact e_rv cd_25_13 nr_25
  · refine e_izJ cd_25_10 rfl c8 ?_
    refine e_aldn cd_25_14 u3 ?_
    refine e_getR cd_25_15 fd_25_29 rfl ?_
    refine e_ildn cd_25_18 u4 ?_
    refine e_ildn cd_25_19 u5 ?_
    refine k_opt hs (fun _ q => nomatch q) (fun k9 h10 hs => ?_)
    obtain ⟨c11, hs⟩ := z_ite hs
    refine k_let hs (fun M12 e13 hs => ?_)
    refine e_iast cd_25_20 rfl h10 c11 e13 ?_
    refine e_aldn cd_25_21 u3 ?_
    refine e_getR cd_25_22 fd_25_29 rfl ?_
    refine e_ildn cd_25_25 u4 ?_
    refine e_const cd_25_26 ci_1 ?_
    refine e_pure cd_25_27 rfl ?_
    refine e_ildn cd_25_28 u5 ?_
    refine k_opt hs (fun _ q => nomatch q) (fun k14 h15 hs => ?_)
    obtain ⟨c16, hs⟩ := z_ite hs
    refine k_let hs (fun M17 e18 hs => ?_)
    refine e_iast cd_25_29 rfl h15 c16 e18 ?_
    refine e_aldn cd_25_30 u3 ?_
    obtain ⟨q19, h20, hs⟩ := k_bind hs
    refine e_cvi cd_25_31 kd_25_138 rfl rfl rfl rfl rfl nl_9 rfl rfl (tie_mo_look d a0 M17 _ h20) ?_
    refine e_bip cd_25_34 cb_125 ?_
    refine k_if hs (fun c21 hs => ?_) (fun c21 hs => ?_)
    · refine e_icN cd_25_36 rfl (fun q => q c21) ?_
      refine e_ildn cd_25_39 u5 ?_
      refine k_if hs (fun c22 hs => ?_) (fun c22 hs => ?_)
      · refine e_izN cd_25_40 rfl (fun q => q c22) ?_
        refine e_aldn cd_25_43 u3 ?_
        refine e_aldn cd_25_44 u3 ?_
        refine e_getI cd_25_45 (Or.inl fd_25_128) rfl ?_
        obtain ⟨q23, h24, hs⟩ := k_bind hs
        refine e_cvi cd_25_48 kd_25_181 rfl rfl rfl rfl rfl nl_10 rfl rfl (tie_mo_fails d a0 (zm_I q19.2 12 a0 3) q19.2 _ h24) ?_
        exact tie_mo_bounds_51  d  a0 q23 so _ u3 hs
      · refine e_izJ cd_25_40 rfl c22 ?_
        exact tie_mo_bounds_51  d  a0 q19.2 so _ u3 hs
    · refine e_icJ cd_25_36 rfl c21 ?_
      refine e_aldn cd_25_62 u3 ?_
      refine e_bip cd_25_63 cb_44 ?_
      obtain ⟨q25, h26, hs⟩ := k_bind hs
      refine e_cvi cd_25_65 kd_25_171 rfl rfl rfl rfl rfl nl_12 rfl rfl (tie_mo_takes d a0 44 q19.2 _ h26) ?_
      refine k_if hs (fun c27 hs => ?_) (fun c27 hs => ?_)
      · refine e_izN cd_25_68 rfl (fun q => q c27) ?_
        refine e_aldn cd_25_71 u3 ?_
        refine e_aldn cd_25_72 u3 ?_
        refine e_getI cd_25_73 (Or.inl fd_25_128) rfl ?_
        obtain ⟨q28, h29, hs⟩ := k_bind hs
        refine e_cvi cd_25_76 kd_25_181 rfl rfl rfl rfl rfl nl_10 rfl rfl (tie_mo_fails d a0 (zm_I q25.2 12 a0 3) q25.2 _ h29) ?_
        have e := Option.some.inj hs
        subst e
        exact e_rv cd_25_79 nr_25
      · refine e_izJ cd_25_68 rfl c27 ?_
        refine e_aldn cd_25_80 u3 ?_
        refine e_getR cd_25_81 fd_25_29 rfl ?_
        refine e_ildn cd_25_84 u4 ?_
        refine e_const cd_25_85 ci_1 ?_
        refine e_pure cd_25_86 rfl ?_
        refine e_const cd_25_87 ci_m1 ?_
        refine k_opt hs (fun _ q => nomatch q) (fun k30 h31 hs => ?_)
        obtain ⟨c32, hs⟩ := z_ite hs
        refine k_let hs (fun M33 e34 hs => ?_)
        refine e_iast cd_25_88 rfl h31 c32 e34 ?_
        refine e_aldn cd_25_89 u3 ?_
        obtain ⟨q35, h36, hs⟩ := k_bind hs
        refine e_cvi cd_25_90 kd_25_138 rfl rfl rfl rfl rfl nl_9 rfl rfl (tie_mo_look d a0 M33 _ h36) ?_
        refine e_bip cd_25_93 cb_125 ?_
        refine k_if hs (fun c37 hs => ?_) (fun c37 hs => ?_)
        · refine e_icJ cd_25_95 rfl c37 ?_
          exact tie_mo_bounds_115  d  a0 q35.2 so _ u3 hs
        · refine e_icN cd_25_95 rfl c37 ?_
          refine e_aldn cd_25_98 u3 ?_
          refine e_getR cd_25_99 fd_25_29 rfl ?_
          refine e_ildn cd_25_102 u4 ?_
          refine e_const cd_25_103 ci_1 ?_
          refine e_pure cd_25_104 rfl ?_
          refine e_aldn cd_25_105 u3 ?_
          refine e_const cd_25_106 ci_1 ?_
          refine e_ildn cd_25_107 u5 ?_
          refine e_max cd_25_108 kd_25_144 rfl ?_
          obtain ⟨q38, h39, hs⟩ := k_bind hs
          refine e_cvi cd_25_111 kd_25_208 rfl rfl rfl rfl rfl nl_24 rfl rfl (tie_mo_number d a0 (if 1 < q1.1 then q1.1 else 1) q35.2 _ h39) ?_
          refine k_opt hs (fun _ q => nomatch q) (fun k40 h41 hs => ?_)
          obtain ⟨c42, hs⟩ := z_ite hs
          refine k_let hs (fun M43 e44 hs => ?_)
          refine e_iast cd_25_114 rfl h41 c42 e44 ?_
          exact tie_mo_bounds_115  d  a0 M43 so _ u3 hs
theorem tie_mo_bounds (d : Nat) (a0 : Nat) (a1 : Int32) (M : zM) (so : zM) (hs : mo_bounds d a0 a1 M = some so) : Ev zq_T d 25 0 (zl_args 0 [.inr (.inr (12, some a0)), .inl a1]) [] M (none, so) := by
  cases d with
  | zero => exact nomatch hs
  | succ d => exact tieb_mo_bounds d a0 a1 M so hs
theorem tie_mo_joined_38 (r_mo_joined : Nat → Int32 → Int32 → Int32 → zM → Option (Int32 × zM)) (r_mo_pattern : Nat → Int32 → zM → Option (Int32 × zM)) (r_mo_atom : Nat → Int32 → zM → Option (Int32 × zM)) (r_mo_anyOf : Nat → Int32 → zM → Option (Int32 × zM)) (r_mo_unit : Nat → Int32 → zM → Option (Int32 × zM)) (d : Nat) (hr_mo_joined : ∀ a0 a1 a2 a3 M so, r_mo_joined a0 a1 a2 a3 M = some so → Ev zq_T d 19 0 (zl_args 0 [.inr (.inr (12, some a0)), .inl a1, .inl a2, .inl a3]) [] M (some (.inl so.1), so.2)) (hr_mo_pattern : ∀ a0 a1 M so, r_mo_pattern a0 a1 M = some so → Ev zq_T d 20 0 (zl_args 0 [.inr (.inr (12, some a0)), .inl a1]) [] M (some (.inl so.1), so.2)) (hr_mo_atom : ∀ a0 a1 M so, r_mo_atom a0 a1 M = some so → Ev zq_T d 21 0 (zl_args 0 [.inr (.inr (12, some a0)), .inl a1]) [] M (some (.inl so.1), so.2)) (hr_mo_anyOf : ∀ a0 a1 M so, r_mo_anyOf a0 a1 M = some so → Ev zq_T d 22 0 (zl_args 0 [.inr (.inr (12, some a0)), .inl a1]) [] M (some (.inl so.1), so.2)) (hr_mo_unit : ∀ a0 a1 M so, r_mo_unit a0 a1 M = some so → Ev zq_T d 23 0 (zl_args 0 [.inr (.inr (12, some a0)), .inl a1]) [] M (some (.inl so.1), so.2)) (v4 : Int32) (M : zM) (so : Int32 × zM) (ls : List (Nat × zV)) (g4 : zl_get ls 4 = some (.inl v4)) (hs : mo_joined_38 r_mo_joined r_mo_pattern r_mo_atom r_mo_anyOf r_mo_unit d v4 M = some so) : Ev zq_T (d + 1) 19 38 ls [] M (some (.inl so.1), so.2) := by
  unfold mo_joined_38 at hs
  refine e_ild cd_19_38 g4 ?_
  have e := Option.some.inj hs
  subst e
  exact e_ri cd_19_40 nr_19
theorem tie_mo_joined_110 (r_mo_joined : Nat → Int32 → Int32 → Int32 → zM → Option (Int32 × zM)) (r_mo_pattern : Nat → Int32 → zM → Option (Int32 × zM)) (r_mo_atom : Nat → Int32 → zM → Option (Int32 × zM)) (r_mo_anyOf : Nat → Int32 → zM → Option (Int32 × zM)) (r_mo_unit : Nat → Int32 → zM → Option (Int32 × zM)) (kl57 : Nat → Int32 → Int32 → Int32 → Int32 → zM → Option (Int32 × zM)) (d : Nat) (hr_mo_joined : ∀ a0 a1 a2 a3 M so, r_mo_joined a0 a1 a2 a3 M = some so → Ev zq_T d 19 0 (zl_args 0 [.inr (.inr (12, some a0)), .inl a1, .inl a2, .inl a3]) [] M (some (.inl so.1), so.2)) (hr_mo_pattern : ∀ a0 a1 M so, r_mo_pattern a0 a1 M = some so → Ev zq_T d 20 0 (zl_args 0 [.inr (.inr (12, some a0)), .inl a1]) [] M (some (.inl so.1), so.2)) (hr_mo_atom : ∀ a0 a1 M so, r_mo_atom a0 a1 M = some so → Ev zq_T d 21 0 (zl_args 0 [.inr (.inr (12, some a0)), .inl a1]) [] M (some (.inl so.1), so.2)) (hr_mo_anyOf : ∀ a0 a1 M so, r_mo_anyOf a0 a1 M = some so → Ev zq_T d 22 0 (zl_args 0 [.inr (.inr (12, some a0)), .inl a1]) [] M (some (.inl so.1), so.2)) (hr_mo_unit : ∀ a0 a1 M so, r_mo_unit a0 a1 M = some so → Ev zq_T d 23 0 (zl_args 0 [.inr (.inr (12, some a0)), .inl a1]) [] M (some (.inl so.1), so.2)) (hk57 : ∀ (t0 : Nat) (v1 : Int32) (v2 : Int32) (v3 : Int32) (v5 : Int32) (M : zM) (so : Int32 × zM) (ls : List (Nat × zV)), zl_get ls 0 = some (.inr (.inr (12, (some t0)))) → zl_get ls 1 = some (.inl v1) → zl_get ls 2 = some (.inl v2) → zl_get ls 3 = some (.inl v3) → zl_get ls 5 = some (.inl v5) → kl57 t0 v1 v2 v3 v5 M = some so → Ev zq_T (d + 1) 19 57 ls [] M (some (.inl so.1), so.2)) (t0 : Nat) (v1 : Int32) (v2 : Int32) (v3 : Int32) (v5 : Int32) (M : zM) (so : Int32 × zM) (ls : List (Nat × zV)) (g0 : zl_get ls 0 = some (.inr (.inr (12, (some t0))))) (g1 : zl_get ls 1 = some (.inl v1)) (g2 : zl_get ls 2 = some (.inl v2)) (g3 : zl_get ls 3 = some (.inl v3)) (g5 : zl_get ls 5 = some (.inl v5)) (hs : mo_joined_110 r_mo_joined r_mo_pattern r_mo_atom r_mo_anyOf r_mo_unit kl57 d t0 v1 v2 v3 v5 M = some so) : Ev zq_T (d + 1) 19 110 ls [] M (some (.inl so.1), so.2) := by
  unfold mo_joined_110 at hs
  refine e_goto cd_19_110 rfl ?_
  exact hk57 t0 v1 v2 v3 v5 M so _ g0 g1 g2 g3 g5 hs
theorem tie_mo_joined_93 (r_mo_joined : Nat → Int32 → Int32 → Int32 → zM → Option (Int32 × zM)) (r_mo_pattern : Nat → Int32 → zM → Option (Int32 × zM)) (r_mo_atom : Nat → Int32 → zM → Option (Int32 × zM)) (r_mo_anyOf : Nat → Int32 → zM → Option (Int32 × zM)) (r_mo_unit : Nat → Int32 → zM → Option (Int32 × zM)) (kl57 : Nat → Int32 → Int32 → Int32 → Int32 → zM → Option (Int32 × zM)) (d : Nat) (hr_mo_joined : ∀ a0 a1 a2 a3 M so, r_mo_joined a0 a1 a2 a3 M = some so → Ev zq_T d 19 0 (zl_args 0 [.inr (.inr (12, some a0)), .inl a1, .inl a2, .inl a3]) [] M (some (.inl so.1), so.2)) (hr_mo_pattern : ∀ a0 a1 M so, r_mo_pattern a0 a1 M = some so → Ev zq_T d 20 0 (zl_args 0 [.inr (.inr (12, some a0)), .inl a1]) [] M (some (.inl so.1), so.2)) (hr_mo_atom : ∀ a0 a1 M so, r_mo_atom a0 a1 M = some so → Ev zq_T d 21 0 (zl_args 0 [.inr (.inr (12, some a0)), .inl a1]) [] M (some (.inl so.1), so.2)) (hr_mo_anyOf : ∀ a0 a1 M so, r_mo_anyOf a0 a1 M = some so → Ev zq_T d 22 0 (zl_args 0 [.inr (.inr (12, some a0)), .inl a1]) [] M (some (.inl so.1), so.2)) (hr_mo_unit : ∀ a0 a1 M so, r_mo_unit a0 a1 M = some so → Ev zq_T d 23 0 (zl_args 0 [.inr (.inr (12, some a0)), .inl a1]) [] M (some (.inl so.1), so.2)) (hk57 : ∀ (t0 : Nat) (v1 : Int32) (v2 : Int32) (v3 : Int32) (v5 : Int32) (M : zM) (so : Int32 × zM) (ls : List (Nat × zV)), zl_get ls 0 = some (.inr (.inr (12, (some t0)))) → zl_get ls 1 = some (.inl v1) → zl_get ls 2 = some (.inl v2) → zl_get ls 3 = some (.inl v3) → zl_get ls 5 = some (.inl v5) → kl57 t0 v1 v2 v3 v5 M = some so → Ev zq_T (d + 1) 19 57 ls [] M (some (.inl so.1), so.2)) (t0 : Nat) (v1 : Int32) (v2 : Int32) (v3 : Int32) (v5 : Int32) (s0 : Int32) (M : zM) (so : Int32 × zM) (ls : List (Nat × zV)) (g0 : zl_get ls 0 = some (.inr (.inr (12, (some t0))))) (g1 : zl_get ls 1 = some (.inl v1)) (g2 : zl_get ls 2 = some (.inl v2)) (g3 : zl_get ls 3 = some (.inl v3)) (g5 : zl_get ls 5 = some (.inl v5)) (hs : mo_joined_93 r_mo_joined r_mo_pattern r_mo_atom r_mo_anyOf r_mo_unit kl57 d t0 v1 v2 v3 v5 s0 M = some so) : Ev zq_T (d + 1) 19 93 ls [.inl s0] M (some (.inl so.1), so.2) := by
  unfold mo_joined_93 at hs
  refine e_iK cd_19_93 nl_19 rfl rfl ?_
  intro _ gn kp
  have u1 := kp 0 _ g0 rfl rfl
  have u2 := kp 1 _ g1 rfl rfl
  have u3 := kp 2 _ g2 rfl rfl
  have u4 := kp 3 _ g3 rfl rfl
  have u5 := kp 5 _ g5 rfl rfl
  have u6 := gn
  refine e_aldn cd_19_95 u1 ?_
  obtain ⟨q7, h8, hs⟩ := k_bind hs
  refine e_cvi cd_19_96 kd_19_160 rfl rfl rfl rfl rfl nl_11 rfl rfl (tie_mo_fine d t0 M _ h8) ?_
  refine k_if hs (fun c9 hs => ?_) (fun c9 hs => ?_)
  · refine e_izJ cd_19_99 rfl c9 ?_
    exact tie_mo_joined_110 r_mo_joined r_mo_pattern r_mo_atom r_mo_anyOf r_mo_unit kl57 d hr_mo_joined hr_mo_pattern hr_mo_atom hr_mo_anyOf hr_mo_unit hk57 t0 v1 v2 v3 v5 q7.2 so _ u1 u2 u3 u4 u5 hs
  · refine e_izN cd_19_99 rfl c9 ?_
    refine e_aldn cd_19_102 u1 ?_
    refine e_ild cd_19_103 u5 ?_
    refine e_ild cd_19_105 u6 ?_
    obtain ⟨q10, h11, hs⟩ := k_bind hs
    refine e_cvi cd_19_107 kd_19_167 rfl rfl rfl rfl rfl nl_16 rfl rfl (tie_mo_puts d t0 v5 s0 q7.2 _ h11) ?_
    exact tie_mo_joined_110 r_mo_joined r_mo_pattern r_mo_atom r_mo_anyOf r_mo_unit kl57 d hr_mo_joined hr_mo_pattern hr_mo_atom hr_mo_anyOf hr_mo_unit hk57 t0 v1 v2 v3 v5 q10 so _ u1 u2 u3 u4 u5 hs
theorem tie_mo_joined_113 (r_mo_joined : Nat → Int32 → Int32 → Int32 → zM → Option (Int32 × zM)) (r_mo_pattern : Nat → Int32 → zM → Option (Int32 × zM)) (r_mo_atom : Nat → Int32 → zM → Option (Int32 × zM)) (r_mo_anyOf : Nat → Int32 → zM → Option (Int32 × zM)) (r_mo_unit : Nat → Int32 → zM → Option (Int32 × zM)) (d : Nat) (hr_mo_joined : ∀ a0 a1 a2 a3 M so, r_mo_joined a0 a1 a2 a3 M = some so → Ev zq_T d 19 0 (zl_args 0 [.inr (.inr (12, some a0)), .inl a1, .inl a2, .inl a3]) [] M (some (.inl so.1), so.2)) (hr_mo_pattern : ∀ a0 a1 M so, r_mo_pattern a0 a1 M = some so → Ev zq_T d 20 0 (zl_args 0 [.inr (.inr (12, some a0)), .inl a1]) [] M (some (.inl so.1), so.2)) (hr_mo_atom : ∀ a0 a1 M so, r_mo_atom a0 a1 M = some so → Ev zq_T d 21 0 (zl_args 0 [.inr (.inr (12, some a0)), .inl a1]) [] M (some (.inl so.1), so.2)) (hr_mo_anyOf : ∀ a0 a1 M so, r_mo_anyOf a0 a1 M = some so → Ev zq_T d 22 0 (zl_args 0 [.inr (.inr (12, some a0)), .inl a1]) [] M (some (.inl so.1), so.2)) (hr_mo_unit : ∀ a0 a1 M so, r_mo_unit a0 a1 M = some so → Ev zq_T d 23 0 (zl_args 0 [.inr (.inr (12, some a0)), .inl a1]) [] M (some (.inl so.1), so.2)) (v5 : Int32) (M : zM) (so : Int32 × zM) (ls : List (Nat × zV)) (g5 : zl_get ls 5 = some (.inl v5)) (hs : mo_joined_113 r_mo_joined r_mo_pattern r_mo_atom r_mo_anyOf r_mo_unit d v5 M = some so) : Ev zq_T (d + 1) 19 113 ls [] M (some (.inl so.1), so.2) := by
  unfold mo_joined_113 at hs
  refine e_ild cd_19_113 g5 ?_
  have e := Option.some.inj hs
  subst e
  exact e_ri cd_19_115 nr_19
theorem tie_mo_joined_57 (r_mo_joined : Nat → Int32 → Int32 → Int32 → zM → Option (Int32 × zM)) (r_mo_pattern : Nat → Int32 → zM → Option (Int32 × zM)) (r_mo_atom : Nat → Int32 → zM → Option (Int32 × zM)) (r_mo_anyOf : Nat → Int32 → zM → Option (Int32 × zM)) (r_mo_unit : Nat → Int32 → zM → Option (Int32 × zM)) (d : Nat) (hr_mo_joined : ∀ a0 a1 a2 a3 M so, r_mo_joined a0 a1 a2 a3 M = some so → Ev zq_T d 19 0 (zl_args 0 [.inr (.inr (12, some a0)), .inl a1, .inl a2, .inl a3]) [] M (some (.inl so.1), so.2)) (hr_mo_pattern : ∀ a0 a1 M so, r_mo_pattern a0 a1 M = some so → Ev zq_T d 20 0 (zl_args 0 [.inr (.inr (12, some a0)), .inl a1]) [] M (some (.inl so.1), so.2)) (hr_mo_atom : ∀ a0 a1 M so, r_mo_atom a0 a1 M = some so → Ev zq_T d 21 0 (zl_args 0 [.inr (.inr (12, some a0)), .inl a1]) [] M (some (.inl so.1), so.2)) (hr_mo_anyOf : ∀ a0 a1 M so, r_mo_anyOf a0 a1 M = some so → Ev zq_T d 22 0 (zl_args 0 [.inr (.inr (12, some a0)), .inl a1]) [] M (some (.inl so.1), so.2)) (hr_mo_unit : ∀ a0 a1 M so, r_mo_unit a0 a1 M = some so → Ev zq_T d 23 0 (zl_args 0 [.inr (.inr (12, some a0)), .inl a1]) [] M (some (.inl so.1), so.2)) : ∀ (fuel : Nat) (t0 : Nat) (v1 : Int32) (v2 : Int32) (v3 : Int32) (v5 : Int32) (M : zM) (so : Int32 × zM) (ls : List (Nat × zV)), zl_get ls 0 = some (.inr (.inr (12, (some t0)))) → zl_get ls 1 = some (.inl v1) → zl_get ls 2 = some (.inl v2) → zl_get ls 3 = some (.inl v3) → zl_get ls 5 = some (.inl v5) → mo_joined_57 r_mo_joined r_mo_pattern r_mo_atom r_mo_anyOf r_mo_unit d fuel t0 v1 v2 v3 v5 M = some so → Ev zq_T (d + 1) 19 57 ls [] M (some (.inl so.1), so.2) := by
  intro fuel
  induction fuel with
  | zero => intro t0 v1 v2 v3 v5 M so ls g0 g1 g2 g3 g5 hs; exact nomatch hs
  | succ fuel ih =>
    intro t0 v1 v2 v3 v5 M so ls g0 g1 g2 g3 g5 hs
    unfold mo_joined_57 at hs
    refine e_aldn cd_19_57 g0 ?_
    obtain ⟨q1, h2, hs⟩ := k_bind hs
    refine e_cvi cd_19_58 kd_19_160 rfl rfl rfl rfl rfl nl_11 rfl rfl (tie_mo_fine d t0 M _ h2) ?_
    refine k_if hs (fun c3 hs => ?_) (fun c3 hs => ?_)
    · refine e_izJ cd_19_61 rfl c3 ?_
      exact tie_mo_joined_113 r_mo_joined r_mo_pattern r_mo_atom r_mo_anyOf r_mo_unit d hr_mo_joined hr_mo_pattern hr_mo_atom hr_mo_anyOf hr_mo_unit v5 q1.2 so _ g5 hs
    · refine e_izN cd_19_61 rfl c3 ?_
      refine e_aldn cd_19_64 g0 ?_
      refine e_ildn cd_19_65 g2 ?_
      obtain ⟨q4, h5, hs⟩ := k_bind hs
      refine e_cvi cd_19_66 kd_19_171 rfl rfl rfl rfl rfl nl_12 rfl rfl (tie_mo_takes d t0 v2 q1.2 _ h5) ?_
      refine k_if hs (fun c6 hs => ?_) (fun c6 hs => ?_)
      · refine e_izJ cd_19_69 rfl c6 ?_
        exact tie_mo_joined_113 r_mo_joined r_mo_pattern r_mo_atom r_mo_anyOf r_mo_unit d hr_mo_joined hr_mo_pattern hr_mo_atom hr_mo_anyOf hr_mo_unit v5 q4.2 so _ g5 hs
      · refine e_izN cd_19_69 rfl c6 ?_
        refine e_ildn cd_19_72 g1 ?_
        refine e_const cd_19_73 ci_3 ?_
        refine k_if hs (fun c7 hs => ?_) (fun c7 hs => ?_)
        · refine e_icN cd_19_74 rfl (fun q => q c7) ?_
          refine e_aldn cd_19_77 g0 ?_
          refine e_const cd_19_78 ci_2 ?_
          refine e_bip cd_19_79 cb_44 ?_
          refine e_ildn cd_19_81 g3 ?_
          obtain ⟨q8, h9, hs⟩ := k_bind hs
          refine e_cvi cd_19_82 kd_19_153 rfl rfl rfl rfl rfl nl_19 rfl rfl (hr_mo_joined t0 2 44 v3 q4.2 _ h9) ?_
          refine e_goto cd_19_85 rfl ?_
          exact tie_mo_joined_93 r_mo_joined r_mo_pattern r_mo_atom r_mo_anyOf r_mo_unit (fun p0 p1 p2 p3 p4 m => mo_joined_57 r_mo_joined r_mo_pattern r_mo_atom r_mo_anyOf r_mo_unit d fuel p0 p1 p2 p3 p4 m) d hr_mo_joined hr_mo_pattern hr_mo_atom hr_mo_anyOf hr_mo_unit ih t0 v1 v2 v3 v5 q8.1 q8.2 so _ g0 g1 g2 g3 g5 hs
        · refine e_icJ cd_19_74 rfl c7 ?_
          refine e_aldn cd_19_88 g0 ?_
          refine e_ildn cd_19_89 g3 ?_
          obtain ⟨q10, h11, hs⟩ := k_bind hs
          refine e_cvi cd_19_90 kd_19_157 rfl rfl rfl rfl rfl nl_23 rfl rfl (hr_mo_unit t0 v3 q4.2 _ h11) ?_
          exact tie_mo_joined_93 r_mo_joined r_mo_pattern r_mo_atom r_mo_anyOf r_mo_unit (fun p0 p1 p2 p3 p4 m => mo_joined_57 r_mo_joined r_mo_pattern r_mo_atom r_mo_anyOf r_mo_unit d fuel p0 p1 p2 p3 p4 m) d hr_mo_joined hr_mo_pattern hr_mo_atom hr_mo_anyOf hr_mo_unit ih t0 v1 v2 v3 v5 q10.1 q10.2 so _ g0 g1 g2 g3 g5 hs
theorem tie_mo_joined_21 (r_mo_joined : Nat → Int32 → Int32 → Int32 → zM → Option (Int32 × zM)) (r_mo_pattern : Nat → Int32 → zM → Option (Int32 × zM)) (r_mo_atom : Nat → Int32 → zM → Option (Int32 × zM)) (r_mo_anyOf : Nat → Int32 → zM → Option (Int32 × zM)) (r_mo_unit : Nat → Int32 → zM → Option (Int32 × zM)) (d : Nat) (hr_mo_joined : ∀ a0 a1 a2 a3 M so, r_mo_joined a0 a1 a2 a3 M = some so → Ev zq_T d 19 0 (zl_args 0 [.inr (.inr (12, some a0)), .inl a1, .inl a2, .inl a3]) [] M (some (.inl so.1), so.2)) (hr_mo_pattern : ∀ a0 a1 M so, r_mo_pattern a0 a1 M = some so → Ev zq_T d 20 0 (zl_args 0 [.inr (.inr (12, some a0)), .inl a1]) [] M (some (.inl so.1), so.2)) (hr_mo_atom : ∀ a0 a1 M so, r_mo_atom a0 a1 M = some so → Ev zq_T d 21 0 (zl_args 0 [.inr (.inr (12, some a0)), .inl a1]) [] M (some (.inl so.1), so.2)) (hr_mo_anyOf : ∀ a0 a1 M so, r_mo_anyOf a0 a1 M = some so → Ev zq_T d 22 0 (zl_args 0 [.inr (.inr (12, some a0)), .inl a1]) [] M (some (.inl so.1), so.2)) (hr_mo_unit : ∀ a0 a1 M so, r_mo_unit a0 a1 M = some so → Ev zq_T d 23 0 (zl_args 0 [.inr (.inr (12, some a0)), .inl a1]) [] M (some (.inl so.1), so.2)) (t0 : Nat) (v1 : Int32) (v2 : Int32) (v3 : Int32) (s0 : Int32) (M : zM) (so : Int32 × zM) (ls : List (Nat × zV)) (g0 : zl_get ls 0 = some (.inr (.inr (12, (some t0))))) (g1 : zl_get ls 1 = some (.inl v1)) (g2 : zl_get ls 2 = some (.inl v2)) (g3 : zl_get ls 3 = some (.inl v3)) (hs : mo_joined_21 r_mo_joined r_mo_pattern r_mo_atom r_mo_anyOf r_mo_unit d t0 v1 v2 v3 s0 M = some so) : Ev zq_T (d + 1) 19 21 ls [.inl s0] M (some (.inl so.1), so.2) := by
  unfold mo_joined_21 at hs
  refine e_iK cd_19_21 nl_19 rfl rfl ?_
  intro _ gn kp
  have u1 := kp 0 _ g0 rfl rfl
  have u2 := kp 1 _ g1 rfl rfl
  have u3 := kp 2 _ g2 rfl rfl
  have u4 := kp 3 _ g3 rfl rfl
  have u5 := gn
  refine e_aldn cd_19_23 u1 ?_
  obtain ⟨q6, h7, hs⟩ := k_bind hs
  refine e_cvi cd_19_24 kd_19_160 rfl rfl rfl rfl rfl nl_11 rfl rfl (tie_mo_fine d t0 M _ h7) ?_
  refine k_if hs (fun c8 hs => ?_) (fun c8 hs => ?_)
  · refine e_izJ cd_19_27 rfl c8 ?_
    exact tie_mo_joined_38 r_mo_joined r_mo_pattern r_mo_atom r_mo_anyOf r_mo_unit d hr_mo_joined hr_mo_pattern hr_mo_atom hr_mo_anyOf hr_mo_unit s0 q6.2 so _ u5 hs
  · refine e_izN cd_19_27 rfl c8 ?_
    refine e_aldn cd_19_30 u1 ?_
    obtain ⟨q9, h10, hs⟩ := k_bind hs
    refine e_cvi cd_19_31 kd_19_138 rfl rfl rfl rfl rfl nl_9 rfl rfl (tie_mo_look d t0 q6.2 _ h10) ?_
    refine e_ildn cd_19_34 u3 ?_
    refine k_if hs (fun c11 hs => ?_) (fun c11 hs => ?_)
    · refine e_icJ cd_19_35 rfl c11 ?_
      refine e_aldn cd_19_41 u1 ?_
      refine e_ildn cd_19_42 u2 ?_
      refine e_const cd_19_43 ci_0 ?_
      obtain ⟨q12, h13, hs⟩ := k_bind hs
      refine e_cvi cd_19_44 kd_19_164 rfl rfl rfl rfl rfl nl_15 rfl rfl (tie_mo_opens d t0 v1 0 q9.2 _ h13) ?_
      refine e_iK cd_19_47 nl_19 rfl rfl ?_
      intro _ gn kp
      have u14 := kp 0 _ u1 rfl rfl
      have u15 := kp 1 _ u2 rfl rfl
      have u16 := kp 2 _ u3 rfl rfl
      have u17 := kp 3 _ u4 rfl rfl
      have u18 := kp 4 _ u5 rfl rfl
      have u19 := gn
      refine e_aldn cd_19_49 u14 ?_
      refine e_ild cd_19_50 u19 ?_
      refine e_ild cd_19_52 u18 ?_
      obtain ⟨q20, h21, hs⟩ := k_bind hs
      refine e_cvi cd_19_54 kd_19_167 rfl rfl rfl rfl rfl nl_16 rfl rfl (tie_mo_puts d t0 q12.1 s0 q12.2 _ h21) ?_
      exact tie_mo_joined_57 r_mo_joined r_mo_pattern r_mo_atom r_mo_anyOf r_mo_unit d hr_mo_joined hr_mo_pattern hr_mo_atom hr_mo_anyOf hr_mo_unit zLF t0 v1 v2 v3 q12.1 q20 so _ u14 u15 u16 u17 u19 hs
    · refine e_icN cd_19_35 rfl c11 ?_
      exact tie_mo_joined_38 r_mo_joined r_mo_pattern r_mo_atom r_mo_anyOf r_mo_unit d hr_mo_joined hr_mo_pattern hr_mo_atom hr_mo_anyOf hr_mo_unit s0 q9.2 so _ u5 hs
theorem tieb_mo_joined (r_mo_joined : Nat → Int32 → Int32 → Int32 → zM → Option (Int32 × zM)) (r_mo_pattern : Nat → Int32 → zM → Option (Int32 × zM)) (r_mo_atom : Nat → Int32 → zM → Option (Int32 × zM)) (r_mo_anyOf : Nat → Int32 → zM → Option (Int32 × zM)) (r_mo_unit : Nat → Int32 → zM → Option (Int32 × zM)) (d : Nat) (hr_mo_joined : ∀ a0 a1 a2 a3 M so, r_mo_joined a0 a1 a2 a3 M = some so → Ev zq_T d 19 0 (zl_args 0 [.inr (.inr (12, some a0)), .inl a1, .inl a2, .inl a3]) [] M (some (.inl so.1), so.2)) (hr_mo_pattern : ∀ a0 a1 M so, r_mo_pattern a0 a1 M = some so → Ev zq_T d 20 0 (zl_args 0 [.inr (.inr (12, some a0)), .inl a1]) [] M (some (.inl so.1), so.2)) (hr_mo_atom : ∀ a0 a1 M so, r_mo_atom a0 a1 M = some so → Ev zq_T d 21 0 (zl_args 0 [.inr (.inr (12, some a0)), .inl a1]) [] M (some (.inl so.1), so.2)) (hr_mo_anyOf : ∀ a0 a1 M so, r_mo_anyOf a0 a1 M = some so → Ev zq_T d 22 0 (zl_args 0 [.inr (.inr (12, some a0)), .inl a1]) [] M (some (.inl so.1), so.2)) (hr_mo_unit : ∀ a0 a1 M so, r_mo_unit a0 a1 M = some so → Ev zq_T d 23 0 (zl_args 0 [.inr (.inr (12, some a0)), .inl a1]) [] M (some (.inl so.1), so.2)) (a0 : Nat) (a1 : Int32) (a2 : Int32) (a3 : Int32) (M : zM) (so : Int32 × zM) (hs : mo_joined_b r_mo_joined r_mo_pattern r_mo_atom r_mo_anyOf r_mo_unit d a0 a1 a2 a3 M = some so) : Ev zq_T (d + 1) 19 0 (zl_args 0 [.inr (.inr (12, some a0)), .inl a1, .inl a2, .inl a3]) [] M (some (.inl so.1), so.2) := by
  unfold mo_joined_b at hs
  have g0 : zl_get (zl_args 0 [.inr (.inr (12, some a0)), .inl a1, .inl a2, .inl a3]) 0 = some (.inr (.inr (12, (some a0)))) := rfl
  have g1 : zl_get (zl_args 0 [.inr (.inr (12, some a0)), .inl a1, .inl a2, .inl a3]) 1 = some (.inl a1) := rfl
  have g2 : zl_get (zl_args 0 [.inr (.inr (12, some a0)), .inl a1, .inl a2, .inl a3]) 2 = some (.inl a2) := rfl
  have g3 : zl_get (zl_args 0 [.inr (.inr (12, some a0)), .inl a1, .inl a2, .inl a3]) 3 = some (.inl a3) := rfl
  refine e_ildn cd_19_0 g1 ?_
  refine e_const cd_19_1 ci_3 ?_
  refine k_if hs (fun c1 hs => ?_) (fun c1 hs => ?_)
  · refine e_icN cd_19_2 rfl (fun q => q c1) ?_
    refine e_aldn cd_19_5 g0 ?_
    refine e_const cd_19_6 ci_2 ?_
    refine e_bip cd_19_7 cb_44 ?_
    refine e_ildn cd_19_9 g3 ?_
    obtain ⟨q2, h3, hs⟩ := k_bind hs
    refine e_cvi cd_19_10 kd_19_153 rfl rfl rfl rfl rfl nl_19 rfl rfl (hr_mo_joined a0 2 44 a3 M _ h3) ?_
    refine e_goto cd_19_13 rfl ?_
    exact tie_mo_joined_21 r_mo_joined r_mo_pattern r_mo_atom r_mo_anyOf r_mo_unit d hr_mo_joined hr_mo_pattern hr_mo_atom hr_mo_anyOf hr_mo_unit a0 a1 a2 a3 q2.1 q2.2 so _ g0 g1 g2 g3 hs
  · refine e_icJ cd_19_2 rfl c1 ?_
    refine e_aldn cd_19_16 g0 ?_
    refine e_ildn cd_19_17 g3 ?_
    obtain ⟨q4, h5, hs⟩ := k_bind hs
    refine e_cvi cd_19_18 kd_19_157 rfl rfl rfl rfl rfl nl_23 rfl rfl (hr_mo_unit a0 a3 M _ h5) ?_
    exact tie_mo_joined_21 r_mo_joined r_mo_pattern r_mo_atom r_mo_anyOf r_mo_unit d hr_mo_joined hr_mo_pattern hr_mo_atom hr_mo_anyOf hr_mo_unit a0 a1 a2 a3 q4.1 q4.2 so _ g0 g1 g2 g3 hs
theorem tieb_mo_pattern (r_mo_joined : Nat → Int32 → Int32 → Int32 → zM → Option (Int32 × zM)) (r_mo_pattern : Nat → Int32 → zM → Option (Int32 × zM)) (r_mo_atom : Nat → Int32 → zM → Option (Int32 × zM)) (r_mo_anyOf : Nat → Int32 → zM → Option (Int32 × zM)) (r_mo_unit : Nat → Int32 → zM → Option (Int32 × zM)) (d : Nat) (hr_mo_joined : ∀ a0 a1 a2 a3 M so, r_mo_joined a0 a1 a2 a3 M = some so → Ev zq_T d 19 0 (zl_args 0 [.inr (.inr (12, some a0)), .inl a1, .inl a2, .inl a3]) [] M (some (.inl so.1), so.2)) (hr_mo_pattern : ∀ a0 a1 M so, r_mo_pattern a0 a1 M = some so → Ev zq_T d 20 0 (zl_args 0 [.inr (.inr (12, some a0)), .inl a1]) [] M (some (.inl so.1), so.2)) (hr_mo_atom : ∀ a0 a1 M so, r_mo_atom a0 a1 M = some so → Ev zq_T d 21 0 (zl_args 0 [.inr (.inr (12, some a0)), .inl a1]) [] M (some (.inl so.1), so.2)) (hr_mo_anyOf : ∀ a0 a1 M so, r_mo_anyOf a0 a1 M = some so → Ev zq_T d 22 0 (zl_args 0 [.inr (.inr (12, some a0)), .inl a1]) [] M (some (.inl so.1), so.2)) (hr_mo_unit : ∀ a0 a1 M so, r_mo_unit a0 a1 M = some so → Ev zq_T d 23 0 (zl_args 0 [.inr (.inr (12, some a0)), .inl a1]) [] M (some (.inl so.1), so.2)) (a0 : Nat) (a1 : Int32) (M : zM) (so : Int32 × zM) (hs : mo_pattern_b r_mo_joined r_mo_pattern r_mo_atom r_mo_anyOf r_mo_unit d a0 a1 M = some so) : Ev zq_T (d + 1) 20 0 (zl_args 0 [.inr (.inr (12, some a0)), .inl a1]) [] M (some (.inl so.1), so.2) := by
  unfold mo_pattern_b at hs
  have g0 : zl_get (zl_args 0 [.inr (.inr (12, some a0)), .inl a1]) 0 = some (.inr (.inr (12, (some a0)))) := rfl
  have g1 : zl_get (zl_args 0 [.inr (.inr (12, some a0)), .inl a1]) 1 = some (.inl a1) := rfl
  refine e_aldn cd_20_0 g0 ?_
  refine e_const cd_20_1 ci_3 ?_
  refine e_bip cd_20_2 cb_124 ?_
  refine e_ildn cd_20_4 g1 ?_
  obtain ⟨q1, h2, hs⟩ := k_bind hs
  refine e_cvi cd_20_5 kd_20_153 rfl rfl rfl rfl rfl nl_19 rfl rfl (hr_mo_joined a0 3 124 a1 M _ h2) ?_
  have e := Option.some.inj hs
  subst e
  exact e_ri cd_20_8 nr_20
theorem tie_mo_atom_229 (r_mo_joined : Nat → Int32 → Int32 → Int32 → zM → Option (Int32 × zM)) (r_mo_pattern : Nat → Int32 → zM → Option (Int32 × zM)) (r_mo_atom : Nat → Int32 → zM → Option (Int32 × zM)) (r_mo_anyOf : Nat → Int32 → zM → Option (Int32 × zM)) (r_mo_unit : Nat → Int32 → zM → Option (Int32 × zM)) (d : Nat) (hr_mo_joined : ∀ a0 a1 a2 a3 M so, r_mo_joined a0 a1 a2 a3 M = some so → Ev zq_T d 19 0 (zl_args 0 [.inr (.inr (12, some a0)), .inl a1, .inl a2, .inl a3]) [] M (some (.inl so.1), so.2)) (hr_mo_pattern : ∀ a0 a1 M so, r_mo_pattern a0 a1 M = some so → Ev zq_T d 20 0 (zl_args 0 [.inr (.inr (12, some a0)), .inl a1]) [] M (some (.inl so.1), so.2)) (hr_mo_atom : ∀ a0 a1 M so, r_mo_atom a0 a1 M = some so → Ev zq_T d 21 0 (zl_args 0 [.inr (.inr (12, some a0)), .inl a1]) [] M (some (.inl so.1), so.2)) (hr_mo_anyOf : ∀ a0 a1 M so, r_mo_anyOf a0 a1 M = some so → Ev zq_T d 22 0 (zl_args 0 [.inr (.inr (12, some a0)), .inl a1]) [] M (some (.inl so.1), so.2)) (hr_mo_unit : ∀ a0 a1 M so, r_mo_unit a0 a1 M = some so → Ev zq_T d 23 0 (zl_args 0 [.inr (.inr (12, some a0)), .inl a1]) [] M (some (.inl so.1), so.2)) (v5 : Int32) (M : zM) (so : Int32 × zM) (ls : List (Nat × zV)) (g5 : zl_get ls 5 = some (.inl v5)) (hs : mo_atom_229 r_mo_joined r_mo_pattern r_mo_atom r_mo_anyOf r_mo_unit d v5 M = some so) : Ev zq_T (d + 1) 21 229 ls [] M (some (.inl so.1), so.2) := by
  unfold mo_atom_229 at hs
  refine e_ild cd_21_229 g5 ?_
  have e := Option.some.inj hs
  subst e
  exact e_ri cd_21_231 nr_21
set_option maxRecDepth 100000 in
theorem tie_mo_atom_76 (r_mo_joined : Nat → Int32 → Int32 → Int32 → zM → Option (Int32 × zM)) (r_mo_pattern : Nat → Int32 → zM → Option (Int32 × zM)) (r_mo_atom : Nat → Int32 → zM → Option (Int32 × zM)) (r_mo_anyOf : Nat → Int32 → zM → Option (Int32 × zM)) (r_mo_unit : Nat → Int32 → zM → Option (Int32 × zM)) (d : Nat) (hr_mo_joined : ∀ a0 a1 a2 a3 M so, r_mo_joined a0 a1 a2 a3 M = some so → Ev zq_T d 19 0 (zl_args 0 [.inr (.inr (12, some a0)), .inl a1, .inl a2, .inl a3]) [] M (some (.inl so.1), so.2)) (hr_mo_pattern : ∀ a0 a1 M so, r_mo_pattern a0 a1 M = some so → Ev zq_T d 20 0 (zl_args 0 [.inr (.inr (12, some a0)), .inl a1]) [] M (some (.inl so.1), so.2)) (hr_mo_atom : ∀ a0 a1 M so, r_mo_atom a0 a1 M = some so → Ev zq_T d 21 0 (zl_args 0 [.inr (.inr (12, some a0)), .inl a1]) [] M (some (.inl so.1), so.2)) (hr_mo_anyOf : ∀ a0 a1 M so, r_mo_anyOf a0 a1 M = some so → Ev zq_T d 22 0 (zl_args 0 [.inr (.inr (12, some a0)), .inl a1]) [] M (some (.inl so.1), so.2)) (hr_mo_unit : ∀ a0 a1 M so, r_mo_unit a0 a1 M = some so → Ev zq_T d 23 0 (zl_args 0 [.inr (.inr (12, some a0)), .inl a1]) [] M (some (.inl so.1), so.2)) (t0 : Nat) (v1 : Int32) (v2 : Int32) (s0 : Int32) (M : zM) (so : Int32 × zM) (ls : List (Nat × zV)) (g0 : zl_get ls 0 = some (.inr (.inr (12, (some t0))))) (g1 : zl_get ls 1 = some (.inl v1)) (g2 : zl_get ls 2 = some (.inl v2)) (hs : mo_atom_76 r_mo_joined r_mo_pattern r_mo_atom r_mo_anyOf r_mo_unit d t0 v1 v2 s0 M = some so) : Ev zq_T (d + 1) 21 76 ls [.inl s0] M (some (.inl so.1), so.2) := by
  unfold mo_atom_76 at hs
  refine e_iK cd_21_76 nl_21 rfl rfl ?_
  intro _ gn kp
  have u1 := kp 0 _ g0 rfl rfl
  have u2 := kp 1 _ g1 rfl rfl
  have u3 := kp 2 _ g2 rfl rfl
  have u4 := gn
  refine e_ild cd_21_78 u4 ?_
  refine k_if hs (fun c5 hs => ?_) (fun c5 hs => ?_)
  · refine e_izN cd_21_80 rfl (fun q => q c5) ?_
    refine e_aldn cd_21_83 u1 ?_
    refine e_aldn cd_21_84 u1 ?_
    refine e_getI cd_21_85 (Or.inl fd_21_128) rfl ?_
    obtain ⟨q6, h7, hs⟩ := k_bind hs
    refine e_cvi cd_21_88 kd_21_181 rfl rfl rfl rfl rfl nl_10 rfl rfl (tie_mo_fails d t0 (zm_I M 12 t0 3) M _ h7) ?_
    refine e_const cd_21_91 ci_0 ?_
    have e := Option.some.inj hs
    subst e
    exact e_ri cd_21_92 nr_21
  · refine e_izJ cd_21_80 rfl c5 ?_
    refine e_aldn cd_21_93 u1 ?_
    refine e_pure cd_21_94 rfl ?_
    refine e_getI cd_21_95 (Or.inl fd_21_128) rfl ?_
    refine e_const cd_21_98 ci_1 ?_
    refine e_pure cd_21_99 rfl ?_
    refine k_let hs (fun M8 e9 hs => ?_)
    refine e_putI cd_21_100 pd_21_128 rfl e9 ?_
    refine e_ildn cd_21_103 u3 ?_
    refine e_bip cd_21_104 cb_48 ?_
    refine k_if hs (fun c10 hs => ?_) (fun c10 hs => ?_)
    · refine e_icN cd_21_106 rfl (fun q => q c10) ?_
      refine e_aldn cd_21_109 u1 ?_
      refine e_const cd_21_110 ci_1 ?_
      refine e_const cd_21_111 ci_0 ?_
      obtain ⟨q11, h12, hs⟩ := k_bind hs
      refine e_cvi cd_21_112 kd_21_164 rfl rfl rfl rfl rfl nl_15 rfl rfl (tie_mo_opens d t0 1 0 M8 _ h12) ?_
      have e := Option.some.inj hs
      subst e
      exact e_ri cd_21_115 nr_21
    · refine e_icJ cd_21_106 rfl c10 ?_
      refine e_ildn cd_21_116 u3 ?_
      obtain ⟨q13, h14, hs⟩ := k_bind hs
      refine e_cst cd_21_117 kd_21_175 rfl rfl rfl nl_13 rfl rfl (tie_mo_isLetter d v2 M8 _ h14) ?_
      refine k_if hs (fun c15 hs => ?_) (fun c15 hs => ?_)
      · refine e_izJ cd_21_120 rfl c15 ?_
        refine e_ildn cd_21_184 u3 ?_
        refine e_bip cd_21_185 cb_91 ?_
        refine k_if hs (fun c16 hs => ?_) (fun c16 hs => ?_)
        · refine e_icN cd_21_187 rfl (fun q => q c16) ?_
          refine e_aldn cd_21_190 u1 ?_
          refine e_ildn cd_21_191 u2 ?_
          obtain ⟨q17, h18, hs⟩ := k_bind hs
          refine e_cvi cd_21_192 kd_21_187 rfl rfl rfl rfl rfl nl_22 rfl rfl (hr_mo_anyOf t0 v1 q13.2 _ h18) ?_
          have e := Option.some.inj hs
          subst e
          exact e_ri cd_21_195 nr_21
        · refine e_icJ cd_21_187 rfl c16 ?_
          refine e_aldn cd_21_196 u1 ?_
          refine e_ildn cd_21_197 u2 ?_
          refine e_const cd_21_198 ci_1 ?_
          refine e_pure cd_21_199 rfl ?_
          obtain ⟨q19, h20, hs⟩ := k_bind hs
          refine e_cvi cd_21_200 kd_21_190 rfl rfl rfl rfl rfl nl_20 rfl rfl (hr_mo_pattern t0 (v1 + 1) q13.2 _ h20) ?_
          refine e_iK cd_21_203 nl_21 rfl rfl ?_
          intro _ gn kp
          have u21 := kp 0 _ u1 rfl rfl
          have u22 := gn
          refine e_aldn cd_21_205 u21 ?_
          obtain ⟨q23, h24, hs⟩ := k_bind hs
          refine e_cvi cd_21_206 kd_21_160 rfl rfl rfl rfl rfl nl_11 rfl rfl (tie_mo_fine d t0 q19.2 _ h24) ?_
          refine k_if hs (fun c25 hs => ?_) (fun c25 hs => ?_)
          · refine e_izJ cd_21_209 rfl c25 ?_
            exact tie_mo_atom_229 r_mo_joined r_mo_pattern r_mo_atom r_mo_anyOf r_mo_unit d hr_mo_joined hr_mo_pattern hr_mo_atom hr_mo_anyOf hr_mo_unit q19.1 q23.2 so _ u22 hs
          · refine e_izN cd_21_209 rfl c25 ?_
            refine e_aldn cd_21_212 u21 ?_
            refine e_bip cd_21_213 cb_41 ?_
            obtain ⟨q26, h27, hs⟩ := k_bind hs
            refine e_cvi cd_21_215 kd_21_171 rfl rfl rfl rfl rfl nl_12 rfl rfl (tie_mo_takes d t0 41 q23.2 _ h27) ?_
            refine k_if hs (fun c28 hs => ?_) (fun c28 hs => ?_)
            · refine e_izN cd_21_218 rfl (fun q => q c28) ?_
              refine e_aldn cd_21_221 u21 ?_
              refine e_aldn cd_21_222 u21 ?_
              refine e_getI cd_21_223 (Or.inl fd_21_128) rfl ?_
              obtain ⟨q29, h30, hs⟩ := k_bind hs
              refine e_cvi cd_21_226 kd_21_181 rfl rfl rfl rfl rfl nl_10 rfl rfl (tie_mo_fails d t0 (zm_I q26.2 12 t0 3) q26.2 _ h30) ?_
              exact tie_mo_atom_229 r_mo_joined r_mo_pattern r_mo_atom r_mo_anyOf r_mo_unit d hr_mo_joined hr_mo_pattern hr_mo_atom hr_mo_anyOf hr_mo_unit q19.1 q29 so _ u22 hs
            · refine e_izJ cd_21_218 rfl c28 ?_
              exact tie_mo_atom_229 r_mo_joined r_mo_pattern r_mo_atom r_mo_anyOf r_mo_unit d hr_mo_joined hr_mo_pattern hr_mo_atom hr_mo_anyOf hr_mo_unit q19.1 q26.2 so _ u22 hs
      · refine e_izN cd_21_120 rfl c15 ?_
        refine e_aldn cd_21_123 u1 ?_
        refine e_const cd_21_124 ci_2 ?_
        obtain ⟨q31, h32, hs⟩ := k_bind hs
        refine e_cvi cd_21_125 kd_21_184 rfl rfl rfl rfl rfl nl_18 rfl rfl (tie_mo_more d t0 2 q13.2 _ h32) ?_
        refine e_iK cd_21_128 nl_21 rfl rfl ?_
        intro _ gn kp
        have u33 := kp 0 _ u1 rfl rfl
        have u34 := kp 2 _ u3 rfl rfl
        have u35 := gn
        refine e_aldn cd_21_130 u33 ?_
        refine e_const cd_21_131 ci_0 ?_
        refine e_ild cd_21_132 u35 ?_
        obtain ⟨q36, h37, hs⟩ := k_bind hs
        refine e_cvi cd_21_134 kd_21_164 rfl rfl rfl rfl rfl nl_15 rfl rfl (tie_mo_opens d t0 0 q31.1 q31.2 _ h37) ?_
        refine e_iK cd_21_137 nl_21 rfl rfl ?_
        intro _ gn kp
        have u38 := kp 0 _ u33 rfl rfl
        have u39 := kp 2 _ u34 rfl rfl
        have u40 := kp 5 _ u35 rfl rfl
        have u41 := gn
        refine e_aldn cd_21_139 u38 ?_
        refine e_getR cd_21_140 fd_21_35 rfl ?_
        refine e_const cd_21_143 ci_2 ?_
        refine e_bip cd_21_144 cb_16 ?_
        refine e_aldn cd_21_146 u38 ?_
        refine e_getI cd_21_147 (Or.inl fd_21_150) rfl ?_
        refine e_pure cd_21_150 rfl ?_
        refine e_ild cd_21_151 u40 ?_
        refine e_pure cd_21_153 rfl ?_
        refine e_pure cd_21_154 rfl ?_
        refine e_ildn cd_21_155 u39 ?_
        refine e_bip cd_21_156 cb_97 ?_
        refine e_pure cd_21_158 rfl ?_
        refine k_opt hs (fun _ q => nomatch q) (fun k42 h43 hs => ?_)
        obtain ⟨c44, hs⟩ := z_ite hs
        refine k_let hs (fun M45 e46 hs => ?_)
        refine e_iast cd_21_159 rfl h43 c44 e46 ?_
        refine e_aldn cd_21_160 u38 ?_
        refine e_getR cd_21_161 fd_21_35 rfl ?_
        refine e_const cd_21_164 ci_2 ?_
        refine e_bip cd_21_165 cb_16 ?_
        refine e_aldn cd_21_167 u38 ?_
        refine e_getI cd_21_168 (Or.inl fd_21_150) rfl ?_
        refine e_pure cd_21_171 rfl ?_
        refine e_ild cd_21_172 u40 ?_
        refine e_pure cd_21_174 rfl ?_
        refine e_pure cd_21_175 rfl ?_
        refine e_const cd_21_176 ci_1 ?_
        refine e_pure cd_21_177 rfl ?_
        refine e_ild cd_21_178 u41 ?_
        refine k_opt hs (fun _ q => nomatch q) (fun k47 h48 hs => ?_)
        obtain ⟨c49, hs⟩ := z_ite hs
        refine k_let hs (fun M50 e51 hs => ?_)
        refine e_iast cd_21_180 rfl h48 c49 e51 ?_
        refine e_ild cd_21_181 u41 ?_
        have e := Option.some.inj hs
        subst e
        exact e_ri cd_21_183 nr_21
theorem tie_mo_atom_71 (r_mo_joined : Nat → Int32 → Int32 → Int32 → zM → Option (Int32 × zM)) (r_mo_pattern : Nat → Int32 → zM → Option (Int32 × zM)) (r_mo_atom : Nat → Int32 → zM → Option (Int32 × zM)) (r_mo_anyOf : Nat → Int32 → zM → Option (Int32 × zM)) (r_mo_unit : Nat → Int32 → zM → Option (Int32 × zM)) (d : Nat) (hr_mo_joined : ∀ a0 a1 a2 a3 M so, r_mo_joined a0 a1 a2 a3 M = some so → Ev zq_T d 19 0 (zl_args 0 [.inr (.inr (12, some a0)), .inl a1, .inl a2, .inl a3]) [] M (some (.inl so.1), so.2)) (hr_mo_pattern : ∀ a0 a1 M so, r_mo_pattern a0 a1 M = some so → Ev zq_T d 20 0 (zl_args 0 [.inr (.inr (12, some a0)), .inl a1]) [] M (some (.inl so.1), so.2)) (hr_mo_atom : ∀ a0 a1 M so, r_mo_atom a0 a1 M = some so → Ev zq_T d 21 0 (zl_args 0 [.inr (.inr (12, some a0)), .inl a1]) [] M (some (.inl so.1), so.2)) (hr_mo_anyOf : ∀ a0 a1 M so, r_mo_anyOf a0 a1 M = some so → Ev zq_T d 22 0 (zl_args 0 [.inr (.inr (12, some a0)), .inl a1]) [] M (some (.inl so.1), so.2)) (hr_mo_unit : ∀ a0 a1 M so, r_mo_unit a0 a1 M = some so → Ev zq_T d 23 0 (zl_args 0 [.inr (.inr (12, some a0)), .inl a1]) [] M (some (.inl so.1), so.2)) (t0 : Nat) (v1 : Int32) (v2 : Int32) (M : zM) (so : Int32 × zM) (ls : List (Nat × zV)) (g0 : zl_get ls 0 = some (.inr (.inr (12, (some t0))))) (g1 : zl_get ls 1 = some (.inl v1)) (g2 : zl_get ls 2 = some (.inl v2)) (hs : mo_atom_71 r_mo_joined r_mo_pattern r_mo_atom r_mo_anyOf r_mo_unit d t0 v1 v2 M = some so) : Ev zq_T (d + 1) 21 71 ls [] M (some (.inl so.1), so.2) := by
  unfold mo_atom_71 at hs
  refine e_const cd_21_71 ci_1 ?_
  refine e_goto cd_21_72 rfl ?_
  exact tie_mo_atom_76 r_mo_joined r_mo_pattern r_mo_atom r_mo_anyOf r_mo_unit d hr_mo_joined hr_mo_pattern hr_mo_atom hr_mo_anyOf hr_mo_unit t0 v1 v2 1 M so _ g0 g1 g2 hs
theorem tie_mo_atom_75 (r_mo_joined : Nat → Int32 → Int32 → Int32 → zM → Option (Int32 × zM)) (r_mo_pattern : Nat → Int32 → zM → Option (Int32 × zM)) (r_mo_atom : Nat → Int32 → zM → Option (Int32 × zM)) (r_mo_anyOf : Nat → Int32 → zM → Option (Int32 × zM)) (r_mo_unit : Nat → Int32 → zM → Option (Int32 × zM)) (d : Nat) (hr_mo_joined : ∀ a0 a1 a2 a3 M so, r_mo_joined a0 a1 a2 a3 M = some so → Ev zq_T d 19 0 (zl_args 0 [.inr (.inr (12, some a0)), .inl a1, .inl a2, .inl a3]) [] M (some (.inl so.1), so.2)) (hr_mo_pattern : ∀ a0 a1 M so, r_mo_pattern a0 a1 M = some so → Ev zq_T d 20 0 (zl_args 0 [.inr (.inr (12, some a0)), .inl a1]) [] M (some (.inl so.1), so.2)) (hr_mo_atom : ∀ a0 a1 M so, r_mo_atom a0 a1 M = some so → Ev zq_T d 21 0 (zl_args 0 [.inr (.inr (12, some a0)), .inl a1]) [] M (some (.inl so.1), so.2)) (hr_mo_anyOf : ∀ a0 a1 M so, r_mo_anyOf a0 a1 M = some so → Ev zq_T d 22 0 (zl_args 0 [.inr (.inr (12, some a0)), .inl a1]) [] M (some (.inl so.1), so.2)) (hr_mo_unit : ∀ a0 a1 M so, r_mo_unit a0 a1 M = some so → Ev zq_T d 23 0 (zl_args 0 [.inr (.inr (12, some a0)), .inl a1]) [] M (some (.inl so.1), so.2)) (t0 : Nat) (v1 : Int32) (v2 : Int32) (M : zM) (so : Int32 × zM) (ls : List (Nat × zV)) (g0 : zl_get ls 0 = some (.inr (.inr (12, (some t0))))) (g1 : zl_get ls 1 = some (.inl v1)) (g2 : zl_get ls 2 = some (.inl v2)) (hs : mo_atom_75 r_mo_joined r_mo_pattern r_mo_atom r_mo_anyOf r_mo_unit d t0 v1 v2 M = some so) : Ev zq_T (d + 1) 21 75 ls [] M (some (.inl so.1), so.2) := by
  unfold mo_atom_75 at hs
  refine e_const cd_21_75 ci_0 ?_
  exact tie_mo_atom_76 r_mo_joined r_mo_pattern r_mo_atom r_mo_anyOf r_mo_unit d hr_mo_joined hr_mo_pattern hr_mo_atom hr_mo_anyOf hr_mo_unit t0 v1 v2 0 M so _ g0 g1 g2 hs
theorem tie_mo_atom_46 (r_mo_joined : Nat → Int32 → Int32 → Int32 → zM → Option (Int32 × zM)) (r_mo_pattern : Nat → Int32 → zM → Option (Int32 × zM)) (r_mo_atom : Nat → Int32 → zM → Option (Int32 × zM)) (r_mo_anyOf : Nat → Int32 → zM → Option (Int32 × zM)) (r_mo_unit : Nat → Int32 → zM → Option (Int32 × zM)) (d : Nat) (hr_mo_joined : ∀ a0 a1 a2 a3 M so, r_mo_joined a0 a1 a2 a3 M = some so → Ev zq_T d 19 0 (zl_args 0 [.inr (.inr (12, some a0)), .inl a1, .inl a2, .inl a3]) [] M (some (.inl so.1), so.2)) (hr_mo_pattern : ∀ a0 a1 M so, r_mo_pattern a0 a1 M = some so → Ev zq_T d 20 0 (zl_args 0 [.inr (.inr (12, some a0)), .inl a1]) [] M (some (.inl so.1), so.2)) (hr_mo_atom : ∀ a0 a1 M so, r_mo_atom a0 a1 M = some so → Ev zq_T d 21 0 (zl_args 0 [.inr (.inr (12, some a0)), .inl a1]) [] M (some (.inl so.1), so.2)) (hr_mo_anyOf : ∀ a0 a1 M so, r_mo_anyOf a0 a1 M = some so → Ev zq_T d 22 0 (zl_args 0 [.inr (.inr (12, some a0)), .inl a1]) [] M (some (.inl so.1), so.2)) (hr_mo_unit : ∀ a0 a1 M so, r_mo_unit a0 a1 M = some so → Ev zq_T d 23 0 (zl_args 0 [.inr (.inr (12, some a0)), .inl a1]) [] M (some (.inl so.1), so.2)) (t0 : Nat) (v1 : Int32) (v2 : Int32) (v3 : Int32) (M : zM) (so : Int32 × zM) (ls : List (Nat × zV)) (g0 : zl_get ls 0 = some (.inr (.inr (12, (some t0))))) (g1 : zl_get ls 1 = some (.inl v1)) (g2 : zl_get ls 2 = some (.inl v2)) (g3 : zl_get ls 3 = some (.inl v3)) (hs : mo_atom_46 r_mo_joined r_mo_pattern r_mo_atom r_mo_anyOf r_mo_unit d t0 v1 v2 v3 M = some so) : Ev zq_T (d + 1) 21 46 ls [] M (some (.inl so.1), so.2) := by
  unfold mo_atom_46 at hs
  refine e_ildn cd_21_46 g3 ?_
  refine k_if hs (fun c1 hs => ?_) (fun c1 hs => ?_)
  · refine e_izJ cd_21_47 rfl c1 ?_
    exact tie_mo_atom_75 r_mo_joined r_mo_pattern r_mo_atom r_mo_anyOf r_mo_unit d hr_mo_joined hr_mo_pattern hr_mo_atom hr_mo_anyOf hr_mo_unit t0 v1 v2 M so _ g0 g1 g2 hs
  · refine e_izN cd_21_47 rfl c1 ?_
    refine e_ildn cd_21_50 g1 ?_
    refine e_bip cd_21_51 cbb_8 ?_
    refine k_if hs (fun c2 hs => ?_) (fun c2 hs => ?_)
    · refine e_icJ cd_21_53 rfl c2 ?_
      exact tie_mo_atom_75 r_mo_joined r_mo_pattern r_mo_atom r_mo_anyOf r_mo_unit d hr_mo_joined hr_mo_pattern hr_mo_atom hr_mo_anyOf hr_mo_unit t0 v1 v2 M so _ g0 g1 g2 hs
    · refine e_icN cd_21_53 rfl c2 ?_
      refine e_ildn cd_21_56 g2 ?_
      refine e_bip cd_21_57 cb_40 ?_
      refine k_if hs (fun c3 hs => ?_) (fun c3 hs => ?_)
      · refine e_icJ cd_21_59 rfl c3 ?_
        exact tie_mo_atom_71 r_mo_joined r_mo_pattern r_mo_atom r_mo_anyOf r_mo_unit d hr_mo_joined hr_mo_pattern hr_mo_atom hr_mo_anyOf hr_mo_unit t0 v1 v2 M so _ g0 g1 g2 hs
      · refine e_icN cd_21_59 rfl c3 ?_
        refine e_aldn cd_21_62 g0 ?_
        refine e_const cd_21_63 ci_4 ?_
        obtain ⟨q4, h5, hs⟩ := k_bind hs
        refine e_cvi cd_21_64 kd_21_178 rfl rfl rfl rfl rfl nl_17 rfl rfl (tie_mo_many d t0 4 M _ h5) ?_
        refine e_const cd_21_67 ci_4 ?_
        refine k_if hs (fun c6 hs => ?_) (fun c6 hs => ?_)
        · refine e_icJ cd_21_68 rfl c6 ?_
          exact tie_mo_atom_75 r_mo_joined r_mo_pattern r_mo_atom r_mo_anyOf r_mo_unit d hr_mo_joined hr_mo_pattern hr_mo_atom hr_mo_anyOf hr_mo_unit t0 v1 v2 q4.2 so _ g0 g1 g2 hs
        · refine e_icN cd_21_68 rfl c6 ?_
          exact tie_mo_atom_71 r_mo_joined r_mo_pattern r_mo_atom r_mo_anyOf r_mo_unit d hr_mo_joined hr_mo_pattern hr_mo_atom hr_mo_anyOf hr_mo_unit t0 v1 v2 q4.2 so _ g0 g1 g2 hs
theorem tie_mo_atom_22 (r_mo_joined : Nat → Int32 → Int32 → Int32 → zM → Option (Int32 × zM)) (r_mo_pattern : Nat → Int32 → zM → Option (Int32 × zM)) (r_mo_atom : Nat → Int32 → zM → Option (Int32 × zM)) (r_mo_anyOf : Nat → Int32 → zM → Option (Int32 × zM)) (r_mo_unit : Nat → Int32 → zM → Option (Int32 × zM)) (d : Nat) (hr_mo_joined : ∀ a0 a1 a2 a3 M so, r_mo_joined a0 a1 a2 a3 M = some so → Ev zq_T d 19 0 (zl_args 0 [.inr (.inr (12, some a0)), .inl a1, .inl a2, .inl a3]) [] M (some (.inl so.1), so.2)) (hr_mo_pattern : ∀ a0 a1 M so, r_mo_pattern a0 a1 M = some so → Ev zq_T d 20 0 (zl_args 0 [.inr (.inr (12, some a0)), .inl a1]) [] M (some (.inl so.1), so.2)) (hr_mo_atom : ∀ a0 a1 M so, r_mo_atom a0 a1 M = some so → Ev zq_T d 21 0 (zl_args 0 [.inr (.inr (12, some a0)), .inl a1]) [] M (some (.inl so.1), so.2)) (hr_mo_anyOf : ∀ a0 a1 M so, r_mo_anyOf a0 a1 M = some so → Ev zq_T d 22 0 (zl_args 0 [.inr (.inr (12, some a0)), .inl a1]) [] M (some (.inl so.1), so.2)) (hr_mo_unit : ∀ a0 a1 M so, r_mo_unit a0 a1 M = some so → Ev zq_T d 23 0 (zl_args 0 [.inr (.inr (12, some a0)), .inl a1]) [] M (some (.inl so.1), so.2)) (t0 : Nat) (v1 : Int32) (v2 : Int32) (s0 : Int32) (M : zM) (so : Int32 × zM) (ls : List (Nat × zV)) (g0 : zl_get ls 0 = some (.inr (.inr (12, (some t0))))) (g1 : zl_get ls 1 = some (.inl v1)) (g2 : zl_get ls 2 = some (.inl v2)) (hs : mo_atom_22 r_mo_joined r_mo_pattern r_mo_atom r_mo_anyOf r_mo_unit d t0 v1 v2 s0 M = some so) : Ev zq_T (d + 1) 21 22 ls [.inl s0] M (some (.inl so.1), so.2) := by
  unfold mo_atom_22 at hs
  refine e_iKn cd_21_22 nl_21 rfl rfl ?_
  intro _ gn kp
  have u1 := kp 0 _ g0 rfl rfl
  have u2 := kp 1 _ g1 rfl rfl
  have u3 := kp 2 _ g2 rfl rfl
  have u4 := gn
  refine e_ildn cd_21_23 u3 ?_
  refine e_bip cd_21_24 cb_48 ?_
  refine k_if hs (fun c5 hs => ?_) (fun c5 hs => ?_)
  · refine e_icJ cd_21_26 rfl c5 ?_
    exact tie_mo_atom_71 r_mo_joined r_mo_pattern r_mo_atom r_mo_anyOf r_mo_unit d hr_mo_joined hr_mo_pattern hr_mo_atom hr_mo_anyOf hr_mo_unit t0 v1 v2 M so _ u1 u2 u3 hs
  · refine e_icN cd_21_26 rfl c5 ?_
    refine e_ildn cd_21_29 u3 ?_
    obtain ⟨q6, h7, hs⟩ := k_bind hs
    refine e_cst cd_21_30 kd_21_175 rfl rfl rfl nl_13 rfl rfl (tie_mo_isLetter d v2 M _ h7) ?_
    refine k_if hs (fun c8 hs => ?_) (fun c8 hs => ?_)
    · refine e_izJ cd_21_33 rfl c8 ?_
      exact tie_mo_atom_46 r_mo_joined r_mo_pattern r_mo_atom r_mo_anyOf r_mo_unit d hr_mo_joined hr_mo_pattern hr_mo_atom hr_mo_anyOf hr_mo_unit t0 v1 v2 s0 q6.2 so _ u1 u2 u3 u4 hs
    · refine e_izN cd_21_33 rfl c8 ?_
      refine e_aldn cd_21_36 u1 ?_
      refine e_const cd_21_37 ci_2 ?_
      obtain ⟨q9, h10, hs⟩ := k_bind hs
      refine e_cvi cd_21_38 kd_21_178 rfl rfl rfl rfl rfl nl_17 rfl rfl (tie_mo_many d t0 2 q6.2 _ h10) ?_
      refine e_bip cd_21_41 cb_16 ?_
      refine k_if hs (fun c11 hs => ?_) (fun c11 hs => ?_)
      · refine e_icJ cd_21_43 rfl c11 ?_
        exact tie_mo_atom_71 r_mo_joined r_mo_pattern r_mo_atom r_mo_anyOf r_mo_unit d hr_mo_joined hr_mo_pattern hr_mo_atom hr_mo_anyOf hr_mo_unit t0 v1 v2 q9.2 so _ u1 u2 u3 hs
      · refine e_icN cd_21_43 rfl c11 ?_
        exact tie_mo_atom_46 r_mo_joined r_mo_pattern r_mo_atom r_mo_anyOf r_mo_unit d hr_mo_joined hr_mo_pattern hr_mo_atom hr_mo_anyOf hr_mo_unit t0 v1 v2 s0 q9.2 so _ u1 u2 u3 u4 hs
theorem tie_mo_atom_17 (r_mo_joined : Nat → Int32 → Int32 → Int32 → zM → Option (Int32 × zM)) (r_mo_pattern : Nat → Int32 → zM → Option (Int32 × zM)) (r_mo_atom : Nat → Int32 → zM → Option (Int32 × zM)) (r_mo_anyOf : Nat → Int32 → zM → Option (Int32 × zM)) (r_mo_unit : Nat → Int32 → zM → Option (Int32 × zM)) (d : Nat) (hr_mo_joined : ∀ a0 a1 a2 a3 M so, r_mo_joined a0 a1 a2 a3 M = some so → Ev zq_T d 19 0 (zl_args 0 [.inr (.inr (12, some a0)), .inl a1, .inl a2, .inl a3]) [] M (some (.inl so.1), so.2)) (hr_mo_pattern : ∀ a0 a1 M so, r_mo_pattern a0 a1 M = some so → Ev zq_T d 20 0 (zl_args 0 [.inr (.inr (12, some a0)), .inl a1]) [] M (some (.inl so.1), so.2)) (hr_mo_atom : ∀ a0 a1 M so, r_mo_atom a0 a1 M = some so → Ev zq_T d 21 0 (zl_args 0 [.inr (.inr (12, some a0)), .inl a1]) [] M (some (.inl so.1), so.2)) (hr_mo_anyOf : ∀ a0 a1 M so, r_mo_anyOf a0 a1 M = some so → Ev zq_T d 22 0 (zl_args 0 [.inr (.inr (12, some a0)), .inl a1]) [] M (some (.inl so.1), so.2)) (hr_mo_unit : ∀ a0 a1 M so, r_mo_unit a0 a1 M = some so → Ev zq_T d 23 0 (zl_args 0 [.inr (.inr (12, some a0)), .inl a1]) [] M (some (.inl so.1), so.2)) (t0 : Nat) (v1 : Int32) (v2 : Int32) (M : zM) (so : Int32 × zM) (ls : List (Nat × zV)) (g0 : zl_get ls 0 = some (.inr (.inr (12, (some t0))))) (g1 : zl_get ls 1 = some (.inl v1)) (g2 : zl_get ls 2 = some (.inl v2)) (hs : mo_atom_17 r_mo_joined r_mo_pattern r_mo_atom r_mo_anyOf r_mo_unit d t0 v1 v2 M = some so) : Ev zq_T (d + 1) 21 17 ls [] M (some (.inl so.1), so.2) := by
  unfold mo_atom_17 at hs
  refine e_const cd_21_17 ci_1 ?_
  refine e_goto cd_21_18 rfl ?_
  exact tie_mo_atom_22 r_mo_joined r_mo_pattern r_mo_atom r_mo_anyOf r_mo_unit d hr_mo_joined hr_mo_pattern hr_mo_atom hr_mo_anyOf hr_mo_unit t0 v1 v2 1 M so _ g0 g1 g2 hs
theorem tieb_mo_atom (r_mo_joined : Nat → Int32 → Int32 → Int32 → zM → Option (Int32 × zM)) (r_mo_pattern : Nat → Int32 → zM → Option (Int32 × zM)) (r_mo_atom : Nat → Int32 → zM → Option (Int32 × zM)) (r_mo_anyOf : Nat → Int32 → zM → Option (Int32 × zM)) (r_mo_unit : Nat → Int32 → zM → Option (Int32 × zM)) (d : Nat) (hr_mo_joined : ∀ a0 a1 a2 a3 M so, r_mo_joined a0 a1 a2 a3 M = some so → Ev zq_T d 19 0 (zl_args 0 [.inr (.inr (12, some a0)), .inl a1, .inl a2, .inl a3]) [] M (some (.inl so.1), so.2)) (hr_mo_pattern : ∀ a0 a1 M so, r_mo_pattern a0 a1 M = some so → Ev zq_T d 20 0 (zl_args 0 [.inr (.inr (12, some a0)), .inl a1]) [] M (some (.inl so.1), so.2)) (hr_mo_atom : ∀ a0 a1 M so, r_mo_atom a0 a1 M = some so → Ev zq_T d 21 0 (zl_args 0 [.inr (.inr (12, some a0)), .inl a1]) [] M (some (.inl so.1), so.2)) (hr_mo_anyOf : ∀ a0 a1 M so, r_mo_anyOf a0 a1 M = some so → Ev zq_T d 22 0 (zl_args 0 [.inr (.inr (12, some a0)), .inl a1]) [] M (some (.inl so.1), so.2)) (hr_mo_unit : ∀ a0 a1 M so, r_mo_unit a0 a1 M = some so → Ev zq_T d 23 0 (zl_args 0 [.inr (.inr (12, some a0)), .inl a1]) [] M (some (.inl so.1), so.2)) (a0 : Nat) (a1 : Int32) (M : zM) (so : Int32 × zM) (hs : mo_atom_b r_mo_joined r_mo_pattern r_mo_atom r_mo_anyOf r_mo_unit d a0 a1 M = some so) : Ev zq_T (d + 1) 21 0 (zl_args 0 [.inr (.inr (12, some a0)), .inl a1]) [] M (some (.inl so.1), so.2) := by
  unfold mo_atom_b at hs
  have g0 : zl_get (zl_args 0 [.inr (.inr (12, some a0)), .inl a1]) 0 = some (.inr (.inr (12, (some a0)))) := rfl
  have g1 : zl_get (zl_args 0 [.inr (.inr (12, some a0)), .inl a1]) 1 = some (.inl a1) := rfl
  refine e_aldn cd_21_0 g0 ?_
  obtain ⟨q1, h2, hs⟩ := k_bind hs
  refine e_cvi cd_21_1 kd_21_138 rfl rfl rfl rfl rfl nl_9 rfl rfl (tie_mo_look d a0 M _ h2) ?_
  refine e_iKn cd_21_4 nl_21 rfl rfl ?_
  intro _ gn kp
  have u3 := kp 0 _ g0 rfl rfl
  have u4 := kp 1 _ g1 rfl rfl
  have u5 := gn
  refine e_ildn cd_21_5 u5 ?_
  refine e_bip cd_21_6 cb_40 ?_
  refine k_if hs (fun c6 hs => ?_) (fun c6 hs => ?_)
  · refine e_icJ cd_21_8 rfl c6 ?_
    exact tie_mo_atom_17 r_mo_joined r_mo_pattern r_mo_atom r_mo_anyOf r_mo_unit d hr_mo_joined hr_mo_pattern hr_mo_atom hr_mo_anyOf hr_mo_unit a0 a1 q1.1 q1.2 so _ u3 u4 u5 hs
  · refine e_icN cd_21_8 rfl c6 ?_
    refine e_ildn cd_21_11 u5 ?_
    refine e_bip cd_21_12 cb_91 ?_
    refine k_if hs (fun c7 hs => ?_) (fun c7 hs => ?_)
    · refine e_icN cd_21_14 rfl (fun q => q c7) ?_
      exact tie_mo_atom_17 r_mo_joined r_mo_pattern r_mo_atom r_mo_anyOf r_mo_unit d hr_mo_joined hr_mo_pattern hr_mo_atom hr_mo_anyOf hr_mo_unit a0 a1 q1.1 q1.2 so _ u3 u4 u5 hs
    · refine e_icJ cd_21_14 rfl c7 ?_
      refine e_const cd_21_21 ci_0 ?_
      exact tie_mo_atom_22 r_mo_joined r_mo_pattern r_mo_atom r_mo_anyOf r_mo_unit d hr_mo_joined hr_mo_pattern hr_mo_atom hr_mo_anyOf hr_mo_unit a0 a1 q1.1 0 q1.2 so _ u3 u4 u5 hs
theorem tie_mo_anyOf_136 (r_mo_joined : Nat → Int32 → Int32 → Int32 → zM → Option (Int32 × zM)) (r_mo_pattern : Nat → Int32 → zM → Option (Int32 × zM)) (r_mo_atom : Nat → Int32 → zM → Option (Int32 × zM)) (r_mo_anyOf : Nat → Int32 → zM → Option (Int32 × zM)) (r_mo_unit : Nat → Int32 → zM → Option (Int32 × zM)) (kl33 : Nat → Int32 → Int32 → Int32 → Int32 → zM → Option (Int32 × zM)) (d : Nat) (hr_mo_joined : ∀ a0 a1 a2 a3 M so, r_mo_joined a0 a1 a2 a3 M = some so → Ev zq_T d 19 0 (zl_args 0 [.inr (.inr (12, some a0)), .inl a1, .inl a2, .inl a3]) [] M (some (.inl so.1), so.2)) (hr_mo_pattern : ∀ a0 a1 M so, r_mo_pattern a0 a1 M = some so → Ev zq_T d 20 0 (zl_args 0 [.inr (.inr (12, some a0)), .inl a1]) [] M (some (.inl so.1), so.2)) (hr_mo_atom : ∀ a0 a1 M so, r_mo_atom a0 a1 M = some so → Ev zq_T d 21 0 (zl_args 0 [.inr (.inr (12, some a0)), .inl a1]) [] M (some (.inl so.1), so.2)) (hr_mo_anyOf : ∀ a0 a1 M so, r_mo_anyOf a0 a1 M = some so → Ev zq_T d 22 0 (zl_args 0 [.inr (.inr (12, some a0)), .inl a1]) [] M (some (.inl so.1), so.2)) (hr_mo_unit : ∀ a0 a1 M so, r_mo_unit a0 a1 M = some so → Ev zq_T d 23 0 (zl_args 0 [.inr (.inr (12, some a0)), .inl a1]) [] M (some (.inl so.1), so.2)) (hk33 : ∀ (t0 : Nat) (v1 : Int32) (v3 : Int32) (v4 : Int32) (v5 : Int32) (M : zM) (so : Int32 × zM) (ls : List (Nat × zV)), zl_get ls 0 = some (.inr (.inr (12, (some t0)))) → zl_get ls 1 = some (.inl v1) → zl_get ls 3 = some (.inl v3) → zl_get ls 4 = some (.inl v4) → zl_get ls 5 = some (.inl v5) → kl33 t0 v1 v3 v4 v5 M = some so → Ev zq_T (d + 1) 22 33 ls [] M (some (.inl so.1), so.2)) (t0 : Nat) (v1 : Int32) (v3 : Int32) (v4 : Int32) (v5 : Int32) (M : zM) (so : Int32 × zM) (ls : List (Nat × zV)) (g0 : zl_get ls 0 = some (.inr (.inr (12, (some t0))))) (g1 : zl_get ls 1 = some (.inl v1)) (g3 : zl_get ls 3 = some (.inl v3)) (g4 : zl_get ls 4 = some (.inl v4)) (g5 : zl_get ls 5 = some (.inl v5)) (hs : mo_anyOf_136 r_mo_joined r_mo_pattern r_mo_atom r_mo_anyOf r_mo_unit kl33 d t0 v1 v3 v4 v5 M = some so) : Ev zq_T (d + 1) 22 136 ls [] M (some (.inl so.1), so.2) := by
  unfold mo_anyOf_136 at hs
  refine e_goto cd_22_136 rfl ?_
  exact hk33 t0 v1 v3 v4 v5 M so _ g0 g1 g3 g4 g5 hs
theorem tie_mo_anyOf_128 (r_mo_joined : Nat → Int32 → Int32 → Int32 → zM → Option (Int32 × zM)) (r_mo_pattern : Nat → Int32 → zM → Option (Int32 × zM)) (r_mo_atom : Nat → Int32 → zM → Option (Int32 × zM)) (r_mo_anyOf : Nat → Int32 → zM → Option (Int32 × zM)) (r_mo_unit : Nat → Int32 → zM → Option (Int32 × zM)) (kl33 : Nat → Int32 → Int32 → Int32 → Int32 → zM → Option (Int32 × zM)) (d : Nat) (hr_mo_joined : ∀ a0 a1 a2 a3 M so, r_mo_joined a0 a1 a2 a3 M = some so → Ev zq_T d 19 0 (zl_args 0 [.inr (.inr (12, some a0)), .inl a1, .inl a2, .inl a3]) [] M (some (.inl so.1), so.2)) (hr_mo_pattern : ∀ a0 a1 M so, r_mo_pattern a0 a1 M = some so → Ev zq_T d 20 0 (zl_args 0 [.inr (.inr (12, some a0)), .inl a1]) [] M (some (.inl so.1), so.2)) (hr_mo_atom : ∀ a0 a1 M so, r_mo_atom a0 a1 M = some so → Ev zq_T d 21 0 (zl_args 0 [.inr (.inr (12, some a0)), .inl a1]) [] M (some (.inl so.1), so.2)) (hr_mo_anyOf : ∀ a0 a1 M so, r_mo_anyOf a0 a1 M = some so → Ev zq_T d 22 0 (zl_args 0 [.inr (.inr (12, some a0)), .inl a1]) [] M (some (.inl so.1), so.2)) (hr_mo_unit : ∀ a0 a1 M so, r_mo_unit a0 a1 M = some so → Ev zq_T d 23 0 (zl_args 0 [.inr (.inr (12, some a0)), .inl a1]) [] M (some (.inl so.1), so.2)) (hk33 : ∀ (t0 : Nat) (v1 : Int32) (v3 : Int32) (v4 : Int32) (v5 : Int32) (M : zM) (so : Int32 × zM) (ls : List (Nat × zV)), zl_get ls 0 = some (.inr (.inr (12, (some t0)))) → zl_get ls 1 = some (.inl v1) → zl_get ls 3 = some (.inl v3) → zl_get ls 4 = some (.inl v4) → zl_get ls 5 = some (.inl v5) → kl33 t0 v1 v3 v4 v5 M = some so → Ev zq_T (d + 1) 22 33 ls [] M (some (.inl so.1), so.2)) (t0 : Nat) (v1 : Int32) (v3 : Int32) (v4 : Int32) (v5 : Int32) (M : zM) (so : Int32 × zM) (ls : List (Nat × zV)) (g0 : zl_get ls 0 = some (.inr (.inr (12, (some t0))))) (g1 : zl_get ls 1 = some (.inl v1)) (g3 : zl_get ls 3 = some (.inl v3)) (g4 : zl_get ls 4 = some (.inl v4)) (g5 : zl_get ls 5 = some (.inl v5)) (hs : mo_anyOf_128 r_mo_joined r_mo_pattern r_mo_atom r_mo_anyOf r_mo_unit kl33 d t0 v1 v3 v4 v5 M = some so) : Ev zq_T (d + 1) 22 128 ls [] M (some (.inl so.1), so.2) := by
  unfold mo_anyOf_128 at hs
  refine e_aldn cd_22_128 g0 ?_
  refine e_aldn cd_22_129 g0 ?_
  refine e_getI cd_22_130 (Or.inl fd_22_128) rfl ?_
  obtain ⟨q1, h2, hs⟩ := k_bind hs
  refine e_cvi cd_22_133 kd_22_181 rfl rfl rfl rfl rfl nl_10 rfl rfl (tie_mo_fails d t0 (zm_I M 12 t0 3) M _ h2) ?_
  exact tie_mo_anyOf_136 r_mo_joined r_mo_pattern r_mo_atom r_mo_anyOf r_mo_unit kl33 d hr_mo_joined hr_mo_pattern hr_mo_atom hr_mo_anyOf hr_mo_unit hk33 t0 v1 v3 v4 v5 q1 so _ g0 g1 g3 g4 g5 hs
theorem tie_mo_anyOf_93 (r_mo_joined : Nat → Int32 → Int32 → Int32 → zM → Option (Int32 × zM)) (r_mo_pattern : Nat → Int32 → zM → Option (Int32 × zM)) (r_mo_atom : Nat → Int32 → zM → Option (Int32 × zM)) (r_mo_anyOf : Nat → Int32 → zM → Option (Int32 × zM)) (r_mo_unit : Nat → Int32 → zM → Option (Int32 × zM)) (kl33 : Nat → Int32 → Int32 → Int32 → Int32 → zM → Option (Int32 × zM)) (d : Nat) (hr_mo_joined : ∀ a0 a1 a2 a3 M so, r_mo_joined a0 a1 a2 a3 M = some so → Ev zq_T d 19 0 (zl_args 0 [.inr (.inr (12, some a0)), .inl a1, .inl a2, .inl a3]) [] M (some (.inl so.1), so.2)) (hr_mo_pattern : ∀ a0 a1 M so, r_mo_pattern a0 a1 M = some so → Ev zq_T d 20 0 (zl_args 0 [.inr (.inr (12, some a0)), .inl a1]) [] M (some (.inl so.1), so.2)) (hr_mo_atom : ∀ a0 a1 M so, r_mo_atom a0 a1 M = some so → Ev zq_T d 21 0 (zl_args 0 [.inr (.inr (12, some a0)), .inl a1]) [] M (some (.inl so.1), so.2)) (hr_mo_anyOf : ∀ a0 a1 M so, r_mo_anyOf a0 a1 M = some so → Ev zq_T d 22 0 (zl_args 0 [.inr (.inr (12, some a0)), .inl a1]) [] M (some (.inl so.1), so.2)) (hr_mo_unit : ∀ a0 a1 M so, r_mo_unit a0 a1 M = some so → Ev zq_T d 23 0 (zl_args 0 [.inr (.inr (12, some a0)), .inl a1]) [] M (some (.inl so.1), so.2)) (hk33 : ∀ (t0 : Nat) (v1 : Int32) (v3 : Int32) (v4 : Int32) (v5 : Int32) (M : zM) (so : Int32 × zM) (ls : List (Nat × zV)), zl_get ls 0 = some (.inr (.inr (12, (some t0)))) → zl_get ls 1 = some (.inl v1) → zl_get ls 3 = some (.inl v3) → zl_get ls 4 = some (.inl v4) → zl_get ls 5 = some (.inl v5) → kl33 t0 v1 v3 v4 v5 M = some so → Ev zq_T (d + 1) 22 33 ls [] M (some (.inl so.1), so.2)) (t0 : Nat) (v1 : Int32) (v3 : Int32) (v4 : Int32) (s0 : Int32) (M : zM) (so : Int32 × zM) (ls : List (Nat × zV)) (g0 : zl_get ls 0 = some (.inr (.inr (12, (some t0))))) (g1 : zl_get ls 1 = some (.inl v1)) (g3 : zl_get ls 3 = some (.inl v3)) (g4 : zl_get ls 4 = some (.inl v4)) (hs : mo_anyOf_93 r_mo_joined r_mo_pattern r_mo_atom r_mo_anyOf r_mo_unit kl33 d t0 v1 v3 v4 s0 M = some so) : Ev zq_T (d + 1) 22 93 ls [.inl s0] M (some (.inl so.1), so.2) := by
  unfold mo_anyOf_93 at hs
  refine e_iK cd_22_93 nl_22 rfl rfl ?_
  intro _ gn kp
  have u1 := kp 0 _ g0 rfl rfl
  have u2 := kp 1 _ g1 rfl rfl
  have u3 := kp 3 _ g3 rfl rfl
  have u4 := kp 4 _ g4 rfl rfl
  have u5 := gn
  refine e_ild cd_22_95 u5 ?_
  refine k_if hs (fun c6 hs => ?_) (fun c6 hs => ?_)
  · refine e_izJ cd_22_97 rfl c6 ?_
    refine e_ild cd_22_113 u4 ?_
    refine e_const cd_22_115 ci_2 ?_
    refine k_if hs (fun c7 hs => ?_) (fun c7 hs => ?_)
    · refine e_icJ cd_22_116 rfl c7 ?_
      exact tie_mo_anyOf_128 r_mo_joined r_mo_pattern r_mo_atom r_mo_anyOf r_mo_unit kl33 d hr_mo_joined hr_mo_pattern hr_mo_atom hr_mo_anyOf hr_mo_unit hk33 t0 v1 v3 v4 s0 M so _ u1 u2 u3 u4 u5 hs
    · refine e_icN cd_22_116 rfl c7 ?_
      refine e_aldn cd_22_119 u1 ?_
      obtain ⟨q8, h9, hs⟩ := k_bind hs
      refine e_cvi cd_22_120 kd_22_138 rfl rfl rfl rfl rfl nl_9 rfl rfl (tie_mo_look d t0 M _ h9) ?_
      refine e_bip cd_22_123 cb_93 ?_
      refine k_if hs (fun c10 hs => ?_) (fun c10 hs => ?_)
      · refine e_icJ cd_22_125 rfl c10 ?_
        exact tie_mo_anyOf_136 r_mo_joined r_mo_pattern r_mo_atom r_mo_anyOf r_mo_unit kl33 d hr_mo_joined hr_mo_pattern hr_mo_atom hr_mo_anyOf hr_mo_unit hk33 t0 v1 v3 v4 s0 q8.2 so _ u1 u2 u3 u4 u5 hs
      · refine e_icN cd_22_125 rfl c10 ?_
        exact tie_mo_anyOf_128 r_mo_joined r_mo_pattern r_mo_atom r_mo_anyOf r_mo_unit kl33 d hr_mo_joined hr_mo_pattern hr_mo_atom hr_mo_anyOf hr_mo_unit hk33 t0 v1 v3 v4 s0 q8.2 so _ u1 u2 u3 u4 u5 hs
  · refine e_izN cd_22_97 rfl c6 ?_
    refine e_aldn cd_22_100 u1 ?_
    refine e_pure cd_22_101 rfl ?_
    refine e_getI cd_22_102 (Or.inl fd_22_128) rfl ?_
    refine e_const cd_22_105 ci_1 ?_
    refine e_pure cd_22_106 rfl ?_
    refine k_let hs (fun M11 e12 hs => ?_)
    refine e_putI cd_22_107 pd_22_128 rfl e12 ?_
    refine e_goto cd_22_110 rfl ?_
    exact tie_mo_anyOf_136 r_mo_joined r_mo_pattern r_mo_atom r_mo_anyOf r_mo_unit kl33 d hr_mo_joined hr_mo_pattern hr_mo_atom hr_mo_anyOf hr_mo_unit hk33 t0 v1 v3 v4 s0 M11 so _ u1 u2 u3 u4 u5 hs
theorem tie_mo_anyOf_92 (r_mo_joined : Nat → Int32 → Int32 → Int32 → zM → Option (Int32 × zM)) (r_mo_pattern : Nat → Int32 → zM → Option (Int32 × zM)) (r_mo_atom : Nat → Int32 → zM → Option (Int32 × zM)) (r_mo_anyOf : Nat → Int32 → zM → Option (Int32 × zM)) (r_mo_unit : Nat → Int32 → zM → Option (Int32 × zM)) (kl33 : Nat → Int32 → Int32 → Int32 → Int32 → zM → Option (Int32 × zM)) (d : Nat) (hr_mo_joined : ∀ a0 a1 a2 a3 M so, r_mo_joined a0 a1 a2 a3 M = some so → Ev zq_T d 19 0 (zl_args 0 [.inr (.inr (12, some a0)), .inl a1, .inl a2, .inl a3]) [] M (some (.inl so.1), so.2)) (hr_mo_pattern : ∀ a0 a1 M so, r_mo_pattern a0 a1 M = some so → Ev zq_T d 20 0 (zl_args 0 [.inr (.inr (12, some a0)), .inl a1]) [] M (some (.inl so.1), so.2)) (hr_mo_atom : ∀ a0 a1 M so, r_mo_atom a0 a1 M = some so → Ev zq_T d 21 0 (zl_args 0 [.inr (.inr (12, some a0)), .inl a1]) [] M (some (.inl so.1), so.2)) (hr_mo_anyOf : ∀ a0 a1 M so, r_mo_anyOf a0 a1 M = some so → Ev zq_T d 22 0 (zl_args 0 [.inr (.inr (12, some a0)), .inl a1]) [] M (some (.inl so.1), so.2)) (hr_mo_unit : ∀ a0 a1 M so, r_mo_unit a0 a1 M = some so → Ev zq_T d 23 0 (zl_args 0 [.inr (.inr (12, some a0)), .inl a1]) [] M (some (.inl so.1), so.2)) (hk33 : ∀ (t0 : Nat) (v1 : Int32) (v3 : Int32) (v4 : Int32) (v5 : Int32) (M : zM) (so : Int32 × zM) (ls : List (Nat × zV)), zl_get ls 0 = some (.inr (.inr (12, (some t0)))) → zl_get ls 1 = some (.inl v1) → zl_get ls 3 = some (.inl v3) → zl_get ls 4 = some (.inl v4) → zl_get ls 5 = some (.inl v5) → kl33 t0 v1 v3 v4 v5 M = some so → Ev zq_T (d + 1) 22 33 ls [] M (some (.inl so.1), so.2)) (t0 : Nat) (v1 : Int32) (v3 : Int32) (v4 : Int32) (M : zM) (so : Int32 × zM) (ls : List (Nat × zV)) (g0 : zl_get ls 0 = some (.inr (.inr (12, (some t0))))) (g1 : zl_get ls 1 = some (.inl v1)) (g3 : zl_get ls 3 = some (.inl v3)) (g4 : zl_get ls 4 = some (.inl v4)) (hs : mo_anyOf_92 r_mo_joined r_mo_pattern r_mo_atom r_mo_anyOf r_mo_unit kl33 d t0 v1 v3 v4 M = some so) : Ev zq_T (d + 1) 22 92 ls [] M (some (.inl so.1), so.2) := by
  unfold mo_anyOf_92 at hs
  refine e_const cd_22_92 ci_0 ?_
  exact tie_mo_anyOf_93 r_mo_joined r_mo_pattern r_mo_atom r_mo_anyOf r_mo_unit kl33 d hr_mo_joined hr_mo_pattern hr_mo_atom hr_mo_anyOf hr_mo_unit hk33 t0 v1 v3 v4 0 M so _ g0 g1 g3 g4 hs
theorem tie_mo_anyOf_156 (r_mo_joined : Nat → Int32 → Int32 → Int32 → zM → Option (Int32 × zM)) (r_mo_pattern : Nat → Int32 → zM → Option (Int32 × zM)) (r_mo_atom : Nat → Int32 → zM → Option (Int32 × zM)) (r_mo_anyOf : Nat → Int32 → zM → Option (Int32 × zM)) (r_mo_unit : Nat → Int32 → zM → Option (Int32 × zM)) (d : Nat) (hr_mo_joined : ∀ a0 a1 a2 a3 M so, r_mo_joined a0 a1 a2 a3 M = some so → Ev zq_T d 19 0 (zl_args 0 [.inr (.inr (12, some a0)), .inl a1, .inl a2, .inl a3]) [] M (some (.inl so.1), so.2)) (hr_mo_pattern : ∀ a0 a1 M so, r_mo_pattern a0 a1 M = some so → Ev zq_T d 20 0 (zl_args 0 [.inr (.inr (12, some a0)), .inl a1]) [] M (some (.inl so.1), so.2)) (hr_mo_atom : ∀ a0 a1 M so, r_mo_atom a0 a1 M = some so → Ev zq_T d 21 0 (zl_args 0 [.inr (.inr (12, some a0)), .inl a1]) [] M (some (.inl so.1), so.2)) (hr_mo_anyOf : ∀ a0 a1 M so, r_mo_anyOf a0 a1 M = some so → Ev zq_T d 22 0 (zl_args 0 [.inr (.inr (12, some a0)), .inl a1]) [] M (some (.inl so.1), so.2)) (hr_mo_unit : ∀ a0 a1 M so, r_mo_unit a0 a1 M = some so → Ev zq_T d 23 0 (zl_args 0 [.inr (.inr (12, some a0)), .inl a1]) [] M (some (.inl so.1), so.2)) (v3 : Int32) (M : zM) (so : Int32 × zM) (ls : List (Nat × zV)) (g3 : zl_get ls 3 = some (.inl v3)) (hs : mo_anyOf_156 r_mo_joined r_mo_pattern r_mo_atom r_mo_anyOf r_mo_unit d v3 M = some so) : Ev zq_T (d + 1) 22 156 ls [] M (some (.inl so.1), so.2) := by
  unfold mo_anyOf_156 at hs
  refine e_ildn cd_22_156 g3 ?_
  have e := Option.some.inj hs
  subst e
  exact e_ri cd_22_157 nr_22
theorem tie_mo_anyOf_139 (r_mo_joined : Nat → Int32 → Int32 → Int32 → zM → Option (Int32 × zM)) (r_mo_pattern : Nat → Int32 → zM → Option (Int32 × zM)) (r_mo_atom : Nat → Int32 → zM → Option (Int32 × zM)) (r_mo_anyOf : Nat → Int32 → zM → Option (Int32 × zM)) (r_mo_unit : Nat → Int32 → zM → Option (Int32 × zM)) (d : Nat) (hr_mo_joined : ∀ a0 a1 a2 a3 M so, r_mo_joined a0 a1 a2 a3 M = some so → Ev zq_T d 19 0 (zl_args 0 [.inr (.inr (12, some a0)), .inl a1, .inl a2, .inl a3]) [] M (some (.inl so.1), so.2)) (hr_mo_pattern : ∀ a0 a1 M so, r_mo_pattern a0 a1 M = some so → Ev zq_T d 20 0 (zl_args 0 [.inr (.inr (12, some a0)), .inl a1]) [] M (some (.inl so.1), so.2)) (hr_mo_atom : ∀ a0 a1 M so, r_mo_atom a0 a1 M = some so → Ev zq_T d 21 0 (zl_args 0 [.inr (.inr (12, some a0)), .inl a1]) [] M (some (.inl so.1), so.2)) (hr_mo_anyOf : ∀ a0 a1 M so, r_mo_anyOf a0 a1 M = some so → Ev zq_T d 22 0 (zl_args 0 [.inr (.inr (12, some a0)), .inl a1]) [] M (some (.inl so.1), so.2)) (hr_mo_unit : ∀ a0 a1 M so, r_mo_unit a0 a1 M = some so → Ev zq_T d 23 0 (zl_args 0 [.inr (.inr (12, some a0)), .inl a1]) [] M (some (.inl so.1), so.2)) (t0 : Nat) (v3 : Int32) (M : zM) (so : Int32 × zM) (ls : List (Nat × zV)) (g0 : zl_get ls 0 = some (.inr (.inr (12, (some t0))))) (g3 : zl_get ls 3 = some (.inl v3)) (hs : mo_anyOf_139 r_mo_joined r_mo_pattern r_mo_atom r_mo_anyOf r_mo_unit d t0 v3 M = some so) : Ev zq_T (d + 1) 22 139 ls [] M (some (.inl so.1), so.2) := by
  unfold mo_anyOf_139 at hs
  refine e_aldn cd_22_139 g0 ?_
  obtain ⟨q1, h2, hs⟩ := k_bind hs
  refine e_cvi cd_22_140 kd_22_160 rfl rfl rfl rfl rfl nl_11 rfl rfl (tie_mo_fine d t0 M _ h2) ?_
  refine k_if hs (fun c3 hs => ?_) (fun c3 hs => ?_)
  · refine e_izJ cd_22_143 rfl c3 ?_
    exact tie_mo_anyOf_156 r_mo_joined r_mo_pattern r_mo_atom r_mo_anyOf r_mo_unit d hr_mo_joined hr_mo_pattern hr_mo_atom hr_mo_anyOf hr_mo_unit v3 q1.2 so _ g3 hs
  · refine e_izN cd_22_143 rfl c3 ?_
    refine e_aldn cd_22_146 g0 ?_
    refine e_pure cd_22_147 rfl ?_
    refine e_getI cd_22_148 (Or.inl fd_22_128) rfl ?_
    refine e_const cd_22_151 ci_1 ?_
    refine e_pure cd_22_152 rfl ?_
    refine k_let hs (fun M4 e5 hs => ?_)
    refine e_putI cd_22_153 pd_22_128 rfl e5 ?_
    exact tie_mo_anyOf_156 r_mo_joined r_mo_pattern r_mo_atom r_mo_anyOf r_mo_unit d hr_mo_joined hr_mo_pattern hr_mo_atom hr_mo_anyOf hr_mo_unit v3 M4 so _ g3 hs
theorem tie_mo_anyOf_33 (r_mo_joined : Nat → Int32 → Int32 → Int32 → zM → Option (Int32 × zM)) (r_mo_pattern : Nat → Int32 → zM → Option (Int32 × zM)) (r_mo_atom : Nat → Int32 → zM → Option (Int32 × zM)) (r_mo_anyOf : Nat → Int32 → zM → Option (Int32 × zM)) (r_mo_unit : Nat → Int32 → zM → Option (Int32 × zM)) (d : Nat) (hr_mo_joined : ∀ a0 a1 a2 a3 M so, r_mo_joined a0 a1 a2 a3 M = some so → Ev zq_T d 19 0 (zl_args 0 [.inr (.inr (12, some a0)), .inl a1, .inl a2, .inl a3]) [] M (some (.inl so.1), so.2)) (hr_mo_pattern : ∀ a0 a1 M so, r_mo_pattern a0 a1 M = some so → Ev zq_T d 20 0 (zl_args 0 [.inr (.inr (12, some a0)), .inl a1]) [] M (some (.inl so.1), so.2)) (hr_mo_atom : ∀ a0 a1 M so, r_mo_atom a0 a1 M = some so → Ev zq_T d 21 0 (zl_args 0 [.inr (.inr (12, some a0)), .inl a1]) [] M (some (.inl so.1), so.2)) (hr_mo_anyOf : ∀ a0 a1 M so, r_mo_anyOf a0 a1 M = some so → Ev zq_T d 22 0 (zl_args 0 [.inr (.inr (12, some a0)), .inl a1]) [] M (some (.inl so.1), so.2)) (hr_mo_unit : ∀ a0 a1 M so, r_mo_unit a0 a1 M = some so → Ev zq_T d 23 0 (zl_args 0 [.inr (.inr (12, some a0)), .inl a1]) [] M (some (.inl so.1), so.2)) : ∀ (fuel : Nat) (t0 : Nat) (v1 : Int32) (v3 : Int32) (v4 : Int32) (v5 : Int32) (M : zM) (so : Int32 × zM) (ls : List (Nat × zV)), zl_get ls 0 = some (.inr (.inr (12, (some t0)))) → zl_get ls 1 = some (.inl v1) → zl_get ls 3 = some (.inl v3) → zl_get ls 4 = some (.inl v4) → zl_get ls 5 = some (.inl v5) → mo_anyOf_33 r_mo_joined r_mo_pattern r_mo_atom r_mo_anyOf r_mo_unit d fuel t0 v1 v3 v4 v5 M = some so → Ev zq_T (d + 1) 22 33 ls [] M (some (.inl so.1), so.2) := by
  intro fuel
  induction fuel with
  | zero => intro t0 v1 v3 v4 v5 M so ls g0 g1 g3 g4 g5 hs; exact nomatch hs
  | succ fuel ih =>
    intro t0 v1 v3 v4 v5 M so ls g0 g1 g3 g4 g5 hs
    unfold mo_anyOf_33 at hs
    refine e_aldn cd_22_33 g0 ?_
    obtain ⟨q1, h2, hs⟩ := k_bind hs
    refine e_cvi cd_22_34 kd_22_160 rfl rfl rfl rfl rfl nl_11 rfl rfl (tie_mo_fine d t0 M _ h2) ?_
    refine k_if hs (fun c3 hs => ?_) (fun c3 hs => ?_)
    · refine e_izJ cd_22_37 rfl c3 ?_
      exact tie_mo_anyOf_139 r_mo_joined r_mo_pattern r_mo_atom r_mo_anyOf r_mo_unit d hr_mo_joined hr_mo_pattern hr_mo_atom hr_mo_anyOf hr_mo_unit t0 v3 q1.2 so _ g0 g3 hs
    · refine e_izN cd_22_37 rfl c3 ?_
      refine e_ild cd_22_40 g5 ?_
      refine k_if hs (fun c4 hs => ?_) (fun c4 hs => ?_)
      · refine e_izJ cd_22_42 rfl c4 ?_
        exact tie_mo_anyOf_139 r_mo_joined r_mo_pattern r_mo_atom r_mo_anyOf r_mo_unit d hr_mo_joined hr_mo_pattern hr_mo_atom hr_mo_anyOf hr_mo_unit t0 v3 q1.2 so _ g0 g3 hs
      · refine e_izN cd_22_42 rfl c4 ?_
        refine e_aldn cd_22_45 g0 ?_
        refine e_ildn cd_22_46 g1 ?_
        refine e_const cd_22_47 ci_1 ?_
        refine e_pure cd_22_48 rfl ?_
        obtain ⟨q5, h6, hs⟩ := k_bind hs
        refine e_cvi cd_22_49 kd_22_190 rfl rfl rfl rfl rfl nl_20 rfl rfl (hr_mo_pattern t0 (v1 + 1) q1.2 _ h6) ?_
        refine e_iK cd_22_52 nl_22 rfl rfl ?_
        intro _ gn kp
        have u7 := kp 0 _ g0 rfl rfl
        have u8 := kp 1 _ g1 rfl rfl
        have u9 := kp 3 _ g3 rfl rfl
        have u10 := kp 4 _ g4 rfl rfl
        have u11 := gn
        refine e_aldn cd_22_54 u7 ?_
        obtain ⟨q12, h13, hs⟩ := k_bind hs
        refine e_cvi cd_22_55 kd_22_160 rfl rfl rfl rfl rfl nl_11 rfl rfl (tie_mo_fine d t0 q5.2 _ h13) ?_
        refine k_if hs (fun c14 hs => ?_) (fun c14 hs => ?_)
        · refine e_izN cd_22_58 rfl (fun q => q c14) ?_
          refine e_ildn cd_22_61 u9 ?_
          have e := Option.some.inj hs
          subst e
          exact e_ri cd_22_62 nr_22
        · refine e_izJ cd_22_58 rfl c14 ?_
          refine e_aldn cd_22_63 u7 ?_
          refine e_ildn cd_22_64 u9 ?_
          refine e_ild cd_22_65 u11 ?_
          obtain ⟨q15, h16, hs⟩ := k_bind hs
          refine e_cvi cd_22_67 kd_22_167 rfl rfl rfl rfl rfl nl_16 rfl rfl (tie_mo_puts d t0 v3 q5.1 q12.2 _ h16) ?_
          refine k_let hs (fun x17 e18 hs => ?_)
          refine e_incK cd_22_70 nl_22 rfl u10 ci_1 e18 ?_
          intro _ gn kp
          have u19 := kp 0 _ u7 rfl rfl
          have u20 := kp 1 _ u8 rfl rfl
          have u21 := kp 3 _ u9 rfl rfl
          have u22 := gn
          refine e_aldn cd_22_73 u19 ?_
          obtain ⟨q23, h24, hs⟩ := k_bind hs
          refine e_cvi cd_22_74 kd_22_138 rfl rfl rfl rfl rfl nl_9 rfl rfl (tie_mo_look d t0 q15 _ h24) ?_
          refine e_bip cd_22_77 cb_38 ?_
          refine k_if hs (fun c25 hs => ?_) (fun c25 hs => ?_)
          · refine e_icN cd_22_79 rfl (fun q => q c25) ?_
            refine e_ild cd_22_82 u22 ?_
            refine e_const cd_22_84 ci_4 ?_
            refine k_if hs (fun c26 hs => ?_) (fun c26 hs => ?_)
            · refine e_icJ cd_22_85 rfl c26 ?_
              exact tie_mo_anyOf_92 r_mo_joined r_mo_pattern r_mo_atom r_mo_anyOf r_mo_unit (fun p0 p1 p2 p3 p4 m => mo_anyOf_33 r_mo_joined r_mo_pattern r_mo_atom r_mo_anyOf r_mo_unit d fuel p0 p1 p2 p3 p4 m) d hr_mo_joined hr_mo_pattern hr_mo_atom hr_mo_anyOf hr_mo_unit ih t0 v1 v3 x17 q23.2 so _ u19 u20 u21 u22 hs
            · refine e_icN cd_22_85 rfl c26 ?_
              refine e_const cd_22_88 ci_1 ?_
              refine e_goto cd_22_89 rfl ?_
              exact tie_mo_anyOf_93 r_mo_joined r_mo_pattern r_mo_atom r_mo_anyOf r_mo_unit (fun p0 p1 p2 p3 p4 m => mo_anyOf_33 r_mo_joined r_mo_pattern r_mo_atom r_mo_anyOf r_mo_unit d fuel p0 p1 p2 p3 p4 m) d hr_mo_joined hr_mo_pattern hr_mo_atom hr_mo_anyOf hr_mo_unit ih t0 v1 v3 x17 1 q23.2 so _ u19 u20 u21 u22 hs
          · refine e_icJ cd_22_79 rfl c25 ?_
            exact tie_mo_anyOf_92 r_mo_joined r_mo_pattern r_mo_atom r_mo_anyOf r_mo_unit (fun p0 p1 p2 p3 p4 m => mo_anyOf_33 r_mo_joined r_mo_pattern r_mo_atom r_mo_anyOf r_mo_unit d fuel p0 p1 p2 p3 p4 m) d hr_mo_joined hr_mo_pattern hr_mo_atom hr_mo_anyOf hr_mo_unit ih t0 v1 v3 x17 q23.2 so _ u19 u20 u21 u22 hs
theorem tieb_mo_anyOf (r_mo_joined : Nat → Int32 → Int32 → Int32 → zM → Option (Int32 × zM)) (r_mo_pattern : Nat → Int32 → zM → Option (Int32 × zM)) (r_mo_atom : Nat → Int32 → zM → Option (Int32 × zM)) (r_mo_anyOf : Nat → Int32 → zM → Option (Int32 × zM)) (r_mo_unit : Nat → Int32 → zM → Option (Int32 × zM)) (d : Nat) (hr_mo_joined : ∀ a0 a1 a2 a3 M so, r_mo_joined a0 a1 a2 a3 M = some so → Ev zq_T d 19 0 (zl_args 0 [.inr (.inr (12, some a0)), .inl a1, .inl a2, .inl a3]) [] M (some (.inl so.1), so.2)) (hr_mo_pattern : ∀ a0 a1 M so, r_mo_pattern a0 a1 M = some so → Ev zq_T d 20 0 (zl_args 0 [.inr (.inr (12, some a0)), .inl a1]) [] M (some (.inl so.1), so.2)) (hr_mo_atom : ∀ a0 a1 M so, r_mo_atom a0 a1 M = some so → Ev zq_T d 21 0 (zl_args 0 [.inr (.inr (12, some a0)), .inl a1]) [] M (some (.inl so.1), so.2)) (hr_mo_anyOf : ∀ a0 a1 M so, r_mo_anyOf a0 a1 M = some so → Ev zq_T d 22 0 (zl_args 0 [.inr (.inr (12, some a0)), .inl a1]) [] M (some (.inl so.1), so.2)) (hr_mo_unit : ∀ a0 a1 M so, r_mo_unit a0 a1 M = some so → Ev zq_T d 23 0 (zl_args 0 [.inr (.inr (12, some a0)), .inl a1]) [] M (some (.inl so.1), so.2)) (a0 : Nat) (a1 : Int32) (M : zM) (so : Int32 × zM) (hs : mo_anyOf_b r_mo_joined r_mo_pattern r_mo_atom r_mo_anyOf r_mo_unit d a0 a1 M = some so) : Ev zq_T (d + 1) 22 0 (zl_args 0 [.inr (.inr (12, some a0)), .inl a1]) [] M (some (.inl so.1), so.2) := by
  unfold mo_anyOf_b at hs
  have g0 : zl_get (zl_args 0 [.inr (.inr (12, some a0)), .inl a1]) 0 = some (.inr (.inr (12, (some a0)))) := rfl
  have g1 : zl_get (zl_args 0 [.inr (.inr (12, some a0)), .inl a1]) 1 = some (.inl a1) := rfl
  refine e_aldn cd_22_0 g0 ?_
  refine e_const cd_22_1 ci_4 ?_
  obtain ⟨q1, h2, hs⟩ := k_bind hs
  refine e_cvi cd_22_2 kd_22_184 rfl rfl rfl rfl rfl nl_18 rfl rfl (tie_mo_more d a0 4 M _ h2) ?_
  refine e_iKn cd_22_5 nl_22 rfl rfl ?_
  intro _ gn kp
  have u3 := kp 0 _ g0 rfl rfl
  have u4 := kp 1 _ g1 rfl rfl
  have u5 := gn
  refine e_aldn cd_22_6 u3 ?_
  refine e_const cd_22_7 ci_4 ?_
  refine e_ildn cd_22_8 u5 ?_
  obtain ⟨q6, h7, hs⟩ := k_bind hs
  refine e_cvi cd_22_9 kd_22_164 rfl rfl rfl rfl rfl nl_15 rfl rfl (tie_mo_opens d a0 4 q1.1 q1.2 _ h7) ?_
  refine e_iKn cd_22_12 nl_22 rfl rfl ?_
  intro _ gn kp
  have u8 := kp 0 _ u3 rfl rfl
  have u9 := kp 1 _ u4 rfl rfl
  have u10 := kp 2 _ u5 rfl rfl
  have u11 := gn
  refine e_aldn cd_22_13 u8 ?_
  refine e_getR cd_22_14 fd_22_41 rfl ?_
  refine e_const cd_22_17 ci_4 ?_
  refine e_aldn cd_22_18 u8 ?_
  refine e_getI cd_22_19 (Or.inl fd_22_150) rfl ?_
  refine e_pure cd_22_22 rfl ?_
  refine e_ildn cd_22_23 u10 ?_
  refine e_pure cd_22_24 rfl ?_
  refine e_ildn cd_22_25 u11 ?_
  refine k_opt hs (fun _ q => nomatch q) (fun k12 h13 hs => ?_)
  obtain ⟨c14, hs⟩ := z_ite hs
  refine k_let hs (fun M15 e16 hs => ?_)
  refine e_iast cd_22_26 rfl h13 c14 e16 ?_
  refine e_const cd_22_27 ci_0 ?_
  refine e_iK cd_22_28 nl_22 rfl rfl ?_
  intro _ gn kp
  have u17 := kp 0 _ u8 rfl rfl
  have u18 := kp 1 _ u9 rfl rfl
  have u19 := kp 3 _ u11 rfl rfl
  have u20 := gn
  refine e_const cd_22_30 ci_1 ?_
  refine e_iK cd_22_31 nl_22 rfl rfl ?_
  intro _ gn kp
  have u21 := kp 0 _ u17 rfl rfl
  have u22 := kp 1 _ u18 rfl rfl
  have u23 := kp 3 _ u19 rfl rfl
  have u24 := kp 4 _ u20 rfl rfl
  have u25 := gn
  exact tie_mo_anyOf_33 r_mo_joined r_mo_pattern r_mo_atom r_mo_anyOf r_mo_unit d hr_mo_joined hr_mo_pattern hr_mo_atom hr_mo_anyOf hr_mo_unit zLF a0 a1 q6.1 0 1 M15 so _ u21 u22 u23 u24 u25 hs
theorem tie_mo_unit_73 (r_mo_joined : Nat → Int32 → Int32 → Int32 → zM → Option (Int32 × zM)) (r_mo_pattern : Nat → Int32 → zM → Option (Int32 × zM)) (r_mo_atom : Nat → Int32 → zM → Option (Int32 × zM)) (r_mo_anyOf : Nat → Int32 → zM → Option (Int32 × zM)) (r_mo_unit : Nat → Int32 → zM → Option (Int32 × zM)) (d : Nat) (hr_mo_joined : ∀ a0 a1 a2 a3 M so, r_mo_joined a0 a1 a2 a3 M = some so → Ev zq_T d 19 0 (zl_args 0 [.inr (.inr (12, some a0)), .inl a1, .inl a2, .inl a3]) [] M (some (.inl so.1), so.2)) (hr_mo_pattern : ∀ a0 a1 M so, r_mo_pattern a0 a1 M = some so → Ev zq_T d 20 0 (zl_args 0 [.inr (.inr (12, some a0)), .inl a1]) [] M (some (.inl so.1), so.2)) (hr_mo_atom : ∀ a0 a1 M so, r_mo_atom a0 a1 M = some so → Ev zq_T d 21 0 (zl_args 0 [.inr (.inr (12, some a0)), .inl a1]) [] M (some (.inl so.1), so.2)) (hr_mo_anyOf : ∀ a0 a1 M so, r_mo_anyOf a0 a1 M = some so → Ev zq_T d 22 0 (zl_args 0 [.inr (.inr (12, some a0)), .inl a1]) [] M (some (.inl so.1), so.2)) (hr_mo_unit : ∀ a0 a1 M so, r_mo_unit a0 a1 M = some so → Ev zq_T d 23 0 (zl_args 0 [.inr (.inr (12, some a0)), .inl a1]) [] M (some (.inl so.1), so.2)) (t0 : Nat) (v2 : Int32) (M : zM) (so : Int32 × zM) (ls : List (Nat × zV)) (g0 : zl_get ls 0 = some (.inr (.inr (12, (some t0))))) (g2 : zl_get ls 2 = some (.inl v2)) (hs : mo_unit_73 r_mo_joined r_mo_pattern r_mo_atom r_mo_anyOf r_mo_unit d t0 v2 M = some so) : Ev zq_T (d + 1) 23 73 ls [] M (some (.inl so.1), so.2) := by
  unfold mo_unit_73 at hs
  refine e_aldn cd_23_73 g0 ?_
  refine e_aldn cd_23_74 g0 ?_
  refine e_getI cd_23_75 (Or.inl fd_23_128) rfl ?_
  obtain ⟨q1, h2, hs⟩ := k_bind hs
  refine e_cvi cd_23_78 kd_23_181 rfl rfl rfl rfl rfl nl_10 rfl rfl (tie_mo_fails d t0 (zm_I M 12 t0 3) M _ h2) ?_
  refine e_ildn cd_23_81 g2 ?_
  have e := Option.some.inj hs
  subst e
  exact e_ri cd_23_82 nr_23
theorem tie_mo_unit_207 (r_mo_joined : Nat → Int32 → Int32 → Int32 → zM → Option (Int32 × zM)) (r_mo_pattern : Nat → Int32 → zM → Option (Int32 × zM)) (r_mo_atom : Nat → Int32 → zM → Option (Int32 × zM)) (r_mo_anyOf : Nat → Int32 → zM → Option (Int32 × zM)) (r_mo_unit : Nat → Int32 → zM → Option (Int32 × zM)) (d : Nat) (hr_mo_joined : ∀ a0 a1 a2 a3 M so, r_mo_joined a0 a1 a2 a3 M = some so → Ev zq_T d 19 0 (zl_args 0 [.inr (.inr (12, some a0)), .inl a1, .inl a2, .inl a3]) [] M (some (.inl so.1), so.2)) (hr_mo_pattern : ∀ a0 a1 M so, r_mo_pattern a0 a1 M = some so → Ev zq_T d 20 0 (zl_args 0 [.inr (.inr (12, some a0)), .inl a1]) [] M (some (.inl so.1), so.2)) (hr_mo_atom : ∀ a0 a1 M so, r_mo_atom a0 a1 M = some so → Ev zq_T d 21 0 (zl_args 0 [.inr (.inr (12, some a0)), .inl a1]) [] M (some (.inl so.1), so.2)) (hr_mo_anyOf : ∀ a0 a1 M so, r_mo_anyOf a0 a1 M = some so → Ev zq_T d 22 0 (zl_args 0 [.inr (.inr (12, some a0)), .inl a1]) [] M (some (.inl so.1), so.2)) (hr_mo_unit : ∀ a0 a1 M so, r_mo_unit a0 a1 M = some so → Ev zq_T d 23 0 (zl_args 0 [.inr (.inr (12, some a0)), .inl a1]) [] M (some (.inl so.1), so.2)) (v5 : Int32) (M : zM) (so : Int32 × zM) (ls : List (Nat × zV)) (g5 : zl_get ls 5 = some (.inl v5)) (hs : mo_unit_207 r_mo_joined r_mo_pattern r_mo_atom r_mo_anyOf r_mo_unit d v5 M = some so) : Ev zq_T (d + 1) 23 207 ls [] M (some (.inl so.1), so.2) := by
  unfold mo_unit_207 at hs
  refine e_ild cd_23_207 g5 ?_
  have e := Option.some.inj hs
  subst e
  exact e_ri cd_23_209 nr_23
theorem tie_mo_unit_183 (r_mo_joined : Nat → Int32 → Int32 → Int32 → zM → Option (Int32 × zM)) (r_mo_pattern : Nat → Int32 → zM → Option (Int32 × zM)) (r_mo_atom : Nat → Int32 → zM → Option (Int32 × zM)) (r_mo_anyOf : Nat → Int32 → zM → Option (Int32 × zM)) (r_mo_unit : Nat → Int32 → zM → Option (Int32 × zM)) (d : Nat) (hr_mo_joined : ∀ a0 a1 a2 a3 M so, r_mo_joined a0 a1 a2 a3 M = some so → Ev zq_T d 19 0 (zl_args 0 [.inr (.inr (12, some a0)), .inl a1, .inl a2, .inl a3]) [] M (some (.inl so.1), so.2)) (hr_mo_pattern : ∀ a0 a1 M so, r_mo_pattern a0 a1 M = some so → Ev zq_T d 20 0 (zl_args 0 [.inr (.inr (12, some a0)), .inl a1]) [] M (some (.inl so.1), so.2)) (hr_mo_atom : ∀ a0 a1 M so, r_mo_atom a0 a1 M = some so → Ev zq_T d 21 0 (zl_args 0 [.inr (.inr (12, some a0)), .inl a1]) [] M (some (.inl so.1), so.2)) (hr_mo_anyOf : ∀ a0 a1 M so, r_mo_anyOf a0 a1 M = some so → Ev zq_T d 22 0 (zl_args 0 [.inr (.inr (12, some a0)), .inl a1]) [] M (some (.inl so.1), so.2)) (hr_mo_unit : ∀ a0 a1 M so, r_mo_unit a0 a1 M = some so → Ev zq_T d 23 0 (zl_args 0 [.inr (.inr (12, some a0)), .inl a1]) [] M (some (.inl so.1), so.2)) (t0 : Nat) (v3 : Int32) (v5 : Int32) (v6 : Int32) (s0 : Option Nat) (s1 : Int32) (s2 : Int32) (M : zM) (so : Int32 × zM) (ls : List (Nat × zV)) (g0 : zl_get ls 0 = some (.inr (.inr (12, (some t0))))) (g3 : zl_get ls 3 = some (.inl v3)) (g5 : zl_get ls 5 = some (.inl v5)) (g6 : zl_get ls 6 = some (.inl v6)) (hs : mo_unit_183 r_mo_joined r_mo_pattern r_mo_atom r_mo_anyOf r_mo_unit d t0 v3 v5 v6 s0 s1 s2 M = some so) : Ev zq_T (d + 1) 23 183 ls [.inl s2, .inl s1, .inr (.inr (20, s0))] M (some (.inl so.1), so.2) := by
  unfold mo_unit_183 at hs
  refine k_opt hs (fun _ q => nomatch q) (fun k1 h2 hs => ?_)
  obtain ⟨c3, hs⟩ := z_ite hs
  refine k_let hs (fun M4 e5 hs => ?_)
  refine e_iast cd_23_183 rfl h2 c3 e5 ?_
  refine e_aldn cd_23_184 g0 ?_
  refine e_getR cd_23_185 fd_23_29 rfl ?_
  refine e_ild cd_23_188 g6 ?_
  refine e_const cd_23_190 ci_2 ?_
  refine e_pure cd_23_191 rfl ?_
  refine e_ild cd_23_192 g5 ?_
  refine k_opt hs (fun _ q => nomatch q) (fun k6 h7 hs => ?_)
  obtain ⟨c8, hs⟩ := z_ite hs
  refine k_let hs (fun M9 e10 hs => ?_)
  refine e_iast cd_23_194 rfl h7 c8 e10 ?_
  refine e_ildn cd_23_195 g3 ?_
  refine e_bip cd_23_196 cb_123 ?_
  refine k_if hs (fun c11 hs => ?_) (fun c11 hs => ?_)
  · refine e_icN cd_23_198 rfl (fun q => q c11) ?_
    refine e_aldn cd_23_201 g0 ?_
    refine e_ild cd_23_202 g6 ?_
    obtain ⟨q12, h13, hs⟩ := k_bind hs
    refine e_cvi cd_23_204 kd_23_196 rfl rfl rfl rfl rfl nl_25 rfl rfl (tie_mo_bounds d t0 v6 M9 _ h13) ?_
    exact tie_mo_unit_207 r_mo_joined r_mo_pattern r_mo_atom r_mo_anyOf r_mo_unit d hr_mo_joined hr_mo_pattern hr_mo_atom hr_mo_anyOf hr_mo_unit v5 q12 so _ g5 hs
  · refine e_icJ cd_23_198 rfl c11 ?_
    exact tie_mo_unit_207 r_mo_joined r_mo_pattern r_mo_atom r_mo_anyOf r_mo_unit d hr_mo_joined hr_mo_pattern hr_mo_atom hr_mo_anyOf hr_mo_unit v5 M9 so _ g5 hs
theorem tie_mo_unit_163 (r_mo_joined : Nat → Int32 → Int32 → Int32 → zM → Option (Int32 × zM)) (r_mo_pattern : Nat → Int32 → zM → Option (Int32 × zM)) (r_mo_atom : Nat → Int32 → zM → Option (Int32 × zM)) (r_mo_anyOf : Nat → Int32 → zM → Option (Int32 × zM)) (r_mo_unit : Nat → Int32 → zM → Option (Int32 × zM)) (d : Nat) (hr_mo_joined : ∀ a0 a1 a2 a3 M so, r_mo_joined a0 a1 a2 a3 M = some so → Ev zq_T d 19 0 (zl_args 0 [.inr (.inr (12, some a0)), .inl a1, .inl a2, .inl a3]) [] M (some (.inl so.1), so.2)) (hr_mo_pattern : ∀ a0 a1 M so, r_mo_pattern a0 a1 M = some so → Ev zq_T d 20 0 (zl_args 0 [.inr (.inr (12, some a0)), .inl a1]) [] M (some (.inl so.1), so.2)) (hr_mo_atom : ∀ a0 a1 M so, r_mo_atom a0 a1 M = some so → Ev zq_T d 21 0 (zl_args 0 [.inr (.inr (12, some a0)), .inl a1]) [] M (some (.inl so.1), so.2)) (hr_mo_anyOf : ∀ a0 a1 M so, r_mo_anyOf a0 a1 M = some so → Ev zq_T d 22 0 (zl_args 0 [.inr (.inr (12, some a0)), .inl a1]) [] M (some (.inl so.1), so.2)) (hr_mo_unit : ∀ a0 a1 M so, r_mo_unit a0 a1 M = some so → Ev zq_T d 23 0 (zl_args 0 [.inr (.inr (12, some a0)), .inl a1]) [] M (some (.inl so.1), so.2)) (t0 : Nat) (v3 : Int32) (v5 : Int32) (v6 : Int32) (s0 : Option Nat) (s1 : Int32) (s2 : Int32) (M : zM) (so : Int32 × zM) (ls : List (Nat × zV)) (g0 : zl_get ls 0 = some (.inr (.inr (12, (some t0))))) (g3 : zl_get ls 3 = some (.inl v3)) (g5 : zl_get ls 5 = some (.inl v5)) (g6 : zl_get ls 6 = some (.inl v6)) (hs : mo_unit_163 r_mo_joined r_mo_pattern r_mo_atom r_mo_anyOf r_mo_unit d t0 v3 v5 v6 s0 s1 s2 M = some so) : Ev zq_T (d + 1) 23 163 ls [.inl s2, .inl s1, .inr (.inr (20, s0))] M (some (.inl so.1), so.2) := by
  unfold mo_unit_163 at hs
  refine k_opt hs (fun _ q => nomatch q) (fun k1 h2 hs => ?_)
  obtain ⟨c3, hs⟩ := z_ite hs
  refine k_let hs (fun M4 e5 hs => ?_)
  refine e_iast cd_23_163 rfl h2 c3 e5 ?_
  refine e_aldn cd_23_164 g0 ?_
  refine e_getR cd_23_165 fd_23_29 rfl ?_
  refine e_ild cd_23_168 g6 ?_
  refine e_const cd_23_170 ci_1 ?_
  refine e_pure cd_23_171 rfl ?_
  refine e_ildn cd_23_172 g3 ?_
  refine e_bip cd_23_173 cb_63 ?_
  refine k_if hs (fun c6 hs => ?_) (fun c6 hs => ?_)
  · refine e_icN cd_23_175 rfl (fun q => q c6) ?_
    refine e_const cd_23_178 ci_1 ?_
    refine e_goto cd_23_179 rfl ?_
    exact tie_mo_unit_183 r_mo_joined r_mo_pattern r_mo_atom r_mo_anyOf r_mo_unit d hr_mo_joined hr_mo_pattern hr_mo_atom hr_mo_anyOf hr_mo_unit t0 v3 v5 v6 (zm_R M4 12 t0 10) (v6 + 1) 1 M4 so _ g0 g3 g5 g6 hs
  · refine e_icJ cd_23_175 rfl c6 ?_
    refine e_const cd_23_182 ci_m1 ?_
    exact tie_mo_unit_183 r_mo_joined r_mo_pattern r_mo_atom r_mo_anyOf r_mo_unit d hr_mo_joined hr_mo_pattern hr_mo_atom hr_mo_anyOf hr_mo_unit t0 v3 v5 v6 (zm_R M4 12 t0 10) (v6 + 1) (-1) M4 so _ g0 g3 g5 g6 hs
set_option maxRecDepth 100000 in
theorem tie_mo_unit_48 (r_mo_joined : Nat → Int32 → Int32 → Int32 → zM → Option (Int32 × zM)) (r_mo_pattern : Nat → Int32 → zM → Option (Int32 × zM)) (r_mo_atom : Nat → Int32 → zM → Option (Int32 × zM)) (r_mo_anyOf : Nat → Int32 → zM → Option (Int32 × zM)) (r_mo_unit : Nat → Int32 → zM → Option (Int32 × zM)) (d : Nat) (hr_mo_joined : ∀ a0 a1 a2 a3 M so, r_mo_joined a0 a1 a2 a3 M = some so → Ev zq_T d 19 0 (zl_args 0 [.inr (.inr (12, some a0)), .inl a1, .inl a2, .inl a3]) [] M (some (.inl so.1), so.2)) (hr_mo_pattern : ∀ a0 a1 M so, r_mo_pattern a0 a1 M = some so → Ev zq_T d 20 0 (zl_args 0 [.inr (.inr (12, some a0)), .inl a1]) [] M (some (.inl so.1), so.2)) (hr_mo_atom : ∀ a0 a1 M so, r_mo_atom a0 a1 M = some so → Ev zq_T d 21 0 (zl_args 0 [.inr (.inr (12, some a0)), .inl a1]) [] M (some (.inl so.1), so.2)) (hr_mo_anyOf : ∀ a0 a1 M so, r_mo_anyOf a0 a1 M = some so → Ev zq_T d 22 0 (zl_args 0 [.inr (.inr (12, some a0)), .inl a1]) [] M (some (.inl so.1), so.2)) (hr_mo_unit : ∀ a0 a1 M so, r_mo_unit a0 a1 M = some so → Ev zq_T d 23 0 (zl_args 0 [.inr (.inr (12, some a0)), .inl a1]) [] M (some (.inl so.1), so.2)) (t0 : Nat) (v2 : Int32) (v3 : Int32) (M : zM) (so : Int32 × zM) (ls : List (Nat × zV)) (g0 : zl_get ls 0 = some (.inr (.inr (12, (some t0))))) (g2 : zl_get ls 2 = some (.inl v2)) (g3 : zl_get ls 3 = some (.inl v3)) (hs : mo_unit_48 r_mo_joined r_mo_pattern r_mo_atom r_mo_anyOf r_mo_unit d t0 v2 v3 M = some so) : Ev zq_T (d + 1) 23 48 ls [] M (some (.inl so.1), so.2) := by
  unfold mo_unit_48 at hs
  refine e_aldn cd_23_48 g0 ?_
  refine e_getR cd_23_49 fd_23_17 rfl ?_
  refine e_bip cd_23_52 cb_6 ?_
  refine e_ildn cd_23_54 g2 ?_
  refine e_pure cd_23_55 rfl ?_
  refine e_const cd_23_56 ci_5 ?_
  refine e_pure cd_23_57 rfl ?_
  refine k_opt hs (fun _ q => nomatch q) (fun k1 h2 hs => ?_)
  obtain ⟨c3, hs⟩ := z_ite hs
  refine e_iald cd_23_58 rfl h2 c3 ?_
  refine e_const cd_23_59 ci_2 ?_
  refine k_if hs (fun c4 hs => ?_) (fun c4 hs => ?_)
  · refine e_icJ cd_23_60 rfl c4 ?_
    exact tie_mo_unit_73 r_mo_joined r_mo_pattern r_mo_atom r_mo_anyOf r_mo_unit d hr_mo_joined hr_mo_pattern hr_mo_atom hr_mo_anyOf hr_mo_unit t0 v2 M so _ g0 g2 hs
  · refine e_icN cd_23_60 rfl c4 ?_
    refine e_aldn cd_23_63 g0 ?_
    refine e_const cd_23_64 ci_3 ?_
    obtain ⟨q5, h6, hs⟩ := k_bind hs
    refine e_cvi cd_23_65 kd_23_178 rfl rfl rfl rfl rfl nl_17 rfl rfl (tie_mo_many d t0 3 M _ h6) ?_
    refine e_bip cd_23_68 cbb_8 ?_
    refine k_if hs (fun c7 hs => ?_) (fun c7 hs => ?_)
    · refine e_icN cd_23_70 rfl (fun q => q c7) ?_
      exact tie_mo_unit_73 r_mo_joined r_mo_pattern r_mo_atom r_mo_anyOf r_mo_unit d hr_mo_joined hr_mo_pattern hr_mo_atom hr_mo_anyOf hr_mo_unit t0 v2 q5.2 so _ g0 g2 hs
    · refine e_icJ cd_23_70 rfl c7 ?_
      refine e_aldn cd_23_83 g0 ?_
      refine e_pure cd_23_84 rfl ?_
      refine e_getI cd_23_85 (Or.inl fd_23_128) rfl ?_
      refine e_const cd_23_88 ci_1 ?_
      refine e_pure cd_23_89 rfl ?_
      refine k_let hs (fun M8 e9 hs => ?_)
      refine e_putI cd_23_90 pd_23_128 rfl e9 ?_
      refine e_aldn cd_23_93 g0 ?_
      refine e_const cd_23_94 ci_3 ?_
      obtain ⟨q10, h11, hs⟩ := k_bind hs
      refine e_cvi cd_23_95 kd_23_184 rfl rfl rfl rfl rfl nl_18 rfl rfl (tie_mo_more d t0 3 M8 _ h11) ?_
      refine e_iK cd_23_98 nl_23 rfl rfl ?_
      intro _ gn kp
      have u12 := kp 0 _ g0 rfl rfl
      have u13 := kp 2 _ g2 rfl rfl
      have u14 := kp 3 _ g3 rfl rfl
      have u15 := gn
      refine e_aldn cd_23_100 u12 ?_
      refine e_const cd_23_101 ci_5 ?_
      refine e_ild cd_23_102 u15 ?_
      obtain ⟨q16, h17, hs⟩ := k_bind hs
      refine e_cvi cd_23_104 kd_23_164 rfl rfl rfl rfl rfl nl_15 rfl rfl (tie_mo_opens d t0 5 q10.1 q10.2 _ h17) ?_
      refine e_iK cd_23_107 nl_23 rfl rfl ?_
      intro _ gn kp
      have u18 := kp 0 _ u12 rfl rfl
      have u19 := kp 2 _ u13 rfl rfl
      have u20 := kp 3 _ u14 rfl rfl
      have u21 := kp 4 _ u15 rfl rfl
      have u22 := gn
      refine e_aldn cd_23_109 u18 ?_
      refine e_ild cd_23_110 u22 ?_
      refine e_ildn cd_23_112 u19 ?_
      obtain ⟨q23, h24, hs⟩ := k_bind hs
      refine e_cvi cd_23_113 kd_23_167 rfl rfl rfl rfl rfl nl_16 rfl rfl (tie_mo_puts d t0 q16.1 v2 q16.2 _ h24) ?_
      refine e_aldn cd_23_116 u18 ?_
      refine e_getR cd_23_117 fd_23_17 rfl ?_
      refine e_bip cd_23_120 cb_6 ?_
      refine e_ild cd_23_122 u22 ?_
      refine e_pure cd_23_124 rfl ?_
      refine e_const cd_23_125 ci_5 ?_
      refine e_pure cd_23_126 rfl ?_
      refine e_pure cd_23_127 rfl ?_
      refine k_opt hs (fun _ q => nomatch q) (fun k25 h26 hs => ?_)
      obtain ⟨c27, hs⟩ := z_ite hs
      refine e_iald cd_23_128 rfl h26 c27 ?_
      refine e_const cd_23_129 ci_1 ?_
      refine e_pure cd_23_130 rfl ?_
      obtain ⟨c28, hs⟩ := z_ite hs
      refine k_let hs (fun M29 e30 hs => ?_)
      refine e_iast cd_23_131 rfl h26 c28 e30 ?_
      refine e_const cd_23_132 ci_3 ?_
      refine e_bip cd_23_133 cbb_8 ?_
      refine e_aldn cd_23_135 u18 ?_
      refine e_getI cd_23_136 (Or.inl fd_23_150) rfl ?_
      refine e_pure cd_23_139 rfl ?_
      refine e_ild cd_23_140 u21 ?_
      refine e_pure cd_23_142 rfl ?_
      refine e_pure cd_23_143 rfl ?_
      refine k_let hs (fun x31 e32 hs => ?_)
      refine e_iK cd_23_144 nl_23 rfl e32 ?_
      intro _ gn kp
      have u33 := kp 0 _ u18 rfl rfl
      have u34 := kp 3 _ u20 rfl rfl
      have u35 := kp 5 _ u22 rfl rfl
      have u36 := gn
      refine e_aldn cd_23_146 u33 ?_
      refine e_getR cd_23_147 fd_23_29 rfl ?_
      refine e_ild cd_23_150 u36 ?_
      refine e_ildn cd_23_152 u34 ?_
      refine e_bip cd_23_153 cb_43 ?_
      refine k_if hs (fun c37 hs => ?_) (fun c37 hs => ?_)
      · refine e_icN cd_23_155 rfl (fun q => q c37) ?_
        refine e_const cd_23_158 ci_1 ?_
        refine e_goto cd_23_159 rfl ?_
        exact tie_mo_unit_163 r_mo_joined r_mo_pattern r_mo_atom r_mo_anyOf r_mo_unit d hr_mo_joined hr_mo_pattern hr_mo_atom hr_mo_anyOf hr_mo_unit t0 v3 q16.1 x31 (zm_R M29 12 t0 10) x31 1 M29 so _ u33 u34 u35 u36 hs
      · refine e_icJ cd_23_155 rfl c37 ?_
        refine e_const cd_23_162 ci_0 ?_
        exact tie_mo_unit_163 r_mo_joined r_mo_pattern r_mo_atom r_mo_anyOf r_mo_unit d hr_mo_joined hr_mo_pattern hr_mo_atom hr_mo_anyOf hr_mo_unit t0 v3 q16.1 x31 (zm_R M29 12 t0 10) x31 0 M29 so _ u33 u34 u35 u36 hs
theorem tie_mo_unit_21 (r_mo_joined : Nat → Int32 → Int32 → Int32 → zM → Option (Int32 × zM)) (r_mo_pattern : Nat → Int32 → zM → Option (Int32 × zM)) (r_mo_atom : Nat → Int32 → zM → Option (Int32 × zM)) (r_mo_anyOf : Nat → Int32 → zM → Option (Int32 × zM)) (r_mo_unit : Nat → Int32 → zM → Option (Int32 × zM)) (d : Nat) (hr_mo_joined : ∀ a0 a1 a2 a3 M so, r_mo_joined a0 a1 a2 a3 M = some so → Ev zq_T d 19 0 (zl_args 0 [.inr (.inr (12, some a0)), .inl a1, .inl a2, .inl a3]) [] M (some (.inl so.1), so.2)) (hr_mo_pattern : ∀ a0 a1 M so, r_mo_pattern a0 a1 M = some so → Ev zq_T d 20 0 (zl_args 0 [.inr (.inr (12, some a0)), .inl a1]) [] M (some (.inl so.1), so.2)) (hr_mo_atom : ∀ a0 a1 M so, r_mo_atom a0 a1 M = some so → Ev zq_T d 21 0 (zl_args 0 [.inr (.inr (12, some a0)), .inl a1]) [] M (some (.inl so.1), so.2)) (hr_mo_anyOf : ∀ a0 a1 M so, r_mo_anyOf a0 a1 M = some so → Ev zq_T d 22 0 (zl_args 0 [.inr (.inr (12, some a0)), .inl a1]) [] M (some (.inl so.1), so.2)) (hr_mo_unit : ∀ a0 a1 M so, r_mo_unit a0 a1 M = some so → Ev zq_T d 23 0 (zl_args 0 [.inr (.inr (12, some a0)), .inl a1]) [] M (some (.inl so.1), so.2)) (t0 : Nat) (v2 : Int32) (s0 : Int32) (M : zM) (so : Int32 × zM) (ls : List (Nat × zV)) (g0 : zl_get ls 0 = some (.inr (.inr (12, (some t0))))) (g2 : zl_get ls 2 = some (.inl v2)) (hs : mo_unit_21 r_mo_joined r_mo_pattern r_mo_atom r_mo_anyOf r_mo_unit d t0 v2 s0 M = some so) : Ev zq_T (d + 1) 23 21 ls [.inl s0] M (some (.inl so.1), so.2) := by
  unfold mo_unit_21 at hs
  refine e_iKn cd_23_21 nl_23 rfl rfl ?_
  intro _ gn kp
  have u1 := kp 0 _ g0 rfl rfl
  have u2 := kp 2 _ g2 rfl rfl
  have u3 := gn
  refine e_ildn cd_23_22 u3 ?_
  refine e_bip cd_23_23 cb_63 ?_
  refine k_if hs (fun c4 hs => ?_) (fun c4 hs => ?_)
  · refine e_icJ cd_23_25 rfl c4 ?_
    exact tie_mo_unit_48 r_mo_joined r_mo_pattern r_mo_atom r_mo_anyOf r_mo_unit d hr_mo_joined hr_mo_pattern hr_mo_atom hr_mo_anyOf hr_mo_unit t0 v2 s0 M so _ u1 u2 u3 hs
  · refine e_icN cd_23_25 rfl c4 ?_
    refine e_ildn cd_23_28 u3 ?_
    refine e_bip cd_23_29 cb_42 ?_
    refine k_if hs (fun c5 hs => ?_) (fun c5 hs => ?_)
    · refine e_icJ cd_23_31 rfl c5 ?_
      exact tie_mo_unit_48 r_mo_joined r_mo_pattern r_mo_atom r_mo_anyOf r_mo_unit d hr_mo_joined hr_mo_pattern hr_mo_atom hr_mo_anyOf hr_mo_unit t0 v2 s0 M so _ u1 u2 u3 hs
    · refine e_icN cd_23_31 rfl c5 ?_
      refine e_ildn cd_23_34 u3 ?_
      refine e_bip cd_23_35 cb_43 ?_
      refine k_if hs (fun c6 hs => ?_) (fun c6 hs => ?_)
      · refine e_icJ cd_23_37 rfl c6 ?_
        exact tie_mo_unit_48 r_mo_joined r_mo_pattern r_mo_atom r_mo_anyOf r_mo_unit d hr_mo_joined hr_mo_pattern hr_mo_atom hr_mo_anyOf hr_mo_unit t0 v2 s0 M so _ u1 u2 u3 hs
      · refine e_icN cd_23_37 rfl c6 ?_
        refine e_ildn cd_23_40 u3 ?_
        refine e_bip cd_23_41 cb_123 ?_
        refine k_if hs (fun c7 hs => ?_) (fun c7 hs => ?_)
        · refine e_icJ cd_23_43 rfl c7 ?_
          exact tie_mo_unit_48 r_mo_joined r_mo_pattern r_mo_atom r_mo_anyOf r_mo_unit d hr_mo_joined hr_mo_pattern hr_mo_atom hr_mo_anyOf hr_mo_unit t0 v2 s0 M so _ u1 u2 u3 hs
        · refine e_icN cd_23_43 rfl c7 ?_
          refine e_ildn cd_23_46 u2 ?_
          have e := Option.some.inj hs
          subst e
          exact e_ri cd_23_47 nr_23
theorem tieb_mo_unit (r_mo_joined : Nat → Int32 → Int32 → Int32 → zM → Option (Int32 × zM)) (r_mo_pattern : Nat → Int32 → zM → Option (Int32 × zM)) (r_mo_atom : Nat → Int32 → zM → Option (Int32 × zM)) (r_mo_anyOf : Nat → Int32 → zM → Option (Int32 × zM)) (r_mo_unit : Nat → Int32 → zM → Option (Int32 × zM)) (d : Nat) (hr_mo_joined : ∀ a0 a1 a2 a3 M so, r_mo_joined a0 a1 a2 a3 M = some so → Ev zq_T d 19 0 (zl_args 0 [.inr (.inr (12, some a0)), .inl a1, .inl a2, .inl a3]) [] M (some (.inl so.1), so.2)) (hr_mo_pattern : ∀ a0 a1 M so, r_mo_pattern a0 a1 M = some so → Ev zq_T d 20 0 (zl_args 0 [.inr (.inr (12, some a0)), .inl a1]) [] M (some (.inl so.1), so.2)) (hr_mo_atom : ∀ a0 a1 M so, r_mo_atom a0 a1 M = some so → Ev zq_T d 21 0 (zl_args 0 [.inr (.inr (12, some a0)), .inl a1]) [] M (some (.inl so.1), so.2)) (hr_mo_anyOf : ∀ a0 a1 M so, r_mo_anyOf a0 a1 M = some so → Ev zq_T d 22 0 (zl_args 0 [.inr (.inr (12, some a0)), .inl a1]) [] M (some (.inl so.1), so.2)) (hr_mo_unit : ∀ a0 a1 M so, r_mo_unit a0 a1 M = some so → Ev zq_T d 23 0 (zl_args 0 [.inr (.inr (12, some a0)), .inl a1]) [] M (some (.inl so.1), so.2)) (a0 : Nat) (a1 : Int32) (M : zM) (so : Int32 × zM) (hs : mo_unit_b r_mo_joined r_mo_pattern r_mo_atom r_mo_anyOf r_mo_unit d a0 a1 M = some so) : Ev zq_T (d + 1) 23 0 (zl_args 0 [.inr (.inr (12, some a0)), .inl a1]) [] M (some (.inl so.1), so.2) := by
  unfold mo_unit_b at hs
  have g0 : zl_get (zl_args 0 [.inr (.inr (12, some a0)), .inl a1]) 0 = some (.inr (.inr (12, (some a0)))) := rfl
  have g1 : zl_get (zl_args 0 [.inr (.inr (12, some a0)), .inl a1]) 1 = some (.inl a1) := rfl
  refine e_aldn cd_23_0 g0 ?_
  refine e_ildn cd_23_1 g1 ?_
  obtain ⟨q1, h2, hs⟩ := k_bind hs
  refine e_cvi cd_23_2 kd_23_193 rfl rfl rfl rfl rfl nl_21 rfl rfl (hr_mo_atom a0 a1 M _ h2) ?_
  refine e_iKn cd_23_5 nl_23 rfl rfl ?_
  intro _ gn kp
  have u3 := kp 0 _ g0 rfl rfl
  have u4 := gn
  refine e_aldn cd_23_6 u3 ?_
  obtain ⟨q5, h6, hs⟩ := k_bind hs
  refine e_cvi cd_23_7 kd_23_160 rfl rfl rfl rfl rfl nl_11 rfl rfl (tie_mo_fine d a0 q1.2 _ h6) ?_
  refine k_if hs (fun c7 hs => ?_) (fun c7 hs => ?_)
  · refine e_izJ cd_23_10 rfl c7 ?_
    refine e_const cd_23_20 ci_m1 ?_
    exact tie_mo_unit_21 r_mo_joined r_mo_pattern r_mo_atom r_mo_anyOf r_mo_unit d hr_mo_joined hr_mo_pattern hr_mo_atom hr_mo_anyOf hr_mo_unit a0 q1.1 (-1) q5.2 so _ u3 u4 hs
  · refine e_izN cd_23_10 rfl c7 ?_
    refine e_aldn cd_23_13 u3 ?_
    obtain ⟨q8, h9, hs⟩ := k_bind hs
    refine e_cvi cd_23_14 kd_23_138 rfl rfl rfl rfl rfl nl_9 rfl rfl (tie_mo_look d a0 q5.2 _ h9) ?_
    refine e_goto cd_23_17 rfl ?_
    exact tie_mo_unit_21 r_mo_joined r_mo_pattern r_mo_atom r_mo_anyOf r_mo_unit d hr_mo_joined hr_mo_pattern hr_mo_atom hr_mo_anyOf hr_mo_unit a0 q1.1 q8.1 q8.2 so _ u3 u4 hs
theorem tieg_gmo_joined (d : Nat) : (∀ (a0 : Nat) (a1 : Int32) (a2 : Int32) (a3 : Int32) (M : zM) (so : Int32 × zM), (gmo_joined d).1 a0 a1 a2 a3 M = some so → Ev zq_T d 19 0 (zl_args 0 [.inr (.inr (12, some a0)), .inl a1, .inl a2, .inl a3]) [] M (some (.inl so.1), so.2)) ∧ (∀ (a0 : Nat) (a1 : Int32) (M : zM) (so : Int32 × zM), (gmo_joined d).2.1 a0 a1 M = some so → Ev zq_T d 20 0 (zl_args 0 [.inr (.inr (12, some a0)), .inl a1]) [] M (some (.inl so.1), so.2)) ∧ (∀ (a0 : Nat) (a1 : Int32) (M : zM) (so : Int32 × zM), (gmo_joined d).2.2.1 a0 a1 M = some so → Ev zq_T d 21 0 (zl_args 0 [.inr (.inr (12, some a0)), .inl a1]) [] M (some (.inl so.1), so.2)) ∧ (∀ (a0 : Nat) (a1 : Int32) (M : zM) (so : Int32 × zM), (gmo_joined d).2.2.2.1 a0 a1 M = some so → Ev zq_T d 22 0 (zl_args 0 [.inr (.inr (12, some a0)), .inl a1]) [] M (some (.inl so.1), so.2)) ∧ (∀ (a0 : Nat) (a1 : Int32) (M : zM) (so : Int32 × zM), (gmo_joined d).2.2.2.2 a0 a1 M = some so → Ev zq_T d 23 0 (zl_args 0 [.inr (.inr (12, some a0)), .inl a1]) [] M (some (.inl so.1), so.2)) := by
  induction d with
  | zero => exact ⟨(fun a0 a1 a2 a3 M so hs => nomatch hs), (fun a0 a1 M so hs => nomatch hs), (fun a0 a1 M so hs => nomatch hs), (fun a0 a1 M so hs => nomatch hs), (fun a0 a1 M so hs => nomatch hs)⟩
  | succ d ih => exact ⟨fun a0 a1 a2 a3 M so hs => tieb_mo_joined (gmo_joined d).1 (gmo_joined d).2.1 (gmo_joined d).2.2.1 (gmo_joined d).2.2.2.1 (gmo_joined d).2.2.2.2 d ih.1 ih.2.1 ih.2.2.1 ih.2.2.2.1 ih.2.2.2.2 a0 a1 a2 a3 M so hs, fun a0 a1 M so hs => tieb_mo_pattern (gmo_joined d).1 (gmo_joined d).2.1 (gmo_joined d).2.2.1 (gmo_joined d).2.2.2.1 (gmo_joined d).2.2.2.2 d ih.1 ih.2.1 ih.2.2.1 ih.2.2.2.1 ih.2.2.2.2 a0 a1 M so hs, fun a0 a1 M so hs => tieb_mo_atom (gmo_joined d).1 (gmo_joined d).2.1 (gmo_joined d).2.2.1 (gmo_joined d).2.2.2.1 (gmo_joined d).2.2.2.2 d ih.1 ih.2.1 ih.2.2.1 ih.2.2.2.1 ih.2.2.2.2 a0 a1 M so hs, fun a0 a1 M so hs => tieb_mo_anyOf (gmo_joined d).1 (gmo_joined d).2.1 (gmo_joined d).2.2.1 (gmo_joined d).2.2.2.1 (gmo_joined d).2.2.2.2 d ih.1 ih.2.1 ih.2.2.1 ih.2.2.2.1 ih.2.2.2.2 a0 a1 M so hs, fun a0 a1 M so hs => tieb_mo_unit (gmo_joined d).1 (gmo_joined d).2.1 (gmo_joined d).2.2.1 (gmo_joined d).2.2.2.1 (gmo_joined d).2.2.2.2 d ih.1 ih.2.1 ih.2.2.1 ih.2.2.2.1 ih.2.2.2.2 a0 a1 M so hs⟩
theorem tie_mo_joined (d : Nat) (a0 : Nat) (a1 : Int32) (a2 : Int32) (a3 : Int32) (M : zM) (so : Int32 × zM) (hs : mo_joined d a0 a1 a2 a3 M = some so) : Ev zq_T d 19 0 (zl_args 0 [.inr (.inr (12, some a0)), .inl a1, .inl a2, .inl a3]) [] M (some (.inl so.1), so.2) := (tieg_gmo_joined d).1 a0 a1 a2 a3 M so hs
theorem tie_mo_pattern (d : Nat) (a0 : Nat) (a1 : Int32) (M : zM) (so : Int32 × zM) (hs : mo_pattern d a0 a1 M = some so) : Ev zq_T d 20 0 (zl_args 0 [.inr (.inr (12, some a0)), .inl a1]) [] M (some (.inl so.1), so.2) := (tieg_gmo_joined d).2.1 a0 a1 M so hs
theorem tie_mo_atom (d : Nat) (a0 : Nat) (a1 : Int32) (M : zM) (so : Int32 × zM) (hs : mo_atom d a0 a1 M = some so) : Ev zq_T d 21 0 (zl_args 0 [.inr (.inr (12, some a0)), .inl a1]) [] M (some (.inl so.1), so.2) := (tieg_gmo_joined d).2.2.1 a0 a1 M so hs
theorem tie_mo_anyOf (d : Nat) (a0 : Nat) (a1 : Int32) (M : zM) (so : Int32 × zM) (hs : mo_anyOf d a0 a1 M = some so) : Ev zq_T d 22 0 (zl_args 0 [.inr (.inr (12, some a0)), .inl a1]) [] M (some (.inl so.1), so.2) := (tieg_gmo_joined d).2.2.2.1 a0 a1 M so hs
theorem tie_mo_unit (d : Nat) (a0 : Nat) (a1 : Int32) (M : zM) (so : Int32 × zM) (hs : mo_unit d a0 a1 M = some so) : Ev zq_T d 23 0 (zl_args 0 [.inr (.inr (12, some a0)), .inl a1]) [] M (some (.inl so.1), so.2) := (tieg_gmo_joined d).2.2.2.2 a0 a1 M so hs
theorem tie_mo_oneRule_44 (kl12 : Nat → Int32 → Int32 → Int32 → zM → Option (zM)) (d : Nat) (hk12 : ∀ (t0 : Nat) (v1 : Int32) (v2 : Int32) (v3 : Int32) (M : zM) (so : zM) (ls : List (Nat × zV)), zl_get ls 0 = some (.inr (.inr (12, (some t0)))) → zl_get ls 1 = some (.inl v1) → zl_get ls 2 = some (.inl v2) → zl_get ls 3 = some (.inl v3) → kl12 t0 v1 v2 v3 M = some so → Ev zq_T (d + 1) 26 12 ls [] M (none, so)) (t0 : Nat) (v1 : Int32) (v3 : Int32) (s0 : Int32) (M : zM) (so : zM) (ls : List (Nat × zV)) (g0 : zl_get ls 0 = some (.inr (.inr (12, (some t0))))) (g1 : zl_get ls 1 = some (.inl v1)) (g3 : zl_get ls 3 = some (.inl v3)) (hs : mo_oneRule_44 kl12 d t0 v1 v3 s0 M = some so) : Ev zq_T (d + 1) 26 44 ls [.inl s0] M (none, so) := by
  unfold mo_oneRule_44 at hs
  refine e_iKn cd_26_44 nl_26 rfl rfl ?_
  intro _ gn kp
  have u1 := kp 0 _ g0 rfl rfl
  have u2 := kp 1 _ g1 rfl rfl
  have u3 := kp 3 _ g3 rfl rfl
  have u4 := gn
  refine k_let hs (fun x5 e6 hs => ?_)
  refine e_incK cd_26_45 nl_26 rfl u3 ci_1 e6 ?_
  intro _ gn kp
  have u7 := kp 0 _ u1 rfl rfl
  have u8 := kp 1 _ u2 rfl rfl
  have u9 := kp 2 _ u4 rfl rfl
  have u10 := gn
  refine e_goto cd_26_48 rfl ?_
  exact hk12 t0 v1 s0 x5 M so _ u7 u8 u9 u10 hs
theorem tie_mo_oneRule_43 (kl12 : Nat → Int32 → Int32 → Int32 → zM → Option (zM)) (d : Nat) (hk12 : ∀ (t0 : Nat) (v1 : Int32) (v2 : Int32) (v3 : Int32) (M : zM) (so : zM) (ls : List (Nat × zV)), zl_get ls 0 = some (.inr (.inr (12, (some t0)))) → zl_get ls 1 = some (.inl v1) → zl_get ls 2 = some (.inl v2) → zl_get ls 3 = some (.inl v3) → kl12 t0 v1 v2 v3 M = some so → Ev zq_T (d + 1) 26 12 ls [] M (none, so)) (t0 : Nat) (v1 : Int32) (v3 : Int32) (M : zM) (so : zM) (ls : List (Nat × zV)) (g0 : zl_get ls 0 = some (.inr (.inr (12, (some t0))))) (g1 : zl_get ls 1 = some (.inl v1)) (g3 : zl_get ls 3 = some (.inl v3)) (hs : mo_oneRule_43 kl12 d t0 v1 v3 M = some so) : Ev zq_T (d + 1) 26 43 ls [] M (none, so) := by
  unfold mo_oneRule_43 at hs
  refine e_const cd_26_43 ci_0 ?_
  exact tie_mo_oneRule_44 kl12 d hk12 t0 v1 v3 0 M so _ g0 g1 g3 hs
theorem tie_mo_oneRule_76  (d : Nat)  : ∀ (fuel : Nat) (t0 : Nat) (v1 : Int32) (v3 : Int32) (M : zM) (so : zM) (ls : List (Nat × zV)), zl_get ls 0 = some (.inr (.inr (12, (some t0)))) → zl_get ls 1 = some (.inl v1) → zl_get ls 3 = some (.inl v3) → mo_oneRule_76  d fuel t0 v1 v3 M = some so → Ev zq_T (d + 1) 26 76 ls [] M (none, so) := by
  intro fuel
  induction fuel with
  | zero => intro t0 v1 v3 M so ls g0 g1 g3 hs; exact nomatch hs
  | succ fuel ih =>
    intro t0 v1 v3 M so ls g0 g1 g3 hs
    unfold mo_oneRule_76 at hs
    refine e_ildn cd_26_76 g3 ?_
    refine e_const cd_26_77 ci_5 ?_
    refine k_if hs (fun c1 hs => ?_) (fun c1 hs => ?_)
    · refine e_icJ cd_26_78 rfl c1 ?_
      refine e_aldn cd_26_101 g0 ?_
      refine e_getR cd_26_102 fd_26_23 rfl ?_
      refine e_const cd_26_105 ci_5 ?_
      refine e_aldn cd_26_106 g0 ?_
      refine e_getI cd_26_107 (Or.inl fd_26_150) rfl ?_
      refine e_pure cd_26_110 rfl ?_
      refine e_ildn cd_26_111 g1 ?_
      refine e_bip cd_26_112 cb_97 ?_
      refine e_pure cd_26_114 rfl ?_
      refine k_opt hs (fun _ q => nomatch q) (fun k2 h3 hs => ?_)
      obtain ⟨c4, hs⟩ := z_ite hs
      refine k_let hs (fun M5 e6 hs => ?_)
      refine e_iast cd_26_115 rfl h3 c4 e6 ?_
      refine e_aldn cd_26_116 g0 ?_
      refine e_bip cd_26_117 cb_61 ?_
      obtain ⟨q7, h8, hs⟩ := k_bind hs
      refine e_cvi cd_26_119 kd_26_171 rfl rfl rfl rfl rfl nl_12 rfl rfl (tie_mo_takes d t0 61 M5 _ h8) ?_
      refine k_if hs (fun c9 hs => ?_) (fun c9 hs => ?_)
      · refine e_izN cd_26_122 rfl (fun q => q c9) ?_
        refine e_aldn cd_26_125 g0 ?_
        refine e_aldn cd_26_126 g0 ?_
        refine e_getI cd_26_127 (Or.inl fd_26_128) rfl ?_
        obtain ⟨q10, h11, hs⟩ := k_bind hs
        refine e_cvi cd_26_130 kd_26_181 rfl rfl rfl rfl rfl nl_10 rfl rfl (tie_mo_fails d t0 (zm_I q7.2 12 t0 3) q7.2 _ h11) ?_
        have e := Option.some.inj hs
        subst e
        exact e_rv cd_26_133 nr_26
      · refine e_izJ cd_26_122 rfl c9 ?_
        refine e_aldn cd_26_134 g0 ?_
        refine e_const cd_26_135 ci_0 ?_
        obtain ⟨q12, h13, hs⟩ := k_bind hs
        refine e_cvi cd_26_136 kd_26_190 rfl rfl rfl rfl rfl nl_20 rfl rfl (tie_mo_pattern d t0 0 q7.2 _ h13) ?_
        refine e_iKn cd_26_139 nl_26 rfl rfl ?_
        intro _ gn kp
        have u14 := kp 0 _ g0 rfl rfl
        have u15 := gn
        refine e_aldn cd_26_140 u14 ?_
        refine e_getR cd_26_141 fd_26_23 rfl ?_
        refine e_const cd_26_144 ci_5 ?_
        refine e_aldn cd_26_145 u14 ?_
        refine e_getI cd_26_146 (Or.inl fd_26_150) rfl ?_
        refine e_pure cd_26_149 rfl ?_
        refine e_const cd_26_150 ci_1 ?_
        refine e_pure cd_26_151 rfl ?_
        refine e_ildn cd_26_152 u15 ?_
        refine k_opt hs (fun _ q => nomatch q) (fun k16 h17 hs => ?_)
        obtain ⟨c18, hs⟩ := z_ite hs
        refine k_let hs (fun M19 e20 hs => ?_)
        refine e_iast cd_26_153 rfl h17 c18 e20 ?_
        have e := Option.some.inj hs
        subst e
        exact e_rv cd_26_154 nr_26
    · refine e_icN cd_26_78 rfl c1 ?_
      refine e_aldn cd_26_81 g0 ?_
      refine e_getR cd_26_82 fd_26_23 rfl ?_
      refine e_const cd_26_85 ci_5 ?_
      refine e_aldn cd_26_86 g0 ?_
      refine e_getI cd_26_87 (Or.inl fd_26_150) rfl ?_
      refine e_pure cd_26_90 rfl ?_
      refine e_ildn cd_26_91 g3 ?_
      refine e_pure cd_26_92 rfl ?_
      refine e_const cd_26_93 ci_0 ?_
      refine k_opt hs (fun _ q => nomatch q) (fun k21 h22 hs => ?_)
      obtain ⟨c23, hs⟩ := z_ite hs
      refine k_let hs (fun M24 e25 hs => ?_)
      refine e_iast cd_26_94 rfl h22 c23 e25 ?_
      refine k_let hs (fun x26 e27 hs => ?_)
      refine e_incK cd_26_95 nl_26 rfl g3 ci_1 e27 ?_
      intro _ gn kp
      have u28 := kp 0 _ g0 rfl rfl
      have u29 := kp 1 _ g1 rfl rfl
      have u30 := gn
      refine e_goto cd_26_98 rfl ?_
      exact ih t0 v1 x26 M24 so _ u28 u29 u30 hs
theorem tie_mo_oneRule_12  (d : Nat)  : ∀ (fuel : Nat) (t0 : Nat) (v1 : Int32) (v2 : Int32) (v3 : Int32) (M : zM) (so : zM) (ls : List (Nat × zV)), zl_get ls 0 = some (.inr (.inr (12, (some t0)))) → zl_get ls 1 = some (.inl v1) → zl_get ls 2 = some (.inl v2) → zl_get ls 3 = some (.inl v3) → mo_oneRule_12  d fuel t0 v1 v2 v3 M = some so → Ev zq_T (d + 1) 26 12 ls [] M (none, so) := by
  intro fuel
  induction fuel with
  | zero => intro t0 v1 v2 v3 M so ls g0 g1 g2 g3 hs; exact nomatch hs
  | succ fuel ih =>
    intro t0 v1 v2 v3 M so ls g0 g1 g2 g3 hs
    unfold mo_oneRule_12 at hs
    refine e_ildn cd_26_12 g3 ?_
    refine e_aldn cd_26_13 g0 ?_
    refine e_getI cd_26_14 (Or.inl fd_26_150) rfl ?_
    refine k_if hs (fun c1 hs => ?_) (fun c1 hs => ?_)
    · refine e_icJ cd_26_17 rfl c1 ?_
      refine e_ildn cd_26_51 g2 ?_
      refine k_if hs (fun c2 hs => ?_) (fun c2 hs => ?_)
      · refine e_izN cd_26_52 rfl (fun q => q c2) ?_
        refine e_aldn cd_26_55 g0 ?_
        refine e_aldn cd_26_56 g0 ?_
        refine e_getI cd_26_57 (Or.inl fd_26_128) rfl ?_
        obtain ⟨q3, h4, hs⟩ := k_bind hs
        refine e_cvi cd_26_60 kd_26_181 rfl rfl rfl rfl rfl nl_10 rfl rfl (tie_mo_fails d t0 (zm_I M 12 t0 3) M _ h4) ?_
        have e := Option.some.inj hs
        subst e
        exact e_rv cd_26_63 nr_26
      · refine e_izJ cd_26_52 rfl c2 ?_
        refine e_aldn cd_26_64 g0 ?_
        refine e_pure cd_26_65 rfl ?_
        refine e_getI cd_26_66 (Or.inl fd_26_128) rfl ?_
        refine e_const cd_26_69 ci_1 ?_
        refine e_pure cd_26_70 rfl ?_
        refine k_let hs (fun M5 e6 hs => ?_)
        refine e_putI cd_26_71 pd_26_128 rfl e6 ?_
        refine e_const cd_26_74 ci_0 ?_
        refine e_iKn cd_26_75 nl_26 rfl rfl ?_
        intro _ gn kp
        have u7 := kp 0 _ g0 rfl rfl
        have u8 := kp 1 _ g1 rfl rfl
        have u9 := gn
        exact tie_mo_oneRule_76  d  zLF t0 v1 0 M5 so _ u7 u8 u9 hs
    · refine e_icN cd_26_17 rfl c1 ?_
      refine e_ildn cd_26_20 g2 ?_
      refine k_if hs (fun c10 hs => ?_) (fun c10 hs => ?_)
      · refine e_izJ cd_26_21 rfl c10 ?_
        exact tie_mo_oneRule_43 (fun p0 p1 p2 p3 m => mo_oneRule_12  d fuel p0 p1 p2 p3 m) d ih t0 v1 v3 M so _ g0 g1 g3 hs
      · refine e_izN cd_26_21 rfl c10 ?_
        refine e_aldn cd_26_24 g0 ?_
        refine e_getR cd_26_25 fd_26_23 rfl ?_
        refine e_const cd_26_28 ci_5 ?_
        refine e_ildn cd_26_29 g3 ?_
        refine e_pure cd_26_30 rfl ?_
        refine k_opt hs (fun _ q => nomatch q) (fun k11 h12 hs => ?_)
        obtain ⟨c13, hs⟩ := z_ite hs
        refine e_iald cd_26_31 rfl h12 c13 ?_
        refine e_ildn cd_26_32 g1 ?_
        refine e_bip cd_26_33 cb_97 ?_
        refine e_pure cd_26_35 rfl ?_
        refine k_if hs (fun c14 hs => ?_) (fun c14 hs => ?_)
        · refine e_icJ cd_26_36 rfl c14 ?_
          exact tie_mo_oneRule_43 (fun p0 p1 p2 p3 m => mo_oneRule_12  d fuel p0 p1 p2 p3 m) d ih t0 v1 v3 M so _ g0 g1 g3 hs
        · refine e_icN cd_26_36 rfl c14 ?_
          refine e_const cd_26_39 ci_1 ?_
          refine e_goto cd_26_40 rfl ?_
          exact tie_mo_oneRule_44 (fun p0 p1 p2 p3 m => mo_oneRule_12  d fuel p0 p1 p2 p3 m) d ih t0 v1 v3 1 M so _ g0 g1 g3 hs
theorem tieb_mo_oneRule  (d : Nat)  (a0 : Nat) (M : zM) (so : zM) (hs : mo_oneRule_b  d a0 M = some so) : Ev zq_T (d + 1) 26 0 (zl_args 0 [.inr (.inr (12, some a0))]) [] M (none, so) := by
  unfold mo_oneRule_b at hs
  have g0 : zl_get (zl_args 0 [.inr (.inr (12, some a0))]) 0 = some (.inr (.inr (12, (some a0)))) := rfl
  refine e_aldn cd_26_0 g0 ?_
  obtain ⟨q1, h2, hs⟩ := k_bind hs
  refine e_cvi cd_26_1 kd_26_138 rfl rfl rfl rfl rfl nl_9 rfl rfl (tie_mo_look d a0 M _ h2) ?_
  refine e_iKn cd_26_4 nl_26 rfl rfl ?_
  intro _ gn kp
  have u3 := kp 0 _ g0 rfl rfl
  have u4 := gn
  refine e_ildn cd_26_5 u4 ?_
  obtain ⟨q5, h6, hs⟩ := k_bind hs
  refine e_cst cd_26_6 kd_26_175 rfl rfl rfl nl_13 rfl rfl (tie_mo_isLetter d q1.1 q1.2 _ h6) ?_
  refine e_iKn cd_26_9 nl_26 rfl rfl ?_
  intro _ gn kp
  have u7 := kp 0 _ u3 rfl rfl
  have u8 := kp 1 _ u4 rfl rfl
  have u9 := gn
  refine e_const cd_26_10 ci_0 ?_
  refine e_iKn cd_26_11 nl_26 rfl rfl ?_
  intro _ gn kp
  have u10 := kp 0 _ u7 rfl rfl
  have u11 := kp 1 _ u8 rfl rfl
  have u12 := kp 2 _ u9 rfl rfl
  have u13 := gn
  exact tie_mo_oneRule_12  d  zLF a0 q1.1 q5.1 0 q5.2 so _ u10 u11 u12 u13 hs
theorem tie_mo_oneRule (d : Nat) (a0 : Nat) (M : zM) (so : zM) (hs : mo_oneRule d a0 M = some so) : Ev zq_T d 26 0 (zl_args 0 [.inr (.inr (12, some a0))]) [] M (none, so) := by
  cases d with
  | zero => exact nomatch hs
  | succ d => exact tieb_mo_oneRule d a0 M so hs
theorem tie_mo_readsRules_70 (kl22 : Nat → Int32 → zM → Option (Int32 × zM)) (d : Nat) (hk22 : ∀ (t0 : Nat) (v1 : Int32) (M : zM) (so : Int32 × zM) (ls : List (Nat × zV)), zl_get ls 0 = some (.inr (.inr (12, (some t0)))) → zl_get ls 1 = some (.inl v1) → kl22 t0 v1 M = some so → Ev zq_T (d + 1) 27 22 ls [] M (some (.inl so.1), so.2)) (t0 : Nat) (s0 : Int32) (M : zM) (so : Int32 × zM) (ls : List (Nat × zV)) (g0 : zl_get ls 0 = some (.inr (.inr (12, (some t0))))) (hs : mo_readsRules_70 kl22 d t0 s0 M = some so) : Ev zq_T (d + 1) 27 70 ls [.inl s0] M (some (.inl so.1), so.2) := by
  unfold mo_readsRules_70 at hs
  refine e_iKn cd_27_70 nl_27 rfl rfl ?_
  intro _ gn kp
  have u1 := kp 0 _ g0 rfl rfl
  have u2 := gn
  refine e_ildn cd_27_71 u2 ?_
  refine k_if hs (fun c3 hs => ?_) (fun c3 hs => ?_)
  · refine e_izJ cd_27_72 rfl c3 ?_
    refine e_aldn cd_27_88 u1 ?_
    obtain ⟨q4, h5, hs⟩ := k_bind hs
    refine e_cvi cd_27_89 kd_27_160 rfl rfl rfl rfl rfl nl_11 rfl rfl (tie_mo_fine d t0 M _ h5) ?_
    refine k_if hs (fun c6 hs => ?_) (fun c6 hs => ?_)
    · refine e_izJ cd_27_92 rfl c6 ?_
      exact hk22 t0 s0 q4.2 so _ u1 u2 hs
    · refine e_izN cd_27_92 rfl c6 ?_
      refine e_aldn cd_27_95 u1 ?_
      obtain ⟨q7, h8, hs⟩ := k_bind hs
      refine e_cvi cd_27_96 kd_27_138 rfl rfl rfl rfl rfl nl_9 rfl rfl (tie_mo_look d t0 q4.2 _ h8) ?_
      refine e_const cd_27_99 ci_m1 ?_
      refine k_if hs (fun c9 hs => ?_) (fun c9 hs => ?_)
      · refine e_icJ cd_27_100 rfl c9 ?_
        exact hk22 t0 s0 q7.2 so _ u1 u2 hs
      · refine e_icN cd_27_100 rfl c9 ?_
        refine e_aldn cd_27_103 u1 ?_
        refine e_aldn cd_27_104 u1 ?_
        refine e_getI cd_27_105 (Or.inl fd_27_128) rfl ?_
        obtain ⟨q10, h11, hs⟩ := k_bind hs
        refine e_cvi cd_27_108 kd_27_181 rfl rfl rfl rfl rfl nl_10 rfl rfl (tie_mo_fails d t0 (zm_I q7.2 12 t0 3) q7.2 _ h11) ?_
        refine e_goto cd_27_111 rfl ?_
        exact hk22 t0 s0 q10 so _ u1 u2 hs
  · refine e_izN cd_27_72 rfl c3 ?_
    refine e_aldn cd_27_75 u1 ?_
    refine e_pure cd_27_76 rfl ?_
    refine e_getI cd_27_77 (Or.inl fd_27_128) rfl ?_
    refine e_const cd_27_80 ci_1 ?_
    refine e_pure cd_27_81 rfl ?_
    refine k_let hs (fun M12 e13 hs => ?_)
    refine e_putI cd_27_82 pd_27_128 rfl e13 ?_
    refine e_goto cd_27_85 rfl ?_
    exact hk22 t0 s0 M12 so _ u1 u2 hs
theorem tie_mo_readsRules_69 (kl22 : Nat → Int32 → zM → Option (Int32 × zM)) (d : Nat) (hk22 : ∀ (t0 : Nat) (v1 : Int32) (M : zM) (so : Int32 × zM) (ls : List (Nat × zV)), zl_get ls 0 = some (.inr (.inr (12, (some t0)))) → zl_get ls 1 = some (.inl v1) → kl22 t0 v1 M = some so → Ev zq_T (d + 1) 27 22 ls [] M (some (.inl so.1), so.2)) (t0 : Nat) (M : zM) (so : Int32 × zM) (ls : List (Nat × zV)) (g0 : zl_get ls 0 = some (.inr (.inr (12, (some t0))))) (hs : mo_readsRules_69 kl22 d t0 M = some so) : Ev zq_T (d + 1) 27 69 ls [] M (some (.inl so.1), so.2) := by
  unfold mo_readsRules_69 at hs
  refine e_const cd_27_69 ci_0 ?_
  exact tie_mo_readsRules_70 kl22 d hk22 t0 0 M so _ g0 hs
theorem tie_mo_readsRules_22  (d : Nat)  : ∀ (fuel : Nat) (t0 : Nat) (v1 : Int32) (M : zM) (so : Int32 × zM) (ls : List (Nat × zV)), zl_get ls 0 = some (.inr (.inr (12, (some t0)))) → zl_get ls 1 = some (.inl v1) → mo_readsRules_22  d fuel t0 v1 M = some so → Ev zq_T (d + 1) 27 22 ls [] M (some (.inl so.1), so.2) := by
  intro fuel
  induction fuel with
  | zero => intro t0 v1 M so ls g0 g1 hs; exact nomatch hs
  | succ fuel ih =>
    intro t0 v1 M so ls g0 g1 hs
    unfold mo_readsRules_22 at hs
    refine e_ildn cd_27_22 g1 ?_
    refine k_if hs (fun c1 hs => ?_) (fun c1 hs => ?_)
    · refine e_izJ cd_27_23 rfl c1 ?_
      refine e_aldn cd_27_114 g0 ?_
      refine e_getI cd_27_115 (Or.inl fd_27_135) rfl ?_
      have e := Option.some.inj hs
      subst e
      exact e_ri cd_27_118 nr_27
    · refine e_izN cd_27_23 rfl c1 ?_
      refine e_aldn cd_27_26 g0 ?_
      obtain ⟨q2, h3, hs⟩ := k_bind hs
      refine e_cvi cd_27_27 kd_27_211 rfl rfl rfl rfl rfl nl_26 rfl rfl (tie_mo_oneRule d t0 M _ h3) ?_
      refine e_aldn cd_27_30 g0 ?_
      refine e_pure cd_27_31 rfl ?_
      refine e_getI cd_27_32 (Or.inl fd_27_150) rfl ?_
      refine e_const cd_27_35 ci_1 ?_
      refine e_pure cd_27_36 rfl ?_
      refine k_let hs (fun M4 e5 hs => ?_)
      refine e_putI cd_27_37 pd_27_150 rfl e5 ?_
      refine e_aldn cd_27_40 g0 ?_
      obtain ⟨q6, h7, hs⟩ := k_bind hs
      refine e_cvi cd_27_41 kd_27_160 rfl rfl rfl rfl rfl nl_11 rfl rfl (tie_mo_fine d t0 M4 _ h7) ?_
      refine k_if hs (fun c8 hs => ?_) (fun c8 hs => ?_)
      · refine e_izJ cd_27_44 rfl c8 ?_
        exact tie_mo_readsRules_69 (fun p0 p1 m => mo_readsRules_22  d fuel p0 p1 m) d ih t0 q6.2 so _ g0 hs
      · refine e_izN cd_27_44 rfl c8 ?_
        refine e_aldn cd_27_47 g0 ?_
        obtain ⟨q9, h10, hs⟩ := k_bind hs
        refine e_cvi cd_27_48 kd_27_138 rfl rfl rfl rfl rfl nl_9 rfl rfl (tie_mo_look d t0 q6.2 _ h10) ?_
        refine e_bip cd_27_51 cb_59 ?_
        refine k_if hs (fun c11 hs => ?_) (fun c11 hs => ?_)
        · refine e_icN cd_27_53 rfl (fun q => q c11) ?_
          refine e_aldn cd_27_56 g0 ?_
          refine e_getI cd_27_57 (Or.inl fd_27_150) rfl ?_
          refine e_bip cd_27_60 cbb_8 ?_
          refine k_if hs (fun c12 hs => ?_) (fun c12 hs => ?_)
          · refine e_icJ cd_27_62 rfl c12 ?_
            exact tie_mo_readsRules_69 (fun p0 p1 m => mo_readsRules_22  d fuel p0 p1 m) d ih t0 q9.2 so _ g0 hs
          · refine e_icN cd_27_62 rfl c12 ?_
            refine e_const cd_27_65 ci_1 ?_
            refine e_goto cd_27_66 rfl ?_
            exact tie_mo_readsRules_70 (fun p0 p1 m => mo_readsRules_22  d fuel p0 p1 m) d ih t0 1 q9.2 so _ g0 hs
        · refine e_icJ cd_27_53 rfl c11 ?_
          exact tie_mo_readsRules_69 (fun p0 p1 m => mo_readsRules_22  d fuel p0 p1 m) d ih t0 q9.2 so _ g0 hs
theorem tieb_mo_readsRules  (d : Nat)  (a0 : Nat) (M : zM) (so : Int32 × zM) (hs : mo_readsRules_b  d a0 M = some so) : Ev zq_T (d + 1) 27 0 (zl_args 0 [.inr (.inr (12, some a0))]) [] M (some (.inl so.1), so.2) := by
  unfold mo_readsRules_b at hs
  have g0 : zl_get (zl_args 0 [.inr (.inr (12, some a0))]) 0 = some (.inr (.inr (12, (some a0)))) := rfl
  refine e_aldn cd_27_0 g0 ?_
  refine e_const cd_27_1 ci_0 ?_
  refine k_let hs (fun M1 e2 hs => ?_)
  refine e_putI cd_27_2 pd_27_128 rfl e2 ?_
  refine e_aldn cd_27_5 g0 ?_
  refine e_const cd_27_6 ci_m1 ?_
  refine k_let hs (fun M3 e4 hs => ?_)
  refine e_putI cd_27_7 pd_27_135 rfl e4 ?_
  refine e_aldn cd_27_10 g0 ?_
  refine e_const cd_27_11 ci_0 ?_
  refine k_let hs (fun M5 e6 hs => ?_)
  refine e_putI cd_27_12 pd_27_150 rfl e6 ?_
  refine e_aldn cd_27_15 g0 ?_
  refine e_const cd_27_16 ci_0 ?_
  refine k_let hs (fun M7 e8 hs => ?_)
  refine e_putI cd_27_17 pd_27_141 rfl e8 ?_
  refine e_const cd_27_20 ci_1 ?_
  refine e_iKn cd_27_21 nl_27 rfl rfl ?_
  intro _ gn kp
  have u9 := kp 0 _ g0 rfl rfl
  have u10 := gn
  exact tie_mo_readsRules_22  d  zLF a0 1 M7 so _ u9 u10 hs
theorem tie_mo_readsRules (d : Nat) (a0 : Nat) (M : zM) (so : Int32 × zM) (hs : mo_readsRules d a0 M = some so) : Ev zq_T d 27 0 (zl_args 0 [.inr (.inr (12, some a0))]) [] M (some (.inl so.1), so.2) := by
  cases d with
  | zero => exact nomatch hs
  | succ d => exact tieb_mo_readsRules d a0 M so hs
theorem tie_mo_oneThing_236 (r_mo_oneThing : Nat → Int32 → Int32 → zM → Option (zM)) (kl184 : Nat → Int32 → Int32 → Int32 → zM → Option (zM)) (d : Nat) (hr_mo_oneThing : ∀ a0 a1 a2 M so, r_mo_oneThing a0 a1 a2 M = some so → Ev zq_T d 28 0 (zl_args 0 [.inr (.inr (12, some a0)), .inl a1, .inl a2]) [] M (none, so)) (hk184 : ∀ (t0 : Nat) (v2 : Int32) (v5 : Int32) (v6 : Int32) (M : zM) (so : zM) (ls : List (Nat × zV)), zl_get ls 0 = some (.inr (.inr (12, (some t0)))) → zl_get ls 2 = some (.inl v2) → zl_get ls 5 = some (.inl v5) → zl_get ls 6 = some (.inl v6) → kl184 t0 v2 v5 v6 M = some so → Ev zq_T (d + 1) 28 184 ls [] M (none, so)) (t0 : Nat) (v2 : Int32) (v5 : Int32) (s0 : Int32) (M : zM) (so : zM) (ls : List (Nat × zV)) (g0 : zl_get ls 0 = some (.inr (.inr (12, (some t0))))) (g2 : zl_get ls 2 = some (.inl v2)) (g5 : zl_get ls 5 = some (.inl v5)) (hs : mo_oneThing_236 r_mo_oneThing kl184 d t0 v2 v5 s0 M = some so) : Ev zq_T (d + 1) 28 236 ls [.inl s0] M (none, so) := by
  unfold mo_oneThing_236 at hs
  refine e_iK cd_28_236 nl_28 rfl rfl ?_
  intro _ gn kp
  have u1 := kp 0 _ g0 rfl rfl
  have u2 := kp 2 _ g2 rfl rfl
  have u3 := kp 5 _ g5 rfl rfl
  have u4 := gn
  refine e_goto cd_28_238 rfl ?_
  exact hk184 t0 v2 v5 s0 M so _ u1 u2 u3 u4 hs
theorem tie_mo_oneThing_235 (r_mo_oneThing : Nat → Int32 → Int32 → zM → Option (zM)) (kl184 : Nat → Int32 → Int32 → Int32 → zM → Option (zM)) (d : Nat) (hr_mo_oneThing : ∀ a0 a1 a2 M so, r_mo_oneThing a0 a1 a2 M = some so → Ev zq_T d 28 0 (zl_args 0 [.inr (.inr (12, some a0)), .inl a1, .inl a2]) [] M (none, so)) (hk184 : ∀ (t0 : Nat) (v2 : Int32) (v5 : Int32) (v6 : Int32) (M : zM) (so : zM) (ls : List (Nat × zV)), zl_get ls 0 = some (.inr (.inr (12, (some t0)))) → zl_get ls 2 = some (.inl v2) → zl_get ls 5 = some (.inl v5) → zl_get ls 6 = some (.inl v6) → kl184 t0 v2 v5 v6 M = some so → Ev zq_T (d + 1) 28 184 ls [] M (none, so)) (t0 : Nat) (v2 : Int32) (v5 : Int32) (M : zM) (so : zM) (ls : List (Nat × zV)) (g0 : zl_get ls 0 = some (.inr (.inr (12, (some t0))))) (g2 : zl_get ls 2 = some (.inl v2)) (g5 : zl_get ls 5 = some (.inl v5)) (hs : mo_oneThing_235 r_mo_oneThing kl184 d t0 v2 v5 M = some so) : Ev zq_T (d + 1) 28 235 ls [] M (none, so) := by
  unfold mo_oneThing_235 at hs
  refine e_const cd_28_235 ci_0 ?_
  exact tie_mo_oneThing_236 r_mo_oneThing kl184 d hr_mo_oneThing hk184 t0 v2 v5 0 M so _ g0 g2 g5 hs
theorem tie_mo_oneThing_265 (r_mo_oneThing : Nat → Int32 → Int32 → zM → Option (zM)) (d : Nat) (hr_mo_oneThing : ∀ a0 a1 a2 M so, r_mo_oneThing a0 a1 a2 M = some so → Ev zq_T d 28 0 (zl_args 0 [.inr (.inr (12, some a0)), .inl a1, .inl a2]) [] M (none, so))  (M : zM) (so : zM) (ls : List (Nat × zV))  (hs : mo_oneThing_265 r_mo_oneThing d  M = some so) : Ev zq_T (d + 1) 28 265 ls [] M (none, so) := by
  unfold mo_oneThing_265 at hs
  have e := Option.some.inj hs
  subst e
  exact e_rv cd_28_265 nr_28
theorem tie_mo_oneThing_241 (r_mo_oneThing : Nat → Int32 → Int32 → zM → Option (zM)) (d : Nat) (hr_mo_oneThing : ∀ a0 a1 a2 M so, r_mo_oneThing a0 a1 a2 M = some so → Ev zq_T d 28 0 (zl_args 0 [.inr (.inr (12, some a0)), .inl a1, .inl a2]) [] M (none, so)) (t0 : Nat) (M : zM) (so : zM) (ls : List (Nat × zV)) (g0 : zl_get ls 0 = some (.inr (.inr (12, (some t0))))) (hs : mo_oneThing_241 r_mo_oneThing d t0 M = some so) : Ev zq_T (d + 1) 28 241 ls [] M (none, so) := by
  unfold mo_oneThing_241 at hs
  refine e_aldn cd_28_241 g0 ?_
  obtain ⟨q1, h2, hs⟩ := k_bind hs
  refine e_cvi cd_28_242 kd_28_160 rfl rfl rfl rfl rfl nl_11 rfl rfl (tie_mo_fine d t0 M _ h2) ?_
  refine k_if hs (fun c3 hs => ?_) (fun c3 hs => ?_)
  · refine e_izJ cd_28_245 rfl c3 ?_
    exact tie_mo_oneThing_265 r_mo_oneThing d hr_mo_oneThing  q1.2 so _  hs
  · refine e_izN cd_28_245 rfl c3 ?_
    refine e_aldn cd_28_248 g0 ?_
    refine e_bip cd_28_249 cb_41 ?_
    obtain ⟨q4, h5, hs⟩ := k_bind hs
    refine e_cvi cd_28_251 kd_28_171 rfl rfl rfl rfl rfl nl_12 rfl rfl (tie_mo_takes d t0 41 q1.2 _ h5) ?_
    refine k_if hs (fun c6 hs => ?_) (fun c6 hs => ?_)
    · refine e_izN cd_28_254 rfl (fun q => q c6) ?_
      refine e_aldn cd_28_257 g0 ?_
      refine e_aldn cd_28_258 g0 ?_
      refine e_getI cd_28_259 (Or.inl fd_28_128) rfl ?_
      obtain ⟨q7, h8, hs⟩ := k_bind hs
      refine e_cvi cd_28_262 kd_28_181 rfl rfl rfl rfl rfl nl_10 rfl rfl (tie_mo_fails d t0 (zm_I q4.2 12 t0 3) q4.2 _ h8) ?_
      exact tie_mo_oneThing_265 r_mo_oneThing d hr_mo_oneThing  q7 so _  hs
    · refine e_izJ cd_28_254 rfl c6 ?_
      exact tie_mo_oneThing_265 r_mo_oneThing d hr_mo_oneThing  q4.2 so _  hs
theorem tie_mo_oneThing_184 (r_mo_oneThing : Nat → Int32 → Int32 → zM → Option (zM)) (d : Nat) (hr_mo_oneThing : ∀ a0 a1 a2 M so, r_mo_oneThing a0 a1 a2 M = some so → Ev zq_T d 28 0 (zl_args 0 [.inr (.inr (12, some a0)), .inl a1, .inl a2]) [] M (none, so)) : ∀ (fuel : Nat) (t0 : Nat) (v2 : Int32) (v5 : Int32) (v6 : Int32) (M : zM) (so : zM) (ls : List (Nat × zV)), zl_get ls 0 = some (.inr (.inr (12, (some t0)))) → zl_get ls 2 = some (.inl v2) → zl_get ls 5 = some (.inl v5) → zl_get ls 6 = some (.inl v6) → mo_oneThing_184 r_mo_oneThing d fuel t0 v2 v5 v6 M = some so → Ev zq_T (d + 1) 28 184 ls [] M (none, so) := by
  intro fuel
  induction fuel with
  | zero => intro t0 v2 v5 v6 M so ls g0 g2 g5 g6 hs; exact nomatch hs
  | succ fuel ih =>
    intro t0 v2 v5 v6 M so ls g0 g2 g5 g6 hs
    unfold mo_oneThing_184 at hs
    refine e_aldn cd_28_184 g0 ?_
    obtain ⟨q1, h2, hs⟩ := k_bind hs
    refine e_cvi cd_28_185 kd_28_160 rfl rfl rfl rfl rfl nl_11 rfl rfl (tie_mo_fine d t0 M _ h2) ?_
    refine k_if hs (fun c3 hs => ?_) (fun c3 hs => ?_)
    · refine e_izJ cd_28_188 rfl c3 ?_
      exact tie_mo_oneThing_241 r_mo_oneThing d hr_mo_oneThing t0 q1.2 so _ g0 hs
    · refine e_izN cd_28_188 rfl c3 ?_
      refine e_ild cd_28_191 g6 ?_
      refine k_if hs (fun c4 hs => ?_) (fun c4 hs => ?_)
      · refine e_izJ cd_28_193 rfl c4 ?_
        exact tie_mo_oneThing_241 r_mo_oneThing d hr_mo_oneThing t0 q1.2 so _ g0 hs
      · refine e_izN cd_28_193 rfl c4 ?_
        refine e_aldn cd_28_196 g0 ?_
        refine e_pure cd_28_197 rfl ?_
        refine e_getI cd_28_198 (Or.inl fd_28_128) rfl ?_
        refine e_const cd_28_201 ci_1 ?_
        refine e_pure cd_28_202 rfl ?_
        refine k_let hs (fun M5 e6 hs => ?_)
        refine e_putI cd_28_203 pd_28_128 rfl e6 ?_
        refine e_aldn cd_28_206 g0 ?_
        refine e_ild cd_28_207 g5 ?_
        refine e_ildn cd_28_209 g2 ?_
        refine e_const cd_28_210 ci_1 ?_
        refine e_pure cd_28_211 rfl ?_
        obtain ⟨q7, h8, hs⟩ := k_bind hs
        refine e_cvi cd_28_212 kd_28_217 rfl rfl rfl rfl rfl nl_28 rfl rfl (hr_mo_oneThing t0 v5 (v2 + 1) M5 _ h8) ?_
        refine e_aldn cd_28_215 g0 ?_
        obtain ⟨q9, h10, hs⟩ := k_bind hs
        refine e_cvi cd_28_216 kd_28_160 rfl rfl rfl rfl rfl nl_11 rfl rfl (tie_mo_fine d t0 q7 _ h10) ?_
        refine k_if hs (fun c11 hs => ?_) (fun c11 hs => ?_)
        · refine e_izJ cd_28_219 rfl c11 ?_
          exact tie_mo_oneThing_235 r_mo_oneThing (fun p0 p1 p2 p3 m => mo_oneThing_184 r_mo_oneThing d fuel p0 p1 p2 p3 m) d hr_mo_oneThing ih t0 v2 v5 q9.2 so _ g0 g2 g5 hs
        · refine e_izN cd_28_219 rfl c11 ?_
          refine e_aldn cd_28_222 g0 ?_
          obtain ⟨q12, h13, hs⟩ := k_bind hs
          refine e_cvi cd_28_223 kd_28_138 rfl rfl rfl rfl rfl nl_9 rfl rfl (tie_mo_look d t0 q9.2 _ h13) ?_
          refine e_bip cd_28_226 cb_44 ?_
          refine k_if hs (fun c14 hs => ?_) (fun c14 hs => ?_)
          · refine e_icN cd_28_228 rfl (fun q => q c14) ?_
            refine e_const cd_28_231 ci_1 ?_
            refine e_goto cd_28_232 rfl ?_
            exact tie_mo_oneThing_236 r_mo_oneThing (fun p0 p1 p2 p3 m => mo_oneThing_184 r_mo_oneThing d fuel p0 p1 p2 p3 m) d hr_mo_oneThing ih t0 v2 v5 1 q12.2 so _ g0 g2 g5 hs
          · refine e_icJ cd_28_228 rfl c14 ?_
            exact tie_mo_oneThing_235 r_mo_oneThing (fun p0 p1 p2 p3 m => mo_oneThing_184 r_mo_oneThing d fuel p0 p1 p2 p3 m) d hr_mo_oneThing ih t0 v2 v5 q12.2 so _ g0 g2 g5 hs
theorem tie_mo_oneThing_156 (r_mo_oneThing : Nat → Int32 → Int32 → zM → Option (zM)) (d : Nat) (hr_mo_oneThing : ∀ a0 a1 a2 M so, r_mo_oneThing a0 a1 a2 M = some so → Ev zq_T d 28 0 (zl_args 0 [.inr (.inr (12, some a0)), .inl a1, .inl a2]) [] M (none, so)) (t0 : Nat) (v2 : Int32) (v5 : Int32) (M : zM) (so : zM) (ls : List (Nat × zV)) (g0 : zl_get ls 0 = some (.inr (.inr (12, (some t0))))) (g2 : zl_get ls 2 = some (.inl v2)) (g5 : zl_get ls 5 = some (.inl v5)) (hs : mo_oneThing_156 r_mo_oneThing d t0 v2 v5 M = some so) : Ev zq_T (d + 1) 28 156 ls [] M (none, so) := by
  unfold mo_oneThing_156 at hs
  refine e_aldn cd_28_156 g0 ?_
  obtain ⟨q1, h2, hs⟩ := k_bind hs
  refine e_cvi cd_28_157 kd_28_138 rfl rfl rfl rfl rfl nl_9 rfl rfl (tie_mo_look d t0 M _ h2) ?_
  refine e_bip cd_28_160 cb_40 ?_
  refine k_if hs (fun c3 hs => ?_) (fun c3 hs => ?_)
  · refine e_icJ cd_28_162 rfl c3 ?_
    refine e_ildn cd_28_166 g2 ?_
    refine e_bip cd_28_167 cb_7 ?_
    refine k_if hs (fun c4 hs => ?_) (fun c4 hs => ?_)
    · refine e_icN cd_28_169 rfl (fun q => q c4) ?_
      refine e_aldn cd_28_172 g0 ?_
      refine e_aldn cd_28_173 g0 ?_
      refine e_getI cd_28_174 (Or.inl fd_28_128) rfl ?_
      obtain ⟨q5, h6, hs⟩ := k_bind hs
      refine e_cvi cd_28_177 kd_28_181 rfl rfl rfl rfl rfl nl_10 rfl rfl (tie_mo_fails d t0 (zm_I q1.2 12 t0 3) q1.2 _ h6) ?_
      have e := Option.some.inj hs
      subst e
      exact e_rv cd_28_180 nr_28
    · refine e_icJ cd_28_169 rfl c4 ?_
      refine e_const cd_28_181 ci_1 ?_
      refine e_iK cd_28_182 nl_28 rfl rfl ?_
      intro _ gn kp
      have u7 := kp 0 _ g0 rfl rfl
      have u8 := kp 2 _ g2 rfl rfl
      have u9 := kp 5 _ g5 rfl rfl
      have u10 := gn
      exact tie_mo_oneThing_184 r_mo_oneThing d hr_mo_oneThing zLF t0 v2 v5 1 q1.2 so _ u7 u8 u9 u10 hs
  · refine e_icN cd_28_162 rfl c3 ?_
    have e := Option.some.inj hs
    subst e
    exact e_rv cd_28_165 nr_28
set_option maxRecDepth 100000 in
theorem tie_mo_oneThing_46 (r_mo_oneThing : Nat → Int32 → Int32 → zM → Option (zM)) (d : Nat) (hr_mo_oneThing : ∀ a0 a1 a2 M so, r_mo_oneThing a0 a1 a2 M = some so → Ev zq_T d 28 0 (zl_args 0 [.inr (.inr (12, some a0)), .inl a1, .inl a2]) [] M (none, so)) (t0 : Nat) (v1 : Int32) (v2 : Int32) (v3 : Int32) (s0 : Int32) (M : zM) (so : zM) (ls : List (Nat × zV)) (g0 : zl_get ls 0 = some (.inr (.inr (12, (some t0))))) (g1 : zl_get ls 1 = some (.inl v1)) (g2 : zl_get ls 2 = some (.inl v2)) (g3 : zl_get ls 3 = some (.inl v3)) (hs : mo_oneThing_46 r_mo_oneThing d t0 v1 v2 v3 s0 M = some so) : Ev zq_T (d + 1) 28 46 ls [.inl s0] M (none, so) := by
  unfold mo_oneThing_46 at hs
  refine e_iK cd_28_46 nl_28 rfl rfl ?_
  intro _ gn kp
  have u1 := kp 0 _ g0 rfl rfl
  have u2 := kp 1 _ g1 rfl rfl
  have u3 := kp 2 _ g2 rfl rfl
  have u4 := kp 3 _ g3 rfl rfl
  have u5 := gn
  refine e_ild cd_28_48 u5 ?_
  refine k_if hs (fun c6 hs => ?_) (fun c6 hs => ?_)
  · refine e_izN cd_28_50 rfl (fun q => q c6) ?_
    refine e_aldn cd_28_53 u1 ?_
    refine e_aldn cd_28_54 u1 ?_
    refine e_getI cd_28_55 (Or.inl fd_28_128) rfl ?_
    obtain ⟨q7, h8, hs⟩ := k_bind hs
    refine e_cvi cd_28_58 kd_28_181 rfl rfl rfl rfl rfl nl_10 rfl rfl (tie_mo_fails d t0 (zm_I M 12 t0 3) M _ h8) ?_
    have e := Option.some.inj hs
    subst e
    exact e_rv cd_28_61 nr_28
  · refine e_izJ cd_28_50 rfl c6 ?_
    refine e_aldn cd_28_62 u1 ?_
    refine e_pure cd_28_63 rfl ?_
    refine e_getI cd_28_64 (Or.inl fd_28_128) rfl ?_
    refine e_const cd_28_67 ci_1 ?_
    refine e_pure cd_28_68 rfl ?_
    refine k_let hs (fun M9 e10 hs => ?_)
    refine e_putI cd_28_69 pd_28_128 rfl e10 ?_
    refine e_aldn cd_28_72 u1 ?_
    refine e_getI cd_28_73 (Or.inl fd_28_214) rfl ?_
    refine k_let hs (fun x11 e12 hs => ?_)
    refine e_iK cd_28_76 nl_28 rfl e12 ?_
    intro _ gn kp
    have u13 := kp 0 _ u1 rfl rfl
    have u14 := kp 1 _ u2 rfl rfl
    have u15 := kp 2 _ u3 rfl rfl
    have u16 := kp 3 _ u4 rfl rfl
    have u17 := gn
    refine e_aldn cd_28_78 u13 ?_
    refine e_pure cd_28_79 rfl ?_
    refine e_getI cd_28_80 (Or.inl fd_28_214) rfl ?_
    refine e_const cd_28_83 ci_1 ?_
    refine e_pure cd_28_84 rfl ?_
    refine k_let hs (fun M18 e19 hs => ?_)
    refine e_putI cd_28_85 pd_28_214 rfl e19 ?_
    refine e_aldn cd_28_88 u13 ?_
    refine e_getR cd_28_89 fd_28_47 rfl ?_
    refine e_const cd_28_92 ci_4 ?_
    refine e_ild cd_28_93 u17 ?_
    refine e_pure cd_28_95 rfl ?_
    refine e_ildn cd_28_96 u16 ?_
    refine e_bip cd_28_97 cb_97 ?_
    refine e_pure cd_28_99 rfl ?_
    refine k_opt hs (fun _ q => nomatch q) (fun k20 h21 hs => ?_)
    obtain ⟨c22, hs⟩ := z_ite hs
    refine k_let hs (fun M23 e24 hs => ?_)
    refine e_iast cd_28_100 rfl h21 c22 e24 ?_
    refine e_aldn cd_28_101 u13 ?_
    refine e_getR cd_28_102 fd_28_47 rfl ?_
    refine e_const cd_28_105 ci_4 ?_
    refine e_ild cd_28_106 u17 ?_
    refine e_pure cd_28_108 rfl ?_
    refine e_const cd_28_109 ci_1 ?_
    refine e_pure cd_28_110 rfl ?_
    refine e_ildn cd_28_111 u14 ?_
    refine k_opt hs (fun _ q => nomatch q) (fun k25 h26 hs => ?_)
    obtain ⟨c27, hs⟩ := z_ite hs
    refine k_let hs (fun M28 e29 hs => ?_)
    refine e_iast cd_28_112 rfl h26 c27 e29 ?_
    refine e_aldn cd_28_113 u13 ?_
    refine e_getR cd_28_114 fd_28_47 rfl ?_
    refine e_const cd_28_117 ci_4 ?_
    refine e_ild cd_28_118 u17 ?_
    refine e_pure cd_28_120 rfl ?_
    refine e_const cd_28_121 ci_2 ?_
    refine e_pure cd_28_122 rfl ?_
    refine e_const cd_28_123 ci_0 ?_
    refine k_opt hs (fun _ q => nomatch q) (fun k30 h31 hs => ?_)
    obtain ⟨c32, hs⟩ := z_ite hs
    refine k_let hs (fun M33 e34 hs => ?_)
    refine e_iast cd_28_124 rfl h31 c32 e34 ?_
    refine e_aldn cd_28_125 u13 ?_
    refine e_getR cd_28_126 fd_28_47 rfl ?_
    refine e_const cd_28_129 ci_4 ?_
    refine e_ild cd_28_130 u17 ?_
    refine e_pure cd_28_132 rfl ?_
    refine e_const cd_28_133 ci_3 ?_
    refine e_pure cd_28_134 rfl ?_
    refine e_ildn cd_28_135 u15 ?_
    refine k_opt hs (fun _ q => nomatch q) (fun k35 h36 hs => ?_)
    obtain ⟨c37, hs⟩ := z_ite hs
    refine k_let hs (fun M38 e39 hs => ?_)
    refine e_iast cd_28_136 rfl h36 c37 e39 ?_
    refine e_ildn cd_28_137 u14 ?_
    refine e_const cd_28_138 ci_m1 ?_
    refine k_if hs (fun c40 hs => ?_) (fun c40 hs => ?_)
    · refine e_icJ cd_28_139 rfl c40 ?_
      exact tie_mo_oneThing_156 r_mo_oneThing d hr_mo_oneThing t0 v2 x11 M38 so _ u13 u15 u17 hs
    · refine e_icN cd_28_139 rfl c40 ?_
      refine e_aldn cd_28_142 u13 ?_
      refine e_getR cd_28_143 fd_28_47 rfl ?_
      refine e_const cd_28_146 ci_4 ?_
      refine e_ildn cd_28_147 u14 ?_
      refine e_pure cd_28_148 rfl ?_
      refine e_const cd_28_149 ci_2 ?_
      refine e_pure cd_28_150 rfl ?_
      refine e_pure cd_28_151 rfl ?_
      refine k_opt hs (fun _ q => nomatch q) (fun k41 h42 hs => ?_)
      obtain ⟨c43, hs⟩ := z_ite hs
      refine e_iald cd_28_152 rfl h42 c43 ?_
      refine e_const cd_28_153 ci_1 ?_
      refine e_pure cd_28_154 rfl ?_
      obtain ⟨c44, hs⟩ := z_ite hs
      refine k_let hs (fun M45 e46 hs => ?_)
      refine e_iast cd_28_155 rfl h42 c44 e46 ?_
      exact tie_mo_oneThing_156 r_mo_oneThing d hr_mo_oneThing t0 v2 x11 M45 so _ u13 u15 u17 hs
theorem tie_mo_oneThing_41 (r_mo_oneThing : Nat → Int32 → Int32 → zM → Option (zM)) (d : Nat) (hr_mo_oneThing : ∀ a0 a1 a2 M so, r_mo_oneThing a0 a1 a2 M = some so → Ev zq_T d 28 0 (zl_args 0 [.inr (.inr (12, some a0)), .inl a1, .inl a2]) [] M (none, so)) (t0 : Nat) (v1 : Int32) (v2 : Int32) (v3 : Int32) (M : zM) (so : zM) (ls : List (Nat × zV)) (g0 : zl_get ls 0 = some (.inr (.inr (12, (some t0))))) (g1 : zl_get ls 1 = some (.inl v1)) (g2 : zl_get ls 2 = some (.inl v2)) (g3 : zl_get ls 3 = some (.inl v3)) (hs : mo_oneThing_41 r_mo_oneThing d t0 v1 v2 v3 M = some so) : Ev zq_T (d + 1) 28 41 ls [] M (none, so) := by
  unfold mo_oneThing_41 at hs
  refine e_const cd_28_41 ci_1 ?_
  refine e_goto cd_28_42 rfl ?_
  exact tie_mo_oneThing_46 r_mo_oneThing d hr_mo_oneThing t0 v1 v2 v3 1 M so _ g0 g1 g2 g3 hs
theorem tie_mo_oneThing_45 (r_mo_oneThing : Nat → Int32 → Int32 → zM → Option (zM)) (d : Nat) (hr_mo_oneThing : ∀ a0 a1 a2 M so, r_mo_oneThing a0 a1 a2 M = some so → Ev zq_T d 28 0 (zl_args 0 [.inr (.inr (12, some a0)), .inl a1, .inl a2]) [] M (none, so)) (t0 : Nat) (v1 : Int32) (v2 : Int32) (v3 : Int32) (M : zM) (so : zM) (ls : List (Nat × zV)) (g0 : zl_get ls 0 = some (.inr (.inr (12, (some t0))))) (g1 : zl_get ls 1 = some (.inl v1)) (g2 : zl_get ls 2 = some (.inl v2)) (g3 : zl_get ls 3 = some (.inl v3)) (hs : mo_oneThing_45 r_mo_oneThing d t0 v1 v2 v3 M = some so) : Ev zq_T (d + 1) 28 45 ls [] M (none, so) := by
  unfold mo_oneThing_45 at hs
  refine e_const cd_28_45 ci_0 ?_
  exact tie_mo_oneThing_46 r_mo_oneThing d hr_mo_oneThing t0 v1 v2 v3 0 M so _ g0 g1 g2 g3 hs
theorem tieb_mo_oneThing (r_mo_oneThing : Nat → Int32 → Int32 → zM → Option (zM)) (d : Nat) (hr_mo_oneThing : ∀ a0 a1 a2 M so, r_mo_oneThing a0 a1 a2 M = some so → Ev zq_T d 28 0 (zl_args 0 [.inr (.inr (12, some a0)), .inl a1, .inl a2]) [] M (none, so)) (a0 : Nat) (a1 : Int32) (a2 : Int32) (M : zM) (so : zM) (hs : mo_oneThing_b r_mo_oneThing d a0 a1 a2 M = some so) : Ev zq_T (d + 1) 28 0 (zl_args 0 [.inr (.inr (12, some a0)), .inl a1, .inl a2]) [] M (none, so) := by
  unfold mo_oneThing_b at hs
  have g0 : zl_get (zl_args 0 [.inr (.inr (12, some a0)), .inl a1, .inl a2]) 0 = some (.inr (.inr (12, (some a0)))) := rfl
  have g1 : zl_get (zl_args 0 [.inr (.inr (12, some a0)), .inl a1, .inl a2]) 1 = some (.inl a1) := rfl
  have g2 : zl_get (zl_args 0 [.inr (.inr (12, some a0)), .inl a1, .inl a2]) 2 = some (.inl a2) := rfl
  refine e_aldn cd_28_0 g0 ?_
  obtain ⟨q1, h2, hs⟩ := k_bind hs
  refine e_cvi cd_28_1 kd_28_138 rfl rfl rfl rfl rfl nl_9 rfl rfl (tie_mo_look d a0 M _ h2) ?_
  refine e_iKn cd_28_4 nl_28 rfl rfl ?_
  intro _ gn kp
  have u3 := kp 0 _ g0 rfl rfl
  have u4 := kp 1 _ g1 rfl rfl
  have u5 := kp 2 _ g2 rfl rfl
  have u6 := gn
  refine e_ildn cd_28_5 u6 ?_
  obtain ⟨q7, h8, hs⟩ := k_bind hs
  refine e_cst cd_28_6 kd_28_175 rfl rfl rfl nl_13 rfl rfl (tie_mo_isLetter d q1.1 q1.2 _ h8) ?_
  refine k_if hs (fun c9 hs => ?_) (fun c9 hs => ?_)
  · refine e_izJ cd_28_9 rfl c9 ?_
    exact tie_mo_oneThing_45 r_mo_oneThing d hr_mo_oneThing a0 a1 a2 q1.1 q7.2 so _ u3 u4 u5 u6 hs
  · refine e_izN cd_28_9 rfl c9 ?_
    refine e_aldn cd_28_12 u3 ?_
    refine e_getI cd_28_13 (Or.inl fd_28_214) rfl ?_
    refine e_bip cd_28_16 cb_60 ?_
    refine k_if hs (fun c10 hs => ?_) (fun c10 hs => ?_)
    · refine e_icJ cd_28_18 rfl c10 ?_
      exact tie_mo_oneThing_45 r_mo_oneThing d hr_mo_oneThing a0 a1 a2 q1.1 q7.2 so _ u3 u4 u5 u6 hs
    · refine e_icN cd_28_18 rfl c10 ?_
      refine e_ildn cd_28_21 u4 ?_
      refine e_const cd_28_22 ci_m1 ?_
      refine k_if hs (fun c11 hs => ?_) (fun c11 hs => ?_)
      · refine e_icJ cd_28_23 rfl c11 ?_
        exact tie_mo_oneThing_41 r_mo_oneThing d hr_mo_oneThing a0 a1 a2 q1.1 q7.2 so _ u3 u4 u5 u6 hs
      · refine e_icN cd_28_23 rfl c11 ?_
        refine e_aldn cd_28_26 u3 ?_
        refine e_getR cd_28_27 fd_28_47 rfl ?_
        refine e_const cd_28_30 ci_4 ?_
        refine e_ildn cd_28_31 u4 ?_
        refine e_pure cd_28_32 rfl ?_
        refine e_const cd_28_33 ci_2 ?_
        refine e_pure cd_28_34 rfl ?_
        refine k_opt hs (fun _ q => nomatch q) (fun k12 h13 hs => ?_)
        obtain ⟨c14, hs⟩ := z_ite hs
        refine e_iald cd_28_35 rfl h13 c14 ?_
        refine e_bip cd_28_36 cb_24 ?_
        refine k_if hs (fun c15 hs => ?_) (fun c15 hs => ?_)
        · refine e_icJ cd_28_38 rfl c15 ?_
          exact tie_mo_oneThing_45 r_mo_oneThing d hr_mo_oneThing a0 a1 a2 q1.1 q7.2 so _ u3 u4 u5 u6 hs
        · refine e_icN cd_28_38 rfl c15 ?_
          exact tie_mo_oneThing_41 r_mo_oneThing d hr_mo_oneThing a0 a1 a2 q1.1 q7.2 so _ u3 u4 u5 u6 hs
theorem tie_mo_oneThing (d : Nat) : ∀ (a0 : Nat) (a1 : Int32) (a2 : Int32) (M : zM) (so : zM), mo_oneThing d a0 a1 a2 M = some so → Ev zq_T d 28 0 (zl_args 0 [.inr (.inr (12, some a0)), .inl a1, .inl a2]) [] M (none, so) := by
  induction d with
  | zero => intro a0 a1 a2 M so hs; exact nomatch hs
  | succ d ih => intro a0 a1 a2 M so hs; exact tieb_mo_oneThing _ d ih a0 a1 a2 M so hs
theorem tie_mo_readsDocument_44  (d : Nat)  (t0 : Nat) (M : zM) (so : Int32 × zM) (ls : List (Nat × zV)) (g0 : zl_get ls 0 = some (.inr (.inr (12, (some t0))))) (hs : mo_readsDocument_44  d t0 M = some so) : Ev zq_T (d + 1) 29 44 ls [] M (some (.inl so.1), so.2) := by
  unfold mo_readsDocument_44 at hs
  refine e_aldn cd_29_44 g0 ?_
  refine e_getI cd_29_45 (Or.inl fd_29_135) rfl ?_
  have e := Option.some.inj hs
  subst e
  exact e_ri cd_29_48 nr_29
theorem tieb_mo_readsDocument  (d : Nat)  (a0 : Nat) (M : zM) (so : Int32 × zM) (hs : mo_readsDocument_b  d a0 M = some so) : Ev zq_T (d + 1) 29 0 (zl_args 0 [.inr (.inr (12, some a0))]) [] M (some (.inl so.1), so.2) := by
  unfold mo_readsDocument_b at hs
  have g0 : zl_get (zl_args 0 [.inr (.inr (12, some a0))]) 0 = some (.inr (.inr (12, (some a0)))) := rfl
  refine e_aldn cd_29_0 g0 ?_
  refine e_const cd_29_1 ci_0 ?_
  refine k_let hs (fun M1 e2 hs => ?_)
  refine e_putI cd_29_2 pd_29_128 rfl e2 ?_
  refine e_aldn cd_29_5 g0 ?_
  refine e_const cd_29_6 ci_m1 ?_
  refine k_let hs (fun M3 e4 hs => ?_)
  refine e_putI cd_29_7 pd_29_135 rfl e4 ?_
  refine e_aldn cd_29_10 g0 ?_
  refine e_const cd_29_11 ci_0 ?_
  refine k_let hs (fun M5 e6 hs => ?_)
  refine e_putI cd_29_12 pd_29_214 rfl e6 ?_
  refine e_aldn cd_29_15 g0 ?_
  refine e_const cd_29_16 ci_m1 ?_
  refine e_const cd_29_17 ci_0 ?_
  obtain ⟨q7, h8, hs⟩ := k_bind hs
  refine e_cvi cd_29_18 kd_29_217 rfl rfl rfl rfl rfl nl_28 rfl rfl (tie_mo_oneThing d a0 (-1) 0 M5 _ h8) ?_
  refine e_aldn cd_29_21 g0 ?_
  obtain ⟨q9, h10, hs⟩ := k_bind hs
  refine e_cvi cd_29_22 kd_29_160 rfl rfl rfl rfl rfl nl_11 rfl rfl (tie_mo_fine d a0 q7 _ h10) ?_
  refine k_if hs (fun c11 hs => ?_) (fun c11 hs => ?_)
  · refine e_izJ cd_29_25 rfl c11 ?_
    exact tie_mo_readsDocument_44  d  a0 q9.2 so _ g0 hs
  · refine e_izN cd_29_25 rfl c11 ?_
    refine e_aldn cd_29_28 g0 ?_
    obtain ⟨q12, h13, hs⟩ := k_bind hs
    refine e_cvi cd_29_29 kd_29_138 rfl rfl rfl rfl rfl nl_9 rfl rfl (tie_mo_look d a0 q9.2 _ h13) ?_
    refine e_const cd_29_32 ci_m1 ?_
    refine k_if hs (fun c14 hs => ?_) (fun c14 hs => ?_)
    · refine e_icJ cd_29_33 rfl c14 ?_
      exact tie_mo_readsDocument_44  d  a0 q12.2 so _ g0 hs
    · refine e_icN cd_29_33 rfl c14 ?_
      refine e_aldn cd_29_36 g0 ?_
      refine e_aldn cd_29_37 g0 ?_
      refine e_getI cd_29_38 (Or.inl fd_29_128) rfl ?_
      obtain ⟨q15, h16, hs⟩ := k_bind hs
      refine e_cvi cd_29_41 kd_29_181 rfl rfl rfl rfl rfl nl_10 rfl rfl (tie_mo_fails d a0 (zm_I q12.2 12 a0 3) q12.2 _ h16) ?_
      exact tie_mo_readsDocument_44  d  a0 q15 so _ g0 hs
theorem tie_mo_readsDocument (d : Nat) (a0 : Nat) (M : zM) (so : Int32 × zM) (hs : mo_readsDocument d a0 M = some so) : Ev zq_T d 29 0 (zl_args 0 [.inr (.inr (12, some a0))]) [] M (some (.inl so.1), so.2) := by
  cases d with
  | zero => exact nomatch hs
  | succ d => exact tieb_mo_readsDocument d a0 M so hs
theorem tie_mo_fault_30  (d : Nat)  (s0 : Int32) (M : zM) (so : Int32 × zM) (ls : List (Nat × zV))  (hs : mo_fault_30  d s0 M = some so) : Ev zq_T (d + 1) 30 30 ls [.inl s0] M (some (.inl so.1), so.2) := by
  unfold mo_fault_30 at hs
  have e := Option.some.inj hs
  subst e
  exact e_ri cd_30_30 nr_30
theorem tieb_mo_fault  (d : Nat)  (a0 : Nat) (a1 : Int32) (M : zM) (so : Int32 × zM) (hs : mo_fault_b  d a0 a1 M = some so) : Ev zq_T (d + 1) 30 0 (zl_args 0 [.inr (.inr (12, some a0)), .inl a1]) [] M (some (.inl so.1), so.2) := by
  unfold mo_fault_b at hs
  have g0 : zl_get (zl_args 0 [.inr (.inr (12, some a0)), .inl a1]) 0 = some (.inr (.inr (12, (some a0)))) := rfl
  have g1 : zl_get (zl_args 0 [.inr (.inr (12, some a0)), .inl a1]) 1 = some (.inl a1) := rfl
  refine e_aldn cd_30_0 g0 ?_
  refine e_const cd_30_1 ci_0 ?_
  refine k_let hs (fun M1 e2 hs => ?_)
  refine e_putI cd_30_2 pd_30_114 rfl e2 ?_
  refine e_ildn cd_30_5 g1 ?_
  refine k_if hs (fun c3 hs => ?_) (fun c3 hs => ?_)
  · refine e_izN cd_30_6 rfl (fun q => q c3) ?_
    refine e_aldn cd_30_9 g0 ?_
    obtain ⟨q4, h5, hs⟩ := k_bind hs
    refine e_cvi cd_30_10 kd_30_220 rfl rfl rfl rfl rfl nl_27 rfl rfl (tie_mo_readsRules d a0 M1 _ h5) ?_
    refine e_goto cd_30_13 rfl ?_
    exact tie_mo_fault_30  d  q4.1 q4.2 so _  hs
  · refine e_izJ cd_30_6 rfl c3 ?_
    refine e_ildn cd_30_16 g1 ?_
    refine e_const cd_30_17 ci_1 ?_
    refine k_if hs (fun c6 hs => ?_) (fun c6 hs => ?_)
    · refine e_icN cd_30_18 rfl (fun q => q c6) ?_
      refine e_aldn cd_30_21 g0 ?_
      obtain ⟨q7, h8, hs⟩ := k_bind hs
      refine e_cvi cd_30_22 kd_30_223 rfl rfl rfl rfl rfl nl_29 rfl rfl (tie_mo_readsDocument d a0 M1 _ h8) ?_
      refine e_goto cd_30_25 rfl ?_
      exact tie_mo_fault_30  d  q7.1 q7.2 so _  hs
    · refine e_icJ cd_30_18 rfl c6 ?_
      refine e_bip cd_30_28 cb_m2 ?_
      exact tie_mo_fault_30  d  (-2) M1 so _  hs
theorem tie_mo_fault (d : Nat) (a0 : Nat) (a1 : Int32) (M : zM) (so : Int32 × zM) (hs : mo_fault d a0 a1 M = some so) : Ev zq_T d 30 0 (zl_args 0 [.inr (.inr (12, some a0)), .inl a1]) [] M (some (.inl so.1), so.2) := by
  cases d with
  | zero => exact nomatch hs
  | succ d => exact tieb_mo_fault d a0 a1 M so hs
theorem tie_mo_copies_2  (d : Nat)  : ∀ (fuel : Nat) (v0 : Option Nat) (v1 : Option Nat) (v2 : Int32) (M : zM) (so : zM) (ls : List (Nat × zV)), zl_get ls 0 = some (.inr (.inr (20, v0))) → zl_get ls 1 = some (.inr (.inr (20, v1))) → zl_get ls 2 = some (.inl v2) → mo_copies_2  d fuel v0 v1 v2 M = some so → Ev zq_T d 31 2 ls [] M (none, so) := by
  intro fuel
  induction fuel with
  | zero => intro v0 v1 v2 M so ls g0 g1 g2 hs; exact nomatch hs
  | succ fuel ih =>
    intro v0 v1 v2 M so ls g0 g1 g2 hs
    unfold mo_copies_2 at hs
    refine e_ildn cd_31_2 g2 ?_
    refine e_aldn cd_31_3 g1 ?_
    refine k_opt hs (fun _ q => nomatch q) (fun k1 h2 hs => ?_)
    refine e_alen cd_31_4 rfl h2 ?_
    refine k_if hs (fun c3 hs => ?_) (fun c3 hs => ?_)
    · refine e_icJ cd_31_5 rfl c3 ?_
      have e := Option.some.inj hs
      subst e
      exact e_rv cd_31_20 nr_31
    · refine e_icN cd_31_5 rfl c3 ?_
      refine e_aldn cd_31_8 g1 ?_
      refine e_ildn cd_31_9 g2 ?_
      refine e_aldn cd_31_10 g0 ?_
      refine e_ildn cd_31_11 g2 ?_
      refine k_opt hs (fun _ q => nomatch q) (fun k4 h5 hs => ?_)
      obtain ⟨c6, hs⟩ := z_ite hs
      refine e_iald cd_31_12 rfl h5 c6 ?_
      obtain ⟨c7, hs⟩ := z_ite hs
      refine k_let hs (fun M8 e9 hs => ?_)
      refine e_iast cd_31_13 rfl h2 c7 e9 ?_
      refine k_let hs (fun x10 e11 hs => ?_)
      refine e_incK cd_31_14 nl_31 rfl g2 ci_1 e11 ?_
      intro _ gn kp
      have u12 := kp 0 _ g0 rfl rfl
      have u13 := kp 1 _ g1 rfl rfl
      have u14 := gn
      refine e_goto cd_31_17 rfl ?_
      exact ih v0 v1 x10 M8 so _ u12 u13 u14 hs
theorem tie_mo_copies (d : Nat) (a0 : Option Nat) (a1 : Option Nat) (M : zM) (so : zM) (hs : mo_copies d a0 a1 M = some so) : Ev zq_T d 31 0 (zl_args 0 [.inr (.inr (20, a0)), .inr (.inr (20, a1))]) [] M (none, so) := by
  unfold mo_copies at hs
  have g0 : zl_get (zl_args 0 [.inr (.inr (20, a0)), .inr (.inr (20, a1))]) 0 = some (.inr (.inr (20, a0))) := rfl
  have g1 : zl_get (zl_args 0 [.inr (.inr (20, a0)), .inr (.inr (20, a1))]) 1 = some (.inr (.inr (20, a1))) := rfl
  refine e_const cd_31_0 ci_0 ?_
  refine e_iKn cd_31_1 nl_31 rfl rfl ?_
  intro _ gn kp
  have u1 := kp 0 _ g0 rfl rfl
  have u2 := kp 1 _ g1 rfl rfl
  have u3 := gn
  exact tie_mo_copies_2  d  zLF a0 a1 0 M so _ u1 u2 u3 hs
theorem tieb_mo_rules  (d : Nat)  (a0 : Nat) (M : zM) (so : Int32 × zM) (hs : mo_rules_b  d a0 M = some so) : Ev zq_T (d + 1) 32 0 (zl_args 0 [.inr (.inr (12, some a0))]) [] M (some (.inl so.1), so.2) := by
  unfold mo_rules_b at hs
  have g0 : zl_get (zl_args 0 [.inr (.inr (12, some a0))]) 0 = some (.inr (.inr (12, (some a0)))) := rfl
  refine e_aldn cd_32_0 g0 ?_
  refine e_const cd_32_1 ci_0 ?_
  refine k_let hs (fun M1 e2 hs => ?_)
  refine e_putI cd_32_2 pd_32_114 rfl e2 ?_
  refine e_aldn cd_32_5 g0 ?_
  obtain ⟨q3, h4, hs⟩ := k_bind hs
  refine e_cvi cd_32_6 kd_32_220 rfl rfl rfl rfl rfl nl_27 rfl rfl (tie_mo_readsRules d a0 M1 _ h4) ?_
  refine e_const cd_32_9 ci_m1 ?_
  refine k_if hs (fun c5 hs => ?_) (fun c5 hs => ?_)
  · refine e_icJ cd_32_10 rfl c5 ?_
    refine e_aldn cd_32_15 g0 ?_
    refine e_const cd_32_16 ci_0 ?_
    refine k_let hs (fun M6 e7 hs => ?_)
    refine e_putI cd_32_17 pd_32_117 rfl e7 ?_
    refine e_aldn cd_32_20 g0 ?_
    refine e_getR cd_32_21 fd_32_17 rfl ?_
    refine e_aldn cd_32_24 g0 ?_
    refine e_getR cd_32_25 fd_32_13 rfl ?_
    obtain ⟨q8, h9, hs⟩ := k_bind hs
    refine e_cst cd_32_28 kd_32_226 rfl rfl rfl nl_31 rfl rfl (tie_mo_copies d (zm_R M6 12 a0 6) (zm_R M6 12 a0 5) M6 _ h9) ?_
    refine e_aldn cd_32_31 g0 ?_
    refine e_getR cd_32_32 fd_32_23 rfl ?_
    refine e_aldn cd_32_35 g0 ?_
    refine e_getR cd_32_36 fd_32_20 rfl ?_
    obtain ⟨q10, h11, hs⟩ := k_bind hs
    refine e_cst cd_32_39 kd_32_226 rfl rfl rfl nl_31 rfl rfl (tie_mo_copies d (zm_R q8 12 a0 8) (zm_R q8 12 a0 7) q8 _ h11) ?_
    refine e_aldn cd_32_42 g0 ?_
    refine e_getR cd_32_43 fd_32_29 rfl ?_
    refine e_aldn cd_32_46 g0 ?_
    refine e_getR cd_32_47 fd_32_26 rfl ?_
    obtain ⟨q12, h13, hs⟩ := k_bind hs
    refine e_cst cd_32_50 kd_32_226 rfl rfl rfl nl_31 rfl rfl (tie_mo_copies d (zm_R q10 12 a0 10) (zm_R q10 12 a0 9) q10 _ h13) ?_
    refine e_aldn cd_32_53 g0 ?_
    refine e_getR cd_32_54 fd_32_35 rfl ?_
    refine e_aldn cd_32_57 g0 ?_
    refine e_getR cd_32_58 fd_32_32 rfl ?_
    obtain ⟨q14, h15, hs⟩ := k_bind hs
    refine e_cst cd_32_61 kd_32_226 rfl rfl rfl nl_31 rfl rfl (tie_mo_copies d (zm_R q12 12 a0 12) (zm_R q12 12 a0 11) q12 _ h15) ?_
    refine e_aldn cd_32_64 g0 ?_
    refine e_getR cd_32_65 fd_32_41 rfl ?_
    refine e_aldn cd_32_68 g0 ?_
    refine e_getR cd_32_69 fd_32_38 rfl ?_
    obtain ⟨q16, h17, hs⟩ := k_bind hs
    refine e_cst cd_32_72 kd_32_226 rfl rfl rfl nl_31 rfl rfl (tie_mo_copies d (zm_R q14 12 a0 14) (zm_R q14 12 a0 13) q14 _ h17) ?_
    refine e_aldn cd_32_75 g0 ?_
    refine e_aldn cd_32_76 g0 ?_
    refine e_getI cd_32_77 (Or.inl fd_32_150) rfl ?_
    refine k_let hs (fun M18 e19 hs => ?_)
    refine e_putI cd_32_80 pd_32_230 rfl e19 ?_
    refine e_aldn cd_32_83 g0 ?_
    refine e_const cd_32_84 ci_0 ?_
    refine k_let hs (fun M20 e21 hs => ?_)
    refine e_putZ cd_32_85 pd_32_233 (Or.inl rfl) rfl e21 ?_
    refine e_aldn cd_32_88 g0 ?_
    refine e_getI cd_32_89 (Or.inl fd_32_230) rfl ?_
    have e := Option.some.inj hs
    subst e
    exact e_ri cd_32_92 nr_32
  · refine e_icN cd_32_10 rfl c5 ?_
    refine e_const cd_32_13 ci_m1 ?_
    have e := Option.some.inj hs
    subst e
    exact e_ri cd_32_14 nr_32
theorem tie_mo_rules (d : Nat) (a0 : Nat) (M : zM) (so : Int32 × zM) (hs : mo_rules d a0 M = some so) : Ev zq_T d 32 0 (zl_args 0 [.inr (.inr (12, some a0))]) [] M (some (.inl so.1), so.2) := by
  cases d with
  | zero => exact nomatch hs
  | succ d => exact tieb_mo_rules d a0 M so hs
theorem tieb_mo_document  (d : Nat)  (a0 : Nat) (M : zM) (so : Int32 × zM) (hs : mo_document_b  d a0 M = some so) : Ev zq_T (d + 1) 33 0 (zl_args 0 [.inr (.inr (12, some a0))]) [] M (some (.inl so.1), so.2) := by
  unfold mo_document_b at hs
  have g0 : zl_get (zl_args 0 [.inr (.inr (12, some a0))]) 0 = some (.inr (.inr (12, (some a0)))) := rfl
  refine e_aldn cd_33_0 g0 ?_
  refine e_const cd_33_1 ci_0 ?_
  refine k_let hs (fun M1 e2 hs => ?_)
  refine e_putI cd_33_2 pd_33_114 rfl e2 ?_
  refine e_aldn cd_33_5 g0 ?_
  obtain ⟨q3, h4, hs⟩ := k_bind hs
  refine e_cvi cd_33_6 kd_33_223 rfl rfl rfl rfl rfl nl_29 rfl rfl (tie_mo_readsDocument d a0 M1 _ h4) ?_
  refine e_const cd_33_9 ci_m1 ?_
  refine k_if hs (fun c5 hs => ?_) (fun c5 hs => ?_)
  · refine e_icJ cd_33_10 rfl c5 ?_
    refine e_aldn cd_33_15 g0 ?_
    refine e_const cd_33_16 ci_0 ?_
    refine k_let hs (fun M6 e7 hs => ?_)
    refine e_putI cd_33_17 pd_33_117 rfl e7 ?_
    refine e_aldn cd_33_20 g0 ?_
    refine e_getR cd_33_21 fd_33_47 rfl ?_
    refine e_aldn cd_33_24 g0 ?_
    refine e_getR cd_33_25 fd_33_44 rfl ?_
    obtain ⟨q8, h9, hs⟩ := k_bind hs
    refine e_cst cd_33_28 kd_33_226 rfl rfl rfl nl_31 rfl rfl (tie_mo_copies d (zm_R M6 12 a0 19) (zm_R M6 12 a0 18) M6 _ h9) ?_
    refine e_aldn cd_33_31 g0 ?_
    refine e_aldn cd_33_32 g0 ?_
    refine e_getI cd_33_33 (Or.inl fd_33_214) rfl ?_
    refine k_let hs (fun M10 e11 hs => ?_)
    refine e_putI cd_33_36 pd_33_237 rfl e11 ?_
    refine e_aldn cd_33_39 g0 ?_
    refine e_getI cd_33_40 (Or.inl fd_33_237) rfl ?_
    have e := Option.some.inj hs
    subst e
    exact e_ri cd_33_43 nr_33
  · refine e_icN cd_33_10 rfl c5 ?_
    refine e_const cd_33_13 ci_m1 ?_
    have e := Option.some.inj hs
    subst e
    exact e_ri cd_33_14 nr_33
theorem tie_mo_document (d : Nat) (a0 : Nat) (M : zM) (so : Int32 × zM) (hs : mo_document d a0 M = some so) : Ev zq_T d 33 0 (zl_args 0 [.inr (.inr (12, some a0))]) [] M (some (.inl so.1), so.2) := by
  cases d with
  | zero => exact nomatch hs
  | succ d => exact tieb_mo_document d a0 M so hs
theorem tieb_mo_isRule  (d : Nat)  (a0 : Nat) (a1 : Int32) (M : zM) (so : Int32 × zM) (hs : mo_isRule_b  d a0 a1 M = some so) : Ev zq_T (d + 1) 34 0 (zl_args 0 [.inr (.inr (12, some a0)), .inl a1]) [] M (some (.inl so.1), so.2) := by
  unfold mo_isRule_b at hs
  have g0 : zl_get (zl_args 0 [.inr (.inr (12, some a0)), .inl a1]) 0 = some (.inr (.inr (12, (some a0)))) := rfl
  have g1 : zl_get (zl_args 0 [.inr (.inr (12, some a0)), .inl a1]) 1 = some (.inl a1) := rfl
  refine e_ildn cd_34_0 g1 ?_
  refine e_pure cd_34_1 rfl ?_
  refine e_lcon cd_34_2 cl_0 ?_
  refine e_aldn cd_34_3 g0 ?_
  refine e_getI cd_34_4 (Or.inl fd_34_230) rfl ?_
  refine e_const cd_34_7 ci_1 ?_
  refine e_pure cd_34_8 rfl ?_
  refine e_pure cd_34_9 rfl ?_
  obtain ⟨q1, h2, hs⟩ := k_bind hs
  refine e_cst cd_34_10 kd_34_204 rfl rfl rfl nl_2 rfl rfl (tie_mo_isIn d a1.toInt64 0 (((zm_I M 12 a0 15) - 1).toInt64) M _ h2) ?_
  obtain ⟨c3, hs⟩ := z_ite hs
  have e := Option.some.inj hs
  subst e
  exact e_rz cd_34_13 nr_34 c3
theorem tie_mo_isRule (d : Nat) (a0 : Nat) (a1 : Int32) (M : zM) (so : Int32 × zM) (hs : mo_isRule d a0 a1 M = some so) : Ev zq_T d 34 0 (zl_args 0 [.inr (.inr (12, some a0)), .inl a1]) [] M (some (.inl so.1), so.2) := by
  cases d with
  | zero => exact nomatch hs
  | succ d => exact tieb_mo_isRule d a0 a1 M so hs
theorem tie_mo_of (d : Nat) (a0 : Nat) (a1 : Int32) (a2 : Int32) (M : zM) (so : Int32 × zM) (hs : mo_of d a0 a1 a2 M = some so) : Ev zq_T d 35 0 (zl_args 0 [.inr (.inr (12, some a0)), .inl a1, .inl a2]) [] M (some (.inl so.1), so.2) := by
  unfold mo_of at hs
  have g0 : zl_get (zl_args 0 [.inr (.inr (12, some a0)), .inl a1, .inl a2]) 0 = some (.inr (.inr (12, (some a0)))) := rfl
  have g1 : zl_get (zl_args 0 [.inr (.inr (12, some a0)), .inl a1, .inl a2]) 1 = some (.inl a1) := rfl
  have g2 : zl_get (zl_args 0 [.inr (.inr (12, some a0)), .inl a1, .inl a2]) 2 = some (.inl a2) := rfl
  refine e_aldn cd_35_0 g0 ?_
  refine e_getR cd_35_1 fd_35_20 rfl ?_
  refine e_const cd_35_4 ci_5 ?_
  refine e_ildn cd_35_5 g1 ?_
  refine e_pure cd_35_6 rfl ?_
  refine e_ildn cd_35_7 g2 ?_
  refine e_pure cd_35_8 rfl ?_
  refine k_opt hs (fun _ q => nomatch q) (fun k1 h2 hs => ?_)
  obtain ⟨c3, hs⟩ := z_ite hs
  refine e_iald cd_35_9 rfl h2 c3 ?_
  have e := Option.some.inj hs
  subst e
  exact e_ri cd_35_10 nr_35
theorem tie_mo_at (d : Nat) (a0 : Nat) (a1 : Int32) (a2 : Int32) (M : zM) (so : Int32 × zM) (hs : mo_at d a0 a1 a2 M = some so) : Ev zq_T d 36 0 (zl_args 0 [.inr (.inr (12, some a0)), .inl a1, .inl a2]) [] M (some (.inl so.1), so.2) := by
  unfold mo_at at hs
  have g0 : zl_get (zl_args 0 [.inr (.inr (12, some a0)), .inl a1, .inl a2]) 0 = some (.inr (.inr (12, (some a0)))) := rfl
  have g1 : zl_get (zl_args 0 [.inr (.inr (12, some a0)), .inl a1, .inl a2]) 1 = some (.inl a1) := rfl
  have g2 : zl_get (zl_args 0 [.inr (.inr (12, some a0)), .inl a1, .inl a2]) 2 = some (.inl a2) := rfl
  refine e_aldn cd_36_0 g0 ?_
  refine e_getR cd_36_1 fd_36_13 rfl ?_
  refine e_bip cd_36_4 cb_6 ?_
  refine e_ildn cd_36_6 g1 ?_
  refine e_pure cd_36_7 rfl ?_
  refine e_ildn cd_36_8 g2 ?_
  refine e_pure cd_36_9 rfl ?_
  refine k_opt hs (fun _ q => nomatch q) (fun k1 h2 hs => ?_)
  obtain ⟨c3, hs⟩ := z_ite hs
  refine e_iald cd_36_10 rfl h2 c3 ?_
  have e := Option.some.inj hs
  subst e
  exact e_ri cd_36_11 nr_36
theorem tie_mo_from (d : Nat) (a0 : Nat) (a1 : Int32) (a2 : Int32) (M : zM) (so : Int32 × zM) (hs : mo_from d a0 a1 a2 M = some so) : Ev zq_T d 37 0 (zl_args 0 [.inr (.inr (12, some a0)), .inl a1, .inl a2]) [] M (some (.inl so.1), so.2) := by
  unfold mo_from at hs
  have g0 : zl_get (zl_args 0 [.inr (.inr (12, some a0)), .inl a1, .inl a2]) 0 = some (.inr (.inr (12, (some a0)))) := rfl
  have g1 : zl_get (zl_args 0 [.inr (.inr (12, some a0)), .inl a1, .inl a2]) 1 = some (.inl a1) := rfl
  have g2 : zl_get (zl_args 0 [.inr (.inr (12, some a0)), .inl a1, .inl a2]) 2 = some (.inl a2) := rfl
  refine e_aldn cd_37_0 g0 ?_
  refine e_getR cd_37_1 fd_37_26 rfl ?_
  refine e_const cd_37_4 ci_3 ?_
  refine e_bip cd_37_5 cbb_8 ?_
  refine e_ildn cd_37_7 g1 ?_
  refine e_pure cd_37_8 rfl ?_
  refine e_ildn cd_37_9 g2 ?_
  refine e_pure cd_37_10 rfl ?_
  refine e_pure cd_37_11 rfl ?_
  refine k_opt hs (fun _ q => nomatch q) (fun k1 h2 hs => ?_)
  obtain ⟨c3, hs⟩ := z_ite hs
  refine e_iald cd_37_12 rfl h2 c3 ?_
  have e := Option.some.inj hs
  subst e
  exact e_ri cd_37_13 nr_37
theorem tie_mo_to (d : Nat) (a0 : Nat) (a1 : Int32) (a2 : Int32) (M : zM) (so : Int32 × zM) (hs : mo_to d a0 a1 a2 M = some so) : Ev zq_T d 38 0 (zl_args 0 [.inr (.inr (12, some a0)), .inl a1, .inl a2]) [] M (some (.inl so.1), so.2) := by
  unfold mo_to at hs
  have g0 : zl_get (zl_args 0 [.inr (.inr (12, some a0)), .inl a1, .inl a2]) 0 = some (.inr (.inr (12, (some a0)))) := rfl
  have g1 : zl_get (zl_args 0 [.inr (.inr (12, some a0)), .inl a1, .inl a2]) 1 = some (.inl a1) := rfl
  have g2 : zl_get (zl_args 0 [.inr (.inr (12, some a0)), .inl a1, .inl a2]) 2 = some (.inl a2) := rfl
  refine e_aldn cd_38_0 g0 ?_
  refine e_getR cd_38_1 fd_38_26 rfl ?_
  refine e_const cd_38_4 ci_3 ?_
  refine e_bip cd_38_5 cbb_8 ?_
  refine e_ildn cd_38_7 g1 ?_
  refine e_pure cd_38_8 rfl ?_
  refine e_ildn cd_38_9 g2 ?_
  refine e_pure cd_38_10 rfl ?_
  refine e_pure cd_38_11 rfl ?_
  refine e_const cd_38_12 ci_1 ?_
  refine e_pure cd_38_13 rfl ?_
  refine k_opt hs (fun _ q => nomatch q) (fun k1 h2 hs => ?_)
  obtain ⟨c3, hs⟩ := z_ite hs
  refine e_iald cd_38_14 rfl h2 c3 ?_
  have e := Option.some.inj hs
  subst e
  exact e_ri cd_38_15 nr_38
theorem tie_mo_letterOf (d : Nat) (a0 : Nat) (a1 : Int32) (a2 : Int32) (M : zM) (so : Int32 × zM) (hs : mo_letterOf d a0 a1 a2 M = some so) : Ev zq_T d 39 0 (zl_args 0 [.inr (.inr (12, some a0)), .inl a1, .inl a2]) [] M (some (.inl so.1), so.2) := by
  unfold mo_letterOf at hs
  have g0 : zl_get (zl_args 0 [.inr (.inr (12, some a0)), .inl a1, .inl a2]) 0 = some (.inr (.inr (12, (some a0)))) := rfl
  have g1 : zl_get (zl_args 0 [.inr (.inr (12, some a0)), .inl a1, .inl a2]) 1 = some (.inl a1) := rfl
  have g2 : zl_get (zl_args 0 [.inr (.inr (12, some a0)), .inl a1, .inl a2]) 2 = some (.inl a2) := rfl
  refine e_aldn cd_39_0 g0 ?_
  refine e_getR cd_39_1 fd_39_32 rfl ?_
  refine e_const cd_39_4 ci_2 ?_
  refine e_bip cd_39_5 cb_16 ?_
  refine e_ildn cd_39_7 g1 ?_
  refine e_pure cd_39_8 rfl ?_
  refine e_ildn cd_39_9 g2 ?_
  refine e_pure cd_39_10 rfl ?_
  refine e_pure cd_39_11 rfl ?_
  refine k_opt hs (fun _ q => nomatch q) (fun k1 h2 hs => ?_)
  obtain ⟨c3, hs⟩ := z_ite hs
  refine e_iald cd_39_12 rfl h2 c3 ?_
  have e := Option.some.inj hs
  subst e
  exact e_ri cd_39_13 nr_39
theorem tie_mo_leaf (d : Nat) (a0 : Nat) (a1 : Int32) (a2 : Int32) (M : zM) (so : Int32 × zM) (hs : mo_leaf d a0 a1 a2 M = some so) : Ev zq_T d 40 0 (zl_args 0 [.inr (.inr (12, some a0)), .inl a1, .inl a2]) [] M (some (.inl so.1), so.2) := by
  unfold mo_leaf at hs
  have g0 : zl_get (zl_args 0 [.inr (.inr (12, some a0)), .inl a1, .inl a2]) 0 = some (.inr (.inr (12, (some a0)))) := rfl
  have g1 : zl_get (zl_args 0 [.inr (.inr (12, some a0)), .inl a1, .inl a2]) 1 = some (.inl a1) := rfl
  have g2 : zl_get (zl_args 0 [.inr (.inr (12, some a0)), .inl a1, .inl a2]) 2 = some (.inl a2) := rfl
  refine e_aldn cd_40_0 g0 ?_
  refine e_getR cd_40_1 fd_40_32 rfl ?_
  refine e_const cd_40_4 ci_2 ?_
  refine e_bip cd_40_5 cb_16 ?_
  refine e_ildn cd_40_7 g1 ?_
  refine e_pure cd_40_8 rfl ?_
  refine e_ildn cd_40_9 g2 ?_
  refine e_pure cd_40_10 rfl ?_
  refine e_pure cd_40_11 rfl ?_
  refine e_const cd_40_12 ci_1 ?_
  refine e_pure cd_40_13 rfl ?_
  refine k_opt hs (fun _ q => nomatch q) (fun k1 h2 hs => ?_)
  obtain ⟨c3, hs⟩ := z_ite hs
  refine e_iald cd_40_14 rfl h2 c3 ?_
  have e := Option.some.inj hs
  subst e
  exact e_ri cd_40_15 nr_40
theorem tie_mo_isNull_26 (r_mo_isNull : Nat → Int32 → Int32 → zM → Option (Int32 × zM)) (d : Nat) (hr_mo_isNull : ∀ a0 a1 a2 M so, r_mo_isNull a0 a1 a2 M = some so → Ev zq_T d 41 0 (zl_args 0 [.inr (.inr (12, some a0)), .inl a1, .inl a2]) [] M (some (.inl so.1), so.2)) (s0 : Int32) (M : zM) (so : Int32 × zM) (ls : List (Nat × zV))  (hs : mo_isNull_26 r_mo_isNull d s0 M = some so) : Ev zq_T (d + 1) 41 26 ls [.inl s0] M (some (.inl so.1), so.2) := by
  unfold mo_isNull_26 at hs
  obtain ⟨c1, hs⟩ := z_ite hs
  have e := Option.some.inj hs
  subst e
  exact e_rz cd_41_26 nr_41 c1
theorem tie_mo_isNull_16 (r_mo_isNull : Nat → Int32 → Int32 → zM → Option (Int32 × zM)) (d : Nat) (hr_mo_isNull : ∀ a0 a1 a2 M so, r_mo_isNull a0 a1 a2 M = some so → Ev zq_T d 41 0 (zl_args 0 [.inr (.inr (12, some a0)), .inl a1, .inl a2]) [] M (some (.inl so.1), so.2)) (v3 : Int32) (M : zM) (so : Int32 × zM) (ls : List (Nat × zV)) (g3 : zl_get ls 3 = some (.inl v3)) (hs : mo_isNull_16 r_mo_isNull d v3 M = some so) : Ev zq_T (d + 1) 41 16 ls [] M (some (.inl so.1), so.2) := by
  unfold mo_isNull_16 at hs
  refine e_ildn cd_41_16 g3 ?_
  refine e_const cd_41_17 ci_1 ?_
  refine k_if hs (fun c1 hs => ?_) (fun c1 hs => ?_)
  · refine e_icN cd_41_18 rfl (fun q => q c1) ?_
    refine e_const cd_41_21 ci_1 ?_
    refine e_goto cd_41_22 rfl ?_
    exact tie_mo_isNull_26 r_mo_isNull d hr_mo_isNull 1 M so _  hs
  · refine e_icJ cd_41_18 rfl c1 ?_
    refine e_const cd_41_25 ci_0 ?_
    exact tie_mo_isNull_26 r_mo_isNull d hr_mo_isNull 0 M so _  hs
theorem tie_mo_isNull_92 (r_mo_isNull : Nat → Int32 → Int32 → zM → Option (Int32 × zM)) (d : Nat) (hr_mo_isNull : ∀ a0 a1 a2 M so, r_mo_isNull a0 a1 a2 M = some so → Ev zq_T d 41 0 (zl_args 0 [.inr (.inr (12, some a0)), .inl a1, .inl a2]) [] M (some (.inl so.1), so.2)) (s0 : Int32) (M : zM) (so : Int32 × zM) (ls : List (Nat × zV))  (hs : mo_isNull_92 r_mo_isNull d s0 M = some so) : Ev zq_T (d + 1) 41 92 ls [.inl s0] M (some (.inl so.1), so.2) := by
  unfold mo_isNull_92 at hs
  obtain ⟨c1, hs⟩ := z_ite hs
  have e := Option.some.inj hs
  subst e
  exact e_rz cd_41_92 nr_41 c1
theorem tie_mo_isNull_79 (r_mo_isNull : Nat → Int32 → Int32 → zM → Option (Int32 × zM)) (kl56 : Nat → Int32 → Int32 → Int32 → zM → Option (Int32 × zM)) (d : Nat) (hr_mo_isNull : ∀ a0 a1 a2 M so, r_mo_isNull a0 a1 a2 M = some so → Ev zq_T d 41 0 (zl_args 0 [.inr (.inr (12, some a0)), .inl a1, .inl a2]) [] M (some (.inl so.1), so.2)) (hk56 : ∀ (t0 : Nat) (v1 : Int32) (v3 : Int32) (v4 : Int32) (M : zM) (so : Int32 × zM) (ls : List (Nat × zV)), zl_get ls 0 = some (.inr (.inr (12, (some t0)))) → zl_get ls 1 = some (.inl v1) → zl_get ls 3 = some (.inl v3) → zl_get ls 4 = some (.inl v4) → kl56 t0 v1 v3 v4 M = some so → Ev zq_T (d + 1) 41 56 ls [] M (some (.inl so.1), so.2)) (t0 : Nat) (v1 : Int32) (v3 : Int32) (v4 : Int32) (s0 : Int32) (s1 : Int32) (M : zM) (so : Int32 × zM) (ls : List (Nat × zV)) (g0 : zl_get ls 0 = some (.inr (.inr (12, (some t0))))) (g1 : zl_get ls 1 = some (.inl v1)) (g3 : zl_get ls 3 = some (.inl v3)) (g4 : zl_get ls 4 = some (.inl v4)) (hs : mo_isNull_79 r_mo_isNull kl56 d t0 v1 v3 v4 s0 s1 M = some so) : Ev zq_T (d + 1) 41 79 ls [.inl s1, .inl s0] M (some (.inl so.1), so.2) := by
  unfold mo_isNull_79 at hs
  refine k_if hs (fun c1 hs => ?_) (fun c1 hs => ?_)
  · refine e_icN cd_41_79 rfl (fun q => q c1) ?_
    refine e_ildn cd_41_82 g3 ?_
    refine e_const cd_41_83 ci_3 ?_
    refine k_if hs (fun c2 hs => ?_) (fun c2 hs => ?_)
    · refine e_icN cd_41_84 rfl (fun q => q c2) ?_
      refine e_const cd_41_87 ci_1 ?_
      refine e_goto cd_41_88 rfl ?_
      exact tie_mo_isNull_92 r_mo_isNull d hr_mo_isNull 1 M so _  hs
    · refine e_icJ cd_41_84 rfl c2 ?_
      refine e_const cd_41_91 ci_0 ?_
      exact tie_mo_isNull_92 r_mo_isNull d hr_mo_isNull 0 M so _  hs
  · refine e_icJ cd_41_79 rfl c1 ?_
    refine e_aldn cd_41_93 g0 ?_
    refine e_ild cd_41_94 g4 ?_
    refine e_const cd_41_96 ci_4 ?_
    obtain ⟨q3, h4, hs⟩ := k_bind hs
    refine e_cvi cd_41_97 kd_41_240 rfl rfl rfl rfl rfl nl_36 rfl rfl (tie_mo_at d t0 v4 4 M _ h4) ?_
    refine e_iK cd_41_100 nl_41 rfl rfl ?_
    intro _ gn kp
    have u5 := kp 0 _ g0 rfl rfl
    have u6 := kp 1 _ g1 rfl rfl
    have u7 := kp 3 _ g3 rfl rfl
    have u8 := gn
    refine e_goto cd_41_102 rfl ?_
    exact hk56 t0 v1 v3 q3.1 q3.2 so _ u5 u6 u7 u8 hs
theorem tie_mo_isNull_115 (r_mo_isNull : Nat → Int32 → Int32 → zM → Option (Int32 × zM)) (d : Nat) (hr_mo_isNull : ∀ a0 a1 a2 M so, r_mo_isNull a0 a1 a2 M = some so → Ev zq_T d 41 0 (zl_args 0 [.inr (.inr (12, some a0)), .inl a1, .inl a2]) [] M (some (.inl so.1), so.2)) (s0 : Int32) (M : zM) (so : Int32 × zM) (ls : List (Nat × zV))  (hs : mo_isNull_115 r_mo_isNull d s0 M = some so) : Ev zq_T (d + 1) 41 115 ls [.inl s0] M (some (.inl so.1), so.2) := by
  unfold mo_isNull_115 at hs
  obtain ⟨c1, hs⟩ := z_ite hs
  have e := Option.some.inj hs
  subst e
  exact e_rz cd_41_115 nr_41 c1
theorem tie_mo_isNull_56 (r_mo_isNull : Nat → Int32 → Int32 → zM → Option (Int32 × zM)) (d : Nat) (hr_mo_isNull : ∀ a0 a1 a2 M so, r_mo_isNull a0 a1 a2 M = some so → Ev zq_T d 41 0 (zl_args 0 [.inr (.inr (12, some a0)), .inl a1, .inl a2]) [] M (some (.inl so.1), so.2)) : ∀ (fuel : Nat) (t0 : Nat) (v1 : Int32) (v3 : Int32) (v4 : Int32) (M : zM) (so : Int32 × zM) (ls : List (Nat × zV)), zl_get ls 0 = some (.inr (.inr (12, (some t0)))) → zl_get ls 1 = some (.inl v1) → zl_get ls 3 = some (.inl v3) → zl_get ls 4 = some (.inl v4) → mo_isNull_56 r_mo_isNull d fuel t0 v1 v3 v4 M = some so → Ev zq_T (d + 1) 41 56 ls [] M (some (.inl so.1), so.2) := by
  intro fuel
  induction fuel with
  | zero => intro t0 v1 v3 v4 M so ls g0 g1 g3 g4 hs; exact nomatch hs
  | succ fuel ih =>
    intro t0 v1 v3 v4 M so ls g0 g1 g3 g4 hs
    unfold mo_isNull_56 at hs
    refine e_ild cd_41_56 g4 ?_
    refine e_const cd_41_58 ci_m1 ?_
    refine k_if hs (fun c1 hs => ?_) (fun c1 hs => ?_)
    · refine e_icJ cd_41_59 rfl c1 ?_
      refine e_ildn cd_41_105 g3 ?_
      refine e_const cd_41_106 ci_3 ?_
      refine k_if hs (fun c2 hs => ?_) (fun c2 hs => ?_)
      · refine e_icJ cd_41_107 rfl c2 ?_
        refine e_const cd_41_114 ci_0 ?_
        exact tie_mo_isNull_115 r_mo_isNull d hr_mo_isNull 0 M so _  hs
      · refine e_icN cd_41_107 rfl c2 ?_
        refine e_const cd_41_110 ci_1 ?_
        refine e_goto cd_41_111 rfl ?_
        exact tie_mo_isNull_115 r_mo_isNull d hr_mo_isNull 1 M so _  hs
    · refine e_icN cd_41_59 rfl c1 ?_
      refine e_aldn cd_41_62 g0 ?_
      refine e_ildn cd_41_63 g1 ?_
      refine e_ild cd_41_64 g4 ?_
      obtain ⟨q3, h4, hs⟩ := k_bind hs
      refine e_cvi cd_41_66 kd_41_245 rfl rfl rfl rfl rfl nl_41 rfl rfl (hr_mo_isNull t0 v1 v4 M _ h4) ?_
      refine e_ildn cd_41_69 g3 ?_
      refine e_const cd_41_70 ci_3 ?_
      refine k_if hs (fun c5 hs => ?_) (fun c5 hs => ?_)
      · refine e_icN cd_41_71 rfl (fun q => q c5) ?_
        refine e_const cd_41_74 ci_1 ?_
        refine e_goto cd_41_75 rfl ?_
        exact tie_mo_isNull_79 r_mo_isNull (fun p0 p1 p2 p3 m => mo_isNull_56 r_mo_isNull d fuel p0 p1 p2 p3 m) d hr_mo_isNull ih t0 v1 v3 v4 q3.1 1 q3.2 so _ g0 g1 g3 g4 hs
      · refine e_icJ cd_41_71 rfl c5 ?_
        refine e_const cd_41_78 ci_0 ?_
        exact tie_mo_isNull_79 r_mo_isNull (fun p0 p1 p2 p3 m => mo_isNull_56 r_mo_isNull d fuel p0 p1 p2 p3 m) d hr_mo_isNull ih t0 v1 v3 v4 q3.1 0 q3.2 so _ g0 g1 g3 g4 hs
theorem tie_mo_isNull_48 (r_mo_isNull : Nat → Int32 → Int32 → zM → Option (Int32 × zM)) (d : Nat) (hr_mo_isNull : ∀ a0 a1 a2 M so, r_mo_isNull a0 a1 a2 M = some so → Ev zq_T d 41 0 (zl_args 0 [.inr (.inr (12, some a0)), .inl a1, .inl a2]) [] M (some (.inl so.1), so.2)) (t0 : Nat) (v1 : Int32) (v2 : Int32) (v3 : Int32) (M : zM) (so : Int32 × zM) (ls : List (Nat × zV)) (g0 : zl_get ls 0 = some (.inr (.inr (12, (some t0))))) (g1 : zl_get ls 1 = some (.inl v1)) (g2 : zl_get ls 2 = some (.inl v2)) (g3 : zl_get ls 3 = some (.inl v3)) (hs : mo_isNull_48 r_mo_isNull d t0 v1 v2 v3 M = some so) : Ev zq_T (d + 1) 41 48 ls [] M (some (.inl so.1), so.2) := by
  unfold mo_isNull_48 at hs
  refine e_aldn cd_41_48 g0 ?_
  refine e_ildn cd_41_49 g2 ?_
  refine e_const cd_41_50 ci_3 ?_
  obtain ⟨q1, h2, hs⟩ := k_bind hs
  refine e_cvi cd_41_51 kd_41_240 rfl rfl rfl rfl rfl nl_36 rfl rfl (tie_mo_at d t0 v2 3 M _ h2) ?_
  refine e_iK cd_41_54 nl_41 rfl rfl ?_
  intro _ gn kp
  have u3 := kp 0 _ g0 rfl rfl
  have u4 := kp 1 _ g1 rfl rfl
  have u5 := kp 3 _ g3 rfl rfl
  have u6 := gn
  exact tie_mo_isNull_56 r_mo_isNull d hr_mo_isNull zLF t0 v1 v3 q1.1 q1.2 so _ u3 u4 u5 u6 hs
theorem tieb_mo_isNull (r_mo_isNull : Nat → Int32 → Int32 → zM → Option (Int32 × zM)) (d : Nat) (hr_mo_isNull : ∀ a0 a1 a2 M so, r_mo_isNull a0 a1 a2 M = some so → Ev zq_T d 41 0 (zl_args 0 [.inr (.inr (12, some a0)), .inl a1, .inl a2]) [] M (some (.inl so.1), so.2)) (a0 : Nat) (a1 : Int32) (a2 : Int32) (M : zM) (so : Int32 × zM) (hs : mo_isNull_b r_mo_isNull d a0 a1 a2 M = some so) : Ev zq_T (d + 1) 41 0 (zl_args 0 [.inr (.inr (12, some a0)), .inl a1, .inl a2]) [] M (some (.inl so.1), so.2) := by
  unfold mo_isNull_b at hs
  have g0 : zl_get (zl_args 0 [.inr (.inr (12, some a0)), .inl a1, .inl a2]) 0 = some (.inr (.inr (12, (some a0)))) := rfl
  have g1 : zl_get (zl_args 0 [.inr (.inr (12, some a0)), .inl a1, .inl a2]) 1 = some (.inl a1) := rfl
  have g2 : zl_get (zl_args 0 [.inr (.inr (12, some a0)), .inl a1, .inl a2]) 2 = some (.inl a2) := rfl
  refine e_aldn cd_41_0 g0 ?_
  refine e_ildn cd_41_1 g2 ?_
  refine e_const cd_41_2 ci_0 ?_
  obtain ⟨q1, h2, hs⟩ := k_bind hs
  refine e_cvi cd_41_3 kd_41_240 rfl rfl rfl rfl rfl nl_36 rfl rfl (tie_mo_at d a0 a2 0 M _ h2) ?_
  refine e_iKn cd_41_6 nl_41 rfl rfl ?_
  intro _ gn kp
  have u3 := kp 0 _ g0 rfl rfl
  have u4 := kp 1 _ g1 rfl rfl
  have u5 := kp 2 _ g2 rfl rfl
  have u6 := gn
  refine e_ildn cd_41_7 u6 ?_
  refine k_if hs (fun c7 hs => ?_) (fun c7 hs => ?_)
  · refine e_izJ cd_41_8 rfl c7 ?_
    exact tie_mo_isNull_16 r_mo_isNull d hr_mo_isNull q1.1 q1.2 so _ u6 hs
  · refine e_izN cd_41_8 rfl c7 ?_
    refine e_ildn cd_41_11 u6 ?_
    refine e_const cd_41_12 ci_1 ?_
    refine k_if hs (fun c8 hs => ?_) (fun c8 hs => ?_)
    · refine e_icN cd_41_13 rfl (fun q => q c8) ?_
      exact tie_mo_isNull_16 r_mo_isNull d hr_mo_isNull q1.1 q1.2 so _ u6 hs
    · refine e_icJ cd_41_13 rfl c8 ?_
      refine e_ildn cd_41_27 u6 ?_
      refine e_const cd_41_28 ci_5 ?_
      refine k_if hs (fun c9 hs => ?_) (fun c9 hs => ?_)
      · refine e_icN cd_41_29 rfl (fun q => q c9) ?_
        refine e_aldn cd_41_32 u3 ?_
        refine e_ildn cd_41_33 u4 ?_
        refine e_aldn cd_41_34 u3 ?_
        refine e_ildn cd_41_35 u5 ?_
        refine e_const cd_41_36 ci_1 ?_
        obtain ⟨q10, h11, hs⟩ := k_bind hs
        refine e_cvi cd_41_37 kd_41_240 rfl rfl rfl rfl rfl nl_36 rfl rfl (tie_mo_at d a0 a2 1 q1.2 _ h11) ?_
        obtain ⟨q12, h13, hs⟩ := k_bind hs
        refine e_cvi cd_41_40 kd_41_242 rfl rfl rfl rfl rfl nl_37 rfl rfl (tie_mo_from d a0 a1 q10.1 q10.2 _ h13) ?_
        refine k_if hs (fun c14 hs => ?_) (fun c14 hs => ?_)
        · refine e_izN cd_41_43 rfl (fun q => q c14) ?_
          refine e_const cd_41_46 ci_1 ?_
          have e := Option.some.inj hs
          subst e
          exact e_rz cd_41_47 nr_41 (Or.inr rfl)
        · refine e_izJ cd_41_43 rfl c14 ?_
          exact tie_mo_isNull_48 r_mo_isNull d hr_mo_isNull a0 a1 a2 q1.1 q12.2 so _ u3 u4 u5 u6 hs
      · refine e_icJ cd_41_29 rfl c9 ?_
        exact tie_mo_isNull_48 r_mo_isNull d hr_mo_isNull a0 a1 a2 q1.1 q1.2 so _ u3 u4 u5 u6 hs
theorem tie_mo_isNull (d : Nat) : ∀ (a0 : Nat) (a1 : Int32) (a2 : Int32) (M : zM) (so : Int32 × zM), mo_isNull d a0 a1 a2 M = some so → Ev zq_T d 41 0 (zl_args 0 [.inr (.inr (12, some a0)), .inl a1, .inl a2]) [] M (some (.inl so.1), so.2) := by
  induction d with
  | zero => intro a0 a1 a2 M so hs; exact nomatch hs
  | succ d ih => intro a0 a1 a2 M so hs; exact tieb_mo_isNull _ d ih a0 a1 a2 M so hs
theorem tie_mo_isWithin_32  (d : Nat)  (s0 : Int32) (M : zM) (so : Int32 × zM) (ls : List (Nat × zV))  (hs : mo_isWithin_32  d s0 M = some so) : Ev zq_T (d + 1) 42 32 ls [.inl s0] M (some (.inl so.1), so.2) := by
  unfold mo_isWithin_32 at hs
  obtain ⟨c1, hs⟩ := z_ite hs
  have e := Option.some.inj hs
  subst e
  exact e_rz cd_42_32 nr_42 c1
theorem tie_mo_isWithin_22  (d : Nat)  (v2 : Int32) (v3 : Int32) (M : zM) (so : Int32 × zM) (ls : List (Nat × zV)) (g2 : zl_get ls 2 = some (.inl v2)) (g3 : zl_get ls 3 = some (.inl v3)) (hs : mo_isWithin_22  d v2 v3 M = some so) : Ev zq_T (d + 1) 42 22 ls [] M (some (.inl so.1), so.2) := by
  unfold mo_isWithin_22 at hs
  refine e_ildn cd_42_22 g3 ?_
  refine e_ildn cd_42_23 g2 ?_
  refine k_if hs (fun c1 hs => ?_) (fun c1 hs => ?_)
  · refine e_icN cd_42_24 rfl (fun q => q c1) ?_
    refine e_const cd_42_27 ci_1 ?_
    refine e_goto cd_42_28 rfl ?_
    exact tie_mo_isWithin_32  d  1 M so _  hs
  · refine e_icJ cd_42_24 rfl c1 ?_
    refine e_const cd_42_31 ci_0 ?_
    exact tie_mo_isWithin_32  d  0 M so _  hs
theorem tie_mo_isWithin_2  (d : Nat)  : ∀ (fuel : Nat) (t0 : Nat) (v2 : Int32) (v3 : Int32) (M : zM) (so : Int32 × zM) (ls : List (Nat × zV)), zl_get ls 0 = some (.inr (.inr (12, (some t0)))) → zl_get ls 2 = some (.inl v2) → zl_get ls 3 = some (.inl v3) → mo_isWithin_2  d fuel t0 v2 v3 M = some so → Ev zq_T (d + 1) 42 2 ls [] M (some (.inl so.1), so.2) := by
  intro fuel
  induction fuel with
  | zero => intro t0 v2 v3 M so ls g0 g2 g3 hs; exact nomatch hs
  | succ fuel ih =>
    intro t0 v2 v3 M so ls g0 g2 g3 hs
    unfold mo_isWithin_2 at hs
    refine e_ildn cd_42_2 g3 ?_
    refine e_const cd_42_3 ci_m1 ?_
    refine k_if hs (fun c1 hs => ?_) (fun c1 hs => ?_)
    · refine e_icJ cd_42_4 rfl c1 ?_
      exact tie_mo_isWithin_22  d  v2 v3 M so _ g2 g3 hs
    · refine e_icN cd_42_4 rfl c1 ?_
      refine e_ildn cd_42_7 g3 ?_
      refine e_ildn cd_42_8 g2 ?_
      refine k_if hs (fun c2 hs => ?_) (fun c2 hs => ?_)
      · refine e_icJ cd_42_9 rfl c2 ?_
        exact tie_mo_isWithin_22  d  v2 v3 M so _ g2 g3 hs
      · refine e_icN cd_42_9 rfl c2 ?_
        refine e_aldn cd_42_12 g0 ?_
        refine e_ildn cd_42_13 g3 ?_
        refine e_const cd_42_14 ci_2 ?_
        obtain ⟨q3, h4, hs⟩ := k_bind hs
        refine e_cvi cd_42_15 kd_42_240 rfl rfl rfl rfl rfl nl_36 rfl rfl (tie_mo_at d t0 v3 2 M _ h4) ?_
        refine e_iKn cd_42_18 nl_42 rfl rfl ?_
        intro _ gn kp
        have u5 := kp 0 _ g0 rfl rfl
        have u6 := kp 2 _ g2 rfl rfl
        have u7 := gn
        refine e_goto cd_42_19 rfl ?_
        exact ih t0 v2 q3.1 q3.2 so _ u5 u6 u7 hs
theorem tieb_mo_isWithin  (d : Nat)  (a0 : Nat) (a1 : Int32) (a2 : Int32) (M : zM) (so : Int32 × zM) (hs : mo_isWithin_b  d a0 a1 a2 M = some so) : Ev zq_T (d + 1) 42 0 (zl_args 0 [.inr (.inr (12, some a0)), .inl a1, .inl a2]) [] M (some (.inl so.1), so.2) := by
  unfold mo_isWithin_b at hs
  have g0 : zl_get (zl_args 0 [.inr (.inr (12, some a0)), .inl a1, .inl a2]) 0 = some (.inr (.inr (12, (some a0)))) := rfl
  have g1 : zl_get (zl_args 0 [.inr (.inr (12, some a0)), .inl a1, .inl a2]) 1 = some (.inl a1) := rfl
  have g2 : zl_get (zl_args 0 [.inr (.inr (12, some a0)), .inl a1, .inl a2]) 2 = some (.inl a2) := rfl
  refine e_ildn cd_42_0 g1 ?_
  refine e_iKn cd_42_1 nl_42 rfl rfl ?_
  intro _ gn kp
  have u1 := kp 0 _ g0 rfl rfl
  have u2 := kp 2 _ g2 rfl rfl
  have u3 := gn
  exact tie_mo_isWithin_2  d  zLF a0 a2 a1 M so _ u1 u2 u3 hs
theorem tie_mo_isWithin (d : Nat) (a0 : Nat) (a1 : Int32) (a2 : Int32) (M : zM) (so : Int32 × zM) (hs : mo_isWithin d a0 a1 a2 M = some so) : Ev zq_T d 42 0 (zl_args 0 [.inr (.inr (12, some a0)), .inl a1, .inl a2]) [] M (some (.inl so.1), so.2) := by
  cases d with
  | zero => exact nomatch hs
  | succ d => exact tieb_mo_isWithin d a0 a1 a2 M so hs
theorem tie_mo_isFirst_86 (kl20 : Nat → Int32 → Int32 → Int32 → zM → Option (Int32 × zM)) (d : Nat) (hk20 : ∀ (t0 : Nat) (v1 : Int32) (v2 : Int32) (v4 : Int32) (M : zM) (so : Int32 × zM) (ls : List (Nat × zV)), zl_get ls 0 = some (.inr (.inr (12, (some t0)))) → zl_get ls 1 = some (.inl v1) → zl_get ls 2 = some (.inl v2) → zl_get ls 4 = some (.inl v4) → kl20 t0 v1 v2 v4 M = some so → Ev zq_T (d + 1) 43 20 ls [] M (some (.inl so.1), so.2)) (t0 : Nat) (v1 : Int32) (v2 : Int32) (v5 : Int32) (M : zM) (so : Int32 × zM) (ls : List (Nat × zV)) (g0 : zl_get ls 0 = some (.inr (.inr (12, (some t0))))) (g1 : zl_get ls 1 = some (.inl v1)) (g2 : zl_get ls 2 = some (.inl v2)) (g5 : zl_get ls 5 = some (.inl v5)) (hs : mo_isFirst_86 kl20 d t0 v1 v2 v5 M = some so) : Ev zq_T (d + 1) 43 86 ls [] M (some (.inl so.1), so.2) := by
  unfold mo_isFirst_86 at hs
  refine e_ild cd_43_86 g5 ?_
  refine e_iK cd_43_88 nl_43 rfl rfl ?_
  intro _ gn kp
  have u1 := kp 0 _ g0 rfl rfl
  have u2 := kp 1 _ g1 rfl rfl
  have u3 := kp 2 _ g2 rfl rfl
  have u4 := gn
  refine e_goto cd_43_90 rfl ?_
  exact hk20 t0 v1 v2 v5 M so _ u1 u2 u3 u4 hs
theorem tie_mo_isFirst_55 (kl20 : Nat → Int32 → Int32 → Int32 → zM → Option (Int32 × zM)) (d : Nat) (hk20 : ∀ (t0 : Nat) (v1 : Int32) (v2 : Int32) (v4 : Int32) (M : zM) (so : Int32 × zM) (ls : List (Nat × zV)), zl_get ls 0 = some (.inr (.inr (12, (some t0)))) → zl_get ls 1 = some (.inl v1) → zl_get ls 2 = some (.inl v2) → zl_get ls 4 = some (.inl v4) → kl20 t0 v1 v2 v4 M = some so → Ev zq_T (d + 1) 43 20 ls [] M (some (.inl so.1), so.2)) : ∀ (fuel : Nat) (t0 : Nat) (v1 : Int32) (v2 : Int32) (v4 : Int32) (v5 : Int32) (v6 : Int32) (M : zM) (so : Int32 × zM) (ls : List (Nat × zV)), zl_get ls 0 = some (.inr (.inr (12, (some t0)))) → zl_get ls 1 = some (.inl v1) → zl_get ls 2 = some (.inl v2) → zl_get ls 4 = some (.inl v4) → zl_get ls 5 = some (.inl v5) → zl_get ls 6 = some (.inl v6) → mo_isFirst_55 kl20 d fuel t0 v1 v2 v4 v5 v6 M = some so → Ev zq_T (d + 1) 43 55 ls [] M (some (.inl so.1), so.2) := by
  intro fuel
  induction fuel with
  | zero => intro t0 v1 v2 v4 v5 v6 M so ls g0 g1 g2 g4 g5 g6 hs; exact nomatch hs
  | succ fuel ih =>
    intro t0 v1 v2 v4 v5 v6 M so ls g0 g1 g2 g4 g5 g6 hs
    unfold mo_isFirst_55 at hs
    refine e_ild cd_43_55 g6 ?_
    refine e_ild cd_43_57 g4 ?_
    refine k_if hs (fun c1 hs => ?_) (fun c1 hs => ?_)
    · refine e_icJ cd_43_59 rfl c1 ?_
      exact tie_mo_isFirst_86 kl20 d hk20 t0 v1 v2 v5 M so _ g0 g1 g2 g5 hs
    · refine e_icN cd_43_59 rfl c1 ?_
      refine e_aldn cd_43_62 g0 ?_
      refine e_ildn cd_43_63 g1 ?_
      refine e_ild cd_43_64 g6 ?_
      obtain ⟨q2, h3, hs⟩ := k_bind hs
      refine e_cvi cd_43_66 kd_43_245 rfl rfl rfl rfl rfl nl_41 rfl rfl (tie_mo_isNull d t0 v1 v6 M _ h3) ?_
      refine k_if hs (fun c4 hs => ?_) (fun c4 hs => ?_)
      · refine e_izN cd_43_69 rfl (fun q => q c4) ?_
        refine e_const cd_43_72 ci_0 ?_
        have e := Option.some.inj hs
        subst e
        exact e_rz cd_43_73 nr_43 (Or.inl rfl)
      · refine e_izJ cd_43_69 rfl c4 ?_
        refine e_aldn cd_43_74 g0 ?_
        refine e_ild cd_43_75 g6 ?_
        refine e_const cd_43_77 ci_4 ?_
        obtain ⟨q5, h6, hs⟩ := k_bind hs
        refine e_cvi cd_43_78 kd_43_240 rfl rfl rfl rfl rfl nl_36 rfl rfl (tie_mo_at d t0 v6 4 q2.2 _ h6) ?_
        refine e_iK cd_43_81 nl_43 rfl rfl ?_
        intro _ gn kp
        have u7 := kp 0 _ g0 rfl rfl
        have u8 := kp 1 _ g1 rfl rfl
        have u9 := kp 2 _ g2 rfl rfl
        have u10 := kp 4 _ g4 rfl rfl
        have u11 := kp 5 _ g5 rfl rfl
        have u12 := gn
        refine e_goto cd_43_83 rfl ?_
        exact ih t0 v1 v2 v4 v5 q5.1 q5.2 so _ u7 u8 u9 u10 u11 u12 hs
theorem tie_mo_isFirst_20  (d : Nat)  : ∀ (fuel : Nat) (t0 : Nat) (v1 : Int32) (v2 : Int32) (v4 : Int32) (M : zM) (so : Int32 × zM) (ls : List (Nat × zV)), zl_get ls 0 = some (.inr (.inr (12, (some t0)))) → zl_get ls 1 = some (.inl v1) → zl_get ls 2 = some (.inl v2) → zl_get ls 4 = some (.inl v4) → mo_isFirst_20  d fuel t0 v1 v2 v4 M = some so → Ev zq_T (d + 1) 43 20 ls [] M (some (.inl so.1), so.2) := by
  intro fuel
  induction fuel with
  | zero => intro t0 v1 v2 v4 M so ls g0 g1 g2 g4 hs; exact nomatch hs
  | succ fuel ih =>
    intro t0 v1 v2 v4 M so ls g0 g1 g2 g4 hs
    unfold mo_isFirst_20 at hs
    refine e_ild cd_43_20 g4 ?_
    refine e_ildn cd_43_22 g2 ?_
    refine k_if hs (fun c1 hs => ?_) (fun c1 hs => ?_)
    · refine e_icJ cd_43_23 rfl c1 ?_
      refine e_const cd_43_93 ci_1 ?_
      have e := Option.some.inj hs
      subst e
      exact e_rz cd_43_94 nr_43 (Or.inr rfl)
    · refine e_icN cd_43_23 rfl c1 ?_
      refine e_aldn cd_43_26 g0 ?_
      refine e_ild cd_43_27 g4 ?_
      refine e_const cd_43_29 ci_2 ?_
      obtain ⟨q2, h3, hs⟩ := k_bind hs
      refine e_cvi cd_43_30 kd_43_240 rfl rfl rfl rfl rfl nl_36 rfl rfl (tie_mo_at d t0 v4 2 M _ h3) ?_
      refine e_iK cd_43_33 nl_43 rfl rfl ?_
      intro _ gn kp
      have u4 := kp 0 _ g0 rfl rfl
      have u5 := kp 1 _ g1 rfl rfl
      have u6 := kp 2 _ g2 rfl rfl
      have u7 := kp 4 _ g4 rfl rfl
      have u8 := gn
      refine e_aldn cd_43_35 u4 ?_
      refine e_ild cd_43_36 u8 ?_
      refine e_const cd_43_38 ci_0 ?_
      obtain ⟨q9, h10, hs⟩ := k_bind hs
      refine e_cvi cd_43_39 kd_43_240 rfl rfl rfl rfl rfl nl_36 rfl rfl (tie_mo_at d t0 q2.1 0 q2.2 _ h10) ?_
      refine e_const cd_43_42 ci_2 ?_
      refine k_if hs (fun c11 hs => ?_) (fun c11 hs => ?_)
      · refine e_icN cd_43_43 rfl (fun q => q c11) ?_
        refine e_aldn cd_43_46 u4 ?_
        refine e_ild cd_43_47 u8 ?_
        refine e_const cd_43_49 ci_3 ?_
        obtain ⟨q12, h13, hs⟩ := k_bind hs
        refine e_cvi cd_43_50 kd_43_240 rfl rfl rfl rfl rfl nl_36 rfl rfl (tie_mo_at d t0 q2.1 3 q9.2 _ h13) ?_
        refine e_iK cd_43_53 nl_43 rfl rfl ?_
        intro _ gn kp
        have u14 := kp 0 _ u4 rfl rfl
        have u15 := kp 1 _ u5 rfl rfl
        have u16 := kp 2 _ u6 rfl rfl
        have u17 := kp 4 _ u7 rfl rfl
        have u18 := kp 5 _ u8 rfl rfl
        have u19 := gn
        exact tie_mo_isFirst_55 (fun p0 p1 p2 p3 m => mo_isFirst_20  d fuel p0 p1 p2 p3 m) d ih zLF t0 v1 v2 v4 q2.1 q12.1 q12.2 so _ u14 u15 u16 u17 u18 u19 hs
      · refine e_icJ cd_43_43 rfl c11 ?_
        exact tie_mo_isFirst_86 (fun p0 p1 p2 p3 m => mo_isFirst_20  d fuel p0 p1 p2 p3 m) d ih t0 v1 v2 q2.1 q9.2 so _ u4 u5 u6 u8 hs
theorem tieb_mo_isFirst  (d : Nat)  (a0 : Nat) (a1 : Int32) (a2 : Int32) (a3 : Int32) (M : zM) (so : Int32 × zM) (hs : mo_isFirst_b  d a0 a1 a2 a3 M = some so) : Ev zq_T (d + 1) 43 0 (zl_args 0 [.inr (.inr (12, some a0)), .inl a1, .inl a2, .inl a3]) [] M (some (.inl so.1), so.2) := by
  unfold mo_isFirst_b at hs
  have g0 : zl_get (zl_args 0 [.inr (.inr (12, some a0)), .inl a1, .inl a2, .inl a3]) 0 = some (.inr (.inr (12, (some a0)))) := rfl
  have g1 : zl_get (zl_args 0 [.inr (.inr (12, some a0)), .inl a1, .inl a2, .inl a3]) 1 = some (.inl a1) := rfl
  have g2 : zl_get (zl_args 0 [.inr (.inr (12, some a0)), .inl a1, .inl a2, .inl a3]) 2 = some (.inl a2) := rfl
  have g3 : zl_get (zl_args 0 [.inr (.inr (12, some a0)), .inl a1, .inl a2, .inl a3]) 3 = some (.inl a3) := rfl
  refine e_aldn cd_43_0 g0 ?_
  refine e_ildn cd_43_1 g1 ?_
  refine e_ildn cd_43_2 g3 ?_
  obtain ⟨q1, h2, hs⟩ := k_bind hs
  refine e_cvi cd_43_3 kd_43_249 rfl rfl rfl rfl rfl nl_40 rfl rfl (tie_mo_leaf d a0 a1 a3 M _ h2) ?_
  refine e_iK cd_43_6 nl_43 rfl rfl ?_
  intro _ gn kp
  have u3 := kp 0 _ g0 rfl rfl
  have u4 := kp 1 _ g1 rfl rfl
  have u5 := kp 2 _ g2 rfl rfl
  have u6 := gn
  refine e_aldn cd_43_8 u3 ?_
  refine e_ild cd_43_9 u6 ?_
  refine e_ildn cd_43_11 u5 ?_
  obtain ⟨q7, h8, hs⟩ := k_bind hs
  refine e_cvi cd_43_12 kd_43_252 rfl rfl rfl rfl rfl nl_42 rfl rfl (tie_mo_isWithin d a0 q1.1 a2 q1.2 _ h8) ?_
  refine k_if hs (fun c9 hs => ?_) (fun c9 hs => ?_)
  · refine e_izN cd_43_15 rfl (fun q => q c9) ?_
    refine e_const cd_43_18 ci_0 ?_
    have e := Option.some.inj hs
    subst e
    exact e_rz cd_43_19 nr_43 (Or.inl rfl)
  · refine e_izJ cd_43_15 rfl c9 ?_
    exact tie_mo_isFirst_20  d  zLF a0 a1 a2 q1.1 q7.2 so _ u3 u4 u5 u6 hs
theorem tie_mo_isFirst (d : Nat) (a0 : Nat) (a1 : Int32) (a2 : Int32) (a3 : Int32) (M : zM) (so : Int32 × zM) (hs : mo_isFirst d a0 a1 a2 a3 M = some so) : Ev zq_T d 43 0 (zl_args 0 [.inr (.inr (12, some a0)), .inl a1, .inl a2, .inl a3]) [] M (some (.inl so.1), so.2) := by
  cases d with
  | zero => exact nomatch hs
  | succ d => exact tieb_mo_isFirst d a0 a1 a2 a3 M so hs
theorem tie_mo_isRestNull_7  (d : Nat)  : ∀ (fuel : Nat) (t0 : Nat) (v1 : Int32) (v3 : Int32) (M : zM) (so : Int32 × zM) (ls : List (Nat × zV)), zl_get ls 0 = some (.inr (.inr (12, (some t0)))) → zl_get ls 1 = some (.inl v1) → zl_get ls 3 = some (.inl v3) → mo_isRestNull_7  d fuel t0 v1 v3 M = some so → Ev zq_T (d + 1) 44 7 ls [] M (some (.inl so.1), so.2) := by
  intro fuel
  induction fuel with
  | zero => intro t0 v1 v3 M so ls g0 g1 g3 hs; exact nomatch hs
  | succ fuel ih =>
    intro t0 v1 v3 M so ls g0 g1 g3 hs
    unfold mo_isRestNull_7 at hs
    refine e_ildn cd_44_7 g3 ?_
    refine e_const cd_44_8 ci_m1 ?_
    refine k_if hs (fun c1 hs => ?_) (fun c1 hs => ?_)
    · refine e_icJ cd_44_9 rfl c1 ?_
      refine e_const cd_44_33 ci_1 ?_
      have e := Option.some.inj hs
      subst e
      exact e_rz cd_44_34 nr_44 (Or.inr rfl)
    · refine e_icN cd_44_9 rfl c1 ?_
      refine e_aldn cd_44_12 g0 ?_
      refine e_ildn cd_44_13 g1 ?_
      refine e_ildn cd_44_14 g3 ?_
      obtain ⟨q2, h3, hs⟩ := k_bind hs
      refine e_cvi cd_44_15 kd_44_245 rfl rfl rfl rfl rfl nl_41 rfl rfl (tie_mo_isNull d t0 v1 v3 M _ h3) ?_
      refine k_if hs (fun c4 hs => ?_) (fun c4 hs => ?_)
      · refine e_izN cd_44_18 rfl (fun q => q c4) ?_
        refine e_const cd_44_21 ci_0 ?_
        have e := Option.some.inj hs
        subst e
        exact e_rz cd_44_22 nr_44 (Or.inl rfl)
      · refine e_izJ cd_44_18 rfl c4 ?_
        refine e_aldn cd_44_23 g0 ?_
        refine e_ildn cd_44_24 g3 ?_
        refine e_const cd_44_25 ci_4 ?_
        obtain ⟨q5, h6, hs⟩ := k_bind hs
        refine e_cvi cd_44_26 kd_44_240 rfl rfl rfl rfl rfl nl_36 rfl rfl (tie_mo_at d t0 v3 4 q2.2 _ h6) ?_
        refine e_iKn cd_44_29 nl_44 rfl rfl ?_
        intro _ gn kp
        have u7 := kp 0 _ g0 rfl rfl
        have u8 := kp 1 _ g1 rfl rfl
        have u9 := gn
        refine e_goto cd_44_30 rfl ?_
        exact ih t0 v1 q5.1 q5.2 so _ u7 u8 u9 hs
theorem tieb_mo_isRestNull  (d : Nat)  (a0 : Nat) (a1 : Int32) (a2 : Int32) (M : zM) (so : Int32 × zM) (hs : mo_isRestNull_b  d a0 a1 a2 M = some so) : Ev zq_T (d + 1) 44 0 (zl_args 0 [.inr (.inr (12, some a0)), .inl a1, .inl a2]) [] M (some (.inl so.1), so.2) := by
  unfold mo_isRestNull_b at hs
  have g0 : zl_get (zl_args 0 [.inr (.inr (12, some a0)), .inl a1, .inl a2]) 0 = some (.inr (.inr (12, (some a0)))) := rfl
  have g1 : zl_get (zl_args 0 [.inr (.inr (12, some a0)), .inl a1, .inl a2]) 1 = some (.inl a1) := rfl
  have g2 : zl_get (zl_args 0 [.inr (.inr (12, some a0)), .inl a1, .inl a2]) 2 = some (.inl a2) := rfl
  refine e_aldn cd_44_0 g0 ?_
  refine e_ildn cd_44_1 g2 ?_
  refine e_const cd_44_2 ci_4 ?_
  obtain ⟨q1, h2, hs⟩ := k_bind hs
  refine e_cvi cd_44_3 kd_44_240 rfl rfl rfl rfl rfl nl_36 rfl rfl (tie_mo_at d a0 a2 4 M _ h2) ?_
  refine e_iKn cd_44_6 nl_44 rfl rfl ?_
  intro _ gn kp
  have u3 := kp 0 _ g0 rfl rfl
  have u4 := kp 1 _ g1 rfl rfl
  have u5 := gn
  exact tie_mo_isRestNull_7  d  zLF a0 a1 q1.1 q1.2 so _ u3 u4 u5 hs
theorem tie_mo_isRestNull (d : Nat) (a0 : Nat) (a1 : Int32) (a2 : Int32) (M : zM) (so : Int32 × zM) (hs : mo_isRestNull d a0 a1 a2 M = some so) : Ev zq_T d 44 0 (zl_args 0 [.inr (.inr (12, some a0)), .inl a1, .inl a2]) [] M (some (.inl so.1), so.2) := by
  cases d with
  | zero => exact nomatch hs
  | succ d => exact tieb_mo_isRestNull d a0 a1 a2 M so hs
theorem tie_mo_isLast_43 (kl7 : Nat → Int32 → Int32 → zM → Option (Int32 × zM)) (d : Nat) (hk7 : ∀ (t0 : Nat) (v1 : Int32) (v3 : Int32) (M : zM) (so : Int32 × zM) (ls : List (Nat × zV)), zl_get ls 0 = some (.inr (.inr (12, (some t0)))) → zl_get ls 1 = some (.inl v1) → zl_get ls 3 = some (.inl v3) → kl7 t0 v1 v3 M = some so → Ev zq_T (d + 1) 45 7 ls [] M (some (.inl so.1), so.2)) (t0 : Nat) (v1 : Int32) (v3 : Int32) (M : zM) (so : Int32 × zM) (ls : List (Nat × zV)) (g0 : zl_get ls 0 = some (.inr (.inr (12, (some t0))))) (g1 : zl_get ls 1 = some (.inl v1)) (g3 : zl_get ls 3 = some (.inl v3)) (hs : mo_isLast_43 kl7 d t0 v1 v3 M = some so) : Ev zq_T (d + 1) 45 43 ls [] M (some (.inl so.1), so.2) := by
  unfold mo_isLast_43 at hs
  refine e_aldn cd_45_43 g0 ?_
  refine e_ildn cd_45_44 g3 ?_
  refine e_const cd_45_45 ci_2 ?_
  obtain ⟨q1, h2, hs⟩ := k_bind hs
  refine e_cvi cd_45_46 kd_45_240 rfl rfl rfl rfl rfl nl_36 rfl rfl (tie_mo_at d t0 v3 2 M _ h2) ?_
  refine e_iKn cd_45_49 nl_45 rfl rfl ?_
  intro _ gn kp
  have u3 := kp 0 _ g0 rfl rfl
  have u4 := kp 1 _ g1 rfl rfl
  have u5 := gn
  refine e_goto cd_45_50 rfl ?_
  exact hk7 t0 v1 q1.1 q1.2 so _ u3 u4 u5 hs
theorem tie_mo_isLast_7  (d : Nat)  : ∀ (fuel : Nat) (t0 : Nat) (v1 : Int32) (v3 : Int32) (M : zM) (so : Int32 × zM) (ls : List (Nat × zV)), zl_get ls 0 = some (.inr (.inr (12, (some t0)))) → zl_get ls 1 = some (.inl v1) → zl_get ls 3 = some (.inl v3) → mo_isLast_7  d fuel t0 v1 v3 M = some so → Ev zq_T (d + 1) 45 7 ls [] M (some (.inl so.1), so.2) := by
  intro fuel
  induction fuel with
  | zero => intro t0 v1 v3 M so ls g0 g1 g3 hs; exact nomatch hs
  | succ fuel ih =>
    intro t0 v1 v3 M so ls g0 g1 g3 hs
    unfold mo_isLast_7 at hs
    refine e_aldn cd_45_7 g0 ?_
    refine e_ildn cd_45_8 g3 ?_
    refine e_const cd_45_9 ci_2 ?_
    obtain ⟨q1, h2, hs⟩ := k_bind hs
    refine e_cvi cd_45_10 kd_45_240 rfl rfl rfl rfl rfl nl_36 rfl rfl (tie_mo_at d t0 v3 2 M _ h2) ?_
    refine e_const cd_45_13 ci_m1 ?_
    refine k_if hs (fun c3 hs => ?_) (fun c3 hs => ?_)
    · refine e_icJ cd_45_14 rfl c3 ?_
      refine e_const cd_45_53 ci_1 ?_
      have e := Option.some.inj hs
      subst e
      exact e_rz cd_45_54 nr_45 (Or.inr rfl)
    · refine e_icN cd_45_14 rfl c3 ?_
      refine e_aldn cd_45_17 g0 ?_
      refine e_aldn cd_45_18 g0 ?_
      refine e_ildn cd_45_19 g3 ?_
      refine e_const cd_45_20 ci_2 ?_
      obtain ⟨q4, h5, hs⟩ := k_bind hs
      refine e_cvi cd_45_21 kd_45_240 rfl rfl rfl rfl rfl nl_36 rfl rfl (tie_mo_at d t0 v3 2 q1.2 _ h5) ?_
      refine e_const cd_45_24 ci_0 ?_
      obtain ⟨q6, h7, hs⟩ := k_bind hs
      refine e_cvi cd_45_25 kd_45_240 rfl rfl rfl rfl rfl nl_36 rfl rfl (tie_mo_at d t0 q4.1 0 q4.2 _ h7) ?_
      refine e_const cd_45_28 ci_2 ?_
      refine k_if hs (fun c8 hs => ?_) (fun c8 hs => ?_)
      · refine e_icN cd_45_29 rfl (fun q => q c8) ?_
        refine e_aldn cd_45_32 g0 ?_
        refine e_ildn cd_45_33 g1 ?_
        refine e_ildn cd_45_34 g3 ?_
        obtain ⟨q9, h10, hs⟩ := k_bind hs
        refine e_cvi cd_45_35 kd_45_255 rfl rfl rfl rfl rfl nl_44 rfl rfl (tie_mo_isRestNull d t0 v1 v3 q6.2 _ h10) ?_
        refine k_if hs (fun c11 hs => ?_) (fun c11 hs => ?_)
        · refine e_izN cd_45_38 rfl (fun q => q c11) ?_
          refine e_const cd_45_41 ci_0 ?_
          have e := Option.some.inj hs
          subst e
          exact e_rz cd_45_42 nr_45 (Or.inl rfl)
        · refine e_izJ cd_45_38 rfl c11 ?_
          exact tie_mo_isLast_43 (fun p0 p1 p2 m => mo_isLast_7  d fuel p0 p1 p2 m) d ih t0 v1 v3 q9.2 so _ g0 g1 g3 hs
      · refine e_icJ cd_45_29 rfl c8 ?_
        exact tie_mo_isLast_43 (fun p0 p1 p2 m => mo_isLast_7  d fuel p0 p1 p2 m) d ih t0 v1 v3 q6.2 so _ g0 g1 g3 hs
