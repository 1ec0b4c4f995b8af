theorem tie_wi_seek_54 (kl35 : Nat → Option Nat → Int32 → Option Nat → Option Nat → Int32 → zM → Option (zM)) (d : Nat) (hk35 : ∀ (t0 : Nat) (v1 : Option Nat) (v2 : Int32) (v3 : Option Nat) (v4 : Option Nat) (v5 : Int32) (M : zM) (so : zM) (ls : List (Nat × zV)), zl_get ls 0 = some (.inr (.inr (10, (some t0)))) → zl_get ls 1 = some (.inr (.inr (5, v1))) → zl_get ls 2 = some (.inl v2) → zl_get ls 3 = some (.inr (.inr (9, v3))) → zl_get ls 4 = some (.inr (.inr (7, v4))) → zl_get ls 5 = some (.inl v5) → kl35 t0 v1 v2 v3 v4 v5 M = some so → Ev zq_T (d + 1) 277 35 ls [] M (none, so)) : ∀ (fuel : Nat) (t0 : Nat) (v1 : Option Nat) (v2 : Int32) (v3 : Option Nat) (v4 : Option Nat) (v5 : Int32) (v6 : Int32) (M : zM) (so : zM) (ls : List (Nat × zV)), zl_get ls 0 = some (.inr (.inr (10, (some t0)))) → zl_get ls 1 = some (.inr (.inr (5, v1))) → zl_get ls 2 = some (.inl v2) → zl_get ls 3 = some (.inr (.inr (9, v3))) → zl_get ls 4 = some (.inr (.inr (7, v4))) → zl_get ls 5 = some (.inl v5) → zl_get ls 6 = some (.inl v6) → wi_seek_54 kl35 d fuel t0 v1 v2 v3 v4 v5 v6 M = some so → Ev zq_T (d + 1) 277 54 ls [] M (none, so) := by
  intro fuel
  induction fuel with
  | zero => intro t0 v1 v2 v3 v4 v5 v6 M so ls g0 g1 g2 g3 g4 g5 g6 hs; exact nomatch hs
  | succ fuel ih =>
    intro t0 v1 v2 v3 v4 v5 v6 M so ls g0 g1 g2 g3 g4 g5 g6 hs
    unfold wi_seek_54 at hs
    refine e_ild cd_277_54 g6 ?_
    refine e_aldn cd_277_56 g3 ?_
    refine k_opt hs (fun _ q => nomatch q) (fun k1 h2 hs => ?_)
    refine e_getI cd_277_57 (Or.inl fd_277_42) h2 ?_
    refine k_if hs (fun c3 hs => ?_) (fun c3 hs => ?_)
    · refine e_icJ cd_277_60 rfl c3 ?_
      refine k_let hs (fun x4 e5 hs => ?_)
      refine e_incK cd_277_159 nl_277 rfl g5 ci_1 e5 ?_
      intro _ gn kp
      have u6 := kp 0 _ g0 rfl rfl
      have u7 := kp 1 _ g1 rfl rfl
      have u8 := kp 2 _ g2 rfl rfl
      have u9 := kp 3 _ g3 rfl rfl
      have u10 := kp 4 _ g4 rfl rfl
      have u11 := gn
      refine e_goto cd_277_162 rfl ?_
      exact hk35 t0 v1 v2 v3 v4 x4 M so _ u6 u7 u8 u9 u10 u11 hs
    · refine e_icN cd_277_60 rfl c3 ?_
      refine e_const cd_277_63 ci_0 ?_
      refine e_iK cd_277_64 nl_277 rfl rfl ?_
      intro _ gn kp
      have u12 := kp 0 _ g0 rfl rfl
      have u13 := kp 1 _ g1 rfl rfl
      have u14 := kp 2 _ g2 rfl rfl
      have u15 := kp 3 _ g3 rfl rfl
      have u16 := kp 4 _ g4 rfl rfl
      have u17 := kp 5 _ g5 rfl rfl
      have u18 := kp 6 _ g6 rfl rfl
      have u19 := gn
      exact tie_wi_seek_66 kl35 (fun p0 p1 p2 p3 p4 p5 p6 m => wi_seek_54 kl35 d fuel p0 p1 p2 p3 p4 p5 p6 m) d hk35 ih zLF t0 v1 v2 v3 v4 v5 v6 0 M so _ u12 u13 u14 u15 u16 u17 u18 u19 hs
theorem tie_wi_seek_35  (d : Nat)  : ∀ (fuel : Nat) (t0 : Nat) (v1 : Option Nat) (v2 : Int32) (v3 : Option Nat) (v4 : Option Nat) (v5 : Int32) (M : zM) (so : zM) (ls : List (Nat × zV)), zl_get ls 0 = some (.inr (.inr (10, (some t0)))) → zl_get ls 1 = some (.inr (.inr (5, v1))) → zl_get ls 2 = some (.inl v2) → zl_get ls 3 = some (.inr (.inr (9, v3))) → zl_get ls 4 = some (.inr (.inr (7, v4))) → zl_get ls 5 = some (.inl v5) → wi_seek_35  d fuel t0 v1 v2 v3 v4 v5 M = some so → Ev zq_T (d + 1) 277 35 ls [] M (none, so) := by
  intro fuel
  induction fuel with
  | zero => intro t0 v1 v2 v3 v4 v5 M so ls g0 g1 g2 g3 g4 g5 hs; exact nomatch hs
  | succ fuel ih =>
    intro t0 v1 v2 v3 v4 v5 M so ls g0 g1 g2 g3 g4 g5 hs
    unfold wi_seek_35 at hs
    refine e_ild cd_277_35 g5 ?_
    refine e_aldn cd_277_37 g1 ?_
    refine k_opt hs (fun _ q => nomatch q) (fun k1 h2 hs => ?_)
    refine e_getI cd_277_38 (Or.inl fd_277_34) h2 ?_
    refine k_if hs (fun c3 hs => ?_) (fun c3 hs => ?_)
    · refine e_icJ cd_277_41 rfl c3 ?_
      have e := Option.some.inj hs
      subst e
      exact e_rv cd_277_165 nr_277
    · refine e_icN cd_277_41 rfl c3 ?_
      refine e_aldn cd_277_44 g3 ?_
      refine e_aldn cd_277_45 g1 ?_
      refine e_ild cd_277_46 g5 ?_
      refine k_opt hs (fun _ q => nomatch q) (fun k4 h5 hs => ?_)
      obtain ⟨q6, h7, hs⟩ := k_bind hs
      refine e_cvi cd_277_48 kd_277_36 rfl rfl rfl h5 rfl nl_261 rfl rfl (tie_wy_list d k4 v1 v5 M _ h7) ?_
      refine e_const cd_277_51 ci_1 ?_
      refine e_iK cd_277_52 nl_277 rfl rfl ?_
      intro _ gn kp
      have u8 := kp 0 _ g0 rfl rfl
      have u9 := kp 1 _ g1 rfl rfl
      have u10 := kp 2 _ g2 rfl rfl
      have u11 := kp 3 _ g3 rfl rfl
      have u12 := kp 4 _ g4 rfl rfl
      have u13 := kp 5 _ g5 rfl rfl
      have u14 := gn
      exact tie_wi_seek_54 (fun p0 p1 p2 p3 p4 p5 m => wi_seek_35  d fuel p0 p1 p2 p3 p4 p5 m) d ih zLF t0 v1 v2 v3 v4 v5 1 q6 so _ u8 u9 u10 u11 u12 u13 u14 hs
theorem tie_wi_seek_32  (d : Nat)  (t0 : Nat) (v1 : Option Nat) (v2 : Int32) (v3 : Option Nat) (v4 : Option Nat) (M : zM) (so : zM) (ls : List (Nat × zV)) (g0 : zl_get ls 0 = some (.inr (.inr (10, (some t0))))) (g1 : zl_get ls 1 = some (.inr (.inr (5, v1)))) (g2 : zl_get ls 2 = some (.inl v2)) (g3 : zl_get ls 3 = some (.inr (.inr (9, v3)))) (g4 : zl_get ls 4 = some (.inr (.inr (7, v4)))) (hs : wi_seek_32  d t0 v1 v2 v3 v4 M = some so) : Ev zq_T (d + 1) 277 32 ls [] M (none, so) := by
  unfold wi_seek_32 at hs
  refine e_const cd_277_32 ci_m1 ?_
  refine e_iK cd_277_33 nl_277 rfl rfl ?_
  intro _ gn kp
  have u1 := kp 0 _ g0 rfl rfl
  have u2 := kp 1 _ g1 rfl rfl
  have u3 := kp 2 _ g2 rfl rfl
  have u4 := kp 3 _ g3 rfl rfl
  have u5 := kp 4 _ g4 rfl rfl
  have u6 := gn
  exact tie_wi_seek_35  d  zLF t0 v1 v2 v3 v4 (-1) M so _ u1 u2 u3 u4 u5 u6 hs
theorem tieb_wi_seek  (d : Nat)  (a0 : Nat) (a1 : Option Nat) (a2 : Int32) (a3 : Option Nat) (a4 : Option Nat) (M : zM) (so : zM) (hs : wi_seek_b  d a0 a1 a2 a3 a4 M = some so) : Ev zq_T (d + 1) 277 0 (zl_args 0 [.inr (.inr (10, some a0)), .inr (.inr (5, a1)), .inl a2, .inr (.inr (9, a3)), .inr (.inr (7, a4))]) [] M (none, so) := by
  unfold wi_seek_b at hs
  have g0 : zl_get (zl_args 0 [.inr (.inr (10, some a0)), .inr (.inr (5, a1)), .inl a2, .inr (.inr (9, a3)), .inr (.inr (7, a4))]) 0 = some (.inr (.inr (10, (some a0)))) := rfl
  have g1 : zl_get (zl_args 0 [.inr (.inr (10, some a0)), .inr (.inr (5, a1)), .inl a2, .inr (.inr (9, a3)), .inr (.inr (7, a4))]) 1 = some (.inr (.inr (5, a1))) := rfl
  have g2 : zl_get (zl_args 0 [.inr (.inr (10, some a0)), .inr (.inr (5, a1)), .inl a2, .inr (.inr (9, a3)), .inr (.inr (7, a4))]) 2 = some (.inl a2) := rfl
  have g3 : zl_get (zl_args 0 [.inr (.inr (10, some a0)), .inr (.inr (5, a1)), .inl a2, .inr (.inr (9, a3)), .inr (.inr (7, a4))]) 3 = some (.inr (.inr (9, a3))) := rfl
  have g4 : zl_get (zl_args 0 [.inr (.inr (10, some a0)), .inr (.inr (5, a1)), .inl a2, .inr (.inr (9, a3)), .inr (.inr (7, a4))]) 4 = some (.inr (.inr (7, a4))) := rfl
  refine e_aldn cd_277_0 g0 ?_
  refine e_const cd_277_1 ci_0 ?_
  refine k_let hs (fun M1 e2 hs => ?_)
  refine e_putZ cd_277_2 pd_277_19 (Or.inl rfl) rfl e2 ?_
  refine e_aldn cd_277_5 g0 ?_
  refine e_const cd_277_6 ci_0 ?_
  refine k_let hs (fun M3 e4 hs => ?_)
  refine e_putZ cd_277_7 pd_277_23 (Or.inl rfl) rfl e4 ?_
  refine e_ildn cd_277_10 g2 ?_
  refine k_if hs (fun c5 hs => ?_) (fun c5 hs => ?_)
  · refine e_izJ cd_277_11 rfl c5 ?_
    refine e_aldn cd_277_24 g1 ?_
    refine k_opt hs (fun _ q => nomatch q) (fun k6 h7 hs => ?_)
    refine e_getI cd_277_25 (Or.inr fd_277_31) h7 ?_
    refine k_if hs (fun c8 hs => ?_) (fun c8 hs => ?_)
    · refine e_izJ cd_277_28 rfl c8 ?_
      exact tie_wi_seek_32  d  a0 a1 a2 a3 a4 M3 so _ g0 g1 g2 g3 g4 hs
    · refine e_izN cd_277_28 rfl c8 ?_
      exact tie_wi_seek_31  d   M3 so _  hs
  · refine e_izN cd_277_11 rfl c5 ?_
    refine e_aldn cd_277_14 g1 ?_
    refine k_opt hs (fun _ q => nomatch q) (fun k9 h10 hs => ?_)
    refine e_getI cd_277_15 (Or.inr fd_277_26) h10 ?_
    refine k_if hs (fun c11 hs => ?_) (fun c11 hs => ?_)
    · refine e_izJ cd_277_18 rfl c11 ?_
      exact tie_wi_seek_32  d  a0 a1 a2 a3 a4 M3 so _ g0 g1 g2 g3 g4 hs
    · refine e_izN cd_277_18 rfl c11 ?_
      refine e_goto cd_277_21 rfl ?_
      exact tie_wi_seek_31  d   M3 so _  hs
theorem tie_wi_seek (d : Nat) (a0 : Nat) (a1 : Option Nat) (a2 : Int32) (a3 : Option Nat) (a4 : Option Nat) (M : zM) (so : zM) (hs : wi_seek d a0 a1 a2 a3 a4 M = some so) : Ev zq_T d 277 0 (zl_args 0 [.inr (.inr (10, some a0)), .inr (.inr (5, a1)), .inl a2, .inr (.inr (9, a3)), .inr (.inr (7, a4))]) [] M (none, so) := by
  cases d with
  | zero => exact nomatch hs
  | succ d => exact tieb_wi_seek d a0 a1 a2 a3 a4 M so hs
set_option maxRecDepth 100000 in
theorem tieb_cr_init  (d : Nat)  (a0 : Nat) (M : zM) (so : zM) (hs : cr_init_b  d a0 M = some so) : Ev zq_T (d + 1) 282 0 (zl_args 0 [.inr (.inr (11, some a0))]) [] M (none, so) := by
  unfold cr_init_b at hs
  have g0 : zl_get (zl_args 0 [.inr (.inr (11, some a0))]) 0 = some (.inr (.inr (11, (some a0)))) := rfl
  refine e_aldn cd_282_0 g0 ?_
  refine e_obj cd_282_1 kd_282_1 rfl rfl ?_
  refine e_aldn cd_282_4 g0 ?_
  refine e_sip cd_282_5 cs_400 ?_
  refine k_let hs (fun M2 e3 hs => ?_)
  refine e_newa_int cd_282_8 rfl (by decide) e3 ?_
  refine k_let hs (fun M4 e5 hs => ?_)
  refine e_putR cd_282_10 pd_282_9 rfl e5 ?_
  refine e_aldn cd_282_13 g0 ?_
  refine e_const cd_282_14 ci_0 ?_
  refine k_let hs (fun M6 e7 hs => ?_)
  refine e_putI cd_282_15 pd_282_13 rfl e7 ?_
  refine e_aldn cd_282_18 g0 ?_
  refine k_let hs (fun M8 e9 hs => ?_)
  refine e_new cd_282_19 nd_282_17 e9 ?_
  refine e_pure cd_282_22 rfl ?_
  obtain ⟨q10, h11, hs⟩ := k_bind hs
  refine e_csp cd_282_23 kd_282_19 rfl rfl rfl rfl rfl nl_198 rfl rfl (tie_rs_init d (zm_n M6) M8 _ h11) ?_
  refine k_let hs (fun M12 e13 hs => ?_)
  refine e_putR cd_282_26 pd_282_20 rfl e13 ?_
  refine e_aldn cd_282_29 g0 ?_
  refine k_let hs (fun M14 e15 hs => ?_)
  refine e_new cd_282_30 nd_282_17 e15 ?_
  refine e_pure cd_282_33 rfl ?_
  obtain ⟨q16, h17, hs⟩ := k_bind hs
  refine e_csp cd_282_34 kd_282_19 rfl rfl rfl rfl rfl nl_198 rfl rfl (tie_rs_init d (zm_n M12) M14 _ h17) ?_
  refine k_let hs (fun M18 e19 hs => ?_)
  refine e_putR cd_282_37 pd_282_24 rfl e19 ?_
  refine e_aldn cd_282_40 g0 ?_
  refine k_let hs (fun M20 e21 hs => ?_)
  refine e_new cd_282_41 nd_282_27 e21 ?_
  refine e_pure cd_282_44 rfl ?_
  obtain ⟨q22, h23, hs⟩ := k_bind hs
  refine e_csn cd_282_45 kd_282_29 rfl rfl rfl rfl rfl nl_144 rfl rfl (tie_do_init d (zm_n M18) M20 _ h23) ?_
  refine k_let hs (fun M24 e25 hs => ?_)
  refine e_putR cd_282_48 pd_282_30 rfl e25 ?_
  refine e_aldn cd_282_51 g0 ?_
  refine k_let hs (fun M26 e27 hs => ?_)
  refine e_new cd_282_52 nd_282_27 e27 ?_
  refine e_pure cd_282_55 rfl ?_
  obtain ⟨q28, h29, hs⟩ := k_bind hs
  refine e_csn cd_282_56 kd_282_29 rfl rfl rfl rfl rfl nl_144 rfl rfl (tie_do_init d (zm_n M24) M26 _ h29) ?_
  refine k_let hs (fun M30 e31 hs => ?_)
  refine e_putR cd_282_59 pd_282_34 rfl e31 ?_
  refine e_aldn cd_282_62 g0 ?_
  refine k_let hs (fun M32 e33 hs => ?_)
  refine e_new cd_282_63 nd_282_37 e33 ?_
  refine e_pure cd_282_66 rfl ?_
  obtain ⟨q34, h35, hs⟩ := k_bind hs
  refine e_csn cd_282_67 kd_282_39 rfl rfl rfl rfl rfl nl_161 rfl rfl (tie_le_init d (zm_n M30) M32 _ h35) ?_
  refine k_let hs (fun M36 e37 hs => ?_)
  refine e_putR cd_282_70 pd_282_40 rfl e37 ?_
  refine e_aldn cd_282_73 g0 ?_
  refine k_let hs (fun M38 e39 hs => ?_)
  refine e_new cd_282_74 nd_282_44 e39 ?_
  refine e_pure cd_282_77 rfl ?_
  obtain ⟨q40, h41, hs⟩ := k_bind hs
  refine e_csn cd_282_78 kd_282_46 rfl rfl rfl rfl rfl nl_258 rfl rfl (tie_wy_init d (zm_n M36) M38 _ h41) ?_
  refine k_let hs (fun M42 e43 hs => ?_)
  refine e_putR cd_282_81 pd_282_47 rfl e43 ?_
  refine e_aldn cd_282_84 g0 ?_
  refine k_let hs (fun M44 e45 hs => ?_)
  refine e_new cd_282_85 nd_282_51 e45 ?_
  refine e_pure cd_282_88 rfl ?_
  obtain ⟨q46, h47, hs⟩ := k_bind hs
  refine e_csn cd_282_89 kd_282_53 rfl rfl rfl rfl rfl nl_222 rfl rfl (tie_sp_init d (zm_n M42) M44 _ h47) ?_
  refine k_let hs (fun M48 e49 hs => ?_)
  refine e_putR cd_282_92 pd_282_54 rfl e49 ?_
  refine e_aldn cd_282_95 g0 ?_
  refine k_let hs (fun M50 e51 hs => ?_)
  refine e_new cd_282_96 nd_282_58 e51 ?_
  refine e_pure cd_282_99 rfl ?_
  obtain ⟨q52, h53, hs⟩ := k_bind hs
  refine e_csn cd_282_100 kd_282_60 rfl rfl rfl rfl rfl nl_275 rfl rfl (tie_wi_init d (zm_n M48) M50 _ h53) ?_
  refine k_let hs (fun M54 e55 hs => ?_)
  refine e_putR cd_282_103 pd_282_61 rfl e55 ?_
  refine e_aldn cd_282_106 g0 ?_
  refine k_let hs (fun M56 e57 hs => ?_)
  refine e_new cd_282_107 nd_282_58 e57 ?_
  refine e_pure cd_282_110 rfl ?_
  obtain ⟨q58, h59, hs⟩ := k_bind hs
  refine e_csn cd_282_111 kd_282_60 rfl rfl rfl rfl rfl nl_275 rfl rfl (tie_wi_init d (zm_n M54) M56 _ h59) ?_
  refine k_let hs (fun M60 e61 hs => ?_)
  refine e_putR cd_282_114 pd_282_65 rfl e61 ?_
  refine e_aldn cd_282_117 g0 ?_
  refine k_let hs (fun M62 e63 hs => ?_)
  refine e_new cd_282_118 nd_282_68 e63 ?_
  refine e_pure cd_282_121 rfl ?_
  obtain ⟨q64, h65, hs⟩ := k_bind hs
  refine e_csn cd_282_122 kd_282_70 rfl rfl rfl rfl rfl nl_241 rfl rfl (tie_wk_init d (zm_n M60) M62 _ h65) ?_
  refine k_let hs (fun M66 e67 hs => ?_)
  refine e_putR cd_282_125 pd_282_71 rfl e67 ?_
  refine e_aldn cd_282_128 g0 ?_
  refine k_let hs (fun M68 e69 hs => ?_)
  refine e_new cd_282_129 nd_282_75 e69 ?_
  refine e_pure cd_282_132 rfl ?_
  obtain ⟨q70, h71, hs⟩ := k_bind hs
  refine e_csn cd_282_133 kd_282_77 rfl rfl rfl rfl rfl nl_182 rfl rfl (tie_re_init d (zm_n M66) M68 _ h71) ?_
  refine k_let hs (fun M72 e73 hs => ?_)
  refine e_putR cd_282_136 pd_282_78 rfl e73 ?_
  refine e_aldn cd_282_139 g0 ?_
  refine k_let hs (fun M74 e75 hs => ?_)
  refine e_new cd_282_140 nd_282_82 e75 ?_
  refine e_pure cd_282_143 rfl ?_
  obtain ⟨q76, h77, hs⟩ := k_bind hs
  refine e_csn cd_282_144 kd_282_84 rfl rfl rfl rfl rfl nl_132 rfl rfl (tie_di_init d (zm_n M72) M74 _ h77) ?_
  refine k_let hs (fun M78 e79 hs => ?_)
  refine e_putR cd_282_147 pd_282_85 rfl e79 ?_
  refine e_aldn cd_282_150 g0 ?_
  refine e_const cd_282_151 ci_m1 ?_
  refine k_let hs (fun M80 e81 hs => ?_)
  refine e_putI cd_282_152 pd_282_89 rfl e81 ?_
  have e := Option.some.inj hs
  subst e
  exact e_rv cd_282_155 nr_282
theorem tie_cr_init (d : Nat) (a0 : Nat) (M : zM) (so : zM) (hs : cr_init d a0 M = some so) : Ev zq_T d 282 0 (zl_args 0 [.inr (.inr (11, some a0))]) [] M (none, so) := by
  cases d with
  | zero => exact nomatch hs
  | succ d => exact tieb_cr_init d a0 M so hs
theorem tie_cr_bytesIn_22 (kl5 : Int32 → Int32 → Int32 → zM → Option (Int32 × zM)) (d : Nat) (hk5 : ∀ (v0 : Int32) (v1 : Int32) (v2 : Int32) (M : zM) (so : Int32 × zM) (ls : List (Nat × zV)), zl_get ls 0 = some (.inl v0) → zl_get ls 1 = some (.inl v1) → zl_get ls 2 = some (.inl v2) → kl5 v0 v1 v2 M = some so → Ev zq_T d 284 5 ls [] M (some (.inl so.1), so.2)) (v0 : Int32) (v1 : Int32) (v2 : Int32) (M : zM) (so : Int32 × zM) (ls : List (Nat × zV)) (g0 : zl_get ls 0 = some (.inl v0)) (g1 : zl_get ls 1 = some (.inl v1)) (g2 : zl_get ls 2 = some (.inl v2)) (hs : cr_bytesIn_22 kl5 d v0 v1 v2 M = some so) : Ev zq_T d 284 22 ls [] M (some (.inl so.1), so.2) := by
  unfold cr_bytesIn_22 at hs
  refine k_let hs (fun x1 e2 hs => ?_)
  refine e_incK cd_284_22 nl_284 rfl g2 ci_m8 e2 ?_
  intro _ gn kp
  have u3 := kp 0 _ g0 rfl rfl
  have u4 := kp 1 _ g1 rfl rfl
  have u5 := gn
  refine e_goto cd_284_25 rfl ?_
  exact hk5 v0 v1 x1 M so _ u3 u4 u5 hs
theorem tie_cr_bytesIn_5  (d : Nat)  : ∀ (fuel : Nat) (v0 : Int32) (v1 : Int32) (v2 : Int32) (M : zM) (so : Int32 × zM) (ls : List (Nat × zV)), zl_get ls 0 = some (.inl v0) → zl_get ls 1 = some (.inl v1) → zl_get ls 2 = some (.inl v2) → cr_bytesIn_5  d fuel v0 v1 v2 M = some so → Ev zq_T d 284 5 ls [] M (some (.inl so.1), so.2) := by
  intro fuel
  induction fuel with
  | zero => intro v0 v1 v2 M so ls g0 g1 g2 hs; exact nomatch hs
  | succ fuel ih =>
    intro v0 v1 v2 M so ls g0 g1 g2 hs
    unfold cr_bytesIn_5 at hs
    refine e_ildn cd_284_5 g2 ?_
    refine k_if hs (fun c1 hs => ?_) (fun c1 hs => ?_)
    · refine e_izJ cd_284_6 rfl c1 ?_
      refine e_ildn cd_284_28 g1 ?_
      have e := Option.some.inj hs
      subst e
      exact e_ri cd_284_29 nr_284
    · refine e_izN cd_284_6 rfl c1 ?_
      refine e_ildn cd_284_9 g0 ?_
      refine e_ildn cd_284_10 g2 ?_
      refine e_pure cd_284_11 rfl ?_
      refine e_sip cd_284_12 cs_255 ?_
      refine e_pure cd_284_15 rfl ?_
      refine k_if hs (fun c2 hs => ?_) (fun c2 hs => ?_)
      · refine e_izJ cd_284_16 rfl c2 ?_
        exact tie_cr_bytesIn_22 (fun p0 p1 p2 m => cr_bytesIn_5  d fuel p0 p1 p2 m) d ih v0 v1 v2 M so _ g0 g1 g2 hs
      · refine e_izN cd_284_16 rfl c2 ?_
        refine k_let hs (fun x3 e4 hs => ?_)
        refine e_incK cd_284_19 nl_284 rfl g1 ci_1 e4 ?_
        intro _ gn kp
        have u5 := kp 0 _ g0 rfl rfl
        have u6 := kp 2 _ g2 rfl rfl
        have u7 := gn
        exact tie_cr_bytesIn_22 (fun p0 p1 p2 m => cr_bytesIn_5  d fuel p0 p1 p2 m) d ih v0 x3 v2 M so _ u5 u7 u6 hs
theorem tie_cr_bytesIn (d : Nat) (a0 : Int32) (M : zM) (so : Int32 × zM) (hs : cr_bytesIn d a0 M = some so) : Ev zq_T d 284 0 (zl_args 0 [.inl a0]) [] M (some (.inl so.1), so.2) := by
  unfold cr_bytesIn at hs
  have g0 : zl_get (zl_args 0 [.inl a0]) 0 = some (.inl a0) := rfl
  refine e_const cd_284_0 ci_0 ?_
  refine e_iKn cd_284_1 nl_284 rfl rfl ?_
  intro _ gn kp
  have u1 := kp 0 _ g0 rfl rfl
  have u2 := gn
  refine e_bip cd_284_2 cb_24 ?_
  refine e_iKn cd_284_4 nl_284 rfl rfl ?_
  intro _ gn kp
  have u3 := kp 0 _ u1 rfl rfl
  have u4 := kp 1 _ u2 rfl rfl
  have u5 := gn
  exact tie_cr_bytesIn_5  d  zLF a0 0 24 M so _ u3 u4 u5 hs
theorem tie_cr_put_49 (kl3 : Nat → Int32 → Int32 → zM → Option (zM)) (d : Nat) (hk3 : ∀ (t0 : Nat) (v1 : Int32) (v2 : Int32) (M : zM) (so : zM) (ls : List (Nat × zV)), zl_get ls 0 = some (.inr (.inr (11, (some t0)))) → zl_get ls 1 = some (.inl v1) → zl_get ls 2 = some (.inl v2) → kl3 t0 v1 v2 M = some so → Ev zq_T d 285 3 ls [] M (none, so)) (t0 : Nat) (v1 : Int32) (v2 : Int32) (M : zM) (so : zM) (ls : List (Nat × zV)) (g0 : zl_get ls 0 = some (.inr (.inr (11, (some t0))))) (g1 : zl_get ls 1 = some (.inl v1)) (g2 : zl_get ls 2 = some (.inl v2)) (hs : cr_put_49 kl3 d t0 v1 v2 M = some so) : Ev zq_T d 285 49 ls [] M (none, so) := by
  unfold cr_put_49 at hs
  refine k_let hs (fun x1 e2 hs => ?_)
  refine e_incK cd_285_49 nl_285 rfl g2 ci_m8 e2 ?_
  intro _ gn kp
  have u3 := kp 0 _ g0 rfl rfl
  have u4 := kp 1 _ g1 rfl rfl
  have u5 := gn
  refine e_goto cd_285_52 rfl ?_
  exact hk3 t0 v1 x1 M so _ u3 u4 u5 hs
theorem tie_cr_put_3  (d : Nat)  : ∀ (fuel : Nat) (t0 : Nat) (v1 : Int32) (v2 : Int32) (M : zM) (so : zM) (ls : List (Nat × zV)), zl_get ls 0 = some (.inr (.inr (11, (some t0)))) → zl_get ls 1 = some (.inl v1) → zl_get ls 2 = some (.inl v2) → cr_put_3  d fuel t0 v1 v2 M = some so → Ev zq_T d 285 3 ls [] M (none, so) := by
  intro fuel
  induction fuel with
  | zero => intro t0 v1 v2 M so ls g0 g1 g2 hs; exact nomatch hs
  | succ fuel ih =>
    intro t0 v1 v2 M so ls g0 g1 g2 hs
    unfold cr_put_3 at hs
    refine e_ildn cd_285_3 g2 ?_
    refine k_if hs (fun c1 hs => ?_) (fun c1 hs => ?_)
    · refine e_izJ cd_285_4 rfl c1 ?_
      have e := Option.some.inj hs
      subst e
      exact e_rv cd_285_55 nr_285
    · refine e_izN cd_285_4 rfl c1 ?_
      refine e_ildn cd_285_7 g1 ?_
      refine e_ildn cd_285_8 g2 ?_
      refine e_pure cd_285_9 rfl ?_
      refine e_sip cd_285_10 cs_255 ?_
      refine e_pure cd_285_13 rfl ?_
      refine k_let hs (fun x2 e3 hs => ?_)
      refine e_iKn cd_285_14 nl_285 rfl e3 ?_
      intro _ gn kp
      have u4 := kp 0 _ g0 rfl rfl
      have u5 := kp 1 _ g1 rfl rfl
      have u6 := kp 2 _ g2 rfl rfl
      have u7 := gn
      refine e_ildn cd_285_15 u7 ?_
      refine k_if hs (fun c8 hs => ?_) (fun c8 hs => ?_)
      · refine e_izJ cd_285_16 rfl c8 ?_
        exact tie_cr_put_49 (fun p0 p1 p2 m => cr_put_3  d fuel p0 p1 p2 m) d ih t0 v1 v2 M so _ u4 u5 u6 hs
      · refine e_izN cd_285_16 rfl c8 ?_
        refine e_aldn cd_285_19 u4 ?_
        refine e_getI cd_285_20 (Or.inl fd_285_13) rfl ?_
        refine e_sip cd_285_23 cs_400 ?_
        refine k_if hs (fun c9 hs => ?_) (fun c9 hs => ?_)
        · refine e_icJ cd_285_26 rfl c9 ?_
          exact tie_cr_put_49 (fun p0 p1 p2 m => cr_put_3  d fuel p0 p1 p2 m) d ih t0 v1 v2 M so _ u4 u5 u6 hs
        · refine e_icN cd_285_26 rfl c9 ?_
          refine e_aldn cd_285_29 u4 ?_
          refine e_getR cd_285_30 fd_285_9 rfl ?_
          refine e_aldn cd_285_33 u4 ?_
          refine e_getI cd_285_34 (Or.inl fd_285_13) rfl ?_
          refine e_ildn cd_285_37 u7 ?_
          refine k_opt hs (fun _ q => nomatch q) (fun k10 h11 hs => ?_)
          obtain ⟨c12, hs⟩ := z_ite hs
          refine k_let hs (fun M13 e14 hs => ?_)
          refine e_iast cd_285_38 rfl h11 c12 e14 ?_
          refine e_aldn cd_285_39 u4 ?_
          refine e_pure cd_285_40 rfl ?_
          refine e_getI cd_285_41 (Or.inl fd_285_13) rfl ?_
          refine e_const cd_285_44 ci_1 ?_
          refine e_pure cd_285_45 rfl ?_
          refine k_let hs (fun M15 e16 hs => ?_)
          refine e_putI cd_285_46 pd_285_13 rfl e16 ?_
          exact tie_cr_put_49 (fun p0 p1 p2 m => cr_put_3  d fuel p0 p1 p2 m) d ih t0 v1 v2 M15 so _ u4 u5 u6 hs
theorem tie_cr_put (d : Nat) (a0 : Nat) (a1 : Int32) (M : zM) (so : zM) (hs : cr_put d a0 a1 M = some so) : Ev zq_T d 285 0 (zl_args 0 [.inr (.inr (11, some a0)), .inl a1]) [] M (none, so) := by
  unfold cr_put at hs
  have g0 : zl_get (zl_args 0 [.inr (.inr (11, some a0)), .inl a1]) 0 = some (.inr (.inr (11, (some a0)))) := rfl
  have g1 : zl_get (zl_args 0 [.inr (.inr (11, some a0)), .inl a1]) 1 = some (.inl a1) := rfl
  refine e_bip cd_285_0 cb_24 ?_
  refine e_iKn cd_285_2 nl_285 rfl rfl ?_
  intro _ gn kp
  have u1 := kp 0 _ g0 rfl rfl
  have u2 := kp 1 _ g1 rfl rfl
  have u3 := gn
  exact tie_cr_put_3  d  zLF a0 a1 24 M so _ u1 u2 u3 hs
theorem tieb_cr_feed  (d : Nat)  (a0 : Nat) (a1 : Int32) (a2 : Int32) (a3 : Int32) (a4 : Int32) (a5 : Int32) (M : zM) (so : Int32 × zM) (hs : cr_feed_b  d a0 a1 a2 a3 a4 a5 M = some so) : Ev zq_T (d + 1) 283 0 (zl_args 0 [.inr (.inr (11, some a0)), .inl a1, .inl a2, .inl a3, .inl a4, .inl a5]) [] M (some (.inl so.1), so.2) := by
  unfold cr_feed_b at hs
  have g0 : zl_get (zl_args 0 [.inr (.inr (11, some a0)), .inl a1, .inl a2, .inl a3, .inl a4, .inl a5]) 0 = some (.inr (.inr (11, (some a0)))) := rfl
  have g1 : zl_get (zl_args 0 [.inr (.inr (11, some a0)), .inl a1, .inl a2, .inl a3, .inl a4, .inl a5]) 1 = some (.inl a1) := rfl
  have g2 : zl_get (zl_args 0 [.inr (.inr (11, some a0)), .inl a1, .inl a2, .inl a3, .inl a4, .inl a5]) 2 = some (.inl a2) := rfl
  have g3 : zl_get (zl_args 0 [.inr (.inr (11, some a0)), .inl a1, .inl a2, .inl a3, .inl a4, .inl a5]) 3 = some (.inl a3) := rfl
  have g4 : zl_get (zl_args 0 [.inr (.inr (11, some a0)), .inl a1, .inl a2, .inl a3, .inl a4, .inl a5]) 4 = some (.inl a4) := rfl
  have g5 : zl_get (zl_args 0 [.inr (.inr (11, some a0)), .inl a1, .inl a2, .inl a3, .inl a4, .inl a5]) 5 = some (.inl a5) := rfl
  refine e_ildn cd_283_0 g1 ?_
  obtain ⟨q1, h2, hs⟩ := k_bind hs
  refine e_cst cd_283_1 kd_283_92 rfl rfl rfl nl_284 rfl rfl (tie_cr_bytesIn d a1 M _ h2) ?_
  refine e_ildn cd_283_4 g2 ?_
  obtain ⟨q3, h4, hs⟩ := k_bind hs
  refine e_cst cd_283_5 kd_283_92 rfl rfl rfl nl_284 rfl rfl (tie_cr_bytesIn d a2 q1.2 _ h4) ?_
  refine e_pure cd_283_8 rfl ?_
  refine e_ildn cd_283_9 g3 ?_
  obtain ⟨q5, h6, hs⟩ := k_bind hs
  refine e_cst cd_283_10 kd_283_92 rfl rfl rfl nl_284 rfl rfl (tie_cr_bytesIn d a3 q3.2 _ h6) ?_
  refine e_pure cd_283_13 rfl ?_
  refine e_ild cd_283_14 g4 ?_
  obtain ⟨q7, h8, hs⟩ := k_bind hs
  refine e_cst cd_283_16 kd_283_92 rfl rfl rfl nl_284 rfl rfl (tie_cr_bytesIn d a4 q5.2 _ h8) ?_
  refine e_pure cd_283_19 rfl ?_
  refine e_ild cd_283_20 g5 ?_
  obtain ⟨q9, h10, hs⟩ := k_bind hs
  refine e_cst cd_283_22 kd_283_92 rfl rfl rfl nl_284 rfl rfl (tie_cr_bytesIn d a5 q7.2 _ h10) ?_
  refine e_pure cd_283_25 rfl ?_
  refine k_let hs (fun x11 e12 hs => ?_)
  refine e_iK cd_283_26 nl_283 rfl e12 ?_
  intro _ gn kp
  have u13 := kp 0 _ g0 rfl rfl
  have u14 := kp 1 _ g1 rfl rfl
  have u15 := kp 2 _ g2 rfl rfl
  have u16 := kp 3 _ g3 rfl rfl
  have u17 := kp 4 _ g4 rfl rfl
  have u18 := kp 5 _ g5 rfl rfl
  have u19 := gn
  refine e_aldn cd_283_28 u13 ?_
  refine e_getI cd_283_29 (Or.inl fd_283_13) rfl ?_
  refine e_ild cd_283_32 u19 ?_
  refine e_pure cd_283_34 rfl ?_
  refine e_sip cd_283_35 cs_400 ?_
  refine k_if hs (fun c20 hs => ?_) (fun c20 hs => ?_)
  · refine e_icJ cd_283_38 rfl c20 ?_
    refine e_aldn cd_283_43 u13 ?_
    refine e_ildn cd_283_44 u14 ?_
    obtain ⟨q21, h22, hs⟩ := k_bind hs
    refine e_cvi cd_283_45 kd_283_96 rfl rfl rfl rfl rfl nl_285 rfl rfl (tie_cr_put d a0 a1 q9.2 _ h22) ?_
    refine e_aldn cd_283_48 u13 ?_
    refine e_ildn cd_283_49 u15 ?_
    obtain ⟨q23, h24, hs⟩ := k_bind hs
    refine e_cvi cd_283_50 kd_283_96 rfl rfl rfl rfl rfl nl_285 rfl rfl (tie_cr_put d a0 a2 q21 _ h24) ?_
    refine e_aldn cd_283_53 u13 ?_
    refine e_ildn cd_283_54 u16 ?_
    obtain ⟨q25, h26, hs⟩ := k_bind hs
    refine e_cvi cd_283_55 kd_283_96 rfl rfl rfl rfl rfl nl_285 rfl rfl (tie_cr_put d a0 a3 q23 _ h26) ?_
    refine e_aldn cd_283_58 u13 ?_
    refine e_ild cd_283_59 u17 ?_
    obtain ⟨q27, h28, hs⟩ := k_bind hs
    refine e_cvi cd_283_61 kd_283_96 rfl rfl rfl rfl rfl nl_285 rfl rfl (tie_cr_put d a0 a4 q25 _ h28) ?_
    refine e_aldn cd_283_64 u13 ?_
    refine e_ild cd_283_65 u18 ?_
    obtain ⟨q29, h30, hs⟩ := k_bind hs
    refine e_cvi cd_283_67 kd_283_96 rfl rfl rfl rfl rfl nl_285 rfl rfl (tie_cr_put d a0 a5 q27 _ h30) ?_
    refine e_aldn cd_283_70 u13 ?_
    refine e_getI cd_283_71 (Or.inl fd_283_13) rfl ?_
    have e := Option.some.inj hs
    subst e
    exact e_ri cd_283_74 nr_283
  · refine e_icN cd_283_38 rfl c20 ?_
    refine e_const cd_283_41 ci_m1 ?_
    have e := Option.some.inj hs
    subst e
    exact e_ri cd_283_42 nr_283
theorem tie_cr_feed (d : Nat) (a0 : Nat) (a1 : Int32) (a2 : Int32) (a3 : Int32) (a4 : Int32) (a5 : Int32) (M : zM) (so : Int32 × zM) (hs : cr_feed d a0 a1 a2 a3 a4 a5 M = some so) : Ev zq_T d 283 0 (zl_args 0 [.inr (.inr (11, some a0)), .inl a1, .inl a2, .inl a3, .inl a4, .inl a5]) [] M (some (.inl so.1), so.2) := by
  cases d with
  | zero => exact nomatch hs
  | succ d => exact tieb_cr_feed d a0 a1 a2 a3 a4 a5 M so hs
theorem tie_cr_end_12  (d : Nat)   (M : zM) (so : Int32 × zM) (ls : List (Nat × zV))  (hs : cr_end_12  d  M = some so) : Ev zq_T d 286 12 ls [] M (some (.inl so.1), so.2) := by
  unfold cr_end_12 at hs
  refine e_const cd_286_12 ci_0 ?_
  have e := Option.some.inj hs
  subst e
  exact e_rz cd_286_13 nr_286 (Or.inl rfl)
theorem tie_cr_end (d : Nat) (a0 : Nat) (a1 : Int32) (M : zM) (so : Int32 × zM) (hs : cr_end d a0 a1 M = some so) : Ev zq_T d 286 0 (zl_args 0 [.inr (.inr (11, some a0)), .inl a1]) [] M (some (.inl so.1), so.2) := by
  unfold cr_end at hs
  have g0 : zl_get (zl_args 0 [.inr (.inr (11, some a0)), .inl a1]) 0 = some (.inr (.inr (11, (some a0)))) := rfl
  have g1 : zl_get (zl_args 0 [.inr (.inr (11, some a0)), .inl a1]) 1 = some (.inl a1) := rfl
  refine e_ildn cd_286_0 g1 ?_
  refine k_if hs (fun c1 hs => ?_) (fun c1 hs => ?_)
  · refine e_izJ cd_286_1 rfl c1 ?_
    exact tie_cr_end_12  d   M so _  hs
  · refine e_izN cd_286_1 rfl c1 ?_
    refine e_ildn cd_286_4 g1 ?_
    refine e_aldn cd_286_5 g0 ?_
    refine e_getI cd_286_6 (Or.inl fd_286_13) rfl ?_
    refine k_if hs (fun c2 hs => ?_) (fun c2 hs => ?_)
    · refine e_icJ cd_286_9 rfl c2 ?_
      refine e_aldn cd_286_14 g0 ?_
      refine e_ildn cd_286_15 g1 ?_
      refine k_let hs (fun M3 e4 hs => ?_)
      refine e_putI cd_286_16 pd_286_13 rfl e4 ?_
      refine e_const cd_286_19 ci_1 ?_
      have e := Option.some.inj hs
      subst e
      exact e_rz cd_286_20 nr_286 (Or.inr rfl)
    · refine e_icN cd_286_9 rfl c2 ?_
      exact tie_cr_end_12  d   M so _  hs
theorem tieb_cr_fault  (d : Nat)  (a0 : Nat) (a1 : Int32) (M : zM) (so : Int32 × zM) (hs : cr_fault_b  d a0 a1 M = some so) : Ev zq_T (d + 1) 287 0 (zl_args 0 [.inr (.inr (11, some a0)), .inl a1]) [] M (some (.inl so.1), so.2) := by
  unfold cr_fault_b at hs
  have g0 : zl_get (zl_args 0 [.inr (.inr (11, some a0)), .inl a1]) 0 = some (.inr (.inr (11, (some a0)))) := rfl
  have g1 : zl_get (zl_args 0 [.inr (.inr (11, some a0)), .inl a1]) 1 = some (.inl a1) := rfl
  refine e_ildn cd_287_0 g1 ?_
  refine k_if hs (fun c1 hs => ?_) (fun c1 hs => ?_)
  · refine e_izN cd_287_1 rfl (fun q => q c1) ?_
    refine e_aldn cd_287_4 g0 ?_
    refine e_getR cd_287_5 fd_287_24 rfl ?_
    refine e_aldn cd_287_8 g0 ?_
    refine e_getR cd_287_9 fd_287_9 rfl ?_
    refine e_aldn cd_287_12 g0 ?_
    refine e_getI cd_287_13 (Or.inl fd_287_13) rfl ?_
    refine k_opt hs (fun _ q => nomatch q) (fun k2 h3 hs => ?_)
    obtain ⟨q4, h5, hs⟩ := k_bind hs
    refine e_cvi cd_287_16 kd_287_100 rfl rfl rfl h3 rfl nl_202 rfl rfl (tie_rs_parse d k2 (zm_R M 11 a0 0) (zm_I M 11 a0 1) M _ h5) ?_
    have e := Option.some.inj hs
    subst e
    exact e_ri cd_287_19 nr_287
  · refine e_izJ cd_287_1 rfl c1 ?_
    refine e_ildn cd_287_20 g1 ?_
    refine e_const cd_287_21 ci_1 ?_
    refine k_if hs (fun c6 hs => ?_) (fun c6 hs => ?_)
    · refine e_icN cd_287_22 rfl (fun q => q c6) ?_
      refine e_aldn cd_287_25 g0 ?_
      refine e_getR cd_287_26 fd_287_34 rfl ?_
      refine e_aldn cd_287_29 g0 ?_
      refine e_getR cd_287_30 fd_287_9 rfl ?_
      refine e_aldn cd_287_33 g0 ?_
      refine e_getI cd_287_34 (Or.inl fd_287_13) rfl ?_
      refine k_opt hs (fun _ q => nomatch q) (fun k7 h8 hs => ?_)
      obtain ⟨q9, h10, hs⟩ := k_bind hs
      refine e_cvi cd_287_37 kd_287_104 rfl rfl rfl h8 rfl nl_145 rfl rfl (tie_do_parse d k7 (zm_R M 11 a0 0) (zm_I M 11 a0 1) M _ h10) ?_
      have e := Option.some.inj hs
      subst e
      exact e_ri cd_287_40 nr_287
    · refine e_icJ cd_287_22 rfl c6 ?_
      refine e_bip cd_287_41 cb_m2 ?_
      have e := Option.some.inj hs
      subst e
      exact e_ri cd_287_43 nr_287
theorem tie_cr_fault (d : Nat) (a0 : Nat) (a1 : Int32) (M : zM) (so : Int32 × zM) (hs : cr_fault d a0 a1 M = some so) : Ev zq_T d 287 0 (zl_args 0 [.inr (.inr (11, some a0)), .inl a1]) [] M (some (.inl so.1), so.2) := by
  cases d with
  | zero => exact nomatch hs
  | succ d => exact tieb_cr_fault d a0 a1 M so hs
theorem tieb_cr_forgetWhatRulesTold  (d : Nat)  (a0 : Nat) (M : zM) (so : zM) (hs : cr_forgetWhatRulesTold_b  d a0 M = some so) : Ev zq_T (d + 1) 290 0 (zl_args 0 [.inr (.inr (11, some a0))]) [] M (none, so) := by
  unfold cr_forgetWhatRulesTold_b at hs
  have g0 : zl_get (zl_args 0 [.inr (.inr (11, some a0))]) 0 = some (.inr (.inr (11, (some a0)))) := rfl
  refine e_aldn cd_290_0 g0 ?_
  refine e_getR cd_290_1 fd_290_61 rfl ?_
  refine k_opt hs (fun _ q => nomatch q) (fun k1 h2 hs => ?_)
  obtain ⟨q3, h4, hs⟩ := k_bind hs
  refine e_cvi cd_290_4 kd_290_130 rfl rfl rfl h2 rfl nl_276 rfl rfl (tie_wi_forget d k1 M _ h4) ?_
  refine e_aldn cd_290_7 g0 ?_
  refine e_getR cd_290_8 fd_290_65 rfl ?_
  refine k_opt hs (fun _ q => nomatch q) (fun k5 h6 hs => ?_)
  obtain ⟨q7, h8, hs⟩ := k_bind hs
  refine e_cvi cd_290_11 kd_290_130 rfl rfl rfl h6 rfl nl_276 rfl rfl (tie_wi_forget d k5 q3 _ h8) ?_
  refine e_aldn cd_290_14 g0 ?_
  refine e_getR cd_290_15 fd_290_85 rfl ?_
  refine k_opt hs (fun _ q => nomatch q) (fun k9 h10 hs => ?_)
  obtain ⟨q11, h12, hs⟩ := k_bind hs
  refine e_cvi cd_290_18 kd_290_131 rfl rfl rfl h10 rfl nl_133 rfl rfl (tie_di_forget d k9 q7 _ h12) ?_
  refine e_aldn cd_290_21 g0 ?_
  refine e_const cd_290_22 ci_m1 ?_
  refine k_let hs (fun M13 e14 hs => ?_)
  refine e_putI cd_290_23 pd_290_89 rfl e14 ?_
  refine e_aldn cd_290_26 g0 ?_
  refine e_getR cd_290_27 fd_290_78 rfl ?_
  refine e_const cd_290_30 ci_0 ?_
  refine k_opt hs (fun _ q => nomatch q) (fun k15 h16 hs => ?_)
  refine k_let hs (fun M17 e18 hs => ?_)
  refine e_putZ cd_290_31 pd_290_132 (Or.inl rfl) h16 e18 ?_
  refine e_aldn cd_290_34 g0 ?_
  refine e_getR cd_290_35 fd_290_30 rfl ?_
  refine e_aldn cd_290_38 g0 ?_
  refine e_getR cd_290_39 fd_290_20 rfl ?_
  refine e_aldn cd_290_42 g0 ?_
  refine e_getR cd_290_43 fd_290_71 rfl ?_
  refine k_opt hs (fun _ q => nomatch q) (fun k19 h20 hs => ?_)
  obtain ⟨q21, h22, hs⟩ := k_bind hs
  refine e_cvi cd_290_46 kd_290_125 rfl rfl rfl h20 rfl nl_148 rfl rfl (tie_do_hold d k19 (zm_R M17 11 a0 2) (zm_R M17 11 a0 11) M17 _ h22) ?_
  have e := Option.some.inj hs
  subst e
  exact e_rv cd_290_49 nr_290
theorem tie_cr_forgetWhatRulesTold (d : Nat) (a0 : Nat) (M : zM) (so : zM) (hs : cr_forgetWhatRulesTold d a0 M = some so) : Ev zq_T d 290 0 (zl_args 0 [.inr (.inr (11, some a0))]) [] M (none, so) := by
  cases d with
  | zero => exact nomatch hs
  | succ d => exact tieb_cr_forgetWhatRulesTold d a0 M so hs
theorem tie_cr_rules_53  (d : Nat)  : ∀ (fuel : Nat) (t0 : Nat) (v2 : Int32) (M : zM) (so : Int32 × zM) (ls : List (Nat × zV)), zl_get ls 0 = some (.inr (.inr (11, (some t0)))) → zl_get ls 2 = some (.inl v2) → cr_rules_53  d fuel t0 v2 M = some so → Ev zq_T (d + 1) 288 53 ls [] M (some (.inl so.1), so.2) := by
  intro fuel
  induction fuel with
  | zero => intro t0 v2 M so ls g0 g2 hs; exact nomatch hs
  | succ fuel ih =>
    intro t0 v2 M so ls g0 g2 hs
    unfold cr_rules_53 at hs
    refine e_ildn cd_288_53 g2 ?_
    refine e_aldn cd_288_54 g0 ?_
    refine e_getR cd_288_55 fd_288_20 rfl ?_
    refine k_opt hs (fun _ q => nomatch q) (fun k1 h2 hs => ?_)
    refine e_getI cd_288_58 (Or.inl fd_288_108) h2 ?_
    refine k_if hs (fun c3 hs => ?_) (fun c3 hs => ?_)
    · refine e_icJ cd_288_61 rfl c3 ?_
      refine e_aldn cd_288_102 g0 ?_
      obtain ⟨q4, h5, hs⟩ := k_bind hs
      refine e_cvi cd_288_103 kd_288_122 rfl rfl rfl rfl rfl nl_290 rfl rfl (tie_cr_forgetWhatRulesTold d t0 M _ h5) ?_
      refine e_aldn cd_288_106 g0 ?_
      refine e_getR cd_288_107 fd_288_20 rfl ?_
      refine k_opt hs (fun _ q => nomatch q) (fun k6 h7 hs => ?_)
      refine e_getI cd_288_110 (Or.inl fd_288_108) h7 ?_
      have e := Option.some.inj hs
      subst e
      exact e_ri cd_288_113 nr_288
    · refine e_icN cd_288_61 rfl c3 ?_
      refine e_aldn cd_288_64 g0 ?_
      refine e_getR cd_288_65 fd_288_40 rfl ?_
      refine e_aldn cd_288_68 g0 ?_
      refine e_getR cd_288_69 fd_288_20 rfl ?_
      refine k_opt hs (fun _ q => nomatch q) (fun k8 h9 hs => ?_)
      refine e_getR cd_288_72 fd_288_111 h9 ?_
      refine e_ildn cd_288_75 g2 ?_
      refine k_opt hs (fun _ q => nomatch q) (fun k10 h11 hs => ?_)
      obtain ⟨c12, hs⟩ := z_ite hs
      refine e_aald cd_288_76 rfl h11 c12 ?_
      refine k_opt hs (fun _ q => nomatch q) (fun k13 h14 hs => ?_)
      obtain ⟨q15, h16, hs⟩ := k_bind hs
      refine e_cvi cd_288_77 kd_288_115 rfl rfl rfl h14 rfl nl_162 rfl rfl (tie_le_learnRule d k13 (zm_R M 25 k10 (v2 : Int32).toNatClampNeg) M _ h16) ?_
      refine e_aldn cd_288_80 g0 ?_
      refine e_getR cd_288_81 fd_288_47 rfl ?_
      refine e_aldn cd_288_84 g0 ?_
      refine e_getR cd_288_85 fd_288_20 rfl ?_
      refine k_opt hs (fun _ q => nomatch q) (fun k17 h18 hs => ?_)
      refine e_getR cd_288_88 fd_288_111 h18 ?_
      refine e_ildn cd_288_91 g2 ?_
      refine k_opt hs (fun _ q => nomatch q) (fun k19 h20 hs => ?_)
      obtain ⟨c21, hs⟩ := z_ite hs
      refine e_aald cd_288_92 rfl h20 c21 ?_
      refine k_opt hs (fun _ q => nomatch q) (fun k22 h23 hs => ?_)
      obtain ⟨q24, h25, hs⟩ := k_bind hs
      refine e_cvi cd_288_93 kd_288_119 rfl rfl rfl h23 rfl nl_274 rfl rfl (tie_wy_study d k22 (zm_R q15 25 k19 (v2 : Int32).toNatClampNeg) q15 _ h25) ?_
      refine k_let hs (fun x26 e27 hs => ?_)
      refine e_incK cd_288_96 nl_288 rfl g2 ci_1 e27 ?_
      intro _ gn kp
      have u28 := kp 0 _ g0 rfl rfl
      have u29 := gn
      refine e_goto cd_288_99 rfl ?_
      exact ih t0 x26 q24 so _ u28 u29 hs
theorem tieb_cr_rules  (d : Nat)  (a0 : Nat) (M : zM) (so : Int32 × zM) (hs : cr_rules_b  d a0 M = some so) : Ev zq_T (d + 1) 288 0 (zl_args 0 [.inr (.inr (11, some a0))]) [] M (some (.inl so.1), so.2) := by
  unfold cr_rules_b at hs
  have g0 : zl_get (zl_args 0 [.inr (.inr (11, some a0))]) 0 = some (.inr (.inr (11, (some a0)))) := rfl
  refine e_aldn cd_288_0 g0 ?_
  refine e_getR cd_288_1 fd_288_24 rfl ?_
  refine e_aldn cd_288_4 g0 ?_
  refine e_getR cd_288_5 fd_288_9 rfl ?_
  refine e_aldn cd_288_8 g0 ?_
  refine e_getI cd_288_9 (Or.inl fd_288_13) rfl ?_
  refine k_opt hs (fun _ q => nomatch q) (fun k1 h2 hs => ?_)
  obtain ⟨q3, h4, hs⟩ := k_bind hs
  refine e_cvi cd_288_12 kd_288_100 rfl rfl rfl h2 rfl nl_202 rfl rfl (tie_rs_parse d k1 (zm_R M 11 a0 0) (zm_I M 11 a0 1) M _ h4) ?_
  refine e_const cd_288_15 ci_m1 ?_
  refine k_if hs (fun c5 hs => ?_) (fun c5 hs => ?_)
  · refine e_icJ cd_288_16 rfl c5 ?_
    refine e_aldn cd_288_21 g0 ?_
    refine e_getR cd_288_22 fd_288_20 rfl ?_
    refine e_aKn cd_288_25 nl_288 rfl rfl ?_
    intro _ gn kp
    have u6 := kp 0 _ g0 rfl rfl
    have u7 := gn
    refine e_aldn cd_288_26 u6 ?_
    refine e_aldn cd_288_27 u6 ?_
    refine e_getR cd_288_28 fd_288_24 rfl ?_
    refine k_let hs (fun M8 e9 hs => ?_)
    refine e_putR cd_288_31 pd_288_20 rfl e9 ?_
    refine e_aldn cd_288_34 u6 ?_
    refine e_aldn cd_288_35 u7 ?_
    refine k_let hs (fun M10 e11 hs => ?_)
    refine e_putR cd_288_36 pd_288_24 rfl e11 ?_
    refine e_aldn cd_288_39 u6 ?_
    refine e_const cd_288_40 ci_0 ?_
    refine k_let hs (fun M12 e13 hs => ?_)
    refine e_putI cd_288_41 pd_288_13 rfl e13 ?_
    refine e_aldn cd_288_44 u6 ?_
    refine e_getR cd_288_45 fd_288_78 rfl ?_
    refine k_opt hs (fun _ q => nomatch q) (fun k14 h15 hs => ?_)
    obtain ⟨q16, h17, hs⟩ := k_bind hs
    refine e_cvi cd_288_48 kd_288_105 rfl rfl rfl h15 rfl nl_183 rfl rfl (tie_re_forget d k14 M12 _ h17) ?_
    refine e_const cd_288_51 ci_0 ?_
    refine e_iKn cd_288_52 nl_288 rfl rfl ?_
    intro _ gn kp
    have u18 := kp 0 _ u6 rfl rfl
    have u19 := gn
    exact tie_cr_rules_53  d  zLF a0 0 q16 so _ u18 u19 hs
  · refine e_icN cd_288_16 rfl c5 ?_
    refine e_const cd_288_19 ci_m1 ?_
    have e := Option.some.inj hs
    subst e
    exact e_ri cd_288_20 nr_288
theorem tie_cr_rules (d : Nat) (a0 : Nat) (M : zM) (so : Int32 × zM) (hs : cr_rules d a0 M = some so) : Ev zq_T d 288 0 (zl_args 0 [.inr (.inr (11, some a0))]) [] M (some (.inl so.1), so.2) := by
  cases d with
  | zero => exact nomatch hs
  | succ d => exact tieb_cr_rules d a0 M so hs
theorem tieb_cr_document  (d : Nat)  (a0 : Nat) (M : zM) (so : Int32 × zM) (hs : cr_document_b  d a0 M = some so) : Ev zq_T (d + 1) 289 0 (zl_args 0 [.inr (.inr (11, some a0))]) [] M (some (.inl so.1), so.2) := by
  unfold cr_document_b at hs
  have g0 : zl_get (zl_args 0 [.inr (.inr (11, some a0))]) 0 = some (.inr (.inr (11, (some a0)))) := rfl
  refine e_aldn cd_289_0 g0 ?_
  refine e_getR cd_289_1 fd_289_34 rfl ?_
  refine e_aldn cd_289_4 g0 ?_
  refine e_getR cd_289_5 fd_289_9 rfl ?_
  refine e_aldn cd_289_8 g0 ?_
  refine e_getI cd_289_9 (Or.inl fd_289_13) rfl ?_
  refine k_opt hs (fun _ q => nomatch q) (fun k1 h2 hs => ?_)
  obtain ⟨q3, h4, hs⟩ := k_bind hs
  refine e_cvi cd_289_12 kd_289_104 rfl rfl rfl h2 rfl nl_145 rfl rfl (tie_do_parse d k1 (zm_R M 11 a0 0) (zm_I M 11 a0 1) M _ h4) ?_
  refine e_const cd_289_15 ci_m1 ?_
  refine k_if hs (fun c5 hs => ?_) (fun c5 hs => ?_)
  · refine e_icJ cd_289_16 rfl c5 ?_
    refine e_aldn cd_289_21 g0 ?_
    refine e_getR cd_289_22 fd_289_30 rfl ?_
    refine e_aKn cd_289_25 nl_289 rfl rfl ?_
    intro _ gn kp
    have u6 := kp 0 _ g0 rfl rfl
    have u7 := gn
    refine e_aldn cd_289_26 u6 ?_
    refine e_aldn cd_289_27 u6 ?_
    refine e_getR cd_289_28 fd_289_34 rfl ?_
    refine k_let hs (fun M8 e9 hs => ?_)
    refine e_putR cd_289_31 pd_289_30 rfl e9 ?_
    refine e_aldn cd_289_34 u6 ?_
    refine e_aldn cd_289_35 u7 ?_
    refine k_let hs (fun M10 e11 hs => ?_)
    refine e_putR cd_289_36 pd_289_34 rfl e11 ?_
    refine e_aldn cd_289_39 u6 ?_
    refine e_const cd_289_40 ci_0 ?_
    refine k_let hs (fun M12 e13 hs => ?_)
    refine e_putI cd_289_41 pd_289_13 rfl e13 ?_
    refine e_aldn cd_289_44 u6 ?_
    refine e_getR cd_289_45 fd_289_30 rfl ?_
    refine e_aldn cd_289_48 u6 ?_
    refine e_getR cd_289_49 fd_289_20 rfl ?_
    refine e_aldn cd_289_52 u6 ?_
    refine e_getR cd_289_53 fd_289_71 rfl ?_
    refine k_opt hs (fun _ q => nomatch q) (fun k14 h15 hs => ?_)
    obtain ⟨q16, h17, hs⟩ := k_bind hs
    refine e_cvi cd_289_56 kd_289_125 rfl rfl rfl h15 rfl nl_148 rfl rfl (tie_do_hold d k14 (zm_R M12 11 a0 2) (zm_R M12 11 a0 11) M12 _ h17) ?_
    refine e_aldn cd_289_59 u6 ?_
    refine e_getR cd_289_60 fd_289_30 rfl ?_
    refine k_opt hs (fun _ q => nomatch q) (fun k18 h19 hs => ?_)
    refine e_getI cd_289_63 (Or.inl fd_289_129) h19 ?_
    have e := Option.some.inj hs
    subst e
    exact e_ri cd_289_66 nr_289
  · refine e_icN cd_289_16 rfl c5 ?_
    refine e_const cd_289_19 ci_m1 ?_
    have e := Option.some.inj hs
    subst e
    exact e_ri cd_289_20 nr_289
theorem tie_cr_document (d : Nat) (a0 : Nat) (M : zM) (so : Int32 × zM) (hs : cr_document d a0 M = some so) : Ev zq_T d 289 0 (zl_args 0 [.inr (.inr (11, some a0))]) [] M (some (.inl so.1), so.2) := by
  cases d with
  | zero => exact nomatch hs
  | succ d => exact tieb_cr_document d a0 M so hs
theorem tie_cr_ruleAt_28  (d : Nat)  (s0 : Option Nat) (M : zM) (so : Option Nat × zM) (ls : List (Nat × zV))  (hs : cr_ruleAt_28  d s0 M = some so) : Ev zq_T d 291 28 ls [.inr (.inr (5, s0))] M (some (.inr (.inr (5, so.1))), so.2) := by
  unfold cr_ruleAt_28 at hs
  have e := Option.some.inj hs
  subst e
  exact e_rr cd_291_28 nr_291
theorem tie_cr_ruleAt_27  (d : Nat)   (M : zM) (so : Option Nat × zM) (ls : List (Nat × zV))  (hs : cr_ruleAt_27  d  M = some so) : Ev zq_T d 291 27 ls [] M (some (.inr (.inr (5, so.1))), so.2) := by
  unfold cr_ruleAt_27 at hs
  refine e_pure cd_291_27 rfl ?_
  exact tie_cr_ruleAt_28  d  none M so _  hs
theorem tie_cr_ruleAt (d : Nat) (a0 : Nat) (a1 : Int32) (M : zM) (so : Option Nat × zM) (hs : cr_ruleAt d a0 a1 M = some so) : Ev zq_T d 291 0 (zl_args 0 [.inr (.inr (11, some a0)), .inl a1]) [] M (some (.inr (.inr (5, so.1))), so.2) := by
  unfold cr_ruleAt at hs
  have g0 : zl_get (zl_args 0 [.inr (.inr (11, some a0)), .inl a1]) 0 = some (.inr (.inr (11, (some a0)))) := rfl
  have g1 : zl_get (zl_args 0 [.inr (.inr (11, some a0)), .inl a1]) 1 = some (.inl a1) := rfl
  refine e_ildn cd_291_0 g1 ?_
  refine k_if hs (fun c1 hs => ?_) (fun c1 hs => ?_)
  · refine e_izJ cd_291_1 rfl c1 ?_
    exact tie_cr_ruleAt_27  d   M so _  hs
  · refine e_izN cd_291_1 rfl c1 ?_
    refine e_ildn cd_291_4 g1 ?_
    refine e_aldn cd_291_5 g0 ?_
    refine e_getR cd_291_6 fd_291_20 rfl ?_
    refine k_opt hs (fun _ q => nomatch q) (fun k2 h3 hs => ?_)
    refine e_getI cd_291_9 (Or.inl fd_291_108) h3 ?_
    refine k_if hs (fun c4 hs => ?_) (fun c4 hs => ?_)
    · refine e_icJ cd_291_12 rfl c4 ?_
      exact tie_cr_ruleAt_27  d   M so _  hs
    · refine e_icN cd_291_12 rfl c4 ?_
      refine e_aldn cd_291_15 g0 ?_
      refine e_getR cd_291_16 fd_291_20 rfl ?_
      refine k_opt hs (fun _ q => nomatch q) (fun k5 h6 hs => ?_)
      refine e_getR cd_291_19 fd_291_111 h6 ?_
      refine e_ildn cd_291_22 g1 ?_
      refine k_opt hs (fun _ q => nomatch q) (fun k7 h8 hs => ?_)
      obtain ⟨c9, hs⟩ := z_ite hs
      refine e_aald cd_291_23 rfl h8 c9 ?_
      refine e_goto cd_291_24 rfl ?_
      exact tie_cr_ruleAt_28  d  (zm_R M 25 k7 (a1 : Int32).toNatClampNeg) M so _  hs
theorem tie_cr_rule_17  (d : Nat)   (M : zM) (so : Int32 × zM) (ls : List (Nat × zV))  (hs : cr_rule_17  d  M = some so) : Ev zq_T (d + 1) 293 17 ls [] M (some (.inl so.1), so.2) := by
  unfold cr_rule_17 at hs
  nomatch hs
set_option maxRecDepth 100000 in
theorem tieb_cr_rule  (d : Nat)  (a0 : Nat) (a1 : Int32) (a2 : Int32) (M : zM) (so : Int32 × zM) (hs : cr_rule_b  d a0 a1 a2 M = some so) : Ev zq_T (d + 1) 293 0 (zl_args 0 [.inr (.inr (11, some a0)), .inl a1, .inl a2]) [] M (some (.inl so.1), so.2) := by
  unfold cr_rule_b at hs
  have g0 : zl_get (zl_args 0 [.inr (.inr (11, some a0)), .inl a1, .inl a2]) 0 = some (.inr (.inr (11, (some a0)))) := rfl
  have g1 : zl_get (zl_args 0 [.inr (.inr (11, some a0)), .inl a1, .inl a2]) 1 = some (.inl a1) := rfl
  have g2 : zl_get (zl_args 0 [.inr (.inr (11, some a0)), .inl a1, .inl a2]) 2 = some (.inl a2) := rfl
  refine e_aldn cd_293_0 g0 ?_
  refine e_ildn cd_293_1 g1 ?_
  obtain ⟨q1, h2, hs⟩ := k_bind hs
  refine e_cvi cd_293_2 kd_293_136 rfl rfl rfl rfl rfl nl_291 rfl rfl (tie_cr_ruleAt d a0 a1 M _ h2) ?_
  refine e_aKn cd_293_5 nl_293 rfl rfl ?_
  intro _ gn kp
  have u3 := kp 2 _ g2 rfl rfl
  have u4 := gn
  refine e_aldn cd_293_6 u4 ?_
  refine k_opt hs (fun h5 hs => ?_) (fun k6 h5 hs => ?_)
  · refine e_nu0 cd_293_7 rfl h5 ?_
    exact tie_cr_rule_17  d   q1.2 so _  hs
  · refine e_nu1 cd_293_7 rfl h5 ?_
    refine e_aldn cd_293_10 u4 ?_
    refine e_getR cd_293_11 fd_293_140 h5 ?_
    refine k_opt hs (fun h7 hs => ?_) (fun k8 h7 hs => ?_)
    · refine e_nn0 cd_293_14 rfl h7 ?_
      exact tie_cr_rule_17  d   q1.2 so _  hs
    · refine e_nn1 cd_293_14 rfl h7 ?_
      refine e_ildn cd_293_27 u3 ?_
      refine k_if hs (fun c9 hs => ?_) (fun c9 hs => ?_)
      · refine e_tab cd_293_28 (by decide) (fun f => (e_tb1 c9 rfl f)) ?_
        refine e_aldn cd_293_88 u4 ?_
        refine e_getI cd_293_89 (Or.inl fd_293_153) h5 ?_
        have e := Option.some.inj hs
        subst e
        exact e_ri cd_293_92 nr_293
      · refine k_if hs (fun c10 hs => ?_) (fun c10 hs => ?_)
        · refine e_tab cd_293_28 (by decide) (fun f => (e_tb0 c9 f (e_tb1 c10 rfl f))) ?_
          refine e_aldn cd_293_93 u4 ?_
          refine e_getI cd_293_94 (Or.inl fd_293_156) h5 ?_
          have e := Option.some.inj hs
          subst e
          exact e_ri cd_293_97 nr_293
        · refine k_if hs (fun c11 hs => ?_) (fun c11 hs => ?_)
          · refine e_tab cd_293_28 (by decide) (fun f => (e_tb0 c9 f (e_tb0 c10 f (e_tb1 c11 rfl f)))) ?_
            refine e_aldn cd_293_98 u4 ?_
            refine e_getI cd_293_99 (Or.inl fd_293_159) h5 ?_
            have e := Option.some.inj hs
            subst e
            exact e_ri cd_293_102 nr_293
          · refine k_if hs (fun c12 hs => ?_) (fun c12 hs => ?_)
            · refine e_tab cd_293_28 (by decide) (fun f => (e_tb0 c9 f (e_tb0 c10 f (e_tb0 c11 f (e_tb1 c12 rfl f))))) ?_
              refine e_aldn cd_293_103 u4 ?_
              refine e_getI cd_293_104 (Or.inl fd_293_162) h5 ?_
              have e := Option.some.inj hs
              subst e
              exact e_ri cd_293_107 nr_293
            · refine k_if hs (fun c13 hs => ?_) (fun c13 hs => ?_)
              · refine e_tab cd_293_28 (by decide) (fun f => (e_tb0 c9 f (e_tb0 c10 f (e_tb0 c11 f (e_tb0 c12 f (e_tb1 c13 rfl f)))))) ?_
                refine e_aldn cd_293_108 u4 ?_
                refine e_getR cd_293_109 fd_293_140 h5 ?_
                refine k_opt hs (fun _ q => nomatch q) (fun k20 h21 hs => ?_)
                refine e_getI cd_293_112 (Or.inr fd_293_165) h21 ?_
                obtain ⟨q22, h23, hs⟩ := k_bind hs
                refine e_cst cd_293_115 kd_293_170 rfl rfl rfl nl_292 rfl rfl (tie_cr_bit d (zm_I q1.2 3 k20 8) q1.2 _ h23) ?_
                have e := Option.some.inj hs
                subst e
                exact e_ri cd_293_118 nr_293
              · refine k_if hs (fun c14 hs => ?_) (fun c14 hs => ?_)
                · refine e_tab cd_293_28 (by decide) (fun f => (e_tb0 c9 f (e_tb0 c10 f (e_tb0 c11 f (e_tb0 c12 f (e_tb0 c13 f (e_tb1 c14 rfl f))))))) ?_
                  refine e_aldn cd_293_119 u4 ?_
                  refine e_getI cd_293_120 (Or.inr fd_293_174) h5 ?_
                  obtain ⟨q24, h25, hs⟩ := k_bind hs
                  refine e_cst cd_293_123 kd_293_170 rfl rfl rfl nl_292 rfl rfl (tie_cr_bit d (zm_I q1.2 5 k6 15) q1.2 _ h25) ?_
                  have e := Option.some.inj hs
                  subst e
                  exact e_ri cd_293_126 nr_293
                · refine k_if hs (fun c15 hs => ?_) (fun c15 hs => ?_)
                  · refine e_tab cd_293_28 (by decide) (fun f => (e_tb0 c9 f (e_tb0 c10 f (e_tb0 c11 f (e_tb0 c12 f (e_tb0 c13 f (e_tb0 c14 f (e_tb1 c15 rfl f)))))))) ?_
                    refine e_aldn cd_293_127 u4 ?_
                    refine e_getI cd_293_128 (Or.inr fd_293_177) h5 ?_
                    obtain ⟨q26, h27, hs⟩ := k_bind hs
                    refine e_cst cd_293_131 kd_293_170 rfl rfl rfl nl_292 rfl rfl (tie_cr_bit d (zm_I q1.2 5 k6 16) q1.2 _ h27) ?_
                    have e := Option.some.inj hs
                    subst e
                    exact e_ri cd_293_134 nr_293
                  · refine k_if hs (fun c16 hs => ?_) (fun c16 hs => ?_)
                    · refine e_tab cd_293_28 (by decide) (fun f => (e_tb0 c9 f (e_tb0 c10 f (e_tb0 c11 f (e_tb0 c12 f (e_tb0 c13 f (e_tb0 c14 f (e_tb0 c15 f (e_tb1 c16 rfl f))))))))) ?_
                      refine e_aldn cd_293_135 u4 ?_
                      refine e_getI cd_293_136 (Or.inl fd_293_180) h5 ?_
                      have e := Option.some.inj hs
                      subst e
                      exact e_ri cd_293_139 nr_293
                    · refine k_if hs (fun c17 hs => ?_) (fun c17 hs => ?_)
                      · refine e_tab cd_293_28 (by decide) (fun f => (e_tb0 c9 f (e_tb0 c10 f (e_tb0 c11 f (e_tb0 c12 f (e_tb0 c13 f (e_tb0 c14 f (e_tb0 c15 f (e_tb0 c16 f (e_tb1 c17 rfl f)))))))))) ?_
                        refine e_aldn cd_293_140 u4 ?_
                        refine e_getR cd_293_141 fd_293_140 h5 ?_
                        refine k_opt hs (fun _ q => nomatch q) (fun k28 h29 hs => ?_)
                        refine e_getI cd_293_144 (Or.inl fd_293_183) h29 ?_
                        have e := Option.some.inj hs
                        subst e
                        exact e_ri cd_293_147 nr_293
                      · refine k_if hs (fun c18 hs => ?_) (fun c18 hs => ?_)
                        · refine e_tab cd_293_28 (by decide) (fun f => (e_tb0 c9 f (e_tb0 c10 f (e_tb0 c11 f (e_tb0 c12 f (e_tb0 c13 f (e_tb0 c14 f (e_tb0 c15 f (e_tb0 c16 f (e_tb0 c17 f (e_tb1 c18 rfl f))))))))))) ?_
                          refine e_aldn cd_293_148 u4 ?_
                          refine e_getR cd_293_149 fd_293_140 h5 ?_
                          refine k_opt hs (fun _ q => nomatch q) (fun k30 h31 hs => ?_)
                          refine e_getI cd_293_152 (Or.inl fd_293_186) h31 ?_
                          have e := Option.some.inj hs
                          subst e
                          exact e_ri cd_293_155 nr_293
                        · refine k_if hs (fun c19 hs => ?_) (fun c19 hs => ?_)
                          · refine e_tab cd_293_28 (by decide) (fun f => (e_tb0 c9 f (e_tb0 c10 f (e_tb0 c11 f (e_tb0 c12 f (e_tb0 c13 f (e_tb0 c14 f (e_tb0 c15 f (e_tb0 c16 f (e_tb0 c17 f (e_tb0 c18 f (e_tb1 c19 rfl f)))))))))))) ?_
                            refine e_aldn cd_293_156 u4 ?_
                            refine e_aldn cd_293_157 u4 ?_
                            refine e_getR cd_293_158 fd_293_140 h5 ?_
                            refine k_opt hs (fun _ q => nomatch q) (fun k32 h33 hs => ?_)
                            refine e_getI cd_293_161 (Or.inl fd_293_189) h33 ?_
                            obtain ⟨q34, h35, hs⟩ := k_bind hs
                            refine e_cvi cd_293_164 kd_293_192 rfl rfl rfl h5 rfl nl_194 rfl rfl (tie_ru_lettersIn d k6 (zm_I q1.2 3 k32 11) q1.2 _ h35) ?_
                            have e := Option.some.inj hs
                            subst e
                            exact e_ri cd_293_167 nr_293
                          · refine e_tab cd_293_28 (by decide) (fun f => (e_tb0 c9 f (e_tb0 c10 f (e_tb0 c11 f (e_tb0 c12 f (e_tb0 c13 f (e_tb0 c14 f (e_tb0 c15 f (e_tb0 c16 f (e_tb0 c17 f (e_tb0 c18 f (e_tb0 c19 f (e_tbd rfl f))))))))))))) ?_
                            nomatch hs
theorem tie_cr_rule (d : Nat) (a0 : Nat) (a1 : Int32) (a2 : Int32) (M : zM) (so : Int32 × zM) (hs : cr_rule d a0 a1 a2 M = some so) : Ev zq_T d 293 0 (zl_args 0 [.inr (.inr (11, some a0)), .inl a1, .inl a2]) [] M (some (.inl so.1), so.2) := by
  cases d with
  | zero => exact nomatch hs
  | succ d => exact tieb_cr_rule d a0 a1 a2 M so hs
theorem tie_cr_occurrence_33  (d : Nat)   (M : zM) (so : Int32 × zM) (ls : List (Nat × zV))  (hs : cr_occurrence_33  d  M = some so) : Ev zq_T (d + 1) 294 33 ls [] M (some (.inl so.1), so.2) := by
  unfold cr_occurrence_33 at hs
  refine e_bip cd_294_33 cb_m2 ?_
  have e := Option.some.inj hs
  subst e
  exact e_ri cd_294_35 nr_294
set_option maxRecDepth 100000 in
theorem tieb_cr_occurrence  (d : Nat)  (a0 : Nat) (a1 : Int32) (a2 : Int32) (a3 : Int32) (M : zM) (so : Int32 × zM) (hs : cr_occurrence_b  d a0 a1 a2 a3 M = some so) : Ev zq_T (d + 1) 294 0 (zl_args 0 [.inr (.inr (11, some a0)), .inl a1, .inl a2, .inl a3]) [] M (some (.inl so.1), so.2) := by
  unfold cr_occurrence_b at hs
  have g0 : zl_get (zl_args 0 [.inr (.inr (11, some a0)), .inl a1, .inl a2, .inl a3]) 0 = some (.inr (.inr (11, (some a0)))) := rfl
  have g1 : zl_get (zl_args 0 [.inr (.inr (11, some a0)), .inl a1, .inl a2, .inl a3]) 1 = some (.inl a1) := rfl
  have g2 : zl_get (zl_args 0 [.inr (.inr (11, some a0)), .inl a1, .inl a2, .inl a3]) 2 = some (.inl a2) := rfl
  have g3 : zl_get (zl_args 0 [.inr (.inr (11, some a0)), .inl a1, .inl a2, .inl a3]) 3 = some (.inl a3) := rfl
  refine e_aldn cd_294_0 g0 ?_
  refine e_ildn cd_294_1 g1 ?_
  obtain ⟨q1, h2, hs⟩ := k_bind hs
  refine e_cvi cd_294_2 kd_294_136 rfl rfl rfl rfl rfl nl_291 rfl rfl (tie_cr_ruleAt d a0 a1 M _ h2) ?_
  refine e_aK cd_294_5 nl_294 rfl rfl ?_
  intro _ gn kp
  have u3 := kp 0 _ g0 rfl rfl
  have u4 := kp 2 _ g2 rfl rfl
  have u5 := kp 3 _ g3 rfl rfl
  have u6 := gn
  refine e_ald cd_294_7 u6 ?_
  refine k_opt hs (fun h7 hs => ?_) (fun k8 h7 hs => ?_)
  · refine e_nu0 cd_294_9 rfl h7 ?_
    exact tie_cr_occurrence_33  d   q1.2 so _  hs
  · refine e_nu1 cd_294_9 rfl h7 ?_
    refine e_ald cd_294_12 u6 ?_
    refine e_getR cd_294_14 fd_294_140 h7 ?_
    refine k_opt hs (fun h9 hs => ?_) (fun k10 h9 hs => ?_)
    · refine e_nu0 cd_294_17 rfl h9 ?_
      exact tie_cr_occurrence_33  d   q1.2 so _  hs
    · refine e_nu1 cd_294_17 rfl h9 ?_
      refine e_ildn cd_294_20 u4 ?_
      refine k_if hs (fun c11 hs => ?_) (fun c11 hs => ?_)
      · refine e_izJ cd_294_21 rfl c11 ?_
        exact tie_cr_occurrence_33  d   q1.2 so _  hs
      · refine e_izN cd_294_21 rfl c11 ?_
        refine e_ildn cd_294_24 u4 ?_
        refine e_ald cd_294_25 u6 ?_
        refine e_getI cd_294_27 (Or.inl fd_294_156) h7 ?_
        refine k_if hs (fun c12 hs => ?_) (fun c12 hs => ?_)
        · refine e_icJ cd_294_30 rfl c12 ?_
          refine e_ildn cd_294_36 u5 ?_
          refine k_if hs (fun c13 hs => ?_) (fun c13 hs => ?_)
          · refine e_tab cd_294_37 (by decide) (fun f => (e_tb1 c13 rfl f)) ?_
            refine e_ald cd_294_80 u6 ?_
            refine e_getR cd_294_82 fd_294_197 h7 ?_
            refine e_ildn cd_294_85 u4 ?_
            refine k_opt hs (fun _ q => nomatch q) (fun k20 h21 hs => ?_)
            obtain ⟨c22, hs⟩ := z_ite hs
            refine e_iald cd_294_86 rfl h21 c22 ?_
            have e := Option.some.inj hs
            subst e
            exact e_ri cd_294_87 nr_294
          · refine k_if hs (fun c14 hs => ?_) (fun c14 hs => ?_)
            · refine e_tab cd_294_37 (by decide) (fun f => (e_tb0 c13 f (e_tb1 c14 rfl f))) ?_
              refine e_ald cd_294_88 u6 ?_
              refine e_getR cd_294_90 fd_294_140 h7 ?_
              refine k_opt hs (fun _ q => nomatch q) (fun k23 h24 hs => ?_)
              refine e_getI cd_294_93 (Or.inl fd_294_200) h24 ?_
              refine e_ildn cd_294_96 u4 ?_
              refine e_pure cd_294_97 rfl ?_
              refine e_const cd_294_98 ci_1 ?_
              refine e_pure cd_294_99 rfl ?_
              have e := Option.some.inj hs
              subst e
              exact e_ri cd_294_100 nr_294
            · refine k_if hs (fun c15 hs => ?_) (fun c15 hs => ?_)
              · refine e_tab cd_294_37 (by decide) (fun f => (e_tb0 c13 f (e_tb0 c14 f (e_tb1 c15 rfl f)))) ?_
                refine e_ald cd_294_101 u6 ?_
                refine e_getR cd_294_103 fd_294_140 h7 ?_
                refine k_opt hs (fun _ q => nomatch q) (fun k25 h26 hs => ?_)
                refine e_getI cd_294_106 (Or.inl fd_294_203) h26 ?_
                refine e_ildn cd_294_109 u4 ?_
                refine e_pure cd_294_110 rfl ?_
                refine e_const cd_294_111 ci_1 ?_
                refine e_pure cd_294_112 rfl ?_
                have e := Option.some.inj hs
                subst e
                exact e_ri cd_294_113 nr_294
              · refine k_if hs (fun c16 hs => ?_) (fun c16 hs => ?_)
                · refine e_tab cd_294_37 (by decide) (fun f => (e_tb0 c13 f (e_tb0 c14 f (e_tb0 c15 f (e_tb1 c16 rfl f))))) ?_
                  refine e_aldn cd_294_114 u3 ?_
                  refine e_getR cd_294_115 fd_294_47 rfl ?_
                  refine e_ald cd_294_118 u6 ?_
                  refine e_ildn cd_294_120 u4 ?_
                  refine k_opt hs (fun _ q => nomatch q) (fun k27 h28 hs => ?_)
                  obtain ⟨q29, h30, hs⟩ := k_bind hs
                  refine e_cvi cd_294_121 kd_294_206 rfl rfl rfl h28 rfl nl_266 rfl rfl (tie_wy_nextBehind d k27 q1.1 a2 q1.2 _ h30) ?_
                  have e := Option.some.inj hs
                  subst e
                  exact e_ri cd_294_124 nr_294
                · refine k_if hs (fun c17 hs => ?_) (fun c17 hs => ?_)
                  · refine e_tab cd_294_37 (by decide) (fun f => (e_tb0 c13 f (e_tb0 c14 f (e_tb0 c15 f (e_tb0 c16 f (e_tb1 c17 rfl f)))))) ?_
                    refine e_ald cd_294_125 u6 ?_
                    refine e_getR cd_294_127 fd_294_210 h7 ?_
                    refine e_ildn cd_294_130 u4 ?_
                    refine k_opt hs (fun _ q => nomatch q) (fun k31 h32 hs => ?_)
                    obtain ⟨c33, hs⟩ := z_ite hs
                    refine e_iald cd_294_131 rfl h32 c33 ?_
                    have e := Option.some.inj hs
                    subst e
                    exact e_ri cd_294_132 nr_294
                  · refine k_if hs (fun c18 hs => ?_) (fun c18 hs => ?_)
                    · refine e_tab cd_294_37 (by decide) (fun f => (e_tb0 c13 f (e_tb0 c14 f (e_tb0 c15 f (e_tb0 c16 f (e_tb0 c17 f (e_tb1 c18 rfl f))))))) ?_
                      refine e_ald cd_294_133 u6 ?_
                      refine e_getR cd_294_135 fd_294_213 h7 ?_
                      refine e_ildn cd_294_138 u4 ?_
                      refine k_opt hs (fun _ q => nomatch q) (fun k34 h35 hs => ?_)
                      obtain ⟨c36, hs⟩ := z_ite hs
                      refine e_iald cd_294_139 rfl h35 c36 ?_
                      have e := Option.some.inj hs
                      subst e
                      exact e_ri cd_294_140 nr_294
                    · refine k_if hs (fun c19 hs => ?_) (fun c19 hs => ?_)
                      · refine e_tab cd_294_37 (by decide) (fun f => (e_tb0 c13 f (e_tb0 c14 f (e_tb0 c15 f (e_tb0 c16 f (e_tb0 c17 f (e_tb0 c18 f (e_tb1 c19 rfl f)))))))) ?_
                        refine e_ald cd_294_141 u6 ?_
                        refine e_ildn cd_294_143 u4 ?_
                        obtain ⟨q37, h38, hs⟩ := k_bind hs
                        refine e_cvi cd_294_144 kd_294_216 rfl rfl rfl h7 rfl nl_197 rfl rfl (tie_ru_anysAround d k8 a2 q1.2 _ h38) ?_
                        have e := Option.some.inj hs
                        subst e
                        exact e_ri cd_294_147 nr_294
                      · refine e_tab cd_294_37 (by decide) (fun f => (e_tb0 c13 f (e_tb0 c14 f (e_tb0 c15 f (e_tb0 c16 f (e_tb0 c17 f (e_tb0 c18 f (e_tb0 c19 f (e_tbd rfl f))))))))) ?_
                        refine e_bip cd_294_148 cb_m2 ?_
                        have e := Option.some.inj hs
                        subst e
                        exact e_ri cd_294_150 nr_294
        · refine e_icN cd_294_30 rfl c12 ?_
          exact tie_cr_occurrence_33  d   q1.2 so _  hs
theorem tie_cr_occurrence (d : Nat) (a0 : Nat) (a1 : Int32) (a2 : Int32) (a3 : Int32) (M : zM) (so : Int32 × zM) (hs : cr_occurrence d a0 a1 a2 a3 M = some so) : Ev zq_T d 294 0 (zl_args 0 [.inr (.inr (11, some a0)), .inl a1, .inl a2, .inl a3]) [] M (some (.inl so.1), so.2) := by
  cases d with
  | zero => exact nomatch hs
  | succ d => exact tieb_cr_occurrence d a0 a1 a2 a3 M so hs
theorem tie_cr_counted_25  (d : Nat)   (M : zM) (so : Int32 × zM) (ls : List (Nat × zV))  (hs : cr_counted_25  d  M = some so) : Ev zq_T (d + 1) 295 25 ls [] M (some (.inl so.1), so.2) := by
  unfold cr_counted_25 at hs
  refine e_bip cd_295_25 cb_m2 ?_
  have e := Option.some.inj hs
  subst e
  exact e_ri cd_295_27 nr_295
theorem tie_cr_counted_50  (d : Nat)   (M : zM) (so : Int32 × zM) (ls : List (Nat × zV))  (hs : cr_counted_50  d  M = some so) : Ev zq_T (d + 1) 295 50 ls [] M (some (.inl so.1), so.2) := by
  unfold cr_counted_50 at hs
  refine e_bip cd_295_50 cb_m2 ?_
  have e := Option.some.inj hs
  subst e
  exact e_ri cd_295_52 nr_295
set_option maxRecDepth 100000 in
theorem tieb_cr_counted  (d : Nat)  (a0 : Nat) (a1 : Int32) (a2 : Int32) (a3 : Int32) (M : zM) (so : Int32 × zM) (hs : cr_counted_b  d a0 a1 a2 a3 M = some so) : Ev zq_T (d + 1) 295 0 (zl_args 0 [.inr (.inr (11, some a0)), .inl a1, .inl a2, .inl a3]) [] M (some (.inl so.1), so.2) := by
  unfold cr_counted_b at hs
  have g0 : zl_get (zl_args 0 [.inr (.inr (11, some a0)), .inl a1, .inl a2, .inl a3]) 0 = some (.inr (.inr (11, (some a0)))) := rfl
  have g1 : zl_get (zl_args 0 [.inr (.inr (11, some a0)), .inl a1, .inl a2, .inl a3]) 1 = some (.inl a1) := rfl
  have g2 : zl_get (zl_args 0 [.inr (.inr (11, some a0)), .inl a1, .inl a2, .inl a3]) 2 = some (.inl a2) := rfl
  have g3 : zl_get (zl_args 0 [.inr (.inr (11, some a0)), .inl a1, .inl a2, .inl a3]) 3 = some (.inl a3) := rfl
  refine e_aldn cd_295_0 g0 ?_
  refine e_ildn cd_295_1 g1 ?_
  obtain ⟨q1, h2, hs⟩ := k_bind hs
  refine e_cvi cd_295_2 kd_295_136 rfl rfl rfl rfl rfl nl_291 rfl rfl (tie_cr_ruleAt d a0 a1 M _ h2) ?_
  refine e_aK cd_295_5 nl_295 rfl rfl ?_
  intro _ gn kp
  have u3 := kp 2 _ g2 rfl rfl
  have u4 := kp 3 _ g3 rfl rfl
  have u5 := gn
  refine e_ald cd_295_7 u5 ?_
  refine k_opt hs (fun h6 hs => ?_) (fun k7 h6 hs => ?_)
  · refine e_nu0 cd_295_9 rfl h6 ?_
    exact tie_cr_counted_25  d   q1.2 so _  hs
  · refine e_nu1 cd_295_9 rfl h6 ?_
    refine e_ildn cd_295_12 u3 ?_
    refine k_if hs (fun c8 hs => ?_) (fun c8 hs => ?_)
    · refine e_izJ cd_295_13 rfl c8 ?_
      exact tie_cr_counted_25  d   q1.2 so _  hs
    · refine e_izN cd_295_13 rfl c8 ?_
      refine e_ildn cd_295_16 u3 ?_
      refine e_ald cd_295_17 u5 ?_
      refine e_getI cd_295_19 (Or.inl fd_295_159) h6 ?_
      refine k_if hs (fun c9 hs => ?_) (fun c9 hs => ?_)
      · refine e_icJ cd_295_22 rfl c9 ?_
        refine e_ald cd_295_28 u5 ?_
        refine e_getR cd_295_30 fd_295_219 h6 ?_
        refine e_ildn cd_295_33 u3 ?_
        refine k_opt hs (fun _ q => nomatch q) (fun k10 h11 hs => ?_)
        obtain ⟨c12, hs⟩ := z_ite hs
        refine e_aald cd_295_34 rfl h11 c12 ?_
        refine e_aK cd_295_35 nl_295 rfl rfl ?_
        intro _ gn kp
        have u13 := kp 2 _ u3 rfl rfl
        have u14 := kp 3 _ u4 rfl rfl
        have u15 := kp 4 _ u5 rfl rfl
        have u16 := gn
        refine e_ald cd_295_37 u16 ?_
        refine k_opt hs (fun h17 hs => ?_) (fun k18 h17 hs => ?_)
        · refine e_nu0 cd_295_39 rfl h17 ?_
          exact tie_cr_counted_50  d   q1.2 so _  hs
        · refine e_nu1 cd_295_39 rfl h17 ?_
          refine e_ald cd_295_42 u16 ?_
          refine e_getR cd_295_44 fd_295_223 h17 ?_
          refine k_opt hs (fun h19 hs => ?_) (fun k20 h19 hs => ?_)
          · refine e_nn0 cd_295_47 rfl h19 ?_
            exact tie_cr_counted_50  d   q1.2 so _  hs
          · refine e_nn1 cd_295_47 rfl h19 ?_
            refine e_ildn cd_295_53 u14 ?_
            refine k_if hs (fun c21 hs => ?_) (fun c21 hs => ?_)
            · refine e_tab cd_295_54 (by decide) (fun f => (e_tb1 c21 rfl f)) ?_
              refine e_ald cd_295_88 u15 ?_
              refine e_getR cd_295_90 fd_295_226 h6 ?_
              refine e_ildn cd_295_93 u13 ?_
              refine k_opt hs (fun _ q => nomatch q) (fun k26 h27 hs => ?_)
              obtain ⟨c28, hs⟩ := z_ite hs
              refine e_iald cd_295_94 rfl h27 c28 ?_
              have e := Option.some.inj hs
              subst e
              exact e_ri cd_295_95 nr_295
            · refine k_if hs (fun c22 hs => ?_) (fun c22 hs => ?_)
              · refine e_tab cd_295_54 (by decide) (fun f => (e_tb0 c21 f (e_tb1 c22 rfl f))) ?_
                refine e_ald cd_295_96 u15 ?_
                refine e_getR cd_295_98 fd_295_229 h6 ?_
                refine e_ildn cd_295_101 u13 ?_
                refine k_opt hs (fun _ q => nomatch q) (fun k29 h30 hs => ?_)
                obtain ⟨c31, hs⟩ := z_ite hs
                refine e_iald cd_295_102 rfl h30 c31 ?_
                have e := Option.some.inj hs
                subst e
                exact e_ri cd_295_103 nr_295
              · refine k_if hs (fun c23 hs => ?_) (fun c23 hs => ?_)
                · refine e_tab cd_295_54 (by decide) (fun f => (e_tb0 c21 f (e_tb0 c22 f (e_tb1 c23 rfl f)))) ?_
                  refine e_ald cd_295_104 u16 ?_
                  obtain ⟨q32, h33, hs⟩ := k_bind hs
                  refine e_cvi cd_295_106 kd_295_232 rfl rfl rfl h17 rfl nl_180 rfl rfl (tie_nd_countAround d k18 q1.2 _ h33) ?_
                  obtain ⟨q34, h35, hs⟩ := k_bind hs
                  refine e_cst cd_295_109 kd_295_236 rfl rfl rfl nl_181 rfl rfl (tie_nd_numberOf d q32.1 q32.2 _ h35) ?_
                  have e := Option.some.inj hs
                  subst e
                  exact e_ri cd_295_112 nr_295
                · refine k_if hs (fun c24 hs => ?_) (fun c24 hs => ?_)
                  · refine e_tab cd_295_54 (by decide) (fun f => (e_tb0 c21 f (e_tb0 c22 f (e_tb0 c23 f (e_tb1 c24 rfl f))))) ?_
                    refine e_ald cd_295_113 u16 ?_
                    refine e_getI cd_295_115 (Or.inl fd_295_189) h17 ?_
                    have e := Option.some.inj hs
                    subst e
                    exact e_ri cd_295_118 nr_295
                  · refine k_if hs (fun c25 hs => ?_) (fun c25 hs => ?_)
                    · refine e_tab cd_295_54 (by decide) (fun f => (e_tb0 c21 f (e_tb0 c22 f (e_tb0 c23 f (e_tb0 c24 f (e_tb1 c25 rfl f)))))) ?_
                      refine e_ald cd_295_119 u16 ?_
                      refine e_getR cd_295_121 fd_295_223 h17 ?_
                      refine k_opt hs (fun _ q => nomatch q) (fun k36 h37 hs => ?_)
                      refine e_getI cd_295_124 (Or.inr fd_295_165) h37 ?_
                      obtain ⟨q38, h39, hs⟩ := k_bind hs
                      refine e_cst cd_295_127 kd_295_170 rfl rfl rfl nl_292 rfl rfl (tie_cr_bit d (zm_I q1.2 3 k36 8) q1.2 _ h39) ?_
                      have e := Option.some.inj hs
                      subst e
                      exact e_ri cd_295_130 nr_295
                    · refine e_tab cd_295_54 (by decide) (fun f => (e_tb0 c21 f (e_tb0 c22 f (e_tb0 c23 f (e_tb0 c24 f (e_tb0 c25 f (e_tbd rfl f))))))) ?_
                      refine e_bip cd_295_131 cb_m2 ?_
                      have e := Option.some.inj hs
                      subst e
                      exact e_ri cd_295_133 nr_295
      · refine e_icN cd_295_22 rfl c9 ?_
        exact tie_cr_counted_25  d   q1.2 so _  hs
theorem tie_cr_counted (d : Nat) (a0 : Nat) (a1 : Int32) (a2 : Int32) (a3 : Int32) (M : zM) (so : Int32 × zM) (hs : cr_counted d a0 a1 a2 a3 M = some so) : Ev zq_T d 295 0 (zl_args 0 [.inr (.inr (11, some a0)), .inl a1, .inl a2, .inl a3]) [] M (some (.inl so.1), so.2) := by
  cases d with
  | zero => exact nomatch hs
  | succ d => exact tieb_cr_counted d a0 a1 a2 a3 M so hs
theorem tie_cr_any_35  (d : Nat)   (M : zM) (so : Int32 × zM) (ls : List (Nat × zV))  (hs : cr_any_35  d  M = some so) : Ev zq_T (d + 1) 296 35 ls [] M (some (.inl so.1), so.2) := by
  unfold cr_any_35 at hs
  refine e_const cd_296_35 ci_m1 ?_
  have e := Option.some.inj hs
  subst e
  exact e_ri cd_296_36 nr_296
theorem tie_cr_any_92  (d : Nat)  (s0 : Int32) (M : zM) (so : Int32 × zM) (ls : List (Nat × zV))  (hs : cr_any_92  d s0 M = some so) : Ev zq_T (d + 1) 296 92 ls [.inl s0] M (some (.inl so.1), so.2) := by
  unfold cr_any_92 at hs
  have e := Option.some.inj hs
  subst e
  exact e_ri cd_296_92 nr_296
theorem tie_cr_any_52  (d : Nat)  : ∀ (fuel : Nat) (v3 : Int32) (v5 : Int32) (v6 : Option Nat) (M : zM) (so : Int32 × zM) (ls : List (Nat × zV)), zl_get ls 3 = some (.inl v3) → zl_get ls 5 = some (.inl v5) → zl_get ls 6 = some (.inr (.inr (3, v6))) → cr_any_52  d fuel v3 v5 v6 M = some so → Ev zq_T (d + 1) 296 52 ls [] M (some (.inl so.1), so.2) := by
  intro fuel
  induction fuel with
  | zero => intro v3 v5 v6 M so ls g3 g5 g6 hs; exact nomatch hs
  | succ fuel ih =>
    intro v3 v5 v6 M so ls g3 g5 g6 hs
    unfold cr_any_52 at hs
    refine e_ald cd_296_52 g6 ?_
    refine k_opt hs (fun h1 hs => ?_) (fun k2 h1 hs => ?_)
    · refine e_nu0 cd_296_54 rfl h1 ?_
      refine e_ildn cd_296_82 g3 ?_
      refine k_if hs (fun c3 hs => ?_) (fun c3 hs => ?_)
      · refine e_izN cd_296_83 rfl (fun q => q c3) ?_
        refine e_ild cd_296_86 g5 ?_
        refine e_goto cd_296_88 rfl ?_
        exact tie_cr_any_92  d  v5 M so _  hs
      · refine e_izJ cd_296_83 rfl c3 ?_
        refine e_const cd_296_91 ci_m1 ?_
        exact tie_cr_any_92  d  (-1) M so _  hs
    · refine e_nu1 cd_296_54 rfl h1 ?_
      refine k_let hs (fun x4 e5 hs => ?_)
      refine e_incK cd_296_57 nl_296 rfl g5 ci_1 e5 ?_
      intro _ gn kp
      have u6 := kp 3 _ g3 rfl rfl
      have u7 := kp 6 _ g6 rfl rfl
      have u8 := gn
      refine e_ild cd_296_60 u8 ?_
      refine e_ildn cd_296_62 u6 ?_
      refine k_if hs (fun c9 hs => ?_) (fun c9 hs => ?_)
      · refine e_icN cd_296_63 rfl (fun q => q c9) ?_
        refine e_ald cd_296_66 u7 ?_
        refine e_getI cd_296_68 (Or.inl fd_296_189) h1 ?_
        have e := Option.some.inj hs
        subst e
        exact e_ri cd_296_71 nr_296
      · refine e_icJ cd_296_63 rfl c9 ?_
        refine e_ald cd_296_72 u7 ?_
        refine e_getR cd_296_74 fd_296_243 h1 ?_
        refine e_aK cd_296_77 nl_296 rfl rfl ?_
        intro _ gn kp
        have u10 := kp 3 _ u6 rfl rfl
        have u11 := kp 5 _ u8 rfl rfl
        have u12 := gn
        refine e_goto cd_296_79 rfl ?_
        exact ih v3 x4 (zm_R M 3 k2 7) M so _ u10 u11 u12 hs
theorem tieb_cr_any  (d : Nat)  (a0 : Nat) (a1 : Int32) (a2 : Int32) (a3 : Int32) (M : zM) (so : Int32 × zM) (hs : cr_any_b  d a0 a1 a2 a3 M = some so) : Ev zq_T (d + 1) 296 0 (zl_args 0 [.inr (.inr (11, some a0)), .inl a1, .inl a2, .inl a3]) [] M (some (.inl so.1), so.2) := by
  unfold cr_any_b at hs
  have g0 : zl_get (zl_args 0 [.inr (.inr (11, some a0)), .inl a1, .inl a2, .inl a3]) 0 = some (.inr (.inr (11, (some a0)))) := rfl
  have g1 : zl_get (zl_args 0 [.inr (.inr (11, some a0)), .inl a1, .inl a2, .inl a3]) 1 = some (.inl a1) := rfl
  have g2 : zl_get (zl_args 0 [.inr (.inr (11, some a0)), .inl a1, .inl a2, .inl a3]) 2 = some (.inl a2) := rfl
  have g3 : zl_get (zl_args 0 [.inr (.inr (11, some a0)), .inl a1, .inl a2, .inl a3]) 3 = some (.inl a3) := rfl
  refine e_aldn cd_296_0 g0 ?_
  refine e_ildn cd_296_1 g1 ?_
  obtain ⟨q1, h2, hs⟩ := k_bind hs
  refine e_cvi cd_296_2 kd_296_136 rfl rfl rfl rfl rfl nl_291 rfl rfl (tie_cr_ruleAt d a0 a1 M _ h2) ?_
  refine e_aK cd_296_5 nl_296 rfl rfl ?_
  intro _ gn kp
  have u3 := kp 2 _ g2 rfl rfl
  have u4 := kp 3 _ g3 rfl rfl
  have u5 := gn
  refine e_ald cd_296_7 u5 ?_
  refine k_opt hs (fun h6 hs => ?_) (fun k7 h6 hs => ?_)
  · refine e_nu0 cd_296_9 rfl h6 ?_
    exact tie_cr_any_35  d   q1.2 so _  hs
  · refine e_nu1 cd_296_9 rfl h6 ?_
    refine e_ildn cd_296_12 u3 ?_
    refine k_if hs (fun c8 hs => ?_) (fun c8 hs => ?_)
    · refine e_izJ cd_296_13 rfl c8 ?_
      exact tie_cr_any_35  d   q1.2 so _  hs
    · refine e_izN cd_296_13 rfl c8 ?_
      refine e_ildn cd_296_16 u3 ?_
      refine e_ald cd_296_17 u5 ?_
      refine e_getI cd_296_19 (Or.inl fd_296_162) h6 ?_
      refine k_if hs (fun c9 hs => ?_) (fun c9 hs => ?_)
      · refine e_icJ cd_296_22 rfl c9 ?_
        exact tie_cr_any_35  d   q1.2 so _  hs
      · refine e_icN cd_296_22 rfl c9 ?_
        refine e_ald cd_296_25 u5 ?_
        refine e_getR cd_296_27 fd_296_240 h6 ?_
        refine e_ildn cd_296_30 u3 ?_
        refine k_opt hs (fun _ q => nomatch q) (fun k10 h11 hs => ?_)
        obtain ⟨c12, hs⟩ := z_ite hs
        refine e_aald cd_296_31 rfl h11 c12 ?_
        refine k_opt hs (fun h13 hs => ?_) (fun k14 h13 hs => ?_)
        · refine e_nn0 cd_296_32 rfl h13 ?_
          exact tie_cr_any_35  d   q1.2 so _  hs
        · refine e_nn1 cd_296_32 rfl h13 ?_
          refine e_const cd_296_37 ci_0 ?_
          refine e_iK cd_296_38 nl_296 rfl rfl ?_
          intro _ gn kp
          have u15 := kp 2 _ u3 rfl rfl
          have u16 := kp 3 _ u4 rfl rfl
          have u17 := kp 4 _ u5 rfl rfl
          have u18 := gn
          refine e_ald cd_296_40 u17 ?_
          refine e_getR cd_296_42 fd_296_240 h6 ?_
          refine e_ildn cd_296_45 u15 ?_
          refine k_opt hs (fun _ q => nomatch q) (fun k19 h20 hs => ?_)
          obtain ⟨c21, hs⟩ := z_ite hs
          refine e_aald cd_296_46 rfl h20 c21 ?_
          refine k_opt hs (fun _ q => nomatch q) (fun k22 h23 hs => ?_)
          refine e_getR cd_296_47 fd_296_223 h23 ?_
          refine e_aK cd_296_50 nl_296 rfl rfl ?_
          intro _ gn kp
          have u24 := kp 3 _ u16 rfl rfl
          have u25 := kp 5 _ u18 rfl rfl
          have u26 := gn
          exact tie_cr_any_52  d  zLF a3 0 (zm_R q1.2 3 k22 5) q1.2 so _ u24 u25 u26 hs
theorem tie_cr_any (d : Nat) (a0 : Nat) (a1 : Int32) (a2 : Int32) (a3 : Int32) (M : zM) (so : Int32 × zM) (hs : cr_any d a0 a1 a2 a3 M = some so) : Ev zq_T d 296 0 (zl_args 0 [.inr (.inr (11, some a0)), .inl a1, .inl a2, .inl a3]) [] M (some (.inl so.1), so.2) := by
  cases d with
  | zero => exact nomatch hs
  | succ d => exact tieb_cr_any d a0 a1 a2 a3 M so hs
theorem tie_cr_witnessOf_70  (d : Nat)  (s0 : Option Nat) (M : zM) (so : Option Nat × zM) (ls : List (Nat × zV))  (hs : cr_witnessOf_70  d s0 M = some so) : Ev zq_T (d + 1) 297 70 ls [.inr (.inr (10, s0))] M (some (.inr (.inr (10, so.1))), so.2) := by
  unfold cr_witnessOf_70 at hs
  have e := Option.some.inj hs
  subst e
  exact e_rr cd_297_70 nr_297
theorem tie_cr_witnessOf_58  (d : Nat)  (v3 : Option Nat) (M : zM) (so : Option Nat × zM) (ls : List (Nat × zV)) (g3 : zl_get ls 3 = some (.inr (.inr (10, v3)))) (hs : cr_witnessOf_58  d v3 M = some so) : Ev zq_T (d + 1) 297 58 ls [] M (some (.inr (.inr (10, so.1))), so.2) := by
  unfold cr_witnessOf_58 at hs
  refine e_aldn cd_297_58 g3 ?_
  refine k_opt hs (fun _ q => nomatch q) (fun k1 h2 hs => ?_)
  refine e_getI cd_297_59 (Or.inr fd_297_253) h2 ?_
  refine k_if hs (fun c3 hs => ?_) (fun c3 hs => ?_)
  · refine e_izJ cd_297_62 rfl c3 ?_
    refine e_pure cd_297_69 rfl ?_
    exact tie_cr_witnessOf_70  d  none M so _  hs
  · refine e_izN cd_297_62 rfl c3 ?_
    refine e_aldn cd_297_65 g3 ?_
    refine e_goto cd_297_66 rfl ?_
    exact tie_cr_witnessOf_70  d  v3 M so _  hs
theorem tie_cr_witnessOf_15  (d : Nat)  (t0 : Nat) (v1 : Int32) (v2 : Int32) (s0 : Option Nat) (M : zM) (so : Option Nat × zM) (ls : List (Nat × zV)) (g0 : zl_get ls 0 = some (.inr (.inr (11, (some t0))))) (g1 : zl_get ls 1 = some (.inl v1)) (g2 : zl_get ls 2 = some (.inl v2)) (hs : cr_witnessOf_15  d t0 v1 v2 s0 M = some so) : Ev zq_T (d + 1) 297 15 ls [.inr (.inr (10, s0))] M (some (.inr (.inr (10, so.1))), so.2) := by
  unfold cr_witnessOf_15 at hs
  refine e_aKn cd_297_15 nl_297 rfl rfl ?_
  intro _ gn kp
  have u1 := kp 0 _ g0 rfl rfl
  have u2 := kp 1 _ g1 rfl rfl
  have u3 := kp 2 _ g2 rfl rfl
  have u4 := gn
  refine e_aldn cd_297_16 u1 ?_
  refine e_ildn cd_297_17 u2 ?_
  obtain ⟨q5, h6, hs⟩ := k_bind hs
  refine e_cvi cd_297_18 kd_297_136 rfl rfl rfl rfl rfl nl_291 rfl rfl (tie_cr_ruleAt d t0 v1 M _ h6) ?_
  refine e_aK cd_297_21 nl_297 rfl rfl ?_
  intro _ gn kp
  have u7 := kp 0 _ u1 rfl rfl
  have u8 := kp 1 _ u2 rfl rfl
  have u9 := kp 2 _ u3 rfl rfl
  have u10 := kp 3 _ u4 rfl rfl
  have u11 := gn
  refine e_ald cd_297_23 u11 ?_
  refine k_opt hs (fun h12 hs => ?_) (fun k13 h12 hs => ?_)
  · refine e_nn0 cd_297_25 rfl h12 ?_
    refine e_pure cd_297_28 rfl ?_
    have e := Option.some.inj hs
    subst e
    exact e_rr cd_297_29 nr_297
  · refine e_nn1 cd_297_25 rfl h12 ?_
    refine e_aldn cd_297_30 u10 ?_
    refine k_opt hs (fun _ q => nomatch q) (fun k14 h15 hs => ?_)
    refine e_getI cd_297_31 (Or.inl fd_297_246) h15 ?_
    refine e_ildn cd_297_34 u8 ?_
    refine k_if hs (fun c16 hs => ?_) (fun c16 hs => ?_)
    · refine e_icJ cd_297_35 rfl c16 ?_
      exact tie_cr_witnessOf_58  d  s0 q5.2 so _ u10 hs
    · refine e_icN cd_297_35 rfl c16 ?_
      refine e_aldn cd_297_38 u10 ?_
      refine e_ald cd_297_39 u11 ?_
      refine e_ildn cd_297_41 u9 ?_
      refine e_aldn cd_297_42 u7 ?_
      refine e_getR cd_297_43 fd_297_47 rfl ?_
      refine e_aldn cd_297_46 u7 ?_
      refine e_getR cd_297_47 fd_297_54 rfl ?_
      obtain ⟨q17, h18, hs⟩ := k_bind hs
      refine e_cvi cd_297_50 kd_297_249 rfl rfl rfl h15 rfl nl_277 rfl rfl (tie_wi_seek d k14 q5.1 v2 (zm_R q5.2 11 t0 7) (zm_R q5.2 11 t0 8) q5.2 _ h18) ?_
      refine e_aldn cd_297_53 u10 ?_
      refine e_ildn cd_297_54 u8 ?_
      refine k_let hs (fun M19 e20 hs => ?_)
      refine e_putI cd_297_55 pd_297_246 h15 e20 ?_
      exact tie_cr_witnessOf_58  d  s0 M19 so _ u10 hs
theorem tieb_cr_witnessOf  (d : Nat)  (a0 : Nat) (a1 : Int32) (a2 : Int32) (M : zM) (so : Option Nat × zM) (hs : cr_witnessOf_b  d a0 a1 a2 M = some so) : Ev zq_T (d + 1) 297 0 (zl_args 0 [.inr (.inr (11, some a0)), .inl a1, .inl a2]) [] M (some (.inr (.inr (10, so.1))), so.2) := by
  unfold cr_witnessOf_b at hs
  have g0 : zl_get (zl_args 0 [.inr (.inr (11, some a0)), .inl a1, .inl a2]) 0 = some (.inr (.inr (11, (some a0)))) := rfl
  have g1 : zl_get (zl_args 0 [.inr (.inr (11, some a0)), .inl a1, .inl a2]) 1 = some (.inl a1) := rfl
  have g2 : zl_get (zl_args 0 [.inr (.inr (11, some a0)), .inl a1, .inl a2]) 2 = some (.inl a2) := rfl
  refine e_ildn cd_297_0 g2 ?_
  refine k_if hs (fun c1 hs => ?_) (fun c1 hs => ?_)
  · refine e_izJ cd_297_1 rfl c1 ?_
    refine e_aldn cd_297_11 g0 ?_
    refine e_getR cd_297_12 fd_297_61 rfl ?_
    exact tie_cr_witnessOf_15  d  a0 a1 a2 (zm_R M 11 a0 9) M so _ g0 g1 g2 hs
  · refine e_izN cd_297_1 rfl c1 ?_
    refine e_aldn cd_297_4 g0 ?_
    refine e_getR cd_297_5 fd_297_65 rfl ?_
    refine e_goto cd_297_8 rfl ?_
    exact tie_cr_witnessOf_15  d  a0 a1 a2 (zm_R M 11 a0 10) M so _ g0 g1 g2 hs
theorem tie_cr_witnessOf (d : Nat) (a0 : Nat) (a1 : Int32) (a2 : Int32) (M : zM) (so : Option Nat × zM) (hs : cr_witnessOf d a0 a1 a2 M = some so) : Ev zq_T d 297 0 (zl_args 0 [.inr (.inr (11, some a0)), .inl a1, .inl a2]) [] M (some (.inr (.inr (10, so.1))), so.2) := by
  cases d with
  | zero => exact nomatch hs
  | succ d => exact tieb_cr_witnessOf d a0 a1 a2 M so hs
theorem tieb_cr_witness  (d : Nat)  (a0 : Nat) (a1 : Int32) (a2 : Int32) (a3 : Int32) (M : zM) (so : Int32 × zM) (hs : cr_witness_b  d a0 a1 a2 a3 M = some so) : Ev zq_T (d + 1) 298 0 (zl_args 0 [.inr (.inr (11, some a0)), .inl a1, .inl a2, .inl a3]) [] M (some (.inl so.1), so.2) := by
  unfold cr_witness_b at hs
  have g0 : zl_get (zl_args 0 [.inr (.inr (11, some a0)), .inl a1, .inl a2, .inl a3]) 0 = some (.inr (.inr (11, (some a0)))) := rfl
  have g1 : zl_get (zl_args 0 [.inr (.inr (11, some a0)), .inl a1, .inl a2, .inl a3]) 1 = some (.inl a1) := rfl
  have g2 : zl_get (zl_args 0 [.inr (.inr (11, some a0)), .inl a1, .inl a2, .inl a3]) 2 = some (.inl a2) := rfl
  have g3 : zl_get (zl_args 0 [.inr (.inr (11, some a0)), .inl a1, .inl a2, .inl a3]) 3 = some (.inl a3) := rfl
  refine e_aldn cd_298_0 g0 ?_
  refine e_ildn cd_298_1 g1 ?_
  refine e_ildn cd_298_2 g2 ?_
  obtain ⟨q1, h2, hs⟩ := k_bind hs
  refine e_cvi cd_298_3 kd_298_256 rfl rfl rfl rfl rfl nl_297 rfl rfl (tie_cr_witnessOf d a0 a1 a2 M _ h2) ?_
  refine e_aK cd_298_6 nl_298 rfl rfl ?_
  intro _ gn kp
  have u3 := kp 3 _ g3 rfl rfl
  have u4 := gn
  refine e_ald cd_298_8 u4 ?_
  refine k_opt hs (fun h5 hs => ?_) (fun k6 h5 hs => ?_)
  · refine e_nn0 cd_298_10 rfl h5 ?_
    refine e_ldwI cd_298_13 od_298_260 ?_
    have e := Option.some.inj hs
    subst e
    exact e_ri cd_298_16 nr_298
  · refine e_nn1 cd_298_10 rfl h5 ?_
    refine e_ildn cd_298_17 u3 ?_
    refine k_if hs (fun c7 hs => ?_) (fun c7 hs => ?_)
    · refine e_tab cd_298_18 (by decide) (fun f => (e_tb1 c7 rfl f)) ?_
      refine e_ald cd_298_56 u4 ?_
      refine e_getI cd_298_58 (Or.inl fd_298_261) h5 ?_
      have e := Option.some.inj hs
      subst e
      exact e_ri cd_298_61 nr_298
    · refine k_if hs (fun c8 hs => ?_) (fun c8 hs => ?_)
      · refine e_tab cd_298_18 (by decide) (fun f => (e_tb0 c7 f (e_tb1 c8 rfl f))) ?_
        refine e_ald cd_298_62 u4 ?_
        refine e_getI cd_298_64 (Or.inl fd_298_264) h5 ?_
        obtain ⟨q13, h14, hs⟩ := k_bind hs
        refine e_cst cd_298_67 kd_298_267 rfl rfl rfl nl_259 rfl rfl (tie_wy_occurrenceIn d (zm_I q1.2 10 k6 3) q1.2 _ h14) ?_
        have e := Option.some.inj hs
        subst e
        exact e_ri cd_298_70 nr_298
      · refine k_if hs (fun c9 hs => ?_) (fun c9 hs => ?_)
        · refine e_tab cd_298_18 (by decide) (fun f => (e_tb0 c7 f (e_tb0 c8 f (e_tb1 c9 rfl f)))) ?_
          refine e_ald cd_298_71 u4 ?_
          refine e_getI cd_298_73 (Or.inl fd_298_264) h5 ?_
          obtain ⟨q15, h16, hs⟩ := k_bind hs
          refine e_cst cd_298_76 kd_298_270 rfl rfl rfl nl_260 rfl rfl (tie_wy_countIn d (zm_I q1.2 10 k6 3) q1.2 _ h16) ?_
          have e := Option.some.inj hs
          subst e
          exact e_ri cd_298_79 nr_298
        · refine k_if hs (fun c10 hs => ?_) (fun c10 hs => ?_)
          · refine e_tab cd_298_18 (by decide) (fun f => (e_tb0 c7 f (e_tb0 c8 f (e_tb0 c9 f (e_tb1 c10 rfl f))))) ?_
            refine e_ald cd_298_80 u4 ?_
            refine e_getI cd_298_82 (Or.inl fd_298_273) h5 ?_
            obtain ⟨q17, h18, hs⟩ := k_bind hs
            refine e_cst cd_298_85 kd_298_267 rfl rfl rfl nl_259 rfl rfl (tie_wy_occurrenceIn d (zm_I q1.2 10 k6 4) q1.2 _ h18) ?_
            have e := Option.some.inj hs
            subst e
            exact e_ri cd_298_88 nr_298
          · refine k_if hs (fun c11 hs => ?_) (fun c11 hs => ?_)
            · refine e_tab cd_298_18 (by decide) (fun f => (e_tb0 c7 f (e_tb0 c8 f (e_tb0 c9 f (e_tb0 c10 f (e_tb1 c11 rfl f)))))) ?_
              refine e_ald cd_298_89 u4 ?_
              refine e_getI cd_298_91 (Or.inl fd_298_273) h5 ?_
              obtain ⟨q19, h20, hs⟩ := k_bind hs
              refine e_cst cd_298_94 kd_298_270 rfl rfl rfl nl_260 rfl rfl (tie_wy_countIn d (zm_I q1.2 10 k6 4) q1.2 _ h20) ?_
              have e := Option.some.inj hs
              subst e
              exact e_ri cd_298_97 nr_298
            · refine k_if hs (fun c12 hs => ?_) (fun c12 hs => ?_)
              · refine e_tab cd_298_18 (by decide) (fun f => (e_tb0 c7 f (e_tb0 c8 f (e_tb0 c9 f (e_tb0 c10 f (e_tb0 c11 f (e_tb1 c12 rfl f))))))) ?_
                refine e_ald cd_298_98 u4 ?_
                refine e_getI cd_298_100 (Or.inl fd_298_276) h5 ?_
                have e := Option.some.inj hs
                subst e
                exact e_ri cd_298_103 nr_298
              · refine e_tab cd_298_18 (by decide) (fun f => (e_tb0 c7 f (e_tb0 c8 f (e_tb0 c9 f (e_tb0 c10 f (e_tb0 c11 f (e_tb0 c12 f (e_tbd rfl f)))))))) ?_
                refine e_ldwI cd_298_104 od_298_260 ?_
                have e := Option.some.inj hs
                subst e
                exact e_ri cd_298_107 nr_298
theorem tie_cr_witness (d : Nat) (a0 : Nat) (a1 : Int32) (a2 : Int32) (a3 : Int32) (M : zM) (so : Int32 × zM) (hs : cr_witness d a0 a1 a2 a3 M = some so) : Ev zq_T d 298 0 (zl_args 0 [.inr (.inr (11, some a0)), .inl a1, .inl a2, .inl a3]) [] M (some (.inl so.1), so.2) := by
  cases d with
  | zero => exact nomatch hs
  | succ d => exact tieb_cr_witness d a0 a1 a2 a3 M so hs
theorem tie_cr_shown_26  (d : Nat)   (M : zM) (so : Int32 × zM) (ls : List (Nat × zV))  (hs : cr_shown_26  d  M = some so) : Ev zq_T (d + 1) 299 26 ls [] M (some (.inl so.1), so.2) := by
  unfold cr_shown_26 at hs
  refine e_const cd_299_26 ci_m1 ?_
  have e := Option.some.inj hs
  subst e
  exact e_ri cd_299_27 nr_299
theorem tieb_cr_shown  (d : Nat)  (a0 : Nat) (a1 : Int32) (a2 : Int32) (a3 : Int32) (M : zM) (so : Int32 × zM) (hs : cr_shown_b  d a0 a1 a2 a3 M = some so) : Ev zq_T (d + 1) 299 0 (zl_args 0 [.inr (.inr (11, some a0)), .inl a1, .inl a2, .inl a3]) [] M (some (.inl so.1), so.2) := by
  unfold cr_shown_b at hs
  have g0 : zl_get (zl_args 0 [.inr (.inr (11, some a0)), .inl a1, .inl a2, .inl a3]) 0 = some (.inr (.inr (11, (some a0)))) := rfl
  have g1 : zl_get (zl_args 0 [.inr (.inr (11, some a0)), .inl a1, .inl a2, .inl a3]) 1 = some (.inl a1) := rfl
  have g2 : zl_get (zl_args 0 [.inr (.inr (11, some a0)), .inl a1, .inl a2, .inl a3]) 2 = some (.inl a2) := rfl
  have g3 : zl_get (zl_args 0 [.inr (.inr (11, some a0)), .inl a1, .inl a2, .inl a3]) 3 = some (.inl a3) := rfl
  refine e_aldn cd_299_0 g0 ?_
  refine e_ildn cd_299_1 g1 ?_
  refine e_ildn cd_299_2 g2 ?_
  obtain ⟨q1, h2, hs⟩ := k_bind hs
  refine e_cvi cd_299_3 kd_299_256 rfl rfl rfl rfl rfl nl_297 rfl rfl (tie_cr_witnessOf d a0 a1 a2 M _ h2) ?_
  refine e_aK cd_299_6 nl_299 rfl rfl ?_
  intro _ gn kp
  have u3 := kp 0 _ g0 rfl rfl
  have u4 := kp 1 _ g1 rfl rfl
  have u5 := kp 3 _ g3 rfl rfl
  have u6 := gn
  refine e_ald cd_299_8 u6 ?_
  refine k_opt hs (fun h7 hs => ?_) (fun k8 h7 hs => ?_)
  · refine e_nu0 cd_299_10 rfl h7 ?_
    exact tie_cr_shown_26  d   q1.2 so _  hs
  · refine e_nu1 cd_299_10 rfl h7 ?_
    refine e_ildn cd_299_13 u5 ?_
    refine k_if hs (fun c9 hs => ?_) (fun c9 hs => ?_)
    · refine e_izJ cd_299_14 rfl c9 ?_
      exact tie_cr_shown_26  d   q1.2 so _  hs
    · refine e_izN cd_299_14 rfl c9 ?_
      refine e_ildn cd_299_17 u5 ?_
      refine e_ald cd_299_18 u6 ?_
      refine e_getI cd_299_20 (Or.inl fd_299_276) h7 ?_
      refine k_if hs (fun c10 hs => ?_) (fun c10 hs => ?_)
      · refine e_icJ cd_299_23 rfl c10 ?_
        refine e_ildn cd_299_28 u5 ?_
        refine e_ald cd_299_29 u6 ?_
        refine e_getI cd_299_31 (Or.inl fd_299_276) h7 ?_
        refine k_if hs (fun c11 hs => ?_) (fun c11 hs => ?_)
        · refine e_icN cd_299_34 rfl (fun q => q c11) ?_
          refine e_aldn cd_299_37 u3 ?_
          refine e_getR cd_299_38 fd_299_20 rfl ?_
          refine k_opt hs (fun _ q => nomatch q) (fun k12 h13 hs => ?_)
          refine e_getR cd_299_41 fd_299_111 h13 ?_
          refine e_ildn cd_299_44 u4 ?_
          refine k_opt hs (fun _ q => nomatch q) (fun k14 h15 hs => ?_)
          obtain ⟨c16, hs⟩ := z_ite hs
          refine e_aald cd_299_45 rfl h15 c16 ?_
          refine k_opt hs (fun _ q => nomatch q) (fun k17 h18 hs => ?_)
          refine e_getR cd_299_46 fd_299_197 h18 ?_
          refine e_ald cd_299_49 u6 ?_
          refine e_getI cd_299_51 (Or.inl fd_299_264) h7 ?_
          obtain ⟨q19, h20, hs⟩ := k_bind hs
          refine e_cst cd_299_54 kd_299_267 rfl rfl rfl nl_259 rfl rfl (tie_wy_occurrenceIn d (zm_I q1.2 10 k8 3) q1.2 _ h20) ?_
          refine k_opt hs (fun _ q => nomatch q) (fun k21 h22 hs => ?_)
          obtain ⟨c23, hs⟩ := z_ite hs
          refine e_iald cd_299_57 rfl h22 c23 ?_
          have e := Option.some.inj hs
          subst e
          exact e_ri cd_299_58 nr_299
        · refine e_icJ cd_299_34 rfl c11 ?_
          refine e_ald cd_299_59 u6 ?_
          refine e_getR cd_299_61 fd_299_279 h7 ?_
          refine e_ildn cd_299_64 u5 ?_
          refine k_opt hs (fun _ q => nomatch q) (fun k24 h25 hs => ?_)
          obtain ⟨c26, hs⟩ := z_ite hs
          refine e_iald cd_299_65 rfl h25 c26 ?_
          have e := Option.some.inj hs
          subst e
          exact e_ri cd_299_66 nr_299
      · refine e_icN cd_299_23 rfl c10 ?_
        exact tie_cr_shown_26  d   q1.2 so _  hs
theorem tie_cr_shown (d : Nat) (a0 : Nat) (a1 : Int32) (a2 : Int32) (a3 : Int32) (M : zM) (so : Int32 × zM) (hs : cr_shown d a0 a1 a2 a3 M = some so) : Ev zq_T d 299 0 (zl_args 0 [.inr (.inr (11, some a0)), .inl a1, .inl a2, .inl a3]) [] M (some (.inl so.1), so.2) := by
  cases d with
  | zero => exact nomatch hs
  | succ d => exact tieb_cr_shown d a0 a1 a2 a3 M so hs
theorem tie_cr_shortest_32  (d : Nat)   (M : zM) (so : Int32 × zM) (ls : List (Nat × zV))  (hs : cr_shortest_32  d  M = some so) : Ev zq_T (d + 1) 300 32 ls [] M (some (.inl so.1), so.2) := by
  unfold cr_shortest_32 at hs
  refine e_const cd_300_32 ci_m1 ?_
  have e := Option.some.inj hs
  subst e
  exact e_ri cd_300_33 nr_300
theorem tie_cr_shortest_55  (d : Nat)  (t0 : Nat) (v2 : Int32) (M : zM) (so : Int32 × zM) (ls : List (Nat × zV)) (g0 : zl_get ls 0 = some (.inr (.inr (11, (some t0))))) (g2 : zl_get ls 2 = some (.inl v2)) (hs : cr_shortest_55  d t0 v2 M = some so) : Ev zq_T (d + 1) 300 55 ls [] M (some (.inl so.1), so.2) := by
  unfold cr_shortest_55 at hs
  refine e_aldn cd_300_55 g0 ?_
  refine e_getR cd_300_56 fd_300_54 rfl ?_
  refine e_ildn cd_300_59 g2 ?_
  refine k_opt hs (fun _ q => nomatch q) (fun k1 h2 hs => ?_)
  obtain ⟨q3, h4, hs⟩ := k_bind hs
  refine e_cvi cd_300_60 kd_300_284 rfl rfl rfl h2 rfl nl_224 rfl rfl (tie_sp_shortestLetter d k1 v2 M _ h4) ?_
  have e := Option.some.inj hs
  subst e
  exact e_ri cd_300_63 nr_300
theorem tieb_cr_shortest  (d : Nat)  (a0 : Nat) (a1 : Int32) (a2 : Int32) (M : zM) (so : Int32 × zM) (hs : cr_shortest_b  d a0 a1 a2 M = some so) : Ev zq_T (d + 1) 300 0 (zl_args 0 [.inr (.inr (11, some a0)), .inl a1, .inl a2]) [] M (some (.inl so.1), so.2) := by
  unfold cr_shortest_b at hs
  have g0 : zl_get (zl_args 0 [.inr (.inr (11, some a0)), .inl a1, .inl a2]) 0 = some (.inr (.inr (11, (some a0)))) := rfl
  have g1 : zl_get (zl_args 0 [.inr (.inr (11, some a0)), .inl a1, .inl a2]) 1 = some (.inl a1) := rfl
  have g2 : zl_get (zl_args 0 [.inr (.inr (11, some a0)), .inl a1, .inl a2]) 2 = some (.inl a2) := rfl
  refine e_aldn cd_300_0 g0 ?_
  refine e_ildn cd_300_1 g1 ?_
  obtain ⟨q1, h2, hs⟩ := k_bind hs
  refine e_cvi cd_300_2 kd_300_136 rfl rfl rfl rfl rfl nl_291 rfl rfl (tie_cr_ruleAt d a0 a1 M _ h2) ?_
  refine e_aKn cd_300_5 nl_300 rfl rfl ?_
  intro _ gn kp
  have u3 := kp 0 _ g0 rfl rfl
  have u4 := kp 1 _ g1 rfl rfl
  have u5 := kp 2 _ g2 rfl rfl
  have u6 := gn
  refine e_aldn cd_300_6 u6 ?_
  refine k_opt hs (fun h7 hs => ?_) (fun k8 h7 hs => ?_)
  · refine e_nu0 cd_300_7 rfl h7 ?_
    exact tie_cr_shortest_32  d   q1.2 so _  hs
  · refine e_nu1 cd_300_7 rfl h7 ?_
    refine e_aldn cd_300_10 u6 ?_
    refine e_getR cd_300_11 fd_300_140 h7 ?_
    refine k_opt hs (fun h9 hs => ?_) (fun k10 h9 hs => ?_)
    · refine e_nu0 cd_300_14 rfl h9 ?_
      exact tie_cr_shortest_32  d   q1.2 so _  hs
    · refine e_nu1 cd_300_14 rfl h9 ?_
      refine e_ildn cd_300_17 u5 ?_
      refine k_if hs (fun c11 hs => ?_) (fun c11 hs => ?_)
      · refine e_izJ cd_300_18 rfl c11 ?_
        exact tie_cr_shortest_32  d   q1.2 so _  hs
      · refine e_izN cd_300_18 rfl c11 ?_
        refine e_ildn cd_300_21 u5 ?_
        refine e_aldn cd_300_22 u6 ?_
        refine e_getR cd_300_23 fd_300_140 h7 ?_
        refine k_opt hs (fun _ q => nomatch q) (fun k12 h13 hs => ?_)
        refine e_getI cd_300_26 (Or.inl fd_300_183) h13 ?_
        refine k_if hs (fun c14 hs => ?_) (fun c14 hs => ?_)
        · refine e_icJ cd_300_29 rfl c14 ?_
          refine e_aldn cd_300_34 u3 ?_
          refine e_getI cd_300_35 (Or.inl fd_300_89) rfl ?_
          refine e_ildn cd_300_38 u4 ?_
          refine k_if hs (fun c15 hs => ?_) (fun c15 hs => ?_)
          · refine e_icJ cd_300_39 rfl c15 ?_
            exact tie_cr_shortest_55  d  a0 a2 q1.2 so _ u3 u5 hs
          · refine e_icN cd_300_39 rfl c15 ?_
            refine e_aldn cd_300_42 u3 ?_
            refine e_getR cd_300_43 fd_300_54 rfl ?_
            refine e_aldn cd_300_46 u6 ?_
            refine k_opt hs (fun _ q => nomatch q) (fun k16 h17 hs => ?_)
            obtain ⟨q18, h19, hs⟩ := k_bind hs
            refine e_cvi cd_300_47 kd_300_281 rfl rfl rfl h17 rfl nl_223 rfl rfl (tie_sp_spellShortest d k16 q1.1 q1.2 _ h19) ?_
            refine e_aldn cd_300_50 u3 ?_
            refine e_ildn cd_300_51 u4 ?_
            refine k_let hs (fun M20 e21 hs => ?_)
            refine e_putI cd_300_52 pd_300_89 rfl e21 ?_
            exact tie_cr_shortest_55  d  a0 a2 M20 so _ u3 u5 hs
        · refine e_icN cd_300_29 rfl c14 ?_
          exact tie_cr_shortest_32  d   q1.2 so _  hs
theorem tie_cr_shortest (d : Nat) (a0 : Nat) (a1 : Int32) (a2 : Int32) (M : zM) (so : Int32 × zM) (hs : cr_shortest d a0 a1 a2 M = some so) : Ev zq_T d 300 0 (zl_args 0 [.inr (.inr (11, some a0)), .inl a1, .inl a2]) [] M (some (.inl so.1), so.2) := by
  cases d with
  | zero => exact nomatch hs
  | succ d => exact tieb_cr_shortest d a0 a1 a2 M so hs
theorem tie_cr_words_33  (d : Nat)   (M : zM) (so : Int32 × zM) (ls : List (Nat × zV))  (hs : cr_words_33  d  M = some so) : Ev zq_T (d + 1) 301 33 ls [] M (some (.inl so.1), so.2) := by
  unfold cr_words_33 at hs
  refine e_const cd_301_33 ci_m1 ?_
  have e := Option.some.inj hs
  subst e
  exact e_ri cd_301_34 nr_301
theorem tie_cr_words_61  (d : Nat)  (s0 : Int32) (M : zM) (so : Int32 × zM) (ls : List (Nat × zV))  (hs : cr_words_61  d s0 M = some so) : Ev zq_T (d + 1) 301 61 ls [.inl s0] M (some (.inl so.1), so.2) := by
  unfold cr_words_61 at hs
  have e := Option.some.inj hs
  subst e
  exact e_ri cd_301_61 nr_301
theorem tieb_cr_words  (d : Nat)  (a0 : Nat) (a1 : Int32) (a2 : Int32) (M : zM) (so : Int32 × zM) (hs : cr_words_b  d a0 a1 a2 M = some so) : Ev zq_T (d + 1) 301 0 (zl_args 0 [.inr (.inr (11, some a0)), .inl a1, .inl a2]) [] M (some (.inl so.1), so.2) := by
  unfold cr_words_b at hs
  have g0 : zl_get (zl_args 0 [.inr (.inr (11, some a0)), .inl a1, .inl a2]) 0 = some (.inr (.inr (11, (some a0)))) := rfl
  have g1 : zl_get (zl_args 0 [.inr (.inr (11, some a0)), .inl a1, .inl a2]) 1 = some (.inl a1) := rfl
  have g2 : zl_get (zl_args 0 [.inr (.inr (11, some a0)), .inl a1, .inl a2]) 2 = some (.inl a2) := rfl
  refine e_aldn cd_301_0 g0 ?_
  refine e_ildn cd_301_1 g1 ?_
  obtain ⟨q1, h2, hs⟩ := k_bind hs
  refine e_cvi cd_301_2 kd_301_136 rfl rfl rfl rfl rfl nl_291 rfl rfl (tie_cr_ruleAt d a0 a1 M _ h2) ?_
  refine e_aKn cd_301_5 nl_301 rfl rfl ?_
  intro _ gn kp
  have u3 := kp 2 _ g2 rfl rfl
  have u4 := gn
  refine e_aldn cd_301_6 u4 ?_
  refine k_opt hs (fun h5 hs => ?_) (fun k6 h5 hs => ?_)
  · refine e_nu0 cd_301_7 rfl h5 ?_
    exact tie_cr_words_33  d   q1.2 so _  hs
  · refine e_nu1 cd_301_7 rfl h5 ?_
    refine e_aldn cd_301_10 u4 ?_
    refine e_getR cd_301_11 fd_301_140 h5 ?_
    refine k_opt hs (fun h7 hs => ?_) (fun k8 h7 hs => ?_)
    · refine e_nu0 cd_301_14 rfl h7 ?_
      exact tie_cr_words_33  d   q1.2 so _  hs
    · refine e_nu1 cd_301_14 rfl h7 ?_
      refine e_aldn cd_301_17 u4 ?_
      refine e_getI cd_301_18 (Or.inr fd_301_177) h5 ?_
      refine k_if hs (fun c9 hs => ?_) (fun c9 hs => ?_)
      · refine e_izJ cd_301_21 rfl c9 ?_
        exact tie_cr_words_33  d   q1.2 so _  hs
      · refine e_izN cd_301_21 rfl c9 ?_
        refine e_ildn cd_301_24 u3 ?_
        refine k_if hs (fun c10 hs => ?_) (fun c10 hs => ?_)
        · refine e_izJ cd_301_25 rfl c10 ?_
          exact tie_cr_words_33  d   q1.2 so _  hs
        · refine e_izN cd_301_25 rfl c10 ?_
          refine e_ildn cd_301_28 u3 ?_
          refine e_const cd_301_29 ci_4 ?_
          refine k_if hs (fun c11 hs => ?_) (fun c11 hs => ?_)
          · refine e_icJ cd_301_30 rfl c11 ?_
            refine e_ildn cd_301_35 u3 ?_
            refine k_if hs (fun c12 hs => ?_) (fun c12 hs => ?_)
            · refine e_izN cd_301_36 rfl (fun q => q c12) ?_
              refine e_aldn cd_301_39 u4 ?_
              refine e_getR cd_301_40 fd_301_140 h5 ?_
              refine k_opt hs (fun _ q => nomatch q) (fun k13 h14 hs => ?_)
              refine e_getI cd_301_43 (Or.inr fd_301_165) h14 ?_
              obtain ⟨q15, h16, hs⟩ := k_bind hs
              refine e_cst cd_301_46 kd_301_170 rfl rfl rfl nl_292 rfl rfl (tie_cr_bit d (zm_I q1.2 3 k13 8) q1.2 _ h16) ?_
              refine e_goto cd_301_49 rfl ?_
              exact tie_cr_words_61  d  q15.1 q15.2 so _  hs
            · refine e_izJ cd_301_36 rfl c12 ?_
              refine e_aldn cd_301_52 u4 ?_
              refine e_getR cd_301_53 fd_301_140 h5 ?_
              refine k_opt hs (fun _ q => nomatch q) (fun k17 h18 hs => ?_)
              refine e_getR cd_301_56 fd_301_287 h18 ?_
              refine e_ildn cd_301_59 u3 ?_
              refine k_opt hs (fun _ q => nomatch q) (fun k19 h20 hs => ?_)
              obtain ⟨c21, hs⟩ := z_ite hs
              refine e_iald cd_301_60 rfl h20 c21 ?_
              exact tie_cr_words_61  d  (zm_I q1.2 21 k19 (a2 : Int32).toNatClampNeg) q1.2 so _  hs
          · refine e_icN cd_301_30 rfl c11 ?_
            exact tie_cr_words_33  d   q1.2 so _  hs
theorem tie_cr_words (d : Nat) (a0 : Nat) (a1 : Int32) (a2 : Int32) (M : zM) (so : Int32 × zM) (hs : cr_words d a0 a1 a2 M = some so) : Ev zq_T d 301 0 (zl_args 0 [.inr (.inr (11, some a0)), .inl a1, .inl a2]) [] M (some (.inl so.1), so.2) := by
  cases d with
  | zero => exact nomatch hs
  | succ d => exact tieb_cr_words d a0 a1 a2 M so hs
theorem tie_cr_unlike_45  (d : Nat)   (M : zM) (so : Int32 × zM) (ls : List (Nat × zV))  (hs : cr_unlike_45  d  M = some so) : Ev zq_T (d + 1) 302 45 ls [] M (some (.inl so.1), so.2) := by
  unfold cr_unlike_45 at hs
  refine e_const cd_302_45 ci_m1 ?_
  have e := Option.some.inj hs
  subst e
  exact e_ri cd_302_46 nr_302
theorem tie_cr_unlike_124  (d : Nat)  (s0 : Int32) (M : zM) (so : Int32 × zM) (ls : List (Nat × zV))  (hs : cr_unlike_124  d s0 M = some so) : Ev zq_T (d + 1) 302 124 ls [.inl s0] M (some (.inl so.1), so.2) := by
  unfold cr_unlike_124 at hs
  have e := Option.some.inj hs
  subst e
  exact e_ri cd_302_124 nr_302
theorem tie_cr_unlike_123  (d : Nat)   (M : zM) (so : Int32 × zM) (ls : List (Nat × zV))  (hs : cr_unlike_123  d  M = some so) : Ev zq_T (d + 1) 302 123 ls [] M (some (.inl so.1), so.2) := by
  unfold cr_unlike_123 at hs
  refine e_const cd_302_123 ci_m1 ?_
  exact tie_cr_unlike_124  d  (-1) M so _  hs
theorem tie_cr_unlike_83  (d : Nat)  (t0 : Nat) (v3 : Int32) (M : zM) (so : Int32 × zM) (ls : List (Nat × zV)) (g0 : zl_get ls 0 = some (.inr (.inr (11, (some t0))))) (g3 : zl_get ls 3 = some (.inl v3)) (hs : cr_unlike_83  d t0 v3 M = some so) : Ev zq_T (d + 1) 302 83 ls [] M (some (.inl so.1), so.2) := by
  unfold cr_unlike_83 at hs
  refine e_ildn cd_302_83 g3 ?_
  refine e_const cd_302_84 ci_m1 ?_
  refine k_if hs (fun c1 hs => ?_) (fun c1 hs => ?_)
  · refine e_icN cd_302_85 rfl (fun q => q c1) ?_
    refine e_aldn cd_302_88 g0 ?_
    refine e_getR cd_302_89 fd_302_85 rfl ?_
    refine k_opt hs (fun _ q => nomatch q) (fun k2 h3 hs => ?_)
    refine e_getI cd_302_92 (Or.inl fd_302_301) h3 ?_
    have e := Option.some.inj hs
    subst e
    exact e_ri cd_302_95 nr_302
  · refine e_icJ cd_302_85 rfl c1 ?_
    refine e_ildn cd_302_96 g3 ?_
    refine k_if hs (fun c4 hs => ?_) (fun c4 hs => ?_)
    · refine e_izJ cd_302_97 rfl c4 ?_
      exact tie_cr_unlike_123  d   M so _  hs
    · refine e_izN cd_302_97 rfl c4 ?_
      refine e_ildn cd_302_100 g3 ?_
      refine e_aldn cd_302_101 g0 ?_
      refine e_getR cd_302_102 fd_302_85 rfl ?_
      refine k_opt hs (fun _ q => nomatch q) (fun k5 h6 hs => ?_)
      refine e_getI cd_302_105 (Or.inl fd_302_301) h6 ?_
      refine k_if hs (fun c7 hs => ?_) (fun c7 hs => ?_)
      · refine e_icJ cd_302_108 rfl c7 ?_
        exact tie_cr_unlike_123  d   M so _  hs
      · refine e_icN cd_302_108 rfl c7 ?_
        refine e_aldn cd_302_111 g0 ?_
        refine e_getR cd_302_112 fd_302_85 rfl ?_
        refine k_opt hs (fun _ q => nomatch q) (fun k8 h9 hs => ?_)
        refine e_getR cd_302_115 fd_302_302 h9 ?_
        refine e_ildn cd_302_118 g3 ?_
        refine k_opt hs (fun _ q => nomatch q) (fun k10 h11 hs => ?_)
        obtain ⟨c12, hs⟩ := z_ite hs
        refine e_iald cd_302_119 rfl h11 c12 ?_
        refine e_goto cd_302_120 rfl ?_
        exact tie_cr_unlike_124  d  (zm_I M 20 k10 (v3 : Int32).toNatClampNeg) M so _  hs
theorem tieb_cr_unlike  (d : Nat)  (a0 : Nat) (a1 : Int32) (a2 : Int32) (a3 : Int32) (M : zM) (so : Int32 × zM) (hs : cr_unlike_b  d a0 a1 a2 a3 M = some so) : Ev zq_T (d + 1) 302 0 (zl_args 0 [.inr (.inr (11, some a0)), .inl a1, .inl a2, .inl a3]) [] M (some (.inl so.1), so.2) := by
  unfold cr_unlike_b at hs
  have g0 : zl_get (zl_args 0 [.inr (.inr (11, some a0)), .inl a1, .inl a2, .inl a3]) 0 = some (.inr (.inr (11, (some a0)))) := rfl
  have g1 : zl_get (zl_args 0 [.inr (.inr (11, some a0)), .inl a1, .inl a2, .inl a3]) 1 = some (.inl a1) := rfl
  have g2 : zl_get (zl_args 0 [.inr (.inr (11, some a0)), .inl a1, .inl a2, .inl a3]) 2 = some (.inl a2) := rfl
  have g3 : zl_get (zl_args 0 [.inr (.inr (11, some a0)), .inl a1, .inl a2, .inl a3]) 3 = some (.inl a3) := rfl
  refine e_aldn cd_302_0 g0 ?_
  refine e_ildn cd_302_1 g1 ?_
  obtain ⟨q1, h2, hs⟩ := k_bind hs
  refine e_cvi cd_302_2 kd_302_136 rfl rfl rfl rfl rfl nl_291 rfl rfl (tie_cr_ruleAt d a0 a1 M _ h2) ?_
  refine e_aK cd_302_5 nl_302 rfl rfl ?_
  intro _ gn kp
  have u3 := kp 0 _ g0 rfl rfl
  have u4 := kp 1 _ g1 rfl rfl
  have u5 := kp 2 _ g2 rfl rfl
  have u6 := kp 3 _ g3 rfl rfl
  have u7 := gn
  refine e_aldn cd_302_7 u3 ?_
  refine e_ildn cd_302_8 u5 ?_
  obtain ⟨q8, h9, hs⟩ := k_bind hs
  refine e_cvi cd_302_9 kd_302_136 rfl rfl rfl rfl rfl nl_291 rfl rfl (tie_cr_ruleAt d a0 a2 q1.2 _ h9) ?_
  refine e_aK cd_302_12 nl_302 rfl rfl ?_
  intro _ gn kp
  have u10 := kp 0 _ u3 rfl rfl
  have u11 := kp 1 _ u4 rfl rfl
  have u12 := kp 2 _ u5 rfl rfl
  have u13 := kp 3 _ u6 rfl rfl
  have u14 := kp 4 _ u7 rfl rfl
  have u15 := gn
  refine e_ald cd_302_14 u14 ?_
  refine k_opt hs (fun h16 hs => ?_) (fun k17 h16 hs => ?_)
  · refine e_nu0 cd_302_16 rfl h16 ?_
    exact tie_cr_unlike_45  d   q8.2 so _  hs
  · refine e_nu1 cd_302_16 rfl h16 ?_
    refine e_ald cd_302_19 u15 ?_
    refine k_opt hs (fun h18 hs => ?_) (fun k19 h18 hs => ?_)
    · refine e_nu0 cd_302_21 rfl h18 ?_
      exact tie_cr_unlike_45  d   q8.2 so _  hs
    · refine e_nu1 cd_302_21 rfl h18 ?_
      refine e_ald cd_302_24 u14 ?_
      refine e_getI cd_302_26 (Or.inr fd_302_177) h16 ?_
      refine k_if hs (fun c20 hs => ?_) (fun c20 hs => ?_)
      · refine e_izJ cd_302_29 rfl c20 ?_
        exact tie_cr_unlike_45  d   q8.2 so _  hs
      · refine e_izN cd_302_29 rfl c20 ?_
        refine e_ald cd_302_32 u15 ?_
        refine e_getI cd_302_34 (Or.inr fd_302_177) h18 ?_
        refine k_if hs (fun c21 hs => ?_) (fun c21 hs => ?_)
        · refine e_izJ cd_302_37 rfl c21 ?_
          exact tie_cr_unlike_45  d   q8.2 so _  hs
        · refine e_izN cd_302_37 rfl c21 ?_
          refine e_ildn cd_302_40 u11 ?_
          refine e_ildn cd_302_41 u12 ?_
          refine k_if hs (fun c22 hs => ?_) (fun c22 hs => ?_)
          · refine e_icN cd_302_42 rfl (fun q => q c22) ?_
            exact tie_cr_unlike_45  d   q8.2 so _  hs
          · refine e_icJ cd_302_42 rfl c22 ?_
            refine e_aldn cd_302_47 u10 ?_
            refine e_getR cd_302_48 fd_302_85 rfl ?_
            refine e_ildn cd_302_51 u11 ?_
            refine e_ildn cd_302_52 u12 ?_
            refine k_opt hs (fun _ q => nomatch q) (fun k23 h24 hs => ?_)
            obtain ⟨q25, h26, hs⟩ := k_bind hs
            refine e_cvi cd_302_53 kd_302_290 rfl rfl rfl h24 rfl nl_134 rfl rfl (tie_di_isOf d k23 a1 a2 q8.2 _ h26) ?_
            refine k_if hs (fun c27 hs => ?_) (fun c27 hs => ?_)
            · refine e_izN cd_302_56 rfl (fun q => q c27) ?_
              refine e_aldn cd_302_59 u10 ?_
              refine e_getR cd_302_60 fd_302_85 rfl ?_
              refine e_ald cd_302_63 u14 ?_
              refine e_ald cd_302_65 u15 ?_
              refine e_aldn cd_302_67 u10 ?_
              refine e_getR cd_302_68 fd_302_71 rfl ?_
              refine k_opt hs (fun _ q => nomatch q) (fun k28 h29 hs => ?_)
              obtain ⟨q30, h31, hs⟩ := k_bind hs
              refine e_cvi cd_302_71 kd_302_294 rfl rfl rfl h29 rfl nl_136 rfl rfl (tie_di_seek d k28 q1.1 q8.1 (zm_R q25.2 11 a0 11) q25.2 _ h31) ?_
              refine e_aldn cd_302_74 u10 ?_
              refine e_getR cd_302_75 fd_302_85 rfl ?_
              refine e_ildn cd_302_78 u11 ?_
              refine e_ildn cd_302_79 u12 ?_
              refine k_opt hs (fun _ q => nomatch q) (fun k32 h33 hs => ?_)
              obtain ⟨q34, h35, hs⟩ := k_bind hs
              refine e_cvi cd_302_80 kd_302_297 rfl rfl rfl h33 rfl nl_135 rfl rfl (tie_di_keep d k32 a1 a2 q30 _ h35) ?_
              exact tie_cr_unlike_83  d  a0 a3 q34 so _ u10 u13 hs
            · refine e_izJ cd_302_56 rfl c27 ?_
              exact tie_cr_unlike_83  d  a0 a3 q25.2 so _ u10 u13 hs
theorem tie_cr_unlike (d : Nat) (a0 : Nat) (a1 : Int32) (a2 : Int32) (a3 : Int32) (M : zM) (so : Int32 × zM) (hs : cr_unlike d a0 a1 a2 a3 M = some so) : Ev zq_T d 302 0 (zl_args 0 [.inr (.inr (11, some a0)), .inl a1, .inl a2, .inl a3]) [] M (some (.inl so.1), so.2) := by
  cases d with
  | zero => exact nomatch hs
  | succ d => exact tieb_cr_unlike d a0 a1 a2 a3 M so hs
theorem tie_cr_reads_17  (d : Nat)   (M : zM) (so : Int32 × zM) (ls : List (Nat × zV))  (hs : cr_reads_17  d  M = some so) : Ev zq_T (d + 1) 303 17 ls [] M (some (.inl so.1), so.2) := by
  unfold cr_reads_17 at hs
  refine e_const cd_303_17 ci_m1 ?_
  have e := Option.some.inj hs
  subst e
  exact e_ri cd_303_18 nr_303
theorem tieb_cr_reads  (d : Nat)  (a0 : Nat) (a1 : Int32) (M : zM) (so : Int32 × zM) (hs : cr_reads_b  d a0 a1 M = some so) : Ev zq_T (d + 1) 303 0 (zl_args 0 [.inr (.inr (11, some a0)), .inl a1]) [] M (some (.inl so.1), so.2) := by
  unfold cr_reads_b at hs
  have g0 : zl_get (zl_args 0 [.inr (.inr (11, some a0)), .inl a1]) 0 = some (.inr (.inr (11, (some a0)))) := rfl
  have g1 : zl_get (zl_args 0 [.inr (.inr (11, some a0)), .inl a1]) 1 = some (.inl a1) := rfl
  refine e_aldn cd_303_0 g0 ?_
  refine e_ildn cd_303_1 g1 ?_
  obtain ⟨q1, h2, hs⟩ := k_bind hs
  refine e_cvi cd_303_2 kd_303_136 rfl rfl rfl rfl rfl nl_291 rfl rfl (tie_cr_ruleAt d a0 a1 M _ h2) ?_
  refine e_aKn cd_303_5 nl_303 rfl rfl ?_
  intro _ gn kp
  have u3 := kp 0 _ g0 rfl rfl
  have u4 := kp 1 _ g1 rfl rfl
  have u5 := gn
  refine e_aldn cd_303_6 u5 ?_
  refine k_opt hs (fun h6 hs => ?_) (fun k7 h6 hs => ?_)
  · refine e_nu0 cd_303_7 rfl h6 ?_
    exact tie_cr_reads_17  d   q1.2 so _  hs
  · refine e_nu1 cd_303_7 rfl h6 ?_
    refine e_aldn cd_303_10 u5 ?_
    refine e_getI cd_303_11 (Or.inr fd_303_177) h6 ?_
    refine k_if hs (fun c8 hs => ?_) (fun c8 hs => ?_)
    · refine e_izN cd_303_14 rfl (fun q => q c8) ?_
      exact tie_cr_reads_17  d   q1.2 so _  hs
    · refine e_izJ cd_303_14 rfl c8 ?_
      refine e_aldn cd_303_19 u3 ?_
      refine e_getR cd_303_20 fd_303_9 rfl ?_
      refine e_aldn cd_303_23 u3 ?_
      refine e_getI cd_303_24 (Or.inl fd_303_13) rfl ?_
      obtain ⟨q9, h10, hs⟩ := k_bind hs
      refine e_cst cd_303_27 kd_303_303 rfl rfl rfl nl_184 rfl rfl (tie_re_wrongByte d (zm_R q1.2 11 a0 0) (zm_I q1.2 11 a0 1) q1.2 _ h10) ?_
      refine e_iKn cd_303_30 nl_303 rfl rfl ?_
      intro _ gn kp
      have u11 := kp 0 _ u3 rfl rfl
      have u12 := kp 1 _ u4 rfl rfl
      have u13 := kp 2 _ u5 rfl rfl
      have u14 := gn
      refine e_ildn cd_303_31 u14 ?_
      refine e_const cd_303_32 ci_m1 ?_
      refine k_if hs (fun c15 hs => ?_) (fun c15 hs => ?_)
      · refine e_icJ cd_303_33 rfl c15 ?_
        refine e_aldn cd_303_41 u11 ?_
        refine e_getR cd_303_42 fd_303_78 rfl ?_
        refine e_aldn cd_303_45 u11 ?_
        refine e_getR cd_303_46 fd_303_9 rfl ?_
        refine e_aldn cd_303_49 u11 ?_
        refine e_getI cd_303_50 (Or.inl fd_303_13) rfl ?_
        refine e_aldn cd_303_53 u13 ?_
        refine e_aldn cd_303_54 u11 ?_
        refine e_getR cd_303_55 fd_303_71 rfl ?_
        refine k_opt hs (fun _ q => nomatch q) (fun k16 h17 hs => ?_)
        obtain ⟨q18, h19, hs⟩ := k_bind hs
        refine e_cvi cd_303_58 kd_303_306 rfl rfl rfl h17 rfl nl_185 rfl rfl (tie_re_readTape d k16 (zm_R q9.2 11 a0 0) (zm_I q9.2 11 a0 1) q1.1 (zm_R q9.2 11 a0 11) q9.2 _ h19) ?_
        refine e_aldn cd_303_61 u11 ?_
        refine e_getR cd_303_62 fd_303_78 rfl ?_
        refine e_ildn cd_303_65 u12 ?_
        refine k_opt hs (fun _ q => nomatch q) (fun k20 h21 hs => ?_)
        refine k_let hs (fun M22 e23 hs => ?_)
        refine e_putI cd_303_66 pd_303_310 h21 e23 ?_
        refine e_aldn cd_303_69 u11 ?_
        refine e_const cd_303_70 ci_0 ?_
        refine k_let hs (fun M24 e25 hs => ?_)
        refine e_putI cd_303_71 pd_303_13 rfl e25 ?_
        refine e_aldn cd_303_74 u11 ?_
        refine e_getR cd_303_75 fd_303_78 rfl ?_
        refine k_opt hs (fun _ q => nomatch q) (fun k26 h27 hs => ?_)
        obtain ⟨q28, h29, hs⟩ := k_bind hs
        refine e_cvi cd_303_78 kd_303_311 rfl rfl rfl h27 rfl nl_186 rfl rfl (tie_re_isWord d k26 M24 _ h29) ?_
        obtain ⟨q30, h31, hs⟩ := k_bind hs
        refine e_cst cd_303_81 kd_303_170 rfl rfl rfl nl_292 rfl rfl (tie_cr_bit d q28.1 q28.2 _ h31) ?_
        have e := Option.some.inj hs
        subst e
        exact e_ri cd_303_84 nr_303
      · refine e_icN cd_303_33 rfl c15 ?_
        refine e_bip cd_303_36 cb_m2 ?_
        refine e_ildn cd_303_38 u14 ?_
        refine e_pure cd_303_39 rfl ?_
        have e := Option.some.inj hs
        subst e
        exact e_ri cd_303_40 nr_303
theorem tie_cr_reads (d : Nat) (a0 : Nat) (a1 : Int32) (M : zM) (so : Int32 × zM) (hs : cr_reads d a0 a1 M = some so) : Ev zq_T d 303 0 (zl_args 0 [.inr (.inr (11, some a0)), .inl a1]) [] M (some (.inl so.1), so.2) := by
  cases d with
  | zero => exact nomatch hs
  | succ d => exact tieb_cr_reads d a0 a1 M so hs
theorem tieb_cr_read  (d : Nat)  (a0 : Nat) (a1 : Int32) (M : zM) (so : Int32 × zM) (hs : cr_read_b  d a0 a1 M = some so) : Ev zq_T (d + 1) 304 0 (zl_args 0 [.inr (.inr (11, some a0)), .inl a1]) [] M (some (.inl so.1), so.2) := by
  unfold cr_read_b at hs
  have g0 : zl_get (zl_args 0 [.inr (.inr (11, some a0)), .inl a1]) 0 = some (.inr (.inr (11, (some a0)))) := rfl
  have g1 : zl_get (zl_args 0 [.inr (.inr (11, some a0)), .inl a1]) 1 = some (.inl a1) := rfl
  refine e_aldn cd_304_0 g0 ?_
  refine e_getR cd_304_1 fd_304_78 rfl ?_
  refine k_opt hs (fun _ q => nomatch q) (fun k1 h2 hs => ?_)
  refine e_getI cd_304_4 (Or.inl fd_304_310) h2 ?_
  refine e_const cd_304_7 ci_m1 ?_
  refine k_if hs (fun c3 hs => ?_) (fun c3 hs => ?_)
  · refine e_icN cd_304_8 rfl (fun q => q c3) ?_
    refine e_const cd_304_11 ci_m1 ?_
    have e := Option.some.inj hs
    subst e
    exact e_ri cd_304_12 nr_304
  · refine e_icJ cd_304_8 rfl c3 ?_
    refine e_ildn cd_304_13 g1 ?_
    refine k_if hs (fun c4 hs => ?_) (fun c4 hs => ?_)
    · refine e_tab cd_304_14 (by decide) (fun f => (e_tb1 c4 rfl f)) ?_
      refine e_aldn cd_304_48 g0 ?_
      refine e_getR cd_304_49 fd_304_78 rfl ?_
      refine k_opt hs (fun _ q => nomatch q) (fun k9 h10 hs => ?_)
      refine e_getI cd_304_52 (Or.inl fd_304_310) h10 ?_
      have e := Option.some.inj hs
      subst e
      exact e_ri cd_304_55 nr_304
    · refine k_if hs (fun c5 hs => ?_) (fun c5 hs => ?_)
      · refine e_tab cd_304_14 (by decide) (fun f => (e_tb0 c4 f (e_tb1 c5 rfl f))) ?_
        refine e_aldn cd_304_56 g0 ?_
        refine e_getR cd_304_57 fd_304_78 rfl ?_
        refine k_opt hs (fun _ q => nomatch q) (fun k11 h12 hs => ?_)
        refine e_getI cd_304_60 (Or.inl fd_304_315) h12 ?_
        have e := Option.some.inj hs
        subst e
        exact e_ri cd_304_63 nr_304
      · refine k_if hs (fun c6 hs => ?_) (fun c6 hs => ?_)
        · refine e_tab cd_304_14 (by decide) (fun f => (e_tb0 c4 f (e_tb0 c5 f (e_tb1 c6 rfl f)))) ?_
          refine e_aldn cd_304_64 g0 ?_
          refine e_getR cd_304_65 fd_304_78 rfl ?_
          refine k_opt hs (fun _ q => nomatch q) (fun k13 h14 hs => ?_)
          refine e_getI cd_304_68 (Or.inl fd_304_316) h14 ?_
          have e := Option.some.inj hs
          subst e
          exact e_ri cd_304_71 nr_304
        · refine k_if hs (fun c7 hs => ?_) (fun c7 hs => ?_)
          · refine e_tab cd_304_14 (by decide) (fun f => (e_tb0 c4 f (e_tb0 c5 f (e_tb0 c6 f (e_tb1 c7 rfl f))))) ?_
            refine e_aldn cd_304_72 g0 ?_
            refine e_getR cd_304_73 fd_304_78 rfl ?_
            refine k_opt hs (fun _ q => nomatch q) (fun k15 h16 hs => ?_)
            refine e_getI cd_304_76 (Or.inl fd_304_319) h16 ?_
            have e := Option.some.inj hs
            subst e
            exact e_ri cd_304_79 nr_304
          · refine k_if hs (fun c8 hs => ?_) (fun c8 hs => ?_)
            · refine e_tab cd_304_14 (by decide) (fun f => (e_tb0 c4 f (e_tb0 c5 f (e_tb0 c6 f (e_tb0 c7 f (e_tb1 c8 rfl f)))))) ?_
              refine e_aldn cd_304_80 g0 ?_
              refine e_getR cd_304_81 fd_304_78 rfl ?_
              refine k_opt hs (fun _ q => nomatch q) (fun k17 h18 hs => ?_)
              refine e_getI cd_304_84 (Or.inr fd_304_322) h18 ?_
              obtain ⟨q19, h20, hs⟩ := k_bind hs
              refine e_cst cd_304_87 kd_304_170 rfl rfl rfl nl_292 rfl rfl (tie_cr_bit d (zm_I M 4 k17 4) M _ h20) ?_
              have e := Option.some.inj hs
              subst e
              exact e_ri cd_304_90 nr_304
            · refine e_tab cd_304_14 (by decide) (fun f => (e_tb0 c4 f (e_tb0 c5 f (e_tb0 c6 f (e_tb0 c7 f (e_tb0 c8 f (e_tbd rfl f))))))) ?_
              refine e_const cd_304_91 ci_m1 ?_
              have e := Option.some.inj hs
              subst e
              exact e_ri cd_304_92 nr_304
theorem tie_cr_read (d : Nat) (a0 : Nat) (a1 : Int32) (M : zM) (so : Int32 × zM) (hs : cr_read d a0 a1 M = some so) : Ev zq_T d 304 0 (zl_args 0 [.inr (.inr (11, some a0)), .inl a1]) [] M (some (.inl so.1), so.2) := by
  cases d with
  | zero => exact nomatch hs
  | succ d => exact tieb_cr_read d a0 a1 M so hs
theorem tie_cr_taken_26  (d : Nat)   (M : zM) (so : Int32 × zM) (ls : List (Nat × zV))  (hs : cr_taken_26  d  M = some so) : Ev zq_T d 305 26 ls [] M (some (.inl so.1), so.2) := by
  unfold cr_taken_26 at hs
  refine e_ldwI cd_305_26 od_305_260 ?_
  have e := Option.some.inj hs
  subst e
  exact e_ri cd_305_29 nr_305
theorem tie_cr_taken_64  (d : Nat)  (s0 : Int32) (M : zM) (so : Int32 × zM) (ls : List (Nat × zV))  (hs : cr_taken_64  d s0 M = some so) : Ev zq_T d 305 64 ls [.inl s0] M (some (.inl so.1), so.2) := by
  unfold cr_taken_64 at hs
  have e := Option.some.inj hs
  subst e
  exact e_ri cd_305_64 nr_305
theorem tie_cr_taken (d : Nat) (a0 : Nat) (a1 : Int32) (a2 : Int32) (M : zM) (so : Int32 × zM) (hs : cr_taken d a0 a1 a2 M = some so) : Ev zq_T d 305 0 (zl_args 0 [.inr (.inr (11, some a0)), .inl a1, .inl a2]) [] M (some (.inl so.1), so.2) := by
  unfold cr_taken at hs
  have g0 : zl_get (zl_args 0 [.inr (.inr (11, some a0)), .inl a1, .inl a2]) 0 = some (.inr (.inr (11, (some a0)))) := rfl
  have g1 : zl_get (zl_args 0 [.inr (.inr (11, some a0)), .inl a1, .inl a2]) 1 = some (.inl a1) := rfl
  have g2 : zl_get (zl_args 0 [.inr (.inr (11, some a0)), .inl a1, .inl a2]) 2 = some (.inl a2) := rfl
  refine e_aldn cd_305_0 g0 ?_
  refine e_getR cd_305_1 fd_305_78 rfl ?_
  refine k_opt hs (fun _ q => nomatch q) (fun k1 h2 hs => ?_)
  refine e_getI cd_305_4 (Or.inl fd_305_310) h2 ?_
  refine e_const cd_305_7 ci_m1 ?_
  refine k_if hs (fun c3 hs => ?_) (fun c3 hs => ?_)
  · refine e_icJ cd_305_8 rfl c3 ?_
    exact tie_cr_taken_26  d   M so _  hs
  · refine e_icN cd_305_8 rfl c3 ?_
    refine e_ildn cd_305_11 g1 ?_
    refine k_if hs (fun c4 hs => ?_) (fun c4 hs => ?_)
    · refine e_izJ cd_305_12 rfl c4 ?_
      exact tie_cr_taken_26  d   M so _  hs
    · refine e_izN cd_305_12 rfl c4 ?_
      refine e_ildn cd_305_15 g1 ?_
      refine e_aldn cd_305_16 g0 ?_
      refine e_getR cd_305_17 fd_305_78 rfl ?_
      refine k_opt hs (fun _ q => nomatch q) (fun k5 h6 hs => ?_)
      refine e_getI cd_305_20 (Or.inl fd_305_316) h6 ?_
      refine k_if hs (fun c7 hs => ?_) (fun c7 hs => ?_)
      · refine e_icJ cd_305_23 rfl c7 ?_
        refine e_ildn cd_305_30 g2 ?_
        refine k_if hs (fun c8 hs => ?_) (fun c8 hs => ?_)
        · refine e_izN cd_305_31 rfl (fun q => q c8) ?_
          refine e_aldn cd_305_34 g0 ?_
          refine e_getR cd_305_35 fd_305_78 rfl ?_
          refine k_opt hs (fun _ q => nomatch q) (fun k9 h10 hs => ?_)
          refine e_getR cd_305_38 fd_305_325 h10 ?_
          refine e_ildn cd_305_41 g1 ?_
          refine k_opt hs (fun _ q => nomatch q) (fun k11 h12 hs => ?_)
          obtain ⟨c13, hs⟩ := z_ite hs
          refine e_iald cd_305_42 rfl h12 c13 ?_
          have e := Option.some.inj hs
          subst e
          exact e_ri cd_305_43 nr_305
        · refine e_izJ cd_305_31 rfl c8 ?_
          refine e_ildn cd_305_44 g2 ?_
          refine e_const cd_305_45 ci_1 ?_
          refine k_if hs (fun c14 hs => ?_) (fun c14 hs => ?_)
          · refine e_icN cd_305_46 rfl (fun q => q c14) ?_
            refine e_aldn cd_305_49 g0 ?_
            refine e_getR cd_305_50 fd_305_78 rfl ?_
            refine k_opt hs (fun _ q => nomatch q) (fun k15 h16 hs => ?_)
            refine e_getR cd_305_53 fd_305_328 h16 ?_
            refine e_ildn cd_305_56 g1 ?_
            refine k_opt hs (fun _ q => nomatch q) (fun k17 h18 hs => ?_)
            obtain ⟨c19, hs⟩ := z_ite hs
            refine e_iald cd_305_57 rfl h18 c19 ?_
            refine e_goto cd_305_58 rfl ?_
            exact tie_cr_taken_64  d  (zm_I M 20 k17 (a1 : Int32).toNatClampNeg) M so _  hs
          · refine e_icJ cd_305_46 rfl c14 ?_
            refine e_ldwI cd_305_61 od_305_260 ?_
            exact tie_cr_taken_64  d  (-1000000) M so _  hs
      · refine e_icN cd_305_23 rfl c7 ?_
        exact tie_cr_taken_26  d   M so _  hs
theorem tie_cr_times_26  (d : Nat)   (M : zM) (so : Int32 × zM) (ls : List (Nat × zV))  (hs : cr_times_26  d  M = some so) : Ev zq_T d 306 26 ls [] M (some (.inl so.1), so.2) := by
  unfold cr_times_26 at hs
  refine e_ldwI cd_306_26 od_306_260 ?_
  have e := Option.some.inj hs
  subst e
  exact e_ri cd_306_29 nr_306
theorem tie_cr_times (d : Nat) (a0 : Nat) (a1 : Int32) (M : zM) (so : Int32 × zM) (hs : cr_times d a0 a1 M = some so) : Ev zq_T d 306 0 (zl_args 0 [.inr (.inr (11, some a0)), .inl a1]) [] M (some (.inl so.1), so.2) := by
  unfold cr_times at hs
  have g0 : zl_get (zl_args 0 [.inr (.inr (11, some a0)), .inl a1]) 0 = some (.inr (.inr (11, (some a0)))) := rfl
  have g1 : zl_get (zl_args 0 [.inr (.inr (11, some a0)), .inl a1]) 1 = some (.inl a1) := rfl
  refine e_aldn cd_306_0 g0 ?_
  refine e_getR cd_306_1 fd_306_78 rfl ?_
  refine k_opt hs (fun _ q => nomatch q) (fun k1 h2 hs => ?_)
  refine e_getI cd_306_4 (Or.inl fd_306_310) h2 ?_
  refine e_const cd_306_7 ci_m1 ?_
  refine k_if hs (fun c3 hs => ?_) (fun c3 hs => ?_)
  · refine e_icJ cd_306_8 rfl c3 ?_
    exact tie_cr_times_26  d   M so _  hs
  · refine e_icN cd_306_8 rfl c3 ?_
    refine e_ildn cd_306_11 g1 ?_
    refine k_if hs (fun c4 hs => ?_) (fun c4 hs => ?_)
    · refine e_izJ cd_306_12 rfl c4 ?_
      exact tie_cr_times_26  d   M so _  hs
    · refine e_izN cd_306_12 rfl c4 ?_
      refine e_ildn cd_306_15 g1 ?_
      refine e_aldn cd_306_16 g0 ?_
      refine e_getR cd_306_17 fd_306_78 rfl ?_
      refine k_opt hs (fun _ q => nomatch q) (fun k5 h6 hs => ?_)
      refine e_getI cd_306_20 (Or.inl fd_306_331) h6 ?_
      refine k_if hs (fun c7 hs => ?_) (fun c7 hs => ?_)
      · refine e_icJ cd_306_23 rfl c7 ?_
        refine e_aldn cd_306_30 g0 ?_
        refine e_getR cd_306_31 fd_306_78 rfl ?_
        refine k_opt hs (fun _ q => nomatch q) (fun k8 h9 hs => ?_)
        refine e_getR cd_306_34 fd_306_332 h9 ?_
        refine e_ildn cd_306_37 g1 ?_
        refine k_opt hs (fun _ q => nomatch q) (fun k10 h11 hs => ?_)
        obtain ⟨c12, hs⟩ := z_ite hs
        refine e_iald cd_306_38 rfl h11 c12 ?_
        have e := Option.some.inj hs
        subst e
        exact e_ri cd_306_39 nr_306
      · refine e_icN cd_306_23 rfl c7 ?_
        exact tie_cr_times_26  d   M so _  hs
theorem tie_cr_parts_26  (d : Nat)   (M : zM) (so : Int32 × zM) (ls : List (Nat × zV))  (hs : cr_parts_26  d  M = some so) : Ev zq_T d 307 26 ls [] M (some (.inl so.1), so.2) := by
  unfold cr_parts_26 at hs
  refine e_ldwI cd_307_26 od_307_260 ?_
  have e := Option.some.inj hs
  subst e
  exact e_ri cd_307_29 nr_307
theorem tie_cr_parts (d : Nat) (a0 : Nat) (a1 : Int32) (M : zM) (so : Int32 × zM) (hs : cr_parts d a0 a1 M = some so) : Ev zq_T d 307 0 (zl_args 0 [.inr (.inr (11, some a0)), .inl a1]) [] M (some (.inl so.1), so.2) := by
  unfold cr_parts at hs
  have g0 : zl_get (zl_args 0 [.inr (.inr (11, some a0)), .inl a1]) 0 = some (.inr (.inr (11, (some a0)))) := rfl
  have g1 : zl_get (zl_args 0 [.inr (.inr (11, some a0)), .inl a1]) 1 = some (.inl a1) := rfl
  refine e_aldn cd_307_0 g0 ?_
  refine e_getR cd_307_1 fd_307_78 rfl ?_
  refine k_opt hs (fun _ q => nomatch q) (fun k1 h2 hs => ?_)
  refine e_getI cd_307_4 (Or.inl fd_307_310) h2 ?_
  refine e_const cd_307_7 ci_m1 ?_
  refine k_if hs (fun c3 hs => ?_) (fun c3 hs => ?_)
  · refine e_icJ cd_307_8 rfl c3 ?_
    exact tie_cr_parts_26  d   M so _  hs
  · refine e_icN cd_307_8 rfl c3 ?_
    refine e_ildn cd_307_11 g1 ?_
    refine k_if hs (fun c4 hs => ?_) (fun c4 hs => ?_)
    · refine e_izJ cd_307_12 rfl c4 ?_
      exact tie_cr_parts_26  d   M so _  hs
    · refine e_izN cd_307_12 rfl c4 ?_
      refine e_ildn cd_307_15 g1 ?_
      refine e_aldn cd_307_16 g0 ?_
      refine e_getR cd_307_17 fd_307_78 rfl ?_
      refine k_opt hs (fun _ q => nomatch q) (fun k5 h6 hs => ?_)
      refine e_getI cd_307_20 (Or.inl fd_307_335) h6 ?_
      refine k_if hs (fun c7 hs => ?_) (fun c7 hs => ?_)
      · refine e_icJ cd_307_23 rfl c7 ?_
        refine e_aldn cd_307_30 g0 ?_
        refine e_getR cd_307_31 fd_307_78 rfl ?_
        refine k_opt hs (fun _ q => nomatch q) (fun k8 h9 hs => ?_)
        refine e_getR cd_307_34 fd_307_336 h9 ?_
        refine e_ildn cd_307_37 g1 ?_
        refine k_opt hs (fun _ q => nomatch q) (fun k10 h11 hs => ?_)
        obtain ⟨c12, hs⟩ := z_ite hs
        refine e_iald cd_307_38 rfl h11 c12 ?_
        have e := Option.some.inj hs
        subst e
        exact e_ri cd_307_39 nr_307
      · refine e_icN cd_307_23 rfl c7 ?_
        exact tie_cr_parts_26  d   M so _  hs
theorem tie_cr_mended_23  (d : Nat)   (M : zM) (so : Int32 × zM) (ls : List (Nat × zV))  (hs : cr_mended_23  d  M = some so) : Ev zq_T (d + 1) 308 23 ls [] M (some (.inl so.1), so.2) := by
  unfold cr_mended_23 at hs
  refine e_const cd_308_23 ci_m1 ?_
  have e := Option.some.inj hs
  subst e
  exact e_ri cd_308_24 nr_308
theorem tie_cr_mended_47  (d : Nat)  (t0 : Nat) (v1 : Int32) (M : zM) (so : Int32 × zM) (ls : List (Nat × zV)) (g0 : zl_get ls 0 = some (.inr (.inr (11, (some t0))))) (g1 : zl_get ls 1 = some (.inl v1)) (hs : cr_mended_47  d t0 v1 M = some so) : Ev zq_T (d + 1) 308 47 ls [] M (some (.inl so.1), so.2) := by
  unfold cr_mended_47 at hs
  refine e_ildn cd_308_47 g1 ?_
  refine k_if hs (fun c1 hs => ?_) (fun c1 hs => ?_)
  · refine e_tab cd_308_48 (by decide) (fun f => (e_tb1 c1 rfl f)) ?_
    refine e_aldn cd_308_76 g0 ?_
    refine e_getR cd_308_77 fd_308_78 rfl ?_
    refine k_opt hs (fun _ q => nomatch q) (fun k4 h5 hs => ?_)
    refine e_getI cd_308_80 (Or.inl fd_308_343) h5 ?_
    have e := Option.some.inj hs
    subst e
    exact e_ri cd_308_83 nr_308
  · refine k_if hs (fun c2 hs => ?_) (fun c2 hs => ?_)
    · refine e_tab cd_308_48 (by decide) (fun f => (e_tb0 c1 f (e_tb1 c2 rfl f))) ?_
      refine e_aldn cd_308_84 g0 ?_
      refine e_getR cd_308_85 fd_308_78 rfl ?_
      refine k_opt hs (fun _ q => nomatch q) (fun k6 h7 hs => ?_)
      refine e_getI cd_308_88 (Or.inl fd_308_346) h7 ?_
      have e := Option.some.inj hs
      subst e
      exact e_ri cd_308_91 nr_308
    · refine k_if hs (fun c3 hs => ?_) (fun c3 hs => ?_)
      · refine e_tab cd_308_48 (by decide) (fun f => (e_tb0 c1 f (e_tb0 c2 f (e_tb1 c3 rfl f)))) ?_
        refine e_aldn cd_308_92 g0 ?_
        refine e_getR cd_308_93 fd_308_78 rfl ?_
        refine k_opt hs (fun _ q => nomatch q) (fun k8 h9 hs => ?_)
        refine e_getI cd_308_96 (Or.inl fd_308_349) h9 ?_
        have e := Option.some.inj hs
        subst e
        exact e_ri cd_308_99 nr_308
      · refine e_tab cd_308_48 (by decide) (fun f => (e_tb0 c1 f (e_tb0 c2 f (e_tb0 c3 f (e_tbd rfl f))))) ?_
        refine e_const cd_308_100 ci_m1 ?_
        have e := Option.some.inj hs
        subst e
        exact e_ri cd_308_101 nr_308
theorem tieb_cr_mended  (d : Nat)  (a0 : Nat) (a1 : Int32) (M : zM) (so : Int32 × zM) (hs : cr_mended_b  d a0 a1 M = some so) : Ev zq_T (d + 1) 308 0 (zl_args 0 [.inr (.inr (11, some a0)), .inl a1]) [] M (some (.inl so.1), so.2) := by
  unfold cr_mended_b at hs
  have g0 : zl_get (zl_args 0 [.inr (.inr (11, some a0)), .inl a1]) 0 = some (.inr (.inr (11, (some a0)))) := rfl
  have g1 : zl_get (zl_args 0 [.inr (.inr (11, some a0)), .inl a1]) 1 = some (.inl a1) := rfl
  refine e_aldn cd_308_0 g0 ?_
  refine e_aldn cd_308_1 g0 ?_
  refine e_getR cd_308_2 fd_308_78 rfl ?_
  refine k_opt hs (fun _ q => nomatch q) (fun k1 h2 hs => ?_)
  refine e_getI cd_308_5 (Or.inl fd_308_310) h2 ?_
  obtain ⟨q3, h4, hs⟩ := k_bind hs
  refine e_cvi cd_308_8 kd_308_136 rfl rfl rfl rfl rfl nl_291 rfl rfl (tie_cr_ruleAt d a0 (zm_I M 4 k1 0) M _ h4) ?_
  refine e_aKn cd_308_11 nl_308 rfl rfl ?_
  intro _ gn kp
  have u5 := kp 0 _ g0 rfl rfl
  have u6 := kp 1 _ g1 rfl rfl
  have u7 := gn
  refine e_aldn cd_308_12 u7 ?_
  refine k_opt hs (fun h8 hs => ?_) (fun k9 h8 hs => ?_)
  · refine e_nu0 cd_308_13 rfl h8 ?_
    exact tie_cr_mended_23  d   q3.2 so _  hs
  · refine e_nu1 cd_308_13 rfl h8 ?_
    refine e_aldn cd_308_16 u7 ?_
    refine e_getI cd_308_17 (Or.inr fd_308_177) h8 ?_
    refine k_if hs (fun c10 hs => ?_) (fun c10 hs => ?_)
    · refine e_izN cd_308_20 rfl (fun q => q c10) ?_
      exact tie_cr_mended_23  d   q3.2 so _  hs
    · refine e_izJ cd_308_20 rfl c10 ?_
      refine e_aldn cd_308_25 u5 ?_
      refine e_getR cd_308_26 fd_308_78 rfl ?_
      refine k_opt hs (fun _ q => nomatch q) (fun k11 h12 hs => ?_)
      refine e_getI cd_308_29 (Or.inr fd_308_132) h12 ?_
      refine k_if hs (fun c13 hs => ?_) (fun c13 hs => ?_)
      · refine e_izN cd_308_32 rfl (fun q => q c13) ?_
        refine e_aldn cd_308_35 u5 ?_
        refine e_getR cd_308_36 fd_308_78 rfl ?_
        refine e_aldn cd_308_39 u7 ?_
        refine e_aldn cd_308_40 u5 ?_
        refine e_getR cd_308_41 fd_308_71 rfl ?_
        refine k_opt hs (fun _ q => nomatch q) (fun k14 h15 hs => ?_)
        obtain ⟨q16, h17, hs⟩ := k_bind hs
        refine e_cvi cd_308_44 kd_308_339 rfl rfl rfl h15 rfl nl_187 rfl rfl (tie_re_mend d k14 q3.1 (zm_R q3.2 11 a0 11) q3.2 _ h17) ?_
        exact tie_cr_mended_47  d  a0 a1 q16 so _ u5 u6 hs
      · refine e_izJ cd_308_32 rfl c13 ?_
        exact tie_cr_mended_47  d  a0 a1 q3.2 so _ u5 u6 hs
theorem tie_cr_mended (d : Nat) (a0 : Nat) (a1 : Int32) (M : zM) (so : Int32 × zM) (hs : cr_mended d a0 a1 M = some so) : Ev zq_T d 308 0 (zl_args 0 [.inr (.inr (11, some a0)), .inl a1]) [] M (some (.inl so.1), so.2) := by
  cases d with
  | zero => exact nomatch hs
  | succ d => exact tieb_cr_mended d a0 a1 M so hs
theorem tie_cr_thing_15  (d : Nat)   (M : zM) (so : Int32 × zM) (ls : List (Nat × zV))  (hs : cr_thing_15  d  M = some so) : Ev zq_T d 309 15 ls [] M (some (.inl so.1), so.2) := by
  unfold cr_thing_15 at hs
  refine e_bip cd_309_15 cb_m2 ?_
  have e := Option.some.inj hs
  subst e
  exact e_ri cd_309_17 nr_309
set_option maxRecDepth 100000 in
theorem tie_cr_thing (d : Nat) (a0 : Nat) (a1 : Int32) (a2 : Int32) (M : zM) (so : Int32 × zM) (hs : cr_thing d a0 a1 a2 M = some so) : Ev zq_T d 309 0 (zl_args 0 [.inr (.inr (11, some a0)), .inl a1, .inl a2]) [] M (some (.inl so.1), so.2) := by
  unfold cr_thing at hs
  have g0 : zl_get (zl_args 0 [.inr (.inr (11, some a0)), .inl a1, .inl a2]) 0 = some (.inr (.inr (11, (some a0)))) := rfl
  have g1 : zl_get (zl_args 0 [.inr (.inr (11, some a0)), .inl a1, .inl a2]) 1 = some (.inl a1) := rfl
  have g2 : zl_get (zl_args 0 [.inr (.inr (11, some a0)), .inl a1, .inl a2]) 2 = some (.inl a2) := rfl
  refine e_ildn cd_309_0 g1 ?_
  refine k_if hs (fun c1 hs => ?_) (fun c1 hs => ?_)
  · refine e_izJ cd_309_1 rfl c1 ?_
    exact tie_cr_thing_15  d   M so _  hs
  · refine e_izN cd_309_1 rfl c1 ?_
    refine e_ildn cd_309_4 g1 ?_
    refine e_aldn cd_309_5 g0 ?_
    refine e_getR cd_309_6 fd_309_30 rfl ?_
    refine k_opt hs (fun _ q => nomatch q) (fun k2 h3 hs => ?_)
    refine e_getI cd_309_9 (Or.inl fd_309_129) h3 ?_
    refine k_if hs (fun c4 hs => ?_) (fun c4 hs => ?_)
    · refine e_icJ cd_309_12 rfl c4 ?_
      refine e_ildn cd_309_18 g2 ?_
      refine k_if hs (fun c5 hs => ?_) (fun c5 hs => ?_)
      · refine e_tab cd_309_19 (by decide) (fun f => (e_tb1 c5 rfl f)) ?_
        refine e_aldn cd_309_64 g0 ?_
        refine e_getR cd_309_65 fd_309_30 rfl ?_
        refine k_opt hs (fun _ q => nomatch q) (fun k13 h14 hs => ?_)
        refine e_getR cd_309_68 fd_309_352 h14 ?_
        refine e_ildn cd_309_71 g1 ?_
        refine k_opt hs (fun _ q => nomatch q) (fun k15 h16 hs => ?_)
        obtain ⟨c17, hs⟩ := z_ite hs
        refine e_iald cd_309_72 rfl h16 c17 ?_
        have e := Option.some.inj hs
        subst e
        exact e_ri cd_309_73 nr_309
      · refine k_if hs (fun c6 hs => ?_) (fun c6 hs => ?_)
        · refine e_tab cd_309_19 (by decide) (fun f => (e_tb0 c5 f (e_tb1 c6 rfl f))) ?_
          refine e_aldn cd_309_74 g0 ?_
          refine e_getR cd_309_75 fd_309_30 rfl ?_
          refine k_opt hs (fun _ q => nomatch q) (fun k18 h19 hs => ?_)
          refine e_getR cd_309_78 fd_309_354 h19 ?_
          refine e_ildn cd_309_81 g1 ?_
          refine k_opt hs (fun _ q => nomatch q) (fun k20 h21 hs => ?_)
          obtain ⟨c22, hs⟩ := z_ite hs
          refine e_iald cd_309_82 rfl h21 c22 ?_
          have e := Option.some.inj hs
          subst e
          exact e_ri cd_309_83 nr_309
        · refine k_if hs (fun c7 hs => ?_) (fun c7 hs => ?_)
          · refine e_tab cd_309_19 (by decide) (fun f => (e_tb0 c5 f (e_tb0 c6 f (e_tb1 c7 rfl f)))) ?_
            refine e_aldn cd_309_84 g0 ?_
            refine e_getR cd_309_85 fd_309_30 rfl ?_
            refine k_opt hs (fun _ q => nomatch q) (fun k23 h24 hs => ?_)
            refine e_getR cd_309_88 fd_309_357 h24 ?_
            refine e_ildn cd_309_91 g1 ?_
            refine k_opt hs (fun _ q => nomatch q) (fun k25 h26 hs => ?_)
            obtain ⟨c27, hs⟩ := z_ite hs
            refine e_iald cd_309_92 rfl h26 c27 ?_
            have e := Option.some.inj hs
            subst e
            exact e_ri cd_309_93 nr_309
          · refine k_if hs (fun c8 hs => ?_) (fun c8 hs => ?_)
            · refine e_tab cd_309_19 (by decide) (fun f => (e_tb0 c5 f (e_tb0 c6 f (e_tb0 c7 f (e_tb1 c8 rfl f))))) ?_
              refine e_aldn cd_309_94 g0 ?_
              refine e_getR cd_309_95 fd_309_30 rfl ?_
              refine k_opt hs (fun _ q => nomatch q) (fun k28 h29 hs => ?_)
              refine e_getR cd_309_98 fd_309_360 h29 ?_
              refine e_ildn cd_309_101 g1 ?_
              refine k_opt hs (fun _ q => nomatch q) (fun k30 h31 hs => ?_)
              obtain ⟨c32, hs⟩ := z_ite hs
              refine e_iald cd_309_102 rfl h31 c32 ?_
              have e := Option.some.inj hs
              subst e
              exact e_ri cd_309_103 nr_309
            · refine k_if hs (fun c9 hs => ?_) (fun c9 hs => ?_)
              · refine e_tab cd_309_19 (by decide) (fun f => (e_tb0 c5 f (e_tb0 c6 f (e_tb0 c7 f (e_tb0 c8 f (e_tb1 c9 rfl f)))))) ?_
                refine e_aldn cd_309_104 g0 ?_
                refine e_getR cd_309_105 fd_309_30 rfl ?_
                refine k_opt hs (fun _ q => nomatch q) (fun k33 h34 hs => ?_)
                refine e_getR cd_309_108 fd_309_363 h34 ?_
                refine e_ildn cd_309_111 g1 ?_
                refine k_opt hs (fun _ q => nomatch q) (fun k35 h36 hs => ?_)
                obtain ⟨c37, hs⟩ := z_ite hs
                refine e_iald cd_309_112 rfl h36 c37 ?_
                have e := Option.some.inj hs
                subst e
                exact e_ri cd_309_113 nr_309
              · refine k_if hs (fun c10 hs => ?_) (fun c10 hs => ?_)
                · refine e_tab cd_309_19 (by decide) (fun f => (e_tb0 c5 f (e_tb0 c6 f (e_tb0 c7 f (e_tb0 c8 f (e_tb0 c9 f (e_tb1 c10 rfl f))))))) ?_
                  refine e_aldn cd_309_114 g0 ?_
                  refine e_getR cd_309_115 fd_309_30 rfl ?_
                  refine k_opt hs (fun _ q => nomatch q) (fun k38 h39 hs => ?_)
                  refine e_getR cd_309_118 fd_309_366 h39 ?_
                  refine e_ildn cd_309_121 g1 ?_
                  refine k_opt hs (fun _ q => nomatch q) (fun k40 h41 hs => ?_)
                  obtain ⟨c42, hs⟩ := z_ite hs
                  refine e_iald cd_309_122 rfl h41 c42 ?_
                  have e := Option.some.inj hs
                  subst e
                  exact e_ri cd_309_123 nr_309
                · refine k_if hs (fun c11 hs => ?_) (fun c11 hs => ?_)
                  · refine e_tab cd_309_19 (by decide) (fun f => (e_tb0 c5 f (e_tb0 c6 f (e_tb0 c7 f (e_tb0 c8 f (e_tb0 c9 f (e_tb0 c10 f (e_tb1 c11 rfl f)))))))) ?_
                    refine e_aldn cd_309_124 g0 ?_
                    refine e_getR cd_309_125 fd_309_30 rfl ?_
                    refine k_opt hs (fun _ q => nomatch q) (fun k43 h44 hs => ?_)
                    refine e_getR cd_309_128 fd_309_368 h44 ?_
                    refine e_ildn cd_309_131 g1 ?_
                    refine k_opt hs (fun _ q => nomatch q) (fun k45 h46 hs => ?_)
                    obtain ⟨c47, hs⟩ := z_ite hs
                    refine e_iald cd_309_132 rfl h46 c47 ?_
                    have e := Option.some.inj hs
                    subst e
                    exact e_ri cd_309_133 nr_309
                  · refine k_if hs (fun c12 hs => ?_) (fun c12 hs => ?_)
                    · refine e_tab cd_309_19 (by decide) (fun f => (e_tb0 c5 f (e_tb0 c6 f (e_tb0 c7 f (e_tb0 c8 f (e_tb0 c9 f (e_tb0 c10 f (e_tb0 c11 f (e_tb1 c12 rfl f))))))))) ?_
                      refine e_aldn cd_309_134 g0 ?_
                      refine e_getR cd_309_135 fd_309_30 rfl ?_
                      refine k_opt hs (fun _ q => nomatch q) (fun k48 h49 hs => ?_)
                      refine e_getR cd_309_138 fd_309_370 h49 ?_
                      refine e_ildn cd_309_141 g1 ?_
                      refine k_opt hs (fun _ q => nomatch q) (fun k50 h51 hs => ?_)
                      obtain ⟨c52, hs⟩ := z_ite hs
                      refine e_iald cd_309_142 rfl h51 c52 ?_
                      have e := Option.some.inj hs
                      subst e
                      exact e_ri cd_309_143 nr_309
                    · refine e_tab cd_309_19 (by decide) (fun f => (e_tb0 c5 f (e_tb0 c6 f (e_tb0 c7 f (e_tb0 c8 f (e_tb0 c9 f (e_tb0 c10 f (e_tb0 c11 f (e_tb0 c12 f (e_tbd rfl f)))))))))) ?_
                      refine e_bip cd_309_144 cb_m2 ?_
                      have e := Option.some.inj hs
                      subst e
                      exact e_ri cd_309_146 nr_309
    · refine e_icN cd_309_12 rfl c4 ?_
      exact tie_cr_thing_15  d   M so _  hs
theorem tie_cr_wrong_35  (d : Nat)  (s0 : Int32) (M : zM) (so : Int32 × zM) (ls : List (Nat × zV))  (hs : cr_wrong_35  d s0 M = some so) : Ev zq_T (d + 1) 310 35 ls [.inl s0] M (some (.inl so.1), so.2) := by
  unfold cr_wrong_35 at hs
  have e := Option.some.inj hs
  subst e
  exact e_ri cd_310_35 nr_310
theorem tieb_cr_wrong  (d : Nat)  (a0 : Nat) (a1 : Int32) (M : zM) (so : Int32 × zM) (hs : cr_wrong_b  d a0 a1 M = some so) : Ev zq_T (d + 1) 310 0 (zl_args 0 [.inr (.inr (11, some a0)), .inl a1]) [] M (some (.inl so.1), so.2) := by
  unfold cr_wrong_b at hs
  have g0 : zl_get (zl_args 0 [.inr (.inr (11, some a0)), .inl a1]) 0 = some (.inr (.inr (11, (some a0)))) := rfl
  have g1 : zl_get (zl_args 0 [.inr (.inr (11, some a0)), .inl a1]) 1 = some (.inl a1) := rfl
  refine e_aldn cd_310_0 g0 ?_
  refine e_getR cd_310_1 fd_310_30 rfl ?_
  refine k_opt hs (fun _ q => nomatch q) (fun k1 h2 hs => ?_)
  refine e_getI cd_310_4 (Or.inl fd_310_129) h2 ?_
  refine k_if hs (fun c3 hs => ?_) (fun c3 hs => ?_)
  · refine e_izN cd_310_7 rfl (fun q => q c3) ?_
    refine e_const cd_310_10 ci_m1 ?_
    have e := Option.some.inj hs
    subst e
    exact e_ri cd_310_11 nr_310
  · refine e_izJ cd_310_7 rfl c3 ?_
    refine e_ildn cd_310_12 g1 ?_
    refine e_const cd_310_13 ci_m1 ?_
    refine k_if hs (fun c4 hs => ?_) (fun c4 hs => ?_)
    · refine e_icN cd_310_14 rfl (fun q => q c4) ?_
      refine e_aldn cd_310_17 g0 ?_
      refine e_getR cd_310_18 fd_310_30 rfl ?_
      refine k_opt hs (fun _ q => nomatch q) (fun k5 h6 hs => ?_)
      obtain ⟨q7, h8, hs⟩ := k_bind hs
      refine e_cvi cd_310_21 kd_310_372 rfl rfl rfl h6 rfl nl_151 rfl rfl (tie_do_wrongThings d k5 M _ h8) ?_
      refine e_goto cd_310_24 rfl ?_
      exact tie_cr_wrong_35  d  q7.1 q7.2 so _  hs
    · refine e_icJ cd_310_14 rfl c4 ?_
      refine e_aldn cd_310_27 g0 ?_
      refine e_getR cd_310_28 fd_310_30 rfl ?_
      refine e_ildn cd_310_31 g1 ?_
      refine k_opt hs (fun _ q => nomatch q) (fun k9 h10 hs => ?_)
      obtain ⟨q11, h12, hs⟩ := k_bind hs
      refine e_cvi cd_310_32 kd_310_376 rfl rfl rfl h10 rfl nl_152 rfl rfl (tie_do_wrongThing d k9 a1 M _ h12) ?_
      exact tie_cr_wrong_35  d  q11.1 q11.2 so _  hs
theorem tie_cr_wrong (d : Nat) (a0 : Nat) (a1 : Int32) (M : zM) (so : Int32 × zM) (hs : cr_wrong d a0 a1 M = some so) : Ev zq_T d 310 0 (zl_args 0 [.inr (.inr (11, some a0)), .inl a1]) [] M (some (.inl so.1), so.2) := by
  cases d with
  | zero => exact nomatch hs
  | succ d => exact tieb_cr_wrong d a0 a1 M so hs
theorem tie_cr_message_27  (d : Nat)   (M : zM) (so : Int32 × zM) (ls : List (Nat × zV))  (hs : cr_message_27  d  M = some so) : Ev zq_T (d + 1) 311 27 ls [] M (some (.inl so.1), so.2) := by
  unfold cr_message_27 at hs
  refine e_const cd_311_27 ci_m1 ?_
  have e := Option.some.inj hs
  subst e
  exact e_ri cd_311_28 nr_311
theorem tie_cr_message_78  (d : Nat)  (s0 : Int32) (M : zM) (so : Int32 × zM) (ls : List (Nat × zV))  (hs : cr_message_78  d s0 M = some so) : Ev zq_T (d + 1) 311 78 ls [.inl s0] M (some (.inl so.1), so.2) := by
  unfold cr_message_78 at hs
  have e := Option.some.inj hs
  subst e
  exact e_ri cd_311_78 nr_311
theorem tie_cr_message_77  (d : Nat)   (M : zM) (so : Int32 × zM) (ls : List (Nat × zV))  (hs : cr_message_77  d  M = some so) : Ev zq_T (d + 1) 311 77 ls [] M (some (.inl so.1), so.2) := by
  unfold cr_message_77 at hs
  refine e_const cd_311_77 ci_m1 ?_
  exact tie_cr_message_78  d  (-1) M so _  hs
theorem tieb_cr_message  (d : Nat)  (a0 : Nat) (a1 : Int32) (a2 : Int32) (M : zM) (so : Int32 × zM) (hs : cr_message_b  d a0 a1 a2 M = some so) : Ev zq_T (d + 1) 311 0 (zl_args 0 [.inr (.inr (11, some a0)), .inl a1, .inl a2]) [] M (some (.inl so.1), so.2) := by
  unfold cr_message_b at hs
  have g0 : zl_get (zl_args 0 [.inr (.inr (11, some a0)), .inl a1, .inl a2]) 0 = some (.inr (.inr (11, (some a0)))) := rfl
  have g1 : zl_get (zl_args 0 [.inr (.inr (11, some a0)), .inl a1, .inl a2]) 1 = some (.inl a1) := rfl
  have g2 : zl_get (zl_args 0 [.inr (.inr (11, some a0)), .inl a1, .inl a2]) 2 = some (.inl a2) := rfl
  refine e_ildn cd_311_0 g1 ?_
  refine k_if hs (fun c1 hs => ?_) (fun c1 hs => ?_)
  · refine e_izJ cd_311_1 rfl c1 ?_
    exact tie_cr_message_27  d   M so _  hs
  · refine e_izN cd_311_1 rfl c1 ?_
    refine e_ildn cd_311_4 g1 ?_
    refine e_aldn cd_311_5 g0 ?_
    refine e_getR cd_311_6 fd_311_30 rfl ?_
    refine k_opt hs (fun _ q => nomatch q) (fun k2 h3 hs => ?_)
    refine e_getI cd_311_9 (Or.inl fd_311_129) h3 ?_
    refine k_if hs (fun c4 hs => ?_) (fun c4 hs => ?_)
    · refine e_icJ cd_311_12 rfl c4 ?_
      exact tie_cr_message_27  d   M so _  hs
    · refine e_icN cd_311_12 rfl c4 ?_
      refine e_aldn cd_311_15 g0 ?_
      refine e_getR cd_311_16 fd_311_30 rfl ?_
      refine k_opt hs (fun _ q => nomatch q) (fun k5 h6 hs => ?_)
      refine e_getR cd_311_19 fd_311_363 h6 ?_
      refine e_ildn cd_311_22 g1 ?_
      refine k_opt hs (fun _ q => nomatch q) (fun k7 h8 hs => ?_)
      obtain ⟨c9, hs⟩ := z_ite hs
      refine e_iald cd_311_23 rfl h8 c9 ?_
      refine k_if hs (fun c10 hs => ?_) (fun c10 hs => ?_)
      · refine e_izJ cd_311_24 rfl c10 ?_
        refine e_aldn cd_311_29 g0 ?_
        refine e_getR cd_311_30 fd_311_30 rfl ?_
        refine e_ildn cd_311_33 g1 ?_
        refine k_opt hs (fun _ q => nomatch q) (fun k11 h12 hs => ?_)
        obtain ⟨q13, h14, hs⟩ := k_bind hs
        refine e_cvi cd_311_34 kd_311_379 rfl rfl rfl h12 rfl nl_155 rfl rfl (tie_do_tell d k11 a1 M _ h14) ?_
        refine e_ildn cd_311_37 g2 ?_
        refine e_const cd_311_38 ci_m1 ?_
        refine k_if hs (fun c15 hs => ?_) (fun c15 hs => ?_)
        · refine e_icN cd_311_39 rfl (fun q => q c15) ?_
          refine e_aldn cd_311_42 g0 ?_
          refine e_getR cd_311_43 fd_311_30 rfl ?_
          refine k_opt hs (fun _ q => nomatch q) (fun k16 h17 hs => ?_)
          refine e_getI cd_311_46 (Or.inl fd_311_382) h17 ?_
          have e := Option.some.inj hs
          subst e
          exact e_ri cd_311_49 nr_311
        · refine e_icJ cd_311_39 rfl c15 ?_
          refine e_ildn cd_311_50 g2 ?_
          refine k_if hs (fun c18 hs => ?_) (fun c18 hs => ?_)
          · refine e_izJ cd_311_51 rfl c18 ?_
            exact tie_cr_message_77  d   q13 so _  hs
          · refine e_izN cd_311_51 rfl c18 ?_
            refine e_ildn cd_311_54 g2 ?_
            refine e_aldn cd_311_55 g0 ?_
            refine e_getR cd_311_56 fd_311_30 rfl ?_
            refine k_opt hs (fun _ q => nomatch q) (fun k19 h20 hs => ?_)
            refine e_getI cd_311_59 (Or.inl fd_311_382) h20 ?_
            refine k_if hs (fun c21 hs => ?_) (fun c21 hs => ?_)
            · refine e_icJ cd_311_62 rfl c21 ?_
              exact tie_cr_message_77  d   q13 so _  hs
            · refine e_icN cd_311_62 rfl c21 ?_
              refine e_aldn cd_311_65 g0 ?_
              refine e_getR cd_311_66 fd_311_30 rfl ?_
              refine k_opt hs (fun _ q => nomatch q) (fun k22 h23 hs => ?_)
              refine e_getR cd_311_69 fd_311_385 h23 ?_
              refine e_ildn cd_311_72 g2 ?_
              refine k_opt hs (fun _ q => nomatch q) (fun k24 h25 hs => ?_)
              obtain ⟨c26, hs⟩ := z_ite hs
              refine e_iald cd_311_73 rfl h25 c26 ?_
              refine e_goto cd_311_74 rfl ?_
              exact tie_cr_message_78  d  (zm_I q13 20 k24 (a2 : Int32).toNatClampNeg) q13 so _  hs
      · refine e_izN cd_311_24 rfl c10 ?_
        exact tie_cr_message_27  d   M so _  hs
theorem tie_cr_message (d : Nat) (a0 : Nat) (a1 : Int32) (a2 : Int32) (M : zM) (so : Int32 × zM) (hs : cr_message d a0 a1 a2 M = some so) : Ev zq_T d 311 0 (zl_args 0 [.inr (.inr (11, some a0)), .inl a1, .inl a2]) [] M (some (.inl so.1), so.2) := by
  cases d with
  | zero => exact nomatch hs
  | succ d => exact tieb_cr_message d a0 a1 a2 M so hs
theorem tieb_cr_toldAnew  (d : Nat)  (a0 : Nat) (a1 : Option Nat) (M : zM) (so : Int32 × zM) (hs : cr_toldAnew_b  d a0 a1 M = some so) : Ev zq_T (d + 1) 314 0 (zl_args 0 [.inr (.inr (11, some a0)), .inr (.inr (5, a1))]) [] M (some (.inl so.1), so.2) := by
  unfold cr_toldAnew_b at hs
  have g0 : zl_get (zl_args 0 [.inr (.inr (11, some a0)), .inr (.inr (5, a1))]) 0 = some (.inr (.inr (11, (some a0)))) := rfl
  have g1 : zl_get (zl_args 0 [.inr (.inr (11, some a0)), .inr (.inr (5, a1))]) 1 = some (.inr (.inr (5, a1))) := rfl
  refine e_aldn cd_314_0 g0 ?_
  refine e_getR cd_314_1 fd_314_40 rfl ?_
  refine e_aldn cd_314_4 g1 ?_
  refine k_opt hs (fun _ q => nomatch q) (fun k1 h2 hs => ?_)
  obtain ⟨q3, h4, hs⟩ := k_bind hs
  refine e_cvi cd_314_5 kd_314_115 rfl rfl rfl h2 rfl nl_162 rfl rfl (tie_le_learnRule d k1 a1 M _ h4) ?_
  refine e_aldn cd_314_8 g0 ?_
  refine e_getR cd_314_9 fd_314_47 rfl ?_
  refine e_aldn cd_314_12 g1 ?_
  refine k_opt hs (fun _ q => nomatch q) (fun k5 h6 hs => ?_)
  obtain ⟨q7, h8, hs⟩ := k_bind hs
  refine e_cvi cd_314_13 kd_314_119 rfl rfl rfl h6 rfl nl_274 rfl rfl (tie_wy_study d k5 a1 q3 _ h8) ?_
  refine e_aldn cd_314_16 g0 ?_
  obtain ⟨q9, h10, hs⟩ := k_bind hs
  refine e_cvi cd_314_17 kd_314_122 rfl rfl rfl rfl rfl nl_290 rfl rfl (tie_cr_forgetWhatRulesTold d a0 q7 _ h10) ?_
  refine e_aldn cd_314_20 g1 ?_
  refine k_opt hs (fun _ q => nomatch q) (fun k11 h12 hs => ?_)
  refine e_getI cd_314_21 (Or.inr fd_314_177) h12 ?_
  obtain ⟨q13, h14, hs⟩ := k_bind hs
  refine e_cst cd_314_24 kd_314_170 rfl rfl rfl nl_292 rfl rfl (tie_cr_bit d (zm_I q9 5 k11 16) q9 _ h14) ?_
  have e := Option.some.inj hs
  subst e
  exact e_ri cd_314_27 nr_314
theorem tie_cr_toldAnew (d : Nat) (a0 : Nat) (a1 : Option Nat) (M : zM) (so : Int32 × zM) (hs : cr_toldAnew d a0 a1 M = some so) : Ev zq_T d 314 0 (zl_args 0 [.inr (.inr (11, some a0)), .inr (.inr (5, a1))]) [] M (some (.inl so.1), so.2) := by
  cases d with
  | zero => exact nomatch hs
  | succ d => exact tieb_cr_toldAnew d a0 a1 M so hs
theorem tie_cr_recount_25  (d : Nat)   (M : zM) (so : Int32 × zM) (ls : List (Nat × zV))  (hs : cr_recount_25  d  M = some so) : Ev zq_T (d + 1) 312 25 ls [] M (some (.inl so.1), so.2) := by
  unfold cr_recount_25 at hs
  refine e_const cd_312_25 ci_m1 ?_
  have e := Option.some.inj hs
  subst e
  exact e_ri cd_312_26 nr_312
theorem tie_cr_recount_74  (d : Nat)   (M : zM) (so : Int32 × zM) (ls : List (Nat × zV))  (hs : cr_recount_74  d  M = some so) : Ev zq_T (d + 1) 312 74 ls [] M (some (.inl so.1), so.2) := by
  unfold cr_recount_74 at hs
  refine e_bip cd_312_74 cb_m2 ?_
  have e := Option.some.inj hs
  subst e
  exact e_ri cd_312_76 nr_312
theorem tie_cr_recount_103  (d : Nat)  (t0 : Nat) (v2 : Int32) (v3 : Int32) (v4 : Int32) (v5 : Option Nat) (M : zM) (so : Int32 × zM) (ls : List (Nat × zV)) (g0 : zl_get ls 0 = some (.inr (.inr (11, (some t0))))) (g2 : zl_get ls 2 = some (.inl v2)) (g3 : zl_get ls 3 = some (.inl v3)) (g4 : zl_get ls 4 = some (.inl v4)) (g5 : zl_get ls 5 = some (.inr (.inr (5, v5)))) (hs : cr_recount_103  d t0 v2 v3 v4 v5 M = some so) : Ev zq_T (d + 1) 312 103 ls [] M (some (.inl so.1), so.2) := by
  unfold cr_recount_103 at hs
  refine e_ald cd_312_103 g5 ?_
  refine k_opt hs (fun _ q => nomatch q) (fun k1 h2 hs => ?_)
  refine e_getR cd_312_105 fd_312_226 h2 ?_
  refine e_ildn cd_312_108 g2 ?_
  refine e_ildn cd_312_109 g3 ?_
  refine k_opt hs (fun _ q => nomatch q) (fun k3 h4 hs => ?_)
  obtain ⟨c5, hs⟩ := z_ite hs
  refine k_let hs (fun M6 e7 hs => ?_)
  refine e_iast cd_312_110 rfl h4 c5 e7 ?_
  refine e_ald cd_312_111 g5 ?_
  refine e_getR cd_312_113 fd_312_229 h2 ?_
  refine e_ildn cd_312_116 g2 ?_
  refine e_ild cd_312_117 g4 ?_
  refine k_opt hs (fun _ q => nomatch q) (fun k8 h9 hs => ?_)
  obtain ⟨c10, hs⟩ := z_ite hs
  refine k_let hs (fun M11 e12 hs => ?_)
  refine e_iast cd_312_119 rfl h9 c10 e12 ?_
  refine e_aldn cd_312_120 g0 ?_
  refine e_ald cd_312_121 g5 ?_
  obtain ⟨q13, h14, hs⟩ := k_bind hs
  refine e_cvi cd_312_123 kd_312_388 rfl rfl rfl rfl rfl nl_314 rfl rfl (tie_cr_toldAnew d t0 v5 M11 _ h14) ?_
  have e := Option.some.inj hs
  subst e
  exact e_ri cd_312_126 nr_312
theorem tie_cr_recount_57  (d : Nat)  (t0 : Nat) (v2 : Int32) (v3 : Int32) (v4 : Int32) (v5 : Option Nat) (s0 : Int32) (M : zM) (so : Int32 × zM) (ls : List (Nat × zV)) (g0 : zl_get ls 0 = some (.inr (.inr (11, (some t0))))) (g2 : zl_get ls 2 = some (.inl v2)) (g3 : zl_get ls 3 = some (.inl v3)) (g4 : zl_get ls 4 = some (.inl v4)) (g5 : zl_get ls 5 = some (.inr (.inr (5, v5)))) (hs : cr_recount_57  d t0 v2 v3 v4 v5 s0 M = some so) : Ev zq_T (d + 1) 312 57 ls [.inl s0] M (some (.inl so.1), so.2) := by
  unfold cr_recount_57 at hs
  refine e_iK cd_312_57 nl_312 rfl rfl ?_
  intro _ gn kp
  have u1 := kp 0 _ g0 rfl rfl
  have u2 := kp 2 _ g2 rfl rfl
  have u3 := kp 3 _ g3 rfl rfl
  have u4 := kp 4 _ g4 rfl rfl
  have u5 := kp 5 _ g5 rfl rfl
  have u6 := gn
  refine e_ildn cd_312_59 u3 ?_
  refine k_if hs (fun c7 hs => ?_) (fun c7 hs => ?_)
  · refine e_izJ cd_312_60 rfl c7 ?_
    exact tie_cr_recount_74  d   M so _  hs
  · refine e_izN cd_312_60 rfl c7 ?_
    refine e_ildn cd_312_63 u3 ?_
    refine e_bip cd_312_64 cb_12 ?_
    refine k_if hs (fun c8 hs => ?_) (fun c8 hs => ?_)
    · refine e_icJ cd_312_66 rfl c8 ?_
      exact tie_cr_recount_74  d   M so _  hs
    · refine e_icN cd_312_66 rfl c8 ?_
      refine e_ild cd_312_69 u6 ?_
      refine k_if hs (fun c9 hs => ?_) (fun c9 hs => ?_)
      · refine e_izN cd_312_71 rfl (fun q => q c9) ?_
        exact tie_cr_recount_74  d   M so _  hs
      · refine e_izJ cd_312_71 rfl c9 ?_
        refine e_ald cd_312_77 u5 ?_
        refine k_opt hs (fun _ q => nomatch q) (fun k10 h11 hs => ?_)
        refine e_getR cd_312_79 fd_312_226 h11 ?_
        refine e_ildn cd_312_82 u2 ?_
        refine k_opt hs (fun _ q => nomatch q) (fun k12 h13 hs => ?_)
        obtain ⟨c14, hs⟩ := z_ite hs
        refine e_iald cd_312_83 rfl h13 c14 ?_
        refine e_ildn cd_312_84 u3 ?_
        refine k_if hs (fun c15 hs => ?_) (fun c15 hs => ?_)
        · refine e_icN cd_312_85 rfl (fun q => q c15) ?_
          refine e_ald cd_312_88 u5 ?_
          refine e_getR cd_312_90 fd_312_229 h11 ?_
          refine e_ildn cd_312_93 u2 ?_
          refine k_opt hs (fun _ q => nomatch q) (fun k16 h17 hs => ?_)
          obtain ⟨c18, hs⟩ := z_ite hs
          refine e_iald cd_312_94 rfl h17 c18 ?_
          refine e_ild cd_312_95 u4 ?_
          refine k_if hs (fun c19 hs => ?_) (fun c19 hs => ?_)
          · refine e_icN cd_312_97 rfl (fun q => q c19) ?_
            refine e_bip cd_312_100 cb_m3 ?_
            have e := Option.some.inj hs
            subst e
            exact e_ri cd_312_102 nr_312
          · refine e_icJ cd_312_97 rfl c19 ?_
            exact tie_cr_recount_103  d  t0 v2 v3 v4 v5 M so _ u1 u2 u3 u4 u5 hs
        · refine e_icJ cd_312_85 rfl c15 ?_
          exact tie_cr_recount_103  d  t0 v2 v3 v4 v5 M so _ u1 u2 u3 u4 u5 hs
theorem tie_cr_recount_52  (d : Nat)  (t0 : Nat) (v2 : Int32) (v3 : Int32) (v4 : Int32) (v5 : Option Nat) (M : zM) (so : Int32 × zM) (ls : List (Nat × zV)) (g0 : zl_get ls 0 = some (.inr (.inr (11, (some t0))))) (g2 : zl_get ls 2 = some (.inl v2)) (g3 : zl_get ls 3 = some (.inl v3)) (g4 : zl_get ls 4 = some (.inl v4)) (g5 : zl_get ls 5 = some (.inr (.inr (5, v5)))) (hs : cr_recount_52  d t0 v2 v3 v4 v5 M = some so) : Ev zq_T (d + 1) 312 52 ls [] M (some (.inl so.1), so.2) := by
  unfold cr_recount_52 at hs
  refine e_const cd_312_52 ci_1 ?_
  refine e_goto cd_312_53 rfl ?_
  exact tie_cr_recount_57  d  t0 v2 v3 v4 v5 1 M so _ g0 g2 g3 g4 g5 hs
theorem tie_cr_recount_56  (d : Nat)  (t0 : Nat) (v2 : Int32) (v3 : Int32) (v4 : Int32) (v5 : Option Nat) (M : zM) (so : Int32 × zM) (ls : List (Nat × zV)) (g0 : zl_get ls 0 = some (.inr (.inr (11, (some t0))))) (g2 : zl_get ls 2 = some (.inl v2)) (g3 : zl_get ls 3 = some (.inl v3)) (g4 : zl_get ls 4 = some (.inl v4)) (g5 : zl_get ls 5 = some (.inr (.inr (5, v5)))) (hs : cr_recount_56  d t0 v2 v3 v4 v5 M = some so) : Ev zq_T (d + 1) 312 56 ls [] M (some (.inl so.1), so.2) := by
  unfold cr_recount_56 at hs
  refine e_const cd_312_56 ci_0 ?_
  exact tie_cr_recount_57  d  t0 v2 v3 v4 v5 0 M so _ g0 g2 g3 g4 g5 hs
theorem tieb_cr_recount  (d : Nat)  (a0 : Nat) (a1 : Int32) (a2 : Int32) (a3 : Int32) (a4 : Int32) (M : zM) (so : Int32 × zM) (hs : cr_recount_b  d a0 a1 a2 a3 a4 M = some so) : Ev zq_T (d + 1) 312 0 (zl_args 0 [.inr (.inr (11, some a0)), .inl a1, .inl a2, .inl a3, .inl a4]) [] M (some (.inl so.1), so.2) := by
  unfold cr_recount_b at hs
  have g0 : zl_get (zl_args 0 [.inr (.inr (11, some a0)), .inl a1, .inl a2, .inl a3, .inl a4]) 0 = some (.inr (.inr (11, (some a0)))) := rfl
  have g1 : zl_get (zl_args 0 [.inr (.inr (11, some a0)), .inl a1, .inl a2, .inl a3, .inl a4]) 1 = some (.inl a1) := rfl
  have g2 : zl_get (zl_args 0 [.inr (.inr (11, some a0)), .inl a1, .inl a2, .inl a3, .inl a4]) 2 = some (.inl a2) := rfl
  have g3 : zl_get (zl_args 0 [.inr (.inr (11, some a0)), .inl a1, .inl a2, .inl a3, .inl a4]) 3 = some (.inl a3) := rfl
  have g4 : zl_get (zl_args 0 [.inr (.inr (11, some a0)), .inl a1, .inl a2, .inl a3, .inl a4]) 4 = some (.inl a4) := rfl
  refine e_aldn cd_312_0 g0 ?_
  refine e_ildn cd_312_1 g1 ?_
  obtain ⟨q1, h2, hs⟩ := k_bind hs
  refine e_cvi cd_312_2 kd_312_136 rfl rfl rfl rfl rfl nl_291 rfl rfl (tie_cr_ruleAt d a0 a1 M _ h2) ?_
  refine e_aK cd_312_5 nl_312 rfl rfl ?_
  intro _ gn kp
  have u3 := kp 0 _ g0 rfl rfl
  have u4 := kp 2 _ g2 rfl rfl
  have u5 := kp 3 _ g3 rfl rfl
  have u6 := kp 4 _ g4 rfl rfl
  have u7 := gn
  refine e_ald cd_312_7 u7 ?_
  refine k_opt hs (fun h8 hs => ?_) (fun k9 h8 hs => ?_)
  · refine e_nu0 cd_312_9 rfl h8 ?_
    exact tie_cr_recount_25  d   q1.2 so _  hs
  · refine e_nu1 cd_312_9 rfl h8 ?_
    refine e_ildn cd_312_12 u4 ?_
    refine k_if hs (fun c10 hs => ?_) (fun c10 hs => ?_)
    · refine e_izJ cd_312_13 rfl c10 ?_
      exact tie_cr_recount_25  d   q1.2 so _  hs
    · refine e_izN cd_312_13 rfl c10 ?_
      refine e_ildn cd_312_16 u4 ?_
      refine e_ald cd_312_17 u7 ?_
      refine e_getI cd_312_19 (Or.inl fd_312_159) h8 ?_
      refine k_if hs (fun c11 hs => ?_) (fun c11 hs => ?_)
      · refine e_icJ cd_312_22 rfl c11 ?_
        refine e_ild cd_312_27 u6 ?_
        refine e_const cd_312_29 ci_m1 ?_
        refine k_if hs (fun c12 hs => ?_) (fun c12 hs => ?_)
        · refine e_icJ cd_312_30 rfl c12 ?_
          exact tie_cr_recount_52  d  a0 a2 a3 a4 q1.1 q1.2 so _ u3 u4 u5 u6 u7 hs
        · refine e_icN cd_312_30 rfl c12 ?_
          refine e_ild cd_312_33 u6 ?_
          refine e_const cd_312_35 ci_1 ?_
          refine k_if hs (fun c13 hs => ?_) (fun c13 hs => ?_)
          · refine e_icJ cd_312_36 rfl c13 ?_
            exact tie_cr_recount_56  d  a0 a2 a3 a4 q1.1 q1.2 so _ u3 u4 u5 u6 u7 hs
          · refine e_icN cd_312_36 rfl c13 ?_
            refine e_ild cd_312_39 u6 ?_
            refine e_ildn cd_312_41 u5 ?_
            refine k_if hs (fun c14 hs => ?_) (fun c14 hs => ?_)
            · refine e_icJ cd_312_42 rfl c14 ?_
              exact tie_cr_recount_56  d  a0 a2 a3 a4 q1.1 q1.2 so _ u3 u4 u5 u6 u7 hs
            · refine e_icN cd_312_42 rfl c14 ?_
              refine e_ild cd_312_45 u6 ?_
              refine e_bip cd_312_47 cb_12 ?_
              refine k_if hs (fun c15 hs => ?_) (fun c15 hs => ?_)
              · refine e_icJ cd_312_49 rfl c15 ?_
                exact tie_cr_recount_56  d  a0 a2 a3 a4 q1.1 q1.2 so _ u3 u4 u5 u6 u7 hs
              · refine e_icN cd_312_49 rfl c15 ?_
                exact tie_cr_recount_52  d  a0 a2 a3 a4 q1.1 q1.2 so _ u3 u4 u5 u6 u7 hs
      · refine e_icN cd_312_22 rfl c11 ?_
        exact tie_cr_recount_25  d   q1.2 so _  hs
theorem tie_cr_recount (d : Nat) (a0 : Nat) (a1 : Int32) (a2 : Int32) (a3 : Int32) (a4 : Int32) (M : zM) (so : Int32 × zM) (hs : cr_recount d a0 a1 a2 a3 a4 M = some so) : Ev zq_T d 312 0 (zl_args 0 [.inr (.inr (11, some a0)), .inl a1, .inl a2, .inl a3, .inl a4]) [] M (some (.inl so.1), so.2) := by
  cases d with
  | zero => exact nomatch hs
  | succ d => exact tieb_cr_recount d a0 a1 a2 a3 a4 M so hs
theorem tie_cr_reletter_25  (d : Nat)   (M : zM) (so : Int32 × zM) (ls : List (Nat × zV))  (hs : cr_reletter_25  d  M = some so) : Ev zq_T (d + 1) 313 25 ls [] M (some (.inl so.1), so.2) := by
  unfold cr_reletter_25 at hs
  refine e_const cd_313_25 ci_m1 ?_
  have e := Option.some.inj hs
  subst e
  exact e_ri cd_313_26 nr_313
theorem tie_cr_reletter_37  (d : Nat)   (M : zM) (so : Int32 × zM) (ls : List (Nat × zV))  (hs : cr_reletter_37  d  M = some so) : Ev zq_T (d + 1) 313 37 ls [] M (some (.inl so.1), so.2) := by
  unfold cr_reletter_37 at hs
  refine e_bip cd_313_37 cb_m2 ?_
  have e := Option.some.inj hs
  subst e
  exact e_ri cd_313_39 nr_313
theorem tieb_cr_reletter  (d : Nat)  (a0 : Nat) (a1 : Int32) (a2 : Int32) (a3 : Int32) (M : zM) (so : Int32 × zM) (hs : cr_reletter_b  d a0 a1 a2 a3 M = some so) : Ev zq_T (d + 1) 313 0 (zl_args 0 [.inr (.inr (11, some a0)), .inl a1, .inl a2, .inl a3]) [] M (some (.inl so.1), so.2) := by
  unfold cr_reletter_b at hs
  have g0 : zl_get (zl_args 0 [.inr (.inr (11, some a0)), .inl a1, .inl a2, .inl a3]) 0 = some (.inr (.inr (11, (some a0)))) := rfl
  have g1 : zl_get (zl_args 0 [.inr (.inr (11, some a0)), .inl a1, .inl a2, .inl a3]) 1 = some (.inl a1) := rfl
  have g2 : zl_get (zl_args 0 [.inr (.inr (11, some a0)), .inl a1, .inl a2, .inl a3]) 2 = some (.inl a2) := rfl
  have g3 : zl_get (zl_args 0 [.inr (.inr (11, some a0)), .inl a1, .inl a2, .inl a3]) 3 = some (.inl a3) := rfl
  refine e_aldn cd_313_0 g0 ?_
  refine e_ildn cd_313_1 g1 ?_
  obtain ⟨q1, h2, hs⟩ := k_bind hs
  refine e_cvi cd_313_2 kd_313_136 rfl rfl rfl rfl rfl nl_291 rfl rfl (tie_cr_ruleAt d a0 a1 M _ h2) ?_
  refine e_aK cd_313_5 nl_313 rfl rfl ?_
  intro _ gn kp
  have u3 := kp 0 _ g0 rfl rfl
  have u4 := kp 2 _ g2 rfl rfl
  have u5 := kp 3 _ g3 rfl rfl
  have u6 := gn
  refine e_ald cd_313_7 u6 ?_
  refine k_opt hs (fun h7 hs => ?_) (fun k8 h7 hs => ?_)
  · refine e_nu0 cd_313_9 rfl h7 ?_
    exact tie_cr_reletter_25  d   q1.2 so _  hs
  · refine e_nu1 cd_313_9 rfl h7 ?_
    refine e_ildn cd_313_12 u4 ?_
    refine k_if hs (fun c9 hs => ?_) (fun c9 hs => ?_)
    · refine e_izJ cd_313_13 rfl c9 ?_
      exact tie_cr_reletter_25  d   q1.2 so _  hs
    · refine e_izN cd_313_13 rfl c9 ?_
      refine e_ildn cd_313_16 u4 ?_
      refine e_ald cd_313_17 u6 ?_
      refine e_getI cd_313_19 (Or.inl fd_313_156) h7 ?_
      refine k_if hs (fun c10 hs => ?_) (fun c10 hs => ?_)
      · refine e_icJ cd_313_22 rfl c10 ?_
        refine e_ildn cd_313_27 u5 ?_
        refine k_if hs (fun c11 hs => ?_) (fun c11 hs => ?_)
        · refine e_izJ cd_313_28 rfl c11 ?_
          exact tie_cr_reletter_37  d   q1.2 so _  hs
        · refine e_izN cd_313_28 rfl c11 ?_
          refine e_ildn cd_313_31 u5 ?_
          refine e_bip cd_313_32 cb_26 ?_
          refine k_if hs (fun c12 hs => ?_) (fun c12 hs => ?_)
          · refine e_icJ cd_313_34 rfl c12 ?_
            refine e_ald cd_313_40 u6 ?_
            refine e_getR cd_313_42 fd_313_197 h7 ?_
            refine e_ildn cd_313_45 u4 ?_
            refine k_opt hs (fun _ q => nomatch q) (fun k13 h14 hs => ?_)
            obtain ⟨c15, hs⟩ := z_ite hs
            refine e_iald cd_313_46 rfl h14 c15 ?_
            refine e_ildn cd_313_47 u5 ?_
            refine k_if hs (fun c16 hs => ?_) (fun c16 hs => ?_)
            · refine e_icN cd_313_48 rfl (fun q => q c16) ?_
              refine e_bip cd_313_51 cb_m3 ?_
              have e := Option.some.inj hs
              subst e
              exact e_ri cd_313_53 nr_313
            · refine e_icJ cd_313_48 rfl c16 ?_
              refine e_ald cd_313_54 u6 ?_
              refine e_getR cd_313_56 fd_313_197 h7 ?_
              refine e_ildn cd_313_59 u4 ?_
              refine e_ildn cd_313_60 u5 ?_
              refine k_opt hs (fun _ q => nomatch q) (fun k17 h18 hs => ?_)
              obtain ⟨c19, hs⟩ := z_ite hs
              refine k_let hs (fun M20 e21 hs => ?_)
              refine e_iast cd_313_61 rfl h18 c19 e21 ?_
              refine e_aldn cd_313_62 u3 ?_
              refine e_ald cd_313_63 u6 ?_
              obtain ⟨q22, h23, hs⟩ := k_bind hs
              refine e_cvi cd_313_65 kd_313_388 rfl rfl rfl rfl rfl nl_314 rfl rfl (tie_cr_toldAnew d a0 q1.1 M20 _ h23) ?_
              have e := Option.some.inj hs
              subst e
              exact e_ri cd_313_68 nr_313
          · refine e_icN cd_313_34 rfl c12 ?_
            exact tie_cr_reletter_37  d   q1.2 so _  hs
      · refine e_icN cd_313_22 rfl c10 ?_
        exact tie_cr_reletter_25  d   q1.2 so _  hs
theorem tie_cr_reletter (d : Nat) (a0 : Nat) (a1 : Int32) (a2 : Int32) (a3 : Int32) (M : zM) (so : Int32 × zM) (hs : cr_reletter d a0 a1 a2 a3 M = some so) : Ev zq_T d 313 0 (zl_args 0 [.inr (.inr (11, some a0)), .inl a1, .inl a2, .inl a3]) [] M (some (.inl so.1), so.2) := by
  cases d with
  | zero => exact nomatch hs
  | succ d => exact tieb_cr_reletter d a0 a1 a2 a3 M so hs
theorem tieb_cr_count  (d : Nat)  (a0 : Nat) (a1 : Int32) (M : zM) (so : Int32 × zM) (hs : cr_count_b  d a0 a1 M = some so) : Ev zq_T (d + 1) 315 0 (zl_args 0 [.inr (.inr (11, some a0)), .inl a1]) [] M (some (.inl so.1), so.2) := by
  unfold cr_count_b at hs
  have g0 : zl_get (zl_args 0 [.inr (.inr (11, some a0)), .inl a1]) 0 = some (.inr (.inr (11, (some a0)))) := rfl
  have g1 : zl_get (zl_args 0 [.inr (.inr (11, some a0)), .inl a1]) 1 = some (.inl a1) := rfl
  refine e_ildn cd_315_0 g1 ?_
  refine k_if hs (fun c1 hs => ?_) (fun c1 hs => ?_)
  · refine e_tab cd_315_1 (by decide) (fun f => (e_tb1 c1 rfl f)) ?_
    refine e_aldn cd_315_48 g0 ?_
    refine e_getI cd_315_49 (Or.inl fd_315_13) rfl ?_
    have e := Option.some.inj hs
    subst e
    exact e_ri cd_315_52 nr_315
  · refine k_if hs (fun c2 hs => ?_) (fun c2 hs => ?_)
    · refine e_tab cd_315_1 (by decide) (fun f => (e_tb0 c1 f (e_tb1 c2 rfl f))) ?_
      refine e_aldn cd_315_53 g0 ?_
      refine e_getR cd_315_54 fd_315_20 rfl ?_
      refine k_opt hs (fun _ q => nomatch q) (fun k9 h10 hs => ?_)
      refine e_getI cd_315_57 (Or.inl fd_315_108) h10 ?_
      have e := Option.some.inj hs
      subst e
      exact e_ri cd_315_60 nr_315
    · refine k_if hs (fun c3 hs => ?_) (fun c3 hs => ?_)
      · refine e_tab cd_315_1 (by decide) (fun f => (e_tb0 c1 f (e_tb0 c2 f (e_tb1 c3 rfl f)))) ?_
        refine e_aldn cd_315_61 g0 ?_
        refine e_getR cd_315_62 fd_315_30 rfl ?_
        refine k_opt hs (fun _ q => nomatch q) (fun k11 h12 hs => ?_)
        refine e_getI cd_315_65 (Or.inl fd_315_129) h12 ?_
        have e := Option.some.inj hs
        subst e
        exact e_ri cd_315_68 nr_315
      · refine k_if hs (fun c4 hs => ?_) (fun c4 hs => ?_)
        · refine e_tab cd_315_1 (by decide) (fun f => (e_tb0 c1 f (e_tb0 c2 f (e_tb0 c3 f (e_tb1 c4 rfl f))))) ?_
          refine e_aldn cd_315_69 g0 ?_
          refine e_getR cd_315_70 fd_315_30 rfl ?_
          refine k_opt hs (fun _ q => nomatch q) (fun k13 h14 hs => ?_)
          obtain ⟨q15, h16, hs⟩ := k_bind hs
          refine e_cvi cd_315_73 kd_315_372 rfl rfl rfl h14 rfl nl_151 rfl rfl (tie_do_wrongThings d k13 M _ h16) ?_
          have e := Option.some.inj hs
          subst e
          exact e_ri cd_315_76 nr_315
        · refine k_if hs (fun c5 hs => ?_) (fun c5 hs => ?_)
          · refine e_tab cd_315_1 (by decide) (fun f => (e_tb0 c1 f (e_tb0 c2 f (e_tb0 c3 f (e_tb0 c4 f (e_tb1 c5 rfl f)))))) ?_
            refine e_aldn cd_315_77 g0 ?_
            refine e_getR cd_315_78 fd_315_20 rfl ?_
            refine k_opt hs (fun _ q => nomatch q) (fun k17 h18 hs => ?_)
            obtain ⟨q19, h20, hs⟩ := k_bind hs
            refine e_cvi cd_315_81 kd_315_392 rfl rfl rfl h18 rfl nl_200 rfl rfl (tie_rs_clearOnes d k17 M _ h20) ?_
            have e := Option.some.inj hs
            subst e
            exact e_ri cd_315_84 nr_315
          · refine k_if hs (fun c6 hs => ?_) (fun c6 hs => ?_)
            · refine e_tab cd_315_1 (by decide) (fun f => (e_tb0 c1 f (e_tb0 c2 f (e_tb0 c3 f (e_tb0 c4 f (e_tb0 c5 f (e_tb1 c6 rfl f))))))) ?_
              refine e_aldn cd_315_85 g0 ?_
              refine e_getR cd_315_86 fd_315_20 rfl ?_
              refine k_opt hs (fun _ q => nomatch q) (fun k21 h22 hs => ?_)
              obtain ⟨q23, h24, hs⟩ := k_bind hs
              refine e_cvi cd_315_89 kd_315_395 rfl rfl rfl h22 rfl nl_201 rfl rfl (tie_rs_sureOnes d k21 M _ h24) ?_
              have e := Option.some.inj hs
              subst e
              exact e_ri cd_315_92 nr_315
            · refine k_if hs (fun c7 hs => ?_) (fun c7 hs => ?_)
              · refine e_tab cd_315_1 (by decide) (fun f => (e_tb0 c1 f (e_tb0 c2 f (e_tb0 c3 f (e_tb0 c4 f (e_tb0 c5 f (e_tb0 c6 f (e_tb1 c7 rfl f)))))))) ?_
                refine e_aldn cd_315_93 g0 ?_
                refine e_getR cd_315_94 fd_315_30 rfl ?_
                refine k_opt hs (fun _ q => nomatch q) (fun k25 h26 hs => ?_)
                obtain ⟨q27, h28, hs⟩ := k_bind hs
                refine e_cvi cd_315_97 kd_315_398 rfl rfl rfl h26 rfl nl_153 rfl rfl (tie_do_fullest d k25 M _ h28) ?_
                have e := Option.some.inj hs
                subst e
                exact e_ri cd_315_100 nr_315
              · refine k_if hs (fun c8 hs => ?_) (fun c8 hs => ?_)
                · refine e_tab cd_315_1 (by decide) (fun f => (e_tb0 c1 f (e_tb0 c2 f (e_tb0 c3 f (e_tb0 c4 f (e_tb0 c5 f (e_tb0 c6 f (e_tb0 c7 f (e_tb1 c8 rfl f))))))))) ?_
                  refine e_aldn cd_315_101 g0 ?_
                  refine e_getR cd_315_102 fd_315_30 rfl ?_
                  refine k_opt hs (fun _ q => nomatch q) (fun k29 h30 hs => ?_)
                  obtain ⟨q31, h32, hs⟩ := k_bind hs
                  refine e_cvi cd_315_105 kd_315_401 rfl rfl rfl h30 rfl nl_154 rfl rfl (tie_do_deepest d k29 M _ h32) ?_
                  have e := Option.some.inj hs
                  subst e
                  exact e_ri cd_315_108 nr_315
                · refine e_tab cd_315_1 (by decide) (fun f => (e_tb0 c1 f (e_tb0 c2 f (e_tb0 c3 f (e_tb0 c4 f (e_tb0 c5 f (e_tb0 c6 f (e_tb0 c7 f (e_tb0 c8 f (e_tbd rfl f)))))))))) ?_
                  refine e_const cd_315_109 ci_m1 ?_
                  have e := Option.some.inj hs
                  subst e
                  exact e_ri cd_315_110 nr_315
theorem tie_cr_count (d : Nat) (a0 : Nat) (a1 : Int32) (M : zM) (so : Int32 × zM) (hs : cr_count d a0 a1 M = some so) : Ev zq_T d 315 0 (zl_args 0 [.inr (.inr (11, some a0)), .inl a1]) [] M (some (.inl so.1), so.2) := by
  cases d with
  | zero => exact nomatch hs
  | succ d => exact tieb_cr_count d a0 a1 M so hs
