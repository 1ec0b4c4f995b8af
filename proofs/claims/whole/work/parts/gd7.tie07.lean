theorem tieb_rs_parseRule  (d : Nat)  (a0 : Nat) (M : zM) (so : Int32 × zM) (hs : rs_parseRule_b  d a0 M = some so) : Ev zq_T (d + 1) 209 0 (zl_args 0 [.inr (.inr (6, some a0))]) [] M (some (.inl so.1), so.2) := by
  unfold rs_parseRule_b at hs
  have g0 : zl_get (zl_args 0 [.inr (.inr (6, some a0))]) 0 = some (.inr (.inr (6, (some a0)))) := rfl
  refine e_aldn cd_209_0 g0 ?_
  obtain ⟨q1, h2, hs⟩ := k_bind hs
  refine e_cvi cd_209_1 kd_209_66 rfl rfl rfl rfl rfl nl_203 rfl rfl (tie_rs_sign d a0 M _ h2) ?_
  refine e_iKn cd_209_4 nl_209 rfl rfl ?_
  intro _ gn kp
  have u3 := kp 0 _ g0 rfl rfl
  have u4 := gn
  refine e_ildn cd_209_5 u4 ?_
  obtain ⟨q5, h6, hs⟩ := k_bind hs
  refine e_cst cd_209_6 kd_209_79 rfl rfl rfl nl_207 rfl rfl (tie_rs_isLetter d q1.1 q1.2 _ h6) ?_
  refine k_if hs (fun c7 hs => ?_) (fun c7 hs => ?_)
  · refine e_izJ cd_209_9 rfl c7 ?_
    exact tie_rs_parseRule_24  d  a0 q5.2 so _ u3 hs
  · refine e_izN cd_209_9 rfl c7 ?_
    refine e_aldn cd_209_12 u3 ?_
    refine e_ildn cd_209_13 u4 ?_
    refine e_bip cd_209_14 cb_97 ?_
    refine e_pure cd_209_16 rfl ?_
    obtain ⟨q8, h9, hs⟩ := k_bind hs
    refine e_cvi cd_209_17 kd_209_83 rfl rfl rfl rfl rfl nl_199 rfl rfl (tie_rs_numberFor d a0 (q1.1 - 97) q5.2 _ h9) ?_
    refine e_const cd_209_20 ci_m1 ?_
    refine k_if hs (fun c10 hs => ?_) (fun c10 hs => ?_)
    · refine e_icJ cd_209_21 rfl c10 ?_
      refine e_aldn cd_209_29 u3 ?_
      refine e_getR cd_209_30 fd_209_32 rfl ?_
      refine e_ildn cd_209_33 u4 ?_
      refine e_bip cd_209_34 cb_97 ?_
      refine e_pure cd_209_36 rfl ?_
      refine k_opt hs (fun _ q => nomatch q) (fun k11 h12 hs => ?_)
      obtain ⟨q13, h14, hs⟩ := k_bind hs
      refine e_cvi cd_209_37 kd_209_90 rfl rfl rfl h12 rfl nl_193 rfl rfl (tie_ru_startAnew d k11 (q1.1 - 97) q8.2 _ h14) ?_
      refine e_aldn cd_209_40 u3 ?_
      refine e_pure cd_209_41 rfl ?_
      refine e_getI cd_209_42 (Or.inl fd_209_53) rfl ?_
      refine e_const cd_209_45 ci_1 ?_
      refine e_pure cd_209_46 rfl ?_
      refine k_let hs (fun M15 e16 hs => ?_)
      refine e_putI cd_209_47 pd_209_53 rfl e16 ?_
      refine e_aldn cd_209_50 u3 ?_
      obtain ⟨q17, h18, hs⟩ := k_bind hs
      refine e_cvi cd_209_51 kd_209_66 rfl rfl rfl rfl rfl nl_203 rfl rfl (tie_rs_sign d a0 M15 _ h18) ?_
      refine e_bip cd_209_54 cb_61 ?_
      refine k_if hs (fun c19 hs => ?_) (fun c19 hs => ?_)
      · refine e_icJ cd_209_56 rfl c19 ?_
        refine e_aldn cd_209_64 u3 ?_
        refine e_pure cd_209_65 rfl ?_
        refine e_getI cd_209_66 (Or.inl fd_209_53) rfl ?_
        refine e_const cd_209_69 ci_1 ?_
        refine e_pure cd_209_70 rfl ?_
        refine k_let hs (fun M20 e21 hs => ?_)
        refine e_putI cd_209_71 pd_209_53 rfl e21 ?_
        refine e_aldn cd_209_74 u3 ?_
        refine e_getR cd_209_75 fd_209_32 rfl ?_
        refine e_aldn cd_209_78 u3 ?_
        refine e_const cd_209_79 ci_0 ?_
        obtain ⟨q22, h23, hs⟩ := k_bind hs
        refine e_cvi cd_209_80 kd_209_93 rfl rfl rfl rfl rfl nl_210 rfl rfl (tie_rs_pattern d a0 0 M20 _ h23) ?_
        refine k_opt hs (fun _ q => nomatch q) (fun k24 h25 hs => ?_)
        refine k_let hs (fun M26 e27 hs => ?_)
        refine e_putR cd_209_83 pd_209_97 h25 e27 ?_
        refine e_aldn cd_209_86 u3 ?_
        refine e_getR cd_209_87 fd_209_32 rfl ?_
        refine k_opt hs (fun _ q => nomatch q) (fun k28 h29 hs => ?_)
        refine e_getR cd_209_90 fd_209_97 h29 ?_
        refine k_opt hs (fun h30 hs => ?_) (fun k31 h30 hs => ?_)
        · refine e_nu0 cd_209_93 rfl h30 ?_
          refine e_const cd_209_100 ci_0 ?_
          exact tie_rs_parseRule_101  d  0 M26 so _  hs
        · refine e_nu1 cd_209_93 rfl h30 ?_
          refine e_const cd_209_96 ci_1 ?_
          refine e_goto cd_209_97 rfl ?_
          exact tie_rs_parseRule_101  d  1 M26 so _  hs
      · refine e_icN cd_209_56 rfl c19 ?_
        refine e_aldn cd_209_59 u3 ?_
        obtain ⟨q32, h33, hs⟩ := k_bind hs
        refine e_cvi cd_209_60 kd_209_87 rfl rfl rfl rfl rfl nl_204 rfl rfl (tie_rs_fails d a0 q17.2 _ h33) ?_
        obtain ⟨c34, hs⟩ := z_ite hs
        have e := Option.some.inj hs
        subst e
        exact e_rz cd_209_63 nr_209 c34
    · refine e_icN cd_209_21 rfl c10 ?_
      exact tie_rs_parseRule_24  d  a0 q8.2 so _ u3 hs
theorem tie_rs_parseRule (d : Nat) (a0 : Nat) (M : zM) (so : Int32 × zM) (hs : rs_parseRule d a0 M = some so) : Ev zq_T d 209 0 (zl_args 0 [.inr (.inr (6, some a0))]) [] M (some (.inl so.1), so.2) := by
  cases d with
  | zero => exact nomatch hs
  | succ d => exact tieb_rs_parseRule d a0 M so hs
theorem tie_rs_parse_97  (d : Nat)  (t0 : Nat) (M : zM) (so : Int32 × zM) (ls : List (Nat × zV)) (g0 : zl_get ls 0 = some (.inr (.inr (6, (some t0))))) (hs : rs_parse_97  d t0 M = some so) : Ev zq_T (d + 1) 202 97 ls [] M (some (.inl so.1), so.2) := by
  unfold rs_parse_97 at hs
  refine e_aldn cd_202_97 g0 ?_
  refine e_getI cd_202_98 (Or.inl fd_202_53) rfl ?_
  have e := Option.some.inj hs
  subst e
  exact e_ri cd_202_101 nr_202
theorem tie_rs_parse_32  (d : Nat)  : ∀ (fuel : Nat) (t0 : Nat) (v3 : Int32) (M : zM) (so : Int32 × zM) (ls : List (Nat × zV)), zl_get ls 0 = some (.inr (.inr (6, (some t0)))) → zl_get ls 3 = some (.inl v3) → rs_parse_32  d fuel t0 v3 M = some so → Ev zq_T (d + 1) 202 32 ls [] M (some (.inl so.1), so.2) := by
  intro fuel
  induction fuel with
  | zero => intro t0 v3 M so ls g0 g3 hs; exact nomatch hs
  | succ fuel ih =>
    intro t0 v3 M so ls g0 g3 hs
    unfold rs_parse_32 at hs
    refine e_ildn cd_202_32 g3 ?_
    refine e_bip cd_202_33 cbb_8 ?_
    refine k_if hs (fun c1 hs => ?_) (fun c1 hs => ?_)
    · refine e_icJ cd_202_35 rfl c1 ?_
      refine e_aldn cd_202_118 g0 ?_
      refine e_getI cd_202_119 (Or.inl fd_202_53) rfl ?_
      have e := Option.some.inj hs
      subst e
      exact e_ri cd_202_122 nr_202
    · refine e_icN cd_202_35 rfl c1 ?_
      refine e_aldn cd_202_38 g0 ?_
      refine e_aldn cd_202_39 g0 ?_
      refine e_getR cd_202_40 fd_202_11 rfl ?_
      refine e_ildn cd_202_43 g3 ?_
      refine k_opt hs (fun _ q => nomatch q) (fun k2 h3 hs => ?_)
      obtain ⟨c4, hs⟩ := z_ite hs
      refine e_aald cd_202_44 rfl h3 c4 ?_
      refine k_let hs (fun M5 e6 hs => ?_)
      refine e_putR cd_202_45 pd_202_32 rfl e6 ?_
      refine e_aldn cd_202_48 g0 ?_
      obtain ⟨q7, h8, hs⟩ := k_bind hs
      refine e_cvi cd_202_49 kd_202_62 rfl rfl rfl rfl rfl nl_209 rfl rfl (tie_rs_parseRule d t0 M5 _ h8) ?_
      refine k_if hs (fun c9 hs => ?_) (fun c9 hs => ?_)
      · refine e_izN cd_202_52 rfl (fun q => q c9) ?_
        refine e_aldn cd_202_55 g0 ?_
        refine e_getI cd_202_56 (Or.inl fd_202_56) rfl ?_
        have e := Option.some.inj hs
        subst e
        exact e_ri cd_202_59 nr_202
      · refine e_izJ cd_202_52 rfl c9 ?_
        refine e_aldn cd_202_60 g0 ?_
        refine e_ildn cd_202_61 g3 ?_
        refine e_const cd_202_62 ci_1 ?_
        refine e_pure cd_202_63 rfl ?_
        refine k_let hs (fun M10 e11 hs => ?_)
        refine e_putI cd_202_64 pd_202_18 rfl e11 ?_
        refine e_aldn cd_202_67 g0 ?_
        obtain ⟨q12, h13, hs⟩ := k_bind hs
        refine e_cvi cd_202_68 kd_202_66 rfl rfl rfl rfl rfl nl_203 rfl rfl (tie_rs_sign d t0 M10 _ h13) ?_
        refine e_iK cd_202_71 nl_202 rfl rfl ?_
        intro _ gn kp
        have u14 := kp 0 _ g0 rfl rfl
        have u15 := kp 3 _ g3 rfl rfl
        have u16 := gn
        refine e_ild cd_202_73 u16 ?_
        refine e_const cd_202_75 ci_m1 ?_
        refine k_if hs (fun c17 hs => ?_) (fun c17 hs => ?_)
        · refine e_icN cd_202_76 rfl (fun q => q c17) ?_
          refine e_const cd_202_79 ci_m1 ?_
          have e := Option.some.inj hs
          subst e
          exact e_ri cd_202_80 nr_202
        · refine e_icJ cd_202_76 rfl c17 ?_
          refine e_ild cd_202_81 u16 ?_
          refine e_bip cd_202_83 cb_59 ?_
          refine k_if hs (fun c18 hs => ?_) (fun c18 hs => ?_)
          · refine e_icN cd_202_85 rfl (fun q => q c18) ?_
            refine e_aldn cd_202_88 u14 ?_
            refine e_getI cd_202_89 (Or.inl fd_202_18) rfl ?_
            refine e_bip cd_202_92 cbb_8 ?_
            refine k_if hs (fun c19 hs => ?_) (fun c19 hs => ?_)
            · refine e_icN cd_202_94 rfl (fun q => q c19) ?_
              exact tie_rs_parse_97  d  t0 q12.2 so _ u14 hs
            · refine e_icJ cd_202_94 rfl c19 ?_
              refine e_aldn cd_202_102 u14 ?_
              refine e_pure cd_202_103 rfl ?_
              refine e_getI cd_202_104 (Or.inl fd_202_53) rfl ?_
              refine e_const cd_202_107 ci_1 ?_
              refine e_pure cd_202_108 rfl ?_
              refine k_let hs (fun M20 e21 hs => ?_)
              refine e_putI cd_202_109 pd_202_53 rfl e21 ?_
              refine k_let hs (fun x22 e23 hs => ?_)
              refine e_incK cd_202_112 nl_202 rfl u15 ci_1 e23 ?_
              intro _ gn kp
              have u24 := kp 0 _ u14 rfl rfl
              have u25 := gn
              refine e_goto cd_202_115 rfl ?_
              exact ih t0 x22 M20 so _ u24 u25 hs
          · refine e_icJ cd_202_85 rfl c18 ?_
            exact tie_rs_parse_97  d  t0 q12.2 so _ u14 hs
theorem tieb_rs_parse  (d : Nat)  (a0 : Nat) (a1 : Option Nat) (a2 : Int32) (M : zM) (so : Int32 × zM) (hs : rs_parse_b  d a0 a1 a2 M = some so) : Ev zq_T (d + 1) 202 0 (zl_args 0 [.inr (.inr (6, some a0)), .inr (.inr (20, a1)), .inl a2]) [] M (some (.inl so.1), so.2) := by
  unfold rs_parse_b at hs
  have g0 : zl_get (zl_args 0 [.inr (.inr (6, some a0)), .inr (.inr (20, a1)), .inl a2]) 0 = some (.inr (.inr (6, (some a0)))) := rfl
  have g1 : zl_get (zl_args 0 [.inr (.inr (6, some a0)), .inr (.inr (20, a1)), .inl a2]) 1 = some (.inr (.inr (20, a1))) := rfl
  have g2 : zl_get (zl_args 0 [.inr (.inr (6, some a0)), .inr (.inr (20, a1)), .inl a2]) 2 = some (.inl a2) := rfl
  refine e_aldn cd_202_0 g0 ?_
  refine e_aldn cd_202_1 g1 ?_
  refine k_let hs (fun M1 e2 hs => ?_)
  refine e_putR cd_202_2 pd_202_28 rfl e2 ?_
  refine e_aldn cd_202_5 g0 ?_
  refine e_ildn cd_202_6 g2 ?_
  refine k_let hs (fun M3 e4 hs => ?_)
  refine e_putI cd_202_7 pd_202_50 rfl e4 ?_
  refine e_aldn cd_202_10 g0 ?_
  refine e_const cd_202_11 ci_0 ?_
  refine k_let hs (fun M5 e6 hs => ?_)
  refine e_putI cd_202_12 pd_202_53 rfl e6 ?_
  refine e_aldn cd_202_15 g0 ?_
  refine e_const cd_202_16 ci_m1 ?_
  refine k_let hs (fun M7 e8 hs => ?_)
  refine e_putI cd_202_17 pd_202_56 rfl e8 ?_
  refine e_aldn cd_202_20 g0 ?_
  refine e_const cd_202_21 ci_0 ?_
  refine k_let hs (fun M9 e10 hs => ?_)
  refine e_putI cd_202_22 pd_202_59 rfl e10 ?_
  refine e_aldn cd_202_25 g0 ?_
  refine e_const cd_202_26 ci_0 ?_
  refine k_let hs (fun M11 e12 hs => ?_)
  refine e_putI cd_202_27 pd_202_18 rfl e12 ?_
  refine e_const cd_202_30 ci_0 ?_
  refine e_iKn cd_202_31 nl_202 rfl rfl ?_
  intro _ gn kp
  have u13 := kp 0 _ g0 rfl rfl
  have u14 := gn
  exact tie_rs_parse_32  d  zLF a0 0 M11 so _ u13 u14 hs
theorem tie_rs_parse (d : Nat) (a0 : Nat) (a1 : Option Nat) (a2 : Int32) (M : zM) (so : Int32 × zM) (hs : rs_parse d a0 a1 a2 M = some so) : Ev zq_T d 202 0 (zl_args 0 [.inr (.inr (6, some a0)), .inr (.inr (20, a1)), .inl a2]) [] M (some (.inl so.1), so.2) := by
  cases d with
  | zero => exact nomatch hs
  | succ d => exact tieb_rs_parse d a0 a1 a2 M so hs
theorem tieb_sp_init  (d : Nat)  (a0 : Nat) (M : zM) (so : zM) (hs : sp_init_b  d a0 M = some so) : Ev zq_T (d + 1) 222 0 (zl_args 0 [.inr (.inr (7, some a0))]) [] M (none, so) := by
  unfold sp_init_b at hs
  have g0 : zl_get (zl_args 0 [.inr (.inr (7, some a0))]) 0 = some (.inr (.inr (7, (some a0)))) := rfl
  refine e_aldn cd_222_0 g0 ?_
  refine e_obj cd_222_1 kd_222_3 rfl rfl ?_
  refine e_aldn cd_222_4 g0 ?_
  refine e_sip cd_222_5 cs_9216 ?_
  refine k_let hs (fun M2 e3 hs => ?_)
  refine e_newa_int cd_222_8 rfl (by decide) e3 ?_
  refine k_let hs (fun M4 e5 hs => ?_)
  refine e_putR cd_222_10 pd_222_11 rfl e5 ?_
  refine e_aldn cd_222_13 g0 ?_
  refine e_sip cd_222_14 cs_2304 ?_
  refine k_let hs (fun M7 e8 hs => ?_)
  refine e_newa_int cd_222_17 rfl (by decide) e8 ?_
  refine k_let hs (fun M9 e10 hs => ?_)
  refine e_putR cd_222_19 pd_222_15 rfl e10 ?_
  refine e_aldn cd_222_22 g0 ?_
  refine e_bip cd_222_23 cb_40 ?_
  refine k_let hs (fun M12 e13 hs => ?_)
  refine e_anew cd_222_25 ad_222_18 (by decide) e13 ?_
  refine k_let hs (fun M14 e15 hs => ?_)
  refine e_putR cd_222_28 pd_222_20 rfl e15 ?_
  refine e_aldn cd_222_31 g0 ?_
  refine k_let hs (fun M16 e17 hs => ?_)
  refine e_new cd_222_32 nd_222_24 e17 ?_
  refine e_pure cd_222_35 rfl ?_
  obtain ⟨q18, h19, hs⟩ := k_bind hs
  refine e_csn cd_222_36 kd_222_26 rfl rfl rfl rfl rfl nl_192 rfl rfl (tie_ru_init d (zm_n M14) M16 _ h19) ?_
  refine k_let hs (fun M20 e21 hs => ?_)
  refine e_putR cd_222_39 pd_222_27 rfl e21 ?_
  have e := Option.some.inj hs
  subst e
  exact e_rv cd_222_42 nr_222
theorem tie_sp_init (d : Nat) (a0 : Nat) (M : zM) (so : zM) (hs : sp_init d a0 M = some so) : Ev zq_T d 222 0 (zl_args 0 [.inr (.inr (7, some a0))]) [] M (none, so) := by
  cases d with
  | zero => exact nomatch hs
  | succ d => exact tieb_sp_init d a0 M so hs
theorem tie_sp_write_30  (d : Nat)   (M : zM) (so : zM) (ls : List (Nat × zV))  (hs : sp_write_30  d  M = some so) : Ev zq_T d 230 30 ls [] M (none, so) := by
  unfold sp_write_30 at hs
  have e := Option.some.inj hs
  subst e
  exact e_rv cd_230_30 nr_230
theorem tie_sp_write (d : Nat) (a0 : Nat) (a1 : Int32) (M : zM) (so : zM) (hs : sp_write d a0 a1 M = some so) : Ev zq_T d 230 0 (zl_args 0 [.inr (.inr (7, some a0)), .inl a1]) [] M (none, so) := by
  unfold sp_write at hs
  have g0 : zl_get (zl_args 0 [.inr (.inr (7, some a0)), .inl a1]) 0 = some (.inr (.inr (7, (some a0)))) := rfl
  have g1 : zl_get (zl_args 0 [.inr (.inr (7, some a0)), .inl a1]) 1 = some (.inl a1) := rfl
  refine e_aldn cd_230_0 g0 ?_
  refine e_getI cd_230_1 (Or.inl fd_230_31) rfl ?_
  refine e_sip cd_230_4 cs_9216 ?_
  refine k_if hs (fun c1 hs => ?_) (fun c1 hs => ?_)
  · refine e_icJ cd_230_7 rfl c1 ?_
    exact tie_sp_write_30  d   M so _  hs
  · refine e_icN cd_230_7 rfl c1 ?_
    refine e_aldn cd_230_10 g0 ?_
    refine e_getR cd_230_11 fd_230_11 rfl ?_
    refine e_aldn cd_230_14 g0 ?_
    refine e_getI cd_230_15 (Or.inl fd_230_31) rfl ?_
    refine e_ildn cd_230_18 g1 ?_
    refine k_opt hs (fun _ q => nomatch q) (fun k2 h3 hs => ?_)
    obtain ⟨c4, hs⟩ := z_ite hs
    refine k_let hs (fun M5 e6 hs => ?_)
    refine e_iast cd_230_19 rfl h3 c4 e6 ?_
    refine e_aldn cd_230_20 g0 ?_
    refine e_pure cd_230_21 rfl ?_
    refine e_getI cd_230_22 (Or.inl fd_230_31) rfl ?_
    refine e_const cd_230_25 ci_1 ?_
    refine e_pure cd_230_26 rfl ?_
    refine k_let hs (fun M7 e8 hs => ?_)
    refine e_putI cd_230_27 pd_230_31 rfl e8 ?_
    exact tie_sp_write_30  d   M7 so _  hs
theorem tie_sp_keepFirst_84  (d : Nat)  (t0 : Nat) (v2 : Int32) (M : zM) (so : zM) (ls : List (Nat × zV)) (g0 : zl_get ls 0 = some (.inr (.inr (7, (some t0))))) (g2 : zl_get ls 2 = some (.inl v2)) (hs : sp_keepFirst_84  d t0 v2 M = some so) : Ev zq_T d 235 84 ls [] M (none, so) := by
  unfold sp_keepFirst_84 at hs
  refine e_aldn cd_235_84 g0 ?_
  refine e_ildn cd_235_85 g2 ?_
  refine k_let hs (fun M1 e2 hs => ?_)
  refine e_putI cd_235_86 pd_235_31 rfl e2 ?_
  have e := Option.some.inj hs
  subst e
  exact e_rv cd_235_89 nr_235
theorem tie_sp_keepFirst_43  (d : Nat)  (t0 : Nat) (v1 : Int32) (v2 : Int32) (v3 : Int32) (v4 : Int32) (M : zM) (so : zM) (ls : List (Nat × zV)) (g0 : zl_get ls 0 = some (.inr (.inr (7, (some t0))))) (g1 : zl_get ls 1 = some (.inl v1)) (g2 : zl_get ls 2 = some (.inl v2)) (g3 : zl_get ls 3 = some (.inl v3)) (g4 : zl_get ls 4 = some (.inl v4)) (hs : sp_keepFirst_43  d t0 v1 v2 v3 v4 M = some so) : Ev zq_T d 235 43 ls [] M (none, so) := by
  unfold sp_keepFirst_43 at hs
  refine e_ild cd_235_43 g4 ?_
  refine e_ildn cd_235_45 g3 ?_
  refine k_if hs (fun c1 hs => ?_) (fun c1 hs => ?_)
  · refine e_icJ cd_235_46 rfl c1 ?_
    exact tie_sp_keepFirst_84  d  t0 v2 M so _ g0 g2 hs
  · refine e_icN cd_235_46 rfl c1 ?_
    refine e_aldn cd_235_49 g0 ?_
    refine e_getR cd_235_50 fd_235_11 rfl ?_
    refine e_ildn cd_235_53 g2 ?_
    refine e_ild cd_235_54 g4 ?_
    refine e_pure cd_235_56 rfl ?_
    refine k_opt hs (fun _ q => nomatch q) (fun k2 h3 hs => ?_)
    obtain ⟨c4, hs⟩ := z_ite hs
    refine e_iald cd_235_57 rfl h3 c4 ?_
    refine e_aldn cd_235_58 g0 ?_
    refine e_getR cd_235_59 fd_235_11 rfl ?_
    refine e_ildn cd_235_62 g1 ?_
    refine e_ild cd_235_63 g4 ?_
    refine e_pure cd_235_65 rfl ?_
    refine k_opt hs (fun _ q => nomatch q) (fun k5 h6 hs => ?_)
    obtain ⟨c7, hs⟩ := z_ite hs
    refine e_iald cd_235_66 rfl h6 c7 ?_
    refine k_if hs (fun c8 hs => ?_) (fun c8 hs => ?_)
    · refine e_icJ cd_235_67 rfl c8 ?_
      exact tie_sp_keepFirst_84  d  t0 v2 M so _ g0 g2 hs
    · refine e_icN cd_235_67 rfl c8 ?_
      refine e_aldn cd_235_70 g0 ?_
      refine e_getR cd_235_71 fd_235_11 rfl ?_
      refine e_ildn cd_235_74 g2 ?_
      refine e_aldn cd_235_75 g0 ?_
      refine e_getR cd_235_76 fd_235_11 rfl ?_
      refine e_ildn cd_235_79 g1 ?_
      refine e_ildn cd_235_80 g3 ?_
      refine k_opt hs (fun _ q => nomatch q) (fun k9 h10 hs => ?_)
      obtain ⟨c11, hs⟩ := z_ite hs
      refine k_let hs (fun M12 e13 hs => ?_)
      refine e_copy cd_235_81 kd_235_117 h10 h10 rfl c11 e13 ?_
      exact tie_sp_keepFirst_84  d  t0 v2 M12 so _ g0 g2 hs
theorem tie_sp_keepFirst_10  (d : Nat)  : ∀ (fuel : Nat) (t0 : Nat) (v1 : Int32) (v2 : Int32) (v3 : Int32) (v4 : Int32) (M : zM) (so : zM) (ls : List (Nat × zV)), zl_get ls 0 = some (.inr (.inr (7, (some t0)))) → zl_get ls 1 = some (.inl v1) → zl_get ls 2 = some (.inl v2) → zl_get ls 3 = some (.inl v3) → zl_get ls 4 = some (.inl v4) → sp_keepFirst_10  d fuel t0 v1 v2 v3 v4 M = some so → Ev zq_T d 235 10 ls [] M (none, so) := by
  intro fuel
  induction fuel with
  | zero => intro t0 v1 v2 v3 v4 M so ls g0 g1 g2 g3 g4 hs; exact nomatch hs
  | succ fuel ih =>
    intro t0 v1 v2 v3 v4 M so ls g0 g1 g2 g3 g4 hs
    unfold sp_keepFirst_10 at hs
    refine e_ild cd_235_10 g4 ?_
    refine e_ildn cd_235_12 g3 ?_
    refine k_if hs (fun c1 hs => ?_) (fun c1 hs => ?_)
    · refine e_icJ cd_235_13 rfl c1 ?_
      exact tie_sp_keepFirst_43  d  t0 v1 v2 v3 v4 M so _ g0 g1 g2 g3 g4 hs
    · refine e_icN cd_235_13 rfl c1 ?_
      refine e_aldn cd_235_16 g0 ?_
      refine e_getR cd_235_17 fd_235_11 rfl ?_
      refine e_ildn cd_235_20 g1 ?_
      refine e_ild cd_235_21 g4 ?_
      refine e_pure cd_235_23 rfl ?_
      refine k_opt hs (fun _ q => nomatch q) (fun k2 h3 hs => ?_)
      obtain ⟨c4, hs⟩ := z_ite hs
      refine e_iald cd_235_24 rfl h3 c4 ?_
      refine e_aldn cd_235_25 g0 ?_
      refine e_getR cd_235_26 fd_235_11 rfl ?_
      refine e_ildn cd_235_29 g2 ?_
      refine e_ild cd_235_30 g4 ?_
      refine e_pure cd_235_32 rfl ?_
      refine k_opt hs (fun _ q => nomatch q) (fun k5 h6 hs => ?_)
      obtain ⟨c7, hs⟩ := z_ite hs
      refine e_iald cd_235_33 rfl h6 c7 ?_
      refine k_if hs (fun c8 hs => ?_) (fun c8 hs => ?_)
      · refine e_icN cd_235_34 rfl (fun q => q c8) ?_
        refine k_let hs (fun x9 e10 hs => ?_)
        refine e_incK cd_235_37 nl_235 rfl g4 ci_1 e10 ?_
        intro _ gn kp
        have u11 := kp 0 _ g0 rfl rfl
        have u12 := kp 1 _ g1 rfl rfl
        have u13 := kp 2 _ g2 rfl rfl
        have u14 := kp 3 _ g3 rfl rfl
        have u15 := gn
        refine e_goto cd_235_40 rfl ?_
        exact ih t0 v1 v2 v3 x9 M so _ u11 u12 u13 u14 u15 hs
      · refine e_icJ cd_235_34 rfl c8 ?_
        exact tie_sp_keepFirst_43  d  t0 v1 v2 v3 v4 M so _ g0 g1 g2 g3 g4 hs
theorem tie_sp_keepFirst (d : Nat) (a0 : Nat) (a1 : Int32) (a2 : Int32) (M : zM) (so : zM) (hs : sp_keepFirst d a0 a1 a2 M = some so) : Ev zq_T d 235 0 (zl_args 0 [.inr (.inr (7, some a0)), .inl a1, .inl a2]) [] M (none, so) := by
  unfold sp_keepFirst at hs
  have g0 : zl_get (zl_args 0 [.inr (.inr (7, some a0)), .inl a1, .inl a2]) 0 = some (.inr (.inr (7, (some a0)))) := rfl
  have g1 : zl_get (zl_args 0 [.inr (.inr (7, some a0)), .inl a1, .inl a2]) 1 = some (.inl a1) := rfl
  have g2 : zl_get (zl_args 0 [.inr (.inr (7, some a0)), .inl a1, .inl a2]) 2 = some (.inl a2) := rfl
  refine e_aldn cd_235_0 g0 ?_
  refine e_getI cd_235_1 (Or.inl fd_235_31) rfl ?_
  refine e_ildn cd_235_4 g2 ?_
  refine e_pure cd_235_5 rfl ?_
  refine k_let hs (fun x1 e2 hs => ?_)
  refine e_iKn cd_235_6 nl_235 rfl e2 ?_
  intro _ gn kp
  have u3 := kp 0 _ g0 rfl rfl
  have u4 := kp 1 _ g1 rfl rfl
  have u5 := kp 2 _ g2 rfl rfl
  have u6 := gn
  refine e_const cd_235_7 ci_0 ?_
  refine e_iK cd_235_8 nl_235 rfl rfl ?_
  intro _ gn kp
  have u7 := kp 0 _ u3 rfl rfl
  have u8 := kp 1 _ u4 rfl rfl
  have u9 := kp 2 _ u5 rfl rfl
  have u10 := kp 3 _ u6 rfl rfl
  have u11 := gn
  exact tie_sp_keepFirst_10  d  zLF a0 a1 a2 x1 0 M so _ u7 u8 u9 u10 u11 hs
theorem tie_sp_withLength (d : Nat) (a0 : Int64) (a1 : Int32) (a2 : Int32) (M : zM) (so : Int64 × zM) (hs : sp_withLength d a0 a1 a2 M = some so) : Ev zq_T d 238 0 (zl_args 0 [.inr (.inl a0), .inl a1, .inl a2]) [] M (some (.inr (.inl so.1)), so.2) := by
  unfold sp_withLength at hs
  have g0 : zl_get (zl_args 0 [.inr (.inl a0), .inl a1, .inl a2]) 0 = some (.inr (.inl a0)) := rfl
  have g2 : zl_get (zl_args 0 [.inr (.inl a0), .inl a1, .inl a2]) 2 = some (.inl a1) := rfl
  have g3 : zl_get (zl_args 0 [.inr (.inl a0), .inl a1, .inl a2]) 3 = some (.inl a2) := rfl
  refine e_lldn cd_238_0 g0 ?_
  refine e_ld2 cd_238_1 od_238_127 ?_
  refine e_bip cd_238_4 cb_16 ?_
  refine e_ildn cd_238_6 g2 ?_
  refine e_pure cd_238_7 rfl ?_
  refine e_pure cd_238_8 rfl ?_
  refine e_ld2 cd_238_9 od_238_140 ?_
  refine e_pure cd_238_12 rfl ?_
  refine e_pure cd_238_13 rfl ?_
  refine k_let hs (fun x1 e2 hs => ?_)
  refine e_lK cd_238_14 nl_238 rfl e2 ?_
  intro _ gn kp
  have u3 := kp 2 _ g2 rfl rfl
  have u4 := kp 3 _ g3 rfl rfl
  have u5 := gn
  refine e_lld cd_238_16 u5 ?_
  refine e_ildn cd_238_18 u4 ?_
  refine e_pure cd_238_19 rfl ?_
  refine e_bip cd_238_20 cb_16 ?_
  refine e_ildn cd_238_22 u3 ?_
  refine e_pure cd_238_23 rfl ?_
  refine e_pure cd_238_24 rfl ?_
  refine e_pure cd_238_25 rfl ?_
  have e := Option.some.inj hs
  subst e
  exact e_rl cd_238_26 nr_238
theorem tie_sp_isBetterSwapped_69  (d : Nat)  (s0 : Int32) (M : zM) (so : Int32 × zM) (ls : List (Nat × zV))  (hs : sp_isBetterSwapped_69  d s0 M = some so) : Ev zq_T d 239 69 ls [.inl s0] M (some (.inl so.1), so.2) := by
  unfold sp_isBetterSwapped_69 at hs
  obtain ⟨c1, hs⟩ := z_ite hs
  have e := Option.some.inj hs
  subst e
  exact e_rz cd_239_69 nr_239 c1
theorem tie_sp_isBetterSwapped_47 (kl3 : Nat → Int32 → Int32 → Int32 → Int32 → zM → Option (Int32 × zM)) (d : Nat) (hk3 : ∀ (t0 : Nat) (v1 : Int32) (v2 : Int32) (v3 : Int32) (v4 : Int32) (M : zM) (so : Int32 × zM) (ls : List (Nat × zV)), zl_get ls 0 = some (.inr (.inr (7, (some t0)))) → zl_get ls 1 = some (.inl v1) → zl_get ls 2 = some (.inl v2) → zl_get ls 3 = some (.inl v3) → zl_get ls 4 = some (.inl v4) → kl3 t0 v1 v2 v3 v4 M = some so → Ev zq_T d 239 3 ls [] M (some (.inl so.1), so.2)) (t0 : Nat) (v1 : Int32) (v2 : Int32) (v3 : Int32) (v4 : Int32) (v5 : Int32) (s0 : Option Nat) (s1 : Int32) (M : zM) (so : Int32 × zM) (ls : List (Nat × zV)) (g0 : zl_get ls 0 = some (.inr (.inr (7, (some t0))))) (g1 : zl_get ls 1 = some (.inl v1)) (g2 : zl_get ls 2 = some (.inl v2)) (g3 : zl_get ls 3 = some (.inl v3)) (g4 : zl_get ls 4 = some (.inl v4)) (g5 : zl_get ls 5 = some (.inl v5)) (hs : sp_isBetterSwapped_47 kl3 d t0 v1 v2 v3 v4 v5 s0 s1 M = some so) : Ev zq_T d 239 47 ls [.inl s1, .inr (.inr (20, s0))] M (some (.inl so.1), so.2) := by
  unfold sp_isBetterSwapped_47 at hs
  refine k_opt hs (fun _ q => nomatch q) (fun k1 h2 hs => ?_)
  obtain ⟨c3, hs⟩ := z_ite hs
  refine e_iald cd_239_47 rfl h2 c3 ?_
  refine k_let hs (fun x4 e5 hs => ?_)
  refine e_iK cd_239_48 nl_239 rfl e5 ?_
  intro _ gn kp
  have u6 := kp 0 _ g0 rfl rfl
  have u7 := kp 1 _ g1 rfl rfl
  have u8 := kp 2 _ g2 rfl rfl
  have u9 := kp 3 _ g3 rfl rfl
  have u10 := kp 4 _ g4 rfl rfl
  have u11 := kp 5 _ g5 rfl rfl
  have u12 := gn
  refine e_ild cd_239_50 u11 ?_
  refine e_ild cd_239_52 u12 ?_
  refine k_if hs (fun c13 hs => ?_) (fun c13 hs => ?_)
  · refine e_icJ cd_239_54 rfl c13 ?_
    refine k_let hs (fun x14 e15 hs => ?_)
    refine e_incK cd_239_70 nl_239 rfl u10 ci_1 e15 ?_
    intro _ gn kp
    have u16 := kp 0 _ u6 rfl rfl
    have u17 := kp 1 _ u7 rfl rfl
    have u18 := kp 2 _ u8 rfl rfl
    have u19 := kp 3 _ u9 rfl rfl
    have u20 := gn
    refine e_goto cd_239_73 rfl ?_
    exact hk3 t0 v1 v2 v3 x14 M so _ u16 u17 u18 u19 u20 hs
  · refine e_icN cd_239_54 rfl c13 ?_
    refine e_ild cd_239_57 u12 ?_
    refine e_ild cd_239_59 u11 ?_
    refine k_if hs (fun c21 hs => ?_) (fun c21 hs => ?_)
    · refine e_icJ cd_239_61 rfl c21 ?_
      refine e_const cd_239_68 ci_0 ?_
      exact tie_sp_isBetterSwapped_69  d  0 M so _  hs
    · refine e_icN cd_239_61 rfl c21 ?_
      refine e_const cd_239_64 ci_1 ?_
      refine e_goto cd_239_65 rfl ?_
      exact tie_sp_isBetterSwapped_69  d  1 M so _  hs
theorem tie_sp_isBetterSwapped_3  (d : Nat)  : ∀ (fuel : Nat) (t0 : Nat) (v1 : Int32) (v2 : Int32) (v3 : Int32) (v4 : Int32) (M : zM) (so : Int32 × zM) (ls : List (Nat × zV)), zl_get ls 0 = some (.inr (.inr (7, (some t0)))) → zl_get ls 1 = some (.inl v1) → zl_get ls 2 = some (.inl v2) → zl_get ls 3 = some (.inl v3) → zl_get ls 4 = some (.inl v4) → sp_isBetterSwapped_3  d fuel t0 v1 v2 v3 v4 M = some so → Ev zq_T d 239 3 ls [] M (some (.inl so.1), so.2) := by
  intro fuel
  induction fuel with
  | zero => intro t0 v1 v2 v3 v4 M so ls g0 g1 g2 g3 g4 hs; exact nomatch hs
  | succ fuel ih =>
    intro t0 v1 v2 v3 v4 M so ls g0 g1 g2 g3 g4 hs
    unfold sp_isBetterSwapped_3 at hs
    refine e_ild cd_239_3 g4 ?_
    refine e_ildn cd_239_5 g2 ?_
    refine e_ildn cd_239_6 g3 ?_
    refine e_pure cd_239_7 rfl ?_
    refine k_if hs (fun c1 hs => ?_) (fun c1 hs => ?_)
    · refine e_icJ cd_239_8 rfl c1 ?_
      refine e_const cd_239_76 ci_0 ?_
      have e := Option.some.inj hs
      subst e
      exact e_rz cd_239_77 nr_239 (Or.inl rfl)
    · refine e_icN cd_239_8 rfl c1 ?_
      refine e_aldn cd_239_11 g0 ?_
      refine e_getR cd_239_12 fd_239_11 rfl ?_
      refine e_ildn cd_239_15 g1 ?_
      refine e_ild cd_239_16 g4 ?_
      refine e_pure cd_239_18 rfl ?_
      refine k_opt hs (fun _ q => nomatch q) (fun k2 h3 hs => ?_)
      obtain ⟨c4, hs⟩ := z_ite hs
      refine e_iald cd_239_19 rfl h3 c4 ?_
      refine k_let hs (fun x5 e6 hs => ?_)
      refine e_iK cd_239_20 nl_239 rfl e6 ?_
      intro _ gn kp
      have u7 := kp 0 _ g0 rfl rfl
      have u8 := kp 1 _ g1 rfl rfl
      have u9 := kp 2 _ g2 rfl rfl
      have u10 := kp 3 _ g3 rfl rfl
      have u11 := kp 4 _ g4 rfl rfl
      have u12 := gn
      refine e_aldn cd_239_22 u7 ?_
      refine e_getR cd_239_23 fd_239_11 rfl ?_
      refine e_ild cd_239_26 u11 ?_
      refine e_ildn cd_239_28 u10 ?_
      refine k_if hs (fun c13 hs => ?_) (fun c13 hs => ?_)
      · refine e_icJ cd_239_29 rfl c13 ?_
        refine e_ildn cd_239_41 u8 ?_
        refine e_ild cd_239_42 u11 ?_
        refine e_pure cd_239_44 rfl ?_
        refine e_ildn cd_239_45 u10 ?_
        refine e_pure cd_239_46 rfl ?_
        exact tie_sp_isBetterSwapped_47 (fun p0 p1 p2 p3 p4 m => sp_isBetterSwapped_3  d fuel p0 p1 p2 p3 p4 m) d ih t0 v1 v2 v3 v4 x5 (zm_R M 7 t0 0) ((v1 + v4) - v3) M so _ u7 u8 u9 u10 u11 u12 hs
      · refine e_icN cd_239_29 rfl c13 ?_
        refine e_ildn cd_239_32 u8 ?_
        refine e_ildn cd_239_33 u9 ?_
        refine e_pure cd_239_34 rfl ?_
        refine e_ild cd_239_35 u11 ?_
        refine e_pure cd_239_37 rfl ?_
        refine e_goto cd_239_38 rfl ?_
        exact tie_sp_isBetterSwapped_47 (fun p0 p1 p2 p3 p4 m => sp_isBetterSwapped_3  d fuel p0 p1 p2 p3 p4 m) d ih t0 v1 v2 v3 v4 x5 (zm_R M 7 t0 0) ((v1 + v2) + v4) M so _ u7 u8 u9 u10 u11 u12 hs
theorem tie_sp_isBetterSwapped (d : Nat) (a0 : Nat) (a1 : Int32) (a2 : Int32) (a3 : Int32) (M : zM) (so : Int32 × zM) (hs : sp_isBetterSwapped d a0 a1 a2 a3 M = some so) : Ev zq_T d 239 0 (zl_args 0 [.inr (.inr (7, some a0)), .inl a1, .inl a2, .inl a3]) [] M (some (.inl so.1), so.2) := by
  unfold sp_isBetterSwapped at hs
  have g0 : zl_get (zl_args 0 [.inr (.inr (7, some a0)), .inl a1, .inl a2, .inl a3]) 0 = some (.inr (.inr (7, (some a0)))) := rfl
  have g1 : zl_get (zl_args 0 [.inr (.inr (7, some a0)), .inl a1, .inl a2, .inl a3]) 1 = some (.inl a1) := rfl
  have g2 : zl_get (zl_args 0 [.inr (.inr (7, some a0)), .inl a1, .inl a2, .inl a3]) 2 = some (.inl a2) := rfl
  have g3 : zl_get (zl_args 0 [.inr (.inr (7, some a0)), .inl a1, .inl a2, .inl a3]) 3 = some (.inl a3) := rfl
  refine e_const cd_239_0 ci_0 ?_
  refine e_iK cd_239_1 nl_239 rfl rfl ?_
  intro _ gn kp
  have u1 := kp 0 _ g0 rfl rfl
  have u2 := kp 1 _ g1 rfl rfl
  have u3 := kp 2 _ g2 rfl rfl
  have u4 := kp 3 _ g3 rfl rfl
  have u5 := gn
  exact tie_sp_isBetterSwapped_3  d  zLF a0 a1 a2 a3 0 M so _ u1 u2 u3 u4 u5 hs
theorem tie_sp_turn_7  (d : Nat)  : ∀ (fuel : Nat) (t0 : Nat) (v3 : Int32) (v4 : Int32) (M : zM) (so : zM) (ls : List (Nat × zV)), zl_get ls 0 = some (.inr (.inr (7, (some t0)))) → zl_get ls 3 = some (.inl v3) → zl_get ls 4 = some (.inl v4) → sp_turn_7  d fuel t0 v3 v4 M = some so → Ev zq_T d 240 7 ls [] M (none, so) := by
  intro fuel
  induction fuel with
  | zero => intro t0 v3 v4 M so ls g0 g3 g4 hs; exact nomatch hs
  | succ fuel ih =>
    intro t0 v3 v4 M so ls g0 g3 g4 hs
    unfold sp_turn_7 at hs
    refine e_ildn cd_240_7 g3 ?_
    refine e_ild cd_240_8 g4 ?_
    refine k_if hs (fun c1 hs => ?_) (fun c1 hs => ?_)
    · refine e_icJ cd_240_10 rfl c1 ?_
      have e := Option.some.inj hs
      subst e
      exact e_rv cd_240_52 nr_240
    · refine e_icN cd_240_10 rfl c1 ?_
      refine e_aldn cd_240_13 g0 ?_
      refine e_getR cd_240_14 fd_240_11 rfl ?_
      refine e_ildn cd_240_17 g3 ?_
      refine k_opt hs (fun _ q => nomatch q) (fun k2 h3 hs => ?_)
      obtain ⟨c4, hs⟩ := z_ite hs
      refine e_iald cd_240_18 rfl h3 c4 ?_
      refine k_let hs (fun x5 e6 hs => ?_)
      refine e_iK cd_240_19 nl_240 rfl e6 ?_
      intro _ gn kp
      have u7 := kp 0 _ g0 rfl rfl
      have u8 := kp 3 _ g3 rfl rfl
      have u9 := kp 4 _ g4 rfl rfl
      have u10 := gn
      refine e_aldn cd_240_21 u7 ?_
      refine e_getR cd_240_22 fd_240_11 rfl ?_
      refine e_ildn cd_240_25 u8 ?_
      refine e_aldn cd_240_26 u7 ?_
      refine e_getR cd_240_27 fd_240_11 rfl ?_
      refine e_ild cd_240_30 u9 ?_
      refine k_opt hs (fun _ q => nomatch q) (fun k11 h12 hs => ?_)
      obtain ⟨c13, hs⟩ := z_ite hs
      refine e_iald cd_240_32 rfl h12 c13 ?_
      obtain ⟨c14, hs⟩ := z_ite hs
      refine k_let hs (fun M15 e16 hs => ?_)
      refine e_iast cd_240_33 rfl h12 c14 e16 ?_
      refine e_aldn cd_240_34 u7 ?_
      refine e_getR cd_240_35 fd_240_11 rfl ?_
      refine e_ild cd_240_38 u9 ?_
      refine e_ild cd_240_40 u10 ?_
      refine k_opt hs (fun _ q => nomatch q) (fun k17 h18 hs => ?_)
      obtain ⟨c19, hs⟩ := z_ite hs
      refine k_let hs (fun M20 e21 hs => ?_)
      refine e_iast cd_240_42 rfl h18 c19 e21 ?_
      refine k_let hs (fun x22 e23 hs => ?_)
      refine e_incK cd_240_43 nl_240 rfl u8 ci_1 e23 ?_
      intro _ gn kp
      have u24 := kp 0 _ u7 rfl rfl
      have u25 := kp 4 _ u9 rfl rfl
      have u26 := gn
      refine k_let hs (fun x27 e28 hs => ?_)
      refine e_incK cd_240_46 nl_240 rfl u25 ci_m1 e28 ?_
      intro _ gn kp
      have u29 := kp 0 _ u24 rfl rfl
      have u30 := kp 3 _ u26 rfl rfl
      have u31 := gn
      refine e_goto cd_240_49 rfl ?_
      exact ih t0 x22 x27 M20 so _ u29 u30 u31 hs
theorem tie_sp_turn (d : Nat) (a0 : Nat) (a1 : Int32) (a2 : Int32) (M : zM) (so : zM) (hs : sp_turn d a0 a1 a2 M = some so) : Ev zq_T d 240 0 (zl_args 0 [.inr (.inr (7, some a0)), .inl a1, .inl a2]) [] M (none, so) := by
  unfold sp_turn at hs
  have g0 : zl_get (zl_args 0 [.inr (.inr (7, some a0)), .inl a1, .inl a2]) 0 = some (.inr (.inr (7, (some a0)))) := rfl
  have g1 : zl_get (zl_args 0 [.inr (.inr (7, some a0)), .inl a1, .inl a2]) 1 = some (.inl a1) := rfl
  have g2 : zl_get (zl_args 0 [.inr (.inr (7, some a0)), .inl a1, .inl a2]) 2 = some (.inl a2) := rfl
  refine e_ildn cd_240_0 g1 ?_
  refine e_iKn cd_240_1 nl_240 rfl rfl ?_
  intro _ gn kp
  have u1 := kp 0 _ g0 rfl rfl
  have u2 := kp 2 _ g2 rfl rfl
  have u3 := gn
  refine e_ildn cd_240_2 u2 ?_
  refine e_const cd_240_3 ci_1 ?_
  refine e_pure cd_240_4 rfl ?_
  refine k_let hs (fun x4 e5 hs => ?_)
  refine e_iK cd_240_5 nl_240 rfl e5 ?_
  intro _ gn kp
  have u6 := kp 0 _ u1 rfl rfl
  have u7 := kp 3 _ u3 rfl rfl
  have u8 := gn
  exact tie_sp_turn_7  d  zLF a0 a1 x4 M so _ u6 u7 u8 hs
set_option maxRecDepth 100000 in
theorem tie_sp_sortIn_18  (d : Nat)  : ∀ (fuel : Nat) (t0 : Nat) (v5 : Int32) (v6 : Int64) (v8 : Int32) (v9 : Int32) (M : zM) (so : Int64 × zM) (ls : List (Nat × zV)), zl_get ls 0 = some (.inr (.inr (7, (some t0)))) → zl_get ls 5 = some (.inl v5) → zl_get ls 6 = some (.inr (.inl v6)) → zl_get ls 8 = some (.inl v8) → zl_get ls 9 = some (.inl v9) → sp_sortIn_18  d fuel t0 v5 v6 v8 v9 M = some so → Ev zq_T (d + 1) 237 18 ls [] M (some (.inr (.inl so.1)), so.2) := by
  intro fuel
  induction fuel with
  | zero => intro t0 v5 v6 v8 v9 M so ls g0 g5 g6 g8 g9 hs; exact nomatch hs
  | succ fuel ih =>
    intro t0 v5 v6 v8 v9 M so ls g0 g5 g6 g8 g9 hs
    unfold sp_sortIn_18 at hs
    refine e_ild cd_237_18 g9 ?_
    refine k_if hs (fun c1 hs => ?_) (fun c1 hs => ?_)
    · refine e_izJ cd_237_20 rfl c1 ?_
      refine e_lld cd_237_126 g6 ?_
      refine e_const cd_237_128 ci_0 ?_
      refine e_ild cd_237_129 g5 ?_
      obtain ⟨q2, h3, hs⟩ := k_bind hs
      refine e_cst cd_237_131 kd_237_133 rfl rfl rfl nl_238 rfl rfl (tie_sp_withLength d v6 0 v5 M _ h3) ?_
      have e := Option.some.inj hs
      subst e
      exact e_rl cd_237_134 nr_237
    · refine e_izN cd_237_20 rfl c1 ?_
      refine e_lld cd_237_23 g6 ?_
      refine e_bip cd_237_25 cb_16 ?_
      refine e_ild cd_237_27 g9 ?_
      refine e_const cd_237_29 ci_1 ?_
      refine e_pure cd_237_30 rfl ?_
      refine e_pure cd_237_31 rfl ?_
      refine e_pure cd_237_32 rfl ?_
      refine e_ld2 cd_237_33 od_237_127 ?_
      refine e_pure cd_237_36 rfl ?_
      refine e_pure cd_237_37 rfl ?_
      refine k_let hs (fun x4 e5 hs => ?_)
      refine e_iK cd_237_38 nl_237 rfl e5 ?_
      intro _ gn kp
      have u6 := kp 0 _ g0 rfl rfl
      have u7 := kp 5 _ g5 rfl rfl
      have u8 := kp 6 _ g6 rfl rfl
      have u9 := kp 8 _ g8 rfl rfl
      have u10 := kp 9 _ g9 rfl rfl
      have u11 := gn
      refine e_aldn cd_237_40 u6 ?_
      refine e_ild cd_237_41 u9 ?_
      refine e_ild cd_237_43 u11 ?_
      refine e_pure cd_237_45 rfl ?_
      refine e_ild cd_237_46 u11 ?_
      refine e_ild cd_237_48 u7 ?_
      obtain ⟨q12, h13, hs⟩ := k_bind hs
      refine e_cvi cd_237_50 kd_237_129 rfl rfl rfl rfl rfl nl_239 rfl rfl (tie_sp_isBetterSwapped d t0 (v8 - x4) x4 v5 M _ h13) ?_
      refine k_if hs (fun c14 hs => ?_) (fun c14 hs => ?_)
      · refine e_izN cd_237_53 rfl (fun q => q c14) ?_
        refine e_lld cd_237_56 u8 ?_
        refine e_ild cd_237_58 u10 ?_
        refine e_ild cd_237_60 u7 ?_
        obtain ⟨q15, h16, hs⟩ := k_bind hs
        refine e_cst cd_237_62 kd_237_133 rfl rfl rfl nl_238 rfl rfl (tie_sp_withLength d v6 v9 v5 q12.2 _ h16) ?_
        have e := Option.some.inj hs
        subst e
        exact e_rl cd_237_65 nr_237
      · refine e_izJ cd_237_53 rfl c14 ?_
        refine e_aldn cd_237_66 u6 ?_
        refine e_ild cd_237_67 u9 ?_
        refine e_ild cd_237_69 u11 ?_
        refine e_pure cd_237_71 rfl ?_
        refine e_ild cd_237_72 u9 ?_
        obtain ⟨q17, h18, hs⟩ := k_bind hs
        refine e_cvi cd_237_74 kd_237_137 rfl rfl rfl rfl rfl nl_240 rfl rfl (tie_sp_turn d t0 (v8 - x4) v8 q12.2 _ h18) ?_
        refine e_aldn cd_237_77 u6 ?_
        refine e_ild cd_237_78 u9 ?_
        refine e_ild cd_237_80 u9 ?_
        refine e_ild cd_237_82 u7 ?_
        refine e_pure cd_237_84 rfl ?_
        obtain ⟨q19, h20, hs⟩ := k_bind hs
        refine e_cvi cd_237_85 kd_237_137 rfl rfl rfl rfl rfl nl_240 rfl rfl (tie_sp_turn d t0 v8 (v8 + v5) q17 _ h20) ?_
        refine e_aldn cd_237_88 u6 ?_
        refine e_ild cd_237_89 u9 ?_
        refine e_ild cd_237_91 u11 ?_
        refine e_pure cd_237_93 rfl ?_
        refine e_ild cd_237_94 u9 ?_
        refine e_ild cd_237_96 u7 ?_
        refine e_pure cd_237_98 rfl ?_
        obtain ⟨q21, h22, hs⟩ := k_bind hs
        refine e_cvi cd_237_99 kd_237_137 rfl rfl rfl rfl rfl nl_240 rfl rfl (tie_sp_turn d t0 (v8 - x4) (v8 + v5) q19 _ h22) ?_
        refine e_ild cd_237_102 u9 ?_
        refine e_ild cd_237_104 u11 ?_
        refine e_pure cd_237_106 rfl ?_
        refine k_let hs (fun x23 e24 hs => ?_)
        refine e_iK cd_237_107 nl_237 rfl e24 ?_
        intro _ gn kp
        have u25 := kp 0 _ u6 rfl rfl
        have u26 := kp 5 _ u7 rfl rfl
        have u27 := kp 6 _ u8 rfl rfl
        have u28 := kp 9 _ u10 rfl rfl
        have u29 := kp 10 _ u11 rfl rfl
        have u30 := gn
        refine e_lld cd_237_109 u27 ?_
        refine e_ild cd_237_111 u28 ?_
        refine e_ild cd_237_113 u29 ?_
        obtain ⟨q31, h32, hs⟩ := k_bind hs
        refine e_cst cd_237_115 kd_237_133 rfl rfl rfl nl_238 rfl rfl (tie_sp_withLength d v6 v9 x4 q21 _ h32) ?_
        refine e_lK cd_237_118 nl_237 rfl rfl ?_
        intro _ gn kp
        have u33 := kp 0 _ u25 rfl rfl
        have u34 := kp 5 _ u26 rfl rfl
        have u35 := kp 9 _ u28 rfl rfl
        have u36 := kp 8 _ u30 rfl rfl
        have u37 := gn
        refine k_let hs (fun x38 e39 hs => ?_)
        refine e_incK cd_237_120 nl_237 rfl u35 ci_m1 e39 ?_
        intro _ gn kp
        have u40 := kp 0 _ u33 rfl rfl
        have u41 := kp 5 _ u34 rfl rfl
        have u42 := kp 8 _ u36 rfl rfl
        have u43 := kp 6 _ u37 rfl rfl
        have u44 := gn
        refine e_goto cd_237_123 rfl ?_
        exact ih t0 v5 q31.1 x23 x38 q31.2 so _ u40 u41 u43 u42 u44 hs
theorem tieb_sp_sortIn  (d : Nat)  (a0 : Nat) (a1 : Int32) (a2 : Int64) (a3 : Int32) (M : zM) (so : Int64 × zM) (hs : sp_sortIn_b  d a0 a1 a2 a3 M = some so) : Ev zq_T (d + 1) 237 0 (zl_args 0 [.inr (.inr (7, some a0)), .inl a1, .inr (.inl a2), .inl a3]) [] M (some (.inr (.inl so.1)), so.2) := by
  unfold sp_sortIn_b at hs
  have g0 : zl_get (zl_args 0 [.inr (.inr (7, some a0)), .inl a1, .inr (.inl a2), .inl a3]) 0 = some (.inr (.inr (7, (some a0)))) := rfl
  have g1 : zl_get (zl_args 0 [.inr (.inr (7, some a0)), .inl a1, .inr (.inl a2), .inl a3]) 1 = some (.inl a1) := rfl
  have g2 : zl_get (zl_args 0 [.inr (.inr (7, some a0)), .inl a1, .inr (.inl a2), .inl a3]) 2 = some (.inr (.inl a2)) := rfl
  have g4 : zl_get (zl_args 0 [.inr (.inr (7, some a0)), .inl a1, .inr (.inl a2), .inl a3]) 4 = some (.inl a3) := rfl
  refine e_aldn cd_237_0 g0 ?_
  refine e_getI cd_237_1 (Or.inl fd_237_31) rfl ?_
  refine e_ildn cd_237_4 g1 ?_
  refine e_pure cd_237_5 rfl ?_
  refine k_let hs (fun x1 e2 hs => ?_)
  refine e_iK cd_237_6 nl_237 rfl e2 ?_
  intro _ gn kp
  have u3 := kp 0 _ g0 rfl rfl
  have u4 := kp 1 _ g1 rfl rfl
  have u5 := kp 2 _ g2 rfl rfl
  have u6 := kp 4 _ g4 rfl rfl
  have u7 := gn
  refine e_lldn cd_237_8 u5 ?_
  refine e_lK cd_237_9 nl_237 rfl rfl ?_
  intro _ gn kp
  have u8 := kp 0 _ u3 rfl rfl
  have u9 := kp 1 _ u4 rfl rfl
  have u10 := kp 4 _ u6 rfl rfl
  have u11 := kp 5 _ u7 rfl rfl
  have u12 := gn
  refine e_ildn cd_237_11 u9 ?_
  refine e_iK cd_237_12 nl_237 rfl rfl ?_
  intro _ gn kp
  have u13 := kp 0 _ u8 rfl rfl
  have u14 := kp 4 _ u10 rfl rfl
  have u15 := kp 5 _ u11 rfl rfl
  have u16 := kp 6 _ u12 rfl rfl
  have u17 := gn
  refine e_ild cd_237_14 u14 ?_
  refine e_iK cd_237_16 nl_237 rfl rfl ?_
  intro _ gn kp
  have u18 := kp 0 _ u13 rfl rfl
  have u19 := kp 5 _ u15 rfl rfl
  have u20 := kp 6 _ u16 rfl rfl
  have u21 := kp 8 _ u17 rfl rfl
  have u22 := gn
  exact tie_sp_sortIn_18  d  zLF a0 x1 a2 a1 a3 M so _ u18 u19 u20 u21 u22 hs
theorem tie_sp_sortIn (d : Nat) (a0 : Nat) (a1 : Int32) (a2 : Int64) (a3 : Int32) (M : zM) (so : Int64 × zM) (hs : sp_sortIn d a0 a1 a2 a3 M = some so) : Ev zq_T d 237 0 (zl_args 0 [.inr (.inr (7, some a0)), .inl a1, .inr (.inl a2), .inl a3]) [] M (some (.inr (.inl so.1)), so.2) := by
  cases d with
  | zero => exact nomatch hs
  | succ d => exact tieb_sp_sortIn d a0 a1 a2 a3 M so hs
theorem tie_sp_spell_13 (r_sp_spell : Nat → Option Nat → Int32 → zM → Option (zM)) (r_sp_spellRow : Nat → Option Nat → Option Nat → Int32 → zM → Option (zM)) (r_sp_spellTimes : Nat → Option Nat → Int32 → Int32 → zM → Option (zM)) (r_sp_spellBest : Nat → Option Nat → Int32 → zM → Option (zM)) (r_sp_spellParts : Nat → Option Nat → Int32 → Int32 → zM → Option (zM)) (d : Nat) (hr_sp_spell : ∀ a0 a1 a2 M so, r_sp_spell a0 a1 a2 M = some so → Ev zq_T d 231 0 (zl_args 0 [.inr (.inr (7, some a0)), .inr (.inr (3, a1)), .inl a2]) [] M (none, so)) (hr_sp_spellRow : ∀ a0 a1 a2 a3 M so, r_sp_spellRow a0 a1 a2 a3 M = some so → Ev zq_T d 232 0 (zl_args 0 [.inr (.inr (7, some a0)), .inr (.inr (3, a1)), .inr (.inr (3, a2)), .inl a3]) [] M (none, so)) (hr_sp_spellTimes : ∀ a0 a1 a2 a3 M so, r_sp_spellTimes a0 a1 a2 a3 M = some so → Ev zq_T d 233 0 (zl_args 0 [.inr (.inr (7, some a0)), .inr (.inr (3, a1)), .inl a2, .inl a3]) [] M (none, so)) (hr_sp_spellBest : ∀ a0 a1 a2 M so, r_sp_spellBest a0 a1 a2 M = some so → Ev zq_T d 234 0 (zl_args 0 [.inr (.inr (7, some a0)), .inr (.inr (3, a1)), .inl a2]) [] M (none, so)) (hr_sp_spellParts : ∀ a0 a1 a2 a3 M so, r_sp_spellParts a0 a1 a2 a3 M = some so → Ev zq_T d 236 0 (zl_args 0 [.inr (.inr (7, some a0)), .inr (.inr (3, a1)), .inl a2, .inl a3]) [] M (none, so))  (M : zM) (so : zM) (ls : List (Nat × zV))  (hs : sp_spell_13 r_sp_spell r_sp_spellRow r_sp_spellTimes r_sp_spellBest r_sp_spellParts d  M = some so) : Ev zq_T (d + 1) 231 13 ls [] M (none, so) := by
  unfold sp_spell_13 at hs
  have e := Option.some.inj hs
  subst e
  exact e_rv cd_231_13 nr_231
theorem tie_sp_spell_125 (r_sp_spell : Nat → Option Nat → Int32 → zM → Option (zM)) (r_sp_spellRow : Nat → Option Nat → Option Nat → Int32 → zM → Option (zM)) (r_sp_spellTimes : Nat → Option Nat → Int32 → Int32 → zM → Option (zM)) (r_sp_spellBest : Nat → Option Nat → Int32 → zM → Option (zM)) (r_sp_spellParts : Nat → Option Nat → Int32 → Int32 → zM → Option (zM)) (d : Nat) (hr_sp_spell : ∀ a0 a1 a2 M so, r_sp_spell a0 a1 a2 M = some so → Ev zq_T d 231 0 (zl_args 0 [.inr (.inr (7, some a0)), .inr (.inr (3, a1)), .inl a2]) [] M (none, so)) (hr_sp_spellRow : ∀ a0 a1 a2 a3 M so, r_sp_spellRow a0 a1 a2 a3 M = some so → Ev zq_T d 232 0 (zl_args 0 [.inr (.inr (7, some a0)), .inr (.inr (3, a1)), .inr (.inr (3, a2)), .inl a3]) [] M (none, so)) (hr_sp_spellTimes : ∀ a0 a1 a2 a3 M so, r_sp_spellTimes a0 a1 a2 a3 M = some so → Ev zq_T d 233 0 (zl_args 0 [.inr (.inr (7, some a0)), .inr (.inr (3, a1)), .inl a2, .inl a3]) [] M (none, so)) (hr_sp_spellBest : ∀ a0 a1 a2 M so, r_sp_spellBest a0 a1 a2 M = some so → Ev zq_T d 234 0 (zl_args 0 [.inr (.inr (7, some a0)), .inr (.inr (3, a1)), .inl a2]) [] M (none, so)) (hr_sp_spellParts : ∀ a0 a1 a2 a3 M so, r_sp_spellParts a0 a1 a2 a3 M = some so → Ev zq_T d 236 0 (zl_args 0 [.inr (.inr (7, some a0)), .inr (.inr (3, a1)), .inl a2, .inl a3]) [] M (none, so))  (M : zM) (so : zM) (ls : List (Nat × zV))  (hs : sp_spell_125 r_sp_spell r_sp_spellRow r_sp_spellTimes r_sp_spellBest r_sp_spellParts d  M = some so) : Ev zq_T (d + 1) 231 125 ls [] M (none, so) := by
  unfold sp_spell_125 at hs
  have e := Option.some.inj hs
  subst e
  exact e_rv cd_231_125 nr_231
set_option maxRecDepth 100000 in
theorem tieb_sp_spell (r_sp_spell : Nat → Option Nat → Int32 → zM → Option (zM)) (r_sp_spellRow : Nat → Option Nat → Option Nat → Int32 → zM → Option (zM)) (r_sp_spellTimes : Nat → Option Nat → Int32 → Int32 → zM → Option (zM)) (r_sp_spellBest : Nat → Option Nat → Int32 → zM → Option (zM)) (r_sp_spellParts : Nat → Option Nat → Int32 → Int32 → zM → Option (zM)) (d : Nat) (hr_sp_spell : ∀ a0 a1 a2 M so, r_sp_spell a0 a1 a2 M = some so → Ev zq_T d 231 0 (zl_args 0 [.inr (.inr (7, some a0)), .inr (.inr (3, a1)), .inl a2]) [] M (none, so)) (hr_sp_spellRow : ∀ a0 a1 a2 a3 M so, r_sp_spellRow a0 a1 a2 a3 M = some so → Ev zq_T d 232 0 (zl_args 0 [.inr (.inr (7, some a0)), .inr (.inr (3, a1)), .inr (.inr (3, a2)), .inl a3]) [] M (none, so)) (hr_sp_spellTimes : ∀ a0 a1 a2 a3 M so, r_sp_spellTimes a0 a1 a2 a3 M = some so → Ev zq_T d 233 0 (zl_args 0 [.inr (.inr (7, some a0)), .inr (.inr (3, a1)), .inl a2, .inl a3]) [] M (none, so)) (hr_sp_spellBest : ∀ a0 a1 a2 M so, r_sp_spellBest a0 a1 a2 M = some so → Ev zq_T d 234 0 (zl_args 0 [.inr (.inr (7, some a0)), .inr (.inr (3, a1)), .inl a2]) [] M (none, so)) (hr_sp_spellParts : ∀ a0 a1 a2 a3 M so, r_sp_spellParts a0 a1 a2 a3 M = some so → Ev zq_T d 236 0 (zl_args 0 [.inr (.inr (7, some a0)), .inr (.inr (3, a1)), .inl a2, .inl a3]) [] M (none, so)) (a0 : Nat) (a1 : Option Nat) (a2 : Int32) (M : zM) (so : zM) (hs : sp_spell_b r_sp_spell r_sp_spellRow r_sp_spellTimes r_sp_spellBest r_sp_spellParts d a0 a1 a2 M = some so) : Ev zq_T (d + 1) 231 0 (zl_args 0 [.inr (.inr (7, some a0)), .inr (.inr (3, a1)), .inl a2]) [] M (none, so) := by
  unfold sp_spell_b at hs
  have g0 : zl_get (zl_args 0 [.inr (.inr (7, some a0)), .inr (.inr (3, a1)), .inl a2]) 0 = some (.inr (.inr (7, (some a0)))) := rfl
  have g1 : zl_get (zl_args 0 [.inr (.inr (7, some a0)), .inr (.inr (3, a1)), .inl a2]) 1 = some (.inr (.inr (3, a1))) := rfl
  have g2 : zl_get (zl_args 0 [.inr (.inr (7, some a0)), .inr (.inr (3, a1)), .inl a2]) 2 = some (.inl a2) := rfl
  refine e_ildn cd_231_0 g2 ?_
  refine e_bip cd_231_1 cb_40 ?_
  refine k_if hs (fun c1 hs => ?_) (fun c1 hs => ?_)
  · refine e_icJ cd_231_3 rfl c1 ?_
    exact tie_sp_spell_13 r_sp_spell r_sp_spellRow r_sp_spellTimes r_sp_spellBest r_sp_spellParts d hr_sp_spell hr_sp_spellRow hr_sp_spellTimes hr_sp_spellBest hr_sp_spellParts  M so _  hs
  · refine e_icN cd_231_3 rfl c1 ?_
    refine e_aldn cd_231_6 g1 ?_
    refine k_opt hs (fun _ q => nomatch q) (fun k2 h3 hs => ?_)
    refine e_getI cd_231_7 (Or.inr fd_231_100) h3 ?_
    refine k_if hs (fun c4 hs => ?_) (fun c4 hs => ?_)
    · refine e_izJ cd_231_10 rfl c4 ?_
      refine e_aldn cd_231_14 g1 ?_
      refine e_getI cd_231_15 (Or.inl fd_231_49) h3 ?_
      refine k_if hs (fun c5 hs => ?_) (fun c5 hs => ?_)
      · refine e_izN cd_231_18 rfl (fun q => q c5) ?_
        refine e_aldn cd_231_21 g0 ?_
        refine e_aldn cd_231_22 g0 ?_
        refine e_getR cd_231_23 fd_231_27 rfl ?_
        refine k_opt hs (fun _ q => nomatch q) (fun k6 h7 hs => ?_)
        refine e_getR cd_231_26 fd_231_93 h7 ?_
        refine e_aldn cd_231_29 g1 ?_
        refine e_getI cd_231_30 (Or.inl fd_231_56) h3 ?_
        refine k_opt hs (fun _ q => nomatch q) (fun k8 h9 hs => ?_)
        obtain ⟨c10, hs⟩ := z_ite hs
        refine e_iald cd_231_33 rfl h9 c10 ?_
        obtain ⟨q11, h12, hs⟩ := k_bind hs
        refine e_cvi cd_231_34 kd_231_96 rfl rfl rfl rfl rfl nl_230 rfl rfl (tie_sp_write d a0 (zm_I M 20 k8 (zm_I M 3 k2 1).toNatClampNeg) M _ h12) ?_
        refine e_goto cd_231_37 rfl ?_
        exact tie_sp_spell_125 r_sp_spell r_sp_spellRow r_sp_spellTimes r_sp_spellBest r_sp_spellParts d hr_sp_spell hr_sp_spellRow hr_sp_spellTimes hr_sp_spellBest hr_sp_spellParts  q11 so _  hs
      · refine e_izJ cd_231_18 rfl c5 ?_
        refine e_aldn cd_231_40 g1 ?_
        refine e_getI cd_231_41 (Or.inl fd_231_49) h3 ?_
        refine e_const cd_231_44 ci_4 ?_
        refine k_if hs (fun c13 hs => ?_) (fun c13 hs => ?_)
        · refine e_icN cd_231_45 rfl (fun q => q c13) ?_
          refine e_aldn cd_231_48 g0 ?_
          refine e_aldn cd_231_49 g1 ?_
          refine e_getR cd_231_50 fd_231_73 h3 ?_
          refine e_aldn cd_231_53 g0 ?_
          refine e_getR cd_231_54 fd_231_27 rfl ?_
          refine k_opt hs (fun _ q => nomatch q) (fun k14 h15 hs => ?_)
          refine e_getR cd_231_57 fd_231_104 h15 ?_
          refine e_aldn cd_231_60 g1 ?_
          refine e_getI cd_231_61 (Or.inl fd_231_56) h3 ?_
          refine k_opt hs (fun _ q => nomatch q) (fun k16 h17 hs => ?_)
          obtain ⟨c18, hs⟩ := z_ite hs
          refine e_iald cd_231_64 rfl h17 c18 ?_
          refine e_ildn cd_231_65 g2 ?_
          refine e_const cd_231_66 ci_1 ?_
          refine e_pure cd_231_67 rfl ?_
          obtain ⟨q19, h20, hs⟩ := k_bind hs
          refine e_cvi cd_231_68 kd_231_86 rfl rfl rfl rfl rfl nl_233 rfl rfl (hr_sp_spellTimes a0 (zm_R M 3 k2 5) (zm_I M 20 k16 (zm_I M 3 k2 1).toNatClampNeg) (a2 + 1) M _ h20) ?_
          refine e_goto cd_231_71 rfl ?_
          exact tie_sp_spell_125 r_sp_spell r_sp_spellRow r_sp_spellTimes r_sp_spellBest r_sp_spellParts d hr_sp_spell hr_sp_spellRow hr_sp_spellTimes hr_sp_spellBest hr_sp_spellParts  q19 so _  hs
        · refine e_icJ cd_231_45 rfl c13 ?_
          refine e_aldn cd_231_74 g1 ?_
          refine e_getI cd_231_75 (Or.inl fd_231_49) h3 ?_
          refine e_const cd_231_78 ci_3 ?_
          refine k_if hs (fun c21 hs => ?_) (fun c21 hs => ?_)
          · refine e_icN cd_231_79 rfl (fun q => q c21) ?_
            refine e_aldn cd_231_82 g0 ?_
            refine e_aldn cd_231_83 g1 ?_
            refine e_ildn cd_231_84 g2 ?_
            refine e_const cd_231_85 ci_1 ?_
            refine e_pure cd_231_86 rfl ?_
            obtain ⟨q22, h23, hs⟩ := k_bind hs
            refine e_cvi cd_231_87 kd_231_107 rfl rfl rfl rfl rfl nl_234 rfl rfl (hr_sp_spellBest a0 a1 (a2 + 1) M _ h23) ?_
            refine e_goto cd_231_90 rfl ?_
            exact tie_sp_spell_125 r_sp_spell r_sp_spellRow r_sp_spellTimes r_sp_spellBest r_sp_spellParts d hr_sp_spell hr_sp_spellRow hr_sp_spellTimes hr_sp_spellBest hr_sp_spellParts  q22 so _  hs
          · refine e_icJ cd_231_79 rfl c21 ?_
            refine e_aldn cd_231_93 g1 ?_
            refine e_getI cd_231_94 (Or.inl fd_231_49) h3 ?_
            refine e_const cd_231_97 ci_2 ?_
            refine k_if hs (fun c24 hs => ?_) (fun c24 hs => ?_)
            · refine e_icN cd_231_98 rfl (fun q => q c24) ?_
              refine e_aldn cd_231_101 g0 ?_
              refine e_aldn cd_231_102 g1 ?_
              refine e_pure cd_231_103 rfl ?_
              refine e_ildn cd_231_104 g2 ?_
              refine e_const cd_231_105 ci_1 ?_
              refine e_pure cd_231_106 rfl ?_
              obtain ⟨q25, h26, hs⟩ := k_bind hs
              refine e_cvi cd_231_107 kd_231_82 rfl rfl rfl rfl rfl nl_232 rfl rfl (hr_sp_spellRow a0 a1 none (a2 + 1) M _ h26) ?_
              refine e_goto cd_231_110 rfl ?_
              exact tie_sp_spell_125 r_sp_spell r_sp_spellRow r_sp_spellTimes r_sp_spellBest r_sp_spellParts d hr_sp_spell hr_sp_spellRow hr_sp_spellTimes hr_sp_spellBest hr_sp_spellParts  q25 so _  hs
            · refine e_icJ cd_231_98 rfl c24 ?_
              refine e_aldn cd_231_113 g0 ?_
              refine e_aldn cd_231_114 g1 ?_
              refine e_aldn cd_231_115 g1 ?_
              refine e_getI cd_231_116 (Or.inl fd_231_110) h3 ?_
              refine e_ildn cd_231_119 g2 ?_
              refine e_const cd_231_120 ci_1 ?_
              refine e_pure cd_231_121 rfl ?_
              obtain ⟨q27, h28, hs⟩ := k_bind hs
              refine e_cvi cd_231_122 kd_231_90 rfl rfl rfl rfl rfl nl_236 rfl rfl (hr_sp_spellParts a0 a1 (zm_I M 3 k2 14) (a2 + 1) M _ h28) ?_
              exact tie_sp_spell_125 r_sp_spell r_sp_spellRow r_sp_spellTimes r_sp_spellBest r_sp_spellParts d hr_sp_spell hr_sp_spellRow hr_sp_spellTimes hr_sp_spellBest hr_sp_spellParts  q27 so _  hs
    · refine e_izN cd_231_10 rfl c4 ?_
      exact tie_sp_spell_13 r_sp_spell r_sp_spellRow r_sp_spellTimes r_sp_spellBest r_sp_spellParts d hr_sp_spell hr_sp_spellRow hr_sp_spellTimes hr_sp_spellBest hr_sp_spellParts  M so _  hs
theorem tie_sp_spellRow_34 (r_sp_spell : Nat → Option Nat → Int32 → zM → Option (zM)) (r_sp_spellRow : Nat → Option Nat → Option Nat → Int32 → zM → Option (zM)) (r_sp_spellTimes : Nat → Option Nat → Int32 → Int32 → zM → Option (zM)) (r_sp_spellBest : Nat → Option Nat → Int32 → zM → Option (zM)) (r_sp_spellParts : Nat → Option Nat → Int32 → Int32 → zM → Option (zM)) (d : Nat) (hr_sp_spell : ∀ a0 a1 a2 M so, r_sp_spell a0 a1 a2 M = some so → Ev zq_T d 231 0 (zl_args 0 [.inr (.inr (7, some a0)), .inr (.inr (3, a1)), .inl a2]) [] M (none, so)) (hr_sp_spellRow : ∀ a0 a1 a2 a3 M so, r_sp_spellRow a0 a1 a2 a3 M = some so → Ev zq_T d 232 0 (zl_args 0 [.inr (.inr (7, some a0)), .inr (.inr (3, a1)), .inr (.inr (3, a2)), .inl a3]) [] M (none, so)) (hr_sp_spellTimes : ∀ a0 a1 a2 a3 M so, r_sp_spellTimes a0 a1 a2 a3 M = some so → Ev zq_T d 233 0 (zl_args 0 [.inr (.inr (7, some a0)), .inr (.inr (3, a1)), .inl a2, .inl a3]) [] M (none, so)) (hr_sp_spellBest : ∀ a0 a1 a2 M so, r_sp_spellBest a0 a1 a2 M = some so → Ev zq_T d 234 0 (zl_args 0 [.inr (.inr (7, some a0)), .inr (.inr (3, a1)), .inl a2]) [] M (none, so)) (hr_sp_spellParts : ∀ a0 a1 a2 a3 M so, r_sp_spellParts a0 a1 a2 a3 M = some so → Ev zq_T d 236 0 (zl_args 0 [.inr (.inr (7, some a0)), .inr (.inr (3, a1)), .inl a2, .inl a3]) [] M (none, so))  (M : zM) (so : zM) (ls : List (Nat × zV))  (hs : sp_spellRow_34 r_sp_spell r_sp_spellRow r_sp_spellTimes r_sp_spellBest r_sp_spellParts d  M = some so) : Ev zq_T (d + 1) 232 34 ls [] M (none, so) := by
  unfold sp_spellRow_34 at hs
  have e := Option.some.inj hs
  subst e
  exact e_rv cd_232_34 nr_232
theorem tie_sp_spellRow_6 (r_sp_spell : Nat → Option Nat → Int32 → zM → Option (zM)) (r_sp_spellRow : Nat → Option Nat → Option Nat → Int32 → zM → Option (zM)) (r_sp_spellTimes : Nat → Option Nat → Int32 → Int32 → zM → Option (zM)) (r_sp_spellBest : Nat → Option Nat → Int32 → zM → Option (zM)) (r_sp_spellParts : Nat → Option Nat → Int32 → Int32 → zM → Option (zM)) (d : Nat) (hr_sp_spell : ∀ a0 a1 a2 M so, r_sp_spell a0 a1 a2 M = some so → Ev zq_T d 231 0 (zl_args 0 [.inr (.inr (7, some a0)), .inr (.inr (3, a1)), .inl a2]) [] M (none, so)) (hr_sp_spellRow : ∀ a0 a1 a2 a3 M so, r_sp_spellRow a0 a1 a2 a3 M = some so → Ev zq_T d 232 0 (zl_args 0 [.inr (.inr (7, some a0)), .inr (.inr (3, a1)), .inr (.inr (3, a2)), .inl a3]) [] M (none, so)) (hr_sp_spellTimes : ∀ a0 a1 a2 a3 M so, r_sp_spellTimes a0 a1 a2 a3 M = some so → Ev zq_T d 233 0 (zl_args 0 [.inr (.inr (7, some a0)), .inr (.inr (3, a1)), .inl a2, .inl a3]) [] M (none, so)) (hr_sp_spellBest : ∀ a0 a1 a2 M so, r_sp_spellBest a0 a1 a2 M = some so → Ev zq_T d 234 0 (zl_args 0 [.inr (.inr (7, some a0)), .inr (.inr (3, a1)), .inl a2]) [] M (none, so)) (hr_sp_spellParts : ∀ a0 a1 a2 a3 M so, r_sp_spellParts a0 a1 a2 a3 M = some so → Ev zq_T d 236 0 (zl_args 0 [.inr (.inr (7, some a0)), .inr (.inr (3, a1)), .inl a2, .inl a3]) [] M (none, so)) : ∀ (fuel : Nat) (t0 : Nat) (v2 : Option Nat) (v3 : Int32) (v4 : Option Nat) (M : zM) (so : zM) (ls : List (Nat × zV)), zl_get ls 0 = some (.inr (.inr (7, (some t0)))) → zl_get ls 2 = some (.inr (.inr (3, v2))) → zl_get ls 3 = some (.inl v3) → zl_get ls 4 = some (.inr (.inr (3, v4))) → sp_spellRow_6 r_sp_spell r_sp_spellRow r_sp_spellTimes r_sp_spellBest r_sp_spellParts d fuel t0 v2 v3 v4 M = some so → Ev zq_T (d + 1) 232 6 ls [] M (none, so) := by
  intro fuel
  induction fuel with
  | zero => intro t0 v2 v3 v4 M so ls g0 g2 g3 g4 hs; exact nomatch hs
  | succ fuel ih =>
    intro t0 v2 v3 v4 M so ls g0 g2 g3 g4 hs
    unfold sp_spellRow_6 at hs
    refine e_ald cd_232_6 g4 ?_
    refine k_opt hs (fun h1 hs => ?_) (fun k2 h1 hs => ?_)
    · refine e_nu0 cd_232_8 rfl h1 ?_
      exact tie_sp_spellRow_34 r_sp_spell r_sp_spellRow r_sp_spellTimes r_sp_spellBest r_sp_spellParts d hr_sp_spell hr_sp_spellRow hr_sp_spellTimes hr_sp_spellBest hr_sp_spellParts  M so _  hs
    · refine e_nu1 cd_232_8 rfl h1 ?_
      refine e_ald cd_232_11 g4 ?_
      refine e_aldn cd_232_13 g2 ?_
      refine k_if hs (fun c3 hs => ?_) (fun c3 hs => ?_)
      · refine e_aeq1 cd_232_14 rfl rfl c3 ?_
        exact tie_sp_spellRow_34 r_sp_spell r_sp_spellRow r_sp_spellTimes r_sp_spellBest r_sp_spellParts d hr_sp_spell hr_sp_spellRow hr_sp_spellTimes hr_sp_spellBest hr_sp_spellParts  M so _  hs
      · refine e_aeq0 cd_232_14 rfl rfl c3 ?_
        refine e_aldn cd_232_17 g0 ?_
        refine e_ald cd_232_18 g4 ?_
        refine e_ildn cd_232_20 g3 ?_
        obtain ⟨q4, h5, hs⟩ := k_bind hs
        refine e_cvi cd_232_21 kd_232_39 rfl rfl rfl rfl rfl nl_231 rfl rfl (hr_sp_spell t0 v4 v3 M _ h5) ?_
        refine e_ald cd_232_24 g4 ?_
        refine e_getR cd_232_26 fd_232_76 h1 ?_
        refine e_aK cd_232_29 nl_232 rfl rfl ?_
        intro _ gn kp
        have u6 := kp 0 _ g0 rfl rfl
        have u7 := kp 2 _ g2 rfl rfl
        have u8 := kp 3 _ g3 rfl rfl
        have u9 := gn
        refine e_goto cd_232_31 rfl ?_
        exact ih t0 v2 v3 (zm_R q4 3 k2 7) q4 so _ u6 u7 u8 u9 hs
theorem tieb_sp_spellRow (r_sp_spell : Nat → Option Nat → Int32 → zM → Option (zM)) (r_sp_spellRow : Nat → Option Nat → Option Nat → Int32 → zM → Option (zM)) (r_sp_spellTimes : Nat → Option Nat → Int32 → Int32 → zM → Option (zM)) (r_sp_spellBest : Nat → Option Nat → Int32 → zM → Option (zM)) (r_sp_spellParts : Nat → Option Nat → Int32 → Int32 → zM → Option (zM)) (d : Nat) (hr_sp_spell : ∀ a0 a1 a2 M so, r_sp_spell a0 a1 a2 M = some so → Ev zq_T d 231 0 (zl_args 0 [.inr (.inr (7, some a0)), .inr (.inr (3, a1)), .inl a2]) [] M (none, so)) (hr_sp_spellRow : ∀ a0 a1 a2 a3 M so, r_sp_spellRow a0 a1 a2 a3 M = some so → Ev zq_T d 232 0 (zl_args 0 [.inr (.inr (7, some a0)), .inr (.inr (3, a1)), .inr (.inr (3, a2)), .inl a3]) [] M (none, so)) (hr_sp_spellTimes : ∀ a0 a1 a2 a3 M so, r_sp_spellTimes a0 a1 a2 a3 M = some so → Ev zq_T d 233 0 (zl_args 0 [.inr (.inr (7, some a0)), .inr (.inr (3, a1)), .inl a2, .inl a3]) [] M (none, so)) (hr_sp_spellBest : ∀ a0 a1 a2 M so, r_sp_spellBest a0 a1 a2 M = some so → Ev zq_T d 234 0 (zl_args 0 [.inr (.inr (7, some a0)), .inr (.inr (3, a1)), .inl a2]) [] M (none, so)) (hr_sp_spellParts : ∀ a0 a1 a2 a3 M so, r_sp_spellParts a0 a1 a2 a3 M = some so → Ev zq_T d 236 0 (zl_args 0 [.inr (.inr (7, some a0)), .inr (.inr (3, a1)), .inl a2, .inl a3]) [] M (none, so)) (a0 : Nat) (a1 : Option Nat) (a2 : Option Nat) (a3 : Int32) (M : zM) (so : zM) (hs : sp_spellRow_b r_sp_spell r_sp_spellRow r_sp_spellTimes r_sp_spellBest r_sp_spellParts d a0 a1 a2 a3 M = some so) : Ev zq_T (d + 1) 232 0 (zl_args 0 [.inr (.inr (7, some a0)), .inr (.inr (3, a1)), .inr (.inr (3, a2)), .inl a3]) [] M (none, so) := by
  unfold sp_spellRow_b at hs
  have g0 : zl_get (zl_args 0 [.inr (.inr (7, some a0)), .inr (.inr (3, a1)), .inr (.inr (3, a2)), .inl a3]) 0 = some (.inr (.inr (7, (some a0)))) := rfl
  have g1 : zl_get (zl_args 0 [.inr (.inr (7, some a0)), .inr (.inr (3, a1)), .inr (.inr (3, a2)), .inl a3]) 1 = some (.inr (.inr (3, a1))) := rfl
  have g2 : zl_get (zl_args 0 [.inr (.inr (7, some a0)), .inr (.inr (3, a1)), .inr (.inr (3, a2)), .inl a3]) 2 = some (.inr (.inr (3, a2))) := rfl
  have g3 : zl_get (zl_args 0 [.inr (.inr (7, some a0)), .inr (.inr (3, a1)), .inr (.inr (3, a2)), .inl a3]) 3 = some (.inl a3) := rfl
  refine e_aldn cd_232_0 g1 ?_
  refine k_opt hs (fun _ q => nomatch q) (fun k1 h2 hs => ?_)
  refine e_getR cd_232_1 fd_232_73 h2 ?_
  refine e_aK cd_232_4 nl_232 rfl rfl ?_
  intro _ gn kp
  have u3 := kp 0 _ g0 rfl rfl
  have u4 := kp 2 _ g2 rfl rfl
  have u5 := kp 3 _ g3 rfl rfl
  have u6 := gn
  exact tie_sp_spellRow_6 r_sp_spell r_sp_spellRow r_sp_spellTimes r_sp_spellBest r_sp_spellParts d hr_sp_spell hr_sp_spellRow hr_sp_spellTimes hr_sp_spellBest hr_sp_spellParts zLF a0 a2 a3 (zm_R M 3 k1 5) M so _ u3 u4 u5 u6 hs
theorem tie_sp_spellTimes_9 (r_sp_spell : Nat → Option Nat → Int32 → zM → Option (zM)) (r_sp_spellRow : Nat → Option Nat → Option Nat → Int32 → zM → Option (zM)) (r_sp_spellTimes : Nat → Option Nat → Int32 → Int32 → zM → Option (zM)) (r_sp_spellBest : Nat → Option Nat → Int32 → zM → Option (zM)) (r_sp_spellParts : Nat → Option Nat → Int32 → Int32 → zM → Option (zM)) (d : Nat) (hr_sp_spell : ∀ a0 a1 a2 M so, r_sp_spell a0 a1 a2 M = some so → Ev zq_T d 231 0 (zl_args 0 [.inr (.inr (7, some a0)), .inr (.inr (3, a1)), .inl a2]) [] M (none, so)) (hr_sp_spellRow : ∀ a0 a1 a2 a3 M so, r_sp_spellRow a0 a1 a2 a3 M = some so → Ev zq_T d 232 0 (zl_args 0 [.inr (.inr (7, some a0)), .inr (.inr (3, a1)), .inr (.inr (3, a2)), .inl a3]) [] M (none, so)) (hr_sp_spellTimes : ∀ a0 a1 a2 a3 M so, r_sp_spellTimes a0 a1 a2 a3 M = some so → Ev zq_T d 233 0 (zl_args 0 [.inr (.inr (7, some a0)), .inr (.inr (3, a1)), .inl a2, .inl a3]) [] M (none, so)) (hr_sp_spellBest : ∀ a0 a1 a2 M so, r_sp_spellBest a0 a1 a2 M = some so → Ev zq_T d 234 0 (zl_args 0 [.inr (.inr (7, some a0)), .inr (.inr (3, a1)), .inl a2]) [] M (none, so)) (hr_sp_spellParts : ∀ a0 a1 a2 a3 M so, r_sp_spellParts a0 a1 a2 a3 M = some so → Ev zq_T d 236 0 (zl_args 0 [.inr (.inr (7, some a0)), .inr (.inr (3, a1)), .inl a2, .inl a3]) [] M (none, so))  (M : zM) (so : zM) (ls : List (Nat × zV))  (hs : sp_spellTimes_9 r_sp_spell r_sp_spellRow r_sp_spellTimes r_sp_spellBest r_sp_spellParts d  M = some so) : Ev zq_T (d + 1) 233 9 ls [] M (none, so) := by
  unfold sp_spellTimes_9 at hs
  have e := Option.some.inj hs
  subst e
  exact e_rv cd_233_9 nr_233
theorem tie_sp_spellTimes_75 (r_sp_spell : Nat → Option Nat → Int32 → zM → Option (zM)) (r_sp_spellRow : Nat → Option Nat → Option Nat → Int32 → zM → Option (zM)) (r_sp_spellTimes : Nat → Option Nat → Int32 → Int32 → zM → Option (zM)) (r_sp_spellBest : Nat → Option Nat → Int32 → zM → Option (zM)) (r_sp_spellParts : Nat → Option Nat → Int32 → Int32 → zM → Option (zM)) (d : Nat) (hr_sp_spell : ∀ a0 a1 a2 M so, r_sp_spell a0 a1 a2 M = some so → Ev zq_T d 231 0 (zl_args 0 [.inr (.inr (7, some a0)), .inr (.inr (3, a1)), .inl a2]) [] M (none, so)) (hr_sp_spellRow : ∀ a0 a1 a2 a3 M so, r_sp_spellRow a0 a1 a2 a3 M = some so → Ev zq_T d 232 0 (zl_args 0 [.inr (.inr (7, some a0)), .inr (.inr (3, a1)), .inr (.inr (3, a2)), .inl a3]) [] M (none, so)) (hr_sp_spellTimes : ∀ a0 a1 a2 a3 M so, r_sp_spellTimes a0 a1 a2 a3 M = some so → Ev zq_T d 233 0 (zl_args 0 [.inr (.inr (7, some a0)), .inr (.inr (3, a1)), .inl a2, .inl a3]) [] M (none, so)) (hr_sp_spellBest : ∀ a0 a1 a2 M so, r_sp_spellBest a0 a1 a2 M = some so → Ev zq_T d 234 0 (zl_args 0 [.inr (.inr (7, some a0)), .inr (.inr (3, a1)), .inl a2]) [] M (none, so)) (hr_sp_spellParts : ∀ a0 a1 a2 a3 M so, r_sp_spellParts a0 a1 a2 a3 M = some so → Ev zq_T d 236 0 (zl_args 0 [.inr (.inr (7, some a0)), .inr (.inr (3, a1)), .inl a2, .inl a3]) [] M (none, so))  (M : zM) (so : zM) (ls : List (Nat × zV))  (hs : sp_spellTimes_75 r_sp_spell r_sp_spellRow r_sp_spellTimes r_sp_spellBest r_sp_spellParts d  M = some so) : Ev zq_T (d + 1) 233 75 ls [] M (none, so) := by
  unfold sp_spellTimes_75 at hs
  have e := Option.some.inj hs
  subst e
  exact e_rv cd_233_75 nr_233
theorem tie_sp_spellTimes_34 (r_sp_spell : Nat → Option Nat → Int32 → zM → Option (zM)) (r_sp_spellRow : Nat → Option Nat → Option Nat → Int32 → zM → Option (zM)) (r_sp_spellTimes : Nat → Option Nat → Int32 → Int32 → zM → Option (zM)) (r_sp_spellBest : Nat → Option Nat → Int32 → zM → Option (zM)) (r_sp_spellParts : Nat → Option Nat → Int32 → Int32 → zM → Option (zM)) (d : Nat) (hr_sp_spell : ∀ a0 a1 a2 M so, r_sp_spell a0 a1 a2 M = some so → Ev zq_T d 231 0 (zl_args 0 [.inr (.inr (7, some a0)), .inr (.inr (3, a1)), .inl a2]) [] M (none, so)) (hr_sp_spellRow : ∀ a0 a1 a2 a3 M so, r_sp_spellRow a0 a1 a2 a3 M = some so → Ev zq_T d 232 0 (zl_args 0 [.inr (.inr (7, some a0)), .inr (.inr (3, a1)), .inr (.inr (3, a2)), .inl a3]) [] M (none, so)) (hr_sp_spellTimes : ∀ a0 a1 a2 a3 M so, r_sp_spellTimes a0 a1 a2 a3 M = some so → Ev zq_T d 233 0 (zl_args 0 [.inr (.inr (7, some a0)), .inr (.inr (3, a1)), .inl a2, .inl a3]) [] M (none, so)) (hr_sp_spellBest : ∀ a0 a1 a2 M so, r_sp_spellBest a0 a1 a2 M = some so → Ev zq_T d 234 0 (zl_args 0 [.inr (.inr (7, some a0)), .inr (.inr (3, a1)), .inl a2]) [] M (none, so)) (hr_sp_spellParts : ∀ a0 a1 a2 a3 M so, r_sp_spellParts a0 a1 a2 a3 M = some so → Ev zq_T d 236 0 (zl_args 0 [.inr (.inr (7, some a0)), .inr (.inr (3, a1)), .inl a2, .inl a3]) [] M (none, so)) : ∀ (fuel : Nat) (t0 : Nat) (v2 : Int32) (v4 : Int32) (v5 : Int32) (v6 : Int32) (M : zM) (so : zM) (ls : List (Nat × zV)), zl_get ls 0 = some (.inr (.inr (7, (some t0)))) → zl_get ls 2 = some (.inl v2) → zl_get ls 4 = some (.inl v4) → zl_get ls 5 = some (.inl v5) → zl_get ls 6 = some (.inl v6) → sp_spellTimes_34 r_sp_spell r_sp_spellRow r_sp_spellTimes r_sp_spellBest r_sp_spellParts d fuel t0 v2 v4 v5 v6 M = some so → Ev zq_T (d + 1) 233 34 ls [] M (none, so) := by
  intro fuel
  induction fuel with
  | zero => intro t0 v2 v4 v5 v6 M so ls g0 g2 g4 g5 g6 hs; exact nomatch hs
  | succ fuel ih =>
    intro t0 v2 v4 v5 v6 M so ls g0 g2 g4 g5 g6 hs
    unfold sp_spellTimes_34 at hs
    refine e_ild cd_233_34 g6 ?_
    refine e_ild cd_233_36 g5 ?_
    refine e_ildn cd_233_38 g2 ?_
    refine e_const cd_233_39 ci_1 ?_
    refine e_pure cd_233_40 rfl ?_
    refine e_pure cd_233_41 rfl ?_
    refine k_if hs (fun c1 hs => ?_) (fun c1 hs => ?_)
    · refine e_icJ cd_233_42 rfl c1 ?_
      exact tie_sp_spellTimes_75 r_sp_spell r_sp_spellRow r_sp_spellTimes r_sp_spellBest r_sp_spellParts d hr_sp_spell hr_sp_spellRow hr_sp_spellTimes hr_sp_spellBest hr_sp_spellParts  M so _  hs
    · refine e_icN cd_233_42 rfl c1 ?_
      refine e_aldn cd_233_45 g0 ?_
      refine e_getI cd_233_46 (Or.inl fd_233_31) rfl ?_
      refine e_sip cd_233_49 cs_9216 ?_
      refine k_if hs (fun c2 hs => ?_) (fun c2 hs => ?_)
      · refine e_icJ cd_233_52 rfl c2 ?_
        exact tie_sp_spellTimes_75 r_sp_spell r_sp_spellRow r_sp_spellTimes r_sp_spellBest r_sp_spellParts d hr_sp_spell hr_sp_spellRow hr_sp_spellTimes hr_sp_spellBest hr_sp_spellParts  M so _  hs
      · refine e_icN cd_233_52 rfl c2 ?_
        refine e_aldn cd_233_55 g0 ?_
        refine e_aldn cd_233_56 g0 ?_
        refine e_getR cd_233_57 fd_233_11 rfl ?_
        refine e_ild cd_233_60 g4 ?_
        refine e_ild cd_233_62 g6 ?_
        refine e_pure cd_233_64 rfl ?_
        refine k_opt hs (fun _ q => nomatch q) (fun k3 h4 hs => ?_)
        obtain ⟨c5, hs⟩ := z_ite hs
        refine e_iald cd_233_65 rfl h4 c5 ?_
        obtain ⟨q6, h7, hs⟩ := k_bind hs
        refine e_cvi cd_233_66 kd_233_96 rfl rfl rfl rfl rfl nl_230 rfl rfl (tie_sp_write d t0 (zm_I M 20 k3 (v4 + v6).toNatClampNeg) M _ h7) ?_
        refine k_let hs (fun x8 e9 hs => ?_)
        refine e_incK cd_233_69 nl_233 rfl g6 ci_1 e9 ?_
        intro _ gn kp
        have u10 := kp 0 _ g0 rfl rfl
        have u11 := kp 2 _ g2 rfl rfl
        have u12 := kp 4 _ g4 rfl rfl
        have u13 := kp 5 _ g5 rfl rfl
        have u14 := gn
        refine e_goto cd_233_72 rfl ?_
        exact ih t0 v2 v4 v5 x8 q6 so _ u10 u11 u12 u13 u14 hs
theorem tieb_sp_spellTimes (r_sp_spell : Nat → Option Nat → Int32 → zM → Option (zM)) (r_sp_spellRow : Nat → Option Nat → Option Nat → Int32 → zM → Option (zM)) (r_sp_spellTimes : Nat → Option Nat → Int32 → Int32 → zM → Option (zM)) (r_sp_spellBest : Nat → Option Nat → Int32 → zM → Option (zM)) (r_sp_spellParts : Nat → Option Nat → Int32 → Int32 → zM → Option (zM)) (d : Nat) (hr_sp_spell : ∀ a0 a1 a2 M so, r_sp_spell a0 a1 a2 M = some so → Ev zq_T d 231 0 (zl_args 0 [.inr (.inr (7, some a0)), .inr (.inr (3, a1)), .inl a2]) [] M (none, so)) (hr_sp_spellRow : ∀ a0 a1 a2 a3 M so, r_sp_spellRow a0 a1 a2 a3 M = some so → Ev zq_T d 232 0 (zl_args 0 [.inr (.inr (7, some a0)), .inr (.inr (3, a1)), .inr (.inr (3, a2)), .inl a3]) [] M (none, so)) (hr_sp_spellTimes : ∀ a0 a1 a2 a3 M so, r_sp_spellTimes a0 a1 a2 a3 M = some so → Ev zq_T d 233 0 (zl_args 0 [.inr (.inr (7, some a0)), .inr (.inr (3, a1)), .inl a2, .inl a3]) [] M (none, so)) (hr_sp_spellBest : ∀ a0 a1 a2 M so, r_sp_spellBest a0 a1 a2 M = some so → Ev zq_T d 234 0 (zl_args 0 [.inr (.inr (7, some a0)), .inr (.inr (3, a1)), .inl a2]) [] M (none, so)) (hr_sp_spellParts : ∀ a0 a1 a2 a3 M so, r_sp_spellParts a0 a1 a2 a3 M = some so → Ev zq_T d 236 0 (zl_args 0 [.inr (.inr (7, some a0)), .inr (.inr (3, a1)), .inl a2, .inl a3]) [] M (none, so)) (a0 : Nat) (a1 : Option Nat) (a2 : Int32) (a3 : Int32) (M : zM) (so : zM) (hs : sp_spellTimes_b r_sp_spell r_sp_spellRow r_sp_spellTimes r_sp_spellBest r_sp_spellParts d a0 a1 a2 a3 M = some so) : Ev zq_T (d + 1) 233 0 (zl_args 0 [.inr (.inr (7, some a0)), .inr (.inr (3, a1)), .inl a2, .inl a3]) [] M (none, so) := by
  unfold sp_spellTimes_b at hs
  have g0 : zl_get (zl_args 0 [.inr (.inr (7, some a0)), .inr (.inr (3, a1)), .inl a2, .inl a3]) 0 = some (.inr (.inr (7, (some a0)))) := rfl
  have g1 : zl_get (zl_args 0 [.inr (.inr (7, some a0)), .inr (.inr (3, a1)), .inl a2, .inl a3]) 1 = some (.inr (.inr (3, a1))) := rfl
  have g2 : zl_get (zl_args 0 [.inr (.inr (7, some a0)), .inr (.inr (3, a1)), .inl a2, .inl a3]) 2 = some (.inl a2) := rfl
  have g3 : zl_get (zl_args 0 [.inr (.inr (7, some a0)), .inr (.inr (3, a1)), .inl a2, .inl a3]) 3 = some (.inl a3) := rfl
  refine e_aldn cd_233_0 g1 ?_
  refine k_opt hs (fun h1 hs => ?_) (fun k2 h1 hs => ?_)
  · refine e_nu0 cd_233_1 rfl h1 ?_
    exact tie_sp_spellTimes_9 r_sp_spell r_sp_spellRow r_sp_spellTimes r_sp_spellBest r_sp_spellParts d hr_sp_spell hr_sp_spellRow hr_sp_spellTimes hr_sp_spellBest hr_sp_spellParts  M so _  hs
  · refine e_nu1 cd_233_1 rfl h1 ?_
    refine e_ildn cd_233_4 g2 ?_
    refine e_const cd_233_5 ci_1 ?_
    refine k_if hs (fun c3 hs => ?_) (fun c3 hs => ?_)
    · refine e_icJ cd_233_6 rfl c3 ?_
      refine e_aldn cd_233_10 g0 ?_
      refine e_getI cd_233_11 (Or.inl fd_233_31) rfl ?_
      refine k_let hs (fun x4 e5 hs => ?_)
      refine e_iK cd_233_14 nl_233 rfl e5 ?_
      intro _ gn kp
      have u6 := kp 0 _ g0 rfl rfl
      have u7 := kp 1 _ g1 rfl rfl
      have u8 := kp 2 _ g2 rfl rfl
      have u9 := kp 3 _ g3 rfl rfl
      have u10 := gn
      refine e_aldn cd_233_16 u6 ?_
      refine e_aldn cd_233_17 u7 ?_
      refine e_ildn cd_233_18 u9 ?_
      obtain ⟨q11, h12, hs⟩ := k_bind hs
      refine e_cvi cd_233_19 kd_233_39 rfl rfl rfl rfl rfl nl_231 rfl rfl (hr_sp_spell a0 a1 a3 M _ h12) ?_
      refine e_aldn cd_233_22 u6 ?_
      refine e_getI cd_233_23 (Or.inl fd_233_31) rfl ?_
      refine e_ild cd_233_26 u10 ?_
      refine e_pure cd_233_28 rfl ?_
      refine k_let hs (fun x13 e14 hs => ?_)
      refine e_iK cd_233_29 nl_233 rfl e14 ?_
      intro _ gn kp
      have u15 := kp 0 _ u6 rfl rfl
      have u16 := kp 2 _ u8 rfl rfl
      have u17 := kp 4 _ u10 rfl rfl
      have u18 := gn
      refine e_const cd_233_31 ci_0 ?_
      refine e_iK cd_233_32 nl_233 rfl rfl ?_
      intro _ gn kp
      have u19 := kp 0 _ u15 rfl rfl
      have u20 := kp 2 _ u16 rfl rfl
      have u21 := kp 4 _ u17 rfl rfl
      have u22 := kp 5 _ u18 rfl rfl
      have u23 := gn
      exact tie_sp_spellTimes_34 r_sp_spell r_sp_spellRow r_sp_spellTimes r_sp_spellBest r_sp_spellParts d hr_sp_spell hr_sp_spellRow hr_sp_spellTimes hr_sp_spellBest hr_sp_spellParts zLF a0 a2 x4 x13 0 q11 so _ u19 u20 u21 u22 u23 hs
    · refine e_icN cd_233_6 rfl c3 ?_
      exact tie_sp_spellTimes_9 r_sp_spell r_sp_spellRow r_sp_spellTimes r_sp_spellBest r_sp_spellParts d hr_sp_spell hr_sp_spellRow hr_sp_spellTimes hr_sp_spellBest hr_sp_spellParts  M so _  hs
theorem tie_sp_spellBest_54 (r_sp_spell : Nat → Option Nat → Int32 → zM → Option (zM)) (r_sp_spellRow : Nat → Option Nat → Option Nat → Int32 → zM → Option (zM)) (r_sp_spellTimes : Nat → Option Nat → Int32 → Int32 → zM → Option (zM)) (r_sp_spellBest : Nat → Option Nat → Int32 → zM → Option (zM)) (r_sp_spellParts : Nat → Option Nat → Int32 → Int32 → zM → Option (zM)) (kl11 : Nat → Option Nat → Int32 → Int32 → Option Nat → zM → Option (zM)) (d : Nat) (hr_sp_spell : ∀ a0 a1 a2 M so, r_sp_spell a0 a1 a2 M = some so → Ev zq_T d 231 0 (zl_args 0 [.inr (.inr (7, some a0)), .inr (.inr (3, a1)), .inl a2]) [] M (none, so)) (hr_sp_spellRow : ∀ a0 a1 a2 a3 M so, r_sp_spellRow a0 a1 a2 a3 M = some so → Ev zq_T d 232 0 (zl_args 0 [.inr (.inr (7, some a0)), .inr (.inr (3, a1)), .inr (.inr (3, a2)), .inl a3]) [] M (none, so)) (hr_sp_spellTimes : ∀ a0 a1 a2 a3 M so, r_sp_spellTimes a0 a1 a2 a3 M = some so → Ev zq_T d 233 0 (zl_args 0 [.inr (.inr (7, some a0)), .inr (.inr (3, a1)), .inl a2, .inl a3]) [] M (none, so)) (hr_sp_spellBest : ∀ a0 a1 a2 M so, r_sp_spellBest a0 a1 a2 M = some so → Ev zq_T d 234 0 (zl_args 0 [.inr (.inr (7, some a0)), .inr (.inr (3, a1)), .inl a2]) [] M (none, so)) (hr_sp_spellParts : ∀ a0 a1 a2 a3 M so, r_sp_spellParts a0 a1 a2 a3 M = some so → Ev zq_T d 236 0 (zl_args 0 [.inr (.inr (7, some a0)), .inr (.inr (3, a1)), .inl a2, .inl a3]) [] M (none, so)) (hk11 : ∀ (t0 : Nat) (v1 : Option Nat) (v2 : Int32) (v3 : Int32) (v4 : Option Nat) (M : zM) (so : zM) (ls : List (Nat × zV)), zl_get ls 0 = some (.inr (.inr (7, (some t0)))) → zl_get ls 1 = some (.inr (.inr (3, v1))) → zl_get ls 2 = some (.inl v2) → zl_get ls 3 = some (.inl v3) → zl_get ls 4 = some (.inr (.inr (3, v4))) → kl11 t0 v1 v2 v3 v4 M = some so → Ev zq_T (d + 1) 234 11 ls [] M (none, so)) (t0 : Nat) (v1 : Option Nat) (v2 : Int32) (v3 : Int32) (v4 : Option Nat) (M : zM) (so : zM) (ls : List (Nat × zV)) (g0 : zl_get ls 0 = some (.inr (.inr (7, (some t0))))) (g1 : zl_get ls 1 = some (.inr (.inr (3, v1)))) (g2 : zl_get ls 2 = some (.inl v2)) (g3 : zl_get ls 3 = some (.inl v3)) (g4 : zl_get ls 4 = some (.inr (.inr (3, v4)))) (hs : sp_spellBest_54 r_sp_spell r_sp_spellRow r_sp_spellTimes r_sp_spellBest r_sp_spellParts kl11 d t0 v1 v2 v3 v4 M = some so) : Ev zq_T (d + 1) 234 54 ls [] M (none, so) := by
  unfold sp_spellBest_54 at hs
  refine e_ald cd_234_54 g4 ?_
  refine k_opt hs (fun _ q => nomatch q) (fun k1 h2 hs => ?_)
  refine e_getR cd_234_56 fd_234_76 h2 ?_
  refine e_aK cd_234_59 nl_234 rfl rfl ?_
  intro _ gn kp
  have u3 := kp 0 _ g0 rfl rfl
  have u4 := kp 1 _ g1 rfl rfl
  have u5 := kp 2 _ g2 rfl rfl
  have u6 := kp 3 _ g3 rfl rfl
  have u7 := gn
  refine e_goto cd_234_61 rfl ?_
  exact hk11 t0 v1 v2 v3 (zm_R M 3 k1 7) M so _ u3 u4 u5 u6 u7 hs
theorem tie_sp_spellBest_11 (r_sp_spell : Nat → Option Nat → Int32 → zM → Option (zM)) (r_sp_spellRow : Nat → Option Nat → Option Nat → Int32 → zM → Option (zM)) (r_sp_spellTimes : Nat → Option Nat → Int32 → Int32 → zM → Option (zM)) (r_sp_spellBest : Nat → Option Nat → Int32 → zM → Option (zM)) (r_sp_spellParts : Nat → Option Nat → Int32 → Int32 → zM → Option (zM)) (d : Nat) (hr_sp_spell : ∀ a0 a1 a2 M so, r_sp_spell a0 a1 a2 M = some so → Ev zq_T d 231 0 (zl_args 0 [.inr (.inr (7, some a0)), .inr (.inr (3, a1)), .inl a2]) [] M (none, so)) (hr_sp_spellRow : ∀ a0 a1 a2 a3 M so, r_sp_spellRow a0 a1 a2 a3 M = some so → Ev zq_T d 232 0 (zl_args 0 [.inr (.inr (7, some a0)), .inr (.inr (3, a1)), .inr (.inr (3, a2)), .inl a3]) [] M (none, so)) (hr_sp_spellTimes : ∀ a0 a1 a2 a3 M so, r_sp_spellTimes a0 a1 a2 a3 M = some so → Ev zq_T d 233 0 (zl_args 0 [.inr (.inr (7, some a0)), .inr (.inr (3, a1)), .inl a2, .inl a3]) [] M (none, so)) (hr_sp_spellBest : ∀ a0 a1 a2 M so, r_sp_spellBest a0 a1 a2 M = some so → Ev zq_T d 234 0 (zl_args 0 [.inr (.inr (7, some a0)), .inr (.inr (3, a1)), .inl a2]) [] M (none, so)) (hr_sp_spellParts : ∀ a0 a1 a2 a3 M so, r_sp_spellParts a0 a1 a2 a3 M = some so → Ev zq_T d 236 0 (zl_args 0 [.inr (.inr (7, some a0)), .inr (.inr (3, a1)), .inl a2, .inl a3]) [] M (none, so)) : ∀ (fuel : Nat) (t0 : Nat) (v1 : Option Nat) (v2 : Int32) (v3 : Int32) (v4 : Option Nat) (M : zM) (so : zM) (ls : List (Nat × zV)), zl_get ls 0 = some (.inr (.inr (7, (some t0)))) → zl_get ls 1 = some (.inr (.inr (3, v1))) → zl_get ls 2 = some (.inl v2) → zl_get ls 3 = some (.inl v3) → zl_get ls 4 = some (.inr (.inr (3, v4))) → sp_spellBest_11 r_sp_spell r_sp_spellRow r_sp_spellTimes r_sp_spellBest r_sp_spellParts d fuel t0 v1 v2 v3 v4 M = some so → Ev zq_T (d + 1) 234 11 ls [] M (none, so) := by
  intro fuel
  induction fuel with
  | zero => intro t0 v1 v2 v3 v4 M so ls g0 g1 g2 g3 g4 hs; exact nomatch hs
  | succ fuel ih =>
    intro t0 v1 v2 v3 v4 M so ls g0 g1 g2 g3 g4 hs
    unfold sp_spellBest_11 at hs
    refine e_ald cd_234_11 g4 ?_
    refine k_opt hs (fun h1 hs => ?_) (fun k2 h1 hs => ?_)
    · refine e_nu0 cd_234_13 rfl h1 ?_
      have e := Option.some.inj hs
      subst e
      exact e_rv cd_234_64 nr_234
    · refine e_nu1 cd_234_13 rfl h1 ?_
      refine e_ald cd_234_16 g4 ?_
      refine e_getI cd_234_18 (Or.inl fd_234_62) h1 ?_
      refine e_aldn cd_234_21 g1 ?_
      refine k_opt hs (fun _ q => nomatch q) (fun k3 h4 hs => ?_)
      refine e_getI cd_234_22 (Or.inl fd_234_62) h4 ?_
      refine k_if hs (fun c5 hs => ?_) (fun c5 hs => ?_)
      · refine e_icN cd_234_25 rfl (fun q => q c5) ?_
        refine e_aldn cd_234_28 g0 ?_
        refine e_getI cd_234_29 (Or.inl fd_234_31) rfl ?_
        refine k_let hs (fun x6 e7 hs => ?_)
        refine e_iK cd_234_32 nl_234 rfl e7 ?_
        intro _ gn kp
        have u8 := kp 0 _ g0 rfl rfl
        have u9 := kp 1 _ g1 rfl rfl
        have u10 := kp 2 _ g2 rfl rfl
        have u11 := kp 3 _ g3 rfl rfl
        have u12 := kp 4 _ g4 rfl rfl
        have u13 := gn
        refine e_aldn cd_234_34 u8 ?_
        refine e_ald cd_234_35 u12 ?_
        refine e_ildn cd_234_37 u10 ?_
        obtain ⟨q14, h15, hs⟩ := k_bind hs
        refine e_cvi cd_234_38 kd_234_39 rfl rfl rfl rfl rfl nl_231 rfl rfl (hr_sp_spell t0 v4 v2 M _ h15) ?_
        refine e_ild cd_234_41 u13 ?_
        refine e_ildn cd_234_43 u11 ?_
        refine k_if hs (fun c16 hs => ?_) (fun c16 hs => ?_)
        · refine e_icJ cd_234_44 rfl c16 ?_
          exact tie_sp_spellBest_54 r_sp_spell r_sp_spellRow r_sp_spellTimes r_sp_spellBest r_sp_spellParts (fun p0 p1 p2 p3 p4 m => sp_spellBest_11 r_sp_spell r_sp_spellRow r_sp_spellTimes r_sp_spellBest r_sp_spellParts d fuel p0 p1 p2 p3 p4 m) d hr_sp_spell hr_sp_spellRow hr_sp_spellTimes hr_sp_spellBest hr_sp_spellParts ih t0 v1 v2 v3 v4 q14 so _ u8 u9 u10 u11 u12 hs
        · refine e_icN cd_234_44 rfl c16 ?_
          refine e_aldn cd_234_47 u8 ?_
          refine e_ildn cd_234_48 u11 ?_
          refine e_ild cd_234_49 u13 ?_
          obtain ⟨q17, h18, hs⟩ := k_bind hs
          refine e_cvi cd_234_51 kd_234_113 rfl rfl rfl rfl rfl nl_235 rfl rfl (tie_sp_keepFirst d t0 v3 x6 q14 _ h18) ?_
          exact tie_sp_spellBest_54 r_sp_spell r_sp_spellRow r_sp_spellTimes r_sp_spellBest r_sp_spellParts (fun p0 p1 p2 p3 p4 m => sp_spellBest_11 r_sp_spell r_sp_spellRow r_sp_spellTimes r_sp_spellBest r_sp_spellParts d fuel p0 p1 p2 p3 p4 m) d hr_sp_spell hr_sp_spellRow hr_sp_spellTimes hr_sp_spellBest hr_sp_spellParts ih t0 v1 v2 v3 v4 q17 so _ u8 u9 u10 u11 u12 hs
      · refine e_icJ cd_234_25 rfl c5 ?_
        exact tie_sp_spellBest_54 r_sp_spell r_sp_spellRow r_sp_spellTimes r_sp_spellBest r_sp_spellParts (fun p0 p1 p2 p3 p4 m => sp_spellBest_11 r_sp_spell r_sp_spellRow r_sp_spellTimes r_sp_spellBest r_sp_spellParts d fuel p0 p1 p2 p3 p4 m) d hr_sp_spell hr_sp_spellRow hr_sp_spellTimes hr_sp_spellBest hr_sp_spellParts ih t0 v1 v2 v3 v4 M so _ g0 g1 g2 g3 g4 hs
theorem tieb_sp_spellBest (r_sp_spell : Nat → Option Nat → Int32 → zM → Option (zM)) (r_sp_spellRow : Nat → Option Nat → Option Nat → Int32 → zM → Option (zM)) (r_sp_spellTimes : Nat → Option Nat → Int32 → Int32 → zM → Option (zM)) (r_sp_spellBest : Nat → Option Nat → Int32 → zM → Option (zM)) (r_sp_spellParts : Nat → Option Nat → Int32 → Int32 → zM → Option (zM)) (d : Nat) (hr_sp_spell : ∀ a0 a1 a2 M so, r_sp_spell a0 a1 a2 M = some so → Ev zq_T d 231 0 (zl_args 0 [.inr (.inr (7, some a0)), .inr (.inr (3, a1)), .inl a2]) [] M (none, so)) (hr_sp_spellRow : ∀ a0 a1 a2 a3 M so, r_sp_spellRow a0 a1 a2 a3 M = some so → Ev zq_T d 232 0 (zl_args 0 [.inr (.inr (7, some a0)), .inr (.inr (3, a1)), .inr (.inr (3, a2)), .inl a3]) [] M (none, so)) (hr_sp_spellTimes : ∀ a0 a1 a2 a3 M so, r_sp_spellTimes a0 a1 a2 a3 M = some so → Ev zq_T d 233 0 (zl_args 0 [.inr (.inr (7, some a0)), .inr (.inr (3, a1)), .inl a2, .inl a3]) [] M (none, so)) (hr_sp_spellBest : ∀ a0 a1 a2 M so, r_sp_spellBest a0 a1 a2 M = some so → Ev zq_T d 234 0 (zl_args 0 [.inr (.inr (7, some a0)), .inr (.inr (3, a1)), .inl a2]) [] M (none, so)) (hr_sp_spellParts : ∀ a0 a1 a2 a3 M so, r_sp_spellParts a0 a1 a2 a3 M = some so → Ev zq_T d 236 0 (zl_args 0 [.inr (.inr (7, some a0)), .inr (.inr (3, a1)), .inl a2, .inl a3]) [] M (none, so)) (a0 : Nat) (a1 : Option Nat) (a2 : Int32) (M : zM) (so : zM) (hs : sp_spellBest_b r_sp_spell r_sp_spellRow r_sp_spellTimes r_sp_spellBest r_sp_spellParts d a0 a1 a2 M = some so) : Ev zq_T (d + 1) 234 0 (zl_args 0 [.inr (.inr (7, some a0)), .inr (.inr (3, a1)), .inl a2]) [] M (none, so) := by
  unfold sp_spellBest_b at hs
  have g0 : zl_get (zl_args 0 [.inr (.inr (7, some a0)), .inr (.inr (3, a1)), .inl a2]) 0 = some (.inr (.inr (7, (some a0)))) := rfl
  have g1 : zl_get (zl_args 0 [.inr (.inr (7, some a0)), .inr (.inr (3, a1)), .inl a2]) 1 = some (.inr (.inr (3, a1))) := rfl
  have g2 : zl_get (zl_args 0 [.inr (.inr (7, some a0)), .inr (.inr (3, a1)), .inl a2]) 2 = some (.inl a2) := rfl
  refine e_aldn cd_234_0 g0 ?_
  refine e_getI cd_234_1 (Or.inl fd_234_31) rfl ?_
  refine k_let hs (fun x1 e2 hs => ?_)
  refine e_iKn cd_234_4 nl_234 rfl e2 ?_
  intro _ gn kp
  have u3 := kp 0 _ g0 rfl rfl
  have u4 := kp 1 _ g1 rfl rfl
  have u5 := kp 2 _ g2 rfl rfl
  have u6 := gn
  refine e_aldn cd_234_5 u4 ?_
  refine k_opt hs (fun _ q => nomatch q) (fun k7 h8 hs => ?_)
  refine e_getR cd_234_6 fd_234_73 h8 ?_
  refine e_aK cd_234_9 nl_234 rfl rfl ?_
  intro _ gn kp
  have u9 := kp 0 _ u3 rfl rfl
  have u10 := kp 1 _ u4 rfl rfl
  have u11 := kp 2 _ u5 rfl rfl
  have u12 := kp 3 _ u6 rfl rfl
  have u13 := gn
  exact tie_sp_spellBest_11 r_sp_spell r_sp_spellRow r_sp_spellTimes r_sp_spellBest r_sp_spellParts d hr_sp_spell hr_sp_spellRow hr_sp_spellTimes hr_sp_spellBest hr_sp_spellParts zLF a0 a1 a2 x1 (zm_R M 3 k7 5) M so _ u9 u10 u11 u12 u13 hs
theorem tie_sp_spellParts_57 (r_sp_spell : Nat → Option Nat → Int32 → zM → Option (zM)) (r_sp_spellRow : Nat → Option Nat → Option Nat → Int32 → zM → Option (zM)) (r_sp_spellTimes : Nat → Option Nat → Int32 → Int32 → zM → Option (zM)) (r_sp_spellBest : Nat → Option Nat → Int32 → zM → Option (zM)) (r_sp_spellParts : Nat → Option Nat → Int32 → Int32 → zM → Option (zM)) (kl12 : Nat → Int32 → Int32 → Int64 → Int32 → Option Nat → zM → Option (zM)) (d : Nat) (hr_sp_spell : ∀ a0 a1 a2 M so, r_sp_spell a0 a1 a2 M = some so → Ev zq_T d 231 0 (zl_args 0 [.inr (.inr (7, some a0)), .inr (.inr (3, a1)), .inl a2]) [] M (none, so)) (hr_sp_spellRow : ∀ a0 a1 a2 a3 M so, r_sp_spellRow a0 a1 a2 a3 M = some so → Ev zq_T d 232 0 (zl_args 0 [.inr (.inr (7, some a0)), .inr (.inr (3, a1)), .inr (.inr (3, a2)), .inl a3]) [] M (none, so)) (hr_sp_spellTimes : ∀ a0 a1 a2 a3 M so, r_sp_spellTimes a0 a1 a2 a3 M = some so → Ev zq_T d 233 0 (zl_args 0 [.inr (.inr (7, some a0)), .inr (.inr (3, a1)), .inl a2, .inl a3]) [] M (none, so)) (hr_sp_spellBest : ∀ a0 a1 a2 M so, r_sp_spellBest a0 a1 a2 M = some so → Ev zq_T d 234 0 (zl_args 0 [.inr (.inr (7, some a0)), .inr (.inr (3, a1)), .inl a2]) [] M (none, so)) (hr_sp_spellParts : ∀ a0 a1 a2 a3 M so, r_sp_spellParts a0 a1 a2 a3 M = some so → Ev zq_T d 236 0 (zl_args 0 [.inr (.inr (7, some a0)), .inr (.inr (3, a1)), .inl a2, .inl a3]) [] M (none, so)) (hk12 : ∀ (t0 : Nat) (v2 : Int32) (v3 : Int32) (v4 : Int64) (v6 : Int32) (v7 : Option Nat) (M : zM) (so : zM) (ls : List (Nat × zV)), zl_get ls 0 = some (.inr (.inr (7, (some t0)))) → zl_get ls 2 = some (.inl v2) → zl_get ls 3 = some (.inl v3) → zl_get ls 4 = some (.inr (.inl v4)) → zl_get ls 6 = some (.inl v6) → zl_get ls 7 = some (.inr (.inr (3, v7))) → kl12 t0 v2 v3 v4 v6 v7 M = some so → Ev zq_T (d + 1) 236 12 ls [] M (none, so)) (t0 : Nat) (v2 : Int32) (v3 : Int32) (v4 : Int64) (v6 : Int32) (v7 : Option Nat) (M : zM) (so : zM) (ls : List (Nat × zV)) (g0 : zl_get ls 0 = some (.inr (.inr (7, (some t0))))) (g2 : zl_get ls 2 = some (.inl v2)) (g3 : zl_get ls 3 = some (.inl v3)) (g4 : zl_get ls 4 = some (.inr (.inl v4))) (g6 : zl_get ls 6 = some (.inl v6)) (g7 : zl_get ls 7 = some (.inr (.inr (3, v7)))) (hs : sp_spellParts_57 r_sp_spell r_sp_spellRow r_sp_spellTimes r_sp_spellBest r_sp_spellParts kl12 d t0 v2 v3 v4 v6 v7 M = some so) : Ev zq_T (d + 1) 236 57 ls [] M (none, so) := by
  unfold sp_spellParts_57 at hs
  refine e_ald cd_236_57 g7 ?_
  refine k_opt hs (fun _ q => nomatch q) (fun k1 h2 hs => ?_)
  refine e_getR cd_236_59 fd_236_76 h2 ?_
  refine e_aK cd_236_62 nl_236 rfl rfl ?_
  intro _ gn kp
  have u3 := kp 0 _ g0 rfl rfl
  have u4 := kp 2 _ g2 rfl rfl
  have u5 := kp 3 _ g3 rfl rfl
  have u6 := kp 4 _ g4 rfl rfl
  have u7 := kp 6 _ g6 rfl rfl
  have u8 := gn
  refine e_goto cd_236_64 rfl ?_
  exact hk12 t0 v2 v3 v4 v6 (zm_R M 3 k1 7) M so _ u3 u4 u5 u6 u7 u8 hs
theorem tie_sp_spellParts_12 (r_sp_spell : Nat → Option Nat → Int32 → zM → Option (zM)) (r_sp_spellRow : Nat → Option Nat → Option Nat → Int32 → zM → Option (zM)) (r_sp_spellTimes : Nat → Option Nat → Int32 → Int32 → zM → Option (zM)) (r_sp_spellBest : Nat → Option Nat → Int32 → zM → Option (zM)) (r_sp_spellParts : Nat → Option Nat → Int32 → Int32 → zM → Option (zM)) (d : Nat) (hr_sp_spell : ∀ a0 a1 a2 M so, r_sp_spell a0 a1 a2 M = some so → Ev zq_T d 231 0 (zl_args 0 [.inr (.inr (7, some a0)), .inr (.inr (3, a1)), .inl a2]) [] M (none, so)) (hr_sp_spellRow : ∀ a0 a1 a2 a3 M so, r_sp_spellRow a0 a1 a2 a3 M = some so → Ev zq_T d 232 0 (zl_args 0 [.inr (.inr (7, some a0)), .inr (.inr (3, a1)), .inr (.inr (3, a2)), .inl a3]) [] M (none, so)) (hr_sp_spellTimes : ∀ a0 a1 a2 a3 M so, r_sp_spellTimes a0 a1 a2 a3 M = some so → Ev zq_T d 233 0 (zl_args 0 [.inr (.inr (7, some a0)), .inr (.inr (3, a1)), .inl a2, .inl a3]) [] M (none, so)) (hr_sp_spellBest : ∀ a0 a1 a2 M so, r_sp_spellBest a0 a1 a2 M = some so → Ev zq_T d 234 0 (zl_args 0 [.inr (.inr (7, some a0)), .inr (.inr (3, a1)), .inl a2]) [] M (none, so)) (hr_sp_spellParts : ∀ a0 a1 a2 a3 M so, r_sp_spellParts a0 a1 a2 a3 M = some so → Ev zq_T d 236 0 (zl_args 0 [.inr (.inr (7, some a0)), .inr (.inr (3, a1)), .inl a2, .inl a3]) [] M (none, so)) : ∀ (fuel : Nat) (t0 : Nat) (v2 : Int32) (v3 : Int32) (v4 : Int64) (v6 : Int32) (v7 : Option Nat) (M : zM) (so : zM) (ls : List (Nat × zV)), zl_get ls 0 = some (.inr (.inr (7, (some t0)))) → zl_get ls 2 = some (.inl v2) → zl_get ls 3 = some (.inl v3) → zl_get ls 4 = some (.inr (.inl v4)) → zl_get ls 6 = some (.inl v6) → zl_get ls 7 = some (.inr (.inr (3, v7))) → sp_spellParts_12 r_sp_spell r_sp_spellRow r_sp_spellTimes r_sp_spellBest r_sp_spellParts d fuel t0 v2 v3 v4 v6 v7 M = some so → Ev zq_T (d + 1) 236 12 ls [] M (none, so) := by
  intro fuel
  induction fuel with
  | zero => intro t0 v2 v3 v4 v6 v7 M so ls g0 g2 g3 g4 g6 g7 hs; exact nomatch hs
  | succ fuel ih =>
    intro t0 v2 v3 v4 v6 v7 M so ls g0 g2 g3 g4 g6 g7 hs
    unfold sp_spellParts_12 at hs
    refine e_ald cd_236_12 g7 ?_
    refine k_opt hs (fun h1 hs => ?_) (fun k2 h1 hs => ?_)
    · refine e_nu0 cd_236_14 rfl h1 ?_
      have e := Option.some.inj hs
      subst e
      exact e_rv cd_236_67 nr_236
    · refine e_nu1 cd_236_14 rfl h1 ?_
      refine e_ildn cd_236_17 g2 ?_
      refine e_ald cd_236_18 g7 ?_
      refine e_getI cd_236_20 (Or.inl fd_236_79) h1 ?_
      refine e_pure cd_236_23 rfl ?_
      refine e_const cd_236_24 ci_1 ?_
      refine e_pure cd_236_25 rfl ?_
      refine k_if hs (fun c3 hs => ?_) (fun c3 hs => ?_)
      · refine e_izJ cd_236_26 rfl c3 ?_
        exact tie_sp_spellParts_57 r_sp_spell r_sp_spellRow r_sp_spellTimes r_sp_spellBest r_sp_spellParts (fun p0 p1 p2 p3 p4 p5 m => sp_spellParts_12 r_sp_spell r_sp_spellRow r_sp_spellTimes r_sp_spellBest r_sp_spellParts d fuel p0 p1 p2 p3 p4 p5 m) d hr_sp_spell hr_sp_spellRow hr_sp_spellTimes hr_sp_spellBest hr_sp_spellParts ih t0 v2 v3 v4 v6 v7 M so _ g0 g2 g3 g4 g6 g7 hs
      · refine e_izN cd_236_26 rfl c3 ?_
        refine e_aldn cd_236_29 g0 ?_
        refine e_getI cd_236_30 (Or.inl fd_236_31) rfl ?_
        refine k_let hs (fun x4 e5 hs => ?_)
        refine e_iK cd_236_33 nl_236 rfl e5 ?_
        intro _ gn kp
        have u6 := kp 0 _ g0 rfl rfl
        have u7 := kp 2 _ g2 rfl rfl
        have u8 := kp 3 _ g3 rfl rfl
        have u9 := kp 4 _ g4 rfl rfl
        have u10 := kp 6 _ g6 rfl rfl
        have u11 := kp 7 _ g7 rfl rfl
        have u12 := gn
        refine e_aldn cd_236_35 u6 ?_
        refine e_ald cd_236_36 u11 ?_
        refine e_ildn cd_236_38 u8 ?_
        obtain ⟨q13, h14, hs⟩ := k_bind hs
        refine e_cvi cd_236_39 kd_236_39 rfl rfl rfl rfl rfl nl_231 rfl rfl (hr_sp_spell t0 v7 v3 M _ h14) ?_
        refine e_aldn cd_236_42 u6 ?_
        refine e_ild cd_236_43 u12 ?_
        refine e_lld cd_236_45 u9 ?_
        refine e_ild cd_236_47 u10 ?_
        obtain ⟨q15, h16, hs⟩ := k_bind hs
        refine e_cvi cd_236_49 kd_236_123 rfl rfl rfl rfl rfl nl_237 rfl rfl (tie_sp_sortIn d t0 x4 v4 v6 q13 _ h16) ?_
        refine e_lK cd_236_52 nl_236 rfl rfl ?_
        intro _ gn kp
        have u17 := kp 0 _ u6 rfl rfl
        have u18 := kp 2 _ u7 rfl rfl
        have u19 := kp 3 _ u8 rfl rfl
        have u20 := kp 6 _ u10 rfl rfl
        have u21 := kp 7 _ u11 rfl rfl
        have u22 := gn
        refine k_let hs (fun x23 e24 hs => ?_)
        refine e_incK cd_236_54 nl_236 rfl u20 ci_1 e24 ?_
        intro _ gn kp
        have u25 := kp 0 _ u17 rfl rfl
        have u26 := kp 2 _ u18 rfl rfl
        have u27 := kp 3 _ u19 rfl rfl
        have u28 := kp 7 _ u21 rfl rfl
        have u29 := kp 4 _ u22 rfl rfl
        have u30 := gn
        exact tie_sp_spellParts_57 r_sp_spell r_sp_spellRow r_sp_spellTimes r_sp_spellBest r_sp_spellParts (fun p0 p1 p2 p3 p4 p5 m => sp_spellParts_12 r_sp_spell r_sp_spellRow r_sp_spellTimes r_sp_spellBest r_sp_spellParts d fuel p0 p1 p2 p3 p4 p5 m) d hr_sp_spell hr_sp_spellRow hr_sp_spellTimes hr_sp_spellBest hr_sp_spellParts ih t0 v2 v3 q15.1 x23 v7 q15.2 so _ u25 u26 u27 u29 u30 u28 hs
theorem tieb_sp_spellParts (r_sp_spell : Nat → Option Nat → Int32 → zM → Option (zM)) (r_sp_spellRow : Nat → Option Nat → Option Nat → Int32 → zM → Option (zM)) (r_sp_spellTimes : Nat → Option Nat → Int32 → Int32 → zM → Option (zM)) (r_sp_spellBest : Nat → Option Nat → Int32 → zM → Option (zM)) (r_sp_spellParts : Nat → Option Nat → Int32 → Int32 → zM → Option (zM)) (d : Nat) (hr_sp_spell : ∀ a0 a1 a2 M so, r_sp_spell a0 a1 a2 M = some so → Ev zq_T d 231 0 (zl_args 0 [.inr (.inr (7, some a0)), .inr (.inr (3, a1)), .inl a2]) [] M (none, so)) (hr_sp_spellRow : ∀ a0 a1 a2 a3 M so, r_sp_spellRow a0 a1 a2 a3 M = some so → Ev zq_T d 232 0 (zl_args 0 [.inr (.inr (7, some a0)), .inr (.inr (3, a1)), .inr (.inr (3, a2)), .inl a3]) [] M (none, so)) (hr_sp_spellTimes : ∀ a0 a1 a2 a3 M so, r_sp_spellTimes a0 a1 a2 a3 M = some so → Ev zq_T d 233 0 (zl_args 0 [.inr (.inr (7, some a0)), .inr (.inr (3, a1)), .inl a2, .inl a3]) [] M (none, so)) (hr_sp_spellBest : ∀ a0 a1 a2 M so, r_sp_spellBest a0 a1 a2 M = some so → Ev zq_T d 234 0 (zl_args 0 [.inr (.inr (7, some a0)), .inr (.inr (3, a1)), .inl a2]) [] M (none, so)) (hr_sp_spellParts : ∀ a0 a1 a2 a3 M so, r_sp_spellParts a0 a1 a2 a3 M = some so → Ev zq_T d 236 0 (zl_args 0 [.inr (.inr (7, some a0)), .inr (.inr (3, a1)), .inl a2, .inl a3]) [] M (none, so)) (a0 : Nat) (a1 : Option Nat) (a2 : Int32) (a3 : Int32) (M : zM) (so : zM) (hs : sp_spellParts_b r_sp_spell r_sp_spellRow r_sp_spellTimes r_sp_spellBest r_sp_spellParts d a0 a1 a2 a3 M = some so) : Ev zq_T (d + 1) 236 0 (zl_args 0 [.inr (.inr (7, some a0)), .inr (.inr (3, a1)), .inl a2, .inl a3]) [] M (none, so) := by
  unfold sp_spellParts_b at hs
  have g0 : zl_get (zl_args 0 [.inr (.inr (7, some a0)), .inr (.inr (3, a1)), .inl a2, .inl a3]) 0 = some (.inr (.inr (7, (some a0)))) := rfl
  have g1 : zl_get (zl_args 0 [.inr (.inr (7, some a0)), .inr (.inr (3, a1)), .inl a2, .inl a3]) 1 = some (.inr (.inr (3, a1))) := rfl
  have g2 : zl_get (zl_args 0 [.inr (.inr (7, some a0)), .inr (.inr (3, a1)), .inl a2, .inl a3]) 2 = some (.inl a2) := rfl
  have g3 : zl_get (zl_args 0 [.inr (.inr (7, some a0)), .inr (.inr (3, a1)), .inl a2, .inl a3]) 3 = some (.inl a3) := rfl
  refine e_lcon cd_236_0 cl_0 ?_
  refine e_lK cd_236_1 nl_236 rfl rfl ?_
  intro _ gn kp
  have u1 := kp 0 _ g0 rfl rfl
  have u2 := kp 1 _ g1 rfl rfl
  have u3 := kp 2 _ g2 rfl rfl
  have u4 := kp 3 _ g3 rfl rfl
  have u5 := gn
  refine e_const cd_236_3 ci_0 ?_
  refine e_iK cd_236_4 nl_236 rfl rfl ?_
  intro _ gn kp
  have u6 := kp 0 _ u1 rfl rfl
  have u7 := kp 1 _ u2 rfl rfl
  have u8 := kp 2 _ u3 rfl rfl
  have u9 := kp 3 _ u4 rfl rfl
  have u10 := kp 4 _ u5 rfl rfl
  have u11 := gn
  refine e_aldn cd_236_6 u7 ?_
  refine k_opt hs (fun _ q => nomatch q) (fun k12 h13 hs => ?_)
  refine e_getR cd_236_7 fd_236_73 h13 ?_
  refine e_aK cd_236_10 nl_236 rfl rfl ?_
  intro _ gn kp
  have u14 := kp 0 _ u6 rfl rfl
  have u15 := kp 2 _ u8 rfl rfl
  have u16 := kp 3 _ u9 rfl rfl
  have u17 := kp 4 _ u10 rfl rfl
  have u18 := kp 6 _ u11 rfl rfl
  have u19 := gn
  exact tie_sp_spellParts_12 r_sp_spell r_sp_spellRow r_sp_spellTimes r_sp_spellBest r_sp_spellParts d hr_sp_spell hr_sp_spellRow hr_sp_spellTimes hr_sp_spellBest hr_sp_spellParts zLF a0 a2 a3 0 0 (zm_R M 3 k12 5) M so _ u14 u15 u16 u17 u18 u19 hs
theorem tieg_gsp_spell (d : Nat) : (∀ (a0 : Nat) (a1 : Option Nat) (a2 : Int32) (M : zM) (so : zM), (gsp_spell d).1 a0 a1 a2 M = some so → Ev zq_T d 231 0 (zl_args 0 [.inr (.inr (7, some a0)), .inr (.inr (3, a1)), .inl a2]) [] M (none, so)) ∧ (∀ (a0 : Nat) (a1 : Option Nat) (a2 : Option Nat) (a3 : Int32) (M : zM) (so : zM), (gsp_spell d).2.1 a0 a1 a2 a3 M = some so → Ev zq_T d 232 0 (zl_args 0 [.inr (.inr (7, some a0)), .inr (.inr (3, a1)), .inr (.inr (3, a2)), .inl a3]) [] M (none, so)) ∧ (∀ (a0 : Nat) (a1 : Option Nat) (a2 : Int32) (a3 : Int32) (M : zM) (so : zM), (gsp_spell d).2.2.1 a0 a1 a2 a3 M = some so → Ev zq_T d 233 0 (zl_args 0 [.inr (.inr (7, some a0)), .inr (.inr (3, a1)), .inl a2, .inl a3]) [] M (none, so)) ∧ (∀ (a0 : Nat) (a1 : Option Nat) (a2 : Int32) (M : zM) (so : zM), (gsp_spell d).2.2.2.1 a0 a1 a2 M = some so → Ev zq_T d 234 0 (zl_args 0 [.inr (.inr (7, some a0)), .inr (.inr (3, a1)), .inl a2]) [] M (none, so)) ∧ (∀ (a0 : Nat) (a1 : Option Nat) (a2 : Int32) (a3 : Int32) (M : zM) (so : zM), (gsp_spell d).2.2.2.2 a0 a1 a2 a3 M = some so → Ev zq_T d 236 0 (zl_args 0 [.inr (.inr (7, some a0)), .inr (.inr (3, a1)), .inl a2, .inl a3]) [] M (none, so)) := by
  induction d with
  | zero => exact ⟨(fun a0 a1 a2 M so hs => nomatch hs), (fun a0 a1 a2 a3 M so hs => nomatch hs), (fun a0 a1 a2 a3 M so hs => nomatch hs), (fun a0 a1 a2 M so hs => nomatch hs), (fun a0 a1 a2 a3 M so hs => nomatch hs)⟩
  | succ d ih => exact ⟨fun a0 a1 a2 M so hs => tieb_sp_spell (gsp_spell d).1 (gsp_spell d).2.1 (gsp_spell d).2.2.1 (gsp_spell d).2.2.2.1 (gsp_spell d).2.2.2.2 d ih.1 ih.2.1 ih.2.2.1 ih.2.2.2.1 ih.2.2.2.2 a0 a1 a2 M so hs, fun a0 a1 a2 a3 M so hs => tieb_sp_spellRow (gsp_spell d).1 (gsp_spell d).2.1 (gsp_spell d).2.2.1 (gsp_spell d).2.2.2.1 (gsp_spell d).2.2.2.2 d ih.1 ih.2.1 ih.2.2.1 ih.2.2.2.1 ih.2.2.2.2 a0 a1 a2 a3 M so hs, fun a0 a1 a2 a3 M so hs => tieb_sp_spellTimes (gsp_spell d).1 (gsp_spell d).2.1 (gsp_spell d).2.2.1 (gsp_spell d).2.2.2.1 (gsp_spell d).2.2.2.2 d ih.1 ih.2.1 ih.2.2.1 ih.2.2.2.1 ih.2.2.2.2 a0 a1 a2 a3 M so hs, fun a0 a1 a2 M so hs => tieb_sp_spellBest (gsp_spell d).1 (gsp_spell d).2.1 (gsp_spell d).2.2.1 (gsp_spell d).2.2.2.1 (gsp_spell d).2.2.2.2 d ih.1 ih.2.1 ih.2.2.1 ih.2.2.2.1 ih.2.2.2.2 a0 a1 a2 M so hs, fun a0 a1 a2 a3 M so hs => tieb_sp_spellParts (gsp_spell d).1 (gsp_spell d).2.1 (gsp_spell d).2.2.1 (gsp_spell d).2.2.2.1 (gsp_spell d).2.2.2.2 d ih.1 ih.2.1 ih.2.2.1 ih.2.2.2.1 ih.2.2.2.2 a0 a1 a2 a3 M so hs⟩
theorem tie_sp_spell (d : Nat) (a0 : Nat) (a1 : Option Nat) (a2 : Int32) (M : zM) (so : zM) (hs : sp_spell d a0 a1 a2 M = some so) : Ev zq_T d 231 0 (zl_args 0 [.inr (.inr (7, some a0)), .inr (.inr (3, a1)), .inl a2]) [] M (none, so) := (tieg_gsp_spell d).1 a0 a1 a2 M so hs
theorem tie_sp_spellRow (d : Nat) (a0 : Nat) (a1 : Option Nat) (a2 : Option Nat) (a3 : Int32) (M : zM) (so : zM) (hs : sp_spellRow d a0 a1 a2 a3 M = some so) : Ev zq_T d 232 0 (zl_args 0 [.inr (.inr (7, some a0)), .inr (.inr (3, a1)), .inr (.inr (3, a2)), .inl a3]) [] M (none, so) := (tieg_gsp_spell d).2.1 a0 a1 a2 a3 M so hs
theorem tie_sp_spellTimes (d : Nat) (a0 : Nat) (a1 : Option Nat) (a2 : Int32) (a3 : Int32) (M : zM) (so : zM) (hs : sp_spellTimes d a0 a1 a2 a3 M = some so) : Ev zq_T d 233 0 (zl_args 0 [.inr (.inr (7, some a0)), .inr (.inr (3, a1)), .inl a2, .inl a3]) [] M (none, so) := (tieg_gsp_spell d).2.2.1 a0 a1 a2 a3 M so hs
theorem tie_sp_spellBest (d : Nat) (a0 : Nat) (a1 : Option Nat) (a2 : Int32) (M : zM) (so : zM) (hs : sp_spellBest d a0 a1 a2 M = some so) : Ev zq_T d 234 0 (zl_args 0 [.inr (.inr (7, some a0)), .inr (.inr (3, a1)), .inl a2]) [] M (none, so) := (tieg_gsp_spell d).2.2.2.1 a0 a1 a2 M so hs
theorem tie_sp_spellParts (d : Nat) (a0 : Nat) (a1 : Option Nat) (a2 : Int32) (a3 : Int32) (M : zM) (so : zM) (hs : sp_spellParts d a0 a1 a2 a3 M = some so) : Ev zq_T d 236 0 (zl_args 0 [.inr (.inr (7, some a0)), .inr (.inr (3, a1)), .inl a2, .inl a3]) [] M (none, so) := (tieg_gsp_spell d).2.2.2.2 a0 a1 a2 a3 M so hs
theorem tie_sp_spellShortest_61  (d : Nat)   (M : zM) (so : zM) (ls : List (Nat × zV))  (hs : sp_spellShortest_61  d  M = some so) : Ev zq_T (d + 1) 223 61 ls [] M (none, so) := by
  unfold sp_spellShortest_61 at hs
  have e := Option.some.inj hs
  subst e
  exact e_rv cd_223_61 nr_223
theorem tie_sp_spellShortest_28  (d : Nat)  : ∀ (fuel : Nat) (t0 : Nat) (v2 : Int32) (M : zM) (so : zM) (ls : List (Nat × zV)), zl_get ls 0 = some (.inr (.inr (7, (some t0)))) → zl_get ls 2 = some (.inl v2) → sp_spellShortest_28  d fuel t0 v2 M = some so → Ev zq_T (d + 1) 223 28 ls [] M (none, so) := by
  intro fuel
  induction fuel with
  | zero => intro t0 v2 M so ls g0 g2 hs; exact nomatch hs
  | succ fuel ih =>
    intro t0 v2 M so ls g0 g2 hs
    unfold sp_spellShortest_28 at hs
    refine e_ildn cd_223_28 g2 ?_
    refine e_aldn cd_223_29 g0 ?_
    refine e_getI cd_223_30 (Or.inl fd_223_31) rfl ?_
    refine k_if hs (fun c1 hs => ?_) (fun c1 hs => ?_)
    · refine e_icJ cd_223_33 rfl c1 ?_
      exact tie_sp_spellShortest_61  d   M so _  hs
    · refine e_icN cd_223_33 rfl c1 ?_
      refine e_ildn cd_223_36 g2 ?_
      refine e_sip cd_223_37 cs_2304 ?_
      refine k_if hs (fun c2 hs => ?_) (fun c2 hs => ?_)
      · refine e_icJ cd_223_40 rfl c2 ?_
        exact tie_sp_spellShortest_61  d   M so _  hs
      · refine e_icN cd_223_40 rfl c2 ?_
        refine e_aldn cd_223_43 g0 ?_
        refine e_getR cd_223_44 fd_223_15 rfl ?_
        refine e_ildn cd_223_47 g2 ?_
        refine e_aldn cd_223_48 g0 ?_
        refine e_getR cd_223_49 fd_223_11 rfl ?_
        refine e_ildn cd_223_52 g2 ?_
        refine k_opt hs (fun _ q => nomatch q) (fun k3 h4 hs => ?_)
        obtain ⟨c5, hs⟩ := z_ite hs
        refine e_iald cd_223_53 rfl h4 c5 ?_
        refine k_opt hs (fun _ q => nomatch q) (fun k6 h7 hs => ?_)
        obtain ⟨c8, hs⟩ := z_ite hs
        refine k_let hs (fun M9 e10 hs => ?_)
        refine e_iast cd_223_54 rfl h7 c8 e10 ?_
        refine k_let hs (fun x11 e12 hs => ?_)
        refine e_incK cd_223_55 nl_223 rfl g2 ci_1 e12 ?_
        intro _ gn kp
        have u13 := kp 0 _ g0 rfl rfl
        have u14 := gn
        refine e_goto cd_223_58 rfl ?_
        exact ih t0 x11 M9 so _ u13 u14 hs
theorem tie_sp_spellShortest_26  (d : Nat)  (t0 : Nat) (M : zM) (so : zM) (ls : List (Nat × zV)) (g0 : zl_get ls 0 = some (.inr (.inr (7, (some t0))))) (hs : sp_spellShortest_26  d t0 M = some so) : Ev zq_T (d + 1) 223 26 ls [] M (none, so) := by
  unfold sp_spellShortest_26 at hs
  refine e_const cd_223_26 ci_0 ?_
  refine e_iKn cd_223_27 nl_223 rfl rfl ?_
  intro _ gn kp
  have u1 := kp 0 _ g0 rfl rfl
  have u2 := gn
  exact tie_sp_spellShortest_28  d  zLF t0 0 M so _ u1 u2 hs
theorem tieb_sp_spellShortest  (d : Nat)  (a0 : Nat) (a1 : Option Nat) (M : zM) (so : zM) (hs : sp_spellShortest_b  d a0 a1 M = some so) : Ev zq_T (d + 1) 223 0 (zl_args 0 [.inr (.inr (7, some a0)), .inr (.inr (5, a1))]) [] M (none, so) := by
  unfold sp_spellShortest_b at hs
  have g0 : zl_get (zl_args 0 [.inr (.inr (7, some a0)), .inr (.inr (5, a1))]) 0 = some (.inr (.inr (7, (some a0)))) := rfl
  have g1 : zl_get (zl_args 0 [.inr (.inr (7, some a0)), .inr (.inr (5, a1))]) 1 = some (.inr (.inr (5, a1))) := rfl
  refine e_aldn cd_223_0 g0 ?_
  refine e_aldn cd_223_1 g1 ?_
  refine k_let hs (fun M1 e2 hs => ?_)
  refine e_putR cd_223_2 pd_223_27 rfl e2 ?_
  refine e_aldn cd_223_5 g0 ?_
  refine e_const cd_223_6 ci_0 ?_
  refine k_let hs (fun M3 e4 hs => ?_)
  refine e_putI cd_223_7 pd_223_31 rfl e4 ?_
  refine e_aldn cd_223_10 g1 ?_
  refine k_opt hs (fun _ q => nomatch q) (fun k5 h6 hs => ?_)
  refine e_getR cd_223_11 fd_223_35 h6 ?_
  refine k_opt hs (fun h7 hs => ?_) (fun k8 h7 hs => ?_)
  · refine e_nu0 cd_223_14 rfl h7 ?_
    exact tie_sp_spellShortest_26  d  a0 M3 so _ g0 hs
  · refine e_nu1 cd_223_14 rfl h7 ?_
    refine e_aldn cd_223_17 g0 ?_
    refine e_aldn cd_223_18 g1 ?_
    refine e_getR cd_223_19 fd_223_35 h6 ?_
    refine e_const cd_223_22 ci_0 ?_
    obtain ⟨q9, h10, hs⟩ := k_bind hs
    refine e_cvi cd_223_23 kd_223_39 rfl rfl rfl rfl rfl nl_231 rfl rfl (tie_sp_spell d a0 (zm_R M3 5 k5 1) 0 M3 _ h10) ?_
    exact tie_sp_spellShortest_26  d  a0 q9 so _ g0 hs
theorem tie_sp_spellShortest (d : Nat) (a0 : Nat) (a1 : Option Nat) (M : zM) (so : zM) (hs : sp_spellShortest d a0 a1 M = some so) : Ev zq_T d 223 0 (zl_args 0 [.inr (.inr (7, some a0)), .inr (.inr (5, a1))]) [] M (none, so) := by
  cases d with
  | zero => exact nomatch hs
  | succ d => exact tieb_sp_spellShortest d a0 a1 M so hs
theorem tie_sp_shortestLetter_21  (d : Nat)  (s0 : Int32) (M : zM) (so : Int32 × zM) (ls : List (Nat × zV))  (hs : sp_shortestLetter_21  d s0 M = some so) : Ev zq_T d 224 21 ls [.inl s0] M (some (.inl so.1), so.2) := by
  unfold sp_shortestLetter_21 at hs
  have e := Option.some.inj hs
  subst e
  exact e_ri cd_224_21 nr_224
theorem tie_sp_shortestLetter_20  (d : Nat)   (M : zM) (so : Int32 × zM) (ls : List (Nat × zV))  (hs : sp_shortestLetter_20  d  M = some so) : Ev zq_T d 224 20 ls [] M (some (.inl so.1), so.2) := by
  unfold sp_shortestLetter_20 at hs
  refine e_const cd_224_20 ci_m1 ?_
  exact tie_sp_shortestLetter_21  d  (-1) M so _  hs
theorem tie_sp_shortestLetter (d : Nat) (a0 : Nat) (a1 : Int32) (M : zM) (so : Int32 × zM) (hs : sp_shortestLetter d a0 a1 M = some so) : Ev zq_T d 224 0 (zl_args 0 [.inr (.inr (7, some a0)), .inl a1]) [] M (some (.inl so.1), so.2) := by
  unfold sp_shortestLetter at hs
  have g0 : zl_get (zl_args 0 [.inr (.inr (7, some a0)), .inl a1]) 0 = some (.inr (.inr (7, (some a0)))) := rfl
  have g1 : zl_get (zl_args 0 [.inr (.inr (7, some a0)), .inl a1]) 1 = some (.inl a1) := rfl
  refine e_ildn cd_224_0 g1 ?_
  refine k_if hs (fun c1 hs => ?_) (fun c1 hs => ?_)
  · refine e_izJ cd_224_1 rfl c1 ?_
    exact tie_sp_shortestLetter_20  d   M so _  hs
  · refine e_izN cd_224_1 rfl c1 ?_
    refine e_ildn cd_224_4 g1 ?_
    refine e_sip cd_224_5 cs_2304 ?_
    refine k_if hs (fun c2 hs => ?_) (fun c2 hs => ?_)
    · refine e_icJ cd_224_8 rfl c2 ?_
      exact tie_sp_shortestLetter_20  d   M so _  hs
    · refine e_icN cd_224_8 rfl c2 ?_
      refine e_aldn cd_224_11 g0 ?_
      refine e_getR cd_224_12 fd_224_15 rfl ?_
      refine e_ildn cd_224_15 g1 ?_
      refine k_opt hs (fun _ q => nomatch q) (fun k3 h4 hs => ?_)
      obtain ⟨c5, hs⟩ := z_ite hs
      refine e_iald cd_224_16 rfl h4 c5 ?_
      refine e_goto cd_224_17 rfl ?_
      exact tie_sp_shortestLetter_21  d  (zm_I M 20 k3 (a1 : Int32).toNatClampNeg) M so _  hs
theorem tie_sp_neededAhead_31  (d : Nat)  (v2 : Int32) (M : zM) (so : Int32 × zM) (ls : List (Nat × zV)) (g2 : zl_get ls 2 = some (.inl v2)) (hs : sp_neededAhead_31  d v2 M = some so) : Ev zq_T d 226 31 ls [] M (some (.inl so.1), so.2) := by
  unfold sp_neededAhead_31 at hs
  refine e_ildn cd_226_31 g2 ?_
  have e := Option.some.inj hs
  subst e
  exact e_ri cd_226_32 nr_226
theorem tie_sp_neededAhead_7  (d : Nat)  : ∀ (fuel : Nat) (v0 : Option Nat) (v2 : Int32) (v3 : Option Nat) (M : zM) (so : Int32 × zM) (ls : List (Nat × zV)), zl_get ls 0 = some (.inr (.inr (3, v0))) → zl_get ls 2 = some (.inl v2) → zl_get ls 3 = some (.inr (.inr (3, v3))) → sp_neededAhead_7  d fuel v0 v2 v3 M = some so → Ev zq_T d 226 7 ls [] M (some (.inl so.1), so.2) := by
  intro fuel
  induction fuel with
  | zero => intro v0 v2 v3 M so ls g0 g2 g3 hs; exact nomatch hs
  | succ fuel ih =>
    intro v0 v2 v3 M so ls g0 g2 g3 hs
    unfold sp_neededAhead_7 at hs
    refine e_aldn cd_226_7 g3 ?_
    refine k_opt hs (fun h1 hs => ?_) (fun k2 h1 hs => ?_)
    · refine e_nu0 cd_226_8 rfl h1 ?_
      exact tie_sp_neededAhead_31  d  v2 M so _ g2 hs
    · refine e_nu1 cd_226_8 rfl h1 ?_
      refine e_aldn cd_226_11 g3 ?_
      refine e_aldn cd_226_12 g0 ?_
      refine k_if hs (fun c3 hs => ?_) (fun c3 hs => ?_)
      · refine e_aeq1 cd_226_13 rfl rfl c3 ?_
        exact tie_sp_neededAhead_31  d  v2 M so _ g2 hs
      · refine e_aeq0 cd_226_13 rfl rfl c3 ?_
        refine e_ildn cd_226_16 g2 ?_
        refine e_aldn cd_226_17 g3 ?_
        refine e_getI cd_226_18 (Or.inl fd_226_62) h1 ?_
        refine e_pure cd_226_21 rfl ?_
        refine k_let hs (fun x4 e5 hs => ?_)
        refine e_iKn cd_226_22 nl_226 rfl e5 ?_
        intro _ gn kp
        have u6 := kp 0 _ g0 rfl rfl
        have u7 := kp 3 _ g3 rfl rfl
        have u8 := gn
        refine e_aldn cd_226_23 u7 ?_
        refine e_getR cd_226_24 fd_226_76 h1 ?_
        refine e_aKn cd_226_27 nl_226 rfl rfl ?_
        intro _ gn kp
        have u9 := kp 0 _ u6 rfl rfl
        have u10 := kp 2 _ u8 rfl rfl
        have u11 := gn
        refine e_goto cd_226_28 rfl ?_
        exact ih v0 x4 (zm_R M 3 k2 7) M so _ u9 u10 u11 hs
theorem tie_sp_neededAhead (d : Nat) (a0 : Option Nat) (a1 : Option Nat) (M : zM) (so : Int32 × zM) (hs : sp_neededAhead d a0 a1 M = some so) : Ev zq_T d 226 0 (zl_args 0 [.inr (.inr (3, a0)), .inr (.inr (3, a1))]) [] M (some (.inl so.1), so.2) := by
  unfold sp_neededAhead at hs
  have g0 : zl_get (zl_args 0 [.inr (.inr (3, a0)), .inr (.inr (3, a1))]) 0 = some (.inr (.inr (3, a0))) := rfl
  have g1 : zl_get (zl_args 0 [.inr (.inr (3, a0)), .inr (.inr (3, a1))]) 1 = some (.inr (.inr (3, a1))) := rfl
  refine e_const cd_226_0 ci_0 ?_
  refine e_iKn cd_226_1 nl_226 rfl rfl ?_
  intro _ gn kp
  have u1 := kp 0 _ g0 rfl rfl
  have u2 := kp 1 _ g1 rfl rfl
  have u3 := gn
  refine e_aldn cd_226_2 u2 ?_
  refine k_opt hs (fun _ q => nomatch q) (fun k4 h5 hs => ?_)
  refine e_getR cd_226_3 fd_226_73 h5 ?_
  refine e_aKn cd_226_6 nl_226 rfl rfl ?_
  intro _ gn kp
  have u6 := kp 0 _ u1 rfl rfl
  have u7 := kp 2 _ u3 rfl rfl
  have u8 := gn
  exact tie_sp_neededAhead_7  d  zLF a0 0 (zm_R M 3 k4 5) M so _ u6 u7 u8 hs
theorem tie_sp_othersOver (d : Nat) (a0 : Option Nat) (a1 : Option Nat) (a2 : Int32) (M : zM) (so : Int32 × zM) (hs : sp_othersOver d a0 a1 a2 M = some so) : Ev zq_T d 227 0 (zl_args 0 [.inr (.inr (3, a0)), .inr (.inr (3, a1)), .inl a2]) [] M (some (.inl so.1), so.2) := by
  unfold sp_othersOver at hs
  have g0 : zl_get (zl_args 0 [.inr (.inr (3, a0)), .inr (.inr (3, a1)), .inl a2]) 0 = some (.inr (.inr (3, a0))) := rfl
  have g1 : zl_get (zl_args 0 [.inr (.inr (3, a0)), .inr (.inr (3, a1)), .inl a2]) 1 = some (.inr (.inr (3, a1))) := rfl
  have g2 : zl_get (zl_args 0 [.inr (.inr (3, a0)), .inr (.inr (3, a1)), .inl a2]) 2 = some (.inl a2) := rfl
  refine e_ildn cd_227_0 g2 ?_
  refine e_const cd_227_1 ci_4 ?_
  refine e_aldn cd_227_2 g1 ?_
  refine k_opt hs (fun _ q => nomatch q) (fun k1 h2 hs => ?_)
  refine e_getI cd_227_3 (Or.inl fd_227_56) h2 ?_
  refine e_pure cd_227_6 rfl ?_
  refine e_pure cd_227_7 rfl ?_
  refine e_const cd_227_8 ci_1 ?_
  refine e_aldn cd_227_9 g0 ?_
  refine k_opt hs (fun _ q => nomatch q) (fun k3 h4 hs => ?_)
  refine e_getI cd_227_10 (Or.inl fd_227_79) h4 ?_
  refine e_pure cd_227_13 rfl ?_
  refine e_const cd_227_14 ci_m1 ?_
  refine e_pure cd_227_15 rfl ?_
  refine e_pure cd_227_16 rfl ?_
  have e := Option.some.inj hs
  subst e
  exact e_ri cd_227_17 nr_227
theorem tie_sp_neededIn_29 (kl7 : Int32 → Int32 → Option Nat → zM → Option (Int32 × zM)) (d : Nat) (hk7 : ∀ (v1 : Int32) (v2 : Int32) (v3 : Option Nat) (M : zM) (so : Int32 × zM) (ls : List (Nat × zV)), zl_get ls 1 = some (.inl v1) → zl_get ls 2 = some (.inl v2) → zl_get ls 3 = some (.inr (.inr (3, v3))) → kl7 v1 v2 v3 M = some so → Ev zq_T d 228 7 ls [] M (some (.inl so.1), so.2)) (v1 : Int32) (v2 : Int32) (v3 : Option Nat) (M : zM) (so : Int32 × zM) (ls : List (Nat × zV)) (g1 : zl_get ls 1 = some (.inl v1)) (g2 : zl_get ls 2 = some (.inl v2)) (g3 : zl_get ls 3 = some (.inr (.inr (3, v3)))) (hs : sp_neededIn_29 kl7 d v1 v2 v3 M = some so) : Ev zq_T d 228 29 ls [] M (some (.inl so.1), so.2) := by
  unfold sp_neededIn_29 at hs
  refine e_aldn cd_228_29 g3 ?_
  refine k_opt hs (fun _ q => nomatch q) (fun k1 h2 hs => ?_)
  refine e_getR cd_228_30 fd_228_76 h2 ?_
  refine e_aKn cd_228_33 nl_228 rfl rfl ?_
  intro _ gn kp
  have u3 := kp 1 _ g1 rfl rfl
  have u4 := kp 2 _ g2 rfl rfl
  have u5 := gn
  refine e_goto cd_228_34 rfl ?_
  exact hk7 v1 v2 (zm_R M 3 k1 7) M so _ u3 u4 u5 hs
theorem tie_sp_neededIn_7  (d : Nat)  : ∀ (fuel : Nat) (v1 : Int32) (v2 : Int32) (v3 : Option Nat) (M : zM) (so : Int32 × zM) (ls : List (Nat × zV)), zl_get ls 1 = some (.inl v1) → zl_get ls 2 = some (.inl v2) → zl_get ls 3 = some (.inr (.inr (3, v3))) → sp_neededIn_7  d fuel v1 v2 v3 M = some so → Ev zq_T d 228 7 ls [] M (some (.inl so.1), so.2) := by
  intro fuel
  induction fuel with
  | zero => intro v1 v2 v3 M so ls g1 g2 g3 hs; exact nomatch hs
  | succ fuel ih =>
    intro v1 v2 v3 M so ls g1 g2 g3 hs
    unfold sp_neededIn_7 at hs
    refine e_aldn cd_228_7 g3 ?_
    refine k_opt hs (fun h1 hs => ?_) (fun k2 h1 hs => ?_)
    · refine e_nu0 cd_228_8 rfl h1 ?_
      refine e_ildn cd_228_37 g2 ?_
      have e := Option.some.inj hs
      subst e
      exact e_ri cd_228_38 nr_228
    · refine e_nu1 cd_228_8 rfl h1 ?_
      refine e_ildn cd_228_11 g1 ?_
      refine e_aldn cd_228_12 g3 ?_
      refine e_getI cd_228_13 (Or.inl fd_228_79) h1 ?_
      refine e_pure cd_228_16 rfl ?_
      refine e_const cd_228_17 ci_1 ?_
      refine e_pure cd_228_18 rfl ?_
      refine k_if hs (fun c3 hs => ?_) (fun c3 hs => ?_)
      · refine e_izJ cd_228_19 rfl c3 ?_
        exact tie_sp_neededIn_29 (fun p0 p1 p2 m => sp_neededIn_7  d fuel p0 p1 p2 m) d ih v1 v2 v3 M so _ g1 g2 g3 hs
      · refine e_izN cd_228_19 rfl c3 ?_
        refine e_ildn cd_228_22 g2 ?_
        refine e_aldn cd_228_23 g3 ?_
        refine e_getI cd_228_24 (Or.inl fd_228_62) h1 ?_
        refine e_pure cd_228_27 rfl ?_
        refine k_let hs (fun x4 e5 hs => ?_)
        refine e_iKn cd_228_28 nl_228 rfl e5 ?_
        intro _ gn kp
        have u6 := kp 1 _ g1 rfl rfl
        have u7 := kp 3 _ g3 rfl rfl
        have u8 := gn
        exact tie_sp_neededIn_29 (fun p0 p1 p2 m => sp_neededIn_7  d fuel p0 p1 p2 m) d ih v1 x4 v3 M so _ u6 u8 u7 hs
theorem tie_sp_neededIn (d : Nat) (a0 : Option Nat) (a1 : Int32) (M : zM) (so : Int32 × zM) (hs : sp_neededIn d a0 a1 M = some so) : Ev zq_T d 228 0 (zl_args 0 [.inr (.inr (3, a0)), .inl a1]) [] M (some (.inl so.1), so.2) := by
  unfold sp_neededIn at hs
  have g0 : zl_get (zl_args 0 [.inr (.inr (3, a0)), .inl a1]) 0 = some (.inr (.inr (3, a0))) := rfl
  have g1 : zl_get (zl_args 0 [.inr (.inr (3, a0)), .inl a1]) 1 = some (.inl a1) := rfl
  refine e_const cd_228_0 ci_0 ?_
  refine e_iKn cd_228_1 nl_228 rfl rfl ?_
  intro _ gn kp
  have u1 := kp 0 _ g0 rfl rfl
  have u2 := kp 1 _ g1 rfl rfl
  have u3 := gn
  refine e_aldn cd_228_2 u1 ?_
  refine k_opt hs (fun _ q => nomatch q) (fun k4 h5 hs => ?_)
  refine e_getR cd_228_3 fd_228_73 h5 ?_
  refine e_aKn cd_228_6 nl_228 rfl rfl ?_
  intro _ gn kp
  have u6 := kp 1 _ u2 rfl rfl
  have u7 := kp 2 _ u3 rfl rfl
  have u8 := gn
  exact tie_sp_neededIn_7  d  zLF a1 0 (zm_R M 3 k4 5) M so _ u6 u7 u8 hs
theorem tie_sp_lengthUpTo_137 (kl18 : Option Nat → Int32 → Int32 → Int32 → Option Nat → zM → Option (Int32 × zM)) (d : Nat) (hk18 : ∀ (v1 : Option Nat) (v3 : Int32) (v4 : Int32) (v5 : Int32) (v6 : Option Nat) (M : zM) (so : Int32 × zM) (ls : List (Nat × zV)), zl_get ls 1 = some (.inr (.inr (5, v1))) → zl_get ls 3 = some (.inl v3) → zl_get ls 4 = some (.inl v4) → zl_get ls 5 = some (.inl v5) → zl_get ls 6 = some (.inr (.inr (3, v6))) → kl18 v1 v3 v4 v5 v6 M = some so → Ev zq_T (d + 1) 225 18 ls [] M (some (.inl so.1), so.2)) (v1 : Option Nat) (v3 : Int32) (v4 : Int32) (v5 : Int32) (v6 : Option Nat) (M : zM) (so : Int32 × zM) (ls : List (Nat × zV)) (g1 : zl_get ls 1 = some (.inr (.inr (5, v1)))) (g3 : zl_get ls 3 = some (.inl v3)) (g4 : zl_get ls 4 = some (.inl v4)) (g5 : zl_get ls 5 = some (.inl v5)) (g6 : zl_get ls 6 = some (.inr (.inr (3, v6)))) (hs : sp_lengthUpTo_137 kl18 d v1 v3 v4 v5 v6 M = some so) : Ev zq_T (d + 1) 225 137 ls [] M (some (.inl so.1), so.2) := by
  unfold sp_lengthUpTo_137 at hs
  refine e_ald cd_225_137 g6 ?_
  refine k_opt hs (fun _ q => nomatch q) (fun k1 h2 hs => ?_)
  refine e_getR cd_225_139 fd_225_46 h2 ?_
  refine e_aK cd_225_142 nl_225 rfl rfl ?_
  intro _ gn kp
  have u3 := kp 1 _ g1 rfl rfl
  have u4 := kp 3 _ g3 rfl rfl
  have u5 := kp 4 _ g4 rfl rfl
  have u6 := kp 5 _ g5 rfl rfl
  have u7 := gn
  refine e_goto cd_225_144 rfl ?_
  exact hk18 v1 v3 v4 v5 (zm_R M 3 k1 4) M so _ u3 u4 u5 u6 u7 hs
theorem tie_sp_lengthUpTo_109 (kl18 : Option Nat → Int32 → Int32 → Int32 → Option Nat → zM → Option (Int32 × zM)) (d : Nat) (hk18 : ∀ (v1 : Option Nat) (v3 : Int32) (v4 : Int32) (v5 : Int32) (v6 : Option Nat) (M : zM) (so : Int32 × zM) (ls : List (Nat × zV)), zl_get ls 1 = some (.inr (.inr (5, v1))) → zl_get ls 3 = some (.inl v3) → zl_get ls 4 = some (.inl v4) → zl_get ls 5 = some (.inl v5) → zl_get ls 6 = some (.inr (.inr (3, v6))) → kl18 v1 v3 v4 v5 v6 M = some so → Ev zq_T (d + 1) 225 18 ls [] M (some (.inl so.1), so.2)) (v1 : Option Nat) (v3 : Int32) (v4 : Int32) (v5 : Int32) (v6 : Option Nat) (v7 : Option Nat) (M : zM) (so : Int32 × zM) (ls : List (Nat × zV)) (g1 : zl_get ls 1 = some (.inr (.inr (5, v1)))) (g3 : zl_get ls 3 = some (.inl v3)) (g4 : zl_get ls 4 = some (.inl v4)) (g5 : zl_get ls 5 = some (.inl v5)) (g6 : zl_get ls 6 = some (.inr (.inr (3, v6)))) (g7 : zl_get ls 7 = some (.inr (.inr (3, v7)))) (hs : sp_lengthUpTo_109 kl18 d v1 v3 v4 v5 v6 v7 M = some so) : Ev zq_T (d + 1) 225 109 ls [] M (some (.inl so.1), so.2) := by
  unfold sp_lengthUpTo_109 at hs
  refine e_ald cd_225_109 g7 ?_
  refine k_opt hs (fun _ q => nomatch q) (fun k1 h2 hs => ?_)
  refine e_getI cd_225_111 (Or.inl fd_225_49) h2 ?_
  refine e_const cd_225_114 ci_5 ?_
  refine k_if hs (fun c3 hs => ?_) (fun c3 hs => ?_)
  · refine e_icN cd_225_115 rfl (fun q => q c3) ?_
    refine e_ild cd_225_118 g5 ?_
    refine e_ald cd_225_120 g7 ?_
    refine e_ald cd_225_122 g6 ?_
    refine e_ald cd_225_124 g7 ?_
    refine e_ild cd_225_126 g4 ?_
    obtain ⟨q4, h5, hs⟩ := k_bind hs
    refine e_cst cd_225_128 kd_225_65 rfl rfl rfl nl_227 rfl rfl (tie_sp_othersOver d v6 v7 v4 M _ h5) ?_
    obtain ⟨q6, h7, hs⟩ := k_bind hs
    refine e_cst cd_225_131 kd_225_69 rfl rfl rfl nl_228 rfl rfl (tie_sp_neededIn d v7 q4.1 q4.2 _ h7) ?_
    refine e_pure cd_225_134 rfl ?_
    refine k_let hs (fun x8 e9 hs => ?_)
    refine e_iK cd_225_135 nl_225 rfl e9 ?_
    intro _ gn kp
    have u10 := kp 1 _ g1 rfl rfl
    have u11 := kp 3 _ g3 rfl rfl
    have u12 := kp 4 _ g4 rfl rfl
    have u13 := kp 6 _ g6 rfl rfl
    have u14 := gn
    exact tie_sp_lengthUpTo_137 kl18 d hk18 v1 v3 v4 x8 v6 q6.2 so _ u10 u11 u12 u14 u13 hs
  · refine e_icJ cd_225_115 rfl c3 ?_
    exact tie_sp_lengthUpTo_137 kl18 d hk18 v1 v3 v4 v5 v6 M so _ g1 g3 g4 g5 g6 hs
theorem tie_sp_lengthUpTo_147  (d : Nat)  (v5 : Int32) (M : zM) (so : Int32 × zM) (ls : List (Nat × zV)) (g5 : zl_get ls 5 = some (.inl v5)) (hs : sp_lengthUpTo_147  d v5 M = some so) : Ev zq_T (d + 1) 225 147 ls [] M (some (.inl so.1), so.2) := by
  unfold sp_lengthUpTo_147 at hs
  refine e_ild cd_225_147 g5 ?_
  have e := Option.some.inj hs
  subst e
  exact e_ri cd_225_149 nr_225
set_option maxRecDepth 100000 in
theorem tie_sp_lengthUpTo_18  (d : Nat)  : ∀ (fuel : Nat) (v1 : Option Nat) (v3 : Int32) (v4 : Int32) (v5 : Int32) (v6 : Option Nat) (M : zM) (so : Int32 × zM) (ls : List (Nat × zV)), zl_get ls 1 = some (.inr (.inr (5, v1))) → zl_get ls 3 = some (.inl v3) → zl_get ls 4 = some (.inl v4) → zl_get ls 5 = some (.inl v5) → zl_get ls 6 = some (.inr (.inr (3, v6))) → sp_lengthUpTo_18  d fuel v1 v3 v4 v5 v6 M = some so → Ev zq_T (d + 1) 225 18 ls [] M (some (.inl so.1), so.2) := by
  intro fuel
  induction fuel with
  | zero => intro v1 v3 v4 v5 v6 M so ls g1 g3 g4 g5 g6 hs; exact nomatch hs
  | succ fuel ih =>
    intro v1 v3 v4 v5 v6 M so ls g1 g3 g4 g5 g6 hs
    unfold sp_lengthUpTo_18 at hs
    refine e_ald cd_225_18 g6 ?_
    refine k_opt hs (fun h1 hs => ?_) (fun k2 h1 hs => ?_)
    · refine e_nu0 cd_225_20 rfl h1 ?_
      exact tie_sp_lengthUpTo_147  d  v5 M so _ g5 hs
    · refine e_nu1 cd_225_20 rfl h1 ?_
      refine e_ald cd_225_23 g6 ?_
      refine e_getR cd_225_25 fd_225_46 h1 ?_
      refine k_opt hs (fun h3 hs => ?_) (fun k4 h3 hs => ?_)
      · refine e_nu0 cd_225_28 rfl h3 ?_
        exact tie_sp_lengthUpTo_147  d  v5 M so _ g5 hs
      · refine e_nu1 cd_225_28 rfl h3 ?_
        refine e_ald cd_225_31 g6 ?_
        refine e_getR cd_225_33 fd_225_46 h1 ?_
        refine e_aK cd_225_36 nl_225 rfl rfl ?_
        intro _ gn kp
        have u5 := kp 1 _ g1 rfl rfl
        have u6 := kp 3 _ g3 rfl rfl
        have u7 := kp 4 _ g4 rfl rfl
        have u8 := kp 5 _ g5 rfl rfl
        have u9 := kp 6 _ g6 rfl rfl
        have u10 := gn
        refine e_ald cd_225_38 u10 ?_
        refine k_opt hs (fun _ q => nomatch q) (fun k11 h12 hs => ?_)
        refine e_getI cd_225_40 (Or.inl fd_225_49) h12 ?_
        refine e_const cd_225_43 ci_2 ?_
        refine k_if hs (fun c13 hs => ?_) (fun c13 hs => ?_)
        · refine e_icN cd_225_44 rfl (fun q => q c13) ?_
          refine e_ild cd_225_47 u8 ?_
          refine e_ald cd_225_49 u9 ?_
          refine e_ald cd_225_51 u10 ?_
          obtain ⟨q14, h15, hs⟩ := k_bind hs
          refine e_cst cd_225_53 kd_225_52 rfl rfl rfl nl_226 rfl rfl (tie_sp_neededAhead d v6 (zm_R M 3 k2 4) M _ h15) ?_
          refine e_pure cd_225_56 rfl ?_
          refine k_let hs (fun x16 e17 hs => ?_)
          refine e_iK cd_225_57 nl_225 rfl e17 ?_
          intro _ gn kp
          have u18 := kp 1 _ u5 rfl rfl
          have u19 := kp 3 _ u6 rfl rfl
          have u20 := kp 4 _ u7 rfl rfl
          have u21 := kp 6 _ u9 rfl rfl
          have u22 := gn
          refine e_goto cd_225_59 rfl ?_
          exact tie_sp_lengthUpTo_137 (fun p0 p1 p2 p3 p4 m => sp_lengthUpTo_18  d fuel p0 p1 p2 p3 p4 m) d ih v1 v3 v4 x16 v6 q14.2 so _ u18 u19 u20 u22 u21 hs
        · refine e_icJ cd_225_44 rfl c13 ?_
          refine e_ald cd_225_62 u10 ?_
          refine e_getI cd_225_64 (Or.inl fd_225_49) h12 ?_
          refine e_const cd_225_67 ci_4 ?_
          refine k_if hs (fun c23 hs => ?_) (fun c23 hs => ?_)
          · refine e_icN cd_225_68 rfl (fun q => q c23) ?_
            refine e_ildn cd_225_71 u6 ?_
            refine e_ald cd_225_72 u10 ?_
            refine e_getI cd_225_74 (Or.inl fd_225_56) h12 ?_
            refine e_pure cd_225_77 rfl ?_
            refine e_const cd_225_78 ci_1 ?_
            refine e_pure cd_225_79 rfl ?_
            refine k_if hs (fun c24 hs => ?_) (fun c24 hs => ?_)
            · refine e_izJ cd_225_80 rfl c24 ?_
              exact tie_sp_lengthUpTo_109 (fun p0 p1 p2 p3 p4 m => sp_lengthUpTo_18  d fuel p0 p1 p2 p3 p4 m) d ih v1 v3 v4 v5 v6 (zm_R M 3 k2 4) M so _ u5 u6 u7 u8 u9 u10 hs
            · refine e_izN cd_225_80 rfl c24 ?_
              refine e_ild cd_225_83 u8 ?_
              refine e_aldn cd_225_85 u5 ?_
              refine k_opt hs (fun _ q => nomatch q) (fun k25 h26 hs => ?_)
              refine e_getR cd_225_86 fd_225_59 h26 ?_
              refine e_ald cd_225_89 u10 ?_
              refine e_getI cd_225_91 (Or.inl fd_225_56) h12 ?_
              refine k_opt hs (fun _ q => nomatch q) (fun k27 h28 hs => ?_)
              obtain ⟨c29, hs⟩ := z_ite hs
              refine e_iald cd_225_94 rfl h28 c29 ?_
              refine e_const cd_225_95 ci_1 ?_
              refine e_pure cd_225_96 rfl ?_
              refine e_ald cd_225_97 u9 ?_
              refine e_getI cd_225_99 (Or.inl fd_225_62) h1 ?_
              refine e_pure cd_225_102 rfl ?_
              refine e_pure cd_225_103 rfl ?_
              refine k_let hs (fun x30 e31 hs => ?_)
              refine e_iK cd_225_104 nl_225 rfl e31 ?_
              intro _ gn kp
              have u32 := kp 1 _ u5 rfl rfl
              have u33 := kp 3 _ u6 rfl rfl
              have u34 := kp 4 _ u7 rfl rfl
              have u35 := kp 6 _ u9 rfl rfl
              have u36 := gn
              refine e_goto cd_225_106 rfl ?_
              exact tie_sp_lengthUpTo_137 (fun p0 p1 p2 p3 p4 m => sp_lengthUpTo_18  d fuel p0 p1 p2 p3 p4 m) d ih v1 v3 v4 x30 v6 M so _ u32 u33 u34 u36 u35 hs
          · refine e_icJ cd_225_68 rfl c23 ?_
            exact tie_sp_lengthUpTo_109 (fun p0 p1 p2 p3 p4 m => sp_lengthUpTo_18  d fuel p0 p1 p2 p3 p4 m) d ih v1 v3 v4 v5 v6 (zm_R M 3 k2 4) M so _ u5 u6 u7 u8 u9 u10 hs
theorem tieb_sp_lengthUpTo  (d : Nat)  (a0 : Nat) (a1 : Option Nat) (a2 : Int32) (a3 : Int32) (a4 : Int32) (M : zM) (so : Int32 × zM) (hs : sp_lengthUpTo_b  d a0 a1 a2 a3 a4 M = some so) : Ev zq_T (d + 1) 225 0 (zl_args 0 [.inr (.inr (7, some a0)), .inr (.inr (5, a1)), .inl a2, .inl a3, .inl a4]) [] M (some (.inl so.1), so.2) := by
  unfold sp_lengthUpTo_b at hs
  have g0 : zl_get (zl_args 0 [.inr (.inr (7, some a0)), .inr (.inr (5, a1)), .inl a2, .inl a3, .inl a4]) 0 = some (.inr (.inr (7, (some a0)))) := rfl
  have g1 : zl_get (zl_args 0 [.inr (.inr (7, some a0)), .inr (.inr (5, a1)), .inl a2, .inl a3, .inl a4]) 1 = some (.inr (.inr (5, a1))) := rfl
  have g2 : zl_get (zl_args 0 [.inr (.inr (7, some a0)), .inr (.inr (5, a1)), .inl a2, .inl a3, .inl a4]) 2 = some (.inl a2) := rfl
  have g3 : zl_get (zl_args 0 [.inr (.inr (7, some a0)), .inr (.inr (5, a1)), .inl a2, .inl a3, .inl a4]) 3 = some (.inl a3) := rfl
  have g4 : zl_get (zl_args 0 [.inr (.inr (7, some a0)), .inr (.inr (5, a1)), .inl a2, .inl a3, .inl a4]) 4 = some (.inl a4) := rfl
  refine e_ildn cd_225_0 g2 ?_
  refine e_const cd_225_1 ci_m1 ?_
  refine k_if hs (fun c1 hs => ?_) (fun c1 hs => ?_)
  · refine e_icN cd_225_2 rfl (fun q => q c1) ?_
    refine e_const cd_225_5 ci_0 ?_
    have e := Option.some.inj hs
    subst e
    exact e_ri cd_225_6 nr_225
  · refine e_icJ cd_225_2 rfl c1 ?_
    refine e_const cd_225_7 ci_1 ?_
    refine e_iK cd_225_8 nl_225 rfl rfl ?_
    intro _ gn kp
    have u2 := kp 1 _ g1 rfl rfl
    have u3 := kp 2 _ g2 rfl rfl
    have u4 := kp 3 _ g3 rfl rfl
    have u5 := kp 4 _ g4 rfl rfl
    have u6 := gn
    refine e_aldn cd_225_10 u2 ?_
    refine k_opt hs (fun _ q => nomatch q) (fun k7 h8 hs => ?_)
    refine e_getR cd_225_11 fd_225_43 h8 ?_
    refine e_ildn cd_225_14 u3 ?_
    refine k_opt hs (fun _ q => nomatch q) (fun k9 h10 hs => ?_)
    obtain ⟨c11, hs⟩ := z_ite hs
    refine e_aald cd_225_15 rfl h10 c11 ?_
    refine e_aK cd_225_16 nl_225 rfl rfl ?_
    intro _ gn kp
    have u12 := kp 1 _ u2 rfl rfl
    have u13 := kp 3 _ u4 rfl rfl
    have u14 := kp 4 _ u5 rfl rfl
    have u15 := kp 5 _ u6 rfl rfl
    have u16 := gn
    exact tie_sp_lengthUpTo_18  d  zLF a1 a3 a4 1 (zm_R M 24 k9 (a2 : Int32).toNatClampNeg) M so _ u12 u13 u14 u15 u16 hs
theorem tie_sp_lengthUpTo (d : Nat) (a0 : Nat) (a1 : Option Nat) (a2 : Int32) (a3 : Int32) (a4 : Int32) (M : zM) (so : Int32 × zM) (hs : sp_lengthUpTo d a0 a1 a2 a3 a4 M = some so) : Ev zq_T d 225 0 (zl_args 0 [.inr (.inr (7, some a0)), .inr (.inr (5, a1)), .inl a2, .inl a3, .inl a4]) [] M (some (.inl so.1), so.2) := by
  cases d with
  | zero => exact nomatch hs
  | succ d => exact tieb_sp_lengthUpTo d a0 a1 a2 a3 a4 M so hs
theorem tie_sp_spellUpTo_181 (kl67 : Nat → Option Nat → Int32 → Int32 → Int32 → Int32 → zM → Option (zM)) (d : Nat) (hk67 : ∀ (t0 : Nat) (v1 : Option Nat) (v2 : Int32) (v3 : Int32) (v4 : Int32) (v6 : Int32) (M : zM) (so : zM) (ls : List (Nat × zV)), zl_get ls 0 = some (.inr (.inr (7, (some t0)))) → zl_get ls 1 = some (.inr (.inr (5, v1))) → zl_get ls 2 = some (.inl v2) → zl_get ls 3 = some (.inl v3) → zl_get ls 4 = some (.inl v4) → zl_get ls 6 = some (.inl v6) → kl67 t0 v1 v2 v3 v4 v6 M = some so → Ev zq_T (d + 1) 229 67 ls [] M (none, so)) (t0 : Nat) (v1 : Option Nat) (v2 : Int32) (v3 : Int32) (v4 : Int32) (v6 : Int32) (M : zM) (so : zM) (ls : List (Nat × zV)) (g0 : zl_get ls 0 = some (.inr (.inr (7, (some t0))))) (g1 : zl_get ls 1 = some (.inr (.inr (5, v1)))) (g2 : zl_get ls 2 = some (.inl v2)) (g3 : zl_get ls 3 = some (.inl v3)) (g4 : zl_get ls 4 = some (.inl v4)) (g6 : zl_get ls 6 = some (.inl v6)) (hs : sp_spellUpTo_181 kl67 d t0 v1 v2 v3 v4 v6 M = some so) : Ev zq_T (d + 1) 229 181 ls [] M (none, so) := by
  unfold sp_spellUpTo_181 at hs
  refine k_let hs (fun x1 e2 hs => ?_)
  refine e_incK cd_229_181 nl_229 rfl g6 ci_m1 e2 ?_
  intro _ gn kp
  have u3 := kp 0 _ g0 rfl rfl
  have u4 := kp 1 _ g1 rfl rfl
  have u5 := kp 2 _ g2 rfl rfl
  have u6 := kp 3 _ g3 rfl rfl
  have u7 := kp 4 _ g4 rfl rfl
  have u8 := gn
  refine e_goto cd_229_184 rfl ?_
  exact hk67 t0 v1 v2 v3 v4 x1 M so _ u3 u4 u5 u6 u7 u8 hs
theorem tie_sp_spellUpTo_156 (kl67 : Nat → Option Nat → Int32 → Int32 → Int32 → Int32 → zM → Option (zM)) (d : Nat) (hk67 : ∀ (t0 : Nat) (v1 : Option Nat) (v2 : Int32) (v3 : Int32) (v4 : Int32) (v6 : Int32) (M : zM) (so : zM) (ls : List (Nat × zV)), zl_get ls 0 = some (.inr (.inr (7, (some t0)))) → zl_get ls 1 = some (.inr (.inr (5, v1))) → zl_get ls 2 = some (.inl v2) → zl_get ls 3 = some (.inl v3) → zl_get ls 4 = some (.inl v4) → zl_get ls 6 = some (.inl v6) → kl67 t0 v1 v2 v3 v4 v6 M = some so → Ev zq_T (d + 1) 229 67 ls [] M (none, so)) (t0 : Nat) (v1 : Option Nat) (v2 : Int32) (v3 : Int32) (v4 : Int32) (v6 : Int32) (v7 : Option Nat) (v8 : Option Nat) (M : zM) (so : zM) (ls : List (Nat × zV)) (g0 : zl_get ls 0 = some (.inr (.inr (7, (some t0))))) (g1 : zl_get ls 1 = some (.inr (.inr (5, v1)))) (g2 : zl_get ls 2 = some (.inl v2)) (g3 : zl_get ls 3 = some (.inl v3)) (g4 : zl_get ls 4 = some (.inl v4)) (g6 : zl_get ls 6 = some (.inl v6)) (g7 : zl_get ls 7 = some (.inr (.inr (3, v7)))) (g8 : zl_get ls 8 = some (.inr (.inr (3, v8)))) (hs : sp_spellUpTo_156 kl67 d t0 v1 v2 v3 v4 v6 v7 v8 M = some so) : Ev zq_T (d + 1) 229 156 ls [] M (none, so) := by
  unfold sp_spellUpTo_156 at hs
  refine e_ald cd_229_156 g7 ?_
  refine k_opt hs (fun _ q => nomatch q) (fun k1 h2 hs => ?_)
  refine e_getI cd_229_158 (Or.inl fd_229_49) h2 ?_
  refine e_const cd_229_161 ci_5 ?_
  refine k_if hs (fun c3 hs => ?_) (fun c3 hs => ?_)
  · refine e_icN cd_229_162 rfl (fun q => q c3) ?_
    refine e_aldn cd_229_165 g0 ?_
    refine e_ald cd_229_166 g7 ?_
    refine e_ald cd_229_168 g8 ?_
    refine e_ald cd_229_170 g7 ?_
    refine e_ild cd_229_172 g4 ?_
    obtain ⟨q4, h5, hs⟩ := k_bind hs
    refine e_cst cd_229_174 kd_229_65 rfl rfl rfl nl_227 rfl rfl (tie_sp_othersOver d v8 v7 v4 M _ h5) ?_
    refine e_const cd_229_177 ci_0 ?_
    obtain ⟨q6, h7, hs⟩ := k_bind hs
    refine e_cvi cd_229_178 kd_229_90 rfl rfl rfl rfl rfl nl_236 rfl rfl (tie_sp_spellParts d t0 v7 q4.1 0 q4.2 _ h7) ?_
    exact tie_sp_spellUpTo_181 kl67 d hk67 t0 v1 v2 v3 v4 v6 q6 so _ g0 g1 g2 g3 g4 g6 hs
  · refine e_icJ cd_229_162 rfl c3 ?_
    exact tie_sp_spellUpTo_181 kl67 d hk67 t0 v1 v2 v3 v4 v6 M so _ g0 g1 g2 g3 g4 g6 hs
set_option maxRecDepth 100000 in
theorem tie_sp_spellUpTo_67  (d : Nat)  : ∀ (fuel : Nat) (t0 : Nat) (v1 : Option Nat) (v2 : Int32) (v3 : Int32) (v4 : Int32) (v6 : Int32) (M : zM) (so : zM) (ls : List (Nat × zV)), zl_get ls 0 = some (.inr (.inr (7, (some t0)))) → zl_get ls 1 = some (.inr (.inr (5, v1))) → zl_get ls 2 = some (.inl v2) → zl_get ls 3 = some (.inl v3) → zl_get ls 4 = some (.inl v4) → zl_get ls 6 = some (.inl v6) → sp_spellUpTo_67  d fuel t0 v1 v2 v3 v4 v6 M = some so → Ev zq_T (d + 1) 229 67 ls [] M (none, so) := by
  intro fuel
  induction fuel with
  | zero => intro t0 v1 v2 v3 v4 v6 M so ls g0 g1 g2 g3 g4 g6 hs; exact nomatch hs
  | succ fuel ih =>
    intro t0 v1 v2 v3 v4 v6 M so ls g0 g1 g2 g3 g4 g6 hs
    unfold sp_spellUpTo_67 at hs
    refine e_ild cd_229_67 g6 ?_
    refine k_if hs (fun c1 hs => ?_) (fun c1 hs => ?_)
    · refine e_izJ cd_229_69 rfl c1 ?_
      refine e_aldn cd_229_187 g0 ?_
      refine e_aldn cd_229_188 g1 ?_
      refine k_opt hs (fun _ q => nomatch q) (fun k2 h3 hs => ?_)
      refine e_getR cd_229_189 fd_229_93 h3 ?_
      refine e_ildn cd_229_192 g2 ?_
      refine k_opt hs (fun _ q => nomatch q) (fun k4 h5 hs => ?_)
      obtain ⟨c6, hs⟩ := z_ite hs
      refine e_iald cd_229_193 rfl h5 c6 ?_
      obtain ⟨q7, h8, hs⟩ := k_bind hs
      refine e_cvi cd_229_194 kd_229_96 rfl rfl rfl rfl rfl nl_230 rfl rfl (tie_sp_write d t0 (zm_I M 20 k4 (v2 : Int32).toNatClampNeg) M _ h8) ?_
      have e := Option.some.inj hs
      subst e
      exact e_rv cd_229_197 nr_229
    · refine e_izN cd_229_69 rfl c1 ?_
      refine e_aldn cd_229_72 g0 ?_
      refine e_getR cd_229_73 fd_229_20 rfl ?_
      refine e_ild cd_229_76 g6 ?_
      refine k_opt hs (fun _ q => nomatch q) (fun k9 h10 hs => ?_)
      obtain ⟨c11, hs⟩ := z_ite hs
      refine e_aald cd_229_78 rfl h10 c11 ?_
      refine e_aK cd_229_79 nl_229 rfl rfl ?_
      intro _ gn kp
      have u12 := kp 0 _ g0 rfl rfl
      have u13 := kp 1 _ g1 rfl rfl
      have u14 := kp 2 _ g2 rfl rfl
      have u15 := kp 3 _ g3 rfl rfl
      have u16 := kp 4 _ g4 rfl rfl
      have u17 := kp 6 _ g6 rfl rfl
      have u18 := gn
      refine e_aldn cd_229_81 u12 ?_
      refine e_getR cd_229_82 fd_229_20 rfl ?_
      refine e_ild cd_229_85 u17 ?_
      refine e_const cd_229_87 ci_1 ?_
      refine e_pure cd_229_88 rfl ?_
      refine k_opt hs (fun _ q => nomatch q) (fun k19 h20 hs => ?_)
      obtain ⟨c21, hs⟩ := z_ite hs
      refine e_aald cd_229_89 rfl h20 c21 ?_
      refine e_aK cd_229_90 nl_229 rfl rfl ?_
      intro _ gn kp
      have u22 := kp 0 _ u12 rfl rfl
      have u23 := kp 1 _ u13 rfl rfl
      have u24 := kp 2 _ u14 rfl rfl
      have u25 := kp 3 _ u15 rfl rfl
      have u26 := kp 4 _ u16 rfl rfl
      have u27 := kp 6 _ u17 rfl rfl
      have u28 := kp 7 _ u18 rfl rfl
      have u29 := gn
      refine e_ald cd_229_92 u28 ?_
      refine k_opt hs (fun _ q => nomatch q) (fun k30 h31 hs => ?_)
      refine e_getI cd_229_94 (Or.inl fd_229_49) h31 ?_
      refine e_const cd_229_97 ci_2 ?_
      refine k_if hs (fun c32 hs => ?_) (fun c32 hs => ?_)
      · refine e_icN cd_229_98 rfl (fun q => q c32) ?_
        refine e_aldn cd_229_101 u22 ?_
        refine e_ald cd_229_102 u28 ?_
        refine e_ald cd_229_104 u29 ?_
        refine e_const cd_229_106 ci_0 ?_
        obtain ⟨q33, h34, hs⟩ := k_bind hs
        refine e_cvi cd_229_107 kd_229_82 rfl rfl rfl rfl rfl nl_232 rfl rfl (tie_sp_spellRow d t0 (zm_R M 24 k9 (v6 : Int32).toNatClampNeg) (zm_R M 24 k19 (v6 - 1).toNatClampNeg) 0 M _ h34) ?_
        refine e_goto cd_229_110 rfl ?_
        exact tie_sp_spellUpTo_181 (fun p0 p1 p2 p3 p4 p5 m => sp_spellUpTo_67  d fuel p0 p1 p2 p3 p4 p5 m) d ih t0 v1 v2 v3 v4 v6 q33 so _ u22 u23 u24 u25 u26 u27 hs
      · refine e_icJ cd_229_98 rfl c32 ?_
        refine e_ald cd_229_113 u28 ?_
        refine e_getI cd_229_115 (Or.inl fd_229_49) h31 ?_
        refine e_const cd_229_118 ci_4 ?_
        refine k_if hs (fun c35 hs => ?_) (fun c35 hs => ?_)
        · refine e_icN cd_229_119 rfl (fun q => q c35) ?_
          refine e_ildn cd_229_122 u25 ?_
          refine e_ald cd_229_123 u28 ?_
          refine e_getI cd_229_125 (Or.inl fd_229_56) h31 ?_
          refine e_pure cd_229_128 rfl ?_
          refine e_const cd_229_129 ci_1 ?_
          refine e_pure cd_229_130 rfl ?_
          refine k_if hs (fun c36 hs => ?_) (fun c36 hs => ?_)
          · refine e_izJ cd_229_131 rfl c36 ?_
            exact tie_sp_spellUpTo_156 (fun p0 p1 p2 p3 p4 p5 m => sp_spellUpTo_67  d fuel p0 p1 p2 p3 p4 p5 m) d ih t0 v1 v2 v3 v4 v6 (zm_R M 24 k9 (v6 : Int32).toNatClampNeg) (zm_R M 24 k19 (v6 - 1).toNatClampNeg) M so _ u22 u23 u24 u25 u26 u27 u28 u29 hs
          · refine e_izN cd_229_131 rfl c36 ?_
            refine e_aldn cd_229_134 u22 ?_
            refine e_ald cd_229_135 u29 ?_
            refine e_aldn cd_229_137 u23 ?_
            refine k_opt hs (fun _ q => nomatch q) (fun k37 h38 hs => ?_)
            refine e_getR cd_229_138 fd_229_59 h38 ?_
            refine e_ald cd_229_141 u28 ?_
            refine e_getI cd_229_143 (Or.inl fd_229_56) h31 ?_
            refine k_opt hs (fun _ q => nomatch q) (fun k39 h40 hs => ?_)
            obtain ⟨c41, hs⟩ := z_ite hs
            refine e_iald cd_229_146 rfl h40 c41 ?_
            refine e_const cd_229_147 ci_1 ?_
            refine e_pure cd_229_148 rfl ?_
            refine e_const cd_229_149 ci_0 ?_
            obtain ⟨q42, h43, hs⟩ := k_bind hs
            refine e_cvi cd_229_150 kd_229_86 rfl rfl rfl rfl rfl nl_233 rfl rfl (tie_sp_spellTimes d t0 (zm_R M 24 k19 (v6 - 1).toNatClampNeg) ((zm_I M 20 k39 (zm_I M 3 k30 1).toNatClampNeg) - 1) 0 M _ h43) ?_
            refine e_goto cd_229_153 rfl ?_
            exact tie_sp_spellUpTo_181 (fun p0 p1 p2 p3 p4 p5 m => sp_spellUpTo_67  d fuel p0 p1 p2 p3 p4 p5 m) d ih t0 v1 v2 v3 v4 v6 q42 so _ u22 u23 u24 u25 u26 u27 hs
        · refine e_icJ cd_229_119 rfl c35 ?_
          exact tie_sp_spellUpTo_156 (fun p0 p1 p2 p3 p4 p5 m => sp_spellUpTo_67  d fuel p0 p1 p2 p3 p4 p5 m) d ih t0 v1 v2 v3 v4 v6 (zm_R M 24 k9 (v6 : Int32).toNatClampNeg) (zm_R M 24 k19 (v6 - 1).toNatClampNeg) M so _ u22 u23 u24 u25 u26 u27 u28 u29 hs
theorem tie_sp_spellUpTo_61  (d : Nat)  (t0 : Nat) (v1 : Option Nat) (v2 : Int32) (v3 : Int32) (v4 : Int32) (v5 : Int32) (M : zM) (so : zM) (ls : List (Nat × zV)) (g0 : zl_get ls 0 = some (.inr (.inr (7, (some t0))))) (g1 : zl_get ls 1 = some (.inr (.inr (5, v1)))) (g2 : zl_get ls 2 = some (.inl v2)) (g3 : zl_get ls 3 = some (.inl v3)) (g4 : zl_get ls 4 = some (.inl v4)) (g5 : zl_get ls 5 = some (.inl v5)) (hs : sp_spellUpTo_61  d t0 v1 v2 v3 v4 v5 M = some so) : Ev zq_T (d + 1) 229 61 ls [] M (none, so) := by
  unfold sp_spellUpTo_61 at hs
  refine e_ild cd_229_61 g5 ?_
  refine e_const cd_229_63 ci_1 ?_
  refine e_pure cd_229_64 rfl ?_
  refine k_let hs (fun x1 e2 hs => ?_)
  refine e_iK cd_229_65 nl_229 rfl e2 ?_
  intro _ gn kp
  have u3 := kp 0 _ g0 rfl rfl
  have u4 := kp 1 _ g1 rfl rfl
  have u5 := kp 2 _ g2 rfl rfl
  have u6 := kp 3 _ g3 rfl rfl
  have u7 := kp 4 _ g4 rfl rfl
  have u8 := gn
  exact tie_sp_spellUpTo_67  d  zLF t0 v1 v2 v3 v4 x1 M so _ u3 u4 u5 u6 u7 u8 hs
theorem tie_sp_spellUpTo_27  (d : Nat)  : ∀ (fuel : Nat) (t0 : Nat) (v1 : Option Nat) (v2 : Int32) (v3 : Int32) (v4 : Int32) (v5 : Int32) (v6 : Option Nat) (M : zM) (so : zM) (ls : List (Nat × zV)), zl_get ls 0 = some (.inr (.inr (7, (some t0)))) → zl_get ls 1 = some (.inr (.inr (5, v1))) → zl_get ls 2 = some (.inl v2) → zl_get ls 3 = some (.inl v3) → zl_get ls 4 = some (.inl v4) → zl_get ls 5 = some (.inl v5) → zl_get ls 6 = some (.inr (.inr (3, v6))) → sp_spellUpTo_27  d fuel t0 v1 v2 v3 v4 v5 v6 M = some so → Ev zq_T (d + 1) 229 27 ls [] M (none, so) := by
  intro fuel
  induction fuel with
  | zero => intro t0 v1 v2 v3 v4 v5 v6 M so ls g0 g1 g2 g3 g4 g5 g6 hs; exact nomatch hs
  | succ fuel ih =>
    intro t0 v1 v2 v3 v4 v5 v6 M so ls g0 g1 g2 g3 g4 g5 g6 hs
    unfold sp_spellUpTo_27 at hs
    refine e_ald cd_229_27 g6 ?_
    refine k_opt hs (fun h1 hs => ?_) (fun k2 h1 hs => ?_)
    · refine e_nu0 cd_229_29 rfl h1 ?_
      exact tie_sp_spellUpTo_61  d  t0 v1 v2 v3 v4 v5 M so _ g0 g1 g2 g3 g4 g5 hs
    · refine e_nu1 cd_229_29 rfl h1 ?_
      refine e_ild cd_229_32 g5 ?_
      refine e_bip cd_229_34 cb_40 ?_
      refine k_if hs (fun c3 hs => ?_) (fun c3 hs => ?_)
      · refine e_icJ cd_229_36 rfl c3 ?_
        exact tie_sp_spellUpTo_61  d  t0 v1 v2 v3 v4 v5 M so _ g0 g1 g2 g3 g4 g5 hs
      · refine e_icN cd_229_36 rfl c3 ?_
        refine e_aldn cd_229_39 g0 ?_
        refine e_getR cd_229_40 fd_229_20 rfl ?_
        refine e_ild cd_229_43 g5 ?_
        refine e_ald cd_229_45 g6 ?_
        refine k_opt hs (fun _ q => nomatch q) (fun k4 h5 hs => ?_)
        obtain ⟨c6, hs⟩ := z_ite hs
        refine k_let hs (fun M7 e8 hs => ?_)
        refine e_aast cd_229_47 rfl h5 c6 e8 ?_
        refine k_let hs (fun x9 e10 hs => ?_)
        refine e_incK cd_229_48 nl_229 rfl g5 ci_1 e10 ?_
        intro _ gn kp
        have u11 := kp 0 _ g0 rfl rfl
        have u12 := kp 1 _ g1 rfl rfl
        have u13 := kp 2 _ g2 rfl rfl
        have u14 := kp 3 _ g3 rfl rfl
        have u15 := kp 4 _ g4 rfl rfl
        have u16 := kp 6 _ g6 rfl rfl
        have u17 := gn
        refine e_ald cd_229_51 u16 ?_
        refine e_getR cd_229_53 fd_229_46 h1 ?_
        refine e_aK cd_229_56 nl_229 rfl rfl ?_
        intro _ gn kp
        have u18 := kp 0 _ u11 rfl rfl
        have u19 := kp 1 _ u12 rfl rfl
        have u20 := kp 2 _ u13 rfl rfl
        have u21 := kp 3 _ u14 rfl rfl
        have u22 := kp 4 _ u15 rfl rfl
        have u23 := kp 5 _ u17 rfl rfl
        have u24 := gn
        refine e_goto cd_229_58 rfl ?_
        exact ih t0 v1 v2 v3 v4 x9 (zm_R M7 3 k2 4) M7 so _ u18 u19 u20 u21 u22 u23 u24 hs
theorem tieb_sp_spellUpTo  (d : Nat)  (a0 : Nat) (a1 : Option Nat) (a2 : Int32) (a3 : Int32) (a4 : Int32) (M : zM) (so : zM) (hs : sp_spellUpTo_b  d a0 a1 a2 a3 a4 M = some so) : Ev zq_T (d + 1) 229 0 (zl_args 0 [.inr (.inr (7, some a0)), .inr (.inr (5, a1)), .inl a2, .inl a3, .inl a4]) [] M (none, so) := by
  unfold sp_spellUpTo_b at hs
  have g0 : zl_get (zl_args 0 [.inr (.inr (7, some a0)), .inr (.inr (5, a1)), .inl a2, .inl a3, .inl a4]) 0 = some (.inr (.inr (7, (some a0)))) := rfl
  have g1 : zl_get (zl_args 0 [.inr (.inr (7, some a0)), .inr (.inr (5, a1)), .inl a2, .inl a3, .inl a4]) 1 = some (.inr (.inr (5, a1))) := rfl
  have g2 : zl_get (zl_args 0 [.inr (.inr (7, some a0)), .inr (.inr (5, a1)), .inl a2, .inl a3, .inl a4]) 2 = some (.inl a2) := rfl
  have g3 : zl_get (zl_args 0 [.inr (.inr (7, some a0)), .inr (.inr (5, a1)), .inl a2, .inl a3, .inl a4]) 3 = some (.inl a3) := rfl
  have g4 : zl_get (zl_args 0 [.inr (.inr (7, some a0)), .inr (.inr (5, a1)), .inl a2, .inl a3, .inl a4]) 4 = some (.inl a4) := rfl
  refine e_aldn cd_229_0 g0 ?_
  refine e_aldn cd_229_1 g1 ?_
  refine k_let hs (fun M1 e2 hs => ?_)
  refine e_putR cd_229_2 pd_229_27 rfl e2 ?_
  refine e_aldn cd_229_5 g0 ?_
  refine e_const cd_229_6 ci_0 ?_
  refine k_let hs (fun M3 e4 hs => ?_)
  refine e_putI cd_229_7 pd_229_31 rfl e4 ?_
  refine e_ildn cd_229_10 g2 ?_
  refine e_const cd_229_11 ci_m1 ?_
  refine k_if hs (fun c5 hs => ?_) (fun c5 hs => ?_)
  · refine e_icN cd_229_12 rfl (fun q => q c5) ?_
    have e := Option.some.inj hs
    subst e
    exact e_rv cd_229_15 nr_229
  · refine e_icJ cd_229_12 rfl c5 ?_
    refine e_const cd_229_16 ci_0 ?_
    refine e_iK cd_229_17 nl_229 rfl rfl ?_
    intro _ gn kp
    have u6 := kp 0 _ g0 rfl rfl
    have u7 := kp 1 _ g1 rfl rfl
    have u8 := kp 2 _ g2 rfl rfl
    have u9 := kp 3 _ g3 rfl rfl
    have u10 := kp 4 _ g4 rfl rfl
    have u11 := gn
    refine e_aldn cd_229_19 u7 ?_
    refine k_opt hs (fun _ q => nomatch q) (fun k12 h13 hs => ?_)
    refine e_getR cd_229_20 fd_229_43 h13 ?_
    refine e_ildn cd_229_23 u8 ?_
    refine k_opt hs (fun _ q => nomatch q) (fun k14 h15 hs => ?_)
    obtain ⟨c16, hs⟩ := z_ite hs
    refine e_aald cd_229_24 rfl h15 c16 ?_
    refine e_aK cd_229_25 nl_229 rfl rfl ?_
    intro _ gn kp
    have u17 := kp 0 _ u6 rfl rfl
    have u18 := kp 1 _ u7 rfl rfl
    have u19 := kp 2 _ u8 rfl rfl
    have u20 := kp 3 _ u9 rfl rfl
    have u21 := kp 4 _ u10 rfl rfl
    have u22 := kp 5 _ u11 rfl rfl
    have u23 := gn
    exact tie_sp_spellUpTo_27  d  zLF a0 a1 a2 a3 a4 0 (zm_R M3 24 k14 (a2 : Int32).toNatClampNeg) M3 so _ u17 u18 u19 u20 u21 u22 u23 hs
theorem tie_sp_spellUpTo (d : Nat) (a0 : Nat) (a1 : Option Nat) (a2 : Int32) (a3 : Int32) (a4 : Int32) (M : zM) (so : zM) (hs : sp_spellUpTo d a0 a1 a2 a3 a4 M = some so) : Ev zq_T d 229 0 (zl_args 0 [.inr (.inr (7, some a0)), .inr (.inr (5, a1)), .inl a2, .inl a3, .inl a4]) [] M (none, so) := by
  cases d with
  | zero => exact nomatch hs
  | succ d => exact tieb_sp_spellUpTo d a0 a1 a2 a3 a4 M so hs
theorem tieb_wk_init  (d : Nat)  (a0 : Nat) (M : zM) (so : zM) (hs : wk_init_b  d a0 M = some so) : Ev zq_T (d + 1) 241 0 (zl_args 0 [.inr (.inr (8, some a0))]) [] M (none, so) := by
  unfold wk_init_b at hs
  have g0 : zl_get (zl_args 0 [.inr (.inr (8, some a0))]) 0 = some (.inr (.inr (8, (some a0)))) := rfl
  refine e_aldn cd_241_0 g0 ?_
  refine e_obj cd_241_1 kd_241_3 rfl rfl ?_
  refine e_aldn cd_241_4 g0 ?_
  refine k_let hs (fun M1 e2 hs => ?_)
  refine e_new cd_241_5 nd_241_9 e2 ?_
  refine e_pure cd_241_8 rfl ?_
  obtain ⟨q3, h4, hs⟩ := k_bind hs
  refine e_csn cd_241_9 kd_241_11 rfl rfl rfl rfl rfl nl_192 rfl rfl (tie_ru_init d (zm_n M) M1 _ h4) ?_
  refine k_let hs (fun M5 e6 hs => ?_)
  refine e_putR cd_241_12 pd_241_12 rfl e6 ?_
  refine e_aldn cd_241_15 g0 ?_
  refine e_const cd_241_16 ci_m1 ?_
  refine k_let hs (fun M7 e8 hs => ?_)
  refine e_putI cd_241_17 pd_241_18 rfl e8 ?_
  refine e_aldn cd_241_20 g0 ?_
  refine e_const cd_241_21 ci_m1 ?_
  refine k_let hs (fun M9 e10 hs => ?_)
  refine e_putI cd_241_22 pd_241_22 rfl e10 ?_
  refine e_aldn cd_241_25 g0 ?_
  refine e_bip cd_241_26 cbb_8 ?_
  refine k_let hs (fun M12 e13 hs => ?_)
  refine e_newa_int cd_241_28 rfl (by decide) e13 ?_
  refine k_let hs (fun M14 e15 hs => ?_)
  refine e_putR cd_241_30 pd_241_25 rfl e15 ?_
  refine e_aldn cd_241_33 g0 ?_
  refine e_const cd_241_34 ci_4 ?_
  refine k_let hs (fun M17 e18 hs => ?_)
  refine e_newa_int cd_241_35 rfl (by decide) e18 ?_
  refine k_let hs (fun M19 e20 hs => ?_)
  refine e_putR cd_241_37 pd_241_29 rfl e20 ?_
  refine e_aldn cd_241_40 g0 ?_
  refine e_pure cd_241_41 rfl ?_
  refine k_let hs (fun M21 e22 hs => ?_)
  refine e_putR cd_241_42 pd_241_32 rfl e22 ?_
  have e := Option.some.inj hs
  subst e
  exact e_rv cd_241_45 nr_241
theorem tie_wk_init (d : Nat) (a0 : Nat) (M : zM) (so : zM) (hs : wk_init d a0 M = some so) : Ev zq_T d 241 0 (zl_args 0 [.inr (.inr (8, some a0))]) [] M (none, so) := by
  cases d with
  | zero => exact nomatch hs
  | succ d => exact tieb_wk_init d a0 M so hs
theorem tie_wy_init (d : Nat) (a0 : Nat) (M : zM) (so : zM) (hs : wy_init d a0 M = some so) : Ev zq_T d 258 0 (zl_args 0 [.inr (.inr (9, some a0))]) [] M (none, so) := by
  unfold wy_init at hs
  have g0 : zl_get (zl_args 0 [.inr (.inr (9, some a0))]) 0 = some (.inr (.inr (9, (some a0)))) := rfl
  refine e_aldn cd_258_0 g0 ?_
  refine e_obj cd_258_1 kd_258_3 rfl rfl ?_
  refine e_aldn cd_258_4 g0 ?_
  refine e_bip cd_258_5 cb_48 ?_
  refine k_let hs (fun M2 e3 hs => ?_)
  refine e_newa_int cd_258_7 rfl (by decide) e3 ?_
  refine k_let hs (fun M4 e5 hs => ?_)
  refine e_putR cd_258_9 pd_258_11 rfl e5 ?_
  refine e_aldn cd_258_12 g0 ?_
  refine e_bip cd_258_13 cb_48 ?_
  refine k_let hs (fun M7 e8 hs => ?_)
  refine e_newa_int cd_258_15 rfl (by decide) e8 ?_
  refine k_let hs (fun M9 e10 hs => ?_)
  refine e_putR cd_258_17 pd_258_15 rfl e10 ?_
  refine e_aldn cd_258_20 g0 ?_
  refine e_bip cd_258_21 cb_48 ?_
  refine k_let hs (fun M12 e13 hs => ?_)
  refine e_newa_int cd_258_23 rfl (by decide) e13 ?_
  refine k_let hs (fun M14 e15 hs => ?_)
  refine e_putR cd_258_25 pd_258_18 rfl e15 ?_
  refine e_aldn cd_258_28 g0 ?_
  refine e_bip cd_258_29 cb_48 ?_
  refine k_let hs (fun M17 e18 hs => ?_)
  refine e_newa_int cd_258_31 rfl (by decide) e18 ?_
  refine k_let hs (fun M19 e20 hs => ?_)
  refine e_putR cd_258_33 pd_258_21 rfl e20 ?_
  have e := Option.some.inj hs
  subst e
  exact e_rv cd_258_36 nr_258
theorem tie_wy_occurrenceIn (d : Nat) (a0 : Int32) (M : zM) (so : Int32 × zM) (hs : wy_occurrenceIn d a0 M = some so) : Ev zq_T d 259 0 (zl_args 0 [.inl a0]) [] M (some (.inl so.1), so.2) := by
  unfold wy_occurrenceIn at hs
  have g0 : zl_get (zl_args 0 [.inl a0]) 0 = some (.inl a0) := rfl
  refine e_ildn cd_259_0 g0 ?_
  refine e_const cd_259_1 ci_4 ?_
  refine e_pure cd_259_2 rfl ?_
  have e := Option.some.inj hs
  subst e
  exact e_ri cd_259_3 nr_259
theorem tie_wy_countIn (d : Nat) (a0 : Int32) (M : zM) (so : Int32 × zM) (hs : wy_countIn d a0 M = some so) : Ev zq_T d 260 0 (zl_args 0 [.inl a0]) [] M (some (.inl so.1), so.2) := by
  unfold wy_countIn at hs
  have g0 : zl_get (zl_args 0 [.inl a0]) 0 = some (.inl a0) := rfl
  refine e_ildn cd_260_0 g0 ?_
  refine e_bip cd_260_1 cb_15 ?_
  refine e_pure cd_260_3 rfl ?_
  refine e_const cd_260_4 ci_1 ?_
  refine e_pure cd_260_5 rfl ?_
  have e := Option.some.inj hs
  subst e
  exact e_ri cd_260_6 nr_260
theorem tie_wy_put_91 (kl3 : Nat → Int32 → Int32 → Int32 → Int32 → zM → Option (zM)) (d : Nat) (hk3 : ∀ (t0 : Nat) (v1 : Int32) (v2 : Int32) (v3 : Int32) (v4 : Int32) (M : zM) (so : zM) (ls : List (Nat × zV)), zl_get ls 0 = some (.inr (.inr (9, (some t0)))) → zl_get ls 1 = some (.inl v1) → zl_get ls 2 = some (.inl v2) → zl_get ls 3 = some (.inl v3) → zl_get ls 4 = some (.inl v4) → kl3 t0 v1 v2 v3 v4 M = some so → Ev zq_T d 265 3 ls [] M (none, so)) (t0 : Nat) (v1 : Int32) (v2 : Int32) (v3 : Int32) (v4 : Int32) (M : zM) (so : zM) (ls : List (Nat × zV)) (g0 : zl_get ls 0 = some (.inr (.inr (9, (some t0))))) (g1 : zl_get ls 1 = some (.inl v1)) (g2 : zl_get ls 2 = some (.inl v2)) (g3 : zl_get ls 3 = some (.inl v3)) (g4 : zl_get ls 4 = some (.inl v4)) (hs : wy_put_91 kl3 d t0 v1 v2 v3 v4 M = some so) : Ev zq_T d 265 91 ls [] M (none, so) := by
  unfold wy_put_91 at hs
  refine k_let hs (fun x1 e2 hs => ?_)
  refine e_incK cd_265_91 nl_265 rfl g4 ci_1 e2 ?_
  intro _ gn kp
  have u3 := kp 0 _ g0 rfl rfl
  have u4 := kp 1 _ g1 rfl rfl
  have u5 := kp 2 _ g2 rfl rfl
  have u6 := kp 3 _ g3 rfl rfl
  have u7 := gn
  refine e_goto cd_265_94 rfl ?_
  exact hk3 t0 v1 v2 v3 x1 M so _ u3 u4 u5 u6 u7 hs
theorem tie_wy_put_97  (d : Nat)   (M : zM) (so : zM) (ls : List (Nat × zV))  (hs : wy_put_97  d  M = some so) : Ev zq_T d 265 97 ls [] M (none, so) := by
  unfold wy_put_97 at hs
  have e := Option.some.inj hs
  subst e
  exact e_rv cd_265_97 nr_265
theorem tie_wy_put_3  (d : Nat)  : ∀ (fuel : Nat) (t0 : Nat) (v1 : Int32) (v2 : Int32) (v3 : Int32) (v4 : Int32) (M : zM) (so : zM) (ls : List (Nat × zV)), zl_get ls 0 = some (.inr (.inr (9, (some t0)))) → zl_get ls 1 = some (.inl v1) → zl_get ls 2 = some (.inl v2) → zl_get ls 3 = some (.inl v3) → zl_get ls 4 = some (.inl v4) → wy_put_3  d fuel t0 v1 v2 v3 v4 M = some so → Ev zq_T d 265 3 ls [] M (none, so) := by
  intro fuel
  induction fuel with
  | zero => intro t0 v1 v2 v3 v4 M so ls g0 g1 g2 g3 g4 hs; exact nomatch hs
  | succ fuel ih =>
    intro t0 v1 v2 v3 v4 M so ls g0 g1 g2 g3 g4 hs
    unfold wy_put_3 at hs
    refine e_ild cd_265_3 g4 ?_
    refine e_bip cd_265_5 cb_16 ?_
    refine k_if hs (fun c1 hs => ?_) (fun c1 hs => ?_)
    · refine e_icJ cd_265_7 rfl c1 ?_
      exact tie_wy_put_97  d   M so _  hs
    · refine e_icN cd_265_7 rfl c1 ?_
      refine e_aldn cd_265_10 g0 ?_
      refine e_getI cd_265_11 (Or.inl fd_265_24) rfl ?_
      refine e_bip cd_265_14 cb_48 ?_
      refine k_if hs (fun c2 hs => ?_) (fun c2 hs => ?_)
      · refine e_icJ cd_265_16 rfl c2 ?_
        exact tie_wy_put_97  d   M so _  hs
      · refine e_icN cd_265_16 rfl c2 ?_
        refine e_ildn cd_265_19 g1 ?_
        refine e_ild cd_265_20 g4 ?_
        refine e_pure cd_265_22 rfl ?_
        refine e_const cd_265_23 ci_1 ?_
        refine e_pure cd_265_24 rfl ?_
        refine k_if hs (fun c3 hs => ?_) (fun c3 hs => ?_)
        · refine e_izJ cd_265_25 rfl c3 ?_
          exact tie_wy_put_91 (fun p0 p1 p2 p3 p4 m => wy_put_3  d fuel p0 p1 p2 p3 p4 m) d ih t0 v1 v2 v3 v4 M so _ g0 g1 g2 g3 g4 hs
        · refine e_izN cd_265_25 rfl c3 ?_
          refine e_aldn cd_265_28 g0 ?_
          refine e_getR cd_265_29 fd_265_11 rfl ?_
          refine e_aldn cd_265_32 g0 ?_
          refine e_getI cd_265_33 (Or.inl fd_265_24) rfl ?_
          refine e_ild cd_265_36 g4 ?_
          refine e_const cd_265_38 ci_4 ?_
          refine e_pure cd_265_39 rfl ?_
          refine e_ildn cd_265_40 g2 ?_
          refine e_const cd_265_41 ci_1 ?_
          refine e_pure cd_265_42 rfl ?_
          refine e_pure cd_265_43 rfl ?_
          refine k_opt hs (fun _ q => nomatch q) (fun k4 h5 hs => ?_)
          obtain ⟨c6, hs⟩ := z_ite hs
          refine k_let hs (fun M7 e8 hs => ?_)
          refine e_iast cd_265_44 rfl h5 c6 e8 ?_
          refine e_aldn cd_265_45 g0 ?_
          refine e_getR cd_265_46 fd_265_15 rfl ?_
          refine e_aldn cd_265_49 g0 ?_
          refine e_getI cd_265_50 (Or.inl fd_265_24) rfl ?_
          refine e_aldn cd_265_53 g0 ?_
          refine e_getI cd_265_54 (Or.inl fd_265_28) rfl ?_
          refine k_opt hs (fun _ q => nomatch q) (fun k9 h10 hs => ?_)
          obtain ⟨c11, hs⟩ := z_ite hs
          refine k_let hs (fun M12 e13 hs => ?_)
          refine e_iast cd_265_57 rfl h10 c11 e13 ?_
          refine e_aldn cd_265_58 g0 ?_
          refine e_getR cd_265_59 fd_265_18 rfl ?_
          refine e_aldn cd_265_62 g0 ?_
          refine e_getI cd_265_63 (Or.inl fd_265_24) rfl ?_
          refine e_aldn cd_265_66 g0 ?_
          refine e_getI cd_265_67 (Or.inl fd_265_31) rfl ?_
          refine k_opt hs (fun _ q => nomatch q) (fun k14 h15 hs => ?_)
          obtain ⟨c16, hs⟩ := z_ite hs
          refine k_let hs (fun M17 e18 hs => ?_)
          refine e_iast cd_265_70 rfl h15 c16 e18 ?_
          refine e_aldn cd_265_71 g0 ?_
          refine e_getR cd_265_72 fd_265_21 rfl ?_
          refine e_aldn cd_265_75 g0 ?_
          refine e_getI cd_265_76 (Or.inl fd_265_24) rfl ?_
          refine e_ildn cd_265_79 g3 ?_
          refine k_opt hs (fun _ q => nomatch q) (fun k19 h20 hs => ?_)
          obtain ⟨c21, hs⟩ := z_ite hs
          refine k_let hs (fun M22 e23 hs => ?_)
          refine e_iast cd_265_80 rfl h20 c21 e23 ?_
          refine e_aldn cd_265_81 g0 ?_
          refine e_pure cd_265_82 rfl ?_
          refine e_getI cd_265_83 (Or.inl fd_265_24) rfl ?_
          refine e_const cd_265_86 ci_1 ?_
          refine e_pure cd_265_87 rfl ?_
          refine k_let hs (fun M24 e25 hs => ?_)
          refine e_putI cd_265_88 pd_265_24 rfl e25 ?_
          exact tie_wy_put_91 (fun p0 p1 p2 p3 p4 m => wy_put_3  d fuel p0 p1 p2 p3 p4 m) d ih t0 v1 v2 v3 v4 M24 so _ g0 g1 g2 g3 g4 hs
theorem tie_wy_put (d : Nat) (a0 : Nat) (a1 : Int32) (a2 : Int32) (a3 : Int32) (M : zM) (so : zM) (hs : wy_put d a0 a1 a2 a3 M = some so) : Ev zq_T d 265 0 (zl_args 0 [.inr (.inr (9, some a0)), .inl a1, .inl a2, .inl a3]) [] M (none, so) := by
  unfold wy_put at hs
  have g0 : zl_get (zl_args 0 [.inr (.inr (9, some a0)), .inl a1, .inl a2, .inl a3]) 0 = some (.inr (.inr (9, (some a0)))) := rfl
  have g1 : zl_get (zl_args 0 [.inr (.inr (9, some a0)), .inl a1, .inl a2, .inl a3]) 1 = some (.inl a1) := rfl
  have g2 : zl_get (zl_args 0 [.inr (.inr (9, some a0)), .inl a1, .inl a2, .inl a3]) 2 = some (.inl a2) := rfl
  have g3 : zl_get (zl_args 0 [.inr (.inr (9, some a0)), .inl a1, .inl a2, .inl a3]) 3 = some (.inl a3) := rfl
  refine e_const cd_265_0 ci_0 ?_
  refine e_iK cd_265_1 nl_265 rfl rfl ?_
  intro _ gn kp
  have u1 := kp 0 _ g0 rfl rfl
  have u2 := kp 1 _ g1 rfl rfl
  have u3 := kp 2 _ g2 rfl rfl
  have u4 := kp 3 _ g3 rfl rfl
  have u5 := gn
  exact tie_wy_put_3  d  zLF a0 a1 a2 a3 0 M so _ u1 u2 u3 u4 u5 hs
theorem tie_wy_leaveInRow_5  (d : Nat)  : ∀ (fuel : Nat) (t0 : Nat) (v2 : Option Nat) (M : zM) (so : Int32 × zM) (ls : List (Nat × zV)), zl_get ls 0 = some (.inr (.inr (9, (some t0)))) → zl_get ls 2 = some (.inr (.inr (3, v2))) → wy_leaveInRow_5  d fuel t0 v2 M = some so → Ev zq_T (d + 1) 263 5 ls [] M (some (.inl so.1), so.2) := by
  intro fuel
  induction fuel with
  | zero => intro t0 v2 M so ls g0 g2 hs; exact nomatch hs
  | succ fuel ih =>
    intro t0 v2 M so ls g0 g2 hs
    unfold wy_leaveInRow_5 at hs
    refine e_aldn cd_263_5 g2 ?_
    refine k_opt hs (fun h1 hs => ?_) (fun k2 h1 hs => ?_)
    · refine e_nu0 cd_263_6 rfl h1 ?_
      refine e_const cd_263_36 ci_1 ?_
      have e := Option.some.inj hs
      subst e
      exact e_rz cd_263_37 nr_263 (Or.inr rfl)
    · refine e_nu1 cd_263_6 rfl h1 ?_
      refine e_aldn cd_263_9 g0 ?_
      refine e_aldn cd_263_10 g2 ?_
      refine e_getI cd_263_11 (Or.inl fd_263_40) h1 ?_
      refine e_const cd_263_14 ci_m1 ?_
      refine e_const cd_263_15 ci_0 ?_
      obtain ⟨q3, h4, hs⟩ := k_bind hs
      refine e_cvi cd_263_16 kd_263_45 rfl rfl rfl rfl rfl nl_265 rfl rfl (tie_wy_put d t0 (zm_I M 3 k2 9) (-1) 0 M _ h4) ?_
      refine e_aldn cd_263_19 g2 ?_
      refine e_getI cd_263_20 (Or.inr fd_263_83) h1 ?_
      refine k_if hs (fun c5 hs => ?_) (fun c5 hs => ?_)
      · refine e_izN cd_263_23 rfl (fun q => q c5) ?_
        refine e_const cd_263_26 ci_0 ?_
        have e := Option.some.inj hs
        subst e
        exact e_rz cd_263_27 nr_263 (Or.inl rfl)
      · refine e_izJ cd_263_23 rfl c5 ?_
        refine e_aldn cd_263_28 g2 ?_
        refine e_getR cd_263_29 fd_263_80 h1 ?_
        refine e_aKn cd_263_32 nl_263 rfl rfl ?_
        intro _ gn kp
        have u6 := kp 0 _ g0 rfl rfl
        have u7 := gn
        refine e_goto cd_263_33 rfl ?_
        exact ih t0 (zm_R q3 3 k2 7) q3 so _ u6 u7 hs
theorem tieb_wy_leaveInRow  (d : Nat)  (a0 : Nat) (a1 : Option Nat) (M : zM) (so : Int32 × zM) (hs : wy_leaveInRow_b  d a0 a1 M = some so) : Ev zq_T (d + 1) 263 0 (zl_args 0 [.inr (.inr (9, some a0)), .inr (.inr (3, a1))]) [] M (some (.inl so.1), so.2) := by
  unfold wy_leaveInRow_b at hs
  have g0 : zl_get (zl_args 0 [.inr (.inr (9, some a0)), .inr (.inr (3, a1))]) 0 = some (.inr (.inr (9, (some a0)))) := rfl
  have g1 : zl_get (zl_args 0 [.inr (.inr (9, some a0)), .inr (.inr (3, a1))]) 1 = some (.inr (.inr (3, a1))) := rfl
  refine e_aldn cd_263_0 g1 ?_
  refine k_opt hs (fun _ q => nomatch q) (fun k1 h2 hs => ?_)
  refine e_getR cd_263_1 fd_263_80 h2 ?_
  refine e_aKn cd_263_4 nl_263 rfl rfl ?_
  intro _ gn kp
  have u3 := kp 0 _ g0 rfl rfl
  have u4 := gn
  exact tie_wy_leaveInRow_5  d  zLF a0 (zm_R M 3 k1 7) M so _ u3 u4 hs
theorem tie_wy_leaveInRow (d : Nat) (a0 : Nat) (a1 : Option Nat) (M : zM) (so : Int32 × zM) (hs : wy_leaveInRow d a0 a1 M = some so) : Ev zq_T d 263 0 (zl_args 0 [.inr (.inr (9, some a0)), .inr (.inr (3, a1))]) [] M (some (.inl so.1), so.2) := by
  cases d with
  | zero => exact nomatch hs
  | succ d => exact tieb_wy_leaveInRow d a0 a1 M so hs
theorem tie_wy_leaveInAny_43 (kl13 : Nat → Option Nat → Option Nat → Int32 → Option Nat → zM → Option (zM)) (d : Nat) (hk13 : ∀ (t0 : Nat) (v1 : Option Nat) (v2 : Option Nat) (v3 : Int32) (v4 : Option Nat) (M : zM) (so : zM) (ls : List (Nat × zV)), zl_get ls 0 = some (.inr (.inr (9, (some t0)))) → zl_get ls 1 = some (.inr (.inr (3, v1))) → zl_get ls 2 = some (.inr (.inr (3, v2))) → zl_get ls 3 = some (.inl v3) → zl_get ls 4 = some (.inr (.inr (3, v4))) → kl13 t0 v1 v2 v3 v4 M = some so → Ev zq_T (d + 1) 264 13 ls [] M (none, so)) (t0 : Nat) (v1 : Option Nat) (v2 : Option Nat) (v3 : Int32) (v4 : Option Nat) (M : zM) (so : zM) (ls : List (Nat × zV)) (g0 : zl_get ls 0 = some (.inr (.inr (9, (some t0))))) (g1 : zl_get ls 1 = some (.inr (.inr (3, v1)))) (g2 : zl_get ls 2 = some (.inr (.inr (3, v2)))) (g3 : zl_get ls 3 = some (.inl v3)) (g4 : zl_get ls 4 = some (.inr (.inr (3, v4)))) (hs : wy_leaveInAny_43 kl13 d t0 v1 v2 v3 v4 M = some so) : Ev zq_T (d + 1) 264 43 ls [] M (none, so) := by
  unfold wy_leaveInAny_43 at hs
  refine e_ald cd_264_43 g4 ?_
  refine k_opt hs (fun _ q => nomatch q) (fun k1 h2 hs => ?_)
  refine e_getR cd_264_45 fd_264_80 h2 ?_
  refine e_aK cd_264_48 nl_264 rfl rfl ?_
  intro _ gn kp
  have u3 := kp 0 _ g0 rfl rfl
  have u4 := kp 1 _ g1 rfl rfl
  have u5 := kp 2 _ g2 rfl rfl
  have u6 := kp 3 _ g3 rfl rfl
  have u7 := gn
  refine e_goto cd_264_50 rfl ?_
  exact hk13 t0 v1 v2 v3 (zm_R M 3 k1 7) M so _ u3 u4 u5 u6 u7 hs
theorem tie_wy_leaveInAny_13  (d : Nat)  : ∀ (fuel : Nat) (t0 : Nat) (v1 : Option Nat) (v2 : Option Nat) (v3 : Int32) (v4 : Option Nat) (M : zM) (so : zM) (ls : List (Nat × zV)), zl_get ls 0 = some (.inr (.inr (9, (some t0)))) → zl_get ls 1 = some (.inr (.inr (3, v1))) → zl_get ls 2 = some (.inr (.inr (3, v2))) → zl_get ls 3 = some (.inl v3) → zl_get ls 4 = some (.inr (.inr (3, v4))) → wy_leaveInAny_13  d fuel t0 v1 v2 v3 v4 M = some so → Ev zq_T (d + 1) 264 13 ls [] M (none, so) := by
  intro fuel
  induction fuel with
  | zero => intro t0 v1 v2 v3 v4 M so ls g0 g1 g2 g3 g4 hs; exact nomatch hs
  | succ fuel ih =>
    intro t0 v1 v2 v3 v4 M so ls g0 g1 g2 g3 g4 hs
    unfold wy_leaveInAny_13 at hs
    refine e_ald cd_264_13 g4 ?_
    refine k_opt hs (fun h1 hs => ?_) (fun k2 h1 hs => ?_)
    · refine e_nu0 cd_264_15 rfl h1 ?_
      refine e_aldn cd_264_53 g0 ?_
      refine e_pure cd_264_54 rfl ?_
      refine e_getI cd_264_55 (Or.inl fd_264_31) rfl ?_
      refine e_aldn cd_264_58 g2 ?_
      refine k_opt hs (fun _ q => nomatch q) (fun k3 h4 hs => ?_)
      refine e_getI cd_264_59 (Or.inl fd_264_93) h4 ?_
      refine e_ildn cd_264_62 g3 ?_
      refine e_pure cd_264_63 rfl ?_
      refine e_pure cd_264_64 rfl ?_
      refine k_let hs (fun M5 e6 hs => ?_)
      refine e_putI cd_264_65 pd_264_31 rfl e6 ?_
      have e := Option.some.inj hs
      subst e
      exact e_rv cd_264_68 nr_264
    · refine e_nu1 cd_264_15 rfl h1 ?_
      refine e_ald cd_264_18 g4 ?_
      refine e_aldn cd_264_20 g1 ?_
      refine k_if hs (fun c7 hs => ?_) (fun c7 hs => ?_)
      · refine e_aeq1 cd_264_21 rfl rfl c7 ?_
        exact tie_wy_leaveInAny_43 (fun p0 p1 p2 p3 p4 m => wy_leaveInAny_13  d fuel p0 p1 p2 p3 p4 m) d ih t0 v1 v2 v3 v4 M so _ g0 g1 g2 g3 g4 hs
      · refine e_aeq0 cd_264_21 rfl rfl c7 ?_
        refine e_aldn cd_264_24 g0 ?_
        refine e_ald cd_264_25 g4 ?_
        refine e_getI cd_264_27 (Or.inl fd_264_40) h1 ?_
        refine e_const cd_264_30 ci_m1 ?_
        refine e_const cd_264_31 ci_1 ?_
        refine e_ildn cd_264_32 g3 ?_
        refine e_ald cd_264_33 g4 ?_
        refine e_getI cd_264_35 (Or.inl fd_264_90) h1 ?_
        refine e_pure cd_264_38 rfl ?_
        refine e_pure cd_264_39 rfl ?_
        obtain ⟨q8, h9, hs⟩ := k_bind hs
        refine e_cvi cd_264_40 kd_264_45 rfl rfl rfl rfl rfl nl_265 rfl rfl (tie_wy_put d t0 (zm_I M 3 k2 9) (-1) (1 <<< ((v3 + (zm_I M 3 k2 2)) &&& 31)) M _ h9) ?_
        exact tie_wy_leaveInAny_43 (fun p0 p1 p2 p3 p4 m => wy_leaveInAny_13  d fuel p0 p1 p2 p3 p4 m) d ih t0 v1 v2 v3 v4 q8 so _ g0 g1 g2 g3 g4 hs
theorem tieb_wy_leaveInAny  (d : Nat)  (a0 : Nat) (a1 : Option Nat) (a2 : Option Nat) (M : zM) (so : zM) (hs : wy_leaveInAny_b  d a0 a1 a2 M = some so) : Ev zq_T (d + 1) 264 0 (zl_args 0 [.inr (.inr (9, some a0)), .inr (.inr (3, a1)), .inr (.inr (3, a2))]) [] M (none, so) := by
  unfold wy_leaveInAny_b at hs
  have g0 : zl_get (zl_args 0 [.inr (.inr (9, some a0)), .inr (.inr (3, a1)), .inr (.inr (3, a2))]) 0 = some (.inr (.inr (9, (some a0)))) := rfl
  have g1 : zl_get (zl_args 0 [.inr (.inr (9, some a0)), .inr (.inr (3, a1)), .inr (.inr (3, a2))]) 1 = some (.inr (.inr (3, a1))) := rfl
  have g2 : zl_get (zl_args 0 [.inr (.inr (9, some a0)), .inr (.inr (3, a1)), .inr (.inr (3, a2))]) 2 = some (.inr (.inr (3, a2))) := rfl
  refine e_const cd_264_0 ci_4 ?_
  refine e_aldn cd_264_1 g2 ?_
  refine k_opt hs (fun _ q => nomatch q) (fun k1 h2 hs => ?_)
  refine e_getI cd_264_2 (Or.inl fd_264_74) h2 ?_
  refine e_pure cd_264_5 rfl ?_
  refine k_let hs (fun x3 e4 hs => ?_)
  refine e_iKn cd_264_6 nl_264 rfl e4 ?_
  intro _ gn kp
  have u5 := kp 0 _ g0 rfl rfl
  have u6 := kp 1 _ g1 rfl rfl
  have u7 := kp 2 _ g2 rfl rfl
  have u8 := gn
  refine e_aldn cd_264_7 u7 ?_
  refine e_getR cd_264_8 fd_264_87 h2 ?_
  refine e_aK cd_264_11 nl_264 rfl rfl ?_
  intro _ gn kp
  have u9 := kp 0 _ u5 rfl rfl
  have u10 := kp 1 _ u6 rfl rfl
  have u11 := kp 2 _ u7 rfl rfl
  have u12 := kp 3 _ u8 rfl rfl
  have u13 := gn
  exact tie_wy_leaveInAny_13  d  zLF a0 a1 a2 x3 (zm_R M 3 k1 5) M so _ u9 u10 u11 u12 u13 hs
theorem tie_wy_leaveInAny (d : Nat) (a0 : Nat) (a1 : Option Nat) (a2 : Option Nat) (M : zM) (so : zM) (hs : wy_leaveInAny d a0 a1 a2 M = some so) : Ev zq_T d 264 0 (zl_args 0 [.inr (.inr (9, some a0)), .inr (.inr (3, a1)), .inr (.inr (3, a2))]) [] M (none, so) := by
  cases d with
  | zero => exact nomatch hs
  | succ d => exact tieb_wy_leaveInAny d a0 a1 a2 M so hs
theorem tie_wy_leave_104  (d : Nat)   (M : zM) (so : Int32 × zM) (ls : List (Nat × zV))  (hs : wy_leave_104  d  M = some so) : Ev zq_T (d + 1) 262 104 ls [] M (some (.inl so.1), so.2) := by
  unfold wy_leave_104 at hs
  refine e_const cd_262_104 ci_1 ?_
  have e := Option.some.inj hs
  subst e
  exact e_rz cd_262_105 nr_262 (Or.inr rfl)
theorem tie_wy_leave_76  (d : Nat)  (t0 : Nat) (v1 : Option Nat) (v3 : Option Nat) (M : zM) (so : Int32 × zM) (ls : List (Nat × zV)) (g0 : zl_get ls 0 = some (.inr (.inr (9, (some t0))))) (g1 : zl_get ls 1 = some (.inr (.inr (5, v1)))) (g3 : zl_get ls 3 = some (.inr (.inr (3, v3)))) (hs : wy_leave_76  d t0 v1 v3 M = some so) : Ev zq_T (d + 1) 262 76 ls [] M (some (.inl so.1), so.2) := by
  unfold wy_leave_76 at hs
  refine e_aldn cd_262_76 g1 ?_
  refine k_opt hs (fun _ q => nomatch q) (fun k1 h2 hs => ?_)
  refine e_getR cd_262_77 fd_262_77 h2 ?_
  refine e_aldn cd_262_80 g3 ?_
  refine k_opt hs (fun _ q => nomatch q) (fun k3 h4 hs => ?_)
  refine e_getI cd_262_81 (Or.inl fd_262_74) h4 ?_
  refine k_opt hs (fun _ q => nomatch q) (fun k5 h6 hs => ?_)
  obtain ⟨c7, hs⟩ := z_ite hs
  refine e_iald cd_262_84 rfl h6 c7 ?_
  refine e_const cd_262_85 ci_1 ?_
  refine k_if hs (fun c8 hs => ?_) (fun c8 hs => ?_)
  · refine e_icJ cd_262_86 rfl c8 ?_
    exact tie_wy_leave_104  d   M so _  hs
  · refine e_icN cd_262_86 rfl c8 ?_
    refine e_aldn cd_262_89 g0 ?_
    refine e_pure cd_262_90 rfl ?_
    refine e_getI cd_262_91 (Or.inl fd_262_28) rfl ?_
    refine e_const cd_262_94 ci_1 ?_
    refine e_aldn cd_262_95 g3 ?_
    refine e_getI cd_262_96 (Or.inl fd_262_74) h4 ?_
    refine e_pure cd_262_99 rfl ?_
    refine e_pure cd_262_100 rfl ?_
    refine k_let hs (fun M9 e10 hs => ?_)
    refine e_putI cd_262_101 pd_262_28 rfl e10 ?_
    exact tie_wy_leave_104  d   M9 so _  hs
theorem tieb_wy_leave  (d : Nat)  (a0 : Nat) (a1 : Option Nat) (a2 : Option Nat) (a3 : Option Nat) (M : zM) (so : Int32 × zM) (hs : wy_leave_b  d a0 a1 a2 a3 M = some so) : Ev zq_T (d + 1) 262 0 (zl_args 0 [.inr (.inr (9, some a0)), .inr (.inr (5, a1)), .inr (.inr (3, a2)), .inr (.inr (3, a3))]) [] M (some (.inl so.1), so.2) := by
  unfold wy_leave_b at hs
  have g0 : zl_get (zl_args 0 [.inr (.inr (9, some a0)), .inr (.inr (5, a1)), .inr (.inr (3, a2)), .inr (.inr (3, a3))]) 0 = some (.inr (.inr (9, (some a0)))) := rfl
  have g1 : zl_get (zl_args 0 [.inr (.inr (9, some a0)), .inr (.inr (5, a1)), .inr (.inr (3, a2)), .inr (.inr (3, a3))]) 1 = some (.inr (.inr (5, a1))) := rfl
  have g2 : zl_get (zl_args 0 [.inr (.inr (9, some a0)), .inr (.inr (5, a1)), .inr (.inr (3, a2)), .inr (.inr (3, a3))]) 2 = some (.inr (.inr (3, a2))) := rfl
  have g3 : zl_get (zl_args 0 [.inr (.inr (9, some a0)), .inr (.inr (5, a1)), .inr (.inr (3, a2)), .inr (.inr (3, a3))]) 3 = some (.inr (.inr (3, a3))) := rfl
  refine e_aldn cd_262_0 g3 ?_
  refine k_opt hs (fun _ q => nomatch q) (fun k1 h2 hs => ?_)
  refine e_getI cd_262_1 (Or.inl fd_262_60) h2 ?_
  refine k_if hs (fun c3 hs => ?_) (fun c3 hs => ?_)
  · refine e_tab cd_262_4 (by decide) (fun f => (e_tb1 c3 rfl f)) ?_
    refine e_aldn cd_262_36 g0 ?_
    refine e_aldn cd_262_37 g2 ?_
    obtain ⟨q7, h8, hs⟩ := k_bind hs
    refine e_cvi cd_262_38 kd_262_63 rfl rfl rfl rfl rfl nl_263 rfl rfl (tie_wy_leaveInRow d a0 a2 M _ h8) ?_
    obtain ⟨c9, hs⟩ := z_ite hs
    have e := Option.some.inj hs
    subst e
    exact e_rz cd_262_41 nr_262 c9
  · refine k_if hs (fun c4 hs => ?_) (fun c4 hs => ?_)
    · refine e_tab cd_262_4 (by decide) (fun f => (e_tb0 c3 f (e_tb1 c4 rfl f))) ?_
      refine e_const cd_262_106 ci_1 ?_
      have e := Option.some.inj hs
      subst e
      exact e_rz cd_262_107 nr_262 (Or.inr rfl)
    · refine k_if hs (fun c5 hs => ?_) (fun c5 hs => ?_)
      · refine e_tab cd_262_4 (by decide) (fun f => (e_tb0 c3 f (e_tb0 c4 f (e_tb1 c5 rfl f)))) ?_
        refine e_aldn cd_262_50 g1 ?_
        refine k_opt hs (fun _ q => nomatch q) (fun k10 h11 hs => ?_)
        refine e_getR cd_262_51 fd_262_71 h11 ?_
        refine e_aldn cd_262_54 g3 ?_
        refine e_getI cd_262_55 (Or.inl fd_262_74) h2 ?_
        refine k_opt hs (fun _ q => nomatch q) (fun k12 h13 hs => ?_)
        obtain ⟨c14, hs⟩ := z_ite hs
        refine e_iald cd_262_58 rfl h13 c14 ?_
        refine e_const cd_262_59 ci_1 ?_
        refine k_if hs (fun c15 hs => ?_) (fun c15 hs => ?_)
        · refine e_icJ cd_262_60 rfl c15 ?_
          exact tie_wy_leave_76  d  a0 a1 a3 M so _ g0 g1 g3 hs
        · refine e_icN cd_262_60 rfl c15 ?_
          refine e_aldn cd_262_63 g0 ?_
          refine e_aldn cd_262_64 g2 ?_
          refine k_opt hs (fun _ q => nomatch q) (fun k16 h17 hs => ?_)
          refine e_getI cd_262_65 (Or.inl fd_262_40) h17 ?_
          refine e_aldn cd_262_68 g3 ?_
          refine e_getI cd_262_69 (Or.inl fd_262_74) h2 ?_
          refine e_const cd_262_72 ci_0 ?_
          obtain ⟨q18, h19, hs⟩ := k_bind hs
          refine e_cvi cd_262_73 kd_262_45 rfl rfl rfl rfl rfl nl_265 rfl rfl (tie_wy_put d a0 (zm_I M 3 k16 9) (zm_I M 3 k1 1) 0 M _ h19) ?_
          exact tie_wy_leave_76  d  a0 a1 a3 q18 so _ g0 g1 g3 hs
      · refine k_if hs (fun c6 hs => ?_) (fun c6 hs => ?_)
        · refine e_tab cd_262_4 (by decide) (fun f => (e_tb0 c3 f (e_tb0 c4 f (e_tb0 c5 f (e_tb1 c6 rfl f))))) ?_
          refine e_aldn cd_262_42 g0 ?_
          refine e_aldn cd_262_43 g2 ?_
          refine e_aldn cd_262_44 g3 ?_
          obtain ⟨q20, h21, hs⟩ := k_bind hs
          refine e_cvi cd_262_45 kd_262_67 rfl rfl rfl rfl rfl nl_264 rfl rfl (tie_wy_leaveInAny d a0 a2 a3 M _ h21) ?_
          refine e_const cd_262_48 ci_1 ?_
          have e := Option.some.inj hs
          subst e
          exact e_rz cd_262_49 nr_262 (Or.inr rfl)
        · refine e_tab cd_262_4 (by decide) (fun f => (e_tb0 c3 f (e_tb0 c4 f (e_tb0 c5 f (e_tb0 c6 f (e_tbd rfl f)))))) ?_
          refine e_const cd_262_106 ci_1 ?_
          have e := Option.some.inj hs
          subst e
          exact e_rz cd_262_107 nr_262 (Or.inr rfl)
theorem tie_wy_leave (d : Nat) (a0 : Nat) (a1 : Option Nat) (a2 : Option Nat) (a3 : Option Nat) (M : zM) (so : Int32 × zM) (hs : wy_leave d a0 a1 a2 a3 M = some so) : Ev zq_T d 262 0 (zl_args 0 [.inr (.inr (9, some a0)), .inr (.inr (5, a1)), .inr (.inr (3, a2)), .inr (.inr (3, a3))]) [] M (some (.inl so.1), so.2) := by
  cases d with
  | zero => exact nomatch hs
  | succ d => exact tieb_wy_leave d a0 a1 a2 a3 M so hs
theorem tie_wy_list_39  (d : Nat)  (s0 : Option Nat) (s1 : Int32) (M : zM) (so : zM) (ls : List (Nat × zV))  (hs : wy_list_39  d s0 s1 M = some so) : Ev zq_T (d + 1) 261 39 ls [.inl s1, .inr (.inr (9, s0))] M (none, so) := by
  unfold wy_list_39 at hs
  refine e_const cd_261_39 ci_m1 ?_
  refine e_const cd_261_40 ci_0 ?_
  refine k_opt hs (fun _ q => nomatch q) (fun k1 h2 hs => ?_)
  obtain ⟨q3, h4, hs⟩ := k_bind hs
  refine e_cvi cd_261_41 kd_261_45 rfl rfl rfl h2 rfl nl_265 rfl rfl (tie_wy_put d k1 s1 (-1) 0 M _ h4) ?_
  have e := Option.some.inj hs
  subst e
  exact e_rv cd_261_44 nr_261
theorem tie_wy_list_92 (kl55 : Nat → Option Nat → Int32 → Option Nat → zM → Option (zM)) (d : Nat) (hk55 : ∀ (t0 : Nat) (v1 : Option Nat) (v3 : Int32) (v4 : Option Nat) (M : zM) (so : zM) (ls : List (Nat × zV)), zl_get ls 0 = some (.inr (.inr (9, (some t0)))) → zl_get ls 1 = some (.inr (.inr (5, v1))) → zl_get ls 3 = some (.inl v3) → zl_get ls 4 = some (.inr (.inr (3, v4))) → kl55 t0 v1 v3 v4 M = some so → Ev zq_T (d + 1) 261 55 ls [] M (none, so)) (t0 : Nat) (v1 : Option Nat) (v4 : Option Nat) (s0 : Int32) (M : zM) (so : zM) (ls : List (Nat × zV)) (g0 : zl_get ls 0 = some (.inr (.inr (9, (some t0))))) (g1 : zl_get ls 1 = some (.inr (.inr (5, v1)))) (g4 : zl_get ls 4 = some (.inr (.inr (3, v4)))) (hs : wy_list_92 kl55 d t0 v1 v4 s0 M = some so) : Ev zq_T (d + 1) 261 92 ls [.inl s0] M (none, so) := by
  unfold wy_list_92 at hs
  refine e_iKn cd_261_92 nl_261 rfl rfl ?_
  intro _ gn kp
  have u1 := kp 0 _ g0 rfl rfl
  have u2 := kp 1 _ g1 rfl rfl
  have u3 := kp 4 _ g4 rfl rfl
  have u4 := gn
  refine e_ald cd_261_93 u3 ?_
  refine k_opt hs (fun _ q => nomatch q) (fun k5 h6 hs => ?_)
  refine e_getR cd_261_95 fd_261_53 h6 ?_
  refine e_aK cd_261_98 nl_261 rfl rfl ?_
  intro _ gn kp
  have u7 := kp 0 _ u1 rfl rfl
  have u8 := kp 1 _ u2 rfl rfl
  have u9 := kp 3 _ u4 rfl rfl
  have u10 := gn
  refine e_goto cd_261_100 rfl ?_
  exact hk55 t0 v1 s0 (zm_R M 3 k5 4) M so _ u7 u8 u9 u10 hs
theorem tie_wy_list_91 (kl55 : Nat → Option Nat → Int32 → Option Nat → zM → Option (zM)) (d : Nat) (hk55 : ∀ (t0 : Nat) (v1 : Option Nat) (v3 : Int32) (v4 : Option Nat) (M : zM) (so : zM) (ls : List (Nat × zV)), zl_get ls 0 = some (.inr (.inr (9, (some t0)))) → zl_get ls 1 = some (.inr (.inr (5, v1))) → zl_get ls 3 = some (.inl v3) → zl_get ls 4 = some (.inr (.inr (3, v4))) → kl55 t0 v1 v3 v4 M = some so → Ev zq_T (d + 1) 261 55 ls [] M (none, so)) (t0 : Nat) (v1 : Option Nat) (v4 : Option Nat) (M : zM) (so : zM) (ls : List (Nat × zV)) (g0 : zl_get ls 0 = some (.inr (.inr (9, (some t0))))) (g1 : zl_get ls 1 = some (.inr (.inr (5, v1)))) (g4 : zl_get ls 4 = some (.inr (.inr (3, v4)))) (hs : wy_list_91 kl55 d t0 v1 v4 M = some so) : Ev zq_T (d + 1) 261 91 ls [] M (none, so) := by
  unfold wy_list_91 at hs
  refine e_const cd_261_91 ci_0 ?_
  exact tie_wy_list_92 kl55 d hk55 t0 v1 v4 0 M so _ g0 g1 g4 hs
theorem tie_wy_list_103  (d : Nat)   (M : zM) (so : zM) (ls : List (Nat × zV))  (hs : wy_list_103  d  M = some so) : Ev zq_T (d + 1) 261 103 ls [] M (none, so) := by
  unfold wy_list_103 at hs
  have e := Option.some.inj hs
  subst e
  exact e_rv cd_261_103 nr_261
theorem tie_wy_list_55  (d : Nat)  : ∀ (fuel : Nat) (t0 : Nat) (v1 : Option Nat) (v3 : Int32) (v4 : Option Nat) (M : zM) (so : zM) (ls : List (Nat × zV)), zl_get ls 0 = some (.inr (.inr (9, (some t0)))) → zl_get ls 1 = some (.inr (.inr (5, v1))) → zl_get ls 3 = some (.inl v3) → zl_get ls 4 = some (.inr (.inr (3, v4))) → wy_list_55  d fuel t0 v1 v3 v4 M = some so → Ev zq_T (d + 1) 261 55 ls [] M (none, so) := by
  intro fuel
  induction fuel with
  | zero => intro t0 v1 v3 v4 M so ls g0 g1 g3 g4 hs; exact nomatch hs
  | succ fuel ih =>
    intro t0 v1 v3 v4 M so ls g0 g1 g3 g4 hs
    unfold wy_list_55 at hs
    refine e_ald cd_261_55 g4 ?_
    refine k_opt hs (fun h1 hs => ?_) (fun k2 h1 hs => ?_)
    · refine e_nu0 cd_261_57 rfl h1 ?_
      exact tie_wy_list_103  d   M so _  hs
    · refine e_nu1 cd_261_57 rfl h1 ?_
      refine e_ildn cd_261_60 g3 ?_
      refine k_if hs (fun c3 hs => ?_) (fun c3 hs => ?_)
      · refine e_izJ cd_261_61 rfl c3 ?_
        exact tie_wy_list_103  d   M so _  hs
      · refine e_izN cd_261_61 rfl c3 ?_
        refine e_ald cd_261_64 g4 ?_
        refine e_getR cd_261_66 fd_261_53 h1 ?_
        refine k_opt hs (fun h4 hs => ?_) (fun k5 h4 hs => ?_)
        · refine e_nu0 cd_261_69 rfl h4 ?_
          exact tie_wy_list_91 (fun p0 p1 p2 p3 m => wy_list_55  d fuel p0 p1 p2 p3 m) d ih t0 v1 v4 M so _ g0 g1 g4 hs
        · refine e_nu1 cd_261_69 rfl h4 ?_
          refine e_aldn cd_261_72 g0 ?_
          refine e_aldn cd_261_73 g1 ?_
          refine e_ald cd_261_74 g4 ?_
          refine e_ald cd_261_76 g4 ?_
          refine e_getR cd_261_78 fd_261_53 h1 ?_
          obtain ⟨q6, h7, hs⟩ := k_bind hs
          refine e_cvi cd_261_81 kd_261_56 rfl rfl rfl rfl rfl nl_262 rfl rfl (tie_wy_leave d t0 v1 v4 (zm_R M 3 k2 4) M _ h7) ?_
          refine k_if hs (fun c8 hs => ?_) (fun c8 hs => ?_)
          · refine e_izJ cd_261_84 rfl c8 ?_
            exact tie_wy_list_91 (fun p0 p1 p2 p3 m => wy_list_55  d fuel p0 p1 p2 p3 m) d ih t0 v1 v4 q6.2 so _ g0 g1 g4 hs
          · refine e_izN cd_261_84 rfl c8 ?_
            refine e_const cd_261_87 ci_1 ?_
            refine e_goto cd_261_88 rfl ?_
            exact tie_wy_list_92 (fun p0 p1 p2 p3 m => wy_list_55  d fuel p0 p1 p2 p3 m) d ih t0 v1 v4 1 q6.2 so _ g0 g1 g4 hs
theorem tieb_wy_list  (d : Nat)  (a0 : Nat) (a1 : Option Nat) (a2 : Int32) (M : zM) (so : zM) (hs : wy_list_b  d a0 a1 a2 M = some so) : Ev zq_T (d + 1) 261 0 (zl_args 0 [.inr (.inr (9, some a0)), .inr (.inr (5, a1)), .inl a2]) [] M (none, so) := by
  unfold wy_list_b at hs
  have g0 : zl_get (zl_args 0 [.inr (.inr (9, some a0)), .inr (.inr (5, a1)), .inl a2]) 0 = some (.inr (.inr (9, (some a0)))) := rfl
  have g1 : zl_get (zl_args 0 [.inr (.inr (9, some a0)), .inr (.inr (5, a1)), .inl a2]) 1 = some (.inr (.inr (5, a1))) := rfl
  have g2 : zl_get (zl_args 0 [.inr (.inr (9, some a0)), .inr (.inr (5, a1)), .inl a2]) 2 = some (.inl a2) := rfl
  refine e_aldn cd_261_0 g0 ?_
  refine e_const cd_261_1 ci_0 ?_
  refine k_let hs (fun M1 e2 hs => ?_)
  refine e_putI cd_261_2 pd_261_24 rfl e2 ?_
  refine e_aldn cd_261_5 g0 ?_
  refine e_const cd_261_6 ci_0 ?_
  refine k_let hs (fun M3 e4 hs => ?_)
  refine e_putI cd_261_7 pd_261_28 rfl e4 ?_
  refine e_aldn cd_261_10 g0 ?_
  refine e_const cd_261_11 ci_0 ?_
  refine k_let hs (fun M5 e6 hs => ?_)
  refine e_putI cd_261_12 pd_261_31 rfl e6 ?_
  refine e_ildn cd_261_15 g2 ?_
  refine e_const cd_261_16 ci_m1 ?_
  refine k_if hs (fun c7 hs => ?_) (fun c7 hs => ?_)
  · refine e_icN cd_261_17 rfl (fun q => q c7) ?_
    refine e_aldn cd_261_20 g0 ?_
    refine e_aldn cd_261_21 g1 ?_
    refine k_opt hs (fun _ q => nomatch q) (fun k8 h9 hs => ?_)
    refine e_getR cd_261_22 fd_261_34 h9 ?_
    refine k_opt hs (fun h10 hs => ?_) (fun k11 h10 hs => ?_)
    · refine e_nn0 cd_261_25 rfl h10 ?_
      refine e_const cd_261_28 ci_0 ?_
      refine e_goto cd_261_29 rfl ?_
      exact tie_wy_list_39  d  (some a0) 0 M5 so _  hs
    · refine e_nn1 cd_261_25 rfl h10 ?_
      refine e_aldn cd_261_32 g1 ?_
      refine e_getR cd_261_33 fd_261_34 h9 ?_
      refine k_opt hs (fun _ q => nomatch q) (fun k12 h13 hs => ?_)
      refine e_getI cd_261_36 (Or.inl fd_261_40) h13 ?_
      exact tie_wy_list_39  d  (some a0) (zm_I M5 3 k12 9) M5 so _  hs
  · refine e_icJ cd_261_17 rfl c7 ?_
    refine e_const cd_261_45 ci_1 ?_
    refine e_iKn cd_261_46 nl_261 rfl rfl ?_
    intro _ gn kp
    have u14 := kp 0 _ g0 rfl rfl
    have u15 := kp 1 _ g1 rfl rfl
    have u16 := kp 2 _ g2 rfl rfl
    have u17 := gn
    refine e_aldn cd_261_47 u15 ?_
    refine k_opt hs (fun _ q => nomatch q) (fun k18 h19 hs => ?_)
    refine e_getR cd_261_48 fd_261_49 h19 ?_
    refine e_ildn cd_261_51 u16 ?_
    refine k_opt hs (fun _ q => nomatch q) (fun k20 h21 hs => ?_)
    obtain ⟨c22, hs⟩ := z_ite hs
    refine e_aald cd_261_52 rfl h21 c22 ?_
    refine e_aK cd_261_53 nl_261 rfl rfl ?_
    intro _ gn kp
    have u23 := kp 0 _ u14 rfl rfl
    have u24 := kp 1 _ u15 rfl rfl
    have u25 := kp 3 _ u17 rfl rfl
    have u26 := gn
    exact tie_wy_list_55  d  zLF a0 a1 1 (zm_R M5 24 k20 (a2 : Int32).toNatClampNeg) M5 so _ u23 u24 u25 u26 hs
theorem tie_wy_list (d : Nat) (a0 : Nat) (a1 : Option Nat) (a2 : Int32) (M : zM) (so : zM) (hs : wy_list d a0 a1 a2 M = some so) : Ev zq_T d 261 0 (zl_args 0 [.inr (.inr (9, some a0)), .inr (.inr (5, a1)), .inl a2]) [] M (none, so) := by
  cases d with
  | zero => exact nomatch hs
  | succ d => exact tieb_wy_list d a0 a1 a2 M so hs
theorem tie_wy_nextBehind_11  (d : Nat)  : ∀ (fuel : Nat) (t0 : Nat) (v3 : Int32) (v4 : Int32) (M : zM) (so : Int32 × zM) (ls : List (Nat × zV)), zl_get ls 0 = some (.inr (.inr (9, (some t0)))) → zl_get ls 3 = some (.inl v3) → zl_get ls 4 = some (.inl v4) → wy_nextBehind_11  d fuel t0 v3 v4 M = some so → Ev zq_T (d + 1) 266 11 ls [] M (some (.inl so.1), so.2) := by
  intro fuel
  induction fuel with
  | zero => intro t0 v3 v4 M so ls g0 g3 g4 hs; exact nomatch hs
  | succ fuel ih =>
    intro t0 v3 v4 M so ls g0 g3 g4 hs
    unfold wy_nextBehind_11 at hs
    refine e_ild cd_266_11 g4 ?_
    refine e_aldn cd_266_13 g0 ?_
    refine e_getI cd_266_14 (Or.inl fd_266_24) rfl ?_
    refine k_if hs (fun c1 hs => ?_) (fun c1 hs => ?_)
    · refine e_icJ cd_266_17 rfl c1 ?_
      refine e_ildn cd_266_41 g3 ?_
      have e := Option.some.inj hs
      subst e
      exact e_ri cd_266_42 nr_266
    · refine e_icN cd_266_17 rfl c1 ?_
      refine e_ildn cd_266_20 g3 ?_
      refine e_const cd_266_21 ci_1 ?_
      refine e_aldn cd_266_22 g0 ?_
      refine e_getR cd_266_23 fd_266_11 rfl ?_
      refine e_ild cd_266_26 g4 ?_
      refine k_opt hs (fun _ q => nomatch q) (fun k2 h3 hs => ?_)
      obtain ⟨c4, hs⟩ := z_ite hs
      refine e_iald cd_266_28 rfl h3 c4 ?_
      obtain ⟨q5, h6, hs⟩ := k_bind hs
      refine e_cst cd_266_29 kd_266_100 rfl rfl rfl nl_259 rfl rfl (tie_wy_occurrenceIn d (zm_I M 20 k2 (v4 : Int32).toNatClampNeg) M _ h6) ?_
      refine e_pure cd_266_32 rfl ?_
      refine e_pure cd_266_33 rfl ?_
      refine k_let hs (fun x7 e8 hs => ?_)
      refine e_iKn cd_266_34 nl_266 rfl e8 ?_
      intro _ gn kp
      have u9 := kp 0 _ g0 rfl rfl
      have u10 := kp 4 _ g4 rfl rfl
      have u11 := gn
      refine k_let hs (fun x12 e13 hs => ?_)
      refine e_incK cd_266_35 nl_266 rfl u10 ci_1 e13 ?_
      intro _ gn kp
      have u14 := kp 0 _ u9 rfl rfl
      have u15 := kp 3 _ u11 rfl rfl
      have u16 := gn
      refine e_goto cd_266_38 rfl ?_
      exact ih t0 x7 x12 q5.2 so _ u14 u15 u16 hs
theorem tieb_wy_nextBehind  (d : Nat)  (a0 : Nat) (a1 : Option Nat) (a2 : Int32) (M : zM) (so : Int32 × zM) (hs : wy_nextBehind_b  d a0 a1 a2 M = some so) : Ev zq_T (d + 1) 266 0 (zl_args 0 [.inr (.inr (9, some a0)), .inr (.inr (5, a1)), .inl a2]) [] M (some (.inl so.1), so.2) := by
  unfold wy_nextBehind_b at hs
  have g0 : zl_get (zl_args 0 [.inr (.inr (9, some a0)), .inr (.inr (5, a1)), .inl a2]) 0 = some (.inr (.inr (9, (some a0)))) := rfl
  have g1 : zl_get (zl_args 0 [.inr (.inr (9, some a0)), .inr (.inr (5, a1)), .inl a2]) 1 = some (.inr (.inr (5, a1))) := rfl
  have g2 : zl_get (zl_args 0 [.inr (.inr (9, some a0)), .inr (.inr (5, a1)), .inl a2]) 2 = some (.inl a2) := rfl
  refine e_aldn cd_266_0 g0 ?_
  refine e_aldn cd_266_1 g1 ?_
  refine e_ildn cd_266_2 g2 ?_
  obtain ⟨q1, h2, hs⟩ := k_bind hs
  refine e_cvi cd_266_3 kd_266_96 rfl rfl rfl rfl rfl nl_261 rfl rfl (tie_wy_list d a0 a1 a2 M _ h2) ?_
  refine e_const cd_266_6 ci_0 ?_
  refine e_iKn cd_266_7 nl_266 rfl rfl ?_
  intro _ gn kp
  have u3 := kp 0 _ g0 rfl rfl
  have u4 := gn
  refine e_const cd_266_8 ci_0 ?_
  refine e_iK cd_266_9 nl_266 rfl rfl ?_
  intro _ gn kp
  have u5 := kp 0 _ u3 rfl rfl
  have u6 := kp 3 _ u4 rfl rfl
  have u7 := gn
  exact tie_wy_nextBehind_11  d  zLF a0 0 0 q1 so _ u5 u6 u7 hs
theorem tie_wy_nextBehind (d : Nat) (a0 : Nat) (a1 : Option Nat) (a2 : Int32) (M : zM) (so : Int32 × zM) (hs : wy_nextBehind d a0 a1 a2 M = some so) : Ev zq_T d 266 0 (zl_args 0 [.inr (.inr (9, some a0)), .inr (.inr (5, a1)), .inl a2]) [] M (some (.inl so.1), so.2) := by
  cases d with
  | zero => exact nomatch hs
  | succ d => exact tieb_wy_nextBehind d a0 a1 a2 M so hs
theorem tie_wy_hasTimeLeft_43  (d : Nat)  (s0 : Int32) (M : zM) (so : Int32 × zM) (ls : List (Nat × zV))  (hs : wy_hasTimeLeft_43  d s0 M = some so) : Ev zq_T d 268 43 ls [.inl s0] M (some (.inl so.1), so.2) := by
  unfold wy_hasTimeLeft_43 at hs
  obtain ⟨c1, hs⟩ := z_ite hs
  have e := Option.some.inj hs
  subst e
  exact e_rz cd_268_43 nr_268 c1
theorem tie_wy_hasTimeLeft_38  (d : Nat)   (M : zM) (so : Int32 × zM) (ls : List (Nat × zV))  (hs : wy_hasTimeLeft_38  d  M = some so) : Ev zq_T d 268 38 ls [] M (some (.inl so.1), so.2) := by
  unfold wy_hasTimeLeft_38 at hs
  refine e_const cd_268_38 ci_1 ?_
  refine e_goto cd_268_39 rfl ?_
  exact tie_wy_hasTimeLeft_43  d  1 M so _  hs
theorem tie_wy_hasTimeLeft (d : Nat) (a0 : Option Nat) (a1 : Int32) (a2 : Int32) (M : zM) (so : Int32 × zM) (hs : wy_hasTimeLeft d a0 a1 a2 M = some so) : Ev zq_T d 268 0 (zl_args 0 [.inr (.inr (5, a0)), .inl a1, .inl a2]) [] M (some (.inl so.1), so.2) := by
  unfold wy_hasTimeLeft at hs
  have g0 : zl_get (zl_args 0 [.inr (.inr (5, a0)), .inl a1, .inl a2]) 0 = some (.inr (.inr (5, a0))) := rfl
  have g1 : zl_get (zl_args 0 [.inr (.inr (5, a0)), .inl a1, .inl a2]) 1 = some (.inl a1) := rfl
  have g2 : zl_get (zl_args 0 [.inr (.inr (5, a0)), .inl a1, .inl a2]) 2 = some (.inl a2) := rfl
  refine e_ildn cd_268_0 g1 ?_
  refine e_const cd_268_1 ci_m1 ?_
  refine k_if hs (fun c1 hs => ?_) (fun c1 hs => ?_)
  · refine e_icJ cd_268_2 rfl c1 ?_
    exact tie_wy_hasTimeLeft_38  d   M so _  hs
  · refine e_icN cd_268_2 rfl c1 ?_
    refine e_ildn cd_268_5 g2 ?_
    refine e_ildn cd_268_6 g1 ?_
    refine e_pure cd_268_7 rfl ?_
    refine e_const cd_268_8 ci_1 ?_
    refine e_pure cd_268_9 rfl ?_
    refine k_if hs (fun c2 hs => ?_) (fun c2 hs => ?_)
    · refine e_izJ cd_268_10 rfl c2 ?_
      exact tie_wy_hasTimeLeft_38  d   M so _  hs
    · refine e_izN cd_268_10 rfl c2 ?_
      refine e_aldn cd_268_13 g0 ?_
      refine k_opt hs (fun _ q => nomatch q) (fun k3 h4 hs => ?_)
      refine e_getR cd_268_14 fd_268_71 h4 ?_
      refine e_ildn cd_268_17 g1 ?_
      refine k_opt hs (fun _ q => nomatch q) (fun k5 h6 hs => ?_)
      obtain ⟨c7, hs⟩ := z_ite hs
      refine e_iald cd_268_18 rfl h6 c7 ?_
      refine e_const cd_268_19 ci_m1 ?_
      refine k_if hs (fun c8 hs => ?_) (fun c8 hs => ?_)
      · refine e_icJ cd_268_20 rfl c8 ?_
        exact tie_wy_hasTimeLeft_38  d   M so _  hs
      · refine e_icN cd_268_20 rfl c8 ?_
        refine e_aldn cd_268_23 g0 ?_
        refine e_getR cd_268_24 fd_268_114 h4 ?_
        refine e_ildn cd_268_27 g1 ?_
        refine k_opt hs (fun _ q => nomatch q) (fun k9 h10 hs => ?_)
        obtain ⟨c11, hs⟩ := z_ite hs
        refine e_iald cd_268_28 rfl h10 c11 ?_
        refine e_aldn cd_268_29 g0 ?_
        refine e_getR cd_268_30 fd_268_71 h4 ?_
        refine e_ildn cd_268_33 g1 ?_
        refine k_opt hs (fun _ q => nomatch q) (fun k12 h13 hs => ?_)
        obtain ⟨c14, hs⟩ := z_ite hs
        refine e_iald cd_268_34 rfl h13 c14 ?_
        refine k_if hs (fun c15 hs => ?_) (fun c15 hs => ?_)
        · refine e_icJ cd_268_35 rfl c15 ?_
          refine e_const cd_268_42 ci_0 ?_
          exact tie_wy_hasTimeLeft_43  d  0 M so _  hs
        · refine e_icN cd_268_35 rfl c15 ?_
          exact tie_wy_hasTimeLeft_38  d   M so _  hs
theorem tie_wy_clash_110  (d : Nat)  (s0 : Int32) (M : zM) (so : Int32 × zM) (ls : List (Nat × zV))  (hs : wy_clash_110  d s0 M = some so) : Ev zq_T (d + 1) 267 110 ls [.inl s0] M (some (.inl so.1), so.2) := by
  unfold wy_clash_110 at hs
  obtain ⟨c1, hs⟩ := z_ite hs
  have e := Option.some.inj hs
  subst e
  exact e_rz cd_267_110 nr_267 c1
theorem tie_wy_clash_109  (d : Nat)   (M : zM) (so : Int32 × zM) (ls : List (Nat × zV))  (hs : wy_clash_109  d  M = some so) : Ev zq_T (d + 1) 267 109 ls [] M (some (.inl so.1), so.2) := by
  unfold wy_clash_109 at hs
  refine e_const cd_267_109 ci_0 ?_
  exact tie_wy_clash_110  d  0 M so _  hs
theorem tie_wy_clash_83  (d : Nat)  (t0 : Nat) (v1 : Option Nat) (v2 : Int32) (v3 : Int32) (M : zM) (so : Int32 × zM) (ls : List (Nat × zV)) (g0 : zl_get ls 0 = some (.inr (.inr (9, (some t0))))) (g1 : zl_get ls 1 = some (.inr (.inr (5, v1)))) (g2 : zl_get ls 2 = some (.inl v2)) (g3 : zl_get ls 3 = some (.inl v3)) (hs : wy_clash_83  d t0 v1 v2 v3 M = some so) : Ev zq_T (d + 1) 267 83 ls [] M (some (.inl so.1), so.2) := by
  unfold wy_clash_83 at hs
  refine e_aldn cd_267_83 g1 ?_
  refine e_aldn cd_267_84 g0 ?_
  refine e_getR cd_267_85 fd_267_11 rfl ?_
  refine e_ildn cd_267_88 g3 ?_
  refine k_opt hs (fun _ q => nomatch q) (fun k1 h2 hs => ?_)
  obtain ⟨c3, hs⟩ := z_ite hs
  refine e_iald cd_267_89 rfl h2 c3 ?_
  obtain ⟨q4, h5, hs⟩ := k_bind hs
  refine e_cst cd_267_90 kd_267_107 rfl rfl rfl nl_260 rfl rfl (tie_wy_countIn d (zm_I M 20 k1 (v3 : Int32).toNatClampNeg) M _ h5) ?_
  refine e_aldn cd_267_93 g0 ?_
  refine e_getR cd_267_94 fd_267_15 rfl ?_
  refine e_ildn cd_267_97 g2 ?_
  refine k_opt hs (fun _ q => nomatch q) (fun k6 h7 hs => ?_)
  obtain ⟨c8, hs⟩ := z_ite hs
  refine e_iald cd_267_98 rfl h7 c8 ?_
  obtain ⟨q9, h10, hs⟩ := k_bind hs
  refine e_cst cd_267_99 kd_267_110 rfl rfl rfl nl_268 rfl rfl (tie_wy_hasTimeLeft d v1 q4.1 (zm_I q4.2 20 k6 (v2 : Int32).toNatClampNeg) q4.2 _ h10) ?_
  refine k_if hs (fun c11 hs => ?_) (fun c11 hs => ?_)
  · refine e_izJ cd_267_102 rfl c11 ?_
    exact tie_wy_clash_109  d   q9.2 so _  hs
  · refine e_izN cd_267_102 rfl c11 ?_
    refine e_const cd_267_105 ci_1 ?_
    refine e_goto cd_267_106 rfl ?_
    exact tie_wy_clash_110  d  1 q9.2 so _  hs
theorem tie_wy_clash_61  (d : Nat)  (t0 : Nat) (v1 : Option Nat) (v2 : Int32) (v3 : Int32) (M : zM) (so : Int32 × zM) (ls : List (Nat × zV)) (g0 : zl_get ls 0 = some (.inr (.inr (9, (some t0))))) (g1 : zl_get ls 1 = some (.inr (.inr (5, v1)))) (g2 : zl_get ls 2 = some (.inl v2)) (g3 : zl_get ls 3 = some (.inl v3)) (hs : wy_clash_61  d t0 v1 v2 v3 M = some so) : Ev zq_T (d + 1) 267 61 ls [] M (some (.inl so.1), so.2) := by
  unfold wy_clash_61 at hs
  refine e_aldn cd_267_61 g1 ?_
  refine e_aldn cd_267_62 g0 ?_
  refine e_getR cd_267_63 fd_267_11 rfl ?_
  refine e_ildn cd_267_66 g2 ?_
  refine k_opt hs (fun _ q => nomatch q) (fun k1 h2 hs => ?_)
  obtain ⟨c3, hs⟩ := z_ite hs
  refine e_iald cd_267_67 rfl h2 c3 ?_
  obtain ⟨q4, h5, hs⟩ := k_bind hs
  refine e_cst cd_267_68 kd_267_107 rfl rfl rfl nl_260 rfl rfl (tie_wy_countIn d (zm_I M 20 k1 (v2 : Int32).toNatClampNeg) M _ h5) ?_
  refine e_aldn cd_267_71 g0 ?_
  refine e_getR cd_267_72 fd_267_15 rfl ?_
  refine e_ildn cd_267_75 g3 ?_
  refine k_opt hs (fun _ q => nomatch q) (fun k6 h7 hs => ?_)
  obtain ⟨c8, hs⟩ := z_ite hs
  refine e_iald cd_267_76 rfl h7 c8 ?_
  obtain ⟨q9, h10, hs⟩ := k_bind hs
  refine e_cst cd_267_77 kd_267_110 rfl rfl rfl nl_268 rfl rfl (tie_wy_hasTimeLeft d v1 q4.1 (zm_I q4.2 20 k6 (v3 : Int32).toNatClampNeg) q4.2 _ h10) ?_
  refine k_if hs (fun c11 hs => ?_) (fun c11 hs => ?_)
  · refine e_izJ cd_267_80 rfl c11 ?_
    exact tie_wy_clash_109  d   q9.2 so _  hs
  · refine e_izN cd_267_80 rfl c11 ?_
    exact tie_wy_clash_83  d  t0 v1 v2 v3 q9.2 so _ g0 g1 g2 g3 hs
theorem tie_wy_clash_31  (d : Nat)  (t0 : Nat) (v1 : Option Nat) (v2 : Int32) (v3 : Int32) (M : zM) (so : Int32 × zM) (ls : List (Nat × zV)) (g0 : zl_get ls 0 = some (.inr (.inr (9, (some t0))))) (g1 : zl_get ls 1 = some (.inr (.inr (5, v1)))) (g2 : zl_get ls 2 = some (.inl v2)) (g3 : zl_get ls 3 = some (.inl v3)) (hs : wy_clash_31  d t0 v1 v2 v3 M = some so) : Ev zq_T (d + 1) 267 31 ls [] M (some (.inl so.1), so.2) := by
  unfold wy_clash_31 at hs
  refine e_aldn cd_267_31 g0 ?_
  refine e_getR cd_267_32 fd_267_18 rfl ?_
  refine e_ildn cd_267_35 g2 ?_
  refine k_opt hs (fun _ q => nomatch q) (fun k1 h2 hs => ?_)
  obtain ⟨c3, hs⟩ := z_ite hs
  refine e_iald cd_267_36 rfl h2 c3 ?_
  refine e_aldn cd_267_37 g0 ?_
  refine e_getR cd_267_38 fd_267_18 rfl ?_
  refine e_ildn cd_267_41 g3 ?_
  refine k_opt hs (fun _ q => nomatch q) (fun k4 h5 hs => ?_)
  obtain ⟨c6, hs⟩ := z_ite hs
  refine e_iald cd_267_42 rfl h5 c6 ?_
  refine e_pure cd_267_43 rfl ?_
  refine e_aldn cd_267_44 g0 ?_
  refine e_getR cd_267_45 fd_267_21 rfl ?_
  refine e_ildn cd_267_48 g2 ?_
  refine k_opt hs (fun _ q => nomatch q) (fun k7 h8 hs => ?_)
  obtain ⟨c9, hs⟩ := z_ite hs
  refine e_iald cd_267_49 rfl h8 c9 ?_
  refine e_aldn cd_267_50 g0 ?_
  refine e_getR cd_267_51 fd_267_21 rfl ?_
  refine e_ildn cd_267_54 g3 ?_
  refine k_opt hs (fun _ q => nomatch q) (fun k10 h11 hs => ?_)
  obtain ⟨c12, hs⟩ := z_ite hs
  refine e_iald cd_267_55 rfl h11 c12 ?_
  refine e_pure cd_267_56 rfl ?_
  refine e_pure cd_267_57 rfl ?_
  refine k_if hs (fun c13 hs => ?_) (fun c13 hs => ?_)
  · refine e_izN cd_267_58 rfl (fun q => q c13) ?_
    exact tie_wy_clash_61  d  t0 v1 v2 v3 M so _ g0 g1 g2 g3 hs
  · refine e_izJ cd_267_58 rfl c13 ?_
    exact tie_wy_clash_109  d   M so _  hs
theorem tieb_wy_clash  (d : Nat)  (a0 : Nat) (a1 : Option Nat) (a2 : Int32) (a3 : Int32) (M : zM) (so : Int32 × zM) (hs : wy_clash_b  d a0 a1 a2 a3 M = some so) : Ev zq_T (d + 1) 267 0 (zl_args 0 [.inr (.inr (9, some a0)), .inr (.inr (5, a1)), .inl a2, .inl a3]) [] M (some (.inl so.1), so.2) := by
  unfold wy_clash_b at hs
  have g0 : zl_get (zl_args 0 [.inr (.inr (9, some a0)), .inr (.inr (5, a1)), .inl a2, .inl a3]) 0 = some (.inr (.inr (9, (some a0)))) := rfl
  have g1 : zl_get (zl_args 0 [.inr (.inr (9, some a0)), .inr (.inr (5, a1)), .inl a2, .inl a3]) 1 = some (.inr (.inr (5, a1))) := rfl
  have g2 : zl_get (zl_args 0 [.inr (.inr (9, some a0)), .inr (.inr (5, a1)), .inl a2, .inl a3]) 2 = some (.inl a2) := rfl
  have g3 : zl_get (zl_args 0 [.inr (.inr (9, some a0)), .inr (.inr (5, a1)), .inl a2, .inl a3]) 3 = some (.inl a3) := rfl
  refine e_aldn cd_267_0 g1 ?_
  refine k_opt hs (fun _ q => nomatch q) (fun k1 h2 hs => ?_)
  refine e_getR cd_267_1 fd_267_104 h2 ?_
  refine e_aldn cd_267_4 g0 ?_
  refine e_getR cd_267_5 fd_267_11 rfl ?_
  refine e_ildn cd_267_8 g2 ?_
  refine k_opt hs (fun _ q => nomatch q) (fun k3 h4 hs => ?_)
  obtain ⟨c5, hs⟩ := z_ite hs
  refine e_iald cd_267_9 rfl h4 c5 ?_
  obtain ⟨q6, h7, hs⟩ := k_bind hs
  refine e_cst cd_267_10 kd_267_100 rfl rfl rfl nl_259 rfl rfl (tie_wy_occurrenceIn d (zm_I M 20 k3 (a2 : Int32).toNatClampNeg) M _ h7) ?_
  refine k_opt hs (fun _ q => nomatch q) (fun k8 h9 hs => ?_)
  obtain ⟨c10, hs⟩ := z_ite hs
  refine e_iald cd_267_13 rfl h9 c10 ?_
  refine e_aldn cd_267_14 g1 ?_
  refine e_getR cd_267_15 fd_267_104 h2 ?_
  refine e_aldn cd_267_18 g0 ?_
  refine e_getR cd_267_19 fd_267_11 rfl ?_
  refine e_ildn cd_267_22 g3 ?_
  refine k_opt hs (fun _ q => nomatch q) (fun k11 h12 hs => ?_)
  obtain ⟨c13, hs⟩ := z_ite hs
  refine e_iald cd_267_23 rfl h12 c13 ?_
  obtain ⟨q14, h15, hs⟩ := k_bind hs
  refine e_cst cd_267_24 kd_267_100 rfl rfl rfl nl_259 rfl rfl (tie_wy_occurrenceIn d (zm_I q6.2 20 k11 (a3 : Int32).toNatClampNeg) q6.2 _ h15) ?_
  refine k_opt hs (fun _ q => nomatch q) (fun k16 h17 hs => ?_)
  obtain ⟨c18, hs⟩ := z_ite hs
  refine e_iald cd_267_27 rfl h17 c18 ?_
  refine k_if hs (fun c19 hs => ?_) (fun c19 hs => ?_)
  · refine e_icN cd_267_28 rfl (fun q => q c19) ?_
    exact tie_wy_clash_31  d  a0 a1 a2 a3 q14.2 so _ g0 g1 g2 g3 hs
  · refine e_icJ cd_267_28 rfl c19 ?_
    exact tie_wy_clash_109  d   q14.2 so _  hs
theorem tie_wy_clash (d : Nat) (a0 : Nat) (a1 : Option Nat) (a2 : Int32) (a3 : Int32) (M : zM) (so : Int32 × zM) (hs : wy_clash d a0 a1 a2 a3 M = some so) : Ev zq_T d 267 0 (zl_args 0 [.inr (.inr (9, some a0)), .inr (.inr (5, a1)), .inl a2, .inl a3]) [] M (some (.inl so.1), so.2) := by
  cases d with
  | zero => exact nomatch hs
  | succ d => exact tieb_wy_clash d a0 a1 a2 a3 M so hs
theorem tie_wy_isUnlike_26  (d : Nat)  (s0 : Int32) (M : zM) (so : Int32 × zM) (ls : List (Nat × zV))  (hs : wy_isUnlike_26  d s0 M = some so) : Ev zq_T (d + 1) 269 26 ls [.inl s0] M (some (.inl so.1), so.2) := by
  unfold wy_isUnlike_26 at hs
  obtain ⟨c1, hs⟩ := z_ite hs
  have e := Option.some.inj hs
  subst e
  exact e_rz cd_269_26 nr_269 c1
theorem tieb_wy_isUnlike  (d : Nat)  (a0 : Nat) (a1 : Int32) (a2 : Int32) (M : zM) (so : Int32 × zM) (hs : wy_isUnlike_b  d a0 a1 a2 M = some so) : Ev zq_T (d + 1) 269 0 (zl_args 0 [.inr (.inr (9, some a0)), .inl a1, .inl a2]) [] M (some (.inl so.1), so.2) := by
  unfold wy_isUnlike_b at hs
  have g0 : zl_get (zl_args 0 [.inr (.inr (9, some a0)), .inl a1, .inl a2]) 0 = some (.inr (.inr (9, (some a0)))) := rfl
  have g1 : zl_get (zl_args 0 [.inr (.inr (9, some a0)), .inl a1, .inl a2]) 1 = some (.inl a1) := rfl
  have g2 : zl_get (zl_args 0 [.inr (.inr (9, some a0)), .inl a1, .inl a2]) 2 = some (.inl a2) := rfl
  refine e_aldn cd_269_0 g0 ?_
  refine e_getR cd_269_1 fd_269_11 rfl ?_
  refine e_ildn cd_269_4 g1 ?_
  refine k_opt hs (fun _ q => nomatch q) (fun k1 h2 hs => ?_)
  obtain ⟨c3, hs⟩ := z_ite hs
  refine e_iald cd_269_5 rfl h2 c3 ?_
  obtain ⟨q4, h5, hs⟩ := k_bind hs
  refine e_cst cd_269_6 kd_269_100 rfl rfl rfl nl_259 rfl rfl (tie_wy_occurrenceIn d (zm_I M 20 k1 (a1 : Int32).toNatClampNeg) M _ h5) ?_
  refine e_aldn cd_269_9 g0 ?_
  refine e_getR cd_269_10 fd_269_11 rfl ?_
  refine e_ildn cd_269_13 g2 ?_
  refine k_opt hs (fun _ q => nomatch q) (fun k6 h7 hs => ?_)
  obtain ⟨c8, hs⟩ := z_ite hs
  refine e_iald cd_269_14 rfl h7 c8 ?_
  obtain ⟨q9, h10, hs⟩ := k_bind hs
  refine e_cst cd_269_15 kd_269_100 rfl rfl rfl nl_259 rfl rfl (tie_wy_occurrenceIn d (zm_I q4.2 20 k6 (a2 : Int32).toNatClampNeg) q4.2 _ h10) ?_
  refine k_if hs (fun c11 hs => ?_) (fun c11 hs => ?_)
  · refine e_icJ cd_269_18 rfl c11 ?_
    refine e_const cd_269_25 ci_0 ?_
    exact tie_wy_isUnlike_26  d  0 q9.2 so _  hs
  · refine e_icN cd_269_18 rfl c11 ?_
    refine e_const cd_269_21 ci_1 ?_
    refine e_goto cd_269_22 rfl ?_
    exact tie_wy_isUnlike_26  d  1 q9.2 so _  hs
theorem tie_wy_isUnlike (d : Nat) (a0 : Nat) (a1 : Int32) (a2 : Int32) (M : zM) (so : Int32 × zM) (hs : wy_isUnlike d a0 a1 a2 M = some so) : Ev zq_T d 269 0 (zl_args 0 [.inr (.inr (9, some a0)), .inl a1, .inl a2]) [] M (some (.inl so.1), so.2) := by
  cases d with
  | zero => exact nomatch hs
  | succ d => exact tieb_wy_isUnlike d a0 a1 a2 M so hs
theorem tie_wy_enoughOf (d : Nat) (a0 : Nat) (a1 : Int32) (a2 : Int32) (M : zM) (so : Int32 × zM) (hs : wy_enoughOf d a0 a1 a2 M = some so) : Ev zq_T d 270 0 (zl_args 0 [.inr (.inr (9, some a0)), .inl a1, .inl a2]) [] M (some (.inl so.1), so.2) := by
  unfold wy_enoughOf at hs
  have g0 : zl_get (zl_args 0 [.inr (.inr (9, some a0)), .inl a1, .inl a2]) 0 = some (.inr (.inr (9, (some a0)))) := rfl
  have g1 : zl_get (zl_args 0 [.inr (.inr (9, some a0)), .inl a1, .inl a2]) 1 = some (.inl a1) := rfl
  have g2 : zl_get (zl_args 0 [.inr (.inr (9, some a0)), .inl a1, .inl a2]) 2 = some (.inl a2) := rfl
  refine e_aldn cd_270_0 g0 ?_
  refine e_getR cd_270_1 fd_270_15 rfl ?_
  refine e_ildn cd_270_4 g1 ?_
  refine k_opt hs (fun _ q => nomatch q) (fun k1 h2 hs => ?_)
  obtain ⟨c3, hs⟩ := z_ite hs
  refine e_iald cd_270_5 rfl h2 c3 ?_
  refine e_aldn cd_270_6 g0 ?_
  refine e_getR cd_270_7 fd_270_15 rfl ?_
  refine e_ildn cd_270_10 g2 ?_
  refine k_opt hs (fun _ q => nomatch q) (fun k4 h5 hs => ?_)
  obtain ⟨c6, hs⟩ := z_ite hs
  refine e_iald cd_270_11 rfl h5 c6 ?_
  refine e_pure cd_270_12 rfl ?_
  have e := Option.some.inj hs
  subst e
  exact e_ri cd_270_13 nr_270
theorem tie_wy_overOf (d : Nat) (a0 : Nat) (a1 : Int32) (a2 : Int32) (M : zM) (so : Int32 × zM) (hs : wy_overOf d a0 a1 a2 M = some so) : Ev zq_T d 271 0 (zl_args 0 [.inr (.inr (9, some a0)), .inl a1, .inl a2]) [] M (some (.inl so.1), so.2) := by
  unfold wy_overOf at hs
  have g0 : zl_get (zl_args 0 [.inr (.inr (9, some a0)), .inl a1, .inl a2]) 0 = some (.inr (.inr (9, (some a0)))) := rfl
  have g1 : zl_get (zl_args 0 [.inr (.inr (9, some a0)), .inl a1, .inl a2]) 1 = some (.inl a1) := rfl
  have g2 : zl_get (zl_args 0 [.inr (.inr (9, some a0)), .inl a1, .inl a2]) 2 = some (.inl a2) := rfl
  refine e_aldn cd_271_0 g0 ?_
  refine e_getR cd_271_1 fd_271_18 rfl ?_
  refine e_ildn cd_271_4 g1 ?_
  refine k_opt hs (fun _ q => nomatch q) (fun k1 h2 hs => ?_)
  obtain ⟨c3, hs⟩ := z_ite hs
  refine e_iald cd_271_5 rfl h2 c3 ?_
  refine e_aldn cd_271_6 g0 ?_
  refine e_getR cd_271_7 fd_271_18 rfl ?_
  refine e_ildn cd_271_10 g2 ?_
  refine k_opt hs (fun _ q => nomatch q) (fun k4 h5 hs => ?_)
  obtain ⟨c6, hs⟩ := z_ite hs
  refine e_iald cd_271_11 rfl h5 c6 ?_
  refine e_pure cd_271_12 rfl ?_
  have e := Option.some.inj hs
  subst e
  exact e_ri cd_271_13 nr_271
theorem tie_wy_lowerOf (d : Nat) (a0 : Nat) (a1 : Int32) (a2 : Int32) (M : zM) (so : Int32 × zM) (hs : wy_lowerOf d a0 a1 a2 M = some so) : Ev zq_T d 272 0 (zl_args 0 [.inr (.inr (9, some a0)), .inl a1, .inl a2]) [] M (some (.inl so.1), so.2) := by
  unfold wy_lowerOf at hs
  have g0 : zl_get (zl_args 0 [.inr (.inr (9, some a0)), .inl a1, .inl a2]) 0 = some (.inr (.inr (9, (some a0)))) := rfl
  have g1 : zl_get (zl_args 0 [.inr (.inr (9, some a0)), .inl a1, .inl a2]) 1 = some (.inl a1) := rfl
  have g2 : zl_get (zl_args 0 [.inr (.inr (9, some a0)), .inl a1, .inl a2]) 2 = some (.inl a2) := rfl
  refine e_aldn cd_272_0 g0 ?_
  refine e_getR cd_272_1 fd_272_11 rfl ?_
  refine e_ildn cd_272_4 g1 ?_
  refine k_opt hs (fun _ q => nomatch q) (fun k1 h2 hs => ?_)
  obtain ⟨c3, hs⟩ := z_ite hs
  refine e_iald cd_272_5 rfl h2 c3 ?_
  refine e_aldn cd_272_6 g0 ?_
  refine e_getR cd_272_7 fd_272_11 rfl ?_
  refine e_ildn cd_272_10 g2 ?_
  refine k_opt hs (fun _ q => nomatch q) (fun k4 h5 hs => ?_)
  obtain ⟨c6, hs⟩ := z_ite hs
  refine e_iald cd_272_11 rfl h5 c6 ?_
  refine e_min cd_272_12 kd_272_117 rfl ?_
  have e := Option.some.inj hs
  subst e
  exact e_ri cd_272_15 nr_272
theorem tie_wy_higherOf (d : Nat) (a0 : Nat) (a1 : Int32) (a2 : Int32) (M : zM) (so : Int32 × zM) (hs : wy_higherOf d a0 a1 a2 M = some so) : Ev zq_T d 273 0 (zl_args 0 [.inr (.inr (9, some a0)), .inl a1, .inl a2]) [] M (some (.inl so.1), so.2) := by
  unfold wy_higherOf at hs
  have g0 : zl_get (zl_args 0 [.inr (.inr (9, some a0)), .inl a1, .inl a2]) 0 = some (.inr (.inr (9, (some a0)))) := rfl
  have g1 : zl_get (zl_args 0 [.inr (.inr (9, some a0)), .inl a1, .inl a2]) 1 = some (.inl a1) := rfl
  have g2 : zl_get (zl_args 0 [.inr (.inr (9, some a0)), .inl a1, .inl a2]) 2 = some (.inl a2) := rfl
  refine e_aldn cd_273_0 g0 ?_
  refine e_getR cd_273_1 fd_273_11 rfl ?_
  refine e_ildn cd_273_4 g1 ?_
  refine k_opt hs (fun _ q => nomatch q) (fun k1 h2 hs => ?_)
  obtain ⟨c3, hs⟩ := z_ite hs
  refine e_iald cd_273_5 rfl h2 c3 ?_
  refine e_aldn cd_273_6 g0 ?_
  refine e_getR cd_273_7 fd_273_11 rfl ?_
  refine e_ildn cd_273_10 g2 ?_
  refine k_opt hs (fun _ q => nomatch q) (fun k4 h5 hs => ?_)
  obtain ⟨c6, hs⟩ := z_ite hs
  refine e_iald cd_273_11 rfl h5 c6 ?_
  refine e_max cd_273_12 kd_273_123 rfl ?_
  have e := Option.some.inj hs
  subst e
  exact e_ri cd_273_15 nr_273
theorem tie_wy_study_92 (kl12 : Nat → Option Nat → Int32 → zM → Option (zM)) (kl28 : Nat → Option Nat → Int32 → Int32 → zM → Option (zM)) (kl39 : Nat → Option Nat → Int32 → Int32 → Int32 → zM → Option (zM)) (d : Nat) (hk12 : ∀ (t0 : Nat) (v1 : Option Nat) (v2 : Int32) (M : zM) (so : zM) (ls : List (Nat × zV)), zl_get ls 0 = some (.inr (.inr (9, (some t0)))) → zl_get ls 1 = some (.inr (.inr (5, v1))) → zl_get ls 2 = some (.inl v2) → kl12 t0 v1 v2 M = some so → Ev zq_T (d + 1) 274 12 ls [] M (none, so)) (hk28 : ∀ (t0 : Nat) (v1 : Option Nat) (v2 : Int32) (v3 : Int32) (M : zM) (so : zM) (ls : List (Nat × zV)), zl_get ls 0 = some (.inr (.inr (9, (some t0)))) → zl_get ls 1 = some (.inr (.inr (5, v1))) → zl_get ls 2 = some (.inl v2) → zl_get ls 3 = some (.inl v3) → kl28 t0 v1 v2 v3 M = some so → Ev zq_T (d + 1) 274 28 ls [] M (none, so)) (hk39 : ∀ (t0 : Nat) (v1 : Option Nat) (v2 : Int32) (v3 : Int32) (v4 : Int32) (M : zM) (so : zM) (ls : List (Nat × zV)), zl_get ls 0 = some (.inr (.inr (9, (some t0)))) → zl_get ls 1 = some (.inr (.inr (5, v1))) → zl_get ls 2 = some (.inl v2) → zl_get ls 3 = some (.inl v3) → zl_get ls 4 = some (.inl v4) → kl39 t0 v1 v2 v3 v4 M = some so → Ev zq_T (d + 1) 274 39 ls [] M (none, so)) (t0 : Nat) (v1 : Option Nat) (v2 : Int32) (v3 : Int32) (v4 : Int32) (M : zM) (so : zM) (ls : List (Nat × zV)) (g0 : zl_get ls 0 = some (.inr (.inr (9, (some t0))))) (g1 : zl_get ls 1 = some (.inr (.inr (5, v1)))) (g2 : zl_get ls 2 = some (.inl v2)) (g3 : zl_get ls 3 = some (.inl v3)) (g4 : zl_get ls 4 = some (.inl v4)) (hs : wy_study_92 kl12 kl28 kl39 d t0 v1 v2 v3 v4 M = some so) : Ev zq_T (d + 1) 274 92 ls [] M (none, so) := by
  unfold wy_study_92 at hs
  refine k_let hs (fun x1 e2 hs => ?_)
  refine e_incK cd_274_92 nl_274 rfl g4 ci_1 e2 ?_
  intro _ gn kp
  have u3 := kp 0 _ g0 rfl rfl
  have u4 := kp 1 _ g1 rfl rfl
  have u5 := kp 2 _ g2 rfl rfl
  have u6 := kp 3 _ g3 rfl rfl
  have u7 := gn
  refine e_goto cd_274_95 rfl ?_
  exact hk39 t0 v1 v2 v3 x1 M so _ u3 u4 u5 u6 u7 hs
theorem tie_wy_study_89 (kl12 : Nat → Option Nat → Int32 → zM → Option (zM)) (kl28 : Nat → Option Nat → Int32 → Int32 → zM → Option (zM)) (kl39 : Nat → Option Nat → Int32 → Int32 → Int32 → zM → Option (zM)) (d : Nat) (hk12 : ∀ (t0 : Nat) (v1 : Option Nat) (v2 : Int32) (M : zM) (so : zM) (ls : List (Nat × zV)), zl_get ls 0 = some (.inr (.inr (9, (some t0)))) → zl_get ls 1 = some (.inr (.inr (5, v1))) → zl_get ls 2 = some (.inl v2) → kl12 t0 v1 v2 M = some so → Ev zq_T (d + 1) 274 12 ls [] M (none, so)) (hk28 : ∀ (t0 : Nat) (v1 : Option Nat) (v2 : Int32) (v3 : Int32) (M : zM) (so : zM) (ls : List (Nat × zV)), zl_get ls 0 = some (.inr (.inr (9, (some t0)))) → zl_get ls 1 = some (.inr (.inr (5, v1))) → zl_get ls 2 = some (.inl v2) → zl_get ls 3 = some (.inl v3) → kl28 t0 v1 v2 v3 M = some so → Ev zq_T (d + 1) 274 28 ls [] M (none, so)) (hk39 : ∀ (t0 : Nat) (v1 : Option Nat) (v2 : Int32) (v3 : Int32) (v4 : Int32) (M : zM) (so : zM) (ls : List (Nat × zV)), zl_get ls 0 = some (.inr (.inr (9, (some t0)))) → zl_get ls 1 = some (.inr (.inr (5, v1))) → zl_get ls 2 = some (.inl v2) → zl_get ls 3 = some (.inl v3) → zl_get ls 4 = some (.inl v4) → kl39 t0 v1 v2 v3 v4 M = some so → Ev zq_T (d + 1) 274 39 ls [] M (none, so)) (t0 : Nat) (v1 : Option Nat) (v2 : Int32) (v3 : Int32) (v4 : Int32) (s0 : Option Nat) (s1 : Int32) (M : zM) (so : zM) (ls : List (Nat × zV)) (g0 : zl_get ls 0 = some (.inr (.inr (9, (some t0))))) (g1 : zl_get ls 1 = some (.inr (.inr (5, v1)))) (g2 : zl_get ls 2 = some (.inl v2)) (g3 : zl_get ls 3 = some (.inl v3)) (g4 : zl_get ls 4 = some (.inl v4)) (hs : wy_study_89 kl12 kl28 kl39 d t0 v1 v2 v3 v4 s0 s1 M = some so) : Ev zq_T (d + 1) 274 89 ls [.inl s1, .inr (.inr (5, s0))] M (none, so) := by
  unfold wy_study_89 at hs
  refine k_opt hs (fun _ q => nomatch q) (fun k1 h2 hs => ?_)
  obtain ⟨c3, hs⟩ := z_ite hs
  refine k_let hs (fun M4 e5 hs => ?_)
  refine e_putZ cd_274_89 pd_274_129 c3 h2 e5 ?_
  exact tie_wy_study_92 kl12 kl28 kl39 d hk12 hk28 hk39 t0 v1 v2 v3 v4 M4 so _ g0 g1 g2 g3 g4 hs
theorem tie_wy_study_88 (kl12 : Nat → Option Nat → Int32 → zM → Option (zM)) (kl28 : Nat → Option Nat → Int32 → Int32 → zM → Option (zM)) (kl39 : Nat → Option Nat → Int32 → Int32 → Int32 → zM → Option (zM)) (d : Nat) (hk12 : ∀ (t0 : Nat) (v1 : Option Nat) (v2 : Int32) (M : zM) (so : zM) (ls : List (Nat × zV)), zl_get ls 0 = some (.inr (.inr (9, (some t0)))) → zl_get ls 1 = some (.inr (.inr (5, v1))) → zl_get ls 2 = some (.inl v2) → kl12 t0 v1 v2 M = some so → Ev zq_T (d + 1) 274 12 ls [] M (none, so)) (hk28 : ∀ (t0 : Nat) (v1 : Option Nat) (v2 : Int32) (v3 : Int32) (M : zM) (so : zM) (ls : List (Nat × zV)), zl_get ls 0 = some (.inr (.inr (9, (some t0)))) → zl_get ls 1 = some (.inr (.inr (5, v1))) → zl_get ls 2 = some (.inl v2) → zl_get ls 3 = some (.inl v3) → kl28 t0 v1 v2 v3 M = some so → Ev zq_T (d + 1) 274 28 ls [] M (none, so)) (hk39 : ∀ (t0 : Nat) (v1 : Option Nat) (v2 : Int32) (v3 : Int32) (v4 : Int32) (M : zM) (so : zM) (ls : List (Nat × zV)), zl_get ls 0 = some (.inr (.inr (9, (some t0)))) → zl_get ls 1 = some (.inr (.inr (5, v1))) → zl_get ls 2 = some (.inl v2) → zl_get ls 3 = some (.inl v3) → zl_get ls 4 = some (.inl v4) → kl39 t0 v1 v2 v3 v4 M = some so → Ev zq_T (d + 1) 274 39 ls [] M (none, so)) (t0 : Nat) (v1 : Option Nat) (v2 : Int32) (v3 : Int32) (v4 : Int32) (s0 : Option Nat) (M : zM) (so : zM) (ls : List (Nat × zV)) (g0 : zl_get ls 0 = some (.inr (.inr (9, (some t0))))) (g1 : zl_get ls 1 = some (.inr (.inr (5, v1)))) (g2 : zl_get ls 2 = some (.inl v2)) (g3 : zl_get ls 3 = some (.inl v3)) (g4 : zl_get ls 4 = some (.inl v4)) (hs : wy_study_88 kl12 kl28 kl39 d t0 v1 v2 v3 v4 s0 M = some so) : Ev zq_T (d + 1) 274 88 ls [.inr (.inr (5, s0))] M (none, so) := by
  unfold wy_study_88 at hs
  refine e_const cd_274_88 ci_0 ?_
  exact tie_wy_study_89 kl12 kl28 kl39 d hk12 hk28 hk39 t0 v1 v2 v3 v4 s0 0 M so _ g0 g1 g2 g3 g4 hs
theorem tie_wy_study_39 (kl12 : Nat → Option Nat → Int32 → zM → Option (zM)) (kl28 : Nat → Option Nat → Int32 → Int32 → zM → Option (zM)) (d : Nat) (hk12 : ∀ (t0 : Nat) (v1 : Option Nat) (v2 : Int32) (M : zM) (so : zM) (ls : List (Nat × zV)), zl_get ls 0 = some (.inr (.inr (9, (some t0)))) → zl_get ls 1 = some (.inr (.inr (5, v1))) → zl_get ls 2 = some (.inl v2) → kl12 t0 v1 v2 M = some so → Ev zq_T (d + 1) 274 12 ls [] M (none, so)) (hk28 : ∀ (t0 : Nat) (v1 : Option Nat) (v2 : Int32) (v3 : Int32) (M : zM) (so : zM) (ls : List (Nat × zV)), zl_get ls 0 = some (.inr (.inr (9, (some t0)))) → zl_get ls 1 = some (.inr (.inr (5, v1))) → zl_get ls 2 = some (.inl v2) → zl_get ls 3 = some (.inl v3) → kl28 t0 v1 v2 v3 M = some so → Ev zq_T (d + 1) 274 28 ls [] M (none, so)) : ∀ (fuel : Nat) (t0 : Nat) (v1 : Option Nat) (v2 : Int32) (v3 : Int32) (v4 : Int32) (M : zM) (so : zM) (ls : List (Nat × zV)), zl_get ls 0 = some (.inr (.inr (9, (some t0)))) → zl_get ls 1 = some (.inr (.inr (5, v1))) → zl_get ls 2 = some (.inl v2) → zl_get ls 3 = some (.inl v3) → zl_get ls 4 = some (.inl v4) → wy_study_39 kl12 kl28 d fuel t0 v1 v2 v3 v4 M = some so → Ev zq_T (d + 1) 274 39 ls [] M (none, so) := by
  intro fuel
  induction fuel with
  | zero => intro t0 v1 v2 v3 v4 M so ls g0 g1 g2 g3 g4 hs; exact nomatch hs
  | succ fuel ih =>
    intro t0 v1 v2 v3 v4 M so ls g0 g1 g2 g3 g4 hs
    unfold wy_study_39 at hs
    refine e_ild cd_274_39 g4 ?_
    refine e_ildn cd_274_41 g3 ?_
    refine k_if hs (fun c1 hs => ?_) (fun c1 hs => ?_)
    · refine e_icJ cd_274_42 rfl c1 ?_
      refine k_let hs (fun x2 e3 hs => ?_)
      refine e_incK cd_274_98 nl_274 rfl g3 ci_1 e3 ?_
      intro _ gn kp
      have u4 := kp 0 _ g0 rfl rfl
      have u5 := kp 1 _ g1 rfl rfl
      have u6 := kp 2 _ g2 rfl rfl
      have u7 := gn
      refine e_goto cd_274_101 rfl ?_
      exact hk28 t0 v1 v2 x2 M so _ u4 u5 u6 u7 hs
    · refine e_icN cd_274_42 rfl c1 ?_
      refine e_aldn cd_274_45 g0 ?_
      refine e_aldn cd_274_46 g1 ?_
      refine e_ild cd_274_47 g4 ?_
      refine e_ildn cd_274_49 g3 ?_
      obtain ⟨q8, h9, hs⟩ := k_bind hs
      refine e_cvi cd_274_50 kd_274_135 rfl rfl rfl rfl rfl nl_267 rfl rfl (tie_wy_clash d t0 v1 v4 v3 M _ h9) ?_
      refine k_if hs (fun c10 hs => ?_) (fun c10 hs => ?_)
      · refine e_izJ cd_274_53 rfl c10 ?_
        exact tie_wy_study_92 kl12 kl28 (fun p0 p1 p2 p3 p4 m => wy_study_39 kl12 kl28 d fuel p0 p1 p2 p3 p4 m) d hk12 hk28 ih t0 v1 v2 v3 v4 q8.2 so _ g0 g1 g2 g3 g4 hs
      · refine e_izN cd_274_53 rfl c10 ?_
        refine e_aldn cd_274_56 g1 ?_
        refine e_pure cd_274_57 rfl ?_
        refine k_opt hs (fun _ q => nomatch q) (fun k11 h12 hs => ?_)
        refine e_getI cd_274_58 (Or.inl fd_274_126) h12 ?_
        refine e_const cd_274_61 ci_1 ?_
        refine e_pure cd_274_62 rfl ?_
        refine k_let hs (fun M13 e14 hs => ?_)
        refine e_putI cd_274_63 pd_274_126 h12 e14 ?_
        refine e_aldn cd_274_66 g1 ?_
        refine e_aldn cd_274_67 g1 ?_
        refine e_getI cd_274_68 (Or.inr fd_274_129) h12 ?_
        refine k_if hs (fun c15 hs => ?_) (fun c15 hs => ?_)
        · refine e_izJ cd_274_71 rfl c15 ?_
          exact tie_wy_study_88 kl12 kl28 (fun p0 p1 p2 p3 p4 m => wy_study_39 kl12 kl28 d fuel p0 p1 p2 p3 p4 m) d hk12 hk28 ih t0 v1 v2 v3 v4 v1 M13 so _ g0 g1 g2 g3 g4 hs
        · refine e_izN cd_274_71 rfl c15 ?_
          refine e_aldn cd_274_74 g0 ?_
          refine e_ild cd_274_75 g4 ?_
          refine e_ildn cd_274_77 g3 ?_
          obtain ⟨q16, h17, hs⟩ := k_bind hs
          refine e_cvi cd_274_78 kd_274_138 rfl rfl rfl rfl rfl nl_269 rfl rfl (tie_wy_isUnlike d t0 v4 v3 M13 _ h17) ?_
          refine k_if hs (fun c18 hs => ?_) (fun c18 hs => ?_)
          · refine e_izN cd_274_81 rfl (fun q => q c18) ?_
            refine e_const cd_274_84 ci_1 ?_
            refine e_goto cd_274_85 rfl ?_
            exact tie_wy_study_89 kl12 kl28 (fun p0 p1 p2 p3 p4 m => wy_study_39 kl12 kl28 d fuel p0 p1 p2 p3 p4 m) d hk12 hk28 ih t0 v1 v2 v3 v4 v1 1 q16.2 so _ g0 g1 g2 g3 g4 hs
          · refine e_izJ cd_274_81 rfl c18 ?_
            exact tie_wy_study_88 kl12 kl28 (fun p0 p1 p2 p3 p4 m => wy_study_39 kl12 kl28 d fuel p0 p1 p2 p3 p4 m) d hk12 hk28 ih t0 v1 v2 v3 v4 v1 q16.2 so _ g0 g1 g2 g3 g4 hs
theorem tie_wy_study_28 (kl12 : Nat → Option Nat → Int32 → zM → Option (zM)) (d : Nat) (hk12 : ∀ (t0 : Nat) (v1 : Option Nat) (v2 : Int32) (M : zM) (so : zM) (ls : List (Nat × zV)), zl_get ls 0 = some (.inr (.inr (9, (some t0)))) → zl_get ls 1 = some (.inr (.inr (5, v1))) → zl_get ls 2 = some (.inl v2) → kl12 t0 v1 v2 M = some so → Ev zq_T (d + 1) 274 12 ls [] M (none, so)) : ∀ (fuel : Nat) (t0 : Nat) (v1 : Option Nat) (v2 : Int32) (v3 : Int32) (M : zM) (so : zM) (ls : List (Nat × zV)), zl_get ls 0 = some (.inr (.inr (9, (some t0)))) → zl_get ls 1 = some (.inr (.inr (5, v1))) → zl_get ls 2 = some (.inl v2) → zl_get ls 3 = some (.inl v3) → wy_study_28 kl12 d fuel t0 v1 v2 v3 M = some so → Ev zq_T (d + 1) 274 28 ls [] M (none, so) := by
  intro fuel
  induction fuel with
  | zero => intro t0 v1 v2 v3 M so ls g0 g1 g2 g3 hs; exact nomatch hs
  | succ fuel ih =>
    intro t0 v1 v2 v3 M so ls g0 g1 g2 g3 hs
    unfold wy_study_28 at hs
    refine e_ildn cd_274_28 g3 ?_
    refine e_aldn cd_274_29 g0 ?_
    refine e_getI cd_274_30 (Or.inl fd_274_24) rfl ?_
    refine k_if hs (fun c1 hs => ?_) (fun c1 hs => ?_)
    · refine e_icJ cd_274_33 rfl c1 ?_
      refine k_let hs (fun x2 e3 hs => ?_)
      refine e_incK cd_274_104 nl_274 rfl g2 ci_1 e3 ?_
      intro _ gn kp
      have u4 := kp 0 _ g0 rfl rfl
      have u5 := kp 1 _ g1 rfl rfl
      have u6 := gn
      refine e_goto cd_274_107 rfl ?_
      exact hk12 t0 v1 x2 M so _ u4 u5 u6 hs
    · refine e_icN cd_274_33 rfl c1 ?_
      refine e_const cd_274_36 ci_0 ?_
      refine e_iK cd_274_37 nl_274 rfl rfl ?_
      intro _ gn kp
      have u7 := kp 0 _ g0 rfl rfl
      have u8 := kp 1 _ g1 rfl rfl
      have u9 := kp 2 _ g2 rfl rfl
      have u10 := kp 3 _ g3 rfl rfl
      have u11 := gn
      exact tie_wy_study_39 kl12 (fun p0 p1 p2 p3 m => wy_study_28 kl12 d fuel p0 p1 p2 p3 m) d hk12 ih zLF t0 v1 v2 v3 0 M so _ u7 u8 u9 u10 u11 hs
theorem tie_wy_study_123  (d : Nat)  (s0 : Option Nat) (s1 : Int32) (M : zM) (so : zM) (ls : List (Nat × zV))  (hs : wy_study_123  d s0 s1 M = some so) : Ev zq_T (d + 1) 274 123 ls [.inl s1, .inr (.inr (5, s0))] M (none, so) := by
  unfold wy_study_123 at hs
  refine k_opt hs (fun _ q => nomatch q) (fun k1 h2 hs => ?_)
  obtain ⟨c3, hs⟩ := z_ite hs
  refine k_let hs (fun M4 e5 hs => ?_)
  refine e_putZ cd_274_123 pd_274_142 c3 h2 e5 ?_
  have e := Option.some.inj hs
  subst e
  exact e_rv cd_274_126 nr_274
theorem tie_wy_study_12  (d : Nat)  : ∀ (fuel : Nat) (t0 : Nat) (v1 : Option Nat) (v2 : Int32) (M : zM) (so : zM) (ls : List (Nat × zV)), zl_get ls 0 = some (.inr (.inr (9, (some t0)))) → zl_get ls 1 = some (.inr (.inr (5, v1))) → zl_get ls 2 = some (.inl v2) → wy_study_12  d fuel t0 v1 v2 M = some so → Ev zq_T (d + 1) 274 12 ls [] M (none, so) := by
  intro fuel
  induction fuel with
  | zero => intro t0 v1 v2 M so ls g0 g1 g2 hs; exact nomatch hs
  | succ fuel ih =>
    intro t0 v1 v2 M so ls g0 g1 g2 hs
    unfold wy_study_12 at hs
    refine e_ildn cd_274_12 g2 ?_
    refine e_aldn cd_274_13 g1 ?_
    refine k_opt hs (fun _ q => nomatch q) (fun k1 h2 hs => ?_)
    refine e_getI cd_274_14 (Or.inl fd_274_132) h2 ?_
    refine k_if hs (fun c3 hs => ?_) (fun c3 hs => ?_)
    · refine e_icJ cd_274_17 rfl c3 ?_
      refine e_aldn cd_274_110 g1 ?_
      refine e_aldn cd_274_111 g1 ?_
      refine e_getI cd_274_112 (Or.inl fd_274_126) h2 ?_
      refine k_if hs (fun c4 hs => ?_) (fun c4 hs => ?_)
      · refine e_izN cd_274_115 rfl (fun q => q c4) ?_
        refine e_const cd_274_118 ci_1 ?_
        refine e_goto cd_274_119 rfl ?_
        exact tie_wy_study_123  d  v1 1 M so _  hs
      · refine e_izJ cd_274_115 rfl c4 ?_
        refine e_const cd_274_122 ci_0 ?_
        exact tie_wy_study_123  d  v1 0 M so _  hs
    · refine e_icN cd_274_17 rfl c3 ?_
      refine e_aldn cd_274_20 g0 ?_
      refine e_aldn cd_274_21 g1 ?_
      refine e_ildn cd_274_22 g2 ?_
      obtain ⟨q5, h6, hs⟩ := k_bind hs
      refine e_cvi cd_274_23 kd_274_96 rfl rfl rfl rfl rfl nl_261 rfl rfl (tie_wy_list d t0 v1 v2 M _ h6) ?_
      refine e_const cd_274_26 ci_1 ?_
      refine e_iKn cd_274_27 nl_274 rfl rfl ?_
      intro _ gn kp
      have u7 := kp 0 _ g0 rfl rfl
      have u8 := kp 1 _ g1 rfl rfl
      have u9 := kp 2 _ g2 rfl rfl
      have u10 := gn
      exact tie_wy_study_28 (fun p0 p1 p2 m => wy_study_12  d fuel p0 p1 p2 m) d ih zLF t0 v1 v2 1 q5 so _ u7 u8 u9 u10 hs
theorem tieb_wy_study  (d : Nat)  (a0 : Nat) (a1 : Option Nat) (M : zM) (so : zM) (hs : wy_study_b  d a0 a1 M = some so) : Ev zq_T (d + 1) 274 0 (zl_args 0 [.inr (.inr (9, some a0)), .inr (.inr (5, a1))]) [] M (none, so) := by
  unfold wy_study_b at hs
  have g0 : zl_get (zl_args 0 [.inr (.inr (9, some a0)), .inr (.inr (5, a1))]) 0 = some (.inr (.inr (9, (some a0)))) := rfl
  have g1 : zl_get (zl_args 0 [.inr (.inr (9, some a0)), .inr (.inr (5, a1))]) 1 = some (.inr (.inr (5, a1))) := rfl
  refine e_aldn cd_274_0 g1 ?_
  refine e_const cd_274_1 ci_0 ?_
  refine k_opt hs (fun _ q => nomatch q) (fun k1 h2 hs => ?_)
  refine k_let hs (fun M3 e4 hs => ?_)
  refine e_putI cd_274_2 pd_274_126 h2 e4 ?_
  refine e_aldn cd_274_5 g1 ?_
  refine e_const cd_274_6 ci_1 ?_
  refine k_let hs (fun M5 e6 hs => ?_)
  refine e_putZ cd_274_7 pd_274_129 (Or.inr rfl) h2 e6 ?_
  refine e_const cd_274_10 ci_m1 ?_
  refine e_iKn cd_274_11 nl_274 rfl rfl ?_
  intro _ gn kp
  have u7 := kp 0 _ g0 rfl rfl
  have u8 := kp 1 _ g1 rfl rfl
  have u9 := gn
  exact tie_wy_study_12  d  zLF a0 a1 (-1) M5 so _ u7 u8 u9 hs
theorem tie_wy_study (d : Nat) (a0 : Nat) (a1 : Option Nat) (M : zM) (so : zM) (hs : wy_study d a0 a1 M = some so) : Ev zq_T d 274 0 (zl_args 0 [.inr (.inr (9, some a0)), .inr (.inr (5, a1))]) [] M (none, so) := by
  cases d with
  | zero => exact nomatch hs
  | succ d => exact tieb_wy_study d a0 a1 M so hs
theorem tie_wi_init (d : Nat) (a0 : Nat) (M : zM) (so : zM) (hs : wi_init d a0 M = some so) : Ev zq_T d 275 0 (zl_args 0 [.inr (.inr (10, some a0))]) [] M (none, so) := by
  unfold wi_init at hs
  have g0 : zl_get (zl_args 0 [.inr (.inr (10, some a0))]) 0 = some (.inr (.inr (10, (some a0)))) := rfl
  refine e_aldn cd_275_0 g0 ?_
  refine e_obj cd_275_1 kd_275_3 rfl rfl ?_
  refine e_aldn cd_275_4 g0 ?_
  refine e_const cd_275_5 ci_m1 ?_
  refine k_let hs (fun M1 e2 hs => ?_)
  refine e_putI cd_275_6 pd_275_9 rfl e2 ?_
  refine e_aldn cd_275_9 g0 ?_
  refine e_sip cd_275_10 cs_2304 ?_
  refine k_let hs (fun M4 e5 hs => ?_)
  refine e_newa_int cd_275_13 rfl (by decide) e5 ?_
  refine k_let hs (fun M6 e7 hs => ?_)
  refine e_putR cd_275_15 pd_275_15 rfl e7 ?_
  have e := Option.some.inj hs
  subst e
  exact e_rv cd_275_18 nr_275
theorem tie_wi_forget (d : Nat) (a0 : Nat) (M : zM) (so : zM) (hs : wi_forget d a0 M = some so) : Ev zq_T d 276 0 (zl_args 0 [.inr (.inr (10, some a0))]) [] M (none, so) := by
  unfold wi_forget at hs
  have g0 : zl_get (zl_args 0 [.inr (.inr (10, some a0))]) 0 = some (.inr (.inr (10, (some a0)))) := rfl
  refine e_aldn cd_276_0 g0 ?_
  refine e_const cd_276_1 ci_m1 ?_
  refine k_let hs (fun M1 e2 hs => ?_)
  refine e_putI cd_276_2 pd_276_9 rfl e2 ?_
  have e := Option.some.inj hs
  subst e
  exact e_rv cd_276_5 nr_276
theorem tie_wi_compare_53  (d : Nat)  (s0 : Int32) (M : zM) (so : Int32 × zM) (ls : List (Nat × zV))  (hs : wi_compare_53  d s0 M = some so) : Ev zq_T d 279 53 ls [.inl s0] M (some (.inl so.1), so.2) := by
  unfold wi_compare_53 at hs
  have e := Option.some.inj hs
  subst e
  exact e_ri cd_279_53 nr_279
theorem tie_wi_compare_60  (d : Nat)   (M : zM) (so : Int32 × zM) (ls : List (Nat × zV))  (hs : wi_compare_60  d  M = some so) : Ev zq_T d 279 60 ls [] M (some (.inl so.1), so.2) := by
  unfold wi_compare_60 at hs
  refine e_const cd_279_60 ci_0 ?_
  have e := Option.some.inj hs
  subst e
  exact e_ri cd_279_61 nr_279
theorem tie_wi_compare_2  (d : Nat)  : ∀ (fuel : Nat) (t0 : Nat) (v1 : Option Nat) (v2 : Int32) (M : zM) (so : Int32 × zM) (ls : List (Nat × zV)), zl_get ls 0 = some (.inr (.inr (10, (some t0)))) → zl_get ls 1 = some (.inr (.inr (7, v1))) → zl_get ls 2 = some (.inl v2) → wi_compare_2  d fuel t0 v1 v2 M = some so → Ev zq_T d 279 2 ls [] M (some (.inl so.1), so.2) := by
  intro fuel
  induction fuel with
  | zero => intro t0 v1 v2 M so ls g0 g1 g2 hs; exact nomatch hs
  | succ fuel ih =>
    intro t0 v1 v2 M so ls g0 g1 g2 hs
    unfold wi_compare_2 at hs
    refine e_ildn cd_279_2 g2 ?_
    refine e_aldn cd_279_3 g0 ?_
    refine e_getI cd_279_4 (Or.inl fd_279_97) rfl ?_
    refine k_if hs (fun c1 hs => ?_) (fun c1 hs => ?_)
    · refine e_icJ cd_279_7 rfl c1 ?_
      exact tie_wi_compare_60  d   M so _  hs
    · refine e_icN cd_279_7 rfl c1 ?_
      refine e_ildn cd_279_10 g2 ?_
      refine e_aldn cd_279_11 g1 ?_
      refine k_opt hs (fun _ q => nomatch q) (fun k2 h3 hs => ?_)
      refine e_getI cd_279_12 (Or.inl fd_279_112) h3 ?_
      refine k_if hs (fun c4 hs => ?_) (fun c4 hs => ?_)
      · refine e_icJ cd_279_15 rfl c4 ?_
        exact tie_wi_compare_60  d   M so _  hs
      · refine e_icN cd_279_15 rfl c4 ?_
        refine e_aldn cd_279_18 g1 ?_
        refine e_getR cd_279_19 fd_279_113 h3 ?_
        refine e_ildn cd_279_22 g2 ?_
        refine k_opt hs (fun _ q => nomatch q) (fun k5 h6 hs => ?_)
        obtain ⟨c7, hs⟩ := z_ite hs
        refine e_iald cd_279_23 rfl h6 c7 ?_
        refine e_aldn cd_279_24 g0 ?_
        refine e_getR cd_279_25 fd_279_15 rfl ?_
        refine e_ildn cd_279_28 g2 ?_
        refine k_opt hs (fun _ q => nomatch q) (fun k8 h9 hs => ?_)
        obtain ⟨c10, hs⟩ := z_ite hs
        refine e_iald cd_279_29 rfl h9 c10 ?_
        refine k_if hs (fun c11 hs => ?_) (fun c11 hs => ?_)
        · refine e_icJ cd_279_30 rfl c11 ?_
          refine k_let hs (fun x12 e13 hs => ?_)
          refine e_incK cd_279_54 nl_279 rfl g2 ci_1 e13 ?_
          intro _ gn kp
          have u14 := kp 0 _ g0 rfl rfl
          have u15 := kp 1 _ g1 rfl rfl
          have u16 := gn
          refine e_goto cd_279_57 rfl ?_
          exact ih t0 v1 x12 M so _ u14 u15 u16 hs
        · refine e_icN cd_279_30 rfl c11 ?_
          refine e_aldn cd_279_33 g1 ?_
          refine e_getR cd_279_34 fd_279_113 h3 ?_
          refine e_ildn cd_279_37 g2 ?_
          refine k_opt hs (fun _ q => nomatch q) (fun k17 h18 hs => ?_)
          obtain ⟨c19, hs⟩ := z_ite hs
          refine e_iald cd_279_38 rfl h18 c19 ?_
          refine e_aldn cd_279_39 g0 ?_
          refine e_getR cd_279_40 fd_279_15 rfl ?_
          refine e_ildn cd_279_43 g2 ?_
          refine k_opt hs (fun _ q => nomatch q) (fun k20 h21 hs => ?_)
          obtain ⟨c22, hs⟩ := z_ite hs
          refine e_iald cd_279_44 rfl h21 c22 ?_
          refine k_if hs (fun c23 hs => ?_) (fun c23 hs => ?_)
          · refine e_icJ cd_279_45 rfl c23 ?_
            refine e_const cd_279_52 ci_1 ?_
            exact tie_wi_compare_53  d  1 M so _  hs
          · refine e_icN cd_279_45 rfl c23 ?_
            refine e_const cd_279_48 ci_m1 ?_
            refine e_goto cd_279_49 rfl ?_
            exact tie_wi_compare_53  d  (-1) M so _  hs
theorem tie_wi_compare (d : Nat) (a0 : Nat) (a1 : Option Nat) (M : zM) (so : Int32 × zM) (hs : wi_compare d a0 a1 M = some so) : Ev zq_T d 279 0 (zl_args 0 [.inr (.inr (10, some a0)), .inr (.inr (7, a1))]) [] M (some (.inl so.1), so.2) := by
  unfold wi_compare at hs
  have g0 : zl_get (zl_args 0 [.inr (.inr (10, some a0)), .inr (.inr (7, a1))]) 0 = some (.inr (.inr (10, (some a0)))) := rfl
  have g1 : zl_get (zl_args 0 [.inr (.inr (10, some a0)), .inr (.inr (7, a1))]) 1 = some (.inr (.inr (7, a1))) := rfl
  refine e_const cd_279_0 ci_0 ?_
  refine e_iKn cd_279_1 nl_279 rfl rfl ?_
  intro _ gn kp
  have u1 := kp 0 _ g0 rfl rfl
  have u2 := kp 1 _ g1 rfl rfl
  have u3 := gn
  exact tie_wi_compare_2  d  zLF a0 a1 0 M so _ u1 u2 u3 hs
theorem tie_wi_keep_16  (d : Nat)  : ∀ (fuel : Nat) (t0 : Nat) (v1 : Option Nat) (v2 : Int32) (M : zM) (so : zM) (ls : List (Nat × zV)), zl_get ls 0 = some (.inr (.inr (10, (some t0)))) → zl_get ls 1 = some (.inr (.inr (7, v1))) → zl_get ls 2 = some (.inl v2) → wi_keep_16  d fuel t0 v1 v2 M = some so → Ev zq_T d 280 16 ls [] M (none, so) := by
  intro fuel
  induction fuel with
  | zero => intro t0 v1 v2 M so ls g0 g1 g2 hs; exact nomatch hs
  | succ fuel ih =>
    intro t0 v1 v2 M so ls g0 g1 g2 hs
    unfold wi_keep_16 at hs
    refine e_ildn cd_280_16 g2 ?_
    refine e_aldn cd_280_17 g0 ?_
    refine e_getI cd_280_18 (Or.inl fd_280_97) rfl ?_
    refine k_if hs (fun c1 hs => ?_) (fun c1 hs => ?_)
    · refine e_icJ cd_280_21 rfl c1 ?_
      have e := Option.some.inj hs
      subst e
      exact e_rv cd_280_42 nr_280
    · refine e_icN cd_280_21 rfl c1 ?_
      refine e_aldn cd_280_24 g0 ?_
      refine e_getR cd_280_25 fd_280_15 rfl ?_
      refine e_ildn cd_280_28 g2 ?_
      refine e_aldn cd_280_29 g1 ?_
      refine k_opt hs (fun _ q => nomatch q) (fun k2 h3 hs => ?_)
      refine e_getR cd_280_30 fd_280_113 h3 ?_
      refine e_ildn cd_280_33 g2 ?_
      refine k_opt hs (fun _ q => nomatch q) (fun k4 h5 hs => ?_)
      obtain ⟨c6, hs⟩ := z_ite hs
      refine e_iald cd_280_34 rfl h5 c6 ?_
      refine k_opt hs (fun _ q => nomatch q) (fun k7 h8 hs => ?_)
      obtain ⟨c9, hs⟩ := z_ite hs
      refine k_let hs (fun M10 e11 hs => ?_)
      refine e_iast cd_280_35 rfl h8 c9 e11 ?_
      refine k_let hs (fun x12 e13 hs => ?_)
      refine e_incK cd_280_36 nl_280 rfl g2 ci_1 e13 ?_
      intro _ gn kp
      have u14 := kp 0 _ g0 rfl rfl
      have u15 := kp 1 _ g1 rfl rfl
      have u16 := gn
      refine e_goto cd_280_39 rfl ?_
      exact ih t0 v1 x12 M10 so _ u14 u15 u16 hs
theorem tie_wi_keep (d : Nat) (a0 : Nat) (a1 : Option Nat) (M : zM) (so : zM) (hs : wi_keep d a0 a1 M = some so) : Ev zq_T d 280 0 (zl_args 0 [.inr (.inr (10, some a0)), .inr (.inr (7, a1))]) [] M (none, so) := by
  unfold wi_keep at hs
  have g0 : zl_get (zl_args 0 [.inr (.inr (10, some a0)), .inr (.inr (7, a1))]) 0 = some (.inr (.inr (10, (some a0)))) := rfl
  have g1 : zl_get (zl_args 0 [.inr (.inr (10, some a0)), .inr (.inr (7, a1))]) 1 = some (.inr (.inr (7, a1))) := rfl
  refine e_aldn cd_280_0 g0 ?_
  refine e_aldn cd_280_1 g1 ?_
  refine k_opt hs (fun _ q => nomatch q) (fun k1 h2 hs => ?_)
  refine e_getI cd_280_2 (Or.inl fd_280_112) h2 ?_
  refine e_sip cd_280_5 cs_2304 ?_
  refine e_min cd_280_8 kd_280_114 rfl ?_
  refine k_let hs (fun M3 e4 hs => ?_)
  refine e_putI cd_280_11 pd_280_97 rfl e4 ?_
  refine e_const cd_280_14 ci_0 ?_
  refine e_iKn cd_280_15 nl_280 rfl rfl ?_
  intro _ gn kp
  have u5 := kp 0 _ g0 rfl rfl
  have u6 := kp 1 _ g1 rfl rfl
  have u7 := gn
  exact tie_wi_keep_16  d  zLF a0 a1 0 M3 so _ u5 u6 u7 hs
theorem tie_wi_weigh_165  (d : Nat)   (M : zM) (so : zM) (ls : List (Nat × zV))  (hs : wi_weigh_165  d  M = some so) : Ev zq_T (d + 1) 278 165 ls [] M (none, so) := by
  unfold wi_weigh_165 at hs
  have e := Option.some.inj hs
  subst e
  exact e_rv cd_278_165 nr_278
theorem tie_wi_weigh_149  (d : Nat)  (t0 : Nat) (v5 : Option Nat) (s0 : Option Nat) (s1 : Int32) (M : zM) (so : zM) (ls : List (Nat × zV)) (g0 : zl_get ls 0 = some (.inr (.inr (10, (some t0))))) (g5 : zl_get ls 5 = some (.inr (.inr (7, v5)))) (hs : wi_weigh_149  d t0 v5 s0 s1 M = some so) : Ev zq_T (d + 1) 278 149 ls [.inl s1, .inr (.inr (10, s0))] M (none, so) := by
  unfold wi_weigh_149 at hs
  refine k_opt hs (fun _ q => nomatch q) (fun k1 h2 hs => ?_)
  refine k_let hs (fun M3 e4 hs => ?_)
  refine e_putI cd_278_149 pd_278_83 h2 e4 ?_
  refine e_aldn cd_278_152 g0 ?_
  refine e_getI cd_278_153 (Or.inl fd_278_83) rfl ?_
  refine k_if hs (fun c5 hs => ?_) (fun c5 hs => ?_)
  · refine e_izJ cd_278_156 rfl c5 ?_
    exact tie_wi_weigh_165  d   M3 so _  hs
  · refine e_izN cd_278_156 rfl c5 ?_
    refine e_aldn cd_278_159 g0 ?_
    refine e_ald cd_278_160 g5 ?_
    obtain ⟨q6, h7, hs⟩ := k_bind hs
    refine e_cvi cd_278_162 kd_278_108 rfl rfl rfl rfl rfl nl_280 rfl rfl (tie_wi_keep d t0 v5 M3 _ h7) ?_
    exact tie_wi_weigh_165  d   q6 so _  hs
theorem tie_wi_weigh_148  (d : Nat)  (t0 : Nat) (v5 : Option Nat) (s0 : Option Nat) (M : zM) (so : zM) (ls : List (Nat × zV)) (g0 : zl_get ls 0 = some (.inr (.inr (10, (some t0))))) (g5 : zl_get ls 5 = some (.inr (.inr (7, v5)))) (hs : wi_weigh_148  d t0 v5 s0 M = some so) : Ev zq_T (d + 1) 278 148 ls [.inr (.inr (10, s0))] M (none, so) := by
  unfold wi_weigh_148 at hs
  refine e_const cd_278_148 ci_m1 ?_
  exact tie_wi_weigh_149  d  t0 v5 s0 (-1) M so _ g0 g5 hs
theorem tie_wi_weigh_112  (d : Nat)  (t0 : Nat) (v1 : Option Nat) (v2 : Int32) (v3 : Int32) (v4 : Int32) (v5 : Option Nat) (v7 : Int32) (M : zM) (so : zM) (ls : List (Nat × zV)) (g0 : zl_get ls 0 = some (.inr (.inr (10, (some t0))))) (g1 : zl_get ls 1 = some (.inr (.inr (5, v1)))) (g2 : zl_get ls 2 = some (.inl v2)) (g3 : zl_get ls 3 = some (.inl v3)) (g4 : zl_get ls 4 = some (.inl v4)) (g5 : zl_get ls 5 = some (.inr (.inr (7, v5)))) (g7 : zl_get ls 7 = some (.inl v7)) (hs : wi_weigh_112  d t0 v1 v2 v3 v4 v5 v7 M = some so) : Ev zq_T (d + 1) 278 112 ls [] M (none, so) := by
  unfold wi_weigh_112 at hs
  refine e_ald cd_278_112 g5 ?_
  refine e_aldn cd_278_114 g1 ?_
  refine e_ildn cd_278_115 g2 ?_
  refine e_ildn cd_278_116 g3 ?_
  refine e_ild cd_278_117 g4 ?_
  refine k_opt hs (fun _ q => nomatch q) (fun k1 h2 hs => ?_)
  obtain ⟨q3, h4, hs⟩ := k_bind hs
  refine e_cvi cd_278_119 kd_278_100 rfl rfl rfl h2 rfl nl_229 rfl rfl (tie_sp_spellUpTo d k1 v1 v2 v3 v4 M _ h4) ?_
  refine e_aldn cd_278_122 g0 ?_
  refine e_aldn cd_278_123 g0 ?_
  refine e_getI cd_278_124 (Or.inr fd_278_19) rfl ?_
  refine k_if hs (fun c5 hs => ?_) (fun c5 hs => ?_)
  · refine e_izJ cd_278_127 rfl c5 ?_
    exact tie_wi_weigh_148  d  t0 v5 (some t0) q3 so _ g0 g5 hs
  · refine e_izN cd_278_127 rfl c5 ?_
    refine e_ild cd_278_130 g7 ?_
    refine e_aldn cd_278_132 g0 ?_
    refine e_getI cd_278_133 (Or.inl fd_278_97) rfl ?_
    refine k_if hs (fun c6 hs => ?_) (fun c6 hs => ?_)
    · refine e_icN cd_278_136 rfl (fun q => q c6) ?_
      refine e_aldn cd_278_139 g0 ?_
      refine e_ald cd_278_140 g5 ?_
      obtain ⟨q7, h8, hs⟩ := k_bind hs
      refine e_cvi cd_278_142 kd_278_104 rfl rfl rfl rfl rfl nl_279 rfl rfl (tie_wi_compare d t0 v5 q3 _ h8) ?_
      refine e_goto cd_278_145 rfl ?_
      exact tie_wi_weigh_149  d  t0 v5 (some t0) q7.1 q7.2 so _ g0 g5 hs
    · refine e_icJ cd_278_136 rfl c6 ?_
      exact tie_wi_weigh_148  d  t0 v5 (some t0) q3 so _ g0 g5 hs
theorem tie_wi_weigh_57  (d : Nat)  (t0 : Nat) (v1 : Option Nat) (v2 : Int32) (v3 : Int32) (v4 : Int32) (v5 : Option Nat) (M : zM) (so : zM) (ls : List (Nat × zV)) (g0 : zl_get ls 0 = some (.inr (.inr (10, (some t0))))) (g1 : zl_get ls 1 = some (.inr (.inr (5, v1)))) (g2 : zl_get ls 2 = some (.inl v2)) (g3 : zl_get ls 3 = some (.inl v3)) (g4 : zl_get ls 4 = some (.inl v4)) (g5 : zl_get ls 5 = some (.inr (.inr (7, v5)))) (hs : wi_weigh_57  d t0 v1 v2 v3 v4 v5 M = some so) : Ev zq_T (d + 1) 278 57 ls [] M (none, so) := by
  unfold wi_weigh_57 at hs
  refine e_aldn cd_278_57 g0 ?_
  refine e_const cd_278_58 ci_1 ?_
  refine k_let hs (fun M1 e2 hs => ?_)
  refine e_putZ cd_278_59 pd_278_23 (Or.inr rfl) rfl e2 ?_
  refine e_aldn cd_278_62 g0 ?_
  refine e_ildn cd_278_63 g2 ?_
  refine k_let hs (fun M3 e4 hs => ?_)
  refine e_putI cd_278_64 pd_278_74 rfl e4 ?_
  refine e_aldn cd_278_67 g0 ?_
  refine e_ildn cd_278_68 g3 ?_
  refine k_let hs (fun M5 e6 hs => ?_)
  refine e_putI cd_278_69 pd_278_77 rfl e6 ?_
  refine e_aldn cd_278_72 g0 ?_
  refine e_ild cd_278_73 g4 ?_
  refine k_let hs (fun M7 e8 hs => ?_)
  refine e_putI cd_278_75 pd_278_80 rfl e8 ?_
  refine e_ald cd_278_78 g5 ?_
  refine e_aldn cd_278_80 g1 ?_
  refine e_ildn cd_278_81 g2 ?_
  refine e_ildn cd_278_82 g3 ?_
  refine e_ild cd_278_83 g4 ?_
  refine k_opt hs (fun _ q => nomatch q) (fun k9 h10 hs => ?_)
  obtain ⟨q11, h12, hs⟩ := k_bind hs
  refine e_cvi cd_278_85 kd_278_91 rfl rfl rfl h10 rfl nl_225 rfl rfl (tie_sp_lengthUpTo d k9 v1 v2 v3 v4 M7 _ h12) ?_
  refine e_iK cd_278_88 nl_278 rfl rfl ?_
  intro _ gn kp
  have u13 := kp 0 _ g0 rfl rfl
  have u14 := kp 1 _ g1 rfl rfl
  have u15 := kp 2 _ g2 rfl rfl
  have u16 := kp 3 _ g3 rfl rfl
  have u17 := kp 4 _ g4 rfl rfl
  have u18 := kp 5 _ g5 rfl rfl
  have u19 := gn
  refine e_aldn cd_278_90 u13 ?_
  refine e_getI cd_278_91 (Or.inr fd_278_19) rfl ?_
  refine k_if hs (fun c20 hs => ?_) (fun c20 hs => ?_)
  · refine e_izJ cd_278_94 rfl c20 ?_
    exact tie_wi_weigh_112  d  t0 v1 v2 v3 v4 v5 q11.1 q11.2 so _ u13 u14 u15 u16 u17 u18 u19 hs
  · refine e_izN cd_278_94 rfl c20 ?_
    refine e_ild cd_278_97 u19 ?_
    refine e_aldn cd_278_99 u13 ?_
    refine e_getI cd_278_100 (Or.inl fd_278_97) rfl ?_
    refine k_if hs (fun c21 hs => ?_) (fun c21 hs => ?_)
    · refine e_icJ cd_278_103 rfl c21 ?_
      exact tie_wi_weigh_112  d  t0 v1 v2 v3 v4 v5 q11.1 q11.2 so _ u13 u14 u15 u16 u17 u18 u19 hs
    · refine e_icN cd_278_103 rfl c21 ?_
      refine e_aldn cd_278_106 u13 ?_
      refine e_const cd_278_107 ci_1 ?_
      refine k_let hs (fun M22 e23 hs => ?_)
      refine e_putI cd_278_108 pd_278_83 rfl e23 ?_
      have e := Option.some.inj hs
      subst e
      exact e_rv cd_278_111 nr_278
theorem tie_wi_weigh_30  (d : Nat)  (t0 : Nat) (v1 : Option Nat) (v2 : Int32) (v3 : Int32) (v4 : Int32) (v5 : Option Nat) (s0 : Int32) (M : zM) (so : zM) (ls : List (Nat × zV)) (g0 : zl_get ls 0 = some (.inr (.inr (10, (some t0))))) (g1 : zl_get ls 1 = some (.inr (.inr (5, v1)))) (g2 : zl_get ls 2 = some (.inl v2)) (g3 : zl_get ls 3 = some (.inl v3)) (g4 : zl_get ls 4 = some (.inl v4)) (g5 : zl_get ls 5 = some (.inr (.inr (7, v5)))) (hs : wi_weigh_30  d t0 v1 v2 v3 v4 v5 s0 M = some so) : Ev zq_T (d + 1) 278 30 ls [.inl s0] M (none, so) := by
  unfold wi_weigh_30 at hs
  refine e_iK cd_278_30 nl_278 rfl rfl ?_
  intro _ gn kp
  have u1 := kp 0 _ g0 rfl rfl
  have u2 := kp 1 _ g1 rfl rfl
  have u3 := kp 2 _ g2 rfl rfl
  have u4 := kp 3 _ g3 rfl rfl
  have u5 := kp 4 _ g4 rfl rfl
  have u6 := kp 5 _ g5 rfl rfl
  have u7 := gn
  refine e_aldn cd_278_32 u1 ?_
  refine e_getI cd_278_33 (Or.inr fd_278_23) rfl ?_
  refine k_if hs (fun c8 hs => ?_) (fun c8 hs => ?_)
  · refine e_izJ cd_278_36 rfl c8 ?_
    exact tie_wi_weigh_57  d  t0 v1 v2 v3 v4 v5 M so _ u1 u2 u3 u4 u5 u6 hs
  · refine e_izN cd_278_36 rfl c8 ?_
    refine e_ild cd_278_39 u7 ?_
    refine k_if hs (fun c9 hs => ?_) (fun c9 hs => ?_)
    · refine e_izJ cd_278_41 rfl c9 ?_
      exact tie_wi_weigh_57  d  t0 v1 v2 v3 v4 v5 M so _ u1 u2 u3 u4 u5 u6 hs
    · refine e_izN cd_278_41 rfl c9 ?_
      refine e_aldn cd_278_44 u1 ?_
      refine e_aldn cd_278_45 u1 ?_
      refine e_getI cd_278_46 (Or.inl fd_278_83) rfl ?_
      refine e_const cd_278_49 ci_0 ?_
      refine e_max cd_278_50 kd_278_86 rfl ?_
      refine k_let hs (fun M10 e11 hs => ?_)
      refine e_putI cd_278_53 pd_278_83 rfl e11 ?_
      have e := Option.some.inj hs
      subst e
      exact e_rv cd_278_56 nr_278
theorem tie_wi_weigh_29  (d : Nat)  (t0 : Nat) (v1 : Option Nat) (v2 : Int32) (v3 : Int32) (v4 : Int32) (v5 : Option Nat) (M : zM) (so : zM) (ls : List (Nat × zV)) (g0 : zl_get ls 0 = some (.inr (.inr (10, (some t0))))) (g1 : zl_get ls 1 = some (.inr (.inr (5, v1)))) (g2 : zl_get ls 2 = some (.inl v2)) (g3 : zl_get ls 3 = some (.inl v3)) (g4 : zl_get ls 4 = some (.inl v4)) (g5 : zl_get ls 5 = some (.inr (.inr (7, v5)))) (hs : wi_weigh_29  d t0 v1 v2 v3 v4 v5 M = some so) : Ev zq_T (d + 1) 278 29 ls [] M (none, so) := by
  unfold wi_weigh_29 at hs
  refine e_const cd_278_29 ci_0 ?_
  exact tie_wi_weigh_30  d  t0 v1 v2 v3 v4 v5 0 M so _ g0 g1 g2 g3 g4 g5 hs
theorem tieb_wi_weigh  (d : Nat)  (a0 : Nat) (a1 : Option Nat) (a2 : Int32) (a3 : Int32) (a4 : Int32) (a5 : Option Nat) (M : zM) (so : zM) (hs : wi_weigh_b  d a0 a1 a2 a3 a4 a5 M = some so) : Ev zq_T (d + 1) 278 0 (zl_args 0 [.inr (.inr (10, some a0)), .inr (.inr (5, a1)), .inl a2, .inl a3, .inl a4, .inr (.inr (7, a5))]) [] M (none, so) := by
  unfold wi_weigh_b at hs
  have g0 : zl_get (zl_args 0 [.inr (.inr (10, some a0)), .inr (.inr (5, a1)), .inl a2, .inl a3, .inl a4, .inr (.inr (7, a5))]) 0 = some (.inr (.inr (10, (some a0)))) := rfl
  have g1 : zl_get (zl_args 0 [.inr (.inr (10, some a0)), .inr (.inr (5, a1)), .inl a2, .inl a3, .inl a4, .inr (.inr (7, a5))]) 1 = some (.inr (.inr (5, a1))) := rfl
  have g2 : zl_get (zl_args 0 [.inr (.inr (10, some a0)), .inr (.inr (5, a1)), .inl a2, .inl a3, .inl a4, .inr (.inr (7, a5))]) 2 = some (.inl a2) := rfl
  have g3 : zl_get (zl_args 0 [.inr (.inr (10, some a0)), .inr (.inr (5, a1)), .inl a2, .inl a3, .inl a4, .inr (.inr (7, a5))]) 3 = some (.inl a3) := rfl
  have g4 : zl_get (zl_args 0 [.inr (.inr (10, some a0)), .inr (.inr (5, a1)), .inl a2, .inl a3, .inl a4, .inr (.inr (7, a5))]) 4 = some (.inl a4) := rfl
  have g5 : zl_get (zl_args 0 [.inr (.inr (10, some a0)), .inr (.inr (5, a1)), .inl a2, .inl a3, .inl a4, .inr (.inr (7, a5))]) 5 = some (.inr (.inr (7, a5))) := rfl
  refine e_aldn cd_278_0 g0 ?_
  refine e_getI cd_278_1 (Or.inl fd_278_74) rfl ?_
  refine e_ildn cd_278_4 g2 ?_
  refine k_if hs (fun c1 hs => ?_) (fun c1 hs => ?_)
  · refine e_icN cd_278_5 rfl (fun q => q c1) ?_
    refine e_aldn cd_278_8 g0 ?_
    refine e_getI cd_278_9 (Or.inl fd_278_77) rfl ?_
    refine e_ildn cd_278_12 g3 ?_
    refine k_if hs (fun c2 hs => ?_) (fun c2 hs => ?_)
    · refine e_icN cd_278_13 rfl (fun q => q c2) ?_
      refine e_aldn cd_278_16 g0 ?_
      refine e_getI cd_278_17 (Or.inl fd_278_80) rfl ?_
      refine e_ild cd_278_20 g4 ?_
      refine k_if hs (fun c3 hs => ?_) (fun c3 hs => ?_)
      · refine e_icN cd_278_22 rfl (fun q => q c3) ?_
        refine e_const cd_278_25 ci_1 ?_
        refine e_goto cd_278_26 rfl ?_
        exact tie_wi_weigh_30  d  a0 a1 a2 a3 a4 a5 1 M so _ g0 g1 g2 g3 g4 g5 hs
      · refine e_icJ cd_278_22 rfl c3 ?_
        exact tie_wi_weigh_29  d  a0 a1 a2 a3 a4 a5 M so _ g0 g1 g2 g3 g4 g5 hs
    · refine e_icJ cd_278_13 rfl c2 ?_
      exact tie_wi_weigh_29  d  a0 a1 a2 a3 a4 a5 M so _ g0 g1 g2 g3 g4 g5 hs
  · refine e_icJ cd_278_5 rfl c1 ?_
    exact tie_wi_weigh_29  d  a0 a1 a2 a3 a4 a5 M so _ g0 g1 g2 g3 g4 g5 hs
theorem tie_wi_weigh (d : Nat) (a0 : Nat) (a1 : Option Nat) (a2 : Int32) (a3 : Int32) (a4 : Int32) (a5 : Option Nat) (M : zM) (so : zM) (hs : wi_weigh d a0 a1 a2 a3 a4 a5 M = some so) : Ev zq_T d 278 0 (zl_args 0 [.inr (.inr (10, some a0)), .inr (.inr (5, a1)), .inl a2, .inl a3, .inl a4, .inr (.inr (7, a5))]) [] M (none, so) := by
  cases d with
  | zero => exact nomatch hs
  | succ d => exact tieb_wi_weigh d a0 a1 a2 a3 a4 a5 M so hs
theorem tie_wi_offer_78  (d : Nat)   (M : zM) (so : zM) (ls : List (Nat × zV))  (hs : wi_offer_78  d  M = some so) : Ev zq_T d 281 78 ls [] M (none, so) := by
  unfold wi_offer_78 at hs
  have e := Option.some.inj hs
  subst e
  exact e_rv cd_281_78 nr_281
theorem tie_wi_offer_58  (d : Nat)  (t0 : Nat) (v1 : Int32) (v2 : Int32) (v3 : Int32) (M : zM) (so : zM) (ls : List (Nat × zV)) (g0 : zl_get ls 0 = some (.inr (.inr (10, (some t0))))) (g1 : zl_get ls 1 = some (.inl v1)) (g2 : zl_get ls 2 = some (.inl v2)) (g3 : zl_get ls 3 = some (.inl v3)) (hs : wi_offer_58  d t0 v1 v2 v3 M = some so) : Ev zq_T d 281 58 ls [] M (none, so) := by
  unfold wi_offer_58 at hs
  refine e_aldn cd_281_58 g0 ?_
  refine e_const cd_281_59 ci_1 ?_
  refine k_let hs (fun M1 e2 hs => ?_)
  refine e_putZ cd_281_60 pd_281_19 (Or.inr rfl) rfl e2 ?_
  refine e_aldn cd_281_63 g0 ?_
  refine e_ildn cd_281_64 g1 ?_
  refine k_let hs (fun M3 e4 hs => ?_)
  refine e_putI cd_281_65 pd_281_117 rfl e4 ?_
  refine e_aldn cd_281_68 g0 ?_
  refine e_ildn cd_281_69 g2 ?_
  refine k_let hs (fun M5 e6 hs => ?_)
  refine e_putI cd_281_70 pd_281_120 rfl e6 ?_
  refine e_aldn cd_281_73 g0 ?_
  refine e_ildn cd_281_74 g3 ?_
  refine k_let hs (fun M7 e8 hs => ?_)
  refine e_putI cd_281_75 pd_281_123 rfl e8 ?_
  exact tie_wi_offer_78  d   M7 so _  hs
theorem tie_wi_offer_37  (d : Nat)  (t0 : Nat) (v1 : Int32) (v2 : Int32) (v3 : Int32) (s0 : Int32) (M : zM) (so : zM) (ls : List (Nat × zV)) (g0 : zl_get ls 0 = some (.inr (.inr (10, (some t0))))) (g1 : zl_get ls 1 = some (.inl v1)) (g2 : zl_get ls 2 = some (.inl v2)) (g3 : zl_get ls 3 = some (.inl v3)) (hs : wi_offer_37  d t0 v1 v2 v3 s0 M = some so) : Ev zq_T d 281 37 ls [.inl s0] M (none, so) := by
  unfold wi_offer_37 at hs
  refine e_iK cd_281_37 nl_281 rfl rfl ?_
  intro _ gn kp
  have u1 := kp 0 _ g0 rfl rfl
  have u2 := kp 1 _ g1 rfl rfl
  have u3 := kp 2 _ g2 rfl rfl
  have u4 := kp 3 _ g3 rfl rfl
  have u5 := gn
  refine e_aldn cd_281_39 u1 ?_
  refine e_getI cd_281_40 (Or.inl fd_281_83) rfl ?_
  refine k_if hs (fun c6 hs => ?_) (fun c6 hs => ?_)
  · refine e_izJ cd_281_43 rfl c6 ?_
    exact tie_wi_offer_58  d  t0 v1 v2 v3 M so _ u1 u2 u3 u4 hs
  · refine e_izN cd_281_43 rfl c6 ?_
    refine e_aldn cd_281_46 u1 ?_
    refine e_getI cd_281_47 (Or.inl fd_281_83) rfl ?_
    refine k_if hs (fun c7 hs => ?_) (fun c7 hs => ?_)
    · refine e_izN cd_281_50 rfl (fun q => q c7) ?_
      refine e_ild cd_281_53 u5 ?_
      refine k_if hs (fun c8 hs => ?_) (fun c8 hs => ?_)
      · refine e_izJ cd_281_55 rfl c8 ?_
        exact tie_wi_offer_78  d   M so _  hs
      · refine e_izN cd_281_55 rfl c8 ?_
        exact tie_wi_offer_58  d  t0 v1 v2 v3 M so _ u1 u2 u3 u4 hs
    · refine e_izJ cd_281_50 rfl c7 ?_
      exact tie_wi_offer_78  d   M so _  hs
theorem tie_wi_offer_32  (d : Nat)  (t0 : Nat) (v1 : Int32) (v2 : Int32) (v3 : Int32) (M : zM) (so : zM) (ls : List (Nat × zV)) (g0 : zl_get ls 0 = some (.inr (.inr (10, (some t0))))) (g1 : zl_get ls 1 = some (.inl v1)) (g2 : zl_get ls 2 = some (.inl v2)) (g3 : zl_get ls 3 = some (.inl v3)) (hs : wi_offer_32  d t0 v1 v2 v3 M = some so) : Ev zq_T d 281 32 ls [] M (none, so) := by
  unfold wi_offer_32 at hs
  refine e_const cd_281_32 ci_1 ?_
  refine e_goto cd_281_33 rfl ?_
  exact tie_wi_offer_37  d  t0 v1 v2 v3 1 M so _ g0 g1 g2 g3 hs
theorem tie_wi_offer_36  (d : Nat)  (t0 : Nat) (v1 : Int32) (v2 : Int32) (v3 : Int32) (M : zM) (so : zM) (ls : List (Nat × zV)) (g0 : zl_get ls 0 = some (.inr (.inr (10, (some t0))))) (g1 : zl_get ls 1 = some (.inl v1)) (g2 : zl_get ls 2 = some (.inl v2)) (g3 : zl_get ls 3 = some (.inl v3)) (hs : wi_offer_36  d t0 v1 v2 v3 M = some so) : Ev zq_T d 281 36 ls [] M (none, so) := by
  unfold wi_offer_36 at hs
  refine e_const cd_281_36 ci_0 ?_
  exact tie_wi_offer_37  d  t0 v1 v2 v3 0 M so _ g0 g1 g2 g3 hs
theorem tie_wi_offer (d : Nat) (a0 : Nat) (a1 : Int32) (a2 : Int32) (a3 : Int32) (M : zM) (so : zM) (hs : wi_offer d a0 a1 a2 a3 M = some so) : Ev zq_T d 281 0 (zl_args 0 [.inr (.inr (10, some a0)), .inl a1, .inl a2, .inl a3]) [] M (none, so) := by
  unfold wi_offer at hs
  have g0 : zl_get (zl_args 0 [.inr (.inr (10, some a0)), .inl a1, .inl a2, .inl a3]) 0 = some (.inr (.inr (10, (some a0)))) := rfl
  have g1 : zl_get (zl_args 0 [.inr (.inr (10, some a0)), .inl a1, .inl a2, .inl a3]) 1 = some (.inl a1) := rfl
  have g2 : zl_get (zl_args 0 [.inr (.inr (10, some a0)), .inl a1, .inl a2, .inl a3]) 2 = some (.inl a2) := rfl
  have g3 : zl_get (zl_args 0 [.inr (.inr (10, some a0)), .inl a1, .inl a2, .inl a3]) 3 = some (.inl a3) := rfl
  refine e_ildn cd_281_0 g1 ?_
  refine e_aldn cd_281_1 g0 ?_
  refine e_getI cd_281_2 (Or.inl fd_281_117) rfl ?_
  refine k_if hs (fun c1 hs => ?_) (fun c1 hs => ?_)
  · refine e_icN cd_281_5 rfl (fun q => q c1) ?_
    refine e_ildn cd_281_8 g2 ?_
    refine e_aldn cd_281_9 g0 ?_
    refine e_getI cd_281_10 (Or.inl fd_281_120) rfl ?_
    refine k_if hs (fun c2 hs => ?_) (fun c2 hs => ?_)
    · refine e_icJ cd_281_13 rfl c2 ?_
      exact tie_wi_offer_32  d  a0 a1 a2 a3 M so _ g0 g1 g2 g3 hs
    · refine e_icN cd_281_13 rfl c2 ?_
      refine e_ildn cd_281_16 g2 ?_
      refine e_aldn cd_281_17 g0 ?_
      refine e_getI cd_281_18 (Or.inl fd_281_120) rfl ?_
      refine k_if hs (fun c3 hs => ?_) (fun c3 hs => ?_)
      · refine e_icN cd_281_21 rfl (fun q => q c3) ?_
        refine e_ildn cd_281_24 g3 ?_
        refine e_aldn cd_281_25 g0 ?_
        refine e_getI cd_281_26 (Or.inl fd_281_123) rfl ?_
        refine k_if hs (fun c4 hs => ?_) (fun c4 hs => ?_)
        · refine e_icJ cd_281_29 rfl c4 ?_
          exact tie_wi_offer_36  d  a0 a1 a2 a3 M so _ g0 g1 g2 g3 hs
        · refine e_icN cd_281_29 rfl c4 ?_
          exact tie_wi_offer_32  d  a0 a1 a2 a3 M so _ g0 g1 g2 g3 hs
      · refine e_icJ cd_281_21 rfl c3 ?_
        exact tie_wi_offer_36  d  a0 a1 a2 a3 M so _ g0 g1 g2 g3 hs
  · refine e_icJ cd_281_5 rfl c1 ?_
    exact tie_wi_offer_36  d  a0 a1 a2 a3 M so _ g0 g1 g2 g3 hs
theorem tie_wi_seek_31  (d : Nat)   (M : zM) (so : zM) (ls : List (Nat × zV))  (hs : wi_seek_31  d  M = some so) : Ev zq_T (d + 1) 277 31 ls [] M (none, so) := by
  unfold wi_seek_31 at hs
  have e := Option.some.inj hs
  subst e
  exact e_rv cd_277_31 nr_277
theorem tie_wi_seek_147 (kl35 : Nat → Option Nat → Int32 → Option Nat → Option Nat → Int32 → zM → Option (zM)) (kl54 : Nat → Option Nat → Int32 → Option Nat → Option Nat → Int32 → Int32 → zM → Option (zM)) (kl66 : Nat → Option Nat → Int32 → Option Nat → Option Nat → Int32 → Int32 → Int32 → zM → Option (zM)) (d : Nat) (hk35 : ∀ (t0 : Nat) (v1 : Option Nat) (v2 : Int32) (v3 : Option Nat) (v4 : Option Nat) (v5 : Int32) (M : zM) (so : zM) (ls : List (Nat × zV)), zl_get ls 0 = some (.inr (.inr (10, (some t0)))) → zl_get ls 1 = some (.inr (.inr (5, v1))) → zl_get ls 2 = some (.inl v2) → zl_get ls 3 = some (.inr (.inr (9, v3))) → zl_get ls 4 = some (.inr (.inr (7, v4))) → zl_get ls 5 = some (.inl v5) → kl35 t0 v1 v2 v3 v4 v5 M = some so → Ev zq_T (d + 1) 277 35 ls [] M (none, so)) (hk54 : ∀ (t0 : Nat) (v1 : Option Nat) (v2 : Int32) (v3 : Option Nat) (v4 : Option Nat) (v5 : Int32) (v6 : Int32) (M : zM) (so : zM) (ls : List (Nat × zV)), zl_get ls 0 = some (.inr (.inr (10, (some t0)))) → zl_get ls 1 = some (.inr (.inr (5, v1))) → zl_get ls 2 = some (.inl v2) → zl_get ls 3 = some (.inr (.inr (9, v3))) → zl_get ls 4 = some (.inr (.inr (7, v4))) → zl_get ls 5 = some (.inl v5) → zl_get ls 6 = some (.inl v6) → kl54 t0 v1 v2 v3 v4 v5 v6 M = some so → Ev zq_T (d + 1) 277 54 ls [] M (none, so)) (hk66 : ∀ (t0 : Nat) (v1 : Option Nat) (v2 : Int32) (v3 : Option Nat) (v4 : Option Nat) (v5 : Int32) (v6 : Int32) (v7 : Int32) (M : zM) (so : zM) (ls : List (Nat × zV)), zl_get ls 0 = some (.inr (.inr (10, (some t0)))) → zl_get ls 1 = some (.inr (.inr (5, v1))) → zl_get ls 2 = some (.inl v2) → zl_get ls 3 = some (.inr (.inr (9, v3))) → zl_get ls 4 = some (.inr (.inr (7, v4))) → zl_get ls 5 = some (.inl v5) → zl_get ls 6 = some (.inl v6) → zl_get ls 7 = some (.inl v7) → kl66 t0 v1 v2 v3 v4 v5 v6 v7 M = some so → Ev zq_T (d + 1) 277 66 ls [] M (none, so)) (t0 : Nat) (v1 : Option Nat) (v2 : Int32) (v3 : Option Nat) (v4 : Option Nat) (v5 : Int32) (v6 : Int32) (v7 : Int32) (M : zM) (so : zM) (ls : List (Nat × zV)) (g0 : zl_get ls 0 = some (.inr (.inr (10, (some t0))))) (g1 : zl_get ls 1 = some (.inr (.inr (5, v1)))) (g2 : zl_get ls 2 = some (.inl v2)) (g3 : zl_get ls 3 = some (.inr (.inr (9, v3)))) (g4 : zl_get ls 4 = some (.inr (.inr (7, v4)))) (g5 : zl_get ls 5 = some (.inl v5)) (g6 : zl_get ls 6 = some (.inl v6)) (g7 : zl_get ls 7 = some (.inl v7)) (hs : wi_seek_147 kl35 kl54 kl66 d t0 v1 v2 v3 v4 v5 v6 v7 M = some so) : Ev zq_T (d + 1) 277 147 ls [] M (none, so) := by
  unfold wi_seek_147 at hs
  refine k_let hs (fun x1 e2 hs => ?_)
  refine e_incK cd_277_147 nl_277 rfl g7 ci_1 e2 ?_
  intro _ gn kp
  have u3 := kp 0 _ g0 rfl rfl
  have u4 := kp 1 _ g1 rfl rfl
  have u5 := kp 2 _ g2 rfl rfl
  have u6 := kp 3 _ g3 rfl rfl
  have u7 := kp 4 _ g4 rfl rfl
  have u8 := kp 5 _ g5 rfl rfl
  have u9 := kp 6 _ g6 rfl rfl
  have u10 := gn
  refine e_goto cd_277_150 rfl ?_
  exact hk66 t0 v1 v2 v3 v4 v5 v6 x1 M so _ u3 u4 u5 u6 u7 u8 u9 u10 hs
theorem tie_wi_seek_100 (kl35 : Nat → Option Nat → Int32 → Option Nat → Option Nat → Int32 → zM → Option (zM)) (kl54 : Nat → Option Nat → Int32 → Option Nat → Option Nat → Int32 → Int32 → zM → Option (zM)) (kl66 : Nat → Option Nat → Int32 → Option Nat → Option Nat → Int32 → Int32 → Int32 → zM → Option (zM)) (d : Nat) (hk35 : ∀ (t0 : Nat) (v1 : Option Nat) (v2 : Int32) (v3 : Option Nat) (v4 : Option Nat) (v5 : Int32) (M : zM) (so : zM) (ls : List (Nat × zV)), zl_get ls 0 = some (.inr (.inr (10, (some t0)))) → zl_get ls 1 = some (.inr (.inr (5, v1))) → zl_get ls 2 = some (.inl v2) → zl_get ls 3 = some (.inr (.inr (9, v3))) → zl_get ls 4 = some (.inr (.inr (7, v4))) → zl_get ls 5 = some (.inl v5) → kl35 t0 v1 v2 v3 v4 v5 M = some so → Ev zq_T (d + 1) 277 35 ls [] M (none, so)) (hk54 : ∀ (t0 : Nat) (v1 : Option Nat) (v2 : Int32) (v3 : Option Nat) (v4 : Option Nat) (v5 : Int32) (v6 : Int32) (M : zM) (so : zM) (ls : List (Nat × zV)), zl_get ls 0 = some (.inr (.inr (10, (some t0)))) → zl_get ls 1 = some (.inr (.inr (5, v1))) → zl_get ls 2 = some (.inl v2) → zl_get ls 3 = some (.inr (.inr (9, v3))) → zl_get ls 4 = some (.inr (.inr (7, v4))) → zl_get ls 5 = some (.inl v5) → zl_get ls 6 = some (.inl v6) → kl54 t0 v1 v2 v3 v4 v5 v6 M = some so → Ev zq_T (d + 1) 277 54 ls [] M (none, so)) (hk66 : ∀ (t0 : Nat) (v1 : Option Nat) (v2 : Int32) (v3 : Option Nat) (v4 : Option Nat) (v5 : Int32) (v6 : Int32) (v7 : Int32) (M : zM) (so : zM) (ls : List (Nat × zV)), zl_get ls 0 = some (.inr (.inr (10, (some t0)))) → zl_get ls 1 = some (.inr (.inr (5, v1))) → zl_get ls 2 = some (.inl v2) → zl_get ls 3 = some (.inr (.inr (9, v3))) → zl_get ls 4 = some (.inr (.inr (7, v4))) → zl_get ls 5 = some (.inl v5) → zl_get ls 6 = some (.inl v6) → zl_get ls 7 = some (.inl v7) → kl66 t0 v1 v2 v3 v4 v5 v6 v7 M = some so → Ev zq_T (d + 1) 277 66 ls [] M (none, so)) (t0 : Nat) (v1 : Option Nat) (v2 : Int32) (v3 : Option Nat) (v4 : Option Nat) (v5 : Int32) (v6 : Int32) (v7 : Int32) (M : zM) (so : zM) (ls : List (Nat × zV)) (g0 : zl_get ls 0 = some (.inr (.inr (10, (some t0))))) (g1 : zl_get ls 1 = some (.inr (.inr (5, v1)))) (g2 : zl_get ls 2 = some (.inl v2)) (g3 : zl_get ls 3 = some (.inr (.inr (9, v3)))) (g4 : zl_get ls 4 = some (.inr (.inr (7, v4)))) (g5 : zl_get ls 5 = some (.inl v5)) (g6 : zl_get ls 6 = some (.inl v6)) (g7 : zl_get ls 7 = some (.inl v7)) (hs : wi_seek_100 kl35 kl54 kl66 d t0 v1 v2 v3 v4 v5 v6 v7 M = some so) : Ev zq_T (d + 1) 277 100 ls [] M (none, so) := by
  unfold wi_seek_100 at hs
  refine e_aldn cd_277_100 g0 ?_
  refine e_aldn cd_277_101 g1 ?_
  refine e_ild cd_277_102 g5 ?_
  refine e_aldn cd_277_104 g3 ?_
  refine e_ild cd_277_105 g7 ?_
  refine e_ild cd_277_107 g6 ?_
  refine k_opt hs (fun _ q => nomatch q) (fun k1 h2 hs => ?_)
  obtain ⟨q3, h4, hs⟩ := k_bind hs
  refine e_cvi cd_277_109 kd_277_53 rfl rfl rfl h2 rfl nl_270 rfl rfl (tie_wy_enoughOf d k1 v7 v6 M _ h4) ?_
  refine e_aldn cd_277_112 g3 ?_
  refine e_ild cd_277_113 g7 ?_
  refine e_ild cd_277_115 g6 ?_
  obtain ⟨q5, h6, hs⟩ := k_bind hs
  refine e_cvi cd_277_117 kd_277_57 rfl rfl rfl h2 rfl nl_271 rfl rfl (tie_wy_overOf d k1 v7 v6 q3.2 _ h6) ?_
  refine e_ald cd_277_120 g4 ?_
  obtain ⟨q7, h8, hs⟩ := k_bind hs
  refine e_cvi cd_277_122 kd_277_60 rfl rfl rfl rfl rfl nl_278 rfl rfl (tie_wi_weigh d t0 v1 v5 q3.1 q5.1 v4 q5.2 _ h8) ?_
  refine e_aldn cd_277_125 g0 ?_
  refine e_ild cd_277_126 g5 ?_
  refine e_aldn cd_277_128 g3 ?_
  refine e_ild cd_277_129 g7 ?_
  refine e_ild cd_277_131 g6 ?_
  obtain ⟨q9, h10, hs⟩ := k_bind hs
  refine e_cvi cd_277_133 kd_277_64 rfl rfl rfl h2 rfl nl_272 rfl rfl (tie_wy_lowerOf d k1 v7 v6 q7 _ h10) ?_
  refine e_aldn cd_277_136 g3 ?_
  refine e_ild cd_277_137 g7 ?_
  refine e_ild cd_277_139 g6 ?_
  obtain ⟨q11, h12, hs⟩ := k_bind hs
  refine e_cvi cd_277_141 kd_277_67 rfl rfl rfl h2 rfl nl_273 rfl rfl (tie_wy_higherOf d k1 v7 v6 q9.2 _ h12) ?_
  obtain ⟨q13, h14, hs⟩ := k_bind hs
  refine e_cvi cd_277_144 kd_277_70 rfl rfl rfl rfl rfl nl_281 rfl rfl (tie_wi_offer d t0 v5 q9.1 q11.1 q11.2 _ h14) ?_
  exact tie_wi_seek_147 kl35 kl54 kl66 d hk35 hk54 hk66 t0 v1 v2 v3 v4 v5 v6 v7 q13 so _ g0 g1 g2 g3 g4 g5 g6 g7 hs
theorem tie_wi_seek_66 (kl35 : Nat → Option Nat → Int32 → Option Nat → Option Nat → Int32 → zM → Option (zM)) (kl54 : Nat → Option Nat → Int32 → Option Nat → Option Nat → Int32 → Int32 → zM → Option (zM)) (d : Nat) (hk35 : ∀ (t0 : Nat) (v1 : Option Nat) (v2 : Int32) (v3 : Option Nat) (v4 : Option Nat) (v5 : Int32) (M : zM) (so : zM) (ls : List (Nat × zV)), zl_get ls 0 = some (.inr (.inr (10, (some t0)))) → zl_get ls 1 = some (.inr (.inr (5, v1))) → zl_get ls 2 = some (.inl v2) → zl_get ls 3 = some (.inr (.inr (9, v3))) → zl_get ls 4 = some (.inr (.inr (7, v4))) → zl_get ls 5 = some (.inl v5) → kl35 t0 v1 v2 v3 v4 v5 M = some so → Ev zq_T (d + 1) 277 35 ls [] M (none, so)) (hk54 : ∀ (t0 : Nat) (v1 : Option Nat) (v2 : Int32) (v3 : Option Nat) (v4 : Option Nat) (v5 : Int32) (v6 : Int32) (M : zM) (so : zM) (ls : List (Nat × zV)), zl_get ls 0 = some (.inr (.inr (10, (some t0)))) → zl_get ls 1 = some (.inr (.inr (5, v1))) → zl_get ls 2 = some (.inl v2) → zl_get ls 3 = some (.inr (.inr (9, v3))) → zl_get ls 4 = some (.inr (.inr (7, v4))) → zl_get ls 5 = some (.inl v5) → zl_get ls 6 = some (.inl v6) → kl54 t0 v1 v2 v3 v4 v5 v6 M = some so → Ev zq_T (d + 1) 277 54 ls [] M (none, so)) : ∀ (fuel : Nat) (t0 : Nat) (v1 : Option Nat) (v2 : Int32) (v3 : Option Nat) (v4 : Option Nat) (v5 : Int32) (v6 : Int32) (v7 : Int32) (M : zM) (so : zM) (ls : List (Nat × zV)), zl_get ls 0 = some (.inr (.inr (10, (some t0)))) → zl_get ls 1 = some (.inr (.inr (5, v1))) → zl_get ls 2 = some (.inl v2) → zl_get ls 3 = some (.inr (.inr (9, v3))) → zl_get ls 4 = some (.inr (.inr (7, v4))) → zl_get ls 5 = some (.inl v5) → zl_get ls 6 = some (.inl v6) → zl_get ls 7 = some (.inl v7) → wi_seek_66 kl35 kl54 d fuel t0 v1 v2 v3 v4 v5 v6 v7 M = some so → Ev zq_T (d + 1) 277 66 ls [] M (none, so) := by
  intro fuel
  induction fuel with
  | zero => intro t0 v1 v2 v3 v4 v5 v6 v7 M so ls g0 g1 g2 g3 g4 g5 g6 g7 hs; exact nomatch hs
  | succ fuel ih =>
    intro t0 v1 v2 v3 v4 v5 v6 v7 M so ls g0 g1 g2 g3 g4 g5 g6 g7 hs
    unfold wi_seek_66 at hs
    refine e_ild cd_277_66 g7 ?_
    refine e_ild cd_277_68 g6 ?_
    refine k_if hs (fun c1 hs => ?_) (fun c1 hs => ?_)
    · refine e_icJ cd_277_70 rfl c1 ?_
      refine k_let hs (fun x2 e3 hs => ?_)
      refine e_incK cd_277_153 nl_277 rfl g6 ci_1 e3 ?_
      intro _ gn kp
      have u4 := kp 0 _ g0 rfl rfl
      have u5 := kp 1 _ g1 rfl rfl
      have u6 := kp 2 _ g2 rfl rfl
      have u7 := kp 3 _ g3 rfl rfl
      have u8 := kp 4 _ g4 rfl rfl
      have u9 := kp 5 _ g5 rfl rfl
      have u10 := gn
      refine e_goto cd_277_156 rfl ?_
      exact hk54 t0 v1 v2 v3 v4 v5 x2 M so _ u4 u5 u6 u7 u8 u9 u10 hs
    · refine e_icN cd_277_70 rfl c1 ?_
      refine e_aldn cd_277_73 g3 ?_
      refine e_aldn cd_277_74 g1 ?_
      refine e_ild cd_277_75 g7 ?_
      refine e_ild cd_277_77 g6 ?_
      refine k_opt hs (fun _ q => nomatch q) (fun k11 h12 hs => ?_)
      obtain ⟨q13, h14, hs⟩ := k_bind hs
      refine e_cvi cd_277_79 kd_277_45 rfl rfl rfl h12 rfl nl_267 rfl rfl (tie_wy_clash d k11 v1 v7 v6 M _ h14) ?_
      refine k_if hs (fun c15 hs => ?_) (fun c15 hs => ?_)
      · refine e_izJ cd_277_82 rfl c15 ?_
        exact tie_wi_seek_147 kl35 kl54 (fun p0 p1 p2 p3 p4 p5 p6 p7 m => wi_seek_66 kl35 kl54 d fuel p0 p1 p2 p3 p4 p5 p6 p7 m) d hk35 hk54 ih t0 v1 v2 v3 v4 v5 v6 v7 q13.2 so _ g0 g1 g2 g3 g4 g5 g6 g7 hs
      · refine e_izN cd_277_82 rfl c15 ?_
        refine e_ildn cd_277_85 g2 ?_
        refine k_if hs (fun c16 hs => ?_) (fun c16 hs => ?_)
        · refine e_izJ cd_277_86 rfl c16 ?_
          exact tie_wi_seek_100 kl35 kl54 (fun p0 p1 p2 p3 p4 p5 p6 p7 m => wi_seek_66 kl35 kl54 d fuel p0 p1 p2 p3 p4 p5 p6 p7 m) d hk35 hk54 ih t0 v1 v2 v3 v4 v5 v6 v7 q13.2 so _ g0 g1 g2 g3 g4 g5 g6 g7 hs
        · refine e_izN cd_277_86 rfl c16 ?_
          refine e_aldn cd_277_89 g3 ?_
          refine e_ild cd_277_90 g7 ?_
          refine e_ild cd_277_92 g6 ?_
          obtain ⟨q17, h18, hs⟩ := k_bind hs
          refine e_cvi cd_277_94 kd_277_49 rfl rfl rfl h12 rfl nl_269 rfl rfl (tie_wy_isUnlike d k11 v7 v6 q13.2 _ h18) ?_
          refine k_if hs (fun c19 hs => ?_) (fun c19 hs => ?_)
          · refine e_izJ cd_277_97 rfl c19 ?_
            exact tie_wi_seek_147 kl35 kl54 (fun p0 p1 p2 p3 p4 p5 p6 p7 m => wi_seek_66 kl35 kl54 d fuel p0 p1 p2 p3 p4 p5 p6 p7 m) d hk35 hk54 ih t0 v1 v2 v3 v4 v5 v6 v7 q17.2 so _ g0 g1 g2 g3 g4 g5 g6 g7 hs
          · refine e_izN cd_277_97 rfl c19 ?_
            exact tie_wi_seek_100 kl35 kl54 (fun p0 p1 p2 p3 p4 p5 p6 p7 m => wi_seek_66 kl35 kl54 d fuel p0 p1 p2 p3 p4 p5 p6 p7 m) d hk35 hk54 ih t0 v1 v2 v3 v4 v5 v6 v7 q17.2 so _ g0 g1 g2 g3 g4 g5 g6 g7 hs
