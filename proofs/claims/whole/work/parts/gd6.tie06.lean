theorem tie_le_learnAny_33  (d : Nat)  : ∀ (fuel : Nat) (t0 : Nat) (v1 : Option Nat) (v2 : Option Nat) (M : zM) (so : zM) (ls : List (Nat × zV)), zl_get ls 0 = some (.inr (.inr (2, (some t0)))) → zl_get ls 1 = some (.inr (.inr (3, v1))) → zl_get ls 2 = some (.inr (.inr (3, v2))) → le_learnAny_33  d fuel t0 v1 v2 M = some so → Ev zq_T (d + 1) 171 33 ls [] M (none, so) := by
  intro fuel
  induction fuel with
  | zero => intro t0 v1 v2 M so ls g0 g1 g2 hs; exact nomatch hs
  | succ fuel ih =>
    intro t0 v1 v2 M so ls g0 g1 g2 hs
    unfold le_learnAny_33 at hs
    refine e_aldn cd_171_33 g2 ?_
    refine k_opt hs (fun h1 hs => ?_) (fun k2 h1 hs => ?_)
    · refine e_nu0 cd_171_34 rfl h1 ?_
      refine e_const cd_171_104 ci_1 ?_
      refine e_iKn cd_171_105 nl_171 rfl rfl ?_
      intro _ gn kp
      have u3 := kp 0 _ g0 rfl rfl
      have u4 := kp 1 _ g1 rfl rfl
      have u5 := gn
      refine e_const cd_171_106 ci_1 ?_
      refine e_iKn cd_171_107 nl_171 rfl rfl ?_
      intro _ gn kp
      have u6 := kp 0 _ u3 rfl rfl
      have u7 := kp 1 _ u4 rfl rfl
      have u8 := kp 2 _ u5 rfl rfl
      have u9 := gn
      exact tie_le_learnAny_108  d  zLF t0 v1 1 1 M so _ u6 u7 u8 u9 hs
    · refine e_nu1 cd_171_34 rfl h1 ?_
      refine e_aldn cd_171_37 g2 ?_
      refine e_getI cd_171_38 (Or.inr fd_171_41) h1 ?_
      refine k_if hs (fun c10 hs => ?_) (fun c10 hs => ?_)
      · refine e_izN cd_171_41 rfl (fun q => q c10) ?_
        refine e_aldn cd_171_44 g1 ?_
        refine e_pure cd_171_45 rfl ?_
        refine k_opt hs (fun _ q => nomatch q) (fun k11 h12 hs => ?_)
        refine e_getI cd_171_46 (Or.inl fd_171_144) h12 ?_
        refine e_const cd_171_49 ci_1 ?_
        refine e_aldn cd_171_50 g2 ?_
        refine e_getI cd_171_51 (Or.inl fd_171_150) h1 ?_
        refine e_pure cd_171_54 rfl ?_
        refine e_pure cd_171_55 rfl ?_
        refine k_let hs (fun M13 e14 hs => ?_)
        refine e_putI cd_171_56 pd_171_144 h12 e14 ?_
        exact tie_le_learnAny_59 (fun p0 p1 p2 m => le_learnAny_33  d fuel p0 p1 p2 m) d ih t0 v1 v2 M13 so _ g0 g1 g2 hs
      · refine e_izJ cd_171_41 rfl c10 ?_
        exact tie_le_learnAny_59 (fun p0 p1 p2 m => le_learnAny_33  d fuel p0 p1 p2 m) d ih t0 v1 v2 M so _ g0 g1 g2 hs
theorem tie_le_learnAny_7  (d : Nat)  : ∀ (fuel : Nat) (t0 : Nat) (v1 : Option Nat) (v2 : Int32) (M : zM) (so : zM) (ls : List (Nat × zV)), zl_get ls 0 = some (.inr (.inr (2, (some t0)))) → zl_get ls 1 = some (.inr (.inr (3, v1))) → zl_get ls 2 = some (.inl v2) → le_learnAny_7  d fuel t0 v1 v2 M = some so → Ev zq_T (d + 1) 171 7 ls [] M (none, so) := by
  intro fuel
  induction fuel with
  | zero => intro t0 v1 v2 M so ls g0 g1 g2 hs; exact nomatch hs
  | succ fuel ih =>
    intro t0 v1 v2 M so ls g0 g1 g2 hs
    unfold le_learnAny_7 at hs
    refine e_ildn cd_171_7 g2 ?_
    refine e_const cd_171_8 ci_4 ?_
    refine k_if hs (fun c1 hs => ?_) (fun c1 hs => ?_)
    · refine e_icJ cd_171_9 rfl c1 ?_
      refine e_aldn cd_171_23 g0 ?_
      refine e_const cd_171_24 ci_0 ?_
      obtain ⟨q2, h3, hs⟩ := k_bind hs
      refine e_cvi cd_171_25 kd_171_121 rfl rfl rfl rfl rfl nl_173 rfl rfl (tie_le_startRow d t0 0 M _ h3) ?_
      refine e_aldn cd_171_28 g1 ?_
      refine k_opt hs (fun _ q => nomatch q) (fun k4 h5 hs => ?_)
      refine e_getR cd_171_29 fd_171_36 h5 ?_
      refine e_aKn cd_171_32 nl_171 rfl rfl ?_
      intro _ gn kp
      have u6 := kp 0 _ g0 rfl rfl
      have u7 := kp 1 _ g1 rfl rfl
      have u8 := gn
      exact tie_le_learnAny_33  d  zLF t0 v1 (zm_R q2 3 k4 5) q2 so _ u6 u7 u8 hs
    · refine e_icN cd_171_9 rfl c1 ?_
      refine e_aldn cd_171_12 g0 ?_
      refine e_ildn cd_171_13 g2 ?_
      obtain ⟨q9, h10, hs⟩ := k_bind hs
      refine e_cvi cd_171_14 kd_171_147 rfl rfl rfl rfl rfl nl_172 rfl rfl (tie_le_clearRow d t0 v2 M _ h10) ?_
      refine k_let hs (fun x11 e12 hs => ?_)
      refine e_incK cd_171_17 nl_171 rfl g2 ci_1 e12 ?_
      intro _ gn kp
      have u13 := kp 0 _ g0 rfl rfl
      have u14 := kp 1 _ g1 rfl rfl
      have u15 := gn
      refine e_goto cd_171_20 rfl ?_
      exact ih t0 v1 x11 q9 so _ u13 u14 u15 hs
theorem tieb_le_learnAny  (d : Nat)  (a0 : Nat) (a1 : Option Nat) (M : zM) (so : zM) (hs : le_learnAny_b  d a0 a1 M = some so) : Ev zq_T (d + 1) 171 0 (zl_args 0 [.inr (.inr (2, some a0)), .inr (.inr (3, a1))]) [] M (none, so) := by
  unfold le_learnAny_b at hs
  have g0 : zl_get (zl_args 0 [.inr (.inr (2, some a0)), .inr (.inr (3, a1))]) 0 = some (.inr (.inr (2, (some a0)))) := rfl
  have g1 : zl_get (zl_args 0 [.inr (.inr (2, some a0)), .inr (.inr (3, a1))]) 1 = some (.inr (.inr (3, a1))) := rfl
  refine e_aldn cd_171_0 g1 ?_
  refine e_const cd_171_1 ci_0 ?_
  refine k_opt hs (fun _ q => nomatch q) (fun k1 h2 hs => ?_)
  refine k_let hs (fun M3 e4 hs => ?_)
  refine e_putI cd_171_2 pd_171_144 h2 e4 ?_
  refine e_const cd_171_5 ci_1 ?_
  refine e_iKn cd_171_6 nl_171 rfl rfl ?_
  intro _ gn kp
  have u5 := kp 0 _ g0 rfl rfl
  have u6 := kp 1 _ g1 rfl rfl
  have u7 := gn
  exact tie_le_learnAny_7  d  zLF a0 a1 1 M3 so _ u5 u6 u7 hs
theorem tie_le_learnAny (d : Nat) (a0 : Nat) (a1 : Option Nat) (M : zM) (so : zM) (hs : le_learnAny d a0 a1 M = some so) : Ev zq_T d 171 0 (zl_args 0 [.inr (.inr (2, some a0)), .inr (.inr (3, a1))]) [] M (none, so) := by
  cases d with
  | zero => exact nomatch hs
  | succ d => exact tieb_le_learnAny d a0 a1 M so hs
theorem tie_le_learn_143 (r_le_learn : Nat → Option Nat → Option Nat → Int32 → zM → Option (zM)) (d : Nat) (hr_le_learn : ∀ a0 a1 a2 a3 M so, r_le_learn a0 a1 a2 a3 M = some so → Ev zq_T d 163 0 (zl_args 0 [.inr (.inr (2, some a0)), .inr (.inr (5, a1)), .inr (.inr (3, a2)), .inl a3]) [] M (none, so))  (M : zM) (so : zM) (ls : List (Nat × zV))  (hs : le_learn_143 r_le_learn d  M = some so) : Ev zq_T (d + 1) 163 143 ls [] M (none, so) := by
  unfold le_learn_143 at hs
  have e := Option.some.inj hs
  subst e
  exact e_rv cd_163_143 nr_163
set_option maxRecDepth 100000 in
theorem tie_le_learn_13 (r_le_learn : Nat → Option Nat → Option Nat → Int32 → zM → Option (zM)) (d : Nat) (hr_le_learn : ∀ a0 a1 a2 a3 M so, r_le_learn a0 a1 a2 a3 M = some so → Ev zq_T d 163 0 (zl_args 0 [.inr (.inr (2, some a0)), .inr (.inr (5, a1)), .inr (.inr (3, a2)), .inl a3]) [] M (none, so)) : ∀ (fuel : Nat) (t0 : Nat) (v1 : Option Nat) (v2 : Option Nat) (v3 : Int32) (v4 : Option Nat) (M : zM) (so : zM) (ls : List (Nat × zV)), zl_get ls 0 = some (.inr (.inr (2, (some t0)))) → zl_get ls 1 = some (.inr (.inr (5, v1))) → zl_get ls 2 = some (.inr (.inr (3, v2))) → zl_get ls 3 = some (.inl v3) → zl_get ls 4 = some (.inr (.inr (3, v4))) → le_learn_13 r_le_learn d fuel t0 v1 v2 v3 v4 M = some so → Ev zq_T (d + 1) 163 13 ls [] M (none, so) := by
  intro fuel
  induction fuel with
  | zero => intro t0 v1 v2 v3 v4 M so ls g0 g1 g2 g3 g4 hs; exact nomatch hs
  | succ fuel ih =>
    intro t0 v1 v2 v3 v4 M so ls g0 g1 g2 g3 g4 hs
    unfold le_learn_13 at hs
    refine e_ald cd_163_13 g4 ?_
    refine k_opt hs (fun h1 hs => ?_) (fun k2 h1 hs => ?_)
    · refine e_nu0 cd_163_15 rfl h1 ?_
      refine e_aldn cd_163_38 g0 ?_
      refine e_aldn cd_163_39 g2 ?_
      obtain ⟨q3, h4, hs⟩ := k_bind hs
      refine e_cvi cd_163_40 kd_163_74 rfl rfl rfl rfl rfl nl_164 rfl rfl (tie_le_gather d t0 v2 M _ h4) ?_
      refine e_aldn cd_163_43 g2 ?_
      refine k_opt hs (fun _ q => nomatch q) (fun k5 h6 hs => ?_)
      refine e_getI cd_163_44 (Or.inl fd_163_78) h6 ?_
      refine k_if hs (fun c7 hs => ?_) (fun c7 hs => ?_)
      · refine e_tab cd_163_47 (by decide) (fun f => (e_tb1 c7 rfl f)) ?_
        refine e_aldn cd_163_80 g0 ?_
        refine e_aldn cd_163_81 g2 ?_
        obtain ⟨q12, h13, hs⟩ := k_bind hs
        refine e_cvi cd_163_82 kd_163_81 rfl rfl rfl rfl rfl nl_165 rfl rfl (tie_le_learnLetter d t0 v2 q3 _ h13) ?_
        refine e_goto cd_163_85 rfl ?_
        exact tie_le_learn_143 r_le_learn d hr_le_learn  q12 so _  hs
      · refine k_if hs (fun c8 hs => ?_) (fun c8 hs => ?_)
        · refine e_tab cd_163_47 (by decide) (fun f => (e_tb0 c7 f (e_tb1 c8 rfl f))) ?_
          refine e_aldn cd_163_88 g0 ?_
          refine e_aldn cd_163_89 g2 ?_
          obtain ⟨q14, h15, hs⟩ := k_bind hs
          refine e_cvi cd_163_90 kd_163_84 rfl rfl rfl rfl rfl nl_166 rfl rfl (tie_le_learnNothing d t0 v2 q3 _ h15) ?_
          refine e_goto cd_163_93 rfl ?_
          exact tie_le_learn_143 r_le_learn d hr_le_learn  q14 so _  hs
        · refine k_if hs (fun c9 hs => ?_) (fun c9 hs => ?_)
          · refine e_tab cd_163_47 (by decide) (fun f => (e_tb0 c7 f (e_tb0 c8 f (e_tb1 c9 rfl f)))) ?_
            refine e_aldn cd_163_96 g0 ?_
            refine e_aldn cd_163_97 g2 ?_
            obtain ⟨q16, h17, hs⟩ := k_bind hs
            refine e_cvi cd_163_98 kd_163_87 rfl rfl rfl rfl rfl nl_167 rfl rfl (tie_le_learnRow d t0 v2 q3 _ h17) ?_
            refine e_goto cd_163_101 rfl ?_
            exact tie_le_learn_143 r_le_learn d hr_le_learn  q16 so _  hs
          · refine k_if hs (fun c10 hs => ?_) (fun c10 hs => ?_)
            · refine e_tab cd_163_47 (by decide) (fun f => (e_tb0 c7 f (e_tb0 c8 f (e_tb0 c9 f (e_tb1 c10 rfl f))))) ?_
              refine e_aldn cd_163_104 g0 ?_
              refine e_aldn cd_163_105 g2 ?_
              obtain ⟨q18, h19, hs⟩ := k_bind hs
              refine e_cvi cd_163_106 kd_163_90 rfl rfl rfl rfl rfl nl_169 rfl rfl (tie_le_learnChoice d t0 v2 q3 _ h19) ?_
              refine e_goto cd_163_109 rfl ?_
              exact tie_le_learn_143 r_le_learn d hr_le_learn  q18 so _  hs
            · refine k_if hs (fun c11 hs => ?_) (fun c11 hs => ?_)
              · refine e_tab cd_163_47 (by decide) (fun f => (e_tb0 c7 f (e_tb0 c8 f (e_tb0 c9 f (e_tb0 c10 f (e_tb1 c11 rfl f)))))) ?_
                refine e_aldn cd_163_112 g0 ?_
                refine e_aldn cd_163_113 g2 ?_
                refine e_aldn cd_163_114 g1 ?_
                refine k_opt hs (fun _ q => nomatch q) (fun k20 h21 hs => ?_)
                refine e_getR cd_163_115 fd_163_33 h21 ?_
                refine e_aldn cd_163_118 g2 ?_
                refine e_getI cd_163_119 (Or.inl fd_163_68) h6 ?_
                refine k_opt hs (fun _ q => nomatch q) (fun k22 h23 hs => ?_)
                obtain ⟨c24, hs⟩ := z_ite hs
                refine e_iald cd_163_122 rfl h23 c24 ?_
                refine e_aldn cd_163_123 g1 ?_
                refine e_getR cd_163_124 fd_163_93 h21 ?_
                refine e_aldn cd_163_127 g2 ?_
                refine e_getI cd_163_128 (Or.inl fd_163_68) h6 ?_
                refine k_opt hs (fun _ q => nomatch q) (fun k25 h26 hs => ?_)
                obtain ⟨c27, hs⟩ := z_ite hs
                refine e_iald cd_163_131 rfl h26 c27 ?_
                obtain ⟨q28, h29, hs⟩ := k_bind hs
                refine e_cvi cd_163_132 kd_163_96 rfl rfl rfl rfl rfl nl_170 rfl rfl (tie_le_learnCounted d t0 v2 (zm_I q3 20 k22 (zm_I q3 3 k5 1).toNatClampNeg) (zm_I q3 20 k25 (zm_I q3 3 k5 1).toNatClampNeg) q3 _ h29) ?_
                refine e_goto cd_163_135 rfl ?_
                exact tie_le_learn_143 r_le_learn d hr_le_learn  q28 so _  hs
              · refine e_tab cd_163_47 (by decide) (fun f => (e_tb0 c7 f (e_tb0 c8 f (e_tb0 c9 f (e_tb0 c10 f (e_tb0 c11 f (e_tbd rfl f))))))) ?_
                refine e_aldn cd_163_138 g0 ?_
                refine e_aldn cd_163_139 g2 ?_
                obtain ⟨q30, h31, hs⟩ := k_bind hs
                refine e_cvi cd_163_140 kd_163_100 rfl rfl rfl rfl rfl nl_171 rfl rfl (tie_le_learnAny d t0 v2 q3 _ h31) ?_
                exact tie_le_learn_143 r_le_learn d hr_le_learn  q30 so _  hs
    · refine e_nu1 cd_163_15 rfl h1 ?_
      refine e_aldn cd_163_18 g0 ?_
      refine e_aldn cd_163_19 g1 ?_
      refine e_ald cd_163_20 g4 ?_
      refine e_ildn cd_163_22 g3 ?_
      refine e_const cd_163_23 ci_1 ?_
      refine e_pure cd_163_24 rfl ?_
      obtain ⟨q32, h33, hs⟩ := k_bind hs
      refine e_cvi cd_163_25 kd_163_21 rfl rfl rfl rfl rfl nl_163 rfl rfl (hr_le_learn t0 v1 v4 (v3 + 1) M _ h33) ?_
      refine e_ald cd_163_28 g4 ?_
      refine e_getR cd_163_30 fd_163_71 h1 ?_
      refine e_aK cd_163_33 nl_163 rfl rfl ?_
      intro _ gn kp
      have u34 := kp 0 _ g0 rfl rfl
      have u35 := kp 1 _ g1 rfl rfl
      have u36 := kp 2 _ g2 rfl rfl
      have u37 := kp 3 _ g3 rfl rfl
      have u38 := gn
      refine e_goto cd_163_35 rfl ?_
      exact ih t0 v1 v2 v3 (zm_R q32 3 k2 7) q32 so _ u34 u35 u36 u37 u38 hs
theorem tieb_le_learn (r_le_learn : Nat → Option Nat → Option Nat → Int32 → zM → Option (zM)) (d : Nat) (hr_le_learn : ∀ a0 a1 a2 a3 M so, r_le_learn a0 a1 a2 a3 M = some so → Ev zq_T d 163 0 (zl_args 0 [.inr (.inr (2, some a0)), .inr (.inr (5, a1)), .inr (.inr (3, a2)), .inl a3]) [] M (none, so)) (a0 : Nat) (a1 : Option Nat) (a2 : Option Nat) (a3 : Int32) (M : zM) (so : zM) (hs : le_learn_b r_le_learn d a0 a1 a2 a3 M = some so) : Ev zq_T (d + 1) 163 0 (zl_args 0 [.inr (.inr (2, some a0)), .inr (.inr (5, a1)), .inr (.inr (3, a2)), .inl a3]) [] M (none, so) := by
  unfold le_learn_b at hs
  have g0 : zl_get (zl_args 0 [.inr (.inr (2, some a0)), .inr (.inr (5, a1)), .inr (.inr (3, a2)), .inl a3]) 0 = some (.inr (.inr (2, (some a0)))) := rfl
  have g1 : zl_get (zl_args 0 [.inr (.inr (2, some a0)), .inr (.inr (5, a1)), .inr (.inr (3, a2)), .inl a3]) 1 = some (.inr (.inr (5, a1))) := rfl
  have g2 : zl_get (zl_args 0 [.inr (.inr (2, some a0)), .inr (.inr (5, a1)), .inr (.inr (3, a2)), .inl a3]) 2 = some (.inr (.inr (3, a2))) := rfl
  have g3 : zl_get (zl_args 0 [.inr (.inr (2, some a0)), .inr (.inr (5, a1)), .inr (.inr (3, a2)), .inl a3]) 3 = some (.inl a3) := rfl
  refine e_ildn cd_163_0 g3 ?_
  refine e_bip cd_163_1 cb_40 ?_
  refine k_if hs (fun c1 hs => ?_) (fun c1 hs => ?_)
  · refine e_icJ cd_163_3 rfl c1 ?_
    refine e_aldn cd_163_7 g2 ?_
    refine k_opt hs (fun _ q => nomatch q) (fun k2 h3 hs => ?_)
    refine e_getR cd_163_8 fd_163_36 h3 ?_
    refine e_aK cd_163_11 nl_163 rfl rfl ?_
    intro _ gn kp
    have u4 := kp 0 _ g0 rfl rfl
    have u5 := kp 1 _ g1 rfl rfl
    have u6 := kp 2 _ g2 rfl rfl
    have u7 := kp 3 _ g3 rfl rfl
    have u8 := gn
    exact tie_le_learn_13 r_le_learn d hr_le_learn zLF a0 a1 a2 a3 (zm_R M 3 k2 5) M so _ u4 u5 u6 u7 u8 hs
  · refine e_icN cd_163_3 rfl c1 ?_
    have e := Option.some.inj hs
    subst e
    exact e_rv cd_163_6 nr_163
theorem tie_le_learn (d : Nat) : ∀ (a0 : Nat) (a1 : Option Nat) (a2 : Option Nat) (a3 : Int32) (M : zM) (so : zM), le_learn d a0 a1 a2 a3 M = some so → Ev zq_T d 163 0 (zl_args 0 [.inr (.inr (2, some a0)), .inr (.inr (5, a1)), .inr (.inr (3, a2)), .inl a3]) [] M (none, so) := by
  induction d with
  | zero => intro a0 a1 a2 a3 M so hs; exact nomatch hs
  | succ d ih => intro a0 a1 a2 a3 M so hs; exact tieb_le_learn _ d ih a0 a1 a2 a3 M so hs
theorem tie_nd_countAround_25  (d : Nat)  (v1 : Option Nat) (M : zM) (so : Option Nat × zM) (ls : List (Nat × zV)) (g1 : zl_get ls 1 = some (.inr (.inr (3, v1)))) (hs : nd_countAround_25  d v1 M = some so) : Ev zq_T d 180 25 ls [] M (some (.inr (.inr (3, so.1))), so.2) := by
  unfold nd_countAround_25 at hs
  refine e_aldn cd_180_25 g1 ?_
  have e := Option.some.inj hs
  subst e
  exact e_rr cd_180_26 nr_180
theorem tie_nd_countAround_5  (d : Nat)  : ∀ (fuel : Nat) (v1 : Option Nat) (M : zM) (so : Option Nat × zM) (ls : List (Nat × zV)), zl_get ls 1 = some (.inr (.inr (3, v1))) → nd_countAround_5  d fuel v1 M = some so → Ev zq_T d 180 5 ls [] M (some (.inr (.inr (3, so.1))), so.2) := by
  intro fuel
  induction fuel with
  | zero => intro v1 M so ls g1 hs; exact nomatch hs
  | succ fuel ih =>
    intro v1 M so ls g1 hs
    unfold nd_countAround_5 at hs
    refine e_aldn cd_180_5 g1 ?_
    refine k_opt hs (fun h1 hs => ?_) (fun k2 h1 hs => ?_)
    · refine e_nu0 cd_180_6 rfl h1 ?_
      exact tie_nd_countAround_25  d  v1 M so _ g1 hs
    · refine e_nu1 cd_180_6 rfl h1 ?_
      refine e_aldn cd_180_9 g1 ?_
      refine e_getI cd_180_10 (Or.inl fd_180_28) h1 ?_
      refine e_const cd_180_13 ci_4 ?_
      refine k_if hs (fun c3 hs => ?_) (fun c3 hs => ?_)
      · refine e_icJ cd_180_14 rfl c3 ?_
        exact tie_nd_countAround_25  d  v1 M so _ g1 hs
      · refine e_icN cd_180_14 rfl c3 ?_
        refine e_aldn cd_180_17 g1 ?_
        refine e_getR cd_180_18 fd_180_9 h1 ?_
        refine e_aKn cd_180_21 nl_180 rfl rfl ?_
        intro _ gn kp
        have u4 := gn
        refine e_goto cd_180_22 rfl ?_
        exact ih (zm_R M 3 k2 4) M so _ u4 hs
theorem tie_nd_countAround (d : Nat) (a0 : Nat) (M : zM) (so : Option Nat × zM) (hs : nd_countAround d a0 M = some so) : Ev zq_T d 180 0 (zl_args 0 [.inr (.inr (3, some a0))]) [] M (some (.inr (.inr (3, so.1))), so.2) := by
  unfold nd_countAround at hs
  have g0 : zl_get (zl_args 0 [.inr (.inr (3, some a0))]) 0 = some (.inr (.inr (3, (some a0)))) := rfl
  refine e_aldn cd_180_0 g0 ?_
  refine e_getR cd_180_1 fd_180_9 rfl ?_
  refine e_aKn cd_180_4 nl_180 rfl rfl ?_
  intro _ gn kp
  have u1 := gn
  exact tie_nd_countAround_5  d  zLF (zm_R M 3 a0 4) M so _ u1 hs
theorem tie_nd_numberOf_12  (d : Nat)  (s0 : Int32) (M : zM) (so : Int32 × zM) (ls : List (Nat × zV))  (hs : nd_numberOf_12  d s0 M = some so) : Ev zq_T d 181 12 ls [.inl s0] M (some (.inl so.1), so.2) := by
  unfold nd_numberOf_12 at hs
  have e := Option.some.inj hs
  subst e
  exact e_ri cd_181_12 nr_181
theorem tie_nd_numberOf (d : Nat) (a0 : Option Nat) (M : zM) (so : Int32 × zM) (hs : nd_numberOf d a0 M = some so) : Ev zq_T d 181 0 (zl_args 0 [.inr (.inr (3, a0))]) [] M (some (.inl so.1), so.2) := by
  unfold nd_numberOf at hs
  have g0 : zl_get (zl_args 0 [.inr (.inr (3, a0))]) 0 = some (.inr (.inr (3, a0))) := rfl
  refine e_aldn cd_181_0 g0 ?_
  refine k_opt hs (fun h1 hs => ?_) (fun k2 h1 hs => ?_)
  · refine e_nn0 cd_181_1 rfl h1 ?_
    refine e_const cd_181_4 ci_m1 ?_
    refine e_goto cd_181_5 rfl ?_
    exact tie_nd_numberOf_12  d  (-1) M so _  hs
  · refine e_nn1 cd_181_1 rfl h1 ?_
    refine e_aldn cd_181_8 g0 ?_
    refine e_getI cd_181_9 (Or.inl fd_181_32) h1 ?_
    exact tie_nd_numberOf_12  d  (zm_I M 3 k2 1) M so _  hs
theorem tie_le_learnRule_93 (kl20 : Option Nat → Int32 → zM → Option (zM)) (d : Nat) (hk20 : ∀ (v1 : Option Nat) (v2 : Int32) (M : zM) (so : zM) (ls : List (Nat × zV)), zl_get ls 1 = some (.inr (.inr (5, v1))) → zl_get ls 2 = some (.inl v2) → kl20 v1 v2 M = some so → Ev zq_T (d + 1) 162 20 ls [] M (none, so)) (v1 : Option Nat) (v2 : Int32) (s0 : Option Nat) (s1 : Int32) (s2 : Int32) (M : zM) (so : zM) (ls : List (Nat × zV)) (g1 : zl_get ls 1 = some (.inr (.inr (5, v1)))) (g2 : zl_get ls 2 = some (.inl v2)) (hs : le_learnRule_93 kl20 d v1 v2 s0 s1 s2 M = some so) : Ev zq_T (d + 1) 162 93 ls [.inl s2, .inl s1, .inr (.inr (20, s0))] M (none, so) := by
  unfold le_learnRule_93 at hs
  refine k_opt hs (fun _ q => nomatch q) (fun k1 h2 hs => ?_)
  obtain ⟨c3, hs⟩ := z_ite hs
  refine k_let hs (fun M4 e5 hs => ?_)
  refine e_iast cd_162_93 rfl h2 c3 e5 ?_
  refine k_let hs (fun x6 e7 hs => ?_)
  refine e_incK cd_162_94 nl_162 rfl g2 ci_1 e7 ?_
  intro _ gn kp
  have u8 := kp 1 _ g1 rfl rfl
  have u9 := gn
  refine e_goto cd_162_97 rfl ?_
  exact hk20 v1 x6 M4 so _ u8 u9 hs
theorem tie_le_learnRule_71 (kl20 : Option Nat → Int32 → zM → Option (zM)) (d : Nat) (hk20 : ∀ (v1 : Option Nat) (v2 : Int32) (M : zM) (so : zM) (ls : List (Nat × zV)), zl_get ls 1 = some (.inr (.inr (5, v1))) → zl_get ls 2 = some (.inl v2) → kl20 v1 v2 M = some so → Ev zq_T (d + 1) 162 20 ls [] M (none, so)) (v1 : Option Nat) (v2 : Int32) (s0 : Int32) (M : zM) (so : zM) (ls : List (Nat × zV)) (g1 : zl_get ls 1 = some (.inr (.inr (5, v1)))) (g2 : zl_get ls 2 = some (.inl v2)) (hs : le_learnRule_71 kl20 d v1 v2 s0 M = some so) : Ev zq_T (d + 1) 162 71 ls [.inl s0] M (none, so) := by
  unfold le_learnRule_71 at hs
  refine e_iK cd_162_71 nl_162 rfl rfl ?_
  intro _ gn kp
  have u1 := kp 1 _ g1 rfl rfl
  have u2 := kp 2 _ g2 rfl rfl
  have u3 := gn
  refine e_aldn cd_162_73 u1 ?_
  refine k_opt hs (fun _ q => nomatch q) (fun k4 h5 hs => ?_)
  refine e_getR cd_162_74 fd_162_45 h5 ?_
  refine e_ildn cd_162_77 u2 ?_
  refine e_ild cd_162_78 u3 ?_
  refine k_if hs (fun c6 hs => ?_) (fun c6 hs => ?_)
  · refine e_izJ cd_162_80 rfl c6 ?_
    refine e_aldn cd_162_87 u1 ?_
    refine e_getR cd_162_88 fd_162_33 h5 ?_
    refine e_ildn cd_162_91 u2 ?_
    refine k_opt hs (fun _ q => nomatch q) (fun k7 h8 hs => ?_)
    obtain ⟨c9, hs⟩ := z_ite hs
    refine e_iald cd_162_92 rfl h8 c9 ?_
    exact tie_le_learnRule_93 kl20 d hk20 v1 v2 (zm_R M 5 k4 11) v2 (zm_I M 20 k7 (v2 : Int32).toNatClampNeg) M so _ u1 u2 hs
  · refine e_izN cd_162_80 rfl c6 ?_
    refine e_const cd_162_83 ci_1 ?_
    refine e_goto cd_162_84 rfl ?_
    exact tie_le_learnRule_93 kl20 d hk20 v1 v2 (zm_R M 5 k4 11) v2 1 M so _ u1 u2 hs
theorem tie_le_learnRule_66 (kl20 : Option Nat → Int32 → zM → Option (zM)) (d : Nat) (hk20 : ∀ (v1 : Option Nat) (v2 : Int32) (M : zM) (so : zM) (ls : List (Nat × zV)), zl_get ls 1 = some (.inr (.inr (5, v1))) → zl_get ls 2 = some (.inl v2) → kl20 v1 v2 M = some so → Ev zq_T (d + 1) 162 20 ls [] M (none, so)) (v1 : Option Nat) (v2 : Int32) (M : zM) (so : zM) (ls : List (Nat × zV)) (g1 : zl_get ls 1 = some (.inr (.inr (5, v1)))) (g2 : zl_get ls 2 = some (.inl v2)) (hs : le_learnRule_66 kl20 d v1 v2 M = some so) : Ev zq_T (d + 1) 162 66 ls [] M (none, so) := by
  unfold le_learnRule_66 at hs
  refine e_const cd_162_66 ci_1 ?_
  refine e_goto cd_162_67 rfl ?_
  exact tie_le_learnRule_71 kl20 d hk20 v1 v2 1 M so _ g1 g2 hs
theorem tie_le_learnRule_70 (kl20 : Option Nat → Int32 → zM → Option (zM)) (d : Nat) (hk20 : ∀ (v1 : Option Nat) (v2 : Int32) (M : zM) (so : zM) (ls : List (Nat × zV)), zl_get ls 1 = some (.inr (.inr (5, v1))) → zl_get ls 2 = some (.inl v2) → kl20 v1 v2 M = some so → Ev zq_T (d + 1) 162 20 ls [] M (none, so)) (v1 : Option Nat) (v2 : Int32) (M : zM) (so : zM) (ls : List (Nat × zV)) (g1 : zl_get ls 1 = some (.inr (.inr (5, v1)))) (g2 : zl_get ls 2 = some (.inl v2)) (hs : le_learnRule_70 kl20 d v1 v2 M = some so) : Ev zq_T (d + 1) 162 70 ls [] M (none, so) := by
  unfold le_learnRule_70 at hs
  refine e_const cd_162_70 ci_0 ?_
  exact tie_le_learnRule_71 kl20 d hk20 v1 v2 0 M so _ g1 g2 hs
theorem tie_le_learnRule_185 (kl102 : Option Nat → Int32 → zM → Option (zM)) (d : Nat) (hk102 : ∀ (v1 : Option Nat) (v2 : Int32) (M : zM) (so : zM) (ls : List (Nat × zV)), zl_get ls 1 = some (.inr (.inr (5, v1))) → zl_get ls 2 = some (.inl v2) → kl102 v1 v2 M = some so → Ev zq_T (d + 1) 162 102 ls [] M (none, so)) (v1 : Option Nat) (v2 : Int32) (s0 : Option Nat) (s1 : Int32) (s2 : Int32) (M : zM) (so : zM) (ls : List (Nat × zV)) (g1 : zl_get ls 1 = some (.inr (.inr (5, v1)))) (g2 : zl_get ls 2 = some (.inl v2)) (hs : le_learnRule_185 kl102 d v1 v2 s0 s1 s2 M = some so) : Ev zq_T (d + 1) 162 185 ls [.inl s2, .inl s1, .inr (.inr (20, s0))] M (none, so) := by
  unfold le_learnRule_185 at hs
  refine k_opt hs (fun _ q => nomatch q) (fun k1 h2 hs => ?_)
  obtain ⟨c3, hs⟩ := z_ite hs
  refine k_let hs (fun M4 e5 hs => ?_)
  refine e_iast cd_162_185 rfl h2 c3 e5 ?_
  refine k_let hs (fun x6 e7 hs => ?_)
  refine e_incK cd_162_186 nl_162 rfl g2 ci_1 e7 ?_
  intro _ gn kp
  have u8 := kp 1 _ g1 rfl rfl
  have u9 := gn
  refine e_goto cd_162_189 rfl ?_
  exact hk102 v1 x6 M4 so _ u8 u9 hs
theorem tie_le_learnRule_163 (kl102 : Option Nat → Int32 → zM → Option (zM)) (d : Nat) (hk102 : ∀ (v1 : Option Nat) (v2 : Int32) (M : zM) (so : zM) (ls : List (Nat × zV)), zl_get ls 1 = some (.inr (.inr (5, v1))) → zl_get ls 2 = some (.inl v2) → kl102 v1 v2 M = some so → Ev zq_T (d + 1) 162 102 ls [] M (none, so)) (v1 : Option Nat) (v2 : Int32) (v3 : Option Nat) (v4 : Option Nat) (s0 : Option Nat) (s1 : Int32) (s2 : Option Nat) (M : zM) (so : zM) (ls : List (Nat × zV)) (g1 : zl_get ls 1 = some (.inr (.inr (5, v1)))) (g2 : zl_get ls 2 = some (.inl v2)) (g3 : zl_get ls 3 = some (.inr (.inr (3, v3)))) (g4 : zl_get ls 4 = some (.inr (.inr (3, v4)))) (hs : le_learnRule_163 kl102 d v1 v2 v3 v4 s0 s1 s2 M = some so) : Ev zq_T (d + 1) 162 163 ls [.inr (.inr (3, s2)), .inl s1, .inr (.inr (20, s0))] M (none, so) := by
  unfold le_learnRule_163 at hs
  obtain ⟨q1, h2, hs⟩ := k_bind hs
  refine e_cst cd_162_163 kd_162_61 rfl rfl rfl nl_181 rfl rfl (tie_nd_numberOf d s2 M _ h2) ?_
  refine k_opt hs (fun _ q => nomatch q) (fun k3 h4 hs => ?_)
  obtain ⟨c5, hs⟩ := z_ite hs
  refine k_let hs (fun M6 e7 hs => ?_)
  refine e_iast cd_162_166 rfl h4 c5 e7 ?_
  refine e_aldn cd_162_167 g1 ?_
  refine k_opt hs (fun _ q => nomatch q) (fun k8 h9 hs => ?_)
  refine e_getR cd_162_168 fd_162_65 h9 ?_
  refine e_ildn cd_162_171 g2 ?_
  refine e_ald cd_162_172 g4 ?_
  refine k_opt hs (fun h10 hs => ?_) (fun k11 h10 hs => ?_)
  · refine e_nn0 cd_162_174 rfl h10 ?_
    refine e_const cd_162_177 ci_m1 ?_
    refine e_goto cd_162_178 rfl ?_
    exact tie_le_learnRule_185 kl102 d hk102 v1 v2 (zm_R M6 5 k8 8) v2 (-1) M6 so _ g1 g2 hs
  · refine e_nn1 cd_162_174 rfl h10 ?_
    refine e_aldn cd_162_181 g3 ?_
    refine k_opt hs (fun _ q => nomatch q) (fun k12 h13 hs => ?_)
    refine e_getI cd_162_182 (Or.inl fd_162_68) h13 ?_
    exact tie_le_learnRule_185 kl102 d hk102 v1 v2 (zm_R M6 5 k8 8) v2 (zm_I M6 3 k12 1) M6 so _ g1 g2 hs
theorem tie_le_learnRule_145 (kl102 : Option Nat → Int32 → zM → Option (zM)) (d : Nat) (hk102 : ∀ (v1 : Option Nat) (v2 : Int32) (M : zM) (so : zM) (ls : List (Nat × zV)), zl_get ls 1 = some (.inr (.inr (5, v1))) → zl_get ls 2 = some (.inl v2) → kl102 v1 v2 M = some so → Ev zq_T (d + 1) 162 102 ls [] M (none, so)) (v1 : Option Nat) (v2 : Int32) (v3 : Option Nat) (s0 : Option Nat) (M : zM) (so : zM) (ls : List (Nat × zV)) (g1 : zl_get ls 1 = some (.inr (.inr (5, v1)))) (g2 : zl_get ls 2 = some (.inl v2)) (g3 : zl_get ls 3 = some (.inr (.inr (3, v3)))) (hs : le_learnRule_145 kl102 d v1 v2 v3 s0 M = some so) : Ev zq_T (d + 1) 162 145 ls [.inr (.inr (3, s0))] M (none, so) := by
  unfold le_learnRule_145 at hs
  refine e_aK cd_162_145 nl_162 rfl rfl ?_
  intro _ gn kp
  have u1 := kp 1 _ g1 rfl rfl
  have u2 := kp 2 _ g2 rfl rfl
  have u3 := kp 3 _ g3 rfl rfl
  have u4 := gn
  refine e_aldn cd_162_147 u1 ?_
  refine k_opt hs (fun _ q => nomatch q) (fun k5 h6 hs => ?_)
  refine e_getR cd_162_148 fd_162_58 h6 ?_
  refine e_ildn cd_162_151 u2 ?_
  refine e_ald cd_162_152 u4 ?_
  refine k_opt hs (fun h7 hs => ?_) (fun k8 h7 hs => ?_)
  · refine e_nn0 cd_162_154 rfl h7 ?_
    refine e_aldn cd_162_157 u3 ?_
    refine e_goto cd_162_158 rfl ?_
    exact tie_le_learnRule_163 kl102 d hk102 v1 v2 v3 s0 (zm_R M 5 k5 7) v2 v3 M so _ u1 u2 u3 u4 hs
  · refine e_nn1 cd_162_154 rfl h7 ?_
    refine e_ald cd_162_161 u4 ?_
    exact tie_le_learnRule_163 kl102 d hk102 v1 v2 v3 s0 (zm_R M 5 k5 7) v2 s0 M so _ u1 u2 u3 u4 hs
theorem tie_le_learnRule_132 (kl102 : Option Nat → Int32 → zM → Option (zM)) (d : Nat) (hk102 : ∀ (v1 : Option Nat) (v2 : Int32) (M : zM) (so : zM) (ls : List (Nat × zV)), zl_get ls 1 = some (.inr (.inr (5, v1))) → zl_get ls 2 = some (.inl v2) → kl102 v1 v2 M = some so → Ev zq_T (d + 1) 162 102 ls [] M (none, so)) (v1 : Option Nat) (v2 : Int32) (s0 : Option Nat) (M : zM) (so : zM) (ls : List (Nat × zV)) (g1 : zl_get ls 1 = some (.inr (.inr (5, v1)))) (g2 : zl_get ls 2 = some (.inl v2)) (hs : le_learnRule_132 kl102 d v1 v2 s0 M = some so) : Ev zq_T (d + 1) 162 132 ls [.inr (.inr (3, s0))] M (none, so) := by
  unfold le_learnRule_132 at hs
  refine e_aKn cd_162_132 nl_162 rfl rfl ?_
  intro _ gn kp
  have u1 := kp 1 _ g1 rfl rfl
  have u2 := kp 2 _ g2 rfl rfl
  have u3 := gn
  refine e_aldn cd_162_133 u3 ?_
  refine k_opt hs (fun h4 hs => ?_) (fun k5 h4 hs => ?_)
  · refine e_nn0 cd_162_134 rfl h4 ?_
    refine e_pure cd_162_137 rfl ?_
    refine e_goto cd_162_138 rfl ?_
    exact tie_le_learnRule_145 kl102 d hk102 v1 v2 s0 none M so _ u1 u2 u3 hs
  · refine e_nn1 cd_162_134 rfl h4 ?_
    refine e_aldn cd_162_141 u3 ?_
    obtain ⟨q6, h7, hs⟩ := k_bind hs
    refine e_cvi cd_162_142 kd_162_54 rfl rfl rfl h4 rfl nl_180 rfl rfl (tie_nd_countAround d k5 M _ h7) ?_
    exact tie_le_learnRule_145 kl102 d hk102 v1 v2 s0 q6.1 q6.2 so _ u1 u2 u3 hs
theorem tie_le_learnRule_102  (d : Nat)  : ∀ (fuel : Nat) (v1 : Option Nat) (v2 : Int32) (M : zM) (so : zM) (ls : List (Nat × zV)), zl_get ls 1 = some (.inr (.inr (5, v1))) → zl_get ls 2 = some (.inl v2) → le_learnRule_102  d fuel v1 v2 M = some so → Ev zq_T (d + 1) 162 102 ls [] M (none, so) := by
  intro fuel
  induction fuel with
  | zero => intro v1 v2 M so ls g1 g2 hs; exact nomatch hs
  | succ fuel ih =>
    intro v1 v2 M so ls g1 g2 hs
    unfold le_learnRule_102 at hs
    refine e_ildn cd_162_102 g2 ?_
    refine e_aldn cd_162_103 g1 ?_
    refine k_opt hs (fun _ q => nomatch q) (fun k1 h2 hs => ?_)
    refine e_getI cd_162_104 (Or.inl fd_162_48) h2 ?_
    refine k_if hs (fun c3 hs => ?_) (fun c3 hs => ?_)
    · refine e_icJ cd_162_107 rfl c3 ?_
      have e := Option.some.inj hs
      subst e
      exact e_rv cd_162_192 nr_162
    · refine e_icN cd_162_107 rfl c3 ?_
      refine e_aldn cd_162_110 g1 ?_
      refine e_getR cd_162_111 fd_162_51 h2 ?_
      refine e_ildn cd_162_114 g2 ?_
      refine k_opt hs (fun _ q => nomatch q) (fun k4 h5 hs => ?_)
      obtain ⟨c6, hs⟩ := z_ite hs
      refine e_aald cd_162_115 rfl h5 c6 ?_
      refine k_opt hs (fun h7 hs => ?_) (fun k8 h7 hs => ?_)
      · refine e_nn0 cd_162_116 rfl h7 ?_
        refine e_pure cd_162_119 rfl ?_
        refine e_goto cd_162_120 rfl ?_
        exact tie_le_learnRule_132 (fun p0 p1 m => le_learnRule_102  d fuel p0 p1 m) d ih v1 v2 none M so _ g1 g2 hs
      · refine e_nn1 cd_162_116 rfl h7 ?_
        refine e_aldn cd_162_123 g1 ?_
        refine e_getR cd_162_124 fd_162_51 h2 ?_
        refine e_ildn cd_162_127 g2 ?_
        refine k_opt hs (fun _ q => nomatch q) (fun k9 h10 hs => ?_)
        obtain ⟨c11, hs⟩ := z_ite hs
        refine e_aald cd_162_128 rfl h10 c11 ?_
        refine k_opt hs (fun _ q => nomatch q) (fun k12 h13 hs => ?_)
        obtain ⟨q14, h15, hs⟩ := k_bind hs
        refine e_cvi cd_162_129 kd_162_54 rfl rfl rfl h13 rfl nl_180 rfl rfl (tie_nd_countAround d k12 M _ h15) ?_
        exact tie_le_learnRule_132 (fun p0 p1 m => le_learnRule_102  d fuel p0 p1 m) d ih v1 v2 q14.1 q14.2 so _ g1 g2 hs
theorem tie_le_learnRule_20  (d : Nat)  : ∀ (fuel : Nat) (v1 : Option Nat) (v2 : Int32) (M : zM) (so : zM) (ls : List (Nat × zV)), zl_get ls 1 = some (.inr (.inr (5, v1))) → zl_get ls 2 = some (.inl v2) → le_learnRule_20  d fuel v1 v2 M = some so → Ev zq_T (d + 1) 162 20 ls [] M (none, so) := by
  intro fuel
  induction fuel with
  | zero => intro v1 v2 M so ls g1 g2 hs; exact nomatch hs
  | succ fuel ih =>
    intro v1 v2 M so ls g1 g2 hs
    unfold le_learnRule_20 at hs
    refine e_ildn cd_162_20 g2 ?_
    refine e_aldn cd_162_21 g1 ?_
    refine k_opt hs (fun _ q => nomatch q) (fun k1 h2 hs => ?_)
    refine e_getI cd_162_22 (Or.inl fd_162_25) h2 ?_
    refine k_if hs (fun c3 hs => ?_) (fun c3 hs => ?_)
    · refine e_icJ cd_162_25 rfl c3 ?_
      refine e_const cd_162_100 ci_0 ?_
      refine e_iKn cd_162_101 nl_162 rfl rfl ?_
      intro _ gn kp
      have u4 := kp 1 _ g1 rfl rfl
      have u5 := gn
      exact tie_le_learnRule_102  d  zLF v1 0 M so _ u4 u5 hs
    · refine e_icN cd_162_25 rfl c3 ?_
      refine e_aldn cd_162_28 g1 ?_
      refine e_getR cd_162_29 fd_162_29 h2 ?_
      refine e_ildn cd_162_32 g2 ?_
      refine k_opt hs (fun _ q => nomatch q) (fun k6 h7 hs => ?_)
      obtain ⟨c8, hs⟩ := z_ite hs
      refine e_aald cd_162_33 rfl h7 c8 ?_
      refine e_aKn cd_162_34 nl_162 rfl rfl ?_
      intro _ gn kp
      have u9 := kp 1 _ g1 rfl rfl
      have u10 := kp 2 _ g2 rfl rfl
      have u11 := gn
      refine e_aldn cd_162_35 u9 ?_
      refine e_getR cd_162_36 fd_162_33 h2 ?_
      refine e_ildn cd_162_39 u10 ?_
      refine k_opt hs (fun _ q => nomatch q) (fun k12 h13 hs => ?_)
      obtain ⟨c14, hs⟩ := z_ite hs
      refine e_iald cd_162_40 rfl h13 c14 ?_
      refine e_const cd_162_41 ci_1 ?_
      refine k_if hs (fun c15 hs => ?_) (fun c15 hs => ?_)
      · refine e_icJ cd_162_42 rfl c15 ?_
        exact tie_le_learnRule_66 (fun p0 p1 m => le_learnRule_20  d fuel p0 p1 m) d ih v1 v2 M so _ u9 u10 hs
      · refine e_icN cd_162_42 rfl c15 ?_
        refine e_aldn cd_162_45 u11 ?_
        refine k_opt hs (fun h16 hs => ?_) (fun k17 h16 hs => ?_)
        · refine e_nu0 cd_162_46 rfl h16 ?_
          exact tie_le_learnRule_70 (fun p0 p1 m => le_learnRule_20  d fuel p0 p1 m) d ih v1 v2 M so _ u9 u10 hs
        · refine e_nu1 cd_162_46 rfl h16 ?_
          refine e_aldn cd_162_49 u11 ?_
          refine e_getR cd_162_50 fd_162_36 h16 ?_
          refine k_opt hs (fun h18 hs => ?_) (fun k19 h18 hs => ?_)
          · refine e_nu0 cd_162_53 rfl h18 ?_
            exact tie_le_learnRule_70 (fun p0 p1 m => le_learnRule_20  d fuel p0 p1 m) d ih v1 v2 M so _ u9 u10 hs
          · refine e_nu1 cd_162_53 rfl h18 ?_
            refine e_aldn cd_162_56 u11 ?_
            refine e_getR cd_162_57 fd_162_36 h16 ?_
            refine k_opt hs (fun _ q => nomatch q) (fun k20 h21 hs => ?_)
            refine e_getI cd_162_60 (Or.inr fd_162_41) h21 ?_
            refine k_if hs (fun c22 hs => ?_) (fun c22 hs => ?_)
            · refine e_izJ cd_162_63 rfl c22 ?_
              exact tie_le_learnRule_70 (fun p0 p1 m => le_learnRule_20  d fuel p0 p1 m) d ih v1 v2 M so _ u9 u10 hs
            · refine e_izN cd_162_63 rfl c22 ?_
              exact tie_le_learnRule_66 (fun p0 p1 m => le_learnRule_20  d fuel p0 p1 m) d ih v1 v2 M so _ u9 u10 hs
theorem tieb_le_learnRule  (d : Nat)  (a0 : Nat) (a1 : Option Nat) (M : zM) (so : zM) (hs : le_learnRule_b  d a0 a1 M = some so) : Ev zq_T (d + 1) 162 0 (zl_args 0 [.inr (.inr (2, some a0)), .inr (.inr (5, a1))]) [] M (none, so) := by
  unfold le_learnRule_b at hs
  have g0 : zl_get (zl_args 0 [.inr (.inr (2, some a0)), .inr (.inr (5, a1))]) 0 = some (.inr (.inr (2, (some a0)))) := rfl
  have g1 : zl_get (zl_args 0 [.inr (.inr (2, some a0)), .inr (.inr (5, a1))]) 1 = some (.inr (.inr (5, a1))) := rfl
  refine e_aldn cd_162_0 g1 ?_
  refine k_opt hs (fun _ q => nomatch q) (fun k1 h2 hs => ?_)
  refine e_getR cd_162_1 fd_162_15 h2 ?_
  refine k_opt hs (fun h3 hs => ?_) (fun k4 h3 hs => ?_)
  · refine e_nn0 cd_162_4 rfl h3 ?_
    have e := Option.some.inj hs
    subst e
    exact e_rv cd_162_7 nr_162
  · refine e_nn1 cd_162_4 rfl h3 ?_
    refine e_aldn cd_162_8 g0 ?_
    refine e_aldn cd_162_9 g1 ?_
    refine e_aldn cd_162_10 g1 ?_
    refine e_getR cd_162_11 fd_162_15 h2 ?_
    refine e_const cd_162_14 ci_0 ?_
    obtain ⟨q5, h6, hs⟩ := k_bind hs
    refine e_cvi cd_162_15 kd_162_21 rfl rfl rfl rfl rfl nl_163 rfl rfl (tie_le_learn d a0 a1 (zm_R M 5 k1 1) 0 M _ h6) ?_
    refine e_const cd_162_18 ci_0 ?_
    refine e_iKn cd_162_19 nl_162 rfl rfl ?_
    intro _ gn kp
    have u7 := kp 1 _ g1 rfl rfl
    have u8 := gn
    exact tie_le_learnRule_20  d  zLF a1 0 q5 so _ u7 u8 hs
theorem tie_le_learnRule (d : Nat) (a0 : Nat) (a1 : Option Nat) (M : zM) (so : zM) (hs : le_learnRule d a0 a1 M = some so) : Ev zq_T d 162 0 (zl_args 0 [.inr (.inr (2, some a0)), .inr (.inr (5, a1))]) [] M (none, so) := by
  cases d with
  | zero => exact nomatch hs
  | succ d => exact tieb_le_learnRule d a0 a1 M so hs
theorem tie_nd_init (d : Nat) (a0 : Nat) (M : zM) (so : zM) (hs : nd_init d a0 M = some so) : Ev zq_T d 177 0 (zl_args 0 [.inr (.inr (3, some a0))]) [] M (none, so) := by
  unfold nd_init at hs
  have g0 : zl_get (zl_args 0 [.inr (.inr (3, some a0))]) 0 = some (.inr (.inr (3, (some a0)))) := rfl
  refine e_aldn cd_177_0 g0 ?_
  refine e_obj cd_177_1 kd_177_3 rfl rfl ?_
  refine e_aldn cd_177_4 g0 ?_
  refine e_pure cd_177_5 rfl ?_
  refine k_let hs (fun M1 e2 hs => ?_)
  refine e_putR cd_177_6 pd_177_9 rfl e2 ?_
  refine e_aldn cd_177_9 g0 ?_
  refine e_pure cd_177_10 rfl ?_
  refine k_let hs (fun M3 e4 hs => ?_)
  refine e_putR cd_177_11 pd_177_15 rfl e4 ?_
  refine e_aldn cd_177_14 g0 ?_
  refine e_pure cd_177_15 rfl ?_
  refine k_let hs (fun M5 e6 hs => ?_)
  refine e_putR cd_177_16 pd_177_18 rfl e6 ?_
  refine e_aldn cd_177_19 g0 ?_
  refine e_pure cd_177_20 rfl ?_
  refine k_let hs (fun M7 e8 hs => ?_)
  refine e_putR cd_177_21 pd_177_21 rfl e8 ?_
  refine e_aldn cd_177_24 g0 ?_
  refine e_const cd_177_25 ci_5 ?_
  refine k_let hs (fun M10 e11 hs => ?_)
  refine e_newa_int cd_177_26 rfl (by decide) e11 ?_
  refine k_let hs (fun M12 e13 hs => ?_)
  refine e_putR cd_177_28 pd_177_24 rfl e13 ?_
  have e := Option.some.inj hs
  subst e
  exact e_rv cd_177_31 nr_177
theorem tie_nd_startAnew (d : Nat) (a0 : Nat) (a1 : Int32) (a2 : Int32) (M : zM) (so : zM) (hs : nd_startAnew d a0 a1 a2 M = some so) : Ev zq_T d 178 0 (zl_args 0 [.inr (.inr (3, some a0)), .inl a1, .inl a2]) [] M (none, so) := by
  unfold nd_startAnew at hs
  have g0 : zl_get (zl_args 0 [.inr (.inr (3, some a0)), .inl a1, .inl a2]) 0 = some (.inr (.inr (3, (some a0)))) := rfl
  have g1 : zl_get (zl_args 0 [.inr (.inr (3, some a0)), .inl a1, .inl a2]) 1 = some (.inl a1) := rfl
  have g2 : zl_get (zl_args 0 [.inr (.inr (3, some a0)), .inl a1, .inl a2]) 2 = some (.inl a2) := rfl
  refine e_aldn cd_178_0 g0 ?_
  refine e_ildn cd_178_1 g1 ?_
  refine k_let hs (fun M1 e2 hs => ?_)
  refine e_putI cd_178_2 pd_178_28 rfl e2 ?_
  refine e_aldn cd_178_5 g0 ?_
  refine e_ildn cd_178_6 g2 ?_
  refine k_let hs (fun M3 e4 hs => ?_)
  refine e_putI cd_178_7 pd_178_32 rfl e4 ?_
  refine e_aldn cd_178_10 g0 ?_
  refine e_const cd_178_11 ci_0 ?_
  refine k_let hs (fun M5 e6 hs => ?_)
  refine e_putI cd_178_12 pd_178_35 rfl e6 ?_
  refine e_aldn cd_178_15 g0 ?_
  refine e_const cd_178_16 ci_0 ?_
  refine k_let hs (fun M7 e8 hs => ?_)
  refine e_putI cd_178_17 pd_178_38 rfl e8 ?_
  refine e_aldn cd_178_20 g0 ?_
  refine e_pure cd_178_21 rfl ?_
  refine k_let hs (fun M9 e10 hs => ?_)
  refine e_putR cd_178_22 pd_178_9 rfl e10 ?_
  refine e_aldn cd_178_25 g0 ?_
  refine e_pure cd_178_26 rfl ?_
  refine k_let hs (fun M11 e12 hs => ?_)
  refine e_putR cd_178_27 pd_178_15 rfl e12 ?_
  refine e_aldn cd_178_30 g0 ?_
  refine e_pure cd_178_31 rfl ?_
  refine k_let hs (fun M13 e14 hs => ?_)
  refine e_putR cd_178_32 pd_178_18 rfl e14 ?_
  refine e_aldn cd_178_35 g0 ?_
  refine e_pure cd_178_36 rfl ?_
  refine k_let hs (fun M15 e16 hs => ?_)
  refine e_putR cd_178_37 pd_178_21 rfl e16 ?_
  have e := Option.some.inj hs
  subst e
  exact e_rv cd_178_40 nr_178
theorem tie_nd_append_41  (d : Nat)  (t0 : Nat) (v1 : Option Nat) (M : zM) (so : zM) (ls : List (Nat × zV)) (g0 : zl_get ls 0 = some (.inr (.inr (3, (some t0))))) (g1 : zl_get ls 1 = some (.inr (.inr (3, v1)))) (hs : nd_append_41  d t0 v1 M = some so) : Ev zq_T d 179 41 ls [] M (none, so) := by
  unfold nd_append_41 at hs
  refine e_aldn cd_179_41 g0 ?_
  refine e_aldn cd_179_42 g1 ?_
  refine k_let hs (fun M1 e2 hs => ?_)
  refine e_putR cd_179_43 pd_179_18 rfl e2 ?_
  refine e_aldn cd_179_46 g0 ?_
  refine e_aldn cd_179_47 g0 ?_
  refine e_getI cd_179_48 (Or.inl fd_179_38) rfl ?_
  refine e_aldn cd_179_51 g1 ?_
  refine k_opt hs (fun _ q => nomatch q) (fun k3 h4 hs => ?_)
  refine e_getI cd_179_52 (Or.inl fd_179_38) h4 ?_
  refine e_max cd_179_55 kd_179_41 rfl ?_
  refine k_let hs (fun M5 e6 hs => ?_)
  refine e_putI cd_179_58 pd_179_38 rfl e6 ?_
  have e := Option.some.inj hs
  subst e
  exact e_rv cd_179_61 nr_179
theorem tie_nd_append (d : Nat) (a0 : Nat) (a1 : Option Nat) (M : zM) (so : zM) (hs : nd_append d a0 a1 M = some so) : Ev zq_T d 179 0 (zl_args 0 [.inr (.inr (3, some a0)), .inr (.inr (3, a1))]) [] M (none, so) := by
  unfold nd_append at hs
  have g0 : zl_get (zl_args 0 [.inr (.inr (3, some a0)), .inr (.inr (3, a1))]) 0 = some (.inr (.inr (3, (some a0)))) := rfl
  have g1 : zl_get (zl_args 0 [.inr (.inr (3, some a0)), .inr (.inr (3, a1))]) 1 = some (.inr (.inr (3, a1))) := rfl
  refine e_aldn cd_179_0 g1 ?_
  refine e_aldn cd_179_1 g0 ?_
  refine k_opt hs (fun _ q => nomatch q) (fun k1 h2 hs => ?_)
  refine k_let hs (fun M3 e4 hs => ?_)
  refine e_putR cd_179_2 pd_179_9 h2 e4 ?_
  refine e_aldn cd_179_5 g0 ?_
  refine e_getR cd_179_6 fd_179_18 rfl ?_
  refine k_opt hs (fun h5 hs => ?_) (fun k6 h5 hs => ?_)
  · refine e_nn0 cd_179_9 rfl h5 ?_
    refine e_aldn cd_179_12 g0 ?_
    refine e_aldn cd_179_13 g1 ?_
    refine k_let hs (fun M7 e8 hs => ?_)
    refine e_putR cd_179_14 pd_179_15 rfl e8 ?_
    refine e_goto cd_179_17 rfl ?_
    exact tie_nd_append_41  d  a0 a1 M7 so _ g0 g1 hs
  · refine e_nn1 cd_179_9 rfl h5 ?_
    refine e_aldn cd_179_20 g0 ?_
    refine e_getR cd_179_21 fd_179_18 rfl ?_
    refine e_aldn cd_179_24 g1 ?_
    refine k_opt hs (fun _ q => nomatch q) (fun k9 h10 hs => ?_)
    refine k_let hs (fun M11 e12 hs => ?_)
    refine e_putR cd_179_25 pd_179_21 h10 e12 ?_
    refine e_aldn cd_179_28 g1 ?_
    refine e_aldn cd_179_29 g0 ?_
    refine e_getR cd_179_30 fd_179_18 rfl ?_
    refine k_opt hs (fun _ q => nomatch q) (fun k13 h14 hs => ?_)
    refine e_getI cd_179_33 (Or.inl fd_179_35) h14 ?_
    refine e_const cd_179_36 ci_1 ?_
    refine e_pure cd_179_37 rfl ?_
    refine k_let hs (fun M15 e16 hs => ?_)
    refine e_putI cd_179_38 pd_179_35 h2 e16 ?_
    exact tie_nd_append_41  d  a0 a1 M15 so _ g0 g1 hs
theorem tie_re_init (d : Nat) (a0 : Nat) (M : zM) (so : zM) (hs : re_init d a0 M = some so) : Ev zq_T d 182 0 (zl_args 0 [.inr (.inr (4, some a0))]) [] M (none, so) := by
  unfold re_init at hs
  have g0 : zl_get (zl_args 0 [.inr (.inr (4, some a0))]) 0 = some (.inr (.inr (4, (some a0)))) := rfl
  refine e_aldn cd_182_0 g0 ?_
  refine e_obj cd_182_1 kd_182_3 rfl rfl ?_
  refine e_aldn cd_182_4 g0 ?_
  refine e_const cd_182_5 ci_m1 ?_
  refine k_let hs (fun M1 e2 hs => ?_)
  refine e_putI cd_182_6 pd_182_9 rfl e2 ?_
  refine e_aldn cd_182_9 g0 ?_
  refine e_bip cd_182_10 cb_24 ?_
  refine k_let hs (fun M4 e5 hs => ?_)
  refine e_newa_int cd_182_12 rfl (by decide) e5 ?_
  refine k_let hs (fun M6 e7 hs => ?_)
  refine e_putR cd_182_14 pd_182_15 rfl e7 ?_
  refine e_aldn cd_182_17 g0 ?_
  refine e_bip cd_182_18 cb_24 ?_
  refine k_let hs (fun M9 e10 hs => ?_)
  refine e_newa_int cd_182_20 rfl (by decide) e10 ?_
  refine k_let hs (fun M11 e12 hs => ?_)
  refine e_putR cd_182_22 pd_182_19 rfl e12 ?_
  refine e_aldn cd_182_25 g0 ?_
  refine e_bip cd_182_26 cb_24 ?_
  refine k_let hs (fun M14 e15 hs => ?_)
  refine e_newa_int cd_182_28 rfl (by decide) e15 ?_
  refine k_let hs (fun M16 e17 hs => ?_)
  refine e_putR cd_182_30 pd_182_22 rfl e17 ?_
  refine e_aldn cd_182_33 g0 ?_
  refine e_bip cd_182_34 cbb_8 ?_
  refine k_let hs (fun M19 e20 hs => ?_)
  refine e_newa_int cd_182_36 rfl (by decide) e20 ?_
  refine k_let hs (fun M21 e22 hs => ?_)
  refine e_putR cd_182_38 pd_182_25 rfl e22 ?_
  refine e_aldn cd_182_41 g0 ?_
  refine e_const cd_182_42 ci_4 ?_
  refine k_let hs (fun M24 e25 hs => ?_)
  refine e_newa_int cd_182_43 rfl (by decide) e25 ?_
  refine k_let hs (fun M26 e27 hs => ?_)
  refine e_putR cd_182_45 pd_182_28 rfl e27 ?_
  refine e_aldn cd_182_48 g0 ?_
  refine e_bip cd_182_49 cb_25 ?_
  refine k_let hs (fun M29 e30 hs => ?_)
  refine e_newa_int cd_182_51 rfl (by decide) e30 ?_
  refine k_let hs (fun M31 e32 hs => ?_)
  refine e_putR cd_182_53 pd_182_31 rfl e32 ?_
  have e := Option.some.inj hs
  subst e
  exact e_rv cd_182_56 nr_182
theorem tie_re_forget (d : Nat) (a0 : Nat) (M : zM) (so : zM) (hs : re_forget d a0 M = some so) : Ev zq_T d 183 0 (zl_args 0 [.inr (.inr (4, some a0))]) [] M (none, so) := by
  unfold re_forget at hs
  have g0 : zl_get (zl_args 0 [.inr (.inr (4, some a0))]) 0 = some (.inr (.inr (4, (some a0)))) := rfl
  refine e_aldn cd_183_0 g0 ?_
  refine e_const cd_183_1 ci_m1 ?_
  refine k_let hs (fun M1 e2 hs => ?_)
  refine e_putI cd_183_2 pd_183_9 rfl e2 ?_
  refine e_aldn cd_183_5 g0 ?_
  refine e_const cd_183_6 ci_0 ?_
  refine k_let hs (fun M3 e4 hs => ?_)
  refine e_putZ cd_183_7 pd_183_34 (Or.inl rfl) rfl e4 ?_
  have e := Option.some.inj hs
  subst e
  exact e_rv cd_183_10 nr_183
theorem tie_re_wrongByte_59  (d : Nat)  (v3 : Int32) (M : zM) (so : Int32 × zM) (ls : List (Nat × zV)) (g3 : zl_get ls 3 = some (.inl v3)) (hs : re_wrongByte_59  d v3 M = some so) : Ev zq_T d 184 59 ls [] M (some (.inl so.1), so.2) := by
  unfold re_wrongByte_59 at hs
  refine e_ildn cd_184_59 g3 ?_
  have e := Option.some.inj hs
  subst e
  exact e_ri cd_184_60 nr_184
theorem tie_re_wrongByte_53 (kl4 : Option Nat → Int32 → Int32 → Int32 → zM → Option (Int32 × zM)) (d : Nat) (hk4 : ∀ (v0 : Option Nat) (v1 : Int32) (v2 : Int32) (v3 : Int32) (M : zM) (so : Int32 × zM) (ls : List (Nat × zV)), zl_get ls 0 = some (.inr (.inr (20, v0))) → zl_get ls 1 = some (.inl v1) → zl_get ls 2 = some (.inl v2) → zl_get ls 3 = some (.inl v3) → kl4 v0 v1 v2 v3 M = some so → Ev zq_T d 184 4 ls [] M (some (.inl so.1), so.2)) (v0 : Option Nat) (v1 : Int32) (v2 : Int32) (v3 : Int32) (M : zM) (so : Int32 × zM) (ls : List (Nat × zV)) (g0 : zl_get ls 0 = some (.inr (.inr (20, v0)))) (g1 : zl_get ls 1 = some (.inl v1)) (g2 : zl_get ls 2 = some (.inl v2)) (g3 : zl_get ls 3 = some (.inl v3)) (hs : re_wrongByte_53 kl4 d v0 v1 v2 v3 M = some so) : Ev zq_T d 184 53 ls [] M (some (.inl so.1), so.2) := by
  unfold re_wrongByte_53 at hs
  refine e_ildn cd_184_53 g2 ?_
  refine e_bip cd_184_54 cb_24 ?_
  refine k_if hs (fun c1 hs => ?_) (fun c1 hs => ?_)
  · refine e_icJ cd_184_56 rfl c1 ?_
    refine k_let hs (fun x2 e3 hs => ?_)
    refine e_incK cd_184_61 nl_184 rfl g3 ci_1 e3 ?_
    intro _ gn kp
    have u4 := kp 0 _ g0 rfl rfl
    have u5 := kp 1 _ g1 rfl rfl
    have u6 := kp 2 _ g2 rfl rfl
    have u7 := gn
    refine e_goto cd_184_64 rfl ?_
    exact hk4 v0 v1 v2 x2 M so _ u4 u5 u6 u7 hs
  · refine e_icN cd_184_56 rfl c1 ?_
    exact tie_re_wrongByte_59  d  v3 M so _ g3 hs
theorem tie_re_wrongByte_40 (kl4 : Option Nat → Int32 → Int32 → Int32 → zM → Option (Int32 × zM)) (d : Nat) (hk4 : ∀ (v0 : Option Nat) (v1 : Int32) (v2 : Int32) (v3 : Int32) (M : zM) (so : Int32 × zM) (ls : List (Nat × zV)), zl_get ls 0 = some (.inr (.inr (20, v0))) → zl_get ls 1 = some (.inl v1) → zl_get ls 2 = some (.inl v2) → zl_get ls 3 = some (.inl v3) → kl4 v0 v1 v2 v3 M = some so → Ev zq_T d 184 4 ls [] M (some (.inl so.1), so.2)) (v0 : Option Nat) (v1 : Int32) (v2 : Int32) (v3 : Int32) (v4 : Int32) (M : zM) (so : Int32 × zM) (ls : List (Nat × zV)) (g0 : zl_get ls 0 = some (.inr (.inr (20, v0)))) (g1 : zl_get ls 1 = some (.inl v1)) (g2 : zl_get ls 2 = some (.inl v2)) (g3 : zl_get ls 3 = some (.inl v3)) (g4 : zl_get ls 4 = some (.inl v4)) (hs : re_wrongByte_40 kl4 d v0 v1 v2 v3 v4 M = some so) : Ev zq_T d 184 40 ls [] M (some (.inl so.1), so.2) := by
  unfold re_wrongByte_40 at hs
  refine e_ild cd_184_40 g4 ?_
  refine k_if hs (fun c1 hs => ?_) (fun c1 hs => ?_)
  · refine e_izN cd_184_42 rfl (fun q => q c1) ?_
    refine e_aldn cd_184_45 g0 ?_
    refine e_ildn cd_184_46 g3 ?_
    refine k_opt hs (fun _ q => nomatch q) (fun k2 h3 hs => ?_)
    obtain ⟨c4, hs⟩ := z_ite hs
    refine e_iald cd_184_47 rfl h3 c4 ?_
    refine e_bip cd_184_48 cb_32 ?_
    refine k_if hs (fun c5 hs => ?_) (fun c5 hs => ?_)
    · refine e_icN cd_184_50 rfl (fun q => q c5) ?_
      exact tie_re_wrongByte_53 kl4 d hk4 v0 v1 v2 v3 M so _ g0 g1 g2 g3 hs
    · refine e_icJ cd_184_50 rfl c5 ?_
      exact tie_re_wrongByte_59  d  v3 M so _ g3 hs
  · refine e_izJ cd_184_42 rfl c1 ?_
    exact tie_re_wrongByte_53 kl4 d hk4 v0 v1 v2 v3 M so _ g0 g1 g2 g3 hs
theorem tie_re_wrongByte_30 (kl4 : Option Nat → Int32 → Int32 → Int32 → zM → Option (Int32 × zM)) (d : Nat) (hk4 : ∀ (v0 : Option Nat) (v1 : Int32) (v2 : Int32) (v3 : Int32) (M : zM) (so : Int32 × zM) (ls : List (Nat × zV)), zl_get ls 0 = some (.inr (.inr (20, v0))) → zl_get ls 1 = some (.inl v1) → zl_get ls 2 = some (.inl v2) → zl_get ls 3 = some (.inl v3) → kl4 v0 v1 v2 v3 M = some so → Ev zq_T d 184 4 ls [] M (some (.inl so.1), so.2)) (v0 : Option Nat) (v1 : Int32) (v2 : Int32) (v3 : Int32) (s0 : Int32) (M : zM) (so : Int32 × zM) (ls : List (Nat × zV)) (g0 : zl_get ls 0 = some (.inr (.inr (20, v0)))) (g1 : zl_get ls 1 = some (.inl v1)) (g2 : zl_get ls 2 = some (.inl v2)) (g3 : zl_get ls 3 = some (.inl v3)) (hs : re_wrongByte_30 kl4 d v0 v1 v2 v3 s0 M = some so) : Ev zq_T d 184 30 ls [.inl s0] M (some (.inl so.1), so.2) := by
  unfold re_wrongByte_30 at hs
  refine e_iK cd_184_30 nl_184 rfl rfl ?_
  intro _ gn kp
  have u1 := kp 0 _ g0 rfl rfl
  have u2 := kp 1 _ g1 rfl rfl
  have u3 := kp 2 _ g2 rfl rfl
  have u4 := kp 3 _ g3 rfl rfl
  have u5 := gn
  refine e_ild cd_184_32 u5 ?_
  refine k_if hs (fun c6 hs => ?_) (fun c6 hs => ?_)
  · refine e_izJ cd_184_34 rfl c6 ?_
    exact tie_re_wrongByte_40 kl4 d hk4 v0 v1 v2 v3 s0 M so _ u1 u2 u3 u4 u5 hs
  · refine e_izN cd_184_34 rfl c6 ?_
    refine k_let hs (fun x7 e8 hs => ?_)
    refine e_incK cd_184_37 nl_184 rfl u3 ci_1 e8 ?_
    intro _ gn kp
    have u9 := kp 0 _ u1 rfl rfl
    have u10 := kp 1 _ u2 rfl rfl
    have u11 := kp 3 _ u4 rfl rfl
    have u12 := kp 4 _ u5 rfl rfl
    have u13 := gn
    exact tie_re_wrongByte_40 kl4 d hk4 v0 v1 x7 v3 s0 M so _ u9 u10 u13 u11 u12 hs
theorem tie_re_wrongByte_29 (kl4 : Option Nat → Int32 → Int32 → Int32 → zM → Option (Int32 × zM)) (d : Nat) (hk4 : ∀ (v0 : Option Nat) (v1 : Int32) (v2 : Int32) (v3 : Int32) (M : zM) (so : Int32 × zM) (ls : List (Nat × zV)), zl_get ls 0 = some (.inr (.inr (20, v0))) → zl_get ls 1 = some (.inl v1) → zl_get ls 2 = some (.inl v2) → zl_get ls 3 = some (.inl v3) → kl4 v0 v1 v2 v3 M = some so → Ev zq_T d 184 4 ls [] M (some (.inl so.1), so.2)) (v0 : Option Nat) (v1 : Int32) (v2 : Int32) (v3 : Int32) (M : zM) (so : Int32 × zM) (ls : List (Nat × zV)) (g0 : zl_get ls 0 = some (.inr (.inr (20, v0)))) (g1 : zl_get ls 1 = some (.inl v1)) (g2 : zl_get ls 2 = some (.inl v2)) (g3 : zl_get ls 3 = some (.inl v3)) (hs : re_wrongByte_29 kl4 d v0 v1 v2 v3 M = some so) : Ev zq_T d 184 29 ls [] M (some (.inl so.1), so.2) := by
  unfold re_wrongByte_29 at hs
  refine e_const cd_184_29 ci_0 ?_
  exact tie_re_wrongByte_30 kl4 d hk4 v0 v1 v2 v3 0 M so _ g0 g1 g2 g3 hs
theorem tie_re_wrongByte_4  (d : Nat)  : ∀ (fuel : Nat) (v0 : Option Nat) (v1 : Int32) (v2 : Int32) (v3 : Int32) (M : zM) (so : Int32 × zM) (ls : List (Nat × zV)), zl_get ls 0 = some (.inr (.inr (20, v0))) → zl_get ls 1 = some (.inl v1) → zl_get ls 2 = some (.inl v2) → zl_get ls 3 = some (.inl v3) → re_wrongByte_4  d fuel v0 v1 v2 v3 M = some so → Ev zq_T d 184 4 ls [] M (some (.inl so.1), so.2) := by
  intro fuel
  induction fuel with
  | zero => intro v0 v1 v2 v3 M so ls g0 g1 g2 g3 hs; exact nomatch hs
  | succ fuel ih =>
    intro v0 v1 v2 v3 M so ls g0 g1 g2 g3 hs
    unfold re_wrongByte_4 at hs
    refine e_ildn cd_184_4 g3 ?_
    refine e_ildn cd_184_5 g1 ?_
    refine k_if hs (fun c1 hs => ?_) (fun c1 hs => ?_)
    · refine e_icJ cd_184_6 rfl c1 ?_
      refine e_const cd_184_67 ci_m1 ?_
      have e := Option.some.inj hs
      subst e
      exact e_ri cd_184_68 nr_184
    · refine e_icN cd_184_6 rfl c1 ?_
      refine e_aldn cd_184_9 g0 ?_
      refine e_ildn cd_184_10 g3 ?_
      refine k_opt hs (fun _ q => nomatch q) (fun k2 h3 hs => ?_)
      obtain ⟨c4, hs⟩ := z_ite hs
      refine e_iald cd_184_11 rfl h3 c4 ?_
      refine e_bip cd_184_12 cb_97 ?_
      refine k_if hs (fun c5 hs => ?_) (fun c5 hs => ?_)
      · refine e_icJ cd_184_14 rfl c5 ?_
        exact tie_re_wrongByte_29 (fun p0 p1 p2 p3 m => re_wrongByte_4  d fuel p0 p1 p2 p3 m) d ih v0 v1 v2 v3 M so _ g0 g1 g2 g3 hs
      · refine e_icN cd_184_14 rfl c5 ?_
        refine e_aldn cd_184_17 g0 ?_
        refine e_ildn cd_184_18 g3 ?_
        obtain ⟨c6, hs⟩ := z_ite hs
        refine e_iald cd_184_19 rfl h3 c6 ?_
        refine e_bip cd_184_20 cb_122 ?_
        refine k_if hs (fun c7 hs => ?_) (fun c7 hs => ?_)
        · refine e_icJ cd_184_22 rfl c7 ?_
          exact tie_re_wrongByte_29 (fun p0 p1 p2 p3 m => re_wrongByte_4  d fuel p0 p1 p2 p3 m) d ih v0 v1 v2 v3 M so _ g0 g1 g2 g3 hs
        · refine e_icN cd_184_22 rfl c7 ?_
          refine e_const cd_184_25 ci_1 ?_
          refine e_goto cd_184_26 rfl ?_
          exact tie_re_wrongByte_30 (fun p0 p1 p2 p3 m => re_wrongByte_4  d fuel p0 p1 p2 p3 m) d ih v0 v1 v2 v3 1 M so _ g0 g1 g2 g3 hs
theorem tie_re_wrongByte (d : Nat) (a0 : Option Nat) (a1 : Int32) (M : zM) (so : Int32 × zM) (hs : re_wrongByte d a0 a1 M = some so) : Ev zq_T d 184 0 (zl_args 0 [.inr (.inr (20, a0)), .inl a1]) [] M (some (.inl so.1), so.2) := by
  unfold re_wrongByte at hs
  have g0 : zl_get (zl_args 0 [.inr (.inr (20, a0)), .inl a1]) 0 = some (.inr (.inr (20, a0))) := rfl
  have g1 : zl_get (zl_args 0 [.inr (.inr (20, a0)), .inl a1]) 1 = some (.inl a1) := rfl
  refine e_const cd_184_0 ci_0 ?_
  refine e_iKn cd_184_1 nl_184 rfl rfl ?_
  intro _ gn kp
  have u1 := kp 0 _ g0 rfl rfl
  have u2 := kp 1 _ g1 rfl rfl
  have u3 := gn
  refine e_const cd_184_2 ci_0 ?_
  refine e_iKn cd_184_3 nl_184 rfl rfl ?_
  intro _ gn kp
  have u4 := kp 0 _ u1 rfl rfl
  have u5 := kp 1 _ u2 rfl rfl
  have u6 := kp 2 _ u3 rfl rfl
  have u7 := gn
  exact tie_re_wrongByte_4  d  zLF a0 a1 0 0 M so _ u4 u5 u6 u7 hs
theorem tie_wk_timeOf_60  (d : Nat)  (s0 : Int32) (M : zM) (so : Int32 × zM) (ls : List (Nat × zV))  (hs : wk_timeOf_60  d s0 M = some so) : Ev zq_T d 252 60 ls [.inl s0] M (some (.inl so.1), so.2) := by
  unfold wk_timeOf_60 at hs
  have e := Option.some.inj hs
  subst e
  exact e_ri cd_252_60 nr_252
theorem tie_wk_timeOf_45  (d : Nat)  (t0 : Nat) (v1 : Int32) (s0 : Int32) (M : zM) (so : Int32 × zM) (ls : List (Nat × zV)) (g0 : zl_get ls 0 = some (.inr (.inr (8, (some t0))))) (g1 : zl_get ls 1 = some (.inl v1)) (hs : wk_timeOf_45  d t0 v1 s0 M = some so) : Ev zq_T d 252 45 ls [.inl s0] M (some (.inl so.1), so.2) := by
  unfold wk_timeOf_45 at hs
  refine e_iKn cd_252_45 nl_252 rfl rfl ?_
  intro _ gn kp
  have u1 := kp 0 _ g0 rfl rfl
  have u2 := kp 1 _ g1 rfl rfl
  have u3 := gn
  refine e_ildn cd_252_46 u3 ?_
  refine k_if hs (fun c4 hs => ?_) (fun c4 hs => ?_)
  · refine e_izJ cd_252_47 rfl c4 ?_
    refine e_const cd_252_59 ci_0 ?_
    exact tie_wk_timeOf_60  d  0 M so _  hs
  · refine e_izN cd_252_47 rfl c4 ?_
    refine e_aldn cd_252_50 u1 ?_
    refine e_getR cd_252_51 fd_252_25 rfl ?_
    refine e_ildn cd_252_54 u2 ?_
    refine k_opt hs (fun _ q => nomatch q) (fun k5 h6 hs => ?_)
    obtain ⟨c7, hs⟩ := z_ite hs
    refine e_iald cd_252_55 rfl h6 c7 ?_
    refine e_goto cd_252_56 rfl ?_
    exact tie_wk_timeOf_60  d  (zm_I M 20 k5 (v1 : Int32).toNatClampNeg) M so _  hs
theorem tie_wk_timeOf_40  (d : Nat)  (t0 : Nat) (v1 : Int32) (M : zM) (so : Int32 × zM) (ls : List (Nat × zV)) (g0 : zl_get ls 0 = some (.inr (.inr (8, (some t0))))) (g1 : zl_get ls 1 = some (.inl v1)) (hs : wk_timeOf_40  d t0 v1 M = some so) : Ev zq_T d 252 40 ls [] M (some (.inl so.1), so.2) := by
  unfold wk_timeOf_40 at hs
  refine e_const cd_252_40 ci_1 ?_
  refine e_goto cd_252_41 rfl ?_
  exact tie_wk_timeOf_45  d  t0 v1 1 M so _ g0 g1 hs
theorem tie_wk_timeOf_44  (d : Nat)  (t0 : Nat) (v1 : Int32) (M : zM) (so : Int32 × zM) (ls : List (Nat × zV)) (g0 : zl_get ls 0 = some (.inr (.inr (8, (some t0))))) (g1 : zl_get ls 1 = some (.inl v1)) (hs : wk_timeOf_44  d t0 v1 M = some so) : Ev zq_T d 252 44 ls [] M (some (.inl so.1), so.2) := by
  unfold wk_timeOf_44 at hs
  refine e_const cd_252_44 ci_0 ?_
  exact tie_wk_timeOf_45  d  t0 v1 0 M so _ g0 g1 hs
theorem tie_wk_timeOf (d : Nat) (a0 : Nat) (a1 : Int32) (M : zM) (so : Int32 × zM) (hs : wk_timeOf d a0 a1 M = some so) : Ev zq_T d 252 0 (zl_args 0 [.inr (.inr (8, some a0)), .inl a1]) [] M (some (.inl so.1), so.2) := by
  unfold wk_timeOf at hs
  have g0 : zl_get (zl_args 0 [.inr (.inr (8, some a0)), .inl a1]) 0 = some (.inr (.inr (8, (some a0)))) := rfl
  have g1 : zl_get (zl_args 0 [.inr (.inr (8, some a0)), .inl a1]) 1 = some (.inl a1) := rfl
  refine e_aldn cd_252_0 g0 ?_
  refine e_getI cd_252_1 (Or.inl fd_252_18) rfl ?_
  refine e_const cd_252_4 ci_m1 ?_
  refine k_if hs (fun c1 hs => ?_) (fun c1 hs => ?_)
  · refine e_icJ cd_252_5 rfl c1 ?_
    exact tie_wk_timeOf_44  d  a0 a1 M so _ g0 g1 hs
  · refine e_icN cd_252_5 rfl c1 ?_
    refine e_aldn cd_252_8 g0 ?_
    refine e_getR cd_252_9 fd_252_12 rfl ?_
    refine k_opt hs (fun _ q => nomatch q) (fun k2 h3 hs => ?_)
    refine e_getR cd_252_12 fd_252_116 h3 ?_
    refine e_aldn cd_252_15 g0 ?_
    refine e_getI cd_252_16 (Or.inl fd_252_18) rfl ?_
    refine k_opt hs (fun _ q => nomatch q) (fun k4 h5 hs => ?_)
    obtain ⟨c6, hs⟩ := z_ite hs
    refine e_iald cd_252_19 rfl h5 c6 ?_
    refine e_ildn cd_252_20 g1 ?_
    refine k_if hs (fun c7 hs => ?_) (fun c7 hs => ?_)
    · refine e_icJ cd_252_21 rfl c7 ?_
      exact tie_wk_timeOf_40  d  a0 a1 M so _ g0 g1 hs
    · refine e_icN cd_252_21 rfl c7 ?_
      refine e_aldn cd_252_24 g0 ?_
      refine e_getR cd_252_25 fd_252_12 rfl ?_
      refine k_opt hs (fun _ q => nomatch q) (fun k8 h9 hs => ?_)
      refine e_getR cd_252_28 fd_252_119 h9 ?_
      refine e_aldn cd_252_31 g0 ?_
      refine e_getI cd_252_32 (Or.inl fd_252_18) rfl ?_
      refine k_opt hs (fun _ q => nomatch q) (fun k10 h11 hs => ?_)
      obtain ⟨c12, hs⟩ := z_ite hs
      refine e_iald cd_252_35 rfl h11 c12 ?_
      refine e_ildn cd_252_36 g1 ?_
      refine k_if hs (fun c13 hs => ?_) (fun c13 hs => ?_)
      · refine e_icN cd_252_37 rfl (fun q => q c13) ?_
        exact tie_wk_timeOf_40  d  a0 a1 M so _ g0 g1 hs
      · refine e_icJ cd_252_37 rfl c13 ?_
        exact tie_wk_timeOf_44  d  a0 a1 M so _ g0 g1 hs
theorem tie_re_readTape_58 (kl8 : Nat → Option Nat → Int32 → Option Nat → Option Nat → Int32 → zM → Option (zM)) (d : Nat) (hk8 : ∀ (t0 : Nat) (v1 : Option Nat) (v2 : Int32) (v3 : Option Nat) (v4 : Option Nat) (v5 : Int32) (M : zM) (so : zM) (ls : List (Nat × zV)), zl_get ls 0 = some (.inr (.inr (4, (some t0)))) → zl_get ls 1 = some (.inr (.inr (20, v1))) → zl_get ls 2 = some (.inl v2) → zl_get ls 3 = some (.inr (.inr (5, v3))) → zl_get ls 4 = some (.inr (.inr (8, v4))) → zl_get ls 5 = some (.inl v5) → kl8 t0 v1 v2 v3 v4 v5 M = some so → Ev zq_T (d + 1) 185 8 ls [] M (none, so)) (t0 : Nat) (v1 : Option Nat) (v2 : Int32) (v3 : Option Nat) (v4 : Option Nat) (v5 : Int32) (M : zM) (so : zM) (ls : List (Nat × zV)) (g0 : zl_get ls 0 = some (.inr (.inr (4, (some t0))))) (g1 : zl_get ls 1 = some (.inr (.inr (20, v1)))) (g2 : zl_get ls 2 = some (.inl v2)) (g3 : zl_get ls 3 = some (.inr (.inr (5, v3)))) (g4 : zl_get ls 4 = some (.inr (.inr (8, v4)))) (g5 : zl_get ls 5 = some (.inl v5)) (hs : re_readTape_58 kl8 d t0 v1 v2 v3 v4 v5 M = some so) : Ev zq_T (d + 1) 185 58 ls [] M (none, so) := by
  unfold re_readTape_58 at hs
  refine k_let hs (fun x1 e2 hs => ?_)
  refine e_incK cd_185_58 nl_185 rfl g5 ci_1 e2 ?_
  intro _ gn kp
  have u3 := kp 0 _ g0 rfl rfl
  have u4 := kp 1 _ g1 rfl rfl
  have u5 := kp 2 _ g2 rfl rfl
  have u6 := kp 3 _ g3 rfl rfl
  have u7 := kp 4 _ g4 rfl rfl
  have u8 := gn
  refine e_goto cd_185_61 rfl ?_
  exact hk8 t0 v1 v2 v3 v4 x1 M so _ u3 u4 u5 u6 u7 u8 hs
theorem tie_re_readTape_213  (d : Nat)  : ∀ (fuel : Nat) (t0 : Nat) (v4 : Option Nat) (v5 : Int32) (M : zM) (so : zM) (ls : List (Nat × zV)), zl_get ls 0 = some (.inr (.inr (4, (some t0)))) → zl_get ls 4 = some (.inr (.inr (8, v4))) → zl_get ls 5 = some (.inl v5) → re_readTape_213  d fuel t0 v4 v5 M = some so → Ev zq_T (d + 1) 185 213 ls [] M (none, so) := by
  intro fuel
  induction fuel with
  | zero => intro t0 v4 v5 M so ls g0 g4 g5 hs; exact nomatch hs
  | succ fuel ih =>
    intro t0 v4 v5 M so ls g0 g4 g5 hs
    unfold re_readTape_213 at hs
    refine e_ild cd_185_213 g5 ?_
    refine e_aldn cd_185_215 g0 ?_
    refine e_getI cd_185_216 (Or.inl fd_185_86) rfl ?_
    refine k_if hs (fun c1 hs => ?_) (fun c1 hs => ?_)
    · refine e_icJ cd_185_219 rfl c1 ?_
      refine e_aldn cd_185_242 g0 ?_
      refine e_const cd_185_243 ci_0 ?_
      refine k_let hs (fun M2 e3 hs => ?_)
      refine e_putZ cd_185_244 pd_185_34 (Or.inl rfl) rfl e3 ?_
      have e := Option.some.inj hs
      subst e
      exact e_rv cd_185_247 nr_185
    · refine e_icN cd_185_219 rfl c1 ?_
      refine e_aldn cd_185_222 g0 ?_
      refine e_getR cd_185_223 fd_185_28 rfl ?_
      refine e_ild cd_185_226 g5 ?_
      refine e_ald cd_185_228 g4 ?_
      refine e_ild cd_185_230 g5 ?_
      refine k_opt hs (fun _ q => nomatch q) (fun k4 h5 hs => ?_)
      obtain ⟨q6, h7, hs⟩ := k_bind hs
      refine e_cvi cd_185_232 kd_185_87 rfl rfl rfl h5 rfl nl_253 rfl rfl (tie_wk_begunOf d k4 v5 M _ h7) ?_
      refine k_opt hs (fun _ q => nomatch q) (fun k8 h9 hs => ?_)
      obtain ⟨c10, hs⟩ := z_ite hs
      refine k_let hs (fun M11 e12 hs => ?_)
      refine e_iast cd_185_235 rfl h9 c10 e12 ?_
      refine k_let hs (fun x13 e14 hs => ?_)
      refine e_incK cd_185_236 nl_185 rfl g5 ci_1 e14 ?_
      intro _ gn kp
      have u15 := kp 0 _ g0 rfl rfl
      have u16 := kp 4 _ g4 rfl rfl
      have u17 := gn
      refine e_goto cd_185_239 rfl ?_
      exact ih t0 v4 x13 M11 so _ u15 u16 u17 hs
theorem tie_re_readTape_173  (d : Nat)  : ∀ (fuel : Nat) (t0 : Nat) (v3 : Option Nat) (v4 : Option Nat) (v5 : Int32) (M : zM) (so : zM) (ls : List (Nat × zV)), zl_get ls 0 = some (.inr (.inr (4, (some t0)))) → zl_get ls 3 = some (.inr (.inr (5, v3))) → zl_get ls 4 = some (.inr (.inr (8, v4))) → zl_get ls 5 = some (.inl v5) → re_readTape_173  d fuel t0 v3 v4 v5 M = some so → Ev zq_T (d + 1) 185 173 ls [] M (none, so) := by
  intro fuel
  induction fuel with
  | zero => intro t0 v3 v4 v5 M so ls g0 g3 g4 g5 hs; exact nomatch hs
  | succ fuel ih =>
    intro t0 v3 v4 v5 M so ls g0 g3 g4 g5 hs
    unfold re_readTape_173 at hs
    refine e_ild cd_185_173 g5 ?_
    refine e_aldn cd_185_175 g0 ?_
    refine e_getI cd_185_176 (Or.inl fd_185_79) rfl ?_
    refine k_if hs (fun c1 hs => ?_) (fun c1 hs => ?_)
    · refine e_icJ cd_185_179 rfl c1 ?_
      refine e_aldn cd_185_202 g0 ?_
      refine e_aldn cd_185_203 g3 ?_
      refine k_opt hs (fun _ q => nomatch q) (fun k2 h3 hs => ?_)
      refine e_getI cd_185_204 (Or.inl fd_185_83) h3 ?_
      refine k_let hs (fun M4 e5 hs => ?_)
      refine e_putI cd_185_207 pd_185_86 rfl e5 ?_
      refine e_const cd_185_210 ci_0 ?_
      refine e_iK cd_185_211 nl_185 rfl rfl ?_
      intro _ gn kp
      have u6 := kp 0 _ g0 rfl rfl
      have u7 := kp 4 _ g4 rfl rfl
      have u8 := gn
      exact tie_re_readTape_213  d  zLF t0 v4 0 M4 so _ u6 u7 u8 hs
    · refine e_icN cd_185_179 rfl c1 ?_
      refine e_aldn cd_185_182 g0 ?_
      refine e_getR cd_185_183 fd_185_25 rfl ?_
      refine e_ild cd_185_186 g5 ?_
      refine e_ald cd_185_188 g4 ?_
      refine e_ild cd_185_190 g5 ?_
      refine k_opt hs (fun _ q => nomatch q) (fun k9 h10 hs => ?_)
      obtain ⟨q11, h12, hs⟩ := k_bind hs
      refine e_cvi cd_185_192 kd_185_80 rfl rfl rfl h10 rfl nl_252 rfl rfl (tie_wk_timeOf d k9 v5 M _ h12) ?_
      refine k_opt hs (fun _ q => nomatch q) (fun k13 h14 hs => ?_)
      obtain ⟨c15, hs⟩ := z_ite hs
      refine k_let hs (fun M16 e17 hs => ?_)
      refine e_iast cd_185_195 rfl h14 c15 e17 ?_
      refine k_let hs (fun x18 e19 hs => ?_)
      refine e_incK cd_185_196 nl_185 rfl g5 ci_1 e19 ?_
      intro _ gn kp
      have u20 := kp 0 _ g0 rfl rfl
      have u21 := kp 3 _ g3 rfl rfl
      have u22 := kp 4 _ g4 rfl rfl
      have u23 := gn
      refine e_goto cd_185_199 rfl ?_
      exact ih t0 v3 v4 x18 M16 so _ u20 u21 u22 u23 hs
theorem tie_re_readTape_144  (d : Nat)  (t0 : Nat) (v3 : Option Nat) (v4 : Option Nat) (M : zM) (so : zM) (ls : List (Nat × zV)) (g0 : zl_get ls 0 = some (.inr (.inr (4, (some t0))))) (g3 : zl_get ls 3 = some (.inr (.inr (5, v3)))) (g4 : zl_get ls 4 = some (.inr (.inr (8, v4)))) (hs : re_readTape_144  d t0 v3 v4 M = some so) : Ev zq_T (d + 1) 185 144 ls [] M (none, so) := by
  unfold re_readTape_144 at hs
  refine e_aldn cd_185_144 g0 ?_
  refine e_ald cd_185_145 g4 ?_
  refine k_opt hs (fun _ q => nomatch q) (fun k1 h2 hs => ?_)
  obtain ⟨q3, h4, hs⟩ := k_bind hs
  refine e_cvi cd_185_147 kd_185_60 rfl rfl rfl h2 rfl nl_251 rfl rfl (tie_wk_couldCome d k1 M _ h4) ?_
  refine k_let hs (fun M5 e6 hs => ?_)
  refine e_putI cd_185_150 pd_185_64 rfl e6 ?_
  refine e_aldn cd_185_153 g0 ?_
  refine e_ald cd_185_154 g4 ?_
  obtain ⟨q7, h8, hs⟩ := k_bind hs
  refine e_cvi cd_185_156 kd_185_67 rfl rfl rfl h2 rfl nl_250 rfl rfl (tie_wk_canEnd d k1 M5 _ h8) ?_
  obtain ⟨c9, hs⟩ := z_ite hs
  refine k_let hs (fun M10 e11 hs => ?_)
  refine e_putZ cd_185_159 pd_185_71 c9 rfl e11 ?_
  refine e_aldn cd_185_162 g0 ?_
  refine e_aldn cd_185_163 g3 ?_
  refine k_opt hs (fun _ q => nomatch q) (fun k12 h13 hs => ?_)
  refine e_getI cd_185_164 (Or.inl fd_185_74) h13 ?_
  refine k_let hs (fun M14 e15 hs => ?_)
  refine e_putI cd_185_167 pd_185_79 rfl e15 ?_
  refine e_const cd_185_170 ci_0 ?_
  refine e_iK cd_185_171 nl_185 rfl rfl ?_
  intro _ gn kp
  have u16 := kp 0 _ g0 rfl rfl
  have u17 := kp 3 _ g3 rfl rfl
  have u18 := kp 4 _ g4 rfl rfl
  have u19 := gn
  exact tie_re_readTape_173  d  zLF t0 v3 v4 0 M14 so _ u16 u17 u18 u19 hs
theorem tie_re_readTape_75  (d : Nat)  : ∀ (fuel : Nat) (t0 : Nat) (v3 : Option Nat) (v4 : Option Nat) (M : zM) (so : zM) (ls : List (Nat × zV)), zl_get ls 0 = some (.inr (.inr (4, (some t0)))) → zl_get ls 3 = some (.inr (.inr (5, v3))) → zl_get ls 4 = some (.inr (.inr (8, v4))) → re_readTape_75  d fuel t0 v3 v4 M = some so → Ev zq_T (d + 1) 185 75 ls [] M (none, so) := by
  intro fuel
  induction fuel with
  | zero => intro t0 v3 v4 M so ls g0 g3 g4 hs; exact nomatch hs
  | succ fuel ih =>
    intro t0 v3 v4 M so ls g0 g3 g4 hs
    unfold re_readTape_75 at hs
    refine e_aldn cd_185_75 g0 ?_
    refine e_getI cd_185_76 (Or.inl fd_185_47) rfl ?_
    refine e_aldn cd_185_79 g0 ?_
    refine e_getI cd_185_80 (Or.inl fd_185_38) rfl ?_
    refine k_if hs (fun c1 hs => ?_) (fun c1 hs => ?_)
    · refine e_icJ cd_185_83 rfl c1 ?_
      exact tie_re_readTape_144  d  t0 v3 v4 M so _ g0 g3 g4 hs
    · refine e_icN cd_185_83 rfl c1 ?_
      refine e_ald cd_185_86 g4 ?_
      refine e_aldn cd_185_88 g0 ?_
      refine e_getR cd_185_89 fd_185_15 rfl ?_
      refine e_aldn cd_185_92 g0 ?_
      refine e_getI cd_185_93 (Or.inl fd_185_47) rfl ?_
      refine k_opt hs (fun _ q => nomatch q) (fun k2 h3 hs => ?_)
      obtain ⟨c4, hs⟩ := z_ite hs
      refine e_iald cd_185_96 rfl h3 c4 ?_
      refine k_opt hs (fun _ q => nomatch q) (fun k5 h6 hs => ?_)
      obtain ⟨q7, h8, hs⟩ := k_bind hs
      refine e_cvi cd_185_97 kd_185_50 rfl rfl rfl h6 rfl nl_248 rfl rfl (tie_wk_step d k5 (zm_I M 20 k2 (zm_I M 4 t0 2).toNatClampNeg) M _ h8) ?_
      refine k_if hs (fun c9 hs => ?_) (fun c9 hs => ?_)
      · refine e_izJ cd_185_100 rfl c9 ?_
        exact tie_re_readTape_144  d  t0 v3 v4 q7.2 so _ g0 g3 g4 hs
      · refine e_izN cd_185_100 rfl c9 ?_
        refine e_aldn cd_185_103 g0 ?_
        refine e_getR cd_185_104 fd_185_19 rfl ?_
        refine e_aldn cd_185_107 g0 ?_
        refine e_getI cd_185_108 (Or.inl fd_185_47) rfl ?_
        refine e_ald cd_185_111 g4 ?_
        refine e_getI cd_185_113 (Or.inl fd_185_54) h6 ?_
        refine k_opt hs (fun _ q => nomatch q) (fun k10 h11 hs => ?_)
        obtain ⟨c12, hs⟩ := z_ite hs
        refine k_let hs (fun M13 e14 hs => ?_)
        refine e_iast cd_185_116 rfl h11 c12 e14 ?_
        refine e_aldn cd_185_117 g0 ?_
        refine e_getR cd_185_118 fd_185_22 rfl ?_
        refine e_aldn cd_185_121 g0 ?_
        refine e_getI cd_185_122 (Or.inl fd_185_47) rfl ?_
        refine e_ald cd_185_125 g4 ?_
        refine e_getI cd_185_127 (Or.inl fd_185_57) h6 ?_
        refine k_opt hs (fun _ q => nomatch q) (fun k15 h16 hs => ?_)
        obtain ⟨c17, hs⟩ := z_ite hs
        refine k_let hs (fun M18 e19 hs => ?_)
        refine e_iast cd_185_130 rfl h16 c17 e19 ?_
        refine e_aldn cd_185_131 g0 ?_
        refine e_pure cd_185_132 rfl ?_
        refine e_getI cd_185_133 (Or.inl fd_185_47) rfl ?_
        refine e_const cd_185_136 ci_1 ?_
        refine e_pure cd_185_137 rfl ?_
        refine k_let hs (fun M20 e21 hs => ?_)
        refine e_putI cd_185_138 pd_185_47 rfl e21 ?_
        refine e_goto cd_185_141 rfl ?_
        exact ih t0 v3 v4 M20 so _ g0 g3 g4 hs
theorem tie_re_readTape_64  (d : Nat)  (t0 : Nat) (v3 : Option Nat) (v4 : Option Nat) (M : zM) (so : zM) (ls : List (Nat × zV)) (g0 : zl_get ls 0 = some (.inr (.inr (4, (some t0))))) (g3 : zl_get ls 3 = some (.inr (.inr (5, v3)))) (g4 : zl_get ls 4 = some (.inr (.inr (8, v4)))) (hs : re_readTape_64  d t0 v3 v4 M = some so) : Ev zq_T (d + 1) 185 64 ls [] M (none, so) := by
  unfold re_readTape_64 at hs
  refine e_ald cd_185_64 g4 ?_
  refine e_aldn cd_185_66 g3 ?_
  refine k_opt hs (fun _ q => nomatch q) (fun k1 h2 hs => ?_)
  obtain ⟨q3, h4, hs⟩ := k_bind hs
  refine e_cvi cd_185_67 kd_185_41 rfl rfl rfl h2 rfl nl_242 rfl rfl (tie_wk_begin d k1 v3 M _ h4) ?_
  refine e_aldn cd_185_70 g0 ?_
  refine e_const cd_185_71 ci_0 ?_
  refine k_let hs (fun M5 e6 hs => ?_)
  refine e_putI cd_185_72 pd_185_47 rfl e6 ?_
  exact tie_re_readTape_75  d  zLF t0 v3 v4 M5 so _ g0 g3 g4 hs
theorem tie_re_readTape_8  (d : Nat)  : ∀ (fuel : Nat) (t0 : Nat) (v1 : Option Nat) (v2 : Int32) (v3 : Option Nat) (v4 : Option Nat) (v5 : Int32) (M : zM) (so : zM) (ls : List (Nat × zV)), zl_get ls 0 = some (.inr (.inr (4, (some t0)))) → zl_get ls 1 = some (.inr (.inr (20, v1))) → zl_get ls 2 = some (.inl v2) → zl_get ls 3 = some (.inr (.inr (5, v3))) → zl_get ls 4 = some (.inr (.inr (8, v4))) → zl_get ls 5 = some (.inl v5) → re_readTape_8  d fuel t0 v1 v2 v3 v4 v5 M = some so → Ev zq_T (d + 1) 185 8 ls [] M (none, so) := by
  intro fuel
  induction fuel with
  | zero => intro t0 v1 v2 v3 v4 v5 M so ls g0 g1 g2 g3 g4 g5 hs; exact nomatch hs
  | succ fuel ih =>
    intro t0 v1 v2 v3 v4 v5 M so ls g0 g1 g2 g3 g4 g5 hs
    unfold re_readTape_8 at hs
    refine e_ild cd_185_8 g5 ?_
    refine e_ildn cd_185_10 g2 ?_
    refine k_if hs (fun c1 hs => ?_) (fun c1 hs => ?_)
    · refine e_icJ cd_185_11 rfl c1 ?_
      exact tie_re_readTape_64  d  t0 v3 v4 M so _ g0 g3 g4 hs
    · refine e_icN cd_185_11 rfl c1 ?_
      refine e_aldn cd_185_14 g0 ?_
      refine e_getI cd_185_15 (Or.inl fd_185_38) rfl ?_
      refine e_bip cd_185_18 cb_24 ?_
      refine k_if hs (fun c2 hs => ?_) (fun c2 hs => ?_)
      · refine e_icJ cd_185_20 rfl c2 ?_
        exact tie_re_readTape_64  d  t0 v3 v4 M so _ g0 g3 g4 hs
      · refine e_icN cd_185_20 rfl c2 ?_
        refine e_aldn cd_185_23 g1 ?_
        refine e_ild cd_185_24 g5 ?_
        refine k_opt hs (fun _ q => nomatch q) (fun k3 h4 hs => ?_)
        obtain ⟨c5, hs⟩ := z_ite hs
        refine e_iald cd_185_26 rfl h4 c5 ?_
        refine e_bip cd_185_27 cb_32 ?_
        refine k_if hs (fun c6 hs => ?_) (fun c6 hs => ?_)
        · refine e_icJ cd_185_29 rfl c6 ?_
          exact tie_re_readTape_58 (fun p0 p1 p2 p3 p4 p5 m => re_readTape_8  d fuel p0 p1 p2 p3 p4 p5 m) d ih t0 v1 v2 v3 v4 v5 M so _ g0 g1 g2 g3 g4 g5 hs
        · refine e_icN cd_185_29 rfl c6 ?_
          refine e_aldn cd_185_32 g0 ?_
          refine e_getR cd_185_33 fd_185_15 rfl ?_
          refine e_aldn cd_185_36 g0 ?_
          refine e_getI cd_185_37 (Or.inl fd_185_38) rfl ?_
          refine e_aldn cd_185_40 g1 ?_
          refine e_ild cd_185_41 g5 ?_
          obtain ⟨c7, hs⟩ := z_ite hs
          refine e_iald cd_185_43 rfl h4 c7 ?_
          refine e_bip cd_185_44 cb_97 ?_
          refine e_pure cd_185_46 rfl ?_
          refine k_opt hs (fun _ q => nomatch q) (fun k8 h9 hs => ?_)
          obtain ⟨c10, hs⟩ := z_ite hs
          refine k_let hs (fun M11 e12 hs => ?_)
          refine e_iast cd_185_47 rfl h9 c10 e12 ?_
          refine e_aldn cd_185_48 g0 ?_
          refine e_pure cd_185_49 rfl ?_
          refine e_getI cd_185_50 (Or.inl fd_185_38) rfl ?_
          refine e_const cd_185_53 ci_1 ?_
          refine e_pure cd_185_54 rfl ?_
          refine k_let hs (fun M13 e14 hs => ?_)
          refine e_putI cd_185_55 pd_185_38 rfl e14 ?_
          exact tie_re_readTape_58 (fun p0 p1 p2 p3 p4 p5 m => re_readTape_8  d fuel p0 p1 p2 p3 p4 p5 m) d ih t0 v1 v2 v3 v4 v5 M13 so _ g0 g1 g2 g3 g4 g5 hs
theorem tieb_re_readTape  (d : Nat)  (a0 : Nat) (a1 : Option Nat) (a2 : Int32) (a3 : Option Nat) (a4 : Option Nat) (M : zM) (so : zM) (hs : re_readTape_b  d a0 a1 a2 a3 a4 M = some so) : Ev zq_T (d + 1) 185 0 (zl_args 0 [.inr (.inr (4, some a0)), .inr (.inr (20, a1)), .inl a2, .inr (.inr (5, a3)), .inr (.inr (8, a4))]) [] M (none, so) := by
  unfold re_readTape_b at hs
  have g0 : zl_get (zl_args 0 [.inr (.inr (4, some a0)), .inr (.inr (20, a1)), .inl a2, .inr (.inr (5, a3)), .inr (.inr (8, a4))]) 0 = some (.inr (.inr (4, (some a0)))) := rfl
  have g1 : zl_get (zl_args 0 [.inr (.inr (4, some a0)), .inr (.inr (20, a1)), .inl a2, .inr (.inr (5, a3)), .inr (.inr (8, a4))]) 1 = some (.inr (.inr (20, a1))) := rfl
  have g2 : zl_get (zl_args 0 [.inr (.inr (4, some a0)), .inr (.inr (20, a1)), .inl a2, .inr (.inr (5, a3)), .inr (.inr (8, a4))]) 2 = some (.inl a2) := rfl
  have g3 : zl_get (zl_args 0 [.inr (.inr (4, some a0)), .inr (.inr (20, a1)), .inl a2, .inr (.inr (5, a3)), .inr (.inr (8, a4))]) 3 = some (.inr (.inr (5, a3))) := rfl
  have g4 : zl_get (zl_args 0 [.inr (.inr (4, some a0)), .inr (.inr (20, a1)), .inl a2, .inr (.inr (5, a3)), .inr (.inr (8, a4))]) 4 = some (.inr (.inr (8, a4))) := rfl
  refine e_aldn cd_185_0 g0 ?_
  refine e_const cd_185_1 ci_0 ?_
  refine k_let hs (fun M1 e2 hs => ?_)
  refine e_putI cd_185_2 pd_185_38 rfl e2 ?_
  refine e_const cd_185_5 ci_0 ?_
  refine e_iK cd_185_6 nl_185 rfl rfl ?_
  intro _ gn kp
  have u3 := kp 0 _ g0 rfl rfl
  have u4 := kp 1 _ g1 rfl rfl
  have u5 := kp 2 _ g2 rfl rfl
  have u6 := kp 3 _ g3 rfl rfl
  have u7 := kp 4 _ g4 rfl rfl
  have u8 := gn
  exact tie_re_readTape_8  d  zLF a0 a1 a2 a3 a4 0 M1 so _ u3 u4 u5 u6 u7 u8 hs
theorem tie_re_readTape (d : Nat) (a0 : Nat) (a1 : Option Nat) (a2 : Int32) (a3 : Option Nat) (a4 : Option Nat) (M : zM) (so : zM) (hs : re_readTape d a0 a1 a2 a3 a4 M = some so) : Ev zq_T d 185 0 (zl_args 0 [.inr (.inr (4, some a0)), .inr (.inr (20, a1)), .inl a2, .inr (.inr (5, a3)), .inr (.inr (8, a4))]) [] M (none, so) := by
  cases d with
  | zero => exact nomatch hs
  | succ d => exact tieb_re_readTape d a0 a1 a2 a3 a4 M so hs
theorem tie_re_isWord_23  (d : Nat)  (s0 : Int32) (M : zM) (so : Int32 × zM) (ls : List (Nat × zV))  (hs : re_isWord_23  d s0 M = some so) : Ev zq_T d 186 23 ls [.inl s0] M (some (.inl so.1), so.2) := by
  unfold re_isWord_23 at hs
  obtain ⟨c1, hs⟩ := z_ite hs
  have e := Option.some.inj hs
  subst e
  exact e_rz cd_186_23 nr_186 c1
theorem tie_re_isWord_22  (d : Nat)   (M : zM) (so : Int32 × zM) (ls : List (Nat × zV))  (hs : re_isWord_22  d  M = some so) : Ev zq_T d 186 22 ls [] M (some (.inl so.1), so.2) := by
  unfold re_isWord_22 at hs
  refine e_const cd_186_22 ci_0 ?_
  exact tie_re_isWord_23  d  0 M so _  hs
theorem tie_re_isWord (d : Nat) (a0 : Nat) (M : zM) (so : Int32 × zM) (hs : re_isWord d a0 M = some so) : Ev zq_T d 186 0 (zl_args 0 [.inr (.inr (4, some a0))]) [] M (some (.inl so.1), so.2) := by
  unfold re_isWord at hs
  have g0 : zl_get (zl_args 0 [.inr (.inr (4, some a0))]) 0 = some (.inr (.inr (4, (some a0)))) := rfl
  refine e_aldn cd_186_0 g0 ?_
  refine e_getI cd_186_1 (Or.inl fd_186_47) rfl ?_
  refine e_aldn cd_186_4 g0 ?_
  refine e_getI cd_186_5 (Or.inl fd_186_38) rfl ?_
  refine k_if hs (fun c1 hs => ?_) (fun c1 hs => ?_)
  · refine e_icN cd_186_8 rfl (fun q => q c1) ?_
    refine e_aldn cd_186_11 g0 ?_
    refine e_getI cd_186_12 (Or.inr fd_186_71) rfl ?_
    refine k_if hs (fun c2 hs => ?_) (fun c2 hs => ?_)
    · refine e_izJ cd_186_15 rfl c2 ?_
      exact tie_re_isWord_22  d   M so _  hs
    · refine e_izN cd_186_15 rfl c2 ?_
      refine e_const cd_186_18 ci_1 ?_
      refine e_goto cd_186_19 rfl ?_
      exact tie_re_isWord_23  d  1 M so _  hs
  · refine e_icJ cd_186_8 rfl c1 ?_
    exact tie_re_isWord_22  d   M so _  hs
theorem tie_re_setMend (d : Nat) (a0 : Nat) (a1 : Int32) (a2 : Int32) (a3 : Int32) (M : zM) (so : zM) (hs : re_setMend d a0 a1 a2 a3 M = some so) : Ev zq_T d 188 0 (zl_args 0 [.inr (.inr (4, some a0)), .inl a1, .inl a2, .inl a3]) [] M (none, so) := by
  unfold re_setMend at hs
  have g0 : zl_get (zl_args 0 [.inr (.inr (4, some a0)), .inl a1, .inl a2, .inl a3]) 0 = some (.inr (.inr (4, (some a0)))) := rfl
  have g1 : zl_get (zl_args 0 [.inr (.inr (4, some a0)), .inl a1, .inl a2, .inl a3]) 1 = some (.inl a1) := rfl
  have g2 : zl_get (zl_args 0 [.inr (.inr (4, some a0)), .inl a1, .inl a2, .inl a3]) 2 = some (.inl a2) := rfl
  have g3 : zl_get (zl_args 0 [.inr (.inr (4, some a0)), .inl a1, .inl a2, .inl a3]) 3 = some (.inl a3) := rfl
  refine e_aldn cd_188_0 g0 ?_
  refine e_ildn cd_188_1 g1 ?_
  refine k_let hs (fun M1 e2 hs => ?_)
  refine e_putI cd_188_2 pd_188_111 rfl e2 ?_
  refine e_aldn cd_188_5 g0 ?_
  refine e_ildn cd_188_6 g2 ?_
  refine k_let hs (fun M3 e4 hs => ?_)
  refine e_putI cd_188_7 pd_188_114 rfl e4 ?_
  refine e_aldn cd_188_10 g0 ?_
  refine e_ildn cd_188_11 g3 ?_
  refine k_let hs (fun M5 e6 hs => ?_)
  refine e_putI cd_188_12 pd_188_117 rfl e6 ?_
  have e := Option.some.inj hs
  subst e
  exact e_rv cd_188_15 nr_188
theorem tie_re_isWordFrom_2  (d : Nat)  : ∀ (fuel : Nat) (t0 : Nat) (v1 : Option Nat) (v3 : Int32) (M : zM) (so : Int32 × zM) (ls : List (Nat × zV)), zl_get ls 0 = some (.inr (.inr (4, (some t0)))) → zl_get ls 1 = some (.inr (.inr (8, v1))) → zl_get ls 3 = some (.inl v3) → re_isWordFrom_2  d fuel t0 v1 v3 M = some so → Ev zq_T (d + 1) 191 2 ls [] M (some (.inl so.1), so.2) := by
  intro fuel
  induction fuel with
  | zero => intro t0 v1 v3 M so ls g0 g1 g3 hs; exact nomatch hs
  | succ fuel ih =>
    intro t0 v1 v3 M so ls g0 g1 g3 hs
    unfold re_isWordFrom_2 at hs
    refine e_ildn cd_191_2 g3 ?_
    refine e_aldn cd_191_3 g0 ?_
    refine e_getI cd_191_4 (Or.inl fd_191_38) rfl ?_
    refine k_if hs (fun c1 hs => ?_) (fun c1 hs => ?_)
    · refine e_icJ cd_191_7 rfl c1 ?_
      refine e_aldn cd_191_31 g1 ?_
      refine k_opt hs (fun _ q => nomatch q) (fun k2 h3 hs => ?_)
      obtain ⟨q4, h5, hs⟩ := k_bind hs
      refine e_cvi cd_191_32 kd_191_67 rfl rfl rfl h3 rfl nl_250 rfl rfl (tie_wk_canEnd d k2 M _ h5) ?_
      obtain ⟨c6, hs⟩ := z_ite hs
      have e := Option.some.inj hs
      subst e
      exact e_rz cd_191_35 nr_191 c6
    · refine e_icN cd_191_7 rfl c1 ?_
      refine e_aldn cd_191_10 g1 ?_
      refine e_aldn cd_191_11 g0 ?_
      refine e_getR cd_191_12 fd_191_15 rfl ?_
      refine e_ildn cd_191_15 g3 ?_
      refine k_opt hs (fun _ q => nomatch q) (fun k7 h8 hs => ?_)
      obtain ⟨c9, hs⟩ := z_ite hs
      refine e_iald cd_191_16 rfl h8 c9 ?_
      refine k_opt hs (fun _ q => nomatch q) (fun k10 h11 hs => ?_)
      obtain ⟨q12, h13, hs⟩ := k_bind hs
      refine e_cvi cd_191_17 kd_191_50 rfl rfl rfl h11 rfl nl_248 rfl rfl (tie_wk_step d k10 (zm_I M 20 k7 (v3 : Int32).toNatClampNeg) M _ h13) ?_
      refine k_if hs (fun c14 hs => ?_) (fun c14 hs => ?_)
      · refine e_izN cd_191_20 rfl (fun q => q c14) ?_
        refine e_const cd_191_23 ci_0 ?_
        have e := Option.some.inj hs
        subst e
        exact e_rz cd_191_24 nr_191 (Or.inl rfl)
      · refine e_izJ cd_191_20 rfl c14 ?_
        refine k_let hs (fun x15 e16 hs => ?_)
        refine e_incK cd_191_25 nl_191 rfl g3 ci_1 e16 ?_
        intro _ gn kp
        have u17 := kp 0 _ g0 rfl rfl
        have u18 := kp 1 _ g1 rfl rfl
        have u19 := gn
        refine e_goto cd_191_28 rfl ?_
        exact ih t0 v1 x15 q12.2 so _ u17 u18 u19 hs
theorem tieb_re_isWordFrom  (d : Nat)  (a0 : Nat) (a1 : Option Nat) (a2 : Int32) (M : zM) (so : Int32 × zM) (hs : re_isWordFrom_b  d a0 a1 a2 M = some so) : Ev zq_T (d + 1) 191 0 (zl_args 0 [.inr (.inr (4, some a0)), .inr (.inr (8, a1)), .inl a2]) [] M (some (.inl so.1), so.2) := by
  unfold re_isWordFrom_b at hs
  have g0 : zl_get (zl_args 0 [.inr (.inr (4, some a0)), .inr (.inr (8, a1)), .inl a2]) 0 = some (.inr (.inr (4, (some a0)))) := rfl
  have g1 : zl_get (zl_args 0 [.inr (.inr (4, some a0)), .inr (.inr (8, a1)), .inl a2]) 1 = some (.inr (.inr (8, a1))) := rfl
  have g2 : zl_get (zl_args 0 [.inr (.inr (4, some a0)), .inr (.inr (8, a1)), .inl a2]) 2 = some (.inl a2) := rfl
  refine e_ildn cd_191_0 g2 ?_
  refine e_iKn cd_191_1 nl_191 rfl rfl ?_
  intro _ gn kp
  have u1 := kp 0 _ g0 rfl rfl
  have u2 := kp 1 _ g1 rfl rfl
  have u3 := gn
  exact tie_re_isWordFrom_2  d  zLF a0 a1 a2 M so _ u1 u2 u3 hs
theorem tie_re_isWordFrom (d : Nat) (a0 : Nat) (a1 : Option Nat) (a2 : Int32) (M : zM) (so : Int32 × zM) (hs : re_isWordFrom d a0 a1 a2 M = some so) : Ev zq_T d 191 0 (zl_args 0 [.inr (.inr (4, some a0)), .inr (.inr (8, a1)), .inl a2]) [] M (some (.inl so.1), so.2) := by
  cases d with
  | zero => exact nomatch hs
  | succ d => exact tieb_re_isWordFrom d a0 a1 a2 M so hs
theorem tie_re_leaveOut_3  (d : Nat)  : ∀ (fuel : Nat) (t0 : Nat) (v1 : Option Nat) (v2 : Option Nat) (v3 : Int32) (v4 : Int32) (M : zM) (so : Int32 × zM) (ls : List (Nat × zV)), zl_get ls 0 = some (.inr (.inr (4, (some t0)))) → zl_get ls 1 = some (.inr (.inr (5, v1))) → zl_get ls 2 = some (.inr (.inr (8, v2))) → zl_get ls 3 = some (.inl v3) → zl_get ls 4 = some (.inl v4) → re_leaveOut_3  d fuel t0 v1 v2 v3 v4 M = some so → Ev zq_T (d + 1) 189 3 ls [] M (some (.inl so.1), so.2) := by
  intro fuel
  induction fuel with
  | zero => intro t0 v1 v2 v3 v4 M so ls g0 g1 g2 g3 g4 hs; exact nomatch hs
  | succ fuel ih =>
    intro t0 v1 v2 v3 v4 M so ls g0 g1 g2 g3 g4 hs
    unfold re_leaveOut_3 at hs
    refine e_ild cd_189_3 g4 ?_
    refine e_ildn cd_189_5 g3 ?_
    refine k_if hs (fun c1 hs => ?_) (fun c1 hs => ?_)
    · refine e_icJ cd_189_6 rfl c1 ?_
      refine e_const cd_189_49 ci_0 ?_
      have e := Option.some.inj hs
      subst e
      exact e_rz cd_189_50 nr_189 (Or.inl rfl)
    · refine e_icN cd_189_6 rfl c1 ?_
      refine e_aldn cd_189_9 g2 ?_
      refine e_aldn cd_189_10 g1 ?_
      refine e_aldn cd_189_11 g0 ?_
      refine e_getR cd_189_12 fd_189_31 rfl ?_
      refine e_ild cd_189_15 g4 ?_
      refine k_opt hs (fun _ q => nomatch q) (fun k2 h3 hs => ?_)
      obtain ⟨c4, hs⟩ := z_ite hs
      refine e_iald cd_189_17 rfl h3 c4 ?_
      refine k_opt hs (fun _ q => nomatch q) (fun k5 h6 hs => ?_)
      obtain ⟨q7, h8, hs⟩ := k_bind hs
      refine e_cvi cd_189_18 kd_189_120 rfl rfl rfl h6 rfl nl_256 rfl rfl (tie_wk_resume d k5 v1 (zm_I M 20 k2 (v4 : Int32).toNatClampNeg) M _ h8) ?_
      refine e_aldn cd_189_21 g0 ?_
      refine e_aldn cd_189_22 g2 ?_
      refine e_ild cd_189_23 g4 ?_
      refine e_const cd_189_25 ci_1 ?_
      refine e_pure cd_189_26 rfl ?_
      obtain ⟨q9, h10, hs⟩ := k_bind hs
      refine e_cvi cd_189_27 kd_189_124 rfl rfl rfl rfl rfl nl_191 rfl rfl (tie_re_isWordFrom d t0 v2 (v4 + 1) q7 _ h10) ?_
      refine k_if hs (fun c11 hs => ?_) (fun c11 hs => ?_)
      · refine e_izJ cd_189_30 rfl c11 ?_
        refine k_let hs (fun x12 e13 hs => ?_)
        refine e_incK cd_189_43 nl_189 rfl g4 ci_1 e13 ?_
        intro _ gn kp
        have u14 := kp 0 _ g0 rfl rfl
        have u15 := kp 1 _ g1 rfl rfl
        have u16 := kp 2 _ g2 rfl rfl
        have u17 := kp 3 _ g3 rfl rfl
        have u18 := gn
        refine e_goto cd_189_46 rfl ?_
        exact ih t0 v1 v2 v3 x12 q9.2 so _ u14 u15 u16 u17 u18 hs
      · refine e_izN cd_189_30 rfl c11 ?_
        refine e_aldn cd_189_33 g0 ?_
        refine e_const cd_189_34 ci_1 ?_
        refine e_ild cd_189_35 g4 ?_
        refine e_const cd_189_37 ci_m1 ?_
        obtain ⟨q19, h20, hs⟩ := k_bind hs
        refine e_cvi cd_189_38 kd_189_93 rfl rfl rfl rfl rfl nl_188 rfl rfl (tie_re_setMend d t0 1 v4 (-1) q9.2 _ h20) ?_
        refine e_const cd_189_41 ci_1 ?_
        have e := Option.some.inj hs
        subst e
        exact e_rz cd_189_42 nr_189 (Or.inr rfl)
theorem tieb_re_leaveOut  (d : Nat)  (a0 : Nat) (a1 : Option Nat) (a2 : Option Nat) (a3 : Int32) (M : zM) (so : Int32 × zM) (hs : re_leaveOut_b  d a0 a1 a2 a3 M = some so) : Ev zq_T (d + 1) 189 0 (zl_args 0 [.inr (.inr (4, some a0)), .inr (.inr (5, a1)), .inr (.inr (8, a2)), .inl a3]) [] M (some (.inl so.1), so.2) := by
  unfold re_leaveOut_b at hs
  have g0 : zl_get (zl_args 0 [.inr (.inr (4, some a0)), .inr (.inr (5, a1)), .inr (.inr (8, a2)), .inl a3]) 0 = some (.inr (.inr (4, (some a0)))) := rfl
  have g1 : zl_get (zl_args 0 [.inr (.inr (4, some a0)), .inr (.inr (5, a1)), .inr (.inr (8, a2)), .inl a3]) 1 = some (.inr (.inr (5, a1))) := rfl
  have g2 : zl_get (zl_args 0 [.inr (.inr (4, some a0)), .inr (.inr (5, a1)), .inr (.inr (8, a2)), .inl a3]) 2 = some (.inr (.inr (8, a2))) := rfl
  have g3 : zl_get (zl_args 0 [.inr (.inr (4, some a0)), .inr (.inr (5, a1)), .inr (.inr (8, a2)), .inl a3]) 3 = some (.inl a3) := rfl
  refine e_const cd_189_0 ci_0 ?_
  refine e_iK cd_189_1 nl_189 rfl rfl ?_
  intro _ gn kp
  have u1 := kp 0 _ g0 rfl rfl
  have u2 := kp 1 _ g1 rfl rfl
  have u3 := kp 2 _ g2 rfl rfl
  have u4 := kp 3 _ g3 rfl rfl
  have u5 := gn
  exact tie_re_leaveOut_3  d  zLF a0 a1 a2 a3 0 M so _ u1 u2 u3 u4 u5 hs
theorem tie_re_leaveOut (d : Nat) (a0 : Nat) (a1 : Option Nat) (a2 : Option Nat) (a3 : Int32) (M : zM) (so : Int32 × zM) (hs : re_leaveOut d a0 a1 a2 a3 M = some so) : Ev zq_T d 189 0 (zl_args 0 [.inr (.inr (4, some a0)), .inr (.inr (5, a1)), .inr (.inr (8, a2)), .inl a3]) [] M (some (.inl so.1), so.2) := by
  cases d with
  | zero => exact nomatch hs
  | succ d => exact tieb_re_leaveOut d a0 a1 a2 a3 M so hs
theorem tie_re_putIn_91 (kl9 : Nat → Option Nat → Option Nat → Int32 → Int32 → Int32 → Int32 → zM → Option (Int32 × zM)) (kl18 : Nat → Option Nat → Option Nat → Int32 → Int32 → Int32 → Int32 → Int32 → zM → Option (Int32 × zM)) (d : Nat) (hk9 : ∀ (t0 : Nat) (v1 : Option Nat) (v2 : Option Nat) (v3 : Int32) (v4 : Int32) (v5 : Int32) (v6 : Int32) (M : zM) (so : Int32 × zM) (ls : List (Nat × zV)), zl_get ls 0 = some (.inr (.inr (4, (some t0)))) → zl_get ls 1 = some (.inr (.inr (5, v1))) → zl_get ls 2 = some (.inr (.inr (8, v2))) → zl_get ls 3 = some (.inl v3) → zl_get ls 4 = some (.inl v4) → zl_get ls 5 = some (.inl v5) → zl_get ls 6 = some (.inl v6) → kl9 t0 v1 v2 v3 v4 v5 v6 M = some so → Ev zq_T (d + 1) 190 9 ls [] M (some (.inl so.1), so.2)) (hk18 : ∀ (t0 : Nat) (v1 : Option Nat) (v2 : Option Nat) (v3 : Int32) (v4 : Int32) (v5 : Int32) (v6 : Int32) (v7 : Int32) (M : zM) (so : Int32 × zM) (ls : List (Nat × zV)), zl_get ls 0 = some (.inr (.inr (4, (some t0)))) → zl_get ls 1 = some (.inr (.inr (5, v1))) → zl_get ls 2 = some (.inr (.inr (8, v2))) → zl_get ls 3 = some (.inl v3) → zl_get ls 4 = some (.inl v4) → zl_get ls 5 = some (.inl v5) → zl_get ls 6 = some (.inl v6) → zl_get ls 7 = some (.inl v7) → kl18 t0 v1 v2 v3 v4 v5 v6 v7 M = some so → Ev zq_T (d + 1) 190 18 ls [] M (some (.inl so.1), so.2)) (t0 : Nat) (v1 : Option Nat) (v2 : Option Nat) (v3 : Int32) (v4 : Int32) (v5 : Int32) (v6 : Int32) (v7 : Int32) (M : zM) (so : Int32 × zM) (ls : List (Nat × zV)) (g0 : zl_get ls 0 = some (.inr (.inr (4, (some t0))))) (g1 : zl_get ls 1 = some (.inr (.inr (5, v1)))) (g2 : zl_get ls 2 = some (.inr (.inr (8, v2)))) (g3 : zl_get ls 3 = some (.inl v3)) (g4 : zl_get ls 4 = some (.inl v4)) (g5 : zl_get ls 5 = some (.inl v5)) (g6 : zl_get ls 6 = some (.inl v6)) (g7 : zl_get ls 7 = some (.inl v7)) (hs : re_putIn_91 kl9 kl18 d t0 v1 v2 v3 v4 v5 v6 v7 M = some so) : Ev zq_T (d + 1) 190 91 ls [] M (some (.inl so.1), so.2) := by
  unfold re_putIn_91 at hs
  refine k_let hs (fun x1 e2 hs => ?_)
  refine e_incK cd_190_91 nl_190 rfl g7 ci_1 e2 ?_
  intro _ gn kp
  have u3 := kp 0 _ g0 rfl rfl
  have u4 := kp 1 _ g1 rfl rfl
  have u5 := kp 2 _ g2 rfl rfl
  have u6 := kp 3 _ g3 rfl rfl
  have u7 := kp 4 _ g4 rfl rfl
  have u8 := kp 5 _ g5 rfl rfl
  have u9 := kp 6 _ g6 rfl rfl
  have u10 := gn
  refine e_goto cd_190_94 rfl ?_
  exact hk18 t0 v1 v2 v3 v4 v5 v6 x1 M so _ u3 u4 u5 u6 u7 u8 u9 u10 hs
theorem tie_re_putIn_73 (kl9 : Nat → Option Nat → Option Nat → Int32 → Int32 → Int32 → Int32 → zM → Option (Int32 × zM)) (kl18 : Nat → Option Nat → Option Nat → Int32 → Int32 → Int32 → Int32 → Int32 → zM → Option (Int32 × zM)) (d : Nat) (hk9 : ∀ (t0 : Nat) (v1 : Option Nat) (v2 : Option Nat) (v3 : Int32) (v4 : Int32) (v5 : Int32) (v6 : Int32) (M : zM) (so : Int32 × zM) (ls : List (Nat × zV)), zl_get ls 0 = some (.inr (.inr (4, (some t0)))) → zl_get ls 1 = some (.inr (.inr (5, v1))) → zl_get ls 2 = some (.inr (.inr (8, v2))) → zl_get ls 3 = some (.inl v3) → zl_get ls 4 = some (.inl v4) → zl_get ls 5 = some (.inl v5) → zl_get ls 6 = some (.inl v6) → kl9 t0 v1 v2 v3 v4 v5 v6 M = some so → Ev zq_T (d + 1) 190 9 ls [] M (some (.inl so.1), so.2)) (hk18 : ∀ (t0 : Nat) (v1 : Option Nat) (v2 : Option Nat) (v3 : Int32) (v4 : Int32) (v5 : Int32) (v6 : Int32) (v7 : Int32) (M : zM) (so : Int32 × zM) (ls : List (Nat × zV)), zl_get ls 0 = some (.inr (.inr (4, (some t0)))) → zl_get ls 1 = some (.inr (.inr (5, v1))) → zl_get ls 2 = some (.inr (.inr (8, v2))) → zl_get ls 3 = some (.inl v3) → zl_get ls 4 = some (.inl v4) → zl_get ls 5 = some (.inl v5) → zl_get ls 6 = some (.inl v6) → zl_get ls 7 = some (.inl v7) → kl18 t0 v1 v2 v3 v4 v5 v6 v7 M = some so → Ev zq_T (d + 1) 190 18 ls [] M (some (.inl so.1), so.2)) (t0 : Nat) (v1 : Option Nat) (v2 : Option Nat) (v3 : Int32) (v4 : Int32) (v5 : Int32) (v6 : Int32) (v7 : Int32) (s0 : Option Nat) (s1 : Option Nat) (s2 : Int32) (M : zM) (so : Int32 × zM) (ls : List (Nat × zV)) (g0 : zl_get ls 0 = some (.inr (.inr (4, (some t0))))) (g1 : zl_get ls 1 = some (.inr (.inr (5, v1)))) (g2 : zl_get ls 2 = some (.inr (.inr (8, v2)))) (g3 : zl_get ls 3 = some (.inl v3)) (g4 : zl_get ls 4 = some (.inl v4)) (g5 : zl_get ls 5 = some (.inl v5)) (g6 : zl_get ls 6 = some (.inl v6)) (g7 : zl_get ls 7 = some (.inl v7)) (hs : re_putIn_73 kl9 kl18 d t0 v1 v2 v3 v4 v5 v6 v7 s0 s1 s2 M = some so) : Ev zq_T (d + 1) 190 73 ls [.inl s2, .inr (.inr (8, s1)), .inr (.inr (4, s0))] M (some (.inl so.1), so.2) := by
  unfold re_putIn_73 at hs
  refine k_opt hs (fun _ q => nomatch q) (fun k1 h2 hs => ?_)
  obtain ⟨q3, h4, hs⟩ := k_bind hs
  refine e_cvi cd_190_73 kd_190_124 rfl rfl rfl h2 rfl nl_191 rfl rfl (tie_re_isWordFrom d k1 s1 s2 M _ h4) ?_
  refine k_if hs (fun c5 hs => ?_) (fun c5 hs => ?_)
  · refine e_izJ cd_190_76 rfl c5 ?_
    exact tie_re_putIn_91 kl9 kl18 d hk9 hk18 t0 v1 v2 v3 v4 v5 v6 v7 q3.2 so _ g0 g1 g2 g3 g4 g5 g6 g7 hs
  · refine e_izN cd_190_76 rfl c5 ?_
    refine e_aldn cd_190_79 g0 ?_
    refine e_ild cd_190_80 g4 ?_
    refine e_ild cd_190_82 g6 ?_
    refine e_ild cd_190_84 g7 ?_
    obtain ⟨q6, h7, hs⟩ := k_bind hs
    refine e_cvi cd_190_86 kd_190_93 rfl rfl rfl rfl rfl nl_188 rfl rfl (tie_re_setMend d t0 v4 v6 v7 q3.2 _ h7) ?_
    refine e_const cd_190_89 ci_1 ?_
    have e := Option.some.inj hs
    subst e
    exact e_rz cd_190_90 nr_190 (Or.inr rfl)
theorem tie_re_putIn_18 (kl9 : Nat → Option Nat → Option Nat → Int32 → Int32 → Int32 → Int32 → zM → Option (Int32 × zM)) (d : Nat) (hk9 : ∀ (t0 : Nat) (v1 : Option Nat) (v2 : Option Nat) (v3 : Int32) (v4 : Int32) (v5 : Int32) (v6 : Int32) (M : zM) (so : Int32 × zM) (ls : List (Nat × zV)), zl_get ls 0 = some (.inr (.inr (4, (some t0)))) → zl_get ls 1 = some (.inr (.inr (5, v1))) → zl_get ls 2 = some (.inr (.inr (8, v2))) → zl_get ls 3 = some (.inl v3) → zl_get ls 4 = some (.inl v4) → zl_get ls 5 = some (.inl v5) → zl_get ls 6 = some (.inl v6) → kl9 t0 v1 v2 v3 v4 v5 v6 M = some so → Ev zq_T (d + 1) 190 9 ls [] M (some (.inl so.1), so.2)) : ∀ (fuel : Nat) (t0 : Nat) (v1 : Option Nat) (v2 : Option Nat) (v3 : Int32) (v4 : Int32) (v5 : Int32) (v6 : Int32) (v7 : Int32) (M : zM) (so : Int32 × zM) (ls : List (Nat × zV)), zl_get ls 0 = some (.inr (.inr (4, (some t0)))) → zl_get ls 1 = some (.inr (.inr (5, v1))) → zl_get ls 2 = some (.inr (.inr (8, v2))) → zl_get ls 3 = some (.inl v3) → zl_get ls 4 = some (.inl v4) → zl_get ls 5 = some (.inl v5) → zl_get ls 6 = some (.inl v6) → zl_get ls 7 = some (.inl v7) → re_putIn_18 kl9 d fuel t0 v1 v2 v3 v4 v5 v6 v7 M = some so → Ev zq_T (d + 1) 190 18 ls [] M (some (.inl so.1), so.2) := by
  intro fuel
  induction fuel with
  | zero => intro t0 v1 v2 v3 v4 v5 v6 v7 M so ls g0 g1 g2 g3 g4 g5 g6 g7 hs; exact nomatch hs
  | succ fuel ih =>
    intro t0 v1 v2 v3 v4 v5 v6 v7 M so ls g0 g1 g2 g3 g4 g5 g6 g7 hs
    unfold re_putIn_18 at hs
    refine e_ild cd_190_18 g7 ?_
    refine e_bip cd_190_20 cb_26 ?_
    refine k_if hs (fun c1 hs => ?_) (fun c1 hs => ?_)
    · refine e_icJ cd_190_22 rfl c1 ?_
      refine k_let hs (fun x2 e3 hs => ?_)
      refine e_incK cd_190_97 nl_190 rfl g6 ci_1 e3 ?_
      intro _ gn kp
      have u4 := kp 0 _ g0 rfl rfl
      have u5 := kp 1 _ g1 rfl rfl
      have u6 := kp 2 _ g2 rfl rfl
      have u7 := kp 3 _ g3 rfl rfl
      have u8 := kp 4 _ g4 rfl rfl
      have u9 := kp 5 _ g5 rfl rfl
      have u10 := gn
      refine e_goto cd_190_100 rfl ?_
      exact hk9 t0 v1 v2 v3 v4 v5 x2 M so _ u4 u5 u6 u7 u8 u9 u10 hs
    · refine e_icN cd_190_22 rfl c1 ?_
      refine e_ild cd_190_25 g5 ?_
      refine e_ild cd_190_27 g7 ?_
      refine e_pure cd_190_29 rfl ?_
      refine e_const cd_190_30 ci_1 ?_
      refine e_pure cd_190_31 rfl ?_
      refine k_if hs (fun c11 hs => ?_) (fun c11 hs => ?_)
      · refine e_izJ cd_190_32 rfl c11 ?_
        exact tie_re_putIn_91 kl9 (fun p0 p1 p2 p3 p4 p5 p6 p7 m => re_putIn_18 kl9 d fuel p0 p1 p2 p3 p4 p5 p6 p7 m) d hk9 ih t0 v1 v2 v3 v4 v5 v6 v7 M so _ g0 g1 g2 g3 g4 g5 g6 g7 hs
      · refine e_izN cd_190_32 rfl c11 ?_
        refine e_aldn cd_190_35 g2 ?_
        refine e_aldn cd_190_36 g1 ?_
        refine e_aldn cd_190_37 g0 ?_
        refine e_getR cd_190_38 fd_190_31 rfl ?_
        refine e_ild cd_190_41 g6 ?_
        refine k_opt hs (fun _ q => nomatch q) (fun k12 h13 hs => ?_)
        obtain ⟨c14, hs⟩ := z_ite hs
        refine e_iald cd_190_43 rfl h13 c14 ?_
        refine k_opt hs (fun _ q => nomatch q) (fun k15 h16 hs => ?_)
        obtain ⟨q17, h18, hs⟩ := k_bind hs
        refine e_cvi cd_190_44 kd_190_120 rfl rfl rfl h16 rfl nl_256 rfl rfl (tie_wk_resume d k15 v1 (zm_I M 20 k12 (v6 : Int32).toNatClampNeg) M _ h18) ?_
        refine e_aldn cd_190_47 g2 ?_
        refine e_ild cd_190_48 g7 ?_
        obtain ⟨q19, h20, hs⟩ := k_bind hs
        refine e_cvi cd_190_50 kd_190_50 rfl rfl rfl h16 rfl nl_248 rfl rfl (tie_wk_step d k15 v7 q17 _ h20) ?_
        refine k_if hs (fun c21 hs => ?_) (fun c21 hs => ?_)
        · refine e_izJ cd_190_53 rfl c21 ?_
          exact tie_re_putIn_91 kl9 (fun p0 p1 p2 p3 p4 p5 p6 p7 m => re_putIn_18 kl9 d fuel p0 p1 p2 p3 p4 p5 p6 p7 m) d hk9 ih t0 v1 v2 v3 v4 v5 v6 v7 q19.2 so _ g0 g1 g2 g3 g4 g5 g6 g7 hs
        · refine e_izN cd_190_53 rfl c21 ?_
          refine e_aldn cd_190_56 g0 ?_
          refine e_aldn cd_190_57 g2 ?_
          refine e_ild cd_190_58 g4 ?_
          refine e_const cd_190_60 ci_2 ?_
          refine k_if hs (fun c22 hs => ?_) (fun c22 hs => ?_)
          · refine e_icN cd_190_61 rfl (fun q => q c22) ?_
            refine e_ild cd_190_64 g6 ?_
            refine e_goto cd_190_66 rfl ?_
            exact tie_re_putIn_73 kl9 (fun p0 p1 p2 p3 p4 p5 p6 p7 m => re_putIn_18 kl9 d fuel p0 p1 p2 p3 p4 p5 p6 p7 m) d hk9 ih t0 v1 v2 v3 v4 v5 v6 v7 (some t0) v2 v6 q19.2 so _ g0 g1 g2 g3 g4 g5 g6 g7 hs
          · refine e_icJ cd_190_61 rfl c22 ?_
            refine e_ild cd_190_69 g6 ?_
            refine e_const cd_190_71 ci_1 ?_
            refine e_pure cd_190_72 rfl ?_
            exact tie_re_putIn_73 kl9 (fun p0 p1 p2 p3 p4 p5 p6 p7 m => re_putIn_18 kl9 d fuel p0 p1 p2 p3 p4 p5 p6 p7 m) d hk9 ih t0 v1 v2 v3 v4 v5 v6 v7 (some t0) v2 (v6 + 1) q19.2 so _ g0 g1 g2 g3 g4 g5 g6 g7 hs
theorem tie_re_putIn_9  (d : Nat)  : ∀ (fuel : Nat) (t0 : Nat) (v1 : Option Nat) (v2 : Option Nat) (v3 : Int32) (v4 : Int32) (v5 : Int32) (v6 : Int32) (M : zM) (so : Int32 × zM) (ls : List (Nat × zV)), zl_get ls 0 = some (.inr (.inr (4, (some t0)))) → zl_get ls 1 = some (.inr (.inr (5, v1))) → zl_get ls 2 = some (.inr (.inr (8, v2))) → zl_get ls 3 = some (.inl v3) → zl_get ls 4 = some (.inl v4) → zl_get ls 5 = some (.inl v5) → zl_get ls 6 = some (.inl v6) → re_putIn_9  d fuel t0 v1 v2 v3 v4 v5 v6 M = some so → Ev zq_T (d + 1) 190 9 ls [] M (some (.inl so.1), so.2) := by
  intro fuel
  induction fuel with
  | zero => intro t0 v1 v2 v3 v4 v5 v6 M so ls g0 g1 g2 g3 g4 g5 g6 hs; exact nomatch hs
  | succ fuel ih =>
    intro t0 v1 v2 v3 v4 v5 v6 M so ls g0 g1 g2 g3 g4 g5 g6 hs
    unfold re_putIn_9 at hs
    refine e_ild cd_190_9 g6 ?_
    refine e_ildn cd_190_11 g3 ?_
    refine k_if hs (fun c1 hs => ?_) (fun c1 hs => ?_)
    · refine e_icJ cd_190_12 rfl c1 ?_
      refine e_const cd_190_103 ci_0 ?_
      have e := Option.some.inj hs
      subst e
      exact e_rz cd_190_104 nr_190 (Or.inl rfl)
    · refine e_icN cd_190_12 rfl c1 ?_
      refine e_const cd_190_15 ci_0 ?_
      refine e_iK cd_190_16 nl_190 rfl rfl ?_
      intro _ gn kp
      have u2 := kp 0 _ g0 rfl rfl
      have u3 := kp 1 _ g1 rfl rfl
      have u4 := kp 2 _ g2 rfl rfl
      have u5 := kp 3 _ g3 rfl rfl
      have u6 := kp 4 _ g4 rfl rfl
      have u7 := kp 5 _ g5 rfl rfl
      have u8 := kp 6 _ g6 rfl rfl
      have u9 := gn
      exact tie_re_putIn_18 (fun p0 p1 p2 p3 p4 p5 p6 m => re_putIn_9  d fuel p0 p1 p2 p3 p4 p5 p6 m) d ih zLF t0 v1 v2 v3 v4 v5 v6 0 M so _ u2 u3 u4 u5 u6 u7 u8 u9 hs
theorem tieb_re_putIn  (d : Nat)  (a0 : Nat) (a1 : Option Nat) (a2 : Option Nat) (a3 : Int32) (a4 : Int32) (M : zM) (so : Int32 × zM) (hs : re_putIn_b  d a0 a1 a2 a3 a4 M = some so) : Ev zq_T (d + 1) 190 0 (zl_args 0 [.inr (.inr (4, some a0)), .inr (.inr (5, a1)), .inr (.inr (8, a2)), .inl a3, .inl a4]) [] M (some (.inl so.1), so.2) := by
  unfold re_putIn_b at hs
  have g0 : zl_get (zl_args 0 [.inr (.inr (4, some a0)), .inr (.inr (5, a1)), .inr (.inr (8, a2)), .inl a3, .inl a4]) 0 = some (.inr (.inr (4, (some a0)))) := rfl
  have g1 : zl_get (zl_args 0 [.inr (.inr (4, some a0)), .inr (.inr (5, a1)), .inr (.inr (8, a2)), .inl a3, .inl a4]) 1 = some (.inr (.inr (5, a1))) := rfl
  have g2 : zl_get (zl_args 0 [.inr (.inr (4, some a0)), .inr (.inr (5, a1)), .inr (.inr (8, a2)), .inl a3, .inl a4]) 2 = some (.inr (.inr (8, a2))) := rfl
  have g3 : zl_get (zl_args 0 [.inr (.inr (4, some a0)), .inr (.inr (5, a1)), .inr (.inr (8, a2)), .inl a3, .inl a4]) 3 = some (.inl a3) := rfl
  have g4 : zl_get (zl_args 0 [.inr (.inr (4, some a0)), .inr (.inr (5, a1)), .inr (.inr (8, a2)), .inl a3, .inl a4]) 4 = some (.inl a4) := rfl
  refine e_aldn cd_190_0 g1 ?_
  refine k_opt hs (fun _ q => nomatch q) (fun k1 h2 hs => ?_)
  obtain ⟨q3, h4, hs⟩ := k_bind hs
  refine e_cvi cd_190_1 kd_190_128 rfl rfl rfl h2 rfl nl_195 rfl rfl (tie_ru_lettersInAll d k1 M _ h4) ?_
  refine e_iK cd_190_4 nl_190 rfl rfl ?_
  intro _ gn kp
  have u5 := kp 0 _ g0 rfl rfl
  have u6 := kp 1 _ g1 rfl rfl
  have u7 := kp 2 _ g2 rfl rfl
  have u8 := kp 3 _ g3 rfl rfl
  have u9 := kp 4 _ g4 rfl rfl
  have u10 := gn
  refine e_const cd_190_6 ci_0 ?_
  refine e_iK cd_190_7 nl_190 rfl rfl ?_
  intro _ gn kp
  have u11 := kp 0 _ u5 rfl rfl
  have u12 := kp 1 _ u6 rfl rfl
  have u13 := kp 2 _ u7 rfl rfl
  have u14 := kp 3 _ u8 rfl rfl
  have u15 := kp 4 _ u9 rfl rfl
  have u16 := kp 5 _ u10 rfl rfl
  have u17 := gn
  exact tie_re_putIn_9  d  zLF a0 a1 a2 a3 a4 q3.1 0 q3.2 so _ u11 u12 u13 u14 u15 u16 u17 hs
theorem tie_re_putIn (d : Nat) (a0 : Nat) (a1 : Option Nat) (a2 : Option Nat) (a3 : Int32) (a4 : Int32) (M : zM) (so : Int32 × zM) (hs : re_putIn d a0 a1 a2 a3 a4 M = some so) : Ev zq_T d 190 0 (zl_args 0 [.inr (.inr (4, some a0)), .inr (.inr (5, a1)), .inr (.inr (8, a2)), .inl a3, .inl a4]) [] M (some (.inl so.1), so.2) := by
  cases d with
  | zero => exact nomatch hs
  | succ d => exact tieb_re_putIn d a0 a1 a2 a3 a4 M so hs
theorem tie_re_mend_135  (d : Nat)   (M : zM) (so : zM) (ls : List (Nat × zV))  (hs : re_mend_135  d  M = some so) : Ev zq_T (d + 1) 187 135 ls [] M (none, so) := by
  unfold re_mend_135 at hs
  have e := Option.some.inj hs
  subst e
  exact e_rv cd_187_135 nr_187
theorem tie_re_mend_82  (d : Nat)  (t0 : Nat) (v1 : Option Nat) (v2 : Option Nat) (v3 : Int32) (M : zM) (so : zM) (ls : List (Nat × zV)) (g0 : zl_get ls 0 = some (.inr (.inr (4, (some t0))))) (g1 : zl_get ls 1 = some (.inr (.inr (5, v1)))) (g2 : zl_get ls 2 = some (.inr (.inr (8, v2)))) (g3 : zl_get ls 3 = some (.inl v3)) (hs : re_mend_82  d t0 v1 v2 v3 M = some so) : Ev zq_T (d + 1) 187 82 ls [] M (none, so) := by
  unfold re_mend_82 at hs
  refine e_ildn cd_187_82 g3 ?_
  refine e_aldn cd_187_83 g0 ?_
  refine e_getI cd_187_84 (Or.inl fd_187_38) rfl ?_
  refine e_const cd_187_87 ci_1 ?_
  refine e_pure cd_187_88 rfl ?_
  refine e_min cd_187_89 kd_187_97 rfl ?_
  refine k_let hs (fun x1 e2 hs => ?_)
  refine e_iK cd_187_92 nl_187 rfl e2 ?_
  intro _ gn kp
  have u3 := kp 0 _ g0 rfl rfl
  have u4 := kp 1 _ g1 rfl rfl
  have u5 := kp 2 _ g2 rfl rfl
  have u6 := kp 3 _ g3 rfl rfl
  have u7 := gn
  refine e_aldn cd_187_94 u3 ?_
  refine e_aldn cd_187_95 u4 ?_
  refine e_aldn cd_187_96 u5 ?_
  refine e_ild cd_187_97 u7 ?_
  obtain ⟨q8, h9, hs⟩ := k_bind hs
  refine e_cvi cd_187_99 kd_187_103 rfl rfl rfl rfl rfl nl_189 rfl rfl (tie_re_leaveOut d t0 v1 v2 x1 M _ h9) ?_
  refine k_if hs (fun c10 hs => ?_) (fun c10 hs => ?_)
  · refine e_izN cd_187_102 rfl (fun q => q c10) ?_
    refine e_aldn cd_187_105 u3 ?_
    refine e_aldn cd_187_106 u4 ?_
    refine e_aldn cd_187_107 u5 ?_
    refine e_ildn cd_187_108 u6 ?_
    refine e_const cd_187_109 ci_2 ?_
    obtain ⟨q11, h12, hs⟩ := k_bind hs
    refine e_cvi cd_187_110 kd_187_107 rfl rfl rfl rfl rfl nl_190 rfl rfl (tie_re_putIn d t0 v1 v2 v3 2 q8.2 _ h12) ?_
    refine k_if hs (fun c13 hs => ?_) (fun c13 hs => ?_)
    · refine e_izN cd_187_113 rfl (fun q => q c13) ?_
      refine e_aldn cd_187_116 u3 ?_
      refine e_aldn cd_187_117 u4 ?_
      refine e_aldn cd_187_118 u5 ?_
      refine e_ild cd_187_119 u7 ?_
      refine e_const cd_187_121 ci_3 ?_
      obtain ⟨q14, h15, hs⟩ := k_bind hs
      refine e_cvi cd_187_122 kd_187_107 rfl rfl rfl rfl rfl nl_190 rfl rfl (tie_re_putIn d t0 v1 v2 x1 3 q11.2 _ h15) ?_
      refine k_if hs (fun c16 hs => ?_) (fun c16 hs => ?_)
      · refine e_izN cd_187_125 rfl (fun q => q c16) ?_
        refine e_aldn cd_187_128 u3 ?_
        refine e_const cd_187_129 ci_m1 ?_
        refine e_const cd_187_130 ci_m1 ?_
        refine e_const cd_187_131 ci_m1 ?_
        obtain ⟨q17, h18, hs⟩ := k_bind hs
        refine e_cvi cd_187_132 kd_187_93 rfl rfl rfl rfl rfl nl_188 rfl rfl (tie_re_setMend d t0 (-1) (-1) (-1) q14.2 _ h18) ?_
        exact tie_re_mend_135  d   q17 so _  hs
      · refine e_izJ cd_187_125 rfl c16 ?_
        exact tie_re_mend_135  d   q14.2 so _  hs
    · refine e_izJ cd_187_113 rfl c13 ?_
      exact tie_re_mend_135  d   q11.2 so _  hs
  · refine e_izJ cd_187_102 rfl c10 ?_
    exact tie_re_mend_135  d   q8.2 so _  hs
theorem tie_re_mend_59  (d : Nat)  (t0 : Nat) (v1 : Option Nat) (v2 : Option Nat) (v3 : Int32) (M : zM) (so : zM) (ls : List (Nat × zV)) (g0 : zl_get ls 0 = some (.inr (.inr (4, (some t0))))) (g1 : zl_get ls 1 = some (.inr (.inr (5, v1)))) (g2 : zl_get ls 2 = some (.inr (.inr (8, v2)))) (g3 : zl_get ls 3 = some (.inl v3)) (hs : re_mend_59  d t0 v1 v2 v3 M = some so) : Ev zq_T (d + 1) 187 59 ls [] M (none, so) := by
  unfold re_mend_59 at hs
  refine e_ildn cd_187_59 g3 ?_
  refine e_aldn cd_187_60 g0 ?_
  refine e_getI cd_187_61 (Or.inl fd_187_38) rfl ?_
  refine k_if hs (fun c1 hs => ?_) (fun c1 hs => ?_)
  · refine e_icN cd_187_64 rfl (fun q => q c1) ?_
    refine e_aldn cd_187_67 g2 ?_
    refine k_opt hs (fun _ q => nomatch q) (fun k2 h3 hs => ?_)
    obtain ⟨q4, h5, hs⟩ := k_bind hs
    refine e_cvi cd_187_68 kd_187_67 rfl rfl rfl h3 rfl nl_250 rfl rfl (tie_wk_canEnd d k2 M _ h5) ?_
    refine k_if hs (fun c6 hs => ?_) (fun c6 hs => ?_)
    · refine e_izJ cd_187_71 rfl c6 ?_
      exact tie_re_mend_82  d  t0 v1 v2 v3 q4.2 so _ g0 g1 g2 g3 hs
    · refine e_izN cd_187_71 rfl c6 ?_
      refine e_aldn cd_187_74 g0 ?_
      refine e_const cd_187_75 ci_0 ?_
      refine e_const cd_187_76 ci_m1 ?_
      refine e_const cd_187_77 ci_m1 ?_
      obtain ⟨q7, h8, hs⟩ := k_bind hs
      refine e_cvi cd_187_78 kd_187_93 rfl rfl rfl rfl rfl nl_188 rfl rfl (tie_re_setMend d t0 0 (-1) (-1) q4.2 _ h8) ?_
      have e := Option.some.inj hs
      subst e
      exact e_rv cd_187_81 nr_187
  · refine e_icJ cd_187_64 rfl c1 ?_
    exact tie_re_mend_82  d  t0 v1 v2 v3 M so _ g0 g1 g2 g3 hs
theorem tie_re_mend_22  (d : Nat)  : ∀ (fuel : Nat) (t0 : Nat) (v1 : Option Nat) (v2 : Option Nat) (v3 : Int32) (M : zM) (so : zM) (ls : List (Nat × zV)), zl_get ls 0 = some (.inr (.inr (4, (some t0)))) → zl_get ls 1 = some (.inr (.inr (5, v1))) → zl_get ls 2 = some (.inr (.inr (8, v2))) → zl_get ls 3 = some (.inl v3) → re_mend_22  d fuel t0 v1 v2 v3 M = some so → Ev zq_T (d + 1) 187 22 ls [] M (none, so) := by
  intro fuel
  induction fuel with
  | zero => intro t0 v1 v2 v3 M so ls g0 g1 g2 g3 hs; exact nomatch hs
  | succ fuel ih =>
    intro t0 v1 v2 v3 M so ls g0 g1 g2 g3 hs
    unfold re_mend_22 at hs
    refine e_ildn cd_187_22 g3 ?_
    refine e_aldn cd_187_23 g0 ?_
    refine e_getI cd_187_24 (Or.inl fd_187_38) rfl ?_
    refine k_if hs (fun c1 hs => ?_) (fun c1 hs => ?_)
    · refine e_icJ cd_187_27 rfl c1 ?_
      exact tie_re_mend_59  d  t0 v1 v2 v3 M so _ g0 g1 g2 g3 hs
    · refine e_icN cd_187_27 rfl c1 ?_
      refine e_aldn cd_187_30 g2 ?_
      refine e_aldn cd_187_31 g0 ?_
      refine e_getR cd_187_32 fd_187_15 rfl ?_
      refine e_ildn cd_187_35 g3 ?_
      refine k_opt hs (fun _ q => nomatch q) (fun k2 h3 hs => ?_)
      obtain ⟨c4, hs⟩ := z_ite hs
      refine e_iald cd_187_36 rfl h3 c4 ?_
      refine k_opt hs (fun _ q => nomatch q) (fun k5 h6 hs => ?_)
      obtain ⟨q7, h8, hs⟩ := k_bind hs
      refine e_cvi cd_187_37 kd_187_50 rfl rfl rfl h6 rfl nl_248 rfl rfl (tie_wk_step d k5 (zm_I M 20 k2 (v3 : Int32).toNatClampNeg) M _ h8) ?_
      refine k_if hs (fun c9 hs => ?_) (fun c9 hs => ?_)
      · refine e_izJ cd_187_40 rfl c9 ?_
        exact tie_re_mend_59  d  t0 v1 v2 v3 q7.2 so _ g0 g1 g2 g3 hs
      · refine e_izN cd_187_40 rfl c9 ?_
        refine k_let hs (fun x10 e11 hs => ?_)
        refine e_incK cd_187_43 nl_187 rfl g3 ci_1 e11 ?_
        intro _ gn kp
        have u12 := kp 0 _ g0 rfl rfl
        have u13 := kp 1 _ g1 rfl rfl
        have u14 := kp 2 _ g2 rfl rfl
        have u15 := gn
        refine e_aldn cd_187_46 u12 ?_
        refine e_getR cd_187_47 fd_187_31 rfl ?_
        refine e_ildn cd_187_50 u15 ?_
        refine e_aldn cd_187_51 u14 ?_
        obtain ⟨q16, h17, hs⟩ := k_bind hs
        refine e_cvi cd_187_52 kd_187_90 rfl rfl rfl h6 rfl nl_254 rfl rfl (tie_wk_state d k5 q7.2 _ h17) ?_
        refine k_opt hs (fun _ q => nomatch q) (fun k18 h19 hs => ?_)
        obtain ⟨c20, hs⟩ := z_ite hs
        refine k_let hs (fun M21 e22 hs => ?_)
        refine e_iast cd_187_55 rfl h19 c20 e22 ?_
        refine e_goto cd_187_56 rfl ?_
        exact ih t0 v1 v2 x10 M21 so _ u12 u13 u14 u15 hs
theorem tieb_re_mend  (d : Nat)  (a0 : Nat) (a1 : Option Nat) (a2 : Option Nat) (M : zM) (so : zM) (hs : re_mend_b  d a0 a1 a2 M = some so) : Ev zq_T (d + 1) 187 0 (zl_args 0 [.inr (.inr (4, some a0)), .inr (.inr (5, a1)), .inr (.inr (8, a2))]) [] M (none, so) := by
  unfold re_mend_b at hs
  have g0 : zl_get (zl_args 0 [.inr (.inr (4, some a0)), .inr (.inr (5, a1)), .inr (.inr (8, a2))]) 0 = some (.inr (.inr (4, (some a0)))) := rfl
  have g1 : zl_get (zl_args 0 [.inr (.inr (4, some a0)), .inr (.inr (5, a1)), .inr (.inr (8, a2))]) 1 = some (.inr (.inr (5, a1))) := rfl
  have g2 : zl_get (zl_args 0 [.inr (.inr (4, some a0)), .inr (.inr (5, a1)), .inr (.inr (8, a2))]) 2 = some (.inr (.inr (8, a2))) := rfl
  refine e_aldn cd_187_0 g0 ?_
  refine e_const cd_187_1 ci_1 ?_
  refine k_let hs (fun M1 e2 hs => ?_)
  refine e_putZ cd_187_2 pd_187_34 (Or.inr rfl) rfl e2 ?_
  refine e_const cd_187_5 ci_0 ?_
  refine e_iKn cd_187_6 nl_187 rfl rfl ?_
  intro _ gn kp
  have u3 := kp 0 _ g0 rfl rfl
  have u4 := kp 1 _ g1 rfl rfl
  have u5 := kp 2 _ g2 rfl rfl
  have u6 := gn
  refine e_aldn cd_187_7 u5 ?_
  refine e_aldn cd_187_8 u4 ?_
  refine k_opt hs (fun _ q => nomatch q) (fun k7 h8 hs => ?_)
  obtain ⟨q9, h10, hs⟩ := k_bind hs
  refine e_cvi cd_187_9 kd_187_41 rfl rfl rfl h8 rfl nl_242 rfl rfl (tie_wk_begin d k7 a1 M1 _ h10) ?_
  refine e_aldn cd_187_12 u3 ?_
  refine e_getR cd_187_13 fd_187_31 rfl ?_
  refine e_const cd_187_16 ci_0 ?_
  refine e_aldn cd_187_17 u5 ?_
  obtain ⟨q11, h12, hs⟩ := k_bind hs
  refine e_cvi cd_187_18 kd_187_90 rfl rfl rfl h8 rfl nl_254 rfl rfl (tie_wk_state d k7 q9 _ h12) ?_
  refine k_opt hs (fun _ q => nomatch q) (fun k13 h14 hs => ?_)
  obtain ⟨c15, hs⟩ := z_ite hs
  refine k_let hs (fun M16 e17 hs => ?_)
  refine e_iast cd_187_21 rfl h14 c15 e17 ?_
  exact tie_re_mend_22  d  zLF a0 a1 a2 0 M16 so _ u3 u4 u5 u6 hs
theorem tie_re_mend (d : Nat) (a0 : Nat) (a1 : Option Nat) (a2 : Option Nat) (M : zM) (so : zM) (hs : re_mend d a0 a1 a2 M = some so) : Ev zq_T d 187 0 (zl_args 0 [.inr (.inr (4, some a0)), .inr (.inr (5, a1)), .inr (.inr (8, a2))]) [] M (none, so) := by
  cases d with
  | zero => exact nomatch hs
  | succ d => exact tieb_re_mend d a0 a1 a2 M so hs
theorem tie_ru_init (d : Nat) (a0 : Nat) (M : zM) (so : zM) (hs : ru_init d a0 M = some so) : Ev zq_T d 192 0 (zl_args 0 [.inr (.inr (5, some a0))]) [] M (none, so) := by
  unfold ru_init at hs
  have g0 : zl_get (zl_args 0 [.inr (.inr (5, some a0))]) 0 = some (.inr (.inr (5, (some a0)))) := rfl
  refine e_aldn cd_192_0 g0 ?_
  refine e_obj cd_192_1 kd_192_3 rfl rfl ?_
  refine e_aldn cd_192_4 g0 ?_
  refine e_pure cd_192_5 rfl ?_
  refine k_let hs (fun M1 e2 hs => ?_)
  refine e_putR cd_192_6 pd_192_9 rfl e2 ?_
  refine e_aldn cd_192_9 g0 ?_
  refine e_bip cd_192_10 cb_16 ?_
  refine k_let hs (fun M4 e5 hs => ?_)
  refine e_newa_int cd_192_12 rfl (by decide) e5 ?_
  refine k_let hs (fun M6 e7 hs => ?_)
  refine e_putR cd_192_14 pd_192_15 rfl e7 ?_
  refine e_aldn cd_192_17 g0 ?_
  refine e_bip cd_192_18 cb_16 ?_
  refine k_let hs (fun M9 e10 hs => ?_)
  refine e_anew cd_192_20 ad_192_19 (by decide) e10 ?_
  refine k_let hs (fun M11 e12 hs => ?_)
  refine e_putR cd_192_23 pd_192_21 rfl e12 ?_
  refine e_aldn cd_192_26 g0 ?_
  refine e_bip cd_192_27 cb_16 ?_
  refine k_let hs (fun M14 e15 hs => ?_)
  refine e_newa_int cd_192_29 rfl (by decide) e15 ?_
  refine k_let hs (fun M16 e17 hs => ?_)
  refine e_putR cd_192_31 pd_192_25 rfl e17 ?_
  refine e_aldn cd_192_34 g0 ?_
  refine e_bip cd_192_35 cb_16 ?_
  refine k_let hs (fun M19 e20 hs => ?_)
  refine e_newa_int cd_192_37 rfl (by decide) e20 ?_
  refine k_let hs (fun M21 e22 hs => ?_)
  refine e_putR cd_192_39 pd_192_28 rfl e22 ?_
  refine e_aldn cd_192_42 g0 ?_
  refine e_bip cd_192_43 cbb_8 ?_
  refine k_let hs (fun M24 e25 hs => ?_)
  refine e_newa_int cd_192_45 rfl (by decide) e25 ?_
  refine k_let hs (fun M26 e27 hs => ?_)
  refine e_putR cd_192_47 pd_192_31 rfl e27 ?_
  refine e_aldn cd_192_50 g0 ?_
  refine e_bip cd_192_51 cbb_8 ?_
  refine k_let hs (fun M29 e30 hs => ?_)
  refine e_newa_int cd_192_53 rfl (by decide) e30 ?_
  refine k_let hs (fun M31 e32 hs => ?_)
  refine e_putR cd_192_55 pd_192_34 rfl e32 ?_
  refine e_aldn cd_192_58 g0 ?_
  refine e_bip cd_192_59 cbb_8 ?_
  refine k_let hs (fun M34 e35 hs => ?_)
  refine e_newa_int cd_192_61 rfl (by decide) e35 ?_
  refine k_let hs (fun M36 e37 hs => ?_)
  refine e_putR cd_192_63 pd_192_37 rfl e37 ?_
  refine e_aldn cd_192_66 g0 ?_
  refine e_bip cd_192_67 cbb_8 ?_
  refine k_let hs (fun M39 e40 hs => ?_)
  refine e_anew cd_192_69 ad_192_19 (by decide) e40 ?_
  refine k_let hs (fun M41 e42 hs => ?_)
  refine e_putR cd_192_72 pd_192_40 rfl e42 ?_
  refine e_aldn cd_192_75 g0 ?_
  refine e_const cd_192_76 ci_4 ?_
  refine k_let hs (fun M44 e45 hs => ?_)
  refine e_anew cd_192_77 ad_192_19 (by decide) e45 ?_
  refine k_let hs (fun M46 e47 hs => ?_)
  refine e_putR cd_192_80 pd_192_43 rfl e47 ?_
  have e := Option.some.inj hs
  subst e
  exact e_rv cd_192_83 nr_192
theorem tie_ru_startAnew (d : Nat) (a0 : Nat) (a1 : Int32) (M : zM) (so : zM) (hs : ru_startAnew d a0 a1 M = some so) : Ev zq_T d 193 0 (zl_args 0 [.inr (.inr (5, some a0)), .inl a1]) [] M (none, so) := by
  unfold ru_startAnew at hs
  have g0 : zl_get (zl_args 0 [.inr (.inr (5, some a0)), .inl a1]) 0 = some (.inr (.inr (5, (some a0)))) := rfl
  have g1 : zl_get (zl_args 0 [.inr (.inr (5, some a0)), .inl a1]) 1 = some (.inl a1) := rfl
  refine e_aldn cd_193_0 g0 ?_
  refine e_ildn cd_193_1 g1 ?_
  refine k_let hs (fun M1 e2 hs => ?_)
  refine e_putI cd_193_2 pd_193_46 rfl e2 ?_
  refine e_aldn cd_193_5 g0 ?_
  refine e_pure cd_193_6 rfl ?_
  refine k_let hs (fun M3 e4 hs => ?_)
  refine e_putR cd_193_7 pd_193_9 rfl e4 ?_
  refine e_aldn cd_193_10 g0 ?_
  refine e_const cd_193_11 ci_0 ?_
  refine k_let hs (fun M5 e6 hs => ?_)
  refine e_putI cd_193_12 pd_193_50 rfl e6 ?_
  refine e_aldn cd_193_15 g0 ?_
  refine e_const cd_193_16 ci_0 ?_
  refine k_let hs (fun M7 e8 hs => ?_)
  refine e_putI cd_193_17 pd_193_53 rfl e8 ?_
  refine e_aldn cd_193_20 g0 ?_
  refine e_const cd_193_21 ci_0 ?_
  refine k_let hs (fun M9 e10 hs => ?_)
  refine e_putI cd_193_22 pd_193_56 rfl e10 ?_
  have e := Option.some.inj hs
  subst e
  exact e_rv cd_193_25 nr_193
theorem tie_ru_anysAround_30 (kl9 : Int32 → Option Nat → zM → Option (Int32 × zM)) (d : Nat) (hk9 : ∀ (v2 : Int32) (v3 : Option Nat) (M : zM) (so : Int32 × zM) (ls : List (Nat × zV)), zl_get ls 2 = some (.inl v2) → zl_get ls 3 = some (.inr (.inr (3, v3))) → kl9 v2 v3 M = some so → Ev zq_T d 197 9 ls [] M (some (.inl so.1), so.2)) (v2 : Int32) (v3 : Option Nat) (M : zM) (so : Int32 × zM) (ls : List (Nat × zV)) (g2 : zl_get ls 2 = some (.inl v2)) (g3 : zl_get ls 3 = some (.inr (.inr (3, v3)))) (hs : ru_anysAround_30 kl9 d v2 v3 M = some so) : Ev zq_T d 197 30 ls [] M (some (.inl so.1), so.2) := by
  unfold ru_anysAround_30 at hs
  refine e_aldn cd_197_30 g3 ?_
  refine k_opt hs (fun _ q => nomatch q) (fun k1 h2 hs => ?_)
  refine e_getR cd_197_31 fd_197_70 h2 ?_
  refine e_aKn cd_197_34 nl_197 rfl rfl ?_
  intro _ gn kp
  have u3 := kp 2 _ g2 rfl rfl
  have u4 := gn
  refine e_goto cd_197_35 rfl ?_
  exact hk9 v2 (zm_R M 3 k1 4) M so _ u3 u4 hs
theorem tie_ru_anysAround_9  (d : Nat)  : ∀ (fuel : Nat) (v2 : Int32) (v3 : Option Nat) (M : zM) (so : Int32 × zM) (ls : List (Nat × zV)), zl_get ls 2 = some (.inl v2) → zl_get ls 3 = some (.inr (.inr (3, v3))) → ru_anysAround_9  d fuel v2 v3 M = some so → Ev zq_T d 197 9 ls [] M (some (.inl so.1), so.2) := by
  intro fuel
  induction fuel with
  | zero => intro v2 v3 M so ls g2 g3 hs; exact nomatch hs
  | succ fuel ih =>
    intro v2 v3 M so ls g2 g3 hs
    unfold ru_anysAround_9 at hs
    refine e_aldn cd_197_9 g3 ?_
    refine k_opt hs (fun h1 hs => ?_) (fun k2 h1 hs => ?_)
    · refine e_nu0 cd_197_10 rfl h1 ?_
      refine e_ildn cd_197_38 g2 ?_
      have e := Option.some.inj hs
      subst e
      exact e_ri cd_197_39 nr_197
    · refine e_nu1 cd_197_10 rfl h1 ?_
      refine e_aldn cd_197_13 g3 ?_
      refine e_getI cd_197_14 (Or.inl fd_197_64) h1 ?_
      refine e_const cd_197_17 ci_5 ?_
      refine k_if hs (fun c3 hs => ?_) (fun c3 hs => ?_)
      · refine e_icN cd_197_18 rfl (fun q => q c3) ?_
        refine e_ildn cd_197_21 g2 ?_
        refine e_const cd_197_22 ci_1 ?_
        refine e_aldn cd_197_23 g3 ?_
        refine e_getI cd_197_24 (Or.inl fd_197_67) h1 ?_
        refine e_pure cd_197_27 rfl ?_
        refine e_pure cd_197_28 rfl ?_
        refine k_let hs (fun x4 e5 hs => ?_)
        refine e_iKn cd_197_29 nl_197 rfl e5 ?_
        intro _ gn kp
        have u6 := kp 3 _ g3 rfl rfl
        have u7 := gn
        exact tie_ru_anysAround_30 (fun p0 p1 m => ru_anysAround_9  d fuel p0 p1 m) d ih x4 v3 M so _ u7 u6 hs
      · refine e_icJ cd_197_18 rfl c3 ?_
        exact tie_ru_anysAround_30 (fun p0 p1 m => ru_anysAround_9  d fuel p0 p1 m) d ih v2 v3 M so _ g2 g3 hs
theorem tie_ru_anysAround (d : Nat) (a0 : Nat) (a1 : Int32) (M : zM) (so : Int32 × zM) (hs : ru_anysAround d a0 a1 M = some so) : Ev zq_T d 197 0 (zl_args 0 [.inr (.inr (5, some a0)), .inl a1]) [] M (some (.inl so.1), so.2) := by
  unfold ru_anysAround at hs
  have g0 : zl_get (zl_args 0 [.inr (.inr (5, some a0)), .inl a1]) 0 = some (.inr (.inr (5, (some a0)))) := rfl
  have g1 : zl_get (zl_args 0 [.inr (.inr (5, some a0)), .inl a1]) 1 = some (.inl a1) := rfl
  refine e_const cd_197_0 ci_0 ?_
  refine e_iKn cd_197_1 nl_197 rfl rfl ?_
  intro _ gn kp
  have u1 := kp 0 _ g0 rfl rfl
  have u2 := kp 1 _ g1 rfl rfl
  have u3 := gn
  refine e_aldn cd_197_2 u1 ?_
  refine e_getR cd_197_3 fd_197_21 rfl ?_
  refine e_ildn cd_197_6 u2 ?_
  refine k_opt hs (fun _ q => nomatch q) (fun k4 h5 hs => ?_)
  obtain ⟨c6, hs⟩ := z_ite hs
  refine e_aald cd_197_7 rfl h5 c6 ?_
  refine e_aKn cd_197_8 nl_197 rfl rfl ?_
  intro _ gn kp
  have u7 := kp 2 _ u3 rfl rfl
  have u8 := gn
  exact tie_ru_anysAround_9  d  zLF 0 (zm_R M 24 k4 (a1 : Int32).toNatClampNeg) M so _ u7 u8 hs
theorem tie_rs_init_15  (d : Nat)  : ∀ (fuel : Nat) (t0 : Nat) (v1 : Int32) (M : zM) (so : zM) (ls : List (Nat × zV)), zl_get ls 0 = some (.inr (.inr (6, (some t0)))) → zl_get ls 1 = some (.inl v1) → rs_init_15  d fuel t0 v1 M = some so → Ev zq_T (d + 1) 198 15 ls [] M (none, so) := by
  intro fuel
  induction fuel with
  | zero => intro t0 v1 M so ls g0 g1 hs; exact nomatch hs
  | succ fuel ih =>
    intro t0 v1 M so ls g0 g1 hs
    unfold rs_init_15 at hs
    refine e_ildn cd_198_15 g1 ?_
    refine e_bip cd_198_16 cbb_8 ?_
    refine k_if hs (fun c1 hs => ?_) (fun c1 hs => ?_)
    · refine e_icJ cd_198_18 rfl c1 ?_
      refine e_aldn cd_198_40 g0 ?_
      refine e_const cd_198_41 ci_0 ?_
      refine k_let hs (fun M2 e3 hs => ?_)
      refine e_putI cd_198_42 pd_198_18 rfl e3 ?_
      refine e_aldn cd_198_45 g0 ?_
      refine e_sip cd_198_46 cs_400 ?_
      refine k_let hs (fun M5 e6 hs => ?_)
      refine e_anew cd_198_49 ad_198_22 (by decide) e6 ?_
      refine k_let hs (fun M7 e8 hs => ?_)
      refine e_putR cd_198_52 pd_198_24 rfl e8 ?_
      refine e_aldn cd_198_55 g0 ?_
      refine e_const cd_198_56 ci_0 ?_
      refine k_let hs (fun M10 e11 hs => ?_)
      refine e_newa_int cd_198_57 rfl (by decide) e11 ?_
      refine k_let hs (fun M12 e13 hs => ?_)
      refine e_putR cd_198_59 pd_198_28 rfl e13 ?_
      refine e_aldn cd_198_62 g0 ?_
      refine e_aldn cd_198_63 g0 ?_
      refine e_getR cd_198_64 fd_198_11 rfl ?_
      refine e_const cd_198_67 ci_0 ?_
      refine k_opt hs (fun _ q => nomatch q) (fun k14 h15 hs => ?_)
      obtain ⟨c16, hs⟩ := z_ite hs
      refine e_aald cd_198_68 rfl h15 c16 ?_
      refine k_let hs (fun M17 e18 hs => ?_)
      refine e_putR cd_198_69 pd_198_32 rfl e18 ?_
      have e := Option.some.inj hs
      subst e
      exact e_rv cd_198_72 nr_198
    · refine e_icN cd_198_18 rfl c1 ?_
      refine e_aldn cd_198_21 g0 ?_
      refine e_getR cd_198_22 fd_198_11 rfl ?_
      refine e_ildn cd_198_25 g1 ?_
      refine k_let hs (fun M19 e20 hs => ?_)
      refine e_new cd_198_26 nd_198_9 e20 ?_
      refine e_pure cd_198_29 rfl ?_
      obtain ⟨q21, h22, hs⟩ := k_bind hs
      refine e_csn cd_198_30 kd_198_17 rfl rfl rfl rfl rfl nl_192 rfl rfl (tie_ru_init d (zm_n M) M19 _ h22) ?_
      refine k_opt hs (fun _ q => nomatch q) (fun k23 h24 hs => ?_)
      obtain ⟨c25, hs⟩ := z_ite hs
      refine k_let hs (fun M26 e27 hs => ?_)
      refine e_aast cd_198_33 rfl h24 c25 e27 ?_
      refine k_let hs (fun x28 e29 hs => ?_)
      refine e_incK cd_198_34 nl_198 rfl g1 ci_1 e29 ?_
      intro _ gn kp
      have u30 := kp 0 _ g0 rfl rfl
      have u31 := gn
      refine e_goto cd_198_37 rfl ?_
      exact ih t0 x28 M26 so _ u30 u31 hs
theorem tieb_rs_init  (d : Nat)  (a0 : Nat) (M : zM) (so : zM) (hs : rs_init_b  d a0 M = some so) : Ev zq_T (d + 1) 198 0 (zl_args 0 [.inr (.inr (6, some a0))]) [] M (none, so) := by
  unfold rs_init_b at hs
  have g0 : zl_get (zl_args 0 [.inr (.inr (6, some a0))]) 0 = some (.inr (.inr (6, (some a0)))) := rfl
  refine e_aldn cd_198_0 g0 ?_
  refine e_obj cd_198_1 kd_198_3 rfl rfl ?_
  refine e_aldn cd_198_4 g0 ?_
  refine e_bip cd_198_5 cbb_8 ?_
  refine k_let hs (fun M2 e3 hs => ?_)
  refine e_anew cd_198_7 ad_198_9 (by decide) e3 ?_
  refine k_let hs (fun M4 e5 hs => ?_)
  refine e_putR cd_198_10 pd_198_11 rfl e5 ?_
  refine e_const cd_198_13 ci_0 ?_
  refine e_iKn cd_198_14 nl_198 rfl rfl ?_
  intro _ gn kp
  have u6 := kp 0 _ g0 rfl rfl
  have u7 := gn
  exact tie_rs_init_15  d  zLF a0 0 M4 so _ u6 u7 hs
theorem tie_rs_init (d : Nat) (a0 : Nat) (M : zM) (so : zM) (hs : rs_init d a0 M = some so) : Ev zq_T d 198 0 (zl_args 0 [.inr (.inr (6, some a0))]) [] M (none, so) := by
  cases d with
  | zero => exact nomatch hs
  | succ d => exact tieb_rs_init d a0 M so hs
theorem tie_rs_clearOnes_4  (d : Nat)  : ∀ (fuel : Nat) (t0 : Nat) (v1 : Int32) (v2 : Int32) (M : zM) (so : Int32 × zM) (ls : List (Nat × zV)), zl_get ls 0 = some (.inr (.inr (6, (some t0)))) → zl_get ls 1 = some (.inl v1) → zl_get ls 2 = some (.inl v2) → rs_clearOnes_4  d fuel t0 v1 v2 M = some so → Ev zq_T (d + 1) 200 4 ls [] M (some (.inl so.1), so.2) := by
  intro fuel
  induction fuel with
  | zero => intro t0 v1 v2 M so ls g0 g1 g2 hs; exact nomatch hs
  | succ fuel ih =>
    intro t0 v1 v2 M so ls g0 g1 g2 hs
    unfold rs_clearOnes_4 at hs
    refine e_ildn cd_200_4 g2 ?_
    refine e_aldn cd_200_5 g0 ?_
    refine e_getI cd_200_6 (Or.inl fd_200_18) rfl ?_
    refine k_if hs (fun c1 hs => ?_) (fun c1 hs => ?_)
    · refine e_icJ cd_200_9 rfl c1 ?_
      refine e_ildn cd_200_35 g1 ?_
      have e := Option.some.inj hs
      subst e
      exact e_ri cd_200_36 nr_200
    · refine e_icN cd_200_9 rfl c1 ?_
      refine e_ildn cd_200_12 g1 ?_
      refine e_aldn cd_200_13 g0 ?_
      refine e_getR cd_200_14 fd_200_11 rfl ?_
      refine e_ildn cd_200_17 g2 ?_
      refine k_opt hs (fun _ q => nomatch q) (fun k2 h3 hs => ?_)
      obtain ⟨c4, hs⟩ := z_ite hs
      refine e_aald cd_200_18 rfl h3 c4 ?_
      refine k_opt hs (fun _ q => nomatch q) (fun k5 h6 hs => ?_)
      refine e_getI cd_200_19 (Or.inr fd_200_39) h6 ?_
      obtain ⟨q7, h8, hs⟩ := k_bind hs
      refine e_csN cd_200_22 kd_200_43 rfl rfl rfl nl_292 rfl rfl (tie_cr_bit d (zm_I M 5 k5 15) M _ h8) ?_
      refine e_ildn cd_200_25 g2 ?_
      refine e_pure cd_200_26 rfl ?_
      refine e_pure cd_200_27 rfl ?_
      refine k_let hs (fun x9 e10 hs => ?_)
      refine e_iKn cd_200_28 nl_200 rfl e10 ?_
      intro _ gn kp
      have u11 := kp 0 _ g0 rfl rfl
      have u12 := kp 2 _ g2 rfl rfl
      have u13 := gn
      refine k_let hs (fun x14 e15 hs => ?_)
      refine e_incK cd_200_29 nl_200 rfl u12 ci_1 e15 ?_
      intro _ gn kp
      have u16 := kp 0 _ u11 rfl rfl
      have u17 := kp 1 _ u13 rfl rfl
      have u18 := gn
      refine e_goto cd_200_32 rfl ?_
      exact ih t0 x9 x14 q7.2 so _ u16 u17 u18 hs
theorem tieb_rs_clearOnes  (d : Nat)  (a0 : Nat) (M : zM) (so : Int32 × zM) (hs : rs_clearOnes_b  d a0 M = some so) : Ev zq_T (d + 1) 200 0 (zl_args 0 [.inr (.inr (6, some a0))]) [] M (some (.inl so.1), so.2) := by
  unfold rs_clearOnes_b at hs
  have g0 : zl_get (zl_args 0 [.inr (.inr (6, some a0))]) 0 = some (.inr (.inr (6, (some a0)))) := rfl
  refine e_const cd_200_0 ci_0 ?_
  refine e_iKn cd_200_1 nl_200 rfl rfl ?_
  intro _ gn kp
  have u1 := kp 0 _ g0 rfl rfl
  have u2 := gn
  refine e_const cd_200_2 ci_0 ?_
  refine e_iKn cd_200_3 nl_200 rfl rfl ?_
  intro _ gn kp
  have u3 := kp 0 _ u1 rfl rfl
  have u4 := kp 1 _ u2 rfl rfl
  have u5 := gn
  exact tie_rs_clearOnes_4  d  zLF a0 0 0 M so _ u3 u4 u5 hs
theorem tie_rs_clearOnes (d : Nat) (a0 : Nat) (M : zM) (so : Int32 × zM) (hs : rs_clearOnes d a0 M = some so) : Ev zq_T d 200 0 (zl_args 0 [.inr (.inr (6, some a0))]) [] M (some (.inl so.1), so.2) := by
  cases d with
  | zero => exact nomatch hs
  | succ d => exact tieb_rs_clearOnes d a0 M so hs
theorem tie_rs_sureOnes_4  (d : Nat)  : ∀ (fuel : Nat) (t0 : Nat) (v1 : Int32) (v2 : Int32) (M : zM) (so : Int32 × zM) (ls : List (Nat × zV)), zl_get ls 0 = some (.inr (.inr (6, (some t0)))) → zl_get ls 1 = some (.inl v1) → zl_get ls 2 = some (.inl v2) → rs_sureOnes_4  d fuel t0 v1 v2 M = some so → Ev zq_T (d + 1) 201 4 ls [] M (some (.inl so.1), so.2) := by
  intro fuel
  induction fuel with
  | zero => intro t0 v1 v2 M so ls g0 g1 g2 hs; exact nomatch hs
  | succ fuel ih =>
    intro t0 v1 v2 M so ls g0 g1 g2 hs
    unfold rs_sureOnes_4 at hs
    refine e_ildn cd_201_4 g2 ?_
    refine e_aldn cd_201_5 g0 ?_
    refine e_getI cd_201_6 (Or.inl fd_201_18) rfl ?_
    refine k_if hs (fun c1 hs => ?_) (fun c1 hs => ?_)
    · refine e_icJ cd_201_9 rfl c1 ?_
      refine e_ildn cd_201_35 g1 ?_
      have e := Option.some.inj hs
      subst e
      exact e_ri cd_201_36 nr_201
    · refine e_icN cd_201_9 rfl c1 ?_
      refine e_ildn cd_201_12 g1 ?_
      refine e_aldn cd_201_13 g0 ?_
      refine e_getR cd_201_14 fd_201_11 rfl ?_
      refine e_ildn cd_201_17 g2 ?_
      refine k_opt hs (fun _ q => nomatch q) (fun k2 h3 hs => ?_)
      obtain ⟨c4, hs⟩ := z_ite hs
      refine e_aald cd_201_18 rfl h3 c4 ?_
      refine k_opt hs (fun _ q => nomatch q) (fun k5 h6 hs => ?_)
      refine e_getI cd_201_19 (Or.inr fd_201_47) h6 ?_
      obtain ⟨q7, h8, hs⟩ := k_bind hs
      refine e_csN cd_201_22 kd_201_43 rfl rfl rfl nl_292 rfl rfl (tie_cr_bit d (zm_I M 5 k5 16) M _ h8) ?_
      refine e_ildn cd_201_25 g2 ?_
      refine e_pure cd_201_26 rfl ?_
      refine e_pure cd_201_27 rfl ?_
      refine k_let hs (fun x9 e10 hs => ?_)
      refine e_iKn cd_201_28 nl_201 rfl e10 ?_
      intro _ gn kp
      have u11 := kp 0 _ g0 rfl rfl
      have u12 := kp 2 _ g2 rfl rfl
      have u13 := gn
      refine k_let hs (fun x14 e15 hs => ?_)
      refine e_incK cd_201_29 nl_201 rfl u12 ci_1 e15 ?_
      intro _ gn kp
      have u16 := kp 0 _ u11 rfl rfl
      have u17 := kp 1 _ u13 rfl rfl
      have u18 := gn
      refine e_goto cd_201_32 rfl ?_
      exact ih t0 x9 x14 q7.2 so _ u16 u17 u18 hs
theorem tieb_rs_sureOnes  (d : Nat)  (a0 : Nat) (M : zM) (so : Int32 × zM) (hs : rs_sureOnes_b  d a0 M = some so) : Ev zq_T (d + 1) 201 0 (zl_args 0 [.inr (.inr (6, some a0))]) [] M (some (.inl so.1), so.2) := by
  unfold rs_sureOnes_b at hs
  have g0 : zl_get (zl_args 0 [.inr (.inr (6, some a0))]) 0 = some (.inr (.inr (6, (some a0)))) := rfl
  refine e_const cd_201_0 ci_0 ?_
  refine e_iKn cd_201_1 nl_201 rfl rfl ?_
  intro _ gn kp
  have u1 := kp 0 _ g0 rfl rfl
  have u2 := gn
  refine e_const cd_201_2 ci_0 ?_
  refine e_iKn cd_201_3 nl_201 rfl rfl ?_
  intro _ gn kp
  have u3 := kp 0 _ u1 rfl rfl
  have u4 := kp 1 _ u2 rfl rfl
  have u5 := gn
  exact tie_rs_sureOnes_4  d  zLF a0 0 0 M so _ u3 u4 u5 hs
theorem tie_rs_sureOnes (d : Nat) (a0 : Nat) (M : zM) (so : Int32 × zM) (hs : rs_sureOnes d a0 M = some so) : Ev zq_T d 201 0 (zl_args 0 [.inr (.inr (6, some a0))]) [] M (some (.inl so.1), so.2) := by
  cases d with
  | zero => exact nomatch hs
  | succ d => exact tieb_rs_sureOnes d a0 M so hs
theorem tie_rs_sign_62  (d : Nat)  (s0 : Int32) (M : zM) (so : Int32 × zM) (ls : List (Nat × zV))  (hs : rs_sign_62  d s0 M = some so) : Ev zq_T d 203 62 ls [.inl s0] M (some (.inl so.1), so.2) := by
  unfold rs_sign_62 at hs
  have e := Option.some.inj hs
  subst e
  exact e_ri cd_203_62 nr_203
theorem tie_rs_sign_38  (d : Nat)  (t0 : Nat) (M : zM) (so : Int32 × zM) (ls : List (Nat × zV)) (g0 : zl_get ls 0 = some (.inr (.inr (6, (some t0))))) (hs : rs_sign_38  d t0 M = some so) : Ev zq_T d 203 38 ls [] M (some (.inl so.1), so.2) := by
  unfold rs_sign_38 at hs
  refine e_aldn cd_203_38 g0 ?_
  refine e_getI cd_203_39 (Or.inl fd_203_53) rfl ?_
  refine e_aldn cd_203_42 g0 ?_
  refine e_getI cd_203_43 (Or.inl fd_203_50) rfl ?_
  refine k_if hs (fun c1 hs => ?_) (fun c1 hs => ?_)
  · refine e_icJ cd_203_46 rfl c1 ?_
    refine e_const cd_203_61 ci_m1 ?_
    exact tie_rs_sign_62  d  (-1) M so _  hs
  · refine e_icN cd_203_46 rfl c1 ?_
    refine e_aldn cd_203_49 g0 ?_
    refine e_getR cd_203_50 fd_203_28 rfl ?_
    refine e_aldn cd_203_53 g0 ?_
    refine e_getI cd_203_54 (Or.inl fd_203_53) rfl ?_
    refine k_opt hs (fun _ q => nomatch q) (fun k2 h3 hs => ?_)
    obtain ⟨c4, hs⟩ := z_ite hs
    refine e_iald cd_203_57 rfl h3 c4 ?_
    refine e_goto cd_203_58 rfl ?_
    exact tie_rs_sign_62  d  (zm_I M 20 k2 (zm_I M 6 t0 6).toNatClampNeg) M so _  hs
theorem tie_rs_sign_0  (d : Nat)  : ∀ (fuel : Nat) (t0 : Nat) (M : zM) (so : Int32 × zM) (ls : List (Nat × zV)), zl_get ls 0 = some (.inr (.inr (6, (some t0)))) → rs_sign_0  d fuel t0 M = some so → Ev zq_T d 203 0 ls [] M (some (.inl so.1), so.2) := by
  intro fuel
  induction fuel with
  | zero => intro t0 M so ls g0 hs; exact nomatch hs
  | succ fuel ih =>
    intro t0 M so ls g0 hs
    unfold rs_sign_0 at hs
    refine e_aldn cd_203_0 g0 ?_
    refine e_getI cd_203_1 (Or.inl fd_203_53) rfl ?_
    refine e_aldn cd_203_4 g0 ?_
    refine e_getI cd_203_5 (Or.inl fd_203_50) rfl ?_
    refine k_if hs (fun c1 hs => ?_) (fun c1 hs => ?_)
    · refine e_icJ cd_203_8 rfl c1 ?_
      exact tie_rs_sign_38  d  t0 M so _ g0 hs
    · refine e_icN cd_203_8 rfl c1 ?_
      refine e_aldn cd_203_11 g0 ?_
      refine e_getR cd_203_12 fd_203_28 rfl ?_
      refine e_aldn cd_203_15 g0 ?_
      refine e_getI cd_203_16 (Or.inl fd_203_53) rfl ?_
      refine k_opt hs (fun _ q => nomatch q) (fun k2 h3 hs => ?_)
      obtain ⟨c4, hs⟩ := z_ite hs
      refine e_iald cd_203_19 rfl h3 c4 ?_
      refine e_bip cd_203_20 cb_32 ?_
      refine k_if hs (fun c5 hs => ?_) (fun c5 hs => ?_)
      · refine e_icN cd_203_22 rfl (fun q => q c5) ?_
        refine e_aldn cd_203_25 g0 ?_
        refine e_pure cd_203_26 rfl ?_
        refine e_getI cd_203_27 (Or.inl fd_203_53) rfl ?_
        refine e_const cd_203_30 ci_1 ?_
        refine e_pure cd_203_31 rfl ?_
        refine k_let hs (fun M6 e7 hs => ?_)
        refine e_putI cd_203_32 pd_203_53 rfl e7 ?_
        refine e_goto cd_203_35 rfl ?_
        exact ih t0 M6 so _ g0 hs
      · refine e_icJ cd_203_22 rfl c5 ?_
        exact tie_rs_sign_38  d  t0 M so _ g0 hs
theorem tie_rs_sign (d : Nat) (a0 : Nat) (M : zM) (so : Int32 × zM) (hs : rs_sign d a0 M = some so) : Ev zq_T d 203 0 (zl_args 0 [.inr (.inr (6, some a0))]) [] M (some (.inl so.1), so.2) := by
  unfold rs_sign at hs
  have g0 : zl_get (zl_args 0 [.inr (.inr (6, some a0))]) 0 = some (.inr (.inr (6, (some a0)))) := rfl
  exact tie_rs_sign_0  d  zLF a0 M so _ g0 hs
theorem tie_rs_fails (d : Nat) (a0 : Nat) (M : zM) (so : Int32 × zM) (hs : rs_fails d a0 M = some so) : Ev zq_T d 204 0 (zl_args 0 [.inr (.inr (6, some a0))]) [] M (some (.inl so.1), so.2) := by
  unfold rs_fails at hs
  have g0 : zl_get (zl_args 0 [.inr (.inr (6, some a0))]) 0 = some (.inr (.inr (6, (some a0)))) := rfl
  refine e_aldn cd_204_0 g0 ?_
  refine e_aldn cd_204_1 g0 ?_
  refine e_getI cd_204_2 (Or.inl fd_204_53) rfl ?_
  refine k_let hs (fun M1 e2 hs => ?_)
  refine e_putI cd_204_5 pd_204_56 rfl e2 ?_
  refine e_const cd_204_8 ci_0 ?_
  have e := Option.some.inj hs
  subst e
  exact e_rz cd_204_9 nr_204 (Or.inl rfl)
theorem tie_rs_isLetter_17  (d : Nat)  (s0 : Int32) (M : zM) (so : Int32 × zM) (ls : List (Nat × zV))  (hs : rs_isLetter_17  d s0 M = some so) : Ev zq_T d 207 17 ls [.inl s0] M (some (.inl so.1), so.2) := by
  unfold rs_isLetter_17 at hs
  obtain ⟨c1, hs⟩ := z_ite hs
  have e := Option.some.inj hs
  subst e
  exact e_rz cd_207_17 nr_207 c1
theorem tie_rs_isLetter_16  (d : Nat)   (M : zM) (so : Int32 × zM) (ls : List (Nat × zV))  (hs : rs_isLetter_16  d  M = some so) : Ev zq_T d 207 16 ls [] M (some (.inl so.1), so.2) := by
  unfold rs_isLetter_16 at hs
  refine e_const cd_207_16 ci_0 ?_
  exact tie_rs_isLetter_17  d  0 M so _  hs
theorem tie_rs_isLetter (d : Nat) (a0 : Int32) (M : zM) (so : Int32 × zM) (hs : rs_isLetter d a0 M = some so) : Ev zq_T d 207 0 (zl_args 0 [.inl a0]) [] M (some (.inl so.1), so.2) := by
  unfold rs_isLetter at hs
  have g0 : zl_get (zl_args 0 [.inl a0]) 0 = some (.inl a0) := rfl
  refine e_ildn cd_207_0 g0 ?_
  refine e_bip cd_207_1 cb_97 ?_
  refine k_if hs (fun c1 hs => ?_) (fun c1 hs => ?_)
  · refine e_icJ cd_207_3 rfl c1 ?_
    exact tie_rs_isLetter_16  d   M so _  hs
  · refine e_icN cd_207_3 rfl c1 ?_
    refine e_ildn cd_207_6 g0 ?_
    refine e_bip cd_207_7 cb_122 ?_
    refine k_if hs (fun c2 hs => ?_) (fun c2 hs => ?_)
    · refine e_icJ cd_207_9 rfl c2 ?_
      exact tie_rs_isLetter_16  d   M so _  hs
    · refine e_icN cd_207_9 rfl c2 ?_
      refine e_const cd_207_12 ci_1 ?_
      refine e_goto cd_207_13 rfl ?_
      exact tie_rs_isLetter_17  d  1 M so _  hs
theorem tie_rs_noNode (d : Nat) (a0 : Nat) (M : zM) (so : Option Nat × zM) (hs : rs_noNode d a0 M = some so) : Ev zq_T d 205 0 (zl_args 0 [.inr (.inr (6, some a0))]) [] M (some (.inr (.inr (3, so.1))), so.2) := by
  unfold rs_noNode at hs
  have g0 : zl_get (zl_args 0 [.inr (.inr (6, some a0))]) 0 = some (.inr (.inr (6, (some a0)))) := rfl
  refine e_aldn cd_205_0 g0 ?_
  refine e_aldn cd_205_1 g0 ?_
  refine e_getI cd_205_2 (Or.inl fd_205_53) rfl ?_
  refine k_let hs (fun M1 e2 hs => ?_)
  refine e_putI cd_205_5 pd_205_56 rfl e2 ?_
  refine e_pure cd_205_8 rfl ?_
  have e := Option.some.inj hs
  subst e
  exact e_rr cd_205_9 nr_205
theorem tie_rs_make_43  (d : Nat)  (t0 : Nat) (v1 : Int32) (v2 : Int32) (M : zM) (so : Option Nat × zM) (ls : List (Nat × zV)) (g0 : zl_get ls 0 = some (.inr (.inr (6, (some t0))))) (g1 : zl_get ls 1 = some (.inl v1)) (g2 : zl_get ls 2 = some (.inl v2)) (hs : rs_make_43  d t0 v1 v2 M = some so) : Ev zq_T (d + 1) 206 43 ls [] M (some (.inr (.inr (3, so.1))), so.2) := by
  unfold rs_make_43 at hs
  refine e_aldn cd_206_43 g0 ?_
  refine e_getR cd_206_44 fd_206_24 rfl ?_
  refine e_aldn cd_206_47 g0 ?_
  refine e_getI cd_206_48 (Or.inl fd_206_59) rfl ?_
  refine k_opt hs (fun _ q => nomatch q) (fun k1 h2 hs => ?_)
  obtain ⟨c3, hs⟩ := z_ite hs
  refine e_aald cd_206_51 rfl h2 c3 ?_
  refine e_aKn cd_206_52 nl_206 rfl rfl ?_
  intro _ gn kp
  have u4 := kp 0 _ g0 rfl rfl
  have u5 := kp 1 _ g1 rfl rfl
  have u6 := kp 2 _ g2 rfl rfl
  have u7 := gn
  refine e_aldn cd_206_53 u4 ?_
  refine e_pure cd_206_54 rfl ?_
  refine e_getI cd_206_55 (Or.inl fd_206_59) rfl ?_
  refine e_const cd_206_58 ci_1 ?_
  refine e_pure cd_206_59 rfl ?_
  refine k_let hs (fun M8 e9 hs => ?_)
  refine e_putI cd_206_60 pd_206_59 rfl e9 ?_
  refine e_aldn cd_206_63 u7 ?_
  refine e_ildn cd_206_64 u5 ?_
  refine e_ildn cd_206_65 u6 ?_
  refine k_opt hs (fun _ q => nomatch q) (fun k10 h11 hs => ?_)
  obtain ⟨q12, h13, hs⟩ := k_bind hs
  refine e_cvi cd_206_66 kd_206_75 rfl rfl rfl h11 rfl nl_178 rfl rfl (tie_nd_startAnew d k10 v1 v2 M8 _ h13) ?_
  refine e_aldn cd_206_69 u7 ?_
  have e := Option.some.inj hs
  subst e
  exact e_rr cd_206_70 nr_206
theorem tieb_rs_make  (d : Nat)  (a0 : Nat) (a1 : Int32) (a2 : Int32) (M : zM) (so : Option Nat × zM) (hs : rs_make_b  d a0 a1 a2 M = some so) : Ev zq_T (d + 1) 206 0 (zl_args 0 [.inr (.inr (6, some a0)), .inl a1, .inl a2]) [] M (some (.inr (.inr (3, so.1))), so.2) := by
  unfold rs_make_b at hs
  have g0 : zl_get (zl_args 0 [.inr (.inr (6, some a0)), .inl a1, .inl a2]) 0 = some (.inr (.inr (6, (some a0)))) := rfl
  have g1 : zl_get (zl_args 0 [.inr (.inr (6, some a0)), .inl a1, .inl a2]) 1 = some (.inl a1) := rfl
  have g2 : zl_get (zl_args 0 [.inr (.inr (6, some a0)), .inl a1, .inl a2]) 2 = some (.inl a2) := rfl
  refine e_aldn cd_206_0 g0 ?_
  refine e_getI cd_206_1 (Or.inl fd_206_59) rfl ?_
  refine e_sip cd_206_4 cs_400 ?_
  refine k_if hs (fun c1 hs => ?_) (fun c1 hs => ?_)
  · refine e_icJ cd_206_7 rfl c1 ?_
    refine e_aldn cd_206_15 g0 ?_
    refine e_getR cd_206_16 fd_206_24 rfl ?_
    refine e_aldn cd_206_19 g0 ?_
    refine e_getI cd_206_20 (Or.inl fd_206_59) rfl ?_
    refine k_opt hs (fun _ q => nomatch q) (fun k2 h3 hs => ?_)
    obtain ⟨c4, hs⟩ := z_ite hs
    refine e_aald cd_206_23 rfl h3 c4 ?_
    refine k_opt hs (fun h5 hs => ?_) (fun k6 h5 hs => ?_)
    · refine e_nn0 cd_206_24 rfl h5 ?_
      refine e_aldn cd_206_27 g0 ?_
      refine e_getR cd_206_28 fd_206_24 rfl ?_
      refine e_aldn cd_206_31 g0 ?_
      refine e_getI cd_206_32 (Or.inl fd_206_59) rfl ?_
      refine k_let hs (fun M7 e8 hs => ?_)
      refine e_new cd_206_35 nd_206_22 e8 ?_
      refine e_pure cd_206_38 rfl ?_
      obtain ⟨q9, h10, hs⟩ := k_bind hs
      refine e_csn cd_206_39 kd_206_74 rfl rfl rfl rfl rfl nl_177 rfl rfl (tie_nd_init d (zm_n M) M7 _ h10) ?_
      refine k_opt hs (fun _ q => nomatch q) (fun k11 h12 hs => ?_)
      obtain ⟨c13, hs⟩ := z_ite hs
      refine k_let hs (fun M14 e15 hs => ?_)
      refine e_aast cd_206_42 rfl h12 c13 e15 ?_
      exact tie_rs_make_43  d  a0 a1 a2 M14 so _ g0 g1 g2 hs
    · refine e_nn1 cd_206_24 rfl h5 ?_
      exact tie_rs_make_43  d  a0 a1 a2 M so _ g0 g1 g2 hs
  · refine e_icN cd_206_7 rfl c1 ?_
    refine e_aldn cd_206_10 g0 ?_
    obtain ⟨q16, h17, hs⟩ := k_bind hs
    refine e_cvi cd_206_11 kd_206_70 rfl rfl rfl rfl rfl nl_205 rfl rfl (tie_rs_noNode d a0 M _ h17) ?_
    have e := Option.some.inj hs
    subst e
    exact e_rr cd_206_14 nr_206
theorem tie_rs_make (d : Nat) (a0 : Nat) (a1 : Int32) (a2 : Int32) (M : zM) (so : Option Nat × zM) (hs : rs_make d a0 a1 a2 M = some so) : Ev zq_T d 206 0 (zl_args 0 [.inr (.inr (6, some a0)), .inl a1, .inl a2]) [] M (some (.inr (.inr (3, so.1))), so.2) := by
  cases d with
  | zero => exact nomatch hs
  | succ d => exact tieb_rs_make d a0 a1 a2 M so hs
theorem tie_rs_isDigit_17  (d : Nat)  (s0 : Int32) (M : zM) (so : Int32 × zM) (ls : List (Nat × zV))  (hs : rs_isDigit_17  d s0 M = some so) : Ev zq_T d 208 17 ls [.inl s0] M (some (.inl so.1), so.2) := by
  unfold rs_isDigit_17 at hs
  obtain ⟨c1, hs⟩ := z_ite hs
  have e := Option.some.inj hs
  subst e
  exact e_rz cd_208_17 nr_208 c1
theorem tie_rs_isDigit_16  (d : Nat)   (M : zM) (so : Int32 × zM) (ls : List (Nat × zV))  (hs : rs_isDigit_16  d  M = some so) : Ev zq_T d 208 16 ls [] M (some (.inl so.1), so.2) := by
  unfold rs_isDigit_16 at hs
  refine e_const cd_208_16 ci_0 ?_
  exact tie_rs_isDigit_17  d  0 M so _  hs
theorem tie_rs_isDigit (d : Nat) (a0 : Int32) (M : zM) (so : Int32 × zM) (hs : rs_isDigit d a0 M = some so) : Ev zq_T d 208 0 (zl_args 0 [.inl a0]) [] M (some (.inl so.1), so.2) := by
  unfold rs_isDigit at hs
  have g0 : zl_get (zl_args 0 [.inl a0]) 0 = some (.inl a0) := rfl
  refine e_ildn cd_208_0 g0 ?_
  refine e_bip cd_208_1 cb_48 ?_
  refine k_if hs (fun c1 hs => ?_) (fun c1 hs => ?_)
  · refine e_icJ cd_208_3 rfl c1 ?_
    exact tie_rs_isDigit_16  d   M so _  hs
  · refine e_icN cd_208_3 rfl c1 ?_
    refine e_ildn cd_208_6 g0 ?_
    refine e_bip cd_208_7 cb_57 ?_
    refine k_if hs (fun c2 hs => ?_) (fun c2 hs => ?_)
    · refine e_icJ cd_208_9 rfl c2 ?_
      exact tie_rs_isDigit_16  d   M so _  hs
    · refine e_icN cd_208_9 rfl c2 ?_
      refine e_const cd_208_12 ci_1 ?_
      refine e_goto cd_208_13 rfl ?_
      exact tie_rs_isDigit_17  d  1 M so _  hs
theorem tie_rs_canBegin_25  (d : Nat)  (s0 : Int32) (M : zM) (so : Int32 × zM) (ls : List (Nat × zV))  (hs : rs_canBegin_25  d s0 M = some so) : Ev zq_T d 217 25 ls [.inl s0] M (some (.inl so.1), so.2) := by
  unfold rs_canBegin_25 at hs
  obtain ⟨c1, hs⟩ := z_ite hs
  have e := Option.some.inj hs
  subst e
  exact e_rz cd_217_25 nr_217 c1
theorem tie_rs_canBegin_20  (d : Nat)   (M : zM) (so : Int32 × zM) (ls : List (Nat × zV))  (hs : rs_canBegin_20  d  M = some so) : Ev zq_T d 217 20 ls [] M (some (.inl so.1), so.2) := by
  unfold rs_canBegin_20 at hs
  refine e_const cd_217_20 ci_1 ?_
  refine e_goto cd_217_21 rfl ?_
  exact tie_rs_canBegin_25  d  1 M so _  hs
theorem tie_rs_canBegin_15  (d : Nat)  (v0 : Int32) (M : zM) (so : Int32 × zM) (ls : List (Nat × zV)) (g0 : zl_get ls 0 = some (.inl v0)) (hs : rs_canBegin_15  d v0 M = some so) : Ev zq_T d 217 15 ls [] M (some (.inl so.1), so.2) := by
  unfold rs_canBegin_15 at hs
  refine e_ildn cd_217_15 g0 ?_
  refine e_const cd_217_16 ci_1 ?_
  refine k_if hs (fun c1 hs => ?_) (fun c1 hs => ?_)
  · refine e_icN cd_217_17 rfl (fun q => q c1) ?_
    exact tie_rs_canBegin_20  d   M so _  hs
  · refine e_icJ cd_217_17 rfl c1 ?_
    refine e_const cd_217_24 ci_0 ?_
    exact tie_rs_canBegin_25  d  0 M so _  hs
theorem tie_rs_canBegin (d : Nat) (a0 : Int32) (a1 : Int32) (M : zM) (so : Int32 × zM) (hs : rs_canBegin d a0 a1 M = some so) : Ev zq_T d 217 0 (zl_args 0 [.inl a0, .inl a1]) [] M (some (.inl so.1), so.2) := by
  unfold rs_canBegin at hs
  have g0 : zl_get (zl_args 0 [.inl a0, .inl a1]) 0 = some (.inl a0) := rfl
  have g1 : zl_get (zl_args 0 [.inl a0, .inl a1]) 1 = some (.inl a1) := rfl
  refine e_ildn cd_217_0 g0 ?_
  refine e_ildn cd_217_1 g1 ?_
  refine k_if hs (fun c1 hs => ?_) (fun c1 hs => ?_)
  · refine e_icJ cd_217_2 rfl c1 ?_
    exact tie_rs_canBegin_20  d   M so _  hs
  · refine e_icN cd_217_2 rfl c1 ?_
    refine e_ildn cd_217_5 g0 ?_
    refine k_if hs (fun c2 hs => ?_) (fun c2 hs => ?_)
    · refine e_izN cd_217_6 rfl (fun q => q c2) ?_
      refine e_ildn cd_217_9 g1 ?_
      refine e_bip cd_217_10 cb_9 ?_
      refine k_if hs (fun c3 hs => ?_) (fun c3 hs => ?_)
      · refine e_icJ cd_217_12 rfl c3 ?_
        exact tie_rs_canBegin_20  d   M so _  hs
      · refine e_icN cd_217_12 rfl c3 ?_
        exact tie_rs_canBegin_15  d  a0 M so _ g0 hs
    · refine e_izJ cd_217_6 rfl c2 ?_
      exact tie_rs_canBegin_15  d  a0 M so _ g0 hs
theorem tie_rs_amount_23  (d : Nat)  (t0 : Nat) (M : zM) (so : Int32 × zM) (ls : List (Nat × zV)) (g0 : zl_get ls 0 = some (.inr (.inr (6, (some t0))))) (hs : rs_amount_23  d t0 M = some so) : Ev zq_T (d + 1) 216 23 ls [] M (some (.inl so.1), so.2) := by
  unfold rs_amount_23 at hs
  refine e_aldn cd_216_23 g0 ?_
  refine e_aldn cd_216_24 g0 ?_
  refine e_getI cd_216_25 (Or.inl fd_216_53) rfl ?_
  refine k_let hs (fun M1 e2 hs => ?_)
  refine e_putI cd_216_28 pd_216_56 rfl e2 ?_
  refine e_const cd_216_31 ci_m1 ?_
  have e := Option.some.inj hs
  subst e
  exact e_ri cd_216_32 nr_216
theorem tie_rs_amount_115  (d : Nat)  (t0 : Nat) (M : zM) (so : Int32 × zM) (ls : List (Nat × zV)) (g0 : zl_get ls 0 = some (.inr (.inr (6, (some t0))))) (hs : rs_amount_115  d t0 M = some so) : Ev zq_T (d + 1) 216 115 ls [] M (some (.inl so.1), so.2) := by
  unfold rs_amount_115 at hs
  refine e_aldn cd_216_115 g0 ?_
  refine e_aldn cd_216_116 g0 ?_
  refine e_getI cd_216_117 (Or.inl fd_216_53) rfl ?_
  refine k_let hs (fun M1 e2 hs => ?_)
  refine e_putI cd_216_120 pd_216_56 rfl e2 ?_
  refine e_const cd_216_123 ci_m1 ?_
  have e := Option.some.inj hs
  subst e
  exact e_ri cd_216_124 nr_216
theorem tie_rs_amount_140  (d : Nat)  (v3 : Int32) (M : zM) (so : Int32 × zM) (ls : List (Nat × zV)) (g3 : zl_get ls 3 = some (.inl v3)) (hs : rs_amount_140  d v3 M = some so) : Ev zq_T (d + 1) 216 140 ls [] M (some (.inl so.1), so.2) := by
  unfold rs_amount_140 at hs
  refine e_ildn cd_216_140 g3 ?_
  have e := Option.some.inj hs
  subst e
  exact e_ri cd_216_141 nr_216
theorem tie_rs_amount_104  (d : Nat)  (t0 : Nat) (v1 : Int32) (v3 : Int32) (v4 : Int32) (M : zM) (so : Int32 × zM) (ls : List (Nat × zV)) (g0 : zl_get ls 0 = some (.inr (.inr (6, (some t0))))) (g1 : zl_get ls 1 = some (.inl v1)) (g3 : zl_get ls 3 = some (.inl v3)) (g4 : zl_get ls 4 = some (.inl v4)) (hs : rs_amount_104  d t0 v1 v3 v4 M = some so) : Ev zq_T (d + 1) 216 104 ls [] M (some (.inl so.1), so.2) := by
  unfold rs_amount_104 at hs
  refine e_ildn cd_216_104 g3 ?_
  refine e_bip cd_216_105 cb_12 ?_
  refine k_if hs (fun c1 hs => ?_) (fun c1 hs => ?_)
  · refine e_icJ cd_216_107 rfl c1 ?_
    exact tie_rs_amount_115  d  t0 M so _ g0 hs
  · refine e_icN cd_216_107 rfl c1 ?_
    refine e_ildn cd_216_110 g3 ?_
    refine e_ildn cd_216_111 g1 ?_
    refine k_if hs (fun c2 hs => ?_) (fun c2 hs => ?_)
    · refine e_icJ cd_216_112 rfl c2 ?_
      refine e_ild cd_216_125 g4 ?_
      refine k_if hs (fun c3 hs => ?_) (fun c3 hs => ?_)
      · refine e_izJ cd_216_127 rfl c3 ?_
        exact tie_rs_amount_140  d  v3 M so _ g3 hs
      · refine e_izN cd_216_127 rfl c3 ?_
        refine e_aldn cd_216_130 g0 ?_
        refine e_pure cd_216_131 rfl ?_
        refine e_getI cd_216_132 (Or.inl fd_216_53) rfl ?_
        refine e_const cd_216_135 ci_1 ?_
        refine e_pure cd_216_136 rfl ?_
        refine k_let hs (fun M4 e5 hs => ?_)
        refine e_putI cd_216_137 pd_216_53 rfl e5 ?_
        exact tie_rs_amount_140  d  v3 M4 so _ g3 hs
    · refine e_icN cd_216_112 rfl c2 ?_
      exact tie_rs_amount_115  d  t0 M so _ g0 hs
theorem tie_rs_amount_79  (d : Nat)  (t0 : Nat) (v1 : Int32) (v3 : Int32) (s0 : Int32) (M : zM) (so : Int32 × zM) (ls : List (Nat × zV)) (g0 : zl_get ls 0 = some (.inr (.inr (6, (some t0))))) (g1 : zl_get ls 1 = some (.inl v1)) (g3 : zl_get ls 3 = some (.inl v3)) (hs : rs_amount_79  d t0 v1 v3 s0 M = some so) : Ev zq_T (d + 1) 216 79 ls [.inl s0] M (some (.inl so.1), so.2) := by
  unfold rs_amount_79 at hs
  refine e_iK cd_216_79 nl_216 rfl rfl ?_
  intro _ gn kp
  have u1 := kp 0 _ g0 rfl rfl
  have u2 := kp 1 _ g1 rfl rfl
  have u3 := kp 3 _ g3 rfl rfl
  have u4 := gn
  refine e_ild cd_216_81 u4 ?_
  refine k_if hs (fun c5 hs => ?_) (fun c5 hs => ?_)
  · refine e_izJ cd_216_83 rfl c5 ?_
    exact tie_rs_amount_104  d  t0 v1 v3 s0 M so _ u1 u2 u3 u4 hs
  · refine e_izN cd_216_83 rfl c5 ?_
    refine e_ildn cd_216_86 u3 ?_
    refine e_bip cd_216_87 cb_10 ?_
    refine e_pure cd_216_89 rfl ?_
    refine e_aldn cd_216_90 u1 ?_
    refine e_getR cd_216_91 fd_216_28 rfl ?_
    refine e_aldn cd_216_94 u1 ?_
    refine e_getI cd_216_95 (Or.inl fd_216_53) rfl ?_
    refine k_opt hs (fun _ q => nomatch q) (fun k6 h7 hs => ?_)
    obtain ⟨c8, hs⟩ := z_ite hs
    refine e_iald cd_216_98 rfl h7 c8 ?_
    refine e_pure cd_216_99 rfl ?_
    refine e_bip cd_216_100 cb_48 ?_
    refine e_pure cd_216_102 rfl ?_
    refine k_let hs (fun x9 e10 hs => ?_)
    refine e_iKn cd_216_103 nl_216 rfl e10 ?_
    intro _ gn kp
    have u11 := kp 0 _ u1 rfl rfl
    have u12 := kp 1 _ u2 rfl rfl
    have u13 := kp 4 _ u4 rfl rfl
    have u14 := gn
    exact tie_rs_amount_104  d  t0 v1 x9 s0 M so _ u11 u12 u14 u13 hs
theorem tie_rs_amount_78  (d : Nat)  (t0 : Nat) (v1 : Int32) (v3 : Int32) (M : zM) (so : Int32 × zM) (ls : List (Nat × zV)) (g0 : zl_get ls 0 = some (.inr (.inr (6, (some t0))))) (g1 : zl_get ls 1 = some (.inl v1)) (g3 : zl_get ls 3 = some (.inl v3)) (hs : rs_amount_78  d t0 v1 v3 M = some so) : Ev zq_T (d + 1) 216 78 ls [] M (some (.inl so.1), so.2) := by
  unfold rs_amount_78 at hs
  refine e_const cd_216_78 ci_0 ?_
  exact tie_rs_amount_79  d  t0 v1 v3 0 M so _ g0 g1 g3 hs
theorem tieb_rs_amount  (d : Nat)  (a0 : Nat) (a1 : Int32) (M : zM) (so : Int32 × zM) (hs : rs_amount_b  d a0 a1 M = some so) : Ev zq_T (d + 1) 216 0 (zl_args 0 [.inr (.inr (6, some a0)), .inl a1]) [] M (some (.inl so.1), so.2) := by
  unfold rs_amount_b at hs
  have g0 : zl_get (zl_args 0 [.inr (.inr (6, some a0)), .inl a1]) 0 = some (.inr (.inr (6, (some a0)))) := rfl
  have g1 : zl_get (zl_args 0 [.inr (.inr (6, some a0)), .inl a1]) 1 = some (.inl a1) := rfl
  refine e_aldn cd_216_0 g0 ?_
  obtain ⟨q1, h2, hs⟩ := k_bind hs
  refine e_cvi cd_216_1 kd_216_66 rfl rfl rfl rfl rfl nl_203 rfl rfl (tie_rs_sign d a0 M _ h2) ?_
  refine e_iKn cd_216_4 nl_216 rfl rfl ?_
  intro _ gn kp
  have u3 := kp 0 _ g0 rfl rfl
  have u4 := kp 1 _ g1 rfl rfl
  have u5 := gn
  refine e_ildn cd_216_5 u5 ?_
  obtain ⟨q6, h7, hs⟩ := k_bind hs
  refine e_cst cd_216_6 kd_216_156 rfl rfl rfl nl_208 rfl rfl (tie_rs_isDigit d q1.1 q1.2 _ h7) ?_
  refine k_if hs (fun c8 hs => ?_) (fun c8 hs => ?_)
  · refine e_izJ cd_216_9 rfl c8 ?_
    exact tie_rs_amount_23  d  a0 q6.2 so _ u3 hs
  · refine e_izN cd_216_9 rfl c8 ?_
    refine e_ildn cd_216_12 u5 ?_
    refine e_bip cd_216_13 cb_48 ?_
    refine e_pure cd_216_15 rfl ?_
    refine e_ildn cd_216_16 u4 ?_
    obtain ⟨q9, h10, hs⟩ := k_bind hs
    refine e_cst cd_216_17 kd_216_159 rfl rfl rfl nl_217 rfl rfl (tie_rs_canBegin d (q1.1 - 48) a1 q6.2 _ h10) ?_
    refine k_if hs (fun c11 hs => ?_) (fun c11 hs => ?_)
    · refine e_izN cd_216_20 rfl (fun q => q c11) ?_
      exact tie_rs_amount_23  d  a0 q9.2 so _ u3 hs
    · refine e_izJ cd_216_20 rfl c11 ?_
      refine e_ildn cd_216_33 u5 ?_
      refine e_bip cd_216_34 cb_48 ?_
      refine e_pure cd_216_36 rfl ?_
      refine k_let hs (fun x12 e13 hs => ?_)
      refine e_iKn cd_216_37 nl_216 rfl e13 ?_
      intro _ gn kp
      have u14 := kp 0 _ u3 rfl rfl
      have u15 := kp 1 _ u4 rfl rfl
      have u16 := gn
      refine e_aldn cd_216_38 u14 ?_
      refine e_pure cd_216_39 rfl ?_
      refine e_getI cd_216_40 (Or.inl fd_216_53) rfl ?_
      refine e_const cd_216_43 ci_1 ?_
      refine e_pure cd_216_44 rfl ?_
      refine k_let hs (fun M17 e18 hs => ?_)
      refine e_putI cd_216_45 pd_216_53 rfl e18 ?_
      refine e_aldn cd_216_48 u14 ?_
      refine e_getI cd_216_49 (Or.inl fd_216_53) rfl ?_
      refine e_aldn cd_216_52 u14 ?_
      refine e_getI cd_216_53 (Or.inl fd_216_50) rfl ?_
      refine k_if hs (fun c19 hs => ?_) (fun c19 hs => ?_)
      · refine e_icJ cd_216_56 rfl c19 ?_
        exact tie_rs_amount_78  d  a0 a1 x12 M17 so _ u14 u15 u16 hs
      · refine e_icN cd_216_56 rfl c19 ?_
        refine e_aldn cd_216_59 u14 ?_
        refine e_getR cd_216_60 fd_216_28 rfl ?_
        refine e_aldn cd_216_63 u14 ?_
        refine e_getI cd_216_64 (Or.inl fd_216_53) rfl ?_
        refine k_opt hs (fun _ q => nomatch q) (fun k20 h21 hs => ?_)
        obtain ⟨c22, hs⟩ := z_ite hs
        refine e_iald cd_216_67 rfl h21 c22 ?_
        obtain ⟨q23, h24, hs⟩ := k_bind hs
        refine e_cst cd_216_68 kd_216_156 rfl rfl rfl nl_208 rfl rfl (tie_rs_isDigit d (zm_I M17 20 k20 (zm_I M17 6 a0 6).toNatClampNeg) M17 _ h24) ?_
        refine k_if hs (fun c25 hs => ?_) (fun c25 hs => ?_)
        · refine e_izJ cd_216_71 rfl c25 ?_
          exact tie_rs_amount_78  d  a0 a1 x12 q23.2 so _ u14 u15 u16 hs
        · refine e_izN cd_216_71 rfl c25 ?_
          refine e_const cd_216_74 ci_1 ?_
          refine e_goto cd_216_75 rfl ?_
          exact tie_rs_amount_79  d  a0 a1 x12 1 q23.2 so _ u14 u15 u16 hs
theorem tie_rs_amount (d : Nat) (a0 : Nat) (a1 : Int32) (M : zM) (so : Int32 × zM) (hs : rs_amount d a0 a1 M = some so) : Ev zq_T d 216 0 (zl_args 0 [.inr (.inr (6, some a0)), .inl a1]) [] M (some (.inl so.1), so.2) := by
  cases d with
  | zero => exact nomatch hs
  | succ d => exact tieb_rs_amount d a0 a1 M so hs
theorem tie_rs_braces_93  (d : Nat)  (t0 : Nat) (M : zM) (so : Int32 × zM) (ls : List (Nat × zV)) (g0 : zl_get ls 0 = some (.inr (.inr (6, (some t0))))) (hs : rs_braces_93  d t0 M = some so) : Ev zq_T (d + 1) 215 93 ls [] M (some (.inl so.1), so.2) := by
  unfold rs_braces_93 at hs
  refine e_aldn cd_215_93 g0 ?_
  obtain ⟨q1, h2, hs⟩ := k_bind hs
  refine e_cvi cd_215_94 kd_215_87 rfl rfl rfl rfl rfl nl_204 rfl rfl (tie_rs_fails d t0 M _ h2) ?_
  obtain ⟨c3, hs⟩ := z_ite hs
  have e := Option.some.inj hs
  subst e
  exact e_rz cd_215_97 nr_215 c3
theorem tie_rs_braces_98  (d : Nat)  (t0 : Nat) (v1 : Int32) (v2 : Int32) (v3 : Int32) (M : zM) (so : Int32 × zM) (ls : List (Nat × zV)) (g0 : zl_get ls 0 = some (.inr (.inr (6, (some t0))))) (g1 : zl_get ls 1 = some (.inl v1)) (g2 : zl_get ls 2 = some (.inl v2)) (g3 : zl_get ls 3 = some (.inl v3)) (hs : rs_braces_98  d t0 v1 v2 v3 M = some so) : Ev zq_T (d + 1) 215 98 ls [] M (some (.inl so.1), so.2) := by
  unfold rs_braces_98 at hs
  refine e_aldn cd_215_98 g0 ?_
  refine e_pure cd_215_99 rfl ?_
  refine e_getI cd_215_100 (Or.inl fd_215_53) rfl ?_
  refine e_const cd_215_103 ci_1 ?_
  refine e_pure cd_215_104 rfl ?_
  refine k_let hs (fun M1 e2 hs => ?_)
  refine e_putI cd_215_105 pd_215_53 rfl e2 ?_
  refine e_aldn cd_215_108 g0 ?_
  refine e_getR cd_215_109 fd_215_32 rfl ?_
  refine k_opt hs (fun _ q => nomatch q) (fun k3 h4 hs => ?_)
  refine e_getR cd_215_112 fd_215_141 h4 ?_
  refine e_ildn cd_215_115 g1 ?_
  refine e_ildn cd_215_116 g2 ?_
  refine k_opt hs (fun _ q => nomatch q) (fun k5 h6 hs => ?_)
  obtain ⟨c7, hs⟩ := z_ite hs
  refine k_let hs (fun M8 e9 hs => ?_)
  refine e_iast cd_215_117 rfl h6 c7 e9 ?_
  refine e_aldn cd_215_118 g0 ?_
  refine e_getR cd_215_119 fd_215_32 rfl ?_
  refine k_opt hs (fun _ q => nomatch q) (fun k10 h11 hs => ?_)
  refine e_getR cd_215_122 fd_215_144 h11 ?_
  refine e_ildn cd_215_125 g1 ?_
  refine e_ildn cd_215_126 g3 ?_
  refine k_opt hs (fun _ q => nomatch q) (fun k12 h13 hs => ?_)
  obtain ⟨c14, hs⟩ := z_ite hs
  refine k_let hs (fun M15 e16 hs => ?_)
  refine e_iast cd_215_127 rfl h13 c14 e16 ?_
  refine e_const cd_215_128 ci_1 ?_
  have e := Option.some.inj hs
  subst e
  exact e_rz cd_215_129 nr_215 (Or.inr rfl)
theorem tie_rs_braces_74  (d : Nat)  (t0 : Nat) (v1 : Int32) (v2 : Int32) (v3 : Int32) (v4 : Int32) (M : zM) (so : Int32 × zM) (ls : List (Nat × zV)) (g0 : zl_get ls 0 = some (.inr (.inr (6, (some t0))))) (g1 : zl_get ls 1 = some (.inl v1)) (g2 : zl_get ls 2 = some (.inl v2)) (g3 : zl_get ls 3 = some (.inl v3)) (g4 : zl_get ls 4 = some (.inl v4)) (hs : rs_braces_74  d t0 v1 v2 v3 v4 M = some so) : Ev zq_T (d + 1) 215 74 ls [] M (some (.inl so.1), so.2) := by
  unfold rs_braces_74 at hs
  refine e_aldn cd_215_74 g0 ?_
  obtain ⟨q1, h2, hs⟩ := k_bind hs
  refine e_cvi cd_215_75 kd_215_66 rfl rfl rfl rfl rfl nl_203 rfl rfl (tie_rs_sign d t0 M _ h2) ?_
  refine e_bip cd_215_78 cb_125 ?_
  refine k_if hs (fun c3 hs => ?_) (fun c3 hs => ?_)
  · refine e_icN cd_215_80 rfl (fun q => q c3) ?_
    refine e_ild cd_215_83 g4 ?_
    refine k_if hs (fun c4 hs => ?_) (fun c4 hs => ?_)
    · refine e_izN cd_215_85 rfl (fun q => q c4) ?_
      refine e_ildn cd_215_88 g2 ?_
      refine e_const cd_215_89 ci_1 ?_
      refine k_if hs (fun c5 hs => ?_) (fun c5 hs => ?_)
      · refine e_icJ cd_215_90 rfl c5 ?_
        exact tie_rs_braces_98  d  t0 v1 v2 v3 q1.2 so _ g0 g1 g2 g3 hs
      · refine e_icN cd_215_90 rfl c5 ?_
        exact tie_rs_braces_93  d  t0 q1.2 so _ g0 hs
    · refine e_izJ cd_215_85 rfl c4 ?_
      exact tie_rs_braces_98  d  t0 v1 v2 v3 q1.2 so _ g0 g1 g2 g3 hs
  · refine e_icJ cd_215_80 rfl c3 ?_
    exact tie_rs_braces_93  d  t0 q1.2 so _ g0 hs
theorem tie_rs_braces_29  (d : Nat)  (t0 : Nat) (v1 : Int32) (v2 : Int32) (v3 : Int32) (s0 : Int32) (M : zM) (so : Int32 × zM) (ls : List (Nat × zV)) (g0 : zl_get ls 0 = some (.inr (.inr (6, (some t0))))) (g1 : zl_get ls 1 = some (.inl v1)) (g2 : zl_get ls 2 = some (.inl v2)) (g3 : zl_get ls 3 = some (.inl v3)) (hs : rs_braces_29  d t0 v1 v2 v3 s0 M = some so) : Ev zq_T (d + 1) 215 29 ls [.inl s0] M (some (.inl so.1), so.2) := by
  unfold rs_braces_29 at hs
  refine e_iK cd_215_29 nl_215 rfl rfl ?_
  intro _ gn kp
  have u1 := kp 0 _ g0 rfl rfl
  have u2 := kp 1 _ g1 rfl rfl
  have u3 := kp 2 _ g2 rfl rfl
  have u4 := kp 3 _ g3 rfl rfl
  have u5 := gn
  refine e_ild cd_215_31 u5 ?_
  refine k_if hs (fun c6 hs => ?_) (fun c6 hs => ?_)
  · refine e_izJ cd_215_33 rfl c6 ?_
    exact tie_rs_braces_74  d  t0 v1 v2 v3 s0 M so _ u1 u2 u3 u4 u5 hs
  · refine e_izN cd_215_33 rfl c6 ?_
    refine e_aldn cd_215_36 u1 ?_
    refine e_pure cd_215_37 rfl ?_
    refine e_getI cd_215_38 (Or.inl fd_215_53) rfl ?_
    refine e_const cd_215_41 ci_1 ?_
    refine e_pure cd_215_42 rfl ?_
    refine k_let hs (fun M7 e8 hs => ?_)
    refine e_putI cd_215_43 pd_215_53 rfl e8 ?_
    refine e_const cd_215_46 ci_m1 ?_
    refine e_iKn cd_215_47 nl_215 rfl rfl ?_
    intro _ gn kp
    have u9 := kp 0 _ u1 rfl rfl
    have u10 := kp 1 _ u2 rfl rfl
    have u11 := kp 2 _ u3 rfl rfl
    have u12 := kp 4 _ u5 rfl rfl
    have u13 := gn
    refine e_aldn cd_215_48 u9 ?_
    obtain ⟨q14, h15, hs⟩ := k_bind hs
    refine e_cvi cd_215_49 kd_215_66 rfl rfl rfl rfl rfl nl_203 rfl rfl (tie_rs_sign d t0 M7 _ h15) ?_
    refine e_bip cd_215_52 cb_125 ?_
    refine k_if hs (fun c16 hs => ?_) (fun c16 hs => ?_)
    · refine e_icJ cd_215_54 rfl c16 ?_
      exact tie_rs_braces_74  d  t0 v1 v2 (-1) s0 q14.2 so _ u9 u10 u11 u13 u12 hs
    · refine e_icN cd_215_54 rfl c16 ?_
      refine e_aldn cd_215_57 u9 ?_
      refine e_ildn cd_215_58 u11 ?_
      refine e_const cd_215_59 ci_1 ?_
      refine e_max cd_215_60 kd_215_150 rfl ?_
      obtain ⟨q17, h18, hs⟩ := k_bind hs
      refine e_cvi cd_215_63 kd_215_147 rfl rfl rfl rfl rfl nl_216 rfl rfl (tie_rs_amount d t0 (if v2 < 1 then 1 else v2) q14.2 _ h18) ?_
      refine e_iKn cd_215_66 nl_215 rfl rfl ?_
      intro _ gn kp
      have u19 := kp 0 _ u9 rfl rfl
      have u20 := kp 1 _ u10 rfl rfl
      have u21 := kp 2 _ u11 rfl rfl
      have u22 := kp 4 _ u12 rfl rfl
      have u23 := gn
      refine e_ildn cd_215_67 u23 ?_
      refine e_const cd_215_68 ci_m1 ?_
      refine k_if hs (fun c24 hs => ?_) (fun c24 hs => ?_)
      · refine e_icN cd_215_69 rfl (fun q => q c24) ?_
        refine e_const cd_215_72 ci_0 ?_
        have e := Option.some.inj hs
        subst e
        exact e_rz cd_215_73 nr_215 (Or.inl rfl)
      · refine e_icJ cd_215_69 rfl c24 ?_
        exact tie_rs_braces_74  d  t0 v1 v2 q17.1 s0 q17.2 so _ u19 u20 u21 u23 u22 hs
theorem tieb_rs_braces  (d : Nat)  (a0 : Nat) (a1 : Int32) (M : zM) (so : Int32 × zM) (hs : rs_braces_b  d a0 a1 M = some so) : Ev zq_T (d + 1) 215 0 (zl_args 0 [.inr (.inr (6, some a0)), .inl a1]) [] M (some (.inl so.1), so.2) := by
  unfold rs_braces_b at hs
  have g0 : zl_get (zl_args 0 [.inr (.inr (6, some a0)), .inl a1]) 0 = some (.inr (.inr (6, (some a0)))) := rfl
  have g1 : zl_get (zl_args 0 [.inr (.inr (6, some a0)), .inl a1]) 1 = some (.inl a1) := rfl
  refine e_aldn cd_215_0 g0 ?_
  refine e_const cd_215_1 ci_0 ?_
  obtain ⟨q1, h2, hs⟩ := k_bind hs
  refine e_cvi cd_215_2 kd_215_147 rfl rfl rfl rfl rfl nl_216 rfl rfl (tie_rs_amount d a0 0 M _ h2) ?_
  refine e_iKn cd_215_5 nl_215 rfl rfl ?_
  intro _ gn kp
  have u3 := kp 0 _ g0 rfl rfl
  have u4 := kp 1 _ g1 rfl rfl
  have u5 := gn
  refine e_ildn cd_215_6 u5 ?_
  refine e_const cd_215_7 ci_m1 ?_
  refine k_if hs (fun c6 hs => ?_) (fun c6 hs => ?_)
  · refine e_icN cd_215_8 rfl (fun q => q c6) ?_
    refine e_const cd_215_11 ci_0 ?_
    have e := Option.some.inj hs
    subst e
    exact e_rz cd_215_12 nr_215 (Or.inl rfl)
  · refine e_icJ cd_215_8 rfl c6 ?_
    refine e_ildn cd_215_13 u5 ?_
    refine e_iKn cd_215_14 nl_215 rfl rfl ?_
    intro _ gn kp
    have u7 := kp 0 _ u3 rfl rfl
    have u8 := kp 1 _ u4 rfl rfl
    have u9 := kp 2 _ u5 rfl rfl
    have u10 := gn
    refine e_aldn cd_215_15 u7 ?_
    obtain ⟨q11, h12, hs⟩ := k_bind hs
    refine e_cvi cd_215_16 kd_215_66 rfl rfl rfl rfl rfl nl_203 rfl rfl (tie_rs_sign d a0 q1.2 _ h12) ?_
    refine e_bip cd_215_19 cb_44 ?_
    refine k_if hs (fun c13 hs => ?_) (fun c13 hs => ?_)
    · refine e_icN cd_215_21 rfl (fun q => q c13) ?_
      refine e_const cd_215_24 ci_1 ?_
      refine e_goto cd_215_25 rfl ?_
      exact tie_rs_braces_29  d  a0 a1 q1.1 q1.1 1 q11.2 so _ u7 u8 u9 u10 hs
    · refine e_icJ cd_215_21 rfl c13 ?_
      refine e_const cd_215_28 ci_0 ?_
      exact tie_rs_braces_29  d  a0 a1 q1.1 q1.1 0 q11.2 so _ u7 u8 u9 u10 hs
theorem tie_rs_braces (d : Nat) (a0 : Nat) (a1 : Int32) (M : zM) (so : Int32 × zM) (hs : rs_braces d a0 a1 M = some so) : Ev zq_T d 215 0 (zl_args 0 [.inr (.inr (6, some a0)), .inl a1]) [] M (some (.inl so.1), so.2) := by
  cases d with
  | zero => exact nomatch hs
  | succ d => exact tieb_rs_braces d a0 a1 M so hs
theorem tie_rs_amounts_51  (d : Nat)  (s0 : Option Nat) (s1 : Int32) (s2 : Int32) (M : zM) (so : Int32 × zM) (ls : List (Nat × zV))  (hs : rs_amounts_51  d s0 s1 s2 M = some so) : Ev zq_T (d + 1) 214 51 ls [.inl s2, .inl s1, .inr (.inr (20, s0))] M (some (.inl so.1), so.2) := by
  unfold rs_amounts_51 at hs
  refine k_opt hs (fun _ q => nomatch q) (fun k1 h2 hs => ?_)
  obtain ⟨c3, hs⟩ := z_ite hs
  refine k_let hs (fun M4 e5 hs => ?_)
  refine e_iast cd_214_51 rfl h2 c3 e5 ?_
  refine e_const cd_214_52 ci_1 ?_
  have e := Option.some.inj hs
  subst e
  exact e_rz cd_214_53 nr_214 (Or.inr rfl)
theorem tie_rs_amounts_31  (d : Nat)  (t0 : Nat) (v1 : Int32) (v2 : Int32) (s0 : Option Nat) (s1 : Int32) (s2 : Int32) (M : zM) (so : Int32 × zM) (ls : List (Nat × zV)) (g0 : zl_get ls 0 = some (.inr (.inr (6, (some t0))))) (g1 : zl_get ls 1 = some (.inl v1)) (g2 : zl_get ls 2 = some (.inl v2)) (hs : rs_amounts_31  d t0 v1 v2 s0 s1 s2 M = some so) : Ev zq_T (d + 1) 214 31 ls [.inl s2, .inl s1, .inr (.inr (20, s0))] M (some (.inl so.1), so.2) := by
  unfold rs_amounts_31 at hs
  refine k_opt hs (fun _ q => nomatch q) (fun k1 h2 hs => ?_)
  obtain ⟨c3, hs⟩ := z_ite hs
  refine k_let hs (fun M4 e5 hs => ?_)
  refine e_iast cd_214_31 rfl h2 c3 e5 ?_
  refine e_aldn cd_214_32 g0 ?_
  refine e_getR cd_214_33 fd_214_32 rfl ?_
  refine k_opt hs (fun _ q => nomatch q) (fun k6 h7 hs => ?_)
  refine e_getR cd_214_36 fd_214_144 h7 ?_
  refine e_ildn cd_214_39 g2 ?_
  refine e_ildn cd_214_40 g1 ?_
  refine e_bip cd_214_41 cb_63 ?_
  refine k_if hs (fun c8 hs => ?_) (fun c8 hs => ?_)
  · refine e_icN cd_214_43 rfl (fun q => q c8) ?_
    refine e_const cd_214_46 ci_1 ?_
    refine e_goto cd_214_47 rfl ?_
    exact tie_rs_amounts_51  d  (zm_R M4 5 k6 10) v2 1 M4 so _  hs
  · refine e_icJ cd_214_43 rfl c8 ?_
    refine e_const cd_214_50 ci_m1 ?_
    exact tie_rs_amounts_51  d  (zm_R M4 5 k6 10) v2 (-1) M4 so _  hs
theorem tieb_rs_amounts  (d : Nat)  (a0 : Nat) (a1 : Int32) (a2 : Int32) (M : zM) (so : Int32 × zM) (hs : rs_amounts_b  d a0 a1 a2 M = some so) : Ev zq_T (d + 1) 214 0 (zl_args 0 [.inr (.inr (6, some a0)), .inl a1, .inl a2]) [] M (some (.inl so.1), so.2) := by
  unfold rs_amounts_b at hs
  have g0 : zl_get (zl_args 0 [.inr (.inr (6, some a0)), .inl a1, .inl a2]) 0 = some (.inr (.inr (6, (some a0)))) := rfl
  have g1 : zl_get (zl_args 0 [.inr (.inr (6, some a0)), .inl a1, .inl a2]) 1 = some (.inl a1) := rfl
  have g2 : zl_get (zl_args 0 [.inr (.inr (6, some a0)), .inl a1, .inl a2]) 2 = some (.inl a2) := rfl
  refine e_ildn cd_214_0 g1 ?_
  refine e_bip cd_214_1 cb_123 ?_
  refine k_if hs (fun c1 hs => ?_) (fun c1 hs => ?_)
  · refine e_icN cd_214_3 rfl (fun q => q c1) ?_
    refine e_aldn cd_214_6 g0 ?_
    refine e_ildn cd_214_7 g2 ?_
    obtain ⟨q2, h3, hs⟩ := k_bind hs
    refine e_cvi cd_214_8 kd_214_138 rfl rfl rfl rfl rfl nl_215 rfl rfl (tie_rs_braces d a0 a2 M _ h3) ?_
    obtain ⟨c4, hs⟩ := z_ite hs
    have e := Option.some.inj hs
    subst e
    exact e_rz cd_214_11 nr_214 c4
  · refine e_icJ cd_214_3 rfl c1 ?_
    refine e_aldn cd_214_12 g0 ?_
    refine e_getR cd_214_13 fd_214_32 rfl ?_
    refine k_opt hs (fun _ q => nomatch q) (fun k5 h6 hs => ?_)
    refine e_getR cd_214_16 fd_214_141 h6 ?_
    refine e_ildn cd_214_19 g2 ?_
    refine e_ildn cd_214_20 g1 ?_
    refine e_bip cd_214_21 cb_43 ?_
    refine k_if hs (fun c7 hs => ?_) (fun c7 hs => ?_)
    · refine e_icN cd_214_23 rfl (fun q => q c7) ?_
      refine e_const cd_214_26 ci_1 ?_
      refine e_goto cd_214_27 rfl ?_
      exact tie_rs_amounts_31  d  a0 a1 a2 (zm_R M 5 k5 9) a2 1 M so _ g0 g1 g2 hs
    · refine e_icJ cd_214_23 rfl c7 ?_
      refine e_const cd_214_30 ci_0 ?_
      exact tie_rs_amounts_31  d  a0 a1 a2 (zm_R M 5 k5 9) a2 0 M so _ g0 g1 g2 hs
theorem tie_rs_amounts (d : Nat) (a0 : Nat) (a1 : Int32) (a2 : Int32) (M : zM) (so : Int32 × zM) (hs : rs_amounts d a0 a1 a2 M = some so) : Ev zq_T d 214 0 (zl_args 0 [.inr (.inr (6, some a0)), .inl a1, .inl a2]) [] M (some (.inl so.1), so.2) := by
  cases d with
  | zero => exact nomatch hs
  | succ d => exact tieb_rs_amounts d a0 a1 a2 M so hs
theorem tieb_rs_leaf  (d : Nat)  (a0 : Nat) (a1 : Int32) (M : zM) (so : Option Nat × zM) (hs : rs_leaf_b  d a0 a1 M = some so) : Ev zq_T (d + 1) 219 0 (zl_args 0 [.inr (.inr (6, some a0)), .inl a1]) [] M (some (.inr (.inr (3, so.1))), so.2) := by
  unfold rs_leaf_b at hs
  have g0 : zl_get (zl_args 0 [.inr (.inr (6, some a0)), .inl a1]) 0 = some (.inr (.inr (6, (some a0)))) := rfl
  have g1 : zl_get (zl_args 0 [.inr (.inr (6, some a0)), .inl a1]) 1 = some (.inl a1) := rfl
  refine e_aldn cd_219_0 g0 ?_
  refine e_getR cd_219_1 fd_219_32 rfl ?_
  refine k_opt hs (fun _ q => nomatch q) (fun k1 h2 hs => ?_)
  refine e_getI cd_219_4 (Or.inl fd_219_171) h2 ?_
  refine e_bip cd_219_7 cb_16 ?_
  refine k_if hs (fun c3 hs => ?_) (fun c3 hs => ?_)
  · refine e_icJ cd_219_9 rfl c3 ?_
    refine e_aldn cd_219_17 g0 ?_
    refine e_const cd_219_18 ci_0 ?_
    refine e_aldn cd_219_19 g0 ?_
    refine e_getR cd_219_20 fd_219_32 rfl ?_
    refine k_opt hs (fun _ q => nomatch q) (fun k4 h5 hs => ?_)
    refine e_getI cd_219_23 (Or.inl fd_219_171) h5 ?_
    obtain ⟨q6, h7, hs⟩ := k_bind hs
    refine e_cvi cd_219_26 kd_219_109 rfl rfl rfl rfl rfl nl_206 rfl rfl (tie_rs_make d a0 0 (zm_I M 5 k4 2) M _ h7) ?_
    refine e_aKn cd_219_29 nl_219 rfl rfl ?_
    intro _ gn kp
    have u8 := kp 0 _ g0 rfl rfl
    have u9 := kp 1 _ g1 rfl rfl
    have u10 := gn
    refine e_aldn cd_219_30 u8 ?_
    refine e_getR cd_219_31 fd_219_32 rfl ?_
    refine k_opt hs (fun _ q => nomatch q) (fun k11 h12 hs => ?_)
    refine e_getR cd_219_34 fd_219_174 h12 ?_
    refine e_aldn cd_219_37 u8 ?_
    refine e_getR cd_219_38 fd_219_32 rfl ?_
    refine k_opt hs (fun _ q => nomatch q) (fun k13 h14 hs => ?_)
    refine e_getI cd_219_41 (Or.inl fd_219_171) h14 ?_
    refine e_ildn cd_219_44 u9 ?_
    refine k_opt hs (fun _ q => nomatch q) (fun k15 h16 hs => ?_)
    obtain ⟨c17, hs⟩ := z_ite hs
    refine k_let hs (fun M18 e19 hs => ?_)
    refine e_iast cd_219_45 rfl h16 c17 e19 ?_
    refine e_aldn cd_219_46 u8 ?_
    refine e_getR cd_219_47 fd_219_32 rfl ?_
    refine k_opt hs (fun _ q => nomatch q) (fun k20 h21 hs => ?_)
    refine e_getR cd_219_50 fd_219_177 h21 ?_
    refine e_aldn cd_219_53 u8 ?_
    refine e_getR cd_219_54 fd_219_32 rfl ?_
    refine k_opt hs (fun _ q => nomatch q) (fun k22 h23 hs => ?_)
    refine e_getI cd_219_57 (Or.inl fd_219_171) h23 ?_
    refine e_aldn cd_219_60 u10 ?_
    refine k_opt hs (fun _ q => nomatch q) (fun k24 h25 hs => ?_)
    obtain ⟨c26, hs⟩ := z_ite hs
    refine k_let hs (fun M27 e28 hs => ?_)
    refine e_aast cd_219_61 rfl h25 c26 e28 ?_
    refine e_aldn cd_219_62 u8 ?_
    refine e_getR cd_219_63 fd_219_32 rfl ?_
    refine e_pure cd_219_66 rfl ?_
    refine k_opt hs (fun _ q => nomatch q) (fun k29 h30 hs => ?_)
    refine e_getI cd_219_67 (Or.inl fd_219_171) h30 ?_
    refine e_const cd_219_70 ci_1 ?_
    refine e_pure cd_219_71 rfl ?_
    refine k_let hs (fun M31 e32 hs => ?_)
    refine e_putI cd_219_72 pd_219_171 h30 e32 ?_
    refine e_aldn cd_219_75 u8 ?_
    refine e_pure cd_219_76 rfl ?_
    refine e_getI cd_219_77 (Or.inl fd_219_53) rfl ?_
    refine e_const cd_219_80 ci_1 ?_
    refine e_pure cd_219_81 rfl ?_
    refine k_let hs (fun M33 e34 hs => ?_)
    refine e_putI cd_219_82 pd_219_53 rfl e34 ?_
    refine e_aldn cd_219_85 u10 ?_
    have e := Option.some.inj hs
    subst e
    exact e_rr cd_219_86 nr_219
  · refine e_icN cd_219_9 rfl c3 ?_
    refine e_aldn cd_219_12 g0 ?_
    obtain ⟨q35, h36, hs⟩ := k_bind hs
    refine e_cvi cd_219_13 kd_219_70 rfl rfl rfl rfl rfl nl_205 rfl rfl (tie_rs_noNode d a0 M _ h36) ?_
    have e := Option.some.inj hs
    subst e
    exact e_rr cd_219_16 nr_219
theorem tie_rs_leaf (d : Nat) (a0 : Nat) (a1 : Int32) (M : zM) (so : Option Nat × zM) (hs : rs_leaf d a0 a1 M = some so) : Ev zq_T d 219 0 (zl_args 0 [.inr (.inr (6, some a0)), .inl a1]) [] M (some (.inr (.inr (3, so.1))), so.2) := by
  cases d with
  | zero => exact nomatch hs
  | succ d => exact tieb_rs_leaf d a0 a1 M so hs
theorem tieb_rs_pattern (r_rs_pattern : Nat → Int32 → zM → Option (Option Nat × zM)) (r_rs_chain : Nat → Int32 → Int32 → Int32 → zM → Option (Option Nat × zM)) (r_rs_link : Nat → Int32 → Int32 → zM → Option (Option Nat × zM)) (r_rs_unit : Nat → Int32 → zM → Option (Option Nat × zM)) (r_rs_atom : Nat → Int32 → zM → Option (Option Nat × zM)) (r_rs_bracket : Nat → Int32 → zM → Option (Option Nat × zM)) (r_rs_anyOrder : Nat → Int32 → zM → Option (Option Nat × zM)) (d : Nat) (hr_rs_pattern : ∀ a0 a1 M so, r_rs_pattern a0 a1 M = some so → Ev zq_T d 210 0 (zl_args 0 [.inr (.inr (6, some a0)), .inl a1]) [] M (some (.inr (.inr (3, so.1))), so.2)) (hr_rs_chain : ∀ a0 a1 a2 a3 M so, r_rs_chain a0 a1 a2 a3 M = some so → Ev zq_T d 211 0 (zl_args 0 [.inr (.inr (6, some a0)), .inl a1, .inl a2, .inl a3]) [] M (some (.inr (.inr (3, so.1))), so.2)) (hr_rs_link : ∀ a0 a1 a2 M so, r_rs_link a0 a1 a2 M = some so → Ev zq_T d 212 0 (zl_args 0 [.inr (.inr (6, some a0)), .inl a1, .inl a2]) [] M (some (.inr (.inr (3, so.1))), so.2)) (hr_rs_unit : ∀ a0 a1 M so, r_rs_unit a0 a1 M = some so → Ev zq_T d 213 0 (zl_args 0 [.inr (.inr (6, some a0)), .inl a1]) [] M (some (.inr (.inr (3, so.1))), so.2)) (hr_rs_atom : ∀ a0 a1 M so, r_rs_atom a0 a1 M = some so → Ev zq_T d 218 0 (zl_args 0 [.inr (.inr (6, some a0)), .inl a1]) [] M (some (.inr (.inr (3, so.1))), so.2)) (hr_rs_bracket : ∀ a0 a1 M so, r_rs_bracket a0 a1 M = some so → Ev zq_T d 220 0 (zl_args 0 [.inr (.inr (6, some a0)), .inl a1]) [] M (some (.inr (.inr (3, so.1))), so.2)) (hr_rs_anyOrder : ∀ a0 a1 M so, r_rs_anyOrder a0 a1 M = some so → Ev zq_T d 221 0 (zl_args 0 [.inr (.inr (6, some a0)), .inl a1]) [] M (some (.inr (.inr (3, so.1))), so.2)) (a0 : Nat) (a1 : Int32) (M : zM) (so : Option Nat × zM) (hs : rs_pattern_b r_rs_pattern r_rs_chain r_rs_link r_rs_unit r_rs_atom r_rs_bracket r_rs_anyOrder d a0 a1 M = some so) : Ev zq_T (d + 1) 210 0 (zl_args 0 [.inr (.inr (6, some a0)), .inl a1]) [] M (some (.inr (.inr (3, so.1))), so.2) := by
  unfold rs_pattern_b at hs
  have g0 : zl_get (zl_args 0 [.inr (.inr (6, some a0)), .inl a1]) 0 = some (.inr (.inr (6, (some a0)))) := rfl
  have g1 : zl_get (zl_args 0 [.inr (.inr (6, some a0)), .inl a1]) 1 = some (.inl a1) := rfl
  refine e_aldn cd_210_0 g0 ?_
  refine e_const cd_210_1 ci_3 ?_
  refine e_bip cd_210_2 cb_124 ?_
  refine e_ildn cd_210_4 g1 ?_
  obtain ⟨q1, h2, hs⟩ := k_bind hs
  refine e_cvi cd_210_5 kd_210_101 rfl rfl rfl rfl rfl nl_211 rfl rfl (hr_rs_chain a0 3 124 a1 M _ h2) ?_
  have e := Option.some.inj hs
  subst e
  exact e_rr cd_210_8 nr_210
theorem tie_rs_chain_21 (r_rs_pattern : Nat → Int32 → zM → Option (Option Nat × zM)) (r_rs_chain : Nat → Int32 → Int32 → Int32 → zM → Option (Option Nat × zM)) (r_rs_link : Nat → Int32 → Int32 → zM → Option (Option Nat × zM)) (r_rs_unit : Nat → Int32 → zM → Option (Option Nat × zM)) (r_rs_atom : Nat → Int32 → zM → Option (Option Nat × zM)) (r_rs_bracket : Nat → Int32 → zM → Option (Option Nat × zM)) (r_rs_anyOrder : Nat → Int32 → zM → Option (Option Nat × zM)) (d : Nat) (hr_rs_pattern : ∀ a0 a1 M so, r_rs_pattern a0 a1 M = some so → Ev zq_T d 210 0 (zl_args 0 [.inr (.inr (6, some a0)), .inl a1]) [] M (some (.inr (.inr (3, so.1))), so.2)) (hr_rs_chain : ∀ a0 a1 a2 a3 M so, r_rs_chain a0 a1 a2 a3 M = some so → Ev zq_T d 211 0 (zl_args 0 [.inr (.inr (6, some a0)), .inl a1, .inl a2, .inl a3]) [] M (some (.inr (.inr (3, so.1))), so.2)) (hr_rs_link : ∀ a0 a1 a2 M so, r_rs_link a0 a1 a2 M = some so → Ev zq_T d 212 0 (zl_args 0 [.inr (.inr (6, some a0)), .inl a1, .inl a2]) [] M (some (.inr (.inr (3, so.1))), so.2)) (hr_rs_unit : ∀ a0 a1 M so, r_rs_unit a0 a1 M = some so → Ev zq_T d 213 0 (zl_args 0 [.inr (.inr (6, some a0)), .inl a1]) [] M (some (.inr (.inr (3, so.1))), so.2)) (hr_rs_atom : ∀ a0 a1 M so, r_rs_atom a0 a1 M = some so → Ev zq_T d 218 0 (zl_args 0 [.inr (.inr (6, some a0)), .inl a1]) [] M (some (.inr (.inr (3, so.1))), so.2)) (hr_rs_bracket : ∀ a0 a1 M so, r_rs_bracket a0 a1 M = some so → Ev zq_T d 220 0 (zl_args 0 [.inr (.inr (6, some a0)), .inl a1]) [] M (some (.inr (.inr (3, so.1))), so.2)) (hr_rs_anyOrder : ∀ a0 a1 M so, r_rs_anyOrder a0 a1 M = some so → Ev zq_T d 221 0 (zl_args 0 [.inr (.inr (6, some a0)), .inl a1]) [] M (some (.inr (.inr (3, so.1))), so.2)) (v4 : Option Nat) (M : zM) (so : Option Nat × zM) (ls : List (Nat × zV)) (g4 : zl_get ls 4 = some (.inr (.inr (3, v4)))) (hs : rs_chain_21 r_rs_pattern r_rs_chain r_rs_link r_rs_unit r_rs_atom r_rs_bracket r_rs_anyOrder d v4 M = some so) : Ev zq_T (d + 1) 211 21 ls [] M (some (.inr (.inr (3, so.1))), so.2) := by
  unfold rs_chain_21 at hs
  refine e_ald cd_211_21 g4 ?_
  have e := Option.some.inj hs
  subst e
  exact e_rr cd_211_23 nr_211
theorem tie_rs_chain_103 (r_rs_pattern : Nat → Int32 → zM → Option (Option Nat × zM)) (r_rs_chain : Nat → Int32 → Int32 → Int32 → zM → Option (Option Nat × zM)) (r_rs_link : Nat → Int32 → Int32 → zM → Option (Option Nat × zM)) (r_rs_unit : Nat → Int32 → zM → Option (Option Nat × zM)) (r_rs_atom : Nat → Int32 → zM → Option (Option Nat × zM)) (r_rs_bracket : Nat → Int32 → zM → Option (Option Nat × zM)) (r_rs_anyOrder : Nat → Int32 → zM → Option (Option Nat × zM)) (d : Nat) (hr_rs_pattern : ∀ a0 a1 M so, r_rs_pattern a0 a1 M = some so → Ev zq_T d 210 0 (zl_args 0 [.inr (.inr (6, some a0)), .inl a1]) [] M (some (.inr (.inr (3, so.1))), so.2)) (hr_rs_chain : ∀ a0 a1 a2 a3 M so, r_rs_chain a0 a1 a2 a3 M = some so → Ev zq_T d 211 0 (zl_args 0 [.inr (.inr (6, some a0)), .inl a1, .inl a2, .inl a3]) [] M (some (.inr (.inr (3, so.1))), so.2)) (hr_rs_link : ∀ a0 a1 a2 M so, r_rs_link a0 a1 a2 M = some so → Ev zq_T d 212 0 (zl_args 0 [.inr (.inr (6, some a0)), .inl a1, .inl a2]) [] M (some (.inr (.inr (3, so.1))), so.2)) (hr_rs_unit : ∀ a0 a1 M so, r_rs_unit a0 a1 M = some so → Ev zq_T d 213 0 (zl_args 0 [.inr (.inr (6, some a0)), .inl a1]) [] M (some (.inr (.inr (3, so.1))), so.2)) (hr_rs_atom : ∀ a0 a1 M so, r_rs_atom a0 a1 M = some so → Ev zq_T d 218 0 (zl_args 0 [.inr (.inr (6, some a0)), .inl a1]) [] M (some (.inr (.inr (3, so.1))), so.2)) (hr_rs_bracket : ∀ a0 a1 M so, r_rs_bracket a0 a1 M = some so → Ev zq_T d 220 0 (zl_args 0 [.inr (.inr (6, some a0)), .inl a1]) [] M (some (.inr (.inr (3, so.1))), so.2)) (hr_rs_anyOrder : ∀ a0 a1 M so, r_rs_anyOrder a0 a1 M = some so → Ev zq_T d 221 0 (zl_args 0 [.inr (.inr (6, some a0)), .inl a1]) [] M (some (.inr (.inr (3, so.1))), so.2)) (v5 : Option Nat) (M : zM) (so : Option Nat × zM) (ls : List (Nat × zV)) (g5 : zl_get ls 5 = some (.inr (.inr (3, v5)))) (hs : rs_chain_103 r_rs_pattern r_rs_chain r_rs_link r_rs_unit r_rs_atom r_rs_bracket r_rs_anyOrder d v5 M = some so) : Ev zq_T (d + 1) 211 103 ls [] M (some (.inr (.inr (3, so.1))), so.2) := by
  unfold rs_chain_103 at hs
  refine e_ald cd_211_103 g5 ?_
  have e := Option.some.inj hs
  subst e
  exact e_rr cd_211_105 nr_211
theorem tie_rs_chain_49 (r_rs_pattern : Nat → Int32 → zM → Option (Option Nat × zM)) (r_rs_chain : Nat → Int32 → Int32 → Int32 → zM → Option (Option Nat × zM)) (r_rs_link : Nat → Int32 → Int32 → zM → Option (Option Nat × zM)) (r_rs_unit : Nat → Int32 → zM → Option (Option Nat × zM)) (r_rs_atom : Nat → Int32 → zM → Option (Option Nat × zM)) (r_rs_bracket : Nat → Int32 → zM → Option (Option Nat × zM)) (r_rs_anyOrder : Nat → Int32 → zM → Option (Option Nat × zM)) (d : Nat) (hr_rs_pattern : ∀ a0 a1 M so, r_rs_pattern a0 a1 M = some so → Ev zq_T d 210 0 (zl_args 0 [.inr (.inr (6, some a0)), .inl a1]) [] M (some (.inr (.inr (3, so.1))), so.2)) (hr_rs_chain : ∀ a0 a1 a2 a3 M so, r_rs_chain a0 a1 a2 a3 M = some so → Ev zq_T d 211 0 (zl_args 0 [.inr (.inr (6, some a0)), .inl a1, .inl a2, .inl a3]) [] M (some (.inr (.inr (3, so.1))), so.2)) (hr_rs_link : ∀ a0 a1 a2 M so, r_rs_link a0 a1 a2 M = some so → Ev zq_T d 212 0 (zl_args 0 [.inr (.inr (6, some a0)), .inl a1, .inl a2]) [] M (some (.inr (.inr (3, so.1))), so.2)) (hr_rs_unit : ∀ a0 a1 M so, r_rs_unit a0 a1 M = some so → Ev zq_T d 213 0 (zl_args 0 [.inr (.inr (6, some a0)), .inl a1]) [] M (some (.inr (.inr (3, so.1))), so.2)) (hr_rs_atom : ∀ a0 a1 M so, r_rs_atom a0 a1 M = some so → Ev zq_T d 218 0 (zl_args 0 [.inr (.inr (6, some a0)), .inl a1]) [] M (some (.inr (.inr (3, so.1))), so.2)) (hr_rs_bracket : ∀ a0 a1 M so, r_rs_bracket a0 a1 M = some so → Ev zq_T d 220 0 (zl_args 0 [.inr (.inr (6, some a0)), .inl a1]) [] M (some (.inr (.inr (3, so.1))), so.2)) (hr_rs_anyOrder : ∀ a0 a1 M so, r_rs_anyOrder a0 a1 M = some so → Ev zq_T d 221 0 (zl_args 0 [.inr (.inr (6, some a0)), .inl a1]) [] M (some (.inr (.inr (3, so.1))), so.2)) : ∀ (fuel : Nat) (t0 : Nat) (v1 : Int32) (v2 : Int32) (v3 : Int32) (v5 : Option Nat) (v6 : Int32) (M : zM) (so : Option Nat × zM) (ls : List (Nat × zV)), zl_get ls 0 = some (.inr (.inr (6, (some t0)))) → zl_get ls 1 = some (.inl v1) → zl_get ls 2 = some (.inl v2) → zl_get ls 3 = some (.inl v3) → zl_get ls 5 = some (.inr (.inr (3, v5))) → zl_get ls 6 = some (.inl v6) → rs_chain_49 r_rs_pattern r_rs_chain r_rs_link r_rs_unit r_rs_atom r_rs_bracket r_rs_anyOrder d fuel t0 v1 v2 v3 v5 v6 M = some so → Ev zq_T (d + 1) 211 49 ls [] M (some (.inr (.inr (3, so.1))), so.2) := by
  intro fuel
  induction fuel with
  | zero => intro t0 v1 v2 v3 v5 v6 M so ls g0 g1 g2 g3 g5 g6 hs; exact nomatch hs
  | succ fuel ih =>
    intro t0 v1 v2 v3 v5 v6 M so ls g0 g1 g2 g3 g5 g6 hs
    unfold rs_chain_49 at hs
    refine e_ild cd_211_49 g6 ?_
    refine e_sip cd_211_51 cs_400 ?_
    refine k_if hs (fun c1 hs => ?_) (fun c1 hs => ?_)
    · refine e_icJ cd_211_54 rfl c1 ?_
      exact tie_rs_chain_103 r_rs_pattern r_rs_chain r_rs_link r_rs_unit r_rs_atom r_rs_bracket r_rs_anyOrder d hr_rs_pattern hr_rs_chain hr_rs_link hr_rs_unit hr_rs_atom hr_rs_bracket hr_rs_anyOrder v5 M so _ g5 hs
    · refine e_icN cd_211_54 rfl c1 ?_
      refine e_aldn cd_211_57 g0 ?_
      obtain ⟨q2, h3, hs⟩ := k_bind hs
      refine e_cvi cd_211_58 kd_211_66 rfl rfl rfl rfl rfl nl_203 rfl rfl (tie_rs_sign d t0 M _ h3) ?_
      refine e_ildn cd_211_61 g2 ?_
      refine k_if hs (fun c4 hs => ?_) (fun c4 hs => ?_)
      · refine e_icN cd_211_62 rfl (fun q => q c4) ?_
        refine e_aldn cd_211_65 g0 ?_
        refine e_pure cd_211_66 rfl ?_
        refine e_getI cd_211_67 (Or.inl fd_211_53) rfl ?_
        refine e_const cd_211_70 ci_1 ?_
        refine e_pure cd_211_71 rfl ?_
        refine k_let hs (fun M5 e6 hs => ?_)
        refine e_putI cd_211_72 pd_211_53 rfl e6 ?_
        refine e_aldn cd_211_75 g0 ?_
        refine e_ildn cd_211_76 g1 ?_
        refine e_ildn cd_211_77 g3 ?_
        obtain ⟨q7, h8, hs⟩ := k_bind hs
        refine e_cvi cd_211_78 kd_211_105 rfl rfl rfl rfl rfl nl_212 rfl rfl (hr_rs_link t0 v1 v3 M5 _ h8) ?_
        refine e_aK cd_211_81 nl_211 rfl rfl ?_
        intro _ gn kp
        have u9 := kp 0 _ g0 rfl rfl
        have u10 := kp 1 _ g1 rfl rfl
        have u11 := kp 2 _ g2 rfl rfl
        have u12 := kp 3 _ g3 rfl rfl
        have u13 := kp 5 _ g5 rfl rfl
        have u14 := kp 6 _ g6 rfl rfl
        have u15 := gn
        refine e_ald cd_211_83 u15 ?_
        refine k_opt hs (fun h16 hs => ?_) (fun k17 h16 hs => ?_)
        · refine e_nn0 cd_211_85 rfl h16 ?_
          refine e_pure cd_211_88 rfl ?_
          have e := Option.some.inj hs
          subst e
          exact e_rr cd_211_89 nr_211
        · refine e_nn1 cd_211_85 rfl h16 ?_
          refine e_ald cd_211_90 u13 ?_
          refine e_ald cd_211_92 u15 ?_
          refine k_opt hs (fun _ q => nomatch q) (fun k18 h19 hs => ?_)
          obtain ⟨q20, h21, hs⟩ := k_bind hs
          refine e_cvi cd_211_94 kd_211_112 rfl rfl rfl h19 rfl nl_179 rfl rfl (tie_nd_append d k18 q7.1 q7.2 _ h21) ?_
          refine k_let hs (fun x22 e23 hs => ?_)
          refine e_incK cd_211_97 nl_211 rfl u14 ci_1 e23 ?_
          intro _ gn kp
          have u24 := kp 0 _ u9 rfl rfl
          have u25 := kp 1 _ u10 rfl rfl
          have u26 := kp 2 _ u11 rfl rfl
          have u27 := kp 3 _ u12 rfl rfl
          have u28 := kp 5 _ u13 rfl rfl
          have u29 := gn
          refine e_goto cd_211_100 rfl ?_
          exact ih t0 v1 v2 v3 v5 x22 q20 so _ u24 u25 u26 u27 u28 u29 hs
      · refine e_icJ cd_211_62 rfl c4 ?_
        exact tie_rs_chain_103 r_rs_pattern r_rs_chain r_rs_link r_rs_unit r_rs_atom r_rs_bracket r_rs_anyOrder d hr_rs_pattern hr_rs_chain hr_rs_link hr_rs_unit hr_rs_atom hr_rs_bracket hr_rs_anyOrder v5 q2.2 so _ g5 hs
theorem tieb_rs_chain (r_rs_pattern : Nat → Int32 → zM → Option (Option Nat × zM)) (r_rs_chain : Nat → Int32 → Int32 → Int32 → zM → Option (Option Nat × zM)) (r_rs_link : Nat → Int32 → Int32 → zM → Option (Option Nat × zM)) (r_rs_unit : Nat → Int32 → zM → Option (Option Nat × zM)) (r_rs_atom : Nat → Int32 → zM → Option (Option Nat × zM)) (r_rs_bracket : Nat → Int32 → zM → Option (Option Nat × zM)) (r_rs_anyOrder : Nat → Int32 → zM → Option (Option Nat × zM)) (d : Nat) (hr_rs_pattern : ∀ a0 a1 M so, r_rs_pattern a0 a1 M = some so → Ev zq_T d 210 0 (zl_args 0 [.inr (.inr (6, some a0)), .inl a1]) [] M (some (.inr (.inr (3, so.1))), so.2)) (hr_rs_chain : ∀ a0 a1 a2 a3 M so, r_rs_chain a0 a1 a2 a3 M = some so → Ev zq_T d 211 0 (zl_args 0 [.inr (.inr (6, some a0)), .inl a1, .inl a2, .inl a3]) [] M (some (.inr (.inr (3, so.1))), so.2)) (hr_rs_link : ∀ a0 a1 a2 M so, r_rs_link a0 a1 a2 M = some so → Ev zq_T d 212 0 (zl_args 0 [.inr (.inr (6, some a0)), .inl a1, .inl a2]) [] M (some (.inr (.inr (3, so.1))), so.2)) (hr_rs_unit : ∀ a0 a1 M so, r_rs_unit a0 a1 M = some so → Ev zq_T d 213 0 (zl_args 0 [.inr (.inr (6, some a0)), .inl a1]) [] M (some (.inr (.inr (3, so.1))), so.2)) (hr_rs_atom : ∀ a0 a1 M so, r_rs_atom a0 a1 M = some so → Ev zq_T d 218 0 (zl_args 0 [.inr (.inr (6, some a0)), .inl a1]) [] M (some (.inr (.inr (3, so.1))), so.2)) (hr_rs_bracket : ∀ a0 a1 M so, r_rs_bracket a0 a1 M = some so → Ev zq_T d 220 0 (zl_args 0 [.inr (.inr (6, some a0)), .inl a1]) [] M (some (.inr (.inr (3, so.1))), so.2)) (hr_rs_anyOrder : ∀ a0 a1 M so, r_rs_anyOrder a0 a1 M = some so → Ev zq_T d 221 0 (zl_args 0 [.inr (.inr (6, some a0)), .inl a1]) [] M (some (.inr (.inr (3, so.1))), so.2)) (a0 : Nat) (a1 : Int32) (a2 : Int32) (a3 : Int32) (M : zM) (so : Option Nat × zM) (hs : rs_chain_b r_rs_pattern r_rs_chain r_rs_link r_rs_unit r_rs_atom r_rs_bracket r_rs_anyOrder d a0 a1 a2 a3 M = some so) : Ev zq_T (d + 1) 211 0 (zl_args 0 [.inr (.inr (6, some a0)), .inl a1, .inl a2, .inl a3]) [] M (some (.inr (.inr (3, so.1))), so.2) := by
  unfold rs_chain_b at hs
  have g0 : zl_get (zl_args 0 [.inr (.inr (6, some a0)), .inl a1, .inl a2, .inl a3]) 0 = some (.inr (.inr (6, (some a0)))) := rfl
  have g1 : zl_get (zl_args 0 [.inr (.inr (6, some a0)), .inl a1, .inl a2, .inl a3]) 1 = some (.inl a1) := rfl
  have g2 : zl_get (zl_args 0 [.inr (.inr (6, some a0)), .inl a1, .inl a2, .inl a3]) 2 = some (.inl a2) := rfl
  have g3 : zl_get (zl_args 0 [.inr (.inr (6, some a0)), .inl a1, .inl a2, .inl a3]) 3 = some (.inl a3) := rfl
  refine e_aldn cd_211_0 g0 ?_
  refine e_ildn cd_211_1 g1 ?_
  refine e_ildn cd_211_2 g3 ?_
  obtain ⟨q1, h2, hs⟩ := k_bind hs
  refine e_cvi cd_211_3 kd_211_105 rfl rfl rfl rfl rfl nl_212 rfl rfl (hr_rs_link a0 a1 a3 M _ h2) ?_
  refine e_aK cd_211_6 nl_211 rfl rfl ?_
  intro _ gn kp
  have u3 := kp 0 _ g0 rfl rfl
  have u4 := kp 1 _ g1 rfl rfl
  have u5 := kp 2 _ g2 rfl rfl
  have u6 := kp 3 _ g3 rfl rfl
  have u7 := gn
  refine e_ald cd_211_8 u7 ?_
  refine k_opt hs (fun h8 hs => ?_) (fun k9 h8 hs => ?_)
  · refine e_nu0 cd_211_10 rfl h8 ?_
    exact tie_rs_chain_21 r_rs_pattern r_rs_chain r_rs_link r_rs_unit r_rs_atom r_rs_bracket r_rs_anyOrder d hr_rs_pattern hr_rs_chain hr_rs_link hr_rs_unit hr_rs_atom hr_rs_bracket hr_rs_anyOrder q1.1 q1.2 so _ u7 hs
  · refine e_nu1 cd_211_10 rfl h8 ?_
    refine e_aldn cd_211_13 u3 ?_
    obtain ⟨q10, h11, hs⟩ := k_bind hs
    refine e_cvi cd_211_14 kd_211_66 rfl rfl rfl rfl rfl nl_203 rfl rfl (tie_rs_sign d a0 q1.2 _ h11) ?_
    refine e_ildn cd_211_17 u5 ?_
    refine k_if hs (fun c12 hs => ?_) (fun c12 hs => ?_)
    · refine e_icJ cd_211_18 rfl c12 ?_
      refine e_aldn cd_211_24 u3 ?_
      refine e_ildn cd_211_25 u4 ?_
      refine e_const cd_211_26 ci_m1 ?_
      obtain ⟨q13, h14, hs⟩ := k_bind hs
      refine e_cvi cd_211_27 kd_211_109 rfl rfl rfl rfl rfl nl_206 rfl rfl (tie_rs_make d a0 a1 (-1) q10.2 _ h14) ?_
      refine e_aK cd_211_30 nl_211 rfl rfl ?_
      intro _ gn kp
      have u15 := kp 0 _ u3 rfl rfl
      have u16 := kp 1 _ u4 rfl rfl
      have u17 := kp 2 _ u5 rfl rfl
      have u18 := kp 3 _ u6 rfl rfl
      have u19 := kp 4 _ u7 rfl rfl
      have u20 := gn
      refine e_ald cd_211_32 u20 ?_
      refine k_opt hs (fun h21 hs => ?_) (fun k22 h21 hs => ?_)
      · refine e_nn0 cd_211_34 rfl h21 ?_
        refine e_pure cd_211_37 rfl ?_
        have e := Option.some.inj hs
        subst e
        exact e_rr cd_211_38 nr_211
      · refine e_nn1 cd_211_34 rfl h21 ?_
        refine e_ald cd_211_39 u20 ?_
        refine e_ald cd_211_41 u19 ?_
        obtain ⟨q23, h24, hs⟩ := k_bind hs
        refine e_cvi cd_211_43 kd_211_112 rfl rfl rfl h21 rfl nl_179 rfl rfl (tie_nd_append d k22 q1.1 q13.2 _ h24) ?_
        refine e_const cd_211_46 ci_0 ?_
        refine e_iK cd_211_47 nl_211 rfl rfl ?_
        intro _ gn kp
        have u25 := kp 0 _ u15 rfl rfl
        have u26 := kp 1 _ u16 rfl rfl
        have u27 := kp 2 _ u17 rfl rfl
        have u28 := kp 3 _ u18 rfl rfl
        have u29 := kp 5 _ u20 rfl rfl
        have u30 := gn
        exact tie_rs_chain_49 r_rs_pattern r_rs_chain r_rs_link r_rs_unit r_rs_atom r_rs_bracket r_rs_anyOrder d hr_rs_pattern hr_rs_chain hr_rs_link hr_rs_unit hr_rs_atom hr_rs_bracket hr_rs_anyOrder zLF a0 a1 a2 a3 q13.1 0 q23 so _ u25 u26 u27 u28 u29 u30 hs
    · refine e_icN cd_211_18 rfl c12 ?_
      exact tie_rs_chain_21 r_rs_pattern r_rs_chain r_rs_link r_rs_unit r_rs_atom r_rs_bracket r_rs_anyOrder d hr_rs_pattern hr_rs_chain hr_rs_link hr_rs_unit hr_rs_atom hr_rs_bracket hr_rs_anyOrder q1.1 q10.2 so _ u7 hs
theorem tie_rs_link_21 (r_rs_pattern : Nat → Int32 → zM → Option (Option Nat × zM)) (r_rs_chain : Nat → Int32 → Int32 → Int32 → zM → Option (Option Nat × zM)) (r_rs_link : Nat → Int32 → Int32 → zM → Option (Option Nat × zM)) (r_rs_unit : Nat → Int32 → zM → Option (Option Nat × zM)) (r_rs_atom : Nat → Int32 → zM → Option (Option Nat × zM)) (r_rs_bracket : Nat → Int32 → zM → Option (Option Nat × zM)) (r_rs_anyOrder : Nat → Int32 → zM → Option (Option Nat × zM)) (d : Nat) (hr_rs_pattern : ∀ a0 a1 M so, r_rs_pattern a0 a1 M = some so → Ev zq_T d 210 0 (zl_args 0 [.inr (.inr (6, some a0)), .inl a1]) [] M (some (.inr (.inr (3, so.1))), so.2)) (hr_rs_chain : ∀ a0 a1 a2 a3 M so, r_rs_chain a0 a1 a2 a3 M = some so → Ev zq_T d 211 0 (zl_args 0 [.inr (.inr (6, some a0)), .inl a1, .inl a2, .inl a3]) [] M (some (.inr (.inr (3, so.1))), so.2)) (hr_rs_link : ∀ a0 a1 a2 M so, r_rs_link a0 a1 a2 M = some so → Ev zq_T d 212 0 (zl_args 0 [.inr (.inr (6, some a0)), .inl a1, .inl a2]) [] M (some (.inr (.inr (3, so.1))), so.2)) (hr_rs_unit : ∀ a0 a1 M so, r_rs_unit a0 a1 M = some so → Ev zq_T d 213 0 (zl_args 0 [.inr (.inr (6, some a0)), .inl a1]) [] M (some (.inr (.inr (3, so.1))), so.2)) (hr_rs_atom : ∀ a0 a1 M so, r_rs_atom a0 a1 M = some so → Ev zq_T d 218 0 (zl_args 0 [.inr (.inr (6, some a0)), .inl a1]) [] M (some (.inr (.inr (3, so.1))), so.2)) (hr_rs_bracket : ∀ a0 a1 M so, r_rs_bracket a0 a1 M = some so → Ev zq_T d 220 0 (zl_args 0 [.inr (.inr (6, some a0)), .inl a1]) [] M (some (.inr (.inr (3, so.1))), so.2)) (hr_rs_anyOrder : ∀ a0 a1 M so, r_rs_anyOrder a0 a1 M = some so → Ev zq_T d 221 0 (zl_args 0 [.inr (.inr (6, some a0)), .inl a1]) [] M (some (.inr (.inr (3, so.1))), so.2)) (s0 : Option Nat) (M : zM) (so : Option Nat × zM) (ls : List (Nat × zV))  (hs : rs_link_21 r_rs_pattern r_rs_chain r_rs_link r_rs_unit r_rs_atom r_rs_bracket r_rs_anyOrder d s0 M = some so) : Ev zq_T (d + 1) 212 21 ls [.inr (.inr (3, s0))] M (some (.inr (.inr (3, so.1))), so.2) := by
  unfold rs_link_21 at hs
  have e := Option.some.inj hs
  subst e
  exact e_rr cd_212_21 nr_212
theorem tieb_rs_link (r_rs_pattern : Nat → Int32 → zM → Option (Option Nat × zM)) (r_rs_chain : Nat → Int32 → Int32 → Int32 → zM → Option (Option Nat × zM)) (r_rs_link : Nat → Int32 → Int32 → zM → Option (Option Nat × zM)) (r_rs_unit : Nat → Int32 → zM → Option (Option Nat × zM)) (r_rs_atom : Nat → Int32 → zM → Option (Option Nat × zM)) (r_rs_bracket : Nat → Int32 → zM → Option (Option Nat × zM)) (r_rs_anyOrder : Nat → Int32 → zM → Option (Option Nat × zM)) (d : Nat) (hr_rs_pattern : ∀ a0 a1 M so, r_rs_pattern a0 a1 M = some so → Ev zq_T d 210 0 (zl_args 0 [.inr (.inr (6, some a0)), .inl a1]) [] M (some (.inr (.inr (3, so.1))), so.2)) (hr_rs_chain : ∀ a0 a1 a2 a3 M so, r_rs_chain a0 a1 a2 a3 M = some so → Ev zq_T d 211 0 (zl_args 0 [.inr (.inr (6, some a0)), .inl a1, .inl a2, .inl a3]) [] M (some (.inr (.inr (3, so.1))), so.2)) (hr_rs_link : ∀ a0 a1 a2 M so, r_rs_link a0 a1 a2 M = some so → Ev zq_T d 212 0 (zl_args 0 [.inr (.inr (6, some a0)), .inl a1, .inl a2]) [] M (some (.inr (.inr (3, so.1))), so.2)) (hr_rs_unit : ∀ a0 a1 M so, r_rs_unit a0 a1 M = some so → Ev zq_T d 213 0 (zl_args 0 [.inr (.inr (6, some a0)), .inl a1]) [] M (some (.inr (.inr (3, so.1))), so.2)) (hr_rs_atom : ∀ a0 a1 M so, r_rs_atom a0 a1 M = some so → Ev zq_T d 218 0 (zl_args 0 [.inr (.inr (6, some a0)), .inl a1]) [] M (some (.inr (.inr (3, so.1))), so.2)) (hr_rs_bracket : ∀ a0 a1 M so, r_rs_bracket a0 a1 M = some so → Ev zq_T d 220 0 (zl_args 0 [.inr (.inr (6, some a0)), .inl a1]) [] M (some (.inr (.inr (3, so.1))), so.2)) (hr_rs_anyOrder : ∀ a0 a1 M so, r_rs_anyOrder a0 a1 M = some so → Ev zq_T d 221 0 (zl_args 0 [.inr (.inr (6, some a0)), .inl a1]) [] M (some (.inr (.inr (3, so.1))), so.2)) (a0 : Nat) (a1 : Int32) (a2 : Int32) (M : zM) (so : Option Nat × zM) (hs : rs_link_b r_rs_pattern r_rs_chain r_rs_link r_rs_unit r_rs_atom r_rs_bracket r_rs_anyOrder d a0 a1 a2 M = some so) : Ev zq_T (d + 1) 212 0 (zl_args 0 [.inr (.inr (6, some a0)), .inl a1, .inl a2]) [] M (some (.inr (.inr (3, so.1))), so.2) := by
  unfold rs_link_b at hs
  have g0 : zl_get (zl_args 0 [.inr (.inr (6, some a0)), .inl a1, .inl a2]) 0 = some (.inr (.inr (6, (some a0)))) := rfl
  have g1 : zl_get (zl_args 0 [.inr (.inr (6, some a0)), .inl a1, .inl a2]) 1 = some (.inl a1) := rfl
  have g2 : zl_get (zl_args 0 [.inr (.inr (6, some a0)), .inl a1, .inl a2]) 2 = some (.inl a2) := rfl
  refine e_ildn cd_212_0 g1 ?_
  refine e_const cd_212_1 ci_3 ?_
  refine k_if hs (fun c1 hs => ?_) (fun c1 hs => ?_)
  · refine e_icN cd_212_2 rfl (fun q => q c1) ?_
    refine e_aldn cd_212_5 g0 ?_
    refine e_const cd_212_6 ci_2 ?_
    refine e_bip cd_212_7 cb_44 ?_
    refine e_ildn cd_212_9 g2 ?_
    obtain ⟨q2, h3, hs⟩ := k_bind hs
    refine e_cvi cd_212_10 kd_212_101 rfl rfl rfl rfl rfl nl_211 rfl rfl (hr_rs_chain a0 2 44 a2 M _ h3) ?_
    refine e_goto cd_212_13 rfl ?_
    exact tie_rs_link_21 r_rs_pattern r_rs_chain r_rs_link r_rs_unit r_rs_atom r_rs_bracket r_rs_anyOrder d hr_rs_pattern hr_rs_chain hr_rs_link hr_rs_unit hr_rs_atom hr_rs_bracket hr_rs_anyOrder q2.1 q2.2 so _  hs
  · refine e_icJ cd_212_2 rfl c1 ?_
    refine e_aldn cd_212_16 g0 ?_
    refine e_ildn cd_212_17 g2 ?_
    obtain ⟨q4, h5, hs⟩ := k_bind hs
    refine e_cvi cd_212_18 kd_212_116 rfl rfl rfl rfl rfl nl_213 rfl rfl (hr_rs_unit a0 a2 M _ h5) ?_
    exact tie_rs_link_21 r_rs_pattern r_rs_chain r_rs_link r_rs_unit r_rs_atom r_rs_bracket r_rs_anyOrder d hr_rs_pattern hr_rs_chain hr_rs_link hr_rs_unit hr_rs_atom hr_rs_bracket hr_rs_anyOrder q4.1 q4.2 so _  hs
theorem tie_rs_unit_63 (r_rs_pattern : Nat → Int32 → zM → Option (Option Nat × zM)) (r_rs_chain : Nat → Int32 → Int32 → Int32 → zM → Option (Option Nat × zM)) (r_rs_link : Nat → Int32 → Int32 → zM → Option (Option Nat × zM)) (r_rs_unit : Nat → Int32 → zM → Option (Option Nat × zM)) (r_rs_atom : Nat → Int32 → zM → Option (Option Nat × zM)) (r_rs_bracket : Nat → Int32 → zM → Option (Option Nat × zM)) (r_rs_anyOrder : Nat → Int32 → zM → Option (Option Nat × zM)) (d : Nat) (hr_rs_pattern : ∀ a0 a1 M so, r_rs_pattern a0 a1 M = some so → Ev zq_T d 210 0 (zl_args 0 [.inr (.inr (6, some a0)), .inl a1]) [] M (some (.inr (.inr (3, so.1))), so.2)) (hr_rs_chain : ∀ a0 a1 a2 a3 M so, r_rs_chain a0 a1 a2 a3 M = some so → Ev zq_T d 211 0 (zl_args 0 [.inr (.inr (6, some a0)), .inl a1, .inl a2, .inl a3]) [] M (some (.inr (.inr (3, so.1))), so.2)) (hr_rs_link : ∀ a0 a1 a2 M so, r_rs_link a0 a1 a2 M = some so → Ev zq_T d 212 0 (zl_args 0 [.inr (.inr (6, some a0)), .inl a1, .inl a2]) [] M (some (.inr (.inr (3, so.1))), so.2)) (hr_rs_unit : ∀ a0 a1 M so, r_rs_unit a0 a1 M = some so → Ev zq_T d 213 0 (zl_args 0 [.inr (.inr (6, some a0)), .inl a1]) [] M (some (.inr (.inr (3, so.1))), so.2)) (hr_rs_atom : ∀ a0 a1 M so, r_rs_atom a0 a1 M = some so → Ev zq_T d 218 0 (zl_args 0 [.inr (.inr (6, some a0)), .inl a1]) [] M (some (.inr (.inr (3, so.1))), so.2)) (hr_rs_bracket : ∀ a0 a1 M so, r_rs_bracket a0 a1 M = some so → Ev zq_T d 220 0 (zl_args 0 [.inr (.inr (6, some a0)), .inl a1]) [] M (some (.inr (.inr (3, so.1))), so.2)) (hr_rs_anyOrder : ∀ a0 a1 M so, r_rs_anyOrder a0 a1 M = some so → Ev zq_T d 221 0 (zl_args 0 [.inr (.inr (6, some a0)), .inl a1]) [] M (some (.inr (.inr (3, so.1))), so.2)) (t0 : Nat) (M : zM) (so : Option Nat × zM) (ls : List (Nat × zV)) (g0 : zl_get ls 0 = some (.inr (.inr (6, (some t0))))) (hs : rs_unit_63 r_rs_pattern r_rs_chain r_rs_link r_rs_unit r_rs_atom r_rs_bracket r_rs_anyOrder d t0 M = some so) : Ev zq_T (d + 1) 213 63 ls [] M (some (.inr (.inr (3, so.1))), so.2) := by
  unfold rs_unit_63 at hs
  refine e_aldn cd_213_63 g0 ?_
  obtain ⟨q1, h2, hs⟩ := k_bind hs
  refine e_cvi cd_213_64 kd_213_70 rfl rfl rfl rfl rfl nl_205 rfl rfl (tie_rs_noNode d t0 M _ h2) ?_
  have e := Option.some.inj hs
  subst e
  exact e_rr cd_213_67 nr_213
theorem tie_rs_unit_165 (r_rs_pattern : Nat → Int32 → zM → Option (Option Nat × zM)) (r_rs_chain : Nat → Int32 → Int32 → Int32 → zM → Option (Option Nat × zM)) (r_rs_link : Nat → Int32 → Int32 → zM → Option (Option Nat × zM)) (r_rs_unit : Nat → Int32 → zM → Option (Option Nat × zM)) (r_rs_atom : Nat → Int32 → zM → Option (Option Nat × zM)) (r_rs_bracket : Nat → Int32 → zM → Option (Option Nat × zM)) (r_rs_anyOrder : Nat → Int32 → zM → Option (Option Nat × zM)) (d : Nat) (hr_rs_pattern : ∀ a0 a1 M so, r_rs_pattern a0 a1 M = some so → Ev zq_T d 210 0 (zl_args 0 [.inr (.inr (6, some a0)), .inl a1]) [] M (some (.inr (.inr (3, so.1))), so.2)) (hr_rs_chain : ∀ a0 a1 a2 a3 M so, r_rs_chain a0 a1 a2 a3 M = some so → Ev zq_T d 211 0 (zl_args 0 [.inr (.inr (6, some a0)), .inl a1, .inl a2, .inl a3]) [] M (some (.inr (.inr (3, so.1))), so.2)) (hr_rs_link : ∀ a0 a1 a2 M so, r_rs_link a0 a1 a2 M = some so → Ev zq_T d 212 0 (zl_args 0 [.inr (.inr (6, some a0)), .inl a1, .inl a2]) [] M (some (.inr (.inr (3, so.1))), so.2)) (hr_rs_unit : ∀ a0 a1 M so, r_rs_unit a0 a1 M = some so → Ev zq_T d 213 0 (zl_args 0 [.inr (.inr (6, some a0)), .inl a1]) [] M (some (.inr (.inr (3, so.1))), so.2)) (hr_rs_atom : ∀ a0 a1 M so, r_rs_atom a0 a1 M = some so → Ev zq_T d 218 0 (zl_args 0 [.inr (.inr (6, some a0)), .inl a1]) [] M (some (.inr (.inr (3, so.1))), so.2)) (hr_rs_bracket : ∀ a0 a1 M so, r_rs_bracket a0 a1 M = some so → Ev zq_T d 220 0 (zl_args 0 [.inr (.inr (6, some a0)), .inl a1]) [] M (some (.inr (.inr (3, so.1))), so.2)) (hr_rs_anyOrder : ∀ a0 a1 M so, r_rs_anyOrder a0 a1 M = some so → Ev zq_T d 221 0 (zl_args 0 [.inr (.inr (6, some a0)), .inl a1]) [] M (some (.inr (.inr (3, so.1))), so.2)) (s0 : Option Nat) (M : zM) (so : Option Nat × zM) (ls : List (Nat × zV))  (hs : rs_unit_165 r_rs_pattern r_rs_chain r_rs_link r_rs_unit r_rs_atom r_rs_bracket r_rs_anyOrder d s0 M = some so) : Ev zq_T (d + 1) 213 165 ls [.inr (.inr (3, s0))] M (some (.inr (.inr (3, so.1))), so.2) := by
  unfold rs_unit_165 at hs
  have e := Option.some.inj hs
  subst e
  exact e_rr cd_213_165 nr_213
set_option maxRecDepth 100000 in
theorem tie_rs_unit_43 (r_rs_pattern : Nat → Int32 → zM → Option (Option Nat × zM)) (r_rs_chain : Nat → Int32 → Int32 → Int32 → zM → Option (Option Nat × zM)) (r_rs_link : Nat → Int32 → Int32 → zM → Option (Option Nat × zM)) (r_rs_unit : Nat → Int32 → zM → Option (Option Nat × zM)) (r_rs_atom : Nat → Int32 → zM → Option (Option Nat × zM)) (r_rs_bracket : Nat → Int32 → zM → Option (Option Nat × zM)) (r_rs_anyOrder : Nat → Int32 → zM → Option (Option Nat × zM)) (d : Nat) (hr_rs_pattern : ∀ a0 a1 M so, r_rs_pattern a0 a1 M = some so → Ev zq_T d 210 0 (zl_args 0 [.inr (.inr (6, some a0)), .inl a1]) [] M (some (.inr (.inr (3, so.1))), so.2)) (hr_rs_chain : ∀ a0 a1 a2 a3 M so, r_rs_chain a0 a1 a2 a3 M = some so → Ev zq_T d 211 0 (zl_args 0 [.inr (.inr (6, some a0)), .inl a1, .inl a2, .inl a3]) [] M (some (.inr (.inr (3, so.1))), so.2)) (hr_rs_link : ∀ a0 a1 a2 M so, r_rs_link a0 a1 a2 M = some so → Ev zq_T d 212 0 (zl_args 0 [.inr (.inr (6, some a0)), .inl a1, .inl a2]) [] M (some (.inr (.inr (3, so.1))), so.2)) (hr_rs_unit : ∀ a0 a1 M so, r_rs_unit a0 a1 M = some so → Ev zq_T d 213 0 (zl_args 0 [.inr (.inr (6, some a0)), .inl a1]) [] M (some (.inr (.inr (3, so.1))), so.2)) (hr_rs_atom : ∀ a0 a1 M so, r_rs_atom a0 a1 M = some so → Ev zq_T d 218 0 (zl_args 0 [.inr (.inr (6, some a0)), .inl a1]) [] M (some (.inr (.inr (3, so.1))), so.2)) (hr_rs_bracket : ∀ a0 a1 M so, r_rs_bracket a0 a1 M = some so → Ev zq_T d 220 0 (zl_args 0 [.inr (.inr (6, some a0)), .inl a1]) [] M (some (.inr (.inr (3, so.1))), so.2)) (hr_rs_anyOrder : ∀ a0 a1 M so, r_rs_anyOrder a0 a1 M = some so → Ev zq_T d 221 0 (zl_args 0 [.inr (.inr (6, some a0)), .inl a1]) [] M (some (.inr (.inr (3, so.1))), so.2)) (t0 : Nat) (v2 : Option Nat) (v3 : Int32) (M : zM) (so : Option Nat × zM) (ls : List (Nat × zV)) (g0 : zl_get ls 0 = some (.inr (.inr (6, (some t0))))) (g2 : zl_get ls 2 = some (.inr (.inr (3, v2)))) (g3 : zl_get ls 3 = some (.inl v3)) (hs : rs_unit_43 r_rs_pattern r_rs_chain r_rs_link r_rs_unit r_rs_atom r_rs_bracket r_rs_anyOrder d t0 v2 v3 M = some so) : Ev zq_T (d + 1) 213 43 ls [] M (some (.inr (.inr (3, so.1))), so.2) := by
  unfold rs_unit_43 at hs
  refine e_aldn cd_213_43 g2 ?_
  refine k_opt hs (fun _ q => nomatch q) (fun k1 h2 hs => ?_)
  refine e_getI cd_213_44 (Or.inl fd_213_122) h2 ?_
  refine e_const cd_213_47 ci_2 ?_
  refine k_if hs (fun c3 hs => ?_) (fun c3 hs => ?_)
  · refine e_icJ cd_213_48 rfl c3 ?_
    exact tie_rs_unit_63 r_rs_pattern r_rs_chain r_rs_link r_rs_unit r_rs_atom r_rs_bracket r_rs_anyOrder d hr_rs_pattern hr_rs_chain hr_rs_link hr_rs_unit hr_rs_atom hr_rs_bracket hr_rs_anyOrder t0 M so _ g0 hs
  · refine e_icN cd_213_48 rfl c3 ?_
    refine e_aldn cd_213_51 g0 ?_
    refine e_getR cd_213_52 fd_213_32 rfl ?_
    refine k_opt hs (fun _ q => nomatch q) (fun k4 h5 hs => ?_)
    refine e_getI cd_213_55 (Or.inl fd_213_125) h5 ?_
    refine e_bip cd_213_58 cbb_8 ?_
    refine k_if hs (fun c6 hs => ?_) (fun c6 hs => ?_)
    · refine e_icJ cd_213_60 rfl c6 ?_
      refine e_aldn cd_213_68 g0 ?_
      refine e_const cd_213_69 ci_4 ?_
      refine e_aldn cd_213_70 g0 ?_
      refine e_getR cd_213_71 fd_213_32 rfl ?_
      refine k_opt hs (fun _ q => nomatch q) (fun k7 h8 hs => ?_)
      refine e_getI cd_213_74 (Or.inl fd_213_125) h8 ?_
      obtain ⟨q9, h10, hs⟩ := k_bind hs
      refine e_cvi cd_213_77 kd_213_109 rfl rfl rfl rfl rfl nl_206 rfl rfl (tie_rs_make d t0 4 (zm_I M 5 k7 3) M _ h10) ?_
      refine e_aK cd_213_80 nl_213 rfl rfl ?_
      intro _ gn kp
      have u11 := kp 0 _ g0 rfl rfl
      have u12 := kp 2 _ g2 rfl rfl
      have u13 := kp 3 _ g3 rfl rfl
      have u14 := gn
      refine e_ald cd_213_82 u14 ?_
      refine k_opt hs (fun h15 hs => ?_) (fun k16 h15 hs => ?_)
      · refine e_nn0 cd_213_84 rfl h15 ?_
        refine e_pure cd_213_87 rfl ?_
        have e := Option.some.inj hs
        subst e
        exact e_rr cd_213_88 nr_213
      · refine e_nn1 cd_213_84 rfl h15 ?_
        refine e_ald cd_213_89 u14 ?_
        refine e_aldn cd_213_91 u12 ?_
        obtain ⟨q17, h18, hs⟩ := k_bind hs
        refine e_cvi cd_213_92 kd_213_112 rfl rfl rfl h15 rfl nl_179 rfl rfl (tie_nd_append d k16 v2 q9.2 _ h18) ?_
        refine e_ald cd_213_95 u14 ?_
        refine e_pure cd_213_97 rfl ?_
        refine e_getI cd_213_98 (Or.inl fd_213_122) h15 ?_
        refine e_const cd_213_101 ci_1 ?_
        refine e_pure cd_213_102 rfl ?_
        refine k_let hs (fun M19 e20 hs => ?_)
        refine e_putI cd_213_103 pd_213_122 h15 e20 ?_
        refine e_aldn cd_213_106 u11 ?_
        refine e_getR cd_213_107 fd_213_32 rfl ?_
        refine k_opt hs (fun _ q => nomatch q) (fun k21 h22 hs => ?_)
        refine e_getR cd_213_110 fd_213_128 h22 ?_
        refine e_aldn cd_213_113 u11 ?_
        refine e_getR cd_213_114 fd_213_32 rfl ?_
        refine k_opt hs (fun _ q => nomatch q) (fun k23 h24 hs => ?_)
        refine e_getI cd_213_117 (Or.inl fd_213_125) h24 ?_
        refine e_ald cd_213_120 u14 ?_
        refine k_opt hs (fun _ q => nomatch q) (fun k25 h26 hs => ?_)
        obtain ⟨c27, hs⟩ := z_ite hs
        refine k_let hs (fun M28 e29 hs => ?_)
        refine e_aast cd_213_122 rfl h26 c27 e29 ?_
        refine e_aldn cd_213_123 u11 ?_
        refine e_getR cd_213_124 fd_213_32 rfl ?_
        refine e_pure cd_213_127 rfl ?_
        refine k_opt hs (fun _ q => nomatch q) (fun k30 h31 hs => ?_)
        refine e_getI cd_213_128 (Or.inl fd_213_125) h31 ?_
        refine e_const cd_213_131 ci_1 ?_
        refine e_pure cd_213_132 rfl ?_
        refine k_let hs (fun M32 e33 hs => ?_)
        refine e_putI cd_213_133 pd_213_125 h31 e33 ?_
        refine e_aldn cd_213_136 u11 ?_
        refine e_pure cd_213_137 rfl ?_
        refine e_getI cd_213_138 (Or.inl fd_213_53) rfl ?_
        refine e_const cd_213_141 ci_1 ?_
        refine e_pure cd_213_142 rfl ?_
        refine k_let hs (fun M34 e35 hs => ?_)
        refine e_putI cd_213_143 pd_213_53 rfl e35 ?_
        refine e_aldn cd_213_146 u11 ?_
        refine e_ildn cd_213_147 u13 ?_
        refine e_ald cd_213_148 u14 ?_
        refine e_getI cd_213_150 (Or.inl fd_213_131) h15 ?_
        obtain ⟨q36, h37, hs⟩ := k_bind hs
        refine e_cvi cd_213_153 kd_213_134 rfl rfl rfl rfl rfl nl_214 rfl rfl (tie_rs_amounts d t0 v3 (zm_I M34 3 k16 1) M34 _ h37) ?_
        refine k_if hs (fun c38 hs => ?_) (fun c38 hs => ?_)
        · refine e_izJ cd_213_156 rfl c38 ?_
          refine e_pure cd_213_164 rfl ?_
          exact tie_rs_unit_165 r_rs_pattern r_rs_chain r_rs_link r_rs_unit r_rs_atom r_rs_bracket r_rs_anyOrder d hr_rs_pattern hr_rs_chain hr_rs_link hr_rs_unit hr_rs_atom hr_rs_bracket hr_rs_anyOrder none q36.2 so _  hs
        · refine e_izN cd_213_156 rfl c38 ?_
          refine e_ald cd_213_159 u14 ?_
          refine e_goto cd_213_161 rfl ?_
          exact tie_rs_unit_165 r_rs_pattern r_rs_chain r_rs_link r_rs_unit r_rs_atom r_rs_bracket r_rs_anyOrder d hr_rs_pattern hr_rs_chain hr_rs_link hr_rs_unit hr_rs_atom hr_rs_bracket hr_rs_anyOrder q9.1 q36.2 so _  hs
    · refine e_icN cd_213_60 rfl c6 ?_
      exact tie_rs_unit_63 r_rs_pattern r_rs_chain r_rs_link r_rs_unit r_rs_atom r_rs_bracket r_rs_anyOrder d hr_rs_pattern hr_rs_chain hr_rs_link hr_rs_unit hr_rs_atom hr_rs_bracket hr_rs_anyOrder t0 M so _ g0 hs
theorem tieb_rs_unit (r_rs_pattern : Nat → Int32 → zM → Option (Option Nat × zM)) (r_rs_chain : Nat → Int32 → Int32 → Int32 → zM → Option (Option Nat × zM)) (r_rs_link : Nat → Int32 → Int32 → zM → Option (Option Nat × zM)) (r_rs_unit : Nat → Int32 → zM → Option (Option Nat × zM)) (r_rs_atom : Nat → Int32 → zM → Option (Option Nat × zM)) (r_rs_bracket : Nat → Int32 → zM → Option (Option Nat × zM)) (r_rs_anyOrder : Nat → Int32 → zM → Option (Option Nat × zM)) (d : Nat) (hr_rs_pattern : ∀ a0 a1 M so, r_rs_pattern a0 a1 M = some so → Ev zq_T d 210 0 (zl_args 0 [.inr (.inr (6, some a0)), .inl a1]) [] M (some (.inr (.inr (3, so.1))), so.2)) (hr_rs_chain : ∀ a0 a1 a2 a3 M so, r_rs_chain a0 a1 a2 a3 M = some so → Ev zq_T d 211 0 (zl_args 0 [.inr (.inr (6, some a0)), .inl a1, .inl a2, .inl a3]) [] M (some (.inr (.inr (3, so.1))), so.2)) (hr_rs_link : ∀ a0 a1 a2 M so, r_rs_link a0 a1 a2 M = some so → Ev zq_T d 212 0 (zl_args 0 [.inr (.inr (6, some a0)), .inl a1, .inl a2]) [] M (some (.inr (.inr (3, so.1))), so.2)) (hr_rs_unit : ∀ a0 a1 M so, r_rs_unit a0 a1 M = some so → Ev zq_T d 213 0 (zl_args 0 [.inr (.inr (6, some a0)), .inl a1]) [] M (some (.inr (.inr (3, so.1))), so.2)) (hr_rs_atom : ∀ a0 a1 M so, r_rs_atom a0 a1 M = some so → Ev zq_T d 218 0 (zl_args 0 [.inr (.inr (6, some a0)), .inl a1]) [] M (some (.inr (.inr (3, so.1))), so.2)) (hr_rs_bracket : ∀ a0 a1 M so, r_rs_bracket a0 a1 M = some so → Ev zq_T d 220 0 (zl_args 0 [.inr (.inr (6, some a0)), .inl a1]) [] M (some (.inr (.inr (3, so.1))), so.2)) (hr_rs_anyOrder : ∀ a0 a1 M so, r_rs_anyOrder a0 a1 M = some so → Ev zq_T d 221 0 (zl_args 0 [.inr (.inr (6, some a0)), .inl a1]) [] M (some (.inr (.inr (3, so.1))), so.2)) (a0 : Nat) (a1 : Int32) (M : zM) (so : Option Nat × zM) (hs : rs_unit_b r_rs_pattern r_rs_chain r_rs_link r_rs_unit r_rs_atom r_rs_bracket r_rs_anyOrder d a0 a1 M = some so) : Ev zq_T (d + 1) 213 0 (zl_args 0 [.inr (.inr (6, some a0)), .inl a1]) [] M (some (.inr (.inr (3, so.1))), so.2) := by
  unfold rs_unit_b at hs
  have g0 : zl_get (zl_args 0 [.inr (.inr (6, some a0)), .inl a1]) 0 = some (.inr (.inr (6, (some a0)))) := rfl
  have g1 : zl_get (zl_args 0 [.inr (.inr (6, some a0)), .inl a1]) 1 = some (.inl a1) := rfl
  refine e_aldn cd_213_0 g0 ?_
  refine e_ildn cd_213_1 g1 ?_
  obtain ⟨q1, h2, hs⟩ := k_bind hs
  refine e_cvi cd_213_2 kd_213_119 rfl rfl rfl rfl rfl nl_218 rfl rfl (hr_rs_atom a0 a1 M _ h2) ?_
  refine e_aKn cd_213_5 nl_213 rfl rfl ?_
  intro _ gn kp
  have u3 := kp 0 _ g0 rfl rfl
  have u4 := gn
  refine e_aldn cd_213_6 u4 ?_
  refine k_opt hs (fun h5 hs => ?_) (fun k6 h5 hs => ?_)
  · refine e_nn0 cd_213_7 rfl h5 ?_
    refine e_pure cd_213_10 rfl ?_
    have e := Option.some.inj hs
    subst e
    exact e_rr cd_213_11 nr_213
  · refine e_nn1 cd_213_7 rfl h5 ?_
    refine e_aldn cd_213_12 u3 ?_
    obtain ⟨q7, h8, hs⟩ := k_bind hs
    refine e_cvi cd_213_13 kd_213_66 rfl rfl rfl rfl rfl nl_203 rfl rfl (tie_rs_sign d a0 q1.2 _ h8) ?_
    refine e_iKn cd_213_16 nl_213 rfl rfl ?_
    intro _ gn kp
    have u9 := kp 0 _ u3 rfl rfl
    have u10 := kp 2 _ u4 rfl rfl
    have u11 := gn
    refine e_ildn cd_213_17 u11 ?_
    refine e_bip cd_213_18 cb_63 ?_
    refine k_if hs (fun c12 hs => ?_) (fun c12 hs => ?_)
    · refine e_icJ cd_213_20 rfl c12 ?_
      exact tie_rs_unit_43 r_rs_pattern r_rs_chain r_rs_link r_rs_unit r_rs_atom r_rs_bracket r_rs_anyOrder d hr_rs_pattern hr_rs_chain hr_rs_link hr_rs_unit hr_rs_atom hr_rs_bracket hr_rs_anyOrder a0 q1.1 q7.1 q7.2 so _ u9 u10 u11 hs
    · refine e_icN cd_213_20 rfl c12 ?_
      refine e_ildn cd_213_23 u11 ?_
      refine e_bip cd_213_24 cb_42 ?_
      refine k_if hs (fun c13 hs => ?_) (fun c13 hs => ?_)
      · refine e_icJ cd_213_26 rfl c13 ?_
        exact tie_rs_unit_43 r_rs_pattern r_rs_chain r_rs_link r_rs_unit r_rs_atom r_rs_bracket r_rs_anyOrder d hr_rs_pattern hr_rs_chain hr_rs_link hr_rs_unit hr_rs_atom hr_rs_bracket hr_rs_anyOrder a0 q1.1 q7.1 q7.2 so _ u9 u10 u11 hs
      · refine e_icN cd_213_26 rfl c13 ?_
        refine e_ildn cd_213_29 u11 ?_
        refine e_bip cd_213_30 cb_43 ?_
        refine k_if hs (fun c14 hs => ?_) (fun c14 hs => ?_)
        · refine e_icJ cd_213_32 rfl c14 ?_
          exact tie_rs_unit_43 r_rs_pattern r_rs_chain r_rs_link r_rs_unit r_rs_atom r_rs_bracket r_rs_anyOrder d hr_rs_pattern hr_rs_chain hr_rs_link hr_rs_unit hr_rs_atom hr_rs_bracket hr_rs_anyOrder a0 q1.1 q7.1 q7.2 so _ u9 u10 u11 hs
        · refine e_icN cd_213_32 rfl c14 ?_
          refine e_ildn cd_213_35 u11 ?_
          refine e_bip cd_213_36 cb_123 ?_
          refine k_if hs (fun c15 hs => ?_) (fun c15 hs => ?_)
          · refine e_icJ cd_213_38 rfl c15 ?_
            exact tie_rs_unit_43 r_rs_pattern r_rs_chain r_rs_link r_rs_unit r_rs_atom r_rs_bracket r_rs_anyOrder d hr_rs_pattern hr_rs_chain hr_rs_link hr_rs_unit hr_rs_atom hr_rs_bracket hr_rs_anyOrder a0 q1.1 q7.1 q7.2 so _ u9 u10 u11 hs
          · refine e_icN cd_213_38 rfl c15 ?_
            refine e_aldn cd_213_41 u10 ?_
            have e := Option.some.inj hs
            subst e
            exact e_rr cd_213_42 nr_213
theorem tie_rs_atom_62 (r_rs_pattern : Nat → Int32 → zM → Option (Option Nat × zM)) (r_rs_chain : Nat → Int32 → Int32 → Int32 → zM → Option (Option Nat × zM)) (r_rs_link : Nat → Int32 → Int32 → zM → Option (Option Nat × zM)) (r_rs_unit : Nat → Int32 → zM → Option (Option Nat × zM)) (r_rs_atom : Nat → Int32 → zM → Option (Option Nat × zM)) (r_rs_bracket : Nat → Int32 → zM → Option (Option Nat × zM)) (r_rs_anyOrder : Nat → Int32 → zM → Option (Option Nat × zM)) (d : Nat) (hr_rs_pattern : ∀ a0 a1 M so, r_rs_pattern a0 a1 M = some so → Ev zq_T d 210 0 (zl_args 0 [.inr (.inr (6, some a0)), .inl a1]) [] M (some (.inr (.inr (3, so.1))), so.2)) (hr_rs_chain : ∀ a0 a1 a2 a3 M so, r_rs_chain a0 a1 a2 a3 M = some so → Ev zq_T d 211 0 (zl_args 0 [.inr (.inr (6, some a0)), .inl a1, .inl a2, .inl a3]) [] M (some (.inr (.inr (3, so.1))), so.2)) (hr_rs_link : ∀ a0 a1 a2 M so, r_rs_link a0 a1 a2 M = some so → Ev zq_T d 212 0 (zl_args 0 [.inr (.inr (6, some a0)), .inl a1, .inl a2]) [] M (some (.inr (.inr (3, so.1))), so.2)) (hr_rs_unit : ∀ a0 a1 M so, r_rs_unit a0 a1 M = some so → Ev zq_T d 213 0 (zl_args 0 [.inr (.inr (6, some a0)), .inl a1]) [] M (some (.inr (.inr (3, so.1))), so.2)) (hr_rs_atom : ∀ a0 a1 M so, r_rs_atom a0 a1 M = some so → Ev zq_T d 218 0 (zl_args 0 [.inr (.inr (6, some a0)), .inl a1]) [] M (some (.inr (.inr (3, so.1))), so.2)) (hr_rs_bracket : ∀ a0 a1 M so, r_rs_bracket a0 a1 M = some so → Ev zq_T d 220 0 (zl_args 0 [.inr (.inr (6, some a0)), .inl a1]) [] M (some (.inr (.inr (3, so.1))), so.2)) (hr_rs_anyOrder : ∀ a0 a1 M so, r_rs_anyOrder a0 a1 M = some so → Ev zq_T d 221 0 (zl_args 0 [.inr (.inr (6, some a0)), .inl a1]) [] M (some (.inr (.inr (3, so.1))), so.2)) (t0 : Nat) (M : zM) (so : Option Nat × zM) (ls : List (Nat × zV)) (g0 : zl_get ls 0 = some (.inr (.inr (6, (some t0))))) (hs : rs_atom_62 r_rs_pattern r_rs_chain r_rs_link r_rs_unit r_rs_atom r_rs_bracket r_rs_anyOrder d t0 M = some so) : Ev zq_T (d + 1) 218 62 ls [] M (some (.inr (.inr (3, so.1))), so.2) := by
  unfold rs_atom_62 at hs
  refine e_aldn cd_218_62 g0 ?_
  obtain ⟨q1, h2, hs⟩ := k_bind hs
  refine e_cvi cd_218_63 kd_218_70 rfl rfl rfl rfl rfl nl_205 rfl rfl (tie_rs_noNode d t0 M _ h2) ?_
  have e := Option.some.inj hs
  subst e
  exact e_rr cd_218_66 nr_218
theorem tie_rs_atom_86 (r_rs_pattern : Nat → Int32 → zM → Option (Option Nat × zM)) (r_rs_chain : Nat → Int32 → Int32 → Int32 → zM → Option (Option Nat × zM)) (r_rs_link : Nat → Int32 → Int32 → zM → Option (Option Nat × zM)) (r_rs_unit : Nat → Int32 → zM → Option (Option Nat × zM)) (r_rs_atom : Nat → Int32 → zM → Option (Option Nat × zM)) (r_rs_bracket : Nat → Int32 → zM → Option (Option Nat × zM)) (r_rs_anyOrder : Nat → Int32 → zM → Option (Option Nat × zM)) (d : Nat) (hr_rs_pattern : ∀ a0 a1 M so, r_rs_pattern a0 a1 M = some so → Ev zq_T d 210 0 (zl_args 0 [.inr (.inr (6, some a0)), .inl a1]) [] M (some (.inr (.inr (3, so.1))), so.2)) (hr_rs_chain : ∀ a0 a1 a2 a3 M so, r_rs_chain a0 a1 a2 a3 M = some so → Ev zq_T d 211 0 (zl_args 0 [.inr (.inr (6, some a0)), .inl a1, .inl a2, .inl a3]) [] M (some (.inr (.inr (3, so.1))), so.2)) (hr_rs_link : ∀ a0 a1 a2 M so, r_rs_link a0 a1 a2 M = some so → Ev zq_T d 212 0 (zl_args 0 [.inr (.inr (6, some a0)), .inl a1, .inl a2]) [] M (some (.inr (.inr (3, so.1))), so.2)) (hr_rs_unit : ∀ a0 a1 M so, r_rs_unit a0 a1 M = some so → Ev zq_T d 213 0 (zl_args 0 [.inr (.inr (6, some a0)), .inl a1]) [] M (some (.inr (.inr (3, so.1))), so.2)) (hr_rs_atom : ∀ a0 a1 M so, r_rs_atom a0 a1 M = some so → Ev zq_T d 218 0 (zl_args 0 [.inr (.inr (6, some a0)), .inl a1]) [] M (some (.inr (.inr (3, so.1))), so.2)) (hr_rs_bracket : ∀ a0 a1 M so, r_rs_bracket a0 a1 M = some so → Ev zq_T d 220 0 (zl_args 0 [.inr (.inr (6, some a0)), .inl a1]) [] M (some (.inr (.inr (3, so.1))), so.2)) (hr_rs_anyOrder : ∀ a0 a1 M so, r_rs_anyOrder a0 a1 M = some so → Ev zq_T d 221 0 (zl_args 0 [.inr (.inr (6, some a0)), .inl a1]) [] M (some (.inr (.inr (3, so.1))), so.2)) (s0 : Option Nat) (M : zM) (so : Option Nat × zM) (ls : List (Nat × zV))  (hs : rs_atom_86 r_rs_pattern r_rs_chain r_rs_link r_rs_unit r_rs_atom r_rs_bracket r_rs_anyOrder d s0 M = some so) : Ev zq_T (d + 1) 218 86 ls [.inr (.inr (3, s0))] M (some (.inr (.inr (3, so.1))), so.2) := by
  unfold rs_atom_86 at hs
  have e := Option.some.inj hs
  subst e
  exact e_rr cd_218_86 nr_218
theorem tie_rs_atom_67 (r_rs_pattern : Nat → Int32 → zM → Option (Option Nat × zM)) (r_rs_chain : Nat → Int32 → Int32 → Int32 → zM → Option (Option Nat × zM)) (r_rs_link : Nat → Int32 → Int32 → zM → Option (Option Nat × zM)) (r_rs_unit : Nat → Int32 → zM → Option (Option Nat × zM)) (r_rs_atom : Nat → Int32 → zM → Option (Option Nat × zM)) (r_rs_bracket : Nat → Int32 → zM → Option (Option Nat × zM)) (r_rs_anyOrder : Nat → Int32 → zM → Option (Option Nat × zM)) (d : Nat) (hr_rs_pattern : ∀ a0 a1 M so, r_rs_pattern a0 a1 M = some so → Ev zq_T d 210 0 (zl_args 0 [.inr (.inr (6, some a0)), .inl a1]) [] M (some (.inr (.inr (3, so.1))), so.2)) (hr_rs_chain : ∀ a0 a1 a2 a3 M so, r_rs_chain a0 a1 a2 a3 M = some so → Ev zq_T d 211 0 (zl_args 0 [.inr (.inr (6, some a0)), .inl a1, .inl a2, .inl a3]) [] M (some (.inr (.inr (3, so.1))), so.2)) (hr_rs_link : ∀ a0 a1 a2 M so, r_rs_link a0 a1 a2 M = some so → Ev zq_T d 212 0 (zl_args 0 [.inr (.inr (6, some a0)), .inl a1, .inl a2]) [] M (some (.inr (.inr (3, so.1))), so.2)) (hr_rs_unit : ∀ a0 a1 M so, r_rs_unit a0 a1 M = some so → Ev zq_T d 213 0 (zl_args 0 [.inr (.inr (6, some a0)), .inl a1]) [] M (some (.inr (.inr (3, so.1))), so.2)) (hr_rs_atom : ∀ a0 a1 M so, r_rs_atom a0 a1 M = some so → Ev zq_T d 218 0 (zl_args 0 [.inr (.inr (6, some a0)), .inl a1]) [] M (some (.inr (.inr (3, so.1))), so.2)) (hr_rs_bracket : ∀ a0 a1 M so, r_rs_bracket a0 a1 M = some so → Ev zq_T d 220 0 (zl_args 0 [.inr (.inr (6, some a0)), .inl a1]) [] M (some (.inr (.inr (3, so.1))), so.2)) (hr_rs_anyOrder : ∀ a0 a1 M so, r_rs_anyOrder a0 a1 M = some so → Ev zq_T d 221 0 (zl_args 0 [.inr (.inr (6, some a0)), .inl a1]) [] M (some (.inr (.inr (3, so.1))), so.2)) (t0 : Nat) (v1 : Int32) (v2 : Int32) (M : zM) (so : Option Nat × zM) (ls : List (Nat × zV)) (g0 : zl_get ls 0 = some (.inr (.inr (6, (some t0))))) (g1 : zl_get ls 1 = some (.inl v1)) (g2 : zl_get ls 2 = some (.inl v2)) (hs : rs_atom_67 r_rs_pattern r_rs_chain r_rs_link r_rs_unit r_rs_atom r_rs_bracket r_rs_anyOrder d t0 v1 v2 M = some so) : Ev zq_T (d + 1) 218 67 ls [] M (some (.inr (.inr (3, so.1))), so.2) := by
  unfold rs_atom_67 at hs
  refine e_ildn cd_218_67 g2 ?_
  refine e_bip cd_218_68 cb_40 ?_
  refine k_if hs (fun c1 hs => ?_) (fun c1 hs => ?_)
  · refine e_icN cd_218_70 rfl (fun q => q c1) ?_
    refine e_aldn cd_218_73 g0 ?_
    refine e_ildn cd_218_74 g1 ?_
    obtain ⟨q2, h3, hs⟩ := k_bind hs
    refine e_cvi cd_218_75 kd_218_165 rfl rfl rfl rfl rfl nl_220 rfl rfl (hr_rs_bracket t0 v1 M _ h3) ?_
    refine e_goto cd_218_78 rfl ?_
    exact tie_rs_atom_86 r_rs_pattern r_rs_chain r_rs_link r_rs_unit r_rs_atom r_rs_bracket r_rs_anyOrder d hr_rs_pattern hr_rs_chain hr_rs_link hr_rs_unit hr_rs_atom hr_rs_bracket hr_rs_anyOrder q2.1 q2.2 so _  hs
  · refine e_icJ cd_218_70 rfl c1 ?_
    refine e_aldn cd_218_81 g0 ?_
    refine e_ildn cd_218_82 g1 ?_
    obtain ⟨q4, h5, hs⟩ := k_bind hs
    refine e_cvi cd_218_83 kd_218_168 rfl rfl rfl rfl rfl nl_221 rfl rfl (hr_rs_anyOrder t0 v1 M _ h5) ?_
    exact tie_rs_atom_86 r_rs_pattern r_rs_chain r_rs_link r_rs_unit r_rs_atom r_rs_bracket r_rs_anyOrder d hr_rs_pattern hr_rs_chain hr_rs_link hr_rs_unit hr_rs_atom hr_rs_bracket hr_rs_anyOrder q4.1 q4.2 so _  hs
theorem tieb_rs_atom (r_rs_pattern : Nat → Int32 → zM → Option (Option Nat × zM)) (r_rs_chain : Nat → Int32 → Int32 → Int32 → zM → Option (Option Nat × zM)) (r_rs_link : Nat → Int32 → Int32 → zM → Option (Option Nat × zM)) (r_rs_unit : Nat → Int32 → zM → Option (Option Nat × zM)) (r_rs_atom : Nat → Int32 → zM → Option (Option Nat × zM)) (r_rs_bracket : Nat → Int32 → zM → Option (Option Nat × zM)) (r_rs_anyOrder : Nat → Int32 → zM → Option (Option Nat × zM)) (d : Nat) (hr_rs_pattern : ∀ a0 a1 M so, r_rs_pattern a0 a1 M = some so → Ev zq_T d 210 0 (zl_args 0 [.inr (.inr (6, some a0)), .inl a1]) [] M (some (.inr (.inr (3, so.1))), so.2)) (hr_rs_chain : ∀ a0 a1 a2 a3 M so, r_rs_chain a0 a1 a2 a3 M = some so → Ev zq_T d 211 0 (zl_args 0 [.inr (.inr (6, some a0)), .inl a1, .inl a2, .inl a3]) [] M (some (.inr (.inr (3, so.1))), so.2)) (hr_rs_link : ∀ a0 a1 a2 M so, r_rs_link a0 a1 a2 M = some so → Ev zq_T d 212 0 (zl_args 0 [.inr (.inr (6, some a0)), .inl a1, .inl a2]) [] M (some (.inr (.inr (3, so.1))), so.2)) (hr_rs_unit : ∀ a0 a1 M so, r_rs_unit a0 a1 M = some so → Ev zq_T d 213 0 (zl_args 0 [.inr (.inr (6, some a0)), .inl a1]) [] M (some (.inr (.inr (3, so.1))), so.2)) (hr_rs_atom : ∀ a0 a1 M so, r_rs_atom a0 a1 M = some so → Ev zq_T d 218 0 (zl_args 0 [.inr (.inr (6, some a0)), .inl a1]) [] M (some (.inr (.inr (3, so.1))), so.2)) (hr_rs_bracket : ∀ a0 a1 M so, r_rs_bracket a0 a1 M = some so → Ev zq_T d 220 0 (zl_args 0 [.inr (.inr (6, some a0)), .inl a1]) [] M (some (.inr (.inr (3, so.1))), so.2)) (hr_rs_anyOrder : ∀ a0 a1 M so, r_rs_anyOrder a0 a1 M = some so → Ev zq_T d 221 0 (zl_args 0 [.inr (.inr (6, some a0)), .inl a1]) [] M (some (.inr (.inr (3, so.1))), so.2)) (a0 : Nat) (a1 : Int32) (M : zM) (so : Option Nat × zM) (hs : rs_atom_b r_rs_pattern r_rs_chain r_rs_link r_rs_unit r_rs_atom r_rs_bracket r_rs_anyOrder d a0 a1 M = some so) : Ev zq_T (d + 1) 218 0 (zl_args 0 [.inr (.inr (6, some a0)), .inl a1]) [] M (some (.inr (.inr (3, so.1))), so.2) := by
  unfold rs_atom_b at hs
  have g0 : zl_get (zl_args 0 [.inr (.inr (6, some a0)), .inl a1]) 0 = some (.inr (.inr (6, (some a0)))) := rfl
  have g1 : zl_get (zl_args 0 [.inr (.inr (6, some a0)), .inl a1]) 1 = some (.inl a1) := rfl
  refine e_aldn cd_218_0 g0 ?_
  obtain ⟨q1, h2, hs⟩ := k_bind hs
  refine e_cvi cd_218_1 kd_218_66 rfl rfl rfl rfl rfl nl_203 rfl rfl (tie_rs_sign d a0 M _ h2) ?_
  refine e_iKn cd_218_4 nl_218 rfl rfl ?_
  intro _ gn kp
  have u3 := kp 0 _ g0 rfl rfl
  have u4 := kp 1 _ g1 rfl rfl
  have u5 := gn
  refine e_ildn cd_218_5 u5 ?_
  obtain ⟨q6, h7, hs⟩ := k_bind hs
  refine e_cst cd_218_6 kd_218_79 rfl rfl rfl nl_207 rfl rfl (tie_rs_isLetter d q1.1 q1.2 _ h7) ?_
  refine k_if hs (fun c8 hs => ?_) (fun c8 hs => ?_)
  · refine e_izJ cd_218_9 rfl c8 ?_
    refine e_ildn cd_218_21 u5 ?_
    refine e_bip cd_218_22 cb_48 ?_
    refine k_if hs (fun c9 hs => ?_) (fun c9 hs => ?_)
    · refine e_icN cd_218_24 rfl (fun q => q c9) ?_
      refine e_aldn cd_218_27 u3 ?_
      refine e_pure cd_218_28 rfl ?_
      refine e_getI cd_218_29 (Or.inl fd_218_53) rfl ?_
      refine e_const cd_218_32 ci_1 ?_
      refine e_pure cd_218_33 rfl ?_
      refine k_let hs (fun M10 e11 hs => ?_)
      refine e_putI cd_218_34 pd_218_53 rfl e11 ?_
      refine e_aldn cd_218_37 u3 ?_
      refine e_const cd_218_38 ci_1 ?_
      refine e_const cd_218_39 ci_m1 ?_
      obtain ⟨q12, h13, hs⟩ := k_bind hs
      refine e_cvi cd_218_40 kd_218_109 rfl rfl rfl rfl rfl nl_206 rfl rfl (tie_rs_make d a0 1 (-1) M10 _ h13) ?_
      have e := Option.some.inj hs
      subst e
      exact e_rr cd_218_43 nr_218
    · refine e_icJ cd_218_24 rfl c9 ?_
      refine e_ildn cd_218_44 u4 ?_
      refine e_bip cd_218_45 cbb_8 ?_
      refine k_if hs (fun c14 hs => ?_) (fun c14 hs => ?_)
      · refine e_icJ cd_218_47 rfl c14 ?_
        exact tie_rs_atom_62 r_rs_pattern r_rs_chain r_rs_link r_rs_unit r_rs_atom r_rs_bracket r_rs_anyOrder d hr_rs_pattern hr_rs_chain hr_rs_link hr_rs_unit hr_rs_atom hr_rs_bracket hr_rs_anyOrder a0 q6.2 so _ u3 hs
      · refine e_icN cd_218_47 rfl c14 ?_
        refine e_ildn cd_218_50 u5 ?_
        refine e_bip cd_218_51 cb_40 ?_
        refine k_if hs (fun c15 hs => ?_) (fun c15 hs => ?_)
        · refine e_icJ cd_218_53 rfl c15 ?_
          exact tie_rs_atom_67 r_rs_pattern r_rs_chain r_rs_link r_rs_unit r_rs_atom r_rs_bracket r_rs_anyOrder d hr_rs_pattern hr_rs_chain hr_rs_link hr_rs_unit hr_rs_atom hr_rs_bracket hr_rs_anyOrder a0 a1 q1.1 q6.2 so _ u3 u4 u5 hs
        · refine e_icN cd_218_53 rfl c15 ?_
          refine e_ildn cd_218_56 u5 ?_
          refine e_bip cd_218_57 cb_91 ?_
          refine k_if hs (fun c16 hs => ?_) (fun c16 hs => ?_)
          · refine e_icJ cd_218_59 rfl c16 ?_
            exact tie_rs_atom_67 r_rs_pattern r_rs_chain r_rs_link r_rs_unit r_rs_atom r_rs_bracket r_rs_anyOrder d hr_rs_pattern hr_rs_chain hr_rs_link hr_rs_unit hr_rs_atom hr_rs_bracket hr_rs_anyOrder a0 a1 q1.1 q6.2 so _ u3 u4 u5 hs
          · refine e_icN cd_218_59 rfl c16 ?_
            exact tie_rs_atom_62 r_rs_pattern r_rs_chain r_rs_link r_rs_unit r_rs_atom r_rs_bracket r_rs_anyOrder d hr_rs_pattern hr_rs_chain hr_rs_link hr_rs_unit hr_rs_atom hr_rs_bracket hr_rs_anyOrder a0 q6.2 so _ u3 hs
  · refine e_izN cd_218_9 rfl c8 ?_
    refine e_aldn cd_218_12 u3 ?_
    refine e_ildn cd_218_13 u5 ?_
    refine e_bip cd_218_14 cb_97 ?_
    refine e_pure cd_218_16 rfl ?_
    obtain ⟨q17, h18, hs⟩ := k_bind hs
    refine e_cvi cd_218_17 kd_218_162 rfl rfl rfl rfl rfl nl_219 rfl rfl (tie_rs_leaf d a0 (q1.1 - 97) q6.2 _ h18) ?_
    have e := Option.some.inj hs
    subst e
    exact e_rr cd_218_20 nr_218
theorem tieb_rs_bracket (r_rs_pattern : Nat → Int32 → zM → Option (Option Nat × zM)) (r_rs_chain : Nat → Int32 → Int32 → Int32 → zM → Option (Option Nat × zM)) (r_rs_link : Nat → Int32 → Int32 → zM → Option (Option Nat × zM)) (r_rs_unit : Nat → Int32 → zM → Option (Option Nat × zM)) (r_rs_atom : Nat → Int32 → zM → Option (Option Nat × zM)) (r_rs_bracket : Nat → Int32 → zM → Option (Option Nat × zM)) (r_rs_anyOrder : Nat → Int32 → zM → Option (Option Nat × zM)) (d : Nat) (hr_rs_pattern : ∀ a0 a1 M so, r_rs_pattern a0 a1 M = some so → Ev zq_T d 210 0 (zl_args 0 [.inr (.inr (6, some a0)), .inl a1]) [] M (some (.inr (.inr (3, so.1))), so.2)) (hr_rs_chain : ∀ a0 a1 a2 a3 M so, r_rs_chain a0 a1 a2 a3 M = some so → Ev zq_T d 211 0 (zl_args 0 [.inr (.inr (6, some a0)), .inl a1, .inl a2, .inl a3]) [] M (some (.inr (.inr (3, so.1))), so.2)) (hr_rs_link : ∀ a0 a1 a2 M so, r_rs_link a0 a1 a2 M = some so → Ev zq_T d 212 0 (zl_args 0 [.inr (.inr (6, some a0)), .inl a1, .inl a2]) [] M (some (.inr (.inr (3, so.1))), so.2)) (hr_rs_unit : ∀ a0 a1 M so, r_rs_unit a0 a1 M = some so → Ev zq_T d 213 0 (zl_args 0 [.inr (.inr (6, some a0)), .inl a1]) [] M (some (.inr (.inr (3, so.1))), so.2)) (hr_rs_atom : ∀ a0 a1 M so, r_rs_atom a0 a1 M = some so → Ev zq_T d 218 0 (zl_args 0 [.inr (.inr (6, some a0)), .inl a1]) [] M (some (.inr (.inr (3, so.1))), so.2)) (hr_rs_bracket : ∀ a0 a1 M so, r_rs_bracket a0 a1 M = some so → Ev zq_T d 220 0 (zl_args 0 [.inr (.inr (6, some a0)), .inl a1]) [] M (some (.inr (.inr (3, so.1))), so.2)) (hr_rs_anyOrder : ∀ a0 a1 M so, r_rs_anyOrder a0 a1 M = some so → Ev zq_T d 221 0 (zl_args 0 [.inr (.inr (6, some a0)), .inl a1]) [] M (some (.inr (.inr (3, so.1))), so.2)) (a0 : Nat) (a1 : Int32) (M : zM) (so : Option Nat × zM) (hs : rs_bracket_b r_rs_pattern r_rs_chain r_rs_link r_rs_unit r_rs_atom r_rs_bracket r_rs_anyOrder d a0 a1 M = some so) : Ev zq_T (d + 1) 220 0 (zl_args 0 [.inr (.inr (6, some a0)), .inl a1]) [] M (some (.inr (.inr (3, so.1))), so.2) := by
  unfold rs_bracket_b at hs
  have g0 : zl_get (zl_args 0 [.inr (.inr (6, some a0)), .inl a1]) 0 = some (.inr (.inr (6, (some a0)))) := rfl
  have g1 : zl_get (zl_args 0 [.inr (.inr (6, some a0)), .inl a1]) 1 = some (.inl a1) := rfl
  refine e_aldn cd_220_0 g0 ?_
  refine e_pure cd_220_1 rfl ?_
  refine e_getI cd_220_2 (Or.inl fd_220_53) rfl ?_
  refine e_const cd_220_5 ci_1 ?_
  refine e_pure cd_220_6 rfl ?_
  refine k_let hs (fun M1 e2 hs => ?_)
  refine e_putI cd_220_7 pd_220_53 rfl e2 ?_
  refine e_aldn cd_220_10 g0 ?_
  refine e_ildn cd_220_11 g1 ?_
  refine e_const cd_220_12 ci_1 ?_
  refine e_pure cd_220_13 rfl ?_
  obtain ⟨q3, h4, hs⟩ := k_bind hs
  refine e_cvi cd_220_14 kd_220_93 rfl rfl rfl rfl rfl nl_210 rfl rfl (hr_rs_pattern a0 (a1 + 1) M1 _ h4) ?_
  refine e_aKn cd_220_17 nl_220 rfl rfl ?_
  intro _ gn kp
  have u5 := kp 0 _ g0 rfl rfl
  have u6 := gn
  refine e_aldn cd_220_18 u6 ?_
  refine k_opt hs (fun h7 hs => ?_) (fun k8 h7 hs => ?_)
  · refine e_nn0 cd_220_19 rfl h7 ?_
    refine e_pure cd_220_22 rfl ?_
    have e := Option.some.inj hs
    subst e
    exact e_rr cd_220_23 nr_220
  · refine e_nn1 cd_220_19 rfl h7 ?_
    refine e_aldn cd_220_24 u5 ?_
    obtain ⟨q9, h10, hs⟩ := k_bind hs
    refine e_cvi cd_220_25 kd_220_66 rfl rfl rfl rfl rfl nl_203 rfl rfl (tie_rs_sign d a0 q3.2 _ h10) ?_
    refine e_bip cd_220_28 cb_41 ?_
    refine k_if hs (fun c11 hs => ?_) (fun c11 hs => ?_)
    · refine e_icJ cd_220_30 rfl c11 ?_
      refine e_aldn cd_220_38 u5 ?_
      refine e_pure cd_220_39 rfl ?_
      refine e_getI cd_220_40 (Or.inl fd_220_53) rfl ?_
      refine e_const cd_220_43 ci_1 ?_
      refine e_pure cd_220_44 rfl ?_
      refine k_let hs (fun M12 e13 hs => ?_)
      refine e_putI cd_220_45 pd_220_53 rfl e13 ?_
      refine e_aldn cd_220_48 u6 ?_
      have e := Option.some.inj hs
      subst e
      exact e_rr cd_220_49 nr_220
    · refine e_icN cd_220_30 rfl c11 ?_
      refine e_aldn cd_220_33 u5 ?_
      obtain ⟨q14, h15, hs⟩ := k_bind hs
      refine e_cvi cd_220_34 kd_220_70 rfl rfl rfl rfl rfl nl_205 rfl rfl (tie_rs_noNode d a0 q9.2 _ h15) ?_
      have e := Option.some.inj hs
      subst e
      exact e_rr cd_220_37 nr_220
theorem tie_rs_anyOrder_145 (r_rs_pattern : Nat → Int32 → zM → Option (Option Nat × zM)) (r_rs_chain : Nat → Int32 → Int32 → Int32 → zM → Option (Option Nat × zM)) (r_rs_link : Nat → Int32 → Int32 → zM → Option (Option Nat × zM)) (r_rs_unit : Nat → Int32 → zM → Option (Option Nat × zM)) (r_rs_atom : Nat → Int32 → zM → Option (Option Nat × zM)) (r_rs_bracket : Nat → Int32 → zM → Option (Option Nat × zM)) (r_rs_anyOrder : Nat → Int32 → zM → Option (Option Nat × zM)) (d : Nat) (hr_rs_pattern : ∀ a0 a1 M so, r_rs_pattern a0 a1 M = some so → Ev zq_T d 210 0 (zl_args 0 [.inr (.inr (6, some a0)), .inl a1]) [] M (some (.inr (.inr (3, so.1))), so.2)) (hr_rs_chain : ∀ a0 a1 a2 a3 M so, r_rs_chain a0 a1 a2 a3 M = some so → Ev zq_T d 211 0 (zl_args 0 [.inr (.inr (6, some a0)), .inl a1, .inl a2, .inl a3]) [] M (some (.inr (.inr (3, so.1))), so.2)) (hr_rs_link : ∀ a0 a1 a2 M so, r_rs_link a0 a1 a2 M = some so → Ev zq_T d 212 0 (zl_args 0 [.inr (.inr (6, some a0)), .inl a1, .inl a2]) [] M (some (.inr (.inr (3, so.1))), so.2)) (hr_rs_unit : ∀ a0 a1 M so, r_rs_unit a0 a1 M = some so → Ev zq_T d 213 0 (zl_args 0 [.inr (.inr (6, some a0)), .inl a1]) [] M (some (.inr (.inr (3, so.1))), so.2)) (hr_rs_atom : ∀ a0 a1 M so, r_rs_atom a0 a1 M = some so → Ev zq_T d 218 0 (zl_args 0 [.inr (.inr (6, some a0)), .inl a1]) [] M (some (.inr (.inr (3, so.1))), so.2)) (hr_rs_bracket : ∀ a0 a1 M so, r_rs_bracket a0 a1 M = some so → Ev zq_T d 220 0 (zl_args 0 [.inr (.inr (6, some a0)), .inl a1]) [] M (some (.inr (.inr (3, so.1))), so.2)) (hr_rs_anyOrder : ∀ a0 a1 M so, r_rs_anyOrder a0 a1 M = some so → Ev zq_T d 221 0 (zl_args 0 [.inr (.inr (6, some a0)), .inl a1]) [] M (some (.inr (.inr (3, so.1))), so.2)) (t0 : Nat) (M : zM) (so : Option Nat × zM) (ls : List (Nat × zV)) (g0 : zl_get ls 0 = some (.inr (.inr (6, (some t0))))) (hs : rs_anyOrder_145 r_rs_pattern r_rs_chain r_rs_link r_rs_unit r_rs_atom r_rs_bracket r_rs_anyOrder d t0 M = some so) : Ev zq_T (d + 1) 221 145 ls [] M (some (.inr (.inr (3, so.1))), so.2) := by
  unfold rs_anyOrder_145 at hs
  refine e_aldn cd_221_145 g0 ?_
  obtain ⟨q1, h2, hs⟩ := k_bind hs
  refine e_cvi cd_221_146 kd_221_70 rfl rfl rfl rfl rfl nl_205 rfl rfl (tie_rs_noNode d t0 M _ h2) ?_
  have e := Option.some.inj hs
  subst e
  exact e_rr cd_221_149 nr_221
theorem tie_rs_anyOrder_133 (r_rs_pattern : Nat → Int32 → zM → Option (Option Nat × zM)) (r_rs_chain : Nat → Int32 → Int32 → Int32 → zM → Option (Option Nat × zM)) (r_rs_link : Nat → Int32 → Int32 → zM → Option (Option Nat × zM)) (r_rs_unit : Nat → Int32 → zM → Option (Option Nat × zM)) (r_rs_atom : Nat → Int32 → zM → Option (Option Nat × zM)) (r_rs_bracket : Nat → Int32 → zM → Option (Option Nat × zM)) (r_rs_anyOrder : Nat → Int32 → zM → Option (Option Nat × zM)) (kl66 : Nat → Int32 → Option Nat → Int32 → zM → Option (Option Nat × zM)) (d : Nat) (hr_rs_pattern : ∀ a0 a1 M so, r_rs_pattern a0 a1 M = some so → Ev zq_T d 210 0 (zl_args 0 [.inr (.inr (6, some a0)), .inl a1]) [] M (some (.inr (.inr (3, so.1))), so.2)) (hr_rs_chain : ∀ a0 a1 a2 a3 M so, r_rs_chain a0 a1 a2 a3 M = some so → Ev zq_T d 211 0 (zl_args 0 [.inr (.inr (6, some a0)), .inl a1, .inl a2, .inl a3]) [] M (some (.inr (.inr (3, so.1))), so.2)) (hr_rs_link : ∀ a0 a1 a2 M so, r_rs_link a0 a1 a2 M = some so → Ev zq_T d 212 0 (zl_args 0 [.inr (.inr (6, some a0)), .inl a1, .inl a2]) [] M (some (.inr (.inr (3, so.1))), so.2)) (hr_rs_unit : ∀ a0 a1 M so, r_rs_unit a0 a1 M = some so → Ev zq_T d 213 0 (zl_args 0 [.inr (.inr (6, some a0)), .inl a1]) [] M (some (.inr (.inr (3, so.1))), so.2)) (hr_rs_atom : ∀ a0 a1 M so, r_rs_atom a0 a1 M = some so → Ev zq_T d 218 0 (zl_args 0 [.inr (.inr (6, some a0)), .inl a1]) [] M (some (.inr (.inr (3, so.1))), so.2)) (hr_rs_bracket : ∀ a0 a1 M so, r_rs_bracket a0 a1 M = some so → Ev zq_T d 220 0 (zl_args 0 [.inr (.inr (6, some a0)), .inl a1]) [] M (some (.inr (.inr (3, so.1))), so.2)) (hr_rs_anyOrder : ∀ a0 a1 M so, r_rs_anyOrder a0 a1 M = some so → Ev zq_T d 221 0 (zl_args 0 [.inr (.inr (6, some a0)), .inl a1]) [] M (some (.inr (.inr (3, so.1))), so.2)) (hk66 : ∀ (t0 : Nat) (v1 : Int32) (v2 : Option Nat) (v3 : Int32) (M : zM) (so : Option Nat × zM) (ls : List (Nat × zV)), zl_get ls 0 = some (.inr (.inr (6, (some t0)))) → zl_get ls 1 = some (.inl v1) → zl_get ls 2 = some (.inr (.inr (3, v2))) → zl_get ls 3 = some (.inl v3) → kl66 t0 v1 v2 v3 M = some so → Ev zq_T (d + 1) 221 66 ls [] M (some (.inr (.inr (3, so.1))), so.2)) (t0 : Nat) (v1 : Int32) (v2 : Option Nat) (v3 : Int32) (v5 : Int32) (M : zM) (so : Option Nat × zM) (ls : List (Nat × zV)) (g0 : zl_get ls 0 = some (.inr (.inr (6, (some t0))))) (g1 : zl_get ls 1 = some (.inl v1)) (g2 : zl_get ls 2 = some (.inr (.inr (3, v2)))) (g3 : zl_get ls 3 = some (.inl v3)) (g5 : zl_get ls 5 = some (.inl v5)) (hs : rs_anyOrder_133 r_rs_pattern r_rs_chain r_rs_link r_rs_unit r_rs_atom r_rs_bracket r_rs_anyOrder kl66 d t0 v1 v2 v3 v5 M = some so) : Ev zq_T (d + 1) 221 133 ls [] M (some (.inr (.inr (3, so.1))), so.2) := by
  unfold rs_anyOrder_133 at hs
  refine e_ild cd_221_133 g5 ?_
  refine e_bip cd_221_135 cb_38 ?_
  refine k_if hs (fun c1 hs => ?_) (fun c1 hs => ?_)
  · refine e_icN cd_221_137 rfl (fun q => q c1) ?_
    refine e_ildn cd_221_140 g3 ?_
    refine e_const cd_221_141 ci_4 ?_
    refine k_if hs (fun c2 hs => ?_) (fun c2 hs => ?_)
    · refine e_icN cd_221_142 rfl (fun q => q c2) ?_
      exact tie_rs_anyOrder_145 r_rs_pattern r_rs_chain r_rs_link r_rs_unit r_rs_atom r_rs_bracket r_rs_anyOrder d hr_rs_pattern hr_rs_chain hr_rs_link hr_rs_unit hr_rs_atom hr_rs_bracket hr_rs_anyOrder t0 M so _ g0 hs
    · refine e_icJ cd_221_142 rfl c2 ?_
      refine k_let hs (fun x3 e4 hs => ?_)
      refine e_incK cd_221_150 nl_221 rfl g3 ci_1 e4 ?_
      intro _ gn kp
      have u5 := kp 0 _ g0 rfl rfl
      have u6 := kp 1 _ g1 rfl rfl
      have u7 := kp 2 _ g2 rfl rfl
      have u8 := gn
      refine e_goto cd_221_153 rfl ?_
      exact hk66 t0 v1 v2 x3 M so _ u5 u6 u7 u8 hs
  · refine e_icJ cd_221_137 rfl c1 ?_
    exact tie_rs_anyOrder_145 r_rs_pattern r_rs_chain r_rs_link r_rs_unit r_rs_atom r_rs_bracket r_rs_anyOrder d hr_rs_pattern hr_rs_chain hr_rs_link hr_rs_unit hr_rs_atom hr_rs_bracket hr_rs_anyOrder t0 M so _ g0 hs
theorem tie_rs_anyOrder_66 (r_rs_pattern : Nat → Int32 → zM → Option (Option Nat × zM)) (r_rs_chain : Nat → Int32 → Int32 → Int32 → zM → Option (Option Nat × zM)) (r_rs_link : Nat → Int32 → Int32 → zM → Option (Option Nat × zM)) (r_rs_unit : Nat → Int32 → zM → Option (Option Nat × zM)) (r_rs_atom : Nat → Int32 → zM → Option (Option Nat × zM)) (r_rs_bracket : Nat → Int32 → zM → Option (Option Nat × zM)) (r_rs_anyOrder : Nat → Int32 → zM → Option (Option Nat × zM)) (d : Nat) (hr_rs_pattern : ∀ a0 a1 M so, r_rs_pattern a0 a1 M = some so → Ev zq_T d 210 0 (zl_args 0 [.inr (.inr (6, some a0)), .inl a1]) [] M (some (.inr (.inr (3, so.1))), so.2)) (hr_rs_chain : ∀ a0 a1 a2 a3 M so, r_rs_chain a0 a1 a2 a3 M = some so → Ev zq_T d 211 0 (zl_args 0 [.inr (.inr (6, some a0)), .inl a1, .inl a2, .inl a3]) [] M (some (.inr (.inr (3, so.1))), so.2)) (hr_rs_link : ∀ a0 a1 a2 M so, r_rs_link a0 a1 a2 M = some so → Ev zq_T d 212 0 (zl_args 0 [.inr (.inr (6, some a0)), .inl a1, .inl a2]) [] M (some (.inr (.inr (3, so.1))), so.2)) (hr_rs_unit : ∀ a0 a1 M so, r_rs_unit a0 a1 M = some so → Ev zq_T d 213 0 (zl_args 0 [.inr (.inr (6, some a0)), .inl a1]) [] M (some (.inr (.inr (3, so.1))), so.2)) (hr_rs_atom : ∀ a0 a1 M so, r_rs_atom a0 a1 M = some so → Ev zq_T d 218 0 (zl_args 0 [.inr (.inr (6, some a0)), .inl a1]) [] M (some (.inr (.inr (3, so.1))), so.2)) (hr_rs_bracket : ∀ a0 a1 M so, r_rs_bracket a0 a1 M = some so → Ev zq_T d 220 0 (zl_args 0 [.inr (.inr (6, some a0)), .inl a1]) [] M (some (.inr (.inr (3, so.1))), so.2)) (hr_rs_anyOrder : ∀ a0 a1 M so, r_rs_anyOrder a0 a1 M = some so → Ev zq_T d 221 0 (zl_args 0 [.inr (.inr (6, some a0)), .inl a1]) [] M (some (.inr (.inr (3, so.1))), so.2)) : ∀ (fuel : Nat) (t0 : Nat) (v1 : Int32) (v2 : Option Nat) (v3 : Int32) (M : zM) (so : Option Nat × zM) (ls : List (Nat × zV)), zl_get ls 0 = some (.inr (.inr (6, (some t0)))) → zl_get ls 1 = some (.inl v1) → zl_get ls 2 = some (.inr (.inr (3, v2))) → zl_get ls 3 = some (.inl v3) → rs_anyOrder_66 r_rs_pattern r_rs_chain r_rs_link r_rs_unit r_rs_atom r_rs_bracket r_rs_anyOrder d fuel t0 v1 v2 v3 M = some so → Ev zq_T (d + 1) 221 66 ls [] M (some (.inr (.inr (3, so.1))), so.2) := by
  intro fuel
  induction fuel with
  | zero => intro t0 v1 v2 v3 M so ls g0 g1 g2 g3 hs; exact nomatch hs
  | succ fuel ih =>
    intro t0 v1 v2 v3 M so ls g0 g1 g2 g3 hs
    unfold rs_anyOrder_66 at hs
    refine e_ildn cd_221_66 g3 ?_
    refine e_const cd_221_67 ci_4 ?_
    refine k_if hs (fun c1 hs => ?_) (fun c1 hs => ?_)
    · refine e_icJ cd_221_68 rfl c1 ?_
      refine e_aldn cd_221_156 g0 ?_
      obtain ⟨q2, h3, hs⟩ := k_bind hs
      refine e_cvi cd_221_157 kd_221_70 rfl rfl rfl rfl rfl nl_205 rfl rfl (tie_rs_noNode d t0 M _ h3) ?_
      have e := Option.some.inj hs
      subst e
      exact e_rr cd_221_160 nr_221
    · refine e_icN cd_221_68 rfl c1 ?_
      refine e_aldn cd_221_71 g0 ?_
      refine e_pure cd_221_72 rfl ?_
      refine e_getI cd_221_73 (Or.inl fd_221_53) rfl ?_
      refine e_const cd_221_76 ci_1 ?_
      refine e_pure cd_221_77 rfl ?_
      refine k_let hs (fun M4 e5 hs => ?_)
      refine e_putI cd_221_78 pd_221_53 rfl e5 ?_
      refine e_aldn cd_221_81 g0 ?_
      refine e_ildn cd_221_82 g1 ?_
      refine e_const cd_221_83 ci_1 ?_
      refine e_pure cd_221_84 rfl ?_
      obtain ⟨q6, h7, hs⟩ := k_bind hs
      refine e_cvi cd_221_85 kd_221_93 rfl rfl rfl rfl rfl nl_210 rfl rfl (hr_rs_pattern t0 (v1 + 1) M4 _ h7) ?_
      refine e_aK cd_221_88 nl_221 rfl rfl ?_
      intro _ gn kp
      have u8 := kp 0 _ g0 rfl rfl
      have u9 := kp 1 _ g1 rfl rfl
      have u10 := kp 2 _ g2 rfl rfl
      have u11 := kp 3 _ g3 rfl rfl
      have u12 := gn
      refine e_ald cd_221_90 u12 ?_
      refine k_opt hs (fun h13 hs => ?_) (fun k14 h13 hs => ?_)
      · refine e_nn0 cd_221_92 rfl h13 ?_
        refine e_pure cd_221_95 rfl ?_
        have e := Option.some.inj hs
        subst e
        exact e_rr cd_221_96 nr_221
      · refine e_nn1 cd_221_92 rfl h13 ?_
        refine e_aldn cd_221_97 u10 ?_
        refine e_ald cd_221_98 u12 ?_
        refine k_opt hs (fun _ q => nomatch q) (fun k15 h16 hs => ?_)
        obtain ⟨q17, h18, hs⟩ := k_bind hs
        refine e_cvi cd_221_100 kd_221_112 rfl rfl rfl h16 rfl nl_179 rfl rfl (tie_nd_append d k15 q6.1 q6.2 _ h18) ?_
        refine e_aldn cd_221_103 u8 ?_
        obtain ⟨q19, h20, hs⟩ := k_bind hs
        refine e_cvi cd_221_104 kd_221_66 rfl rfl rfl rfl rfl nl_203 rfl rfl (tie_rs_sign d t0 q17 _ h20) ?_
        refine e_iK cd_221_107 nl_221 rfl rfl ?_
        intro _ gn kp
        have u21 := kp 0 _ u8 rfl rfl
        have u22 := kp 1 _ u9 rfl rfl
        have u23 := kp 2 _ u10 rfl rfl
        have u24 := kp 3 _ u11 rfl rfl
        have u25 := gn
        refine e_ild cd_221_109 u25 ?_
        refine e_bip cd_221_111 cb_93 ?_
        refine k_if hs (fun c26 hs => ?_) (fun c26 hs => ?_)
        · refine e_icN cd_221_113 rfl (fun q => q c26) ?_
          refine e_ildn cd_221_116 u24 ?_
          refine e_const cd_221_117 ci_2 ?_
          refine k_if hs (fun c27 hs => ?_) (fun c27 hs => ?_)
          · refine e_icJ cd_221_118 rfl c27 ?_
            exact tie_rs_anyOrder_133 r_rs_pattern r_rs_chain r_rs_link r_rs_unit r_rs_atom r_rs_bracket r_rs_anyOrder (fun p0 p1 p2 p3 m => rs_anyOrder_66 r_rs_pattern r_rs_chain r_rs_link r_rs_unit r_rs_atom r_rs_bracket r_rs_anyOrder d fuel p0 p1 p2 p3 m) d hr_rs_pattern hr_rs_chain hr_rs_link hr_rs_unit hr_rs_atom hr_rs_bracket hr_rs_anyOrder ih t0 v1 v2 v3 q19.1 q19.2 so _ u21 u22 u23 u24 u25 hs
          · refine e_icN cd_221_118 rfl c27 ?_
            refine e_aldn cd_221_121 u21 ?_
            refine e_pure cd_221_122 rfl ?_
            refine e_getI cd_221_123 (Or.inl fd_221_53) rfl ?_
            refine e_const cd_221_126 ci_1 ?_
            refine e_pure cd_221_127 rfl ?_
            refine k_let hs (fun M28 e29 hs => ?_)
            refine e_putI cd_221_128 pd_221_53 rfl e29 ?_
            refine e_aldn cd_221_131 u23 ?_
            have e := Option.some.inj hs
            subst e
            exact e_rr cd_221_132 nr_221
        · refine e_icJ cd_221_113 rfl c26 ?_
          exact tie_rs_anyOrder_133 r_rs_pattern r_rs_chain r_rs_link r_rs_unit r_rs_atom r_rs_bracket r_rs_anyOrder (fun p0 p1 p2 p3 m => rs_anyOrder_66 r_rs_pattern r_rs_chain r_rs_link r_rs_unit r_rs_atom r_rs_bracket r_rs_anyOrder d fuel p0 p1 p2 p3 m) d hr_rs_pattern hr_rs_chain hr_rs_link hr_rs_unit hr_rs_atom hr_rs_bracket hr_rs_anyOrder ih t0 v1 v2 v3 q19.1 q19.2 so _ u21 u22 u23 u24 u25 hs
theorem tieb_rs_anyOrder (r_rs_pattern : Nat → Int32 → zM → Option (Option Nat × zM)) (r_rs_chain : Nat → Int32 → Int32 → Int32 → zM → Option (Option Nat × zM)) (r_rs_link : Nat → Int32 → Int32 → zM → Option (Option Nat × zM)) (r_rs_unit : Nat → Int32 → zM → Option (Option Nat × zM)) (r_rs_atom : Nat → Int32 → zM → Option (Option Nat × zM)) (r_rs_bracket : Nat → Int32 → zM → Option (Option Nat × zM)) (r_rs_anyOrder : Nat → Int32 → zM → Option (Option Nat × zM)) (d : Nat) (hr_rs_pattern : ∀ a0 a1 M so, r_rs_pattern a0 a1 M = some so → Ev zq_T d 210 0 (zl_args 0 [.inr (.inr (6, some a0)), .inl a1]) [] M (some (.inr (.inr (3, so.1))), so.2)) (hr_rs_chain : ∀ a0 a1 a2 a3 M so, r_rs_chain a0 a1 a2 a3 M = some so → Ev zq_T d 211 0 (zl_args 0 [.inr (.inr (6, some a0)), .inl a1, .inl a2, .inl a3]) [] M (some (.inr (.inr (3, so.1))), so.2)) (hr_rs_link : ∀ a0 a1 a2 M so, r_rs_link a0 a1 a2 M = some so → Ev zq_T d 212 0 (zl_args 0 [.inr (.inr (6, some a0)), .inl a1, .inl a2]) [] M (some (.inr (.inr (3, so.1))), so.2)) (hr_rs_unit : ∀ a0 a1 M so, r_rs_unit a0 a1 M = some so → Ev zq_T d 213 0 (zl_args 0 [.inr (.inr (6, some a0)), .inl a1]) [] M (some (.inr (.inr (3, so.1))), so.2)) (hr_rs_atom : ∀ a0 a1 M so, r_rs_atom a0 a1 M = some so → Ev zq_T d 218 0 (zl_args 0 [.inr (.inr (6, some a0)), .inl a1]) [] M (some (.inr (.inr (3, so.1))), so.2)) (hr_rs_bracket : ∀ a0 a1 M so, r_rs_bracket a0 a1 M = some so → Ev zq_T d 220 0 (zl_args 0 [.inr (.inr (6, some a0)), .inl a1]) [] M (some (.inr (.inr (3, so.1))), so.2)) (hr_rs_anyOrder : ∀ a0 a1 M so, r_rs_anyOrder a0 a1 M = some so → Ev zq_T d 221 0 (zl_args 0 [.inr (.inr (6, some a0)), .inl a1]) [] M (some (.inr (.inr (3, so.1))), so.2)) (a0 : Nat) (a1 : Int32) (M : zM) (so : Option Nat × zM) (hs : rs_anyOrder_b r_rs_pattern r_rs_chain r_rs_link r_rs_unit r_rs_atom r_rs_bracket r_rs_anyOrder d a0 a1 M = some so) : Ev zq_T (d + 1) 221 0 (zl_args 0 [.inr (.inr (6, some a0)), .inl a1]) [] M (some (.inr (.inr (3, so.1))), so.2) := by
  unfold rs_anyOrder_b at hs
  have g0 : zl_get (zl_args 0 [.inr (.inr (6, some a0)), .inl a1]) 0 = some (.inr (.inr (6, (some a0)))) := rfl
  have g1 : zl_get (zl_args 0 [.inr (.inr (6, some a0)), .inl a1]) 1 = some (.inl a1) := rfl
  refine e_aldn cd_221_0 g0 ?_
  refine e_getR cd_221_1 fd_221_32 rfl ?_
  refine k_opt hs (fun _ q => nomatch q) (fun k1 h2 hs => ?_)
  refine e_getI cd_221_4 (Or.inl fd_221_180) h2 ?_
  refine e_const cd_221_7 ci_4 ?_
  refine k_if hs (fun c3 hs => ?_) (fun c3 hs => ?_)
  · refine e_icJ cd_221_8 rfl c3 ?_
    refine e_aldn cd_221_16 g0 ?_
    refine e_const cd_221_17 ci_5 ?_
    refine e_aldn cd_221_18 g0 ?_
    refine e_getR cd_221_19 fd_221_32 rfl ?_
    refine k_opt hs (fun _ q => nomatch q) (fun k4 h5 hs => ?_)
    refine e_getI cd_221_22 (Or.inl fd_221_180) h5 ?_
    obtain ⟨q6, h7, hs⟩ := k_bind hs
    refine e_cvi cd_221_25 kd_221_109 rfl rfl rfl rfl rfl nl_206 rfl rfl (tie_rs_make d a0 5 (zm_I M 5 k4 4) M _ h7) ?_
    refine e_aKn cd_221_28 nl_221 rfl rfl ?_
    intro _ gn kp
    have u8 := kp 0 _ g0 rfl rfl
    have u9 := kp 1 _ g1 rfl rfl
    have u10 := gn
    refine e_aldn cd_221_29 u10 ?_
    refine k_opt hs (fun h11 hs => ?_) (fun k12 h11 hs => ?_)
    · refine e_nn0 cd_221_30 rfl h11 ?_
      refine e_pure cd_221_33 rfl ?_
      have e := Option.some.inj hs
      subst e
      exact e_rr cd_221_34 nr_221
    · refine e_nn1 cd_221_30 rfl h11 ?_
      refine e_aldn cd_221_35 u8 ?_
      refine e_getR cd_221_36 fd_221_32 rfl ?_
      refine k_opt hs (fun _ q => nomatch q) (fun k13 h14 hs => ?_)
      refine e_getR cd_221_39 fd_221_183 h14 ?_
      refine e_aldn cd_221_42 u8 ?_
      refine e_getR cd_221_43 fd_221_32 rfl ?_
      refine k_opt hs (fun _ q => nomatch q) (fun k15 h16 hs => ?_)
      refine e_getI cd_221_46 (Or.inl fd_221_180) h16 ?_
      refine e_aldn cd_221_49 u10 ?_
      refine k_opt hs (fun _ q => nomatch q) (fun k17 h18 hs => ?_)
      obtain ⟨c19, hs⟩ := z_ite hs
      refine k_let hs (fun M20 e21 hs => ?_)
      refine e_aast cd_221_50 rfl h18 c19 e21 ?_
      refine e_aldn cd_221_51 u8 ?_
      refine e_getR cd_221_52 fd_221_32 rfl ?_
      refine e_pure cd_221_55 rfl ?_
      refine k_opt hs (fun _ q => nomatch q) (fun k22 h23 hs => ?_)
      refine e_getI cd_221_56 (Or.inl fd_221_180) h23 ?_
      refine e_const cd_221_59 ci_1 ?_
      refine e_pure cd_221_60 rfl ?_
      refine k_let hs (fun M24 e25 hs => ?_)
      refine e_putI cd_221_61 pd_221_180 h23 e25 ?_
      refine e_const cd_221_64 ci_1 ?_
      refine e_iKn cd_221_65 nl_221 rfl rfl ?_
      intro _ gn kp
      have u26 := kp 0 _ u8 rfl rfl
      have u27 := kp 1 _ u9 rfl rfl
      have u28 := kp 2 _ u10 rfl rfl
      have u29 := gn
      exact tie_rs_anyOrder_66 r_rs_pattern r_rs_chain r_rs_link r_rs_unit r_rs_atom r_rs_bracket r_rs_anyOrder d hr_rs_pattern hr_rs_chain hr_rs_link hr_rs_unit hr_rs_atom hr_rs_bracket hr_rs_anyOrder zLF a0 a1 q6.1 1 M24 so _ u26 u27 u28 u29 hs
  · refine e_icN cd_221_8 rfl c3 ?_
    refine e_aldn cd_221_11 g0 ?_
    obtain ⟨q30, h31, hs⟩ := k_bind hs
    refine e_cvi cd_221_12 kd_221_70 rfl rfl rfl rfl rfl nl_205 rfl rfl (tie_rs_noNode d a0 M _ h31) ?_
    have e := Option.some.inj hs
    subst e
    exact e_rr cd_221_15 nr_221
theorem tieg_grs_pattern (d : Nat) : (∀ (a0 : Nat) (a1 : Int32) (M : zM) (so : Option Nat × zM), (grs_pattern d).1 a0 a1 M = some so → Ev zq_T d 210 0 (zl_args 0 [.inr (.inr (6, some a0)), .inl a1]) [] M (some (.inr (.inr (3, so.1))), so.2)) ∧ (∀ (a0 : Nat) (a1 : Int32) (a2 : Int32) (a3 : Int32) (M : zM) (so : Option Nat × zM), (grs_pattern d).2.1 a0 a1 a2 a3 M = some so → Ev zq_T d 211 0 (zl_args 0 [.inr (.inr (6, some a0)), .inl a1, .inl a2, .inl a3]) [] M (some (.inr (.inr (3, so.1))), so.2)) ∧ (∀ (a0 : Nat) (a1 : Int32) (a2 : Int32) (M : zM) (so : Option Nat × zM), (grs_pattern d).2.2.1 a0 a1 a2 M = some so → Ev zq_T d 212 0 (zl_args 0 [.inr (.inr (6, some a0)), .inl a1, .inl a2]) [] M (some (.inr (.inr (3, so.1))), so.2)) ∧ (∀ (a0 : Nat) (a1 : Int32) (M : zM) (so : Option Nat × zM), (grs_pattern d).2.2.2.1 a0 a1 M = some so → Ev zq_T d 213 0 (zl_args 0 [.inr (.inr (6, some a0)), .inl a1]) [] M (some (.inr (.inr (3, so.1))), so.2)) ∧ (∀ (a0 : Nat) (a1 : Int32) (M : zM) (so : Option Nat × zM), (grs_pattern d).2.2.2.2.1 a0 a1 M = some so → Ev zq_T d 218 0 (zl_args 0 [.inr (.inr (6, some a0)), .inl a1]) [] M (some (.inr (.inr (3, so.1))), so.2)) ∧ (∀ (a0 : Nat) (a1 : Int32) (M : zM) (so : Option Nat × zM), (grs_pattern d).2.2.2.2.2.1 a0 a1 M = some so → Ev zq_T d 220 0 (zl_args 0 [.inr (.inr (6, some a0)), .inl a1]) [] M (some (.inr (.inr (3, so.1))), so.2)) ∧ (∀ (a0 : Nat) (a1 : Int32) (M : zM) (so : Option Nat × zM), (grs_pattern d).2.2.2.2.2.2 a0 a1 M = some so → Ev zq_T d 221 0 (zl_args 0 [.inr (.inr (6, some a0)), .inl a1]) [] M (some (.inr (.inr (3, so.1))), so.2)) := by
  induction d with
  | zero => exact ⟨(fun a0 a1 M so hs => nomatch hs), (fun a0 a1 a2 a3 M so hs => nomatch hs), (fun a0 a1 a2 M so hs => nomatch hs), (fun a0 a1 M so hs => nomatch hs), (fun a0 a1 M so hs => nomatch hs), (fun a0 a1 M so hs => nomatch hs), (fun a0 a1 M so hs => nomatch hs)⟩
  | succ d ih => exact ⟨fun a0 a1 M so hs => tieb_rs_pattern (grs_pattern d).1 (grs_pattern d).2.1 (grs_pattern d).2.2.1 (grs_pattern d).2.2.2.1 (grs_pattern d).2.2.2.2.1 (grs_pattern d).2.2.2.2.2.1 (grs_pattern d).2.2.2.2.2.2 d ih.1 ih.2.1 ih.2.2.1 ih.2.2.2.1 ih.2.2.2.2.1 ih.2.2.2.2.2.1 ih.2.2.2.2.2.2 a0 a1 M so hs, fun a0 a1 a2 a3 M so hs => tieb_rs_chain (grs_pattern d).1 (grs_pattern d).2.1 (grs_pattern d).2.2.1 (grs_pattern d).2.2.2.1 (grs_pattern d).2.2.2.2.1 (grs_pattern d).2.2.2.2.2.1 (grs_pattern d).2.2.2.2.2.2 d ih.1 ih.2.1 ih.2.2.1 ih.2.2.2.1 ih.2.2.2.2.1 ih.2.2.2.2.2.1 ih.2.2.2.2.2.2 a0 a1 a2 a3 M so hs, fun a0 a1 a2 M so hs => tieb_rs_link (grs_pattern d).1 (grs_pattern d).2.1 (grs_pattern d).2.2.1 (grs_pattern d).2.2.2.1 (grs_pattern d).2.2.2.2.1 (grs_pattern d).2.2.2.2.2.1 (grs_pattern d).2.2.2.2.2.2 d ih.1 ih.2.1 ih.2.2.1 ih.2.2.2.1 ih.2.2.2.2.1 ih.2.2.2.2.2.1 ih.2.2.2.2.2.2 a0 a1 a2 M so hs, fun a0 a1 M so hs => tieb_rs_unit (grs_pattern d).1 (grs_pattern d).2.1 (grs_pattern d).2.2.1 (grs_pattern d).2.2.2.1 (grs_pattern d).2.2.2.2.1 (grs_pattern d).2.2.2.2.2.1 (grs_pattern d).2.2.2.2.2.2 d ih.1 ih.2.1 ih.2.2.1 ih.2.2.2.1 ih.2.2.2.2.1 ih.2.2.2.2.2.1 ih.2.2.2.2.2.2 a0 a1 M so hs, fun a0 a1 M so hs => tieb_rs_atom (grs_pattern d).1 (grs_pattern d).2.1 (grs_pattern d).2.2.1 (grs_pattern d).2.2.2.1 (grs_pattern d).2.2.2.2.1 (grs_pattern d).2.2.2.2.2.1 (grs_pattern d).2.2.2.2.2.2 d ih.1 ih.2.1 ih.2.2.1 ih.2.2.2.1 ih.2.2.2.2.1 ih.2.2.2.2.2.1 ih.2.2.2.2.2.2 a0 a1 M so hs, fun a0 a1 M so hs => tieb_rs_bracket (grs_pattern d).1 (grs_pattern d).2.1 (grs_pattern d).2.2.1 (grs_pattern d).2.2.2.1 (grs_pattern d).2.2.2.2.1 (grs_pattern d).2.2.2.2.2.1 (grs_pattern d).2.2.2.2.2.2 d ih.1 ih.2.1 ih.2.2.1 ih.2.2.2.1 ih.2.2.2.2.1 ih.2.2.2.2.2.1 ih.2.2.2.2.2.2 a0 a1 M so hs, fun a0 a1 M so hs => tieb_rs_anyOrder (grs_pattern d).1 (grs_pattern d).2.1 (grs_pattern d).2.2.1 (grs_pattern d).2.2.2.1 (grs_pattern d).2.2.2.2.1 (grs_pattern d).2.2.2.2.2.1 (grs_pattern d).2.2.2.2.2.2 d ih.1 ih.2.1 ih.2.2.1 ih.2.2.2.1 ih.2.2.2.2.1 ih.2.2.2.2.2.1 ih.2.2.2.2.2.2 a0 a1 M so hs⟩
theorem tie_rs_pattern (d : Nat) (a0 : Nat) (a1 : Int32) (M : zM) (so : Option Nat × zM) (hs : rs_pattern d a0 a1 M = some so) : Ev zq_T d 210 0 (zl_args 0 [.inr (.inr (6, some a0)), .inl a1]) [] M (some (.inr (.inr (3, so.1))), so.2) := (tieg_grs_pattern d).1 a0 a1 M so hs
theorem tie_rs_chain (d : Nat) (a0 : Nat) (a1 : Int32) (a2 : Int32) (a3 : Int32) (M : zM) (so : Option Nat × zM) (hs : rs_chain d a0 a1 a2 a3 M = some so) : Ev zq_T d 211 0 (zl_args 0 [.inr (.inr (6, some a0)), .inl a1, .inl a2, .inl a3]) [] M (some (.inr (.inr (3, so.1))), so.2) := (tieg_grs_pattern d).2.1 a0 a1 a2 a3 M so hs
theorem tie_rs_link (d : Nat) (a0 : Nat) (a1 : Int32) (a2 : Int32) (M : zM) (so : Option Nat × zM) (hs : rs_link d a0 a1 a2 M = some so) : Ev zq_T d 212 0 (zl_args 0 [.inr (.inr (6, some a0)), .inl a1, .inl a2]) [] M (some (.inr (.inr (3, so.1))), so.2) := (tieg_grs_pattern d).2.2.1 a0 a1 a2 M so hs
theorem tie_rs_unit (d : Nat) (a0 : Nat) (a1 : Int32) (M : zM) (so : Option Nat × zM) (hs : rs_unit d a0 a1 M = some so) : Ev zq_T d 213 0 (zl_args 0 [.inr (.inr (6, some a0)), .inl a1]) [] M (some (.inr (.inr (3, so.1))), so.2) := (tieg_grs_pattern d).2.2.2.1 a0 a1 M so hs
theorem tie_rs_atom (d : Nat) (a0 : Nat) (a1 : Int32) (M : zM) (so : Option Nat × zM) (hs : rs_atom d a0 a1 M = some so) : Ev zq_T d 218 0 (zl_args 0 [.inr (.inr (6, some a0)), .inl a1]) [] M (some (.inr (.inr (3, so.1))), so.2) := (tieg_grs_pattern d).2.2.2.2.1 a0 a1 M so hs
theorem tie_rs_bracket (d : Nat) (a0 : Nat) (a1 : Int32) (M : zM) (so : Option Nat × zM) (hs : rs_bracket d a0 a1 M = some so) : Ev zq_T d 220 0 (zl_args 0 [.inr (.inr (6, some a0)), .inl a1]) [] M (some (.inr (.inr (3, so.1))), so.2) := (tieg_grs_pattern d).2.2.2.2.2.1 a0 a1 M so hs
theorem tie_rs_anyOrder (d : Nat) (a0 : Nat) (a1 : Int32) (M : zM) (so : Option Nat × zM) (hs : rs_anyOrder d a0 a1 M = some so) : Ev zq_T d 221 0 (zl_args 0 [.inr (.inr (6, some a0)), .inl a1]) [] M (some (.inr (.inr (3, so.1))), so.2) := (tieg_grs_pattern d).2.2.2.2.2.2 a0 a1 M so hs
theorem tie_rs_parseRule_24  (d : Nat)  (t0 : Nat) (M : zM) (so : Int32 × zM) (ls : List (Nat × zV)) (g0 : zl_get ls 0 = some (.inr (.inr (6, (some t0))))) (hs : rs_parseRule_24  d t0 M = some so) : Ev zq_T (d + 1) 209 24 ls [] M (some (.inl so.1), so.2) := by
  unfold rs_parseRule_24 at hs
  refine e_aldn cd_209_24 g0 ?_
  obtain ⟨q1, h2, hs⟩ := k_bind hs
  refine e_cvi cd_209_25 kd_209_87 rfl rfl rfl rfl rfl nl_204 rfl rfl (tie_rs_fails d t0 M _ h2) ?_
  obtain ⟨c3, hs⟩ := z_ite hs
  have e := Option.some.inj hs
  subst e
  exact e_rz cd_209_28 nr_209 c3
theorem tie_rs_parseRule_101  (d : Nat)  (s0 : Int32) (M : zM) (so : Int32 × zM) (ls : List (Nat × zV))  (hs : rs_parseRule_101  d s0 M = some so) : Ev zq_T (d + 1) 209 101 ls [.inl s0] M (some (.inl so.1), so.2) := by
  unfold rs_parseRule_101 at hs
  obtain ⟨c1, hs⟩ := z_ite hs
  have e := Option.some.inj hs
  subst e
  exact e_rz cd_209_101 nr_209 c1
