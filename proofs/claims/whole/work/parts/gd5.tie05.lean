theorem tie_di_advance_38  (d : Nat)  (t0 : Nat) (v2 : Option Nat) (v3 : Int32) (v4 : Int32) (v5 : Option Nat) (M : zM) (so : zM) (ls : List (Nat × zV)) (g0 : zl_get ls 0 = some (.inr (.inr (0, (some t0))))) (g2 : zl_get ls 2 = some (.inr (.inr (5, v2)))) (g3 : zl_get ls 3 = some (.inl v3)) (g4 : zl_get ls 4 = some (.inl v4)) (g5 : zl_get ls 5 = some (.inr (.inr (8, v5)))) (hs : di_advance_38  d t0 v2 v3 v4 v5 M = some so) : Ev zq_T (d + 1) 138 38 ls [] M (none, so) := by
  unfold di_advance_38 at hs
  refine e_const cd_138_38 ci_0 ?_
  exact tie_di_advance_39  d  t0 v2 v3 v4 v5 0 M so _ g0 g2 g3 g4 g5 hs
theorem tieb_di_advance  (d : Nat)  (a0 : Nat) (a1 : Option Nat) (a2 : Option Nat) (a3 : Int32) (a4 : Int32) (a5 : Option Nat) (M : zM) (so : zM) (hs : di_advance_b  d a0 a1 a2 a3 a4 a5 M = some so) : Ev zq_T (d + 1) 138 0 (zl_args 0 [.inr (.inr (0, some a0)), .inr (.inr (5, a1)), .inr (.inr (5, a2)), .inl a3, .inl a4, .inr (.inr (8, a5))]) [] M (none, so) := by
  unfold di_advance_b at hs
  have g0 : zl_get (zl_args 0 [.inr (.inr (0, some a0)), .inr (.inr (5, a1)), .inr (.inr (5, a2)), .inl a3, .inl a4, .inr (.inr (8, a5))]) 0 = some (.inr (.inr (0, (some a0)))) := rfl
  have g1 : zl_get (zl_args 0 [.inr (.inr (0, some a0)), .inr (.inr (5, a1)), .inr (.inr (5, a2)), .inl a3, .inl a4, .inr (.inr (8, a5))]) 1 = some (.inr (.inr (5, a1))) := rfl
  have g2 : zl_get (zl_args 0 [.inr (.inr (0, some a0)), .inr (.inr (5, a1)), .inr (.inr (5, a2)), .inl a3, .inl a4, .inr (.inr (8, a5))]) 2 = some (.inr (.inr (5, a2))) := rfl
  have g3 : zl_get (zl_args 0 [.inr (.inr (0, some a0)), .inr (.inr (5, a1)), .inr (.inr (5, a2)), .inl a3, .inl a4, .inr (.inr (8, a5))]) 3 = some (.inl a3) := rfl
  have g4 : zl_get (zl_args 0 [.inr (.inr (0, some a0)), .inr (.inr (5, a1)), .inr (.inr (5, a2)), .inl a3, .inl a4, .inr (.inr (8, a5))]) 4 = some (.inl a4) := rfl
  have g5 : zl_get (zl_args 0 [.inr (.inr (0, some a0)), .inr (.inr (5, a1)), .inr (.inr (5, a2)), .inl a3, .inl a4, .inr (.inr (8, a5))]) 5 = some (.inr (.inr (8, a5))) := rfl
  refine e_aldn cd_138_0 g0 ?_
  refine e_aldn cd_138_1 g1 ?_
  refine e_aldn cd_138_2 g0 ?_
  refine e_getR cd_138_3 fd_138_25 rfl ?_
  refine e_ildn cd_138_6 g3 ?_
  refine k_opt hs (fun _ q => nomatch q) (fun k1 h2 hs => ?_)
  obtain ⟨c3, hs⟩ := z_ite hs
  refine e_iald cd_138_7 rfl h2 c3 ?_
  refine e_ild cd_138_8 g4 ?_
  refine e_ald cd_138_10 g5 ?_
  obtain ⟨q4, h5, hs⟩ := k_bind hs
  refine e_cst cd_138_12 kd_138_87 rfl rfl rfl nl_139 rfl rfl (tie_di_stepFrom d a1 (zm_I M 20 k1 (a3 : Int32).toNatClampNeg) a4 a5 M _ h5) ?_
  refine k_let hs (fun M6 e7 hs => ?_)
  refine e_putI cd_138_15 pd_138_77 rfl e7 ?_
  refine e_aldn cd_138_18 g0 ?_
  refine e_getI cd_138_19 (Or.inl fd_138_77) rfl ?_
  refine e_const cd_138_22 ci_m1 ?_
  refine k_if hs (fun c8 hs => ?_) (fun c8 hs => ?_)
  · refine e_icJ cd_138_23 rfl c8 ?_
    exact tie_di_advance_38  d  a0 a2 a3 a4 a5 M6 so _ g0 g2 g3 g4 g5 hs
  · refine e_icN cd_138_23 rfl c8 ?_
    refine e_ald cd_138_26 g5 ?_
    refine k_opt hs (fun _ q => nomatch q) (fun k9 h10 hs => ?_)
    obtain ⟨q11, h12, hs⟩ := k_bind hs
    refine e_cvi cd_138_28 kd_138_91 rfl rfl rfl h10 rfl nl_250 rfl rfl (tie_wk_canEnd d k9 M6 _ h12) ?_
    refine k_if hs (fun c13 hs => ?_) (fun c13 hs => ?_)
    · refine e_izJ cd_138_31 rfl c13 ?_
      exact tie_di_advance_38  d  a0 a2 a3 a4 a5 q11.2 so _ g0 g2 g3 g4 g5 hs
    · refine e_izN cd_138_31 rfl c13 ?_
      refine e_const cd_138_34 ci_1 ?_
      refine e_goto cd_138_35 rfl ?_
      exact tie_di_advance_39  d  a0 a2 a3 a4 a5 1 q11.2 so _ g0 g2 g3 g4 g5 hs
theorem tie_di_advance (d : Nat) (a0 : Nat) (a1 : Option Nat) (a2 : Option Nat) (a3 : Int32) (a4 : Int32) (a5 : Option Nat) (M : zM) (so : zM) (hs : di_advance d a0 a1 a2 a3 a4 a5 M = some so) : Ev zq_T d 138 0 (zl_args 0 [.inr (.inr (0, some a0)), .inr (.inr (5, a1)), .inr (.inr (5, a2)), .inl a3, .inl a4, .inr (.inr (8, a5))]) [] M (none, so) := by
  cases d with
  | zero => exact nomatch hs
  | succ d => exact tieb_di_advance d a0 a1 a2 a3 a4 a5 M so hs
theorem tie_di_bucketOf (d : Nat) (a0 : Int32) (a1 : Int32) (M : zM) (so : Int32 × zM) (hs : di_bucketOf d a0 a1 M = some so) : Ev zq_T d 140 0 (zl_args 0 [.inl a0, .inl a1]) [] M (some (.inl so.1), so.2) := by
  unfold di_bucketOf at hs
  have g0 : zl_get (zl_args 0 [.inl a0, .inl a1]) 0 = some (.inl a0) := rfl
  have g1 : zl_get (zl_args 0 [.inl a0, .inl a1]) 1 = some (.inl a1) := rfl
  refine e_ildn cd_140_0 g0 ?_
  refine e_bip cd_140_1 cb_31 ?_
  refine e_pure cd_140_3 rfl ?_
  refine e_ildn cd_140_4 g1 ?_
  refine e_bip cd_140_5 cb_17 ?_
  refine e_pure cd_140_7 rfl ?_
  refine e_pure cd_140_8 rfl ?_
  refine k_let hs (fun x1 e2 hs => ?_)
  refine e_iKn cd_140_9 nl_140 rfl e2 ?_
  intro _ gn kp
  have u3 := gn
  refine e_ildn cd_140_10 u3 ?_
  refine e_ildn cd_140_11 u3 ?_
  refine e_bip cd_140_12 cb_13 ?_
  refine e_pure cd_140_14 rfl ?_
  refine e_pure cd_140_15 rfl ?_
  refine e_sip cd_140_16 cs_2047 ?_
  refine e_pure cd_140_19 rfl ?_
  have e := Option.some.inj hs
  subst e
  exact e_ri cd_140_20 nr_140
theorem tie_di_isKnown_60 (kl19 : Nat → Int32 → Int32 → zM → Option (Int32 × zM)) (d : Nat) (hk19 : ∀ (t0 : Nat) (v1 : Int32) (v2 : Int32) (M : zM) (so : Int32 × zM) (ls : List (Nat × zV)), zl_get ls 0 = some (.inr (.inr (0, (some t0)))) → zl_get ls 1 = some (.inl v1) → zl_get ls 2 = some (.inl v2) → kl19 t0 v1 v2 M = some so → Ev zq_T (d + 1) 141 19 ls [] M (some (.inl so.1), so.2)) (t0 : Nat) (v1 : Int32) (v2 : Int32) (M : zM) (so : Int32 × zM) (ls : List (Nat × zV)) (g0 : zl_get ls 0 = some (.inr (.inr (0, (some t0))))) (g1 : zl_get ls 1 = some (.inl v1)) (g2 : zl_get ls 2 = some (.inl v2)) (hs : di_isKnown_60 kl19 d t0 v1 v2 M = some so) : Ev zq_T (d + 1) 141 60 ls [] M (some (.inl so.1), so.2) := by
  unfold di_isKnown_60 at hs
  refine e_aldn cd_141_60 g0 ?_
  refine e_getR cd_141_61 fd_141_34 rfl ?_
  refine e_ildn cd_141_64 g1 ?_
  refine k_opt hs (fun _ q => nomatch q) (fun k1 h2 hs => ?_)
  obtain ⟨c3, hs⟩ := z_ite hs
  refine e_iald cd_141_65 rfl h2 c3 ?_
  refine k_let hs (fun x4 e5 hs => ?_)
  refine e_iKn cd_141_66 nl_141 rfl e5 ?_
  intro _ gn kp
  have u6 := kp 0 _ g0 rfl rfl
  have u7 := kp 2 _ g2 rfl rfl
  have u8 := gn
  refine k_let hs (fun x9 e10 hs => ?_)
  refine e_incK cd_141_67 nl_141 rfl u7 ci_1 e10 ?_
  intro _ gn kp
  have u11 := kp 0 _ u6 rfl rfl
  have u12 := kp 1 _ u8 rfl rfl
  have u13 := gn
  refine e_goto cd_141_70 rfl ?_
  exact hk19 t0 x4 x9 M so _ u11 u12 u13 hs
theorem tie_di_isKnown_73  (d : Nat)   (M : zM) (so : Int32 × zM) (ls : List (Nat × zV))  (hs : di_isKnown_73  d  M = some so) : Ev zq_T (d + 1) 141 73 ls [] M (some (.inl so.1), so.2) := by
  unfold di_isKnown_73 at hs
  refine e_const cd_141_73 ci_0 ?_
  have e := Option.some.inj hs
  subst e
  exact e_rz cd_141_74 nr_141 (Or.inl rfl)
theorem tie_di_isKnown_19  (d : Nat)  : ∀ (fuel : Nat) (t0 : Nat) (v1 : Int32) (v2 : Int32) (M : zM) (so : Int32 × zM) (ls : List (Nat × zV)), zl_get ls 0 = some (.inr (.inr (0, (some t0)))) → zl_get ls 1 = some (.inl v1) → zl_get ls 2 = some (.inl v2) → di_isKnown_19  d fuel t0 v1 v2 M = some so → Ev zq_T (d + 1) 141 19 ls [] M (some (.inl so.1), so.2) := by
  intro fuel
  induction fuel with
  | zero => intro t0 v1 v2 M so ls g0 g1 g2 hs; exact nomatch hs
  | succ fuel ih =>
    intro t0 v1 v2 M so ls g0 g1 g2 hs
    unfold di_isKnown_19 at hs
    refine e_ildn cd_141_19 g2 ?_
    refine e_aldn cd_141_20 g0 ?_
    refine e_getI cd_141_21 (Or.inl fd_141_52) rfl ?_
    refine k_if hs (fun c1 hs => ?_) (fun c1 hs => ?_)
    · refine e_icJ cd_141_24 rfl c1 ?_
      exact tie_di_isKnown_73  d   M so _  hs
    · refine e_icN cd_141_24 rfl c1 ?_
      refine e_ildn cd_141_27 g1 ?_
      refine e_const cd_141_28 ci_m1 ?_
      refine k_if hs (fun c2 hs => ?_) (fun c2 hs => ?_)
      · refine e_icJ cd_141_29 rfl c2 ?_
        exact tie_di_isKnown_73  d   M so _  hs
      · refine e_icN cd_141_29 rfl c2 ?_
        refine e_aldn cd_141_32 g0 ?_
        refine e_getR cd_141_33 fd_141_25 rfl ?_
        refine e_ildn cd_141_36 g1 ?_
        refine k_opt hs (fun _ q => nomatch q) (fun k3 h4 hs => ?_)
        obtain ⟨c5, hs⟩ := z_ite hs
        refine e_iald cd_141_37 rfl h4 c5 ?_
        refine e_aldn cd_141_38 g0 ?_
        refine e_getI cd_141_39 (Or.inl fd_141_77) rfl ?_
        refine k_if hs (fun c6 hs => ?_) (fun c6 hs => ?_)
        · refine e_icN cd_141_42 rfl (fun q => q c6) ?_
          refine e_aldn cd_141_45 g0 ?_
          refine e_getR cd_141_46 fd_141_28 rfl ?_
          refine e_ildn cd_141_49 g1 ?_
          refine k_opt hs (fun _ q => nomatch q) (fun k7 h8 hs => ?_)
          obtain ⟨c9, hs⟩ := z_ite hs
          refine e_iald cd_141_50 rfl h8 c9 ?_
          refine e_aldn cd_141_51 g0 ?_
          refine e_getI cd_141_52 (Or.inl fd_141_80) rfl ?_
          refine k_if hs (fun c10 hs => ?_) (fun c10 hs => ?_)
          · refine e_icN cd_141_55 rfl (fun q => q c10) ?_
            refine e_const cd_141_58 ci_1 ?_
            have e := Option.some.inj hs
            subst e
            exact e_rz cd_141_59 nr_141 (Or.inr rfl)
          · refine e_icJ cd_141_55 rfl c10 ?_
            exact tie_di_isKnown_60 (fun p0 p1 p2 m => di_isKnown_19  d fuel p0 p1 p2 m) d ih t0 v1 v2 M so _ g0 g1 g2 hs
        · refine e_icJ cd_141_42 rfl c6 ?_
          exact tie_di_isKnown_60 (fun p0 p1 p2 m => di_isKnown_19  d fuel p0 p1 p2 m) d ih t0 v1 v2 M so _ g0 g1 g2 hs
theorem tieb_di_isKnown  (d : Nat)  (a0 : Nat) (M : zM) (so : Int32 × zM) (hs : di_isKnown_b  d a0 M = some so) : Ev zq_T (d + 1) 141 0 (zl_args 0 [.inr (.inr (0, some a0))]) [] M (some (.inl so.1), so.2) := by
  unfold di_isKnown_b at hs
  have g0 : zl_get (zl_args 0 [.inr (.inr (0, some a0))]) 0 = some (.inr (.inr (0, (some a0)))) := rfl
  refine e_aldn cd_141_0 g0 ?_
  refine e_getR cd_141_1 fd_141_37 rfl ?_
  refine e_aldn cd_141_4 g0 ?_
  refine e_getI cd_141_5 (Or.inl fd_141_77) rfl ?_
  refine e_aldn cd_141_8 g0 ?_
  refine e_getI cd_141_9 (Or.inl fd_141_80) rfl ?_
  obtain ⟨q1, h2, hs⟩ := k_bind hs
  refine e_cst cd_141_12 kd_141_107 rfl rfl rfl nl_140 rfl rfl (tie_di_bucketOf d (zm_I M 0 a0 10) (zm_I M 0 a0 11) M _ h2) ?_
  refine k_opt hs (fun _ q => nomatch q) (fun k3 h4 hs => ?_)
  obtain ⟨c5, hs⟩ := z_ite hs
  refine e_iald cd_141_15 rfl h4 c5 ?_
  refine k_let hs (fun x6 e7 hs => ?_)
  refine e_iKn cd_141_16 nl_141 rfl e7 ?_
  intro _ gn kp
  have u8 := kp 0 _ g0 rfl rfl
  have u9 := gn
  refine e_const cd_141_17 ci_0 ?_
  refine e_iKn cd_141_18 nl_141 rfl rfl ?_
  intro _ gn kp
  have u10 := kp 0 _ u8 rfl rfl
  have u11 := kp 1 _ u9 rfl rfl
  have u12 := gn
  exact tie_di_isKnown_19  d  zLF a0 x6 0 q1.2 so _ u10 u11 u12 hs
theorem tie_di_isKnown (d : Nat) (a0 : Nat) (M : zM) (so : Int32 × zM) (hs : di_isKnown d a0 M = some so) : Ev zq_T d 141 0 (zl_args 0 [.inr (.inr (0, some a0))]) [] M (some (.inl so.1), so.2) := by
  cases d with
  | zero => exact nomatch hs
  | succ d => exact tieb_di_isKnown d a0 M so hs
theorem tieb_di_store  (d : Nat)  (a0 : Nat) (a1 : Int32) (a2 : Int32) (a3 : Int32) (M : zM) (so : zM) (hs : di_store_b  d a0 a1 a2 a3 M = some so) : Ev zq_T (d + 1) 142 0 (zl_args 0 [.inr (.inr (0, some a0)), .inl a1, .inl a2, .inl a3]) [] M (none, so) := by
  unfold di_store_b at hs
  have g0 : zl_get (zl_args 0 [.inr (.inr (0, some a0)), .inl a1, .inl a2, .inl a3]) 0 = some (.inr (.inr (0, (some a0)))) := rfl
  have g1 : zl_get (zl_args 0 [.inr (.inr (0, some a0)), .inl a1, .inl a2, .inl a3]) 1 = some (.inl a1) := rfl
  have g2 : zl_get (zl_args 0 [.inr (.inr (0, some a0)), .inl a1, .inl a2, .inl a3]) 2 = some (.inl a2) := rfl
  have g3 : zl_get (zl_args 0 [.inr (.inr (0, some a0)), .inl a1, .inl a2, .inl a3]) 3 = some (.inl a3) := rfl
  refine e_aldn cd_142_0 g0 ?_
  refine e_getI cd_142_1 (Or.inl fd_142_52) rfl ?_
  refine e_sip cd_142_4 cs_8738 ?_
  refine k_if hs (fun c1 hs => ?_) (fun c1 hs => ?_)
  · refine e_icJ cd_142_7 rfl c1 ?_
    refine e_ildn cd_142_11 g1 ?_
    refine e_ildn cd_142_12 g2 ?_
    obtain ⟨q2, h3, hs⟩ := k_bind hs
    refine e_cst cd_142_13 kd_142_107 rfl rfl rfl nl_140 rfl rfl (tie_di_bucketOf d a1 a2 M _ h3) ?_
    refine e_iK cd_142_16 nl_142 rfl rfl ?_
    intro _ gn kp
    have u4 := kp 0 _ g0 rfl rfl
    have u5 := kp 1 _ g1 rfl rfl
    have u6 := kp 2 _ g2 rfl rfl
    have u7 := kp 3 _ g3 rfl rfl
    have u8 := gn
    refine e_aldn cd_142_18 u4 ?_
    refine e_getR cd_142_19 fd_142_25 rfl ?_
    refine e_aldn cd_142_22 u4 ?_
    refine e_getI cd_142_23 (Or.inl fd_142_52) rfl ?_
    refine e_ildn cd_142_26 u5 ?_
    refine k_opt hs (fun _ q => nomatch q) (fun k9 h10 hs => ?_)
    obtain ⟨c11, hs⟩ := z_ite hs
    refine k_let hs (fun M12 e13 hs => ?_)
    refine e_iast cd_142_27 rfl h10 c11 e13 ?_
    refine e_aldn cd_142_28 u4 ?_
    refine e_getR cd_142_29 fd_142_28 rfl ?_
    refine e_aldn cd_142_32 u4 ?_
    refine e_getI cd_142_33 (Or.inl fd_142_52) rfl ?_
    refine e_ildn cd_142_36 u6 ?_
    refine k_opt hs (fun _ q => nomatch q) (fun k14 h15 hs => ?_)
    obtain ⟨c16, hs⟩ := z_ite hs
    refine k_let hs (fun M17 e18 hs => ?_)
    refine e_iast cd_142_37 rfl h15 c16 e18 ?_
    refine e_aldn cd_142_38 u4 ?_
    refine e_getR cd_142_39 fd_142_31 rfl ?_
    refine e_aldn cd_142_42 u4 ?_
    refine e_getI cd_142_43 (Or.inl fd_142_52) rfl ?_
    refine e_ildn cd_142_46 u7 ?_
    refine k_opt hs (fun _ q => nomatch q) (fun k19 h20 hs => ?_)
    obtain ⟨c21, hs⟩ := z_ite hs
    refine k_let hs (fun M22 e23 hs => ?_)
    refine e_iast cd_142_47 rfl h20 c21 e23 ?_
    refine e_aldn cd_142_48 u4 ?_
    refine e_getR cd_142_49 fd_142_34 rfl ?_
    refine e_aldn cd_142_52 u4 ?_
    refine e_getI cd_142_53 (Or.inl fd_142_52) rfl ?_
    refine e_aldn cd_142_56 u4 ?_
    refine e_getR cd_142_57 fd_142_37 rfl ?_
    refine e_ild cd_142_60 u8 ?_
    refine k_opt hs (fun _ q => nomatch q) (fun k24 h25 hs => ?_)
    obtain ⟨c26, hs⟩ := z_ite hs
    refine e_iald cd_142_62 rfl h25 c26 ?_
    refine k_opt hs (fun _ q => nomatch q) (fun k27 h28 hs => ?_)
    obtain ⟨c29, hs⟩ := z_ite hs
    refine k_let hs (fun M30 e31 hs => ?_)
    refine e_iast cd_142_63 rfl h28 c29 e31 ?_
    refine e_aldn cd_142_64 u4 ?_
    refine e_getR cd_142_65 fd_142_37 rfl ?_
    refine e_ild cd_142_68 u8 ?_
    refine e_aldn cd_142_70 u4 ?_
    refine e_getI cd_142_71 (Or.inl fd_142_52) rfl ?_
    refine k_opt hs (fun _ q => nomatch q) (fun k32 h33 hs => ?_)
    obtain ⟨c34, hs⟩ := z_ite hs
    refine k_let hs (fun M35 e36 hs => ?_)
    refine e_iast cd_142_74 rfl h33 c34 e36 ?_
    refine e_aldn cd_142_75 u4 ?_
    refine e_pure cd_142_76 rfl ?_
    refine e_getI cd_142_77 (Or.inl fd_142_52) rfl ?_
    refine e_const cd_142_80 ci_1 ?_
    refine e_pure cd_142_81 rfl ?_
    refine k_let hs (fun M37 e38 hs => ?_)
    refine e_putI cd_142_82 pd_142_52 rfl e38 ?_
    have e := Option.some.inj hs
    subst e
    exact e_rv cd_142_85 nr_142
  · refine e_icN cd_142_7 rfl c1 ?_
    have e := Option.some.inj hs
    subst e
    exact e_rv cd_142_10 nr_142
theorem tie_di_store (d : Nat) (a0 : Nat) (a1 : Int32) (a2 : Int32) (a3 : Int32) (M : zM) (so : zM) (hs : di_store d a0 a1 a2 a3 M = some so) : Ev zq_T d 142 0 (zl_args 0 [.inr (.inr (0, some a0)), .inl a1, .inl a2, .inl a3]) [] M (none, so) := by
  cases d with
  | zero => exact nomatch hs
  | succ d => exact tieb_di_store d a0 a1 a2 a3 M so hs
theorem tie_di_spell_22  (d : Nat)  : ∀ (fuel : Nat) (t0 : Nat) (v4 : Int32) (v5 : Int32) (M : zM) (so : zM) (ls : List (Nat × zV)), zl_get ls 0 = some (.inr (.inr (0, (some t0)))) → zl_get ls 4 = some (.inl v4) → zl_get ls 5 = some (.inl v5) → di_spell_22  d fuel t0 v4 v5 M = some so → Ev zq_T d 143 22 ls [] M (none, so) := by
  intro fuel
  induction fuel with
  | zero => intro t0 v4 v5 M so ls g0 g4 g5 hs; exact nomatch hs
  | succ fuel ih =>
    intro t0 v4 v5 M so ls g0 g4 g5 hs
    unfold di_spell_22 at hs
    refine e_ild cd_143_22 g5 ?_
    refine k_if hs (fun c1 hs => ?_) (fun c1 hs => ?_)
    · refine e_izJ cd_143_24 rfl c1 ?_
      have e := Option.some.inj hs
      subst e
      exact e_rv cd_143_61 nr_143
    · refine e_izN cd_143_24 rfl c1 ?_
      refine e_aldn cd_143_27 g0 ?_
      refine e_getR cd_143_28 fd_143_15 rfl ?_
      refine e_ild cd_143_31 g5 ?_
      refine e_aldn cd_143_33 g0 ?_
      refine e_getR cd_143_34 fd_143_31 rfl ?_
      refine e_ild cd_143_37 g4 ?_
      refine k_opt hs (fun _ q => nomatch q) (fun k2 h3 hs => ?_)
      obtain ⟨c4, hs⟩ := z_ite hs
      refine e_iald cd_143_39 rfl h3 c4 ?_
      refine e_bip cd_143_40 cb_31 ?_
      refine e_pure cd_143_42 rfl ?_
      refine k_opt hs (fun _ q => nomatch q) (fun k5 h6 hs => ?_)
      obtain ⟨c7, hs⟩ := z_ite hs
      refine k_let hs (fun M8 e9 hs => ?_)
      refine e_iast cd_143_43 rfl h6 c7 e9 ?_
      refine e_aldn cd_143_44 g0 ?_
      refine e_getR cd_143_45 fd_143_31 rfl ?_
      refine e_ild cd_143_48 g4 ?_
      refine k_opt hs (fun _ q => nomatch q) (fun k10 h11 hs => ?_)
      obtain ⟨c12, hs⟩ := z_ite hs
      refine e_iald cd_143_50 rfl h11 c12 ?_
      refine e_const cd_143_51 ci_5 ?_
      refine e_pure cd_143_52 rfl ?_
      refine k_let hs (fun x13 e14 hs => ?_)
      refine e_iK cd_143_53 nl_143 rfl e14 ?_
      intro _ gn kp
      have u15 := kp 0 _ g0 rfl rfl
      have u16 := kp 5 _ g5 rfl rfl
      have u17 := gn
      refine k_let hs (fun x18 e19 hs => ?_)
      refine e_incK cd_143_55 nl_143 rfl u16 ci_m1 e19 ?_
      intro _ gn kp
      have u20 := kp 0 _ u15 rfl rfl
      have u21 := kp 4 _ u17 rfl rfl
      have u22 := gn
      refine e_goto cd_143_58 rfl ?_
      exact ih t0 x13 x18 M8 so _ u20 u21 u22 hs
theorem tie_di_spell (d : Nat) (a0 : Nat) (a1 : Int32) (a2 : Int32) (a3 : Int32) (M : zM) (so : zM) (hs : di_spell d a0 a1 a2 a3 M = some so) : Ev zq_T d 143 0 (zl_args 0 [.inr (.inr (0, some a0)), .inl a1, .inl a2, .inl a3]) [] M (none, so) := by
  unfold di_spell at hs
  have g0 : zl_get (zl_args 0 [.inr (.inr (0, some a0)), .inl a1, .inl a2, .inl a3]) 0 = some (.inr (.inr (0, (some a0)))) := rfl
  have g1 : zl_get (zl_args 0 [.inr (.inr (0, some a0)), .inl a1, .inl a2, .inl a3]) 1 = some (.inl a1) := rfl
  have g2 : zl_get (zl_args 0 [.inr (.inr (0, some a0)), .inl a1, .inl a2, .inl a3]) 2 = some (.inl a2) := rfl
  have g3 : zl_get (zl_args 0 [.inr (.inr (0, some a0)), .inl a1, .inl a2, .inl a3]) 3 = some (.inl a3) := rfl
  refine e_aldn cd_143_0 g0 ?_
  refine e_ildn cd_143_1 g3 ?_
  refine k_let hs (fun M1 e2 hs => ?_)
  refine e_putI cd_143_2 pd_143_9 rfl e2 ?_
  refine e_aldn cd_143_5 g0 ?_
  refine e_getR cd_143_6 fd_143_15 rfl ?_
  refine e_ildn cd_143_9 g3 ?_
  refine e_const cd_143_10 ci_1 ?_
  refine e_pure cd_143_11 rfl ?_
  refine e_ildn cd_143_12 g2 ?_
  refine k_opt hs (fun _ q => nomatch q) (fun k3 h4 hs => ?_)
  obtain ⟨c5, hs⟩ := z_ite hs
  refine k_let hs (fun M6 e7 hs => ?_)
  refine e_iast cd_143_13 rfl h4 c5 e7 ?_
  refine e_ildn cd_143_14 g1 ?_
  refine e_iK cd_143_15 nl_143 rfl rfl ?_
  intro _ gn kp
  have u8 := kp 0 _ g0 rfl rfl
  have u9 := kp 3 _ g3 rfl rfl
  have u10 := gn
  refine e_ildn cd_143_17 u9 ?_
  refine e_const cd_143_18 ci_2 ?_
  refine e_pure cd_143_19 rfl ?_
  refine k_let hs (fun x11 e12 hs => ?_)
  refine e_iK cd_143_20 nl_143 rfl e12 ?_
  intro _ gn kp
  have u13 := kp 0 _ u8 rfl rfl
  have u14 := kp 4 _ u10 rfl rfl
  have u15 := gn
  exact tie_di_spell_22  d  zLF a0 a1 x11 M6 so _ u13 u14 u15 hs
theorem tie_ru_lettersIn_31 (kl4 : Nat → Int32 → Int32 → Int32 → zM → Option (Int32 × zM)) (d : Nat) (hk4 : ∀ (t0 : Nat) (v1 : Int32) (v2 : Int32) (v3 : Int32) (M : zM) (so : Int32 × zM) (ls : List (Nat × zV)), zl_get ls 0 = some (.inr (.inr (5, (some t0)))) → zl_get ls 1 = some (.inl v1) → zl_get ls 2 = some (.inl v2) → zl_get ls 3 = some (.inl v3) → kl4 t0 v1 v2 v3 M = some so → Ev zq_T d 194 4 ls [] M (some (.inl so.1), so.2)) (t0 : Nat) (v1 : Int32) (v2 : Int32) (v3 : Int32) (M : zM) (so : Int32 × zM) (ls : List (Nat × zV)) (g0 : zl_get ls 0 = some (.inr (.inr (5, (some t0))))) (g1 : zl_get ls 1 = some (.inl v1)) (g2 : zl_get ls 2 = some (.inl v2)) (g3 : zl_get ls 3 = some (.inl v3)) (hs : ru_lettersIn_31 kl4 d t0 v1 v2 v3 M = some so) : Ev zq_T d 194 31 ls [] M (some (.inl so.1), so.2) := by
  unfold ru_lettersIn_31 at hs
  refine k_let hs (fun x1 e2 hs => ?_)
  refine e_incK cd_194_31 nl_194 rfl g3 ci_1 e2 ?_
  intro _ gn kp
  have u3 := kp 0 _ g0 rfl rfl
  have u4 := kp 1 _ g1 rfl rfl
  have u5 := kp 2 _ g2 rfl rfl
  have u6 := gn
  refine e_goto cd_194_34 rfl ?_
  exact hk4 t0 v1 v2 x1 M so _ u3 u4 u5 u6 hs
theorem tie_ru_lettersIn_4  (d : Nat)  : ∀ (fuel : Nat) (t0 : Nat) (v1 : Int32) (v2 : Int32) (v3 : Int32) (M : zM) (so : Int32 × zM) (ls : List (Nat × zV)), zl_get ls 0 = some (.inr (.inr (5, (some t0)))) → zl_get ls 1 = some (.inl v1) → zl_get ls 2 = some (.inl v2) → zl_get ls 3 = some (.inl v3) → ru_lettersIn_4  d fuel t0 v1 v2 v3 M = some so → Ev zq_T d 194 4 ls [] M (some (.inl so.1), so.2) := by
  intro fuel
  induction fuel with
  | zero => intro t0 v1 v2 v3 M so ls g0 g1 g2 g3 hs; exact nomatch hs
  | succ fuel ih =>
    intro t0 v1 v2 v3 M so ls g0 g1 g2 g3 hs
    unfold ru_lettersIn_4 at hs
    refine e_ildn cd_194_4 g3 ?_
    refine e_aldn cd_194_5 g0 ?_
    refine e_getI cd_194_6 (Or.inl fd_194_50) rfl ?_
    refine k_if hs (fun c1 hs => ?_) (fun c1 hs => ?_)
    · refine e_icJ cd_194_9 rfl c1 ?_
      refine e_ildn cd_194_37 g2 ?_
      have e := Option.some.inj hs
      subst e
      exact e_ri cd_194_38 nr_194
    · refine e_icN cd_194_9 rfl c1 ?_
      refine e_ildn cd_194_12 g1 ?_
      refine e_ildn cd_194_13 g3 ?_
      refine e_pure cd_194_14 rfl ?_
      refine e_const cd_194_15 ci_1 ?_
      refine e_pure cd_194_16 rfl ?_
      refine k_if hs (fun c2 hs => ?_) (fun c2 hs => ?_)
      · refine e_izJ cd_194_17 rfl c2 ?_
        exact tie_ru_lettersIn_31 (fun p0 p1 p2 p3 m => ru_lettersIn_4  d fuel p0 p1 p2 p3 m) d ih t0 v1 v2 v3 M so _ g0 g1 g2 g3 hs
      · refine e_izN cd_194_17 rfl c2 ?_
        refine e_ildn cd_194_20 g2 ?_
        refine e_const cd_194_21 ci_1 ?_
        refine e_aldn cd_194_22 g0 ?_
        refine e_getR cd_194_23 fd_194_15 rfl ?_
        refine e_ildn cd_194_26 g3 ?_
        refine k_opt hs (fun _ q => nomatch q) (fun k3 h4 hs => ?_)
        obtain ⟨c5, hs⟩ := z_ite hs
        refine e_iald cd_194_27 rfl h4 c5 ?_
        refine e_pure cd_194_28 rfl ?_
        refine e_pure cd_194_29 rfl ?_
        refine k_let hs (fun x6 e7 hs => ?_)
        refine e_iKn cd_194_30 nl_194 rfl e7 ?_
        intro _ gn kp
        have u8 := kp 0 _ g0 rfl rfl
        have u9 := kp 1 _ g1 rfl rfl
        have u10 := kp 3 _ g3 rfl rfl
        have u11 := gn
        exact tie_ru_lettersIn_31 (fun p0 p1 p2 p3 m => ru_lettersIn_4  d fuel p0 p1 p2 p3 m) d ih t0 v1 x6 v3 M so _ u8 u9 u11 u10 hs
theorem tie_ru_lettersIn (d : Nat) (a0 : Nat) (a1 : Int32) (M : zM) (so : Int32 × zM) (hs : ru_lettersIn d a0 a1 M = some so) : Ev zq_T d 194 0 (zl_args 0 [.inr (.inr (5, some a0)), .inl a1]) [] M (some (.inl so.1), so.2) := by
  unfold ru_lettersIn at hs
  have g0 : zl_get (zl_args 0 [.inr (.inr (5, some a0)), .inl a1]) 0 = some (.inr (.inr (5, (some a0)))) := rfl
  have g1 : zl_get (zl_args 0 [.inr (.inr (5, some a0)), .inl a1]) 1 = some (.inl a1) := rfl
  refine e_const cd_194_0 ci_0 ?_
  refine e_iKn cd_194_1 nl_194 rfl rfl ?_
  intro _ gn kp
  have u1 := kp 0 _ g0 rfl rfl
  have u2 := kp 1 _ g1 rfl rfl
  have u3 := gn
  refine e_const cd_194_2 ci_0 ?_
  refine e_iKn cd_194_3 nl_194 rfl rfl ?_
  intro _ gn kp
  have u4 := kp 0 _ u1 rfl rfl
  have u5 := kp 1 _ u2 rfl rfl
  have u6 := kp 2 _ u3 rfl rfl
  have u7 := gn
  exact tie_ru_lettersIn_4  d  zLF a0 a1 0 0 M so _ u4 u5 u6 u7 hs
theorem tieb_ru_lettersInAll  (d : Nat)  (a0 : Nat) (M : zM) (so : Int32 × zM) (hs : ru_lettersInAll_b  d a0 M = some so) : Ev zq_T (d + 1) 195 0 (zl_args 0 [.inr (.inr (5, some a0))]) [] M (some (.inl so.1), so.2) := by
  unfold ru_lettersInAll_b at hs
  have g0 : zl_get (zl_args 0 [.inr (.inr (5, some a0))]) 0 = some (.inr (.inr (5, (some a0)))) := rfl
  refine e_aldn cd_195_0 g0 ?_
  refine e_ldcI cd_195_1 od_195_59 ?_
  obtain ⟨q1, h2, hs⟩ := k_bind hs
  refine e_cvi cd_195_3 kd_195_60 rfl rfl rfl rfl rfl nl_194 rfl rfl (tie_ru_lettersIn d a0 65535 M _ h2) ?_
  have e := Option.some.inj hs
  subst e
  exact e_ri cd_195_6 nr_195
theorem tie_ru_lettersInAll (d : Nat) (a0 : Nat) (M : zM) (so : Int32 × zM) (hs : ru_lettersInAll d a0 M = some so) : Ev zq_T d 195 0 (zl_args 0 [.inr (.inr (5, some a0))]) [] M (some (.inl so.1), so.2) := by
  cases d with
  | zero => exact nomatch hs
  | succ d => exact tieb_ru_lettersInAll d a0 M so hs
theorem tie_di_goOn_120 (kl14 : Nat → Option Nat → Option Nat → Int32 → Int32 → Option Nat → Int32 → Int32 → zM → Option (Int32 × zM)) (d : Nat) (hk14 : ∀ (t0 : Nat) (v1 : Option Nat) (v2 : Option Nat) (v3 : Int32) (v4 : Int32) (v5 : Option Nat) (v6 : Int32) (v7 : Int32) (M : zM) (so : Int32 × zM) (ls : List (Nat × zV)), zl_get ls 0 = some (.inr (.inr (0, (some t0)))) → zl_get ls 1 = some (.inr (.inr (5, v1))) → zl_get ls 2 = some (.inr (.inr (5, v2))) → zl_get ls 3 = some (.inl v3) → zl_get ls 4 = some (.inl v4) → zl_get ls 5 = some (.inr (.inr (8, v5))) → zl_get ls 6 = some (.inl v6) → zl_get ls 7 = some (.inl v7) → kl14 t0 v1 v2 v3 v4 v5 v6 v7 M = some so → Ev zq_T (d + 1) 137 14 ls [] M (some (.inl so.1), so.2)) (t0 : Nat) (v1 : Option Nat) (v2 : Option Nat) (v3 : Int32) (v4 : Int32) (v5 : Option Nat) (v6 : Int32) (v7 : Int32) (M : zM) (so : Int32 × zM) (ls : List (Nat × zV)) (g0 : zl_get ls 0 = some (.inr (.inr (0, (some t0))))) (g1 : zl_get ls 1 = some (.inr (.inr (5, v1)))) (g2 : zl_get ls 2 = some (.inr (.inr (5, v2)))) (g3 : zl_get ls 3 = some (.inl v3)) (g4 : zl_get ls 4 = some (.inl v4)) (g5 : zl_get ls 5 = some (.inr (.inr (8, v5)))) (g6 : zl_get ls 6 = some (.inl v6)) (g7 : zl_get ls 7 = some (.inl v7)) (hs : di_goOn_120 kl14 d t0 v1 v2 v3 v4 v5 v6 v7 M = some so) : Ev zq_T (d + 1) 137 120 ls [] M (some (.inl so.1), so.2) := by
  unfold di_goOn_120 at hs
  refine k_let hs (fun x1 e2 hs => ?_)
  refine e_incK cd_137_120 nl_137 rfl g7 ci_1 e2 ?_
  intro _ gn kp
  have u3 := kp 0 _ g0 rfl rfl
  have u4 := kp 1 _ g1 rfl rfl
  have u5 := kp 2 _ g2 rfl rfl
  have u6 := kp 3 _ g3 rfl rfl
  have u7 := kp 4 _ g4 rfl rfl
  have u8 := kp 5 _ g5 rfl rfl
  have u9 := kp 6 _ g6 rfl rfl
  have u10 := gn
  refine e_goto cd_137_123 rfl ?_
  exact hk14 t0 v1 v2 v3 v4 v5 v6 x1 M so _ u3 u4 u5 u6 u7 u8 u9 u10 hs
theorem tie_di_goOn_81 (kl14 : Nat → Option Nat → Option Nat → Int32 → Int32 → Option Nat → Int32 → Int32 → zM → Option (Int32 × zM)) (d : Nat) (hk14 : ∀ (t0 : Nat) (v1 : Option Nat) (v2 : Option Nat) (v3 : Int32) (v4 : Int32) (v5 : Option Nat) (v6 : Int32) (v7 : Int32) (M : zM) (so : Int32 × zM) (ls : List (Nat × zV)), zl_get ls 0 = some (.inr (.inr (0, (some t0)))) → zl_get ls 1 = some (.inr (.inr (5, v1))) → zl_get ls 2 = some (.inr (.inr (5, v2))) → zl_get ls 3 = some (.inl v3) → zl_get ls 4 = some (.inl v4) → zl_get ls 5 = some (.inr (.inr (8, v5))) → zl_get ls 6 = some (.inl v6) → zl_get ls 7 = some (.inl v7) → kl14 t0 v1 v2 v3 v4 v5 v6 v7 M = some so → Ev zq_T (d + 1) 137 14 ls [] M (some (.inl so.1), so.2)) (t0 : Nat) (v1 : Option Nat) (v2 : Option Nat) (v3 : Int32) (v4 : Int32) (v5 : Option Nat) (v6 : Int32) (v7 : Int32) (s0 : Int32) (M : zM) (so : Int32 × zM) (ls : List (Nat × zV)) (g0 : zl_get ls 0 = some (.inr (.inr (0, (some t0))))) (g1 : zl_get ls 1 = some (.inr (.inr (5, v1)))) (g2 : zl_get ls 2 = some (.inr (.inr (5, v2)))) (g3 : zl_get ls 3 = some (.inl v3)) (g4 : zl_get ls 4 = some (.inl v4)) (g5 : zl_get ls 5 = some (.inr (.inr (8, v5)))) (g6 : zl_get ls 6 = some (.inl v6)) (g7 : zl_get ls 7 = some (.inl v7)) (hs : di_goOn_81 kl14 d t0 v1 v2 v3 v4 v5 v6 v7 s0 M = some so) : Ev zq_T (d + 1) 137 81 ls [.inl s0] M (some (.inl so.1), so.2) := by
  unfold di_goOn_81 at hs
  refine e_iK cd_137_81 nl_137 rfl rfl ?_
  intro _ gn kp
  have u1 := kp 0 _ g0 rfl rfl
  have u2 := kp 1 _ g1 rfl rfl
  have u3 := kp 2 _ g2 rfl rfl
  have u4 := kp 3 _ g3 rfl rfl
  have u5 := kp 4 _ g4 rfl rfl
  have u6 := kp 5 _ g5 rfl rfl
  have u7 := kp 6 _ g6 rfl rfl
  have u8 := kp 7 _ g7 rfl rfl
  have u9 := gn
  refine e_ild cd_137_83 u9 ?_
  refine k_if hs (fun c10 hs => ?_) (fun c10 hs => ?_)
  · refine e_izJ cd_137_85 rfl c10 ?_
    exact tie_di_goOn_120 kl14 d hk14 t0 v1 v2 v3 v4 v5 v6 v7 M so _ u1 u2 u3 u4 u5 u6 u7 u8 hs
  · refine e_izN cd_137_85 rfl c10 ?_
    refine e_ild cd_137_88 u5 ?_
    refine e_const cd_137_90 ci_4 ?_
    refine k_if hs (fun c11 hs => ?_) (fun c11 hs => ?_)
    · refine e_icJ cd_137_91 rfl c11 ?_
      exact tie_di_goOn_120 kl14 d hk14 t0 v1 v2 v3 v4 v5 v6 v7 M so _ u1 u2 u3 u4 u5 u6 u7 u8 hs
    · refine e_icN cd_137_91 rfl c11 ?_
      refine e_aldn cd_137_94 u1 ?_
      obtain ⟨q12, h13, hs⟩ := k_bind hs
      refine e_cvi cd_137_95 kd_137_83 rfl rfl rfl rfl rfl nl_141 rfl rfl (tie_di_isKnown d t0 M _ h13) ?_
      refine k_if hs (fun c14 hs => ?_) (fun c14 hs => ?_)
      · refine e_izN cd_137_98 rfl (fun q => q c14) ?_
        refine e_aldn cd_137_101 u1 ?_
        refine e_aldn cd_137_102 u1 ?_
        refine e_getI cd_137_103 (Or.inl fd_137_77) rfl ?_
        refine e_aldn cd_137_106 u1 ?_
        refine e_getI cd_137_107 (Or.inl fd_137_80) rfl ?_
        refine e_ildn cd_137_110 u4 ?_
        refine e_bip cd_137_111 cb_32 ?_
        refine e_pure cd_137_113 rfl ?_
        refine e_ild cd_137_114 u8 ?_
        refine e_pure cd_137_116 rfl ?_
        obtain ⟨q15, h16, hs⟩ := k_bind hs
        refine e_cvi cd_137_117 kd_137_55 rfl rfl rfl rfl rfl nl_142 rfl rfl (tie_di_store d t0 (zm_I q12.2 0 t0 10) (zm_I q12.2 0 t0 11) ((v3 * 32) + v7) q12.2 _ h16) ?_
        exact tie_di_goOn_120 kl14 d hk14 t0 v1 v2 v3 v4 v5 v6 v7 q15 so _ u1 u2 u3 u4 u5 u6 u7 u8 hs
      · refine e_izJ cd_137_98 rfl c14 ?_
        exact tie_di_goOn_120 kl14 d hk14 t0 v1 v2 v3 v4 v5 v6 v7 q12.2 so _ u1 u2 u3 u4 u5 u6 u7 u8 hs
theorem tie_di_goOn_76 (kl14 : Nat → Option Nat → Option Nat → Int32 → Int32 → Option Nat → Int32 → Int32 → zM → Option (Int32 × zM)) (d : Nat) (hk14 : ∀ (t0 : Nat) (v1 : Option Nat) (v2 : Option Nat) (v3 : Int32) (v4 : Int32) (v5 : Option Nat) (v6 : Int32) (v7 : Int32) (M : zM) (so : Int32 × zM) (ls : List (Nat × zV)), zl_get ls 0 = some (.inr (.inr (0, (some t0)))) → zl_get ls 1 = some (.inr (.inr (5, v1))) → zl_get ls 2 = some (.inr (.inr (5, v2))) → zl_get ls 3 = some (.inl v3) → zl_get ls 4 = some (.inl v4) → zl_get ls 5 = some (.inr (.inr (8, v5))) → zl_get ls 6 = some (.inl v6) → zl_get ls 7 = some (.inl v7) → kl14 t0 v1 v2 v3 v4 v5 v6 v7 M = some so → Ev zq_T (d + 1) 137 14 ls [] M (some (.inl so.1), so.2)) (t0 : Nat) (v1 : Option Nat) (v2 : Option Nat) (v3 : Int32) (v4 : Int32) (v5 : Option Nat) (v6 : Int32) (v7 : Int32) (M : zM) (so : Int32 × zM) (ls : List (Nat × zV)) (g0 : zl_get ls 0 = some (.inr (.inr (0, (some t0))))) (g1 : zl_get ls 1 = some (.inr (.inr (5, v1)))) (g2 : zl_get ls 2 = some (.inr (.inr (5, v2)))) (g3 : zl_get ls 3 = some (.inl v3)) (g4 : zl_get ls 4 = some (.inl v4)) (g5 : zl_get ls 5 = some (.inr (.inr (8, v5)))) (g6 : zl_get ls 6 = some (.inl v6)) (g7 : zl_get ls 7 = some (.inl v7)) (hs : di_goOn_76 kl14 d t0 v1 v2 v3 v4 v5 v6 v7 M = some so) : Ev zq_T (d + 1) 137 76 ls [] M (some (.inl so.1), so.2) := by
  unfold di_goOn_76 at hs
  refine e_const cd_137_76 ci_1 ?_
  refine e_goto cd_137_77 rfl ?_
  exact tie_di_goOn_81 kl14 d hk14 t0 v1 v2 v3 v4 v5 v6 v7 1 M so _ g0 g1 g2 g3 g4 g5 g6 g7 hs
theorem tie_di_goOn_14  (d : Nat)  : ∀ (fuel : Nat) (t0 : Nat) (v1 : Option Nat) (v2 : Option Nat) (v3 : Int32) (v4 : Int32) (v5 : Option Nat) (v6 : Int32) (v7 : Int32) (M : zM) (so : Int32 × zM) (ls : List (Nat × zV)), zl_get ls 0 = some (.inr (.inr (0, (some t0)))) → zl_get ls 1 = some (.inr (.inr (5, v1))) → zl_get ls 2 = some (.inr (.inr (5, v2))) → zl_get ls 3 = some (.inl v3) → zl_get ls 4 = some (.inl v4) → zl_get ls 5 = some (.inr (.inr (8, v5))) → zl_get ls 6 = some (.inl v6) → zl_get ls 7 = some (.inl v7) → di_goOn_14  d fuel t0 v1 v2 v3 v4 v5 v6 v7 M = some so → Ev zq_T (d + 1) 137 14 ls [] M (some (.inl so.1), so.2) := by
  intro fuel
  induction fuel with
  | zero => intro t0 v1 v2 v3 v4 v5 v6 v7 M so ls g0 g1 g2 g3 g4 g5 g6 g7 hs; exact nomatch hs
  | succ fuel ih =>
    intro t0 v1 v2 v3 v4 v5 v6 v7 M so ls g0 g1 g2 g3 g4 g5 g6 g7 hs
    unfold di_goOn_14 at hs
    refine e_ild cd_137_14 g7 ?_
    refine e_bip cd_137_16 cb_26 ?_
    refine k_if hs (fun c1 hs => ?_) (fun c1 hs => ?_)
    · refine e_icJ cd_137_18 rfl c1 ?_
      refine e_const cd_137_126 ci_0 ?_
      have e := Option.some.inj hs
      subst e
      exact e_rz cd_137_127 nr_137 (Or.inl rfl)
    · refine e_icN cd_137_18 rfl c1 ?_
      refine e_ild cd_137_21 g6 ?_
      refine e_ild cd_137_23 g7 ?_
      refine e_pure cd_137_25 rfl ?_
      refine e_const cd_137_26 ci_1 ?_
      refine e_pure cd_137_27 rfl ?_
      refine k_if hs (fun c2 hs => ?_) (fun c2 hs => ?_)
      · refine e_izJ cd_137_28 rfl c2 ?_
        exact tie_di_goOn_120 (fun p0 p1 p2 p3 p4 p5 p6 p7 m => di_goOn_14  d fuel p0 p1 p2 p3 p4 p5 p6 p7 m) d ih t0 v1 v2 v3 v4 v5 v6 v7 M so _ g0 g1 g2 g3 g4 g5 g6 g7 hs
      · refine e_izN cd_137_28 rfl c2 ?_
        refine e_aldn cd_137_31 g0 ?_
        refine e_aldn cd_137_32 g1 ?_
        refine e_aldn cd_137_33 g2 ?_
        refine e_ildn cd_137_34 g3 ?_
        refine e_ild cd_137_35 g7 ?_
        refine e_ald cd_137_37 g5 ?_
        obtain ⟨q3, h4, hs⟩ := k_bind hs
        refine e_cvi cd_137_39 kd_137_67 rfl rfl rfl rfl rfl nl_138 rfl rfl (tie_di_advance d t0 v1 v2 v3 v7 v5 M _ h4) ?_
        refine e_aldn cd_137_42 g0 ?_
        refine e_getI cd_137_43 (Or.inr fd_137_71) rfl ?_
        refine k_if hs (fun c5 hs => ?_) (fun c5 hs => ?_)
        · refine e_izJ cd_137_46 rfl c5 ?_
          refine e_aldn cd_137_60 g0 ?_
          refine e_getI cd_137_61 (Or.inl fd_137_77) rfl ?_
          refine e_const cd_137_64 ci_m1 ?_
          refine k_if hs (fun c6 hs => ?_) (fun c6 hs => ?_)
          · refine e_icN cd_137_65 rfl (fun q => q c6) ?_
            refine e_aldn cd_137_68 g0 ?_
            refine e_getI cd_137_69 (Or.inl fd_137_80) rfl ?_
            refine e_const cd_137_72 ci_m1 ?_
            refine k_if hs (fun c7 hs => ?_) (fun c7 hs => ?_)
            · refine e_icJ cd_137_73 rfl c7 ?_
              refine e_const cd_137_80 ci_0 ?_
              exact tie_di_goOn_81 (fun p0 p1 p2 p3 p4 p5 p6 p7 m => di_goOn_14  d fuel p0 p1 p2 p3 p4 p5 p6 p7 m) d ih t0 v1 v2 v3 v4 v5 v6 v7 0 q3 so _ g0 g1 g2 g3 g4 g5 g6 g7 hs
            · refine e_icN cd_137_73 rfl c7 ?_
              exact tie_di_goOn_76 (fun p0 p1 p2 p3 p4 p5 p6 p7 m => di_goOn_14  d fuel p0 p1 p2 p3 p4 p5 p6 p7 m) d ih t0 v1 v2 v3 v4 v5 v6 v7 q3 so _ g0 g1 g2 g3 g4 g5 g6 g7 hs
          · refine e_icJ cd_137_65 rfl c6 ?_
            exact tie_di_goOn_76 (fun p0 p1 p2 p3 p4 p5 p6 p7 m => di_goOn_14  d fuel p0 p1 p2 p3 p4 p5 p6 p7 m) d ih t0 v1 v2 v3 v4 v5 v6 v7 q3 so _ g0 g1 g2 g3 g4 g5 g6 g7 hs
        · refine e_izN cd_137_46 rfl c5 ?_
          refine e_aldn cd_137_49 g0 ?_
          refine e_ildn cd_137_50 g3 ?_
          refine e_ild cd_137_51 g7 ?_
          refine e_ild cd_137_53 g4 ?_
          obtain ⟨q8, h9, hs⟩ := k_bind hs
          refine e_cvi cd_137_55 kd_137_74 rfl rfl rfl rfl rfl nl_143 rfl rfl (tie_di_spell d t0 v3 v7 v4 q3 _ h9) ?_
          refine e_const cd_137_58 ci_1 ?_
          have e := Option.some.inj hs
          subst e
          exact e_rz cd_137_59 nr_137 (Or.inr rfl)
theorem tieb_di_goOn  (d : Nat)  (a0 : Nat) (a1 : Option Nat) (a2 : Option Nat) (a3 : Int32) (a4 : Int32) (a5 : Option Nat) (M : zM) (so : Int32 × zM) (hs : di_goOn_b  d a0 a1 a2 a3 a4 a5 M = some so) : Ev zq_T (d + 1) 137 0 (zl_args 0 [.inr (.inr (0, some a0)), .inr (.inr (5, a1)), .inr (.inr (5, a2)), .inl a3, .inl a4, .inr (.inr (8, a5))]) [] M (some (.inl so.1), so.2) := by
  unfold di_goOn_b at hs
  have g0 : zl_get (zl_args 0 [.inr (.inr (0, some a0)), .inr (.inr (5, a1)), .inr (.inr (5, a2)), .inl a3, .inl a4, .inr (.inr (8, a5))]) 0 = some (.inr (.inr (0, (some a0)))) := rfl
  have g1 : zl_get (zl_args 0 [.inr (.inr (0, some a0)), .inr (.inr (5, a1)), .inr (.inr (5, a2)), .inl a3, .inl a4, .inr (.inr (8, a5))]) 1 = some (.inr (.inr (5, a1))) := rfl
  have g2 : zl_get (zl_args 0 [.inr (.inr (0, some a0)), .inr (.inr (5, a1)), .inr (.inr (5, a2)), .inl a3, .inl a4, .inr (.inr (8, a5))]) 2 = some (.inr (.inr (5, a2))) := rfl
  have g3 : zl_get (zl_args 0 [.inr (.inr (0, some a0)), .inr (.inr (5, a1)), .inr (.inr (5, a2)), .inl a3, .inl a4, .inr (.inr (8, a5))]) 3 = some (.inl a3) := rfl
  have g4 : zl_get (zl_args 0 [.inr (.inr (0, some a0)), .inr (.inr (5, a1)), .inr (.inr (5, a2)), .inl a3, .inl a4, .inr (.inr (8, a5))]) 4 = some (.inl a4) := rfl
  have g5 : zl_get (zl_args 0 [.inr (.inr (0, some a0)), .inr (.inr (5, a1)), .inr (.inr (5, a2)), .inl a3, .inl a4, .inr (.inr (8, a5))]) 5 = some (.inr (.inr (8, a5))) := rfl
  refine e_aldn cd_137_0 g1 ?_
  refine k_opt hs (fun _ q => nomatch q) (fun k1 h2 hs => ?_)
  obtain ⟨q3, h4, hs⟩ := k_bind hs
  refine e_cvi cd_137_1 kd_137_63 rfl rfl rfl h2 rfl nl_195 rfl rfl (tie_ru_lettersInAll d k1 M _ h4) ?_
  refine e_aldn cd_137_4 g2 ?_
  refine k_opt hs (fun _ q => nomatch q) (fun k5 h6 hs => ?_)
  obtain ⟨q7, h8, hs⟩ := k_bind hs
  refine e_cvi cd_137_5 kd_137_63 rfl rfl rfl h6 rfl nl_195 rfl rfl (tie_ru_lettersInAll d k5 q3.2 _ h8) ?_
  refine e_pure cd_137_8 rfl ?_
  refine k_let hs (fun x9 e10 hs => ?_)
  refine e_iK cd_137_9 nl_137 rfl e10 ?_
  intro _ gn kp
  have u11 := kp 0 _ g0 rfl rfl
  have u12 := kp 1 _ g1 rfl rfl
  have u13 := kp 2 _ g2 rfl rfl
  have u14 := kp 3 _ g3 rfl rfl
  have u15 := kp 4 _ g4 rfl rfl
  have u16 := kp 5 _ g5 rfl rfl
  have u17 := gn
  refine e_const cd_137_11 ci_0 ?_
  refine e_iK cd_137_12 nl_137 rfl rfl ?_
  intro _ gn kp
  have u18 := kp 0 _ u11 rfl rfl
  have u19 := kp 1 _ u12 rfl rfl
  have u20 := kp 2 _ u13 rfl rfl
  have u21 := kp 3 _ u14 rfl rfl
  have u22 := kp 4 _ u15 rfl rfl
  have u23 := kp 5 _ u16 rfl rfl
  have u24 := kp 6 _ u17 rfl rfl
  have u25 := gn
  exact tie_di_goOn_14  d  zLF a0 a1 a2 a3 a4 a5 x9 0 q7.2 so _ u18 u19 u20 u21 u22 u23 u24 u25 hs
theorem tie_di_goOn (d : Nat) (a0 : Nat) (a1 : Option Nat) (a2 : Option Nat) (a3 : Int32) (a4 : Int32) (a5 : Option Nat) (M : zM) (so : Int32 × zM) (hs : di_goOn d a0 a1 a2 a3 a4 a5 M = some so) : Ev zq_T d 137 0 (zl_args 0 [.inr (.inr (0, some a0)), .inr (.inr (5, a1)), .inr (.inr (5, a2)), .inl a3, .inl a4, .inr (.inr (8, a5))]) [] M (some (.inl so.1), so.2) := by
  cases d with
  | zero => exact nomatch hs
  | succ d => exact tieb_di_goOn d a0 a1 a2 a3 a4 a5 M so hs
theorem tie_di_seek_125 (kl109 : Nat → Option Nat → Option Nat → Option Nat → Int32 → Int32 → zM → Option (zM)) (d : Nat) (hk109 : ∀ (t0 : Nat) (v1 : Option Nat) (v2 : Option Nat) (v3 : Option Nat) (v6 : Int32) (v7 : Int32) (M : zM) (so : zM) (ls : List (Nat × zV)), zl_get ls 0 = some (.inr (.inr (0, (some t0)))) → zl_get ls 1 = some (.inr (.inr (5, v1))) → zl_get ls 2 = some (.inr (.inr (5, v2))) → zl_get ls 3 = some (.inr (.inr (8, v3))) → zl_get ls 6 = some (.inl v6) → zl_get ls 7 = some (.inl v7) → kl109 t0 v1 v2 v3 v6 v7 M = some so → Ev zq_T (d + 1) 136 109 ls [] M (none, so)) : ∀ (fuel : Nat) (t0 : Nat) (v1 : Option Nat) (v2 : Option Nat) (v3 : Option Nat) (v7 : Int32) (v8 : Int32) (v9 : Int32) (M : zM) (so : zM) (ls : List (Nat × zV)), zl_get ls 0 = some (.inr (.inr (0, (some t0)))) → zl_get ls 1 = some (.inr (.inr (5, v1))) → zl_get ls 2 = some (.inr (.inr (5, v2))) → zl_get ls 3 = some (.inr (.inr (8, v3))) → zl_get ls 7 = some (.inl v7) → zl_get ls 8 = some (.inl v8) → zl_get ls 9 = some (.inl v9) → di_seek_125 kl109 d fuel t0 v1 v2 v3 v7 v8 v9 M = some so → Ev zq_T (d + 1) 136 125 ls [] M (none, so) := by
  intro fuel
  induction fuel with
  | zero => intro t0 v1 v2 v3 v7 v8 v9 M so ls g0 g1 g2 g3 g7 g8 g9 hs; exact nomatch hs
  | succ fuel ih =>
    intro t0 v1 v2 v3 v7 v8 v9 M so ls g0 g1 g2 g3 g7 g8 g9 hs
    unfold di_seek_125 at hs
    refine e_ild cd_136_125 g9 ?_
    refine e_ild cd_136_127 g8 ?_
    refine k_if hs (fun c1 hs => ?_) (fun c1 hs => ?_)
    · refine e_icJ cd_136_129 rfl c1 ?_
      refine e_ild cd_136_153 g8 ?_
      refine e_iK cd_136_155 nl_136 rfl rfl ?_
      intro _ gn kp
      have u2 := kp 0 _ g0 rfl rfl
      have u3 := kp 1 _ g1 rfl rfl
      have u4 := kp 2 _ g2 rfl rfl
      have u5 := kp 3 _ g3 rfl rfl
      have u6 := kp 7 _ g7 rfl rfl
      have u7 := gn
      refine k_let hs (fun x8 e9 hs => ?_)
      refine e_incK cd_136_157 nl_136 rfl u6 ci_1 e9 ?_
      intro _ gn kp
      have u10 := kp 0 _ u2 rfl rfl
      have u11 := kp 1 _ u3 rfl rfl
      have u12 := kp 2 _ u4 rfl rfl
      have u13 := kp 3 _ u5 rfl rfl
      have u14 := kp 6 _ u7 rfl rfl
      have u15 := gn
      refine e_goto cd_136_160 rfl ?_
      exact hk109 t0 v1 v2 v3 v8 x8 M so _ u10 u11 u12 u13 u14 u15 hs
    · refine e_icN cd_136_129 rfl c1 ?_
      refine e_aldn cd_136_132 g0 ?_
      refine e_aldn cd_136_133 g1 ?_
      refine e_aldn cd_136_134 g2 ?_
      refine e_ild cd_136_135 g9 ?_
      refine e_ild cd_136_137 g7 ?_
      refine e_aldn cd_136_139 g3 ?_
      obtain ⟨q16, h17, hs⟩ := k_bind hs
      refine e_cvi cd_136_140 kd_136_59 rfl rfl rfl rfl rfl nl_137 rfl rfl (tie_di_goOn d t0 v1 v2 v9 v7 v3 M _ h17) ?_
      refine k_if hs (fun c18 hs => ?_) (fun c18 hs => ?_)
      · refine e_izJ cd_136_143 rfl c18 ?_
        refine k_let hs (fun x19 e20 hs => ?_)
        refine e_incK cd_136_147 nl_136 rfl g9 ci_1 e20 ?_
        intro _ gn kp
        have u21 := kp 0 _ g0 rfl rfl
        have u22 := kp 1 _ g1 rfl rfl
        have u23 := kp 2 _ g2 rfl rfl
        have u24 := kp 3 _ g3 rfl rfl
        have u25 := kp 7 _ g7 rfl rfl
        have u26 := kp 8 _ g8 rfl rfl
        have u27 := gn
        refine e_goto cd_136_150 rfl ?_
        exact ih t0 v1 v2 v3 v7 v8 x19 q16.2 so _ u21 u22 u23 u24 u25 u26 u27 hs
      · refine e_izN cd_136_143 rfl c18 ?_
        have e := Option.some.inj hs
        subst e
        exact e_rv cd_136_146 nr_136
theorem tie_di_seek_109  (d : Nat)  : ∀ (fuel : Nat) (t0 : Nat) (v1 : Option Nat) (v2 : Option Nat) (v3 : Option Nat) (v6 : Int32) (v7 : Int32) (M : zM) (so : zM) (ls : List (Nat × zV)), zl_get ls 0 = some (.inr (.inr (0, (some t0)))) → zl_get ls 1 = some (.inr (.inr (5, v1))) → zl_get ls 2 = some (.inr (.inr (5, v2))) → zl_get ls 3 = some (.inr (.inr (8, v3))) → zl_get ls 6 = some (.inl v6) → zl_get ls 7 = some (.inl v7) → di_seek_109  d fuel t0 v1 v2 v3 v6 v7 M = some so → Ev zq_T (d + 1) 136 109 ls [] M (none, so) := by
  intro fuel
  induction fuel with
  | zero => intro t0 v1 v2 v3 v6 v7 M so ls g0 g1 g2 g3 g6 g7 hs; exact nomatch hs
  | succ fuel ih =>
    intro t0 v1 v2 v3 v6 v7 M so ls g0 g1 g2 g3 g6 g7 hs
    unfold di_seek_109 at hs
    refine e_ild cd_136_109 g7 ?_
    refine e_const cd_136_111 ci_4 ?_
    refine k_if hs (fun c1 hs => ?_) (fun c1 hs => ?_)
    · refine e_icJ cd_136_112 rfl c1 ?_
      have e := Option.some.inj hs
      subst e
      exact e_rv cd_136_163 nr_136
    · refine e_icN cd_136_112 rfl c1 ?_
      refine e_aldn cd_136_115 g0 ?_
      refine e_getI cd_136_116 (Or.inl fd_136_52) rfl ?_
      refine k_let hs (fun x2 e3 hs => ?_)
      refine e_iK cd_136_119 nl_136 rfl e3 ?_
      intro _ gn kp
      have u4 := kp 0 _ g0 rfl rfl
      have u5 := kp 1 _ g1 rfl rfl
      have u6 := kp 2 _ g2 rfl rfl
      have u7 := kp 3 _ g3 rfl rfl
      have u8 := kp 6 _ g6 rfl rfl
      have u9 := kp 7 _ g7 rfl rfl
      have u10 := gn
      refine e_ild cd_136_121 u8 ?_
      refine e_iK cd_136_123 nl_136 rfl rfl ?_
      intro _ gn kp
      have u11 := kp 0 _ u4 rfl rfl
      have u12 := kp 1 _ u5 rfl rfl
      have u13 := kp 2 _ u6 rfl rfl
      have u14 := kp 3 _ u7 rfl rfl
      have u15 := kp 7 _ u9 rfl rfl
      have u16 := kp 8 _ u10 rfl rfl
      have u17 := gn
      exact tie_di_seek_125 (fun p0 p1 p2 p3 p4 p5 m => di_seek_109  d fuel p0 p1 p2 p3 p4 p5 m) d ih zLF t0 v1 v2 v3 v7 x2 v6 M so _ u11 u12 u13 u14 u15 u16 u17 hs
theorem tie_di_seek_69  (d : Nat)  : ∀ (fuel : Nat) (t0 : Nat) (v1 : Option Nat) (v2 : Option Nat) (v3 : Option Nat) (v6 : Int32) (M : zM) (so : zM) (ls : List (Nat × zV)), zl_get ls 0 = some (.inr (.inr (0, (some t0)))) → zl_get ls 1 = some (.inr (.inr (5, v1))) → zl_get ls 2 = some (.inr (.inr (5, v2))) → zl_get ls 3 = some (.inr (.inr (8, v3))) → zl_get ls 6 = some (.inl v6) → di_seek_69  d fuel t0 v1 v2 v3 v6 M = some so → Ev zq_T (d + 1) 136 69 ls [] M (none, so) := by
  intro fuel
  induction fuel with
  | zero => intro t0 v1 v2 v3 v6 M so ls g0 g1 g2 g3 g6 hs; exact nomatch hs
  | succ fuel ih =>
    intro t0 v1 v2 v3 v6 M so ls g0 g1 g2 g3 g6 hs
    unfold di_seek_69 at hs
    refine e_ild cd_136_69 g6 ?_
    refine e_sip cd_136_71 cs_2048 ?_
    refine k_if hs (fun c1 hs => ?_) (fun c1 hs => ?_)
    · refine e_icJ cd_136_74 rfl c1 ?_
      refine e_aldn cd_136_91 g0 ?_
      refine e_const cd_136_92 ci_0 ?_
      refine k_let hs (fun M2 e3 hs => ?_)
      refine e_putI cd_136_93 pd_136_52 rfl e3 ?_
      refine e_aldn cd_136_96 g0 ?_
      refine e_const cd_136_97 ci_0 ?_
      refine e_const cd_136_98 ci_0 ?_
      refine e_const cd_136_99 ci_0 ?_
      obtain ⟨q4, h5, hs⟩ := k_bind hs
      refine e_cvi cd_136_100 kd_136_55 rfl rfl rfl rfl rfl nl_142 rfl rfl (tie_di_store d t0 0 0 0 M2 _ h5) ?_
      refine e_const cd_136_103 ci_0 ?_
      refine e_iK cd_136_104 nl_136 rfl rfl ?_
      intro _ gn kp
      have u6 := kp 0 _ g0 rfl rfl
      have u7 := kp 1 _ g1 rfl rfl
      have u8 := kp 2 _ g2 rfl rfl
      have u9 := kp 3 _ g3 rfl rfl
      have u10 := gn
      refine e_const cd_136_106 ci_1 ?_
      refine e_iK cd_136_107 nl_136 rfl rfl ?_
      intro _ gn kp
      have u11 := kp 0 _ u6 rfl rfl
      have u12 := kp 1 _ u7 rfl rfl
      have u13 := kp 2 _ u8 rfl rfl
      have u14 := kp 3 _ u9 rfl rfl
      have u15 := kp 6 _ u10 rfl rfl
      have u16 := gn
      exact tie_di_seek_109  d  zLF t0 v1 v2 v3 0 1 q4 so _ u11 u12 u13 u14 u15 u16 hs
    · refine e_icN cd_136_74 rfl c1 ?_
      refine e_aldn cd_136_77 g0 ?_
      refine e_getR cd_136_78 fd_136_37 rfl ?_
      refine e_ild cd_136_81 g6 ?_
      refine e_const cd_136_83 ci_m1 ?_
      refine k_opt hs (fun _ q => nomatch q) (fun k17 h18 hs => ?_)
      obtain ⟨c19, hs⟩ := z_ite hs
      refine k_let hs (fun M20 e21 hs => ?_)
      refine e_iast cd_136_84 rfl h18 c19 e21 ?_
      refine k_let hs (fun x22 e23 hs => ?_)
      refine e_incK cd_136_85 nl_136 rfl g6 ci_1 e23 ?_
      intro _ gn kp
      have u24 := kp 0 _ g0 rfl rfl
      have u25 := kp 1 _ g1 rfl rfl
      have u26 := kp 2 _ g2 rfl rfl
      have u27 := kp 3 _ g3 rfl rfl
      have u28 := gn
      refine e_goto cd_136_88 rfl ?_
      exact ih t0 v1 v2 v3 x22 M20 so _ u24 u25 u26 u27 u28 hs
theorem tie_di_seek_51  (d : Nat)  (t0 : Nat) (v1 : Option Nat) (v2 : Option Nat) (v3 : Option Nat) (v4 : Int32) (s0 : Int32) (M : zM) (so : zM) (ls : List (Nat × zV)) (g0 : zl_get ls 0 = some (.inr (.inr (0, (some t0))))) (g1 : zl_get ls 1 = some (.inr (.inr (5, v1)))) (g2 : zl_get ls 2 = some (.inr (.inr (5, v2)))) (g3 : zl_get ls 3 = some (.inr (.inr (8, v3)))) (g4 : zl_get ls 4 = some (.inl v4)) (hs : di_seek_51  d t0 v1 v2 v3 v4 s0 M = some so) : Ev zq_T (d + 1) 136 51 ls [.inl s0] M (none, so) := by
  unfold di_seek_51 at hs
  refine e_iK cd_136_51 nl_136 rfl rfl ?_
  intro _ gn kp
  have u1 := kp 0 _ g0 rfl rfl
  have u2 := kp 1 _ g1 rfl rfl
  have u3 := kp 2 _ g2 rfl rfl
  have u4 := kp 3 _ g3 rfl rfl
  have u5 := kp 4 _ g4 rfl rfl
  have u6 := gn
  refine e_ild cd_136_53 u5 ?_
  refine e_ild cd_136_55 u6 ?_
  refine k_if hs (fun c7 hs => ?_) (fun c7 hs => ?_)
  · refine e_icJ cd_136_57 rfl c7 ?_
    refine e_const cd_136_66 ci_0 ?_
    refine e_iK cd_136_67 nl_136 rfl rfl ?_
    intro _ gn kp
    have u8 := kp 0 _ u1 rfl rfl
    have u9 := kp 1 _ u2 rfl rfl
    have u10 := kp 2 _ u3 rfl rfl
    have u11 := kp 3 _ u4 rfl rfl
    have u12 := gn
    exact tie_di_seek_69  d  zLF t0 v1 v2 v3 0 M so _ u8 u9 u10 u11 u12 hs
  · refine e_icN cd_136_57 rfl c7 ?_
    refine e_aldn cd_136_60 u1 ?_
    refine e_const cd_136_61 ci_0 ?_
    refine k_let hs (fun M13 e14 hs => ?_)
    refine e_putI cd_136_62 pd_136_9 rfl e14 ?_
    have e := Option.some.inj hs
    subst e
    exact e_rv cd_136_65 nr_136
theorem tie_di_seek_50  (d : Nat)  (t0 : Nat) (v1 : Option Nat) (v2 : Option Nat) (v3 : Option Nat) (v4 : Int32) (M : zM) (so : zM) (ls : List (Nat × zV)) (g0 : zl_get ls 0 = some (.inr (.inr (0, (some t0))))) (g1 : zl_get ls 1 = some (.inr (.inr (5, v1)))) (g2 : zl_get ls 2 = some (.inr (.inr (5, v2)))) (g3 : zl_get ls 3 = some (.inr (.inr (8, v3)))) (g4 : zl_get ls 4 = some (.inl v4)) (hs : di_seek_50  d t0 v1 v2 v3 v4 M = some so) : Ev zq_T (d + 1) 136 50 ls [] M (none, so) := by
  unfold di_seek_50 at hs
  refine e_const cd_136_50 ci_0 ?_
  exact tie_di_seek_51  d  t0 v1 v2 v3 v4 0 M so _ g0 g1 g2 g3 g4 hs
theorem tie_di_seek_27  (d : Nat)  (t0 : Nat) (v1 : Option Nat) (v2 : Option Nat) (v3 : Option Nat) (s0 : Int32) (M : zM) (so : zM) (ls : List (Nat × zV)) (g0 : zl_get ls 0 = some (.inr (.inr (0, (some t0))))) (g1 : zl_get ls 1 = some (.inr (.inr (5, v1)))) (g2 : zl_get ls 2 = some (.inr (.inr (5, v2)))) (g3 : zl_get ls 3 = some (.inr (.inr (8, v3)))) (hs : di_seek_27  d t0 v1 v2 v3 s0 M = some so) : Ev zq_T (d + 1) 136 27 ls [.inl s0] M (none, so) := by
  unfold di_seek_27 at hs
  refine e_iK cd_136_27 nl_136 rfl rfl ?_
  intro _ gn kp
  have u1 := kp 0 _ g0 rfl rfl
  have u2 := kp 1 _ g1 rfl rfl
  have u3 := kp 2 _ g2 rfl rfl
  have u4 := kp 3 _ g3 rfl rfl
  have u5 := gn
  refine e_aldn cd_136_29 u3 ?_
  refine k_opt hs (fun _ q => nomatch q) (fun k6 h7 hs => ?_)
  refine e_getR cd_136_30 fd_136_40 h7 ?_
  refine k_opt hs (fun h8 hs => ?_) (fun k9 h8 hs => ?_)
  · refine e_nu0 cd_136_33 rfl h8 ?_
    exact tie_di_seek_50  d  t0 v1 v2 v3 s0 M so _ u1 u2 u3 u4 u5 hs
  · refine e_nu1 cd_136_33 rfl h8 ?_
    refine e_aldn cd_136_36 u3 ?_
    refine e_getR cd_136_37 fd_136_40 h7 ?_
    refine k_opt hs (fun _ q => nomatch q) (fun k10 h11 hs => ?_)
    refine e_getI cd_136_40 (Or.inr fd_136_46) h11 ?_
    refine k_if hs (fun c12 hs => ?_) (fun c12 hs => ?_)
    · refine e_izJ cd_136_43 rfl c12 ?_
      exact tie_di_seek_50  d  t0 v1 v2 v3 s0 M so _ u1 u2 u3 u4 u5 hs
    · refine e_izN cd_136_43 rfl c12 ?_
      refine e_const cd_136_46 ci_1 ?_
      refine e_goto cd_136_47 rfl ?_
      exact tie_di_seek_51  d  t0 v1 v2 v3 s0 1 M so _ u1 u2 u3 u4 u5 hs
theorem tie_di_seek_26  (d : Nat)  (t0 : Nat) (v1 : Option Nat) (v2 : Option Nat) (v3 : Option Nat) (M : zM) (so : zM) (ls : List (Nat × zV)) (g0 : zl_get ls 0 = some (.inr (.inr (0, (some t0))))) (g1 : zl_get ls 1 = some (.inr (.inr (5, v1)))) (g2 : zl_get ls 2 = some (.inr (.inr (5, v2)))) (g3 : zl_get ls 3 = some (.inr (.inr (8, v3)))) (hs : di_seek_26  d t0 v1 v2 v3 M = some so) : Ev zq_T (d + 1) 136 26 ls [] M (none, so) := by
  unfold di_seek_26 at hs
  refine e_const cd_136_26 ci_0 ?_
  exact tie_di_seek_27  d  t0 v1 v2 v3 0 M so _ g0 g1 g2 g3 hs
theorem tieb_di_seek  (d : Nat)  (a0 : Nat) (a1 : Option Nat) (a2 : Option Nat) (a3 : Option Nat) (M : zM) (so : zM) (hs : di_seek_b  d a0 a1 a2 a3 M = some so) : Ev zq_T (d + 1) 136 0 (zl_args 0 [.inr (.inr (0, some a0)), .inr (.inr (5, a1)), .inr (.inr (5, a2)), .inr (.inr (8, a3))]) [] M (none, so) := by
  unfold di_seek_b at hs
  have g0 : zl_get (zl_args 0 [.inr (.inr (0, some a0)), .inr (.inr (5, a1)), .inr (.inr (5, a2)), .inr (.inr (8, a3))]) 0 = some (.inr (.inr (0, (some a0)))) := rfl
  have g1 : zl_get (zl_args 0 [.inr (.inr (0, some a0)), .inr (.inr (5, a1)), .inr (.inr (5, a2)), .inr (.inr (8, a3))]) 1 = some (.inr (.inr (5, a1))) := rfl
  have g2 : zl_get (zl_args 0 [.inr (.inr (0, some a0)), .inr (.inr (5, a1)), .inr (.inr (5, a2)), .inr (.inr (8, a3))]) 2 = some (.inr (.inr (5, a2))) := rfl
  have g3 : zl_get (zl_args 0 [.inr (.inr (0, some a0)), .inr (.inr (5, a1)), .inr (.inr (5, a2)), .inr (.inr (8, a3))]) 3 = some (.inr (.inr (8, a3))) := rfl
  refine e_aldn cd_136_0 g0 ?_
  refine e_const cd_136_1 ci_m1 ?_
  refine k_let hs (fun M1 e2 hs => ?_)
  refine e_putI cd_136_2 pd_136_9 rfl e2 ?_
  refine e_aldn cd_136_5 g1 ?_
  refine k_opt hs (fun _ q => nomatch q) (fun k3 h4 hs => ?_)
  refine e_getR cd_136_6 fd_136_40 h4 ?_
  refine k_opt hs (fun h5 hs => ?_) (fun k6 h5 hs => ?_)
  · refine e_nu0 cd_136_9 rfl h5 ?_
    exact tie_di_seek_26  d  a0 a1 a2 a3 M1 so _ g0 g1 g2 g3 hs
  · refine e_nu1 cd_136_9 rfl h5 ?_
    refine e_aldn cd_136_12 g1 ?_
    refine e_getR cd_136_13 fd_136_40 h4 ?_
    refine k_opt hs (fun _ q => nomatch q) (fun k7 h8 hs => ?_)
    refine e_getI cd_136_16 (Or.inr fd_136_46) h8 ?_
    refine k_if hs (fun c9 hs => ?_) (fun c9 hs => ?_)
    · refine e_izJ cd_136_19 rfl c9 ?_
      exact tie_di_seek_26  d  a0 a1 a2 a3 M1 so _ g0 g1 g2 g3 hs
    · refine e_izN cd_136_19 rfl c9 ?_
      refine e_const cd_136_22 ci_1 ?_
      refine e_goto cd_136_23 rfl ?_
      exact tie_di_seek_27  d  a0 a1 a2 a3 1 M1 so _ g0 g1 g2 g3 hs
theorem tie_di_seek (d : Nat) (a0 : Nat) (a1 : Option Nat) (a2 : Option Nat) (a3 : Option Nat) (M : zM) (so : zM) (hs : di_seek d a0 a1 a2 a3 M = some so) : Ev zq_T d 136 0 (zl_args 0 [.inr (.inr (0, some a0)), .inr (.inr (5, a1)), .inr (.inr (5, a2)), .inr (.inr (8, a3))]) [] M (none, so) := by
  cases d with
  | zero => exact nomatch hs
  | succ d => exact tieb_di_seek d a0 a1 a2 a3 M so hs
theorem tie_do_init (d : Nat) (a0 : Nat) (M : zM) (so : zM) (hs : do_init d a0 M = some so) : Ev zq_T d 144 0 (zl_args 0 [.inr (.inr (1, some a0))]) [] M (none, so) := by
  unfold do_init at hs
  have g0 : zl_get (zl_args 0 [.inr (.inr (1, some a0))]) 0 = some (.inr (.inr (1, (some a0)))) := rfl
  refine e_aldn cd_144_0 g0 ?_
  refine e_obj cd_144_1 kd_144_3 rfl rfl ?_
  refine e_aldn cd_144_4 g0 ?_
  refine e_bip cd_144_5 cb_60 ?_
  refine k_let hs (fun M2 e3 hs => ?_)
  refine e_newa_int cd_144_7 rfl (by decide) e3 ?_
  refine k_let hs (fun M4 e5 hs => ?_)
  refine e_putR cd_144_9 pd_144_9 rfl e5 ?_
  refine e_aldn cd_144_12 g0 ?_
  refine e_bip cd_144_13 cb_60 ?_
  refine k_let hs (fun M7 e8 hs => ?_)
  refine e_newa_int cd_144_15 rfl (by decide) e8 ?_
  refine k_let hs (fun M9 e10 hs => ?_)
  refine e_putR cd_144_17 pd_144_15 rfl e10 ?_
  refine e_aldn cd_144_20 g0 ?_
  refine e_bip cd_144_21 cb_60 ?_
  refine k_let hs (fun M12 e13 hs => ?_)
  refine e_newa_int cd_144_23 rfl (by decide) e13 ?_
  refine k_let hs (fun M14 e15 hs => ?_)
  refine e_putR cd_144_25 pd_144_18 rfl e15 ?_
  refine e_aldn cd_144_28 g0 ?_
  refine e_bip cd_144_29 cb_60 ?_
  refine k_let hs (fun M17 e18 hs => ?_)
  refine e_newa_int cd_144_31 rfl (by decide) e18 ?_
  refine k_let hs (fun M19 e20 hs => ?_)
  refine e_putR cd_144_33 pd_144_21 rfl e20 ?_
  refine e_aldn cd_144_36 g0 ?_
  refine e_bip cd_144_37 cb_60 ?_
  refine k_let hs (fun M22 e23 hs => ?_)
  refine e_newa_int cd_144_39 rfl (by decide) e23 ?_
  refine k_let hs (fun M24 e25 hs => ?_)
  refine e_putR cd_144_41 pd_144_24 rfl e25 ?_
  refine e_aldn cd_144_44 g0 ?_
  refine e_bip cd_144_45 cb_60 ?_
  refine k_let hs (fun M27 e28 hs => ?_)
  refine e_newa_int cd_144_47 rfl (by decide) e28 ?_
  refine k_let hs (fun M29 e30 hs => ?_)
  refine e_putR cd_144_49 pd_144_27 rfl e30 ?_
  refine e_aldn cd_144_52 g0 ?_
  refine e_bip cd_144_53 cb_60 ?_
  refine k_let hs (fun M32 e33 hs => ?_)
  refine e_newa_int cd_144_55 rfl (by decide) e33 ?_
  refine k_let hs (fun M34 e35 hs => ?_)
  refine e_putR cd_144_57 pd_144_30 rfl e35 ?_
  refine e_aldn cd_144_60 g0 ?_
  refine e_bip cd_144_61 cb_60 ?_
  refine k_let hs (fun M37 e38 hs => ?_)
  refine e_newa_int cd_144_63 rfl (by decide) e38 ?_
  refine k_let hs (fun M39 e40 hs => ?_)
  refine e_putR cd_144_65 pd_144_33 rfl e40 ?_
  refine e_aldn cd_144_68 g0 ?_
  refine e_sip cd_144_69 cs_160 ?_
  refine k_let hs (fun M42 e43 hs => ?_)
  refine e_newa_int cd_144_72 rfl (by decide) e43 ?_
  refine k_let hs (fun M44 e45 hs => ?_)
  refine e_putR cd_144_74 pd_144_36 rfl e45 ?_
  have e := Option.some.inj hs
  subst e
  exact e_rv cd_144_77 nr_144
theorem tie_do_takeThing_53  (d : Nat)   (M : zM) (so : Int32 × zM) (ls : List (Nat × zV))  (hs : do_takeThing_53  d  M = some so) : Ev zq_T d 146 53 ls [] M (some (.inl so.1), so.2) := by
  unfold do_takeThing_53 at hs
  refine e_const cd_146_53 ci_0 ?_
  have e := Option.some.inj hs
  subst e
  exact e_rz cd_146_54 nr_146 (Or.inl rfl)
theorem tie_do_takeThing_144  (d : Nat)  (t0 : Nat) (M : zM) (so : Int32 × zM) (ls : List (Nat × zV)) (g0 : zl_get ls 0 = some (.inr (.inr (1, (some t0))))) (hs : do_takeThing_144  d t0 M = some so) : Ev zq_T d 146 144 ls [] M (some (.inl so.1), so.2) := by
  unfold do_takeThing_144 at hs
  refine e_aldn cd_146_144 g0 ?_
  refine e_aldn cd_146_145 g0 ?_
  refine e_getI cd_146_146 (Or.inl fd_146_39) rfl ?_
  refine k_let hs (fun M1 e2 hs => ?_)
  refine e_putI cd_146_149 pd_146_46 rfl e2 ?_
  refine e_aldn cd_146_152 g0 ?_
  refine e_pure cd_146_153 rfl ?_
  refine e_getI cd_146_154 (Or.inl fd_146_39) rfl ?_
  refine e_const cd_146_157 ci_1 ?_
  refine e_pure cd_146_158 rfl ?_
  refine k_let hs (fun M3 e4 hs => ?_)
  refine e_putI cd_146_159 pd_146_39 rfl e4 ?_
  refine e_aldn cd_146_162 g0 ?_
  refine e_const cd_146_163 ci_0 ?_
  refine k_let hs (fun M5 e6 hs => ?_)
  refine e_putZ cd_146_164 pd_146_49 (Or.inl rfl) rfl e6 ?_
  refine e_const cd_146_167 ci_1 ?_
  have e := Option.some.inj hs
  subst e
  exact e_rz cd_146_168 nr_146 (Or.inr rfl)
theorem tie_do_takeThing_122  (d : Nat)  (t0 : Nat) (s0 : Option Nat) (s1 : Int32) (s2 : Int32) (M : zM) (so : Int32 × zM) (ls : List (Nat × zV)) (g0 : zl_get ls 0 = some (.inr (.inr (1, (some t0))))) (hs : do_takeThing_122  d t0 s0 s1 s2 M = some so) : Ev zq_T d 146 122 ls [.inl s2, .inl s1, .inr (.inr (20, s0))] M (some (.inl so.1), so.2) := by
  unfold do_takeThing_122 at hs
  refine k_opt hs (fun _ q => nomatch q) (fun k1 h2 hs => ?_)
  obtain ⟨c3, hs⟩ := z_ite hs
  refine k_let hs (fun M4 e5 hs => ?_)
  refine e_iast cd_146_122 rfl h2 c3 e5 ?_
  refine e_aldn cd_146_123 g0 ?_
  refine e_getI cd_146_124 (Or.inl fd_146_43) rfl ?_
  refine e_const cd_146_127 ci_m1 ?_
  refine k_if hs (fun c6 hs => ?_) (fun c6 hs => ?_)
  · refine e_icJ cd_146_128 rfl c6 ?_
    exact tie_do_takeThing_144  d  t0 M4 so _ g0 hs
  · refine e_icN cd_146_128 rfl c6 ?_
    refine e_aldn cd_146_131 g0 ?_
    refine e_getR cd_146_132 fd_146_18 rfl ?_
    refine e_aldn cd_146_135 g0 ?_
    refine e_getI cd_146_136 (Or.inl fd_146_43) rfl ?_
    refine e_pure cd_146_139 rfl ?_
    refine k_opt hs (fun _ q => nomatch q) (fun k7 h8 hs => ?_)
    obtain ⟨c9, hs⟩ := z_ite hs
    refine e_iald cd_146_140 rfl h8 c9 ?_
    refine e_const cd_146_141 ci_1 ?_
    refine e_pure cd_146_142 rfl ?_
    obtain ⟨c10, hs⟩ := z_ite hs
    refine k_let hs (fun M11 e12 hs => ?_)
    refine e_iast cd_146_143 rfl h8 c10 e12 ?_
    exact tie_do_takeThing_144  d  t0 M11 so _ g0 hs
theorem tie_do_takeThing_36  (d : Nat)  (t0 : Nat) (v1 : Int32) (s0 : Int32) (M : zM) (so : Int32 × zM) (ls : List (Nat × zV)) (g0 : zl_get ls 0 = some (.inr (.inr (1, (some t0))))) (g1 : zl_get ls 1 = some (.inl v1)) (hs : do_takeThing_36  d t0 v1 s0 M = some so) : Ev zq_T d 146 36 ls [.inl s0] M (some (.inl so.1), so.2) := by
  unfold do_takeThing_36 at hs
  refine e_iKn cd_146_36 nl_146 rfl rfl ?_
  intro _ gn kp
  have u1 := kp 0 _ g0 rfl rfl
  have u2 := kp 1 _ g1 rfl rfl
  have u3 := gn
  refine e_ildn cd_146_37 u2 ?_
  refine e_bip cd_146_38 cb_97 ?_
  refine k_if hs (fun c4 hs => ?_) (fun c4 hs => ?_)
  · refine e_icJ cd_146_40 rfl c4 ?_
    exact tie_do_takeThing_53  d   M so _  hs
  · refine e_icN cd_146_40 rfl c4 ?_
    refine e_ildn cd_146_43 u2 ?_
    refine e_bip cd_146_44 cb_122 ?_
    refine k_if hs (fun c5 hs => ?_) (fun c5 hs => ?_)
    · refine e_icJ cd_146_46 rfl c5 ?_
      exact tie_do_takeThing_53  d   M so _  hs
    · refine e_icN cd_146_46 rfl c5 ?_
      refine e_ildn cd_146_49 u3 ?_
      refine k_if hs (fun c6 hs => ?_) (fun c6 hs => ?_)
      · refine e_izJ cd_146_50 rfl c6 ?_
        refine e_aldn cd_146_55 u1 ?_
        refine e_getR cd_146_56 fd_146_9 rfl ?_
        refine e_aldn cd_146_59 u1 ?_
        refine e_getI cd_146_60 (Or.inl fd_146_39) rfl ?_
        refine e_ildn cd_146_63 u2 ?_
        refine e_bip cd_146_64 cb_97 ?_
        refine e_pure cd_146_66 rfl ?_
        refine k_opt hs (fun _ q => nomatch q) (fun k7 h8 hs => ?_)
        obtain ⟨c9, hs⟩ := z_ite hs
        refine k_let hs (fun M10 e11 hs => ?_)
        refine e_iast cd_146_67 rfl h8 c9 e11 ?_
        refine e_aldn cd_146_68 u1 ?_
        refine e_getR cd_146_69 fd_146_15 rfl ?_
        refine e_aldn cd_146_72 u1 ?_
        refine e_getI cd_146_73 (Or.inl fd_146_39) rfl ?_
        refine e_aldn cd_146_76 u1 ?_
        refine e_getI cd_146_77 (Or.inl fd_146_43) rfl ?_
        refine k_opt hs (fun _ q => nomatch q) (fun k12 h13 hs => ?_)
        obtain ⟨c14, hs⟩ := z_ite hs
        refine k_let hs (fun M15 e16 hs => ?_)
        refine e_iast cd_146_80 rfl h13 c14 e16 ?_
        refine e_aldn cd_146_81 u1 ?_
        refine e_getR cd_146_82 fd_146_18 rfl ?_
        refine e_aldn cd_146_85 u1 ?_
        refine e_getI cd_146_86 (Or.inl fd_146_39) rfl ?_
        refine e_const cd_146_89 ci_0 ?_
        refine k_opt hs (fun _ q => nomatch q) (fun k17 h18 hs => ?_)
        obtain ⟨c19, hs⟩ := z_ite hs
        refine k_let hs (fun M20 e21 hs => ?_)
        refine e_iast cd_146_90 rfl h18 c19 e21 ?_
        refine e_aldn cd_146_91 u1 ?_
        refine e_getR cd_146_92 fd_146_21 rfl ?_
        refine e_aldn cd_146_95 u1 ?_
        refine e_getI cd_146_96 (Or.inl fd_146_39) rfl ?_
        refine e_aldn cd_146_99 u1 ?_
        refine e_getI cd_146_100 (Or.inl fd_146_43) rfl ?_
        refine e_const cd_146_103 ci_m1 ?_
        refine k_if hs (fun c22 hs => ?_) (fun c22 hs => ?_)
        · refine e_icN cd_146_104 rfl (fun q => q c22) ?_
          refine e_const cd_146_107 ci_0 ?_
          refine e_goto cd_146_108 rfl ?_
          exact tie_do_takeThing_122  d  t0 (zm_R M20 1 t0 4) (zm_I M20 1 t0 0) 0 M20 so _ u1 hs
        · refine e_icJ cd_146_104 rfl c22 ?_
          refine e_aldn cd_146_111 u1 ?_
          refine e_getR cd_146_112 fd_146_21 rfl ?_
          refine e_aldn cd_146_115 u1 ?_
          refine e_getI cd_146_116 (Or.inl fd_146_43) rfl ?_
          refine k_opt hs (fun _ q => nomatch q) (fun k23 h24 hs => ?_)
          obtain ⟨c25, hs⟩ := z_ite hs
          refine e_iald cd_146_119 rfl h24 c25 ?_
          refine e_const cd_146_120 ci_1 ?_
          refine e_pure cd_146_121 rfl ?_
          exact tie_do_takeThing_122  d  t0 (zm_R M20 1 t0 4) (zm_I M20 1 t0 0) ((zm_I M20 20 k23 (zm_I M20 1 t0 11).toNatClampNeg) + 1) M20 so _ u1 hs
      · refine e_izN cd_146_50 rfl c6 ?_
        exact tie_do_takeThing_53  d   M so _  hs
theorem tie_do_takeThing_31  (d : Nat)  (t0 : Nat) (v1 : Int32) (M : zM) (so : Int32 × zM) (ls : List (Nat × zV)) (g0 : zl_get ls 0 = some (.inr (.inr (1, (some t0))))) (g1 : zl_get ls 1 = some (.inl v1)) (hs : do_takeThing_31  d t0 v1 M = some so) : Ev zq_T d 146 31 ls [] M (some (.inl so.1), so.2) := by
  unfold do_takeThing_31 at hs
  refine e_const cd_146_31 ci_1 ?_
  refine e_goto cd_146_32 rfl ?_
  exact tie_do_takeThing_36  d  t0 v1 1 M so _ g0 g1 hs
theorem tie_do_takeThing_35  (d : Nat)  (t0 : Nat) (v1 : Int32) (M : zM) (so : Int32 × zM) (ls : List (Nat × zV)) (g0 : zl_get ls 0 = some (.inr (.inr (1, (some t0))))) (g1 : zl_get ls 1 = some (.inl v1)) (hs : do_takeThing_35  d t0 v1 M = some so) : Ev zq_T d 146 35 ls [] M (some (.inl so.1), so.2) := by
  unfold do_takeThing_35 at hs
  refine e_const cd_146_35 ci_0 ?_
  exact tie_do_takeThing_36  d  t0 v1 0 M so _ g0 g1 hs
theorem tie_do_takeThing (d : Nat) (a0 : Nat) (a1 : Int32) (M : zM) (so : Int32 × zM) (hs : do_takeThing d a0 a1 M = some so) : Ev zq_T d 146 0 (zl_args 0 [.inr (.inr (1, some a0)), .inl a1]) [] M (some (.inl so.1), so.2) := by
  unfold do_takeThing at hs
  have g0 : zl_get (zl_args 0 [.inr (.inr (1, some a0)), .inl a1]) 0 = some (.inr (.inr (1, (some a0)))) := rfl
  have g1 : zl_get (zl_args 0 [.inr (.inr (1, some a0)), .inl a1]) 1 = some (.inl a1) := rfl
  refine e_aldn cd_146_0 g0 ?_
  refine e_getI cd_146_1 (Or.inl fd_146_39) rfl ?_
  refine e_bip cd_146_4 cb_60 ?_
  refine k_if hs (fun c1 hs => ?_) (fun c1 hs => ?_)
  · refine e_icJ cd_146_6 rfl c1 ?_
    exact tie_do_takeThing_31  d  a0 a1 M so _ g0 g1 hs
  · refine e_icN cd_146_6 rfl c1 ?_
    refine e_aldn cd_146_9 g0 ?_
    refine e_getI cd_146_10 (Or.inl fd_146_43) rfl ?_
    refine e_const cd_146_13 ci_m1 ?_
    refine k_if hs (fun c2 hs => ?_) (fun c2 hs => ?_)
    · refine e_icJ cd_146_14 rfl c2 ?_
      exact tie_do_takeThing_35  d  a0 a1 M so _ g0 g1 hs
    · refine e_icN cd_146_14 rfl c2 ?_
      refine e_aldn cd_146_17 g0 ?_
      refine e_getR cd_146_18 fd_146_18 rfl ?_
      refine e_aldn cd_146_21 g0 ?_
      refine e_getI cd_146_22 (Or.inl fd_146_43) rfl ?_
      refine k_opt hs (fun _ q => nomatch q) (fun k3 h4 hs => ?_)
      obtain ⟨c5, hs⟩ := z_ite hs
      refine e_iald cd_146_25 rfl h4 c5 ?_
      refine e_bip cd_146_26 cb_24 ?_
      refine k_if hs (fun c6 hs => ?_) (fun c6 hs => ?_)
      · refine e_icJ cd_146_28 rfl c6 ?_
        exact tie_do_takeThing_35  d  a0 a1 M so _ g0 g1 hs
      · refine e_icN cd_146_28 rfl c6 ?_
        exact tie_do_takeThing_31  d  a0 a1 M so _ g0 g1 hs
theorem tie_do_takeSign_65  (d : Nat)   (M : zM) (so : Int32 × zM) (ls : List (Nat × zV))  (hs : do_takeSign_65  d  M = some so) : Ev zq_T d 147 65 ls [] M (some (.inl so.1), so.2) := by
  unfold do_takeSign_65 at hs
  refine e_const cd_147_65 ci_0 ?_
  have e := Option.some.inj hs
  subst e
  exact e_rz cd_147_66 nr_147 (Or.inl rfl)
theorem tie_do_takeSign_99  (d : Nat)   (M : zM) (so : Int32 × zM) (ls : List (Nat × zV))  (hs : do_takeSign_99  d  M = some so) : Ev zq_T d 147 99 ls [] M (some (.inl so.1), so.2) := by
  unfold do_takeSign_99 at hs
  refine e_const cd_147_99 ci_1 ?_
  have e := Option.some.inj hs
  subst e
  exact e_rz cd_147_100 nr_147 (Or.inr rfl)
theorem tie_do_takeSign_67  (d : Nat)  (t0 : Nat) (v1 : Int32) (M : zM) (so : Int32 × zM) (ls : List (Nat × zV)) (g0 : zl_get ls 0 = some (.inr (.inr (1, (some t0))))) (g1 : zl_get ls 1 = some (.inl v1)) (hs : do_takeSign_67  d t0 v1 M = some so) : Ev zq_T d 147 67 ls [] M (some (.inl so.1), so.2) := by
  unfold do_takeSign_67 at hs
  refine e_ildn cd_147_67 g1 ?_
  refine e_bip cd_147_68 cb_44 ?_
  refine k_if hs (fun c1 hs => ?_) (fun c1 hs => ?_)
  · refine e_icN cd_147_70 rfl (fun q => q c1) ?_
    refine e_aldn cd_147_73 g0 ?_
    refine e_const cd_147_74 ci_1 ?_
    refine k_let hs (fun M2 e3 hs => ?_)
    refine e_putZ cd_147_75 pd_147_49 (Or.inr rfl) rfl e3 ?_
    refine e_goto cd_147_78 rfl ?_
    exact tie_do_takeSign_99  d   M2 so _  hs
  · refine e_icJ cd_147_70 rfl c1 ?_
    refine e_aldn cd_147_81 g0 ?_
    refine e_const cd_147_82 ci_m1 ?_
    refine k_let hs (fun M4 e5 hs => ?_)
    refine e_putI cd_147_83 pd_147_46 rfl e5 ?_
    refine e_aldn cd_147_86 g0 ?_
    refine e_aldn cd_147_87 g0 ?_
    refine e_getR cd_147_88 fd_147_15 rfl ?_
    refine e_aldn cd_147_91 g0 ?_
    refine e_getI cd_147_92 (Or.inl fd_147_43) rfl ?_
    refine k_opt hs (fun _ q => nomatch q) (fun k6 h7 hs => ?_)
    obtain ⟨c8, hs⟩ := z_ite hs
    refine e_iald cd_147_95 rfl h7 c8 ?_
    refine k_let hs (fun M9 e10 hs => ?_)
    refine e_putI cd_147_96 pd_147_43 rfl e10 ?_
    exact tie_do_takeSign_99  d   M9 so _  hs
theorem tie_do_takeSign_45  (d : Nat)  (t0 : Nat) (v1 : Int32) (M : zM) (so : Int32 × zM) (ls : List (Nat × zV)) (g0 : zl_get ls 0 = some (.inr (.inr (1, (some t0))))) (g1 : zl_get ls 1 = some (.inl v1)) (hs : do_takeSign_45  d t0 v1 M = some so) : Ev zq_T d 147 45 ls [] M (some (.inl so.1), so.2) := by
  unfold do_takeSign_45 at hs
  refine e_aldn cd_147_45 g0 ?_
  refine e_getI cd_147_46 (Or.inl fd_147_43) rfl ?_
  refine e_const cd_147_49 ci_m1 ?_
  refine k_if hs (fun c1 hs => ?_) (fun c1 hs => ?_)
  · refine e_icJ cd_147_50 rfl c1 ?_
    exact tie_do_takeSign_65  d   M so _  hs
  · refine e_icN cd_147_50 rfl c1 ?_
    refine e_ildn cd_147_53 g1 ?_
    refine e_bip cd_147_54 cb_44 ?_
    refine k_if hs (fun c2 hs => ?_) (fun c2 hs => ?_)
    · refine e_icJ cd_147_56 rfl c2 ?_
      exact tie_do_takeSign_67  d  t0 v1 M so _ g0 g1 hs
    · refine e_icN cd_147_56 rfl c2 ?_
      refine e_ildn cd_147_59 g1 ?_
      refine e_bip cd_147_60 cb_41 ?_
      refine k_if hs (fun c3 hs => ?_) (fun c3 hs => ?_)
      · refine e_icJ cd_147_62 rfl c3 ?_
        exact tie_do_takeSign_67  d  t0 v1 M so _ g0 g1 hs
      · refine e_icN cd_147_62 rfl c3 ?_
        exact tie_do_takeSign_65  d   M so _  hs
theorem tie_do_takeSign (d : Nat) (a0 : Nat) (a1 : Int32) (M : zM) (so : Int32 × zM) (hs : do_takeSign d a0 a1 M = some so) : Ev zq_T d 147 0 (zl_args 0 [.inr (.inr (1, some a0)), .inl a1]) [] M (some (.inl so.1), so.2) := by
  unfold do_takeSign at hs
  have g0 : zl_get (zl_args 0 [.inr (.inr (1, some a0)), .inl a1]) 0 = some (.inr (.inr (1, (some a0)))) := rfl
  have g1 : zl_get (zl_args 0 [.inr (.inr (1, some a0)), .inl a1]) 1 = some (.inl a1) := rfl
  refine e_ildn cd_147_0 g1 ?_
  refine e_bip cd_147_1 cb_40 ?_
  refine k_if hs (fun c1 hs => ?_) (fun c1 hs => ?_)
  · refine e_icN cd_147_3 rfl (fun q => q c1) ?_
    refine e_aldn cd_147_6 g0 ?_
    refine e_getI cd_147_7 (Or.inl fd_147_46) rfl ?_
    refine e_const cd_147_10 ci_m1 ?_
    refine k_if hs (fun c2 hs => ?_) (fun c2 hs => ?_)
    · refine e_icJ cd_147_11 rfl c2 ?_
      exact tie_do_takeSign_45  d  a0 a1 M so _ g0 g1 hs
    · refine e_icN cd_147_11 rfl c2 ?_
      refine e_aldn cd_147_14 g0 ?_
      refine e_getR cd_147_15 fd_147_21 rfl ?_
      refine e_aldn cd_147_18 g0 ?_
      refine e_getI cd_147_19 (Or.inl fd_147_46) rfl ?_
      refine k_opt hs (fun _ q => nomatch q) (fun k3 h4 hs => ?_)
      obtain ⟨c5, hs⟩ := z_ite hs
      refine e_iald cd_147_22 rfl h4 c5 ?_
      refine e_const cd_147_23 ci_1 ?_
      refine e_pure cd_147_24 rfl ?_
      refine e_bip cd_147_25 cbb_8 ?_
      refine k_if hs (fun c6 hs => ?_) (fun c6 hs => ?_)
      · refine e_icJ cd_147_27 rfl c6 ?_
        exact tie_do_takeSign_45  d  a0 a1 M so _ g0 g1 hs
      · refine e_icN cd_147_27 rfl c6 ?_
        refine e_aldn cd_147_30 g0 ?_
        refine e_aldn cd_147_31 g0 ?_
        refine e_getI cd_147_32 (Or.inl fd_147_46) rfl ?_
        refine k_let hs (fun M7 e8 hs => ?_)
        refine e_putI cd_147_35 pd_147_43 rfl e8 ?_
        refine e_aldn cd_147_38 g0 ?_
        refine e_const cd_147_39 ci_1 ?_
        refine k_let hs (fun M9 e10 hs => ?_)
        refine e_putZ cd_147_40 pd_147_49 (Or.inr rfl) rfl e10 ?_
        refine e_const cd_147_43 ci_1 ?_
        have e := Option.some.inj hs
        subst e
        exact e_rz cd_147_44 nr_147 (Or.inr rfl)
  · refine e_icJ cd_147_3 rfl c1 ?_
    exact tie_do_takeSign_45  d  a0 a1 M so _ g0 g1 hs
theorem tie_do_parse_70 (kl22 : Nat → Option Nat → Int32 → Int32 → zM → Option (Int32 × zM)) (d : Nat) (hk22 : ∀ (t0 : Nat) (v1 : Option Nat) (v2 : Int32) (v3 : Int32) (M : zM) (so : Int32 × zM) (ls : List (Nat × zV)), zl_get ls 0 = some (.inr (.inr (1, (some t0)))) → zl_get ls 1 = some (.inr (.inr (20, v1))) → zl_get ls 2 = some (.inl v2) → zl_get ls 3 = some (.inl v3) → kl22 t0 v1 v2 v3 M = some so → Ev zq_T (d + 1) 145 22 ls [] M (some (.inl so.1), so.2)) (t0 : Nat) (v1 : Option Nat) (v2 : Int32) (v3 : Int32) (s0 : Int32) (M : zM) (so : Int32 × zM) (ls : List (Nat × zV)) (g0 : zl_get ls 0 = some (.inr (.inr (1, (some t0))))) (g1 : zl_get ls 1 = some (.inr (.inr (20, v1)))) (g2 : zl_get ls 2 = some (.inl v2)) (g3 : zl_get ls 3 = some (.inl v3)) (hs : do_parse_70 kl22 d t0 v1 v2 v3 s0 M = some so) : Ev zq_T (d + 1) 145 70 ls [.inl s0] M (some (.inl so.1), so.2) := by
  unfold do_parse_70 at hs
  refine e_iK cd_145_70 nl_145 rfl rfl ?_
  intro _ gn kp
  have u1 := kp 0 _ g0 rfl rfl
  have u2 := kp 1 _ g1 rfl rfl
  have u3 := kp 2 _ g2 rfl rfl
  have u4 := kp 3 _ g3 rfl rfl
  have u5 := gn
  refine e_ild cd_145_72 u5 ?_
  refine k_if hs (fun c6 hs => ?_) (fun c6 hs => ?_)
  · refine e_izN cd_145_74 rfl (fun q => q c6) ?_
    refine e_ildn cd_145_77 u4 ?_
    have e := Option.some.inj hs
    subst e
    exact e_ri cd_145_78 nr_145
  · refine e_izJ cd_145_74 rfl c6 ?_
    refine k_let hs (fun x7 e8 hs => ?_)
    refine e_incK cd_145_79 nl_145 rfl u4 ci_1 e8 ?_
    intro _ gn kp
    have u9 := kp 0 _ u1 rfl rfl
    have u10 := kp 1 _ u2 rfl rfl
    have u11 := kp 2 _ u3 rfl rfl
    have u12 := gn
    refine e_goto cd_145_82 rfl ?_
    exact hk22 t0 v1 v2 x7 M so _ u9 u10 u11 u12 hs
theorem tie_do_parse_65 (kl22 : Nat → Option Nat → Int32 → Int32 → zM → Option (Int32 × zM)) (d : Nat) (hk22 : ∀ (t0 : Nat) (v1 : Option Nat) (v2 : Int32) (v3 : Int32) (M : zM) (so : Int32 × zM) (ls : List (Nat × zV)), zl_get ls 0 = some (.inr (.inr (1, (some t0)))) → zl_get ls 1 = some (.inr (.inr (20, v1))) → zl_get ls 2 = some (.inl v2) → zl_get ls 3 = some (.inl v3) → kl22 t0 v1 v2 v3 M = some so → Ev zq_T (d + 1) 145 22 ls [] M (some (.inl so.1), so.2)) (t0 : Nat) (v1 : Option Nat) (v2 : Int32) (v3 : Int32) (M : zM) (so : Int32 × zM) (ls : List (Nat × zV)) (g0 : zl_get ls 0 = some (.inr (.inr (1, (some t0))))) (g1 : zl_get ls 1 = some (.inr (.inr (20, v1)))) (g2 : zl_get ls 2 = some (.inl v2)) (g3 : zl_get ls 3 = some (.inl v3)) (hs : do_parse_65 kl22 d t0 v1 v2 v3 M = some so) : Ev zq_T (d + 1) 145 65 ls [] M (some (.inl so.1), so.2) := by
  unfold do_parse_65 at hs
  refine e_const cd_145_65 ci_1 ?_
  refine e_goto cd_145_66 rfl ?_
  exact tie_do_parse_70 kl22 d hk22 t0 v1 v2 v3 1 M so _ g0 g1 g2 g3 hs
theorem tie_do_parse_69 (kl22 : Nat → Option Nat → Int32 → Int32 → zM → Option (Int32 × zM)) (d : Nat) (hk22 : ∀ (t0 : Nat) (v1 : Option Nat) (v2 : Int32) (v3 : Int32) (M : zM) (so : Int32 × zM) (ls : List (Nat × zV)), zl_get ls 0 = some (.inr (.inr (1, (some t0)))) → zl_get ls 1 = some (.inr (.inr (20, v1))) → zl_get ls 2 = some (.inl v2) → zl_get ls 3 = some (.inl v3) → kl22 t0 v1 v2 v3 M = some so → Ev zq_T (d + 1) 145 22 ls [] M (some (.inl so.1), so.2)) (t0 : Nat) (v1 : Option Nat) (v2 : Int32) (v3 : Int32) (M : zM) (so : Int32 × zM) (ls : List (Nat × zV)) (g0 : zl_get ls 0 = some (.inr (.inr (1, (some t0))))) (g1 : zl_get ls 1 = some (.inr (.inr (20, v1)))) (g2 : zl_get ls 2 = some (.inl v2)) (g3 : zl_get ls 3 = some (.inl v3)) (hs : do_parse_69 kl22 d t0 v1 v2 v3 M = some so) : Ev zq_T (d + 1) 145 69 ls [] M (some (.inl so.1), so.2) := by
  unfold do_parse_69 at hs
  refine e_const cd_145_69 ci_0 ?_
  exact tie_do_parse_70 kl22 d hk22 t0 v1 v2 v3 0 M so _ g0 g1 g2 g3 hs
theorem tie_do_parse_105  (d : Nat)  (s0 : Int32) (M : zM) (so : Int32 × zM) (ls : List (Nat × zV))  (hs : do_parse_105  d s0 M = some so) : Ev zq_T (d + 1) 145 105 ls [.inl s0] M (some (.inl so.1), so.2) := by
  unfold do_parse_105 at hs
  have e := Option.some.inj hs
  subst e
  exact e_ri cd_145_105 nr_145
theorem tie_do_parse_100  (d : Nat)  (v2 : Int32) (M : zM) (so : Int32 × zM) (ls : List (Nat × zV)) (g2 : zl_get ls 2 = some (.inl v2)) (hs : do_parse_100  d v2 M = some so) : Ev zq_T (d + 1) 145 100 ls [] M (some (.inl so.1), so.2) := by
  unfold do_parse_100 at hs
  refine e_ildn cd_145_100 g2 ?_
  refine e_goto cd_145_101 rfl ?_
  exact tie_do_parse_105  d  v2 M so _  hs
theorem tie_do_parse_22  (d : Nat)  : ∀ (fuel : Nat) (t0 : Nat) (v1 : Option Nat) (v2 : Int32) (v3 : Int32) (M : zM) (so : Int32 × zM) (ls : List (Nat × zV)), zl_get ls 0 = some (.inr (.inr (1, (some t0)))) → zl_get ls 1 = some (.inr (.inr (20, v1))) → zl_get ls 2 = some (.inl v2) → zl_get ls 3 = some (.inl v3) → do_parse_22  d fuel t0 v1 v2 v3 M = some so → Ev zq_T (d + 1) 145 22 ls [] M (some (.inl so.1), so.2) := by
  intro fuel
  induction fuel with
  | zero => intro t0 v1 v2 v3 M so ls g0 g1 g2 g3 hs; exact nomatch hs
  | succ fuel ih =>
    intro t0 v1 v2 v3 M so ls g0 g1 g2 g3 hs
    unfold do_parse_22 at hs
    refine e_ildn cd_145_22 g3 ?_
    refine e_ildn cd_145_23 g2 ?_
    refine k_if hs (fun c1 hs => ?_) (fun c1 hs => ?_)
    · refine e_icJ cd_145_24 rfl c1 ?_
      refine e_aldn cd_145_85 g0 ?_
      refine e_getI cd_145_86 (Or.inr fd_145_49) rfl ?_
      refine k_if hs (fun c2 hs => ?_) (fun c2 hs => ?_)
      · refine e_izN cd_145_89 rfl (fun q => q c2) ?_
        refine e_aldn cd_145_92 g0 ?_
        refine e_getI cd_145_93 (Or.inl fd_145_43) rfl ?_
        refine e_const cd_145_96 ci_m1 ?_
        refine k_if hs (fun c3 hs => ?_) (fun c3 hs => ?_)
        · refine e_icJ cd_145_97 rfl c3 ?_
          refine e_const cd_145_104 ci_m1 ?_
          exact tie_do_parse_105  d  (-1) M so _  hs
        · refine e_icN cd_145_97 rfl c3 ?_
          exact tie_do_parse_100  d  v2 M so _ g2 hs
      · refine e_izJ cd_145_89 rfl c2 ?_
        exact tie_do_parse_100  d  v2 M so _ g2 hs
    · refine e_icN cd_145_24 rfl c1 ?_
      refine e_aldn cd_145_27 g1 ?_
      refine e_ildn cd_145_28 g3 ?_
      refine k_opt hs (fun _ q => nomatch q) (fun k4 h5 hs => ?_)
      obtain ⟨c6, hs⟩ := z_ite hs
      refine e_iald cd_145_29 rfl h5 c6 ?_
      refine e_bip cd_145_30 cb_32 ?_
      refine k_if hs (fun c7 hs => ?_) (fun c7 hs => ?_)
      · refine e_icJ cd_145_32 rfl c7 ?_
        exact tie_do_parse_65 (fun p0 p1 p2 p3 m => do_parse_22  d fuel p0 p1 p2 p3 m) d ih t0 v1 v2 v3 M so _ g0 g1 g2 g3 hs
      · refine e_icN cd_145_32 rfl c7 ?_
        refine e_aldn cd_145_35 g0 ?_
        refine e_getI cd_145_36 (Or.inr fd_145_49) rfl ?_
        refine k_if hs (fun c8 hs => ?_) (fun c8 hs => ?_)
        · refine e_izJ cd_145_39 rfl c8 ?_
          refine e_aldn cd_145_55 g0 ?_
          refine e_aldn cd_145_56 g1 ?_
          refine e_ildn cd_145_57 g3 ?_
          obtain ⟨c9, hs⟩ := z_ite hs
          refine e_iald cd_145_58 rfl h5 c9 ?_
          obtain ⟨q10, h11, hs⟩ := k_bind hs
          refine e_cvi cd_145_59 kd_145_57 rfl rfl rfl rfl rfl nl_147 rfl rfl (tie_do_takeSign d t0 (zm_I M 20 k4 (v3 : Int32).toNatClampNeg) M _ h11) ?_
          refine k_if hs (fun c12 hs => ?_) (fun c12 hs => ?_)
          · refine e_izJ cd_145_62 rfl c12 ?_
            exact tie_do_parse_69 (fun p0 p1 p2 p3 m => do_parse_22  d fuel p0 p1 p2 p3 m) d ih t0 v1 v2 v3 q10.2 so _ g0 g1 g2 g3 hs
          · refine e_izN cd_145_62 rfl c12 ?_
            exact tie_do_parse_65 (fun p0 p1 p2 p3 m => do_parse_22  d fuel p0 p1 p2 p3 m) d ih t0 v1 v2 v3 q10.2 so _ g0 g1 g2 g3 hs
        · refine e_izN cd_145_39 rfl c8 ?_
          refine e_aldn cd_145_42 g0 ?_
          refine e_aldn cd_145_43 g1 ?_
          refine e_ildn cd_145_44 g3 ?_
          obtain ⟨c13, hs⟩ := z_ite hs
          refine e_iald cd_145_45 rfl h5 c13 ?_
          obtain ⟨q14, h15, hs⟩ := k_bind hs
          refine e_cvi cd_145_46 kd_145_53 rfl rfl rfl rfl rfl nl_146 rfl rfl (tie_do_takeThing d t0 (zm_I M 20 k4 (v3 : Int32).toNatClampNeg) M _ h15) ?_
          refine k_if hs (fun c16 hs => ?_) (fun c16 hs => ?_)
          · refine e_izJ cd_145_49 rfl c16 ?_
            exact tie_do_parse_69 (fun p0 p1 p2 p3 m => do_parse_22  d fuel p0 p1 p2 p3 m) d ih t0 v1 v2 v3 q14.2 so _ g0 g1 g2 g3 hs
          · refine e_izN cd_145_49 rfl c16 ?_
            refine e_goto cd_145_52 rfl ?_
            exact tie_do_parse_65 (fun p0 p1 p2 p3 m => do_parse_22  d fuel p0 p1 p2 p3 m) d ih t0 v1 v2 v3 q14.2 so _ g0 g1 g2 g3 hs
theorem tieb_do_parse  (d : Nat)  (a0 : Nat) (a1 : Option Nat) (a2 : Int32) (M : zM) (so : Int32 × zM) (hs : do_parse_b  d a0 a1 a2 M = some so) : Ev zq_T (d + 1) 145 0 (zl_args 0 [.inr (.inr (1, some a0)), .inr (.inr (20, a1)), .inl a2]) [] M (some (.inl so.1), so.2) := by
  unfold do_parse_b at hs
  have g0 : zl_get (zl_args 0 [.inr (.inr (1, some a0)), .inr (.inr (20, a1)), .inl a2]) 0 = some (.inr (.inr (1, (some a0)))) := rfl
  have g1 : zl_get (zl_args 0 [.inr (.inr (1, some a0)), .inr (.inr (20, a1)), .inl a2]) 1 = some (.inr (.inr (20, a1))) := rfl
  have g2 : zl_get (zl_args 0 [.inr (.inr (1, some a0)), .inr (.inr (20, a1)), .inl a2]) 2 = some (.inl a2) := rfl
  refine e_aldn cd_145_0 g0 ?_
  refine e_const cd_145_1 ci_0 ?_
  refine k_let hs (fun M1 e2 hs => ?_)
  refine e_putI cd_145_2 pd_145_39 rfl e2 ?_
  refine e_aldn cd_145_5 g0 ?_
  refine e_const cd_145_6 ci_m1 ?_
  refine k_let hs (fun M3 e4 hs => ?_)
  refine e_putI cd_145_7 pd_145_43 rfl e4 ?_
  refine e_aldn cd_145_10 g0 ?_
  refine e_const cd_145_11 ci_m1 ?_
  refine k_let hs (fun M5 e6 hs => ?_)
  refine e_putI cd_145_12 pd_145_46 rfl e6 ?_
  refine e_aldn cd_145_15 g0 ?_
  refine e_const cd_145_16 ci_1 ?_
  refine k_let hs (fun M7 e8 hs => ?_)
  refine e_putZ cd_145_17 pd_145_49 (Or.inr rfl) rfl e8 ?_
  refine e_const cd_145_20 ci_0 ?_
  refine e_iKn cd_145_21 nl_145 rfl rfl ?_
  intro _ gn kp
  have u9 := kp 0 _ g0 rfl rfl
  have u10 := kp 1 _ g1 rfl rfl
  have u11 := kp 2 _ g2 rfl rfl
  have u12 := gn
  exact tie_do_parse_22  d  zLF a0 a1 a2 0 M7 so _ u9 u10 u11 u12 hs
theorem tie_do_parse (d : Nat) (a0 : Nat) (a1 : Option Nat) (a2 : Int32) (M : zM) (so : Int32 × zM) (hs : do_parse d a0 a1 a2 M = some so) : Ev zq_T d 145 0 (zl_args 0 [.inr (.inr (1, some a0)), .inr (.inr (20, a1)), .inl a2]) [] M (some (.inl so.1), so.2) := by
  cases d with
  | zero => exact nomatch hs
  | succ d => exact tieb_do_parse d a0 a1 a2 M so hs
theorem tie_cr_bit_9  (d : Nat)  (s0 : Int32) (M : zM) (so : Int32 × zM) (ls : List (Nat × zV))  (hs : cr_bit_9  d s0 M = some so) : Ev zq_T d 292 9 ls [.inl s0] M (some (.inl so.1), so.2) := by
  unfold cr_bit_9 at hs
  have e := Option.some.inj hs
  subst e
  exact e_ri cd_292_9 nr_292
theorem tie_cr_bit (d : Nat) (a0 : Int32) (M : zM) (so : Int32 × zM) (hs : cr_bit d a0 M = some so) : Ev zq_T d 292 0 (zl_args 0 [.inl a0]) [] M (some (.inl so.1), so.2) := by
  unfold cr_bit at hs
  have g0 : zl_get (zl_args 0 [.inl a0]) 0 = some (.inl a0) := rfl
  refine e_ildn cd_292_0 g0 ?_
  refine k_if hs (fun c1 hs => ?_) (fun c1 hs => ?_)
  · refine e_izJ cd_292_1 rfl c1 ?_
    refine e_const cd_292_8 ci_0 ?_
    exact tie_cr_bit_9  d  0 M so _  hs
  · refine e_izN cd_292_1 rfl c1 ?_
    refine e_const cd_292_4 ci_1 ?_
    refine e_goto cd_292_5 rfl ?_
    exact tie_cr_bit_9  d  1 M so _  hs
theorem tie_do_judge_64  (d : Nat)  (s0 : Option Nat) (s1 : Int32) (s2 : Int32) (M : zM) (so : zM) (ls : List (Nat × zV))  (hs : do_judge_64  d s0 s1 s2 M = some so) : Ev zq_T (d + 1) 150 64 ls [.inl s2, .inl s1, .inr (.inr (20, s0))] M (none, so) := by
  unfold do_judge_64 at hs
  refine k_opt hs (fun _ q => nomatch q) (fun k1 h2 hs => ?_)
  obtain ⟨c3, hs⟩ := z_ite hs
  refine k_let hs (fun M4 e5 hs => ?_)
  refine e_iast cd_150_64 rfl h2 c3 e5 ?_
  have e := Option.some.inj hs
  subst e
  exact e_rv cd_150_65 nr_150
theorem tie_do_judge_45  (d : Nat)  (t0 : Nat) (v1 : Int32) (v2 : Int32) (v5 : Int32) (s0 : Option Nat) (s1 : Int32) (s2 : Int32) (M : zM) (so : zM) (ls : List (Nat × zV)) (g0 : zl_get ls 0 = some (.inr (.inr (1, (some t0))))) (g1 : zl_get ls 1 = some (.inl v1)) (g2 : zl_get ls 2 = some (.inl v2)) (g5 : zl_get ls 5 = some (.inl v5)) (hs : do_judge_45  d t0 v1 v2 v5 s0 s1 s2 M = some so) : Ev zq_T (d + 1) 150 45 ls [.inl s2, .inl s1, .inr (.inr (20, s0))] M (none, so) := by
  unfold do_judge_45 at hs
  refine k_opt hs (fun _ q => nomatch q) (fun k1 h2 hs => ?_)
  obtain ⟨c3, hs⟩ := z_ite hs
  refine k_let hs (fun M4 e5 hs => ?_)
  refine e_iast cd_150_45 rfl h2 c3 e5 ?_
  refine e_aldn cd_150_46 g0 ?_
  refine e_getR cd_150_47 fd_150_33 rfl ?_
  refine e_ildn cd_150_50 g1 ?_
  refine e_ildn cd_150_51 g2 ?_
  refine k_if hs (fun c6 hs => ?_) (fun c6 hs => ?_)
  · refine e_izJ cd_150_52 rfl c6 ?_
    refine e_ild cd_150_59 g5 ?_
    obtain ⟨q7, h8, hs⟩ := k_bind hs
    refine e_csN cd_150_61 kd_150_100 rfl rfl rfl nl_292 rfl rfl (tie_cr_bit d v5 M4 _ h8) ?_
    exact tie_do_judge_64  d  (zm_R M4 1 t0 8) v1 q7.1 q7.2 so _  hs
  · refine e_izN cd_150_52 rfl c6 ?_
    refine e_const cd_150_55 ci_0 ?_
    refine e_goto cd_150_56 rfl ?_
    exact tie_do_judge_64  d  (zm_R M4 1 t0 8) v1 0 M4 so _  hs
theorem tie_do_judge_29  (d : Nat)  (t0 : Nat) (v1 : Int32) (v2 : Int32) (v4 : Int32) (v5 : Int32) (s0 : Option Nat) (s1 : Int32) (s2 : Int32) (M : zM) (so : zM) (ls : List (Nat × zV)) (g0 : zl_get ls 0 = some (.inr (.inr (1, (some t0))))) (g1 : zl_get ls 1 = some (.inl v1)) (g2 : zl_get ls 2 = some (.inl v2)) (g4 : zl_get ls 4 = some (.inl v4)) (g5 : zl_get ls 5 = some (.inl v5)) (hs : do_judge_29  d t0 v1 v2 v4 v5 s0 s1 s2 M = some so) : Ev zq_T (d + 1) 150 29 ls [.inl s2, .inl s1, .inr (.inr (20, s0))] M (none, so) := by
  unfold do_judge_29 at hs
  refine k_opt hs (fun _ q => nomatch q) (fun k1 h2 hs => ?_)
  obtain ⟨c3, hs⟩ := z_ite hs
  refine k_let hs (fun M4 e5 hs => ?_)
  refine e_iast cd_150_29 rfl h2 c3 e5 ?_
  refine e_aldn cd_150_30 g0 ?_
  refine e_getR cd_150_31 fd_150_30 rfl ?_
  refine e_ildn cd_150_34 g1 ?_
  refine e_ildn cd_150_35 g2 ?_
  refine k_if hs (fun c6 hs => ?_) (fun c6 hs => ?_)
  · refine e_izJ cd_150_36 rfl c6 ?_
    refine e_ild cd_150_43 g4 ?_
    exact tie_do_judge_45  d  t0 v1 v2 v5 (zm_R M4 1 t0 7) v1 v4 M4 so _ g0 g1 g2 g5 hs
  · refine e_izN cd_150_36 rfl c6 ?_
    refine e_const cd_150_39 ci_0 ?_
    refine e_goto cd_150_40 rfl ?_
    exact tie_do_judge_45  d  t0 v1 v2 v5 (zm_R M4 1 t0 7) v1 0 M4 so _ g0 g1 g2 g5 hs
theorem tie_do_judge_14  (d : Nat)  (t0 : Nat) (v1 : Int32) (v2 : Int32) (v3 : Int32) (v4 : Int32) (v5 : Int32) (s0 : Option Nat) (s1 : Int32) (s2 : Int32) (M : zM) (so : zM) (ls : List (Nat × zV)) (g0 : zl_get ls 0 = some (.inr (.inr (1, (some t0))))) (g1 : zl_get ls 1 = some (.inl v1)) (g2 : zl_get ls 2 = some (.inl v2)) (g3 : zl_get ls 3 = some (.inl v3)) (g4 : zl_get ls 4 = some (.inl v4)) (g5 : zl_get ls 5 = some (.inl v5)) (hs : do_judge_14  d t0 v1 v2 v3 v4 v5 s0 s1 s2 M = some so) : Ev zq_T (d + 1) 150 14 ls [.inl s2, .inl s1, .inr (.inr (20, s0))] M (none, so) := by
  unfold do_judge_14 at hs
  refine k_opt hs (fun _ q => nomatch q) (fun k1 h2 hs => ?_)
  obtain ⟨c3, hs⟩ := z_ite hs
  refine k_let hs (fun M4 e5 hs => ?_)
  refine e_iast cd_150_14 rfl h2 c3 e5 ?_
  refine e_aldn cd_150_15 g0 ?_
  refine e_getR cd_150_16 fd_150_27 rfl ?_
  refine e_ildn cd_150_19 g1 ?_
  refine e_ildn cd_150_20 g2 ?_
  refine k_if hs (fun c6 hs => ?_) (fun c6 hs => ?_)
  · refine e_izJ cd_150_21 rfl c6 ?_
    refine e_ildn cd_150_28 g3 ?_
    exact tie_do_judge_29  d  t0 v1 v2 v4 v5 (zm_R M4 1 t0 6) v1 v3 M4 so _ g0 g1 g2 g4 g5 hs
  · refine e_izN cd_150_21 rfl c6 ?_
    refine e_const cd_150_24 ci_m1 ?_
    refine e_goto cd_150_25 rfl ?_
    exact tie_do_judge_29  d  t0 v1 v2 v4 v5 (zm_R M4 1 t0 6) v1 (-1) M4 so _ g0 g1 g2 g4 g5 hs
theorem tieb_do_judge  (d : Nat)  (a0 : Nat) (a1 : Int32) (a2 : Int32) (a3 : Int32) (a4 : Int32) (a5 : Int32) (M : zM) (so : zM) (hs : do_judge_b  d a0 a1 a2 a3 a4 a5 M = some so) : Ev zq_T (d + 1) 150 0 (zl_args 0 [.inr (.inr (1, some a0)), .inl a1, .inl a2, .inl a3, .inl a4, .inl a5]) [] M (none, so) := by
  unfold do_judge_b at hs
  have g0 : zl_get (zl_args 0 [.inr (.inr (1, some a0)), .inl a1, .inl a2, .inl a3, .inl a4, .inl a5]) 0 = some (.inr (.inr (1, (some a0)))) := rfl
  have g1 : zl_get (zl_args 0 [.inr (.inr (1, some a0)), .inl a1, .inl a2, .inl a3, .inl a4, .inl a5]) 1 = some (.inl a1) := rfl
  have g2 : zl_get (zl_args 0 [.inr (.inr (1, some a0)), .inl a1, .inl a2, .inl a3, .inl a4, .inl a5]) 2 = some (.inl a2) := rfl
  have g3 : zl_get (zl_args 0 [.inr (.inr (1, some a0)), .inl a1, .inl a2, .inl a3, .inl a4, .inl a5]) 3 = some (.inl a3) := rfl
  have g4 : zl_get (zl_args 0 [.inr (.inr (1, some a0)), .inl a1, .inl a2, .inl a3, .inl a4, .inl a5]) 4 = some (.inl a4) := rfl
  have g5 : zl_get (zl_args 0 [.inr (.inr (1, some a0)), .inl a1, .inl a2, .inl a3, .inl a4, .inl a5]) 5 = some (.inl a5) := rfl
  refine e_aldn cd_150_0 g0 ?_
  refine e_getR cd_150_1 fd_150_24 rfl ?_
  refine e_ildn cd_150_4 g1 ?_
  refine e_ildn cd_150_5 g2 ?_
  refine k_if hs (fun c1 hs => ?_) (fun c1 hs => ?_)
  · refine e_izJ cd_150_6 rfl c1 ?_
    refine e_const cd_150_13 ci_0 ?_
    exact tie_do_judge_14  d  a0 a1 a2 a3 a4 a5 (zm_R M 1 a0 5) a1 0 M so _ g0 g1 g2 g3 g4 g5 hs
  · refine e_izN cd_150_6 rfl c1 ?_
    refine e_const cd_150_9 ci_1 ?_
    refine e_goto cd_150_10 rfl ?_
    exact tie_do_judge_14  d  a0 a1 a2 a3 a4 a5 (zm_R M 1 a0 5) a1 1 M so _ g0 g1 g2 g3 g4 g5 hs
theorem tie_do_judge (d : Nat) (a0 : Nat) (a1 : Int32) (a2 : Int32) (a3 : Int32) (a4 : Int32) (a5 : Int32) (M : zM) (so : zM) (hs : do_judge d a0 a1 a2 a3 a4 a5 M = some so) : Ev zq_T d 150 0 (zl_args 0 [.inr (.inr (1, some a0)), .inl a1, .inl a2, .inl a3, .inl a4, .inl a5]) [] M (none, so) := by
  cases d with
  | zero => exact nomatch hs
  | succ d => exact tieb_do_judge d a0 a1 a2 a3 a4 a5 M so hs
theorem tieb_wk_couldCome  (d : Nat)  (a0 : Nat) (M : zM) (so : Int32 × zM) (hs : wk_couldCome_b  d a0 M = some so) : Ev zq_T (d + 1) 251 0 (zl_args 0 [.inr (.inr (8, some a0))]) [] M (some (.inl so.1), so.2) := by
  unfold wk_couldCome_b at hs
  have g0 : zl_get (zl_args 0 [.inr (.inr (8, some a0))]) 0 = some (.inr (.inr (8, (some a0)))) := rfl
  refine e_aldn cd_251_0 g0 ?_
  refine e_getR cd_251_1 fd_251_12 rfl ?_
  refine e_aldn cd_251_4 g0 ?_
  refine e_ldcI cd_251_5 od_251_112 ?_
  obtain ⟨q1, h2, hs⟩ := k_bind hs
  refine e_cvi cd_251_7 kd_251_106 rfl rfl rfl rfl rfl nl_243 rfl rfl (tie_wk_look d a0 65535 M _ h2) ?_
  refine e_ldcI cd_251_10 od_251_80 ?_
  refine e_pure cd_251_12 rfl ?_
  refine k_opt hs (fun _ q => nomatch q) (fun k3 h4 hs => ?_)
  obtain ⟨q5, h6, hs⟩ := k_bind hs
  refine e_cvi cd_251_13 kd_251_113 rfl rfl rfl h4 rfl nl_194 rfl rfl (tie_ru_lettersIn d k3 (q1.1 &&& (-65537)) q1.2 _ h6) ?_
  have e := Option.some.inj hs
  subst e
  exact e_ri cd_251_16 nr_251
theorem tie_wk_couldCome (d : Nat) (a0 : Nat) (M : zM) (so : Int32 × zM) (hs : wk_couldCome d a0 M = some so) : Ev zq_T d 251 0 (zl_args 0 [.inr (.inr (8, some a0))]) [] M (some (.inl so.1), so.2) := by
  cases d with
  | zero => exact nomatch hs
  | succ d => exact tieb_wk_couldCome d a0 M so hs
theorem tie_do_holdTo_69 (kl16 : Nat → Int32 → Option Nat → Int32 → Int32 → Int32 → zM → Option (zM)) (d : Nat) (hk16 : ∀ (t0 : Nat) (v1 : Int32) (v3 : Option Nat) (v4 : Int32) (v5 : Int32) (v6 : Int32) (M : zM) (so : zM) (ls : List (Nat × zV)), zl_get ls 0 = some (.inr (.inr (1, (some t0)))) → zl_get ls 1 = some (.inl v1) → zl_get ls 3 = some (.inr (.inr (8, v3))) → zl_get ls 4 = some (.inl v4) → zl_get ls 5 = some (.inl v5) → zl_get ls 6 = some (.inl v6) → kl16 t0 v1 v3 v4 v5 v6 M = some so → Ev zq_T (d + 1) 149 16 ls [] M (none, so)) (t0 : Nat) (v1 : Int32) (v3 : Option Nat) (v4 : Int32) (v5 : Int32) (v6 : Int32) (M : zM) (so : zM) (ls : List (Nat × zV)) (g0 : zl_get ls 0 = some (.inr (.inr (1, (some t0))))) (g1 : zl_get ls 1 = some (.inl v1)) (g3 : zl_get ls 3 = some (.inr (.inr (8, v3)))) (g4 : zl_get ls 4 = some (.inl v4)) (g5 : zl_get ls 5 = some (.inl v5)) (g6 : zl_get ls 6 = some (.inl v6)) (hs : do_holdTo_69 kl16 d t0 v1 v3 v4 v5 v6 M = some so) : Ev zq_T (d + 1) 149 69 ls [] M (none, so) := by
  unfold do_holdTo_69 at hs
  refine k_let hs (fun x1 e2 hs => ?_)
  refine e_incK cd_149_69 nl_149 rfl g6 ci_1 e2 ?_
  intro _ gn kp
  have u3 := kp 0 _ g0 rfl rfl
  have u4 := kp 1 _ g1 rfl rfl
  have u5 := kp 3 _ g3 rfl rfl
  have u6 := kp 4 _ g4 rfl rfl
  have u7 := kp 5 _ g5 rfl rfl
  have u8 := gn
  refine e_goto cd_149_72 rfl ?_
  exact hk16 t0 v1 v3 v4 v5 x1 M so _ u3 u4 u5 u6 u7 u8 hs
theorem tie_do_holdTo_66 (kl16 : Nat → Int32 → Option Nat → Int32 → Int32 → Int32 → zM → Option (zM)) (d : Nat) (hk16 : ∀ (t0 : Nat) (v1 : Int32) (v3 : Option Nat) (v4 : Int32) (v5 : Int32) (v6 : Int32) (M : zM) (so : zM) (ls : List (Nat × zV)), zl_get ls 0 = some (.inr (.inr (1, (some t0)))) → zl_get ls 1 = some (.inl v1) → zl_get ls 3 = some (.inr (.inr (8, v3))) → zl_get ls 4 = some (.inl v4) → zl_get ls 5 = some (.inl v5) → zl_get ls 6 = some (.inl v6) → kl16 t0 v1 v3 v4 v5 v6 M = some so → Ev zq_T (d + 1) 149 16 ls [] M (none, so)) (t0 : Nat) (v1 : Int32) (v3 : Option Nat) (v5 : Int32) (v6 : Int32) (s0 : Int32) (s1 : Int32) (M : zM) (so : zM) (ls : List (Nat × zV)) (g0 : zl_get ls 0 = some (.inr (.inr (1, (some t0))))) (g1 : zl_get ls 1 = some (.inl v1)) (g3 : zl_get ls 3 = some (.inr (.inr (8, v3)))) (g5 : zl_get ls 5 = some (.inl v5)) (g6 : zl_get ls 6 = some (.inl v6)) (hs : do_holdTo_66 kl16 d t0 v1 v3 v5 v6 s0 s1 M = some so) : Ev zq_T (d + 1) 149 66 ls [.inl s1, .inl s0] M (none, so) := by
  unfold do_holdTo_66 at hs
  refine e_pure cd_149_66 rfl ?_
  refine k_let hs (fun x1 e2 hs => ?_)
  refine e_iK cd_149_67 nl_149 rfl e2 ?_
  intro _ gn kp
  have u3 := kp 0 _ g0 rfl rfl
  have u4 := kp 1 _ g1 rfl rfl
  have u5 := kp 3 _ g3 rfl rfl
  have u6 := kp 5 _ g5 rfl rfl
  have u7 := kp 6 _ g6 rfl rfl
  have u8 := gn
  exact tie_do_holdTo_69 kl16 d hk16 t0 v1 v3 x1 v5 v6 M so _ u3 u4 u5 u8 u6 u7 hs
theorem tie_do_holdTo_104  (d : Nat)  (v3 : Option Nat) (v4 : Int32) (v6 : Int32) (s0 : Option Nat) (s1 : Int32) (s2 : Int32) (M : zM) (so : zM) (ls : List (Nat × zV)) (g3 : zl_get ls 3 = some (.inr (.inr (8, v3)))) (g4 : zl_get ls 4 = some (.inl v4)) (g6 : zl_get ls 6 = some (.inl v6)) (hs : do_holdTo_104  d v3 v4 v6 s0 s1 s2 M = some so) : Ev zq_T (d + 1) 149 104 ls [.inl s2, .inl s1, .inr (.inr (1, s0))] M (none, so) := by
  unfold do_holdTo_104 at hs
  refine e_ild cd_149_104 g4 ?_
  refine e_aldn cd_149_106 g3 ?_
  refine k_opt hs (fun _ q => nomatch q) (fun k1 h2 hs => ?_)
  obtain ⟨q3, h4, hs⟩ := k_bind hs
  refine e_cvi cd_149_107 kd_149_96 rfl rfl rfl h2 rfl nl_251 rfl rfl (tie_wk_couldCome d k1 M _ h4) ?_
  refine e_ild cd_149_110 g6 ?_
  refine k_opt hs (fun _ q => nomatch q) (fun k5 h6 hs => ?_)
  obtain ⟨q7, h8, hs⟩ := k_bind hs
  refine e_cvi cd_149_112 kd_149_66 rfl rfl rfl h6 rfl nl_150 rfl rfl (tie_do_judge d k5 s1 s2 v4 q3.1 v6 q3.2 _ h8) ?_
  have e := Option.some.inj hs
  subst e
  exact e_rv cd_149_115 nr_149
theorem tie_do_holdTo_103  (d : Nat)  (v3 : Option Nat) (v4 : Int32) (v6 : Int32) (s0 : Option Nat) (s1 : Int32) (M : zM) (so : zM) (ls : List (Nat × zV)) (g3 : zl_get ls 3 = some (.inr (.inr (8, v3)))) (g4 : zl_get ls 4 = some (.inl v4)) (g6 : zl_get ls 6 = some (.inl v6)) (hs : do_holdTo_103  d v3 v4 v6 s0 s1 M = some so) : Ev zq_T (d + 1) 149 103 ls [.inl s1, .inr (.inr (1, s0))] M (none, so) := by
  unfold do_holdTo_103 at hs
  refine e_const cd_149_103 ci_0 ?_
  exact tie_do_holdTo_104  d  v3 v4 v6 s0 s1 0 M so _ g3 g4 g6 hs
theorem tie_do_holdTo_75  (d : Nat)  (t0 : Nat) (v1 : Int32) (v3 : Option Nat) (v4 : Int32) (M : zM) (so : zM) (ls : List (Nat × zV)) (g0 : zl_get ls 0 = some (.inr (.inr (1, (some t0))))) (g1 : zl_get ls 1 = some (.inl v1)) (g3 : zl_get ls 3 = some (.inr (.inr (8, v3)))) (g4 : zl_get ls 4 = some (.inl v4)) (hs : do_holdTo_75  d t0 v1 v3 v4 M = some so) : Ev zq_T (d + 1) 149 75 ls [] M (none, so) := by
  unfold do_holdTo_75 at hs
  refine e_aldn cd_149_75 g3 ?_
  refine k_opt hs (fun _ q => nomatch q) (fun k1 h2 hs => ?_)
  obtain ⟨q3, h4, hs⟩ := k_bind hs
  refine e_cvi cd_149_76 kd_149_92 rfl rfl rfl h2 rfl nl_250 rfl rfl (tie_wk_canEnd d k1 M _ h4) ?_
  refine e_iK cd_149_79 nl_149 rfl rfl ?_
  intro _ gn kp
  have u5 := kp 0 _ g0 rfl rfl
  have u6 := kp 1 _ g1 rfl rfl
  have u7 := kp 3 _ g3 rfl rfl
  have u8 := kp 4 _ g4 rfl rfl
  have u9 := gn
  refine e_aldn cd_149_81 u5 ?_
  refine e_ildn cd_149_82 u6 ?_
  refine e_ild cd_149_83 u8 ?_
  refine e_aldn cd_149_85 u5 ?_
  refine e_getR cd_149_86 fd_149_18 rfl ?_
  refine e_ildn cd_149_89 u6 ?_
  refine k_opt hs (fun _ q => nomatch q) (fun k10 h11 hs => ?_)
  obtain ⟨c12, hs⟩ := z_ite hs
  refine e_iald cd_149_90 rfl h11 c12 ?_
  refine k_if hs (fun c13 hs => ?_) (fun c13 hs => ?_)
  · refine e_icN cd_149_91 rfl (fun q => q c13) ?_
    refine e_ild cd_149_94 u9 ?_
    refine k_if hs (fun c14 hs => ?_) (fun c14 hs => ?_)
    · refine e_izJ cd_149_96 rfl c14 ?_
      exact tie_do_holdTo_103  d  v3 v4 q3.1 (some t0) v1 q3.2 so _ u7 u8 u9 hs
    · refine e_izN cd_149_96 rfl c14 ?_
      refine e_const cd_149_99 ci_1 ?_
      refine e_goto cd_149_100 rfl ?_
      exact tie_do_holdTo_104  d  v3 v4 q3.1 (some t0) v1 1 q3.2 so _ u7 u8 u9 hs
  · refine e_icJ cd_149_91 rfl c13 ?_
    exact tie_do_holdTo_103  d  v3 v4 q3.1 (some t0) v1 q3.2 so _ u7 u8 u9 hs
theorem tie_do_holdTo_16  (d : Nat)  : ∀ (fuel : Nat) (t0 : Nat) (v1 : Int32) (v3 : Option Nat) (v4 : Int32) (v5 : Int32) (v6 : Int32) (M : zM) (so : zM) (ls : List (Nat × zV)), zl_get ls 0 = some (.inr (.inr (1, (some t0)))) → zl_get ls 1 = some (.inl v1) → zl_get ls 3 = some (.inr (.inr (8, v3))) → zl_get ls 4 = some (.inl v4) → zl_get ls 5 = some (.inl v5) → zl_get ls 6 = some (.inl v6) → do_holdTo_16  d fuel t0 v1 v3 v4 v5 v6 M = some so → Ev zq_T (d + 1) 149 16 ls [] M (none, so) := by
  intro fuel
  induction fuel with
  | zero => intro t0 v1 v3 v4 v5 v6 M so ls g0 g1 g3 g4 g5 g6 hs; exact nomatch hs
  | succ fuel ih =>
    intro t0 v1 v3 v4 v5 v6 M so ls g0 g1 g3 g4 g5 g6 hs
    unfold do_holdTo_16 at hs
    refine e_ild cd_149_16 g6 ?_
    refine e_aldn cd_149_18 g0 ?_
    refine e_getI cd_149_19 (Or.inl fd_149_39) rfl ?_
    refine k_if hs (fun c1 hs => ?_) (fun c1 hs => ?_)
    · refine e_icJ cd_149_22 rfl c1 ?_
      exact tie_do_holdTo_75  d  t0 v1 v3 v4 M so _ g0 g1 g3 g4 hs
    · refine e_icN cd_149_22 rfl c1 ?_
      refine e_ild cd_149_25 g5 ?_
      refine k_if hs (fun c2 hs => ?_) (fun c2 hs => ?_)
      · refine e_izJ cd_149_27 rfl c2 ?_
        exact tie_do_holdTo_75  d  t0 v1 v3 v4 M so _ g0 g1 g3 g4 hs
      · refine e_izN cd_149_27 rfl c2 ?_
        refine e_aldn cd_149_30 g0 ?_
        refine e_getR cd_149_31 fd_149_15 rfl ?_
        refine e_ild cd_149_34 g6 ?_
        refine k_opt hs (fun _ q => nomatch q) (fun k3 h4 hs => ?_)
        obtain ⟨c5, hs⟩ := z_ite hs
        refine e_iald cd_149_36 rfl h4 c5 ?_
        refine e_ildn cd_149_37 g1 ?_
        refine k_if hs (fun c6 hs => ?_) (fun c6 hs => ?_)
        · refine e_icN cd_149_38 rfl (fun q => q c6) ?_
          refine e_aldn cd_149_41 g3 ?_
          refine e_aldn cd_149_42 g0 ?_
          refine e_getR cd_149_43 fd_149_9 rfl ?_
          refine e_ild cd_149_46 g6 ?_
          refine k_opt hs (fun _ q => nomatch q) (fun k7 h8 hs => ?_)
          obtain ⟨c9, hs⟩ := z_ite hs
          refine e_iald cd_149_48 rfl h8 c9 ?_
          refine k_opt hs (fun _ q => nomatch q) (fun k10 h11 hs => ?_)
          obtain ⟨q12, h13, hs⟩ := k_bind hs
          refine e_cvi cd_149_49 kd_149_89 rfl rfl rfl h11 rfl nl_248 rfl rfl (tie_wk_step d k10 (zm_I M 20 k7 (v6 : Int32).toNatClampNeg) M _ h13) ?_
          refine e_iK cd_149_52 nl_149 rfl rfl ?_
          intro _ gn kp
          have u14 := kp 0 _ g0 rfl rfl
          have u15 := kp 1 _ g1 rfl rfl
          have u16 := kp 3 _ g3 rfl rfl
          have u17 := kp 4 _ g4 rfl rfl
          have u18 := kp 6 _ g6 rfl rfl
          have u19 := gn
          refine e_ild cd_149_54 u17 ?_
          refine e_ild cd_149_56 u19 ?_
          refine k_if hs (fun c20 hs => ?_) (fun c20 hs => ?_)
          · refine e_izJ cd_149_58 rfl c20 ?_
            refine e_const cd_149_65 ci_0 ?_
            exact tie_do_holdTo_66 (fun p0 p1 p2 p3 p4 p5 m => do_holdTo_16  d fuel p0 p1 p2 p3 p4 p5 m) d ih t0 v1 v3 q12.1 v6 v4 0 q12.2 so _ u14 u15 u16 u19 u18 hs
          · refine e_izN cd_149_58 rfl c20 ?_
            refine e_const cd_149_61 ci_1 ?_
            refine e_goto cd_149_62 rfl ?_
            exact tie_do_holdTo_66 (fun p0 p1 p2 p3 p4 p5 m => do_holdTo_16  d fuel p0 p1 p2 p3 p4 p5 m) d ih t0 v1 v3 q12.1 v6 v4 1 q12.2 so _ u14 u15 u16 u19 u18 hs
        · refine e_icJ cd_149_38 rfl c6 ?_
          exact tie_do_holdTo_69 (fun p0 p1 p2 p3 p4 p5 m => do_holdTo_16  d fuel p0 p1 p2 p3 p4 p5 m) d ih t0 v1 v3 v4 v5 v6 M so _ g0 g1 g3 g4 g5 g6 hs
theorem tieb_do_holdTo  (d : Nat)  (a0 : Nat) (a1 : Int32) (a2 : Option Nat) (a3 : Option Nat) (M : zM) (so : zM) (hs : do_holdTo_b  d a0 a1 a2 a3 M = some so) : Ev zq_T (d + 1) 149 0 (zl_args 0 [.inr (.inr (1, some a0)), .inl a1, .inr (.inr (5, a2)), .inr (.inr (8, a3))]) [] M (none, so) := by
  unfold do_holdTo_b at hs
  have g0 : zl_get (zl_args 0 [.inr (.inr (1, some a0)), .inl a1, .inr (.inr (5, a2)), .inr (.inr (8, a3))]) 0 = some (.inr (.inr (1, (some a0)))) := rfl
  have g1 : zl_get (zl_args 0 [.inr (.inr (1, some a0)), .inl a1, .inr (.inr (5, a2)), .inr (.inr (8, a3))]) 1 = some (.inl a1) := rfl
  have g2 : zl_get (zl_args 0 [.inr (.inr (1, some a0)), .inl a1, .inr (.inr (5, a2)), .inr (.inr (8, a3))]) 2 = some (.inr (.inr (5, a2))) := rfl
  have g3 : zl_get (zl_args 0 [.inr (.inr (1, some a0)), .inl a1, .inr (.inr (5, a2)), .inr (.inr (8, a3))]) 3 = some (.inr (.inr (8, a3))) := rfl
  refine e_aldn cd_149_0 g3 ?_
  refine e_aldn cd_149_1 g2 ?_
  refine k_opt hs (fun _ q => nomatch q) (fun k1 h2 hs => ?_)
  obtain ⟨q3, h4, hs⟩ := k_bind hs
  refine e_cvi cd_149_2 kd_149_83 rfl rfl rfl h2 rfl nl_242 rfl rfl (tie_wk_begin d k1 a2 M _ h4) ?_
  refine e_const cd_149_5 ci_0 ?_
  refine e_iK cd_149_6 nl_149 rfl rfl ?_
  intro _ gn kp
  have u5 := kp 0 _ g0 rfl rfl
  have u6 := kp 1 _ g1 rfl rfl
  have u7 := kp 3 _ g3 rfl rfl
  have u8 := gn
  refine e_const cd_149_8 ci_1 ?_
  refine e_iK cd_149_9 nl_149 rfl rfl ?_
  intro _ gn kp
  have u9 := kp 0 _ u5 rfl rfl
  have u10 := kp 1 _ u6 rfl rfl
  have u11 := kp 3 _ u7 rfl rfl
  have u12 := kp 4 _ u8 rfl rfl
  have u13 := gn
  refine e_ildn cd_149_11 u10 ?_
  refine e_const cd_149_12 ci_1 ?_
  refine e_pure cd_149_13 rfl ?_
  refine k_let hs (fun x14 e15 hs => ?_)
  refine e_iK cd_149_14 nl_149 rfl e15 ?_
  intro _ gn kp
  have u16 := kp 0 _ u9 rfl rfl
  have u17 := kp 1 _ u10 rfl rfl
  have u18 := kp 3 _ u11 rfl rfl
  have u19 := kp 4 _ u12 rfl rfl
  have u20 := kp 5 _ u13 rfl rfl
  have u21 := gn
  exact tie_do_holdTo_16  d  zLF a0 a1 a3 0 1 x14 q3 so _ u16 u17 u18 u19 u20 u21 hs
theorem tie_do_holdTo (d : Nat) (a0 : Nat) (a1 : Int32) (a2 : Option Nat) (a3 : Option Nat) (M : zM) (so : zM) (hs : do_holdTo d a0 a1 a2 a3 M = some so) : Ev zq_T d 149 0 (zl_args 0 [.inr (.inr (1, some a0)), .inl a1, .inr (.inr (5, a2)), .inr (.inr (8, a3))]) [] M (none, so) := by
  cases d with
  | zero => exact nomatch hs
  | succ d => exact tieb_do_holdTo d a0 a1 a2 a3 M so hs
theorem tie_rs_numberFor_2  (d : Nat)  : ∀ (fuel : Nat) (t0 : Nat) (v1 : Int32) (v2 : Int32) (M : zM) (so : Int32 × zM) (ls : List (Nat × zV)), zl_get ls 0 = some (.inr (.inr (6, (some t0)))) → zl_get ls 1 = some (.inl v1) → zl_get ls 2 = some (.inl v2) → rs_numberFor_2  d fuel t0 v1 v2 M = some so → Ev zq_T d 199 2 ls [] M (some (.inl so.1), so.2) := by
  intro fuel
  induction fuel with
  | zero => intro t0 v1 v2 M so ls g0 g1 g2 hs; exact nomatch hs
  | succ fuel ih =>
    intro t0 v1 v2 M so ls g0 g1 g2 hs
    unfold rs_numberFor_2 at hs
    refine e_ildn cd_199_2 g2 ?_
    refine e_aldn cd_199_3 g0 ?_
    refine e_getI cd_199_4 (Or.inl fd_199_18) rfl ?_
    refine k_if hs (fun c1 hs => ?_) (fun c1 hs => ?_)
    · refine e_icJ cd_199_7 rfl c1 ?_
      refine e_const cd_199_31 ci_m1 ?_
      have e := Option.some.inj hs
      subst e
      exact e_ri cd_199_32 nr_199
    · refine e_icN cd_199_7 rfl c1 ?_
      refine e_aldn cd_199_10 g0 ?_
      refine e_getR cd_199_11 fd_199_11 rfl ?_
      refine e_ildn cd_199_14 g2 ?_
      refine k_opt hs (fun _ q => nomatch q) (fun k2 h3 hs => ?_)
      obtain ⟨c4, hs⟩ := z_ite hs
      refine e_aald cd_199_15 rfl h3 c4 ?_
      refine k_opt hs (fun _ q => nomatch q) (fun k5 h6 hs => ?_)
      refine e_getI cd_199_16 (Or.inl fd_199_36) h6 ?_
      refine e_ildn cd_199_19 g1 ?_
      refine k_if hs (fun c7 hs => ?_) (fun c7 hs => ?_)
      · refine e_icN cd_199_20 rfl (fun q => q c7) ?_
        refine e_ildn cd_199_23 g2 ?_
        have e := Option.some.inj hs
        subst e
        exact e_ri cd_199_24 nr_199
      · refine e_icJ cd_199_20 rfl c7 ?_
        refine k_let hs (fun x8 e9 hs => ?_)
        refine e_incK cd_199_25 nl_199 rfl g2 ci_1 e9 ?_
        intro _ gn kp
        have u10 := kp 0 _ g0 rfl rfl
        have u11 := kp 1 _ g1 rfl rfl
        have u12 := gn
        refine e_goto cd_199_28 rfl ?_
        exact ih t0 v1 x8 M so _ u10 u11 u12 hs
theorem tie_rs_numberFor (d : Nat) (a0 : Nat) (a1 : Int32) (M : zM) (so : Int32 × zM) (hs : rs_numberFor d a0 a1 M = some so) : Ev zq_T d 199 0 (zl_args 0 [.inr (.inr (6, some a0)), .inl a1]) [] M (some (.inl so.1), so.2) := by
  unfold rs_numberFor at hs
  have g0 : zl_get (zl_args 0 [.inr (.inr (6, some a0)), .inl a1]) 0 = some (.inr (.inr (6, (some a0)))) := rfl
  have g1 : zl_get (zl_args 0 [.inr (.inr (6, some a0)), .inl a1]) 1 = some (.inl a1) := rfl
  refine e_const cd_199_0 ci_0 ?_
  refine e_iKn cd_199_1 nl_199 rfl rfl ?_
  intro _ gn kp
  have u1 := kp 0 _ g0 rfl rfl
  have u2 := kp 1 _ g1 rfl rfl
  have u3 := gn
  exact tie_rs_numberFor_2  d  zLF a0 a1 0 M so _ u1 u2 u3 hs
theorem tie_do_hold_98 (kl2 : Nat → Option Nat → Option Nat → Int32 → zM → Option (zM)) (d : Nat) (hk2 : ∀ (t0 : Nat) (v1 : Option Nat) (v2 : Option Nat) (v3 : Int32) (M : zM) (so : zM) (ls : List (Nat × zV)), zl_get ls 0 = some (.inr (.inr (1, (some t0)))) → zl_get ls 1 = some (.inr (.inr (6, v1))) → zl_get ls 2 = some (.inr (.inr (8, v2))) → zl_get ls 3 = some (.inl v3) → kl2 t0 v1 v2 v3 M = some so → Ev zq_T (d + 1) 148 2 ls [] M (none, so)) (t0 : Nat) (v1 : Option Nat) (v2 : Option Nat) (v3 : Int32) (M : zM) (so : zM) (ls : List (Nat × zV)) (g0 : zl_get ls 0 = some (.inr (.inr (1, (some t0))))) (g1 : zl_get ls 1 = some (.inr (.inr (6, v1)))) (g2 : zl_get ls 2 = some (.inr (.inr (8, v2)))) (g3 : zl_get ls 3 = some (.inl v3)) (hs : do_hold_98 kl2 d t0 v1 v2 v3 M = some so) : Ev zq_T (d + 1) 148 98 ls [] M (none, so) := by
  unfold do_hold_98 at hs
  refine k_let hs (fun x1 e2 hs => ?_)
  refine e_incK cd_148_98 nl_148 rfl g3 ci_1 e2 ?_
  intro _ gn kp
  have u3 := kp 0 _ g0 rfl rfl
  have u4 := kp 1 _ g1 rfl rfl
  have u5 := kp 2 _ g2 rfl rfl
  have u6 := gn
  refine e_goto cd_148_101 rfl ?_
  exact hk2 t0 v1 v2 x1 M so _ u3 u4 u5 u6 hs
theorem tie_do_hold_44 (kl2 : Nat → Option Nat → Option Nat → Int32 → zM → Option (zM)) (d : Nat) (hk2 : ∀ (t0 : Nat) (v1 : Option Nat) (v2 : Option Nat) (v3 : Int32) (M : zM) (so : zM) (ls : List (Nat × zV)), zl_get ls 0 = some (.inr (.inr (1, (some t0)))) → zl_get ls 1 = some (.inr (.inr (6, v1))) → zl_get ls 2 = some (.inr (.inr (8, v2))) → zl_get ls 3 = some (.inl v3) → kl2 t0 v1 v2 v3 M = some so → Ev zq_T (d + 1) 148 2 ls [] M (none, so)) (t0 : Nat) (v1 : Option Nat) (v2 : Option Nat) (v3 : Int32) (s0 : Option Nat) (s1 : Int32) (s2 : Int32) (M : zM) (so : zM) (ls : List (Nat × zV)) (g0 : zl_get ls 0 = some (.inr (.inr (1, (some t0))))) (g1 : zl_get ls 1 = some (.inr (.inr (6, v1)))) (g2 : zl_get ls 2 = some (.inr (.inr (8, v2)))) (g3 : zl_get ls 3 = some (.inl v3)) (hs : do_hold_44 kl2 d t0 v1 v2 v3 s0 s1 s2 M = some so) : Ev zq_T (d + 1) 148 44 ls [.inl s2, .inl s1, .inr (.inr (1, s0))] M (none, so) := by
  unfold do_hold_44 at hs
  refine e_const cd_148_44 ci_0 ?_
  refine e_const cd_148_45 ci_0 ?_
  refine e_const cd_148_46 ci_1 ?_
  refine k_opt hs (fun _ q => nomatch q) (fun k1 h2 hs => ?_)
  obtain ⟨q3, h4, hs⟩ := k_bind hs
  refine e_cvi cd_148_47 kd_148_66 rfl rfl rfl h2 rfl nl_150 rfl rfl (tie_do_judge d k1 s1 s2 0 0 1 M _ h4) ?_
  refine e_goto cd_148_50 rfl ?_
  exact tie_do_hold_98 kl2 d hk2 t0 v1 v2 v3 q3 so _ g0 g1 g2 g3 hs
set_option maxRecDepth 100000 in
theorem tie_do_hold_2  (d : Nat)  : ∀ (fuel : Nat) (t0 : Nat) (v1 : Option Nat) (v2 : Option Nat) (v3 : Int32) (M : zM) (so : zM) (ls : List (Nat × zV)), zl_get ls 0 = some (.inr (.inr (1, (some t0)))) → zl_get ls 1 = some (.inr (.inr (6, v1))) → zl_get ls 2 = some (.inr (.inr (8, v2))) → zl_get ls 3 = some (.inl v3) → do_hold_2  d fuel t0 v1 v2 v3 M = some so → Ev zq_T (d + 1) 148 2 ls [] M (none, so) := by
  intro fuel
  induction fuel with
  | zero => intro t0 v1 v2 v3 M so ls g0 g1 g2 g3 hs; exact nomatch hs
  | succ fuel ih =>
    intro t0 v1 v2 v3 M so ls g0 g1 g2 g3 hs
    unfold do_hold_2 at hs
    refine e_ildn cd_148_2 g3 ?_
    refine e_aldn cd_148_3 g0 ?_
    refine e_getI cd_148_4 (Or.inl fd_148_39) rfl ?_
    refine k_if hs (fun c1 hs => ?_) (fun c1 hs => ?_)
    · refine e_icJ cd_148_7 rfl c1 ?_
      have e := Option.some.inj hs
      subst e
      exact e_rv cd_148_104 nr_148
    · refine e_icN cd_148_7 rfl c1 ?_
      refine e_aldn cd_148_10 g1 ?_
      refine e_aldn cd_148_11 g0 ?_
      refine e_getR cd_148_12 fd_148_9 rfl ?_
      refine e_ildn cd_148_15 g3 ?_
      refine k_opt hs (fun _ q => nomatch q) (fun k2 h3 hs => ?_)
      obtain ⟨c4, hs⟩ := z_ite hs
      refine e_iald cd_148_16 rfl h3 c4 ?_
      refine k_opt hs (fun _ q => nomatch q) (fun k5 h6 hs => ?_)
      obtain ⟨q7, h8, hs⟩ := k_bind hs
      refine e_cvi cd_148_17 kd_148_60 rfl rfl rfl h6 rfl nl_199 rfl rfl (tie_rs_numberFor d k5 (zm_I M 20 k2 (v3 : Int32).toNatClampNeg) M _ h8) ?_
      refine e_iK cd_148_20 nl_148 rfl rfl ?_
      intro _ gn kp
      have u9 := kp 0 _ g0 rfl rfl
      have u10 := kp 1 _ g1 rfl rfl
      have u11 := kp 2 _ g2 rfl rfl
      have u12 := kp 3 _ g3 rfl rfl
      have u13 := gn
      refine e_ild cd_148_22 u13 ?_
      refine e_const cd_148_24 ci_m1 ?_
      refine k_if hs (fun c14 hs => ?_) (fun c14 hs => ?_)
      · refine e_icN cd_148_25 rfl (fun q => q c14) ?_
        refine e_aldn cd_148_28 u9 ?_
        refine e_ildn cd_148_29 u12 ?_
        refine e_aldn cd_148_30 u9 ?_
        refine e_getR cd_148_31 fd_148_18 rfl ?_
        refine e_ildn cd_148_34 u12 ?_
        refine k_opt hs (fun _ q => nomatch q) (fun k15 h16 hs => ?_)
        obtain ⟨c17, hs⟩ := z_ite hs
        refine e_iald cd_148_35 rfl h16 c17 ?_
        refine k_if hs (fun c18 hs => ?_) (fun c18 hs => ?_)
        · refine e_izN cd_148_36 rfl (fun q => q c18) ?_
          refine e_const cd_148_39 ci_1 ?_
          refine e_goto cd_148_40 rfl ?_
          exact tie_do_hold_44 (fun p0 p1 p2 p3 m => do_hold_2  d fuel p0 p1 p2 p3 m) d ih t0 v1 v2 v3 (some t0) v3 1 q7.2 so _ u9 u10 u11 u12 hs
        · refine e_izJ cd_148_36 rfl c18 ?_
          refine e_const cd_148_43 ci_0 ?_
          exact tie_do_hold_44 (fun p0 p1 p2 p3 m => do_hold_2  d fuel p0 p1 p2 p3 m) d ih t0 v1 v2 v3 (some t0) v3 0 q7.2 so _ u9 u10 u11 u12 hs
      · refine e_icJ cd_148_25 rfl c14 ?_
        refine e_aldn cd_148_53 u10 ?_
        refine e_getR cd_148_54 fd_148_70 h6 ?_
        refine e_ild cd_148_57 u13 ?_
        refine k_opt hs (fun _ q => nomatch q) (fun k19 h20 hs => ?_)
        obtain ⟨c21, hs⟩ := z_ite hs
        refine e_aald cd_148_59 rfl h20 c21 ?_
        refine k_opt hs (fun _ q => nomatch q) (fun k22 h23 hs => ?_)
        refine e_getI cd_148_60 (Or.inr fd_148_74) h23 ?_
        refine k_if hs (fun c24 hs => ?_) (fun c24 hs => ?_)
        · refine e_izJ cd_148_63 rfl c24 ?_
          refine e_aldn cd_148_82 u9 ?_
          refine e_ildn cd_148_83 u12 ?_
          refine e_const cd_148_84 ci_1 ?_
          refine e_const cd_148_85 ci_0 ?_
          refine e_const cd_148_86 ci_0 ?_
          refine e_const cd_148_87 ci_0 ?_
          obtain ⟨q25, h26, hs⟩ := k_bind hs
          refine e_cvi cd_148_88 kd_148_66 rfl rfl rfl rfl rfl nl_150 rfl rfl (tie_do_judge d t0 v3 1 0 0 0 q7.2 _ h26) ?_
          refine e_aldn cd_148_91 u9 ?_
          refine e_getR cd_148_92 fd_148_24 rfl ?_
          refine e_ildn cd_148_95 u12 ?_
          refine e_const cd_148_96 ci_2 ?_
          refine k_opt hs (fun _ q => nomatch q) (fun k27 h28 hs => ?_)
          obtain ⟨c29, hs⟩ := z_ite hs
          refine k_let hs (fun M30 e31 hs => ?_)
          refine e_iast cd_148_97 rfl h28 c29 e31 ?_
          exact tie_do_hold_98 (fun p0 p1 p2 p3 m => do_hold_2  d fuel p0 p1 p2 p3 m) d ih t0 v1 v2 v3 M30 so _ u9 u10 u11 u12 hs
        · refine e_izN cd_148_63 rfl c24 ?_
          refine e_aldn cd_148_66 u9 ?_
          refine e_ildn cd_148_67 u12 ?_
          refine e_aldn cd_148_68 u10 ?_
          refine e_getR cd_148_69 fd_148_70 h6 ?_
          refine e_ild cd_148_72 u13 ?_
          refine k_opt hs (fun _ q => nomatch q) (fun k32 h33 hs => ?_)
          obtain ⟨c34, hs⟩ := z_ite hs
          refine e_aald cd_148_74 rfl h33 c34 ?_
          refine e_aldn cd_148_75 u11 ?_
          obtain ⟨q35, h36, hs⟩ := k_bind hs
          refine e_cvi cd_148_76 kd_148_79 rfl rfl rfl rfl rfl nl_149 rfl rfl (tie_do_holdTo d t0 v3 (zm_R q7.2 25 k32 q7.1.toNatClampNeg) v2 q7.2 _ h36) ?_
          refine e_goto cd_148_79 rfl ?_
          exact tie_do_hold_98 (fun p0 p1 p2 p3 m => do_hold_2  d fuel p0 p1 p2 p3 m) d ih t0 v1 v2 v3 q35 so _ u9 u10 u11 u12 hs
theorem tieb_do_hold  (d : Nat)  (a0 : Nat) (a1 : Option Nat) (a2 : Option Nat) (M : zM) (so : zM) (hs : do_hold_b  d a0 a1 a2 M = some so) : Ev zq_T (d + 1) 148 0 (zl_args 0 [.inr (.inr (1, some a0)), .inr (.inr (6, a1)), .inr (.inr (8, a2))]) [] M (none, so) := by
  unfold do_hold_b at hs
  have g0 : zl_get (zl_args 0 [.inr (.inr (1, some a0)), .inr (.inr (6, a1)), .inr (.inr (8, a2))]) 0 = some (.inr (.inr (1, (some a0)))) := rfl
  have g1 : zl_get (zl_args 0 [.inr (.inr (1, some a0)), .inr (.inr (6, a1)), .inr (.inr (8, a2))]) 1 = some (.inr (.inr (6, a1))) := rfl
  have g2 : zl_get (zl_args 0 [.inr (.inr (1, some a0)), .inr (.inr (6, a1)), .inr (.inr (8, a2))]) 2 = some (.inr (.inr (8, a2))) := rfl
  refine e_const cd_148_0 ci_0 ?_
  refine e_iKn cd_148_1 nl_148 rfl rfl ?_
  intro _ gn kp
  have u1 := kp 0 _ g0 rfl rfl
  have u2 := kp 1 _ g1 rfl rfl
  have u3 := kp 2 _ g2 rfl rfl
  have u4 := gn
  exact tie_do_hold_2  d  zLF a0 a1 a2 0 M so _ u1 u2 u3 u4 hs
theorem tie_do_hold (d : Nat) (a0 : Nat) (a1 : Option Nat) (a2 : Option Nat) (M : zM) (so : zM) (hs : do_hold d a0 a1 a2 M = some so) : Ev zq_T d 148 0 (zl_args 0 [.inr (.inr (1, some a0)), .inr (.inr (6, a1)), .inr (.inr (8, a2))]) [] M (none, so) := by
  cases d with
  | zero => exact nomatch hs
  | succ d => exact tieb_do_hold d a0 a1 a2 M so hs
theorem tie_do_wrongThings_27 (kl4 : Nat → Int32 → Int32 → zM → Option (Int32 × zM)) (d : Nat) (hk4 : ∀ (t0 : Nat) (v1 : Int32) (v2 : Int32) (M : zM) (so : Int32 × zM) (ls : List (Nat × zV)), zl_get ls 0 = some (.inr (.inr (1, (some t0)))) → zl_get ls 1 = some (.inl v1) → zl_get ls 2 = some (.inl v2) → kl4 t0 v1 v2 M = some so → Ev zq_T d 151 4 ls [] M (some (.inl so.1), so.2)) (t0 : Nat) (v2 : Int32) (s0 : Int32) (s1 : Int32) (M : zM) (so : Int32 × zM) (ls : List (Nat × zV)) (g0 : zl_get ls 0 = some (.inr (.inr (1, (some t0))))) (g2 : zl_get ls 2 = some (.inl v2)) (hs : do_wrongThings_27 kl4 d t0 v2 s0 s1 M = some so) : Ev zq_T d 151 27 ls [.inl s1, .inl s0] M (some (.inl so.1), so.2) := by
  unfold do_wrongThings_27 at hs
  refine e_pure cd_151_27 rfl ?_
  refine k_let hs (fun x1 e2 hs => ?_)
  refine e_iKn cd_151_28 nl_151 rfl e2 ?_
  intro _ gn kp
  have u3 := kp 0 _ g0 rfl rfl
  have u4 := kp 2 _ g2 rfl rfl
  have u5 := gn
  refine k_let hs (fun x6 e7 hs => ?_)
  refine e_incK cd_151_29 nl_151 rfl u4 ci_1 e7 ?_
  intro _ gn kp
  have u8 := kp 0 _ u3 rfl rfl
  have u9 := kp 1 _ u5 rfl rfl
  have u10 := gn
  refine e_goto cd_151_32 rfl ?_
  exact hk4 t0 x1 x6 M so _ u8 u9 u10 hs
theorem tie_do_wrongThings_4  (d : Nat)  : ∀ (fuel : Nat) (t0 : Nat) (v1 : Int32) (v2 : Int32) (M : zM) (so : Int32 × zM) (ls : List (Nat × zV)), zl_get ls 0 = some (.inr (.inr (1, (some t0)))) → zl_get ls 1 = some (.inl v1) → zl_get ls 2 = some (.inl v2) → do_wrongThings_4  d fuel t0 v1 v2 M = some so → Ev zq_T d 151 4 ls [] M (some (.inl so.1), so.2) := by
  intro fuel
  induction fuel with
  | zero => intro t0 v1 v2 M so ls g0 g1 g2 hs; exact nomatch hs
  | succ fuel ih =>
    intro t0 v1 v2 M so ls g0 g1 g2 hs
    unfold do_wrongThings_4 at hs
    refine e_ildn cd_151_4 g2 ?_
    refine e_aldn cd_151_5 g0 ?_
    refine e_getI cd_151_6 (Or.inl fd_151_39) rfl ?_
    refine k_if hs (fun c1 hs => ?_) (fun c1 hs => ?_)
    · refine e_icJ cd_151_9 rfl c1 ?_
      refine e_ildn cd_151_35 g1 ?_
      have e := Option.some.inj hs
      subst e
      exact e_ri cd_151_36 nr_151
    · refine e_icN cd_151_9 rfl c1 ?_
      refine e_ildn cd_151_12 g1 ?_
      refine e_aldn cd_151_13 g0 ?_
      refine e_getR cd_151_14 fd_151_24 rfl ?_
      refine e_ildn cd_151_17 g2 ?_
      refine k_opt hs (fun _ q => nomatch q) (fun k2 h3 hs => ?_)
      obtain ⟨c4, hs⟩ := z_ite hs
      refine e_iald cd_151_18 rfl h3 c4 ?_
      refine k_if hs (fun c5 hs => ?_) (fun c5 hs => ?_)
      · refine e_izN cd_151_19 rfl (fun q => q c5) ?_
        refine e_const cd_151_22 ci_1 ?_
        refine e_goto cd_151_23 rfl ?_
        exact tie_do_wrongThings_27 (fun p0 p1 p2 m => do_wrongThings_4  d fuel p0 p1 p2 m) d ih t0 v2 v1 1 M so _ g0 g2 hs
      · refine e_izJ cd_151_19 rfl c5 ?_
        refine e_const cd_151_26 ci_0 ?_
        exact tie_do_wrongThings_27 (fun p0 p1 p2 m => do_wrongThings_4  d fuel p0 p1 p2 m) d ih t0 v2 v1 0 M so _ g0 g2 hs
theorem tie_do_wrongThings (d : Nat) (a0 : Nat) (M : zM) (so : Int32 × zM) (hs : do_wrongThings d a0 M = some so) : Ev zq_T d 151 0 (zl_args 0 [.inr (.inr (1, some a0))]) [] M (some (.inl so.1), so.2) := by
  unfold do_wrongThings at hs
  have g0 : zl_get (zl_args 0 [.inr (.inr (1, some a0))]) 0 = some (.inr (.inr (1, (some a0)))) := rfl
  refine e_const cd_151_0 ci_0 ?_
  refine e_iKn cd_151_1 nl_151 rfl rfl ?_
  intro _ gn kp
  have u1 := kp 0 _ g0 rfl rfl
  have u2 := gn
  refine e_const cd_151_2 ci_0 ?_
  refine e_iKn cd_151_3 nl_151 rfl rfl ?_
  intro _ gn kp
  have u3 := kp 0 _ u1 rfl rfl
  have u4 := kp 1 _ u2 rfl rfl
  have u5 := gn
  exact tie_do_wrongThings_4  d  zLF a0 0 0 M so _ u3 u4 u5 hs
theorem tie_do_wrongThing_31 (kl4 : Nat → Int32 → Int32 → Int32 → zM → Option (Int32 × zM)) (d : Nat) (hk4 : ∀ (t0 : Nat) (v1 : Int32) (v2 : Int32) (v3 : Int32) (M : zM) (so : Int32 × zM) (ls : List (Nat × zV)), zl_get ls 0 = some (.inr (.inr (1, (some t0)))) → zl_get ls 1 = some (.inl v1) → zl_get ls 2 = some (.inl v2) → zl_get ls 3 = some (.inl v3) → kl4 t0 v1 v2 v3 M = some so → Ev zq_T d 152 4 ls [] M (some (.inl so.1), so.2)) (t0 : Nat) (v1 : Int32) (v2 : Int32) (v3 : Int32) (M : zM) (so : Int32 × zM) (ls : List (Nat × zV)) (g0 : zl_get ls 0 = some (.inr (.inr (1, (some t0))))) (g1 : zl_get ls 1 = some (.inl v1)) (g2 : zl_get ls 2 = some (.inl v2)) (g3 : zl_get ls 3 = some (.inl v3)) (hs : do_wrongThing_31 kl4 d t0 v1 v2 v3 M = some so) : Ev zq_T d 152 31 ls [] M (some (.inl so.1), so.2) := by
  unfold do_wrongThing_31 at hs
  refine k_let hs (fun x1 e2 hs => ?_)
  refine e_incK cd_152_31 nl_152 rfl g3 ci_1 e2 ?_
  intro _ gn kp
  have u3 := kp 0 _ g0 rfl rfl
  have u4 := kp 1 _ g1 rfl rfl
  have u5 := kp 2 _ g2 rfl rfl
  have u6 := gn
  refine e_goto cd_152_34 rfl ?_
  exact hk4 t0 v1 v2 x1 M so _ u3 u4 u5 u6 hs
theorem tie_do_wrongThing_4  (d : Nat)  : ∀ (fuel : Nat) (t0 : Nat) (v1 : Int32) (v2 : Int32) (v3 : Int32) (M : zM) (so : Int32 × zM) (ls : List (Nat × zV)), zl_get ls 0 = some (.inr (.inr (1, (some t0)))) → zl_get ls 1 = some (.inl v1) → zl_get ls 2 = some (.inl v2) → zl_get ls 3 = some (.inl v3) → do_wrongThing_4  d fuel t0 v1 v2 v3 M = some so → Ev zq_T d 152 4 ls [] M (some (.inl so.1), so.2) := by
  intro fuel
  induction fuel with
  | zero => intro t0 v1 v2 v3 M so ls g0 g1 g2 g3 hs; exact nomatch hs
  | succ fuel ih =>
    intro t0 v1 v2 v3 M so ls g0 g1 g2 g3 hs
    unfold do_wrongThing_4 at hs
    refine e_ildn cd_152_4 g3 ?_
    refine e_aldn cd_152_5 g0 ?_
    refine e_getI cd_152_6 (Or.inl fd_152_39) rfl ?_
    refine k_if hs (fun c1 hs => ?_) (fun c1 hs => ?_)
    · refine e_icJ cd_152_9 rfl c1 ?_
      refine e_const cd_152_37 ci_m1 ?_
      have e := Option.some.inj hs
      subst e
      exact e_ri cd_152_38 nr_152
    · refine e_icN cd_152_9 rfl c1 ?_
      refine e_aldn cd_152_12 g0 ?_
      refine e_getR cd_152_13 fd_152_24 rfl ?_
      refine e_ildn cd_152_16 g3 ?_
      refine k_opt hs (fun _ q => nomatch q) (fun k2 h3 hs => ?_)
      obtain ⟨c4, hs⟩ := z_ite hs
      refine e_iald cd_152_17 rfl h3 c4 ?_
      refine k_if hs (fun c5 hs => ?_) (fun c5 hs => ?_)
      · refine e_izN cd_152_18 rfl (fun q => q c5) ?_
        refine e_ildn cd_152_21 g2 ?_
        refine e_ildn cd_152_22 g1 ?_
        refine k_if hs (fun c6 hs => ?_) (fun c6 hs => ?_)
        · refine e_icN cd_152_23 rfl (fun q => q c6) ?_
          refine e_ildn cd_152_26 g3 ?_
          have e := Option.some.inj hs
          subst e
          exact e_ri cd_152_27 nr_152
        · refine e_icJ cd_152_23 rfl c6 ?_
          refine k_let hs (fun x7 e8 hs => ?_)
          refine e_incK cd_152_28 nl_152 rfl g2 ci_1 e8 ?_
          intro _ gn kp
          have u9 := kp 0 _ g0 rfl rfl
          have u10 := kp 1 _ g1 rfl rfl
          have u11 := kp 3 _ g3 rfl rfl
          have u12 := gn
          exact tie_do_wrongThing_31 (fun p0 p1 p2 p3 m => do_wrongThing_4  d fuel p0 p1 p2 p3 m) d ih t0 v1 x7 v3 M so _ u9 u10 u12 u11 hs
      · refine e_izJ cd_152_18 rfl c5 ?_
        exact tie_do_wrongThing_31 (fun p0 p1 p2 p3 m => do_wrongThing_4  d fuel p0 p1 p2 p3 m) d ih t0 v1 v2 v3 M so _ g0 g1 g2 g3 hs
theorem tie_do_wrongThing (d : Nat) (a0 : Nat) (a1 : Int32) (M : zM) (so : Int32 × zM) (hs : do_wrongThing d a0 a1 M = some so) : Ev zq_T d 152 0 (zl_args 0 [.inr (.inr (1, some a0)), .inl a1]) [] M (some (.inl so.1), so.2) := by
  unfold do_wrongThing at hs
  have g0 : zl_get (zl_args 0 [.inr (.inr (1, some a0)), .inl a1]) 0 = some (.inr (.inr (1, (some a0)))) := rfl
  have g1 : zl_get (zl_args 0 [.inr (.inr (1, some a0)), .inl a1]) 1 = some (.inl a1) := rfl
  refine e_const cd_152_0 ci_0 ?_
  refine e_iKn cd_152_1 nl_152 rfl rfl ?_
  intro _ gn kp
  have u1 := kp 0 _ g0 rfl rfl
  have u2 := kp 1 _ g1 rfl rfl
  have u3 := gn
  refine e_const cd_152_2 ci_0 ?_
  refine e_iKn cd_152_3 nl_152 rfl rfl ?_
  intro _ gn kp
  have u4 := kp 0 _ u1 rfl rfl
  have u5 := kp 1 _ u2 rfl rfl
  have u6 := kp 2 _ u3 rfl rfl
  have u7 := gn
  exact tie_do_wrongThing_4  d  zLF a0 a1 0 0 M so _ u4 u5 u6 u7 hs
theorem tie_do_fullest_34 (kl4 : Nat → Int32 → Int32 → zM → Option (Int32 × zM)) (d : Nat) (hk4 : ∀ (t0 : Nat) (v1 : Int32) (v2 : Int32) (M : zM) (so : Int32 × zM) (ls : List (Nat × zV)), zl_get ls 0 = some (.inr (.inr (1, (some t0)))) → zl_get ls 1 = some (.inl v1) → zl_get ls 2 = some (.inl v2) → kl4 t0 v1 v2 M = some so → Ev zq_T d 153 4 ls [] M (some (.inl so.1), so.2)) (t0 : Nat) (v1 : Int32) (v2 : Int32) (M : zM) (so : Int32 × zM) (ls : List (Nat × zV)) (g0 : zl_get ls 0 = some (.inr (.inr (1, (some t0))))) (g1 : zl_get ls 1 = some (.inl v1)) (g2 : zl_get ls 2 = some (.inl v2)) (hs : do_fullest_34 kl4 d t0 v1 v2 M = some so) : Ev zq_T d 153 34 ls [] M (some (.inl so.1), so.2) := by
  unfold do_fullest_34 at hs
  refine k_let hs (fun x1 e2 hs => ?_)
  refine e_incK cd_153_34 nl_153 rfl g2 ci_1 e2 ?_
  intro _ gn kp
  have u3 := kp 0 _ g0 rfl rfl
  have u4 := kp 1 _ g1 rfl rfl
  have u5 := gn
  refine e_goto cd_153_37 rfl ?_
  exact hk4 t0 v1 x1 M so _ u3 u4 u5 hs
theorem tie_do_fullest_32 (kl4 : Nat → Int32 → Int32 → zM → Option (Int32 × zM)) (d : Nat) (hk4 : ∀ (t0 : Nat) (v1 : Int32) (v2 : Int32) (M : zM) (so : Int32 × zM) (ls : List (Nat × zV)), zl_get ls 0 = some (.inr (.inr (1, (some t0)))) → zl_get ls 1 = some (.inl v1) → zl_get ls 2 = some (.inl v2) → kl4 t0 v1 v2 M = some so → Ev zq_T d 153 4 ls [] M (some (.inl so.1), so.2)) (t0 : Nat) (v2 : Int32) (M : zM) (so : Int32 × zM) (ls : List (Nat × zV)) (g0 : zl_get ls 0 = some (.inr (.inr (1, (some t0))))) (g2 : zl_get ls 2 = some (.inl v2)) (hs : do_fullest_32 kl4 d t0 v2 M = some so) : Ev zq_T d 153 32 ls [] M (some (.inl so.1), so.2) := by
  unfold do_fullest_32 at hs
  refine e_ildn cd_153_32 g2 ?_
  refine e_iKn cd_153_33 nl_153 rfl rfl ?_
  intro _ gn kp
  have u1 := kp 0 _ g0 rfl rfl
  have u2 := kp 2 _ g2 rfl rfl
  have u3 := gn
  exact tie_do_fullest_34 kl4 d hk4 t0 v2 v2 M so _ u1 u3 u2 hs
theorem tie_do_fullest_4  (d : Nat)  : ∀ (fuel : Nat) (t0 : Nat) (v1 : Int32) (v2 : Int32) (M : zM) (so : Int32 × zM) (ls : List (Nat × zV)), zl_get ls 0 = some (.inr (.inr (1, (some t0)))) → zl_get ls 1 = some (.inl v1) → zl_get ls 2 = some (.inl v2) → do_fullest_4  d fuel t0 v1 v2 M = some so → Ev zq_T d 153 4 ls [] M (some (.inl so.1), so.2) := by
  intro fuel
  induction fuel with
  | zero => intro t0 v1 v2 M so ls g0 g1 g2 hs; exact nomatch hs
  | succ fuel ih =>
    intro t0 v1 v2 M so ls g0 g1 g2 hs
    unfold do_fullest_4 at hs
    refine e_ildn cd_153_4 g2 ?_
    refine e_aldn cd_153_5 g0 ?_
    refine e_getI cd_153_6 (Or.inl fd_153_39) rfl ?_
    refine k_if hs (fun c1 hs => ?_) (fun c1 hs => ?_)
    · refine e_icJ cd_153_9 rfl c1 ?_
      refine e_ildn cd_153_40 g1 ?_
      have e := Option.some.inj hs
      subst e
      exact e_ri cd_153_41 nr_153
    · refine e_icN cd_153_9 rfl c1 ?_
      refine e_ildn cd_153_12 g1 ?_
      refine e_const cd_153_13 ci_m1 ?_
      refine k_if hs (fun c2 hs => ?_) (fun c2 hs => ?_)
      · refine e_icJ cd_153_14 rfl c2 ?_
        exact tie_do_fullest_32 (fun p0 p1 p2 m => do_fullest_4  d fuel p0 p1 p2 m) d ih t0 v2 M so _ g0 g2 hs
      · refine e_icN cd_153_14 rfl c2 ?_
        refine e_aldn cd_153_17 g0 ?_
        refine e_getR cd_153_18 fd_153_18 rfl ?_
        refine e_ildn cd_153_21 g2 ?_
        refine k_opt hs (fun _ q => nomatch q) (fun k3 h4 hs => ?_)
        obtain ⟨c5, hs⟩ := z_ite hs
        refine e_iald cd_153_22 rfl h4 c5 ?_
        refine e_aldn cd_153_23 g0 ?_
        refine e_getR cd_153_24 fd_153_18 rfl ?_
        refine e_ildn cd_153_27 g1 ?_
        refine k_opt hs (fun _ q => nomatch q) (fun k6 h7 hs => ?_)
        obtain ⟨c8, hs⟩ := z_ite hs
        refine e_iald cd_153_28 rfl h7 c8 ?_
        refine k_if hs (fun c9 hs => ?_) (fun c9 hs => ?_)
        · refine e_icJ cd_153_29 rfl c9 ?_
          exact tie_do_fullest_34 (fun p0 p1 p2 m => do_fullest_4  d fuel p0 p1 p2 m) d ih t0 v1 v2 M so _ g0 g1 g2 hs
        · refine e_icN cd_153_29 rfl c9 ?_
          exact tie_do_fullest_32 (fun p0 p1 p2 m => do_fullest_4  d fuel p0 p1 p2 m) d ih t0 v2 M so _ g0 g2 hs
theorem tie_do_fullest (d : Nat) (a0 : Nat) (M : zM) (so : Int32 × zM) (hs : do_fullest d a0 M = some so) : Ev zq_T d 153 0 (zl_args 0 [.inr (.inr (1, some a0))]) [] M (some (.inl so.1), so.2) := by
  unfold do_fullest at hs
  have g0 : zl_get (zl_args 0 [.inr (.inr (1, some a0))]) 0 = some (.inr (.inr (1, (some a0)))) := rfl
  refine e_const cd_153_0 ci_m1 ?_
  refine e_iKn cd_153_1 nl_153 rfl rfl ?_
  intro _ gn kp
  have u1 := kp 0 _ g0 rfl rfl
  have u2 := gn
  refine e_const cd_153_2 ci_0 ?_
  refine e_iKn cd_153_3 nl_153 rfl rfl ?_
  intro _ gn kp
  have u3 := kp 0 _ u1 rfl rfl
  have u4 := kp 1 _ u2 rfl rfl
  have u5 := gn
  exact tie_do_fullest_4  d  zLF a0 (-1) 0 M so _ u3 u4 u5 hs
theorem tie_do_deepest_4  (d : Nat)  : ∀ (fuel : Nat) (t0 : Nat) (v1 : Int32) (v2 : Int32) (M : zM) (so : Int32 × zM) (ls : List (Nat × zV)), zl_get ls 0 = some (.inr (.inr (1, (some t0)))) → zl_get ls 1 = some (.inl v1) → zl_get ls 2 = some (.inl v2) → do_deepest_4  d fuel t0 v1 v2 M = some so → Ev zq_T d 154 4 ls [] M (some (.inl so.1), so.2) := by
  intro fuel
  induction fuel with
  | zero => intro t0 v1 v2 M so ls g0 g1 g2 hs; exact nomatch hs
  | succ fuel ih =>
    intro t0 v1 v2 M so ls g0 g1 g2 hs
    unfold do_deepest_4 at hs
    refine e_ildn cd_154_4 g2 ?_
    refine e_aldn cd_154_5 g0 ?_
    refine e_getI cd_154_6 (Or.inl fd_154_39) rfl ?_
    refine k_if hs (fun c1 hs => ?_) (fun c1 hs => ?_)
    · refine e_icJ cd_154_9 rfl c1 ?_
      refine e_ildn cd_154_31 g1 ?_
      have e := Option.some.inj hs
      subst e
      exact e_ri cd_154_32 nr_154
    · refine e_icN cd_154_9 rfl c1 ?_
      refine e_ildn cd_154_12 g1 ?_
      refine e_aldn cd_154_13 g0 ?_
      refine e_getR cd_154_14 fd_154_21 rfl ?_
      refine e_ildn cd_154_17 g2 ?_
      refine k_opt hs (fun _ q => nomatch q) (fun k2 h3 hs => ?_)
      obtain ⟨c4, hs⟩ := z_ite hs
      refine e_iald cd_154_18 rfl h3 c4 ?_
      refine e_const cd_154_19 ci_1 ?_
      refine e_pure cd_154_20 rfl ?_
      refine e_max cd_154_21 kd_154_104 rfl ?_
      refine k_let hs (fun x5 e6 hs => ?_)
      refine e_iKn cd_154_24 nl_154 rfl e6 ?_
      intro _ gn kp
      have u7 := kp 0 _ g0 rfl rfl
      have u8 := kp 2 _ g2 rfl rfl
      have u9 := gn
      refine k_let hs (fun x10 e11 hs => ?_)
      refine e_incK cd_154_25 nl_154 rfl u8 ci_1 e11 ?_
      intro _ gn kp
      have u12 := kp 0 _ u7 rfl rfl
      have u13 := kp 1 _ u9 rfl rfl
      have u14 := gn
      refine e_goto cd_154_28 rfl ?_
      exact ih t0 x5 x10 M so _ u12 u13 u14 hs
theorem tie_do_deepest (d : Nat) (a0 : Nat) (M : zM) (so : Int32 × zM) (hs : do_deepest d a0 M = some so) : Ev zq_T d 154 0 (zl_args 0 [.inr (.inr (1, some a0))]) [] M (some (.inl so.1), so.2) := by
  unfold do_deepest at hs
  have g0 : zl_get (zl_args 0 [.inr (.inr (1, some a0))]) 0 = some (.inr (.inr (1, (some a0)))) := rfl
  refine e_const cd_154_0 ci_0 ?_
  refine e_iKn cd_154_1 nl_154 rfl rfl ?_
  intro _ gn kp
  have u1 := kp 0 _ g0 rfl rfl
  have u2 := gn
  refine e_const cd_154_2 ci_0 ?_
  refine e_iKn cd_154_3 nl_154 rfl rfl ?_
  intro _ gn kp
  have u3 := kp 0 _ u1 rfl rfl
  have u4 := kp 1 _ u2 rfl rfl
  have u5 := gn
  exact tie_do_deepest_4  d  zLF a0 0 0 M so _ u3 u4 u5 hs
theorem tie_do_write_30  (d : Nat)   (M : zM) (so : zM) (ls : List (Nat × zV))  (hs : do_write_30  d  M = some so) : Ev zq_T d 159 30 ls [] M (none, so) := by
  unfold do_write_30 at hs
  have e := Option.some.inj hs
  subst e
  exact e_rv cd_159_30 nr_159
theorem tie_do_write (d : Nat) (a0 : Nat) (a1 : Int32) (M : zM) (so : zM) (hs : do_write d a0 a1 M = some so) : Ev zq_T d 159 0 (zl_args 0 [.inr (.inr (1, some a0)), .inl a1]) [] M (none, so) := by
  unfold do_write at hs
  have g0 : zl_get (zl_args 0 [.inr (.inr (1, some a0)), .inl a1]) 0 = some (.inr (.inr (1, (some a0)))) := rfl
  have g1 : zl_get (zl_args 0 [.inr (.inr (1, some a0)), .inl a1]) 1 = some (.inl a1) := rfl
  refine e_aldn cd_159_0 g0 ?_
  refine e_getI cd_159_1 (Or.inl fd_159_110) rfl ?_
  refine e_sip cd_159_4 cs_160 ?_
  refine k_if hs (fun c1 hs => ?_) (fun c1 hs => ?_)
  · refine e_icJ cd_159_7 rfl c1 ?_
    exact tie_do_write_30  d   M so _  hs
  · refine e_icN cd_159_7 rfl c1 ?_
    refine e_aldn cd_159_10 g0 ?_
    refine e_getR cd_159_11 fd_159_36 rfl ?_
    refine e_aldn cd_159_14 g0 ?_
    refine e_getI cd_159_15 (Or.inl fd_159_110) rfl ?_
    refine e_ildn cd_159_18 g1 ?_
    refine k_opt hs (fun _ q => nomatch q) (fun k2 h3 hs => ?_)
    obtain ⟨c4, hs⟩ := z_ite hs
    refine k_let hs (fun M5 e6 hs => ?_)
    refine e_iast cd_159_19 rfl h3 c4 e6 ?_
    refine e_aldn cd_159_20 g0 ?_
    refine e_pure cd_159_21 rfl ?_
    refine e_getI cd_159_22 (Or.inl fd_159_110) rfl ?_
    refine e_const cd_159_25 ci_1 ?_
    refine e_pure cd_159_26 rfl ?_
    refine k_let hs (fun M7 e8 hs => ?_)
    refine e_putI cd_159_27 pd_159_110 rfl e8 ?_
    exact tie_do_write_30  d   M7 so _  hs
theorem tie_do_write2_2  (d : Nat)  : ∀ (fuel : Nat) (t0 : Nat) (v1 : Option Nat) (v2 : Int32) (M : zM) (so : zM) (ls : List (Nat × zV)), zl_get ls 0 = some (.inr (.inr (1, (some t0)))) → zl_get ls 1 = some (.inr (.inr (91, v1))) → zl_get ls 2 = some (.inl v2) → do_write2_2  d fuel t0 v1 v2 M = some so → Ev zq_T (d + 1) 160 2 ls [] M (none, so) := by
  intro fuel
  induction fuel with
  | zero => intro t0 v1 v2 M so ls g0 g1 g2 hs; exact nomatch hs
  | succ fuel ih =>
    intro t0 v1 v2 M so ls g0 g1 g2 hs
    unfold do_write2_2 at hs
    refine e_ildn cd_160_2 g2 ?_
    refine e_aldn cd_160_3 g1 ?_
    refine k_opt hs (fun _ q => nomatch q) (fun k1 h2 hs => ?_)
    obtain ⟨x3, h4, hs⟩ := k_bind hs
    rw [h2]
    refine e_ext cd_160_4 kd_160_139 rfl rfl rfl rfl rfl h4 ?_
    refine k_if hs (fun c5 hs => ?_) (fun c5 hs => ?_)
    · refine e_icJ cd_160_7 rfl c5 ?_
      have e := Option.some.inj hs
      subst e
      exact e_rv cd_160_25 nr_160
    · refine e_icN cd_160_7 rfl c5 ?_
      refine e_aldn cd_160_10 g0 ?_
      refine e_aldn cd_160_11 g1 ?_
      refine e_ildn cd_160_12 g2 ?_
      obtain ⟨x6, h7, hs⟩ := k_bind hs
      rw [h2]
      refine e_ext cd_160_13 kd_160_144 rfl rfl rfl rfl rfl h7 ?_
      obtain ⟨q8, h9, hs⟩ := k_bind hs
      refine e_cvi cd_160_16 kd_160_113 rfl rfl rfl rfl rfl nl_159 rfl rfl (tie_do_write d t0 x6 M _ h9) ?_
      refine k_let hs (fun x10 e11 hs => ?_)
      refine e_incK cd_160_19 nl_160 rfl g2 ci_1 e11 ?_
      intro _ gn kp
      have u12 := kp 0 _ g0 rfl rfl
      have u13 := kp 1 _ g1 rfl rfl
      have u14 := gn
      refine e_goto cd_160_22 rfl ?_
      exact ih t0 v1 x10 q8 so _ u12 u13 u14 hs
theorem tieb_do_write2  (d : Nat)  (a0 : Nat) (a1 : Option Nat) (M : zM) (so : zM) (hs : do_write2_b  d a0 a1 M = some so) : Ev zq_T (d + 1) 160 0 (zl_args 0 [.inr (.inr (1, some a0)), .inr (.inr (91, a1))]) [] M (none, so) := by
  unfold do_write2_b at hs
  have g0 : zl_get (zl_args 0 [.inr (.inr (1, some a0)), .inr (.inr (91, a1))]) 0 = some (.inr (.inr (1, (some a0)))) := rfl
  have g1 : zl_get (zl_args 0 [.inr (.inr (1, some a0)), .inr (.inr (91, a1))]) 1 = some (.inr (.inr (91, a1))) := rfl
  refine e_const cd_160_0 ci_0 ?_
  refine e_iKn cd_160_1 nl_160 rfl rfl ?_
  intro _ gn kp
  have u1 := kp 0 _ g0 rfl rfl
  have u2 := kp 1 _ g1 rfl rfl
  have u3 := gn
  exact tie_do_write2_2  d  zLF a0 a1 0 M so _ u1 u2 u3 hs
theorem tie_do_write2 (d : Nat) (a0 : Nat) (a1 : Option Nat) (M : zM) (so : zM) (hs : do_write2 d a0 a1 M = some so) : Ev zq_T d 160 0 (zl_args 0 [.inr (.inr (1, some a0)), .inr (.inr (91, a1))]) [] M (none, so) := by
  cases d with
  | zero => exact nomatch hs
  | succ d => exact tieb_do_write2 d a0 a1 M so hs
theorem tie_do_tellWhatCould_48 (kl7 : Nat → Int32 → Int32 → Int32 → zM → Option (zM)) (d : Nat) (hk7 : ∀ (t0 : Nat) (v1 : Int32) (v2 : Int32) (v3 : Int32) (M : zM) (so : zM) (ls : List (Nat × zV)), zl_get ls 0 = some (.inr (.inr (1, (some t0)))) → zl_get ls 1 = some (.inl v1) → zl_get ls 2 = some (.inl v2) → zl_get ls 3 = some (.inl v3) → kl7 t0 v1 v2 v3 M = some so → Ev zq_T (d + 1) 156 7 ls [] M (none, so)) (t0 : Nat) (v1 : Int32) (v2 : Int32) (v3 : Int32) (M : zM) (so : zM) (ls : List (Nat × zV)) (g0 : zl_get ls 0 = some (.inr (.inr (1, (some t0))))) (g1 : zl_get ls 1 = some (.inl v1)) (g2 : zl_get ls 2 = some (.inl v2)) (g3 : zl_get ls 3 = some (.inl v3)) (hs : do_tellWhatCould_48 kl7 d t0 v1 v2 v3 M = some so) : Ev zq_T (d + 1) 156 48 ls [] M (none, so) := by
  unfold do_tellWhatCould_48 at hs
  refine k_let hs (fun x1 e2 hs => ?_)
  refine e_incK cd_156_48 nl_156 rfl g3 ci_1 e2 ?_
  intro _ gn kp
  have u3 := kp 0 _ g0 rfl rfl
  have u4 := kp 1 _ g1 rfl rfl
  have u5 := kp 2 _ g2 rfl rfl
  have u6 := gn
  refine e_goto cd_156_51 rfl ?_
  exact hk7 t0 v1 v2 x1 M so _ u3 u4 u5 u6 hs
theorem tie_do_tellWhatCould_40 (kl7 : Nat → Int32 → Int32 → Int32 → zM → Option (zM)) (d : Nat) (hk7 : ∀ (t0 : Nat) (v1 : Int32) (v2 : Int32) (v3 : Int32) (M : zM) (so : zM) (ls : List (Nat × zV)), zl_get ls 0 = some (.inr (.inr (1, (some t0)))) → zl_get ls 1 = some (.inl v1) → zl_get ls 2 = some (.inl v2) → zl_get ls 3 = some (.inl v3) → kl7 t0 v1 v2 v3 M = some so → Ev zq_T (d + 1) 156 7 ls [] M (none, so)) (t0 : Nat) (v1 : Int32) (v2 : Int32) (v3 : Int32) (M : zM) (so : zM) (ls : List (Nat × zV)) (g0 : zl_get ls 0 = some (.inr (.inr (1, (some t0))))) (g1 : zl_get ls 1 = some (.inl v1)) (g2 : zl_get ls 2 = some (.inl v2)) (g3 : zl_get ls 3 = some (.inl v3)) (hs : do_tellWhatCould_40 kl7 d t0 v1 v2 v3 M = some so) : Ev zq_T (d + 1) 156 40 ls [] M (none, so) := by
  unfold do_tellWhatCould_40 at hs
  refine e_aldn cd_156_40 g0 ?_
  refine e_bip cd_156_41 cb_97 ?_
  refine e_ildn cd_156_43 g3 ?_
  refine e_pure cd_156_44 rfl ?_
  obtain ⟨q1, h2, hs⟩ := k_bind hs
  refine e_cvi cd_156_45 kd_156_113 rfl rfl rfl rfl rfl nl_159 rfl rfl (tie_do_write d t0 (97 + v3) M _ h2) ?_
  exact tie_do_tellWhatCould_48 kl7 d hk7 t0 v1 v2 v3 q1 so _ g0 g1 g2 g3 hs
theorem tie_do_tellWhatCould_83  (d : Nat)   (M : zM) (so : zM) (ls : List (Nat × zV))  (hs : do_tellWhatCould_83  d  M = some so) : Ev zq_T (d + 1) 156 83 ls [] M (none, so) := by
  unfold do_tellWhatCould_83 at hs
  have e := Option.some.inj hs
  subst e
  exact e_rv cd_156_83 nr_156
theorem tie_do_tellWhatCould_77  (d : Nat)  (t0 : Nat) (M : zM) (so : zM) (ls : List (Nat × zV)) (g0 : zl_get ls 0 = some (.inr (.inr (1, (some t0))))) (hs : do_tellWhatCould_77  d t0 M = some so) : Ev zq_T (d + 1) 156 77 ls [] M (none, so) := by
  unfold do_tellWhatCould_77 at hs
  refine e_aldn cd_156_77 g0 ?_
  refine e_ldcS cd_156_78 od_156_128 ?_
  obtain ⟨q1, h2, hs⟩ := k_bind hs
  refine e_cvi cd_156_80 kd_156_122 rfl rfl rfl rfl rfl nl_160 rfl rfl (tie_do_write2 d t0 (some 1) M _ h2) ?_
  exact tie_do_tellWhatCould_83  d   q1 so _  hs
theorem tie_do_tellWhatCould_7  (d : Nat)  : ∀ (fuel : Nat) (t0 : Nat) (v1 : Int32) (v2 : Int32) (v3 : Int32) (M : zM) (so : zM) (ls : List (Nat × zV)), zl_get ls 0 = some (.inr (.inr (1, (some t0)))) → zl_get ls 1 = some (.inl v1) → zl_get ls 2 = some (.inl v2) → zl_get ls 3 = some (.inl v3) → do_tellWhatCould_7  d fuel t0 v1 v2 v3 M = some so → Ev zq_T (d + 1) 156 7 ls [] M (none, so) := by
  intro fuel
  induction fuel with
  | zero => intro t0 v1 v2 v3 M so ls g0 g1 g2 g3 hs; exact nomatch hs
  | succ fuel ih =>
    intro t0 v1 v2 v3 M so ls g0 g1 g2 g3 hs
    unfold do_tellWhatCould_7 at hs
    refine e_ildn cd_156_7 g3 ?_
    refine e_bip cd_156_8 cb_26 ?_
    refine k_if hs (fun c1 hs => ?_) (fun c1 hs => ?_)
    · refine e_icJ cd_156_10 rfl c1 ?_
      refine e_aldn cd_156_54 g0 ?_
      refine e_getR cd_156_55 fd_156_33 rfl ?_
      refine e_ildn cd_156_58 g1 ?_
      refine k_opt hs (fun _ q => nomatch q) (fun k2 h3 hs => ?_)
      obtain ⟨c4, hs⟩ := z_ite hs
      refine e_iald cd_156_59 rfl h3 c4 ?_
      refine k_if hs (fun c5 hs => ?_) (fun c5 hs => ?_)
      · refine e_izJ cd_156_60 rfl c5 ?_
        exact tie_do_tellWhatCould_83  d   M so _  hs
      · refine e_izN cd_156_60 rfl c5 ?_
        refine e_aldn cd_156_63 g0 ?_
        refine e_getI cd_156_64 (Or.inl fd_156_110) rfl ?_
        refine e_ildn cd_156_67 g2 ?_
        refine k_if hs (fun c6 hs => ?_) (fun c6 hs => ?_)
        · refine e_icJ cd_156_68 rfl c6 ?_
          exact tie_do_tellWhatCould_77  d  t0 M so _ g0 hs
        · refine e_icN cd_156_68 rfl c6 ?_
          refine e_aldn cd_156_71 g0 ?_
          refine e_ldcS cd_156_72 od_156_137 ?_
          obtain ⟨q7, h8, hs⟩ := k_bind hs
          refine e_cvi cd_156_74 kd_156_122 rfl rfl rfl rfl rfl nl_160 rfl rfl (tie_do_write2 d t0 (some 4) M _ h8) ?_
          exact tie_do_tellWhatCould_77  d  t0 q7 so _ g0 hs
    · refine e_icN cd_156_10 rfl c1 ?_
      refine e_aldn cd_156_13 g0 ?_
      refine e_getR cd_156_14 fd_156_30 rfl ?_
      refine e_ildn cd_156_17 g1 ?_
      refine k_opt hs (fun _ q => nomatch q) (fun k9 h10 hs => ?_)
      obtain ⟨c11, hs⟩ := z_ite hs
      refine e_iald cd_156_18 rfl h10 c11 ?_
      refine e_ildn cd_156_19 g3 ?_
      refine e_pure cd_156_20 rfl ?_
      refine e_const cd_156_21 ci_1 ?_
      refine e_pure cd_156_22 rfl ?_
      refine k_if hs (fun c12 hs => ?_) (fun c12 hs => ?_)
      · refine e_izJ cd_156_23 rfl c12 ?_
        exact tie_do_tellWhatCould_48 (fun p0 p1 p2 p3 m => do_tellWhatCould_7  d fuel p0 p1 p2 p3 m) d ih t0 v1 v2 v3 M so _ g0 g1 g2 g3 hs
      · refine e_izN cd_156_23 rfl c12 ?_
        refine e_aldn cd_156_26 g0 ?_
        refine e_getI cd_156_27 (Or.inl fd_156_110) rfl ?_
        refine e_ildn cd_156_30 g2 ?_
        refine k_if hs (fun c13 hs => ?_) (fun c13 hs => ?_)
        · refine e_icJ cd_156_31 rfl c13 ?_
          exact tie_do_tellWhatCould_40 (fun p0 p1 p2 p3 m => do_tellWhatCould_7  d fuel p0 p1 p2 p3 m) d ih t0 v1 v2 v3 M so _ g0 g1 g2 g3 hs
        · refine e_icN cd_156_31 rfl c13 ?_
          refine e_aldn cd_156_34 g0 ?_
          refine e_ldcS cd_156_35 od_156_137 ?_
          obtain ⟨q14, h15, hs⟩ := k_bind hs
          refine e_cvi cd_156_37 kd_156_122 rfl rfl rfl rfl rfl nl_160 rfl rfl (tie_do_write2 d t0 (some 4) M _ h15) ?_
          exact tie_do_tellWhatCould_40 (fun p0 p1 p2 p3 m => do_tellWhatCould_7  d fuel p0 p1 p2 p3 m) d ih t0 v1 v2 v3 q14 so _ g0 g1 g2 g3 hs
theorem tieb_do_tellWhatCould  (d : Nat)  (a0 : Nat) (a1 : Int32) (M : zM) (so : zM) (hs : do_tellWhatCould_b  d a0 a1 M = some so) : Ev zq_T (d + 1) 156 0 (zl_args 0 [.inr (.inr (1, some a0)), .inl a1]) [] M (none, so) := by
  unfold do_tellWhatCould_b at hs
  have g0 : zl_get (zl_args 0 [.inr (.inr (1, some a0)), .inl a1]) 0 = some (.inr (.inr (1, (some a0)))) := rfl
  have g1 : zl_get (zl_args 0 [.inr (.inr (1, some a0)), .inl a1]) 1 = some (.inl a1) := rfl
  refine e_aldn cd_156_0 g0 ?_
  refine e_getI cd_156_1 (Or.inl fd_156_110) rfl ?_
  refine k_let hs (fun x1 e2 hs => ?_)
  refine e_iKn cd_156_4 nl_156 rfl e2 ?_
  intro _ gn kp
  have u3 := kp 0 _ g0 rfl rfl
  have u4 := kp 1 _ g1 rfl rfl
  have u5 := gn
  refine e_const cd_156_5 ci_0 ?_
  refine e_iKn cd_156_6 nl_156 rfl rfl ?_
  intro _ gn kp
  have u6 := kp 0 _ u3 rfl rfl
  have u7 := kp 1 _ u4 rfl rfl
  have u8 := kp 2 _ u5 rfl rfl
  have u9 := gn
  exact tie_do_tellWhatCould_7  d  zLF a0 a1 x1 0 M so _ u6 u7 u8 u9 hs
theorem tie_do_tellWhatCould (d : Nat) (a0 : Nat) (a1 : Int32) (M : zM) (so : zM) (hs : do_tellWhatCould d a0 a1 M = some so) : Ev zq_T d 156 0 (zl_args 0 [.inr (.inr (1, some a0)), .inl a1]) [] M (none, so) := by
  cases d with
  | zero => exact nomatch hs
  | succ d => exact tieb_do_tellWhatCould d a0 a1 M so hs
theorem tie_do_ancestor_39  (d : Nat)  (v3 : Int32) (M : zM) (so : Int32 × zM) (ls : List (Nat × zV)) (g3 : zl_get ls 3 = some (.inl v3)) (hs : do_ancestor_39  d v3 M = some so) : Ev zq_T d 157 39 ls [] M (some (.inl so.1), so.2) := by
  unfold do_ancestor_39 at hs
  refine e_ildn cd_157_39 g3 ?_
  have e := Option.some.inj hs
  subst e
  exact e_ri cd_157_40 nr_157
theorem tie_do_ancestor_10  (d : Nat)  : ∀ (fuel : Nat) (t0 : Nat) (v2 : Int32) (v3 : Int32) (v4 : Int32) (M : zM) (so : Int32 × zM) (ls : List (Nat × zV)), zl_get ls 0 = some (.inr (.inr (1, (some t0)))) → zl_get ls 2 = some (.inl v2) → zl_get ls 3 = some (.inl v3) → zl_get ls 4 = some (.inl v4) → do_ancestor_10  d fuel t0 v2 v3 v4 M = some so → Ev zq_T d 157 10 ls [] M (some (.inl so.1), so.2) := by
  intro fuel
  induction fuel with
  | zero => intro t0 v2 v3 v4 M so ls g0 g2 g3 g4 hs; exact nomatch hs
  | succ fuel ih =>
    intro t0 v2 v3 v4 M so ls g0 g2 g3 g4 hs
    unfold do_ancestor_10 at hs
    refine e_ild cd_157_10 g4 ?_
    refine e_ildn cd_157_12 g2 ?_
    refine k_if hs (fun c1 hs => ?_) (fun c1 hs => ?_)
    · refine e_icJ cd_157_13 rfl c1 ?_
      exact tie_do_ancestor_39  d  v3 M so _ g3 hs
    · refine e_icN cd_157_13 rfl c1 ?_
      refine e_aldn cd_157_16 g0 ?_
      refine e_getR cd_157_17 fd_157_15 rfl ?_
      refine e_ildn cd_157_20 g3 ?_
      refine k_opt hs (fun _ q => nomatch q) (fun k2 h3 hs => ?_)
      obtain ⟨c4, hs⟩ := z_ite hs
      refine e_iald cd_157_21 rfl h3 c4 ?_
      refine e_const cd_157_22 ci_m1 ?_
      refine k_if hs (fun c5 hs => ?_) (fun c5 hs => ?_)
      · refine e_icJ cd_157_23 rfl c5 ?_
        exact tie_do_ancestor_39  d  v3 M so _ g3 hs
      · refine e_icN cd_157_23 rfl c5 ?_
        refine e_aldn cd_157_26 g0 ?_
        refine e_getR cd_157_27 fd_157_15 rfl ?_
        refine e_ildn cd_157_30 g3 ?_
        refine k_opt hs (fun _ q => nomatch q) (fun k6 h7 hs => ?_)
        obtain ⟨c8, hs⟩ := z_ite hs
        refine e_iald cd_157_31 rfl h7 c8 ?_
        refine k_let hs (fun x9 e10 hs => ?_)
        refine e_iKn cd_157_32 nl_157 rfl e10 ?_
        intro _ gn kp
        have u11 := kp 0 _ g0 rfl rfl
        have u12 := kp 2 _ g2 rfl rfl
        have u13 := kp 4 _ g4 rfl rfl
        have u14 := gn
        refine k_let hs (fun x15 e16 hs => ?_)
        refine e_incK cd_157_33 nl_157 rfl u13 ci_m1 e16 ?_
        intro _ gn kp
        have u17 := kp 0 _ u11 rfl rfl
        have u18 := kp 2 _ u12 rfl rfl
        have u19 := kp 3 _ u14 rfl rfl
        have u20 := gn
        refine e_goto cd_157_36 rfl ?_
        exact ih t0 v2 x9 x15 M so _ u17 u18 u19 u20 hs
theorem tie_do_ancestor (d : Nat) (a0 : Nat) (a1 : Int32) (a2 : Int32) (M : zM) (so : Int32 × zM) (hs : do_ancestor d a0 a1 a2 M = some so) : Ev zq_T d 157 0 (zl_args 0 [.inr (.inr (1, some a0)), .inl a1, .inl a2]) [] M (some (.inl so.1), so.2) := by
  unfold do_ancestor at hs
  have g0 : zl_get (zl_args 0 [.inr (.inr (1, some a0)), .inl a1, .inl a2]) 0 = some (.inr (.inr (1, (some a0)))) := rfl
  have g1 : zl_get (zl_args 0 [.inr (.inr (1, some a0)), .inl a1, .inl a2]) 1 = some (.inl a1) := rfl
  have g2 : zl_get (zl_args 0 [.inr (.inr (1, some a0)), .inl a1, .inl a2]) 2 = some (.inl a2) := rfl
  refine e_ildn cd_157_0 g1 ?_
  refine e_iKn cd_157_1 nl_157 rfl rfl ?_
  intro _ gn kp
  have u1 := kp 0 _ g0 rfl rfl
  have u2 := kp 1 _ g1 rfl rfl
  have u3 := kp 2 _ g2 rfl rfl
  have u4 := gn
  refine e_aldn cd_157_2 u1 ?_
  refine e_getR cd_157_3 fd_157_21 rfl ?_
  refine e_ildn cd_157_6 u2 ?_
  refine k_opt hs (fun _ q => nomatch q) (fun k5 h6 hs => ?_)
  obtain ⟨c7, hs⟩ := z_ite hs
  refine e_iald cd_157_7 rfl h6 c7 ?_
  refine k_let hs (fun x8 e9 hs => ?_)
  refine e_iK cd_157_8 nl_157 rfl e9 ?_
  intro _ gn kp
  have u10 := kp 0 _ u1 rfl rfl
  have u11 := kp 2 _ u3 rfl rfl
  have u12 := kp 3 _ u4 rfl rfl
  have u13 := gn
  exact tie_do_ancestor_10  d  zLF a0 a2 a1 x8 M so _ u10 u11 u12 u13 hs
theorem tie_do_heldAt_38 (kl7 : Nat → Int32 → Int32 → Int32 → Int32 → zM → Option (Int32 × zM)) (d : Nat) (hk7 : ∀ (t0 : Nat) (v1 : Int32) (v2 : Int32) (v3 : Int32) (v4 : Int32) (M : zM) (so : Int32 × zM) (ls : List (Nat × zV)), zl_get ls 0 = some (.inr (.inr (1, (some t0)))) → zl_get ls 1 = some (.inl v1) → zl_get ls 2 = some (.inl v2) → zl_get ls 3 = some (.inl v3) → zl_get ls 4 = some (.inl v4) → kl7 t0 v1 v2 v3 v4 M = some so → Ev zq_T d 158 7 ls [] M (some (.inl so.1), so.2)) (t0 : Nat) (v1 : Int32) (v2 : Int32) (v3 : Int32) (v4 : Int32) (M : zM) (so : Int32 × zM) (ls : List (Nat × zV)) (g0 : zl_get ls 0 = some (.inr (.inr (1, (some t0))))) (g1 : zl_get ls 1 = some (.inl v1)) (g2 : zl_get ls 2 = some (.inl v2)) (g3 : zl_get ls 3 = some (.inl v3)) (g4 : zl_get ls 4 = some (.inl v4)) (hs : do_heldAt_38 kl7 d t0 v1 v2 v3 v4 M = some so) : Ev zq_T d 158 38 ls [] M (some (.inl so.1), so.2) := by
  unfold do_heldAt_38 at hs
  refine k_let hs (fun x1 e2 hs => ?_)
  refine e_incK cd_158_38 nl_158 rfl g4 ci_1 e2 ?_
  intro _ gn kp
  have u3 := kp 0 _ g0 rfl rfl
  have u4 := kp 1 _ g1 rfl rfl
  have u5 := kp 2 _ g2 rfl rfl
  have u6 := kp 3 _ g3 rfl rfl
  have u7 := gn
  refine e_goto cd_158_41 rfl ?_
  exact hk7 t0 v1 v2 v3 x1 M so _ u3 u4 u5 u6 u7 hs
theorem tie_do_heldAt_7  (d : Nat)  : ∀ (fuel : Nat) (t0 : Nat) (v1 : Int32) (v2 : Int32) (v3 : Int32) (v4 : Int32) (M : zM) (so : Int32 × zM) (ls : List (Nat × zV)), zl_get ls 0 = some (.inr (.inr (1, (some t0)))) → zl_get ls 1 = some (.inl v1) → zl_get ls 2 = some (.inl v2) → zl_get ls 3 = some (.inl v3) → zl_get ls 4 = some (.inl v4) → do_heldAt_7  d fuel t0 v1 v2 v3 v4 M = some so → Ev zq_T d 158 7 ls [] M (some (.inl so.1), so.2) := by
  intro fuel
  induction fuel with
  | zero => intro t0 v1 v2 v3 v4 M so ls g0 g1 g2 g3 g4 hs; exact nomatch hs
  | succ fuel ih =>
    intro t0 v1 v2 v3 v4 M so ls g0 g1 g2 g3 g4 hs
    unfold do_heldAt_7 at hs
    refine e_ild cd_158_7 g4 ?_
    refine e_aldn cd_158_9 g0 ?_
    refine e_getI cd_158_10 (Or.inl fd_158_39) rfl ?_
    refine k_if hs (fun c1 hs => ?_) (fun c1 hs => ?_)
    · refine e_icJ cd_158_13 rfl c1 ?_
      refine e_const cd_158_44 ci_m1 ?_
      have e := Option.some.inj hs
      subst e
      exact e_ri cd_158_45 nr_158
    · refine e_icN cd_158_13 rfl c1 ?_
      refine e_aldn cd_158_16 g0 ?_
      refine e_getR cd_158_17 fd_158_15 rfl ?_
      refine e_ild cd_158_20 g4 ?_
      refine k_opt hs (fun _ q => nomatch q) (fun k2 h3 hs => ?_)
      obtain ⟨c4, hs⟩ := z_ite hs
      refine e_iald cd_158_22 rfl h3 c4 ?_
      refine e_ildn cd_158_23 g1 ?_
      refine k_if hs (fun c5 hs => ?_) (fun c5 hs => ?_)
      · refine e_icN cd_158_24 rfl (fun q => q c5) ?_
        refine e_ildn cd_158_27 g3 ?_
        refine e_ildn cd_158_28 g2 ?_
        refine k_if hs (fun c6 hs => ?_) (fun c6 hs => ?_)
        · refine e_icN cd_158_29 rfl (fun q => q c6) ?_
          refine e_ild cd_158_32 g4 ?_
          have e := Option.some.inj hs
          subst e
          exact e_ri cd_158_34 nr_158
        · refine e_icJ cd_158_29 rfl c6 ?_
          refine k_let hs (fun x7 e8 hs => ?_)
          refine e_incK cd_158_35 nl_158 rfl g3 ci_1 e8 ?_
          intro _ gn kp
          have u9 := kp 0 _ g0 rfl rfl
          have u10 := kp 1 _ g1 rfl rfl
          have u11 := kp 2 _ g2 rfl rfl
          have u12 := kp 4 _ g4 rfl rfl
          have u13 := gn
          exact tie_do_heldAt_38 (fun p0 p1 p2 p3 p4 m => do_heldAt_7  d fuel p0 p1 p2 p3 p4 m) d ih t0 v1 v2 x7 v4 M so _ u9 u10 u11 u13 u12 hs
      · refine e_icJ cd_158_24 rfl c5 ?_
        exact tie_do_heldAt_38 (fun p0 p1 p2 p3 p4 m => do_heldAt_7  d fuel p0 p1 p2 p3 p4 m) d ih t0 v1 v2 v3 v4 M so _ g0 g1 g2 g3 g4 hs
theorem tie_do_heldAt (d : Nat) (a0 : Nat) (a1 : Int32) (a2 : Int32) (M : zM) (so : Int32 × zM) (hs : do_heldAt d a0 a1 a2 M = some so) : Ev zq_T d 158 0 (zl_args 0 [.inr (.inr (1, some a0)), .inl a1, .inl a2]) [] M (some (.inl so.1), so.2) := by
  unfold do_heldAt at hs
  have g0 : zl_get (zl_args 0 [.inr (.inr (1, some a0)), .inl a1, .inl a2]) 0 = some (.inr (.inr (1, (some a0)))) := rfl
  have g1 : zl_get (zl_args 0 [.inr (.inr (1, some a0)), .inl a1, .inl a2]) 1 = some (.inl a1) := rfl
  have g2 : zl_get (zl_args 0 [.inr (.inr (1, some a0)), .inl a1, .inl a2]) 2 = some (.inl a2) := rfl
  refine e_const cd_158_0 ci_0 ?_
  refine e_iKn cd_158_1 nl_158 rfl rfl ?_
  intro _ gn kp
  have u1 := kp 0 _ g0 rfl rfl
  have u2 := kp 1 _ g1 rfl rfl
  have u3 := kp 2 _ g2 rfl rfl
  have u4 := gn
  refine e_ildn cd_158_2 u2 ?_
  refine e_const cd_158_3 ci_1 ?_
  refine e_pure cd_158_4 rfl ?_
  refine k_let hs (fun x5 e6 hs => ?_)
  refine e_iK cd_158_5 nl_158 rfl e6 ?_
  intro _ gn kp
  have u7 := kp 0 _ u1 rfl rfl
  have u8 := kp 1 _ u2 rfl rfl
  have u9 := kp 2 _ u3 rfl rfl
  have u10 := kp 3 _ u4 rfl rfl
  have u11 := gn
  exact tie_do_heldAt_7  d  zLF a0 a1 a2 0 x5 M so _ u7 u8 u9 u10 u11 hs
theorem tie_do_tell_27 (kl7 : Nat → Int32 → Int32 → zM → Option (zM)) (d : Nat) (hk7 : ∀ (t0 : Nat) (v1 : Int32) (v2 : Int32) (M : zM) (so : zM) (ls : List (Nat × zV)), zl_get ls 0 = some (.inr (.inr (1, (some t0)))) → zl_get ls 1 = some (.inl v1) → zl_get ls 2 = some (.inl v2) → kl7 t0 v1 v2 M = some so → Ev zq_T (d + 1) 155 7 ls [] M (none, so)) (t0 : Nat) (v1 : Int32) (v2 : Int32) (M : zM) (so : zM) (ls : List (Nat × zV)) (g0 : zl_get ls 0 = some (.inr (.inr (1, (some t0))))) (g1 : zl_get ls 1 = some (.inl v1)) (g2 : zl_get ls 2 = some (.inl v2)) (hs : do_tell_27 kl7 d t0 v1 v2 M = some so) : Ev zq_T (d + 1) 155 27 ls [] M (none, so) := by
  unfold do_tell_27 at hs
  refine e_aldn cd_155_27 g0 ?_
  refine e_bip cd_155_28 cb_97 ?_
  refine e_aldn cd_155_30 g0 ?_
  refine e_getR cd_155_31 fd_155_9 rfl ?_
  refine e_aldn cd_155_34 g0 ?_
  refine e_ildn cd_155_35 g1 ?_
  refine e_ildn cd_155_36 g2 ?_
  obtain ⟨q1, h2, hs⟩ := k_bind hs
  refine e_cvi cd_155_37 kd_155_117 rfl rfl rfl rfl rfl nl_157 rfl rfl (tie_do_ancestor d t0 v1 v2 M _ h2) ?_
  refine k_opt hs (fun _ q => nomatch q) (fun k3 h4 hs => ?_)
  obtain ⟨c5, hs⟩ := z_ite hs
  refine e_iald cd_155_40 rfl h4 c5 ?_
  refine e_pure cd_155_41 rfl ?_
  obtain ⟨q6, h7, hs⟩ := k_bind hs
  refine e_cvi cd_155_42 kd_155_113 rfl rfl rfl rfl rfl nl_159 rfl rfl (tie_do_write d t0 (97 + (zm_I q1.2 20 k3 q1.1.toNatClampNeg)) q1.2 _ h7) ?_
  refine k_let hs (fun x8 e9 hs => ?_)
  refine e_incK cd_155_45 nl_155 rfl g2 ci_1 e9 ?_
  intro _ gn kp
  have u10 := kp 0 _ g0 rfl rfl
  have u11 := kp 1 _ g1 rfl rfl
  have u12 := gn
  refine e_goto cd_155_48 rfl ?_
  exact hk7 t0 v1 x8 q6 so _ u10 u11 u12 hs
theorem tie_do_tell_129  (d : Nat)  (t0 : Nat) (v1 : Int32) (M : zM) (so : zM) (ls : List (Nat × zV)) (g0 : zl_get ls 0 = some (.inr (.inr (1, (some t0))))) (g1 : zl_get ls 1 = some (.inl v1)) (hs : do_tell_129  d t0 v1 M = some so) : Ev zq_T (d + 1) 155 129 ls [] M (none, so) := by
  unfold do_tell_129 at hs
  refine e_aldn cd_155_129 g0 ?_
  refine e_bip cd_155_130 cb_48 ?_
  refine e_aldn cd_155_132 g0 ?_
  refine e_getR cd_155_133 fd_155_27 rfl ?_
  refine e_ildn cd_155_136 g1 ?_
  refine k_opt hs (fun _ q => nomatch q) (fun k1 h2 hs => ?_)
  obtain ⟨c3, hs⟩ := z_ite hs
  refine e_iald cd_155_137 rfl h2 c3 ?_
  refine e_bip cd_155_138 cb_10 ?_
  refine e_rem cd_155_140 (by decide) ?_
  refine e_pure cd_155_141 rfl ?_
  obtain ⟨q4, h5, hs⟩ := k_bind hs
  refine e_cvi cd_155_142 kd_155_113 rfl rfl rfl rfl rfl nl_159 rfl rfl (tie_do_write d t0 (48 + ((zm_I M 20 k1 (v1 : Int32).toNatClampNeg) - (zm_I M 20 k1 (v1 : Int32).toNatClampNeg) / 10 * 10)) M _ h5) ?_
  refine e_aldn cd_155_145 g0 ?_
  refine e_ldcS cd_155_146 od_155_132 ?_
  obtain ⟨q6, h7, hs⟩ := k_bind hs
  refine e_cvi cd_155_148 kd_155_122 rfl rfl rfl rfl rfl nl_160 rfl rfl (tie_do_write2 d t0 (some 3) q4 _ h7) ?_
  refine e_aldn cd_155_151 g0 ?_
  refine e_ildn cd_155_152 g1 ?_
  obtain ⟨q8, h9, hs⟩ := k_bind hs
  refine e_cvi cd_155_153 kd_155_134 rfl rfl rfl rfl rfl nl_156 rfl rfl (tie_do_tellWhatCould d t0 v1 q6 _ h9) ?_
  have e := Option.some.inj hs
  subst e
  exact e_rv cd_155_156 nr_155
theorem tie_do_tell_96  (d : Nat)  (t0 : Nat) (v1 : Int32) (M : zM) (so : zM) (ls : List (Nat × zV)) (g0 : zl_get ls 0 = some (.inr (.inr (1, (some t0))))) (g1 : zl_get ls 1 = some (.inl v1)) (hs : do_tell_96  d t0 v1 M = some so) : Ev zq_T (d + 1) 155 96 ls [] M (none, so) := by
  unfold do_tell_96 at hs
  refine e_aldn cd_155_96 g0 ?_
  refine e_ldcS cd_155_97 od_155_130 ?_
  obtain ⟨q1, h2, hs⟩ := k_bind hs
  refine e_cvi cd_155_99 kd_155_122 rfl rfl rfl rfl rfl nl_160 rfl rfl (tie_do_write2 d t0 (some 2) M _ h2) ?_
  refine e_aldn cd_155_102 g0 ?_
  refine e_getR cd_155_103 fd_155_27 rfl ?_
  refine e_ildn cd_155_106 g1 ?_
  refine k_opt hs (fun _ q => nomatch q) (fun k3 h4 hs => ?_)
  obtain ⟨c5, hs⟩ := z_ite hs
  refine e_iald cd_155_107 rfl h4 c5 ?_
  refine e_bip cd_155_108 cb_10 ?_
  refine k_if hs (fun c6 hs => ?_) (fun c6 hs => ?_)
  · refine e_icJ cd_155_110 rfl c6 ?_
    exact tie_do_tell_129  d  t0 v1 q1 so _ g0 g1 hs
  · refine e_icN cd_155_110 rfl c6 ?_
    refine e_aldn cd_155_113 g0 ?_
    refine e_bip cd_155_114 cb_48 ?_
    refine e_aldn cd_155_116 g0 ?_
    refine e_getR cd_155_117 fd_155_27 rfl ?_
    refine e_ildn cd_155_120 g1 ?_
    refine k_opt hs (fun _ q => nomatch q) (fun k7 h8 hs => ?_)
    obtain ⟨c9, hs⟩ := z_ite hs
    refine e_iald cd_155_121 rfl h8 c9 ?_
    refine e_bip cd_155_122 cb_10 ?_
    refine e_div cd_155_124 (by decide) ?_
    refine e_pure cd_155_125 rfl ?_
    obtain ⟨q10, h11, hs⟩ := k_bind hs
    refine e_cvi cd_155_126 kd_155_113 rfl rfl rfl rfl rfl nl_159 rfl rfl (tie_do_write d t0 (48 + ((zm_I q1 20 k7 (v1 : Int32).toNatClampNeg) / 10)) q1 _ h11) ?_
    exact tie_do_tell_129  d  t0 v1 q10 so _ g0 g1 hs
theorem tie_do_tell_7  (d : Nat)  : ∀ (fuel : Nat) (t0 : Nat) (v1 : Int32) (v2 : Int32) (M : zM) (so : zM) (ls : List (Nat × zV)), zl_get ls 0 = some (.inr (.inr (1, (some t0)))) → zl_get ls 1 = some (.inl v1) → zl_get ls 2 = some (.inl v2) → do_tell_7  d fuel t0 v1 v2 M = some so → Ev zq_T (d + 1) 155 7 ls [] M (none, so) := by
  intro fuel
  induction fuel with
  | zero => intro t0 v1 v2 M so ls g0 g1 g2 hs; exact nomatch hs
  | succ fuel ih =>
    intro t0 v1 v2 M so ls g0 g1 g2 hs
    unfold do_tell_7 at hs
    refine e_ildn cd_155_7 g2 ?_
    refine e_aldn cd_155_8 g0 ?_
    refine e_getR cd_155_9 fd_155_21 rfl ?_
    refine e_ildn cd_155_12 g1 ?_
    refine k_opt hs (fun _ q => nomatch q) (fun k1 h2 hs => ?_)
    obtain ⟨c3, hs⟩ := z_ite hs
    refine e_iald cd_155_13 rfl h2 c3 ?_
    refine k_if hs (fun c4 hs => ?_) (fun c4 hs => ?_)
    · refine e_icJ cd_155_14 rfl c4 ?_
      refine e_aldn cd_155_51 g0 ?_
      refine e_ldcS cd_155_52 od_155_120 ?_
      obtain ⟨q5, h6, hs⟩ := k_bind hs
      refine e_cvi cd_155_54 kd_155_122 rfl rfl rfl rfl rfl nl_160 rfl rfl (tie_do_write2 d t0 (some 0) M _ h6) ?_
      refine e_aldn cd_155_57 g0 ?_
      refine e_ildn cd_155_58 g1 ?_
      refine e_aldn cd_155_59 g0 ?_
      refine e_getR cd_155_60 fd_155_27 rfl ?_
      refine e_ildn cd_155_63 g1 ?_
      refine k_opt hs (fun _ q => nomatch q) (fun k7 h8 hs => ?_)
      obtain ⟨c9, hs⟩ := z_ite hs
      refine e_iald cd_155_64 rfl h8 c9 ?_
      obtain ⟨q10, h11, hs⟩ := k_bind hs
      refine e_cvi cd_155_65 kd_155_125 rfl rfl rfl rfl rfl nl_158 rfl rfl (tie_do_heldAt d t0 v1 (zm_I q5 20 k7 (v1 : Int32).toNatClampNeg) q5 _ h11) ?_
      refine e_iKn cd_155_68 nl_155 rfl rfl ?_
      intro _ gn kp
      have u12 := kp 0 _ g0 rfl rfl
      have u13 := kp 1 _ g1 rfl rfl
      have u14 := gn
      refine e_ildn cd_155_69 u14 ?_
      refine e_const cd_155_70 ci_m1 ?_
      refine k_if hs (fun c15 hs => ?_) (fun c15 hs => ?_)
      · refine e_icN cd_155_71 rfl (fun q => q c15) ?_
        refine e_aldn cd_155_74 u12 ?_
        refine e_ldcS cd_155_75 od_155_128 ?_
        obtain ⟨q16, h17, hs⟩ := k_bind hs
        refine e_cvi cd_155_77 kd_155_122 rfl rfl rfl rfl rfl nl_160 rfl rfl (tie_do_write2 d t0 (some 1) q10.2 _ h17) ?_
        refine e_goto cd_155_80 rfl ?_
        exact tie_do_tell_96  d  t0 v1 q16 so _ u12 u13 hs
      · refine e_icJ cd_155_71 rfl c15 ?_
        refine e_aldn cd_155_83 u12 ?_
        refine e_bip cd_155_84 cb_97 ?_
        refine e_aldn cd_155_86 u12 ?_
        refine e_getR cd_155_87 fd_155_9 rfl ?_
        refine e_ildn cd_155_90 u14 ?_
        refine k_opt hs (fun _ q => nomatch q) (fun k18 h19 hs => ?_)
        obtain ⟨c20, hs⟩ := z_ite hs
        refine e_iald cd_155_91 rfl h19 c20 ?_
        refine e_pure cd_155_92 rfl ?_
        obtain ⟨q21, h22, hs⟩ := k_bind hs
        refine e_cvi cd_155_93 kd_155_113 rfl rfl rfl rfl rfl nl_159 rfl rfl (tie_do_write d t0 (97 + (zm_I q10.2 20 k18 q10.1.toNatClampNeg)) q10.2 _ h22) ?_
        exact tie_do_tell_96  d  t0 v1 q21 so _ u12 u13 hs
    · refine e_icN cd_155_14 rfl c4 ?_
      refine e_ildn cd_155_17 g2 ?_
      refine k_if hs (fun c23 hs => ?_) (fun c23 hs => ?_)
      · refine e_izJ cd_155_18 rfl c23 ?_
        exact tie_do_tell_27 (fun p0 p1 p2 m => do_tell_7  d fuel p0 p1 p2 m) d ih t0 v1 v2 M so _ g0 g1 g2 hs
      · refine e_izN cd_155_18 rfl c23 ?_
        refine e_aldn cd_155_21 g0 ?_
        refine e_bip cd_155_22 cb_47 ?_
        obtain ⟨q24, h25, hs⟩ := k_bind hs
        refine e_cvi cd_155_24 kd_155_113 rfl rfl rfl rfl rfl nl_159 rfl rfl (tie_do_write d t0 47 M _ h25) ?_
        exact tie_do_tell_27 (fun p0 p1 p2 m => do_tell_7  d fuel p0 p1 p2 m) d ih t0 v1 v2 q24 so _ g0 g1 g2 hs
theorem tieb_do_tell  (d : Nat)  (a0 : Nat) (a1 : Int32) (M : zM) (so : zM) (hs : do_tell_b  d a0 a1 M = some so) : Ev zq_T (d + 1) 155 0 (zl_args 0 [.inr (.inr (1, some a0)), .inl a1]) [] M (none, so) := by
  unfold do_tell_b at hs
  have g0 : zl_get (zl_args 0 [.inr (.inr (1, some a0)), .inl a1]) 0 = some (.inr (.inr (1, (some a0)))) := rfl
  have g1 : zl_get (zl_args 0 [.inr (.inr (1, some a0)), .inl a1]) 1 = some (.inl a1) := rfl
  refine e_aldn cd_155_0 g0 ?_
  refine e_const cd_155_1 ci_0 ?_
  refine k_let hs (fun M1 e2 hs => ?_)
  refine e_putI cd_155_2 pd_155_110 rfl e2 ?_
  refine e_const cd_155_5 ci_0 ?_
  refine e_iKn cd_155_6 nl_155 rfl rfl ?_
  intro _ gn kp
  have u3 := kp 0 _ g0 rfl rfl
  have u4 := kp 1 _ g1 rfl rfl
  have u5 := gn
  exact tie_do_tell_7  d  zLF a0 a1 0 M1 so _ u3 u4 u5 hs
theorem tie_do_tell (d : Nat) (a0 : Nat) (a1 : Int32) (M : zM) (so : zM) (hs : do_tell d a0 a1 M = some so) : Ev zq_T d 155 0 (zl_args 0 [.inr (.inr (1, some a0)), .inl a1]) [] M (none, so) := by
  cases d with
  | zero => exact nomatch hs
  | succ d => exact tieb_do_tell d a0 a1 M so hs
theorem tie_le_init (d : Nat) (a0 : Nat) (M : zM) (so : zM) (hs : le_init d a0 M = some so) : Ev zq_T d 161 0 (zl_args 0 [.inr (.inr (2, some a0))]) [] M (none, so) := by
  unfold le_init at hs
  have g0 : zl_get (zl_args 0 [.inr (.inr (2, some a0))]) 0 = some (.inr (.inr (2, (some a0)))) := rfl
  refine e_aldn cd_161_0 g0 ?_
  refine e_obj cd_161_1 kd_161_3 rfl rfl ?_
  refine e_aldn cd_161_4 g0 ?_
  refine e_bip cd_161_5 cb_25 ?_
  refine k_let hs (fun M2 e3 hs => ?_)
  refine e_newa_int cd_161_7 rfl (by decide) e3 ?_
  refine k_let hs (fun M4 e5 hs => ?_)
  refine e_putR cd_161_9 pd_161_11 rfl e5 ?_
  have e := Option.some.inj hs
  subst e
  exact e_rv cd_161_12 nr_161
theorem tie_le_gather_73  (d : Nat)  : ∀ (fuel : Nat) (v1 : Option Nat) (v2 : Int32) (M : zM) (so : zM) (ls : List (Nat × zV)), zl_get ls 1 = some (.inr (.inr (3, v1))) → zl_get ls 2 = some (.inl v2) → le_gather_73  d fuel v1 v2 M = some so → Ev zq_T d 164 73 ls [] M (none, so) := by
  intro fuel
  induction fuel with
  | zero => intro v1 v2 M so ls g1 g2 hs; exact nomatch hs
  | succ fuel ih =>
    intro v1 v2 M so ls g1 g2 hs
    unfold le_gather_73 at hs
    refine e_ildn cd_164_73 g2 ?_
    refine e_const cd_164_74 ci_5 ?_
    refine k_if hs (fun c1 hs => ?_) (fun c1 hs => ?_)
    · refine e_icJ cd_164_75 rfl c1 ?_
      have e := Option.some.inj hs
      subst e
      exact e_rv cd_164_91 nr_164
    · refine e_icN cd_164_75 rfl c1 ?_
      refine e_aldn cd_164_78 g1 ?_
      refine k_opt hs (fun _ q => nomatch q) (fun k2 h3 hs => ?_)
      refine e_getR cd_164_79 fd_164_112 h3 ?_
      refine e_ildn cd_164_82 g2 ?_
      refine e_const cd_164_83 ci_0 ?_
      refine k_opt hs (fun _ q => nomatch q) (fun k4 h5 hs => ?_)
      obtain ⟨c6, hs⟩ := z_ite hs
      refine k_let hs (fun M7 e8 hs => ?_)
      refine e_iast cd_164_84 rfl h5 c6 e8 ?_
      refine k_let hs (fun x9 e10 hs => ?_)
      refine e_incK cd_164_85 nl_164 rfl g2 ci_1 e10 ?_
      intro _ gn kp
      have u11 := kp 1 _ g1 rfl rfl
      have u12 := gn
      refine e_goto cd_164_88 rfl ?_
      exact ih v1 x9 M7 so _ u11 u12 hs
theorem tie_le_gather_20  (d : Nat)  : ∀ (fuel : Nat) (v1 : Option Nat) (v2 : Option Nat) (M : zM) (so : zM) (ls : List (Nat × zV)), zl_get ls 1 = some (.inr (.inr (3, v1))) → zl_get ls 2 = some (.inr (.inr (3, v2))) → le_gather_20  d fuel v1 v2 M = some so → Ev zq_T d 164 20 ls [] M (none, so) := by
  intro fuel
  induction fuel with
  | zero => intro v1 v2 M so ls g1 g2 hs; exact nomatch hs
  | succ fuel ih =>
    intro v1 v2 M so ls g1 g2 hs
    unfold le_gather_20 at hs
    refine e_aldn cd_164_20 g2 ?_
    refine k_opt hs (fun h1 hs => ?_) (fun k2 h1 hs => ?_)
    · refine e_nu0 cd_164_21 rfl h1 ?_
      refine e_const cd_164_71 ci_0 ?_
      refine e_iKn cd_164_72 nl_164 rfl rfl ?_
      intro _ gn kp
      have u3 := kp 1 _ g1 rfl rfl
      have u4 := gn
      exact tie_le_gather_73  d  zLF v1 0 M so _ u3 u4 hs
    · refine e_nu1 cd_164_21 rfl h1 ?_
      refine e_aldn cd_164_24 g1 ?_
      refine e_pure cd_164_25 rfl ?_
      refine k_opt hs (fun _ q => nomatch q) (fun k5 h6 hs => ?_)
      refine e_getI cd_164_26 (Or.inl fd_164_103) h6 ?_
      refine e_aldn cd_164_29 g2 ?_
      refine e_getI cd_164_30 (Or.inl fd_164_103) h1 ?_
      refine e_pure cd_164_33 rfl ?_
      refine k_let hs (fun M7 e8 hs => ?_)
      refine e_putI cd_164_34 pd_164_103 h6 e8 ?_
      refine e_aldn cd_164_37 g1 ?_
      refine e_pure cd_164_38 rfl ?_
      refine e_getI cd_164_39 (Or.inl fd_164_106) h6 ?_
      refine e_aldn cd_164_42 g2 ?_
      refine e_getI cd_164_43 (Or.inl fd_164_106) h1 ?_
      refine e_pure cd_164_46 rfl ?_
      refine k_let hs (fun M9 e10 hs => ?_)
      refine e_putI cd_164_47 pd_164_106 h6 e10 ?_
      refine e_aldn cd_164_50 g1 ?_
      refine e_pure cd_164_51 rfl ?_
      refine e_getI cd_164_52 (Or.inl fd_164_109) h6 ?_
      refine e_aldn cd_164_55 g2 ?_
      refine e_getI cd_164_56 (Or.inl fd_164_109) h1 ?_
      refine e_pure cd_164_59 rfl ?_
      refine k_let hs (fun M11 e12 hs => ?_)
      refine e_putI cd_164_60 pd_164_109 h6 e12 ?_
      refine e_aldn cd_164_63 g2 ?_
      refine e_getR cd_164_64 fd_164_71 h1 ?_
      refine e_aKn cd_164_67 nl_164 rfl rfl ?_
      intro _ gn kp
      have u13 := kp 1 _ g1 rfl rfl
      have u14 := gn
      refine e_goto cd_164_68 rfl ?_
      exact ih v1 (zm_R M11 3 k2 7) M11 so _ u13 u14 hs
theorem tie_le_gather (d : Nat) (a0 : Nat) (a1 : Option Nat) (M : zM) (so : zM) (hs : le_gather d a0 a1 M = some so) : Ev zq_T d 164 0 (zl_args 0 [.inr (.inr (2, some a0)), .inr (.inr (3, a1))]) [] M (none, so) := by
  unfold le_gather at hs
  have g0 : zl_get (zl_args 0 [.inr (.inr (2, some a0)), .inr (.inr (3, a1))]) 0 = some (.inr (.inr (2, (some a0)))) := rfl
  have g1 : zl_get (zl_args 0 [.inr (.inr (2, some a0)), .inr (.inr (3, a1))]) 1 = some (.inr (.inr (3, a1))) := rfl
  refine e_aldn cd_164_0 g1 ?_
  refine e_const cd_164_1 ci_0 ?_
  refine k_opt hs (fun _ q => nomatch q) (fun k1 h2 hs => ?_)
  refine k_let hs (fun M3 e4 hs => ?_)
  refine e_putI cd_164_2 pd_164_103 h2 e4 ?_
  refine e_aldn cd_164_5 g1 ?_
  refine e_const cd_164_6 ci_0 ?_
  refine k_let hs (fun M5 e6 hs => ?_)
  refine e_putI cd_164_7 pd_164_106 h2 e6 ?_
  refine e_aldn cd_164_10 g1 ?_
  refine e_const cd_164_11 ci_0 ?_
  refine k_let hs (fun M7 e8 hs => ?_)
  refine e_putI cd_164_12 pd_164_109 h2 e8 ?_
  refine e_aldn cd_164_15 g1 ?_
  refine e_getR cd_164_16 fd_164_36 h2 ?_
  refine e_aKn cd_164_19 nl_164 rfl rfl ?_
  intro _ gn kp
  have u9 := kp 1 _ g1 rfl rfl
  have u10 := gn
  exact tie_le_gather_20  d  zLF a1 (zm_R M7 3 k1 5) M7 so _ u9 u10 hs
theorem tie_le_learnLetter (d : Nat) (a0 : Nat) (a1 : Option Nat) (M : zM) (so : zM) (hs : le_learnLetter d a0 a1 M = some so) : Ev zq_T d 165 0 (zl_args 0 [.inr (.inr (2, some a0)), .inr (.inr (3, a1))]) [] M (none, so) := by
  unfold le_learnLetter at hs
  have g0 : zl_get (zl_args 0 [.inr (.inr (2, some a0)), .inr (.inr (3, a1))]) 0 = some (.inr (.inr (2, (some a0)))) := rfl
  have g1 : zl_get (zl_args 0 [.inr (.inr (2, some a0)), .inr (.inr (3, a1))]) 1 = some (.inr (.inr (3, a1))) := rfl
  refine e_aldn cd_165_0 g1 ?_
  refine e_const cd_165_1 ci_1 ?_
  refine e_aldn cd_165_2 g1 ?_
  refine k_opt hs (fun _ q => nomatch q) (fun k1 h2 hs => ?_)
  refine e_getI cd_165_3 (Or.inl fd_165_68) h2 ?_
  refine e_pure cd_165_6 rfl ?_
  refine k_let hs (fun M3 e4 hs => ?_)
  refine e_putI cd_165_7 pd_165_103 h2 e4 ?_
  refine e_aldn cd_165_10 g1 ?_
  refine e_aldn cd_165_11 g1 ?_
  refine e_getI cd_165_12 (Or.inl fd_165_103) h2 ?_
  refine k_let hs (fun M5 e6 hs => ?_)
  refine e_putI cd_165_15 pd_165_106 h2 e6 ?_
  refine e_aldn cd_165_18 g1 ?_
  refine e_aldn cd_165_19 g1 ?_
  refine e_getI cd_165_20 (Or.inl fd_165_103) h2 ?_
  refine k_let hs (fun M7 e8 hs => ?_)
  refine e_putI cd_165_23 pd_165_109 h2 e8 ?_
  refine e_aldn cd_165_26 g1 ?_
  refine e_const cd_165_27 ci_0 ?_
  refine k_let hs (fun M9 e10 hs => ?_)
  refine e_putZ cd_165_28 pd_165_41 (Or.inl rfl) h2 e10 ?_
  refine e_aldn cd_165_31 g1 ?_
  refine e_const cd_165_32 ci_1 ?_
  refine k_let hs (fun M11 e12 hs => ?_)
  refine e_putI cd_165_33 pd_165_115 h2 e12 ?_
  refine e_aldn cd_165_36 g1 ?_
  refine e_const cd_165_37 ci_1 ?_
  refine k_let hs (fun M13 e14 hs => ?_)
  refine e_putI cd_165_38 pd_165_118 h2 e14 ?_
  refine e_aldn cd_165_41 g1 ?_
  refine e_getR cd_165_42 fd_165_112 h2 ?_
  refine e_const cd_165_45 ci_1 ?_
  refine e_const cd_165_46 ci_1 ?_
  refine k_opt hs (fun _ q => nomatch q) (fun k15 h16 hs => ?_)
  obtain ⟨c17, hs⟩ := z_ite hs
  refine k_let hs (fun M18 e19 hs => ?_)
  refine e_iast cd_165_47 rfl h16 c17 e19 ?_
  have e := Option.some.inj hs
  subst e
  exact e_rv cd_165_48 nr_165
theorem tie_le_learnNothing (d : Nat) (a0 : Nat) (a1 : Option Nat) (M : zM) (so : zM) (hs : le_learnNothing d a0 a1 M = some so) : Ev zq_T d 166 0 (zl_args 0 [.inr (.inr (2, some a0)), .inr (.inr (3, a1))]) [] M (none, so) := by
  unfold le_learnNothing at hs
  have g0 : zl_get (zl_args 0 [.inr (.inr (2, some a0)), .inr (.inr (3, a1))]) 0 = some (.inr (.inr (2, (some a0)))) := rfl
  have g1 : zl_get (zl_args 0 [.inr (.inr (2, some a0)), .inr (.inr (3, a1))]) 1 = some (.inr (.inr (3, a1))) := rfl
  refine e_aldn cd_166_0 g1 ?_
  refine e_const cd_166_1 ci_1 ?_
  refine k_opt hs (fun _ q => nomatch q) (fun k1 h2 hs => ?_)
  refine k_let hs (fun M3 e4 hs => ?_)
  refine e_putZ cd_166_2 pd_166_41 (Or.inr rfl) h2 e4 ?_
  refine e_aldn cd_166_5 g1 ?_
  refine e_const cd_166_6 ci_0 ?_
  refine k_let hs (fun M5 e6 hs => ?_)
  refine e_putI cd_166_7 pd_166_115 h2 e6 ?_
  refine e_aldn cd_166_10 g1 ?_
  refine e_const cd_166_11 ci_0 ?_
  refine k_let hs (fun M7 e8 hs => ?_)
  refine e_putI cd_166_12 pd_166_118 h2 e8 ?_
  have e := Option.some.inj hs
  subst e
  exact e_rv cd_166_15 nr_166
theorem tie_le_learnAllTogether_71 (kl13 : Option Nat → Int32 → Int32 → Int32 → Option Nat → zM → Option (zM)) (d : Nat) (hk13 : ∀ (v1 : Option Nat) (v2 : Int32) (v3 : Int32) (v4 : Int32) (v5 : Option Nat) (M : zM) (so : zM) (ls : List (Nat × zV)), zl_get ls 1 = some (.inr (.inr (3, v1))) → zl_get ls 2 = some (.inl v2) → zl_get ls 3 = some (.inl v3) → zl_get ls 4 = some (.inl v4) → zl_get ls 5 = some (.inr (.inr (3, v5))) → kl13 v1 v2 v3 v4 v5 M = some so → Ev zq_T d 168 13 ls [] M (none, so)) (v1 : Option Nat) (v2 : Int32) (v3 : Int32) (v5 : Option Nat) (s0 : Int32) (M : zM) (so : zM) (ls : List (Nat × zV)) (g1 : zl_get ls 1 = some (.inr (.inr (3, v1)))) (g2 : zl_get ls 2 = some (.inl v2)) (g3 : zl_get ls 3 = some (.inl v3)) (g5 : zl_get ls 5 = some (.inr (.inr (3, v5)))) (hs : le_learnAllTogether_71 kl13 d v1 v2 v3 v5 s0 M = some so) : Ev zq_T d 168 71 ls [.inl s0] M (none, so) := by
  unfold le_learnAllTogether_71 at hs
  refine e_iK cd_168_71 nl_168 rfl rfl ?_
  intro _ gn kp
  have u1 := kp 1 _ g1 rfl rfl
  have u2 := kp 2 _ g2 rfl rfl
  have u3 := kp 3 _ g3 rfl rfl
  have u4 := kp 5 _ g5 rfl rfl
  have u5 := gn
  refine e_ald cd_168_73 u4 ?_
  refine k_opt hs (fun _ q => nomatch q) (fun k6 h7 hs => ?_)
  refine e_getR cd_168_75 fd_168_71 h7 ?_
  refine e_aK cd_168_78 nl_168 rfl rfl ?_
  intro _ gn kp
  have u8 := kp 1 _ u1 rfl rfl
  have u9 := kp 2 _ u2 rfl rfl
  have u10 := kp 3 _ u3 rfl rfl
  have u11 := kp 4 _ u5 rfl rfl
  have u12 := gn
  refine e_goto cd_168_80 rfl ?_
  exact hk13 v1 v2 v3 s0 (zm_R M 3 k6 7) M so _ u8 u9 u10 u11 u12 hs
theorem tie_le_learnAllTogether_59 (kl13 : Option Nat → Int32 → Int32 → Int32 → Option Nat → zM → Option (zM)) (d : Nat) (hk13 : ∀ (v1 : Option Nat) (v2 : Int32) (v3 : Int32) (v4 : Int32) (v5 : Option Nat) (M : zM) (so : zM) (ls : List (Nat × zV)), zl_get ls 1 = some (.inr (.inr (3, v1))) → zl_get ls 2 = some (.inl v2) → zl_get ls 3 = some (.inl v3) → zl_get ls 4 = some (.inl v4) → zl_get ls 5 = some (.inr (.inr (3, v5))) → kl13 v1 v2 v3 v4 v5 M = some so → Ev zq_T d 168 13 ls [] M (none, so)) (v1 : Option Nat) (v2 : Int32) (v3 : Int32) (v5 : Option Nat) (M : zM) (so : zM) (ls : List (Nat × zV)) (g1 : zl_get ls 1 = some (.inr (.inr (3, v1)))) (g2 : zl_get ls 2 = some (.inl v2)) (g3 : zl_get ls 3 = some (.inl v3)) (g5 : zl_get ls 5 = some (.inr (.inr (3, v5)))) (hs : le_learnAllTogether_59 kl13 d v1 v2 v3 v5 M = some so) : Ev zq_T d 168 59 ls [] M (none, so) := by
  unfold le_learnAllTogether_59 at hs
  refine e_const cd_168_59 ci_m1 ?_
  refine e_goto cd_168_60 rfl ?_
  exact tie_le_learnAllTogether_71 kl13 d hk13 v1 v2 v3 v5 (-1) M so _ g1 g2 g3 g5 hs
theorem tie_le_learnAllTogether_35 (kl13 : Option Nat → Int32 → Int32 → Int32 → Option Nat → zM → Option (zM)) (d : Nat) (hk13 : ∀ (v1 : Option Nat) (v2 : Int32) (v3 : Int32) (v4 : Int32) (v5 : Option Nat) (M : zM) (so : zM) (ls : List (Nat × zV)), zl_get ls 1 = some (.inr (.inr (3, v1))) → zl_get ls 2 = some (.inl v2) → zl_get ls 3 = some (.inl v3) → zl_get ls 4 = some (.inl v4) → zl_get ls 5 = some (.inr (.inr (3, v5))) → kl13 v1 v2 v3 v4 v5 M = some so → Ev zq_T d 168 13 ls [] M (none, so)) (v1 : Option Nat) (v3 : Int32) (v4 : Int32) (v5 : Option Nat) (s0 : Int32) (M : zM) (so : zM) (ls : List (Nat × zV)) (g1 : zl_get ls 1 = some (.inr (.inr (3, v1)))) (g3 : zl_get ls 3 = some (.inl v3)) (g4 : zl_get ls 4 = some (.inl v4)) (g5 : zl_get ls 5 = some (.inr (.inr (3, v5)))) (hs : le_learnAllTogether_35 kl13 d v1 v3 v4 v5 s0 M = some so) : Ev zq_T d 168 35 ls [.inl s0] M (none, so) := by
  unfold le_learnAllTogether_35 at hs
  refine e_iKn cd_168_35 nl_168 rfl rfl ?_
  intro _ gn kp
  have u1 := kp 1 _ g1 rfl rfl
  have u2 := kp 3 _ g3 rfl rfl
  have u3 := kp 4 _ g4 rfl rfl
  have u4 := kp 5 _ g5 rfl rfl
  have u5 := gn
  refine e_ildn cd_168_36 u2 ?_
  refine e_ald cd_168_37 u4 ?_
  refine k_opt hs (fun _ q => nomatch q) (fun k6 h7 hs => ?_)
  refine e_getI cd_168_39 (Or.inl fd_168_115) h7 ?_
  refine e_pure cd_168_42 rfl ?_
  refine k_let hs (fun x8 e9 hs => ?_)
  refine e_iKn cd_168_43 nl_168 rfl e9 ?_
  intro _ gn kp
  have u10 := kp 1 _ u1 rfl rfl
  have u11 := kp 4 _ u3 rfl rfl
  have u12 := kp 5 _ u4 rfl rfl
  have u13 := kp 2 _ u5 rfl rfl
  have u14 := gn
  refine e_ild cd_168_44 u11 ?_
  refine e_const cd_168_46 ci_m1 ?_
  refine k_if hs (fun c15 hs => ?_) (fun c15 hs => ?_)
  · refine e_icJ cd_168_47 rfl c15 ?_
    exact tie_le_learnAllTogether_59 kl13 d hk13 v1 s0 x8 v5 M so _ u10 u13 u14 u12 hs
  · refine e_icN cd_168_47 rfl c15 ?_
    refine e_ald cd_168_50 u12 ?_
    refine e_getI cd_168_52 (Or.inl fd_168_118) h7 ?_
    refine e_const cd_168_55 ci_m1 ?_
    refine k_if hs (fun c16 hs => ?_) (fun c16 hs => ?_)
    · refine e_icN cd_168_56 rfl (fun q => q c16) ?_
      exact tie_le_learnAllTogether_59 kl13 d hk13 v1 s0 x8 v5 M so _ u10 u13 u14 u12 hs
    · refine e_icJ cd_168_56 rfl c16 ?_
      refine e_ild cd_168_63 u11 ?_
      refine e_ald cd_168_65 u12 ?_
      refine e_getI cd_168_67 (Or.inl fd_168_118) h7 ?_
      refine e_pure cd_168_70 rfl ?_
      exact tie_le_learnAllTogether_71 kl13 d hk13 v1 s0 x8 v5 (v4 + (zm_I M 3 k6 13)) M so _ u10 u13 u14 u12 hs
theorem tie_le_learnAllTogether_34 (kl13 : Option Nat → Int32 → Int32 → Int32 → Option Nat → zM → Option (zM)) (d : Nat) (hk13 : ∀ (v1 : Option Nat) (v2 : Int32) (v3 : Int32) (v4 : Int32) (v5 : Option Nat) (M : zM) (so : zM) (ls : List (Nat × zV)), zl_get ls 1 = some (.inr (.inr (3, v1))) → zl_get ls 2 = some (.inl v2) → zl_get ls 3 = some (.inl v3) → zl_get ls 4 = some (.inl v4) → zl_get ls 5 = some (.inr (.inr (3, v5))) → kl13 v1 v2 v3 v4 v5 M = some so → Ev zq_T d 168 13 ls [] M (none, so)) (v1 : Option Nat) (v3 : Int32) (v4 : Int32) (v5 : Option Nat) (M : zM) (so : zM) (ls : List (Nat × zV)) (g1 : zl_get ls 1 = some (.inr (.inr (3, v1)))) (g3 : zl_get ls 3 = some (.inl v3)) (g4 : zl_get ls 4 = some (.inl v4)) (g5 : zl_get ls 5 = some (.inr (.inr (3, v5)))) (hs : le_learnAllTogether_34 kl13 d v1 v3 v4 v5 M = some so) : Ev zq_T d 168 34 ls [] M (none, so) := by
  unfold le_learnAllTogether_34 at hs
  refine e_const cd_168_34 ci_0 ?_
  exact tie_le_learnAllTogether_35 kl13 d hk13 v1 v3 v4 v5 0 M so _ g1 g3 g4 g5 hs
theorem tie_le_learnAllTogether_13  (d : Nat)  : ∀ (fuel : Nat) (v1 : Option Nat) (v2 : Int32) (v3 : Int32) (v4 : Int32) (v5 : Option Nat) (M : zM) (so : zM) (ls : List (Nat × zV)), zl_get ls 1 = some (.inr (.inr (3, v1))) → zl_get ls 2 = some (.inl v2) → zl_get ls 3 = some (.inl v3) → zl_get ls 4 = some (.inl v4) → zl_get ls 5 = some (.inr (.inr (3, v5))) → le_learnAllTogether_13  d fuel v1 v2 v3 v4 v5 M = some so → Ev zq_T d 168 13 ls [] M (none, so) := by
  intro fuel
  induction fuel with
  | zero => intro v1 v2 v3 v4 v5 M so ls g1 g2 g3 g4 g5 hs; exact nomatch hs
  | succ fuel ih =>
    intro v1 v2 v3 v4 v5 M so ls g1 g2 g3 g4 g5 hs
    unfold le_learnAllTogether_13 at hs
    refine e_ald cd_168_13 g5 ?_
    refine k_opt hs (fun h1 hs => ?_) (fun k2 h1 hs => ?_)
    · refine e_nu0 cd_168_15 rfl h1 ?_
      refine e_aldn cd_168_83 g1 ?_
      refine e_ildn cd_168_84 g2 ?_
      refine k_opt hs (fun _ q => nomatch q) (fun k3 h4 hs => ?_)
      obtain ⟨c5, hs⟩ := z_ite hs
      refine k_let hs (fun M6 e7 hs => ?_)
      refine e_putZ cd_168_85 pd_168_41 c5 h4 e7 ?_
      refine e_aldn cd_168_88 g1 ?_
      refine e_ildn cd_168_89 g3 ?_
      refine k_let hs (fun M8 e9 hs => ?_)
      refine e_putI cd_168_90 pd_168_115 h4 e9 ?_
      refine e_aldn cd_168_93 g1 ?_
      refine e_ild cd_168_94 g4 ?_
      refine k_let hs (fun M10 e11 hs => ?_)
      refine e_putI cd_168_96 pd_168_118 h4 e11 ?_
      have e := Option.some.inj hs
      subst e
      exact e_rv cd_168_99 nr_168
    · refine e_nu1 cd_168_15 rfl h1 ?_
      refine e_ildn cd_168_18 g2 ?_
      refine k_if hs (fun c12 hs => ?_) (fun c12 hs => ?_)
      · refine e_izJ cd_168_19 rfl c12 ?_
        exact tie_le_learnAllTogether_34 (fun p0 p1 p2 p3 p4 m => le_learnAllTogether_13  d fuel p0 p1 p2 p3 p4 m) d ih v1 v3 v4 v5 M so _ g1 g3 g4 g5 hs
      · refine e_izN cd_168_19 rfl c12 ?_
        refine e_ald cd_168_22 g5 ?_
        refine e_getI cd_168_24 (Or.inr fd_168_41) h1 ?_
        refine k_if hs (fun c13 hs => ?_) (fun c13 hs => ?_)
        · refine e_izJ cd_168_27 rfl c13 ?_
          exact tie_le_learnAllTogether_34 (fun p0 p1 p2 p3 p4 m => le_learnAllTogether_13  d fuel p0 p1 p2 p3 p4 m) d ih v1 v3 v4 v5 M so _ g1 g3 g4 g5 hs
        · refine e_izN cd_168_27 rfl c13 ?_
          refine e_const cd_168_30 ci_1 ?_
          refine e_goto cd_168_31 rfl ?_
          exact tie_le_learnAllTogether_35 (fun p0 p1 p2 p3 p4 m => le_learnAllTogether_13  d fuel p0 p1 p2 p3 p4 m) d ih v1 v3 v4 v5 1 M so _ g1 g3 g4 g5 hs
theorem tie_le_learnAllTogether (d : Nat) (a0 : Nat) (a1 : Option Nat) (M : zM) (so : zM) (hs : le_learnAllTogether d a0 a1 M = some so) : Ev zq_T d 168 0 (zl_args 0 [.inr (.inr (2, some a0)), .inr (.inr (3, a1))]) [] M (none, so) := by
  unfold le_learnAllTogether at hs
  have g0 : zl_get (zl_args 0 [.inr (.inr (2, some a0)), .inr (.inr (3, a1))]) 0 = some (.inr (.inr (2, (some a0)))) := rfl
  have g1 : zl_get (zl_args 0 [.inr (.inr (2, some a0)), .inr (.inr (3, a1))]) 1 = some (.inr (.inr (3, a1))) := rfl
  refine e_const cd_168_0 ci_1 ?_
  refine e_iKn cd_168_1 nl_168 rfl rfl ?_
  intro _ gn kp
  have u1 := kp 1 _ g1 rfl rfl
  have u2 := gn
  refine e_const cd_168_2 ci_0 ?_
  refine e_iKn cd_168_3 nl_168 rfl rfl ?_
  intro _ gn kp
  have u3 := kp 1 _ u1 rfl rfl
  have u4 := kp 2 _ u2 rfl rfl
  have u5 := gn
  refine e_const cd_168_4 ci_0 ?_
  refine e_iK cd_168_5 nl_168 rfl rfl ?_
  intro _ gn kp
  have u6 := kp 1 _ u3 rfl rfl
  have u7 := kp 2 _ u4 rfl rfl
  have u8 := kp 3 _ u5 rfl rfl
  have u9 := gn
  refine e_aldn cd_168_7 u6 ?_
  refine k_opt hs (fun _ q => nomatch q) (fun k10 h11 hs => ?_)
  refine e_getR cd_168_8 fd_168_36 h11 ?_
  refine e_aK cd_168_11 nl_168 rfl rfl ?_
  intro _ gn kp
  have u12 := kp 1 _ u6 rfl rfl
  have u13 := kp 2 _ u7 rfl rfl
  have u14 := kp 3 _ u8 rfl rfl
  have u15 := kp 4 _ u9 rfl rfl
  have u16 := gn
  exact tie_le_learnAllTogether_13  d  zLF a1 1 0 0 (zm_R M 3 k10 5) M so _ u12 u13 u14 u15 u16 hs
theorem tie_le_clearRow_2  (d : Nat)  : ∀ (fuel : Nat) (t0 : Nat) (v1 : Int32) (v2 : Int32) (M : zM) (so : zM) (ls : List (Nat × zV)), zl_get ls 0 = some (.inr (.inr (2, (some t0)))) → zl_get ls 1 = some (.inl v1) → zl_get ls 2 = some (.inl v2) → le_clearRow_2  d fuel t0 v1 v2 M = some so → Ev zq_T d 172 2 ls [] M (none, so) := by
  intro fuel
  induction fuel with
  | zero => intro t0 v1 v2 M so ls g0 g1 g2 hs; exact nomatch hs
  | succ fuel ih =>
    intro t0 v1 v2 M so ls g0 g1 g2 hs
    unfold le_clearRow_2 at hs
    refine e_ildn cd_172_2 g2 ?_
    refine e_const cd_172_3 ci_5 ?_
    refine k_if hs (fun c1 hs => ?_) (fun c1 hs => ?_)
    · refine e_icJ cd_172_4 rfl c1 ?_
      have e := Option.some.inj hs
      subst e
      exact e_rv cd_172_24 nr_172
    · refine e_icN cd_172_4 rfl c1 ?_
      refine e_aldn cd_172_7 g0 ?_
      refine e_getR cd_172_8 fd_172_11 rfl ?_
      refine e_ildn cd_172_11 g1 ?_
      refine e_const cd_172_12 ci_5 ?_
      refine e_pure cd_172_13 rfl ?_
      refine e_ildn cd_172_14 g2 ?_
      refine e_pure cd_172_15 rfl ?_
      refine e_const cd_172_16 ci_0 ?_
      refine k_opt hs (fun _ q => nomatch q) (fun k2 h3 hs => ?_)
      obtain ⟨c4, hs⟩ := z_ite hs
      refine k_let hs (fun M5 e6 hs => ?_)
      refine e_iast cd_172_17 rfl h3 c4 e6 ?_
      refine k_let hs (fun x7 e8 hs => ?_)
      refine e_incK cd_172_18 nl_172 rfl g2 ci_1 e8 ?_
      intro _ gn kp
      have u9 := kp 0 _ g0 rfl rfl
      have u10 := kp 1 _ g1 rfl rfl
      have u11 := gn
      refine e_goto cd_172_21 rfl ?_
      exact ih t0 v1 x7 M5 so _ u9 u10 u11 hs
theorem tie_le_clearRow (d : Nat) (a0 : Nat) (a1 : Int32) (M : zM) (so : zM) (hs : le_clearRow d a0 a1 M = some so) : Ev zq_T d 172 0 (zl_args 0 [.inr (.inr (2, some a0)), .inl a1]) [] M (none, so) := by
  unfold le_clearRow at hs
  have g0 : zl_get (zl_args 0 [.inr (.inr (2, some a0)), .inl a1]) 0 = some (.inr (.inr (2, (some a0)))) := rfl
  have g1 : zl_get (zl_args 0 [.inr (.inr (2, some a0)), .inl a1]) 1 = some (.inl a1) := rfl
  refine e_const cd_172_0 ci_0 ?_
  refine e_iKn cd_172_1 nl_172 rfl rfl ?_
  intro _ gn kp
  have u1 := kp 0 _ g0 rfl rfl
  have u2 := kp 1 _ g1 rfl rfl
  have u3 := gn
  exact tie_le_clearRow_2  d  zLF a0 a1 0 M so _ u1 u2 u3 hs
theorem tieb_le_startRow  (d : Nat)  (a0 : Nat) (a1 : Int32) (M : zM) (so : zM) (hs : le_startRow_b  d a0 a1 M = some so) : Ev zq_T (d + 1) 173 0 (zl_args 0 [.inr (.inr (2, some a0)), .inl a1]) [] M (none, so) := by
  unfold le_startRow_b at hs
  have g0 : zl_get (zl_args 0 [.inr (.inr (2, some a0)), .inl a1]) 0 = some (.inr (.inr (2, (some a0)))) := rfl
  have g1 : zl_get (zl_args 0 [.inr (.inr (2, some a0)), .inl a1]) 1 = some (.inl a1) := rfl
  refine e_aldn cd_173_0 g0 ?_
  refine e_ildn cd_173_1 g1 ?_
  obtain ⟨q1, h2, hs⟩ := k_bind hs
  refine e_cvi cd_173_2 kd_173_147 rfl rfl rfl rfl rfl nl_172 rfl rfl (tie_le_clearRow d a0 a1 M _ h2) ?_
  refine e_aldn cd_173_5 g0 ?_
  refine e_getR cd_173_6 fd_173_11 rfl ?_
  refine e_ildn cd_173_9 g1 ?_
  refine e_const cd_173_10 ci_5 ?_
  refine e_pure cd_173_11 rfl ?_
  refine e_const cd_173_12 ci_1 ?_
  refine k_opt hs (fun _ q => nomatch q) (fun k3 h4 hs => ?_)
  obtain ⟨c5, hs⟩ := z_ite hs
  refine k_let hs (fun M6 e7 hs => ?_)
  refine e_iast cd_173_13 rfl h4 c5 e7 ?_
  have e := Option.some.inj hs
  subst e
  exact e_rv cd_173_14 nr_173
theorem tie_le_startRow (d : Nat) (a0 : Nat) (a1 : Int32) (M : zM) (so : zM) (hs : le_startRow d a0 a1 M = some so) : Ev zq_T d 173 0 (zl_args 0 [.inr (.inr (2, some a0)), .inl a1]) [] M (none, so) := by
  cases d with
  | zero => exact nomatch hs
  | succ d => exact tieb_le_startRow d a0 a1 M so hs
theorem tie_le_multiply_25 (kl2 : Nat → Option Nat → Int32 → Int32 → zM → Option (zM)) (d : Nat) (hk2 : ∀ (t0 : Nat) (v1 : Option Nat) (v2 : Int32) (v3 : Int32) (M : zM) (so : zM) (ls : List (Nat × zV)), zl_get ls 0 = some (.inr (.inr (2, (some t0)))) → zl_get ls 1 = some (.inr (.inr (3, v1))) → zl_get ls 2 = some (.inl v2) → zl_get ls 3 = some (.inl v3) → kl2 t0 v1 v2 v3 M = some so → Ev zq_T d 174 2 ls [] M (none, so)) : ∀ (fuel : Nat) (t0 : Nat) (v1 : Option Nat) (v2 : Int32) (v3 : Int32) (v4 : Int32) (v5 : Int32) (M : zM) (so : zM) (ls : List (Nat × zV)), zl_get ls 0 = some (.inr (.inr (2, (some t0)))) → zl_get ls 1 = some (.inr (.inr (3, v1))) → zl_get ls 2 = some (.inl v2) → zl_get ls 3 = some (.inl v3) → zl_get ls 4 = some (.inl v4) → zl_get ls 5 = some (.inl v5) → le_multiply_25 kl2 d fuel t0 v1 v2 v3 v4 v5 M = some so → Ev zq_T d 174 25 ls [] M (none, so) := by
  intro fuel
  induction fuel with
  | zero => intro t0 v1 v2 v3 v4 v5 M so ls g0 g1 g2 g3 g4 g5 hs; exact nomatch hs
  | succ fuel ih =>
    intro t0 v1 v2 v3 v4 v5 M so ls g0 g1 g2 g3 g4 g5 hs
    unfold le_multiply_25 at hs
    refine e_ild cd_174_25 g5 ?_
    refine e_ildn cd_174_27 g3 ?_
    refine k_if hs (fun c1 hs => ?_) (fun c1 hs => ?_)
    · refine e_icJ cd_174_28 rfl c1 ?_
      refine e_aldn cd_174_59 g0 ?_
      refine e_getR cd_174_60 fd_174_11 rfl ?_
      refine e_ildn cd_174_63 g3 ?_
      refine e_ild cd_174_64 g4 ?_
      refine k_opt hs (fun _ q => nomatch q) (fun k2 h3 hs => ?_)
      obtain ⟨c4, hs⟩ := z_ite hs
      refine k_let hs (fun M5 e6 hs => ?_)
      refine e_iast cd_174_66 rfl h3 c4 e6 ?_
      refine k_let hs (fun x7 e8 hs => ?_)
      refine e_incK cd_174_67 nl_174 rfl g3 ci_m1 e8 ?_
      intro _ gn kp
      have u9 := kp 0 _ g0 rfl rfl
      have u10 := kp 1 _ g1 rfl rfl
      have u11 := kp 2 _ g2 rfl rfl
      have u12 := gn
      refine e_goto cd_174_70 rfl ?_
      exact hk2 t0 v1 v2 x7 M5 so _ u9 u10 u11 u12 hs
    · refine e_icN cd_174_28 rfl c1 ?_
      refine e_ild cd_174_31 g4 ?_
      refine e_aldn cd_174_33 g0 ?_
      refine e_getR cd_174_34 fd_174_11 rfl ?_
      refine e_ildn cd_174_37 g3 ?_
      refine e_ild cd_174_38 g5 ?_
      refine e_pure cd_174_40 rfl ?_
      refine k_opt hs (fun _ q => nomatch q) (fun k13 h14 hs => ?_)
      obtain ⟨c15, hs⟩ := z_ite hs
      refine e_iald cd_174_41 rfl h14 c15 ?_
      refine e_aldn cd_174_42 g1 ?_
      refine k_opt hs (fun _ q => nomatch q) (fun k16 h17 hs => ?_)
      refine e_getR cd_174_43 fd_174_112 h17 ?_
      refine e_ild cd_174_46 g5 ?_
      refine k_opt hs (fun _ q => nomatch q) (fun k18 h19 hs => ?_)
      obtain ⟨c20, hs⟩ := z_ite hs
      refine e_iald cd_174_48 rfl h19 c20 ?_
      refine e_pure cd_174_49 rfl ?_
      refine e_pure cd_174_50 rfl ?_
      refine k_let hs (fun x21 e22 hs => ?_)
      refine e_iK cd_174_51 nl_174 rfl e22 ?_
      intro _ gn kp
      have u23 := kp 0 _ g0 rfl rfl
      have u24 := kp 1 _ g1 rfl rfl
      have u25 := kp 2 _ g2 rfl rfl
      have u26 := kp 3 _ g3 rfl rfl
      have u27 := kp 5 _ g5 rfl rfl
      have u28 := gn
      refine k_let hs (fun x29 e30 hs => ?_)
      refine e_incK cd_174_53 nl_174 rfl u27 ci_1 e30 ?_
      intro _ gn kp
      have u31 := kp 0 _ u23 rfl rfl
      have u32 := kp 1 _ u24 rfl rfl
      have u33 := kp 2 _ u25 rfl rfl
      have u34 := kp 3 _ u26 rfl rfl
      have u35 := kp 4 _ u28 rfl rfl
      have u36 := gn
      refine e_goto cd_174_56 rfl ?_
      exact ih t0 v1 v2 v3 x21 x29 M so _ u31 u32 u33 u34 u35 u36 hs
theorem tie_le_multiply_20 (kl2 : Nat → Option Nat → Int32 → Int32 → zM → Option (zM)) (d : Nat) (hk2 : ∀ (t0 : Nat) (v1 : Option Nat) (v2 : Int32) (v3 : Int32) (M : zM) (so : zM) (ls : List (Nat × zV)), zl_get ls 0 = some (.inr (.inr (2, (some t0)))) → zl_get ls 1 = some (.inr (.inr (3, v1))) → zl_get ls 2 = some (.inl v2) → zl_get ls 3 = some (.inl v3) → kl2 t0 v1 v2 v3 M = some so → Ev zq_T d 174 2 ls [] M (none, so)) (t0 : Nat) (v1 : Option Nat) (v2 : Int32) (v3 : Int32) (s0 : Int32) (M : zM) (so : zM) (ls : List (Nat × zV)) (g0 : zl_get ls 0 = some (.inr (.inr (2, (some t0))))) (g1 : zl_get ls 1 = some (.inr (.inr (3, v1)))) (g2 : zl_get ls 2 = some (.inl v2)) (g3 : zl_get ls 3 = some (.inl v3)) (hs : le_multiply_20 kl2 d t0 v1 v2 v3 s0 M = some so) : Ev zq_T d 174 20 ls [.inl s0] M (none, so) := by
  unfold le_multiply_20 at hs
  refine e_iK cd_174_20 nl_174 rfl rfl ?_
  intro _ gn kp
  have u1 := kp 0 _ g0 rfl rfl
  have u2 := kp 1 _ g1 rfl rfl
  have u3 := kp 2 _ g2 rfl rfl
  have u4 := kp 3 _ g3 rfl rfl
  have u5 := gn
  refine e_const cd_174_22 ci_1 ?_
  refine e_iK cd_174_23 nl_174 rfl rfl ?_
  intro _ gn kp
  have u6 := kp 0 _ u1 rfl rfl
  have u7 := kp 1 _ u2 rfl rfl
  have u8 := kp 2 _ u3 rfl rfl
  have u9 := kp 3 _ u4 rfl rfl
  have u10 := kp 4 _ u5 rfl rfl
  have u11 := gn
  exact tie_le_multiply_25 kl2 d hk2 zLF t0 v1 v2 v3 s0 1 M so _ u6 u7 u8 u9 u10 u11 hs
theorem tie_le_multiply_2  (d : Nat)  : ∀ (fuel : Nat) (t0 : Nat) (v1 : Option Nat) (v2 : Int32) (v3 : Int32) (M : zM) (so : zM) (ls : List (Nat × zV)), zl_get ls 0 = some (.inr (.inr (2, (some t0)))) → zl_get ls 1 = some (.inr (.inr (3, v1))) → zl_get ls 2 = some (.inl v2) → zl_get ls 3 = some (.inl v3) → le_multiply_2  d fuel t0 v1 v2 v3 M = some so → Ev zq_T d 174 2 ls [] M (none, so) := by
  intro fuel
  induction fuel with
  | zero => intro t0 v1 v2 v3 M so ls g0 g1 g2 g3 hs; exact nomatch hs
  | succ fuel ih =>
    intro t0 v1 v2 v3 M so ls g0 g1 g2 g3 hs
    unfold le_multiply_2 at hs
    refine e_ildn cd_174_2 g3 ?_
    refine k_if hs (fun c1 hs => ?_) (fun c1 hs => ?_)
    · refine e_izJ cd_174_3 rfl c1 ?_
      have e := Option.some.inj hs
      subst e
      exact e_rv cd_174_73 nr_174
    · refine e_izN cd_174_3 rfl c1 ?_
      refine e_ildn cd_174_6 g2 ?_
      refine k_if hs (fun c2 hs => ?_) (fun c2 hs => ?_)
      · refine e_izJ cd_174_7 rfl c2 ?_
        refine e_const cd_174_19 ci_0 ?_
        exact tie_le_multiply_20 (fun p0 p1 p2 p3 m => le_multiply_2  d fuel p0 p1 p2 p3 m) d ih t0 v1 v2 v3 0 M so _ g0 g1 g2 g3 hs
      · refine e_izN cd_174_7 rfl c2 ?_
        refine e_aldn cd_174_10 g0 ?_
        refine e_getR cd_174_11 fd_174_11 rfl ?_
        refine e_ildn cd_174_14 g3 ?_
        refine k_opt hs (fun _ q => nomatch q) (fun k3 h4 hs => ?_)
        obtain ⟨c5, hs⟩ := z_ite hs
        refine e_iald cd_174_15 rfl h4 c5 ?_
        refine e_goto cd_174_16 rfl ?_
        exact tie_le_multiply_20 (fun p0 p1 p2 p3 m => le_multiply_2  d fuel p0 p1 p2 p3 m) d ih t0 v1 v2 v3 (zm_I M 20 k3 (v3 : Int32).toNatClampNeg) M so _ g0 g1 g2 g3 hs
theorem tie_le_multiply (d : Nat) (a0 : Nat) (a1 : Option Nat) (a2 : Int32) (M : zM) (so : zM) (hs : le_multiply d a0 a1 a2 M = some so) : Ev zq_T d 174 0 (zl_args 0 [.inr (.inr (2, some a0)), .inr (.inr (3, a1)), .inl a2]) [] M (none, so) := by
  unfold le_multiply at hs
  have g0 : zl_get (zl_args 0 [.inr (.inr (2, some a0)), .inr (.inr (3, a1)), .inl a2]) 0 = some (.inr (.inr (2, (some a0)))) := rfl
  have g1 : zl_get (zl_args 0 [.inr (.inr (2, some a0)), .inr (.inr (3, a1)), .inl a2]) 1 = some (.inr (.inr (3, a1))) := rfl
  have g2 : zl_get (zl_args 0 [.inr (.inr (2, some a0)), .inr (.inr (3, a1)), .inl a2]) 2 = some (.inl a2) := rfl
  refine e_const cd_174_0 ci_4 ?_
  refine e_iKn cd_174_1 nl_174 rfl rfl ?_
  intro _ gn kp
  have u1 := kp 0 _ g0 rfl rfl
  have u2 := kp 1 _ g1 rfl rfl
  have u3 := kp 2 _ g2 rfl rfl
  have u4 := gn
  exact tie_le_multiply_2  d  zLF a0 a1 a2 4 M so _ u1 u2 u3 u4 hs
theorem tie_le_addRow_3  (d : Nat)  : ∀ (fuel : Nat) (t0 : Nat) (v1 : Option Nat) (v2 : Int32) (v3 : Int32) (v4 : Int32) (M : zM) (so : zM) (ls : List (Nat × zV)), zl_get ls 0 = some (.inr (.inr (2, (some t0)))) → zl_get ls 1 = some (.inr (.inr (3, v1))) → zl_get ls 2 = some (.inl v2) → zl_get ls 3 = some (.inl v3) → zl_get ls 4 = some (.inl v4) → le_addRow_3  d fuel t0 v1 v2 v3 v4 M = some so → Ev zq_T d 176 3 ls [] M (none, so) := by
  intro fuel
  induction fuel with
  | zero => intro t0 v1 v2 v3 v4 M so ls g0 g1 g2 g3 g4 hs; exact nomatch hs
  | succ fuel ih =>
    intro t0 v1 v2 v3 v4 M so ls g0 g1 g2 g3 g4 hs
    unfold le_addRow_3 at hs
    refine e_ild cd_176_3 g4 ?_
    refine e_const cd_176_5 ci_5 ?_
    refine k_if hs (fun c1 hs => ?_) (fun c1 hs => ?_)
    · refine e_icJ cd_176_6 rfl c1 ?_
      have e := Option.some.inj hs
      subst e
      exact e_rv cd_176_38 nr_176
    · refine e_icN cd_176_6 rfl c1 ?_
      refine e_aldn cd_176_9 g1 ?_
      refine k_opt hs (fun _ q => nomatch q) (fun k2 h3 hs => ?_)
      refine e_getR cd_176_10 fd_176_112 h3 ?_
      refine e_ild cd_176_13 g4 ?_
      refine e_pure cd_176_15 rfl ?_
      refine k_opt hs (fun _ q => nomatch q) (fun k4 h5 hs => ?_)
      obtain ⟨c6, hs⟩ := z_ite hs
      refine e_iald cd_176_16 rfl h5 c6 ?_
      refine e_aldn cd_176_17 g0 ?_
      refine e_getR cd_176_18 fd_176_11 rfl ?_
      refine e_ildn cd_176_21 g2 ?_
      refine e_const cd_176_22 ci_5 ?_
      refine e_pure cd_176_23 rfl ?_
      refine e_ild cd_176_24 g4 ?_
      refine e_pure cd_176_26 rfl ?_
      refine k_opt hs (fun _ q => nomatch q) (fun k7 h8 hs => ?_)
      obtain ⟨c9, hs⟩ := z_ite hs
      refine e_iald cd_176_27 rfl h8 c9 ?_
      refine e_ildn cd_176_28 g3 ?_
      refine e_pure cd_176_29 rfl ?_
      refine e_pure cd_176_30 rfl ?_
      obtain ⟨c10, hs⟩ := z_ite hs
      refine k_let hs (fun M11 e12 hs => ?_)
      refine e_iast cd_176_31 rfl h5 c10 e12 ?_
      refine k_let hs (fun x13 e14 hs => ?_)
      refine e_incK cd_176_32 nl_176 rfl g4 ci_1 e14 ?_
      intro _ gn kp
      have u15 := kp 0 _ g0 rfl rfl
      have u16 := kp 1 _ g1 rfl rfl
      have u17 := kp 2 _ g2 rfl rfl
      have u18 := kp 3 _ g3 rfl rfl
      have u19 := gn
      refine e_goto cd_176_35 rfl ?_
      exact ih t0 v1 v2 v3 x13 M11 so _ u15 u16 u17 u18 u19 hs
theorem tie_le_addRow (d : Nat) (a0 : Nat) (a1 : Option Nat) (a2 : Int32) (a3 : Int32) (M : zM) (so : zM) (hs : le_addRow d a0 a1 a2 a3 M = some so) : Ev zq_T d 176 0 (zl_args 0 [.inr (.inr (2, some a0)), .inr (.inr (3, a1)), .inl a2, .inl a3]) [] M (none, so) := by
  unfold le_addRow at hs
  have g0 : zl_get (zl_args 0 [.inr (.inr (2, some a0)), .inr (.inr (3, a1)), .inl a2, .inl a3]) 0 = some (.inr (.inr (2, (some a0)))) := rfl
  have g1 : zl_get (zl_args 0 [.inr (.inr (2, some a0)), .inr (.inr (3, a1)), .inl a2, .inl a3]) 1 = some (.inr (.inr (3, a1))) := rfl
  have g2 : zl_get (zl_args 0 [.inr (.inr (2, some a0)), .inr (.inr (3, a1)), .inl a2, .inl a3]) 2 = some (.inl a2) := rfl
  have g3 : zl_get (zl_args 0 [.inr (.inr (2, some a0)), .inr (.inr (3, a1)), .inl a2, .inl a3]) 3 = some (.inl a3) := rfl
  refine e_const cd_176_0 ci_1 ?_
  refine e_iK cd_176_1 nl_176 rfl rfl ?_
  intro _ gn kp
  have u1 := kp 0 _ g0 rfl rfl
  have u2 := kp 1 _ g1 rfl rfl
  have u3 := kp 2 _ g2 rfl rfl
  have u4 := kp 3 _ g3 rfl rfl
  have u5 := gn
  exact tie_le_addRow_3  d  zLF a0 a1 a2 a3 1 M so _ u1 u2 u3 u4 u5 hs
theorem tie_le_learnRow_84 (kl22 : Nat → Option Nat → Int32 → Option Nat → zM → Option (zM)) (d : Nat) (hk22 : ∀ (t0 : Nat) (v1 : Option Nat) (v2 : Int32) (v3 : Option Nat) (M : zM) (so : zM) (ls : List (Nat × zV)), zl_get ls 0 = some (.inr (.inr (2, (some t0)))) → zl_get ls 1 = some (.inr (.inr (3, v1))) → zl_get ls 2 = some (.inl v2) → zl_get ls 3 = some (.inr (.inr (3, v3))) → kl22 t0 v1 v2 v3 M = some so → Ev zq_T (d + 1) 167 22 ls [] M (none, so)) (t0 : Nat) (v1 : Option Nat) (v2 : Int32) (v3 : Option Nat) (s0 : Option Nat) (s1 : Int32) (M : zM) (so : zM) (ls : List (Nat × zV)) (g0 : zl_get ls 0 = some (.inr (.inr (2, (some t0))))) (g1 : zl_get ls 1 = some (.inr (.inr (3, v1)))) (g2 : zl_get ls 2 = some (.inl v2)) (g3 : zl_get ls 3 = some (.inr (.inr (3, v3)))) (hs : le_learnRow_84 kl22 d t0 v1 v2 v3 s0 s1 M = some so) : Ev zq_T (d + 1) 167 84 ls [.inl s1, .inr (.inr (3, s0))] M (none, so) := by
  unfold le_learnRow_84 at hs
  refine k_opt hs (fun _ q => nomatch q) (fun k1 h2 hs => ?_)
  refine k_let hs (fun M3 e4 hs => ?_)
  refine e_putI cd_167_84 pd_167_106 h2 e4 ?_
  refine e_aldn cd_167_87 g0 ?_
  refine e_aldn cd_167_88 g3 ?_
  refine e_aldn cd_167_89 g3 ?_
  refine k_opt hs (fun _ q => nomatch q) (fun k5 h6 hs => ?_)
  refine e_getI cd_167_90 (Or.inr fd_167_41) h6 ?_
  obtain ⟨q7, h8, hs⟩ := k_bind hs
  refine e_cvi cd_167_93 kd_167_125 rfl rfl rfl rfl rfl nl_174 rfl rfl (tie_le_multiply d t0 v3 (zm_I M3 3 k5 8) M3 _ h8) ?_
  refine e_aldn cd_167_96 g3 ?_
  refine e_getR cd_167_97 fd_167_71 h6 ?_
  refine e_aKn cd_167_100 nl_167 rfl rfl ?_
  intro _ gn kp
  have u9 := kp 0 _ g0 rfl rfl
  have u10 := kp 1 _ g1 rfl rfl
  have u11 := kp 2 _ g2 rfl rfl
  have u12 := gn
  refine e_goto cd_167_101 rfl ?_
  exact hk22 t0 v1 v2 (zm_R q7 3 k5 7) q7 so _ u9 u10 u11 u12 hs
theorem tie_le_learnRow_59 (kl22 : Nat → Option Nat → Int32 → Option Nat → zM → Option (zM)) (d : Nat) (hk22 : ∀ (t0 : Nat) (v1 : Option Nat) (v2 : Int32) (v3 : Option Nat) (M : zM) (so : zM) (ls : List (Nat × zV)), zl_get ls 0 = some (.inr (.inr (2, (some t0)))) → zl_get ls 1 = some (.inr (.inr (3, v1))) → zl_get ls 2 = some (.inl v2) → zl_get ls 3 = some (.inr (.inr (3, v3))) → kl22 t0 v1 v2 v3 M = some so → Ev zq_T (d + 1) 167 22 ls [] M (none, so)) (t0 : Nat) (v1 : Option Nat) (v3 : Option Nat) (s0 : Int32) (M : zM) (so : zM) (ls : List (Nat × zV)) (g0 : zl_get ls 0 = some (.inr (.inr (2, (some t0))))) (g1 : zl_get ls 1 = some (.inr (.inr (3, v1)))) (g3 : zl_get ls 3 = some (.inr (.inr (3, v3)))) (hs : le_learnRow_59 kl22 d t0 v1 v3 s0 M = some so) : Ev zq_T (d + 1) 167 59 ls [.inl s0] M (none, so) := by
  unfold le_learnRow_59 at hs
  refine e_iKn cd_167_59 nl_167 rfl rfl ?_
  intro _ gn kp
  have u1 := kp 0 _ g0 rfl rfl
  have u2 := kp 1 _ g1 rfl rfl
  have u3 := kp 3 _ g3 rfl rfl
  have u4 := gn
  refine e_aldn cd_167_60 u2 ?_
  refine e_aldn cd_167_61 u3 ?_
  refine k_opt hs (fun _ q => nomatch q) (fun k5 h6 hs => ?_)
  refine e_getI cd_167_62 (Or.inr fd_167_41) h6 ?_
  refine k_if hs (fun c7 hs => ?_) (fun c7 hs => ?_)
  · refine e_izJ cd_167_65 rfl c7 ?_
    refine e_aldn cd_167_80 u3 ?_
    refine e_getI cd_167_81 (Or.inl fd_167_106) h6 ?_
    exact tie_le_learnRow_84 kl22 d hk22 t0 v1 s0 v3 v1 (zm_I M 3 k5 10) M so _ u1 u2 u4 u3 hs
  · refine e_izN cd_167_65 rfl c7 ?_
    refine e_aldn cd_167_68 u2 ?_
    refine k_opt hs (fun _ q => nomatch q) (fun k8 h9 hs => ?_)
    refine e_getI cd_167_69 (Or.inl fd_167_106) h9 ?_
    refine e_aldn cd_167_72 u3 ?_
    refine e_getI cd_167_73 (Or.inl fd_167_106) h6 ?_
    refine e_pure cd_167_76 rfl ?_
    refine e_goto cd_167_77 rfl ?_
    exact tie_le_learnRow_84 kl22 d hk22 t0 v1 s0 v3 v1 ((zm_I M 3 k8 10) ||| (zm_I M 3 k5 10)) M so _ u1 u2 u4 u3 hs
theorem tie_le_learnRow_58 (kl22 : Nat → Option Nat → Int32 → Option Nat → zM → Option (zM)) (d : Nat) (hk22 : ∀ (t0 : Nat) (v1 : Option Nat) (v2 : Int32) (v3 : Option Nat) (M : zM) (so : zM) (ls : List (Nat × zV)), zl_get ls 0 = some (.inr (.inr (2, (some t0)))) → zl_get ls 1 = some (.inr (.inr (3, v1))) → zl_get ls 2 = some (.inl v2) → zl_get ls 3 = some (.inr (.inr (3, v3))) → kl22 t0 v1 v2 v3 M = some so → Ev zq_T (d + 1) 167 22 ls [] M (none, so)) (t0 : Nat) (v1 : Option Nat) (v3 : Option Nat) (M : zM) (so : zM) (ls : List (Nat × zV)) (g0 : zl_get ls 0 = some (.inr (.inr (2, (some t0))))) (g1 : zl_get ls 1 = some (.inr (.inr (3, v1)))) (g3 : zl_get ls 3 = some (.inr (.inr (3, v3)))) (hs : le_learnRow_58 kl22 d t0 v1 v3 M = some so) : Ev zq_T (d + 1) 167 58 ls [] M (none, so) := by
  unfold le_learnRow_58 at hs
  refine e_const cd_167_58 ci_0 ?_
  exact tie_le_learnRow_59 kl22 d hk22 t0 v1 v3 0 M so _ g0 g1 g3 hs
theorem tie_le_learnRow_43 (kl22 : Nat → Option Nat → Int32 → Option Nat → zM → Option (zM)) (d : Nat) (hk22 : ∀ (t0 : Nat) (v1 : Option Nat) (v2 : Int32) (v3 : Option Nat) (M : zM) (so : zM) (ls : List (Nat × zV)), zl_get ls 0 = some (.inr (.inr (2, (some t0)))) → zl_get ls 1 = some (.inr (.inr (3, v1))) → zl_get ls 2 = some (.inl v2) → zl_get ls 3 = some (.inr (.inr (3, v3))) → kl22 t0 v1 v2 v3 M = some so → Ev zq_T (d + 1) 167 22 ls [] M (none, so)) (t0 : Nat) (v1 : Option Nat) (v2 : Int32) (v3 : Option Nat) (M : zM) (so : zM) (ls : List (Nat × zV)) (g0 : zl_get ls 0 = some (.inr (.inr (2, (some t0))))) (g1 : zl_get ls 1 = some (.inr (.inr (3, v1)))) (g2 : zl_get ls 2 = some (.inl v2)) (g3 : zl_get ls 3 = some (.inr (.inr (3, v3)))) (hs : le_learnRow_43 kl22 d t0 v1 v2 v3 M = some so) : Ev zq_T (d + 1) 167 43 ls [] M (none, so) := by
  unfold le_learnRow_43 at hs
  refine e_ildn cd_167_43 g2 ?_
  refine k_if hs (fun c1 hs => ?_) (fun c1 hs => ?_)
  · refine e_izJ cd_167_44 rfl c1 ?_
    exact tie_le_learnRow_58 kl22 d hk22 t0 v1 v3 M so _ g0 g1 g3 hs
  · refine e_izN cd_167_44 rfl c1 ?_
    refine e_aldn cd_167_47 g3 ?_
    refine k_opt hs (fun _ q => nomatch q) (fun k2 h3 hs => ?_)
    refine e_getI cd_167_48 (Or.inr fd_167_41) h3 ?_
    refine k_if hs (fun c4 hs => ?_) (fun c4 hs => ?_)
    · refine e_izJ cd_167_51 rfl c4 ?_
      exact tie_le_learnRow_58 kl22 d hk22 t0 v1 v3 M so _ g0 g1 g3 hs
    · refine e_izN cd_167_51 rfl c4 ?_
      refine e_const cd_167_54 ci_1 ?_
      refine e_goto cd_167_55 rfl ?_
      exact tie_le_learnRow_59 kl22 d hk22 t0 v1 v3 1 M so _ g0 g1 g3 hs
theorem tie_le_learnRow_22  (d : Nat)  : ∀ (fuel : Nat) (t0 : Nat) (v1 : Option Nat) (v2 : Int32) (v3 : Option Nat) (M : zM) (so : zM) (ls : List (Nat × zV)), zl_get ls 0 = some (.inr (.inr (2, (some t0)))) → zl_get ls 1 = some (.inr (.inr (3, v1))) → zl_get ls 2 = some (.inl v2) → zl_get ls 3 = some (.inr (.inr (3, v3))) → le_learnRow_22  d fuel t0 v1 v2 v3 M = some so → Ev zq_T (d + 1) 167 22 ls [] M (none, so) := by
  intro fuel
  induction fuel with
  | zero => intro t0 v1 v2 v3 M so ls g0 g1 g2 g3 hs; exact nomatch hs
  | succ fuel ih =>
    intro t0 v1 v2 v3 M so ls g0 g1 g2 g3 hs
    unfold le_learnRow_22 at hs
    refine e_aldn cd_167_22 g3 ?_
    refine k_opt hs (fun h1 hs => ?_) (fun k2 h1 hs => ?_)
    · refine e_nu0 cd_167_23 rfl h1 ?_
      refine e_aldn cd_167_104 g0 ?_
      refine e_aldn cd_167_105 g1 ?_
      refine e_const cd_167_106 ci_0 ?_
      refine e_const cd_167_107 ci_1 ?_
      obtain ⟨q3, h4, hs⟩ := k_bind hs
      refine e_cvi cd_167_108 kd_167_129 rfl rfl rfl rfl rfl nl_176 rfl rfl (tie_le_addRow d t0 v1 0 1 M _ h4) ?_
      refine e_aldn cd_167_111 g0 ?_
      refine e_aldn cd_167_112 g1 ?_
      obtain ⟨q5, h6, hs⟩ := k_bind hs
      refine e_cvi cd_167_113 kd_167_132 rfl rfl rfl rfl rfl nl_168 rfl rfl (tie_le_learnAllTogether d t0 v1 q3 _ h6) ?_
      have e := Option.some.inj hs
      subst e
      exact e_rv cd_167_116 nr_167
    · refine e_nu1 cd_167_23 rfl h1 ?_
      refine e_ildn cd_167_26 g2 ?_
      refine k_if hs (fun c7 hs => ?_) (fun c7 hs => ?_)
      · refine e_izJ cd_167_27 rfl c7 ?_
        exact tie_le_learnRow_43 (fun p0 p1 p2 p3 m => le_learnRow_22  d fuel p0 p1 p2 p3 m) d ih t0 v1 v2 v3 M so _ g0 g1 g2 g3 hs
      · refine e_izN cd_167_27 rfl c7 ?_
        refine e_aldn cd_167_30 g1 ?_
        refine e_pure cd_167_31 rfl ?_
        refine k_opt hs (fun _ q => nomatch q) (fun k8 h9 hs => ?_)
        refine e_getI cd_167_32 (Or.inl fd_167_103) h9 ?_
        refine e_aldn cd_167_35 g3 ?_
        refine e_getI cd_167_36 (Or.inl fd_167_103) h1 ?_
        refine e_pure cd_167_39 rfl ?_
        refine k_let hs (fun M10 e11 hs => ?_)
        refine e_putI cd_167_40 pd_167_103 h9 e11 ?_
        exact tie_le_learnRow_43 (fun p0 p1 p2 p3 m => le_learnRow_22  d fuel p0 p1 p2 p3 m) d ih t0 v1 v2 v3 M10 so _ g0 g1 g2 g3 hs
theorem tieb_le_learnRow  (d : Nat)  (a0 : Nat) (a1 : Option Nat) (M : zM) (so : zM) (hs : le_learnRow_b  d a0 a1 M = some so) : Ev zq_T (d + 1) 167 0 (zl_args 0 [.inr (.inr (2, some a0)), .inr (.inr (3, a1))]) [] M (none, so) := by
  unfold le_learnRow_b at hs
  have g0 : zl_get (zl_args 0 [.inr (.inr (2, some a0)), .inr (.inr (3, a1))]) 0 = some (.inr (.inr (2, (some a0)))) := rfl
  have g1 : zl_get (zl_args 0 [.inr (.inr (2, some a0)), .inr (.inr (3, a1))]) 1 = some (.inr (.inr (3, a1))) := rfl
  refine e_const cd_167_0 ci_1 ?_
  refine e_iKn cd_167_1 nl_167 rfl rfl ?_
  intro _ gn kp
  have u1 := kp 0 _ g0 rfl rfl
  have u2 := kp 1 _ g1 rfl rfl
  have u3 := gn
  refine e_aldn cd_167_2 u2 ?_
  refine e_const cd_167_3 ci_0 ?_
  refine k_opt hs (fun _ q => nomatch q) (fun k4 h5 hs => ?_)
  refine k_let hs (fun M6 e7 hs => ?_)
  refine e_putI cd_167_4 pd_167_103 h5 e7 ?_
  refine e_aldn cd_167_7 u2 ?_
  refine e_const cd_167_8 ci_0 ?_
  refine k_let hs (fun M8 e9 hs => ?_)
  refine e_putI cd_167_9 pd_167_106 h5 e9 ?_
  refine e_aldn cd_167_12 u1 ?_
  refine e_const cd_167_13 ci_0 ?_
  obtain ⟨q10, h11, hs⟩ := k_bind hs
  refine e_cvi cd_167_14 kd_167_121 rfl rfl rfl rfl rfl nl_173 rfl rfl (tie_le_startRow d a0 0 M8 _ h11) ?_
  refine e_aldn cd_167_17 u2 ?_
  refine e_getR cd_167_18 fd_167_36 h5 ?_
  refine e_aKn cd_167_21 nl_167 rfl rfl ?_
  intro _ gn kp
  have u12 := kp 0 _ u1 rfl rfl
  have u13 := kp 1 _ u2 rfl rfl
  have u14 := kp 2 _ u3 rfl rfl
  have u15 := gn
  exact tie_le_learnRow_22  d  zLF a0 a1 1 (zm_R q10 3 k4 5) q10 so _ u12 u13 u14 u15 hs
theorem tie_le_learnRow (d : Nat) (a0 : Nat) (a1 : Option Nat) (M : zM) (so : zM) (hs : le_learnRow d a0 a1 M = some so) : Ev zq_T d 167 0 (zl_args 0 [.inr (.inr (2, some a0)), .inr (.inr (3, a1))]) [] M (none, so) := by
  cases d with
  | zero => exact nomatch hs
  | succ d => exact tieb_le_learnRow d a0 a1 M so hs
theorem tie_le_learnChoice_93 (kl13 : Option Nat → Int32 → Int32 → Int32 → Option Nat → zM → Option (zM)) (d : Nat) (hk13 : ∀ (v1 : Option Nat) (v2 : Int32) (v3 : Int32) (v4 : Int32) (v5 : Option Nat) (M : zM) (so : zM) (ls : List (Nat × zV)), zl_get ls 1 = some (.inr (.inr (3, v1))) → zl_get ls 2 = some (.inl v2) → zl_get ls 3 = some (.inl v3) → zl_get ls 4 = some (.inl v4) → zl_get ls 5 = some (.inr (.inr (3, v5))) → kl13 v1 v2 v3 v4 v5 M = some so → Ev zq_T d 169 13 ls [] M (none, so)) : ∀ (fuel : Nat) (v1 : Option Nat) (v2 : Int32) (v3 : Int32) (v4 : Int32) (v5 : Option Nat) (v6 : Int32) (M : zM) (so : zM) (ls : List (Nat × zV)), zl_get ls 1 = some (.inr (.inr (3, v1))) → zl_get ls 2 = some (.inl v2) → zl_get ls 3 = some (.inl v3) → zl_get ls 4 = some (.inl v4) → zl_get ls 5 = some (.inr (.inr (3, v5))) → zl_get ls 6 = some (.inl v6) → le_learnChoice_93 kl13 d fuel v1 v2 v3 v4 v5 v6 M = some so → Ev zq_T d 169 93 ls [] M (none, so) := by
  intro fuel
  induction fuel with
  | zero => intro v1 v2 v3 v4 v5 v6 M so ls g1 g2 g3 g4 g5 g6 hs; exact nomatch hs
  | succ fuel ih =>
    intro v1 v2 v3 v4 v5 v6 M so ls g1 g2 g3 g4 g5 g6 hs
    unfold le_learnChoice_93 at hs
    refine e_ild cd_169_93 g6 ?_
    refine e_const cd_169_95 ci_5 ?_
    refine k_if hs (fun c1 hs => ?_) (fun c1 hs => ?_)
    · refine e_icJ cd_169_96 rfl c1 ?_
      refine e_ald cd_169_123 g5 ?_
      refine k_opt hs (fun _ q => nomatch q) (fun k2 h3 hs => ?_)
      refine e_getR cd_169_125 fd_169_71 h3 ?_
      refine e_aK cd_169_128 nl_169 rfl rfl ?_
      intro _ gn kp
      have u4 := kp 1 _ g1 rfl rfl
      have u5 := kp 2 _ g2 rfl rfl
      have u6 := kp 3 _ g3 rfl rfl
      have u7 := kp 4 _ g4 rfl rfl
      have u8 := gn
      refine e_goto cd_169_130 rfl ?_
      exact hk13 v1 v2 v3 v4 (zm_R M 3 k2 7) M so _ u4 u5 u6 u7 u8 hs
    · refine e_icN cd_169_96 rfl c1 ?_
      refine e_aldn cd_169_99 g1 ?_
      refine k_opt hs (fun _ q => nomatch q) (fun k9 h10 hs => ?_)
      refine e_getR cd_169_100 fd_169_112 h10 ?_
      refine e_ild cd_169_103 g6 ?_
      refine e_pure cd_169_105 rfl ?_
      refine k_opt hs (fun _ q => nomatch q) (fun k11 h12 hs => ?_)
      obtain ⟨c13, hs⟩ := z_ite hs
      refine e_iald cd_169_106 rfl h12 c13 ?_
      refine e_ald cd_169_107 g5 ?_
      refine k_opt hs (fun _ q => nomatch q) (fun k14 h15 hs => ?_)
      refine e_getR cd_169_109 fd_169_112 h15 ?_
      refine e_ild cd_169_112 g6 ?_
      refine k_opt hs (fun _ q => nomatch q) (fun k16 h17 hs => ?_)
      obtain ⟨c18, hs⟩ := z_ite hs
      refine e_iald cd_169_114 rfl h17 c18 ?_
      refine e_pure cd_169_115 rfl ?_
      obtain ⟨c19, hs⟩ := z_ite hs
      refine k_let hs (fun M20 e21 hs => ?_)
      refine e_iast cd_169_116 rfl h12 c19 e21 ?_
      refine k_let hs (fun x22 e23 hs => ?_)
      refine e_incK cd_169_117 nl_169 rfl g6 ci_1 e23 ?_
      intro _ gn kp
      have u24 := kp 1 _ g1 rfl rfl
      have u25 := kp 2 _ g2 rfl rfl
      have u26 := kp 3 _ g3 rfl rfl
      have u27 := kp 4 _ g4 rfl rfl
      have u28 := kp 5 _ g5 rfl rfl
      have u29 := gn
      refine e_goto cd_169_120 rfl ?_
      exact ih v1 v2 v3 v4 v5 x22 M20 so _ u24 u25 u26 u27 u28 u29 hs
theorem tie_le_learnChoice_88 (kl13 : Option Nat → Int32 → Int32 → Int32 → Option Nat → zM → Option (zM)) (d : Nat) (hk13 : ∀ (v1 : Option Nat) (v2 : Int32) (v3 : Int32) (v4 : Int32) (v5 : Option Nat) (M : zM) (so : zM) (ls : List (Nat × zV)), zl_get ls 1 = some (.inr (.inr (3, v1))) → zl_get ls 2 = some (.inl v2) → zl_get ls 3 = some (.inl v3) → zl_get ls 4 = some (.inl v4) → zl_get ls 5 = some (.inr (.inr (3, v5))) → kl13 v1 v2 v3 v4 v5 M = some so → Ev zq_T d 169 13 ls [] M (none, so)) (v1 : Option Nat) (v2 : Int32) (v3 : Int32) (v5 : Option Nat) (s0 : Int32) (M : zM) (so : zM) (ls : List (Nat × zV)) (g1 : zl_get ls 1 = some (.inr (.inr (3, v1)))) (g2 : zl_get ls 2 = some (.inl v2)) (g3 : zl_get ls 3 = some (.inl v3)) (g5 : zl_get ls 5 = some (.inr (.inr (3, v5)))) (hs : le_learnChoice_88 kl13 d v1 v2 v3 v5 s0 M = some so) : Ev zq_T d 169 88 ls [.inl s0] M (none, so) := by
  unfold le_learnChoice_88 at hs
  refine e_iK cd_169_88 nl_169 rfl rfl ?_
  intro _ gn kp
  have u1 := kp 1 _ g1 rfl rfl
  have u2 := kp 2 _ g2 rfl rfl
  have u3 := kp 3 _ g3 rfl rfl
  have u4 := kp 5 _ g5 rfl rfl
  have u5 := gn
  refine e_const cd_169_90 ci_1 ?_
  refine e_iK cd_169_91 nl_169 rfl rfl ?_
  intro _ gn kp
  have u6 := kp 1 _ u1 rfl rfl
  have u7 := kp 2 _ u2 rfl rfl
  have u8 := kp 3 _ u3 rfl rfl
  have u9 := kp 5 _ u4 rfl rfl
  have u10 := kp 4 _ u5 rfl rfl
  have u11 := gn
  exact tie_le_learnChoice_93 kl13 d hk13 zLF v1 v2 v3 s0 v5 1 M so _ u6 u7 u8 u10 u9 u11 hs
theorem tie_le_learnChoice_74 (kl13 : Option Nat → Int32 → Int32 → Int32 → Option Nat → zM → Option (zM)) (d : Nat) (hk13 : ∀ (v1 : Option Nat) (v2 : Int32) (v3 : Int32) (v4 : Int32) (v5 : Option Nat) (M : zM) (so : zM) (ls : List (Nat × zV)), zl_get ls 1 = some (.inr (.inr (3, v1))) → zl_get ls 2 = some (.inl v2) → zl_get ls 3 = some (.inl v3) → zl_get ls 4 = some (.inl v4) → zl_get ls 5 = some (.inr (.inr (3, v5))) → kl13 v1 v2 v3 v4 v5 M = some so → Ev zq_T d 169 13 ls [] M (none, so)) (v1 : Option Nat) (v2 : Int32) (v3 : Int32) (v5 : Option Nat) (M : zM) (so : zM) (ls : List (Nat × zV)) (g1 : zl_get ls 1 = some (.inr (.inr (3, v1)))) (g2 : zl_get ls 2 = some (.inl v2)) (g3 : zl_get ls 3 = some (.inl v3)) (g5 : zl_get ls 5 = some (.inr (.inr (3, v5)))) (hs : le_learnChoice_74 kl13 d v1 v2 v3 v5 M = some so) : Ev zq_T d 169 74 ls [] M (none, so) := by
  unfold le_learnChoice_74 at hs
  refine e_const cd_169_74 ci_m1 ?_
  refine e_goto cd_169_75 rfl ?_
  exact tie_le_learnChoice_88 kl13 d hk13 v1 v2 v3 v5 (-1) M so _ g1 g2 g3 g5 hs
theorem tie_le_learnChoice_58 (kl13 : Option Nat → Int32 → Int32 → Int32 → Option Nat → zM → Option (zM)) (d : Nat) (hk13 : ∀ (v1 : Option Nat) (v2 : Int32) (v3 : Int32) (v4 : Int32) (v5 : Option Nat) (M : zM) (so : zM) (ls : List (Nat × zV)), zl_get ls 1 = some (.inr (.inr (3, v1))) → zl_get ls 2 = some (.inl v2) → zl_get ls 3 = some (.inl v3) → zl_get ls 4 = some (.inl v4) → zl_get ls 5 = some (.inr (.inr (3, v5))) → kl13 v1 v2 v3 v4 v5 M = some so → Ev zq_T d 169 13 ls [] M (none, so)) (v1 : Option Nat) (v2 : Int32) (v4 : Int32) (v5 : Option Nat) (s0 : Int32) (M : zM) (so : zM) (ls : List (Nat × zV)) (g1 : zl_get ls 1 = some (.inr (.inr (3, v1)))) (g2 : zl_get ls 2 = some (.inl v2)) (g4 : zl_get ls 4 = some (.inl v4)) (g5 : zl_get ls 5 = some (.inr (.inr (3, v5)))) (hs : le_learnChoice_58 kl13 d v1 v2 v4 v5 s0 M = some so) : Ev zq_T d 169 58 ls [.inl s0] M (none, so) := by
  unfold le_learnChoice_58 at hs
  refine e_iKn cd_169_58 nl_169 rfl rfl ?_
  intro _ gn kp
  have u1 := kp 1 _ g1 rfl rfl
  have u2 := kp 2 _ g2 rfl rfl
  have u3 := kp 4 _ g4 rfl rfl
  have u4 := kp 5 _ g5 rfl rfl
  have u5 := gn
  refine e_ild cd_169_59 u3 ?_
  refine e_const cd_169_61 ci_m1 ?_
  refine k_if hs (fun c6 hs => ?_) (fun c6 hs => ?_)
  · refine e_icJ cd_169_62 rfl c6 ?_
    exact tie_le_learnChoice_74 kl13 d hk13 v1 v2 s0 v5 M so _ u1 u2 u5 u4 hs
  · refine e_icN cd_169_62 rfl c6 ?_
    refine e_ald cd_169_65 u4 ?_
    refine k_opt hs (fun _ q => nomatch q) (fun k7 h8 hs => ?_)
    refine e_getI cd_169_67 (Or.inl fd_169_118) h8 ?_
    refine e_const cd_169_70 ci_m1 ?_
    refine k_if hs (fun c9 hs => ?_) (fun c9 hs => ?_)
    · refine e_icN cd_169_71 rfl (fun q => q c9) ?_
      exact tie_le_learnChoice_74 kl13 d hk13 v1 v2 s0 v5 M so _ u1 u2 u5 u4 hs
    · refine e_icJ cd_169_71 rfl c9 ?_
      refine e_ild cd_169_78 u3 ?_
      refine e_ald cd_169_80 u4 ?_
      refine e_getI cd_169_82 (Or.inl fd_169_118) h8 ?_
      refine e_max cd_169_85 kd_169_141 rfl ?_
      exact tie_le_learnChoice_88 kl13 d hk13 v1 v2 s0 v5 (if v4 < (zm_I M 3 k7 13) then (zm_I M 3 k7 13) else v4) M so _ u1 u2 u5 u4 hs
theorem tie_le_learnChoice_35 (kl13 : Option Nat → Int32 → Int32 → Int32 → Option Nat → zM → Option (zM)) (d : Nat) (hk13 : ∀ (v1 : Option Nat) (v2 : Int32) (v3 : Int32) (v4 : Int32) (v5 : Option Nat) (M : zM) (so : zM) (ls : List (Nat × zV)), zl_get ls 1 = some (.inr (.inr (3, v1))) → zl_get ls 2 = some (.inl v2) → zl_get ls 3 = some (.inl v3) → zl_get ls 4 = some (.inl v4) → zl_get ls 5 = some (.inr (.inr (3, v5))) → kl13 v1 v2 v3 v4 v5 M = some so → Ev zq_T d 169 13 ls [] M (none, so)) (v1 : Option Nat) (v3 : Int32) (v4 : Int32) (v5 : Option Nat) (s0 : Int32) (M : zM) (so : zM) (ls : List (Nat × zV)) (g1 : zl_get ls 1 = some (.inr (.inr (3, v1)))) (g3 : zl_get ls 3 = some (.inl v3)) (g4 : zl_get ls 4 = some (.inl v4)) (g5 : zl_get ls 5 = some (.inr (.inr (3, v5)))) (hs : le_learnChoice_35 kl13 d v1 v3 v4 v5 s0 M = some so) : Ev zq_T d 169 35 ls [.inl s0] M (none, so) := by
  unfold le_learnChoice_35 at hs
  refine e_iKn cd_169_35 nl_169 rfl rfl ?_
  intro _ gn kp
  have u1 := kp 1 _ g1 rfl rfl
  have u2 := kp 3 _ g3 rfl rfl
  have u3 := kp 4 _ g4 rfl rfl
  have u4 := kp 5 _ g5 rfl rfl
  have u5 := gn
  refine e_ildn cd_169_36 u2 ?_
  refine e_const cd_169_37 ci_m1 ?_
  refine k_if hs (fun c6 hs => ?_) (fun c6 hs => ?_)
  · refine e_icN cd_169_38 rfl (fun q => q c6) ?_
    refine e_ald cd_169_41 u4 ?_
    refine k_opt hs (fun _ q => nomatch q) (fun k7 h8 hs => ?_)
    refine e_getI cd_169_43 (Or.inl fd_169_115) h8 ?_
    refine e_goto cd_169_46 rfl ?_
    exact tie_le_learnChoice_58 kl13 d hk13 v1 s0 v4 v5 (zm_I M 3 k7 12) M so _ u1 u5 u3 u4 hs
  · refine e_icJ cd_169_38 rfl c6 ?_
    refine e_ildn cd_169_49 u2 ?_
    refine e_ald cd_169_50 u4 ?_
    refine k_opt hs (fun _ q => nomatch q) (fun k9 h10 hs => ?_)
    refine e_getI cd_169_52 (Or.inl fd_169_115) h10 ?_
    refine e_min cd_169_55 kd_169_135 rfl ?_
    exact tie_le_learnChoice_58 kl13 d hk13 v1 s0 v4 v5 (if (zm_I M 3 k9 12) < v3 then (zm_I M 3 k9 12) else v3) M so _ u1 u5 u3 u4 hs
theorem tie_le_learnChoice_30 (kl13 : Option Nat → Int32 → Int32 → Int32 → Option Nat → zM → Option (zM)) (d : Nat) (hk13 : ∀ (v1 : Option Nat) (v2 : Int32) (v3 : Int32) (v4 : Int32) (v5 : Option Nat) (M : zM) (so : zM) (ls : List (Nat × zV)), zl_get ls 1 = some (.inr (.inr (3, v1))) → zl_get ls 2 = some (.inl v2) → zl_get ls 3 = some (.inl v3) → zl_get ls 4 = some (.inl v4) → zl_get ls 5 = some (.inr (.inr (3, v5))) → kl13 v1 v2 v3 v4 v5 M = some so → Ev zq_T d 169 13 ls [] M (none, so)) (v1 : Option Nat) (v3 : Int32) (v4 : Int32) (v5 : Option Nat) (M : zM) (so : zM) (ls : List (Nat × zV)) (g1 : zl_get ls 1 = some (.inr (.inr (3, v1)))) (g3 : zl_get ls 3 = some (.inl v3)) (g4 : zl_get ls 4 = some (.inl v4)) (g5 : zl_get ls 5 = some (.inr (.inr (3, v5)))) (hs : le_learnChoice_30 kl13 d v1 v3 v4 v5 M = some so) : Ev zq_T d 169 30 ls [] M (none, so) := by
  unfold le_learnChoice_30 at hs
  refine e_const cd_169_30 ci_1 ?_
  refine e_goto cd_169_31 rfl ?_
  exact tie_le_learnChoice_35 kl13 d hk13 v1 v3 v4 v5 1 M so _ g1 g3 g4 g5 hs
theorem tie_le_learnChoice_13  (d : Nat)  : ∀ (fuel : Nat) (v1 : Option Nat) (v2 : Int32) (v3 : Int32) (v4 : Int32) (v5 : Option Nat) (M : zM) (so : zM) (ls : List (Nat × zV)), zl_get ls 1 = some (.inr (.inr (3, v1))) → zl_get ls 2 = some (.inl v2) → zl_get ls 3 = some (.inl v3) → zl_get ls 4 = some (.inl v4) → zl_get ls 5 = some (.inr (.inr (3, v5))) → le_learnChoice_13  d fuel v1 v2 v3 v4 v5 M = some so → Ev zq_T d 169 13 ls [] M (none, so) := by
  intro fuel
  induction fuel with
  | zero => intro v1 v2 v3 v4 v5 M so ls g1 g2 g3 g4 g5 hs; exact nomatch hs
  | succ fuel ih =>
    intro v1 v2 v3 v4 v5 M so ls g1 g2 g3 g4 g5 hs
    unfold le_learnChoice_13 at hs
    refine e_ald cd_169_13 g5 ?_
    refine k_opt hs (fun h1 hs => ?_) (fun k2 h1 hs => ?_)
    · refine e_nu0 cd_169_15 rfl h1 ?_
      refine e_aldn cd_169_133 g1 ?_
      refine e_ildn cd_169_134 g2 ?_
      refine k_opt hs (fun _ q => nomatch q) (fun k3 h4 hs => ?_)
      obtain ⟨c5, hs⟩ := z_ite hs
      refine k_let hs (fun M6 e7 hs => ?_)
      refine e_putZ cd_169_135 pd_169_41 c5 h4 e7 ?_
      refine e_aldn cd_169_138 g1 ?_
      refine e_ildn cd_169_139 g3 ?_
      refine k_let hs (fun M8 e9 hs => ?_)
      refine e_putI cd_169_140 pd_169_115 h4 e9 ?_
      refine e_aldn cd_169_143 g1 ?_
      refine e_ild cd_169_144 g4 ?_
      refine k_let hs (fun M10 e11 hs => ?_)
      refine e_putI cd_169_146 pd_169_118 h4 e11 ?_
      have e := Option.some.inj hs
      subst e
      exact e_rv cd_169_149 nr_169
    · refine e_nu1 cd_169_15 rfl h1 ?_
      refine e_ildn cd_169_18 g2 ?_
      refine k_if hs (fun c12 hs => ?_) (fun c12 hs => ?_)
      · refine e_izN cd_169_19 rfl (fun q => q c12) ?_
        refine e_ald cd_169_22 g5 ?_
        refine e_getI cd_169_24 (Or.inr fd_169_41) h1 ?_
        refine k_if hs (fun c13 hs => ?_) (fun c13 hs => ?_)
        · refine e_izJ cd_169_27 rfl c13 ?_
          refine e_const cd_169_34 ci_0 ?_
          exact tie_le_learnChoice_35 (fun p0 p1 p2 p3 p4 m => le_learnChoice_13  d fuel p0 p1 p2 p3 p4 m) d ih v1 v3 v4 v5 0 M so _ g1 g3 g4 g5 hs
        · refine e_izN cd_169_27 rfl c13 ?_
          exact tie_le_learnChoice_30 (fun p0 p1 p2 p3 p4 m => le_learnChoice_13  d fuel p0 p1 p2 p3 p4 m) d ih v1 v3 v4 v5 M so _ g1 g3 g4 g5 hs
      · refine e_izJ cd_169_19 rfl c12 ?_
        exact tie_le_learnChoice_30 (fun p0 p1 p2 p3 p4 m => le_learnChoice_13  d fuel p0 p1 p2 p3 p4 m) d ih v1 v3 v4 v5 M so _ g1 g3 g4 g5 hs
theorem tie_le_learnChoice (d : Nat) (a0 : Nat) (a1 : Option Nat) (M : zM) (so : zM) (hs : le_learnChoice d a0 a1 M = some so) : Ev zq_T d 169 0 (zl_args 0 [.inr (.inr (2, some a0)), .inr (.inr (3, a1))]) [] M (none, so) := by
  unfold le_learnChoice at hs
  have g0 : zl_get (zl_args 0 [.inr (.inr (2, some a0)), .inr (.inr (3, a1))]) 0 = some (.inr (.inr (2, (some a0)))) := rfl
  have g1 : zl_get (zl_args 0 [.inr (.inr (2, some a0)), .inr (.inr (3, a1))]) 1 = some (.inr (.inr (3, a1))) := rfl
  refine e_const cd_169_0 ci_0 ?_
  refine e_iKn cd_169_1 nl_169 rfl rfl ?_
  intro _ gn kp
  have u1 := kp 1 _ g1 rfl rfl
  have u2 := gn
  refine e_const cd_169_2 ci_m1 ?_
  refine e_iKn cd_169_3 nl_169 rfl rfl ?_
  intro _ gn kp
  have u3 := kp 1 _ u1 rfl rfl
  have u4 := kp 2 _ u2 rfl rfl
  have u5 := gn
  refine e_const cd_169_4 ci_0 ?_
  refine e_iK cd_169_5 nl_169 rfl rfl ?_
  intro _ gn kp
  have u6 := kp 1 _ u3 rfl rfl
  have u7 := kp 2 _ u4 rfl rfl
  have u8 := kp 3 _ u5 rfl rfl
  have u9 := gn
  refine e_aldn cd_169_7 u6 ?_
  refine k_opt hs (fun _ q => nomatch q) (fun k10 h11 hs => ?_)
  refine e_getR cd_169_8 fd_169_36 h11 ?_
  refine e_aK cd_169_11 nl_169 rfl rfl ?_
  intro _ gn kp
  have u12 := kp 1 _ u6 rfl rfl
  have u13 := kp 2 _ u7 rfl rfl
  have u14 := kp 3 _ u8 rfl rfl
  have u15 := kp 4 _ u9 rfl rfl
  have u16 := gn
  exact tie_le_learnChoice_13  d  zLF a1 0 (-1) 0 (zm_R M 3 k10 5) M so _ u12 u13 u14 u15 u16 hs
theorem tie_le_learnCounted_167 (kl129 : Nat → Option Nat → Int32 → Option Nat → Int32 → Int32 → zM → Option (zM)) (d : Nat) (hk129 : ∀ (t0 : Nat) (v1 : Option Nat) (v3 : Int32) (v4 : Option Nat) (v5 : Int32) (v6 : Int32) (M : zM) (so : zM) (ls : List (Nat × zV)), zl_get ls 0 = some (.inr (.inr (2, (some t0)))) → zl_get ls 1 = some (.inr (.inr (3, v1))) → zl_get ls 3 = some (.inl v3) → zl_get ls 4 = some (.inr (.inr (3, v4))) → zl_get ls 5 = some (.inl v5) → zl_get ls 6 = some (.inl v6) → kl129 t0 v1 v3 v4 v5 v6 M = some so → Ev zq_T (d + 1) 170 129 ls [] M (none, so)) (t0 : Nat) (v1 : Option Nat) (v3 : Int32) (v4 : Option Nat) (v5 : Int32) (v6 : Int32) (M : zM) (so : zM) (ls : List (Nat × zV)) (g0 : zl_get ls 0 = some (.inr (.inr (2, (some t0))))) (g1 : zl_get ls 1 = some (.inr (.inr (3, v1)))) (g3 : zl_get ls 3 = some (.inl v3)) (g4 : zl_get ls 4 = some (.inr (.inr (3, v4)))) (g5 : zl_get ls 5 = some (.inl v5)) (g6 : zl_get ls 6 = some (.inl v6)) (hs : le_learnCounted_167 kl129 d t0 v1 v3 v4 v5 v6 M = some so) : Ev zq_T (d + 1) 170 167 ls [] M (none, so) := by
  unfold le_learnCounted_167 at hs
  refine k_let hs (fun x1 e2 hs => ?_)
  refine e_incK cd_170_167 nl_170 rfl g6 ci_1 e2 ?_
  intro _ gn kp
  have u3 := kp 0 _ g0 rfl rfl
  have u4 := kp 1 _ g1 rfl rfl
  have u5 := kp 3 _ g3 rfl rfl
  have u6 := kp 4 _ g4 rfl rfl
  have u7 := kp 5 _ g5 rfl rfl
  have u8 := gn
  refine e_goto cd_170_170 rfl ?_
  exact hk129 t0 v1 v3 v4 v5 x1 M so _ u3 u4 u5 u6 u7 u8 hs
theorem tie_le_learnCounted_146 (kl129 : Nat → Option Nat → Int32 → Option Nat → Int32 → Int32 → zM → Option (zM)) (d : Nat) (hk129 : ∀ (t0 : Nat) (v1 : Option Nat) (v3 : Int32) (v4 : Option Nat) (v5 : Int32) (v6 : Int32) (M : zM) (so : zM) (ls : List (Nat × zV)), zl_get ls 0 = some (.inr (.inr (2, (some t0)))) → zl_get ls 1 = some (.inr (.inr (3, v1))) → zl_get ls 3 = some (.inl v3) → zl_get ls 4 = some (.inr (.inr (3, v4))) → zl_get ls 5 = some (.inl v5) → zl_get ls 6 = some (.inl v6) → kl129 t0 v1 v3 v4 v5 v6 M = some so → Ev zq_T (d + 1) 170 129 ls [] M (none, so)) (t0 : Nat) (v1 : Option Nat) (v3 : Int32) (v4 : Option Nat) (v5 : Int32) (v6 : Int32) (M : zM) (so : zM) (ls : List (Nat × zV)) (g0 : zl_get ls 0 = some (.inr (.inr (2, (some t0))))) (g1 : zl_get ls 1 = some (.inr (.inr (3, v1)))) (g3 : zl_get ls 3 = some (.inl v3)) (g4 : zl_get ls 4 = some (.inr (.inr (3, v4)))) (g5 : zl_get ls 5 = some (.inl v5)) (g6 : zl_get ls 6 = some (.inl v6)) (hs : le_learnCounted_146 kl129 d t0 v1 v3 v4 v5 v6 M = some so) : Ev zq_T (d + 1) 170 146 ls [] M (none, so) := by
  unfold le_learnCounted_146 at hs
  refine e_aldn cd_170_146 g0 ?_
  refine e_ald cd_170_147 g4 ?_
  refine e_const cd_170_149 ci_0 ?_
  obtain ⟨q1, h2, hs⟩ := k_bind hs
  refine e_cvi cd_170_150 kd_170_125 rfl rfl rfl rfl rfl nl_174 rfl rfl (tie_le_multiply d t0 v4 0 M _ h2) ?_
  refine e_ild cd_170_153 g6 ?_
  refine e_ild cd_170_155 g5 ?_
  refine k_if hs (fun c3 hs => ?_) (fun c3 hs => ?_)
  · refine e_icJ cd_170_157 rfl c3 ?_
    exact tie_le_learnCounted_167 kl129 d hk129 t0 v1 v3 v4 v5 v6 q1 so _ g0 g1 g3 g4 g5 g6 hs
  · refine e_icN cd_170_157 rfl c3 ?_
    refine e_aldn cd_170_160 g0 ?_
    refine e_aldn cd_170_161 g1 ?_
    refine e_const cd_170_162 ci_0 ?_
    refine e_const cd_170_163 ci_1 ?_
    obtain ⟨q4, h5, hs⟩ := k_bind hs
    refine e_cvi cd_170_164 kd_170_129 rfl rfl rfl rfl rfl nl_176 rfl rfl (tie_le_addRow d t0 v1 0 1 q1 _ h5) ?_
    exact tie_le_learnCounted_167 kl129 d hk129 t0 v1 v3 v4 v5 v6 q4 so _ g0 g1 g3 g4 g5 g6 hs
theorem tie_le_learnCounted_173  (d : Nat)   (M : zM) (so : zM) (ls : List (Nat × zV))  (hs : le_learnCounted_173  d  M = some so) : Ev zq_T (d + 1) 170 173 ls [] M (none, so) := by
  unfold le_learnCounted_173 at hs
  have e := Option.some.inj hs
  subst e
  exact e_rv cd_170_173 nr_170
theorem tie_le_learnCounted_129  (d : Nat)  : ∀ (fuel : Nat) (t0 : Nat) (v1 : Option Nat) (v3 : Int32) (v4 : Option Nat) (v5 : Int32) (v6 : Int32) (M : zM) (so : zM) (ls : List (Nat × zV)), zl_get ls 0 = some (.inr (.inr (2, (some t0)))) → zl_get ls 1 = some (.inr (.inr (3, v1))) → zl_get ls 3 = some (.inl v3) → zl_get ls 4 = some (.inr (.inr (3, v4))) → zl_get ls 5 = some (.inl v5) → zl_get ls 6 = some (.inl v6) → le_learnCounted_129  d fuel t0 v1 v3 v4 v5 v6 M = some so → Ev zq_T (d + 1) 170 129 ls [] M (none, so) := by
  intro fuel
  induction fuel with
  | zero => intro t0 v1 v3 v4 v5 v6 M so ls g0 g1 g3 g4 g5 g6 hs; exact nomatch hs
  | succ fuel ih =>
    intro t0 v1 v3 v4 v5 v6 M so ls g0 g1 g3 g4 g5 g6 hs
    unfold le_learnCounted_129 at hs
    refine e_ild cd_170_129 g6 ?_
    refine e_const cd_170_131 ci_5 ?_
    refine k_if hs (fun c1 hs => ?_) (fun c1 hs => ?_)
    · refine e_icJ cd_170_132 rfl c1 ?_
      exact tie_le_learnCounted_173  d   M so _  hs
    · refine e_icN cd_170_132 rfl c1 ?_
      refine e_ildn cd_170_135 g3 ?_
      refine e_const cd_170_136 ci_m1 ?_
      refine k_if hs (fun c2 hs => ?_) (fun c2 hs => ?_)
      · refine e_icJ cd_170_137 rfl c2 ?_
        exact tie_le_learnCounted_146 (fun p0 p1 p2 p3 p4 p5 m => le_learnCounted_129  d fuel p0 p1 p2 p3 p4 p5 m) d ih t0 v1 v3 v4 v5 v6 M so _ g0 g1 g3 g4 g5 g6 hs
      · refine e_icN cd_170_137 rfl c2 ?_
        refine e_ild cd_170_140 g6 ?_
        refine e_ildn cd_170_142 g3 ?_
        refine k_if hs (fun c3 hs => ?_) (fun c3 hs => ?_)
        · refine e_icJ cd_170_143 rfl c3 ?_
          exact tie_le_learnCounted_173  d   M so _  hs
        · refine e_icN cd_170_143 rfl c3 ?_
          exact tie_le_learnCounted_146 (fun p0 p1 p2 p3 p4 p5 m => le_learnCounted_129  d fuel p0 p1 p2 p3 p4 p5 m) d ih t0 v1 v3 v4 v5 v6 M so _ g0 g1 g3 g4 g5 g6 hs
theorem tie_le_learnCounted_121  (d : Nat)  (t0 : Nat) (v1 : Option Nat) (v3 : Int32) (v4 : Option Nat) (v5 : Int32) (M : zM) (so : zM) (ls : List (Nat × zV)) (g0 : zl_get ls 0 = some (.inr (.inr (2, (some t0))))) (g1 : zl_get ls 1 = some (.inr (.inr (3, v1)))) (g3 : zl_get ls 3 = some (.inl v3)) (g4 : zl_get ls 4 = some (.inr (.inr (3, v4)))) (g5 : zl_get ls 5 = some (.inl v5)) (hs : le_learnCounted_121  d t0 v1 v3 v4 v5 M = some so) : Ev zq_T (d + 1) 170 121 ls [] M (none, so) := by
  unfold le_learnCounted_121 at hs
  refine e_aldn cd_170_121 g0 ?_
  refine e_const cd_170_122 ci_0 ?_
  obtain ⟨q1, h2, hs⟩ := k_bind hs
  refine e_cvi cd_170_123 kd_170_121 rfl rfl rfl rfl rfl nl_173 rfl rfl (tie_le_startRow d t0 0 M _ h2) ?_
  refine e_const cd_170_126 ci_1 ?_
  refine e_iK cd_170_127 nl_170 rfl rfl ?_
  intro _ gn kp
  have u3 := kp 0 _ g0 rfl rfl
  have u4 := kp 1 _ g1 rfl rfl
  have u5 := kp 3 _ g3 rfl rfl
  have u6 := kp 4 _ g4 rfl rfl
  have u7 := kp 5 _ g5 rfl rfl
  have u8 := gn
  exact tie_le_learnCounted_129  d  zLF t0 v1 v3 v4 v5 1 q1 so _ u3 u4 u5 u6 u7 u8 hs
theorem tie_le_learnCounted_118  (d : Nat)  (t0 : Nat) (v1 : Option Nat) (v3 : Int32) (v4 : Option Nat) (v5 : Int32) (s0 : Option Nat) (s1 : Int32) (M : zM) (so : zM) (ls : List (Nat × zV)) (g0 : zl_get ls 0 = some (.inr (.inr (2, (some t0))))) (g1 : zl_get ls 1 = some (.inr (.inr (3, v1)))) (g3 : zl_get ls 3 = some (.inl v3)) (g4 : zl_get ls 4 = some (.inr (.inr (3, v4)))) (g5 : zl_get ls 5 = some (.inl v5)) (hs : le_learnCounted_118  d t0 v1 v3 v4 v5 s0 s1 M = some so) : Ev zq_T (d + 1) 170 118 ls [.inl s1, .inr (.inr (3, s0))] M (none, so) := by
  unfold le_learnCounted_118 at hs
  refine k_opt hs (fun _ q => nomatch q) (fun k1 h2 hs => ?_)
  refine k_let hs (fun M3 e4 hs => ?_)
  refine e_putI cd_170_118 pd_170_118 h2 e4 ?_
  exact tie_le_learnCounted_121  d  t0 v1 v3 v4 v5 M3 so _ g0 g1 g3 g4 g5 hs
theorem tie_le_learnCounted_107  (d : Nat)  (t0 : Nat) (v1 : Option Nat) (v3 : Int32) (v4 : Option Nat) (v5 : Int32) (s0 : Option Nat) (M : zM) (so : zM) (ls : List (Nat × zV)) (g0 : zl_get ls 0 = some (.inr (.inr (2, (some t0))))) (g1 : zl_get ls 1 = some (.inr (.inr (3, v1)))) (g3 : zl_get ls 3 = some (.inl v3)) (g4 : zl_get ls 4 = some (.inr (.inr (3, v4)))) (g5 : zl_get ls 5 = some (.inl v5)) (hs : le_learnCounted_107  d t0 v1 v3 v4 v5 s0 M = some so) : Ev zq_T (d + 1) 170 107 ls [.inr (.inr (3, s0))] M (none, so) := by
  unfold le_learnCounted_107 at hs
  refine e_const cd_170_107 ci_m1 ?_
  refine e_goto cd_170_108 rfl ?_
  exact tie_le_learnCounted_118  d  t0 v1 v3 v4 v5 s0 (-1) M so _ g0 g1 g3 g4 g5 hs
theorem tie_le_learnCounted_73  (d : Nat)  (t0 : Nat) (v1 : Option Nat) (v3 : Int32) (v4 : Option Nat) (v5 : Int32) (s0 : Option Nat) (s1 : Int32) (M : zM) (so : zM) (ls : List (Nat × zV)) (g0 : zl_get ls 0 = some (.inr (.inr (2, (some t0))))) (g1 : zl_get ls 1 = some (.inr (.inr (3, v1)))) (g3 : zl_get ls 3 = some (.inl v3)) (g4 : zl_get ls 4 = some (.inr (.inr (3, v4)))) (g5 : zl_get ls 5 = some (.inl v5)) (hs : le_learnCounted_73  d t0 v1 v3 v4 v5 s0 s1 M = some so) : Ev zq_T (d + 1) 170 73 ls [.inl s1, .inr (.inr (3, s0))] M (none, so) := by
  unfold le_learnCounted_73 at hs
  refine k_opt hs (fun _ q => nomatch q) (fun k1 h2 hs => ?_)
  refine k_let hs (fun M3 e4 hs => ?_)
  refine e_putI cd_170_73 pd_170_115 h2 e4 ?_
  refine e_ald cd_170_76 g4 ?_
  refine k_opt hs (fun _ q => nomatch q) (fun k5 h6 hs => ?_)
  refine e_getI cd_170_78 (Or.inl fd_170_118) h6 ?_
  refine k_if hs (fun c7 hs => ?_) (fun c7 hs => ?_)
  · refine e_izN cd_170_81 rfl (fun q => q c7) ?_
    refine e_aldn cd_170_84 g1 ?_
    refine e_const cd_170_85 ci_0 ?_
    refine k_opt hs (fun _ q => nomatch q) (fun k8 h9 hs => ?_)
    refine k_let hs (fun M10 e11 hs => ?_)
    refine e_putI cd_170_86 pd_170_118 h9 e11 ?_
    refine e_goto cd_170_89 rfl ?_
    exact tie_le_learnCounted_121  d  t0 v1 v3 v4 v5 M10 so _ g0 g1 g3 g4 g5 hs
  · refine e_izJ cd_170_81 rfl c7 ?_
    refine e_aldn cd_170_92 g1 ?_
    refine e_ildn cd_170_93 g3 ?_
    refine e_const cd_170_94 ci_m1 ?_
    refine k_if hs (fun c12 hs => ?_) (fun c12 hs => ?_)
    · refine e_icJ cd_170_95 rfl c12 ?_
      exact tie_le_learnCounted_107  d  t0 v1 v3 v4 v5 v1 M3 so _ g0 g1 g3 g4 g5 hs
    · refine e_icN cd_170_95 rfl c12 ?_
      refine e_ald cd_170_98 g4 ?_
      refine e_getI cd_170_100 (Or.inl fd_170_118) h6 ?_
      refine e_const cd_170_103 ci_m1 ?_
      refine k_if hs (fun c13 hs => ?_) (fun c13 hs => ?_)
      · refine e_icN cd_170_104 rfl (fun q => q c13) ?_
        exact tie_le_learnCounted_107  d  t0 v1 v3 v4 v5 v1 M3 so _ g0 g1 g3 g4 g5 hs
      · refine e_icJ cd_170_104 rfl c13 ?_
        refine e_ald cd_170_111 g4 ?_
        refine e_getI cd_170_113 (Or.inl fd_170_118) h6 ?_
        refine e_ildn cd_170_116 g3 ?_
        refine e_pure cd_170_117 rfl ?_
        exact tie_le_learnCounted_118  d  t0 v1 v3 v4 v5 v1 ((zm_I M3 3 k5 13) * v3) M3 so _ g0 g1 g3 g4 g5 hs
theorem tie_le_learnCounted_50  (d : Nat)  (t0 : Nat) (v1 : Option Nat) (v3 : Int32) (v4 : Option Nat) (v5 : Int32) (s0 : Option Nat) (s1 : Int32) (M : zM) (so : zM) (ls : List (Nat × zV)) (g0 : zl_get ls 0 = some (.inr (.inr (2, (some t0))))) (g1 : zl_get ls 1 = some (.inr (.inr (3, v1)))) (g3 : zl_get ls 3 = some (.inl v3)) (g4 : zl_get ls 4 = some (.inr (.inr (3, v4)))) (g5 : zl_get ls 5 = some (.inl v5)) (hs : le_learnCounted_50  d t0 v1 v3 v4 v5 s0 s1 M = some so) : Ev zq_T (d + 1) 170 50 ls [.inl s1, .inr (.inr (3, s0))] M (none, so) := by
  unfold le_learnCounted_50 at hs
  refine k_opt hs (fun _ q => nomatch q) (fun k1 h2 hs => ?_)
  obtain ⟨c3, hs⟩ := z_ite hs
  refine k_let hs (fun M4 e5 hs => ?_)
  refine e_putZ cd_170_50 pd_170_41 c3 h2 e5 ?_
  refine e_aldn cd_170_53 g1 ?_
  refine e_aldn cd_170_54 g1 ?_
  refine k_opt hs (fun _ q => nomatch q) (fun k6 h7 hs => ?_)
  refine e_getI cd_170_55 (Or.inr fd_170_41) h7 ?_
  refine k_if hs (fun c8 hs => ?_) (fun c8 hs => ?_)
  · refine e_izJ cd_170_58 rfl c8 ?_
    refine e_ald cd_170_65 g4 ?_
    refine k_opt hs (fun _ q => nomatch q) (fun k9 h10 hs => ?_)
    refine e_getI cd_170_67 (Or.inl fd_170_115) h10 ?_
    refine e_ild cd_170_70 g5 ?_
    refine e_pure cd_170_72 rfl ?_
    exact tie_le_learnCounted_73  d  t0 v1 v3 v4 v5 v1 ((zm_I M4 3 k9 12) * v5) M4 so _ g0 g1 g3 g4 g5 hs
  · refine e_izN cd_170_58 rfl c8 ?_
    refine e_const cd_170_61 ci_0 ?_
    refine e_goto cd_170_62 rfl ?_
    exact tie_le_learnCounted_73  d  t0 v1 v3 v4 v5 v1 0 M4 so _ g0 g1 g3 g4 g5 hs
theorem tie_le_learnCounted_45  (d : Nat)  (t0 : Nat) (v1 : Option Nat) (v3 : Int32) (v4 : Option Nat) (v5 : Int32) (s0 : Option Nat) (M : zM) (so : zM) (ls : List (Nat × zV)) (g0 : zl_get ls 0 = some (.inr (.inr (2, (some t0))))) (g1 : zl_get ls 1 = some (.inr (.inr (3, v1)))) (g3 : zl_get ls 3 = some (.inl v3)) (g4 : zl_get ls 4 = some (.inr (.inr (3, v4)))) (g5 : zl_get ls 5 = some (.inl v5)) (hs : le_learnCounted_45  d t0 v1 v3 v4 v5 s0 M = some so) : Ev zq_T (d + 1) 170 45 ls [.inr (.inr (3, s0))] M (none, so) := by
  unfold le_learnCounted_45 at hs
  refine e_const cd_170_45 ci_1 ?_
  refine e_goto cd_170_46 rfl ?_
  exact tie_le_learnCounted_50  d  t0 v1 v3 v4 v5 s0 1 M so _ g0 g1 g3 g4 g5 hs
theorem tie_le_learnCounted_30  (d : Nat)  (t0 : Nat) (v1 : Option Nat) (v2 : Int32) (v3 : Int32) (v4 : Option Nat) (s0 : Int32) (M : zM) (so : zM) (ls : List (Nat × zV)) (g0 : zl_get ls 0 = some (.inr (.inr (2, (some t0))))) (g1 : zl_get ls 1 = some (.inr (.inr (3, v1)))) (g2 : zl_get ls 2 = some (.inl v2)) (g3 : zl_get ls 3 = some (.inl v3)) (g4 : zl_get ls 4 = some (.inr (.inr (3, v4)))) (hs : le_learnCounted_30  d t0 v1 v2 v3 v4 s0 M = some so) : Ev zq_T (d + 1) 170 30 ls [.inl s0] M (none, so) := by
  unfold le_learnCounted_30 at hs
  refine e_iK cd_170_30 nl_170 rfl rfl ?_
  intro _ gn kp
  have u1 := kp 0 _ g0 rfl rfl
  have u2 := kp 1 _ g1 rfl rfl
  have u3 := kp 2 _ g2 rfl rfl
  have u4 := kp 3 _ g3 rfl rfl
  have u5 := kp 4 _ g4 rfl rfl
  have u6 := gn
  refine e_aldn cd_170_32 u2 ?_
  refine e_ildn cd_170_33 u3 ?_
  refine k_if hs (fun c7 hs => ?_) (fun c7 hs => ?_)
  · refine e_izJ cd_170_34 rfl c7 ?_
    exact tie_le_learnCounted_45  d  t0 v1 v3 v4 s0 v1 M so _ u1 u2 u4 u5 u6 hs
  · refine e_izN cd_170_34 rfl c7 ?_
    refine e_ald cd_170_37 u5 ?_
    refine k_opt hs (fun _ q => nomatch q) (fun k8 h9 hs => ?_)
    refine e_getI cd_170_39 (Or.inr fd_170_41) h9 ?_
    refine k_if hs (fun c10 hs => ?_) (fun c10 hs => ?_)
    · refine e_izJ cd_170_42 rfl c10 ?_
      refine e_const cd_170_49 ci_0 ?_
      exact tie_le_learnCounted_50  d  t0 v1 v3 v4 s0 v1 0 M so _ u1 u2 u4 u5 u6 hs
    · refine e_izN cd_170_42 rfl c10 ?_
      exact tie_le_learnCounted_45  d  t0 v1 v3 v4 s0 v1 M so _ u1 u2 u4 u5 u6 hs
theorem tie_le_learnCounted_25  (d : Nat)  (t0 : Nat) (v1 : Option Nat) (v2 : Int32) (v3 : Int32) (v4 : Option Nat) (M : zM) (so : zM) (ls : List (Nat × zV)) (g0 : zl_get ls 0 = some (.inr (.inr (2, (some t0))))) (g1 : zl_get ls 1 = some (.inr (.inr (3, v1)))) (g2 : zl_get ls 2 = some (.inl v2)) (g3 : zl_get ls 3 = some (.inl v3)) (g4 : zl_get ls 4 = some (.inr (.inr (3, v4)))) (hs : le_learnCounted_25  d t0 v1 v2 v3 v4 M = some so) : Ev zq_T (d + 1) 170 25 ls [] M (none, so) := by
  unfold le_learnCounted_25 at hs
  refine e_const cd_170_25 ci_1 ?_
  refine e_goto cd_170_26 rfl ?_
  exact tie_le_learnCounted_30  d  t0 v1 v2 v3 v4 1 M so _ g0 g1 g2 g3 g4 hs
theorem tieb_le_learnCounted  (d : Nat)  (a0 : Nat) (a1 : Option Nat) (a2 : Int32) (a3 : Int32) (M : zM) (so : zM) (hs : le_learnCounted_b  d a0 a1 a2 a3 M = some so) : Ev zq_T (d + 1) 170 0 (zl_args 0 [.inr (.inr (2, some a0)), .inr (.inr (3, a1)), .inl a2, .inl a3]) [] M (none, so) := by
  unfold le_learnCounted_b at hs
  have g0 : zl_get (zl_args 0 [.inr (.inr (2, some a0)), .inr (.inr (3, a1)), .inl a2, .inl a3]) 0 = some (.inr (.inr (2, (some a0)))) := rfl
  have g1 : zl_get (zl_args 0 [.inr (.inr (2, some a0)), .inr (.inr (3, a1)), .inl a2, .inl a3]) 1 = some (.inr (.inr (3, a1))) := rfl
  have g2 : zl_get (zl_args 0 [.inr (.inr (2, some a0)), .inr (.inr (3, a1)), .inl a2, .inl a3]) 2 = some (.inl a2) := rfl
  have g3 : zl_get (zl_args 0 [.inr (.inr (2, some a0)), .inr (.inr (3, a1)), .inl a2, .inl a3]) 3 = some (.inl a3) := rfl
  refine e_aldn cd_170_0 g1 ?_
  refine k_opt hs (fun _ q => nomatch q) (fun k1 h2 hs => ?_)
  refine e_getR cd_170_1 fd_170_36 h2 ?_
  refine e_aK cd_170_4 nl_170 rfl rfl ?_
  intro _ gn kp
  have u3 := kp 0 _ g0 rfl rfl
  have u4 := kp 1 _ g1 rfl rfl
  have u5 := kp 2 _ g2 rfl rfl
  have u6 := kp 3 _ g3 rfl rfl
  have u7 := gn
  refine e_ald cd_170_6 u7 ?_
  refine k_opt hs (fun h8 hs => ?_) (fun k9 h8 hs => ?_)
  · refine e_nn0 cd_170_8 rfl h8 ?_
    have e := Option.some.inj hs
    subst e
    exact e_rv cd_170_11 nr_170
  · refine e_nn1 cd_170_8 rfl h8 ?_
    refine e_ald cd_170_12 u7 ?_
    refine e_getI cd_170_14 (Or.inr fd_170_41) h8 ?_
    refine k_if hs (fun c10 hs => ?_) (fun c10 hs => ?_)
    · refine e_izN cd_170_17 rfl (fun q => q c10) ?_
      refine e_ildn cd_170_20 u5 ?_
      refine e_const cd_170_21 ci_1 ?_
      refine k_if hs (fun c11 hs => ?_) (fun c11 hs => ?_)
      · refine e_icJ cd_170_22 rfl c11 ?_
        refine e_ildn cd_170_29 u5 ?_
        exact tie_le_learnCounted_30  d  a0 a1 a2 a3 (zm_R M 3 k1 5) a2 M so _ u3 u4 u5 u6 u7 hs
      · refine e_icN cd_170_22 rfl c11 ?_
        exact tie_le_learnCounted_25  d  a0 a1 a2 a3 (zm_R M 3 k1 5) M so _ u3 u4 u5 u6 u7 hs
    · refine e_izJ cd_170_17 rfl c10 ?_
      exact tie_le_learnCounted_25  d  a0 a1 a2 a3 (zm_R M 3 k1 5) M so _ u3 u4 u5 u6 u7 hs
theorem tie_le_learnCounted (d : Nat) (a0 : Nat) (a1 : Option Nat) (a2 : Int32) (a3 : Int32) (M : zM) (so : zM) (hs : le_learnCounted d a0 a1 a2 a3 M = some so) : Ev zq_T d 170 0 (zl_args 0 [.inr (.inr (2, some a0)), .inr (.inr (3, a1)), .inl a2, .inl a3]) [] M (none, so) := by
  cases d with
  | zero => exact nomatch hs
  | succ d => exact tieb_le_learnCounted d a0 a1 a2 a3 M so hs
theorem tie_le_addProduct_12 (kl3 : Nat → Int32 → Int32 → Option Nat → Int32 → zM → Option (zM)) (d : Nat) (hk3 : ∀ (t0 : Nat) (v1 : Int32) (v2 : Int32) (v3 : Option Nat) (v4 : Int32) (M : zM) (so : zM) (ls : List (Nat × zV)), zl_get ls 0 = some (.inr (.inr (2, (some t0)))) → zl_get ls 1 = some (.inl v1) → zl_get ls 2 = some (.inl v2) → zl_get ls 3 = some (.inr (.inr (3, v3))) → zl_get ls 4 = some (.inl v4) → kl3 t0 v1 v2 v3 v4 M = some so → Ev zq_T d 175 3 ls [] M (none, so)) : ∀ (fuel : Nat) (t0 : Nat) (v1 : Int32) (v2 : Int32) (v3 : Option Nat) (v4 : Int32) (v5 : Int32) (M : zM) (so : zM) (ls : List (Nat × zV)), zl_get ls 0 = some (.inr (.inr (2, (some t0)))) → zl_get ls 1 = some (.inl v1) → zl_get ls 2 = some (.inl v2) → zl_get ls 3 = some (.inr (.inr (3, v3))) → zl_get ls 4 = some (.inl v4) → zl_get ls 5 = some (.inl v5) → le_addProduct_12 kl3 d fuel t0 v1 v2 v3 v4 v5 M = some so → Ev zq_T d 175 12 ls [] M (none, so) := by
  intro fuel
  induction fuel with
  | zero => intro t0 v1 v2 v3 v4 v5 M so ls g0 g1 g2 g3 g4 g5 hs; exact nomatch hs
  | succ fuel ih =>
    intro t0 v1 v2 v3 v4 v5 M so ls g0 g1 g2 g3 g4 g5 hs
    unfold le_addProduct_12 at hs
    refine e_ild cd_175_12 g5 ?_
    refine e_ild cd_175_14 g4 ?_
    refine k_if hs (fun c1 hs => ?_) (fun c1 hs => ?_)
    · refine e_icJ cd_175_16 rfl c1 ?_
      refine k_let hs (fun x2 e3 hs => ?_)
      refine e_incK cd_175_61 nl_175 rfl g4 ci_1 e3 ?_
      intro _ gn kp
      have u4 := kp 0 _ g0 rfl rfl
      have u5 := kp 1 _ g1 rfl rfl
      have u6 := kp 2 _ g2 rfl rfl
      have u7 := kp 3 _ g3 rfl rfl
      have u8 := gn
      refine e_goto cd_175_64 rfl ?_
      exact hk3 t0 v1 v2 v3 x2 M so _ u4 u5 u6 u7 u8 hs
    · refine e_icN cd_175_16 rfl c1 ?_
      refine e_aldn cd_175_19 g0 ?_
      refine e_getR cd_175_20 fd_175_11 rfl ?_
      refine e_ildn cd_175_23 g1 ?_
      refine e_const cd_175_24 ci_5 ?_
      refine e_pure cd_175_25 rfl ?_
      refine e_ild cd_175_26 g4 ?_
      refine e_pure cd_175_28 rfl ?_
      refine e_pure cd_175_29 rfl ?_
      refine k_opt hs (fun _ q => nomatch q) (fun k9 h10 hs => ?_)
      obtain ⟨c11, hs⟩ := z_ite hs
      refine e_iald cd_175_30 rfl h10 c11 ?_
      refine e_aldn cd_175_31 g0 ?_
      refine e_getR cd_175_32 fd_175_11 rfl ?_
      refine e_ildn cd_175_35 g2 ?_
      refine e_const cd_175_36 ci_5 ?_
      refine e_pure cd_175_37 rfl ?_
      refine e_ild cd_175_38 g4 ?_
      refine e_pure cd_175_40 rfl ?_
      refine e_ild cd_175_41 g5 ?_
      refine e_pure cd_175_43 rfl ?_
      refine k_opt hs (fun _ q => nomatch q) (fun k12 h13 hs => ?_)
      obtain ⟨c14, hs⟩ := z_ite hs
      refine e_iald cd_175_44 rfl h13 c14 ?_
      refine e_aldn cd_175_45 g3 ?_
      refine k_opt hs (fun _ q => nomatch q) (fun k15 h16 hs => ?_)
      refine e_getR cd_175_46 fd_175_112 h16 ?_
      refine e_ild cd_175_49 g5 ?_
      refine k_opt hs (fun _ q => nomatch q) (fun k17 h18 hs => ?_)
      obtain ⟨c19, hs⟩ := z_ite hs
      refine e_iald cd_175_51 rfl h18 c19 ?_
      refine e_pure cd_175_52 rfl ?_
      refine e_pure cd_175_53 rfl ?_
      obtain ⟨c20, hs⟩ := z_ite hs
      refine k_let hs (fun M21 e22 hs => ?_)
      refine e_iast cd_175_54 rfl h13 c20 e22 ?_
      refine k_let hs (fun x23 e24 hs => ?_)
      refine e_incK cd_175_55 nl_175 rfl g5 ci_1 e24 ?_
      intro _ gn kp
      have u25 := kp 0 _ g0 rfl rfl
      have u26 := kp 1 _ g1 rfl rfl
      have u27 := kp 2 _ g2 rfl rfl
      have u28 := kp 3 _ g3 rfl rfl
      have u29 := kp 4 _ g4 rfl rfl
      have u30 := gn
      refine e_goto cd_175_58 rfl ?_
      exact ih t0 v1 v2 v3 v4 x23 M21 so _ u25 u26 u27 u28 u29 u30 hs
theorem tie_le_addProduct_3  (d : Nat)  : ∀ (fuel : Nat) (t0 : Nat) (v1 : Int32) (v2 : Int32) (v3 : Option Nat) (v4 : Int32) (M : zM) (so : zM) (ls : List (Nat × zV)), zl_get ls 0 = some (.inr (.inr (2, (some t0)))) → zl_get ls 1 = some (.inl v1) → zl_get ls 2 = some (.inl v2) → zl_get ls 3 = some (.inr (.inr (3, v3))) → zl_get ls 4 = some (.inl v4) → le_addProduct_3  d fuel t0 v1 v2 v3 v4 M = some so → Ev zq_T d 175 3 ls [] M (none, so) := by
  intro fuel
  induction fuel with
  | zero => intro t0 v1 v2 v3 v4 M so ls g0 g1 g2 g3 g4 hs; exact nomatch hs
  | succ fuel ih =>
    intro t0 v1 v2 v3 v4 M so ls g0 g1 g2 g3 g4 hs
    unfold le_addProduct_3 at hs
    refine e_ild cd_175_3 g4 ?_
    refine e_const cd_175_5 ci_5 ?_
    refine k_if hs (fun c1 hs => ?_) (fun c1 hs => ?_)
    · refine e_icJ cd_175_6 rfl c1 ?_
      have e := Option.some.inj hs
      subst e
      exact e_rv cd_175_67 nr_175
    · refine e_icN cd_175_6 rfl c1 ?_
      refine e_const cd_175_9 ci_1 ?_
      refine e_iK cd_175_10 nl_175 rfl rfl ?_
      intro _ gn kp
      have u2 := kp 0 _ g0 rfl rfl
      have u3 := kp 1 _ g1 rfl rfl
      have u4 := kp 2 _ g2 rfl rfl
      have u5 := kp 3 _ g3 rfl rfl
      have u6 := kp 4 _ g4 rfl rfl
      have u7 := gn
      exact tie_le_addProduct_12 (fun p0 p1 p2 p3 p4 m => le_addProduct_3  d fuel p0 p1 p2 p3 p4 m) d ih zLF t0 v1 v2 v3 v4 1 M so _ u2 u3 u4 u5 u6 u7 hs
theorem tie_le_addProduct (d : Nat) (a0 : Nat) (a1 : Int32) (a2 : Int32) (a3 : Option Nat) (M : zM) (so : zM) (hs : le_addProduct d a0 a1 a2 a3 M = some so) : Ev zq_T d 175 0 (zl_args 0 [.inr (.inr (2, some a0)), .inl a1, .inl a2, .inr (.inr (3, a3))]) [] M (none, so) := by
  unfold le_addProduct at hs
  have g0 : zl_get (zl_args 0 [.inr (.inr (2, some a0)), .inl a1, .inl a2, .inr (.inr (3, a3))]) 0 = some (.inr (.inr (2, (some a0)))) := rfl
  have g1 : zl_get (zl_args 0 [.inr (.inr (2, some a0)), .inl a1, .inl a2, .inr (.inr (3, a3))]) 1 = some (.inl a1) := rfl
  have g2 : zl_get (zl_args 0 [.inr (.inr (2, some a0)), .inl a1, .inl a2, .inr (.inr (3, a3))]) 2 = some (.inl a2) := rfl
  have g3 : zl_get (zl_args 0 [.inr (.inr (2, some a0)), .inl a1, .inl a2, .inr (.inr (3, a3))]) 3 = some (.inr (.inr (3, a3))) := rfl
  refine e_const cd_175_0 ci_1 ?_
  refine e_iK cd_175_1 nl_175 rfl rfl ?_
  intro _ gn kp
  have u1 := kp 0 _ g0 rfl rfl
  have u2 := kp 1 _ g1 rfl rfl
  have u3 := kp 2 _ g2 rfl rfl
  have u4 := kp 3 _ g3 rfl rfl
  have u5 := gn
  exact tie_le_addProduct_3  d  zLF a0 a1 a2 a3 1 M so _ u1 u2 u3 u4 u5 hs
theorem tie_le_learnAny_90 (kl33 : Nat → Option Nat → Option Nat → zM → Option (zM)) (kl61 : Nat → Option Nat → Option Nat → Int32 → zM → Option (zM)) (d : Nat) (hk33 : ∀ (t0 : Nat) (v1 : Option Nat) (v2 : Option Nat) (M : zM) (so : zM) (ls : List (Nat × zV)), zl_get ls 0 = some (.inr (.inr (2, (some t0)))) → zl_get ls 1 = some (.inr (.inr (3, v1))) → zl_get ls 2 = some (.inr (.inr (3, v2))) → kl33 t0 v1 v2 M = some so → Ev zq_T (d + 1) 171 33 ls [] M (none, so)) (hk61 : ∀ (t0 : Nat) (v1 : Option Nat) (v2 : Option Nat) (v3 : Int32) (M : zM) (so : zM) (ls : List (Nat × zV)), zl_get ls 0 = some (.inr (.inr (2, (some t0)))) → zl_get ls 1 = some (.inr (.inr (3, v1))) → zl_get ls 2 = some (.inr (.inr (3, v2))) → zl_get ls 3 = some (.inl v3) → kl61 t0 v1 v2 v3 M = some so → Ev zq_T (d + 1) 171 61 ls [] M (none, so)) (t0 : Nat) (v1 : Option Nat) (v2 : Option Nat) (v3 : Int32) (M : zM) (so : zM) (ls : List (Nat × zV)) (g0 : zl_get ls 0 = some (.inr (.inr (2, (some t0))))) (g1 : zl_get ls 1 = some (.inr (.inr (3, v1)))) (g2 : zl_get ls 2 = some (.inr (.inr (3, v2)))) (g3 : zl_get ls 3 = some (.inl v3)) (hs : le_learnAny_90 kl33 kl61 d t0 v1 v2 v3 M = some so) : Ev zq_T (d + 1) 171 90 ls [] M (none, so) := by
  unfold le_learnAny_90 at hs
  refine k_let hs (fun x1 e2 hs => ?_)
  refine e_incK cd_171_90 nl_171 rfl g3 ci_m1 e2 ?_
  intro _ gn kp
  have u3 := kp 0 _ g0 rfl rfl
  have u4 := kp 1 _ g1 rfl rfl
  have u5 := kp 2 _ g2 rfl rfl
  have u6 := gn
  refine e_goto cd_171_93 rfl ?_
  exact hk61 t0 v1 v2 x1 M so _ u3 u4 u5 u6 hs
theorem tie_le_learnAny_77 (kl33 : Nat → Option Nat → Option Nat → zM → Option (zM)) (kl61 : Nat → Option Nat → Option Nat → Int32 → zM → Option (zM)) (d : Nat) (hk33 : ∀ (t0 : Nat) (v1 : Option Nat) (v2 : Option Nat) (M : zM) (so : zM) (ls : List (Nat × zV)), zl_get ls 0 = some (.inr (.inr (2, (some t0)))) → zl_get ls 1 = some (.inr (.inr (3, v1))) → zl_get ls 2 = some (.inr (.inr (3, v2))) → kl33 t0 v1 v2 M = some so → Ev zq_T (d + 1) 171 33 ls [] M (none, so)) (hk61 : ∀ (t0 : Nat) (v1 : Option Nat) (v2 : Option Nat) (v3 : Int32) (M : zM) (so : zM) (ls : List (Nat × zV)), zl_get ls 0 = some (.inr (.inr (2, (some t0)))) → zl_get ls 1 = some (.inr (.inr (3, v1))) → zl_get ls 2 = some (.inr (.inr (3, v2))) → zl_get ls 3 = some (.inl v3) → kl61 t0 v1 v2 v3 M = some so → Ev zq_T (d + 1) 171 61 ls [] M (none, so)) (t0 : Nat) (v1 : Option Nat) (v2 : Option Nat) (v3 : Int32) (M : zM) (so : zM) (ls : List (Nat × zV)) (g0 : zl_get ls 0 = some (.inr (.inr (2, (some t0))))) (g1 : zl_get ls 1 = some (.inr (.inr (3, v1)))) (g2 : zl_get ls 2 = some (.inr (.inr (3, v2)))) (g3 : zl_get ls 3 = some (.inl v3)) (hs : le_learnAny_77 kl33 kl61 d t0 v1 v2 v3 M = some so) : Ev zq_T (d + 1) 171 77 ls [] M (none, so) := by
  unfold le_learnAny_77 at hs
  refine e_ildn cd_171_77 g3 ?_
  refine k_if hs (fun c1 hs => ?_) (fun c1 hs => ?_)
  · refine e_izJ cd_171_78 rfl c1 ?_
    exact tie_le_learnAny_90 kl33 kl61 d hk33 hk61 t0 v1 v2 v3 M so _ g0 g1 g2 g3 hs
  · refine e_izN cd_171_78 rfl c1 ?_
    refine e_aldn cd_171_81 g0 ?_
    refine e_ildn cd_171_82 g3 ?_
    refine e_ildn cd_171_83 g3 ?_
    refine e_const cd_171_84 ci_1 ?_
    refine e_pure cd_171_85 rfl ?_
    refine e_aldn cd_171_86 g2 ?_
    obtain ⟨q2, h3, hs⟩ := k_bind hs
    refine e_cvi cd_171_87 kd_171_153 rfl rfl rfl rfl rfl nl_175 rfl rfl (tie_le_addProduct d t0 v3 (v3 - 1) v2 M _ h3) ?_
    exact tie_le_learnAny_90 kl33 kl61 d hk33 hk61 t0 v1 v2 v3 q2 so _ g0 g1 g2 g3 hs
theorem tie_le_learnAny_61 (kl33 : Nat → Option Nat → Option Nat → zM → Option (zM)) (d : Nat) (hk33 : ∀ (t0 : Nat) (v1 : Option Nat) (v2 : Option Nat) (M : zM) (so : zM) (ls : List (Nat × zV)), zl_get ls 0 = some (.inr (.inr (2, (some t0)))) → zl_get ls 1 = some (.inr (.inr (3, v1))) → zl_get ls 2 = some (.inr (.inr (3, v2))) → kl33 t0 v1 v2 M = some so → Ev zq_T (d + 1) 171 33 ls [] M (none, so)) : ∀ (fuel : Nat) (t0 : Nat) (v1 : Option Nat) (v2 : Option Nat) (v3 : Int32) (M : zM) (so : zM) (ls : List (Nat × zV)), zl_get ls 0 = some (.inr (.inr (2, (some t0)))) → zl_get ls 1 = some (.inr (.inr (3, v1))) → zl_get ls 2 = some (.inr (.inr (3, v2))) → zl_get ls 3 = some (.inl v3) → le_learnAny_61 kl33 d fuel t0 v1 v2 v3 M = some so → Ev zq_T (d + 1) 171 61 ls [] M (none, so) := by
  intro fuel
  induction fuel with
  | zero => intro t0 v1 v2 v3 M so ls g0 g1 g2 g3 hs; exact nomatch hs
  | succ fuel ih =>
    intro t0 v1 v2 v3 M so ls g0 g1 g2 g3 hs
    unfold le_learnAny_61 at hs
    refine e_ildn cd_171_61 g3 ?_
    refine k_if hs (fun c1 hs => ?_) (fun c1 hs => ?_)
    · refine e_izJ cd_171_62 rfl c1 ?_
      refine e_aldn cd_171_96 g2 ?_
      refine k_opt hs (fun _ q => nomatch q) (fun k2 h3 hs => ?_)
      refine e_getR cd_171_97 fd_171_71 h3 ?_
      refine e_aKn cd_171_100 nl_171 rfl rfl ?_
      intro _ gn kp
      have u4 := kp 0 _ g0 rfl rfl
      have u5 := kp 1 _ g1 rfl rfl
      have u6 := gn
      refine e_goto cd_171_101 rfl ?_
      exact hk33 t0 v1 (zm_R M 3 k2 7) M so _ u4 u5 u6 hs
    · refine e_izN cd_171_62 rfl c1 ?_
      refine e_aldn cd_171_65 g2 ?_
      refine k_opt hs (fun _ q => nomatch q) (fun k7 h8 hs => ?_)
      refine e_getI cd_171_66 (Or.inr fd_171_41) h8 ?_
      refine k_if hs (fun c9 hs => ?_) (fun c9 hs => ?_)
      · refine e_izN cd_171_69 rfl (fun q => q c9) ?_
        refine e_aldn cd_171_72 g0 ?_
        refine e_ildn cd_171_73 g3 ?_
        obtain ⟨q10, h11, hs⟩ := k_bind hs
        refine e_cvi cd_171_74 kd_171_147 rfl rfl rfl rfl rfl nl_172 rfl rfl (tie_le_clearRow d t0 v3 M _ h11) ?_
        exact tie_le_learnAny_77 kl33 (fun p0 p1 p2 p3 m => le_learnAny_61 kl33 d fuel p0 p1 p2 p3 m) d hk33 ih t0 v1 v2 v3 q10 so _ g0 g1 g2 g3 hs
      · refine e_izJ cd_171_69 rfl c9 ?_
        exact tie_le_learnAny_77 kl33 (fun p0 p1 p2 p3 m => le_learnAny_61 kl33 d fuel p0 p1 p2 p3 m) d hk33 ih t0 v1 v2 v3 M so _ g0 g1 g2 g3 hs
theorem tie_le_learnAny_59 (kl33 : Nat → Option Nat → Option Nat → zM → Option (zM)) (d : Nat) (hk33 : ∀ (t0 : Nat) (v1 : Option Nat) (v2 : Option Nat) (M : zM) (so : zM) (ls : List (Nat × zV)), zl_get ls 0 = some (.inr (.inr (2, (some t0)))) → zl_get ls 1 = some (.inr (.inr (3, v1))) → zl_get ls 2 = some (.inr (.inr (3, v2))) → kl33 t0 v1 v2 M = some so → Ev zq_T (d + 1) 171 33 ls [] M (none, so)) (t0 : Nat) (v1 : Option Nat) (v2 : Option Nat) (M : zM) (so : zM) (ls : List (Nat × zV)) (g0 : zl_get ls 0 = some (.inr (.inr (2, (some t0))))) (g1 : zl_get ls 1 = some (.inr (.inr (3, v1)))) (g2 : zl_get ls 2 = some (.inr (.inr (3, v2)))) (hs : le_learnAny_59 kl33 d t0 v1 v2 M = some so) : Ev zq_T (d + 1) 171 59 ls [] M (none, so) := by
  unfold le_learnAny_59 at hs
  refine e_const cd_171_59 ci_4 ?_
  refine e_iKn cd_171_60 nl_171 rfl rfl ?_
  intro _ gn kp
  have u1 := kp 0 _ g0 rfl rfl
  have u2 := kp 1 _ g1 rfl rfl
  have u3 := kp 2 _ g2 rfl rfl
  have u4 := gn
  exact tie_le_learnAny_61 kl33 d hk33 zLF t0 v1 v2 4 M so _ u1 u2 u3 u4 hs
theorem tie_le_learnAny_108  (d : Nat)  : ∀ (fuel : Nat) (t0 : Nat) (v1 : Option Nat) (v2 : Int32) (v3 : Int32) (M : zM) (so : zM) (ls : List (Nat × zV)), zl_get ls 0 = some (.inr (.inr (2, (some t0)))) → zl_get ls 1 = some (.inr (.inr (3, v1))) → zl_get ls 2 = some (.inl v2) → zl_get ls 3 = some (.inl v3) → le_learnAny_108  d fuel t0 v1 v2 v3 M = some so → Ev zq_T (d + 1) 171 108 ls [] M (none, so) := by
  intro fuel
  induction fuel with
  | zero => intro t0 v1 v2 v3 M so ls g0 g1 g2 g3 hs; exact nomatch hs
  | succ fuel ih =>
    intro t0 v1 v2 v3 M so ls g0 g1 g2 g3 hs
    unfold le_learnAny_108 at hs
    refine e_ildn cd_171_108 g3 ?_
    refine e_const cd_171_109 ci_4 ?_
    refine k_if hs (fun c1 hs => ?_) (fun c1 hs => ?_)
    · refine e_icJ cd_171_110 rfl c1 ?_
      refine e_aldn cd_171_130 g0 ?_
      refine e_aldn cd_171_131 g1 ?_
      obtain ⟨q2, h3, hs⟩ := k_bind hs
      refine e_cvi cd_171_132 kd_171_132 rfl rfl rfl rfl rfl nl_168 rfl rfl (tie_le_learnAllTogether d t0 v1 M _ h3) ?_
      have e := Option.some.inj hs
      subst e
      exact e_rv cd_171_135 nr_171
    · refine e_icN cd_171_110 rfl c1 ?_
      refine e_ildn cd_171_113 g2 ?_
      refine e_ildn cd_171_114 g3 ?_
      refine e_pure cd_171_115 rfl ?_
      refine k_let hs (fun x4 e5 hs => ?_)
      refine e_iKn cd_171_116 nl_171 rfl e5 ?_
      intro _ gn kp
      have u6 := kp 0 _ g0 rfl rfl
      have u7 := kp 1 _ g1 rfl rfl
      have u8 := kp 3 _ g3 rfl rfl
      have u9 := gn
      refine e_aldn cd_171_117 u6 ?_
      refine e_aldn cd_171_118 u7 ?_
      refine e_ildn cd_171_119 u8 ?_
      refine e_ildn cd_171_120 u9 ?_
      obtain ⟨q10, h11, hs⟩ := k_bind hs
      refine e_cvi cd_171_121 kd_171_129 rfl rfl rfl rfl rfl nl_176 rfl rfl (tie_le_addRow d t0 v1 v3 x4 M _ h11) ?_
      refine k_let hs (fun x12 e13 hs => ?_)
      refine e_incK cd_171_124 nl_171 rfl u8 ci_1 e13 ?_
      intro _ gn kp
      have u14 := kp 0 _ u6 rfl rfl
      have u15 := kp 1 _ u7 rfl rfl
      have u16 := kp 2 _ u9 rfl rfl
      have u17 := gn
      refine e_goto cd_171_127 rfl ?_
      exact ih t0 v1 x4 x12 q10 so _ u14 u15 u16 u17 hs
