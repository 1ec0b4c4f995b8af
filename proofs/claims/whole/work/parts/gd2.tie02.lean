theorem tieb_mo_isLast  (d : Nat)  (a0 : Nat) (a1 : Int32) (a2 : Int32) (M : zM) (so : Int32 × zM) (hs : mo_isLast_b  d a0 a1 a2 M = some so) : Ev zq_T (d + 1) 45 0 (zl_args 0 [.inr (.inr (12, some a0)), .inl a1, .inl a2]) [] M (some (.inl so.1), so.2) := by
  unfold mo_isLast_b at hs
  have g0 : zl_get (zl_args 0 [.inr (.inr (12, some a0)), .inl a1, .inl a2]) 0 = some (.inr (.inr (12, (some a0)))) := rfl
  have g1 : zl_get (zl_args 0 [.inr (.inr (12, some a0)), .inl a1, .inl a2]) 1 = some (.inl a1) := rfl
  have g2 : zl_get (zl_args 0 [.inr (.inr (12, some a0)), .inl a1, .inl a2]) 2 = some (.inl a2) := rfl
  refine e_aldn cd_45_0 g0 ?_
  refine e_ildn cd_45_1 g1 ?_
  refine e_ildn cd_45_2 g2 ?_
  obtain ⟨q1, h2, hs⟩ := k_bind hs
  refine e_cvi cd_45_3 kd_45_249 rfl rfl rfl rfl rfl nl_40 rfl rfl (tie_mo_leaf d a0 a1 a2 M _ h2) ?_
  refine e_iKn cd_45_6 nl_45 rfl rfl ?_
  intro _ gn kp
  have u3 := kp 0 _ g0 rfl rfl
  have u4 := kp 1 _ g1 rfl rfl
  have u5 := gn
  exact tie_mo_isLast_7  d  zLF a0 a1 q1.1 q1.2 so _ u3 u4 u5 hs
theorem tie_mo_isLast (d : Nat) (a0 : Nat) (a1 : Int32) (a2 : Int32) (M : zM) (so : Int32 × zM) (hs : mo_isLast d a0 a1 a2 M = some so) : Ev zq_T d 45 0 (zl_args 0 [.inr (.inr (12, some a0)), .inl a1, .inl a2]) [] M (some (.inl so.1), so.2) := by
  cases d with
  | zero => exact nomatch hs
  | succ d => exact tieb_mo_isLast d a0 a1 a2 M so hs
theorem tie_mo_partOf_10  (d : Nat)  : ∀ (fuel : Nat) (t0 : Nat) (v2 : Int32) (v3 : Int32) (v4 : Int32) (M : zM) (so : Int32 × zM) (ls : List (Nat × zV)), zl_get ls 0 = some (.inr (.inr (12, (some t0)))) → zl_get ls 2 = some (.inl v2) → zl_get ls 3 = some (.inl v3) → zl_get ls 4 = some (.inl v4) → mo_partOf_10  d fuel t0 v2 v3 v4 M = some so → Ev zq_T (d + 1) 46 10 ls [] M (some (.inl so.1), so.2) := by
  intro fuel
  induction fuel with
  | zero => intro t0 v2 v3 v4 M so ls g0 g2 g3 g4 hs; exact nomatch hs
  | succ fuel ih =>
    intro t0 v2 v3 v4 M so ls g0 g2 g3 g4 hs
    unfold mo_partOf_10 at hs
    refine e_ild cd_46_10 g4 ?_
    refine e_ildn cd_46_12 g2 ?_
    refine k_if hs (fun c1 hs => ?_) (fun c1 hs => ?_)
    · refine e_icJ cd_46_13 rfl c1 ?_
      refine e_ildn cd_46_31 g3 ?_
      have e := Option.some.inj hs
      subst e
      exact e_ri cd_46_32 nr_46
    · refine e_icN cd_46_13 rfl c1 ?_
      refine k_let hs (fun x2 e3 hs => ?_)
      refine e_incK cd_46_16 nl_46 rfl g3 ci_1 e3 ?_
      intro _ gn kp
      have u4 := kp 0 _ g0 rfl rfl
      have u5 := kp 2 _ g2 rfl rfl
      have u6 := kp 4 _ g4 rfl rfl
      have u7 := gn
      refine e_aldn cd_46_19 u4 ?_
      refine e_ild cd_46_20 u6 ?_
      refine e_const cd_46_22 ci_4 ?_
      obtain ⟨q8, h9, hs⟩ := k_bind hs
      refine e_cvi cd_46_23 kd_46_240 rfl rfl rfl rfl rfl nl_36 rfl rfl (tie_mo_at d t0 v4 4 M _ h9) ?_
      refine e_iK cd_46_26 nl_46 rfl rfl ?_
      intro _ gn kp
      have u10 := kp 0 _ u4 rfl rfl
      have u11 := kp 2 _ u5 rfl rfl
      have u12 := kp 3 _ u7 rfl rfl
      have u13 := gn
      refine e_goto cd_46_28 rfl ?_
      exact ih t0 v2 x2 q8.1 q8.2 so _ u10 u11 u12 u13 hs
theorem tieb_mo_partOf  (d : Nat)  (a0 : Nat) (a1 : Int32) (a2 : Int32) (M : zM) (so : Int32 × zM) (hs : mo_partOf_b  d a0 a1 a2 M = some so) : Ev zq_T (d + 1) 46 0 (zl_args 0 [.inr (.inr (12, some a0)), .inl a1, .inl a2]) [] M (some (.inl so.1), so.2) := by
  unfold mo_partOf_b at hs
  have g0 : zl_get (zl_args 0 [.inr (.inr (12, some a0)), .inl a1, .inl a2]) 0 = some (.inr (.inr (12, (some a0)))) := rfl
  have g1 : zl_get (zl_args 0 [.inr (.inr (12, some a0)), .inl a1, .inl a2]) 1 = some (.inl a1) := rfl
  have g2 : zl_get (zl_args 0 [.inr (.inr (12, some a0)), .inl a1, .inl a2]) 2 = some (.inl a2) := rfl
  refine e_const cd_46_0 ci_0 ?_
  refine e_iKn cd_46_1 nl_46 rfl rfl ?_
  intro _ gn kp
  have u1 := kp 0 _ g0 rfl rfl
  have u2 := kp 1 _ g1 rfl rfl
  have u3 := kp 2 _ g2 rfl rfl
  have u4 := gn
  refine e_aldn cd_46_2 u1 ?_
  refine e_ildn cd_46_3 u2 ?_
  refine e_const cd_46_4 ci_3 ?_
  obtain ⟨q5, h6, hs⟩ := k_bind hs
  refine e_cvi cd_46_5 kd_46_240 rfl rfl rfl rfl rfl nl_36 rfl rfl (tie_mo_at d a0 a1 3 M _ h6) ?_
  refine e_iK cd_46_8 nl_46 rfl rfl ?_
  intro _ gn kp
  have u7 := kp 0 _ u1 rfl rfl
  have u8 := kp 2 _ u3 rfl rfl
  have u9 := kp 3 _ u4 rfl rfl
  have u10 := gn
  exact tie_mo_partOf_10  d  zLF a0 a2 0 q5.1 q5.2 so _ u7 u8 u9 u10 hs
theorem tie_mo_partOf (d : Nat) (a0 : Nat) (a1 : Int32) (a2 : Int32) (M : zM) (so : Int32 × zM) (hs : mo_partOf d a0 a1 a2 M = some so) : Ev zq_T d 46 0 (zl_args 0 [.inr (.inr (12, some a0)), .inl a1, .inl a2]) [] M (some (.inl so.1), so.2) := by
  cases d with
  | zero => exact nomatch hs
  | succ d => exact tieb_mo_partOf d a0 a1 a2 M so hs
theorem tie_mo_laysInto_80 (kl3 : Nat → Int32 → Int32 → Int32 → Int32 → Int32 → zM → Option (zM)) (d : Nat) (hk3 : ∀ (t0 : Nat) (v1 : Int32) (v2 : Int32) (v3 : Int32) (v4 : Int32) (v5 : Int32) (M : zM) (so : zM) (ls : List (Nat × zV)), zl_get ls 0 = some (.inr (.inr (12, (some t0)))) → zl_get ls 1 = some (.inl v1) → zl_get ls 2 = some (.inl v2) → zl_get ls 3 = some (.inl v3) → zl_get ls 4 = some (.inl v4) → zl_get ls 5 = some (.inl v5) → kl3 t0 v1 v2 v3 v4 v5 M = some so → Ev zq_T (d + 1) 47 3 ls [] M (none, so)) (t0 : Nat) (v1 : Int32) (v2 : Int32) (v3 : Int32) (v4 : Int32) (v5 : Int32) (M : zM) (so : zM) (ls : List (Nat × zV)) (g0 : zl_get ls 0 = some (.inr (.inr (12, (some t0))))) (g1 : zl_get ls 1 = some (.inl v1)) (g2 : zl_get ls 2 = some (.inl v2)) (g3 : zl_get ls 3 = some (.inl v3)) (g4 : zl_get ls 4 = some (.inl v4)) (g5 : zl_get ls 5 = some (.inl v5)) (hs : mo_laysInto_80 kl3 d t0 v1 v2 v3 v4 v5 M = some so) : Ev zq_T (d + 1) 47 80 ls [] M (none, so) := by
  unfold mo_laysInto_80 at hs
  refine k_let hs (fun x1 e2 hs => ?_)
  refine e_incK cd_47_80 nl_47 rfl g5 ci_1 e2 ?_
  intro _ gn kp
  have u3 := kp 0 _ g0 rfl rfl
  have u4 := kp 1 _ g1 rfl rfl
  have u5 := kp 2 _ g2 rfl rfl
  have u6 := kp 3 _ g3 rfl rfl
  have u7 := kp 4 _ g4 rfl rfl
  have u8 := gn
  refine e_goto cd_47_83 rfl ?_
  exact hk3 t0 v1 v2 v3 v4 x1 M so _ u3 u4 u5 u6 u7 u8 hs
theorem tie_mo_laysInto_3  (d : Nat)  : ∀ (fuel : Nat) (t0 : Nat) (v1 : Int32) (v2 : Int32) (v3 : Int32) (v4 : Int32) (v5 : Int32) (M : zM) (so : zM) (ls : List (Nat × zV)), zl_get ls 0 = some (.inr (.inr (12, (some t0)))) → zl_get ls 1 = some (.inl v1) → zl_get ls 2 = some (.inl v2) → zl_get ls 3 = some (.inl v3) → zl_get ls 4 = some (.inl v4) → zl_get ls 5 = some (.inl v5) → mo_laysInto_3  d fuel t0 v1 v2 v3 v4 v5 M = some so → Ev zq_T (d + 1) 47 3 ls [] M (none, so) := by
  intro fuel
  induction fuel with
  | zero => intro t0 v1 v2 v3 v4 v5 M so ls g0 g1 g2 g3 g4 g5 hs; exact nomatch hs
  | succ fuel ih =>
    intro t0 v1 v2 v3 v4 v5 M so ls g0 g1 g2 g3 g4 g5 hs
    unfold mo_laysInto_3 at hs
    refine e_ild cd_47_3 g5 ?_
    refine e_aldn cd_47_5 g0 ?_
    refine e_ildn cd_47_6 g1 ?_
    refine e_const cd_47_7 ci_2 ?_
    obtain ⟨q1, h2, hs⟩ := k_bind hs
    refine e_cvi cd_47_8 kd_47_258 rfl rfl rfl rfl rfl nl_35 rfl rfl (tie_mo_of d t0 v1 2 M _ h2) ?_
    refine k_if hs (fun c3 hs => ?_) (fun c3 hs => ?_)
    · refine e_icJ cd_47_11 rfl c3 ?_
      have e := Option.some.inj hs
      subst e
      exact e_rv cd_47_86 nr_47
    · refine e_icN cd_47_11 rfl c3 ?_
      refine e_aldn cd_47_14 g0 ?_
      refine e_ildn cd_47_15 g1 ?_
      refine e_ildn cd_47_16 g3 ?_
      refine e_ild cd_47_17 g5 ?_
      obtain ⟨q4, h5, hs⟩ := k_bind hs
      refine e_cvi cd_47_19 kd_47_261 rfl rfl rfl rfl rfl nl_43 rfl rfl (tie_mo_isFirst d t0 v1 v3 v5 q1.2 _ h5) ?_
      refine k_if hs (fun c6 hs => ?_) (fun c6 hs => ?_)
      · refine e_izN cd_47_22 rfl (fun q => q c6) ?_
        refine e_goto cd_47_25 rfl ?_
        exact tie_mo_laysInto_80 (fun p0 p1 p2 p3 p4 p5 m => mo_laysInto_3  d fuel p0 p1 p2 p3 p4 p5 m) d ih t0 v1 v2 v3 v4 v5 q4.2 so _ g0 g1 g2 g3 g4 g5 hs
      · refine e_izJ cd_47_22 rfl c6 ?_
        refine e_aldn cd_47_28 g0 ?_
        refine e_getR cd_47_29 fd_47_50 rfl ?_
        refine e_aldn cd_47_32 g0 ?_
        refine e_getI cd_47_33 (Or.inl fd_47_265) rfl ?_
        refine e_ild cd_47_36 g5 ?_
        refine k_opt hs (fun _ q => nomatch q) (fun k7 h8 hs => ?_)
        obtain ⟨c9, hs⟩ := z_ite hs
        refine k_let hs (fun M10 e11 hs => ?_)
        refine e_iast cd_47_38 rfl h8 c9 e11 ?_
        refine e_aldn cd_47_39 g0 ?_
        refine e_getR cd_47_40 fd_47_53 rfl ?_
        refine e_aldn cd_47_43 g0 ?_
        refine e_getI cd_47_44 (Or.inl fd_47_265) rfl ?_
        refine e_ild cd_47_47 g4 ?_
        refine k_opt hs (fun _ q => nomatch q) (fun k12 h13 hs => ?_)
        obtain ⟨c14, hs⟩ := z_ite hs
        refine k_let hs (fun M15 e16 hs => ?_)
        refine e_iast cd_47_49 rfl h13 c14 e16 ?_
        refine e_aldn cd_47_50 g0 ?_
        refine e_getR cd_47_51 fd_47_56 rfl ?_
        refine e_aldn cd_47_54 g0 ?_
        refine e_getI cd_47_55 (Or.inl fd_47_265) rfl ?_
        refine e_ildn cd_47_58 g2 ?_
        refine k_opt hs (fun _ q => nomatch q) (fun k17 h18 hs => ?_)
        obtain ⟨c19, hs⟩ := z_ite hs
        refine k_let hs (fun M20 e21 hs => ?_)
        refine e_iast cd_47_59 rfl h18 c19 e21 ?_
        refine e_aldn cd_47_60 g0 ?_
        refine e_getR cd_47_61 fd_47_59 rfl ?_
        refine e_aldn cd_47_64 g0 ?_
        refine e_getI cd_47_65 (Or.inl fd_47_265) rfl ?_
        refine e_ildn cd_47_68 g3 ?_
        refine k_opt hs (fun _ q => nomatch q) (fun k22 h23 hs => ?_)
        obtain ⟨c24, hs⟩ := z_ite hs
        refine k_let hs (fun M25 e26 hs => ?_)
        refine e_iast cd_47_69 rfl h23 c24 e26 ?_
        refine e_aldn cd_47_70 g0 ?_
        refine e_pure cd_47_71 rfl ?_
        refine e_getI cd_47_72 (Or.inl fd_47_265) rfl ?_
        refine e_const cd_47_75 ci_1 ?_
        refine e_pure cd_47_76 rfl ?_
        refine k_let hs (fun M27 e28 hs => ?_)
        refine e_putI cd_47_77 pd_47_265 rfl e28 ?_
        exact tie_mo_laysInto_80 (fun p0 p1 p2 p3 p4 p5 m => mo_laysInto_3  d fuel p0 p1 p2 p3 p4 p5 m) d ih t0 v1 v2 v3 v4 v5 M27 so _ g0 g1 g2 g3 g4 g5 hs
theorem tieb_mo_laysInto  (d : Nat)  (a0 : Nat) (a1 : Int32) (a2 : Int32) (a3 : Int32) (a4 : Int32) (M : zM) (so : zM) (hs : mo_laysInto_b  d a0 a1 a2 a3 a4 M = some so) : Ev zq_T (d + 1) 47 0 (zl_args 0 [.inr (.inr (12, some a0)), .inl a1, .inl a2, .inl a3, .inl a4]) [] M (none, so) := by
  unfold mo_laysInto_b at hs
  have g0 : zl_get (zl_args 0 [.inr (.inr (12, some a0)), .inl a1, .inl a2, .inl a3, .inl a4]) 0 = some (.inr (.inr (12, (some a0)))) := rfl
  have g1 : zl_get (zl_args 0 [.inr (.inr (12, some a0)), .inl a1, .inl a2, .inl a3, .inl a4]) 1 = some (.inl a1) := rfl
  have g2 : zl_get (zl_args 0 [.inr (.inr (12, some a0)), .inl a1, .inl a2, .inl a3, .inl a4]) 2 = some (.inl a2) := rfl
  have g3 : zl_get (zl_args 0 [.inr (.inr (12, some a0)), .inl a1, .inl a2, .inl a3, .inl a4]) 3 = some (.inl a3) := rfl
  have g4 : zl_get (zl_args 0 [.inr (.inr (12, some a0)), .inl a1, .inl a2, .inl a3, .inl a4]) 4 = some (.inl a4) := rfl
  refine e_const cd_47_0 ci_0 ?_
  refine e_iK cd_47_1 nl_47 rfl rfl ?_
  intro _ gn kp
  have u1 := kp 0 _ g0 rfl rfl
  have u2 := kp 1 _ g1 rfl rfl
  have u3 := kp 2 _ g2 rfl rfl
  have u4 := kp 3 _ g3 rfl rfl
  have u5 := kp 4 _ g4 rfl rfl
  have u6 := gn
  exact tie_mo_laysInto_3  d  zLF a0 a1 a2 a3 a4 0 M so _ u1 u2 u3 u4 u5 u6 hs
theorem tie_mo_laysInto (d : Nat) (a0 : Nat) (a1 : Int32) (a2 : Int32) (a3 : Int32) (a4 : Int32) (M : zM) (so : zM) (hs : mo_laysInto d a0 a1 a2 a3 a4 M = some so) : Ev zq_T d 47 0 (zl_args 0 [.inr (.inr (12, some a0)), .inl a1, .inl a2, .inl a3, .inl a4]) [] M (none, so) := by
  cases d with
  | zero => exact nomatch hs
  | succ d => exact tieb_mo_laysInto d a0 a1 a2 a3 a4 M so hs
theorem tie_mo_laysRow_54  (d : Nat)  (v3 : Int32) (M : zM) (so : Int32 × zM) (ls : List (Nat × zV)) (g3 : zl_get ls 3 = some (.inl v3)) (hs : mo_laysRow_54  d v3 M = some so) : Ev zq_T (d + 1) 48 54 ls [] M (some (.inl so.1), so.2) := by
  unfold mo_laysRow_54 at hs
  refine e_ildn cd_48_54 g3 ?_
  obtain ⟨c1, hs⟩ := z_ite hs
  have e := Option.some.inj hs
  subst e
  exact e_rz cd_48_55 nr_48 c1
theorem tie_mo_laysRow_10  (d : Nat)  : ∀ (fuel : Nat) (t0 : Nat) (v1 : Int32) (v2 : Int32) (v3 : Int32) (v4 : Int32) (M : zM) (so : Int32 × zM) (ls : List (Nat × zV)), zl_get ls 0 = some (.inr (.inr (12, (some t0)))) → zl_get ls 1 = some (.inl v1) → zl_get ls 2 = some (.inl v2) → zl_get ls 3 = some (.inl v3) → zl_get ls 4 = some (.inl v4) → mo_laysRow_10  d fuel t0 v1 v2 v3 v4 M = some so → Ev zq_T (d + 1) 48 10 ls [] M (some (.inl so.1), so.2) := by
  intro fuel
  induction fuel with
  | zero => intro t0 v1 v2 v3 v4 M so ls g0 g1 g2 g3 g4 hs; exact nomatch hs
  | succ fuel ih =>
    intro t0 v1 v2 v3 v4 M so ls g0 g1 g2 g3 g4 hs
    unfold mo_laysRow_10 at hs
    refine e_ild cd_48_10 g4 ?_
    refine e_const cd_48_12 ci_m1 ?_
    refine k_if hs (fun c1 hs => ?_) (fun c1 hs => ?_)
    · refine e_icJ cd_48_13 rfl c1 ?_
      exact tie_mo_laysRow_54  d  v3 M so _ g3 hs
    · refine e_icN cd_48_13 rfl c1 ?_
      refine e_ildn cd_48_16 g3 ?_
      refine k_if hs (fun c2 hs => ?_) (fun c2 hs => ?_)
      · refine e_izJ cd_48_17 rfl c2 ?_
        exact tie_mo_laysRow_54  d  v3 M so _ g3 hs
      · refine e_izN cd_48_17 rfl c2 ?_
        refine e_aldn cd_48_20 g0 ?_
        refine e_ildn cd_48_21 g1 ?_
        refine e_aldn cd_48_22 g0 ?_
        refine e_ildn cd_48_23 g2 ?_
        refine e_const cd_48_24 ci_2 ?_
        obtain ⟨q3, h4, hs⟩ := k_bind hs
        refine e_cvi cd_48_25 kd_48_240 rfl rfl rfl rfl rfl nl_36 rfl rfl (tie_mo_at d t0 v2 2 M _ h4) ?_
        refine e_ild cd_48_28 g4 ?_
        refine e_const cd_48_30 ci_m1 ?_
        obtain ⟨q5, h6, hs⟩ := k_bind hs
        refine e_cvi cd_48_31 kd_48_268 rfl rfl rfl rfl rfl nl_47 rfl rfl (tie_mo_laysInto d t0 v1 q3.1 v4 (-1) q3.2 _ h6) ?_
        refine e_aldn cd_48_34 g0 ?_
        refine e_ildn cd_48_35 g1 ?_
        refine e_ild cd_48_36 g4 ?_
        obtain ⟨q7, h8, hs⟩ := k_bind hs
        refine e_cvi cd_48_38 kd_48_245 rfl rfl rfl rfl rfl nl_41 rfl rfl (tie_mo_isNull d t0 v1 v4 q5 _ h8) ?_
        refine e_iKn cd_48_41 nl_48 rfl rfl ?_
        intro _ gn kp
        have u9 := kp 0 _ g0 rfl rfl
        have u10 := kp 1 _ g1 rfl rfl
        have u11 := kp 2 _ g2 rfl rfl
        have u12 := kp 4 _ g4 rfl rfl
        have u13 := gn
        refine e_aldn cd_48_42 u9 ?_
        refine e_ild cd_48_43 u12 ?_
        refine e_const cd_48_45 ci_4 ?_
        obtain ⟨q14, h15, hs⟩ := k_bind hs
        refine e_cvi cd_48_46 kd_48_240 rfl rfl rfl rfl rfl nl_36 rfl rfl (tie_mo_at d t0 v4 4 q7.2 _ h15) ?_
        refine e_iK cd_48_49 nl_48 rfl rfl ?_
        intro _ gn kp
        have u16 := kp 0 _ u9 rfl rfl
        have u17 := kp 1 _ u10 rfl rfl
        have u18 := kp 2 _ u11 rfl rfl
        have u19 := kp 3 _ u13 rfl rfl
        have u20 := gn
        refine e_goto cd_48_51 rfl ?_
        exact ih t0 v1 v2 q7.1 q14.1 q14.2 so _ u16 u17 u18 u19 u20 hs
theorem tieb_mo_laysRow  (d : Nat)  (a0 : Nat) (a1 : Int32) (a2 : Int32) (M : zM) (so : Int32 × zM) (hs : mo_laysRow_b  d a0 a1 a2 M = some so) : Ev zq_T (d + 1) 48 0 (zl_args 0 [.inr (.inr (12, some a0)), .inl a1, .inl a2]) [] M (some (.inl so.1), so.2) := by
  unfold mo_laysRow_b at hs
  have g0 : zl_get (zl_args 0 [.inr (.inr (12, some a0)), .inl a1, .inl a2]) 0 = some (.inr (.inr (12, (some a0)))) := rfl
  have g1 : zl_get (zl_args 0 [.inr (.inr (12, some a0)), .inl a1, .inl a2]) 1 = some (.inl a1) := rfl
  have g2 : zl_get (zl_args 0 [.inr (.inr (12, some a0)), .inl a1, .inl a2]) 2 = some (.inl a2) := rfl
  refine e_const cd_48_0 ci_1 ?_
  refine e_iKn cd_48_1 nl_48 rfl rfl ?_
  intro _ gn kp
  have u1 := kp 0 _ g0 rfl rfl
  have u2 := kp 1 _ g1 rfl rfl
  have u3 := kp 2 _ g2 rfl rfl
  have u4 := gn
  refine e_aldn cd_48_2 u1 ?_
  refine e_ildn cd_48_3 u3 ?_
  refine e_const cd_48_4 ci_4 ?_
  obtain ⟨q5, h6, hs⟩ := k_bind hs
  refine e_cvi cd_48_5 kd_48_240 rfl rfl rfl rfl rfl nl_36 rfl rfl (tie_mo_at d a0 a2 4 M _ h6) ?_
  refine e_iK cd_48_8 nl_48 rfl rfl ?_
  intro _ gn kp
  have u7 := kp 0 _ u1 rfl rfl
  have u8 := kp 1 _ u2 rfl rfl
  have u9 := kp 2 _ u3 rfl rfl
  have u10 := kp 3 _ u4 rfl rfl
  have u11 := gn
  exact tie_mo_laysRow_10  d  zLF a0 a1 a2 1 q5.1 q5.2 so _ u7 u8 u9 u10 u11 hs
theorem tie_mo_laysRow (d : Nat) (a0 : Nat) (a1 : Int32) (a2 : Int32) (M : zM) (so : Int32 × zM) (hs : mo_laysRow d a0 a1 a2 M = some so) : Ev zq_T d 48 0 (zl_args 0 [.inr (.inr (12, some a0)), .inl a1, .inl a2]) [] M (some (.inl so.1), so.2) := by
  cases d with
  | zero => exact nomatch hs
  | succ d => exact tieb_mo_laysRow d a0 a1 a2 M so hs
theorem tie_mo_laysWays_120 (kl34 : Nat → Int32 → Int32 → Int32 → zM → Option (zM)) (kl97 : Nat → Int32 → Int32 → Int32 → Int32 → Int32 → zM → Option (zM)) (d : Nat) (hk34 : ∀ (t0 : Nat) (v1 : Int32) (v3 : Int32) (v4 : Int32) (M : zM) (so : zM) (ls : List (Nat × zV)), zl_get ls 0 = some (.inr (.inr (12, (some t0)))) → zl_get ls 1 = some (.inl v1) → zl_get ls 3 = some (.inl v3) → zl_get ls 4 = some (.inl v4) → kl34 t0 v1 v3 v4 M = some so → Ev zq_T (d + 1) 49 34 ls [] M (none, so)) (hk97 : ∀ (t0 : Nat) (v1 : Int32) (v3 : Int32) (v4 : Int32) (v5 : Int32) (v6 : Int32) (M : zM) (so : zM) (ls : List (Nat × zV)), zl_get ls 0 = some (.inr (.inr (12, (some t0)))) → zl_get ls 1 = some (.inl v1) → zl_get ls 3 = some (.inl v3) → zl_get ls 4 = some (.inl v4) → zl_get ls 5 = some (.inl v5) → zl_get ls 6 = some (.inl v6) → kl97 t0 v1 v3 v4 v5 v6 M = some so → Ev zq_T (d + 1) 49 97 ls [] M (none, so)) (t0 : Nat) (v1 : Int32) (v3 : Int32) (v4 : Int32) (v5 : Int32) (v6 : Int32) (M : zM) (so : zM) (ls : List (Nat × zV)) (g0 : zl_get ls 0 = some (.inr (.inr (12, (some t0))))) (g1 : zl_get ls 1 = some (.inl v1)) (g3 : zl_get ls 3 = some (.inl v3)) (g4 : zl_get ls 4 = some (.inl v4)) (g5 : zl_get ls 5 = some (.inl v5)) (g6 : zl_get ls 6 = some (.inl v6)) (hs : mo_laysWays_120 kl34 kl97 d t0 v1 v3 v4 v5 v6 M = some so) : Ev zq_T (d + 1) 49 120 ls [] M (none, so) := by
  unfold mo_laysWays_120 at hs
  refine e_aldn cd_49_120 g0 ?_
  refine e_ild cd_49_121 g6 ?_
  refine e_const cd_49_123 ci_4 ?_
  obtain ⟨q1, h2, hs⟩ := k_bind hs
  refine e_cvi cd_49_124 kd_49_240 rfl rfl rfl rfl rfl nl_36 rfl rfl (tie_mo_at d t0 v6 4 M _ h2) ?_
  refine e_iK cd_49_127 nl_49 rfl rfl ?_
  intro _ gn kp
  have u3 := kp 0 _ g0 rfl rfl
  have u4 := kp 1 _ g1 rfl rfl
  have u5 := kp 3 _ g3 rfl rfl
  have u6 := kp 4 _ g4 rfl rfl
  have u7 := kp 5 _ g5 rfl rfl
  have u8 := gn
  refine e_goto cd_49_129 rfl ?_
  exact hk97 t0 v1 v3 v4 v5 q1.1 q1.2 so _ u3 u4 u5 u6 u7 u8 hs
theorem tie_mo_laysWays_175 (kl34 : Nat → Int32 → Int32 → Int32 → zM → Option (zM)) (d : Nat) (hk34 : ∀ (t0 : Nat) (v1 : Int32) (v3 : Int32) (v4 : Int32) (M : zM) (so : zM) (ls : List (Nat × zV)), zl_get ls 0 = some (.inr (.inr (12, (some t0)))) → zl_get ls 1 = some (.inl v1) → zl_get ls 3 = some (.inl v3) → zl_get ls 4 = some (.inl v4) → kl34 t0 v1 v3 v4 M = some so → Ev zq_T (d + 1) 49 34 ls [] M (none, so)) (t0 : Nat) (v1 : Int32) (v3 : Int32) (v4 : Int32) (M : zM) (so : zM) (ls : List (Nat × zV)) (g0 : zl_get ls 0 = some (.inr (.inr (12, (some t0))))) (g1 : zl_get ls 1 = some (.inl v1)) (g3 : zl_get ls 3 = some (.inl v3)) (g4 : zl_get ls 4 = some (.inl v4)) (hs : mo_laysWays_175 kl34 d t0 v1 v3 v4 M = some so) : Ev zq_T (d + 1) 49 175 ls [] M (none, so) := by
  unfold mo_laysWays_175 at hs
  refine e_aldn cd_49_175 g0 ?_
  refine e_ild cd_49_176 g4 ?_
  refine e_const cd_49_178 ci_2 ?_
  obtain ⟨q1, h2, hs⟩ := k_bind hs
  refine e_cvi cd_49_179 kd_49_240 rfl rfl rfl rfl rfl nl_36 rfl rfl (tie_mo_at d t0 v4 2 M _ h2) ?_
  refine e_iK cd_49_182 nl_49 rfl rfl ?_
  intro _ gn kp
  have u3 := kp 0 _ g0 rfl rfl
  have u4 := kp 1 _ g1 rfl rfl
  have u5 := kp 3 _ g3 rfl rfl
  have u6 := gn
  refine e_goto cd_49_184 rfl ?_
  exact hk34 t0 v1 v3 q1.1 q1.2 so _ u3 u4 u5 u6 hs
theorem tie_mo_laysWays_132 (kl34 : Nat → Int32 → Int32 → Int32 → zM → Option (zM)) (d : Nat) (hk34 : ∀ (t0 : Nat) (v1 : Int32) (v3 : Int32) (v4 : Int32) (M : zM) (so : zM) (ls : List (Nat × zV)), zl_get ls 0 = some (.inr (.inr (12, (some t0)))) → zl_get ls 1 = some (.inl v1) → zl_get ls 3 = some (.inl v3) → zl_get ls 4 = some (.inl v4) → kl34 t0 v1 v3 v4 M = some so → Ev zq_T (d + 1) 49 34 ls [] M (none, so)) (t0 : Nat) (v1 : Int32) (v3 : Int32) (v4 : Int32) (v5 : Int32) (M : zM) (so : zM) (ls : List (Nat × zV)) (g0 : zl_get ls 0 = some (.inr (.inr (12, (some t0))))) (g1 : zl_get ls 1 = some (.inl v1)) (g3 : zl_get ls 3 = some (.inl v3)) (g4 : zl_get ls 4 = some (.inl v4)) (g5 : zl_get ls 5 = some (.inl v5)) (hs : mo_laysWays_132 kl34 d t0 v1 v3 v4 v5 M = some so) : Ev zq_T (d + 1) 49 132 ls [] M (none, so) := by
  unfold mo_laysWays_132 at hs
  refine e_aldn cd_49_132 g0 ?_
  refine e_ild cd_49_133 g5 ?_
  refine e_const cd_49_135 ci_0 ?_
  obtain ⟨q1, h2, hs⟩ := k_bind hs
  refine e_cvi cd_49_136 kd_49_240 rfl rfl rfl rfl rfl nl_36 rfl rfl (tie_mo_at d t0 v5 0 M _ h2) ?_
  refine e_const cd_49_139 ci_5 ?_
  refine k_if hs (fun c3 hs => ?_) (fun c3 hs => ?_)
  · refine e_icN cd_49_140 rfl (fun q => q c3) ?_
    refine e_aldn cd_49_143 g0 ?_
    refine e_ildn cd_49_144 g1 ?_
    refine e_aldn cd_49_145 g0 ?_
    refine e_ild cd_49_146 g5 ?_
    refine e_const cd_49_148 ci_1 ?_
    obtain ⟨q4, h5, hs⟩ := k_bind hs
    refine e_cvi cd_49_149 kd_49_240 rfl rfl rfl rfl rfl nl_36 rfl rfl (tie_mo_at d t0 v5 1 q1.2 _ h5) ?_
    obtain ⟨q6, h7, hs⟩ := k_bind hs
    refine e_cvi cd_49_152 kd_49_275 rfl rfl rfl rfl rfl nl_38 rfl rfl (tie_mo_to d t0 v1 q4.1 q4.2 _ h7) ?_
    refine e_const cd_49_155 ci_1 ?_
    refine k_if hs (fun c8 hs => ?_) (fun c8 hs => ?_)
    · refine e_icJ cd_49_156 rfl c8 ?_
      exact tie_mo_laysWays_175 kl34 d hk34 t0 v1 v3 v4 q6.2 so _ g0 g1 g3 g4 hs
    · refine e_icN cd_49_156 rfl c8 ?_
      refine e_aldn cd_49_159 g0 ?_
      refine e_ildn cd_49_160 g1 ?_
      refine e_ild cd_49_161 g5 ?_
      refine e_ild cd_49_163 g4 ?_
      refine e_aldn cd_49_165 g0 ?_
      refine e_ild cd_49_166 g5 ?_
      refine e_const cd_49_168 ci_1 ?_
      obtain ⟨q9, h10, hs⟩ := k_bind hs
      refine e_cvi cd_49_169 kd_49_240 rfl rfl rfl rfl rfl nl_36 rfl rfl (tie_mo_at d t0 v5 1 q6.2 _ h10) ?_
      obtain ⟨q11, h12, hs⟩ := k_bind hs
      refine e_cvi cd_49_172 kd_49_268 rfl rfl rfl rfl rfl nl_47 rfl rfl (tie_mo_laysInto d t0 v1 v5 v4 q9.1 q9.2 _ h12) ?_
      exact tie_mo_laysWays_175 kl34 d hk34 t0 v1 v3 v4 q11 so _ g0 g1 g3 g4 hs
  · refine e_icJ cd_49_140 rfl c3 ?_
    exact tie_mo_laysWays_175 kl34 d hk34 t0 v1 v3 v4 q1.2 so _ g0 g1 g3 g4 hs
theorem tie_mo_laysWays_97 (kl34 : Nat → Int32 → Int32 → Int32 → zM → Option (zM)) (d : Nat) (hk34 : ∀ (t0 : Nat) (v1 : Int32) (v3 : Int32) (v4 : Int32) (M : zM) (so : zM) (ls : List (Nat × zV)), zl_get ls 0 = some (.inr (.inr (12, (some t0)))) → zl_get ls 1 = some (.inl v1) → zl_get ls 3 = some (.inl v3) → zl_get ls 4 = some (.inl v4) → kl34 t0 v1 v3 v4 M = some so → Ev zq_T (d + 1) 49 34 ls [] M (none, so)) : ∀ (fuel : Nat) (t0 : Nat) (v1 : Int32) (v3 : Int32) (v4 : Int32) (v5 : Int32) (v6 : Int32) (M : zM) (so : zM) (ls : List (Nat × zV)), zl_get ls 0 = some (.inr (.inr (12, (some t0)))) → zl_get ls 1 = some (.inl v1) → zl_get ls 3 = some (.inl v3) → zl_get ls 4 = some (.inl v4) → zl_get ls 5 = some (.inl v5) → zl_get ls 6 = some (.inl v6) → mo_laysWays_97 kl34 d fuel t0 v1 v3 v4 v5 v6 M = some so → Ev zq_T (d + 1) 49 97 ls [] M (none, so) := by
  intro fuel
  induction fuel with
  | zero => intro t0 v1 v3 v4 v5 v6 M so ls g0 g1 g3 g4 g5 g6 hs; exact nomatch hs
  | succ fuel ih =>
    intro t0 v1 v3 v4 v5 v6 M so ls g0 g1 g3 g4 g5 g6 hs
    unfold mo_laysWays_97 at hs
    refine e_ild cd_49_97 g6 ?_
    refine e_const cd_49_99 ci_m1 ?_
    refine k_if hs (fun c1 hs => ?_) (fun c1 hs => ?_)
    · refine e_icJ cd_49_100 rfl c1 ?_
      exact tie_mo_laysWays_132 kl34 d hk34 t0 v1 v3 v4 v5 M so _ g0 g1 g3 g4 g5 hs
    · refine e_icN cd_49_100 rfl c1 ?_
      refine e_ild cd_49_103 g6 ?_
      refine e_ild cd_49_105 g4 ?_
      refine k_if hs (fun c2 hs => ?_) (fun c2 hs => ?_)
      · refine e_icJ cd_49_107 rfl c2 ?_
        exact tie_mo_laysWays_120 kl34 (fun p0 p1 p2 p3 p4 p5 m => mo_laysWays_97 kl34 d fuel p0 p1 p2 p3 p4 p5 m) d hk34 ih t0 v1 v3 v4 v5 v6 M so _ g0 g1 g3 g4 g5 g6 hs
      · refine e_icN cd_49_107 rfl c2 ?_
        refine e_aldn cd_49_110 g0 ?_
        refine e_ildn cd_49_111 g1 ?_
        refine e_ild cd_49_112 g5 ?_
        refine e_ild cd_49_114 g6 ?_
        refine e_const cd_49_116 ci_m1 ?_
        obtain ⟨q3, h4, hs⟩ := k_bind hs
        refine e_cvi cd_49_117 kd_49_268 rfl rfl rfl rfl rfl nl_47 rfl rfl (tie_mo_laysInto d t0 v1 v5 v6 (-1) M _ h4) ?_
        exact tie_mo_laysWays_120 kl34 (fun p0 p1 p2 p3 p4 p5 m => mo_laysWays_97 kl34 d fuel p0 p1 p2 p3 p4 p5 m) d hk34 ih t0 v1 v3 v4 v5 v6 q3 so _ g0 g1 g3 g4 g5 g6 hs
theorem tie_mo_laysWays_77 (kl34 : Nat → Int32 → Int32 → Int32 → zM → Option (zM)) (d : Nat) (hk34 : ∀ (t0 : Nat) (v1 : Int32) (v3 : Int32) (v4 : Int32) (M : zM) (so : zM) (ls : List (Nat × zV)), zl_get ls 0 = some (.inr (.inr (12, (some t0)))) → zl_get ls 1 = some (.inl v1) → zl_get ls 3 = some (.inl v3) → zl_get ls 4 = some (.inl v4) → kl34 t0 v1 v3 v4 M = some so → Ev zq_T (d + 1) 49 34 ls [] M (none, so)) (t0 : Nat) (v1 : Int32) (v3 : Int32) (v4 : Int32) (v5 : Int32) (M : zM) (so : zM) (ls : List (Nat × zV)) (g0 : zl_get ls 0 = some (.inr (.inr (12, (some t0))))) (g1 : zl_get ls 1 = some (.inl v1)) (g3 : zl_get ls 3 = some (.inl v3)) (g4 : zl_get ls 4 = some (.inl v4)) (g5 : zl_get ls 5 = some (.inl v5)) (hs : mo_laysWays_77 kl34 d t0 v1 v3 v4 v5 M = some so) : Ev zq_T (d + 1) 49 77 ls [] M (none, so) := by
  unfold mo_laysWays_77 at hs
  refine e_aldn cd_49_77 g0 ?_
  refine e_ild cd_49_78 g5 ?_
  refine e_const cd_49_80 ci_0 ?_
  obtain ⟨q1, h2, hs⟩ := k_bind hs
  refine e_cvi cd_49_81 kd_49_240 rfl rfl rfl rfl rfl nl_36 rfl rfl (tie_mo_at d t0 v5 0 M _ h2) ?_
  refine e_const cd_49_84 ci_4 ?_
  refine k_if hs (fun c3 hs => ?_) (fun c3 hs => ?_)
  · refine e_icN cd_49_85 rfl (fun q => q c3) ?_
    refine e_aldn cd_49_88 g0 ?_
    refine e_ild cd_49_89 g5 ?_
    refine e_const cd_49_91 ci_3 ?_
    obtain ⟨q4, h5, hs⟩ := k_bind hs
    refine e_cvi cd_49_92 kd_49_240 rfl rfl rfl rfl rfl nl_36 rfl rfl (tie_mo_at d t0 v5 3 q1.2 _ h5) ?_
    refine e_iK cd_49_95 nl_49 rfl rfl ?_
    intro _ gn kp
    have u6 := kp 0 _ g0 rfl rfl
    have u7 := kp 1 _ g1 rfl rfl
    have u8 := kp 3 _ g3 rfl rfl
    have u9 := kp 4 _ g4 rfl rfl
    have u10 := kp 5 _ g5 rfl rfl
    have u11 := gn
    exact tie_mo_laysWays_97 kl34 d hk34 zLF t0 v1 v3 v4 v5 q4.1 q4.2 so _ u6 u7 u8 u9 u10 u11 hs
  · refine e_icJ cd_49_85 rfl c3 ?_
    exact tie_mo_laysWays_132 kl34 d hk34 t0 v1 v3 v4 v5 q1.2 so _ g0 g1 g3 g4 g5 hs
theorem tie_mo_laysWays_187  (d : Nat)   (M : zM) (so : zM) (ls : List (Nat × zV))  (hs : mo_laysWays_187  d  M = some so) : Ev zq_T (d + 1) 49 187 ls [] M (none, so) := by
  unfold mo_laysWays_187 at hs
  have e := Option.some.inj hs
  subst e
  exact e_rv cd_49_187 nr_49
theorem tie_mo_laysWays_34  (d : Nat)  : ∀ (fuel : Nat) (t0 : Nat) (v1 : Int32) (v3 : Int32) (v4 : Int32) (M : zM) (so : zM) (ls : List (Nat × zV)), zl_get ls 0 = some (.inr (.inr (12, (some t0)))) → zl_get ls 1 = some (.inl v1) → zl_get ls 3 = some (.inl v3) → zl_get ls 4 = some (.inl v4) → mo_laysWays_34  d fuel t0 v1 v3 v4 M = some so → Ev zq_T (d + 1) 49 34 ls [] M (none, so) := by
  intro fuel
  induction fuel with
  | zero => intro t0 v1 v3 v4 M so ls g0 g1 g3 g4 hs; exact nomatch hs
  | succ fuel ih =>
    intro t0 v1 v3 v4 M so ls g0 g1 g3 g4 hs
    unfold mo_laysWays_34 at hs
    refine e_aldn cd_49_34 g0 ?_
    refine e_ild cd_49_35 g4 ?_
    refine e_const cd_49_37 ci_2 ?_
    obtain ⟨q1, h2, hs⟩ := k_bind hs
    refine e_cvi cd_49_38 kd_49_240 rfl rfl rfl rfl rfl nl_36 rfl rfl (tie_mo_at d t0 v4 2 M _ h2) ?_
    refine e_const cd_49_41 ci_m1 ?_
    refine k_if hs (fun c3 hs => ?_) (fun c3 hs => ?_)
    · refine e_icJ cd_49_42 rfl c3 ?_
      exact tie_mo_laysWays_187  d   q1.2 so _  hs
    · refine e_icN cd_49_42 rfl c3 ?_
      refine e_ildn cd_49_45 g3 ?_
      refine k_if hs (fun c4 hs => ?_) (fun c4 hs => ?_)
      · refine e_izJ cd_49_46 rfl c4 ?_
        exact tie_mo_laysWays_187  d   q1.2 so _  hs
      · refine e_izN cd_49_46 rfl c4 ?_
        refine e_aldn cd_49_49 g0 ?_
        refine e_ild cd_49_50 g4 ?_
        refine e_const cd_49_52 ci_2 ?_
        obtain ⟨q5, h6, hs⟩ := k_bind hs
        refine e_cvi cd_49_53 kd_49_240 rfl rfl rfl rfl rfl nl_36 rfl rfl (tie_mo_at d t0 v4 2 q1.2 _ h6) ?_
        refine e_iK cd_49_56 nl_49 rfl rfl ?_
        intro _ gn kp
        have u7 := kp 0 _ g0 rfl rfl
        have u8 := kp 1 _ g1 rfl rfl
        have u9 := kp 3 _ g3 rfl rfl
        have u10 := kp 4 _ g4 rfl rfl
        have u11 := gn
        refine e_aldn cd_49_58 u7 ?_
        refine e_ild cd_49_59 u11 ?_
        refine e_const cd_49_61 ci_0 ?_
        obtain ⟨q12, h13, hs⟩ := k_bind hs
        refine e_cvi cd_49_62 kd_49_240 rfl rfl rfl rfl rfl nl_36 rfl rfl (tie_mo_at d t0 q5.1 0 q5.2 _ h13) ?_
        refine e_const cd_49_65 ci_2 ?_
        refine k_if hs (fun c14 hs => ?_) (fun c14 hs => ?_)
        · refine e_icN cd_49_66 rfl (fun q => q c14) ?_
          refine e_aldn cd_49_69 u7 ?_
          refine e_ildn cd_49_70 u8 ?_
          refine e_ild cd_49_71 u10 ?_
          obtain ⟨q15, h16, hs⟩ := k_bind hs
          refine e_cvi cd_49_73 kd_49_272 rfl rfl rfl rfl rfl nl_48 rfl rfl (tie_mo_laysRow d t0 v1 v4 q12.2 _ h16) ?_
          refine e_iKn cd_49_76 nl_49 rfl rfl ?_
          intro _ gn kp
          have u17 := kp 0 _ u7 rfl rfl
          have u18 := kp 1 _ u8 rfl rfl
          have u19 := kp 4 _ u10 rfl rfl
          have u20 := kp 5 _ u11 rfl rfl
          have u21 := gn
          exact tie_mo_laysWays_77 (fun p0 p1 p2 p3 m => mo_laysWays_34  d fuel p0 p1 p2 p3 m) d ih t0 v1 q15.1 v4 q5.1 q15.2 so _ u17 u18 u21 u19 u20 hs
        · refine e_icJ cd_49_66 rfl c14 ?_
          exact tie_mo_laysWays_77 (fun p0 p1 p2 p3 m => mo_laysWays_34  d fuel p0 p1 p2 p3 m) d ih t0 v1 v3 v4 q5.1 q12.2 so _ u7 u8 u9 u10 u11 hs
theorem tieb_mo_laysWays  (d : Nat)  (a0 : Nat) (a1 : Int32) (a2 : Int32) (M : zM) (so : zM) (hs : mo_laysWays_b  d a0 a1 a2 M = some so) : Ev zq_T (d + 1) 49 0 (zl_args 0 [.inr (.inr (12, some a0)), .inl a1, .inl a2]) [] M (none, so) := by
  unfold mo_laysWays_b at hs
  have g0 : zl_get (zl_args 0 [.inr (.inr (12, some a0)), .inl a1, .inl a2]) 0 = some (.inr (.inr (12, (some a0)))) := rfl
  have g1 : zl_get (zl_args 0 [.inr (.inr (12, some a0)), .inl a1, .inl a2]) 1 = some (.inl a1) := rfl
  have g2 : zl_get (zl_args 0 [.inr (.inr (12, some a0)), .inl a1, .inl a2]) 2 = some (.inl a2) := rfl
  refine e_aldn cd_49_0 g0 ?_
  refine e_const cd_49_1 ci_0 ?_
  refine k_let hs (fun M1 e2 hs => ?_)
  refine e_putI cd_49_2 pd_49_265 rfl e2 ?_
  refine e_ildn cd_49_5 g2 ?_
  refine e_const cd_49_6 ci_m1 ?_
  refine k_if hs (fun c3 hs => ?_) (fun c3 hs => ?_)
  · refine e_icN cd_49_7 rfl (fun q => q c3) ?_
    refine e_aldn cd_49_10 g0 ?_
    refine e_ildn cd_49_11 g1 ?_
    refine e_const cd_49_12 ci_m1 ?_
    refine e_aldn cd_49_13 g0 ?_
    refine e_ildn cd_49_14 g1 ?_
    refine e_const cd_49_15 ci_1 ?_
    obtain ⟨q4, h5, hs⟩ := k_bind hs
    refine e_cvi cd_49_16 kd_49_258 rfl rfl rfl rfl rfl nl_35 rfl rfl (tie_mo_of d a0 a1 1 M1 _ h5) ?_
    refine e_const cd_49_19 ci_m1 ?_
    obtain ⟨q6, h7, hs⟩ := k_bind hs
    refine e_cvi cd_49_20 kd_49_268 rfl rfl rfl rfl rfl nl_47 rfl rfl (tie_mo_laysInto d a0 a1 (-1) q4.1 (-1) q4.2 _ h7) ?_
    have e := Option.some.inj hs
    subst e
    exact e_rv cd_49_23 nr_49
  · refine e_icJ cd_49_7 rfl c3 ?_
    refine e_const cd_49_24 ci_1 ?_
    refine e_iKn cd_49_25 nl_49 rfl rfl ?_
    intro _ gn kp
    have u8 := kp 0 _ g0 rfl rfl
    have u9 := kp 1 _ g1 rfl rfl
    have u10 := kp 2 _ g2 rfl rfl
    have u11 := gn
    refine e_aldn cd_49_26 u8 ?_
    refine e_ildn cd_49_27 u9 ?_
    refine e_ildn cd_49_28 u10 ?_
    obtain ⟨q12, h13, hs⟩ := k_bind hs
    refine e_cvi cd_49_29 kd_49_249 rfl rfl rfl rfl rfl nl_40 rfl rfl (tie_mo_leaf d a0 a1 a2 M1 _ h13) ?_
    refine e_iK cd_49_32 nl_49 rfl rfl ?_
    intro _ gn kp
    have u14 := kp 0 _ u8 rfl rfl
    have u15 := kp 1 _ u9 rfl rfl
    have u16 := kp 3 _ u11 rfl rfl
    have u17 := gn
    exact tie_mo_laysWays_34  d  zLF a0 a1 1 q12.1 q12.2 so _ u14 u15 u16 u17 hs
theorem tie_mo_laysWays (d : Nat) (a0 : Nat) (a1 : Int32) (a2 : Int32) (M : zM) (so : zM) (hs : mo_laysWays d a0 a1 a2 M = some so) : Ev zq_T d 49 0 (zl_args 0 [.inr (.inr (12, some a0)), .inl a1, .inl a2]) [] M (none, so) := by
  cases d with
  | zero => exact nomatch hs
  | succ d => exact tieb_mo_laysWays d a0 a1 a2 M so hs
theorem tie_mo_isPassed_29  (d : Nat)  (s0 : Int32) (M : zM) (so : Int32 × zM) (ls : List (Nat × zV))  (hs : mo_isPassed_29  d s0 M = some so) : Ev zq_T (d + 1) 50 29 ls [.inl s0] M (some (.inl so.1), so.2) := by
  unfold mo_isPassed_29 at hs
  obtain ⟨c1, hs⟩ := z_ite hs
  have e := Option.some.inj hs
  subst e
  exact e_rz cd_50_29 nr_50 c1
theorem tie_mo_isPassed_28  (d : Nat)   (M : zM) (so : Int32 × zM) (ls : List (Nat × zV))  (hs : mo_isPassed_28  d  M = some so) : Ev zq_T (d + 1) 50 28 ls [] M (some (.inl so.1), so.2) := by
  unfold mo_isPassed_28 at hs
  refine e_const cd_50_28 ci_0 ?_
  exact tie_mo_isPassed_29  d  0 M so _  hs
theorem tieb_mo_isPassed  (d : Nat)  (a0 : Nat) (a1 : Int32) (a2 : Int32) (M : zM) (so : Int32 × zM) (hs : mo_isPassed_b  d a0 a1 a2 M = some so) : Ev zq_T (d + 1) 50 0 (zl_args 0 [.inr (.inr (12, some a0)), .inl a1, .inl a2]) [] M (some (.inl so.1), so.2) := by
  unfold mo_isPassed_b at hs
  have g0 : zl_get (zl_args 0 [.inr (.inr (12, some a0)), .inl a1, .inl a2]) 0 = some (.inr (.inr (12, (some a0)))) := rfl
  have g1 : zl_get (zl_args 0 [.inr (.inr (12, some a0)), .inl a1, .inl a2]) 1 = some (.inl a1) := rfl
  have g2 : zl_get (zl_args 0 [.inr (.inr (12, some a0)), .inl a1, .inl a2]) 2 = some (.inl a2) := rfl
  refine e_aldn cd_50_0 g0 ?_
  refine e_getR cd_50_1 fd_50_56 rfl ?_
  refine e_ildn cd_50_4 g2 ?_
  refine k_opt hs (fun _ q => nomatch q) (fun k1 h2 hs => ?_)
  obtain ⟨c3, hs⟩ := z_ite hs
  refine e_iald cd_50_5 rfl h2 c3 ?_
  refine e_ildn cd_50_6 g1 ?_
  refine k_if hs (fun c4 hs => ?_) (fun c4 hs => ?_)
  · refine e_icJ cd_50_7 rfl c4 ?_
    exact tie_mo_isPassed_28  d   M so _  hs
  · refine e_icN cd_50_7 rfl c4 ?_
    refine e_aldn cd_50_10 g0 ?_
    refine e_ildn cd_50_11 g1 ?_
    refine e_aldn cd_50_12 g0 ?_
    refine e_getR cd_50_13 fd_50_56 rfl ?_
    refine e_ildn cd_50_16 g2 ?_
    refine k_opt hs (fun _ q => nomatch q) (fun k5 h6 hs => ?_)
    obtain ⟨c7, hs⟩ := z_ite hs
    refine e_iald cd_50_17 rfl h6 c7 ?_
    obtain ⟨q8, h9, hs⟩ := k_bind hs
    refine e_cvi cd_50_18 kd_50_252 rfl rfl rfl rfl rfl nl_42 rfl rfl (tie_mo_isWithin d a0 a1 (zm_I M 20 k5 (a2 : Int32).toNatClampNeg) M _ h9) ?_
    refine k_if hs (fun c10 hs => ?_) (fun c10 hs => ?_)
    · refine e_izJ cd_50_21 rfl c10 ?_
      exact tie_mo_isPassed_28  d   q8.2 so _  hs
    · refine e_izN cd_50_21 rfl c10 ?_
      refine e_const cd_50_24 ci_1 ?_
      refine e_goto cd_50_25 rfl ?_
      exact tie_mo_isPassed_29  d  1 q8.2 so _  hs
theorem tie_mo_isPassed (d : Nat) (a0 : Nat) (a1 : Int32) (a2 : Int32) (M : zM) (so : Int32 × zM) (hs : mo_isPassed d a0 a1 a2 M = some so) : Ev zq_T d 50 0 (zl_args 0 [.inr (.inr (12, some a0)), .inl a1, .inl a2]) [] M (some (.inl so.1), so.2) := by
  cases d with
  | zero => exact nomatch hs
  | succ d => exact tieb_mo_isPassed d a0 a1 a2 M so hs
theorem tie_mo_leastTime_64  (d : Nat)  (s0 : Int32) (M : zM) (so : Int32 × zM) (ls : List (Nat × zV))  (hs : mo_leastTime_64  d s0 M = some so) : Ev zq_T (d + 1) 51 64 ls [.inl s0] M (some (.inl so.1), so.2) := by
  unfold mo_leastTime_64 at hs
  have e := Option.some.inj hs
  subst e
  exact e_ri cd_51_64 nr_51
theorem tie_mo_leastTime_63  (d : Nat)   (M : zM) (so : Int32 × zM) (ls : List (Nat × zV))  (hs : mo_leastTime_63  d  M = some so) : Ev zq_T (d + 1) 51 63 ls [] M (some (.inl so.1), so.2) := by
  unfold mo_leastTime_63 at hs
  refine e_const cd_51_63 ci_1 ?_
  exact tie_mo_leastTime_64  d  1 M so _  hs
theorem tie_mo_leastTime_24  (d : Nat)  (t0 : Nat) (v1 : Int32) (v2 : Int32) (s0 : Int32) (M : zM) (so : Int32 × zM) (ls : List (Nat × zV)) (g0 : zl_get ls 0 = some (.inr (.inr (12, (some t0))))) (g1 : zl_get ls 1 = some (.inl v1)) (g2 : zl_get ls 2 = some (.inl v2)) (hs : mo_leastTime_24  d t0 v1 v2 s0 M = some so) : Ev zq_T (d + 1) 51 24 ls [.inl s0] M (some (.inl so.1), so.2) := by
  unfold mo_leastTime_24 at hs
  refine e_iK cd_51_24 nl_51 rfl rfl ?_
  intro _ gn kp
  have u1 := kp 0 _ g0 rfl rfl
  have u2 := kp 1 _ g1 rfl rfl
  have u3 := kp 2 _ g2 rfl rfl
  have u4 := gn
  refine e_ild cd_51_26 u4 ?_
  refine k_if hs (fun c5 hs => ?_) (fun c5 hs => ?_)
  · refine e_izJ cd_51_28 rfl c5 ?_
    exact tie_mo_leastTime_63  d   M so _  hs
  · refine e_izN cd_51_28 rfl c5 ?_
    refine e_aldn cd_51_31 u1 ?_
    refine e_ildn cd_51_32 u2 ?_
    refine e_aldn cd_51_33 u1 ?_
    refine e_ildn cd_51_34 u3 ?_
    refine e_const cd_51_35 ci_3 ?_
    obtain ⟨q6, h7, hs⟩ := k_bind hs
    refine e_cvi cd_51_36 kd_51_240 rfl rfl rfl rfl rfl nl_36 rfl rfl (tie_mo_at d t0 v2 3 M _ h7) ?_
    obtain ⟨q8, h9, hs⟩ := k_bind hs
    refine e_cvi cd_51_39 kd_51_245 rfl rfl rfl rfl rfl nl_41 rfl rfl (tie_mo_isNull d t0 v1 q6.1 q6.2 _ h9) ?_
    refine k_if hs (fun c10 hs => ?_) (fun c10 hs => ?_)
    · refine e_izN cd_51_42 rfl (fun q => q c10) ?_
      refine e_const cd_51_45 ci_1 ?_
      refine e_aldn cd_51_46 u1 ?_
      refine e_ildn cd_51_47 u2 ?_
      refine e_aldn cd_51_48 u1 ?_
      refine e_ildn cd_51_49 u3 ?_
      refine e_const cd_51_50 ci_1 ?_
      obtain ⟨q11, h12, hs⟩ := k_bind hs
      refine e_cvi cd_51_51 kd_51_240 rfl rfl rfl rfl rfl nl_36 rfl rfl (tie_mo_at d t0 v2 1 q8.2 _ h12) ?_
      obtain ⟨q13, h14, hs⟩ := k_bind hs
      refine e_cvi cd_51_54 kd_51_242 rfl rfl rfl rfl rfl nl_37 rfl rfl (tie_mo_from d t0 v1 q11.1 q11.2 _ h14) ?_
      refine e_max cd_51_57 kd_51_144 rfl ?_
      refine e_goto cd_51_60 rfl ?_
      exact tie_mo_leastTime_64  d  (if 1 < q13.1 then q13.1 else 1) q13.2 so _  hs
    · refine e_izJ cd_51_42 rfl c10 ?_
      exact tie_mo_leastTime_63  d   q8.2 so _  hs
theorem tie_mo_leastTime_19  (d : Nat)  (t0 : Nat) (v1 : Int32) (v2 : Int32) (M : zM) (so : Int32 × zM) (ls : List (Nat × zV)) (g0 : zl_get ls 0 = some (.inr (.inr (12, (some t0))))) (g1 : zl_get ls 1 = some (.inl v1)) (g2 : zl_get ls 2 = some (.inl v2)) (hs : mo_leastTime_19  d t0 v1 v2 M = some so) : Ev zq_T (d + 1) 51 19 ls [] M (some (.inl so.1), so.2) := by
  unfold mo_leastTime_19 at hs
  refine e_const cd_51_19 ci_1 ?_
  refine e_goto cd_51_20 rfl ?_
  exact tie_mo_leastTime_24  d  t0 v1 v2 1 M so _ g0 g1 g2 hs
theorem tieb_mo_leastTime  (d : Nat)  (a0 : Nat) (a1 : Int32) (a2 : Int32) (a3 : Int32) (a4 : Int32) (M : zM) (so : Int32 × zM) (hs : mo_leastTime_b  d a0 a1 a2 a3 a4 M = some so) : Ev zq_T (d + 1) 51 0 (zl_args 0 [.inr (.inr (12, some a0)), .inl a1, .inl a2, .inl a3, .inl a4]) [] M (some (.inl so.1), so.2) := by
  unfold mo_leastTime_b at hs
  have g0 : zl_get (zl_args 0 [.inr (.inr (12, some a0)), .inl a1, .inl a2, .inl a3, .inl a4]) 0 = some (.inr (.inr (12, (some a0)))) := rfl
  have g1 : zl_get (zl_args 0 [.inr (.inr (12, some a0)), .inl a1, .inl a2, .inl a3, .inl a4]) 1 = some (.inl a1) := rfl
  have g2 : zl_get (zl_args 0 [.inr (.inr (12, some a0)), .inl a1, .inl a2, .inl a3, .inl a4]) 2 = some (.inl a2) := rfl
  have g3 : zl_get (zl_args 0 [.inr (.inr (12, some a0)), .inl a1, .inl a2, .inl a3, .inl a4]) 3 = some (.inl a3) := rfl
  have g4 : zl_get (zl_args 0 [.inr (.inr (12, some a0)), .inl a1, .inl a2, .inl a3, .inl a4]) 4 = some (.inl a4) := rfl
  refine e_aldn cd_51_0 g0 ?_
  refine e_ildn cd_51_1 g2 ?_
  refine e_ildn cd_51_2 g3 ?_
  obtain ⟨q1, h2, hs⟩ := k_bind hs
  refine e_cvi cd_51_3 kd_51_278 rfl rfl rfl rfl rfl nl_50 rfl rfl (tie_mo_isPassed d a0 a2 a3 M _ h2) ?_
  refine k_if hs (fun c3 hs => ?_) (fun c3 hs => ?_)
  · refine e_izN cd_51_6 rfl (fun q => q c3) ?_
    refine e_aldn cd_51_9 g0 ?_
    refine e_ildn cd_51_10 g2 ?_
    refine e_ild cd_51_11 g4 ?_
    obtain ⟨q4, h5, hs⟩ := k_bind hs
    refine e_cvi cd_51_13 kd_51_278 rfl rfl rfl rfl rfl nl_50 rfl rfl (tie_mo_isPassed d a0 a2 a4 q1.2 _ h5) ?_
    refine k_if hs (fun c6 hs => ?_) (fun c6 hs => ?_)
    · refine e_izJ cd_51_16 rfl c6 ?_
      refine e_const cd_51_23 ci_0 ?_
      exact tie_mo_leastTime_24  d  a0 a1 a2 0 q4.2 so _ g0 g1 g2 hs
    · refine e_izN cd_51_16 rfl c6 ?_
      exact tie_mo_leastTime_19  d  a0 a1 a2 q4.2 so _ g0 g1 g2 hs
  · refine e_izJ cd_51_6 rfl c3 ?_
    exact tie_mo_leastTime_19  d  a0 a1 a2 q1.2 so _ g0 g1 g2 hs
theorem tie_mo_leastTime (d : Nat) (a0 : Nat) (a1 : Int32) (a2 : Int32) (a3 : Int32) (a4 : Int32) (M : zM) (so : Int32 × zM) (hs : mo_leastTime d a0 a1 a2 a3 a4 M = some so) : Ev zq_T d 51 0 (zl_args 0 [.inr (.inr (12, some a0)), .inl a1, .inl a2, .inl a3, .inl a4]) [] M (some (.inl so.1), so.2) := by
  cases d with
  | zero => exact nomatch hs
  | succ d => exact tieb_mo_leastTime d a0 a1 a2 a3 a4 M so hs
theorem tie_mo_canRound_59  (d : Nat)  (s0 : Int32) (M : zM) (so : Int32 × zM) (ls : List (Nat × zV))  (hs : mo_canRound_59  d s0 M = some so) : Ev zq_T (d + 1) 52 59 ls [.inl s0] M (some (.inl so.1), so.2) := by
  unfold mo_canRound_59 at hs
  obtain ⟨c1, hs⟩ := z_ite hs
  have e := Option.some.inj hs
  subst e
  exact e_rz cd_52_59 nr_52 c1
theorem tie_mo_canRound_54  (d : Nat)   (M : zM) (so : Int32 × zM) (ls : List (Nat × zV))  (hs : mo_canRound_54  d  M = some so) : Ev zq_T (d + 1) 52 54 ls [] M (some (.inl so.1), so.2) := by
  unfold mo_canRound_54 at hs
  refine e_const cd_52_54 ci_1 ?_
  refine e_goto cd_52_55 rfl ?_
  exact tie_mo_canRound_59  d  1 M so _  hs
theorem tie_mo_canRound_34  (d : Nat)  (t0 : Nat) (v1 : Int32) (v2 : Int32) (v3 : Int32) (v4 : Int32) (v5 : Int32) (M : zM) (so : Int32 × zM) (ls : List (Nat × zV)) (g0 : zl_get ls 0 = some (.inr (.inr (12, (some t0))))) (g1 : zl_get ls 1 = some (.inl v1)) (g2 : zl_get ls 2 = some (.inl v2)) (g3 : zl_get ls 3 = some (.inl v3)) (g4 : zl_get ls 4 = some (.inl v4)) (g5 : zl_get ls 5 = some (.inl v5)) (hs : mo_canRound_34  d t0 v1 v2 v3 v4 v5 M = some so) : Ev zq_T (d + 1) 52 34 ls [] M (some (.inl so.1), so.2) := by
  unfold mo_canRound_34 at hs
  refine e_ild cd_52_34 g5 ?_
  refine e_const cd_52_36 ci_m1 ?_
  refine k_if hs (fun c1 hs => ?_) (fun c1 hs => ?_)
  · refine e_icJ cd_52_37 rfl c1 ?_
    exact tie_mo_canRound_54  d   M so _  hs
  · refine e_icN cd_52_37 rfl c1 ?_
    refine e_aldn cd_52_40 g0 ?_
    refine e_ildn cd_52_41 g1 ?_
    refine e_ildn cd_52_42 g2 ?_
    refine e_ildn cd_52_43 g3 ?_
    refine e_ild cd_52_44 g4 ?_
    obtain ⟨q2, h3, hs⟩ := k_bind hs
    refine e_cvi cd_52_46 kd_52_281 rfl rfl rfl rfl rfl nl_51 rfl rfl (tie_mo_leastTime d t0 v1 v2 v3 v4 M _ h3) ?_
    refine e_ild cd_52_49 g5 ?_
    refine k_if hs (fun c4 hs => ?_) (fun c4 hs => ?_)
    · refine e_icJ cd_52_51 rfl c4 ?_
      refine e_const cd_52_58 ci_0 ?_
      exact tie_mo_canRound_59  d  0 q2.2 so _  hs
    · refine e_icN cd_52_51 rfl c4 ?_
      exact tie_mo_canRound_54  d   q2.2 so _  hs
theorem tieb_mo_canRound  (d : Nat)  (a0 : Nat) (a1 : Int32) (a2 : Int32) (a3 : Int32) (a4 : Int32) (M : zM) (so : Int32 × zM) (hs : mo_canRound_b  d a0 a1 a2 a3 a4 M = some so) : Ev zq_T (d + 1) 52 0 (zl_args 0 [.inr (.inr (12, some a0)), .inl a1, .inl a2, .inl a3, .inl a4]) [] M (some (.inl so.1), so.2) := by
  unfold mo_canRound_b at hs
  have g0 : zl_get (zl_args 0 [.inr (.inr (12, some a0)), .inl a1, .inl a2, .inl a3, .inl a4]) 0 = some (.inr (.inr (12, (some a0)))) := rfl
  have g1 : zl_get (zl_args 0 [.inr (.inr (12, some a0)), .inl a1, .inl a2, .inl a3, .inl a4]) 1 = some (.inl a1) := rfl
  have g2 : zl_get (zl_args 0 [.inr (.inr (12, some a0)), .inl a1, .inl a2, .inl a3, .inl a4]) 2 = some (.inl a2) := rfl
  have g3 : zl_get (zl_args 0 [.inr (.inr (12, some a0)), .inl a1, .inl a2, .inl a3, .inl a4]) 3 = some (.inl a3) := rfl
  have g4 : zl_get (zl_args 0 [.inr (.inr (12, some a0)), .inl a1, .inl a2, .inl a3, .inl a4]) 4 = some (.inl a4) := rfl
  refine e_aldn cd_52_0 g0 ?_
  refine e_ildn cd_52_1 g1 ?_
  refine e_aldn cd_52_2 g0 ?_
  refine e_ildn cd_52_3 g2 ?_
  refine e_const cd_52_4 ci_1 ?_
  obtain ⟨q1, h2, hs⟩ := k_bind hs
  refine e_cvi cd_52_5 kd_52_240 rfl rfl rfl rfl rfl nl_36 rfl rfl (tie_mo_at d a0 a2 1 M _ h2) ?_
  obtain ⟨q3, h4, hs⟩ := k_bind hs
  refine e_cvi cd_52_8 kd_52_275 rfl rfl rfl rfl rfl nl_38 rfl rfl (tie_mo_to d a0 a1 q1.1 q1.2 _ h4) ?_
  refine e_iK cd_52_11 nl_52 rfl rfl ?_
  intro _ gn kp
  have u5 := kp 0 _ g0 rfl rfl
  have u6 := kp 1 _ g1 rfl rfl
  have u7 := kp 2 _ g2 rfl rfl
  have u8 := kp 3 _ g3 rfl rfl
  have u9 := kp 4 _ g4 rfl rfl
  have u10 := gn
  refine e_aldn cd_52_13 u5 ?_
  refine e_getR cd_52_14 fd_52_56 rfl ?_
  refine e_ildn cd_52_17 u8 ?_
  refine k_opt hs (fun _ q => nomatch q) (fun k11 h12 hs => ?_)
  obtain ⟨c13, hs⟩ := z_ite hs
  refine e_iald cd_52_18 rfl h12 c13 ?_
  refine e_ildn cd_52_19 u7 ?_
  refine k_if hs (fun c14 hs => ?_) (fun c14 hs => ?_)
  · refine e_icJ cd_52_20 rfl c14 ?_
    exact tie_mo_canRound_34  d  a0 a1 a2 a3 a4 q3.1 q3.2 so _ u5 u6 u7 u8 u9 u10 hs
  · refine e_icN cd_52_20 rfl c14 ?_
    refine e_aldn cd_52_23 u5 ?_
    refine e_getR cd_52_24 fd_52_56 rfl ?_
    refine e_ild cd_52_27 u9 ?_
    refine k_opt hs (fun _ q => nomatch q) (fun k15 h16 hs => ?_)
    obtain ⟨c17, hs⟩ := z_ite hs
    refine e_iald cd_52_29 rfl h16 c17 ?_
    refine e_ildn cd_52_30 u7 ?_
    refine k_if hs (fun c18 hs => ?_) (fun c18 hs => ?_)
    · refine e_icN cd_52_31 rfl (fun q => q c18) ?_
      exact tie_mo_canRound_34  d  a0 a1 a2 a3 a4 q3.1 q3.2 so _ u5 u6 u7 u8 u9 u10 hs
    · refine e_icJ cd_52_31 rfl c18 ?_
      exact tie_mo_canRound_54  d   q3.2 so _  hs
theorem tie_mo_canRound (d : Nat) (a0 : Nat) (a1 : Int32) (a2 : Int32) (a3 : Int32) (a4 : Int32) (M : zM) (so : Int32 × zM) (hs : mo_canRound d a0 a1 a2 a3 a4 M = some so) : Ev zq_T d 52 0 (zl_args 0 [.inr (.inr (12, some a0)), .inl a1, .inl a2, .inl a3, .inl a4]) [] M (some (.inl so.1), so.2) := by
  cases d with
  | zero => exact nomatch hs
  | succ d => exact tieb_mo_canRound d a0 a1 a2 a3 a4 M so hs
theorem tie_mo_mustBeOver_40  (d : Nat)  (s0 : Int32) (M : zM) (so : Int32 × zM) (ls : List (Nat × zV))  (hs : mo_mustBeOver_40  d s0 M = some so) : Ev zq_T (d + 1) 53 40 ls [.inl s0] M (some (.inl so.1), so.2) := by
  unfold mo_mustBeOver_40 at hs
  obtain ⟨c1, hs⟩ := z_ite hs
  have e := Option.some.inj hs
  subst e
  exact e_rz cd_53_40 nr_53 c1
theorem tie_mo_mustBeOver_39  (d : Nat)   (M : zM) (so : Int32 × zM) (ls : List (Nat × zV))  (hs : mo_mustBeOver_39  d  M = some so) : Ev zq_T (d + 1) 53 39 ls [] M (some (.inl so.1), so.2) := by
  unfold mo_mustBeOver_39 at hs
  refine e_const cd_53_39 ci_0 ?_
  exact tie_mo_mustBeOver_40  d  0 M so _  hs
theorem tie_mo_mustBeOver_26  (d : Nat)  (t0 : Nat) (v1 : Int32) (v3 : Int32) (M : zM) (so : Int32 × zM) (ls : List (Nat × zV)) (g0 : zl_get ls 0 = some (.inr (.inr (12, (some t0))))) (g1 : zl_get ls 1 = some (.inl v1)) (g3 : zl_get ls 3 = some (.inl v3)) (hs : mo_mustBeOver_26  d t0 v1 v3 M = some so) : Ev zq_T (d + 1) 53 26 ls [] M (some (.inl so.1), so.2) := by
  unfold mo_mustBeOver_26 at hs
  refine e_aldn cd_53_26 g0 ?_
  refine e_ildn cd_53_27 g1 ?_
  refine e_ildn cd_53_28 g3 ?_
  obtain ⟨q1, h2, hs⟩ := k_bind hs
  refine e_cvi cd_53_29 kd_53_245 rfl rfl rfl rfl rfl nl_41 rfl rfl (tie_mo_isNull d t0 v1 v3 M _ h2) ?_
  refine k_if hs (fun c3 hs => ?_) (fun c3 hs => ?_)
  · refine e_izN cd_53_32 rfl (fun q => q c3) ?_
    refine e_const cd_53_35 ci_1 ?_
    refine e_goto cd_53_36 rfl ?_
    exact tie_mo_mustBeOver_40  d  1 q1.2 so _  hs
  · refine e_izJ cd_53_32 rfl c3 ?_
    exact tie_mo_mustBeOver_39  d   q1.2 so _  hs
theorem tieb_mo_mustBeOver  (d : Nat)  (a0 : Nat) (a1 : Int32) (a2 : Int32) (a3 : Int32) (a4 : Int32) (a5 : Int32) (a6 : Int32) (M : zM) (so : Int32 × zM) (hs : mo_mustBeOver_b  d a0 a1 a2 a3 a4 a5 a6 M = some so) : Ev zq_T (d + 1) 53 0 (zl_args 0 [.inr (.inr (12, some a0)), .inl a1, .inl a2, .inl a3, .inl a4, .inl a5, .inl a6]) [] M (some (.inl so.1), so.2) := by
  unfold mo_mustBeOver_b at hs
  have g0 : zl_get (zl_args 0 [.inr (.inr (12, some a0)), .inl a1, .inl a2, .inl a3, .inl a4, .inl a5, .inl a6]) 0 = some (.inr (.inr (12, (some a0)))) := rfl
  have g1 : zl_get (zl_args 0 [.inr (.inr (12, some a0)), .inl a1, .inl a2, .inl a3, .inl a4, .inl a5, .inl a6]) 1 = some (.inl a1) := rfl
  have g2 : zl_get (zl_args 0 [.inr (.inr (12, some a0)), .inl a1, .inl a2, .inl a3, .inl a4, .inl a5, .inl a6]) 2 = some (.inl a2) := rfl
  have g3 : zl_get (zl_args 0 [.inr (.inr (12, some a0)), .inl a1, .inl a2, .inl a3, .inl a4, .inl a5, .inl a6]) 3 = some (.inl a3) := rfl
  have g4 : zl_get (zl_args 0 [.inr (.inr (12, some a0)), .inl a1, .inl a2, .inl a3, .inl a4, .inl a5, .inl a6]) 4 = some (.inl a4) := rfl
  have g5 : zl_get (zl_args 0 [.inr (.inr (12, some a0)), .inl a1, .inl a2, .inl a3, .inl a4, .inl a5, .inl a6]) 5 = some (.inl a5) := rfl
  have g6 : zl_get (zl_args 0 [.inr (.inr (12, some a0)), .inl a1, .inl a2, .inl a3, .inl a4, .inl a5, .inl a6]) 6 = some (.inl a6) := rfl
  refine e_ildn cd_53_0 g3 ?_
  refine e_ild cd_53_1 g4 ?_
  refine k_if hs (fun c1 hs => ?_) (fun c1 hs => ?_)
  · refine e_icJ cd_53_3 rfl c1 ?_
    exact tie_mo_mustBeOver_39  d   M so _  hs
  · refine e_icN cd_53_3 rfl c1 ?_
    refine e_aldn cd_53_6 g0 ?_
    refine e_ildn cd_53_7 g2 ?_
    refine e_ild cd_53_8 g5 ?_
    obtain ⟨q2, h3, hs⟩ := k_bind hs
    refine e_cvi cd_53_10 kd_53_278 rfl rfl rfl rfl rfl nl_50 rfl rfl (tie_mo_isPassed d a0 a2 a5 M _ h3) ?_
    refine k_if hs (fun c4 hs => ?_) (fun c4 hs => ?_)
    · refine e_izN cd_53_13 rfl (fun q => q c4) ?_
      refine e_aldn cd_53_16 g0 ?_
      refine e_ildn cd_53_17 g2 ?_
      refine e_ild cd_53_18 g6 ?_
      obtain ⟨q5, h6, hs⟩ := k_bind hs
      refine e_cvi cd_53_20 kd_53_278 rfl rfl rfl rfl rfl nl_50 rfl rfl (tie_mo_isPassed d a0 a2 a6 q2.2 _ h6) ?_
      refine k_if hs (fun c7 hs => ?_) (fun c7 hs => ?_)
      · refine e_izJ cd_53_23 rfl c7 ?_
        exact tie_mo_mustBeOver_39  d   q5.2 so _  hs
      · refine e_izN cd_53_23 rfl c7 ?_
        exact tie_mo_mustBeOver_26  d  a0 a1 a3 q5.2 so _ g0 g1 g3 hs
    · refine e_izJ cd_53_13 rfl c4 ?_
      exact tie_mo_mustBeOver_26  d  a0 a1 a3 q2.2 so _ g0 g1 g3 hs
theorem tie_mo_mustBeOver (d : Nat) (a0 : Nat) (a1 : Int32) (a2 : Int32) (a3 : Int32) (a4 : Int32) (a5 : Int32) (a6 : Int32) (M : zM) (so : Int32 × zM) (hs : mo_mustBeOver d a0 a1 a2 a3 a4 a5 a6 M = some so) : Ev zq_T d 53 0 (zl_args 0 [.inr (.inr (12, some a0)), .inl a1, .inl a2, .inl a3, .inl a4, .inl a5, .inl a6]) [] M (some (.inl so.1), so.2) := by
  cases d with
  | zero => exact nomatch hs
  | succ d => exact tieb_mo_mustBeOver d a0 a1 a2 a3 a4 a5 a6 M so hs
theorem tie_mo_canPart_76  (d : Nat)   (M : zM) (so : Int32 × zM) (ls : List (Nat × zV))  (hs : mo_canPart_76  d  M = some so) : Ev zq_T (d + 1) 54 76 ls [] M (some (.inl so.1), so.2) := by
  unfold mo_canPart_76 at hs
  refine e_const cd_54_76 ci_0 ?_
  have e := Option.some.inj hs
  subst e
  exact e_rz cd_54_77 nr_54 (Or.inl rfl)
theorem tie_mo_canPart_78 (kl8 : Nat → Int32 → Int32 → Int32 → Int32 → Int32 → Int32 → zM → Option (Int32 × zM)) (d : Nat) (hk8 : ∀ (t0 : Nat) (v1 : Int32) (v2 : Int32) (v3 : Int32) (v4 : Int32) (v5 : Int32) (v6 : Int32) (M : zM) (so : Int32 × zM) (ls : List (Nat × zV)), zl_get ls 0 = some (.inr (.inr (12, (some t0)))) → zl_get ls 1 = some (.inl v1) → zl_get ls 2 = some (.inl v2) → zl_get ls 3 = some (.inl v3) → zl_get ls 4 = some (.inl v4) → zl_get ls 5 = some (.inl v5) → zl_get ls 6 = some (.inl v6) → kl8 t0 v1 v2 v3 v4 v5 v6 M = some so → Ev zq_T (d + 1) 54 8 ls [] M (some (.inl so.1), so.2)) (t0 : Nat) (v1 : Int32) (v2 : Int32) (v3 : Int32) (v4 : Int32) (v5 : Int32) (v6 : Int32) (M : zM) (so : Int32 × zM) (ls : List (Nat × zV)) (g0 : zl_get ls 0 = some (.inr (.inr (12, (some t0))))) (g1 : zl_get ls 1 = some (.inl v1)) (g2 : zl_get ls 2 = some (.inl v2)) (g3 : zl_get ls 3 = some (.inl v3)) (g4 : zl_get ls 4 = some (.inl v4)) (g5 : zl_get ls 5 = some (.inl v5)) (g6 : zl_get ls 6 = some (.inl v6)) (hs : mo_canPart_78 kl8 d t0 v1 v2 v3 v4 v5 v6 M = some so) : Ev zq_T (d + 1) 54 78 ls [] M (some (.inl so.1), so.2) := by
  unfold mo_canPart_78 at hs
  refine e_aldn cd_54_78 g0 ?_
  refine e_ild cd_54_79 g6 ?_
  refine e_const cd_54_81 ci_4 ?_
  obtain ⟨q1, h2, hs⟩ := k_bind hs
  refine e_cvi cd_54_82 kd_54_240 rfl rfl rfl rfl rfl nl_36 rfl rfl (tie_mo_at d t0 v6 4 M _ h2) ?_
  refine e_iK cd_54_85 nl_54 rfl rfl ?_
  intro _ gn kp
  have u3 := kp 0 _ g0 rfl rfl
  have u4 := kp 1 _ g1 rfl rfl
  have u5 := kp 2 _ g2 rfl rfl
  have u6 := kp 3 _ g3 rfl rfl
  have u7 := kp 4 _ g4 rfl rfl
  have u8 := kp 5 _ g5 rfl rfl
  have u9 := gn
  refine e_goto cd_54_87 rfl ?_
  exact hk8 t0 v1 v2 v3 v4 v5 q1.1 q1.2 so _ u3 u4 u5 u6 u7 u8 u9 hs
theorem tie_mo_canPart_53 (kl8 : Nat → Int32 → Int32 → Int32 → Int32 → Int32 → Int32 → zM → Option (Int32 × zM)) (d : Nat) (hk8 : ∀ (t0 : Nat) (v1 : Int32) (v2 : Int32) (v3 : Int32) (v4 : Int32) (v5 : Int32) (v6 : Int32) (M : zM) (so : Int32 × zM) (ls : List (Nat × zV)), zl_get ls 0 = some (.inr (.inr (12, (some t0)))) → zl_get ls 1 = some (.inl v1) → zl_get ls 2 = some (.inl v2) → zl_get ls 3 = some (.inl v3) → zl_get ls 4 = some (.inl v4) → zl_get ls 5 = some (.inl v5) → zl_get ls 6 = some (.inl v6) → kl8 t0 v1 v2 v3 v4 v5 v6 M = some so → Ev zq_T (d + 1) 54 8 ls [] M (some (.inl so.1), so.2)) (t0 : Nat) (v1 : Int32) (v2 : Int32) (v3 : Int32) (v4 : Int32) (v5 : Int32) (v6 : Int32) (M : zM) (so : Int32 × zM) (ls : List (Nat × zV)) (g0 : zl_get ls 0 = some (.inr (.inr (12, (some t0))))) (g1 : zl_get ls 1 = some (.inl v1)) (g2 : zl_get ls 2 = some (.inl v2)) (g3 : zl_get ls 3 = some (.inl v3)) (g4 : zl_get ls 4 = some (.inl v4)) (g5 : zl_get ls 5 = some (.inl v5)) (g6 : zl_get ls 6 = some (.inl v6)) (hs : mo_canPart_53 kl8 d t0 v1 v2 v3 v4 v5 v6 M = some so) : Ev zq_T (d + 1) 54 53 ls [] M (some (.inl so.1), so.2) := by
  unfold mo_canPart_53 at hs
  refine e_aldn cd_54_53 g0 ?_
  refine e_getR cd_54_54 fd_54_56 rfl ?_
  refine e_ild cd_54_57 g5 ?_
  refine k_opt hs (fun _ q => nomatch q) (fun k1 h2 hs => ?_)
  obtain ⟨c3, hs⟩ := z_ite hs
  refine e_iald cd_54_59 rfl h2 c3 ?_
  refine e_ildn cd_54_60 g2 ?_
  refine k_if hs (fun c4 hs => ?_) (fun c4 hs => ?_)
  · refine e_icN cd_54_61 rfl (fun q => q c4) ?_
    refine e_aldn cd_54_64 g0 ?_
    refine e_getR cd_54_65 fd_54_59 rfl ?_
    refine e_ild cd_54_68 g5 ?_
    refine k_opt hs (fun _ q => nomatch q) (fun k5 h6 hs => ?_)
    obtain ⟨c7, hs⟩ := z_ite hs
    refine e_iald cd_54_70 rfl h6 c7 ?_
    refine e_ild cd_54_71 g6 ?_
    refine k_if hs (fun c8 hs => ?_) (fun c8 hs => ?_)
    · refine e_icN cd_54_73 rfl (fun q => q c8) ?_
      exact tie_mo_canPart_76  d   M so _  hs
    · refine e_icJ cd_54_73 rfl c8 ?_
      exact tie_mo_canPart_78 kl8 d hk8 t0 v1 v2 v3 v4 v5 v6 M so _ g0 g1 g2 g3 g4 g5 g6 hs
  · refine e_icJ cd_54_61 rfl c4 ?_
    exact tie_mo_canPart_78 kl8 d hk8 t0 v1 v2 v3 v4 v5 v6 M so _ g0 g1 g2 g3 g4 g5 g6 hs
theorem tie_mo_canPart_8  (d : Nat)  : ∀ (fuel : Nat) (t0 : Nat) (v1 : Int32) (v2 : Int32) (v3 : Int32) (v4 : Int32) (v5 : Int32) (v6 : Int32) (M : zM) (so : Int32 × zM) (ls : List (Nat × zV)), zl_get ls 0 = some (.inr (.inr (12, (some t0)))) → zl_get ls 1 = some (.inl v1) → zl_get ls 2 = some (.inl v2) → zl_get ls 3 = some (.inl v3) → zl_get ls 4 = some (.inl v4) → zl_get ls 5 = some (.inl v5) → zl_get ls 6 = some (.inl v6) → mo_canPart_8  d fuel t0 v1 v2 v3 v4 v5 v6 M = some so → Ev zq_T (d + 1) 54 8 ls [] M (some (.inl so.1), so.2) := by
  intro fuel
  induction fuel with
  | zero => intro t0 v1 v2 v3 v4 v5 v6 M so ls g0 g1 g2 g3 g4 g5 g6 hs; exact nomatch hs
  | succ fuel ih =>
    intro t0 v1 v2 v3 v4 v5 v6 M so ls g0 g1 g2 g3 g4 g5 g6 hs
    unfold mo_canPart_8 at hs
    refine e_ild cd_54_8 g6 ?_
    refine e_const cd_54_10 ci_m1 ?_
    refine k_if hs (fun c1 hs => ?_) (fun c1 hs => ?_)
    · refine e_icJ cd_54_11 rfl c1 ?_
      refine e_const cd_54_90 ci_1 ?_
      have e := Option.some.inj hs
      subst e
      exact e_rz cd_54_91 nr_54 (Or.inr rfl)
    · refine e_icN cd_54_11 rfl c1 ?_
      refine e_aldn cd_54_14 g0 ?_
      refine e_ildn cd_54_15 g1 ?_
      refine e_ildn cd_54_16 g2 ?_
      refine e_ild cd_54_17 g6 ?_
      refine e_ildn cd_54_19 g3 ?_
      refine e_ild cd_54_20 g4 ?_
      refine e_ild cd_54_22 g5 ?_
      obtain ⟨q2, h3, hs⟩ := k_bind hs
      refine e_cvi cd_54_24 kd_54_285 rfl rfl rfl rfl rfl nl_53 rfl rfl (tie_mo_mustBeOver d t0 v1 v2 v6 v3 v4 v5 M _ h3) ?_
      refine k_if hs (fun c4 hs => ?_) (fun c4 hs => ?_)
      · refine e_izJ cd_54_27 rfl c4 ?_
        exact tie_mo_canPart_78 (fun p0 p1 p2 p3 p4 p5 p6 m => mo_canPart_8  d fuel p0 p1 p2 p3 p4 p5 p6 m) d ih t0 v1 v2 v3 v4 v5 v6 q2.2 so _ g0 g1 g2 g3 g4 g5 g6 hs
      · refine e_izN cd_54_27 rfl c4 ?_
        refine e_aldn cd_54_30 g0 ?_
        refine e_getR cd_54_31 fd_54_56 rfl ?_
        refine e_ild cd_54_34 g4 ?_
        refine k_opt hs (fun _ q => nomatch q) (fun k5 h6 hs => ?_)
        obtain ⟨c7, hs⟩ := z_ite hs
        refine e_iald cd_54_36 rfl h6 c7 ?_
        refine e_ildn cd_54_37 g2 ?_
        refine k_if hs (fun c8 hs => ?_) (fun c8 hs => ?_)
        · refine e_icN cd_54_38 rfl (fun q => q c8) ?_
          refine e_aldn cd_54_41 g0 ?_
          refine e_getR cd_54_42 fd_54_59 rfl ?_
          refine e_ild cd_54_45 g4 ?_
          refine k_opt hs (fun _ q => nomatch q) (fun k9 h10 hs => ?_)
          obtain ⟨c11, hs⟩ := z_ite hs
          refine e_iald cd_54_47 rfl h10 c11 ?_
          refine e_ild cd_54_48 g6 ?_
          refine k_if hs (fun c12 hs => ?_) (fun c12 hs => ?_)
          · refine e_icJ cd_54_50 rfl c12 ?_
            exact tie_mo_canPart_76  d   q2.2 so _  hs
          · refine e_icN cd_54_50 rfl c12 ?_
            exact tie_mo_canPart_53 (fun p0 p1 p2 p3 p4 p5 p6 m => mo_canPart_8  d fuel p0 p1 p2 p3 p4 p5 p6 m) d ih t0 v1 v2 v3 v4 v5 v6 q2.2 so _ g0 g1 g2 g3 g4 g5 g6 hs
        · refine e_icJ cd_54_38 rfl c8 ?_
          exact tie_mo_canPart_53 (fun p0 p1 p2 p3 p4 p5 p6 m => mo_canPart_8  d fuel p0 p1 p2 p3 p4 p5 p6 m) d ih t0 v1 v2 v3 v4 v5 v6 q2.2 so _ g0 g1 g2 g3 g4 g5 g6 hs
theorem tieb_mo_canPart  (d : Nat)  (a0 : Nat) (a1 : Int32) (a2 : Int32) (a3 : Int32) (a4 : Int32) (a5 : Int32) (M : zM) (so : Int32 × zM) (hs : mo_canPart_b  d a0 a1 a2 a3 a4 a5 M = some so) : Ev zq_T (d + 1) 54 0 (zl_args 0 [.inr (.inr (12, some a0)), .inl a1, .inl a2, .inl a3, .inl a4, .inl a5]) [] M (some (.inl so.1), so.2) := by
  unfold mo_canPart_b at hs
  have g0 : zl_get (zl_args 0 [.inr (.inr (12, some a0)), .inl a1, .inl a2, .inl a3, .inl a4, .inl a5]) 0 = some (.inr (.inr (12, (some a0)))) := rfl
  have g1 : zl_get (zl_args 0 [.inr (.inr (12, some a0)), .inl a1, .inl a2, .inl a3, .inl a4, .inl a5]) 1 = some (.inl a1) := rfl
  have g2 : zl_get (zl_args 0 [.inr (.inr (12, some a0)), .inl a1, .inl a2, .inl a3, .inl a4, .inl a5]) 2 = some (.inl a2) := rfl
  have g3 : zl_get (zl_args 0 [.inr (.inr (12, some a0)), .inl a1, .inl a2, .inl a3, .inl a4, .inl a5]) 3 = some (.inl a3) := rfl
  have g4 : zl_get (zl_args 0 [.inr (.inr (12, some a0)), .inl a1, .inl a2, .inl a3, .inl a4, .inl a5]) 4 = some (.inl a4) := rfl
  have g5 : zl_get (zl_args 0 [.inr (.inr (12, some a0)), .inl a1, .inl a2, .inl a3, .inl a4, .inl a5]) 5 = some (.inl a5) := rfl
  refine e_aldn cd_54_0 g0 ?_
  refine e_ildn cd_54_1 g2 ?_
  refine e_const cd_54_2 ci_3 ?_
  obtain ⟨q1, h2, hs⟩ := k_bind hs
  refine e_cvi cd_54_3 kd_54_240 rfl rfl rfl rfl rfl nl_36 rfl rfl (tie_mo_at d a0 a2 3 M _ h2) ?_
  refine e_iK cd_54_6 nl_54 rfl rfl ?_
  intro _ gn kp
  have u3 := kp 0 _ g0 rfl rfl
  have u4 := kp 1 _ g1 rfl rfl
  have u5 := kp 2 _ g2 rfl rfl
  have u6 := kp 3 _ g3 rfl rfl
  have u7 := kp 4 _ g4 rfl rfl
  have u8 := kp 5 _ g5 rfl rfl
  have u9 := gn
  exact tie_mo_canPart_8  d  zLF a0 a1 a2 a3 a4 a5 q1.1 q1.2 so _ u3 u4 u5 u6 u7 u8 u9 hs
theorem tie_mo_canPart (d : Nat) (a0 : Nat) (a1 : Int32) (a2 : Int32) (a3 : Int32) (a4 : Int32) (a5 : Int32) (M : zM) (so : Int32 × zM) (hs : mo_canPart d a0 a1 a2 a3 a4 a5 M = some so) : Ev zq_T d 54 0 (zl_args 0 [.inr (.inr (12, some a0)), .inl a1, .inl a2, .inl a3, .inl a4, .inl a5]) [] M (some (.inl so.1), so.2) := by
  cases d with
  | zero => exact nomatch hs
  | succ d => exact tieb_mo_canPart d a0 a1 a2 a3 a4 a5 M so hs
theorem tie_mo_areBoth_112 (kl52 : Nat → Int32 → Int32 → Int32 → Int32 → Int32 → zM → Option (Int32 × zM)) (d : Nat) (hk52 : ∀ (t0 : Nat) (v1 : Int32) (v3 : Int32) (v4 : Int32) (v5 : Int32) (v6 : Int32) (M : zM) (so : Int32 × zM) (ls : List (Nat × zV)), zl_get ls 0 = some (.inr (.inr (12, (some t0)))) → zl_get ls 1 = some (.inl v1) → zl_get ls 3 = some (.inl v3) → zl_get ls 4 = some (.inl v4) → zl_get ls 5 = some (.inl v5) → zl_get ls 6 = some (.inl v6) → kl52 t0 v1 v3 v4 v5 v6 M = some so → Ev zq_T (d + 1) 55 52 ls [] M (some (.inl so.1), so.2)) (t0 : Nat) (v1 : Int32) (v3 : Int32) (v4 : Int32) (v6 : Int32) (M : zM) (so : Int32 × zM) (ls : List (Nat × zV)) (g0 : zl_get ls 0 = some (.inr (.inr (12, (some t0))))) (g1 : zl_get ls 1 = some (.inl v1)) (g3 : zl_get ls 3 = some (.inl v3)) (g4 : zl_get ls 4 = some (.inl v4)) (g6 : zl_get ls 6 = some (.inl v6)) (hs : mo_areBoth_112 kl52 d t0 v1 v3 v4 v6 M = some so) : Ev zq_T (d + 1) 55 112 ls [] M (some (.inl so.1), so.2) := by
  unfold mo_areBoth_112 at hs
  refine e_ild cd_55_112 g6 ?_
  refine e_iK cd_55_114 nl_55 rfl rfl ?_
  intro _ gn kp
  have u1 := kp 0 _ g0 rfl rfl
  have u2 := kp 1 _ g1 rfl rfl
  have u3 := kp 3 _ g3 rfl rfl
  have u4 := kp 4 _ g4 rfl rfl
  have u5 := kp 6 _ g6 rfl rfl
  have u6 := gn
  refine e_aldn cd_55_116 u1 ?_
  refine e_ild cd_55_117 u5 ?_
  refine e_const cd_55_119 ci_2 ?_
  obtain ⟨q7, h8, hs⟩ := k_bind hs
  refine e_cvi cd_55_120 kd_55_240 rfl rfl rfl rfl rfl nl_36 rfl rfl (tie_mo_at d t0 v6 2 M _ h8) ?_
  refine e_iK cd_55_123 nl_55 rfl rfl ?_
  intro _ gn kp
  have u9 := kp 0 _ u1 rfl rfl
  have u10 := kp 1 _ u2 rfl rfl
  have u11 := kp 3 _ u3 rfl rfl
  have u12 := kp 4 _ u4 rfl rfl
  have u13 := kp 5 _ u6 rfl rfl
  have u14 := gn
  refine e_goto cd_55_125 rfl ?_
  exact hk52 t0 v1 v3 v4 v6 q7.1 q7.2 so _ u9 u10 u11 u12 u13 u14 hs
theorem tie_mo_areBoth_84 (kl52 : Nat → Int32 → Int32 → Int32 → Int32 → Int32 → zM → Option (Int32 × zM)) (d : Nat) (hk52 : ∀ (t0 : Nat) (v1 : Int32) (v3 : Int32) (v4 : Int32) (v5 : Int32) (v6 : Int32) (M : zM) (so : Int32 × zM) (ls : List (Nat × zV)), zl_get ls 0 = some (.inr (.inr (12, (some t0)))) → zl_get ls 1 = some (.inl v1) → zl_get ls 3 = some (.inl v3) → zl_get ls 4 = some (.inl v4) → zl_get ls 5 = some (.inl v5) → zl_get ls 6 = some (.inl v6) → kl52 t0 v1 v3 v4 v5 v6 M = some so → Ev zq_T (d + 1) 55 52 ls [] M (some (.inl so.1), so.2)) (t0 : Nat) (v1 : Int32) (v3 : Int32) (v4 : Int32) (v5 : Int32) (v6 : Int32) (M : zM) (so : Int32 × zM) (ls : List (Nat × zV)) (g0 : zl_get ls 0 = some (.inr (.inr (12, (some t0))))) (g1 : zl_get ls 1 = some (.inl v1)) (g3 : zl_get ls 3 = some (.inl v3)) (g4 : zl_get ls 4 = some (.inl v4)) (g5 : zl_get ls 5 = some (.inl v5)) (g6 : zl_get ls 6 = some (.inl v6)) (hs : mo_areBoth_84 kl52 d t0 v1 v3 v4 v5 v6 M = some so) : Ev zq_T (d + 1) 55 84 ls [] M (some (.inl so.1), so.2) := by
  unfold mo_areBoth_84 at hs
  refine e_aldn cd_55_84 g0 ?_
  refine e_ild cd_55_85 g6 ?_
  refine e_const cd_55_87 ci_0 ?_
  obtain ⟨q1, h2, hs⟩ := k_bind hs
  refine e_cvi cd_55_88 kd_55_240 rfl rfl rfl rfl rfl nl_36 rfl rfl (tie_mo_at d t0 v6 0 M _ h2) ?_
  refine e_const cd_55_91 ci_4 ?_
  refine k_if hs (fun c3 hs => ?_) (fun c3 hs => ?_)
  · refine e_icN cd_55_92 rfl (fun q => q c3) ?_
    refine e_aldn cd_55_95 g0 ?_
    refine e_ildn cd_55_96 g1 ?_
    refine e_ild cd_55_97 g6 ?_
    refine e_ild cd_55_99 g5 ?_
    refine e_ildn cd_55_101 g3 ?_
    refine e_ild cd_55_102 g4 ?_
    obtain ⟨q4, h5, hs⟩ := k_bind hs
    refine e_cvi cd_55_104 kd_55_296 rfl rfl rfl rfl rfl nl_54 rfl rfl (tie_mo_canPart d t0 v1 v6 v5 v3 v4 q1.2 _ h5) ?_
    refine k_if hs (fun c6 hs => ?_) (fun c6 hs => ?_)
    · refine e_izN cd_55_107 rfl (fun q => q c6) ?_
      refine e_const cd_55_110 ci_0 ?_
      have e := Option.some.inj hs
      subst e
      exact e_rz cd_55_111 nr_55 (Or.inl rfl)
    · refine e_izJ cd_55_107 rfl c6 ?_
      exact tie_mo_areBoth_112 kl52 d hk52 t0 v1 v3 v4 v6 q4.2 so _ g0 g1 g3 g4 g6 hs
  · refine e_icJ cd_55_92 rfl c3 ?_
    exact tie_mo_areBoth_112 kl52 d hk52 t0 v1 v3 v4 v6 q1.2 so _ g0 g1 g3 g4 g6 hs
theorem tie_mo_areBoth_52  (d : Nat)  : ∀ (fuel : Nat) (t0 : Nat) (v1 : Int32) (v3 : Int32) (v4 : Int32) (v5 : Int32) (v6 : Int32) (M : zM) (so : Int32 × zM) (ls : List (Nat × zV)), zl_get ls 0 = some (.inr (.inr (12, (some t0)))) → zl_get ls 1 = some (.inl v1) → zl_get ls 3 = some (.inl v3) → zl_get ls 4 = some (.inl v4) → zl_get ls 5 = some (.inl v5) → zl_get ls 6 = some (.inl v6) → mo_areBoth_52  d fuel t0 v1 v3 v4 v5 v6 M = some so → Ev zq_T (d + 1) 55 52 ls [] M (some (.inl so.1), so.2) := by
  intro fuel
  induction fuel with
  | zero => intro t0 v1 v3 v4 v5 v6 M so ls g0 g1 g3 g4 g5 g6 hs; exact nomatch hs
  | succ fuel ih =>
    intro t0 v1 v3 v4 v5 v6 M so ls g0 g1 g3 g4 g5 g6 hs
    unfold mo_areBoth_52 at hs
    refine e_ild cd_55_52 g6 ?_
    refine e_const cd_55_54 ci_m1 ?_
    refine k_if hs (fun c1 hs => ?_) (fun c1 hs => ?_)
    · refine e_icJ cd_55_55 rfl c1 ?_
      refine e_const cd_55_128 ci_1 ?_
      have e := Option.some.inj hs
      subst e
      exact e_rz cd_55_129 nr_55 (Or.inr rfl)
    · refine e_icN cd_55_55 rfl c1 ?_
      refine e_aldn cd_55_58 g0 ?_
      refine e_ild cd_55_59 g6 ?_
      refine e_const cd_55_61 ci_0 ?_
      obtain ⟨q2, h3, hs⟩ := k_bind hs
      refine e_cvi cd_55_62 kd_55_240 rfl rfl rfl rfl rfl nl_36 rfl rfl (tie_mo_at d t0 v6 0 M _ h3) ?_
      refine e_const cd_55_65 ci_5 ?_
      refine k_if hs (fun c4 hs => ?_) (fun c4 hs => ?_)
      · refine e_icN cd_55_66 rfl (fun q => q c4) ?_
        refine e_aldn cd_55_69 g0 ?_
        refine e_ildn cd_55_70 g1 ?_
        refine e_ild cd_55_71 g6 ?_
        refine e_ildn cd_55_73 g3 ?_
        refine e_ild cd_55_74 g4 ?_
        obtain ⟨q5, h6, hs⟩ := k_bind hs
        refine e_cvi cd_55_76 kd_55_292 rfl rfl rfl rfl rfl nl_52 rfl rfl (tie_mo_canRound d t0 v1 v6 v3 v4 q2.2 _ h6) ?_
        refine k_if hs (fun c7 hs => ?_) (fun c7 hs => ?_)
        · refine e_izN cd_55_79 rfl (fun q => q c7) ?_
          refine e_const cd_55_82 ci_0 ?_
          have e := Option.some.inj hs
          subst e
          exact e_rz cd_55_83 nr_55 (Or.inl rfl)
        · refine e_izJ cd_55_79 rfl c7 ?_
          exact tie_mo_areBoth_84 (fun p0 p1 p2 p3 p4 p5 m => mo_areBoth_52  d fuel p0 p1 p2 p3 p4 p5 m) d ih t0 v1 v3 v4 v5 v6 q5.2 so _ g0 g1 g3 g4 g5 g6 hs
      · refine e_icJ cd_55_66 rfl c4 ?_
        exact tie_mo_areBoth_84 (fun p0 p1 p2 p3 p4 p5 m => mo_areBoth_52  d fuel p0 p1 p2 p3 p4 p5 m) d ih t0 v1 v3 v4 v5 v6 q2.2 so _ g0 g1 g3 g4 g5 g6 hs
theorem tieb_mo_areBoth  (d : Nat)  (a0 : Nat) (a1 : Int32) (a2 : Int32) (a3 : Int32) (a4 : Int32) (M : zM) (so : Int32 × zM) (hs : mo_areBoth_b  d a0 a1 a2 a3 a4 M = some so) : Ev zq_T (d + 1) 55 0 (zl_args 0 [.inr (.inr (12, some a0)), .inl a1, .inl a2, .inl a3, .inl a4]) [] M (some (.inl so.1), so.2) := by
  unfold mo_areBoth_b at hs
  have g0 : zl_get (zl_args 0 [.inr (.inr (12, some a0)), .inl a1, .inl a2, .inl a3, .inl a4]) 0 = some (.inr (.inr (12, (some a0)))) := rfl
  have g1 : zl_get (zl_args 0 [.inr (.inr (12, some a0)), .inl a1, .inl a2, .inl a3, .inl a4]) 1 = some (.inl a1) := rfl
  have g2 : zl_get (zl_args 0 [.inr (.inr (12, some a0)), .inl a1, .inl a2, .inl a3, .inl a4]) 2 = some (.inl a2) := rfl
  have g3 : zl_get (zl_args 0 [.inr (.inr (12, some a0)), .inl a1, .inl a2, .inl a3, .inl a4]) 3 = some (.inl a3) := rfl
  have g4 : zl_get (zl_args 0 [.inr (.inr (12, some a0)), .inl a1, .inl a2, .inl a3, .inl a4]) 4 = some (.inl a4) := rfl
  refine e_aldn cd_55_0 g0 ?_
  refine e_ildn cd_55_1 g1 ?_
  refine e_aldn cd_55_2 g0 ?_
  refine e_getR cd_55_3 fd_55_50 rfl ?_
  refine e_ildn cd_55_6 g3 ?_
  refine k_opt hs (fun _ q => nomatch q) (fun k1 h2 hs => ?_)
  obtain ⟨c3, hs⟩ := z_ite hs
  refine e_iald cd_55_7 rfl h2 c3 ?_
  obtain ⟨q4, h5, hs⟩ := k_bind hs
  refine e_cvi cd_55_8 kd_55_289 rfl rfl rfl rfl rfl nl_39 rfl rfl (tie_mo_letterOf d a0 a1 (zm_I M 20 k1 (a3 : Int32).toNatClampNeg) M _ h5) ?_
  refine e_aldn cd_55_11 g0 ?_
  refine e_ildn cd_55_12 g1 ?_
  refine e_aldn cd_55_13 g0 ?_
  refine e_getR cd_55_14 fd_55_50 rfl ?_
  refine e_ild cd_55_17 g4 ?_
  refine k_opt hs (fun _ q => nomatch q) (fun k6 h7 hs => ?_)
  obtain ⟨c8, hs⟩ := z_ite hs
  refine e_iald cd_55_19 rfl h7 c8 ?_
  obtain ⟨q9, h10, hs⟩ := k_bind hs
  refine e_cvi cd_55_20 kd_55_289 rfl rfl rfl rfl rfl nl_39 rfl rfl (tie_mo_letterOf d a0 a1 (zm_I q4.2 20 k6 (a4 : Int32).toNatClampNeg) q4.2 _ h10) ?_
  refine k_if hs (fun c11 hs => ?_) (fun c11 hs => ?_)
  · refine e_icJ cd_55_23 rfl c11 ?_
    refine e_ildn cd_55_28 g2 ?_
    refine e_const cd_55_29 ci_m1 ?_
    refine k_if hs (fun c12 hs => ?_) (fun c12 hs => ?_)
    · refine e_icN cd_55_30 rfl (fun q => q c12) ?_
      refine e_const cd_55_33 ci_1 ?_
      have e := Option.some.inj hs
      subst e
      exact e_rz cd_55_34 nr_55 (Or.inr rfl)
    · refine e_icJ cd_55_30 rfl c12 ?_
      refine e_aldn cd_55_35 g0 ?_
      refine e_ildn cd_55_36 g1 ?_
      refine e_ildn cd_55_37 g2 ?_
      obtain ⟨q13, h14, hs⟩ := k_bind hs
      refine e_cvi cd_55_38 kd_55_249 rfl rfl rfl rfl rfl nl_40 rfl rfl (tie_mo_leaf d a0 a1 a2 q9.2 _ h14) ?_
      refine e_iK cd_55_41 nl_55 rfl rfl ?_
      intro _ gn kp
      have u15 := kp 0 _ g0 rfl rfl
      have u16 := kp 1 _ g1 rfl rfl
      have u17 := kp 3 _ g3 rfl rfl
      have u18 := kp 4 _ g4 rfl rfl
      have u19 := gn
      refine e_aldn cd_55_43 u15 ?_
      refine e_ild cd_55_44 u19 ?_
      refine e_const cd_55_46 ci_2 ?_
      obtain ⟨q20, h21, hs⟩ := k_bind hs
      refine e_cvi cd_55_47 kd_55_240 rfl rfl rfl rfl rfl nl_36 rfl rfl (tie_mo_at d a0 q13.1 2 q13.2 _ h21) ?_
      refine e_iK cd_55_50 nl_55 rfl rfl ?_
      intro _ gn kp
      have u22 := kp 0 _ u15 rfl rfl
      have u23 := kp 1 _ u16 rfl rfl
      have u24 := kp 3 _ u17 rfl rfl
      have u25 := kp 4 _ u18 rfl rfl
      have u26 := kp 5 _ u19 rfl rfl
      have u27 := gn
      exact tie_mo_areBoth_52  d  zLF a0 a1 a3 a4 q13.1 q20.1 q20.2 so _ u22 u23 u24 u25 u26 u27 hs
  · refine e_icN cd_55_23 rfl c11 ?_
    refine e_const cd_55_26 ci_0 ?_
    have e := Option.some.inj hs
    subst e
    exact e_rz cd_55_27 nr_55 (Or.inl rfl)
theorem tie_mo_areBoth (d : Nat) (a0 : Nat) (a1 : Int32) (a2 : Int32) (a3 : Int32) (a4 : Int32) (M : zM) (so : Int32 × zM) (hs : mo_areBoth d a0 a1 a2 a3 a4 M = some so) : Ev zq_T d 55 0 (zl_args 0 [.inr (.inr (12, some a0)), .inl a1, .inl a2, .inl a3, .inl a4]) [] M (some (.inl so.1), so.2) := by
  cases d with
  | zero => exact nomatch hs
  | succ d => exact tieb_mo_areBoth d a0 a1 a2 a3 a4 M so hs
theorem tie_mo_writes (d : Nat) (a0 : Nat) (a1 : Int32) (M : zM) (so : zM) (hs : mo_writes d a0 a1 M = some so) : Ev zq_T d 56 0 (zl_args 0 [.inr (.inr (12, some a0)), .inl a1]) [] M (none, so) := by
  unfold mo_writes at hs
  have g0 : zl_get (zl_args 0 [.inr (.inr (12, some a0)), .inl a1]) 0 = some (.inr (.inr (12, (some a0)))) := rfl
  have g1 : zl_get (zl_args 0 [.inr (.inr (12, some a0)), .inl a1]) 1 = some (.inl a1) := rfl
  refine e_aldn cd_56_0 g0 ?_
  refine e_getR cd_56_1 fd_56_62 rfl ?_
  refine e_aldn cd_56_4 g0 ?_
  refine e_getI cd_56_5 (Or.inl fd_56_300) rfl ?_
  refine e_ildn cd_56_8 g1 ?_
  refine e_pure cd_56_9 rfl ?_
  refine k_opt hs (fun _ q => nomatch q) (fun k1 h2 hs => ?_)
  obtain ⟨c3, hs⟩ := z_ite hs
  refine k_let hs (fun M4 e5 hs => ?_)
  refine e_bast cd_56_10 rfl h2 c3 e5 ?_
  refine e_aldn cd_56_11 g0 ?_
  refine e_pure cd_56_12 rfl ?_
  refine e_getI cd_56_13 (Or.inl fd_56_300) rfl ?_
  refine e_const cd_56_16 ci_1 ?_
  refine e_pure cd_56_17 rfl ?_
  refine k_let hs (fun M6 e7 hs => ?_)
  refine e_putI cd_56_18 pd_56_300 rfl e7 ?_
  have e := Option.some.inj hs
  subst e
  exact e_rv cd_56_21 nr_56
theorem tie_mo_again_2  (d : Nat)  : ∀ (fuel : Nat) (t0 : Nat) (v2 : Int32) (v3 : Int32) (M : zM) (so : zM) (ls : List (Nat × zV)), zl_get ls 0 = some (.inr (.inr (12, (some t0)))) → zl_get ls 2 = some (.inl v2) → zl_get ls 3 = some (.inl v3) → mo_again_2  d fuel t0 v2 v3 M = some so → Ev zq_T (d + 1) 57 2 ls [] M (none, so) := by
  intro fuel
  induction fuel with
  | zero => intro t0 v2 v3 M so ls g0 g2 g3 hs; exact nomatch hs
  | succ fuel ih =>
    intro t0 v2 v3 M so ls g0 g2 g3 hs
    unfold mo_again_2 at hs
    refine e_ildn cd_57_2 g3 ?_
    refine e_ildn cd_57_3 g2 ?_
    refine k_if hs (fun c1 hs => ?_) (fun c1 hs => ?_)
    · refine e_icJ cd_57_4 rfl c1 ?_
      have e := Option.some.inj hs
      subst e
      exact e_rv cd_57_23 nr_57
    · refine e_icN cd_57_4 rfl c1 ?_
      refine e_aldn cd_57_7 g0 ?_
      refine e_aldn cd_57_8 g0 ?_
      refine e_getR cd_57_9 fd_57_62 rfl ?_
      refine e_ildn cd_57_12 g3 ?_
      refine k_opt hs (fun _ q => nomatch q) (fun k2 h3 hs => ?_)
      obtain ⟨c4, hs⟩ := z_ite hs
      refine e_bald cd_57_13 rfl h3 c4 ?_
      obtain ⟨q5, h6, hs⟩ := k_bind hs
      refine e_cvi cd_57_14 kd_57_303 rfl rfl rfl rfl rfl nl_56 rfl rfl (tie_mo_writes d t0 (zm_I M 22 k2 (v3 : Int32).toNatClampNeg) M _ h6) ?_
      refine k_let hs (fun x7 e8 hs => ?_)
      refine e_incK cd_57_17 nl_57 rfl g3 ci_1 e8 ?_
      intro _ gn kp
      have u9 := kp 0 _ g0 rfl rfl
      have u10 := kp 2 _ g2 rfl rfl
      have u11 := gn
      refine e_goto cd_57_20 rfl ?_
      exact ih t0 v2 x7 q5 so _ u9 u10 u11 hs
theorem tieb_mo_again  (d : Nat)  (a0 : Nat) (a1 : Int32) (a2 : Int32) (M : zM) (so : zM) (hs : mo_again_b  d a0 a1 a2 M = some so) : Ev zq_T (d + 1) 57 0 (zl_args 0 [.inr (.inr (12, some a0)), .inl a1, .inl a2]) [] M (none, so) := by
  unfold mo_again_b at hs
  have g0 : zl_get (zl_args 0 [.inr (.inr (12, some a0)), .inl a1, .inl a2]) 0 = some (.inr (.inr (12, (some a0)))) := rfl
  have g1 : zl_get (zl_args 0 [.inr (.inr (12, some a0)), .inl a1, .inl a2]) 1 = some (.inl a1) := rfl
  have g2 : zl_get (zl_args 0 [.inr (.inr (12, some a0)), .inl a1, .inl a2]) 2 = some (.inl a2) := rfl
  refine e_ildn cd_57_0 g1 ?_
  refine e_iKn cd_57_1 nl_57 rfl rfl ?_
  intro _ gn kp
  have u1 := kp 0 _ g0 rfl rfl
  have u2 := kp 2 _ g2 rfl rfl
  have u3 := gn
  exact tie_mo_again_2  d  zLF a0 a2 a1 M so _ u1 u2 u3 hs
theorem tie_mo_again (d : Nat) (a0 : Nat) (a1 : Int32) (a2 : Int32) (M : zM) (so : zM) (hs : mo_again d a0 a1 a2 M = some so) : Ev zq_T d 57 0 (zl_args 0 [.inr (.inr (12, some a0)), .inl a1, .inl a2]) [] M (none, so) := by
  cases d with
  | zero => exact nomatch hs
  | succ d => exact tieb_mo_again d a0 a1 a2 M so hs
theorem tie_mo_compared_3  (d : Nat)  : ∀ (fuel : Nat) (t0 : Nat) (v1 : Int32) (v2 : Int32) (v3 : Int32) (v4 : Int32) (M : zM) (so : Int32 × zM) (ls : List (Nat × zV)), zl_get ls 0 = some (.inr (.inr (12, (some t0)))) → zl_get ls 1 = some (.inl v1) → zl_get ls 2 = some (.inl v2) → zl_get ls 3 = some (.inl v3) → zl_get ls 4 = some (.inl v4) → mo_compared_3  d fuel t0 v1 v2 v3 v4 M = some so → Ev zq_T d 58 3 ls [] M (some (.inl so.1), so.2) := by
  intro fuel
  induction fuel with
  | zero => intro t0 v1 v2 v3 v4 M so ls g0 g1 g2 g3 g4 hs; exact nomatch hs
  | succ fuel ih =>
    intro t0 v1 v2 v3 v4 M so ls g0 g1 g2 g3 g4 hs
    unfold mo_compared_3 at hs
    refine e_ild cd_58_3 g4 ?_
    refine e_ildn cd_58_5 g3 ?_
    refine k_if hs (fun c1 hs => ?_) (fun c1 hs => ?_)
    · refine e_icJ cd_58_6 rfl c1 ?_
      refine e_const cd_58_56 ci_0 ?_
      have e := Option.some.inj hs
      subst e
      exact e_ri cd_58_57 nr_58
    · refine e_icN cd_58_6 rfl c1 ?_
      refine e_aldn cd_58_9 g0 ?_
      refine e_getR cd_58_10 fd_58_62 rfl ?_
      refine e_ildn cd_58_13 g1 ?_
      refine e_ild cd_58_14 g4 ?_
      refine e_pure cd_58_16 rfl ?_
      refine k_opt hs (fun _ q => nomatch q) (fun k2 h3 hs => ?_)
      obtain ⟨c4, hs⟩ := z_ite hs
      refine e_bald cd_58_17 rfl h3 c4 ?_
      refine e_aldn cd_58_18 g0 ?_
      refine e_getR cd_58_19 fd_58_62 rfl ?_
      refine e_ildn cd_58_22 g2 ?_
      refine e_ild cd_58_23 g4 ?_
      refine e_pure cd_58_25 rfl ?_
      refine k_opt hs (fun _ q => nomatch q) (fun k5 h6 hs => ?_)
      obtain ⟨c7, hs⟩ := z_ite hs
      refine e_bald cd_58_26 rfl h6 c7 ?_
      refine k_if hs (fun c8 hs => ?_) (fun c8 hs => ?_)
      · refine e_icJ cd_58_27 rfl c8 ?_
        refine k_let hs (fun x9 e10 hs => ?_)
        refine e_incK cd_58_50 nl_58 rfl g4 ci_1 e10 ?_
        intro _ gn kp
        have u11 := kp 0 _ g0 rfl rfl
        have u12 := kp 1 _ g1 rfl rfl
        have u13 := kp 2 _ g2 rfl rfl
        have u14 := kp 3 _ g3 rfl rfl
        have u15 := gn
        refine e_goto cd_58_53 rfl ?_
        exact ih t0 v1 v2 v3 x9 M so _ u11 u12 u13 u14 u15 hs
      · refine e_icN cd_58_27 rfl c8 ?_
        refine e_aldn cd_58_30 g0 ?_
        refine e_getR cd_58_31 fd_58_62 rfl ?_
        refine e_ildn cd_58_34 g1 ?_
        refine e_ild cd_58_35 g4 ?_
        refine e_pure cd_58_37 rfl ?_
        refine k_opt hs (fun _ q => nomatch q) (fun k16 h17 hs => ?_)
        obtain ⟨c18, hs⟩ := z_ite hs
        refine e_bald cd_58_38 rfl h17 c18 ?_
        refine e_aldn cd_58_39 g0 ?_
        refine e_getR cd_58_40 fd_58_62 rfl ?_
        refine e_ildn cd_58_43 g2 ?_
        refine e_ild cd_58_44 g4 ?_
        refine e_pure cd_58_46 rfl ?_
        refine k_opt hs (fun _ q => nomatch q) (fun k19 h20 hs => ?_)
        obtain ⟨c21, hs⟩ := z_ite hs
        refine e_bald cd_58_47 rfl h20 c21 ?_
        refine e_pure cd_58_48 rfl ?_
        have e := Option.some.inj hs
        subst e
        exact e_ri cd_58_49 nr_58
theorem tie_mo_compared (d : Nat) (a0 : Nat) (a1 : Int32) (a2 : Int32) (a3 : Int32) (M : zM) (so : Int32 × zM) (hs : mo_compared d a0 a1 a2 a3 M = some so) : Ev zq_T d 58 0 (zl_args 0 [.inr (.inr (12, some a0)), .inl a1, .inl a2, .inl a3]) [] M (some (.inl so.1), so.2) := by
  unfold mo_compared at hs
  have g0 : zl_get (zl_args 0 [.inr (.inr (12, some a0)), .inl a1, .inl a2, .inl a3]) 0 = some (.inr (.inr (12, (some a0)))) := rfl
  have g1 : zl_get (zl_args 0 [.inr (.inr (12, some a0)), .inl a1, .inl a2, .inl a3]) 1 = some (.inl a1) := rfl
  have g2 : zl_get (zl_args 0 [.inr (.inr (12, some a0)), .inl a1, .inl a2, .inl a3]) 2 = some (.inl a2) := rfl
  have g3 : zl_get (zl_args 0 [.inr (.inr (12, some a0)), .inl a1, .inl a2, .inl a3]) 3 = some (.inl a3) := rfl
  refine e_const cd_58_0 ci_0 ?_
  refine e_iK cd_58_1 nl_58 rfl rfl ?_
  intro _ gn kp
  have u1 := kp 0 _ g0 rfl rfl
  have u2 := kp 1 _ g1 rfl rfl
  have u3 := kp 2 _ g2 rfl rfl
  have u4 := kp 3 _ g3 rfl rfl
  have u5 := gn
  exact tie_mo_compared_3  d  zLF a0 a1 a2 a3 0 M so _ u1 u2 u3 u4 u5 hs
theorem tie_mo_keepsLess_93  (d : Nat)  (s0 : Option Nat) (s1 : Int32) (s2 : Int32) (M : zM) (so : zM) (ls : List (Nat × zV))  (hs : mo_keepsLess_93  d s0 s1 s2 M = some so) : Ev zq_T (d + 1) 59 93 ls [.inl s2, .inl s1, .inr (.inr (12, s0))] M (none, so) := by
  unfold mo_keepsLess_93 at hs
  refine e_pure cd_59_93 rfl ?_
  refine k_opt hs (fun _ q => nomatch q) (fun k1 h2 hs => ?_)
  refine k_let hs (fun M3 e4 hs => ?_)
  refine e_putI cd_59_94 pd_59_300 h2 e4 ?_
  have e := Option.some.inj hs
  subst e
  exact e_rv cd_59_97 nr_59
theorem tie_mo_keepsLess_80  (d : Nat)  (t0 : Nat) (v1 : Int32) (v3 : Int32) (v4 : Int32) (v5 : Int32) (M : zM) (so : zM) (ls : List (Nat × zV)) (g0 : zl_get ls 0 = some (.inr (.inr (12, (some t0))))) (g1 : zl_get ls 1 = some (.inl v1)) (g3 : zl_get ls 3 = some (.inl v3)) (g4 : zl_get ls 4 = some (.inl v4)) (g5 : zl_get ls 5 = some (.inl v5)) (hs : mo_keepsLess_80  d t0 v1 v3 v4 v5 M = some so) : Ev zq_T (d + 1) 59 80 ls [] M (none, so) := by
  unfold mo_keepsLess_80 at hs
  refine e_aldn cd_59_80 g0 ?_
  refine e_ildn cd_59_81 g1 ?_
  refine e_ild cd_59_82 g5 ?_
  refine k_if hs (fun c1 hs => ?_) (fun c1 hs => ?_)
  · refine e_izJ cd_59_84 rfl c1 ?_
    refine e_ildn cd_59_92 g3 ?_
    exact tie_mo_keepsLess_93  d  (some t0) v1 v3 M so _  hs
  · refine e_izN cd_59_84 rfl c1 ?_
    refine e_ild cd_59_87 g4 ?_
    refine e_goto cd_59_89 rfl ?_
    exact tie_mo_keepsLess_93  d  (some t0) v1 v4 M so _  hs
theorem tie_mo_keepsLess_49  (d : Nat)  : ∀ (fuel : Nat) (t0 : Nat) (v1 : Int32) (v2 : Int32) (v3 : Int32) (v4 : Int32) (v5 : Int32) (v6 : Int32) (M : zM) (so : zM) (ls : List (Nat × zV)), zl_get ls 0 = some (.inr (.inr (12, (some t0)))) → zl_get ls 1 = some (.inl v1) → zl_get ls 2 = some (.inl v2) → zl_get ls 3 = some (.inl v3) → zl_get ls 4 = some (.inl v4) → zl_get ls 5 = some (.inl v5) → zl_get ls 6 = some (.inl v6) → mo_keepsLess_49  d fuel t0 v1 v2 v3 v4 v5 v6 M = some so → Ev zq_T (d + 1) 59 49 ls [] M (none, so) := by
  intro fuel
  induction fuel with
  | zero => intro t0 v1 v2 v3 v4 v5 v6 M so ls g0 g1 g2 g3 g4 g5 g6 hs; exact nomatch hs
  | succ fuel ih =>
    intro t0 v1 v2 v3 v4 v5 v6 M so ls g0 g1 g2 g3 g4 g5 g6 hs
    unfold mo_keepsLess_49 at hs
    refine e_ild cd_59_49 g6 ?_
    refine e_ild cd_59_51 g4 ?_
    refine k_if hs (fun c1 hs => ?_) (fun c1 hs => ?_)
    · refine e_icJ cd_59_53 rfl c1 ?_
      exact tie_mo_keepsLess_80  d  t0 v1 v3 v4 v5 M so _ g0 g1 g3 g4 g5 hs
    · refine e_icN cd_59_53 rfl c1 ?_
      refine e_aldn cd_59_56 g0 ?_
      refine e_getR cd_59_57 fd_59_62 rfl ?_
      refine e_ildn cd_59_60 g1 ?_
      refine e_ild cd_59_61 g6 ?_
      refine e_pure cd_59_63 rfl ?_
      refine e_aldn cd_59_64 g0 ?_
      refine e_getR cd_59_65 fd_59_62 rfl ?_
      refine e_ildn cd_59_68 g2 ?_
      refine e_ild cd_59_69 g6 ?_
      refine e_pure cd_59_71 rfl ?_
      refine k_opt hs (fun _ q => nomatch q) (fun k2 h3 hs => ?_)
      obtain ⟨c4, hs⟩ := z_ite hs
      refine e_bald cd_59_72 rfl h3 c4 ?_
      obtain ⟨c5, hs⟩ := z_ite hs
      refine k_let hs (fun M6 e7 hs => ?_)
      refine e_bast cd_59_73 rfl h3 c5 e7 ?_
      refine k_let hs (fun x8 e9 hs => ?_)
      refine e_incK cd_59_74 nl_59 rfl g6 ci_1 e9 ?_
      intro _ gn kp
      have u10 := kp 0 _ g0 rfl rfl
      have u11 := kp 1 _ g1 rfl rfl
      have u12 := kp 2 _ g2 rfl rfl
      have u13 := kp 3 _ g3 rfl rfl
      have u14 := kp 4 _ g4 rfl rfl
      have u15 := kp 5 _ g5 rfl rfl
      have u16 := gn
      refine e_goto cd_59_77 rfl ?_
      exact ih t0 v1 v2 v3 v4 v5 x8 M6 so _ u10 u11 u12 u13 u14 u15 u16 hs
theorem tie_mo_keepsLess_39  (d : Nat)  (t0 : Nat) (v1 : Int32) (v2 : Int32) (v3 : Int32) (v4 : Int32) (s0 : Int32) (M : zM) (so : zM) (ls : List (Nat × zV)) (g0 : zl_get ls 0 = some (.inr (.inr (12, (some t0))))) (g1 : zl_get ls 1 = some (.inl v1)) (g2 : zl_get ls 2 = some (.inl v2)) (g3 : zl_get ls 3 = some (.inl v3)) (g4 : zl_get ls 4 = some (.inl v4)) (hs : mo_keepsLess_39  d t0 v1 v2 v3 v4 s0 M = some so) : Ev zq_T (d + 1) 59 39 ls [.inl s0] M (none, so) := by
  unfold mo_keepsLess_39 at hs
  refine e_iK cd_59_39 nl_59 rfl rfl ?_
  intro _ gn kp
  have u1 := kp 0 _ g0 rfl rfl
  have u2 := kp 1 _ g1 rfl rfl
  have u3 := kp 2 _ g2 rfl rfl
  have u4 := kp 3 _ g3 rfl rfl
  have u5 := kp 4 _ g4 rfl rfl
  have u6 := gn
  refine e_ild cd_59_41 u6 ?_
  refine k_if hs (fun c7 hs => ?_) (fun c7 hs => ?_)
  · refine e_izJ cd_59_43 rfl c7 ?_
    exact tie_mo_keepsLess_80  d  t0 v1 v3 v4 s0 M so _ u1 u2 u4 u5 u6 hs
  · refine e_izN cd_59_43 rfl c7 ?_
    refine e_const cd_59_46 ci_0 ?_
    refine e_iK cd_59_47 nl_59 rfl rfl ?_
    intro _ gn kp
    have u8 := kp 0 _ u1 rfl rfl
    have u9 := kp 1 _ u2 rfl rfl
    have u10 := kp 2 _ u3 rfl rfl
    have u11 := kp 3 _ u4 rfl rfl
    have u12 := kp 4 _ u5 rfl rfl
    have u13 := kp 5 _ u6 rfl rfl
    have u14 := gn
    exact tie_mo_keepsLess_49  d  zLF t0 v1 v2 v3 v4 s0 0 M so _ u8 u9 u10 u11 u12 u13 u14 hs
theorem tie_mo_keepsLess_34  (d : Nat)  (t0 : Nat) (v1 : Int32) (v2 : Int32) (v3 : Int32) (v4 : Int32) (M : zM) (so : zM) (ls : List (Nat × zV)) (g0 : zl_get ls 0 = some (.inr (.inr (12, (some t0))))) (g1 : zl_get ls 1 = some (.inl v1)) (g2 : zl_get ls 2 = some (.inl v2)) (g3 : zl_get ls 3 = some (.inl v3)) (g4 : zl_get ls 4 = some (.inl v4)) (hs : mo_keepsLess_34  d t0 v1 v2 v3 v4 M = some so) : Ev zq_T (d + 1) 59 34 ls [] M (none, so) := by
  unfold mo_keepsLess_34 at hs
  refine e_const cd_59_34 ci_1 ?_
  refine e_goto cd_59_35 rfl ?_
  exact tie_mo_keepsLess_39  d  t0 v1 v2 v3 v4 1 M so _ g0 g1 g2 g3 g4 hs
theorem tie_mo_keepsLess_38  (d : Nat)  (t0 : Nat) (v1 : Int32) (v2 : Int32) (v3 : Int32) (v4 : Int32) (M : zM) (so : zM) (ls : List (Nat × zV)) (g0 : zl_get ls 0 = some (.inr (.inr (12, (some t0))))) (g1 : zl_get ls 1 = some (.inl v1)) (g2 : zl_get ls 2 = some (.inl v2)) (g3 : zl_get ls 3 = some (.inl v3)) (g4 : zl_get ls 4 = some (.inl v4)) (hs : mo_keepsLess_38  d t0 v1 v2 v3 v4 M = some so) : Ev zq_T (d + 1) 59 38 ls [] M (none, so) := by
  unfold mo_keepsLess_38 at hs
  refine e_const cd_59_38 ci_0 ?_
  exact tie_mo_keepsLess_39  d  t0 v1 v2 v3 v4 0 M so _ g0 g1 g2 g3 g4 hs
theorem tieb_mo_keepsLess  (d : Nat)  (a0 : Nat) (a1 : Int32) (a2 : Int32) (M : zM) (so : zM) (hs : mo_keepsLess_b  d a0 a1 a2 M = some so) : Ev zq_T (d + 1) 59 0 (zl_args 0 [.inr (.inr (12, some a0)), .inl a1, .inl a2]) [] M (none, so) := by
  unfold mo_keepsLess_b at hs
  have g0 : zl_get (zl_args 0 [.inr (.inr (12, some a0)), .inl a1, .inl a2]) 0 = some (.inr (.inr (12, (some a0)))) := rfl
  have g1 : zl_get (zl_args 0 [.inr (.inr (12, some a0)), .inl a1, .inl a2]) 1 = some (.inl a1) := rfl
  have g2 : zl_get (zl_args 0 [.inr (.inr (12, some a0)), .inl a1, .inl a2]) 2 = some (.inl a2) := rfl
  refine e_ildn cd_59_0 g2 ?_
  refine e_ildn cd_59_1 g1 ?_
  refine e_pure cd_59_2 rfl ?_
  refine k_let hs (fun x1 e2 hs => ?_)
  refine e_iKn cd_59_3 nl_59 rfl e2 ?_
  intro _ gn kp
  have u3 := kp 0 _ g0 rfl rfl
  have u4 := kp 1 _ g1 rfl rfl
  have u5 := kp 2 _ g2 rfl rfl
  have u6 := gn
  refine e_aldn cd_59_4 u3 ?_
  refine e_getI cd_59_5 (Or.inl fd_59_300) rfl ?_
  refine e_ildn cd_59_8 u5 ?_
  refine e_pure cd_59_9 rfl ?_
  refine k_let hs (fun x7 e8 hs => ?_)
  refine e_iK cd_59_10 nl_59 rfl e8 ?_
  intro _ gn kp
  have u9 := kp 0 _ u3 rfl rfl
  have u10 := kp 1 _ u4 rfl rfl
  have u11 := kp 2 _ u5 rfl rfl
  have u12 := kp 3 _ u6 rfl rfl
  have u13 := gn
  refine e_ild cd_59_12 u13 ?_
  refine e_ildn cd_59_14 u12 ?_
  refine k_if hs (fun c14 hs => ?_) (fun c14 hs => ?_)
  · refine e_icJ cd_59_15 rfl c14 ?_
    exact tie_mo_keepsLess_34  d  a0 a1 a2 x1 x7 M so _ u9 u10 u11 u12 u13 hs
  · refine e_icN cd_59_15 rfl c14 ?_
    refine e_ild cd_59_18 u13 ?_
    refine e_ildn cd_59_20 u12 ?_
    refine k_if hs (fun c15 hs => ?_) (fun c15 hs => ?_)
    · refine e_icN cd_59_21 rfl (fun q => q c15) ?_
      refine e_aldn cd_59_24 u9 ?_
      refine e_ildn cd_59_25 u11 ?_
      refine e_ildn cd_59_26 u10 ?_
      refine e_ildn cd_59_27 u12 ?_
      obtain ⟨q16, h17, hs⟩ := k_bind hs
      refine e_cvi cd_59_28 kd_59_306 rfl rfl rfl rfl rfl nl_58 rfl rfl (tie_mo_compared d a0 a2 a1 x1 M _ h17) ?_
      refine k_if hs (fun c18 hs => ?_) (fun c18 hs => ?_)
      · refine e_izJ cd_59_31 rfl c18 ?_
        exact tie_mo_keepsLess_38  d  a0 a1 a2 x1 x7 q16.2 so _ u9 u10 u11 u12 u13 hs
      · refine e_izN cd_59_31 rfl c18 ?_
        exact tie_mo_keepsLess_34  d  a0 a1 a2 x1 x7 q16.2 so _ u9 u10 u11 u12 u13 hs
    · refine e_icJ cd_59_21 rfl c15 ?_
      exact tie_mo_keepsLess_38  d  a0 a1 a2 x1 x7 M so _ u9 u10 u11 u12 u13 hs
theorem tie_mo_keepsLess (d : Nat) (a0 : Nat) (a1 : Int32) (a2 : Int32) (M : zM) (so : zM) (hs : mo_keepsLess d a0 a1 a2 M = some so) : Ev zq_T d 59 0 (zl_args 0 [.inr (.inr (12, some a0)), .inl a1, .inl a2]) [] M (none, so) := by
  cases d with
  | zero => exact nomatch hs
  | succ d => exact tieb_mo_keepsLess d a0 a1 a2 M so hs
theorem tie_mo_isAhead_95  (d : Nat)  (s0 : Int32) (M : zM) (so : Int32 × zM) (ls : List (Nat × zV))  (hs : mo_isAhead_95  d s0 M = some so) : Ev zq_T d 65 95 ls [.inl s0] M (some (.inl so.1), so.2) := by
  unfold mo_isAhead_95 at hs
  obtain ⟨c1, hs⟩ := z_ite hs
  have e := Option.some.inj hs
  subst e
  exact e_rz cd_65_95 nr_65 c1
theorem tie_mo_isAhead_74 (kl3 : Nat → Int32 → Int32 → Int32 → Int32 → Int32 → zM → Option (Int32 × zM)) (d : Nat) (hk3 : ∀ (t0 : Nat) (v1 : Int32) (v2 : Int32) (v3 : Int32) (v4 : Int32) (v5 : Int32) (M : zM) (so : Int32 × zM) (ls : List (Nat × zV)), zl_get ls 0 = some (.inr (.inr (12, (some t0)))) → zl_get ls 1 = some (.inl v1) → zl_get ls 2 = some (.inl v2) → zl_get ls 3 = some (.inl v3) → zl_get ls 4 = some (.inl v4) → zl_get ls 5 = some (.inl v5) → kl3 t0 v1 v2 v3 v4 v5 M = some so → Ev zq_T d 65 3 ls [] M (some (.inl so.1), so.2)) (t0 : Nat) (v1 : Int32) (v2 : Int32) (v3 : Int32) (v4 : Int32) (v5 : Int32) (v6 : Int32) (s0 : Int32) (M : zM) (so : Int32 × zM) (ls : List (Nat × zV)) (g0 : zl_get ls 0 = some (.inr (.inr (12, (some t0))))) (g1 : zl_get ls 1 = some (.inl v1)) (g2 : zl_get ls 2 = some (.inl v2)) (g3 : zl_get ls 3 = some (.inl v3)) (g4 : zl_get ls 4 = some (.inl v4)) (g5 : zl_get ls 5 = some (.inl v5)) (g6 : zl_get ls 6 = some (.inl v6)) (hs : mo_isAhead_74 kl3 d t0 v1 v2 v3 v4 v5 v6 s0 M = some so) : Ev zq_T d 65 74 ls [.inl s0] M (some (.inl so.1), so.2) := by
  unfold mo_isAhead_74 at hs
  refine e_iK cd_65_74 nl_65 rfl rfl ?_
  intro _ gn kp
  have u1 := kp 0 _ g0 rfl rfl
  have u2 := kp 1 _ g1 rfl rfl
  have u3 := kp 2 _ g2 rfl rfl
  have u4 := kp 3 _ g3 rfl rfl
  have u5 := kp 4 _ g4 rfl rfl
  have u6 := kp 5 _ g5 rfl rfl
  have u7 := kp 6 _ g6 rfl rfl
  have u8 := gn
  refine e_ild cd_65_76 u7 ?_
  refine e_ild cd_65_78 u8 ?_
  refine k_if hs (fun c9 hs => ?_) (fun c9 hs => ?_)
  · refine e_icJ cd_65_80 rfl c9 ?_
    refine k_let hs (fun x10 e11 hs => ?_)
    refine e_incK cd_65_96 nl_65 rfl u6 ci_1 e11 ?_
    intro _ gn kp
    have u12 := kp 0 _ u1 rfl rfl
    have u13 := kp 1 _ u2 rfl rfl
    have u14 := kp 2 _ u3 rfl rfl
    have u15 := kp 3 _ u4 rfl rfl
    have u16 := kp 4 _ u5 rfl rfl
    have u17 := gn
    refine e_goto cd_65_99 rfl ?_
    exact hk3 t0 v1 v2 v3 v4 x10 M so _ u12 u13 u14 u15 u16 u17 hs
  · refine e_icN cd_65_80 rfl c9 ?_
    refine e_ild cd_65_83 u7 ?_
    refine e_ild cd_65_85 u8 ?_
    refine k_if hs (fun c18 hs => ?_) (fun c18 hs => ?_)
    · refine e_icJ cd_65_87 rfl c18 ?_
      refine e_const cd_65_94 ci_0 ?_
      exact tie_mo_isAhead_95  d  0 M so _  hs
    · refine e_icN cd_65_87 rfl c18 ?_
      refine e_const cd_65_90 ci_1 ?_
      refine e_goto cd_65_91 rfl ?_
      exact tie_mo_isAhead_95  d  1 M so _  hs
theorem tie_mo_isAhead_41 (kl3 : Nat → Int32 → Int32 → Int32 → Int32 → Int32 → zM → Option (Int32 × zM)) (d : Nat) (hk3 : ∀ (t0 : Nat) (v1 : Int32) (v2 : Int32) (v3 : Int32) (v4 : Int32) (v5 : Int32) (M : zM) (so : Int32 × zM) (ls : List (Nat × zV)), zl_get ls 0 = some (.inr (.inr (12, (some t0)))) → zl_get ls 1 = some (.inl v1) → zl_get ls 2 = some (.inl v2) → zl_get ls 3 = some (.inl v3) → zl_get ls 4 = some (.inl v4) → zl_get ls 5 = some (.inl v5) → kl3 t0 v1 v2 v3 v4 v5 M = some so → Ev zq_T d 65 3 ls [] M (some (.inl so.1), so.2)) (t0 : Nat) (v1 : Int32) (v2 : Int32) (v3 : Int32) (v4 : Int32) (v5 : Int32) (s0 : Int32) (M : zM) (so : Int32 × zM) (ls : List (Nat × zV)) (g0 : zl_get ls 0 = some (.inr (.inr (12, (some t0))))) (g1 : zl_get ls 1 = some (.inl v1)) (g2 : zl_get ls 2 = some (.inl v2)) (g3 : zl_get ls 3 = some (.inl v3)) (g4 : zl_get ls 4 = some (.inl v4)) (g5 : zl_get ls 5 = some (.inl v5)) (hs : mo_isAhead_41 kl3 d t0 v1 v2 v3 v4 v5 s0 M = some so) : Ev zq_T d 65 41 ls [.inl s0] M (some (.inl so.1), so.2) := by
  unfold mo_isAhead_41 at hs
  refine e_iK cd_65_41 nl_65 rfl rfl ?_
  intro _ gn kp
  have u1 := kp 0 _ g0 rfl rfl
  have u2 := kp 1 _ g1 rfl rfl
  have u3 := kp 2 _ g2 rfl rfl
  have u4 := kp 3 _ g3 rfl rfl
  have u5 := kp 4 _ g4 rfl rfl
  have u6 := kp 5 _ g5 rfl rfl
  have u7 := gn
  refine e_ild cd_65_43 u6 ?_
  refine e_ild cd_65_45 u5 ?_
  refine k_if hs (fun c8 hs => ?_) (fun c8 hs => ?_)
  · refine e_icJ cd_65_47 rfl c8 ?_
    refine e_aldn cd_65_62 u1 ?_
    refine e_getR cd_65_63 fd_65_62 rfl ?_
    refine e_ildn cd_65_66 u2 ?_
    refine e_ild cd_65_67 u6 ?_
    refine e_pure cd_65_69 rfl ?_
    refine e_ild cd_65_70 u5 ?_
    refine e_pure cd_65_72 rfl ?_
    refine k_opt hs (fun _ q => nomatch q) (fun k9 h10 hs => ?_)
    obtain ⟨c11, hs⟩ := z_ite hs
    refine e_bald cd_65_73 rfl h10 c11 ?_
    exact tie_mo_isAhead_74 kl3 d hk3 t0 v1 v2 v3 v4 v5 s0 (zm_I M 22 k9 ((v1 + v5) - v4).toNatClampNeg) M so _ u1 u2 u3 u4 u5 u6 u7 hs
  · refine e_icN cd_65_47 rfl c8 ?_
    refine e_aldn cd_65_50 u1 ?_
    refine e_getR cd_65_51 fd_65_62 rfl ?_
    refine e_ildn cd_65_54 u4 ?_
    refine e_ild cd_65_55 u6 ?_
    refine e_pure cd_65_57 rfl ?_
    refine k_opt hs (fun _ q => nomatch q) (fun k12 h13 hs => ?_)
    obtain ⟨c14, hs⟩ := z_ite hs
    refine e_bald cd_65_58 rfl h13 c14 ?_
    refine e_goto cd_65_59 rfl ?_
    exact tie_mo_isAhead_74 kl3 d hk3 t0 v1 v2 v3 v4 v5 s0 (zm_I M 22 k12 (v3 + v5).toNatClampNeg) M so _ u1 u2 u3 u4 u5 u6 u7 hs
theorem tie_mo_isAhead_3  (d : Nat)  : ∀ (fuel : Nat) (t0 : Nat) (v1 : Int32) (v2 : Int32) (v3 : Int32) (v4 : Int32) (v5 : Int32) (M : zM) (so : Int32 × zM) (ls : List (Nat × zV)), zl_get ls 0 = some (.inr (.inr (12, (some t0)))) → zl_get ls 1 = some (.inl v1) → zl_get ls 2 = some (.inl v2) → zl_get ls 3 = some (.inl v3) → zl_get ls 4 = some (.inl v4) → zl_get ls 5 = some (.inl v5) → mo_isAhead_3  d fuel t0 v1 v2 v3 v4 v5 M = some so → Ev zq_T d 65 3 ls [] M (some (.inl so.1), so.2) := by
  intro fuel
  induction fuel with
  | zero => intro t0 v1 v2 v3 v4 v5 M so ls g0 g1 g2 g3 g4 g5 hs; exact nomatch hs
  | succ fuel ih =>
    intro t0 v1 v2 v3 v4 v5 M so ls g0 g1 g2 g3 g4 g5 hs
    unfold mo_isAhead_3 at hs
    refine e_ild cd_65_3 g5 ?_
    refine e_ildn cd_65_5 g2 ?_
    refine e_ild cd_65_6 g4 ?_
    refine e_pure cd_65_8 rfl ?_
    refine k_if hs (fun c1 hs => ?_) (fun c1 hs => ?_)
    · refine e_icJ cd_65_9 rfl c1 ?_
      refine e_const cd_65_102 ci_0 ?_
      have e := Option.some.inj hs
      subst e
      exact e_rz cd_65_103 nr_65 (Or.inl rfl)
    · refine e_icN cd_65_9 rfl c1 ?_
      refine e_ild cd_65_12 g5 ?_
      refine e_ildn cd_65_14 g2 ?_
      refine k_if hs (fun c2 hs => ?_) (fun c2 hs => ?_)
      · refine e_icJ cd_65_15 rfl c2 ?_
        refine e_aldn cd_65_30 g0 ?_
        refine e_getR cd_65_31 fd_65_62 rfl ?_
        refine e_ildn cd_65_34 g3 ?_
        refine e_ild cd_65_35 g5 ?_
        refine e_pure cd_65_37 rfl ?_
        refine e_ildn cd_65_38 g2 ?_
        refine e_pure cd_65_39 rfl ?_
        refine k_opt hs (fun _ q => nomatch q) (fun k3 h4 hs => ?_)
        obtain ⟨c5, hs⟩ := z_ite hs
        refine e_bald cd_65_40 rfl h4 c5 ?_
        exact tie_mo_isAhead_41 (fun p0 p1 p2 p3 p4 p5 m => mo_isAhead_3  d fuel p0 p1 p2 p3 p4 p5 m) d ih t0 v1 v2 v3 v4 v5 (zm_I M 22 k3 ((v3 + v5) - v2).toNatClampNeg) M so _ g0 g1 g2 g3 g4 g5 hs
      · refine e_icN cd_65_15 rfl c2 ?_
        refine e_aldn cd_65_18 g0 ?_
        refine e_getR cd_65_19 fd_65_62 rfl ?_
        refine e_ildn cd_65_22 g1 ?_
        refine e_ild cd_65_23 g5 ?_
        refine e_pure cd_65_25 rfl ?_
        refine k_opt hs (fun _ q => nomatch q) (fun k6 h7 hs => ?_)
        obtain ⟨c8, hs⟩ := z_ite hs
        refine e_bald cd_65_26 rfl h7 c8 ?_
        refine e_goto cd_65_27 rfl ?_
        exact tie_mo_isAhead_41 (fun p0 p1 p2 p3 p4 p5 m => mo_isAhead_3  d fuel p0 p1 p2 p3 p4 p5 m) d ih t0 v1 v2 v3 v4 v5 (zm_I M 22 k6 (v1 + v5).toNatClampNeg) M so _ g0 g1 g2 g3 g4 g5 hs
theorem tie_mo_isAhead (d : Nat) (a0 : Nat) (a1 : Int32) (a2 : Int32) (a3 : Int32) (a4 : Int32) (M : zM) (so : Int32 × zM) (hs : mo_isAhead d a0 a1 a2 a3 a4 M = some so) : Ev zq_T d 65 0 (zl_args 0 [.inr (.inr (12, some a0)), .inl a1, .inl a2, .inl a3, .inl a4]) [] M (some (.inl so.1), so.2) := by
  unfold mo_isAhead at hs
  have g0 : zl_get (zl_args 0 [.inr (.inr (12, some a0)), .inl a1, .inl a2, .inl a3, .inl a4]) 0 = some (.inr (.inr (12, (some a0)))) := rfl
  have g1 : zl_get (zl_args 0 [.inr (.inr (12, some a0)), .inl a1, .inl a2, .inl a3, .inl a4]) 1 = some (.inl a1) := rfl
  have g2 : zl_get (zl_args 0 [.inr (.inr (12, some a0)), .inl a1, .inl a2, .inl a3, .inl a4]) 2 = some (.inl a2) := rfl
  have g3 : zl_get (zl_args 0 [.inr (.inr (12, some a0)), .inl a1, .inl a2, .inl a3, .inl a4]) 3 = some (.inl a3) := rfl
  have g4 : zl_get (zl_args 0 [.inr (.inr (12, some a0)), .inl a1, .inl a2, .inl a3, .inl a4]) 4 = some (.inl a4) := rfl
  refine e_const cd_65_0 ci_0 ?_
  refine e_iK cd_65_1 nl_65 rfl rfl ?_
  intro _ gn kp
  have u1 := kp 0 _ g0 rfl rfl
  have u2 := kp 1 _ g1 rfl rfl
  have u3 := kp 2 _ g2 rfl rfl
  have u4 := kp 3 _ g3 rfl rfl
  have u5 := kp 4 _ g4 rfl rfl
  have u6 := gn
  exact tie_mo_isAhead_3  d  zLF a0 a1 a2 a3 a4 0 M so _ u1 u2 u3 u4 u5 u6 hs
theorem tie_mo_shortest_111 (r_mo_shortest : Nat → Int32 → Int32 → Int32 → zM → Option (Int32 × zM)) (r_mo_shortestCount : Nat → Int32 → Int32 → zM → Option (Int32 × zM)) (r_mo_least : Nat → Int32 → Int32 → Int32 → zM → Option (Int32 × zM)) (r_mo_all : Nat → Int32 → Int32 → zM → Option (Int32 × zM)) (r_mo_some : Nat → Int32 → Int32 → Int32 → Int32 → Int32 → zM → Option (Int32 × zM)) (d : Nat) (hr_mo_shortest : ∀ a0 a1 a2 a3 M so, r_mo_shortest a0 a1 a2 a3 M = some so → Ev zq_T d 60 0 (zl_args 0 [.inr (.inr (12, some a0)), .inl a1, .inl a2, .inl a3]) [] M (some (.inl so.1), so.2)) (hr_mo_shortestCount : ∀ a0 a1 a2 M so, r_mo_shortestCount a0 a1 a2 M = some so → Ev zq_T d 61 0 (zl_args 0 [.inr (.inr (12, some a0)), .inl a1, .inl a2]) [] M (some (.inl so.1), so.2)) (hr_mo_least : ∀ a0 a1 a2 a3 M so, r_mo_least a0 a1 a2 a3 M = some so → Ev zq_T d 62 0 (zl_args 0 [.inr (.inr (12, some a0)), .inl a1, .inl a2, .inl a3]) [] M (some (.inl so.1), so.2)) (hr_mo_all : ∀ a0 a1 a2 M so, r_mo_all a0 a1 a2 M = some so → Ev zq_T d 63 0 (zl_args 0 [.inr (.inr (12, some a0)), .inl a1, .inl a2]) [] M (some (.inl so.1), so.2)) (hr_mo_some : ∀ a0 a1 a2 a3 a4 a5 M so, r_mo_some a0 a1 a2 a3 a4 a5 M = some so → Ev zq_T d 64 0 (zl_args 0 [.inr (.inr (12, some a0)), .inl a1, .inl a2, .inl a3, .inl a4, .inl a5]) [] M (some (.inl so.1), so.2)) (s0 : Int32) (M : zM) (so : Int32 × zM) (ls : List (Nat × zV))  (hs : mo_shortest_111 r_mo_shortest r_mo_shortestCount r_mo_least r_mo_all r_mo_some d s0 M = some so) : Ev zq_T (d + 1) 60 111 ls [.inl s0] M (some (.inl so.1), so.2) := by
  unfold mo_shortest_111 at hs
  obtain ⟨c1, hs⟩ := z_ite hs
  have e := Option.some.inj hs
  subst e
  exact e_rz cd_60_111 nr_60 c1
set_option maxRecDepth 100000 in
theorem tie_mo_shortest_15 (r_mo_shortest : Nat → Int32 → Int32 → Int32 → zM → Option (Int32 × zM)) (r_mo_shortestCount : Nat → Int32 → Int32 → zM → Option (Int32 × zM)) (r_mo_least : Nat → Int32 → Int32 → Int32 → zM → Option (Int32 × zM)) (r_mo_all : Nat → Int32 → Int32 → zM → Option (Int32 × zM)) (r_mo_some : Nat → Int32 → Int32 → Int32 → Int32 → Int32 → zM → Option (Int32 × zM)) (d : Nat) (hr_mo_shortest : ∀ a0 a1 a2 a3 M so, r_mo_shortest a0 a1 a2 a3 M = some so → Ev zq_T d 60 0 (zl_args 0 [.inr (.inr (12, some a0)), .inl a1, .inl a2, .inl a3]) [] M (some (.inl so.1), so.2)) (hr_mo_shortestCount : ∀ a0 a1 a2 M so, r_mo_shortestCount a0 a1 a2 M = some so → Ev zq_T d 61 0 (zl_args 0 [.inr (.inr (12, some a0)), .inl a1, .inl a2]) [] M (some (.inl so.1), so.2)) (hr_mo_least : ∀ a0 a1 a2 a3 M so, r_mo_least a0 a1 a2 a3 M = some so → Ev zq_T d 62 0 (zl_args 0 [.inr (.inr (12, some a0)), .inl a1, .inl a2, .inl a3]) [] M (some (.inl so.1), so.2)) (hr_mo_all : ∀ a0 a1 a2 M so, r_mo_all a0 a1 a2 M = some so → Ev zq_T d 63 0 (zl_args 0 [.inr (.inr (12, some a0)), .inl a1, .inl a2]) [] M (some (.inl so.1), so.2)) (hr_mo_some : ∀ a0 a1 a2 a3 a4 a5 M so, r_mo_some a0 a1 a2 a3 a4 a5 M = some so → Ev zq_T d 64 0 (zl_args 0 [.inr (.inr (12, some a0)), .inl a1, .inl a2, .inl a3, .inl a4, .inl a5]) [] M (some (.inl so.1), so.2)) (t0 : Nat) (v1 : Int32) (v2 : Int32) (v3 : Int32) (M : zM) (so : Int32 × zM) (ls : List (Nat × zV)) (g0 : zl_get ls 0 = some (.inr (.inr (12, (some t0))))) (g1 : zl_get ls 1 = some (.inl v1)) (g2 : zl_get ls 2 = some (.inl v2)) (g3 : zl_get ls 3 = some (.inl v3)) (hs : mo_shortest_15 r_mo_shortest r_mo_shortestCount r_mo_least r_mo_all r_mo_some d t0 v1 v2 v3 M = some so) : Ev zq_T (d + 1) 60 15 ls [] M (some (.inl so.1), so.2) := by
  unfold mo_shortest_15 at hs
  refine e_aldn cd_60_15 g0 ?_
  refine e_ildn cd_60_16 g2 ?_
  refine e_const cd_60_17 ci_0 ?_
  obtain ⟨q1, h2, hs⟩ := k_bind hs
  refine e_cvi cd_60_18 kd_60_240 rfl rfl rfl rfl rfl nl_36 rfl rfl (tie_mo_at d t0 v2 0 M _ h2) ?_
  refine k_if hs (fun c3 hs => ?_) (fun c3 hs => ?_)
  · refine e_tab cd_60_21 (by decide) (fun f => (e_tb1 c3 rfl f)) ?_
    refine e_aldn cd_60_60 g0 ?_
    refine e_aldn cd_60_61 g0 ?_
    refine e_ildn cd_60_62 g1 ?_
    refine e_aldn cd_60_63 g0 ?_
    refine e_ildn cd_60_64 g2 ?_
    refine e_const cd_60_65 ci_1 ?_
    obtain ⟨q9, h10, hs⟩ := k_bind hs
    refine e_cvi cd_60_66 kd_60_240 rfl rfl rfl rfl rfl nl_36 rfl rfl (tie_mo_at d t0 v2 1 q1.2 _ h10) ?_
    obtain ⟨q11, h12, hs⟩ := k_bind hs
    refine e_cvi cd_60_69 kd_60_289 rfl rfl rfl rfl rfl nl_39 rfl rfl (tie_mo_letterOf d t0 v1 q9.1 q9.2 _ h12) ?_
    obtain ⟨q13, h14, hs⟩ := k_bind hs
    refine e_cvi cd_60_72 kd_60_303 rfl rfl rfl rfl rfl nl_56 rfl rfl (tie_mo_writes d t0 q11.1 q11.2 _ h14) ?_
    refine e_const cd_60_75 ci_1 ?_
    have e := Option.some.inj hs
    subst e
    exact e_rz cd_60_76 nr_60 (Or.inr rfl)
  · refine k_if hs (fun c4 hs => ?_) (fun c4 hs => ?_)
    · refine e_tab cd_60_21 (by decide) (fun f => (e_tb0 c3 f (e_tb1 c4 rfl f))) ?_
      refine e_const cd_60_77 ci_0 ?_
      have e := Option.some.inj hs
      subst e
      exact e_rz cd_60_78 nr_60 (Or.inl rfl)
    · refine k_if hs (fun c5 hs => ?_) (fun c5 hs => ?_)
      · refine e_tab cd_60_21 (by decide) (fun f => (e_tb0 c3 f (e_tb0 c4 f (e_tb1 c5 rfl f)))) ?_
        refine e_aldn cd_60_86 g0 ?_
        refine e_ildn cd_60_87 g1 ?_
        refine e_ildn cd_60_88 g2 ?_
        obtain ⟨q15, h16, hs⟩ := k_bind hs
        refine e_cvi cd_60_89 kd_60_245 rfl rfl rfl rfl rfl nl_41 rfl rfl (tie_mo_isNull d t0 v1 v2 q1.2 _ h16) ?_
        refine k_if hs (fun c17 hs => ?_) (fun c17 hs => ?_)
        · refine e_izJ cd_60_92 rfl c17 ?_
          refine e_aldn cd_60_105 g0 ?_
          refine e_ildn cd_60_106 g1 ?_
          refine e_ildn cd_60_107 g2 ?_
          obtain ⟨q18, h19, hs⟩ := k_bind hs
          refine e_cvi cd_60_108 kd_60_316 rfl rfl rfl rfl rfl nl_63 rfl rfl (hr_mo_all t0 v1 v2 q15.2 _ h19) ?_
          exact tie_mo_shortest_111 r_mo_shortest r_mo_shortestCount r_mo_least r_mo_all r_mo_some d hr_mo_shortest hr_mo_shortestCount hr_mo_least hr_mo_all hr_mo_some q18.1 q18.2 so _  hs
        · refine e_izN cd_60_92 rfl c17 ?_
          refine e_aldn cd_60_95 g0 ?_
          refine e_ildn cd_60_96 g1 ?_
          refine e_ildn cd_60_97 g2 ?_
          refine e_const cd_60_98 ci_1 ?_
          obtain ⟨q20, h21, hs⟩ := k_bind hs
          refine e_cvi cd_60_99 kd_60_312 rfl rfl rfl rfl rfl nl_62 rfl rfl (hr_mo_least t0 v1 v2 1 q15.2 _ h21) ?_
          refine e_goto cd_60_102 rfl ?_
          exact tie_mo_shortest_111 r_mo_shortest r_mo_shortestCount r_mo_least r_mo_all r_mo_some d hr_mo_shortest hr_mo_shortestCount hr_mo_least hr_mo_all hr_mo_some q20.1 q20.2 so _  hs
      · refine k_if hs (fun c6 hs => ?_) (fun c6 hs => ?_)
        · refine e_tab cd_60_21 (by decide) (fun f => (e_tb0 c3 f (e_tb0 c4 f (e_tb0 c5 f (e_tb1 c6 rfl f))))) ?_
          refine e_aldn cd_60_112 g0 ?_
          refine e_ildn cd_60_113 g1 ?_
          refine e_ildn cd_60_114 g2 ?_
          refine e_ildn cd_60_115 g3 ?_
          obtain ⟨q22, h23, hs⟩ := k_bind hs
          refine e_cvi cd_60_116 kd_60_312 rfl rfl rfl rfl rfl nl_62 rfl rfl (hr_mo_least t0 v1 v2 v3 q1.2 _ h23) ?_
          obtain ⟨c24, hs⟩ := z_ite hs
          have e := Option.some.inj hs
          subst e
          exact e_rz cd_60_119 nr_60 c24
        · refine k_if hs (fun c7 hs => ?_) (fun c7 hs => ?_)
          · refine e_tab cd_60_21 (by decide) (fun f => (e_tb0 c3 f (e_tb0 c4 f (e_tb0 c5 f (e_tb0 c6 f (e_tb1 c7 rfl f)))))) ?_
            refine e_aldn cd_60_86 g0 ?_
            refine e_ildn cd_60_87 g1 ?_
            refine e_ildn cd_60_88 g2 ?_
            obtain ⟨q25, h26, hs⟩ := k_bind hs
            refine e_cvi cd_60_89 kd_60_245 rfl rfl rfl rfl rfl nl_41 rfl rfl (tie_mo_isNull d t0 v1 v2 q1.2 _ h26) ?_
            refine k_if hs (fun c27 hs => ?_) (fun c27 hs => ?_)
            · refine e_izJ cd_60_92 rfl c27 ?_
              refine e_aldn cd_60_105 g0 ?_
              refine e_ildn cd_60_106 g1 ?_
              refine e_ildn cd_60_107 g2 ?_
              obtain ⟨q28, h29, hs⟩ := k_bind hs
              refine e_cvi cd_60_108 kd_60_316 rfl rfl rfl rfl rfl nl_63 rfl rfl (hr_mo_all t0 v1 v2 q25.2 _ h29) ?_
              exact tie_mo_shortest_111 r_mo_shortest r_mo_shortestCount r_mo_least r_mo_all r_mo_some d hr_mo_shortest hr_mo_shortestCount hr_mo_least hr_mo_all hr_mo_some q28.1 q28.2 so _  hs
            · refine e_izN cd_60_92 rfl c27 ?_
              refine e_aldn cd_60_95 g0 ?_
              refine e_ildn cd_60_96 g1 ?_
              refine e_ildn cd_60_97 g2 ?_
              refine e_const cd_60_98 ci_1 ?_
              obtain ⟨q30, h31, hs⟩ := k_bind hs
              refine e_cvi cd_60_99 kd_60_312 rfl rfl rfl rfl rfl nl_62 rfl rfl (hr_mo_least t0 v1 v2 1 q25.2 _ h31) ?_
              refine e_goto cd_60_102 rfl ?_
              exact tie_mo_shortest_111 r_mo_shortest r_mo_shortestCount r_mo_least r_mo_all r_mo_some d hr_mo_shortest hr_mo_shortestCount hr_mo_least hr_mo_all hr_mo_some q30.1 q30.2 so _  hs
          · refine k_if hs (fun c8 hs => ?_) (fun c8 hs => ?_)
            · refine e_tab cd_60_21 (by decide) (fun f => (e_tb0 c3 f (e_tb0 c4 f (e_tb0 c5 f (e_tb0 c6 f (e_tb0 c7 f (e_tb1 c8 rfl f))))))) ?_
              refine e_aldn cd_60_79 g0 ?_
              refine e_ildn cd_60_80 g1 ?_
              refine e_ildn cd_60_81 g2 ?_
              obtain ⟨q32, h33, hs⟩ := k_bind hs
              refine e_cvi cd_60_82 kd_60_309 rfl rfl rfl rfl rfl nl_61 rfl rfl (hr_mo_shortestCount t0 v1 v2 q1.2 _ h33) ?_
              obtain ⟨c34, hs⟩ := z_ite hs
              have e := Option.some.inj hs
              subst e
              exact e_rz cd_60_85 nr_60 c34
            · refine e_tab cd_60_21 (by decide) (fun f => (e_tb0 c3 f (e_tb0 c4 f (e_tb0 c5 f (e_tb0 c6 f (e_tb0 c7 f (e_tb0 c8 f (e_tbd rfl f)))))))) ?_
              refine e_aldn cd_60_112 g0 ?_
              refine e_ildn cd_60_113 g1 ?_
              refine e_ildn cd_60_114 g2 ?_
              refine e_ildn cd_60_115 g3 ?_
              obtain ⟨q35, h36, hs⟩ := k_bind hs
              refine e_cvi cd_60_116 kd_60_312 rfl rfl rfl rfl rfl nl_62 rfl rfl (hr_mo_least t0 v1 v2 v3 q1.2 _ h36) ?_
              obtain ⟨c37, hs⟩ := z_ite hs
              have e := Option.some.inj hs
              subst e
              exact e_rz cd_60_119 nr_60 c37
theorem tieb_mo_shortest (r_mo_shortest : Nat → Int32 → Int32 → Int32 → zM → Option (Int32 × zM)) (r_mo_shortestCount : Nat → Int32 → Int32 → zM → Option (Int32 × zM)) (r_mo_least : Nat → Int32 → Int32 → Int32 → zM → Option (Int32 × zM)) (r_mo_all : Nat → Int32 → Int32 → zM → Option (Int32 × zM)) (r_mo_some : Nat → Int32 → Int32 → Int32 → Int32 → Int32 → zM → Option (Int32 × zM)) (d : Nat) (hr_mo_shortest : ∀ a0 a1 a2 a3 M so, r_mo_shortest a0 a1 a2 a3 M = some so → Ev zq_T d 60 0 (zl_args 0 [.inr (.inr (12, some a0)), .inl a1, .inl a2, .inl a3]) [] M (some (.inl so.1), so.2)) (hr_mo_shortestCount : ∀ a0 a1 a2 M so, r_mo_shortestCount a0 a1 a2 M = some so → Ev zq_T d 61 0 (zl_args 0 [.inr (.inr (12, some a0)), .inl a1, .inl a2]) [] M (some (.inl so.1), so.2)) (hr_mo_least : ∀ a0 a1 a2 a3 M so, r_mo_least a0 a1 a2 a3 M = some so → Ev zq_T d 62 0 (zl_args 0 [.inr (.inr (12, some a0)), .inl a1, .inl a2, .inl a3]) [] M (some (.inl so.1), so.2)) (hr_mo_all : ∀ a0 a1 a2 M so, r_mo_all a0 a1 a2 M = some so → Ev zq_T d 63 0 (zl_args 0 [.inr (.inr (12, some a0)), .inl a1, .inl a2]) [] M (some (.inl so.1), so.2)) (hr_mo_some : ∀ a0 a1 a2 a3 a4 a5 M so, r_mo_some a0 a1 a2 a3 a4 a5 M = some so → Ev zq_T d 64 0 (zl_args 0 [.inr (.inr (12, some a0)), .inl a1, .inl a2, .inl a3, .inl a4, .inl a5]) [] M (some (.inl so.1), so.2)) (a0 : Nat) (a1 : Int32) (a2 : Int32) (a3 : Int32) (M : zM) (so : Int32 × zM) (hs : mo_shortest_b r_mo_shortest r_mo_shortestCount r_mo_least r_mo_all r_mo_some d a0 a1 a2 a3 M = some so) : Ev zq_T (d + 1) 60 0 (zl_args 0 [.inr (.inr (12, some a0)), .inl a1, .inl a2, .inl a3]) [] M (some (.inl so.1), so.2) := by
  unfold mo_shortest_b at hs
  have g0 : zl_get (zl_args 0 [.inr (.inr (12, some a0)), .inl a1, .inl a2, .inl a3]) 0 = some (.inr (.inr (12, (some a0)))) := rfl
  have g1 : zl_get (zl_args 0 [.inr (.inr (12, some a0)), .inl a1, .inl a2, .inl a3]) 1 = some (.inl a1) := rfl
  have g2 : zl_get (zl_args 0 [.inr (.inr (12, some a0)), .inl a1, .inl a2, .inl a3]) 2 = some (.inl a2) := rfl
  have g3 : zl_get (zl_args 0 [.inr (.inr (12, some a0)), .inl a1, .inl a2, .inl a3]) 3 = some (.inl a3) := rfl
  refine e_ildn cd_60_0 g3 ?_
  refine k_if hs (fun c1 hs => ?_) (fun c1 hs => ?_)
  · refine e_izN cd_60_1 rfl (fun q => q c1) ?_
    refine e_aldn cd_60_4 g0 ?_
    refine e_ildn cd_60_5 g1 ?_
    refine e_ildn cd_60_6 g2 ?_
    obtain ⟨q2, h3, hs⟩ := k_bind hs
    refine e_cvi cd_60_7 kd_60_245 rfl rfl rfl rfl rfl nl_41 rfl rfl (tie_mo_isNull d a0 a1 a2 M _ h3) ?_
    refine k_if hs (fun c4 hs => ?_) (fun c4 hs => ?_)
    · refine e_izJ cd_60_10 rfl c4 ?_
      exact tie_mo_shortest_15 r_mo_shortest r_mo_shortestCount r_mo_least r_mo_all r_mo_some d hr_mo_shortest hr_mo_shortestCount hr_mo_least hr_mo_all hr_mo_some a0 a1 a2 a3 q2.2 so _ g0 g1 g2 g3 hs
    · refine e_izN cd_60_10 rfl c4 ?_
      refine e_const cd_60_13 ci_1 ?_
      have e := Option.some.inj hs
      subst e
      exact e_rz cd_60_14 nr_60 (Or.inr rfl)
  · refine e_izJ cd_60_1 rfl c1 ?_
    exact tie_mo_shortest_15 r_mo_shortest r_mo_shortestCount r_mo_least r_mo_all r_mo_some d hr_mo_shortest hr_mo_shortestCount hr_mo_least hr_mo_all hr_mo_some a0 a1 a2 a3 M so _ g0 g1 g2 g3 hs
theorem tie_mo_shortestCount_66 (r_mo_shortest : Nat → Int32 → Int32 → Int32 → zM → Option (Int32 × zM)) (r_mo_shortestCount : Nat → Int32 → Int32 → zM → Option (Int32 × zM)) (r_mo_least : Nat → Int32 → Int32 → Int32 → zM → Option (Int32 × zM)) (r_mo_all : Nat → Int32 → Int32 → zM → Option (Int32 × zM)) (r_mo_some : Nat → Int32 → Int32 → Int32 → Int32 → Int32 → zM → Option (Int32 × zM)) (d : Nat) (hr_mo_shortest : ∀ a0 a1 a2 a3 M so, r_mo_shortest a0 a1 a2 a3 M = some so → Ev zq_T d 60 0 (zl_args 0 [.inr (.inr (12, some a0)), .inl a1, .inl a2, .inl a3]) [] M (some (.inl so.1), so.2)) (hr_mo_shortestCount : ∀ a0 a1 a2 M so, r_mo_shortestCount a0 a1 a2 M = some so → Ev zq_T d 61 0 (zl_args 0 [.inr (.inr (12, some a0)), .inl a1, .inl a2]) [] M (some (.inl so.1), so.2)) (hr_mo_least : ∀ a0 a1 a2 a3 M so, r_mo_least a0 a1 a2 a3 M = some so → Ev zq_T d 62 0 (zl_args 0 [.inr (.inr (12, some a0)), .inl a1, .inl a2, .inl a3]) [] M (some (.inl so.1), so.2)) (hr_mo_all : ∀ a0 a1 a2 M so, r_mo_all a0 a1 a2 M = some so → Ev zq_T d 63 0 (zl_args 0 [.inr (.inr (12, some a0)), .inl a1, .inl a2]) [] M (some (.inl so.1), so.2)) (hr_mo_some : ∀ a0 a1 a2 a3 a4 a5 M so, r_mo_some a0 a1 a2 a3 a4 a5 M = some so → Ev zq_T d 64 0 (zl_args 0 [.inr (.inr (12, some a0)), .inl a1, .inl a2, .inl a3, .inl a4, .inl a5]) [] M (some (.inl so.1), so.2)) : ∀ (fuel : Nat) (t0 : Nat) (v3 : Int32) (v4 : Int32) (v5 : Int32) (v6 : Int32) (M : zM) (so : Int32 × zM) (ls : List (Nat × zV)), zl_get ls 0 = some (.inr (.inr (12, (some t0)))) → zl_get ls 3 = some (.inl v3) → zl_get ls 4 = some (.inl v4) → zl_get ls 5 = some (.inl v5) → zl_get ls 6 = some (.inl v6) → mo_shortestCount_66 r_mo_shortest r_mo_shortestCount r_mo_least r_mo_all r_mo_some d fuel t0 v3 v4 v5 v6 M = some so → Ev zq_T (d + 1) 61 66 ls [] M (some (.inl so.1), so.2) := by
  intro fuel
  induction fuel with
  | zero => intro t0 v3 v4 v5 v6 M so ls g0 g3 g4 g5 g6 hs; exact nomatch hs
  | succ fuel ih =>
    intro t0 v3 v4 v5 v6 M so ls g0 g3 g4 g5 g6 hs
    unfold mo_shortestCount_66 at hs
    refine e_ild cd_61_66 g6 ?_
    refine e_ild cd_61_68 g5 ?_
    refine k_if hs (fun c1 hs => ?_) (fun c1 hs => ?_)
    · refine e_icJ cd_61_70 rfl c1 ?_
      refine e_const cd_61_86 ci_1 ?_
      have e := Option.some.inj hs
      subst e
      exact e_rz cd_61_87 nr_61 (Or.inr rfl)
    · refine e_icN cd_61_70 rfl c1 ?_
      refine e_aldn cd_61_73 g0 ?_
      refine e_ildn cd_61_74 g3 ?_
      refine e_ild cd_61_75 g4 ?_
      obtain ⟨q2, h3, hs⟩ := k_bind hs
      refine e_cvi cd_61_77 kd_61_322 rfl rfl rfl rfl rfl nl_57 rfl rfl (tie_mo_again d t0 v3 v4 M _ h3) ?_
      refine k_let hs (fun x4 e5 hs => ?_)
      refine e_incK cd_61_80 nl_61 rfl g6 ci_1 e5 ?_
      intro _ gn kp
      have u6 := kp 0 _ g0 rfl rfl
      have u7 := kp 3 _ g3 rfl rfl
      have u8 := kp 4 _ g4 rfl rfl
      have u9 := kp 5 _ g5 rfl rfl
      have u10 := gn
      refine e_goto cd_61_83 rfl ?_
      exact ih t0 v3 v4 v5 x4 q2 so _ u6 u7 u8 u9 u10 hs
theorem tie_mo_shortestCount_61 (r_mo_shortest : Nat → Int32 → Int32 → Int32 → zM → Option (Int32 × zM)) (r_mo_shortestCount : Nat → Int32 → Int32 → zM → Option (Int32 × zM)) (r_mo_least : Nat → Int32 → Int32 → Int32 → zM → Option (Int32 × zM)) (r_mo_all : Nat → Int32 → Int32 → zM → Option (Int32 × zM)) (r_mo_some : Nat → Int32 → Int32 → Int32 → Int32 → Int32 → zM → Option (Int32 × zM)) (d : Nat) (hr_mo_shortest : ∀ a0 a1 a2 a3 M so, r_mo_shortest a0 a1 a2 a3 M = some so → Ev zq_T d 60 0 (zl_args 0 [.inr (.inr (12, some a0)), .inl a1, .inl a2, .inl a3]) [] M (some (.inl so.1), so.2)) (hr_mo_shortestCount : ∀ a0 a1 a2 M so, r_mo_shortestCount a0 a1 a2 M = some so → Ev zq_T d 61 0 (zl_args 0 [.inr (.inr (12, some a0)), .inl a1, .inl a2]) [] M (some (.inl so.1), so.2)) (hr_mo_least : ∀ a0 a1 a2 a3 M so, r_mo_least a0 a1 a2 a3 M = some so → Ev zq_T d 62 0 (zl_args 0 [.inr (.inr (12, some a0)), .inl a1, .inl a2, .inl a3]) [] M (some (.inl so.1), so.2)) (hr_mo_all : ∀ a0 a1 a2 M so, r_mo_all a0 a1 a2 M = some so → Ev zq_T d 63 0 (zl_args 0 [.inr (.inr (12, some a0)), .inl a1, .inl a2]) [] M (some (.inl so.1), so.2)) (hr_mo_some : ∀ a0 a1 a2 a3 a4 a5 M so, r_mo_some a0 a1 a2 a3 a4 a5 M = some so → Ev zq_T d 64 0 (zl_args 0 [.inr (.inr (12, some a0)), .inl a1, .inl a2, .inl a3, .inl a4, .inl a5]) [] M (some (.inl so.1), so.2)) (t0 : Nat) (v3 : Int32) (v4 : Int32) (s0 : Int32) (M : zM) (so : Int32 × zM) (ls : List (Nat × zV)) (g0 : zl_get ls 0 = some (.inr (.inr (12, (some t0))))) (g3 : zl_get ls 3 = some (.inl v3)) (g4 : zl_get ls 4 = some (.inl v4)) (hs : mo_shortestCount_61 r_mo_shortest r_mo_shortestCount r_mo_least r_mo_all r_mo_some d t0 v3 v4 s0 M = some so) : Ev zq_T (d + 1) 61 61 ls [.inl s0] M (some (.inl so.1), so.2) := by
  unfold mo_shortestCount_61 at hs
  refine e_iK cd_61_61 nl_61 rfl rfl ?_
  intro _ gn kp
  have u1 := kp 0 _ g0 rfl rfl
  have u2 := kp 3 _ g3 rfl rfl
  have u3 := kp 4 _ g4 rfl rfl
  have u4 := gn
  refine e_const cd_61_63 ci_1 ?_
  refine e_iK cd_61_64 nl_61 rfl rfl ?_
  intro _ gn kp
  have u5 := kp 0 _ u1 rfl rfl
  have u6 := kp 3 _ u2 rfl rfl
  have u7 := kp 4 _ u3 rfl rfl
  have u8 := kp 5 _ u4 rfl rfl
  have u9 := gn
  exact tie_mo_shortestCount_66 r_mo_shortest r_mo_shortestCount r_mo_least r_mo_all r_mo_some d hr_mo_shortest hr_mo_shortestCount hr_mo_least hr_mo_all hr_mo_some zLF t0 v3 v4 s0 1 M so _ u5 u6 u7 u8 u9 hs
theorem tieb_mo_shortestCount (r_mo_shortest : Nat → Int32 → Int32 → Int32 → zM → Option (Int32 × zM)) (r_mo_shortestCount : Nat → Int32 → Int32 → zM → Option (Int32 × zM)) (r_mo_least : Nat → Int32 → Int32 → Int32 → zM → Option (Int32 × zM)) (r_mo_all : Nat → Int32 → Int32 → zM → Option (Int32 × zM)) (r_mo_some : Nat → Int32 → Int32 → Int32 → Int32 → Int32 → zM → Option (Int32 × zM)) (d : Nat) (hr_mo_shortest : ∀ a0 a1 a2 a3 M so, r_mo_shortest a0 a1 a2 a3 M = some so → Ev zq_T d 60 0 (zl_args 0 [.inr (.inr (12, some a0)), .inl a1, .inl a2, .inl a3]) [] M (some (.inl so.1), so.2)) (hr_mo_shortestCount : ∀ a0 a1 a2 M so, r_mo_shortestCount a0 a1 a2 M = some so → Ev zq_T d 61 0 (zl_args 0 [.inr (.inr (12, some a0)), .inl a1, .inl a2]) [] M (some (.inl so.1), so.2)) (hr_mo_least : ∀ a0 a1 a2 a3 M so, r_mo_least a0 a1 a2 a3 M = some so → Ev zq_T d 62 0 (zl_args 0 [.inr (.inr (12, some a0)), .inl a1, .inl a2, .inl a3]) [] M (some (.inl so.1), so.2)) (hr_mo_all : ∀ a0 a1 a2 M so, r_mo_all a0 a1 a2 M = some so → Ev zq_T d 63 0 (zl_args 0 [.inr (.inr (12, some a0)), .inl a1, .inl a2]) [] M (some (.inl so.1), so.2)) (hr_mo_some : ∀ a0 a1 a2 a3 a4 a5 M so, r_mo_some a0 a1 a2 a3 a4 a5 M = some so → Ev zq_T d 64 0 (zl_args 0 [.inr (.inr (12, some a0)), .inl a1, .inl a2, .inl a3, .inl a4, .inl a5]) [] M (some (.inl so.1), so.2)) (a0 : Nat) (a1 : Int32) (a2 : Int32) (M : zM) (so : Int32 × zM) (hs : mo_shortestCount_b r_mo_shortest r_mo_shortestCount r_mo_least r_mo_all r_mo_some d a0 a1 a2 M = some so) : Ev zq_T (d + 1) 61 0 (zl_args 0 [.inr (.inr (12, some a0)), .inl a1, .inl a2]) [] M (some (.inl so.1), so.2) := by
  unfold mo_shortestCount_b at hs
  have g0 : zl_get (zl_args 0 [.inr (.inr (12, some a0)), .inl a1, .inl a2]) 0 = some (.inr (.inr (12, (some a0)))) := rfl
  have g1 : zl_get (zl_args 0 [.inr (.inr (12, some a0)), .inl a1, .inl a2]) 1 = some (.inl a1) := rfl
  have g2 : zl_get (zl_args 0 [.inr (.inr (12, some a0)), .inl a1, .inl a2]) 2 = some (.inl a2) := rfl
  refine e_aldn cd_61_0 g0 ?_
  refine e_getI cd_61_1 (Or.inl fd_61_300) rfl ?_
  refine k_let hs (fun x1 e2 hs => ?_)
  refine e_iKn cd_61_4 nl_61 rfl e2 ?_
  intro _ gn kp
  have u3 := kp 0 _ g0 rfl rfl
  have u4 := kp 1 _ g1 rfl rfl
  have u5 := kp 2 _ g2 rfl rfl
  have u6 := gn
  refine e_aldn cd_61_5 u3 ?_
  refine e_ildn cd_61_6 u4 ?_
  refine e_aldn cd_61_7 u3 ?_
  refine e_ildn cd_61_8 u5 ?_
  refine e_const cd_61_9 ci_3 ?_
  obtain ⟨q7, h8, hs⟩ := k_bind hs
  refine e_cvi cd_61_10 kd_61_240 rfl rfl rfl rfl rfl nl_36 rfl rfl (tie_mo_at d a0 a2 3 M _ h8) ?_
  refine e_const cd_61_13 ci_1 ?_
  obtain ⟨q9, h10, hs⟩ := k_bind hs
  refine e_cvi cd_61_14 kd_61_319 rfl rfl rfl rfl rfl nl_60 rfl rfl (hr_mo_shortest a0 a1 q7.1 1 q7.2 _ h10) ?_
  refine k_if hs (fun c11 hs => ?_) (fun c11 hs => ?_)
  · refine e_izN cd_61_17 rfl (fun q => q c11) ?_
    refine e_const cd_61_20 ci_0 ?_
    have e := Option.some.inj hs
    subst e
    exact e_rz cd_61_21 nr_61 (Or.inl rfl)
  · refine e_izJ cd_61_17 rfl c11 ?_
    refine e_aldn cd_61_22 u3 ?_
    refine e_getI cd_61_23 (Or.inl fd_61_300) rfl ?_
    refine k_let hs (fun x12 e13 hs => ?_)
    refine e_iK cd_61_26 nl_61 rfl e13 ?_
    intro _ gn kp
    have u14 := kp 0 _ u3 rfl rfl
    have u15 := kp 1 _ u4 rfl rfl
    have u16 := kp 2 _ u5 rfl rfl
    have u17 := kp 3 _ u6 rfl rfl
    have u18 := gn
    refine e_aldn cd_61_28 u14 ?_
    refine e_ildn cd_61_29 u15 ?_
    refine e_aldn cd_61_30 u14 ?_
    refine e_ildn cd_61_31 u16 ?_
    refine e_const cd_61_32 ci_3 ?_
    obtain ⟨q19, h20, hs⟩ := k_bind hs
    refine e_cvi cd_61_33 kd_61_240 rfl rfl rfl rfl rfl nl_36 rfl rfl (tie_mo_at d a0 a2 3 q9.2 _ h20) ?_
    obtain ⟨q21, h22, hs⟩ := k_bind hs
    refine e_cvi cd_61_36 kd_61_245 rfl rfl rfl rfl rfl nl_41 rfl rfl (tie_mo_isNull d a0 a1 q19.1 q19.2 _ h22) ?_
    refine k_if hs (fun c23 hs => ?_) (fun c23 hs => ?_)
    · refine e_izJ cd_61_39 rfl c23 ?_
      refine e_const cd_61_46 ci_1 ?_
      refine e_aldn cd_61_47 u14 ?_
      refine e_ildn cd_61_48 u15 ?_
      refine e_aldn cd_61_49 u14 ?_
      refine e_ildn cd_61_50 u16 ?_
      refine e_const cd_61_51 ci_1 ?_
      obtain ⟨q24, h25, hs⟩ := k_bind hs
      refine e_cvi cd_61_52 kd_61_240 rfl rfl rfl rfl rfl nl_36 rfl rfl (tie_mo_at d a0 a2 1 q21.2 _ h25) ?_
      obtain ⟨q26, h27, hs⟩ := k_bind hs
      refine e_cvi cd_61_55 kd_61_242 rfl rfl rfl rfl rfl nl_37 rfl rfl (tie_mo_from d a0 a1 q24.1 q24.2 _ h27) ?_
      refine e_max cd_61_58 kd_61_144 rfl ?_
      exact tie_mo_shortestCount_61 r_mo_shortest r_mo_shortestCount r_mo_least r_mo_all r_mo_some d hr_mo_shortest hr_mo_shortestCount hr_mo_least hr_mo_all hr_mo_some a0 x1 x12 (if 1 < q26.1 then q26.1 else 1) q26.2 so _ u14 u17 u18 hs
    · refine e_izN cd_61_39 rfl c23 ?_
      refine e_const cd_61_42 ci_1 ?_
      refine e_goto cd_61_43 rfl ?_
      exact tie_mo_shortestCount_61 r_mo_shortest r_mo_shortestCount r_mo_least r_mo_all r_mo_some d hr_mo_shortest hr_mo_shortestCount hr_mo_least hr_mo_all hr_mo_some a0 x1 x12 1 q21.2 so _ u14 u17 u18 hs
theorem tie_mo_least_59 (r_mo_shortest : Nat → Int32 → Int32 → Int32 → zM → Option (Int32 × zM)) (r_mo_shortestCount : Nat → Int32 → Int32 → zM → Option (Int32 × zM)) (r_mo_least : Nat → Int32 → Int32 → Int32 → zM → Option (Int32 × zM)) (r_mo_all : Nat → Int32 → Int32 → zM → Option (Int32 × zM)) (r_mo_some : Nat → Int32 → Int32 → Int32 → Int32 → Int32 → zM → Option (Int32 × zM)) (kl17 : Nat → Int32 → Int32 → Int32 → Int32 → Int32 → zM → Option (Int32 × zM)) (d : Nat) (hr_mo_shortest : ∀ a0 a1 a2 a3 M so, r_mo_shortest a0 a1 a2 a3 M = some so → Ev zq_T d 60 0 (zl_args 0 [.inr (.inr (12, some a0)), .inl a1, .inl a2, .inl a3]) [] M (some (.inl so.1), so.2)) (hr_mo_shortestCount : ∀ a0 a1 a2 M so, r_mo_shortestCount a0 a1 a2 M = some so → Ev zq_T d 61 0 (zl_args 0 [.inr (.inr (12, some a0)), .inl a1, .inl a2]) [] M (some (.inl so.1), so.2)) (hr_mo_least : ∀ a0 a1 a2 a3 M so, r_mo_least a0 a1 a2 a3 M = some so → Ev zq_T d 62 0 (zl_args 0 [.inr (.inr (12, some a0)), .inl a1, .inl a2, .inl a3]) [] M (some (.inl so.1), so.2)) (hr_mo_all : ∀ a0 a1 a2 M so, r_mo_all a0 a1 a2 M = some so → Ev zq_T d 63 0 (zl_args 0 [.inr (.inr (12, some a0)), .inl a1, .inl a2]) [] M (some (.inl so.1), so.2)) (hr_mo_some : ∀ a0 a1 a2 a3 a4 a5 M so, r_mo_some a0 a1 a2 a3 a4 a5 M = some so → Ev zq_T d 64 0 (zl_args 0 [.inr (.inr (12, some a0)), .inl a1, .inl a2, .inl a3, .inl a4, .inl a5]) [] M (some (.inl so.1), so.2)) (hk17 : ∀ (t0 : Nat) (v1 : Int32) (v3 : Int32) (v4 : Int32) (v5 : Int32) (v6 : Int32) (M : zM) (so : Int32 × zM) (ls : List (Nat × zV)), zl_get ls 0 = some (.inr (.inr (12, (some t0)))) → zl_get ls 1 = some (.inl v1) → zl_get ls 3 = some (.inl v3) → zl_get ls 4 = some (.inl v4) → zl_get ls 5 = some (.inl v5) → zl_get ls 6 = some (.inl v6) → kl17 t0 v1 v3 v4 v5 v6 M = some so → Ev zq_T (d + 1) 62 17 ls [] M (some (.inl so.1), so.2)) (t0 : Nat) (v1 : Int32) (v3 : Int32) (v4 : Int32) (v5 : Int32) (v6 : Int32) (M : zM) (so : Int32 × zM) (ls : List (Nat × zV)) (g0 : zl_get ls 0 = some (.inr (.inr (12, (some t0))))) (g1 : zl_get ls 1 = some (.inl v1)) (g3 : zl_get ls 3 = some (.inl v3)) (g4 : zl_get ls 4 = some (.inl v4)) (g5 : zl_get ls 5 = some (.inl v5)) (g6 : zl_get ls 6 = some (.inl v6)) (hs : mo_least_59 r_mo_shortest r_mo_shortestCount r_mo_least r_mo_all r_mo_some kl17 d t0 v1 v3 v4 v5 v6 M = some so) : Ev zq_T (d + 1) 62 59 ls [] M (some (.inl so.1), so.2) := by
  unfold mo_least_59 at hs
  refine e_aldn cd_62_59 g0 ?_
  refine e_ild cd_62_60 g6 ?_
  refine e_const cd_62_62 ci_4 ?_
  obtain ⟨q1, h2, hs⟩ := k_bind hs
  refine e_cvi cd_62_63 kd_62_240 rfl rfl rfl rfl rfl nl_36 rfl rfl (tie_mo_at d t0 v6 4 M _ h2) ?_
  refine e_iK cd_62_66 nl_62 rfl rfl ?_
  intro _ gn kp
  have u3 := kp 0 _ g0 rfl rfl
  have u4 := kp 1 _ g1 rfl rfl
  have u5 := kp 3 _ g3 rfl rfl
  have u6 := kp 4 _ g4 rfl rfl
  have u7 := kp 5 _ g5 rfl rfl
  have u8 := gn
  refine e_goto cd_62_68 rfl ?_
  exact hk17 t0 v1 v3 v4 v5 q1.1 q1.2 so _ u3 u4 u5 u6 u7 u8 hs
theorem tie_mo_least_56 (r_mo_shortest : Nat → Int32 → Int32 → Int32 → zM → Option (Int32 × zM)) (r_mo_shortestCount : Nat → Int32 → Int32 → zM → Option (Int32 × zM)) (r_mo_least : Nat → Int32 → Int32 → Int32 → zM → Option (Int32 × zM)) (r_mo_all : Nat → Int32 → Int32 → zM → Option (Int32 × zM)) (r_mo_some : Nat → Int32 → Int32 → Int32 → Int32 → Int32 → zM → Option (Int32 × zM)) (kl17 : Nat → Int32 → Int32 → Int32 → Int32 → Int32 → zM → Option (Int32 × zM)) (d : Nat) (hr_mo_shortest : ∀ a0 a1 a2 a3 M so, r_mo_shortest a0 a1 a2 a3 M = some so → Ev zq_T d 60 0 (zl_args 0 [.inr (.inr (12, some a0)), .inl a1, .inl a2, .inl a3]) [] M (some (.inl so.1), so.2)) (hr_mo_shortestCount : ∀ a0 a1 a2 M so, r_mo_shortestCount a0 a1 a2 M = some so → Ev zq_T d 61 0 (zl_args 0 [.inr (.inr (12, some a0)), .inl a1, .inl a2]) [] M (some (.inl so.1), so.2)) (hr_mo_least : ∀ a0 a1 a2 a3 M so, r_mo_least a0 a1 a2 a3 M = some so → Ev zq_T d 62 0 (zl_args 0 [.inr (.inr (12, some a0)), .inl a1, .inl a2, .inl a3]) [] M (some (.inl so.1), so.2)) (hr_mo_all : ∀ a0 a1 a2 M so, r_mo_all a0 a1 a2 M = some so → Ev zq_T d 63 0 (zl_args 0 [.inr (.inr (12, some a0)), .inl a1, .inl a2]) [] M (some (.inl so.1), so.2)) (hr_mo_some : ∀ a0 a1 a2 a3 a4 a5 M so, r_mo_some a0 a1 a2 a3 a4 a5 M = some so → Ev zq_T d 64 0 (zl_args 0 [.inr (.inr (12, some a0)), .inl a1, .inl a2, .inl a3, .inl a4, .inl a5]) [] M (some (.inl so.1), so.2)) (hk17 : ∀ (t0 : Nat) (v1 : Int32) (v3 : Int32) (v4 : Int32) (v5 : Int32) (v6 : Int32) (M : zM) (so : Int32 × zM) (ls : List (Nat × zV)), zl_get ls 0 = some (.inr (.inr (12, (some t0)))) → zl_get ls 1 = some (.inl v1) → zl_get ls 3 = some (.inl v3) → zl_get ls 4 = some (.inl v4) → zl_get ls 5 = some (.inl v5) → zl_get ls 6 = some (.inl v6) → kl17 t0 v1 v3 v4 v5 v6 M = some so → Ev zq_T (d + 1) 62 17 ls [] M (some (.inl so.1), so.2)) (t0 : Nat) (v1 : Int32) (v3 : Int32) (v4 : Int32) (v6 : Int32) (M : zM) (so : Int32 × zM) (ls : List (Nat × zV)) (g0 : zl_get ls 0 = some (.inr (.inr (12, (some t0))))) (g1 : zl_get ls 1 = some (.inl v1)) (g3 : zl_get ls 3 = some (.inl v3)) (g4 : zl_get ls 4 = some (.inl v4)) (g6 : zl_get ls 6 = some (.inl v6)) (hs : mo_least_56 r_mo_shortest r_mo_shortestCount r_mo_least r_mo_all r_mo_some kl17 d t0 v1 v3 v4 v6 M = some so) : Ev zq_T (d + 1) 62 56 ls [] M (some (.inl so.1), so.2) := by
  unfold mo_least_56 at hs
  refine e_const cd_62_56 ci_1 ?_
  refine e_iK cd_62_57 nl_62 rfl rfl ?_
  intro _ gn kp
  have u1 := kp 0 _ g0 rfl rfl
  have u2 := kp 1 _ g1 rfl rfl
  have u3 := kp 3 _ g3 rfl rfl
  have u4 := kp 4 _ g4 rfl rfl
  have u5 := kp 6 _ g6 rfl rfl
  have u6 := gn
  exact tie_mo_least_59 r_mo_shortest r_mo_shortestCount r_mo_least r_mo_all r_mo_some kl17 d hr_mo_shortest hr_mo_shortestCount hr_mo_least hr_mo_all hr_mo_some hk17 t0 v1 v3 v4 1 v6 M so _ u1 u2 u3 u4 u6 u5 hs
theorem tie_mo_least_17 (r_mo_shortest : Nat → Int32 → Int32 → Int32 → zM → Option (Int32 × zM)) (r_mo_shortestCount : Nat → Int32 → Int32 → zM → Option (Int32 × zM)) (r_mo_least : Nat → Int32 → Int32 → Int32 → zM → Option (Int32 × zM)) (r_mo_all : Nat → Int32 → Int32 → zM → Option (Int32 × zM)) (r_mo_some : Nat → Int32 → Int32 → Int32 → Int32 → Int32 → zM → Option (Int32 × zM)) (d : Nat) (hr_mo_shortest : ∀ a0 a1 a2 a3 M so, r_mo_shortest a0 a1 a2 a3 M = some so → Ev zq_T d 60 0 (zl_args 0 [.inr (.inr (12, some a0)), .inl a1, .inl a2, .inl a3]) [] M (some (.inl so.1), so.2)) (hr_mo_shortestCount : ∀ a0 a1 a2 M so, r_mo_shortestCount a0 a1 a2 M = some so → Ev zq_T d 61 0 (zl_args 0 [.inr (.inr (12, some a0)), .inl a1, .inl a2]) [] M (some (.inl so.1), so.2)) (hr_mo_least : ∀ a0 a1 a2 a3 M so, r_mo_least a0 a1 a2 a3 M = some so → Ev zq_T d 62 0 (zl_args 0 [.inr (.inr (12, some a0)), .inl a1, .inl a2, .inl a3]) [] M (some (.inl so.1), so.2)) (hr_mo_all : ∀ a0 a1 a2 M so, r_mo_all a0 a1 a2 M = some so → Ev zq_T d 63 0 (zl_args 0 [.inr (.inr (12, some a0)), .inl a1, .inl a2]) [] M (some (.inl so.1), so.2)) (hr_mo_some : ∀ a0 a1 a2 a3 a4 a5 M so, r_mo_some a0 a1 a2 a3 a4 a5 M = some so → Ev zq_T d 64 0 (zl_args 0 [.inr (.inr (12, some a0)), .inl a1, .inl a2, .inl a3, .inl a4, .inl a5]) [] M (some (.inl so.1), so.2)) : ∀ (fuel : Nat) (t0 : Nat) (v1 : Int32) (v3 : Int32) (v4 : Int32) (v5 : Int32) (v6 : Int32) (M : zM) (so : Int32 × zM) (ls : List (Nat × zV)), zl_get ls 0 = some (.inr (.inr (12, (some t0)))) → zl_get ls 1 = some (.inl v1) → zl_get ls 3 = some (.inl v3) → zl_get ls 4 = some (.inl v4) → zl_get ls 5 = some (.inl v5) → zl_get ls 6 = some (.inl v6) → mo_least_17 r_mo_shortest r_mo_shortestCount r_mo_least r_mo_all r_mo_some d fuel t0 v1 v3 v4 v5 v6 M = some so → Ev zq_T (d + 1) 62 17 ls [] M (some (.inl so.1), so.2) := by
  intro fuel
  induction fuel with
  | zero => intro t0 v1 v3 v4 v5 v6 M so ls g0 g1 g3 g4 g5 g6 hs; exact nomatch hs
  | succ fuel ih =>
    intro t0 v1 v3 v4 v5 v6 M so ls g0 g1 g3 g4 g5 g6 hs
    unfold mo_least_17 at hs
    refine e_ild cd_62_17 g6 ?_
    refine e_const cd_62_19 ci_m1 ?_
    refine k_if hs (fun c1 hs => ?_) (fun c1 hs => ?_)
    · refine e_icJ cd_62_20 rfl c1 ?_
      refine e_ild cd_62_71 g5 ?_
      obtain ⟨c2, hs⟩ := z_ite hs
      have e := Option.some.inj hs
      subst e
      exact e_rz cd_62_73 nr_62 c2
    · refine e_icN cd_62_20 rfl c1 ?_
      refine e_aldn cd_62_23 g0 ?_
      refine e_getI cd_62_24 (Or.inl fd_62_300) rfl ?_
      refine k_let hs (fun x3 e4 hs => ?_)
      refine e_iK cd_62_27 nl_62 rfl e4 ?_
      intro _ gn kp
      have u5 := kp 0 _ g0 rfl rfl
      have u6 := kp 1 _ g1 rfl rfl
      have u7 := kp 3 _ g3 rfl rfl
      have u8 := kp 4 _ g4 rfl rfl
      have u9 := kp 5 _ g5 rfl rfl
      have u10 := kp 6 _ g6 rfl rfl
      have u11 := gn
      refine e_aldn cd_62_29 u5 ?_
      refine e_ildn cd_62_30 u6 ?_
      refine e_ild cd_62_31 u10 ?_
      refine e_ildn cd_62_33 u7 ?_
      obtain ⟨q12, h13, hs⟩ := k_bind hs
      refine e_cvi cd_62_34 kd_62_319 rfl rfl rfl rfl rfl nl_60 rfl rfl (hr_mo_shortest t0 v1 v6 v3 M _ h13) ?_
      refine k_if hs (fun c14 hs => ?_) (fun c14 hs => ?_)
      · refine e_izN cd_62_37 rfl (fun q => q c14) ?_
        refine e_goto cd_62_40 rfl ?_
        exact tie_mo_least_59 r_mo_shortest r_mo_shortestCount r_mo_least r_mo_all r_mo_some (fun p0 p1 p2 p3 p4 p5 m => mo_least_17 r_mo_shortest r_mo_shortestCount r_mo_least r_mo_all r_mo_some d fuel p0 p1 p2 p3 p4 p5 m) d hr_mo_shortest hr_mo_shortestCount hr_mo_least hr_mo_all hr_mo_some ih t0 v1 v3 v4 v5 v6 q12.2 so _ u5 u6 u7 u8 u9 u10 hs
      · refine e_izJ cd_62_37 rfl c14 ?_
        refine e_ild cd_62_43 u9 ?_
        refine k_if hs (fun c15 hs => ?_) (fun c15 hs => ?_)
        · refine e_izJ cd_62_45 rfl c15 ?_
          exact tie_mo_least_56 r_mo_shortest r_mo_shortestCount r_mo_least r_mo_all r_mo_some (fun p0 p1 p2 p3 p4 p5 m => mo_least_17 r_mo_shortest r_mo_shortestCount r_mo_least r_mo_all r_mo_some d fuel p0 p1 p2 p3 p4 p5 m) d hr_mo_shortest hr_mo_shortestCount hr_mo_least hr_mo_all hr_mo_some ih t0 v1 v3 v4 v6 q12.2 so _ u5 u6 u7 u8 u10 hs
        · refine e_izN cd_62_45 rfl c15 ?_
          refine e_aldn cd_62_48 u5 ?_
          refine e_ild cd_62_49 u8 ?_
          refine e_ild cd_62_51 u11 ?_
          obtain ⟨q16, h17, hs⟩ := k_bind hs
          refine e_cvi cd_62_53 kd_62_325 rfl rfl rfl rfl rfl nl_59 rfl rfl (tie_mo_keepsLess d t0 v4 x3 q12.2 _ h17) ?_
          exact tie_mo_least_56 r_mo_shortest r_mo_shortestCount r_mo_least r_mo_all r_mo_some (fun p0 p1 p2 p3 p4 p5 m => mo_least_17 r_mo_shortest r_mo_shortestCount r_mo_least r_mo_all r_mo_some d fuel p0 p1 p2 p3 p4 p5 m) d hr_mo_shortest hr_mo_shortestCount hr_mo_least hr_mo_all hr_mo_some ih t0 v1 v3 v4 v6 q16 so _ u5 u6 u7 u8 u10 hs
theorem tieb_mo_least (r_mo_shortest : Nat → Int32 → Int32 → Int32 → zM → Option (Int32 × zM)) (r_mo_shortestCount : Nat → Int32 → Int32 → zM → Option (Int32 × zM)) (r_mo_least : Nat → Int32 → Int32 → Int32 → zM → Option (Int32 × zM)) (r_mo_all : Nat → Int32 → Int32 → zM → Option (Int32 × zM)) (r_mo_some : Nat → Int32 → Int32 → Int32 → Int32 → Int32 → zM → Option (Int32 × zM)) (d : Nat) (hr_mo_shortest : ∀ a0 a1 a2 a3 M so, r_mo_shortest a0 a1 a2 a3 M = some so → Ev zq_T d 60 0 (zl_args 0 [.inr (.inr (12, some a0)), .inl a1, .inl a2, .inl a3]) [] M (some (.inl so.1), so.2)) (hr_mo_shortestCount : ∀ a0 a1 a2 M so, r_mo_shortestCount a0 a1 a2 M = some so → Ev zq_T d 61 0 (zl_args 0 [.inr (.inr (12, some a0)), .inl a1, .inl a2]) [] M (some (.inl so.1), so.2)) (hr_mo_least : ∀ a0 a1 a2 a3 M so, r_mo_least a0 a1 a2 a3 M = some so → Ev zq_T d 62 0 (zl_args 0 [.inr (.inr (12, some a0)), .inl a1, .inl a2, .inl a3]) [] M (some (.inl so.1), so.2)) (hr_mo_all : ∀ a0 a1 a2 M so, r_mo_all a0 a1 a2 M = some so → Ev zq_T d 63 0 (zl_args 0 [.inr (.inr (12, some a0)), .inl a1, .inl a2]) [] M (some (.inl so.1), so.2)) (hr_mo_some : ∀ a0 a1 a2 a3 a4 a5 M so, r_mo_some a0 a1 a2 a3 a4 a5 M = some so → Ev zq_T d 64 0 (zl_args 0 [.inr (.inr (12, some a0)), .inl a1, .inl a2, .inl a3, .inl a4, .inl a5]) [] M (some (.inl so.1), so.2)) (a0 : Nat) (a1 : Int32) (a2 : Int32) (a3 : Int32) (M : zM) (so : Int32 × zM) (hs : mo_least_b r_mo_shortest r_mo_shortestCount r_mo_least r_mo_all r_mo_some d a0 a1 a2 a3 M = some so) : Ev zq_T (d + 1) 62 0 (zl_args 0 [.inr (.inr (12, some a0)), .inl a1, .inl a2, .inl a3]) [] M (some (.inl so.1), so.2) := by
  unfold mo_least_b at hs
  have g0 : zl_get (zl_args 0 [.inr (.inr (12, some a0)), .inl a1, .inl a2, .inl a3]) 0 = some (.inr (.inr (12, (some a0)))) := rfl
  have g1 : zl_get (zl_args 0 [.inr (.inr (12, some a0)), .inl a1, .inl a2, .inl a3]) 1 = some (.inl a1) := rfl
  have g2 : zl_get (zl_args 0 [.inr (.inr (12, some a0)), .inl a1, .inl a2, .inl a3]) 2 = some (.inl a2) := rfl
  have g3 : zl_get (zl_args 0 [.inr (.inr (12, some a0)), .inl a1, .inl a2, .inl a3]) 3 = some (.inl a3) := rfl
  refine e_aldn cd_62_0 g0 ?_
  refine e_getI cd_62_1 (Or.inl fd_62_300) rfl ?_
  refine k_let hs (fun x1 e2 hs => ?_)
  refine e_iK cd_62_4 nl_62 rfl e2 ?_
  intro _ gn kp
  have u3 := kp 0 _ g0 rfl rfl
  have u4 := kp 1 _ g1 rfl rfl
  have u5 := kp 2 _ g2 rfl rfl
  have u6 := kp 3 _ g3 rfl rfl
  have u7 := gn
  refine e_const cd_62_6 ci_0 ?_
  refine e_iK cd_62_7 nl_62 rfl rfl ?_
  intro _ gn kp
  have u8 := kp 0 _ u3 rfl rfl
  have u9 := kp 1 _ u4 rfl rfl
  have u10 := kp 2 _ u5 rfl rfl
  have u11 := kp 3 _ u6 rfl rfl
  have u12 := kp 4 _ u7 rfl rfl
  have u13 := gn
  refine e_aldn cd_62_9 u8 ?_
  refine e_ildn cd_62_10 u10 ?_
  refine e_const cd_62_11 ci_3 ?_
  obtain ⟨q14, h15, hs⟩ := k_bind hs
  refine e_cvi cd_62_12 kd_62_240 rfl rfl rfl rfl rfl nl_36 rfl rfl (tie_mo_at d a0 a2 3 M _ h15) ?_
  refine e_iK cd_62_15 nl_62 rfl rfl ?_
  intro _ gn kp
  have u16 := kp 0 _ u8 rfl rfl
  have u17 := kp 1 _ u9 rfl rfl
  have u18 := kp 3 _ u11 rfl rfl
  have u19 := kp 4 _ u12 rfl rfl
  have u20 := kp 5 _ u13 rfl rfl
  have u21 := gn
  exact tie_mo_least_17 r_mo_shortest r_mo_shortestCount r_mo_least r_mo_all r_mo_some d hr_mo_shortest hr_mo_shortestCount hr_mo_least hr_mo_all hr_mo_some zLF a0 a1 a3 x1 0 q14.1 q14.2 so _ u16 u17 u18 u19 u20 u21 hs
theorem tie_mo_all_17 (r_mo_shortest : Nat → Int32 → Int32 → Int32 → zM → Option (Int32 × zM)) (r_mo_shortestCount : Nat → Int32 → Int32 → zM → Option (Int32 × zM)) (r_mo_least : Nat → Int32 → Int32 → Int32 → zM → Option (Int32 × zM)) (r_mo_all : Nat → Int32 → Int32 → zM → Option (Int32 × zM)) (r_mo_some : Nat → Int32 → Int32 → Int32 → Int32 → Int32 → zM → Option (Int32 × zM)) (d : Nat) (hr_mo_shortest : ∀ a0 a1 a2 a3 M so, r_mo_shortest a0 a1 a2 a3 M = some so → Ev zq_T d 60 0 (zl_args 0 [.inr (.inr (12, some a0)), .inl a1, .inl a2, .inl a3]) [] M (some (.inl so.1), so.2)) (hr_mo_shortestCount : ∀ a0 a1 a2 M so, r_mo_shortestCount a0 a1 a2 M = some so → Ev zq_T d 61 0 (zl_args 0 [.inr (.inr (12, some a0)), .inl a1, .inl a2]) [] M (some (.inl so.1), so.2)) (hr_mo_least : ∀ a0 a1 a2 a3 M so, r_mo_least a0 a1 a2 a3 M = some so → Ev zq_T d 62 0 (zl_args 0 [.inr (.inr (12, some a0)), .inl a1, .inl a2, .inl a3]) [] M (some (.inl so.1), so.2)) (hr_mo_all : ∀ a0 a1 a2 M so, r_mo_all a0 a1 a2 M = some so → Ev zq_T d 63 0 (zl_args 0 [.inr (.inr (12, some a0)), .inl a1, .inl a2]) [] M (some (.inl so.1), so.2)) (hr_mo_some : ∀ a0 a1 a2 a3 a4 a5 M so, r_mo_some a0 a1 a2 a3 a4 a5 M = some so → Ev zq_T d 64 0 (zl_args 0 [.inr (.inr (12, some a0)), .inl a1, .inl a2, .inl a3, .inl a4, .inl a5]) [] M (some (.inl so.1), so.2)) : ∀ (fuel : Nat) (t0 : Nat) (v1 : Int32) (v3 : Int32) (M : zM) (so : Int32 × zM) (ls : List (Nat × zV)), zl_get ls 0 = some (.inr (.inr (12, (some t0)))) → zl_get ls 1 = some (.inl v1) → zl_get ls 3 = some (.inl v3) → mo_all_17 r_mo_shortest r_mo_shortestCount r_mo_least r_mo_all r_mo_some d fuel t0 v1 v3 M = some so → Ev zq_T (d + 1) 63 17 ls [] M (some (.inl so.1), so.2) := by
  intro fuel
  induction fuel with
  | zero => intro t0 v1 v3 M so ls g0 g1 g3 hs; exact nomatch hs
  | succ fuel ih =>
    intro t0 v1 v3 M so ls g0 g1 g3 hs
    unfold mo_all_17 at hs
    refine e_ildn cd_63_17 g3 ?_
    refine e_const cd_63_18 ci_m1 ?_
    refine k_if hs (fun c1 hs => ?_) (fun c1 hs => ?_)
    · refine e_icJ cd_63_19 rfl c1 ?_
      refine e_const cd_63_44 ci_1 ?_
      have e := Option.some.inj hs
      subst e
      exact e_rz cd_63_45 nr_63 (Or.inr rfl)
    · refine e_icN cd_63_19 rfl c1 ?_
      refine e_aldn cd_63_22 g0 ?_
      refine e_ildn cd_63_23 g1 ?_
      refine e_ildn cd_63_24 g3 ?_
      refine e_const cd_63_25 ci_0 ?_
      obtain ⟨q2, h3, hs⟩ := k_bind hs
      refine e_cvi cd_63_26 kd_63_319 rfl rfl rfl rfl rfl nl_60 rfl rfl (hr_mo_shortest t0 v1 v3 0 M _ h3) ?_
      refine k_if hs (fun c4 hs => ?_) (fun c4 hs => ?_)
      · refine e_izN cd_63_29 rfl (fun q => q c4) ?_
        refine e_const cd_63_32 ci_0 ?_
        have e := Option.some.inj hs
        subst e
        exact e_rz cd_63_33 nr_63 (Or.inl rfl)
      · refine e_izJ cd_63_29 rfl c4 ?_
        refine e_aldn cd_63_34 g0 ?_
        refine e_ildn cd_63_35 g3 ?_
        refine e_const cd_63_36 ci_4 ?_
        obtain ⟨q5, h6, hs⟩ := k_bind hs
        refine e_cvi cd_63_37 kd_63_240 rfl rfl rfl rfl rfl nl_36 rfl rfl (tie_mo_at d t0 v3 4 q2.2 _ h6) ?_
        refine e_iKn cd_63_40 nl_63 rfl rfl ?_
        intro _ gn kp
        have u7 := kp 0 _ g0 rfl rfl
        have u8 := kp 1 _ g1 rfl rfl
        have u9 := gn
        refine e_goto cd_63_41 rfl ?_
        exact ih t0 v1 q5.1 q5.2 so _ u7 u8 u9 hs
theorem tieb_mo_all (r_mo_shortest : Nat → Int32 → Int32 → Int32 → zM → Option (Int32 × zM)) (r_mo_shortestCount : Nat → Int32 → Int32 → zM → Option (Int32 × zM)) (r_mo_least : Nat → Int32 → Int32 → Int32 → zM → Option (Int32 × zM)) (r_mo_all : Nat → Int32 → Int32 → zM → Option (Int32 × zM)) (r_mo_some : Nat → Int32 → Int32 → Int32 → Int32 → Int32 → zM → Option (Int32 × zM)) (d : Nat) (hr_mo_shortest : ∀ a0 a1 a2 a3 M so, r_mo_shortest a0 a1 a2 a3 M = some so → Ev zq_T d 60 0 (zl_args 0 [.inr (.inr (12, some a0)), .inl a1, .inl a2, .inl a3]) [] M (some (.inl so.1), so.2)) (hr_mo_shortestCount : ∀ a0 a1 a2 M so, r_mo_shortestCount a0 a1 a2 M = some so → Ev zq_T d 61 0 (zl_args 0 [.inr (.inr (12, some a0)), .inl a1, .inl a2]) [] M (some (.inl so.1), so.2)) (hr_mo_least : ∀ a0 a1 a2 a3 M so, r_mo_least a0 a1 a2 a3 M = some so → Ev zq_T d 62 0 (zl_args 0 [.inr (.inr (12, some a0)), .inl a1, .inl a2, .inl a3]) [] M (some (.inl so.1), so.2)) (hr_mo_all : ∀ a0 a1 a2 M so, r_mo_all a0 a1 a2 M = some so → Ev zq_T d 63 0 (zl_args 0 [.inr (.inr (12, some a0)), .inl a1, .inl a2]) [] M (some (.inl so.1), so.2)) (hr_mo_some : ∀ a0 a1 a2 a3 a4 a5 M so, r_mo_some a0 a1 a2 a3 a4 a5 M = some so → Ev zq_T d 64 0 (zl_args 0 [.inr (.inr (12, some a0)), .inl a1, .inl a2, .inl a3, .inl a4, .inl a5]) [] M (some (.inl so.1), so.2)) (a0 : Nat) (a1 : Int32) (a2 : Int32) (M : zM) (so : Int32 × zM) (hs : mo_all_b r_mo_shortest r_mo_shortestCount r_mo_least r_mo_all r_mo_some d a0 a1 a2 M = some so) : Ev zq_T (d + 1) 63 0 (zl_args 0 [.inr (.inr (12, some a0)), .inl a1, .inl a2]) [] M (some (.inl so.1), so.2) := by
  unfold mo_all_b at hs
  have g0 : zl_get (zl_args 0 [.inr (.inr (12, some a0)), .inl a1, .inl a2]) 0 = some (.inr (.inr (12, (some a0)))) := rfl
  have g1 : zl_get (zl_args 0 [.inr (.inr (12, some a0)), .inl a1, .inl a2]) 1 = some (.inl a1) := rfl
  have g2 : zl_get (zl_args 0 [.inr (.inr (12, some a0)), .inl a1, .inl a2]) 2 = some (.inl a2) := rfl
  refine e_aldn cd_63_0 g0 ?_
  refine e_ildn cd_63_1 g2 ?_
  refine e_const cd_63_2 ci_0 ?_
  obtain ⟨q1, h2, hs⟩ := k_bind hs
  refine e_cvi cd_63_3 kd_63_240 rfl rfl rfl rfl rfl nl_36 rfl rfl (tie_mo_at d a0 a2 0 M _ h2) ?_
  refine e_const cd_63_6 ci_2 ?_
  refine k_if hs (fun c3 hs => ?_) (fun c3 hs => ?_)
  · refine e_icN cd_63_7 rfl (fun q => q c3) ?_
    refine e_aldn cd_63_10 g0 ?_
    refine e_ildn cd_63_11 g2 ?_
    refine e_const cd_63_12 ci_3 ?_
    obtain ⟨q4, h5, hs⟩ := k_bind hs
    refine e_cvi cd_63_13 kd_63_240 rfl rfl rfl rfl rfl nl_36 rfl rfl (tie_mo_at d a0 a2 3 q1.2 _ h5) ?_
    refine e_iKn cd_63_16 nl_63 rfl rfl ?_
    intro _ gn kp
    have u6 := kp 0 _ g0 rfl rfl
    have u7 := kp 1 _ g1 rfl rfl
    have u8 := gn
    exact tie_mo_all_17 r_mo_shortest r_mo_shortestCount r_mo_least r_mo_all r_mo_some d hr_mo_shortest hr_mo_shortestCount hr_mo_least hr_mo_all hr_mo_some zLF a0 a1 q4.1 q4.2 so _ u6 u7 u8 hs
  · refine e_icJ cd_63_7 rfl c3 ?_
    refine e_aldn cd_63_46 g0 ?_
    refine e_ildn cd_63_47 g1 ?_
    refine e_ildn cd_63_48 g2 ?_
    refine e_const cd_63_49 ci_m1 ?_
    refine e_const cd_63_50 ci_m1 ?_
    refine e_const cd_63_51 ci_m1 ?_
    obtain ⟨q9, h10, hs⟩ := k_bind hs
    refine e_cvi cd_63_52 kd_63_328 rfl rfl rfl rfl rfl nl_64 rfl rfl (hr_mo_some a0 a1 a2 (-1) (-1) (-1) q1.2 _ h10) ?_
    obtain ⟨c11, hs⟩ := z_ite hs
    have e := Option.some.inj hs
    subst e
    exact e_rz cd_63_55 nr_63 c11
theorem tie_mo_some_234 (r_mo_shortest : Nat → Int32 → Int32 → Int32 → zM → Option (Int32 × zM)) (r_mo_shortestCount : Nat → Int32 → Int32 → zM → Option (Int32 × zM)) (r_mo_least : Nat → Int32 → Int32 → Int32 → zM → Option (Int32 × zM)) (r_mo_all : Nat → Int32 → Int32 → zM → Option (Int32 × zM)) (r_mo_some : Nat → Int32 → Int32 → Int32 → Int32 → Int32 → zM → Option (Int32 × zM)) (kl27 : Nat → Int32 → Int32 → Int32 → Int32 → Int32 → Int32 → Int32 → Int32 → zM → Option (Int32 × zM)) (d : Nat) (hr_mo_shortest : ∀ a0 a1 a2 a3 M so, r_mo_shortest a0 a1 a2 a3 M = some so → Ev zq_T d 60 0 (zl_args 0 [.inr (.inr (12, some a0)), .inl a1, .inl a2, .inl a3]) [] M (some (.inl so.1), so.2)) (hr_mo_shortestCount : ∀ a0 a1 a2 M so, r_mo_shortestCount a0 a1 a2 M = some so → Ev zq_T d 61 0 (zl_args 0 [.inr (.inr (12, some a0)), .inl a1, .inl a2]) [] M (some (.inl so.1), so.2)) (hr_mo_least : ∀ a0 a1 a2 a3 M so, r_mo_least a0 a1 a2 a3 M = some so → Ev zq_T d 62 0 (zl_args 0 [.inr (.inr (12, some a0)), .inl a1, .inl a2, .inl a3]) [] M (some (.inl so.1), so.2)) (hr_mo_all : ∀ a0 a1 a2 M so, r_mo_all a0 a1 a2 M = some so → Ev zq_T d 63 0 (zl_args 0 [.inr (.inr (12, some a0)), .inl a1, .inl a2]) [] M (some (.inl so.1), so.2)) (hr_mo_some : ∀ a0 a1 a2 a3 a4 a5 M so, r_mo_some a0 a1 a2 a3 a4 a5 M = some so → Ev zq_T d 64 0 (zl_args 0 [.inr (.inr (12, some a0)), .inl a1, .inl a2, .inl a3, .inl a4, .inl a5]) [] M (some (.inl so.1), so.2)) (hk27 : ∀ (t0 : Nat) (v1 : Int32) (v2 : Int32) (v3 : Int32) (v4 : Int32) (v5 : Int32) (v6 : Int32) (v7 : Int32) (v8 : Int32) (M : zM) (so : Int32 × zM) (ls : List (Nat × zV)), zl_get ls 0 = some (.inr (.inr (12, (some t0)))) → zl_get ls 1 = some (.inl v1) → zl_get ls 2 = some (.inl v2) → zl_get ls 3 = some (.inl v3) → zl_get ls 4 = some (.inl v4) → zl_get ls 5 = some (.inl v5) → zl_get ls 6 = some (.inl v6) → zl_get ls 7 = some (.inl v7) → zl_get ls 8 = some (.inl v8) → kl27 t0 v1 v2 v3 v4 v5 v6 v7 v8 M = some so → Ev zq_T (d + 1) 64 27 ls [] M (some (.inl so.1), so.2)) (t0 : Nat) (v1 : Int32) (v2 : Int32) (v3 : Int32) (v4 : Int32) (v5 : Int32) (v6 : Int32) (v7 : Int32) (v8 : Int32) (M : zM) (so : Int32 × zM) (ls : List (Nat × zV)) (g0 : zl_get ls 0 = some (.inr (.inr (12, (some t0))))) (g1 : zl_get ls 1 = some (.inl v1)) (g2 : zl_get ls 2 = some (.inl v2)) (g3 : zl_get ls 3 = some (.inl v3)) (g4 : zl_get ls 4 = some (.inl v4)) (g5 : zl_get ls 5 = some (.inl v5)) (g6 : zl_get ls 6 = some (.inl v6)) (g7 : zl_get ls 7 = some (.inl v7)) (g8 : zl_get ls 8 = some (.inl v8)) (hs : mo_some_234 r_mo_shortest r_mo_shortestCount r_mo_least r_mo_all r_mo_some kl27 d t0 v1 v2 v3 v4 v5 v6 v7 v8 M = some so) : Ev zq_T (d + 1) 64 234 ls [] M (some (.inl so.1), so.2) := by
  unfold mo_some_234 at hs
  refine e_aldn cd_64_234 g0 ?_
  refine e_ild cd_64_235 g8 ?_
  refine e_const cd_64_237 ci_4 ?_
  obtain ⟨q1, h2, hs⟩ := k_bind hs
  refine e_cvi cd_64_238 kd_64_240 rfl rfl rfl rfl rfl nl_36 rfl rfl (tie_mo_at d t0 v8 4 M _ h2) ?_
  refine e_iK cd_64_241 nl_64 rfl rfl ?_
  intro _ gn kp
  have u3 := kp 0 _ g0 rfl rfl
  have u4 := kp 1 _ g1 rfl rfl
  have u5 := kp 2 _ g2 rfl rfl
  have u6 := kp 3 _ g3 rfl rfl
  have u7 := kp 4 _ g4 rfl rfl
  have u8 := kp 5 _ g5 rfl rfl
  have u9 := kp 6 _ g6 rfl rfl
  have u10 := kp 7 _ g7 rfl rfl
  have u11 := gn
  refine e_goto cd_64_243 rfl ?_
  exact hk27 t0 v1 v2 v3 v4 v5 v6 v7 q1.1 q1.2 so _ u3 u4 u5 u6 u7 u8 u9 u10 u11 hs
theorem tie_mo_some_202 (r_mo_shortest : Nat → Int32 → Int32 → Int32 → zM → Option (Int32 × zM)) (r_mo_shortestCount : Nat → Int32 → Int32 → zM → Option (Int32 × zM)) (r_mo_least : Nat → Int32 → Int32 → Int32 → zM → Option (Int32 × zM)) (r_mo_all : Nat → Int32 → Int32 → zM → Option (Int32 × zM)) (r_mo_some : Nat → Int32 → Int32 → Int32 → Int32 → Int32 → zM → Option (Int32 × zM)) (kl27 : Nat → Int32 → Int32 → Int32 → Int32 → Int32 → Int32 → Int32 → Int32 → zM → Option (Int32 × zM)) (d : Nat) (hr_mo_shortest : ∀ a0 a1 a2 a3 M so, r_mo_shortest a0 a1 a2 a3 M = some so → Ev zq_T d 60 0 (zl_args 0 [.inr (.inr (12, some a0)), .inl a1, .inl a2, .inl a3]) [] M (some (.inl so.1), so.2)) (hr_mo_shortestCount : ∀ a0 a1 a2 M so, r_mo_shortestCount a0 a1 a2 M = some so → Ev zq_T d 61 0 (zl_args 0 [.inr (.inr (12, some a0)), .inl a1, .inl a2]) [] M (some (.inl so.1), so.2)) (hr_mo_least : ∀ a0 a1 a2 a3 M so, r_mo_least a0 a1 a2 a3 M = some so → Ev zq_T d 62 0 (zl_args 0 [.inr (.inr (12, some a0)), .inl a1, .inl a2, .inl a3]) [] M (some (.inl so.1), so.2)) (hr_mo_all : ∀ a0 a1 a2 M so, r_mo_all a0 a1 a2 M = some so → Ev zq_T d 63 0 (zl_args 0 [.inr (.inr (12, some a0)), .inl a1, .inl a2]) [] M (some (.inl so.1), so.2)) (hr_mo_some : ∀ a0 a1 a2 a3 a4 a5 M so, r_mo_some a0 a1 a2 a3 a4 a5 M = some so → Ev zq_T d 64 0 (zl_args 0 [.inr (.inr (12, some a0)), .inl a1, .inl a2, .inl a3, .inl a4, .inl a5]) [] M (some (.inl so.1), so.2)) (hk27 : ∀ (t0 : Nat) (v1 : Int32) (v2 : Int32) (v3 : Int32) (v4 : Int32) (v5 : Int32) (v6 : Int32) (v7 : Int32) (v8 : Int32) (M : zM) (so : Int32 × zM) (ls : List (Nat × zV)), zl_get ls 0 = some (.inr (.inr (12, (some t0)))) → zl_get ls 1 = some (.inl v1) → zl_get ls 2 = some (.inl v2) → zl_get ls 3 = some (.inl v3) → zl_get ls 4 = some (.inl v4) → zl_get ls 5 = some (.inl v5) → zl_get ls 6 = some (.inl v6) → zl_get ls 7 = some (.inl v7) → zl_get ls 8 = some (.inl v8) → kl27 t0 v1 v2 v3 v4 v5 v6 v7 v8 M = some so → Ev zq_T (d + 1) 64 27 ls [] M (some (.inl so.1), so.2)) (t0 : Nat) (v1 : Int32) (v2 : Int32) (v3 : Int32) (v4 : Int32) (v5 : Int32) (v6 : Int32) (v7 : Int32) (v8 : Int32) (v10 : Int32) (v12 : Int32) (v13 : Int32) (M : zM) (so : Int32 × zM) (ls : List (Nat × zV)) (g0 : zl_get ls 0 = some (.inr (.inr (12, (some t0))))) (g1 : zl_get ls 1 = some (.inl v1)) (g2 : zl_get ls 2 = some (.inl v2)) (g3 : zl_get ls 3 = some (.inl v3)) (g4 : zl_get ls 4 = some (.inl v4)) (g5 : zl_get ls 5 = some (.inl v5)) (g6 : zl_get ls 6 = some (.inl v6)) (g7 : zl_get ls 7 = some (.inl v7)) (g8 : zl_get ls 8 = some (.inl v8)) (g10 : zl_get ls 10 = some (.inl v10)) (g12 : zl_get ls 12 = some (.inl v12)) (g13 : zl_get ls 13 = some (.inl v13)) (hs : mo_some_202 r_mo_shortest r_mo_shortestCount r_mo_least r_mo_all r_mo_some kl27 d t0 v1 v2 v3 v4 v5 v6 v7 v8 v10 v12 v13 M = some so) : Ev zq_T (d + 1) 64 202 ls [] M (some (.inl so.1), so.2) := by
  unfold mo_some_202 at hs
  refine e_aldn cd_64_202 g0 ?_
  refine e_getR cd_64_203 fd_64_65 rfl ?_
  refine e_ild cd_64_206 g13 ?_
  refine e_ild cd_64_208 g12 ?_
  refine e_pure cd_64_210 rfl ?_
  refine e_ild cd_64_211 g10 ?_
  refine k_opt hs (fun _ q => nomatch q) (fun k1 h2 hs => ?_)
  obtain ⟨c3, hs⟩ := z_ite hs
  refine k_let hs (fun M4 e5 hs => ?_)
  refine e_iast cd_64_213 rfl h2 c3 e5 ?_
  refine e_aldn cd_64_214 g0 ?_
  refine e_getR cd_64_215 fd_64_68 rfl ?_
  refine e_ild cd_64_218 g13 ?_
  refine e_ild cd_64_220 g12 ?_
  refine e_pure cd_64_222 rfl ?_
  refine e_aldn cd_64_223 g0 ?_
  refine e_getI cd_64_224 (Or.inl fd_64_300) rfl ?_
  refine e_ild cd_64_227 g10 ?_
  refine e_pure cd_64_229 rfl ?_
  refine k_opt hs (fun _ q => nomatch q) (fun k6 h7 hs => ?_)
  obtain ⟨c8, hs⟩ := z_ite hs
  refine k_let hs (fun M9 e10 hs => ?_)
  refine e_iast cd_64_230 rfl h7 c8 e10 ?_
  refine k_let hs (fun x11 e12 hs => ?_)
  refine e_incK cd_64_231 nl_64 rfl g7 ci_1 e12 ?_
  intro _ gn kp
  have u13 := kp 0 _ g0 rfl rfl
  have u14 := kp 1 _ g1 rfl rfl
  have u15 := kp 2 _ g2 rfl rfl
  have u16 := kp 3 _ g3 rfl rfl
  have u17 := kp 4 _ g4 rfl rfl
  have u18 := kp 5 _ g5 rfl rfl
  have u19 := kp 6 _ g6 rfl rfl
  have u20 := kp 8 _ g8 rfl rfl
  have u21 := gn
  exact tie_mo_some_234 r_mo_shortest r_mo_shortestCount r_mo_least r_mo_all r_mo_some kl27 d hr_mo_shortest hr_mo_shortestCount hr_mo_least hr_mo_all hr_mo_some hk27 t0 v1 v2 v3 v4 v5 v6 x11 v8 M9 so _ u13 u14 u15 u16 u17 u18 u19 u21 u20 hs
set_option maxRecDepth 100000 in
theorem tie_mo_some_107 (r_mo_shortest : Nat → Int32 → Int32 → Int32 → zM → Option (Int32 × zM)) (r_mo_shortestCount : Nat → Int32 → Int32 → zM → Option (Int32 × zM)) (r_mo_least : Nat → Int32 → Int32 → Int32 → zM → Option (Int32 × zM)) (r_mo_all : Nat → Int32 → Int32 → zM → Option (Int32 × zM)) (r_mo_some : Nat → Int32 → Int32 → Int32 → Int32 → Int32 → zM → Option (Int32 × zM)) (kl27 : Nat → Int32 → Int32 → Int32 → Int32 → Int32 → Int32 → Int32 → Int32 → zM → Option (Int32 × zM)) (d : Nat) (hr_mo_shortest : ∀ a0 a1 a2 a3 M so, r_mo_shortest a0 a1 a2 a3 M = some so → Ev zq_T d 60 0 (zl_args 0 [.inr (.inr (12, some a0)), .inl a1, .inl a2, .inl a3]) [] M (some (.inl so.1), so.2)) (hr_mo_shortestCount : ∀ a0 a1 a2 M so, r_mo_shortestCount a0 a1 a2 M = some so → Ev zq_T d 61 0 (zl_args 0 [.inr (.inr (12, some a0)), .inl a1, .inl a2]) [] M (some (.inl so.1), so.2)) (hr_mo_least : ∀ a0 a1 a2 a3 M so, r_mo_least a0 a1 a2 a3 M = some so → Ev zq_T d 62 0 (zl_args 0 [.inr (.inr (12, some a0)), .inl a1, .inl a2, .inl a3]) [] M (some (.inl so.1), so.2)) (hr_mo_all : ∀ a0 a1 a2 M so, r_mo_all a0 a1 a2 M = some so → Ev zq_T d 63 0 (zl_args 0 [.inr (.inr (12, some a0)), .inl a1, .inl a2]) [] M (some (.inl so.1), so.2)) (hr_mo_some : ∀ a0 a1 a2 a3 a4 a5 M so, r_mo_some a0 a1 a2 a3 a4 a5 M = some so → Ev zq_T d 64 0 (zl_args 0 [.inr (.inr (12, some a0)), .inl a1, .inl a2, .inl a3, .inl a4, .inl a5]) [] M (some (.inl so.1), so.2)) (hk27 : ∀ (t0 : Nat) (v1 : Int32) (v2 : Int32) (v3 : Int32) (v4 : Int32) (v5 : Int32) (v6 : Int32) (v7 : Int32) (v8 : Int32) (M : zM) (so : Int32 × zM) (ls : List (Nat × zV)), zl_get ls 0 = some (.inr (.inr (12, (some t0)))) → zl_get ls 1 = some (.inl v1) → zl_get ls 2 = some (.inl v2) → zl_get ls 3 = some (.inl v3) → zl_get ls 4 = some (.inl v4) → zl_get ls 5 = some (.inl v5) → zl_get ls 6 = some (.inl v6) → zl_get ls 7 = some (.inl v7) → zl_get ls 8 = some (.inl v8) → kl27 t0 v1 v2 v3 v4 v5 v6 v7 v8 M = some so → Ev zq_T (d + 1) 64 27 ls [] M (some (.inl so.1), so.2)) : ∀ (fuel : Nat) (t0 : Nat) (v1 : Int32) (v2 : Int32) (v3 : Int32) (v4 : Int32) (v5 : Int32) (v6 : Int32) (v7 : Int32) (v8 : Int32) (v10 : Int32) (v12 : Int32) (v13 : Int32) (M : zM) (so : Int32 × zM) (ls : List (Nat × zV)), zl_get ls 0 = some (.inr (.inr (12, (some t0)))) → zl_get ls 1 = some (.inl v1) → zl_get ls 2 = some (.inl v2) → zl_get ls 3 = some (.inl v3) → zl_get ls 4 = some (.inl v4) → zl_get ls 5 = some (.inl v5) → zl_get ls 6 = some (.inl v6) → zl_get ls 7 = some (.inl v7) → zl_get ls 8 = some (.inl v8) → zl_get ls 10 = some (.inl v10) → zl_get ls 12 = some (.inl v12) → zl_get ls 13 = some (.inl v13) → mo_some_107 r_mo_shortest r_mo_shortestCount r_mo_least r_mo_all r_mo_some kl27 d fuel t0 v1 v2 v3 v4 v5 v6 v7 v8 v10 v12 v13 M = some so → Ev zq_T (d + 1) 64 107 ls [] M (some (.inl so.1), so.2) := by
  intro fuel
  induction fuel with
  | zero => intro t0 v1 v2 v3 v4 v5 v6 v7 v8 v10 v12 v13 M so ls g0 g1 g2 g3 g4 g5 g6 g7 g8 g10 g12 g13 hs; exact nomatch hs
  | succ fuel ih =>
    intro t0 v1 v2 v3 v4 v5 v6 v7 v8 v10 v12 v13 M so ls g0 g1 g2 g3 g4 g5 g6 g7 g8 g10 g12 g13 hs
    unfold mo_some_107 at hs
    refine e_ild cd_64_107 g12 ?_
    refine k_if hs (fun c1 hs => ?_) (fun c1 hs => ?_)
    · refine e_izJ cd_64_109 rfl c1 ?_
      exact tie_mo_some_202 r_mo_shortest r_mo_shortestCount r_mo_least r_mo_all r_mo_some kl27 d hr_mo_shortest hr_mo_shortestCount hr_mo_least hr_mo_all hr_mo_some hk27 t0 v1 v2 v3 v4 v5 v6 v7 v8 v10 v12 v13 M so _ g0 g1 g2 g3 g4 g5 g6 g7 g8 g10 g12 g13 hs
    · refine e_izN cd_64_109 rfl c1 ?_
      refine e_aldn cd_64_112 g0 ?_
      refine e_ild cd_64_113 g10 ?_
      refine e_aldn cd_64_115 g0 ?_
      refine e_getI cd_64_116 (Or.inl fd_64_300) rfl ?_
      refine e_ild cd_64_119 g10 ?_
      refine e_pure cd_64_121 rfl ?_
      refine e_aldn cd_64_122 g0 ?_
      refine e_getR cd_64_123 fd_64_65 rfl ?_
      refine e_ild cd_64_126 g13 ?_
      refine e_ild cd_64_128 g12 ?_
      refine e_pure cd_64_130 rfl ?_
      refine e_const cd_64_131 ci_1 ?_
      refine e_pure cd_64_132 rfl ?_
      refine k_opt hs (fun _ q => nomatch q) (fun k2 h3 hs => ?_)
      obtain ⟨c4, hs⟩ := z_ite hs
      refine e_iald cd_64_133 rfl h3 c4 ?_
      refine e_aldn cd_64_134 g0 ?_
      refine e_getR cd_64_135 fd_64_68 rfl ?_
      refine e_ild cd_64_138 g13 ?_
      refine e_ild cd_64_140 g12 ?_
      refine e_pure cd_64_142 rfl ?_
      refine e_const cd_64_143 ci_1 ?_
      refine e_pure cd_64_144 rfl ?_
      refine k_opt hs (fun _ q => nomatch q) (fun k5 h6 hs => ?_)
      obtain ⟨c7, hs⟩ := z_ite hs
      refine e_iald cd_64_145 rfl h6 c7 ?_
      obtain ⟨q8, h9, hs⟩ := k_bind hs
      refine e_cvi cd_64_146 kd_64_331 rfl rfl rfl rfl rfl nl_65 rfl rfl (tie_mo_isAhead d t0 v10 ((zm_I M 12 t0 28) - v10) (zm_I M 20 k2 ((v13 + v12) - 1).toNatClampNeg) (zm_I M 20 k5 ((v13 + v12) - 1).toNatClampNeg) M _ h9) ?_
      refine k_if hs (fun c10 hs => ?_) (fun c10 hs => ?_)
      · refine e_izJ cd_64_149 rfl c10 ?_
        exact tie_mo_some_202 r_mo_shortest r_mo_shortestCount r_mo_least r_mo_all r_mo_some kl27 d hr_mo_shortest hr_mo_shortestCount hr_mo_least hr_mo_all hr_mo_some hk27 t0 v1 v2 v3 v4 v5 v6 v7 v8 v10 v12 v13 q8.2 so _ g0 g1 g2 g3 g4 g5 g6 g7 g8 g10 g12 g13 hs
      · refine e_izN cd_64_149 rfl c10 ?_
        refine e_aldn cd_64_152 g0 ?_
        refine e_getR cd_64_153 fd_64_65 rfl ?_
        refine e_ild cd_64_156 g13 ?_
        refine e_ild cd_64_158 g12 ?_
        refine e_pure cd_64_160 rfl ?_
        refine e_aldn cd_64_161 g0 ?_
        refine e_getR cd_64_162 fd_64_65 rfl ?_
        refine e_ild cd_64_165 g13 ?_
        refine e_ild cd_64_167 g12 ?_
        refine e_pure cd_64_169 rfl ?_
        refine e_const cd_64_170 ci_1 ?_
        refine e_pure cd_64_171 rfl ?_
        refine k_opt hs (fun _ q => nomatch q) (fun k11 h12 hs => ?_)
        obtain ⟨c13, hs⟩ := z_ite hs
        refine e_iald cd_64_172 rfl h12 c13 ?_
        obtain ⟨c14, hs⟩ := z_ite hs
        refine k_let hs (fun M15 e16 hs => ?_)
        refine e_iast cd_64_173 rfl h12 c14 e16 ?_
        refine e_aldn cd_64_174 g0 ?_
        refine e_getR cd_64_175 fd_64_68 rfl ?_
        refine e_ild cd_64_178 g13 ?_
        refine e_ild cd_64_180 g12 ?_
        refine e_pure cd_64_182 rfl ?_
        refine e_aldn cd_64_183 g0 ?_
        refine e_getR cd_64_184 fd_64_68 rfl ?_
        refine e_ild cd_64_187 g13 ?_
        refine e_ild cd_64_189 g12 ?_
        refine e_pure cd_64_191 rfl ?_
        refine e_const cd_64_192 ci_1 ?_
        refine e_pure cd_64_193 rfl ?_
        refine k_opt hs (fun _ q => nomatch q) (fun k17 h18 hs => ?_)
        obtain ⟨c19, hs⟩ := z_ite hs
        refine e_iald cd_64_194 rfl h18 c19 ?_
        obtain ⟨c20, hs⟩ := z_ite hs
        refine k_let hs (fun M21 e22 hs => ?_)
        refine e_iast cd_64_195 rfl h18 c20 e22 ?_
        refine k_let hs (fun x23 e24 hs => ?_)
        refine e_incK cd_64_196 nl_64 rfl g12 ci_m1 e24 ?_
        intro _ gn kp
        have u25 := kp 0 _ g0 rfl rfl
        have u26 := kp 1 _ g1 rfl rfl
        have u27 := kp 2 _ g2 rfl rfl
        have u28 := kp 3 _ g3 rfl rfl
        have u29 := kp 4 _ g4 rfl rfl
        have u30 := kp 5 _ g5 rfl rfl
        have u31 := kp 6 _ g6 rfl rfl
        have u32 := kp 7 _ g7 rfl rfl
        have u33 := kp 8 _ g8 rfl rfl
        have u34 := kp 10 _ g10 rfl rfl
        have u35 := kp 13 _ g13 rfl rfl
        have u36 := gn
        refine e_goto cd_64_199 rfl ?_
        exact ih t0 v1 v2 v3 v4 v5 v6 v7 v8 v10 x23 v13 M21 so _ u25 u26 u27 u28 u29 u30 u31 u32 u33 u34 u36 u35 hs
theorem tie_mo_some_69 (r_mo_shortest : Nat → Int32 → Int32 → Int32 → zM → Option (Int32 × zM)) (r_mo_shortestCount : Nat → Int32 → Int32 → zM → Option (Int32 × zM)) (r_mo_least : Nat → Int32 → Int32 → Int32 → zM → Option (Int32 × zM)) (r_mo_all : Nat → Int32 → Int32 → zM → Option (Int32 × zM)) (r_mo_some : Nat → Int32 → Int32 → Int32 → Int32 → Int32 → zM → Option (Int32 × zM)) (kl27 : Nat → Int32 → Int32 → Int32 → Int32 → Int32 → Int32 → Int32 → Int32 → zM → Option (Int32 × zM)) (d : Nat) (hr_mo_shortest : ∀ a0 a1 a2 a3 M so, r_mo_shortest a0 a1 a2 a3 M = some so → Ev zq_T d 60 0 (zl_args 0 [.inr (.inr (12, some a0)), .inl a1, .inl a2, .inl a3]) [] M (some (.inl so.1), so.2)) (hr_mo_shortestCount : ∀ a0 a1 a2 M so, r_mo_shortestCount a0 a1 a2 M = some so → Ev zq_T d 61 0 (zl_args 0 [.inr (.inr (12, some a0)), .inl a1, .inl a2]) [] M (some (.inl so.1), so.2)) (hr_mo_least : ∀ a0 a1 a2 a3 M so, r_mo_least a0 a1 a2 a3 M = some so → Ev zq_T d 62 0 (zl_args 0 [.inr (.inr (12, some a0)), .inl a1, .inl a2, .inl a3]) [] M (some (.inl so.1), so.2)) (hr_mo_all : ∀ a0 a1 a2 M so, r_mo_all a0 a1 a2 M = some so → Ev zq_T d 63 0 (zl_args 0 [.inr (.inr (12, some a0)), .inl a1, .inl a2]) [] M (some (.inl so.1), so.2)) (hr_mo_some : ∀ a0 a1 a2 a3 a4 a5 M so, r_mo_some a0 a1 a2 a3 a4 a5 M = some so → Ev zq_T d 64 0 (zl_args 0 [.inr (.inr (12, some a0)), .inl a1, .inl a2, .inl a3, .inl a4, .inl a5]) [] M (some (.inl so.1), so.2)) (hk27 : ∀ (t0 : Nat) (v1 : Int32) (v2 : Int32) (v3 : Int32) (v4 : Int32) (v5 : Int32) (v6 : Int32) (v7 : Int32) (v8 : Int32) (M : zM) (so : Int32 × zM) (ls : List (Nat × zV)), zl_get ls 0 = some (.inr (.inr (12, (some t0)))) → zl_get ls 1 = some (.inl v1) → zl_get ls 2 = some (.inl v2) → zl_get ls 3 = some (.inl v3) → zl_get ls 4 = some (.inl v4) → zl_get ls 5 = some (.inl v5) → zl_get ls 6 = some (.inl v6) → zl_get ls 7 = some (.inl v7) → zl_get ls 8 = some (.inl v8) → kl27 t0 v1 v2 v3 v4 v5 v6 v7 v8 M = some so → Ev zq_T (d + 1) 64 27 ls [] M (some (.inl so.1), so.2)) (t0 : Nat) (v1 : Int32) (v2 : Int32) (v3 : Int32) (v4 : Int32) (v5 : Int32) (v6 : Int32) (v7 : Int32) (v8 : Int32) (s0 : Int32) (M : zM) (so : Int32 × zM) (ls : List (Nat × zV)) (g0 : zl_get ls 0 = some (.inr (.inr (12, (some t0))))) (g1 : zl_get ls 1 = some (.inl v1)) (g2 : zl_get ls 2 = some (.inl v2)) (g3 : zl_get ls 3 = some (.inl v3)) (g4 : zl_get ls 4 = some (.inl v4)) (g5 : zl_get ls 5 = some (.inl v5)) (g6 : zl_get ls 6 = some (.inl v6)) (g7 : zl_get ls 7 = some (.inl v7)) (g8 : zl_get ls 8 = some (.inl v8)) (hs : mo_some_69 r_mo_shortest r_mo_shortestCount r_mo_least r_mo_all r_mo_some kl27 d t0 v1 v2 v3 v4 v5 v6 v7 v8 s0 M = some so) : Ev zq_T (d + 1) 64 69 ls [.inl s0] M (some (.inl so.1), so.2) := by
  unfold mo_some_69 at hs
  refine e_iK cd_64_69 nl_64 rfl rfl ?_
  intro _ gn kp
  have u1 := kp 0 _ g0 rfl rfl
  have u2 := kp 1 _ g1 rfl rfl
  have u3 := kp 2 _ g2 rfl rfl
  have u4 := kp 3 _ g3 rfl rfl
  have u5 := kp 4 _ g4 rfl rfl
  have u6 := kp 5 _ g5 rfl rfl
  have u7 := kp 6 _ g6 rfl rfl
  have u8 := kp 7 _ g7 rfl rfl
  have u9 := kp 8 _ g8 rfl rfl
  have u10 := gn
  refine e_ild cd_64_71 u10 ?_
  refine k_if hs (fun c11 hs => ?_) (fun c11 hs => ?_)
  · refine e_izN cd_64_73 rfl (fun q => q c11) ?_
    refine e_goto cd_64_76 rfl ?_
    exact tie_mo_some_234 r_mo_shortest r_mo_shortestCount r_mo_least r_mo_all r_mo_some kl27 d hr_mo_shortest hr_mo_shortestCount hr_mo_least hr_mo_all hr_mo_some hk27 t0 v1 v2 v3 v4 v5 v6 v7 v8 M so _ u1 u2 u3 u4 u5 u6 u7 u8 u9 hs
  · refine e_izJ cd_64_73 rfl c11 ?_
    refine e_aldn cd_64_79 u1 ?_
    refine e_getI cd_64_80 (Or.inl fd_64_300) rfl ?_
    refine k_let hs (fun x12 e13 hs => ?_)
    refine e_iK cd_64_83 nl_64 rfl e13 ?_
    intro _ gn kp
    have u14 := kp 0 _ u1 rfl rfl
    have u15 := kp 1 _ u2 rfl rfl
    have u16 := kp 2 _ u3 rfl rfl
    have u17 := kp 3 _ u4 rfl rfl
    have u18 := kp 4 _ u5 rfl rfl
    have u19 := kp 5 _ u6 rfl rfl
    have u20 := kp 6 _ u7 rfl rfl
    have u21 := kp 7 _ u8 rfl rfl
    have u22 := kp 8 _ u9 rfl rfl
    have u23 := gn
    refine e_aldn cd_64_85 u14 ?_
    refine e_ildn cd_64_86 u15 ?_
    refine e_ild cd_64_87 u22 ?_
    refine e_const cd_64_89 ci_0 ?_
    obtain ⟨q24, h25, hs⟩ := k_bind hs
    refine e_cvi cd_64_90 kd_64_319 rfl rfl rfl rfl rfl nl_60 rfl rfl (hr_mo_shortest t0 v1 v8 0 M _ h25) ?_
    refine e_iK cd_64_93 nl_64 rfl rfl ?_
    intro _ gn kp
    have u26 := kp 0 _ u14 rfl rfl
    have u27 := kp 1 _ u15 rfl rfl
    have u28 := kp 2 _ u16 rfl rfl
    have u29 := kp 3 _ u17 rfl rfl
    have u30 := kp 4 _ u18 rfl rfl
    have u31 := kp 5 _ u19 rfl rfl
    have u32 := kp 6 _ u20 rfl rfl
    have u33 := kp 7 _ u21 rfl rfl
    have u34 := kp 8 _ u22 rfl rfl
    have u35 := kp 10 _ u23 rfl rfl
    have u36 := gn
    refine e_ild cd_64_95 u33 ?_
    refine e_iK cd_64_97 nl_64 rfl rfl ?_
    intro _ gn kp
    have u37 := kp 0 _ u26 rfl rfl
    have u38 := kp 1 _ u27 rfl rfl
    have u39 := kp 2 _ u28 rfl rfl
    have u40 := kp 3 _ u29 rfl rfl
    have u41 := kp 4 _ u30 rfl rfl
    have u42 := kp 5 _ u31 rfl rfl
    have u43 := kp 6 _ u32 rfl rfl
    have u44 := kp 7 _ u33 rfl rfl
    have u45 := kp 8 _ u34 rfl rfl
    have u46 := kp 10 _ u35 rfl rfl
    have u47 := gn
    refine e_const cd_64_99 ci_5 ?_
    refine e_aldn cd_64_100 u37 ?_
    refine e_getI cd_64_101 (Or.inl fd_64_71) rfl ?_
    refine e_pure cd_64_104 rfl ?_
    refine k_let hs (fun x48 e49 hs => ?_)
    refine e_iK cd_64_105 nl_64 rfl e49 ?_
    intro _ gn kp
    have u50 := kp 0 _ u37 rfl rfl
    have u51 := kp 1 _ u38 rfl rfl
    have u52 := kp 2 _ u39 rfl rfl
    have u53 := kp 3 _ u40 rfl rfl
    have u54 := kp 4 _ u41 rfl rfl
    have u55 := kp 5 _ u42 rfl rfl
    have u56 := kp 6 _ u43 rfl rfl
    have u57 := kp 7 _ u44 rfl rfl
    have u58 := kp 8 _ u45 rfl rfl
    have u59 := kp 10 _ u46 rfl rfl
    have u60 := kp 12 _ u47 rfl rfl
    have u61 := gn
    exact tie_mo_some_107 r_mo_shortest r_mo_shortestCount r_mo_least r_mo_all r_mo_some kl27 d hr_mo_shortest hr_mo_shortestCount hr_mo_least hr_mo_all hr_mo_some hk27 zLF t0 v1 v2 v3 v4 v5 v6 v7 v8 x12 v7 x48 q24.2 so _ u50 u51 u52 u53 u54 u55 u56 u57 u58 u59 u60 u61 hs
theorem tie_mo_some_319 (r_mo_shortest : Nat → Int32 → Int32 → Int32 → zM → Option (Int32 × zM)) (r_mo_shortestCount : Nat → Int32 → Int32 → zM → Option (Int32 × zM)) (r_mo_least : Nat → Int32 → Int32 → Int32 → zM → Option (Int32 × zM)) (r_mo_all : Nat → Int32 → Int32 → zM → Option (Int32 × zM)) (r_mo_some : Nat → Int32 → Int32 → Int32 → Int32 → Int32 → zM → Option (Int32 × zM)) (d : Nat) (hr_mo_shortest : ∀ a0 a1 a2 a3 M so, r_mo_shortest a0 a1 a2 a3 M = some so → Ev zq_T d 60 0 (zl_args 0 [.inr (.inr (12, some a0)), .inl a1, .inl a2, .inl a3]) [] M (some (.inl so.1), so.2)) (hr_mo_shortestCount : ∀ a0 a1 a2 M so, r_mo_shortestCount a0 a1 a2 M = some so → Ev zq_T d 61 0 (zl_args 0 [.inr (.inr (12, some a0)), .inl a1, .inl a2]) [] M (some (.inl so.1), so.2)) (hr_mo_least : ∀ a0 a1 a2 a3 M so, r_mo_least a0 a1 a2 a3 M = some so → Ev zq_T d 62 0 (zl_args 0 [.inr (.inr (12, some a0)), .inl a1, .inl a2, .inl a3]) [] M (some (.inl so.1), so.2)) (hr_mo_all : ∀ a0 a1 a2 M so, r_mo_all a0 a1 a2 M = some so → Ev zq_T d 63 0 (zl_args 0 [.inr (.inr (12, some a0)), .inl a1, .inl a2]) [] M (some (.inl so.1), so.2)) (hr_mo_some : ∀ a0 a1 a2 a3 a4 a5 M so, r_mo_some a0 a1 a2 a3 a4 a5 M = some so → Ev zq_T d 64 0 (zl_args 0 [.inr (.inr (12, some a0)), .inl a1, .inl a2, .inl a3, .inl a4, .inl a5]) [] M (some (.inl so.1), so.2)) : ∀ (fuel : Nat) (t0 : Nat) (v6 : Int32) (v8 : Int32) (v9 : Int32) (M : zM) (so : Int32 × zM) (ls : List (Nat × zV)), zl_get ls 0 = some (.inr (.inr (12, (some t0)))) → zl_get ls 6 = some (.inl v6) → zl_get ls 8 = some (.inl v8) → zl_get ls 9 = some (.inl v9) → mo_some_319 r_mo_shortest r_mo_shortestCount r_mo_least r_mo_all r_mo_some d fuel t0 v6 v8 v9 M = some so → Ev zq_T (d + 1) 64 319 ls [] M (some (.inl so.1), so.2) := by
  intro fuel
  induction fuel with
  | zero => intro t0 v6 v8 v9 M so ls g0 g6 g8 g9 hs; exact nomatch hs
  | succ fuel ih =>
    intro t0 v6 v8 v9 M so ls g0 g6 g8 g9 hs
    unfold mo_some_319 at hs
    refine e_ild cd_64_319 g9 ?_
    refine e_aldn cd_64_321 g0 ?_
    refine e_getI cd_64_322 (Or.inl fd_64_300) rfl ?_
    refine k_if hs (fun c1 hs => ?_) (fun c1 hs => ?_)
    · refine e_icJ cd_64_325 rfl c1 ?_
      refine e_aldn cd_64_354 g0 ?_
      refine e_ild cd_64_355 g6 ?_
      refine e_aldn cd_64_357 g0 ?_
      refine e_getI cd_64_358 (Or.inl fd_64_300) rfl ?_
      refine e_pure cd_64_361 rfl ?_
      refine e_ild cd_64_362 g8 ?_
      refine e_pure cd_64_364 rfl ?_
      refine k_let hs (fun M2 e3 hs => ?_)
      refine e_putI cd_64_365 pd_64_300 rfl e3 ?_
      refine e_aldn cd_64_368 g0 ?_
      refine e_pure cd_64_369 rfl ?_
      refine e_getI cd_64_370 (Or.inl fd_64_71) rfl ?_
      refine e_const cd_64_373 ci_1 ?_
      refine e_pure cd_64_374 rfl ?_
      refine k_let hs (fun M4 e5 hs => ?_)
      refine e_putI cd_64_375 pd_64_71 rfl e5 ?_
      refine e_const cd_64_378 ci_1 ?_
      have e := Option.some.inj hs
      subst e
      exact e_rz cd_64_379 nr_64 (Or.inr rfl)
    · refine e_icN cd_64_325 rfl c1 ?_
      refine e_aldn cd_64_328 g0 ?_
      refine e_getR cd_64_329 fd_64_62 rfl ?_
      refine e_ild cd_64_332 g6 ?_
      refine e_ild cd_64_334 g9 ?_
      refine e_pure cd_64_336 rfl ?_
      refine e_ild cd_64_337 g8 ?_
      refine e_pure cd_64_339 rfl ?_
      refine e_aldn cd_64_340 g0 ?_
      refine e_getR cd_64_341 fd_64_62 rfl ?_
      refine e_ild cd_64_344 g9 ?_
      refine k_opt hs (fun _ q => nomatch q) (fun k6 h7 hs => ?_)
      obtain ⟨c8, hs⟩ := z_ite hs
      refine e_bald cd_64_346 rfl h7 c8 ?_
      obtain ⟨c9, hs⟩ := z_ite hs
      refine k_let hs (fun M10 e11 hs => ?_)
      refine e_bast cd_64_347 rfl h7 c9 e11 ?_
      refine k_let hs (fun x12 e13 hs => ?_)
      refine e_incK cd_64_348 nl_64 rfl g9 ci_1 e13 ?_
      intro _ gn kp
      have u14 := kp 0 _ g0 rfl rfl
      have u15 := kp 6 _ g6 rfl rfl
      have u16 := kp 8 _ g8 rfl rfl
      have u17 := gn
      refine e_goto cd_64_351 rfl ?_
      exact ih t0 v6 v8 x12 M10 so _ u14 u15 u16 u17 hs
theorem tie_mo_some_255 (r_mo_shortest : Nat → Int32 → Int32 → Int32 → zM → Option (Int32 × zM)) (r_mo_shortestCount : Nat → Int32 → Int32 → zM → Option (Int32 × zM)) (r_mo_least : Nat → Int32 → Int32 → Int32 → zM → Option (Int32 × zM)) (r_mo_all : Nat → Int32 → Int32 → zM → Option (Int32 × zM)) (r_mo_some : Nat → Int32 → Int32 → Int32 → Int32 → Int32 → zM → Option (Int32 × zM)) (d : Nat) (hr_mo_shortest : ∀ a0 a1 a2 a3 M so, r_mo_shortest a0 a1 a2 a3 M = some so → Ev zq_T d 60 0 (zl_args 0 [.inr (.inr (12, some a0)), .inl a1, .inl a2, .inl a3]) [] M (some (.inl so.1), so.2)) (hr_mo_shortestCount : ∀ a0 a1 a2 M so, r_mo_shortestCount a0 a1 a2 M = some so → Ev zq_T d 61 0 (zl_args 0 [.inr (.inr (12, some a0)), .inl a1, .inl a2]) [] M (some (.inl so.1), so.2)) (hr_mo_least : ∀ a0 a1 a2 a3 M so, r_mo_least a0 a1 a2 a3 M = some so → Ev zq_T d 62 0 (zl_args 0 [.inr (.inr (12, some a0)), .inl a1, .inl a2, .inl a3]) [] M (some (.inl so.1), so.2)) (hr_mo_all : ∀ a0 a1 a2 M so, r_mo_all a0 a1 a2 M = some so → Ev zq_T d 63 0 (zl_args 0 [.inr (.inr (12, some a0)), .inl a1, .inl a2]) [] M (some (.inl so.1), so.2)) (hr_mo_some : ∀ a0 a1 a2 a3 a4 a5 M so, r_mo_some a0 a1 a2 a3 a4 a5 M = some so → Ev zq_T d 64 0 (zl_args 0 [.inr (.inr (12, some a0)), .inl a1, .inl a2, .inl a3, .inl a4, .inl a5]) [] M (some (.inl so.1), so.2)) : ∀ (fuel : Nat) (t0 : Nat) (v6 : Int32) (v7 : Int32) (v8 : Int32) (v9 : Int32) (M : zM) (so : Int32 × zM) (ls : List (Nat × zV)), zl_get ls 0 = some (.inr (.inr (12, (some t0)))) → zl_get ls 6 = some (.inl v6) → zl_get ls 7 = some (.inl v7) → zl_get ls 8 = some (.inl v8) → zl_get ls 9 = some (.inl v9) → mo_some_255 r_mo_shortest r_mo_shortestCount r_mo_least r_mo_all r_mo_some d fuel t0 v6 v7 v8 v9 M = some so → Ev zq_T (d + 1) 64 255 ls [] M (some (.inl so.1), so.2) := by
  intro fuel
  induction fuel with
  | zero => intro t0 v6 v7 v8 v9 M so ls g0 g6 g7 g8 g9 hs; exact nomatch hs
  | succ fuel ih =>
    intro t0 v6 v7 v8 v9 M so ls g0 g6 g7 g8 g9 hs
    unfold mo_some_255 at hs
    refine e_ild cd_64_255 g9 ?_
    refine e_ild cd_64_257 g7 ?_
    refine k_if hs (fun c1 hs => ?_) (fun c1 hs => ?_)
    · refine e_icJ cd_64_259 rfl c1 ?_
      refine e_ild cd_64_315 g8 ?_
      refine e_iK cd_64_317 nl_64 rfl rfl ?_
      intro _ gn kp
      have u2 := kp 0 _ g0 rfl rfl
      have u3 := kp 6 _ g6 rfl rfl
      have u4 := kp 8 _ g8 rfl rfl
      have u5 := gn
      exact tie_mo_some_319 r_mo_shortest r_mo_shortestCount r_mo_least r_mo_all r_mo_some d hr_mo_shortest hr_mo_shortestCount hr_mo_least hr_mo_all hr_mo_some zLF t0 v6 v8 v8 M so _ u2 u3 u4 u5 hs
    · refine e_icN cd_64_259 rfl c1 ?_
      refine e_aldn cd_64_262 g0 ?_
      refine e_aldn cd_64_263 g0 ?_
      refine e_getR cd_64_264 fd_64_65 rfl ?_
      refine e_const cd_64_267 ci_5 ?_
      refine e_aldn cd_64_268 g0 ?_
      refine e_getI cd_64_269 (Or.inl fd_64_71) rfl ?_
      refine e_pure cd_64_272 rfl ?_
      refine e_ild cd_64_273 g9 ?_
      refine e_pure cd_64_275 rfl ?_
      refine k_opt hs (fun _ q => nomatch q) (fun k6 h7 hs => ?_)
      obtain ⟨c8, hs⟩ := z_ite hs
      refine e_iald cd_64_276 rfl h7 c8 ?_
      refine e_aldn cd_64_277 g0 ?_
      refine e_getR cd_64_278 fd_64_65 rfl ?_
      refine e_const cd_64_281 ci_5 ?_
      refine e_aldn cd_64_282 g0 ?_
      refine e_getI cd_64_283 (Or.inl fd_64_71) rfl ?_
      refine e_pure cd_64_286 rfl ?_
      refine e_ild cd_64_287 g9 ?_
      refine e_pure cd_64_289 rfl ?_
      refine k_opt hs (fun _ q => nomatch q) (fun k9 h10 hs => ?_)
      obtain ⟨c11, hs⟩ := z_ite hs
      refine e_iald cd_64_290 rfl h10 c11 ?_
      refine e_aldn cd_64_291 g0 ?_
      refine e_getR cd_64_292 fd_64_68 rfl ?_
      refine e_const cd_64_295 ci_5 ?_
      refine e_aldn cd_64_296 g0 ?_
      refine e_getI cd_64_297 (Or.inl fd_64_71) rfl ?_
      refine e_pure cd_64_300 rfl ?_
      refine e_ild cd_64_301 g9 ?_
      refine e_pure cd_64_303 rfl ?_
      refine k_opt hs (fun _ q => nomatch q) (fun k12 h13 hs => ?_)
      obtain ⟨c14, hs⟩ := z_ite hs
      refine e_iald cd_64_304 rfl h13 c14 ?_
      refine e_pure cd_64_305 rfl ?_
      obtain ⟨q15, h16, hs⟩ := k_bind hs
      refine e_cvi cd_64_306 kd_64_322 rfl rfl rfl rfl rfl nl_57 rfl rfl (tie_mo_again d t0 (zm_I M 20 k6 ((5 * (zm_I M 12 t0 31)) + v9).toNatClampNeg) ((zm_I M 20 k9 ((5 * (zm_I M 12 t0 31)) + v9).toNatClampNeg) + (zm_I M 20 k12 ((5 * (zm_I M 12 t0 31)) + v9).toNatClampNeg)) M _ h16) ?_
      refine k_let hs (fun x17 e18 hs => ?_)
      refine e_incK cd_64_309 nl_64 rfl g9 ci_1 e18 ?_
      intro _ gn kp
      have u19 := kp 0 _ g0 rfl rfl
      have u20 := kp 6 _ g6 rfl rfl
      have u21 := kp 7 _ g7 rfl rfl
      have u22 := kp 8 _ g8 rfl rfl
      have u23 := gn
      refine e_goto cd_64_312 rfl ?_
      exact ih t0 v6 v7 v8 x17 q15 so _ u19 u20 u21 u22 u23 hs
theorem tie_mo_some_27 (r_mo_shortest : Nat → Int32 → Int32 → Int32 → zM → Option (Int32 × zM)) (r_mo_shortestCount : Nat → Int32 → Int32 → zM → Option (Int32 × zM)) (r_mo_least : Nat → Int32 → Int32 → Int32 → zM → Option (Int32 × zM)) (r_mo_all : Nat → Int32 → Int32 → zM → Option (Int32 × zM)) (r_mo_some : Nat → Int32 → Int32 → Int32 → Int32 → Int32 → zM → Option (Int32 × zM)) (d : Nat) (hr_mo_shortest : ∀ a0 a1 a2 a3 M so, r_mo_shortest a0 a1 a2 a3 M = some so → Ev zq_T d 60 0 (zl_args 0 [.inr (.inr (12, some a0)), .inl a1, .inl a2, .inl a3]) [] M (some (.inl so.1), so.2)) (hr_mo_shortestCount : ∀ a0 a1 a2 M so, r_mo_shortestCount a0 a1 a2 M = some so → Ev zq_T d 61 0 (zl_args 0 [.inr (.inr (12, some a0)), .inl a1, .inl a2]) [] M (some (.inl so.1), so.2)) (hr_mo_least : ∀ a0 a1 a2 a3 M so, r_mo_least a0 a1 a2 a3 M = some so → Ev zq_T d 62 0 (zl_args 0 [.inr (.inr (12, some a0)), .inl a1, .inl a2, .inl a3]) [] M (some (.inl so.1), so.2)) (hr_mo_all : ∀ a0 a1 a2 M so, r_mo_all a0 a1 a2 M = some so → Ev zq_T d 63 0 (zl_args 0 [.inr (.inr (12, some a0)), .inl a1, .inl a2]) [] M (some (.inl so.1), so.2)) (hr_mo_some : ∀ a0 a1 a2 a3 a4 a5 M so, r_mo_some a0 a1 a2 a3 a4 a5 M = some so → Ev zq_T d 64 0 (zl_args 0 [.inr (.inr (12, some a0)), .inl a1, .inl a2, .inl a3, .inl a4, .inl a5]) [] M (some (.inl so.1), so.2)) : ∀ (fuel : Nat) (t0 : Nat) (v1 : Int32) (v2 : Int32) (v3 : Int32) (v4 : Int32) (v5 : Int32) (v6 : Int32) (v7 : Int32) (v8 : Int32) (M : zM) (so : Int32 × zM) (ls : List (Nat × zV)), zl_get ls 0 = some (.inr (.inr (12, (some t0)))) → zl_get ls 1 = some (.inl v1) → zl_get ls 2 = some (.inl v2) → zl_get ls 3 = some (.inl v3) → zl_get ls 4 = some (.inl v4) → zl_get ls 5 = some (.inl v5) → zl_get ls 6 = some (.inl v6) → zl_get ls 7 = some (.inl v7) → zl_get ls 8 = some (.inl v8) → mo_some_27 r_mo_shortest r_mo_shortestCount r_mo_least r_mo_all r_mo_some d fuel t0 v1 v2 v3 v4 v5 v6 v7 v8 M = some so → Ev zq_T (d + 1) 64 27 ls [] M (some (.inl so.1), so.2) := by
  intro fuel
  induction fuel with
  | zero => intro t0 v1 v2 v3 v4 v5 v6 v7 v8 M so ls g0 g1 g2 g3 g4 g5 g6 g7 g8 hs; exact nomatch hs
  | succ fuel ih =>
    intro t0 v1 v2 v3 v4 v5 v6 v7 v8 M so ls g0 g1 g2 g3 g4 g5 g6 g7 g8 hs
    unfold mo_some_27 at hs
    refine e_ild cd_64_27 g8 ?_
    refine e_const cd_64_29 ci_m1 ?_
    refine k_if hs (fun c1 hs => ?_) (fun c1 hs => ?_)
    · refine e_icJ cd_64_30 rfl c1 ?_
      refine e_aldn cd_64_246 g0 ?_
      refine e_getI cd_64_247 (Or.inl fd_64_300) rfl ?_
      refine k_let hs (fun x2 e3 hs => ?_)
      refine e_iK cd_64_250 nl_64 rfl e3 ?_
      intro _ gn kp
      have u4 := kp 0 _ g0 rfl rfl
      have u5 := kp 6 _ g6 rfl rfl
      have u6 := kp 7 _ g7 rfl rfl
      have u7 := gn
      refine e_const cd_64_252 ci_0 ?_
      refine e_iK cd_64_253 nl_64 rfl rfl ?_
      intro _ gn kp
      have u8 := kp 0 _ u4 rfl rfl
      have u9 := kp 6 _ u5 rfl rfl
      have u10 := kp 7 _ u6 rfl rfl
      have u11 := kp 8 _ u7 rfl rfl
      have u12 := gn
      exact tie_mo_some_255 r_mo_shortest r_mo_shortestCount r_mo_least r_mo_all r_mo_some d hr_mo_shortest hr_mo_shortestCount hr_mo_least hr_mo_all hr_mo_some zLF t0 v6 v7 x2 0 M so _ u8 u9 u10 u11 u12 hs
    · refine e_icN cd_64_30 rfl c1 ?_
      refine e_ildn cd_64_33 g3 ?_
      refine e_const cd_64_34 ci_m1 ?_
      refine k_if hs (fun c13 hs => ?_) (fun c13 hs => ?_)
      · refine e_icN cd_64_35 rfl (fun q => q c13) ?_
        refine e_aldn cd_64_38 g0 ?_
        refine e_ildn cd_64_39 g1 ?_
        refine e_ild cd_64_40 g8 ?_
        obtain ⟨q14, h15, hs⟩ := k_bind hs
        refine e_cvi cd_64_42 kd_64_245 rfl rfl rfl rfl rfl nl_41 rfl rfl (tie_mo_isNull d t0 v1 v8 M _ h15) ?_
        refine k_if hs (fun c16 hs => ?_) (fun c16 hs => ?_)
        · refine e_izN cd_64_45 rfl (fun q => q c16) ?_
          refine e_const cd_64_48 ci_1 ?_
          refine e_goto cd_64_49 rfl ?_
          exact tie_mo_some_69 r_mo_shortest r_mo_shortestCount r_mo_least r_mo_all r_mo_some (fun p0 p1 p2 p3 p4 p5 p6 p7 p8 m => mo_some_27 r_mo_shortest r_mo_shortestCount r_mo_least r_mo_all r_mo_some d fuel p0 p1 p2 p3 p4 p5 p6 p7 p8 m) d hr_mo_shortest hr_mo_shortestCount hr_mo_least hr_mo_all hr_mo_some ih t0 v1 v2 v3 v4 v5 v6 v7 v8 1 q14.2 so _ g0 g1 g2 g3 g4 g5 g6 g7 g8 hs
        · refine e_izJ cd_64_45 rfl c16 ?_
          refine e_const cd_64_52 ci_0 ?_
          refine e_goto cd_64_53 rfl ?_
          exact tie_mo_some_69 r_mo_shortest r_mo_shortestCount r_mo_least r_mo_all r_mo_some (fun p0 p1 p2 p3 p4 p5 p6 p7 p8 m => mo_some_27 r_mo_shortest r_mo_shortestCount r_mo_least r_mo_all r_mo_some d fuel p0 p1 p2 p3 p4 p5 p6 p7 p8 m) d hr_mo_shortest hr_mo_shortestCount hr_mo_least hr_mo_all hr_mo_some ih t0 v1 v2 v3 v4 v5 v6 v7 v8 0 q14.2 so _ g0 g1 g2 g3 g4 g5 g6 g7 g8 hs
      · refine e_icJ cd_64_35 rfl c13 ?_
        refine e_aldn cd_64_56 g0 ?_
        refine e_ildn cd_64_57 g1 ?_
        refine e_ildn cd_64_58 g2 ?_
        refine e_ild cd_64_59 g8 ?_
        refine e_ildn cd_64_61 g3 ?_
        refine e_ild cd_64_62 g4 ?_
        refine e_ild cd_64_64 g5 ?_
        obtain ⟨q17, h18, hs⟩ := k_bind hs
        refine e_cvi cd_64_66 kd_64_285 rfl rfl rfl rfl rfl nl_53 rfl rfl (tie_mo_mustBeOver d t0 v1 v2 v8 v3 v4 v5 M _ h18) ?_
        exact tie_mo_some_69 r_mo_shortest r_mo_shortestCount r_mo_least r_mo_all r_mo_some (fun p0 p1 p2 p3 p4 p5 p6 p7 p8 m => mo_some_27 r_mo_shortest r_mo_shortestCount r_mo_least r_mo_all r_mo_some d fuel p0 p1 p2 p3 p4 p5 p6 p7 p8 m) d hr_mo_shortest hr_mo_shortestCount hr_mo_least hr_mo_all hr_mo_some ih t0 v1 v2 v3 v4 v5 v6 v7 v8 q17.1 q17.2 so _ g0 g1 g2 g3 g4 g5 g6 g7 g8 hs
theorem tieb_mo_some (r_mo_shortest : Nat → Int32 → Int32 → Int32 → zM → Option (Int32 × zM)) (r_mo_shortestCount : Nat → Int32 → Int32 → zM → Option (Int32 × zM)) (r_mo_least : Nat → Int32 → Int32 → Int32 → zM → Option (Int32 × zM)) (r_mo_all : Nat → Int32 → Int32 → zM → Option (Int32 × zM)) (r_mo_some : Nat → Int32 → Int32 → Int32 → Int32 → Int32 → zM → Option (Int32 × zM)) (d : Nat) (hr_mo_shortest : ∀ a0 a1 a2 a3 M so, r_mo_shortest a0 a1 a2 a3 M = some so → Ev zq_T d 60 0 (zl_args 0 [.inr (.inr (12, some a0)), .inl a1, .inl a2, .inl a3]) [] M (some (.inl so.1), so.2)) (hr_mo_shortestCount : ∀ a0 a1 a2 M so, r_mo_shortestCount a0 a1 a2 M = some so → Ev zq_T d 61 0 (zl_args 0 [.inr (.inr (12, some a0)), .inl a1, .inl a2]) [] M (some (.inl so.1), so.2)) (hr_mo_least : ∀ a0 a1 a2 a3 M so, r_mo_least a0 a1 a2 a3 M = some so → Ev zq_T d 62 0 (zl_args 0 [.inr (.inr (12, some a0)), .inl a1, .inl a2, .inl a3]) [] M (some (.inl so.1), so.2)) (hr_mo_all : ∀ a0 a1 a2 M so, r_mo_all a0 a1 a2 M = some so → Ev zq_T d 63 0 (zl_args 0 [.inr (.inr (12, some a0)), .inl a1, .inl a2]) [] M (some (.inl so.1), so.2)) (hr_mo_some : ∀ a0 a1 a2 a3 a4 a5 M so, r_mo_some a0 a1 a2 a3 a4 a5 M = some so → Ev zq_T d 64 0 (zl_args 0 [.inr (.inr (12, some a0)), .inl a1, .inl a2, .inl a3, .inl a4, .inl a5]) [] M (some (.inl so.1), so.2)) (a0 : Nat) (a1 : Int32) (a2 : Int32) (a3 : Int32) (a4 : Int32) (a5 : Int32) (M : zM) (so : Int32 × zM) (hs : mo_some_b r_mo_shortest r_mo_shortestCount r_mo_least r_mo_all r_mo_some d a0 a1 a2 a3 a4 a5 M = some so) : Ev zq_T (d + 1) 64 0 (zl_args 0 [.inr (.inr (12, some a0)), .inl a1, .inl a2, .inl a3, .inl a4, .inl a5]) [] M (some (.inl so.1), so.2) := by
  unfold mo_some_b at hs
  have g0 : zl_get (zl_args 0 [.inr (.inr (12, some a0)), .inl a1, .inl a2, .inl a3, .inl a4, .inl a5]) 0 = some (.inr (.inr (12, (some a0)))) := rfl
  have g1 : zl_get (zl_args 0 [.inr (.inr (12, some a0)), .inl a1, .inl a2, .inl a3, .inl a4, .inl a5]) 1 = some (.inl a1) := rfl
  have g2 : zl_get (zl_args 0 [.inr (.inr (12, some a0)), .inl a1, .inl a2, .inl a3, .inl a4, .inl a5]) 2 = some (.inl a2) := rfl
  have g3 : zl_get (zl_args 0 [.inr (.inr (12, some a0)), .inl a1, .inl a2, .inl a3, .inl a4, .inl a5]) 3 = some (.inl a3) := rfl
  have g4 : zl_get (zl_args 0 [.inr (.inr (12, some a0)), .inl a1, .inl a2, .inl a3, .inl a4, .inl a5]) 4 = some (.inl a4) := rfl
  have g5 : zl_get (zl_args 0 [.inr (.inr (12, some a0)), .inl a1, .inl a2, .inl a3, .inl a4, .inl a5]) 5 = some (.inl a5) := rfl
  refine e_aldn cd_64_0 g0 ?_
  refine e_pure cd_64_1 rfl ?_
  refine e_getI cd_64_2 (Or.inl fd_64_71) rfl ?_
  refine e_const cd_64_5 ci_1 ?_
  refine e_pure cd_64_6 rfl ?_
  refine k_let hs (fun M1 e2 hs => ?_)
  refine e_putI cd_64_7 pd_64_71 rfl e2 ?_
  refine e_aldn cd_64_10 g0 ?_
  refine e_getI cd_64_11 (Or.inl fd_64_300) rfl ?_
  refine k_let hs (fun x3 e4 hs => ?_)
  refine e_iK cd_64_14 nl_64 rfl e4 ?_
  intro _ gn kp
  have u5 := kp 0 _ g0 rfl rfl
  have u6 := kp 1 _ g1 rfl rfl
  have u7 := kp 2 _ g2 rfl rfl
  have u8 := kp 3 _ g3 rfl rfl
  have u9 := kp 4 _ g4 rfl rfl
  have u10 := kp 5 _ g5 rfl rfl
  have u11 := gn
  refine e_const cd_64_16 ci_0 ?_
  refine e_iK cd_64_17 nl_64 rfl rfl ?_
  intro _ gn kp
  have u12 := kp 0 _ u5 rfl rfl
  have u13 := kp 1 _ u6 rfl rfl
  have u14 := kp 2 _ u7 rfl rfl
  have u15 := kp 3 _ u8 rfl rfl
  have u16 := kp 4 _ u9 rfl rfl
  have u17 := kp 5 _ u10 rfl rfl
  have u18 := kp 6 _ u11 rfl rfl
  have u19 := gn
  refine e_aldn cd_64_19 u12 ?_
  refine e_ildn cd_64_20 u14 ?_
  refine e_const cd_64_21 ci_3 ?_
  obtain ⟨q20, h21, hs⟩ := k_bind hs
  refine e_cvi cd_64_22 kd_64_240 rfl rfl rfl rfl rfl nl_36 rfl rfl (tie_mo_at d a0 a2 3 M1 _ h21) ?_
  refine e_iK cd_64_25 nl_64 rfl rfl ?_
  intro _ gn kp
  have u22 := kp 0 _ u12 rfl rfl
  have u23 := kp 1 _ u13 rfl rfl
  have u24 := kp 2 _ u14 rfl rfl
  have u25 := kp 3 _ u15 rfl rfl
  have u26 := kp 4 _ u16 rfl rfl
  have u27 := kp 5 _ u17 rfl rfl
  have u28 := kp 6 _ u18 rfl rfl
  have u29 := kp 7 _ u19 rfl rfl
  have u30 := gn
  exact tie_mo_some_27 r_mo_shortest r_mo_shortestCount r_mo_least r_mo_all r_mo_some d hr_mo_shortest hr_mo_shortestCount hr_mo_least hr_mo_all hr_mo_some zLF a0 a1 a2 a3 a4 a5 x3 0 q20.1 q20.2 so _ u22 u23 u24 u25 u26 u27 u28 u29 u30 hs
theorem tieg_gmo_shortest (d : Nat) : (∀ (a0 : Nat) (a1 : Int32) (a2 : Int32) (a3 : Int32) (M : zM) (so : Int32 × zM), (gmo_shortest d).1 a0 a1 a2 a3 M = some so → Ev zq_T d 60 0 (zl_args 0 [.inr (.inr (12, some a0)), .inl a1, .inl a2, .inl a3]) [] M (some (.inl so.1), so.2)) ∧ (∀ (a0 : Nat) (a1 : Int32) (a2 : Int32) (M : zM) (so : Int32 × zM), (gmo_shortest d).2.1 a0 a1 a2 M = some so → Ev zq_T d 61 0 (zl_args 0 [.inr (.inr (12, some a0)), .inl a1, .inl a2]) [] M (some (.inl so.1), so.2)) ∧ (∀ (a0 : Nat) (a1 : Int32) (a2 : Int32) (a3 : Int32) (M : zM) (so : Int32 × zM), (gmo_shortest d).2.2.1 a0 a1 a2 a3 M = some so → Ev zq_T d 62 0 (zl_args 0 [.inr (.inr (12, some a0)), .inl a1, .inl a2, .inl a3]) [] M (some (.inl so.1), so.2)) ∧ (∀ (a0 : Nat) (a1 : Int32) (a2 : Int32) (M : zM) (so : Int32 × zM), (gmo_shortest d).2.2.2.1 a0 a1 a2 M = some so → Ev zq_T d 63 0 (zl_args 0 [.inr (.inr (12, some a0)), .inl a1, .inl a2]) [] M (some (.inl so.1), so.2)) ∧ (∀ (a0 : Nat) (a1 : Int32) (a2 : Int32) (a3 : Int32) (a4 : Int32) (a5 : Int32) (M : zM) (so : Int32 × zM), (gmo_shortest d).2.2.2.2 a0 a1 a2 a3 a4 a5 M = some so → Ev zq_T d 64 0 (zl_args 0 [.inr (.inr (12, some a0)), .inl a1, .inl a2, .inl a3, .inl a4, .inl a5]) [] M (some (.inl so.1), so.2)) := by
  induction d with
  | zero => exact ⟨(fun a0 a1 a2 a3 M so hs => nomatch hs), (fun a0 a1 a2 M so hs => nomatch hs), (fun a0 a1 a2 a3 M so hs => nomatch hs), (fun a0 a1 a2 M so hs => nomatch hs), (fun a0 a1 a2 a3 a4 a5 M so hs => nomatch hs)⟩
  | succ d ih => exact ⟨fun a0 a1 a2 a3 M so hs => tieb_mo_shortest (gmo_shortest d).1 (gmo_shortest d).2.1 (gmo_shortest d).2.2.1 (gmo_shortest d).2.2.2.1 (gmo_shortest d).2.2.2.2 d ih.1 ih.2.1 ih.2.2.1 ih.2.2.2.1 ih.2.2.2.2 a0 a1 a2 a3 M so hs, fun a0 a1 a2 M so hs => tieb_mo_shortestCount (gmo_shortest d).1 (gmo_shortest d).2.1 (gmo_shortest d).2.2.1 (gmo_shortest d).2.2.2.1 (gmo_shortest d).2.2.2.2 d ih.1 ih.2.1 ih.2.2.1 ih.2.2.2.1 ih.2.2.2.2 a0 a1 a2 M so hs, fun a0 a1 a2 a3 M so hs => tieb_mo_least (gmo_shortest d).1 (gmo_shortest d).2.1 (gmo_shortest d).2.2.1 (gmo_shortest d).2.2.2.1 (gmo_shortest d).2.2.2.2 d ih.1 ih.2.1 ih.2.2.1 ih.2.2.2.1 ih.2.2.2.2 a0 a1 a2 a3 M so hs, fun a0 a1 a2 M so hs => tieb_mo_all (gmo_shortest d).1 (gmo_shortest d).2.1 (gmo_shortest d).2.2.1 (gmo_shortest d).2.2.2.1 (gmo_shortest d).2.2.2.2 d ih.1 ih.2.1 ih.2.2.1 ih.2.2.2.1 ih.2.2.2.2 a0 a1 a2 M so hs, fun a0 a1 a2 a3 a4 a5 M so hs => tieb_mo_some (gmo_shortest d).1 (gmo_shortest d).2.1 (gmo_shortest d).2.2.1 (gmo_shortest d).2.2.2.1 (gmo_shortest d).2.2.2.2 d ih.1 ih.2.1 ih.2.2.1 ih.2.2.2.1 ih.2.2.2.2 a0 a1 a2 a3 a4 a5 M so hs⟩
theorem tie_mo_shortest (d : Nat) (a0 : Nat) (a1 : Int32) (a2 : Int32) (a3 : Int32) (M : zM) (so : Int32 × zM) (hs : mo_shortest d a0 a1 a2 a3 M = some so) : Ev zq_T d 60 0 (zl_args 0 [.inr (.inr (12, some a0)), .inl a1, .inl a2, .inl a3]) [] M (some (.inl so.1), so.2) := (tieg_gmo_shortest d).1 a0 a1 a2 a3 M so hs
theorem tie_mo_shortestCount (d : Nat) (a0 : Nat) (a1 : Int32) (a2 : Int32) (M : zM) (so : Int32 × zM) (hs : mo_shortestCount d a0 a1 a2 M = some so) : Ev zq_T d 61 0 (zl_args 0 [.inr (.inr (12, some a0)), .inl a1, .inl a2]) [] M (some (.inl so.1), so.2) := (tieg_gmo_shortest d).2.1 a0 a1 a2 M so hs
theorem tie_mo_least (d : Nat) (a0 : Nat) (a1 : Int32) (a2 : Int32) (a3 : Int32) (M : zM) (so : Int32 × zM) (hs : mo_least d a0 a1 a2 a3 M = some so) : Ev zq_T d 62 0 (zl_args 0 [.inr (.inr (12, some a0)), .inl a1, .inl a2, .inl a3]) [] M (some (.inl so.1), so.2) := (tieg_gmo_shortest d).2.2.1 a0 a1 a2 a3 M so hs
theorem tie_mo_all (d : Nat) (a0 : Nat) (a1 : Int32) (a2 : Int32) (M : zM) (so : Int32 × zM) (hs : mo_all d a0 a1 a2 M = some so) : Ev zq_T d 63 0 (zl_args 0 [.inr (.inr (12, some a0)), .inl a1, .inl a2]) [] M (some (.inl so.1), so.2) := (tieg_gmo_shortest d).2.2.2.1 a0 a1 a2 M so hs
theorem tie_mo_some (d : Nat) (a0 : Nat) (a1 : Int32) (a2 : Int32) (a3 : Int32) (a4 : Int32) (a5 : Int32) (M : zM) (so : Int32 × zM) (hs : mo_some d a0 a1 a2 a3 a4 a5 M = some so) : Ev zq_T d 64 0 (zl_args 0 [.inr (.inr (12, some a0)), .inl a1, .inl a2, .inl a3, .inl a4, .inl a5]) [] M (some (.inl so.1), so.2) := (tieg_gmo_shortest d).2.2.2.2 a0 a1 a2 a3 a4 a5 M so hs
theorem tieb_mo_wordOf  (d : Nat)  (a0 : Nat) (a1 : Int32) (M : zM) (so : Int32 × zM) (hs : mo_wordOf_b  d a0 a1 M = some so) : Ev zq_T (d + 1) 66 0 (zl_args 0 [.inr (.inr (12, some a0)), .inl a1]) [] M (some (.inl so.1), so.2) := by
  unfold mo_wordOf_b at hs
  have g0 : zl_get (zl_args 0 [.inr (.inr (12, some a0)), .inl a1]) 0 = some (.inr (.inr (12, (some a0)))) := rfl
  have g1 : zl_get (zl_args 0 [.inr (.inr (12, some a0)), .inl a1]) 1 = some (.inl a1) := rfl
  refine e_aldn cd_66_0 g0 ?_
  refine e_const cd_66_1 ci_0 ?_
  refine k_let hs (fun M1 e2 hs => ?_)
  refine e_putI cd_66_2 pd_66_300 rfl e2 ?_
  refine e_aldn cd_66_5 g0 ?_
  refine e_ildn cd_66_6 g1 ?_
  refine e_aldn cd_66_7 g0 ?_
  refine e_ildn cd_66_8 g1 ?_
  refine e_const cd_66_9 ci_1 ?_
  obtain ⟨q3, h4, hs⟩ := k_bind hs
  refine e_cvi cd_66_10 kd_66_258 rfl rfl rfl rfl rfl nl_35 rfl rfl (tie_mo_of d a0 a1 1 M1 _ h4) ?_
  refine e_const cd_66_13 ci_0 ?_
  obtain ⟨q5, h6, hs⟩ := k_bind hs
  refine e_cvi cd_66_14 kd_66_319 rfl rfl rfl rfl rfl nl_60 rfl rfl (tie_mo_shortest d a0 a1 q3.1 0 q3.2 _ h6) ?_
  refine e_iKn cd_66_17 nl_66 rfl rfl ?_
  intro _ gn kp
  have u7 := kp 0 _ g0 rfl rfl
  have u8 := gn
  refine e_aldn cd_66_18 u7 ?_
  refine e_getI cd_66_19 (Or.inl fd_66_300) rfl ?_
  have e := Option.some.inj hs
  subst e
  exact e_ri cd_66_22 nr_66
theorem tie_mo_wordOf (d : Nat) (a0 : Nat) (a1 : Int32) (M : zM) (so : Int32 × zM) (hs : mo_wordOf d a0 a1 M = some so) : Ev zq_T d 66 0 (zl_args 0 [.inr (.inr (12, some a0)), .inl a1]) [] M (some (.inl so.1), so.2) := by
  cases d with
  | zero => exact nomatch hs
  | succ d => exact tieb_mo_wordOf d a0 a1 M so hs
theorem tie_mo_ahead_168 (r_mo_ahead : Nat → Int32 → Int32 → Int32 → Int32 → Int32 → zM → Option (zM)) (kl122 : Nat → Int32 → Int32 → Int32 → Int32 → Int32 → Int32 → Int32 → zM → Option (zM)) (d : Nat) (hr_mo_ahead : ∀ a0 a1 a2 a3 a4 a5 M so, r_mo_ahead a0 a1 a2 a3 a4 a5 M = some so → Ev zq_T d 67 0 (zl_args 0 [.inr (.inr (12, some a0)), .inl a1, .inl a2, .inl a3, .inl a4, .inl a5]) [] M (none, so)) (hk122 : ∀ (t0 : Nat) (v1 : Int32) (v2 : Int32) (v3 : Int32) (v6 : Int32) (v7 : Int32) (v8 : Int32) (v9 : Int32) (M : zM) (so : zM) (ls : List (Nat × zV)), zl_get ls 0 = some (.inr (.inr (12, (some t0)))) → zl_get ls 1 = some (.inl v1) → zl_get ls 2 = some (.inl v2) → zl_get ls 3 = some (.inl v3) → zl_get ls 6 = some (.inl v6) → zl_get ls 7 = some (.inl v7) → zl_get ls 8 = some (.inl v8) → zl_get ls 9 = some (.inl v9) → kl122 t0 v1 v2 v3 v6 v7 v8 v9 M = some so → Ev zq_T (d + 1) 67 122 ls [] M (none, so)) (t0 : Nat) (v1 : Int32) (v2 : Int32) (v3 : Int32) (v6 : Int32) (v7 : Int32) (v8 : Int32) (v9 : Int32) (M : zM) (so : zM) (ls : List (Nat × zV)) (g0 : zl_get ls 0 = some (.inr (.inr (12, (some t0))))) (g1 : zl_get ls 1 = some (.inl v1)) (g2 : zl_get ls 2 = some (.inl v2)) (g3 : zl_get ls 3 = some (.inl v3)) (g6 : zl_get ls 6 = some (.inl v6)) (g7 : zl_get ls 7 = some (.inl v7)) (g8 : zl_get ls 8 = some (.inl v8)) (g9 : zl_get ls 9 = some (.inl v9)) (hs : mo_ahead_168 r_mo_ahead kl122 d t0 v1 v2 v3 v6 v7 v8 v9 M = some so) : Ev zq_T (d + 1) 67 168 ls [] M (none, so) := by
  unfold mo_ahead_168 at hs
  refine k_let hs (fun x1 e2 hs => ?_)
  refine e_incK cd_67_168 nl_67 rfl g9 ci_1 e2 ?_
  intro _ gn kp
  have u3 := kp 0 _ g0 rfl rfl
  have u4 := kp 1 _ g1 rfl rfl
  have u5 := kp 2 _ g2 rfl rfl
  have u6 := kp 3 _ g3 rfl rfl
  have u7 := kp 6 _ g6 rfl rfl
  have u8 := kp 7 _ g7 rfl rfl
  have u9 := kp 8 _ g8 rfl rfl
  have u10 := gn
  refine e_goto cd_67_171 rfl ?_
  exact hk122 t0 v1 v2 v3 v6 v7 v8 x1 M so _ u3 u4 u5 u6 u7 u8 u9 u10 hs
theorem tie_mo_ahead_194 (r_mo_ahead : Nat → Int32 → Int32 → Int32 → Int32 → Int32 → zM → Option (zM)) (d : Nat) (hr_mo_ahead : ∀ a0 a1 a2 a3 a4 a5 M so, r_mo_ahead a0 a1 a2 a3 a4 a5 M = some so → Ev zq_T d 67 0 (zl_args 0 [.inr (.inr (12, some a0)), .inl a1, .inl a2, .inl a3, .inl a4, .inl a5]) [] M (none, so))  (M : zM) (so : zM) (ls : List (Nat × zV))  (hs : mo_ahead_194 r_mo_ahead d  M = some so) : Ev zq_T (d + 1) 67 194 ls [] M (none, so) := by
  unfold mo_ahead_194 at hs
  have e := Option.some.inj hs
  subst e
  exact e_rv cd_67_194 nr_67
theorem tie_mo_ahead_174 (r_mo_ahead : Nat → Int32 → Int32 → Int32 → Int32 → Int32 → zM → Option (zM)) (d : Nat) (hr_mo_ahead : ∀ a0 a1 a2 a3 a4 a5 M so, r_mo_ahead a0 a1 a2 a3 a4 a5 M = some so → Ev zq_T d 67 0 (zl_args 0 [.inr (.inr (12, some a0)), .inl a1, .inl a2, .inl a3, .inl a4, .inl a5]) [] M (none, so)) (t0 : Nat) (v1 : Int32) (v2 : Int32) (v6 : Int32) (M : zM) (so : zM) (ls : List (Nat × zV)) (g0 : zl_get ls 0 = some (.inr (.inr (12, (some t0))))) (g1 : zl_get ls 1 = some (.inl v1)) (g2 : zl_get ls 2 = some (.inl v2)) (g6 : zl_get ls 6 = some (.inl v6)) (hs : mo_ahead_174 r_mo_ahead d t0 v1 v2 v6 M = some so) : Ev zq_T (d + 1) 67 174 ls [] M (none, so) := by
  unfold mo_ahead_174 at hs
  refine e_ild cd_67_174 g6 ?_
  refine k_if hs (fun c1 hs => ?_) (fun c1 hs => ?_)
  · refine e_izN cd_67_176 rfl (fun q => q c1) ?_
    refine e_aldn cd_67_179 g0 ?_
    refine e_aldn cd_67_180 g0 ?_
    refine e_ildn cd_67_181 g1 ?_
    refine e_aldn cd_67_182 g0 ?_
    refine e_ildn cd_67_183 g2 ?_
    refine e_const cd_67_184 ci_1 ?_
    obtain ⟨q2, h3, hs⟩ := k_bind hs
    refine e_cvi cd_67_185 kd_67_240 rfl rfl rfl rfl rfl nl_36 rfl rfl (tie_mo_at d t0 v2 1 M _ h3) ?_
    obtain ⟨q4, h5, hs⟩ := k_bind hs
    refine e_cvi cd_67_188 kd_67_289 rfl rfl rfl rfl rfl nl_39 rfl rfl (tie_mo_letterOf d t0 v1 q2.1 q2.2 _ h5) ?_
    obtain ⟨q6, h7, hs⟩ := k_bind hs
    refine e_cvi cd_67_191 kd_67_303 rfl rfl rfl rfl rfl nl_56 rfl rfl (tie_mo_writes d t0 q4.1 q4.2 _ h7) ?_
    exact tie_mo_ahead_194 r_mo_ahead d hr_mo_ahead  q6 so _  hs
  · refine e_izJ cd_67_176 rfl c1 ?_
    exact tie_mo_ahead_194 r_mo_ahead d hr_mo_ahead  M so _  hs
theorem tie_mo_ahead_122 (r_mo_ahead : Nat → Int32 → Int32 → Int32 → Int32 → Int32 → zM → Option (zM)) (d : Nat) (hr_mo_ahead : ∀ a0 a1 a2 a3 a4 a5 M so, r_mo_ahead a0 a1 a2 a3 a4 a5 M = some so → Ev zq_T d 67 0 (zl_args 0 [.inr (.inr (12, some a0)), .inl a1, .inl a2, .inl a3, .inl a4, .inl a5]) [] M (none, so)) : ∀ (fuel : Nat) (t0 : Nat) (v1 : Int32) (v2 : Int32) (v3 : Int32) (v6 : Int32) (v7 : Int32) (v8 : Int32) (v9 : Int32) (M : zM) (so : zM) (ls : List (Nat × zV)), zl_get ls 0 = some (.inr (.inr (12, (some t0)))) → zl_get ls 1 = some (.inl v1) → zl_get ls 2 = some (.inl v2) → zl_get ls 3 = some (.inl v3) → zl_get ls 6 = some (.inl v6) → zl_get ls 7 = some (.inl v7) → zl_get ls 8 = some (.inl v8) → zl_get ls 9 = some (.inl v9) → mo_ahead_122 r_mo_ahead d fuel t0 v1 v2 v3 v6 v7 v8 v9 M = some so → Ev zq_T (d + 1) 67 122 ls [] M (none, so) := by
  intro fuel
  induction fuel with
  | zero => intro t0 v1 v2 v3 v6 v7 v8 v9 M so ls g0 g1 g2 g3 g6 g7 g8 g9 hs; exact nomatch hs
  | succ fuel ih =>
    intro t0 v1 v2 v3 v6 v7 v8 v9 M so ls g0 g1 g2 g3 g6 g7 g8 g9 hs
    unfold mo_ahead_122 at hs
    refine e_ild cd_67_122 g9 ?_
    refine e_ild cd_67_124 g7 ?_
    refine k_if hs (fun c1 hs => ?_) (fun c1 hs => ?_)
    · refine e_icJ cd_67_126 rfl c1 ?_
      exact tie_mo_ahead_174 r_mo_ahead d hr_mo_ahead t0 v1 v2 v6 M so _ g0 g1 g2 g6 hs
    · refine e_icN cd_67_126 rfl c1 ?_
      refine e_ild cd_67_129 g9 ?_
      refine e_const cd_67_131 ci_1 ?_
      refine k_if hs (fun c2 hs => ?_) (fun c2 hs => ?_)
      · refine e_icN cd_67_132 rfl (fun q => q c2) ?_
        refine e_aldn cd_67_135 g0 ?_
        refine e_ildn cd_67_136 g1 ?_
        refine e_ildn cd_67_137 g3 ?_
        refine e_const cd_67_138 ci_1 ?_
        obtain ⟨q3, h4, hs⟩ := k_bind hs
        refine e_cvi cd_67_139 kd_67_319 rfl rfl rfl rfl rfl nl_60 rfl rfl (tie_mo_shortest d t0 v1 v3 1 M _ h4) ?_
        refine e_iK cd_67_142 nl_67 rfl rfl ?_
        intro _ gn kp
        have u5 := kp 0 _ g0 rfl rfl
        have u6 := kp 1 _ g1 rfl rfl
        have u7 := kp 2 _ g2 rfl rfl
        have u8 := kp 3 _ g3 rfl rfl
        have u9 := kp 6 _ g6 rfl rfl
        have u10 := kp 7 _ g7 rfl rfl
        have u11 := kp 8 _ g8 rfl rfl
        have u12 := kp 9 _ g9 rfl rfl
        have u13 := gn
        refine e_goto cd_67_144 rfl ?_
        exact tie_mo_ahead_168 r_mo_ahead (fun p0 p1 p2 p3 p4 p5 p6 p7 m => mo_ahead_122 r_mo_ahead d fuel p0 p1 p2 p3 p4 p5 p6 p7 m) d hr_mo_ahead ih t0 v1 v2 v3 v6 v7 v8 v9 q3.2 so _ u5 u6 u7 u8 u9 u10 u11 u12 hs
      · refine e_icJ cd_67_132 rfl c2 ?_
        refine e_aldn cd_67_147 g0 ?_
        refine e_ild cd_67_148 g8 ?_
        refine e_ild cd_67_150 g8 ?_
        refine e_aldn cd_67_152 g0 ?_
        refine e_getI cd_67_153 (Or.inl fd_67_300) rfl ?_
        refine e_ild cd_67_156 g8 ?_
        refine e_pure cd_67_158 rfl ?_
        refine e_ild cd_67_159 g9 ?_
        refine e_const cd_67_161 ci_1 ?_
        refine e_pure cd_67_162 rfl ?_
        obtain ⟨c14, hs⟩ := z_etI hs
        refine e_div cd_67_163 c14 ?_
        refine e_pure cd_67_164 rfl ?_
        obtain ⟨q15, h16, hs⟩ := k_bind hs
        refine e_cvi cd_67_165 kd_67_322 rfl rfl rfl rfl rfl nl_57 rfl rfl (tie_mo_again d t0 v8 (v8 + (((zm_I M 12 t0 28) - v8) / (v9 - 1))) M _ h16) ?_
        exact tie_mo_ahead_168 r_mo_ahead (fun p0 p1 p2 p3 p4 p5 p6 p7 m => mo_ahead_122 r_mo_ahead d fuel p0 p1 p2 p3 p4 p5 p6 p7 m) d hr_mo_ahead ih t0 v1 v2 v3 v6 v7 v8 v9 q15 so _ g0 g1 g2 g3 g6 g7 g8 g9 hs
theorem tie_mo_ahead_95 (r_mo_ahead : Nat → Int32 → Int32 → Int32 → Int32 → Int32 → zM → Option (zM)) (d : Nat) (hr_mo_ahead : ∀ a0 a1 a2 a3 a4 a5 M so, r_mo_ahead a0 a1 a2 a3 a4 a5 M = some so → Ev zq_T d 67 0 (zl_args 0 [.inr (.inr (12, some a0)), .inl a1, .inl a2, .inl a3, .inl a4, .inl a5]) [] M (none, so)) (t0 : Nat) (v1 : Int32) (v2 : Int32) (v3 : Int32) (v4 : Int32) (v5 : Int32) (v6 : Int32) (M : zM) (so : zM) (ls : List (Nat × zV)) (g0 : zl_get ls 0 = some (.inr (.inr (12, (some t0))))) (g1 : zl_get ls 1 = some (.inl v1)) (g2 : zl_get ls 2 = some (.inl v2)) (g3 : zl_get ls 3 = some (.inl v3)) (g4 : zl_get ls 4 = some (.inl v4)) (g5 : zl_get ls 5 = some (.inl v5)) (g6 : zl_get ls 6 = some (.inl v6)) (hs : mo_ahead_95 r_mo_ahead d t0 v1 v2 v3 v4 v5 v6 M = some so) : Ev zq_T (d + 1) 67 95 ls [] M (none, so) := by
  unfold mo_ahead_95 at hs
  refine e_ild cd_67_95 g6 ?_
  refine e_const cd_67_97 ci_5 ?_
  refine k_if hs (fun c1 hs => ?_) (fun c1 hs => ?_)
  · refine e_icN cd_67_98 rfl (fun q => q c1) ?_
    refine e_aldn cd_67_101 g0 ?_
    refine e_ildn cd_67_102 g1 ?_
    refine e_ildn cd_67_103 g2 ?_
    refine e_ild cd_67_104 g4 ?_
    refine e_ild cd_67_106 g5 ?_
    obtain ⟨q2, h3, hs⟩ := k_bind hs
    refine e_cvi cd_67_108 kd_67_281 rfl rfl rfl rfl rfl nl_51 rfl rfl (tie_mo_leastTime d t0 v1 v2 v4 v5 M _ h3) ?_
    refine e_iK cd_67_111 nl_67 rfl rfl ?_
    intro _ gn kp
    have u4 := kp 0 _ g0 rfl rfl
    have u5 := kp 1 _ g1 rfl rfl
    have u6 := kp 2 _ g2 rfl rfl
    have u7 := kp 3 _ g3 rfl rfl
    have u8 := kp 6 _ g6 rfl rfl
    have u9 := gn
    refine e_aldn cd_67_113 u4 ?_
    refine e_getI cd_67_114 (Or.inl fd_67_300) rfl ?_
    refine k_let hs (fun x10 e11 hs => ?_)
    refine e_iK cd_67_117 nl_67 rfl e11 ?_
    intro _ gn kp
    have u12 := kp 0 _ u4 rfl rfl
    have u13 := kp 1 _ u5 rfl rfl
    have u14 := kp 2 _ u6 rfl rfl
    have u15 := kp 3 _ u7 rfl rfl
    have u16 := kp 6 _ u8 rfl rfl
    have u17 := kp 7 _ u9 rfl rfl
    have u18 := gn
    refine e_const cd_67_119 ci_1 ?_
    refine e_iK cd_67_120 nl_67 rfl rfl ?_
    intro _ gn kp
    have u19 := kp 0 _ u12 rfl rfl
    have u20 := kp 1 _ u13 rfl rfl
    have u21 := kp 2 _ u14 rfl rfl
    have u22 := kp 3 _ u15 rfl rfl
    have u23 := kp 6 _ u16 rfl rfl
    have u24 := kp 7 _ u17 rfl rfl
    have u25 := kp 8 _ u18 rfl rfl
    have u26 := gn
    exact tie_mo_ahead_122 r_mo_ahead d hr_mo_ahead zLF t0 v1 v2 v3 v6 q2.1 x10 1 q2.2 so _ u19 u20 u21 u22 u23 u24 u25 u26 hs
  · refine e_icJ cd_67_98 rfl c1 ?_
    exact tie_mo_ahead_174 r_mo_ahead d hr_mo_ahead t0 v1 v2 v6 M so _ g0 g1 g2 g6 hs
theorem tie_mo_ahead_76 (r_mo_ahead : Nat → Int32 → Int32 → Int32 → Int32 → Int32 → zM → Option (zM)) (d : Nat) (hr_mo_ahead : ∀ a0 a1 a2 a3 a4 a5 M so, r_mo_ahead a0 a1 a2 a3 a4 a5 M = some so → Ev zq_T d 67 0 (zl_args 0 [.inr (.inr (12, some a0)), .inl a1, .inl a2, .inl a3, .inl a4, .inl a5]) [] M (none, so)) (t0 : Nat) (v1 : Int32) (v2 : Int32) (v3 : Int32) (v4 : Int32) (v5 : Int32) (v6 : Int32) (M : zM) (so : zM) (ls : List (Nat × zV)) (g0 : zl_get ls 0 = some (.inr (.inr (12, (some t0))))) (g1 : zl_get ls 1 = some (.inl v1)) (g2 : zl_get ls 2 = some (.inl v2)) (g3 : zl_get ls 3 = some (.inl v3)) (g4 : zl_get ls 4 = some (.inl v4)) (g5 : zl_get ls 5 = some (.inl v5)) (g6 : zl_get ls 6 = some (.inl v6)) (hs : mo_ahead_76 r_mo_ahead d t0 v1 v2 v3 v4 v5 v6 M = some so) : Ev zq_T (d + 1) 67 76 ls [] M (none, so) := by
  unfold mo_ahead_76 at hs
  refine e_ild cd_67_76 g6 ?_
  refine e_const cd_67_78 ci_4 ?_
  refine k_if hs (fun c1 hs => ?_) (fun c1 hs => ?_)
  · refine e_icN cd_67_79 rfl (fun q => q c1) ?_
    refine e_aldn cd_67_82 g0 ?_
    refine e_ildn cd_67_83 g1 ?_
    refine e_ildn cd_67_84 g2 ?_
    refine e_ildn cd_67_85 g3 ?_
    refine e_ild cd_67_86 g4 ?_
    refine e_ild cd_67_88 g5 ?_
    obtain ⟨q2, h3, hs⟩ := k_bind hs
    refine e_cvi cd_67_90 kd_67_328 rfl rfl rfl rfl rfl nl_64 rfl rfl (tie_mo_some d t0 v1 v2 v3 v4 v5 M _ h3) ?_
    refine e_iK cd_67_93 nl_67 rfl rfl ?_
    intro _ gn kp
    have u4 := kp 0 _ g0 rfl rfl
    have u5 := kp 1 _ g1 rfl rfl
    have u6 := kp 2 _ g2 rfl rfl
    have u7 := kp 3 _ g3 rfl rfl
    have u8 := kp 4 _ g4 rfl rfl
    have u9 := kp 5 _ g5 rfl rfl
    have u10 := kp 6 _ g6 rfl rfl
    have u11 := gn
    exact tie_mo_ahead_95 r_mo_ahead d hr_mo_ahead t0 v1 v2 v3 v4 v5 v6 q2.2 so _ u4 u5 u6 u7 u8 u9 u10 hs
  · refine e_icJ cd_67_79 rfl c1 ?_
    exact tie_mo_ahead_95 r_mo_ahead d hr_mo_ahead t0 v1 v2 v3 v4 v5 v6 M so _ g0 g1 g2 g3 g4 g5 g6 hs
theorem tie_mo_ahead_48 (r_mo_ahead : Nat → Int32 → Int32 → Int32 → Int32 → Int32 → zM → Option (zM)) (d : Nat) (hr_mo_ahead : ∀ a0 a1 a2 a3 a4 a5 M so, r_mo_ahead a0 a1 a2 a3 a4 a5 M = some so → Ev zq_T d 67 0 (zl_args 0 [.inr (.inr (12, some a0)), .inl a1, .inl a2, .inl a3, .inl a4, .inl a5]) [] M (none, so)) : ∀ (fuel : Nat) (t0 : Nat) (v1 : Int32) (v2 : Int32) (v3 : Int32) (v4 : Int32) (v5 : Int32) (v6 : Int32) (v7 : Int32) (M : zM) (so : zM) (ls : List (Nat × zV)), zl_get ls 0 = some (.inr (.inr (12, (some t0)))) → zl_get ls 1 = some (.inl v1) → zl_get ls 2 = some (.inl v2) → zl_get ls 3 = some (.inl v3) → zl_get ls 4 = some (.inl v4) → zl_get ls 5 = some (.inl v5) → zl_get ls 6 = some (.inl v6) → zl_get ls 7 = some (.inl v7) → mo_ahead_48 r_mo_ahead d fuel t0 v1 v2 v3 v4 v5 v6 v7 M = some so → Ev zq_T (d + 1) 67 48 ls [] M (none, so) := by
  intro fuel
  induction fuel with
  | zero => intro t0 v1 v2 v3 v4 v5 v6 v7 M so ls g0 g1 g2 g3 g4 g5 g6 g7 hs; exact nomatch hs
  | succ fuel ih =>
    intro t0 v1 v2 v3 v4 v5 v6 v7 M so ls g0 g1 g2 g3 g4 g5 g6 g7 hs
    unfold mo_ahead_48 at hs
    refine e_ild cd_67_48 g7 ?_
    refine e_ildn cd_67_50 g3 ?_
    refine k_if hs (fun c1 hs => ?_) (fun c1 hs => ?_)
    · refine e_icJ cd_67_51 rfl c1 ?_
      exact tie_mo_ahead_76 r_mo_ahead d hr_mo_ahead t0 v1 v2 v3 v4 v5 v6 M so _ g0 g1 g2 g3 g4 g5 g6 hs
    · refine e_icN cd_67_51 rfl c1 ?_
      refine e_aldn cd_67_54 g0 ?_
      refine e_ildn cd_67_55 g1 ?_
      refine e_ild cd_67_56 g7 ?_
      refine e_const cd_67_58 ci_0 ?_
      obtain ⟨q2, h3, hs⟩ := k_bind hs
      refine e_cvi cd_67_59 kd_67_319 rfl rfl rfl rfl rfl nl_60 rfl rfl (tie_mo_shortest d t0 v1 v7 0 M _ h3) ?_
      refine e_iK cd_67_62 nl_67 rfl rfl ?_
      intro _ gn kp
      have u4 := kp 0 _ g0 rfl rfl
      have u5 := kp 1 _ g1 rfl rfl
      have u6 := kp 2 _ g2 rfl rfl
      have u7 := kp 3 _ g3 rfl rfl
      have u8 := kp 4 _ g4 rfl rfl
      have u9 := kp 5 _ g5 rfl rfl
      have u10 := kp 6 _ g6 rfl rfl
      have u11 := kp 7 _ g7 rfl rfl
      have u12 := gn
      refine e_aldn cd_67_64 u4 ?_
      refine e_ild cd_67_65 u11 ?_
      refine e_const cd_67_67 ci_4 ?_
      obtain ⟨q13, h14, hs⟩ := k_bind hs
      refine e_cvi cd_67_68 kd_67_240 rfl rfl rfl rfl rfl nl_36 rfl rfl (tie_mo_at d t0 v7 4 q2.2 _ h14) ?_
      refine e_iK cd_67_71 nl_67 rfl rfl ?_
      intro _ gn kp
      have u15 := kp 0 _ u4 rfl rfl
      have u16 := kp 1 _ u5 rfl rfl
      have u17 := kp 2 _ u6 rfl rfl
      have u18 := kp 3 _ u7 rfl rfl
      have u19 := kp 4 _ u8 rfl rfl
      have u20 := kp 5 _ u9 rfl rfl
      have u21 := kp 6 _ u10 rfl rfl
      have u22 := gn
      refine e_goto cd_67_73 rfl ?_
      exact ih t0 v1 v2 v3 v4 v5 v6 q13.1 q13.2 so _ u15 u16 u17 u18 u19 u20 u21 u22 hs
theorem tie_mo_ahead_26 (r_mo_ahead : Nat → Int32 → Int32 → Int32 → Int32 → Int32 → zM → Option (zM)) (d : Nat) (hr_mo_ahead : ∀ a0 a1 a2 a3 a4 a5 M so, r_mo_ahead a0 a1 a2 a3 a4 a5 M = some so → Ev zq_T d 67 0 (zl_args 0 [.inr (.inr (12, some a0)), .inl a1, .inl a2, .inl a3, .inl a4, .inl a5]) [] M (none, so)) (t0 : Nat) (v1 : Int32) (v2 : Int32) (v3 : Int32) (v4 : Int32) (v5 : Int32) (M : zM) (so : zM) (ls : List (Nat × zV)) (g0 : zl_get ls 0 = some (.inr (.inr (12, (some t0))))) (g1 : zl_get ls 1 = some (.inl v1)) (g2 : zl_get ls 2 = some (.inl v2)) (g3 : zl_get ls 3 = some (.inl v3)) (g4 : zl_get ls 4 = some (.inl v4)) (g5 : zl_get ls 5 = some (.inl v5)) (hs : mo_ahead_26 r_mo_ahead d t0 v1 v2 v3 v4 v5 M = some so) : Ev zq_T (d + 1) 67 26 ls [] M (none, so) := by
  unfold mo_ahead_26 at hs
  refine e_aldn cd_67_26 g0 ?_
  refine e_ildn cd_67_27 g2 ?_
  refine e_const cd_67_28 ci_0 ?_
  obtain ⟨q1, h2, hs⟩ := k_bind hs
  refine e_cvi cd_67_29 kd_67_240 rfl rfl rfl rfl rfl nl_36 rfl rfl (tie_mo_at d t0 v2 0 M _ h2) ?_
  refine e_iK cd_67_32 nl_67 rfl rfl ?_
  intro _ gn kp
  have u3 := kp 0 _ g0 rfl rfl
  have u4 := kp 1 _ g1 rfl rfl
  have u5 := kp 2 _ g2 rfl rfl
  have u6 := kp 3 _ g3 rfl rfl
  have u7 := kp 4 _ g4 rfl rfl
  have u8 := kp 5 _ g5 rfl rfl
  have u9 := gn
  refine e_ild cd_67_34 u9 ?_
  refine e_const cd_67_36 ci_2 ?_
  refine k_if hs (fun c10 hs => ?_) (fun c10 hs => ?_)
  · refine e_icN cd_67_37 rfl (fun q => q c10) ?_
    refine e_aldn cd_67_40 u3 ?_
    refine e_ildn cd_67_41 u5 ?_
    refine e_const cd_67_42 ci_3 ?_
    obtain ⟨q11, h12, hs⟩ := k_bind hs
    refine e_cvi cd_67_43 kd_67_240 rfl rfl rfl rfl rfl nl_36 rfl rfl (tie_mo_at d t0 v2 3 q1.2 _ h12) ?_
    refine e_iK cd_67_46 nl_67 rfl rfl ?_
    intro _ gn kp
    have u13 := kp 0 _ u3 rfl rfl
    have u14 := kp 1 _ u4 rfl rfl
    have u15 := kp 2 _ u5 rfl rfl
    have u16 := kp 3 _ u6 rfl rfl
    have u17 := kp 4 _ u7 rfl rfl
    have u18 := kp 5 _ u8 rfl rfl
    have u19 := kp 6 _ u9 rfl rfl
    have u20 := gn
    exact tie_mo_ahead_48 r_mo_ahead d hr_mo_ahead zLF t0 v1 v2 v3 v4 v5 q1.1 q11.1 q11.2 so _ u13 u14 u15 u16 u17 u18 u19 u20 hs
  · refine e_icJ cd_67_37 rfl c10 ?_
    exact tie_mo_ahead_76 r_mo_ahead d hr_mo_ahead t0 v1 v2 v3 v4 v5 q1.1 q1.2 so _ u3 u4 u5 u6 u7 u8 u9 hs
theorem tieb_mo_ahead (r_mo_ahead : Nat → Int32 → Int32 → Int32 → Int32 → Int32 → zM → Option (zM)) (d : Nat) (hr_mo_ahead : ∀ a0 a1 a2 a3 a4 a5 M so, r_mo_ahead a0 a1 a2 a3 a4 a5 M = some so → Ev zq_T d 67 0 (zl_args 0 [.inr (.inr (12, some a0)), .inl a1, .inl a2, .inl a3, .inl a4, .inl a5]) [] M (none, so)) (a0 : Nat) (a1 : Int32) (a2 : Int32) (a3 : Int32) (a4 : Int32) (a5 : Int32) (M : zM) (so : zM) (hs : mo_ahead_b r_mo_ahead d a0 a1 a2 a3 a4 a5 M = some so) : Ev zq_T (d + 1) 67 0 (zl_args 0 [.inr (.inr (12, some a0)), .inl a1, .inl a2, .inl a3, .inl a4, .inl a5]) [] M (none, so) := by
  unfold mo_ahead_b at hs
  have g0 : zl_get (zl_args 0 [.inr (.inr (12, some a0)), .inl a1, .inl a2, .inl a3, .inl a4, .inl a5]) 0 = some (.inr (.inr (12, (some a0)))) := rfl
  have g1 : zl_get (zl_args 0 [.inr (.inr (12, some a0)), .inl a1, .inl a2, .inl a3, .inl a4, .inl a5]) 1 = some (.inl a1) := rfl
  have g2 : zl_get (zl_args 0 [.inr (.inr (12, some a0)), .inl a1, .inl a2, .inl a3, .inl a4, .inl a5]) 2 = some (.inl a2) := rfl
  have g3 : zl_get (zl_args 0 [.inr (.inr (12, some a0)), .inl a1, .inl a2, .inl a3, .inl a4, .inl a5]) 3 = some (.inl a3) := rfl
  have g4 : zl_get (zl_args 0 [.inr (.inr (12, some a0)), .inl a1, .inl a2, .inl a3, .inl a4, .inl a5]) 4 = some (.inl a4) := rfl
  have g5 : zl_get (zl_args 0 [.inr (.inr (12, some a0)), .inl a1, .inl a2, .inl a3, .inl a4, .inl a5]) 5 = some (.inl a5) := rfl
  refine e_aldn cd_67_0 g0 ?_
  refine e_ildn cd_67_1 g2 ?_
  refine e_const cd_67_2 ci_2 ?_
  obtain ⟨q1, h2, hs⟩ := k_bind hs
  refine e_cvi cd_67_3 kd_67_240 rfl rfl rfl rfl rfl nl_36 rfl rfl (tie_mo_at d a0 a2 2 M _ h2) ?_
  refine e_const cd_67_6 ci_m1 ?_
  refine k_if hs (fun c3 hs => ?_) (fun c3 hs => ?_)
  · refine e_icJ cd_67_7 rfl c3 ?_
    exact tie_mo_ahead_26 r_mo_ahead d hr_mo_ahead a0 a1 a2 a3 a4 a5 q1.2 so _ g0 g1 g2 g3 g4 g5 hs
  · refine e_icN cd_67_7 rfl c3 ?_
    refine e_aldn cd_67_10 g0 ?_
    refine e_ildn cd_67_11 g1 ?_
    refine e_aldn cd_67_12 g0 ?_
    refine e_ildn cd_67_13 g2 ?_
    refine e_const cd_67_14 ci_2 ?_
    obtain ⟨q4, h5, hs⟩ := k_bind hs
    refine e_cvi cd_67_15 kd_67_240 rfl rfl rfl rfl rfl nl_36 rfl rfl (tie_mo_at d a0 a2 2 q1.2 _ h5) ?_
    refine e_ildn cd_67_18 g2 ?_
    refine e_ild cd_67_19 g4 ?_
    refine e_ild cd_67_21 g5 ?_
    obtain ⟨q6, h7, hs⟩ := k_bind hs
    refine e_cvi cd_67_23 kd_67_334 rfl rfl rfl rfl rfl nl_67 rfl rfl (hr_mo_ahead a0 a1 q4.1 a2 a4 a5 q4.2 _ h7) ?_
    exact tie_mo_ahead_26 r_mo_ahead d hr_mo_ahead a0 a1 a2 a3 a4 a5 q6 so _ g0 g1 g2 g3 g4 g5 hs
theorem tie_mo_ahead (d : Nat) : ∀ (a0 : Nat) (a1 : Int32) (a2 : Int32) (a3 : Int32) (a4 : Int32) (a5 : Int32) (M : zM) (so : zM), mo_ahead d a0 a1 a2 a3 a4 a5 M = some so → Ev zq_T d 67 0 (zl_args 0 [.inr (.inr (12, some a0)), .inl a1, .inl a2, .inl a3, .inl a4, .inl a5]) [] M (none, so) := by
  induction d with
  | zero => intro a0 a1 a2 a3 a4 a5 M so hs; exact nomatch hs
  | succ d ih => intro a0 a1 a2 a3 a4 a5 M so hs; exact tieb_mo_ahead _ d ih a0 a1 a2 a3 a4 a5 M so hs
theorem tie_mo_isUnlike_20  (d : Nat)  (s0 : Int32) (M : zM) (so : Int32 × zM) (ls : List (Nat × zV))  (hs : mo_isUnlike_20  d s0 M = some so) : Ev zq_T d 68 20 ls [.inl s0] M (some (.inl so.1), so.2) := by
  unfold mo_isUnlike_20 at hs
  obtain ⟨c1, hs⟩ := z_ite hs
  have e := Option.some.inj hs
  subst e
  exact e_rz cd_68_20 nr_68 c1
theorem tie_mo_isUnlike (d : Nat) (a0 : Nat) (a1 : Int32) (a2 : Int32) (M : zM) (so : Int32 × zM) (hs : mo_isUnlike d a0 a1 a2 M = some so) : Ev zq_T d 68 0 (zl_args 0 [.inr (.inr (12, some a0)), .inl a1, .inl a2]) [] M (some (.inl so.1), so.2) := by
  unfold mo_isUnlike at hs
  have g0 : zl_get (zl_args 0 [.inr (.inr (12, some a0)), .inl a1, .inl a2]) 0 = some (.inr (.inr (12, (some a0)))) := rfl
  have g1 : zl_get (zl_args 0 [.inr (.inr (12, some a0)), .inl a1, .inl a2]) 1 = some (.inl a1) := rfl
  have g2 : zl_get (zl_args 0 [.inr (.inr (12, some a0)), .inl a1, .inl a2]) 2 = some (.inl a2) := rfl
  refine e_aldn cd_68_0 g0 ?_
  refine e_getR cd_68_1 fd_68_50 rfl ?_
  refine e_ildn cd_68_4 g1 ?_
  refine k_opt hs (fun _ q => nomatch q) (fun k1 h2 hs => ?_)
  obtain ⟨c3, hs⟩ := z_ite hs
  refine e_iald cd_68_5 rfl h2 c3 ?_
  refine e_aldn cd_68_6 g0 ?_
  refine e_getR cd_68_7 fd_68_50 rfl ?_
  refine e_ildn cd_68_10 g2 ?_
  refine k_opt hs (fun _ q => nomatch q) (fun k4 h5 hs => ?_)
  obtain ⟨c6, hs⟩ := z_ite hs
  refine e_iald cd_68_11 rfl h5 c6 ?_
  refine k_if hs (fun c7 hs => ?_) (fun c7 hs => ?_)
  · refine e_icJ cd_68_12 rfl c7 ?_
    refine e_const cd_68_19 ci_0 ?_
    exact tie_mo_isUnlike_20  d  0 M so _  hs
  · refine e_icN cd_68_12 rfl c7 ?_
    refine e_const cd_68_15 ci_1 ?_
    refine e_goto cd_68_16 rfl ?_
    exact tie_mo_isUnlike_20  d  1 M so _  hs
theorem tie_mo_conflicts_80 (kl5 : Nat → Int32 → Int32 → Int32 → Int32 → zM → Option (Int32 × zM)) (kl26 : Nat → Int32 → Int32 → Int32 → Int32 → Int32 → zM → Option (Int32 × zM)) (kl38 : Nat → Int32 → Int32 → Int32 → Int32 → Int32 → Int32 → zM → Option (Int32 × zM)) (d : Nat) (hk5 : ∀ (t0 : Nat) (v1 : Int32) (v2 : Int32) (v3 : Int32) (v4 : Int32) (M : zM) (so : Int32 × zM) (ls : List (Nat × zV)), zl_get ls 0 = some (.inr (.inr (12, (some t0)))) → zl_get ls 1 = some (.inl v1) → zl_get ls 2 = some (.inl v2) → zl_get ls 3 = some (.inl v3) → zl_get ls 4 = some (.inl v4) → kl5 t0 v1 v2 v3 v4 M = some so → Ev zq_T (d + 1) 69 5 ls [] M (some (.inl so.1), so.2)) (hk26 : ∀ (t0 : Nat) (v1 : Int32) (v2 : Int32) (v3 : Int32) (v4 : Int32) (v5 : Int32) (M : zM) (so : Int32 × zM) (ls : List (Nat × zV)), zl_get ls 0 = some (.inr (.inr (12, (some t0)))) → zl_get ls 1 = some (.inl v1) → zl_get ls 2 = some (.inl v2) → zl_get ls 3 = some (.inl v3) → zl_get ls 4 = some (.inl v4) → zl_get ls 5 = some (.inl v5) → kl26 t0 v1 v2 v3 v4 v5 M = some so → Ev zq_T (d + 1) 69 26 ls [] M (some (.inl so.1), so.2)) (hk38 : ∀ (t0 : Nat) (v1 : Int32) (v2 : Int32) (v3 : Int32) (v4 : Int32) (v5 : Int32) (v6 : Int32) (M : zM) (so : Int32 × zM) (ls : List (Nat × zV)), zl_get ls 0 = some (.inr (.inr (12, (some t0)))) → zl_get ls 1 = some (.inl v1) → zl_get ls 2 = some (.inl v2) → zl_get ls 3 = some (.inl v3) → zl_get ls 4 = some (.inl v4) → zl_get ls 5 = some (.inl v5) → zl_get ls 6 = some (.inl v6) → kl38 t0 v1 v2 v3 v4 v5 v6 M = some so → Ev zq_T (d + 1) 69 38 ls [] M (some (.inl so.1), so.2)) (t0 : Nat) (v1 : Int32) (v2 : Int32) (v4 : Int32) (v5 : Int32) (v6 : Int32) (s0 : Int32) (s1 : Int32) (M : zM) (so : Int32 × zM) (ls : List (Nat × zV)) (g0 : zl_get ls 0 = some (.inr (.inr (12, (some t0))))) (g1 : zl_get ls 1 = some (.inl v1)) (g2 : zl_get ls 2 = some (.inl v2)) (g4 : zl_get ls 4 = some (.inl v4)) (g5 : zl_get ls 5 = some (.inl v5)) (g6 : zl_get ls 6 = some (.inl v6)) (hs : mo_conflicts_80 kl5 kl26 kl38 d t0 v1 v2 v4 v5 v6 s0 s1 M = some so) : Ev zq_T (d + 1) 69 80 ls [.inl s1, .inl s0] M (some (.inl so.1), so.2) := by
  unfold mo_conflicts_80 at hs
  refine e_pure cd_69_80 rfl ?_
  refine k_let hs (fun x1 e2 hs => ?_)
  refine e_iKn cd_69_81 nl_69 rfl e2 ?_
  intro _ gn kp
  have u3 := kp 0 _ g0 rfl rfl
  have u4 := kp 1 _ g1 rfl rfl
  have u5 := kp 2 _ g2 rfl rfl
  have u6 := kp 4 _ g4 rfl rfl
  have u7 := kp 5 _ g5 rfl rfl
  have u8 := kp 6 _ g6 rfl rfl
  have u9 := gn
  refine k_let hs (fun x10 e11 hs => ?_)
  refine e_incK cd_69_82 nl_69 rfl u8 ci_1 e11 ?_
  intro _ gn kp
  have u12 := kp 0 _ u3 rfl rfl
  have u13 := kp 1 _ u4 rfl rfl
  have u14 := kp 2 _ u5 rfl rfl
  have u15 := kp 4 _ u6 rfl rfl
  have u16 := kp 5 _ u7 rfl rfl
  have u17 := kp 3 _ u9 rfl rfl
  have u18 := gn
  refine e_goto cd_69_85 rfl ?_
  exact hk38 t0 v1 v2 x1 v4 v5 x10 M so _ u12 u13 u14 u17 u15 u16 u18 hs
theorem tie_mo_conflicts_79 (kl5 : Nat → Int32 → Int32 → Int32 → Int32 → zM → Option (Int32 × zM)) (kl26 : Nat → Int32 → Int32 → Int32 → Int32 → Int32 → zM → Option (Int32 × zM)) (kl38 : Nat → Int32 → Int32 → Int32 → Int32 → Int32 → Int32 → zM → Option (Int32 × zM)) (d : Nat) (hk5 : ∀ (t0 : Nat) (v1 : Int32) (v2 : Int32) (v3 : Int32) (v4 : Int32) (M : zM) (so : Int32 × zM) (ls : List (Nat × zV)), zl_get ls 0 = some (.inr (.inr (12, (some t0)))) → zl_get ls 1 = some (.inl v1) → zl_get ls 2 = some (.inl v2) → zl_get ls 3 = some (.inl v3) → zl_get ls 4 = some (.inl v4) → kl5 t0 v1 v2 v3 v4 M = some so → Ev zq_T (d + 1) 69 5 ls [] M (some (.inl so.1), so.2)) (hk26 : ∀ (t0 : Nat) (v1 : Int32) (v2 : Int32) (v3 : Int32) (v4 : Int32) (v5 : Int32) (M : zM) (so : Int32 × zM) (ls : List (Nat × zV)), zl_get ls 0 = some (.inr (.inr (12, (some t0)))) → zl_get ls 1 = some (.inl v1) → zl_get ls 2 = some (.inl v2) → zl_get ls 3 = some (.inl v3) → zl_get ls 4 = some (.inl v4) → zl_get ls 5 = some (.inl v5) → kl26 t0 v1 v2 v3 v4 v5 M = some so → Ev zq_T (d + 1) 69 26 ls [] M (some (.inl so.1), so.2)) (hk38 : ∀ (t0 : Nat) (v1 : Int32) (v2 : Int32) (v3 : Int32) (v4 : Int32) (v5 : Int32) (v6 : Int32) (M : zM) (so : Int32 × zM) (ls : List (Nat × zV)), zl_get ls 0 = some (.inr (.inr (12, (some t0)))) → zl_get ls 1 = some (.inl v1) → zl_get ls 2 = some (.inl v2) → zl_get ls 3 = some (.inl v3) → zl_get ls 4 = some (.inl v4) → zl_get ls 5 = some (.inl v5) → zl_get ls 6 = some (.inl v6) → kl38 t0 v1 v2 v3 v4 v5 v6 M = some so → Ev zq_T (d + 1) 69 38 ls [] M (some (.inl so.1), so.2)) (t0 : Nat) (v1 : Int32) (v2 : Int32) (v4 : Int32) (v5 : Int32) (v6 : Int32) (s0 : Int32) (M : zM) (so : Int32 × zM) (ls : List (Nat × zV)) (g0 : zl_get ls 0 = some (.inr (.inr (12, (some t0))))) (g1 : zl_get ls 1 = some (.inl v1)) (g2 : zl_get ls 2 = some (.inl v2)) (g4 : zl_get ls 4 = some (.inl v4)) (g5 : zl_get ls 5 = some (.inl v5)) (g6 : zl_get ls 6 = some (.inl v6)) (hs : mo_conflicts_79 kl5 kl26 kl38 d t0 v1 v2 v4 v5 v6 s0 M = some so) : Ev zq_T (d + 1) 69 79 ls [.inl s0] M (some (.inl so.1), so.2) := by
  unfold mo_conflicts_79 at hs
  refine e_const cd_69_79 ci_0 ?_
  exact tie_mo_conflicts_80 kl5 kl26 kl38 d hk5 hk26 hk38 t0 v1 v2 v4 v5 v6 s0 0 M so _ g0 g1 g2 g4 g5 g6 hs
theorem tie_mo_conflicts_61 (kl5 : Nat → Int32 → Int32 → Int32 → Int32 → zM → Option (Int32 × zM)) (kl26 : Nat → Int32 → Int32 → Int32 → Int32 → Int32 → zM → Option (Int32 × zM)) (kl38 : Nat → Int32 → Int32 → Int32 → Int32 → Int32 → Int32 → zM → Option (Int32 × zM)) (d : Nat) (hk5 : ∀ (t0 : Nat) (v1 : Int32) (v2 : Int32) (v3 : Int32) (v4 : Int32) (M : zM) (so : Int32 × zM) (ls : List (Nat × zV)), zl_get ls 0 = some (.inr (.inr (12, (some t0)))) → zl_get ls 1 = some (.inl v1) → zl_get ls 2 = some (.inl v2) → zl_get ls 3 = some (.inl v3) → zl_get ls 4 = some (.inl v4) → kl5 t0 v1 v2 v3 v4 M = some so → Ev zq_T (d + 1) 69 5 ls [] M (some (.inl so.1), so.2)) (hk26 : ∀ (t0 : Nat) (v1 : Int32) (v2 : Int32) (v3 : Int32) (v4 : Int32) (v5 : Int32) (M : zM) (so : Int32 × zM) (ls : List (Nat × zV)), zl_get ls 0 = some (.inr (.inr (12, (some t0)))) → zl_get ls 1 = some (.inl v1) → zl_get ls 2 = some (.inl v2) → zl_get ls 3 = some (.inl v3) → zl_get ls 4 = some (.inl v4) → zl_get ls 5 = some (.inl v5) → kl26 t0 v1 v2 v3 v4 v5 M = some so → Ev zq_T (d + 1) 69 26 ls [] M (some (.inl so.1), so.2)) (hk38 : ∀ (t0 : Nat) (v1 : Int32) (v2 : Int32) (v3 : Int32) (v4 : Int32) (v5 : Int32) (v6 : Int32) (M : zM) (so : Int32 × zM) (ls : List (Nat × zV)), zl_get ls 0 = some (.inr (.inr (12, (some t0)))) → zl_get ls 1 = some (.inl v1) → zl_get ls 2 = some (.inl v2) → zl_get ls 3 = some (.inl v3) → zl_get ls 4 = some (.inl v4) → zl_get ls 5 = some (.inl v5) → zl_get ls 6 = some (.inl v6) → kl38 t0 v1 v2 v3 v4 v5 v6 M = some so → Ev zq_T (d + 1) 69 38 ls [] M (some (.inl so.1), so.2)) (t0 : Nat) (v1 : Int32) (v2 : Int32) (v4 : Int32) (v5 : Int32) (v6 : Int32) (s0 : Int32) (M : zM) (so : Int32 × zM) (ls : List (Nat × zV)) (g0 : zl_get ls 0 = some (.inr (.inr (12, (some t0))))) (g1 : zl_get ls 1 = some (.inl v1)) (g2 : zl_get ls 2 = some (.inl v2)) (g4 : zl_get ls 4 = some (.inl v4)) (g5 : zl_get ls 5 = some (.inl v5)) (g6 : zl_get ls 6 = some (.inl v6)) (hs : mo_conflicts_61 kl5 kl26 kl38 d t0 v1 v2 v4 v5 v6 s0 M = some so) : Ev zq_T (d + 1) 69 61 ls [.inl s0] M (some (.inl so.1), so.2) := by
  unfold mo_conflicts_61 at hs
  refine e_aldn cd_69_61 g0 ?_
  refine e_ildn cd_69_62 g1 ?_
  refine e_ild cd_69_63 g4 ?_
  refine e_ild cd_69_65 g5 ?_
  refine e_ild cd_69_67 g6 ?_
  obtain ⟨q1, h2, hs⟩ := k_bind hs
  refine e_cvi cd_69_69 kd_69_344 rfl rfl rfl rfl rfl nl_55 rfl rfl (tie_mo_areBoth d t0 v1 v4 v5 v6 M _ h2) ?_
  refine k_if hs (fun c3 hs => ?_) (fun c3 hs => ?_)
  · refine e_izJ cd_69_72 rfl c3 ?_
    exact tie_mo_conflicts_79 kl5 kl26 kl38 d hk5 hk26 hk38 t0 v1 v2 v4 v5 v6 s0 q1.2 so _ g0 g1 g2 g4 g5 g6 hs
  · refine e_izN cd_69_72 rfl c3 ?_
    refine e_const cd_69_75 ci_1 ?_
    refine e_goto cd_69_76 rfl ?_
    exact tie_mo_conflicts_80 kl5 kl26 kl38 d hk5 hk26 hk38 t0 v1 v2 v4 v5 v6 s0 1 q1.2 so _ g0 g1 g2 g4 g5 g6 hs
theorem tie_mo_conflicts_38 (kl5 : Nat → Int32 → Int32 → Int32 → Int32 → zM → Option (Int32 × zM)) (kl26 : Nat → Int32 → Int32 → Int32 → Int32 → Int32 → zM → Option (Int32 × zM)) (d : Nat) (hk5 : ∀ (t0 : Nat) (v1 : Int32) (v2 : Int32) (v3 : Int32) (v4 : Int32) (M : zM) (so : Int32 × zM) (ls : List (Nat × zV)), zl_get ls 0 = some (.inr (.inr (12, (some t0)))) → zl_get ls 1 = some (.inl v1) → zl_get ls 2 = some (.inl v2) → zl_get ls 3 = some (.inl v3) → zl_get ls 4 = some (.inl v4) → kl5 t0 v1 v2 v3 v4 M = some so → Ev zq_T (d + 1) 69 5 ls [] M (some (.inl so.1), so.2)) (hk26 : ∀ (t0 : Nat) (v1 : Int32) (v2 : Int32) (v3 : Int32) (v4 : Int32) (v5 : Int32) (M : zM) (so : Int32 × zM) (ls : List (Nat × zV)), zl_get ls 0 = some (.inr (.inr (12, (some t0)))) → zl_get ls 1 = some (.inl v1) → zl_get ls 2 = some (.inl v2) → zl_get ls 3 = some (.inl v3) → zl_get ls 4 = some (.inl v4) → zl_get ls 5 = some (.inl v5) → kl26 t0 v1 v2 v3 v4 v5 M = some so → Ev zq_T (d + 1) 69 26 ls [] M (some (.inl so.1), so.2)) : ∀ (fuel : Nat) (t0 : Nat) (v1 : Int32) (v2 : Int32) (v3 : Int32) (v4 : Int32) (v5 : Int32) (v6 : Int32) (M : zM) (so : Int32 × zM) (ls : List (Nat × zV)), zl_get ls 0 = some (.inr (.inr (12, (some t0)))) → zl_get ls 1 = some (.inl v1) → zl_get ls 2 = some (.inl v2) → zl_get ls 3 = some (.inl v3) → zl_get ls 4 = some (.inl v4) → zl_get ls 5 = some (.inl v5) → zl_get ls 6 = some (.inl v6) → mo_conflicts_38 kl5 kl26 d fuel t0 v1 v2 v3 v4 v5 v6 M = some so → Ev zq_T (d + 1) 69 38 ls [] M (some (.inl so.1), so.2) := by
  intro fuel
  induction fuel with
  | zero => intro t0 v1 v2 v3 v4 v5 v6 M so ls g0 g1 g2 g3 g4 g5 g6 hs; exact nomatch hs
  | succ fuel ih =>
    intro t0 v1 v2 v3 v4 v5 v6 M so ls g0 g1 g2 g3 g4 g5 g6 hs
    unfold mo_conflicts_38 at hs
    refine e_ild cd_69_38 g6 ?_
    refine e_ild cd_69_40 g5 ?_
    refine k_if hs (fun c1 hs => ?_) (fun c1 hs => ?_)
    · refine e_icJ cd_69_42 rfl c1 ?_
      refine k_let hs (fun x2 e3 hs => ?_)
      refine e_incK cd_69_88 nl_69 rfl g5 ci_1 e3 ?_
      intro _ gn kp
      have u4 := kp 0 _ g0 rfl rfl
      have u5 := kp 1 _ g1 rfl rfl
      have u6 := kp 2 _ g2 rfl rfl
      have u7 := kp 3 _ g3 rfl rfl
      have u8 := kp 4 _ g4 rfl rfl
      have u9 := gn
      refine e_goto cd_69_91 rfl ?_
      exact hk26 t0 v1 v2 v3 v4 x2 M so _ u4 u5 u6 u7 u8 u9 hs
    · refine e_icN cd_69_42 rfl c1 ?_
      refine e_ildn cd_69_45 g3 ?_
      refine e_ildn cd_69_46 g2 ?_
      refine k_if hs (fun c10 hs => ?_) (fun c10 hs => ?_)
      · refine e_izJ cd_69_47 rfl c10 ?_
        exact tie_mo_conflicts_61 kl5 kl26 (fun p0 p1 p2 p3 p4 p5 p6 m => mo_conflicts_38 kl5 kl26 d fuel p0 p1 p2 p3 p4 p5 p6 m) d hk5 hk26 ih t0 v1 v2 v4 v5 v6 v3 M so _ g0 g1 g2 g4 g5 g6 hs
      · refine e_izN cd_69_47 rfl c10 ?_
        refine e_aldn cd_69_50 g0 ?_
        refine e_ild cd_69_51 g5 ?_
        refine e_ild cd_69_53 g6 ?_
        obtain ⟨q11, h12, hs⟩ := k_bind hs
        refine e_cvi cd_69_55 kd_69_341 rfl rfl rfl rfl rfl nl_68 rfl rfl (tie_mo_isUnlike d t0 v5 v6 M _ h12) ?_
        refine k_if hs (fun c13 hs => ?_) (fun c13 hs => ?_)
        · refine e_izJ cd_69_58 rfl c13 ?_
          exact tie_mo_conflicts_79 kl5 kl26 (fun p0 p1 p2 p3 p4 p5 p6 m => mo_conflicts_38 kl5 kl26 d fuel p0 p1 p2 p3 p4 p5 p6 m) d hk5 hk26 ih t0 v1 v2 v4 v5 v6 v3 q11.2 so _ g0 g1 g2 g4 g5 g6 hs
        · refine e_izN cd_69_58 rfl c13 ?_
          exact tie_mo_conflicts_61 kl5 kl26 (fun p0 p1 p2 p3 p4 p5 p6 m => mo_conflicts_38 kl5 kl26 d fuel p0 p1 p2 p3 p4 p5 p6 m) d hk5 hk26 ih t0 v1 v2 v4 v5 v6 v3 q11.2 so _ g0 g1 g2 g4 g5 g6 hs
theorem tie_mo_conflicts_26 (kl5 : Nat → Int32 → Int32 → Int32 → Int32 → zM → Option (Int32 × zM)) (d : Nat) (hk5 : ∀ (t0 : Nat) (v1 : Int32) (v2 : Int32) (v3 : Int32) (v4 : Int32) (M : zM) (so : Int32 × zM) (ls : List (Nat × zV)), zl_get ls 0 = some (.inr (.inr (12, (some t0)))) → zl_get ls 1 = some (.inl v1) → zl_get ls 2 = some (.inl v2) → zl_get ls 3 = some (.inl v3) → zl_get ls 4 = some (.inl v4) → kl5 t0 v1 v2 v3 v4 M = some so → Ev zq_T (d + 1) 69 5 ls [] M (some (.inl so.1), so.2)) : ∀ (fuel : Nat) (t0 : Nat) (v1 : Int32) (v2 : Int32) (v3 : Int32) (v4 : Int32) (v5 : Int32) (M : zM) (so : Int32 × zM) (ls : List (Nat × zV)), zl_get ls 0 = some (.inr (.inr (12, (some t0)))) → zl_get ls 1 = some (.inl v1) → zl_get ls 2 = some (.inl v2) → zl_get ls 3 = some (.inl v3) → zl_get ls 4 = some (.inl v4) → zl_get ls 5 = some (.inl v5) → mo_conflicts_26 kl5 d fuel t0 v1 v2 v3 v4 v5 M = some so → Ev zq_T (d + 1) 69 26 ls [] M (some (.inl so.1), so.2) := by
  intro fuel
  induction fuel with
  | zero => intro t0 v1 v2 v3 v4 v5 M so ls g0 g1 g2 g3 g4 g5 hs; exact nomatch hs
  | succ fuel ih =>
    intro t0 v1 v2 v3 v4 v5 M so ls g0 g1 g2 g3 g4 g5 hs
    unfold mo_conflicts_26 at hs
    refine e_ild cd_69_26 g5 ?_
    refine e_aldn cd_69_28 g0 ?_
    refine e_getI cd_69_29 (Or.inl fd_69_265) rfl ?_
    refine k_if hs (fun c1 hs => ?_) (fun c1 hs => ?_)
    · refine e_icJ cd_69_32 rfl c1 ?_
      refine k_let hs (fun x2 e3 hs => ?_)
      refine e_incK cd_69_94 nl_69 rfl g4 ci_1 e3 ?_
      intro _ gn kp
      have u4 := kp 0 _ g0 rfl rfl
      have u5 := kp 1 _ g1 rfl rfl
      have u6 := kp 2 _ g2 rfl rfl
      have u7 := kp 3 _ g3 rfl rfl
      have u8 := gn
      refine e_goto cd_69_97 rfl ?_
      exact hk5 t0 v1 v2 v3 x2 M so _ u4 u5 u6 u7 u8 hs
    · refine e_icN cd_69_32 rfl c1 ?_
      refine e_const cd_69_35 ci_0 ?_
      refine e_iK cd_69_36 nl_69 rfl rfl ?_
      intro _ gn kp
      have u9 := kp 0 _ g0 rfl rfl
      have u10 := kp 1 _ g1 rfl rfl
      have u11 := kp 2 _ g2 rfl rfl
      have u12 := kp 3 _ g3 rfl rfl
      have u13 := kp 4 _ g4 rfl rfl
      have u14 := kp 5 _ g5 rfl rfl
      have u15 := gn
      exact tie_mo_conflicts_38 kl5 (fun p0 p1 p2 p3 p4 p5 m => mo_conflicts_26 kl5 d fuel p0 p1 p2 p3 p4 p5 m) d hk5 ih zLF t0 v1 v2 v3 v4 v5 0 M so _ u9 u10 u11 u12 u13 u14 u15 hs
theorem tie_mo_conflicts_5  (d : Nat)  : ∀ (fuel : Nat) (t0 : Nat) (v1 : Int32) (v2 : Int32) (v3 : Int32) (v4 : Int32) (M : zM) (so : Int32 × zM) (ls : List (Nat × zV)), zl_get ls 0 = some (.inr (.inr (12, (some t0)))) → zl_get ls 1 = some (.inl v1) → zl_get ls 2 = some (.inl v2) → zl_get ls 3 = some (.inl v3) → zl_get ls 4 = some (.inl v4) → mo_conflicts_5  d fuel t0 v1 v2 v3 v4 M = some so → Ev zq_T (d + 1) 69 5 ls [] M (some (.inl so.1), so.2) := by
  intro fuel
  induction fuel with
  | zero => intro t0 v1 v2 v3 v4 M so ls g0 g1 g2 g3 g4 hs; exact nomatch hs
  | succ fuel ih =>
    intro t0 v1 v2 v3 v4 M so ls g0 g1 g2 g3 g4 hs
    unfold mo_conflicts_5 at hs
    refine e_ild cd_69_5 g4 ?_
    refine e_aldn cd_69_7 g0 ?_
    refine e_ildn cd_69_8 g1 ?_
    refine e_const cd_69_9 ci_2 ?_
    obtain ⟨q1, h2, hs⟩ := k_bind hs
    refine e_cvi cd_69_10 kd_69_258 rfl rfl rfl rfl rfl nl_35 rfl rfl (tie_mo_of d t0 v1 2 M _ h2) ?_
    refine k_if hs (fun c3 hs => ?_) (fun c3 hs => ?_)
    · refine e_icJ cd_69_13 rfl c3 ?_
      refine e_ildn cd_69_100 g3 ?_
      have e := Option.some.inj hs
      subst e
      exact e_ri cd_69_101 nr_69
    · refine e_icN cd_69_13 rfl c3 ?_
      refine e_aldn cd_69_16 g0 ?_
      refine e_ildn cd_69_17 g1 ?_
      refine e_ild cd_69_18 g4 ?_
      obtain ⟨q4, h5, hs⟩ := k_bind hs
      refine e_cvi cd_69_20 kd_69_338 rfl rfl rfl rfl rfl nl_49 rfl rfl (tie_mo_laysWays d t0 v1 v4 q1.2 _ h5) ?_
      refine e_const cd_69_23 ci_0 ?_
      refine e_iK cd_69_24 nl_69 rfl rfl ?_
      intro _ gn kp
      have u6 := kp 0 _ g0 rfl rfl
      have u7 := kp 1 _ g1 rfl rfl
      have u8 := kp 2 _ g2 rfl rfl
      have u9 := kp 3 _ g3 rfl rfl
      have u10 := kp 4 _ g4 rfl rfl
      have u11 := gn
      exact tie_mo_conflicts_26 (fun p0 p1 p2 p3 p4 m => mo_conflicts_5  d fuel p0 p1 p2 p3 p4 m) d ih zLF t0 v1 v2 v3 v4 0 q4 so _ u6 u7 u8 u9 u10 u11 hs
theorem tieb_mo_conflicts  (d : Nat)  (a0 : Nat) (a1 : Int32) (a2 : Int32) (M : zM) (so : Int32 × zM) (hs : mo_conflicts_b  d a0 a1 a2 M = some so) : Ev zq_T (d + 1) 69 0 (zl_args 0 [.inr (.inr (12, some a0)), .inl a1, .inl a2]) [] M (some (.inl so.1), so.2) := by
  unfold mo_conflicts_b at hs
  have g0 : zl_get (zl_args 0 [.inr (.inr (12, some a0)), .inl a1, .inl a2]) 0 = some (.inr (.inr (12, (some a0)))) := rfl
  have g1 : zl_get (zl_args 0 [.inr (.inr (12, some a0)), .inl a1, .inl a2]) 1 = some (.inl a1) := rfl
  have g2 : zl_get (zl_args 0 [.inr (.inr (12, some a0)), .inl a1, .inl a2]) 2 = some (.inl a2) := rfl
  refine e_const cd_69_0 ci_0 ?_
  refine e_iKn cd_69_1 nl_69 rfl rfl ?_
  intro _ gn kp
  have u1 := kp 0 _ g0 rfl rfl
  have u2 := kp 1 _ g1 rfl rfl
  have u3 := kp 2 _ g2 rfl rfl
  have u4 := gn
  refine e_const cd_69_2 ci_m1 ?_
  refine e_iK cd_69_3 nl_69 rfl rfl ?_
  intro _ gn kp
  have u5 := kp 0 _ u1 rfl rfl
  have u6 := kp 1 _ u2 rfl rfl
  have u7 := kp 2 _ u3 rfl rfl
  have u8 := kp 3 _ u4 rfl rfl
  have u9 := gn
  exact tie_mo_conflicts_5  d  zLF a0 a1 a2 0 (-1) M so _ u5 u6 u7 u8 u9 hs
theorem tie_mo_conflicts (d : Nat) (a0 : Nat) (a1 : Int32) (a2 : Int32) (M : zM) (so : Int32 × zM) (hs : mo_conflicts d a0 a1 a2 M = some so) : Ev zq_T d 69 0 (zl_args 0 [.inr (.inr (12, some a0)), .inl a1, .inl a2]) [] M (some (.inl so.1), so.2) := by
  cases d with
  | zero => exact nomatch hs
  | succ d => exact tieb_mo_conflicts d a0 a1 a2 M so hs
theorem tie_mo_isSure_14  (d : Nat)  (s0 : Int32) (M : zM) (so : Int32 × zM) (ls : List (Nat × zV))  (hs : mo_isSure_14  d s0 M = some so) : Ev zq_T (d + 1) 70 14 ls [.inl s0] M (some (.inl so.1), so.2) := by
  unfold mo_isSure_14 at hs
  obtain ⟨c1, hs⟩ := z_ite hs
  have e := Option.some.inj hs
  subst e
  exact e_rz cd_70_14 nr_70 c1
theorem tieb_mo_isSure  (d : Nat)  (a0 : Nat) (a1 : Int32) (M : zM) (so : Int32 × zM) (hs : mo_isSure_b  d a0 a1 M = some so) : Ev zq_T (d + 1) 70 0 (zl_args 0 [.inr (.inr (12, some a0)), .inl a1]) [] M (some (.inl so.1), so.2) := by
  unfold mo_isSure_b at hs
  have g0 : zl_get (zl_args 0 [.inr (.inr (12, some a0)), .inl a1]) 0 = some (.inr (.inr (12, (some a0)))) := rfl
  have g1 : zl_get (zl_args 0 [.inr (.inr (12, some a0)), .inl a1]) 1 = some (.inl a1) := rfl
  refine e_aldn cd_70_0 g0 ?_
  refine e_ildn cd_70_1 g1 ?_
  refine e_const cd_70_2 ci_0 ?_
  obtain ⟨q1, h2, hs⟩ := k_bind hs
  refine e_cvi cd_70_3 kd_70_347 rfl rfl rfl rfl rfl nl_69 rfl rfl (tie_mo_conflicts d a0 a1 0 M _ h2) ?_
  refine k_if hs (fun c3 hs => ?_) (fun c3 hs => ?_)
  · refine e_izN cd_70_6 rfl (fun q => q c3) ?_
    refine e_const cd_70_9 ci_1 ?_
    refine e_goto cd_70_10 rfl ?_
    exact tie_mo_isSure_14  d  1 q1.2 so _  hs
  · refine e_izJ cd_70_6 rfl c3 ?_
    refine e_const cd_70_13 ci_0 ?_
    exact tie_mo_isSure_14  d  0 q1.2 so _  hs
theorem tie_mo_isSure (d : Nat) (a0 : Nat) (a1 : Int32) (M : zM) (so : Int32 × zM) (hs : mo_isSure d a0 a1 M = some so) : Ev zq_T d 70 0 (zl_args 0 [.inr (.inr (12, some a0)), .inl a1]) [] M (some (.inl so.1), so.2) := by
  cases d with
  | zero => exact nomatch hs
  | succ d => exact tieb_mo_isSure d a0 a1 M so hs
theorem tie_mo_isBetter_51  (d : Nat)  (s0 : Int32) (M : zM) (so : Int32 × zM) (ls : List (Nat × zV))  (hs : mo_isBetter_51  d s0 M = some so) : Ev zq_T d 71 51 ls [.inl s0] M (some (.inl so.1), so.2) := by
  unfold mo_isBetter_51 at hs
  obtain ⟨c1, hs⟩ := z_ite hs
  have e := Option.some.inj hs
  subst e
  exact e_rz cd_71_51 nr_71 c1
theorem tie_mo_isBetter_46  (d : Nat)   (M : zM) (so : Int32 × zM) (ls : List (Nat × zV))  (hs : mo_isBetter_46  d  M = some so) : Ev zq_T d 71 46 ls [] M (some (.inl so.1), so.2) := by
  unfold mo_isBetter_46 at hs
  refine e_const cd_71_46 ci_1 ?_
  refine e_goto cd_71_47 rfl ?_
  exact tie_mo_isBetter_51  d  1 M so _  hs
theorem tie_mo_isBetter_23  (d : Nat)  (t0 : Nat) (M : zM) (so : Int32 × zM) (ls : List (Nat × zV)) (g0 : zl_get ls 0 = some (.inr (.inr (12, (some t0))))) (hs : mo_isBetter_23  d t0 M = some so) : Ev zq_T d 71 23 ls [] M (some (.inl so.1), so.2) := by
  unfold mo_isBetter_23 at hs
  refine e_aldn cd_71_23 g0 ?_
  refine e_getR cd_71_24 fd_71_75 rfl ?_
  refine e_const cd_71_27 ci_5 ?_
  refine k_opt hs (fun _ q => nomatch q) (fun k1 h2 hs => ?_)
  obtain ⟨c3, hs⟩ := z_ite hs
  refine e_iald cd_71_28 rfl h2 c3 ?_
  refine e_const cd_71_29 ci_m1 ?_
  refine k_if hs (fun c4 hs => ?_) (fun c4 hs => ?_)
  · refine e_icJ cd_71_30 rfl c4 ?_
    exact tie_mo_isBetter_46  d   M so _  hs
  · refine e_icN cd_71_30 rfl c4 ?_
    refine e_aldn cd_71_33 g0 ?_
    refine e_getI cd_71_34 (Or.inl fd_71_300) rfl ?_
    refine e_aldn cd_71_37 g0 ?_
    refine e_getR cd_71_38 fd_71_75 rfl ?_
    refine e_const cd_71_41 ci_5 ?_
    refine k_opt hs (fun _ q => nomatch q) (fun k5 h6 hs => ?_)
    obtain ⟨c7, hs⟩ := z_ite hs
    refine e_iald cd_71_42 rfl h6 c7 ?_
    refine k_if hs (fun c8 hs => ?_) (fun c8 hs => ?_)
    · refine e_icJ cd_71_43 rfl c8 ?_
      refine e_const cd_71_50 ci_0 ?_
      exact tie_mo_isBetter_51  d  0 M so _  hs
    · refine e_icN cd_71_43 rfl c8 ?_
      exact tie_mo_isBetter_46  d   M so _  hs
theorem tie_mo_isBetter_103  (d : Nat)  (s0 : Int32) (M : zM) (so : Int32 × zM) (ls : List (Nat × zV))  (hs : mo_isBetter_103  d s0 M = some so) : Ev zq_T d 71 103 ls [.inl s0] M (some (.inl so.1), so.2) := by
  unfold mo_isBetter_103 at hs
  obtain ⟨c1, hs⟩ := z_ite hs
  have e := Option.some.inj hs
  subst e
  exact e_rz cd_71_103 nr_71 c1
theorem tie_mo_isBetter_135  (d : Nat)  (s0 : Int32) (M : zM) (so : Int32 × zM) (ls : List (Nat × zV))  (hs : mo_isBetter_135  d s0 M = some so) : Ev zq_T d 71 135 ls [.inl s0] M (some (.inl so.1), so.2) := by
  unfold mo_isBetter_135 at hs
  obtain ⟨c1, hs⟩ := z_ite hs
  have e := Option.some.inj hs
  subst e
  exact e_rz cd_71_135 nr_71 c1
theorem tie_mo_isBetter_171  (d : Nat)  (s0 : Int32) (M : zM) (so : Int32 × zM) (ls : List (Nat × zV))  (hs : mo_isBetter_171  d s0 M = some so) : Ev zq_T d 71 171 ls [.inl s0] M (some (.inl so.1), so.2) := by
  unfold mo_isBetter_171 at hs
  obtain ⟨c1, hs⟩ := z_ite hs
  have e := Option.some.inj hs
  subst e
  exact e_rz cd_71_171 nr_71 c1
theorem tie_mo_isBetter_207  (d : Nat)  (s0 : Int32) (M : zM) (so : Int32 × zM) (ls : List (Nat × zV))  (hs : mo_isBetter_207  d s0 M = some so) : Ev zq_T d 71 207 ls [.inl s0] M (some (.inl so.1), so.2) := by
  unfold mo_isBetter_207 at hs
  obtain ⟨c1, hs⟩ := z_ite hs
  have e := Option.some.inj hs
  subst e
  exact e_rz cd_71_207 nr_71 c1
theorem tie_mo_isBetter_266  (d : Nat)  (s0 : Int32) (M : zM) (so : Int32 × zM) (ls : List (Nat × zV))  (hs : mo_isBetter_266  d s0 M = some so) : Ev zq_T d 71 266 ls [.inl s0] M (some (.inl so.1), so.2) := by
  unfold mo_isBetter_266 at hs
  obtain ⟨c1, hs⟩ := z_ite hs
  have e := Option.some.inj hs
  subst e
  exact e_rz cd_71_266 nr_71 c1
set_option maxRecDepth 100000 in
theorem tie_mo_isBetter_55  (d : Nat)  : ∀ (fuel : Nat) (t0 : Nat) (v1 : Int32) (v2 : Int32) (v3 : Int32) (v4 : Int32) (M : zM) (so : Int32 × zM) (ls : List (Nat × zV)), zl_get ls 0 = some (.inr (.inr (12, (some t0)))) → zl_get ls 1 = some (.inl v1) → zl_get ls 2 = some (.inl v2) → zl_get ls 3 = some (.inl v3) → zl_get ls 4 = some (.inl v4) → mo_isBetter_55  d fuel t0 v1 v2 v3 v4 M = some so → Ev zq_T d 71 55 ls [] M (some (.inl so.1), so.2) := by
  intro fuel
  induction fuel with
  | zero => intro t0 v1 v2 v3 v4 M so ls g0 g1 g2 g3 g4 hs; exact nomatch hs
  | succ fuel ih =>
    intro t0 v1 v2 v3 v4 M so ls g0 g1 g2 g3 g4 hs
    unfold mo_isBetter_55 at hs
    refine e_ild cd_71_55 g4 ?_
    refine e_aldn cd_71_57 g0 ?_
    refine e_getI cd_71_58 (Or.inl fd_71_300) rfl ?_
    refine k_if hs (fun c1 hs => ?_) (fun c1 hs => ?_)
    · refine e_icJ cd_71_61 rfl c1 ?_
      refine e_ildn cd_71_110 g1 ?_
      refine e_aldn cd_71_111 g0 ?_
      refine e_getR cd_71_112 fd_71_75 rfl ?_
      refine e_const cd_71_115 ci_0 ?_
      refine k_opt hs (fun _ q => nomatch q) (fun k2 h3 hs => ?_)
      obtain ⟨c4, hs⟩ := z_ite hs
      refine e_iald cd_71_116 rfl h3 c4 ?_
      refine k_if hs (fun c5 hs => ?_) (fun c5 hs => ?_)
      · refine e_icJ cd_71_117 rfl c5 ?_
        refine e_aldn cd_71_136 g0 ?_
        refine e_getR cd_71_137 fd_71_50 rfl ?_
        refine e_ildn cd_71_140 g2 ?_
        refine k_opt hs (fun _ q => nomatch q) (fun k6 h7 hs => ?_)
        obtain ⟨c8, hs⟩ := z_ite hs
        refine e_iald cd_71_141 rfl h7 c8 ?_
        refine e_aldn cd_71_142 g0 ?_
        refine e_getR cd_71_143 fd_71_75 rfl ?_
        refine e_const cd_71_146 ci_1 ?_
        refine k_opt hs (fun _ q => nomatch q) (fun k9 h10 hs => ?_)
        obtain ⟨c11, hs⟩ := z_ite hs
        refine e_iald cd_71_147 rfl h10 c11 ?_
        refine k_if hs (fun c12 hs => ?_) (fun c12 hs => ?_)
        · refine e_icJ cd_71_148 rfl c12 ?_
          refine e_aldn cd_71_172 g0 ?_
          refine e_getR cd_71_173 fd_71_53 rfl ?_
          refine e_ildn cd_71_176 g2 ?_
          refine k_opt hs (fun _ q => nomatch q) (fun k13 h14 hs => ?_)
          obtain ⟨c15, hs⟩ := z_ite hs
          refine e_iald cd_71_177 rfl h14 c15 ?_
          refine e_aldn cd_71_178 g0 ?_
          refine e_getR cd_71_179 fd_71_75 rfl ?_
          refine e_const cd_71_182 ci_2 ?_
          refine k_opt hs (fun _ q => nomatch q) (fun k16 h17 hs => ?_)
          obtain ⟨c18, hs⟩ := z_ite hs
          refine e_iald cd_71_183 rfl h17 c18 ?_
          refine k_if hs (fun c19 hs => ?_) (fun c19 hs => ?_)
          · refine e_icJ cd_71_184 rfl c19 ?_
            refine e_aldn cd_71_208 g0 ?_
            refine e_getR cd_71_209 fd_71_50 rfl ?_
            refine e_ildn cd_71_212 g3 ?_
            refine k_opt hs (fun _ q => nomatch q) (fun k20 h21 hs => ?_)
            obtain ⟨c22, hs⟩ := z_ite hs
            refine e_iald cd_71_213 rfl h21 c22 ?_
            refine e_aldn cd_71_214 g0 ?_
            refine e_getR cd_71_215 fd_71_75 rfl ?_
            refine e_const cd_71_218 ci_3 ?_
            refine k_opt hs (fun _ q => nomatch q) (fun k23 h24 hs => ?_)
            obtain ⟨c25, hs⟩ := z_ite hs
            refine e_iald cd_71_219 rfl h24 c25 ?_
            refine k_if hs (fun c26 hs => ?_) (fun c26 hs => ?_)
            · refine e_icJ cd_71_220 rfl c26 ?_
              refine e_aldn cd_71_246 g0 ?_
              refine e_getR cd_71_247 fd_71_53 rfl ?_
              refine e_ildn cd_71_250 g3 ?_
              refine k_opt hs (fun _ q => nomatch q) (fun k27 h28 hs => ?_)
              obtain ⟨c29, hs⟩ := z_ite hs
              refine e_iald cd_71_251 rfl h28 c29 ?_
              refine e_aldn cd_71_252 g0 ?_
              refine e_getR cd_71_253 fd_71_75 rfl ?_
              refine e_const cd_71_256 ci_4 ?_
              refine k_opt hs (fun _ q => nomatch q) (fun k30 h31 hs => ?_)
              obtain ⟨c32, hs⟩ := z_ite hs
              refine e_iald cd_71_257 rfl h31 c32 ?_
              refine k_if hs (fun c33 hs => ?_) (fun c33 hs => ?_)
              · refine e_icJ cd_71_258 rfl c33 ?_
                refine e_const cd_71_265 ci_0 ?_
                exact tie_mo_isBetter_266  d  0 M so _  hs
              · refine e_icN cd_71_258 rfl c33 ?_
                refine e_const cd_71_261 ci_1 ?_
                refine e_goto cd_71_262 rfl ?_
                exact tie_mo_isBetter_266  d  1 M so _  hs
            · refine e_icN cd_71_220 rfl c26 ?_
              refine e_aldn cd_71_223 g0 ?_
              refine e_getR cd_71_224 fd_71_50 rfl ?_
              refine e_ildn cd_71_227 g3 ?_
              refine k_opt hs (fun _ q => nomatch q) (fun k34 h35 hs => ?_)
              obtain ⟨c36, hs⟩ := z_ite hs
              refine e_iald cd_71_228 rfl h35 c36 ?_
              refine e_aldn cd_71_229 g0 ?_
              refine e_getR cd_71_230 fd_71_75 rfl ?_
              refine e_const cd_71_233 ci_3 ?_
              refine k_opt hs (fun _ q => nomatch q) (fun k37 h38 hs => ?_)
              obtain ⟨c39, hs⟩ := z_ite hs
              refine e_iald cd_71_234 rfl h38 c39 ?_
              refine k_if hs (fun c40 hs => ?_) (fun c40 hs => ?_)
              · refine e_icJ cd_71_235 rfl c40 ?_
                refine e_const cd_71_242 ci_0 ?_
                refine e_goto cd_71_243 rfl ?_
                exact tie_mo_isBetter_266  d  0 M so _  hs
              · refine e_icN cd_71_235 rfl c40 ?_
                refine e_const cd_71_238 ci_1 ?_
                refine e_goto cd_71_239 rfl ?_
                exact tie_mo_isBetter_266  d  1 M so _  hs
          · refine e_icN cd_71_184 rfl c19 ?_
            refine e_aldn cd_71_187 g0 ?_
            refine e_getR cd_71_188 fd_71_53 rfl ?_
            refine e_ildn cd_71_191 g2 ?_
            refine k_opt hs (fun _ q => nomatch q) (fun k41 h42 hs => ?_)
            obtain ⟨c43, hs⟩ := z_ite hs
            refine e_iald cd_71_192 rfl h42 c43 ?_
            refine e_aldn cd_71_193 g0 ?_
            refine e_getR cd_71_194 fd_71_75 rfl ?_
            refine e_const cd_71_197 ci_2 ?_
            refine k_opt hs (fun _ q => nomatch q) (fun k44 h45 hs => ?_)
            obtain ⟨c46, hs⟩ := z_ite hs
            refine e_iald cd_71_198 rfl h45 c46 ?_
            refine k_if hs (fun c47 hs => ?_) (fun c47 hs => ?_)
            · refine e_icJ cd_71_199 rfl c47 ?_
              refine e_const cd_71_206 ci_0 ?_
              exact tie_mo_isBetter_207  d  0 M so _  hs
            · refine e_icN cd_71_199 rfl c47 ?_
              refine e_const cd_71_202 ci_1 ?_
              refine e_goto cd_71_203 rfl ?_
              exact tie_mo_isBetter_207  d  1 M so _  hs
        · refine e_icN cd_71_148 rfl c12 ?_
          refine e_aldn cd_71_151 g0 ?_
          refine e_getR cd_71_152 fd_71_50 rfl ?_
          refine e_ildn cd_71_155 g2 ?_
          refine k_opt hs (fun _ q => nomatch q) (fun k48 h49 hs => ?_)
          obtain ⟨c50, hs⟩ := z_ite hs
          refine e_iald cd_71_156 rfl h49 c50 ?_
          refine e_aldn cd_71_157 g0 ?_
          refine e_getR cd_71_158 fd_71_75 rfl ?_
          refine e_const cd_71_161 ci_1 ?_
          refine k_opt hs (fun _ q => nomatch q) (fun k51 h52 hs => ?_)
          obtain ⟨c53, hs⟩ := z_ite hs
          refine e_iald cd_71_162 rfl h52 c53 ?_
          refine k_if hs (fun c54 hs => ?_) (fun c54 hs => ?_)
          · refine e_icJ cd_71_163 rfl c54 ?_
            refine e_const cd_71_170 ci_0 ?_
            exact tie_mo_isBetter_171  d  0 M so _  hs
          · refine e_icN cd_71_163 rfl c54 ?_
            refine e_const cd_71_166 ci_1 ?_
            refine e_goto cd_71_167 rfl ?_
            exact tie_mo_isBetter_171  d  1 M so _  hs
      · refine e_icN cd_71_117 rfl c5 ?_
        refine e_ildn cd_71_120 g1 ?_
        refine e_aldn cd_71_121 g0 ?_
        refine e_getR cd_71_122 fd_71_75 rfl ?_
        refine e_const cd_71_125 ci_0 ?_
        refine k_opt hs (fun _ q => nomatch q) (fun k55 h56 hs => ?_)
        obtain ⟨c57, hs⟩ := z_ite hs
        refine e_iald cd_71_126 rfl h56 c57 ?_
        refine k_if hs (fun c58 hs => ?_) (fun c58 hs => ?_)
        · refine e_icJ cd_71_127 rfl c58 ?_
          refine e_const cd_71_134 ci_0 ?_
          exact tie_mo_isBetter_135  d  0 M so _  hs
        · refine e_icN cd_71_127 rfl c58 ?_
          refine e_const cd_71_130 ci_1 ?_
          refine e_goto cd_71_131 rfl ?_
          exact tie_mo_isBetter_135  d  1 M so _  hs
    · refine e_icN cd_71_61 rfl c1 ?_
      refine e_aldn cd_71_64 g0 ?_
      refine e_getR cd_71_65 fd_71_62 rfl ?_
      refine e_ild cd_71_68 g4 ?_
      refine k_opt hs (fun _ q => nomatch q) (fun k59 h60 hs => ?_)
      obtain ⟨c61, hs⟩ := z_ite hs
      refine e_bald cd_71_70 rfl h60 c61 ?_
      refine e_aldn cd_71_71 g0 ?_
      refine e_getR cd_71_72 fd_71_78 rfl ?_
      refine e_ild cd_71_75 g4 ?_
      refine k_opt hs (fun _ q => nomatch q) (fun k62 h63 hs => ?_)
      obtain ⟨c64, hs⟩ := z_ite hs
      refine e_bald cd_71_77 rfl h63 c64 ?_
      refine k_if hs (fun c65 hs => ?_) (fun c65 hs => ?_)
      · refine e_icJ cd_71_78 rfl c65 ?_
        refine k_let hs (fun x66 e67 hs => ?_)
        refine e_incK cd_71_104 nl_71 rfl g4 ci_1 e67 ?_
        intro _ gn kp
        have u68 := kp 0 _ g0 rfl rfl
        have u69 := kp 1 _ g1 rfl rfl
        have u70 := kp 2 _ g2 rfl rfl
        have u71 := kp 3 _ g3 rfl rfl
        have u72 := gn
        refine e_goto cd_71_107 rfl ?_
        exact ih t0 v1 v2 v3 x66 M so _ u68 u69 u70 u71 u72 hs
      · refine e_icN cd_71_78 rfl c65 ?_
        refine e_aldn cd_71_81 g0 ?_
        refine e_getR cd_71_82 fd_71_62 rfl ?_
        refine e_ild cd_71_85 g4 ?_
        refine k_opt hs (fun _ q => nomatch q) (fun k73 h74 hs => ?_)
        obtain ⟨c75, hs⟩ := z_ite hs
        refine e_bald cd_71_87 rfl h74 c75 ?_
        refine e_aldn cd_71_88 g0 ?_
        refine e_getR cd_71_89 fd_71_78 rfl ?_
        refine e_ild cd_71_92 g4 ?_
        refine k_opt hs (fun _ q => nomatch q) (fun k76 h77 hs => ?_)
        obtain ⟨c78, hs⟩ := z_ite hs
        refine e_bald cd_71_94 rfl h77 c78 ?_
        refine k_if hs (fun c79 hs => ?_) (fun c79 hs => ?_)
        · refine e_icJ cd_71_95 rfl c79 ?_
          refine e_const cd_71_102 ci_0 ?_
          exact tie_mo_isBetter_103  d  0 M so _  hs
        · refine e_icN cd_71_95 rfl c79 ?_
          refine e_const cd_71_98 ci_1 ?_
          refine e_goto cd_71_99 rfl ?_
          exact tie_mo_isBetter_103  d  1 M so _  hs
theorem tie_mo_isBetter (d : Nat) (a0 : Nat) (a1 : Int32) (a2 : Int32) (a3 : Int32) (M : zM) (so : Int32 × zM) (hs : mo_isBetter d a0 a1 a2 a3 M = some so) : Ev zq_T d 71 0 (zl_args 0 [.inr (.inr (12, some a0)), .inl a1, .inl a2, .inl a3]) [] M (some (.inl so.1), so.2) := by
  unfold mo_isBetter at hs
  have g0 : zl_get (zl_args 0 [.inr (.inr (12, some a0)), .inl a1, .inl a2, .inl a3]) 0 = some (.inr (.inr (12, (some a0)))) := rfl
  have g1 : zl_get (zl_args 0 [.inr (.inr (12, some a0)), .inl a1, .inl a2, .inl a3]) 1 = some (.inl a1) := rfl
  have g2 : zl_get (zl_args 0 [.inr (.inr (12, some a0)), .inl a1, .inl a2, .inl a3]) 2 = some (.inl a2) := rfl
  have g3 : zl_get (zl_args 0 [.inr (.inr (12, some a0)), .inl a1, .inl a2, .inl a3]) 3 = some (.inl a3) := rfl
  refine e_aldn cd_71_0 g0 ?_
  refine e_getR cd_71_1 fd_71_75 rfl ?_
  refine e_const cd_71_4 ci_5 ?_
  refine k_opt hs (fun _ q => nomatch q) (fun k1 h2 hs => ?_)
  obtain ⟨c3, hs⟩ := z_ite hs
  refine e_iald cd_71_5 rfl h2 c3 ?_
  refine e_const cd_71_6 ci_m1 ?_
  refine k_if hs (fun c4 hs => ?_) (fun c4 hs => ?_)
  · refine e_icJ cd_71_7 rfl c4 ?_
    exact tie_mo_isBetter_23  d  a0 M so _ g0 hs
  · refine e_icN cd_71_7 rfl c4 ?_
    refine e_aldn cd_71_10 g0 ?_
    refine e_getI cd_71_11 (Or.inl fd_71_300) rfl ?_
    refine e_aldn cd_71_14 g0 ?_
    refine e_getR cd_71_15 fd_71_75 rfl ?_
    refine e_const cd_71_18 ci_5 ?_
    refine k_opt hs (fun _ q => nomatch q) (fun k5 h6 hs => ?_)
    obtain ⟨c7, hs⟩ := z_ite hs
    refine e_iald cd_71_19 rfl h6 c7 ?_
    refine k_if hs (fun c8 hs => ?_) (fun c8 hs => ?_)
    · refine e_icJ cd_71_20 rfl c8 ?_
      refine e_const cd_71_52 ci_0 ?_
      refine e_iK cd_71_53 nl_71 rfl rfl ?_
      intro _ gn kp
      have u9 := kp 0 _ g0 rfl rfl
      have u10 := kp 1 _ g1 rfl rfl
      have u11 := kp 2 _ g2 rfl rfl
      have u12 := kp 3 _ g3 rfl rfl
      have u13 := gn
      exact tie_mo_isBetter_55  d  zLF a0 a1 a2 a3 0 M so _ u9 u10 u11 u12 u13 hs
    · refine e_icN cd_71_20 rfl c8 ?_
      exact tie_mo_isBetter_23  d  a0 M so _ g0 hs
theorem tie_mo_tries_191  (d : Nat)  : ∀ (fuel : Nat) (t0 : Nat) (v8 : Int32) (M : zM) (so : zM) (ls : List (Nat × zV)), zl_get ls 0 = some (.inr (.inr (12, (some t0)))) → zl_get ls 8 = some (.inl v8) → mo_tries_191  d fuel t0 v8 M = some so → Ev zq_T (d + 1) 72 191 ls [] M (none, so) := by
  intro fuel
  induction fuel with
  | zero => intro t0 v8 M so ls g0 g8 hs; exact nomatch hs
  | succ fuel ih =>
    intro t0 v8 M so ls g0 g8 hs
    unfold mo_tries_191 at hs
    refine e_ild cd_72_191 g8 ?_
    refine e_aldn cd_72_193 g0 ?_
    refine e_getI cd_72_194 (Or.inl fd_72_300) rfl ?_
    refine k_if hs (fun c1 hs => ?_) (fun c1 hs => ?_)
    · refine e_icJ cd_72_197 rfl c1 ?_
      have e := Option.some.inj hs
      subst e
      exact e_rv cd_72_220 nr_72
    · refine e_icN cd_72_197 rfl c1 ?_
      refine e_aldn cd_72_200 g0 ?_
      refine e_getR cd_72_201 fd_72_78 rfl ?_
      refine e_ild cd_72_204 g8 ?_
      refine e_aldn cd_72_206 g0 ?_
      refine e_getR cd_72_207 fd_72_62 rfl ?_
      refine e_ild cd_72_210 g8 ?_
      refine k_opt hs (fun _ q => nomatch q) (fun k2 h3 hs => ?_)
      obtain ⟨c4, hs⟩ := z_ite hs
      refine e_bald cd_72_212 rfl h3 c4 ?_
      refine k_opt hs (fun _ q => nomatch q) (fun k5 h6 hs => ?_)
      obtain ⟨c7, hs⟩ := z_ite hs
      refine k_let hs (fun M8 e9 hs => ?_)
      refine e_bast cd_72_213 rfl h6 c7 e9 ?_
      refine k_let hs (fun x10 e11 hs => ?_)
      refine e_incK cd_72_214 nl_72 rfl g8 ci_1 e11 ?_
      intro _ gn kp
      have u12 := kp 0 _ g0 rfl rfl
      have u13 := gn
      refine e_goto cd_72_217 rfl ?_
      exact ih t0 x10 M8 so _ u12 u13 hs
theorem tie_mo_tries_106  (d : Nat)  (t0 : Nat) (v2 : Int32) (v6 : Int32) (v7 : Int32) (M : zM) (so : zM) (ls : List (Nat × zV)) (g0 : zl_get ls 0 = some (.inr (.inr (12, (some t0))))) (g2 : zl_get ls 2 = some (.inl v2)) (g6 : zl_get ls 6 = some (.inl v6)) (g7 : zl_get ls 7 = some (.inl v7)) (hs : mo_tries_106  d t0 v2 v6 v7 M = some so) : Ev zq_T (d + 1) 72 106 ls [] M (none, so) := by
  unfold mo_tries_106 at hs
  refine e_aldn cd_72_106 g0 ?_
  refine e_ildn cd_72_107 g2 ?_
  refine e_ild cd_72_108 g6 ?_
  refine e_ild cd_72_110 g7 ?_
  obtain ⟨q1, h2, hs⟩ := k_bind hs
  refine e_cvi cd_72_112 kd_72_351 rfl rfl rfl rfl rfl nl_71 rfl rfl (tie_mo_isBetter d t0 v2 v6 v7 M _ h2) ?_
  refine k_if hs (fun c3 hs => ?_) (fun c3 hs => ?_)
  · refine e_izN cd_72_115 rfl (fun q => q c3) ?_
    have e := Option.some.inj hs
    subst e
    exact e_rv cd_72_118 nr_72
  · refine e_izJ cd_72_115 rfl c3 ?_
    refine e_aldn cd_72_119 g0 ?_
    refine e_getR cd_72_120 fd_72_75 rfl ?_
    refine e_const cd_72_123 ci_0 ?_
    refine e_ildn cd_72_124 g2 ?_
    refine k_opt hs (fun _ q => nomatch q) (fun k4 h5 hs => ?_)
    obtain ⟨c6, hs⟩ := z_ite hs
    refine k_let hs (fun M7 e8 hs => ?_)
    refine e_iast cd_72_125 rfl h5 c6 e8 ?_
    refine e_aldn cd_72_126 g0 ?_
    refine e_getR cd_72_127 fd_72_75 rfl ?_
    refine e_const cd_72_130 ci_1 ?_
    refine e_aldn cd_72_131 g0 ?_
    refine e_getR cd_72_132 fd_72_50 rfl ?_
    refine e_ild cd_72_135 g6 ?_
    refine k_opt hs (fun _ q => nomatch q) (fun k9 h10 hs => ?_)
    obtain ⟨c11, hs⟩ := z_ite hs
    refine e_iald cd_72_137 rfl h10 c11 ?_
    refine k_opt hs (fun _ q => nomatch q) (fun k12 h13 hs => ?_)
    obtain ⟨c14, hs⟩ := z_ite hs
    refine k_let hs (fun M15 e16 hs => ?_)
    refine e_iast cd_72_138 rfl h13 c14 e16 ?_
    refine e_aldn cd_72_139 g0 ?_
    refine e_getR cd_72_140 fd_72_75 rfl ?_
    refine e_const cd_72_143 ci_2 ?_
    refine e_aldn cd_72_144 g0 ?_
    refine e_getR cd_72_145 fd_72_53 rfl ?_
    refine e_ild cd_72_148 g6 ?_
    refine k_opt hs (fun _ q => nomatch q) (fun k17 h18 hs => ?_)
    obtain ⟨c19, hs⟩ := z_ite hs
    refine e_iald cd_72_150 rfl h18 c19 ?_
    refine k_opt hs (fun _ q => nomatch q) (fun k20 h21 hs => ?_)
    obtain ⟨c22, hs⟩ := z_ite hs
    refine k_let hs (fun M23 e24 hs => ?_)
    refine e_iast cd_72_151 rfl h21 c22 e24 ?_
    refine e_aldn cd_72_152 g0 ?_
    refine e_getR cd_72_153 fd_72_75 rfl ?_
    refine e_const cd_72_156 ci_3 ?_
    refine e_aldn cd_72_157 g0 ?_
    refine e_getR cd_72_158 fd_72_50 rfl ?_
    refine e_ild cd_72_161 g7 ?_
    refine k_opt hs (fun _ q => nomatch q) (fun k25 h26 hs => ?_)
    obtain ⟨c27, hs⟩ := z_ite hs
    refine e_iald cd_72_163 rfl h26 c27 ?_
    refine k_opt hs (fun _ q => nomatch q) (fun k28 h29 hs => ?_)
    obtain ⟨c30, hs⟩ := z_ite hs
    refine k_let hs (fun M31 e32 hs => ?_)
    refine e_iast cd_72_164 rfl h29 c30 e32 ?_
    refine e_aldn cd_72_165 g0 ?_
    refine e_getR cd_72_166 fd_72_75 rfl ?_
    refine e_const cd_72_169 ci_4 ?_
    refine e_aldn cd_72_170 g0 ?_
    refine e_getR cd_72_171 fd_72_53 rfl ?_
    refine e_ild cd_72_174 g7 ?_
    refine k_opt hs (fun _ q => nomatch q) (fun k33 h34 hs => ?_)
    obtain ⟨c35, hs⟩ := z_ite hs
    refine e_iald cd_72_176 rfl h34 c35 ?_
    refine k_opt hs (fun _ q => nomatch q) (fun k36 h37 hs => ?_)
    obtain ⟨c38, hs⟩ := z_ite hs
    refine k_let hs (fun M39 e40 hs => ?_)
    refine e_iast cd_72_177 rfl h37 c38 e40 ?_
    refine e_aldn cd_72_178 g0 ?_
    refine e_getR cd_72_179 fd_72_75 rfl ?_
    refine e_const cd_72_182 ci_5 ?_
    refine e_aldn cd_72_183 g0 ?_
    refine e_getI cd_72_184 (Or.inl fd_72_300) rfl ?_
    refine k_opt hs (fun _ q => nomatch q) (fun k41 h42 hs => ?_)
    obtain ⟨c43, hs⟩ := z_ite hs
    refine k_let hs (fun M44 e45 hs => ?_)
    refine e_iast cd_72_187 rfl h42 c43 e45 ?_
    refine e_const cd_72_188 ci_0 ?_
    refine e_iK cd_72_189 nl_72 rfl rfl ?_
    intro _ gn kp
    have u46 := kp 0 _ g0 rfl rfl
    have u47 := gn
    exact tie_mo_tries_191  d  zLF t0 0 M44 so _ u46 u47 hs
