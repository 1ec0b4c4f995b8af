theorem tie_mo_tries_79  (d : Nat)  (t0 : Nat) (v1 : Int32) (v2 : Int32) (v3 : Int32) (v4 : Int32) (v6 : Int32) (s0 : Int32) (M : zM) (so : zM) (ls : List (Nat × zV)) (g0 : zl_get ls 0 = some (.inr (.inr (12, (some t0))))) (g1 : zl_get ls 1 = some (.inl v1)) (g2 : zl_get ls 2 = some (.inl v2)) (g3 : zl_get ls 3 = some (.inl v3)) (g4 : zl_get ls 4 = some (.inl v4)) (g6 : zl_get ls 6 = some (.inl v6)) (hs : mo_tries_79  d t0 v1 v2 v3 v4 v6 s0 M = some so) : Ev zq_T (d + 1) 72 79 ls [.inl s0] M (none, so) := by
  unfold mo_tries_79 at hs
  refine e_iK cd_72_79 nl_72 rfl rfl ?_
  intro _ gn kp
  have u1 := kp 0 _ g0 rfl rfl
  have u2 := kp 1 _ g1 rfl rfl
  have u3 := kp 2 _ g2 rfl rfl
  have u4 := kp 3 _ g3 rfl rfl
  have u5 := kp 4 _ g4 rfl rfl
  have u6 := kp 6 _ g6 rfl rfl
  have u7 := gn
  refine e_aldn cd_72_81 u1 ?_
  refine e_const cd_72_82 ci_0 ?_
  refine k_let hs (fun M8 e9 hs => ?_)
  refine e_putI cd_72_83 pd_72_300 rfl e9 ?_
  refine e_ildn cd_72_86 u3 ?_
  refine e_const cd_72_87 ci_m1 ?_
  refine k_if hs (fun c10 hs => ?_) (fun c10 hs => ?_)
  · refine e_icJ cd_72_88 rfl c10 ?_
    exact tie_mo_tries_106  d  t0 v2 v6 s0 M8 so _ u1 u3 u6 u7 hs
  · refine e_icN cd_72_88 rfl c10 ?_
    refine e_aldn cd_72_91 u1 ?_
    refine e_ildn cd_72_92 u2 ?_
    refine e_aldn cd_72_93 u1 ?_
    refine e_ildn cd_72_94 u2 ?_
    refine e_ildn cd_72_95 u3 ?_
    obtain ⟨q11, h12, hs⟩ := k_bind hs
    refine e_cvi cd_72_96 kd_72_249 rfl rfl rfl rfl rfl nl_40 rfl rfl (tie_mo_leaf d t0 v1 v2 M8 _ h12) ?_
    refine e_const cd_72_99 ci_m1 ?_
    refine e_ildn cd_72_100 u4 ?_
    refine e_ild cd_72_101 u5 ?_
    obtain ⟨q13, h14, hs⟩ := k_bind hs
    refine e_cvi cd_72_103 kd_72_334 rfl rfl rfl rfl rfl nl_67 rfl rfl (tie_mo_ahead d t0 v1 q11.1 (-1) v3 v4 q11.2 _ h14) ?_
    exact tie_mo_tries_106  d  t0 v2 v6 s0 q13 so _ u1 u3 u6 u7 hs
theorem tie_mo_tries_66  (d : Nat)  (t0 : Nat) (v1 : Int32) (v2 : Int32) (v3 : Int32) (v4 : Int32) (v5 : Int32) (s0 : Int32) (M : zM) (so : zM) (ls : List (Nat × zV)) (g0 : zl_get ls 0 = some (.inr (.inr (12, (some t0))))) (g1 : zl_get ls 1 = some (.inl v1)) (g2 : zl_get ls 2 = some (.inl v2)) (g3 : zl_get ls 3 = some (.inl v3)) (g4 : zl_get ls 4 = some (.inl v4)) (g5 : zl_get ls 5 = some (.inl v5)) (hs : mo_tries_66  d t0 v1 v2 v3 v4 v5 s0 M = some so) : Ev zq_T (d + 1) 72 66 ls [.inl s0] M (none, so) := by
  unfold mo_tries_66 at hs
  refine e_iK cd_72_66 nl_72 rfl rfl ?_
  intro _ gn kp
  have u1 := kp 0 _ g0 rfl rfl
  have u2 := kp 1 _ g1 rfl rfl
  have u3 := kp 2 _ g2 rfl rfl
  have u4 := kp 3 _ g3 rfl rfl
  have u5 := kp 4 _ g4 rfl rfl
  have u6 := kp 5 _ g5 rfl rfl
  have u7 := gn
  refine e_ild cd_72_68 u6 ?_
  refine k_if hs (fun c8 hs => ?_) (fun c8 hs => ?_)
  · refine e_izJ cd_72_70 rfl c8 ?_
    refine e_ild cd_72_77 u5 ?_
    exact tie_mo_tries_79  d  t0 v1 v2 v3 v4 s0 v4 M so _ u1 u2 u3 u4 u5 u7 hs
  · refine e_izN cd_72_70 rfl c8 ?_
    refine e_ildn cd_72_73 u4 ?_
    refine e_goto cd_72_74 rfl ?_
    exact tie_mo_tries_79  d  t0 v1 v2 v3 v4 s0 v3 M so _ u1 u2 u3 u4 u5 u7 hs
theorem tie_mo_tries_53  (d : Nat)  (t0 : Nat) (v1 : Int32) (v2 : Int32) (v3 : Int32) (v4 : Int32) (s0 : Int32) (M : zM) (so : zM) (ls : List (Nat × zV)) (g0 : zl_get ls 0 = some (.inr (.inr (12, (some t0))))) (g1 : zl_get ls 1 = some (.inl v1)) (g2 : zl_get ls 2 = some (.inl v2)) (g3 : zl_get ls 3 = some (.inl v3)) (g4 : zl_get ls 4 = some (.inl v4)) (hs : mo_tries_53  d t0 v1 v2 v3 v4 s0 M = some so) : Ev zq_T (d + 1) 72 53 ls [.inl s0] M (none, so) := by
  unfold mo_tries_53 at hs
  refine e_iK cd_72_53 nl_72 rfl rfl ?_
  intro _ gn kp
  have u1 := kp 0 _ g0 rfl rfl
  have u2 := kp 1 _ g1 rfl rfl
  have u3 := kp 2 _ g2 rfl rfl
  have u4 := kp 3 _ g3 rfl rfl
  have u5 := kp 4 _ g4 rfl rfl
  have u6 := gn
  refine e_ild cd_72_55 u6 ?_
  refine k_if hs (fun c7 hs => ?_) (fun c7 hs => ?_)
  · refine e_izJ cd_72_57 rfl c7 ?_
    refine e_ildn cd_72_65 u4 ?_
    exact tie_mo_tries_66  d  t0 v1 v2 v3 v4 s0 v3 M so _ u1 u2 u3 u4 u5 u6 hs
  · refine e_izN cd_72_57 rfl c7 ?_
    refine e_ild cd_72_60 u5 ?_
    refine e_goto cd_72_62 rfl ?_
    exact tie_mo_tries_66  d  t0 v1 v2 v3 v4 s0 v4 M so _ u1 u2 u3 u4 u5 u6 hs
theorem tie_mo_tries_48  (d : Nat)  (t0 : Nat) (v1 : Int32) (v2 : Int32) (v3 : Int32) (v4 : Int32) (M : zM) (so : zM) (ls : List (Nat × zV)) (g0 : zl_get ls 0 = some (.inr (.inr (12, (some t0))))) (g1 : zl_get ls 1 = some (.inl v1)) (g2 : zl_get ls 2 = some (.inl v2)) (g3 : zl_get ls 3 = some (.inl v3)) (g4 : zl_get ls 4 = some (.inl v4)) (hs : mo_tries_48  d t0 v1 v2 v3 v4 M = some so) : Ev zq_T (d + 1) 72 48 ls [] M (none, so) := by
  unfold mo_tries_48 at hs
  refine e_const cd_72_48 ci_1 ?_
  refine e_goto cd_72_49 rfl ?_
  exact tie_mo_tries_53  d  t0 v1 v2 v3 v4 1 M so _ g0 g1 g2 g3 g4 hs
theorem tie_mo_tries_52  (d : Nat)  (t0 : Nat) (v1 : Int32) (v2 : Int32) (v3 : Int32) (v4 : Int32) (M : zM) (so : zM) (ls : List (Nat × zV)) (g0 : zl_get ls 0 = some (.inr (.inr (12, (some t0))))) (g1 : zl_get ls 1 = some (.inl v1)) (g2 : zl_get ls 2 = some (.inl v2)) (g3 : zl_get ls 3 = some (.inl v3)) (g4 : zl_get ls 4 = some (.inl v4)) (hs : mo_tries_52  d t0 v1 v2 v3 v4 M = some so) : Ev zq_T (d + 1) 72 52 ls [] M (none, so) := by
  unfold mo_tries_52 at hs
  refine e_const cd_72_52 ci_0 ?_
  exact tie_mo_tries_53  d  t0 v1 v2 v3 v4 0 M so _ g0 g1 g2 g3 g4 hs
theorem tieb_mo_tries  (d : Nat)  (a0 : Nat) (a1 : Int32) (a2 : Int32) (a3 : Int32) (a4 : Int32) (M : zM) (so : zM) (hs : mo_tries_b  d a0 a1 a2 a3 a4 M = some so) : Ev zq_T (d + 1) 72 0 (zl_args 0 [.inr (.inr (12, some a0)), .inl a1, .inl a2, .inl a3, .inl a4]) [] M (none, so) := by
  unfold mo_tries_b at hs
  have g0 : zl_get (zl_args 0 [.inr (.inr (12, some a0)), .inl a1, .inl a2, .inl a3, .inl a4]) 0 = some (.inr (.inr (12, (some a0)))) := rfl
  have g1 : zl_get (zl_args 0 [.inr (.inr (12, some a0)), .inl a1, .inl a2, .inl a3, .inl a4]) 1 = some (.inl a1) := rfl
  have g2 : zl_get (zl_args 0 [.inr (.inr (12, some a0)), .inl a1, .inl a2, .inl a3, .inl a4]) 2 = some (.inl a2) := rfl
  have g3 : zl_get (zl_args 0 [.inr (.inr (12, some a0)), .inl a1, .inl a2, .inl a3, .inl a4]) 3 = some (.inl a3) := rfl
  have g4 : zl_get (zl_args 0 [.inr (.inr (12, some a0)), .inl a1, .inl a2, .inl a3, .inl a4]) 4 = some (.inl a4) := rfl
  refine e_aldn cd_72_0 g0 ?_
  refine e_getR cd_72_1 fd_72_50 rfl ?_
  refine e_ildn cd_72_4 g3 ?_
  refine k_opt hs (fun _ q => nomatch q) (fun k1 h2 hs => ?_)
  obtain ⟨c3, hs⟩ := z_ite hs
  refine e_iald cd_72_5 rfl h2 c3 ?_
  refine e_aldn cd_72_6 g0 ?_
  refine e_getR cd_72_7 fd_72_50 rfl ?_
  refine e_ild cd_72_10 g4 ?_
  refine k_opt hs (fun _ q => nomatch q) (fun k4 h5 hs => ?_)
  obtain ⟨c6, hs⟩ := z_ite hs
  refine e_iald cd_72_12 rfl h5 c6 ?_
  refine k_if hs (fun c7 hs => ?_) (fun c7 hs => ?_)
  · refine e_icJ cd_72_13 rfl c7 ?_
    exact tie_mo_tries_48  d  a0 a1 a2 a3 a4 M so _ g0 g1 g2 g3 g4 hs
  · refine e_icN cd_72_13 rfl c7 ?_
    refine e_aldn cd_72_16 g0 ?_
    refine e_getR cd_72_17 fd_72_50 rfl ?_
    refine e_ildn cd_72_20 g3 ?_
    refine k_opt hs (fun _ q => nomatch q) (fun k8 h9 hs => ?_)
    obtain ⟨c10, hs⟩ := z_ite hs
    refine e_iald cd_72_21 rfl h9 c10 ?_
    refine e_aldn cd_72_22 g0 ?_
    refine e_getR cd_72_23 fd_72_50 rfl ?_
    refine e_ild cd_72_26 g4 ?_
    refine k_opt hs (fun _ q => nomatch q) (fun k11 h12 hs => ?_)
    obtain ⟨c13, hs⟩ := z_ite hs
    refine e_iald cd_72_28 rfl h12 c13 ?_
    refine k_if hs (fun c14 hs => ?_) (fun c14 hs => ?_)
    · refine e_icN cd_72_29 rfl (fun q => q c14) ?_
      refine e_aldn cd_72_32 g0 ?_
      refine e_getR cd_72_33 fd_72_53 rfl ?_
      refine e_ildn cd_72_36 g3 ?_
      refine k_opt hs (fun _ q => nomatch q) (fun k15 h16 hs => ?_)
      obtain ⟨c17, hs⟩ := z_ite hs
      refine e_iald cd_72_37 rfl h16 c17 ?_
      refine e_aldn cd_72_38 g0 ?_
      refine e_getR cd_72_39 fd_72_53 rfl ?_
      refine e_ild cd_72_42 g4 ?_
      refine k_opt hs (fun _ q => nomatch q) (fun k18 h19 hs => ?_)
      obtain ⟨c20, hs⟩ := z_ite hs
      refine e_iald cd_72_44 rfl h19 c20 ?_
      refine k_if hs (fun c21 hs => ?_) (fun c21 hs => ?_)
      · refine e_icJ cd_72_45 rfl c21 ?_
        exact tie_mo_tries_52  d  a0 a1 a2 a3 a4 M so _ g0 g1 g2 g3 g4 hs
      · refine e_icN cd_72_45 rfl c21 ?_
        exact tie_mo_tries_48  d  a0 a1 a2 a3 a4 M so _ g0 g1 g2 g3 g4 hs
    · refine e_icJ cd_72_29 rfl c14 ?_
      exact tie_mo_tries_52  d  a0 a1 a2 a3 a4 M so _ g0 g1 g2 g3 g4 hs
theorem tie_mo_tries (d : Nat) (a0 : Nat) (a1 : Int32) (a2 : Int32) (a3 : Int32) (a4 : Int32) (M : zM) (so : zM) (hs : mo_tries d a0 a1 a2 a3 a4 M = some so) : Ev zq_T d 72 0 (zl_args 0 [.inr (.inr (12, some a0)), .inl a1, .inl a2, .inl a3, .inl a4]) [] M (none, so) := by
  cases d with
  | zero => exact nomatch hs
  | succ d => exact tieb_mo_tries d a0 a1 a2 a3 a4 M so hs
theorem tie_mo_findsWitness_85 (kl9 : Nat → Int32 → Int32 → Int32 → zM → Option (Int32 × zM)) (kl28 : Nat → Int32 → Int32 → Int32 → Int32 → zM → Option (Int32 × zM)) (kl40 : Nat → Int32 → Int32 → Int32 → Int32 → Int32 → zM → Option (Int32 × zM)) (d : Nat) (hk9 : ∀ (t0 : Nat) (v1 : Int32) (v2 : Int32) (v3 : Int32) (M : zM) (so : Int32 × zM) (ls : List (Nat × zV)), zl_get ls 0 = some (.inr (.inr (12, (some t0)))) → zl_get ls 1 = some (.inl v1) → zl_get ls 2 = some (.inl v2) → zl_get ls 3 = some (.inl v3) → kl9 t0 v1 v2 v3 M = some so → Ev zq_T (d + 1) 73 9 ls [] M (some (.inl so.1), so.2)) (hk28 : ∀ (t0 : Nat) (v1 : Int32) (v2 : Int32) (v3 : Int32) (v4 : Int32) (M : zM) (so : Int32 × zM) (ls : List (Nat × zV)), zl_get ls 0 = some (.inr (.inr (12, (some t0)))) → zl_get ls 1 = some (.inl v1) → zl_get ls 2 = some (.inl v2) → zl_get ls 3 = some (.inl v3) → zl_get ls 4 = some (.inl v4) → kl28 t0 v1 v2 v3 v4 M = some so → Ev zq_T (d + 1) 73 28 ls [] M (some (.inl so.1), so.2)) (hk40 : ∀ (t0 : Nat) (v1 : Int32) (v2 : Int32) (v3 : Int32) (v4 : Int32) (v5 : Int32) (M : zM) (so : Int32 × zM) (ls : List (Nat × zV)), zl_get ls 0 = some (.inr (.inr (12, (some t0)))) → zl_get ls 1 = some (.inl v1) → zl_get ls 2 = some (.inl v2) → zl_get ls 3 = some (.inl v3) → zl_get ls 4 = some (.inl v4) → zl_get ls 5 = some (.inl v5) → kl40 t0 v1 v2 v3 v4 v5 M = some so → Ev zq_T (d + 1) 73 40 ls [] M (some (.inl so.1), so.2)) (t0 : Nat) (v1 : Int32) (v2 : Int32) (v3 : Int32) (v4 : Int32) (v5 : Int32) (M : zM) (so : Int32 × zM) (ls : List (Nat × zV)) (g0 : zl_get ls 0 = some (.inr (.inr (12, (some t0))))) (g1 : zl_get ls 1 = some (.inl v1)) (g2 : zl_get ls 2 = some (.inl v2)) (g3 : zl_get ls 3 = some (.inl v3)) (g4 : zl_get ls 4 = some (.inl v4)) (g5 : zl_get ls 5 = some (.inl v5)) (hs : mo_findsWitness_85 kl9 kl28 kl40 d t0 v1 v2 v3 v4 v5 M = some so) : Ev zq_T (d + 1) 73 85 ls [] M (some (.inl so.1), so.2) := by
  unfold mo_findsWitness_85 at hs
  refine k_let hs (fun x1 e2 hs => ?_)
  refine e_incK cd_73_85 nl_73 rfl g5 ci_1 e2 ?_
  intro _ gn kp
  have u3 := kp 0 _ g0 rfl rfl
  have u4 := kp 1 _ g1 rfl rfl
  have u5 := kp 2 _ g2 rfl rfl
  have u6 := kp 3 _ g3 rfl rfl
  have u7 := kp 4 _ g4 rfl rfl
  have u8 := gn
  refine e_goto cd_73_88 rfl ?_
  exact hk40 t0 v1 v2 v3 v4 x1 M so _ u3 u4 u5 u6 u7 u8 hs
theorem tie_mo_findsWitness_62 (kl9 : Nat → Int32 → Int32 → Int32 → zM → Option (Int32 × zM)) (kl28 : Nat → Int32 → Int32 → Int32 → Int32 → zM → Option (Int32 × zM)) (kl40 : Nat → Int32 → Int32 → Int32 → Int32 → Int32 → zM → Option (Int32 × zM)) (d : Nat) (hk9 : ∀ (t0 : Nat) (v1 : Int32) (v2 : Int32) (v3 : Int32) (M : zM) (so : Int32 × zM) (ls : List (Nat × zV)), zl_get ls 0 = some (.inr (.inr (12, (some t0)))) → zl_get ls 1 = some (.inl v1) → zl_get ls 2 = some (.inl v2) → zl_get ls 3 = some (.inl v3) → kl9 t0 v1 v2 v3 M = some so → Ev zq_T (d + 1) 73 9 ls [] M (some (.inl so.1), so.2)) (hk28 : ∀ (t0 : Nat) (v1 : Int32) (v2 : Int32) (v3 : Int32) (v4 : Int32) (M : zM) (so : Int32 × zM) (ls : List (Nat × zV)), zl_get ls 0 = some (.inr (.inr (12, (some t0)))) → zl_get ls 1 = some (.inl v1) → zl_get ls 2 = some (.inl v2) → zl_get ls 3 = some (.inl v3) → zl_get ls 4 = some (.inl v4) → kl28 t0 v1 v2 v3 v4 M = some so → Ev zq_T (d + 1) 73 28 ls [] M (some (.inl so.1), so.2)) (hk40 : ∀ (t0 : Nat) (v1 : Int32) (v2 : Int32) (v3 : Int32) (v4 : Int32) (v5 : Int32) (M : zM) (so : Int32 × zM) (ls : List (Nat × zV)), zl_get ls 0 = some (.inr (.inr (12, (some t0)))) → zl_get ls 1 = some (.inl v1) → zl_get ls 2 = some (.inl v2) → zl_get ls 3 = some (.inl v3) → zl_get ls 4 = some (.inl v4) → zl_get ls 5 = some (.inl v5) → kl40 t0 v1 v2 v3 v4 v5 M = some so → Ev zq_T (d + 1) 73 40 ls [] M (some (.inl so.1), so.2)) (t0 : Nat) (v1 : Int32) (v2 : Int32) (v3 : Int32) (v4 : Int32) (v5 : Int32) (M : zM) (so : Int32 × zM) (ls : List (Nat × zV)) (g0 : zl_get ls 0 = some (.inr (.inr (12, (some t0))))) (g1 : zl_get ls 1 = some (.inl v1)) (g2 : zl_get ls 2 = some (.inl v2)) (g3 : zl_get ls 3 = some (.inl v3)) (g4 : zl_get ls 4 = some (.inl v4)) (g5 : zl_get ls 5 = some (.inl v5)) (hs : mo_findsWitness_62 kl9 kl28 kl40 d t0 v1 v2 v3 v4 v5 M = some so) : Ev zq_T (d + 1) 73 62 ls [] M (some (.inl so.1), so.2) := by
  unfold mo_findsWitness_62 at hs
  refine e_aldn cd_73_62 g0 ?_
  refine e_ildn cd_73_63 g1 ?_
  refine e_ildn cd_73_64 g3 ?_
  refine e_ild cd_73_65 g4 ?_
  refine e_ild cd_73_67 g5 ?_
  obtain ⟨q1, h2, hs⟩ := k_bind hs
  refine e_cvi cd_73_69 kd_73_344 rfl rfl rfl rfl rfl nl_55 rfl rfl (tie_mo_areBoth d t0 v1 v3 v4 v5 M _ h2) ?_
  refine k_if hs (fun c3 hs => ?_) (fun c3 hs => ?_)
  · refine e_izJ cd_73_72 rfl c3 ?_
    exact tie_mo_findsWitness_85 kl9 kl28 kl40 d hk9 hk28 hk40 t0 v1 v2 v3 v4 v5 q1.2 so _ g0 g1 g2 g3 g4 g5 hs
  · refine e_izN cd_73_72 rfl c3 ?_
    refine e_aldn cd_73_75 g0 ?_
    refine e_ildn cd_73_76 g1 ?_
    refine e_ildn cd_73_77 g3 ?_
    refine e_ild cd_73_78 g4 ?_
    refine e_ild cd_73_80 g5 ?_
    obtain ⟨q4, h5, hs⟩ := k_bind hs
    refine e_cvi cd_73_82 kd_73_354 rfl rfl rfl rfl rfl nl_72 rfl rfl (tie_mo_tries d t0 v1 v3 v4 v5 q1.2 _ h5) ?_
    exact tie_mo_findsWitness_85 kl9 kl28 kl40 d hk9 hk28 hk40 t0 v1 v2 v3 v4 v5 q4 so _ g0 g1 g2 g3 g4 g5 hs
theorem tie_mo_findsWitness_40 (kl9 : Nat → Int32 → Int32 → Int32 → zM → Option (Int32 × zM)) (kl28 : Nat → Int32 → Int32 → Int32 → Int32 → zM → Option (Int32 × zM)) (d : Nat) (hk9 : ∀ (t0 : Nat) (v1 : Int32) (v2 : Int32) (v3 : Int32) (M : zM) (so : Int32 × zM) (ls : List (Nat × zV)), zl_get ls 0 = some (.inr (.inr (12, (some t0)))) → zl_get ls 1 = some (.inl v1) → zl_get ls 2 = some (.inl v2) → zl_get ls 3 = some (.inl v3) → kl9 t0 v1 v2 v3 M = some so → Ev zq_T (d + 1) 73 9 ls [] M (some (.inl so.1), so.2)) (hk28 : ∀ (t0 : Nat) (v1 : Int32) (v2 : Int32) (v3 : Int32) (v4 : Int32) (M : zM) (so : Int32 × zM) (ls : List (Nat × zV)), zl_get ls 0 = some (.inr (.inr (12, (some t0)))) → zl_get ls 1 = some (.inl v1) → zl_get ls 2 = some (.inl v2) → zl_get ls 3 = some (.inl v3) → zl_get ls 4 = some (.inl v4) → kl28 t0 v1 v2 v3 v4 M = some so → Ev zq_T (d + 1) 73 28 ls [] M (some (.inl so.1), so.2)) : ∀ (fuel : Nat) (t0 : Nat) (v1 : Int32) (v2 : Int32) (v3 : Int32) (v4 : Int32) (v5 : Int32) (M : zM) (so : Int32 × zM) (ls : List (Nat × zV)), zl_get ls 0 = some (.inr (.inr (12, (some t0)))) → zl_get ls 1 = some (.inl v1) → zl_get ls 2 = some (.inl v2) → zl_get ls 3 = some (.inl v3) → zl_get ls 4 = some (.inl v4) → zl_get ls 5 = some (.inl v5) → mo_findsWitness_40 kl9 kl28 d fuel t0 v1 v2 v3 v4 v5 M = some so → Ev zq_T (d + 1) 73 40 ls [] M (some (.inl so.1), so.2) := by
  intro fuel
  induction fuel with
  | zero => intro t0 v1 v2 v3 v4 v5 M so ls g0 g1 g2 g3 g4 g5 hs; exact nomatch hs
  | succ fuel ih =>
    intro t0 v1 v2 v3 v4 v5 M so ls g0 g1 g2 g3 g4 g5 hs
    unfold mo_findsWitness_40 at hs
    refine e_ild cd_73_40 g5 ?_
    refine e_ild cd_73_42 g4 ?_
    refine k_if hs (fun c1 hs => ?_) (fun c1 hs => ?_)
    · refine e_icJ cd_73_44 rfl c1 ?_
      refine k_let hs (fun x2 e3 hs => ?_)
      refine e_incK cd_73_91 nl_73 rfl g4 ci_1 e3 ?_
      intro _ gn kp
      have u4 := kp 0 _ g0 rfl rfl
      have u5 := kp 1 _ g1 rfl rfl
      have u6 := kp 2 _ g2 rfl rfl
      have u7 := kp 3 _ g3 rfl rfl
      have u8 := gn
      refine e_goto cd_73_94 rfl ?_
      exact hk28 t0 v1 v2 v3 x2 M so _ u4 u5 u6 u7 u8 hs
    · refine e_icN cd_73_44 rfl c1 ?_
      refine e_ildn cd_73_47 g2 ?_
      refine k_if hs (fun c9 hs => ?_) (fun c9 hs => ?_)
      · refine e_izJ cd_73_48 rfl c9 ?_
        exact tie_mo_findsWitness_62 kl9 kl28 (fun p0 p1 p2 p3 p4 p5 m => mo_findsWitness_40 kl9 kl28 d fuel p0 p1 p2 p3 p4 p5 m) d hk9 hk28 ih t0 v1 v2 v3 v4 v5 M so _ g0 g1 g2 g3 g4 g5 hs
      · refine e_izN cd_73_48 rfl c9 ?_
        refine e_aldn cd_73_51 g0 ?_
        refine e_ild cd_73_52 g4 ?_
        refine e_ild cd_73_54 g5 ?_
        obtain ⟨q10, h11, hs⟩ := k_bind hs
        refine e_cvi cd_73_56 kd_73_341 rfl rfl rfl rfl rfl nl_68 rfl rfl (tie_mo_isUnlike d t0 v4 v5 M _ h11) ?_
        refine k_if hs (fun c12 hs => ?_) (fun c12 hs => ?_)
        · refine e_izJ cd_73_59 rfl c12 ?_
          exact tie_mo_findsWitness_85 kl9 kl28 (fun p0 p1 p2 p3 p4 p5 m => mo_findsWitness_40 kl9 kl28 d fuel p0 p1 p2 p3 p4 p5 m) d hk9 hk28 ih t0 v1 v2 v3 v4 v5 q10.2 so _ g0 g1 g2 g3 g4 g5 hs
        · refine e_izN cd_73_59 rfl c12 ?_
          exact tie_mo_findsWitness_62 kl9 kl28 (fun p0 p1 p2 p3 p4 p5 m => mo_findsWitness_40 kl9 kl28 d fuel p0 p1 p2 p3 p4 p5 m) d hk9 hk28 ih t0 v1 v2 v3 v4 v5 q10.2 so _ g0 g1 g2 g3 g4 g5 hs
theorem tie_mo_findsWitness_28 (kl9 : Nat → Int32 → Int32 → Int32 → zM → Option (Int32 × zM)) (d : Nat) (hk9 : ∀ (t0 : Nat) (v1 : Int32) (v2 : Int32) (v3 : Int32) (M : zM) (so : Int32 × zM) (ls : List (Nat × zV)), zl_get ls 0 = some (.inr (.inr (12, (some t0)))) → zl_get ls 1 = some (.inl v1) → zl_get ls 2 = some (.inl v2) → zl_get ls 3 = some (.inl v3) → kl9 t0 v1 v2 v3 M = some so → Ev zq_T (d + 1) 73 9 ls [] M (some (.inl so.1), so.2)) : ∀ (fuel : Nat) (t0 : Nat) (v1 : Int32) (v2 : Int32) (v3 : Int32) (v4 : Int32) (M : zM) (so : Int32 × zM) (ls : List (Nat × zV)), zl_get ls 0 = some (.inr (.inr (12, (some t0)))) → zl_get ls 1 = some (.inl v1) → zl_get ls 2 = some (.inl v2) → zl_get ls 3 = some (.inl v3) → zl_get ls 4 = some (.inl v4) → mo_findsWitness_28 kl9 d fuel t0 v1 v2 v3 v4 M = some so → Ev zq_T (d + 1) 73 28 ls [] M (some (.inl so.1), so.2) := by
  intro fuel
  induction fuel with
  | zero => intro t0 v1 v2 v3 v4 M so ls g0 g1 g2 g3 g4 hs; exact nomatch hs
  | succ fuel ih =>
    intro t0 v1 v2 v3 v4 M so ls g0 g1 g2 g3 g4 hs
    unfold mo_findsWitness_28 at hs
    refine e_ild cd_73_28 g4 ?_
    refine e_aldn cd_73_30 g0 ?_
    refine e_getI cd_73_31 (Or.inl fd_73_265) rfl ?_
    refine k_if hs (fun c1 hs => ?_) (fun c1 hs => ?_)
    · refine e_icJ cd_73_34 rfl c1 ?_
      refine k_let hs (fun x2 e3 hs => ?_)
      refine e_incK cd_73_97 nl_73 rfl g3 ci_1 e3 ?_
      intro _ gn kp
      have u4 := kp 0 _ g0 rfl rfl
      have u5 := kp 1 _ g1 rfl rfl
      have u6 := kp 2 _ g2 rfl rfl
      have u7 := gn
      refine e_goto cd_73_100 rfl ?_
      exact hk9 t0 v1 v2 x2 M so _ u4 u5 u6 u7 hs
    · refine e_icN cd_73_34 rfl c1 ?_
      refine e_const cd_73_37 ci_0 ?_
      refine e_iK cd_73_38 nl_73 rfl rfl ?_
      intro _ gn kp
      have u8 := kp 0 _ g0 rfl rfl
      have u9 := kp 1 _ g1 rfl rfl
      have u10 := kp 2 _ g2 rfl rfl
      have u11 := kp 3 _ g3 rfl rfl
      have u12 := kp 4 _ g4 rfl rfl
      have u13 := gn
      exact tie_mo_findsWitness_40 kl9 (fun p0 p1 p2 p3 p4 m => mo_findsWitness_28 kl9 d fuel p0 p1 p2 p3 p4 m) d hk9 ih zLF t0 v1 v2 v3 v4 0 M so _ u8 u9 u10 u11 u12 u13 hs
theorem tie_mo_findsWitness_118  (d : Nat)  (s0 : Int32) (M : zM) (so : Int32 × zM) (ls : List (Nat × zV))  (hs : mo_findsWitness_118  d s0 M = some so) : Ev zq_T (d + 1) 73 118 ls [.inl s0] M (some (.inl so.1), so.2) := by
  unfold mo_findsWitness_118 at hs
  obtain ⟨c1, hs⟩ := z_ite hs
  have e := Option.some.inj hs
  subst e
  exact e_rz cd_73_118 nr_73 c1
theorem tie_mo_findsWitness_9  (d : Nat)  : ∀ (fuel : Nat) (t0 : Nat) (v1 : Int32) (v2 : Int32) (v3 : Int32) (M : zM) (so : Int32 × zM) (ls : List (Nat × zV)), zl_get ls 0 = some (.inr (.inr (12, (some t0)))) → zl_get ls 1 = some (.inl v1) → zl_get ls 2 = some (.inl v2) → zl_get ls 3 = some (.inl v3) → mo_findsWitness_9  d fuel t0 v1 v2 v3 M = some so → Ev zq_T (d + 1) 73 9 ls [] M (some (.inl so.1), so.2) := by
  intro fuel
  induction fuel with
  | zero => intro t0 v1 v2 v3 M so ls g0 g1 g2 g3 hs; exact nomatch hs
  | succ fuel ih =>
    intro t0 v1 v2 v3 M so ls g0 g1 g2 g3 hs
    unfold mo_findsWitness_9 at hs
    refine e_ildn cd_73_9 g3 ?_
    refine e_aldn cd_73_10 g0 ?_
    refine e_ildn cd_73_11 g1 ?_
    refine e_const cd_73_12 ci_2 ?_
    obtain ⟨q1, h2, hs⟩ := k_bind hs
    refine e_cvi cd_73_13 kd_73_258 rfl rfl rfl rfl rfl nl_35 rfl rfl (tie_mo_of d t0 v1 2 M _ h2) ?_
    refine k_if hs (fun c3 hs => ?_) (fun c3 hs => ?_)
    · refine e_icJ cd_73_16 rfl c3 ?_
      refine e_aldn cd_73_103 g0 ?_
      refine e_getR cd_73_104 fd_73_75 rfl ?_
      refine e_const cd_73_107 ci_5 ?_
      refine k_opt hs (fun _ q => nomatch q) (fun k4 h5 hs => ?_)
      obtain ⟨c6, hs⟩ := z_ite hs
      refine e_iald cd_73_108 rfl h5 c6 ?_
      refine e_const cd_73_109 ci_m1 ?_
      refine k_if hs (fun c7 hs => ?_) (fun c7 hs => ?_)
      · refine e_icJ cd_73_110 rfl c7 ?_
        refine e_const cd_73_117 ci_0 ?_
        exact tie_mo_findsWitness_118  d  0 q1.2 so _  hs
      · refine e_icN cd_73_110 rfl c7 ?_
        refine e_const cd_73_113 ci_1 ?_
        refine e_goto cd_73_114 rfl ?_
        exact tie_mo_findsWitness_118  d  1 q1.2 so _  hs
    · refine e_icN cd_73_16 rfl c3 ?_
      refine e_aldn cd_73_19 g0 ?_
      refine e_ildn cd_73_20 g1 ?_
      refine e_ildn cd_73_21 g3 ?_
      obtain ⟨q8, h9, hs⟩ := k_bind hs
      refine e_cvi cd_73_22 kd_73_338 rfl rfl rfl rfl rfl nl_49 rfl rfl (tie_mo_laysWays d t0 v1 v3 q1.2 _ h9) ?_
      refine e_const cd_73_25 ci_0 ?_
      refine e_iK cd_73_26 nl_73 rfl rfl ?_
      intro _ gn kp
      have u10 := kp 0 _ g0 rfl rfl
      have u11 := kp 1 _ g1 rfl rfl
      have u12 := kp 2 _ g2 rfl rfl
      have u13 := kp 3 _ g3 rfl rfl
      have u14 := gn
      exact tie_mo_findsWitness_28 (fun p0 p1 p2 p3 m => mo_findsWitness_9  d fuel p0 p1 p2 p3 m) d ih zLF t0 v1 v2 v3 0 q8 so _ u10 u11 u12 u13 u14 hs
theorem tieb_mo_findsWitness  (d : Nat)  (a0 : Nat) (a1 : Int32) (a2 : Int32) (M : zM) (so : Int32 × zM) (hs : mo_findsWitness_b  d a0 a1 a2 M = some so) : Ev zq_T (d + 1) 73 0 (zl_args 0 [.inr (.inr (12, some a0)), .inl a1, .inl a2]) [] M (some (.inl so.1), so.2) := by
  unfold mo_findsWitness_b at hs
  have g0 : zl_get (zl_args 0 [.inr (.inr (12, some a0)), .inl a1, .inl a2]) 0 = some (.inr (.inr (12, (some a0)))) := rfl
  have g1 : zl_get (zl_args 0 [.inr (.inr (12, some a0)), .inl a1, .inl a2]) 1 = some (.inl a1) := rfl
  have g2 : zl_get (zl_args 0 [.inr (.inr (12, some a0)), .inl a1, .inl a2]) 2 = some (.inl a2) := rfl
  refine e_aldn cd_73_0 g0 ?_
  refine e_getR cd_73_1 fd_73_75 rfl ?_
  refine e_const cd_73_4 ci_5 ?_
  refine e_const cd_73_5 ci_m1 ?_
  refine k_opt hs (fun _ q => nomatch q) (fun k1 h2 hs => ?_)
  obtain ⟨c3, hs⟩ := z_ite hs
  refine k_let hs (fun M4 e5 hs => ?_)
  refine e_iast cd_73_6 rfl h2 c3 e5 ?_
  refine e_const cd_73_7 ci_m1 ?_
  refine e_iKn cd_73_8 nl_73 rfl rfl ?_
  intro _ gn kp
  have u6 := kp 0 _ g0 rfl rfl
  have u7 := kp 1 _ g1 rfl rfl
  have u8 := kp 2 _ g2 rfl rfl
  have u9 := gn
  exact tie_mo_findsWitness_9  d  zLF a0 a1 a2 (-1) M4 so _ u6 u7 u8 u9 hs
theorem tie_mo_findsWitness (d : Nat) (a0 : Nat) (a1 : Int32) (a2 : Int32) (M : zM) (so : Int32 × zM) (hs : mo_findsWitness d a0 a1 a2 M = some so) : Ev zq_T d 73 0 (zl_args 0 [.inr (.inr (12, some a0)), .inl a1, .inl a2]) [] M (some (.inl so.1), so.2) := by
  cases d with
  | zero => exact nomatch hs
  | succ d => exact tieb_mo_findsWitness d a0 a1 a2 M so hs
theorem tie_mo_witness_46  (d : Nat)  (s0 : Int32) (M : zM) (so : Int32 × zM) (ls : List (Nat × zV))  (hs : mo_witness_46  d s0 M = some so) : Ev zq_T (d + 1) 74 46 ls [.inl s0] M (some (.inl so.1), so.2) := by
  unfold mo_witness_46 at hs
  have e := Option.some.inj hs
  subst e
  exact e_ri cd_74_46 nr_74
theorem tie_mo_witness_43  (d : Nat)   (M : zM) (so : Int32 × zM) (ls : List (Nat × zV))  (hs : mo_witness_43  d  M = some so) : Ev zq_T (d + 1) 74 43 ls [] M (some (.inl so.1), so.2) := by
  unfold mo_witness_43 at hs
  refine e_ldwI cd_74_43 od_74_366 ?_
  exact tie_mo_witness_46  d  (-1000000) M so _  hs
theorem tieb_mo_witness  (d : Nat)  (a0 : Nat) (a1 : Int32) (a2 : Int32) (a3 : Int32) (M : zM) (so : Int32 × zM) (hs : mo_witness_b  d a0 a1 a2 a3 M = some so) : Ev zq_T (d + 1) 74 0 (zl_args 0 [.inr (.inr (12, some a0)), .inl a1, .inl a2, .inl a3]) [] M (some (.inl so.1), so.2) := by
  unfold mo_witness_b at hs
  have g0 : zl_get (zl_args 0 [.inr (.inr (12, some a0)), .inl a1, .inl a2, .inl a3]) 0 = some (.inr (.inr (12, (some a0)))) := rfl
  have g1 : zl_get (zl_args 0 [.inr (.inr (12, some a0)), .inl a1, .inl a2, .inl a3]) 1 = some (.inl a1) := rfl
  have g2 : zl_get (zl_args 0 [.inr (.inr (12, some a0)), .inl a1, .inl a2, .inl a3]) 2 = some (.inl a2) := rfl
  have g3 : zl_get (zl_args 0 [.inr (.inr (12, some a0)), .inl a1, .inl a2, .inl a3]) 3 = some (.inl a3) := rfl
  refine e_aldn cd_74_0 g0 ?_
  refine e_const cd_74_1 ci_0 ?_
  refine k_let hs (fun M1 e2 hs => ?_)
  refine e_putI cd_74_2 pd_74_114 rfl e2 ?_
  refine e_aldn cd_74_5 g0 ?_
  refine e_ildn cd_74_6 g1 ?_
  obtain ⟨q3, h4, hs⟩ := k_bind hs
  refine e_cvi cd_74_7 kd_74_357 rfl rfl rfl rfl rfl nl_34 rfl rfl (tie_mo_isRule d a0 a1 M1 _ h4) ?_
  refine k_if hs (fun c5 hs => ?_) (fun c5 hs => ?_)
  · refine e_izJ cd_74_10 rfl c5 ?_
    exact tie_mo_witness_43  d   q3.2 so _  hs
  · refine e_izN cd_74_10 rfl c5 ?_
    refine e_ildn cd_74_13 g3 ?_
    refine e_pure cd_74_14 rfl ?_
    refine e_lcon cd_74_15 cl_0 ?_
    refine e_ld2 cd_74_16 od_74_360 ?_
    obtain ⟨q6, h7, hs⟩ := k_bind hs
    refine e_cst cd_74_19 kd_74_204 rfl rfl rfl nl_2 rfl rfl (tie_mo_isIn d a3.toInt64 0 5 q3.2 _ h7) ?_
    refine k_if hs (fun c8 hs => ?_) (fun c8 hs => ?_)
    · refine e_izJ cd_74_22 rfl c8 ?_
      exact tie_mo_witness_43  d   q6.2 so _  hs
    · refine e_izN cd_74_22 rfl c8 ?_
      refine e_aldn cd_74_25 g0 ?_
      refine e_ildn cd_74_26 g1 ?_
      refine e_ildn cd_74_27 g2 ?_
      obtain ⟨q9, h10, hs⟩ := k_bind hs
      refine e_cvi cd_74_28 kd_74_362 rfl rfl rfl rfl rfl nl_73 rfl rfl (tie_mo_findsWitness d a0 a1 a2 q6.2 _ h10) ?_
      refine k_if hs (fun c11 hs => ?_) (fun c11 hs => ?_)
      · refine e_izJ cd_74_31 rfl c11 ?_
        exact tie_mo_witness_43  d   q9.2 so _  hs
      · refine e_izN cd_74_31 rfl c11 ?_
        refine e_aldn cd_74_34 g0 ?_
        refine e_getR cd_74_35 fd_74_75 rfl ?_
        refine e_ildn cd_74_38 g3 ?_
        refine k_opt hs (fun _ q => nomatch q) (fun k12 h13 hs => ?_)
        obtain ⟨c14, hs⟩ := z_ite hs
        refine e_iald cd_74_39 rfl h13 c14 ?_
        refine e_goto cd_74_40 rfl ?_
        exact tie_mo_witness_46  d  (zm_I q9.2 20 k12 (a3 : Int32).toNatClampNeg) q9.2 so _  hs
theorem tie_mo_witness (d : Nat) (a0 : Nat) (a1 : Int32) (a2 : Int32) (a3 : Int32) (M : zM) (so : Int32 × zM) (hs : mo_witness d a0 a1 a2 a3 M = some so) : Ev zq_T d 74 0 (zl_args 0 [.inr (.inr (12, some a0)), .inl a1, .inl a2, .inl a3]) [] M (some (.inl so.1), so.2) := by
  cases d with
  | zero => exact nomatch hs
  | succ d => exact tieb_mo_witness d a0 a1 a2 a3 M so hs
theorem tie_mo_shown_36  (d : Nat)   (M : zM) (so : Int32 × zM) (ls : List (Nat × zV))  (hs : mo_shown_36  d  M = some so) : Ev zq_T (d + 1) 75 36 ls [] M (some (.inl so.1), so.2) := by
  unfold mo_shown_36 at hs
  refine e_const cd_75_36 ci_m1 ?_
  have e := Option.some.inj hs
  subst e
  exact e_ri cd_75_37 nr_75
theorem tie_mo_shown_68  (d : Nat)  (s0 : Int32) (M : zM) (so : Int32 × zM) (ls : List (Nat × zV))  (hs : mo_shown_68  d s0 M = some so) : Ev zq_T (d + 1) 75 68 ls [.inl s0] M (some (.inl so.1), so.2) := by
  unfold mo_shown_68 at hs
  have e := Option.some.inj hs
  subst e
  exact e_ri cd_75_68 nr_75
theorem tieb_mo_shown  (d : Nat)  (a0 : Nat) (a1 : Int32) (a2 : Int32) (a3 : Int32) (M : zM) (so : Int32 × zM) (hs : mo_shown_b  d a0 a1 a2 a3 M = some so) : Ev zq_T (d + 1) 75 0 (zl_args 0 [.inr (.inr (12, some a0)), .inl a1, .inl a2, .inl a3]) [] M (some (.inl so.1), so.2) := by
  unfold mo_shown_b at hs
  have g0 : zl_get (zl_args 0 [.inr (.inr (12, some a0)), .inl a1, .inl a2, .inl a3]) 0 = some (.inr (.inr (12, (some a0)))) := rfl
  have g1 : zl_get (zl_args 0 [.inr (.inr (12, some a0)), .inl a1, .inl a2, .inl a3]) 1 = some (.inl a1) := rfl
  have g2 : zl_get (zl_args 0 [.inr (.inr (12, some a0)), .inl a1, .inl a2, .inl a3]) 2 = some (.inl a2) := rfl
  have g3 : zl_get (zl_args 0 [.inr (.inr (12, some a0)), .inl a1, .inl a2, .inl a3]) 3 = some (.inl a3) := rfl
  refine e_aldn cd_75_0 g0 ?_
  refine e_const cd_75_1 ci_0 ?_
  refine k_let hs (fun M1 e2 hs => ?_)
  refine e_putI cd_75_2 pd_75_114 rfl e2 ?_
  refine e_aldn cd_75_5 g0 ?_
  refine e_ildn cd_75_6 g1 ?_
  obtain ⟨q3, h4, hs⟩ := k_bind hs
  refine e_cvi cd_75_7 kd_75_357 rfl rfl rfl rfl rfl nl_34 rfl rfl (tie_mo_isRule d a0 a1 M1 _ h4) ?_
  refine k_if hs (fun c5 hs => ?_) (fun c5 hs => ?_)
  · refine e_izJ cd_75_10 rfl c5 ?_
    exact tie_mo_shown_36  d   q3.2 so _  hs
  · refine e_izN cd_75_10 rfl c5 ?_
    refine e_ildn cd_75_13 g3 ?_
    refine k_if hs (fun c6 hs => ?_) (fun c6 hs => ?_)
    · refine e_izJ cd_75_14 rfl c6 ?_
      exact tie_mo_shown_36  d   q3.2 so _  hs
    · refine e_izN cd_75_14 rfl c6 ?_
      refine e_aldn cd_75_17 g0 ?_
      refine e_ildn cd_75_18 g1 ?_
      refine e_ildn cd_75_19 g2 ?_
      obtain ⟨q7, h8, hs⟩ := k_bind hs
      refine e_cvi cd_75_20 kd_75_362 rfl rfl rfl rfl rfl nl_73 rfl rfl (tie_mo_findsWitness d a0 a1 a2 q3.2 _ h8) ?_
      refine k_if hs (fun c9 hs => ?_) (fun c9 hs => ?_)
      · refine e_izJ cd_75_23 rfl c9 ?_
        exact tie_mo_shown_36  d   q7.2 so _  hs
      · refine e_izN cd_75_23 rfl c9 ?_
        refine e_ildn cd_75_26 g3 ?_
        refine e_aldn cd_75_27 g0 ?_
        refine e_getR cd_75_28 fd_75_75 rfl ?_
        refine e_const cd_75_31 ci_5 ?_
        refine k_opt hs (fun _ q => nomatch q) (fun k10 h11 hs => ?_)
        obtain ⟨c12, hs⟩ := z_ite hs
        refine e_iald cd_75_32 rfl h11 c12 ?_
        refine k_if hs (fun c13 hs => ?_) (fun c13 hs => ?_)
        · refine e_icJ cd_75_33 rfl c13 ?_
          refine e_ildn cd_75_38 g3 ?_
          refine e_aldn cd_75_39 g0 ?_
          refine e_getR cd_75_40 fd_75_75 rfl ?_
          refine e_const cd_75_43 ci_5 ?_
          refine k_opt hs (fun _ q => nomatch q) (fun k14 h15 hs => ?_)
          obtain ⟨c16, hs⟩ := z_ite hs
          refine e_iald cd_75_44 rfl h15 c16 ?_
          refine k_if hs (fun c17 hs => ?_) (fun c17 hs => ?_)
          · refine e_icN cd_75_45 rfl (fun q => q c17) ?_
            refine e_aldn cd_75_48 g0 ?_
            refine e_ildn cd_75_49 g1 ?_
            refine e_aldn cd_75_50 g0 ?_
            refine e_getR cd_75_51 fd_75_75 rfl ?_
            refine e_const cd_75_54 ci_1 ?_
            refine k_opt hs (fun _ q => nomatch q) (fun k18 h19 hs => ?_)
            obtain ⟨c20, hs⟩ := z_ite hs
            refine e_iald cd_75_55 rfl h19 c20 ?_
            obtain ⟨q21, h22, hs⟩ := k_bind hs
            refine e_cvi cd_75_56 kd_75_289 rfl rfl rfl rfl rfl nl_39 rfl rfl (tie_mo_letterOf d a0 a1 (zm_I q7.2 20 k18 (1 : Int32).toNatClampNeg) q7.2 _ h22) ?_
            refine e_goto cd_75_59 rfl ?_
            exact tie_mo_shown_68  d  q21.1 q21.2 so _  hs
          · refine e_icJ cd_75_45 rfl c17 ?_
            refine e_aldn cd_75_62 g0 ?_
            refine e_getR cd_75_63 fd_75_78 rfl ?_
            refine e_ildn cd_75_66 g3 ?_
            refine k_opt hs (fun _ q => nomatch q) (fun k23 h24 hs => ?_)
            obtain ⟨c25, hs⟩ := z_ite hs
            refine e_bald cd_75_67 rfl h24 c25 ?_
            exact tie_mo_shown_68  d  (zm_I q7.2 22 k23 (a3 : Int32).toNatClampNeg) q7.2 so _  hs
        · refine e_icN cd_75_33 rfl c13 ?_
          exact tie_mo_shown_36  d   q7.2 so _  hs
theorem tie_mo_shown (d : Nat) (a0 : Nat) (a1 : Int32) (a2 : Int32) (a3 : Int32) (M : zM) (so : Int32 × zM) (hs : mo_shown d a0 a1 a2 a3 M = some so) : Ev zq_T d 75 0 (zl_args 0 [.inr (.inr (12, some a0)), .inl a1, .inl a2, .inl a3]) [] M (some (.inl so.1), so.2) := by
  cases d with
  | zero => exact nomatch hs
  | succ d => exact tieb_mo_shown d a0 a1 a2 a3 M so hs
theorem tie_mo_longest_25 (r_mo_longest : Nat → Int32 → Int32 → zM → Option (Int32 × zM)) (d : Nat) (hr_mo_longest : ∀ a0 a1 a2 M so, r_mo_longest a0 a1 a2 M = some so → Ev zq_T d 76 0 (zl_args 0 [.inr (.inr (12, some a0)), .inl a1, .inl a2]) [] M (some (.inl so.1), so.2)) (s0 : Int32) (M : zM) (so : Int32 × zM) (ls : List (Nat × zV))  (hs : mo_longest_25 r_mo_longest d s0 M = some so) : Ev zq_T (d + 1) 76 25 ls [.inl s0] M (some (.inl so.1), so.2) := by
  unfold mo_longest_25 at hs
  have e := Option.some.inj hs
  subst e
  exact e_ri cd_76_25 nr_76
theorem tie_mo_longest_16 (r_mo_longest : Nat → Int32 → Int32 → zM → Option (Int32 × zM)) (d : Nat) (hr_mo_longest : ∀ a0 a1 a2 M so, r_mo_longest a0 a1 a2 M = some so → Ev zq_T d 76 0 (zl_args 0 [.inr (.inr (12, some a0)), .inl a1, .inl a2]) [] M (some (.inl so.1), so.2)) (v3 : Int32) (M : zM) (so : Int32 × zM) (ls : List (Nat × zV)) (g3 : zl_get ls 3 = some (.inl v3)) (hs : mo_longest_16 r_mo_longest d v3 M = some so) : Ev zq_T (d + 1) 76 16 ls [] M (some (.inl so.1), so.2) := by
  unfold mo_longest_16 at hs
  refine e_ildn cd_76_16 g3 ?_
  refine k_if hs (fun c1 hs => ?_) (fun c1 hs => ?_)
  · refine e_izN cd_76_17 rfl (fun q => q c1) ?_
    refine e_const cd_76_20 ci_1 ?_
    refine e_goto cd_76_21 rfl ?_
    exact tie_mo_longest_25 r_mo_longest d hr_mo_longest 1 M so _  hs
  · refine e_izJ cd_76_17 rfl c1 ?_
    refine e_const cd_76_24 ci_0 ?_
    exact tie_mo_longest_25 r_mo_longest d hr_mo_longest 0 M so _  hs
theorem tie_mo_longest_80 (r_mo_longest : Nat → Int32 → Int32 → zM → Option (Int32 × zM)) (kl37 : Nat → Int32 → Int32 → Int32 → Int32 → Int32 → zM → Option (Int32 × zM)) (d : Nat) (hr_mo_longest : ∀ a0 a1 a2 M so, r_mo_longest a0 a1 a2 M = some so → Ev zq_T d 76 0 (zl_args 0 [.inr (.inr (12, some a0)), .inl a1, .inl a2]) [] M (some (.inl so.1), so.2)) (hk37 : ∀ (t0 : Nat) (v1 : Int32) (v2 : Int32) (v3 : Int32) (v4 : Int32) (v5 : Int32) (M : zM) (so : Int32 × zM) (ls : List (Nat × zV)), zl_get ls 0 = some (.inr (.inr (12, (some t0)))) → zl_get ls 1 = some (.inl v1) → zl_get ls 2 = some (.inl v2) → zl_get ls 3 = some (.inl v3) → zl_get ls 4 = some (.inl v4) → zl_get ls 5 = some (.inl v5) → kl37 t0 v1 v2 v3 v4 v5 M = some so → Ev zq_T (d + 1) 76 37 ls [] M (some (.inl so.1), so.2)) (t0 : Nat) (v1 : Int32) (v2 : Int32) (v3 : Int32) (v5 : Int32) (s0 : Int32) (M : zM) (so : Int32 × zM) (ls : List (Nat × zV)) (g0 : zl_get ls 0 = some (.inr (.inr (12, (some t0))))) (g1 : zl_get ls 1 = some (.inl v1)) (g2 : zl_get ls 2 = some (.inl v2)) (g3 : zl_get ls 3 = some (.inl v3)) (g5 : zl_get ls 5 = some (.inl v5)) (hs : mo_longest_80 r_mo_longest kl37 d t0 v1 v2 v3 v5 s0 M = some so) : Ev zq_T (d + 1) 76 80 ls [.inl s0] M (some (.inl so.1), so.2) := by
  unfold mo_longest_80 at hs
  refine e_iK cd_76_80 nl_76 rfl rfl ?_
  intro _ gn kp
  have u1 := kp 0 _ g0 rfl rfl
  have u2 := kp 1 _ g1 rfl rfl
  have u3 := kp 2 _ g2 rfl rfl
  have u4 := kp 3 _ g3 rfl rfl
  have u5 := kp 5 _ g5 rfl rfl
  have u6 := gn
  refine e_aldn cd_76_82 u1 ?_
  refine e_ild cd_76_83 u5 ?_
  refine e_const cd_76_85 ci_4 ?_
  obtain ⟨q7, h8, hs⟩ := k_bind hs
  refine e_cvi cd_76_86 kd_76_240 rfl rfl rfl rfl rfl nl_36 rfl rfl (tie_mo_at d t0 v5 4 M _ h8) ?_
  refine e_iK cd_76_89 nl_76 rfl rfl ?_
  intro _ gn kp
  have u9 := kp 0 _ u1 rfl rfl
  have u10 := kp 1 _ u2 rfl rfl
  have u11 := kp 2 _ u3 rfl rfl
  have u12 := kp 3 _ u4 rfl rfl
  have u13 := kp 4 _ u6 rfl rfl
  have u14 := gn
  refine e_goto cd_76_91 rfl ?_
  exact hk37 t0 v1 v2 v3 s0 q7.1 q7.2 so _ u9 u10 u11 u12 u13 u14 hs
theorem tie_mo_longest_104 (r_mo_longest : Nat → Int32 → Int32 → zM → Option (Int32 × zM)) (d : Nat) (hr_mo_longest : ∀ a0 a1 a2 M so, r_mo_longest a0 a1 a2 M = some so → Ev zq_T d 76 0 (zl_args 0 [.inr (.inr (12, some a0)), .inl a1, .inl a2]) [] M (some (.inl so.1), so.2)) (v4 : Int32) (M : zM) (so : Int32 × zM) (ls : List (Nat × zV)) (g4 : zl_get ls 4 = some (.inl v4)) (hs : mo_longest_104 r_mo_longest d v4 M = some so) : Ev zq_T (d + 1) 76 104 ls [] M (some (.inl so.1), so.2) := by
  unfold mo_longest_104 at hs
  refine e_ild cd_76_104 g4 ?_
  have e := Option.some.inj hs
  subst e
  exact e_ri cd_76_106 nr_76
theorem tie_mo_longest_135 (r_mo_longest : Nat → Int32 → Int32 → zM → Option (Int32 × zM)) (d : Nat) (hr_mo_longest : ∀ a0 a1 a2 M so, r_mo_longest a0 a1 a2 M = some so → Ev zq_T d 76 0 (zl_args 0 [.inr (.inr (12, some a0)), .inl a1, .inl a2]) [] M (some (.inl so.1), so.2)) (s0 : Int32) (M : zM) (so : Int32 × zM) (ls : List (Nat × zV))  (hs : mo_longest_135 r_mo_longest d s0 M = some so) : Ev zq_T (d + 1) 76 135 ls [.inl s0] M (some (.inl so.1), so.2) := by
  unfold mo_longest_135 at hs
  have e := Option.some.inj hs
  subst e
  exact e_ri cd_76_135 nr_76
theorem tie_mo_longest_37 (r_mo_longest : Nat → Int32 → Int32 → zM → Option (Int32 × zM)) (d : Nat) (hr_mo_longest : ∀ a0 a1 a2 M so, r_mo_longest a0 a1 a2 M = some so → Ev zq_T d 76 0 (zl_args 0 [.inr (.inr (12, some a0)), .inl a1, .inl a2]) [] M (some (.inl so.1), so.2)) : ∀ (fuel : Nat) (t0 : Nat) (v1 : Int32) (v2 : Int32) (v3 : Int32) (v4 : Int32) (v5 : Int32) (M : zM) (so : Int32 × zM) (ls : List (Nat × zV)), zl_get ls 0 = some (.inr (.inr (12, (some t0)))) → zl_get ls 1 = some (.inl v1) → zl_get ls 2 = some (.inl v2) → zl_get ls 3 = some (.inl v3) → zl_get ls 4 = some (.inl v4) → zl_get ls 5 = some (.inl v5) → mo_longest_37 r_mo_longest d fuel t0 v1 v2 v3 v4 v5 M = some so → Ev zq_T (d + 1) 76 37 ls [] M (some (.inl so.1), so.2) := by
  intro fuel
  induction fuel with
  | zero => intro t0 v1 v2 v3 v4 v5 M so ls g0 g1 g2 g3 g4 g5 hs; exact nomatch hs
  | succ fuel ih =>
    intro t0 v1 v2 v3 v4 v5 M so ls g0 g1 g2 g3 g4 g5 hs
    unfold mo_longest_37 at hs
    refine e_ild cd_76_37 g5 ?_
    refine e_const cd_76_39 ci_m1 ?_
    refine k_if hs (fun c1 hs => ?_) (fun c1 hs => ?_)
    · refine e_icJ cd_76_40 rfl c1 ?_
      refine e_ildn cd_76_94 g3 ?_
      refine e_const cd_76_95 ci_5 ?_
      refine k_if hs (fun c2 hs => ?_) (fun c2 hs => ?_)
      · refine e_icN cd_76_96 rfl (fun q => q c2) ?_
        refine e_ild cd_76_99 g4 ?_
        refine k_if hs (fun c3 hs => ?_) (fun c3 hs => ?_)
        · refine e_izN cd_76_101 rfl (fun q => q c3) ?_
          exact tie_mo_longest_104 r_mo_longest d hr_mo_longest v4 M so _ g4 hs
        · refine e_izJ cd_76_101 rfl c3 ?_
          refine e_aldn cd_76_107 g0 ?_
          refine e_ildn cd_76_108 g1 ?_
          refine e_aldn cd_76_109 g0 ?_
          refine e_ildn cd_76_110 g2 ?_
          refine e_const cd_76_111 ci_1 ?_
          obtain ⟨q4, h5, hs⟩ := k_bind hs
          refine e_cvi cd_76_112 kd_76_240 rfl rfl rfl rfl rfl nl_36 rfl rfl (tie_mo_at d t0 v2 1 M _ h5) ?_
          obtain ⟨q6, h7, hs⟩ := k_bind hs
          refine e_cvi cd_76_115 kd_76_275 rfl rfl rfl rfl rfl nl_38 rfl rfl (tie_mo_to d t0 v1 q4.1 q4.2 _ h7) ?_
          refine e_iK cd_76_118 nl_76 rfl rfl ?_
          intro _ gn kp
          have u8 := kp 4 _ g4 rfl rfl
          have u9 := gn
          refine e_ild cd_76_120 u9 ?_
          refine e_const cd_76_122 ci_m1 ?_
          refine k_if hs (fun c10 hs => ?_) (fun c10 hs => ?_)
          · refine e_icN cd_76_123 rfl (fun q => q c10) ?_
            refine e_const cd_76_126 ci_m1 ?_
            refine e_goto cd_76_127 rfl ?_
            exact tie_mo_longest_135 r_mo_longest d hr_mo_longest (-1) q6.2 so _  hs
          · refine e_icJ cd_76_123 rfl c10 ?_
            refine e_ild cd_76_130 u8 ?_
            refine e_ild cd_76_132 u9 ?_
            refine e_pure cd_76_134 rfl ?_
            exact tie_mo_longest_135 r_mo_longest d hr_mo_longest (v4 * q6.1) q6.2 so _  hs
      · refine e_icJ cd_76_96 rfl c2 ?_
        exact tie_mo_longest_104 r_mo_longest d hr_mo_longest v4 M so _ g4 hs
    · refine e_icN cd_76_40 rfl c1 ?_
      refine e_aldn cd_76_43 g0 ?_
      refine e_ildn cd_76_44 g1 ?_
      refine e_ild cd_76_45 g5 ?_
      obtain ⟨q11, h12, hs⟩ := k_bind hs
      refine e_cvi cd_76_47 kd_76_367 rfl rfl rfl rfl rfl nl_76 rfl rfl (hr_mo_longest t0 v1 v5 M _ h12) ?_
      refine e_iK cd_76_50 nl_76 rfl rfl ?_
      intro _ gn kp
      have u13 := kp 0 _ g0 rfl rfl
      have u14 := kp 1 _ g1 rfl rfl
      have u15 := kp 2 _ g2 rfl rfl
      have u16 := kp 3 _ g3 rfl rfl
      have u17 := kp 4 _ g4 rfl rfl
      have u18 := kp 5 _ g5 rfl rfl
      have u19 := gn
      refine e_ild cd_76_52 u19 ?_
      refine e_const cd_76_54 ci_m1 ?_
      refine k_if hs (fun c20 hs => ?_) (fun c20 hs => ?_)
      · refine e_icN cd_76_55 rfl (fun q => q c20) ?_
        refine e_const cd_76_58 ci_m1 ?_
        have e := Option.some.inj hs
        subst e
        exact e_ri cd_76_59 nr_76
      · refine e_icJ cd_76_55 rfl c20 ?_
        refine e_ildn cd_76_60 u16 ?_
        refine e_const cd_76_61 ci_3 ?_
        refine k_if hs (fun c21 hs => ?_) (fun c21 hs => ?_)
        · refine e_icN cd_76_62 rfl (fun q => q c21) ?_
          refine e_ild cd_76_65 u17 ?_
          refine e_ild cd_76_67 u19 ?_
          refine e_max cd_76_69 kd_76_144 rfl ?_
          refine e_goto cd_76_72 rfl ?_
          exact tie_mo_longest_80 r_mo_longest (fun p0 p1 p2 p3 p4 p5 m => mo_longest_37 r_mo_longest d fuel p0 p1 p2 p3 p4 p5 m) d hr_mo_longest ih t0 v1 v2 v3 v5 (if v4 < q11.1 then q11.1 else v4) q11.2 so _ u13 u14 u15 u16 u18 hs
        · refine e_icJ cd_76_62 rfl c21 ?_
          refine e_ild cd_76_75 u17 ?_
          refine e_ild cd_76_77 u19 ?_
          refine e_pure cd_76_79 rfl ?_
          exact tie_mo_longest_80 r_mo_longest (fun p0 p1 p2 p3 p4 p5 m => mo_longest_37 r_mo_longest d fuel p0 p1 p2 p3 p4 p5 m) d hr_mo_longest ih t0 v1 v2 v3 v5 (v4 + q11.1) q11.2 so _ u13 u14 u15 u16 u18 hs
theorem tieb_mo_longest (r_mo_longest : Nat → Int32 → Int32 → zM → Option (Int32 × zM)) (d : Nat) (hr_mo_longest : ∀ a0 a1 a2 M so, r_mo_longest a0 a1 a2 M = some so → Ev zq_T d 76 0 (zl_args 0 [.inr (.inr (12, some a0)), .inl a1, .inl a2]) [] M (some (.inl so.1), so.2)) (a0 : Nat) (a1 : Int32) (a2 : Int32) (M : zM) (so : Int32 × zM) (hs : mo_longest_b r_mo_longest d a0 a1 a2 M = some so) : Ev zq_T (d + 1) 76 0 (zl_args 0 [.inr (.inr (12, some a0)), .inl a1, .inl a2]) [] M (some (.inl so.1), so.2) := by
  unfold mo_longest_b at hs
  have g0 : zl_get (zl_args 0 [.inr (.inr (12, some a0)), .inl a1, .inl a2]) 0 = some (.inr (.inr (12, (some a0)))) := rfl
  have g1 : zl_get (zl_args 0 [.inr (.inr (12, some a0)), .inl a1, .inl a2]) 1 = some (.inl a1) := rfl
  have g2 : zl_get (zl_args 0 [.inr (.inr (12, some a0)), .inl a1, .inl a2]) 2 = some (.inl a2) := rfl
  refine e_aldn cd_76_0 g0 ?_
  refine e_ildn cd_76_1 g2 ?_
  refine e_const cd_76_2 ci_0 ?_
  obtain ⟨q1, h2, hs⟩ := k_bind hs
  refine e_cvi cd_76_3 kd_76_240 rfl rfl rfl rfl rfl nl_36 rfl rfl (tie_mo_at d a0 a2 0 M _ h2) ?_
  refine e_iKn cd_76_6 nl_76 rfl rfl ?_
  intro _ gn kp
  have u3 := kp 0 _ g0 rfl rfl
  have u4 := kp 1 _ g1 rfl rfl
  have u5 := kp 2 _ g2 rfl rfl
  have u6 := gn
  refine e_ildn cd_76_7 u6 ?_
  refine k_if hs (fun c7 hs => ?_) (fun c7 hs => ?_)
  · refine e_izJ cd_76_8 rfl c7 ?_
    exact tie_mo_longest_16 r_mo_longest d hr_mo_longest q1.1 q1.2 so _ u6 hs
  · refine e_izN cd_76_8 rfl c7 ?_
    refine e_ildn cd_76_11 u6 ?_
    refine e_const cd_76_12 ci_1 ?_
    refine k_if hs (fun c8 hs => ?_) (fun c8 hs => ?_)
    · refine e_icN cd_76_13 rfl (fun q => q c8) ?_
      exact tie_mo_longest_16 r_mo_longest d hr_mo_longest q1.1 q1.2 so _ u6 hs
    · refine e_icJ cd_76_13 rfl c8 ?_
      refine e_const cd_76_26 ci_0 ?_
      refine e_iK cd_76_27 nl_76 rfl rfl ?_
      intro _ gn kp
      have u9 := kp 0 _ u3 rfl rfl
      have u10 := kp 1 _ u4 rfl rfl
      have u11 := kp 2 _ u5 rfl rfl
      have u12 := kp 3 _ u6 rfl rfl
      have u13 := gn
      refine e_aldn cd_76_29 u9 ?_
      refine e_ildn cd_76_30 u11 ?_
      refine e_const cd_76_31 ci_3 ?_
      obtain ⟨q14, h15, hs⟩ := k_bind hs
      refine e_cvi cd_76_32 kd_76_240 rfl rfl rfl rfl rfl nl_36 rfl rfl (tie_mo_at d a0 a2 3 q1.2 _ h15) ?_
      refine e_iK cd_76_35 nl_76 rfl rfl ?_
      intro _ gn kp
      have u16 := kp 0 _ u9 rfl rfl
      have u17 := kp 1 _ u10 rfl rfl
      have u18 := kp 2 _ u11 rfl rfl
      have u19 := kp 3 _ u12 rfl rfl
      have u20 := kp 4 _ u13 rfl rfl
      have u21 := gn
      exact tie_mo_longest_37 r_mo_longest d hr_mo_longest zLF a0 a1 a2 q1.1 0 q14.1 q14.2 so _ u16 u17 u18 u19 u20 u21 hs
theorem tie_mo_longest (d : Nat) : ∀ (a0 : Nat) (a1 : Int32) (a2 : Int32) (M : zM) (so : Int32 × zM), mo_longest d a0 a1 a2 M = some so → Ev zq_T d 76 0 (zl_args 0 [.inr (.inr (12, some a0)), .inl a1, .inl a2]) [] M (some (.inl so.1), so.2) := by
  induction d with
  | zero => intro a0 a1 a2 M so hs; exact nomatch hs
  | succ d ih => intro a0 a1 a2 M so hs; exact tieb_mo_longest _ d ih a0 a1 a2 M so hs
theorem tie_mo_lettersIn_4  (d : Nat)  : ∀ (fuel : Nat) (t0 : Nat) (v1 : Int32) (v2 : Int32) (v3 : Int32) (M : zM) (so : Int32 × zM) (ls : List (Nat × zV)), zl_get ls 0 = some (.inr (.inr (12, (some t0)))) → zl_get ls 1 = some (.inl v1) → zl_get ls 2 = some (.inl v2) → zl_get ls 3 = some (.inl v3) → mo_lettersIn_4  d fuel t0 v1 v2 v3 M = some so → Ev zq_T (d + 1) 77 4 ls [] M (some (.inl so.1), so.2) := by
  intro fuel
  induction fuel with
  | zero => intro t0 v1 v2 v3 M so ls g0 g1 g2 g3 hs; exact nomatch hs
  | succ fuel ih =>
    intro t0 v1 v2 v3 M so ls g0 g1 g2 g3 hs
    unfold mo_lettersIn_4 at hs
    refine e_ildn cd_77_4 g3 ?_
    refine e_aldn cd_77_5 g0 ?_
    refine e_ildn cd_77_6 g1 ?_
    refine e_const cd_77_7 ci_2 ?_
    obtain ⟨q1, h2, hs⟩ := k_bind hs
    refine e_cvi cd_77_8 kd_77_258 rfl rfl rfl rfl rfl nl_35 rfl rfl (tie_mo_of d t0 v1 2 M _ h2) ?_
    refine k_if hs (fun c3 hs => ?_) (fun c3 hs => ?_)
    · refine e_icJ cd_77_11 rfl c3 ?_
      refine e_ildn cd_77_31 g2 ?_
      have e := Option.some.inj hs
      subst e
      exact e_ri cd_77_32 nr_77
    · refine e_icN cd_77_11 rfl c3 ?_
      refine e_ildn cd_77_14 g2 ?_
      refine e_const cd_77_15 ci_1 ?_
      refine e_aldn cd_77_16 g0 ?_
      refine e_ildn cd_77_17 g1 ?_
      refine e_ildn cd_77_18 g3 ?_
      obtain ⟨q4, h5, hs⟩ := k_bind hs
      refine e_cvi cd_77_19 kd_77_289 rfl rfl rfl rfl rfl nl_39 rfl rfl (tie_mo_letterOf d t0 v1 v3 q1.2 _ h5) ?_
      refine e_pure cd_77_22 rfl ?_
      refine e_pure cd_77_23 rfl ?_
      refine k_let hs (fun x6 e7 hs => ?_)
      refine e_iKn cd_77_24 nl_77 rfl e7 ?_
      intro _ gn kp
      have u8 := kp 0 _ g0 rfl rfl
      have u9 := kp 1 _ g1 rfl rfl
      have u10 := kp 3 _ g3 rfl rfl
      have u11 := gn
      refine k_let hs (fun x12 e13 hs => ?_)
      refine e_incK cd_77_25 nl_77 rfl u10 ci_1 e13 ?_
      intro _ gn kp
      have u14 := kp 0 _ u8 rfl rfl
      have u15 := kp 1 _ u9 rfl rfl
      have u16 := kp 2 _ u11 rfl rfl
      have u17 := gn
      refine e_goto cd_77_28 rfl ?_
      exact ih t0 v1 x6 x12 q4.2 so _ u14 u15 u16 u17 hs
theorem tieb_mo_lettersIn  (d : Nat)  (a0 : Nat) (a1 : Int32) (M : zM) (so : Int32 × zM) (hs : mo_lettersIn_b  d a0 a1 M = some so) : Ev zq_T (d + 1) 77 0 (zl_args 0 [.inr (.inr (12, some a0)), .inl a1]) [] M (some (.inl so.1), so.2) := by
  unfold mo_lettersIn_b at hs
  have g0 : zl_get (zl_args 0 [.inr (.inr (12, some a0)), .inl a1]) 0 = some (.inr (.inr (12, (some a0)))) := rfl
  have g1 : zl_get (zl_args 0 [.inr (.inr (12, some a0)), .inl a1]) 1 = some (.inl a1) := rfl
  refine e_const cd_77_0 ci_0 ?_
  refine e_iKn cd_77_1 nl_77 rfl rfl ?_
  intro _ gn kp
  have u1 := kp 0 _ g0 rfl rfl
  have u2 := kp 1 _ g1 rfl rfl
  have u3 := gn
  refine e_const cd_77_2 ci_0 ?_
  refine e_iKn cd_77_3 nl_77 rfl rfl ?_
  intro _ gn kp
  have u4 := kp 0 _ u1 rfl rfl
  have u5 := kp 1 _ u2 rfl rfl
  have u6 := kp 2 _ u3 rfl rfl
  have u7 := gn
  exact tie_mo_lettersIn_4  d  zLF a0 a1 0 0 M so _ u4 u5 u6 u7 hs
theorem tie_mo_lettersIn (d : Nat) (a0 : Nat) (a1 : Int32) (M : zM) (so : Int32 × zM) (hs : mo_lettersIn d a0 a1 M = some so) : Ev zq_T d 77 0 (zl_args 0 [.inr (.inr (12, some a0)), .inl a1]) [] M (some (.inl so.1), so.2) := by
  cases d with
  | zero => exact nomatch hs
  | succ d => exact tieb_mo_lettersIn d a0 a1 M so hs
theorem tie_mo_rule_139  (d : Nat)  (s0 : Int32) (M : zM) (so : Int32 × zM) (ls : List (Nat × zV))  (hs : mo_rule_139  d s0 M = some so) : Ev zq_T (d + 1) 78 139 ls [.inl s0] M (some (.inl so.1), so.2) := by
  unfold mo_rule_139 at hs
  have e := Option.some.inj hs
  subst e
  exact e_ri cd_78_139 nr_78
theorem tie_mo_rule_154  (d : Nat)  (s0 : Int32) (M : zM) (so : Int32 × zM) (ls : List (Nat × zV))  (hs : mo_rule_154  d s0 M = some so) : Ev zq_T (d + 1) 78 154 ls [.inl s0] M (some (.inl so.1), so.2) := by
  unfold mo_rule_154 at hs
  have e := Option.some.inj hs
  subst e
  exact e_ri cd_78_154 nr_78
theorem tie_mo_rule_168  (d : Nat)  (s0 : Int32) (M : zM) (so : Int32 × zM) (ls : List (Nat × zV))  (hs : mo_rule_168  d s0 M = some so) : Ev zq_T (d + 1) 78 168 ls [.inl s0] M (some (.inl so.1), so.2) := by
  unfold mo_rule_168 at hs
  have e := Option.some.inj hs
  subst e
  exact e_ri cd_78_168 nr_78
set_option maxRecDepth 100000 in
theorem tie_mo_rule_26  (d : Nat)  (t0 : Nat) (v1 : Int32) (v2 : Int32) (s0 : Option Nat) (s1 : Int32) (M : zM) (so : Int32 × zM) (ls : List (Nat × zV)) (g0 : zl_get ls 0 = some (.inr (.inr (12, (some t0))))) (g1 : zl_get ls 1 = some (.inl v1)) (g2 : zl_get ls 2 = some (.inl v2)) (hs : mo_rule_26  d t0 v1 v2 s0 s1 M = some so) : Ev zq_T (d + 1) 78 26 ls [.inl s1, .inr (.inr (12, s0))] M (some (.inl so.1), so.2) := by
  unfold mo_rule_26 at hs
  refine k_opt hs (fun _ q => nomatch q) (fun k1 h2 hs => ?_)
  refine k_let hs (fun M3 e4 hs => ?_)
  refine e_putI cd_78_26 pd_78_114 h2 e4 ?_
  refine e_aldn cd_78_29 g0 ?_
  refine e_getI cd_78_30 (Or.inl fd_78_114) rfl ?_
  refine k_if hs (fun c5 hs => ?_) (fun c5 hs => ?_)
  · refine e_izJ cd_78_33 rfl c5 ?_
    refine e_ildn cd_78_38 g2 ?_
    refine k_if hs (fun c6 hs => ?_) (fun c6 hs => ?_)
    · refine e_tab cd_78_39 (by decide) (fun f => (e_tb1 c6 rfl f)) ?_
      refine e_aldn cd_78_92 g0 ?_
      refine e_ildn cd_78_93 g1 ?_
      refine e_const cd_78_94 ci_0 ?_
      obtain ⟨q16, h17, hs⟩ := k_bind hs
      refine e_cvi cd_78_95 kd_78_258 rfl rfl rfl rfl rfl nl_35 rfl rfl (tie_mo_of d t0 v1 0 M3 _ h17) ?_
      have e := Option.some.inj hs
      subst e
      exact e_ri cd_78_98 nr_78
    · refine k_if hs (fun c7 hs => ?_) (fun c7 hs => ?_)
      · refine e_tab cd_78_39 (by decide) (fun f => (e_tb0 c6 f (e_tb1 c7 rfl f))) ?_
        refine e_aldn cd_78_99 g0 ?_
        refine e_ildn cd_78_100 g1 ?_
        refine e_const cd_78_101 ci_2 ?_
        obtain ⟨q18, h19, hs⟩ := k_bind hs
        refine e_cvi cd_78_102 kd_78_258 rfl rfl rfl rfl rfl nl_35 rfl rfl (tie_mo_of d t0 v1 2 M3 _ h19) ?_
        have e := Option.some.inj hs
        subst e
        exact e_ri cd_78_105 nr_78
      · refine k_if hs (fun c8 hs => ?_) (fun c8 hs => ?_)
        · refine e_tab cd_78_39 (by decide) (fun f => (e_tb0 c6 f (e_tb0 c7 f (e_tb1 c8 rfl f)))) ?_
          refine e_aldn cd_78_106 g0 ?_
          refine e_ildn cd_78_107 g1 ?_
          refine e_const cd_78_108 ci_3 ?_
          obtain ⟨q20, h21, hs⟩ := k_bind hs
          refine e_cvi cd_78_109 kd_78_258 rfl rfl rfl rfl rfl nl_35 rfl rfl (tie_mo_of d t0 v1 3 M3 _ h21) ?_
          have e := Option.some.inj hs
          subst e
          exact e_ri cd_78_112 nr_78
        · refine k_if hs (fun c9 hs => ?_) (fun c9 hs => ?_)
          · refine e_tab cd_78_39 (by decide) (fun f => (e_tb0 c6 f (e_tb0 c7 f (e_tb0 c8 f (e_tb1 c9 rfl f))))) ?_
            refine e_aldn cd_78_113 g0 ?_
            refine e_ildn cd_78_114 g1 ?_
            refine e_const cd_78_115 ci_4 ?_
            obtain ⟨q22, h23, hs⟩ := k_bind hs
            refine e_cvi cd_78_116 kd_78_258 rfl rfl rfl rfl rfl nl_35 rfl rfl (tie_mo_of d t0 v1 4 M3 _ h23) ?_
            have e := Option.some.inj hs
            subst e
            exact e_ri cd_78_119 nr_78
          · refine k_if hs (fun c10 hs => ?_) (fun c10 hs => ?_)
            · refine e_tab cd_78_39 (by decide) (fun f => (e_tb0 c6 f (e_tb0 c7 f (e_tb0 c8 f (e_tb0 c9 f (e_tb1 c10 rfl f)))))) ?_
              refine e_aldn cd_78_120 g0 ?_
              refine e_ildn cd_78_121 g1 ?_
              refine e_aldn cd_78_122 g0 ?_
              refine e_ildn cd_78_123 g1 ?_
              refine e_const cd_78_124 ci_1 ?_
              obtain ⟨q24, h25, hs⟩ := k_bind hs
              refine e_cvi cd_78_125 kd_78_258 rfl rfl rfl rfl rfl nl_35 rfl rfl (tie_mo_of d t0 v1 1 M3 _ h25) ?_
              obtain ⟨q26, h27, hs⟩ := k_bind hs
              refine e_cvi cd_78_128 kd_78_245 rfl rfl rfl rfl rfl nl_41 rfl rfl (tie_mo_isNull d t0 v1 q24.1 q24.2 _ h27) ?_
              refine k_if hs (fun c28 hs => ?_) (fun c28 hs => ?_)
              · refine e_izJ cd_78_131 rfl c28 ?_
                refine e_const cd_78_138 ci_0 ?_
                exact tie_mo_rule_139  d  0 q26.2 so _  hs
              · refine e_izN cd_78_131 rfl c28 ?_
                refine e_const cd_78_134 ci_1 ?_
                refine e_goto cd_78_135 rfl ?_
                exact tie_mo_rule_139  d  1 q26.2 so _  hs
            · refine k_if hs (fun c11 hs => ?_) (fun c11 hs => ?_)
              · refine e_tab cd_78_39 (by decide) (fun f => (e_tb0 c6 f (e_tb0 c7 f (e_tb0 c8 f (e_tb0 c9 f (e_tb0 c10 f (e_tb1 c11 rfl f))))))) ?_
                refine e_aldn cd_78_140 g0 ?_
                refine e_ildn cd_78_141 g1 ?_
                refine e_const cd_78_142 ci_1 ?_
                obtain ⟨q29, h30, hs⟩ := k_bind hs
                refine e_cvi cd_78_143 kd_78_347 rfl rfl rfl rfl rfl nl_69 rfl rfl (tie_mo_conflicts d t0 v1 1 M3 _ h30) ?_
                refine k_if hs (fun c31 hs => ?_) (fun c31 hs => ?_)
                · refine e_izN cd_78_146 rfl (fun q => q c31) ?_
                  refine e_const cd_78_149 ci_1 ?_
                  refine e_goto cd_78_150 rfl ?_
                  exact tie_mo_rule_154  d  1 q29.2 so _  hs
                · refine e_izJ cd_78_146 rfl c31 ?_
                  refine e_const cd_78_153 ci_0 ?_
                  exact tie_mo_rule_154  d  0 q29.2 so _  hs
              · refine k_if hs (fun c12 hs => ?_) (fun c12 hs => ?_)
                · refine e_tab cd_78_39 (by decide) (fun f => (e_tb0 c6 f (e_tb0 c7 f (e_tb0 c8 f (e_tb0 c9 f (e_tb0 c10 f (e_tb0 c11 f (e_tb1 c12 rfl f)))))))) ?_
                  refine e_aldn cd_78_155 g0 ?_
                  refine e_ildn cd_78_156 g1 ?_
                  obtain ⟨q32, h33, hs⟩ := k_bind hs
                  refine e_cvi cd_78_157 kd_78_372 rfl rfl rfl rfl rfl nl_70 rfl rfl (tie_mo_isSure d t0 v1 M3 _ h33) ?_
                  refine k_if hs (fun c34 hs => ?_) (fun c34 hs => ?_)
                  · refine e_izJ cd_78_160 rfl c34 ?_
                    refine e_const cd_78_167 ci_0 ?_
                    exact tie_mo_rule_168  d  0 q32.2 so _  hs
                  · refine e_izN cd_78_160 rfl c34 ?_
                    refine e_const cd_78_163 ci_1 ?_
                    refine e_goto cd_78_164 rfl ?_
                    exact tie_mo_rule_168  d  1 q32.2 so _  hs
                · refine k_if hs (fun c13 hs => ?_) (fun c13 hs => ?_)
                  · refine e_tab cd_78_39 (by decide) (fun f => (e_tb0 c6 f (e_tb0 c7 f (e_tb0 c8 f (e_tb0 c9 f (e_tb0 c10 f (e_tb0 c11 f (e_tb0 c12 f (e_tb1 c13 rfl f))))))))) ?_
                    refine e_aldn cd_78_169 g0 ?_
                    refine e_ildn cd_78_170 g1 ?_
                    refine e_const cd_78_171 ci_0 ?_
                    obtain ⟨q35, h36, hs⟩ := k_bind hs
                    refine e_cvi cd_78_172 kd_78_347 rfl rfl rfl rfl rfl nl_69 rfl rfl (tie_mo_conflicts d t0 v1 0 M3 _ h36) ?_
                    have e := Option.some.inj hs
                    subst e
                    exact e_ri cd_78_175 nr_78
                  · refine k_if hs (fun c14 hs => ?_) (fun c14 hs => ?_)
                    · refine e_tab cd_78_39 (by decide) (fun f => (e_tb0 c6 f (e_tb0 c7 f (e_tb0 c8 f (e_tb0 c9 f (e_tb0 c10 f (e_tb0 c11 f (e_tb0 c12 f (e_tb0 c13 f (e_tb1 c14 rfl f)))))))))) ?_
                      refine e_aldn cd_78_176 g0 ?_
                      refine e_ildn cd_78_177 g1 ?_
                      obtain ⟨q37, h38, hs⟩ := k_bind hs
                      refine e_cvi cd_78_178 kd_78_375 rfl rfl rfl rfl rfl nl_66 rfl rfl (tie_mo_wordOf d t0 v1 M3 _ h38) ?_
                      have e := Option.some.inj hs
                      subst e
                      exact e_ri cd_78_181 nr_78
                    · refine k_if hs (fun c15 hs => ?_) (fun c15 hs => ?_)
                      · refine e_tab cd_78_39 (by decide) (fun f => (e_tb0 c6 f (e_tb0 c7 f (e_tb0 c8 f (e_tb0 c9 f (e_tb0 c10 f (e_tb0 c11 f (e_tb0 c12 f (e_tb0 c13 f (e_tb0 c14 f (e_tb1 c15 rfl f))))))))))) ?_
                        refine e_aldn cd_78_182 g0 ?_
                        refine e_ildn cd_78_183 g1 ?_
                        refine e_aldn cd_78_184 g0 ?_
                        refine e_ildn cd_78_185 g1 ?_
                        refine e_const cd_78_186 ci_1 ?_
                        obtain ⟨q39, h40, hs⟩ := k_bind hs
                        refine e_cvi cd_78_187 kd_78_258 rfl rfl rfl rfl rfl nl_35 rfl rfl (tie_mo_of d t0 v1 1 M3 _ h40) ?_
                        obtain ⟨q41, h42, hs⟩ := k_bind hs
                        refine e_cvi cd_78_190 kd_78_367 rfl rfl rfl rfl rfl nl_76 rfl rfl (tie_mo_longest d t0 v1 q39.1 q39.2 _ h42) ?_
                        have e := Option.some.inj hs
                        subst e
                        exact e_ri cd_78_193 nr_78
                      · refine e_tab cd_78_39 (by decide) (fun f => (e_tb0 c6 f (e_tb0 c7 f (e_tb0 c8 f (e_tb0 c9 f (e_tb0 c10 f (e_tb0 c11 f (e_tb0 c12 f (e_tb0 c13 f (e_tb0 c14 f (e_tb0 c15 f (e_tbd rfl f)))))))))))) ?_
                        refine e_aldn cd_78_194 g0 ?_
                        refine e_ildn cd_78_195 g1 ?_
                        obtain ⟨q43, h44, hs⟩ := k_bind hs
                        refine e_cvi cd_78_196 kd_78_378 rfl rfl rfl rfl rfl nl_77 rfl rfl (tie_mo_lettersIn d t0 v1 M3 _ h44) ?_
                        have e := Option.some.inj hs
                        subst e
                        exact e_ri cd_78_199 nr_78
  · refine e_izN cd_78_33 rfl c5 ?_
    refine e_const cd_78_36 ci_0 ?_
    have e := Option.some.inj hs
    subst e
    exact e_ri cd_78_37 nr_78
theorem tie_mo_rule_25  (d : Nat)  (t0 : Nat) (v1 : Int32) (v2 : Int32) (s0 : Option Nat) (M : zM) (so : Int32 × zM) (ls : List (Nat × zV)) (g0 : zl_get ls 0 = some (.inr (.inr (12, (some t0))))) (g1 : zl_get ls 1 = some (.inl v1)) (g2 : zl_get ls 2 = some (.inl v2)) (hs : mo_rule_25  d t0 v1 v2 s0 M = some so) : Ev zq_T (d + 1) 78 25 ls [.inr (.inr (12, s0))] M (some (.inl so.1), so.2) := by
  unfold mo_rule_25 at hs
  refine e_const cd_78_25 ci_1 ?_
  exact tie_mo_rule_26  d  t0 v1 v2 s0 1 M so _ g0 g1 g2 hs
theorem tieb_mo_rule  (d : Nat)  (a0 : Nat) (a1 : Int32) (a2 : Int32) (M : zM) (so : Int32 × zM) (hs : mo_rule_b  d a0 a1 a2 M = some so) : Ev zq_T (d + 1) 78 0 (zl_args 0 [.inr (.inr (12, some a0)), .inl a1, .inl a2]) [] M (some (.inl so.1), so.2) := by
  unfold mo_rule_b at hs
  have g0 : zl_get (zl_args 0 [.inr (.inr (12, some a0)), .inl a1, .inl a2]) 0 = some (.inr (.inr (12, (some a0)))) := rfl
  have g1 : zl_get (zl_args 0 [.inr (.inr (12, some a0)), .inl a1, .inl a2]) 1 = some (.inl a1) := rfl
  have g2 : zl_get (zl_args 0 [.inr (.inr (12, some a0)), .inl a1, .inl a2]) 2 = some (.inl a2) := rfl
  refine e_aldn cd_78_0 g0 ?_
  refine e_aldn cd_78_1 g0 ?_
  refine e_ildn cd_78_2 g1 ?_
  obtain ⟨q1, h2, hs⟩ := k_bind hs
  refine e_cvi cd_78_3 kd_78_357 rfl rfl rfl rfl rfl nl_34 rfl rfl (tie_mo_isRule d a0 a1 M _ h2) ?_
  refine k_if hs (fun c3 hs => ?_) (fun c3 hs => ?_)
  · refine e_izJ cd_78_6 rfl c3 ?_
    exact tie_mo_rule_25  d  a0 a1 a2 (some a0) q1.2 so _ g0 g1 g2 hs
  · refine e_izN cd_78_6 rfl c3 ?_
    refine e_ildn cd_78_9 g2 ?_
    refine e_pure cd_78_10 rfl ?_
    refine e_lcon cd_78_11 cl_0 ?_
    refine e_ld2 cd_78_12 od_78_370 ?_
    obtain ⟨q4, h5, hs⟩ := k_bind hs
    refine e_cst cd_78_15 kd_78_204 rfl rfl rfl nl_2 rfl rfl (tie_mo_isIn d a2.toInt64 0 10 q1.2 _ h5) ?_
    refine k_if hs (fun c6 hs => ?_) (fun c6 hs => ?_)
    · refine e_izJ cd_78_18 rfl c6 ?_
      exact tie_mo_rule_25  d  a0 a1 a2 (some a0) q4.2 so _ g0 g1 g2 hs
    · refine e_izN cd_78_18 rfl c6 ?_
      refine e_const cd_78_21 ci_0 ?_
      refine e_goto cd_78_22 rfl ?_
      exact tie_mo_rule_26  d  a0 a1 a2 (some a0) 0 q4.2 so _ g0 g1 g2 hs
theorem tie_mo_rule (d : Nat) (a0 : Nat) (a1 : Int32) (a2 : Int32) (M : zM) (so : Int32 × zM) (hs : mo_rule d a0 a1 a2 M = some so) : Ev zq_T d 78 0 (zl_args 0 [.inr (.inr (12, some a0)), .inl a1, .inl a2]) [] M (some (.inl so.1), so.2) := by
  cases d with
  | zero => exact nomatch hs
  | succ d => exact tieb_mo_rule d a0 a1 a2 M so hs
theorem tie_mo_inside_40 (kl5 : Nat → Int32 → Int32 → Int32 → Int32 → zM → Option (Int32 × zM)) (d : Nat) (hk5 : ∀ (t0 : Nat) (v1 : Int32) (v2 : Int32) (v3 : Int32) (v4 : Int32) (M : zM) (so : Int32 × zM) (ls : List (Nat × zV)), zl_get ls 0 = some (.inr (.inr (12, (some t0)))) → zl_get ls 1 = some (.inl v1) → zl_get ls 2 = some (.inl v2) → zl_get ls 3 = some (.inl v3) → zl_get ls 4 = some (.inl v4) → kl5 t0 v1 v2 v3 v4 M = some so → Ev zq_T (d + 1) 79 5 ls [] M (some (.inl so.1), so.2)) (t0 : Nat) (v1 : Int32) (v2 : Int32) (v4 : Int32) (s0 : Int32) (s1 : Int32) (M : zM) (so : Int32 × zM) (ls : List (Nat × zV)) (g0 : zl_get ls 0 = some (.inr (.inr (12, (some t0))))) (g1 : zl_get ls 1 = some (.inl v1)) (g2 : zl_get ls 2 = some (.inl v2)) (g4 : zl_get ls 4 = some (.inl v4)) (hs : mo_inside_40 kl5 d t0 v1 v2 v4 s0 s1 M = some so) : Ev zq_T (d + 1) 79 40 ls [.inl s1, .inl s0] M (some (.inl so.1), so.2) := by
  unfold mo_inside_40 at hs
  refine e_pure cd_79_40 rfl ?_
  refine k_let hs (fun x1 e2 hs => ?_)
  refine e_iKn cd_79_41 nl_79 rfl e2 ?_
  intro _ gn kp
  have u3 := kp 0 _ g0 rfl rfl
  have u4 := kp 1 _ g1 rfl rfl
  have u5 := kp 2 _ g2 rfl rfl
  have u6 := kp 4 _ g4 rfl rfl
  have u7 := gn
  refine k_let hs (fun x8 e9 hs => ?_)
  refine e_incK cd_79_42 nl_79 rfl u6 ci_1 e9 ?_
  intro _ gn kp
  have u10 := kp 0 _ u3 rfl rfl
  have u11 := kp 1 _ u4 rfl rfl
  have u12 := kp 2 _ u5 rfl rfl
  have u13 := kp 3 _ u7 rfl rfl
  have u14 := gn
  refine e_goto cd_79_45 rfl ?_
  exact hk5 t0 v1 v2 x1 x8 M so _ u10 u11 u12 u13 u14 hs
theorem tie_mo_inside_5  (d : Nat)  : ∀ (fuel : Nat) (t0 : Nat) (v1 : Int32) (v2 : Int32) (v3 : Int32) (v4 : Int32) (M : zM) (so : Int32 × zM) (ls : List (Nat × zV)), zl_get ls 0 = some (.inr (.inr (12, (some t0)))) → zl_get ls 1 = some (.inl v1) → zl_get ls 2 = some (.inl v2) → zl_get ls 3 = some (.inl v3) → zl_get ls 4 = some (.inl v4) → mo_inside_5  d fuel t0 v1 v2 v3 v4 M = some so → Ev zq_T (d + 1) 79 5 ls [] M (some (.inl so.1), so.2) := by
  intro fuel
  induction fuel with
  | zero => intro t0 v1 v2 v3 v4 M so ls g0 g1 g2 g3 g4 hs; exact nomatch hs
  | succ fuel ih =>
    intro t0 v1 v2 v3 v4 M so ls g0 g1 g2 g3 g4 hs
    unfold mo_inside_5 at hs
    refine e_ild cd_79_5 g4 ?_
    refine e_aldn cd_79_7 g0 ?_
    refine e_ildn cd_79_8 g1 ?_
    refine e_const cd_79_9 ci_2 ?_
    obtain ⟨q1, h2, hs⟩ := k_bind hs
    refine e_cvi cd_79_10 kd_79_258 rfl rfl rfl rfl rfl nl_35 rfl rfl (tie_mo_of d t0 v1 2 M _ h2) ?_
    refine k_if hs (fun c3 hs => ?_) (fun c3 hs => ?_)
    · refine e_icJ cd_79_13 rfl c3 ?_
      refine e_ildn cd_79_48 g3 ?_
      have e := Option.some.inj hs
      subst e
      exact e_ri cd_79_49 nr_79
    · refine e_icN cd_79_13 rfl c3 ?_
      refine e_ildn cd_79_16 g3 ?_
      refine e_aldn cd_79_17 g0 ?_
      refine e_aldn cd_79_18 g0 ?_
      refine e_ildn cd_79_19 g1 ?_
      refine e_ild cd_79_20 g4 ?_
      obtain ⟨q4, h5, hs⟩ := k_bind hs
      refine e_cvi cd_79_22 kd_79_249 rfl rfl rfl rfl rfl nl_40 rfl rfl (tie_mo_leaf d t0 v1 v4 q1.2 _ h5) ?_
      refine e_ildn cd_79_25 g2 ?_
      obtain ⟨q6, h7, hs⟩ := k_bind hs
      refine e_cvi cd_79_26 kd_79_252 rfl rfl rfl rfl rfl nl_42 rfl rfl (tie_mo_isWithin d t0 q4.1 v2 q4.2 _ h7) ?_
      refine k_if hs (fun c8 hs => ?_) (fun c8 hs => ?_)
      · refine e_izJ cd_79_29 rfl c8 ?_
        refine e_const cd_79_39 ci_0 ?_
        exact tie_mo_inside_40 (fun p0 p1 p2 p3 p4 m => mo_inside_5  d fuel p0 p1 p2 p3 p4 m) d ih t0 v1 v2 v4 v3 0 q6.2 so _ g0 g1 g2 g4 hs
      · refine e_izN cd_79_29 rfl c8 ?_
        refine e_const cd_79_32 ci_1 ?_
        refine e_ild cd_79_33 g4 ?_
        refine e_pure cd_79_35 rfl ?_
        refine e_goto cd_79_36 rfl ?_
        exact tie_mo_inside_40 (fun p0 p1 p2 p3 p4 m => mo_inside_5  d fuel p0 p1 p2 p3 p4 m) d ih t0 v1 v2 v4 v3 (1 <<< (v4 &&& 31)) q6.2 so _ g0 g1 g2 g4 hs
theorem tieb_mo_inside  (d : Nat)  (a0 : Nat) (a1 : Int32) (a2 : Int32) (M : zM) (so : Int32 × zM) (hs : mo_inside_b  d a0 a1 a2 M = some so) : Ev zq_T (d + 1) 79 0 (zl_args 0 [.inr (.inr (12, some a0)), .inl a1, .inl a2]) [] M (some (.inl so.1), so.2) := by
  unfold mo_inside_b at hs
  have g0 : zl_get (zl_args 0 [.inr (.inr (12, some a0)), .inl a1, .inl a2]) 0 = some (.inr (.inr (12, (some a0)))) := rfl
  have g1 : zl_get (zl_args 0 [.inr (.inr (12, some a0)), .inl a1, .inl a2]) 1 = some (.inl a1) := rfl
  have g2 : zl_get (zl_args 0 [.inr (.inr (12, some a0)), .inl a1, .inl a2]) 2 = some (.inl a2) := rfl
  refine e_const cd_79_0 ci_0 ?_
  refine e_iKn cd_79_1 nl_79 rfl rfl ?_
  intro _ gn kp
  have u1 := kp 0 _ g0 rfl rfl
  have u2 := kp 1 _ g1 rfl rfl
  have u3 := kp 2 _ g2 rfl rfl
  have u4 := gn
  refine e_const cd_79_2 ci_0 ?_
  refine e_iK cd_79_3 nl_79 rfl rfl ?_
  intro _ gn kp
  have u5 := kp 0 _ u1 rfl rfl
  have u6 := kp 1 _ u2 rfl rfl
  have u7 := kp 2 _ u3 rfl rfl
  have u8 := kp 3 _ u4 rfl rfl
  have u9 := gn
  exact tie_mo_inside_5  d  zLF a0 a1 a2 0 0 M so _ u5 u6 u7 u8 u9 hs
theorem tie_mo_inside (d : Nat) (a0 : Nat) (a1 : Int32) (a2 : Int32) (M : zM) (so : Int32 × zM) (hs : mo_inside d a0 a1 a2 M = some so) : Ev zq_T d 79 0 (zl_args 0 [.inr (.inr (12, some a0)), .inl a1, .inl a2]) [] M (some (.inl so.1), so.2) := by
  cases d with
  | zero => exact nomatch hs
  | succ d => exact tieb_mo_inside d a0 a1 a2 M so hs
theorem tie_mo_countAbout_7  (d : Nat)  : ∀ (fuel : Nat) (t0 : Nat) (v2 : Int32) (M : zM) (so : Int32 × zM) (ls : List (Nat × zV)), zl_get ls 0 = some (.inr (.inr (12, (some t0)))) → zl_get ls 2 = some (.inl v2) → mo_countAbout_7  d fuel t0 v2 M = some so → Ev zq_T (d + 1) 80 7 ls [] M (some (.inl so.1), so.2) := by
  intro fuel
  induction fuel with
  | zero => intro t0 v2 M so ls g0 g2 hs; exact nomatch hs
  | succ fuel ih =>
    intro t0 v2 M so ls g0 g2 hs
    unfold mo_countAbout_7 at hs
    refine e_ildn cd_80_7 g2 ?_
    refine e_const cd_80_8 ci_m1 ?_
    refine k_if hs (fun c1 hs => ?_) (fun c1 hs => ?_)
    · refine e_icJ cd_80_9 rfl c1 ?_
      refine e_const cd_80_39 ci_m1 ?_
      have e := Option.some.inj hs
      subst e
      exact e_ri cd_80_40 nr_80
    · refine e_icN cd_80_9 rfl c1 ?_
      refine e_aldn cd_80_12 g0 ?_
      refine e_ildn cd_80_13 g2 ?_
      refine e_const cd_80_14 ci_0 ?_
      obtain ⟨q2, h3, hs⟩ := k_bind hs
      refine e_cvi cd_80_15 kd_80_240 rfl rfl rfl rfl rfl nl_36 rfl rfl (tie_mo_at d t0 v2 0 M _ h3) ?_
      refine e_const cd_80_18 ci_5 ?_
      refine k_if hs (fun c4 hs => ?_) (fun c4 hs => ?_)
      · refine e_icN cd_80_19 rfl (fun q => q c4) ?_
        refine e_aldn cd_80_22 g0 ?_
        refine e_ildn cd_80_23 g2 ?_
        refine e_const cd_80_24 ci_1 ?_
        obtain ⟨q5, h6, hs⟩ := k_bind hs
        refine e_cvi cd_80_25 kd_80_240 rfl rfl rfl rfl rfl nl_36 rfl rfl (tie_mo_at d t0 v2 1 q2.2 _ h6) ?_
        have e := Option.some.inj hs
        subst e
        exact e_ri cd_80_28 nr_80
      · refine e_icJ cd_80_19 rfl c4 ?_
        refine e_aldn cd_80_29 g0 ?_
        refine e_ildn cd_80_30 g2 ?_
        refine e_const cd_80_31 ci_2 ?_
        obtain ⟨q7, h8, hs⟩ := k_bind hs
        refine e_cvi cd_80_32 kd_80_240 rfl rfl rfl rfl rfl nl_36 rfl rfl (tie_mo_at d t0 v2 2 q2.2 _ h8) ?_
        refine e_iKn cd_80_35 nl_80 rfl rfl ?_
        intro _ gn kp
        have u9 := kp 0 _ g0 rfl rfl
        have u10 := gn
        refine e_goto cd_80_36 rfl ?_
        exact ih t0 q7.1 q7.2 so _ u9 u10 hs
theorem tieb_mo_countAbout  (d : Nat)  (a0 : Nat) (a1 : Int32) (M : zM) (so : Int32 × zM) (hs : mo_countAbout_b  d a0 a1 M = some so) : Ev zq_T (d + 1) 80 0 (zl_args 0 [.inr (.inr (12, some a0)), .inl a1]) [] M (some (.inl so.1), so.2) := by
  unfold mo_countAbout_b at hs
  have g0 : zl_get (zl_args 0 [.inr (.inr (12, some a0)), .inl a1]) 0 = some (.inr (.inr (12, (some a0)))) := rfl
  have g1 : zl_get (zl_args 0 [.inr (.inr (12, some a0)), .inl a1]) 1 = some (.inl a1) := rfl
  refine e_aldn cd_80_0 g0 ?_
  refine e_ildn cd_80_1 g1 ?_
  refine e_const cd_80_2 ci_2 ?_
  obtain ⟨q1, h2, hs⟩ := k_bind hs
  refine e_cvi cd_80_3 kd_80_240 rfl rfl rfl rfl rfl nl_36 rfl rfl (tie_mo_at d a0 a1 2 M _ h2) ?_
  refine e_iKn cd_80_6 nl_80 rfl rfl ?_
  intro _ gn kp
  have u3 := kp 0 _ g0 rfl rfl
  have u4 := gn
  exact tie_mo_countAbout_7  d  zLF a0 q1.1 q1.2 so _ u3 u4 hs
theorem tie_mo_countAbout (d : Nat) (a0 : Nat) (a1 : Int32) (M : zM) (so : Int32 × zM) (hs : mo_countAbout d a0 a1 M = some so) : Ev zq_T d 80 0 (zl_args 0 [.inr (.inr (12, some a0)), .inl a1]) [] M (some (.inl so.1), so.2) := by
  cases d with
  | zero => exact nomatch hs
  | succ d => exact tieb_mo_countAbout d a0 a1 M so hs
theorem tie_mo_nodeOf (d : Nat) (a0 : Nat) (a1 : Int32) (a2 : Int32) (M : zM) (so : Int32 × zM) (hs : mo_nodeOf d a0 a1 a2 M = some so) : Ev zq_T d 81 0 (zl_args 0 [.inr (.inr (12, some a0)), .inl a1, .inl a2]) [] M (some (.inl so.1), so.2) := by
  unfold mo_nodeOf at hs
  have g0 : zl_get (zl_args 0 [.inr (.inr (12, some a0)), .inl a1, .inl a2]) 0 = some (.inr (.inr (12, (some a0)))) := rfl
  have g1 : zl_get (zl_args 0 [.inr (.inr (12, some a0)), .inl a1, .inl a2]) 1 = some (.inl a1) := rfl
  have g2 : zl_get (zl_args 0 [.inr (.inr (12, some a0)), .inl a1, .inl a2]) 2 = some (.inl a2) := rfl
  refine e_aldn cd_81_0 g0 ?_
  refine e_getR cd_81_1 fd_81_26 rfl ?_
  refine e_const cd_81_4 ci_3 ?_
  refine e_bip cd_81_5 cbb_8 ?_
  refine e_ildn cd_81_7 g1 ?_
  refine e_pure cd_81_8 rfl ?_
  refine e_ildn cd_81_9 g2 ?_
  refine e_pure cd_81_10 rfl ?_
  refine e_pure cd_81_11 rfl ?_
  refine e_const cd_81_12 ci_2 ?_
  refine e_pure cd_81_13 rfl ?_
  refine k_opt hs (fun _ q => nomatch q) (fun k1 h2 hs => ?_)
  obtain ⟨c3, hs⟩ := z_ite hs
  refine e_iald cd_81_14 rfl h2 c3 ?_
  have e := Option.some.inj hs
  subst e
  exact e_ri cd_81_15 nr_81
theorem tie_mo_nexts_11  (d : Nat)  : ∀ (fuel : Nat) (t0 : Nat) (v3 : Int32) (v4 : Int32) (M : zM) (so : Int32 × zM) (ls : List (Nat × zV)), zl_get ls 0 = some (.inr (.inr (12, (some t0)))) → zl_get ls 3 = some (.inl v3) → zl_get ls 4 = some (.inl v4) → mo_nexts_11  d fuel t0 v3 v4 M = some so → Ev zq_T (d + 1) 82 11 ls [] M (some (.inl so.1), so.2) := by
  intro fuel
  induction fuel with
  | zero => intro t0 v3 v4 M so ls g0 g3 g4 hs; exact nomatch hs
  | succ fuel ih =>
    intro t0 v3 v4 M so ls g0 g3 g4 hs
    unfold mo_nexts_11 at hs
    refine e_ild cd_82_11 g4 ?_
    refine e_aldn cd_82_13 g0 ?_
    refine e_getI cd_82_14 (Or.inl fd_82_265) rfl ?_
    refine k_if hs (fun c1 hs => ?_) (fun c1 hs => ?_)
    · refine e_icJ cd_82_17 rfl c1 ?_
      refine e_ildn cd_82_38 g3 ?_
      have e := Option.some.inj hs
      subst e
      exact e_ri cd_82_39 nr_82
    · refine e_icN cd_82_17 rfl c1 ?_
      refine e_ildn cd_82_20 g3 ?_
      refine e_const cd_82_21 ci_1 ?_
      refine e_aldn cd_82_22 g0 ?_
      refine e_getR cd_82_23 fd_82_50 rfl ?_
      refine e_ild cd_82_26 g4 ?_
      refine k_opt hs (fun _ q => nomatch q) (fun k2 h3 hs => ?_)
      obtain ⟨c4, hs⟩ := z_ite hs
      refine e_iald cd_82_28 rfl h3 c4 ?_
      refine e_pure cd_82_29 rfl ?_
      refine e_pure cd_82_30 rfl ?_
      refine k_let hs (fun x5 e6 hs => ?_)
      refine e_iKn cd_82_31 nl_82 rfl e6 ?_
      intro _ gn kp
      have u7 := kp 0 _ g0 rfl rfl
      have u8 := kp 4 _ g4 rfl rfl
      have u9 := gn
      refine k_let hs (fun x10 e11 hs => ?_)
      refine e_incK cd_82_32 nl_82 rfl u8 ci_1 e11 ?_
      intro _ gn kp
      have u12 := kp 0 _ u7 rfl rfl
      have u13 := kp 3 _ u9 rfl rfl
      have u14 := gn
      refine e_goto cd_82_35 rfl ?_
      exact ih t0 x5 x10 M so _ u12 u13 u14 hs
theorem tieb_mo_nexts  (d : Nat)  (a0 : Nat) (a1 : Int32) (a2 : Int32) (M : zM) (so : Int32 × zM) (hs : mo_nexts_b  d a0 a1 a2 M = some so) : Ev zq_T (d + 1) 82 0 (zl_args 0 [.inr (.inr (12, some a0)), .inl a1, .inl a2]) [] M (some (.inl so.1), so.2) := by
  unfold mo_nexts_b at hs
  have g0 : zl_get (zl_args 0 [.inr (.inr (12, some a0)), .inl a1, .inl a2]) 0 = some (.inr (.inr (12, (some a0)))) := rfl
  have g1 : zl_get (zl_args 0 [.inr (.inr (12, some a0)), .inl a1, .inl a2]) 1 = some (.inl a1) := rfl
  have g2 : zl_get (zl_args 0 [.inr (.inr (12, some a0)), .inl a1, .inl a2]) 2 = some (.inl a2) := rfl
  refine e_const cd_82_0 ci_0 ?_
  refine e_iKn cd_82_1 nl_82 rfl rfl ?_
  intro _ gn kp
  have u1 := kp 0 _ g0 rfl rfl
  have u2 := kp 1 _ g1 rfl rfl
  have u3 := kp 2 _ g2 rfl rfl
  have u4 := gn
  refine e_aldn cd_82_2 u1 ?_
  refine e_ildn cd_82_3 u2 ?_
  refine e_ildn cd_82_4 u3 ?_
  obtain ⟨q5, h6, hs⟩ := k_bind hs
  refine e_cvi cd_82_5 kd_82_338 rfl rfl rfl rfl rfl nl_49 rfl rfl (tie_mo_laysWays d a0 a1 a2 M _ h6) ?_
  refine e_const cd_82_8 ci_0 ?_
  refine e_iK cd_82_9 nl_82 rfl rfl ?_
  intro _ gn kp
  have u7 := kp 0 _ u1 rfl rfl
  have u8 := kp 3 _ u4 rfl rfl
  have u9 := gn
  exact tie_mo_nexts_11  d  zLF a0 0 0 q5 so _ u7 u8 u9 hs
theorem tie_mo_nexts (d : Nat) (a0 : Nat) (a1 : Int32) (a2 : Int32) (M : zM) (so : Int32 × zM) (hs : mo_nexts d a0 a1 a2 M = some so) : Ev zq_T d 82 0 (zl_args 0 [.inr (.inr (12, some a0)), .inl a1, .inl a2]) [] M (some (.inl so.1), so.2) := by
  cases d with
  | zero => exact nomatch hs
  | succ d => exact tieb_mo_nexts d a0 a1 a2 M so hs
theorem tie_mo_anysAbout_32 (kl4 : Nat → Int32 → Int32 → zM → Option (Int32 × zM)) (d : Nat) (hk4 : ∀ (t0 : Nat) (v2 : Int32) (v3 : Int32) (M : zM) (so : Int32 × zM) (ls : List (Nat × zV)), zl_get ls 0 = some (.inr (.inr (12, (some t0)))) → zl_get ls 2 = some (.inl v2) → zl_get ls 3 = some (.inl v3) → kl4 t0 v2 v3 M = some so → Ev zq_T (d + 1) 83 4 ls [] M (some (.inl so.1), so.2)) (t0 : Nat) (v3 : Int32) (s0 : Int32) (s1 : Int32) (M : zM) (so : Int32 × zM) (ls : List (Nat × zV)) (g0 : zl_get ls 0 = some (.inr (.inr (12, (some t0))))) (g3 : zl_get ls 3 = some (.inl v3)) (hs : mo_anysAbout_32 kl4 d t0 v3 s0 s1 M = some so) : Ev zq_T (d + 1) 83 32 ls [.inl s1, .inl s0] M (some (.inl so.1), so.2) := by
  unfold mo_anysAbout_32 at hs
  refine e_pure cd_83_32 rfl ?_
  refine k_let hs (fun x1 e2 hs => ?_)
  refine e_iKn cd_83_33 nl_83 rfl e2 ?_
  intro _ gn kp
  have u3 := kp 0 _ g0 rfl rfl
  have u4 := kp 3 _ g3 rfl rfl
  have u5 := gn
  refine e_aldn cd_83_34 u3 ?_
  refine e_ildn cd_83_35 u4 ?_
  refine e_const cd_83_36 ci_2 ?_
  obtain ⟨q6, h7, hs⟩ := k_bind hs
  refine e_cvi cd_83_37 kd_83_240 rfl rfl rfl rfl rfl nl_36 rfl rfl (tie_mo_at d t0 v3 2 M _ h7) ?_
  refine e_iKn cd_83_40 nl_83 rfl rfl ?_
  intro _ gn kp
  have u8 := kp 0 _ u3 rfl rfl
  have u9 := kp 2 _ u5 rfl rfl
  have u10 := gn
  refine e_goto cd_83_41 rfl ?_
  exact hk4 t0 x1 q6.1 q6.2 so _ u8 u9 u10 hs
theorem tie_mo_anysAbout_4  (d : Nat)  : ∀ (fuel : Nat) (t0 : Nat) (v2 : Int32) (v3 : Int32) (M : zM) (so : Int32 × zM) (ls : List (Nat × zV)), zl_get ls 0 = some (.inr (.inr (12, (some t0)))) → zl_get ls 2 = some (.inl v2) → zl_get ls 3 = some (.inl v3) → mo_anysAbout_4  d fuel t0 v2 v3 M = some so → Ev zq_T (d + 1) 83 4 ls [] M (some (.inl so.1), so.2) := by
  intro fuel
  induction fuel with
  | zero => intro t0 v2 v3 M so ls g0 g2 g3 hs; exact nomatch hs
  | succ fuel ih =>
    intro t0 v2 v3 M so ls g0 g2 g3 hs
    unfold mo_anysAbout_4 at hs
    refine e_ildn cd_83_4 g3 ?_
    refine e_const cd_83_5 ci_m1 ?_
    refine k_if hs (fun c1 hs => ?_) (fun c1 hs => ?_)
    · refine e_icJ cd_83_6 rfl c1 ?_
      refine e_ildn cd_83_44 g2 ?_
      have e := Option.some.inj hs
      subst e
      exact e_ri cd_83_45 nr_83
    · refine e_icN cd_83_6 rfl c1 ?_
      refine e_ildn cd_83_9 g2 ?_
      refine e_aldn cd_83_10 g0 ?_
      refine e_ildn cd_83_11 g3 ?_
      refine e_const cd_83_12 ci_0 ?_
      obtain ⟨q2, h3, hs⟩ := k_bind hs
      refine e_cvi cd_83_13 kd_83_240 rfl rfl rfl rfl rfl nl_36 rfl rfl (tie_mo_at d t0 v3 0 M _ h3) ?_
      refine e_const cd_83_16 ci_4 ?_
      refine k_if hs (fun c4 hs => ?_) (fun c4 hs => ?_)
      · refine e_icN cd_83_17 rfl (fun q => q c4) ?_
        refine e_const cd_83_20 ci_1 ?_
        refine e_aldn cd_83_21 g0 ?_
        refine e_ildn cd_83_22 g3 ?_
        refine e_const cd_83_23 ci_1 ?_
        obtain ⟨q5, h6, hs⟩ := k_bind hs
        refine e_cvi cd_83_24 kd_83_240 rfl rfl rfl rfl rfl nl_36 rfl rfl (tie_mo_at d t0 v3 1 q2.2 _ h6) ?_
        refine e_pure cd_83_27 rfl ?_
        refine e_goto cd_83_28 rfl ?_
        exact tie_mo_anysAbout_32 (fun p0 p1 p2 m => mo_anysAbout_4  d fuel p0 p1 p2 m) d ih t0 v3 v2 (1 <<< (q5.1 &&& 31)) q5.2 so _ g0 g3 hs
      · refine e_icJ cd_83_17 rfl c4 ?_
        refine e_const cd_83_31 ci_0 ?_
        exact tie_mo_anysAbout_32 (fun p0 p1 p2 m => mo_anysAbout_4  d fuel p0 p1 p2 m) d ih t0 v3 v2 0 q2.2 so _ g0 g3 hs
theorem tieb_mo_anysAbout  (d : Nat)  (a0 : Nat) (a1 : Int32) (M : zM) (so : Int32 × zM) (hs : mo_anysAbout_b  d a0 a1 M = some so) : Ev zq_T (d + 1) 83 0 (zl_args 0 [.inr (.inr (12, some a0)), .inl a1]) [] M (some (.inl so.1), so.2) := by
  unfold mo_anysAbout_b at hs
  have g0 : zl_get (zl_args 0 [.inr (.inr (12, some a0)), .inl a1]) 0 = some (.inr (.inr (12, (some a0)))) := rfl
  have g1 : zl_get (zl_args 0 [.inr (.inr (12, some a0)), .inl a1]) 1 = some (.inl a1) := rfl
  refine e_const cd_83_0 ci_0 ?_
  refine e_iKn cd_83_1 nl_83 rfl rfl ?_
  intro _ gn kp
  have u1 := kp 0 _ g0 rfl rfl
  have u2 := kp 1 _ g1 rfl rfl
  have u3 := gn
  refine e_ildn cd_83_2 u2 ?_
  refine e_iKn cd_83_3 nl_83 rfl rfl ?_
  intro _ gn kp
  have u4 := kp 0 _ u1 rfl rfl
  have u5 := kp 2 _ u3 rfl rfl
  have u6 := gn
  exact tie_mo_anysAbout_4  d  zLF a0 0 a1 M so _ u4 u5 u6 hs
theorem tie_mo_anysAbout (d : Nat) (a0 : Nat) (a1 : Int32) (M : zM) (so : Int32 × zM) (hs : mo_anysAbout d a0 a1 M = some so) : Ev zq_T d 83 0 (zl_args 0 [.inr (.inr (12, some a0)), .inl a1]) [] M (some (.inl so.1), so.2) := by
  cases d with
  | zero => exact nomatch hs
  | succ d => exact tieb_mo_anysAbout d a0 a1 M so hs
theorem tie_mo_countAt_51  (d : Nat)  (s0 : Int32) (M : zM) (so : Int32 × zM) (ls : List (Nat × zV))  (hs : mo_countAt_51  d s0 M = some so) : Ev zq_T (d + 1) 84 51 ls [.inl s0] M (some (.inl so.1), so.2) := by
  unfold mo_countAt_51 at hs
  have e := Option.some.inj hs
  subst e
  exact e_ri cd_84_51 nr_84
theorem tie_mo_countAt_63  (d : Nat)  (s0 : Int32) (M : zM) (so : Int32 × zM) (ls : List (Nat × zV))  (hs : mo_countAt_63  d s0 M = some so) : Ev zq_T (d + 1) 84 63 ls [.inl s0] M (some (.inl so.1), so.2) := by
  unfold mo_countAt_63 at hs
  have e := Option.some.inj hs
  subst e
  exact e_ri cd_84_63 nr_84
theorem tie_mo_countAt_33  (d : Nat)  (v3 : Int32) (v4 : Int32) (s0 : Int32) (M : zM) (so : Int32 × zM) (ls : List (Nat × zV)) (g3 : zl_get ls 3 = some (.inl v3)) (g4 : zl_get ls 4 = some (.inl v4)) (hs : mo_countAt_33  d v3 v4 s0 M = some so) : Ev zq_T (d + 1) 84 33 ls [.inl s0] M (some (.inl so.1), so.2) := by
  unfold mo_countAt_33 at hs
  refine e_iK cd_84_33 nl_84 rfl rfl ?_
  intro _ gn kp
  have u1 := kp 3 _ g3 rfl rfl
  have u2 := kp 4 _ g4 rfl rfl
  have u3 := gn
  refine e_ild cd_84_35 u3 ?_
  refine e_const cd_84_37 ci_m1 ?_
  refine k_if hs (fun c4 hs => ?_) (fun c4 hs => ?_)
  · refine e_icN cd_84_38 rfl (fun q => q c4) ?_
    refine e_ildn cd_84_41 u1 ?_
    refine k_if hs (fun c5 hs => ?_) (fun c5 hs => ?_)
    · refine e_izJ cd_84_42 rfl c5 ?_
      refine e_ild cd_84_49 u2 ?_
      exact tie_mo_countAt_51  d  v4 M so _  hs
    · refine e_izN cd_84_42 rfl c5 ?_
      refine e_const cd_84_45 ci_m1 ?_
      refine e_goto cd_84_46 rfl ?_
      exact tie_mo_countAt_51  d  (-1) M so _  hs
  · refine e_icJ cd_84_38 rfl c4 ?_
    refine e_ildn cd_84_52 u1 ?_
    refine k_if hs (fun c6 hs => ?_) (fun c6 hs => ?_)
    · refine e_izJ cd_84_53 rfl c6 ?_
      refine e_ild cd_84_61 u3 ?_
      exact tie_mo_countAt_63  d  s0 M so _  hs
    · refine e_izN cd_84_53 rfl c6 ?_
      refine e_ild cd_84_56 u2 ?_
      refine e_goto cd_84_58 rfl ?_
      exact tie_mo_countAt_63  d  v4 M so _  hs
theorem tieb_mo_countAt  (d : Nat)  (a0 : Nat) (a1 : Int32) (a2 : Int32) (a3 : Int32) (M : zM) (so : Int32 × zM) (hs : mo_countAt_b  d a0 a1 a2 a3 M = some so) : Ev zq_T (d + 1) 84 0 (zl_args 0 [.inr (.inr (12, some a0)), .inl a1, .inl a2, .inl a3]) [] M (some (.inl so.1), so.2) := by
  unfold mo_countAt_b at hs
  have g0 : zl_get (zl_args 0 [.inr (.inr (12, some a0)), .inl a1, .inl a2, .inl a3]) 0 = some (.inr (.inr (12, (some a0)))) := rfl
  have g1 : zl_get (zl_args 0 [.inr (.inr (12, some a0)), .inl a1, .inl a2, .inl a3]) 1 = some (.inl a1) := rfl
  have g2 : zl_get (zl_args 0 [.inr (.inr (12, some a0)), .inl a1, .inl a2, .inl a3]) 2 = some (.inl a2) := rfl
  have g3 : zl_get (zl_args 0 [.inr (.inr (12, some a0)), .inl a1, .inl a2, .inl a3]) 3 = some (.inl a3) := rfl
  refine e_aldn cd_84_0 g0 ?_
  refine e_aldn cd_84_1 g0 ?_
  refine e_ildn cd_84_2 g1 ?_
  refine e_ildn cd_84_3 g2 ?_
  obtain ⟨q1, h2, hs⟩ := k_bind hs
  refine e_cvi cd_84_4 kd_84_249 rfl rfl rfl rfl rfl nl_40 rfl rfl (tie_mo_leaf d a0 a1 a2 M _ h2) ?_
  obtain ⟨q3, h4, hs⟩ := k_bind hs
  refine e_cvi cd_84_7 kd_84_381 rfl rfl rfl rfl rfl nl_80 rfl rfl (tie_mo_countAbout d a0 q1.1 q1.2 _ h4) ?_
  refine e_iK cd_84_10 nl_84 rfl rfl ?_
  intro _ gn kp
  have u5 := kp 0 _ g0 rfl rfl
  have u6 := kp 1 _ g1 rfl rfl
  have u7 := kp 3 _ g3 rfl rfl
  have u8 := gn
  refine e_ild cd_84_12 u8 ?_
  refine e_const cd_84_14 ci_m1 ?_
  refine k_if hs (fun c9 hs => ?_) (fun c9 hs => ?_)
  · refine e_icN cd_84_15 rfl (fun q => q c9) ?_
    refine e_const cd_84_18 ci_m1 ?_
    refine e_goto cd_84_19 rfl ?_
    exact tie_mo_countAt_33  d  a3 q3.1 (-1) q3.2 so _ u7 u8 hs
  · refine e_icJ cd_84_15 rfl c9 ?_
    refine e_aldn cd_84_22 u5 ?_
    refine e_aldn cd_84_23 u5 ?_
    refine e_ildn cd_84_24 u6 ?_
    refine e_ild cd_84_25 u8 ?_
    obtain ⟨q10, h11, hs⟩ := k_bind hs
    refine e_cvi cd_84_27 kd_84_384 rfl rfl rfl rfl rfl nl_81 rfl rfl (tie_mo_nodeOf d a0 a1 q3.1 q3.2 _ h11) ?_
    obtain ⟨q12, h13, hs⟩ := k_bind hs
    refine e_cvi cd_84_30 kd_84_381 rfl rfl rfl rfl rfl nl_80 rfl rfl (tie_mo_countAbout d a0 q10.1 q10.2 _ h13) ?_
    exact tie_mo_countAt_33  d  a3 q3.1 q12.1 q12.2 so _ u7 u8 hs
theorem tie_mo_countAt (d : Nat) (a0 : Nat) (a1 : Int32) (a2 : Int32) (a3 : Int32) (M : zM) (so : Int32 × zM) (hs : mo_countAt d a0 a1 a2 a3 M = some so) : Ev zq_T d 84 0 (zl_args 0 [.inr (.inr (12, some a0)), .inl a1, .inl a2, .inl a3]) [] M (some (.inl so.1), so.2) := by
  cases d with
  | zero => exact nomatch hs
  | succ d => exact tieb_mo_countAt d a0 a1 a2 a3 M so hs
theorem tie_mo_occurrence_43  (d : Nat)   (M : zM) (so : Int32 × zM) (ls : List (Nat × zV))  (hs : mo_occurrence_43  d  M = some so) : Ev zq_T (d + 1) 85 43 ls [] M (some (.inl so.1), so.2) := by
  unfold mo_occurrence_43 at hs
  refine e_bip cd_85_43 cb_m2 ?_
  have e := Option.some.inj hs
  subst e
  exact e_ri cd_85_45 nr_85
theorem tie_mo_occurrence_111  (d : Nat)  (s0 : Int32) (M : zM) (so : Int32 × zM) (ls : List (Nat × zV))  (hs : mo_occurrence_111  d s0 M = some so) : Ev zq_T (d + 1) 85 111 ls [.inl s0] M (some (.inl so.1), so.2) := by
  unfold mo_occurrence_111 at hs
  have e := Option.some.inj hs
  subst e
  exact e_ri cd_85_111 nr_85
theorem tie_mo_occurrence_126  (d : Nat)  (s0 : Int32) (M : zM) (so : Int32 × zM) (ls : List (Nat × zV))  (hs : mo_occurrence_126  d s0 M = some so) : Ev zq_T (d + 1) 85 126 ls [.inl s0] M (some (.inl so.1), so.2) := by
  unfold mo_occurrence_126 at hs
  have e := Option.some.inj hs
  subst e
  exact e_ri cd_85_126 nr_85
set_option maxRecDepth 100000 in
theorem tieb_mo_occurrence  (d : Nat)  (a0 : Nat) (a1 : Int32) (a2 : Int32) (a3 : Int32) (M : zM) (so : Int32 × zM) (hs : mo_occurrence_b  d a0 a1 a2 a3 M = some so) : Ev zq_T (d + 1) 85 0 (zl_args 0 [.inr (.inr (12, some a0)), .inl a1, .inl a2, .inl a3]) [] M (some (.inl so.1), so.2) := by
  unfold mo_occurrence_b at hs
  have g0 : zl_get (zl_args 0 [.inr (.inr (12, some a0)), .inl a1, .inl a2, .inl a3]) 0 = some (.inr (.inr (12, (some a0)))) := rfl
  have g1 : zl_get (zl_args 0 [.inr (.inr (12, some a0)), .inl a1, .inl a2, .inl a3]) 1 = some (.inl a1) := rfl
  have g2 : zl_get (zl_args 0 [.inr (.inr (12, some a0)), .inl a1, .inl a2, .inl a3]) 2 = some (.inl a2) := rfl
  have g3 : zl_get (zl_args 0 [.inr (.inr (12, some a0)), .inl a1, .inl a2, .inl a3]) 3 = some (.inl a3) := rfl
  refine e_aldn cd_85_0 g0 ?_
  refine e_const cd_85_1 ci_0 ?_
  refine k_let hs (fun M1 e2 hs => ?_)
  refine e_putI cd_85_2 pd_85_114 rfl e2 ?_
  refine e_aldn cd_85_5 g0 ?_
  refine e_ildn cd_85_6 g1 ?_
  obtain ⟨q3, h4, hs⟩ := k_bind hs
  refine e_cvi cd_85_7 kd_85_357 rfl rfl rfl rfl rfl nl_34 rfl rfl (tie_mo_isRule d a0 a1 M1 _ h4) ?_
  refine k_if hs (fun c5 hs => ?_) (fun c5 hs => ?_)
  · refine e_izJ cd_85_10 rfl c5 ?_
    exact tie_mo_occurrence_43  d   q3.2 so _  hs
  · refine e_izN cd_85_10 rfl c5 ?_
    refine e_ildn cd_85_13 g2 ?_
    refine e_pure cd_85_14 rfl ?_
    refine e_lcon cd_85_15 cl_0 ?_
    refine e_aldn cd_85_16 g0 ?_
    refine e_ildn cd_85_17 g1 ?_
    refine e_const cd_85_18 ci_2 ?_
    obtain ⟨q6, h7, hs⟩ := k_bind hs
    refine e_cvi cd_85_19 kd_85_258 rfl rfl rfl rfl rfl nl_35 rfl rfl (tie_mo_of d a0 a1 2 q3.2 _ h7) ?_
    refine e_const cd_85_22 ci_1 ?_
    refine e_pure cd_85_23 rfl ?_
    refine e_pure cd_85_24 rfl ?_
    obtain ⟨q8, h9, hs⟩ := k_bind hs
    refine e_cst cd_85_25 kd_85_204 rfl rfl rfl nl_2 rfl rfl (tie_mo_isIn d a2.toInt64 0 ((q6.1 - 1).toInt64) q6.2 _ h9) ?_
    refine k_if hs (fun c10 hs => ?_) (fun c10 hs => ?_)
    · refine e_izJ cd_85_28 rfl c10 ?_
      exact tie_mo_occurrence_43  d   q8.2 so _  hs
    · refine e_izN cd_85_28 rfl c10 ?_
      refine e_ildn cd_85_31 g3 ?_
      refine e_pure cd_85_32 rfl ?_
      refine e_lcon cd_85_33 cl_0 ?_
      refine e_ld2 cd_85_34 od_85_387 ?_
      obtain ⟨q11, h12, hs⟩ := k_bind hs
      refine e_cst cd_85_37 kd_85_204 rfl rfl rfl nl_2 rfl rfl (tie_mo_isIn d a3.toInt64 0 6 q8.2 _ h12) ?_
      refine k_if hs (fun c13 hs => ?_) (fun c13 hs => ?_)
      · refine e_izN cd_85_40 rfl (fun q => q c13) ?_
        exact tie_mo_occurrence_43  d   q11.2 so _  hs
      · refine e_izJ cd_85_40 rfl c13 ?_
        refine e_ildn cd_85_46 g3 ?_
        refine k_if hs (fun c14 hs => ?_) (fun c14 hs => ?_)
        · refine e_tab cd_85_47 (by decide) (fun f => (e_tb1 c14 rfl f)) ?_
          refine e_aldn cd_85_84 g0 ?_
          refine e_ildn cd_85_85 g1 ?_
          refine e_ildn cd_85_86 g2 ?_
          obtain ⟨q20, h21, hs⟩ := k_bind hs
          refine e_cvi cd_85_87 kd_85_289 rfl rfl rfl rfl rfl nl_39 rfl rfl (tie_mo_letterOf d a0 a1 a2 q11.2 _ h21) ?_
          have e := Option.some.inj hs
          subst e
          exact e_ri cd_85_90 nr_85
        · refine k_if hs (fun c15 hs => ?_) (fun c15 hs => ?_)
          · refine e_tab cd_85_47 (by decide) (fun f => (e_tb0 c14 f (e_tb1 c15 rfl f))) ?_
            refine e_aldn cd_85_91 g0 ?_
            refine e_ildn cd_85_92 g1 ?_
            refine e_aldn cd_85_93 g0 ?_
            refine e_ildn cd_85_94 g1 ?_
            refine e_const cd_85_95 ci_1 ?_
            obtain ⟨q22, h23, hs⟩ := k_bind hs
            refine e_cvi cd_85_96 kd_85_258 rfl rfl rfl rfl rfl nl_35 rfl rfl (tie_mo_of d a0 a1 1 q11.2 _ h23) ?_
            refine e_ildn cd_85_99 g2 ?_
            obtain ⟨q24, h25, hs⟩ := k_bind hs
            refine e_cvi cd_85_100 kd_85_261 rfl rfl rfl rfl rfl nl_43 rfl rfl (tie_mo_isFirst d a0 a1 q22.1 a2 q22.2 _ h25) ?_
            refine k_if hs (fun c26 hs => ?_) (fun c26 hs => ?_)
            · refine e_izJ cd_85_103 rfl c26 ?_
              refine e_const cd_85_110 ci_0 ?_
              exact tie_mo_occurrence_111  d  0 q24.2 so _  hs
            · refine e_izN cd_85_103 rfl c26 ?_
              refine e_const cd_85_106 ci_1 ?_
              refine e_goto cd_85_107 rfl ?_
              exact tie_mo_occurrence_111  d  1 q24.2 so _  hs
          · refine k_if hs (fun c16 hs => ?_) (fun c16 hs => ?_)
            · refine e_tab cd_85_47 (by decide) (fun f => (e_tb0 c14 f (e_tb0 c15 f (e_tb1 c16 rfl f)))) ?_
              refine e_aldn cd_85_112 g0 ?_
              refine e_ildn cd_85_113 g1 ?_
              refine e_ildn cd_85_114 g2 ?_
              obtain ⟨q27, h28, hs⟩ := k_bind hs
              refine e_cvi cd_85_115 kd_85_389 rfl rfl rfl rfl rfl nl_45 rfl rfl (tie_mo_isLast d a0 a1 a2 q11.2 _ h28) ?_
              refine k_if hs (fun c29 hs => ?_) (fun c29 hs => ?_)
              · refine e_izJ cd_85_118 rfl c29 ?_
                refine e_const cd_85_125 ci_0 ?_
                exact tie_mo_occurrence_126  d  0 q27.2 so _  hs
              · refine e_izN cd_85_118 rfl c29 ?_
                refine e_const cd_85_121 ci_1 ?_
                refine e_goto cd_85_122 rfl ?_
                exact tie_mo_occurrence_126  d  1 q27.2 so _  hs
            · refine k_if hs (fun c17 hs => ?_) (fun c17 hs => ?_)
              · refine e_tab cd_85_47 (by decide) (fun f => (e_tb0 c14 f (e_tb0 c15 f (e_tb0 c16 f (e_tb1 c17 rfl f))))) ?_
                refine e_aldn cd_85_127 g0 ?_
                refine e_ildn cd_85_128 g1 ?_
                refine e_ildn cd_85_129 g2 ?_
                obtain ⟨q30, h31, hs⟩ := k_bind hs
                refine e_cvi cd_85_130 kd_85_392 rfl rfl rfl rfl rfl nl_82 rfl rfl (tie_mo_nexts d a0 a1 a2 q11.2 _ h31) ?_
                have e := Option.some.inj hs
                subst e
                exact e_ri cd_85_133 nr_85
              · refine k_if hs (fun c18 hs => ?_) (fun c18 hs => ?_)
                · refine e_tab cd_85_47 (by decide) (fun f => (e_tb0 c14 f (e_tb0 c15 f (e_tb0 c16 f (e_tb0 c17 f (e_tb1 c18 rfl f)))))) ?_
                  refine e_aldn cd_85_134 g0 ?_
                  refine e_ildn cd_85_135 g1 ?_
                  refine e_ildn cd_85_136 g2 ?_
                  refine e_const cd_85_137 ci_0 ?_
                  obtain ⟨q32, h33, hs⟩ := k_bind hs
                  refine e_cvi cd_85_138 kd_85_395 rfl rfl rfl rfl rfl nl_84 rfl rfl (tie_mo_countAt d a0 a1 a2 0 q11.2 _ h33) ?_
                  have e := Option.some.inj hs
                  subst e
                  exact e_ri cd_85_141 nr_85
                · refine k_if hs (fun c19 hs => ?_) (fun c19 hs => ?_)
                  · refine e_tab cd_85_47 (by decide) (fun f => (e_tb0 c14 f (e_tb0 c15 f (e_tb0 c16 f (e_tb0 c17 f (e_tb0 c18 f (e_tb1 c19 rfl f))))))) ?_
                    refine e_aldn cd_85_142 g0 ?_
                    refine e_ildn cd_85_143 g1 ?_
                    refine e_ildn cd_85_144 g2 ?_
                    refine e_const cd_85_145 ci_1 ?_
                    obtain ⟨q34, h35, hs⟩ := k_bind hs
                    refine e_cvi cd_85_146 kd_85_395 rfl rfl rfl rfl rfl nl_84 rfl rfl (tie_mo_countAt d a0 a1 a2 1 q11.2 _ h35) ?_
                    have e := Option.some.inj hs
                    subst e
                    exact e_ri cd_85_149 nr_85
                  · refine e_tab cd_85_47 (by decide) (fun f => (e_tb0 c14 f (e_tb0 c15 f (e_tb0 c16 f (e_tb0 c17 f (e_tb0 c18 f (e_tb0 c19 f (e_tbd rfl f)))))))) ?_
                    refine e_aldn cd_85_150 g0 ?_
                    refine e_aldn cd_85_151 g0 ?_
                    refine e_ildn cd_85_152 g1 ?_
                    refine e_ildn cd_85_153 g2 ?_
                    obtain ⟨q36, h37, hs⟩ := k_bind hs
                    refine e_cvi cd_85_154 kd_85_249 rfl rfl rfl rfl rfl nl_40 rfl rfl (tie_mo_leaf d a0 a1 a2 q11.2 _ h37) ?_
                    obtain ⟨q38, h39, hs⟩ := k_bind hs
                    refine e_cvi cd_85_157 kd_85_399 rfl rfl rfl rfl rfl nl_83 rfl rfl (tie_mo_anysAbout d a0 q36.1 q36.2 _ h39) ?_
                    have e := Option.some.inj hs
                    subst e
                    exact e_ri cd_85_160 nr_85
theorem tie_mo_occurrence (d : Nat) (a0 : Nat) (a1 : Int32) (a2 : Int32) (a3 : Int32) (M : zM) (so : Int32 × zM) (hs : mo_occurrence d a0 a1 a2 a3 M = some so) : Ev zq_T d 85 0 (zl_args 0 [.inr (.inr (12, some a0)), .inl a1, .inl a2, .inl a3]) [] M (some (.inl so.1), so.2) := by
  cases d with
  | zero => exact nomatch hs
  | succ d => exact tieb_mo_occurrence d a0 a1 a2 a3 M so hs
theorem tie_mo_counted_43  (d : Nat)   (M : zM) (so : Int32 × zM) (ls : List (Nat × zV))  (hs : mo_counted_43  d  M = some so) : Ev zq_T (d + 1) 86 43 ls [] M (some (.inl so.1), so.2) := by
  unfold mo_counted_43 at hs
  refine e_bip cd_86_43 cb_m2 ?_
  have e := Option.some.inj hs
  subst e
  exact e_ri cd_86_45 nr_86
theorem tie_mo_counted_137  (d : Nat)  (s0 : Int32) (M : zM) (so : Int32 × zM) (ls : List (Nat × zV))  (hs : mo_counted_137  d s0 M = some so) : Ev zq_T (d + 1) 86 137 ls [.inl s0] M (some (.inl so.1), so.2) := by
  unfold mo_counted_137 at hs
  have e := Option.some.inj hs
  subst e
  exact e_ri cd_86_137 nr_86
set_option maxRecDepth 100000 in
theorem tieb_mo_counted  (d : Nat)  (a0 : Nat) (a1 : Int32) (a2 : Int32) (a3 : Int32) (M : zM) (so : Int32 × zM) (hs : mo_counted_b  d a0 a1 a2 a3 M = some so) : Ev zq_T (d + 1) 86 0 (zl_args 0 [.inr (.inr (12, some a0)), .inl a1, .inl a2, .inl a3]) [] M (some (.inl so.1), so.2) := by
  unfold mo_counted_b at hs
  have g0 : zl_get (zl_args 0 [.inr (.inr (12, some a0)), .inl a1, .inl a2, .inl a3]) 0 = some (.inr (.inr (12, (some a0)))) := rfl
  have g1 : zl_get (zl_args 0 [.inr (.inr (12, some a0)), .inl a1, .inl a2, .inl a3]) 1 = some (.inl a1) := rfl
  have g2 : zl_get (zl_args 0 [.inr (.inr (12, some a0)), .inl a1, .inl a2, .inl a3]) 2 = some (.inl a2) := rfl
  have g3 : zl_get (zl_args 0 [.inr (.inr (12, some a0)), .inl a1, .inl a2, .inl a3]) 3 = some (.inl a3) := rfl
  refine e_aldn cd_86_0 g0 ?_
  refine e_const cd_86_1 ci_0 ?_
  refine k_let hs (fun M1 e2 hs => ?_)
  refine e_putI cd_86_2 pd_86_114 rfl e2 ?_
  refine e_aldn cd_86_5 g0 ?_
  refine e_ildn cd_86_6 g1 ?_
  obtain ⟨q3, h4, hs⟩ := k_bind hs
  refine e_cvi cd_86_7 kd_86_357 rfl rfl rfl rfl rfl nl_34 rfl rfl (tie_mo_isRule d a0 a1 M1 _ h4) ?_
  refine k_if hs (fun c5 hs => ?_) (fun c5 hs => ?_)
  · refine e_izJ cd_86_10 rfl c5 ?_
    exact tie_mo_counted_43  d   q3.2 so _  hs
  · refine e_izN cd_86_10 rfl c5 ?_
    refine e_ildn cd_86_13 g2 ?_
    refine e_pure cd_86_14 rfl ?_
    refine e_lcon cd_86_15 cl_0 ?_
    refine e_aldn cd_86_16 g0 ?_
    refine e_ildn cd_86_17 g1 ?_
    refine e_const cd_86_18 ci_3 ?_
    obtain ⟨q6, h7, hs⟩ := k_bind hs
    refine e_cvi cd_86_19 kd_86_258 rfl rfl rfl rfl rfl nl_35 rfl rfl (tie_mo_of d a0 a1 3 q3.2 _ h7) ?_
    refine e_const cd_86_22 ci_1 ?_
    refine e_pure cd_86_23 rfl ?_
    refine e_pure cd_86_24 rfl ?_
    obtain ⟨q8, h9, hs⟩ := k_bind hs
    refine e_cst cd_86_25 kd_86_204 rfl rfl rfl nl_2 rfl rfl (tie_mo_isIn d a2.toInt64 0 ((q6.1 - 1).toInt64) q6.2 _ h9) ?_
    refine k_if hs (fun c10 hs => ?_) (fun c10 hs => ?_)
    · refine e_izJ cd_86_28 rfl c10 ?_
      exact tie_mo_counted_43  d   q8.2 so _  hs
    · refine e_izN cd_86_28 rfl c10 ?_
      refine e_ildn cd_86_31 g3 ?_
      refine e_pure cd_86_32 rfl ?_
      refine e_lcon cd_86_33 cl_0 ?_
      refine e_ld2 cd_86_34 od_86_402 ?_
      obtain ⟨q11, h12, hs⟩ := k_bind hs
      refine e_cst cd_86_37 kd_86_204 rfl rfl rfl nl_2 rfl rfl (tie_mo_isIn d a3.toInt64 0 4 q8.2 _ h12) ?_
      refine k_if hs (fun c13 hs => ?_) (fun c13 hs => ?_)
      · refine e_izN cd_86_40 rfl (fun q => q c13) ?_
        exact tie_mo_counted_43  d   q11.2 so _  hs
      · refine e_izJ cd_86_40 rfl c13 ?_
        refine e_ildn cd_86_46 g3 ?_
        refine k_if hs (fun c14 hs => ?_) (fun c14 hs => ?_)
        · refine e_tab cd_86_47 (by decide) (fun f => (e_tb1 c14 rfl f)) ?_
          refine e_aldn cd_86_76 g0 ?_
          refine e_ildn cd_86_77 g1 ?_
          refine e_ildn cd_86_78 g2 ?_
          obtain ⟨q18, h19, hs⟩ := k_bind hs
          refine e_cvi cd_86_79 kd_86_242 rfl rfl rfl rfl rfl nl_37 rfl rfl (tie_mo_from d a0 a1 a2 q11.2 _ h19) ?_
          have e := Option.some.inj hs
          subst e
          exact e_ri cd_86_82 nr_86
        · refine k_if hs (fun c15 hs => ?_) (fun c15 hs => ?_)
          · refine e_tab cd_86_47 (by decide) (fun f => (e_tb0 c14 f (e_tb1 c15 rfl f))) ?_
            refine e_aldn cd_86_83 g0 ?_
            refine e_ildn cd_86_84 g1 ?_
            refine e_ildn cd_86_85 g2 ?_
            obtain ⟨q20, h21, hs⟩ := k_bind hs
            refine e_cvi cd_86_86 kd_86_275 rfl rfl rfl rfl rfl nl_38 rfl rfl (tie_mo_to d a0 a1 a2 q11.2 _ h21) ?_
            have e := Option.some.inj hs
            subst e
            exact e_ri cd_86_89 nr_86
          · refine k_if hs (fun c16 hs => ?_) (fun c16 hs => ?_)
            · refine e_tab cd_86_47 (by decide) (fun f => (e_tb0 c14 f (e_tb0 c15 f (e_tb1 c16 rfl f)))) ?_
              refine e_aldn cd_86_90 g0 ?_
              refine e_aldn cd_86_91 g0 ?_
              refine e_ildn cd_86_92 g1 ?_
              refine e_ildn cd_86_93 g2 ?_
              obtain ⟨q22, h23, hs⟩ := k_bind hs
              refine e_cvi cd_86_94 kd_86_384 rfl rfl rfl rfl rfl nl_81 rfl rfl (tie_mo_nodeOf d a0 a1 a2 q11.2 _ h23) ?_
              obtain ⟨q24, h25, hs⟩ := k_bind hs
              refine e_cvi cd_86_97 kd_86_381 rfl rfl rfl rfl rfl nl_80 rfl rfl (tie_mo_countAbout d a0 q22.1 q22.2 _ h25) ?_
              have e := Option.some.inj hs
              subst e
              exact e_ri cd_86_100 nr_86
            · refine k_if hs (fun c17 hs => ?_) (fun c17 hs => ?_)
              · refine e_tab cd_86_47 (by decide) (fun f => (e_tb0 c14 f (e_tb0 c15 f (e_tb0 c16 f (e_tb1 c17 rfl f))))) ?_
                refine e_aldn cd_86_101 g0 ?_
                refine e_ildn cd_86_102 g1 ?_
                refine e_aldn cd_86_103 g0 ?_
                refine e_ildn cd_86_104 g1 ?_
                refine e_ildn cd_86_105 g2 ?_
                obtain ⟨q26, h27, hs⟩ := k_bind hs
                refine e_cvi cd_86_106 kd_86_384 rfl rfl rfl rfl rfl nl_81 rfl rfl (tie_mo_nodeOf d a0 a1 a2 q11.2 _ h27) ?_
                obtain ⟨q28, h29, hs⟩ := k_bind hs
                refine e_cvi cd_86_109 kd_86_404 rfl rfl rfl rfl rfl nl_79 rfl rfl (tie_mo_inside d a0 a1 q26.1 q26.2 _ h29) ?_
                have e := Option.some.inj hs
                subst e
                exact e_ri cd_86_112 nr_86
              · refine e_tab cd_86_47 (by decide) (fun f => (e_tb0 c14 f (e_tb0 c15 f (e_tb0 c16 f (e_tb0 c17 f (e_tbd rfl f)))))) ?_
                refine e_aldn cd_86_113 g0 ?_
                refine e_ildn cd_86_114 g1 ?_
                refine e_aldn cd_86_115 g0 ?_
                refine e_aldn cd_86_116 g0 ?_
                refine e_ildn cd_86_117 g1 ?_
                refine e_ildn cd_86_118 g2 ?_
                obtain ⟨q30, h31, hs⟩ := k_bind hs
                refine e_cvi cd_86_119 kd_86_384 rfl rfl rfl rfl rfl nl_81 rfl rfl (tie_mo_nodeOf d a0 a1 a2 q11.2 _ h31) ?_
                refine e_const cd_86_122 ci_3 ?_
                obtain ⟨q32, h33, hs⟩ := k_bind hs
                refine e_cvi cd_86_123 kd_86_240 rfl rfl rfl rfl rfl nl_36 rfl rfl (tie_mo_at d a0 q30.1 3 q30.2 _ h33) ?_
                obtain ⟨q34, h35, hs⟩ := k_bind hs
                refine e_cvi cd_86_126 kd_86_245 rfl rfl rfl rfl rfl nl_41 rfl rfl (tie_mo_isNull d a0 a1 q32.1 q32.2 _ h35) ?_
                refine k_if hs (fun c36 hs => ?_) (fun c36 hs => ?_)
                · refine e_izJ cd_86_129 rfl c36 ?_
                  refine e_const cd_86_136 ci_0 ?_
                  exact tie_mo_counted_137  d  0 q34.2 so _  hs
                · refine e_izN cd_86_129 rfl c36 ?_
                  refine e_const cd_86_132 ci_1 ?_
                  refine e_goto cd_86_133 rfl ?_
                  exact tie_mo_counted_137  d  1 q34.2 so _  hs
theorem tie_mo_counted (d : Nat) (a0 : Nat) (a1 : Int32) (a2 : Int32) (a3 : Int32) (M : zM) (so : Int32 × zM) (hs : mo_counted d a0 a1 a2 a3 M = some so) : Ev zq_T d 86 0 (zl_args 0 [.inr (.inr (12, some a0)), .inl a1, .inl a2, .inl a3]) [] M (some (.inl so.1), so.2) := by
  cases d with
  | zero => exact nomatch hs
  | succ d => exact tieb_mo_counted d a0 a1 a2 a3 M so hs
theorem tie_mo_any_43  (d : Nat)   (M : zM) (so : Int32 × zM) (ls : List (Nat × zV))  (hs : mo_any_43  d  M = some so) : Ev zq_T (d + 1) 87 43 ls [] M (some (.inl so.1), so.2) := by
  unfold mo_any_43 at hs
  refine e_const cd_87_43 ci_m1 ?_
  have e := Option.some.inj hs
  subst e
  exact e_ri cd_87_44 nr_87
theorem tie_mo_any_110  (d : Nat)  (s0 : Int32) (M : zM) (so : Int32 × zM) (ls : List (Nat × zV))  (hs : mo_any_110  d s0 M = some so) : Ev zq_T (d + 1) 87 110 ls [.inl s0] M (some (.inl so.1), so.2) := by
  unfold mo_any_110 at hs
  have e := Option.some.inj hs
  subst e
  exact e_ri cd_87_110 nr_87
theorem tie_mo_any_65  (d : Nat)  : ∀ (fuel : Nat) (t0 : Nat) (v1 : Int32) (v3 : Int32) (v4 : Int32) (v5 : Int32) (M : zM) (so : Int32 × zM) (ls : List (Nat × zV)), zl_get ls 0 = some (.inr (.inr (12, (some t0)))) → zl_get ls 1 = some (.inl v1) → zl_get ls 3 = some (.inl v3) → zl_get ls 4 = some (.inl v4) → zl_get ls 5 = some (.inl v5) → mo_any_65  d fuel t0 v1 v3 v4 v5 M = some so → Ev zq_T (d + 1) 87 65 ls [] M (some (.inl so.1), so.2) := by
  intro fuel
  induction fuel with
  | zero => intro t0 v1 v3 v4 v5 M so ls g0 g1 g3 g4 g5 hs; exact nomatch hs
  | succ fuel ih =>
    intro t0 v1 v3 v4 v5 M so ls g0 g1 g3 g4 g5 hs
    unfold mo_any_65 at hs
    refine e_ild cd_87_65 g5 ?_
    refine e_const cd_87_67 ci_m1 ?_
    refine k_if hs (fun c1 hs => ?_) (fun c1 hs => ?_)
    · refine e_icJ cd_87_68 rfl c1 ?_
      refine e_ildn cd_87_100 g3 ?_
      refine k_if hs (fun c2 hs => ?_) (fun c2 hs => ?_)
      · refine e_izN cd_87_101 rfl (fun q => q c2) ?_
        refine e_ild cd_87_104 g4 ?_
        refine e_goto cd_87_106 rfl ?_
        exact tie_mo_any_110  d  v4 M so _  hs
      · refine e_izJ cd_87_101 rfl c2 ?_
        refine e_const cd_87_109 ci_m1 ?_
        exact tie_mo_any_110  d  (-1) M so _  hs
    · refine e_icN cd_87_68 rfl c1 ?_
      refine k_let hs (fun x3 e4 hs => ?_)
      refine e_incK cd_87_71 nl_87 rfl g4 ci_1 e4 ?_
      intro _ gn kp
      have u5 := kp 0 _ g0 rfl rfl
      have u6 := kp 1 _ g1 rfl rfl
      have u7 := kp 3 _ g3 rfl rfl
      have u8 := kp 5 _ g5 rfl rfl
      have u9 := gn
      refine e_ild cd_87_74 u9 ?_
      refine e_ildn cd_87_76 u7 ?_
      refine k_if hs (fun c10 hs => ?_) (fun c10 hs => ?_)
      · refine e_icN cd_87_77 rfl (fun q => q c10) ?_
        refine e_aldn cd_87_80 u5 ?_
        refine e_ildn cd_87_81 u6 ?_
        refine e_ild cd_87_82 u8 ?_
        obtain ⟨q11, h12, hs⟩ := k_bind hs
        refine e_cvi cd_87_84 kd_87_404 rfl rfl rfl rfl rfl nl_79 rfl rfl (tie_mo_inside d t0 v1 v5 M _ h12) ?_
        have e := Option.some.inj hs
        subst e
        exact e_ri cd_87_87 nr_87
      · refine e_icJ cd_87_77 rfl c10 ?_
        refine e_aldn cd_87_88 u5 ?_
        refine e_ild cd_87_89 u8 ?_
        refine e_const cd_87_91 ci_4 ?_
        obtain ⟨q13, h14, hs⟩ := k_bind hs
        refine e_cvi cd_87_92 kd_87_240 rfl rfl rfl rfl rfl nl_36 rfl rfl (tie_mo_at d t0 v5 4 M _ h14) ?_
        refine e_iK cd_87_95 nl_87 rfl rfl ?_
        intro _ gn kp
        have u15 := kp 0 _ u5 rfl rfl
        have u16 := kp 1 _ u6 rfl rfl
        have u17 := kp 3 _ u7 rfl rfl
        have u18 := kp 4 _ u9 rfl rfl
        have u19 := gn
        refine e_goto cd_87_97 rfl ?_
        exact ih t0 v1 v3 x3 q13.1 q13.2 so _ u15 u16 u17 u18 u19 hs
theorem tieb_mo_any  (d : Nat)  (a0 : Nat) (a1 : Int32) (a2 : Int32) (a3 : Int32) (M : zM) (so : Int32 × zM) (hs : mo_any_b  d a0 a1 a2 a3 M = some so) : Ev zq_T (d + 1) 87 0 (zl_args 0 [.inr (.inr (12, some a0)), .inl a1, .inl a2, .inl a3]) [] M (some (.inl so.1), so.2) := by
  unfold mo_any_b at hs
  have g0 : zl_get (zl_args 0 [.inr (.inr (12, some a0)), .inl a1, .inl a2, .inl a3]) 0 = some (.inr (.inr (12, (some a0)))) := rfl
  have g1 : zl_get (zl_args 0 [.inr (.inr (12, some a0)), .inl a1, .inl a2, .inl a3]) 1 = some (.inl a1) := rfl
  have g2 : zl_get (zl_args 0 [.inr (.inr (12, some a0)), .inl a1, .inl a2, .inl a3]) 2 = some (.inl a2) := rfl
  have g3 : zl_get (zl_args 0 [.inr (.inr (12, some a0)), .inl a1, .inl a2, .inl a3]) 3 = some (.inl a3) := rfl
  refine e_aldn cd_87_0 g0 ?_
  refine e_const cd_87_1 ci_0 ?_
  refine k_let hs (fun M1 e2 hs => ?_)
  refine e_putI cd_87_2 pd_87_114 rfl e2 ?_
  refine e_aldn cd_87_5 g0 ?_
  refine e_ildn cd_87_6 g1 ?_
  obtain ⟨q3, h4, hs⟩ := k_bind hs
  refine e_cvi cd_87_7 kd_87_357 rfl rfl rfl rfl rfl nl_34 rfl rfl (tie_mo_isRule d a0 a1 M1 _ h4) ?_
  refine k_if hs (fun c5 hs => ?_) (fun c5 hs => ?_)
  · refine e_izJ cd_87_10 rfl c5 ?_
    exact tie_mo_any_43  d   q3.2 so _  hs
  · refine e_izN cd_87_10 rfl c5 ?_
    refine e_ildn cd_87_13 g2 ?_
    refine e_pure cd_87_14 rfl ?_
    refine e_lcon cd_87_15 cl_0 ?_
    refine e_aldn cd_87_16 g0 ?_
    refine e_ildn cd_87_17 g1 ?_
    refine e_const cd_87_18 ci_4 ?_
    obtain ⟨q6, h7, hs⟩ := k_bind hs
    refine e_cvi cd_87_19 kd_87_258 rfl rfl rfl rfl rfl nl_35 rfl rfl (tie_mo_of d a0 a1 4 q3.2 _ h7) ?_
    refine e_const cd_87_22 ci_1 ?_
    refine e_pure cd_87_23 rfl ?_
    refine e_pure cd_87_24 rfl ?_
    obtain ⟨q8, h9, hs⟩ := k_bind hs
    refine e_cst cd_87_25 kd_87_204 rfl rfl rfl nl_2 rfl rfl (tie_mo_isIn d a2.toInt64 0 ((q6.1 - 1).toInt64) q6.2 _ h9) ?_
    refine k_if hs (fun c10 hs => ?_) (fun c10 hs => ?_)
    · refine e_izJ cd_87_28 rfl c10 ?_
      exact tie_mo_any_43  d   q8.2 so _  hs
    · refine e_izN cd_87_28 rfl c10 ?_
      refine e_ildn cd_87_31 g3 ?_
      refine e_pure cd_87_32 rfl ?_
      refine e_lcon cd_87_33 cl_0 ?_
      refine e_ld2 cd_87_34 od_87_402 ?_
      obtain ⟨q11, h12, hs⟩ := k_bind hs
      refine e_cst cd_87_37 kd_87_204 rfl rfl rfl nl_2 rfl rfl (tie_mo_isIn d a3.toInt64 0 4 q8.2 _ h12) ?_
      refine k_if hs (fun c13 hs => ?_) (fun c13 hs => ?_)
      · refine e_izN cd_87_40 rfl (fun q => q c13) ?_
        exact tie_mo_any_43  d   q11.2 so _  hs
      · refine e_izJ cd_87_40 rfl c13 ?_
        refine e_const cd_87_45 ci_0 ?_
        refine e_iK cd_87_46 nl_87 rfl rfl ?_
        intro _ gn kp
        have u14 := kp 0 _ g0 rfl rfl
        have u15 := kp 1 _ g1 rfl rfl
        have u16 := kp 2 _ g2 rfl rfl
        have u17 := kp 3 _ g3 rfl rfl
        have u18 := gn
        refine e_aldn cd_87_48 u14 ?_
        refine e_aldn cd_87_49 u14 ?_
        refine e_getR cd_87_50 fd_87_38 rfl ?_
        refine e_const cd_87_53 ci_4 ?_
        refine e_ildn cd_87_54 u15 ?_
        refine e_pure cd_87_55 rfl ?_
        refine e_ildn cd_87_56 u16 ?_
        refine e_pure cd_87_57 rfl ?_
        refine k_opt hs (fun _ q => nomatch q) (fun k19 h20 hs => ?_)
        obtain ⟨c21, hs⟩ := z_ite hs
        refine e_iald cd_87_58 rfl h20 c21 ?_
        refine e_const cd_87_59 ci_3 ?_
        obtain ⟨q22, h23, hs⟩ := k_bind hs
        refine e_cvi cd_87_60 kd_87_240 rfl rfl rfl rfl rfl nl_36 rfl rfl (tie_mo_at d a0 (zm_I q11.2 20 k19 ((4 * a1) + a2).toNatClampNeg) 3 q11.2 _ h23) ?_
        refine e_iK cd_87_63 nl_87 rfl rfl ?_
        intro _ gn kp
        have u24 := kp 0 _ u14 rfl rfl
        have u25 := kp 1 _ u15 rfl rfl
        have u26 := kp 3 _ u17 rfl rfl
        have u27 := kp 4 _ u18 rfl rfl
        have u28 := gn
        exact tie_mo_any_65  d  zLF a0 a1 a3 0 q22.1 q22.2 so _ u24 u25 u26 u27 u28 hs
theorem tie_mo_any (d : Nat) (a0 : Nat) (a1 : Int32) (a2 : Int32) (a3 : Int32) (M : zM) (so : Int32 × zM) (hs : mo_any d a0 a1 a2 a3 M = some so) : Ev zq_T d 87 0 (zl_args 0 [.inr (.inr (12, some a0)), .inl a1, .inl a2, .inl a3]) [] M (some (.inl so.1), so.2) := by
  cases d with
  | zero => exact nomatch hs
  | succ d => exact tieb_mo_any d a0 a1 a2 a3 M so hs
theorem tie_mo_shortest2_36  (d : Nat)  (s0 : Int32) (M : zM) (so : Int32 × zM) (ls : List (Nat × zV))  (hs : mo_shortest2_36  d s0 M = some so) : Ev zq_T (d + 1) 88 36 ls [.inl s0] M (some (.inl so.1), so.2) := by
  unfold mo_shortest2_36 at hs
  have e := Option.some.inj hs
  subst e
  exact e_ri cd_88_36 nr_88
theorem tie_mo_shortest2_35  (d : Nat)   (M : zM) (so : Int32 × zM) (ls : List (Nat × zV))  (hs : mo_shortest2_35  d  M = some so) : Ev zq_T (d + 1) 88 35 ls [] M (some (.inl so.1), so.2) := by
  unfold mo_shortest2_35 at hs
  refine e_const cd_88_35 ci_m1 ?_
  exact tie_mo_shortest2_36  d  (-1) M so _  hs
theorem tieb_mo_shortest2  (d : Nat)  (a0 : Nat) (a1 : Int32) (a2 : Int32) (M : zM) (so : Int32 × zM) (hs : mo_shortest2_b  d a0 a1 a2 M = some so) : Ev zq_T (d + 1) 88 0 (zl_args 0 [.inr (.inr (12, some a0)), .inl a1, .inl a2]) [] M (some (.inl so.1), so.2) := by
  unfold mo_shortest2_b at hs
  have g0 : zl_get (zl_args 0 [.inr (.inr (12, some a0)), .inl a1, .inl a2]) 0 = some (.inr (.inr (12, (some a0)))) := rfl
  have g1 : zl_get (zl_args 0 [.inr (.inr (12, some a0)), .inl a1, .inl a2]) 1 = some (.inl a1) := rfl
  have g2 : zl_get (zl_args 0 [.inr (.inr (12, some a0)), .inl a1, .inl a2]) 2 = some (.inl a2) := rfl
  refine e_aldn cd_88_0 g0 ?_
  refine e_const cd_88_1 ci_0 ?_
  refine k_let hs (fun M1 e2 hs => ?_)
  refine e_putI cd_88_2 pd_88_114 rfl e2 ?_
  refine e_aldn cd_88_5 g0 ?_
  refine e_ildn cd_88_6 g1 ?_
  obtain ⟨q3, h4, hs⟩ := k_bind hs
  refine e_cvi cd_88_7 kd_88_357 rfl rfl rfl rfl rfl nl_34 rfl rfl (tie_mo_isRule d a0 a1 M1 _ h4) ?_
  refine k_if hs (fun c5 hs => ?_) (fun c5 hs => ?_)
  · refine e_izJ cd_88_10 rfl c5 ?_
    exact tie_mo_shortest2_35  d   q3.2 so _  hs
  · refine e_izN cd_88_10 rfl c5 ?_
    refine e_ildn cd_88_13 g2 ?_
    refine k_if hs (fun c6 hs => ?_) (fun c6 hs => ?_)
    · refine e_izJ cd_88_14 rfl c6 ?_
      exact tie_mo_shortest2_35  d   q3.2 so _  hs
    · refine e_izN cd_88_14 rfl c6 ?_
      refine e_ildn cd_88_17 g2 ?_
      refine e_aldn cd_88_18 g0 ?_
      refine e_ildn cd_88_19 g1 ?_
      obtain ⟨q7, h8, hs⟩ := k_bind hs
      refine e_cvi cd_88_20 kd_88_375 rfl rfl rfl rfl rfl nl_66 rfl rfl (tie_mo_wordOf d a0 a1 q3.2 _ h8) ?_
      refine k_if hs (fun c9 hs => ?_) (fun c9 hs => ?_)
      · refine e_icJ cd_88_23 rfl c9 ?_
        exact tie_mo_shortest2_35  d   q7.2 so _  hs
      · refine e_icN cd_88_23 rfl c9 ?_
        refine e_aldn cd_88_26 g0 ?_
        refine e_getR cd_88_27 fd_88_62 rfl ?_
        refine e_ildn cd_88_30 g2 ?_
        refine k_opt hs (fun _ q => nomatch q) (fun k10 h11 hs => ?_)
        obtain ⟨c12, hs⟩ := z_ite hs
        refine e_bald cd_88_31 rfl h11 c12 ?_
        refine e_goto cd_88_32 rfl ?_
        exact tie_mo_shortest2_36  d  (zm_I q7.2 22 k10 (a2 : Int32).toNatClampNeg) q7.2 so _  hs
theorem tie_mo_shortest2 (d : Nat) (a0 : Nat) (a1 : Int32) (a2 : Int32) (M : zM) (so : Int32 × zM) (hs : mo_shortest2 d a0 a1 a2 M = some so) : Ev zq_T d 88 0 (zl_args 0 [.inr (.inr (12, some a0)), .inl a1, .inl a2]) [] M (some (.inl so.1), so.2) := by
  cases d with
  | zero => exact nomatch hs
  | succ d => exact tieb_mo_shortest2 d a0 a1 a2 M so hs
theorem tie_mo_begins_24 (kl2 : Nat → Int32 → Int32 → zM → Option (zM)) (d : Nat) (hk2 : ∀ (t0 : Nat) (v1 : Int32) (v2 : Int32) (M : zM) (so : zM) (ls : List (Nat × zV)), zl_get ls 0 = some (.inr (.inr (12, (some t0)))) → zl_get ls 1 = some (.inl v1) → zl_get ls 2 = some (.inl v2) → kl2 t0 v1 v2 M = some so → Ev zq_T d 89 2 ls [] M (none, so)) (t0 : Nat) (v1 : Int32) (v2 : Int32) (s0 : Option Nat) (s1 : Int32) (s2 : Int32) (M : zM) (so : zM) (ls : List (Nat × zV)) (g0 : zl_get ls 0 = some (.inr (.inr (12, (some t0))))) (g1 : zl_get ls 1 = some (.inl v1)) (g2 : zl_get ls 2 = some (.inl v2)) (hs : mo_begins_24 kl2 d t0 v1 v2 s0 s1 s2 M = some so) : Ev zq_T d 89 24 ls [.inl s2, .inl s1, .inr (.inr (20, s0))] M (none, so) := by
  unfold mo_begins_24 at hs
  refine k_opt hs (fun _ q => nomatch q) (fun k1 h2 hs => ?_)
  obtain ⟨c3, hs⟩ := z_ite hs
  refine k_let hs (fun M4 e5 hs => ?_)
  refine e_iast cd_89_24 rfl h2 c3 e5 ?_
  refine k_let hs (fun x6 e7 hs => ?_)
  refine e_incK cd_89_25 nl_89 rfl g2 ci_1 e7 ?_
  intro _ gn kp
  have u8 := kp 0 _ g0 rfl rfl
  have u9 := kp 1 _ g1 rfl rfl
  have u10 := gn
  refine e_goto cd_89_28 rfl ?_
  exact hk2 t0 v1 x6 M4 so _ u8 u9 u10 hs
theorem tie_mo_begins_2  (d : Nat)  : ∀ (fuel : Nat) (t0 : Nat) (v1 : Int32) (v2 : Int32) (M : zM) (so : zM) (ls : List (Nat × zV)), zl_get ls 0 = some (.inr (.inr (12, (some t0)))) → zl_get ls 1 = some (.inl v1) → zl_get ls 2 = some (.inl v2) → mo_begins_2  d fuel t0 v1 v2 M = some so → Ev zq_T d 89 2 ls [] M (none, so) := by
  intro fuel
  induction fuel with
  | zero => intro t0 v1 v2 M so ls g0 g1 g2 hs; exact nomatch hs
  | succ fuel ih =>
    intro t0 v1 v2 M so ls g0 g1 g2 hs
    unfold mo_begins_2 at hs
    refine e_ildn cd_89_2 g2 ?_
    refine e_bip cd_89_3 cb_13 ?_
    refine k_if hs (fun c1 hs => ?_) (fun c1 hs => ?_)
    · refine e_icJ cd_89_5 rfl c1 ?_
      have e := Option.some.inj hs
      subst e
      exact e_rv cd_89_31 nr_89
    · refine e_icN cd_89_5 rfl c1 ?_
      refine e_aldn cd_89_8 g0 ?_
      refine e_getR cd_89_9 fd_89_81 rfl ?_
      refine e_ildn cd_89_12 g1 ?_
      refine e_ildn cd_89_13 g2 ?_
      refine e_pure cd_89_14 rfl ?_
      refine e_ildn cd_89_15 g2 ?_
      refine k_if hs (fun c2 hs => ?_) (fun c2 hs => ?_)
      · refine e_izN cd_89_16 rfl (fun q => q c2) ?_
        refine e_const cd_89_19 ci_m1 ?_
        refine e_goto cd_89_20 rfl ?_
        exact tie_mo_begins_24 (fun p0 p1 p2 m => mo_begins_2  d fuel p0 p1 p2 m) d ih t0 v1 v2 (zm_R M 12 t0 34) (v1 + v2) (-1) M so _ g0 g1 g2 hs
      · refine e_izJ cd_89_16 rfl c2 ?_
        refine e_const cd_89_23 ci_0 ?_
        exact tie_mo_begins_24 (fun p0 p1 p2 m => mo_begins_2  d fuel p0 p1 p2 m) d ih t0 v1 v2 (zm_R M 12 t0 34) (v1 + v2) 0 M so _ g0 g1 g2 hs
theorem tie_mo_begins (d : Nat) (a0 : Nat) (a1 : Int32) (M : zM) (so : zM) (hs : mo_begins d a0 a1 M = some so) : Ev zq_T d 89 0 (zl_args 0 [.inr (.inr (12, some a0)), .inl a1]) [] M (none, so) := by
  unfold mo_begins at hs
  have g0 : zl_get (zl_args 0 [.inr (.inr (12, some a0)), .inl a1]) 0 = some (.inr (.inr (12, (some a0)))) := rfl
  have g1 : zl_get (zl_args 0 [.inr (.inr (12, some a0)), .inl a1]) 1 = some (.inl a1) := rfl
  refine e_const cd_89_0 ci_0 ?_
  refine e_iKn cd_89_1 nl_89 rfl rfl ?_
  intro _ gn kp
  have u1 := kp 0 _ g0 rfl rfl
  have u2 := kp 1 _ g1 rfl rfl
  have u3 := gn
  exact tie_mo_begins_2  d  zLF a0 a1 0 M so _ u1 u2 u3 hs
theorem tieb_mo_timesIn  (d : Nat)  (a0 : Nat) (a1 : Int32) (a2 : Int32) (M : zM) (so : Int32 × zM) (hs : mo_timesIn_b  d a0 a1 a2 M = some so) : Ev zq_T (d + 1) 90 0 (zl_args 0 [.inr (.inr (12, some a0)), .inl a1, .inl a2]) [] M (some (.inl so.1), so.2) := by
  unfold mo_timesIn_b at hs
  have g0 : zl_get (zl_args 0 [.inr (.inr (12, some a0)), .inl a1, .inl a2]) 0 = some (.inr (.inr (12, (some a0)))) := rfl
  have g1 : zl_get (zl_args 0 [.inr (.inr (12, some a0)), .inl a1, .inl a2]) 1 = some (.inl a1) := rfl
  have g2 : zl_get (zl_args 0 [.inr (.inr (12, some a0)), .inl a1, .inl a2]) 2 = some (.inl a2) := rfl
  refine e_aldn cd_90_0 g0 ?_
  refine e_getR cd_90_1 fd_90_81 rfl ?_
  refine e_ildn cd_90_4 g1 ?_
  refine e_const cd_90_5 ci_1 ?_
  refine e_pure cd_90_6 rfl ?_
  refine e_aldn cd_90_7 g0 ?_
  refine e_ildn cd_90_8 g2 ?_
  refine e_const cd_90_9 ci_1 ?_
  obtain ⟨q1, h2, hs⟩ := k_bind hs
  refine e_cvi cd_90_10 kd_90_240 rfl rfl rfl rfl rfl nl_36 rfl rfl (tie_mo_at d a0 a2 1 M _ h2) ?_
  refine e_pure cd_90_13 rfl ?_
  refine k_opt hs (fun _ q => nomatch q) (fun k3 h4 hs => ?_)
  obtain ⟨c5, hs⟩ := z_ite hs
  refine e_iald cd_90_14 rfl h4 c5 ?_
  have e := Option.some.inj hs
  subst e
  exact e_ri cd_90_15 nr_90
theorem tie_mo_timesIn (d : Nat) (a0 : Nat) (a1 : Int32) (a2 : Int32) (M : zM) (so : Int32 × zM) (hs : mo_timesIn d a0 a1 a2 M = some so) : Ev zq_T d 90 0 (zl_args 0 [.inr (.inr (12, some a0)), .inl a1, .inl a2]) [] M (some (.inl so.1), so.2) := by
  cases d with
  | zero => exact nomatch hs
  | succ d => exact tieb_mo_timesIn d a0 a1 a2 M so hs
theorem tieb_mo_setIn  (d : Nat)  (a0 : Nat) (a1 : Int32) (a2 : Int32) (M : zM) (so : Int32 × zM) (hs : mo_setIn_b  d a0 a1 a2 M = some so) : Ev zq_T (d + 1) 91 0 (zl_args 0 [.inr (.inr (12, some a0)), .inl a1, .inl a2]) [] M (some (.inl so.1), so.2) := by
  unfold mo_setIn_b at hs
  have g0 : zl_get (zl_args 0 [.inr (.inr (12, some a0)), .inl a1, .inl a2]) 0 = some (.inr (.inr (12, (some a0)))) := rfl
  have g1 : zl_get (zl_args 0 [.inr (.inr (12, some a0)), .inl a1, .inl a2]) 1 = some (.inl a1) := rfl
  have g2 : zl_get (zl_args 0 [.inr (.inr (12, some a0)), .inl a1, .inl a2]) 2 = some (.inl a2) := rfl
  refine e_aldn cd_91_0 g0 ?_
  refine e_getR cd_91_1 fd_91_81 rfl ?_
  refine e_ildn cd_91_4 g1 ?_
  refine e_bip cd_91_5 cb_9 ?_
  refine e_pure cd_91_7 rfl ?_
  refine e_aldn cd_91_8 g0 ?_
  refine e_ildn cd_91_9 g2 ?_
  refine e_const cd_91_10 ci_1 ?_
  obtain ⟨q1, h2, hs⟩ := k_bind hs
  refine e_cvi cd_91_11 kd_91_240 rfl rfl rfl rfl rfl nl_36 rfl rfl (tie_mo_at d a0 a2 1 M _ h2) ?_
  refine e_pure cd_91_14 rfl ?_
  refine k_opt hs (fun _ q => nomatch q) (fun k3 h4 hs => ?_)
  obtain ⟨c5, hs⟩ := z_ite hs
  refine e_iald cd_91_15 rfl h4 c5 ?_
  have e := Option.some.inj hs
  subst e
  exact e_ri cd_91_16 nr_91
theorem tie_mo_setIn (d : Nat) (a0 : Nat) (a1 : Int32) (a2 : Int32) (M : zM) (so : Int32 × zM) (hs : mo_setIn d a0 a1 a2 M = some so) : Ev zq_T d 91 0 (zl_args 0 [.inr (.inr (12, some a0)), .inl a1, .inl a2]) [] M (some (.inl so.1), so.2) := by
  cases d with
  | zero => exact nomatch hs
  | succ d => exact tieb_mo_setIn d a0 a1 a2 M so hs
theorem tie_mo_canLeave_49  (d : Nat)  (s0 : Int32) (M : zM) (so : Int32 × zM) (ls : List (Nat × zV))  (hs : mo_canLeave_49  d s0 M = some so) : Ev zq_T (d + 1) 92 49 ls [.inl s0] M (some (.inl so.1), so.2) := by
  unfold mo_canLeave_49 at hs
  obtain ⟨c1, hs⟩ := z_ite hs
  have e := Option.some.inj hs
  subst e
  exact e_rz cd_92_49 nr_92 c1
theorem tie_mo_canLeave_44  (d : Nat)   (M : zM) (so : Int32 × zM) (ls : List (Nat × zV))  (hs : mo_canLeave_44  d  M = some so) : Ev zq_T (d + 1) 92 44 ls [] M (some (.inl so.1), so.2) := by
  unfold mo_canLeave_44 at hs
  refine e_const cd_92_44 ci_1 ?_
  refine e_goto cd_92_45 rfl ?_
  exact tie_mo_canLeave_49  d  1 M so _  hs
theorem tie_mo_canLeave_105 (kl73 : Nat → Int32 → Int32 → Int32 → Int32 → Int32 → zM → Option (Int32 × zM)) (d : Nat) (hk73 : ∀ (t0 : Nat) (v1 : Int32) (v2 : Int32) (v3 : Int32) (v4 : Int32) (v5 : Int32) (M : zM) (so : Int32 × zM) (ls : List (Nat × zV)), zl_get ls 0 = some (.inr (.inr (12, (some t0)))) → zl_get ls 1 = some (.inl v1) → zl_get ls 2 = some (.inl v2) → zl_get ls 3 = some (.inl v3) → zl_get ls 4 = some (.inl v4) → zl_get ls 5 = some (.inl v5) → kl73 t0 v1 v2 v3 v4 v5 M = some so → Ev zq_T (d + 1) 92 73 ls [] M (some (.inl so.1), so.2)) (t0 : Nat) (v1 : Int32) (v2 : Int32) (v3 : Int32) (v4 : Int32) (v5 : Int32) (M : zM) (so : Int32 × zM) (ls : List (Nat × zV)) (g0 : zl_get ls 0 = some (.inr (.inr (12, (some t0))))) (g1 : zl_get ls 1 = some (.inl v1)) (g2 : zl_get ls 2 = some (.inl v2)) (g3 : zl_get ls 3 = some (.inl v3)) (g4 : zl_get ls 4 = some (.inl v4)) (g5 : zl_get ls 5 = some (.inl v5)) (hs : mo_canLeave_105 kl73 d t0 v1 v2 v3 v4 v5 M = some so) : Ev zq_T (d + 1) 92 105 ls [] M (some (.inl so.1), so.2) := by
  unfold mo_canLeave_105 at hs
  refine k_let hs (fun x1 e2 hs => ?_)
  refine e_incK cd_92_105 nl_92 rfl g4 ci_1 e2 ?_
  intro _ gn kp
  have u3 := kp 0 _ g0 rfl rfl
  have u4 := kp 1 _ g1 rfl rfl
  have u5 := kp 2 _ g2 rfl rfl
  have u6 := kp 3 _ g3 rfl rfl
  have u7 := kp 5 _ g5 rfl rfl
  have u8 := gn
  refine e_aldn cd_92_108 u3 ?_
  refine e_ild cd_92_109 u7 ?_
  refine e_const cd_92_111 ci_4 ?_
  obtain ⟨q9, h10, hs⟩ := k_bind hs
  refine e_cvi cd_92_112 kd_92_240 rfl rfl rfl rfl rfl nl_36 rfl rfl (tie_mo_at d t0 v5 4 M _ h10) ?_
  refine e_iK cd_92_115 nl_92 rfl rfl ?_
  intro _ gn kp
  have u11 := kp 0 _ u3 rfl rfl
  have u12 := kp 1 _ u4 rfl rfl
  have u13 := kp 2 _ u5 rfl rfl
  have u14 := kp 3 _ u6 rfl rfl
  have u15 := kp 4 _ u8 rfl rfl
  have u16 := gn
  refine e_goto cd_92_117 rfl ?_
  exact hk73 t0 v1 v2 v3 x1 q9.1 q9.2 so _ u11 u12 u13 u14 u15 u16 hs
theorem tie_mo_canLeave_73  (d : Nat)  : ∀ (fuel : Nat) (t0 : Nat) (v1 : Int32) (v2 : Int32) (v3 : Int32) (v4 : Int32) (v5 : Int32) (M : zM) (so : Int32 × zM) (ls : List (Nat × zV)), zl_get ls 0 = some (.inr (.inr (12, (some t0)))) → zl_get ls 1 = some (.inl v1) → zl_get ls 2 = some (.inl v2) → zl_get ls 3 = some (.inl v3) → zl_get ls 4 = some (.inl v4) → zl_get ls 5 = some (.inl v5) → mo_canLeave_73  d fuel t0 v1 v2 v3 v4 v5 M = some so → Ev zq_T (d + 1) 92 73 ls [] M (some (.inl so.1), so.2) := by
  intro fuel
  induction fuel with
  | zero => intro t0 v1 v2 v3 v4 v5 M so ls g0 g1 g2 g3 g4 g5 hs; exact nomatch hs
  | succ fuel ih =>
    intro t0 v1 v2 v3 v4 v5 M so ls g0 g1 g2 g3 g4 g5 hs
    unfold mo_canLeave_73 at hs
    refine e_ild cd_92_73 g5 ?_
    refine e_const cd_92_75 ci_m1 ?_
    refine k_if hs (fun c1 hs => ?_) (fun c1 hs => ?_)
    · refine e_icJ cd_92_76 rfl c1 ?_
      refine e_const cd_92_120 ci_1 ?_
      have e := Option.some.inj hs
      subst e
      exact e_rz cd_92_121 nr_92 (Or.inr rfl)
    · refine e_icN cd_92_76 rfl c1 ?_
      refine e_aldn cd_92_79 g0 ?_
      refine e_ildn cd_92_80 g2 ?_
      refine e_ildn cd_92_81 g3 ?_
      obtain ⟨q2, h3, hs⟩ := k_bind hs
      refine e_cvi cd_92_82 kd_92_410 rfl rfl rfl rfl rfl nl_91 rfl rfl (tie_mo_setIn d t0 v2 v3 M _ h3) ?_
      refine e_ild cd_92_85 g4 ?_
      obtain ⟨q4, h5, hs⟩ := k_bind hs
      refine e_cst cd_92_87 kd_92_413 rfl rfl rfl nl_3 rfl rfl (tie_mo_has d q2.1 v4 q2.2 _ h5) ?_
      refine k_if hs (fun c6 hs => ?_) (fun c6 hs => ?_)
      · refine e_izN cd_92_90 rfl (fun q => q c6) ?_
        refine e_aldn cd_92_93 g0 ?_
        refine e_ildn cd_92_94 g1 ?_
        refine e_ild cd_92_95 g5 ?_
        obtain ⟨q7, h8, hs⟩ := k_bind hs
        refine e_cvi cd_92_97 kd_92_245 rfl rfl rfl rfl rfl nl_41 rfl rfl (tie_mo_isNull d t0 v1 v5 q4.2 _ h8) ?_
        refine k_if hs (fun c9 hs => ?_) (fun c9 hs => ?_)
        · refine e_izN cd_92_100 rfl (fun q => q c9) ?_
          refine e_const cd_92_103 ci_0 ?_
          have e := Option.some.inj hs
          subst e
          exact e_rz cd_92_104 nr_92 (Or.inl rfl)
        · refine e_izJ cd_92_100 rfl c9 ?_
          exact tie_mo_canLeave_105 (fun p0 p1 p2 p3 p4 p5 m => mo_canLeave_73  d fuel p0 p1 p2 p3 p4 p5 m) d ih t0 v1 v2 v3 v4 v5 q7.2 so _ g0 g1 g2 g3 g4 g5 hs
      · refine e_izJ cd_92_90 rfl c6 ?_
        exact tie_mo_canLeave_105 (fun p0 p1 p2 p3 p4 p5 m => mo_canLeave_73  d fuel p0 p1 p2 p3 p4 p5 m) d ih t0 v1 v2 v3 v4 v5 q4.2 so _ g0 g1 g2 g3 g4 g5 hs
theorem tieb_mo_canLeave  (d : Nat)  (a0 : Nat) (a1 : Int32) (a2 : Int32) (a3 : Int32) (M : zM) (so : Int32 × zM) (hs : mo_canLeave_b  d a0 a1 a2 a3 M = some so) : Ev zq_T (d + 1) 92 0 (zl_args 0 [.inr (.inr (12, some a0)), .inl a1, .inl a2, .inl a3]) [] M (some (.inl so.1), so.2) := by
  unfold mo_canLeave_b at hs
  have g0 : zl_get (zl_args 0 [.inr (.inr (12, some a0)), .inl a1, .inl a2, .inl a3]) 0 = some (.inr (.inr (12, (some a0)))) := rfl
  have g1 : zl_get (zl_args 0 [.inr (.inr (12, some a0)), .inl a1, .inl a2, .inl a3]) 1 = some (.inl a1) := rfl
  have g2 : zl_get (zl_args 0 [.inr (.inr (12, some a0)), .inl a1, .inl a2, .inl a3]) 2 = some (.inl a2) := rfl
  have g3 : zl_get (zl_args 0 [.inr (.inr (12, some a0)), .inl a1, .inl a2, .inl a3]) 3 = some (.inl a3) := rfl
  refine e_aldn cd_92_0 g0 ?_
  refine e_ildn cd_92_1 g3 ?_
  refine e_const cd_92_2 ci_0 ?_
  obtain ⟨q1, h2, hs⟩ := k_bind hs
  refine e_cvi cd_92_3 kd_92_240 rfl rfl rfl rfl rfl nl_36 rfl rfl (tie_mo_at d a0 a3 0 M _ h2) ?_
  refine e_const cd_92_6 ci_5 ?_
  refine k_if hs (fun c3 hs => ?_) (fun c3 hs => ?_)
  · refine e_icN cd_92_7 rfl (fun q => q c3) ?_
    refine e_aldn cd_92_10 g0 ?_
    refine e_ildn cd_92_11 g1 ?_
    refine e_aldn cd_92_12 g0 ?_
    refine e_ildn cd_92_13 g3 ?_
    refine e_const cd_92_14 ci_3 ?_
    obtain ⟨q4, h5, hs⟩ := k_bind hs
    refine e_cvi cd_92_15 kd_92_240 rfl rfl rfl rfl rfl nl_36 rfl rfl (tie_mo_at d a0 a3 3 q1.2 _ h5) ?_
    obtain ⟨q6, h7, hs⟩ := k_bind hs
    refine e_cvi cd_92_18 kd_92_245 rfl rfl rfl rfl rfl nl_41 rfl rfl (tie_mo_isNull d a0 a1 q4.1 q4.2 _ h7) ?_
    refine k_if hs (fun c8 hs => ?_) (fun c8 hs => ?_)
    · refine e_izN cd_92_21 rfl (fun q => q c8) ?_
      refine e_aldn cd_92_24 g0 ?_
      refine e_ildn cd_92_25 g2 ?_
      refine e_ildn cd_92_26 g3 ?_
      obtain ⟨q9, h10, hs⟩ := k_bind hs
      refine e_cvi cd_92_27 kd_92_407 rfl rfl rfl rfl rfl nl_90 rfl rfl (tie_mo_timesIn d a0 a2 a3 q6.2 _ h10) ?_
      refine e_aldn cd_92_30 g0 ?_
      refine e_ildn cd_92_31 g1 ?_
      refine e_aldn cd_92_32 g0 ?_
      refine e_ildn cd_92_33 g3 ?_
      refine e_const cd_92_34 ci_1 ?_
      obtain ⟨q11, h12, hs⟩ := k_bind hs
      refine e_cvi cd_92_35 kd_92_240 rfl rfl rfl rfl rfl nl_36 rfl rfl (tie_mo_at d a0 a3 1 q9.2 _ h12) ?_
      obtain ⟨q13, h14, hs⟩ := k_bind hs
      refine e_cvi cd_92_38 kd_92_242 rfl rfl rfl rfl rfl nl_37 rfl rfl (tie_mo_from d a0 a1 q11.1 q11.2 _ h14) ?_
      refine k_if hs (fun c15 hs => ?_) (fun c15 hs => ?_)
      · refine e_icJ cd_92_41 rfl c15 ?_
        refine e_const cd_92_48 ci_0 ?_
        exact tie_mo_canLeave_49  d  0 q13.2 so _  hs
      · refine e_icN cd_92_41 rfl c15 ?_
        exact tie_mo_canLeave_44  d   q13.2 so _  hs
    · refine e_izJ cd_92_21 rfl c8 ?_
      exact tie_mo_canLeave_44  d   q6.2 so _  hs
  · refine e_icJ cd_92_7 rfl c3 ?_
    refine e_aldn cd_92_50 g0 ?_
    refine e_ildn cd_92_51 g3 ?_
    refine e_const cd_92_52 ci_0 ?_
    obtain ⟨q16, h17, hs⟩ := k_bind hs
    refine e_cvi cd_92_53 kd_92_240 rfl rfl rfl rfl rfl nl_36 rfl rfl (tie_mo_at d a0 a3 0 q1.2 _ h17) ?_
    refine e_const cd_92_56 ci_4 ?_
    refine k_if hs (fun c18 hs => ?_) (fun c18 hs => ?_)
    · refine e_icJ cd_92_57 rfl c18 ?_
      refine e_const cd_92_62 ci_0 ?_
      refine e_iK cd_92_63 nl_92 rfl rfl ?_
      intro _ gn kp
      have u19 := kp 0 _ g0 rfl rfl
      have u20 := kp 1 _ g1 rfl rfl
      have u21 := kp 2 _ g2 rfl rfl
      have u22 := kp 3 _ g3 rfl rfl
      have u23 := gn
      refine e_aldn cd_92_65 u19 ?_
      refine e_ildn cd_92_66 u22 ?_
      refine e_const cd_92_67 ci_3 ?_
      obtain ⟨q24, h25, hs⟩ := k_bind hs
      refine e_cvi cd_92_68 kd_92_240 rfl rfl rfl rfl rfl nl_36 rfl rfl (tie_mo_at d a0 a3 3 q16.2 _ h25) ?_
      refine e_iK cd_92_71 nl_92 rfl rfl ?_
      intro _ gn kp
      have u26 := kp 0 _ u19 rfl rfl
      have u27 := kp 1 _ u20 rfl rfl
      have u28 := kp 2 _ u21 rfl rfl
      have u29 := kp 3 _ u22 rfl rfl
      have u30 := kp 4 _ u23 rfl rfl
      have u31 := gn
      exact tie_mo_canLeave_73  d  zLF a0 a1 a2 a3 0 q24.1 q24.2 so _ u26 u27 u28 u29 u30 u31 hs
    · refine e_icN cd_92_57 rfl c18 ?_
      refine e_const cd_92_60 ci_1 ?_
      have e := Option.some.inj hs
      subst e
      exact e_rz cd_92_61 nr_92 (Or.inr rfl)
theorem tie_mo_canLeave (d : Nat) (a0 : Nat) (a1 : Int32) (a2 : Int32) (a3 : Int32) (M : zM) (so : Int32 × zM) (hs : mo_canLeave d a0 a1 a2 a3 M = some so) : Ev zq_T d 92 0 (zl_args 0 [.inr (.inr (12, some a0)), .inl a1, .inl a2, .inl a3]) [] M (some (.inl so.1), so.2) := by
  cases d with
  | zero => exact nomatch hs
  | succ d => exact tieb_mo_canLeave d a0 a1 a2 a3 M so hs
theorem tie_mo_canGo_111  (d : Nat)  (s0 : Int32) (M : zM) (so : Int32 × zM) (ls : List (Nat × zV))  (hs : mo_canGo_111  d s0 M = some so) : Ev zq_T (d + 1) 93 111 ls [.inl s0] M (some (.inl so.1), so.2) := by
  unfold mo_canGo_111 at hs
  obtain ⟨c1, hs⟩ := z_ite hs
  have e := Option.some.inj hs
  subst e
  exact e_rz cd_93_111 nr_93 c1
theorem tie_mo_canGo_164  (d : Nat)  (s0 : Int32) (M : zM) (so : Int32 × zM) (ls : List (Nat × zV))  (hs : mo_canGo_164  d s0 M = some so) : Ev zq_T (d + 1) 93 164 ls [.inl s0] M (some (.inl so.1), so.2) := by
  unfold mo_canGo_164 at hs
  obtain ⟨c1, hs⟩ := z_ite hs
  have e := Option.some.inj hs
  subst e
  exact e_rz cd_93_164 nr_93 c1
theorem tie_mo_canGo_159  (d : Nat)   (M : zM) (so : Int32 × zM) (ls : List (Nat × zV))  (hs : mo_canGo_159  d  M = some so) : Ev zq_T (d + 1) 93 159 ls [] M (some (.inl so.1), so.2) := by
  unfold mo_canGo_159 at hs
  refine e_const cd_93_159 ci_1 ?_
  refine e_goto cd_93_160 rfl ?_
  exact tie_mo_canGo_164  d  1 M so _  hs
theorem tie_mo_canGo_139  (d : Nat)  (t0 : Nat) (v2 : Int32) (v4 : Int32) (s0 : Int32) (M : zM) (so : Int32 × zM) (ls : List (Nat × zV)) (g0 : zl_get ls 0 = some (.inr (.inr (12, (some t0))))) (g2 : zl_get ls 2 = some (.inl v2)) (g4 : zl_get ls 4 = some (.inl v4)) (hs : mo_canGo_139  d t0 v2 v4 s0 M = some so) : Ev zq_T (d + 1) 93 139 ls [.inl s0] M (some (.inl so.1), so.2) := by
  unfold mo_canGo_139 at hs
  refine e_iK cd_93_139 nl_93 rfl rfl ?_
  intro _ gn kp
  have u1 := kp 0 _ g0 rfl rfl
  have u2 := kp 2 _ g2 rfl rfl
  have u3 := kp 4 _ g4 rfl rfl
  have u4 := gn
  refine e_ild cd_93_141 u4 ?_
  refine e_const cd_93_143 ci_m1 ?_
  refine k_if hs (fun c5 hs => ?_) (fun c5 hs => ?_)
  · refine e_icJ cd_93_144 rfl c5 ?_
    exact tie_mo_canGo_159  d   M so _  hs
  · refine e_icN cd_93_144 rfl c5 ?_
    refine e_aldn cd_93_147 u1 ?_
    refine e_ildn cd_93_148 u2 ?_
    refine e_ild cd_93_149 u3 ?_
    obtain ⟨q6, h7, hs⟩ := k_bind hs
    refine e_cvi cd_93_151 kd_93_407 rfl rfl rfl rfl rfl nl_90 rfl rfl (tie_mo_timesIn d t0 v2 v4 M _ h7) ?_
    refine e_ild cd_93_154 u4 ?_
    refine k_if hs (fun c8 hs => ?_) (fun c8 hs => ?_)
    · refine e_icJ cd_93_156 rfl c8 ?_
      refine e_const cd_93_163 ci_0 ?_
      exact tie_mo_canGo_164  d  0 q6.2 so _  hs
    · refine e_icN cd_93_156 rfl c8 ?_
      exact tie_mo_canGo_159  d   q6.2 so _  hs
set_option maxRecDepth 100000 in
theorem tie_mo_canGo_38  (d : Nat)  : ∀ (fuel : Nat) (t0 : Nat) (v1 : Int32) (v2 : Int32) (v3 : Int32) (v4 : Int32) (v5 : Int32) (M : zM) (so : Int32 × zM) (ls : List (Nat × zV)), zl_get ls 0 = some (.inr (.inr (12, (some t0)))) → zl_get ls 1 = some (.inl v1) → zl_get ls 2 = some (.inl v2) → zl_get ls 3 = some (.inl v3) → zl_get ls 4 = some (.inl v4) → zl_get ls 5 = some (.inl v5) → mo_canGo_38  d fuel t0 v1 v2 v3 v4 v5 M = some so → Ev zq_T (d + 1) 93 38 ls [] M (some (.inl so.1), so.2) := by
  intro fuel
  induction fuel with
  | zero => intro t0 v1 v2 v3 v4 v5 M so ls g0 g1 g2 g3 g4 g5 hs; exact nomatch hs
  | succ fuel ih =>
    intro t0 v1 v2 v3 v4 v5 M so ls g0 g1 g2 g3 g4 g5 hs
    unfold mo_canGo_38 at hs
    refine e_ild cd_93_38 g5 ?_
    refine e_ild cd_93_40 g4 ?_
    refine k_if hs (fun c1 hs => ?_) (fun c1 hs => ?_)
    · refine e_icJ cd_93_42 rfl c1 ?_
      refine e_aldn cd_93_70 g0 ?_
      refine e_ild cd_93_71 g4 ?_
      refine e_const cd_93_73 ci_0 ?_
      obtain ⟨q2, h3, hs⟩ := k_bind hs
      refine e_cvi cd_93_74 kd_93_240 rfl rfl rfl rfl rfl nl_36 rfl rfl (tie_mo_at d t0 v4 0 M _ h3) ?_
      refine e_const cd_93_77 ci_4 ?_
      refine k_if hs (fun c4 hs => ?_) (fun c4 hs => ?_)
      · refine e_icN cd_93_78 rfl (fun q => q c4) ?_
        refine e_aldn cd_93_81 g0 ?_
        refine e_ildn cd_93_82 g2 ?_
        refine e_ild cd_93_83 g4 ?_
        obtain ⟨q5, h6, hs⟩ := k_bind hs
        refine e_cvi cd_93_85 kd_93_410 rfl rfl rfl rfl rfl nl_91 rfl rfl (tie_mo_setIn d t0 v2 v4 q2.2 _ h6) ?_
        refine e_aldn cd_93_88 g0 ?_
        refine e_ild cd_93_89 g4 ?_
        refine e_aldn cd_93_91 g0 ?_
        refine e_getR cd_93_92 fd_93_59 rfl ?_
        refine e_ildn cd_93_95 g3 ?_
        refine k_opt hs (fun _ q => nomatch q) (fun k7 h8 hs => ?_)
        obtain ⟨c9, hs⟩ := z_ite hs
        refine e_iald cd_93_96 rfl h8 c9 ?_
        obtain ⟨q10, h11, hs⟩ := k_bind hs
        refine e_cvi cd_93_97 kd_93_419 rfl rfl rfl rfl rfl nl_46 rfl rfl (tie_mo_partOf d t0 v4 (zm_I q5.2 20 k7 (v3 : Int32).toNatClampNeg) q5.2 _ h11) ?_
        obtain ⟨q12, h13, hs⟩ := k_bind hs
        refine e_cst cd_93_100 kd_93_413 rfl rfl rfl nl_3 rfl rfl (tie_mo_has d q5.1 q10.1 q10.2 _ h13) ?_
        refine k_if hs (fun c14 hs => ?_) (fun c14 hs => ?_)
        · refine e_izN cd_93_103 rfl (fun q => q c14) ?_
          refine e_const cd_93_106 ci_1 ?_
          refine e_goto cd_93_107 rfl ?_
          exact tie_mo_canGo_111  d  1 q12.2 so _  hs
        · refine e_izJ cd_93_103 rfl c14 ?_
          refine e_const cd_93_110 ci_0 ?_
          exact tie_mo_canGo_111  d  0 q12.2 so _  hs
      · refine e_icJ cd_93_78 rfl c4 ?_
        refine e_aldn cd_93_112 g0 ?_
        refine e_ild cd_93_113 g4 ?_
        refine e_const cd_93_115 ci_0 ?_
        obtain ⟨q15, h16, hs⟩ := k_bind hs
        refine e_cvi cd_93_116 kd_93_240 rfl rfl rfl rfl rfl nl_36 rfl rfl (tie_mo_at d t0 v4 0 q2.2 _ h16) ?_
        refine e_const cd_93_119 ci_5 ?_
        refine k_if hs (fun c17 hs => ?_) (fun c17 hs => ?_)
        · refine e_icN cd_93_120 rfl (fun q => q c17) ?_
          refine e_aldn cd_93_123 g0 ?_
          refine e_ildn cd_93_124 g1 ?_
          refine e_aldn cd_93_125 g0 ?_
          refine e_ild cd_93_126 g4 ?_
          refine e_const cd_93_128 ci_1 ?_
          obtain ⟨q18, h19, hs⟩ := k_bind hs
          refine e_cvi cd_93_129 kd_93_240 rfl rfl rfl rfl rfl nl_36 rfl rfl (tie_mo_at d t0 v4 1 q15.2 _ h19) ?_
          obtain ⟨q20, h21, hs⟩ := k_bind hs
          refine e_cvi cd_93_132 kd_93_275 rfl rfl rfl rfl rfl nl_38 rfl rfl (tie_mo_to d t0 v1 q18.1 q18.2 _ h21) ?_
          refine e_goto cd_93_135 rfl ?_
          exact tie_mo_canGo_139  d  t0 v2 v4 q20.1 q20.2 so _ g0 g2 g4 hs
        · refine e_icJ cd_93_120 rfl c17 ?_
          refine e_const cd_93_138 ci_m1 ?_
          exact tie_mo_canGo_139  d  t0 v2 v4 (-1) q15.2 so _ g0 g2 g4 hs
    · refine e_icN cd_93_42 rfl c1 ?_
      refine e_aldn cd_93_45 g0 ?_
      refine e_ildn cd_93_46 g1 ?_
      refine e_ildn cd_93_47 g2 ?_
      refine e_ild cd_93_48 g5 ?_
      obtain ⟨q22, h23, hs⟩ := k_bind hs
      refine e_cvi cd_93_50 kd_93_416 rfl rfl rfl rfl rfl nl_92 rfl rfl (tie_mo_canLeave d t0 v1 v2 v5 M _ h23) ?_
      refine k_if hs (fun c24 hs => ?_) (fun c24 hs => ?_)
      · refine e_izN cd_93_53 rfl (fun q => q c24) ?_
        refine e_const cd_93_56 ci_0 ?_
        have e := Option.some.inj hs
        subst e
        exact e_rz cd_93_57 nr_93 (Or.inl rfl)
      · refine e_izJ cd_93_53 rfl c24 ?_
        refine e_aldn cd_93_58 g0 ?_
        refine e_ild cd_93_59 g5 ?_
        refine e_const cd_93_61 ci_2 ?_
        obtain ⟨q25, h26, hs⟩ := k_bind hs
        refine e_cvi cd_93_62 kd_93_240 rfl rfl rfl rfl rfl nl_36 rfl rfl (tie_mo_at d t0 v5 2 q22.2 _ h26) ?_
        refine e_iK cd_93_65 nl_93 rfl rfl ?_
        intro _ gn kp
        have u27 := kp 0 _ g0 rfl rfl
        have u28 := kp 1 _ g1 rfl rfl
        have u29 := kp 2 _ g2 rfl rfl
        have u30 := kp 3 _ g3 rfl rfl
        have u31 := kp 4 _ g4 rfl rfl
        have u32 := gn
        refine e_goto cd_93_67 rfl ?_
        exact ih t0 v1 v2 v3 v4 q25.1 q25.2 so _ u27 u28 u29 u30 u31 u32 hs
theorem tieb_mo_canGo  (d : Nat)  (a0 : Nat) (a1 : Int32) (a2 : Int32) (a3 : Int32) (M : zM) (so : Int32 × zM) (hs : mo_canGo_b  d a0 a1 a2 a3 M = some so) : Ev zq_T (d + 1) 93 0 (zl_args 0 [.inr (.inr (12, some a0)), .inl a1, .inl a2, .inl a3]) [] M (some (.inl so.1), so.2) := by
  unfold mo_canGo_b at hs
  have g0 : zl_get (zl_args 0 [.inr (.inr (12, some a0)), .inl a1, .inl a2, .inl a3]) 0 = some (.inr (.inr (12, (some a0)))) := rfl
  have g1 : zl_get (zl_args 0 [.inr (.inr (12, some a0)), .inl a1, .inl a2, .inl a3]) 1 = some (.inl a1) := rfl
  have g2 : zl_get (zl_args 0 [.inr (.inr (12, some a0)), .inl a1, .inl a2, .inl a3]) 2 = some (.inl a2) := rfl
  have g3 : zl_get (zl_args 0 [.inr (.inr (12, some a0)), .inl a1, .inl a2, .inl a3]) 3 = some (.inl a3) := rfl
  refine e_aldn cd_93_0 g0 ?_
  refine e_getR cd_93_1 fd_93_81 rfl ?_
  refine e_ildn cd_93_4 g2 ?_
  refine k_opt hs (fun _ q => nomatch q) (fun k1 h2 hs => ?_)
  obtain ⟨c3, hs⟩ := z_ite hs
  refine e_iald cd_93_5 rfl h2 c3 ?_
  refine e_const cd_93_6 ci_m1 ?_
  refine k_if hs (fun c4 hs => ?_) (fun c4 hs => ?_)
  · refine e_icN cd_93_7 rfl (fun q => q c4) ?_
    refine e_const cd_93_10 ci_1 ?_
    have e := Option.some.inj hs
    subst e
    exact e_rz cd_93_11 nr_93 (Or.inr rfl)
  · refine e_icJ cd_93_7 rfl c4 ?_
    refine e_aldn cd_93_12 g0 ?_
    refine e_getR cd_93_13 fd_93_56 rfl ?_
    refine e_ildn cd_93_16 g3 ?_
    refine k_opt hs (fun _ q => nomatch q) (fun k5 h6 hs => ?_)
    obtain ⟨c7, hs⟩ := z_ite hs
    refine e_iald cd_93_17 rfl h6 c7 ?_
    refine k_let hs (fun x8 e9 hs => ?_)
    refine e_iK cd_93_18 nl_93 rfl e9 ?_
    intro _ gn kp
    have u10 := kp 0 _ g0 rfl rfl
    have u11 := kp 1 _ g1 rfl rfl
    have u12 := kp 2 _ g2 rfl rfl
    have u13 := kp 3 _ g3 rfl rfl
    have u14 := gn
    refine e_aldn cd_93_20 u10 ?_
    refine e_aldn cd_93_21 u10 ?_
    refine e_ildn cd_93_22 u11 ?_
    refine e_aldn cd_93_23 u10 ?_
    refine e_getR cd_93_24 fd_93_81 rfl ?_
    refine e_ildn cd_93_27 u12 ?_
    refine k_opt hs (fun _ q => nomatch q) (fun k15 h16 hs => ?_)
    obtain ⟨c17, hs⟩ := z_ite hs
    refine e_iald cd_93_28 rfl h16 c17 ?_
    obtain ⟨q18, h19, hs⟩ := k_bind hs
    refine e_cvi cd_93_29 kd_93_249 rfl rfl rfl rfl rfl nl_40 rfl rfl (tie_mo_leaf d a0 a1 (zm_I M 20 k15 (a2 : Int32).toNatClampNeg) M _ h19) ?_
    refine e_const cd_93_32 ci_2 ?_
    obtain ⟨q20, h21, hs⟩ := k_bind hs
    refine e_cvi cd_93_33 kd_93_240 rfl rfl rfl rfl rfl nl_36 rfl rfl (tie_mo_at d a0 q18.1 2 q18.2 _ h21) ?_
    refine e_iK cd_93_36 nl_93 rfl rfl ?_
    intro _ gn kp
    have u22 := kp 0 _ u10 rfl rfl
    have u23 := kp 1 _ u11 rfl rfl
    have u24 := kp 2 _ u12 rfl rfl
    have u25 := kp 3 _ u13 rfl rfl
    have u26 := kp 4 _ u14 rfl rfl
    have u27 := gn
    exact tie_mo_canGo_38  d  zLF a0 a1 a2 a3 x8 q20.1 q20.2 so _ u22 u23 u24 u25 u26 u27 hs
theorem tie_mo_canGo (d : Nat) (a0 : Nat) (a1 : Int32) (a2 : Int32) (a3 : Int32) (M : zM) (so : Int32 × zM) (hs : mo_canGo d a0 a1 a2 a3 M = some so) : Ev zq_T d 93 0 (zl_args 0 [.inr (.inr (12, some a0)), .inl a1, .inl a2, .inl a3]) [] M (some (.inl so.1), so.2) := by
  cases d with
  | zero => exact nomatch hs
  | succ d => exact tieb_mo_canGo d a0 a1 a2 a3 M so hs
theorem tie_mo_canEnd_55  (d : Nat)  : ∀ (fuel : Nat) (t0 : Nat) (v1 : Int32) (v2 : Int32) (v3 : Int32) (M : zM) (so : Int32 × zM) (ls : List (Nat × zV)), zl_get ls 0 = some (.inr (.inr (12, (some t0)))) → zl_get ls 1 = some (.inl v1) → zl_get ls 2 = some (.inl v2) → zl_get ls 3 = some (.inl v3) → mo_canEnd_55  d fuel t0 v1 v2 v3 M = some so → Ev zq_T (d + 1) 94 55 ls [] M (some (.inl so.1), so.2) := by
  intro fuel
  induction fuel with
  | zero => intro t0 v1 v2 v3 M so ls g0 g1 g2 g3 hs; exact nomatch hs
  | succ fuel ih =>
    intro t0 v1 v2 v3 M so ls g0 g1 g2 g3 hs
    unfold mo_canEnd_55 at hs
    refine e_ildn cd_94_55 g3 ?_
    refine e_const cd_94_56 ci_m1 ?_
    refine k_if hs (fun c1 hs => ?_) (fun c1 hs => ?_)
    · refine e_icJ cd_94_57 rfl c1 ?_
      refine e_const cd_94_82 ci_1 ?_
      have e := Option.some.inj hs
      subst e
      exact e_rz cd_94_83 nr_94 (Or.inr rfl)
    · refine e_icN cd_94_57 rfl c1 ?_
      refine e_aldn cd_94_60 g0 ?_
      refine e_ildn cd_94_61 g1 ?_
      refine e_ildn cd_94_62 g2 ?_
      refine e_ildn cd_94_63 g3 ?_
      obtain ⟨q2, h3, hs⟩ := k_bind hs
      refine e_cvi cd_94_64 kd_94_416 rfl rfl rfl rfl rfl nl_92 rfl rfl (tie_mo_canLeave d t0 v1 v2 v3 M _ h3) ?_
      refine k_if hs (fun c4 hs => ?_) (fun c4 hs => ?_)
      · refine e_izN cd_94_67 rfl (fun q => q c4) ?_
        refine e_const cd_94_70 ci_0 ?_
        have e := Option.some.inj hs
        subst e
        exact e_rz cd_94_71 nr_94 (Or.inl rfl)
      · refine e_izJ cd_94_67 rfl c4 ?_
        refine e_aldn cd_94_72 g0 ?_
        refine e_ildn cd_94_73 g3 ?_
        refine e_const cd_94_74 ci_2 ?_
        obtain ⟨q5, h6, hs⟩ := k_bind hs
        refine e_cvi cd_94_75 kd_94_240 rfl rfl rfl rfl rfl nl_36 rfl rfl (tie_mo_at d t0 v3 2 q2.2 _ h6) ?_
        refine e_iKn cd_94_78 nl_94 rfl rfl ?_
        intro _ gn kp
        have u7 := kp 0 _ g0 rfl rfl
        have u8 := kp 1 _ g1 rfl rfl
        have u9 := kp 2 _ g2 rfl rfl
        have u10 := gn
        refine e_goto cd_94_79 rfl ?_
        exact ih t0 v1 v2 q5.1 q5.2 so _ u7 u8 u9 u10 hs
theorem tieb_mo_canEnd  (d : Nat)  (a0 : Nat) (a1 : Int32) (a2 : Int32) (M : zM) (so : Int32 × zM) (hs : mo_canEnd_b  d a0 a1 a2 M = some so) : Ev zq_T (d + 1) 94 0 (zl_args 0 [.inr (.inr (12, some a0)), .inl a1, .inl a2]) [] M (some (.inl so.1), so.2) := by
  unfold mo_canEnd_b at hs
  have g0 : zl_get (zl_args 0 [.inr (.inr (12, some a0)), .inl a1, .inl a2]) 0 = some (.inr (.inr (12, (some a0)))) := rfl
  have g1 : zl_get (zl_args 0 [.inr (.inr (12, some a0)), .inl a1, .inl a2]) 1 = some (.inl a1) := rfl
  have g2 : zl_get (zl_args 0 [.inr (.inr (12, some a0)), .inl a1, .inl a2]) 2 = some (.inl a2) := rfl
  refine e_aldn cd_94_0 g0 ?_
  refine e_getR cd_94_1 fd_94_81 rfl ?_
  refine e_ildn cd_94_4 g2 ?_
  refine k_opt hs (fun _ q => nomatch q) (fun k1 h2 hs => ?_)
  obtain ⟨c3, hs⟩ := z_ite hs
  refine e_iald cd_94_5 rfl h2 c3 ?_
  refine e_const cd_94_6 ci_m1 ?_
  refine k_if hs (fun c4 hs => ?_) (fun c4 hs => ?_)
  · refine e_icN cd_94_7 rfl (fun q => q c4) ?_
    refine e_aldn cd_94_10 g0 ?_
    refine e_ildn cd_94_11 g1 ?_
    refine e_aldn cd_94_12 g0 ?_
    refine e_ildn cd_94_13 g1 ?_
    refine e_const cd_94_14 ci_1 ?_
    obtain ⟨q5, h6, hs⟩ := k_bind hs
    refine e_cvi cd_94_15 kd_94_258 rfl rfl rfl rfl rfl nl_35 rfl rfl (tie_mo_of d a0 a1 1 M _ h6) ?_
    obtain ⟨q7, h8, hs⟩ := k_bind hs
    refine e_cvi cd_94_18 kd_94_245 rfl rfl rfl rfl rfl nl_41 rfl rfl (tie_mo_isNull d a0 a1 q5.1 q5.2 _ h8) ?_
    obtain ⟨c9, hs⟩ := z_ite hs
    have e := Option.some.inj hs
    subst e
    exact e_rz cd_94_21 nr_94 c9
  · refine e_icJ cd_94_7 rfl c4 ?_
    refine e_aldn cd_94_22 g0 ?_
    refine e_ildn cd_94_23 g1 ?_
    refine e_aldn cd_94_24 g0 ?_
    refine e_getR cd_94_25 fd_94_81 rfl ?_
    refine e_ildn cd_94_28 g2 ?_
    refine k_opt hs (fun _ q => nomatch q) (fun k10 h11 hs => ?_)
    obtain ⟨c12, hs⟩ := z_ite hs
    refine e_iald cd_94_29 rfl h11 c12 ?_
    obtain ⟨q13, h14, hs⟩ := k_bind hs
    refine e_cvi cd_94_30 kd_94_389 rfl rfl rfl rfl rfl nl_45 rfl rfl (tie_mo_isLast d a0 a1 (zm_I M 20 k10 (a2 : Int32).toNatClampNeg) M _ h14) ?_
    refine k_if hs (fun c15 hs => ?_) (fun c15 hs => ?_)
    · refine e_izN cd_94_33 rfl (fun q => q c15) ?_
      refine e_const cd_94_36 ci_0 ?_
      have e := Option.some.inj hs
      subst e
      exact e_rz cd_94_37 nr_94 (Or.inl rfl)
    · refine e_izJ cd_94_33 rfl c15 ?_
      refine e_aldn cd_94_38 g0 ?_
      refine e_aldn cd_94_39 g0 ?_
      refine e_ildn cd_94_40 g1 ?_
      refine e_aldn cd_94_41 g0 ?_
      refine e_getR cd_94_42 fd_94_81 rfl ?_
      refine e_ildn cd_94_45 g2 ?_
      refine k_opt hs (fun _ q => nomatch q) (fun k16 h17 hs => ?_)
      obtain ⟨c18, hs⟩ := z_ite hs
      refine e_iald cd_94_46 rfl h17 c18 ?_
      obtain ⟨q19, h20, hs⟩ := k_bind hs
      refine e_cvi cd_94_47 kd_94_249 rfl rfl rfl rfl rfl nl_40 rfl rfl (tie_mo_leaf d a0 a1 (zm_I q13.2 20 k16 (a2 : Int32).toNatClampNeg) q13.2 _ h20) ?_
      refine e_const cd_94_50 ci_2 ?_
      obtain ⟨q21, h22, hs⟩ := k_bind hs
      refine e_cvi cd_94_51 kd_94_240 rfl rfl rfl rfl rfl nl_36 rfl rfl (tie_mo_at d a0 q19.1 2 q19.2 _ h22) ?_
      refine e_iKn cd_94_54 nl_94 rfl rfl ?_
      intro _ gn kp
      have u23 := kp 0 _ g0 rfl rfl
      have u24 := kp 1 _ g1 rfl rfl
      have u25 := kp 2 _ g2 rfl rfl
      have u26 := gn
      exact tie_mo_canEnd_55  d  zLF a0 a1 a2 q21.1 q21.2 so _ u23 u24 u25 u26 hs
theorem tie_mo_canEnd (d : Nat) (a0 : Nat) (a1 : Int32) (a2 : Int32) (M : zM) (so : Int32 × zM) (hs : mo_canEnd d a0 a1 a2 M = some so) : Ev zq_T d 94 0 (zl_args 0 [.inr (.inr (12, some a0)), .inl a1, .inl a2]) [] M (some (.inl so.1), so.2) := by
  cases d with
  | zero => exact nomatch hs
  | succ d => exact tieb_mo_canEnd d a0 a1 a2 M so hs
theorem tie_mo_sets_78  (d : Nat)   (M : zM) (so : zM) (ls : List (Nat × zV))  (hs : mo_sets_78  d  M = some so) : Ev zq_T (d + 1) 95 78 ls [] M (none, so) := by
  unfold mo_sets_78 at hs
  have e := Option.some.inj hs
  subst e
  exact e_rv cd_95_78 nr_95
theorem tie_mo_sets_77  (d : Nat)  (s0 : Option Nat) (s1 : Int32) (s2 : Int32) (M : zM) (so : zM) (ls : List (Nat × zV))  (hs : mo_sets_77  d s0 s1 s2 M = some so) : Ev zq_T (d + 1) 95 77 ls [.inl s2, .inl s1, .inr (.inr (20, s0))] M (none, so) := by
  unfold mo_sets_77 at hs
  refine k_opt hs (fun _ q => nomatch q) (fun k1 h2 hs => ?_)
  obtain ⟨c3, hs⟩ := z_ite hs
  refine k_let hs (fun M4 e5 hs => ?_)
  refine e_iast cd_95_77 rfl h2 c3 e5 ?_
  exact tie_mo_sets_78  d   M4 so _  hs
theorem tie_mo_sets_35  (d : Nat)  (t0 : Nat) (v1 : Int32) (v2 : Int32) (v3 : Int32) (v4 : Int32) (M : zM) (so : zM) (ls : List (Nat × zV)) (g0 : zl_get ls 0 = some (.inr (.inr (12, (some t0))))) (g1 : zl_get ls 1 = some (.inl v1)) (g2 : zl_get ls 2 = some (.inl v2)) (g3 : zl_get ls 3 = some (.inl v3)) (g4 : zl_get ls 4 = some (.inl v4)) (hs : mo_sets_35  d t0 v1 v2 v3 v4 M = some so) : Ev zq_T (d + 1) 95 35 ls [] M (none, so) := by
  unfold mo_sets_35 at hs
  refine e_aldn cd_95_35 g0 ?_
  refine e_ildn cd_95_36 g2 ?_
  refine e_const cd_95_37 ci_0 ?_
  obtain ⟨q1, h2, hs⟩ := k_bind hs
  refine e_cvi cd_95_38 kd_95_240 rfl rfl rfl rfl rfl nl_36 rfl rfl (tie_mo_at d t0 v2 0 M _ h2) ?_
  refine e_const cd_95_41 ci_4 ?_
  refine k_if hs (fun c3 hs => ?_) (fun c3 hs => ?_)
  · refine e_icN cd_95_42 rfl (fun q => q c3) ?_
    refine e_aldn cd_95_45 g0 ?_
    refine e_getR cd_95_46 fd_95_81 rfl ?_
    refine e_ildn cd_95_49 g1 ?_
    refine e_bip cd_95_50 cb_9 ?_
    refine e_pure cd_95_52 rfl ?_
    refine e_aldn cd_95_53 g0 ?_
    refine e_ildn cd_95_54 g2 ?_
    refine e_const cd_95_55 ci_1 ?_
    obtain ⟨q4, h5, hs⟩ := k_bind hs
    refine e_cvi cd_95_56 kd_95_240 rfl rfl rfl rfl rfl nl_36 rfl rfl (tie_mo_at d t0 v2 1 q1.2 _ h5) ?_
    refine e_pure cd_95_59 rfl ?_
    refine e_ild cd_95_60 g4 ?_
    refine k_if hs (fun c6 hs => ?_) (fun c6 hs => ?_)
    · refine e_izJ cd_95_62 rfl c6 ?_
      refine e_const cd_95_76 ci_0 ?_
      exact tie_mo_sets_77  d  (zm_R q1.2 12 t0 34) ((v1 + 9) + q4.1) 0 q4.2 so _  hs
    · refine e_izN cd_95_62 rfl c6 ?_
      refine e_const cd_95_65 ci_1 ?_
      refine e_aldn cd_95_66 g0 ?_
      refine e_ildn cd_95_67 g2 ?_
      refine e_ildn cd_95_68 g3 ?_
      obtain ⟨q7, h8, hs⟩ := k_bind hs
      refine e_cvi cd_95_69 kd_95_419 rfl rfl rfl rfl rfl nl_46 rfl rfl (tie_mo_partOf d t0 v2 v3 q4.2 _ h8) ?_
      refine e_pure cd_95_72 rfl ?_
      refine e_goto cd_95_73 rfl ?_
      exact tie_mo_sets_77  d  (zm_R q1.2 12 t0 34) ((v1 + 9) + q4.1) (1 <<< (q7.1 &&& 31)) q7.2 so _  hs
  · refine e_icJ cd_95_42 rfl c3 ?_
    exact tie_mo_sets_78  d   q1.2 so _  hs
theorem tie_mo_sets_34  (d : Nat)  (t0 : Nat) (v1 : Int32) (v2 : Int32) (v3 : Int32) (v4 : Int32) (s0 : Option Nat) (s1 : Int32) (s2 : Int32) (M : zM) (so : zM) (ls : List (Nat × zV)) (g0 : zl_get ls 0 = some (.inr (.inr (12, (some t0))))) (g1 : zl_get ls 1 = some (.inl v1)) (g2 : zl_get ls 2 = some (.inl v2)) (g3 : zl_get ls 3 = some (.inl v3)) (g4 : zl_get ls 4 = some (.inl v4)) (hs : mo_sets_34  d t0 v1 v2 v3 v4 s0 s1 s2 M = some so) : Ev zq_T (d + 1) 95 34 ls [.inl s2, .inl s1, .inr (.inr (20, s0))] M (none, so) := by
  unfold mo_sets_34 at hs
  refine k_opt hs (fun _ q => nomatch q) (fun k1 h2 hs => ?_)
  obtain ⟨c3, hs⟩ := z_ite hs
  refine k_let hs (fun M4 e5 hs => ?_)
  refine e_iast cd_95_34 rfl h2 c3 e5 ?_
  exact tie_mo_sets_35  d  t0 v1 v2 v3 v4 M4 so _ g0 g1 g2 g3 g4 hs
theorem tieb_mo_sets  (d : Nat)  (a0 : Nat) (a1 : Int32) (a2 : Int32) (a3 : Int32) (a4 : Int32) (M : zM) (so : zM) (hs : mo_sets_b  d a0 a1 a2 a3 a4 M = some so) : Ev zq_T (d + 1) 95 0 (zl_args 0 [.inr (.inr (12, some a0)), .inl a1, .inl a2, .inl a3, .inl a4]) [] M (none, so) := by
  unfold mo_sets_b at hs
  have g0 : zl_get (zl_args 0 [.inr (.inr (12, some a0)), .inl a1, .inl a2, .inl a3, .inl a4]) 0 = some (.inr (.inr (12, (some a0)))) := rfl
  have g1 : zl_get (zl_args 0 [.inr (.inr (12, some a0)), .inl a1, .inl a2, .inl a3, .inl a4]) 1 = some (.inl a1) := rfl
  have g2 : zl_get (zl_args 0 [.inr (.inr (12, some a0)), .inl a1, .inl a2, .inl a3, .inl a4]) 2 = some (.inl a2) := rfl
  have g3 : zl_get (zl_args 0 [.inr (.inr (12, some a0)), .inl a1, .inl a2, .inl a3, .inl a4]) 3 = some (.inl a3) := rfl
  have g4 : zl_get (zl_args 0 [.inr (.inr (12, some a0)), .inl a1, .inl a2, .inl a3, .inl a4]) 4 = some (.inl a4) := rfl
  refine e_aldn cd_95_0 g0 ?_
  refine e_ildn cd_95_1 g2 ?_
  refine e_const cd_95_2 ci_0 ?_
  obtain ⟨q1, h2, hs⟩ := k_bind hs
  refine e_cvi cd_95_3 kd_95_240 rfl rfl rfl rfl rfl nl_36 rfl rfl (tie_mo_at d a0 a2 0 M _ h2) ?_
  refine e_const cd_95_6 ci_5 ?_
  refine k_if hs (fun c3 hs => ?_) (fun c3 hs => ?_)
  · refine e_icN cd_95_7 rfl (fun q => q c3) ?_
    refine e_aldn cd_95_10 g0 ?_
    refine e_getR cd_95_11 fd_95_81 rfl ?_
    refine e_ildn cd_95_14 g1 ?_
    refine e_const cd_95_15 ci_1 ?_
    refine e_pure cd_95_16 rfl ?_
    refine e_aldn cd_95_17 g0 ?_
    refine e_ildn cd_95_18 g2 ?_
    refine e_const cd_95_19 ci_1 ?_
    obtain ⟨q4, h5, hs⟩ := k_bind hs
    refine e_cvi cd_95_20 kd_95_240 rfl rfl rfl rfl rfl nl_36 rfl rfl (tie_mo_at d a0 a2 1 q1.2 _ h5) ?_
    refine e_pure cd_95_23 rfl ?_
    refine e_ild cd_95_24 g4 ?_
    refine k_if hs (fun c6 hs => ?_) (fun c6 hs => ?_)
    · refine e_izJ cd_95_26 rfl c6 ?_
      refine e_const cd_95_33 ci_0 ?_
      exact tie_mo_sets_34  d  a0 a1 a2 a3 a4 (zm_R q1.2 12 a0 34) ((a1 + 1) + q4.1) 0 q4.2 so _ g0 g1 g2 g3 g4 hs
    · refine e_izN cd_95_26 rfl c6 ?_
      refine e_const cd_95_29 ci_1 ?_
      refine e_goto cd_95_30 rfl ?_
      exact tie_mo_sets_34  d  a0 a1 a2 a3 a4 (zm_R q1.2 12 a0 34) ((a1 + 1) + q4.1) 1 q4.2 so _ g0 g1 g2 g3 g4 hs
  · refine e_icJ cd_95_7 rfl c3 ?_
    exact tie_mo_sets_35  d  a0 a1 a2 a3 a4 q1.2 so _ g0 g1 g2 g3 g4 hs
theorem tie_mo_sets (d : Nat) (a0 : Nat) (a1 : Int32) (a2 : Int32) (a3 : Int32) (a4 : Int32) (M : zM) (so : zM) (hs : mo_sets d a0 a1 a2 a3 a4 M = some so) : Ev zq_T d 95 0 (zl_args 0 [.inr (.inr (12, some a0)), .inl a1, .inl a2, .inl a3, .inl a4]) [] M (none, so) := by
  cases d with
  | zero => exact nomatch hs
  | succ d => exact tieb_mo_sets d a0 a1 a2 a3 a4 M so hs
theorem tie_mo_goes_213  (d : Nat)  : ∀ (fuel : Nat) (t0 : Nat) (v3 : Int32) (v4 : Int32) (v5 : Int32) (v6 : Int32) (v7 : Int32) (M : zM) (so : zM) (ls : List (Nat × zV)), zl_get ls 0 = some (.inr (.inr (12, (some t0)))) → zl_get ls 3 = some (.inl v3) → zl_get ls 4 = some (.inl v4) → zl_get ls 5 = some (.inl v5) → zl_get ls 6 = some (.inl v6) → zl_get ls 7 = some (.inl v7) → mo_goes_213  d fuel t0 v3 v4 v5 v6 v7 M = some so → Ev zq_T (d + 1) 96 213 ls [] M (none, so) := by
  intro fuel
  induction fuel with
  | zero => intro t0 v3 v4 v5 v6 v7 M so ls g0 g3 g4 g5 g6 g7 hs; exact nomatch hs
  | succ fuel ih =>
    intro t0 v3 v4 v5 v6 v7 M so ls g0 g3 g4 g5 g6 g7 hs
    unfold mo_goes_213 at hs
    refine e_ild cd_96_213 g7 ?_
    refine e_ild cd_96_215 g5 ?_
    refine k_if hs (fun c1 hs => ?_) (fun c1 hs => ?_)
    · refine e_icJ cd_96_217 rfl c1 ?_
      refine e_aldn cd_96_247 g0 ?_
      refine e_getR cd_96_248 fd_96_81 rfl ?_
      refine e_ild cd_96_251 g4 ?_
      refine e_aldn cd_96_253 g0 ?_
      refine e_getR cd_96_254 fd_96_50 rfl ?_
      refine e_ildn cd_96_257 g3 ?_
      refine k_opt hs (fun _ q => nomatch q) (fun k2 h3 hs => ?_)
      obtain ⟨c4, hs⟩ := z_ite hs
      refine e_iald cd_96_258 rfl h3 c4 ?_
      refine k_opt hs (fun _ q => nomatch q) (fun k5 h6 hs => ?_)
      obtain ⟨c7, hs⟩ := z_ite hs
      refine k_let hs (fun M8 e9 hs => ?_)
      refine e_iast cd_96_259 rfl h6 c7 e9 ?_
      have e := Option.some.inj hs
      subst e
      exact e_rv cd_96_260 nr_96
    · refine e_icN cd_96_217 rfl c1 ?_
      refine e_aldn cd_96_220 g0 ?_
      refine e_ild cd_96_221 g4 ?_
      refine e_ild cd_96_223 g7 ?_
      refine e_ild cd_96_225 g6 ?_
      refine e_const cd_96_227 ci_1 ?_
      obtain ⟨q10, h11, hs⟩ := k_bind hs
      refine e_cvi cd_96_228 kd_96_422 rfl rfl rfl rfl rfl nl_95 rfl rfl (tie_mo_sets d t0 v4 v7 v6 1 M _ h11) ?_
      refine e_ild cd_96_231 g7 ?_
      refine e_iK cd_96_233 nl_96 rfl rfl ?_
      intro _ gn kp
      have u12 := kp 0 _ g0 rfl rfl
      have u13 := kp 3 _ g3 rfl rfl
      have u14 := kp 4 _ g4 rfl rfl
      have u15 := kp 5 _ g5 rfl rfl
      have u16 := kp 7 _ g7 rfl rfl
      have u17 := gn
      refine e_aldn cd_96_235 u12 ?_
      refine e_ild cd_96_236 u16 ?_
      refine e_const cd_96_238 ci_2 ?_
      obtain ⟨q18, h19, hs⟩ := k_bind hs
      refine e_cvi cd_96_239 kd_96_240 rfl rfl rfl rfl rfl nl_36 rfl rfl (tie_mo_at d t0 v7 2 q10 _ h19) ?_
      refine e_iK cd_96_242 nl_96 rfl rfl ?_
      intro _ gn kp
      have u20 := kp 0 _ u12 rfl rfl
      have u21 := kp 3 _ u13 rfl rfl
      have u22 := kp 4 _ u14 rfl rfl
      have u23 := kp 5 _ u15 rfl rfl
      have u24 := kp 6 _ u17 rfl rfl
      have u25 := gn
      refine e_goto cd_96_244 rfl ?_
      exact ih t0 v3 v4 v5 v7 q18.1 q18.2 so _ u20 u21 u22 u23 u24 u25 hs
theorem tie_mo_goes_191  (d : Nat)  (t0 : Nat) (v1 : Int32) (v3 : Int32) (v4 : Int32) (v5 : Int32) (M : zM) (so : zM) (ls : List (Nat × zV)) (g0 : zl_get ls 0 = some (.inr (.inr (12, (some t0))))) (g1 : zl_get ls 1 = some (.inl v1)) (g3 : zl_get ls 3 = some (.inl v3)) (g4 : zl_get ls 4 = some (.inl v4)) (g5 : zl_get ls 5 = some (.inl v5)) (hs : mo_goes_191  d t0 v1 v3 v4 v5 M = some so) : Ev zq_T (d + 1) 96 191 ls [] M (none, so) := by
  unfold mo_goes_191 at hs
  refine e_aldn cd_96_191 g0 ?_
  refine e_ildn cd_96_192 g1 ?_
  refine e_aldn cd_96_193 g0 ?_
  refine e_getR cd_96_194 fd_96_50 rfl ?_
  refine e_ildn cd_96_197 g3 ?_
  refine k_opt hs (fun _ q => nomatch q) (fun k1 h2 hs => ?_)
  obtain ⟨c3, hs⟩ := z_ite hs
  refine e_iald cd_96_198 rfl h2 c3 ?_
  obtain ⟨q4, h5, hs⟩ := k_bind hs
  refine e_cvi cd_96_199 kd_96_249 rfl rfl rfl rfl rfl nl_40 rfl rfl (tie_mo_leaf d t0 v1 (zm_I M 20 k1 (v3 : Int32).toNatClampNeg) M _ h5) ?_
  refine e_iK cd_96_202 nl_96 rfl rfl ?_
  intro _ gn kp
  have u6 := kp 0 _ g0 rfl rfl
  have u7 := kp 3 _ g3 rfl rfl
  have u8 := kp 4 _ g4 rfl rfl
  have u9 := kp 5 _ g5 rfl rfl
  have u10 := gn
  refine e_aldn cd_96_204 u6 ?_
  refine e_ild cd_96_205 u10 ?_
  refine e_const cd_96_207 ci_2 ?_
  obtain ⟨q11, h12, hs⟩ := k_bind hs
  refine e_cvi cd_96_208 kd_96_240 rfl rfl rfl rfl rfl nl_36 rfl rfl (tie_mo_at d t0 q4.1 2 q4.2 _ h12) ?_
  refine e_iK cd_96_211 nl_96 rfl rfl ?_
  intro _ gn kp
  have u13 := kp 0 _ u6 rfl rfl
  have u14 := kp 3 _ u7 rfl rfl
  have u15 := kp 4 _ u8 rfl rfl
  have u16 := kp 5 _ u9 rfl rfl
  have u17 := kp 6 _ u10 rfl rfl
  have u18 := gn
  exact tie_mo_goes_213  d  zLF t0 v3 v4 v5 q4.1 q11.1 q11.2 so _ u13 u14 u15 u16 u17 u18 hs
theorem tie_mo_goes_139  (d : Nat)  (t0 : Nat) (v1 : Int32) (v3 : Int32) (v4 : Int32) (v5 : Int32) (M : zM) (so : zM) (ls : List (Nat × zV)) (g0 : zl_get ls 0 = some (.inr (.inr (12, (some t0))))) (g1 : zl_get ls 1 = some (.inl v1)) (g3 : zl_get ls 3 = some (.inl v3)) (g4 : zl_get ls 4 = some (.inl v4)) (g5 : zl_get ls 5 = some (.inl v5)) (hs : mo_goes_139  d t0 v1 v3 v4 v5 M = some so) : Ev zq_T (d + 1) 96 139 ls [] M (none, so) := by
  unfold mo_goes_139 at hs
  refine e_ild cd_96_139 g5 ?_
  refine e_const cd_96_141 ci_m1 ?_
  refine k_if hs (fun c1 hs => ?_) (fun c1 hs => ?_)
  · refine e_icJ cd_96_142 rfl c1 ?_
    exact tie_mo_goes_191  d  t0 v1 v3 v4 v5 M so _ g0 g1 g3 g4 g5 hs
  · refine e_icN cd_96_142 rfl c1 ?_
    refine e_aldn cd_96_145 g0 ?_
    refine e_ild cd_96_146 g5 ?_
    refine e_const cd_96_148 ci_0 ?_
    obtain ⟨q2, h3, hs⟩ := k_bind hs
    refine e_cvi cd_96_149 kd_96_240 rfl rfl rfl rfl rfl nl_36 rfl rfl (tie_mo_at d t0 v5 0 M _ h3) ?_
    refine e_const cd_96_152 ci_4 ?_
    refine k_if hs (fun c4 hs => ?_) (fun c4 hs => ?_)
    · refine e_icN cd_96_153 rfl (fun q => q c4) ?_
      refine e_aldn cd_96_156 g0 ?_
      refine e_getR cd_96_157 fd_96_81 rfl ?_
      refine e_ild cd_96_160 g4 ?_
      refine e_bip cd_96_162 cb_9 ?_
      refine e_pure cd_96_164 rfl ?_
      refine e_aldn cd_96_165 g0 ?_
      refine e_ild cd_96_166 g5 ?_
      refine e_const cd_96_168 ci_1 ?_
      obtain ⟨q5, h6, hs⟩ := k_bind hs
      refine e_cvi cd_96_169 kd_96_240 rfl rfl rfl rfl rfl nl_36 rfl rfl (tie_mo_at d t0 v5 1 q2.2 _ h6) ?_
      refine e_pure cd_96_172 rfl ?_
      refine e_pure cd_96_173 rfl ?_
      refine k_opt hs (fun _ q => nomatch q) (fun k7 h8 hs => ?_)
      obtain ⟨c9, hs⟩ := z_ite hs
      refine e_iald cd_96_174 rfl h8 c9 ?_
      refine e_const cd_96_175 ci_1 ?_
      refine e_aldn cd_96_176 g0 ?_
      refine e_ild cd_96_177 g5 ?_
      refine e_aldn cd_96_179 g0 ?_
      refine e_getR cd_96_180 fd_96_59 rfl ?_
      refine e_ildn cd_96_183 g3 ?_
      refine k_opt hs (fun _ q => nomatch q) (fun k10 h11 hs => ?_)
      obtain ⟨c12, hs⟩ := z_ite hs
      refine e_iald cd_96_184 rfl h11 c12 ?_
      obtain ⟨q13, h14, hs⟩ := k_bind hs
      refine e_cvi cd_96_185 kd_96_419 rfl rfl rfl rfl rfl nl_46 rfl rfl (tie_mo_partOf d t0 v5 (zm_I q5.2 20 k10 (v3 : Int32).toNatClampNeg) q5.2 _ h14) ?_
      refine e_pure cd_96_188 rfl ?_
      refine e_pure cd_96_189 rfl ?_
      obtain ⟨c15, hs⟩ := z_ite hs
      refine k_let hs (fun M16 e17 hs => ?_)
      refine e_iast cd_96_190 rfl h8 c15 e17 ?_
      exact tie_mo_goes_191  d  t0 v1 v3 v4 v5 M16 so _ g0 g1 g3 g4 g5 hs
    · refine e_icJ cd_96_153 rfl c4 ?_
      exact tie_mo_goes_191  d  t0 v1 v3 v4 v5 q2.2 so _ g0 g1 g3 g4 g5 hs
theorem tie_mo_goes_101  (d : Nat)  (t0 : Nat) (v1 : Int32) (v3 : Int32) (v4 : Int32) (v5 : Int32) (M : zM) (so : zM) (ls : List (Nat × zV)) (g0 : zl_get ls 0 = some (.inr (.inr (12, (some t0))))) (g1 : zl_get ls 1 = some (.inl v1)) (g3 : zl_get ls 3 = some (.inl v3)) (g4 : zl_get ls 4 = some (.inl v4)) (g5 : zl_get ls 5 = some (.inl v5)) (hs : mo_goes_101  d t0 v1 v3 v4 v5 M = some so) : Ev zq_T (d + 1) 96 101 ls [] M (none, so) := by
  unfold mo_goes_101 at hs
  refine e_ild cd_96_101 g5 ?_
  refine e_const cd_96_103 ci_m1 ?_
  refine k_if hs (fun c1 hs => ?_) (fun c1 hs => ?_)
  · refine e_icJ cd_96_104 rfl c1 ?_
    exact tie_mo_goes_139  d  t0 v1 v3 v4 v5 M so _ g0 g1 g3 g4 g5 hs
  · refine e_icN cd_96_104 rfl c1 ?_
    refine e_aldn cd_96_107 g0 ?_
    refine e_ild cd_96_108 g5 ?_
    refine e_const cd_96_110 ci_0 ?_
    obtain ⟨q2, h3, hs⟩ := k_bind hs
    refine e_cvi cd_96_111 kd_96_240 rfl rfl rfl rfl rfl nl_36 rfl rfl (tie_mo_at d t0 v5 0 M _ h3) ?_
    refine e_const cd_96_114 ci_5 ?_
    refine k_if hs (fun c4 hs => ?_) (fun c4 hs => ?_)
    · refine e_icN cd_96_115 rfl (fun q => q c4) ?_
      refine e_aldn cd_96_118 g0 ?_
      refine e_getR cd_96_119 fd_96_81 rfl ?_
      refine e_ild cd_96_122 g4 ?_
      refine e_const cd_96_124 ci_1 ?_
      refine e_pure cd_96_125 rfl ?_
      refine e_aldn cd_96_126 g0 ?_
      refine e_ild cd_96_127 g5 ?_
      refine e_const cd_96_129 ci_1 ?_
      obtain ⟨q5, h6, hs⟩ := k_bind hs
      refine e_cvi cd_96_130 kd_96_240 rfl rfl rfl rfl rfl nl_36 rfl rfl (tie_mo_at d t0 v5 1 q2.2 _ h6) ?_
      refine e_pure cd_96_133 rfl ?_
      refine e_pure cd_96_134 rfl ?_
      refine k_opt hs (fun _ q => nomatch q) (fun k7 h8 hs => ?_)
      obtain ⟨c9, hs⟩ := z_ite hs
      refine e_iald cd_96_135 rfl h8 c9 ?_
      refine e_const cd_96_136 ci_1 ?_
      refine e_pure cd_96_137 rfl ?_
      obtain ⟨c10, hs⟩ := z_ite hs
      refine k_let hs (fun M11 e12 hs => ?_)
      refine e_iast cd_96_138 rfl h8 c10 e12 ?_
      exact tie_mo_goes_139  d  t0 v1 v3 v4 v5 M11 so _ g0 g1 g3 g4 g5 hs
    · refine e_icJ cd_96_115 rfl c4 ?_
      exact tie_mo_goes_139  d  t0 v1 v3 v4 v5 q2.2 so _ g0 g1 g3 g4 g5 hs
theorem tie_mo_goes_71  (d : Nat)  : ∀ (fuel : Nat) (t0 : Nat) (v1 : Int32) (v3 : Int32) (v4 : Int32) (v5 : Int32) (v6 : Int32) (M : zM) (so : zM) (ls : List (Nat × zV)), zl_get ls 0 = some (.inr (.inr (12, (some t0)))) → zl_get ls 1 = some (.inl v1) → zl_get ls 3 = some (.inl v3) → zl_get ls 4 = some (.inl v4) → zl_get ls 5 = some (.inl v5) → zl_get ls 6 = some (.inl v6) → mo_goes_71  d fuel t0 v1 v3 v4 v5 v6 M = some so → Ev zq_T (d + 1) 96 71 ls [] M (none, so) := by
  intro fuel
  induction fuel with
  | zero => intro t0 v1 v3 v4 v5 v6 M so ls g0 g1 g3 g4 g5 g6 hs; exact nomatch hs
  | succ fuel ih =>
    intro t0 v1 v3 v4 v5 v6 M so ls g0 g1 g3 g4 g5 g6 hs
    unfold mo_goes_71 at hs
    refine e_ild cd_96_71 g6 ?_
    refine e_ild cd_96_73 g5 ?_
    refine k_if hs (fun c1 hs => ?_) (fun c1 hs => ?_)
    · refine e_icJ cd_96_75 rfl c1 ?_
      exact tie_mo_goes_101  d  t0 v1 v3 v4 v5 M so _ g0 g1 g3 g4 g5 hs
    · refine e_icN cd_96_75 rfl c1 ?_
      refine e_aldn cd_96_78 g0 ?_
      refine e_ild cd_96_79 g4 ?_
      refine e_ild cd_96_81 g6 ?_
      refine e_ild cd_96_83 g6 ?_
      refine e_const cd_96_85 ci_0 ?_
      obtain ⟨q2, h3, hs⟩ := k_bind hs
      refine e_cvi cd_96_86 kd_96_422 rfl rfl rfl rfl rfl nl_95 rfl rfl (tie_mo_sets d t0 v4 v6 v6 0 M _ h3) ?_
      refine e_aldn cd_96_89 g0 ?_
      refine e_ild cd_96_90 g6 ?_
      refine e_const cd_96_92 ci_2 ?_
      obtain ⟨q4, h5, hs⟩ := k_bind hs
      refine e_cvi cd_96_93 kd_96_240 rfl rfl rfl rfl rfl nl_36 rfl rfl (tie_mo_at d t0 v6 2 q2 _ h5) ?_
      refine e_iK cd_96_96 nl_96 rfl rfl ?_
      intro _ gn kp
      have u6 := kp 0 _ g0 rfl rfl
      have u7 := kp 1 _ g1 rfl rfl
      have u8 := kp 3 _ g3 rfl rfl
      have u9 := kp 4 _ g4 rfl rfl
      have u10 := kp 5 _ g5 rfl rfl
      have u11 := gn
      refine e_goto cd_96_98 rfl ?_
      exact ih t0 v1 v3 v4 v5 q4.1 q4.2 so _ u6 u7 u8 u9 u10 u11 hs
theorem tie_mo_goes_3  (d : Nat)  : ∀ (fuel : Nat) (t0 : Nat) (v1 : Int32) (v2 : Int32) (v3 : Int32) (v4 : Int32) (v5 : Int32) (M : zM) (so : zM) (ls : List (Nat × zV)), zl_get ls 0 = some (.inr (.inr (12, (some t0)))) → zl_get ls 1 = some (.inl v1) → zl_get ls 2 = some (.inl v2) → zl_get ls 3 = some (.inl v3) → zl_get ls 4 = some (.inl v4) → zl_get ls 5 = some (.inl v5) → mo_goes_3  d fuel t0 v1 v2 v3 v4 v5 M = some so → Ev zq_T (d + 1) 96 3 ls [] M (none, so) := by
  intro fuel
  induction fuel with
  | zero => intro t0 v1 v2 v3 v4 v5 M so ls g0 g1 g2 g3 g4 g5 hs; exact nomatch hs
  | succ fuel ih =>
    intro t0 v1 v2 v3 v4 v5 M so ls g0 g1 g2 g3 g4 g5 hs
    unfold mo_goes_3 at hs
    refine e_ild cd_96_3 g5 ?_
    refine e_bip cd_96_5 cb_13 ?_
    refine k_if hs (fun c1 hs => ?_) (fun c1 hs => ?_)
    · refine e_icJ cd_96_7 rfl c1 ?_
      refine e_aldn cd_96_35 g0 ?_
      refine e_getR cd_96_36 fd_96_56 rfl ?_
      refine e_ildn cd_96_39 g3 ?_
      refine k_opt hs (fun _ q => nomatch q) (fun k2 h3 hs => ?_)
      obtain ⟨c4, hs⟩ := z_ite hs
      refine e_iald cd_96_40 rfl h3 c4 ?_
      refine k_let hs (fun x5 e6 hs => ?_)
      refine e_iK cd_96_41 nl_96 rfl e6 ?_
      intro _ gn kp
      have u7 := kp 0 _ g0 rfl rfl
      have u8 := kp 1 _ g1 rfl rfl
      have u9 := kp 2 _ g2 rfl rfl
      have u10 := kp 3 _ g3 rfl rfl
      have u11 := kp 4 _ g4 rfl rfl
      have u12 := gn
      refine e_aldn cd_96_43 u7 ?_
      refine e_getR cd_96_44 fd_96_81 rfl ?_
      refine e_ildn cd_96_47 u9 ?_
      refine k_opt hs (fun _ q => nomatch q) (fun k13 h14 hs => ?_)
      obtain ⟨c15, hs⟩ := z_ite hs
      refine e_iald cd_96_48 rfl h14 c15 ?_
      refine e_const cd_96_49 ci_m1 ?_
      refine k_if hs (fun c16 hs => ?_) (fun c16 hs => ?_)
      · refine e_icJ cd_96_50 rfl c16 ?_
        exact tie_mo_goes_101  d  t0 v1 v3 v4 x5 M so _ u7 u8 u10 u11 u12 hs
      · refine e_icN cd_96_50 rfl c16 ?_
        refine e_aldn cd_96_53 u7 ?_
        refine e_aldn cd_96_54 u7 ?_
        refine e_ildn cd_96_55 u8 ?_
        refine e_aldn cd_96_56 u7 ?_
        refine e_getR cd_96_57 fd_96_81 rfl ?_
        refine e_ildn cd_96_60 u9 ?_
        refine k_opt hs (fun _ q => nomatch q) (fun k17 h18 hs => ?_)
        obtain ⟨c19, hs⟩ := z_ite hs
        refine e_iald cd_96_61 rfl h18 c19 ?_
        obtain ⟨q20, h21, hs⟩ := k_bind hs
        refine e_cvi cd_96_62 kd_96_249 rfl rfl rfl rfl rfl nl_40 rfl rfl (tie_mo_leaf d t0 v1 (zm_I M 20 k17 (v2 : Int32).toNatClampNeg) M _ h21) ?_
        refine e_const cd_96_65 ci_2 ?_
        obtain ⟨q22, h23, hs⟩ := k_bind hs
        refine e_cvi cd_96_66 kd_96_240 rfl rfl rfl rfl rfl nl_36 rfl rfl (tie_mo_at d t0 q20.1 2 q20.2 _ h23) ?_
        refine e_iK cd_96_69 nl_96 rfl rfl ?_
        intro _ gn kp
        have u24 := kp 0 _ u7 rfl rfl
        have u25 := kp 1 _ u8 rfl rfl
        have u26 := kp 3 _ u10 rfl rfl
        have u27 := kp 4 _ u11 rfl rfl
        have u28 := kp 5 _ u12 rfl rfl
        have u29 := gn
        exact tie_mo_goes_71  d  zLF t0 v1 v3 v4 x5 q22.1 q22.2 so _ u24 u25 u26 u27 u28 u29 hs
    · refine e_icN cd_96_7 rfl c1 ?_
      refine e_aldn cd_96_10 g0 ?_
      refine e_getR cd_96_11 fd_96_81 rfl ?_
      refine e_ild cd_96_14 g4 ?_
      refine e_ild cd_96_16 g5 ?_
      refine e_pure cd_96_18 rfl ?_
      refine e_aldn cd_96_19 g0 ?_
      refine e_getR cd_96_20 fd_96_81 rfl ?_
      refine e_ildn cd_96_23 g2 ?_
      refine e_ild cd_96_24 g5 ?_
      refine e_pure cd_96_26 rfl ?_
      refine k_opt hs (fun _ q => nomatch q) (fun k30 h31 hs => ?_)
      obtain ⟨c32, hs⟩ := z_ite hs
      refine e_iald cd_96_27 rfl h31 c32 ?_
      obtain ⟨c33, hs⟩ := z_ite hs
      refine k_let hs (fun M34 e35 hs => ?_)
      refine e_iast cd_96_28 rfl h31 c33 e35 ?_
      refine k_let hs (fun x36 e37 hs => ?_)
      refine e_incK cd_96_29 nl_96 rfl g5 ci_1 e37 ?_
      intro _ gn kp
      have u38 := kp 0 _ g0 rfl rfl
      have u39 := kp 1 _ g1 rfl rfl
      have u40 := kp 2 _ g2 rfl rfl
      have u41 := kp 3 _ g3 rfl rfl
      have u42 := kp 4 _ g4 rfl rfl
      have u43 := gn
      refine e_goto cd_96_32 rfl ?_
      exact ih t0 v1 v2 v3 v4 x36 M34 so _ u38 u39 u40 u41 u42 u43 hs
theorem tieb_mo_goes  (d : Nat)  (a0 : Nat) (a1 : Int32) (a2 : Int32) (a3 : Int32) (a4 : Int32) (M : zM) (so : zM) (hs : mo_goes_b  d a0 a1 a2 a3 a4 M = some so) : Ev zq_T (d + 1) 96 0 (zl_args 0 [.inr (.inr (12, some a0)), .inl a1, .inl a2, .inl a3, .inl a4]) [] M (none, so) := by
  unfold mo_goes_b at hs
  have g0 : zl_get (zl_args 0 [.inr (.inr (12, some a0)), .inl a1, .inl a2, .inl a3, .inl a4]) 0 = some (.inr (.inr (12, (some a0)))) := rfl
  have g1 : zl_get (zl_args 0 [.inr (.inr (12, some a0)), .inl a1, .inl a2, .inl a3, .inl a4]) 1 = some (.inl a1) := rfl
  have g2 : zl_get (zl_args 0 [.inr (.inr (12, some a0)), .inl a1, .inl a2, .inl a3, .inl a4]) 2 = some (.inl a2) := rfl
  have g3 : zl_get (zl_args 0 [.inr (.inr (12, some a0)), .inl a1, .inl a2, .inl a3, .inl a4]) 3 = some (.inl a3) := rfl
  have g4 : zl_get (zl_args 0 [.inr (.inr (12, some a0)), .inl a1, .inl a2, .inl a3, .inl a4]) 4 = some (.inl a4) := rfl
  refine e_const cd_96_0 ci_0 ?_
  refine e_iK cd_96_1 nl_96 rfl rfl ?_
  intro _ gn kp
  have u1 := kp 0 _ g0 rfl rfl
  have u2 := kp 1 _ g1 rfl rfl
  have u3 := kp 2 _ g2 rfl rfl
  have u4 := kp 3 _ g3 rfl rfl
  have u5 := kp 4 _ g4 rfl rfl
  have u6 := gn
  exact tie_mo_goes_3  d  zLF a0 a1 a2 a3 a4 0 M so _ u1 u2 u3 u4 u5 u6 hs
theorem tie_mo_goes (d : Nat) (a0 : Nat) (a1 : Int32) (a2 : Int32) (a3 : Int32) (a4 : Int32) (M : zM) (so : zM) (hs : mo_goes d a0 a1 a2 a3 a4 M = some so) : Ev zq_T d 96 0 (zl_args 0 [.inr (.inr (12, some a0)), .inl a1, .inl a2, .inl a3, .inl a4]) [] M (none, so) := by
  cases d with
  | zero => exact nomatch hs
  | succ d => exact tieb_mo_goes d a0 a1 a2 a3 a4 M so hs
theorem tie_mo_steps_87 (kl14 : Nat → Int32 → Int32 → Int32 → Int32 → Int32 → zM → Option (Int32 × zM)) (d : Nat) (hk14 : ∀ (t0 : Nat) (v1 : Int32) (v2 : Int32) (v3 : Int32) (v4 : Int32) (v5 : Int32) (M : zM) (so : Int32 × zM) (ls : List (Nat × zV)), zl_get ls 0 = some (.inr (.inr (12, (some t0)))) → zl_get ls 1 = some (.inl v1) → zl_get ls 2 = some (.inl v2) → zl_get ls 3 = some (.inl v3) → zl_get ls 4 = some (.inl v4) → zl_get ls 5 = some (.inl v5) → kl14 t0 v1 v2 v3 v4 v5 M = some so → Ev zq_T (d + 1) 97 14 ls [] M (some (.inl so.1), so.2)) (t0 : Nat) (v1 : Int32) (v2 : Int32) (v3 : Int32) (v4 : Int32) (v5 : Int32) (M : zM) (so : Int32 × zM) (ls : List (Nat × zV)) (g0 : zl_get ls 0 = some (.inr (.inr (12, (some t0))))) (g1 : zl_get ls 1 = some (.inl v1)) (g2 : zl_get ls 2 = some (.inl v2)) (g3 : zl_get ls 3 = some (.inl v3)) (g4 : zl_get ls 4 = some (.inl v4)) (g5 : zl_get ls 5 = some (.inl v5)) (hs : mo_steps_87 kl14 d t0 v1 v2 v3 v4 v5 M = some so) : Ev zq_T (d + 1) 97 87 ls [] M (some (.inl so.1), so.2) := by
  unfold mo_steps_87 at hs
  refine k_let hs (fun x1 e2 hs => ?_)
  refine e_incK cd_97_87 nl_97 rfl g5 ci_1 e2 ?_
  intro _ gn kp
  have u3 := kp 0 _ g0 rfl rfl
  have u4 := kp 1 _ g1 rfl rfl
  have u5 := kp 2 _ g2 rfl rfl
  have u6 := kp 3 _ g3 rfl rfl
  have u7 := kp 4 _ g4 rfl rfl
  have u8 := gn
  refine e_goto cd_97_90 rfl ?_
  exact hk14 t0 v1 v2 v3 v4 x1 M so _ u3 u4 u5 u6 u7 u8 hs
theorem tie_mo_steps_14  (d : Nat)  : ∀ (fuel : Nat) (t0 : Nat) (v1 : Int32) (v2 : Int32) (v3 : Int32) (v4 : Int32) (v5 : Int32) (M : zM) (so : Int32 × zM) (ls : List (Nat × zV)), zl_get ls 0 = some (.inr (.inr (12, (some t0)))) → zl_get ls 1 = some (.inl v1) → zl_get ls 2 = some (.inl v2) → zl_get ls 3 = some (.inl v3) → zl_get ls 4 = some (.inl v4) → zl_get ls 5 = some (.inl v5) → mo_steps_14  d fuel t0 v1 v2 v3 v4 v5 M = some so → Ev zq_T (d + 1) 97 14 ls [] M (some (.inl so.1), so.2) := by
  intro fuel
  induction fuel with
  | zero => intro t0 v1 v2 v3 v4 v5 M so ls g0 g1 g2 g3 g4 g5 hs; exact nomatch hs
  | succ fuel ih =>
    intro t0 v1 v2 v3 v4 v5 M so ls g0 g1 g2 g3 g4 g5 hs
    unfold mo_steps_14 at hs
    refine e_ild cd_97_14 g5 ?_
    refine e_aldn cd_97_16 g0 ?_
    refine e_getI cd_97_17 (Or.inl fd_97_265) rfl ?_
    refine k_if hs (fun c1 hs => ?_) (fun c1 hs => ?_)
    · refine e_icJ cd_97_20 rfl c1 ?_
      refine e_const cd_97_93 ci_0 ?_
      have e := Option.some.inj hs
      subst e
      exact e_rz cd_97_94 nr_97 (Or.inl rfl)
    · refine e_icN cd_97_20 rfl c1 ?_
      refine e_aldn cd_97_23 g0 ?_
      refine e_ildn cd_97_24 g1 ?_
      refine e_aldn cd_97_25 g0 ?_
      refine e_getR cd_97_26 fd_97_50 rfl ?_
      refine e_ild cd_97_29 g5 ?_
      refine k_opt hs (fun _ q => nomatch q) (fun k2 h3 hs => ?_)
      obtain ⟨c4, hs⟩ := z_ite hs
      refine e_iald cd_97_31 rfl h3 c4 ?_
      obtain ⟨q5, h6, hs⟩ := k_bind hs
      refine e_cvi cd_97_32 kd_97_289 rfl rfl rfl rfl rfl nl_39 rfl rfl (tie_mo_letterOf d t0 v1 (zm_I M 20 k2 (v5 : Int32).toNatClampNeg) M _ h6) ?_
      refine e_ildn cd_97_35 g3 ?_
      refine k_if hs (fun c7 hs => ?_) (fun c7 hs => ?_)
      · refine e_icN cd_97_36 rfl (fun q => q c7) ?_
        refine e_aldn cd_97_39 g0 ?_
        refine e_ildn cd_97_40 g1 ?_
        refine e_ildn cd_97_41 g2 ?_
        refine e_ild cd_97_42 g5 ?_
        obtain ⟨q8, h9, hs⟩ := k_bind hs
        refine e_cvi cd_97_44 kd_97_426 rfl rfl rfl rfl rfl nl_93 rfl rfl (tie_mo_canGo d t0 v1 v2 v5 q5.2 _ h9) ?_
        refine k_if hs (fun c10 hs => ?_) (fun c10 hs => ?_)
        · refine e_izN cd_97_47 rfl (fun q => q c10) ?_
          refine e_goto cd_97_50 rfl ?_
          exact tie_mo_steps_87 (fun p0 p1 p2 p3 p4 p5 m => mo_steps_14  d fuel p0 p1 p2 p3 p4 p5 m) d ih t0 v1 v2 v3 v4 v5 q8.2 so _ g0 g1 g2 g3 g4 g5 hs
        · refine e_izJ cd_97_47 rfl c10 ?_
          refine e_aldn cd_97_53 g0 ?_
          refine e_aldn cd_97_54 g0 ?_
          refine e_getR cd_97_55 fd_97_50 rfl ?_
          refine e_ild cd_97_58 g5 ?_
          refine k_opt hs (fun _ q => nomatch q) (fun k11 h12 hs => ?_)
          obtain ⟨c13, hs⟩ := z_ite hs
          refine e_iald cd_97_60 rfl h12 c13 ?_
          refine k_let hs (fun M14 e15 hs => ?_)
          refine e_putI cd_97_61 pd_97_429 rfl e15 ?_
          refine e_aldn cd_97_64 g0 ?_
          refine e_aldn cd_97_65 g0 ?_
          refine e_getR cd_97_66 fd_97_53 rfl ?_
          refine e_ild cd_97_69 g5 ?_
          refine k_opt hs (fun _ q => nomatch q) (fun k16 h17 hs => ?_)
          obtain ⟨c18, hs⟩ := z_ite hs
          refine e_iald cd_97_71 rfl h17 c18 ?_
          refine k_let hs (fun M19 e20 hs => ?_)
          refine e_putI cd_97_72 pd_97_432 rfl e20 ?_
          refine e_aldn cd_97_75 g0 ?_
          refine e_ildn cd_97_76 g1 ?_
          refine e_ildn cd_97_77 g2 ?_
          refine e_ild cd_97_78 g5 ?_
          refine e_ild cd_97_80 g4 ?_
          obtain ⟨q21, h22, hs⟩ := k_bind hs
          refine e_cvi cd_97_82 kd_97_435 rfl rfl rfl rfl rfl nl_96 rfl rfl (tie_mo_goes d t0 v1 v2 v5 v4 M19 _ h22) ?_
          refine e_const cd_97_85 ci_1 ?_
          have e := Option.some.inj hs
          subst e
          exact e_rz cd_97_86 nr_97 (Or.inr rfl)
      · refine e_icJ cd_97_36 rfl c7 ?_
        exact tie_mo_steps_87 (fun p0 p1 p2 p3 p4 p5 m => mo_steps_14  d fuel p0 p1 p2 p3 p4 p5 m) d ih t0 v1 v2 v3 v4 v5 q5.2 so _ g0 g1 g2 g3 g4 g5 hs
theorem tieb_mo_steps  (d : Nat)  (a0 : Nat) (a1 : Int32) (a2 : Int32) (a3 : Int32) (a4 : Int32) (M : zM) (so : Int32 × zM) (hs : mo_steps_b  d a0 a1 a2 a3 a4 M = some so) : Ev zq_T (d + 1) 97 0 (zl_args 0 [.inr (.inr (12, some a0)), .inl a1, .inl a2, .inl a3, .inl a4]) [] M (some (.inl so.1), so.2) := by
  unfold mo_steps_b at hs
  have g0 : zl_get (zl_args 0 [.inr (.inr (12, some a0)), .inl a1, .inl a2, .inl a3, .inl a4]) 0 = some (.inr (.inr (12, (some a0)))) := rfl
  have g1 : zl_get (zl_args 0 [.inr (.inr (12, some a0)), .inl a1, .inl a2, .inl a3, .inl a4]) 1 = some (.inl a1) := rfl
  have g2 : zl_get (zl_args 0 [.inr (.inr (12, some a0)), .inl a1, .inl a2, .inl a3, .inl a4]) 2 = some (.inl a2) := rfl
  have g3 : zl_get (zl_args 0 [.inr (.inr (12, some a0)), .inl a1, .inl a2, .inl a3, .inl a4]) 3 = some (.inl a3) := rfl
  have g4 : zl_get (zl_args 0 [.inr (.inr (12, some a0)), .inl a1, .inl a2, .inl a3, .inl a4]) 4 = some (.inl a4) := rfl
  refine e_aldn cd_97_0 g0 ?_
  refine e_ildn cd_97_1 g1 ?_
  refine e_aldn cd_97_2 g0 ?_
  refine e_getR cd_97_3 fd_97_81 rfl ?_
  refine e_ildn cd_97_6 g2 ?_
  refine k_opt hs (fun _ q => nomatch q) (fun k1 h2 hs => ?_)
  obtain ⟨c3, hs⟩ := z_ite hs
  refine e_iald cd_97_7 rfl h2 c3 ?_
  obtain ⟨q4, h5, hs⟩ := k_bind hs
  refine e_cvi cd_97_8 kd_97_338 rfl rfl rfl rfl rfl nl_49 rfl rfl (tie_mo_laysWays d a0 a1 (zm_I M 20 k1 (a2 : Int32).toNatClampNeg) M _ h5) ?_
  refine e_const cd_97_11 ci_0 ?_
  refine e_iK cd_97_12 nl_97 rfl rfl ?_
  intro _ gn kp
  have u6 := kp 0 _ g0 rfl rfl
  have u7 := kp 1 _ g1 rfl rfl
  have u8 := kp 2 _ g2 rfl rfl
  have u9 := kp 3 _ g3 rfl rfl
  have u10 := kp 4 _ g4 rfl rfl
  have u11 := gn
  exact tie_mo_steps_14  d  zLF a0 a1 a2 a3 a4 0 q4 so _ u6 u7 u8 u9 u10 u11 hs
theorem tie_mo_steps (d : Nat) (a0 : Nat) (a1 : Int32) (a2 : Int32) (a3 : Int32) (a4 : Int32) (M : zM) (so : Int32 × zM) (hs : mo_steps d a0 a1 a2 a3 a4 M = some so) : Ev zq_T d 97 0 (zl_args 0 [.inr (.inr (12, some a0)), .inl a1, .inl a2, .inl a3, .inl a4]) [] M (some (.inl so.1), so.2) := by
  cases d with
  | zero => exact nomatch hs
  | succ d => exact tieb_mo_steps d a0 a1 a2 a3 a4 M so hs
theorem tie_mo_couldCome_53 (kl16 : Nat → Int32 → Int32 → Int32 → Int32 → zM → Option (Int32 × zM)) (d : Nat) (hk16 : ∀ (t0 : Nat) (v1 : Int32) (v2 : Int32) (v3 : Int32) (v4 : Int32) (M : zM) (so : Int32 × zM) (ls : List (Nat × zV)), zl_get ls 0 = some (.inr (.inr (12, (some t0)))) → zl_get ls 1 = some (.inl v1) → zl_get ls 2 = some (.inl v2) → zl_get ls 3 = some (.inl v3) → zl_get ls 4 = some (.inl v4) → kl16 t0 v1 v2 v3 v4 M = some so → Ev zq_T (d + 1) 98 16 ls [] M (some (.inl so.1), so.2)) (t0 : Nat) (v1 : Int32) (v2 : Int32) (v3 : Int32) (v4 : Int32) (M : zM) (so : Int32 × zM) (ls : List (Nat × zV)) (g0 : zl_get ls 0 = some (.inr (.inr (12, (some t0))))) (g1 : zl_get ls 1 = some (.inl v1)) (g2 : zl_get ls 2 = some (.inl v2)) (g3 : zl_get ls 3 = some (.inl v3)) (g4 : zl_get ls 4 = some (.inl v4)) (hs : mo_couldCome_53 kl16 d t0 v1 v2 v3 v4 M = some so) : Ev zq_T (d + 1) 98 53 ls [] M (some (.inl so.1), so.2) := by
  unfold mo_couldCome_53 at hs
  refine k_let hs (fun x1 e2 hs => ?_)
  refine e_incK cd_98_53 nl_98 rfl g4 ci_1 e2 ?_
  intro _ gn kp
  have u3 := kp 0 _ g0 rfl rfl
  have u4 := kp 1 _ g1 rfl rfl
  have u5 := kp 2 _ g2 rfl rfl
  have u6 := kp 3 _ g3 rfl rfl
  have u7 := gn
  refine e_goto cd_98_56 rfl ?_
  exact hk16 t0 v1 v2 v3 x1 M so _ u3 u4 u5 u6 u7 hs
theorem tie_mo_couldCome_16  (d : Nat)  : ∀ (fuel : Nat) (t0 : Nat) (v1 : Int32) (v2 : Int32) (v3 : Int32) (v4 : Int32) (M : zM) (so : Int32 × zM) (ls : List (Nat × zV)), zl_get ls 0 = some (.inr (.inr (12, (some t0)))) → zl_get ls 1 = some (.inl v1) → zl_get ls 2 = some (.inl v2) → zl_get ls 3 = some (.inl v3) → zl_get ls 4 = some (.inl v4) → mo_couldCome_16  d fuel t0 v1 v2 v3 v4 M = some so → Ev zq_T (d + 1) 98 16 ls [] M (some (.inl so.1), so.2) := by
  intro fuel
  induction fuel with
  | zero => intro t0 v1 v2 v3 v4 M so ls g0 g1 g2 g3 g4 hs; exact nomatch hs
  | succ fuel ih =>
    intro t0 v1 v2 v3 v4 M so ls g0 g1 g2 g3 g4 hs
    unfold mo_couldCome_16 at hs
    refine e_ild cd_98_16 g4 ?_
    refine e_aldn cd_98_18 g0 ?_
    refine e_getI cd_98_19 (Or.inl fd_98_265) rfl ?_
    refine k_if hs (fun c1 hs => ?_) (fun c1 hs => ?_)
    · refine e_icJ cd_98_22 rfl c1 ?_
      refine e_ildn cd_98_59 g3 ?_
      have e := Option.some.inj hs
      subst e
      exact e_ri cd_98_60 nr_98
    · refine e_icN cd_98_22 rfl c1 ?_
      refine e_aldn cd_98_25 g0 ?_
      refine e_ildn cd_98_26 g1 ?_
      refine e_ildn cd_98_27 g2 ?_
      refine e_ild cd_98_28 g4 ?_
      obtain ⟨q2, h3, hs⟩ := k_bind hs
      refine e_cvi cd_98_30 kd_98_426 rfl rfl rfl rfl rfl nl_93 rfl rfl (tie_mo_canGo d t0 v1 v2 v4 M _ h3) ?_
      refine k_if hs (fun c4 hs => ?_) (fun c4 hs => ?_)
      · refine e_izJ cd_98_33 rfl c4 ?_
        exact tie_mo_couldCome_53 (fun p0 p1 p2 p3 p4 m => mo_couldCome_16  d fuel p0 p1 p2 p3 p4 m) d ih t0 v1 v2 v3 v4 q2.2 so _ g0 g1 g2 g3 g4 hs
      · refine e_izN cd_98_33 rfl c4 ?_
        refine e_ildn cd_98_36 g3 ?_
        refine e_const cd_98_37 ci_1 ?_
        refine e_aldn cd_98_38 g0 ?_
        refine e_ildn cd_98_39 g1 ?_
        refine e_aldn cd_98_40 g0 ?_
        refine e_getR cd_98_41 fd_98_50 rfl ?_
        refine e_ild cd_98_44 g4 ?_
        refine k_opt hs (fun _ q => nomatch q) (fun k5 h6 hs => ?_)
        obtain ⟨c7, hs⟩ := z_ite hs
        refine e_iald cd_98_46 rfl h6 c7 ?_
        obtain ⟨q8, h9, hs⟩ := k_bind hs
        refine e_cvi cd_98_47 kd_98_289 rfl rfl rfl rfl rfl nl_39 rfl rfl (tie_mo_letterOf d t0 v1 (zm_I q2.2 20 k5 (v4 : Int32).toNatClampNeg) q2.2 _ h9) ?_
        refine e_pure cd_98_50 rfl ?_
        refine e_pure cd_98_51 rfl ?_
        refine k_let hs (fun x10 e11 hs => ?_)
        refine e_iKn cd_98_52 nl_98 rfl e11 ?_
        intro _ gn kp
        have u12 := kp 0 _ g0 rfl rfl
        have u13 := kp 1 _ g1 rfl rfl
        have u14 := kp 2 _ g2 rfl rfl
        have u15 := kp 4 _ g4 rfl rfl
        have u16 := gn
        exact tie_mo_couldCome_53 (fun p0 p1 p2 p3 p4 m => mo_couldCome_16  d fuel p0 p1 p2 p3 p4 m) d ih t0 v1 v2 x10 v4 q8.2 so _ u12 u13 u14 u16 u15 hs
theorem tieb_mo_couldCome  (d : Nat)  (a0 : Nat) (a1 : Int32) (a2 : Int32) (M : zM) (so : Int32 × zM) (hs : mo_couldCome_b  d a0 a1 a2 M = some so) : Ev zq_T (d + 1) 98 0 (zl_args 0 [.inr (.inr (12, some a0)), .inl a1, .inl a2]) [] M (some (.inl so.1), so.2) := by
  unfold mo_couldCome_b at hs
  have g0 : zl_get (zl_args 0 [.inr (.inr (12, some a0)), .inl a1, .inl a2]) 0 = some (.inr (.inr (12, (some a0)))) := rfl
  have g1 : zl_get (zl_args 0 [.inr (.inr (12, some a0)), .inl a1, .inl a2]) 1 = some (.inl a1) := rfl
  have g2 : zl_get (zl_args 0 [.inr (.inr (12, some a0)), .inl a1, .inl a2]) 2 = some (.inl a2) := rfl
  refine e_const cd_98_0 ci_0 ?_
  refine e_iKn cd_98_1 nl_98 rfl rfl ?_
  intro _ gn kp
  have u1 := kp 0 _ g0 rfl rfl
  have u2 := kp 1 _ g1 rfl rfl
  have u3 := kp 2 _ g2 rfl rfl
  have u4 := gn
  refine e_aldn cd_98_2 u1 ?_
  refine e_ildn cd_98_3 u2 ?_
  refine e_aldn cd_98_4 u1 ?_
  refine e_getR cd_98_5 fd_98_81 rfl ?_
  refine e_ildn cd_98_8 u3 ?_
  refine k_opt hs (fun _ q => nomatch q) (fun k5 h6 hs => ?_)
  obtain ⟨c7, hs⟩ := z_ite hs
  refine e_iald cd_98_9 rfl h6 c7 ?_
  obtain ⟨q8, h9, hs⟩ := k_bind hs
  refine e_cvi cd_98_10 kd_98_338 rfl rfl rfl rfl rfl nl_49 rfl rfl (tie_mo_laysWays d a0 a1 (zm_I M 20 k5 (a2 : Int32).toNatClampNeg) M _ h9) ?_
  refine e_const cd_98_13 ci_0 ?_
  refine e_iK cd_98_14 nl_98 rfl rfl ?_
  intro _ gn kp
  have u10 := kp 0 _ u1 rfl rfl
  have u11 := kp 1 _ u2 rfl rfl
  have u12 := kp 2 _ u3 rfl rfl
  have u13 := kp 3 _ u4 rfl rfl
  have u14 := gn
  exact tie_mo_couldCome_16  d  zLF a0 a1 a2 0 0 q8 so _ u10 u11 u12 u13 u14 hs
theorem tie_mo_couldCome (d : Nat) (a0 : Nat) (a1 : Int32) (a2 : Int32) (M : zM) (so : Int32 × zM) (hs : mo_couldCome d a0 a1 a2 M = some so) : Ev zq_T d 98 0 (zl_args 0 [.inr (.inr (12, some a0)), .inl a1, .inl a2]) [] M (some (.inl so.1), so.2) := by
  cases d with
  | zero => exact nomatch hs
  | succ d => exact tieb_mo_couldCome d a0 a1 a2 M so hs
theorem tie_mo_goesThrough_32 (kl8 : Nat → Int32 → Option Nat → Int32 → Int32 → zM → Option (Int32 × zM)) (d : Nat) (hk8 : ∀ (t0 : Nat) (v1 : Int32) (v2 : Option Nat) (v3 : Int32) (v4 : Int32) (M : zM) (so : Int32 × zM) (ls : List (Nat × zV)), zl_get ls 0 = some (.inr (.inr (12, (some t0)))) → zl_get ls 1 = some (.inl v1) → zl_get ls 2 = some (.inr (.inr (20, v2))) → zl_get ls 3 = some (.inl v3) → zl_get ls 4 = some (.inl v4) → kl8 t0 v1 v2 v3 v4 M = some so → Ev zq_T (d + 1) 99 8 ls [] M (some (.inl so.1), so.2)) : ∀ (fuel : Nat) (t0 : Nat) (v1 : Int32) (v2 : Option Nat) (v3 : Int32) (v4 : Int32) (v5 : Int32) (M : zM) (so : Int32 × zM) (ls : List (Nat × zV)), zl_get ls 0 = some (.inr (.inr (12, (some t0)))) → zl_get ls 1 = some (.inl v1) → zl_get ls 2 = some (.inr (.inr (20, v2))) → zl_get ls 3 = some (.inl v3) → zl_get ls 4 = some (.inl v4) → zl_get ls 5 = some (.inl v5) → mo_goesThrough_32 kl8 d fuel t0 v1 v2 v3 v4 v5 M = some so → Ev zq_T (d + 1) 99 32 ls [] M (some (.inl so.1), so.2) := by
  intro fuel
  induction fuel with
  | zero => intro t0 v1 v2 v3 v4 v5 M so ls g0 g1 g2 g3 g4 g5 hs; exact nomatch hs
  | succ fuel ih =>
    intro t0 v1 v2 v3 v4 v5 M so ls g0 g1 g2 g3 g4 g5 hs
    unfold mo_goesThrough_32 at hs
    refine e_ild cd_99_32 g5 ?_
    refine e_bip cd_99_34 cb_13 ?_
    refine k_if hs (fun c1 hs => ?_) (fun c1 hs => ?_)
    · refine e_icJ cd_99_36 rfl c1 ?_
      refine e_aldn cd_99_62 g0 ?_
      refine e_getR cd_99_63 fd_99_87 rfl ?_
      refine e_ild cd_99_66 g4 ?_
      refine e_aldn cd_99_68 g0 ?_
      refine e_getI cd_99_69 (Or.inl fd_99_429) rfl ?_
      refine k_opt hs (fun _ q => nomatch q) (fun k2 h3 hs => ?_)
      obtain ⟨c4, hs⟩ := z_ite hs
      refine k_let hs (fun M5 e6 hs => ?_)
      refine e_iast cd_99_72 rfl h3 c4 e6 ?_
      refine e_aldn cd_99_73 g0 ?_
      refine e_getR cd_99_74 fd_99_90 rfl ?_
      refine e_ild cd_99_77 g4 ?_
      refine e_aldn cd_99_79 g0 ?_
      refine e_getI cd_99_80 (Or.inl fd_99_432) rfl ?_
      refine k_opt hs (fun _ q => nomatch q) (fun k7 h8 hs => ?_)
      obtain ⟨c9, hs⟩ := z_ite hs
      refine k_let hs (fun M10 e11 hs => ?_)
      refine e_iast cd_99_83 rfl h8 c9 e11 ?_
      refine k_let hs (fun x12 e13 hs => ?_)
      refine e_incK cd_99_84 nl_99 rfl g4 ci_1 e13 ?_
      intro _ gn kp
      have u14 := kp 0 _ g0 rfl rfl
      have u15 := kp 1 _ g1 rfl rfl
      have u16 := kp 2 _ g2 rfl rfl
      have u17 := kp 3 _ g3 rfl rfl
      have u18 := gn
      refine e_goto cd_99_87 rfl ?_
      exact hk8 t0 v1 v2 v3 x12 M10 so _ u14 u15 u16 u17 u18 hs
    · refine e_icN cd_99_36 rfl c1 ?_
      refine e_aldn cd_99_39 g0 ?_
      refine e_getR cd_99_40 fd_99_81 rfl ?_
      refine e_ild cd_99_43 g5 ?_
      refine e_aldn cd_99_45 g0 ?_
      refine e_getR cd_99_46 fd_99_81 rfl ?_
      refine e_bip cd_99_49 cb_13 ?_
      refine e_ild cd_99_51 g5 ?_
      refine e_pure cd_99_53 rfl ?_
      refine k_opt hs (fun _ q => nomatch q) (fun k19 h20 hs => ?_)
      obtain ⟨c21, hs⟩ := z_ite hs
      refine e_iald cd_99_54 rfl h20 c21 ?_
      obtain ⟨c22, hs⟩ := z_ite hs
      refine k_let hs (fun M23 e24 hs => ?_)
      refine e_iast cd_99_55 rfl h20 c22 e24 ?_
      refine k_let hs (fun x25 e26 hs => ?_)
      refine e_incK cd_99_56 nl_99 rfl g5 ci_1 e26 ?_
      intro _ gn kp
      have u27 := kp 0 _ g0 rfl rfl
      have u28 := kp 1 _ g1 rfl rfl
      have u29 := kp 2 _ g2 rfl rfl
      have u30 := kp 3 _ g3 rfl rfl
      have u31 := kp 4 _ g4 rfl rfl
      have u32 := gn
      refine e_goto cd_99_59 rfl ?_
      exact ih t0 v1 v2 v3 v4 x25 M23 so _ u27 u28 u29 u30 u31 u32 hs
theorem tie_mo_goesThrough_90  (d : Nat)  (v4 : Int32) (M : zM) (so : Int32 × zM) (ls : List (Nat × zV)) (g4 : zl_get ls 4 = some (.inl v4)) (hs : mo_goesThrough_90  d v4 M = some so) : Ev zq_T (d + 1) 99 90 ls [] M (some (.inl so.1), so.2) := by
  unfold mo_goesThrough_90 at hs
  refine e_ild cd_99_90 g4 ?_
  have e := Option.some.inj hs
  subst e
  exact e_ri cd_99_92 nr_99
theorem tie_mo_goesThrough_8  (d : Nat)  : ∀ (fuel : Nat) (t0 : Nat) (v1 : Int32) (v2 : Option Nat) (v3 : Int32) (v4 : Int32) (M : zM) (so : Int32 × zM) (ls : List (Nat × zV)), zl_get ls 0 = some (.inr (.inr (12, (some t0)))) → zl_get ls 1 = some (.inl v1) → zl_get ls 2 = some (.inr (.inr (20, v2))) → zl_get ls 3 = some (.inl v3) → zl_get ls 4 = some (.inl v4) → mo_goesThrough_8  d fuel t0 v1 v2 v3 v4 M = some so → Ev zq_T (d + 1) 99 8 ls [] M (some (.inl so.1), so.2) := by
  intro fuel
  induction fuel with
  | zero => intro t0 v1 v2 v3 v4 M so ls g0 g1 g2 g3 g4 hs; exact nomatch hs
  | succ fuel ih =>
    intro t0 v1 v2 v3 v4 M so ls g0 g1 g2 g3 g4 hs
    unfold mo_goesThrough_8 at hs
    refine e_ild cd_99_8 g4 ?_
    refine e_ildn cd_99_10 g3 ?_
    refine k_if hs (fun c1 hs => ?_) (fun c1 hs => ?_)
    · refine e_icJ cd_99_11 rfl c1 ?_
      exact tie_mo_goesThrough_90  d  v4 M so _ g4 hs
    · refine e_icN cd_99_11 rfl c1 ?_
      refine e_aldn cd_99_14 g0 ?_
      refine e_ildn cd_99_15 g1 ?_
      refine e_const cd_99_16 ci_0 ?_
      refine e_aldn cd_99_17 g2 ?_
      refine e_ild cd_99_18 g4 ?_
      refine k_opt hs (fun _ q => nomatch q) (fun k2 h3 hs => ?_)
      obtain ⟨c4, hs⟩ := z_ite hs
      refine e_iald cd_99_20 rfl h3 c4 ?_
      refine e_bip cd_99_21 cb_13 ?_
      obtain ⟨q5, h6, hs⟩ := k_bind hs
      refine e_cvi cd_99_23 kd_99_441 rfl rfl rfl rfl rfl nl_97 rfl rfl (tie_mo_steps d t0 v1 0 (zm_I M 20 k2 (v4 : Int32).toNatClampNeg) 13 M _ h6) ?_
      refine k_if hs (fun c7 hs => ?_) (fun c7 hs => ?_)
      · refine e_izJ cd_99_26 rfl c7 ?_
        exact tie_mo_goesThrough_90  d  v4 q5.2 so _ g4 hs
      · refine e_izN cd_99_26 rfl c7 ?_
        refine e_const cd_99_29 ci_0 ?_
        refine e_iK cd_99_30 nl_99 rfl rfl ?_
        intro _ gn kp
        have u8 := kp 0 _ g0 rfl rfl
        have u9 := kp 1 _ g1 rfl rfl
        have u10 := kp 2 _ g2 rfl rfl
        have u11 := kp 3 _ g3 rfl rfl
        have u12 := kp 4 _ g4 rfl rfl
        have u13 := gn
        exact tie_mo_goesThrough_32 (fun p0 p1 p2 p3 p4 m => mo_goesThrough_8  d fuel p0 p1 p2 p3 p4 m) d ih zLF t0 v1 v2 v3 v4 0 q5.2 so _ u8 u9 u10 u11 u12 u13 hs
theorem tieb_mo_goesThrough  (d : Nat)  (a0 : Nat) (a1 : Int32) (a2 : Option Nat) (a3 : Int32) (M : zM) (so : Int32 × zM) (hs : mo_goesThrough_b  d a0 a1 a2 a3 M = some so) : Ev zq_T (d + 1) 99 0 (zl_args 0 [.inr (.inr (12, some a0)), .inl a1, .inr (.inr (20, a2)), .inl a3]) [] M (some (.inl so.1), so.2) := by
  unfold mo_goesThrough_b at hs
  have g0 : zl_get (zl_args 0 [.inr (.inr (12, some a0)), .inl a1, .inr (.inr (20, a2)), .inl a3]) 0 = some (.inr (.inr (12, (some a0)))) := rfl
  have g1 : zl_get (zl_args 0 [.inr (.inr (12, some a0)), .inl a1, .inr (.inr (20, a2)), .inl a3]) 1 = some (.inl a1) := rfl
  have g2 : zl_get (zl_args 0 [.inr (.inr (12, some a0)), .inl a1, .inr (.inr (20, a2)), .inl a3]) 2 = some (.inr (.inr (20, a2))) := rfl
  have g3 : zl_get (zl_args 0 [.inr (.inr (12, some a0)), .inl a1, .inr (.inr (20, a2)), .inl a3]) 3 = some (.inl a3) := rfl
  refine e_aldn cd_99_0 g0 ?_
  refine e_const cd_99_1 ci_0 ?_
  obtain ⟨q1, h2, hs⟩ := k_bind hs
  refine e_cvi cd_99_2 kd_99_438 rfl rfl rfl rfl rfl nl_89 rfl rfl (tie_mo_begins d a0 0 M _ h2) ?_
  refine e_const cd_99_5 ci_0 ?_
  refine e_iK cd_99_6 nl_99 rfl rfl ?_
  intro _ gn kp
  have u3 := kp 0 _ g0 rfl rfl
  have u4 := kp 1 _ g1 rfl rfl
  have u5 := kp 2 _ g2 rfl rfl
  have u6 := kp 3 _ g3 rfl rfl
  have u7 := gn
  exact tie_mo_goesThrough_8  d  zLF a0 a1 a2 a3 0 q1 so _ u3 u4 u5 u6 u7 hs
theorem tie_mo_goesThrough (d : Nat) (a0 : Nat) (a1 : Int32) (a2 : Option Nat) (a3 : Int32) (M : zM) (so : Int32 × zM) (hs : mo_goesThrough d a0 a1 a2 a3 M = some so) : Ev zq_T d 99 0 (zl_args 0 [.inr (.inr (12, some a0)), .inl a1, .inr (.inr (20, a2)), .inl a3]) [] M (some (.inl so.1), so.2) := by
  cases d with
  | zero => exact nomatch hs
  | succ d => exact tieb_mo_goesThrough d a0 a1 a2 a3 M so hs
theorem tie_mo_isWord_25  (d : Nat)  (s0 : Int32) (M : zM) (so : Int32 × zM) (ls : List (Nat × zV))  (hs : mo_isWord_25  d s0 M = some so) : Ev zq_T (d + 1) 100 25 ls [.inl s0] M (some (.inl so.1), so.2) := by
  unfold mo_isWord_25 at hs
  obtain ⟨c1, hs⟩ := z_ite hs
  have e := Option.some.inj hs
  subst e
  exact e_rz cd_100_25 nr_100 c1
theorem tie_mo_isWord_24  (d : Nat)   (M : zM) (so : Int32 × zM) (ls : List (Nat × zV))  (hs : mo_isWord_24  d  M = some so) : Ev zq_T (d + 1) 100 24 ls [] M (some (.inl so.1), so.2) := by
  unfold mo_isWord_24 at hs
  refine e_const cd_100_24 ci_0 ?_
  exact tie_mo_isWord_25  d  0 M so _  hs
theorem tieb_mo_isWord  (d : Nat)  (a0 : Nat) (a1 : Int32) (a2 : Option Nat) (a3 : Int32) (M : zM) (so : Int32 × zM) (hs : mo_isWord_b  d a0 a1 a2 a3 M = some so) : Ev zq_T (d + 1) 100 0 (zl_args 0 [.inr (.inr (12, some a0)), .inl a1, .inr (.inr (20, a2)), .inl a3]) [] M (some (.inl so.1), so.2) := by
  unfold mo_isWord_b at hs
  have g0 : zl_get (zl_args 0 [.inr (.inr (12, some a0)), .inl a1, .inr (.inr (20, a2)), .inl a3]) 0 = some (.inr (.inr (12, (some a0)))) := rfl
  have g1 : zl_get (zl_args 0 [.inr (.inr (12, some a0)), .inl a1, .inr (.inr (20, a2)), .inl a3]) 1 = some (.inl a1) := rfl
  have g2 : zl_get (zl_args 0 [.inr (.inr (12, some a0)), .inl a1, .inr (.inr (20, a2)), .inl a3]) 2 = some (.inr (.inr (20, a2))) := rfl
  have g3 : zl_get (zl_args 0 [.inr (.inr (12, some a0)), .inl a1, .inr (.inr (20, a2)), .inl a3]) 3 = some (.inl a3) := rfl
  refine e_aldn cd_100_0 g0 ?_
  refine e_ildn cd_100_1 g1 ?_
  refine e_aldn cd_100_2 g2 ?_
  refine e_ildn cd_100_3 g3 ?_
  obtain ⟨q1, h2, hs⟩ := k_bind hs
  refine e_cvi cd_100_4 kd_100_444 rfl rfl rfl rfl rfl nl_99 rfl rfl (tie_mo_goesThrough d a0 a1 a2 a3 M _ h2) ?_
  refine e_ildn cd_100_7 g3 ?_
  refine k_if hs (fun c3 hs => ?_) (fun c3 hs => ?_)
  · refine e_icN cd_100_8 rfl (fun q => q c3) ?_
    refine e_aldn cd_100_11 g0 ?_
    refine e_ildn cd_100_12 g1 ?_
    refine e_const cd_100_13 ci_0 ?_
    obtain ⟨q4, h5, hs⟩ := k_bind hs
    refine e_cvi cd_100_14 kd_100_448 rfl rfl rfl rfl rfl nl_94 rfl rfl (tie_mo_canEnd d a0 a1 0 q1.2 _ h5) ?_
    refine k_if hs (fun c6 hs => ?_) (fun c6 hs => ?_)
    · refine e_izJ cd_100_17 rfl c6 ?_
      exact tie_mo_isWord_24  d   q4.2 so _  hs
    · refine e_izN cd_100_17 rfl c6 ?_
      refine e_const cd_100_20 ci_1 ?_
      refine e_goto cd_100_21 rfl ?_
      exact tie_mo_isWord_25  d  1 q4.2 so _  hs
  · refine e_icJ cd_100_8 rfl c3 ?_
    exact tie_mo_isWord_24  d   q1.2 so _  hs
theorem tie_mo_isWord (d : Nat) (a0 : Nat) (a1 : Int32) (a2 : Option Nat) (a3 : Int32) (M : zM) (so : Int32 × zM) (hs : mo_isWord d a0 a1 a2 a3 M = some so) : Ev zq_T d 100 0 (zl_args 0 [.inr (.inr (12, some a0)), .inl a1, .inr (.inr (20, a2)), .inl a3]) [] M (some (.inl so.1), so.2) := by
  cases d with
  | zero => exact nomatch hs
  | succ d => exact tieb_mo_isWord d a0 a1 a2 a3 M so hs
theorem tie_mo_wordsFrom_18 (r_mo_wordsFrom : Nat → Int32 → Int32 → Int32 → zM → Option (Int32 × zM)) (d : Nat) (hr_mo_wordsFrom : ∀ a0 a1 a2 a3 M so, r_mo_wordsFrom a0 a1 a2 a3 M = some so → Ev zq_T d 101 0 (zl_args 0 [.inr (.inr (12, some a0)), .inl a1, .inl a2, .inl a3]) [] M (some (.inl so.1), so.2)) (s0 : Int32) (M : zM) (so : Int32 × zM) (ls : List (Nat × zV))  (hs : mo_wordsFrom_18 r_mo_wordsFrom d s0 M = some so) : Ev zq_T (d + 1) 101 18 ls [.inl s0] M (some (.inl so.1), so.2) := by
  unfold mo_wordsFrom_18 at hs
  have e := Option.some.inj hs
  subst e
  exact e_ri cd_101_18 nr_101
theorem tie_mo_wordsFrom_84 (r_mo_wordsFrom : Nat → Int32 → Int32 → Int32 → zM → Option (Int32 × zM)) (kl33 : Nat → Int32 → Int32 → Int32 → Int32 → Int32 → Int32 → zM → Option (Int32 × zM)) (d : Nat) (hr_mo_wordsFrom : ∀ a0 a1 a2 a3 M so, r_mo_wordsFrom a0 a1 a2 a3 M = some so → Ev zq_T d 101 0 (zl_args 0 [.inr (.inr (12, some a0)), .inl a1, .inl a2, .inl a3]) [] M (some (.inl so.1), so.2)) (hk33 : ∀ (t0 : Nat) (v1 : Int32) (v2 : Int32) (v3 : Int32) (v4 : Int32) (v5 : Int32) (v6 : Int32) (M : zM) (so : Int32 × zM) (ls : List (Nat × zV)), zl_get ls 0 = some (.inr (.inr (12, (some t0)))) → zl_get ls 1 = some (.inl v1) → zl_get ls 2 = some (.inl v2) → zl_get ls 3 = some (.inl v3) → zl_get ls 4 = some (.inl v4) → zl_get ls 5 = some (.inl v5) → zl_get ls 6 = some (.inl v6) → kl33 t0 v1 v2 v3 v4 v5 v6 M = some so → Ev zq_T (d + 1) 101 33 ls [] M (some (.inl so.1), so.2)) (t0 : Nat) (v1 : Int32) (v2 : Int32) (v3 : Int32) (v4 : Int32) (v5 : Int32) (v6 : Int32) (M : zM) (so : Int32 × zM) (ls : List (Nat × zV)) (g0 : zl_get ls 0 = some (.inr (.inr (12, (some t0))))) (g1 : zl_get ls 1 = some (.inl v1)) (g2 : zl_get ls 2 = some (.inl v2)) (g3 : zl_get ls 3 = some (.inl v3)) (g4 : zl_get ls 4 = some (.inl v4)) (g5 : zl_get ls 5 = some (.inl v5)) (g6 : zl_get ls 6 = some (.inl v6)) (hs : mo_wordsFrom_84 r_mo_wordsFrom kl33 d t0 v1 v2 v3 v4 v5 v6 M = some so) : Ev zq_T (d + 1) 101 84 ls [] M (some (.inl so.1), so.2) := by
  unfold mo_wordsFrom_84 at hs
  refine k_let hs (fun x1 e2 hs => ?_)
  refine e_incK cd_101_84 nl_101 rfl g6 ci_1 e2 ?_
  intro _ gn kp
  have u3 := kp 0 _ g0 rfl rfl
  have u4 := kp 1 _ g1 rfl rfl
  have u5 := kp 2 _ g2 rfl rfl
  have u6 := kp 3 _ g3 rfl rfl
  have u7 := kp 4 _ g4 rfl rfl
  have u8 := kp 5 _ g5 rfl rfl
  have u9 := gn
  refine e_goto cd_101_87 rfl ?_
  exact hk33 t0 v1 v2 v3 v4 v5 x1 M so _ u3 u4 u5 u6 u7 u8 u9 hs
theorem tie_mo_wordsFrom_33 (r_mo_wordsFrom : Nat → Int32 → Int32 → Int32 → zM → Option (Int32 × zM)) (d : Nat) (hr_mo_wordsFrom : ∀ a0 a1 a2 a3 M so, r_mo_wordsFrom a0 a1 a2 a3 M = some so → Ev zq_T d 101 0 (zl_args 0 [.inr (.inr (12, some a0)), .inl a1, .inl a2, .inl a3]) [] M (some (.inl so.1), so.2)) : ∀ (fuel : Nat) (t0 : Nat) (v1 : Int32) (v2 : Int32) (v3 : Int32) (v4 : Int32) (v5 : Int32) (v6 : Int32) (M : zM) (so : Int32 × zM) (ls : List (Nat × zV)), zl_get ls 0 = some (.inr (.inr (12, (some t0)))) → zl_get ls 1 = some (.inl v1) → zl_get ls 2 = some (.inl v2) → zl_get ls 3 = some (.inl v3) → zl_get ls 4 = some (.inl v4) → zl_get ls 5 = some (.inl v5) → zl_get ls 6 = some (.inl v6) → mo_wordsFrom_33 r_mo_wordsFrom d fuel t0 v1 v2 v3 v4 v5 v6 M = some so → Ev zq_T (d + 1) 101 33 ls [] M (some (.inl so.1), so.2) := by
  intro fuel
  induction fuel with
  | zero => intro t0 v1 v2 v3 v4 v5 v6 M so ls g0 g1 g2 g3 g4 g5 g6 hs; exact nomatch hs
  | succ fuel ih =>
    intro t0 v1 v2 v3 v4 v5 v6 M so ls g0 g1 g2 g3 g4 g5 g6 hs
    unfold mo_wordsFrom_33 at hs
    refine e_ild cd_101_33 g6 ?_
    refine e_bip cd_101_35 cb_26 ?_
    refine k_if hs (fun c1 hs => ?_) (fun c1 hs => ?_)
    · refine e_icJ cd_101_37 rfl c1 ?_
      refine e_ild cd_101_90 g5 ?_
      have e := Option.some.inj hs
      subst e
      exact e_ri cd_101_92 nr_101
    · refine e_icN cd_101_37 rfl c1 ?_
      refine e_ild cd_101_40 g4 ?_
      refine e_ild cd_101_42 g6 ?_
      obtain ⟨q2, h3, hs⟩ := k_bind hs
      refine e_cst cd_101_44 kd_101_413 rfl rfl rfl nl_3 rfl rfl (tie_mo_has d v4 v6 M _ h3) ?_
      refine k_if hs (fun c4 hs => ?_) (fun c4 hs => ?_)
      · refine e_izN cd_101_47 rfl (fun q => q c4) ?_
        refine e_goto cd_101_50 rfl ?_
        exact tie_mo_wordsFrom_84 r_mo_wordsFrom (fun p0 p1 p2 p3 p4 p5 p6 m => mo_wordsFrom_33 r_mo_wordsFrom d fuel p0 p1 p2 p3 p4 p5 p6 m) d hr_mo_wordsFrom ih t0 v1 v2 v3 v4 v5 v6 q2.2 so _ g0 g1 g2 g3 g4 g5 g6 hs
      · refine e_izJ cd_101_47 rfl c4 ?_
        refine e_aldn cd_101_53 g0 ?_
        refine e_ildn cd_101_54 g1 ?_
        refine e_ildn cd_101_55 g2 ?_
        refine e_ild cd_101_56 g6 ?_
        refine e_ildn cd_101_58 g2 ?_
        refine e_bip cd_101_59 cb_13 ?_
        refine e_pure cd_101_61 rfl ?_
        obtain ⟨q5, h6, hs⟩ := k_bind hs
        refine e_cvi cd_101_62 kd_101_441 rfl rfl rfl rfl rfl nl_97 rfl rfl (tie_mo_steps d t0 v1 v2 v6 (v2 + 13) q2.2 _ h6) ?_
        refine e_iK cd_101_65 nl_101 rfl rfl ?_
        intro _ gn kp
        have u7 := kp 0 _ g0 rfl rfl
        have u8 := kp 1 _ g1 rfl rfl
        have u9 := kp 2 _ g2 rfl rfl
        have u10 := kp 3 _ g3 rfl rfl
        have u11 := kp 4 _ g4 rfl rfl
        have u12 := kp 5 _ g5 rfl rfl
        have u13 := kp 6 _ g6 rfl rfl
        have u14 := gn
        refine e_ild cd_101_67 u12 ?_
        refine e_aldn cd_101_69 u7 ?_
        refine e_ildn cd_101_70 u8 ?_
        refine e_ildn cd_101_71 u9 ?_
        refine e_bip cd_101_72 cb_13 ?_
        refine e_pure cd_101_74 rfl ?_
        refine e_ildn cd_101_75 u10 ?_
        refine e_const cd_101_76 ci_1 ?_
        refine e_pure cd_101_77 rfl ?_
        obtain ⟨q15, h16, hs⟩ := k_bind hs
        refine e_cvi cd_101_78 kd_101_454 rfl rfl rfl rfl rfl nl_101 rfl rfl (hr_mo_wordsFrom t0 v1 (v2 + 13) (v3 - 1) q5.2 _ h16) ?_
        refine e_pure cd_101_81 rfl ?_
        refine k_let hs (fun x17 e18 hs => ?_)
        refine e_iK cd_101_82 nl_101 rfl e18 ?_
        intro _ gn kp
        have u19 := kp 0 _ u7 rfl rfl
        have u20 := kp 1 _ u8 rfl rfl
        have u21 := kp 2 _ u9 rfl rfl
        have u22 := kp 3 _ u10 rfl rfl
        have u23 := kp 4 _ u11 rfl rfl
        have u24 := kp 6 _ u13 rfl rfl
        have u25 := gn
        exact tie_mo_wordsFrom_84 r_mo_wordsFrom (fun p0 p1 p2 p3 p4 p5 p6 m => mo_wordsFrom_33 r_mo_wordsFrom d fuel p0 p1 p2 p3 p4 p5 p6 m) d hr_mo_wordsFrom ih t0 v1 v2 v3 v4 x17 v6 q15.2 so _ u19 u20 u21 u22 u23 u25 u24 hs
theorem tieb_mo_wordsFrom (r_mo_wordsFrom : Nat → Int32 → Int32 → Int32 → zM → Option (Int32 × zM)) (d : Nat) (hr_mo_wordsFrom : ∀ a0 a1 a2 a3 M so, r_mo_wordsFrom a0 a1 a2 a3 M = some so → Ev zq_T d 101 0 (zl_args 0 [.inr (.inr (12, some a0)), .inl a1, .inl a2, .inl a3]) [] M (some (.inl so.1), so.2)) (a0 : Nat) (a1 : Int32) (a2 : Int32) (a3 : Int32) (M : zM) (so : Int32 × zM) (hs : mo_wordsFrom_b r_mo_wordsFrom d a0 a1 a2 a3 M = some so) : Ev zq_T (d + 1) 101 0 (zl_args 0 [.inr (.inr (12, some a0)), .inl a1, .inl a2, .inl a3]) [] M (some (.inl so.1), so.2) := by
  unfold mo_wordsFrom_b at hs
  have g0 : zl_get (zl_args 0 [.inr (.inr (12, some a0)), .inl a1, .inl a2, .inl a3]) 0 = some (.inr (.inr (12, (some a0)))) := rfl
  have g1 : zl_get (zl_args 0 [.inr (.inr (12, some a0)), .inl a1, .inl a2, .inl a3]) 1 = some (.inl a1) := rfl
  have g2 : zl_get (zl_args 0 [.inr (.inr (12, some a0)), .inl a1, .inl a2, .inl a3]) 2 = some (.inl a2) := rfl
  have g3 : zl_get (zl_args 0 [.inr (.inr (12, some a0)), .inl a1, .inl a2, .inl a3]) 3 = some (.inl a3) := rfl
  refine e_ildn cd_101_0 g3 ?_
  refine k_if hs (fun c1 hs => ?_) (fun c1 hs => ?_)
  · refine e_izN cd_101_1 rfl (fun q => q c1) ?_
    refine e_aldn cd_101_4 g0 ?_
    refine e_ildn cd_101_5 g1 ?_
    refine e_ildn cd_101_6 g2 ?_
    obtain ⟨q2, h3, hs⟩ := k_bind hs
    refine e_cvi cd_101_7 kd_101_448 rfl rfl rfl rfl rfl nl_94 rfl rfl (tie_mo_canEnd d a0 a1 a2 M _ h3) ?_
    refine k_if hs (fun c4 hs => ?_) (fun c4 hs => ?_)
    · refine e_izJ cd_101_10 rfl c4 ?_
      refine e_const cd_101_17 ci_0 ?_
      exact tie_mo_wordsFrom_18 r_mo_wordsFrom d hr_mo_wordsFrom 0 q2.2 so _  hs
    · refine e_izN cd_101_10 rfl c4 ?_
      refine e_const cd_101_13 ci_1 ?_
      refine e_goto cd_101_14 rfl ?_
      exact tie_mo_wordsFrom_18 r_mo_wordsFrom d hr_mo_wordsFrom 1 q2.2 so _  hs
  · refine e_izJ cd_101_1 rfl c1 ?_
    refine e_aldn cd_101_19 g0 ?_
    refine e_ildn cd_101_20 g1 ?_
    refine e_ildn cd_101_21 g2 ?_
    obtain ⟨q5, h6, hs⟩ := k_bind hs
    refine e_cvi cd_101_22 kd_101_451 rfl rfl rfl rfl rfl nl_98 rfl rfl (tie_mo_couldCome d a0 a1 a2 M _ h6) ?_
    refine e_iK cd_101_25 nl_101 rfl rfl ?_
    intro _ gn kp
    have u7 := kp 0 _ g0 rfl rfl
    have u8 := kp 1 _ g1 rfl rfl
    have u9 := kp 2 _ g2 rfl rfl
    have u10 := kp 3 _ g3 rfl rfl
    have u11 := gn
    refine e_const cd_101_27 ci_0 ?_
    refine e_iK cd_101_28 nl_101 rfl rfl ?_
    intro _ gn kp
    have u12 := kp 0 _ u7 rfl rfl
    have u13 := kp 1 _ u8 rfl rfl
    have u14 := kp 2 _ u9 rfl rfl
    have u15 := kp 3 _ u10 rfl rfl
    have u16 := kp 4 _ u11 rfl rfl
    have u17 := gn
    refine e_const cd_101_30 ci_0 ?_
    refine e_iK cd_101_31 nl_101 rfl rfl ?_
    intro _ gn kp
    have u18 := kp 0 _ u12 rfl rfl
    have u19 := kp 1 _ u13 rfl rfl
    have u20 := kp 2 _ u14 rfl rfl
    have u21 := kp 3 _ u15 rfl rfl
    have u22 := kp 4 _ u16 rfl rfl
    have u23 := kp 5 _ u17 rfl rfl
    have u24 := gn
    exact tie_mo_wordsFrom_33 r_mo_wordsFrom d hr_mo_wordsFrom zLF a0 a1 a2 a3 q5.1 0 0 q5.2 so _ u18 u19 u20 u21 u22 u23 u24 hs
theorem tie_mo_wordsFrom (d : Nat) : ∀ (a0 : Nat) (a1 : Int32) (a2 : Int32) (a3 : Int32) (M : zM) (so : Int32 × zM), mo_wordsFrom d a0 a1 a2 a3 M = some so → Ev zq_T d 101 0 (zl_args 0 [.inr (.inr (12, some a0)), .inl a1, .inl a2, .inl a3]) [] M (some (.inl so.1), so.2) := by
  induction d with
  | zero => intro a0 a1 a2 a3 M so hs; exact nomatch hs
  | succ d ih => intro a0 a1 a2 a3 M so hs; exact tieb_mo_wordsFrom _ d ih a0 a1 a2 a3 M so hs
theorem tie_mo_words_33  (d : Nat)   (M : zM) (so : Int32 × zM) (ls : List (Nat × zV))  (hs : mo_words_33  d  M = some so) : Ev zq_T (d + 1) 102 33 ls [] M (some (.inl so.1), so.2) := by
  unfold mo_words_33 at hs
  refine e_const cd_102_33 ci_m1 ?_
  have e := Option.some.inj hs
  subst e
  exact e_ri cd_102_34 nr_102
theorem tieb_mo_words  (d : Nat)  (a0 : Nat) (a1 : Int32) (a2 : Int32) (M : zM) (so : Int32 × zM) (hs : mo_words_b  d a0 a1 a2 M = some so) : Ev zq_T (d + 1) 102 0 (zl_args 0 [.inr (.inr (12, some a0)), .inl a1, .inl a2]) [] M (some (.inl so.1), so.2) := by
  unfold mo_words_b at hs
  have g0 : zl_get (zl_args 0 [.inr (.inr (12, some a0)), .inl a1, .inl a2]) 0 = some (.inr (.inr (12, (some a0)))) := rfl
  have g1 : zl_get (zl_args 0 [.inr (.inr (12, some a0)), .inl a1, .inl a2]) 1 = some (.inl a1) := rfl
  have g2 : zl_get (zl_args 0 [.inr (.inr (12, some a0)), .inl a1, .inl a2]) 2 = some (.inl a2) := rfl
  refine e_aldn cd_102_0 g0 ?_
  refine e_const cd_102_1 ci_0 ?_
  refine k_let hs (fun M1 e2 hs => ?_)
  refine e_putI cd_102_2 pd_102_114 rfl e2 ?_
  refine e_aldn cd_102_5 g0 ?_
  refine e_ildn cd_102_6 g1 ?_
  obtain ⟨q3, h4, hs⟩ := k_bind hs
  refine e_cvi cd_102_7 kd_102_357 rfl rfl rfl rfl rfl nl_34 rfl rfl (tie_mo_isRule d a0 a1 M1 _ h4) ?_
  refine k_if hs (fun c5 hs => ?_) (fun c5 hs => ?_)
  · refine e_izJ cd_102_10 rfl c5 ?_
    exact tie_mo_words_33  d   q3.2 so _  hs
  · refine e_izN cd_102_10 rfl c5 ?_
    refine e_ildn cd_102_13 g2 ?_
    refine e_pure cd_102_14 rfl ?_
    refine e_lcon cd_102_15 cl_0 ?_
    refine e_ld2 cd_102_16 od_102_402 ?_
    obtain ⟨q6, h7, hs⟩ := k_bind hs
    refine e_cst cd_102_19 kd_102_204 rfl rfl rfl nl_2 rfl rfl (tie_mo_isIn d a2.toInt64 0 4 q3.2 _ h7) ?_
    refine k_if hs (fun c8 hs => ?_) (fun c8 hs => ?_)
    · refine e_izJ cd_102_22 rfl c8 ?_
      exact tie_mo_words_33  d   q6.2 so _  hs
    · refine e_izN cd_102_22 rfl c8 ?_
      refine e_aldn cd_102_25 g0 ?_
      refine e_ildn cd_102_26 g1 ?_
      obtain ⟨q9, h10, hs⟩ := k_bind hs
      refine e_cvi cd_102_27 kd_102_372 rfl rfl rfl rfl rfl nl_70 rfl rfl (tie_mo_isSure d a0 a1 q6.2 _ h10) ?_
      refine k_if hs (fun c11 hs => ?_) (fun c11 hs => ?_)
      · refine e_izN cd_102_30 rfl (fun q => q c11) ?_
        exact tie_mo_words_33  d   q9.2 so _  hs
      · refine e_izJ cd_102_30 rfl c11 ?_
        refine e_aldn cd_102_35 g0 ?_
        refine e_const cd_102_36 ci_0 ?_
        obtain ⟨q12, h13, hs⟩ := k_bind hs
        refine e_cvi cd_102_37 kd_102_438 rfl rfl rfl rfl rfl nl_89 rfl rfl (tie_mo_begins d a0 0 q9.2 _ h13) ?_
        refine e_aldn cd_102_40 g0 ?_
        refine e_ildn cd_102_41 g1 ?_
        refine e_const cd_102_42 ci_0 ?_
        refine e_ildn cd_102_43 g2 ?_
        obtain ⟨q14, h15, hs⟩ := k_bind hs
        refine e_cvi cd_102_44 kd_102_454 rfl rfl rfl rfl rfl nl_101 rfl rfl (tie_mo_wordsFrom d a0 a1 0 a2 q12 _ h15) ?_
        have e := Option.some.inj hs
        subst e
        exact e_ri cd_102_47 nr_102
theorem tie_mo_words (d : Nat) (a0 : Nat) (a1 : Int32) (a2 : Int32) (M : zM) (so : Int32 × zM) (hs : mo_words d a0 a1 a2 M = some so) : Ev zq_T d 102 0 (zl_args 0 [.inr (.inr (12, some a0)), .inl a1, .inl a2]) [] M (some (.inl so.1), so.2) := by
  cases d with
  | zero => exact nomatch hs
  | succ d => exact tieb_mo_words d a0 a1 a2 M so hs
theorem tie_mo_lettersOnTape_46  (d : Nat)   (M : zM) (so : Int32 × zM) (ls : List (Nat × zV))  (hs : mo_lettersOnTape_46  d  M = some so) : Ev zq_T (d + 1) 103 46 ls [] M (some (.inl so.1), so.2) := by
  unfold mo_lettersOnTape_46 at hs
  refine e_const cd_103_46 ci_m1 ?_
  have e := Option.some.inj hs
  subst e
  exact e_ri cd_103_47 nr_103
theorem tie_mo_lettersOnTape_64 (kl7 : Nat → Int32 → zM → Option (Int32 × zM)) (d : Nat) (hk7 : ∀ (t0 : Nat) (v1 : Int32) (M : zM) (so : Int32 × zM) (ls : List (Nat × zV)), zl_get ls 0 = some (.inr (.inr (12, (some t0)))) → zl_get ls 1 = some (.inl v1) → kl7 t0 v1 M = some so → Ev zq_T (d + 1) 103 7 ls [] M (some (.inl so.1), so.2)) (t0 : Nat) (v1 : Int32) (M : zM) (so : Int32 × zM) (ls : List (Nat × zV)) (g0 : zl_get ls 0 = some (.inr (.inr (12, (some t0))))) (g1 : zl_get ls 1 = some (.inl v1)) (hs : mo_lettersOnTape_64 kl7 d t0 v1 M = some so) : Ev zq_T (d + 1) 103 64 ls [] M (some (.inl so.1), so.2) := by
  unfold mo_lettersOnTape_64 at hs
  refine e_aldn cd_103_64 g0 ?_
  refine e_pure cd_103_65 rfl ?_
  refine e_getI cd_103_66 (Or.inl fd_103_128) rfl ?_
  refine e_const cd_103_69 ci_1 ?_
  refine e_pure cd_103_70 rfl ?_
  refine k_let hs (fun M1 e2 hs => ?_)
  refine e_putI cd_103_71 pd_103_128 rfl e2 ?_
  refine e_goto cd_103_74 rfl ?_
  exact hk7 t0 v1 M1 so _ g0 g1 hs
theorem tie_mo_lettersOnTape_7  (d : Nat)  : ∀ (fuel : Nat) (t0 : Nat) (v1 : Int32) (M : zM) (so : Int32 × zM) (ls : List (Nat × zV)), zl_get ls 0 = some (.inr (.inr (12, (some t0)))) → zl_get ls 1 = some (.inl v1) → mo_lettersOnTape_7  d fuel t0 v1 M = some so → Ev zq_T (d + 1) 103 7 ls [] M (some (.inl so.1), so.2) := by
  intro fuel
  induction fuel with
  | zero => intro t0 v1 M so ls g0 g1 hs; exact nomatch hs
  | succ fuel ih =>
    intro t0 v1 M so ls g0 g1 hs
    unfold mo_lettersOnTape_7 at hs
    refine e_aldn cd_103_7 g0 ?_
    refine e_getI cd_103_8 (Or.inl fd_103_128) rfl ?_
    refine e_aldn cd_103_11 g0 ?_
    refine e_getI cd_103_12 (Or.inl fd_103_117) rfl ?_
    refine k_if hs (fun c1 hs => ?_) (fun c1 hs => ?_)
    · refine e_icJ cd_103_15 rfl c1 ?_
      refine e_ildn cd_103_77 g1 ?_
      have e := Option.some.inj hs
      subst e
      exact e_ri cd_103_78 nr_103
    · refine e_icN cd_103_15 rfl c1 ?_
      refine e_aldn cd_103_18 g0 ?_
      obtain ⟨q2, h3, hs⟩ := k_bind hs
      refine e_cvi cd_103_19 kd_103_131 rfl rfl rfl rfl rfl nl_8 rfl rfl (tie_mo_here d t0 M _ h3) ?_
      refine e_bip cd_103_22 cb_32 ?_
      refine k_if hs (fun c4 hs => ?_) (fun c4 hs => ?_)
      · refine e_icN cd_103_24 rfl (fun q => q c4) ?_
        refine e_goto cd_103_27 rfl ?_
        exact tie_mo_lettersOnTape_64 (fun p0 p1 m => mo_lettersOnTape_7  d fuel p0 p1 m) d ih t0 v1 q2.2 so _ g0 g1 hs
      · refine e_icJ cd_103_24 rfl c4 ?_
        refine e_aldn cd_103_30 g0 ?_
        obtain ⟨q5, h6, hs⟩ := k_bind hs
        refine e_cvi cd_103_31 kd_103_131 rfl rfl rfl rfl rfl nl_8 rfl rfl (tie_mo_here d t0 q2.2 _ h6) ?_
        obtain ⟨q7, h8, hs⟩ := k_bind hs
        refine e_cst cd_103_34 kd_103_175 rfl rfl rfl nl_13 rfl rfl (tie_mo_isLetter d q5.1 q5.2 _ h8) ?_
        refine k_if hs (fun c9 hs => ?_) (fun c9 hs => ?_)
        · refine e_izJ cd_103_37 rfl c9 ?_
          exact tie_mo_lettersOnTape_46  d   q7.2 so _  hs
        · refine e_izN cd_103_37 rfl c9 ?_
          refine e_ildn cd_103_40 g1 ?_
          refine e_bip cd_103_41 cb_24 ?_
          refine k_if hs (fun c10 hs => ?_) (fun c10 hs => ?_)
          · refine e_icN cd_103_43 rfl (fun q => q c10) ?_
            exact tie_mo_lettersOnTape_46  d   q7.2 so _  hs
          · refine e_icJ cd_103_43 rfl c10 ?_
            refine e_aldn cd_103_48 g0 ?_
            refine e_getR cd_103_49 fd_103_84 rfl ?_
            refine e_ildn cd_103_52 g1 ?_
            refine e_aldn cd_103_53 g0 ?_
            obtain ⟨q11, h12, hs⟩ := k_bind hs
            refine e_cvi cd_103_54 kd_103_131 rfl rfl rfl rfl rfl nl_8 rfl rfl (tie_mo_here d t0 q7.2 _ h12) ?_
            refine e_bip cd_103_57 cb_97 ?_
            refine e_pure cd_103_59 rfl ?_
            refine k_opt hs (fun _ q => nomatch q) (fun k13 h14 hs => ?_)
            obtain ⟨c15, hs⟩ := z_ite hs
            refine k_let hs (fun M16 e17 hs => ?_)
            refine e_iast cd_103_60 rfl h14 c15 e17 ?_
            refine k_let hs (fun x18 e19 hs => ?_)
            refine e_incK cd_103_61 nl_103 rfl g1 ci_1 e19 ?_
            intro _ gn kp
            have u20 := kp 0 _ g0 rfl rfl
            have u21 := gn
            exact tie_mo_lettersOnTape_64 (fun p0 p1 m => mo_lettersOnTape_7  d fuel p0 p1 m) d ih t0 x18 M16 so _ u20 u21 hs
theorem tieb_mo_lettersOnTape  (d : Nat)  (a0 : Nat) (M : zM) (so : Int32 × zM) (hs : mo_lettersOnTape_b  d a0 M = some so) : Ev zq_T (d + 1) 103 0 (zl_args 0 [.inr (.inr (12, some a0))]) [] M (some (.inl so.1), so.2) := by
  unfold mo_lettersOnTape_b at hs
  have g0 : zl_get (zl_args 0 [.inr (.inr (12, some a0))]) 0 = some (.inr (.inr (12, (some a0)))) := rfl
  refine e_const cd_103_0 ci_0 ?_
  refine e_iKn cd_103_1 nl_103 rfl rfl ?_
  intro _ gn kp
  have u1 := kp 0 _ g0 rfl rfl
  have u2 := gn
  refine e_aldn cd_103_2 u1 ?_
  refine e_const cd_103_3 ci_0 ?_
  refine k_let hs (fun M3 e4 hs => ?_)
  refine e_putI cd_103_4 pd_103_128 rfl e4 ?_
  exact tie_mo_lettersOnTape_7  d  zLF a0 0 M3 so _ u1 u2 hs
theorem tie_mo_lettersOnTape (d : Nat) (a0 : Nat) (M : zM) (so : Int32 × zM) (hs : mo_lettersOnTape d a0 M = some so) : Ev zq_T d 103 0 (zl_args 0 [.inr (.inr (12, some a0))]) [] M (some (.inl so.1), so.2) := by
  cases d with
  | zero => exact nomatch hs
  | succ d => exact tieb_mo_lettersOnTape d a0 M so hs
theorem tie_mo_reads_21  (d : Nat)   (M : zM) (so : Int32 × zM) (ls : List (Nat × zV))  (hs : mo_reads_21  d  M = some so) : Ev zq_T (d + 1) 104 21 ls [] M (some (.inl so.1), so.2) := by
  unfold mo_reads_21 at hs
  refine e_const cd_104_21 ci_m1 ?_
  have e := Option.some.inj hs
  subst e
  exact e_ri cd_104_22 nr_104
theorem tie_mo_reads_226  (d : Nat)  (s0 : Int32) (M : zM) (so : Int32 × zM) (ls : List (Nat × zV))  (hs : mo_reads_226  d s0 M = some so) : Ev zq_T (d + 1) 104 226 ls [.inl s0] M (some (.inl so.1), so.2) := by
  unfold mo_reads_226 at hs
  have e := Option.some.inj hs
  subst e
  exact e_ri cd_104_226 nr_104
theorem tie_mo_reads_225  (d : Nat)   (M : zM) (so : Int32 × zM) (ls : List (Nat × zV))  (hs : mo_reads_225  d  M = some so) : Ev zq_T (d + 1) 104 225 ls [] M (some (.inl so.1), so.2) := by
  unfold mo_reads_225 at hs
  refine e_const cd_104_225 ci_0 ?_
  exact tie_mo_reads_226  d  0 M so _  hs
theorem tie_mo_reads_182  (d : Nat)  : ∀ (fuel : Nat) (t0 : Nat) (v2 : Int32) (v3 : Int32) (M : zM) (so : Int32 × zM) (ls : List (Nat × zV)), zl_get ls 0 = some (.inr (.inr (12, (some t0)))) → zl_get ls 2 = some (.inl v2) → zl_get ls 3 = some (.inl v3) → mo_reads_182  d fuel t0 v2 v3 M = some so → Ev zq_T (d + 1) 104 182 ls [] M (some (.inl so.1), so.2) := by
  intro fuel
  induction fuel with
  | zero => intro t0 v2 v3 M so ls g0 g2 g3 hs; exact nomatch hs
  | succ fuel ih =>
    intro t0 v2 v3 M so ls g0 g2 g3 hs
    unfold mo_reads_182 at hs
    refine e_ildn cd_104_182 g3 ?_
    refine e_bip cd_104_183 cb_13 ?_
    refine k_if hs (fun c1 hs => ?_) (fun c1 hs => ?_)
    · refine e_icJ cd_104_185 rfl c1 ?_
      refine e_aldn cd_104_206 g0 ?_
      refine e_getI cd_104_207 (Or.inl fd_104_466) rfl ?_
      refine e_ildn cd_104_210 g2 ?_
      refine k_if hs (fun c2 hs => ?_) (fun c2 hs => ?_)
      · refine e_icN cd_104_211 rfl (fun q => q c2) ?_
        refine e_aldn cd_104_214 g0 ?_
        refine e_getI cd_104_215 (Or.inr fd_104_472) rfl ?_
        refine k_if hs (fun c3 hs => ?_) (fun c3 hs => ?_)
        · refine e_izJ cd_104_218 rfl c3 ?_
          exact tie_mo_reads_225  d   M so _  hs
        · refine e_izN cd_104_218 rfl c3 ?_
          refine e_const cd_104_221 ci_1 ?_
          refine e_goto cd_104_222 rfl ?_
          exact tie_mo_reads_226  d  1 M so _  hs
      · refine e_icJ cd_104_211 rfl c2 ?_
        exact tie_mo_reads_225  d   M so _  hs
    · refine e_icN cd_104_185 rfl c1 ?_
      refine e_aldn cd_104_188 g0 ?_
      refine e_getR cd_104_189 fd_104_102 rfl ?_
      refine e_ildn cd_104_192 g3 ?_
      refine e_aldn cd_104_193 g0 ?_
      refine e_getR cd_104_194 fd_104_81 rfl ?_
      refine e_ildn cd_104_197 g3 ?_
      refine k_opt hs (fun _ q => nomatch q) (fun k4 h5 hs => ?_)
      obtain ⟨c6, hs⟩ := z_ite hs
      refine e_iald cd_104_198 rfl h5 c6 ?_
      refine k_opt hs (fun _ q => nomatch q) (fun k7 h8 hs => ?_)
      obtain ⟨c9, hs⟩ := z_ite hs
      refine k_let hs (fun M10 e11 hs => ?_)
      refine e_iast cd_104_199 rfl h8 c9 e11 ?_
      refine k_let hs (fun x12 e13 hs => ?_)
      refine e_incK cd_104_200 nl_104 rfl g3 ci_1 e13 ?_
      intro _ gn kp
      have u14 := kp 0 _ g0 rfl rfl
      have u15 := kp 2 _ g2 rfl rfl
      have u16 := gn
      refine e_goto cd_104_203 rfl ?_
      exact ih t0 v2 x12 M10 so _ u14 u15 u16 hs
theorem tie_mo_reads_142  (d : Nat)  : ∀ (fuel : Nat) (t0 : Nat) (v2 : Int32) (v3 : Int32) (M : zM) (so : Int32 × zM) (ls : List (Nat × zV)), zl_get ls 0 = some (.inr (.inr (12, (some t0)))) → zl_get ls 2 = some (.inl v2) → zl_get ls 3 = some (.inl v3) → mo_reads_142  d fuel t0 v2 v3 M = some so → Ev zq_T (d + 1) 104 142 ls [] M (some (.inl so.1), so.2) := by
  intro fuel
  induction fuel with
  | zero => intro t0 v2 v3 M so ls g0 g2 g3 hs; exact nomatch hs
  | succ fuel ih =>
    intro t0 v2 v3 M so ls g0 g2 g3 hs
    unfold mo_reads_142 at hs
    refine e_ildn cd_104_142 g3 ?_
    refine e_aldn cd_104_143 g0 ?_
    refine e_getI cd_104_144 (Or.inl fd_104_466) rfl ?_
    refine k_if hs (fun c1 hs => ?_) (fun c1 hs => ?_)
    · refine e_icJ cd_104_147 rfl c1 ?_
      refine e_const cd_104_180 ci_0 ?_
      refine e_iKn cd_104_181 nl_104 rfl rfl ?_
      intro _ gn kp
      have u2 := kp 0 _ g0 rfl rfl
      have u3 := kp 2 _ g2 rfl rfl
      have u4 := gn
      exact tie_mo_reads_182  d  zLF t0 v2 0 M so _ u2 u3 u4 hs
    · refine e_icN cd_104_147 rfl c1 ?_
      refine e_aldn cd_104_150 g0 ?_
      refine e_getR cd_104_151 fd_104_96 rfl ?_
      refine e_ildn cd_104_154 g3 ?_
      refine e_aldn cd_104_155 g0 ?_
      refine e_getR cd_104_156 fd_104_87 rfl ?_
      refine e_ildn cd_104_159 g3 ?_
      refine k_opt hs (fun _ q => nomatch q) (fun k5 h6 hs => ?_)
      obtain ⟨c7, hs⟩ := z_ite hs
      refine e_iald cd_104_160 rfl h6 c7 ?_
      refine k_opt hs (fun _ q => nomatch q) (fun k8 h9 hs => ?_)
      obtain ⟨c10, hs⟩ := z_ite hs
      refine k_let hs (fun M11 e12 hs => ?_)
      refine e_iast cd_104_161 rfl h9 c10 e12 ?_
      refine e_aldn cd_104_162 g0 ?_
      refine e_getR cd_104_163 fd_104_99 rfl ?_
      refine e_ildn cd_104_166 g3 ?_
      refine e_aldn cd_104_167 g0 ?_
      refine e_getR cd_104_168 fd_104_90 rfl ?_
      refine e_ildn cd_104_171 g3 ?_
      refine k_opt hs (fun _ q => nomatch q) (fun k13 h14 hs => ?_)
      obtain ⟨c15, hs⟩ := z_ite hs
      refine e_iald cd_104_172 rfl h14 c15 ?_
      refine k_opt hs (fun _ q => nomatch q) (fun k16 h17 hs => ?_)
      obtain ⟨c18, hs⟩ := z_ite hs
      refine k_let hs (fun M19 e20 hs => ?_)
      refine e_iast cd_104_173 rfl h17 c18 e20 ?_
      refine k_let hs (fun x21 e22 hs => ?_)
      refine e_incK cd_104_174 nl_104 rfl g3 ci_1 e22 ?_
      intro _ gn kp
      have u23 := kp 0 _ g0 rfl rfl
      have u24 := kp 2 _ g2 rfl rfl
      have u25 := gn
      refine e_goto cd_104_177 rfl ?_
      exact ih t0 v2 x21 M19 so _ u23 u24 u25 hs
theorem tie_mo_reads_117  (d : Nat)  : ∀ (fuel : Nat) (t0 : Nat) (v2 : Int32) (v3 : Int32) (M : zM) (so : Int32 × zM) (ls : List (Nat × zV)), zl_get ls 0 = some (.inr (.inr (12, (some t0)))) → zl_get ls 2 = some (.inl v2) → zl_get ls 3 = some (.inl v3) → mo_reads_117  d fuel t0 v2 v3 M = some so → Ev zq_T (d + 1) 104 117 ls [] M (some (.inl so.1), so.2) := by
  intro fuel
  induction fuel with
  | zero => intro t0 v2 v3 M so ls g0 g2 g3 hs; exact nomatch hs
  | succ fuel ih =>
    intro t0 v2 v3 M so ls g0 g2 g3 hs
    unfold mo_reads_117 at hs
    refine e_ildn cd_104_117 g3 ?_
    refine e_ildn cd_104_118 g2 ?_
    refine k_if hs (fun c1 hs => ?_) (fun c1 hs => ?_)
    · refine e_icJ cd_104_119 rfl c1 ?_
      refine e_const cd_104_140 ci_0 ?_
      refine e_iKn cd_104_141 nl_104 rfl rfl ?_
      intro _ gn kp
      have u2 := kp 0 _ g0 rfl rfl
      have u3 := kp 2 _ g2 rfl rfl
      have u4 := gn
      exact tie_mo_reads_142  d  zLF t0 v2 0 M so _ u2 u3 u4 hs
    · refine e_icN cd_104_119 rfl c1 ?_
      refine e_aldn cd_104_122 g0 ?_
      refine e_getR cd_104_123 fd_104_93 rfl ?_
      refine e_ildn cd_104_126 g3 ?_
      refine e_aldn cd_104_127 g0 ?_
      refine e_getR cd_104_128 fd_104_84 rfl ?_
      refine e_ildn cd_104_131 g3 ?_
      refine k_opt hs (fun _ q => nomatch q) (fun k5 h6 hs => ?_)
      obtain ⟨c7, hs⟩ := z_ite hs
      refine e_iald cd_104_132 rfl h6 c7 ?_
      refine k_opt hs (fun _ q => nomatch q) (fun k8 h9 hs => ?_)
      obtain ⟨c10, hs⟩ := z_ite hs
      refine k_let hs (fun M11 e12 hs => ?_)
      refine e_iast cd_104_133 rfl h9 c10 e12 ?_
      refine k_let hs (fun x13 e14 hs => ?_)
      refine e_incK cd_104_134 nl_104 rfl g3 ci_1 e14 ?_
      intro _ gn kp
      have u15 := kp 0 _ g0 rfl rfl
      have u16 := kp 2 _ g2 rfl rfl
      have u17 := gn
      refine e_goto cd_104_137 rfl ?_
      exact ih t0 v2 x13 M11 so _ u15 u16 u17 hs
set_option maxRecDepth 100000 in
theorem tieb_mo_reads  (d : Nat)  (a0 : Nat) (a1 : Int32) (M : zM) (so : Int32 × zM) (hs : mo_reads_b  d a0 a1 M = some so) : Ev zq_T (d + 1) 104 0 (zl_args 0 [.inr (.inr (12, some a0)), .inl a1]) [] M (some (.inl so.1), so.2) := by
  unfold mo_reads_b at hs
  have g0 : zl_get (zl_args 0 [.inr (.inr (12, some a0)), .inl a1]) 0 = some (.inr (.inr (12, (some a0)))) := rfl
  have g1 : zl_get (zl_args 0 [.inr (.inr (12, some a0)), .inl a1]) 1 = some (.inl a1) := rfl
  refine e_aldn cd_104_0 g0 ?_
  refine e_const cd_104_1 ci_0 ?_
  refine k_let hs (fun M1 e2 hs => ?_)
  refine e_putI cd_104_2 pd_104_114 rfl e2 ?_
  refine e_aldn cd_104_5 g0 ?_
  refine e_ildn cd_104_6 g1 ?_
  obtain ⟨q3, h4, hs⟩ := k_bind hs
  refine e_cvi cd_104_7 kd_104_357 rfl rfl rfl rfl rfl nl_34 rfl rfl (tie_mo_isRule d a0 a1 M1 _ h4) ?_
  refine k_if hs (fun c5 hs => ?_) (fun c5 hs => ?_)
  · refine e_izJ cd_104_10 rfl c5 ?_
    exact tie_mo_reads_21  d   q3.2 so _  hs
  · refine e_izN cd_104_10 rfl c5 ?_
    refine e_aldn cd_104_13 g0 ?_
    refine e_ildn cd_104_14 g1 ?_
    obtain ⟨q6, h7, hs⟩ := k_bind hs
    refine e_cvi cd_104_15 kd_104_372 rfl rfl rfl rfl rfl nl_70 rfl rfl (tie_mo_isSure d a0 a1 q3.2 _ h7) ?_
    refine k_if hs (fun c8 hs => ?_) (fun c8 hs => ?_)
    · refine e_izN cd_104_18 rfl (fun q => q c8) ?_
      exact tie_mo_reads_21  d   q6.2 so _  hs
    · refine e_izJ cd_104_18 rfl c8 ?_
      refine e_aldn cd_104_23 g0 ?_
      obtain ⟨q9, h10, hs⟩ := k_bind hs
      refine e_cvi cd_104_24 kd_104_457 rfl rfl rfl rfl rfl nl_103 rfl rfl (tie_mo_lettersOnTape d a0 q6.2 _ h10) ?_
      refine e_iKn cd_104_27 nl_104 rfl rfl ?_
      intro _ gn kp
      have u11 := kp 0 _ g0 rfl rfl
      have u12 := kp 1 _ g1 rfl rfl
      have u13 := gn
      refine e_ildn cd_104_28 u13 ?_
      refine e_const cd_104_29 ci_m1 ?_
      refine k_if hs (fun c14 hs => ?_) (fun c14 hs => ?_)
      · refine e_icN cd_104_30 rfl (fun q => q c14) ?_
        refine e_bip cd_104_33 cb_m2 ?_
        refine e_aldn cd_104_35 u11 ?_
        refine e_getI cd_104_36 (Or.inl fd_104_128) rfl ?_
        refine e_pure cd_104_39 rfl ?_
        have e := Option.some.inj hs
        subst e
        exact e_ri cd_104_40 nr_104
      · refine e_icJ cd_104_30 rfl c14 ?_
        refine e_aldn cd_104_41 u11 ?_
        refine e_const cd_104_42 ci_0 ?_
        refine k_let hs (fun M15 e16 hs => ?_)
        refine e_putI cd_104_43 pd_104_117 rfl e16 ?_
        refine e_aldn cd_104_46 u11 ?_
        refine e_const cd_104_47 ci_1 ?_
        refine k_let hs (fun M17 e18 hs => ?_)
        refine e_putZ cd_104_48 pd_104_233 (Or.inr rfl) rfl e18 ?_
        refine e_aldn cd_104_51 u11 ?_
        refine e_ildn cd_104_52 u12 ?_
        refine k_let hs (fun M19 e20 hs => ?_)
        refine e_putI cd_104_53 pd_104_460 rfl e20 ?_
        refine e_aldn cd_104_56 u11 ?_
        refine e_ildn cd_104_57 u13 ?_
        refine k_let hs (fun M21 e22 hs => ?_)
        refine e_putI cd_104_58 pd_104_463 rfl e22 ?_
        refine e_aldn cd_104_61 u11 ?_
        refine e_aldn cd_104_62 u11 ?_
        refine e_ildn cd_104_63 u12 ?_
        refine e_aldn cd_104_64 u11 ?_
        refine e_getR cd_104_65 fd_104_84 rfl ?_
        refine e_ildn cd_104_68 u13 ?_
        obtain ⟨q23, h24, hs⟩ := k_bind hs
        refine e_cvi cd_104_69 kd_104_444 rfl rfl rfl rfl rfl nl_99 rfl rfl (tie_mo_goesThrough d a0 a1 (zm_R M21 12 a0 37) q9.1 M21 _ h24) ?_
        refine k_let hs (fun M25 e26 hs => ?_)
        refine e_putI cd_104_72 pd_104_466 rfl e26 ?_
        refine e_aldn cd_104_75 u11 ?_
        refine e_aldn cd_104_76 u11 ?_
        refine e_ildn cd_104_77 u12 ?_
        refine e_const cd_104_78 ci_0 ?_
        obtain ⟨q27, h28, hs⟩ := k_bind hs
        refine e_cvi cd_104_79 kd_104_451 rfl rfl rfl rfl rfl nl_98 rfl rfl (tie_mo_couldCome d a0 a1 0 M25 _ h28) ?_
        refine k_let hs (fun M29 e30 hs => ?_)
        refine e_putI cd_104_82 pd_104_469 rfl e30 ?_
        refine e_aldn cd_104_85 u11 ?_
        refine e_aldn cd_104_86 u11 ?_
        refine e_ildn cd_104_87 u12 ?_
        refine e_const cd_104_88 ci_0 ?_
        obtain ⟨q31, h32, hs⟩ := k_bind hs
        refine e_cvi cd_104_89 kd_104_448 rfl rfl rfl rfl rfl nl_94 rfl rfl (tie_mo_canEnd d a0 a1 0 M29 _ h32) ?_
        obtain ⟨c33, hs⟩ := z_ite hs
        refine k_let hs (fun M34 e35 hs => ?_)
        refine e_putZ cd_104_92 pd_104_472 c33 rfl e35 ?_
        refine e_aldn cd_104_95 u11 ?_
        refine e_aldn cd_104_96 u11 ?_
        refine e_ildn cd_104_97 u12 ?_
        refine e_const cd_104_98 ci_3 ?_
        obtain ⟨q36, h37, hs⟩ := k_bind hs
        refine e_cvi cd_104_99 kd_104_258 rfl rfl rfl rfl rfl nl_35 rfl rfl (tie_mo_of d a0 a1 3 M34 _ h37) ?_
        refine k_let hs (fun M38 e39 hs => ?_)
        refine e_putI cd_104_102 pd_104_475 rfl e39 ?_
        refine e_aldn cd_104_105 u11 ?_
        refine e_aldn cd_104_106 u11 ?_
        refine e_ildn cd_104_107 u12 ?_
        refine e_const cd_104_108 ci_4 ?_
        obtain ⟨q40, h41, hs⟩ := k_bind hs
        refine e_cvi cd_104_109 kd_104_258 rfl rfl rfl rfl rfl nl_35 rfl rfl (tie_mo_of d a0 a1 4 M38 _ h41) ?_
        refine k_let hs (fun M42 e43 hs => ?_)
        refine e_putI cd_104_112 pd_104_478 rfl e43 ?_
        refine e_const cd_104_115 ci_0 ?_
        refine e_iKn cd_104_116 nl_104 rfl rfl ?_
        intro _ gn kp
        have u44 := kp 0 _ u11 rfl rfl
        have u45 := kp 2 _ u13 rfl rfl
        have u46 := gn
        exact tie_mo_reads_117  d  zLF a0 q9.1 0 M42 so _ u44 u45 u46 hs
theorem tie_mo_reads (d : Nat) (a0 : Nat) (a1 : Int32) (M : zM) (so : Int32 × zM) (hs : mo_reads d a0 a1 M = some so) : Ev zq_T d 104 0 (zl_args 0 [.inr (.inr (12, some a0)), .inl a1]) [] M (some (.inl so.1), so.2) := by
  cases d with
  | zero => exact nomatch hs
  | succ d => exact tieb_mo_reads d a0 a1 M so hs
theorem tie_mo_read_80  (d : Nat)  (s0 : Int32) (M : zM) (so : Int32 × zM) (ls : List (Nat × zV))  (hs : mo_read_80  d s0 M = some so) : Ev zq_T d 105 80 ls [.inl s0] M (some (.inl so.1), so.2) := by
  unfold mo_read_80 at hs
  have e := Option.some.inj hs
  subst e
  exact e_ri cd_105_80 nr_105
theorem tie_mo_read (d : Nat) (a0 : Nat) (a1 : Int32) (M : zM) (so : Int32 × zM) (hs : mo_read d a0 a1 M = some so) : Ev zq_T d 105 0 (zl_args 0 [.inr (.inr (12, some a0)), .inl a1]) [] M (some (.inl so.1), so.2) := by
  unfold mo_read at hs
  have g0 : zl_get (zl_args 0 [.inr (.inr (12, some a0)), .inl a1]) 0 = some (.inr (.inr (12, (some a0)))) := rfl
  have g1 : zl_get (zl_args 0 [.inr (.inr (12, some a0)), .inl a1]) 1 = some (.inl a1) := rfl
  refine e_aldn cd_105_0 g0 ?_
  refine e_const cd_105_1 ci_0 ?_
  refine k_let hs (fun M1 e2 hs => ?_)
  refine e_putI cd_105_2 pd_105_114 rfl e2 ?_
  refine e_aldn cd_105_5 g0 ?_
  refine e_getI cd_105_6 (Or.inr fd_105_233) rfl ?_
  refine k_if hs (fun c3 hs => ?_) (fun c3 hs => ?_)
  · refine e_izN cd_105_9 rfl (fun q => q c3) ?_
    refine e_const cd_105_12 ci_m1 ?_
    have e := Option.some.inj hs
    subst e
    exact e_ri cd_105_13 nr_105
  · refine e_izJ cd_105_9 rfl c3 ?_
    refine e_ildn cd_105_14 g1 ?_
    refine k_if hs (fun c4 hs => ?_) (fun c4 hs => ?_)
    · refine e_tab cd_105_15 (by decide) (fun f => (e_tb1 c4 rfl f)) ?_
      refine e_aldn cd_105_48 g0 ?_
      refine e_getI cd_105_49 (Or.inl fd_105_460) rfl ?_
      have e := Option.some.inj hs
      subst e
      exact e_ri cd_105_52 nr_105
    · refine k_if hs (fun c5 hs => ?_) (fun c5 hs => ?_)
      · refine e_tab cd_105_15 (by decide) (fun f => (e_tb0 c4 f (e_tb1 c5 rfl f))) ?_
        refine e_aldn cd_105_53 g0 ?_
        refine e_getI cd_105_54 (Or.inl fd_105_463) rfl ?_
        have e := Option.some.inj hs
        subst e
        exact e_ri cd_105_57 nr_105
      · refine k_if hs (fun c6 hs => ?_) (fun c6 hs => ?_)
        · refine e_tab cd_105_15 (by decide) (fun f => (e_tb0 c4 f (e_tb0 c5 f (e_tb1 c6 rfl f)))) ?_
          refine e_aldn cd_105_58 g0 ?_
          refine e_getI cd_105_59 (Or.inl fd_105_466) rfl ?_
          have e := Option.some.inj hs
          subst e
          exact e_ri cd_105_62 nr_105
        · refine k_if hs (fun c7 hs => ?_) (fun c7 hs => ?_)
          · refine e_tab cd_105_15 (by decide) (fun f => (e_tb0 c4 f (e_tb0 c5 f (e_tb0 c6 f (e_tb1 c7 rfl f))))) ?_
            refine e_aldn cd_105_63 g0 ?_
            refine e_getI cd_105_64 (Or.inl fd_105_469) rfl ?_
            have e := Option.some.inj hs
            subst e
            exact e_ri cd_105_67 nr_105
          · refine k_if hs (fun c8 hs => ?_) (fun c8 hs => ?_)
            · refine e_tab cd_105_15 (by decide) (fun f => (e_tb0 c4 f (e_tb0 c5 f (e_tb0 c6 f (e_tb0 c7 f (e_tb1 c8 rfl f)))))) ?_
              refine e_aldn cd_105_68 g0 ?_
              refine e_getI cd_105_69 (Or.inr fd_105_472) rfl ?_
              refine k_if hs (fun c9 hs => ?_) (fun c9 hs => ?_)
              · refine e_izJ cd_105_72 rfl c9 ?_
                refine e_const cd_105_79 ci_0 ?_
                exact tie_mo_read_80  d  0 M1 so _  hs
              · refine e_izN cd_105_72 rfl c9 ?_
                refine e_const cd_105_75 ci_1 ?_
                refine e_goto cd_105_76 rfl ?_
                exact tie_mo_read_80  d  1 M1 so _  hs
            · refine e_tab cd_105_15 (by decide) (fun f => (e_tb0 c4 f (e_tb0 c5 f (e_tb0 c6 f (e_tb0 c7 f (e_tb0 c8 f (e_tbd rfl f))))))) ?_
              refine e_const cd_105_81 ci_m1 ?_
              have e := Option.some.inj hs
              subst e
              exact e_ri cd_105_82 nr_105
theorem tie_mo_taken_38  (d : Nat)   (M : zM) (so : Int32 × zM) (ls : List (Nat × zV))  (hs : mo_taken_38  d  M = some so) : Ev zq_T (d + 1) 106 38 ls [] M (some (.inl so.1), so.2) := by
  unfold mo_taken_38 at hs
  refine e_ldwI cd_106_38 od_106_366 ?_
  have e := Option.some.inj hs
  subst e
  exact e_ri cd_106_41 nr_106
theorem tie_mo_taken_61  (d : Nat)  (s0 : Int32) (M : zM) (so : Int32 × zM) (ls : List (Nat × zV))  (hs : mo_taken_61  d s0 M = some so) : Ev zq_T (d + 1) 106 61 ls [.inl s0] M (some (.inl so.1), so.2) := by
  unfold mo_taken_61 at hs
  have e := Option.some.inj hs
  subst e
  exact e_ri cd_106_61 nr_106
theorem tieb_mo_taken  (d : Nat)  (a0 : Nat) (a1 : Int32) (a2 : Int32) (M : zM) (so : Int32 × zM) (hs : mo_taken_b  d a0 a1 a2 M = some so) : Ev zq_T (d + 1) 106 0 (zl_args 0 [.inr (.inr (12, some a0)), .inl a1, .inl a2]) [] M (some (.inl so.1), so.2) := by
  unfold mo_taken_b at hs
  have g0 : zl_get (zl_args 0 [.inr (.inr (12, some a0)), .inl a1, .inl a2]) 0 = some (.inr (.inr (12, (some a0)))) := rfl
  have g1 : zl_get (zl_args 0 [.inr (.inr (12, some a0)), .inl a1, .inl a2]) 1 = some (.inl a1) := rfl
  have g2 : zl_get (zl_args 0 [.inr (.inr (12, some a0)), .inl a1, .inl a2]) 2 = some (.inl a2) := rfl
  refine e_aldn cd_106_0 g0 ?_
  refine e_const cd_106_1 ci_0 ?_
  refine k_let hs (fun M1 e2 hs => ?_)
  refine e_putI cd_106_2 pd_106_114 rfl e2 ?_
  refine e_aldn cd_106_5 g0 ?_
  refine e_getI cd_106_6 (Or.inr fd_106_233) rfl ?_
  refine k_if hs (fun c3 hs => ?_) (fun c3 hs => ?_)
  · refine e_izJ cd_106_9 rfl c3 ?_
    exact tie_mo_taken_38  d   M1 so _  hs
  · refine e_izN cd_106_9 rfl c3 ?_
    refine e_ildn cd_106_12 g1 ?_
    refine e_pure cd_106_13 rfl ?_
    refine e_lcon cd_106_14 cl_0 ?_
    refine e_aldn cd_106_15 g0 ?_
    refine e_getI cd_106_16 (Or.inl fd_106_466) rfl ?_
    refine e_const cd_106_19 ci_1 ?_
    refine e_pure cd_106_20 rfl ?_
    refine e_pure cd_106_21 rfl ?_
    obtain ⟨q4, h5, hs⟩ := k_bind hs
    refine e_cst cd_106_22 kd_106_204 rfl rfl rfl nl_2 rfl rfl (tie_mo_isIn d a1.toInt64 0 (((zm_I M1 12 a0 43) - 1).toInt64) M1 _ h5) ?_
    refine k_if hs (fun c6 hs => ?_) (fun c6 hs => ?_)
    · refine e_izJ cd_106_25 rfl c6 ?_
      exact tie_mo_taken_38  d   q4.2 so _  hs
    · refine e_izN cd_106_25 rfl c6 ?_
      refine e_ildn cd_106_28 g2 ?_
      refine e_pure cd_106_29 rfl ?_
      refine e_lcon cd_106_30 cl_0 ?_
      refine e_lcon cd_106_31 cl_1 ?_
      obtain ⟨q7, h8, hs⟩ := k_bind hs
      refine e_cst cd_106_32 kd_106_204 rfl rfl rfl nl_2 rfl rfl (tie_mo_isIn d a2.toInt64 0 1 q4.2 _ h8) ?_
      refine k_if hs (fun c9 hs => ?_) (fun c9 hs => ?_)
      · refine e_izN cd_106_35 rfl (fun q => q c9) ?_
        exact tie_mo_taken_38  d   q7.2 so _  hs
      · refine e_izJ cd_106_35 rfl c9 ?_
        refine e_ildn cd_106_42 g2 ?_
        refine k_if hs (fun c10 hs => ?_) (fun c10 hs => ?_)
        · refine e_izN cd_106_43 rfl (fun q => q c10) ?_
          refine e_aldn cd_106_46 g0 ?_
          refine e_getR cd_106_47 fd_106_96 rfl ?_
          refine e_ildn cd_106_50 g1 ?_
          refine k_opt hs (fun _ q => nomatch q) (fun k11 h12 hs => ?_)
          obtain ⟨c13, hs⟩ := z_ite hs
          refine e_iald cd_106_51 rfl h12 c13 ?_
          refine e_goto cd_106_52 rfl ?_
          exact tie_mo_taken_61  d  (zm_I q7.2 20 k11 (a1 : Int32).toNatClampNeg) q7.2 so _  hs
        · refine e_izJ cd_106_43 rfl c10 ?_
          refine e_aldn cd_106_55 g0 ?_
          refine e_getR cd_106_56 fd_106_99 rfl ?_
          refine e_ildn cd_106_59 g1 ?_
          refine k_opt hs (fun _ q => nomatch q) (fun k14 h15 hs => ?_)
          obtain ⟨c16, hs⟩ := z_ite hs
          refine e_iald cd_106_60 rfl h15 c16 ?_
          exact tie_mo_taken_61  d  (zm_I q7.2 20 k14 (a1 : Int32).toNatClampNeg) q7.2 so _  hs
theorem tie_mo_taken (d : Nat) (a0 : Nat) (a1 : Int32) (a2 : Int32) (M : zM) (so : Int32 × zM) (hs : mo_taken d a0 a1 a2 M = some so) : Ev zq_T d 106 0 (zl_args 0 [.inr (.inr (12, some a0)), .inl a1, .inl a2]) [] M (some (.inl so.1), so.2) := by
  cases d with
  | zero => exact nomatch hs
  | succ d => exact tieb_mo_taken d a0 a1 a2 M so hs
theorem tie_mo_times_42  (d : Nat)  (s0 : Int32) (M : zM) (so : Int32 × zM) (ls : List (Nat × zV))  (hs : mo_times_42  d s0 M = some so) : Ev zq_T (d + 1) 107 42 ls [.inl s0] M (some (.inl so.1), so.2) := by
  unfold mo_times_42 at hs
  have e := Option.some.inj hs
  subst e
  exact e_ri cd_107_42 nr_107
theorem tie_mo_times_39  (d : Nat)   (M : zM) (so : Int32 × zM) (ls : List (Nat × zV))  (hs : mo_times_39  d  M = some so) : Ev zq_T (d + 1) 107 39 ls [] M (some (.inl so.1), so.2) := by
  unfold mo_times_39 at hs
  refine e_ldwI cd_107_39 od_107_366 ?_
  exact tie_mo_times_42  d  (-1000000) M so _  hs
theorem tieb_mo_times  (d : Nat)  (a0 : Nat) (a1 : Int32) (M : zM) (so : Int32 × zM) (hs : mo_times_b  d a0 a1 M = some so) : Ev zq_T (d + 1) 107 0 (zl_args 0 [.inr (.inr (12, some a0)), .inl a1]) [] M (some (.inl so.1), so.2) := by
  unfold mo_times_b at hs
  have g0 : zl_get (zl_args 0 [.inr (.inr (12, some a0)), .inl a1]) 0 = some (.inr (.inr (12, (some a0)))) := rfl
  have g1 : zl_get (zl_args 0 [.inr (.inr (12, some a0)), .inl a1]) 1 = some (.inl a1) := rfl
  refine e_aldn cd_107_0 g0 ?_
  refine e_const cd_107_1 ci_0 ?_
  refine k_let hs (fun M1 e2 hs => ?_)
  refine e_putI cd_107_2 pd_107_114 rfl e2 ?_
  refine e_aldn cd_107_5 g0 ?_
  refine e_getI cd_107_6 (Or.inr fd_107_233) rfl ?_
  refine k_if hs (fun c3 hs => ?_) (fun c3 hs => ?_)
  · refine e_izJ cd_107_9 rfl c3 ?_
    exact tie_mo_times_39  d   M1 so _  hs
  · refine e_izN cd_107_9 rfl c3 ?_
    refine e_ildn cd_107_12 g1 ?_
    refine e_pure cd_107_13 rfl ?_
    refine e_lcon cd_107_14 cl_0 ?_
    refine e_aldn cd_107_15 g0 ?_
    refine e_getI cd_107_16 (Or.inl fd_107_475) rfl ?_
    refine e_const cd_107_19 ci_1 ?_
    refine e_pure cd_107_20 rfl ?_
    refine e_pure cd_107_21 rfl ?_
    obtain ⟨q4, h5, hs⟩ := k_bind hs
    refine e_cst cd_107_22 kd_107_204 rfl rfl rfl nl_2 rfl rfl (tie_mo_isIn d a1.toInt64 0 (((zm_I M1 12 a0 45) - 1).toInt64) M1 _ h5) ?_
    refine k_if hs (fun c6 hs => ?_) (fun c6 hs => ?_)
    · refine e_izJ cd_107_25 rfl c6 ?_
      exact tie_mo_times_39  d   q4.2 so _  hs
    · refine e_izN cd_107_25 rfl c6 ?_
      refine e_aldn cd_107_28 g0 ?_
      refine e_getR cd_107_29 fd_107_102 rfl ?_
      refine e_const cd_107_32 ci_1 ?_
      refine e_ildn cd_107_33 g1 ?_
      refine e_pure cd_107_34 rfl ?_
      refine k_opt hs (fun _ q => nomatch q) (fun k7 h8 hs => ?_)
      obtain ⟨c9, hs⟩ := z_ite hs
      refine e_iald cd_107_35 rfl h8 c9 ?_
      refine e_goto cd_107_36 rfl ?_
      exact tie_mo_times_42  d  (zm_I q4.2 20 k7 (1 + a1).toNatClampNeg) q4.2 so _  hs
theorem tie_mo_times (d : Nat) (a0 : Nat) (a1 : Int32) (M : zM) (so : Int32 × zM) (hs : mo_times d a0 a1 M = some so) : Ev zq_T d 107 0 (zl_args 0 [.inr (.inr (12, some a0)), .inl a1]) [] M (some (.inl so.1), so.2) := by
  cases d with
  | zero => exact nomatch hs
  | succ d => exact tieb_mo_times d a0 a1 M so hs
theorem tie_mo_parts_43  (d : Nat)  (s0 : Int32) (M : zM) (so : Int32 × zM) (ls : List (Nat × zV))  (hs : mo_parts_43  d s0 M = some so) : Ev zq_T (d + 1) 108 43 ls [.inl s0] M (some (.inl so.1), so.2) := by
  unfold mo_parts_43 at hs
  have e := Option.some.inj hs
  subst e
  exact e_ri cd_108_43 nr_108
theorem tie_mo_parts_40  (d : Nat)   (M : zM) (so : Int32 × zM) (ls : List (Nat × zV))  (hs : mo_parts_40  d  M = some so) : Ev zq_T (d + 1) 108 40 ls [] M (some (.inl so.1), so.2) := by
  unfold mo_parts_40 at hs
  refine e_ldwI cd_108_40 od_108_366 ?_
  exact tie_mo_parts_43  d  (-1000000) M so _  hs
theorem tieb_mo_parts  (d : Nat)  (a0 : Nat) (a1 : Int32) (M : zM) (so : Int32 × zM) (hs : mo_parts_b  d a0 a1 M = some so) : Ev zq_T (d + 1) 108 0 (zl_args 0 [.inr (.inr (12, some a0)), .inl a1]) [] M (some (.inl so.1), so.2) := by
  unfold mo_parts_b at hs
  have g0 : zl_get (zl_args 0 [.inr (.inr (12, some a0)), .inl a1]) 0 = some (.inr (.inr (12, (some a0)))) := rfl
  have g1 : zl_get (zl_args 0 [.inr (.inr (12, some a0)), .inl a1]) 1 = some (.inl a1) := rfl
  refine e_aldn cd_108_0 g0 ?_
  refine e_const cd_108_1 ci_0 ?_
  refine k_let hs (fun M1 e2 hs => ?_)
  refine e_putI cd_108_2 pd_108_114 rfl e2 ?_
  refine e_aldn cd_108_5 g0 ?_
  refine e_getI cd_108_6 (Or.inr fd_108_233) rfl ?_
  refine k_if hs (fun c3 hs => ?_) (fun c3 hs => ?_)
  · refine e_izJ cd_108_9 rfl c3 ?_
    exact tie_mo_parts_40  d   M1 so _  hs
  · refine e_izN cd_108_9 rfl c3 ?_
    refine e_ildn cd_108_12 g1 ?_
    refine e_pure cd_108_13 rfl ?_
    refine e_lcon cd_108_14 cl_0 ?_
    refine e_aldn cd_108_15 g0 ?_
    refine e_getI cd_108_16 (Or.inl fd_108_478) rfl ?_
    refine e_const cd_108_19 ci_1 ?_
    refine e_pure cd_108_20 rfl ?_
    refine e_pure cd_108_21 rfl ?_
    obtain ⟨q4, h5, hs⟩ := k_bind hs
    refine e_cst cd_108_22 kd_108_204 rfl rfl rfl nl_2 rfl rfl (tie_mo_isIn d a1.toInt64 0 (((zm_I M1 12 a0 46) - 1).toInt64) M1 _ h5) ?_
    refine k_if hs (fun c6 hs => ?_) (fun c6 hs => ?_)
    · refine e_izJ cd_108_25 rfl c6 ?_
      exact tie_mo_parts_40  d   q4.2 so _  hs
    · refine e_izN cd_108_25 rfl c6 ?_
      refine e_aldn cd_108_28 g0 ?_
      refine e_getR cd_108_29 fd_108_102 rfl ?_
      refine e_bip cd_108_32 cb_9 ?_
      refine e_ildn cd_108_34 g1 ?_
      refine e_pure cd_108_35 rfl ?_
      refine k_opt hs (fun _ q => nomatch q) (fun k7 h8 hs => ?_)
      obtain ⟨c9, hs⟩ := z_ite hs
      refine e_iald cd_108_36 rfl h8 c9 ?_
      refine e_goto cd_108_37 rfl ?_
      exact tie_mo_parts_43  d  (zm_I q4.2 20 k7 (9 + a1).toNatClampNeg) q4.2 so _  hs
theorem tie_mo_parts (d : Nat) (a0 : Nat) (a1 : Int32) (M : zM) (so : Int32 × zM) (hs : mo_parts d a0 a1 M = some so) : Ev zq_T d 108 0 (zl_args 0 [.inr (.inr (12, some a0)), .inl a1]) [] M (some (.inl so.1), so.2) := by
  cases d with
  | zero => exact nomatch hs
  | succ d => exact tieb_mo_parts d a0 a1 M so hs
theorem tie_mo_edits_74 (kl6 : Nat → Int32 → Int32 → Int32 → Int32 → Int32 → zM → Option (Int32 × zM)) (d : Nat) (hk6 : ∀ (t0 : Nat) (v1 : Int32) (v2 : Int32) (v3 : Int32) (v4 : Int32) (v5 : Int32) (M : zM) (so : Int32 × zM) (ls : List (Nat × zV)), zl_get ls 0 = some (.inr (.inr (12, (some t0)))) → zl_get ls 1 = some (.inl v1) → zl_get ls 2 = some (.inl v2) → zl_get ls 3 = some (.inl v3) → zl_get ls 4 = some (.inl v4) → zl_get ls 5 = some (.inl v5) → kl6 t0 v1 v2 v3 v4 v5 M = some so → Ev zq_T (d + 1) 109 6 ls [] M (some (.inl so.1), so.2)) (t0 : Nat) (v1 : Int32) (v2 : Int32) (v3 : Int32) (v4 : Int32) (v5 : Int32) (M : zM) (so : Int32 × zM) (ls : List (Nat × zV)) (g0 : zl_get ls 0 = some (.inr (.inr (12, (some t0))))) (g1 : zl_get ls 1 = some (.inl v1)) (g2 : zl_get ls 2 = some (.inl v2)) (g3 : zl_get ls 3 = some (.inl v3)) (g4 : zl_get ls 4 = some (.inl v4)) (g5 : zl_get ls 5 = some (.inl v5)) (hs : mo_edits_74 kl6 d t0 v1 v2 v3 v4 v5 M = some so) : Ev zq_T (d + 1) 109 74 ls [] M (some (.inl so.1), so.2) := by
  unfold mo_edits_74 at hs
  refine k_let hs (fun x1 e2 hs => ?_)
  refine e_incK cd_109_74 nl_109 rfl g5 ci_1 e2 ?_
  intro _ gn kp
  have u3 := kp 0 _ g0 rfl rfl
  have u4 := kp 1 _ g1 rfl rfl
  have u5 := kp 2 _ g2 rfl rfl
  have u6 := kp 3 _ g3 rfl rfl
  have u7 := kp 4 _ g4 rfl rfl
  have u8 := gn
  refine e_goto cd_109_77 rfl ?_
  exact hk6 t0 v1 v2 v3 v4 x1 M so _ u3 u4 u5 u6 u7 u8 hs
theorem tie_mo_edits_57 (kl6 : Nat → Int32 → Int32 → Int32 → Int32 → Int32 → zM → Option (Int32 × zM)) (d : Nat) (hk6 : ∀ (t0 : Nat) (v1 : Int32) (v2 : Int32) (v3 : Int32) (v4 : Int32) (v5 : Int32) (M : zM) (so : Int32 × zM) (ls : List (Nat × zV)), zl_get ls 0 = some (.inr (.inr (12, (some t0)))) → zl_get ls 1 = some (.inl v1) → zl_get ls 2 = some (.inl v2) → zl_get ls 3 = some (.inl v3) → zl_get ls 4 = some (.inl v4) → zl_get ls 5 = some (.inl v5) → kl6 t0 v1 v2 v3 v4 v5 M = some so → Ev zq_T (d + 1) 109 6 ls [] M (some (.inl so.1), so.2)) (t0 : Nat) (v1 : Int32) (v2 : Int32) (v3 : Int32) (v4 : Int32) (v5 : Int32) (M : zM) (so : Int32 × zM) (ls : List (Nat × zV)) (g0 : zl_get ls 0 = some (.inr (.inr (12, (some t0))))) (g1 : zl_get ls 1 = some (.inl v1)) (g2 : zl_get ls 2 = some (.inl v2)) (g3 : zl_get ls 3 = some (.inl v3)) (g4 : zl_get ls 4 = some (.inl v4)) (g5 : zl_get ls 5 = some (.inl v5)) (hs : mo_edits_57 kl6 d t0 v1 v2 v3 v4 v5 M = some so) : Ev zq_T (d + 1) 109 57 ls [] M (some (.inl so.1), so.2) := by
  unfold mo_edits_57 at hs
  refine e_aldn cd_109_57 g0 ?_
  refine e_getR cd_109_58 fd_109_105 rfl ?_
  refine e_ild cd_109_61 g4 ?_
  refine e_aldn cd_109_63 g0 ?_
  refine e_getR cd_109_64 fd_109_93 rfl ?_
  refine e_ild cd_109_67 g5 ?_
  refine k_opt hs (fun _ q => nomatch q) (fun k1 h2 hs => ?_)
  obtain ⟨c3, hs⟩ := z_ite hs
  refine e_iald cd_109_69 rfl h2 c3 ?_
  refine k_opt hs (fun _ q => nomatch q) (fun k4 h5 hs => ?_)
  obtain ⟨c6, hs⟩ := z_ite hs
  refine k_let hs (fun M7 e8 hs => ?_)
  refine e_iast cd_109_70 rfl h5 c6 e8 ?_
  refine k_let hs (fun x9 e10 hs => ?_)
  refine e_incK cd_109_71 nl_109 rfl g4 ci_1 e10 ?_
  intro _ gn kp
  have u11 := kp 0 _ g0 rfl rfl
  have u12 := kp 1 _ g1 rfl rfl
  have u13 := kp 2 _ g2 rfl rfl
  have u14 := kp 3 _ g3 rfl rfl
  have u15 := kp 5 _ g5 rfl rfl
  have u16 := gn
  exact tie_mo_edits_74 kl6 d hk6 t0 v1 v2 v3 x9 v5 M7 so _ u11 u12 u13 u14 u16 u15 hs
theorem tie_mo_edits_37 (kl6 : Nat → Int32 → Int32 → Int32 → Int32 → Int32 → zM → Option (Int32 × zM)) (d : Nat) (hk6 : ∀ (t0 : Nat) (v1 : Int32) (v2 : Int32) (v3 : Int32) (v4 : Int32) (v5 : Int32) (M : zM) (so : Int32 × zM) (ls : List (Nat × zV)), zl_get ls 0 = some (.inr (.inr (12, (some t0)))) → zl_get ls 1 = some (.inl v1) → zl_get ls 2 = some (.inl v2) → zl_get ls 3 = some (.inl v3) → zl_get ls 4 = some (.inl v4) → zl_get ls 5 = some (.inl v5) → kl6 t0 v1 v2 v3 v4 v5 M = some so → Ev zq_T (d + 1) 109 6 ls [] M (some (.inl so.1), so.2)) (t0 : Nat) (v1 : Int32) (v2 : Int32) (v3 : Int32) (v4 : Int32) (v5 : Int32) (M : zM) (so : Int32 × zM) (ls : List (Nat × zV)) (g0 : zl_get ls 0 = some (.inr (.inr (12, (some t0))))) (g1 : zl_get ls 1 = some (.inl v1)) (g2 : zl_get ls 2 = some (.inl v2)) (g3 : zl_get ls 3 = some (.inl v3)) (g4 : zl_get ls 4 = some (.inl v4)) (g5 : zl_get ls 5 = some (.inl v5)) (hs : mo_edits_37 kl6 d t0 v1 v2 v3 v4 v5 M = some so) : Ev zq_T (d + 1) 109 37 ls [] M (some (.inl so.1), so.2) := by
  unfold mo_edits_37 at hs
  refine e_ild cd_109_37 g5 ?_
  refine e_aldn cd_109_39 g0 ?_
  refine e_getI cd_109_40 (Or.inl fd_109_463) rfl ?_
  refine k_if hs (fun c1 hs => ?_) (fun c1 hs => ?_)
  · refine e_icJ cd_109_43 rfl c1 ?_
    exact tie_mo_edits_74 kl6 d hk6 t0 v1 v2 v3 v4 v5 M so _ g0 g1 g2 g3 g4 g5 hs
  · refine e_icN cd_109_43 rfl c1 ?_
    refine e_ild cd_109_46 g5 ?_
    refine e_ildn cd_109_48 g2 ?_
    refine k_if hs (fun c2 hs => ?_) (fun c2 hs => ?_)
    · refine e_icN cd_109_49 rfl (fun q => q c2) ?_
      refine e_ildn cd_109_52 g1 ?_
      refine e_const cd_109_53 ci_2 ?_
      refine k_if hs (fun c3 hs => ?_) (fun c3 hs => ?_)
      · refine e_icN cd_109_54 rfl (fun q => q c3) ?_
        exact tie_mo_edits_57 kl6 d hk6 t0 v1 v2 v3 v4 v5 M so _ g0 g1 g2 g3 g4 g5 hs
      · refine e_icJ cd_109_54 rfl c3 ?_
        exact tie_mo_edits_74 kl6 d hk6 t0 v1 v2 v3 v4 v5 M so _ g0 g1 g2 g3 g4 g5 hs
    · refine e_icJ cd_109_49 rfl c2 ?_
      exact tie_mo_edits_57 kl6 d hk6 t0 v1 v2 v3 v4 v5 M so _ g0 g1 g2 g3 g4 g5 hs
theorem tie_mo_edits_120  (d : Nat)  (s0 : Option Nat) (s1 : Int32) (M : zM) (so : Int32 × zM) (ls : List (Nat × zV))  (hs : mo_edits_120  d s0 s1 M = some so) : Ev zq_T (d + 1) 109 120 ls [.inl s1, .inr (.inr (12, s0))] M (some (.inl so.1), so.2) := by
  unfold mo_edits_120 at hs
  refine k_opt hs (fun _ q => nomatch q) (fun k1 h2 hs => ?_)
  refine k_let hs (fun M3 e4 hs => ?_)
  refine e_putI cd_109_120 pd_109_491 h2 e4 ?_
  refine e_const cd_109_123 ci_1 ?_
  have e := Option.some.inj hs
  subst e
  exact e_rz cd_109_124 nr_109 (Or.inr rfl)
theorem tie_mo_edits_6  (d : Nat)  : ∀ (fuel : Nat) (t0 : Nat) (v1 : Int32) (v2 : Int32) (v3 : Int32) (v4 : Int32) (v5 : Int32) (M : zM) (so : Int32 × zM) (ls : List (Nat × zV)), zl_get ls 0 = some (.inr (.inr (12, (some t0)))) → zl_get ls 1 = some (.inl v1) → zl_get ls 2 = some (.inl v2) → zl_get ls 3 = some (.inl v3) → zl_get ls 4 = some (.inl v4) → zl_get ls 5 = some (.inl v5) → mo_edits_6  d fuel t0 v1 v2 v3 v4 v5 M = some so → Ev zq_T (d + 1) 109 6 ls [] M (some (.inl so.1), so.2) := by
  intro fuel
  induction fuel with
  | zero => intro t0 v1 v2 v3 v4 v5 M so ls g0 g1 g2 g3 g4 g5 hs; exact nomatch hs
  | succ fuel ih =>
    intro t0 v1 v2 v3 v4 v5 M so ls g0 g1 g2 g3 g4 g5 hs
    unfold mo_edits_6 at hs
    refine e_ild cd_109_6 g5 ?_
    refine e_aldn cd_109_8 g0 ?_
    refine e_getI cd_109_9 (Or.inl fd_109_463) rfl ?_
    refine k_if hs (fun c1 hs => ?_) (fun c1 hs => ?_)
    · refine e_icJ cd_109_12 rfl c1 ?_
      refine e_aldn cd_109_80 g0 ?_
      refine e_aldn cd_109_81 g0 ?_
      refine e_getI cd_109_82 (Or.inl fd_109_460) rfl ?_
      refine e_aldn cd_109_85 g0 ?_
      refine e_getR cd_109_86 fd_109_105 rfl ?_
      refine e_ild cd_109_89 g4 ?_
      obtain ⟨q2, h3, hs⟩ := k_bind hs
      refine e_cvi cd_109_91 kd_109_481 rfl rfl rfl rfl rfl nl_100 rfl rfl (tie_mo_isWord d t0 (zm_I M 12 t0 41) (zm_R M 12 t0 52) v4 M _ h3) ?_
      refine k_if hs (fun c4 hs => ?_) (fun c4 hs => ?_)
      · refine e_izN cd_109_94 rfl (fun q => q c4) ?_
        refine e_const cd_109_97 ci_0 ?_
        have e := Option.some.inj hs
        subst e
        exact e_rz cd_109_98 nr_109 (Or.inl rfl)
      · refine e_izJ cd_109_94 rfl c4 ?_
        refine e_aldn cd_109_99 g0 ?_
        refine e_ildn cd_109_100 g1 ?_
        refine k_let hs (fun M5 e6 hs => ?_)
        refine e_putI cd_109_101 pd_109_485 rfl e6 ?_
        refine e_aldn cd_109_104 g0 ?_
        refine e_ildn cd_109_105 g2 ?_
        refine k_let hs (fun M7 e8 hs => ?_)
        refine e_putI cd_109_106 pd_109_488 rfl e8 ?_
        refine e_aldn cd_109_109 g0 ?_
        refine e_ildn cd_109_110 g1 ?_
        refine e_const cd_109_111 ci_1 ?_
        refine k_if hs (fun c9 hs => ?_) (fun c9 hs => ?_)
        · refine e_icN cd_109_112 rfl (fun q => q c9) ?_
          refine e_const cd_109_115 ci_m1 ?_
          refine e_goto cd_109_116 rfl ?_
          exact tie_mo_edits_120  d  (some t0) (-1) M7 so _  hs
        · refine e_icJ cd_109_112 rfl c9 ?_
          refine e_ildn cd_109_119 g3 ?_
          exact tie_mo_edits_120  d  (some t0) v3 M7 so _  hs
    · refine e_icN cd_109_12 rfl c1 ?_
      refine e_ild cd_109_15 g5 ?_
      refine e_ildn cd_109_17 g2 ?_
      refine k_if hs (fun c10 hs => ?_) (fun c10 hs => ?_)
      · refine e_icN cd_109_18 rfl (fun q => q c10) ?_
        refine e_ildn cd_109_21 g1 ?_
        refine e_const cd_109_22 ci_1 ?_
        refine k_if hs (fun c11 hs => ?_) (fun c11 hs => ?_)
        · refine e_icJ cd_109_23 rfl c11 ?_
          exact tie_mo_edits_37 (fun p0 p1 p2 p3 p4 p5 m => mo_edits_6  d fuel p0 p1 p2 p3 p4 p5 m) d ih t0 v1 v2 v3 v4 v5 M so _ g0 g1 g2 g3 g4 g5 hs
        · refine e_icN cd_109_23 rfl c11 ?_
          refine e_aldn cd_109_26 g0 ?_
          refine e_getR cd_109_27 fd_109_105 rfl ?_
          refine e_ild cd_109_30 g4 ?_
          refine e_ildn cd_109_32 g3 ?_
          refine k_opt hs (fun _ q => nomatch q) (fun k12 h13 hs => ?_)
          obtain ⟨c14, hs⟩ := z_ite hs
          refine k_let hs (fun M15 e16 hs => ?_)
          refine e_iast cd_109_33 rfl h13 c14 e16 ?_
          refine k_let hs (fun x17 e18 hs => ?_)
          refine e_incK cd_109_34 nl_109 rfl g4 ci_1 e18 ?_
          intro _ gn kp
          have u19 := kp 0 _ g0 rfl rfl
          have u20 := kp 1 _ g1 rfl rfl
          have u21 := kp 2 _ g2 rfl rfl
          have u22 := kp 3 _ g3 rfl rfl
          have u23 := kp 5 _ g5 rfl rfl
          have u24 := gn
          exact tie_mo_edits_37 (fun p0 p1 p2 p3 p4 p5 m => mo_edits_6  d fuel p0 p1 p2 p3 p4 p5 m) d ih t0 v1 v2 v3 x17 v5 M15 so _ u19 u20 u21 u22 u24 u23 hs
      · refine e_icJ cd_109_18 rfl c10 ?_
        exact tie_mo_edits_37 (fun p0 p1 p2 p3 p4 p5 m => mo_edits_6  d fuel p0 p1 p2 p3 p4 p5 m) d ih t0 v1 v2 v3 v4 v5 M so _ g0 g1 g2 g3 g4 g5 hs
theorem tieb_mo_edits  (d : Nat)  (a0 : Nat) (a1 : Int32) (a2 : Int32) (a3 : Int32) (M : zM) (so : Int32 × zM) (hs : mo_edits_b  d a0 a1 a2 a3 M = some so) : Ev zq_T (d + 1) 109 0 (zl_args 0 [.inr (.inr (12, some a0)), .inl a1, .inl a2, .inl a3]) [] M (some (.inl so.1), so.2) := by
  unfold mo_edits_b at hs
  have g0 : zl_get (zl_args 0 [.inr (.inr (12, some a0)), .inl a1, .inl a2, .inl a3]) 0 = some (.inr (.inr (12, (some a0)))) := rfl
  have g1 : zl_get (zl_args 0 [.inr (.inr (12, some a0)), .inl a1, .inl a2, .inl a3]) 1 = some (.inl a1) := rfl
  have g2 : zl_get (zl_args 0 [.inr (.inr (12, some a0)), .inl a1, .inl a2, .inl a3]) 2 = some (.inl a2) := rfl
  have g3 : zl_get (zl_args 0 [.inr (.inr (12, some a0)), .inl a1, .inl a2, .inl a3]) 3 = some (.inl a3) := rfl
  refine e_const cd_109_0 ci_0 ?_
  refine e_iK cd_109_1 nl_109 rfl rfl ?_
  intro _ gn kp
  have u1 := kp 0 _ g0 rfl rfl
  have u2 := kp 1 _ g1 rfl rfl
  have u3 := kp 2 _ g2 rfl rfl
  have u4 := kp 3 _ g3 rfl rfl
  have u5 := gn
  refine e_const cd_109_3 ci_0 ?_
  refine e_iK cd_109_4 nl_109 rfl rfl ?_
  intro _ gn kp
  have u6 := kp 0 _ u1 rfl rfl
  have u7 := kp 1 _ u2 rfl rfl
  have u8 := kp 2 _ u3 rfl rfl
  have u9 := kp 3 _ u4 rfl rfl
  have u10 := kp 4 _ u5 rfl rfl
  have u11 := gn
  exact tie_mo_edits_6  d  zLF a0 a1 a2 a3 0 0 M so _ u6 u7 u8 u9 u10 u11 hs
