theorem tie_mo_edits (d : Nat) (a0 : Nat) (a1 : Int32) (a2 : Int32) (a3 : Int32) (M : zM) (so : Int32 × zM) (hs : mo_edits d a0 a1 a2 a3 M = some so) : Ev zq_T d 109 0 (zl_args 0 [.inr (.inr (12, some a0)), .inl a1, .inl a2, .inl a3]) [] M (some (.inl so.1), so.2) := by
  cases d with
  | zero => exact nomatch hs
  | succ d => exact tieb_mo_edits d a0 a1 a2 a3 M so hs
theorem tie_mo_findsEdit_149 (kl75 : Nat → Int32 → Int32 → zM → Option (Int32 × zM)) (kl82 : Nat → Int32 → Int32 → Int32 → zM → Option (Int32 × zM)) (kl104 : Nat → Int32 → Int32 → Int32 → Int32 → zM → Option (Int32 × zM)) (d : Nat) (hk75 : ∀ (t0 : Nat) (v1 : Int32) (v2 : Int32) (M : zM) (so : Int32 × zM) (ls : List (Nat × zV)), zl_get ls 0 = some (.inr (.inr (12, (some t0)))) → zl_get ls 1 = some (.inl v1) → zl_get ls 2 = some (.inl v2) → kl75 t0 v1 v2 M = some so → Ev zq_T (d + 1) 110 75 ls [] M (some (.inl so.1), so.2)) (hk82 : ∀ (t0 : Nat) (v1 : Int32) (v2 : Int32) (v3 : Int32) (M : zM) (so : Int32 × zM) (ls : List (Nat × zV)), zl_get ls 0 = some (.inr (.inr (12, (some t0)))) → zl_get ls 1 = some (.inl v1) → zl_get ls 2 = some (.inl v2) → zl_get ls 3 = some (.inl v3) → kl82 t0 v1 v2 v3 M = some so → Ev zq_T (d + 1) 110 82 ls [] M (some (.inl so.1), so.2)) (hk104 : ∀ (t0 : Nat) (v1 : Int32) (v2 : Int32) (v3 : Int32) (v4 : Int32) (M : zM) (so : Int32 × zM) (ls : List (Nat × zV)), zl_get ls 0 = some (.inr (.inr (12, (some t0)))) → zl_get ls 1 = some (.inl v1) → zl_get ls 2 = some (.inl v2) → zl_get ls 3 = some (.inl v3) → zl_get ls 4 = some (.inl v4) → kl104 t0 v1 v2 v3 v4 M = some so → Ev zq_T (d + 1) 110 104 ls [] M (some (.inl so.1), so.2)) (t0 : Nat) (v1 : Int32) (v2 : Int32) (v3 : Int32) (v4 : Int32) (M : zM) (so : Int32 × zM) (ls : List (Nat × zV)) (g0 : zl_get ls 0 = some (.inr (.inr (12, (some t0))))) (g1 : zl_get ls 1 = some (.inl v1)) (g2 : zl_get ls 2 = some (.inl v2)) (g3 : zl_get ls 3 = some (.inl v3)) (g4 : zl_get ls 4 = some (.inl v4)) (hs : mo_findsEdit_149 kl75 kl82 kl104 d t0 v1 v2 v3 v4 M = some so) : Ev zq_T (d + 1) 110 149 ls [] M (some (.inl so.1), so.2) := by
  unfold mo_findsEdit_149 at hs
  refine k_let hs (fun x1 e2 hs => ?_)
  refine e_incK cd_110_149 nl_110 rfl g4 ci_1 e2 ?_
  intro _ gn kp
  have u3 := kp 0 _ g0 rfl rfl
  have u4 := kp 1 _ g1 rfl rfl
  have u5 := kp 2 _ g2 rfl rfl
  have u6 := kp 3 _ g3 rfl rfl
  have u7 := gn
  refine e_goto cd_110_152 rfl ?_
  exact hk104 t0 v1 v2 v3 x1 M so _ u3 u4 u5 u6 u7 hs
theorem tie_mo_findsEdit_136 (kl75 : Nat → Int32 → Int32 → zM → Option (Int32 × zM)) (kl82 : Nat → Int32 → Int32 → Int32 → zM → Option (Int32 × zM)) (kl104 : Nat → Int32 → Int32 → Int32 → Int32 → zM → Option (Int32 × zM)) (d : Nat) (hk75 : ∀ (t0 : Nat) (v1 : Int32) (v2 : Int32) (M : zM) (so : Int32 × zM) (ls : List (Nat × zV)), zl_get ls 0 = some (.inr (.inr (12, (some t0)))) → zl_get ls 1 = some (.inl v1) → zl_get ls 2 = some (.inl v2) → kl75 t0 v1 v2 M = some so → Ev zq_T (d + 1) 110 75 ls [] M (some (.inl so.1), so.2)) (hk82 : ∀ (t0 : Nat) (v1 : Int32) (v2 : Int32) (v3 : Int32) (M : zM) (so : Int32 × zM) (ls : List (Nat × zV)), zl_get ls 0 = some (.inr (.inr (12, (some t0)))) → zl_get ls 1 = some (.inl v1) → zl_get ls 2 = some (.inl v2) → zl_get ls 3 = some (.inl v3) → kl82 t0 v1 v2 v3 M = some so → Ev zq_T (d + 1) 110 82 ls [] M (some (.inl so.1), so.2)) (hk104 : ∀ (t0 : Nat) (v1 : Int32) (v2 : Int32) (v3 : Int32) (v4 : Int32) (M : zM) (so : Int32 × zM) (ls : List (Nat × zV)), zl_get ls 0 = some (.inr (.inr (12, (some t0)))) → zl_get ls 1 = some (.inl v1) → zl_get ls 2 = some (.inl v2) → zl_get ls 3 = some (.inl v3) → zl_get ls 4 = some (.inl v4) → kl104 t0 v1 v2 v3 v4 M = some so → Ev zq_T (d + 1) 110 104 ls [] M (some (.inl so.1), so.2)) (t0 : Nat) (v1 : Int32) (v2 : Int32) (v3 : Int32) (v4 : Int32) (M : zM) (so : Int32 × zM) (ls : List (Nat × zV)) (g0 : zl_get ls 0 = some (.inr (.inr (12, (some t0))))) (g1 : zl_get ls 1 = some (.inl v1)) (g2 : zl_get ls 2 = some (.inl v2)) (g3 : zl_get ls 3 = some (.inl v3)) (g4 : zl_get ls 4 = some (.inl v4)) (hs : mo_findsEdit_136 kl75 kl82 kl104 d t0 v1 v2 v3 v4 M = some so) : Ev zq_T (d + 1) 110 136 ls [] M (some (.inl so.1), so.2) := by
  unfold mo_findsEdit_136 at hs
  refine e_aldn cd_110_136 g0 ?_
  refine e_ildn cd_110_137 g2 ?_
  refine e_ildn cd_110_138 g3 ?_
  refine e_ild cd_110_139 g4 ?_
  obtain ⟨q1, h2, hs⟩ := k_bind hs
  refine e_cvi cd_110_141 kd_110_494 rfl rfl rfl rfl rfl nl_109 rfl rfl (tie_mo_edits d t0 v2 v3 v4 M _ h2) ?_
  refine k_if hs (fun c3 hs => ?_) (fun c3 hs => ?_)
  · refine e_izJ cd_110_144 rfl c3 ?_
    exact tie_mo_findsEdit_149 kl75 kl82 kl104 d hk75 hk82 hk104 t0 v1 v2 v3 v4 q1.2 so _ g0 g1 g2 g3 g4 hs
  · refine e_izN cd_110_144 rfl c3 ?_
    refine e_const cd_110_147 ci_1 ?_
    have e := Option.some.inj hs
    subst e
    exact e_rz cd_110_148 nr_110 (Or.inr rfl)
theorem tie_mo_findsEdit_104 (kl75 : Nat → Int32 → Int32 → zM → Option (Int32 × zM)) (kl82 : Nat → Int32 → Int32 → Int32 → zM → Option (Int32 × zM)) (d : Nat) (hk75 : ∀ (t0 : Nat) (v1 : Int32) (v2 : Int32) (M : zM) (so : Int32 × zM) (ls : List (Nat × zV)), zl_get ls 0 = some (.inr (.inr (12, (some t0)))) → zl_get ls 1 = some (.inl v1) → zl_get ls 2 = some (.inl v2) → kl75 t0 v1 v2 M = some so → Ev zq_T (d + 1) 110 75 ls [] M (some (.inl so.1), so.2)) (hk82 : ∀ (t0 : Nat) (v1 : Int32) (v2 : Int32) (v3 : Int32) (M : zM) (so : Int32 × zM) (ls : List (Nat × zV)), zl_get ls 0 = some (.inr (.inr (12, (some t0)))) → zl_get ls 1 = some (.inl v1) → zl_get ls 2 = some (.inl v2) → zl_get ls 3 = some (.inl v3) → kl82 t0 v1 v2 v3 M = some so → Ev zq_T (d + 1) 110 82 ls [] M (some (.inl so.1), so.2)) : ∀ (fuel : Nat) (t0 : Nat) (v1 : Int32) (v2 : Int32) (v3 : Int32) (v4 : Int32) (M : zM) (so : Int32 × zM) (ls : List (Nat × zV)), zl_get ls 0 = some (.inr (.inr (12, (some t0)))) → zl_get ls 1 = some (.inl v1) → zl_get ls 2 = some (.inl v2) → zl_get ls 3 = some (.inl v3) → zl_get ls 4 = some (.inl v4) → mo_findsEdit_104 kl75 kl82 d fuel t0 v1 v2 v3 v4 M = some so → Ev zq_T (d + 1) 110 104 ls [] M (some (.inl so.1), so.2) := by
  intro fuel
  induction fuel with
  | zero => intro t0 v1 v2 v3 v4 M so ls g0 g1 g2 g3 g4 hs; exact nomatch hs
  | succ fuel ih =>
    intro t0 v1 v2 v3 v4 M so ls g0 g1 g2 g3 g4 hs
    unfold mo_findsEdit_104 at hs
    refine e_ild cd_110_104 g4 ?_
    refine e_bip cd_110_106 cb_26 ?_
    refine k_if hs (fun c1 hs => ?_) (fun c1 hs => ?_)
    · refine e_icJ cd_110_108 rfl c1 ?_
      refine k_let hs (fun x2 e3 hs => ?_)
      refine e_incK cd_110_155 nl_110 rfl g3 ci_1 e3 ?_
      intro _ gn kp
      have u4 := kp 0 _ g0 rfl rfl
      have u5 := kp 1 _ g1 rfl rfl
      have u6 := kp 2 _ g2 rfl rfl
      have u7 := gn
      refine e_goto cd_110_158 rfl ?_
      exact hk82 t0 v1 v2 x2 M so _ u4 u5 u6 u7 hs
    · refine e_icN cd_110_108 rfl c1 ?_
      refine e_ildn cd_110_111 g1 ?_
      refine e_ild cd_110_112 g4 ?_
      obtain ⟨q8, h9, hs⟩ := k_bind hs
      refine e_cst cd_110_114 kd_110_413 rfl rfl rfl nl_3 rfl rfl (tie_mo_has d v1 v4 M _ h9) ?_
      refine k_if hs (fun c10 hs => ?_) (fun c10 hs => ?_)
      · refine e_izJ cd_110_117 rfl c10 ?_
        exact tie_mo_findsEdit_149 kl75 kl82 (fun p0 p1 p2 p3 p4 m => mo_findsEdit_104 kl75 kl82 d fuel p0 p1 p2 p3 p4 m) d hk75 hk82 ih t0 v1 v2 v3 v4 q8.2 so _ g0 g1 g2 g3 g4 hs
      · refine e_izN cd_110_117 rfl c10 ?_
        refine e_ildn cd_110_120 g2 ?_
        refine e_const cd_110_121 ci_2 ?_
        refine k_if hs (fun c11 hs => ?_) (fun c11 hs => ?_)
        · refine e_icJ cd_110_122 rfl c11 ?_
          exact tie_mo_findsEdit_136 kl75 kl82 (fun p0 p1 p2 p3 p4 m => mo_findsEdit_104 kl75 kl82 d fuel p0 p1 p2 p3 p4 m) d hk75 hk82 ih t0 v1 v2 v3 v4 q8.2 so _ g0 g1 g2 g3 g4 hs
        · refine e_icN cd_110_122 rfl c11 ?_
          refine e_ild cd_110_125 g4 ?_
          refine e_aldn cd_110_127 g0 ?_
          refine e_getR cd_110_128 fd_110_93 rfl ?_
          refine e_ildn cd_110_131 g3 ?_
          refine k_opt hs (fun _ q => nomatch q) (fun k12 h13 hs => ?_)
          obtain ⟨c14, hs⟩ := z_ite hs
          refine e_iald cd_110_132 rfl h13 c14 ?_
          refine k_if hs (fun c15 hs => ?_) (fun c15 hs => ?_)
          · refine e_icJ cd_110_133 rfl c15 ?_
            exact tie_mo_findsEdit_149 kl75 kl82 (fun p0 p1 p2 p3 p4 m => mo_findsEdit_104 kl75 kl82 d fuel p0 p1 p2 p3 p4 m) d hk75 hk82 ih t0 v1 v2 v3 v4 q8.2 so _ g0 g1 g2 g3 g4 hs
          · refine e_icN cd_110_133 rfl c15 ?_
            exact tie_mo_findsEdit_136 kl75 kl82 (fun p0 p1 p2 p3 p4 m => mo_findsEdit_104 kl75 kl82 d fuel p0 p1 p2 p3 p4 m) d hk75 hk82 ih t0 v1 v2 v3 v4 q8.2 so _ g0 g1 g2 g3 g4 hs
theorem tie_mo_findsEdit_97 (kl75 : Nat → Int32 → Int32 → zM → Option (Int32 × zM)) (kl82 : Nat → Int32 → Int32 → Int32 → zM → Option (Int32 × zM)) (d : Nat) (hk75 : ∀ (t0 : Nat) (v1 : Int32) (v2 : Int32) (M : zM) (so : Int32 × zM) (ls : List (Nat × zV)), zl_get ls 0 = some (.inr (.inr (12, (some t0)))) → zl_get ls 1 = some (.inl v1) → zl_get ls 2 = some (.inl v2) → kl75 t0 v1 v2 M = some so → Ev zq_T (d + 1) 110 75 ls [] M (some (.inl so.1), so.2)) (hk82 : ∀ (t0 : Nat) (v1 : Int32) (v2 : Int32) (v3 : Int32) (M : zM) (so : Int32 × zM) (ls : List (Nat × zV)), zl_get ls 0 = some (.inr (.inr (12, (some t0)))) → zl_get ls 1 = some (.inl v1) → zl_get ls 2 = some (.inl v2) → zl_get ls 3 = some (.inl v3) → kl82 t0 v1 v2 v3 M = some so → Ev zq_T (d + 1) 110 82 ls [] M (some (.inl so.1), so.2)) (t0 : Nat) (v1 : Int32) (v2 : Int32) (v3 : Int32) (s0 : Int32) (s1 : Int32) (s2 : Int32) (M : zM) (so : Int32 × zM) (ls : List (Nat × zV)) (g0 : zl_get ls 0 = some (.inr (.inr (12, (some t0))))) (g1 : zl_get ls 1 = some (.inl v1)) (g2 : zl_get ls 2 = some (.inl v2)) (g3 : zl_get ls 3 = some (.inl v3)) (hs : mo_findsEdit_97 kl75 kl82 d t0 v1 v2 v3 s0 s1 s2 M = some so) : Ev zq_T (d + 1) 110 97 ls [.inl s2, .inl s1, .inl s0] M (some (.inl so.1), so.2) := by
  unfold mo_findsEdit_97 at hs
  refine e_pure cd_110_97 rfl ?_
  refine k_if hs (fun c1 hs => ?_) (fun c1 hs => ?_)
  · refine e_icJ cd_110_98 rfl c1 ?_
    refine k_let hs (fun x2 e3 hs => ?_)
    refine e_incK cd_110_161 nl_110 rfl g2 ci_1 e3 ?_
    intro _ gn kp
    have u4 := kp 0 _ g0 rfl rfl
    have u5 := kp 1 _ g1 rfl rfl
    have u6 := gn
    refine e_goto cd_110_164 rfl ?_
    exact hk75 t0 v1 x2 M so _ u4 u5 u6 hs
  · refine e_icN cd_110_98 rfl c1 ?_
    refine e_const cd_110_101 ci_0 ?_
    refine e_iK cd_110_102 nl_110 rfl rfl ?_
    intro _ gn kp
    have u7 := kp 0 _ g0 rfl rfl
    have u8 := kp 1 _ g1 rfl rfl
    have u9 := kp 2 _ g2 rfl rfl
    have u10 := kp 3 _ g3 rfl rfl
    have u11 := gn
    exact tie_mo_findsEdit_104 kl75 kl82 d hk75 hk82 zLF t0 v1 v2 v3 0 M so _ u7 u8 u9 u10 u11 hs
theorem tie_mo_findsEdit_82 (kl75 : Nat → Int32 → Int32 → zM → Option (Int32 × zM)) (d : Nat) (hk75 : ∀ (t0 : Nat) (v1 : Int32) (v2 : Int32) (M : zM) (so : Int32 × zM) (ls : List (Nat × zV)), zl_get ls 0 = some (.inr (.inr (12, (some t0)))) → zl_get ls 1 = some (.inl v1) → zl_get ls 2 = some (.inl v2) → kl75 t0 v1 v2 M = some so → Ev zq_T (d + 1) 110 75 ls [] M (some (.inl so.1), so.2)) : ∀ (fuel : Nat) (t0 : Nat) (v1 : Int32) (v2 : Int32) (v3 : Int32) (M : zM) (so : Int32 × zM) (ls : List (Nat × zV)), zl_get ls 0 = some (.inr (.inr (12, (some t0)))) → zl_get ls 1 = some (.inl v1) → zl_get ls 2 = some (.inl v2) → zl_get ls 3 = some (.inl v3) → mo_findsEdit_82 kl75 d fuel t0 v1 v2 v3 M = some so → Ev zq_T (d + 1) 110 82 ls [] M (some (.inl so.1), so.2) := by
  intro fuel
  induction fuel with
  | zero => intro t0 v1 v2 v3 M so ls g0 g1 g2 g3 hs; exact nomatch hs
  | succ fuel ih =>
    intro t0 v1 v2 v3 M so ls g0 g1 g2 g3 hs
    unfold mo_findsEdit_82 at hs
    refine e_ildn cd_110_82 g3 ?_
    refine e_aldn cd_110_83 g0 ?_
    refine e_getI cd_110_84 (Or.inl fd_110_463) rfl ?_
    refine e_ildn cd_110_87 g2 ?_
    refine e_const cd_110_88 ci_2 ?_
    refine k_if hs (fun c1 hs => ?_) (fun c1 hs => ?_)
    · refine e_icN cd_110_89 rfl (fun q => q c1) ?_
      refine e_const cd_110_92 ci_1 ?_
      refine e_goto cd_110_93 rfl ?_
      exact tie_mo_findsEdit_97 kl75 (fun p0 p1 p2 p3 m => mo_findsEdit_82 kl75 d fuel p0 p1 p2 p3 m) d hk75 ih t0 v1 v2 v3 v3 (zm_I M 12 t0 42) 1 M so _ g0 g1 g2 g3 hs
    · refine e_icJ cd_110_89 rfl c1 ?_
      refine e_const cd_110_96 ci_0 ?_
      exact tie_mo_findsEdit_97 kl75 (fun p0 p1 p2 p3 m => mo_findsEdit_82 kl75 d fuel p0 p1 p2 p3 m) d hk75 ih t0 v1 v2 v3 v3 (zm_I M 12 t0 42) 0 M so _ g0 g1 g2 g3 hs
theorem tie_mo_findsEdit_75  (d : Nat)  : ∀ (fuel : Nat) (t0 : Nat) (v1 : Int32) (v2 : Int32) (M : zM) (so : Int32 × zM) (ls : List (Nat × zV)), zl_get ls 0 = some (.inr (.inr (12, (some t0)))) → zl_get ls 1 = some (.inl v1) → zl_get ls 2 = some (.inl v2) → mo_findsEdit_75  d fuel t0 v1 v2 M = some so → Ev zq_T (d + 1) 110 75 ls [] M (some (.inl so.1), so.2) := by
  intro fuel
  induction fuel with
  | zero => intro t0 v1 v2 M so ls g0 g1 g2 hs; exact nomatch hs
  | succ fuel ih =>
    intro t0 v1 v2 M so ls g0 g1 g2 hs
    unfold mo_findsEdit_75 at hs
    refine e_ildn cd_110_75 g2 ?_
    refine e_const cd_110_76 ci_3 ?_
    refine k_if hs (fun c1 hs => ?_) (fun c1 hs => ?_)
    · refine e_icJ cd_110_77 rfl c1 ?_
      refine e_const cd_110_167 ci_0 ?_
      have e := Option.some.inj hs
      subst e
      exact e_rz cd_110_168 nr_110 (Or.inl rfl)
    · refine e_icN cd_110_77 rfl c1 ?_
      refine e_const cd_110_80 ci_0 ?_
      refine e_iKn cd_110_81 nl_110 rfl rfl ?_
      intro _ gn kp
      have u2 := kp 0 _ g0 rfl rfl
      have u3 := kp 1 _ g1 rfl rfl
      have u4 := kp 2 _ g2 rfl rfl
      have u5 := gn
      exact tie_mo_findsEdit_82 (fun p0 p1 p2 m => mo_findsEdit_75  d fuel p0 p1 p2 m) d ih zLF t0 v1 v2 0 M so _ u2 u3 u4 u5 hs
theorem tie_mo_findsEdit_38  (d : Nat)  : ∀ (fuel : Nat) (t0 : Nat) (v1 : Int32) (M : zM) (so : Int32 × zM) (ls : List (Nat × zV)), zl_get ls 0 = some (.inr (.inr (12, (some t0)))) → zl_get ls 1 = some (.inl v1) → mo_findsEdit_38  d fuel t0 v1 M = some so → Ev zq_T (d + 1) 110 38 ls [] M (some (.inl so.1), so.2) := by
  intro fuel
  induction fuel with
  | zero => intro t0 v1 M so ls g0 g1 hs; exact nomatch hs
  | succ fuel ih =>
    intro t0 v1 M so ls g0 g1 hs
    unfold mo_findsEdit_38 at hs
    refine e_ildn cd_110_38 g1 ?_
    refine e_aldn cd_110_39 g0 ?_
    refine e_getI cd_110_40 (Or.inl fd_110_463) rfl ?_
    refine k_if hs (fun c1 hs => ?_) (fun c1 hs => ?_)
    · refine e_icJ cd_110_43 rfl c1 ?_
      refine e_aldn cd_110_64 g0 ?_
      refine e_aldn cd_110_65 g0 ?_
      refine e_getI cd_110_66 (Or.inl fd_110_460) rfl ?_
      obtain ⟨q2, h3, hs⟩ := k_bind hs
      refine e_cvi cd_110_69 kd_110_378 rfl rfl rfl rfl rfl nl_77 rfl rfl (tie_mo_lettersIn d t0 (zm_I M 12 t0 41) M _ h3) ?_
      refine e_iKn cd_110_72 nl_110 rfl rfl ?_
      intro _ gn kp
      have u4 := kp 0 _ g0 rfl rfl
      have u5 := gn
      refine e_const cd_110_73 ci_2 ?_
      refine e_iKn cd_110_74 nl_110 rfl rfl ?_
      intro _ gn kp
      have u6 := kp 0 _ u4 rfl rfl
      have u7 := kp 1 _ u5 rfl rfl
      have u8 := gn
      exact tie_mo_findsEdit_75  d  zLF t0 q2.1 2 q2.2 so _ u6 u7 u8 hs
    · refine e_icN cd_110_43 rfl c1 ?_
      refine e_aldn cd_110_46 g0 ?_
      refine e_const cd_110_47 ci_1 ?_
      refine e_ildn cd_110_48 g1 ?_
      refine e_const cd_110_49 ci_m1 ?_
      obtain ⟨q9, h10, hs⟩ := k_bind hs
      refine e_cvi cd_110_50 kd_110_494 rfl rfl rfl rfl rfl nl_109 rfl rfl (tie_mo_edits d t0 1 v1 (-1) M _ h10) ?_
      refine k_if hs (fun c11 hs => ?_) (fun c11 hs => ?_)
      · refine e_izJ cd_110_53 rfl c11 ?_
        refine k_let hs (fun x12 e13 hs => ?_)
        refine e_incK cd_110_58 nl_110 rfl g1 ci_1 e13 ?_
        intro _ gn kp
        have u14 := kp 0 _ g0 rfl rfl
        have u15 := gn
        refine e_goto cd_110_61 rfl ?_
        exact ih t0 x12 q9.2 so _ u14 u15 hs
      · refine e_izN cd_110_53 rfl c11 ?_
        refine e_const cd_110_56 ci_1 ?_
        have e := Option.some.inj hs
        subst e
        exact e_rz cd_110_57 nr_110 (Or.inr rfl)
theorem tieb_mo_findsEdit  (d : Nat)  (a0 : Nat) (M : zM) (so : Int32 × zM) (hs : mo_findsEdit_b  d a0 M = some so) : Ev zq_T (d + 1) 110 0 (zl_args 0 [.inr (.inr (12, some a0))]) [] M (some (.inl so.1), so.2) := by
  unfold mo_findsEdit_b at hs
  have g0 : zl_get (zl_args 0 [.inr (.inr (12, some a0))]) 0 = some (.inr (.inr (12, (some a0)))) := rfl
  refine e_aldn cd_110_0 g0 ?_
  refine e_const cd_110_1 ci_0 ?_
  refine k_let hs (fun M1 e2 hs => ?_)
  refine e_putI cd_110_2 pd_110_485 rfl e2 ?_
  refine e_aldn cd_110_5 g0 ?_
  refine e_const cd_110_6 ci_m1 ?_
  refine k_let hs (fun M3 e4 hs => ?_)
  refine e_putI cd_110_7 pd_110_488 rfl e4 ?_
  refine e_aldn cd_110_10 g0 ?_
  refine e_const cd_110_11 ci_m1 ?_
  refine k_let hs (fun M5 e6 hs => ?_)
  refine e_putI cd_110_12 pd_110_491 rfl e6 ?_
  refine e_aldn cd_110_15 g0 ?_
  refine e_aldn cd_110_16 g0 ?_
  refine e_getI cd_110_17 (Or.inl fd_110_460) rfl ?_
  refine e_aldn cd_110_20 g0 ?_
  refine e_getR cd_110_21 fd_110_93 rfl ?_
  refine e_aldn cd_110_24 g0 ?_
  refine e_getI cd_110_25 (Or.inl fd_110_463) rfl ?_
  obtain ⟨q7, h8, hs⟩ := k_bind hs
  refine e_cvi cd_110_28 kd_110_481 rfl rfl rfl rfl rfl nl_100 rfl rfl (tie_mo_isWord d a0 (zm_I M5 12 a0 41) (zm_R M5 12 a0 48) (zm_I M5 12 a0 42) M5 _ h8) ?_
  refine k_if hs (fun c9 hs => ?_) (fun c9 hs => ?_)
  · refine e_izJ cd_110_31 rfl c9 ?_
    refine e_const cd_110_36 ci_0 ?_
    refine e_iKn cd_110_37 nl_110 rfl rfl ?_
    intro _ gn kp
    have u10 := kp 0 _ g0 rfl rfl
    have u11 := gn
    exact tie_mo_findsEdit_38  d  zLF a0 0 q7.2 so _ u10 u11 hs
  · refine e_izN cd_110_31 rfl c9 ?_
    refine e_const cd_110_34 ci_1 ?_
    have e := Option.some.inj hs
    subst e
    exact e_rz cd_110_35 nr_110 (Or.inr rfl)
theorem tie_mo_findsEdit (d : Nat) (a0 : Nat) (M : zM) (so : Int32 × zM) (hs : mo_findsEdit d a0 M = some so) : Ev zq_T d 110 0 (zl_args 0 [.inr (.inr (12, some a0))]) [] M (some (.inl so.1), so.2) := by
  cases d with
  | zero => exact nomatch hs
  | succ d => exact tieb_mo_findsEdit d a0 M so hs
theorem tie_mo_mended_42  (d : Nat)   (M : zM) (so : Int32 × zM) (ls : List (Nat × zV))  (hs : mo_mended_42  d  M = some so) : Ev zq_T (d + 1) 111 42 ls [] M (some (.inl so.1), so.2) := by
  unfold mo_mended_42 at hs
  refine e_const cd_111_42 ci_m1 ?_
  have e := Option.some.inj hs
  subst e
  exact e_ri cd_111_43 nr_111
theorem tie_mo_mended_71  (d : Nat)  (s0 : Int32) (M : zM) (so : Int32 × zM) (ls : List (Nat × zV))  (hs : mo_mended_71  d s0 M = some so) : Ev zq_T (d + 1) 111 71 ls [.inl s0] M (some (.inl so.1), so.2) := by
  unfold mo_mended_71 at hs
  have e := Option.some.inj hs
  subst e
  exact e_ri cd_111_71 nr_111
theorem tieb_mo_mended  (d : Nat)  (a0 : Nat) (a1 : Int32) (M : zM) (so : Int32 × zM) (hs : mo_mended_b  d a0 a1 M = some so) : Ev zq_T (d + 1) 111 0 (zl_args 0 [.inr (.inr (12, some a0)), .inl a1]) [] M (some (.inl so.1), so.2) := by
  unfold mo_mended_b at hs
  have g0 : zl_get (zl_args 0 [.inr (.inr (12, some a0)), .inl a1]) 0 = some (.inr (.inr (12, (some a0)))) := rfl
  have g1 : zl_get (zl_args 0 [.inr (.inr (12, some a0)), .inl a1]) 1 = some (.inl a1) := rfl
  refine e_aldn cd_111_0 g0 ?_
  refine e_const cd_111_1 ci_0 ?_
  refine k_let hs (fun M1 e2 hs => ?_)
  refine e_putI cd_111_2 pd_111_114 rfl e2 ?_
  refine e_aldn cd_111_5 g0 ?_
  refine e_getI cd_111_6 (Or.inr fd_111_233) rfl ?_
  refine k_if hs (fun c3 hs => ?_) (fun c3 hs => ?_)
  · refine e_izJ cd_111_9 rfl c3 ?_
    exact tie_mo_mended_42  d   M1 so _  hs
  · refine e_izN cd_111_9 rfl c3 ?_
    refine e_ildn cd_111_12 g1 ?_
    refine e_pure cd_111_13 rfl ?_
    refine e_lcon cd_111_14 cl_0 ?_
    refine e_ld2 cd_111_15 od_111_497 ?_
    obtain ⟨q4, h5, hs⟩ := k_bind hs
    refine e_cst cd_111_18 kd_111_204 rfl rfl rfl nl_2 rfl rfl (tie_mo_isIn d a1.toInt64 0 2 M1 _ h5) ?_
    refine k_if hs (fun c6 hs => ?_) (fun c6 hs => ?_)
    · refine e_izJ cd_111_21 rfl c6 ?_
      exact tie_mo_mended_42  d   q4.2 so _  hs
    · refine e_izN cd_111_21 rfl c6 ?_
      refine e_aldn cd_111_24 g0 ?_
      refine e_aldn cd_111_25 g0 ?_
      refine e_getI cd_111_26 (Or.inl fd_111_460) rfl ?_
      obtain ⟨q7, h8, hs⟩ := k_bind hs
      refine e_cvi cd_111_29 kd_111_372 rfl rfl rfl rfl rfl nl_70 rfl rfl (tie_mo_isSure d a0 (zm_I q4.2 12 a0 41) q4.2 _ h8) ?_
      refine k_if hs (fun c9 hs => ?_) (fun c9 hs => ?_)
      · refine e_izJ cd_111_32 rfl c9 ?_
        exact tie_mo_mended_42  d   q7.2 so _  hs
      · refine e_izN cd_111_32 rfl c9 ?_
        refine e_aldn cd_111_35 g0 ?_
        obtain ⟨q10, h11, hs⟩ := k_bind hs
        refine e_cvi cd_111_36 kd_111_499 rfl rfl rfl rfl rfl nl_110 rfl rfl (tie_mo_findsEdit d a0 q7.2 _ h11) ?_
        refine k_if hs (fun c12 hs => ?_) (fun c12 hs => ?_)
        · refine e_izN cd_111_39 rfl (fun q => q c12) ?_
          exact tie_mo_mended_42  d   q10.2 so _  hs
        · refine e_izJ cd_111_39 rfl c12 ?_
          refine e_ildn cd_111_44 g1 ?_
          refine k_if hs (fun c13 hs => ?_) (fun c13 hs => ?_)
          · refine e_izN cd_111_45 rfl (fun q => q c13) ?_
            refine e_aldn cd_111_48 g0 ?_
            refine e_getI cd_111_49 (Or.inl fd_111_485) rfl ?_
            refine e_goto cd_111_52 rfl ?_
            exact tie_mo_mended_71  d  (zm_I q10.2 12 a0 53) q10.2 so _  hs
          · refine e_izJ cd_111_45 rfl c13 ?_
            refine e_ildn cd_111_55 g1 ?_
            refine e_const cd_111_56 ci_1 ?_
            refine k_if hs (fun c14 hs => ?_) (fun c14 hs => ?_)
            · refine e_icN cd_111_57 rfl (fun q => q c14) ?_
              refine e_aldn cd_111_60 g0 ?_
              refine e_getI cd_111_61 (Or.inl fd_111_488) rfl ?_
              refine e_goto cd_111_64 rfl ?_
              exact tie_mo_mended_71  d  (zm_I q10.2 12 a0 54) q10.2 so _  hs
            · refine e_icJ cd_111_57 rfl c14 ?_
              refine e_aldn cd_111_67 g0 ?_
              refine e_getI cd_111_68 (Or.inl fd_111_491) rfl ?_
              exact tie_mo_mended_71  d  (zm_I q10.2 12 a0 55) q10.2 so _  hs
theorem tie_mo_mended (d : Nat) (a0 : Nat) (a1 : Int32) (M : zM) (so : Int32 × zM) (hs : mo_mended d a0 a1 M = some so) : Ev zq_T d 111 0 (zl_args 0 [.inr (.inr (12, some a0)), .inl a1]) [] M (some (.inl so.1), so.2) := by
  cases d with
  | zero => exact nomatch hs
  | succ d => exact tieb_mo_mended d a0 a1 M so hs
theorem tie_mo_parts2_75 (r_mo_parts2 : Nat → Int32 → Int32 → Int32 → Int32 → Int32 → Int32 → zM → Option (Int32 × zM)) (d : Nat) (hr_mo_parts2 : ∀ a0 a1 a2 a3 a4 a5 a6 M so, r_mo_parts2 a0 a1 a2 a3 a4 a5 a6 M = some so → Ev zq_T d 112 0 (zl_args 0 [.inr (.inr (12, some a0)), .inl a1, .inl a2, .inl a3, .inl a4, .inl a5, .inl a6]) [] M (some (.inl so.1), so.2)) (s0 : Int32) (M : zM) (so : Int32 × zM) (ls : List (Nat × zV))  (hs : mo_parts2_75 r_mo_parts2 d s0 M = some so) : Ev zq_T (d + 1) 112 75 ls [.inl s0] M (some (.inl so.1), so.2) := by
  unfold mo_parts2_75 at hs
  obtain ⟨c1, hs⟩ := z_ite hs
  have e := Option.some.inj hs
  subst e
  exact e_rz cd_112_75 nr_112 c1
theorem tie_mo_parts2_67 (r_mo_parts2 : Nat → Int32 → Int32 → Int32 → Int32 → Int32 → Int32 → zM → Option (Int32 × zM)) (d : Nat) (hr_mo_parts2 : ∀ a0 a1 a2 a3 a4 a5 a6 M so, r_mo_parts2 a0 a1 a2 a3 a4 a5 a6 M = some so → Ev zq_T d 112 0 (zl_args 0 [.inr (.inr (12, some a0)), .inl a1, .inl a2, .inl a3, .inl a4, .inl a5, .inl a6]) [] M (some (.inl so.1), so.2)) (s0 : Int32) (s1 : Int32) (M : zM) (so : Int32 × zM) (ls : List (Nat × zV))  (hs : mo_parts2_67 r_mo_parts2 d s0 s1 M = some so) : Ev zq_T (d + 1) 112 67 ls [.inl s1, .inl s0] M (some (.inl so.1), so.2) := by
  unfold mo_parts2_67 at hs
  refine k_if hs (fun c1 hs => ?_) (fun c1 hs => ?_)
  · refine e_icJ cd_112_67 rfl c1 ?_
    refine e_const cd_112_74 ci_0 ?_
    exact tie_mo_parts2_75 r_mo_parts2 d hr_mo_parts2 0 M so _  hs
  · refine e_icN cd_112_67 rfl c1 ?_
    refine e_const cd_112_70 ci_1 ?_
    refine e_goto cd_112_71 rfl ?_
    exact tie_mo_parts2_75 r_mo_parts2 d hr_mo_parts2 1 M so _  hs
theorem tie_mo_parts2_66 (r_mo_parts2 : Nat → Int32 → Int32 → Int32 → Int32 → Int32 → Int32 → zM → Option (Int32 × zM)) (d : Nat) (hr_mo_parts2 : ∀ a0 a1 a2 a3 a4 a5 a6 M so, r_mo_parts2 a0 a1 a2 a3 a4 a5 a6 M = some so → Ev zq_T d 112 0 (zl_args 0 [.inr (.inr (12, some a0)), .inl a1, .inl a2, .inl a3, .inl a4, .inl a5, .inl a6]) [] M (some (.inl so.1), so.2)) (s0 : Int32) (M : zM) (so : Int32 × zM) (ls : List (Nat × zV))  (hs : mo_parts2_66 r_mo_parts2 d s0 M = some so) : Ev zq_T (d + 1) 112 66 ls [.inl s0] M (some (.inl so.1), so.2) := by
  unfold mo_parts2_66 at hs
  refine e_const cd_112_66 ci_0 ?_
  exact tie_mo_parts2_67 r_mo_parts2 d hr_mo_parts2 s0 0 M so _  hs
theorem tie_mo_parts2_44 (r_mo_parts2 : Nat → Int32 → Int32 → Int32 → Int32 → Int32 → Int32 → zM → Option (Int32 × zM)) (d : Nat) (hr_mo_parts2 : ∀ a0 a1 a2 a3 a4 a5 a6 M so, r_mo_parts2 a0 a1 a2 a3 a4 a5 a6 M = some so → Ev zq_T d 112 0 (zl_args 0 [.inr (.inr (12, some a0)), .inl a1, .inl a2, .inl a3, .inl a4, .inl a5, .inl a6]) [] M (some (.inl so.1), so.2)) (t0 : Nat) (v2 : Int32) (v6 : Int32) (v7 : Int32) (s0 : Int32) (M : zM) (so : Int32 × zM) (ls : List (Nat × zV)) (g0 : zl_get ls 0 = some (.inr (.inr (12, (some t0))))) (g2 : zl_get ls 2 = some (.inl v2)) (g6 : zl_get ls 6 = some (.inl v6)) (g7 : zl_get ls 7 = some (.inl v7)) (hs : mo_parts2_44 r_mo_parts2 d t0 v2 v6 v7 s0 M = some so) : Ev zq_T (d + 1) 112 44 ls [.inl s0] M (some (.inl so.1), so.2) := by
  unfold mo_parts2_44 at hs
  refine e_ild cd_112_44 g6 ?_
  refine k_if hs (fun c1 hs => ?_) (fun c1 hs => ?_)
  · refine e_izJ cd_112_46 rfl c1 ?_
    exact tie_mo_parts2_66 r_mo_parts2 d hr_mo_parts2 s0 M so _  hs
  · refine e_izN cd_112_46 rfl c1 ?_
    refine e_aldn cd_112_49 g0 ?_
    refine e_ildn cd_112_50 g2 ?_
    refine e_bip cd_112_51 cb_78 ?_
    refine e_ild cd_112_53 g7 ?_
    refine e_pure cd_112_55 rfl ?_
    obtain ⟨q2, h3, hs⟩ := k_bind hs
    refine e_cvi cd_112_56 kd_112_448 rfl rfl rfl rfl rfl nl_94 rfl rfl (tie_mo_canEnd d t0 v2 (78 + v7) M _ h3) ?_
    refine k_if hs (fun c4 hs => ?_) (fun c4 hs => ?_)
    · refine e_izJ cd_112_59 rfl c4 ?_
      exact tie_mo_parts2_66 r_mo_parts2 d hr_mo_parts2 s0 q2.2 so _  hs
    · refine e_izN cd_112_59 rfl c4 ?_
      refine e_const cd_112_62 ci_1 ?_
      refine e_goto cd_112_63 rfl ?_
      exact tie_mo_parts2_67 r_mo_parts2 d hr_mo_parts2 s0 1 q2.2 so _  hs
theorem tie_mo_parts2_43 (r_mo_parts2 : Nat → Int32 → Int32 → Int32 → Int32 → Int32 → Int32 → zM → Option (Int32 × zM)) (d : Nat) (hr_mo_parts2 : ∀ a0 a1 a2 a3 a4 a5 a6 M so, r_mo_parts2 a0 a1 a2 a3 a4 a5 a6 M = some so → Ev zq_T d 112 0 (zl_args 0 [.inr (.inr (12, some a0)), .inl a1, .inl a2, .inl a3, .inl a4, .inl a5, .inl a6]) [] M (some (.inl so.1), so.2)) (t0 : Nat) (v2 : Int32) (v6 : Int32) (v7 : Int32) (M : zM) (so : Int32 × zM) (ls : List (Nat × zV)) (g0 : zl_get ls 0 = some (.inr (.inr (12, (some t0))))) (g2 : zl_get ls 2 = some (.inl v2)) (g6 : zl_get ls 6 = some (.inl v6)) (g7 : zl_get ls 7 = some (.inl v7)) (hs : mo_parts2_43 r_mo_parts2 d t0 v2 v6 v7 M = some so) : Ev zq_T (d + 1) 112 43 ls [] M (some (.inl so.1), so.2) := by
  unfold mo_parts2_43 at hs
  refine e_const cd_112_43 ci_0 ?_
  exact tie_mo_parts2_44 r_mo_parts2 d hr_mo_parts2 t0 v2 v6 v7 0 M so _ g0 g2 g6 g7 hs
theorem tie_mo_parts2_229 (r_mo_parts2 : Nat → Int32 → Int32 → Int32 → Int32 → Int32 → Int32 → zM → Option (Int32 × zM)) (kl117 : Nat → Int32 → Int32 → Int32 → Int32 → Int32 → Int32 → Int32 → Int32 → Int32 → zM → Option (Int32 × zM)) (d : Nat) (hr_mo_parts2 : ∀ a0 a1 a2 a3 a4 a5 a6 M so, r_mo_parts2 a0 a1 a2 a3 a4 a5 a6 M = some so → Ev zq_T d 112 0 (zl_args 0 [.inr (.inr (12, some a0)), .inl a1, .inl a2, .inl a3, .inl a4, .inl a5, .inl a6]) [] M (some (.inl so.1), so.2)) (hk117 : ∀ (t0 : Nat) (v1 : Int32) (v2 : Int32) (v3 : Int32) (v4 : Int32) (v5 : Int32) (v6 : Int32) (v7 : Int32) (v8 : Int32) (v9 : Int32) (M : zM) (so : Int32 × zM) (ls : List (Nat × zV)), zl_get ls 0 = some (.inr (.inr (12, (some t0)))) → zl_get ls 1 = some (.inl v1) → zl_get ls 2 = some (.inl v2) → zl_get ls 3 = some (.inl v3) → zl_get ls 4 = some (.inl v4) → zl_get ls 5 = some (.inl v5) → zl_get ls 6 = some (.inl v6) → zl_get ls 7 = some (.inl v7) → zl_get ls 8 = some (.inl v8) → zl_get ls 9 = some (.inl v9) → kl117 t0 v1 v2 v3 v4 v5 v6 v7 v8 v9 M = some so → Ev zq_T (d + 1) 112 117 ls [] M (some (.inl so.1), so.2)) (t0 : Nat) (v1 : Int32) (v2 : Int32) (v3 : Int32) (v4 : Int32) (v5 : Int32) (v6 : Int32) (v7 : Int32) (v8 : Int32) (v9 : Int32) (M : zM) (so : Int32 × zM) (ls : List (Nat × zV)) (g0 : zl_get ls 0 = some (.inr (.inr (12, (some t0))))) (g1 : zl_get ls 1 = some (.inl v1)) (g2 : zl_get ls 2 = some (.inl v2)) (g3 : zl_get ls 3 = some (.inl v3)) (g4 : zl_get ls 4 = some (.inl v4)) (g5 : zl_get ls 5 = some (.inl v5)) (g6 : zl_get ls 6 = some (.inl v6)) (g7 : zl_get ls 7 = some (.inl v7)) (g8 : zl_get ls 8 = some (.inl v8)) (g9 : zl_get ls 9 = some (.inl v9)) (hs : mo_parts2_229 r_mo_parts2 kl117 d t0 v1 v2 v3 v4 v5 v6 v7 v8 v9 M = some so) : Ev zq_T (d + 1) 112 229 ls [] M (some (.inl so.1), so.2) := by
  unfold mo_parts2_229 at hs
  refine k_let hs (fun x1 e2 hs => ?_)
  refine e_incK cd_112_229 nl_112 rfl g9 ci_1 e2 ?_
  intro _ gn kp
  have u3 := kp 0 _ g0 rfl rfl
  have u4 := kp 1 _ g1 rfl rfl
  have u5 := kp 2 _ g2 rfl rfl
  have u6 := kp 3 _ g3 rfl rfl
  have u7 := kp 4 _ g4 rfl rfl
  have u8 := kp 5 _ g5 rfl rfl
  have u9 := kp 6 _ g6 rfl rfl
  have u10 := kp 7 _ g7 rfl rfl
  have u11 := kp 8 _ g8 rfl rfl
  have u12 := gn
  refine e_goto cd_112_232 rfl ?_
  exact hk117 t0 v1 v2 v3 v4 v5 v6 v7 v8 x1 M so _ u3 u4 u5 u6 u7 u8 u9 u10 u11 u12 hs
theorem tie_mo_parts2_199 (r_mo_parts2 : Nat → Int32 → Int32 → Int32 → Int32 → Int32 → Int32 → zM → Option (Int32 × zM)) (kl117 : Nat → Int32 → Int32 → Int32 → Int32 → Int32 → Int32 → Int32 → Int32 → Int32 → zM → Option (Int32 × zM)) (d : Nat) (hr_mo_parts2 : ∀ a0 a1 a2 a3 a4 a5 a6 M so, r_mo_parts2 a0 a1 a2 a3 a4 a5 a6 M = some so → Ev zq_T d 112 0 (zl_args 0 [.inr (.inr (12, some a0)), .inl a1, .inl a2, .inl a3, .inl a4, .inl a5, .inl a6]) [] M (some (.inl so.1), so.2)) (hk117 : ∀ (t0 : Nat) (v1 : Int32) (v2 : Int32) (v3 : Int32) (v4 : Int32) (v5 : Int32) (v6 : Int32) (v7 : Int32) (v8 : Int32) (v9 : Int32) (M : zM) (so : Int32 × zM) (ls : List (Nat × zV)), zl_get ls 0 = some (.inr (.inr (12, (some t0)))) → zl_get ls 1 = some (.inl v1) → zl_get ls 2 = some (.inl v2) → zl_get ls 3 = some (.inl v3) → zl_get ls 4 = some (.inl v4) → zl_get ls 5 = some (.inl v5) → zl_get ls 6 = some (.inl v6) → zl_get ls 7 = some (.inl v7) → zl_get ls 8 = some (.inl v8) → zl_get ls 9 = some (.inl v9) → kl117 t0 v1 v2 v3 v4 v5 v6 v7 v8 v9 M = some so → Ev zq_T (d + 1) 112 117 ls [] M (some (.inl so.1), so.2)) (t0 : Nat) (v1 : Int32) (v2 : Int32) (v3 : Int32) (v4 : Int32) (v5 : Int32) (v6 : Int32) (v7 : Int32) (v8 : Int32) (v9 : Int32) (v10 : Int32) (s0 : Int32) (M : zM) (so : Int32 × zM) (ls : List (Nat × zV)) (g0 : zl_get ls 0 = some (.inr (.inr (12, (some t0))))) (g1 : zl_get ls 1 = some (.inl v1)) (g2 : zl_get ls 2 = some (.inl v2)) (g3 : zl_get ls 3 = some (.inl v3)) (g4 : zl_get ls 4 = some (.inl v4)) (g5 : zl_get ls 5 = some (.inl v5)) (g6 : zl_get ls 6 = some (.inl v6)) (g7 : zl_get ls 7 = some (.inl v7)) (g8 : zl_get ls 8 = some (.inl v8)) (g9 : zl_get ls 9 = some (.inl v9)) (g10 : zl_get ls 10 = some (.inl v10)) (hs : mo_parts2_199 r_mo_parts2 kl117 d t0 v1 v2 v3 v4 v5 v6 v7 v8 v9 v10 s0 M = some so) : Ev zq_T (d + 1) 112 199 ls [.inl s0] M (some (.inl so.1), so.2) := by
  unfold mo_parts2_199 at hs
  refine e_iK cd_112_199 nl_112 rfl rfl ?_
  intro _ gn kp
  have u1 := kp 0 _ g0 rfl rfl
  have u2 := kp 1 _ g1 rfl rfl
  have u3 := kp 2 _ g2 rfl rfl
  have u4 := kp 3 _ g3 rfl rfl
  have u5 := kp 4 _ g4 rfl rfl
  have u6 := kp 5 _ g5 rfl rfl
  have u7 := kp 6 _ g6 rfl rfl
  have u8 := kp 7 _ g7 rfl rfl
  have u9 := kp 8 _ g8 rfl rfl
  have u10 := kp 9 _ g9 rfl rfl
  have u11 := kp 10 _ g10 rfl rfl
  have u12 := gn
  refine e_aldn cd_112_201 u1 ?_
  refine e_getR cd_112_202 fd_112_108 rfl ?_
  refine e_ildn cd_112_205 u4 ?_
  refine e_ild cd_112_206 u10 ?_
  refine k_opt hs (fun _ q => nomatch q) (fun k13 h14 hs => ?_)
  obtain ⟨c15, hs⟩ := z_ite hs
  refine k_let hs (fun M16 e17 hs => ?_)
  refine e_iast cd_112_208 rfl h14 c15 e17 ?_
  refine e_aldn cd_112_209 u1 ?_
  refine e_ildn cd_112_210 u2 ?_
  refine e_ildn cd_112_211 u3 ?_
  refine e_ildn cd_112_212 u4 ?_
  refine e_const cd_112_213 ci_1 ?_
  refine e_pure cd_112_214 rfl ?_
  refine e_ild cd_112_215 u5 ?_
  refine e_ild cd_112_217 u11 ?_
  refine e_ild cd_112_219 u12 ?_
  obtain ⟨q18, h19, hs⟩ := k_bind hs
  refine e_cvi cd_112_221 kd_112_502 rfl rfl rfl rfl rfl nl_112 rfl rfl (hr_mo_parts2 t0 v1 v2 (v3 + 1) v4 v10 s0 M16 _ h19) ?_
  refine k_if hs (fun c20 hs => ?_) (fun c20 hs => ?_)
  · refine e_izJ cd_112_224 rfl c20 ?_
    exact tie_mo_parts2_229 r_mo_parts2 kl117 d hr_mo_parts2 hk117 t0 v1 v2 v3 v4 v5 v6 v7 v8 v9 q18.2 so _ u1 u2 u3 u4 u5 u6 u7 u8 u9 u10 hs
  · refine e_izN cd_112_224 rfl c20 ?_
    refine e_const cd_112_227 ci_1 ?_
    have e := Option.some.inj hs
    subst e
    exact e_rz cd_112_228 nr_112 (Or.inr rfl)
theorem tie_mo_parts2_198 (r_mo_parts2 : Nat → Int32 → Int32 → Int32 → Int32 → Int32 → Int32 → zM → Option (Int32 × zM)) (kl117 : Nat → Int32 → Int32 → Int32 → Int32 → Int32 → Int32 → Int32 → Int32 → Int32 → zM → Option (Int32 × zM)) (d : Nat) (hr_mo_parts2 : ∀ a0 a1 a2 a3 a4 a5 a6 M so, r_mo_parts2 a0 a1 a2 a3 a4 a5 a6 M = some so → Ev zq_T d 112 0 (zl_args 0 [.inr (.inr (12, some a0)), .inl a1, .inl a2, .inl a3, .inl a4, .inl a5, .inl a6]) [] M (some (.inl so.1), so.2)) (hk117 : ∀ (t0 : Nat) (v1 : Int32) (v2 : Int32) (v3 : Int32) (v4 : Int32) (v5 : Int32) (v6 : Int32) (v7 : Int32) (v8 : Int32) (v9 : Int32) (M : zM) (so : Int32 × zM) (ls : List (Nat × zV)), zl_get ls 0 = some (.inr (.inr (12, (some t0)))) → zl_get ls 1 = some (.inl v1) → zl_get ls 2 = some (.inl v2) → zl_get ls 3 = some (.inl v3) → zl_get ls 4 = some (.inl v4) → zl_get ls 5 = some (.inl v5) → zl_get ls 6 = some (.inl v6) → zl_get ls 7 = some (.inl v7) → zl_get ls 8 = some (.inl v8) → zl_get ls 9 = some (.inl v9) → kl117 t0 v1 v2 v3 v4 v5 v6 v7 v8 v9 M = some so → Ev zq_T (d + 1) 112 117 ls [] M (some (.inl so.1), so.2)) (t0 : Nat) (v1 : Int32) (v2 : Int32) (v3 : Int32) (v4 : Int32) (v5 : Int32) (v6 : Int32) (v7 : Int32) (v8 : Int32) (v9 : Int32) (v10 : Int32) (M : zM) (so : Int32 × zM) (ls : List (Nat × zV)) (g0 : zl_get ls 0 = some (.inr (.inr (12, (some t0))))) (g1 : zl_get ls 1 = some (.inl v1)) (g2 : zl_get ls 2 = some (.inl v2)) (g3 : zl_get ls 3 = some (.inl v3)) (g4 : zl_get ls 4 = some (.inl v4)) (g5 : zl_get ls 5 = some (.inl v5)) (g6 : zl_get ls 6 = some (.inl v6)) (g7 : zl_get ls 7 = some (.inl v7)) (g8 : zl_get ls 8 = some (.inl v8)) (g9 : zl_get ls 9 = some (.inl v9)) (g10 : zl_get ls 10 = some (.inl v10)) (hs : mo_parts2_198 r_mo_parts2 kl117 d t0 v1 v2 v3 v4 v5 v6 v7 v8 v9 v10 M = some so) : Ev zq_T (d + 1) 112 198 ls [] M (some (.inl so.1), so.2) := by
  unfold mo_parts2_198 at hs
  refine e_const cd_112_198 ci_0 ?_
  exact tie_mo_parts2_199 r_mo_parts2 kl117 d hr_mo_parts2 hk117 t0 v1 v2 v3 v4 v5 v6 v7 v8 v9 v10 0 M so _ g0 g1 g2 g3 g4 g5 g6 g7 g8 g9 g10 hs
theorem tie_mo_parts2_164 (r_mo_parts2 : Nat → Int32 → Int32 → Int32 → Int32 → Int32 → Int32 → zM → Option (Int32 × zM)) (kl117 : Nat → Int32 → Int32 → Int32 → Int32 → Int32 → Int32 → Int32 → Int32 → Int32 → zM → Option (Int32 × zM)) (d : Nat) (hr_mo_parts2 : ∀ a0 a1 a2 a3 a4 a5 a6 M so, r_mo_parts2 a0 a1 a2 a3 a4 a5 a6 M = some so → Ev zq_T d 112 0 (zl_args 0 [.inr (.inr (12, some a0)), .inl a1, .inl a2, .inl a3, .inl a4, .inl a5, .inl a6]) [] M (some (.inl so.1), so.2)) (hk117 : ∀ (t0 : Nat) (v1 : Int32) (v2 : Int32) (v3 : Int32) (v4 : Int32) (v5 : Int32) (v6 : Int32) (v7 : Int32) (v8 : Int32) (v9 : Int32) (M : zM) (so : Int32 × zM) (ls : List (Nat × zV)), zl_get ls 0 = some (.inr (.inr (12, (some t0)))) → zl_get ls 1 = some (.inl v1) → zl_get ls 2 = some (.inl v2) → zl_get ls 3 = some (.inl v3) → zl_get ls 4 = some (.inl v4) → zl_get ls 5 = some (.inl v5) → zl_get ls 6 = some (.inl v6) → zl_get ls 7 = some (.inl v7) → zl_get ls 8 = some (.inl v8) → zl_get ls 9 = some (.inl v9) → kl117 t0 v1 v2 v3 v4 v5 v6 v7 v8 v9 M = some so → Ev zq_T (d + 1) 112 117 ls [] M (some (.inl so.1), so.2)) (t0 : Nat) (v1 : Int32) (v2 : Int32) (v3 : Int32) (v4 : Int32) (v5 : Int32) (v6 : Int32) (v7 : Int32) (v8 : Int32) (v9 : Int32) (s0 : Int32) (M : zM) (so : Int32 × zM) (ls : List (Nat × zV)) (g0 : zl_get ls 0 = some (.inr (.inr (12, (some t0))))) (g1 : zl_get ls 1 = some (.inl v1)) (g2 : zl_get ls 2 = some (.inl v2)) (g3 : zl_get ls 3 = some (.inl v3)) (g4 : zl_get ls 4 = some (.inl v4)) (g5 : zl_get ls 5 = some (.inl v5)) (g6 : zl_get ls 6 = some (.inl v6)) (g7 : zl_get ls 7 = some (.inl v7)) (g8 : zl_get ls 8 = some (.inl v8)) (g9 : zl_get ls 9 = some (.inl v9)) (hs : mo_parts2_164 r_mo_parts2 kl117 d t0 v1 v2 v3 v4 v5 v6 v7 v8 v9 s0 M = some so) : Ev zq_T (d + 1) 112 164 ls [.inl s0] M (some (.inl so.1), so.2) := by
  unfold mo_parts2_164 at hs
  refine e_iK cd_112_164 nl_112 rfl rfl ?_
  intro _ gn kp
  have u1 := kp 0 _ g0 rfl rfl
  have u2 := kp 1 _ g1 rfl rfl
  have u3 := kp 2 _ g2 rfl rfl
  have u4 := kp 3 _ g3 rfl rfl
  have u5 := kp 4 _ g4 rfl rfl
  have u6 := kp 5 _ g5 rfl rfl
  have u7 := kp 6 _ g6 rfl rfl
  have u8 := kp 7 _ g7 rfl rfl
  have u9 := kp 8 _ g8 rfl rfl
  have u10 := kp 9 _ g9 rfl rfl
  have u11 := gn
  refine e_ild cd_112_166 u7 ?_
  refine k_if hs (fun c12 hs => ?_) (fun c12 hs => ?_)
  · refine e_izJ cd_112_168 rfl c12 ?_
    exact tie_mo_parts2_198 r_mo_parts2 kl117 d hr_mo_parts2 hk117 t0 v1 v2 v3 v4 v5 v6 v7 v8 v9 s0 M so _ u1 u2 u3 u4 u5 u6 u7 u8 u9 u10 u11 hs
  · refine e_izN cd_112_168 rfl c12 ?_
    refine e_aldn cd_112_171 u1 ?_
    refine e_ildn cd_112_172 u3 ?_
    refine e_bip cd_112_173 cb_78 ?_
    refine e_ild cd_112_175 u8 ?_
    refine e_pure cd_112_177 rfl ?_
    refine e_ild cd_112_178 u10 ?_
    refine e_bip cd_112_180 cb_78 ?_
    refine e_ild cd_112_182 u8 ?_
    refine e_pure cd_112_184 rfl ?_
    refine e_bip cd_112_185 cb_13 ?_
    refine e_pure cd_112_187 rfl ?_
    obtain ⟨q13, h14, hs⟩ := k_bind hs
    refine e_cvi cd_112_188 kd_112_441 rfl rfl rfl rfl rfl nl_97 rfl rfl (tie_mo_steps d t0 v2 (78 + v7) v9 ((78 + v7) + 13) M _ h14) ?_
    refine k_if hs (fun c15 hs => ?_) (fun c15 hs => ?_)
    · refine e_izJ cd_112_191 rfl c15 ?_
      exact tie_mo_parts2_198 r_mo_parts2 kl117 d hr_mo_parts2 hk117 t0 v1 v2 v3 v4 v5 v6 v7 v8 v9 s0 q13.2 so _ u1 u2 u3 u4 u5 u6 u7 u8 u9 u10 u11 hs
    · refine e_izN cd_112_191 rfl c15 ?_
      refine e_const cd_112_194 ci_1 ?_
      refine e_goto cd_112_195 rfl ?_
      exact tie_mo_parts2_199 r_mo_parts2 kl117 d hr_mo_parts2 hk117 t0 v1 v2 v3 v4 v5 v6 v7 v8 v9 s0 1 q13.2 so _ u1 u2 u3 u4 u5 u6 u7 u8 u9 u10 u11 hs
theorem tie_mo_parts2_163 (r_mo_parts2 : Nat → Int32 → Int32 → Int32 → Int32 → Int32 → Int32 → zM → Option (Int32 × zM)) (kl117 : Nat → Int32 → Int32 → Int32 → Int32 → Int32 → Int32 → Int32 → Int32 → Int32 → zM → Option (Int32 × zM)) (d : Nat) (hr_mo_parts2 : ∀ a0 a1 a2 a3 a4 a5 a6 M so, r_mo_parts2 a0 a1 a2 a3 a4 a5 a6 M = some so → Ev zq_T d 112 0 (zl_args 0 [.inr (.inr (12, some a0)), .inl a1, .inl a2, .inl a3, .inl a4, .inl a5, .inl a6]) [] M (some (.inl so.1), so.2)) (hk117 : ∀ (t0 : Nat) (v1 : Int32) (v2 : Int32) (v3 : Int32) (v4 : Int32) (v5 : Int32) (v6 : Int32) (v7 : Int32) (v8 : Int32) (v9 : Int32) (M : zM) (so : Int32 × zM) (ls : List (Nat × zV)), zl_get ls 0 = some (.inr (.inr (12, (some t0)))) → zl_get ls 1 = some (.inl v1) → zl_get ls 2 = some (.inl v2) → zl_get ls 3 = some (.inl v3) → zl_get ls 4 = some (.inl v4) → zl_get ls 5 = some (.inl v5) → zl_get ls 6 = some (.inl v6) → zl_get ls 7 = some (.inl v7) → zl_get ls 8 = some (.inl v8) → zl_get ls 9 = some (.inl v9) → kl117 t0 v1 v2 v3 v4 v5 v6 v7 v8 v9 M = some so → Ev zq_T (d + 1) 112 117 ls [] M (some (.inl so.1), so.2)) (t0 : Nat) (v1 : Int32) (v2 : Int32) (v3 : Int32) (v4 : Int32) (v5 : Int32) (v6 : Int32) (v7 : Int32) (v8 : Int32) (v9 : Int32) (M : zM) (so : Int32 × zM) (ls : List (Nat × zV)) (g0 : zl_get ls 0 = some (.inr (.inr (12, (some t0))))) (g1 : zl_get ls 1 = some (.inl v1)) (g2 : zl_get ls 2 = some (.inl v2)) (g3 : zl_get ls 3 = some (.inl v3)) (g4 : zl_get ls 4 = some (.inl v4)) (g5 : zl_get ls 5 = some (.inl v5)) (g6 : zl_get ls 6 = some (.inl v6)) (g7 : zl_get ls 7 = some (.inl v7)) (g8 : zl_get ls 8 = some (.inl v8)) (g9 : zl_get ls 9 = some (.inl v9)) (hs : mo_parts2_163 r_mo_parts2 kl117 d t0 v1 v2 v3 v4 v5 v6 v7 v8 v9 M = some so) : Ev zq_T (d + 1) 112 163 ls [] M (some (.inl so.1), so.2) := by
  unfold mo_parts2_163 at hs
  refine e_const cd_112_163 ci_0 ?_
  exact tie_mo_parts2_164 r_mo_parts2 kl117 d hr_mo_parts2 hk117 t0 v1 v2 v3 v4 v5 v6 v7 v8 v9 0 M so _ g0 g1 g2 g3 g4 g5 g6 g7 g8 g9 hs
theorem tie_mo_parts2_117 (r_mo_parts2 : Nat → Int32 → Int32 → Int32 → Int32 → Int32 → Int32 → zM → Option (Int32 × zM)) (d : Nat) (hr_mo_parts2 : ∀ a0 a1 a2 a3 a4 a5 a6 M so, r_mo_parts2 a0 a1 a2 a3 a4 a5 a6 M = some so → Ev zq_T d 112 0 (zl_args 0 [.inr (.inr (12, some a0)), .inl a1, .inl a2, .inl a3, .inl a4, .inl a5, .inl a6]) [] M (some (.inl so.1), so.2)) : ∀ (fuel : Nat) (t0 : Nat) (v1 : Int32) (v2 : Int32) (v3 : Int32) (v4 : Int32) (v5 : Int32) (v6 : Int32) (v7 : Int32) (v8 : Int32) (v9 : Int32) (M : zM) (so : Int32 × zM) (ls : List (Nat × zV)), zl_get ls 0 = some (.inr (.inr (12, (some t0)))) → zl_get ls 1 = some (.inl v1) → zl_get ls 2 = some (.inl v2) → zl_get ls 3 = some (.inl v3) → zl_get ls 4 = some (.inl v4) → zl_get ls 5 = some (.inl v5) → zl_get ls 6 = some (.inl v6) → zl_get ls 7 = some (.inl v7) → zl_get ls 8 = some (.inl v8) → zl_get ls 9 = some (.inl v9) → mo_parts2_117 r_mo_parts2 d fuel t0 v1 v2 v3 v4 v5 v6 v7 v8 v9 M = some so → Ev zq_T (d + 1) 112 117 ls [] M (some (.inl so.1), so.2) := by
  intro fuel
  induction fuel with
  | zero => intro t0 v1 v2 v3 v4 v5 v6 v7 v8 v9 M so ls g0 g1 g2 g3 g4 g5 g6 g7 g8 g9 hs; exact nomatch hs
  | succ fuel ih =>
    intro t0 v1 v2 v3 v4 v5 v6 v7 v8 v9 M so ls g0 g1 g2 g3 g4 g5 g6 g7 g8 g9 hs
    unfold mo_parts2_117 at hs
    refine e_ild cd_112_117 g9 ?_
    refine e_bip cd_112_119 cb_26 ?_
    refine k_if hs (fun c1 hs => ?_) (fun c1 hs => ?_)
    · refine e_icJ cd_112_121 rfl c1 ?_
      refine e_const cd_112_235 ci_0 ?_
      have e := Option.some.inj hs
      subst e
      exact e_rz cd_112_236 nr_112 (Or.inl rfl)
    · refine e_icN cd_112_121 rfl c1 ?_
      refine e_ild cd_112_124 g8 ?_
      refine e_ild cd_112_126 g9 ?_
      obtain ⟨q2, h3, hs⟩ := k_bind hs
      refine e_cst cd_112_128 kd_112_413 rfl rfl rfl nl_3 rfl rfl (tie_mo_has d v8 v9 M _ h3) ?_
      refine k_if hs (fun c4 hs => ?_) (fun c4 hs => ?_)
      · refine e_izN cd_112_131 rfl (fun q => q c4) ?_
        refine e_goto cd_112_134 rfl ?_
        exact tie_mo_parts2_229 r_mo_parts2 (fun p0 p1 p2 p3 p4 p5 p6 p7 p8 p9 m => mo_parts2_117 r_mo_parts2 d fuel p0 p1 p2 p3 p4 p5 p6 p7 p8 p9 m) d hr_mo_parts2 ih t0 v1 v2 v3 v4 v5 v6 v7 v8 v9 q2.2 so _ g0 g1 g2 g3 g4 g5 g6 g7 g8 g9 hs
      · refine e_izJ cd_112_131 rfl c4 ?_
        refine e_ild cd_112_137 g5 ?_
        refine k_if hs (fun c5 hs => ?_) (fun c5 hs => ?_)
        · refine e_izJ cd_112_139 rfl c5 ?_
          exact tie_mo_parts2_163 r_mo_parts2 (fun p0 p1 p2 p3 p4 p5 p6 p7 p8 p9 m => mo_parts2_117 r_mo_parts2 d fuel p0 p1 p2 p3 p4 p5 p6 p7 p8 p9 m) d hr_mo_parts2 ih t0 v1 v2 v3 v4 v5 v6 v7 v8 v9 q2.2 so _ g0 g1 g2 g3 g4 g5 g6 g7 g8 g9 hs
        · refine e_izN cd_112_139 rfl c5 ?_
          refine e_aldn cd_112_142 g0 ?_
          refine e_ildn cd_112_143 g1 ?_
          refine e_ild cd_112_144 g7 ?_
          refine e_ild cd_112_146 g9 ?_
          refine e_ild cd_112_148 g7 ?_
          refine e_bip cd_112_150 cb_13 ?_
          refine e_pure cd_112_152 rfl ?_
          obtain ⟨q6, h7, hs⟩ := k_bind hs
          refine e_cvi cd_112_153 kd_112_441 rfl rfl rfl rfl rfl nl_97 rfl rfl (tie_mo_steps d t0 v1 v7 v9 (v7 + 13) q2.2 _ h7) ?_
          refine k_if hs (fun c8 hs => ?_) (fun c8 hs => ?_)
          · refine e_izJ cd_112_156 rfl c8 ?_
            exact tie_mo_parts2_163 r_mo_parts2 (fun p0 p1 p2 p3 p4 p5 p6 p7 p8 p9 m => mo_parts2_117 r_mo_parts2 d fuel p0 p1 p2 p3 p4 p5 p6 p7 p8 p9 m) d hr_mo_parts2 ih t0 v1 v2 v3 v4 v5 v6 v7 v8 v9 q6.2 so _ g0 g1 g2 g3 g4 g5 g6 g7 g8 g9 hs
          · refine e_izN cd_112_156 rfl c8 ?_
            refine e_const cd_112_159 ci_1 ?_
            refine e_goto cd_112_160 rfl ?_
            exact tie_mo_parts2_164 r_mo_parts2 (fun p0 p1 p2 p3 p4 p5 p6 p7 p8 p9 m => mo_parts2_117 r_mo_parts2 d fuel p0 p1 p2 p3 p4 p5 p6 p7 p8 p9 m) d hr_mo_parts2 ih t0 v1 v2 v3 v4 v5 v6 v7 v8 v9 1 q6.2 so _ g0 g1 g2 g3 g4 g5 g6 g7 g8 g9 hs
theorem tie_mo_parts2_111 (r_mo_parts2 : Nat → Int32 → Int32 → Int32 → Int32 → Int32 → Int32 → zM → Option (Int32 × zM)) (d : Nat) (hr_mo_parts2 : ∀ a0 a1 a2 a3 a4 a5 a6 M so, r_mo_parts2 a0 a1 a2 a3 a4 a5 a6 M = some so → Ev zq_T d 112 0 (zl_args 0 [.inr (.inr (12, some a0)), .inl a1, .inl a2, .inl a3, .inl a4, .inl a5, .inl a6]) [] M (some (.inl so.1), so.2)) (t0 : Nat) (v1 : Int32) (v2 : Int32) (v3 : Int32) (v4 : Int32) (v5 : Int32) (v6 : Int32) (v7 : Int32) (s0 : Int32) (s1 : Int32) (M : zM) (so : Int32 × zM) (ls : List (Nat × zV)) (g0 : zl_get ls 0 = some (.inr (.inr (12, (some t0))))) (g1 : zl_get ls 1 = some (.inl v1)) (g2 : zl_get ls 2 = some (.inl v2)) (g3 : zl_get ls 3 = some (.inl v3)) (g4 : zl_get ls 4 = some (.inl v4)) (g5 : zl_get ls 5 = some (.inl v5)) (g6 : zl_get ls 6 = some (.inl v6)) (g7 : zl_get ls 7 = some (.inl v7)) (hs : mo_parts2_111 r_mo_parts2 d t0 v1 v2 v3 v4 v5 v6 v7 s0 s1 M = some so) : Ev zq_T (d + 1) 112 111 ls [.inl s1, .inl s0] M (some (.inl so.1), so.2) := by
  unfold mo_parts2_111 at hs
  refine e_pure cd_112_111 rfl ?_
  refine k_let hs (fun x1 e2 hs => ?_)
  refine e_iK cd_112_112 nl_112 rfl e2 ?_
  intro _ gn kp
  have u3 := kp 0 _ g0 rfl rfl
  have u4 := kp 1 _ g1 rfl rfl
  have u5 := kp 2 _ g2 rfl rfl
  have u6 := kp 3 _ g3 rfl rfl
  have u7 := kp 4 _ g4 rfl rfl
  have u8 := kp 5 _ g5 rfl rfl
  have u9 := kp 6 _ g6 rfl rfl
  have u10 := kp 7 _ g7 rfl rfl
  have u11 := gn
  refine e_const cd_112_114 ci_0 ?_
  refine e_iK cd_112_115 nl_112 rfl rfl ?_
  intro _ gn kp
  have u12 := kp 0 _ u3 rfl rfl
  have u13 := kp 1 _ u4 rfl rfl
  have u14 := kp 2 _ u5 rfl rfl
  have u15 := kp 3 _ u6 rfl rfl
  have u16 := kp 4 _ u7 rfl rfl
  have u17 := kp 5 _ u8 rfl rfl
  have u18 := kp 6 _ u9 rfl rfl
  have u19 := kp 7 _ u10 rfl rfl
  have u20 := kp 8 _ u11 rfl rfl
  have u21 := gn
  exact tie_mo_parts2_117 r_mo_parts2 d hr_mo_parts2 zLF t0 v1 v2 v3 v4 v5 v6 v7 x1 0 M so _ u12 u13 u14 u15 u16 u17 u18 u19 u20 u21 hs
theorem tie_mo_parts2_92 (r_mo_parts2 : Nat → Int32 → Int32 → Int32 → Int32 → Int32 → Int32 → zM → Option (Int32 × zM)) (d : Nat) (hr_mo_parts2 : ∀ a0 a1 a2 a3 a4 a5 a6 M so, r_mo_parts2 a0 a1 a2 a3 a4 a5 a6 M = some so → Ev zq_T d 112 0 (zl_args 0 [.inr (.inr (12, some a0)), .inl a1, .inl a2, .inl a3, .inl a4, .inl a5, .inl a6]) [] M (some (.inl so.1), so.2)) (t0 : Nat) (v1 : Int32) (v2 : Int32) (v3 : Int32) (v4 : Int32) (v5 : Int32) (v6 : Int32) (v7 : Int32) (s0 : Int32) (M : zM) (so : Int32 × zM) (ls : List (Nat × zV)) (g0 : zl_get ls 0 = some (.inr (.inr (12, (some t0))))) (g1 : zl_get ls 1 = some (.inl v1)) (g2 : zl_get ls 2 = some (.inl v2)) (g3 : zl_get ls 3 = some (.inl v3)) (g4 : zl_get ls 4 = some (.inl v4)) (g5 : zl_get ls 5 = some (.inl v5)) (g6 : zl_get ls 6 = some (.inl v6)) (g7 : zl_get ls 7 = some (.inl v7)) (hs : mo_parts2_92 r_mo_parts2 d t0 v1 v2 v3 v4 v5 v6 v7 s0 M = some so) : Ev zq_T (d + 1) 112 92 ls [.inl s0] M (some (.inl so.1), so.2) := by
  unfold mo_parts2_92 at hs
  refine e_ild cd_112_92 g6 ?_
  refine k_if hs (fun c1 hs => ?_) (fun c1 hs => ?_)
  · refine e_izJ cd_112_94 rfl c1 ?_
    refine e_const cd_112_110 ci_0 ?_
    exact tie_mo_parts2_111 r_mo_parts2 d hr_mo_parts2 t0 v1 v2 v3 v4 v5 v6 v7 s0 0 M so _ g0 g1 g2 g3 g4 g5 g6 g7 hs
  · refine e_izN cd_112_94 rfl c1 ?_
    refine e_aldn cd_112_97 g0 ?_
    refine e_ildn cd_112_98 g2 ?_
    refine e_bip cd_112_99 cb_78 ?_
    refine e_ild cd_112_101 g7 ?_
    refine e_pure cd_112_103 rfl ?_
    obtain ⟨q2, h3, hs⟩ := k_bind hs
    refine e_cvi cd_112_104 kd_112_451 rfl rfl rfl rfl rfl nl_98 rfl rfl (tie_mo_couldCome d t0 v2 (78 + v7) M _ h3) ?_
    refine e_goto cd_112_107 rfl ?_
    exact tie_mo_parts2_111 r_mo_parts2 d hr_mo_parts2 t0 v1 v2 v3 v4 v5 v6 v7 s0 q2.1 q2.2 so _ g0 g1 g2 g3 g4 g5 g6 g7 hs
theorem tie_mo_parts2_18 (r_mo_parts2 : Nat → Int32 → Int32 → Int32 → Int32 → Int32 → Int32 → zM → Option (Int32 × zM)) (d : Nat) (hr_mo_parts2 : ∀ a0 a1 a2 a3 a4 a5 a6 M so, r_mo_parts2 a0 a1 a2 a3 a4 a5 a6 M = some so → Ev zq_T d 112 0 (zl_args 0 [.inr (.inr (12, some a0)), .inl a1, .inl a2, .inl a3, .inl a4, .inl a5, .inl a6]) [] M (some (.inl so.1), so.2)) (t0 : Nat) (v1 : Int32) (v2 : Int32) (v3 : Int32) (v4 : Int32) (v5 : Int32) (v6 : Int32) (v7 : Int32) (M : zM) (so : Int32 × zM) (ls : List (Nat × zV)) (g0 : zl_get ls 0 = some (.inr (.inr (12, (some t0))))) (g1 : zl_get ls 1 = some (.inl v1)) (g2 : zl_get ls 2 = some (.inl v2)) (g3 : zl_get ls 3 = some (.inl v3)) (g4 : zl_get ls 4 = some (.inl v4)) (g5 : zl_get ls 5 = some (.inl v5)) (g6 : zl_get ls 6 = some (.inl v6)) (g7 : zl_get ls 7 = some (.inl v7)) (hs : mo_parts2_18 r_mo_parts2 d t0 v1 v2 v3 v4 v5 v6 v7 M = some so) : Ev zq_T (d + 1) 112 18 ls [] M (some (.inl so.1), so.2) := by
  unfold mo_parts2_18 at hs
  refine e_ildn cd_112_18 g3 ?_
  refine e_ild cd_112_19 g4 ?_
  refine k_if hs (fun c1 hs => ?_) (fun c1 hs => ?_)
  · refine e_icN cd_112_21 rfl (fun q => q c1) ?_
    refine e_ild cd_112_24 g5 ?_
    refine k_if hs (fun c2 hs => ?_) (fun c2 hs => ?_)
    · refine e_izJ cd_112_26 rfl c2 ?_
      exact tie_mo_parts2_43 r_mo_parts2 d hr_mo_parts2 t0 v2 v6 v7 M so _ g0 g2 g6 g7 hs
    · refine e_izN cd_112_26 rfl c2 ?_
      refine e_aldn cd_112_29 g0 ?_
      refine e_ildn cd_112_30 g1 ?_
      refine e_ild cd_112_31 g7 ?_
      obtain ⟨q3, h4, hs⟩ := k_bind hs
      refine e_cvi cd_112_33 kd_112_448 rfl rfl rfl rfl rfl nl_94 rfl rfl (tie_mo_canEnd d t0 v1 v7 M _ h4) ?_
      refine k_if hs (fun c5 hs => ?_) (fun c5 hs => ?_)
      · refine e_izJ cd_112_36 rfl c5 ?_
        exact tie_mo_parts2_43 r_mo_parts2 d hr_mo_parts2 t0 v2 v6 v7 q3.2 so _ g0 g2 g6 g7 hs
      · refine e_izN cd_112_36 rfl c5 ?_
        refine e_const cd_112_39 ci_1 ?_
        refine e_goto cd_112_40 rfl ?_
        exact tie_mo_parts2_44 r_mo_parts2 d hr_mo_parts2 t0 v2 v6 v7 1 q3.2 so _ g0 g2 g6 g7 hs
  · refine e_icJ cd_112_21 rfl c1 ?_
    refine e_ild cd_112_76 g5 ?_
    refine k_if hs (fun c6 hs => ?_) (fun c6 hs => ?_)
    · refine e_izJ cd_112_78 rfl c6 ?_
      refine e_const cd_112_91 ci_0 ?_
      exact tie_mo_parts2_92 r_mo_parts2 d hr_mo_parts2 t0 v1 v2 v3 v4 v5 v6 v7 0 M so _ g0 g1 g2 g3 g4 g5 g6 g7 hs
    · refine e_izN cd_112_78 rfl c6 ?_
      refine e_aldn cd_112_81 g0 ?_
      refine e_ildn cd_112_82 g1 ?_
      refine e_ild cd_112_83 g7 ?_
      obtain ⟨q7, h8, hs⟩ := k_bind hs
      refine e_cvi cd_112_85 kd_112_451 rfl rfl rfl rfl rfl nl_98 rfl rfl (tie_mo_couldCome d t0 v1 v7 M _ h8) ?_
      refine e_goto cd_112_88 rfl ?_
      exact tie_mo_parts2_92 r_mo_parts2 d hr_mo_parts2 t0 v1 v2 v3 v4 v5 v6 v7 q7.1 q7.2 so _ g0 g1 g2 g3 g4 g5 g6 g7 hs
theorem tieb_mo_parts2 (r_mo_parts2 : Nat → Int32 → Int32 → Int32 → Int32 → Int32 → Int32 → zM → Option (Int32 × zM)) (d : Nat) (hr_mo_parts2 : ∀ a0 a1 a2 a3 a4 a5 a6 M so, r_mo_parts2 a0 a1 a2 a3 a4 a5 a6 M = some so → Ev zq_T d 112 0 (zl_args 0 [.inr (.inr (12, some a0)), .inl a1, .inl a2, .inl a3, .inl a4, .inl a5, .inl a6]) [] M (some (.inl so.1), so.2)) (a0 : Nat) (a1 : Int32) (a2 : Int32) (a3 : Int32) (a4 : Int32) (a5 : Int32) (a6 : Int32) (M : zM) (so : Int32 × zM) (hs : mo_parts2_b r_mo_parts2 d a0 a1 a2 a3 a4 a5 a6 M = some so) : Ev zq_T (d + 1) 112 0 (zl_args 0 [.inr (.inr (12, some a0)), .inl a1, .inl a2, .inl a3, .inl a4, .inl a5, .inl a6]) [] M (some (.inl so.1), so.2) := by
  unfold mo_parts2_b at hs
  have g0 : zl_get (zl_args 0 [.inr (.inr (12, some a0)), .inl a1, .inl a2, .inl a3, .inl a4, .inl a5, .inl a6]) 0 = some (.inr (.inr (12, (some a0)))) := rfl
  have g1 : zl_get (zl_args 0 [.inr (.inr (12, some a0)), .inl a1, .inl a2, .inl a3, .inl a4, .inl a5, .inl a6]) 1 = some (.inl a1) := rfl
  have g2 : zl_get (zl_args 0 [.inr (.inr (12, some a0)), .inl a1, .inl a2, .inl a3, .inl a4, .inl a5, .inl a6]) 2 = some (.inl a2) := rfl
  have g3 : zl_get (zl_args 0 [.inr (.inr (12, some a0)), .inl a1, .inl a2, .inl a3, .inl a4, .inl a5, .inl a6]) 3 = some (.inl a3) := rfl
  have g4 : zl_get (zl_args 0 [.inr (.inr (12, some a0)), .inl a1, .inl a2, .inl a3, .inl a4, .inl a5, .inl a6]) 4 = some (.inl a4) := rfl
  have g5 : zl_get (zl_args 0 [.inr (.inr (12, some a0)), .inl a1, .inl a2, .inl a3, .inl a4, .inl a5, .inl a6]) 5 = some (.inl a5) := rfl
  have g6 : zl_get (zl_args 0 [.inr (.inr (12, some a0)), .inl a1, .inl a2, .inl a3, .inl a4, .inl a5, .inl a6]) 6 = some (.inl a6) := rfl
  refine e_bip cd_112_0 cb_13 ?_
  refine e_ildn cd_112_2 g3 ?_
  refine e_pure cd_112_3 rfl ?_
  refine k_let hs (fun x1 e2 hs => ?_)
  refine e_iK cd_112_4 nl_112 rfl e2 ?_
  intro _ gn kp
  have u3 := kp 0 _ g0 rfl rfl
  have u4 := kp 1 _ g1 rfl rfl
  have u5 := kp 2 _ g2 rfl rfl
  have u6 := kp 3 _ g3 rfl rfl
  have u7 := kp 4 _ g4 rfl rfl
  have u8 := kp 5 _ g5 rfl rfl
  have u9 := kp 6 _ g6 rfl rfl
  have u10 := gn
  refine e_ild cd_112_6 u8 ?_
  refine k_if hs (fun c11 hs => ?_) (fun c11 hs => ?_)
  · refine e_izN cd_112_8 rfl (fun q => q c11) ?_
    refine e_ild cd_112_11 u9 ?_
    refine k_if hs (fun c12 hs => ?_) (fun c12 hs => ?_)
    · refine e_izN cd_112_13 rfl (fun q => q c12) ?_
      refine e_const cd_112_16 ci_0 ?_
      have e := Option.some.inj hs
      subst e
      exact e_rz cd_112_17 nr_112 (Or.inl rfl)
    · refine e_izJ cd_112_13 rfl c12 ?_
      exact tie_mo_parts2_18 r_mo_parts2 d hr_mo_parts2 a0 a1 a2 a3 a4 a5 a6 x1 M so _ u3 u4 u5 u6 u7 u8 u9 u10 hs
  · refine e_izJ cd_112_8 rfl c11 ?_
    exact tie_mo_parts2_18 r_mo_parts2 d hr_mo_parts2 a0 a1 a2 a3 a4 a5 a6 x1 M so _ u3 u4 u5 u6 u7 u8 u9 u10 hs
theorem tie_mo_parts2 (d : Nat) : ∀ (a0 : Nat) (a1 : Int32) (a2 : Int32) (a3 : Int32) (a4 : Int32) (a5 : Int32) (a6 : Int32) (M : zM) (so : Int32 × zM), mo_parts2 d a0 a1 a2 a3 a4 a5 a6 M = some so → Ev zq_T d 112 0 (zl_args 0 [.inr (.inr (12, some a0)), .inl a1, .inl a2, .inl a3, .inl a4, .inl a5, .inl a6]) [] M (some (.inl so.1), so.2) := by
  induction d with
  | zero => intro a0 a1 a2 a3 a4 a5 a6 M so hs; exact nomatch hs
  | succ d ih => intro a0 a1 a2 a3 a4 a5 a6 M so hs; exact tieb_mo_parts2 _ d ih a0 a1 a2 a3 a4 a5 a6 M so hs
theorem tie_mo_unlike_42  (d : Nat)   (M : zM) (so : Int32 × zM) (ls : List (Nat × zV))  (hs : mo_unlike_42  d  M = some so) : Ev zq_T (d + 1) 113 42 ls [] M (some (.inl so.1), so.2) := by
  unfold mo_unlike_42 at hs
  refine e_const cd_113_42 ci_m1 ?_
  have e := Option.some.inj hs
  subst e
  exact e_ri cd_113_43 nr_113
theorem tie_mo_unlike_104  (d : Nat)  (s0 : Int32) (M : zM) (so : Int32 × zM) (ls : List (Nat × zV))  (hs : mo_unlike_104  d s0 M = some so) : Ev zq_T (d + 1) 113 104 ls [.inl s0] M (some (.inl so.1), so.2) := by
  unfold mo_unlike_104 at hs
  have e := Option.some.inj hs
  subst e
  exact e_ri cd_113_104 nr_113
theorem tie_mo_unlike_58  (d : Nat)  : ∀ (fuel : Nat) (t0 : Nat) (v1 : Int32) (v2 : Int32) (v3 : Int32) (v4 : Int32) (M : zM) (so : Int32 × zM) (ls : List (Nat × zV)), zl_get ls 0 = some (.inr (.inr (12, (some t0)))) → zl_get ls 1 = some (.inl v1) → zl_get ls 2 = some (.inl v2) → zl_get ls 3 = some (.inl v3) → zl_get ls 4 = some (.inl v4) → mo_unlike_58  d fuel t0 v1 v2 v3 v4 M = some so → Ev zq_T (d + 1) 113 58 ls [] M (some (.inl so.1), so.2) := by
  intro fuel
  induction fuel with
  | zero => intro t0 v1 v2 v3 v4 M so ls g0 g1 g2 g3 g4 hs; exact nomatch hs
  | succ fuel ih =>
    intro t0 v1 v2 v3 v4 M so ls g0 g1 g2 g3 g4 hs
    unfold mo_unlike_58 at hs
    refine e_ild cd_113_58 g4 ?_
    refine e_const cd_113_60 ci_4 ?_
    refine k_if hs (fun c1 hs => ?_) (fun c1 hs => ?_)
    · refine e_icJ cd_113_61 rfl c1 ?_
      refine e_const cd_113_111 ci_m1 ?_
      have e := Option.some.inj hs
      subst e
      exact e_ri cd_113_112 nr_113
    · refine e_icN cd_113_61 rfl c1 ?_
      refine e_aldn cd_113_64 g0 ?_
      refine e_ildn cd_113_65 g1 ?_
      refine e_ildn cd_113_66 g2 ?_
      refine e_const cd_113_67 ci_0 ?_
      refine e_ild cd_113_68 g4 ?_
      refine e_const cd_113_70 ci_1 ?_
      refine e_const cd_113_71 ci_1 ?_
      obtain ⟨q2, h3, hs⟩ := k_bind hs
      refine e_cvi cd_113_72 kd_113_502 rfl rfl rfl rfl rfl nl_112 rfl rfl (tie_mo_parts2 d t0 v1 v2 0 v4 1 1 M _ h3) ?_
      refine k_if hs (fun c4 hs => ?_) (fun c4 hs => ?_)
      · refine e_izJ cd_113_75 rfl c4 ?_
        refine k_let hs (fun x5 e6 hs => ?_)
        refine e_incK cd_113_105 nl_113 rfl g4 ci_1 e6 ?_
        intro _ gn kp
        have u7 := kp 0 _ g0 rfl rfl
        have u8 := kp 1 _ g1 rfl rfl
        have u9 := kp 2 _ g2 rfl rfl
        have u10 := kp 3 _ g3 rfl rfl
        have u11 := gn
        refine e_goto cd_113_108 rfl ?_
        exact ih t0 v1 v2 v3 x5 q2.2 so _ u7 u8 u9 u10 u11 hs
      · refine e_izN cd_113_75 rfl c4 ?_
        refine e_ildn cd_113_78 g3 ?_
        refine e_const cd_113_79 ci_m1 ?_
        refine k_if hs (fun c12 hs => ?_) (fun c12 hs => ?_)
        · refine e_icN cd_113_80 rfl (fun q => q c12) ?_
          refine e_ild cd_113_83 g4 ?_
          refine e_goto cd_113_85 rfl ?_
          exact tie_mo_unlike_104  d  v4 q2.2 so _  hs
        · refine e_icJ cd_113_80 rfl c12 ?_
          refine e_ildn cd_113_88 g3 ?_
          refine e_ild cd_113_89 g4 ?_
          refine k_if hs (fun c13 hs => ?_) (fun c13 hs => ?_)
          · refine e_icJ cd_113_91 rfl c13 ?_
            refine e_const cd_113_103 ci_m1 ?_
            exact tie_mo_unlike_104  d  (-1) q2.2 so _  hs
          · refine e_icN cd_113_91 rfl c13 ?_
            refine e_aldn cd_113_94 g0 ?_
            refine e_getR cd_113_95 fd_113_108 rfl ?_
            refine e_ildn cd_113_98 g3 ?_
            refine k_opt hs (fun _ q => nomatch q) (fun k14 h15 hs => ?_)
            obtain ⟨c16, hs⟩ := z_ite hs
            refine e_iald cd_113_99 rfl h15 c16 ?_
            refine e_goto cd_113_100 rfl ?_
            exact tie_mo_unlike_104  d  (zm_I q2.2 20 k14 (v3 : Int32).toNatClampNeg) q2.2 so _  hs
theorem tieb_mo_unlike  (d : Nat)  (a0 : Nat) (a1 : Int32) (a2 : Int32) (a3 : Int32) (M : zM) (so : Int32 × zM) (hs : mo_unlike_b  d a0 a1 a2 a3 M = some so) : Ev zq_T (d + 1) 113 0 (zl_args 0 [.inr (.inr (12, some a0)), .inl a1, .inl a2, .inl a3]) [] M (some (.inl so.1), so.2) := by
  unfold mo_unlike_b at hs
  have g0 : zl_get (zl_args 0 [.inr (.inr (12, some a0)), .inl a1, .inl a2, .inl a3]) 0 = some (.inr (.inr (12, (some a0)))) := rfl
  have g1 : zl_get (zl_args 0 [.inr (.inr (12, some a0)), .inl a1, .inl a2, .inl a3]) 1 = some (.inl a1) := rfl
  have g2 : zl_get (zl_args 0 [.inr (.inr (12, some a0)), .inl a1, .inl a2, .inl a3]) 2 = some (.inl a2) := rfl
  have g3 : zl_get (zl_args 0 [.inr (.inr (12, some a0)), .inl a1, .inl a2, .inl a3]) 3 = some (.inl a3) := rfl
  refine e_aldn cd_113_0 g0 ?_
  refine e_const cd_113_1 ci_0 ?_
  refine k_let hs (fun M1 e2 hs => ?_)
  refine e_putI cd_113_2 pd_113_114 rfl e2 ?_
  refine e_aldn cd_113_5 g0 ?_
  refine e_ildn cd_113_6 g1 ?_
  obtain ⟨q3, h4, hs⟩ := k_bind hs
  refine e_cvi cd_113_7 kd_113_357 rfl rfl rfl rfl rfl nl_34 rfl rfl (tie_mo_isRule d a0 a1 M1 _ h4) ?_
  refine k_if hs (fun c5 hs => ?_) (fun c5 hs => ?_)
  · refine e_izJ cd_113_10 rfl c5 ?_
    exact tie_mo_unlike_42  d   q3.2 so _  hs
  · refine e_izN cd_113_10 rfl c5 ?_
    refine e_aldn cd_113_13 g0 ?_
    refine e_ildn cd_113_14 g2 ?_
    obtain ⟨q6, h7, hs⟩ := k_bind hs
    refine e_cvi cd_113_15 kd_113_357 rfl rfl rfl rfl rfl nl_34 rfl rfl (tie_mo_isRule d a0 a2 q3.2 _ h7) ?_
    refine k_if hs (fun c8 hs => ?_) (fun c8 hs => ?_)
    · refine e_izJ cd_113_18 rfl c8 ?_
      exact tie_mo_unlike_42  d   q6.2 so _  hs
    · refine e_izN cd_113_18 rfl c8 ?_
      refine e_ildn cd_113_21 g3 ?_
      refine e_const cd_113_22 ci_m1 ?_
      refine k_if hs (fun c9 hs => ?_) (fun c9 hs => ?_)
      · refine e_icJ cd_113_23 rfl c9 ?_
        exact tie_mo_unlike_42  d   q6.2 so _  hs
      · refine e_icN cd_113_23 rfl c9 ?_
        refine e_aldn cd_113_26 g0 ?_
        refine e_ildn cd_113_27 g1 ?_
        obtain ⟨q10, h11, hs⟩ := k_bind hs
        refine e_cvi cd_113_28 kd_113_372 rfl rfl rfl rfl rfl nl_70 rfl rfl (tie_mo_isSure d a0 a1 q6.2 _ h11) ?_
        refine k_if hs (fun c12 hs => ?_) (fun c12 hs => ?_)
        · refine e_izJ cd_113_31 rfl c12 ?_
          exact tie_mo_unlike_42  d   q10.2 so _  hs
        · refine e_izN cd_113_31 rfl c12 ?_
          refine e_aldn cd_113_34 g0 ?_
          refine e_ildn cd_113_35 g2 ?_
          obtain ⟨q13, h14, hs⟩ := k_bind hs
          refine e_cvi cd_113_36 kd_113_372 rfl rfl rfl rfl rfl nl_70 rfl rfl (tie_mo_isSure d a0 a2 q10.2 _ h14) ?_
          refine k_if hs (fun c15 hs => ?_) (fun c15 hs => ?_)
          · refine e_izN cd_113_39 rfl (fun q => q c15) ?_
            exact tie_mo_unlike_42  d   q13.2 so _  hs
          · refine e_izJ cd_113_39 rfl c15 ?_
            refine e_aldn cd_113_44 g0 ?_
            refine e_const cd_113_45 ci_0 ?_
            obtain ⟨q16, h17, hs⟩ := k_bind hs
            refine e_cvi cd_113_46 kd_113_438 rfl rfl rfl rfl rfl nl_89 rfl rfl (tie_mo_begins d a0 0 q13.2 _ h17) ?_
            refine e_aldn cd_113_49 g0 ?_
            refine e_bip cd_113_50 cb_78 ?_
            obtain ⟨q18, h19, hs⟩ := k_bind hs
            refine e_cvi cd_113_52 kd_113_438 rfl rfl rfl rfl rfl nl_89 rfl rfl (tie_mo_begins d a0 78 q16 _ h19) ?_
            refine e_const cd_113_55 ci_0 ?_
            refine e_iK cd_113_56 nl_113 rfl rfl ?_
            intro _ gn kp
            have u20 := kp 0 _ g0 rfl rfl
            have u21 := kp 1 _ g1 rfl rfl
            have u22 := kp 2 _ g2 rfl rfl
            have u23 := kp 3 _ g3 rfl rfl
            have u24 := gn
            exact tie_mo_unlike_58  d  zLF a0 a1 a2 a3 0 q18 so _ u20 u21 u22 u23 u24 hs
theorem tie_mo_unlike (d : Nat) (a0 : Nat) (a1 : Int32) (a2 : Int32) (a3 : Int32) (M : zM) (so : Int32 × zM) (hs : mo_unlike d a0 a1 a2 a3 M = some so) : Ev zq_T d 113 0 (zl_args 0 [.inr (.inr (12, some a0)), .inl a1, .inl a2, .inl a3]) [] M (some (.inl so.1), so.2) := by
  cases d with
  | zero => exact nomatch hs
  | succ d => exact tieb_mo_unlike d a0 a1 a2 a3 M so hs
theorem tieb_mo_isThing  (d : Nat)  (a0 : Nat) (a1 : Int32) (M : zM) (so : Int32 × zM) (hs : mo_isThing_b  d a0 a1 M = some so) : Ev zq_T (d + 1) 114 0 (zl_args 0 [.inr (.inr (12, some a0)), .inl a1]) [] M (some (.inl so.1), so.2) := by
  unfold mo_isThing_b at hs
  have g0 : zl_get (zl_args 0 [.inr (.inr (12, some a0)), .inl a1]) 0 = some (.inr (.inr (12, (some a0)))) := rfl
  have g1 : zl_get (zl_args 0 [.inr (.inr (12, some a0)), .inl a1]) 1 = some (.inl a1) := rfl
  refine e_ildn cd_114_0 g1 ?_
  refine e_pure cd_114_1 rfl ?_
  refine e_lcon cd_114_2 cl_0 ?_
  refine e_aldn cd_114_3 g0 ?_
  refine e_getI cd_114_4 (Or.inl fd_114_237) rfl ?_
  refine e_const cd_114_7 ci_1 ?_
  refine e_pure cd_114_8 rfl ?_
  refine e_pure cd_114_9 rfl ?_
  obtain ⟨q1, h2, hs⟩ := k_bind hs
  refine e_cst cd_114_10 kd_114_204 rfl rfl rfl nl_2 rfl rfl (tie_mo_isIn d a1.toInt64 0 (((zm_I M 12 a0 20) - 1).toInt64) M _ h2) ?_
  obtain ⟨c3, hs⟩ := z_ite hs
  have e := Option.some.inj hs
  subst e
  exact e_rz cd_114_13 nr_114 c3
theorem tie_mo_isThing (d : Nat) (a0 : Nat) (a1 : Int32) (M : zM) (so : Int32 × zM) (hs : mo_isThing d a0 a1 M = some so) : Ev zq_T d 114 0 (zl_args 0 [.inr (.inr (12, some a0)), .inl a1]) [] M (some (.inl so.1), so.2) := by
  cases d with
  | zero => exact nomatch hs
  | succ d => exact tieb_mo_isThing d a0 a1 M so hs
theorem tie_mo_ruleOf_46  (d : Nat)  (s0 : Int32) (M : zM) (so : Int32 × zM) (ls : List (Nat × zV))  (hs : mo_ruleOf_46  d s0 M = some so) : Ev zq_T (d + 1) 115 46 ls [.inl s0] M (some (.inl so.1), so.2) := by
  unfold mo_ruleOf_46 at hs
  have e := Option.some.inj hs
  subst e
  exact e_ri cd_115_46 nr_115
theorem tie_mo_ruleOf_33  (d : Nat)  (t0 : Nat) (v2 : Int32) (M : zM) (so : Int32 × zM) (ls : List (Nat × zV)) (g0 : zl_get ls 0 = some (.inr (.inr (12, (some t0))))) (g2 : zl_get ls 2 = some (.inl v2)) (hs : mo_ruleOf_33  d t0 v2 M = some so) : Ev zq_T (d + 1) 115 33 ls [] M (some (.inl so.1), so.2) := by
  unfold mo_ruleOf_33 at hs
  refine e_ildn cd_115_33 g2 ?_
  refine e_aldn cd_115_34 g0 ?_
  refine e_getI cd_115_35 (Or.inl fd_115_230) rfl ?_
  refine k_if hs (fun c1 hs => ?_) (fun c1 hs => ?_)
  · refine e_icJ cd_115_38 rfl c1 ?_
    refine e_const cd_115_45 ci_m1 ?_
    exact tie_mo_ruleOf_46  d  (-1) M so _  hs
  · refine e_icN cd_115_38 rfl c1 ?_
    refine e_ildn cd_115_41 g2 ?_
    refine e_goto cd_115_42 rfl ?_
    exact tie_mo_ruleOf_46  d  v2 M so _  hs
theorem tie_mo_ruleOf_2  (d : Nat)  : ∀ (fuel : Nat) (t0 : Nat) (v1 : Int32) (v2 : Int32) (M : zM) (so : Int32 × zM) (ls : List (Nat × zV)), zl_get ls 0 = some (.inr (.inr (12, (some t0)))) → zl_get ls 1 = some (.inl v1) → zl_get ls 2 = some (.inl v2) → mo_ruleOf_2  d fuel t0 v1 v2 M = some so → Ev zq_T (d + 1) 115 2 ls [] M (some (.inl so.1), so.2) := by
  intro fuel
  induction fuel with
  | zero => intro t0 v1 v2 M so ls g0 g1 g2 hs; exact nomatch hs
  | succ fuel ih =>
    intro t0 v1 v2 M so ls g0 g1 g2 hs
    unfold mo_ruleOf_2 at hs
    refine e_ildn cd_115_2 g2 ?_
    refine e_aldn cd_115_3 g0 ?_
    refine e_getI cd_115_4 (Or.inl fd_115_230) rfl ?_
    refine k_if hs (fun c1 hs => ?_) (fun c1 hs => ?_)
    · refine e_icJ cd_115_7 rfl c1 ?_
      exact tie_mo_ruleOf_33  d  t0 v2 M so _ g0 g2 hs
    · refine e_icN cd_115_7 rfl c1 ?_
      refine e_aldn cd_115_10 g0 ?_
      refine e_ildn cd_115_11 g2 ?_
      refine e_const cd_115_12 ci_0 ?_
      obtain ⟨q2, h3, hs⟩ := k_bind hs
      refine e_cvi cd_115_13 kd_115_258 rfl rfl rfl rfl rfl nl_35 rfl rfl (tie_mo_of d t0 v2 0 M _ h3) ?_
      refine e_aldn cd_115_16 g0 ?_
      refine e_getR cd_115_17 fd_115_44 rfl ?_
      refine e_const cd_115_20 ci_4 ?_
      refine e_ildn cd_115_21 g1 ?_
      refine e_pure cd_115_22 rfl ?_
      refine k_opt hs (fun _ q => nomatch q) (fun k4 h5 hs => ?_)
      obtain ⟨c6, hs⟩ := z_ite hs
      refine e_iald cd_115_23 rfl h5 c6 ?_
      refine k_if hs (fun c7 hs => ?_) (fun c7 hs => ?_)
      · refine e_icJ cd_115_24 rfl c7 ?_
        exact tie_mo_ruleOf_33  d  t0 v2 q2.2 so _ g0 g2 hs
      · refine e_icN cd_115_24 rfl c7 ?_
        refine k_let hs (fun x8 e9 hs => ?_)
        refine e_incK cd_115_27 nl_115 rfl g2 ci_1 e9 ?_
        intro _ gn kp
        have u10 := kp 0 _ g0 rfl rfl
        have u11 := kp 1 _ g1 rfl rfl
        have u12 := gn
        refine e_goto cd_115_30 rfl ?_
        exact ih t0 v1 x8 q2.2 so _ u10 u11 u12 hs
theorem tieb_mo_ruleOf  (d : Nat)  (a0 : Nat) (a1 : Int32) (M : zM) (so : Int32 × zM) (hs : mo_ruleOf_b  d a0 a1 M = some so) : Ev zq_T (d + 1) 115 0 (zl_args 0 [.inr (.inr (12, some a0)), .inl a1]) [] M (some (.inl so.1), so.2) := by
  unfold mo_ruleOf_b at hs
  have g0 : zl_get (zl_args 0 [.inr (.inr (12, some a0)), .inl a1]) 0 = some (.inr (.inr (12, (some a0)))) := rfl
  have g1 : zl_get (zl_args 0 [.inr (.inr (12, some a0)), .inl a1]) 1 = some (.inl a1) := rfl
  refine e_const cd_115_0 ci_0 ?_
  refine e_iKn cd_115_1 nl_115 rfl rfl ?_
  intro _ gn kp
  have u1 := kp 0 _ g0 rfl rfl
  have u2 := kp 1 _ g1 rfl rfl
  have u3 := gn
  exact tie_mo_ruleOf_2  d  zLF a0 a1 0 M so _ u1 u2 u3 hs
theorem tie_mo_ruleOf (d : Nat) (a0 : Nat) (a1 : Int32) (M : zM) (so : Int32 × zM) (hs : mo_ruleOf d a0 a1 M = some so) : Ev zq_T d 115 0 (zl_args 0 [.inr (.inr (12, some a0)), .inl a1]) [] M (some (.inl so.1), so.2) := by
  cases d with
  | zero => exact nomatch hs
  | succ d => exact tieb_mo_ruleOf d a0 a1 M so hs
theorem tie_mo_held_71 (kl26 : Nat → Int32 → Int32 → Int32 → Int32 → zM → Option (Int32 × zM)) (d : Nat) (hk26 : ∀ (t0 : Nat) (v1 : Int32) (v2 : Int32) (v3 : Int32) (v4 : Int32) (M : zM) (so : Int32 × zM) (ls : List (Nat × zV)), zl_get ls 0 = some (.inr (.inr (12, (some t0)))) → zl_get ls 1 = some (.inl v1) → zl_get ls 2 = some (.inl v2) → zl_get ls 3 = some (.inl v3) → zl_get ls 4 = some (.inl v4) → kl26 t0 v1 v2 v3 v4 M = some so → Ev zq_T (d + 1) 116 26 ls [] M (some (.inl so.1), so.2)) (t0 : Nat) (v1 : Int32) (v2 : Int32) (v3 : Int32) (v4 : Int32) (M : zM) (so : Int32 × zM) (ls : List (Nat × zV)) (g0 : zl_get ls 0 = some (.inr (.inr (12, (some t0))))) (g1 : zl_get ls 1 = some (.inl v1)) (g2 : zl_get ls 2 = some (.inl v2)) (g3 : zl_get ls 3 = some (.inl v3)) (g4 : zl_get ls 4 = some (.inl v4)) (hs : mo_held_71 kl26 d t0 v1 v2 v3 v4 M = some so) : Ev zq_T (d + 1) 116 71 ls [] M (some (.inl so.1), so.2) := by
  unfold mo_held_71 at hs
  refine k_let hs (fun x1 e2 hs => ?_)
  refine e_incK cd_116_71 nl_116 rfl g4 ci_1 e2 ?_
  intro _ gn kp
  have u3 := kp 0 _ g0 rfl rfl
  have u4 := kp 1 _ g1 rfl rfl
  have u5 := kp 2 _ g2 rfl rfl
  have u6 := kp 3 _ g3 rfl rfl
  have u7 := gn
  refine e_goto cd_116_74 rfl ?_
  exact hk26 t0 v1 v2 v3 x1 M so _ u3 u4 u5 u6 u7 hs
theorem tie_mo_held_175  (d : Nat)  (s0 : Option Nat) (s1 : Int32) (M : zM) (so : Int32 × zM) (ls : List (Nat × zV))  (hs : mo_held_175  d s0 s1 M = some so) : Ev zq_T (d + 1) 116 175 ls [.inl s1, .inr (.inr (12, s0))] M (some (.inl so.1), so.2) := by
  unfold mo_held_175 at hs
  refine k_opt hs (fun _ q => nomatch q) (fun k1 h2 hs => ?_)
  refine k_let hs (fun M3 e4 hs => ?_)
  refine e_putI cd_116_175 pd_116_509 h2 e4 ?_
  refine e_const cd_116_178 ci_0 ?_
  have e := Option.some.inj hs
  subst e
  exact e_ri cd_116_179 nr_116
theorem tie_mo_held_147  (d : Nat)  (t0 : Nat) (v2 : Int32) (v4 : Int32) (v5 : Int32) (M : zM) (so : Int32 × zM) (ls : List (Nat × zV)) (g0 : zl_get ls 0 = some (.inr (.inr (12, (some t0))))) (g2 : zl_get ls 2 = some (.inl v2)) (g4 : zl_get ls 4 = some (.inl v4)) (g5 : zl_get ls 5 = some (.inl v5)) (hs : mo_held_147  d t0 v2 v4 v5 M = some so) : Ev zq_T (d + 1) 116 147 ls [] M (some (.inl so.1), so.2) := by
  unfold mo_held_147 at hs
  refine e_aldn cd_116_147 g0 ?_
  refine e_ild cd_116_148 g4 ?_
  refine k_let hs (fun M1 e2 hs => ?_)
  refine e_putI cd_116_150 pd_116_506 rfl e2 ?_
  refine e_aldn cd_116_153 g0 ?_
  refine e_ild cd_116_154 g5 ?_
  obtain ⟨c3, hs⟩ := z_ite hs
  refine k_let hs (fun M4 e5 hs => ?_)
  refine e_putZ cd_116_156 pd_116_512 c3 rfl e5 ?_
  refine e_aldn cd_116_159 g0 ?_
  refine e_ildn cd_116_160 g2 ?_
  refine e_const cd_116_161 ci_m1 ?_
  refine k_if hs (fun c6 hs => ?_) (fun c6 hs => ?_)
  · refine e_icN cd_116_162 rfl (fun q => q c6) ?_
    refine e_const cd_116_165 ci_0 ?_
    refine e_goto cd_116_166 rfl ?_
    exact tie_mo_held_175  d  (some t0) 0 M4 so _  hs
  · refine e_icJ cd_116_162 rfl c6 ?_
    refine e_aldn cd_116_169 g0 ?_
    refine e_ildn cd_116_170 g2 ?_
    refine e_const cd_116_171 ci_0 ?_
    obtain ⟨q7, h8, hs⟩ := k_bind hs
    refine e_cvi cd_116_172 kd_116_451 rfl rfl rfl rfl rfl nl_98 rfl rfl (tie_mo_couldCome d t0 v2 0 M4 _ h8) ?_
    exact tie_mo_held_175  d  (some t0) q7.1 q7.2 so _  hs
theorem tie_mo_held_132  (d : Nat)  (t0 : Nat) (v2 : Int32) (v3 : Int32) (v4 : Int32) (s0 : Int32) (M : zM) (so : Int32 × zM) (ls : List (Nat × zV)) (g0 : zl_get ls 0 = some (.inr (.inr (12, (some t0))))) (g2 : zl_get ls 2 = some (.inl v2)) (g3 : zl_get ls 3 = some (.inl v3)) (g4 : zl_get ls 4 = some (.inl v4)) (hs : mo_held_132  d t0 v2 v3 v4 s0 M = some so) : Ev zq_T (d + 1) 116 132 ls [.inl s0] M (some (.inl so.1), so.2) := by
  unfold mo_held_132 at hs
  refine e_iK cd_116_132 nl_116 rfl rfl ?_
  intro _ gn kp
  have u1 := kp 0 _ g0 rfl rfl
  have u2 := kp 2 _ g2 rfl rfl
  have u3 := kp 3 _ g3 rfl rfl
  have u4 := kp 4 _ g4 rfl rfl
  have u5 := gn
  refine e_ild cd_116_134 u4 ?_
  refine e_ildn cd_116_136 u3 ?_
  refine k_if hs (fun c6 hs => ?_) (fun c6 hs => ?_)
  · refine e_icN cd_116_137 rfl (fun q => q c6) ?_
    refine e_ild cd_116_140 u5 ?_
    refine k_if hs (fun c7 hs => ?_) (fun c7 hs => ?_)
    · refine e_izJ cd_116_142 rfl c7 ?_
      exact tie_mo_held_147  d  t0 v2 v4 s0 M so _ u1 u2 u4 u5 hs
    · refine e_izN cd_116_142 rfl c7 ?_
      refine e_const cd_116_145 ci_1 ?_
      have e := Option.some.inj hs
      subst e
      exact e_ri cd_116_146 nr_116
  · refine e_icJ cd_116_137 rfl c6 ?_
    exact tie_mo_held_147  d  t0 v2 v4 s0 M so _ u1 u2 u4 u5 hs
theorem tie_mo_held_127  (d : Nat)  (t0 : Nat) (v2 : Int32) (v3 : Int32) (v4 : Int32) (M : zM) (so : Int32 × zM) (ls : List (Nat × zV)) (g0 : zl_get ls 0 = some (.inr (.inr (12, (some t0))))) (g2 : zl_get ls 2 = some (.inl v2)) (g3 : zl_get ls 3 = some (.inl v3)) (g4 : zl_get ls 4 = some (.inl v4)) (hs : mo_held_127  d t0 v2 v3 v4 M = some so) : Ev zq_T (d + 1) 116 127 ls [] M (some (.inl so.1), so.2) := by
  unfold mo_held_127 at hs
  refine e_const cd_116_127 ci_1 ?_
  refine e_goto cd_116_128 rfl ?_
  exact tie_mo_held_132  d  t0 v2 v3 v4 1 M so _ g0 g2 g3 g4 hs
theorem tie_mo_held_111  (d : Nat)  (t0 : Nat) (v2 : Int32) (v3 : Int32) (s0 : Int32) (M : zM) (so : Int32 × zM) (ls : List (Nat × zV)) (g0 : zl_get ls 0 = some (.inr (.inr (12, (some t0))))) (g2 : zl_get ls 2 = some (.inl v2)) (g3 : zl_get ls 3 = some (.inl v3)) (hs : mo_held_111  d t0 v2 v3 s0 M = some so) : Ev zq_T (d + 1) 116 111 ls [.inl s0] M (some (.inl so.1), so.2) := by
  unfold mo_held_111 at hs
  refine e_iK cd_116_111 nl_116 rfl rfl ?_
  intro _ gn kp
  have u1 := kp 0 _ g0 rfl rfl
  have u2 := kp 2 _ g2 rfl rfl
  have u3 := kp 3 _ g3 rfl rfl
  have u4 := gn
  refine e_ildn cd_116_113 u2 ?_
  refine e_const cd_116_114 ci_m1 ?_
  refine k_if hs (fun c5 hs => ?_) (fun c5 hs => ?_)
  · refine e_icJ cd_116_115 rfl c5 ?_
    exact tie_mo_held_127  d  t0 v2 v3 s0 M so _ u1 u2 u3 u4 hs
  · refine e_icN cd_116_115 rfl c5 ?_
    refine e_aldn cd_116_118 u1 ?_
    refine e_ildn cd_116_119 u2 ?_
    refine e_const cd_116_120 ci_0 ?_
    obtain ⟨q6, h7, hs⟩ := k_bind hs
    refine e_cvi cd_116_121 kd_116_448 rfl rfl rfl rfl rfl nl_94 rfl rfl (tie_mo_canEnd d t0 v2 0 M _ h7) ?_
    refine k_if hs (fun c8 hs => ?_) (fun c8 hs => ?_)
    · refine e_izJ cd_116_124 rfl c8 ?_
      refine e_const cd_116_131 ci_0 ?_
      exact tie_mo_held_132  d  t0 v2 v3 s0 0 q6.2 so _ u1 u2 u3 u4 hs
    · refine e_izN cd_116_124 rfl c8 ?_
      exact tie_mo_held_127  d  t0 v2 v3 s0 q6.2 so _ u1 u2 u3 u4 hs
theorem tie_mo_held_92  (d : Nat)  (t0 : Nat) (v2 : Int32) (v3 : Int32) (M : zM) (so : Int32 × zM) (ls : List (Nat × zV)) (g0 : zl_get ls 0 = some (.inr (.inr (12, (some t0))))) (g2 : zl_get ls 2 = some (.inl v2)) (g3 : zl_get ls 3 = some (.inl v3)) (hs : mo_held_92  d t0 v2 v3 M = some so) : Ev zq_T (d + 1) 116 92 ls [] M (some (.inl so.1), so.2) := by
  unfold mo_held_92 at hs
  refine e_ildn cd_116_92 g2 ?_
  refine e_const cd_116_93 ci_m1 ?_
  refine k_if hs (fun c1 hs => ?_) (fun c1 hs => ?_)
  · refine e_icN cd_116_94 rfl (fun q => q c1) ?_
    refine e_const cd_116_97 ci_0 ?_
    refine e_goto cd_116_98 rfl ?_
    exact tie_mo_held_111  d  t0 v2 v3 0 M so _ g0 g2 g3 hs
  · refine e_icJ cd_116_94 rfl c1 ?_
    refine e_aldn cd_116_101 g0 ?_
    refine e_ildn cd_116_102 g2 ?_
    refine e_aldn cd_116_103 g0 ?_
    refine e_getR cd_116_104 fd_116_84 rfl ?_
    refine e_ildn cd_116_107 g3 ?_
    obtain ⟨q2, h3, hs⟩ := k_bind hs
    refine e_cvi cd_116_108 kd_116_444 rfl rfl rfl rfl rfl nl_99 rfl rfl (tie_mo_goesThrough d t0 v2 (zm_R M 12 t0 37) v3 M _ h3) ?_
    exact tie_mo_held_111  d  t0 v2 v3 q2.1 q2.2 so _ g0 g2 g3 hs
theorem tie_mo_held_26  (d : Nat)  : ∀ (fuel : Nat) (t0 : Nat) (v1 : Int32) (v2 : Int32) (v3 : Int32) (v4 : Int32) (M : zM) (so : Int32 × zM) (ls : List (Nat × zV)), zl_get ls 0 = some (.inr (.inr (12, (some t0)))) → zl_get ls 1 = some (.inl v1) → zl_get ls 2 = some (.inl v2) → zl_get ls 3 = some (.inl v3) → zl_get ls 4 = some (.inl v4) → mo_held_26  d fuel t0 v1 v2 v3 v4 M = some so → Ev zq_T (d + 1) 116 26 ls [] M (some (.inl so.1), so.2) := by
  intro fuel
  induction fuel with
  | zero => intro t0 v1 v2 v3 v4 M so ls g0 g1 g2 g3 g4 hs; exact nomatch hs
  | succ fuel ih =>
    intro t0 v1 v2 v3 v4 M so ls g0 g1 g2 g3 g4 hs
    unfold mo_held_26 at hs
    refine e_ild cd_116_26 g4 ?_
    refine e_aldn cd_116_28 g0 ?_
    refine e_getI cd_116_29 (Or.inl fd_116_237) rfl ?_
    refine k_if hs (fun c1 hs => ?_) (fun c1 hs => ?_)
    · refine e_icJ cd_116_32 rfl c1 ?_
      refine e_ildn cd_116_77 g2 ?_
      refine e_const cd_116_78 ci_m1 ?_
      refine k_if hs (fun c2 hs => ?_) (fun c2 hs => ?_)
      · refine e_icJ cd_116_79 rfl c2 ?_
        exact tie_mo_held_92  d  t0 v2 v3 M so _ g0 g2 g3 hs
      · refine e_icN cd_116_79 rfl c2 ?_
        refine e_aldn cd_116_82 g0 ?_
        refine e_ildn cd_116_83 g2 ?_
        obtain ⟨q3, h4, hs⟩ := k_bind hs
        refine e_cvi cd_116_84 kd_116_372 rfl rfl rfl rfl rfl nl_70 rfl rfl (tie_mo_isSure d t0 v2 M _ h4) ?_
        refine k_if hs (fun c5 hs => ?_) (fun c5 hs => ?_)
        · refine e_izN cd_116_87 rfl (fun q => q c5) ?_
          refine e_const cd_116_90 ci_2 ?_
          have e := Option.some.inj hs
          subst e
          exact e_ri cd_116_91 nr_116
        · refine e_izJ cd_116_87 rfl c5 ?_
          exact tie_mo_held_92  d  t0 v2 v3 q3.2 so _ g0 g2 g3 hs
    · refine e_icN cd_116_32 rfl c1 ?_
      refine e_aldn cd_116_35 g0 ?_
      refine e_getR cd_116_36 fd_116_44 rfl ?_
      refine e_const cd_116_39 ci_4 ?_
      refine e_ild cd_116_40 g4 ?_
      refine e_pure cd_116_42 rfl ?_
      refine e_const cd_116_43 ci_1 ?_
      refine e_pure cd_116_44 rfl ?_
      refine k_opt hs (fun _ q => nomatch q) (fun k6 h7 hs => ?_)
      obtain ⟨c8, hs⟩ := z_ite hs
      refine e_iald cd_116_45 rfl h7 c8 ?_
      refine e_ildn cd_116_46 g1 ?_
      refine k_if hs (fun c9 hs => ?_) (fun c9 hs => ?_)
      · refine e_icJ cd_116_47 rfl c9 ?_
        refine e_aldn cd_116_53 g0 ?_
        refine e_getR cd_116_54 fd_116_84 rfl ?_
        refine e_ildn cd_116_57 g3 ?_
        refine e_aldn cd_116_58 g0 ?_
        refine e_getR cd_116_59 fd_116_44 rfl ?_
        refine e_const cd_116_62 ci_4 ?_
        refine e_ild cd_116_63 g4 ?_
        refine e_pure cd_116_65 rfl ?_
        refine k_opt hs (fun _ q => nomatch q) (fun k10 h11 hs => ?_)
        obtain ⟨c12, hs⟩ := z_ite hs
        refine e_iald cd_116_66 rfl h11 c12 ?_
        refine k_opt hs (fun _ q => nomatch q) (fun k13 h14 hs => ?_)
        obtain ⟨c15, hs⟩ := z_ite hs
        refine k_let hs (fun M16 e17 hs => ?_)
        refine e_iast cd_116_67 rfl h14 c15 e17 ?_
        refine k_let hs (fun x18 e19 hs => ?_)
        refine e_incK cd_116_68 nl_116 rfl g3 ci_1 e19 ?_
        intro _ gn kp
        have u20 := kp 0 _ g0 rfl rfl
        have u21 := kp 1 _ g1 rfl rfl
        have u22 := kp 2 _ g2 rfl rfl
        have u23 := kp 4 _ g4 rfl rfl
        have u24 := gn
        exact tie_mo_held_71 (fun p0 p1 p2 p3 p4 m => mo_held_26  d fuel p0 p1 p2 p3 p4 m) d ih t0 v1 v2 x18 v4 M16 so _ u20 u21 u22 u24 u23 hs
      · refine e_icN cd_116_47 rfl c9 ?_
        refine e_goto cd_116_50 rfl ?_
        exact tie_mo_held_71 (fun p0 p1 p2 p3 p4 m => mo_held_26  d fuel p0 p1 p2 p3 p4 m) d ih t0 v1 v2 v3 v4 M so _ g0 g1 g2 g3 g4 hs
theorem tieb_mo_held  (d : Nat)  (a0 : Nat) (a1 : Int32) (M : zM) (so : Int32 × zM) (hs : mo_held_b  d a0 a1 M = some so) : Ev zq_T (d + 1) 116 0 (zl_args 0 [.inr (.inr (12, some a0)), .inl a1]) [] M (some (.inl so.1), so.2) := by
  unfold mo_held_b at hs
  have g0 : zl_get (zl_args 0 [.inr (.inr (12, some a0)), .inl a1]) 0 = some (.inr (.inr (12, (some a0)))) := rfl
  have g1 : zl_get (zl_args 0 [.inr (.inr (12, some a0)), .inl a1]) 1 = some (.inl a1) := rfl
  refine e_aldn cd_116_0 g0 ?_
  refine e_const cd_116_1 ci_m1 ?_
  refine k_let hs (fun M1 e2 hs => ?_)
  refine e_putI cd_116_2 pd_116_506 rfl e2 ?_
  refine e_aldn cd_116_5 g0 ?_
  refine e_const cd_116_6 ci_0 ?_
  refine k_let hs (fun M3 e4 hs => ?_)
  refine e_putI cd_116_7 pd_116_509 rfl e4 ?_
  refine e_aldn cd_116_10 g0 ?_
  refine e_const cd_116_11 ci_0 ?_
  refine k_let hs (fun M5 e6 hs => ?_)
  refine e_putZ cd_116_12 pd_116_512 (Or.inl rfl) rfl e6 ?_
  refine e_aldn cd_116_15 g0 ?_
  refine e_ildn cd_116_16 g1 ?_
  obtain ⟨q7, h8, hs⟩ := k_bind hs
  refine e_cvi cd_116_17 kd_116_515 rfl rfl rfl rfl rfl nl_115 rfl rfl (tie_mo_ruleOf d a0 a1 M5 _ h8) ?_
  refine e_iKn cd_116_20 nl_116 rfl rfl ?_
  intro _ gn kp
  have u9 := kp 0 _ g0 rfl rfl
  have u10 := kp 1 _ g1 rfl rfl
  have u11 := gn
  refine e_const cd_116_21 ci_0 ?_
  refine e_iKn cd_116_22 nl_116 rfl rfl ?_
  intro _ gn kp
  have u12 := kp 0 _ u9 rfl rfl
  have u13 := kp 1 _ u10 rfl rfl
  have u14 := kp 2 _ u11 rfl rfl
  have u15 := gn
  refine e_const cd_116_23 ci_0 ?_
  refine e_iK cd_116_24 nl_116 rfl rfl ?_
  intro _ gn kp
  have u16 := kp 0 _ u12 rfl rfl
  have u17 := kp 1 _ u13 rfl rfl
  have u18 := kp 2 _ u14 rfl rfl
  have u19 := kp 3 _ u15 rfl rfl
  have u20 := gn
  exact tie_mo_held_26  d  zLF a0 a1 q7.1 0 0 q7.2 so _ u16 u17 u18 u19 u20 hs
theorem tie_mo_held (d : Nat) (a0 : Nat) (a1 : Int32) (M : zM) (so : Int32 × zM) (hs : mo_held d a0 a1 M = some so) : Ev zq_T d 116 0 (zl_args 0 [.inr (.inr (12, some a0)), .inl a1]) [] M (some (.inl so.1), so.2) := by
  cases d with
  | zero => exact nomatch hs
  | succ d => exact tieb_mo_held d a0 a1 M so hs
theorem tie_mo_thing_25  (d : Nat)   (M : zM) (so : Int32 × zM) (ls : List (Nat × zV))  (hs : mo_thing_25  d  M = some so) : Ev zq_T (d + 1) 117 25 ls [] M (some (.inl so.1), so.2) := by
  unfold mo_thing_25 at hs
  refine e_bip cd_117_25 cb_m2 ?_
  have e := Option.some.inj hs
  subst e
  exact e_ri cd_117_27 nr_117
theorem tie_mo_thing_59  (d : Nat)  (s0 : Option Nat) (s1 : Int32) (s2 : Int32) (M : zM) (so : Int32 × zM) (ls : List (Nat × zV))  (hs : mo_thing_59  d s0 s1 s2 M = some so) : Ev zq_T (d + 1) 117 59 ls [.inl s2, .inl s1, .inr (.inr (20, s0))] M (some (.inl so.1), so.2) := by
  unfold mo_thing_59 at hs
  refine e_pure cd_117_59 rfl ?_
  refine k_opt hs (fun _ q => nomatch q) (fun k1 h2 hs => ?_)
  obtain ⟨c3, hs⟩ := z_ite hs
  refine e_iald cd_117_60 rfl h2 c3 ?_
  have e := Option.some.inj hs
  subst e
  exact e_ri cd_117_61 nr_117
theorem tie_mo_thing_114  (d : Nat)  (s0 : Int32) (M : zM) (so : Int32 × zM) (ls : List (Nat × zV))  (hs : mo_thing_114  d s0 M = some so) : Ev zq_T (d + 1) 117 114 ls [.inl s0] M (some (.inl so.1), so.2) := by
  unfold mo_thing_114 at hs
  have e := Option.some.inj hs
  subst e
  exact e_ri cd_117_114 nr_117
set_option maxRecDepth 100000 in
theorem tieb_mo_thing  (d : Nat)  (a0 : Nat) (a1 : Int32) (a2 : Int32) (M : zM) (so : Int32 × zM) (hs : mo_thing_b  d a0 a1 a2 M = some so) : Ev zq_T (d + 1) 117 0 (zl_args 0 [.inr (.inr (12, some a0)), .inl a1, .inl a2]) [] M (some (.inl so.1), so.2) := by
  unfold mo_thing_b at hs
  have g0 : zl_get (zl_args 0 [.inr (.inr (12, some a0)), .inl a1, .inl a2]) 0 = some (.inr (.inr (12, (some a0)))) := rfl
  have g1 : zl_get (zl_args 0 [.inr (.inr (12, some a0)), .inl a1, .inl a2]) 1 = some (.inl a1) := rfl
  have g2 : zl_get (zl_args 0 [.inr (.inr (12, some a0)), .inl a1, .inl a2]) 2 = some (.inl a2) := rfl
  refine e_aldn cd_117_0 g0 ?_
  refine e_const cd_117_1 ci_0 ?_
  refine k_let hs (fun M1 e2 hs => ?_)
  refine e_putI cd_117_2 pd_117_114 rfl e2 ?_
  refine e_aldn cd_117_5 g0 ?_
  refine e_ildn cd_117_6 g1 ?_
  obtain ⟨q3, h4, hs⟩ := k_bind hs
  refine e_cvi cd_117_7 kd_117_518 rfl rfl rfl rfl rfl nl_114 rfl rfl (tie_mo_isThing d a0 a1 M1 _ h4) ?_
  refine k_if hs (fun c5 hs => ?_) (fun c5 hs => ?_)
  · refine e_izJ cd_117_10 rfl c5 ?_
    exact tie_mo_thing_25  d   q3.2 so _  hs
  · refine e_izN cd_117_10 rfl c5 ?_
    refine e_ildn cd_117_13 g2 ?_
    refine e_pure cd_117_14 rfl ?_
    refine e_lcon cd_117_15 cl_0 ?_
    refine e_ld2 cd_117_16 od_117_521 ?_
    obtain ⟨q6, h7, hs⟩ := k_bind hs
    refine e_cst cd_117_19 kd_117_204 rfl rfl rfl nl_2 rfl rfl (tie_mo_isIn d a2.toInt64 0 7 q3.2 _ h7) ?_
    refine k_if hs (fun c8 hs => ?_) (fun c8 hs => ?_)
    · refine e_izN cd_117_22 rfl (fun q => q c8) ?_
      exact tie_mo_thing_25  d   q6.2 so _  hs
    · refine e_izJ cd_117_22 rfl c8 ?_
      refine e_ildn cd_117_28 g2 ?_
      refine e_const cd_117_29 ci_4 ?_
      refine k_if hs (fun c9 hs => ?_) (fun c9 hs => ?_)
      · refine e_icJ cd_117_30 rfl c9 ?_
        refine e_aldn cd_117_62 g0 ?_
        refine e_ildn cd_117_63 g1 ?_
        obtain ⟨q10, h11, hs⟩ := k_bind hs
        refine e_cvi cd_117_64 kd_117_523 rfl rfl rfl rfl rfl nl_116 rfl rfl (tie_mo_held d a0 a1 q6.2 _ h11) ?_
        refine e_iKn cd_117_67 nl_117 rfl rfl ?_
        intro _ gn kp
        have u12 := kp 0 _ g0 rfl rfl
        have u13 := kp 2 _ g2 rfl rfl
        have u14 := gn
        refine e_ildn cd_117_68 u13 ?_
        refine e_const cd_117_69 ci_4 ?_
        refine k_if hs (fun c15 hs => ?_) (fun c15 hs => ?_)
        · refine e_icN cd_117_70 rfl (fun q => q c15) ?_
          refine e_ildn cd_117_73 u14 ?_
          refine e_goto cd_117_74 rfl ?_
          exact tie_mo_thing_114  d  q10.1 q10.2 so _  hs
        · refine e_icJ cd_117_70 rfl c15 ?_
          refine e_ildn cd_117_77 u13 ?_
          refine e_const cd_117_78 ci_5 ?_
          refine k_if hs (fun c16 hs => ?_) (fun c16 hs => ?_)
          · refine e_icN cd_117_79 rfl (fun q => q c16) ?_
            refine e_aldn cd_117_82 u12 ?_
            refine e_getI cd_117_83 (Or.inl fd_117_506) rfl ?_
            refine e_goto cd_117_86 rfl ?_
            exact tie_mo_thing_114  d  (zm_I q10.2 12 a0 57) q10.2 so _  hs
          · refine e_icJ cd_117_79 rfl c16 ?_
            refine e_ildn cd_117_89 u13 ?_
            refine e_bip cd_117_90 cb_6 ?_
            refine k_if hs (fun c17 hs => ?_) (fun c17 hs => ?_)
            · refine e_icN cd_117_92 rfl (fun q => q c17) ?_
              refine e_aldn cd_117_95 u12 ?_
              refine e_getI cd_117_96 (Or.inl fd_117_509) rfl ?_
              refine e_goto cd_117_99 rfl ?_
              exact tie_mo_thing_114  d  (zm_I q10.2 12 a0 58) q10.2 so _  hs
            · refine e_icJ cd_117_92 rfl c17 ?_
              refine e_aldn cd_117_102 u12 ?_
              refine e_getI cd_117_103 (Or.inr fd_117_512) rfl ?_
              refine k_if hs (fun c18 hs => ?_) (fun c18 hs => ?_)
              · refine e_izJ cd_117_106 rfl c18 ?_
                refine e_const cd_117_113 ci_0 ?_
                exact tie_mo_thing_114  d  0 q10.2 so _  hs
              · refine e_izN cd_117_106 rfl c18 ?_
                refine e_const cd_117_109 ci_1 ?_
                refine e_goto cd_117_110 rfl ?_
                exact tie_mo_thing_114  d  1 q10.2 so _  hs
      · refine e_icN cd_117_30 rfl c9 ?_
        refine e_aldn cd_117_33 g0 ?_
        refine e_getR cd_117_34 fd_117_44 rfl ?_
        refine e_const cd_117_37 ci_4 ?_
        refine e_ildn cd_117_38 g1 ?_
        refine e_pure cd_117_39 rfl ?_
        refine e_ildn cd_117_40 g2 ?_
        refine e_const cd_117_41 ci_1 ?_
        refine k_if hs (fun c19 hs => ?_) (fun c19 hs => ?_)
        · refine e_icN cd_117_42 rfl (fun q => q c19) ?_
          refine e_const cd_117_45 ci_2 ?_
          refine e_goto cd_117_46 rfl ?_
          exact tie_mo_thing_59  d  (zm_R q6.2 12 a0 18) (4 * a1) 2 q6.2 so _  hs
        · refine e_icJ cd_117_42 rfl c19 ?_
          refine e_ildn cd_117_49 g2 ?_
          refine e_const cd_117_50 ci_2 ?_
          refine k_if hs (fun c20 hs => ?_) (fun c20 hs => ?_)
          · refine e_icN cd_117_51 rfl (fun q => q c20) ?_
            refine e_const cd_117_54 ci_1 ?_
            refine e_goto cd_117_55 rfl ?_
            exact tie_mo_thing_59  d  (zm_R q6.2 12 a0 18) (4 * a1) 1 q6.2 so _  hs
          · refine e_icJ cd_117_51 rfl c20 ?_
            refine e_ildn cd_117_58 g2 ?_
            exact tie_mo_thing_59  d  (zm_R q6.2 12 a0 18) (4 * a1) a2 q6.2 so _  hs
theorem tie_mo_thing (d : Nat) (a0 : Nat) (a1 : Int32) (a2 : Int32) (M : zM) (so : Int32 × zM) (hs : mo_thing d a0 a1 a2 M = some so) : Ev zq_T d 117 0 (zl_args 0 [.inr (.inr (12, some a0)), .inl a1, .inl a2]) [] M (some (.inl so.1), so.2) := by
  cases d with
  | zero => exact nomatch hs
  | succ d => exact tieb_mo_thing d a0 a1 a2 M so hs
theorem tie_mo_wrongs_26 (kl4 : Nat → Int32 → Int32 → zM → Option (Int32 × zM)) (d : Nat) (hk4 : ∀ (t0 : Nat) (v1 : Int32) (v2 : Int32) (M : zM) (so : Int32 × zM) (ls : List (Nat × zV)), zl_get ls 0 = some (.inr (.inr (12, (some t0)))) → zl_get ls 1 = some (.inl v1) → zl_get ls 2 = some (.inl v2) → kl4 t0 v1 v2 M = some so → Ev zq_T (d + 1) 118 4 ls [] M (some (.inl so.1), so.2)) (t0 : Nat) (v2 : Int32) (s0 : Int32) (s1 : Int32) (M : zM) (so : Int32 × zM) (ls : List (Nat × zV)) (g0 : zl_get ls 0 = some (.inr (.inr (12, (some t0))))) (g2 : zl_get ls 2 = some (.inl v2)) (hs : mo_wrongs_26 kl4 d t0 v2 s0 s1 M = some so) : Ev zq_T (d + 1) 118 26 ls [.inl s1, .inl s0] M (some (.inl so.1), so.2) := by
  unfold mo_wrongs_26 at hs
  refine e_pure cd_118_26 rfl ?_
  refine k_let hs (fun x1 e2 hs => ?_)
  refine e_iKn cd_118_27 nl_118 rfl e2 ?_
  intro _ gn kp
  have u3 := kp 0 _ g0 rfl rfl
  have u4 := kp 2 _ g2 rfl rfl
  have u5 := gn
  refine k_let hs (fun x6 e7 hs => ?_)
  refine e_incK cd_118_28 nl_118 rfl u4 ci_1 e7 ?_
  intro _ gn kp
  have u8 := kp 0 _ u3 rfl rfl
  have u9 := kp 1 _ u5 rfl rfl
  have u10 := gn
  refine e_goto cd_118_31 rfl ?_
  exact hk4 t0 x1 x6 M so _ u8 u9 u10 hs
theorem tie_mo_wrongs_4  (d : Nat)  : ∀ (fuel : Nat) (t0 : Nat) (v1 : Int32) (v2 : Int32) (M : zM) (so : Int32 × zM) (ls : List (Nat × zV)), zl_get ls 0 = some (.inr (.inr (12, (some t0)))) → zl_get ls 1 = some (.inl v1) → zl_get ls 2 = some (.inl v2) → mo_wrongs_4  d fuel t0 v1 v2 M = some so → Ev zq_T (d + 1) 118 4 ls [] M (some (.inl so.1), so.2) := by
  intro fuel
  induction fuel with
  | zero => intro t0 v1 v2 M so ls g0 g1 g2 hs; exact nomatch hs
  | succ fuel ih =>
    intro t0 v1 v2 M so ls g0 g1 g2 hs
    unfold mo_wrongs_4 at hs
    refine e_ildn cd_118_4 g2 ?_
    refine e_aldn cd_118_5 g0 ?_
    refine e_getI cd_118_6 (Or.inl fd_118_237) rfl ?_
    refine k_if hs (fun c1 hs => ?_) (fun c1 hs => ?_)
    · refine e_icJ cd_118_9 rfl c1 ?_
      refine e_ildn cd_118_34 g1 ?_
      have e := Option.some.inj hs
      subst e
      exact e_ri cd_118_35 nr_118
    · refine e_icN cd_118_9 rfl c1 ?_
      refine e_ildn cd_118_12 g1 ?_
      refine e_aldn cd_118_13 g0 ?_
      refine e_ildn cd_118_14 g2 ?_
      obtain ⟨q2, h3, hs⟩ := k_bind hs
      refine e_cvi cd_118_15 kd_118_523 rfl rfl rfl rfl rfl nl_116 rfl rfl (tie_mo_held d t0 v2 M _ h3) ?_
      refine k_if hs (fun c4 hs => ?_) (fun c4 hs => ?_)
      · refine e_izN cd_118_18 rfl (fun q => q c4) ?_
        refine e_const cd_118_21 ci_1 ?_
        refine e_goto cd_118_22 rfl ?_
        exact tie_mo_wrongs_26 (fun p0 p1 p2 m => mo_wrongs_4  d fuel p0 p1 p2 m) d ih t0 v2 v1 1 q2.2 so _ g0 g2 hs
      · refine e_izJ cd_118_18 rfl c4 ?_
        refine e_const cd_118_25 ci_0 ?_
        exact tie_mo_wrongs_26 (fun p0 p1 p2 m => mo_wrongs_4  d fuel p0 p1 p2 m) d ih t0 v2 v1 0 q2.2 so _ g0 g2 hs
theorem tieb_mo_wrongs  (d : Nat)  (a0 : Nat) (M : zM) (so : Int32 × zM) (hs : mo_wrongs_b  d a0 M = some so) : Ev zq_T (d + 1) 118 0 (zl_args 0 [.inr (.inr (12, some a0))]) [] M (some (.inl so.1), so.2) := by
  unfold mo_wrongs_b at hs
  have g0 : zl_get (zl_args 0 [.inr (.inr (12, some a0))]) 0 = some (.inr (.inr (12, (some a0)))) := rfl
  refine e_const cd_118_0 ci_0 ?_
  refine e_iKn cd_118_1 nl_118 rfl rfl ?_
  intro _ gn kp
  have u1 := kp 0 _ g0 rfl rfl
  have u2 := gn
  refine e_const cd_118_2 ci_0 ?_
  refine e_iKn cd_118_3 nl_118 rfl rfl ?_
  intro _ gn kp
  have u3 := kp 0 _ u1 rfl rfl
  have u4 := kp 1 _ u2 rfl rfl
  have u5 := gn
  exact tie_mo_wrongs_4  d  zLF a0 0 0 M so _ u3 u4 u5 hs
theorem tie_mo_wrongs (d : Nat) (a0 : Nat) (M : zM) (so : Int32 × zM) (hs : mo_wrongs d a0 M = some so) : Ev zq_T d 118 0 (zl_args 0 [.inr (.inr (12, some a0))]) [] M (some (.inl so.1), so.2) := by
  cases d with
  | zero => exact nomatch hs
  | succ d => exact tieb_mo_wrongs d a0 M so hs
theorem tie_mo_wrong_17  (d : Nat)   (M : zM) (so : Int32 × zM) (ls : List (Nat × zV))  (hs : mo_wrong_17  d  M = some so) : Ev zq_T (d + 1) 119 17 ls [] M (some (.inl so.1), so.2) := by
  unfold mo_wrong_17 at hs
  refine e_const cd_119_17 ci_m1 ?_
  have e := Option.some.inj hs
  subst e
  exact e_ri cd_119_18 nr_119
theorem tie_mo_wrong_62 (kl33 : Nat → Int32 → Int32 → Int32 → zM → Option (Int32 × zM)) (d : Nat) (hk33 : ∀ (t0 : Nat) (v1 : Int32) (v2 : Int32) (v3 : Int32) (M : zM) (so : Int32 × zM) (ls : List (Nat × zV)), zl_get ls 0 = some (.inr (.inr (12, (some t0)))) → zl_get ls 1 = some (.inl v1) → zl_get ls 2 = some (.inl v2) → zl_get ls 3 = some (.inl v3) → kl33 t0 v1 v2 v3 M = some so → Ev zq_T (d + 1) 119 33 ls [] M (some (.inl so.1), so.2)) (t0 : Nat) (v1 : Int32) (v2 : Int32) (v3 : Int32) (M : zM) (so : Int32 × zM) (ls : List (Nat × zV)) (g0 : zl_get ls 0 = some (.inr (.inr (12, (some t0))))) (g1 : zl_get ls 1 = some (.inl v1)) (g2 : zl_get ls 2 = some (.inl v2)) (g3 : zl_get ls 3 = some (.inl v3)) (hs : mo_wrong_62 kl33 d t0 v1 v2 v3 M = some so) : Ev zq_T (d + 1) 119 62 ls [] M (some (.inl so.1), so.2) := by
  unfold mo_wrong_62 at hs
  refine k_let hs (fun x1 e2 hs => ?_)
  refine e_incK cd_119_62 nl_119 rfl g3 ci_1 e2 ?_
  intro _ gn kp
  have u3 := kp 0 _ g0 rfl rfl
  have u4 := kp 1 _ g1 rfl rfl
  have u5 := kp 2 _ g2 rfl rfl
  have u6 := gn
  refine e_goto cd_119_65 rfl ?_
  exact hk33 t0 v1 v2 x1 M so _ u3 u4 u5 u6 hs
theorem tie_mo_wrong_33  (d : Nat)  : ∀ (fuel : Nat) (t0 : Nat) (v1 : Int32) (v2 : Int32) (v3 : Int32) (M : zM) (so : Int32 × zM) (ls : List (Nat × zV)), zl_get ls 0 = some (.inr (.inr (12, (some t0)))) → zl_get ls 1 = some (.inl v1) → zl_get ls 2 = some (.inl v2) → zl_get ls 3 = some (.inl v3) → mo_wrong_33  d fuel t0 v1 v2 v3 M = some so → Ev zq_T (d + 1) 119 33 ls [] M (some (.inl so.1), so.2) := by
  intro fuel
  induction fuel with
  | zero => intro t0 v1 v2 v3 M so ls g0 g1 g2 g3 hs; exact nomatch hs
  | succ fuel ih =>
    intro t0 v1 v2 v3 M so ls g0 g1 g2 g3 hs
    unfold mo_wrong_33 at hs
    refine e_ildn cd_119_33 g3 ?_
    refine e_aldn cd_119_34 g0 ?_
    refine e_getI cd_119_35 (Or.inl fd_119_237) rfl ?_
    refine k_if hs (fun c1 hs => ?_) (fun c1 hs => ?_)
    · refine e_icJ cd_119_38 rfl c1 ?_
      refine e_const cd_119_68 ci_m1 ?_
      have e := Option.some.inj hs
      subst e
      exact e_ri cd_119_69 nr_119
    · refine e_icN cd_119_38 rfl c1 ?_
      refine e_aldn cd_119_41 g0 ?_
      refine e_ildn cd_119_42 g3 ?_
      obtain ⟨q2, h3, hs⟩ := k_bind hs
      refine e_cvi cd_119_43 kd_119_523 rfl rfl rfl rfl rfl nl_116 rfl rfl (tie_mo_held d t0 v3 M _ h3) ?_
      refine k_if hs (fun c4 hs => ?_) (fun c4 hs => ?_)
      · refine e_izJ cd_119_46 rfl c4 ?_
        refine e_ildn cd_119_52 g2 ?_
        refine e_ildn cd_119_53 g1 ?_
        refine k_if hs (fun c5 hs => ?_) (fun c5 hs => ?_)
        · refine e_icN cd_119_54 rfl (fun q => q c5) ?_
          refine e_ildn cd_119_57 g3 ?_
          have e := Option.some.inj hs
          subst e
          exact e_ri cd_119_58 nr_119
        · refine e_icJ cd_119_54 rfl c5 ?_
          refine k_let hs (fun x6 e7 hs => ?_)
          refine e_incK cd_119_59 nl_119 rfl g2 ci_1 e7 ?_
          intro _ gn kp
          have u8 := kp 0 _ g0 rfl rfl
          have u9 := kp 1 _ g1 rfl rfl
          have u10 := kp 3 _ g3 rfl rfl
          have u11 := gn
          exact tie_mo_wrong_62 (fun p0 p1 p2 p3 m => mo_wrong_33  d fuel p0 p1 p2 p3 m) d ih t0 v1 x6 v3 q2.2 so _ u8 u9 u11 u10 hs
      · refine e_izN cd_119_46 rfl c4 ?_
        refine e_goto cd_119_49 rfl ?_
        exact tie_mo_wrong_62 (fun p0 p1 p2 p3 m => mo_wrong_33  d fuel p0 p1 p2 p3 m) d ih t0 v1 v2 v3 q2.2 so _ g0 g1 g2 g3 hs
theorem tieb_mo_wrong  (d : Nat)  (a0 : Nat) (a1 : Int32) (M : zM) (so : Int32 × zM) (hs : mo_wrong_b  d a0 a1 M = some so) : Ev zq_T (d + 1) 119 0 (zl_args 0 [.inr (.inr (12, some a0)), .inl a1]) [] M (some (.inl so.1), so.2) := by
  unfold mo_wrong_b at hs
  have g0 : zl_get (zl_args 0 [.inr (.inr (12, some a0)), .inl a1]) 0 = some (.inr (.inr (12, (some a0)))) := rfl
  have g1 : zl_get (zl_args 0 [.inr (.inr (12, some a0)), .inl a1]) 1 = some (.inl a1) := rfl
  refine e_aldn cd_119_0 g0 ?_
  refine e_const cd_119_1 ci_0 ?_
  refine k_let hs (fun M1 e2 hs => ?_)
  refine e_putI cd_119_2 pd_119_114 rfl e2 ?_
  refine e_aldn cd_119_5 g0 ?_
  refine e_getI cd_119_6 (Or.inl fd_119_237) rfl ?_
  refine k_if hs (fun c3 hs => ?_) (fun c3 hs => ?_)
  · refine e_izJ cd_119_9 rfl c3 ?_
    exact tie_mo_wrong_17  d   M1 so _  hs
  · refine e_izN cd_119_9 rfl c3 ?_
    refine e_ildn cd_119_12 g1 ?_
    refine e_const cd_119_13 ci_m1 ?_
    refine k_if hs (fun c4 hs => ?_) (fun c4 hs => ?_)
    · refine e_icJ cd_119_14 rfl c4 ?_
      refine e_ildn cd_119_19 g1 ?_
      refine e_const cd_119_20 ci_m1 ?_
      refine k_if hs (fun c5 hs => ?_) (fun c5 hs => ?_)
      · refine e_icN cd_119_21 rfl (fun q => q c5) ?_
        refine e_aldn cd_119_24 g0 ?_
        obtain ⟨q6, h7, hs⟩ := k_bind hs
        refine e_cvi cd_119_25 kd_119_526 rfl rfl rfl rfl rfl nl_118 rfl rfl (tie_mo_wrongs d a0 M1 _ h7) ?_
        have e := Option.some.inj hs
        subst e
        exact e_ri cd_119_28 nr_119
      · refine e_icJ cd_119_21 rfl c5 ?_
        refine e_const cd_119_29 ci_0 ?_
        refine e_iKn cd_119_30 nl_119 rfl rfl ?_
        intro _ gn kp
        have u8 := kp 0 _ g0 rfl rfl
        have u9 := kp 1 _ g1 rfl rfl
        have u10 := gn
        refine e_const cd_119_31 ci_0 ?_
        refine e_iKn cd_119_32 nl_119 rfl rfl ?_
        intro _ gn kp
        have u11 := kp 0 _ u8 rfl rfl
        have u12 := kp 1 _ u9 rfl rfl
        have u13 := kp 2 _ u10 rfl rfl
        have u14 := gn
        exact tie_mo_wrong_33  d  zLF a0 a1 0 0 M1 so _ u11 u12 u13 u14 hs
    · refine e_icN cd_119_14 rfl c4 ?_
      exact tie_mo_wrong_17  d   M1 so _  hs
theorem tie_mo_wrong (d : Nat) (a0 : Nat) (a1 : Int32) (M : zM) (so : Int32 × zM) (hs : mo_wrong d a0 a1 M = some so) : Ev zq_T d 119 0 (zl_args 0 [.inr (.inr (12, some a0)), .inl a1]) [] M (some (.inl so.1), so.2) := by
  cases d with
  | zero => exact nomatch hs
  | succ d => exact tieb_mo_wrong d a0 a1 M so hs
theorem tie_mo_says (d : Nat) (a0 : Nat) (a1 : Int32) (M : zM) (so : zM) (hs : mo_says d a0 a1 M = some so) : Ev zq_T d 120 0 (zl_args 0 [.inr (.inr (12, some a0)), .inl a1]) [] M (none, so) := by
  unfold mo_says at hs
  have g0 : zl_get (zl_args 0 [.inr (.inr (12, some a0)), .inl a1]) 0 = some (.inr (.inr (12, (some a0)))) := rfl
  have g1 : zl_get (zl_args 0 [.inr (.inr (12, some a0)), .inl a1]) 1 = some (.inl a1) := rfl
  refine e_aldn cd_120_0 g0 ?_
  refine e_getR cd_120_1 fd_120_111 rfl ?_
  refine e_aldn cd_120_4 g0 ?_
  refine e_getI cd_120_5 (Or.inl fd_120_529) rfl ?_
  refine e_ildn cd_120_8 g1 ?_
  refine k_opt hs (fun _ q => nomatch q) (fun k1 h2 hs => ?_)
  obtain ⟨c3, hs⟩ := z_ite hs
  refine k_let hs (fun M4 e5 hs => ?_)
  refine e_iast cd_120_9 rfl h2 c3 e5 ?_
  refine e_aldn cd_120_10 g0 ?_
  refine e_pure cd_120_11 rfl ?_
  refine e_getI cd_120_12 (Or.inl fd_120_529) rfl ?_
  refine e_const cd_120_15 ci_1 ?_
  refine e_pure cd_120_16 rfl ?_
  refine k_let hs (fun M6 e7 hs => ?_)
  refine e_putI cd_120_17 pd_120_529 rfl e7 ?_
  have e := Option.some.inj hs
  subst e
  exact e_rv cd_120_20 nr_120
theorem tie_mo_saysWord_2  (d : Nat)  : ∀ (fuel : Nat) (t0 : Nat) (v1 : Option Nat) (v2 : Int32) (M : zM) (so : zM) (ls : List (Nat × zV)), zl_get ls 0 = some (.inr (.inr (12, (some t0)))) → zl_get ls 1 = some (.inr (.inr (91, v1))) → zl_get ls 2 = some (.inl v2) → mo_saysWord_2  d fuel t0 v1 v2 M = some so → Ev zq_T (d + 1) 121 2 ls [] M (none, so) := by
  intro fuel
  induction fuel with
  | zero => intro t0 v1 v2 M so ls g0 g1 g2 hs; exact nomatch hs
  | succ fuel ih =>
    intro t0 v1 v2 M so ls g0 g1 g2 hs
    unfold mo_saysWord_2 at hs
    refine e_ildn cd_121_2 g2 ?_
    refine e_aldn cd_121_3 g1 ?_
    refine k_opt hs (fun _ q => nomatch q) (fun k1 h2 hs => ?_)
    obtain ⟨x3, h4, hs⟩ := k_bind hs
    rw [h2]
    refine e_ext cd_121_4 kd_121_532 rfl rfl rfl rfl rfl h4 ?_
    refine k_if hs (fun c5 hs => ?_) (fun c5 hs => ?_)
    · refine e_icJ cd_121_7 rfl c5 ?_
      have e := Option.some.inj hs
      subst e
      exact e_rv cd_121_25 nr_121
    · refine e_icN cd_121_7 rfl c5 ?_
      refine e_aldn cd_121_10 g0 ?_
      refine e_aldn cd_121_11 g1 ?_
      refine e_ildn cd_121_12 g2 ?_
      obtain ⟨x6, h7, hs⟩ := k_bind hs
      rw [h2]
      refine e_ext cd_121_13 kd_121_536 rfl rfl rfl rfl rfl h7 ?_
      obtain ⟨q8, h9, hs⟩ := k_bind hs
      refine e_cvi cd_121_16 kd_121_540 rfl rfl rfl rfl rfl nl_120 rfl rfl (tie_mo_says d t0 x6 M _ h9) ?_
      refine k_let hs (fun x10 e11 hs => ?_)
      refine e_incK cd_121_19 nl_121 rfl g2 ci_1 e11 ?_
      intro _ gn kp
      have u12 := kp 0 _ g0 rfl rfl
      have u13 := kp 1 _ g1 rfl rfl
      have u14 := gn
      refine e_goto cd_121_22 rfl ?_
      exact ih t0 v1 x10 q8 so _ u12 u13 u14 hs
theorem tieb_mo_saysWord  (d : Nat)  (a0 : Nat) (a1 : Option Nat) (M : zM) (so : zM) (hs : mo_saysWord_b  d a0 a1 M = some so) : Ev zq_T (d + 1) 121 0 (zl_args 0 [.inr (.inr (12, some a0)), .inr (.inr (91, a1))]) [] M (none, so) := by
  unfold mo_saysWord_b at hs
  have g0 : zl_get (zl_args 0 [.inr (.inr (12, some a0)), .inr (.inr (91, a1))]) 0 = some (.inr (.inr (12, (some a0)))) := rfl
  have g1 : zl_get (zl_args 0 [.inr (.inr (12, some a0)), .inr (.inr (91, a1))]) 1 = some (.inr (.inr (91, a1))) := rfl
  refine e_const cd_121_0 ci_0 ?_
  refine e_iKn cd_121_1 nl_121 rfl rfl ?_
  intro _ gn kp
  have u1 := kp 0 _ g0 rfl rfl
  have u2 := kp 1 _ g1 rfl rfl
  have u3 := gn
  exact tie_mo_saysWord_2  d  zLF a0 a1 0 M so _ u1 u2 u3 hs
theorem tie_mo_saysWord (d : Nat) (a0 : Nat) (a1 : Option Nat) (M : zM) (so : zM) (hs : mo_saysWord d a0 a1 M = some so) : Ev zq_T d 121 0 (zl_args 0 [.inr (.inr (12, some a0)), .inr (.inr (91, a1))]) [] M (none, so) := by
  cases d with
  | zero => exact nomatch hs
  | succ d => exact tieb_mo_saysWord d a0 a1 M so hs
theorem tie_mo_saysPath_34 (r_mo_saysPath : Nat → Int32 → zM → Option (zM)) (d : Nat) (hr_mo_saysPath : ∀ a0 a1 M so, r_mo_saysPath a0 a1 M = some so → Ev zq_T d 122 0 (zl_args 0 [.inr (.inr (12, some a0)), .inl a1]) [] M (none, so)) (t0 : Nat) (v1 : Int32) (M : zM) (so : zM) (ls : List (Nat × zV)) (g0 : zl_get ls 0 = some (.inr (.inr (12, (some t0))))) (g1 : zl_get ls 1 = some (.inl v1)) (hs : mo_saysPath_34 r_mo_saysPath d t0 v1 M = some so) : Ev zq_T (d + 1) 122 34 ls [] M (none, so) := by
  unfold mo_saysPath_34 at hs
  refine e_aldn cd_122_34 g0 ?_
  refine e_bip cd_122_35 cb_97 ?_
  refine e_aldn cd_122_37 g0 ?_
  refine e_getR cd_122_38 fd_122_44 rfl ?_
  refine e_const cd_122_41 ci_4 ?_
  refine e_ildn cd_122_42 g1 ?_
  refine e_pure cd_122_43 rfl ?_
  refine k_opt hs (fun _ q => nomatch q) (fun k1 h2 hs => ?_)
  obtain ⟨c3, hs⟩ := z_ite hs
  refine e_iald cd_122_44 rfl h2 c3 ?_
  refine e_pure cd_122_45 rfl ?_
  obtain ⟨q4, h5, hs⟩ := k_bind hs
  refine e_cvi cd_122_46 kd_122_540 rfl rfl rfl rfl rfl nl_120 rfl rfl (tie_mo_says d t0 (97 + (zm_I M 20 k1 (4 * v1).toNatClampNeg)) M _ h5) ?_
  have e := Option.some.inj hs
  subst e
  exact e_rv cd_122_49 nr_122
theorem tieb_mo_saysPath (r_mo_saysPath : Nat → Int32 → zM → Option (zM)) (d : Nat) (hr_mo_saysPath : ∀ a0 a1 M so, r_mo_saysPath a0 a1 M = some so → Ev zq_T d 122 0 (zl_args 0 [.inr (.inr (12, some a0)), .inl a1]) [] M (none, so)) (a0 : Nat) (a1 : Int32) (M : zM) (so : zM) (hs : mo_saysPath_b r_mo_saysPath d a0 a1 M = some so) : Ev zq_T (d + 1) 122 0 (zl_args 0 [.inr (.inr (12, some a0)), .inl a1]) [] M (none, so) := by
  unfold mo_saysPath_b at hs
  have g0 : zl_get (zl_args 0 [.inr (.inr (12, some a0)), .inl a1]) 0 = some (.inr (.inr (12, (some a0)))) := rfl
  have g1 : zl_get (zl_args 0 [.inr (.inr (12, some a0)), .inl a1]) 1 = some (.inl a1) := rfl
  refine e_aldn cd_122_0 g0 ?_
  refine e_getR cd_122_1 fd_122_44 rfl ?_
  refine e_const cd_122_4 ci_4 ?_
  refine e_ildn cd_122_5 g1 ?_
  refine e_pure cd_122_6 rfl ?_
  refine e_const cd_122_7 ci_1 ?_
  refine e_pure cd_122_8 rfl ?_
  refine k_opt hs (fun _ q => nomatch q) (fun k1 h2 hs => ?_)
  obtain ⟨c3, hs⟩ := z_ite hs
  refine e_iald cd_122_9 rfl h2 c3 ?_
  refine e_const cd_122_10 ci_m1 ?_
  refine k_if hs (fun c4 hs => ?_) (fun c4 hs => ?_)
  · refine e_icJ cd_122_11 rfl c4 ?_
    exact tie_mo_saysPath_34 r_mo_saysPath d hr_mo_saysPath a0 a1 M so _ g0 g1 hs
  · refine e_icN cd_122_11 rfl c4 ?_
    refine e_aldn cd_122_14 g0 ?_
    refine e_aldn cd_122_15 g0 ?_
    refine e_getR cd_122_16 fd_122_44 rfl ?_
    refine e_const cd_122_19 ci_4 ?_
    refine e_ildn cd_122_20 g1 ?_
    refine e_pure cd_122_21 rfl ?_
    refine e_const cd_122_22 ci_1 ?_
    refine e_pure cd_122_23 rfl ?_
    refine k_opt hs (fun _ q => nomatch q) (fun k5 h6 hs => ?_)
    obtain ⟨c7, hs⟩ := z_ite hs
    refine e_iald cd_122_24 rfl h6 c7 ?_
    obtain ⟨q8, h9, hs⟩ := k_bind hs
    refine e_cvi cd_122_25 kd_122_542 rfl rfl rfl rfl rfl nl_122 rfl rfl (hr_mo_saysPath a0 (zm_I M 20 k5 ((4 * a1) + 1).toNatClampNeg) M _ h9) ?_
    refine e_aldn cd_122_28 g0 ?_
    refine e_bip cd_122_29 cb_47 ?_
    obtain ⟨q10, h11, hs⟩ := k_bind hs
    refine e_cvi cd_122_31 kd_122_540 rfl rfl rfl rfl rfl nl_120 rfl rfl (tie_mo_says d a0 47 q8 _ h11) ?_
    exact tie_mo_saysPath_34 r_mo_saysPath d hr_mo_saysPath a0 a1 q10 so _ g0 g1 hs
theorem tie_mo_saysPath (d : Nat) : ∀ (a0 : Nat) (a1 : Int32) (M : zM) (so : zM), mo_saysPath d a0 a1 M = some so → Ev zq_T d 122 0 (zl_args 0 [.inr (.inr (12, some a0)), .inl a1]) [] M (none, so) := by
  induction d with
  | zero => intro a0 a1 M so hs; exact nomatch hs
  | succ d ih => intro a0 a1 M so hs; exact tieb_mo_saysPath _ d ih a0 a1 M so hs
theorem tie_mo_letterAt_50 (kl5 : Nat → Int32 → Int32 → Int32 → Int32 → zM → Option (Int32 × zM)) (d : Nat) (hk5 : ∀ (t0 : Nat) (v1 : Int32) (v2 : Int32) (v3 : Int32) (v4 : Int32) (M : zM) (so : Int32 × zM) (ls : List (Nat × zV)), zl_get ls 0 = some (.inr (.inr (12, (some t0)))) → zl_get ls 1 = some (.inl v1) → zl_get ls 2 = some (.inl v2) → zl_get ls 3 = some (.inl v3) → zl_get ls 4 = some (.inl v4) → kl5 t0 v1 v2 v3 v4 M = some so → Ev zq_T d 123 5 ls [] M (some (.inl so.1), so.2)) (t0 : Nat) (v1 : Int32) (v2 : Int32) (v3 : Int32) (v4 : Int32) (M : zM) (so : Int32 × zM) (ls : List (Nat × zV)) (g0 : zl_get ls 0 = some (.inr (.inr (12, (some t0))))) (g1 : zl_get ls 1 = some (.inl v1)) (g2 : zl_get ls 2 = some (.inl v2)) (g3 : zl_get ls 3 = some (.inl v3)) (g4 : zl_get ls 4 = some (.inl v4)) (hs : mo_letterAt_50 kl5 d t0 v1 v2 v3 v4 M = some so) : Ev zq_T d 123 50 ls [] M (some (.inl so.1), so.2) := by
  unfold mo_letterAt_50 at hs
  refine k_let hs (fun x1 e2 hs => ?_)
  refine e_incK cd_123_50 nl_123 rfl g4 ci_1 e2 ?_
  intro _ gn kp
  have u3 := kp 0 _ g0 rfl rfl
  have u4 := kp 1 _ g1 rfl rfl
  have u5 := kp 2 _ g2 rfl rfl
  have u6 := kp 3 _ g3 rfl rfl
  have u7 := gn
  refine e_goto cd_123_53 rfl ?_
  exact hk5 t0 v1 v2 v3 x1 M so _ u3 u4 u5 u6 u7 hs
theorem tie_mo_letterAt_5  (d : Nat)  : ∀ (fuel : Nat) (t0 : Nat) (v1 : Int32) (v2 : Int32) (v3 : Int32) (v4 : Int32) (M : zM) (so : Int32 × zM) (ls : List (Nat × zV)), zl_get ls 0 = some (.inr (.inr (12, (some t0)))) → zl_get ls 1 = some (.inl v1) → zl_get ls 2 = some (.inl v2) → zl_get ls 3 = some (.inl v3) → zl_get ls 4 = some (.inl v4) → mo_letterAt_5  d fuel t0 v1 v2 v3 v4 M = some so → Ev zq_T d 123 5 ls [] M (some (.inl so.1), so.2) := by
  intro fuel
  induction fuel with
  | zero => intro t0 v1 v2 v3 v4 M so ls g0 g1 g2 g3 g4 hs; exact nomatch hs
  | succ fuel ih =>
    intro t0 v1 v2 v3 v4 M so ls g0 g1 g2 g3 g4 hs
    unfold mo_letterAt_5 at hs
    refine e_ild cd_123_5 g4 ?_
    refine e_aldn cd_123_7 g0 ?_
    refine e_getI cd_123_8 (Or.inl fd_123_237) rfl ?_
    refine k_if hs (fun c1 hs => ?_) (fun c1 hs => ?_)
    · refine e_icJ cd_123_11 rfl c1 ?_
      refine e_const cd_123_56 ci_m1 ?_
      have e := Option.some.inj hs
      subst e
      exact e_ri cd_123_57 nr_123
    · refine e_icN cd_123_11 rfl c1 ?_
      refine e_aldn cd_123_14 g0 ?_
      refine e_getR cd_123_15 fd_123_44 rfl ?_
      refine e_const cd_123_18 ci_4 ?_
      refine e_ild cd_123_19 g4 ?_
      refine e_pure cd_123_21 rfl ?_
      refine e_const cd_123_22 ci_1 ?_
      refine e_pure cd_123_23 rfl ?_
      refine k_opt hs (fun _ q => nomatch q) (fun k2 h3 hs => ?_)
      obtain ⟨c4, hs⟩ := z_ite hs
      refine e_iald cd_123_24 rfl h3 c4 ?_
      refine e_ildn cd_123_25 g1 ?_
      refine k_if hs (fun c5 hs => ?_) (fun c5 hs => ?_)
      · refine e_icJ cd_123_26 rfl c5 ?_
        refine e_ildn cd_123_32 g3 ?_
        refine e_ildn cd_123_33 g2 ?_
        refine k_if hs (fun c6 hs => ?_) (fun c6 hs => ?_)
        · refine e_icN cd_123_34 rfl (fun q => q c6) ?_
          refine e_aldn cd_123_37 g0 ?_
          refine e_getR cd_123_38 fd_123_44 rfl ?_
          refine e_const cd_123_41 ci_4 ?_
          refine e_ild cd_123_42 g4 ?_
          refine e_pure cd_123_44 rfl ?_
          refine k_opt hs (fun _ q => nomatch q) (fun k7 h8 hs => ?_)
          obtain ⟨c9, hs⟩ := z_ite hs
          refine e_iald cd_123_45 rfl h8 c9 ?_
          have e := Option.some.inj hs
          subst e
          exact e_ri cd_123_46 nr_123
        · refine e_icJ cd_123_34 rfl c6 ?_
          refine k_let hs (fun x10 e11 hs => ?_)
          refine e_incK cd_123_47 nl_123 rfl g3 ci_1 e11 ?_
          intro _ gn kp
          have u12 := kp 0 _ g0 rfl rfl
          have u13 := kp 1 _ g1 rfl rfl
          have u14 := kp 2 _ g2 rfl rfl
          have u15 := kp 4 _ g4 rfl rfl
          have u16 := gn
          exact tie_mo_letterAt_50 (fun p0 p1 p2 p3 p4 m => mo_letterAt_5  d fuel p0 p1 p2 p3 p4 m) d ih t0 v1 v2 x10 v4 M so _ u12 u13 u14 u16 u15 hs
      · refine e_icN cd_123_26 rfl c5 ?_
        refine e_goto cd_123_29 rfl ?_
        exact tie_mo_letterAt_50 (fun p0 p1 p2 p3 p4 m => mo_letterAt_5  d fuel p0 p1 p2 p3 p4 m) d ih t0 v1 v2 v3 v4 M so _ g0 g1 g2 g3 g4 hs
theorem tie_mo_letterAt (d : Nat) (a0 : Nat) (a1 : Int32) (a2 : Int32) (M : zM) (so : Int32 × zM) (hs : mo_letterAt d a0 a1 a2 M = some so) : Ev zq_T d 123 0 (zl_args 0 [.inr (.inr (12, some a0)), .inl a1, .inl a2]) [] M (some (.inl so.1), so.2) := by
  unfold mo_letterAt at hs
  have g0 : zl_get (zl_args 0 [.inr (.inr (12, some a0)), .inl a1, .inl a2]) 0 = some (.inr (.inr (12, (some a0)))) := rfl
  have g1 : zl_get (zl_args 0 [.inr (.inr (12, some a0)), .inl a1, .inl a2]) 1 = some (.inl a1) := rfl
  have g2 : zl_get (zl_args 0 [.inr (.inr (12, some a0)), .inl a1, .inl a2]) 2 = some (.inl a2) := rfl
  refine e_const cd_123_0 ci_0 ?_
  refine e_iKn cd_123_1 nl_123 rfl rfl ?_
  intro _ gn kp
  have u1 := kp 0 _ g0 rfl rfl
  have u2 := kp 1 _ g1 rfl rfl
  have u3 := kp 2 _ g2 rfl rfl
  have u4 := gn
  refine e_const cd_123_2 ci_0 ?_
  refine e_iK cd_123_3 nl_123 rfl rfl ?_
  intro _ gn kp
  have u5 := kp 0 _ u1 rfl rfl
  have u6 := kp 1 _ u2 rfl rfl
  have u7 := kp 2 _ u3 rfl rfl
  have u8 := kp 3 _ u4 rfl rfl
  have u9 := gn
  exact tie_mo_letterAt_5  d  zLF a0 a1 a2 0 0 M so _ u5 u6 u7 u8 u9 hs
theorem tie_mo_saysMessage_184 (kl106 : Nat → Int32 → Int32 → zM → Option (zM)) (d : Nat) (hk106 : ∀ (t0 : Nat) (v3 : Int32) (v4 : Int32) (M : zM) (so : zM) (ls : List (Nat × zV)), zl_get ls 0 = some (.inr (.inr (12, (some t0)))) → zl_get ls 3 = some (.inl v3) → zl_get ls 4 = some (.inl v4) → kl106 t0 v3 v4 M = some so → Ev zq_T (d + 1) 124 106 ls [] M (none, so)) (t0 : Nat) (v3 : Int32) (v4 : Int32) (M : zM) (so : zM) (ls : List (Nat × zV)) (g0 : zl_get ls 0 = some (.inr (.inr (12, (some t0))))) (g3 : zl_get ls 3 = some (.inl v3)) (g4 : zl_get ls 4 = some (.inl v4)) (hs : mo_saysMessage_184 kl106 d t0 v3 v4 M = some so) : Ev zq_T (d + 1) 124 184 ls [] M (none, so) := by
  unfold mo_saysMessage_184 at hs
  refine k_let hs (fun x1 e2 hs => ?_)
  refine e_incK cd_124_184 nl_124 rfl g4 ci_1 e2 ?_
  intro _ gn kp
  have u3 := kp 0 _ g0 rfl rfl
  have u4 := kp 3 _ g3 rfl rfl
  have u5 := gn
  refine e_goto cd_124_187 rfl ?_
  exact hk106 t0 v3 x1 M so _ u3 u4 u5 hs
theorem tie_mo_saysMessage_182 (kl106 : Nat → Int32 → Int32 → zM → Option (zM)) (d : Nat) (hk106 : ∀ (t0 : Nat) (v3 : Int32) (v4 : Int32) (M : zM) (so : zM) (ls : List (Nat × zV)), zl_get ls 0 = some (.inr (.inr (12, (some t0)))) → zl_get ls 3 = some (.inl v3) → zl_get ls 4 = some (.inl v4) → kl106 t0 v3 v4 M = some so → Ev zq_T (d + 1) 124 106 ls [] M (none, so)) (t0 : Nat) (v4 : Int32) (M : zM) (so : zM) (ls : List (Nat × zV)) (g0 : zl_get ls 0 = some (.inr (.inr (12, (some t0))))) (g4 : zl_get ls 4 = some (.inl v4)) (hs : mo_saysMessage_182 kl106 d t0 v4 M = some so) : Ev zq_T (d + 1) 124 182 ls [] M (none, so) := by
  unfold mo_saysMessage_182 at hs
  refine e_const cd_124_182 ci_1 ?_
  refine e_iKn cd_124_183 nl_124 rfl rfl ?_
  intro _ gn kp
  have u1 := kp 0 _ g0 rfl rfl
  have u2 := kp 4 _ g4 rfl rfl
  have u3 := gn
  exact tie_mo_saysMessage_184 kl106 d hk106 t0 1 v4 M so _ u1 u3 u2 hs
theorem tie_mo_saysMessage_156 (kl106 : Nat → Int32 → Int32 → zM → Option (zM)) (d : Nat) (hk106 : ∀ (t0 : Nat) (v3 : Int32) (v4 : Int32) (M : zM) (so : zM) (ls : List (Nat × zV)), zl_get ls 0 = some (.inr (.inr (12, (some t0)))) → zl_get ls 3 = some (.inl v3) → zl_get ls 4 = some (.inl v4) → kl106 t0 v3 v4 M = some so → Ev zq_T (d + 1) 124 106 ls [] M (none, so)) (t0 : Nat) (v4 : Int32) (M : zM) (so : zM) (ls : List (Nat × zV)) (g0 : zl_get ls 0 = some (.inr (.inr (12, (some t0))))) (g4 : zl_get ls 4 = some (.inl v4)) (hs : mo_saysMessage_156 kl106 d t0 v4 M = some so) : Ev zq_T (d + 1) 124 156 ls [] M (none, so) := by
  unfold mo_saysMessage_156 at hs
  refine e_ild cd_124_156 g4 ?_
  refine e_bip cd_124_158 cb_26 ?_
  refine k_if hs (fun c1 hs => ?_) (fun c1 hs => ?_)
  · refine e_icJ cd_124_160 rfl c1 ?_
    refine e_aldn cd_124_175 g0 ?_
    refine e_ldwS cd_124_176 od_124_554 ?_
    obtain ⟨q2, h3, hs⟩ := k_bind hs
    refine e_cvi cd_124_179 kd_124_547 rfl rfl rfl rfl rfl nl_121 rfl rfl (tie_mo_saysWord d t0 (some 8) M _ h3) ?_
    exact tie_mo_saysMessage_182 kl106 d hk106 t0 v4 q2 so _ g0 g4 hs
  · refine e_icN cd_124_160 rfl c1 ?_
    refine e_aldn cd_124_163 g0 ?_
    refine e_bip cd_124_164 cb_97 ?_
    refine e_ild cd_124_166 g4 ?_
    refine e_pure cd_124_168 rfl ?_
    obtain ⟨q4, h5, hs⟩ := k_bind hs
    refine e_cvi cd_124_169 kd_124_540 rfl rfl rfl rfl rfl nl_120 rfl rfl (tie_mo_says d t0 (97 + v4) M _ h5) ?_
    refine e_goto cd_124_172 rfl ?_
    exact tie_mo_saysMessage_182 kl106 d hk106 t0 v4 q4 so _ g0 g4 hs
theorem tie_mo_saysMessage_145 (kl106 : Nat → Int32 → Int32 → zM → Option (zM)) (d : Nat) (hk106 : ∀ (t0 : Nat) (v3 : Int32) (v4 : Int32) (M : zM) (so : zM) (ls : List (Nat × zV)), zl_get ls 0 = some (.inr (.inr (12, (some t0)))) → zl_get ls 3 = some (.inl v3) → zl_get ls 4 = some (.inl v4) → kl106 t0 v3 v4 M = some so → Ev zq_T (d + 1) 124 106 ls [] M (none, so)) (t0 : Nat) (v3 : Int32) (v4 : Int32) (M : zM) (so : zM) (ls : List (Nat × zV)) (g0 : zl_get ls 0 = some (.inr (.inr (12, (some t0))))) (g3 : zl_get ls 3 = some (.inl v3)) (g4 : zl_get ls 4 = some (.inl v4)) (hs : mo_saysMessage_145 kl106 d t0 v3 v4 M = some so) : Ev zq_T (d + 1) 124 145 ls [] M (none, so) := by
  unfold mo_saysMessage_145 at hs
  refine e_ildn cd_124_145 g3 ?_
  refine k_if hs (fun c1 hs => ?_) (fun c1 hs => ?_)
  · refine e_izJ cd_124_146 rfl c1 ?_
    exact tie_mo_saysMessage_156 kl106 d hk106 t0 v4 M so _ g0 g4 hs
  · refine e_izN cd_124_146 rfl c1 ?_
    refine e_aldn cd_124_149 g0 ?_
    refine e_ldwS cd_124_150 od_124_560 ?_
    obtain ⟨q2, h3, hs⟩ := k_bind hs
    refine e_cvi cd_124_153 kd_124_547 rfl rfl rfl rfl rfl nl_121 rfl rfl (tie_mo_saysWord d t0 (some 11) M _ h3) ?_
    exact tie_mo_saysMessage_156 kl106 d hk106 t0 v4 q2 so _ g0 g4 hs
theorem tie_mo_saysMessage_106  (d : Nat)  : ∀ (fuel : Nat) (t0 : Nat) (v3 : Int32) (v4 : Int32) (M : zM) (so : zM) (ls : List (Nat × zV)), zl_get ls 0 = some (.inr (.inr (12, (some t0)))) → zl_get ls 3 = some (.inl v3) → zl_get ls 4 = some (.inl v4) → mo_saysMessage_106  d fuel t0 v3 v4 M = some so → Ev zq_T (d + 1) 124 106 ls [] M (none, so) := by
  intro fuel
  induction fuel with
  | zero => intro t0 v3 v4 M so ls g0 g3 g4 hs; exact nomatch hs
  | succ fuel ih =>
    intro t0 v3 v4 M so ls g0 g3 g4 hs
    unfold mo_saysMessage_106 at hs
    refine e_ild cd_124_106 g4 ?_
    refine e_bip cd_124_108 cb_26 ?_
    refine k_if hs (fun c1 hs => ?_) (fun c1 hs => ?_)
    · refine e_icJ cd_124_110 rfl c1 ?_
      have e := Option.some.inj hs
      subst e
      exact e_rv cd_124_190 nr_124
    · refine e_icN cd_124_110 rfl c1 ?_
      refine e_ild cd_124_113 g4 ?_
      refine e_bip cd_124_115 cb_26 ?_
      refine k_if hs (fun c2 hs => ?_) (fun c2 hs => ?_)
      · refine e_icJ cd_124_117 rfl c2 ?_
        refine e_aldn cd_124_135 g0 ?_
        refine e_getI cd_124_136 (Or.inr fd_124_512) rfl ?_
        refine k_if hs (fun c3 hs => ?_) (fun c3 hs => ?_)
        · refine e_izN cd_124_139 rfl (fun q => q c3) ?_
          refine e_goto cd_124_142 rfl ?_
          exact tie_mo_saysMessage_184 (fun p0 p1 p2 m => mo_saysMessage_106  d fuel p0 p1 p2 m) d ih t0 v3 v4 M so _ g0 g3 g4 hs
        · refine e_izJ cd_124_139 rfl c3 ?_
          exact tie_mo_saysMessage_145 (fun p0 p1 p2 m => mo_saysMessage_106  d fuel p0 p1 p2 m) d ih t0 v3 v4 M so _ g0 g3 g4 hs
      · refine e_icN cd_124_117 rfl c2 ?_
        refine e_aldn cd_124_120 g0 ?_
        refine e_getI cd_124_121 (Or.inl fd_124_509) rfl ?_
        refine e_ild cd_124_124 g4 ?_
        obtain ⟨q4, h5, hs⟩ := k_bind hs
        refine e_cst cd_124_126 kd_124_413 rfl rfl rfl nl_3 rfl rfl (tie_mo_has d (zm_I M 12 t0 58) v4 M _ h5) ?_
        refine k_if hs (fun c6 hs => ?_) (fun c6 hs => ?_)
        · refine e_izN cd_124_129 rfl (fun q => q c6) ?_
          refine e_goto cd_124_132 rfl ?_
          exact tie_mo_saysMessage_184 (fun p0 p1 p2 m => mo_saysMessage_106  d fuel p0 p1 p2 m) d ih t0 v3 v4 q4.2 so _ g0 g3 g4 hs
        · refine e_izJ cd_124_129 rfl c6 ?_
          exact tie_mo_saysMessage_145 (fun p0 p1 p2 m => mo_saysMessage_106  d fuel p0 p1 p2 m) d ih t0 v3 v4 q4.2 so _ g0 g3 g4 hs
theorem tie_mo_saysMessage_80  (d : Nat)  (t0 : Nat) (M : zM) (so : zM) (ls : List (Nat × zV)) (g0 : zl_get ls 0 = some (.inr (.inr (12, (some t0))))) (hs : mo_saysMessage_80  d t0 M = some so) : Ev zq_T (d + 1) 124 80 ls [] M (none, so) := by
  unfold mo_saysMessage_80 at hs
  refine e_aldn cd_124_80 g0 ?_
  refine e_bip cd_124_81 cb_48 ?_
  refine e_aldn cd_124_83 g0 ?_
  refine e_getI cd_124_84 (Or.inl fd_124_506) rfl ?_
  refine e_bip cd_124_87 cb_10 ?_
  refine e_rem cd_124_89 (by decide) ?_
  refine e_pure cd_124_90 rfl ?_
  obtain ⟨q1, h2, hs⟩ := k_bind hs
  refine e_cvi cd_124_91 kd_124_540 rfl rfl rfl rfl rfl nl_120 rfl rfl (tie_mo_says d t0 (48 + ((zm_I M 12 t0 57) - (zm_I M 12 t0 57) / 10 * 10)) M _ h2) ?_
  refine e_aldn cd_124_94 g0 ?_
  refine e_ldwS cd_124_95 od_124_558 ?_
  obtain ⟨q3, h4, hs⟩ := k_bind hs
  refine e_cvi cd_124_98 kd_124_547 rfl rfl rfl rfl rfl nl_121 rfl rfl (tie_mo_saysWord d t0 (some 10) q1 _ h4) ?_
  refine e_const cd_124_101 ci_0 ?_
  refine e_iKn cd_124_102 nl_124 rfl rfl ?_
  intro _ gn kp
  have u5 := kp 0 _ g0 rfl rfl
  have u6 := gn
  refine e_const cd_124_103 ci_0 ?_
  refine e_iK cd_124_104 nl_124 rfl rfl ?_
  intro _ gn kp
  have u7 := kp 0 _ u5 rfl rfl
  have u8 := kp 3 _ u6 rfl rfl
  have u9 := gn
  exact tie_mo_saysMessage_106  d  zLF t0 0 0 q3 so _ u7 u8 u9 hs
theorem tie_mo_saysMessage_50  (d : Nat)  (t0 : Nat) (M : zM) (so : zM) (ls : List (Nat × zV)) (g0 : zl_get ls 0 = some (.inr (.inr (12, (some t0))))) (hs : mo_saysMessage_50  d t0 M = some so) : Ev zq_T (d + 1) 124 50 ls [] M (none, so) := by
  unfold mo_saysMessage_50 at hs
  refine e_aldn cd_124_50 g0 ?_
  refine e_ldwS cd_124_51 od_124_556 ?_
  obtain ⟨q1, h2, hs⟩ := k_bind hs
  refine e_cvi cd_124_54 kd_124_547 rfl rfl rfl rfl rfl nl_121 rfl rfl (tie_mo_saysWord d t0 (some 9) M _ h2) ?_
  refine e_aldn cd_124_57 g0 ?_
  refine e_getI cd_124_58 (Or.inl fd_124_506) rfl ?_
  refine e_bip cd_124_61 cb_9 ?_
  refine k_if hs (fun c3 hs => ?_) (fun c3 hs => ?_)
  · refine e_icJ cd_124_63 rfl c3 ?_
    exact tie_mo_saysMessage_80  d  t0 q1 so _ g0 hs
  · refine e_icN cd_124_63 rfl c3 ?_
    refine e_aldn cd_124_66 g0 ?_
    refine e_bip cd_124_67 cb_48 ?_
    refine e_aldn cd_124_69 g0 ?_
    refine e_getI cd_124_70 (Or.inl fd_124_506) rfl ?_
    refine e_bip cd_124_73 cb_10 ?_
    refine e_div cd_124_75 (by decide) ?_
    refine e_pure cd_124_76 rfl ?_
    obtain ⟨q4, h5, hs⟩ := k_bind hs
    refine e_cvi cd_124_77 kd_124_540 rfl rfl rfl rfl rfl nl_120 rfl rfl (tie_mo_says d t0 (48 + ((zm_I q1 12 t0 57) / 10)) q1 _ h5) ?_
    exact tie_mo_saysMessage_80  d  t0 q4 so _ g0 hs
theorem tieb_mo_saysMessage  (d : Nat)  (a0 : Nat) (a1 : Int32) (M : zM) (so : zM) (hs : mo_saysMessage_b  d a0 a1 M = some so) : Ev zq_T (d + 1) 124 0 (zl_args 0 [.inr (.inr (12, some a0)), .inl a1]) [] M (none, so) := by
  unfold mo_saysMessage_b at hs
  have g0 : zl_get (zl_args 0 [.inr (.inr (12, some a0)), .inl a1]) 0 = some (.inr (.inr (12, (some a0)))) := rfl
  have g1 : zl_get (zl_args 0 [.inr (.inr (12, some a0)), .inl a1]) 1 = some (.inl a1) := rfl
  refine e_aldn cd_124_0 g0 ?_
  refine e_const cd_124_1 ci_0 ?_
  refine k_let hs (fun M1 e2 hs => ?_)
  refine e_putI cd_124_2 pd_124_529 rfl e2 ?_
  refine e_aldn cd_124_5 g0 ?_
  refine e_ildn cd_124_6 g1 ?_
  obtain ⟨q3, h4, hs⟩ := k_bind hs
  refine e_cvi cd_124_7 kd_124_542 rfl rfl rfl rfl rfl nl_122 rfl rfl (tie_mo_saysPath d a0 a1 M1 _ h4) ?_
  refine e_aldn cd_124_10 g0 ?_
  refine e_ldwS cd_124_11 od_124_545 ?_
  obtain ⟨q5, h6, hs⟩ := k_bind hs
  refine e_cvi cd_124_14 kd_124_547 rfl rfl rfl rfl rfl nl_121 rfl rfl (tie_mo_saysWord d a0 (some 7) q3 _ h6) ?_
  refine e_aldn cd_124_17 g0 ?_
  refine e_ildn cd_124_18 g1 ?_
  refine e_aldn cd_124_19 g0 ?_
  refine e_getI cd_124_20 (Or.inl fd_124_506) rfl ?_
  obtain ⟨q7, h8, hs⟩ := k_bind hs
  refine e_cvi cd_124_23 kd_124_551 rfl rfl rfl rfl rfl nl_123 rfl rfl (tie_mo_letterAt d a0 a1 (zm_I q5 12 a0 57) q5 _ h8) ?_
  refine e_iKn cd_124_26 nl_124 rfl rfl ?_
  intro _ gn kp
  have u9 := kp 0 _ g0 rfl rfl
  have u10 := gn
  refine e_ildn cd_124_27 u10 ?_
  refine e_const cd_124_28 ci_m1 ?_
  refine k_if hs (fun c11 hs => ?_) (fun c11 hs => ?_)
  · refine e_icN cd_124_29 rfl (fun q => q c11) ?_
    refine e_aldn cd_124_32 u9 ?_
    refine e_ldwS cd_124_33 od_124_554 ?_
    obtain ⟨q12, h13, hs⟩ := k_bind hs
    refine e_cvi cd_124_36 kd_124_547 rfl rfl rfl rfl rfl nl_121 rfl rfl (tie_mo_saysWord d a0 (some 8) q7.2 _ h13) ?_
    refine e_goto cd_124_39 rfl ?_
    exact tie_mo_saysMessage_50  d  a0 q12 so _ u9 hs
  · refine e_icJ cd_124_29 rfl c11 ?_
    refine e_aldn cd_124_42 u9 ?_
    refine e_bip cd_124_43 cb_97 ?_
    refine e_ildn cd_124_45 u10 ?_
    refine e_pure cd_124_46 rfl ?_
    obtain ⟨q14, h15, hs⟩ := k_bind hs
    refine e_cvi cd_124_47 kd_124_540 rfl rfl rfl rfl rfl nl_120 rfl rfl (tie_mo_says d a0 (97 + q7.1) q7.2 _ h15) ?_
    exact tie_mo_saysMessage_50  d  a0 q14 so _ u9 hs
theorem tie_mo_saysMessage (d : Nat) (a0 : Nat) (a1 : Int32) (M : zM) (so : zM) (hs : mo_saysMessage d a0 a1 M = some so) : Ev zq_T d 124 0 (zl_args 0 [.inr (.inr (12, some a0)), .inl a1]) [] M (none, so) := by
  cases d with
  | zero => exact nomatch hs
  | succ d => exact tieb_mo_saysMessage d a0 a1 M so hs
theorem tie_mo_message_21  (d : Nat)   (M : zM) (so : Int32 × zM) (ls : List (Nat × zV))  (hs : mo_message_21  d  M = some so) : Ev zq_T (d + 1) 125 21 ls [] M (some (.inl so.1), so.2) := by
  unfold mo_message_21 at hs
  refine e_const cd_125_21 ci_m1 ?_
  have e := Option.some.inj hs
  subst e
  exact e_ri cd_125_22 nr_125
theorem tie_mo_message_66  (d : Nat)  (s0 : Int32) (M : zM) (so : Int32 × zM) (ls : List (Nat × zV))  (hs : mo_message_66  d s0 M = some so) : Ev zq_T (d + 1) 125 66 ls [.inl s0] M (some (.inl so.1), so.2) := by
  unfold mo_message_66 at hs
  have e := Option.some.inj hs
  subst e
  exact e_ri cd_125_66 nr_125
theorem tieb_mo_message  (d : Nat)  (a0 : Nat) (a1 : Int32) (a2 : Int32) (M : zM) (so : Int32 × zM) (hs : mo_message_b  d a0 a1 a2 M = some so) : Ev zq_T (d + 1) 125 0 (zl_args 0 [.inr (.inr (12, some a0)), .inl a1, .inl a2]) [] M (some (.inl so.1), so.2) := by
  unfold mo_message_b at hs
  have g0 : zl_get (zl_args 0 [.inr (.inr (12, some a0)), .inl a1, .inl a2]) 0 = some (.inr (.inr (12, (some a0)))) := rfl
  have g1 : zl_get (zl_args 0 [.inr (.inr (12, some a0)), .inl a1, .inl a2]) 1 = some (.inl a1) := rfl
  have g2 : zl_get (zl_args 0 [.inr (.inr (12, some a0)), .inl a1, .inl a2]) 2 = some (.inl a2) := rfl
  refine e_aldn cd_125_0 g0 ?_
  refine e_const cd_125_1 ci_0 ?_
  refine k_let hs (fun M1 e2 hs => ?_)
  refine e_putI cd_125_2 pd_125_114 rfl e2 ?_
  refine e_aldn cd_125_5 g0 ?_
  refine e_ildn cd_125_6 g1 ?_
  obtain ⟨q3, h4, hs⟩ := k_bind hs
  refine e_cvi cd_125_7 kd_125_518 rfl rfl rfl rfl rfl nl_114 rfl rfl (tie_mo_isThing d a0 a1 M1 _ h4) ?_
  refine k_if hs (fun c5 hs => ?_) (fun c5 hs => ?_)
  · refine e_izJ cd_125_10 rfl c5 ?_
    exact tie_mo_message_21  d   q3.2 so _  hs
  · refine e_izN cd_125_10 rfl c5 ?_
    refine e_aldn cd_125_13 g0 ?_
    refine e_ildn cd_125_14 g1 ?_
    obtain ⟨q6, h7, hs⟩ := k_bind hs
    refine e_cvi cd_125_15 kd_125_523 rfl rfl rfl rfl rfl nl_116 rfl rfl (tie_mo_held d a0 a1 q3.2 _ h7) ?_
    refine k_if hs (fun c8 hs => ?_) (fun c8 hs => ?_)
    · refine e_izJ cd_125_18 rfl c8 ?_
      refine e_aldn cd_125_23 g0 ?_
      refine e_ildn cd_125_24 g1 ?_
      obtain ⟨q9, h10, hs⟩ := k_bind hs
      refine e_cvi cd_125_25 kd_125_562 rfl rfl rfl rfl rfl nl_124 rfl rfl (tie_mo_saysMessage d a0 a1 q6.2 _ h10) ?_
      refine e_ildn cd_125_28 g2 ?_
      refine e_const cd_125_29 ci_m1 ?_
      refine k_if hs (fun c11 hs => ?_) (fun c11 hs => ?_)
      · refine e_icN cd_125_30 rfl (fun q => q c11) ?_
        refine e_aldn cd_125_33 g0 ?_
        refine e_getI cd_125_34 (Or.inl fd_125_529) rfl ?_
        refine e_goto cd_125_37 rfl ?_
        exact tie_mo_message_66  d  (zm_I q9 12 a0 61) q9 so _  hs
      · refine e_icJ cd_125_30 rfl c11 ?_
        refine e_ildn cd_125_40 g2 ?_
        refine e_pure cd_125_41 rfl ?_
        refine e_lcon cd_125_42 cl_0 ?_
        refine e_aldn cd_125_43 g0 ?_
        refine e_getI cd_125_44 (Or.inl fd_125_529) rfl ?_
        refine e_const cd_125_47 ci_1 ?_
        refine e_pure cd_125_48 rfl ?_
        refine e_pure cd_125_49 rfl ?_
        obtain ⟨q12, h13, hs⟩ := k_bind hs
        refine e_cst cd_125_50 kd_125_204 rfl rfl rfl nl_2 rfl rfl (tie_mo_isIn d a2.toInt64 0 (((zm_I q9 12 a0 61) - 1).toInt64) q9 _ h13) ?_
        refine k_if hs (fun c14 hs => ?_) (fun c14 hs => ?_)
        · refine e_izJ cd_125_53 rfl c14 ?_
          refine e_const cd_125_65 ci_m1 ?_
          exact tie_mo_message_66  d  (-1) q12.2 so _  hs
        · refine e_izN cd_125_53 rfl c14 ?_
          refine e_aldn cd_125_56 g0 ?_
          refine e_getR cd_125_57 fd_125_111 rfl ?_
          refine e_ildn cd_125_60 g2 ?_
          refine k_opt hs (fun _ q => nomatch q) (fun k15 h16 hs => ?_)
          obtain ⟨c17, hs⟩ := z_ite hs
          refine e_iald cd_125_61 rfl h16 c17 ?_
          refine e_goto cd_125_62 rfl ?_
          exact tie_mo_message_66  d  (zm_I q12.2 20 k15 (a2 : Int32).toNatClampNeg) q12.2 so _  hs
    · refine e_izN cd_125_18 rfl c8 ?_
      exact tie_mo_message_21  d   q6.2 so _  hs
theorem tie_mo_message (d : Nat) (a0 : Nat) (a1 : Int32) (a2 : Int32) (M : zM) (so : Int32 × zM) (hs : mo_message d a0 a1 a2 M = some so) : Ev zq_T d 125 0 (zl_args 0 [.inr (.inr (12, some a0)), .inl a1, .inl a2]) [] M (some (.inl so.1), so.2) := by
  cases d with
  | zero => exact nomatch hs
  | succ d => exact tieb_mo_message d a0 a1 a2 M so hs
theorem tie_mo_recount_31  (d : Nat)   (M : zM) (so : Int32 × zM) (ls : List (Nat × zV))  (hs : mo_recount_31  d  M = some so) : Ev zq_T (d + 1) 126 31 ls [] M (some (.inl so.1), so.2) := by
  unfold mo_recount_31 at hs
  refine e_const cd_126_31 ci_m1 ?_
  have e := Option.some.inj hs
  subst e
  exact e_ri cd_126_32 nr_126
theorem tie_mo_recount_69  (d : Nat)   (M : zM) (so : Int32 × zM) (ls : List (Nat × zV))  (hs : mo_recount_69  d  M = some so) : Ev zq_T (d + 1) 126 69 ls [] M (some (.inl so.1), so.2) := by
  unfold mo_recount_69 at hs
  refine e_bip cd_126_69 cb_m2 ?_
  have e := Option.some.inj hs
  subst e
  exact e_ri cd_126_71 nr_126
theorem tie_mo_recount_140  (d : Nat)  (s0 : Int32) (M : zM) (so : Int32 × zM) (ls : List (Nat × zV))  (hs : mo_recount_140  d s0 M = some so) : Ev zq_T (d + 1) 126 140 ls [.inl s0] M (some (.inl so.1), so.2) := by
  unfold mo_recount_140 at hs
  have e := Option.some.inj hs
  subst e
  exact e_ri cd_126_140 nr_126
theorem tie_mo_recount_96  (d : Nat)  (t0 : Nat) (v1 : Int32) (v2 : Int32) (v3 : Int32) (v4 : Int32) (M : zM) (so : Int32 × zM) (ls : List (Nat × zV)) (g0 : zl_get ls 0 = some (.inr (.inr (12, (some t0))))) (g1 : zl_get ls 1 = some (.inl v1)) (g2 : zl_get ls 2 = some (.inl v2)) (g3 : zl_get ls 3 = some (.inl v3)) (g4 : zl_get ls 4 = some (.inl v4)) (hs : mo_recount_96  d t0 v1 v2 v3 v4 M = some so) : Ev zq_T (d + 1) 126 96 ls [] M (some (.inl so.1), so.2) := by
  unfold mo_recount_96 at hs
  refine e_aldn cd_126_96 g0 ?_
  refine e_getR cd_126_97 fd_126_26 rfl ?_
  refine e_const cd_126_100 ci_3 ?_
  refine e_bip cd_126_101 cbb_8 ?_
  refine e_ildn cd_126_103 g1 ?_
  refine e_pure cd_126_104 rfl ?_
  refine e_ildn cd_126_105 g2 ?_
  refine e_pure cd_126_106 rfl ?_
  refine e_pure cd_126_107 rfl ?_
  refine e_ildn cd_126_108 g3 ?_
  refine k_opt hs (fun _ q => nomatch q) (fun k1 h2 hs => ?_)
  obtain ⟨c3, hs⟩ := z_ite hs
  refine k_let hs (fun M4 e5 hs => ?_)
  refine e_iast cd_126_109 rfl h2 c3 e5 ?_
  refine e_aldn cd_126_110 g0 ?_
  refine e_getR cd_126_111 fd_126_26 rfl ?_
  refine e_const cd_126_114 ci_3 ?_
  refine e_bip cd_126_115 cbb_8 ?_
  refine e_ildn cd_126_117 g1 ?_
  refine e_pure cd_126_118 rfl ?_
  refine e_ildn cd_126_119 g2 ?_
  refine e_pure cd_126_120 rfl ?_
  refine e_pure cd_126_121 rfl ?_
  refine e_const cd_126_122 ci_1 ?_
  refine e_pure cd_126_123 rfl ?_
  refine e_ild cd_126_124 g4 ?_
  refine k_opt hs (fun _ q => nomatch q) (fun k6 h7 hs => ?_)
  obtain ⟨c8, hs⟩ := z_ite hs
  refine k_let hs (fun M9 e10 hs => ?_)
  refine e_iast cd_126_126 rfl h7 c8 e10 ?_
  refine e_aldn cd_126_127 g0 ?_
  refine e_ildn cd_126_128 g1 ?_
  obtain ⟨q11, h12, hs⟩ := k_bind hs
  refine e_cvi cd_126_129 kd_126_372 rfl rfl rfl rfl rfl nl_70 rfl rfl (tie_mo_isSure d t0 v1 M9 _ h12) ?_
  refine k_if hs (fun c13 hs => ?_) (fun c13 hs => ?_)
  · refine e_izJ cd_126_132 rfl c13 ?_
    refine e_const cd_126_139 ci_0 ?_
    exact tie_mo_recount_140  d  0 q11.2 so _  hs
  · refine e_izN cd_126_132 rfl c13 ?_
    refine e_const cd_126_135 ci_1 ?_
    refine e_goto cd_126_136 rfl ?_
    exact tie_mo_recount_140  d  1 q11.2 so _  hs
theorem tie_mo_recount_72  (d : Nat)  (t0 : Nat) (v1 : Int32) (v2 : Int32) (v3 : Int32) (v4 : Int32) (M : zM) (so : Int32 × zM) (ls : List (Nat × zV)) (g0 : zl_get ls 0 = some (.inr (.inr (12, (some t0))))) (g1 : zl_get ls 1 = some (.inl v1)) (g2 : zl_get ls 2 = some (.inl v2)) (g3 : zl_get ls 3 = some (.inl v3)) (g4 : zl_get ls 4 = some (.inl v4)) (hs : mo_recount_72  d t0 v1 v2 v3 v4 M = some so) : Ev zq_T (d + 1) 126 72 ls [] M (some (.inl so.1), so.2) := by
  unfold mo_recount_72 at hs
  refine e_aldn cd_126_72 g0 ?_
  refine e_ildn cd_126_73 g1 ?_
  refine e_ildn cd_126_74 g2 ?_
  obtain ⟨q1, h2, hs⟩ := k_bind hs
  refine e_cvi cd_126_75 kd_126_242 rfl rfl rfl rfl rfl nl_37 rfl rfl (tie_mo_from d t0 v1 v2 M _ h2) ?_
  refine e_ildn cd_126_78 g3 ?_
  refine k_if hs (fun c3 hs => ?_) (fun c3 hs => ?_)
  · refine e_icN cd_126_79 rfl (fun q => q c3) ?_
    refine e_aldn cd_126_82 g0 ?_
    refine e_ildn cd_126_83 g1 ?_
    refine e_ildn cd_126_84 g2 ?_
    obtain ⟨q4, h5, hs⟩ := k_bind hs
    refine e_cvi cd_126_85 kd_126_275 rfl rfl rfl rfl rfl nl_38 rfl rfl (tie_mo_to d t0 v1 v2 q1.2 _ h5) ?_
    refine e_ild cd_126_88 g4 ?_
    refine k_if hs (fun c6 hs => ?_) (fun c6 hs => ?_)
    · refine e_icN cd_126_90 rfl (fun q => q c6) ?_
      refine e_bip cd_126_93 cb_m3 ?_
      have e := Option.some.inj hs
      subst e
      exact e_ri cd_126_95 nr_126
    · refine e_icJ cd_126_90 rfl c6 ?_
      exact tie_mo_recount_96  d  t0 v1 v2 v3 v4 q4.2 so _ g0 g1 g2 g3 g4 hs
  · refine e_icJ cd_126_79 rfl c3 ?_
    exact tie_mo_recount_96  d  t0 v1 v2 v3 v4 q1.2 so _ g0 g1 g2 g3 g4 hs
theorem tieb_mo_recount  (d : Nat)  (a0 : Nat) (a1 : Int32) (a2 : Int32) (a3 : Int32) (a4 : Int32) (M : zM) (so : Int32 × zM) (hs : mo_recount_b  d a0 a1 a2 a3 a4 M = some so) : Ev zq_T (d + 1) 126 0 (zl_args 0 [.inr (.inr (12, some a0)), .inl a1, .inl a2, .inl a3, .inl a4]) [] M (some (.inl so.1), so.2) := by
  unfold mo_recount_b at hs
  have g0 : zl_get (zl_args 0 [.inr (.inr (12, some a0)), .inl a1, .inl a2, .inl a3, .inl a4]) 0 = some (.inr (.inr (12, (some a0)))) := rfl
  have g1 : zl_get (zl_args 0 [.inr (.inr (12, some a0)), .inl a1, .inl a2, .inl a3, .inl a4]) 1 = some (.inl a1) := rfl
  have g2 : zl_get (zl_args 0 [.inr (.inr (12, some a0)), .inl a1, .inl a2, .inl a3, .inl a4]) 2 = some (.inl a2) := rfl
  have g3 : zl_get (zl_args 0 [.inr (.inr (12, some a0)), .inl a1, .inl a2, .inl a3, .inl a4]) 3 = some (.inl a3) := rfl
  have g4 : zl_get (zl_args 0 [.inr (.inr (12, some a0)), .inl a1, .inl a2, .inl a3, .inl a4]) 4 = some (.inl a4) := rfl
  refine e_aldn cd_126_0 g0 ?_
  refine e_const cd_126_1 ci_0 ?_
  refine k_let hs (fun M1 e2 hs => ?_)
  refine e_putI cd_126_2 pd_126_114 rfl e2 ?_
  refine e_aldn cd_126_5 g0 ?_
  refine e_ildn cd_126_6 g1 ?_
  obtain ⟨q3, h4, hs⟩ := k_bind hs
  refine e_cvi cd_126_7 kd_126_357 rfl rfl rfl rfl rfl nl_34 rfl rfl (tie_mo_isRule d a0 a1 M1 _ h4) ?_
  refine k_if hs (fun c5 hs => ?_) (fun c5 hs => ?_)
  · refine e_izJ cd_126_10 rfl c5 ?_
    exact tie_mo_recount_31  d   q3.2 so _  hs
  · refine e_izN cd_126_10 rfl c5 ?_
    refine e_ildn cd_126_13 g2 ?_
    refine e_pure cd_126_14 rfl ?_
    refine e_lcon cd_126_15 cl_0 ?_
    refine e_aldn cd_126_16 g0 ?_
    refine e_ildn cd_126_17 g1 ?_
    refine e_const cd_126_18 ci_3 ?_
    obtain ⟨q6, h7, hs⟩ := k_bind hs
    refine e_cvi cd_126_19 kd_126_258 rfl rfl rfl rfl rfl nl_35 rfl rfl (tie_mo_of d a0 a1 3 q3.2 _ h7) ?_
    refine e_const cd_126_22 ci_1 ?_
    refine e_pure cd_126_23 rfl ?_
    refine e_pure cd_126_24 rfl ?_
    obtain ⟨q8, h9, hs⟩ := k_bind hs
    refine e_cst cd_126_25 kd_126_204 rfl rfl rfl nl_2 rfl rfl (tie_mo_isIn d a2.toInt64 0 ((q6.1 - 1).toInt64) q6.2 _ h9) ?_
    refine k_if hs (fun c10 hs => ?_) (fun c10 hs => ?_)
    · refine e_izN cd_126_28 rfl (fun q => q c10) ?_
      exact tie_mo_recount_31  d   q8.2 so _  hs
    · refine e_izJ cd_126_28 rfl c10 ?_
      refine e_ildn cd_126_33 g3 ?_
      refine e_pure cd_126_34 rfl ?_
      refine e_lcon cd_126_35 cl_0 ?_
      refine e_ld2 cd_126_36 od_126_202 ?_
      obtain ⟨q11, h12, hs⟩ := k_bind hs
      refine e_cst cd_126_39 kd_126_204 rfl rfl rfl nl_2 rfl rfl (tie_mo_isIn d a3.toInt64 0 12 q8.2 _ h12) ?_
      refine k_if hs (fun c13 hs => ?_) (fun c13 hs => ?_)
      · refine e_izJ cd_126_42 rfl c13 ?_
        exact tie_mo_recount_69  d   q11.2 so _  hs
      · refine e_izN cd_126_42 rfl c13 ?_
        refine e_ild cd_126_45 g4 ?_
        refine e_const cd_126_47 ci_m1 ?_
        refine k_if hs (fun c14 hs => ?_) (fun c14 hs => ?_)
        · refine e_icJ cd_126_48 rfl c14 ?_
          exact tie_mo_recount_72  d  a0 a1 a2 a3 a4 q11.2 so _ g0 g1 g2 g3 g4 hs
        · refine e_icN cd_126_48 rfl c14 ?_
          refine e_ild cd_126_51 g4 ?_
          refine e_pure cd_126_53 rfl ?_
          refine e_const cd_126_54 ci_1 ?_
          refine e_ildn cd_126_55 g3 ?_
          refine e_max cd_126_56 kd_126_144 rfl ?_
          refine e_pure cd_126_59 rfl ?_
          refine e_ld2 cd_126_60 od_126_202 ?_
          obtain ⟨q15, h16, hs⟩ := k_bind hs
          refine e_cst cd_126_63 kd_126_204 rfl rfl rfl nl_2 rfl rfl (tie_mo_isIn d a4.toInt64 ((if 1 < a3 then a3 else 1).toInt64) 12 q11.2 _ h16) ?_
          refine k_if hs (fun c17 hs => ?_) (fun c17 hs => ?_)
          · refine e_izN cd_126_66 rfl (fun q => q c17) ?_
            exact tie_mo_recount_69  d   q15.2 so _  hs
          · refine e_izJ cd_126_66 rfl c17 ?_
            exact tie_mo_recount_72  d  a0 a1 a2 a3 a4 q15.2 so _ g0 g1 g2 g3 g4 hs
theorem tie_mo_recount (d : Nat) (a0 : Nat) (a1 : Int32) (a2 : Int32) (a3 : Int32) (a4 : Int32) (M : zM) (so : Int32 × zM) (hs : mo_recount d a0 a1 a2 a3 a4 M = some so) : Ev zq_T d 126 0 (zl_args 0 [.inr (.inr (12, some a0)), .inl a1, .inl a2, .inl a3, .inl a4]) [] M (some (.inl so.1), so.2) := by
  cases d with
  | zero => exact nomatch hs
  | succ d => exact tieb_mo_recount d a0 a1 a2 a3 a4 M so hs
theorem tie_mo_reletter_31  (d : Nat)   (M : zM) (so : Int32 × zM) (ls : List (Nat × zV))  (hs : mo_reletter_31  d  M = some so) : Ev zq_T (d + 1) 127 31 ls [] M (some (.inl so.1), so.2) := by
  unfold mo_reletter_31 at hs
  refine e_const cd_127_31 ci_m1 ?_
  have e := Option.some.inj hs
  subst e
  exact e_ri cd_127_32 nr_127
theorem tie_mo_reletter_88  (d : Nat)  (s0 : Int32) (M : zM) (so : Int32 × zM) (ls : List (Nat × zV))  (hs : mo_reletter_88  d s0 M = some so) : Ev zq_T (d + 1) 127 88 ls [.inl s0] M (some (.inl so.1), so.2) := by
  unfold mo_reletter_88 at hs
  have e := Option.some.inj hs
  subst e
  exact e_ri cd_127_88 nr_127
theorem tieb_mo_reletter  (d : Nat)  (a0 : Nat) (a1 : Int32) (a2 : Int32) (a3 : Int32) (M : zM) (so : Int32 × zM) (hs : mo_reletter_b  d a0 a1 a2 a3 M = some so) : Ev zq_T (d + 1) 127 0 (zl_args 0 [.inr (.inr (12, some a0)), .inl a1, .inl a2, .inl a3]) [] M (some (.inl so.1), so.2) := by
  unfold mo_reletter_b at hs
  have g0 : zl_get (zl_args 0 [.inr (.inr (12, some a0)), .inl a1, .inl a2, .inl a3]) 0 = some (.inr (.inr (12, (some a0)))) := rfl
  have g1 : zl_get (zl_args 0 [.inr (.inr (12, some a0)), .inl a1, .inl a2, .inl a3]) 1 = some (.inl a1) := rfl
  have g2 : zl_get (zl_args 0 [.inr (.inr (12, some a0)), .inl a1, .inl a2, .inl a3]) 2 = some (.inl a2) := rfl
  have g3 : zl_get (zl_args 0 [.inr (.inr (12, some a0)), .inl a1, .inl a2, .inl a3]) 3 = some (.inl a3) := rfl
  refine e_aldn cd_127_0 g0 ?_
  refine e_const cd_127_1 ci_0 ?_
  refine k_let hs (fun M1 e2 hs => ?_)
  refine e_putI cd_127_2 pd_127_114 rfl e2 ?_
  refine e_aldn cd_127_5 g0 ?_
  refine e_ildn cd_127_6 g1 ?_
  obtain ⟨q3, h4, hs⟩ := k_bind hs
  refine e_cvi cd_127_7 kd_127_357 rfl rfl rfl rfl rfl nl_34 rfl rfl (tie_mo_isRule d a0 a1 M1 _ h4) ?_
  refine k_if hs (fun c5 hs => ?_) (fun c5 hs => ?_)
  · refine e_izJ cd_127_10 rfl c5 ?_
    exact tie_mo_reletter_31  d   q3.2 so _  hs
  · refine e_izN cd_127_10 rfl c5 ?_
    refine e_ildn cd_127_13 g2 ?_
    refine e_pure cd_127_14 rfl ?_
    refine e_lcon cd_127_15 cl_0 ?_
    refine e_aldn cd_127_16 g0 ?_
    refine e_ildn cd_127_17 g1 ?_
    refine e_const cd_127_18 ci_2 ?_
    obtain ⟨q6, h7, hs⟩ := k_bind hs
    refine e_cvi cd_127_19 kd_127_258 rfl rfl rfl rfl rfl nl_35 rfl rfl (tie_mo_of d a0 a1 2 q3.2 _ h7) ?_
    refine e_const cd_127_22 ci_1 ?_
    refine e_pure cd_127_23 rfl ?_
    refine e_pure cd_127_24 rfl ?_
    obtain ⟨q8, h9, hs⟩ := k_bind hs
    refine e_cst cd_127_25 kd_127_204 rfl rfl rfl nl_2 rfl rfl (tie_mo_isIn d a2.toInt64 0 ((q6.1 - 1).toInt64) q6.2 _ h9) ?_
    refine k_if hs (fun c10 hs => ?_) (fun c10 hs => ?_)
    · refine e_izN cd_127_28 rfl (fun q => q c10) ?_
      exact tie_mo_reletter_31  d   q8.2 so _  hs
    · refine e_izJ cd_127_28 rfl c10 ?_
      refine e_ildn cd_127_33 g3 ?_
      refine e_pure cd_127_34 rfl ?_
      refine e_lcon cd_127_35 cl_0 ?_
      refine e_ld2 cd_127_36 od_127_565 ?_
      obtain ⟨q11, h12, hs⟩ := k_bind hs
      refine e_cst cd_127_39 kd_127_204 rfl rfl rfl nl_2 rfl rfl (tie_mo_isIn d a3.toInt64 0 25 q8.2 _ h12) ?_
      refine k_if hs (fun c13 hs => ?_) (fun c13 hs => ?_)
      · refine e_izN cd_127_42 rfl (fun q => q c13) ?_
        refine e_bip cd_127_45 cb_m2 ?_
        have e := Option.some.inj hs
        subst e
        exact e_ri cd_127_47 nr_127
      · refine e_izJ cd_127_42 rfl c13 ?_
        refine e_aldn cd_127_48 g0 ?_
        refine e_ildn cd_127_49 g1 ?_
        refine e_ildn cd_127_50 g2 ?_
        obtain ⟨q14, h15, hs⟩ := k_bind hs
        refine e_cvi cd_127_51 kd_127_289 rfl rfl rfl rfl rfl nl_39 rfl rfl (tie_mo_letterOf d a0 a1 a2 q11.2 _ h15) ?_
        refine e_ildn cd_127_54 g3 ?_
        refine k_if hs (fun c16 hs => ?_) (fun c16 hs => ?_)
        · refine e_icN cd_127_55 rfl (fun q => q c16) ?_
          refine e_bip cd_127_58 cb_m3 ?_
          have e := Option.some.inj hs
          subst e
          exact e_ri cd_127_60 nr_127
        · refine e_icJ cd_127_55 rfl c16 ?_
          refine e_aldn cd_127_61 g0 ?_
          refine e_getR cd_127_62 fd_127_32 rfl ?_
          refine e_const cd_127_65 ci_2 ?_
          refine e_bip cd_127_66 cb_16 ?_
          refine e_ildn cd_127_68 g1 ?_
          refine e_pure cd_127_69 rfl ?_
          refine e_ildn cd_127_70 g2 ?_
          refine e_pure cd_127_71 rfl ?_
          refine e_pure cd_127_72 rfl ?_
          refine e_ildn cd_127_73 g3 ?_
          refine k_opt hs (fun _ q => nomatch q) (fun k17 h18 hs => ?_)
          obtain ⟨c19, hs⟩ := z_ite hs
          refine k_let hs (fun M20 e21 hs => ?_)
          refine e_iast cd_127_74 rfl h18 c19 e21 ?_
          refine e_aldn cd_127_75 g0 ?_
          refine e_ildn cd_127_76 g1 ?_
          obtain ⟨q22, h23, hs⟩ := k_bind hs
          refine e_cvi cd_127_77 kd_127_372 rfl rfl rfl rfl rfl nl_70 rfl rfl (tie_mo_isSure d a0 a1 M20 _ h23) ?_
          refine k_if hs (fun c24 hs => ?_) (fun c24 hs => ?_)
          · refine e_izJ cd_127_80 rfl c24 ?_
            refine e_const cd_127_87 ci_0 ?_
            exact tie_mo_reletter_88  d  0 q22.2 so _  hs
          · refine e_izN cd_127_80 rfl c24 ?_
            refine e_const cd_127_83 ci_1 ?_
            refine e_goto cd_127_84 rfl ?_
            exact tie_mo_reletter_88  d  1 q22.2 so _  hs
theorem tie_mo_reletter (d : Nat) (a0 : Nat) (a1 : Int32) (a2 : Int32) (a3 : Int32) (M : zM) (so : Int32 × zM) (hs : mo_reletter d a0 a1 a2 a3 M = some so) : Ev zq_T d 127 0 (zl_args 0 [.inr (.inr (12, some a0)), .inl a1, .inl a2, .inl a3]) [] M (some (.inl so.1), so.2) := by
  cases d with
  | zero => exact nomatch hs
  | succ d => exact tieb_mo_reletter d a0 a1 a2 a3 M so hs
theorem tie_mo_rulesThatAre_37 (kl4 : Nat → Int32 → Int32 → Int32 → zM → Option (Int32 × zM)) (d : Nat) (hk4 : ∀ (t0 : Nat) (v1 : Int32) (v2 : Int32) (v3 : Int32) (M : zM) (so : Int32 × zM) (ls : List (Nat × zV)), zl_get ls 0 = some (.inr (.inr (12, (some t0)))) → zl_get ls 1 = some (.inl v1) → zl_get ls 2 = some (.inl v2) → zl_get ls 3 = some (.inl v3) → kl4 t0 v1 v2 v3 M = some so → Ev zq_T (d + 1) 128 4 ls [] M (some (.inl so.1), so.2)) (t0 : Nat) (v1 : Int32) (v3 : Int32) (s0 : Int32) (s1 : Int32) (M : zM) (so : Int32 × zM) (ls : List (Nat × zV)) (g0 : zl_get ls 0 = some (.inr (.inr (12, (some t0))))) (g1 : zl_get ls 1 = some (.inl v1)) (g3 : zl_get ls 3 = some (.inl v3)) (hs : mo_rulesThatAre_37 kl4 d t0 v1 v3 s0 s1 M = some so) : Ev zq_T (d + 1) 128 37 ls [.inl s1, .inl s0] M (some (.inl so.1), so.2) := by
  unfold mo_rulesThatAre_37 at hs
  refine e_pure cd_128_37 rfl ?_
  refine k_let hs (fun x1 e2 hs => ?_)
  refine e_iKn cd_128_38 nl_128 rfl e2 ?_
  intro _ gn kp
  have u3 := kp 0 _ g0 rfl rfl
  have u4 := kp 1 _ g1 rfl rfl
  have u5 := kp 3 _ g3 rfl rfl
  have u6 := gn
  refine k_let hs (fun x7 e8 hs => ?_)
  refine e_incK cd_128_39 nl_128 rfl u5 ci_1 e8 ?_
  intro _ gn kp
  have u9 := kp 0 _ u3 rfl rfl
  have u10 := kp 1 _ u4 rfl rfl
  have u11 := kp 2 _ u6 rfl rfl
  have u12 := gn
  refine e_goto cd_128_42 rfl ?_
  exact hk4 t0 v1 x1 x7 M so _ u9 u10 u11 u12 hs
theorem tie_mo_rulesThatAre_24 (kl4 : Nat → Int32 → Int32 → Int32 → zM → Option (Int32 × zM)) (d : Nat) (hk4 : ∀ (t0 : Nat) (v1 : Int32) (v2 : Int32) (v3 : Int32) (M : zM) (so : Int32 × zM) (ls : List (Nat × zV)), zl_get ls 0 = some (.inr (.inr (12, (some t0)))) → zl_get ls 1 = some (.inl v1) → zl_get ls 2 = some (.inl v2) → zl_get ls 3 = some (.inl v3) → kl4 t0 v1 v2 v3 M = some so → Ev zq_T (d + 1) 128 4 ls [] M (some (.inl so.1), so.2)) (t0 : Nat) (v1 : Int32) (v3 : Int32) (s0 : Int32) (s1 : Option Nat) (s2 : Int32) (s3 : Int32) (M : zM) (so : Int32 × zM) (ls : List (Nat × zV)) (g0 : zl_get ls 0 = some (.inr (.inr (12, (some t0))))) (g1 : zl_get ls 1 = some (.inl v1)) (g3 : zl_get ls 3 = some (.inl v3)) (hs : mo_rulesThatAre_24 kl4 d t0 v1 v3 s0 s1 s2 s3 M = some so) : Ev zq_T (d + 1) 128 24 ls [.inl s3, .inl s2, .inr (.inr (12, s1)), .inl s0] M (some (.inl so.1), so.2) := by
  unfold mo_rulesThatAre_24 at hs
  refine k_opt hs (fun _ q => nomatch q) (fun k1 h2 hs => ?_)
  obtain ⟨q3, h4, hs⟩ := k_bind hs
  refine e_cvi cd_128_24 kd_128_347 rfl rfl rfl h2 rfl nl_69 rfl rfl (tie_mo_conflicts d k1 s2 s3 M _ h4) ?_
  refine k_if hs (fun c5 hs => ?_) (fun c5 hs => ?_)
  · refine e_izN cd_128_27 rfl (fun q => q c5) ?_
    refine e_const cd_128_30 ci_1 ?_
    refine e_ildn cd_128_31 g3 ?_
    refine e_pure cd_128_32 rfl ?_
    refine e_goto cd_128_33 rfl ?_
    exact tie_mo_rulesThatAre_37 kl4 d hk4 t0 v1 v3 s0 (1 <<< (v3 &&& 31)) q3.2 so _ g0 g1 g3 hs
  · refine e_izJ cd_128_27 rfl c5 ?_
    refine e_const cd_128_36 ci_0 ?_
    exact tie_mo_rulesThatAre_37 kl4 d hk4 t0 v1 v3 s0 0 q3.2 so _ g0 g1 g3 hs
theorem tie_mo_rulesThatAre_4  (d : Nat)  : ∀ (fuel : Nat) (t0 : Nat) (v1 : Int32) (v2 : Int32) (v3 : Int32) (M : zM) (so : Int32 × zM) (ls : List (Nat × zV)), zl_get ls 0 = some (.inr (.inr (12, (some t0)))) → zl_get ls 1 = some (.inl v1) → zl_get ls 2 = some (.inl v2) → zl_get ls 3 = some (.inl v3) → mo_rulesThatAre_4  d fuel t0 v1 v2 v3 M = some so → Ev zq_T (d + 1) 128 4 ls [] M (some (.inl so.1), so.2) := by
  intro fuel
  induction fuel with
  | zero => intro t0 v1 v2 v3 M so ls g0 g1 g2 g3 hs; exact nomatch hs
  | succ fuel ih =>
    intro t0 v1 v2 v3 M so ls g0 g1 g2 g3 hs
    unfold mo_rulesThatAre_4 at hs
    refine e_ildn cd_128_4 g3 ?_
    refine e_aldn cd_128_5 g0 ?_
    refine e_getI cd_128_6 (Or.inl fd_128_230) rfl ?_
    refine k_if hs (fun c1 hs => ?_) (fun c1 hs => ?_)
    · refine e_icJ cd_128_9 rfl c1 ?_
      refine e_ildn cd_128_45 g2 ?_
      have e := Option.some.inj hs
      subst e
      exact e_ri cd_128_46 nr_128
    · refine e_icN cd_128_9 rfl c1 ?_
      refine e_ildn cd_128_12 g2 ?_
      refine e_aldn cd_128_13 g0 ?_
      refine e_ildn cd_128_14 g3 ?_
      refine e_ildn cd_128_15 g1 ?_
      refine k_if hs (fun c2 hs => ?_) (fun c2 hs => ?_)
      · refine e_izN cd_128_16 rfl (fun q => q c2) ?_
        refine e_const cd_128_19 ci_1 ?_
        refine e_goto cd_128_20 rfl ?_
        exact tie_mo_rulesThatAre_24 (fun p0 p1 p2 p3 m => mo_rulesThatAre_4  d fuel p0 p1 p2 p3 m) d ih t0 v1 v3 v2 (some t0) v3 1 M so _ g0 g1 g3 hs
      · refine e_izJ cd_128_16 rfl c2 ?_
        refine e_const cd_128_23 ci_0 ?_
        exact tie_mo_rulesThatAre_24 (fun p0 p1 p2 p3 m => mo_rulesThatAre_4  d fuel p0 p1 p2 p3 m) d ih t0 v1 v3 v2 (some t0) v3 0 M so _ g0 g1 g3 hs
theorem tieb_mo_rulesThatAre  (d : Nat)  (a0 : Nat) (a1 : Int32) (M : zM) (so : Int32 × zM) (hs : mo_rulesThatAre_b  d a0 a1 M = some so) : Ev zq_T (d + 1) 128 0 (zl_args 0 [.inr (.inr (12, some a0)), .inl a1]) [] M (some (.inl so.1), so.2) := by
  unfold mo_rulesThatAre_b at hs
  have g0 : zl_get (zl_args 0 [.inr (.inr (12, some a0)), .inl a1]) 0 = some (.inr (.inr (12, (some a0)))) := rfl
  have g1 : zl_get (zl_args 0 [.inr (.inr (12, some a0)), .inl a1]) 1 = some (.inl a1) := rfl
  refine e_const cd_128_0 ci_0 ?_
  refine e_iKn cd_128_1 nl_128 rfl rfl ?_
  intro _ gn kp
  have u1 := kp 0 _ g0 rfl rfl
  have u2 := kp 1 _ g1 rfl rfl
  have u3 := gn
  refine e_const cd_128_2 ci_0 ?_
  refine e_iKn cd_128_3 nl_128 rfl rfl ?_
  intro _ gn kp
  have u4 := kp 0 _ u1 rfl rfl
  have u5 := kp 1 _ u2 rfl rfl
  have u6 := kp 2 _ u3 rfl rfl
  have u7 := gn
  exact tie_mo_rulesThatAre_4  d  zLF a0 a1 0 0 M so _ u4 u5 u6 u7 hs
theorem tie_mo_rulesThatAre (d : Nat) (a0 : Nat) (a1 : Int32) (M : zM) (so : Int32 × zM) (hs : mo_rulesThatAre d a0 a1 M = some so) : Ev zq_T d 128 0 (zl_args 0 [.inr (.inr (12, some a0)), .inl a1]) [] M (some (.inl so.1), so.2) := by
  cases d with
  | zero => exact nomatch hs
  | succ d => exact tieb_mo_rulesThatAre d a0 a1 M so hs
theorem tie_mo_fullest_51 (kl15 : Nat → Int32 → Int32 → zM → Option (Int32 × zM)) (d : Nat) (hk15 : ∀ (t0 : Nat) (v1 : Int32) (v2 : Int32) (M : zM) (so : Int32 × zM) (ls : List (Nat × zV)), zl_get ls 0 = some (.inr (.inr (12, (some t0)))) → zl_get ls 1 = some (.inl v1) → zl_get ls 2 = some (.inl v2) → kl15 t0 v1 v2 M = some so → Ev zq_T d 129 15 ls [] M (some (.inl so.1), so.2)) (t0 : Nat) (v2 : Int32) (s0 : Int32) (M : zM) (so : Int32 × zM) (ls : List (Nat × zV)) (g0 : zl_get ls 0 = some (.inr (.inr (12, (some t0))))) (g2 : zl_get ls 2 = some (.inl v2)) (hs : mo_fullest_51 kl15 d t0 v2 s0 M = some so) : Ev zq_T d 129 51 ls [.inl s0] M (some (.inl so.1), so.2) := by
  unfold mo_fullest_51 at hs
  refine e_iKn cd_129_51 nl_129 rfl rfl ?_
  intro _ gn kp
  have u1 := kp 0 _ g0 rfl rfl
  have u2 := kp 2 _ g2 rfl rfl
  have u3 := gn
  refine k_let hs (fun x4 e5 hs => ?_)
  refine e_incK cd_129_52 nl_129 rfl u2 ci_1 e5 ?_
  intro _ gn kp
  have u6 := kp 0 _ u1 rfl rfl
  have u7 := kp 1 _ u3 rfl rfl
  have u8 := gn
  refine e_goto cd_129_55 rfl ?_
  exact hk15 t0 s0 x4 M so _ u6 u7 u8 hs
theorem tie_mo_fullest_15  (d : Nat)  : ∀ (fuel : Nat) (t0 : Nat) (v1 : Int32) (v2 : Int32) (M : zM) (so : Int32 × zM) (ls : List (Nat × zV)), zl_get ls 0 = some (.inr (.inr (12, (some t0)))) → zl_get ls 1 = some (.inl v1) → zl_get ls 2 = some (.inl v2) → mo_fullest_15  d fuel t0 v1 v2 M = some so → Ev zq_T d 129 15 ls [] M (some (.inl so.1), so.2) := by
  intro fuel
  induction fuel with
  | zero => intro t0 v1 v2 M so ls g0 g1 g2 hs; exact nomatch hs
  | succ fuel ih =>
    intro t0 v1 v2 M so ls g0 g1 g2 hs
    unfold mo_fullest_15 at hs
    refine e_ildn cd_129_15 g2 ?_
    refine e_aldn cd_129_16 g0 ?_
    refine e_getI cd_129_17 (Or.inl fd_129_237) rfl ?_
    refine k_if hs (fun c1 hs => ?_) (fun c1 hs => ?_)
    · refine e_icJ cd_129_20 rfl c1 ?_
      refine e_ildn cd_129_58 g1 ?_
      have e := Option.some.inj hs
      subst e
      exact e_ri cd_129_59 nr_129
    · refine e_icN cd_129_20 rfl c1 ?_
      refine e_aldn cd_129_23 g0 ?_
      refine e_getR cd_129_24 fd_129_44 rfl ?_
      refine e_const cd_129_27 ci_4 ?_
      refine e_ildn cd_129_28 g2 ?_
      refine e_pure cd_129_29 rfl ?_
      refine e_const cd_129_30 ci_2 ?_
      refine e_pure cd_129_31 rfl ?_
      refine k_opt hs (fun _ q => nomatch q) (fun k2 h3 hs => ?_)
      obtain ⟨c4, hs⟩ := z_ite hs
      refine e_iald cd_129_32 rfl h3 c4 ?_
      refine e_aldn cd_129_33 g0 ?_
      refine e_getR cd_129_34 fd_129_44 rfl ?_
      refine e_const cd_129_37 ci_4 ?_
      refine e_ildn cd_129_38 g1 ?_
      refine e_pure cd_129_39 rfl ?_
      refine e_const cd_129_40 ci_2 ?_
      refine e_pure cd_129_41 rfl ?_
      refine k_opt hs (fun _ q => nomatch q) (fun k5 h6 hs => ?_)
      obtain ⟨c7, hs⟩ := z_ite hs
      refine e_iald cd_129_42 rfl h6 c7 ?_
      refine k_if hs (fun c8 hs => ?_) (fun c8 hs => ?_)
      · refine e_icJ cd_129_43 rfl c8 ?_
        refine e_ildn cd_129_50 g1 ?_
        exact tie_mo_fullest_51 (fun p0 p1 p2 m => mo_fullest_15  d fuel p0 p1 p2 m) d ih t0 v2 v1 M so _ g0 g2 hs
      · refine e_icN cd_129_43 rfl c8 ?_
        refine e_ildn cd_129_46 g2 ?_
        refine e_goto cd_129_47 rfl ?_
        exact tie_mo_fullest_51 (fun p0 p1 p2 m => mo_fullest_15  d fuel p0 p1 p2 m) d ih t0 v2 v2 M so _ g0 g2 hs
theorem tie_mo_fullest_12  (d : Nat)  (t0 : Nat) (s0 : Int32) (M : zM) (so : Int32 × zM) (ls : List (Nat × zV)) (g0 : zl_get ls 0 = some (.inr (.inr (12, (some t0))))) (hs : mo_fullest_12  d t0 s0 M = some so) : Ev zq_T d 129 12 ls [.inl s0] M (some (.inl so.1), so.2) := by
  unfold mo_fullest_12 at hs
  refine e_iKn cd_129_12 nl_129 rfl rfl ?_
  intro _ gn kp
  have u1 := kp 0 _ g0 rfl rfl
  have u2 := gn
  refine e_const cd_129_13 ci_1 ?_
  refine e_iKn cd_129_14 nl_129 rfl rfl ?_
  intro _ gn kp
  have u3 := kp 0 _ u1 rfl rfl
  have u4 := kp 1 _ u2 rfl rfl
  have u5 := gn
  exact tie_mo_fullest_15  d  zLF t0 s0 1 M so _ u3 u4 u5 hs
theorem tie_mo_fullest (d : Nat) (a0 : Nat) (M : zM) (so : Int32 × zM) (hs : mo_fullest d a0 M = some so) : Ev zq_T d 129 0 (zl_args 0 [.inr (.inr (12, some a0))]) [] M (some (.inl so.1), so.2) := by
  unfold mo_fullest at hs
  have g0 : zl_get (zl_args 0 [.inr (.inr (12, some a0))]) 0 = some (.inr (.inr (12, (some a0)))) := rfl
  refine e_aldn cd_129_0 g0 ?_
  refine e_getI cd_129_1 (Or.inl fd_129_237) rfl ?_
  refine k_if hs (fun c1 hs => ?_) (fun c1 hs => ?_)
  · refine e_izN cd_129_4 rfl (fun q => q c1) ?_
    refine e_const cd_129_7 ci_m1 ?_
    refine e_goto cd_129_8 rfl ?_
    exact tie_mo_fullest_12  d  a0 (-1) M so _ g0 hs
  · refine e_izJ cd_129_4 rfl c1 ?_
    refine e_const cd_129_11 ci_0 ?_
    exact tie_mo_fullest_12  d  a0 0 M so _ g0 hs
theorem tie_mo_deepest_4  (d : Nat)  : ∀ (fuel : Nat) (t0 : Nat) (v1 : Int32) (v2 : Int32) (M : zM) (so : Int32 × zM) (ls : List (Nat × zV)), zl_get ls 0 = some (.inr (.inr (12, (some t0)))) → zl_get ls 1 = some (.inl v1) → zl_get ls 2 = some (.inl v2) → mo_deepest_4  d fuel t0 v1 v2 M = some so → Ev zq_T d 130 4 ls [] M (some (.inl so.1), so.2) := by
  intro fuel
  induction fuel with
  | zero => intro t0 v1 v2 M so ls g0 g1 g2 hs; exact nomatch hs
  | succ fuel ih =>
    intro t0 v1 v2 M so ls g0 g1 g2 hs
    unfold mo_deepest_4 at hs
    refine e_ildn cd_130_4 g2 ?_
    refine e_aldn cd_130_5 g0 ?_
    refine e_getI cd_130_6 (Or.inl fd_130_237) rfl ?_
    refine k_if hs (fun c1 hs => ?_) (fun c1 hs => ?_)
    · refine e_icJ cd_130_9 rfl c1 ?_
      refine e_ildn cd_130_35 g1 ?_
      have e := Option.some.inj hs
      subst e
      exact e_ri cd_130_36 nr_130
    · refine e_icN cd_130_9 rfl c1 ?_
      refine e_ildn cd_130_12 g1 ?_
      refine e_aldn cd_130_13 g0 ?_
      refine e_getR cd_130_14 fd_130_44 rfl ?_
      refine e_const cd_130_17 ci_4 ?_
      refine e_ildn cd_130_18 g2 ?_
      refine e_pure cd_130_19 rfl ?_
      refine e_const cd_130_20 ci_3 ?_
      refine e_pure cd_130_21 rfl ?_
      refine k_opt hs (fun _ q => nomatch q) (fun k2 h3 hs => ?_)
      obtain ⟨c4, hs⟩ := z_ite hs
      refine e_iald cd_130_22 rfl h3 c4 ?_
      refine e_const cd_130_23 ci_1 ?_
      refine e_pure cd_130_24 rfl ?_
      refine e_max cd_130_25 kd_130_144 rfl ?_
      refine k_let hs (fun x5 e6 hs => ?_)
      refine e_iKn cd_130_28 nl_130 rfl e6 ?_
      intro _ gn kp
      have u7 := kp 0 _ g0 rfl rfl
      have u8 := kp 2 _ g2 rfl rfl
      have u9 := gn
      refine k_let hs (fun x10 e11 hs => ?_)
      refine e_incK cd_130_29 nl_130 rfl u8 ci_1 e11 ?_
      intro _ gn kp
      have u12 := kp 0 _ u7 rfl rfl
      have u13 := kp 1 _ u9 rfl rfl
      have u14 := gn
      refine e_goto cd_130_32 rfl ?_
      exact ih t0 x5 x10 M so _ u12 u13 u14 hs
theorem tie_mo_deepest (d : Nat) (a0 : Nat) (M : zM) (so : Int32 × zM) (hs : mo_deepest d a0 M = some so) : Ev zq_T d 130 0 (zl_args 0 [.inr (.inr (12, some a0))]) [] M (some (.inl so.1), so.2) := by
  unfold mo_deepest at hs
  have g0 : zl_get (zl_args 0 [.inr (.inr (12, some a0))]) 0 = some (.inr (.inr (12, (some a0)))) := rfl
  refine e_const cd_130_0 ci_0 ?_
  refine e_iKn cd_130_1 nl_130 rfl rfl ?_
  intro _ gn kp
  have u1 := kp 0 _ g0 rfl rfl
  have u2 := gn
  refine e_const cd_130_2 ci_0 ?_
  refine e_iKn cd_130_3 nl_130 rfl rfl ?_
  intro _ gn kp
  have u3 := kp 0 _ u1 rfl rfl
  have u4 := kp 1 _ u2 rfl rfl
  have u5 := gn
  exact tie_mo_deepest_4  d  zLF a0 0 0 M so _ u3 u4 u5 hs
theorem tieb_mo_count  (d : Nat)  (a0 : Nat) (a1 : Int32) (M : zM) (so : Int32 × zM) (hs : mo_count_b  d a0 a1 M = some so) : Ev zq_T (d + 1) 131 0 (zl_args 0 [.inr (.inr (12, some a0)), .inl a1]) [] M (some (.inl so.1), so.2) := by
  unfold mo_count_b at hs
  have g0 : zl_get (zl_args 0 [.inr (.inr (12, some a0)), .inl a1]) 0 = some (.inr (.inr (12, (some a0)))) := rfl
  have g1 : zl_get (zl_args 0 [.inr (.inr (12, some a0)), .inl a1]) 1 = some (.inl a1) := rfl
  refine e_aldn cd_131_0 g0 ?_
  refine e_const cd_131_1 ci_0 ?_
  refine k_let hs (fun M1 e2 hs => ?_)
  refine e_putI cd_131_2 pd_131_114 rfl e2 ?_
  refine e_ildn cd_131_5 g1 ?_
  refine k_if hs (fun c3 hs => ?_) (fun c3 hs => ?_)
  · refine e_tab cd_131_6 (by decide) (fun f => (e_tb1 c3 rfl f)) ?_
    refine e_aldn cd_131_52 g0 ?_
    refine e_getI cd_131_53 (Or.inl fd_131_117) rfl ?_
    have e := Option.some.inj hs
    subst e
    exact e_ri cd_131_56 nr_131
  · refine k_if hs (fun c4 hs => ?_) (fun c4 hs => ?_)
    · refine e_tab cd_131_6 (by decide) (fun f => (e_tb0 c3 f (e_tb1 c4 rfl f))) ?_
      refine e_aldn cd_131_57 g0 ?_
      refine e_getI cd_131_58 (Or.inl fd_131_230) rfl ?_
      have e := Option.some.inj hs
      subst e
      exact e_ri cd_131_61 nr_131
    · refine k_if hs (fun c5 hs => ?_) (fun c5 hs => ?_)
      · refine e_tab cd_131_6 (by decide) (fun f => (e_tb0 c3 f (e_tb0 c4 f (e_tb1 c5 rfl f)))) ?_
        refine e_aldn cd_131_62 g0 ?_
        refine e_getI cd_131_63 (Or.inl fd_131_237) rfl ?_
        have e := Option.some.inj hs
        subst e
        exact e_ri cd_131_66 nr_131
      · refine k_if hs (fun c6 hs => ?_) (fun c6 hs => ?_)
        · refine e_tab cd_131_6 (by decide) (fun f => (e_tb0 c3 f (e_tb0 c4 f (e_tb0 c5 f (e_tb1 c6 rfl f))))) ?_
          refine e_aldn cd_131_67 g0 ?_
          obtain ⟨q11, h12, hs⟩ := k_bind hs
          refine e_cvi cd_131_68 kd_131_526 rfl rfl rfl rfl rfl nl_118 rfl rfl (tie_mo_wrongs d a0 M1 _ h12) ?_
          have e := Option.some.inj hs
          subst e
          exact e_ri cd_131_71 nr_131
        · refine k_if hs (fun c7 hs => ?_) (fun c7 hs => ?_)
          · refine e_tab cd_131_6 (by decide) (fun f => (e_tb0 c3 f (e_tb0 c4 f (e_tb0 c5 f (e_tb0 c6 f (e_tb1 c7 rfl f)))))) ?_
            refine e_aldn cd_131_72 g0 ?_
            refine e_const cd_131_73 ci_0 ?_
            obtain ⟨q13, h14, hs⟩ := k_bind hs
            refine e_cvi cd_131_74 kd_131_567 rfl rfl rfl rfl rfl nl_128 rfl rfl (tie_mo_rulesThatAre d a0 0 M1 _ h14) ?_
            have e := Option.some.inj hs
            subst e
            exact e_ri cd_131_77 nr_131
          · refine k_if hs (fun c8 hs => ?_) (fun c8 hs => ?_)
            · refine e_tab cd_131_6 (by decide) (fun f => (e_tb0 c3 f (e_tb0 c4 f (e_tb0 c5 f (e_tb0 c6 f (e_tb0 c7 f (e_tb1 c8 rfl f))))))) ?_
              refine e_aldn cd_131_78 g0 ?_
              refine e_const cd_131_79 ci_1 ?_
              obtain ⟨q15, h16, hs⟩ := k_bind hs
              refine e_cvi cd_131_80 kd_131_567 rfl rfl rfl rfl rfl nl_128 rfl rfl (tie_mo_rulesThatAre d a0 1 M1 _ h16) ?_
              have e := Option.some.inj hs
              subst e
              exact e_ri cd_131_83 nr_131
            · refine k_if hs (fun c9 hs => ?_) (fun c9 hs => ?_)
              · refine e_tab cd_131_6 (by decide) (fun f => (e_tb0 c3 f (e_tb0 c4 f (e_tb0 c5 f (e_tb0 c6 f (e_tb0 c7 f (e_tb0 c8 f (e_tb1 c9 rfl f)))))))) ?_
                refine e_aldn cd_131_84 g0 ?_
                obtain ⟨q17, h18, hs⟩ := k_bind hs
                refine e_cvi cd_131_85 kd_131_571 rfl rfl rfl rfl rfl nl_129 rfl rfl (tie_mo_fullest d a0 M1 _ h18) ?_
                have e := Option.some.inj hs
                subst e
                exact e_ri cd_131_88 nr_131
              · refine k_if hs (fun c10 hs => ?_) (fun c10 hs => ?_)
                · refine e_tab cd_131_6 (by decide) (fun f => (e_tb0 c3 f (e_tb0 c4 f (e_tb0 c5 f (e_tb0 c6 f (e_tb0 c7 f (e_tb0 c8 f (e_tb0 c9 f (e_tb1 c10 rfl f))))))))) ?_
                  refine e_aldn cd_131_89 g0 ?_
                  obtain ⟨q19, h20, hs⟩ := k_bind hs
                  refine e_cvi cd_131_90 kd_131_574 rfl rfl rfl rfl rfl nl_130 rfl rfl (tie_mo_deepest d a0 M1 _ h20) ?_
                  have e := Option.some.inj hs
                  subst e
                  exact e_ri cd_131_93 nr_131
                · refine e_tab cd_131_6 (by decide) (fun f => (e_tb0 c3 f (e_tb0 c4 f (e_tb0 c5 f (e_tb0 c6 f (e_tb0 c7 f (e_tb0 c8 f (e_tb0 c9 f (e_tb0 c10 f (e_tbd rfl f)))))))))) ?_
                  refine e_const cd_131_94 ci_m1 ?_
                  have e := Option.some.inj hs
                  subst e
                  exact e_ri cd_131_95 nr_131
theorem tie_mo_count (d : Nat) (a0 : Nat) (a1 : Int32) (M : zM) (so : Int32 × zM) (hs : mo_count d a0 a1 M = some so) : Ev zq_T d 131 0 (zl_args 0 [.inr (.inr (12, some a0)), .inl a1]) [] M (some (.inl so.1), so.2) := by
  cases d with
  | zero => exact nomatch hs
  | succ d => exact tieb_mo_count d a0 a1 M so hs
theorem tie_di_init (d : Nat) (a0 : Nat) (M : zM) (so : zM) (hs : di_init d a0 M = some so) : Ev zq_T d 132 0 (zl_args 0 [.inr (.inr (0, some a0))]) [] M (none, so) := by
  unfold di_init at hs
  have g0 : zl_get (zl_args 0 [.inr (.inr (0, some a0))]) 0 = some (.inr (.inr (0, (some a0)))) := rfl
  refine e_aldn cd_132_0 g0 ?_
  refine e_obj cd_132_1 kd_132_3 rfl rfl ?_
  refine e_aldn cd_132_4 g0 ?_
  refine e_const cd_132_5 ci_m1 ?_
  refine k_let hs (fun M1 e2 hs => ?_)
  refine e_putI cd_132_6 pd_132_9 rfl e2 ?_
  refine e_aldn cd_132_9 g0 ?_
  refine e_const cd_132_10 ci_4 ?_
  refine k_let hs (fun M4 e5 hs => ?_)
  refine e_newa_int cd_132_11 rfl (by decide) e5 ?_
  refine k_let hs (fun M6 e7 hs => ?_)
  refine e_putR cd_132_13 pd_132_15 rfl e7 ?_
  refine e_aldn cd_132_16 g0 ?_
  refine e_const cd_132_17 ci_m1 ?_
  refine k_let hs (fun M8 e9 hs => ?_)
  refine e_putI cd_132_18 pd_132_19 rfl e9 ?_
  refine e_aldn cd_132_21 g0 ?_
  refine e_const cd_132_22 ci_m1 ?_
  refine k_let hs (fun M10 e11 hs => ?_)
  refine e_putI cd_132_23 pd_132_22 rfl e11 ?_
  refine e_aldn cd_132_26 g0 ?_
  refine e_sip cd_132_27 cs_8738 ?_
  refine k_let hs (fun M13 e14 hs => ?_)
  refine e_newa_int cd_132_30 rfl (by decide) e14 ?_
  refine k_let hs (fun M15 e16 hs => ?_)
  refine e_putR cd_132_32 pd_132_25 rfl e16 ?_
  refine e_aldn cd_132_35 g0 ?_
  refine e_sip cd_132_36 cs_8738 ?_
  refine k_let hs (fun M18 e19 hs => ?_)
  refine e_newa_int cd_132_39 rfl (by decide) e19 ?_
  refine k_let hs (fun M20 e21 hs => ?_)
  refine e_putR cd_132_41 pd_132_28 rfl e21 ?_
  refine e_aldn cd_132_44 g0 ?_
  refine e_sip cd_132_45 cs_8738 ?_
  refine k_let hs (fun M23 e24 hs => ?_)
  refine e_newa_int cd_132_48 rfl (by decide) e24 ?_
  refine k_let hs (fun M25 e26 hs => ?_)
  refine e_putR cd_132_50 pd_132_31 rfl e26 ?_
  refine e_aldn cd_132_53 g0 ?_
  refine e_sip cd_132_54 cs_8738 ?_
  refine k_let hs (fun M28 e29 hs => ?_)
  refine e_newa_int cd_132_57 rfl (by decide) e29 ?_
  refine k_let hs (fun M30 e31 hs => ?_)
  refine e_putR cd_132_59 pd_132_34 rfl e31 ?_
  refine e_aldn cd_132_62 g0 ?_
  refine e_sip cd_132_63 cs_2048 ?_
  refine k_let hs (fun M33 e34 hs => ?_)
  refine e_newa_int cd_132_66 rfl (by decide) e34 ?_
  refine k_let hs (fun M35 e36 hs => ?_)
  refine e_putR cd_132_68 pd_132_37 rfl e36 ?_
  have e := Option.some.inj hs
  subst e
  exact e_rv cd_132_71 nr_132
theorem tie_di_forget (d : Nat) (a0 : Nat) (M : zM) (so : zM) (hs : di_forget d a0 M = some so) : Ev zq_T d 133 0 (zl_args 0 [.inr (.inr (0, some a0))]) [] M (none, so) := by
  unfold di_forget at hs
  have g0 : zl_get (zl_args 0 [.inr (.inr (0, some a0))]) 0 = some (.inr (.inr (0, (some a0)))) := rfl
  refine e_aldn cd_133_0 g0 ?_
  refine e_const cd_133_1 ci_m1 ?_
  refine k_let hs (fun M1 e2 hs => ?_)
  refine e_putI cd_133_2 pd_133_19 rfl e2 ?_
  refine e_aldn cd_133_5 g0 ?_
  refine e_const cd_133_6 ci_m1 ?_
  refine k_let hs (fun M3 e4 hs => ?_)
  refine e_putI cd_133_7 pd_133_22 rfl e4 ?_
  have e := Option.some.inj hs
  subst e
  exact e_rv cd_133_10 nr_133
theorem tie_di_isOf_21  (d : Nat)  (s0 : Int32) (M : zM) (so : Int32 × zM) (ls : List (Nat × zV))  (hs : di_isOf_21  d s0 M = some so) : Ev zq_T d 134 21 ls [.inl s0] M (some (.inl so.1), so.2) := by
  unfold di_isOf_21 at hs
  obtain ⟨c1, hs⟩ := z_ite hs
  have e := Option.some.inj hs
  subst e
  exact e_rz cd_134_21 nr_134 c1
theorem tie_di_isOf_20  (d : Nat)   (M : zM) (so : Int32 × zM) (ls : List (Nat × zV))  (hs : di_isOf_20  d  M = some so) : Ev zq_T d 134 20 ls [] M (some (.inl so.1), so.2) := by
  unfold di_isOf_20 at hs
  refine e_const cd_134_20 ci_0 ?_
  exact tie_di_isOf_21  d  0 M so _  hs
theorem tie_di_isOf (d : Nat) (a0 : Nat) (a1 : Int32) (a2 : Int32) (M : zM) (so : Int32 × zM) (hs : di_isOf d a0 a1 a2 M = some so) : Ev zq_T d 134 0 (zl_args 0 [.inr (.inr (0, some a0)), .inl a1, .inl a2]) [] M (some (.inl so.1), so.2) := by
  unfold di_isOf at hs
  have g0 : zl_get (zl_args 0 [.inr (.inr (0, some a0)), .inl a1, .inl a2]) 0 = some (.inr (.inr (0, (some a0)))) := rfl
  have g1 : zl_get (zl_args 0 [.inr (.inr (0, some a0)), .inl a1, .inl a2]) 1 = some (.inl a1) := rfl
  have g2 : zl_get (zl_args 0 [.inr (.inr (0, some a0)), .inl a1, .inl a2]) 2 = some (.inl a2) := rfl
  refine e_aldn cd_134_0 g0 ?_
  refine e_getI cd_134_1 (Or.inl fd_134_19) rfl ?_
  refine e_ildn cd_134_4 g1 ?_
  refine k_if hs (fun c1 hs => ?_) (fun c1 hs => ?_)
  · refine e_icN cd_134_5 rfl (fun q => q c1) ?_
    refine e_aldn cd_134_8 g0 ?_
    refine e_getI cd_134_9 (Or.inl fd_134_22) rfl ?_
    refine e_ildn cd_134_12 g2 ?_
    refine k_if hs (fun c2 hs => ?_) (fun c2 hs => ?_)
    · refine e_icN cd_134_13 rfl (fun q => q c2) ?_
      refine e_const cd_134_16 ci_1 ?_
      refine e_goto cd_134_17 rfl ?_
      exact tie_di_isOf_21  d  1 M so _  hs
    · refine e_icJ cd_134_13 rfl c2 ?_
      exact tie_di_isOf_20  d   M so _  hs
  · refine e_icJ cd_134_5 rfl c1 ?_
    exact tie_di_isOf_20  d   M so _  hs
theorem tie_di_keep (d : Nat) (a0 : Nat) (a1 : Int32) (a2 : Int32) (M : zM) (so : zM) (hs : di_keep d a0 a1 a2 M = some so) : Ev zq_T d 135 0 (zl_args 0 [.inr (.inr (0, some a0)), .inl a1, .inl a2]) [] M (none, so) := by
  unfold di_keep at hs
  have g0 : zl_get (zl_args 0 [.inr (.inr (0, some a0)), .inl a1, .inl a2]) 0 = some (.inr (.inr (0, (some a0)))) := rfl
  have g1 : zl_get (zl_args 0 [.inr (.inr (0, some a0)), .inl a1, .inl a2]) 1 = some (.inl a1) := rfl
  have g2 : zl_get (zl_args 0 [.inr (.inr (0, some a0)), .inl a1, .inl a2]) 2 = some (.inl a2) := rfl
  refine e_aldn cd_135_0 g0 ?_
  refine e_ildn cd_135_1 g1 ?_
  refine k_let hs (fun M1 e2 hs => ?_)
  refine e_putI cd_135_2 pd_135_19 rfl e2 ?_
  refine e_aldn cd_135_5 g0 ?_
  refine e_ildn cd_135_6 g2 ?_
  refine k_let hs (fun M3 e4 hs => ?_)
  refine e_putI cd_135_7 pd_135_22 rfl e4 ?_
  have e := Option.some.inj hs
  subst e
  exact e_rv cd_135_10 nr_135
theorem tie_ru_occurrencesOf_28 (kl4 : Nat → Int32 → Int32 → Int32 → zM → Option (Int32 × zM)) (d : Nat) (hk4 : ∀ (t0 : Nat) (v1 : Int32) (v2 : Int32) (v3 : Int32) (M : zM) (so : Int32 × zM) (ls : List (Nat × zV)), zl_get ls 0 = some (.inr (.inr (5, (some t0)))) → zl_get ls 1 = some (.inl v1) → zl_get ls 2 = some (.inl v2) → zl_get ls 3 = some (.inl v3) → kl4 t0 v1 v2 v3 M = some so → Ev zq_T d 196 4 ls [] M (some (.inl so.1), so.2)) (t0 : Nat) (v1 : Int32) (v2 : Int32) (v3 : Int32) (M : zM) (so : Int32 × zM) (ls : List (Nat × zV)) (g0 : zl_get ls 0 = some (.inr (.inr (5, (some t0))))) (g1 : zl_get ls 1 = some (.inl v1)) (g2 : zl_get ls 2 = some (.inl v2)) (g3 : zl_get ls 3 = some (.inl v3)) (hs : ru_occurrencesOf_28 kl4 d t0 v1 v2 v3 M = some so) : Ev zq_T d 196 28 ls [] M (some (.inl so.1), so.2) := by
  unfold ru_occurrencesOf_28 at hs
  refine k_let hs (fun x1 e2 hs => ?_)
  refine e_incK cd_196_28 nl_196 rfl g3 ci_1 e2 ?_
  intro _ gn kp
  have u3 := kp 0 _ g0 rfl rfl
  have u4 := kp 1 _ g1 rfl rfl
  have u5 := kp 2 _ g2 rfl rfl
  have u6 := gn
  refine e_goto cd_196_31 rfl ?_
  exact hk4 t0 v1 v2 x1 M so _ u3 u4 u5 u6 hs
theorem tie_ru_occurrencesOf_4  (d : Nat)  : ∀ (fuel : Nat) (t0 : Nat) (v1 : Int32) (v2 : Int32) (v3 : Int32) (M : zM) (so : Int32 × zM) (ls : List (Nat × zV)), zl_get ls 0 = some (.inr (.inr (5, (some t0)))) → zl_get ls 1 = some (.inl v1) → zl_get ls 2 = some (.inl v2) → zl_get ls 3 = some (.inl v3) → ru_occurrencesOf_4  d fuel t0 v1 v2 v3 M = some so → Ev zq_T d 196 4 ls [] M (some (.inl so.1), so.2) := by
  intro fuel
  induction fuel with
  | zero => intro t0 v1 v2 v3 M so ls g0 g1 g2 g3 hs; exact nomatch hs
  | succ fuel ih =>
    intro t0 v1 v2 v3 M so ls g0 g1 g2 g3 hs
    unfold ru_occurrencesOf_4 at hs
    refine e_ildn cd_196_4 g3 ?_
    refine e_aldn cd_196_5 g0 ?_
    refine e_getI cd_196_6 (Or.inl fd_196_50) rfl ?_
    refine k_if hs (fun c1 hs => ?_) (fun c1 hs => ?_)
    · refine e_icJ cd_196_9 rfl c1 ?_
      refine e_ildn cd_196_34 g2 ?_
      have e := Option.some.inj hs
      subst e
      exact e_ri cd_196_35 nr_196
    · refine e_icN cd_196_9 rfl c1 ?_
      refine e_aldn cd_196_12 g0 ?_
      refine e_getR cd_196_13 fd_196_15 rfl ?_
      refine e_ildn cd_196_16 g3 ?_
      refine k_opt hs (fun _ q => nomatch q) (fun k2 h3 hs => ?_)
      obtain ⟨c4, hs⟩ := z_ite hs
      refine e_iald cd_196_17 rfl h3 c4 ?_
      refine e_ildn cd_196_18 g1 ?_
      refine k_if hs (fun c5 hs => ?_) (fun c5 hs => ?_)
      · refine e_icN cd_196_19 rfl (fun q => q c5) ?_
        refine e_ildn cd_196_22 g2 ?_
        refine e_const cd_196_23 ci_1 ?_
        refine e_ildn cd_196_24 g3 ?_
        refine e_pure cd_196_25 rfl ?_
        refine e_pure cd_196_26 rfl ?_
        refine k_let hs (fun x6 e7 hs => ?_)
        refine e_iKn cd_196_27 nl_196 rfl e7 ?_
        intro _ gn kp
        have u8 := kp 0 _ g0 rfl rfl
        have u9 := kp 1 _ g1 rfl rfl
        have u10 := kp 3 _ g3 rfl rfl
        have u11 := gn
        exact tie_ru_occurrencesOf_28 (fun p0 p1 p2 p3 m => ru_occurrencesOf_4  d fuel p0 p1 p2 p3 m) d ih t0 v1 x6 v3 M so _ u8 u9 u11 u10 hs
      · refine e_icJ cd_196_19 rfl c5 ?_
        exact tie_ru_occurrencesOf_28 (fun p0 p1 p2 p3 m => ru_occurrencesOf_4  d fuel p0 p1 p2 p3 m) d ih t0 v1 v2 v3 M so _ g0 g1 g2 g3 hs
theorem tie_ru_occurrencesOf (d : Nat) (a0 : Nat) (a1 : Int32) (M : zM) (so : Int32 × zM) (hs : ru_occurrencesOf d a0 a1 M = some so) : Ev zq_T d 196 0 (zl_args 0 [.inr (.inr (5, some a0)), .inl a1]) [] M (some (.inl so.1), so.2) := by
  unfold ru_occurrencesOf at hs
  have g0 : zl_get (zl_args 0 [.inr (.inr (5, some a0)), .inl a1]) 0 = some (.inr (.inr (5, (some a0)))) := rfl
  have g1 : zl_get (zl_args 0 [.inr (.inr (5, some a0)), .inl a1]) 1 = some (.inl a1) := rfl
  refine e_const cd_196_0 ci_0 ?_
  refine e_iKn cd_196_1 nl_196 rfl rfl ?_
  intro _ gn kp
  have u1 := kp 0 _ g0 rfl rfl
  have u2 := kp 1 _ g1 rfl rfl
  have u3 := gn
  refine e_const cd_196_2 ci_0 ?_
  refine e_iKn cd_196_3 nl_196 rfl rfl ?_
  intro _ gn kp
  have u4 := kp 0 _ u1 rfl rfl
  have u5 := kp 1 _ u2 rfl rfl
  have u6 := kp 2 _ u3 rfl rfl
  have u7 := gn
  exact tie_ru_occurrencesOf_4  d  zLF a0 a1 0 0 M so _ u4 u5 u6 u7 hs
theorem tie_wk_noteHit_12  (d : Nat)   (M : zM) (so : zM) (ls : List (Nat × zV))  (hs : wk_noteHit_12  d  M = some so) : Ev zq_T d 244 12 ls [] M (none, so) := by
  unfold wk_noteHit_12 at hs
  have e := Option.some.inj hs
  subst e
  exact e_rv cd_244_12 nr_244
theorem tie_wk_noteHit_42 (kl15 : Nat → Int32 → Option Nat → Int32 → zM → Option (zM)) (d : Nat) (hk15 : ∀ (t0 : Nat) (v1 : Int32) (v2 : Option Nat) (v3 : Int32) (M : zM) (so : zM) (ls : List (Nat × zV)), zl_get ls 0 = some (.inr (.inr (8, (some t0)))) → zl_get ls 1 = some (.inl v1) → zl_get ls 2 = some (.inr (.inr (3, v2))) → zl_get ls 3 = some (.inl v3) → kl15 t0 v1 v2 v3 M = some so → Ev zq_T d 244 15 ls [] M (none, so)) (t0 : Nat) (v1 : Int32) (v2 : Option Nat) (v3 : Int32) (M : zM) (so : zM) (ls : List (Nat × zV)) (g0 : zl_get ls 0 = some (.inr (.inr (8, (some t0))))) (g1 : zl_get ls 1 = some (.inl v1)) (g2 : zl_get ls 2 = some (.inr (.inr (3, v2)))) (g3 : zl_get ls 3 = some (.inl v3)) (hs : wk_noteHit_42 kl15 d t0 v1 v2 v3 M = some so) : Ev zq_T d 244 42 ls [] M (none, so) := by
  unfold wk_noteHit_42 at hs
  refine k_let hs (fun x1 e2 hs => ?_)
  refine e_incK cd_244_42 nl_244 rfl g3 ci_1 e2 ?_
  intro _ gn kp
  have u3 := kp 0 _ g0 rfl rfl
  have u4 := kp 1 _ g1 rfl rfl
  have u5 := kp 2 _ g2 rfl rfl
  have u6 := gn
  refine e_goto cd_244_45 rfl ?_
  exact hk15 t0 v1 v2 x1 M so _ u3 u4 u5 u6 hs
theorem tie_wk_noteHit_74  (d : Nat)  (s0 : Option Nat) (s1 : Int32) (M : zM) (so : zM) (ls : List (Nat × zV))  (hs : wk_noteHit_74  d s0 s1 M = some so) : Ev zq_T d 244 74 ls [.inl s1, .inr (.inr (8, s0))] M (none, so) := by
  unfold wk_noteHit_74 at hs
  refine k_opt hs (fun _ q => nomatch q) (fun k1 h2 hs => ?_)
  refine k_let hs (fun M3 e4 hs => ?_)
  refine e_putI cd_244_74 pd_244_81 h2 e4 ?_
  have e := Option.some.inj hs
  subst e
  exact e_rv cd_244_77 nr_244
theorem tie_wk_noteHit_73  (d : Nat)  (s0 : Option Nat) (M : zM) (so : zM) (ls : List (Nat × zV))  (hs : wk_noteHit_73  d s0 M = some so) : Ev zq_T d 244 73 ls [.inr (.inr (8, s0))] M (none, so) := by
  unfold wk_noteHit_73 at hs
  refine e_const cd_244_73 ci_m1 ?_
  exact tie_wk_noteHit_74  d  s0 (-1) M so _  hs
theorem tie_wk_noteHit_48  (d : Nat)  (t0 : Nat) (v2 : Option Nat) (M : zM) (so : zM) (ls : List (Nat × zV)) (g0 : zl_get ls 0 = some (.inr (.inr (8, (some t0))))) (g2 : zl_get ls 2 = some (.inr (.inr (3, v2)))) (hs : wk_noteHit_48  d t0 v2 M = some so) : Ev zq_T d 244 48 ls [] M (none, so) := by
  unfold wk_noteHit_48 at hs
  refine e_aldn cd_244_48 g0 ?_
  refine e_aldn cd_244_49 g2 ?_
  refine k_let hs (fun M1 e2 hs => ?_)
  refine e_putR cd_244_50 pd_244_32 rfl e2 ?_
  refine e_aldn cd_244_53 g0 ?_
  refine e_aldn cd_244_54 g2 ?_
  refine k_opt hs (fun h3 hs => ?_) (fun k4 h3 hs => ?_)
  · refine e_nu0 cd_244_55 rfl h3 ?_
    exact tie_wk_noteHit_73  d  (some t0) M1 so _  hs
  · refine e_nu1 cd_244_55 rfl h3 ?_
    refine e_aldn cd_244_58 g2 ?_
    refine e_getI cd_244_59 (Or.inl fd_244_63) h3 ?_
    refine e_const cd_244_62 ci_4 ?_
    refine k_if hs (fun c5 hs => ?_) (fun c5 hs => ?_)
    · refine e_icN cd_244_63 rfl (fun q => q c5) ?_
      refine e_aldn cd_244_66 g2 ?_
      refine e_getI cd_244_67 (Or.inl fd_244_73) h3 ?_
      refine e_goto cd_244_70 rfl ?_
      exact tie_wk_noteHit_74  d  (some t0) (zm_I M1 3 k4 1) M1 so _  hs
    · refine e_icJ cd_244_63 rfl c5 ?_
      exact tie_wk_noteHit_73  d  (some t0) M1 so _  hs
theorem tie_wk_noteHit_15  (d : Nat)  : ∀ (fuel : Nat) (t0 : Nat) (v1 : Int32) (v2 : Option Nat) (v3 : Int32) (M : zM) (so : zM) (ls : List (Nat × zV)), zl_get ls 0 = some (.inr (.inr (8, (some t0)))) → zl_get ls 1 = some (.inl v1) → zl_get ls 2 = some (.inr (.inr (3, v2))) → zl_get ls 3 = some (.inl v3) → wk_noteHit_15  d fuel t0 v1 v2 v3 M = some so → Ev zq_T d 244 15 ls [] M (none, so) := by
  intro fuel
  induction fuel with
  | zero => intro t0 v1 v2 v3 M so ls g0 g1 g2 g3 hs; exact nomatch hs
  | succ fuel ih =>
    intro t0 v1 v2 v3 M so ls g0 g1 g2 g3 hs
    unfold wk_noteHit_15 at hs
    refine e_ildn cd_244_15 g3 ?_
    refine e_bip cd_244_16 cb_16 ?_
    refine k_if hs (fun c1 hs => ?_) (fun c1 hs => ?_)
    · refine e_icJ cd_244_18 rfl c1 ?_
      exact tie_wk_noteHit_48  d  t0 v2 M so _ g0 g2 hs
    · refine e_icN cd_244_18 rfl c1 ?_
      refine e_aldn cd_244_21 g0 ?_
      refine e_getI cd_244_22 (Or.inl fd_244_36) rfl ?_
      refine e_const cd_244_25 ci_m1 ?_
      refine k_if hs (fun c2 hs => ?_) (fun c2 hs => ?_)
      · refine e_icN cd_244_26 rfl (fun q => q c2) ?_
        refine e_ildn cd_244_29 g1 ?_
        refine e_ildn cd_244_30 g3 ?_
        refine e_pure cd_244_31 rfl ?_
        refine e_const cd_244_32 ci_1 ?_
        refine e_pure cd_244_33 rfl ?_
        refine k_if hs (fun c3 hs => ?_) (fun c3 hs => ?_)
        · refine e_izJ cd_244_34 rfl c3 ?_
          exact tie_wk_noteHit_42 (fun p0 p1 p2 p3 m => wk_noteHit_15  d fuel p0 p1 p2 p3 m) d ih t0 v1 v2 v3 M so _ g0 g1 g2 g3 hs
        · refine e_izN cd_244_34 rfl c3 ?_
          refine e_aldn cd_244_37 g0 ?_
          refine e_ildn cd_244_38 g3 ?_
          refine k_let hs (fun M4 e5 hs => ?_)
          refine e_putI cd_244_39 pd_244_36 rfl e5 ?_
          exact tie_wk_noteHit_42 (fun p0 p1 p2 p3 m => wk_noteHit_15  d fuel p0 p1 p2 p3 m) d ih t0 v1 v2 v3 M4 so _ g0 g1 g2 g3 hs
      · refine e_icJ cd_244_26 rfl c2 ?_
        exact tie_wk_noteHit_48  d  t0 v2 M so _ g0 g2 hs
theorem tie_wk_noteHit (d : Nat) (a0 : Nat) (a1 : Int32) (a2 : Option Nat) (M : zM) (so : zM) (hs : wk_noteHit d a0 a1 a2 M = some so) : Ev zq_T d 244 0 (zl_args 0 [.inr (.inr (8, some a0)), .inl a1, .inr (.inr (3, a2))]) [] M (none, so) := by
  unfold wk_noteHit at hs
  have g0 : zl_get (zl_args 0 [.inr (.inr (8, some a0)), .inl a1, .inr (.inr (3, a2))]) 0 = some (.inr (.inr (8, (some a0)))) := rfl
  have g1 : zl_get (zl_args 0 [.inr (.inr (8, some a0)), .inl a1, .inr (.inr (3, a2))]) 1 = some (.inl a1) := rfl
  have g2 : zl_get (zl_args 0 [.inr (.inr (8, some a0)), .inl a1, .inr (.inr (3, a2))]) 2 = some (.inr (.inr (3, a2))) := rfl
  refine e_aldn cd_244_0 g0 ?_
  refine e_getI cd_244_1 (Or.inl fd_244_36) rfl ?_
  refine e_const cd_244_4 ci_m1 ?_
  refine k_if hs (fun c1 hs => ?_) (fun c1 hs => ?_)
  · refine e_icN cd_244_5 rfl (fun q => q c1) ?_
    refine e_ildn cd_244_8 g1 ?_
    refine k_if hs (fun c2 hs => ?_) (fun c2 hs => ?_)
    · refine e_izN cd_244_9 rfl (fun q => q c2) ?_
      exact tie_wk_noteHit_12  d   M so _  hs
    · refine e_izJ cd_244_9 rfl c2 ?_
      refine e_const cd_244_13 ci_0 ?_
      refine e_iKn cd_244_14 nl_244 rfl rfl ?_
      intro _ gn kp
      have u3 := kp 0 _ g0 rfl rfl
      have u4 := kp 1 _ g1 rfl rfl
      have u5 := kp 2 _ g2 rfl rfl
      have u6 := gn
      exact tie_wk_noteHit_15  d  zLF a0 a1 a2 0 M so _ u3 u4 u5 u6 hs
  · refine e_icJ cd_244_5 rfl c1 ?_
    exact tie_wk_noteHit_12  d   M so _  hs
theorem tie_wk_lookInRow_8  (d : Nat)  : ∀ (fuel : Nat) (v2 : Int32) (v3 : Int32) (v4 : Option Nat) (M : zM) (so : Int32 × zM) (ls : List (Nat × zV)), zl_get ls 2 = some (.inl v2) → zl_get ls 3 = some (.inl v3) → zl_get ls 4 = some (.inr (.inr (3, v4))) → wk_lookInRow_8  d fuel v2 v3 v4 M = some so → Ev zq_T d 245 8 ls [] M (some (.inl so.1), so.2) := by
  intro fuel
  induction fuel with
  | zero => intro v2 v3 v4 M so ls g2 g3 g4 hs; exact nomatch hs
  | succ fuel ih =>
    intro v2 v3 v4 M so ls g2 g3 g4 hs
    unfold wk_lookInRow_8 at hs
    refine e_ald cd_245_8 g4 ?_
    refine k_opt hs (fun h1 hs => ?_) (fun k2 h1 hs => ?_)
    · refine e_nu0 cd_245_10 rfl h1 ?_
      refine e_ildn cd_245_43 g3 ?_
      refine e_ldcI cd_245_44 od_245_55 ?_
      refine e_pure cd_245_46 rfl ?_
      have e := Option.some.inj hs
      subst e
      exact e_ri cd_245_47 nr_245
    · refine e_nu1 cd_245_10 rfl h1 ?_
      refine e_ildn cd_245_13 g3 ?_
      refine e_ald cd_245_14 g4 ?_
      refine e_getI cd_245_16 (Or.inl fd_245_42) h1 ?_
      refine e_ildn cd_245_19 g2 ?_
      refine e_pure cd_245_20 rfl ?_
      refine e_pure cd_245_21 rfl ?_
      refine k_let hs (fun x3 e4 hs => ?_)
      refine e_iKn cd_245_22 nl_245 rfl e4 ?_
      intro _ gn kp
      have u5 := kp 2 _ g2 rfl rfl
      have u6 := kp 4 _ g4 rfl rfl
      have u7 := gn
      refine e_ald cd_245_23 u6 ?_
      refine e_getI cd_245_25 (Or.inr fd_245_51) h1 ?_
      refine k_if hs (fun c8 hs => ?_) (fun c8 hs => ?_)
      · refine e_izN cd_245_28 rfl (fun q => q c8) ?_
        refine e_ildn cd_245_31 u7 ?_
        have e := Option.some.inj hs
        subst e
        exact e_ri cd_245_32 nr_245
      · refine e_izJ cd_245_28 rfl c8 ?_
        refine e_ald cd_245_33 u6 ?_
        refine e_getR cd_245_35 fd_245_84 h1 ?_
        refine e_aK cd_245_38 nl_245 rfl rfl ?_
        intro _ gn kp
        have u9 := kp 2 _ u5 rfl rfl
        have u10 := kp 3 _ u7 rfl rfl
        have u11 := gn
        refine e_goto cd_245_40 rfl ?_
        exact ih v2 x3 (zm_R M 3 k2 7) M so _ u9 u10 u11 hs
theorem tie_wk_lookInRow (d : Nat) (a0 : Nat) (a1 : Option Nat) (a2 : Int32) (M : zM) (so : Int32 × zM) (hs : wk_lookInRow d a0 a1 a2 M = some so) : Ev zq_T d 245 0 (zl_args 0 [.inr (.inr (8, some a0)), .inr (.inr (3, a1)), .inl a2]) [] M (some (.inl so.1), so.2) := by
  unfold wk_lookInRow at hs
  have g0 : zl_get (zl_args 0 [.inr (.inr (8, some a0)), .inr (.inr (3, a1)), .inl a2]) 0 = some (.inr (.inr (8, (some a0)))) := rfl
  have g1 : zl_get (zl_args 0 [.inr (.inr (8, some a0)), .inr (.inr (3, a1)), .inl a2]) 1 = some (.inr (.inr (3, a1))) := rfl
  have g2 : zl_get (zl_args 0 [.inr (.inr (8, some a0)), .inr (.inr (3, a1)), .inl a2]) 2 = some (.inl a2) := rfl
  refine e_const cd_245_0 ci_0 ?_
  refine e_iKn cd_245_1 nl_245 rfl rfl ?_
  intro _ gn kp
  have u1 := kp 1 _ g1 rfl rfl
  have u2 := kp 2 _ g2 rfl rfl
  have u3 := gn
  refine e_aldn cd_245_2 u1 ?_
  refine k_opt hs (fun _ q => nomatch q) (fun k4 h5 hs => ?_)
  refine e_getR cd_245_3 fd_245_84 h5 ?_
  refine e_aK cd_245_6 nl_245 rfl rfl ?_
  intro _ gn kp
  have u6 := kp 2 _ u2 rfl rfl
  have u7 := kp 3 _ u3 rfl rfl
  have u8 := gn
  exact tie_wk_lookInRow_8  d  zLF a2 0 (zm_R M 3 k4 7) M so _ u6 u7 u8 hs
theorem tie_wk_lookInAny_48 (kl19 : Option Nat → Int32 → Int32 → Int32 → Option Nat → zM → Option (Int32 × zM)) (d : Nat) (hk19 : ∀ (v1 : Option Nat) (v2 : Int32) (v3 : Int32) (v4 : Int32) (v5 : Option Nat) (M : zM) (so : Int32 × zM) (ls : List (Nat × zV)), zl_get ls 1 = some (.inr (.inr (3, v1))) → zl_get ls 2 = some (.inl v2) → zl_get ls 3 = some (.inl v3) → zl_get ls 4 = some (.inl v4) → zl_get ls 5 = some (.inr (.inr (3, v5))) → kl19 v1 v2 v3 v4 v5 M = some so → Ev zq_T d 246 19 ls [] M (some (.inl so.1), so.2)) (v1 : Option Nat) (v2 : Int32) (v3 : Int32) (v4 : Int32) (v5 : Option Nat) (M : zM) (so : Int32 × zM) (ls : List (Nat × zV)) (g1 : zl_get ls 1 = some (.inr (.inr (3, v1)))) (g2 : zl_get ls 2 = some (.inl v2)) (g3 : zl_get ls 3 = some (.inl v3)) (g4 : zl_get ls 4 = some (.inl v4)) (g5 : zl_get ls 5 = some (.inr (.inr (3, v5)))) (hs : wk_lookInAny_48 kl19 d v1 v2 v3 v4 v5 M = some so) : Ev zq_T d 246 48 ls [] M (some (.inl so.1), so.2) := by
  unfold wk_lookInAny_48 at hs
  refine e_ald cd_246_48 g5 ?_
  refine k_opt hs (fun _ q => nomatch q) (fun k1 h2 hs => ?_)
  refine e_getR cd_246_50 fd_246_84 h2 ?_
  refine e_aK cd_246_53 nl_246 rfl rfl ?_
  intro _ gn kp
  have u3 := kp 1 _ g1 rfl rfl
  have u4 := kp 2 _ g2 rfl rfl
  have u5 := kp 3 _ g3 rfl rfl
  have u6 := kp 4 _ g4 rfl rfl
  have u7 := gn
  refine e_goto cd_246_55 rfl ?_
  exact hk19 v1 v2 v3 v4 (zm_R M 3 k1 7) M so _ u3 u4 u5 u6 u7 hs
theorem tie_wk_lookInAny_79  (d : Nat)  (s0 : Int32) (M : zM) (so : Int32 × zM) (ls : List (Nat × zV))  (hs : wk_lookInAny_79  d s0 M = some so) : Ev zq_T d 246 79 ls [.inl s0] M (some (.inl so.1), so.2) := by
  unfold wk_lookInAny_79 at hs
  have e := Option.some.inj hs
  subst e
  exact e_ri cd_246_79 nr_246
theorem tie_wk_lookInAny_19  (d : Nat)  : ∀ (fuel : Nat) (v1 : Option Nat) (v2 : Int32) (v3 : Int32) (v4 : Int32) (v5 : Option Nat) (M : zM) (so : Int32 × zM) (ls : List (Nat × zV)), zl_get ls 1 = some (.inr (.inr (3, v1))) → zl_get ls 2 = some (.inl v2) → zl_get ls 3 = some (.inl v3) → zl_get ls 4 = some (.inl v4) → zl_get ls 5 = some (.inr (.inr (3, v5))) → wk_lookInAny_19  d fuel v1 v2 v3 v4 v5 M = some so → Ev zq_T d 246 19 ls [] M (some (.inl so.1), so.2) := by
  intro fuel
  induction fuel with
  | zero => intro v1 v2 v3 v4 v5 M so ls g1 g2 g3 g4 g5 hs; exact nomatch hs
  | succ fuel ih =>
    intro v1 v2 v3 v4 v5 M so ls g1 g2 g3 g4 g5 hs
    unfold wk_lookInAny_19 at hs
    refine e_ald cd_246_19 g5 ?_
    refine k_opt hs (fun h1 hs => ?_) (fun k2 h1 hs => ?_)
    · refine e_nu0 cd_246_21 rfl h1 ?_
      refine e_aldn cd_246_58 g1 ?_
      refine k_opt hs (fun _ q => nomatch q) (fun k3 h4 hs => ?_)
      refine e_getI cd_246_59 (Or.inl fd_246_93) h4 ?_
      refine e_ildn cd_246_62 g3 ?_
      refine e_const cd_246_63 ci_m1 ?_
      refine e_pure cd_246_64 rfl ?_
      refine e_pure cd_246_65 rfl ?_
      refine k_if hs (fun c5 hs => ?_) (fun c5 hs => ?_)
      · refine e_izN cd_246_66 rfl (fun q => q c5) ?_
        refine e_ild cd_246_69 g4 ?_
        refine e_ldcI cd_246_71 od_246_55 ?_
        refine e_pure cd_246_73 rfl ?_
        refine e_goto cd_246_74 rfl ?_
        exact tie_wk_lookInAny_79  d  (v4 ||| 65536) M so _  hs
      · refine e_izJ cd_246_66 rfl c5 ?_
        refine e_ild cd_246_77 g4 ?_
        exact tie_wk_lookInAny_79  d  v4 M so _  hs
    · refine e_nu1 cd_246_21 rfl h1 ?_
      refine e_ildn cd_246_24 g3 ?_
      refine e_ald cd_246_25 g5 ?_
      refine e_getI cd_246_27 (Or.inl fd_246_90) h1 ?_
      refine e_pure cd_246_30 rfl ?_
      refine e_const cd_246_31 ci_1 ?_
      refine e_pure cd_246_32 rfl ?_
      refine k_if hs (fun c6 hs => ?_) (fun c6 hs => ?_)
      · refine e_izN cd_246_33 rfl (fun q => q c6) ?_
        refine e_ild cd_246_36 g4 ?_
        refine e_ald cd_246_38 g5 ?_
        refine e_getI cd_246_40 (Or.inl fd_246_42) h1 ?_
        refine e_ildn cd_246_43 g2 ?_
        refine e_pure cd_246_44 rfl ?_
        refine e_pure cd_246_45 rfl ?_
        refine k_let hs (fun x7 e8 hs => ?_)
        refine e_iK cd_246_46 nl_246 rfl e8 ?_
        intro _ gn kp
        have u9 := kp 1 _ g1 rfl rfl
        have u10 := kp 2 _ g2 rfl rfl
        have u11 := kp 3 _ g3 rfl rfl
        have u12 := kp 5 _ g5 rfl rfl
        have u13 := gn
        exact tie_wk_lookInAny_48 (fun p0 p1 p2 p3 p4 m => wk_lookInAny_19  d fuel p0 p1 p2 p3 p4 m) d ih v1 v2 v3 x7 v5 M so _ u9 u10 u11 u13 u12 hs
      · refine e_izJ cd_246_33 rfl c6 ?_
        exact tie_wk_lookInAny_48 (fun p0 p1 p2 p3 p4 m => wk_lookInAny_19  d fuel p0 p1 p2 p3 p4 m) d ih v1 v2 v3 v4 v5 M so _ g1 g2 g3 g4 g5 hs
theorem tie_wk_lookInAny (d : Nat) (a0 : Nat) (a1 : Option Nat) (a2 : Int32) (M : zM) (so : Int32 × zM) (hs : wk_lookInAny d a0 a1 a2 M = some so) : Ev zq_T d 246 0 (zl_args 0 [.inr (.inr (8, some a0)), .inr (.inr (3, a1)), .inl a2]) [] M (some (.inl so.1), so.2) := by
  unfold wk_lookInAny at hs
  have g0 : zl_get (zl_args 0 [.inr (.inr (8, some a0)), .inr (.inr (3, a1)), .inl a2]) 0 = some (.inr (.inr (8, (some a0)))) := rfl
  have g1 : zl_get (zl_args 0 [.inr (.inr (8, some a0)), .inr (.inr (3, a1)), .inl a2]) 1 = some (.inr (.inr (3, a1))) := rfl
  have g2 : zl_get (zl_args 0 [.inr (.inr (8, some a0)), .inr (.inr (3, a1)), .inl a2]) 2 = some (.inl a2) := rfl
  refine e_aldn cd_246_0 g0 ?_
  refine e_getR cd_246_1 fd_246_29 rfl ?_
  refine e_aldn cd_246_4 g1 ?_
  refine k_opt hs (fun _ q => nomatch q) (fun k1 h2 hs => ?_)
  refine e_getI cd_246_5 (Or.inl fd_246_73) h2 ?_
  refine k_opt hs (fun _ q => nomatch q) (fun k3 h4 hs => ?_)
  obtain ⟨c5, hs⟩ := z_ite hs
  refine e_iald cd_246_8 rfl h4 c5 ?_
  refine k_let hs (fun x6 e7 hs => ?_)
  refine e_iKn cd_246_9 nl_246 rfl e7 ?_
  intro _ gn kp
  have u8 := kp 1 _ g1 rfl rfl
  have u9 := kp 2 _ g2 rfl rfl
  have u10 := gn
  refine e_const cd_246_10 ci_0 ?_
  refine e_iK cd_246_11 nl_246 rfl rfl ?_
  intro _ gn kp
  have u11 := kp 1 _ u8 rfl rfl
  have u12 := kp 2 _ u9 rfl rfl
  have u13 := kp 3 _ u10 rfl rfl
  have u14 := gn
  refine e_aldn cd_246_13 u11 ?_
  refine e_getR cd_246_14 fd_246_87 h2 ?_
  refine e_aK cd_246_17 nl_246 rfl rfl ?_
  intro _ gn kp
  have u15 := kp 1 _ u11 rfl rfl
  have u16 := kp 2 _ u12 rfl rfl
  have u17 := kp 3 _ u13 rfl rfl
  have u18 := kp 4 _ u14 rfl rfl
  have u19 := gn
  exact tie_wk_lookInAny_19  d  zLF a1 a2 x6 0 (zm_R M 3 k1 5) M so _ u15 u16 u17 u18 u19 hs
theorem tie_wk_lookInCount_83  (d : Nat)  (s0 : Int32) (M : zM) (so : Int32 × zM) (ls : List (Nat × zV))  (hs : wk_lookInCount_83  d s0 M = some so) : Ev zq_T d 247 83 ls [.inl s0] M (some (.inl so.1), so.2) := by
  unfold wk_lookInCount_83 at hs
  have e := Option.some.inj hs
  subst e
  exact e_ri cd_247_83 nr_247
theorem tie_wk_lookInCount_53  (d : Nat)  (t0 : Nat) (v2 : Int32) (s0 : Int32) (M : zM) (so : Int32 × zM) (ls : List (Nat × zV)) (g0 : zl_get ls 0 = some (.inr (.inr (8, (some t0))))) (g2 : zl_get ls 2 = some (.inl v2)) (hs : wk_lookInCount_53  d t0 v2 s0 M = some so) : Ev zq_T d 247 53 ls [.inl s0] M (some (.inl so.1), so.2) := by
  unfold wk_lookInCount_53 at hs
  refine e_iK cd_247_53 nl_247 rfl rfl ?_
  intro _ gn kp
  have u1 := kp 0 _ g0 rfl rfl
  have u2 := kp 2 _ g2 rfl rfl
  have u3 := gn
  refine e_aldn cd_247_55 u1 ?_
  refine e_getR cd_247_56 fd_247_25 rfl ?_
  refine e_ildn cd_247_59 u2 ?_
  refine k_opt hs (fun _ q => nomatch q) (fun k4 h5 hs => ?_)
  obtain ⟨c6, hs⟩ := z_ite hs
  refine e_iald cd_247_60 rfl h5 c6 ?_
  refine e_aldn cd_247_61 u1 ?_
  refine e_getR cd_247_62 fd_247_12 rfl ?_
  refine k_opt hs (fun _ q => nomatch q) (fun k7 h8 hs => ?_)
  refine e_getR cd_247_65 fd_247_99 h8 ?_
  refine e_ildn cd_247_68 u2 ?_
  refine k_opt hs (fun _ q => nomatch q) (fun k9 h10 hs => ?_)
  obtain ⟨c11, hs⟩ := z_ite hs
  refine e_iald cd_247_69 rfl h10 c11 ?_
  refine k_if hs (fun c12 hs => ?_) (fun c12 hs => ?_)
  · refine e_icJ cd_247_70 rfl c12 ?_
    refine e_ild cd_247_81 u3 ?_
    exact tie_wk_lookInCount_83  d  s0 M so _  hs
  · refine e_icN cd_247_70 rfl c12 ?_
    refine e_ild cd_247_73 u3 ?_
    refine e_ldcI cd_247_75 od_247_55 ?_
    refine e_pure cd_247_77 rfl ?_
    refine e_goto cd_247_78 rfl ?_
    exact tie_wk_lookInCount_83  d  (s0 ||| 65536) M so _  hs
theorem tie_wk_lookInCount_36  (d : Nat)  (t0 : Nat) (v1 : Option Nat) (v2 : Int32) (v3 : Int32) (s0 : Int32) (M : zM) (so : Int32 × zM) (ls : List (Nat × zV)) (g0 : zl_get ls 0 = some (.inr (.inr (8, (some t0))))) (g1 : zl_get ls 1 = some (.inr (.inr (3, v1)))) (g2 : zl_get ls 2 = some (.inl v2)) (g3 : zl_get ls 3 = some (.inl v3)) (hs : wk_lookInCount_36  d t0 v1 v2 v3 s0 M = some so) : Ev zq_T d 247 36 ls [.inl s0] M (some (.inl so.1), so.2) := by
  unfold wk_lookInCount_36 at hs
  refine e_iK cd_247_36 nl_247 rfl rfl ?_
  intro _ gn kp
  have u1 := kp 0 _ g0 rfl rfl
  have u2 := kp 1 _ g1 rfl rfl
  have u3 := kp 2 _ g2 rfl rfl
  have u4 := kp 3 _ g3 rfl rfl
  have u5 := gn
  refine e_ild cd_247_38 u5 ?_
  refine k_if hs (fun c6 hs => ?_) (fun c6 hs => ?_)
  · refine e_izJ cd_247_40 rfl c6 ?_
    refine e_const cd_247_52 ci_0 ?_
    exact tie_wk_lookInCount_53  d  t0 v2 0 M so _ u1 u3 hs
  · refine e_izN cd_247_40 rfl c6 ?_
    refine e_aldn cd_247_43 u2 ?_
    refine k_opt hs (fun _ q => nomatch q) (fun k7 h8 hs => ?_)
    refine e_getI cd_247_44 (Or.inl fd_247_42) h8 ?_
    refine e_ildn cd_247_47 u4 ?_
    refine e_pure cd_247_48 rfl ?_
    refine e_goto cd_247_49 rfl ?_
    exact tie_wk_lookInCount_53  d  t0 v2 ((zm_I M 3 k7 9) &&& v3) M so _ u1 u3 hs
theorem tie_wk_lookInCount_31  (d : Nat)  (t0 : Nat) (v1 : Option Nat) (v2 : Int32) (v3 : Int32) (M : zM) (so : Int32 × zM) (ls : List (Nat × zV)) (g0 : zl_get ls 0 = some (.inr (.inr (8, (some t0))))) (g1 : zl_get ls 1 = some (.inr (.inr (3, v1)))) (g2 : zl_get ls 2 = some (.inl v2)) (g3 : zl_get ls 3 = some (.inl v3)) (hs : wk_lookInCount_31  d t0 v1 v2 v3 M = some so) : Ev zq_T d 247 31 ls [] M (some (.inl so.1), so.2) := by
  unfold wk_lookInCount_31 at hs
  refine e_const cd_247_31 ci_1 ?_
  refine e_goto cd_247_32 rfl ?_
  exact tie_wk_lookInCount_36  d  t0 v1 v2 v3 1 M so _ g0 g1 g2 g3 hs
theorem tie_wk_lookInCount (d : Nat) (a0 : Nat) (a1 : Option Nat) (a2 : Int32) (a3 : Int32) (M : zM) (so : Int32 × zM) (hs : wk_lookInCount d a0 a1 a2 a3 M = some so) : Ev zq_T d 247 0 (zl_args 0 [.inr (.inr (8, some a0)), .inr (.inr (3, a1)), .inl a2, .inl a3]) [] M (some (.inl so.1), so.2) := by
  unfold wk_lookInCount at hs
  have g0 : zl_get (zl_args 0 [.inr (.inr (8, some a0)), .inr (.inr (3, a1)), .inl a2, .inl a3]) 0 = some (.inr (.inr (8, (some a0)))) := rfl
  have g1 : zl_get (zl_args 0 [.inr (.inr (8, some a0)), .inr (.inr (3, a1)), .inl a2, .inl a3]) 1 = some (.inr (.inr (3, a1))) := rfl
  have g2 : zl_get (zl_args 0 [.inr (.inr (8, some a0)), .inr (.inr (3, a1)), .inl a2, .inl a3]) 2 = some (.inl a2) := rfl
  have g3 : zl_get (zl_args 0 [.inr (.inr (8, some a0)), .inr (.inr (3, a1)), .inl a2, .inl a3]) 3 = some (.inl a3) := rfl
  refine e_aldn cd_247_0 g0 ?_
  refine e_getR cd_247_1 fd_247_12 rfl ?_
  refine k_opt hs (fun _ q => nomatch q) (fun k1 h2 hs => ?_)
  refine e_getR cd_247_4 fd_247_96 h2 ?_
  refine e_ildn cd_247_7 g2 ?_
  refine k_opt hs (fun _ q => nomatch q) (fun k3 h4 hs => ?_)
  obtain ⟨c5, hs⟩ := z_ite hs
  refine e_iald cd_247_8 rfl h4 c5 ?_
  refine e_const cd_247_9 ci_m1 ?_
  refine k_if hs (fun c6 hs => ?_) (fun c6 hs => ?_)
  · refine e_icJ cd_247_10 rfl c6 ?_
    exact tie_wk_lookInCount_31  d  a0 a1 a2 a3 M so _ g0 g1 g2 g3 hs
  · refine e_icN cd_247_10 rfl c6 ?_
    refine e_aldn cd_247_13 g0 ?_
    refine e_getR cd_247_14 fd_247_25 rfl ?_
    refine e_ildn cd_247_17 g2 ?_
    refine k_opt hs (fun _ q => nomatch q) (fun k7 h8 hs => ?_)
    obtain ⟨c9, hs⟩ := z_ite hs
    refine e_iald cd_247_18 rfl h8 c9 ?_
    refine e_aldn cd_247_19 g0 ?_
    refine e_getR cd_247_20 fd_247_12 rfl ?_
    refine k_opt hs (fun _ q => nomatch q) (fun k10 h11 hs => ?_)
    refine e_getR cd_247_23 fd_247_96 h11 ?_
    refine e_ildn cd_247_26 g2 ?_
    refine k_opt hs (fun _ q => nomatch q) (fun k12 h13 hs => ?_)
    obtain ⟨c14, hs⟩ := z_ite hs
    refine e_iald cd_247_27 rfl h13 c14 ?_
    refine k_if hs (fun c15 hs => ?_) (fun c15 hs => ?_)
    · refine e_icJ cd_247_28 rfl c15 ?_
      refine e_const cd_247_35 ci_0 ?_
      exact tie_wk_lookInCount_36  d  a0 a1 a2 a3 0 M so _ g0 g1 g2 g3 hs
    · refine e_icN cd_247_28 rfl c15 ?_
      exact tie_wk_lookInCount_31  d  a0 a1 a2 a3 M so _ g0 g1 g2 g3 hs
theorem tie_wk_look_73  (d : Nat)  (s0 : Int32) (s1 : Int32) (M : zM) (so : Int32 × zM) (ls : List (Nat × zV))  (hs : wk_look_73  d s0 s1 M = some so) : Ev zq_T (d + 1) 243 73 ls [.inl s1, .inl s0] M (some (.inl so.1), so.2) := by
  unfold wk_look_73 at hs
  refine e_pure cd_243_73 rfl ?_
  have e := Option.some.inj hs
  subst e
  exact e_ri cd_243_74 nr_243
theorem tie_wk_look_178 (kl90 : Nat → Int32 → Int32 → Option Nat → zM → Option (Int32 × zM)) (d : Nat) (hk90 : ∀ (t0 : Nat) (v1 : Int32) (v2 : Int32) (v3 : Option Nat) (M : zM) (so : Int32 × zM) (ls : List (Nat × zV)), zl_get ls 0 = some (.inr (.inr (8, (some t0)))) → zl_get ls 1 = some (.inl v1) → zl_get ls 2 = some (.inl v2) → zl_get ls 3 = some (.inr (.inr (3, v3))) → kl90 t0 v1 v2 v3 M = some so → Ev zq_T (d + 1) 243 90 ls [] M (some (.inl so.1), so.2)) (t0 : Nat) (v1 : Int32) (v2 : Int32) (v3 : Option Nat) (v4 : Int32) (M : zM) (so : Int32 × zM) (ls : List (Nat × zV)) (g0 : zl_get ls 0 = some (.inr (.inr (8, (some t0))))) (g1 : zl_get ls 1 = some (.inl v1)) (g2 : zl_get ls 2 = some (.inl v2)) (g3 : zl_get ls 3 = some (.inr (.inr (3, v3)))) (g4 : zl_get ls 4 = some (.inl v4)) (hs : wk_look_178 kl90 d t0 v1 v2 v3 v4 M = some so) : Ev zq_T (d + 1) 243 178 ls [] M (some (.inl so.1), so.2) := by
  unfold wk_look_178 at hs
  refine e_aldn cd_243_178 g0 ?_
  refine e_ild cd_243_179 g4 ?_
  refine e_ldcI cd_243_181 od_243_80 ?_
  refine e_pure cd_243_183 rfl ?_
  refine e_aldn cd_243_184 g3 ?_
  refine k_opt hs (fun _ q => nomatch q) (fun k1 h2 hs => ?_)
  refine e_getR cd_243_185 fd_243_60 h2 ?_
  obtain ⟨q3, h4, hs⟩ := k_bind hs
  refine e_cvi cd_243_188 kd_243_47 rfl rfl rfl rfl rfl nl_244 rfl rfl (tie_wk_noteHit d t0 (v4 &&& (-65537)) (zm_R M 3 k1 4) M _ h4) ?_
  refine e_ildn cd_243_191 g2 ?_
  refine e_ild cd_243_192 g4 ?_
  refine e_ldcI cd_243_194 od_243_80 ?_
  refine e_pure cd_243_196 rfl ?_
  refine e_pure cd_243_197 rfl ?_
  refine k_let hs (fun x5 e6 hs => ?_)
  refine e_iKn cd_243_198 nl_243 rfl e6 ?_
  intro _ gn kp
  have u7 := kp 0 _ g0 rfl rfl
  have u8 := kp 1 _ g1 rfl rfl
  have u9 := kp 3 _ g3 rfl rfl
  have u10 := kp 4 _ g4 rfl rfl
  have u11 := gn
  refine e_ild cd_243_199 u10 ?_
  refine e_ldcI cd_243_201 od_243_55 ?_
  refine e_pure cd_243_203 rfl ?_
  refine k_if hs (fun c12 hs => ?_) (fun c12 hs => ?_)
  · refine e_izN cd_243_204 rfl (fun q => q c12) ?_
    refine e_ildn cd_243_207 u11 ?_
    have e := Option.some.inj hs
    subst e
    exact e_ri cd_243_208 nr_243
  · refine e_izJ cd_243_204 rfl c12 ?_
    refine e_aldn cd_243_209 u9 ?_
    refine e_getR cd_243_210 fd_243_60 h2 ?_
    refine e_aKn cd_243_213 nl_243 rfl rfl ?_
    intro _ gn kp
    have u13 := kp 0 _ u7 rfl rfl
    have u14 := kp 1 _ u8 rfl rfl
    have u15 := kp 2 _ u11 rfl rfl
    have u16 := gn
    refine e_goto cd_243_214 rfl ?_
    exact hk90 t0 v1 x5 (zm_R q3 3 k1 4) q3 so _ u13 u14 u15 u16 hs
theorem tie_wk_look_217  (d : Nat)  (v2 : Int32) (M : zM) (so : Int32 × zM) (ls : List (Nat × zV)) (g2 : zl_get ls 2 = some (.inl v2)) (hs : wk_look_217  d v2 M = some so) : Ev zq_T (d + 1) 243 217 ls [] M (some (.inl so.1), so.2) := by
  unfold wk_look_217 at hs
  refine e_ildn cd_243_217 g2 ?_
  refine e_ldcI cd_243_218 od_243_55 ?_
  refine e_pure cd_243_220 rfl ?_
  have e := Option.some.inj hs
  subst e
  exact e_ri cd_243_221 nr_243
set_option maxRecDepth 100000 in
theorem tie_wk_look_90  (d : Nat)  : ∀ (fuel : Nat) (t0 : Nat) (v1 : Int32) (v2 : Int32) (v3 : Option Nat) (M : zM) (so : Int32 × zM) (ls : List (Nat × zV)), zl_get ls 0 = some (.inr (.inr (8, (some t0)))) → zl_get ls 1 = some (.inl v1) → zl_get ls 2 = some (.inl v2) → zl_get ls 3 = some (.inr (.inr (3, v3))) → wk_look_90  d fuel t0 v1 v2 v3 M = some so → Ev zq_T (d + 1) 243 90 ls [] M (some (.inl so.1), so.2) := by
  intro fuel
  induction fuel with
  | zero => intro t0 v1 v2 v3 M so ls g0 g1 g2 g3 hs; exact nomatch hs
  | succ fuel ih =>
    intro t0 v1 v2 v3 M so ls g0 g1 g2 g3 hs
    unfold wk_look_90 at hs
    refine e_aldn cd_243_90 g3 ?_
    refine k_opt hs (fun h1 hs => ?_) (fun k2 h1 hs => ?_)
    · refine e_nu0 cd_243_91 rfl h1 ?_
      exact tie_wk_look_217  d  v2 M so _ g2 hs
    · refine e_nu1 cd_243_91 rfl h1 ?_
      refine e_aldn cd_243_94 g3 ?_
      refine e_getR cd_243_95 fd_243_60 h1 ?_
      refine k_opt hs (fun h3 hs => ?_) (fun k4 h3 hs => ?_)
      · refine e_nu0 cd_243_98 rfl h3 ?_
        exact tie_wk_look_217  d  v2 M so _ g2 hs
      · refine e_nu1 cd_243_98 rfl h3 ?_
        refine e_ldcI cd_243_101 od_243_55 ?_
        refine e_iK cd_243_103 nl_243 rfl rfl ?_
        intro _ gn kp
        have u5 := kp 0 _ g0 rfl rfl
        have u6 := kp 1 _ g1 rfl rfl
        have u7 := kp 2 _ g2 rfl rfl
        have u8 := kp 3 _ g3 rfl rfl
        have u9 := gn
        refine e_aldn cd_243_105 u8 ?_
        refine e_getR cd_243_106 fd_243_60 h1 ?_
        refine k_opt hs (fun _ q => nomatch q) (fun k10 h11 hs => ?_)
        refine e_getI cd_243_109 (Or.inl fd_243_63) h11 ?_
        refine e_const cd_243_112 ci_2 ?_
        refine k_if hs (fun c12 hs => ?_) (fun c12 hs => ?_)
        · refine e_icN cd_243_113 rfl (fun q => q c12) ?_
          refine e_aldn cd_243_116 u5 ?_
          refine e_aldn cd_243_117 u8 ?_
          refine e_ildn cd_243_118 u6 ?_
          obtain ⟨q13, h14, hs⟩ := k_bind hs
          refine e_cvi cd_243_119 kd_243_66 rfl rfl rfl rfl rfl nl_245 rfl rfl (tie_wk_lookInRow d t0 v3 v1 M _ h14) ?_
          refine e_iK cd_243_122 nl_243 rfl rfl ?_
          intro _ gn kp
          have u15 := kp 0 _ u5 rfl rfl
          have u16 := kp 1 _ u6 rfl rfl
          have u17 := kp 2 _ u7 rfl rfl
          have u18 := kp 3 _ u8 rfl rfl
          have u19 := gn
          refine e_goto cd_243_124 rfl ?_
          exact tie_wk_look_178 (fun p0 p1 p2 p3 m => wk_look_90  d fuel p0 p1 p2 p3 m) d ih t0 v1 v2 v3 q13.1 q13.2 so _ u15 u16 u17 u18 u19 hs
        · refine e_icJ cd_243_113 rfl c12 ?_
          refine e_aldn cd_243_127 u8 ?_
          refine e_getR cd_243_128 fd_243_60 h1 ?_
          refine k_opt hs (fun _ q => nomatch q) (fun k20 h21 hs => ?_)
          refine e_getI cd_243_131 (Or.inl fd_243_63) h21 ?_
          refine e_const cd_243_134 ci_5 ?_
          refine k_if hs (fun c22 hs => ?_) (fun c22 hs => ?_)
          · refine e_icN cd_243_135 rfl (fun q => q c22) ?_
            refine e_aldn cd_243_138 u5 ?_
            refine e_aldn cd_243_139 u8 ?_
            refine e_getR cd_243_140 fd_243_60 h1 ?_
            refine e_ildn cd_243_143 u6 ?_
            obtain ⟨q23, h24, hs⟩ := k_bind hs
            refine e_cvi cd_243_144 kd_243_70 rfl rfl rfl rfl rfl nl_246 rfl rfl (tie_wk_lookInAny d t0 (zm_R M 3 k2 4) v1 M _ h24) ?_
            refine e_iK cd_243_147 nl_243 rfl rfl ?_
            intro _ gn kp
            have u25 := kp 0 _ u5 rfl rfl
            have u26 := kp 1 _ u6 rfl rfl
            have u27 := kp 2 _ u7 rfl rfl
            have u28 := kp 3 _ u8 rfl rfl
            have u29 := gn
            refine e_goto cd_243_149 rfl ?_
            exact tie_wk_look_178 (fun p0 p1 p2 p3 m => wk_look_90  d fuel p0 p1 p2 p3 m) d ih t0 v1 v2 v3 q23.1 q23.2 so _ u25 u26 u27 u28 u29 hs
          · refine e_icJ cd_243_135 rfl c22 ?_
            refine e_aldn cd_243_152 u8 ?_
            refine e_getR cd_243_153 fd_243_60 h1 ?_
            refine k_opt hs (fun _ q => nomatch q) (fun k30 h31 hs => ?_)
            refine e_getI cd_243_156 (Or.inl fd_243_63) h31 ?_
            refine e_const cd_243_159 ci_4 ?_
            refine k_if hs (fun c32 hs => ?_) (fun c32 hs => ?_)
            · refine e_icN cd_243_160 rfl (fun q => q c32) ?_
              refine e_aldn cd_243_163 u5 ?_
              refine e_aldn cd_243_164 u8 ?_
              refine e_aldn cd_243_165 u8 ?_
              refine e_getR cd_243_166 fd_243_60 h1 ?_
              refine k_opt hs (fun _ q => nomatch q) (fun k33 h34 hs => ?_)
              refine e_getI cd_243_169 (Or.inl fd_243_73) h34 ?_
              refine e_ildn cd_243_172 u6 ?_
              obtain ⟨q35, h36, hs⟩ := k_bind hs
              refine e_cvi cd_243_173 kd_243_76 rfl rfl rfl rfl rfl nl_247 rfl rfl (tie_wk_lookInCount d t0 v3 (zm_I M 3 k33 1) v1 M _ h36) ?_
              refine e_iK cd_243_176 nl_243 rfl rfl ?_
              intro _ gn kp
              have u37 := kp 0 _ u5 rfl rfl
              have u38 := kp 1 _ u6 rfl rfl
              have u39 := kp 2 _ u7 rfl rfl
              have u40 := kp 3 _ u8 rfl rfl
              have u41 := gn
              exact tie_wk_look_178 (fun p0 p1 p2 p3 m => wk_look_90  d fuel p0 p1 p2 p3 m) d ih t0 v1 v2 v3 q35.1 q35.2 so _ u37 u38 u39 u40 u41 hs
            · refine e_icJ cd_243_160 rfl c32 ?_
              exact tie_wk_look_178 (fun p0 p1 p2 p3 m => wk_look_90  d fuel p0 p1 p2 p3 m) d ih t0 v1 v2 v3 65536 M so _ u5 u6 u7 u8 u9 hs
theorem tieb_wk_look  (d : Nat)  (a0 : Nat) (a1 : Int32) (M : zM) (so : Int32 × zM) (hs : wk_look_b  d a0 a1 M = some so) : Ev zq_T (d + 1) 243 0 (zl_args 0 [.inr (.inr (8, some a0)), .inl a1]) [] M (some (.inl so.1), so.2) := by
  unfold wk_look_b at hs
  have g0 : zl_get (zl_args 0 [.inr (.inr (8, some a0)), .inl a1]) 0 = some (.inr (.inr (8, (some a0)))) := rfl
  have g1 : zl_get (zl_args 0 [.inr (.inr (8, some a0)), .inl a1]) 1 = some (.inl a1) := rfl
  refine e_aldn cd_243_0 g0 ?_
  refine e_const cd_243_1 ci_m1 ?_
  refine k_let hs (fun M1 e2 hs => ?_)
  refine e_putI cd_243_2 pd_243_36 rfl e2 ?_
  refine e_aldn cd_243_5 g0 ?_
  refine e_getR cd_243_6 fd_243_12 rfl ?_
  refine k_opt hs (fun _ q => nomatch q) (fun k3 h4 hs => ?_)
  refine e_getR cd_243_9 fd_243_39 h4 ?_
  refine k_opt hs (fun h5 hs => ?_) (fun k6 h5 hs => ?_)
  · refine e_nn0 cd_243_12 rfl h5 ?_
    refine e_const cd_243_15 ci_0 ?_
    have e := Option.some.inj hs
    subst e
    exact e_ri cd_243_16 nr_243
  · refine e_nn1 cd_243_12 rfl h5 ?_
    refine e_aldn cd_243_17 g0 ?_
    refine e_getI cd_243_18 (Or.inl fd_243_18) rfl ?_
    refine e_const cd_243_21 ci_m1 ?_
    refine k_if hs (fun c7 hs => ?_) (fun c7 hs => ?_)
    · refine e_icN cd_243_22 rfl (fun q => q c7) ?_
      refine e_aldn cd_243_25 g0 ?_
      refine e_aldn cd_243_26 g0 ?_
      refine e_getR cd_243_27 fd_243_12 rfl ?_
      refine k_opt hs (fun _ q => nomatch q) (fun k8 h9 hs => ?_)
      refine e_getR cd_243_30 fd_243_39 h9 ?_
      refine k_opt hs (fun _ q => nomatch q) (fun k10 h11 hs => ?_)
      refine e_getI cd_243_33 (Or.inl fd_243_42) h11 ?_
      refine e_ildn cd_243_36 g1 ?_
      refine e_pure cd_243_37 rfl ?_
      refine e_pure cd_243_38 rfl ?_
      obtain ⟨q12, h13, hs⟩ := k_bind hs
      refine e_cvi cd_243_39 kd_243_47 rfl rfl rfl rfl rfl nl_244 rfl rfl (tie_wk_noteHit d a0 ((zm_I M1 3 k10 9) &&& a1) none M1 _ h13) ?_
      refine e_aldn cd_243_42 g0 ?_
      refine e_getR cd_243_43 fd_243_12 rfl ?_
      refine k_opt hs (fun _ q => nomatch q) (fun k14 h15 hs => ?_)
      refine e_getR cd_243_46 fd_243_39 h15 ?_
      refine k_opt hs (fun _ q => nomatch q) (fun k16 h17 hs => ?_)
      refine e_getI cd_243_49 (Or.inl fd_243_42) h17 ?_
      refine e_ildn cd_243_52 g1 ?_
      refine e_pure cd_243_53 rfl ?_
      refine e_aldn cd_243_54 g0 ?_
      refine e_getR cd_243_55 fd_243_12 rfl ?_
      refine k_opt hs (fun _ q => nomatch q) (fun k18 h19 hs => ?_)
      refine e_getR cd_243_58 fd_243_39 h19 ?_
      refine k_opt hs (fun _ q => nomatch q) (fun k20 h21 hs => ?_)
      refine e_getI cd_243_61 (Or.inr fd_243_51) h21 ?_
      refine k_if hs (fun c22 hs => ?_) (fun c22 hs => ?_)
      · refine e_izJ cd_243_64 rfl c22 ?_
        refine e_const cd_243_72 ci_0 ?_
        exact tie_wk_look_73  d  ((zm_I q12 3 k16 9) &&& a1) 0 q12 so _  hs
      · refine e_izN cd_243_64 rfl c22 ?_
        refine e_ldcI cd_243_67 od_243_55 ?_
        refine e_goto cd_243_69 rfl ?_
        exact tie_wk_look_73  d  ((zm_I q12 3 k16 9) &&& a1) 65536 q12 so _  hs
    · refine e_icJ cd_243_22 rfl c7 ?_
      refine e_const cd_243_75 ci_0 ?_
      refine e_iKn cd_243_76 nl_243 rfl rfl ?_
      intro _ gn kp
      have u23 := kp 0 _ g0 rfl rfl
      have u24 := kp 1 _ g1 rfl rfl
      have u25 := gn
      refine e_aldn cd_243_77 u23 ?_
      refine e_getR cd_243_78 fd_243_12 rfl ?_
      refine k_opt hs (fun _ q => nomatch q) (fun k26 h27 hs => ?_)
      refine e_getR cd_243_81 fd_243_56 h27 ?_
      refine e_aldn cd_243_84 u23 ?_
      refine e_getI cd_243_85 (Or.inl fd_243_18) rfl ?_
      refine k_opt hs (fun _ q => nomatch q) (fun k28 h29 hs => ?_)
      obtain ⟨c30, hs⟩ := z_ite hs
      refine e_aald cd_243_88 rfl h29 c30 ?_
      refine e_aKn cd_243_89 nl_243 rfl rfl ?_
      intro _ gn kp
      have u31 := kp 0 _ u23 rfl rfl
      have u32 := kp 1 _ u24 rfl rfl
      have u33 := kp 2 _ u25 rfl rfl
      have u34 := gn
      exact tie_wk_look_90  d  zLF a0 a1 0 (zm_R M1 24 k28 (zm_I M1 8 a0 1).toNatClampNeg) M1 so _ u31 u32 u33 u34 hs
theorem tie_wk_look (d : Nat) (a0 : Nat) (a1 : Int32) (M : zM) (so : Int32 × zM) (hs : wk_look d a0 a1 M = some so) : Ev zq_T d 243 0 (zl_args 0 [.inr (.inr (8, some a0)), .inl a1]) [] M (some (.inl so.1), so.2) := by
  cases d with
  | zero => exact nomatch hs
  | succ d => exact tieb_wk_look d a0 a1 M so hs
theorem tie_wk_enter_85 (kl13 : Nat → Option Nat → zM → Option (zM)) (d : Nat) (hk13 : ∀ (t0 : Nat) (v1 : Option Nat) (M : zM) (so : zM) (ls : List (Nat × zV)), zl_get ls 0 = some (.inr (.inr (8, (some t0)))) → zl_get ls 1 = some (.inr (.inr (3, v1))) → kl13 t0 v1 M = some so → Ev zq_T d 249 13 ls [] M (none, so)) (t0 : Nat) (v2 : Option Nat) (M : zM) (so : zM) (ls : List (Nat × zV)) (g0 : zl_get ls 0 = some (.inr (.inr (8, (some t0))))) (g2 : zl_get ls 2 = some (.inr (.inr (3, v2)))) (hs : wk_enter_85 kl13 d t0 v2 M = some so) : Ev zq_T d 249 85 ls [] M (none, so) := by
  unfold wk_enter_85 at hs
  refine e_aldn cd_249_85 g2 ?_
  refine e_aKn cd_249_86 nl_249 rfl rfl ?_
  intro _ gn kp
  have u1 := kp 0 _ g0 rfl rfl
  have u2 := gn
  refine e_goto cd_249_87 rfl ?_
  exact hk13 t0 v2 M so _ u1 u2 hs
theorem tie_wk_enter_58 (kl13 : Nat → Option Nat → zM → Option (zM)) (d : Nat) (hk13 : ∀ (t0 : Nat) (v1 : Option Nat) (M : zM) (so : zM) (ls : List (Nat × zV)), zl_get ls 0 = some (.inr (.inr (8, (some t0)))) → zl_get ls 1 = some (.inr (.inr (3, v1))) → kl13 t0 v1 M = some so → Ev zq_T d 249 13 ls [] M (none, so)) (t0 : Nat) (v1 : Option Nat) (v2 : Option Nat) (M : zM) (so : zM) (ls : List (Nat × zV)) (g0 : zl_get ls 0 = some (.inr (.inr (8, (some t0))))) (g1 : zl_get ls 1 = some (.inr (.inr (3, v1)))) (g2 : zl_get ls 2 = some (.inr (.inr (3, v2)))) (hs : wk_enter_58 kl13 d t0 v1 v2 M = some so) : Ev zq_T d 249 58 ls [] M (none, so) := by
  unfold wk_enter_58 at hs
  refine e_aldn cd_249_58 g2 ?_
  refine k_opt hs (fun h1 hs => ?_) (fun k2 h1 hs => ?_)
  · refine e_nu0 cd_249_59 rfl h1 ?_
    exact tie_wk_enter_85 kl13 d hk13 t0 v2 M so _ g0 g2 hs
  · refine e_nu1 cd_249_59 rfl h1 ?_
    refine e_aldn cd_249_62 g2 ?_
    refine e_getI cd_249_63 (Or.inl fd_249_63) h1 ?_
    refine e_const cd_249_66 ci_5 ?_
    refine k_if hs (fun c3 hs => ?_) (fun c3 hs => ?_)
    · refine e_icN cd_249_67 rfl (fun q => q c3) ?_
      refine e_aldn cd_249_70 g0 ?_
      refine e_getR cd_249_71 fd_249_29 rfl ?_
      refine e_aldn cd_249_74 g2 ?_
      refine e_getI cd_249_75 (Or.inl fd_249_73) h1 ?_
      refine e_const cd_249_78 ci_1 ?_
      refine e_aldn cd_249_79 g1 ?_
      refine k_opt hs (fun _ q => nomatch q) (fun k4 h5 hs => ?_)
      refine e_getI cd_249_80 (Or.inl fd_249_90) h5 ?_
      refine e_pure cd_249_83 rfl ?_
      refine k_opt hs (fun _ q => nomatch q) (fun k6 h7 hs => ?_)
      obtain ⟨c8, hs⟩ := z_ite hs
      refine k_let hs (fun M9 e10 hs => ?_)
      refine e_iast cd_249_84 rfl h7 c8 e10 ?_
      exact tie_wk_enter_85 kl13 d hk13 t0 v2 M9 so _ g0 g2 hs
    · refine e_icJ cd_249_67 rfl c3 ?_
      exact tie_wk_enter_85 kl13 d hk13 t0 v2 M so _ g0 g2 hs
theorem tie_wk_enter_174  (d : Nat)  (t0 : Nat) (M : zM) (so : zM) (ls : List (Nat × zV)) (g0 : zl_get ls 0 = some (.inr (.inr (8, (some t0))))) (hs : wk_enter_174  d t0 M = some so) : Ev zq_T d 249 174 ls [] M (none, so) := by
  unfold wk_enter_174 at hs
  refine e_aldn cd_249_174 g0 ?_
  refine e_aldn cd_249_175 g0 ?_
  refine e_getI cd_249_176 (Or.inl fd_249_36) rfl ?_
  refine k_let hs (fun M1 e2 hs => ?_)
  refine e_putI cd_249_179 pd_249_18 rfl e2 ?_
  refine e_aldn cd_249_182 g0 ?_
  refine e_aldn cd_249_183 g0 ?_
  refine e_getI cd_249_184 (Or.inl fd_249_81) rfl ?_
  refine k_let hs (fun M3 e4 hs => ?_)
  refine e_putI cd_249_187 pd_249_22 rfl e4 ?_
  have e := Option.some.inj hs
  subst e
  exact e_rv cd_249_190 nr_249
theorem tie_wk_enter_131  (d : Nat)  (t0 : Nat) (v1 : Option Nat) (M : zM) (so : zM) (ls : List (Nat × zV)) (g0 : zl_get ls 0 = some (.inr (.inr (8, (some t0))))) (g1 : zl_get ls 1 = some (.inr (.inr (3, v1)))) (hs : wk_enter_131  d t0 v1 M = some so) : Ev zq_T d 249 131 ls [] M (none, so) := by
  unfold wk_enter_131 at hs
  refine e_aldn cd_249_131 g1 ?_
  refine k_opt hs (fun h1 hs => ?_) (fun k2 h1 hs => ?_)
  · refine e_nu0 cd_249_132 rfl h1 ?_
    exact tie_wk_enter_174  d  t0 M so _ g0 hs
  · refine e_nu1 cd_249_132 rfl h1 ?_
    refine e_aldn cd_249_135 g0 ?_
    refine e_getR cd_249_136 fd_249_32 rfl ?_
    refine k_opt hs (fun h3 hs => ?_) (fun k4 h3 hs => ?_)
    · refine e_nu0 cd_249_139 rfl h3 ?_
      exact tie_wk_enter_174  d  t0 M so _ g0 hs
    · refine e_nu1 cd_249_139 rfl h3 ?_
      refine e_aldn cd_249_142 g0 ?_
      refine e_getR cd_249_143 fd_249_32 rfl ?_
      refine k_opt hs (fun _ q => nomatch q) (fun k5 h6 hs => ?_)
      refine e_getI cd_249_146 (Or.inl fd_249_63) h6 ?_
      refine e_const cd_249_149 ci_5 ?_
      refine k_if hs (fun c7 hs => ?_) (fun c7 hs => ?_)
      · refine e_icN cd_249_150 rfl (fun q => q c7) ?_
        refine e_aldn cd_249_153 g0 ?_
        refine e_getR cd_249_154 fd_249_29 rfl ?_
        refine e_aldn cd_249_157 g0 ?_
        refine e_getR cd_249_158 fd_249_32 rfl ?_
        refine k_opt hs (fun _ q => nomatch q) (fun k8 h9 hs => ?_)
        refine e_getI cd_249_161 (Or.inl fd_249_73) h9 ?_
        refine e_pure cd_249_164 rfl ?_
        refine k_opt hs (fun _ q => nomatch q) (fun k10 h11 hs => ?_)
        obtain ⟨c12, hs⟩ := z_ite hs
        refine e_iald cd_249_165 rfl h11 c12 ?_
        refine e_const cd_249_166 ci_1 ?_
        refine e_aldn cd_249_167 g1 ?_
        refine e_getI cd_249_168 (Or.inl fd_249_90) h1 ?_
        refine e_pure cd_249_171 rfl ?_
        refine e_pure cd_249_172 rfl ?_
        obtain ⟨c13, hs⟩ := z_ite hs
        refine k_let hs (fun M14 e15 hs => ?_)
        refine e_iast cd_249_173 rfl h11 c13 e15 ?_
        exact tie_wk_enter_174  d  t0 M14 so _ g0 hs
      · refine e_icJ cd_249_150 rfl c7 ?_
        exact tie_wk_enter_174  d  t0 M so _ g0 hs
theorem tie_wk_enter_90  (d : Nat)  (t0 : Nat) (v1 : Option Nat) (M : zM) (so : zM) (ls : List (Nat × zV)) (g0 : zl_get ls 0 = some (.inr (.inr (8, (some t0))))) (g1 : zl_get ls 1 = some (.inr (.inr (3, v1)))) (hs : wk_enter_90  d t0 v1 M = some so) : Ev zq_T d 249 90 ls [] M (none, so) := by
  unfold wk_enter_90 at hs
  refine e_aldn cd_249_90 g1 ?_
  refine k_opt hs (fun h1 hs => ?_) (fun k2 h1 hs => ?_)
  · refine e_nu0 cd_249_91 rfl h1 ?_
    exact tie_wk_enter_131  d  t0 v1 M so _ g0 g1 hs
  · refine e_nu1 cd_249_91 rfl h1 ?_
    refine e_aldn cd_249_94 g0 ?_
    refine e_getR cd_249_95 fd_249_32 rfl ?_
    refine k_opt hs (fun h3 hs => ?_) (fun k4 h3 hs => ?_)
    · refine e_nu0 cd_249_98 rfl h3 ?_
      exact tie_wk_enter_131  d  t0 v1 M so _ g0 g1 hs
    · refine e_nu1 cd_249_98 rfl h3 ?_
      refine e_aldn cd_249_101 g0 ?_
      refine e_getR cd_249_102 fd_249_32 rfl ?_
      refine k_opt hs (fun _ q => nomatch q) (fun k5 h6 hs => ?_)
      refine e_getI cd_249_105 (Or.inl fd_249_63) h6 ?_
      refine e_const cd_249_108 ci_4 ?_
      refine k_if hs (fun c7 hs => ?_) (fun c7 hs => ?_)
      · refine e_icN cd_249_109 rfl (fun q => q c7) ?_
        refine e_aldn cd_249_112 g0 ?_
        refine e_getR cd_249_113 fd_249_25 rfl ?_
        refine e_aldn cd_249_116 g0 ?_
        refine e_getR cd_249_117 fd_249_32 rfl ?_
        refine k_opt hs (fun _ q => nomatch q) (fun k8 h9 hs => ?_)
        refine e_getI cd_249_120 (Or.inl fd_249_73) h9 ?_
        refine e_pure cd_249_123 rfl ?_
        refine k_opt hs (fun _ q => nomatch q) (fun k10 h11 hs => ?_)
        obtain ⟨c12, hs⟩ := z_ite hs
        refine e_iald cd_249_124 rfl h11 c12 ?_
        refine e_const cd_249_125 ci_1 ?_
        refine e_pure cd_249_126 rfl ?_
        obtain ⟨c13, hs⟩ := z_ite hs
        refine k_let hs (fun M14 e15 hs => ?_)
        refine e_iast cd_249_127 rfl h11 c13 e15 ?_
        refine e_goto cd_249_128 rfl ?_
        exact tie_wk_enter_174  d  t0 M14 so _ g0 hs
      · refine e_icJ cd_249_109 rfl c7 ?_
        exact tie_wk_enter_131  d  t0 v1 M so _ g0 g1 hs
theorem tie_wk_enter_13  (d : Nat)  : ∀ (fuel : Nat) (t0 : Nat) (v1 : Option Nat) (M : zM) (so : zM) (ls : List (Nat × zV)), zl_get ls 0 = some (.inr (.inr (8, (some t0)))) → zl_get ls 1 = some (.inr (.inr (3, v1))) → wk_enter_13  d fuel t0 v1 M = some so → Ev zq_T d 249 13 ls [] M (none, so) := by
  intro fuel
  induction fuel with
  | zero => intro t0 v1 M so ls g0 g1 hs; exact nomatch hs
  | succ fuel ih =>
    intro t0 v1 M so ls g0 g1 hs
    unfold wk_enter_13 at hs
    refine e_aldn cd_249_13 g1 ?_
    refine k_opt hs (fun h1 hs => ?_) (fun k2 h1 hs => ?_)
    · refine e_nu0 cd_249_14 rfl h1 ?_
      exact tie_wk_enter_90  d  t0 v1 M so _ g0 g1 hs
    · refine e_nu1 cd_249_14 rfl h1 ?_
      refine e_aldn cd_249_17 g1 ?_
      refine e_getR cd_249_18 fd_249_60 h1 ?_
      refine e_aldn cd_249_21 g0 ?_
      refine e_getR cd_249_22 fd_249_32 rfl ?_
      refine k_if hs (fun c3 hs => ?_) (fun c3 hs => ?_)
      · refine e_aeq1 cd_249_25 rfl rfl c3 ?_
        exact tie_wk_enter_90  d  t0 v1 M so _ g0 g1 hs
      · refine e_aeq0 cd_249_25 rfl rfl c3 ?_
        refine e_aldn cd_249_28 g1 ?_
        refine e_getR cd_249_29 fd_249_60 h1 ?_
        refine e_aKn cd_249_32 nl_249 rfl rfl ?_
        intro _ gn kp
        have u4 := kp 0 _ g0 rfl rfl
        have u5 := kp 1 _ g1 rfl rfl
        have u6 := gn
        refine e_aldn cd_249_33 u6 ?_
        refine k_opt hs (fun h7 hs => ?_) (fun k8 h7 hs => ?_)
        · refine e_nu0 cd_249_34 rfl h7 ?_
          exact tie_wk_enter_58 (fun p0 p1 m => wk_enter_13  d fuel p0 p1 m) d ih t0 v1 (zm_R M 3 k2 4) M so _ u4 u5 u6 hs
        · refine e_nu1 cd_249_34 rfl h7 ?_
          refine e_aldn cd_249_37 u6 ?_
          refine e_getI cd_249_38 (Or.inl fd_249_63) h7 ?_
          refine e_const cd_249_41 ci_4 ?_
          refine k_if hs (fun c9 hs => ?_) (fun c9 hs => ?_)
          · refine e_icN cd_249_42 rfl (fun q => q c9) ?_
            refine e_aldn cd_249_45 u4 ?_
            refine e_getR cd_249_46 fd_249_25 rfl ?_
            refine e_aldn cd_249_49 u6 ?_
            refine e_getI cd_249_50 (Or.inl fd_249_73) h7 ?_
            refine e_const cd_249_53 ci_1 ?_
            refine k_opt hs (fun _ q => nomatch q) (fun k10 h11 hs => ?_)
            obtain ⟨c12, hs⟩ := z_ite hs
            refine k_let hs (fun M13 e14 hs => ?_)
            refine e_iast cd_249_54 rfl h11 c12 e14 ?_
            refine e_goto cd_249_55 rfl ?_
            exact tie_wk_enter_85 (fun p0 p1 m => wk_enter_13  d fuel p0 p1 m) d ih t0 (zm_R M 3 k2 4) M13 so _ u4 u6 hs
          · refine e_icJ cd_249_42 rfl c9 ?_
            exact tie_wk_enter_58 (fun p0 p1 m => wk_enter_13  d fuel p0 p1 m) d ih t0 v1 (zm_R M 3 k2 4) M so _ u4 u5 u6 hs
theorem tie_wk_enter (d : Nat) (a0 : Nat) (M : zM) (so : zM) (hs : wk_enter d a0 M = some so) : Ev zq_T d 249 0 (zl_args 0 [.inr (.inr (8, some a0))]) [] M (none, so) := by
  unfold wk_enter at hs
  have g0 : zl_get (zl_args 0 [.inr (.inr (8, some a0))]) 0 = some (.inr (.inr (8, (some a0)))) := rfl
  refine e_aldn cd_249_0 g0 ?_
  refine e_getR cd_249_1 fd_249_12 rfl ?_
  refine k_opt hs (fun _ q => nomatch q) (fun k1 h2 hs => ?_)
  refine e_getR cd_249_4 fd_249_56 h2 ?_
  refine e_aldn cd_249_7 g0 ?_
  refine e_getI cd_249_8 (Or.inl fd_249_36) rfl ?_
  refine k_opt hs (fun _ q => nomatch q) (fun k3 h4 hs => ?_)
  obtain ⟨c5, hs⟩ := z_ite hs
  refine e_aald cd_249_11 rfl h4 c5 ?_
  refine e_aKn cd_249_12 nl_249 rfl rfl ?_
  intro _ gn kp
  have u6 := kp 0 _ g0 rfl rfl
  have u7 := gn
  exact tie_wk_enter_13  d  zLF a0 (zm_R M 24 k3 (zm_I M 8 a0 5).toNatClampNeg) M so _ u6 u7 hs
theorem tieb_wk_step  (d : Nat)  (a0 : Nat) (a1 : Int32) (M : zM) (so : Int32 × zM) (hs : wk_step_b  d a0 a1 M = some so) : Ev zq_T (d + 1) 248 0 (zl_args 0 [.inr (.inr (8, some a0)), .inl a1]) [] M (some (.inl so.1), so.2) := by
  unfold wk_step_b at hs
  have g0 : zl_get (zl_args 0 [.inr (.inr (8, some a0)), .inl a1]) 0 = some (.inr (.inr (8, (some a0)))) := rfl
  have g1 : zl_get (zl_args 0 [.inr (.inr (8, some a0)), .inl a1]) 1 = some (.inl a1) := rfl
  refine e_aldn cd_248_0 g0 ?_
  refine e_getR cd_248_1 fd_248_12 rfl ?_
  refine e_ildn cd_248_4 g1 ?_
  refine k_opt hs (fun _ q => nomatch q) (fun k1 h2 hs => ?_)
  obtain ⟨q3, h4, hs⟩ := k_bind hs
  refine e_cvi cd_248_5 kd_248_102 rfl rfl rfl h2 rfl nl_196 rfl rfl (tie_ru_occurrencesOf d k1 a1 M _ h4) ?_
  refine e_iKn cd_248_8 nl_248 rfl rfl ?_
  intro _ gn kp
  have u5 := kp 0 _ g0 rfl rfl
  have u6 := gn
  refine e_ildn cd_248_9 u6 ?_
  refine k_if hs (fun c7 hs => ?_) (fun c7 hs => ?_)
  · refine e_izN cd_248_10 rfl (fun q => q c7) ?_
    refine e_const cd_248_13 ci_0 ?_
    have e := Option.some.inj hs
    subst e
    exact e_rz cd_248_14 nr_248 (Or.inl rfl)
  · refine e_izJ cd_248_10 rfl c7 ?_
    refine e_aldn cd_248_15 u5 ?_
    refine e_ildn cd_248_16 u6 ?_
    obtain ⟨q8, h9, hs⟩ := k_bind hs
    refine e_cvi cd_248_17 kd_248_106 rfl rfl rfl rfl rfl nl_243 rfl rfl (tie_wk_look d a0 q3.1 q3.2 _ h9) ?_
    refine e_pure cd_248_20 rfl ?_
    refine e_aldn cd_248_21 u5 ?_
    refine e_getI cd_248_22 (Or.inl fd_248_36) rfl ?_
    refine e_const cd_248_25 ci_m1 ?_
    refine k_if hs (fun c10 hs => ?_) (fun c10 hs => ?_)
    · refine e_icN cd_248_26 rfl (fun q => q c10) ?_
      refine e_const cd_248_29 ci_0 ?_
      have e := Option.some.inj hs
      subst e
      exact e_rz cd_248_30 nr_248 (Or.inl rfl)
    · refine e_icJ cd_248_26 rfl c10 ?_
      refine e_aldn cd_248_31 u5 ?_
      obtain ⟨q11, h12, hs⟩ := k_bind hs
      refine e_cvi cd_248_32 kd_248_109 rfl rfl rfl rfl rfl nl_249 rfl rfl (tie_wk_enter d a0 q8.2 _ h12) ?_
      refine e_const cd_248_35 ci_1 ?_
      have e := Option.some.inj hs
      subst e
      exact e_rz cd_248_36 nr_248 (Or.inr rfl)
theorem tie_wk_step (d : Nat) (a0 : Nat) (a1 : Int32) (M : zM) (so : Int32 × zM) (hs : wk_step d a0 a1 M = some so) : Ev zq_T d 248 0 (zl_args 0 [.inr (.inr (8, some a0)), .inl a1]) [] M (some (.inl so.1), so.2) := by
  cases d with
  | zero => exact nomatch hs
  | succ d => exact tieb_wk_step d a0 a1 M so hs
theorem tie_wk_begunOf_56  (d : Nat)  (s0 : Int32) (M : zM) (so : Int32 × zM) (ls : List (Nat × zV))  (hs : wk_begunOf_56  d s0 M = some so) : Ev zq_T d 253 56 ls [.inl s0] M (some (.inl so.1), so.2) := by
  unfold wk_begunOf_56 at hs
  have e := Option.some.inj hs
  subst e
  exact e_ri cd_253_56 nr_253
theorem tie_wk_begunOf_41  (d : Nat)  (t0 : Nat) (v1 : Int32) (s0 : Int32) (M : zM) (so : Int32 × zM) (ls : List (Nat × zV)) (g0 : zl_get ls 0 = some (.inr (.inr (8, (some t0))))) (g1 : zl_get ls 1 = some (.inl v1)) (hs : wk_begunOf_41  d t0 v1 s0 M = some so) : Ev zq_T d 253 41 ls [.inl s0] M (some (.inl so.1), so.2) := by
  unfold wk_begunOf_41 at hs
  refine e_iKn cd_253_41 nl_253 rfl rfl ?_
  intro _ gn kp
  have u1 := kp 0 _ g0 rfl rfl
  have u2 := kp 1 _ g1 rfl rfl
  have u3 := gn
  refine e_ildn cd_253_42 u3 ?_
  refine k_if hs (fun c4 hs => ?_) (fun c4 hs => ?_)
  · refine e_izJ cd_253_43 rfl c4 ?_
    refine e_const cd_253_55 ci_0 ?_
    exact tie_wk_begunOf_56  d  0 M so _  hs
  · refine e_izN cd_253_43 rfl c4 ?_
    refine e_aldn cd_253_46 u1 ?_
    refine e_getR cd_253_47 fd_253_29 rfl ?_
    refine e_ildn cd_253_50 u2 ?_
    refine k_opt hs (fun _ q => nomatch q) (fun k5 h6 hs => ?_)
    obtain ⟨c7, hs⟩ := z_ite hs
    refine e_iald cd_253_51 rfl h6 c7 ?_
    refine e_goto cd_253_52 rfl ?_
    exact tie_wk_begunOf_56  d  (zm_I M 20 k5 (v1 : Int32).toNatClampNeg) M so _  hs
theorem tie_wk_begunOf_40  (d : Nat)  (t0 : Nat) (v1 : Int32) (M : zM) (so : Int32 × zM) (ls : List (Nat × zV)) (g0 : zl_get ls 0 = some (.inr (.inr (8, (some t0))))) (g1 : zl_get ls 1 = some (.inl v1)) (hs : wk_begunOf_40  d t0 v1 M = some so) : Ev zq_T d 253 40 ls [] M (some (.inl so.1), so.2) := by
  unfold wk_begunOf_40 at hs
  refine e_const cd_253_40 ci_0 ?_
  exact tie_wk_begunOf_41  d  t0 v1 0 M so _ g0 g1 hs
theorem tie_wk_begunOf (d : Nat) (a0 : Nat) (a1 : Int32) (M : zM) (so : Int32 × zM) (hs : wk_begunOf d a0 a1 M = some so) : Ev zq_T d 253 0 (zl_args 0 [.inr (.inr (8, some a0)), .inl a1]) [] M (some (.inl so.1), so.2) := by
  unfold wk_begunOf at hs
  have g0 : zl_get (zl_args 0 [.inr (.inr (8, some a0)), .inl a1]) 0 = some (.inr (.inr (8, (some a0)))) := rfl
  have g1 : zl_get (zl_args 0 [.inr (.inr (8, some a0)), .inl a1]) 1 = some (.inl a1) := rfl
  refine e_aldn cd_253_0 g0 ?_
  refine e_getR cd_253_1 fd_253_12 rfl ?_
  refine k_opt hs (fun _ q => nomatch q) (fun k1 h2 hs => ?_)
  refine e_getR cd_253_4 fd_253_122 h2 ?_
  refine e_ildn cd_253_7 g1 ?_
  refine k_opt hs (fun _ q => nomatch q) (fun k3 h4 hs => ?_)
  obtain ⟨c5, hs⟩ := z_ite hs
  refine e_aald cd_253_8 rfl h4 c5 ?_
  refine e_aKn cd_253_9 nl_253 rfl rfl ?_
  intro _ gn kp
  have u6 := kp 0 _ g0 rfl rfl
  have u7 := kp 1 _ g1 rfl rfl
  have u8 := gn
  refine e_aldn cd_253_10 u6 ?_
  refine e_getI cd_253_11 (Or.inl fd_253_18) rfl ?_
  refine e_const cd_253_14 ci_m1 ?_
  refine k_if hs (fun c9 hs => ?_) (fun c9 hs => ?_)
  · refine e_icJ cd_253_15 rfl c9 ?_
    exact tie_wk_begunOf_40  d  a0 a1 M so _ u6 u7 hs
  · refine e_icN cd_253_15 rfl c9 ?_
    refine e_aldn cd_253_18 u8 ?_
    refine k_opt hs (fun h10 hs => ?_) (fun k11 h10 hs => ?_)
    · refine e_nu0 cd_253_19 rfl h10 ?_
      exact tie_wk_begunOf_40  d  a0 a1 M so _ u6 u7 hs
    · refine e_nu1 cd_253_19 rfl h10 ?_
      refine e_aldn cd_253_22 u8 ?_
      refine e_getI cd_253_23 (Or.inl fd_253_125) h10 ?_
      refine e_aldn cd_253_26 u6 ?_
      refine e_getI cd_253_27 (Or.inl fd_253_18) rfl ?_
      refine e_pure cd_253_30 rfl ?_
      refine e_const cd_253_31 ci_1 ?_
      refine e_pure cd_253_32 rfl ?_
      refine k_if hs (fun c12 hs => ?_) (fun c12 hs => ?_)
      · refine e_izJ cd_253_33 rfl c12 ?_
        exact tie_wk_begunOf_40  d  a0 a1 M so _ u6 u7 hs
      · refine e_izN cd_253_33 rfl c12 ?_
        refine e_const cd_253_36 ci_1 ?_
        refine e_goto cd_253_37 rfl ?_
        exact tie_wk_begunOf_41  d  a0 a1 1 M so _ u6 u7 hs
theorem tie_wk_timeThatMatters_47  (d : Nat)  (s0 : Int32) (M : zM) (so : Int32 × zM) (ls : List (Nat × zV))  (hs : wk_timeThatMatters_47  d s0 M = some so) : Ev zq_T d 255 47 ls [.inl s0] M (some (.inl so.1), so.2) := by
  unfold wk_timeThatMatters_47 at hs
  have e := Option.some.inj hs
  subst e
  exact e_ri cd_255_47 nr_255
theorem tie_wk_timeThatMatters (d : Nat) (a0 : Nat) (a1 : Int32) (M : zM) (so : Int32 × zM) (hs : wk_timeThatMatters d a0 a1 M = some so) : Ev zq_T d 255 0 (zl_args 0 [.inr (.inr (8, some a0)), .inl a1]) [] M (some (.inl so.1), so.2) := by
  unfold wk_timeThatMatters at hs
  have g0 : zl_get (zl_args 0 [.inr (.inr (8, some a0)), .inl a1]) 0 = some (.inr (.inr (8, (some a0)))) := rfl
  have g1 : zl_get (zl_args 0 [.inr (.inr (8, some a0)), .inl a1]) 1 = some (.inl a1) := rfl
  refine e_ildn cd_255_0 g1 ?_
  refine e_const cd_255_1 ci_m1 ?_
  refine k_if hs (fun c1 hs => ?_) (fun c1 hs => ?_)
  · refine e_icN cd_255_2 rfl (fun q => q c1) ?_
    refine e_const cd_255_5 ci_0 ?_
    have e := Option.some.inj hs
    subst e
    exact e_ri cd_255_6 nr_255
  · refine e_icJ cd_255_2 rfl c1 ?_
    refine e_aldn cd_255_7 g0 ?_
    refine e_getR cd_255_8 fd_255_12 rfl ?_
    refine k_opt hs (fun _ q => nomatch q) (fun k2 h3 hs => ?_)
    refine e_getR cd_255_11 fd_255_96 h3 ?_
    refine e_ildn cd_255_14 g1 ?_
    refine k_opt hs (fun _ q => nomatch q) (fun k4 h5 hs => ?_)
    obtain ⟨c6, hs⟩ := z_ite hs
    refine e_iald cd_255_15 rfl h5 c6 ?_
    refine e_const cd_255_16 ci_m1 ?_
    refine k_if hs (fun c7 hs => ?_) (fun c7 hs => ?_)
    · refine e_icN cd_255_17 rfl (fun q => q c7) ?_
      refine e_aldn cd_255_20 g0 ?_
      refine e_getR cd_255_21 fd_255_25 rfl ?_
      refine e_ildn cd_255_24 g1 ?_
      refine k_opt hs (fun _ q => nomatch q) (fun k8 h9 hs => ?_)
      obtain ⟨c10, hs⟩ := z_ite hs
      refine e_iald cd_255_25 rfl h9 c10 ?_
      refine e_aldn cd_255_26 g0 ?_
      refine e_getR cd_255_27 fd_255_12 rfl ?_
      refine k_opt hs (fun _ q => nomatch q) (fun k11 h12 hs => ?_)
      refine e_getR cd_255_30 fd_255_99 h12 ?_
      refine e_ildn cd_255_33 g1 ?_
      refine k_opt hs (fun _ q => nomatch q) (fun k13 h14 hs => ?_)
      obtain ⟨c15, hs⟩ := z_ite hs
      refine e_iald cd_255_34 rfl h14 c15 ?_
      refine e_min cd_255_35 kd_255_137 rfl ?_
      refine e_goto cd_255_38 rfl ?_
      exact tie_wk_timeThatMatters_47  d  (if (zm_I M 20 k13 (a1 : Int32).toNatClampNeg) < (zm_I M 20 k8 (a1 : Int32).toNatClampNeg) then (zm_I M 20 k13 (a1 : Int32).toNatClampNeg) else (zm_I M 20 k8 (a1 : Int32).toNatClampNeg)) M so _  hs
    · refine e_icJ cd_255_17 rfl c7 ?_
      refine e_aldn cd_255_41 g0 ?_
      refine e_getR cd_255_42 fd_255_25 rfl ?_
      refine e_ildn cd_255_45 g1 ?_
      refine k_opt hs (fun _ q => nomatch q) (fun k16 h17 hs => ?_)
      obtain ⟨c18, hs⟩ := z_ite hs
      refine e_iald cd_255_46 rfl h17 c18 ?_
      exact tie_wk_timeThatMatters_47  d  (zm_I M 20 k16 (a1 : Int32).toNatClampNeg) M so _  hs
theorem tie_wk_state_62  (d : Nat)  : ∀ (fuel : Nat) (t0 : Nat) (v1 : Int32) (v2 : Int32) (M : zM) (so : Int32 × zM) (ls : List (Nat × zV)), zl_get ls 0 = some (.inr (.inr (8, (some t0)))) → zl_get ls 1 = some (.inl v1) → zl_get ls 2 = some (.inl v2) → wk_state_62  d fuel t0 v1 v2 M = some so → Ev zq_T (d + 1) 254 62 ls [] M (some (.inl so.1), so.2) := by
  intro fuel
  induction fuel with
  | zero => intro t0 v1 v2 M so ls g0 g1 g2 hs; exact nomatch hs
  | succ fuel ih =>
    intro t0 v1 v2 M so ls g0 g1 g2 hs
    unfold wk_state_62 at hs
    refine e_ildn cd_254_62 g2 ?_
    refine e_aldn cd_254_63 g0 ?_
    refine e_getR cd_254_64 fd_254_12 rfl ?_
    refine k_opt hs (fun _ q => nomatch q) (fun k1 h2 hs => ?_)
    refine e_getI cd_254_67 (Or.inl fd_254_131) h2 ?_
    refine k_if hs (fun c3 hs => ?_) (fun c3 hs => ?_)
    · refine e_icJ cd_254_70 rfl c3 ?_
      refine e_ildn cd_254_94 g1 ?_
      have e := Option.some.inj hs
      subst e
      exact e_ri cd_254_95 nr_254
    · refine e_icN cd_254_70 rfl c3 ?_
      refine e_ildn cd_254_73 g1 ?_
      refine e_aldn cd_254_74 g0 ?_
      refine e_ildn cd_254_75 g2 ?_
      obtain ⟨q4, h5, hs⟩ := k_bind hs
      refine e_cvi cd_254_76 kd_254_134 rfl rfl rfl rfl rfl nl_253 rfl rfl (tie_wk_begunOf d t0 v2 M _ h5) ?_
      refine e_bip cd_254_79 cb_13 ?_
      refine e_const cd_254_81 ci_4 ?_
      refine e_ildn cd_254_82 g2 ?_
      refine e_pure cd_254_83 rfl ?_
      refine e_pure cd_254_84 rfl ?_
      refine e_pure cd_254_85 rfl ?_
      refine e_pure cd_254_86 rfl ?_
      refine k_let hs (fun x6 e7 hs => ?_)
      refine e_iKn cd_254_87 nl_254 rfl e7 ?_
      intro _ gn kp
      have u8 := kp 0 _ g0 rfl rfl
      have u9 := kp 2 _ g2 rfl rfl
      have u10 := gn
      refine k_let hs (fun x11 e12 hs => ?_)
      refine e_incK cd_254_88 nl_254 rfl u9 ci_1 e12 ?_
      intro _ gn kp
      have u13 := kp 0 _ u8 rfl rfl
      have u14 := kp 1 _ u10 rfl rfl
      have u15 := gn
      refine e_goto cd_254_91 rfl ?_
      exact ih t0 x6 x11 q4.2 so _ u13 u14 u15 hs
theorem tieb_wk_state  (d : Nat)  (a0 : Nat) (M : zM) (so : Int32 × zM) (hs : wk_state_b  d a0 M = some so) : Ev zq_T (d + 1) 254 0 (zl_args 0 [.inr (.inr (8, some a0))]) [] M (some (.inl so.1), so.2) := by
  unfold wk_state_b at hs
  have g0 : zl_get (zl_args 0 [.inr (.inr (8, some a0))]) 0 = some (.inr (.inr (8, (some a0)))) := rfl
  refine e_aldn cd_254_0 g0 ?_
  refine e_getI cd_254_1 (Or.inl fd_254_18) rfl ?_
  refine e_const cd_254_4 ci_m1 ?_
  refine k_if hs (fun c1 hs => ?_) (fun c1 hs => ?_)
  · refine e_icN cd_254_5 rfl (fun q => q c1) ?_
    refine e_const cd_254_8 ci_0 ?_
    have e := Option.some.inj hs
    subst e
    exact e_ri cd_254_9 nr_254
  · refine e_icJ cd_254_5 rfl c1 ?_
    refine e_aldn cd_254_10 g0 ?_
    refine e_getI cd_254_11 (Or.inl fd_254_18) rfl ?_
    refine e_const cd_254_14 ci_1 ?_
    refine e_pure cd_254_15 rfl ?_
    refine k_let hs (fun x2 e3 hs => ?_)
    refine e_iKn cd_254_16 nl_254 rfl e3 ?_
    intro _ gn kp
    have u4 := kp 0 _ g0 rfl rfl
    have u5 := gn
    refine e_ildn cd_254_17 u5 ?_
    refine e_aldn cd_254_18 u4 ?_
    refine e_aldn cd_254_19 u4 ?_
    refine e_getR cd_254_20 fd_254_12 rfl ?_
    refine k_opt hs (fun _ q => nomatch q) (fun k6 h7 hs => ?_)
    refine e_getR cd_254_23 fd_254_116 h7 ?_
    refine e_aldn cd_254_26 u4 ?_
    refine e_getI cd_254_27 (Or.inl fd_254_18) rfl ?_
    refine k_opt hs (fun _ q => nomatch q) (fun k8 h9 hs => ?_)
    obtain ⟨c10, hs⟩ := z_ite hs
    refine e_iald cd_254_30 rfl h9 c10 ?_
    obtain ⟨q11, h12, hs⟩ := k_bind hs
    refine e_cvi cd_254_31 kd_254_128 rfl rfl rfl rfl rfl nl_255 rfl rfl (tie_wk_timeThatMatters d a0 (zm_I M 20 k8 (zm_I M 8 a0 1).toNatClampNeg) M _ h12) ?_
    refine e_const cd_254_34 ci_5 ?_
    refine e_pure cd_254_35 rfl ?_
    refine e_pure cd_254_36 rfl ?_
    refine k_let hs (fun x13 e14 hs => ?_)
    refine e_iKn cd_254_37 nl_254 rfl e14 ?_
    intro _ gn kp
    have u15 := kp 0 _ u4 rfl rfl
    have u16 := gn
    refine e_ildn cd_254_38 u16 ?_
    refine e_aldn cd_254_39 u15 ?_
    refine e_aldn cd_254_40 u15 ?_
    refine e_getR cd_254_41 fd_254_12 rfl ?_
    refine k_opt hs (fun _ q => nomatch q) (fun k17 h18 hs => ?_)
    refine e_getR cd_254_44 fd_254_119 h18 ?_
    refine e_aldn cd_254_47 u15 ?_
    refine e_getI cd_254_48 (Or.inl fd_254_18) rfl ?_
    refine k_opt hs (fun _ q => nomatch q) (fun k19 h20 hs => ?_)
    obtain ⟨c21, hs⟩ := z_ite hs
    refine e_iald cd_254_51 rfl h20 c21 ?_
    obtain ⟨q22, h23, hs⟩ := k_bind hs
    refine e_cvi cd_254_52 kd_254_128 rfl rfl rfl rfl rfl nl_255 rfl rfl (tie_wk_timeThatMatters d a0 (zm_I q11.2 20 k19 (zm_I q11.2 8 a0 1).toNatClampNeg) q11.2 _ h23) ?_
    refine e_bip cd_254_55 cb_9 ?_
    refine e_pure cd_254_57 rfl ?_
    refine e_pure cd_254_58 rfl ?_
    refine k_let hs (fun x24 e25 hs => ?_)
    refine e_iKn cd_254_59 nl_254 rfl e25 ?_
    intro _ gn kp
    have u26 := kp 0 _ u15 rfl rfl
    have u27 := gn
    refine e_const cd_254_60 ci_0 ?_
    refine e_iKn cd_254_61 nl_254 rfl rfl ?_
    intro _ gn kp
    have u28 := kp 0 _ u26 rfl rfl
    have u29 := kp 1 _ u27 rfl rfl
    have u30 := gn
    exact tie_wk_state_62  d  zLF a0 x24 0 q22.2 so _ u28 u29 u30 hs
theorem tie_wk_state (d : Nat) (a0 : Nat) (M : zM) (so : Int32 × zM) (hs : wk_state d a0 M = some so) : Ev zq_T d 254 0 (zl_args 0 [.inr (.inr (8, some a0))]) [] M (some (.inl so.1), so.2) := by
  cases d with
  | zero => exact nomatch hs
  | succ d => exact tieb_wk_state d a0 M so hs
theorem tie_wk_begin (d : Nat) (a0 : Nat) (a1 : Option Nat) (M : zM) (so : zM) (hs : wk_begin d a0 a1 M = some so) : Ev zq_T d 242 0 (zl_args 0 [.inr (.inr (8, some a0)), .inr (.inr (5, a1))]) [] M (none, so) := by
  unfold wk_begin at hs
  have g0 : zl_get (zl_args 0 [.inr (.inr (8, some a0)), .inr (.inr (5, a1))]) 0 = some (.inr (.inr (8, (some a0)))) := rfl
  have g1 : zl_get (zl_args 0 [.inr (.inr (8, some a0)), .inr (.inr (5, a1))]) 1 = some (.inr (.inr (5, a1))) := rfl
  refine e_aldn cd_242_0 g0 ?_
  refine e_aldn cd_242_1 g1 ?_
  refine k_let hs (fun M1 e2 hs => ?_)
  refine e_putR cd_242_2 pd_242_12 rfl e2 ?_
  refine e_aldn cd_242_5 g0 ?_
  refine e_const cd_242_6 ci_m1 ?_
  refine k_let hs (fun M3 e4 hs => ?_)
  refine e_putI cd_242_7 pd_242_18 rfl e4 ?_
  refine e_aldn cd_242_10 g0 ?_
  refine e_const cd_242_11 ci_m1 ?_
  refine k_let hs (fun M5 e6 hs => ?_)
  refine e_putI cd_242_12 pd_242_22 rfl e6 ?_
  have e := Option.some.inj hs
  subst e
  exact e_rv cd_242_15 nr_242
theorem tie_wk_setTime_12  (d : Nat)   (M : zM) (so : zM) (ls : List (Nat × zV))  (hs : wk_setTime_12  d  M = some so) : Ev zq_T d 257 12 ls [] M (none, so) := by
  unfold wk_setTime_12 at hs
  have e := Option.some.inj hs
  subst e
  exact e_rv cd_257_12 nr_257
theorem tie_wk_setTime (d : Nat) (a0 : Nat) (a1 : Int32) (a2 : Int32) (M : zM) (so : zM) (hs : wk_setTime d a0 a1 a2 M = some so) : Ev zq_T d 257 0 (zl_args 0 [.inr (.inr (8, some a0)), .inl a1, .inl a2]) [] M (none, so) := by
  unfold wk_setTime at hs
  have g0 : zl_get (zl_args 0 [.inr (.inr (8, some a0)), .inl a1, .inl a2]) 0 = some (.inr (.inr (8, (some a0)))) := rfl
  have g1 : zl_get (zl_args 0 [.inr (.inr (8, some a0)), .inl a1, .inl a2]) 1 = some (.inl a1) := rfl
  have g2 : zl_get (zl_args 0 [.inr (.inr (8, some a0)), .inl a1, .inl a2]) 2 = some (.inl a2) := rfl
  refine e_ildn cd_257_0 g1 ?_
  refine e_const cd_257_1 ci_m1 ?_
  refine k_if hs (fun c1 hs => ?_) (fun c1 hs => ?_)
  · refine e_icJ cd_257_2 rfl c1 ?_
    exact tie_wk_setTime_12  d   M so _  hs
  · refine e_icN cd_257_2 rfl c1 ?_
    refine e_aldn cd_257_5 g0 ?_
    refine e_getR cd_257_6 fd_257_25 rfl ?_
    refine e_ildn cd_257_9 g1 ?_
    refine e_ildn cd_257_10 g2 ?_
    refine k_opt hs (fun _ q => nomatch q) (fun k2 h3 hs => ?_)
    obtain ⟨c4, hs⟩ := z_ite hs
    refine k_let hs (fun M5 e6 hs => ?_)
    refine e_iast cd_257_11 rfl h3 c4 e6 ?_
    exact tie_wk_setTime_12  d   M5 so _  hs
theorem tie_wk_resume_71  (d : Nat)  : ∀ (fuel : Nat) (t0 : Nat) (v2 : Int32) (v3 : Int32) (M : zM) (so : zM) (ls : List (Nat × zV)), zl_get ls 0 = some (.inr (.inr (8, (some t0)))) → zl_get ls 2 = some (.inl v2) → zl_get ls 3 = some (.inl v3) → wk_resume_71  d fuel t0 v2 v3 M = some so → Ev zq_T (d + 1) 256 71 ls [] M (none, so) := by
  intro fuel
  induction fuel with
  | zero => intro t0 v2 v3 M so ls g0 g2 g3 hs; exact nomatch hs
  | succ fuel ih =>
    intro t0 v2 v3 M so ls g0 g2 g3 hs
    unfold wk_resume_71 at hs
    refine e_ildn cd_256_71 g3 ?_
    refine e_aldn cd_256_72 g0 ?_
    refine e_getR cd_256_73 fd_256_12 rfl ?_
    refine k_opt hs (fun _ q => nomatch q) (fun k1 h2 hs => ?_)
    refine e_getI cd_256_76 (Or.inl fd_256_131) h2 ?_
    refine k_if hs (fun c3 hs => ?_) (fun c3 hs => ?_)
    · refine e_icJ cd_256_79 rfl c3 ?_
      have e := Option.some.inj hs
      subst e
      exact e_rv cd_256_105 nr_256
    · refine e_icN cd_256_79 rfl c3 ?_
      refine e_aldn cd_256_82 g0 ?_
      refine e_getR cd_256_83 fd_256_29 rfl ?_
      refine e_ildn cd_256_86 g3 ?_
      refine e_ildn cd_256_87 g2 ?_
      refine e_bip cd_256_88 cb_13 ?_
      refine e_const cd_256_90 ci_4 ?_
      refine e_ildn cd_256_91 g3 ?_
      refine e_pure cd_256_92 rfl ?_
      refine e_pure cd_256_93 rfl ?_
      refine e_pure cd_256_94 rfl ?_
      refine e_bip cd_256_95 cb_15 ?_
      refine e_pure cd_256_97 rfl ?_
      refine k_opt hs (fun _ q => nomatch q) (fun k4 h5 hs => ?_)
      obtain ⟨c6, hs⟩ := z_ite hs
      refine k_let hs (fun M7 e8 hs => ?_)
      refine e_iast cd_256_98 rfl h5 c6 e8 ?_
      refine k_let hs (fun x9 e10 hs => ?_)
      refine e_incK cd_256_99 nl_256 rfl g3 ci_1 e10 ?_
      intro _ gn kp
      have u11 := kp 0 _ g0 rfl rfl
      have u12 := kp 2 _ g2 rfl rfl
      have u13 := gn
      refine e_goto cd_256_102 rfl ?_
      exact ih t0 v2 x9 M7 so _ u11 u12 u13 hs
theorem tieb_wk_resume  (d : Nat)  (a0 : Nat) (a1 : Option Nat) (a2 : Int32) (M : zM) (so : zM) (hs : wk_resume_b  d a0 a1 a2 M = some so) : Ev zq_T (d + 1) 256 0 (zl_args 0 [.inr (.inr (8, some a0)), .inr (.inr (5, a1)), .inl a2]) [] M (none, so) := by
  unfold wk_resume_b at hs
  have g0 : zl_get (zl_args 0 [.inr (.inr (8, some a0)), .inr (.inr (5, a1)), .inl a2]) 0 = some (.inr (.inr (8, (some a0)))) := rfl
  have g1 : zl_get (zl_args 0 [.inr (.inr (8, some a0)), .inr (.inr (5, a1)), .inl a2]) 1 = some (.inr (.inr (5, a1))) := rfl
  have g2 : zl_get (zl_args 0 [.inr (.inr (8, some a0)), .inr (.inr (5, a1)), .inl a2]) 2 = some (.inl a2) := rfl
  refine e_aldn cd_256_0 g0 ?_
  refine e_aldn cd_256_1 g1 ?_
  obtain ⟨q1, h2, hs⟩ := k_bind hs
  refine e_cvi cd_256_2 kd_256_143 rfl rfl rfl rfl rfl nl_242 rfl rfl (tie_wk_begin d a0 a1 M _ h2) ?_
  refine e_aldn cd_256_5 g0 ?_
  refine e_ildn cd_256_6 g2 ?_
  refine e_bip cd_256_7 cb_31 ?_
  refine e_pure cd_256_9 rfl ?_
  refine e_const cd_256_10 ci_1 ?_
  refine e_pure cd_256_11 rfl ?_
  refine k_let hs (fun M3 e4 hs => ?_)
  refine e_putI cd_256_12 pd_256_18 rfl e4 ?_
  refine e_aldn cd_256_15 g0 ?_
  refine e_getI cd_256_16 (Or.inl fd_256_18) rfl ?_
  refine e_const cd_256_19 ci_m1 ?_
  refine k_if hs (fun c5 hs => ?_) (fun c5 hs => ?_)
  · refine e_icN cd_256_20 rfl (fun q => q c5) ?_
    have e := Option.some.inj hs
    subst e
    exact e_rv cd_256_23 nr_256
  · refine e_icJ cd_256_20 rfl c5 ?_
    refine e_aldn cd_256_24 g0 ?_
    refine e_aldn cd_256_25 g0 ?_
    refine e_getR cd_256_26 fd_256_12 rfl ?_
    refine k_opt hs (fun _ q => nomatch q) (fun k6 h7 hs => ?_)
    refine e_getR cd_256_29 fd_256_116 h7 ?_
    refine e_aldn cd_256_32 g0 ?_
    refine e_getI cd_256_33 (Or.inl fd_256_18) rfl ?_
    refine k_opt hs (fun _ q => nomatch q) (fun k8 h9 hs => ?_)
    obtain ⟨c10, hs⟩ := z_ite hs
    refine e_iald cd_256_36 rfl h9 c10 ?_
    refine e_ildn cd_256_37 g2 ?_
    refine e_const cd_256_38 ci_5 ?_
    refine e_pure cd_256_39 rfl ?_
    refine e_bip cd_256_40 cb_15 ?_
    refine e_pure cd_256_42 rfl ?_
    obtain ⟨q11, h12, hs⟩ := k_bind hs
    refine e_cvi cd_256_43 kd_256_147 rfl rfl rfl rfl rfl nl_257 rfl rfl (tie_wk_setTime d a0 (zm_I M3 20 k8 (zm_I M3 8 a0 1).toNatClampNeg) ((a2 >>> (5 &&& 31)) &&& 15) M3 _ h12) ?_
    refine e_aldn cd_256_46 g0 ?_
    refine e_aldn cd_256_47 g0 ?_
    refine e_getR cd_256_48 fd_256_12 rfl ?_
    refine k_opt hs (fun _ q => nomatch q) (fun k13 h14 hs => ?_)
    refine e_getR cd_256_51 fd_256_119 h14 ?_
    refine e_aldn cd_256_54 g0 ?_
    refine e_getI cd_256_55 (Or.inl fd_256_18) rfl ?_
    refine k_opt hs (fun _ q => nomatch q) (fun k15 h16 hs => ?_)
    obtain ⟨c17, hs⟩ := z_ite hs
    refine e_iald cd_256_58 rfl h16 c17 ?_
    refine e_ildn cd_256_59 g2 ?_
    refine e_bip cd_256_60 cb_9 ?_
    refine e_pure cd_256_62 rfl ?_
    refine e_bip cd_256_63 cb_15 ?_
    refine e_pure cd_256_65 rfl ?_
    obtain ⟨q18, h19, hs⟩ := k_bind hs
    refine e_cvi cd_256_66 kd_256_147 rfl rfl rfl rfl rfl nl_257 rfl rfl (tie_wk_setTime d a0 (zm_I q11 20 k15 (zm_I q11 8 a0 1).toNatClampNeg) ((a2 >>> (9 &&& 31)) &&& 15) q11 _ h19) ?_
    refine e_const cd_256_69 ci_0 ?_
    refine e_iKn cd_256_70 nl_256 rfl rfl ?_
    intro _ gn kp
    have u20 := kp 0 _ g0 rfl rfl
    have u21 := kp 2 _ g2 rfl rfl
    have u22 := gn
    exact tie_wk_resume_71  d  zLF a0 a2 0 q18 so _ u20 u21 u22 hs
theorem tie_wk_resume (d : Nat) (a0 : Nat) (a1 : Option Nat) (a2 : Int32) (M : zM) (so : zM) (hs : wk_resume d a0 a1 a2 M = some so) : Ev zq_T d 256 0 (zl_args 0 [.inr (.inr (8, some a0)), .inr (.inr (5, a1)), .inl a2]) [] M (none, so) := by
  cases d with
  | zero => exact nomatch hs
  | succ d => exact tieb_wk_resume d a0 a1 a2 M so hs
theorem tie_di_stepFrom_29  (d : Nat)  (s0 : Int32) (M : zM) (so : Int32 × zM) (ls : List (Nat × zV))  (hs : di_stepFrom_29  d s0 M = some so) : Ev zq_T (d + 1) 139 29 ls [.inl s0] M (some (.inl so.1), so.2) := by
  unfold di_stepFrom_29 at hs
  have e := Option.some.inj hs
  subst e
  exact e_ri cd_139_29 nr_139
theorem tieb_di_stepFrom  (d : Nat)  (a0 : Option Nat) (a1 : Int32) (a2 : Int32) (a3 : Option Nat) (M : zM) (so : Int32 × zM) (hs : di_stepFrom_b  d a0 a1 a2 a3 M = some so) : Ev zq_T (d + 1) 139 0 (zl_args 0 [.inr (.inr (5, a0)), .inl a1, .inl a2, .inr (.inr (8, a3))]) [] M (some (.inl so.1), so.2) := by
  unfold di_stepFrom_b at hs
  have g0 : zl_get (zl_args 0 [.inr (.inr (5, a0)), .inl a1, .inl a2, .inr (.inr (8, a3))]) 0 = some (.inr (.inr (5, a0))) := rfl
  have g1 : zl_get (zl_args 0 [.inr (.inr (5, a0)), .inl a1, .inl a2, .inr (.inr (8, a3))]) 1 = some (.inl a1) := rfl
  have g2 : zl_get (zl_args 0 [.inr (.inr (5, a0)), .inl a1, .inl a2, .inr (.inr (8, a3))]) 2 = some (.inl a2) := rfl
  have g3 : zl_get (zl_args 0 [.inr (.inr (5, a0)), .inl a1, .inl a2, .inr (.inr (8, a3))]) 3 = some (.inr (.inr (8, a3))) := rfl
  refine e_ildn cd_139_0 g1 ?_
  refine e_const cd_139_1 ci_m1 ?_
  refine k_if hs (fun c1 hs => ?_) (fun c1 hs => ?_)
  · refine e_icN cd_139_2 rfl (fun q => q c1) ?_
    refine e_const cd_139_5 ci_m1 ?_
    have e := Option.some.inj hs
    subst e
    exact e_ri cd_139_6 nr_139
  · refine e_icJ cd_139_2 rfl c1 ?_
    refine e_aldn cd_139_7 g3 ?_
    refine e_aldn cd_139_8 g0 ?_
    refine e_ildn cd_139_9 g1 ?_
    refine k_opt hs (fun _ q => nomatch q) (fun k2 h3 hs => ?_)
    obtain ⟨q4, h5, hs⟩ := k_bind hs
    refine e_cvi cd_139_10 kd_139_96 rfl rfl rfl h3 rfl nl_256 rfl rfl (tie_wk_resume d k2 a0 a1 M _ h5) ?_
    refine e_aldn cd_139_13 g3 ?_
    refine e_ildn cd_139_14 g2 ?_
    obtain ⟨q6, h7, hs⟩ := k_bind hs
    refine e_cvi cd_139_15 kd_139_100 rfl rfl rfl h3 rfl nl_248 rfl rfl (tie_wk_step d k2 a2 q4 _ h7) ?_
    refine k_if hs (fun c8 hs => ?_) (fun c8 hs => ?_)
    · refine e_izJ cd_139_18 rfl c8 ?_
      refine e_const cd_139_28 ci_m1 ?_
      exact tie_di_stepFrom_29  d  (-1) q6.2 so _  hs
    · refine e_izN cd_139_18 rfl c8 ?_
      refine e_aldn cd_139_21 g3 ?_
      obtain ⟨q9, h10, hs⟩ := k_bind hs
      refine e_cvi cd_139_22 kd_139_104 rfl rfl rfl h3 rfl nl_254 rfl rfl (tie_wk_state d k2 q6.2 _ h10) ?_
      refine e_goto cd_139_25 rfl ?_
      exact tie_di_stepFrom_29  d  q9.1 q9.2 so _  hs
theorem tie_di_stepFrom (d : Nat) (a0 : Option Nat) (a1 : Int32) (a2 : Int32) (a3 : Option Nat) (M : zM) (so : Int32 × zM) (hs : di_stepFrom d a0 a1 a2 a3 M = some so) : Ev zq_T d 139 0 (zl_args 0 [.inr (.inr (5, a0)), .inl a1, .inl a2, .inr (.inr (8, a3))]) [] M (some (.inl so.1), so.2) := by
  cases d with
  | zero => exact nomatch hs
  | succ d => exact tieb_di_stepFrom d a0 a1 a2 a3 M so hs
theorem tie_wk_canEnd_16  (d : Nat)  (s0 : Int32) (M : zM) (so : Int32 × zM) (ls : List (Nat × zV))  (hs : wk_canEnd_16  d s0 M = some so) : Ev zq_T (d + 1) 250 16 ls [.inl s0] M (some (.inl so.1), so.2) := by
  unfold wk_canEnd_16 at hs
  obtain ⟨c1, hs⟩ := z_ite hs
  have e := Option.some.inj hs
  subst e
  exact e_rz cd_250_16 nr_250 c1
theorem tieb_wk_canEnd  (d : Nat)  (a0 : Nat) (M : zM) (so : Int32 × zM) (hs : wk_canEnd_b  d a0 M = some so) : Ev zq_T (d + 1) 250 0 (zl_args 0 [.inr (.inr (8, some a0))]) [] M (some (.inl so.1), so.2) := by
  unfold wk_canEnd_b at hs
  have g0 : zl_get (zl_args 0 [.inr (.inr (8, some a0))]) 0 = some (.inr (.inr (8, (some a0)))) := rfl
  refine e_aldn cd_250_0 g0 ?_
  refine e_const cd_250_1 ci_0 ?_
  obtain ⟨q1, h2, hs⟩ := k_bind hs
  refine e_cvi cd_250_2 kd_250_106 rfl rfl rfl rfl rfl nl_243 rfl rfl (tie_wk_look d a0 0 M _ h2) ?_
  refine e_ldcI cd_250_5 od_250_55 ?_
  refine e_pure cd_250_7 rfl ?_
  refine k_if hs (fun c3 hs => ?_) (fun c3 hs => ?_)
  · refine e_izJ cd_250_8 rfl c3 ?_
    refine e_const cd_250_15 ci_0 ?_
    exact tie_wk_canEnd_16  d  0 q1.2 so _  hs
  · refine e_izN cd_250_8 rfl c3 ?_
    refine e_const cd_250_11 ci_1 ?_
    refine e_goto cd_250_12 rfl ?_
    exact tie_wk_canEnd_16  d  1 q1.2 so _  hs
theorem tie_wk_canEnd (d : Nat) (a0 : Nat) (M : zM) (so : Int32 × zM) (hs : wk_canEnd d a0 M = some so) : Ev zq_T d 250 0 (zl_args 0 [.inr (.inr (8, some a0))]) [] M (some (.inl so.1), so.2) := by
  cases d with
  | zero => exact nomatch hs
  | succ d => exact tieb_wk_canEnd d a0 M so hs
theorem tie_di_advance_95  (d : Nat)  (s0 : Option Nat) (s1 : Int32) (M : zM) (so : zM) (ls : List (Nat × zV))  (hs : di_advance_95  d s0 s1 M = some so) : Ev zq_T (d + 1) 138 95 ls [.inl s1, .inr (.inr (0, s0))] M (none, so) := by
  unfold di_advance_95 at hs
  refine k_opt hs (fun _ q => nomatch q) (fun k1 h2 hs => ?_)
  obtain ⟨c3, hs⟩ := z_ite hs
  refine k_let hs (fun M4 e5 hs => ?_)
  refine e_putZ cd_138_95 pd_138_71 c3 h2 e5 ?_
  have e := Option.some.inj hs
  subst e
  exact e_rv cd_138_98 nr_138
theorem tie_di_advance_80  (d : Nat)  (t0 : Nat) (v6 : Int32) (s0 : Int32) (M : zM) (so : zM) (ls : List (Nat × zV)) (g0 : zl_get ls 0 = some (.inr (.inr (0, (some t0))))) (g6 : zl_get ls 6 = some (.inl v6)) (hs : di_advance_80  d t0 v6 s0 M = some so) : Ev zq_T (d + 1) 138 80 ls [.inl s0] M (none, so) := by
  unfold di_advance_80 at hs
  refine e_iK cd_138_80 nl_138 rfl rfl ?_
  intro _ gn kp
  have u1 := kp 0 _ g0 rfl rfl
  have u2 := kp 6 _ g6 rfl rfl
  have u3 := gn
  refine e_aldn cd_138_82 u1 ?_
  refine e_ild cd_138_83 u2 ?_
  refine e_ild cd_138_85 u3 ?_
  refine k_if hs (fun c4 hs => ?_) (fun c4 hs => ?_)
  · refine e_icJ cd_138_87 rfl c4 ?_
    refine e_const cd_138_94 ci_0 ?_
    exact tie_di_advance_95  d  (some t0) 0 M so _  hs
  · refine e_icN cd_138_87 rfl c4 ?_
    refine e_const cd_138_90 ci_1 ?_
    refine e_goto cd_138_91 rfl ?_
    exact tie_di_advance_95  d  (some t0) 1 M so _  hs
theorem tie_di_advance_79  (d : Nat)  (t0 : Nat) (v6 : Int32) (M : zM) (so : zM) (ls : List (Nat × zV)) (g0 : zl_get ls 0 = some (.inr (.inr (0, (some t0))))) (g6 : zl_get ls 6 = some (.inl v6)) (hs : di_advance_79  d t0 v6 M = some so) : Ev zq_T (d + 1) 138 79 ls [] M (none, so) := by
  unfold di_advance_79 at hs
  refine e_const cd_138_79 ci_0 ?_
  exact tie_di_advance_80  d  t0 v6 0 M so _ g0 g6 hs
theorem tie_di_advance_39  (d : Nat)  (t0 : Nat) (v2 : Option Nat) (v3 : Int32) (v4 : Int32) (v5 : Option Nat) (s0 : Int32) (M : zM) (so : zM) (ls : List (Nat × zV)) (g0 : zl_get ls 0 = some (.inr (.inr (0, (some t0))))) (g2 : zl_get ls 2 = some (.inr (.inr (5, v2)))) (g3 : zl_get ls 3 = some (.inl v3)) (g4 : zl_get ls 4 = some (.inl v4)) (g5 : zl_get ls 5 = some (.inr (.inr (8, v5)))) (hs : di_advance_39  d t0 v2 v3 v4 v5 s0 M = some so) : Ev zq_T (d + 1) 138 39 ls [.inl s0] M (none, so) := by
  unfold di_advance_39 at hs
  refine e_iK cd_138_39 nl_138 rfl rfl ?_
  intro _ gn kp
  have u1 := kp 0 _ g0 rfl rfl
  have u2 := kp 2 _ g2 rfl rfl
  have u3 := kp 3 _ g3 rfl rfl
  have u4 := kp 4 _ g4 rfl rfl
  have u5 := kp 5 _ g5 rfl rfl
  have u6 := gn
  refine e_aldn cd_138_41 u1 ?_
  refine e_aldn cd_138_42 u2 ?_
  refine e_aldn cd_138_43 u1 ?_
  refine e_getR cd_138_44 fd_138_28 rfl ?_
  refine e_ildn cd_138_47 u3 ?_
  refine k_opt hs (fun _ q => nomatch q) (fun k7 h8 hs => ?_)
  obtain ⟨c9, hs⟩ := z_ite hs
  refine e_iald cd_138_48 rfl h8 c9 ?_
  refine e_ild cd_138_49 u4 ?_
  refine e_ald cd_138_51 u5 ?_
  obtain ⟨q10, h11, hs⟩ := k_bind hs
  refine e_cst cd_138_53 kd_138_87 rfl rfl rfl nl_139 rfl rfl (tie_di_stepFrom d v2 (zm_I M 20 k7 (v3 : Int32).toNatClampNeg) v4 v5 M _ h11) ?_
  refine k_let hs (fun M12 e13 hs => ?_)
  refine e_putI cd_138_56 pd_138_80 rfl e13 ?_
  refine e_aldn cd_138_59 u1 ?_
  refine e_getI cd_138_60 (Or.inl fd_138_80) rfl ?_
  refine e_const cd_138_63 ci_m1 ?_
  refine k_if hs (fun c14 hs => ?_) (fun c14 hs => ?_)
  · refine e_icJ cd_138_64 rfl c14 ?_
    exact tie_di_advance_79  d  t0 s0 M12 so _ u1 u6 hs
  · refine e_icN cd_138_64 rfl c14 ?_
    refine e_ald cd_138_67 u5 ?_
    refine k_opt hs (fun _ q => nomatch q) (fun k15 h16 hs => ?_)
    obtain ⟨q17, h18, hs⟩ := k_bind hs
    refine e_cvi cd_138_69 kd_138_91 rfl rfl rfl h16 rfl nl_250 rfl rfl (tie_wk_canEnd d k15 M12 _ h18) ?_
    refine k_if hs (fun c19 hs => ?_) (fun c19 hs => ?_)
    · refine e_izJ cd_138_72 rfl c19 ?_
      exact tie_di_advance_79  d  t0 s0 q17.2 so _ u1 u6 hs
    · refine e_izN cd_138_72 rfl c19 ?_
      refine e_const cd_138_75 ci_1 ?_
      refine e_goto cd_138_76 rfl ?_
      exact tie_di_advance_80  d  t0 s0 1 q17.2 so _ u1 u6 hs
