/-! THE CLASS: unlike, mended -/
def py_mv (e : Option (Option yE)) (k : Nat) : Int32 := match e with
  | none => -1
  | some none => if k = 0 then 0 else -1
  | some (some c) => if k = 0 then nI c.1 else if k = 1 then nI c.2.1 else if c.1 = 1 then -1 else nI c.2.2
def py_uv (w : Option (List Nat)) (k : Int32) : Int32 := match w with
  | none => -1
  | some w => if k = -1 then nI w.length else match zin k w.length with
    | none => -1
    | some i => match w[i]? with
      | none => -1
      | some l => nI l
theorem df_self {P : yP} (n : Nat) (a : Option yS) : py_df P P n a a = none := by
  cases h : py_df P P n a a with
  | none => rfl
  | some w =>
    have := (df_ss n a a w h).2.2.1
    unfold py_dfs at this
    simp at this
theorem ul_self {P : yP} : ∀ l : List Nat, py_ul P P l = none := by
  intro l
  induction l with
  | nil => rfl
  | cons n l ih => rw [py_ul, df_self]; exact ih
section
variable {ac N0 S0 d R : Nat} {M M' : zM} {S : yZ} {g : yG2} {W : Nat → Nat → Nat → Prop} {Ps : Nat → yP}
theorem cl_unl_83 {w : Option (List Nat)} (o13 : zm_R M 11 ac 13 = some (ac + 235)) (hl : di_l M (ac + 235)) (hu : du_x M (ac + 235) w) (k : Int32) : cr_unlike_83 d ac k M = some ((if k < -1 then -1 else py_uv w k), M) := by
  unfold cr_unlike_83 py_uv
  simp only [o13, cr_unlike_123, cr_unlike_124]
  have cm : (k < -1) → k < 0 := by
    intro h
    rw [Int32.lt_iff_toInt_lt] at h ⊢
    have : (-1 : Int32).toInt = -1 := by decide
    have : (0 : Int32).toInt = 0 := by decide
    omega
  have cn : k < 0 → ¬ k = -1 → k < -1 := by
    intro h h2
    rw [Int32.lt_iff_toInt_lt] at h ⊢
    have e1 : (-1 : Int32).toInt = -1 := by decide
    have : (0 : Int32).toInt = 0 := by decide
    have : k.toInt ≠ -1 := fun y => h2 (Int32.toInt_inj.mp (by omega))
    omega
  by_cases q : k = -1
  · rw [if_pos q, if_neg (by rw [q]; decide)]
    cases w with
    | none =>
      have hu : zm_I M 0 (ac + 235) 0 = -1 := hu
      rw [hu]
    | some w => rw [hu.1]; simp only [if_pos q]
  · rw [if_neg q]
    by_cases q0 : k < 0
    · rw [if_pos q0, if_pos (cn q0 q)]
    · rw [if_neg q0, if_neg (fun y => q0 (cm y))]
      cases w with
      | none =>
        have hu : zm_I M 0 (ac + 235) 0 = -1 := hu
        have hle : (-1 : Int32) ≤ k := by
          rw [Int32.le_iff_toInt_le]
          rw [Int32.lt_iff_toInt_lt] at q0
          have e1 : (-1 : Int32).toInt = -1 := by decide
          have : (0 : Int32).toInt = 0 := by decide
          omega
        rw [hu, if_pos hle]
      | some w =>
        obtain ⟨u1, u2, u3, u4⟩ := hu
        rw [u1]
        simp only [if_neg q]
        rcases zin_c (show w.length < 2 ^ 31 by omega) k with ⟨hzi, h | ⟨j1, j2, j3⟩⟩ | ⟨i, hi, e, hzi, j1, j2, j3⟩
        · exact absurd h q0
        · rw [if_pos j2, hzi]
        · have hg : w[i]? = some w[i] := by simp
          have hzk : z_in k 4 := by rw [e]; exact nI_in (by omega) (by omega)
          rw [if_neg j2, hzi]
          simp only [hl.1.1, hl.1.2, if_pos hzk, hg]
          rw [e, nI_clamp (by omega), u4 i _ hg]
theorem cl_isOf (x y : Int32) {di : Nat} : di_isOf d di x y M = some (zb (decide (zm_I M 0 di 2 = x ∧ zm_I M 0 di 3 = y)), M) := by
  unfold di_isOf di_isOf_20 di_isOf_21
  by_cases q : zm_I M 0 di 2 = x
  · by_cases q2 : zm_I M 0 di 3 = y
    · simp [q, q2, zb]
    · simp [q, q2, zb]
  · simp [q, zb]
theorem cl_unlike (hI : cI ac N0 S0 M S g) (hz : zz_ok S) (hd : 7 ≤ d) (x y k : Int32) : cf_r ac N0 S0 M (cr_unlike d ac x y k M) (sp_unl S x y k) S := by
  obtain ⟨d, rfl⟩ : ∃ d', d = d' + 1 := ⟨d - 1, by omega⟩
  have eb : cr_unlike (d + 1) ac x y k M = cr_unlike_b d ac x y k M := rfl
  rw [eb]
  have hI' := hI
  obtain ⟨_, ⟨⟨o0, o2, o3, o4, o5, o6, o7, o8, o9, o10, o11, o12, o13⟩, o1⟩, hT, _, _, _, _, hL, hrd, ⟨hU, hC, hS, hD⟩, _⟩ := hI
  unfold cr_unlike_b sp_unl
  rw [cl_ruleAt hI', Option.bind_some, cl_ruleAt hI', Option.bind_some]
  simp only [cr_unlike_45]
  have h8 := hz.2.1
  cases hx : zin x S.2.1.1 with
  | none => exact cf_same hI' rfl
  | some r =>
    cases hy : zin y S.2.1.1 with
    | none => exact cf_same hI' rfl
    | some o =>
      obtain ⟨hr, ex⟩ := zin_some (show S.2.1.1 < 2 ^ 31 by omega) hx
      obtain ⟨ho, ey⟩ := zin_some (show S.2.1.1 < 2 ^ 31 by omega) hy
      obtain ⟨hP, hX, _, _, x16, hr8⟩ := cI_r hI' hz hr
      obtain ⟨hQ, hY, _, _, y16, ho8⟩ := cI_r hI' hz ho
      have hb := cI_b hI' hr8
      have hb2 := cI_b hI' ho8
      simp only [Option.map_some, x16, y16, pb_zb0]
      by_cases qs : py_sure (S.2.1.2 r) = true
      · rw [if_neg (by rw [qs]; decide)]
        by_cases qt : py_sure (S.2.1.2 o) = true
        · rw [if_neg (by rw [qt]; decide)]
          have ess : (py_sure (S.2.1.2 r) && py_sure (S.2.1.2 o)) = true := by rw [qs, qt]; rfl
          simp only [if_pos ess]
          by_cases qe : x = y
          · rw [if_pos qe]
            have : r = o := by
              rw [ex, ey] at qe
              exact (nI_eq (show r < 2 ^ 31 by omega) (show o < 2 ^ 31 by omega)).mp qe
            subst this
            rw [ul_self]
            refine cf_same hI' ?_
            split <;> rfl
          · rw [if_neg qe]
            simp only [o13, cl_isOf, Option.bind_some, pb_zb0]
            have fin : ∀ Mx, zm_R Mx 11 ac 13 = some (ac + 235) → di_l Mx (ac + 235) → du_x Mx (ac + 235) (py_ul (S.2.1.2 r) (S.2.1.2 o) (List.range' 0 5)) → cr_unlike_83 d ac k Mx = some ((if k < -1 then -1 else match py_ul (S.2.1.2 r) (S.2.1.2 o) (List.range' 0 5) with
              | none => -1
              | some w => if k = -1 then nI w.length else match zin k w.length with
                | none => -1
                | some i => match w[i]? with
                  | none => -1
                  | some l => nI l), Mx) := by
              intro Mx a1 a2 a3
              rw [cl_unl_83 a1 a2 a3 k]
              unfold py_uv
              clear a3
              cases py_ul (S.2.1.2 r) (S.2.1.2 o) (List.range' 0 5) with
              | none => rfl
              | some w =>
                by_cases q1 : k < -1
                · rw [if_pos q1]
                · rw [if_neg q1]
            by_cases qk : zm_I M 0 (ac + 235) 2 = x ∧ zm_I M 0 (ac + 235) 3 = y
            · rw [if_neg (by rw [decide_eq_true qk]; decide)]
              refine cf_same hI' ?_
              rcases hD with ⟨h1, _⟩ | ⟨r', o', u1, u2, u3, u4, u5⟩
              · exfalso
                rw [qk.1, ex] at h1
                exact pb_ne1 (by omega) h1
              · rw [qk.1, ex] at u3
                rw [qk.2, ey] at u4
                have e1 := (nI_eq (show r < 2 ^ 31 by omega) (show r' < 2 ^ 31 by omega)).mp u3
                have e2 := (nI_eq (show o < 2 ^ 31 by omega) (show o' < 2 ^ 31 by omega)).mp u4
                subst e1
                subst e2
                exact fin M o13 hL.2.2.2.2.2.2 u5
            · rw [if_pos (by rw [decide_eq_false qk])]
              obtain ⟨M1, k1, k2, k3⟩ := cl_dseek (d := d) (wk := ac + 215) (di := ac + 235) hP hQ (by omega) (by omega) (by omega) (by omega) hX hY hL.2.2.2.2.2.1 hL.2.2.2.2.2.2
              obtain ⟨M2, hM2⟩ : ∃ Y, Y = zm_setI (zm_setI M1 0 (ac + 235) 2 x) 0 (ac + 235) 3 y := ⟨_, rfl⟩
              have z2 : zr (fun t k j => dr_W (ac + 215) (ac + 235) t k j ∨ (t = 0 ∧ k = ac + 235 ∧ (j = 2 ∨ j = 3))) M M2 := by
                refine zr_trans (zr_mono k3 (fun t k j h => .inl h)) ?_
                rw [hM2]
                exact zr_trans (zr_setI (.inr ⟨rfl, rfl, .inl rfl⟩)) (zr_setI (.inr ⟨rfl, rfl, .inr rfl⟩))
              have ew : ∀ t k j, (dr_W (ac + 215) (ac + 235) t k j ∨ (t = 0 ∧ k = ac + 235 ∧ (j = 2 ∨ j = 3))) → ((ac + 215 ≤ k ∧ k < ac + 228) ∨ (ac + 235 ≤ k ∧ k < ac + 242)) ∧ ¬ cLc ac t k j := by
                intro t k j hw
                unfold dr_W wz_W dd_W at hw
                unfold cLc
                omega
              have u2 : du_x M2 (ac + 235) (py_ul (S.2.1.2 r) (S.2.1.2 o) (List.range' 0 5)) := by
                rw [hM2]
                cases hu : py_ul (S.2.1.2 r) (S.2.1.2 o) (List.range' 0 5) with
                | none =>
                  rw [hu] at k2
                  show zm_I _ 0 (ac + 235) 0 = -1
                  rw [pm_ne (by omega), pm_ne (by omega)]
                  exact k2
                | some w =>
                  rw [hu] at k2
                  obtain ⟨v1, v2, v3, v4⟩ := k2
                  refine ⟨by rw [pm_ne (by omega), pm_ne (by omega)]; exact v1, v2, v3, ?_⟩
                  intro i l hl
                  rw [pm_ne (by omega), pm_ne (by omega)]
                  exact v4 i l hl
              have ek : ∀ j, zm_I M2 11 ac j = zm_I M 11 ac j := fun j => zr_I z2 (fun hw => by have := ew _ _ _ hw; omega)
              have eR : ∀ j, zm_R M2 11 ac j = zm_R M 11 ac j := fun j => zr_R z2 (fun hw => by have := ew _ _ _ hw; omega)
              have eR1 : zm_R M1 11 ac 13 = zm_R M 11 ac 13 := zr_R k3 (fun hw => by unfold dr_W wz_W dd_W at hw; omega)
              have L2 := cL_zr hL z2 (fun t k j hw => (ew t k j hw).2)
              refine ⟨M2, g, ?_, cI_hi (T' := S.1) (rd' := S.2.2.2) hI' hz z2 (fun t k j hw => by have := ew t k j hw; omega) (by rw [ek]; exact o1) (ct_ag hT (ag_w z2 (fun t k j hw => by have := ew t k j hw; omega))) L2 (rdc_ag hrd (ag_w z2 (fun t k j hw => by have := ew t k j hw; omega))) (kU_ag hU (ag_w z2 (fun t k j hw => by have := ew t k j hw; omega))) (kC_ag hC (ag_w z2 (fun t k j hw => by have := ew t k j hw; omega))) (kS_ag hS (ek 14) (ag_w z2 (fun t k j hw => by have := ew t k j hw; omega))) (.inr ⟨r, o, hr, ho, ?_, ?_, u2⟩), zh_cC z2 (fun t k j hw => by have := ew t k j hw; omega)⟩
              · simp only [o11, k1, Option.bind_some, eR1, o13, di_keep, zlet]
                rw [← hM2]
                exact fin M2 (by rw [eR]; exact o13) L2.2.2.2.2.2.2 u2
              · rw [hM2, pm_ne (by omega), pm_same]
                exact ex
              · rw [hM2, pm_same]
                exact ey
        · rw [if_pos (by simpa using qt)]
          have ess : ¬ (py_sure (S.2.1.2 r) && py_sure (S.2.1.2 o)) = true := by simp [qt]
          simp only [if_neg ess]
          refine cf_same hI' ?_
          split <;> rfl
      · rw [if_pos (by simpa using qs)]
        have ess : ¬ (py_sure (S.2.1.2 r) && py_sure (S.2.1.2 o)) = true := by simp [qs]
        simp only [if_neg ess]
        refine cf_same hI' ?_
        split <;> rfl
theorem cl_men_47 {e : Option (Option yE)} (o12 : zm_R M 11 ac 12 = some (ac + 228)) (h : re_m M (ac + 228) e) (w : Int32) : cr_mended_47 d ac w M = some ((match zin w 3 with
    | none => -1
    | some k => py_mv e k), M) := by
  unfold cr_mended_47 py_mv
  simp only [o12]
  rcases zin_c (show 3 < 2 ^ 31 by omega) w with ⟨hzw, _⟩ | ⟨j, hj, ew, hzw, _⟩
  · have q : ∀ i, i < 3 → ¬ w = nI i := fun i hi => zin_w (by omega) hzw hi
    rw [if_neg (show ¬ w = 0 from q 0 (by omega)), if_neg (show ¬ w = 1 from q 1 (by omega)), if_neg (show ¬ w = 2 from q 2 (by omega)), hzw]
  · rw [hzw]
    rcases e with _ | _ | c
    · obtain ⟨h1, h2, h3⟩ := h
      rw [h1, h2, h3]
      rcases (by omega : j = 0 ∨ j = 1 ∨ j = 2) with q | q | q <;> subst q <;> rw [ew] <;> simp [pb_n0, pb_n1, pb_n2]
    · obtain ⟨h1, h2, h3⟩ := h
      rw [h1, h2, h3]
      rcases (by omega : j = 0 ∨ j = 1 ∨ j = 2) with q | q | q <;> subst q <;> rw [ew] <;> simp [pb_n0, pb_n1, pb_n2]
    · obtain ⟨h1, h2, h3⟩ := h
      rw [h1, h2, h3]
      rcases (by omega : j = 0 ∨ j = 1 ∨ j = 2) with q | q | q <;> subst q <;> rw [ew] <;> simp [pb_n0, pb_n1, pb_n2]
theorem cl_mended (hI : cI ac N0 S0 M S g) (hz : zz_ok S) (hd : 6 ≤ d) (w : Int32) : cf_r ac N0 S0 M (cr_mended d ac w M) (sp_men S w) S := by
  obtain ⟨d, rfl⟩ : ∃ d', d = d' + 1 := ⟨d - 1, by omega⟩
  have eb : cr_mended (d + 1) ac w M = cr_mended_b d ac w M := rfl
  rw [eb]
  have hI' := hI
  obtain ⟨_, ⟨⟨o0, o2, o3, o4, o5, o6, o7, o8, o9, o10, o11, o12, o13⟩, o1⟩, hT, _, _, _, _, hL, hrd, ⟨hU, hC, hS, hD⟩, _⟩ := hI
  unfold cr_mended_b sp_men
  simp only [o12]
  rw [cl_ruleAt hI', Option.bind_some]
  simp only [cr_mended_23]
  have h8 := hz.2.1
  cases hr : S.2.2.2 with
  | none =>
    have hrd' := hrd
    rw [hr] at hrd'
    have e0 : zin (zm_I M 4 (ac + 228) 0) S.2.1.1 = none := by
      rw [hrd'.1]
      unfold zin
      rw [if_neg (fun q => absurd q.1 (by decide))]
    rw [e0]
    exact cf_same hI' rfl
  | some x =>
    have hrd' := hrd
    rw [hr] at hrd'
    obtain ⟨v0, vx, ⟨v3, v4, v8, v10⟩, v11, v12, vm, v26⟩ := hrd'
    have hx := hz.2.2.2.2.2 x hr
    obtain ⟨hP, hX, _, _, x16, hr8⟩ := cI_r hI' hz hx.1
    have hb := cI_b hI' hr8
    have e0 : zin (zm_I M 4 (ac + 228) 0) S.2.1.1 = some x.1 := by rw [v0]; exact zin_nI (by omega) hx.1
    rw [e0]
    simp only [Option.map_some, x16, pb_zb0]
    by_cases qs : py_sure (S.2.1.2 x.1) = true
    · rw [if_neg (by rw [qs]; decide)]
      have fin : ∀ Mx, zm_R Mx 11 ac 12 = some (ac + 228) → re_m Mx (ac + 228) (py_md (S.2.1.2 x.1) x.2.1) → cr_mended_47 d ac w Mx = some ((match zin w 3 with
          | none => -1
          | some k => if py_sure (S.2.1.2 x.1) = true then (match py_md (S.2.1.2 x.1) x.2.1 with
            | none => -1
            | some none => if k = 0 then 0 else -1
            | some (some c) => if k = 0 then nI c.1 else if k = 1 then nI c.2.1 else if c.1 = 1 then -1 else nI c.2.2) else -1), Mx) := by
        intro Mx a1 a2
        rw [cl_men_47 a1 a2 w]
        cases zin w 3 with
        | none => rfl
        | some k =>
          dsimp only
          rw [if_pos qs]
          unfold py_mv
          clear a2
          rcases py_md (S.2.1.2 x.1) x.2.1 with _ | _ | c <;> rfl
      have fin2 : ∀ Mx, zm_R Mx 11 ac 12 = some (ac + 228) → re_m Mx (ac + 228) (py_md (S.2.1.2 x.1) x.2.1) → cr_mended_47 d ac w Mx = some ((match zin w 3 with
          | none => -1
          | some k => if py_sure (S.2.1.2 x.1) then (match py_md (S.2.1.2 x.1) x.2.1 with
            | none => -1
            | some none => if k = 0 then 0 else -1
            | some (some c) => if k = 0 then nI c.1 else if k = 1 then nI c.2.1 else if c.1 = 1 then -1 else nI c.2.2) else -1), Mx) := fin
      simp only [o12]
      by_cases qm : zm_I M 4 (ac + 228) 12 = 0
      · rw [if_pos qm]
        obtain ⟨M1, k1, k2, k3⟩ := cl_mend2 (d := d) (wk := ac + 215) (re := ac + 228) hP (by omega) hx.2.1 v26 hX hL.2.2.2.2.2.1 (by omega) (by omega) vx
        rw [cm_md] at k2
        have ew : ∀ t k j, r7_W (ac + 215) (ac + 228) t k j → ((ac + 215 ≤ k ∧ k < ac + 228) ∨ (k = ac + 228 ∧ t = 4 ∧ 12 ≤ j ∧ j ≤ 15) ∨ k = ac + 234) ∧ ¬ cLc ac t k j := by
          intro t k j hw
          unfold r7_W wz_W r6_W r13_W at hw
          unfold cLc
          omega
        have ek : ∀ j, zm_I M1 11 ac j = zm_I M 11 ac j := fun j => zr_I k3 (fun hw => by have := ew _ _ _ hw; omega)
        have eR : ∀ j, zm_R M1 11 ac j = zm_R M 11 ac j := fun j => zr_R k3 (fun hw => by have := ew _ _ _ hw; omega)
        have e4 : ∀ j, j < 12 → zm_I M1 4 (ac + 228) j = zm_I M 4 (ac + 228) j := fun j hj => zr_I k3 (fun hw => by have := ew _ _ _ hw; omega)
        have e4R : ∀ j, j < 12 ∨ j = 16 → zm_R M1 4 (ac + 228) j = zm_R M 4 (ac + 228) j := fun j hj => zr_R k3 (fun hw => by have := ew _ _ _ hw; omega)
        have e20 : ∀ i j, 1 ≤ i → i ≤ 5 → zm_I M1 20 (ac + 228 + i) j = zm_I M 20 (ac + 228 + i) j := fun i j h1 h2 => zr_I k3 (fun hw => by have := ew _ _ _ hw; omega)
        have L2 := cL_zr hL k3 (fun t k j hw => (ew t k j hw).2)
        refine ⟨M1, g, ?_, cI_hi (T' := S.1) (rd' := S.2.2.2) hI' hz k3 (fun t k j hw => by have := ew t k j hw; omega) (by rw [ek]; exact o1) (ct_ag hT (ag_w k3 (fun t k j hw => by have := ew t k j hw; omega))) L2 ?_ (kU_ag hU (ag_w k3 (fun t k j hw => by have := ew t k j hw; omega))) (kC_ag hC (ag_w k3 (fun t k j hw => by have := ew t k j hw; omega))) (kS_ag hS (ek 14) (ag_w k3 (fun t k j hw => by have := ew t k j hw; omega))) (kD_ag hD (ag_w k3 (fun t k j hw => by have := ew t k j hw; omega))), zh_cC k3 (fun t k j hw => by have := ew t k j hw; omega)⟩
        · simp only [o11, k1, Option.bind_some]
          exact fin2 M1 (by rw [eR]; exact o12) k2
        · rw [hr]
          obtain ⟨w1, w2, w3, w4, w5⟩ := vx
          refine ⟨by rw [e4 _ (by omega)]; exact v0, ⟨?_, by rw [e4 _ (by omega)]; exact w2, by rw [e4 _ (by omega)]; exact w3, ?_, ?_⟩, ⟨by rw [e4 _ (by omega)]; exact v3, by rw [e4 _ (by omega)]; exact v4, by rw [e4 _ (by omega)]; exact v8, by rw [e4 _ (by omega)]; exact v10⟩, ?_, ?_, ?_, v26⟩
          · unfold re_l at w1 ⊢
            rw [e4R _ (by omega), e4R _ (by omega), e4R _ (by omega), e4R _ (by omega), e4R _ (by omega), e4R _ (by omega), zr_L k3]
            exact w1
          · intro i b hb
            rw [e20 1 _ (by omega) (by omega)]
            exact w4 i b hb
          · intro i b hb
            rw [e20 2 _ (by omega) (by omega), e20 3 _ (by omega) (by omega)]
            exact w5 i b hb
          · intro c hc
            rw [e20 4 _ (by omega) (by omega)]
            exact v11 c hc
          · intro c hc
            rw [e20 5 _ (by omega) (by omega)]
            exact v12 c hc
          · by_cases q : zm_I M1 4 (ac + 228) 12 = 0
            · exact .inl q
            · exact .inr ⟨q, k2⟩
      · rw [if_neg qm]
        refine cf_same hI' ?_
        rcases vm with h | ⟨_, h⟩
        · exact absurd h qm
        · exact fin2 M o12 h
    · rw [if_pos (by simpa using qs)]
      refine cf_same hI' ?_
      cases zin w 3 with
      | none => rfl
      | some k => simp only [if_neg qs]
end
