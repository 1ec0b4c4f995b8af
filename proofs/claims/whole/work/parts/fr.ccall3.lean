/-! THE CLASS: count, rule, counted, any, words -/
section
variable {ac N0 S0 d : Nat} {M : zM} {S : yZ} {g : yG2}
theorem cI_r (hI : cI ac N0 S0 M S g) (hz : zz_ok S) {r : Nat} (hr : r < S.2.1.1) : py_ok (S.2.1.2 r) ∧ cX M g.2.1 (g.1.1 + 2 + 10 * r) (S.2.1.2 r) ∧ zm_I M 5 (g.1.1 + 2 + 10 * r) 14 = nI (py_cf (S.2.1.2 r) false) ∧ zm_I M 5 (g.1.1 + 2 + 10 * r) 15 = zb (py_cf (S.2.1.2 r) true == 0) ∧ zm_I M 5 (g.1.1 + 2 + 10 * r) 16 = zb (py_sure (S.2.1.2 r)) ∧ r < 8 := by
  have h8 := hz.2.1
  exact ⟨hz.2.2.1 r hr, (hI.2.2.2.1.1.2.2.2 r hr).1, (hI.2.2.2.1.1.2.2.2 r hr).2.1, (hI.2.2.2.1.1.2.2.2 r hr).2.2.1, (hI.2.2.2.1.1.2.2.2 r hr).2.2.2, by omega⟩
theorem cl_count (hI : cI ac N0 S0 M S g) (hz : zz_ok S) (hd : 3 ≤ d) (w : Int32) : cr_count d ac w M = some (sp_cou S w, M) := by
  obtain ⟨d, rfl⟩ : ∃ d', d = d' + 1 := ⟨d - 1, by omega⟩
  have eb : cr_count (d + 1) ac w M = cr_count_b d ac w M := rfl
  obtain ⟨hg, ⟨⟨o0, o2, o3, o4, o5, o6, o7, o8, o9, o10, o11, o12, o13⟩, o1⟩, hT, ⟨hS, _⟩, _, ⟨hdx, hdh, hdy⟩, _⟩ := hI
  have h60 : S.2.2.1.length ≤ 60 := hz.2.2.2.2.1.1
  rw [eb]
  unfold cr_count_b sp_cou
  simp only [o1, o2, o4, hS.2.1, hdx.2.1, cl_wrongThings (S := S) rfl rfl h60 hdx hdh, cl_clearOnes (show 1 ≤ d by omega) hS, cl_sureOnes (show 1 ≤ d by omega) hS, cl_fullest hz.2.2.2.2.1 hdx, cl_deepest hz.2.2.2.2.1 hdx, Option.bind_some]
  by_cases q0 : w = 0
  · rw [if_pos q0, if_pos q0]
  rw [if_neg q0, if_neg q0]
  by_cases q1 : w = 1
  · rw [if_pos q1, if_pos q1]
  rw [if_neg q1, if_neg q1]
  by_cases q2 : w = 2
  · rw [if_pos q2, if_pos q2]
  rw [if_neg q2, if_neg q2]
  by_cases q3 : w = 3
  · rw [if_pos q3, if_pos q3]
  rw [if_neg q3, if_neg q3]
  by_cases q4 : w = 4
  · rw [if_pos q4, if_pos q4]; rfl
  rw [if_neg q4, if_neg q4]
  by_cases q5 : w = 5
  · rw [if_pos q5, if_pos q5]; rfl
  rw [if_neg q5, if_neg q5]
  by_cases q6 : w = 6
  · rw [if_pos q6, if_pos q6]
  rw [if_neg q6, if_neg q6]
  by_cases q7 : w = 7
  · rw [if_pos q7, if_pos q7]
  rw [if_neg q7, if_neg q7]
theorem cl_lrt {pa : Nat → Nat} {P : yP} {Q : Nat} (hP : py_ok P) (hR : cR_x M pa Q P) : ru_lettersIn d Q (zor (py_in P (py_rt P))) M = some (zor (py_ll P), M) := by
  have h16 := ok_nl hP
  rw [cl_lin hP hR]
  have : (List.range' 0 (py_nl P)).filter (fun o => zbt (zor (py_in P (py_rt P))) o) = List.range' 0 (py_nl P) := by
    rw [List.filter_eq_self]
    intro o ho
    rw [List.mem_range'_1] at ho
    rw [zor_bt _ (by omega)]
    · rw [List.contains_iff_mem]
      unfold py_in
      rw [List.mem_filter, List.mem_range'_1]
      exact ⟨ho, wi_top hP _ (ok_lf hP (by omega))⟩
    · intro q hq
      unfold py_in at hq
      rw [List.mem_filter, List.mem_range'_1] at hq
      omega
  rw [this]
  rfl
theorem cl_rule (hI : cI ac N0 S0 M S g) (hz : zz_ok S) (hd : 1 ≤ d) (x w : Int32) : cr_rule d ac x w M = (sp_rule S x w).map (fun v => (v, M)) := by
  obtain ⟨d, rfl⟩ : ∃ d', d = d' + 1 := ⟨d - 1, by omega⟩
  have eb : cr_rule (d + 1) ac x w M = cr_rule_b d ac x w M := rfl
  rw [eb]
  unfold cr_rule_b sp_rule
  rw [cl_ruleAt hI]
  simp only [Option.bind_some, cr_rule_17]
  cases hx : zin x S.2.1.1 with
  | none => rfl
  | some r =>
    obtain ⟨hr, _⟩ := zin_some (show S.2.1.1 < 2 ^ 31 by have := hz.2.1; omega) hx
    obtain ⟨hP, hX, x14, x15, x16, hr8⟩ := cI_r hI hz hr
    have hX' := hX
    obtain ⟨hN, hA, ⟨hF, r0, r1, ⟨r2, r3, r4⟩, rl, rc, ra, rn⟩, hcA⟩ := hX
    obtain ⟨a8, a9, a10, a11, a12, a13, a14, a15⟩ := hA _ (ok_rt hP)
    simp only [Option.map_some, r1, r0, r2, r3, r4, a8, a11, a12, a13, x14, x15, x16, cr_bit_zb, Option.bind_some, cl_lrt hP hX'.2.2.1]
    rcases zin_c (show 11 < 2 ^ 31 by omega) w with ⟨hzw, _⟩ | ⟨j, hj, ew, hzw, _⟩
    · have q : ∀ i, i < 11 → ¬ w = nI i := fun i hi => zin_w (by omega) hzw hi
      rw [if_neg (show ¬ w = 0 from q 0 (by omega)), if_neg (show ¬ w = 1 from q 1 (by omega)), if_neg (show ¬ w = 2 from q 2 (by omega)), if_neg (show ¬ w = 3 from q 3 (by omega)), if_neg (show ¬ w = 4 from q 4 (by omega)), if_neg (show ¬ w = 5 from q 5 (by omega)), if_neg (show ¬ w = 6 from q 6 (by omega)), if_neg (show ¬ w = 7 from q 7 (by omega)), if_neg (show ¬ w = 8 from q 8 (by omega)), if_neg (show ¬ w = 9 from q 9 (by omega)), if_neg (show ¬ w = 10 from q 10 (by omega)), hzw]
      rfl
    · rw [hzw]
      rcases (by omega : j = 0 ∨ j = 1 ∨ j = 2 ∨ j = 3 ∨ j = 4 ∨ j = 5 ∨ j = 6 ∨ j = 7 ∨ j = 8 ∨ j = 9 ∨ j = 10) with q | q | q | q | q | q | q | q | q | q | q <;> subst q <;> rw [ew] <;> simp [pb_n0, pb_n1, pb_n2, pb_n3, pb_n4, pb_n5, pb_n6, pb_n7, pb_n8, pb_n9, pb_n10, py_ln]
theorem cl_qcounted (hI : cI ac N0 S0 M S g) (hz : zz_ok S) (hd : 1 ≤ d) (x y w : Int32) : cr_counted d ac x y w M = some (sp_cnt S x y w, M) := by
  obtain ⟨d, rfl⟩ : ∃ d', d = d' + 1 := ⟨d - 1, by omega⟩
  have eb : cr_counted (d + 1) ac x y w M = cr_counted_b d ac x y w M := rfl
  rw [eb]
  unfold cr_counted_b sp_cnt
  rw [cl_ruleAt hI]
  simp only [Option.bind_some, cr_counted_25, cr_counted_50]
  cases hx : zin x S.2.1.1 with
  | none => rfl
  | some r =>
    obtain ⟨hr, _⟩ := zin_some (show S.2.1.1 < 2 ^ 31 by have := hz.2.1; omega) hx
    obtain ⟨hP, hX, x14, x15, x16, hr8⟩ := cI_r hI hz hr
    have hX' := hX
    obtain ⟨hN, hA, ⟨hF, r0, r1, ⟨r2, r3, r4⟩, rl, rc, ra, rn⟩, hcA⟩ := hX
    have h8 := ok_nc hP
    simp only [Option.map_some, r3]
    rcases zin_c (show py_nc (S.2.1.2 r) < 2 ^ 31 by omega) y with ⟨hzi, h | ⟨h1, h2, h3⟩⟩ | ⟨c, hc, e, hzi, h1, h2, h3⟩
    · rw [if_pos h, hzi]
    · rw [if_neg h1, if_neg h3, hzi]
    · have hzk : z_in y 8 := by rw [e]; exact nI_in (by omega) (by omega)
      have hcn := ok_cn hP hc
      obtain ⟨⟨kid, hks, _⟩, _⟩ := ok_k5 hP hcn (ok_cnk hP hc)
      have hkd := ok_kid hP hcn (c := kid) (by rw [hks]; simp)
      have h5 : zm_R M 3 (g.2.1 (py_cn (S.2.1.2 r) c)) 5 = some (g.2.1 kid) := by rw [cN_ks hN hcn, hks]; rfl
      have hca : nd_numberOf d ((py_can (S.2.1.2 r) (py_cn (S.2.1.2 r) c)).map g.2.1) M = some (zo (py_ca (S.2.1.2 r) (py_cn (S.2.1.2 r) c)), M) := by
        obtain ⟨k1, k2⟩ := can_ca hP _ hcn
        rw [k1]
        unfold nd_numberOf
        cases hcan : py_can (S.2.1.2 r) (py_cn (S.2.1.2 r) c) with
        | none => rfl
        | some p =>
          obtain ⟨k3, k4⟩ := k2 p hcan
          simp only [Option.map_some, nd_numberOf_12, cN_nb hN k3 (.inr (.inr k4))]
          rfl
      rw [if_neg h1, if_pos h3, hzi]
      simp only [hF.1.2.2.2.2.2.2.2.1.1, hF.1.2.2.2.2.2.2.2.1.2, hF.1.2.2.2.2.1.1, hF.1.2.2.2.2.1.2, hF.1.2.2.2.2.2.1.1, hF.1.2.2.2.2.2.1.2, if_pos hzk]
      rw [e, nI_clamp (by omega), rc c hc]
      simp only [h5, (hF.2 c hc).1, (hF.2 c hc).2, cl_countAround hP hN hcn, Option.bind_some, hca, (hA _ hcn).2.2.2.1, (hA _ hkd).1, cr_bit_zb]
      rcases zin_c (show 5 < 2 ^ 31 by omega) w with ⟨hzw, _⟩ | ⟨j, hj, ew, hzw, _⟩
      · have q : ∀ i, i < 5 → ¬ w = nI i := fun i hi => zin_w (by omega) hzw hi
        rw [if_neg (show ¬ w = 0 from q 0 (by omega)), if_neg (show ¬ w = 1 from q 1 (by omega)), if_neg (show ¬ w = 2 from q 2 (by omega)), if_neg (show ¬ w = 3 from q 3 (by omega)), if_neg (show ¬ w = 4 from q 4 (by omega)), hzw]
      · rw [hzw]
        rcases (by omega : j = 0 ∨ j = 1 ∨ j = 2 ∨ j = 3 ∨ j = 4) with q | q | q | q | q <;> subst q <;> rw [ew] <;> simp [pb_n0, pb_n1, pb_n2, pb_n3, pb_n4, hks]
theorem cl_qany (hI : cI ac N0 S0 M S g) (hz : zz_ok S) (hd : 1 ≤ d) (x y w : Int32) : cr_any d ac x y w M = some (sp_any S x y w, M) := by
  obtain ⟨d, rfl⟩ : ∃ d', d = d' + 1 := ⟨d - 1, by omega⟩
  have eb : cr_any (d + 1) ac x y w M = cr_any_b d ac x y w M := rfl
  rw [eb]
  unfold cr_any_b sp_any
  rw [cl_ruleAt hI]
  simp only [Option.bind_some, cr_any_35]
  cases hx : zin x S.2.1.1 with
  | none => rfl
  | some r =>
    obtain ⟨hr, _⟩ := zin_some (show S.2.1.1 < 2 ^ 31 by have := hz.2.1; omega) hx
    obtain ⟨hP, hX, x14, x15, x16, hr8⟩ := cI_r hI hz hr
    have hX' := hX
    obtain ⟨hN, hA, ⟨hF, r0, r1, ⟨r2, r3, r4⟩, rl, rc, ra, rn⟩, hcA⟩ := hX
    have h4 := ok_na hP
    simp only [Option.map_some, r4]
    rcases zin_c (show py_na (S.2.1.2 r) < 2 ^ 31 by omega) y with ⟨hzi, h | ⟨h1, h2, h3⟩⟩ | ⟨c, hc, e, hzi, h1, h2, h3⟩
    · rw [if_pos h, hzi]
    · rw [if_neg h1, if_pos h2, hzi]
    · have hzk : z_in y 4 := by rw [e]; exact nI_in (by omega) (by omega)
      have han := ok_an hP hc
      obtain ⟨k2, k4, _⟩ := ok_k4 hP han (ok_ank hP hc)
      rw [if_neg h1, if_neg h2, hzi]
      simp only [hF.1.2.2.2.2.2.2.2.2.1, hF.1.2.2.2.2.2.2.2.2.2, if_pos hzk]
      rw [e, nI_clamp (by omega), ra c hc]
      simp only [cN_ks hN han]
      have hl := cl_any_52 (d := d) hP hX' han (w := w) (py_ks (S.2.1.2 r) (py_an (S.2.1.2 r) c)) [] rfl zLF (by have := zLF_10; omega)
      have hl' : cr_any_52 d zLF w 0 ((py_ks (S.2.1.2 r) (py_an (S.2.1.2 r) c)).head?.map g.2.1) M = some (py_ayr (S.2.1.2 r) w (py_ks (S.2.1.2 r) (py_an (S.2.1.2 r) c)) 0, M) := hl
      rw [hl']
      rcases zin_c (show 5 < 2 ^ 31 by omega) w with ⟨hzw, _⟩ | ⟨j, hj, ew, hzw, _⟩
      · rw [ayr_none hzw _ _ (by omega), hzw]
      · rw [hzw, ew, ayr_some hj _ _ (by omega)]
        by_cases q : j = 0
        · simp [q]
        · rw [if_neg q, if_pos (by omega)]
          simp only [if_neg q, Nat.sub_zero]
          cases (py_ks (S.2.1.2 r) (py_an (S.2.1.2 r) c))[j - 1]? <;> rfl
theorem cl_words (hI : cI ac N0 S0 M S g) (hz : zz_ok S) (hd : 1 ≤ d) (x n : Int32) : cr_words d ac x n M = some (sp_wds S x n, M) := by
  obtain ⟨d, rfl⟩ : ∃ d', d = d' + 1 := ⟨d - 1, by omega⟩
  have eb : cr_words (d + 1) ac x n M = cr_words_b d ac x n M := rfl
  rw [eb]
  unfold cr_words_b sp_wds
  rw [cl_ruleAt hI]
  simp only [Option.bind_some, cr_words_33, cr_words_61]
  cases hx : zin x S.2.1.1 with
  | none => rfl
  | some r =>
    obtain ⟨hr, _⟩ := zin_some (show S.2.1.1 < 2 ^ 31 by have := hz.2.1; omega) hx
    obtain ⟨hP, hX, x14, x15, x16, hr8⟩ := cI_r hI hz hr
    have hX' := hX
    obtain ⟨hN, hA, ⟨hF, r0, r1, ⟨r2, r3, r4⟩, rl, rc, ra, rn⟩, hcA⟩ := hX
    obtain ⟨a8, a9, a10, a11, a12, a13, a14, a15⟩ := hA _ (ok_rt hP)
    obtain ⟨n15, n16⟩ := cN_15 hN (ok_rt hP)
    simp only [Option.map_some, r1, x16, pb_zb0, a8, cr_bit_zb, Option.bind_some, n15, n16]
    by_cases qs : py_sure (S.2.1.2 r) = true
    · rw [if_neg (by rw [qs]; decide)]
      have c4 : (n ≤ 4) ↔ ¬ (4 : Int32) < n := by
        rw [Int32.le_iff_toInt_le, Int32.lt_iff_toInt_lt]
        omega
      rcases zin_c (show 5 < 2 ^ 31 by omega) n with ⟨hzi, h | ⟨h1, h2, h3⟩⟩ | ⟨k, hk, e, hzi, h1, h2, h3⟩
      · rw [if_pos h, hzi]
      · have h4 : ¬ n ≤ 4 := by
          rw [Int32.le_iff_toInt_le]
          rw [Int32.le_iff_toInt_le] at h2
          have e5 : (nI 5).toInt = 5 := by decide
          have e4 : (4 : Int32).toInt = 4 := by decide
          omega
        rw [if_neg h1, if_neg h4, hzi]
      · have hzk : z_in n 5 := by rw [e]; exact nI_in (by omega) (by omega)
        rw [if_neg h1, if_pos (show n ≤ 4 by rw [e]; exact (le_i2 (a := 4) (by omega) (by omega)).mpr (by omega)), hzi]
        simp only [if_pos hzk, if_pos qs]
        rw [e, nI_clamp (by omega)]
        by_cases q : k = 0
        · subst q
          rfl
        · rw [if_neg (show ¬ nI k = 0 from fun y => q ((nI_eq (b := 0) (by omega) (by omega)).mp y)), a15 k (by omega) (by omega), rd_wn hP qs (by omega) (by omega)]
    · rw [if_pos (by simpa using qs)]
      cases zin n 5 with
      | none => rfl
      | some k => simp only [if_neg qs]
end
