/-! THE CLASS: occurrence, shortest -/
section
variable {ac N0 S0 d R : Nat} {M M' : zM} {S : yZ} {g : yG2} {W : Nat → Nat → Nat → Prop} {Ps : Nat → yP}
theorem ag_w {a b : Nat} (hf : zr W M M') (hW : ∀ t k j, W t k j → ¬ (a ≤ k ∧ k < b)) : ag (rg a b) M M' := ag_zr hf (fun t k j hk hw => hW t k j hw hk)
theorem cI_scr (hI : cI ac N0 S0 M S g) (hz : zz_ok S) (hf : zr W M M') (hW : ∀ t k j, W t k j → (ac + 190 ≤ k ∧ k < ac + 228) ∧ ¬ cLc ac t k j ∧ k ≠ ac + 199 ∧ ¬ (ac + 211 ≤ k ∧ k < ac + 215)) : cI ac N0 S0 M' S g := by
  have hI' := hI
  obtain ⟨_, hO, hT, _, _, _, _, hL, hrd, ⟨hU, hC, hS, hD⟩, _⟩ := hI
  have ek : ∀ j, zm_I M' 11 ac j = zm_I M 11 ac j := fun j => zr_I hf (fun hw => by have := hW _ _ _ hw; omega)
  refine cI_hi (T' := S.1) (rd' := S.2.2.2) hI' hz hf (fun t k j hw => by have := hW t k j hw; omega) (by rw [ek]; exact hO.2) (ct_ag hT (ag_w hf (fun t k j hw => by have := hW t k j hw; omega))) (cL_zr hL hf (fun t k j hw => (hW t k j hw).2.1)) (rdc_ag hrd (ag_w hf (fun t k j hw => by have := hW t k j hw; omega))) (kU_ag hU (ag_w hf (fun t k j hw => by have := hW t k j hw; omega))) (kC_ag hC (ag_w hf (fun t k j hw => by have := hW t k j hw; omega))) (kS_ag hS (ek 14) (ag_w hf (fun t k j hw => by have := hW t k j hw; omega))) (kD_ag hD (ag_w hf (fun t k j hw => by have := hW t k j hw; omega)))
theorem cI_b (hI : cI ac N0 S0 M S g) {r : Nat} (hr : r < 8) : ac + 2 ≤ g.1.1 ∧ g.1.1 + 2 + 10 * r + 10 ≤ ac + 170 := by
  have := hI.1.1
  omega
theorem cl_occurrence (hI : cI ac N0 S0 M S g) (hz : zz_ok S) (hd : 5 ≤ d) (x y w : Int32) : cf_r ac N0 S0 M (cr_occurrence d ac x y w M) (sp_occ S x y w) S := by
  obtain ⟨d, rfl⟩ : ∃ d', d = d' + 1 := ⟨d - 1, by omega⟩
  have eb : cr_occurrence (d + 1) ac x y w M = cr_occurrence_b d ac x y w M := rfl
  rw [eb]
  unfold cr_occurrence_b sp_occ
  rw [cl_ruleAt hI]
  simp only [Option.bind_some, cr_occurrence_33]
  cases hx : zin x S.2.1.1 with
  | none => exact cf_same hI rfl
  | some r =>
    obtain ⟨hr, _⟩ := zin_some (show S.2.1.1 < 2 ^ 31 by have := hz.2.1; omega) hx
    obtain ⟨hP, hX, x14, x15, x16, hr8⟩ := cI_r hI hz hr
    have hX' := hX
    obtain ⟨hN, hA, ⟨hF, r0, r1, ⟨r2, r3, r4⟩, rl, rc, ra, rn⟩, hcA⟩ := hX
    obtain ⟨a8, a9, a10, a11, a12, a13, a14, a15⟩ := hA _ (ok_rt hP)
    have h16 := ok_nl hP
    have hb := cI_b hI hr8
    simp only [Option.map_some, r1, r2, a9, a10]
    rcases zin_c (show py_nl (S.2.1.2 r) < 2 ^ 31 by omega) y with ⟨hzi, h | ⟨h1, h2, h3⟩⟩ | ⟨o, ho, e, hzi, h1, h2, h3⟩
    · rw [if_pos h, hzi]; exact cf_same hI rfl
    · rw [if_neg h1, if_neg h3, hzi]; exact cf_same hI rfl
    · have hzk : z_in y 16 := by rw [e]; exact nI_in (by omega) (by omega)
      rw [if_neg h1, if_pos h3, hzi]
      have e1 : (zor (py_fl (S.2.1.2 r) (py_rt (S.2.1.2 r))) >>> (nI o &&& 31)) &&& 1 = zb (py_fx (S.2.1.2 r) (py_rt (S.2.1.2 r)) (py_lf (S.2.1.2 r) o)) := by
        rw [zor_has (fun q hq => by unfold py_fl at hq; rw [List.mem_filter, List.mem_range'_1] at hq; omega) (by omega)]
        unfold py_fl
        cases hq : py_fx (S.2.1.2 r) (py_rt (S.2.1.2 r)) (py_lf (S.2.1.2 r) o) with
        | true => rw [if_pos (by rw [List.mem_filter, List.mem_range'_1]; exact ⟨by omega, hq⟩)]; rfl
        | false => rw [if_neg (by rw [List.mem_filter]; rintro ⟨_, h⟩; rw [hq] at h; cases h)]; rfl
      have e2 : (zor (py_lal (S.2.1.2 r) (py_rt (S.2.1.2 r))) >>> (nI o &&& 31)) &&& 1 = zb (py_lx (S.2.1.2 r) (py_lf (S.2.1.2 r) o)) := by
        rw [lx_la hP _ (ok_lf hP ho), zor_has (fun q hq => by unfold py_lal at hq; rw [List.mem_filter, List.mem_range'_1] at hq; omega) (by omega)]
        unfold py_lal
        cases hq : py_la (S.2.1.2 r) (py_rt (S.2.1.2 r)) (py_lf (S.2.1.2 r) o) with
        | true => rw [if_pos (by rw [List.mem_filter, List.mem_range'_1]; exact ⟨by omega, hq⟩)]; rfl
        | false => rw [if_neg (by rw [List.mem_filter]; rintro ⟨_, h⟩; rw [hq] at h; cases h)]; rfl
      simp only [hF.1.1.1, hF.1.1.2, hF.1.2.2.1.1, hF.1.2.2.1.2, hF.1.2.2.2.1.1, hF.1.2.2.2.1.2, if_pos hzk]
      rw [e, nI_clamp (by omega), (rl o ho).1, (hcA.2 o ho).1, (hcA.2 o ho).2, cl_anysAround hP hX' ho, e1, e2]
      simp only [Option.bind_some]
      rcases zin_c (show 7 < 2 ^ 31 by omega) w with ⟨hzw, _⟩ | ⟨j, hj, ew, hzw, _⟩
      · have q : ∀ i, i < 7 → ¬ w = nI i := fun i hi => zin_w (by omega) hzw hi
        rw [if_neg (show ¬ w = 0 from q 0 (by omega)), if_neg (show ¬ w = 1 from q 1 (by omega)), if_neg (show ¬ w = 2 from q 2 (by omega)), if_neg (show ¬ w = 3 from q 3 (by omega)), if_neg (show ¬ w = 4 from q 4 (by omega)), if_neg (show ¬ w = 5 from q 5 (by omega)), if_neg (show ¬ w = 6 from q 6 (by omega)), hzw]
        exact cf_same hI rfl
      · rw [hzw]
        by_cases q3 : j = 3
        · subst q3
          have hL := hI.2.2.2.2.2.2.2.1
          obtain ⟨M1, k1, k2⟩ := cl_nextBehind (d := d) (wy := ac + 192) hP (by omega) (b := some o) (by intro o' e'; injection e' with e'; omega) ⟨hX', hL.2.1, by omega⟩
          refine ⟨M1, g, ?_, cI_scr hI hz (zr_zf k2) ?_, zh_cC (zr_zf k2) ?_⟩
          · rw [ew]
            rw [pb_zos] at k1
            have o7 := hI.2.1.1.2.2.2.2.2.2.1
            simp [pb_n3, o7, k1]
          · intro t k j hw
            unfold wy_W at hw
            unfold cLc
            omega
          · intro t k j hw
            unfold wy_W at hw
            omega
        · refine cf_same hI ?_
          rcases (by omega : j = 0 ∨ j = 1 ∨ j = 2 ∨ j = 4 ∨ j = 5 ∨ j = 6) with q | q | q | q | q | q <;> subst q <;> rw [ew] <;> simp [pb_n0, pb_n1, pb_n2, pb_n4, pb_n5, pb_n6]
theorem cl_shortest (hI : cI ac N0 S0 M S g) (hz : zz_ok S) (hd : 72 ≤ d) (x k : Int32) : cf_r ac N0 S0 M (cr_shortest d ac x k M) (sp_shr S x k) S := by
  obtain ⟨d, rfl⟩ : ∃ d', d = d' + 1 := ⟨d - 1, by omega⟩
  have eb : cr_shortest (d + 1) ac x k M = cr_shortest_b d ac x k M := rfl
  rw [eb]
  unfold cr_shortest_b sp_shr
  rw [cl_ruleAt hI]
  simp only [Option.bind_some, cr_shortest_32]
  have hI' := hI
  obtain ⟨_, ⟨⟨o0, o2, o3, o4, o5, o6, o7, o8, o9, o10, o11, o12, o13⟩, o1⟩, hT, _, _, _, _, hL, hrd, ⟨hU, hC, hS, hD⟩, _⟩ := hI
  cases hx : zin x S.2.1.1 with
  | none => exact cf_same hI' rfl
  | some r =>
    obtain ⟨hr, ex⟩ := zin_some (show S.2.1.1 < 2 ^ 31 by have := hz.2.1; omega) hx
    obtain ⟨hP, hX, x14, x15, x16, hr8⟩ := cI_r hI' hz hr
    have hX' := hX
    obtain ⟨hN, hA, ⟨hF, r0, r1, ⟨r2, r3, r4⟩, rl, rc, ra, rn⟩, hcA⟩ := hX
    obtain ⟨a8, a9, a10, a11, a12, a13, a14, a15⟩ := hA _ (ok_rt hP)
    have hln : (py_wd (S.2.1.2 r) (py_rt (S.2.1.2 r))).length ≤ 2304 := ln_le hP (ok_rt hP)
    have a12 : zm_I M 3 (g.2.1 (py_rt (S.2.1.2 r))) 12 = nI (py_wd (S.2.1.2 r) (py_rt (S.2.1.2 r))).length := a12
    have hb := cI_b hI' hr8
    simp only [Option.map_some, r1, a12]
    rcases zin_c (show (py_wd (S.2.1.2 r) (py_rt (S.2.1.2 r))).length < 2 ^ 31 by omega) k with ⟨hzi, h | ⟨h1, h2, h3⟩⟩ | ⟨i, hi, e, hzi, h1, h2, h3⟩
    · rw [if_pos h, hzi]; exact cf_same hI' rfl
    · rw [if_neg h1, if_neg h3, hzi]; exact cf_same hI' rfl
    · rw [if_neg h1, if_pos h3, hzi]
      have hg : (py_wd (S.2.1.2 r) (py_rt (S.2.1.2 r)))[i]? = some ((py_wd (S.2.1.2 r) (py_rt (S.2.1.2 r)))[i]) := by simp
      simp only [hg]
      by_cases q : zm_I M 11 ac 14 = x
      · rw [if_pos q]
        refine cf_same hI' ?_
        unfold cr_shortest_55
        rcases hS with h | ⟨r', u1, u2, u3⟩
        · exfalso
          rw [q, ex] at h
          exact pb_ne1 (by omega) h
        · rw [q, ex] at u2
          have := (nI_eq (show r < 2 ^ 31 by omega) (show r' < 2 ^ 31 by have := hz.2.1; omega)).mp u2
          subst this
          simp only [o8]
          rw [e, cl_shortestLetter hL.2.2.1 u3 hg]
          rfl
      · rw [if_neg q]
        obtain ⟨M1, k1, k2, k3⟩ := cl_spellShortest (d := d) (sp := ac + 197) hP (by omega) (by omega) hX' hL.2.2.1
        obtain ⟨M2, hM2⟩ : ∃ Y, Y = zm_setI M1 11 ac 14 x := ⟨_, rfl⟩
        have z2 : zr (fun t k j => sq_W (ac + 197) t k j ∨ (t = 11 ∧ k = ac ∧ j = 14)) M M2 := by
          refine zr_trans (zr_mono k3 (fun t k j h => .inl h)) ?_
          rw [hM2]
          exact zr_setI (.inr ⟨rfl, rfl, rfl⟩)
        have z3 : zr (fun t k j => t = 11 ∧ k = ac ∧ j = 14) M1 M2 := by
          rw [hM2]
          exact zr_setI ⟨rfl, rfl, rfl⟩
        have ew : ∀ t k j, (sq_W (ac + 197) t k j ∨ (t = 11 ∧ k = ac ∧ j = 14)) → ((ac + 197 ≤ k ∧ k ≤ ac + 200) ∨ (t = 11 ∧ k = ac ∧ j = 14)) ∧ ¬ cLc ac t k j := by
          intro t k j hw
          unfold sq_W at hw
          unfold cLc
          omega
        have ek : ∀ j, j ≠ 14 → zm_I M2 11 ac j = zm_I M 11 ac j := fun j hj => zr_I z2 (fun hw => by have := ew _ _ _ hw; omega)
        have hR2 : ∀ j, zm_R M2 11 ac j = zm_R M 11 ac j := by
          intro j
          rw [hM2, pm_RI]
          exact zr_R k3 (fun hw => by unfold sq_W at hw; omega)
        have s2 : st_x M2 (ac + 197) (py_wd (S.2.1.2 r) (py_rt (S.2.1.2 r))) := st_ag k2 (ag_w z3 (fun t k j hw => by omega))
        have L2 := cL_zr hL z2 (fun t k j hw => (ew t k j hw).2)
        refine ⟨M2, g, ?_, cI_hi (T' := S.1) (rd' := S.2.2.2) hI' hz z2 (fun t k j hw => by have := ew t k j hw; omega) (by rw [ek 1 (by omega)]; exact o1) ?_ L2 (rdc_ag hrd (ag_w z2 (fun t k j hw => by have := ew t k j hw; omega))) (kU_ag hU (ag_w z2 (fun t k j hw => by have := ew t k j hw; omega))) (kC_ag hC (ag_w z2 (fun t k j hw => by have := ew t k j hw; omega))) (.inr ⟨r, hr, ?_, s2⟩) (kD_ag hD (ag_w z2 (fun t k j hw => by have := ew t k j hw; omega))), zh_cC z2 (fun t k j hw => by have := ew t k j hw; omega)⟩
        · simp only [o8, k1, Option.bind_some, zlet]
          rw [← hM2]
          unfold cr_shortest_55
          rw [hR2, o8]
          dsimp only
          rw [e, cl_shortestLetter L2.2.2.1 s2 hg]
          rfl
        · refine ⟨by rw [zr_L z2]; exact hT.1, by rw [zr_n z2]; exact hT.2.1, ?_⟩
          intro i b hb
          rw [zr_I z2 (fun hw => by have := ew _ _ _ hw; omega)]
          exact hT.2.2 i b hb
        · rw [hM2, pm_same]
          exact ex
end
