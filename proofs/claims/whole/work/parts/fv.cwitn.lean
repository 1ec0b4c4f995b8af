/-! THE CLASS: witness, shown -/
theorem c2_o {w : Nat × Option Nat} (h1 : w.1 < 16) (h2 : py_oi w.2 < 16) : nI (py_c2 w) >>> (4 &&& 31) = nI w.1 := by
  have key : ∀ a b : Fin 16, nI (16 * a.val + b.val) >>> (4 &&& 31) = nI a.val := by decide +kernel
  exact key ⟨w.1, h1⟩ ⟨py_oi w.2, h2⟩
theorem c2_c {w : Nat × Option Nat} (h1 : w.1 < 16) (h2 : py_oi w.2 < 16) : (nI (py_c2 w) &&& 15) - 1 = zo w.2 := by
  have key : ∀ a b : Fin 16, nI (16 * a.val + b.val) &&& 15 = nI b.val := by decide +kernel
  have e := key ⟨w.1, h1⟩ ⟨py_oi w.2, h2⟩
  have e' : nI (py_c2 w) &&& 15 = nI (py_oi w.2) := e
  rw [e']
  cases w.2 with
  | none => decide
  | some n => exact pb_sub n 1
section
variable {ac N0 S0 d R : Nat} {M M' : zM} {S : yZ} {g : yG2} {W : Nat → Nat → Nat → Prop} {Ps : Nat → yP}
theorem wtx_0 {wi : Nat} {o : Option yB} {v : Int32} (h : wt_x M wi o) : wt_x (zm_setI M 10 wi 0 v) wi o := by
  obtain ⟨h1, h2, h3⟩ := h
  refine ⟨h1, by rw [pm_ne (by omega)]; exact h2, ?_⟩
  intro b hb
  obtain ⟨k1, k2, k3, ⟨k4, k5, k6, k7⟩, k8⟩ := h3 b hb
  refine ⟨by rw [pm_ne (by omega)]; exact k1, by rw [pm_ne (by omega)]; exact k2, by rw [pm_ne (by omega)]; exact k3, ⟨by rw [pm_ne (by omega)]; exact k4, k5, ?_, k7⟩, k8⟩
  intro i y hy
  rw [pm_ne (by omega)]
  exact k6 i y hy
theorem cl_wOf (hI : cI ac N0 S0 M S g) (hz : zz_ok S) (hd : 73 ≤ d) {unc : Bool} {wi : Nat} (hwi : (wi = ac + 211 ∧ unc = false) ∨ (wi = ac + 213 ∧ unc = true)) (x : Int32) : ∃ M', cr_witnessOf_15 d ac x (zb unc) (some wi) M = some ((zin x S.2.1.1).bind (fun r => if (py_fw (S.2.1.2 r) unc).isSome = true then some wi else none), M') ∧ cI ac N0 S0 M' S g ∧ zh (cC_W ac) M M' ∧ ∀ r, zin x S.2.1.1 = some r → wt_x M' wi (py_fw (S.2.1.2 r) unc) := by
  have hI' := hI
  obtain ⟨_, ⟨⟨o0, o2, o3, o4, o5, o6, o7, o8, o9, o10, o11, o12, o13⟩, o1⟩, hT, _, _, _, _, hL, hrd, ⟨hU, hC, hS, hD⟩, _⟩ := hI
  unfold cr_witnessOf_15
  rw [cl_ruleAt hI']
  simp only [Option.bind_some]
  cases hx : zin x S.2.1.1 with
  | none => exact ⟨M, rfl, hI', zh_refl _ _, fun r hr => by cases hr⟩
  | some r =>
    obtain ⟨hr, ex⟩ := zin_some (show S.2.1.1 < 2 ^ 31 by have := hz.2.1; omega) hx
    obtain ⟨hP, hX, x14, x15, x16, hr8⟩ := cI_r hI' hz hr
    have hb := cI_b hI' hr8
    have h8 := hz.2.1
    simp only [Option.map_some, Option.bind_some]
    have fin : ∀ Mx, wt_x Mx wi (py_fw (S.2.1.2 r) unc) → cr_witnessOf_58 d (some wi) Mx = some (if (py_fw (S.2.1.2 r) unc).isSome = true then some wi else none, Mx) := by
      intro Mx hw
      unfold cr_witnessOf_58
      simp only [hw.2.1, pb_zb0, cr_witnessOf_70]
      cases (py_fw (S.2.1.2 r) unc).isSome <;> simp
    have kW : zm_I M 10 wi 0 = -1 ∨ ∃ r, r < S.2.1.1 ∧ zm_I M 10 wi 0 = nI r ∧ wt_x M wi (py_fw (S.2.1.2 r) unc) := by
      rcases hwi with ⟨rfl, rfl⟩ | ⟨rfl, rfl⟩
      · exact hU
      · exact hC
    by_cases q : zm_I M 10 wi 0 = x
    · rw [if_pos q]
      rcases kW with h | ⟨r', u1, u2, u3⟩
      · exfalso
        rw [q, ex] at h
        exact pb_ne1 (by omega) h
      · rw [q, ex] at u2
        have := (nI_eq (show r < 2 ^ 31 by omega) (show r' < 2 ^ 31 by omega)).mp u2
        subst this
        exact ⟨M, fin M u3, hI', zh_refl _ _, fun r2 e2 => by injection e2 with e2; subst e2; exact u3⟩
    · rw [if_neg q]
      have hl : wt_l M wi := by
        rcases hwi with ⟨rfl, _⟩ | ⟨rfl, _⟩
        · exact hL.2.2.2.1
        · exact hL.2.2.2.2.1
      obtain ⟨M1, k1, k2, k3, k4⟩ := cl_wseek (d := d) (wy := ac + 192) (sp := ac + 197) (wi := wi) hP (by omega) (by omega) hd (unc := unc) ⟨hX, hL.2.1, by omega⟩ hL.2.2.1 hl x15 x16
      obtain ⟨M2, hM2⟩ : ∃ Y, Y = zm_setI M1 10 wi 0 x := ⟨_, rfl⟩
      have z2 : zr (fun t k j => (wv_W (ac + 192) (ac + 197) wi t k j ∨ (t = 10 ∧ k = wi ∧ j = 8)) ∨ (t = 10 ∧ k = wi ∧ j = 0)) M M2 := by
        refine zr_trans (zr_mono k4 (fun t k j h => .inl h)) ?_
        rw [hM2]
        exact zr_setI (.inr ⟨rfl, rfl, rfl⟩)
      have ew : ∀ t k j, ((wv_W (ac + 192) (ac + 197) wi t k j ∨ (t = 10 ∧ k = wi ∧ j = 8)) ∨ (t = 10 ∧ k = wi ∧ j = 0)) → ((ac + 192 ≤ k ∧ k ≤ ac + 200 ∧ k ≠ ac + 199) ∨ (wi ≤ k ∧ k < wi + 2)) ∧ ¬ cLc ac t k j := by
        intro t k j hw
        unfold wv_W wy_W ww_W wo_W sq_W at hw
        unfold cLc
        omega
      have w2 : wt_x M2 wi (py_fw (S.2.1.2 r) unc) := by rw [hM2]; exact wtx_0 k2
      have e0 : zm_I M2 10 wi 0 = nI r := by rw [hM2, pm_same]; exact ex
      have ek : ∀ j, zm_I M2 11 ac j = zm_I M 11 ac j := fun j => zr_I z2 (fun hw => by have := ew _ _ _ hw; omega)
      have L2 := cL_zr hL z2 (fun t k j hw => (ew t k j hw).2)
      refine ⟨M2, ?_, cI_hi (T' := S.1) (rd' := S.2.2.2) hI' hz z2 (fun t k j hw => by have := ew t k j hw; omega) (by rw [ek]; exact o1) (ct_ag hT (ag_w z2 (fun t k j hw => by have := ew t k j hw; omega))) L2 (rdc_ag hrd (ag_w z2 (fun t k j hw => by have := ew t k j hw; omega))) ?_ ?_ (kS_ag hS (ek 14) (ag_w z2 (fun t k j hw => by have := ew t k j hw; omega))) (kD_ag hD (ag_w z2 (fun t k j hw => by have := ew t k j hw; omega))), zh_cC z2 (fun t k j hw => by have := ew t k j hw; omega), fun r2 e2 => by injection e2 with e2; subst e2; exact w2⟩
      · simp only [o7, o8, k1, Option.bind_some, zlet]
        rw [← hM2]
        exact fin M2 w2
      · rcases hwi with ⟨rfl, rfl⟩ | ⟨rfl, rfl⟩
        · exact .inr ⟨r, hr, e0, w2⟩
        · exact kU_ag hU (ag_w z2 (fun t k j hw => by have := ew t k j hw; omega))
      · rcases hwi with ⟨rfl, rfl⟩ | ⟨rfl, rfl⟩
        · exact kC_ag hC (ag_w z2 (fun t k j hw => by have := ew t k j hw; omega))
        · exact .inr ⟨r, hr, e0, w2⟩
def wi_a (ac : Nat) (unc : Bool) : Nat := if unc = true then ac + 213 else ac + 211
theorem cl_witnessOf (hI : cI ac N0 S0 M S g) (hz : zz_ok S) (hd : 74 ≤ d) (x : Int32) (unc : Bool) : ∃ M', cr_witnessOf d ac x (zb unc) M = some ((zin x S.2.1.1).bind (fun r => if (py_fw (S.2.1.2 r) unc).isSome = true then some (wi_a ac unc) else none), M') ∧ cI ac N0 S0 M' S g ∧ zh (cC_W ac) M M' ∧ ∀ r, zin x S.2.1.1 = some r → wt_x M' (wi_a ac unc) (py_fw (S.2.1.2 r) unc) := by
  obtain ⟨d, rfl⟩ : ∃ d', d = d' + 1 := ⟨d - 1, by omega⟩
  have eb : cr_witnessOf (d + 1) ac x (zb unc) M = cr_witnessOf_b d ac x (zb unc) M := rfl
  rw [eb]
  unfold cr_witnessOf_b
  have o9 := hI.2.1.1.2.2.2.2.2.2.2.2.1
  have o10 := hI.2.1.1.2.2.2.2.2.2.2.2.2.1
  cases unc with
  | false =>
    rw [if_pos (show zb false = 0 from rfl), o9]
    exact cl_wOf hI hz (by omega) (.inl ⟨rfl, rfl⟩) x
  | true =>
    rw [if_neg (show ¬ zb true = 0 by decide), o10]
    exact cl_wOf hI hz (by omega) (.inr ⟨rfl, rfl⟩) x
theorem cl_witness (hI : cI ac N0 S0 M S g) (hz : zz_ok S) (hd : 75 ≤ d) (x : Int32) (unc : Bool) (w : Int32) : cf_r ac N0 S0 M (cr_witness d ac x (zb unc) w M) (sp_wit S x unc w) S := by
  obtain ⟨d, rfl⟩ : ∃ d', d = d' + 1 := ⟨d - 1, by omega⟩
  have eb : cr_witness (d + 1) ac x (zb unc) w M = cr_witness_b d ac x (zb unc) w M := rfl
  rw [eb]
  obtain ⟨M1, k1, k2, k3, k4⟩ := cl_witnessOf hI hz (show 74 ≤ d by omega) x unc
  refine ⟨M1, g, ?_, k2, k3⟩
  unfold cr_witness_b sp_wit
  rw [k1]
  simp only [Option.bind_some]
  cases hx : zin x S.2.1.1 with
  | none => rfl
  | some r =>
    have hw := k4 r hx
    simp only [Option.bind_some]
    cases hf : py_fw (S.2.1.2 r) unc with
    | none =>
      simp only [Option.isSome_none, Bool.false_eq_true, if_false]
      cases zin w 6 <;> rfl
    | some b =>
      rw [hf] at hw
      obtain ⟨_, _, h3⟩ := hw
      obtain ⟨b2, b3, b4, ⟨b5, _⟩, _, b6, b7⟩ := h3 b rfl
      simp only [Option.isSome_some, if_true, b2, b3, b4, b5, wy_occurrenceIn, wy_countIn, Option.bind_some, c2_o b6.1 b6.2, c2_o b7.1 b7.2, c2_c b6.1 b6.2, c2_c b7.1 b7.2]
      rcases zin_c (show 6 < 2 ^ 31 by omega) w with ⟨hzw, _⟩ | ⟨j, hj, ew, hzw, _⟩
      · have q : ∀ i, i < 6 → ¬ w = nI i := fun i hi => zin_w (by omega) hzw hi
        rw [if_neg (show ¬ w = 0 from q 0 (by omega)), if_neg (show ¬ w = 1 from q 1 (by omega)), if_neg (show ¬ w = 2 from q 2 (by omega)), if_neg (show ¬ w = 3 from q 3 (by omega)), if_neg (show ¬ w = 4 from q 4 (by omega)), if_neg (show ¬ w = 5 from q 5 (by omega)), hzw]
      · rw [hzw]
        rcases (by omega : j = 0 ∨ j = 1 ∨ j = 2 ∨ j = 3 ∨ j = 4 ∨ j = 5) with q | q | q | q | q | q <;> subst q <;> rw [ew] <;> simp [pb_n0, pb_n1, pb_n2, pb_n3, pb_n4, pb_n5]
theorem cl_shown (hI : cI ac N0 S0 M S g) (hz : zz_ok S) (hd : 75 ≤ d) (x : Int32) (unc : Bool) (k : Int32) : cf_r ac N0 S0 M (cr_shown d ac x (zb unc) k M) (sp_shw S x unc k) S := by
  obtain ⟨d, rfl⟩ : ∃ d', d = d' + 1 := ⟨d - 1, by omega⟩
  have eb : cr_shown (d + 1) ac x (zb unc) k M = cr_shown_b d ac x (zb unc) k M := rfl
  rw [eb]
  obtain ⟨M1, k1, k2, k3, k4⟩ := cl_witnessOf hI hz (show 74 ≤ d by omega) x unc
  refine ⟨M1, g, ?_, k2, k3⟩
  unfold cr_shown_b sp_shw
  rw [k1]
  simp only [Option.bind_some, cr_shown_26]
  cases hx : zin x S.2.1.1 with
  | none => rfl
  | some r =>
    obtain ⟨hr, ex⟩ := zin_some (show S.2.1.1 < 2 ^ 31 by have := hz.2.1; omega) hx
    have hw := k4 r hx
    obtain ⟨hP, hX, x14, x15, x16, hr8⟩ := cI_r k2 hz hr
    simp only [Option.bind_some]
    cases hf : py_fw (S.2.1.2 r) unc with
    | none =>
      simp only [Option.isSome_none, Bool.false_eq_true, if_false]
      split <;> rfl
    | some b =>
      rw [hf] at hw
      obtain ⟨h1, _, h3⟩ := hw
      obtain ⟨b2, b3, b4, ⟨b5, b8, b9, b10⟩, _, b6, b7⟩ := h3 b rfl
      simp only [Option.isSome_some, if_true, b3, b5, wy_occurrenceIn, Option.bind_some, c2_o b6.1 b6.2]
      by_cases q : k < 0
      · rw [if_pos q, if_pos q]
      · rw [if_neg q, if_neg q]
        have c1 : (k ≤ nI b.2.2.2.length) ↔ ¬ nI b.2.2.2.length < k := by
          rw [Int32.le_iff_toInt_le, Int32.lt_iff_toInt_lt]
          omega
        by_cases q1 : nI b.2.2.2.length < k
        · rw [if_pos q1, if_neg (fun y => c1.mp y q1)]
        · rw [if_neg q1, if_pos (c1.mpr q1)]
          by_cases q2 : k = nI b.2.2.2.length
          · rw [if_pos q2, if_pos q2]
            have o2 := k2.2.1.1.2.1
            have hcS := k2.2.2.2.1.1
            have hlt := fw_lt hP hf
            have h16 := ok_nl hP
            have hzx : z_in x 8 := by rw [ex]; exact nI_in (by omega) (by omega)
            have hzo : z_in (nI b.2.1.1) 16 := nI_in (by omega) (by omega)
            obtain ⟨hN, hA, ⟨hF, r0, r1, ⟨r2, r3, r4⟩, rl, rc, ra, rn⟩, hcA⟩ := hX
            simp only [o2, hcS.1.1.1, hcS.1.1.2, if_pos hzx]
            rw [ex, nI_clamp (by omega), (hcS.1.2.2.1 r hr8).1]
            simp only [hF.1.1.1, hF.1.1.2, if_pos hzo, nI_clamp (show b.2.1.1 < 2 ^ 31 by omega), (rl _ hlt).1]
          · rw [if_neg q2, if_neg q2]
            rcases zin_c (show b.2.2.2.length < 2 ^ 31 by omega) k with ⟨hzi, h | ⟨j1, j2, j3⟩⟩ | ⟨i, hi, e, hzi, j1, j2, j3⟩
            · exact absurd h q
            · exfalso
              apply q2
              rw [Int32.le_iff_toInt_le] at j2
              rw [Int32.lt_iff_toInt_lt] at q1
              exact Int32.toInt_inj.mp (by omega)
            · have hg : b.2.2.2[i]? = some b.2.2.2[i] := by simp
              have hzk : z_in k 2304 := by rw [e]; exact nI_in (by omega) (by omega)
              simp only [h1.1, h1.2, if_pos hzk]
              rw [e, nI_clamp (by omega), hg, b9 i _ hg]
end
