/-! THE RULES' text: a node is opened -/
section
variable {am d : Nat} {M : zM}
theorem mr_opens_18 (kd nb : Int32) {n : Nat} (hn : n < 1200) : ∀ (m k : Nat) (M : zM), k + m = 6 → ml_ok am M → (∀ j, j < k → zm_I M 20 (am + 3) (6 * n + j) = -1) → ∀ fuel, m < fuel → ∃ M', mo_opens_18 d fuel am kd nb (nI n) (nI k) M = some (nI n, M') ∧ zm_I M' 20 (am + 3) (6 * n) = kd ∧ zm_I M' 20 (am + 3) (6 * n + 1) = nb ∧ (∀ j, 2 ≤ j → j < 5 → zm_I M' 20 (am + 3) (6 * n + j) = -1) ∧ zm_I M' 20 (am + 3) (6 * n + 5) = 0 ∧ (∀ j, j < 6 * n ∨ 6 * n + 6 ≤ j → zm_I M' 20 (am + 3) j = zm_I M 20 (am + 3) j) ∧ zf (mg am [] [3]) M M' := by
  intro m
  induction m with
  | zero =>
    intro k M hk hl hc fuel hf
    cases fuel with
    | zero => cases hf
    | succ fuel =>
      have : k = 6 := by omega
      subst this
      have hle : (6 : Int32) ≤ nI 6 := by decide
      have e0 : 6 * nI n + 0 = nI (6 * n) := mx_6 n 0
      have e1 : 6 * nI n + 1 = nI (6 * n + 1) := mx_6 n 1
      have e5 : 6 * nI n + 5 = nI (6 * n + 5) := mx_6 n 5
      have z0 : z_in (nI (6 * n)) 7200 := nI_in (by omega) (by omega)
      have z1 : z_in (nI (6 * n + 1)) 7200 := nI_in (by omega) (by omega)
      have z5 : z_in (nI (6 * n + 5)) 7200 := nI_in (by omega) (by omega)
      refine ⟨zm_setI (zm_setI (zm_setI M 20 (am + 3) (6 * n) kd) 20 (am + 3) (6 * n + 1) nb) 20 (am + 3) (6 * n + 5) 0, ?_, ?_, ?_, ?_, pm_same, ?_, zf_trans (zf_trans (zf_set (.inr ⟨.inl rfl, 3, by simp, rfl⟩)) (zf_set (.inr ⟨.inl rfl, 3, by simp, rfl⟩))) (zf_set (.inr ⟨.inl rfl, 3, by simp, rfl⟩))⟩
      · simp only [mo_opens_18, if_pos hle, pm_RI, pm_LI, ml_R6 hl, ml_L6 hl, e0, e1, e5, if_pos z0, if_pos z1, if_pos z5, nI_clamp (show 6 * n < 2 ^ 31 by omega), nI_clamp (show 6 * n + 1 < 2 ^ 31 by omega), nI_clamp (show 6 * n + 5 < 2 ^ 31 by omega), zlet]
      · rw [pm_ne (by omega), pm_ne (by omega), pm_same]
      · rw [pm_ne (by omega), pm_same]
      · intro j h2 h5
        rw [pm_ne (by omega), pm_ne (by omega), pm_ne (by omega)]
        exact hc j (by omega)
      · intro j hj
        rw [pm_ne (by omega), pm_ne (by omega), pm_ne (by omega)]
  | succ m ih =>
    intro k M hk hl hc fuel hf
    cases fuel with
    | zero => cases hf
    | succ fuel =>
      have hge : ¬ (6 : Int32) ≤ nI k := nI_ge (b := 6) (by omega) (by omega)
      have hz : z_in (nI (6 * n + k)) 7200 := nI_in (by omega) (by omega)
      have hfz : zf (mg am [] [3]) M (zm_setI M 20 (am + 3) (6 * n + k) (-1)) := zf_set (.inr ⟨.inl rfl, 3, by simp, rfl⟩)
      obtain ⟨M', g1, g2, g3, g4, g5, g6, g7⟩ := ih (k + 1) (zm_setI M 20 (am + 3) (6 * n + k) (-1)) (by omega) (ml_set hl) (by
        intro j hj
        by_cases e : j = k
        · subst e
          exact pm_same
        · rw [pm_ne (by omega)]
          exact hc j (by omega)) fuel (by omega)
      refine ⟨M', ?_, g2, g3, g4, g5, ?_, zf_trans hfz g7⟩
      · simp only [mo_opens_18, if_neg hge, ml_R6 hl, ml_L6 hl, mx_6, if_pos hz, nI_clamp (show 6 * n + k < 2 ^ 31 by omega), zlet, nI_1]
        exact g1
      · intro j hj
        rw [g6 j hj, pm_ne (by omega)]
theorem mr_opens (kd nb : Int32) {n : Nat} (hn : n < 1200) (hl : ml_ok am M) (h17 : zm_I M 12 am 17 = nI n) : ∃ M', mo_opens d am kd nb M = some (nI n, M') ∧ zm_I M' 12 am 17 = nI (n + 1) ∧ zm_I M' 20 (am + 3) (6 * n) = kd ∧ zm_I M' 20 (am + 3) (6 * n + 1) = nb ∧ (∀ j, 2 ≤ j → j < 5 → zm_I M' 20 (am + 3) (6 * n + j) = -1) ∧ zm_I M' 20 (am + 3) (6 * n + 5) = 0 ∧ (∀ j, j < 6 * n ∨ 6 * n + 6 ≤ j → zm_I M' 20 (am + 3) j = zm_I M 20 (am + 3) j) ∧ zf (mg am [17] [3]) M M' := by
  have hLF2 : 400 < zLF := pb_LF
  have hfz : zf (mg am [17] [3]) M (zm_setI M 12 am 17 (nI (n + 1))) := zf_set (.inl ⟨rfl, rfl, by simp⟩)
  obtain ⟨M', g1, g2, g3, g4, g5, g6, g7⟩ := mr_opens_18 (am := am) (d := d) kd nb hn 6 0 (zm_setI M 12 am 17 (nI (n + 1))) (by omega) (ml_set hl) (by intro j hj; omega) zLF (by omega)
  have g1' : mo_opens_18 d zLF am kd nb (nI n) 0 (zm_setI M 12 am 17 (nI (n + 1))) = some (nI n, M') := g1
  refine ⟨M', ?_, ?_, g2, g3, g4, g5, ?_, zf_trans hfz (zf_mono g7 (mg_mono (by simp) (by simp)))⟩
  · unfold mo_opens
    simp only [zlet, h17, nI_1]
    exact g1'
  · rw [mg_f g7 (by simp), pm_same]
  · intro j hj
    rw [g6 j hj, pm_ne (by omega)]
end
