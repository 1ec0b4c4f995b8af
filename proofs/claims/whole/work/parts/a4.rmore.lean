/-! THE RULES' text: how many there are -/
section
variable {am d : Nat} {M : zM}
theorem mr_many {r w v : Nat} (hl : ml_ok am M) (h16 : zm_I M 12 am 16 = nI r) (hr : 5 * r + w < 40) (hv : zm_I M 20 (am + 5) (5 * r + w) = nI v) : mo_many d am (nI w) M = some (nI v, M) := by
  have hz : z_in (nI (5 * r + w)) 40 := nI_in (by omega) (by omega)
  unfold mo_many
  simp only [ml_R8 hl, ml_L8 hl, h16, mx_5, if_pos hz, nI_clamp (show 5 * r + w < 2 ^ 31 by omega), hv]
theorem mr_more {r w v : Nat} (hl : ml_ok am M) (h16 : zm_I M 12 am 16 = nI r) (hr : 5 * r + w < 40) (hv : zm_I M 20 (am + 5) (5 * r + w) = nI v) (hv2 : v < 1000) : ∃ M', mo_more d am (nI w) M = some (nI v, M') ∧ zm_I M' 20 (am + 5) (5 * r + w) = nI (v + 1) ∧ (∀ j, j ≠ 5 * r + w → zm_I M' 20 (am + 5) j = zm_I M 20 (am + 5) j) ∧ zf (mg am [] [5]) M M' := by
  have hz : z_in (nI (5 * r + w)) 40 := nI_in (by omega) (by omega)
  have h16' : zm_I (zm_setI M 20 (am + 5) (5 * r + w) (nI (v + 1))) 12 am 16 = nI r := by rw [pm_ne (by omega)]; exact h16
  have es : nI (v + 1) - 1 = nI v := by
    have : nI (v + 1) - 1 = nI (v + 1 - 1) := pk_sub (a := v + 1) (b := 1) (by omega)
    rw [this]
    rfl
  refine ⟨zm_setI M 20 (am + 5) (5 * r + w) (nI (v + 1)), ?_, pm_same, fun j hj => pm_ne (by omega), zf_set (.inr ⟨.inl rfl, 5, by simp, rfl⟩)⟩
  unfold mo_more
  simp only [ml_R8 hl, ml_L8 hl, h16, mx_5, if_pos hz, nI_clamp (show 5 * r + w < 2 ^ 31 by omega), hv, nI_1, zlet, pm_RI, pm_LI, h16', pm_same, es]
end
