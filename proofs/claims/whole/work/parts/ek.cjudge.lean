/-! THE CLASS: a thing is judged -/
def do_l (M : zM) (do_ : Nat) : Prop := (∀ i, 1 ≤ i → i ≤ 8 → zm_R M 1 do_ i = some (do_ + i) ∧ zm_L M 20 (do_ + i) = 60) ∧ zm_R M 1 do_ 9 = some (do_ + 9) ∧ zm_L M 20 (do_ + 9) = 160
def dj_W (do_ x t k j : Nat) : Prop := t = 20 ∧ do_ + 5 ≤ k ∧ k ≤ do_ + 8 ∧ j = x
section
variable {M : zM} {d do_ x : Nat}
theorem cl_judge (hd : 2 ≤ d) (hl : do_l M do_) (hx : x < 60) (b e : Bool) (w v : Int32) : ∃ M', do_judge d do_ (nI x) (zb b) w v (zb e) M = some M' ∧ zm_I M' 20 (do_ + 5) x = zb b ∧ zm_I M' 20 (do_ + 6) x = (if b then -1 else w) ∧ zm_I M' 20 (do_ + 7) x = (if b then 0 else v) ∧ zm_I M' 20 (do_ + 8) x = (if b then 0 else zb e) ∧ zf (dj_W do_ x) M M' := by
  obtain ⟨d, rfl⟩ : ∃ d', d = d' + 1 := ⟨d - 1, by omega⟩
  have hz : z_in (nI x) 60 := nI_in (by omega) (by omega)
  have hcl := nI_clamp (show x < 2 ^ 31 by omega)
  have l5 := hl.1 5 (by omega) (by omega)
  have l6 := hl.1 6 (by omega) (by omega)
  have l7 := hl.1 7 (by omega) (by omega)
  have l8 := hl.1 8 (by omega) (by omega)
  have hbit : ∀ M1, cr_bit d (zb e) M1 = some (zb e, M1) := by
    intro M1
    cases e <;> rfl
  refine ⟨zm_setI (zm_setI (zm_setI (zm_setI M 20 (do_ + 5) x (zb b)) 20 (do_ + 6) x (if b then -1 else w)) 20 (do_ + 7) x (if b then 0 else v)) 20 (do_ + 8) x (if b then 0 else zb e), ?_, ?_, ?_, ?_, ?_, ?_⟩
  · show do_judge_b d do_ (nI x) (zb b) w v (zb e) M = _
    unfold do_judge_b do_judge_14 do_judge_29 do_judge_45 do_judge_64
    cases b
    · have h0 : zb false = 0 := rfl
      simp only [h0, if_true, l5.1, l5.2, l6.1, l6.2, l7.1, l7.2, l8.1, l8.2, if_pos hz, hcl, zlet, pm_RI, pm_LI, hbit, Option.bind_some]
      rfl
    · have h1 : ¬ zb true = 0 := by decide
      simp only [if_neg h1, l5.1, l5.2, l6.1, l6.2, l7.1, l7.2, l8.1, l8.2, if_pos hz, hcl, zlet, pm_RI, pm_LI]
      rfl
  · rw [pm_ne (by omega), pm_ne (by omega), pm_ne (by omega), pm_same]
  · rw [pm_ne (by omega), pm_ne (by omega), pm_same]
  · rw [pm_ne (by omega), pm_same]
  · rw [pm_same]
  · exact zf_trans (zf_trans (zf_trans (zf_set ⟨rfl, by omega, by omega, rfl⟩) (zf_set ⟨rfl, by omega, by omega, rfl⟩)) (zf_set ⟨rfl, by omega, by omega, rfl⟩)) (zf_set ⟨rfl, by omega, by omega, rfl⟩)
end
