/-! THE CLASS: what rules told is forgotten -/
def fg_W (ac dc t k j : Nat) : Prop := (t = 10 ∧ (k = ac + 211 ∨ k = ac + 213) ∧ j = 0) ∨ (t = 0 ∧ k = ac + 235 ∧ (j = 2 ∨ j = 3)) ∨ (t = 11 ∧ k = ac ∧ j = 14) ∨ (t = 4 ∧ k = ac + 228 ∧ j = 12) ∨ dg_W (ac + 215) dc t k j
section
variable {ac d R bt dc pn : Nat} {M M' : zM} {Ps : Nat → yP} {pa : Nat → Nat} {D : List yT}
theorem cl_forgetTold (hd : 5 ≤ d) (o2 : zm_R M 11 ac 2 = some bt) (o4 : zm_R M 11 ac 4 = some dc) (o9 : zm_R M 11 ac 9 = some (ac + 211)) (o10 : zm_R M 11 ac 10 = some (ac + 213)) (o11 : zm_R M 11 ac 11 = some (ac + 215)) (o12 : zm_R M 11 ac 12 = some (ac + 228)) (o13 : zm_R M 11 ac 13 = some (ac + 235)) (hbt : ac + 2 ≤ bt ∧ bt + 84 ≤ ac + 170) (hdc : ac + 170 ≤ dc ∧ dc + 10 ≤ ac + 190) (hD : do_ok D) (h26 : py_le26 R Ps) (hPs : ∀ r, r < R → py_ok (Ps r)) (hS : cS_x M pa bt R Ps) (hdm : ∀ r, r < R → ∀ n, py_dm (Ps r) n → n < pn) (hpa : ∀ i, i < pn → ac + 242 ≤ pa i) (hw : wk_l M (ac + 215)) (hdo : do_x M dc D) : ∃ M', cr_forgetWhatRulesTold d ac M = some M' ∧ zr (fg_W ac dc) M M' ∧ do_h M' dc R Ps D ∧ (zm_I M' 10 (ac + 211) 0 = -1 ∧ zm_I M' 10 (ac + 213) 0 = -1 ∧ zm_I M' 11 ac 14 = -1 ∧ zm_I M' 0 (ac + 235) 2 = -1 ∧ zm_I M' 0 (ac + 235) 3 = -1 ∧ zm_I M' 4 (ac + 228) 12 = 0) := by
  obtain ⟨d, rfl⟩ : ∃ d', d = d' + 1 := ⟨d - 1, by omega⟩
  have eb : cr_forgetWhatRulesTold (d + 1) ac M = cr_forgetWhatRulesTold_b d ac M := rfl
  rw [eb]
  obtain ⟨M1, hM1⟩ : ∃ Y, Y = zm_setI (zm_setI (zm_setI (zm_setI (zm_setI (zm_setI M 10 (ac + 211) 0 (-1)) 10 (ac + 213) 0 (-1)) 0 (ac + 235) 2 (-1)) 0 (ac + 235) 3 (-1)) 11 ac 14 (-1)) 4 (ac + 228) 12 0 := ⟨_, rfl⟩
  have z1 : zf (fun t k j => (t = 10 ∧ (k = ac + 211 ∨ k = ac + 213) ∧ j = 0) ∨ (t = 0 ∧ k = ac + 235 ∧ (j = 2 ∨ j = 3)) ∨ (t = 11 ∧ k = ac ∧ j = 14) ∨ (t = 4 ∧ k = ac + 228 ∧ j = 12)) M M1 := by
    rw [hM1]
    exact zf_trans (zf_set (.inl ⟨rfl, .inl rfl, rfl⟩)) (zf_trans (zf_set (.inl ⟨rfl, .inr rfl, rfl⟩)) (zf_trans (zf_set (.inr (.inl ⟨rfl, rfl, .inl rfl⟩))) (zf_trans (zf_set (.inr (.inl ⟨rfl, rfl, .inr rfl⟩))) (zf_trans (zf_set (.inr (.inr (.inl ⟨rfl, rfl, rfl⟩)))) (zf_set (.inr (.inr (.inr ⟨rfl, rfl, rfl⟩))))))))
  have S1 : cS_x M1 pa bt R Ps := by
    refine cS_ag hPs hdm hS (ag_zf z1 ?_)
    rintro t k j (hk | ⟨i, h1, h2⟩) hw
    · have := hk.1; have := hk.2; omega
    · have := hpa i h1; omega
  have w1 : wk_l M1 (ac + 215) := by unfold wk_l; rw [z1.1, z1.2.1]; exact hw
  have d1 : do_x M1 dc D := dx_ag hdo (ag_w (zr_zf z1) (fun t k j hw => by omega))
  obtain ⟨M2, q1, q2, q3⟩ := cl_hold (d := d) (b := bt) (dc := dc) (wk := ac + 215) (by omega) (by omega) (by omega) hD h26 hPs S1 w1 d1
  have ew3 : ∀ t k j, dg_W (ac + 215) dc t k j → (ac + 215 ≤ k ∧ k < ac + 228) ∨ (t = 20 ∧ dc + 5 ≤ k ∧ k ≤ dc + 8) := by
    intro t k j hw
    unfold dg_W wz_W at hw
    omega
  have e2 : ∀ t k j, ¬ ((ac + 215 ≤ k ∧ k < ac + 228) ∨ (t = 20 ∧ dc + 5 ≤ k ∧ k ≤ dc + 8)) → zm_I M2 t k j = zm_I M1 t k j := fun t k j h => zr_I q3 (fun hw => h (ew3 _ _ _ hw))
  refine ⟨M2, ?_, zr_trans (zr_mono (zr_zf z1) ?_) (zr_mono q3 (fun t k j h => .inr (.inr (.inr (.inr h))))), q2, ?_, ?_, ?_, ?_, ?_, ?_⟩
  · unfold cr_forgetWhatRulesTold_b wi_forget di_forget
    simp only [o9, o10, o12, o13, o2, o4, o11, Option.bind_some, zlet, pm_RI]
    rw [← hM1, q1]
    rfl
  · intro t k j h
    unfold fg_W
    rcases h with h | h | h | h
    · exact .inl h
    · exact .inr (.inl h)
    · exact .inr (.inr (.inl h))
    · exact .inr (.inr (.inr (.inl h)))
  · rw [e2 _ _ _ (by omega), hM1, pm_ne (by omega), pm_ne (by omega), pm_ne (by omega), pm_ne (by omega), pm_ne (by omega), pm_same]
  · rw [e2 _ _ _ (by omega), hM1, pm_ne (by omega), pm_ne (by omega), pm_ne (by omega), pm_ne (by omega), pm_same]
  · rw [e2 _ _ _ (by omega), hM1, pm_ne (by omega), pm_same]
  · rw [e2 _ _ _ (by omega), hM1, pm_ne (by omega), pm_ne (by omega), pm_ne (by omega), pm_same]
  · rw [e2 _ _ _ (by omega), hM1, pm_ne (by omega), pm_ne (by omega), pm_same]
  · rw [e2 _ _ _ (by omega), hM1, pm_same]
end
