/-! THE RULES' text: a node is put into another, in words -/
theorem lp_snoc : ∀ (l : List Nat) (pl c : Nat), py_lp pl (l ++ [c]) = 6 * c + 4 := by
  intro l
  induction l with
  | nil => intro pl c; rfl
  | cons x l ih => intro pl c; exact ih _ _
def py_put (X : Nat → yX) (A C : Nat) : Nat → yX := fun n => if n = A then ((X A).1, (X A).2.1, (X A).2.2.1, (X A).2.2.2.1 ++ [C], max (X A).2.2.2.2 (X C).2.2.2.2) else if n = C then ((X C).1, (X C).2.1, some A, (X C).2.2.2.1, (X C).2.2.2.2) else X n
section
variable {am d : Nat} {M : zM} {N : Nat} {X : Nat → yX}
theorem mr_puts (hl : ml_ok am M) (h : rn_x am M N X) (hN : N ≤ 1200) {A C : Nat} (hA : A < N) (hC : C < N) (hlen : (X A).2.2.2.1.length ≤ 400) (har : (X A).2.2.2.2 ≤ 100 ∧ (X C).2.2.2.2 ≤ 100) : mo_puts d am (nI A) (nI C) M = some (zm_setI (zm_setI (zm_setI M 20 (am + 3) (6 * C + 2) (nI A)) 20 (am + 3) (6 * A + 5) (nI (max (X A).2.2.2.2 (X C).2.2.2.2))) 20 (am + 3) (py_lp (6 * A + 3) (X A).2.2.2.1) (nI C)) := by
  have hLF2 : 400 < zLF := pb_LF
  obtain ⟨a0, a1, a2, a3, a4, a5, a6⟩ := h.2 A hA
  obtain ⟨c0, c1, c2, c3, c4, c5, c6⟩ := h.2 C hC
  have e2 : 6 * nI C + 2 = nI (6 * C + 2) := mx_6 C 2
  have e5 : 6 * nI A + 5 = nI (6 * A + 5) := mx_6 A 5
  have f5 : 6 * nI C + 5 = nI (6 * C + 5) := mx_6 C 5
  have e3 : 6 * nI A + 3 = nI (6 * A + 3) := mx_6 A 3
  have z2 : z_in (nI (6 * C + 2)) 7200 := nI_in (by omega) (by omega)
  have z5 : z_in (nI (6 * A + 5)) 7200 := nI_in (by omega) (by omega)
  have y5 : z_in (nI (6 * C + 5)) 7200 := nI_in (by omega) (by omega)
  have w1 : zm_I (zm_setI M 20 (am + 3) (6 * C + 2) (nI A)) 20 (am + 3) (6 * A + 5) = nI (X A).2.2.2.2 := by rw [pm_ne (by omega)]; exact a4
  have w2 : zm_I (zm_setI M 20 (am + 3) (6 * C + 2) (nI A)) 20 (am + 3) (6 * C + 5) = nI (X C).2.2.2.2 := by rw [pm_ne (by omega)]; exact c4
  have emx : (if nI (X A).2.2.2.2 < nI (X C).2.2.2.2 then nI (X C).2.2.2.2 else nI (X A).2.2.2.2) = nI (max (X A).2.2.2.2 (X C).2.2.2.2) := by
    have : (nI (X A).2.2.2.2 < nI (X C).2.2.2.2) ↔ (X A).2.2.2.2 < (X C).2.2.2.2 := nI_ltI (by omega) (by omega)
    simp only [this]
    by_cases u : (X A).2.2.2.2 < (X C).2.2.2.2
    · rw [if_pos u, Nat.max_eq_right (by omega)]
    · rw [if_neg u, Nat.max_eq_left (by omega)]
  have g := mr_puts_53 (d := d) (nI C) (M := zm_setI (zm_setI M 20 (am + 3) (6 * C + 2) (nI A)) 20 (am + 3) (6 * A + 5) (nI (max (X A).2.2.2.2 (X C).2.2.2.2))) (ml_set (ml_set hl)) (X A).2.2.2.1 (6 * A + 3) (by omega) (by rw [pm_ne (by omega), pm_ne (by omega)]; exact a3) (by
    intro i c hi
    have hk := a5 i c hi
    refine ⟨by omega, ?_⟩
    rw [pm_ne (by omega), pm_ne (by omega)]
    exact hk.2.1) zLF (by omega)
  unfold mo_puts
  simp only [ml_R6 hl, ml_L6 hl, e2, e5, f5, e3, if_pos z2, if_pos z5, if_pos y5, nI_clamp (show 6 * C + 2 < 2 ^ 31 by omega), nI_clamp (show 6 * A + 5 < 2 ^ 31 by omega), nI_clamp (show 6 * C + 5 < 2 ^ 31 by omega), zlet, pm_RI, pm_LI, w1, w2, emx]
  exact g
end
