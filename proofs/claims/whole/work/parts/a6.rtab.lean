/-! THE RULES' text: the nodes read so far -/
/-- kind, number, above, kids, how many counts are within one another -/
abbrev yX : Type := Nat × Nat × Option Nat × List Nat × Nat
def rn_x (am : Nat) (M : zM) (N : Nat) (X : Nat → yX) : Prop := zm_I M 12 am 17 = nI N ∧ ∀ n, n < N → zm_I M 20 (am + 3) (6 * n) = nI (X n).1 ∧ zm_I M 20 (am + 3) (6 * n + 1) = nI (X n).2.1 ∧ zm_I M 20 (am + 3) (6 * n + 2) = zo (X n).2.2.1 ∧ zm_I M 20 (am + 3) (6 * n + 3) = zo (X n).2.2.2.1.head? ∧ zm_I M 20 (am + 3) (6 * n + 5) = nI (X n).2.2.2.2 ∧ (∀ (i c : Nat), (X n).2.2.2.1[i]? = some c → c < N ∧ zm_I M 20 (am + 3) (6 * c + 4) = zo (X n).2.2.2.1[i + 1]? ∧ (X c).2.2.1 = some n) ∧ ((X n).2.2.1 = none → zm_I M 20 (am + 3) (6 * n + 4) = -1)
section
variable {am d : Nat} {M : zM} {N : Nat} {X : Nat → yX}
theorem rn_mg {F A : List Nat} {M' : zM} (h : rn_x am M N X) (hf : zf (mg am F A) M M') (hF : ¬ 17 ∈ F) (hA : ¬ 3 ∈ A) : rn_x am M' N X := by
  refine ⟨by rw [mg_f hf hF]; exact h.1, ?_⟩
  intro n hn
  have hc : ∀ j, zm_I M' 20 (am + 3) j = zm_I M 20 (am + 3) j := fun j => mg_a hf (by decide) hA
  obtain ⟨h0, h1, h2, h3, h4, h5, h6⟩ := h.2 n hn
  refine ⟨by rw [hc]; exact h0, by rw [hc]; exact h1, by rw [hc]; exact h2, by rw [hc]; exact h3, by rw [hc]; exact h4, ?_, ?_⟩
  · intro i c hi
    have := h5 i c hi
    exact ⟨this.1, by rw [hc]; exact this.2.1, this.2.2⟩
  · intro hu
    rw [hc]
    exact h6 hu
/-- one more node -/
theorem rn_open (hl : ml_ok am M) (h : rn_x am M N X) (hN : N < 1200) (kd nb : Nat) : ∃ M', mo_opens d am (nI kd) (nI nb) M = some (nI N, M') ∧ rn_x am M' (N + 1) (py_u X N (kd, nb, none, [], 0)) ∧ zf (mg am [17] [3]) M M' := by
  obtain ⟨M', g1, g2, g3, g4, g5, g6, g7, g8⟩ := mr_opens (d := d) (nI kd) (nI nb) hN hl h.1
  refine ⟨M', g1, ⟨g2, ?_⟩, g8⟩
  intro n hn
  by_cases e : n = N
  · subst e
    have eu : py_u X n (kd, nb, none, [], 0) n = (kd, nb, none, [], 0) := by simp [py_u]
    rw [eu]
    refine ⟨g3, g4, g5 2 (by omega) (by omega), g5 3 (by omega) (by omega), g6, ?_, fun _ => g5 4 (by omega) (by omega)⟩
    intro i c hi
    simp at hi
  · have hlt : n < N := by omega
    have eu : py_u X N (kd, nb, none, [], 0) n = X n := by simp [py_u, e]
    rw [eu]
    obtain ⟨h0, h1, h2, h3, h4, h5, h6⟩ := h.2 n hlt
    refine ⟨by rw [g7 _ (by omega)]; exact h0, by rw [g7 _ (by omega)]; exact h1, by rw [g7 _ (by omega)]; exact h2, by rw [g7 _ (by omega)]; exact h3, by rw [g7 _ (by omega)]; exact h4, ?_, ?_⟩
    · intro i c hi
      have hk := h5 i c hi
      have hcN := hk.1
      have ec : py_u X N (kd, nb, none, [], 0) c = X c := by simp [py_u, show c ≠ N by omega]
      refine ⟨by omega, by rw [g7 _ (by omega)]; exact hk.2.1, ?_⟩
      rw [ec]
      exact hk.2.2
    · intro hu
      rw [g7 _ (by omega)]
      exact h6 hu
end
