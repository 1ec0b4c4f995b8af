/-! THE RULES' text: what reading rule r may change -/
def rw_r (am r t k j : Nat) : Prop := (t = 12 ∧ k = am ∧ (j = 3 ∨ j = 4 ∨ j = 17)) ∨ (t = 22 ∧ ∃ i, i ∈ [3, 5, 7, 9, 11] ∧ k = am + i) ∨ (t = 20 ∧ (k = am + 3 ∨ (k = am + 5 ∧ 5 * r + 2 ≤ j ∧ j < 5 * r + 5) ∨ (k = am + 7 ∧ 24 * r ≤ j ∧ j < 24 * r + 24) ∨ (k = am + 9 ∧ 32 * r ≤ j ∧ j < 32 * r + 32) ∨ (k = am + 11 ∧ 4 * r ≤ j ∧ j < 4 * r + 4)))
section
variable {am r : Nat} {M M' : zM}
theorem rw_mg {F A : List Nat} (h : zf (mg am F A) M M') (hF : ∀ j, j ∈ F → j = 3 ∨ j = 4 ∨ j = 17) (hA : ∀ j, j ∈ A → j = 3) : zf (rw_r am r) M M' := by
  refine zf_mono h ?_
  intro t k j w
  rcases w with ⟨w1, w2, w3⟩ | ⟨w1, i, w2, w3⟩
  · exact .inl ⟨w1, w2, hF j w3⟩
  · have e := hA i w2
    subst e
    rcases w1 with w1 | w1
    · exact .inr (.inr ⟨w1, .inl w3⟩)
    · exact .inr (.inl ⟨w1, 3, by simp, w3⟩)
theorem rw_one {i : Nat} {J : Nat → Prop} (hf : zf (mg am [] [i]) M M') (hc : ∀ j, ¬ J j → zm_I M' 20 (am + i) j = zm_I M 20 (am + i) j) (hi : i ∈ [3, 5, 7, 9, 11]) (hw : ∀ j, J j → rw_r am r 20 (am + i) j) : zf (rw_r am r) M M' := by
  obtain ⟨a1, a2, a3, a4, a5, a6, a7⟩ := hf
  refine ⟨a1, a2, a3, a4, a5, a6, ?_⟩
  intro t k j w
  by_cases q : mg am [] [i] t k j
  · rcases q with ⟨_, _, q⟩ | ⟨q1, x, q2, q3⟩
    · cases q
    · have e : x = i := by simpa using q2
      subst e
      rcases q1 with q1 | q1
      · subst q1
        subst q3
        exact hc j (fun e => w (hw j e))
      · exact absurd (.inr (.inl ⟨q1, x, hi, q3⟩)) w
  · exact a7 t k j q
end
