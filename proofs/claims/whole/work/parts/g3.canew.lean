/-! THE CLASS: one rule is learned and studied -/
def an_W (ac : Nat) (pa : Nat → Nat) (P : yP) (Q t k j : Nat) : Prop := lr_W (ac + 191) pa P Q t k j ∨ st_W (ac + 192) Q t k j
section
variable {M M' : zM} {pa : Nat → Nat} {P : yP} {ac d Q : Nat}
theorem cl_anew (hP : py_ok P) (hd : 40 ≤ d) (hQ : Q + 10 ≤ ac + 190) (hN : cN_x M pa P) (hR : cR_x M pa Q P) (hp : lp_x M (ac + 190) (ac + 191)) (hw : wy_l M (ac + 192)) : ∃ M1 M2, le_learnRule d (ac + 190) (some Q) M = some M1 ∧ wy_study d (ac + 192) (some Q) M1 = some M2 ∧ zm_R M1 = zm_R M ∧ zm_L M1 = zm_L M ∧ cX M2 pa Q P ∧ zm_I M2 5 Q 14 = nI (py_cf P false) ∧ zm_I M2 5 Q 15 = zb (py_cf P true == 0) ∧ zm_I M2 5 Q 16 = zb (py_sure P) ∧ zf (an_W ac pa P Q) M M2 := by
  obtain ⟨M1, a1, a2, a3, a4⟩ := cl_learnRule (d := d) (le := ac + 190) (ro := ac + 191) hP (by omega) hd hN hp hR
  have n5 : ∀ k j, ¬ lr_W (ac + 191) pa P Q 5 k j := by
    rintro k j (⟨m, _, _, h⟩ | h)
    · unfold lw_W at h; omega
    · omega
  have n3 : ∀ k j, j < 8 → ¬ lr_W (ac + 191) pa P Q 3 k j := by
    rintro k j hj (⟨m, _, _, h⟩ | h)
    · unfold lw_W at h; omega
    · omega
  have n20 : ∀ k j, k ≠ ac + 191 → k ≠ Q + 3 → k ≠ Q + 4 → k ≠ Q + 7 → ¬ lr_W (ac + 191) pa P Q 20 k j := by
    rintro k j h1 h2 h3 h4 (⟨m, _, _, h⟩ | h)
    · unfold lw_W at h; omega
    · omega
  have N1 : cN_x M1 pa P := cN_zf hN a2 (fun k j hj => n3 k j hj)
  have R1 : cR_x M1 pa Q P := cR_zf hR a2 (fun j _ => n5 Q j) (fun j => ⟨n20 _ _ (by omega) (by omega) (by omega) (by omega), n20 _ _ (by omega) (by omega) (by omega) (by omega), n20 _ _ (by omega) (by omega) (by omega) (by omega)⟩)
  have X1 : cX M1 pa Q P := ⟨N1, a3, R1, a4⟩
  have w1 : wy_l M1 (ac + 192) := by unfold wy_l; rw [a2.1, a2.2.1]; exact hw
  obtain ⟨M2, b1, b2, b3, b4, b5⟩ := cl_study (d := d) (wy := ac + 192) hP (by omega) ⟨X1, w1, by omega⟩
  refine ⟨M1, M2, a1, b1, a2.1, a2.2.1, ?_, b2, b3, b4, zf_trans (zf_mono a2 (fun t k j h => .inl h)) (zf_mono b5 (fun t k j h => .inr h))⟩
  refine cX_zf X1 b5 ?_ ?_ ?_ ?_
  · intro k j h
    unfold st_W wy_W at h
    omega
  · intro k j h
    unfold st_W wy_W at h
    omega
  · intro j hj h
    unfold st_W wy_W at h
    omega
  · intro i j hi h
    unfold st_W wy_W at h
    omega
end
