/-! THE RULES' text: the parser's state in the model's memory, while rule r is read -/
def rs_x (am : Nat) (M : zM) (T : List Nat) (r : Nat) (q : yQp) : Prop := ml_ok am M ∧ mt_p am M T ∧ rp_x am M T q.1 q.2.1 ∧ zm_I M 12 am 4 = -1 ∧ rn_x am M q.2.2.1 q.2.2.2.1 ∧ zm_I M 12 am 16 = nI r ∧ (zm_I M 20 (am + 5) (5 * r + 2) = nI q.2.2.2.2.1.length ∧ zm_I M 20 (am + 5) (5 * r + 3) = nI q.2.2.2.2.2.1.length ∧ zm_I M 20 (am + 5) (5 * r + 4) = nI q.2.2.2.2.2.2.length) ∧ (∀ (i : Nat) (x : Nat × Nat), q.2.2.2.2.1[i]? = some x → zm_I M 20 (am + 9) (2 * (16 * r + i)) = nI x.1 ∧ zm_I M 20 (am + 9) (2 * (16 * r + i) + 1) = nI x.2) ∧ (∀ (i : Nat) (x : Nat × Option Nat × Nat), q.2.2.2.2.2.1[i]? = some x → zm_I M 20 (am + 7) (3 * (8 * r + i)) = nI x.1 ∧ zm_I M 20 (am + 7) (3 * (8 * r + i) + 1) = zo x.2.1 ∧ zm_I M 20 (am + 7) (3 * (8 * r + i) + 2) = nI x.2.2) ∧ (∀ (i x : Nat), q.2.2.2.2.2.2[i]? = some x → zm_I M 20 (am + 11) (4 * r + i) = nI x)
section
variable {am d : Nat} {M : zM} {T : List Nat} {r : Nat} {q : yQp}
/-- only the place has changed -/
theorem rs_at {M' : zM} {b : List Nat} {p : Nat} (h : rs_x am M T r q) (hf : zf (mg am [3] []) M M') (hp : rp_x am M' T b p) : rs_x am M' T r (b, p, q.2.2) := by
  obtain ⟨h1, h2, h3, h4, h5, h6, h7, h8, h9, h10⟩ := h
  have hc : ∀ i j, zm_I M' 20 (am + i) j = zm_I M 20 (am + i) j := fun i j => mg_a hf (by decide) (by simp)
  refine ⟨ml_zf h1 hf, mt_mg h2 hf (by simp) (by simp), hp, by rw [mg_f hf (by simp)]; exact h4, rn_mg h5 hf (by simp) (by simp), by rw [mg_f hf (by simp)]; exact h6, ?_, ?_, ?_, ?_⟩
  · rw [hc, hc, hc]; exact h7
  · intro i x hx
    rw [hc, hc]; exact h8 i x hx
  · intro i x hx
    rw [hc, hc, hc]; exact h9 i x hx
  · intro i x hx
    rw [hc]; exact h10 i x hx
/-- look, and the state behind the blanks -/
theorem rs_look (hok : tp_ok T) (h : rs_x am M T r q) (hd : 1 ≤ d) : ∃ M', mo_look d am M = some (py_ht (py_sk q.1 q.2.1).1, M') ∧ rs_x am M' T r (pb_skip q) ∧ zf (mg am [3] []) M M' ∧ (∀ x, x ∈ (py_sk q.1 q.2.1).1 → x < 256) := by
  obtain ⟨M', g1, g2, g3, g4⟩ := mr_look2 (d := d) hok h.1 h.2.1 h.2.2.1 hd
  exact ⟨M', g1, rs_at h g3 g2, g3, g4⟩
end
