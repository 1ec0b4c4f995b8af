/-! THE RULES' text: the parser's state, a node more -/
section
variable {am d : Nat} {M : zM} {T : List Nat} {r : Nat} {q : yQp}
/-- only the nodes have changed -/
theorem rs_rn {M' : zM} {N : Nat} {X : Nat → yX} {F : List Nat} (h : rs_x am M T r q) (hf : zf (mg am F [3]) M M') (hF : ∀ j, j ∈ F → j = 17) (hn : rn_x am M' N X) : rs_x am M' T r (q.1, q.2.1, N, X, q.2.2.2.2) := by
  obtain ⟨h1, h2, h3, h4, h5, h6, h7, h8, h9, h10⟩ := h
  have n3 : ¬ 3 ∈ F := fun x => by have := hF _ x; omega
  have n2 : ¬ 2 ∈ F := fun x => by have := hF _ x; omega
  have n4 : ¬ 4 ∈ F := fun x => by have := hF _ x; omega
  have n16 : ¬ 16 ∈ F := fun x => by have := hF _ x; omega
  have hc : ∀ i j, i ≠ 3 → zm_I M' 20 (am + i) j = zm_I M 20 (am + i) j := fun i j hi => mg_a hf (by decide) (by simpa using hi)
  refine ⟨ml_zf h1 hf, mt_mg h2 hf n2 (by simp), rp_mg h3 hf n3, by rw [mg_f hf n4]; exact h4, hn, by rw [mg_f hf n16]; exact h6, ?_, ?_, ?_, ?_⟩
  · rw [hc _ _ (by decide), hc _ _ (by decide), hc _ _ (by decide)]; exact h7
  · intro i x hx
    rw [hc _ _ (by decide), hc _ _ (by decide)]; exact h8 i x hx
  · intro i x hx
    rw [hc _ _ (by decide), hc _ _ (by decide), hc _ _ (by decide)]; exact h9 i x hx
  · intro i x hx
    rw [hc _ _ (by decide)]; exact h10 i x hx
theorem rs_open (h : rs_x am M T r q) (hN : q.2.2.1 < 1200) (kd nb : Nat) : ∃ M', mo_opens d am (nI kd) (nI nb) M = some (nI q.2.2.1, M') ∧ rs_x am M' T r (q.1, q.2.1, pb_open q.2.2 kd nb) ∧ zf (mg am [17] [3]) M M' := by
  obtain ⟨M', g1, g2, g3⟩ := rn_open (d := d) h.1 h.2.2.2.2.1 hN kd nb
  exact ⟨M', g1, rs_rn h g3 (by simp) g2, g3⟩
theorem rs_put (h : rs_x am M T r q) (hN : q.2.2.1 ≤ 1200) {A C : Nat} (hA : A < q.2.2.1) (hC : C < q.2.2.1) (hAC : A ≠ C) (hup : (q.2.2.2.1 C).2.2.1 = none) (hnd : (q.2.2.2.1 A).2.2.2.1.Nodup) (hlen : (q.2.2.2.1 A).2.2.2.1.length ≤ 400) (har : (q.2.2.2.1 A).2.2.2.2 ≤ 100 ∧ (q.2.2.2.1 C).2.2.2.2 ≤ 100) : ∃ M', mo_puts d am (nI A) (nI C) M = some M' ∧ rs_x am M' T r (q.1, q.2.1, pb_put q.2.2 A C) ∧ zf (mg am [] [3]) M M' := by
  obtain ⟨M', g1, g2, g3⟩ := rn_puts (d := d) h.1 h.2.2.2.2.1 hN hA hC hAC hup hnd hlen har
  exact ⟨M', g1, rs_rn h g3 (by simp) g2, g3⟩
end
