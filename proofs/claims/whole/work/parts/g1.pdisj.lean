/-! rules read have nodes of their own -/
def py_dj (us : List yU) (N : Nat) : Prop := (∀ (i : Nat) (u : yU), us[i]? = some u → u.2.2.2.1 ≤ N) ∧ ∀ (i j : Nat) (u v : yU), i < j → us[i]? = some u → us[j]? = some v → u.2.2.2.1 ≤ v.2.2.1
theorem djr_add {us : List yU} {N N' : Nat} {u : yU} (h : py_dj us N) (h1 : u.2.2.1 = N) (h2 : N ≤ N') (h3 : u.2.2.2.1 = N') : py_dj (us ++ [u]) N' := by
  have key : ∀ (i : Nat) (v : yU), (us ++ [u])[i]? = some v → (i < us.length ∧ us[i]? = some v) ∨ (i = us.length ∧ v = u) := by
    intro i v hv
    by_cases q : i < us.length
    · rw [List.getElem?_append_left q] at hv
      exact .inl ⟨q, hv⟩
    · rw [List.getElem?_append_right (by omega), List.getElem?_singleton] at hv
      by_cases q2 : i - us.length = 0
      · rw [if_pos q2] at hv
        injection hv with hv
        exact .inr ⟨by omega, hv.symm⟩
      · rw [if_neg q2] at hv
        cases hv
  refine ⟨?_, ?_⟩
  · intro i v hv
    rcases key i v hv with ⟨_, h4⟩ | ⟨_, h4⟩
    · have := h.1 i v h4
      omega
    · rw [h4]
      omega
  · intro i j v w hij hv hw
    rcases key i v hv with ⟨a1, a2⟩ | ⟨a1, a2⟩
    · rcases key j w hw with ⟨b1, b2⟩ | ⟨b1, b2⟩
      · exact h.2 i j v w hij a2 b2
      · have := h.1 i v a2
        rw [b2]
        omega
    · rcases key j w hw with ⟨b1, b2⟩ | ⟨b1, b2⟩
      · omega
      · omega
theorem dj_rules : ∀ (fuel : Nat) (us : List yU) (b : List Nat) (p N : Nat) (X : Nat → yX), N + b.length ≤ 400 → py_dj us N → ∀ x, pp_rules fuel us b p N X = .ok x → py_dj x.1 x.2.1 := by
  intro fuel
  induction fuel with
  | zero => intro us b p N X _ _ x h; cases h
  | succ fuel ih =>
    intro us b p N X hN hdj x h
    rw [pp_rules] at h
    cases e : pp_rule (us.map (fun u => u.1)) b p N X with
    | error k => rw [e] at h; cases h
    | ok y =>
      rw [e] at h
      dsimp only at h
      obtain ⟨_, _, k3, k4, k5, k6, _, _⟩ := pm_rule hN e
      have hdj' := djr_add hdj k6 k3 k5
      by_cases q : (py_sk y.2.1 y.2.2.1).1.head? = some 59 ∧ us.length + 1 < 8
      · rw [if_pos q] at h
        refine ih _ _ _ _ _ ?_ hdj' x h
        have l0 := sk_len y.2.1 y.2.2.1
        rw [List.length_tail]
        omega
      · rw [if_neg q] at h
        by_cases q2 : (py_sk y.2.1 y.2.2.1).1 = []
        · rw [if_pos q2] at h
          injection h with h
          rw [← h]
          exact hdj'
        · rw [if_neg q2] at h
          cases h
theorem dj_rls {T : List Nat} (hT : T.length ≤ 400) {x : List yU × Nat × (Nat → yX)} (h : py_rls T = .ok x) : py_dj x.1 x.2.1 := dj_rules 8 [] T 0 0 py_x0 (by omega) ⟨fun i u hu => by simp at hu, fun i j u v _ hu => by simp at hu⟩ x h
theorem uPs_dj {us : List yU} {N : Nat} {X : Nat → yX} (h : py_dj us N) {r : Nat} (hr : r < us.length) {n : Nat} (hn : py_dm (py_uPs us X r) n) : n < N ∧ ∀ r', r' < us.length → py_dm (py_uPs us X r') n → r' = r := by
  have key : ∀ s, s < us.length → py_dm (py_uPs us X s) n → ∃ u, us[s]? = some u ∧ u.2.2.1 ≤ n ∧ n < u.2.2.2.1 := by
    intro s hs hd
    have e : us[s]? = some us[s] := by simp
    unfold py_uPs at hd
    rw [e] at hd
    have hd' : decide (us[s].2.2.1 ≤ n ∧ n < us[s].2.2.2.1) = true := hd
    exact ⟨us[s], e, by simpa using hd'⟩
  obtain ⟨u, h1, h2, h3⟩ := key r hr hn
  refine ⟨by have := h.1 r u h1; omega, ?_⟩
  intro r' hr' hd'
  obtain ⟨v, h4, h5, h6⟩ := key r' hr' hd'
  rcases Nat.lt_trichotomy r r' with q | q | q
  · have := h.2 r r' u v q h1 h4
    omega
  · exact q.symm
  · have := h.2 r' r v u q h4 h1
    omega
