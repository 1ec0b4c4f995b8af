/-! THE RULES' text: the nodes, when one was put into another -/
section
variable {am d : Nat} {M : zM} {N : Nat} {X : Nat → yX}
theorem rn_puts (hl : ml_ok am M) (h : rn_x am M N X) (hN : N ≤ 1200) {A C : Nat} (hA : A < N) (hC : C < N) (hAC : A ≠ C) (hup : (X C).2.2.1 = none) (hnd : (X A).2.2.2.1.Nodup) (hlen : (X A).2.2.2.1.length ≤ 400) (har : (X A).2.2.2.2 ≤ 100 ∧ (X C).2.2.2.2 ≤ 100) : ∃ M', mo_puts d am (nI A) (nI C) M = some M' ∧ rn_x am M' N (py_put X A C) ∧ zf (mg am [] [3]) M M' := by
  refine ⟨_, mr_puts hl h hN hA hC hlen har, ?_, zf_trans (zf_trans (zf_set (.inr ⟨.inl rfl, 3, by simp, rfl⟩)) (zf_set (.inr ⟨.inl rfl, 3, by simp, rfl⟩))) (zf_set (.inr ⟨.inl rfl, 3, by simp, rfl⟩))⟩
  obtain ⟨a0, a1, a2, a3, a4, a5, a6⟩ := h.2 A hA
  have uA : py_put X A C A = ((X A).1, (X A).2.1, (X A).2.2.1, (X A).2.2.2.1 ++ [C], max (X A).2.2.2.2 (X C).2.2.2.2) := by simp [py_put]
  have uC : py_put X A C C = ((X C).1, (X C).2.1, some A, (X C).2.2.2.1, (X C).2.2.2.2) := by simp [py_put, hAC.symm]
  have uO : ∀ n, n ≠ A → n ≠ C → py_put X A C n = X n := fun n h1 h2 => by simp [py_put, h1, h2]
  have hup' : ∀ n, n ≠ C → (py_put X A C n).2.2.1 = (X n).2.2.1 := by
    intro n hn
    by_cases e : n = A
    · subst e; rw [uA]
    · rw [uO n e hn]
  /- where the new one is told -/
  have hpl : (py_lp (6 * A + 3) (X A).2.2.2.1 = 6 * A + 3 ∧ (X A).2.2.2.1 = []) ∨ ∃ l e, (X A).2.2.2.1 = l ++ [e] ∧ py_lp (6 * A + 3) (X A).2.2.2.1 = 6 * e + 4 ∧ e < N ∧ (X e).2.2.1 = some A := by
    rcases List.eq_nil_or_concat (X A).2.2.2.1 with e | ⟨l, e, hle⟩
    · exact .inl ⟨by rw [e]; rfl, e⟩
    · have hle' : (X A).2.2.2.1 = l ++ [e] := by simpa using hle
      have hk := a5 l.length e (by rw [hle']; simp)
      exact .inr ⟨l, e, hle', by rw [hle', lp_snoc], hk.1, hk.2.2⟩
  generalize hplg : py_lp (6 * A + 3) (X A).2.2.2.1 = pl at hpl ⊢
  /- a cell that isn't one of the three -/
  have cell : ∀ j, j ≠ 6 * C + 2 → j ≠ 6 * A + 5 → j ≠ pl → zm_I (zm_setI (zm_setI (zm_setI M 20 (am + 3) (6 * C + 2) (nI A)) 20 (am + 3) (6 * A + 5) (nI (max (X A).2.2.2.2 (X C).2.2.2.2))) 20 (am + 3) pl (nI C)) 20 (am + 3) j = zm_I M 20 (am + 3) j := by
    intro j h1 h2 h3
    rw [pm_ne (by omega), pm_ne (by omega), pm_ne (by omega)]
  have pmod : pl = 6 * A + 3 ∨ ∃ e, pl = 6 * e + 4 ∧ (X e).2.2.1 = some A := by
    rcases hpl with ⟨e, _⟩ | ⟨l, e, _, h2, _, h4⟩
    · exact .inl e
    · exact .inr ⟨e, h2, h4⟩
  have next : ∀ n, n < N → (X n).2.2.1 ≠ some A → zm_I (zm_setI (zm_setI (zm_setI M 20 (am + 3) (6 * C + 2) (nI A)) 20 (am + 3) (6 * A + 5) (nI (max (X A).2.2.2.2 (X C).2.2.2.2))) 20 (am + 3) pl (nI C)) 20 (am + 3) (6 * n + 4) = zm_I M 20 (am + 3) (6 * n + 4) := by
    intro n hn hu
    refine cell _ (by omega) (by omega) ?_
    rcases pmod with e | ⟨e, h1, h2⟩
    · omega
    · intro e3
      have : n = e := by omega
      exact hu (by rw [this]; exact h2)
  refine ⟨by rw [pm_ne (by omega), pm_ne (by omega), pm_ne (by omega)]; exact h.1, ?_⟩
  intro n hn
  obtain ⟨b0, b1, b2, b3, b4, b5, b6⟩ := h.2 n hn
  have p0 : ∀ k, k < 2 → 6 * n + k ≠ pl := by
    intro k hk
    rcases pmod with e | ⟨e, h1, _⟩ <;> omega
  have p2 : 6 * n + 2 ≠ pl := by rcases pmod with e | ⟨e, h1, _⟩ <;> omega
  have p5 : 6 * n + 5 ≠ pl := by rcases pmod with e | ⟨e, h1, _⟩ <;> omega
  have q0 := Eq.trans (cell (6 * n) (by omega) (by omega) (p0 0 (by omega))) b0
  have q1 := Eq.trans (cell (6 * n + 1) (by omega) (by omega) (p0 1 (by omega))) b1
  have q6 : (py_put X A C n).2.2.1 = none → zm_I (zm_setI (zm_setI (zm_setI M 20 (am + 3) (6 * C + 2) (nI A)) 20 (am + 3) (6 * A + 5) (nI (max (X A).2.2.2.2 (X C).2.2.2.2))) 20 (am + 3) pl (nI C)) 20 (am + 3) (6 * n + 4) = -1 := by
    intro hu
    by_cases e : n = C
    · subst e
      rw [uC] at hu
      cases hu
    · rw [hup' n e] at hu
      rw [next n hn (by rw [hu]; simp)]
      exact b6 hu
  by_cases eA : n = A
  · subst eA
    rw [uA] at q6 ⊢
    refine ⟨q0, q1, ?_, ?_, ?_, ?_, q6⟩
    · rw [cell _ (by clear hpl pmod; omega) (by clear hpl pmod; omega) p2]; exact b2
    · rcases hpl with ⟨e, hk⟩ | ⟨l, e, hk, h2, _, _⟩
      · rw [← e, pm_same, hk]; rfl
      · rw [cell _ (by omega) (by omega) (by omega), b3, hk]
        cases l <;> rfl
    · rw [pm_ne (by omega), pm_same]
    · intro i c hi
      by_cases hil : i < (X n).2.2.2.1.length
      · have hi' : (X n).2.2.2.1[i]? = some c := by
          have : ((X n).2.2.2.1 ++ [C])[i]? = some c := hi
          rw [List.getElem?_append_left hil] at this
          exact this
        have hk := b5 i c hi'
        have hcC : c ≠ C := fun e => by
          have := hk.2.2
          rw [e, hup] at this
          cases this
        refine ⟨hk.1, ?_, by rw [hup' c hcC]; exact hk.2.2⟩
        show _ = zo ((X n).2.2.2.1 ++ [C])[i + 1]?
        rcases hpl with ⟨e, hk0⟩ | ⟨l, e, hk0, h2, _, _⟩
        · rw [hk0] at hil
          simp at hil
        · by_cases hlast : i = l.length
          · have ec : c = e := by
              rw [hk0, hlast] at hi'
              simpa using hi'.symm
            rw [ec, ← h2, pm_same, hk0, hlast]
            simp [zo]
          · have hil2 : i + 1 < (X n).2.2.2.1.length := by
              rw [hk0] at hil ⊢
              simp at hil ⊢
              omega
            have hce : c ≠ e := by
              intro e2
              have hel : (X n).2.2.2.1[l.length]? = some e := by rw [hk0]; simp
              rw [e2] at hi'
              exact hlast ((List.getElem?_inj hil hnd).mp (Eq.trans hi' hel.symm))
            rw [cell _ (by omega) (by omega) (by omega), hk.2.1, List.getElem?_append_left hil2]
      · have hi2 : ((X n).2.2.2.1 ++ [C])[i]? = some c := hi
        have hil3 := (List.getElem?_eq_some_iff.mp hi2).1
        have ei : i = (X n).2.2.2.1.length := by
          simp at hil3
          omega
        have ec : c = C := by
          rw [ei] at hi2
          simpa using hi2.symm
        rw [ec]
        refine ⟨hC, ?_, by rw [uC]⟩
        rw [next C hC (by rw [hup]; simp), (h.2 C hC).2.2.2.2.2.2 hup]
        show _ = zo ((X n).2.2.2.1 ++ [C])[i + 1]?
        rw [List.getElem?_eq_none_iff.mpr (by simp; omega)]
        rfl
  · have hks : (py_put X A C n).2.2.2.1 = (X n).2.2.2.1 ∧ (py_put X A C n).1 = (X n).1 ∧ (py_put X A C n).2.1 = (X n).2.1 ∧ (py_put X A C n).2.2.2.2 = (X n).2.2.2.2 := by
      by_cases e : n = C
      · subst e; rw [uC]; exact ⟨rfl, rfl, rfl, rfl⟩
      · rw [uO n eA e]; exact ⟨rfl, rfl, rfl, rfl⟩
    rw [hks.1, hks.2.1, hks.2.2.1, hks.2.2.2]
    refine ⟨q0, q1, ?_, ?_, ?_, ?_, q6⟩
    · by_cases e : n = C
      · subst e
        rw [uC, pm_ne (by omega), pm_ne (by omega), pm_same]
        rfl
      · rw [cell _ (by omega) (by omega) p2, hup' n e]; exact b2
    · rw [cell _ (by omega) (by omega) (by rcases pmod with e | ⟨e, h1, _⟩ <;> omega)]; exact b3
    · rw [cell _ (by omega) (by omega) p5]; exact b4
    · intro i c hi
      have hk := b5 i c hi
      have hcC : c ≠ C := fun e => by
        have := hk.2.2
        rw [e, hup] at this
        cases this
      refine ⟨hk.1, ?_, by rw [hup' c hcC]; exact hk.2.2⟩
      rw [next c hk.1 (by
        rw [hk.2.2]
        intro e
        injection e with e
        exact eA e)]
      exact hk.2.1
end
