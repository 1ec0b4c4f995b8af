/-! THE CLASS learns a rule -/
def cR_x (M : zM) (pa : Nat → Nat) (Q : Nat) (P : yP) : Prop := cF_x M Q P ∧ zm_I M 5 Q 0 = nI (py_le P) ∧ zm_R M 5 Q 1 = some (pa (py_rt P)) ∧ (zm_I M 5 Q 2 = nI (py_nl P) ∧ zm_I M 5 Q 3 = nI (py_nc P) ∧ zm_I M 5 Q 4 = nI (py_na P)) ∧ (∀ o, o < py_nl P → zm_I M 20 (Q + 1) o = nI (py_lt P o) ∧ zm_R M 24 (Q + 2) o = some (pa (py_lf P o))) ∧ (∀ c, c < py_nc P → zm_R M 24 (Q + 8) c = some (pa (py_cn P c))) ∧ (∀ a, a < py_na P → zm_R M 24 (Q + 9) a = some (pa (py_an P a))) ∧ Q + 10 ≤ zm_n M
def cA_x (M : zM) (Q : Nat) (P : yP) : Prop := (∀ c, c < py_nc P → zm_I M 20 (Q + 7) c = nI (py_few P c)) ∧ (∀ o, o < py_nl P → zm_I M 20 (Q + 3) o = zo (py_ct P o false) ∧ zm_I M 20 (Q + 4) o = zo (py_ct P o true))
def lr_W (ro : Nat) (pa : Nat → Nat) (P : yP) (Q t k j : Nat) : Prop := ls_W ro pa P (py_rt P) t k j ∨ (t = 20 ∧ (k = Q + 3 ∨ k = Q + 4 ∨ k = Q + 7))
section
variable {M M' : zM} {pa : Nat → Nat} {P : yP} {le ro d Q : Nat}
theorem cR_zf {W : Nat → Nat → Nat → Prop} (h : cR_x M pa Q P) (hf : zf W M M') (h5 : ∀ j, j ≤ 4 → ¬ W 5 Q j) (h20 : ∀ j, ¬ W 20 (Q + 1) j ∧ ¬ W 20 (Q + 5) j ∧ ¬ W 20 (Q + 6) j) : cR_x M' pa Q P := by
  obtain ⟨a1, a2, a3, a4, a5, a6, a7, a8⟩ := h
  refine ⟨cF_zf a1 hf (fun j => (h20 j).2), ?_, ?_, ⟨?_, ?_, ?_⟩, ?_, ?_, ?_, ?_⟩
  · rw [hf.2.2.2.2.2.2 5 Q 0 (h5 0 (by omega))]; exact a2
  · rw [hf.1]; exact a3
  · rw [hf.2.2.2.2.2.2 5 Q 2 (h5 2 (by omega))]; exact a4.1
  · rw [hf.2.2.2.2.2.2 5 Q 3 (h5 3 (by omega))]; exact a4.2.1
  · rw [hf.2.2.2.2.2.2 5 Q 4 (h5 4 (by omega))]; exact a4.2.2
  · intro o ho
    rw [hf.1, hf.2.2.2.2.2.2 20 (Q + 1) o (h20 o).1]
    exact a5 o ho
  · rw [hf.1]; exact a6
  · rw [hf.1]; exact a7
  · rw [hf.2.2.2.2.1]; exact a8
theorem cR_ru (h : cR_x M pa Q P) : cw_ru M Q := h.1.1
theorem few_v (hP : py_ok P) {c : Nat} (hc : c < py_nc P) : ∃ b, py_ks P (py_cn P c) = [b] ∧ py_dm P b ∧ py_few P c = if py_fr P c = 0 ∨ py_nu P b = true then 1 else py_fr P c := by
  obtain ⟨⟨b, hb, _⟩, _, _⟩ := ok_k5 hP (ok_cn hP hc) (ok_cnk hP hc)
  refine ⟨b, hb, ok_kid hP (ok_cn hP hc) (by rw [hb]; simp), ?_⟩
  unfold py_few
  rw [hb]
  simp
/-- the last loop: which counts are around an occurrence -/
theorem cl_lr_102 (hP : py_ok P) : ∀ (m o : Nat) (M : zM), o + m = py_nl P → cN_x M pa P → cR_x M pa Q P → (∀ x, x < o → zm_I M 20 (Q + 3) x = zo (py_ct P x false) ∧ zm_I M 20 (Q + 4) x = zo (py_ct P x true)) → ∀ fuel, m < fuel → ∃ M', le_learnRule_102 d fuel (some Q) (nI o) M = some M' ∧ zf (fun t k j => t = 20 ∧ (k = Q + 3 ∨ k = Q + 4)) M M' ∧ (∀ x, x < py_nl P → zm_I M' 20 (Q + 3) x = zo (py_ct P x false) ∧ zm_I M' 20 (Q + 4) x = zo (py_ct P x true)) := by
  have hnl := ok_nl hP
  intro m
  induction m with
  | zero =>
    intro o M ho hN hR hA fuel hf
    cases fuel with
    | zero => cases hf
    | succ fuel =>
      have : o = py_nl P := by omega
      subst this
      refine ⟨M, ?_, zf_refl _ _, hA⟩
      simp only [le_learnRule_102, hR.2.2.2.1.1, if_pos (nI_le (Nat.le_refl _) (show py_nl P < 2 ^ 31 by omega))]
  | succ m ih =>
    intro o M ho hN hR hA fuel hf
    cases fuel with
    | zero => cases hf
    | succ fuel =>
      have hol : o < py_nl P := by omega
      have hlf := ok_lf hP hol
      have hz : z_in (nI o) 16 := nI_in (by omega) (by omega)
      have hru := cR_ru hR
      obtain ⟨q1, q2⟩ := hR.2.2.2.2.1 o hol
      -- what is written
      have hct : ∀ (near far : Option Nat), near = py_can P (py_lf P o) → far = (match near with
        | none => none
        | some p => py_can P p) → zo (py_ct P o false) = (match far with
        | none => (match near with
          | none => -1
          | some p => nI (py_nb P p))
        | some f => nI (py_nb P f)) ∧ zo (py_ct P o true) = (match far with
        | none => -1
        | some _ => (match near with
          | none => -1
          | some p => nI (py_nb P p))) := by
        intro near far hn hf
        obtain ⟨c1, c2⟩ := can_ca hP _ hlf
        unfold py_ct
        rw [c1, ← hn]
        cases near with
        | none =>
          dsimp only at hf
          subst hf
          exact ⟨rfl, rfl⟩
        | some p =>
          dsimp only at hf
          obtain ⟨pd, pk⟩ := c2 p hn.symm
          have hcn := (ok_k5 hP pd pk).2.2
          obtain ⟨f1, f2⟩ := can_ca hP p pd
          show zo (match py_ca P (py_cn P (py_nb P p)) with | none => _ | some e => _) = _ ∧ zo (match py_ca P (py_cn P (py_nb P p)) with | none => _ | some e => _) = _
          rw [hcn, f1, ← hf]
          cases far with
          | none => exact ⟨rfl, rfl⟩
          | some f => exact ⟨rfl, rfl⟩
      have fin : ∀ (v w : Int32), v = zo (py_ct P o false) → w = zo (py_ct P o true) → ∃ M', le_learnRule_102 d fuel (some Q) (nI (o + 1)) (zm_setI (zm_setI M 20 (Q + 3) o v) 20 (Q + 4) o w) = some M' ∧ zf (fun t k j => t = 20 ∧ (k = Q + 3 ∨ k = Q + 4)) M M' ∧ (∀ x, x < py_nl P → zm_I M' 20 (Q + 3) x = zo (py_ct P x false) ∧ zm_I M' 20 (Q + 4) x = zo (py_ct P x true)) := by
        intro v w hv hw
        have hfz : zf (fun t k j => t = 20 ∧ (k = Q + 3 ∨ k = Q + 4)) M (zm_setI (zm_setI M 20 (Q + 3) o v) 20 (Q + 4) o w) := zf_trans (zf_set ⟨rfl, .inl rfl⟩) (zf_set ⟨rfl, .inr rfl⟩)
        obtain ⟨M', g1, g2, g3⟩ := ih (o + 1) (zm_setI (zm_setI M 20 (Q + 3) o v) 20 (Q + 4) o w) (by omega) (cN_zf hN hfz (fun k j _ x => by omega)) (cR_zf hR hfz (fun j _ x => by omega) (fun j => ⟨by omega, by omega, by omega⟩)) (by
          intro x hx
          by_cases e : x = o
          · subst e
            refine ⟨?_, ?_⟩
            · rw [pm_ne (by omega), pm_same]; exact hv
            · rw [pm_same]; exact hw
          · rw [pm_ne (by omega), pm_ne (by omega), pm_ne (by omega), pm_ne (by omega)]
            exact hA x (by omega)) fuel (by omega)
        exact ⟨M', g1, zf_trans hfz g2, g3⟩
      have ca1 := cl_countAround (d := d) hP hN hlf
      simp only [le_learnRule_102, hR.2.2.2.1.1, if_neg (show ¬ nI (py_nl P) ≤ nI o from nI_ge (by omega) (by omega)), (ru_6 hru).1, (ru_6 hru).2, if_pos hz, nI_clamp (show o < 2 ^ 31 by omega), q2, ca1, Option.bind_some, le_learnRule_132, le_learnRule_145, le_learnRule_163, le_learnRule_185]
      cases hnear : py_can P (py_lf P o) with
      | none =>
        have hh := hct none none hnear.symm rfl
        dsimp only at hh
        simp only [Option.map_none, nd_numberOf, nd_numberOf_12, Option.bind_some, (ru_7 hru).1, (ru_7 hru).2, if_pos hz, nI_clamp (show o < 2 ^ 31 by omega), zlet, pm_RI, (ru_8 hru).1, pm_LI, (ru_8 hru).2, nI_1]
        exact fin _ _ hh.1.symm hh.2.symm
      | some p =>
        obtain ⟨pd, pk⟩ := (can_ca hP _ hlf).2 p hnear
        have ca2 := cl_countAround (d := d) hP hN pd
        have nbp := cN_nb hN pd (.inr (.inr pk))
        cases hfar : py_can P p with
        | none =>
          have hh := hct (some p) none hnear.symm (by dsimp only; rw [hfar])
          dsimp only at hh
          simp only [Option.map_some, ca2, hfar, Option.bind_some, Option.map_none, nd_numberOf, nd_numberOf_12, nbp, (ru_7 hru).1, (ru_7 hru).2, if_pos hz, nI_clamp (show o < 2 ^ 31 by omega), zlet, pm_RI, (ru_8 hru).1, pm_LI, (ru_8 hru).2, nI_1]
          exact fin _ _ hh.1.symm hh.2.symm
        | some f =>
          obtain ⟨fd, fk⟩ := (can_ca hP p pd).2 f hfar
          have nbf := cN_nb hN fd (.inr (.inr fk))
          have hh := hct (some p) (some f) hnear.symm (by dsimp only; rw [hfar])
          dsimp only at hh
          have e1 : ∀ v, zm_I (zm_setI M 20 (Q + 3) o v) 3 (pa p) 1 = nI (py_nb P p) := fun v => (pm_ne (by omega)).trans nbp
          simp only [Option.map_some, ca2, hfar, Option.bind_some, nd_numberOf, nd_numberOf_12, nbf, (ru_7 hru).1, (ru_7 hru).2, if_pos hz, nI_clamp (show o < 2 ^ 31 by omega), zlet, pm_RI, (ru_8 hru).1, pm_LI, (ru_8 hru).2, nI_1, e1]
          exact fin _ _ hh.1.symm hh.2.symm
theorem cl_lr_20 (hP : py_ok P) : ∀ (m i : Nat) (M : zM), i + m = py_nc P → cN_x M pa P → cR_x M pa Q P → (∀ c, c < py_nc P → ∀ b, b ∈ py_ks P (py_cn P c) → zm_I M 3 (pa b) 8 = zb (py_nu P b)) → (∀ x, x < i → zm_I M 20 (Q + 7) x = nI (py_few P x)) → ∀ fuel, m < fuel → ∃ M', le_learnRule_20 d fuel (some Q) (nI i) M = some M' ∧ zf (fun t k j => t = 20 ∧ (k = Q + 3 ∨ k = Q + 4 ∨ k = Q + 7)) M M' ∧ cA_x M' Q P := by
  have hnc := ok_nc hP
  have hnl := ok_nl hP
  have hLF := zLF_402
  intro m
  induction m with
  | zero =>
    intro i M hi hN hR h8 hA fuel hf
    cases fuel with
    | zero => cases hf
    | succ fuel =>
      have : i = py_nc P := by omega
      subst this
      obtain ⟨M', g1, g2, g3⟩ := cl_lr_102 (d := d) hP (py_nl P) 0 M (by omega) hN hR (fun x hx => by omega) zLF (by omega)
      have g1 : le_learnRule_102 d zLF (some Q) 0 M = some M' := g1
      refine ⟨M', ?_, zf_mono g2 (fun t k j w => ⟨w.1, by omega⟩), ?_, g3⟩
      · simp only [le_learnRule_20, hR.2.2.2.1.2.1, if_pos (nI_le (Nat.le_refl _) (show py_nc P < 2 ^ 31 by omega)), g1]
      · intro c hc
        rw [g2.2.2.2.2.2.2 20 (Q + 7) c (by omega)]
        exact hA c hc
  | succ m ih =>
    intro i M hi hN hR h8 hA fuel hf
    cases fuel with
    | zero => cases hf
    | succ fuel =>
      have hic : i < py_nc P := by omega
      have hz : z_in (nI i) 8 := nI_in (by omega) (by omega)
      have hru := cR_ru hR
      obtain ⟨b, hb, hbd, hfew⟩ := few_v hP hic
      obtain ⟨f1, f2⟩ := hR.1.2 i hic
      have hfr := ok_fr hP hic
      have hcn := hR.2.2.2.2.2.1 i hic
      have hks : zm_R M 3 (pa (py_cn P i)) 5 = some (pa b) := by
        rw [cN_ks hN (ok_cn hP hic), hb]
        rfl
      have hb8 := h8 i hic b (by rw [hb]; simp)
      have e1 : (nI (py_fr P i) < 1) ↔ py_fr P i < 1 := lt_i2 (m := 1) (by omega) (by omega)
      have fin : ∀ v : Int32, v = nI (py_few P i) → ∃ M', le_learnRule_20 d fuel (some Q) (nI (i + 1)) (zm_setI M 20 (Q + 7) i v) = some M' ∧ zf (fun t k j => t = 20 ∧ (k = Q + 3 ∨ k = Q + 4 ∨ k = Q + 7)) M M' ∧ cA_x M' Q P := by
        intro v hv
        have hfz : zf (fun t k j => t = 20 ∧ (k = Q + 3 ∨ k = Q + 4 ∨ k = Q + 7)) M (zm_setI M 20 (Q + 7) i v) := zf_set ⟨rfl, .inr (.inr rfl)⟩
        obtain ⟨M', g1, g2, g3⟩ := ih (i + 1) (zm_setI M 20 (Q + 7) i v) (by omega) (cN_zf hN hfz (fun k j _ x => by omega)) (cR_zf hR hfz (fun j _ x => by omega) (fun j => ⟨by omega, by omega, by omega⟩)) (by
          intro c hc x hx
          rw [pm_ne (by omega)]
          exact h8 c hc x hx) (by
          intro x hx
          by_cases e : x = i
          · subst e
            rw [pm_same]; exact hv
          · rw [pm_ne (by omega)]
            exact hA x (by omega)) fuel (by omega)
        exact ⟨M', g1, zf_trans hfz g2, g3⟩
      simp only [le_learnRule_20, hR.2.2.2.1.2.1, if_neg (show ¬ nI (py_nc P) ≤ nI i from nI_ge (by omega) (by omega)), (ru_12 hru).1, (ru_12 hru).2, if_pos hz, (ru_9 hru).1, (ru_9 hru).2, nI_clamp (show i < 2 ^ 31 by omega), f1, e1, hcn, hks, hb8, le_learnRule_66, le_learnRule_70, le_learnRule_71, le_learnRule_93, if_neg (show ¬ (1 : Int32) = 0 by decide), (ru_11 hru).1, (ru_11 hru).2, zlet, nI_1]
      by_cases c1 : py_fr P i < 1
      · rw [if_pos c1]
        refine fin _ ?_
        rw [hfew, if_pos (.inl (by omega))]
        rfl
      · rw [if_neg c1]
        cases hu : py_nu P b with
        | false =>
          rw [if_pos pb_zbf]
          refine fin _ ?_
          rw [hfew, hu, if_neg (by simp; omega)]
        | true =>
          rw [if_neg (show ¬ zb true = 0 by decide)]
          refine fin _ ?_
          rw [hfew, if_pos (.inr hu)]
          rfl
theorem cl_learnRule (hP : py_ok P) (hro : Q + 10 ≤ ro) (hd : 40 ≤ d) (hN : cN_x M pa P) (hp : lp_x M le ro) (hR : cR_x M pa Q P) : ∃ M', le_learnRule d le (some Q) M = some M' ∧ zf (lr_W ro pa P Q) M M' ∧ (∀ m, py_dm P m → ca_n M' pa P m) ∧ cA_x M' Q P := by
  obtain ⟨d, rfl⟩ : ∃ d', d = d' + 1 := ⟨d - 1, by omega⟩
  have eb : le_learnRule (d + 1) le (some Q) M = le_learnRule_b d le (some Q) M := rfl
  rw [eb]
  have hLF := zLF_402
  have hnc := ok_nc hP
  have hhg := ok_hg hP
  obtain ⟨M1, g1, g2, g3⟩ := cl_learn (le := le) (pa := pa) hP hro (py_rt P) (ok_rt hP) d 0 M (by omega) (by omega) hN hp hR.1
  have g1 : le_learn d le (some Q) (some (pa (py_rt P))) 0 M = some M1 := g1
  have all : ∀ m, py_dm P m → py_wi P (py_rt P) m = true := by
    refine ok_climb hP _ (wi_self hP (ok_rt hP)) ?_
    intro k p hk e ih
    exact wi_par hP hk e ih
  have hN1 := cN_zf hN g2 ls_8
  have nls : ∀ t k j, ls_W ro pa P (py_rt P) t k j → t = 3 ∨ t = 21 ∨ (t = 20 ∧ k = ro) := by
    intro t k j ⟨m, _, _, w⟩
    unfold lw_W at w
    omega
  have hR1 := cR_zf hR g2 (fun j _ w => by have := nls _ _ _ w; omega) (fun j => ⟨fun w => by have := nls _ _ _ w; omega, fun w => by have := nls _ _ _ w; omega, fun w => by have := nls _ _ _ w; omega⟩)
  obtain ⟨M2, w1, w2, w3⟩ := cl_lr_20 (d := d) hP (py_nc P) 0 M1 (by omega) hN1 hR1 (by
    intro c hc b hb
    have hbd := ok_kid hP (ok_cn hP hc) hb
    exact (g3 b hbd (all b hbd)).1) (fun x hx => by omega) zLF (by omega)
  have w1 : le_learnRule_20 d zLF (some Q) 0 M1 = some M2 := w1
  refine ⟨M2, ?_, zf_trans (zf_mono g2 (fun t k j w => .inl w)) (zf_mono w2 (fun t k j w => .inr w)), ?_, w3⟩
  · unfold le_learnRule_b
    simp only [hR.2.2.1, g1, Option.bind_some, w1]
  · intro m hm
    exact ca_zfs (g3 m hm (all m hm)) w2 (fun j _ w => by omega) (fun j w => by omega)
end
