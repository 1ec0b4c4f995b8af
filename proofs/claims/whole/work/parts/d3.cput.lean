/-! THE CLASS's parser: a node is put into another -/
section
variable {ac b r pn d : Nat} {pa : Nat → Nat} {M : zM} {T : List Nat} {q : yQp}
/-- what append does to the memory -/
theorem cl_append_m (A C : Nat) (o : Option Nat) (hA : zm_R M 3 A 6 = o) (hAC : A ≠ C) (ho : o ≠ some C) (hoA : o ≠ some A) : ∃ M', nd_append d A (some C) M = some M' ∧ zh (fun t k j => t = 3 ∧ ((k = C ∧ (j = 4 ∨ j = 2)) ∨ (k = A ∧ (j = 5 ∨ j = 6 ∨ j = 3)) ∨ (o = some k ∧ j = 7))) M M' ∧ zm_n M' = zm_n M ∧ zm_s M' = zm_s M ∧ zm_R M' 3 C 4 = some A ∧ zm_R M' 3 A 6 = some C ∧ zm_I M' 3 A 3 = (if zm_I M 3 A 3 < zm_I M 3 C 3 then zm_I M 3 C 3 else zm_I M 3 A 3) ∧ zm_R M' 3 A 5 = (if o = none then some C else zm_R M 3 A 5) ∧ (∀ t, o = some t → zm_R M' 3 t 7 = some C ∧ zm_I M' 3 C 2 = zm_I M 3 t 2 + 1) ∧ (o = none → zm_I M' 3 C 2 = zm_I M 3 C 2) := by
  unfold nd_append
  simp only [zlet]
  have hA6 : zm_R (zm_setR M 3 C 4 (some A)) 3 A 6 = o := by rw [pr_ne (by omega)]; exact hA
  rw [hA6]
  cases o with
  | none =>
    simp only [nd_append_41, zlet]
    refine ⟨_, rfl, ?_, ?_, ?_, ?_, ?_, ?_, ?_, (fun t ht => by cases ht), fun _ => ?_⟩
    · exact zh_trans (zh_trans (zh_trans (zh_setR ⟨rfl, .inl ⟨rfl, .inl rfl⟩⟩) (zh_setR ⟨rfl, .inr (.inl ⟨rfl, .inl rfl⟩)⟩)) (zh_setR ⟨rfl, .inr (.inl ⟨rfl, .inr (.inl rfl)⟩)⟩)) (zh_setI ⟨rfl, .inr (.inl ⟨rfl, .inr (.inr rfl)⟩)⟩)
    · simp only [pm_nI, pm_nR]
    · simp only [pm_sI, pm_sR]
    · rw [pm_RI, pr_ne (by omega), pr_ne (by omega), pr_same]
    · rw [pm_RI, pr_same]
    · rw [pm_same, pm_IR, pm_IR, pm_IR]
    · rw [pm_RI, pr_ne (by omega), pr_same]
      simp
    · rw [pm_ne (by omega), pm_IR, pm_IR, pm_IR]
  | some t =>
    have htC : t ≠ C := fun e => ho (by rw [e])
    have htA : t ≠ A := fun e => hoA (by rw [e])
    have hA7 : zm_R (zm_setR (zm_setR M 3 C 4 (some A)) 3 t 7 (some C)) 3 A 6 = some t := by rw [pr_ne (by omega)]; exact hA6
    simp only [hA7, nd_append_41, zlet]
    refine ⟨_, rfl, ?_, ?_, ?_, ?_, ?_, ?_, ?_, ?_, (fun h => by cases h)⟩
    · exact zh_trans (zh_trans (zh_trans (zh_trans (zh_setR ⟨rfl, .inl ⟨rfl, .inl rfl⟩⟩) (zh_setR ⟨rfl, .inr (.inr ⟨rfl, rfl⟩)⟩)) (zh_setI ⟨rfl, .inl ⟨rfl, .inr rfl⟩⟩)) (zh_setR ⟨rfl, .inr (.inl ⟨rfl, .inr (.inl rfl)⟩)⟩)) (zh_setI ⟨rfl, .inr (.inl ⟨rfl, .inr (.inr rfl)⟩)⟩)
    · simp only [pm_nI, pm_nR]
    · simp only [pm_sI, pm_sR]
    · rw [pm_RI, pr_ne (by omega), pm_RI, pr_ne (by omega), pr_same]
    · rw [pm_RI, pr_same]
    · rw [pm_same, pm_IR, pm_ne (by omega), pm_ne (by omega), pm_IR, pm_IR]
    · rw [pm_RI, pr_ne (by omega), pm_RI, pr_ne (by omega), pr_ne (by omega)]
      rfl
    · intro t' ht'
      injection ht' with ht'
      subst ht'
      refine ⟨?_, ?_⟩
      · rw [pm_RI, pr_ne (by omega), pm_RI, pr_same]
      · rw [pm_ne (by omega), pm_IR, pm_same, pm_IR, pm_IR]
theorem gl_last {l : List Nat} {t : Nat} (h : l.getLast? = some t) : l[l.length - 1]? = some t := by
  rw [← List.getLast?_eq_getElem?]
  exact h
theorem cl_append {A C : Nat} (h : cs_x ac b M T r pa pn q) (hA : A < q.2.2.1) (hC : C < q.2.2.1) (hAC : A ≠ C) (hupA : (q.2.2.2.1 A).2.2.1 = none) (hup : (q.2.2.2.1 C).2.2.1 = none) (hlen : (q.2.2.2.1 A).2.2.2.1.length ≤ 400) (har : (q.2.2.2.1 A).2.2.2.2 ≤ 100 ∧ (q.2.2.2.1 C).2.2.2.2 ≤ 100) : ∃ M', nd_append d (pa A) (some (pa C)) M = some M' ∧ cs_x ac b M' T r pa pn (q.1, q.2.1, pb_put q.2.2 A C) ∧ ce_x M pa pn M' pa pn ∧ zh (cf_W b r pa pn) M M' := by
  obtain ⟨h1, h2, h3, h4, h5, h6, h7⟩ := h
  have hb := cb_b h1
  have hQ := cb_rs h1
  have hNp := h3.1
  have inj : ∀ i j, i < q.2.2.1 → j < q.2.2.1 → pa i = pa j → i = j := fun i j hi hj e => h1.2.2.1.2.2.2 i j (by omega) (by omega) e
  obtain ⟨a1, a2, a3, a4, a5, a6, a7, a8, a9⟩ := h3.2.2 A hA
  obtain ⟨b1, b2, b3, b4, b5, b6, b7, b8, b9⟩ := h3.2.2 C hC
  obtain ⟨b81, b82⟩ := b8 hup
  -- the last kid
  have hlast : ∀ t, (q.2.2.2.1 A).2.2.2.1.getLast? = some t → t < q.2.2.1 ∧ (q.2.2.2.1 t).2.2.1 = some A ∧ zm_I M 3 (pa t) 2 = nI ((q.2.2.2.1 A).2.2.2.1.length - 1) := by
    intro t ht
    have g := a7 _ t (gl_last ht)
    exact ⟨g.1, g.2.2.2, g.2.2.1⟩
  have hne : ∀ t, (q.2.2.2.1 A).2.2.2.1.getLast? = some t → t ≠ C ∧ t ≠ A := by
    intro t ht
    have g := hlast t ht
    refine ⟨?_, ?_⟩
    · intro e
      rw [e, hup] at g
      cases g.2.1
    · intro e
      rw [e, hupA] at g
      cases g.2.1
  obtain ⟨M', g1, g2, g3, g4, g5, g6, g7, g8, g9, g10⟩ := cl_append_m (d := d) (pa A) (pa C) ((q.2.2.2.1 A).2.2.2.1.getLast?.map pa) a6 (fun e => hAC (inj A C hA hC e)) (by
    intro e
    cases ht : (q.2.2.2.1 A).2.2.2.1.getLast? with
    | none => rw [ht] at e; cases e
    | some t =>
      rw [ht] at e
      injection e with e
      exact (hne t ht).1 (inj t C (hlast t ht).1 hC e)) (by
    intro e
    cases ht : (q.2.2.2.1 A).2.2.2.1.getLast? with
    | none => rw [ht] at e; cases e
    | some t =>
      rw [ht] at e
      injection e with e
      exact (hne t ht).2 (inj t A (hlast t ht).1 hA e))
  refine ⟨M', g1, ?_, ce_set g3 g4, zh_mono g2 ?_⟩
  · have keep : ∀ n j, n < q.2.2.1 → ¬ ((n = C ∧ (j = 4 ∨ j = 2)) ∨ (n = A ∧ (j = 5 ∨ j = 6 ∨ j = 3)) ∨ ((q.2.2.2.1 A).2.2.2.1.getLast? = some n ∧ j = 7)) → zm_I M' 3 (pa n) j = zm_I M 3 (pa n) j ∧ zm_R M' 3 (pa n) j = zm_R M 3 (pa n) j := by
      intro n j hn hx
      refine g2.2.2.2 3 (pa n) j (cb_pa h1 (by omega)) ?_
      intro w
      apply hx
      rcases w.2 with w | w | w
      · exact .inl ⟨inj n C hn hC w.1, w.2⟩
      · exact .inr (.inl ⟨inj n A hn hA w.1, w.2⟩)
      · refine .inr (.inr ⟨?_, w.2⟩)
        cases ht : (q.2.2.2.1 A).2.2.2.1.getLast? with
        | none => rw [ht] at w; cases w.1
        | some t =>
          rw [ht] at w
          have e : pa t = pa n := by injection w.1
          rw [inj t n (hlast t ht).1 hn e]
    refine ⟨cb_zh h1 g2 ?_, ⟨?_, h2.2⟩, ⟨h3.1, ?_, ?_⟩, cq_c_zh h4 g2 hQ (fun j w => by omega), cq_L_zh h5 g2 hQ (fun j w => by omega) (fun j w => by omega), cq_C_zh h6 g2 hQ (fun j w => by omega) (fun j w => by omega) (fun j w => by omega), cq_A_zh h7 g2 hQ (fun j w => by omega)⟩
    · intro t k j v w
      rcases v with v | v | v | v | v | v <;> omega
    · rw [zh_I g2 (by omega) (by omega)]; exact h2.1
    · rw [zh_I g2 (by omega) (by omega)]; exact h3.2.1
    · intro n hn
      have hn : n < q.2.2.1 := hn
      show cn_n M' pa (py_put q.2.2.2.1 A C) q.2.2.1 n
      -- up of a kid of n
      by_cases eA : n = A
      · subst eA
        unfold cn_n
        rw [put_A]
        refine ⟨?_, ?_, ?_, ?_, ?_, ?_, ?_, ?_, a9⟩
        · rw [(keep n 0 hn (by omega)).1]; exact a1
        · intro hk
          rw [(keep n 1 hn (by omega)).1]; exact a2 hk
        · rw [g7, a3, b3]
          exact pb_max (by omega) (by omega)
        · rw [(keep n 4 hn (by omega)).2]; exact a4
        · rw [g8, a5]
          cases hs : (q.2.2.2.1 n).2.2.2.1 with
          | nil => rfl
          | cons y ys => simp
        · rw [g6]
          simp
        · intro i c hc
          have hc : ((q.2.2.2.1 n).2.2.2.1 ++ [C])[i]? = some c := hc
          by_cases ei : i < (q.2.2.2.1 n).2.2.2.1.length
          · rw [List.getElem?_append_left ei] at hc
            obtain ⟨f1, f2, f3, f4⟩ := a7 i c hc
            have cC : c ≠ C := fun e => by rw [e, hup] at f4; cases f4
            have cn : c ≠ n := fun e => by
              rw [e, hupA] at f4
              cases f4
            refine ⟨f1, ?_, ?_, ?_⟩
            · show zm_R M' 3 (pa c) 7 = (((q.2.2.2.1 n).2.2.2.1 ++ [C])[i + 1]?).map pa
              by_cases e2 : i + 1 < (q.2.2.2.1 n).2.2.2.1.length
              · rw [List.getElem?_append_left e2, (keep c 7 f1 (by
                  intro w
                  rcases w with w | w | w
                  · omega
                  · omega
                  · have w1 := (hlast c w.1).2.2
                    rw [f3] at w1
                    have w2 := (nI_eq (a := i) (b := (q.2.2.2.1 n).2.2.2.1.length - 1) (by omega) (by omega)).mp w1
                    omega)).2]
                exact f2
              · have e3 : i + 1 = (q.2.2.2.1 n).2.2.2.1.length := by omega
                have hl : (q.2.2.2.1 n).2.2.2.1.getLast? = some c := by
                  rw [List.getLast?_eq_getElem?, ← e3]
                  exact hc
                have := (g9 (pa c) (by rw [hl]; rfl)).1
                rw [this, e3]
                simp
            · rw [(keep c 2 f1 (by omega)).1]; exact f3
            · show ((py_put q.2.2.2.1 n C) c).2.2.1 = some n
              rw [put_o _ cn cC]
              exact f4
          · have e2 : i = (q.2.2.2.1 n).2.2.2.1.length := by
              have := (List.getElem?_eq_some_iff.mp hc).1
              simp at this
              omega
            subst e2
            have ec : c = C := by simpa using hc.symm
            subst ec
            refine ⟨hC, ?_, ?_, ?_⟩
            · show zm_R M' 3 (pa c) 7 = (((q.2.2.2.1 n).2.2.2.1 ++ [c])[(q.2.2.2.1 n).2.2.2.1.length + 1]?).map pa
              rw [(keep c 7 hC (by
                intro w
                rcases w with w | w | w
                · omega
                · omega
                · exact (hne c w.1).1 rfl)).2, b81]
              simp
            · cases hl : (q.2.2.2.1 n).2.2.2.1.getLast? with
              | none =>
                have hnil : (q.2.2.2.1 n).2.2.2.1 = [] := List.getLast?_eq_none_iff.mp hl
                rw [g10 (by rw [hl]; rfl), b82, hnil]
                rfl
              | some t =>
                have hp : 1 ≤ (q.2.2.2.1 n).2.2.2.1.length := by
                  cases hq : (q.2.2.2.1 n).2.2.2.1 with
                  | nil => rw [hq] at hl; cases hl
                  | cons y ys => simp
                rw [(g9 (pa t) (by rw [hl]; rfl)).2, (hlast t hl).2.2, nI_1]
                congr 1
                omega
            · show ((py_put q.2.2.2.1 n c) c).2.2.1 = some n
              rw [put_C _ (fun e => hAC e.symm)]
        · intro hu
          obtain ⟨f1, f2⟩ := a8 hu
          rw [(keep n 7 hn (by
            intro w
            rcases w with w | w | w
            · omega
            · omega
            · exact (hne n w.1).2 rfl)).2, (keep n 2 hn (by omega)).1]
          exact ⟨f1, f2⟩
      · by_cases eC : n = C
        · subst eC
          unfold cn_n
          rw [put_C _ eA]
          refine ⟨?_, ?_, ?_, ?_, ?_, ?_, ?_, (fun hu => by cases hu), ?_⟩
          · rw [(keep n 0 hn (by omega)).1]; exact b1
          · intro hk
            rw [(keep n 1 hn (by omega)).1]; exact b2 hk
          · rw [(keep n 3 hn (by omega)).1]; exact b3
          · rw [g5]; rfl
          · rw [(keep n 5 hn (by omega)).2]; exact b5
          · rw [(keep n 6 hn (by omega)).2]; exact b6
          · intro i c hc
            obtain ⟨f1, f2, f3, f4⟩ := b7 i c hc
            have cC : c ≠ n := fun e => by rw [e, hup] at f4; cases f4
            have hcl : (q.2.2.2.1 A).2.2.2.1.getLast? ≠ some c := fun w => by
              have := (hlast c w).2.1
              rw [f4] at this
              injection this with this
              omega
            refine ⟨f1, ?_, ?_, ?_⟩
            · rw [(keep c 7 f1 (by
                intro w
                rcases w with w | w | w
                · omega
                · omega
                · exact hcl w.1)).2]
              exact f2
            · rw [(keep c 2 f1 (by omega)).1]; exact f3
            · by_cases cA : c = A
              · rw [cA, put_A]
                rw [cA] at f4
                exact f4
              · rw [put_o _ cA cC]; exact f4
          · intro p hp
            injection hp with hp
            omega
        · obtain ⟨n1, n2, n3, n4, n5, n6, n7, n8, n9⟩ := h3.2.2 n hn
          unfold cn_n
          rw [put_o _ eA eC]
          refine ⟨?_, ?_, ?_, ?_, ?_, ?_, ?_, ?_, n9⟩
          · rw [(keep n 0 hn (by omega)).1]; exact n1
          · intro hk
            rw [(keep n 1 hn (by omega)).1]; exact n2 hk
          · rw [(keep n 3 hn (by omega)).1]; exact n3
          · rw [(keep n 4 hn (by omega)).2]; exact n4
          · rw [(keep n 5 hn (by omega)).2]; exact n5
          · rw [(keep n 6 hn (by omega)).2]; exact n6
          · intro i c hc
            obtain ⟨f1, f2, f3, f4⟩ := n7 i c hc
            have cC : c ≠ C := fun e => by rw [e, hup] at f4; cases f4
            have hcl : (q.2.2.2.1 A).2.2.2.1.getLast? ≠ some c := fun w => by
              have := (hlast c w).2.1
              rw [f4] at this
              injection this with this
              omega
            refine ⟨f1, ?_, ?_, ?_⟩
            · rw [(keep c 7 f1 (by
                intro w
                rcases w with w | w | w
                · omega
                · omega
                · exact hcl w.1)).2]
              exact f2
            · rw [(keep c 2 f1 (by omega)).1]; exact f3
            · by_cases cA : c = A
              · rw [cA, put_A]
                rw [cA] at f4
                exact f4
              · rw [put_o _ cA cC]; exact f4
          · intro hu
            rw [(keep n 7 hn (by
              intro w
              rcases w with w | w | w
              · omega
              · omega
              · have := (hlast n w.1).2.1
                rw [hu] at this
                cases this)).2, (keep n 2 hn (by omega)).1]
            exact n8 hu
  · intro t k j _ w
    refine .inl ⟨w.1, by omega, ?_⟩
    rcases w.2 with w | w | w
    · exact ⟨C, by omega, w.1⟩
    · exact ⟨A, by omega, w.1⟩
    · cases ht : (q.2.2.2.1 A).2.2.2.1.getLast? with
      | none => rw [ht] at w; cases w.1
      | some t =>
        rw [ht] at w
        have e : pa t = k := by injection w.1
        exact ⟨t, by have := (hlast t ht).1; omega, e.symm⟩
end
