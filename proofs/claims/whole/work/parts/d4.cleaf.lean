/-! THE CLASS's parser: a letter, a count, an any begin -/
section
variable {ac b r pn d : Nat} {pa : Nat → Nat} {M : zM} {T : List Nat} {q : yQp}
theorem ru_5 {Q : Nat} (h : cw_ru M Q) : zm_R M 5 Q 5 = some (Q + 1) ∧ zm_L M 20 (Q + 1) = 16 := h.1
theorem ru_6 {Q : Nat} (h : cw_ru M Q) : zm_R M 5 Q 6 = some (Q + 2) ∧ zm_L M 24 (Q + 2) = 16 := h.2.1
theorem ru_7 {Q : Nat} (h : cw_ru M Q) : zm_R M 5 Q 7 = some (Q + 3) ∧ zm_L M 20 (Q + 3) = 16 := h.2.2.1
theorem ru_8 {Q : Nat} (h : cw_ru M Q) : zm_R M 5 Q 8 = some (Q + 4) ∧ zm_L M 20 (Q + 4) = 16 := h.2.2.2.1
theorem ru_9 {Q : Nat} (h : cw_ru M Q) : zm_R M 5 Q 9 = some (Q + 5) ∧ zm_L M 20 (Q + 5) = 8 := h.2.2.2.2.1
theorem ru_10 {Q : Nat} (h : cw_ru M Q) : zm_R M 5 Q 10 = some (Q + 6) ∧ zm_L M 20 (Q + 6) = 8 := h.2.2.2.2.2.1
theorem ru_11 {Q : Nat} (h : cw_ru M Q) : zm_R M 5 Q 11 = some (Q + 7) ∧ zm_L M 20 (Q + 7) = 8 := h.2.2.2.2.2.2.1
theorem ru_12 {Q : Nat} (h : cw_ru M Q) : zm_R M 5 Q 12 = some (Q + 8) ∧ zm_L M 24 (Q + 8) = 8 := h.2.2.2.2.2.2.2.1
theorem ru_13 {Q : Nat} (h : cw_ru M Q) : zm_R M 5 Q 13 = some (Q + 9) ∧ zm_L M 24 (Q + 9) = 4 := h.2.2.2.2.2.2.2.2
theorem cb_8 (h : cb_x ac b M T r pa pn) : zm_R M 6 b 8 = some (b + 2 + 10 * r) := h.2.2.2.2.2.1
/-- the frame of the tables of rule r -/
def cq_W (Q t k j : Nat) : Prop := (t = 5 ∧ k = Q ∧ 2 ≤ j ∧ j ≤ 4) ∨ (t = 20 ∧ (k = Q + 1 ∨ k = Q + 5 ∨ k = Q + 6)) ∨ (t = 24 ∧ (k = Q + 2 ∨ k = Q + 8 ∨ k = Q + 9))
theorem cq_cf {t k j : Nat} (w : cq_W (b + 2 + 10 * r) t k j) : cf_W b r pa pn t k j := by
  rcases w with w | w | w
  · exact .inr (.inr (.inr (.inl w)))
  · exact .inr (.inr (.inr (.inr (.inl w))))
  · exact .inr (.inr (.inr (.inr (.inr w))))
theorem cb_cq {M' : zM} (h : cb_x ac b M T r pa pn) (hf : zh (cq_W (b + 2 + 10 * r)) M M') : cb_x ac b M' T r pa pn := by
  refine cb_zh h hf ?_
  intro t k j v w
  have hs := h.2.2.2.2.2.2
  unfold cq_W at w
  rcases v with v | v | v | v | v | v <;> omega
theorem cq_p_cq {M' : zM} {bs : List Nat} {p : Nat} (h : cq_p b M T bs p) (hb : b < zm_n M) (hf : zh (cq_W (b + 2 + 10 * r)) M M') : cq_p b M' T bs p := by
  refine ⟨?_, h.2⟩
  rw [zh_I hf hb (by unfold cq_W; omega)]
  exact h.1
theorem cq_n_cq {M' : zM} {N : Nat} {X : Nat → yX} (h : cq_n b M pa pn N X) (hb : cb_x ac b M T r pa pn) (hf : zh (cq_W (b + 2 + 10 * r)) M M') : cq_n b M' pa pn N X := cq_n_zh h hb hf (fun k j _ _ w => by unfold cq_W at w; omega) (by unfold cq_W; omega)
theorem cl_leaf {a0 : Nat} (h : cs_x ac b M T r pa pn q) (hw : pw_x a0 q.2.2) (hN : q.2.2.1 < 400) (hd : 2 ≤ d) (hL : q.2.2.2.2.1.length < 16) {l c : Nat} {bs : List Nat} (hq : q.1 = c :: bs) (h400 : q.2.1 ≤ 400) : ∃ M' pa' pn', rs_leaf d b (nI l) M = some (some (pa' q.2.2.1), M') ∧ cs_x ac b M' T r pa' pn' (bs, q.2.1 + 1, ((pb_open q.2.2 0 q.2.2.2.2.1.length).1, (pb_open q.2.2 0 q.2.2.2.2.1.length).2.1, q.2.2.2.2.1 ++ [(l, q.2.2.1)], q.2.2.2.2.2.1, q.2.2.2.2.2.2)) ∧ ce_x M pa pn M' pa' pn' ∧ zh (cf_W b r pa' pn') M M' := by
  obtain ⟨d, rfl⟩ : ∃ d', d = d' + 1 := ⟨d - 1, by omega⟩
  have eb : rs_leaf (d + 1) b (nI l) M = rs_leaf_b d b (nI l) M := rfl
  rw [eb]
  unfold rs_leaf_b
  have c2 : zm_I M 5 (b + 2 + 10 * r) 2 = nI q.2.2.2.2.1.length := h.2.2.2.1.1
  have hlt : nI q.2.2.2.2.1.length < 16 := nI_lt (b := 16) (by omega) (by omega)
  obtain ⟨M1, pa', pn', g1, g2, g3, g4⟩ := cl_make (d := d) (kd := 0) (nb := q.2.2.2.2.1.length) (v := nI q.2.2.2.2.1.length) h hw hN (by omega) (fun _ => rfl)
  have g1 : rs_make d b 0 (nI q.2.2.2.2.1.length) M = some (some (pa' q.2.2.1), M1) := g1
  obtain ⟨k1, k2, k3, k4, k5, k6, k7⟩ := g2
  have hru := cb_ru k1
  have hQ := cb_rs k1
  have c21 : zm_I M1 5 (b + 2 + 10 * r) 2 = nI q.2.2.2.2.1.length := k4.1
  have hz : z_in (nI q.2.2.2.2.1.length) 16 := nI_in (by omega) (by omega)
  simp only [cb_8 h.1, c2, if_pos hlt, g1, Option.bind_some, cb_8 k1, c21, (ru_5 hru).1, (ru_5 hru).2, if_pos hz, nI_clamp (show q.2.2.2.2.1.length < 2 ^ 31 by omega), zlet, pm_RI, pm_LI, (ru_6 hru).1, (ru_6 hru).2]
  have e1 : zm_I (zm_setI M1 20 (b + 2 + 10 * r + 1) q.2.2.2.2.1.length (nI l)) 5 (b + 2 + 10 * r) 2 = nI q.2.2.2.2.1.length := by rw [pm_ne (by omega)]; exact c21
  simp only [e1, if_pos hz, nI_clamp (show q.2.2.2.2.1.length < 2 ^ 31 by omega), pr_ne (show (6 : Nat) ≠ 24 ∨ b ≠ b + 2 + 10 * r + 2 ∨ 8 ≠ q.2.2.2.2.1.length from .inl (by decide)), pm_RI, cb_8 k1, pm_IR, e1, nI_1]
  obtain ⟨M3, hM3⟩ : ∃ Y, Y = zm_setI (zm_setR (zm_setI M1 20 (b + 2 + 10 * r + 1) q.2.2.2.2.1.length (nI l)) 24 (b + 2 + 10 * r + 2) q.2.2.2.2.1.length (some (pa' q.2.2.1))) 5 (b + 2 + 10 * r) 2 (nI (q.2.2.2.2.1.length + 1)) := ⟨_, rfl⟩
  have z3 : zh (cq_W (b + 2 + 10 * r)) M1 M3 := by
    rw [hM3]
    exact zh_trans (zh_trans (zh_setI (.inr (.inl ⟨rfl, .inl rfl⟩))) (zh_setR (.inr (.inr ⟨rfl, .inl rfl⟩)))) (zh_setI (.inl ⟨rfl, rfl, by omega, by omega⟩))
  rw [← hM3]
  have n3 : zm_n M3 = zm_n M1 ∧ zm_s M3 = zm_s M1 := by
    rw [hM3]
    simp only [pm_nI, pm_nR, pm_sI, pm_sR, and_self]
  have cs3 : cs_x ac b M3 T r pa' pn' (q.1, q.2.1, ((pb_open q.2.2 0 q.2.2.2.2.1.length).1, (pb_open q.2.2 0 q.2.2.2.2.1.length).2.1, q.2.2.2.2.1 ++ [(l, q.2.2.1)], q.2.2.2.2.2.1, q.2.2.2.2.2.2)) := by
    refine ⟨cb_cq k1 z3, cq_p_cq k2 (by omega) z3, cq_n_cq k3 k1 z3, ⟨?_, ?_, ?_⟩, ?_, ?_, ?_⟩
    · rw [hM3, pm_same]
      simp
    · rw [hM3, pm_ne (by omega), pm_IR, pm_ne (by omega)]; exact k4.2.1
    · rw [hM3, pm_ne (by omega), pm_IR, pm_ne (by omega)]; exact k4.2.2
    · intro i x hx
      have hx : (q.2.2.2.2.1 ++ [(l, q.2.2.1)])[i]? = some x := hx
      rw [hM3, pm_ne (by omega), pm_IR, pm_RI]
      by_cases e : i < q.2.2.2.2.1.length
      · rw [List.getElem?_append_left e] at hx
        rw [pm_ne (by omega), pr_ne (by omega), pm_RI]
        exact k5 i x hx
      · have e2 : i = q.2.2.2.2.1.length := by
          have := (List.getElem?_eq_some_iff.mp hx).1
          simp at this
          omega
        subst e2
        have ex : x = (l, q.2.2.1) := by simpa using hx.symm
        subst ex
        exact ⟨pm_same, pr_same⟩
    · intro i x hx
      rw [hM3, pm_ne (by omega), pm_IR, pm_ne (by omega), pm_ne (by omega), pm_IR, pm_ne (by omega), pm_RI, pr_ne (by omega), pm_RI]
      exact k6 i x hx
    · intro i x hx
      rw [hM3, pm_RI, pr_ne (by omega), pm_RI]
      exact k7 i x hx
  rw [hq] at cs3
  obtain ⟨s1, s2⟩ := cs_step (q := (q.1, q.2.1, ((pb_open q.2.2 0 q.2.2.2.2.1.length).1, (pb_open q.2.2 0 q.2.2.2.2.1.length).2.1, q.2.2.2.2.1 ++ [(l, q.2.2.1)], q.2.2.2.2.2.1, q.2.2.2.2.2.2))) cs3
  have p3 : zm_I M3 6 b 6 = nI q.2.1 := cs3.2.1.1
  rw [p3, nI_1]
  exact ⟨_, pa', pn', rfl, s1, ce_trans g3 (ce_trans (ce_set n3.1 n3.2) (c6_ce s2)), zh_trans g4 (zh_trans (zh_mono z3 (fun t k j _ w => cq_cf w)) (c6_zh s2))⟩
end
