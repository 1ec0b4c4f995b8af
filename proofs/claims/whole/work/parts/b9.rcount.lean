/-! THE RULES' text: a count's node -/
section
variable {am d : Nat} {M : zM} {T : List Nat} {r : Nat} {q : yQp}
theorem rn_ar {N A v : Nat} {X X' : Nat → yX} (h : rn_x am M N X) (hX : ∀ k, k ≠ A → X' k = X k) (hA : X' A = ((X A).1, (X A).2.1, (X A).2.2.1, (X A).2.2.2.1, v)) : rn_x am (zm_setI M 20 (am + 3) (6 * A + 5) (nI v)) N X' := by
  have same : ∀ n, (X' n).1 = (X n).1 ∧ (X' n).2.1 = (X n).2.1 ∧ (X' n).2.2.1 = (X n).2.2.1 ∧ (X' n).2.2.2.1 = (X n).2.2.2.1 := by
    intro n
    by_cases e : n = A
    · subst e
      rw [hA]
      exact ⟨rfl, rfl, rfl, rfl⟩
    · rw [hX n e]
      exact ⟨rfl, rfl, rfl, rfl⟩
  refine ⟨by rw [pm_ne (by omega)]; exact h.1, ?_⟩
  intro n hn
  obtain ⟨h1, h2, h3, h4, h5, h6, h7⟩ := h.2 n hn
  obtain ⟨s1, s2, s3, s4⟩ := same n
  rw [s1, s2, s3, s4]
  refine ⟨by rw [pm_ne (by omega)]; exact h1, by rw [pm_ne (by omega)]; exact h2, by rw [pm_ne (by omega)]; exact h3, by rw [pm_ne (by omega)]; exact h4, ?_, ?_, ?_⟩
  · by_cases e : n = A
    · subst e
      rw [pm_same, hA]
    · rw [pm_ne (by omega), hX n e]
      exact h5
  · intro i c hc
    have g := h6 i c hc
    rw [pm_ne (by omega), (same c).2.2.1]
    exact g
  · intro hu
    rw [pm_ne (by omega)]
    exact h7 hu
theorem cnt_X (B : yBp) (n f : Nat) (t : Option Nat) (hn : n < B.1) : (∀ k, k ≠ B.1 → (pb_cnt B n f t).2.1 k = py_put (py_u B.2.1 B.1 (5, B.2.2.2.1.length, none, [], 0)) B.1 n k) ∧ (pb_cnt B n f t).2.1 B.1 = (5, B.2.2.2.1.length, none, [n], (B.2.1 n).2.2.2.2 + 1) ∧ py_put (py_u B.2.1 B.1 (5, B.2.2.2.1.length, none, [], 0)) B.1 n B.1 = (5, B.2.2.2.1.length, none, [n], max 0 (B.2.1 n).2.2.2.2) := by
  have e0 : py_u B.2.1 B.1 (5, B.2.2.2.1.length, none, [], 0) B.1 = (5, B.2.2.2.1.length, none, [], 0) := pu_s _ _ _
  have e1 : py_u B.2.1 B.1 (5, B.2.2.2.1.length, none, [], 0) n = B.2.1 n := pu_o _ _ (by omega)
  refine ⟨?_, if_pos rfl, ?_⟩
  · intro k hk
    show (if k = B.1 then _ else _) = _
    rw [if_neg hk]
    by_cases e : k = n
    · subst e
      rw [if_pos rfl, put_C _ hk, e1]
    · rw [if_neg e, put_o _ hk e]
      exact (pu_o _ _ hk).symm
  · rw [put_A, e0, e1]
    rfl
theorem mx_3a (n k j : Nat) : nI (3 * (8 * n + k)) + nI j = nI (3 * (8 * n + k) + j) := nI_add _ _
theorem rsx_cnt (h : rs_x am M T r q) (hr : r < 8) (hN : q.2.2.1 < 1200) (hC : q.2.2.2.2.2.1.length < 8) {n : Nat} (hn : n < q.2.2.1) (hup : (q.2.2.2.1 n).2.2.1 = none) (har : (q.2.2.2.1 n).2.2.2.2 ≤ 1) (f : Nat) (t : Option Nat) : ∃ M1 M2 M3 M9, mo_more d am 3 M = some (nI q.2.2.2.2.2.1.length, M1) ∧ mo_opens d am 5 (nI q.2.2.2.2.2.1.length) M1 = some (nI q.2.2.1, M2) ∧ mo_puts d am (nI q.2.2.1) (nI n) M2 = some M3 ∧ zm_I M3 20 (am + 3) (6 * q.2.2.1 + 5) = nI (q.2.2.2.1 n).2.2.2.2 ∧ zm_I M3 12 am 16 = nI r ∧ ml_ok am M3 ∧ M9 = zm_setI (zm_setI (zm_setI (zm_setI M3 20 (am + 3) (6 * q.2.2.1 + 5) (nI ((q.2.2.2.1 n).2.2.2.2 + 1))) 20 (am + 7) (3 * (8 * r + q.2.2.2.2.2.1.length)) (nI f)) 20 (am + 7) (3 * (8 * r + q.2.2.2.2.2.1.length) + 1) (zo t)) 20 (am + 7) (3 * (8 * r + q.2.2.2.2.2.1.length) + 2) (nI q.2.2.1) ∧ rs_x am M9 T r (q.1, q.2.1, pb_cnt q.2.2 n f t) ∧ zf (rw_r am r) M M9 := by
  obtain ⟨h1, h2, h3, h4, h5, h6, h7, h8, h9, h10⟩ := h
  obtain ⟨M1, a1, a2, a3, a4⟩ := mr_more (d := d) (w := 3) h1 h6 (by omega) h7.2.1 (by omega)
  obtain ⟨M2, b1, b2, b3⟩ := rn_open (d := d) (ml_zf h1 a4) (rn_mg h5 a4 (by simp) (by simp)) hN 5 q.2.2.2.2.2.1.length
  have eX0 : py_u q.2.2.2.1 q.2.2.1 (5, q.2.2.2.2.2.1.length, none, [], 0) q.2.2.1 = (5, q.2.2.2.2.2.1.length, none, [], 0) := pu_s _ _ _
  have eX1 : py_u q.2.2.2.1 q.2.2.1 (5, q.2.2.2.2.2.1.length, none, [], 0) n = q.2.2.2.1 n := pu_o _ _ (by omega)
  have hl2 : ml_ok am M2 := ml_zf (ml_zf h1 a4) b3
  obtain ⟨M3, c1, c2, c3⟩ := rn_puts (d := d) hl2 b2 (by omega) (A := q.2.2.1) (C := n) (by omega) (by omega) (by omega) (by rw [eX1]; exact hup) (by rw [eX0]; simp) (by rw [eX0]; simp) (by rw [eX0, eX1]; exact ⟨(show 0 ≤ 100 by decide), by omega⟩)
  have hl3 : ml_ok am M3 := ml_zf hl2 c3
  obtain ⟨x1, x2, x3⟩ := cnt_X q.2.2 n f t hn
  have F3 : zf (mg am [17] [3, 5]) M M3 := zf_trans (zf_trans (zf_mono a4 (mg_mono (by simp) (by simp))) (zf_mono b3 (mg_mono (by simp) (by simp)))) (zf_mono c3 (mg_mono (by simp) (by simp)))
  have k35 : zm_I M3 20 (am + 3) (6 * q.2.2.1 + 5) = nI (q.2.2.2.1 n).2.2.2.2 := by
    have g := (c2.2 q.2.2.1 (Nat.lt_succ_self _)).2.2.2.2.1
    rw [x3] at g
    rw [g]
    show nI (max 0 (q.2.2.2.1 n).2.2.2.2) = _
    rw [Nat.max_eq_right (Nat.zero_le _)]
  have k16 : zm_I M3 12 am 16 = nI r := by rw [mg_f F3 (by simp)]; exact h6
  have rn4 := rn_ar (v := (q.2.2.2.1 n).2.2.2.2 + 1) (X' := (pb_cnt q.2.2 n f t).2.1) c2 x1 (by rw [x2, x3])
  obtain ⟨M9, hM9⟩ : ∃ X, X = zm_setI (zm_setI (zm_setI (zm_setI M3 20 (am + 3) (6 * q.2.2.1 + 5) (nI ((q.2.2.2.1 n).2.2.2.2 + 1))) 20 (am + 7) (3 * (8 * r + q.2.2.2.2.2.1.length)) (nI f)) 20 (am + 7) (3 * (8 * r + q.2.2.2.2.2.1.length) + 1) (zo t)) 20 (am + 7) (3 * (8 * r + q.2.2.2.2.2.1.length) + 2) (nI q.2.2.1) := ⟨_, rfl⟩
  have f47 : zf (mg am [] [7]) (zm_setI M3 20 (am + 3) (6 * q.2.2.1 + 5) (nI ((q.2.2.2.1 n).2.2.2.2 + 1))) M9 := by
    rw [hM9]
    exact zf_trans (zf_trans (zf_set (.inr ⟨.inl rfl, 7, by simp, rfl⟩)) (zf_set (.inr ⟨.inl rfl, 7, by simp, rfl⟩))) (zf_set (.inr ⟨.inl rfl, 7, by simp, rfl⟩))
  have f49 : zf (mg am [] [3, 7]) M3 M9 := zf_trans (zf_set (.inr ⟨.inl rfl, 3, by simp, rfl⟩)) (zf_mono f47 (mg_mono (by simp) (by simp)))
  have F9 : zf (mg am [17] [3, 5, 7]) M M9 := zf_trans (zf_mono F3 (mg_mono (by simp) (by simp))) (zf_mono f49 (mg_mono (by simp) (by simp)))
  have r5 : ∀ j, zm_I M9 20 (am + 5) j = zm_I M1 20 (am + 5) j := fun j => Eq.trans (mg_a f49 (by decide) (by simp)) (Eq.trans (mg_a c3 (by decide) (by simp)) (mg_a b3 (by decide) (by simp)))
  have s0 : zm_I M9 20 (am + 7) (3 * (8 * r + q.2.2.2.2.2.1.length)) = nI f := by rw [hM9, pm_ne (by omega), pm_ne (by omega), pm_same]
  have s1 : zm_I M9 20 (am + 7) (3 * (8 * r + q.2.2.2.2.2.1.length) + 1) = zo t := by rw [hM9, pm_ne (by omega), pm_same]
  have s2 : zm_I M9 20 (am + 7) (3 * (8 * r + q.2.2.2.2.2.1.length) + 2) = nI q.2.2.1 := by rw [hM9, pm_same]
  have s3 : ∀ j, j < 3 * (8 * r + q.2.2.2.2.2.1.length) → zm_I M9 20 (am + 7) j = zm_I M 20 (am + 7) j := by
    intro j hj
    rw [hM9, pm_ne (by omega), pm_ne (by omega), pm_ne (by omega), pm_ne (by omega)]
    exact mg_a F3 (by decide) (by simp)
  have W9 : zf (rw_r am r) M M9 := by
    rw [hM9]
    refine zf_trans (rw_one (J := fun j => j = 5 * r + 3) a4 a3 (by simp) (fun j hj => .inr (.inr ⟨rfl, .inr (.inl ⟨rfl, by omega, by omega⟩)⟩))) (zf_trans (rw_mg b3 (by simp) (by simp)) (zf_trans (rw_mg c3 (by simp) (by simp)) (zf_trans (zf_trans (zf_trans (zf_set (.inr (.inr ⟨rfl, .inl rfl⟩))) (zf_set (.inr (.inr ⟨rfl, .inr (.inr (.inl ⟨rfl, by omega, by omega⟩))⟩)))) (zf_set (.inr (.inr ⟨rfl, .inr (.inr (.inl ⟨rfl, by omega, by omega⟩))⟩)))) (zf_set (.inr (.inr ⟨rfl, .inr (.inr (.inl ⟨rfl, by omega, by omega⟩))⟩))))))
  refine ⟨M1, M2, M3, M9, a1, b1, c1, k35, k16, hl3, hM9, ⟨ml_zf h1 F9, mt_mg h2 F9 (by simp) (by simp), rp_mg h3 F9 (by simp), by rw [mg_f F9 (by simp)]; exact h4, rn_mg rn4 f47 (by simp) (by simp), by rw [mg_f F9 (by simp)]; exact h6, ⟨?_, ?_, ?_⟩, ?_, ?_, ?_⟩, W9⟩
  · rw [r5, a3 _ (by omega)]
    exact h7.1
  · rw [r5, a2]
    show nI (q.2.2.2.2.2.1.length + 1) = nI (q.2.2.2.2.2.1 ++ [(f, t, q.2.2.1)]).length
    simp
  · rw [r5, a3 _ (by omega)]
    exact h7.2.2
  · intro i x hx
    have g := h8 i x hx
    rw [mg_a F9 (by decide) (by simp), mg_a F9 (by decide) (by simp)]
    exact g
  · intro i x hx
    have hx' : (q.2.2.2.2.2.1 ++ [(f, t, q.2.2.1)])[i]? = some x := hx
    by_cases e : i < q.2.2.2.2.2.1.length
    · rw [List.getElem?_append_left e] at hx'
      have g := h9 i x hx'
      rw [s3 _ (by omega), s3 _ (by omega), s3 _ (by omega)]
      exact g
    · have e2 : i = q.2.2.2.2.2.1.length := by
        have := (List.getElem?_eq_some_iff.mp hx').1
        simp at this
        omega
      subst e2
      have ex : x = (f, t, q.2.2.1) := by simpa using hx'.symm
      rw [ex]
      exact ⟨s0, s1, s2⟩
  · intro i x hx
    rw [mg_a F9 (by decide) (by simp)]
    exact h10 i x hx
/-- its two numbers are told anew -/
theorem rs_bnd {M' : zM} {n f v : Nat} {t w : Option Nat} {b : List Nat} {p : Nat} {B : yBp} {q0 : yQp} (h : rs_x am M T r (q0.1, q0.2.1, pb_cnt B n f t)) (hf : zf (mg am [3, 4] [7]) M M') (hc : ∀ j, j ≠ 3 * (8 * r + B.2.2.2.1.length) → j ≠ 3 * (8 * r + B.2.2.2.1.length) + 1 → zm_I M' 20 (am + 7) j = zm_I M 20 (am + 7) j) (h4 : zm_I M' 12 am 4 = -1) (hp : rp_x am M' T b p) (h0 : zm_I M' 20 (am + 7) (3 * (8 * r + B.2.2.2.1.length)) = nI v) (h1 : zm_I M' 20 (am + 7) (3 * (8 * r + B.2.2.2.1.length) + 1) = zo w) : rs_x am M' T r (b, p, pb_cnt B n v w) := by
  obtain ⟨a1, a2, a3, a4, a5, a6, a7, a8, a9, a10⟩ := h
  have hk : ∀ i j, i ≠ 7 → zm_I M' 20 (am + i) j = zm_I M 20 (am + i) j := fun i j hi => mg_a hf (by decide) (by simpa using hi)
  refine ⟨ml_zf a1 hf, mt_mg a2 hf (by simp) (by simp), hp, h4, rn_mg a5 hf (by simp) (by simp), by rw [mg_f hf (by simp)]; exact a6, ?_, ?_, ?_, ?_⟩
  · rw [hk _ _ (by decide), hk _ _ (by decide), hk _ _ (by decide)]
    have e : (pb_cnt B n v w).2.2.2.1.length = (pb_cnt B n f t).2.2.2.1.length := by simp [pb_cnt]
    refine ⟨a7.1, ?_, a7.2.2⟩
    rw [a7.2.1]
    exact congrArg nI e.symm
  · intro i x hx
    rw [hk _ _ (by decide), hk _ _ (by decide)]
    exact a8 i x hx
  · intro i x hx
    have hx' : (B.2.2.2.1 ++ [(v, w, B.1)])[i]? = some x := hx
    by_cases e : i < B.2.2.2.1.length
    · rw [List.getElem?_append_left e] at hx'
      have g := a9 i x (by
        show (B.2.2.2.1 ++ [(f, t, B.1)])[i]? = some x
        rw [List.getElem?_append_left e]
        exact hx')
      rw [hc _ (by omega) (by omega), hc _ (by omega) (by omega), hc _ (by omega) (by omega)]
      exact g
    · have e2 : i = B.2.2.2.1.length := by
        have := (List.getElem?_eq_some_iff.mp hx').1
        simp at this
        omega
      subst e2
      have ex : x = (v, w, B.1) := by simpa using hx'.symm
      rw [ex]
      have g := a9 B.2.2.2.1.length (f, t, B.1) (by show (B.2.2.2.1 ++ [(f, t, B.1)])[B.2.2.2.1.length]? = _; simp)
      refine ⟨h0, h1, ?_⟩
      rw [hc _ (by omega) (by omega)]
      exact g.2.2
  · intro i x hx
    rw [hk _ _ (by decide)]
    exact a10 i x hx
end
