/-! THE MODEL: the witness found -/
section
variable {am r d : Nat} {M : zM} {P : yP}
theorem lv_by (h : py_ok P) {k p : Nat} (hk : py_dm P k) (e : py_up P k = some p) {W : yW} (hW : W ∈ py_lv P k) : py_oi W.2.1 ≤ 8 := by
  have hp := ok_pdm h hk e
  have h8 := ok_nc h
  unfold py_lv at hW
  rw [e] at hW
  simp only at hW
  by_cases q2 : py_kd P p = 2
  · rw [if_pos q2] at hW
    obtain ⟨c, _, h2⟩ := rw_mem hW
    obtain ⟨q, _, g2, _⟩ := il_mem h2
    rw [g2]
    simp [py_oi]
  · rw [if_neg q2] at hW
    by_cases q4 : py_kd P p = 4
    · rw [if_pos q4] at hW
      unfold py_an2 at hW
      rw [List.mem_flatMap] at hW
      obtain ⟨c, _, h2⟩ := hW
      obtain ⟨q, _, g2, _⟩ := il_mem h2
      rw [g2]
      simp [py_oi]
    · rw [if_neg q4] at hW
      by_cases q5 : py_kd P p = 5 ∧ py_to P (py_nb P p) ≠ some 1
      · rw [if_pos q5] at hW
        obtain ⟨q, _, g2, _⟩ := il_mem hW
        have := (ok_k5 h hp q5.1).2.1
        rw [g2]
        simp [py_oi]
        omega
      · rw [if_neg q5] at hW
        cases hW
theorem wl_by (h : py_ok P) : ∀ x, py_dm P x → ∀ W, W ∈ py_wl P x → py_oi W.2.1 ≤ 8 := by
  refine ok_climb h _ ?_ ?_
  · intro W hW
    rw [wl_rt h] at hW
    cases hW
  · intro x p hx e ih W hW
    rw [wl_up h hx e] at hW
    rcases List.mem_append.mp hW with y | y
    · exact lv_by h hx e y
    · cases hb : py_pst P x
      · rw [hb] at y; simp at y
      · rw [hb] at y
        exact ih W (by simpa using y)
theorem ways_by (h : py_ok P) {p : Option Nat} (hp : ∀ o, p = some o → o < py_nl P) {W : yW} (hW : W ∈ py_ways P p) : py_oi W.2.1 ≤ 16 := by
  cases p with
  | none =>
    obtain ⟨q, _, g2, _⟩ := il_mem hW
    rw [g2]
    simp [py_oi]
  | some o =>
    have := wl_by h _ (ok_lf h (hp o rfl)) W hW
    omega
theorem mb_zf {F A : List Nat} {M' : zM} {x : Option yB} (h : mb_x am M x) (hf : zf (mg am F A) M M') (h1 : ¬ 21 ∈ A) (h2 : ¬ 22 ∈ A) : mb_x am M' x := by
  cases x with
  | none =>
    show zm_I M' 20 (am + 21) 5 = -1
    rw [mg_a hf (by decide) h1]
    exact h
  | some b =>
    unfold mb_x at *
    simp only [mg_a hf (show (20 : Nat) ≠ 12 by decide) h1, mg_a hf (show (22 : Nat) ≠ 12 by decide) h2]
    exact h
theorem mw_zf {F A : List Nat} {M' : zM} {l : List yW} (hw : mw_has am M l) (hf : zf (mg am F A) M M') (h0 : ¬ 26 ∈ F) (h1 : ¬ 14 ∈ A ∧ ¬ 15 ∈ A ∧ ¬ 16 ∈ A ∧ ¬ 17 ∈ A) : mw_has am M' l := by
  refine ⟨by rw [mg_f hf h0]; exact hw.1, hw.2.1, ?_⟩
  intro i w hi
  rw [mg_a hf (by decide) h1.1, mg_a hf (by decide) h1.2.1, mg_a hf (by decide) h1.2.2.1, mg_a hf (by decide) h1.2.2.2]
  exact hw.2.2 i w hi
theorem mr_tries_191 {t : List Nat} : ∀ (m k : Nat) (M : zM), ml_ok am M → mt_x am M t → k + m = t.length → (∀ i x, t[i]? = some x → i < k → zm_I M 22 (am + 22) i = nI x) → ∀ fuel, m < fuel → ∃ M', mo_tries_191 d fuel am (nI k) M = some M' ∧ zf (mg am [] [22]) M M' ∧ (∀ i x, t[i]? = some x → zm_I M' 22 (am + 22) i = nI x) := by
  intro m
  induction m with
  | zero =>
    intro k M hl hx hk hc fuel hf
    cases fuel with
    | zero => cases hf
    | succ fuel =>
      have hle : nI t.length ≤ nI k := nI_le (by omega) (by have := hx.2.1; omega)
      refine ⟨M, by simp [mo_tries_191, hx.1, hle], zf_refl _ _, ?_⟩
      intro i x hi
      exact hc i x hi (by have := (List.getElem?_eq_some_iff.mp hi).1; omega)
  | succ m ih =>
    intro k M hl hx hk hc fuel hf
    cases fuel with
    | zero => cases hf
    | succ fuel =>
      have h12 := hx.2.1
      have hkl : k < t.length := by omega
      have hge : ¬ nI t.length ≤ nI k := nI_ge (by omega) (by omega)
      have hz : z_in (nI k) 12000 := nI_in (by omega) (by omega)
      have hX := hx.2.2.1 k t[k] (by simp)
      have hX6 := hx.2.2.2 t[k] (by simp)
      have hfz : zf (mg am [] [22]) M (zm_setI M 22 (am + 22) k (nI t[k])) := zf_set (.inr ⟨.inr rfl, 22, by simp, rfl⟩)
      obtain ⟨M', e1, e2, e3⟩ := ih (k + 1) (zm_setI M 22 (am + 22) k (nI t[k])) (ml_set hl) (by
        refine ⟨by rw [pm_ne (by omega)]; exact hx.1, hx.2.1, ?_, hx.2.2.2⟩
        intro i x hi
        rw [pm_ne (by omega)]
        exact hx.2.2.1 i x hi) (by omega) (by
        intro i x hi hik
        by_cases e : i = k
        · subst e
          rw [pm_same]
          have : t[i]? = some t[i] := by simp
          rw [this] at hi
          injection hi with hi
          rw [hi]
        · rw [pm_ne (by omega)]
          exact hc i x hi (by omega)) fuel (by omega)
      refine ⟨M', ?_, zf_trans hfz e2, e3⟩
      rw [← e1]
      simp only [mo_tries_191, hx.1, if_neg hge, ml_R27 hl, ml_L27 hl, ml_R33 hl, ml_L33 hl, if_pos hz, nI_clamp (show k < 2 ^ 31 by omega), hX, byte_26 hX6, zlet, nI_1]
theorem mr_tries_106 (h : mp_ok am M r P) {l : List yW} {v w : Nat} {V W : yW} (hw : mw_has am M l) (hv : l[v]? = some V) (hw2 : l[w]? = some W) {x : Option yB} {p : Option Nat} {t : List Nat} (hb : mb_x am M x) (hx : mt_x am M t) (hp : py_oi p ≤ 16) (hV1 : V.1 < 16) (hW1 : W.1 < 16) (hV2 : py_oi V.2.1 ≤ 16) (hW2 : py_oi W.2.1 ≤ 16) : ∃ M', mo_tries_106 d am (zo p) (nI v) (nI w) M = some M' ∧ mb_x am M' (if py_btr x (p, (V.1, V.2.1), (W.1, W.2.1), t) then some (p, (V.1, V.2.1), (W.1, W.2.1), t) else x) ∧ zf (mg am [] [21, 22]) M M' := by
  have hl := h.2.1
  have hv1 := mw_lt hw hv
  have hw1 := mw_lt hw hw2
  have hz : z_in (nI v) 128 := nI_in (by omega) (by omega)
  have hz2 : z_in (nI w) 128 := nI_in (by omega) (by omega)
  have hVV := hw.2.2 v V hv
  have hWW := hw.2.2 w W hw2
  have hbt := mr_isBetter (d := d) hl hw hv hw2 hb hx hp hV1 hW1 hV2 hW2
  unfold mo_tries_106
  rw [hbt]
  simp only [Option.bind_some]
  cases hbb : py_btr x (p, (V.1, V.2.1), (W.1, W.2.1), t)
  · refine ⟨M, by simp [zb], by simpa using hb, zf_refl _ _⟩
  · rw [pb_zbt, if_neg (by decide)]
    simp only [if_true]
    have i0 : z_in 0 7 := by decide
    have i1 : z_in 1 7 := by decide
    have i2 : z_in 2 7 := by decide
    have i3 : z_in 3 7 := by decide
    have i4 : z_in 4 7 := by decide
    have i5 : z_in 5 7 := by decide
    have c0 : (0 : Int32).toNatClampNeg = 0 := by decide
    have c1 : (1 : Int32).toNatClampNeg = 1 := by decide
    have c2 : (2 : Int32).toNatClampNeg = 2 := by decide
    have c3 : (3 : Int32).toNatClampNeg = 3 := by decide
    have c4 : (4 : Int32).toNatClampNeg = 4 := by decide
    have c5 : (5 : Int32).toNatClampNeg = 5 := by decide
    have hLF : 12000 < zLF := by unfold zLF; exact Nat.lt_of_sub_pos (Nat.pos_of_ne_zero (by decide))
    have h12 := hx.2.1
    generalize hM1 : zm_setI (zm_setI (zm_setI (zm_setI (zm_setI (zm_setI M 20 (am + 21) 0 (zo p)) 20 (am + 21) 1 (nI V.1)) 20 (am + 21) 2 (zo V.2.1)) 20 (am + 21) 3 (nI W.1)) 20 (am + 21) 4 (zo W.2.1)) 20 (am + 21) 5 (nI t.length) = M1
    have hf1 : zf (mg am [] [21]) M M1 := by
      rw [← hM1]
      refine zf_trans (zf_set ?_) (zf_trans (zf_set ?_) (zf_trans (zf_set ?_) (zf_trans (zf_set ?_) (zf_trans (zf_set ?_) (zf_set ?_))))) <;> exact .inr ⟨.inl rfl, 21, by simp, rfl⟩
    have hx1 : mt_x am M1 t := by
      refine mt_zf hx hf1 ?_ ?_
      · simp [mg]
      · intro j _
        simp [mg]
    obtain ⟨M2, e1, e2, e3⟩ := mr_tries_191 (d := d) t.length 0 M1 (ml_zf hl hf1) hx1 (by omega) (by intro i x _ hi; omega) zLF (by omega)
    refine ⟨M2, ?_, ?_, zf_trans (zf_mono hf1 (mg_mono (by simp) (by simp))) (zf_mono e2 (mg_mono (by simp) (by simp)))⟩
    · have e1' : mo_tries_191 d zLF am 0 M1 = some M2 := e1
      rw [← e1', ← hM1]
      simp only [ml_R32 hl, ml_L32 hl, if_pos i0, if_pos i1, if_pos i2, if_pos i3, if_pos i4, if_pos i5, c0, c1, c2, c3, c4, c5, zlet, pm_RI, pm_LI, ml_R22 hl, ml_L22 hl, ml_R23 hl, ml_L23 hl, if_pos hz, if_pos hz2, nI_clamp (show v < 2 ^ 31 by omega), nI_clamp (show w < 2 ^ 31 by omega)]
      simp [pm_II, hVV.1, hVV.2.1, hWW.1, hWW.2.1, hx.1]
    · have g : ∀ j, zm_I M2 20 (am + 21) j = zm_I M1 20 (am + 21) j := fun j => mg_a e2 (by decide) (by simp)
      have b0 : zm_I M1 20 (am + 21) 0 = zo p := by rw [← hM1]; simp [pm_II]
      have b1 : zm_I M1 20 (am + 21) 1 = nI V.1 := by rw [← hM1]; simp [pm_II]
      have b2 : zm_I M1 20 (am + 21) 2 = zo V.2.1 := by rw [← hM1]; simp [pm_II]
      have b3 : zm_I M1 20 (am + 21) 3 = nI W.1 := by rw [← hM1]; simp [pm_II]
      have b4 : zm_I M1 20 (am + 21) 4 = zo W.2.1 := by rw [← hM1]; simp [pm_II]
      have b5 : zm_I M1 20 (am + 21) 5 = nI t.length := by rw [← hM1]; simp [pm_II]
      refine ⟨by rw [g, b0], by rw [g, b1], by rw [g, b2], by rw [g, b3], by rw [g, b4], by rw [g, b5], e3, h12, hx.2.2.2, hV1, hW1, hp, hV2, hW2⟩
theorem mr_tries (h : mp_ok am M r P) {l : List yW} {v w : Nat} {V W : yW} (hw : mw_has am M l) (hv : l[v]? = some V) (hw2 : l[w]? = some W) {x : Option yB} {p : Option Nat} (hb : mb_x am M x) (hd : 165 ≤ d) (hp : ∀ o, p = some o → o < py_nl P) (hV1 : V.1 < 16) (hW1 : W.1 < 16) (hV2 : py_oi V.2.1 ≤ 16) (hW2 : py_oi W.2.1 ≤ 16) (hVW : ∀ o, p = some o → py_wok P V ∧ py_wok P W) (h31 : zm_I M 12 am 31 = -1) : ∃ M', mo_tries d am (nI r) (zo p) (nI v) (nI w) M = some M' ∧ mb_x am M' (py_try P p x V W) ∧ zf (mg am [28, 31] [18, 19, 20, 21, 22]) M M' ∧ zm_I M' 12 am 31 = -1 := by
  have hl := h.2.1
  have hnl := ok_nl h.1
  have hv1 := mw_lt hw hv
  have hw1 := mw_lt hw hw2
  have hz : z_in (nI v) 128 := nI_in (by omega) (by omega)
  have hz2 : z_in (nI w) 128 := nI_in (by omega) (by omega)
  have hVV := hw.2.2 v V hv
  have hWW := hw.2.2 w W hw2
  have hpo : py_oi p ≤ 16 := by
    cases p with
    | none => simp [py_oi]
    | some o => have := hp o rfl; simp only [py_oi]; omega
  obtain ⟨d, rfl⟩ : ∃ d', d = d' + 1 := ⟨d - 1, by omega⟩
  have h79 : ∀ (v6 w6 : Nat) (V6 W6 : yW), l[v6]? = some V6 → l[w6]? = some W6 → V6.1 < 16 → W6.1 < 16 → py_oi V6.2.1 ≤ 16 → py_oi W6.2.1 ≤ 16 → ∃ M', mo_tries_79 d am (nI r) (zo p) (nI v) (nI w) (nI v6) (nI w6) M = some M' ∧ mb_x am M' (if py_btr x (p, (V6.1, V6.2.1), (W6.1, W6.2.1), py_tx P p V W) then some (p, (V6.1, V6.2.1), (W6.1, W6.2.1), py_tx P p V W) else x) ∧ zf (mg am [28, 31] [18, 19, 20, 21, 22]) M M' ∧ zm_I M' 12 am 31 = -1 := by
    intro v6 w6 V6 W6 hv6 hw6 a1 a2 a3 a4
    have hfz : zf (sh_W am 0 0) M (zm_setI M 12 am 28 0) := zf_set (.inl ⟨rfl, rfl, .inl rfl⟩)
    have h0 := mp_S h hfz
    have hw0 := mp_Sw hw hfz
    have hb0 := mb_zf hb (zf_mono hfz sh_mg) (by simp) (by simp)
    have hx0 : mt_x am (zm_setI M 12 am 28 0) [] := ⟨pm_same, by simp, by intro i x hx; simp at hx, by intro x hx; cases hx⟩
    have h310 : zm_I (zm_setI M 12 am 28 0) 12 am 31 = -1 := by rw [pm_ne (by omega)]; exact h31
    unfold mo_tries_79
    cases p with
    | none =>
      obtain ⟨M2, f1, f2, f3⟩ := mr_tries_106 (d := d) h0 hw0 hv6 hw6 hb0 hx0 hpo a1 a2 a3 a4
      refine ⟨M2, ?_, f2, zf_trans (zf_mono (zf_mono hfz sh_mg) (mg_mono (by simp) (by simp))) (zf_mono f3 (mg_mono (by simp) (by simp))), ?_⟩
      · simp only [zlet, pb_zon, if_true]
        rw [pb_zon] at f1
        exact f1
      · rw [mg_f f3 (by simp)]
        exact h310
    | some o =>
      have ho := hp o rfl
      have hvw := hVW o rfl
      have hne : ¬ nI o = -1 := pb_ne1 (by omega)
      obtain ⟨M1, e1, e2, e3, e4⟩ := mr_ahead (d := d) h0 hw0 hv hw2 hvw.1 hvw.2 (by omega) ho hx0 h310
      have h1 := mp_S h0 e3
      obtain ⟨M2, f1, f2, f3⟩ := mr_tries_106 (d := d) h1 (mp_Sw hw0 e3) hv6 hw6 (mb_zf hb0 (zf_mono e3 sh_mg) (by simp) (by simp)) e2 hpo a1 a2 a3 a4
      refine ⟨M2, ?_, f2, zf_trans (zf_mono (zf_mono (zf_trans hfz e3) sh_mg) (mg_mono (by simp) (by simp))) (zf_mono f3 (mg_mono (by simp) (by simp))), ?_⟩
      · rw [pb_zos] at f1
        simp only [zlet, pb_zos, if_neg hne, mr_lf h0 ho, Option.bind_some, e1, f1]
      · rw [mg_f f3 (by simp)]
        exact e4
  show ∃ M', mo_tries_b d am (nI r) (zo p) (nI v) (nI w) M = some M' ∧ _
  unfold py_try py_new
  have hlow := h79 v w V W hv hw2 hV1 hW1 hV2 hW2
  have hhigh := h79 w v W V hw2 hv hW1 hV1 hW2 hV2
  have e52 : mo_tries_52 d am (nI r) (zo p) (nI v) (nI w) M = mo_tries_79 d am (nI r) (zo p) (nI v) (nI w) (nI v) (nI w) M := by
    simp [mo_tries_52, mo_tries_53, mo_tries_66]
  have e48 : mo_tries_48 d am (nI r) (zo p) (nI v) (nI w) M = mo_tries_79 d am (nI r) (zo p) (nI v) (nI w) (nI w) (nI v) M := by
    simp [mo_tries_48, mo_tries_53, mo_tries_66]
  unfold mo_tries_b
  simp only [ml_R22 hl, ml_L22 hl, ml_R23 hl, ml_L23 hl, if_pos hz, if_pos hz2, nI_clamp (show v < 2 ^ 31 by omega), nI_clamp (show w < 2 ^ 31 by omega), hVV.1, hVV.2.1, hWW.1, hWW.2.1, e52, e48, nI_ltI (show W.1 < 2 ^ 31 by omega) (show V.1 < 2 ^ 31 by omega), nI_eq (show V.1 < 2 ^ 31 by omega) (show W.1 < 2 ^ 31 by omega), oi_lt hW2 hV2]
  by_cases q1 : W.1 < V.1
  · have : py_sw V W = true := by simp [py_sw, q1]
    rw [if_pos q1, this]
    exact hhigh
  · rw [if_neg q1]
    by_cases q2 : V.1 = W.1
    · rw [if_pos q2]
      by_cases q3 : py_oi W.2.1 < py_oi V.2.1
      · have : py_sw V W = true := by simp [py_sw, q2, q3]
        rw [if_neg (by simp [q3]), this]
        exact hhigh
      · have : py_sw V W = false := by simp [py_sw, q2, q3]
        rw [if_pos q3, this]
        exact hlow
    · have : py_sw V W = false := by simp [py_sw, q1, q2]
      rw [if_neg q2, this]
      exact hlow
end
