/-! THE CLASS: both walks take a letter -/
def da_W (di t k j : Nat) : Prop := t = 0 ∧ k = di ∧ 10 ≤ j ∧ j ≤ 12
def dv_W (wk di t k j : Nat) : Prop := wz_W wk t k j ∨ da_W di t k j
def dr_W (wk di t k j : Nat) : Prop := wz_W wk t k j ∨ dd_W di t k j
def di_i (M : zM) (pa : Nat → Nat) (a1 : Nat) (P : yP) (a2 : Nat) (Q : yP) (wk di : Nat) (E : List yJ) : Prop := cX M pa a1 P ∧ cX M pa a2 Q ∧ wk_l M wk ∧ dj_x M di P Q E
section
variable {M M' : zM} {pa : Nat → Nat} {P Q : yP} {d wk di a1 a2 : Nat} {E : List yJ}
theorem dj_wz (h : dj_x M di P Q E) (hf : zr (wz_W wk) M M') (hr : wk + 12 < di) : dj_x M' di P Q E := by
  have n0 : ∀ j, ¬ wz_W wk 0 di j := by rintro j (⟨e, _⟩ | ⟨e, _⟩) <;> cases e
  have n20 : ∀ i j, ¬ wz_W wk 20 (di + i) j := by
    rintro i j (⟨e, _⟩ | ⟨_, e⟩)
    · cases e
    · omega
  obtain ⟨x1, x2, x3, x4, x5, x6⟩ := h
  refine ⟨?_, by rw [zr_I hf (n0 9)]; exact x2, x3, ?_, ?_, ?_⟩
  · unfold di_l
    rw [zr_L hf, zr_R hf (n0 1), zr_R hf (n0 4), zr_R hf (n0 5), zr_R hf (n0 6), zr_R hf (n0 7), zr_R hf (n0 8)]
    exact x1
  · intro i e he
    rw [zr_I hf (n20 2 i), zr_I hf (n20 3 i), zr_I hf (n20 4 i)]
    exact x4 i e he
  · intro i hi
    rw [zr_I hf (n20 5 i)]
    exact x5 i hi
  · intro h hh
    rw [zr_I hf (n20 6 h)]
    exact x6 h hh
theorem dj_now (h : dj_x M di P Q E) (hf : zf (fun t k j => t = 0 ∧ k = di ∧ 10 ≤ j) M M') : dj_x M' di P Q E := by
  have n : ∀ t k j, ¬ (t = 0 ∧ k = di ∧ 10 ≤ j) → zm_I M' t k j = zm_I M t k j := fun t k j w => hf.2.2.2.2.2.2 t k j w
  obtain ⟨x1, x2, x3, x4, x5, x6⟩ := h
  refine ⟨?_, by rw [n _ _ _ (by omega)]; exact x2, x3, ?_, ?_, ?_⟩
  · unfold di_l
    rw [hf.1, hf.2.1]
    exact x1
  · intro i e he
    rw [n _ _ _ (by omega), n _ _ _ (by omega), n _ _ _ (by omega)]
    exact x4 i e he
  · intro i hi
    rw [n _ _ _ (by omega)]
    exact x5 i hi
  · intro h hh
    rw [n _ _ _ (by omega)]
    exact x6 h hh
theorem cX_dd (h : cX M pa a1 P) (hf : zf (dd_W di) M M') (hq : a1 + 10 ≤ di) : cX M' pa a1 P := by
  refine cX_zf h hf ?_ ?_ ?_ ?_
  · rintro k j (⟨e, _⟩ | ⟨e, _⟩) <;> cases e
  · rintro k j (⟨e, _⟩ | ⟨e, _⟩) <;> cases e
  · rintro j _ (⟨e, _⟩ | ⟨e, _⟩) <;> cases e
  · rintro i j hi (⟨e, _⟩ | ⟨_, e, _⟩)
    · cases e
    · omega
theorem wl_dd (h : wk_l M wk) (hf : zf (dd_W di) M M') : wk_l M' wk := by
  unfold wk_l
  rw [hf.1, hf.2.1]
  exact h
theorem cl_stepFrom (hP : py_ok P) (hd : 3 ≤ d) (hX : cX M pa a1 P) (hw : wk_l M wk) (hq : a1 + 10 ≤ wk) {w : List Nat} (hw4 : w.length ≤ 4) {l : Nat} (hl : l < 26) : ∃ M', di_stepFrom d (some a1) (py_oc P (py_rs P w)) (nI l) (some wk) M = some (py_oc P (py_rs P (w ++ [l])), M') ∧ (∀ s, py_rs P (w ++ [l]) = some s → ∃ t, wk_x M' pa a1 P wk t ∧ wk_g P 900 t ∧ py_ce P t = py_ce P s) ∧ zr (wz_W wk) M M' := by
  obtain ⟨d, rfl⟩ : ∃ d', d = d' + 1 := ⟨d - 1, by omega⟩
  have eb : ∀ c, di_stepFrom (d + 1) (some a1) c (nI l) (some wk) M = di_stepFrom_b d (some a1) c (nI l) (some wk) M := fun c => rfl
  rw [eb, rs_snoc]
  unfold di_stepFrom_b di_stepFrom_29
  cases hs : py_rs P w with
  | none =>
    rw [if_pos (show py_oc P none = -1 from rfl)]
    exact ⟨M, rfl, fun s h => (by cases h), zr_refl _ _⟩
  | some s =>
    have gs := rs_g hP _ w s rfl hs
    rw [if_neg (show ¬ py_oc P (some s) = -1 from cod_ne hP gs.2.2.1 gs.2.2.2.1)]
    obtain ⟨M1, b1, b2, b3⟩ := cl_resume (d := d) hP (by omega) hX hw hq gs.2.2.1 gs.2.2.2.1
    have b1 : wk_resume d wk (some a1) (py_oc P (some s)) M = some M1 := b1
    have gc := wg_mono (wg_cut hP gs) (show w.length ≤ 4 by omega)
    obtain ⟨M2, c1, c2, c3, c4⟩ := cl_step (d := d) hP (by omega) b2 gc.1 gc.2.2.2 (by omega) hl
    have hfd : py_fd P (py_cut P s) l = py_fd P s l := sim_fd hP (sim_cut s) gs.2.2.2.1 l
    rw [hfd] at c1 c2 c3
    simp only [b1, Option.bind_some, c1]
    show ∃ M', _ = some (py_oc P (match py_fd P s l with
        | none => none
        | some W => some (py_go P s W)), M') ∧ (∀ s', (match py_fd P s l with
        | none => none
        | some W => some (py_go P s W)) = some s' → _) ∧ _
    cases hf : py_fd P s l with
    | none =>
      rw [if_pos (show zb (none : Option yW).isSome = 0 from rfl)]
      exact ⟨M2, rfl, fun s' h => (by cases h), zr_trans b3 c4⟩
    | some W =>
      rw [if_neg (show ¬ zb (some W).isSome = 0 by show ¬ zb true = 0; decide)]
      obtain ⟨x1, _⟩ := c3 W hf
      have hfc : py_fd P (py_cut P s) l = some W := by rw [hfd]; exact hf
      have gt := wg_go hP gc hfc
      have hWm : W ∈ py_ways P s.1 := by
        have h2 := hf
        rw [fd_avs] at h2
        exact (avs_lt hP gs.2.2.2.1 (List.mem_of_find?_eq_some h2)).2
      have hsim : py_sim P (py_go P s W) (py_go P (py_cut P s) W) := sim_go hP (sim_cut s) gs.2.2.2.1 hWm
      have ggo := wg_go hP gs hf
      have hst := cl_state (d := d) hP (by omega) x1 gt.2.1 gt.2.2.2 (by omega)
      rw [hst, Option.bind_some]
      have hcod : py_cod P (py_go P (py_cut P s) W) = py_cod P (py_go P s W) := sim_cod hP hsim ggo.2.1 gt.2.1 ggo.2.2.2.1
      refine ⟨M2, by rw [hcod]; rfl, ?_, zr_trans b3 c4⟩
      intro s' h'
      injection h' with h'
      subst h'
      exact ⟨_, x1, wg_mono gt (by omega), sim_ce hP hsim ggo.2.2.2.1⟩
theorem cl_advance (hP : py_ok P) (hQ : py_ok Q) (hd : 4 ≤ d) (h1 : a1 + 10 ≤ wk) (h2 : a2 + 10 ≤ wk) (hr : wk + 12 < di) (h : di_i M pa a1 P a2 Q wk di E) {p : Nat} {e : yJ} (he : E[p]? = some e) (he3 : e.2.2.length ≤ 3) {l : Nat} (hl : l < 26) : ∃ M', di_advance d di (some a1) (some a2) (nI p) (nI l) (some wk) M = some M' ∧ zm_I M' 0 di 10 = (py_ka P Q (e.2.2 ++ [l])).1 ∧ zm_I M' 0 di 11 = (py_ka P Q (e.2.2 ++ [l])).2 ∧ zm_I M' 0 di 12 = zb (py_dif P Q (e.2.2 ++ [l])) ∧ di_i M' pa a1 P a2 Q wk di E ∧ zr (dv_W wk di) M M' := by
  obtain ⟨d, rfl⟩ : ∃ d', d = d' + 1 := ⟨d - 1, by omega⟩
  obtain ⟨hX1, hX2, hw, hdj⟩ := h
  have hpl := (List.getElem?_eq_some_iff.mp he).1
  have h8738 := hdj.2.2.1
  have zp : z_in (nI p) 8738 := nI_in (by omega) (by omega)
  have eb : di_advance (d + 1) di (some a1) (some a2) (nI p) (nI l) (some wk) M = di_advance_b d di (some a1) (some a2) (nI p) (nI l) (some wk) M := rfl
  rw [eb]
  unfold di_advance_b
  obtain ⟨M1, b1, b2, b3⟩ := cl_stepFrom (d := d) hP (by omega) hX1 hw h1 (show e.2.2.length ≤ 4 by omega) hl
  have b1 : di_stepFrom d (some a1) (py_ka P Q e.2.2).1 (nI l) (some wk) M = some (py_oc P (py_rs P (e.2.2 ++ [l])), M1) := b1
  simp only [hdj.1.2.1.1, hdj.1.2.1.2, if_pos zp, nI_clamp (show p < 2 ^ 31 by omega), (hdj.2.2.2.1 p e he).1, b1, Option.bind_some, zlet, pm_same]
  have hdj1 := dj_wz hdj b3 hr
  have hX11 := cX_wz hX1 b3 h1
  have hX21 := cX_wz hX2 b3 h2
  have hw1 := wl_zr hw b3
  have fz : ∀ (M0 : zM) j v, 10 ≤ j → j ≤ 12 → zf (dd_W di) M0 (zm_setI M0 0 di j v) := fun M0 j v hj hj2 => zf_set (.inl ⟨rfl, rfl, .inr ⟨by omega, hj2⟩⟩)
  have F1 : zr (dv_W wk di) M M1 := zr_mono b3 (fun t k j w => .inl w)
  have fa : ∀ (M0 : zM) j v, 10 ≤ j → j ≤ 12 → zf (da_W di) M0 (zm_setI M0 0 di j v) := fun M0 j v hj hj2 => zf_set ⟨rfl, rfl, hj, hj2⟩
  have dM : ∀ {A B : zM}, zf (da_W di) A B → zr (dv_W wk di) A B := fun hf => zr_mono (zr_zf hf) (fun t k j w => .inr w)
  -- the second walk
  have part2 : ∀ (M2 : zM), zr (dv_W wk di) M M2 → di_i M2 pa a1 P a2 Q wk di E → zm_I M2 0 di 10 = py_oc P (py_rs P (e.2.2 ++ [l])) → ∃ M', di_advance_39 d di (some a2) (nI p) (nI l) (some wk) (zb (py_oe P (py_rs P (e.2.2 ++ [l])))) M2 = some M' ∧ zm_I M' 0 di 10 = (py_ka P Q (e.2.2 ++ [l])).1 ∧ zm_I M' 0 di 11 = (py_ka P Q (e.2.2 ++ [l])).2 ∧ zm_I M' 0 di 12 = zb (py_dif P Q (e.2.2 ++ [l])) ∧ di_i M' pa a1 P a2 Q wk di E ∧ zr (dv_W wk di) M M' := by
    intro M2 F2 i2 g10
    obtain ⟨hX12, hX22, hw2, hdj2⟩ := i2
    obtain ⟨M3, c1, c2, c3⟩ := cl_stepFrom (d := d) hQ (by omega) hX22 hw2 h2 (show e.2.2.length ≤ 4 by omega) hl
    have c1 : di_stepFrom d (some a2) (py_ka P Q e.2.2).2 (nI l) (some wk) M2 = some (py_oc Q (py_rs Q (e.2.2 ++ [l])), M3) := c1
    unfold di_advance_39
    simp only [hdj2.1.2.2.1.1, hdj2.1.2.2.1.2, if_pos zp, nI_clamp (show p < 2 ^ 31 by omega), (hdj2.2.2.2.1 p e he).2.1, c1, Option.bind_some, zlet, pm_same]
    have n0 : ∀ j, ¬ wz_W wk 0 di j := by rintro j (⟨e, _⟩ | ⟨e, _⟩) <;> cases e
    have i3 : di_i (zm_setI M3 0 di 11 (py_oc Q (py_rs Q (e.2.2 ++ [l])))) pa a1 P a2 Q wk di E := ⟨cX_dd (cX_wz hX12 c3 h1) (fz _ _ _ (by omega) (by omega)) (by omega), cX_dd (cX_wz hX22 c3 h2) (fz _ _ _ (by omega) (by omega)) (by omega), wl_dd (wl_zr hw2 c3) (fz _ 11 (py_oc Q (py_rs Q (e.2.2 ++ [l]))) (by omega) (by omega)), dj_now (dj_wz hdj2 c3 hr) (zf_set ⟨rfl, rfl, by omega⟩)⟩
    have F3 : zr (dv_W wk di) M (zm_setI M3 0 di 11 (py_oc Q (py_rs Q (e.2.2 ++ [l])))) := zr_trans F2 (zr_trans (zr_mono c3 (fun t k j w => .inl w)) (dM (fa _ _ _ (by omega) (by omega))))
    have g10' : zm_I (zm_setI M3 0 di 11 (py_oc Q (py_rs Q (e.2.2 ++ [l])))) 0 di 10 = py_oc P (py_rs P (e.2.2 ++ [l])) := by rw [pm_ne (by omega), zr_I c3 (n0 10)]; exact g10
    -- the end
    have last : ∀ (M4 : zM), zr (dv_W wk di) M M4 → di_i M4 pa a1 P a2 Q wk di E → zm_I M4 0 di 10 = py_oc P (py_rs P (e.2.2 ++ [l])) → zm_I M4 0 di 11 = py_oc Q (py_rs Q (e.2.2 ++ [l])) → ∃ M', di_advance_80 d di (zb (py_oe P (py_rs P (e.2.2 ++ [l])))) (zb (py_oe Q (py_rs Q (e.2.2 ++ [l])))) M4 = some M' ∧ zm_I M' 0 di 10 = (py_ka P Q (e.2.2 ++ [l])).1 ∧ zm_I M' 0 di 11 = (py_ka P Q (e.2.2 ++ [l])).2 ∧ zm_I M' 0 di 12 = zb (py_dif P Q (e.2.2 ++ [l])) ∧ di_i M' pa a1 P a2 Q wk di E ∧ zr (dv_W wk di) M M' := by
      intro M4 F4 i4 k10 k11
      obtain ⟨y1, y2, y3, y4⟩ := i4
      have hval : di_advance_80 d di (zb (py_oe P (py_rs P (e.2.2 ++ [l])))) (zb (py_oe Q (py_rs Q (e.2.2 ++ [l])))) M4 = some (zm_setI M4 0 di 12 (zb (py_dif P Q (e.2.2 ++ [l])))) := by
        have hdf : py_dif P Q (e.2.2 ++ [l]) = (py_oe P (py_rs P (e.2.2 ++ [l])) != py_oe Q (py_rs Q (e.2.2 ++ [l]))) := rfl
        rw [hdf]
        unfold di_advance_80 di_advance_95
        cases py_oe P (py_rs P (e.2.2 ++ [l])) <;> cases py_oe Q (py_rs Q (e.2.2 ++ [l])) <;> rfl
      refine ⟨_, hval, ?_, ?_, by rw [pm_same], ⟨cX_dd y1 (fz _ _ _ (by omega) (by omega)) (by omega), cX_dd y2 (fz _ _ _ (by omega) (by omega)) (by omega), wl_dd y3 (fz _ 12 (zb (py_dif P Q (e.2.2 ++ [l]))) (by omega) (by omega)), dj_now y4 (zf_set ⟨rfl, rfl, by omega⟩)⟩, zr_trans F4 (dM (fa _ _ _ (by omega) (by omega)))⟩
      · rw [pm_ne (by omega)]; exact k10
      · rw [pm_ne (by omega)]; exact k11
    unfold di_advance_79
    cases hrs : py_rs Q (e.2.2 ++ [l]) with
    | none =>
      rw [hrs] at i3 F3 g10' last
      rw [if_pos (show py_oc Q none = -1 from rfl)]
      exact last _ F3 i3 g10' (by rw [pm_same])
    | some s =>
      have gs := rs_g hQ _ _ s rfl hrs
      rw [hrs] at i3 F3 g10' last
      rw [if_neg (show ¬ py_oc Q (some s) = -1 from cod_ne hQ gs.2.2.1 gs.2.2.2.1)]
      obtain ⟨t, t1, t2, t3⟩ := c2 s hrs
      have t1' : wk_x (zm_setI M3 0 di 11 (py_oc Q (some s))) pa a2 Q wk t := by
        obtain ⟨u1, u2, u3, u4, u5, u6⟩ := t1
        have hz := fz M3 11 (py_oc Q (some s)) (by omega) (by omega)
        refine ⟨cX_dd u1 hz (by omega), wl_dd u2 hz, by rw [pm_RI]; exact u3, u4, by rw [pm_ne (by omega)]; exact u5, ?_⟩
        intro o ho
        obtain ⟨v1, v2⟩ := u6 o ho
        refine ⟨fun c hc hw => ?_, fun a ha hw => ?_⟩
        · rw [pm_ne (by omega)]; exact v1 c hc hw
        · rw [pm_ne (by omega)]; exact v2 a ha hw
      obtain ⟨M4, q1, q2, q3⟩ := cl_canEnd (d := d) hQ (by omega) t1' t2.1 t2.2.2.2 (by omega)
      simp only [q1, Option.bind_some]
      have q3' := zr_mono q3 wz_h
      obtain ⟨y1, y2, y3, y4⟩ := i3
      have i4 : di_i M4 pa a1 P a2 Q wk di E := ⟨cX_wz y1 q3' h1, cX_wz y2 q3' h2, wl_zr y3 q3', dj_wz y4 q3' hr⟩
      have hl2 := last M4 (zr_trans F3 (zr_mono q3' (fun t k j w => .inl w))) i4 (by rw [zr_I q3' (n0 10)]; exact g10') (by rw [zr_I q3' (n0 11), pm_same])
      have hoe : py_oe Q (some s) = py_ce Q t := t3.symm
      rw [hoe] at hl2
      cases hce : py_ce Q t with
      | false => rw [hce] at hl2; rw [if_pos (show zb false = 0 from rfl)]; exact hl2
      | true => rw [hce] at hl2; rw [if_neg (show ¬ zb true = 0 by decide)]; exact hl2
  have i1 : di_i (zm_setI M1 0 di 10 (py_oc P (py_rs P (e.2.2 ++ [l])))) pa a1 P a2 Q wk di E := ⟨cX_dd hX11 (fz _ _ _ (by omega) (by omega)) (by omega), cX_dd hX21 (fz _ _ _ (by omega) (by omega)) (by omega), wl_dd hw1 (fz _ 10 (py_oc P (py_rs P (e.2.2 ++ [l]))) (by omega) (by omega)), dj_now hdj1 (zf_set ⟨rfl, rfl, by omega⟩)⟩
  have F2 : zr (dv_W wk di) M (zm_setI M1 0 di 10 (py_oc P (py_rs P (e.2.2 ++ [l])))) := zr_trans F1 (dM (fa _ _ _ (by omega) (by omega)))
  have n0 : ∀ j, ¬ wz_W wk 0 di j := by rintro j (⟨e, _⟩ | ⟨e, _⟩) <;> cases e
  unfold di_advance_38
  cases hrs : py_rs P (e.2.2 ++ [l]) with
  | none =>
    rw [hrs] at i1 F2 part2
    rw [if_pos (show py_oc P none = -1 from rfl)]
    exact part2 _ F2 i1 (by rw [pm_same])
  | some s =>
    have gs := rs_g hP _ _ s rfl hrs
    rw [hrs] at i1 F2 part2
    rw [if_neg (show ¬ py_oc P (some s) = -1 from cod_ne hP gs.2.2.1 gs.2.2.2.1)]
    obtain ⟨t, t1, t2, t3⟩ := b2 s hrs
    have t1' : wk_x (zm_setI M1 0 di 10 (py_oc P (some s))) pa a1 P wk t := by
      obtain ⟨u1, u2, u3, u4, u5, u6⟩ := t1
      have hz := fz M1 10 (py_oc P (some s)) (by omega) (by omega)
      refine ⟨cX_dd u1 hz (by omega), wl_dd u2 hz, by rw [pm_RI]; exact u3, u4, by rw [pm_ne (by omega)]; exact u5, ?_⟩
      intro o ho
      obtain ⟨v1, v2⟩ := u6 o ho
      refine ⟨fun c hc hw => ?_, fun a ha hw => ?_⟩
      · rw [pm_ne (by omega)]; exact v1 c hc hw
      · rw [pm_ne (by omega)]; exact v2 a ha hw
    obtain ⟨M4, q1, q2, q3⟩ := cl_canEnd (d := d) hP (by omega) t1' t2.1 t2.2.2.2 (by omega)
    simp only [q1, Option.bind_some]
    have q3' := zr_mono q3 wz_h
    obtain ⟨y1, y2, y3, y4⟩ := i1
    have i4 : di_i M4 pa a1 P a2 Q wk di E := ⟨cX_wz y1 q3' h1, cX_wz y2 q3' h2, wl_zr y3 q3', dj_wz y4 q3' hr⟩
    have hl2 := part2 M4 (zr_trans F2 (zr_mono q3' (fun t k j w => .inl w))) i4 (by rw [zr_I q3' (n0 10), pm_same])
    have hoe : py_oe P (some s) = py_ce P t := t3.symm
    rw [hoe] at hl2
    cases hce : py_ce P t with
    | false => rw [hce] at hl2; rw [if_pos (show zb false = 0 from rfl)]; exact hl2
    | true => rw [hce] at hl2; rw [if_neg (show ¬ zb true = 0 by decide)]; exact hl2
end
