/-! THE CLASS's parser: the whole text -/
/-- rules as they stand in a set -/
def cv_x (M : zM) (b : Nat) (pa : Nat → Nat) (pn : Nat) (us : List yU) (N : Nat) (X : Nat → yX) : Prop := N ≤ pn ∧ (∀ n, n < N → cn_n M pa X N n) ∧ zm_I M 6 b 1 = nI us.length ∧ (∀ (i : Nat) (u : yU), us[i]? = some u → cu_x M pa (b + 2 + 10 * i) u)
section
variable {ac b pn d : Nat} {pa : Nat → Nat} {M : zM} {T : List Nat}
theorem cu_c6 {M' : zM} {Q : Nat} {u : yU} (h : cu_x M pa Q u) (hf : zf (c6_W b) M M') (hQ : Q + 10 ≤ zm_n M) : cu_x M' pa Q u := cu_zh h (zh_zf hf) hQ (fun j _ w => by unfold c6_W at w; omega) (fun k j _ _ => ⟨fun w => by unfold c6_W at w; omega, fun w => by unfold c6_W at w; omega⟩) ⟨rfl, fun _ _ _ => rfl, fun _ _ _ => rfl, fun _ _ _ => rfl⟩
theorem cl_sgn2 (hok : tp_ok T) {bs : List Nat} {p : Nat} (hw : cw_rs M b) (ht : ct_x M ac T) (hcp : cp_x M b pa pn) (h4 : zm_R M 6 b 4 = some (ac + 1)) (h5 : zm_I M 6 b 5 = nI T.length) (hab : ac + 1 < b) (hq : cq_p b M T bs p) : ∃ M', rs_sign d b M = some (py_ht (py_sk bs p).1, M') ∧ (cw_rs M' b ∧ ct_x M' ac T ∧ cp_x M' b pa pn ∧ zm_R M' 6 b 4 = some (ac + 1) ∧ zm_I M' 6 b 5 = nI T.length) ∧ cq_p b M' T (py_sk bs p).1 (py_sk bs p).2 ∧ zf (c6_W b) M M' ∧ (∀ x, x ∈ (py_sk bs p).1 → x < 256) := by
  have hLF := zLF_402
  have h400 := hok.1
  have hb := hw.2.2.2
  have hl : T.length = p + bs.length := by
    obtain ⟨a, ha, hl⟩ := hq.2
    rw [ha, ← hl]
    simp
  have key : ∀ (bs : List Nat) (p : Nat) (M : zM), zm_R M 6 b 4 = some (ac + 1) → zm_I M 6 b 5 = nI T.length → ct_x M ac T → cq_p b M T bs p → ∀ fuel, bs.length < fuel → ∃ M', rs_sign_0 d fuel b M = some (py_ht (py_sk bs p).1, M') ∧ cq_p b M' T (py_sk bs p).1 (py_sk bs p).2 ∧ zf (c6_W b) M M' := by
    intro bs
    induction bs with
    | nil =>
      intro p M h4 h5 ht hq fuel hf
      cases fuel with
      | zero => cases hf
      | succ fuel =>
        have hl : T.length = p := by
          obtain ⟨a, ha, hl⟩ := hq.2
          rw [ha, ← hl]
          simp
        have hle : nI T.length ≤ nI p := nI_le (by omega) (by omega)
        refine ⟨M, ?_, hq, zf_refl _ _⟩
        simp only [rs_sign_0, rs_sign_38, rs_sign_62, h5, hq.1, if_pos hle]
        rfl
    | cons c bs ih =>
      intro p M h4 h5 ht hq fuel hf
      cases fuel with
      | zero => cases hf
      | succ fuel =>
        obtain ⟨a, ha, hla⟩ := hq.2
        have hx : T[p]? = some c := by rw [ha, ← hla]; simp
        have hpl := (List.getElem?_eq_some_iff.mp hx).1
        have hc := ht.2.2 p c hx
        have hlt : ¬ nI T.length ≤ nI p := nI_ge (by omega) (by omega)
        have hz : z_in (nI p) 400 := nI_in (by omega) (by omega)
        have hc256 : c < 256 := (hok.2 c (by rw [ha]; simp)).2
        have e32 : (nI c = 32) ↔ c = 32 := nI_eq (b := 32) (by omega) (by omega)
        simp only [rs_sign_0, rs_sign_38, rs_sign_62, h5, hq.1, if_neg hlt, h4, ht.1, if_pos hz, nI_clamp (show p < 2 ^ 31 by omega), hc, e32, zlet, nI_1]
        unfold py_sk
        by_cases e : c = 32
        · rw [if_pos e, if_pos e]
          have hfz : zf (c6_W b) M (zm_setI M 6 b 6 (nI (p + 1))) := zf_set ⟨rfl, rfl, .inl rfl⟩
          obtain ⟨M', g1, g3, g4⟩ := ih (p + 1) _ (by rw [pm_RI]; exact h4) (by rw [pm_ne (by omega)]; exact h5) (ct_zh ht (zh_zf hfz) (fun j w => by unfold c6_W at w; omega)) ⟨pm_same, a ++ [c], by rw [ha]; simp, by simp [hla]⟩ fuel (by simp at hf; omega)
          exact ⟨M', g1, g3, zf_trans hfz g4⟩
        · rw [if_neg e, if_neg e]
          exact ⟨M, rfl, hq, zf_refl _ _⟩
  obtain ⟨M', g1, g2, g3⟩ := key bs p M h4 h5 ht hq zLF (by omega)
  refine ⟨M', g1, ⟨cw_rs_zh hw (zh_zf g3) (fun i j _ _ _ w => by unfold c6_W at w; omega) ⟨by unfold c6_W; omega, by unfold c6_W; omega⟩ (fun i _ w => by unfold c6_W at w; omega), ct_zh ht (zh_zf g3) (fun j w => by unfold c6_W at w; omega), cp_zh hcp (zh_zf g3) (by omega) (fun j w => by unfold c6_W at w; omega) (fun k w => by unfold c6_W at w; omega), ?_, ?_⟩, g2, g3, ?_⟩
  · rw [zh_R (zh_zf g3) (by omega) (by unfold c6_W; omega)]; exact h4
  · rw [zh_I (zh_zf g3) (by omega) (by unfold c6_W; omega)]; exact h5
  · intro x hx
    obtain ⟨a, ha, _⟩ := g2.2
    exact (hok.2 x (by rw [ha]; simp [hx])).2
theorem cl_parse_32 (hok : tp_ok T) (hd : 80 ≤ d) : ∀ (fuel : Nat) (us : List yU) (bs : List Nat) (p N : Nat) (X : Nat → yX) (M : zM) (pa : Nat → Nat) (pn f2 : Nat), cr_s ac b M T pa pn us bs p N X → us.length < 8 → 8 ≤ fuel + us.length → 9 ≤ f2 + us.length → N + bs.length ≤ 400 → gs_x us N X → ∃ res M' pa' pn', rs_parse_32 d f2 b (nI us.length) M = some (res, M') ∧ ce_x M pa pn M' pa' pn' ∧ zh (cg_W b pa' pn') M M' ∧ cw_rs M' b ∧ cp_x M' b pa' pn' ∧ ((∃ e, pp_rules fuel us bs p N X = .error e ∧ res = nI e) ∨ (∃ x, pp_rules fuel us bs p N X = .ok x ∧ res = -1 ∧ cv_x M' b pa' pn' x.1 x.2.1 x.2.2)) := by
  intro fuel
  induction fuel with
  | zero => intro us bs p N X M pa pn f2 _ h1 h2; omega
  | succ fuel ih =>
    intro us bs p N X M pa pn f2 hR h8 hf hf2 hN hg
    obtain ⟨f2, rfl⟩ : ∃ f, f2 = f + 1 := ⟨f2 - 1, by omega⟩
    obtain ⟨⟨hw, ht, hcp, h4, h5, hab⟩, hq, hn, h1, hu⟩ := hR
    have hb := hw.2.2.2
    have e8 : ((8 : Int32) ≤ nI us.length) ↔ 8 ≤ us.length := le_i2 (m := 8) (by omega) (by omega)
    have hz : z_in (nI us.length) 8 := nI_in (by omega) (by omega)
    rw [rs_parse_32, if_neg (fun h => by have := e8.mp h; omega)]
    simp only [hw.1.1, hw.1.2, if_pos hz, nI_clamp (show us.length < 2 ^ 31 by omega), (hw.2.2.1 us.length h8).1, zlet]
    have z1 : zh (fun t k j => t = 6 ∧ k = b ∧ j = 8) M (zm_setR M 6 b 8 (some (b + 2 + 10 * us.length))) := zh_setR ⟨rfl, rfl, rfl⟩
    have z1g : zh (cg_W b pa pn) M (zm_setR M 6 b 8 (some (b + 2 + 10 * us.length))) := zh_setR (.inr (.inl ⟨rfl, rfl, by decide, by decide⟩))
    have hw1 : cw_rs (zm_setR M 6 b 8 (some (b + 2 + 10 * us.length))) b := cw_rs_zh hw z1 (fun i j _ _ _ w => by omega) ⟨by omega, by omega⟩ (fun i _ w => by omega)
    have ht1 := ct_zh ht z1 (fun j w => by omega)
    have hcp1 := cp_zh hcp z1 (by omega) (fun j w => by omega) (fun k w => by omega)
    have h41 : zm_R (zm_setR M 6 b 8 (some (b + 2 + 10 * us.length))) 6 b 4 = some (ac + 1) := by rw [pr_ne (by omega)]; exact h4
    have h51 : zm_I (zm_setR M 6 b 8 (some (b + 2 + 10 * us.length))) 6 b 5 = nI T.length := by rw [pm_IR]; exact h5
    have hcb1 : cb_x ac b (zm_setR M 6 b 8 (some (b + 2 + 10 * us.length))) T us.length pa pn := ⟨hw1, ht1, hcp1, h41, h51, pr_same, hab, h8⟩
    have hn1 : cq_n b (zm_setR M 6 b 8 (some (b + 2 + 10 * us.length))) pa pn N X := by
      obtain ⟨a1, a2, a3⟩ := hn
      refine ⟨a1, by rw [pm_IR]; exact a2, ?_⟩
      intro n hn'
      exact cn_zh (a3 n hn') z1 (fun k hk => by have := (hcp.2.1 k (by omega)).2.1; omega) hn' (fun k j _ _ w => by omega)
    have hR1 : cr_s ac b (zm_setR M 6 b 8 (some (b + 2 + 10 * us.length))) T pa pn us bs p N X := ⟨⟨hw1, ht1, hcp1, h41, h51, hab⟩, ⟨by rw [pm_IR]; exact hq.1, hq.2⟩, hn1, by rw [pm_IR]; exact h1, fun i u hiu => cu_zh (hu i u hiu) z1 (by have := (List.getElem?_eq_some_iff.mp hiu).1; omega) (fun j _ w => by omega) (fun k j _ _ => ⟨fun w => by omega, fun w => by omega⟩) ⟨rfl, fun _ _ _ => rfl, fun _ _ _ => rfl, fun _ _ _ => rfl⟩⟩
    obtain ⟨res, M2, pa2, pn2, k1, k2, k3, k4, k5, k6⟩ := cl_parseRule (d := d) hok hd hR1 pr_same h8 hN hg
    rw [k1]
    simp only [Option.bind_some]
    have ce2 : ce_x M pa pn M2 pa2 pn2 := ce_trans (ce_set (by simp only [pm_nR]) (by simp only [pm_sR])) k2
    have zh2 : zh (cg_W b pa2 pn2) M M2 := zh_trans (zh_mono z1g (fun t k j _ w => cg_mono (ce_e k2) t k j w)) k3
    unfold pp_rules
    rcases k6 with ⟨e, m1, m2, m3⟩ | ⟨x, m1, m2, m3, m4, m5, m6, m7, m8, m9⟩
    · rw [m1, m2, if_pos rfl, m3]
      exact ⟨_, _, pa2, pn2, rfl, ce2, zh2, k4, k5, .inl ⟨e, rfl, rfl⟩⟩
    · rw [m1, m2, if_neg (show ¬ (1 : Int32) = 0 by decide), nI_1]
      dsimp only
      obtain ⟨p1, p2, p3, p4, p5, p6, p7, p8⟩ := pm_rule hN m1
      have hg2 := gs_add hg hN m1
      have hb2 := k4.2.2.2
      -- the size is written
      have z3 : zh (fun t k j => t = 6 ∧ k = b ∧ j = 1) M2 (zm_setI M2 6 b 1 (nI (us.length + 1))) := zh_setI ⟨rfl, rfl, rfl⟩
      have z3g : zh (cg_W b pa2 pn2) M2 (zm_setI M2 6 b 1 (nI (us.length + 1))) := zh_setI (.inr (.inl ⟨rfl, rfl, by decide, by decide⟩))
      have ce3 : ce_x M pa pn (zm_setI M2 6 b 1 (nI (us.length + 1))) pa2 pn2 := ce_trans ce2 (ce_set (by simp only [pm_nI]) (by simp only [pm_sI]))
      have hlen1 : (us ++ [x.1]).length = us.length + 1 := by simp
      have hw3 : cw_rs (zm_setI M2 6 b 1 (nI (us.length + 1))) b := cw_rs_zh k4 z3 (fun i j _ _ _ w => by omega) ⟨by omega, by omega⟩ (fun i _ w => by omega)
      have hcp3 := cp_zh k5 z3 (by omega) (fun j w => by omega) (fun k w => by omega)
      have ht3 := ct_zh m3 z3 (fun j w => by omega)
      have hn3 : cq_n b (zm_setI M2 6 b 1 (nI (us.length + 1))) pa2 pn2 x.2.2.2.1 x.2.2.2.2.1 := by
        obtain ⟨a1, a2, a3⟩ := m7
        refine ⟨a1, by rw [pm_ne (by omega)]; exact a2, ?_⟩
        intro n hn'
        exact cn_zh (a3 n hn') z3 (fun k hk => by have := (k5.2.1 k (by omega)).2.1; omega) hn' (fun k j _ _ w => by omega)
      have hu3 : ∀ (i : Nat) (u : yU), (us ++ [x.1])[i]? = some u → cu_x (zm_setI M2 6 b 1 (nI (us.length + 1))) pa2 (b + 2 + 10 * i) u := fun i u hiu => cu_zh (m9 i u hiu) z3 (by have := (List.getElem?_eq_some_iff.mp hiu).1; omega) (fun j _ w => by omega) (fun k j _ _ => ⟨fun w => by omega, fun w => by omega⟩) ⟨rfl, fun _ _ _ => rfl, fun _ _ _ => rfl, fun _ _ _ => rfl⟩
      have h83 : zm_R (zm_setI M2 6 b 1 (nI (us.length + 1))) 6 b 4 = some (ac + 1) := m4
      have hq3 : cq_p b (zm_setI M2 6 b 1 (nI (us.length + 1))) T x.2.1 x.2.2.1 := ⟨by rw [pm_ne (by omega)]; exact m6.1, m6.2⟩
      -- a set's place, whatever its rule is
      obtain ⟨M4, s1, s2, s3, s4, s5⟩ := cl_sgn2 (d := d) hok hw3 ht3 hcp3 h83 (show zm_I (zm_setI M2 6 b 1 (nI (us.length + 1))) 6 b 5 = nI T.length by rw [pm_ne (by omega)]; exact m5) hab hq3
      rw [s1]
      simp only [Option.bind_some]
      have ce4 : ce_x M pa pn M4 pa2 pn2 := ce_trans ce3 (c6_ce s4)
      have zh4 : zh (cg_W b pa2 pn2) M M4 := zh_trans (zh_trans zh2 z3g) (c6_cg s4)
      obtain ⟨⟨w1, w2, w3, w4, w5⟩, hq4⟩ : (cw_rs M4 b ∧ ct_x M4 ac T ∧ cp_x M4 b pa2 pn2 ∧ zm_R M4 6 b 4 = some (ac + 1) ∧ zm_I M4 6 b 5 = nI T.length) ∧ cq_p b M4 T (py_sk x.2.1 x.2.2.1).1 (py_sk x.2.1 x.2.2.1).2 := ⟨s2, s3⟩
      have h14 : zm_I M4 6 b 1 = nI (us.length + 1) := by
        rw [zh_I (zh_zf s4) (by show b < zm_n M2; omega) (by unfold c6_W; omega), pm_same]
      have hn4 : cq_n b M4 pa2 pn2 x.2.2.2.1 x.2.2.2.2.1 := by
        obtain ⟨a1, a2, a3⟩ := hn3
        refine ⟨a1, by rw [zh_I (zh_zf s4) (by show b < zm_n M2; omega) (by unfold c6_W; omega)]; exact a2, ?_⟩
        intro n hn'
        exact cn_zh (a3 n hn') (zh_zf s4) (fun k hk => by have := (hcp3.2.1 k (by omega)).2.1; omega) hn' (fun k j _ _ w => by unfold c6_W at w; omega)
      have hu4 : ∀ (i : Nat) (u : yU), (us ++ [x.1])[i]? = some u → cu_x M4 pa2 (b + 2 + 10 * i) u := fun i u hiu => cu_c6 (hu3 i u hiu) s4 (by have := (List.getElem?_eq_some_iff.mp hiu).1; show _ ≤ zm_n M2; omega)
      have hp4 : zm_I M4 6 b 6 = nI (py_sk x.2.1 x.2.2.1).2 := hq4.1
      have e59 : (py_ht (py_sk x.2.1 x.2.2.1).1 = 59) ↔ (py_sk x.2.1 x.2.2.1).1.head? = some 59 := ht_eq (c := 59) s5 (by omega)
      have e88 : (nI (us.length + 1) = 8) ↔ us.length + 1 = 8 := nI_eq (b := 8) (by omega) (by omega)
      simp only [ht_m1 s5, e59, h14, e88, rs_parse_97, hp4]
      have l0 := sk_len x.2.1 x.2.2.1
      by_cases c0 : (py_sk x.2.1 x.2.2.1).1 = []
      · rw [if_pos c0, if_neg (show ¬ ((py_sk x.2.1 x.2.2.1).1.head? = some 59 ∧ us.length + 1 < 8) by rw [c0]; simp), if_pos c0]
        exact ⟨_, _, pa2, pn2, rfl, ce4, zh4, w1, w3, .inr ⟨_, rfl, rfl, hn4.1, hn4.2.2, by rw [hlen1]; exact h14, hu4⟩⟩
      · rw [if_neg c0]
        by_cases c59 : (py_sk x.2.1 x.2.2.1).1.head? = some 59
        · rw [if_pos c59]
          by_cases ck8 : us.length + 1 = 8
          · rw [if_pos ck8, if_neg (show ¬ ((py_sk x.2.1 x.2.2.1).1.head? = some 59 ∧ us.length + 1 < 8) by omega), if_neg c0]
            exact ⟨_, _, pa2, pn2, rfl, ce4, zh4, w1, w3, .inl ⟨_, rfl, rfl⟩⟩
          · rw [if_neg ck8, if_pos (show (py_sk x.2.1 x.2.2.1).1.head? = some 59 ∧ us.length + 1 < 8 from ⟨c59, by omega⟩), nI_1]
            have l1 := tail_lt c59
            have z5 : zf (c6_W b) M4 (zm_setI M4 6 b 6 (nI ((py_sk x.2.1 x.2.2.1).2 + 1))) := zf_set ⟨rfl, rfl, .inl rfl⟩
            have hb4 := w1.2.2.2
            have hR5 : cr_s ac b (zm_setI M4 6 b 6 (nI ((py_sk x.2.1 x.2.2.1).2 + 1))) T pa2 pn2 (us ++ [x.1]) (py_sk x.2.1 x.2.2.1).1.tail ((py_sk x.2.1 x.2.2.1).2 + 1) x.2.2.2.1 x.2.2.2.2.1 := by
              refine ⟨⟨cw_rs_zh w1 (zh_zf z5) (fun i j _ _ _ w => by unfold c6_W at w; omega) ⟨by unfold c6_W; omega, by unfold c6_W; omega⟩ (fun i _ w => by unfold c6_W at w; omega), ct_zh w2 (zh_zf z5) (fun j w => by unfold c6_W at w; omega), cp_zh w3 (zh_zf z5) (by omega) (fun j w => by unfold c6_W at w; omega) (fun k w => by unfold c6_W at w; omega), w4, by rw [pm_ne (by omega)]; exact w5, hab⟩, ⟨pm_same, ?_⟩, ?_, by rw [pm_ne (by omega), hlen1]; exact h14, fun i u hiu => cu_c6 (hu4 i u hiu) z5 (by have := (List.getElem?_eq_some_iff.mp hiu).1; omega)⟩
              · obtain ⟨a, ha, hl⟩ := hq4.2
                cases e5 : (py_sk x.2.1 x.2.2.1).1 with
                | nil => exact absurd e5 c0
                | cons y r => exact ⟨a ++ [y], by rw [ha, e5]; simp, by simp [hl]⟩
              · obtain ⟨a1, a2, a3⟩ := hn4
                refine ⟨a1, by rw [pm_ne (by omega)]; exact a2, ?_⟩
                intro n hn'
                exact cn_zh (a3 n hn') (zh_zf z5) (fun k hk => by have := (w3.2.1 k (by omega)).2.1; omega) hn' (fun k j _ _ w => by unfold c6_W at w; omega)
            obtain ⟨res6, M6, pa6, pn6, o1, o2, o3, o4, o5, o6⟩ := ih (us ++ [x.1]) (py_sk x.2.1 x.2.2.1).1.tail ((py_sk x.2.1 x.2.2.1).2 + 1) x.2.2.2.1 x.2.2.2.2.1 _ pa2 pn2 f2 hR5 (by rw [hlen1]; omega) (by rw [hlen1]; omega) (by rw [hlen1]; omega) (by omega) hg2
            rw [hlen1] at o1
            exact ⟨res6, M6, pa6, pn6, o1, ce_trans ce4 (ce_trans (c6_ce z5) o2), zh_trans (zh_mono (zh_trans zh4 (c6_cg z5)) (fun t k j _ w => cg_mono (ce_e o2) t k j w)) o3, o4, o5, o6⟩
        · rw [if_neg c59, if_neg (show ¬ ((py_sk x.2.1 x.2.2.1).1.head? = some 59 ∧ us.length + 1 < 8) from fun h => c59 h.1), if_neg c0]
          exact ⟨_, _, pa2, pn2, rfl, ce4, zh4, w1, w3, .inl ⟨_, rfl, rfl⟩⟩
theorem cl_parse (hok : tp_ok T) (hd : 81 ≤ d) (hw : cw_rs M b) (ht : ct_x M ac T) (hcp : cp_x M b pa pn) (hab : ac + 1 < b) : ∃ res M' pa' pn', rs_parse d b (some (ac + 1)) (nI T.length) M = some (res, M') ∧ ce_x M pa pn M' pa' pn' ∧ zh (cg_W b pa' pn') M M' ∧ cw_rs M' b ∧ cp_x M' b pa' pn' ∧ ((∃ e, py_rls T = .error e ∧ res = nI e) ∨ (∃ x, py_rls T = .ok x ∧ res = -1 ∧ cv_x M' b pa' pn' x.1 x.2.1 x.2.2)) := by
  have hLF := zLF_402
  have h400 := hok.1
  obtain ⟨d, rfl⟩ : ∃ d', d = d' + 1 := ⟨d - 1, by omega⟩
  have eb : rs_parse (d + 1) b (some (ac + 1)) (nI T.length) M = rs_parse_b d b (some (ac + 1)) (nI T.length) M := rfl
  rw [eb]
  unfold rs_parse_b
  simp only [zlet]
  obtain ⟨M7, hM7⟩ : ∃ Y, Y = zm_setI (zm_setI (zm_setI (zm_setI (zm_setI (zm_setR M 6 b 4 (some (ac + 1))) 6 b 5 (nI T.length)) 6 b 6 0) 6 b 7 (-1)) 6 b 3 0) 6 b 1 0 := ⟨_, rfl⟩
  have z7 : zh (fun t k j => t = 6 ∧ k = b ∧ j ≠ 0 ∧ j ≠ 2) M M7 := by
    rw [hM7]
    exact zh_trans (zh_trans (zh_trans (zh_trans (zh_trans (zh_setR ⟨rfl, rfl, by decide, by decide⟩) (zh_setI ⟨rfl, rfl, by decide, by decide⟩)) (zh_setI ⟨rfl, rfl, by decide, by decide⟩)) (zh_setI ⟨rfl, rfl, by decide, by decide⟩)) (zh_setI ⟨rfl, rfl, by decide, by decide⟩)) (zh_setI ⟨rfl, rfl, by decide, by decide⟩)
  have n7 : ce_x M pa pn M7 pa pn := by
    rw [hM7]
    exact ce_set (by simp only [pm_nI, pm_nR]) (by simp only [pm_sI, pm_sR])
  rw [← hM7]
  have hb := hw.2.2.2
  have hR : cr_s ac b M7 T pa pn [] T 0 0 py_x0 := by
    refine ⟨⟨cw_rs_zh hw z7 (fun i j _ _ _ w => by omega) ⟨by omega, by omega⟩ (fun i _ w => by omega), ct_zh ht z7 (fun j w => by omega), cp_zh hcp z7 (by omega) (fun j w => by omega) (fun k w => by omega), ?_, ?_, hab⟩, ⟨?_, [], rfl, rfl⟩, ⟨Nat.zero_le _, ?_, fun n hn => by omega⟩, ?_, fun i u hu => by simp at hu⟩
    · rw [hM7]
      simp only [pm_RI]
      exact pr_same
    · rw [hM7, pm_ne (by omega), pm_ne (by omega), pm_ne (by omega), pm_ne (by omega), pm_same]
    · rw [hM7, pm_ne (by omega), pm_ne (by omega), pm_ne (by omega), pm_same]; rfl
    · rw [hM7, pm_ne (by omega), pm_same]; rfl
    · rw [hM7, pm_same]; rfl
  obtain ⟨res, M', pa', pn', g1, g2, g3, g4, g5, g6⟩ := cl_parse_32 (d := d) hok (by omega) 8 [] T 0 0 py_x0 M7 pa pn zLF hR (by simp) (by simp) (by simp; omega) (by omega) (fun i u hu => by simp at hu)
  have g1 : rs_parse_32 d zLF b 0 M7 = some (res, M') := g1
  exact ⟨res, M', pa', pn', g1, ce_trans n7 g2, zh_trans (zh_mono z7 (fun t k j _ w => .inr (.inl w))) g3, g4, g5, g6⟩
end
