/-! THE CLASS: rules -/
def sw_W (ac t k j : Nat) : Prop := (t = 11 ∧ k = ac ∧ (j = 1 ∨ j = 2 ∨ j = 3)) ∨ (t = 4 ∧ k = ac + 228 ∧ (j = 0 ∨ j = 12))
section
variable {ac N0 S0 d : Nat} {M M' : zM} {S : yZ} {g : yG2}
theorem cl_rules (hI : cI ac N0 S0 M S g) (hz : zz_ok S) (hd : 82 ≤ d) (he : ∀ e, py_rls S.1 = .error e → e ≤ 400) : cf_r ac N0 S0 M (cr_rules d ac M) (sp_rls S).1 (sp_rls S).2 := by
  have hLF := zLF_402
  obtain ⟨d, rfl⟩ : ∃ d', d = d' + 1 := ⟨d - 1, by omega⟩
  have eb : cr_rules (d + 1) ac M = cr_rules_b d ac M := rfl
  rw [eb]
  obtain ⟨res, M1, pa', pn', k1, k2, k3, k4⟩ := cl_faultR (d := d) hI hz (by omega)
  obtain ⟨_, ⟨⟨oo0, _, oo3, _⟩, oo1⟩, _⟩ := hI
  unfold cr_rules_b
  simp only [oo0, oo1, oo3, k1, Option.bind_some]
  have hzr := zz_rls hz
  unfold sp_rls at hzr ⊢
  rcases k4 with ⟨e, h1, h2⟩ | ⟨x, h1, h2, hv⟩
  · have := he e h1
    rw [h1, h2, if_neg (pb_ne1 (by omega))]
    exact ⟨M1, _, rfl, k2, k3⟩
  rw [h2, if_pos rfl]
  rw [h1] at hzr ⊢
  dsimp only at hzr ⊢
  obtain ⟨us, N, X⟩ := x
  dsimp only at hzr hv h1 ⊢
  obtain ⟨hu8, hu1, hgs, hN4⟩ := py_rls_ok hz.1 h1
  dsimp only at hu8 hu1 hgs hN4
  have hdj : py_dj us N := dj_rls hz.1.1 h1
  obtain ⟨hg, ⟨⟨o0, o2, o3, o4, o5, o6, o7, o8, o9, o10, o11, o12, o13⟩, o1⟩, hT, ⟨hS, hcp, hdm⟩, ⟨hws, hcps⟩, ⟨hdx, hdh, hdy⟩, hdl, hL, hrd, hK, hn⟩ := k2
  obtain ⟨g1, g2, g3, g4, g5⟩ := hg
  dsimp only at g1 g2 g3 g4 g5 o2 o3 o4 o5 hS hcp hdm hws hcps hdx hdh hdl hn
  obtain ⟨bt, ebt⟩ : ∃ Y, Y = g.1.1 := ⟨_, rfl⟩
  obtain ⟨bs, ebs⟩ : ∃ Y, Y = g.1.2.1 := ⟨_, rfl⟩
  obtain ⟨e1, ee1⟩ : ∃ Y, Y = g.1.2.2.1 := ⟨_, rfl⟩
  obtain ⟨e2, ee2⟩ : ∃ Y, Y = g.1.2.2.2 := ⟨_, rfl⟩
  obtain ⟨pt, ept⟩ : ∃ Y, Y = g.2.1 := ⟨_, rfl⟩
  obtain ⟨pm, epm⟩ : ∃ Y, Y = g.2.2.1 := ⟨_, rfl⟩
  rw [← ebt, ← ebs] at g1
  rw [← ee1, ← ee2] at g2
  rw [← ept, ← epm] at g3 g5
  rw [← ebt] at o2
  rw [← ebs] at o3
  rw [← ee1] at o4
  rw [← ee2] at o5
  rw [← ebt, ← ept, ← epm] at hcp
  rw [← ebs] at hws hcps hv
  rw [← ee1] at hdx
  rw [← ee2] at hdl
  rw [← epm] at hn
  obtain ⟨M2, hM2⟩ : ∃ Y, Y = zm_setI (zm_setI (zm_setI (zm_setR (zm_setR M1 11 ac 2 (zm_R M1 11 ac 3)) 11 ac 3 (zm_R M1 11 ac 2)) 11 ac 1 0) 4 (ac + 228) 0 (-1)) 4 (ac + 228) 12 0 := ⟨_, rfl⟩
  have z2 : zr (sw_W ac) M1 M2 := by
    rw [hM2]
    exact zr_trans (zr_setR (.inl ⟨rfl, rfl, .inr (.inl rfl)⟩)) (zr_trans (zr_setR (.inl ⟨rfl, rfl, .inr (.inr rfl)⟩)) (zr_trans (zr_setI (.inl ⟨rfl, rfl, .inl rfl⟩)) (zr_trans (zr_setI (.inr ⟨rfl, rfl, .inl rfl⟩)) (zr_setI (.inr ⟨rfl, rfl, .inr rfl⟩)))))
  have sw : ∀ t k j, sw_W ac t k j → (k = ac ∨ k = ac + 228) ∧ ¬ cLc ac t k j := by
    intro t k j h
    unfold sw_W at h
    unfold cLc
    omega
  have nsw : ∀ t k j, k ≠ ac → k ≠ ac + 228 → ¬ sw_W ac t k j := by
    intro t k j a b h
    have := (sw t k j h).1
    omega
  have q2 : zm_R M2 11 ac 2 = some bs := by
    rw [hM2, pm_RI, pm_RI, pm_RI, pm_RR, if_neg (by omega), pm_RR, if_pos ⟨rfl, rfl, rfl⟩]
    exact o3
  have q3 : zm_R M2 11 ac 3 = some bt := by
    rw [hM2, pm_RI, pm_RI, pm_RI, pm_RR, if_pos ⟨rfl, rfl, rfl⟩]
    exact o2
  have oR2 : ∀ j, j ≠ 1 → j ≠ 2 → j ≠ 3 → zm_R M2 11 ac j = zm_R M1 11 ac j := fun j a b c => zr_R z2 (by unfold sw_W; omega)
  have ws2 : cw_rs M2 bs := rs_ag hws (ag_w z2 (fun t k j hw => by have := (sw t k j hw).1; omega))
  have cps2 : cp_x M2 bs pa' pn' := by
    refine cp_ag hcps (ag_zr z2 ?_)
    rintro t k j (hk | ⟨i, a1, a2⟩) hw
    · have := (sw _ _ _ hw).1; have := hk.1; have := hk.2; omega
    · have := (sw _ _ _ hw).1; have := g4 i a1; omega
  have hbn := hws.2.2.2
  have v2 : cv_x M2 bs pa' pn' us N X := by
    obtain ⟨v1, v2, v3, v4⟩ := hv
    refine ⟨v1, ?_, ?_, ?_⟩
    · intro n hn'
      exact cn_zh (v2 n hn') (zh_zr z2) (fun k hk => by have := (hcps.2.1 k (by omega)).2.1; omega) hn' (fun k j hk _ w => by have := (sw _ _ _ w).1; have := g4 k (by omega); omega)
    · rw [zr_I z2 (nsw _ _ _ (by omega) (by omega))]; exact v3
    · intro i u hiu
      have hi := (List.getElem?_eq_some_iff.mp hiu).1
      exact cu_zh (v4 i u hiu) (zh_zr z2) (by omega) (fun j _ w => by have := (sw _ _ _ w).1; omega) (fun k j _ _ => ⟨fun w => by have := (sw _ _ _ w).1; omega, fun w => by have := (sw _ _ _ w).1; omega⟩) ⟨rfl, fun _ _ _ => rfl, fun _ _ _ => rfl, fun _ _ _ => rfl⟩
  have L2 : cL_x M2 ac := cL_zr hL z2 (fun t k j hw => (sw t k j hw).2)
  have hNR : ∀ s, s < us.length → cN_x M2 pa' (py_uPs us X s) ∧ cR_x M2 pa' (bs + 2 + 10 * s) (py_uPs us X s) := by
    intro s hs
    obtain ⟨u, hu⟩ := gl_some (l := us) hs
    have e : py_uPs us X s = py_uP X u := by
      unfold py_uPs
      rw [hu]
    rw [e]
    exact cv_P ws2 v2 cps2 hgs (by omega) hu
  have hdm' : ∀ r, r < us.length → ∀ n, py_dm (py_uPs us X r) n → n < pn' ∧ ∀ r', r' < us.length → py_dm (py_uPs us X r') n → r' = r := by
    intro r hr n hn'
    obtain ⟨a1, a2⟩ := uPs_dj hdj hr hn'
    have := hv.1
    exact ⟨by omega, a2⟩
  have hPs : ∀ r, r < us.length → py_ok (py_uPs us X r) := hzr.2.2.1
  obtain ⟨M3, c1, c2, c3⟩ := cl_rules_53 (d := d) (ac := ac) (bs := bs) (pa := pa') (pn := pn') (R := us.length) (Ps := py_uPs us X) (by omega) hPs hu8 (by omega) (by omega) g4 hcps.2.2.2 hdm' us.length 0 M2 (by omega) q2 (by rw [oR2 _ (by omega) (by omega) (by omega)]; exact o6) (by rw [oR2 _ (by omega) (by omega) (by omega)]; exact o7) ws2 v2.2.2.1 L2.1 L2.2.1 hNR (fun s hs => by omega) zLF (by omega)
  have rw0 : ∀ t k j, rl_W ac bs us.length pa' (py_uPs us X) t k j → (bs ≤ k ∧ k < bs + 84) ∨ (ac + 191 ≤ k ∧ k < ac + 197) ∨ ((t = 3 ∨ t = 21) ∧ ∃ m, m < pn' ∧ (k = pa' m ∨ k = pa' m + 1)) := by
    rintro t k j ⟨s, hs, h⟩
    rcases anW_x h with ⟨m, hm, h⟩ | h | h | h
    · right; right
      have := (hdm' s hs m hm).1
      exact ⟨by omega, m, this, by omega⟩
    · omega
    · omega
    · omega
  have rwlo : ∀ t k j, rl_W ac bs us.length pa' (py_uPs us X) t k j → (bs ≤ k ∧ k < bs + 84) ∨ (ac + 191 ≤ k ∧ k < ac + 197) ∨ ac + 242 ≤ k := by
    intro t k j h
    rcases rw0 t k j h with h | h | ⟨_, m, hm, h⟩
    · omega
    · omega
    · have := g4 m hm; omega
  have z13 : zr (fun t k j => sw_W ac t k j ∨ rl_W ac bs us.length pa' (py_uPs us X) t k j) M1 M3 := zr_trans (zr_mono z2 (fun t k j h => .inl h)) (zr_mono (zr_zf c2) (fun t k j h => .inr h))
  have n13 : ∀ t k j, (sw_W ac t k j ∨ rl_W ac bs us.length pa' (py_uPs us X) t k j) → k = ac ∨ k = ac + 228 ∨ (bs ≤ k ∧ k < bs + 84) ∨ (ac + 191 ≤ k ∧ k < ac + 197) ∨ ac + 242 ≤ k := by
    rintro t k j (h | h)
    · have := (sw t k j h).1; omega
    · have := rwlo t k j h; omega
  have dx3 : do_x M3 e1 S.2.2.1 := dx_ag hdx (ag_w z13 (fun t k j hw => by have := n13 t k j hw; omega))
  have R3 : ∀ j, zm_R M3 11 ac j = zm_R M2 11 ac j := fun j => by rw [c2.1]
  have L3 : cL_x M3 ac := by
    unfold cL_x lp_x wy_l sl_l wt_l wk_l di_l
    rw [c2.1, c2.2.1]
    exact L2
  obtain ⟨M4, f1, f2, f3, f4⟩ := cl_forgetTold (d := d) (M := M3) (ac := ac) (bt := bs) (dc := e1) (pn := pn') (pa := pa') (R := us.length) (Ps := py_uPs us X) (D := S.2.2.1) (by omega) (by rw [R3]; exact q2) (by rw [R3, oR2 _ (by omega) (by omega) (by omega)]; exact o4) (by rw [R3, oR2 _ (by omega) (by omega) (by omega)]; exact o9) (by rw [R3, oR2 _ (by omega) (by omega) (by omega)]; exact o10) (by rw [R3, oR2 _ (by omega) (by omega) (by omega)]; exact o11) (by rw [R3, oR2 _ (by omega) (by omega) (by omega)]; exact o12) (by rw [R3, oR2 _ (by omega) (by omega) (by omega)]; exact o13) (by omega) (by omega) hz.2.2.2.2.1 hzr.2.2.2.1 hPs c3 (fun s hs n hn' => (hdm' s hs n hn').1) g4 L3.2.2.2.2.2.1 dx3
  have fw : ∀ t k j, fg_W ac e1 t k j → ((k = ac ∧ t = 11 ∧ j = 14) ∨ (ac + 211 ≤ k ∧ k < ac + 215 ∧ t = 10 ∧ j = 0) ∨ (ac + 215 ≤ k ∧ k < ac + 228) ∨ (k = ac + 228 ∧ t = 4 ∧ j = 12) ∨ (k = ac + 235 ∧ t = 0 ∧ (j = 2 ∨ j = 3)) ∨ (t = 20 ∧ e1 + 5 ≤ k ∧ k ≤ e1 + 8)) ∧ ¬ cLc ac t k j := by
    intro t k j h
    unfold fg_W dg_W wz_W at h
    unfold cLc
    omega
  have R4 : ∀ t k j, ¬ fg_W ac e1 t k j → zm_R M4 t k j = zm_R M2 t k j := fun t k j h => by rw [zr_R f2 h, c2.1]
  have I4 : ∀ t k j, ¬ fg_W ac e1 t k j → zm_I M4 t k j = zm_I M3 t k j := fun t k j h => zr_I f2 h
  have L4 : zm_L M4 = zm_L M1 := by rw [zr_L f2, zr_L z13]
  have N4 : zm_n M4 = zm_n M1 := by rw [zr_n f2, zr_n z13]
  have T4 : zm_s M4 = zm_s M1 := by rw [f2.2.2.2.2.1, z13.2.2.2.2.1]
  have A1 : cS_x M4 pa' bs us.length (py_uPs us X) := by
    refine cS_ag hPs (fun s hs n hn' => (hdm' s hs n hn').1) c3 (ag_zr f2 ?_)
    rintro t k j (hk | ⟨i, a1, a2⟩) hw
    · have := (fw _ _ _ hw).1; have := hk.1; have := hk.2; omega
    · have := (fw _ _ _ hw).1; have := g4 i a1; omega
  have A2 : cp_x M4 bs pa' pn' := by
    have h3 : cp_x M3 bs pa' pn' := by
      unfold cp_x
      rw [c2.1, c2.2.1, c2.2.2.2.2.1]
      exact cps2
    refine cp_ag h3 (ag_zr f2 ?_)
    rintro t k j (hk | ⟨i, a1, a2⟩) hw
    · have := (fw _ _ _ hw).1; have := hk.1; have := hk.2; omega
    · have := (fw _ _ _ hw).1; have := g4 i a1; omega
  have z14 : ag (fun k => rg bt (bt + 84) k ∨ nds pt pm k) M1 M4 := by
    refine ag_trans (ag_zr z13 ?_) (ag_zr f2 ?_)
    · rintro t k j (hk | ⟨i, a1, a2⟩) hw
      · have := n13 _ _ _ hw; have := hk.1; have := hk.2; omega
      · have b1 := g3 i a1
        rcases hw with hw | hw
        · have := (sw _ _ _ hw).1; omega
        · rcases rw0 _ _ _ hw with h | h | ⟨_, m, hm, h⟩
          · omega
          · omega
          · have := g5 i m a1 hm
            omega
    · rintro t k j (hk | ⟨i, a1, a2⟩) hw
      · have := (fw _ _ _ hw).1; have := hk.1; have := hk.2; omega
      · have := (fw _ _ _ hw).1; have := g3 i a1; omega
  have A3 : cw_rs M4 bt := rs_ag (ebt ▸ hS.1) (ag_mono z14 (fun k hk => .inl hk))
  have A4 : cp_x M4 bt pt pm := cp_ag hcp z14
  have A5 : do_x M4 e1 S.2.2.1 := by
    refine ⟨?_, by rw [I4 _ _ _ (fun hw => by have := (fw _ _ _ hw).1; omega)]; exact dx3.2.1, ?_⟩
    · refine ⟨fun i a b => ?_, ?_, by rw [L4]; exact hdx.1.2.2⟩
      · rw [zr_R f2 (fun hw => by have := (fw _ _ _ hw).1; omega), zr_L f2]
        exact dx3.1.1 i a b
      · rw [zr_R f2 (fun hw => by have := (fw _ _ _ hw).1; omega)]
        exact dx3.1.2.1
    · intro i x hx
      rw [I4 _ _ _ (fun hw => by have := (fw _ _ _ hw).1; omega), I4 _ _ _ (fun hw => by have := (fw _ _ _ hw).1; omega), I4 _ _ _ (fun hw => by have := (fw _ _ _ hw).1; omega), I4 _ _ _ (fun hw => by have := (fw _ _ _ hw).1; omega)]
      exact dx3.2.2 i x hx
  have A6 : do_l M4 e2 := by
    refine dl_ag (dl_ag hdl (ag_w z13 (fun t k j hw => by have := n13 t k j hw; omega))) (ag_w f2 ?_)
    intro t k j hw
    have := (fw _ _ _ hw).1
    omega
  have A7 : cL_x M4 ac := cL_zr L3 f2 (fun t k j hw => (fw t k j hw).2)
  have rl1 : re_l M1 (ac + 228) := by
    cases hq : S.2.2.2 with
    | none =>
      rw [hq] at hrd
      exact hrd.2
    | some x =>
      rw [hq] at hrd
      exact hrd.2.1.1
  have rR : ∀ j, zm_R M4 4 (ac + 228) j = zm_R M2 4 (ac + 228) j ∨ j = 12 := fun j => by
    by_cases q : j = 12
    · exact .inr q
    · exact .inl (R4 _ _ _ (fun hw => by have := (fw _ _ _ hw).1; omega))
  have rR' : ∀ j, j ≠ 0 → j ≠ 12 → zm_R M4 4 (ac + 228) j = zm_R M1 4 (ac + 228) j := fun j a b => by
    rw [R4 _ _ _ (fun hw => by have := (fw _ _ _ hw).1; omega), zr_R z2 (by unfold sw_W; omega)]
  have A8 : rd_c M4 (ac + 228) (py_uPs us X) none := by
    refine ⟨?_, ?_⟩
    · rw [I4 _ _ _ (fun hw => by have := (fw _ _ _ hw).1; omega), c2.2.2.2.2.2.2 _ _ _ (fun hw => by have := rwlo _ _ _ hw; omega), hM2, pm_ne (by omega), pm_same]
    · unfold re_l at rl1 ⊢
      rw [rR' _ (by omega) (by omega), rR' _ (by omega) (by omega), rR' _ (by omega) (by omega), rR' _ (by omega) (by omega), rR' _ (by omega) (by omega), rR' _ (by omega) (by omega), L4]
      exact rl1
  have eO : ∀ j, j ≠ 1 → j ≠ 2 → j ≠ 3 → j ≤ 13 → zm_R M4 11 ac j = zm_R M1 11 ac j := fun j a b c h => by
    rw [R4 _ _ _ (fun hw => by have := (fw _ _ _ hw).1; omega), oR2 j a b c]
  have q2' : zm_R M4 11 ac 2 = some bs := by rw [R4 _ _ _ (fun hw => by have := (fw _ _ _ hw).1; omega)]; exact q2
  have A9 : cO_x M4 ac bs bt e1 e2 ([] : List Nat).length := by
    refine ⟨⟨?_, q2', ?_, ?_, ?_, ?_, ?_, ?_, ?_, ?_, ?_, ?_, ?_⟩, ?_⟩
    · rw [eO _ (by omega) (by omega) (by omega) (by omega)]; exact o0
    · rw [R4 _ _ _ (fun hw => by have := (fw _ _ _ hw).1; omega)]; exact q3
    · rw [eO _ (by omega) (by omega) (by omega) (by omega)]; exact o4
    · rw [eO _ (by omega) (by omega) (by omega) (by omega)]; exact o5
    · rw [eO _ (by omega) (by omega) (by omega) (by omega)]; exact o6
    · rw [eO _ (by omega) (by omega) (by omega) (by omega)]; exact o7
    · rw [eO _ (by omega) (by omega) (by omega) (by omega)]; exact o8
    · rw [eO _ (by omega) (by omega) (by omega) (by omega)]; exact o9
    · rw [eO _ (by omega) (by omega) (by omega) (by omega)]; exact o10
    · rw [eO _ (by omega) (by omega) (by omega) (by omega)]; exact o11
    · rw [eO _ (by omega) (by omega) (by omega) (by omega)]; exact o12
    · rw [eO _ (by omega) (by omega) (by omega) (by omega)]; exact o13
    · rw [I4 _ _ _ (fun hw => by have := (fw _ _ _ hw).1; omega), c2.2.2.2.2.2.2 _ _ _ (fun hw => by have := rwlo _ _ _ hw; omega), hM2, pm_ne (by omega), pm_ne (by omega), pm_same]
      rfl
  have A10 : ct_x M4 ac [] := by
    refine ⟨by rw [L4]; exact hT.1, by rw [N4]; exact hT.2.1, ?_⟩
    intro i b hb
    simp at hb
  have p5 : ∀ i j, i < pn' → j < pm → pa' i ≠ pt j ∧ pa' i ≠ pt j + 1 ∧ pa' i + 1 ≠ pt j := by
    intro i j hi hj
    have := g5 j i hj hi
    omega
  refine ⟨M4, ((bs, bt, e1, e2), pa', pn', pt, pm), ?_, ⟨⟨by dsimp only; omega, g2, g4, g3, p5⟩, A9, A10, ⟨A1, A2, hdm'⟩, ⟨A3, A4⟩, ⟨A5, f3, hdy⟩, A6, A7, A8, ⟨.inl f4.1, .inl f4.2.1, .inl f4.2.2.1, .inl ⟨f4.2.2.2.1, f4.2.2.2.2.1⟩⟩, ?_⟩, zh_trans k3 (zh_trans (zh_mono (zh_zr z13) ?_) (zh_cC f2 (fun t k j hw => by have := (fw t k j hw).1; omega)))⟩
  · have o12' : zm_R (zm_setI (zm_setR (zm_setR M1 11 ac 2 (zm_R M1 11 ac 3)) 11 ac 3 (zm_R M1 11 ac 2)) 11 ac 1 0) 11 ac 12 = some (ac + 228) := by
      rw [pm_RI, pm_RR, if_neg (by omega), pm_RR, if_neg (by omega)]
      exact o12
    unfold re_forget
    simp only [zlet]
    rw [o12']
    simp only [Option.bind_some]
    rw [← hM2]
    have c1' : cr_rules_53 d zLF ac 0 M2 = _ := c1
    rw [c1', f1]
    simp only [Option.bind_some, q2', A1.2.1]
  · rw [N4, T4]
    dsimp only
    omega
  · intro t k j _ hw
    rcases hw with hw | hw
    · left; have := (sw t k j hw).1; omega
    · rcases rw0 t k j hw with h | h | ⟨h, _⟩
      · left; omega
      · left; omega
      · exact .inr h
end
