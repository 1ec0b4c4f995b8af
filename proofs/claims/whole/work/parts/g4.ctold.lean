/-! THE CLASS: a rule told anew, in the class's state -/
def rw_W (Q t k _j : Nat) : Prop := t = 20 ∧ (k = Q + 1 ∨ k = Q + 5 ∨ k = Q + 6)
section
variable {ac N0 S0 d r : Nat} {M0 M M' : zM} {S : yZ} {g : yG2} {P' : yP}
theorem cl_toldAnew (hI : cI ac N0 S0 M0 S g) (hz : zz_ok S) (hd : 42 ≤ d) (hr : r < S.2.1.1) (hz' : zz_ok (yz_r S r P')) (hP' : py_ok P') (hdmP : ∀ n, py_dm P' n → py_dm (S.2.1.2 r) n) (hf : zf (rw_W (g.1.1 + 2 + 10 * r)) M0 M) (hN : cN_x M g.2.1 P') (hR : cR_x M g.2.1 (g.1.1 + 2 + 10 * r) P') : cf_r ac N0 S0 M0 (cr_toldAnew d ac (some (g.1.1 + 2 + 10 * r)) M) (zb (py_sure P')) (yz_r S r P') := by
  obtain ⟨d, rfl⟩ : ∃ d', d = d' + 1 := ⟨d - 1, by omega⟩
  have eb : cr_toldAnew (d + 1) ac (some (g.1.1 + 2 + 10 * r)) M = cr_toldAnew_b d ac (some (g.1.1 + 2 + 10 * r)) M := rfl
  rw [eb]
  have hI' := hI
  have h8 := hz.2.1
  obtain ⟨hg, ⟨⟨o0, o2, o3, o4, o5, o6, o7, o8, o9, o10, o11, o12, o13⟩, o1⟩, hT, ⟨hS, hcp, hdm⟩, ⟨hws, hcps⟩, ⟨hdx, hdh, hdy⟩, hdl, hL, hrd, ⟨hU, hC, hKS, hD⟩, hn⟩ := hI
  obtain ⟨g1, g2, g3, g4, g5⟩ := hg
  obtain ⟨Q, eQ⟩ : ∃ Y, Y = g.1.1 + 2 + 10 * r := ⟨_, rfl⟩
  rw [← eQ] at hf hR ⊢
  obtain ⟨M1, M2, a1, a2, aR, aL, X2, x14, x15, x16, a3⟩ := cl_anew (d := d) (ac := ac) hP' (by omega) (by omega) hN hR (by unfold lp_x; rw [hf.1, hf.2.1]; exact hL.1) (by unfold wy_l; rw [hf.1, hf.2.1]; exact hL.2.1)
  have z2 : zf (fun t k j => rw_W Q t k j ∨ an_W ac g.2.1 P' Q t k j) M0 M2 := zf_trans (zf_mono hf (fun t k j h => .inl h)) (zf_mono a3 (fun t k j h => .inr h))
  have ew : ∀ t k j, (rw_W Q t k j ∨ an_W ac g.2.1 P' Q t k j) → (∃ m, py_dm P' m ∧ ((t = 3 ∧ k = g.2.1 m) ∨ (t = 21 ∧ k = g.2.1 m + 1))) ∨ (t = 20 ∧ ((Q < k ∧ k < Q + 10) ∨ (ac + 191 ≤ k ∧ k < ac + 197))) ∨ (t = 9 ∧ k = ac + 192 ∧ 4 ≤ j) ∨ (t = 5 ∧ k = Q ∧ 14 ≤ j ∧ j ≤ 16) := by
    intro t k j h
    unfold rw_W an_W lr_W st_W wy_W at h
    rcases h with h | (⟨m, hm, _, h⟩ | h) | h
    · right; left; omega
    · unfold lw_W at h
      rcases h with h | h | h
      · exact .inl ⟨m, hm, .inl ⟨h.1, h.2.1⟩⟩
      · exact .inl ⟨m, hm, .inr ⟨h.1, h.2⟩⟩
      · right; left; omega
    · right; left; omega
    · right; omega
  have hpm : ∀ m, py_dm P' m → ac + 242 ≤ g.2.1 m := fun m hm => g3 m (hdm r hr m (hdmP m hm)).1
  have n0 : ∀ t k j, (rw_W Q t k j ∨ an_W ac g.2.1 P' Q t k j) → (Q ≤ k ∧ k < Q + 10) ∨ (ac + 191 ≤ k ∧ k < ac + 197) ∨ ac + 242 ≤ k := by
    intro t k j h
    rcases ew t k j h with ⟨m, hm, h⟩ | h | h | h
    · have := hpm m hm; omega
    · omega
    · omega
    · omega
  have eQs : ∀ s, py_u S.2.1.2 r P' s = if s = r then P' else S.2.1.2 s := fun s => rfl
  have hdm' : ∀ s, s < S.2.1.1 → ∀ n, py_dm (py_u S.2.1.2 r P' s) n → py_dm (S.2.1.2 s) n := by
    intro s hs n hn
    rw [eQs] at hn
    by_cases q : s = r
    · rw [if_pos q] at hn; rw [q]; exact hdmP n hn
    · rw [if_neg q] at hn; exact hn
  have S2 : cS_x M2 g.2.1 g.1.1 S.2.1.1 (py_u S.2.1.2 r P') := by
    refine ⟨?_, ?_, h8, ?_⟩
    · unfold cw_rs cw_ru
      rw [z2.1, z2.2.1, z2.2.2.2.2.1]
      exact hS.1
    · rw [z2.2.2.2.2.2.2 _ _ _ (fun hw => by
        rcases ew _ _ _ hw with ⟨m, hm, h⟩ | h | h | h <;> omega)]
      exact hS.2.1
    · intro s hs
      rw [eQs]
      by_cases q : s = r
      · rw [if_pos q, q, ← eQ]
        exact ⟨X2, x14, x15, x16⟩
      · rw [if_neg q]
        obtain ⟨b1, b2, b3, b4⟩ := hS.2.2.2 s hs
        have far : (g.1.1 + 2 + 10 * s + 10 ≤ Q ∨ Q + 10 ≤ g.1.1 + 2 + 10 * s) := by omega
        have e5 : ∀ j, zm_I M2 5 (g.1.1 + 2 + 10 * s) j = zm_I M0 5 (g.1.1 + 2 + 10 * s) j := fun j => z2.2.2.2.2.2.2 _ _ _ (fun hw => by
          rcases ew _ _ _ hw with ⟨m, hm, h⟩ | h | h | h <;> omega)
        have nm : ∀ n, py_dm (S.2.1.2 s) n → ∀ m, py_dm P' m → g.2.1 n ≠ g.2.1 m := by
          intro n hn m hm e
          have h1 := (hdm s hs n hn).1
          have h2 := hdm r hr m (hdmP m hm)
          have := hcp.2.2.2 n m h1 h2.1 e
          subst this
          exact q (h2.2 s hs hn)
        refine ⟨cX_gen (hz.2.2.1 s hs) b1 ?_ ?_ ?_ ?_ ?_ (by rw [z2.2.2.2.2.1]; exact Nat.le_refl _), by rw [e5]; exact b2, by rw [e5]; exact b3, by rw [e5]; exact b4⟩
        · intro n hn j
          refine ⟨z2.2.2.2.2.2.2 _ _ _ (fun hw => ?_), by rw [z2.1]⟩
          rcases ew _ _ _ hw with ⟨m, hm, h⟩ | h | h | h
          · have := nm n hn m hm; omega
          · omega
          · omega
          · omega
        · intro n hn
          refine ⟨fun j => z2.2.2.2.2.2.2 _ _ _ (fun hw => ?_), by rw [z2.2.1]⟩
          rcases ew _ _ _ hw with ⟨m, hm, h⟩ | h | h | h
          · have := nm n hn m hm; omega
          · omega
          · omega
          · omega
        · intro j _
          exact ⟨e5 j, by rw [z2.1]⟩
        · intro i hi
          refine ⟨fun j => z2.2.2.2.2.2.2 _ _ _ (fun hw => ?_), by rw [z2.2.1]⟩
          rcases ew _ _ _ hw with ⟨m, hm, h⟩ | h | h | h <;> omega
        · intro i hi
          exact ⟨fun j => by rw [z2.1], by rw [z2.2.1]⟩
  have dx2 : do_x M2 g.1.2.2.1 S.2.2.1 := dx_ag hdx (ag_w (zr_zf z2) (fun t k j hw => by have := n0 t k j hw; omega))
  obtain ⟨M3, f1, f2, f3, f4⟩ := cl_forgetTold (d := d) (M := M2) (ac := ac) (bt := g.1.1) (dc := g.1.2.2.1) (pn := g.2.2.1) (pa := g.2.1) (R := S.2.1.1) (Ps := py_u S.2.1.2 r P') (D := S.2.2.1) (by omega) (by rw [z2.1]; exact o2) (by rw [z2.1]; exact o4) (by rw [z2.1]; exact o9) (by rw [z2.1]; exact o10) (by rw [z2.1]; exact o11) (by rw [z2.1]; exact o12) (by rw [z2.1]; exact o13) (by omega) (by omega) hz.2.2.2.2.1 hz'.2.2.2.1 hz'.2.2.1 S2 (fun s hs n hn => (hdm s hs n (hdm' s hs n hn)).1) g3 (by unfold wk_l; rw [z2.1, z2.2.1]; exact hL.2.2.2.2.2.1) dx2
  have fw : ∀ t k j, fg_W ac g.1.2.2.1 t k j → ((k = ac ∧ t = 11 ∧ j = 14) ∨ (ac + 211 ≤ k ∧ k < ac + 215 ∧ t = 10 ∧ j = 0) ∨ (ac + 215 ≤ k ∧ k < ac + 228) ∨ (k = ac + 228 ∧ t = 4 ∧ j = 12) ∨ (k = ac + 235 ∧ t = 0 ∧ (j = 2 ∨ j = 3)) ∨ (t = 20 ∧ g.1.2.2.1 + 5 ≤ k ∧ k ≤ g.1.2.2.1 + 8)) ∧ ¬ cLc ac t k j := by
    intro t k j h
    unfold fg_W dg_W wz_W at h
    unfold cLc
    omega
  have R3 : ∀ t k j, ¬ fg_W ac g.1.2.2.1 t k j → zm_R M3 t k j = zm_R M0 t k j := fun t k j h => by rw [zr_R f2 h, z2.1]
  have I3 : ∀ t k j, ¬ fg_W ac g.1.2.2.1 t k j → zm_I M3 t k j = zm_I M2 t k j := fun t k j h => zr_I f2 h
  have I2 : ∀ t k j, ¬ ((Q ≤ k ∧ k < Q + 10) ∨ (ac + 191 ≤ k ∧ k < ac + 197) ∨ ac + 242 ≤ k) → zm_I M2 t k j = zm_I M0 t k j := fun t k j h => z2.2.2.2.2.2.2 _ _ _ (fun hw => h (n0 _ _ _ hw))
  have L3 : zm_L M3 = zm_L M0 := by rw [zr_L f2, z2.2.1]
  have N3 : zm_n M3 = zm_n M0 := by rw [zr_n f2, z2.2.2.2.2.1]
  have T3 : zm_s M3 = zm_s M0 := by rw [f2.2.2.2.2.1, z2.2.2.2.2.2.1]
  have nT : ∀ k, nds g.2.1 g.2.2.1 k → ac + 242 ≤ k := by
    intro k hk
    obtain ⟨i, h1, h2⟩ := hk
    have := g3 i h1
    omega
  have nS : ∀ k, nds g.2.2.2.1 g.2.2.2.2 k → ac + 242 ≤ k := by
    intro k hk
    obtain ⟨i, h1, h2⟩ := hk
    have := g4 i h1
    omega
  have cpz : ∀ {b' : Nat} {pa' : Nat → Nat} {pn' : Nat}, cp_x M0 b' pa' pn' → cp_x M2 b' pa' pn' := by
    intro b' pa' pn' h
    unfold cp_x
    rw [z2.1, z2.2.1, z2.2.2.2.2.1]
    exact h
  have A1 : cS_x M3 g.2.1 g.1.1 S.2.1.1 (py_u S.2.1.2 r P') := by
    refine cS_ag hz'.2.2.1 (fun s hs n hn => (hdm s hs n (hdm' s hs n hn)).1) S2 (ag_zr f2 ?_)
    rintro t k j (hk | hk) hw
    · have := (fw _ _ _ hw).1; have := hk.1; have := hk.2; omega
    · have := (fw _ _ _ hw).1; have := nT k hk; omega
  have A2 : cp_x M3 g.1.1 g.2.1 g.2.2.1 := by
    refine cp_ag (cpz hcp) (ag_zr f2 ?_)
    rintro t k j (hk | hk) hw
    · have := (fw _ _ _ hw).1; have := hk.1; have := hk.2; omega
    · have := (fw _ _ _ hw).1; have := nT k hk; omega
  have A3 : cw_rs M3 g.1.2.1 := by
    have h2 : cw_rs M2 g.1.2.1 := by
      unfold cw_rs cw_ru
      rw [z2.1, z2.2.1, z2.2.2.2.2.1]
      exact hws
    refine rs_ag h2 (ag_w f2 ?_)
    intro t k j hw
    have := (fw _ _ _ hw).1
    omega
  have A4 : cp_x M3 g.1.2.1 g.2.2.2.1 g.2.2.2.2 := by
    refine cp_ag (cpz hcps) (ag_zr f2 ?_)
    rintro t k j (hk | hk) hw
    · have := (fw _ _ _ hw).1; have := hk.1; have := hk.2; omega
    · have := (fw _ _ _ hw).1; have := nS k hk; omega
  have A5 : do_x M3 g.1.2.2.1 S.2.2.1 := by
    refine ⟨?_, by rw [I3 _ _ _ (fun hw => by have := (fw _ _ _ hw).1; omega)]; exact dx2.2.1, ?_⟩
    · refine ⟨fun i a b => ?_, ?_, by rw [L3]; exact hdx.1.2.2⟩
      · rw [R3 _ _ _ (fun hw => by have := (fw _ _ _ hw).1; omega), L3]
        exact hdx.1.1 i a b
      · rw [R3 _ _ _ (fun hw => by have := (fw _ _ _ hw).1; omega)]
        exact hdx.1.2.1
    · intro i x hx
      rw [I3 _ _ _ (fun hw => by have := (fw _ _ _ hw).1; omega), I3 _ _ _ (fun hw => by have := (fw _ _ _ hw).1; omega), I3 _ _ _ (fun hw => by have := (fw _ _ _ hw).1; omega), I3 _ _ _ (fun hw => by have := (fw _ _ _ hw).1; omega)]
      exact dx2.2.2 i x hx
  have A6 : do_l M3 g.1.2.2.2 := by
    refine ⟨fun i a b => ?_, ?_, by rw [L3]; exact hdl.2.2⟩
    · rw [R3 _ _ _ (fun hw => by have := (fw _ _ _ hw).1; omega), L3]
      exact hdl.1 i a b
    · rw [R3 _ _ _ (fun hw => by have := (fw _ _ _ hw).1; omega)]
      exact hdl.2.1
  have A7 : cL_x M3 ac := by
    have h2 : cL_x M2 ac := by
      unfold cL_x lp_x wy_l sl_l wt_l wk_l di_l
      rw [z2.1, z2.2.1]
      exact hL
    exact cL_zr h2 f2 (fun t k j hw => (fw t k j hw).2)
  have e4 : ∀ j, j ≠ 12 → zm_I M3 4 (ac + 228) j = zm_I M0 4 (ac + 228) j := fun j hj => by rw [I3 _ _ _ (fun hw => by have := (fw _ _ _ hw).1; omega), I2 _ _ _ (by omega)]
  have e20 : ∀ i j, 1 ≤ i → i ≤ 6 → zm_I M3 20 (ac + 228 + i) j = zm_I M0 20 (ac + 228 + i) j := fun i j h1 h2 => by rw [I3 _ _ _ (fun hw => by have := (fw _ _ _ hw).1; omega), I2 _ _ _ (by omega)]
  have rl : re_l M0 (ac + 228) → re_l M3 (ac + 228) := by
    intro w1
    unfold re_l at w1 ⊢
    rw [R3 _ _ _ (fun hw => by have := (fw _ _ _ hw).1; omega), R3 _ _ _ (fun hw => by have := (fw _ _ _ hw).1; omega), R3 _ _ _ (fun hw => by have := (fw _ _ _ hw).1; omega), R3 _ _ _ (fun hw => by have := (fw _ _ _ hw).1; omega), R3 _ _ _ (fun hw => by have := (fw _ _ _ hw).1; omega), R3 _ _ _ (fun hw => by have := (fw _ _ _ hw).1; omega), L3]
    exact w1
  have A8 : rd_c M3 (ac + 228) (py_u S.2.1.2 r P') S.2.2.2 := by
    cases hq : S.2.2.2 with
    | none =>
      rw [hq] at hrd
      exact ⟨by rw [e4 _ (by omega)]; exact hrd.1, rl hrd.2⟩
    | some x =>
      rw [hq] at hrd
      obtain ⟨v0, ⟨w1, w2, w3, w4, w5⟩, ⟨v3, v4, v8, v10⟩, v11, v12, vm, v26⟩ := hrd
      refine ⟨by rw [e4 _ (by omega)]; exact v0, ⟨rl w1, by rw [e4 _ (by omega)]; exact w2, by rw [e4 _ (by omega)]; exact w3, ?_, ?_⟩, ⟨by rw [e4 _ (by omega)]; exact v3, by rw [e4 _ (by omega)]; exact v4, by rw [e4 _ (by omega)]; exact v8, by rw [e4 _ (by omega)]; exact v10⟩, ?_, ?_, .inl f4.2.2.2.2.2, v26⟩
      · intro i b hb
        rw [e20 1 _ (by omega) (by omega)]
        exact w4 i b hb
      · intro i b hb
        rw [e20 2 _ (by omega) (by omega), e20 3 _ (by omega) (by omega)]
        exact w5 i b hb
      · intro c hc
        rw [e20 4 _ (by omega) (by omega)]
        exact v11 c hc
      · intro c hc
        rw [e20 5 _ (by omega) (by omega)]
        exact v12 c hc
  have eO : ∀ j, j ≤ 13 → zm_R M3 11 ac j = zm_R M0 11 ac j := fun j hj => R3 _ _ _ (fun hw => by have := (fw _ _ _ hw).1; omega)
  have A9 : cO_x M3 ac g.1.1 g.1.2.1 g.1.2.2.1 g.1.2.2.2 S.1.length := by
    refine ⟨⟨?_, ?_, ?_, ?_, ?_, ?_, ?_, ?_, ?_, ?_, ?_, ?_, ?_⟩, ?_⟩
    · rw [eO _ (by omega)]; exact o0
    · rw [eO _ (by omega)]; exact o2
    · rw [eO _ (by omega)]; exact o3
    · rw [eO _ (by omega)]; exact o4
    · rw [eO _ (by omega)]; exact o5
    · rw [eO _ (by omega)]; exact o6
    · rw [eO _ (by omega)]; exact o7
    · rw [eO _ (by omega)]; exact o8
    · rw [eO _ (by omega)]; exact o9
    · rw [eO _ (by omega)]; exact o10
    · rw [eO _ (by omega)]; exact o11
    · rw [eO _ (by omega)]; exact o12
    · rw [eO _ (by omega)]; exact o13
    · rw [I3 _ _ _ (fun hw => by have := (fw _ _ _ hw).1; omega), I2 _ _ _ (by omega)]
      exact o1
  have A10 : ct_x M3 ac S.1 := by
    refine ⟨by rw [L3]; exact hT.1, by rw [N3]; exact hT.2.1, ?_⟩
    intro i b hb
    rw [I3 _ _ _ (fun hw => by have := (fw _ _ _ hw).1; omega), I2 _ _ _ (by omega)]
    exact hT.2.2 i b hb
  have A11 : ∀ s, s < S.2.1.1 → ∀ n, py_dm (py_u S.2.1.2 r P' s) n → n < g.2.2.1 ∧ ∀ r', r' < S.2.1.1 → py_dm (py_u S.2.1.2 r P' r') n → r' = s := fun s hs n hn => ⟨(hdm s hs n (hdm' s hs n hn)).1, fun r' hr' hn' => (hdm s hs n (hdm' s hs n hn)).2 r' hr' (hdm' r' hr' n hn')⟩
  refine ⟨M3, g, ?_, ⟨⟨g1, g2, g3, g4, g5⟩, A9, A10, ⟨A1, A2, A11⟩, ⟨A3, A4⟩, ⟨A5, f3, hdy⟩, A6, A7, A8, ⟨.inl f4.1, .inl f4.2.1, .inl f4.2.2.1, .inl ⟨f4.2.2.2.1, f4.2.2.2.2.1⟩⟩, by rw [N3, T3]; exact hn⟩, zh_trans (zh_mono (zh_zf z2) ?_) (zh_cC f2 (fun t k j hw => by have := (fw t k j hw).1; omega))⟩
  · unfold cr_toldAnew_b
    simp only [hf.1, aR, o6, o7, a1, a2, f1, Option.bind_some]
    rw [I3 _ _ _ (fun hw => by have := (fw _ _ _ hw).1; omega), x16, cr_bit_zb]
    rfl
  · intro t k j _ hw
    rcases ew t k j hw with ⟨m, hm, h⟩ | h | h | h
    · rcases h with h | h
      · exact .inr (.inl h.1)
      · exact .inr (.inr h.1)
    · left; omega
    · left; omega
    · left; omega
end
