/-! THE CLASS: message, document, fault of a document -/
section
variable {ac N0 S0 d R : Nat} {M M' : zM} {S : yZ} {g : yG2} {W : Nat → Nat → Nat → Prop}
/-- only the documents, the walk and the tape's size have changed -/
theorem cI_dc {e1 e2 : Nat} {T' : List Nat} {D' : List yT} (hI : cI ac N0 S0 M S g) (hz : zz_ok S) (hf : zr W M M') (hW : ∀ t k j, W t k j → (ac + 170 ≤ k ∧ k < ac + 190) ∨ (ac + 215 ≤ k ∧ k < ac + 228 ∧ ¬ cLc ac t k j) ∨ (t = 11 ∧ k = ac ∧ (j = 1 ∨ j = 4 ∨ j = 5))) (hgd : (e1 = ac + 170 ∧ e2 = ac + 180) ∨ (e1 = ac + 180 ∧ e2 = ac + 170)) (h1 : zm_I M' 11 ac 1 = nI T'.length) (hT : ct_x M' ac T') (h4 : zm_R M' 11 ac 4 = some e1) (h5 : zm_R M' 11 ac 5 = some e2) (hdx : do_x M' e1 D') (hdh : do_h M' e1 S.2.1.1 S.2.1.2 D') (hdy : dy_ok D') (hdl : do_l M' e2) : cI ac N0 S0 M' (T', S.2.1, D', S.2.2.2) ((g.1.1, g.1.2.1, e1, e2), g.2) ∧ zh (cC_W ac) M M' := by
  obtain ⟨hg, hO, _, ⟨hS, hcp, hdm⟩, ⟨hws, hcps⟩, _, _, hL, hrd, ⟨hU, hC, hS', hD⟩, hn⟩ := hI
  obtain ⟨g1, g2, g3, g4, g5⟩ := hg
  have hc : ∀ t k j, W t k j → ¬ cLc ac t k j := by
    intro t k j hw hc
    have := hW t k j hw
    have hc' := hc
    unfold cLc at hc'
    rcases this with h | h | h
    · omega
    · exact h.2.2 hc
    · omega
  have hW' : ∀ t k j, W t k j → (ac + 170 ≤ k ∧ k < ac + 190) ∨ (ac + 215 ≤ k ∧ k < ac + 228) ∨ (t = 11 ∧ k = ac ∧ (j = 1 ∨ j = 4 ∨ j = 5)) := by
    intro t k j hw
    rcases hW t k j hw with h | h | h
    · exact .inl h
    · exact .inr (.inl ⟨h.1, h.2.1⟩)
    · exact .inr (.inr h)
  have fa : ag (fun k => (ac + 2 ≤ k ∧ k < ac + 170) ∨ (ac + 190 ≤ k ∧ k < ac + 215) ∨ ac + 228 ≤ k) M M' := ag_zr hf (fun t k j hk hw => by have := hW' t k j hw; omega)
  have nT : ∀ k, nds g.2.1 g.2.2.1 k → ac + 242 ≤ k := by
    intro k hk
    obtain ⟨i, h1, h2⟩ := hk
    have := g3 i h1
    omega
  have nS : ∀ k, nds g.2.2.2.1 g.2.2.2.2 k → ac + 242 ≤ k := by
    intro k hk
    obtain ⟨i, h1, h2⟩ := hk
    have := g4 i h1
    omega
  have aw : ∀ a b, (∀ k, a ≤ k → k < b → (ac + 2 ≤ k ∧ k < ac + 170) ∨ (ac + 190 ≤ k ∧ k < ac + 215) ∨ ac + 228 ≤ k) → ag (rg a b) M M' := fun a b h => ag_mono fa (fun k hk => h k hk.1 hk.2)
  have A1 : cS_x M' g.2.1 g.1.1 S.2.1.1 S.2.1.2 := by
    refine cS_ag hz.2.2.1 (fun r hr n hn => (hdm r hr n hn).1) hS (ag_mono fa ?_)
    rintro k (hk | hk)
    · have := hk.1; have := hk.2; show _ ∨ _; omega
    · have := nT k hk; show _ ∨ _; omega
  have A2 : cp_x M' g.1.1 g.2.1 g.2.2.1 := by
    refine cp_ag hcp (ag_mono fa ?_)
    rintro k (hk | hk)
    · have := hk.1; have := hk.2; show _ ∨ _; omega
    · have := nT k hk; show _ ∨ _; omega
  have A3 : cw_rs M' g.1.2.1 := by
    refine rs_ag hws (ag_mono fa ?_)
    intro k hk
    have := hk.1; have := hk.2; show _ ∨ _; omega
  have A4 : cp_x M' g.1.2.1 g.2.2.2.1 g.2.2.2.2 := by
    refine cp_ag hcps (ag_mono fa ?_)
    rintro k (hk | hk)
    · have := hk.1; have := hk.2; show _ ∨ _; omega
    · have := nS k hk; show _ ∨ _; omega
  have A5 : ac + 242 ≤ zm_n M' ∧ zm_n M' = N0 + 2 * (g.2.2.1 + g.2.2.2.2) ∧ zm_s M' = S0 + 21 * (g.2.2.1 + g.2.2.2.2) := by
    rw [zr_n hf, hf.2.2.2.2.1]
    exact hn
  have A6 : cO_x M' ac g.1.1 g.1.2.1 e1 e2 T'.length := by
    obtain ⟨⟨o0, o2, o3, o4, o5, o6, o7, o8, o9, o10, o11, o12, o13⟩, o1⟩ := hO
    have eq : ∀ j, j ≠ 1 → j ≠ 4 → j ≠ 5 → zm_R M' 11 ac j = zm_R M 11 ac j := fun j a b c => zr_R hf (fun hw => by have := hW' _ _ _ hw; omega)
    refine ⟨⟨?_, ?_, ?_, h4, h5, ?_, ?_, ?_, ?_, ?_, ?_, ?_, ?_⟩, h1⟩ <;> rw [eq _ (by omega) (by omega) (by omega)] <;> assumption
  exact ⟨⟨⟨g1, hgd, g3, g4, g5⟩, A6, hT, ⟨A1, A2, hdm⟩, ⟨A3, A4⟩, ⟨hdx, hdh, hdy⟩, hdl, cL_zr hL hf hc, rdc_ag hrd (aw _ _ (by intro k h1 h2; omega)), ⟨kU_ag hU (aw _ _ (by intro k h1 h2; omega)), kC_ag hC (aw _ _ (by intro k h1 h2; omega)), kS_ag hS' (zr_I hf (fun hw => by have := hW' _ _ _ hw; omega)) (aw _ _ (by intro k h1 h2; omega)), kD_ag hD (aw _ _ (by intro k h1 h2; omega))⟩, A5⟩, zh_cC hf (fun t k j hw => by have := hW' t k j hw; omega)⟩
theorem he_3 {R : Nat} {Ps : Nat → yP} {D : List yT} {t x : Nat} : (py_he R Ps D t x).1 < 3 := by
  unfold py_he
  split
  · split
    · show 1 < 3; omega
    · exact Nat.succ_pos 2
  · split
    · split
      · show 1 < 3; omega
      · exact Nat.succ_pos 2
    · exact Nat.lt_succ_self 2
theorem cl_message (hI : cI ac N0 S0 M S g) (hz : zz_ok S) (hd : 4 ≤ d) (t k : Int32) : cf_r ac N0 S0 M (cr_message d ac t k M) (sp_mes S t k) S := by
  obtain ⟨d, rfl⟩ : ∃ d', d = d' + 1 := ⟨d - 1, by omega⟩
  have eb : cr_message (d + 1) ac t k M = cr_message_b d ac t k M := rfl
  rw [eb]
  have hI' := hI
  obtain ⟨hg, ⟨⟨o0, o2, o3, o4, o5, o6, o7, o8, o9, o10, o11, o12, o13⟩, o1⟩, hT, _, _, ⟨hdx, hdh, hdy⟩, hdl, _⟩ := hI
  have hgd := hg.2.1
  have h60 : S.2.2.1.length ≤ 60 := hz.2.2.2.2.1.1
  unfold cr_message_b sp_mes
  simp only [o4, hdx.2.1, cr_message_27]
  rcases zin_c (show S.2.2.1.length < 2 ^ 31 by omega) t with ⟨hzi, h | ⟨h1, h2, h3⟩⟩ | ⟨i, hi, e, hzi, h1, h2, h3⟩
  · rw [if_pos h, hzi]; exact cf_same hI' rfl
  · rw [if_neg h1, if_pos h2, hzi]; exact cf_same hI' rfl
  · have hgx : S.2.2.1[i]? = some S.2.2.1[i] := by simp
    obtain ⟨b1, b2, b3, b4⟩ := hdh _ _ hgx
    have hzk : z_in t 60 := by rw [e]; exact nI_in (by omega) (by omega)
    have l5 := hdx.1.1 5 (by omega) (by omega)
    rw [if_neg h1, if_neg h2, hzi]
    simp only [l5.1, l5.2, if_pos hzk, hgx]
    rw [e, nI_clamp (by omega), b1]
    have c0 : (nI (py_he S.2.1.1 S.2.1.2 S.2.2.1 i S.2.2.1[i].1).1 = 0) ↔ (py_he S.2.1.1 S.2.1.2 S.2.2.1 i S.2.2.1[i].1).1 = 0 := nI_eq (b := 0) (by have := he_3 (R := S.2.1.1) (Ps := S.2.1.2) (D := S.2.2.1) (t := i) (x := S.2.2.1[i].1); omega) (by omega)
    by_cases q : (py_he S.2.1.1 S.2.1.2 S.2.2.1 i S.2.2.1[i].1).1 = 0
    · rw [if_pos (c0.mpr q), if_pos q]
      obtain ⟨pl, hp1, hp2⟩ := he_0 hz.2.2.2.2.1 hgx q
      have hlen := he_len (R := S.2.1.1) (Ps := S.2.1.2) (D := S.2.2.1) (t := i) (x := S.2.2.1[i].1) hz.2.2.1
      rw [hp1] at b2 ⊢
      obtain ⟨M1, k1, k2, k3⟩ := cl_tell (d := d) (dc := g.1.2.2.1) (by omega) hz.2.2.2.2.1 hdy hi hp2 hdx b2 b3 b4 (by omega)
      have ew : ∀ t k j, dw_W g.1.2.2.1 t k j → (t = 1 ∧ k = g.1.2.2.1 ∧ j = 10) ∨ (t = 20 ∧ k = g.1.2.2.1 + 9) := fun t k j h => h
      have ek : ∀ j, zm_I M1 11 ac j = zm_I M 11 ac j := fun j => k3.2.2.2.2.2.2 _ _ _ (fun hw => by have := ew _ _ _ hw; omega)
      have dx1 : do_x M1 g.1.2.2.1 S.2.2.1 := by
        refine ⟨?_, by rw [k3.2.2.2.2.2.2 _ _ _ (fun hw => by have := ew _ _ _ hw; omega)]; exact hdx.2.1, ?_⟩
        · unfold do_l
          rw [k3.1, k3.2.1]
          exact hdx.1
        · intro i x hx
          rw [k3.2.2.2.2.2.2 _ _ _ (fun hw => by have := ew _ _ _ hw; omega), k3.2.2.2.2.2.2 _ _ _ (fun hw => by have := ew _ _ _ hw; omega), k3.2.2.2.2.2.2 _ _ _ (fun hw => by have := ew _ _ _ hw; omega), k3.2.2.2.2.2.2 _ _ _ (fun hw => by have := ew _ _ _ hw; omega)]
          exact hdx.2.2 i x hx
      have dh1 : do_h M1 g.1.2.2.1 S.2.1.1 S.2.1.2 S.2.2.1 := by
        intro i x hx
        unfold do_e
        rw [k3.2.2.2.2.2.2 _ _ _ (fun hw => by have := ew _ _ _ hw; omega), k3.2.2.2.2.2.2 _ _ _ (fun hw => by have := ew _ _ _ hw; omega), k3.2.2.2.2.2.2 _ _ _ (fun hw => by have := ew _ _ _ hw; omega), k3.2.2.2.2.2.2 _ _ _ (fun hw => by have := ew _ _ _ hw; omega)]
        exact hdh i x hx
      obtain ⟨u1, u2⟩ := cI_dc (e1 := g.1.2.2.1) (e2 := g.1.2.2.2) (T' := S.1) (D' := S.2.2.1) hI' hz (zr_zf k3) (fun t k j hw => by have := ew t k j hw; omega) hgd (by rw [ek]; exact o1) (ct_ag hT (ag_w (zr_zf k3) (fun t k j hw => by have := ew t k j hw; omega))) (by rw [k3.1]; exact o4) (by rw [k3.1]; exact o5) dx1 dh1 hdy (by unfold do_l; rw [k3.1, k3.2.1]; exact hdl)
      refine ⟨M1, _, ?_, u1, u2⟩
      obtain ⟨t1, t2, t3⟩ := k2
      simp only [k1, Option.bind_some, k3.1, o4, t1, Option.getD_some, cr_message_77, cr_message_78]
      by_cases qk : k = -1
      · rw [if_pos qk, if_pos qk]
      · rw [if_neg qk, if_neg qk]
        rcases zin_c (show (py_msg S.2.2.1 i pl (py_he S.2.1.1 S.2.1.2 S.2.2.1 i S.2.2.1[i].1).2.2.1 (py_he S.2.1.1 S.2.1.2 S.2.2.1 i S.2.2.1[i].1).2.2.2).length < 2 ^ 31 by omega) k with ⟨hzj, h | ⟨j1, j2, j3⟩⟩ | ⟨j, hj, ej, hzj, j1, j2, j3⟩
        · rw [if_pos h, hzj]
        · rw [if_neg j1, if_pos j2, hzj]
        · have hzk2 : z_in k 160 := by rw [ej]; exact nI_in (by omega) (by omega)
          have hgm : (py_msg S.2.2.1 i pl (py_he S.2.1.1 S.2.1.2 S.2.2.1 i S.2.2.1[i].1).2.2.1 (py_he S.2.1.1 S.2.1.2 S.2.2.1 i S.2.2.1[i].1).2.2.2)[j]? = some ((py_msg S.2.2.1 i pl (py_he S.2.1.1 S.2.1.2 S.2.2.1 i S.2.2.1[i].1).2.2.1 (py_he S.2.1.1 S.2.1.2 S.2.2.1 i S.2.2.1[i].1).2.2.2)[j]) := by simp
          rw [if_neg j1, if_neg j2, hzj]
          simp only [hdx.1.2.1, k3.2.1, hdx.1.2.2, if_pos hzk2, hgm]
          rw [ej, nI_clamp (by omega), t3 j _ hgm]
    · rw [if_neg (fun y => q (c0.mp y)), if_neg q]
      exact cf_same hI' rfl
theorem cl_faultD (hI : cI ac N0 S0 M S g) (hz : zz_ok S) (hd : 1 ≤ d) : ∃ M', do_parse d g.1.2.2.2 (some (ac + 1)) (nI S.1.length) M = some (zo (py_doc S.1).1, M') ∧ cI ac N0 S0 M' S g ∧ zh (cC_W ac) M M' ∧ do_x M' g.1.2.2.2 (py_doc S.1).2 ∧ zf (dq_W g.1.2.2.2) M M' := by
  have hI' := hI
  obtain ⟨hg, ⟨⟨o0, o2, o3, o4, o5, _⟩, o1⟩, hT, _, _, ⟨hdx, hdh, hdy⟩, hdl, _⟩ := hI
  have hgd := hg.2.1
  obtain ⟨M1, k1, k2, k3⟩ := cl_dparse (d := d) (dc := g.1.2.2.2) hz.1 hd (by omega) hT hdl
  have ew : ∀ t k j, dq_W g.1.2.2.2 t k j → g.1.2.2.2 ≤ k ∧ k < g.1.2.2.2 + 10 := by
    intro t k j h
    unfold dq_W at h
    omega
  have ek : ∀ j, zm_I M1 11 ac j = zm_I M 11 ac j := fun j => k3.2.2.2.2.2.2 _ _ _ (fun hw => by have := ew _ _ _ hw; omega)
  obtain ⟨u1, u2⟩ := cI_dc (e1 := g.1.2.2.1) (e2 := g.1.2.2.2) (T' := S.1) (D' := S.2.2.1) hI' hz (zr_zf k3) (fun t k j hw => by have := ew t k j hw; omega) hgd (by rw [ek]; exact o1) (ct_ag hT (ag_w (zr_zf k3) (fun t k j hw => by have := ew t k j hw; omega))) (by rw [k3.1]; exact o4) (by rw [k3.1]; exact o5) (dx_ag hdx (ag_w (zr_zf k3) (fun t k j hw => by have := ew t k j hw; omega))) (dh_ag hdh (ag_w (zr_zf k3) (fun t k j hw => by have := ew t k j hw; omega))) hdy k2.1
  exact ⟨M1, k1, u1, u2, k2, k3⟩
theorem cl_document (hI : cI ac N0 S0 M S g) (hz : zz_ok S) (hd : 5 ≤ d) : cf_r ac N0 S0 M (cr_document d ac M) (sp_doc S).1 (sp_doc S).2 := by
  obtain ⟨d, rfl⟩ : ∃ d', d = d' + 1 := ⟨d - 1, by omega⟩
  have eb : cr_document (d + 1) ac M = cr_document_b d ac M := rfl
  rw [eb]
  have hI' := hI
  obtain ⟨hg, ⟨⟨o0, o2, o3, o4, o5, o6, o7, o8, o9, o10, o11, o12, o13⟩, o1⟩, hT, ⟨hS, _⟩, _, ⟨hdx, hdh, hdy⟩, hdl, hL, _⟩ := hI
  have hgt := hg.1
  have hgd := hg.2.1
  have h400 := hz.1.1
  obtain ⟨M1, k1, k2, k3, k4, k5⟩ := cl_faultD (d := d) hI' hz (by omega)
  unfold cr_document_b sp_doc
  simp only [o0, o1, o5, k1, Option.bind_some]
  cases hdoc : (py_doc S.1).1 with
  | some p =>
    have hp : ¬ zo (some p) = (-1 : Int32) := by
      rw [pb_zos]
      have := dr_le S.1 0 ([], none, none, true) p hdoc
      exact pb_ne1 (by omega)
    rw [if_neg hp]
    exact ⟨M1, g, rfl, k2, k3⟩
  | none =>
    rw [if_pos (show zo none = (-1 : Int32) from rfl)]
    obtain ⟨hok, hdy2⟩ := doc_i S.1
    obtain ⟨M2, hM2⟩ : ∃ Y, Y = zm_setI (zm_setR (zm_setR M1 11 ac 4 (zm_R M1 11 ac 5)) 11 ac 5 (zm_R M1 11 ac 4)) 11 ac 1 0 := ⟨_, rfl⟩
    have z2 : zr (fun t k j => t = 11 ∧ k = ac ∧ (j = 1 ∨ j = 4 ∨ j = 5)) M1 M2 := by
      rw [hM2]
      exact zr_trans (zr_setR ⟨rfl, rfl, .inr (.inl rfl)⟩) (zr_trans (zr_setR ⟨rfl, rfl, .inr (.inr rfl)⟩) (zr_setI ⟨rfl, rfl, .inl rfl⟩))
    have o4' : zm_R M2 11 ac 4 = some g.1.2.2.2 := by
      rw [hM2, pm_RI, pm_RR, if_neg (by omega), pm_RR, if_pos ⟨rfl, rfl, rfl⟩, k5.1]
      exact o5
    have o5' : zm_R M2 11 ac 5 = some g.1.2.2.1 := by
      rw [hM2, pm_RI, pm_RR, if_pos ⟨rfl, rfl, rfl⟩, k5.1]
      exact o4
    have oR : ∀ j, j ≠ 1 → j ≠ 4 → j ≠ 5 → zm_R M2 11 ac j = zm_R M 11 ac j := by
      intro j a b c
      rw [zr_R z2 (by omega), k5.1]
    have dx2 : do_x M2 g.1.2.2.2 (py_doc S.1).2 := dx_ag k4 (ag_w z2 (fun t k j hw => by omega))
    have S2 : cS_x M2 g.2.1 g.1.1 S.2.1.1 S.2.1.2 := by
      obtain ⟨g1, g2, g3, g4, g5⟩ := hg
      refine cS_ag hz.2.2.1 (fun r hr n hn => (k2.2.2.2.1.2.2 r hr n hn).1) k2.2.2.2.1.1 (ag_zr z2 ?_)
      rintro t k j (hk | ⟨i, h1, h2⟩) hw
      · have := hk.1; omega
      · have := g3 i h1; omega
    have L2 := cL_zr k2.2.2.2.2.2.2.2.1 z2 (fun t k j hw hc => by unfold cLc at hc; omega)
    obtain ⟨M3, q1, q2, q3⟩ := cl_hold (d := d) (b := g.1.1) (dc := g.1.2.2.2) (wk := ac + 215) (by omega) (by omega) (by omega) hok hz.2.2.2.1 hz.2.2.1 S2 L2.2.2.2.2.2.1 dx2
    have ew3 : ∀ t k j, dg_W (ac + 215) g.1.2.2.2 t k j → ((ac + 215 ≤ k ∧ k < ac + 228) ∨ (t = 20 ∧ g.1.2.2.2 + 5 ≤ k ∧ k ≤ g.1.2.2.2 + 8)) ∧ ¬ cLc ac t k j := by
      intro t k j hw
      unfold dg_W wz_W at hw
      unfold cLc
      omega
    have oR3 : ∀ j, zm_R M3 11 ac j = zm_R M2 11 ac j := fun j => zr_R q3 (fun hw => by have := ew3 _ _ _ hw; omega)
    have dx3 : do_x M3 g.1.2.2.2 (py_doc S.1).2 := by
      have eR : ∀ j, zm_R M3 1 g.1.2.2.2 j = zm_R M2 1 g.1.2.2.2 j := fun j => zr_R q3 (fun hw => by have := ew3 _ _ _ hw; omega)
      refine ⟨?_, by rw [zr_I q3 (fun hw => by have := ew3 _ _ _ hw; omega)]; exact dx2.2.1, ?_⟩
      · unfold do_l
        rw [zr_L q3]
        refine ⟨fun i a b => ?_, ?_, dx2.1.2.2⟩
        · rw [eR]
          exact dx2.1.1 i a b
        · rw [eR]
          exact dx2.1.2.1
      · intro i x hx
        rw [zr_I q3 (fun hw => by have := ew3 _ _ _ hw; omega), zr_I q3 (fun hw => by have := ew3 _ _ _ hw; omega), zr_I q3 (fun hw => by have := ew3 _ _ _ hw; omega), zr_I q3 (fun hw => by have := ew3 _ _ _ hw; omega)]
        exact dx2.2.2 i x hx
    have z13 : zr (fun t k j => (t = 11 ∧ k = ac ∧ (j = 1 ∨ j = 4 ∨ j = 5)) ∨ dg_W (ac + 215) g.1.2.2.2 t k j) M1 M3 := zr_trans (zr_mono z2 (fun t k j h => .inl h)) (zr_mono q3 (fun t k j h => .inr h))
    obtain ⟨u1, u2⟩ := cI_dc (e1 := g.1.2.2.2) (e2 := g.1.2.2.1) (T' := []) (D' := (py_doc S.1).2) k2 hz z13 (by
      rintro t k j (hw | hw)
      · exact .inr (.inr hw)
      · have h := ew3 t k j hw
        rcases h.1 with h1 | h1
        · exact .inr (.inl ⟨h1.1, h1.2, h.2⟩)
        · left; omega) (by omega) (by rw [zr_I q3 (fun hw => by have := ew3 _ _ _ hw; omega), hM2, pm_same]; rfl) (by
      have := k2.2.2.1
      refine ⟨by rw [zr_L z13]; exact this.1, by rw [zr_n z13]; exact this.2.1, ?_⟩
      intro i b hb
      simp at hb) (by rw [oR3]; exact o4') (by rw [oR3]; exact o5') dx3 q2 hdy2 (dl_ag k2.2.2.2.2.2.1.1.1 (ag_w z13 (by
      rintro t k j (hw | hw)
      · omega
      · have h := ew3 t k j hw
        omega)))
    refine ⟨M3, _, ?_, u1, zh_trans k3 u2⟩
    simp only [zlet]
    rw [← hM2, o4']
    simp only [oR 2 (by omega) (by omega) (by omega), oR 11 (by omega) (by omega) (by omega), o2, o11, q1, Option.bind_some, oR3, o4', dx3.2.1]
end
