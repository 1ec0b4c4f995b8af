/-! THE CLASS: what a call keeps -/
def cC_W (ac t k j : Nat) : Prop := (ac ≤ k ∧ k < ac + 242) ∨ t = 3 ∨ t = 21
def cf_r (ac N0 S0 : Nat) (M : zM) (run : Option (Int32 × zM)) (v : Int32) (S' : yZ) : Prop := ∃ M' g', run = some (v, M') ∧ cI ac N0 S0 M' S' g' ∧ zh (cC_W ac) M M'
def kU (M : zM) (ac R : Nat) (Ps : Nat → yP) : Prop := zm_I M 10 (ac + 211) 0 = -1 ∨ ∃ r, r < R ∧ zm_I M 10 (ac + 211) 0 = nI r ∧ wt_x M (ac + 211) (py_fw (Ps r) false)
def kC (M : zM) (ac R : Nat) (Ps : Nat → yP) : Prop := zm_I M 10 (ac + 213) 0 = -1 ∨ ∃ r, r < R ∧ zm_I M 10 (ac + 213) 0 = nI r ∧ wt_x M (ac + 213) (py_fw (Ps r) true)
def kS (M : zM) (ac R : Nat) (Ps : Nat → yP) : Prop := zm_I M 11 ac 14 = -1 ∨ ∃ r, r < R ∧ zm_I M 11 ac 14 = nI r ∧ st_x M (ac + 197) (py_wd (Ps r) (py_rt (Ps r)))
def kD (M : zM) (ac R : Nat) (Ps : Nat → yP) : Prop := (zm_I M 0 (ac + 235) 2 = -1 ∧ zm_I M 0 (ac + 235) 3 = -1) ∨ ∃ r o, r < R ∧ o < R ∧ zm_I M 0 (ac + 235) 2 = nI r ∧ zm_I M 0 (ac + 235) 3 = nI o ∧ du_x M (ac + 235) (py_ul (Ps r) (Ps o) (List.range' 0 5))
def cLc (ac t k j : Nat) : Prop := (t = 2 ∧ k = ac + 190 ∧ j = 0) ∨ (t = 9 ∧ k = ac + 192 ∧ j < 4) ∨ (t = 7 ∧ k = ac + 197 ∧ (j = 0 ∨ j = 2 ∨ j = 3)) ∨ (t = 10 ∧ (k = ac + 211 ∨ k = ac + 213) ∧ j = 6) ∨ (t = 8 ∧ k = ac + 215 ∧ (j = 3 ∨ j = 4)) ∨ (t = 0 ∧ k = ac + 235 ∧ (j = 1 ∨ (4 ≤ j ∧ j ≤ 8)))
section
variable {ac N0 S0 d R : Nat} {M M' : zM} {S : yZ} {g : yG2} {W : Nat → Nat → Nat → Prop} {Ps : Nat → yP}
theorem cf_same (hI : cI ac N0 S0 M S g) {run : Option (Int32 × zM)} {v : Int32} (e : run = some (v, M)) : cf_r ac N0 S0 M run v S := ⟨M, g, e, hI, zh_refl _ _⟩
theorem kU_ag (h : kU M ac R Ps) (hf : ag (rg (ac + 211) (ac + 213)) M M') : kU M' ac R Ps := by
  have r0 : rg (ac + 211) (ac + 213) (ac + 211) := ⟨by omega, by omega⟩
  unfold kU at h ⊢
  rw [ag_I hf r0]
  rcases h with h | ⟨r, h1, h2, h3⟩
  · exact .inl h
  · exact .inr ⟨r, h1, h2, wtx_ag h3 hf⟩
theorem kC_ag (h : kC M ac R Ps) (hf : ag (rg (ac + 213) (ac + 215)) M M') : kC M' ac R Ps := by
  have r0 : rg (ac + 213) (ac + 215) (ac + 213) := ⟨by omega, by omega⟩
  unfold kC at h ⊢
  rw [ag_I hf r0]
  rcases h with h | ⟨r, h1, h2, h3⟩
  · exact .inl h
  · exact .inr ⟨r, h1, h2, wtx_ag h3 hf⟩
theorem kS_ag (h : kS M ac R Ps) (h14 : zm_I M' 11 ac 14 = zm_I M 11 ac 14) (hf : ag (rg (ac + 199) (ac + 200)) M M') : kS M' ac R Ps := by
  unfold kS at h ⊢
  rw [h14]
  rcases h with h | ⟨r, h1, h2, h3⟩
  · exact .inl h
  · exact .inr ⟨r, h1, h2, st_ag h3 (ag_mono hf (fun k hk => ⟨by have := hk.1; omega, by have := hk.2; omega⟩))⟩
theorem kD_ag (h : kD M ac R Ps) (hf : ag (rg (ac + 235) (ac + 242)) M M') : kD M' ac R Ps := by
  have r0 : rg (ac + 235) (ac + 242) (ac + 235) := ⟨by omega, by omega⟩
  unfold kD at h ⊢
  rw [ag_I hf r0, ag_I hf r0]
  rcases h with h | ⟨r, o, h1, h2, h3, h4, h5⟩
  · exact .inl h
  · exact .inr ⟨r, o, h1, h2, h3, h4, dux_ag h5 hf⟩
theorem cL_zr (h : cL_x M ac) (hf : zr W M M') (hW : ∀ t k j, W t k j → ¬ cLc ac t k j) : cL_x M' ac := by
  obtain ⟨h1, h2, h3, h4, h5, h6, h7⟩ := h
  have q : ∀ t k j, cLc ac t k j → zm_R M' t k j = zm_R M t k j := fun t k j hc => zr_R hf (fun hw => hW t k j hw hc)
  have eL := zr_L hf
  refine ⟨?_, ?_, ?_, ?_, ?_, ?_, ?_⟩
  · unfold lp_x at h1 ⊢
    rw [q _ _ _ (by unfold cLc; omega), eL]
    exact h1
  · unfold wy_l at h2 ⊢
    rw [q _ _ _ (by unfold cLc; omega), q _ _ _ (by unfold cLc; omega), q _ _ _ (by unfold cLc; omega), q _ _ _ (by unfold cLc; omega), eL]
    exact h2
  · unfold sl_l at h3 ⊢
    rw [q _ _ _ (by unfold cLc; omega), q _ _ _ (by unfold cLc; omega), q _ _ _ (by unfold cLc; omega), eL]
    exact h3
  · unfold wt_l at h4 ⊢
    rw [q _ _ _ (by unfold cLc; omega), eL]
    exact h4
  · unfold wt_l at h5 ⊢
    rw [q _ _ _ (by unfold cLc; omega), eL]
    exact h5
  · unfold wk_l at h6 ⊢
    rw [q _ _ _ (by unfold cLc; omega), q _ _ _ (by unfold cLc; omega), eL]
    exact h6
  · unfold di_l at h7 ⊢
    rw [q _ _ _ (by unfold cLc; omega), q _ _ _ (by unfold cLc; omega), q _ _ _ (by unfold cLc; omega), q _ _ _ (by unfold cLc; omega), q _ _ _ (by unfold cLc; omega), q _ _ _ (by unfold cLc; omega), eL]
    exact h7
/-- what stands below 190 and the nodes stay -/
theorem cI_hi {T' : List Nat} {rd' : Option yR} (hI : cI ac N0 S0 M S g) (hz : zz_ok S) (hf : zr W M M') (hW : ∀ t k j, W t k j → (ac + 190 ≤ k ∧ k < ac + 242) ∨ (t = 11 ∧ k = ac ∧ (j = 14 ∨ j = 1)) ∨ (t = 20 ∧ k = ac + 1)) (h1 : zm_I M' 11 ac 1 = nI T'.length) (hT : ct_x M' ac T') (hL : cL_x M' ac) (hrd : rd_c M' (ac + 228) S.2.1.2 rd') (hU : kU M' ac S.2.1.1 S.2.1.2) (hC : kC M' ac S.2.1.1 S.2.1.2) (hS' : kS M' ac S.2.1.1 S.2.1.2) (hD : kD M' ac S.2.1.1 S.2.1.2) : cI ac N0 S0 M' (T', S.2.1, S.2.2.1, rd') g := by
  obtain ⟨hg, hO, _, ⟨hS, hcp, hdm⟩, ⟨hws, hcps⟩, ⟨hdx, hdh, hdy⟩, hdl, _, _, _, hn⟩ := hI
  obtain ⟨g1, g2, g3, g4, g5⟩ := hg
  have fa : ag (fun k => (ac + 2 ≤ k ∧ k < ac + 190) ∨ ac + 242 ≤ k) M M' := ag_zr hf (fun t k j hk hw => by have := hW t k j hw; omega)
  have eR : ∀ j, zm_R M' 11 ac j = zm_R M 11 ac j ∨ j = 14 ∨ j = 1 := by
    intro j
    by_cases q : j = 14 ∨ j = 1
    · exact .inr q
    · exact .inl (zr_R hf (fun hw => by have := hW _ _ _ hw; omega))
  have nT : ∀ k, nds g.2.1 g.2.2.1 k → ac + 242 ≤ k := by
    intro k hk
    obtain ⟨i, h1, h2⟩ := hk
    have := g3 i h1
    omega
  have nS : ∀ k, nds g.2.2.2.1 g.2.2.2.2 k → ac + 242 ≤ k := by
    intro k hk
    obtain ⟨i, h1, h2⟩ := hk
    have := g4 i h1
    omega
  refine ⟨⟨g1, g2, g3, g4, g5⟩, ?_, hT, ⟨?_, ?_, hdm⟩, ⟨?_, ?_⟩, ⟨?_, ?_, hdy⟩, ?_, hL, hrd, ⟨hU, hC, hS', hD⟩, ?_⟩
  · obtain ⟨⟨o0, o2, o3, o4, o5, o6, o7, o8, o9, o10, o11, o12, o13⟩, o1⟩ := hO
    have eq : ∀ j, j = 0 ∨ (2 ≤ j ∧ j ≤ 13) → zm_R M' 11 ac j = zm_R M 11 ac j := fun j hj => by
      rcases eR j with e | e
      · exact e
      · omega
    refine ⟨⟨?_, ?_, ?_, ?_, ?_, ?_, ?_, ?_, ?_, ?_, ?_, ?_, ?_⟩, h1⟩ <;> rw [eq _ (by omega)] <;> assumption
  · refine cS_ag hz.2.2.1 (fun r hr n hn => (hdm r hr n hn).1) hS (ag_mono fa ?_)
    rintro k (hk | hk)
    · have := hk.1; have := hk.2; show _ ∨ _; omega
    · exact .inr (nT k hk)
  · refine cp_ag hcp (ag_mono fa ?_)
    rintro k (hk | hk)
    · have := hk.1; have := hk.2; show _ ∨ _; omega
    · exact .inr (nT k hk)
  · refine rs_ag hws (ag_mono fa ?_)
    intro k hk
    have := hk.1; have := hk.2; show _ ∨ _; omega
  · refine cp_ag hcps (ag_mono fa ?_)
    rintro k (hk | hk)
    · have := hk.1; have := hk.2; show _ ∨ _; omega
    · exact .inr (nS k hk)
  · refine dx_ag hdx (ag_mono fa ?_)
    intro k hk
    have := hk.1; have := hk.2; show _ ∨ _; omega
  · refine dh_ag hdh (ag_mono fa ?_)
    intro k hk
    have := hk.1; have := hk.2; show _ ∨ _; omega
  · refine dl_ag hdl (ag_mono fa ?_)
    intro k hk
    have := hk.1; have := hk.2; show _ ∨ _; omega
  · rw [zr_n hf, hf.2.2.2.2.1]
    exact hn
theorem zh_zr (hf : zr W M M') : zh W M M' := ⟨by rw [zr_n hf]; exact Nat.le_refl _, fun t k _ => by rw [zr_L hf], fun t k j _ => by rw [hf.2.2.1], fun t k j _ w => ⟨zr_I hf w, zr_R hf w⟩⟩
theorem zh_cC (hf : zr W M M') (hW : ∀ t k j, W t k j → ac ≤ k ∧ k < ac + 242) : zh (cC_W ac) M M' := zh_zr (zr_mono hf (fun t k j hw => .inl (hW t k j hw)))
end
