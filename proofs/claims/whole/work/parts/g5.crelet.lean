/-! THE CLASS: reletter -/
section
variable {ac N0 S0 d : Nat} {M : zM} {S : yZ} {g : yG2}
theorem cl_reletter (hI : cI ac N0 S0 M S g) (hz : zz_ok S) (hd : 43 ≤ d) (x y l : Int32) : cf_r ac N0 S0 M (cr_reletter d ac x y l M) (sp_rel S x y l).1 (sp_rel S x y l).2 := by
  obtain ⟨d, rfl⟩ : ∃ d', d = d' + 1 := ⟨d - 1, by omega⟩
  have eb : cr_reletter (d + 1) ac x y l M = cr_reletter_b d ac x y l M := rfl
  rw [eb]
  have hzz := zz_rel hz x y l
  unfold cr_reletter_b
  unfold sp_rel at hzz ⊢
  rw [cl_ruleAt hI]
  simp only [Option.bind_some, cr_reletter_25, cr_reletter_37]
  cases hx : zin x S.2.1.1 with
  | none => exact cf_same hI rfl
  | some r =>
    rw [hx] at hzz
    obtain ⟨hr, _⟩ := zin_some (show S.2.1.1 < 2 ^ 31 by have := hz.2.1; omega) hx
    obtain ⟨hP, hX, x14, x15, x16, hr8⟩ := cI_r hI hz hr
    obtain ⟨hN, hA, hR, hcA⟩ := hX
    have hR' := hR
    obtain ⟨hF, r0, r1, ⟨r2, r3, r4⟩, rl, rc, ra, rn⟩ := hR
    have h16 := ok_nl hP
    simp only [Option.map_some, r2]
    dsimp only at hzz
    rcases zin_c (show py_nl (S.2.1.2 r) < 2 ^ 31 by omega) y with ⟨hzi, h | ⟨h1, h2, h3⟩⟩ | ⟨o, ho, e, hzi, h1, h2, h3⟩
    · rw [if_pos h, hzi]; exact cf_same hI rfl
    · rw [if_neg h1, if_neg h3, hzi]; exact cf_same hI rfl
    · rw [if_neg h1, if_pos h3, hzi]
      rw [hzi] at hzz
      dsimp only at hzz
      rcases zin_c (show 26 < 2 ^ 31 by omega) l with ⟨hzl, h | ⟨j1, j2, j3⟩⟩ | ⟨ln, hl, el, hzl, j1, j2, j3⟩
      · rw [if_pos h, hzl]; exact cf_same hI rfl
      · rw [if_neg j1, if_neg (show ¬ l < 26 from j3), hzl]; exact cf_same hI rfl
      · rw [if_neg j1, if_pos (show l < 26 from j3), hzl]
        rw [hzl] at hzz
        dsimp only at hzz
        have hzk : z_in y 16 := by rw [e]; exact nI_in (by omega) (by omega)
        have hlt := ok_lt hP ho
        have c0 : (nI (py_lt (S.2.1.2 r) o) = nI ln) ↔ py_lt (S.2.1.2 r) o = ln := nI_eq (by omega) (by omega)
        simp only [hF.1.1.1, hF.1.1.2, if_pos hzk]
        rw [e, nI_clamp (by omega), (rl o ho).1, el]
        by_cases q : py_lt (S.2.1.2 r) o = ln
        · rw [if_pos (c0.mpr q), if_pos q]
          exact cf_same hI rfl
        · rw [if_neg (fun y => q (c0.mp y)), if_neg q]
          rw [if_neg q] at hzz
          obtain ⟨M1, hM1⟩ : ∃ Y, Y = zm_setI M 20 (g.1.1 + 2 + 10 * r + 1) o (nI ln) := ⟨_, rfl⟩
          have f1 : zf (rw_W (g.1.1 + 2 + 10 * r)) M M1 := by rw [hM1]; exact zf_set ⟨rfl, .inl rfl⟩
          have N1 : cN_x M1 g.2.1 (py_rl (S.2.1.2 r) o ln) := cN_zf (P := py_rl (S.2.1.2 r) o ln) hN f1 (fun k j _ h => by unfold rw_W at h; omega)
          have R1 : cR_x M1 g.2.1 (g.1.1 + 2 + 10 * r) (py_rl (S.2.1.2 r) o ln) := by
            refine ⟨⟨by unfold cw_ru; rw [f1.1, f1.2.1]; exact hF.1, ?_⟩, by rw [hM1, pm_ne (by omega)]; exact r0, by rw [f1.1]; exact r1, ⟨by rw [hM1, pm_ne (by omega)]; exact r2, by rw [hM1, pm_ne (by omega)]; exact r3, by rw [hM1, pm_ne (by omega)]; exact r4⟩, ?_, ?_, ?_, by rw [f1.2.2.2.2.1]; exact rn⟩
            · intro c hc
              rw [hM1, pm_ne (by omega), pm_ne (by omega)]
              exact hF.2 c hc
            · intro o' ho'
              have ho2 : o' < py_nl (S.2.1.2 r) := ho'
              have el : py_lt (py_rl (S.2.1.2 r) o ln) o' = if o' = o then ln else py_lt (S.2.1.2 r) o' := rfl
              refine ⟨?_, by rw [f1.1]; exact (rl o' ho2).2⟩
              rw [el]
              by_cases qo : o' = o
              · rw [if_pos qo, qo, hM1, pm_same]
              · rw [if_neg qo, hM1, pm_ne (by omega)]
                exact (rl o' ho2).1
            · intro c hc
              rw [f1.1]
              exact rc c hc
            · intro a ha
              rw [f1.1]
              exact ra a ha
          have hh := cl_toldAnew (d := d) hI hz (by omega) hr hzz (rl_ok hP hl) (fun n hn => hn) f1 N1 R1
          obtain ⟨M2, g', k1, k2, k3⟩ := hh
          refine ⟨M2, g', ?_, k2, k3⟩
          simp only [zlet]
          rw [← hM1, k1]
          rfl
end
