/-! THE CLASS: recount -/
section
variable {ac N0 S0 d : Nat} {M : zM} {S : yZ} {g : yG2}
theorem cl_rec103 (hI : cI ac N0 S0 M S g) (hz : zz_ok S) (hd : 42 ≤ d) {r c f : Nat} {t : Option Nat} (hr : r < S.2.1.1) (hc : c < py_nc (S.2.1.2 r)) (hf : f ≤ 12) (ht : ∀ x, t = some x → 1 ≤ x ∧ x ≤ 12 ∧ f ≤ x) (hzz : zz_ok (yz_r S r (py_rc (S.2.1.2 r) c f t))) : cf_r ac N0 S0 M (cr_recount_103 d ac (nI c) (nI f) (zo t) (some (g.1.1 + 2 + 10 * r)) M) (zb (py_sure (py_rc (S.2.1.2 r) c f t))) (yz_r S r (py_rc (S.2.1.2 r) c f t)) := by
  obtain ⟨hP, hX, x14, x15, x16, hr8⟩ := cI_r hI hz hr
  obtain ⟨hN, hA, ⟨hF, r0, r1, ⟨r2, r3, r4⟩, rl, rc, ra, rn⟩, hcA⟩ := hX
  have h8 := ok_nc hP
  have hzk : z_in (nI c) 8 := nI_in (by omega) (by omega)
  obtain ⟨M1, hM1⟩ : ∃ Y, Y = zm_setI (zm_setI M 20 (g.1.1 + 2 + 10 * r + 5) c (nI f)) 20 (g.1.1 + 2 + 10 * r + 6) c (zo t) := ⟨_, rfl⟩
  have f1 : zf (rw_W (g.1.1 + 2 + 10 * r)) M M1 := by rw [hM1]; exact zf_trans (zf_set ⟨rfl, .inr (.inl rfl)⟩) (zf_set ⟨rfl, .inr (.inr rfl)⟩)
  have N1 : cN_x M1 g.2.1 (py_rc (S.2.1.2 r) c f t) := cN_zf (P := py_rc (S.2.1.2 r) c f t) hN f1 (fun k j _ h => by unfold rw_W at h; omega)
  have R1 : cR_x M1 g.2.1 (g.1.1 + 2 + 10 * r) (py_rc (S.2.1.2 r) c f t) := by
    refine ⟨⟨by unfold cw_ru; rw [f1.1, f1.2.1]; exact hF.1, ?_⟩, by rw [hM1, pm_ne (by omega), pm_ne (by omega)]; exact r0, by rw [f1.1]; exact r1, ⟨by rw [hM1, pm_ne (by omega), pm_ne (by omega)]; exact r2, by rw [hM1, pm_ne (by omega), pm_ne (by omega)]; exact r3, by rw [hM1, pm_ne (by omega), pm_ne (by omega)]; exact r4⟩, ?_, ?_, ?_, by rw [f1.2.2.2.2.1]; exact rn⟩
    · intro c' hc'
      have hc2 : c' < py_nc (S.2.1.2 r) := hc'
      have e1 : py_fr (py_rc (S.2.1.2 r) c f t) c' = if c' = c then f else py_fr (S.2.1.2 r) c' := rfl
      have e2 : py_to (py_rc (S.2.1.2 r) c f t) c' = if c' = c then t else py_to (S.2.1.2 r) c' := rfl
      rw [e1, e2]
      by_cases q : c' = c
      · rw [if_pos q, if_pos q, q, hM1, pm_ne (by omega), pm_same, pm_same]
        exact ⟨rfl, rfl⟩
      · rw [if_neg q, if_neg q, hM1, pm_ne (by omega), pm_ne (by omega), pm_ne (by omega), pm_ne (by omega)]
        exact hF.2 c' hc2
    · intro o ho
      refine ⟨?_, by rw [f1.1]; exact (rl o ho).2⟩
      rw [hM1, pm_ne (by omega), pm_ne (by omega)]
      exact (rl o ho).1
    · intro c' hc'
      rw [f1.1]
      exact rc c' hc'
    · intro a ha
      rw [f1.1]
      exact ra a ha
  obtain ⟨M2, g', k1, k2, k3⟩ := cl_toldAnew (d := d) hI hz hd hr hzz (rc_ok hP hf ht) (fun n hn => hn) f1 N1 R1
  refine ⟨M2, g', ?_, k2, k3⟩
  unfold cr_recount_103
  simp only [hF.1.2.2.2.2.1.1, hF.1.2.2.2.2.1.2, hF.1.2.2.2.2.2.1.1, hF.1.2.2.2.2.2.1.2, if_pos hzk, nI_clamp (show c < 2 ^ 31 by omega), zlet, pm_RI, pm_LI]
  rw [← hM1, k1]
  rfl
end
