/-! THE CLASS: mend, whole -/
def py_cm (P : yP) (ls : List Nat) : Option (Option yE) := if py_wrd P ls then some none else (py_cm2 P ls).map some
section
variable {M M' : zM} {pa : Nat → Nat} {P : yP} {d wk re Q B n : Nat} {s : yS} {ls : List Nat} {g : List (Nat × Option Nat)}
theorem at_all (hle : (py_rn P ls py_s00).1.length = ls.length) : py_at P ls (py_rn P ls py_s00).1.length = (py_rn P ls py_s00).2 := by
  unfold py_at
  rw [hle, List.take_length]
theorem cl_mend_59 (hP : py_ok P) (hd : 4 ≤ d) (hls : ls.length ≤ 24) (h26 : ∀ x, x ∈ ls → x < 26) (h : md_s M pa Q P wk re ls g (py_rn P ls py_s00).1.length) (hx : wk_x M pa Q P wk (py_at P ls (py_rn P ls py_s00).1.length)) : ∃ M', re_mend_59 d re (some Q) (some wk) (nI (py_rn P ls py_s00).1.length) M = some M' ∧ re_m M' re (py_cm P ls) ∧ zr (mw_W2 wk re) M M' := by
  have h0 : (py_rn P ls py_s00).1.length ≤ ls.length := rn_le ls py_s00
  have e : (nI (py_rn P ls py_s00).1.length = nI ls.length) ↔ (py_rn P ls py_s00).1.length = ls.length := nI_eq (by omega) (by omega)
  have hg := at_g hP hls (P := P) (py_rn P ls py_s00).1.length
  unfold re_mend_59 py_cm
  rw [h.2.2.2.2.1.2.1]
  by_cases q : (py_rn P ls py_s00).1.length = ls.length
  · rw [if_pos (e.mpr q)]
    obtain ⟨M1, a1, a2, a3⟩ := cl_canEnd (d := d) hP (by omega) hx hg.1 hg.2.2.2 (by omega)
    have z1 : zr (wz_W wk) M M1 := zr_mono a3 wz_h
    have z2 : zr (mw_W2 wk re) M M1 := zr_mono z1 (fun t k j w => .inl w)
    have ew : py_wrd P ls = py_ce P (py_at P ls (py_rn P ls py_s00).1.length) := by
      rw [at_all q]
      unfold py_wrd
      rw [q]
      simp
    simp only [a1, Option.bind_some]
    rw [ew]
    cases py_ce P (py_at P ls (py_rn P ls py_s00).1.length)
    · rw [if_pos (show zb false = 0 from rfl)]
      obtain ⟨M2, b1, b2, b3⟩ := cl_mend_82 (d := d) hP hd hls h26 (md_wz h z1)
      exact ⟨M2, b1, by simpa using b2, zr_trans z2 b3⟩
    · rw [if_neg (show ¬ zb true = 0 by decide)]
      obtain ⟨M2, b1, b2, b3, b4, b5⟩ := cl_setMend (d := d) (re := re) (M := M1) (a := 0) (b := -1) (c := -1)
      rw [b1, Option.bind_some]
      exact ⟨M2, rfl, ⟨b2, b3, b4⟩, zr_trans z2 (zr_mono (zr_zf b5) (fun t k j w => .inr w))⟩
  · rw [if_neg (fun y => q (e.mp y))]
    have ew : py_wrd P ls = false := by
      unfold py_wrd
      simp [q]
    rw [ew]
    obtain ⟨M2, b1, b2, b3⟩ := cl_mend_82 (d := d) hP hd hls h26 h
    exact ⟨M2, b1, by simpa using b2, b3⟩
theorem cl_mend (hP : py_ok P) (hd : 5 ≤ d) (hls : ls.length ≤ 24) (h26 : ∀ x, x ∈ ls → x < 26) (hX : cX M pa Q P) (hw : wk_l M wk) (hq : Q + 10 ≤ wk) (hr : wk + 12 < re) (hre : re_x M re ls g) : ∃ M', re_mend d re (some Q) (some wk) M = some M' ∧ re_m M' re (py_cm P ls) ∧ zr (rd_W wk re) M M' := by
  obtain ⟨d, rfl⟩ : ∃ d', d = d' + 1 := ⟨d - 1, by omega⟩
  have h100 := zLF_100
  have eb : re_mend (d + 1) re (some Q) (some wk) M = re_mend_b d re (some Q) (some wk) M := rfl
  rw [eb]
  unfold re_mend_b
  have m2 : ∀ t k j, rr_W re t k j → rd_W wk re t k j := fun t k j w => .inr w
  have m1 : ∀ t k j, wz_W wk t k j → rd_W wk re t k j := fun t k j w => .inl w
  obtain ⟨M1, hM1⟩ : ∃ Y, Y = zm_setI M 4 re 12 1 := ⟨_, rfl⟩
  have f1 : zf (r13_W re) M M1 := by rw [hM1]; exact zf_set ⟨rfl, rfl, by omega, by omega⟩
  have n8 : ∀ t k j, t ≠ 4 → ¬ r13_W re t k j := fun t k j ht x => ht x.1
  have X1 : cX M1 pa Q P := cX_zf hX f1 (fun k j => n8 _ _ _ (by decide)) (fun k j => n8 _ _ _ (by decide)) (fun j _ => n8 _ _ _ (by decide)) (fun i j _ => n8 _ _ _ (by decide))
  have w1 : wk_l M1 wk := by unfold wk_l; rw [f1.1, f1.2.1]; exact hw
  have re1 : re_x M1 re ls g := rx_rr hre f1 ⟨(by rintro ⟨_, _, e, _⟩; omega), (by rintro ⟨_, _, e, _⟩; omega)⟩ (by rintro i j _ _ ⟨e, _⟩; cases e)
  obtain ⟨M2, a1, a2, a3, a4⟩ := cl_begin (d := d) X1 w1 hq
  have re2 := re_wz re1 a4 hr
  have hst := cl_state (d := d) hP (by omega) a2 w0_0 (wg_0 (P := P)).2.2.2 (by omega)
  have hz : z_in (0 : Int32) 25 := nI_in (c := 0) (by omega) (by omega)
  have hc0 : (0 : Int32).toNatClampNeg = 0 := nI_clamp (show 0 < 2 ^ 31 by omega)
  obtain ⟨M3, hM3⟩ : ∃ Y, Y = zm_setI M2 20 (re + 6) 0 (py_cod P py_s00) := ⟨_, rfl⟩
  have f3 : zf (r6_W re) M2 M3 := by rw [hM3]; exact zf_set ⟨rfl, rfl⟩
  have x3 := wx_rr a2 (zf_mono f3 r6_rr) hr
  have re3 : re_x M3 re ls g := rx_rr re2 f3 ⟨(by rintro ⟨e, _⟩; cases e), (by rintro ⟨e, _⟩; cases e)⟩ (by rintro i j h1 h2 ⟨_, e⟩; omega)
  have st3 : re_st M3 re P ls ([] : List Nat).length := by
    intro i hi
    have : i = 0 := by simpa using hi
    subst this
    rw [hM3, pm_same]
    rfl
  obtain ⟨M4, b1, b2, b3, b4, b5⟩ := cl_mend_22 (d := d) (P := P) (g := g) hP (by omega) hr hls h26 ls [] M3 rfl rfl x3 re3 st3 zLF (by omega)
  have b1 : re_mend_22 d zLF re (some Q) (some wk) 0 M3 = re_mend_59 d re (some Q) (some wk) (nI (py_rn P ls py_s00).1.length) M4 := b1
  obtain ⟨M5, c1, c2, c3⟩ := cl_mend_59 (d := d) hP (by omega) hls h26 ⟨b2.1, b2.2.1, hq, hr, b3, b4⟩ b2
  refine ⟨M5, ?_, c2, ?_⟩
  · simp only [zlet]
    rw [← hM1, a1, Option.bind_some]
    simp only [hst, Option.bind_some, re2.1.2.2.2.2.2.1, re2.1.2.2.2.2.2.2, if_pos hz, hc0]
    rw [← hM3, b1]
    exact c1
  · refine zr_trans (zr_mono (zr_zf f1) (fun t k j w => m2 t k j (.inl ⟨w.1, w.2.1⟩))) (zr_trans (zr_mono a4 m1) (zr_trans (zr_mono (zr_zf (zf_mono f3 r6_rr)) m2) (zr_trans b5 (zr_mono c3 ?_))))
    rintro t k j (w | w)
    · exact m1 t k j w
    · exact m2 t k j (.inl ⟨w.1, w.2.1⟩)
end
