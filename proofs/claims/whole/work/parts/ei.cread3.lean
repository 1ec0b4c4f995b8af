/-! THE CLASS: readTape, whole -/
section
variable {M M' : zM} {pa : Nat → Nat} {P : yP} {d ac wk re Q B : Nat} {T : List Nat}
theorem cX_rr (h : cX M pa Q P) (hf : zf (rr_W re) M M') (hq : Q + 10 ≤ re) : cX M' pa Q P := by
  have n8 : ∀ t k j, t ≠ 4 → t ≠ 20 → ¬ rr_W re t k j := by
    rintro t k j h1 h2 (⟨e, _⟩ | ⟨e, _⟩)
    · exact h1 e
    · exact h2 e
  refine cX_zf h hf (fun k j => n8 _ _ _ (by decide) (by decide)) (fun k j => n8 _ _ _ (by decide) (by decide)) (fun j _ => n8 _ _ _ (by decide) (by decide)) ?_
  rintro i j hi (⟨e, _⟩ | ⟨_, e, _⟩)
  · cases e
  · omega
theorem cl_readTape (hP : py_ok P) (hd : 3 ≤ d) (hX : cX M pa Q P) (hw : wk_l M wk) (hq : Q + 10 ≤ wk) (hr : wk + 12 < re) (hac : ac + 1 ≤ re) (hT : ct_x M ac T) (hlen : T.length ≤ 400) (h256 : ∀ b, b ∈ T → b < 256) (hl : re_l M re) {ls : List Nat} (htl : (py_tl T 0 0).1 = some ls) : ∃ M', re_readTape d re (some (ac + 1)) (nI T.length) (some Q) (some wk) M = some M' ∧ re_x M' re ls (py_rn P ls py_s00).1 ∧ re_y M' re P (py_rn P ls py_s00).2 ∧ zr (rd_W wk re) M M' := by
  obtain ⟨d, rfl⟩ : ∃ d', d = d' + 1 := ⟨d - 1, by omega⟩
  have h402 := zLF_402
  have h24 : ls.length ≤ 24 := by have := ctl_len T 0 0 ls htl (by omega); omega
  have h26 := ctl_26 T 0 0 ls htl
  have m2 : ∀ t k j, rr_W re t k j → rd_W wk re t k j := fun t k j w => .inr w
  have m1 : ∀ t k j, wz_W wk t k j → rd_W wk re t k j := fun t k j w => .inl w
  obtain ⟨M1, hM1⟩ : ∃ Y, Y = zm_setI M 4 re 1 0 := ⟨_, rfl⟩
  have f1 : zf (rr_W re) M M1 := by rw [hM1]; exact zf_set (.inl ⟨rfl, rfl⟩)
  have ra1 : re_a M1 re [] := by
    refine ⟨by unfold re_l; rw [f1.1, f1.2.1]; exact hl, by rw [hM1, pm_same]; rfl, fun i x hx => by cases hx⟩
  obtain ⟨M2, a1, a2, a3⟩ := cl_tape_8 (d := d) (Q := Q) (wk := wk) hlen h256 hac T [] M1 [] ls rfl (by simp) htl (ct_rr hT f1 hac) ra1 zLF (by omega)
  have a1 : re_readTape_8 d zLF re (some (ac + 1)) (nI T.length) (some Q) (some wk) 0 M1 = re_readTape_64 d re (some Q) (some wk) M2 := a1
  have f2 := zf_trans f1 a3
  have X2 := cX_rr hX f2 (by omega)
  have w2 : wk_l M2 wk := by unfold wk_l; rw [f2.1, f2.2.1]; exact hw
  obtain ⟨M3, b1, b2, b3, b4⟩ := cl_begin (d := d) X2 w2 hq
  obtain ⟨M4, hM4⟩ : ∃ Y, Y = zm_setI M3 4 re 2 0 := ⟨_, rfl⟩
  have f4 : zf (rr_W re) M3 M4 := by rw [hM4]; exact zf_set (.inl ⟨rfl, rfl⟩)
  have n4 : ∀ j, ¬ wz_W wk 4 re j := by rintro j (⟨e, _⟩ | ⟨e, _⟩) <;> cases e
  have n20 : ∀ i j, ¬ wz_W wk 20 (re + i) j := by
    rintro i j (⟨e, _⟩ | ⟨_, e⟩)
    · cases e
    · omega
  have rl3 : re_l M3 re := by
    unfold re_l
    rw [zr_L b4, zr_R b4 (n4 5), zr_R b4 (n4 6), zr_R b4 (n4 7), zr_R b4 (n4 9), zr_R b4 (n4 11), zr_R b4 (n4 16)]
    exact a2.1
  have rx4 : re_x M4 re ls [] := by
    refine ⟨by unfold re_l; rw [f4.1, f4.2.1]; exact rl3, ?_, by rw [hM4, pm_same]; rfl, ?_, fun i x hx => by cases hx⟩
    · rw [hM4, pm_ne (by omega), zr_I b4 (n4 1)]
      exact a2.2.1
    · intro i x hx
      rw [hM4, pm_ne (by omega), zr_I b4 (n20 1 i)]
      exact a2.2.2 i x hx
  have x4 := wx_rr b2 f4 hr
  obtain ⟨M5, c1, c2, c3, c4, c5⟩ := cl_read_75 (d := d) (P := P) hP (by omega) hr h24 h26 ls [] M4 py_s00 [] 0 rfl rfl (by omega) wg_0 x4 rx4 zLF (by omega)
  obtain ⟨M6, e1, e2, e3, e4, e5⟩ := cl_read_144 (d := d) hP (by omega) hr c3 (by omega) c2 c4
  refine ⟨M6, ?_, e3, e4, zr_trans (zr_mono (zr_zf f2) m2) (zr_trans (zr_mono b4 m1) (zr_trans (zr_mono (zr_zf f4) m2) (zr_trans c5 e5)))⟩
  show re_readTape_b d re (some (ac + 1)) (nI T.length) (some Q) (some wk) M = _
  unfold re_readTape_b
  simp only [zlet]
  rw [← hM1, a1]
  unfold re_readTape_64
  simp only [b1, Option.bind_some, zlet]
  rw [← hM4, c1, e1]
end
