/-! THE CLASS: what is known when a text was read -/
def re_y (M : zM) (re : Nat) (P : yP) (s : yS) : Prop := zm_I M 4 re 3 = zor (py_cc P s) ∧ zm_I M 4 re 4 = zb (py_ce P s) ∧ zm_I M 4 re 8 = nI (py_nc P) ∧ (∀ c, c < py_nc P → zm_I M 20 (re + 4) c = nI (s.2.1 c)) ∧ zm_I M 4 re 10 = nI (py_na P) ∧ (∀ a, a < py_na P → zm_I M 20 (re + 5) a = s.2.2 a) ∧ zm_I M 4 re 12 = 0
section
variable {M M' : zM} {pa : Nat → Nat} {P : yP} {d wk re Q B : Nat} {s : yS}
theorem rx_rr {ls : List Nat} {g : List (Nat × Option Nat)} {W : Nat → Nat → Nat → Prop} (h : re_x M re ls g) (hf : zf W M M') (h1 : ¬ W 4 re 1 ∧ ¬ W 4 re 2) (h2 : ∀ i j, 1 ≤ i → i ≤ 3 → ¬ W 20 (re + i) j) : re_x M' re ls g := by
  refine ⟨?_, ?_, ?_, ?_, ?_⟩
  · unfold re_l
    rw [hf.1, hf.2.1]
    exact h.1
  · rw [hf.2.2.2.2.2.2 4 re 1 h1.1]; exact h.2.1
  · rw [hf.2.2.2.2.2.2 4 re 2 h1.2]; exact h.2.2.1
  · intro i x hx
    rw [hf.2.2.2.2.2.2 20 (re + 1) i (h2 1 i (by omega) (by omega))]
    exact h.2.2.2.1 i x hx
  · intro i x hx
    rw [hf.2.2.2.2.2.2 20 (re + 2) i (h2 2 i (by omega) (by omega)), hf.2.2.2.2.2.2 20 (re + 3) i (h2 3 i (by omega) (by omega))]
    exact h.2.2.2.2 i x hx
def r5_W (re t k j : Nat) : Prop := (t = 20 ∧ k = re + 5) ∨ (t = 4 ∧ k = re ∧ j = 12)
def r4_W (re t k j : Nat) : Prop := (t = 20 ∧ (k = re + 4 ∨ k = re + 5)) ∨ (t = 4 ∧ k = re ∧ (j = 10 ∨ j = 12))
theorem r5_rr : ∀ t k j, r5_W re t k j → rr_W re t k j := by
  rintro t k j (⟨h1, h2⟩ | ⟨h1, h2, _⟩)
  · exact .inr ⟨h1, by omega, by omega⟩
  · exact .inl ⟨h1, h2⟩
theorem r4_rr : ∀ t k j, r4_W re t k j → rr_W re t k j := by
  rintro t k j (⟨h1, h2⟩ | ⟨h1, h2, _⟩)
  · exact .inr ⟨h1, by omega, by omega⟩
  · exact .inl ⟨h1, h2⟩
theorem cl_read_213 (hP : py_ok P) (hr : wk + 12 < re) (h0 : wk_0 P s) (hv : ∀ o, s.1 = some o → o < py_nl P) : ∀ (m a : Nat) (M : zM), a + m = py_na P → wk_x M pa Q P wk s → re_l M re → zm_I M 4 re 10 = nI (py_na P) → (∀ b, b < a → zm_I M 20 (re + 5) b = s.2.2 b) → ∀ fuel, m < fuel → ∃ M', re_readTape_213 d fuel re (some wk) (nI a) M = some M' ∧ (∀ b, b < py_na P → zm_I M' 20 (re + 5) b = s.2.2 b) ∧ zm_I M' 4 re 12 = 0 ∧ zf (r5_W re) M M' := by
  have hna := ok_na hP
  intro m
  induction m with
  | zero =>
    intro a M ha hx hl h10 hb fuel hf
    cases fuel with
    | zero => cases hf
    | succ fuel =>
      refine ⟨zm_setI M 4 re 12 0, ?_, ?_, pm_same, zf_set (.inr ⟨rfl, rfl, rfl⟩)⟩
      · rw [re_readTape_213, h10, if_pos ((le_i2 (by omega) (by omega)).mpr (by omega))]
        rfl
      · intro b hb'
        rw [pm_ne (by omega)]
        exact hb b (by omega)
  | succ m ih =>
    intro a M ha hx hl h10 hb fuel hf
    cases fuel with
    | zero => cases hf
    | succ fuel =>
      have hz : z_in (nI a) 4 := nI_in (by omega) (by omega)
      have f1 : zf (r5_W re) M (zm_setI M 20 (re + 5) a (s.2.2 a)) := zf_set (.inl ⟨rfl, rfl⟩)
      obtain ⟨M', g1, g2, g3, g4⟩ := ih (a + 1) _ (by omega) (wx_rr hx (zf_mono f1 r5_rr) hr) (by unfold re_l; rw [f1.1, f1.2.1]; exact hl) ((pm_ne (by omega)).trans h10) (fun b hb' => by
        by_cases q : b = a
        · rw [q, pm_same]
        · rw [pm_ne (by omega)]
          exact hb b (by omega)) fuel (by omega)
      refine ⟨M', ?_, g2, g3, zf_trans f1 g4⟩
      rw [re_readTape_213, h10, if_neg (fun y => by have := (le_i2 (by omega) (by omega)).mp y; omega)]
      simp only [cl_begunOf hP hx h0 hv (show a < py_na P by omega), Option.bind_some, hl.2.2.2.2.1.1, hl.2.2.2.2.1.2, if_pos hz, nI_clamp (show a < 2 ^ 31 by omega), zlet, nI_1]
      exact g1
theorem cl_read_173 (hP : py_ok P) (hr : wk + 12 < re) (h0 : wk_0 P s) (hv : ∀ o, s.1 = some o → o < py_nl P) : ∀ (m a : Nat) (M : zM), a + m = py_nc P → wk_x M pa Q P wk s → re_l M re → zm_I M 4 re 8 = nI (py_nc P) → (∀ b, b < a → zm_I M 20 (re + 4) b = nI (s.2.1 b)) → ∀ fuel, m < fuel → ∃ M', re_readTape_173 d fuel re (some Q) (some wk) (nI a) M = some M' ∧ (∀ b, b < py_nc P → zm_I M' 20 (re + 4) b = nI (s.2.1 b)) ∧ zm_I M' 4 re 10 = nI (py_na P) ∧ (∀ b, b < py_na P → zm_I M' 20 (re + 5) b = s.2.2 b) ∧ zm_I M' 4 re 12 = 0 ∧ zf (r4_W re) M M' := by
  have hnc := ok_nc hP
  have hna := ok_na hP
  have h100 := zLF_100
  intro m
  induction m with
  | zero =>
    intro a M ha hx hl h8 hb fuel hf
    cases fuel with
    | zero => cases hf
    | succ fuel =>
      have e4 : zm_I M 5 Q 4 = nI (py_na P) := hx.1.2.2.1.2.2.2.1.2.2
      have f1 : zf (r4_W re) M (zm_setI M 4 re 10 (nI (py_na P))) := zf_set (.inr ⟨rfl, rfl, .inl rfl⟩)
      obtain ⟨M', g1, g2, g3, g4⟩ := cl_read_213 (d := d) hP hr h0 hv (py_na P) 0 _ (by omega) (wx_rr hx (zf_mono f1 r4_rr) hr) (by unfold re_l; rw [f1.1, f1.2.1]; exact hl) pm_same (fun b hb => by omega) zLF (by omega)
      refine ⟨M', ?_, ?_, ?_, g2, g3, zf_trans f1 (zf_mono g4 (fun t k j w => ?_))⟩
      · rw [re_readTape_173, h8, if_pos ((le_i2 (by omega) (by omega)).mpr (by omega))]
        simp only [e4, zlet]
        exact g1
      · intro b hb'
        have n1 : ¬ r5_W re 20 (re + 4) b := by
          rintro (⟨_, e⟩ | ⟨e, _⟩)
          · omega
          · cases e
        rw [g4.2.2.2.2.2.2 20 (re + 4) b n1, pm_ne (by omega)]
        exact hb b (by omega)
      · have n1 : ¬ r5_W re 4 re 10 := by
          rintro (⟨e, _⟩ | ⟨_, _, e⟩)
          · cases e
          · cases e
        rw [g4.2.2.2.2.2.2 4 re 10 n1, pm_same]
      · rcases w with ⟨h1, h2⟩ | ⟨h1, h2, h3⟩
        · exact .inl ⟨h1, .inr h2⟩
        · exact .inr ⟨h1, h2, .inr h3⟩
  | succ m ih =>
    intro a M ha hx hl h8 hb fuel hf
    cases fuel with
    | zero => cases hf
    | succ fuel =>
      have hz : z_in (nI a) 8 := nI_in (by omega) (by omega)
      have f1 : zf (r4_W re) M (zm_setI M 20 (re + 4) a (nI (s.2.1 a))) := zf_set (.inl ⟨rfl, .inl rfl⟩)
      obtain ⟨M', g1, g2, g3, g4, g5, g6⟩ := ih (a + 1) _ (by omega) (wx_rr hx (zf_mono f1 r4_rr) hr) (by unfold re_l; rw [f1.1, f1.2.1]; exact hl) ((pm_ne (by omega)).trans h8) (fun b hb' => by
        by_cases q : b = a
        · rw [q, pm_same]
        · rw [pm_ne (by omega)]
          exact hb b (by omega)) fuel (by omega)
      refine ⟨M', ?_, g2, g3, g4, g5, zf_trans f1 g6⟩
      rw [re_readTape_173, h8, if_neg (fun y => by have := (le_i2 (by omega) (by omega)).mp y; omega)]
      simp only [cl_timeOf hP hx h0 hv (show a < py_nc P by omega), Option.bind_some, hl.2.2.2.1.1, hl.2.2.2.1.2, if_pos hz, nI_clamp (show a < 2 ^ 31 by omega), zlet, nI_1]
      exact g1
theorem cl_read_144 (hP : py_ok P) (hd : 2 ≤ d) (hr : wk + 12 < re) (hw : wk_g P B s) (hB : B ≤ 900) {ls : List Nat} {g : List (Nat × Option Nat)} (hx : wk_x M pa Q P wk s) (hre : re_x M re ls g) : ∃ M', re_readTape_144 d re (some Q) (some wk) M = some M' ∧ wk_x M' pa Q P wk s ∧ re_x M' re ls g ∧ re_y M' re P s ∧ zr (rd_W wk re) M M' := by
  have hnc := ok_nc hP
  have h100 := zLF_100
  have m1 : ∀ t k j, wh_W wk t k j → rd_W wk re t k j := fun t k j w => .inl (wz_h t k j w)
  have m2 : ∀ t k j, rr_W re t k j → rd_W wk re t k j := fun t k j w => .inr w
  obtain ⟨M1, a1, a2, a3⟩ := cl_couldCome (d := d) hP hd hx hw.1 hw.2.2.2 hB
  have r1 := re_wz hre (zr_mono a3 wz_h) hr
  obtain ⟨M2, hM2⟩ : ∃ Y, Y = zm_setI M1 4 re 3 (zor (py_cc P s)) := ⟨_, rfl⟩
  have f2 : zf (fun t k j => t = 4 ∧ k = re ∧ j = 3) M1 M2 := by rw [hM2]; exact zf_set ⟨rfl, rfl, rfl⟩
  have f2' : zf (rr_W re) M1 M2 := zf_mono f2 (fun t k j w => .inl ⟨w.1, w.2.1⟩)
  have x2 := wx_rr a2 f2' hr
  have r2 : re_x M2 re ls g := rx_rr r1 f2 ⟨(by rintro ⟨_, _, e⟩; cases e), (by rintro ⟨_, _, e⟩; cases e)⟩ (by rintro i j _ _ ⟨e, _⟩; cases e)
  have c3 : zm_I M2 4 re 3 = zor (py_cc P s) := by rw [hM2, pm_same]
  obtain ⟨M3, b1, b2, b3⟩ := cl_canEnd (d := d) hP hd x2 hw.1 hw.2.2.2 hB
  have r3 := re_wz r2 (zr_mono b3 wz_h) hr
  have d3 : zm_I M3 4 re 3 = zor (py_cc P s) := by rw [zr_I b3 (by rintro ⟨e, _⟩; cases e)]; exact c3
  obtain ⟨M4, hM4⟩ : ∃ Y, Y = zm_setI (zm_setI M3 4 re 4 (zb (py_ce P s))) 4 re 8 (nI (py_nc P)) := ⟨_, rfl⟩
  have f4 : zf (fun t k j => t = 4 ∧ k = re ∧ (j = 4 ∨ j = 8)) M3 M4 := by rw [hM4]; exact zf_trans (zf_set ⟨rfl, rfl, .inl rfl⟩) (zf_set ⟨rfl, rfl, .inr rfl⟩)
  have f4' : zf (rr_W re) M3 M4 := zf_mono f4 (fun t k j w => .inl ⟨w.1, w.2.1⟩)
  have x4 := wx_rr b2 f4' hr
  have r4 : re_x M4 re ls g := rx_rr r3 f4 ⟨(by rintro ⟨_, _, e⟩; omega), (by rintro ⟨_, _, e⟩; omega)⟩ (by rintro i j _ _ ⟨e, _⟩; cases e)
  have e3 : zm_I M4 4 re 3 = zor (py_cc P s) := by rw [hM4, pm_ne (by omega), pm_ne (by omega)]; exact d3
  have e4 : zm_I M4 4 re 4 = zb (py_ce P s) := by rw [hM4, pm_ne (by omega), pm_same]
  have e8 : zm_I M4 4 re 8 = nI (py_nc P) := by rw [hM4, pm_same]
  obtain ⟨M5, k1, k2, k3, k4, k5, k6⟩ := cl_read_173 (d := d) hP hr hw.2.1 hw.2.2.2.1 (py_nc P) 0 M4 (by omega) x4 r4.1 e8 (fun b hb => by omega) zLF (by omega)
  have x5 := wx_rr x4 (zf_mono k6 r4_rr) hr
  have n4 : ∀ j, j ≠ 10 → j ≠ 12 → ¬ r4_W re 4 re j := by
    rintro j j1 j2 (⟨e, _⟩ | ⟨_, _, e⟩)
    · cases e
    · omega
  have r5 : re_x M5 re ls g := rx_rr r4 k6 ⟨n4 1 (by omega) (by omega), n4 2 (by omega) (by omega)⟩ (by
    rintro i j h1 h2 (⟨_, e⟩ | ⟨e, _⟩)
    · omega
    · cases e)
  refine ⟨M5, ?_, x5, r5, ⟨?_, ?_, ?_, k2, k3, k4, k5⟩, ?_⟩
  · unfold re_readTape_144
    simp only [a1, Option.bind_some, zlet]
    rw [← hM2]
    have e53 : zm_I (zm_setI M3 4 re 4 (zb (py_ce P s))) 5 Q 3 = nI (py_nc P) := (pm_ne (by omega)).trans b2.1.2.2.1.2.2.2.1.2.1
    simp only [b1, Option.bind_some, e53]
    rw [if_pos (by cases py_ce P s <;> simp [zb]), ← hM4]
    exact k1
  · rw [k6.2.2.2.2.2.2 4 re 3 (n4 3 (by omega) (by omega))]; exact e3
  · rw [k6.2.2.2.2.2.2 4 re 4 (n4 4 (by omega) (by omega))]; exact e4
  · rw [k6.2.2.2.2.2.2 4 re 8 (n4 8 (by omega) (by omega))]; exact e8
  · exact zr_trans (zr_mono a3 m1) (zr_trans (zr_mono (zr_zf f2') m2) (zr_trans (zr_mono b3 m1) (zr_trans (zr_mono (zr_zf f4') m2) (zr_mono (zr_zf (zf_mono k6 r4_rr)) m2))))
end
