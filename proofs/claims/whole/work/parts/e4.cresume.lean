/-! THE CLASS: state and resume -/
section
variable {M M' : zM} {pa : Nat → Nat} {P : yP} {d wk Q B : Nat} {s : yS}
theorem cl_tmm (hP : py_ok P) (h : wk_x M pa Q P wk s) (hb : sw_b P B s) (hB : B ≤ 900) {o : Nat} (hs : s.1 = some o) (b : Bool) : wk_timeThatMatters d wk (zo (py_ct P o b)) M = some (nI (py_tm P s (py_ct P o b)), M) := by
  have ho := hb.1 o hs
  have hnc := ok_nc hP
  have ru := cR_ru h.1.2.2.1
  cases hc : py_ct P o b with
  | none => rfl
  | some c =>
    have hcn := ct_lt hP ho hc
    have hw : py_wi P (py_cn P c) (py_lf P o) = true := (ct_iff hP ho hcn).mp (by cases b; exact .inl hc; exact .inr hc)
    have hz : z_in (nI c) 8 := nI_in (by omega) (by omega)
    have hcl := nI_clamp (show c < 2 ^ 31 by omega)
    have hne : ¬ nI c = -1 := pb_ne1 (by omega)
    have htm := (h.2.2.2.2.2 o hs).1 c hcn hw
    have hto := (h.1.2.2.1.1.2 c hcn).2
    have hfe := h.1.2.2.2.1 c hcn
    have hk := few_i hP (ok_cn hP hcn) (ok_cnk hP hcn)
    rw [ok_cnn hP hcn] at hk
    have hbc := hb.2 c
    unfold wk_timeThatMatters
    rw [pb_zos, if_neg hne]
    simp only [h.2.2.1, ru.2.2.2.2.2.1.1, ru.2.2.2.2.2.1.2, if_pos hz, hcl, hto, h.2.1.1.1, h.2.1.1.2, htm, ru.2.2.2.2.2.2.1.1, ru.2.2.2.2.2.2.1.2, hfe]
    show _ = some (nI (if py_to P c = none then min (s.2.1 c) (py_few P c) else s.2.1 c), M)
    cases ht : py_to P c with
    | none =>
      rw [if_pos (show zo none = -1 from rfl), if_pos rfl]
      unfold wk_timeThatMatters_47
      by_cases q : py_few P c < s.2.1 c
      · rw [if_pos ((lt_i2 (by omega) (by omega)).mpr q), Nat.min_eq_right (by omega)]
      · rw [if_neg (fun y => q ((lt_i2 (by omega) (by omega)).mp y)), Nat.min_eq_left (by omega)]
    | some t =>
      have htt := ok_to hP hcn ht
      rw [if_neg (show ¬ zo (some t) = -1 from pb_ne1 (by omega)), if_neg (by simp)]
      rfl
theorem cl_state_62 (hP : py_ok P) (h : wk_x M pa Q P wk s) (h0 : wk_0 P s) (hv : ∀ o, s.1 = some o → o < py_nl P) : ∀ (m a : Nat) (v : Int32), a + m = py_na P → ∀ fuel, m < fuel → wk_state_62 d fuel wk v (nI a) M = some (py_cod2 s v (List.range' a m), M) := by
  have hna := ok_na hP
  have h4 : zm_I M 5 Q 4 = nI (py_na P) := h.1.2.2.1.2.2.2.1.2.2
  intro m
  induction m with
  | zero =>
    intro a v ha fuel hf
    cases fuel with
    | zero => cases hf
    | succ fuel =>
      rw [wk_state_62]
      simp only [h.2.2.1, h4]
      rw [if_pos ((le_i2 (by omega) (by omega)).mpr (by omega))]
      rfl
  | succ m ih =>
    intro a v ha fuel hf
    cases fuel with
    | zero => cases hf
    | succ fuel =>
      rw [wk_state_62]
      have em : (13 : Int32) + 4 * nI a = nI (13 + 4 * a) := by rw [mx_41]; exact nI_add 13 _
      simp only [h.2.2.1, h4, cl_begunOf hP h h0 hv (show a < py_na P by omega), Option.bind_some, zlet, em, nI_1]
      rw [if_neg (fun y => by have := (le_i2 (by omega) (by omega)).mp y; omega), List.range'_succ]
      exact ih (a + 1) _ (by omega) fuel (by omega)
theorem cl_state (hP : py_ok P) (hd : 1 ≤ d) (h : wk_x M pa Q P wk s) (h0 : wk_0 P s) (hb : sw_b P B s) (hB : B ≤ 900) : wk_state d wk M = some (py_cod P s, M) := by
  obtain ⟨d, rfl⟩ : ∃ d', d = d' + 1 := ⟨d - 1, by omega⟩
  have hna := ok_na hP
  have hnl := ok_nl hP
  have h100 := zLF_100
  have ru := cR_ru h.1.2.2.1
  have eb : wk_state (d + 1) wk M = wk_state_b d wk M := rfl
  rw [eb]
  unfold wk_state_b py_cod
  rw [h.2.2.2.2.1]
  cases hs : s.1 with
  | none => rw [if_pos (show zo none = -1 from rfl)]
  | some o =>
    have ho := hb.1 o hs
    have hne : ¬ zo (some o) = -1 := pb_ne1 (by omega)
    have hz : z_in (zo (some o)) 16 := nI_in (c := o) (by omega) (by omega)
    have hcl : (zo (some o)).toNatClampNeg = o := nI_clamp (show o < 2 ^ 31 by omega)
    have hz1 : zo (some o) + 1 = nI (o + 1) := nI_1 o
    obtain ⟨o1, o2⟩ := h.1.2.2.2.2 o ho
    have h1 : zm_I M 8 wk 1 = zo (some o) := by rw [h.2.2.2.2.1, hs]
    rw [if_neg hne]
    simp only [zlet, h.2.2.1, ru.2.2.1.1, ru.2.2.1.2, ru.2.2.2.1.1, ru.2.2.2.1.2, h1, if_pos hz, hcl, o1, o2, cl_tmm hP h hb hB hs, Option.bind_some, hz1]
    exact cl_state_62 hP h h0 hb.1 (py_na P) 0 _ (by omega) zLF (by omega)
/-- the rule and the rows under the walk's own changes -/
theorem wr_zr (h : wk_r M pa Q P wk) (hf : zr (wz_W wk) M M') (h0 : zm_R M' 8 wk 0 = some Q) (h3 : zm_R M' 8 wk 3 = zm_R M 8 wk 3) (h4 : zm_R M' 8 wk 4 = zm_R M 8 wk 4) : wk_r M' pa Q P wk := by
  have hq := h.2.2.2
  refine ⟨cX_zr h.1 hf ?_ ?_ ?_ ?_ ?_, ?_, h0, hq⟩
  · rintro k j (⟨e, _⟩ | ⟨e, _⟩) <;> cases e
  · rintro k j (⟨e, _⟩ | ⟨e, _⟩) <;> cases e
  · rintro j _ (⟨e, _⟩ | ⟨e, _⟩) <;> cases e
  · rintro k j (⟨e, _⟩ | ⟨e, _⟩) <;> cases e
  · rintro i j hi (⟨e, _⟩ | ⟨_, e⟩)
    · cases e
    · omega
  · unfold wk_l
    rw [h3, h4, zr_L hf]
    exact h.2.1
theorem cl_res_71 (hP : py_ok P) (h4 : wk_4 P s) {o : Nat} (hs : s.1 = some o) (ho : o < py_nl P) : ∀ (m a : Nat) (M : zM), a + m = py_na P → wk_r M pa Q P wk → (∀ b, b < a → zm_I M 20 (wk + 12) b = s.2.2 b) → ∀ fuel, m < fuel → ∃ M', wk_resume_71 d fuel wk (py_cod P s) (nI a) M = some M' ∧ (∀ b, b < py_na P → zm_I M' 20 (wk + 12) b = s.2.2 b) ∧ zf (fun t k _ => t = 20 ∧ k = wk + 12) M M' := by
  have hna := ok_na hP
  intro m
  induction m with
  | zero =>
    intro a M ha h hb fuel hf
    cases fuel with
    | zero => cases hf
    | succ fuel =>
      have e4 : zm_I M 5 Q 4 = nI (py_na P) := h.1.2.2.1.2.2.2.1.2.2
      refine ⟨M, ?_, fun b hb' => hb b (by omega), zf_refl _ _⟩
      rw [wk_resume_71]
      simp only [h.2.2.1, e4]
      rw [if_pos ((le_i2 (by omega) (by omega)).mpr (by omega))]
  | succ m ih =>
    intro a M ha h hb fuel hf
    cases fuel with
    | zero => cases hf
    | succ fuel =>
      have e4 : zm_I M 5 Q 4 = nI (py_na P) := h.1.2.2.1.2.2.2.1.2.2
      have hz : z_in (nI a) 4 := nI_in (by omega) (by omega)
      have em : (13 : Int32) + 4 * nI a = nI (13 + 4 * a) := by rw [mx_41]; exact nI_add 13 _
      have f1 : zf (fun t k _ => t = 20 ∧ k = wk + 12) M (zm_setI M 20 (wk + 12) a (s.2.2 a)) := zf_set ⟨rfl, rfl⟩
      have f1' : zf (we_W wk) M (zm_setI M 20 (wk + 12) a (s.2.2 a)) := zf_set (.inl ⟨rfl, .inr rfl⟩)
      obtain ⟨M', g1, g2, g3⟩ := ih (a + 1) _ (by omega) (wr_zf h f1') (fun b hb' => by
        by_cases q : b = a
        · rw [q, pm_same]
        · rw [pm_ne (by omega)]
          exact hb b (by omega)) fuel (by omega)
      refine ⟨M', ?_, g2, zf_trans f1 g3⟩
      rw [wk_resume_71]
      simp only [h.2.2.1, e4, h.2.1.2.1, h.2.1.2.2, if_pos hz, nI_clamp (show a < 2 ^ 31 by omega), em, cod_b hP h4 hs ho (show a < py_na P by omega), zlet, nI_1]
      rw [if_neg (fun y => by have := (le_i2 (by omega) (by omega)).mp y; omega)]
      exact g1
theorem cl_setTime (h : wk_r M pa Q P wk) {x : Option Nat} {v : Int32} (hx : ∀ c, x = some c → c < 8) : ∃ M', wk_setTime d wk (zo x) v M = some M' ∧ (∀ c, c < 8 → zm_I M' 20 (wk + 11) c = if x = some c then v else zm_I M 20 (wk + 11) c) ∧ zf (fun t k _ => t = 20 ∧ k = wk + 11) M M' := by
  unfold wk_setTime
  cases x with
  | none =>
    rw [if_pos (show zo none = -1 from rfl)]
    exact ⟨M, rfl, fun c _ => by simp, zf_refl _ _⟩
  | some c =>
    have hc := hx c rfl
    have hz : z_in (zo (some c)) 8 := nI_in (c := c) (by omega) (by omega)
    have hcl : (zo (some c)).toNatClampNeg = c := nI_clamp (show c < 2 ^ 31 by omega)
    rw [if_neg (show ¬ zo (some c) = -1 from pb_ne1 (by omega))]
    simp only [h.2.1.1.1, h.2.1.1.2, if_pos hz, hcl, zlet]
    refine ⟨_, rfl, ?_, zf_set ⟨rfl, rfl⟩⟩
    intro b hb
    by_cases q : c = b
    · subst q
      rw [pm_same, if_pos rfl]
    · rw [pm_ne (by omega), if_neg (by simpa using q)]
/-- a walk is taken up again -/
theorem cl_resume (hP : py_ok P) (hd : 1 ≤ d) (h : cX M pa Q P) (hw : wk_l M wk) (hq : Q + 10 ≤ wk) (h4 : wk_4 P s) (hv : ∀ o, s.1 = some o → o < py_nl P) : ∃ M', wk_resume d wk (some Q) (py_cod P s) M = some M' ∧ wk_x M' pa Q P wk (py_cut P s) ∧ zr (wz_W wk) M M' := by
  obtain ⟨d, rfl⟩ : ∃ d', d = d' + 1 := ⟨d - 1, by omega⟩
  have hnl := ok_nl hP
  have hnc := ok_nc hP
  have h100 := zLF_100
  have hna := ok_na hP
  have eb : wk_resume (d + 1) wk (some Q) (py_cod P s) M = wk_resume_b d wk (some Q) (py_cod P s) M := rfl
  rw [eb]
  unfold wk_resume_b
  obtain ⟨M1, g1, g2, g3, g4⟩ := cl_begin (d := d) h hw hq
  rw [g1, Option.bind_some]
  simp only [zlet]
  obtain ⟨M2, hM2⟩ : ∃ Y, Y = zm_setI M1 8 wk 1 ((py_cod P s &&& 31) - 1) := ⟨_, rfl⟩
  have f2 : zf (we_W wk) M1 M2 := by rw [hM2]; exact zf_set (.inr ⟨rfl, rfl, .inl rfl⟩)
  have r2 := wr_zf (wr_x g2) f2
  have z2 : zr (wz_W wk) M M2 := zr_trans g4 (zr_mono (zr_zf f2) wz_e)
  have l2 : zm_I M2 8 wk 1 = (py_cod P s &&& 31) - 1 := by rw [hM2, pm_same]
  rw [← hM2]
  cases hs : s.1 with
  | none =>
    have hc0 : py_cod P s = 0 := by unfold py_cod; rw [hs]
    have l3 : zm_I M2 8 wk 1 = -1 := by rw [l2, hc0]; decide
    rw [if_pos l3]
    refine ⟨M2, rfl, ⟨r2.1, r2.2.1, r2.2.2.1, r2.2.2.2, ?_, ?_⟩, z2⟩
    · rw [l3]
      show _ = zo s.1
      rw [hs]
      rfl
    · intro o ho
      have ho : s.1 = some o := ho
      rw [hs] at ho
      cases ho
  | some o =>
    have ho := hv o hs
    have hne : ¬ nI o = -1 := pb_ne1 (by omega)
    have hz : z_in (nI o) 16 := nI_in (by omega) (by omega)
    have hcl := nI_clamp (show o < 2 ^ 31 by omega)
    rw [cod_last hP h4 hs ho] at l2
    have ru := cR_ru r2.1.2.2.1
    have t1 := cod_t1 hP h4 hs ho
    have t2 := cod_t2 hP h4 hs ho
    obtain ⟨o1, o2⟩ := r2.1.2.2.2.2 o ho
    obtain ⟨M3, k1, k2, k3⟩ := cl_setTime (d := d) r2 (x := py_ct P o false) (v := nI (py_tm P s (py_ct P o false))) (fun c hc => by have := ct_lt hP ho hc; omega)
    have f3 : zf (we_W wk) M2 M3 := zf_mono k3 (fun t k j w => .inl ⟨w.1, .inl w.2⟩)
    have r3 := wr_zf r2 f3
    have ru3 := cR_ru r3.1.2.2.1
    have o2' := (r3.1.2.2.2.2 o ho).2
    have l3 : zm_I M3 8 wk 1 = nI o := by
      rw [k3.2.2.2.2.2.2 8 wk 1 (by rintro ⟨e, _⟩; cases e)]
      exact l2
    obtain ⟨M4, q1, q2, q3⟩ := cl_setTime (d := d) r3 (x := py_ct P o true) (v := nI (py_tm P s (py_ct P o true))) (fun c hc => by have := ct_lt hP ho hc; omega)
    have f4 : zf (we_W wk) M3 M4 := zf_mono q3 (fun t k j w => .inl ⟨w.1, .inl w.2⟩)
    have r4 := wr_zf r3 f4
    have l4 : zm_I M4 8 wk 1 = nI o := by
      rw [q3.2.2.2.2.2.2 8 wk 1 (by rintro ⟨e, _⟩; cases e)]
      exact l3
    obtain ⟨M5, p1, p2, p3⟩ := cl_res_71 (d := d) hP h4 hs ho (py_na P) 0 M4 (by omega) r4 (fun b hb => by omega) zLF (by omega)
    have f5 : zf (we_W wk) M4 M5 := zf_mono p3 (fun t k j w => .inl ⟨w.1, .inr w.2⟩)
    have r5 := wr_zf r4 f5
    have l5 : zm_I M5 8 wk 1 = nI o := by
      rw [p3.2.2.2.2.2.2 8 wk 1 (by rintro ⟨e, _⟩; cases e)]
      exact l4
    refine ⟨M5, ?_, ⟨r5.1, r5.2.1, r5.2.2.1, r5.2.2.2, ?_, ?_⟩, zr_trans z2 (zr_mono (zr_zf (zf_trans f3 (zf_trans f4 f5))) wz_e)⟩
    · rw [l2, if_neg hne]
      simp only [r2.2.2.1, ru.2.2.1.1, ru.2.2.1.2, if_pos hz, hcl, o1, t1, k1, Option.bind_some, r3.2.2.1, ru3.2.2.2.1.1, ru3.2.2.2.1.2, l3, o2', t2, q1]
      exact p1
    · rw [l5]
      show _ = zo s.1
      rw [hs]
      rfl
    · intro o' ho'
      have ho' : s.1 = some o' := ho'
      rw [hs] at ho'
      injection ho' with ho'
      subst ho'
      refine ⟨?_, fun a ha _ => p2 a ha⟩
      intro c hc hw
      show _ = nI (py_tm P s (some c))
      rw [p3.2.2.2.2.2.2 20 (wk + 11) c (by rintro ⟨_, e⟩; omega), q2 c (by omega)]
      by_cases e : py_ct P o true = some c
      · rw [if_pos e, e]
      · rw [if_neg e, k2 c (by omega)]
        have e1 : py_ct P o false = some c := by
          rcases (ct_iff hP ho hc).mpr hw with x | x
          · exact x
          · exact absurd x e
        rw [if_pos e1, e1]
end
