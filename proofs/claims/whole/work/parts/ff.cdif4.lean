/-! THE CLASS: the word that parts two rules is sought -/
section
variable {M M' : zM} {pa : Nat → Nat} {P Q : yP} {d wk di a1 a2 : Nat} {E : List yJ}
theorem cl_goOn (hP : py_ok P) (hQ : py_ok Q) (hd : 5 ≤ d) (h1 : a1 + 10 ≤ wk) (h2 : a2 + 10 ≤ wk) (hr : wk + 12 < di) {n p : Nat} {e0 : yJ} (hn : n ≤ 4) (hen : e0.2.2.length + 1 = n) {F : List yJ} (h : di_i M pa a1 P a2 Q wk di F) (hdj : dj_ok P Q F) (hp : F[p]? = some e0) : ∃ M', di_goOn d di (some a1) (some a2) (nI p) (nI n) (some wk) M = some (zb (py_dg P Q n p e0.2.2 (List.range' 0 26) F).1.isSome, M') ∧ ((py_dg P Q n p e0.2.2 (List.range' 0 26) F).1 = none → di_i M' pa a1 P a2 Q wk di (py_dg P Q n p e0.2.2 (List.range' 0 26) F).2 ∧ dj_ok P Q (py_dg P Q n p e0.2.2 (List.range' 0 26) F).2 ∧ (∀ (i : Nat) (e : yJ), F[i]? = some e → (py_dg P Q n p e0.2.2 (List.range' 0 26) F).2[i]? = some e) ∧ zm_I M' 0 di 0 = zm_I M 0 di 0) ∧ (∀ w, (py_dg P Q n p e0.2.2 (List.range' 0 26) F).1 = some w → du_x M' di (some w)) ∧ zr (dr_W wk di) M M' := by
  have hLF : zLF = 100000 := rfl
  obtain ⟨d, rfl⟩ : ∃ d', d = d' + 1 := ⟨d - 1, by omega⟩
  obtain ⟨M', q1, q2, q3, q4⟩ := cl_goOn_14 (d := d) hP hQ (by omega) h1 h2 hr hn hen 26 0 M F rfl h hdj hp zLF (by omega)
  refine ⟨M', ?_, q2, q3, q4⟩
  have eb : di_goOn (d + 1) di (some a1) (some a2) (nI p) (nI n) (some wk) M = di_goOn_b d di (some a1) (some a2) (nI p) (nI n) (some wk) M := rfl
  rw [eb]
  unfold di_goOn_b
  simp only [cl_linAll (d := d) hP (by omega) h.1.2.2.1, cl_linAll (d := d) hQ (by omega) h.2.1.2.2.1, Option.bind_some, zlet]
  exact q1
theorem cl_dseek_125 (hP : py_ok P) (hQ : py_ok Q) (hd : 5 ≤ d) (h1 : a1 + 10 ≤ wk) (h2 : a2 + 10 ≤ wk) (hr : wk + 12 < di) {n b N : Nat} (hn : n ≤ 4) (kl109 : Nat → Option Nat → Option Nat → Option Nat → Int32 → Int32 → zM → Option zM) : ∀ (m i : Nat) (M : zM) (F : List yJ), i + m = N → bg_i P Q n b N i 0 F → di_i M pa a1 P a2 Q wk di F → zm_I M 0 di 0 = -1 → ∀ fuel, m < fuel → ∃ M', ((py_dw P Q n m i F).1 = none → di_seek_125 kl109 d fuel di (some a1) (some a2) (some wk) (nI n) (nI N) (nI i) M = kl109 di (some a1) (some a2) (some wk) (nI N) (nI (n + 1)) M' ∧ di_i M' pa a1 P a2 Q wk di (py_dw P Q n m i F).2 ∧ zm_I M' 0 di 0 = -1) ∧ (∀ w, (py_dw P Q n m i F).1 = some w → di_seek_125 kl109 d fuel di (some a1) (some a2) (some wk) (nI n) (nI N) (nI i) M = some M' ∧ du_x M' di (some w)) ∧ zr (dr_W wk di) M M' := by
  intro m
  induction m with
  | zero =>
    intro i M F e hbg h h0 fuel hf
    have h8738 := h.2.2.2.2.2.1
    have hNF := hbg.2.1.1
    cases fuel with
    | zero => cases hf
    | succ fuel =>
      refine ⟨M, fun _ => ⟨?_, h, h0⟩, fun w hw => (by cases hw), zr_refl _ _⟩
      rw [di_seek_125, if_pos ((nI_leI (by omega) (by omega)).mpr (by omega))]
      simp only [zlet, nI_1]
  | succ m ih =>
    intro i M F e hbg h h0 fuel hf
    have h8738 := h.2.2.2.2.2.1
    have hNF := hbg.2.1.1
    have hi : i < N := by omega
    cases fuel with
    | zero => cases hf
    | succ fuel =>
      obtain ⟨e0, he⟩ : ∃ e, F[i]? = some e := ⟨F[i]'(by omega), List.getElem?_eq_getElem _⟩
      have hwj : py_wj F i = e0.2.2 := by unfold py_wj; rw [he]
      have hlen := (hbg.2.2.2.2.1 i e0 he).2.1 hbg.2.1.2.2.2 hi
      obtain ⟨k1, k2⟩ := dg_ok hP hQ hi hn 26 0 F rfl hbg he
      obtain ⟨M1, q1, q2, q3, q4⟩ := cl_goOn (d := d) hP hQ hd h1 h2 hr hn hlen h hbg.1 he
      rw [py_dw, hwj]
      rw [di_seek_125, if_neg (fun q => by have := (nI_leI (by omega) (by omega)).mp q; omega)]
      simp only [q1, Option.bind_some, zlet, nI_1]
      cases hg : py_dg P Q n i e0.2.2 (List.range' 0 26) F with
      | mk a F' =>
        rw [hg] at k2 q2 q3
        cases a with
        | some w =>
          refine ⟨M1, fun hw => (by cases hw), fun w' hw' => ?_, q4⟩
          injection hw' with hw'
          rw [if_neg (show ¬ zb (some w).isSome = 0 by show ¬ zb true = 0; decide), ← hw']
          exact ⟨rfl, q3 w rfl⟩
        | none =>
          obtain ⟨r1, r2, r3, r4⟩ := q2 rfl
          obtain ⟨M2, s1, s2, s3⟩ := ih (i + 1) M1 F' (by omega) (k2 rfl) r1 (by rw [r4, h0]) fuel (by omega)
          rw [if_pos (show zb (none : Option (List Nat)).isSome = 0 from rfl)]
          exact ⟨M2, s1, s2, zr_trans q4 s3⟩
theorem cl_dseek_109 (hP : py_ok P) (hQ : py_ok Q) (hd : 5 ≤ d) (h1 : a1 + 10 ≤ wk) (h2 : a2 + 10 ≤ wk) (hr : wk + 12 < di) : ∀ (f n b : Nat) (M : zM) (F : List yJ), n + f = 5 → 1 ≤ n → (1 ≤ f → bg_i P Q n b F.length b 0 F) → di_i M pa a1 P a2 Q wk di F → zm_I M 0 di 0 = -1 → ∀ fuel, f < fuel → ∃ M', di_seek_109 d fuel di (some a1) (some a2) (some wk) (nI b) (nI n) M = some M' ∧ du_x M' di (py_dz P Q f n b F) ∧ zr (dr_W wk di) M M' := by
  have hLF : zLF = 100000 := rfl
  have e4 : (4 : Int32) = nI 4 := rfl
  intro f
  induction f with
  | zero =>
    intro n b M F e hn hbg h h0 fuel hf
    cases fuel with
    | zero => cases hf
    | succ fuel =>
      refine ⟨M, ?_, h0, zr_refl _ _⟩
      rw [di_seek_109, e4, if_pos ((nI_ltI (by omega) (by omega)).mpr (by omega))]
  | succ f ih =>
    intro n b M F e hn hbg h h0 fuel hf
    have hbg := hbg (by omega)
    have h8738 := h.2.2.2.2.2.1
    have hb := hbg.2.1.2.1
    cases fuel with
    | zero => cases hf
    | succ fuel =>
      obtain ⟨k1, k2⟩ := dw_ok hP hQ (show n ≤ 4 by omega) (F.length - b) b F (by omega) hbg
      obtain ⟨M1, q1, q2, q3⟩ := cl_dseek_125 (d := d) hP hQ hd h1 h2 hr (show n ≤ 4 by omega) (fun p0 p1 p2 p3 p4 p5 m => di_seek_109 d fuel p0 p1 p2 p3 p4 p5 m) (F.length - b) b M F (by omega) hbg h h0 zLF (by omega)
      rw [di_seek_109, e4, if_neg (fun q => by have := (nI_ltI (by omega) (by omega)).mp q; omega), h.2.2.2.2.1]
      simp only [zlet]
      rw [py_dz]
      cases hg : py_dw P Q n (F.length - b) b F with
      | mk a F' =>
        rw [hg] at k2 q1 q2
        cases a with
        | some w =>
          obtain ⟨r1, r2⟩ := q2 w rfl
          exact ⟨M1, r1, r2, q3⟩
        | none =>
          obtain ⟨r1, r2, r3⟩ := q1 rfl
          obtain ⟨_, j2⟩ := bg_level hP hQ (k2 rfl) hn (by omega)
          obtain ⟨M2, s1, s2, s3⟩ := ih (n + 1) F.length M1 F' (by omega) (by omega) (fun hf1 => j2 (by omega)) r2 r3 fuel (by omega)
          refine ⟨M2, ?_, s2, zr_trans q3 s3⟩
          rw [r1]
          exact s1
theorem cl_dseek_69 (hP : py_ok P) (hQ : py_ok Q) (hd : 5 ≤ d) (h1 : a1 + 10 ≤ wk) (h2 : a2 + 10 ≤ wk) (hr : wk + 12 < di) (hdf : py_dif P Q [] = false) : ∀ (m k : Nat) (M : zM), k + m = 2048 → cX M pa a1 P → cX M pa a2 Q → wk_l M wk → di_l M di → zm_I M 0 di 0 = -1 → (∀ i, i < k → zm_I M 20 (di + 6) i = -1) → ∀ fuel, m < fuel → ∃ M', di_seek_69 d fuel di (some a1) (some a2) (some wk) (nI k) M = some M' ∧ du_x M' di (py_ul P Q (List.range' 0 5)) ∧ zr (dr_W wk di) M M' := by
  have hLF : zLF = 100000 := rfl
  have e20 : (2048 : Int32) = nI 2048 := rfl
  intro m
  induction m with
  | zero =>
    intro k M e hX1 hX2 hw hl h0 hb fuel hf
    cases fuel with
    | zero => cases hf
    | succ fuel =>
      rw [di_seek_69, e20, if_pos ((nI_leI (by omega) (by omega)).mpr (by omega))]
      simp only [zlet]
      have fz : zf (dd_W di) M (zm_setI M 0 di 9 0) := zf_set (.inl ⟨rfl, rfl, .inr ⟨by omega, by omega⟩⟩)
      have hj0 : dj_x (zm_setI M 0 di 9 0) di P Q [] := by
        refine ⟨by unfold di_l; rw [pm_RI, pm_LI]; exact hl, by rw [pm_same]; rfl, by decide, fun i e h => (by cases h), fun i hi => (by cases hi), ?_⟩
        intro h hh
        rw [pm_ne (by omega), hb h (by omega)]
        rfl
      obtain ⟨M2, c1, c2, c3⟩ := cl_store (d := d) (by omega) hj0 (by decide) (p := 0) (l := 0) (w := []) (v := 0) rfl
      have c1 : di_store d di 0 0 0 (zm_setI M 0 di 9 0) = some M2 := c1
      have c2 : dj_x M2 di P Q [(0, 0, [])] := c2
      have i0 : di_i (zm_setI M 0 di 9 0) pa a1 P a2 Q wk di [] := ⟨cX_dd hX1 fz (by omega), cX_dd hX2 fz (by omega), wl_dd hw fz, hj0⟩
      obtain ⟨k1, k2⟩ := di_st i0 c3 c2 (by omega) (by omega)
      obtain ⟨M3, s1, s2, s3⟩ := cl_dseek_109 (d := d) hP hQ hd h1 h2 hr 4 1 0 M2 [(0, 0, [])] rfl (Nat.le_refl _) (fun _ => bg_0 hdf) k1 (by
        rw [c3.2.2.2.2.2.2 _ _ _ (by
          rintro (⟨_, _, e⟩ | ⟨e, _⟩)
          · cases e
          · cases e), pm_ne (by omega)]
        exact h0) zLF (by omega)
      rw [c1, Option.bind_some]
      refine ⟨M3, s1, ?_, zr_trans (zr_mono (zr_zf (zf_trans fz k2)) (fun t k j w => .inr w)) s3⟩
      rw [dz_ul hP hQ hdf] at s2
      exact s2
  | succ m ih =>
    intro k M e hX1 hX2 hw hl h0 hb fuel hf
    cases fuel with
    | zero => cases hf
    | succ fuel =>
      have zk : z_in (nI k) 2048 := nI_in (by omega) (by omega)
      have fz : zf (dd_W di) M (zm_setI M 20 (di + 6) k (-1)) := zf_set (.inr ⟨rfl, by omega, by omega⟩)
      obtain ⟨M', q1, q2, q3⟩ := ih (k + 1) (zm_setI M 20 (di + 6) k (-1)) (by omega) (cX_dd hX1 fz (by omega)) (cX_dd hX2 fz (by omega)) (wl_dd hw fz) (by unfold di_l; rw [pm_RI, pm_LI]; exact hl) (by rw [pm_ne (by omega)]; exact h0) (by
        intro i hi
        rw [pm_II]
        by_cases q : i = k
        · rw [if_pos ⟨rfl, rfl, q⟩]
        · rw [if_neg (fun e => q e.2.2)]
          exact hb i (by omega)) fuel (by omega)
      refine ⟨M', ?_, q2, zr_trans (zr_mono (zr_zf fz) (fun t k j w => .inr w)) q3⟩
      rw [di_seek_69, e20, if_neg (fun q => by have := (nI_leI (by omega) (by omega)).mp q; omega)]
      simp only [hl.2.2.2.2.2.1, hl.2.2.2.2.2.2, if_pos zk, nI_clamp (show k < 2 ^ 31 by omega), zlet, nI_1]
      exact q1
theorem cl_dseek (hP : py_ok P) (hQ : py_ok Q) (hd : 6 ≤ d) (h1 : a1 + 10 ≤ wk) (h2 : a2 + 10 ≤ wk) (hr : wk + 12 < di) (hX1 : cX M pa a1 P) (hX2 : cX M pa a2 Q) (hw : wk_l M wk) (hl : di_l M di) : ∃ M', di_seek d di (some a1) (some a2) (some wk) M = some M' ∧ du_x M' di (py_ul P Q (List.range' 0 5)) ∧ zr (dr_W wk di) M M' := by
  have hLF : zLF = 100000 := rfl
  obtain ⟨d, rfl⟩ : ∃ d', d = d' + 1 := ⟨d - 1, by omega⟩
  obtain ⟨M0, hM0⟩ : ∃ Y, Y = zm_setI M 0 di 0 (-1) := ⟨_, rfl⟩
  have fz : zf (dd_W di) M M0 := by rw [hM0]; exact zf_set (.inl ⟨rfl, rfl, .inl rfl⟩)
  have hX10 := cX_dd hX1 fz (by omega)
  have hX20 := cX_dd hX2 fz (by omega)
  have hw0 := wl_dd hw fz
  have hl0 : di_l M0 di := by unfold di_l; rw [fz.1, fz.2.1]; exact hl
  have h00 : zm_I M0 0 di 0 = -1 := by rw [hM0, pm_same]
  have F0 : zr (dr_W wk di) M M0 := zr_mono (zr_zf fz) (fun t k j w => .inr w)
  have r1 : zm_R M0 5 a1 1 = some (pa (py_rt P)) := hX10.2.2.1.2.2.1
  have r2 : zm_R M0 5 a2 1 = some (pa (py_rt Q)) := hX20.2.2.1.2.2.1
  have n1 := cX_nu hX10 (ok_rt hP)
  have n2 := cX_nu hX20 (ok_rt hQ)
  have hdf : py_dif P Q [] = (py_nu P (py_rt P) != py_nu Q (py_rt Q)) := rfl
  have fin : ∃ M', di_seek_51 d di (some a1) (some a2) (some wk) (zb (py_nu P (py_rt P))) (zb (py_nu Q (py_rt Q))) M0 = some M' ∧ du_x M' di (py_ul P Q (List.range' 0 5)) ∧ zr (dr_W wk di) M M' := by
    unfold di_seek_51
    by_cases q : py_nu P (py_rt P) = py_nu Q (py_rt Q)
    · rw [if_pos (by rw [q])]
      obtain ⟨M1, k1, k2, k3⟩ := cl_dseek_69 (d := d) hP hQ (by omega) h1 h2 hr (by rw [hdf, q]; simp) 2048 0 M0 (by omega) hX10 hX20 hw0 hl0 h00 (fun i hi => by omega) zLF (by omega)
      exact ⟨M1, k1, k2, zr_trans F0 k3⟩
    · rw [if_neg (by
        intro e
        cases h1 : py_nu P (py_rt P) <;> cases h2 : py_nu Q (py_rt Q) <;> rw [h1, h2] at q e
        · exact q rfl
        · exact absurd e (by decide)
        · exact absurd e (by decide)
        · exact q rfl)]
      have hd1 : py_dif P Q [] = true := by
        rw [hdf]
        simpa using q
      have hul : py_ul P Q (List.range' 0 5) = some [] := ul_some (fun x hx => (by cases hx)) (by decide) hd1 (fun u _ hu => (by cases hu)) (fun u _ _ _ => Nat.zero_le _)
      rw [hul]
      refine ⟨_, rfl, ⟨by rw [pm_same]; rfl, by decide, fun x hx => (by cases hx), fun i x hx => (by cases hx)⟩, zr_trans F0 (zr_mono (zr_zf (zf_set (W := dd_W di) (.inl ⟨rfl, rfl, .inl rfl⟩))) (fun t k j w => .inr w))⟩
  have eb : di_seek (d + 1) di (some a1) (some a2) (some wk) M = di_seek_b d di (some a1) (some a2) (some wk) M := rfl
  rw [eb]
  unfold di_seek_b di_seek_26 di_seek_27 di_seek_50
  simp only [zlet]
  rw [← hM0]
  simp only [r1, r2, n1, n2]
  cases h1 : py_nu P (py_rt P) <;> cases h2 : py_nu Q (py_rt Q) <;> rw [h1, h2] at fin <;> exact fin
end
