/-! THE CLASS: step, canEnd, couldCome -/
def wz_W (wk t k j : Nat) : Prop := (t = 8 ∧ k = wk ∧ j ≠ 3 ∧ j ≠ 4) ∨ (t = 20 ∧ (k = wk + 11 ∨ k = wk + 12))
section
variable {M M' : zM} {pa : Nat → Nat} {P : yP} {d wk Q B : Nat} {s : yS}
theorem wz_h : ∀ t k j, wh_W wk t k j → wz_W wk t k j := fun t k j h => .inl ⟨h.1, h.2.1, by have := h.2.2.1; omega, by have := h.2.2.1; omega⟩
theorem wz_e : ∀ t k j, we_W wk t k j → wz_W wk t k j := by
  rintro t k j (h | h)
  · exact .inr h
  · exact .inl ⟨h.1, h.2.1, by have := h.2.2; omega, by have := h.2.2; omega⟩
theorem wl_zr (h : wk_l M wk) (hf : zr (wz_W wk) M M') : wk_l M' wk := by
  unfold wk_l
  rw [zr_L hf, zr_R hf (by rintro (⟨_, _, e, _⟩ | ⟨e, _⟩); exact e rfl; cases e), zr_R hf (by rintro (⟨_, _, _, e⟩ | ⟨e, _⟩); exact e rfl; cases e)]
  exact h
theorem cX_wz (h : cX M pa Q P) (hf : zr (wz_W wk) M M') (hq : Q + 10 ≤ wk) : cX M' pa Q P := by
  refine cX_zr h hf ?_ ?_ ?_ ?_ ?_
  · rintro k j (⟨e, _⟩ | ⟨e, _⟩) <;> cases e
  · rintro k j (⟨e, _⟩ | ⟨e, _⟩) <;> cases e
  · rintro j _ (⟨e, _⟩ | ⟨e, _⟩) <;> cases e
  · rintro k j (⟨e, _⟩ | ⟨e, _⟩) <;> cases e
  · rintro i j hi (⟨e, _⟩ | ⟨_, e⟩)
    · cases e
    · omega
theorem find_cg {p q : yW → Bool} : ∀ {l : List yW}, (∀ W, W ∈ l → p W = q W) → l.find? p = l.find? q := by
  intro l
  induction l with
  | nil => intro _; rfl
  | cons W l ih =>
    intro h
    rw [List.find?_cons, List.find?_cons, h W List.mem_cons_self, ih (fun V hV => h V (List.mem_cons_of_mem _ hV))]
theorem fd_avs (l : Nat) : py_fd P s l = (py_avs P s).find? (fun W => py_lt P W.1 == l) := by
  unfold py_fd py_avs
  generalize py_ways P s.1 = L
  induction L with
  | nil => rfl
  | cons W L ih =>
    rw [List.find?_cons, List.filter_cons]
    cases hc : py_cg P s W
    · rw [Bool.and_false]
      simpa using ih
    · simp only [if_true, Bool.and_true]
      rw [List.find?_cons]
      cases py_lt P W.1 == l
      · exact ih
      · rfl
theorem avs_lt (hP : py_ok P) (hv : ∀ o, s.1 = some o → o < py_nl P) {W : yW} (hW : W ∈ py_avs P s) : W.1 < py_nl P ∧ W ∈ py_ways P s.1 := by
  have := (List.mem_filter.mp hW).1
  exact ⟨(go_way hP hv this).1, this⟩
theorem cl_occ_4 (hP : py_ok P) (h : cR_x M pa Q P) {l : Nat} (hl : l < 26) : ∀ (m i : Nat) (A : List Nat), i + m = py_nl P → ∀ fuel, m < fuel → ru_occurrencesOf_4 d fuel Q (nI l) (zor A) (nI i) M = some (zor (A ++ (List.range' i m).filter (fun o => py_lt P o == l)), M) := by
  have hnl := ok_nl hP
  have h2 : zm_I M 5 Q 2 = nI (py_nl P) := h.2.2.2.1.1
  have ru := cR_ru h
  intro m
  induction m with
  | zero =>
    intro i A hi fuel hf
    cases fuel with
    | zero => cases hf
    | succ fuel =>
      rw [ru_occurrencesOf_4, h2, if_pos ((le_i2 (by omega) (by omega)).mpr (by omega))]
      simp
  | succ m ih =>
    intro i A hi fuel hf
    cases fuel with
    | zero => cases hf
    | succ fuel =>
      have hz : z_in (nI i) 16 := nI_in (by omega) (by omega)
      have hlt := ok_lt hP (show i < py_nl P by omega)
      have e1 := (h.2.2.2.2.1 i (by omega)).1
      have el : (nI (py_lt P i) = nI l) ↔ py_lt P i = l := nI_eq (by omega) (by omega)
      rw [ru_occurrencesOf_4, h2, if_neg (fun g => by have := (le_i2 (by omega) (by omega)).mp g; omega)]
      simp only [ru.1.1, ru.1.2, if_pos hz, nI_clamp (show i < 2 ^ 31 by omega), e1, el, ru_occurrencesOf_28, zlet, nI_1]
      rw [List.range'_succ, List.filter_cons]
      by_cases q : py_lt P i = l
      · have ez : zor A ||| (1 <<< (nI i &&& 31)) = zor (A ++ [i]) := zor_snoc A i
        rw [if_pos q, ez, ih (i + 1) (A ++ [i]) (by omega) fuel (by omega)]
        simp [q]
      · rw [if_neg q, ih (i + 1) A (by omega) fuel (by omega)]
        simp [q]
theorem cl_occ (hP : py_ok P) (h : cR_x M pa Q P) {l : Nat} (hl : l < 26) : ru_occurrencesOf d Q (nI l) M = some (zor ((List.range' 0 (py_nl P)).filter (fun o => py_lt P o == l)), M) := by
  have := zLF_100
  have hnl := ok_nl hP
  exact cl_occ_4 hP h hl (py_nl P) 0 [] (by omega) zLF (by omega)
theorem occ_bt (hP : py_ok P) {l o : Nat} (ho : o < py_nl P) : zbt (zor ((List.range' 0 (py_nl P)).filter (fun o => py_lt P o == l))) o = (py_lt P o == l) := by
  have hnl := ok_nl hP
  rw [zor_bt (fun q hq => by
    rw [List.mem_filter, List.mem_range'_1] at hq
    omega) (by omega), Bool.eq_iff_iff]
  rw [List.contains_iff_mem, List.mem_filter, List.mem_range'_1]
  constructor
  · rintro ⟨_, h⟩; exact h
  · intro h; exact ⟨by omega, h⟩
/-- a step -/
theorem cl_step (hP : py_ok P) (hd : 2 ≤ d) (h : wk_x M pa Q P wk s) (hu : wk_u P s) (hb : sw_b P B s) (hB : B ≤ 900) {l : Nat} (hl : l < 26) : ∃ M', wk_step d wk (nI l) M = some (zb (py_fd P s l).isSome, M') ∧ (py_fd P s l = none → wk_x M' pa Q P wk s) ∧ (∀ W, py_fd P s l = some W → wk_x M' pa Q P wk (py_go P s W) ∧ zm_I M' 8 wk 2 = zo W.2.1) ∧ zr (wz_W wk) M M' := by
  obtain ⟨d, rfl⟩ : ∃ d', d = d' + 1 := ⟨d - 1, by omega⟩
  have hv := wv_of hu hb hB
  have eb : wk_step (d + 1) wk (nI l) M = wk_step_b d wk (nI l) M := rfl
  rw [eb]
  unfold wk_step_b
  simp only [h.2.2.1, cl_occ hP h.1.2.2.1 hl, Option.bind_some]
  have efd : py_fd P s l = (py_avs P s).find? (fun W => zbt (zor ((List.range' 0 (py_nl P)).filter (fun o => py_lt P o == l))) W.1) := by
    rw [fd_avs]
    refine find_cg ?_
    intro W hW
    rw [occ_bt hP (avs_lt hP hb.1 hW).1]
  by_cases q : zor ((List.range' 0 (py_nl P)).filter (fun o => py_lt P o == l)) = 0
  · have hn : py_fd P s l = none := by
      rw [efd, List.find?_eq_none]
      intro W _
      rw [q, zy_0]
      simp
    rw [if_pos q, hn]
    exact ⟨M, rfl, fun _ => h, fun W hW => (by cases hW), zr_refl _ _⟩
  · rw [if_neg q]
    obtain ⟨M1, g1, g2, g3⟩ := cl_look (d := d) (w := zor ((List.range' 0 (py_nl P)).filter (fun o => py_lt P o == l))) hP (by omega) h hv
    have x1 := wx_wh h g3
    rw [g1, Option.bind_some]
    rw [← efd] at g2
    cases hf : py_fd P s l with
    | none =>
      rw [hf] at g2
      have g2 : zm_I M1 8 wk 5 = -1 := g2
      simp only
      rw [if_pos g2]
      exact ⟨M1, rfl, fun _ => x1, fun W hW => (by cases hW), zr_mono g3 wz_h⟩
    | some W =>
      rw [hf] at g2
      have hW : W ∈ py_avs P s := by
        rw [fd_avs] at hf
        exact List.mem_of_find?_eq_some hf
      obtain ⟨hWl, hWw⟩ := avs_lt hP hb.1 hW
      have hnl := ok_nl hP
      have hne : ¬ nI W.1 = -1 := pb_ne1 (by omega)
      obtain ⟨M2, k1, k2, k3, k4⟩ := cl_enter (d := d) hP x1 hb.1 hWw g2
      simp only
      rw [g2.1, if_neg hne, k1, Option.bind_some]
      refine ⟨M2, rfl, fun hh => (by cases hh), ?_, zr_trans (zr_mono g3 wz_h) (zr_mono (zr_zf k4) wz_e)⟩
      intro W' hW'
      injection hW' with hW'
      subst hW'
      exact ⟨k2, k3⟩
theorem cl_canEnd (hP : py_ok P) (hd : 2 ≤ d) (h : wk_x M pa Q P wk s) (hu : wk_u P s) (hb : sw_b P B s) (hB : B ≤ 900) : ∃ M', wk_canEnd d wk M = some (zb (py_ce P s), M') ∧ wk_x M' pa Q P wk s ∧ zr (wh_W wk) M M' := by
  obtain ⟨d, rfl⟩ : ∃ d', d = d' + 1 := ⟨d - 1, by omega⟩
  obtain ⟨M1, g1, g2, g3⟩ := cl_look (d := d) (w := 0) hP (by omega) h (wv_of hu hb hB)
  refine ⟨M1, ?_, wx_wh h g3, g3⟩
  have eb : wk_canEnd (d + 1) wk M = wk_canEnd_b d wk M := rfl
  rw [eb]
  unfold wk_canEnd_b
  rw [g1, Option.bind_some]
  have hnl := ok_nl hP
  have v2 := (see_v (A := (py_avs P s).map (fun W => W.1)) (w := 0) (b := py_ce P s) (fun q hq => by
    obtain ⟨W, hW, rfl⟩ := List.mem_map.mp hq
    have := (avs_lt hP hb.1 hW).1
    omega)).2
  simp only [v2]
  cases py_ce P s
  · rw [if_pos rfl]
    simp [wk_canEnd_16, zb]
  · rw [if_neg (by simp)]
    simp [wk_canEnd_16, zb]
theorem cl_lin_4 (hP : py_ok P) (h : cR_x M pa Q P) {v : Int32} : ∀ (m i : Nat) (A : List Nat), i + m = py_nl P → ∀ fuel, m < fuel → ru_lettersIn_4 d fuel Q v (zor A) (nI i) M = some (zor (A ++ ((List.range' i m).filter (fun o => zbt v o)).map (py_lt P)), M) := by
  have hnl := ok_nl hP
  have h2 : zm_I M 5 Q 2 = nI (py_nl P) := h.2.2.2.1.1
  have ru := cR_ru h
  intro m
  induction m with
  | zero =>
    intro i A hi fuel hf
    cases fuel with
    | zero => cases hf
    | succ fuel =>
      rw [ru_lettersIn_4, h2, if_pos ((le_i2 (by omega) (by omega)).mpr (by omega))]
      simp
  | succ m ih =>
    intro i A hi fuel hf
    cases fuel with
    | zero => cases hf
    | succ fuel =>
      have hz : z_in (nI i) 16 := nI_in (by omega) (by omega)
      have e1 := (h.2.2.2.2.1 i (by omega)).1
      rw [ru_lettersIn_4, h2, if_neg (fun g => by have := (le_i2 (by omega) (by omega)).mp g; omega), zy_has v (show i < 32 by omega)]
      simp only [ru.1.1, ru.1.2, if_pos hz, nI_clamp (show i < 2 ^ 31 by omega), e1, ru_lettersIn_31, zlet, nI_1]
      rw [List.range'_succ, List.filter_cons]
      cases q : zbt v i
      · rw [if_pos (by simp), ih (i + 1) A (by omega) fuel (by omega)]
        simp
      · have ez : zor A ||| (1 <<< (nI (py_lt P i) &&& 31)) = zor (A ++ [py_lt P i]) := zor_snoc A _
        rw [if_neg (by simp), ez, ih (i + 1) (A ++ [py_lt P i]) (by omega) fuel (by omega)]
        simp
theorem cl_lin (hP : py_ok P) (h : cR_x M pa Q P) {v : Int32} : ru_lettersIn d Q v M = some (zor (((List.range' 0 (py_nl P)).filter (fun o => zbt v o)).map (py_lt P)), M) := by
  have := zLF_100
  have hnl := ok_nl hP
  exact cl_lin_4 hP h (py_nl P) 0 [] (by omega) zLF (by omega)
theorem bt_65535 {i : Nat} (hi : i < 16) : zbt 65535 i = true := by
  have key : ∀ i : Fin 16, zbt 65535 i.val = true := by decide +kernel
  exact key ⟨i, hi⟩
theorem cl_couldCome (hP : py_ok P) (hd : 2 ≤ d) (h : wk_x M pa Q P wk s) (hu : wk_u P s) (hb : sw_b P B s) (hB : B ≤ 900) : ∃ M', wk_couldCome d wk M = some (zor (py_cc P s), M') ∧ wk_x M' pa Q P wk s ∧ zr (wh_W wk) M M' := by
  obtain ⟨d, rfl⟩ : ∃ d', d = d' + 1 := ⟨d - 1, by omega⟩
  obtain ⟨M1, g1, g2, g3⟩ := cl_look (d := d) (w := 65535) hP (by omega) h (wv_of hu hb hB)
  have x1 := wx_wh h g3
  refine ⟨M1, ?_, x1, g3⟩
  have eb : wk_couldCome (d + 1) wk M = wk_couldCome_b d wk M := rfl
  rw [eb]
  unfold wk_couldCome_b
  rw [g1, Option.bind_some]
  have hnl := ok_nl hP
  have hA : ∀ q, q ∈ (py_avs P s).map (fun W => W.1) → q < 16 := fun q hq => by
    obtain ⟨W, hW, rfl⟩ := List.mem_map.mp hq
    have := (avs_lt hP hb.1 hW).1
    omega
  have v1 := (see_v (w := 65535) (b := py_ce P s) hA).1
  simp only [h.2.2.1, v1, cl_lin hP x1.1.2.2.1, Option.bind_some]
  congr 2
  have hlt : ∀ q, q ∈ py_cc P s → q < 32 := by
    intro q hq
    unfold py_cc at hq
    obtain ⟨W, hW, rfl⟩ := List.mem_map.mp hq
    have := ok_lt hP (avs_lt hP hb.1 (W := W) hW).1
    omega
  have hbt : ∀ o, o < py_nl P → (zbt (zor ((py_avs P s).map (fun W => W.1)) &&& 65535) o = true ↔ o ∈ (py_avs P s).map (fun W => W.1)) := by
    intro o ho
    rw [zy_and, zor_bt (fun q hq => by have := hA q hq; omega) (by omega), bt_65535 (by omega), Bool.and_true]
    exact List.contains_iff_mem
  refine zor_ext ?_ hlt ?_
  · intro q hq
    obtain ⟨o, ho, rfl⟩ := List.mem_map.mp hq
    rw [List.mem_filter, List.mem_range'_1] at ho
    have := ok_lt hP (show o < py_nl P by omega)
    omega
  · intro q
    constructor
    · intro hq
      obtain ⟨o, ho, rfl⟩ := List.mem_map.mp hq
      rw [List.mem_filter, List.mem_range'_1] at ho
      obtain ⟨W, hW, e⟩ := List.mem_map.mp ((hbt o (by omega)).mp ho.2)
      unfold py_cc
      exact List.mem_map.mpr ⟨W, hW, by rw [e]⟩
    · intro hq
      unfold py_cc at hq
      obtain ⟨W, hW, rfl⟩ := List.mem_map.mp hq
      have hl := (avs_lt hP hb.1 (W := W) hW).1
      refine List.mem_map.mpr ⟨W.1, ?_, rfl⟩
      rw [List.mem_filter, List.mem_range'_1]
      exact ⟨by omega, (hbt _ hl).mpr (List.mem_map.mpr ⟨W, hW, rfl⟩)⟩
/-- it begins -/
theorem cl_begin (h : cX M pa Q P) (hw : wk_l M wk) (hq : Q + 10 ≤ wk) : ∃ M', wk_begin d wk (some Q) M = some M' ∧ wk_x M' pa Q P wk py_s00 ∧ zm_I M' 8 wk 2 = -1 ∧ zr (wz_W wk) M M' := by
  have hf : zr (wz_W wk) M (zm_setI (zm_setI (zm_setR M 8 wk 0 (some Q)) 8 wk 1 (-1)) 8 wk 2 (-1)) := zr_trans (zr_trans (zr_setR (.inl ⟨rfl, rfl, by decide, by decide⟩)) (zr_setI (.inl ⟨rfl, rfl, by decide, by decide⟩))) (zr_setI (.inl ⟨rfl, rfl, by decide, by decide⟩))
  refine ⟨_, rfl, ⟨cX_zr h hf ?_ ?_ ?_ ?_ ?_, ?_, ?_, hq, ?_, fun o ho => by cases ho⟩, pm_same, hf⟩
  · rintro k j (⟨e, _⟩ | ⟨e, _⟩) <;> cases e
  · rintro k j (⟨e, _⟩ | ⟨e, _⟩) <;> cases e
  · rintro j _ (⟨e, _⟩ | ⟨e, _⟩) <;> cases e
  · rintro k j (⟨e, _⟩ | ⟨e, _⟩) <;> cases e
  · rintro i j hi (⟨e, _⟩ | ⟨_, e⟩)
    · cases e
    · omega
  · unfold wk_l
    simp only [pm_RI, pm_LI, pm_LR]
    rw [pr_ne (by omega), pr_ne (by omega)]
    exact hw
  · simp only [pm_RI]
    exact pr_same
  · rw [pm_ne (by omega), pm_same]
    rfl
end
