/-! THE CLASS: all ways behind an occurrence -/
section
variable {M M' : zM} {pa : Nat → Nat} {P : yP} {d wy Q : Nat}
theorem cwf_fst (hP : py_ok P) : ∀ x, py_dm P x → ∀ f, py_hg P (py_rt P) - py_hg P x < f → ∀ en ov, (py_cwf P f x en ov).map (fun W => W.1) = py_wl P x := by
  refine ok_climb hP _ ?_ ?_
  · intro f hf en ov
    cases f with
    | zero => cases hf
    | succ f =>
      rw [wl_rt hP]
      unfold py_cwf
      rw [ok_up0 hP]
      rfl
  · intro x p hx e ih f hf en ov
    have h1 := ok_uphg hP hx e
    have h2 := ok_top hP (ok_pdm hP hx e)
    cases f with
    | zero => cases hf
    | succ f =>
      rw [wl_up hP hx e]
      unfold py_cwf
      rw [e]
      simp only
      rw [List.map_append]
      have e1 : (py_cvl P x en ov).map (fun W => W.1) = py_lv P x := by
        unfold py_cvl
        rw [List.map_map]
        exact List.map_id _
      rw [e1]
      cases py_pst P x
      · simp
      · simp only [if_true]
        rw [ih f (by omega)]
theorem hg_40 (hP : py_ok P) {x : Nat} (hx : py_dm P x) : py_hg P (py_rt P) - py_hg P x < 40 := by
  have := ok_hg30 hP (ok_rt hP)
  omega
theorem cw_fst (hP : py_ok P) {b : Option Nat} (hb : ∀ o, b = some o → o < py_nl P) : (py_cw P b).map (fun W => W.1) = py_ways P b := by
  cases b with
  | none =>
    show ((py_ways P none).map (fun W => (W, (0 : Int32), (0 : Int32), (0 : Int32)))).map (fun W => W.1) = _
    rw [List.map_map]
    exact List.map_id _
  | some o => exact cwf_fst hP _ (ok_lf hP (hb o rfl)) 40 (hg_40 hP (ok_lf hP (hb o rfl))) 0 0
theorem cw_len (hP : py_ok P) {b : Option Nat} (hb : ∀ o, b = some o → o < py_nl P) : (py_cw P b).length ≤ 48 := by
  have := ways_len hP hb
  rw [← cw_fst hP hb, List.length_map] at this
  exact this
theorem cl_wlist_55 (hP : py_ok P) (hd : 2 ≤ d) : ∀ x, py_dm P x → ∀ (fuel f : Nat) (M : zM) (l : List yK), py_hg P (py_rt P) - py_hg P x + 1 < fuel → py_hg P (py_rt P) - py_hg P x < f → wS M pa Q P wy → wk_h M wy l → l.length + (py_wl P x).length ≤ 48 → ∃ M', wy_list_55 d fuel wy (some Q) 1 (some (pa x)) M = some M' ∧ wk_h M' wy (l ++ py_cwf P f x (zm_I M 9 wy 5) (zm_I M 9 wy 6)) ∧ zf (wy_W wy) M M' := by
  obtain ⟨d, rfl⟩ : ∃ d', d = d' + 2 := ⟨d - 2, by omega⟩
  have stop : ∀ (fuel : Nat) (M : zM) (v : Option Nat), wy_list_55 (d + 2) (fuel + 1) wy (some Q) 0 v M = some M := by
    intro fuel M v
    cases v with
    | none => rfl
    | some a => rw [wy_list_55]; simp only [if_true]; rfl
  refine ok_climb hP _ ?_ ?_
  · intro fuel f M l hf hf2 h hl hlen
    cases fuel with
    | zero => cases hf
    | succ fuel =>
      cases fuel with
      | zero => omega
      | succ fuel =>
        cases f with
        | zero => cases hf2
        | succ f =>
          refine ⟨M, ?_, ?_, zf_refl _ _⟩
          · have e4 : zm_R M 3 (pa (py_rt P)) 4 = none := by rw [cN_up h.1.1 (ok_rt hP), ok_up0 hP]; rfl
            rw [wy_list_55]
            simp only [e4, wy_list_91, wy_list_92, stop]
            rw [if_neg (show ¬ (1 : Int32) = 0 by decide)]
          · unfold py_cwf
            rw [ok_up0 hP]
            simpa using hl
  · intro x p hx e ih fuel f M l hf hf2 h hl hlen
    have h1 := ok_uphg hP hx e
    have h2 := ok_top hP (ok_pdm hP hx e)
    cases fuel with
    | zero => cases hf
    | succ fuel =>
      cases f with
      | zero => cases hf2
      | succ f =>
        rw [wl_up hP hx e, List.length_append] at hlen
        obtain ⟨M1, g1, g2, g3, g4, g5⟩ := cl_wleave (d := d) hP hx e h hl (by omega)
        have w1 := wS_zf h g3
        have e4 : zm_R M 3 (pa x) 4 = some (pa p) := by rw [cN_up h.1.1 hx, e]; rfl
        have e4' : zm_R M1 3 (pa x) 4 = some (pa p) := by rw [cN_up w1.1.1 hx, e]; rfl
        rw [wy_list_55]
        simp only [e4, g1, Option.bind_some]
        rw [if_neg (show ¬ (1 : Int32) = 0 by decide)]
        unfold py_cwf
        rw [e]
        simp only
        cases hps : py_pst P x
        · rw [if_pos (show zb false = 0 from rfl)]
          cases fuel with
          | zero => omega
          | succ fuel =>
            refine ⟨M1, ?_, ?_, g3⟩
            · simp only [wy_list_91, wy_list_92, stop]
            · simpa using g2
        · rw [hps, if_pos rfl] at hlen
          rw [if_neg (show ¬ zb true = 0 by decide), if_pos rfl]
          have ecl : (py_cvl P x (zm_I M 9 wy 5) (zm_I M 9 wy 6)).length = (py_lv P x).length := by
            unfold py_cvl
            rw [List.length_map]
          obtain ⟨M', k1, k2, k3⟩ := ih fuel f M1 _ (by omega) (by omega) w1 g2 (by rw [List.length_append, ecl]; omega)
          refine ⟨M', ?_, ?_, zf_trans g3 k3⟩
          · simp only [wy_list_92, e4']
            exact k1
          · rw [g4, g5, List.append_assoc] at k2
            exact k2
theorem zLF_100 : 100 < zLF := by have := zLF_402; omega
theorem cl_wlist (hP : py_ok P) (hd : 3 ≤ d) {b : Option Nat} (hb : ∀ o, b = some o → o < py_nl P) (h : wS M pa Q P wy) : ∃ M', wy_list d wy (some Q) (zo b) M = some M' ∧ wk_h M' wy (py_cw P b) ∧ zf (wy_W wy) M M' := by
  obtain ⟨d, rfl⟩ : ∃ d', d = d' + 1 := ⟨d - 1, by omega⟩
  have eb : wy_list (d + 1) wy (some Q) (zo b) M = wy_list_b d wy (some Q) (zo b) M := rfl
  rw [eb]
  unfold wy_list_b
  obtain ⟨M5, hM5⟩ : ∃ Y, Y = zm_setI (zm_setI (zm_setI M 9 wy 4 0) 9 wy 5 0) 9 wy 6 0 := ⟨_, rfl⟩
  have hf : zf (wy_W wy) M M5 := by
    rw [hM5]
    exact zf_trans (zf_trans (zf_set (.inl ⟨rfl, rfl, .inl rfl⟩)) (zf_set (.inl ⟨rfl, rfl, .inr (.inl rfl)⟩))) (zf_set (.inl ⟨rfl, rfl, .inr (.inr rfl)⟩))
  have a4 : zm_I M5 9 wy 4 = 0 := by rw [hM5, pm_ne (by omega), pm_ne (by omega), pm_same]
  have a5 : zm_I M5 9 wy 5 = 0 := by rw [hM5, pm_ne (by omega), pm_same]
  have a6 : zm_I M5 9 wy 6 = 0 := by rw [hM5, pm_same]
  have h5 := wS_zf h hf
  have hl : wk_h M5 wy [] := ⟨a4, by simp, fun i x hx => by simp at hx⟩
  have er : zm_R M5 5 Q 1 = some (pa (py_rt P)) := h5.1.2.2.1.2.2.1
  have ru := cR_ru h5.1.2.2.1
  simp only [zlet]
  rw [← hM5]
  cases b with
  | none =>
    rw [if_pos (show zo none = -1 from rfl)]
    obtain ⟨M', g1, g2, g3, g4, g5⟩ := cl_put (d := d) hP (c := py_rt P) (a := none) (b := none) (ah := 0) (fun x hx => by cases hx) h5.2.1 hl (by
      have := ways_len hP (p := none) (fun o ho => by cases ho)
      rw [List.length_nil, Nat.zero_add]
      exact this)
    have g1 : wy_put d wy (zor (py_fl P (py_rt P))) (-1) 0 M5 = some M' := g1
    refine ⟨M', ?_, ?_, zf_trans hf g3⟩
    · simp only [er, wy_list_39, cX_fl h5.1 (ok_rt hP), g1, Option.bind_some]
    · rw [a5, a6] at g2
      exact g2
  | some o =>
    have ho := hb o rfl
    have hn := ok_nl hP
    have hne : ¬ zo (some o) = -1 := pb_ne1 (by omega)
    have hz : z_in (zo (some o)) 16 := nI_in (c := o) (by omega) (by omega)
    have hcl : (zo (some o)).toNatClampNeg = o := nI_clamp (show o < 2 ^ 31 by omega)
    have hlf := ok_lf hP ho
    have h30 := hg_40 hP hlf
    have h100 := zLF_100
    obtain ⟨M', g1, g2, g3⟩ := cl_wlist_55 (d := d) hP (by omega) (py_lf P o) hlf zLF 40 M5 [] (by omega) h30 h5 hl (by
      have := ways_len hP hb
      rw [List.length_nil, Nat.zero_add]
      exact this)
    have e6 := (h5.1.2.2.1.2.2.2.2.1 o ho).2
    refine ⟨M', ?_, ?_, zf_trans hf g3⟩
    · rw [if_neg hne]
      simp only [ru.2.1.1, ru.2.1.2, if_pos hz, hcl, e6]
      exact g1
    · rw [a5, a6] at g2
      exact g2
theorem cd_v {W : yW} (h1 : W.1 < 16) (h2 : ∀ x, W.2.1 = some x → x < 8) : py_cd W >>> (4 &&& 31) = nI W.1 ∧ (py_cd W &&& 15) - 1 = zo W.2.1 := by
  have key : ∀ (i : Fin 16) (c : Fin 9), (nI (16 * i.val + c.val)) >>> (4 &&& 31) = nI i.val ∧ (nI (16 * i.val + c.val) &&& 15) - 1 = nI c.val - 1 := by decide +kernel
  obtain ⟨o, b, a, n⟩ := W
  unfold py_cd
  cases b with
  | none =>
    have := key ⟨o, h1⟩ ⟨0, by omega⟩
    exact this
  | some x =>
    have hx := h2 x rfl
    have := key ⟨o, h1⟩ ⟨x + 1, by omega⟩
    refine ⟨this.1, this.2.trans ?_⟩
    show nI (x + 1) - 1 = nI x
    have k2 : ∀ c : Fin 8, nI (c.val + 1) - 1 = nI c.val := by decide +kernel
    exact k2 ⟨x, hx⟩
def py_kok (P : yP) (x : yK) : Prop := x.1.1 < py_nl P ∧ ∀ y, x.1.2.1 = some y → y < py_nc P
theorem cl_next_11 (hP : py_ok P) {l : List yK} (hk : ∀ x, x ∈ l → py_kok P x) (hw : wy_l M wy) (hl : wk_h M wy l) : ∀ (b a : List yK), l = a ++ b → ∀ fuel, b.length < fuel → wy_nextBehind_11 d fuel wy (zor (a.map (fun x => x.1.1))) (nI a.length) M = some (zor (l.map (fun x => x.1.1)), M) := by
  intro b
  have h48 := hl.2.1
  have hnl := ok_nl hP
  have hnc := ok_nc hP
  induction b with
  | nil =>
    intro a e fuel hf
    rw [List.append_nil] at e
    subst e
    cases fuel with
    | zero => cases hf
    | succ fuel =>
      rw [wy_nextBehind_11, hl.1, if_pos ((le_i2 (by omega) (by omega)).mpr (Nat.le_refl _))]
  | cons x b ih =>
    intro a e fuel hf
    have hlen : l.length = a.length + (b.length + 1) := by rw [e, List.length_append]; rfl
    cases fuel with
    | zero => cases hf
    | succ fuel =>
      have hx : l[a.length]? = some x := by rw [e]; simp
      have hko := hk x (by rw [e]; simp)
      have hz : z_in (nI a.length) 48 := nI_in (by omega) (by omega)
      have hcd := (cd_v (W := x.1) (by have := hko.1; omega) (fun y hy => by have := hko.2 y hy; omega)).1
      rw [wy_nextBehind_11, hl.1, if_neg (fun g => by have := (le_i2 (by omega) (by omega)).mp g; omega)]
      simp only [hw.1.1, hw.1.2, if_pos hz, nI_clamp (show a.length < 2 ^ 31 by omega), (hl.2.2 _ x hx).1, wy_occurrenceIn, Option.bind_some, hcd, zlet, nI_1]
      have := ih (a ++ [x]) (by rw [e]; simp) fuel (by simp at hf; omega)
      rw [List.map_append, List.length_append, zor_app] at this
      exact this
end
