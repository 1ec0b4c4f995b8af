/-! THE CLASS: the walk looks, all levels -/
section
variable {M M' : zM} {pa : Nat → Nat} {P : yP} {d wk Q : Nat} {s : yS}
theorem see_v {A : List Nat} {w : Int32} {b : Bool} (hA : ∀ q, q ∈ A → q < 16) : ((zor A &&& w) ||| (if b = true then 65536 else 0)) &&& (-65537) = zor A &&& w ∧ ((((zor A &&& w) ||| (if b = true then 65536 else 0)) &&& 65536 = 0) ↔ b = false) := by
  have hA32 : ∀ q, q ∈ A → q < 32 := fun q hq => by have := hA q hq; omega
  have e1 : (65536 : Int32) = zbit 16 := by decide
  have em : (-65537 : Int32) = zbit 16 ^^^ (-1) := by decide
  have hbt : ∀ i, i < 32 → zbt (zor A &&& w) i = (A.contains i && zbt w i) := fun i hi => by rw [zy_and, zor_bt hA32 hi]
  have h16 : zbt (zor A &&& w) 16 = false := by
    rw [hbt 16 (by omega)]
    have : A.contains 16 = false := by
      rw [Bool.eq_false_iff]
      intro y
      have := hA 16 (by simpa using y)
      omega
    rw [this]
    rfl
  have hif : ∀ i, i < 32 → zbt (if b = true then (65536 : Int32) else 0) i = (b && decide (i = 16)) := by
    intro i hi
    cases b
    · simp [zy_0]
    · simp only [if_true, Bool.true_and]
      rw [e1, zy_bit (by omega) hi]
  constructor
  · refine zy_ext ?_
    intro i hi
    rw [zy_and, zy_or, hif i hi, em, zy_xor, zy_m1 hi, zy_bit (by omega) hi]
    by_cases q : i = 16
    · subst q
      rw [h16]
      simp
    · simp [q]
  · constructor
    · intro e
      have : zbt (((zor A &&& w) ||| (if b = true then 65536 else 0)) &&& 65536) 16 = zbt 0 16 := congrArg (fun y => zbt y 16) e
      rw [zy_and, zy_or, hif 16 (by omega), h16, e1, zy_bit (by omega) (by omega), zy_0] at this
      simpa using this
    · intro e
      subst e
      refine zy_ext ?_
      intro i hi
      rw [zy_and, zy_or, hif i hi, e1, zy_bit (by omega) hi, zy_0]
      by_cases q : i = 16
      · subst q
        rw [h16]
        rfl
      · simp [q]
theorem zor_aw2 {A B : List Nat} {w : Int32} (hA : ∀ q, q ∈ A → q < 16) (hB : ∀ q, q ∈ B → q < 16) : (zor A &&& w) ||| (zor B &&& w) = zor (A ++ B) &&& w := by
  refine zy_ext ?_
  intro i hi
  have h1 : ∀ q, q ∈ A ++ B → q < 32 := by
    intro q hq
    rcases List.mem_append.mp hq with g | g
    · have := hA q g; omega
    · have := hB q g; omega
  rw [zy_or, zy_and, zy_and, zy_and, zor_bt (fun q hq => by have := hA q hq; omega) hi, zor_bt (fun q hq => by have := hB q hq; omega) hi, zor_bt h1 hi, List.contains_append]
  cases A.contains i <;> cases B.contains i <;> simp
theorem avl_16 (hP : py_ok P) {k n : Nat} (hk : py_dm P k) (e : py_up P k = some n) : ∀ q, q ∈ (py_avl P s k).map (fun W => W.1) → q < 16 := by
  intro q hq
  obtain ⟨W, hW, rfl⟩ := List.mem_map.mp hq
  exact (avl_lt hP hk e hW).1
/-- one level -/
theorem cl_look_1 (hP : py_ok P) (h : wk_x M pa Q P wk s) (hv : wk_v P s) {o k n : Nat} (hs : s.1 = some o) (hk : py_dm P k) (e : py_up P k = some n) (hw : py_wi P k (py_lf P o) = true) {w v : Int32} {fuel : Nat} : wk_look_90 d (fuel + 1) wk w v (some (pa k)) M = wk_look_178 (fun p0 p1 p2 p3 m => wk_look_90 d fuel p0 p1 p2 p3 m) d wk w v (some (pa k)) (py_see P s w k n) M := by
  have hn := ok_pdm hP hk e
  have hm := ok_pks hP hk e
  have hfin := ok_fin hP hk e
  obtain ⟨ck5, _, _, c2, c3, c4, c5⟩ := ck_v hP hn
  have e2 : (nI (ck (py_kd P n)) = 2) ↔ py_kd P n = 2 := (nI_eq (b := 2) (by omega) (by omega)).trans c2
  have e4 : (nI (ck (py_kd P n)) = 4) ↔ py_kd P n = 5 := (nI_eq (b := 4) (by omega) (by omega)).trans c4
  have e5 : (nI (ck (py_kd P n)) = 5) ↔ py_kd P n = 4 := (nI_eq (b := 5) (by omega) (by omega)).trans c5
  have ex : zm_R M 3 (pa k) 4 = some (pa n) := by rw [cN_up h.1.1 hk, e]; rfl
  have h0 : ∀ w : Int32, (0 : Int32) = zor [] &&& w := by
    intro w
    refine zy_ext ?_
    intro i hi
    rw [zy_and, zor_nil, zy_0, Bool.false_and]
  have elv : py_lv P k = if py_kd P n = 2 then py_rw P n (py_af (py_ks P n) k) else if py_kd P n = 4 then py_an2 P n k (py_ks P n) else if py_kd P n = 5 ∧ py_to P (py_nb P n) ≠ some 1 then py_il P (some n) k (some (py_nb P n)) else [] := by
    unfold py_lv
    rw [e]
  have eps : py_pst P k = if py_kd P n = 2 then (py_af (py_ks P n) k).all (py_nu P) else true := by
    unfold py_pst
    rw [e]
  have hks := ks_LF hP hn
  rw [wk_look_90]
  simp only [ex, cN_kd h.1.1 hn, e2, e4, e5]
  by_cases k2 : py_kd P n = 2
  · rw [if_pos k2]
    have hlen : (py_af (py_ks P n) k).length < zLF := by
      have := congrArg List.length hfin.1
      rw [List.length_append, List.length_cons] at this
      omega
    have key := cl_lrow_8 (d := d) (w := w) hP h.1 hn (py_af (py_ks P n) k) (py_bf (py_ks P n) k ++ [k]) [] (by rw [List.append_assoc]; exact hfin.1) (fun q hq => by cases hq) zLF hlen
    rw [← h0 w] at key
    have esee : py_see P s w k n = (zor ([] ++ (py_rw P n (py_af (py_ks P n) k)).map (fun W => W.1)) &&& w) ||| (if (py_af (py_ks P n) k).all (py_nu P) = true then 65536 else 0) := by
      unfold py_see
      rw [avl_eq hP hk e, elv, if_pos k2, eps, if_pos k2]
      have hg : ∀ W : yW, py_gt P s n W.2.2.2 = true := by
        intro W
        unfold py_gt
        rw [if_neg (by omega), if_neg (by omega)]
      have hcl : py_cl P s n = true := by
        unfold py_cl
        rw [if_neg (by omega), if_neg (by omega)]
      simp only [hg, hcl, Bool.and_true]
      rw [filt_t]
      rfl
    unfold wk_lookInRow
    simp only [cN_nx h.1.1 hn hfin.1, key, Option.bind_some]
    rw [esee]
  · rw [if_neg k2]
    by_cases k4 : py_kd P n = 4
    · rw [if_pos k4]
      have h4 := ok_k4 hP hn k4
      have hna := ok_na hP
      have hz : z_in (nI (py_nb P n)) 4 := nI_in (by omega) (by omega)
      have ho := (hv o hs).1
      have hwn : py_wi P (py_an P (py_nb P n)) (py_lf P o) = true := by
        rw [h4.2.2.2]
        exact wi_kid hP hn hm _ (ok_lf hP ho) hw
      have hbg := (h.2.2.2.2.2 o hs).2 _ h4.2.2.1 hwn
      have hown := (hv o hs).2.2 k n hk e hw k4
      have key := cl_lany_19 (d := d) (w := w) hP h.1 hn k4 hown (py_ks P n) [] [] rfl (fun q hq => by cases hq) zLF hks
      rw [← h0 w] at key
      have esee : py_see P s w k n = (zor ([] ++ ((py_an2 P n k (py_ks P n)).filter (fun W => !zbt (s.2.2 (py_nb P n)) (py_bf (py_ks P n) W.2.2.2).length)).map (fun W => W.1)) &&& w) ||| (if py_cl4 P (s.2.2 (py_nb P n)) 0 (py_ks P n) = true then 65536 else 0) := by
        unfold py_see
        rw [avl_eq hP hk e, elv, if_neg k2, if_pos k4, eps, if_neg k2]
        have hg : ∀ W : yW, py_gt P s n W.2.2.2 = !zbt (s.2.2 (py_nb P n)) (py_bf (py_ks P n) W.2.2.2).length := by
          intro W
          unfold py_gt
          rw [if_pos k4]
        have hcl : py_cl P s n = py_cl4 P (s.2.2 (py_nb P n)) 0 (py_ks P n) := by
          unfold py_cl
          rw [if_neg (by omega), if_pos k4]
        simp only [hg, hcl, Bool.true_and]
        rfl
      unfold wk_lookInAny
      simp only [cN_nb h.1.1 hn (.inr (.inl k4)), h.2.1.2.1, h.2.1.2.2, if_pos hz, nI_clamp (show py_nb P n < 2 ^ 31 by omega), hbg, zlet, cN_ks h.1.1 hn, key, Option.bind_some]
      rw [esee]
    · rw [if_neg k4]
      by_cases k5 : py_kd P n = 5
      · rw [if_pos k5]
        simp only [cN_nb h.1.1 hn (.inr (.inr k5)), cl_lcount hP h hv hs hk e hw k5, Option.bind_some]
      · rw [if_neg k5]
        have esee : py_see P s w k n = 65536 := by
          unfold py_see
          rw [avl_eq hP hk e, elv, if_neg k2, if_neg k4, if_neg (fun y => k5 y.1), eps, if_neg k2]
          have hcl : py_cl P s n = true := by
            unfold py_cl
            rw [if_neg k5, if_neg k4]
          rw [hcl]
          show (zor [] &&& w) ||| 65536 = 65536
          rw [← h0 w]
          decide
        rw [esee]
theorem cl_look_90 (hP : py_ok P) (hv : wk_v P s) {o : Nat} (hs : s.1 = some o) {w : Int32} : ∀ x, py_dm P x → py_wi P x (py_lf P o) = true → ∀ (fuel : Nat) (M : zM) (A : List Nat) (h : Option yW), py_hg P (py_rt P) - py_hg P x + 1 < fuel → wk_x M pa Q P wk s → wk_hit M pa wk h → (∀ W, h = some W → W.1 < 16) → (∀ q, q ∈ A → q < 16) → ∃ M', wk_look_90 d fuel wk w (zor A &&& w) (some (pa x)) M = some ((zor (A ++ (py_ava P s x).map (fun W => W.1)) &&& w) ||| (if (py_lx P x && py_be P s x) = true then 65536 else 0), M') ∧ wk_hit M' pa wk (h.or ((py_ava P s x).find? (fun W => zbt w W.1))) ∧ zr (wh_W wk) M M' := by
  refine ok_climb hP _ ?_ ?_
  · intro hw fuel M A h hf hx hh h16 hA
    cases fuel with
    | zero => cases hf
    | succ fuel =>
      have e4 : zm_R M 3 (pa (py_rt P)) 4 = none := by rw [cN_up hx.1.1 (ok_rt hP), ok_up0 hP]; rfl
      refine ⟨M, ?_, ?_, zr_refl _ _⟩
      · rw [wk_look_90]
        simp only [e4, wk_look_217]
        rw [ava_rt hP, ce_rt hP, if_pos rfl]
        simp
      · rw [ava_rt hP]
        cases h with
        | none => exact hh
        | some W => exact hh
  · intro k n hk e ih hw fuel M A h hf hx hh h16 hA
    have hn := ok_pdm hP hk e
    have hm := ok_pks hP hk e
    have ho := (hv o hs).1
    have h1 := ok_uphg hP hk e
    have h2 := ok_top hP hn
    cases fuel with
    | zero => cases hf
    | succ fuel =>
      have ex : ∀ M1, wk_x M1 pa Q P wk s → zm_R M1 3 (pa k) 4 = some (pa n) := fun M1 g => by rw [cN_up g.1.1 hk, e]; rfl
      obtain ⟨v1, v2⟩ := see_v (A := (py_avl P s k).map (fun W => W.1)) (w := w) (b := (py_pst P k && py_cl P s n)) (avl_16 hP hk e)
      obtain ⟨M1, g1, g2, g3⟩ := cl_note (d := d) (L := py_avl P s k) (a := some n) (w := w) (v := some (pa n)) (fun W hW => avl_lt hP hk e hW) (avl_pw hP hk e) rfl (note_fin hP hx.1.1 hn) hh h16
      have hx1 := wx_wh hx g3
      rw [cl_look_1 hP hx hv hs hk e hw]
      unfold wk_look_178
      simp only [ex M hx]
      have vs1 : py_see P s w k n &&& (-65537) = zor ((py_avl P s k).map (fun W => W.1)) &&& w := v1
      have vs2 : (py_see P s w k n &&& 65536 = 0) ↔ (py_pst P k && py_cl P s n) = false := v2
      rw [vs1, g1, Option.bind_some]
      simp only [zlet, vs2, ex M1 hx1, zor_aw2 hA (avl_16 hP hk e)]
      rw [ava_up hP hk e, ce_up hP hk e]
      cases hb : (py_pst P k && py_cl P s n)
      · rw [if_pos rfl]
        refine ⟨M1, ?_, ?_, g3⟩
        · simp
        · simpa using g2
      · rw [if_neg (by simp)]
        obtain ⟨M', k1, k2, k3⟩ := ih (wi_kid hP hn hm _ (ok_lf hP ho) hw) fuel M1 (A ++ (py_avl P s k).map (fun W => W.1)) _ (by omega) hx1 g2 (by
          intro W hW
          cases h with
          | some X => exact h16 W hW
          | none =>
            have hf2 : (py_avl P s k).find? (fun W => zbt w W.1) = some W := hW
            exact (avl_lt hP hk e (List.mem_of_find?_eq_some hf2)).1) (by
          intro q hq
          rcases List.mem_append.mp hq with g | g
          · exact hA q g
          · exact avl_16 hP hk e q g)
        refine ⟨M', ?_, ?_, zr_trans g3 k3⟩
        · rw [k1]
          simp [List.append_assoc]
        · rw [Option.or_assoc, ← List.find?_append] at k2
          simpa using k2
/-- look -/
theorem cl_look (hP : py_ok P) (hd : 1 ≤ d) (h : wk_x M pa Q P wk s) (hv : wk_v P s) {w : Int32} : ∃ M', wk_look d wk w M = some ((zor ((py_avs P s).map (fun W => W.1)) &&& w) ||| (if py_ce P s = true then 65536 else 0), M') ∧ wk_hit M' pa wk ((py_avs P s).find? (fun W => zbt w W.1)) ∧ zr (wh_W wk) M M' := by
  obtain ⟨d, rfl⟩ : ∃ d', d = d' + 1 := ⟨d - 1, by omega⟩
  have eb : wk_look (d + 1) wk w M = wk_look_b d wk w M := rfl
  rw [eb]
  unfold wk_look_b
  obtain ⟨M1, hM1⟩ : ∃ Y, Y = zm_setI M 8 wk 5 (-1) := ⟨_, rfl⟩
  have f1 : zr (wh_W wk) M M1 := by rw [hM1]; exact zr_setI ⟨rfl, rfl, by omega, by omega⟩
  have x1 := wx_wh h f1
  have h5 : wk_hit M1 pa wk none := by show zm_I M1 8 wk 5 = -1; rw [hM1, pm_same]
  have er : ∀ M2, wk_x M2 pa Q P wk s → zm_R M2 5 Q 1 = some (pa (py_rt P)) := fun M2 g => g.1.2.2.1.2.2.1
  have hnl := ok_nl hP
  simp only [zlet]
  rw [← hM1]
  simp only [x1.2.2.1, er M1 x1, x1.2.2.2.2.1]
  cases hs : s.1 with
  | none =>
    rw [if_pos (show zo none = -1 from rfl)]
    have hav : py_avs P s = py_il P none (py_rt P) none := by
      unfold py_avs
      rw [hs]
      show (py_il P none (py_rt P) none).filter (py_cg P s) = _
      rw [List.filter_eq_self]
      intro W _
      unfold py_cg
      rw [hs]
    have hce : py_ce P s = py_nu P (py_rt P) := by
      unfold py_ce
      rw [hs]
    obtain ⟨M2, g1, g2, g3⟩ := cl_note (d := d) (L := py_il P none (py_rt P) none) (a := none) (b := none) (w := w) (v := none) (pa := pa) (fun W hW => by
      obtain ⟨q, h1, rfl, _⟩ := il_mem hW
      exact ⟨by show q < 16; omega, rfl, rfl⟩) il_pw rfl note_fin0 h5 (fun W hW => by cases hW)
    have x2 := wx_wh x1 g3
    rw [il_fst] at g1
    rw [hav, hce, il_fst]
    refine ⟨M2, ?_, g2, zr_trans f1 g3⟩
    simp only [cX_fl x1.1 (ok_rt hP), g1, Option.bind_some, x2.2.2.1, er M2 x2, cX_fl x2.1 (ok_rt hP), cX_nu x2.1 (ok_rt hP), wk_look_73]
    cases py_nu P (py_rt P)
    · rw [if_pos (show zb false = 0 from rfl)]
      rfl
    · rw [if_neg (show ¬ zb true = 0 by decide)]
      rfl
  | some o =>
    have ho := (hv o hs).1
    have hne : ¬ zo (some o) = -1 := pb_ne1 (by omega)
    have hz : z_in (zo (some o)) 16 := nI_in (c := o) (by omega) (by omega)
    have hcl : (zo (some o)).toNatClampNeg = o := nI_clamp (show o < 2 ^ 31 by omega)
    have ru := cR_ru x1.1.2.2.1
    have hlf := ok_lf hP ho
    have h30 := hg_40 hP hlf
    have h100 := zLF_100
    have h0 : (0 : Int32) = zor [] &&& w := by
      refine zy_ext ?_
      intro i hi
      rw [zy_and, zor_nil, zy_0, Bool.false_and]
    obtain ⟨M', g1, g2, g3⟩ := cl_look_90 (d := d) (w := w) hP hv hs (py_lf P o) hlf (wi_self hP hlf) zLF M1 [] none (by omega) x1 h5 (fun W hW => by cases hW) (fun q hq => by cases hq)
    rw [← h0] at g1
    have e6 := (x1.1.2.2.1.2.2.2.2.1 o ho).2
    have hce : py_ce P s = (py_lx P (py_lf P o) && py_be P s (py_lf P o)) := by
      unfold py_ce
      rw [hs]
    rw [avs_eq hP ho hs, hce]
    refine ⟨M', ?_, ?_, zr_trans f1 g3⟩
    · rw [if_neg hne]
      simp only [ru.2.1.1, ru.2.1.2, if_pos hz, hcl, e6]
      exact g1
    · simpa using g2
end
