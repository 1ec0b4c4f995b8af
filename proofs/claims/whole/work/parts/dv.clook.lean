/-! THE CLASS: the walk looks -/
section
variable {M M' : zM} {pa : Nat → Nat} {P : yP} {d wk Q : Nat} {s : yS}
theorem filt_t {l : List yW} : l.filter (fun _ => true) = l := List.filter_eq_self.mpr (fun _ _ => rfl)
theorem avl_eq (hP : py_ok P) {k n : Nat} (hk : py_dm P k) (e : py_up P k = some n) : py_avl P s k = (py_lv P k).filter (fun W => py_gt P s n W.2.2.2) := by
  unfold py_avl
  refine List.filter_congr ?_
  intro W hW
  rw [(lv_what hP hk e hW).1]
theorem avl_lt (hP : py_ok P) {k n : Nat} (hk : py_dm P k) (e : py_up P k = some n) {W : yW} (hW : W ∈ py_avl P s k) : W.1 < 16 ∧ W.2.1 = (if py_kd P n = 5 then some (py_nb P n) else none) ∧ W.2.2.1 = some n := by
  unfold py_avl at hW
  obtain ⟨g1, g2, g3, _⟩ := lv_what hP hk e (List.mem_filter.mp hW).1
  have := ok_nl hP
  exact ⟨by omega, g3, g1⟩
theorem cl_lcount (hP : py_ok P) (h : wk_x M pa Q P wk s) (hv : wk_v P s) {o k n : Nat} (hs : s.1 = some o) (hk : py_dm P k) (e : py_up P k = some n) (hw : py_wi P k (py_lf P o) = true) (k5 : py_kd P n = 5) {w : Int32} : wk_lookInCount d wk (some (pa k)) (nI (py_nb P n)) w M = some (py_see P s w k n, M) := by
  have hn := ok_pdm hP hk e
  have hm := ok_pks hP hk e
  have h5 := ok_k5 hP hn k5
  have hc := h5.2.1
  have hnc := ok_nc hP
  have ho := (hv o hs).1
  have hwn : py_wi P (py_cn P (py_nb P n)) (py_lf P o) = true := by
    rw [h5.2.2]
    exact wi_kid hP hn hm _ (ok_lf hP ho) hw
  have htm := (h.2.2.2.2.2 o hs).1 _ hc hwn
  obtain ⟨t1, t9⟩ := (hv o hs).2.1 _ hc hwn
  obtain ⟨b, hkb, _, hfew⟩ := few_v hP hc
  rw [h5.2.2] at hkb
  have hbk : b = k := by
    rw [hkb] at hm
    exact (by simpa using hm : k = b).symm
  subst hbk
  obtain ⟨f1, f2⟩ := few_i hP hn k5
  have ru := cR_ru h.1.2.2.1
  have hz : z_in (nI (py_nb P n)) 8 := nI_in (by omega) (by omega)
  have hcl : (nI (py_nb P n)).toNatClampNeg = py_nb P n := nI_clamp (show py_nb P n < 2 ^ 31 by omega)
  have hto : zm_I M 20 (Q + 6) (py_nb P n) = zo (py_to P (py_nb P n)) := (h.1.2.2.1.1.2 _ hc).2
  have hfe := h.1.2.2.2.1 _ hc
  -- what the reference says
  have hgt : ∀ c, py_gt P s n c = (match py_to P (py_nb P n) with
    | none => true
    | some t => decide (s.2.1 (py_nb P n) < t)) := by
    intro c
    unfold py_gt
    rw [if_neg (by omega), if_pos k5]
    rfl
  have hlv : py_lv P b = if py_to P (py_nb P n) ≠ some 1 then py_il P (some n) b (some (py_nb P n)) else [] := by
    unfold py_lv
    rw [e]
    simp only
    rw [if_neg (by omega), if_neg (by omega)]
    simp [k5]
  have hps : py_pst P b = true := by
    unfold py_pst
    rw [e]
    simp [k5]
  have hce : py_cl P s n = decide (py_few P (py_nb P n) ≤ s.2.1 (py_nb P n)) := by
    unfold py_cl
    rw [if_pos k5, hkb, hfew]
    simp only [List.all_cons, List.all_nil, Bool.and_true]
    cases hnu : py_nu P b
    · by_cases f0 : py_fr P (py_nb P n) = 0
      · simp [f0]; exact t1
      · simp [f0]
    · simp; exact t1
  have hal : (py_avl P s b).map (fun W => W.1) = if (match py_to P (py_nb P n) with
    | none => true
    | some t => decide (s.2.1 (py_nb P n) < t)) = true then py_fl P b else [] := by
    rw [avl_eq hP hk e]
    simp only [hgt]
    rw [hlv]
    cases ht : py_to P (py_nb P n) with
    | none =>
      simp only [if_true]
      rw [if_pos (by simp)]
      exact (congrArg (List.map (fun W : yW => W.1)) filt_t).trans il_fst
    | some t =>
      simp only
      by_cases q1 : t = 1
      · subst q1
        rw [if_neg (by simp), if_neg (by simp; omega)]
        rfl
      · rw [if_pos (by simpa using q1)]
        by_cases q2 : s.2.1 (py_nb P n) < t
        · rw [if_pos (by simpa using q2)]
          simp only [q2, decide_true]
          exact (congrArg (List.map (fun W : yW => W.1)) filt_t).trans il_fst
        · rw [if_neg (by simpa using q2)]
          simp [q2]
  have h53 : ∀ v, wk_lookInCount_53 d wk (nI (py_nb P n)) v M = some (v ||| (if (py_pst P b && py_cl P s n) = true then 65536 else 0), M) := by
    intro v
    unfold wk_lookInCount_53
    simp only [h.2.1.1.1, h.2.1.1.2, if_pos hz, hcl, h.2.2.1, ru.2.2.2.2.2.2.1.1, ru.2.2.2.2.2.2.1.2, htm, hfe]
    rw [hps, hce]
    by_cases q : py_few P (py_nb P n) ≤ s.2.1 (py_nb P n)
    · rw [if_neg (fun y => by have := (lt_i2 (by omega) (by omega)).mp y; omega), if_pos (by simpa using q)]
      rfl
    · rw [if_pos ((lt_i2 (by omega) (by omega)).mpr (by omega)), if_neg (by simpa using q), Int32.or_zero]
      rfl
  have h0 : (0 : Int32) = zor [] &&& w := by
    refine zy_ext ?_
    intro i hi
    rw [zy_and, zor_nil, zy_0, Bool.false_and]
  unfold wk_lookInCount py_see
  simp only [h.2.2.1, ru.2.2.2.2.2.1.1, ru.2.2.2.2.2.1.2, if_pos hz, hcl, hto, h.2.1.1.1, h.2.1.1.2, htm]
  rw [hal]
  cases ht : py_to P (py_nb P n) with
  | none =>
    rw [if_pos (show zo none = -1 from rfl)]
    simp only [wk_lookInCount_31, wk_lookInCount_36, cX_fl h.1 hk, h53]
    rw [if_neg (show ¬ (1 : Int32) = 0 by decide)]
    simp
  | some t =>
    have htt := ok_to hP hc ht
    have h1 : ¬ zo (some t) = -1 := pb_ne1 (by omega)
    have h2 : (zo (some t) ≤ nI (s.2.1 (py_nb P n))) ↔ t ≤ s.2.1 (py_nb P n) := le_i2 (m := t) (by omega) (by omega)
    rw [if_neg h1]
    by_cases q : s.2.1 (py_nb P n) < t
    · rw [if_neg (fun y => by have := h2.mp y; omega)]
      simp only [wk_lookInCount_31, wk_lookInCount_36, cX_fl h.1 hk, h53]
      rw [if_neg (show ¬ (1 : Int32) = 0 by decide)]
      simp [q]
    · rw [if_pos (h2.mpr (by omega))]
      simp only [wk_lookInCount_36, h53]
      rw [if_pos (show True from trivial)]
      simp only [q, decide_false, Bool.false_eq_true, if_false]
      rw [← h0]
end
