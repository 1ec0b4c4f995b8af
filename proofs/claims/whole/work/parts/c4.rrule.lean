/-! THE RULES' text: the model reads a rule, and rules -/
def ru_x (am : Nat) (M : zM) (i : Nat) (u : yU) : Prop := (zm_I M 20 (am + 5) (5 * i) = nI u.1 ∧ zm_I M 20 (am + 5) (5 * i + 1) = nI u.2.1 ∧ zm_I M 20 (am + 5) (5 * i + 2) = nI u.2.2.2.2.1.length ∧ zm_I M 20 (am + 5) (5 * i + 3) = nI u.2.2.2.2.2.1.length ∧ zm_I M 20 (am + 5) (5 * i + 4) = nI u.2.2.2.2.2.2.length) ∧ (∀ (k : Nat) (x : Nat × Nat), u.2.2.2.2.1[k]? = some x → k < 16 ∧ zm_I M 20 (am + 9) (2 * (16 * i + k)) = nI x.1 ∧ zm_I M 20 (am + 9) (2 * (16 * i + k) + 1) = nI x.2) ∧ (∀ (k : Nat) (x : Nat × Option Nat × Nat), u.2.2.2.2.2.1[k]? = some x → k < 8 ∧ zm_I M 20 (am + 7) (3 * (8 * i + k)) = nI x.1 ∧ zm_I M 20 (am + 7) (3 * (8 * i + k) + 1) = zo x.2.1 ∧ zm_I M 20 (am + 7) (3 * (8 * i + k) + 2) = nI x.2.2) ∧ (∀ (k x : Nat), u.2.2.2.2.2.2[k]? = some x → k < 4 ∧ zm_I M 20 (am + 11) (4 * i + k) = nI x)
def rr_x (am : Nat) (M : zM) (T : List Nat) (us : List yU) (b : List Nat) (p N : Nat) (X : Nat → yX) : Prop := ml_ok am M ∧ mt_p am M T ∧ rp_x am M T b p ∧ zm_I M 12 am 4 = -1 ∧ rn_x am M N X ∧ zm_I M 12 am 16 = nI us.length ∧ ∀ i u, us[i]? = some u → ru_x am M i u
def rv_r (am r t k j : Nat) : Prop := rw_r am r t k j ∨ (t = 20 ∧ k = am + 5 ∧ 5 * r ≤ j ∧ j < 5 * r + 5)
theorem rv_w {am r : Nat} {M M' : zM} (h : zf (rw_r am r) M M') : zf (rv_r am r) M M' := zf_mono h (fun t k j w => .inl w)
section
variable {am d : Nat} {M : zM} {T : List Nat}
theorem ru_rw {M' : zM} {i r : Nat} {u : yU} (h : ru_x am M i u) (hf : zf (rv_r am r) M M') (hi : i < r) : ru_x am M' i u := by
  obtain ⟨⟨h1, h2, h3, h4, h5⟩, h6, h7, h8⟩ := h
  have hw : ∀ k j, (k = 5 ∧ j < 5 * i + 5) ∨ (k = 7 ∧ j < 24 * i + 24) ∨ (k = 9 ∧ j < 32 * i + 32) ∨ (k = 11 ∧ j < 4 * i + 4) → zm_I M' 20 (am + k) j = zm_I M 20 (am + k) j := by
    intro k j h
    refine hf.2.2.2.2.2.2 20 (am + k) j ?_
    intro w
    rcases w with (⟨w, _⟩ | ⟨w, _⟩ | ⟨_, w⟩) | ⟨_, w⟩
    · omega
    · omega
    · omega
    · omega
  refine ⟨⟨?_, ?_, ?_, ?_, ?_⟩, ?_, ?_, ?_⟩
  · rw [hw _ _ (by omega)]; exact h1
  · rw [hw _ _ (by omega)]; exact h2
  · rw [hw _ _ (by omega)]; exact h3
  · rw [hw _ _ (by omega)]; exact h4
  · rw [hw _ _ (by omega)]; exact h5
  · intro k x hx
    have g := h6 k x hx
    rw [hw _ _ (by omega), hw _ _ (by omega)]
    exact g
  · intro k x hx
    have g := h7 k x hx
    rw [hw _ _ (by omega), hw _ _ (by omega), hw _ _ (by omega)]
    exact g
  · intro k x hx
    have g := h8 k x hx
    rw [hw _ _ (by omega)]
    exact g
theorem rw_to {M' : zM} {r : Nat} (h : zf (rv_r am r) M M') : zf (mg am [3, 4, 17] [3, 5, 7, 9, 11]) M M' := by
  refine zf_mono h ?_
  intro t k j w
  rcases w with (⟨w1, w2, w3⟩ | ⟨w1, i, w2, w3⟩ | ⟨w1, w⟩) | ⟨w1, w, _⟩
  · exact .inl ⟨w1, w2, by simp; omega⟩
  · exact .inr ⟨.inr w1, i, by simpa using w2, w3⟩
  · rcases w with w | w | w | w | w
    · exact .inr ⟨.inl w1, 3, by simp, w⟩
    · exact .inr ⟨.inl w1, 5, by simp, w.1⟩
    · exact .inr ⟨.inl w1, 7, by simp, w.1⟩
    · exact .inr ⟨.inl w1, 9, by simp, w.1⟩
    · exact .inr ⟨.inl w1, 11, by simp, w.1⟩
  · exact .inr ⟨.inl w1, 5, by simp, w⟩
theorem ru_mg {M' : zM} {i : Nat} {u : yU} {F A : List Nat} (h : ru_x am M i u) (hf : zf (mg am F A) M M') (hA : ¬ 5 ∈ A ∧ ¬ 7 ∈ A ∧ ¬ 9 ∈ A ∧ ¬ 11 ∈ A) : ru_x am M' i u := by
  unfold ru_x
  have e5 : ∀ j, zm_I M' 20 (am + 5) j = zm_I M 20 (am + 5) j := fun j => mg_a hf (by decide) hA.1
  have e7 : ∀ j, zm_I M' 20 (am + 7) j = zm_I M 20 (am + 7) j := fun j => mg_a hf (by decide) hA.2.1
  have e9 : ∀ j, zm_I M' 20 (am + 9) j = zm_I M 20 (am + 9) j := fun j => mg_a hf (by decide) hA.2.2.1
  have e11 : ∀ j, zm_I M' 20 (am + 11) j = zm_I M 20 (am + 11) j := fun j => mg_a hf (by decide) hA.2.2.2
  simp only [e5, e7, e9, e11]
  exact h
theorem rr_look {us : List yU} {b : List Nat} {p N : Nat} {X : Nat → yX} (hok : tp_ok T) (h : rr_x am M T us b p N X) (hd : 1 ≤ d) : ∃ M', mo_look d am M = some (py_ht (py_sk b p).1, M') ∧ rr_x am M' T us (py_sk b p).1 (py_sk b p).2 N X ∧ zf (mg am [3] []) M M' ∧ (∀ x, x ∈ (py_sk b p).1 → x < 256) := by
  obtain ⟨h1, h2, h3, h4, h5, h6, h7⟩ := h
  obtain ⟨M', g1, g2, g3, g4⟩ := mr_look2 (d := d) hok h1 h2 h3 hd
  exact ⟨M', g1, ⟨ml_zf h1 g3, mt_mg h2 g3 (by simp) (by simp), g2, by rw [mg_f g3 (by simp)]; exact h4, rn_mg h5 g3 (by simp) (by simp), by rw [mg_f g3 (by simp)]; exact h6, fun i u hu => ru_mg (h7 i u hu) g3 (by simp)⟩, g3, g4⟩
/-- the letters of the rules ahead -/
theorem mr_oneRule_12 {us : List yU} {v1 : Int32} {l : Nat} (hl : ml_ok am M) (h4 : zm_I M 12 am 4 = -1) (h16 : zm_I M 12 am 16 = nI us.length) (hus : us.length ≤ 8) (hu : ∀ i u, us[i]? = some u → zm_I M 20 (am + 5) (5 * i) = nI u.1 ∧ u.1 < 26) : ∀ (m k : Nat) (g : Bool), k + m = us.length → (g = true → v1 - 97 = nI l ∧ l < 26) → ∀ fuel, m < fuel → mo_oneRule_12 d fuel am v1 (zb g) (nI k) M = (if (g && (us.drop k).all (fun u => !(u.1 == l))) = true then mo_oneRule_76 d zLF am v1 0 (zm_setI M 12 am 3 (zm_I M 12 am 3 + 1)) else some (zm_setI M 12 am 4 (zm_I M 12 am 3))) := by
  intro m
  induction m with
  | zero =>
    intro k g hk hg fuel hf
    cases fuel with
    | zero => cases hf
    | succ fuel =>
      have : k = us.length := by omega
      subst this
      rw [mo_oneRule_12, h16, if_pos (nI_le (Nat.le_refl _) (by omega)), List.drop_length]
      simp only [List.all_nil, Bool.and_true, zlet, mr_fails h4, Option.bind_some]
      cases g
      · simp only [pb_zbf, if_true, Bool.false_eq_true, if_false]
      · simp only [pb_zbt, if_neg (show ¬ (1 : Int32) = 0 by decide), if_true]
  | succ m ih =>
    intro k g hk hg fuel hf
    cases fuel with
    | zero => cases hf
    | succ fuel =>
      have hk8 : k < us.length := by omega
      obtain ⟨u, hku⟩ := gl_some (l := us) hk8
      have eD : us.drop k = u :: us.drop (k + 1) := by
        rw [List.drop_eq_getElem_cons hk8]
        have : us[k] = u := by
          have := (List.getElem?_eq_some_iff.mp hku).2
          exact this
        rw [this]
      obtain ⟨hc, hc26⟩ := hu k u hku
      have ihf := ih (k + 1) false (by omega) (fun h => by cases h) fuel (by omega)
      rw [mo_oneRule_12, h16, if_neg (show ¬ nI us.length ≤ nI k from nI_ge (by omega) (by omega)), eD]
      simp only [List.all_cons]
      rw [pb_zbf] at ihf
      cases g
      · simp only [pb_zbf, if_true, mo_oneRule_43, mo_oneRule_44, zlet, nI_1, Bool.false_and, Bool.false_eq_true, if_false]
        simp only [Bool.false_and, Bool.false_eq_true, if_false] at ihf
        exact ihf
      · obtain ⟨g1, g2⟩ := hg rfl
        have iht := ih (k + 1) true (by omega) hg fuel (by omega)
        rw [pb_zbt] at iht
        have e5 : 5 * nI k = nI (5 * k) := by
          show nI 5 * nI k = _
          rw [pk_mul]
        have z5 : z_in (nI (5 * k)) 40 := nI_in (by omega) (by omega)
        have ee : (nI u.1 = nI l) ↔ u.1 = l := nI_eq (by omega) (by omega)
        simp only [pb_zbt, if_neg (show ¬ (1 : Int32) = 0 by decide), ml_R8 hl, ml_L8 hl, e5, if_pos z5, nI_clamp (show 5 * k < 2 ^ 31 by omega), hc, g1, ee, mo_oneRule_43, mo_oneRule_44, zlet, nI_1]
        by_cases q : u.1 = l
        · rw [if_pos q]
          simp only [Bool.false_and, Bool.false_eq_true, if_false] at ihf
          rw [ihf]
          simp [q]
        · rw [if_neg q, iht]
          have : (u.1 == l) = false := by simpa using q
          simp only [this, Bool.not_false, Bool.true_and]
/-- the rule's row is cleared -/
theorem mr_oneRule_76 {r : Nat} (hr : r < 8) (v1 : Int32) : ∀ (m k : Nat) (M : zM), k + m = 5 → ml_ok am M → zm_I M 12 am 16 = nI r → (∀ j, j < k → zm_I M 20 (am + 5) (5 * r + j) = 0) → ∀ fuel, m < fuel → ∃ M', mo_oneRule_76 d fuel am v1 (nI k) M = ((mo_takes d am 61 (zm_setI M' 20 (am + 5) (5 * r) (v1 - 97))).bind fun q7 => (if q7.1 = 0 then ((mo_fails d am (zm_I q7.2 12 am 3) q7.2).bind fun q10 => some q10) else ((mo_pattern d am 0 q7.2).bind fun q12 => (match (zm_R q12.2 12 am 8) with | none => none | some k16 => (if z_in ((5 * (zm_I q12.2 12 am 16)) + 1) (zm_L q12.2 20 k16) then (zlet (zm_setI q12.2 20 k16 ((5 * (zm_I q12.2 12 am 16)) + 1).toNatClampNeg q12.1) fun M19 => some M19) else none))))) ∧ (∀ j, j < 5 → zm_I M' 20 (am + 5) (5 * r + j) = 0) ∧ zf (rv_r am r) M M' ∧ zf (mg am [] [5]) M M' := by
  intro m
  induction m with
  | zero =>
    intro k M hk hl h16 hc fuel hf
    cases fuel with
    | zero => cases hf
    | succ fuel =>
      have : k = 5 := by omega
      subst this
      have e5 : 5 * nI r = nI (5 * r) := by
        show nI 5 * nI r = _
        rw [pk_mul]
      have z5 : z_in (nI (5 * r)) 40 := nI_in (by omega) (by omega)
      refine ⟨M, ?_, hc, zf_refl _ _, zf_refl _ _⟩
      rw [mo_oneRule_76, if_pos (show (5 : Int32) ≤ nI 5 by decide)]
      simp only [ml_R8 hl, ml_L8 hl, h16, e5, if_pos z5, nI_clamp (show 5 * r < 2 ^ 31 by omega)]
      rfl
  | succ m ih =>
    intro k M hk hl h16 hc fuel hf
    cases fuel with
    | zero => cases hf
    | succ fuel =>
      have e5 : 5 * nI r + nI k = nI (5 * r + k) := mx_5 _ _
      have z5 : z_in (nI (5 * r + k)) 40 := nI_in (by omega) (by omega)
      obtain ⟨M', g1, g2, g3, g4⟩ := ih (k + 1) (zm_setI M 20 (am + 5) (5 * r + k) 0) (by omega) (ml_set hl) (by rw [pm_ne (by omega)]; exact h16) (by
        intro j hj
        by_cases e : j = k
        · subst e
          exact pm_same
        · rw [pm_ne (by omega)]
          exact hc j (by omega)) fuel (by omega)
      refine ⟨M', ?_, g2, zf_trans (zf_set (.inr ⟨rfl, rfl, by omega, by omega⟩)) g3, zf_trans (zf_set (.inr ⟨.inl rfl, 5, by simp, rfl⟩)) g4⟩
      rw [mo_oneRule_76, if_neg (show ¬ (5 : Int32) ≤ nI k from nI_ge (b := 5) (by omega) (by omega))]
      simp only [ml_R8 hl, ml_L8 hl, h16, e5, if_pos z5, nI_clamp (show 5 * r + k < 2 ^ 31 by omega), zlet, nI_1]
      exact g1
theorem rm_rule (hok : tp_ok T) (hd : 60 ≤ d) {us : List yU} {b : List Nat} {p N : Nat} {X : Nat → yX} (h : rr_x am M T us b p N X) (hus : us.length < 8) (hN : N + b.length ≤ 400) (h26 : ∀ (i : Nat) (u : yU), us[i]? = some u → u.1 < 26) : ∃ M', mo_oneRule d am M = some M' ∧ zf (mg am [3, 4, 17] [3, 5, 7, 9, 11]) M M' ∧ ((∃ e, pp_rule (us.map (fun u => u.1)) b p N X = .error e ∧ zm_I M' 12 am 4 = nI e ∧ e ≤ 400) ∨ (∃ x, pp_rule (us.map (fun u => u.1)) b p N X = .ok x ∧ ml_ok am M' ∧ mt_p am M' T ∧ rp_x am M' T x.2.1 x.2.2.1 ∧ zm_I M' 12 am 4 = -1 ∧ rn_x am M' x.2.2.2.1 x.2.2.2.2.1 ∧ zm_I M' 12 am 16 = nI us.length ∧ ∀ i u, (us ++ [x.1])[i]? = some u → ru_x am M' i u)) := by
  have hLF := zLF_402
  obtain ⟨d, rfl⟩ : ∃ d', d = d' + 1 := ⟨d - 1, by omega⟩
  have eb : mo_oneRule (d + 1) am M = mo_oneRule_b d am M := rfl
  rw [eb]
  unfold mo_oneRule_b
  obtain ⟨M1, k1, k2, k3, k4⟩ := rr_look (d := d) hok h (by omega)
  rw [k1]
  simp only [Option.bind_some]
  obtain ⟨hl1, hT1, hp1, h41, hn1, h161, hu1⟩ := k2
  have hp400 : (py_sk b p).2 ≤ 400 := rp_le hok hp1
  have hu12 : ∀ i u, us[i]? = some u → zm_I M1 20 (am + 5) (5 * i) = nI u.1 ∧ u.1 < 26 := fun i u hu => ⟨(hu1 i u hu).1.1, h26 i u hu⟩
  have z1 : zf (mg am [3, 4, 17] [3, 5, 7, 9, 11]) M M1 := zf_mono k3 (mg_mono (by simp) (by simp))
  have z2 : zf (mg am [3, 4, 17] [3, 5, 7, 9, 11]) M (zm_setI M1 12 am 4 (nI (py_sk b p).2)) := zf_trans z1 (zf_set (.inl ⟨rfl, rfl, by simp⟩))
  have l0 := sk_len b p
  cases e : (py_sk b p).1 with
  | nil =>
    have g := mr_oneRule_12 (d := d) (v1 := -1) (l := 0) hl1 h41 h161 (by omega) hu12 us.length 0 false (by omega) (fun h => by cases h) zLF (by omega)
    rw [pb_zbf] at g
    have g : mo_oneRule_12 d zLF am (-1) 0 0 M1 = _ := g
    simp only [Bool.false_and, Bool.false_eq_true, if_false] at g
    simp only [py_ht, mr_isLetter1, Option.bind_some, g]
    refine ⟨_, rfl, by rw [hp1.1]; exact z2, .inl ⟨(py_sk b p).2, ?_, by rw [pm_same]; exact hp1.1, hp400⟩⟩
    unfold pp_rule
    rw [e]
  | cons c r =>
    rw [e] at l0 hp1
    have l1 : r.length + 1 ≤ b.length := by simpa using l0
    have hc : c < 256 := k4 c (by rw [e]; simp)
    simp only [py_ht, mr_isLetter hc, Option.bind_some]
    have ev : pp_rule (us.map (fun u => u.1)) b p N X = (if (97 ≤ c ∧ c ≤ 122) ∧ ¬ (c - 97) ∈ us.map (fun u => u.1) then (match pp_sgn 61 r ((py_sk b p).2 + 1) with
      | .error e => .error e
      | .ok y => match pp_pat 8 (y.1, y.2, N, X, [], [], []) with
        | .error e => .error e
        | .ok x => .ok ((c - 97, x.1, N, x.2.2.2.1, x.2.2.2.2.2.1, x.2.2.2.2.2.2.1, x.2.2.2.2.2.2.2), x.2)) else .error (py_sk b p).2) := by
      unfold pp_rule
      rw [e]
      rfl
    have g := mr_oneRule_12 (d := d) (v1 := nI c) (l := c - 97) hl1 h41 h161 (by omega) hu12 us.length 0 (decide (97 ≤ c ∧ c ≤ 122)) (by omega) (fun h => by
      have h := of_decide_eq_true h
      exact ⟨pk_sub (a := c) (b := 97) (by omega), by omega⟩) zLF (by omega)
    have g : mo_oneRule_12 d zLF am (nI c) (zb (decide (97 ≤ c ∧ c ≤ 122))) 0 M1 = _ := g
    rw [g, ev, List.drop_zero]
    have eflag : ((decide (97 ≤ c ∧ c ≤ 122) && us.all (fun u => !(u.1 == c - 97))) = true) ↔ ((97 ≤ c ∧ c ≤ 122) ∧ ¬ (c - 97) ∈ us.map (fun u => u.1)) := by
      rw [Bool.and_eq_true, decide_eq_true_iff, List.all_eq_true]
      constructor
      · intro ⟨a1, a2⟩
        refine ⟨a1, ?_⟩
        intro hm
        obtain ⟨u, hu, he⟩ := List.mem_map.mp hm
        have := a2 u hu
        simp [he] at this
      · intro ⟨a1, a2⟩
        refine ⟨a1, ?_⟩
        intro u hu
        have : ¬ u.1 = c - 97 := fun he => a2 (List.mem_map.mpr ⟨u, hu, he⟩)
        simpa using this
    by_cases c1 : (97 ≤ c ∧ c ≤ 122) ∧ ¬ (c - 97) ∈ us.map (fun u => u.1)
    · rw [if_pos c1, if_pos (eflag.mpr c1), hp1.1, nI_1]
      have e97 : nI c - 97 = nI (c - 97) := pk_sub (a := c) (b := 97) (by omega)
      obtain ⟨M2, m1, m2, m3, m4⟩ := mr_oneRule_76 (d := d) (r := us.length) hus (nI c) 5 0 (zm_setI M1 12 am 3 (nI ((py_sk b p).2 + 1))) (by omega) (ml_set hl1) (by rw [pm_ne (by omega)]; exact h161) (by intro j hj; omega) zLF (by omega)
      have m1 : mo_oneRule_76 d zLF am (nI c) 0 (zm_setI M1 12 am 3 (nI ((py_sk b p).2 + 1))) = _ := m1
      rw [m1, e97]
      have y1 : zf (rv_r am us.length) M M1 := rv_w (rw_mg k3 (by simp) (by simp))
      have y2 : zf (rv_r am us.length) M1 (zm_setI M2 20 (am + 5) (5 * us.length) (nI (c - 97))) := zf_trans (zf_trans (zf_set (.inl (.inl ⟨rfl, rfl, .inl rfl⟩))) m3) (zf_set (.inr ⟨rfl, rfl, by omega, by omega⟩))
      have v1 : zf (mg am [3] [5]) M1 (zm_setI M2 20 (am + 5) (5 * us.length) (nI (c - 97))) := zf_trans (zf_trans (zf_set (.inl ⟨rfl, rfl, by simp⟩)) (zf_mono m4 (mg_mono (by simp) (by simp)))) (zf_set (.inr ⟨.inl rfl, 5, by simp, rfl⟩))
      have w5 : zm_I (zm_setI M2 20 (am + 5) (5 * us.length) (nI (c - 97))) 12 am 3 = nI ((py_sk b p).2 + 1) := by
        rw [pm_ne (by omega), mg_f m4 (by simp), pm_same]
      have hR : rs_x am (zm_setI M2 20 (am + 5) (5 * us.length) (nI (c - 97))) T us.length (r, (py_sk b p).2 + 1, N, X, [], [], []) := by
        refine ⟨ml_zf hl1 v1, mt_mg hT1 v1 (by simp) (by simp), ⟨w5, ?_⟩, by rw [mg_f v1 (by simp)]; exact h41, rn_mg hn1 v1 (by simp) (by simp), by rw [mg_f v1 (by simp)]; exact h161, ⟨?_, ?_, ?_⟩, (fun i x hx => by simp at hx), (fun i x hx => by simp at hx), (fun i x hx => by simp at hx)⟩
        · obtain ⟨a, ha, hl⟩ := hp1.2
          exact ⟨a ++ [c], by rw [ha]; simp, by simp [hl]⟩
        · rw [pm_ne (by omega)]; exact m2 2 (by omega)
        · rw [pm_ne (by omega)]; exact m2 3 (by omega)
        · rw [pm_ne (by omega)]; exact m2 4 (by omega)
      obtain ⟨M3, z8, gg⟩ := rs_takes (d := d) hok hR (by omega) (c := 61) (by omega)
      have y3 : zf (rv_r am us.length) M M3 := zf_trans (zf_trans y1 y2) (rv_w (rw_mg z8 (by simp) (by simp)))
      rcases gg with ⟨cc, t7, t8⟩ | ⟨cc, t7, t8⟩
      · have t7 : mo_takes d am 61 (zm_setI M2 20 (am + 5) (5 * us.length) (nI (c - 97))) = some (1, M3) := t7
        have es : pp_sgn 61 r ((py_sk b p).2 + 1) = .ok ((py_sk r ((py_sk b p).2 + 1)).1.tail, (py_sk r ((py_sk b p).2 + 1)).2 + 1) := if_pos cc
        have l2 := sgn_len es
        rw [t7, es]
        simp only [Option.bind_some, if_neg (show ¬ (1 : Int32) = 0 by decide)]
        obtain ⟨res, M4, q1, q2, q3⟩ := rm_pat (am := am) hok hus N 8 0 d (by omega) (by omega) _ M3 t8 ⟨Nat.le_refl _, by simp, by simp, by simp, (fun o x hx => by simp at hx), (fun o x hx => by simp at hx), (fun o x hx => by simp at hx)⟩ (by dsimp only at l2 ⊢; omega)
        have q1 : mo_pattern d am 0 M3 = some (res, M4) := q1
        have y4 := zf_trans y3 (rv_w q2)
        have hl4 : ml_ok am M4 := ml_zf h.1 y4
        have i16 : zm_I M4 12 am 16 = nI us.length := by
          rw [mg_f (rw_to y4) (by simp)]
          exact h.2.2.2.2.2.1
        have e5 : 5 * nI us.length + 1 = nI (5 * us.length + 1) := mx_5 _ 1
        have z5 : z_in (nI (5 * us.length + 1)) 40 := nI_in (by omega) (by omega)
        rw [q1]
        simp only [Option.bind_some, ml_R8 hl4, ml_L8 hl4, i16, e5, if_pos z5, nI_clamp (show 5 * us.length + 1 < 2 ^ 31 by omega), zlet]
        have y5 : zf (rv_r am us.length) M (zm_setI M4 20 (am + 5) (5 * us.length + 1) res) := zf_trans y4 (zf_set (.inr ⟨rfl, rfl, by omega, by omega⟩))
        refine ⟨_, rfl, rw_to y5, ?_⟩
        rcases q3 with ⟨er, o1, o2, o3⟩ | ⟨x, o1, o2, o3⟩
        · rw [o1]
          exact .inl ⟨er, rfl, by rw [pm_ne (by omega)]; exact o2, o3⟩
        · rw [o1]
          have v5 : zf (mg am [] [5]) M4 (zm_setI M4 20 (am + 5) (5 * us.length + 1) res) := zf_set (.inr ⟨.inl rfl, 5, by simp, rfl⟩)
          obtain ⟨s1, s2, s3, s4, s5, s6, s7, s8, s9, s10⟩ := o3
          obtain ⟨Gx, hpo⟩ := pm_pat N 8 _ (fun _ => (0, 0, 0)) ⟨Nat.le_refl _, by simp, by simp, by simp, (fun o x hx => by simp at hx), (fun o x hx => by simp at hx), (fun o x hx => by simp at hx)⟩ (by dsimp only at l2 ⊢; omega) x o1
          have hL16 := hpo.2.1.2.1
          have hC8 := hpo.2.1.2.2.1
          have hA4 := hpo.2.1.2.2.2.1
          refine .inr ⟨_, rfl, ml_zf s1 v5, mt_mg s2 v5 (by simp) (by simp), rp_mg s3 v5 (by simp), by rw [mg_f v5 (by simp)]; exact s4, rn_mg s5 v5 (by simp) (by simp), by rw [mg_f v5 (by simp)]; exact i16, ?_⟩
          intro i u hu
          by_cases ei : i < us.length
          · rw [List.getElem?_append_left ei] at hu
            exact ru_rw (h.2.2.2.2.2.2 i u hu) y5 ei
          · have e2 : i = us.length := by
              have := (List.getElem?_eq_some_iff.mp hu).1
              simp at this
              omega
            subst e2
            have ex : u = (c - 97, x.1, N, x.2.2.2.1, x.2.2.2.2.2.1, x.2.2.2.2.2.2.1, x.2.2.2.2.2.2.2) := by simpa using hu.symm
            subst ex
            have c50 : zm_I M4 20 (am + 5) (5 * us.length) = nI (c - 97) := by
              have b1 : zm_I M3 20 (am + 5) (5 * us.length) = nI (c - 97) := by
                rw [mg_a z8 (by decide) (by simp), pm_same]
              rw [q2.2.2.2.2.2.2 20 (am + 5) (5 * us.length) (by
                intro w
                rcases w with ⟨w, _⟩ | ⟨w, _⟩ | ⟨_, w⟩
                · omega
                · omega
                · omega)]
              exact b1
            refine ⟨⟨by rw [pm_ne (by omega)]; exact c50, by rw [pm_same]; exact o2, by rw [pm_ne (by omega)]; exact s7.1, by rw [pm_ne (by omega)]; exact s7.2.1, by rw [pm_ne (by omega)]; exact s7.2.2⟩, ?_, ?_, ?_⟩
            · intro k y hy
              have := (List.getElem?_eq_some_iff.mp hy).1
              have g := s8 k y hy
              rw [pm_ne (by omega), pm_ne (by omega)]
              dsimp only at this
              exact ⟨by omega, g⟩
            · intro k y hy
              have := (List.getElem?_eq_some_iff.mp hy).1
              have g := s9 k y hy
              rw [pm_ne (by omega), pm_ne (by omega), pm_ne (by omega)]
              dsimp only at this
              exact ⟨by omega, g⟩
            · intro k y hy
              have := (List.getElem?_eq_some_iff.mp hy).1
              have g := s10 k y hy
              rw [pm_ne (by omega)]
              dsimp only at this
              exact ⟨by omega, g⟩
      · have t7 : mo_takes d am 61 (zm_setI M2 20 (am + 5) (5 * us.length) (nI (c - 97))) = some (0, M3) := t7
        have es : pp_sgn 61 r ((py_sk b p).2 + 1) = .error (py_sk r ((py_sk b p).2 + 1)).2 := if_neg cc
        have hp9 : zm_I M3 12 am 3 = nI (py_sk r ((py_sk b p).2 + 1)).2 := t8.2.2.1.1
        rw [t7, es]
        simp only [Option.bind_some, if_true, mr_fails t8.2.2.2.1, hp9]
        exact ⟨_, rfl, zf_trans (rw_to y3) (zf_set (.inl ⟨rfl, rfl, by simp⟩)), .inl ⟨_, rfl, pm_same, rs_sk400 hok hR⟩⟩
    · rw [if_neg c1, if_neg (fun h => c1 (eflag.mp h)), hp1.1]
      exact ⟨_, rfl, z2, .inl ⟨(py_sk b p).2, rfl, pm_same, hp400⟩⟩
end
