/-! THE MODEL walks: a letter is taken -/
def py_u {α : Type} (f : Nat → α) (i : Nat) (v : α) : Nat → α := fun j => if j = i then v else f j
/-- what is around x, up to a, each with the one in it -/
def py_pt (P : yP) (a : Option Nat) (x : Nat) : List (Nat × Nat) := py_ur P (fun k o => match py_up P k with
  | none => []
  | some n => if some n == a then [] else (n, k) :: o.getD []) x
def py_s0 (P : yP) (s : yS) (n : Nat) : yS := if py_kd P n = 5 then (s.1, py_u s.2.1 (py_nb P n) 0, s.2.2) else if py_kd P n = 4 then (s.1, s.2.1, py_u s.2.2 (py_nb P n) 0) else s
def py_s1 (P : yP) (s : yS) (n k : Nat) : yS := if py_kd P n = 5 then (s.1, py_u s.2.1 (py_nb P n) 1, s.2.2) else if py_kd P n = 4 then (s.1, s.2.1, py_u s.2.2 (py_nb P n) (zbit (py_bf (py_ks P n) k).length)) else s
def py_s2 (P : yP) (s : yS) (a : Option Nat) (c : Nat) : yS := match a with
  | none => s
  | some a => if py_kd P a = 5 then (s.1, py_u s.2.1 (py_nb P a) (s.2.1 (py_nb P a) + 1), s.2.2) else if py_kd P a = 4 then (s.1, s.2.1, py_u s.2.2 (py_nb P a) (s.2.2 (py_nb P a) ||| zbit (py_bf (py_ks P a) c).length)) else s
def py_lv0 (P : yP) (s : yS) (a : Option Nat) : yS := match s.1 with
  | none => s
  | some o => (py_pt P a (py_lf P o)).foldl (fun s x => py_s0 P s x.1) s
def py_en (P : yP) (s : yS) (a : Option Nat) (q : Nat) : yS := (py_pt P a (py_lf P q)).foldl (fun s x => py_s1 P s x.1 x.2) s
def py_go (P : yP) (s : yS) (W : yW) : yS := (some W.1, (py_en P (py_s2 P (py_lv0 P s W.2.2.1) W.2.2.1 W.2.2.2) W.2.2.1 W.1).2)
def gw_W (am v t k j : Nat) : Prop := t = 20 ∧ k = am + 23 ∧ v ≤ j ∧ j < v + 13
theorem gw_mg {am v : Nat} : ∀ t k j, gw_W am v t k j → mg am [] [23] t k j := by
  intro t k j h
  exact .inr ⟨.inl h.1, 23, by simp, h.2.1⟩
section
variable {am r d : Nat} {M : zM} {P : yP} {s : yS} {w v : Nat}
theorem pt_up (h : py_ok P) {a : Option Nat} {x n : Nat} (hx : py_dm P x) (e : py_up P x = some n) : py_pt P a x = if some n == a then [] else (n, x) :: py_pt P a n := by
  unfold py_pt
  rw [ur_up h hx e]
  simp only [e]
  rfl
theorem pt_rt (h : py_ok P) {a : Option Nat} : py_pt P a (py_rt P) = [] := by
  unfold py_pt
  rw [ur_rt h]
  simp only [ok_up0 h]
theorem mk_zf {M' : zM} (hs : mk_x am M w s) (hf : zf (gw_W am v) M M') (hd : w + 13 ≤ v ∨ v + 13 ≤ w) : mk_x am M' w s := by
  refine ⟨?_, ?_, ?_⟩
  · rw [hf.2.2.2.2.2.2 20 (am + 23) w (by simp [gw_W]; omega)]
    exact hs.1
  · intro c hc
    rw [hf.2.2.2.2.2.2 20 (am + 23) (w + 1 + c) (by simp [gw_W]; omega)]
    exact hs.2.1 c hc
  · intro a ha
    rw [hf.2.2.2.2.2.2 20 (am + 23) (w + 9 + a) (by simp [gw_W]; omega)]
    exact hs.2.2 a ha
theorem mk_mg {M' : zM} {F A : List Nat} (hs : mk_x am M w s) (hf : zf (mg am F A) M M') (hA : ¬ 23 ∈ A) : mk_x am M' w s := by
  refine ⟨?_, ?_, ?_⟩
  · rw [mg_a hf (by decide) hA]
    exact hs.1
  · intro c hc
    rw [mg_a hf (by decide) hA]
    exact hs.2.1 c hc
  · intro a ha
    rw [mg_a hf (by decide) hA]
    exact hs.2.2 a ha
theorem mk_tm (hs : mk_x am M v s) {c x : Nat} (hc : c < 8) : mk_x am (zm_setI M 20 (am + 23) (v + 1 + c) (nI x)) v (s.1, py_u s.2.1 c x, s.2.2) ∧ zf (gw_W am v) M (zm_setI M 20 (am + 23) (v + 1 + c) (nI x)) := by
  refine ⟨⟨?_, ?_, ?_⟩, zf_set ⟨rfl, rfl, by omega, by omega⟩⟩
  · rw [pm_ne (by omega)]
    exact hs.1
  · intro c' hc'
    unfold py_u
    by_cases e : c' = c
    · subst e
      rw [pm_same]
      simp
    · rw [pm_ne (by omega)]
      simp only [if_neg e]
      exact hs.2.1 c' hc'
  · intro a ha
    rw [pm_ne (by omega)]
    exact hs.2.2 a ha
theorem mk_st (hs : mk_x am M v s) {c : Nat} {x : Int32} (hc : c < 4) : mk_x am (zm_setI M 20 (am + 23) (v + 9 + c) x) v (s.1, s.2.1, py_u s.2.2 c x) ∧ zf (gw_W am v) M (zm_setI M 20 (am + 23) (v + 9 + c) x) := by
  refine ⟨⟨?_, ?_, ?_⟩, zf_set ⟨rfl, rfl, by omega, by omega⟩⟩
  · rw [pm_ne (by omega)]
    exact hs.1
  · intro a ha
    rw [pm_ne (by omega)]
    exact hs.2.1 a ha
  · intro c' hc'
    unfold py_u
    by_cases e : c' = c
    · subst e
      rw [pm_same]
      simp
    · rw [pm_ne (by omega)]
      simp only [if_neg e]
      exact hs.2.2 c' hc'
theorem mp_gw {M' : zM} (h : mp_ok am M r P) (hf : zf (gw_W am v) M M') : mp_ok am M' r P := mp_zf h (zf_mono hf gw_mg) (by simp)
theorem mw_gw {M' : zM} {l : List yW} (hw : mw_has am M l) (hf : zf (gw_W am v) M M') : mw_has am M' l := mw_zf hw (zf_mono hf gw_mg) (by simp) (by simp)
theorem nI_9 (v c : Nat) : nI v + 9 + nI c = nI (v + 9 + c) := by
  have : nI v + 9 = nI (v + 9) := nI_add v 9
  rw [this, nI_add]
theorem nI_11 (v c : Nat) : nI v + 1 + nI c = nI (v + 1 + c) := by rw [nI_1, nI_add]
/-- a node on the way begins anew, or is left -/
theorem mr_sets (h : mp_ok am M r P) (hd : 2 ≤ d) (hs : mk_x am M v s) (hv : v + 13 ≤ 208) {n k : Nat} (hn : py_dm P n) (enters : Bool) (hk : enters = true → py_dm P k ∧ py_up P k = some n) : ∃ M', mo_sets d am (nI v) (nI n) (nI k) (zb enters) M = some M' ∧ mk_x am M' v (if enters then py_s1 P s n k else py_s0 P s n) ∧ zf (gw_W am v) M M' := by
  have hl := h.2.1
  have hkd := ok_kd h.1 hn
  obtain ⟨d, rfl⟩ : ∃ d', d = d' + 1 := ⟨d - 1, by omega⟩
  show ∃ M', mo_sets_b d am (nI v) (nI n) (nI k) (zb enters) M = some M' ∧ _
  unfold mo_sets_b py_s1 py_s0
  by_cases q5 : py_kd P n = 5
  · have hnc := (ok_k5 h.1 hn q5).2.1
    have h8 := ok_nc h.1
    have hz : z_in (nI (v + 1 + py_nb P n)) 208 := nI_in (by omega) (by omega)
    have key : ∀ x : Nat, ∃ M', mo_sets_34 d am (nI v) (nI n) (nI k) (zb enters) (zm_R M 12 am 34) (nI v + 1 + nI (py_nb P n)) (nI x) M = some M' ∧ mk_x am M' v (s.1, py_u s.2.1 (py_nb P n) x, s.2.2) ∧ zf (gw_W am v) M M' := by
      intro x
      have hm := mk_tm hs (c := py_nb P n) (x := x) (by omega)
      have h1 := mp_gw h hm.2
      refine ⟨_, ?_, hm.1, hm.2⟩
      simp only [mo_sets_34, ml_R34 hl, ml_L34 hl, nI_11, if_pos hz, nI_clamp (show v + 1 + py_nb P n < 2 ^ 31 by omega), zlet, mo_sets_35, mr_kd h1 hn, Option.bind_some, q5, pb_n5]
      rw [if_neg (by decide)]
      rfl
    rw [mr_kd h hn, q5, pb_n5]
    simp only [Option.bind_some, if_true, mr_nb h hn (.inr (.inr q5))]
    cases enters
    · simp only [pb_zbf, if_true, Bool.false_eq_true, if_false]
      exact key 0
    · simp only [pb_zbt, if_true]
      rw [if_neg (by decide)]
      exact key 1
  · have e5 : ¬ nI (py_kd P n) = 5 := fun x => q5 ((pb_eqk hkd (m := 5) (by omega)).mp x)
    rw [mr_kd h hn]
    simp only [Option.bind_some, if_neg e5, if_neg q5, mo_sets_35, mr_kd h hn]
    by_cases q4 : py_kd P n = 4
    · have hk4 := ok_k4 h.1 hn q4
      have h4 := ok_na h.1
      have hz : z_in (nI (v + 9 + py_nb P n)) 208 := nI_in (by omega) (by omega)
      have key : ∀ x : Int32, ∃ M', mo_sets_77 d (zm_R M 12 am 34) (nI v + 9 + nI (py_nb P n)) x M = some M' ∧ mk_x am M' v (s.1, s.2.1, py_u s.2.2 (py_nb P n) x) ∧ zf (gw_W am v) M M' := by
        intro x
        have hm := mk_st hs (c := py_nb P n) (x := x) (by omega)
        refine ⟨_, ?_, hm.1, hm.2⟩
        simp only [mo_sets_77, ml_R34 hl, ml_L34 hl, nI_9, if_pos hz, nI_clamp (show v + 9 + py_nb P n < 2 ^ 31 by omega), zlet, mo_sets_78]
      rw [q4, pb_n4]
      simp only [if_true, mr_nb h hn (.inr (.inl q4)), Option.bind_some]
      cases enters
      · simp only [pb_zbf, if_true, Bool.false_eq_true, if_false]
        exact key 0
      · have hkk := hk rfl
        simp only [pb_zbt, if_true]
        rw [if_neg (by decide), mr_partOf h (by omega) hkk.1 hkk.2]
        simp only [Option.bind_some]
        exact key _
    · have e4 : ¬ nI (py_kd P n) = 4 := fun x => q4 ((pb_eqk hkd (m := 4) (by omega)).mp x)
      refine ⟨M, ?_, ?_, zf_refl _ _⟩
      · rw [if_neg e4]
        rfl
      · cases enters <;> simp [q4] <;> exact hs
theorem mr_goes_71 (hP : py_ok P) (hd : 2 ≤ d) (hv : v + 13 ≤ 208) (k : Int32) {a : Nat} (ha : py_dm P a) : ∀ x, py_dm P x → py_wi P a x = true → x ≠ a → ∀ (M : zM) (s : yS), mp_ok am M r P → mk_x am M v s → ∀ fuel, py_hg P (py_rt P) - py_hg P x < fuel → ∃ M', mo_goes_71 d fuel am (nI r) k (nI v) (nI a) (zo (py_up P x)) M = mo_goes_101 d am (nI r) k (nI v) (nI a) M' ∧ mk_x am M' v ((py_pt P (some a) x).foldl (fun s x => py_s0 P s x.1) s) ∧ zf (gw_W am v) M M' := by
  have ha4 := ok_400 hP ha
  refine ok_climb hP _ ?_ ?_
  · intro hwi hne
    have : py_rt P ≠ a := hne
    rw [wi_rt hP this] at hwi
    cases hwi
  · intro x n hx e ih hwi hne M s h hs fuel hf
    have hn := ok_pdm hP hx e
    have hn4 := ok_400 hP hn
    have h5 := ok_uphg hP hx e
    have h6 := ok_top hP hn
    rw [wi_up hP hx e hne] at hwi
    rw [pt_up hP hx e, e, pb_zos]
    cases fuel with
    | zero => omega
    | succ fuel =>
      by_cases q : n = a
      · subst q
        refine ⟨M, by simp [mo_goes_71], by simpa using hs, zf_refl _ _⟩
      · have hq : ¬ nI n = nI a := fun e => q ((nI_eq (by omega) (by omega)).mp e)
        have eq : (some n == some a) = false := by simpa using q
        obtain ⟨M1, e1, e2, e3⟩ := mr_sets (d := d) h hd hs hv hn (k := n) false (by intro x; cases x)
        have h1 := mp_gw h e3
        obtain ⟨M2, f1, f2, f3⟩ := ih hwi q M1 _ h1 e2 fuel (by omega)
        refine ⟨M2, ?_, ?_, zf_trans e3 f3⟩
        · rw [← f1]
          rw [pb_zbf] at e1
          simp only [mo_goes_71, if_neg hq, e1, Option.bind_some, mr_up h1 hn]
        · rw [eq]
          simpa using f2
theorem mr_goes_213 (hP : py_ok P) (hd : 2 ≤ d) (hv : v + 13 ≤ 208) {l : List yW} {k : Nat} {W : yW} (hk : l[k]? = some W) (hkl : k < 128) {a : Option Nat} (ha : ∀ x, a = some x → py_dm P x) : ∀ x, py_dm P x → (∀ y, a = some y → py_wi P y x = true ∧ x ≠ y) → ∀ (M : zM) (s : yS), mp_ok am M r P → mw_has am M l → mk_x am M v s → ∀ fuel, py_hg P (py_rt P) - py_hg P x < fuel → ∃ M', mo_goes_213 d fuel am (nI k) (nI v) (zo a) (nI x) (zo (py_up P x)) M = some M' ∧ mk_x am M' v (some W.1, ((py_pt P a x).foldl (fun s x => py_s1 P s x.1 x.2) s).2) ∧ zf (gw_W am v) M M' := by
  have hz : z_in (nI k) 128 := nI_in (by omega) (by omega)
  have hzv : z_in (nI v) 208 := nI_in (by omega) (by omega)
  have fin : ∀ (M : zM) (s : yS) (v6 : Int32) (fuel : Nat), mp_ok am M r P → mw_has am M l → mk_x am M v s → ∃ M', mo_goes_213 d (fuel + 1) am (nI k) (nI v) (zo a) v6 (zo a) M = some M' ∧ mk_x am M' v (some W.1, s.2) ∧ zf (gw_W am v) M M' := by
    intro M s v6 fuel h hw hs
    have hWW := hw.2.2 k W hk
    refine ⟨zm_setI M 20 (am + 23) v (nI W.1), ?_, ⟨?_, ?_, ?_⟩, zf_set ⟨rfl, rfl, by omega, by omega⟩⟩
    · simp only [mo_goes_213, if_true, ml_R22 h.2.1, ml_L22 h.2.1, if_pos hz, ml_R34 h.2.1, ml_L34 h.2.1, if_pos hzv, nI_clamp (show v < 2 ^ 31 by omega), nI_clamp (show k < 2 ^ 31 by omega), hWW.1, zlet]
    · rw [pm_same]
      rfl
    · intro c hc
      rw [pm_ne (by omega)]
      exact hs.2.1 c hc
    · intro c hc
      rw [pm_ne (by omega)]
      exact hs.2.2 c hc
  refine ok_climb hP _ ?_ ?_
  · intro hya M s h hw hs fuel hf
    cases fuel with
    | zero => omega
    | succ fuel =>
      rw [pt_rt hP]
      have ea : a = none := by
        cases a with
        | none => rfl
        | some y =>
          have := hya y rfl
          rw [wi_rt hP this.2] at this
          cases this.1
      subst ea
      rw [ok_up0 hP]
      exact fin M s _ fuel h hw hs
  · intro x n hx e ih hya M s h hw hs fuel hf
    have hn := ok_pdm hP hx e
    have hn4 := ok_400 hP hn
    have h5 := ok_uphg hP hx e
    have h6 := ok_top hP hn
    rw [pt_up hP hx e, e]
    cases fuel with
    | zero => omega
    | succ fuel =>
      by_cases q : some n = a
      · have eq : (some n == a) = true := by simpa using q
        rw [eq, q]
        exact fin M s _ fuel h hw hs
      · have hq : ¬ nI n = zo a := by
          intro x
          cases a with
          | none => exact pb_ne1 (by omega) x
          | some y =>
            have hy4 := ok_400 hP (ha y rfl)
            exact q (by rw [(nI_eq (by omega) (by omega)).mp x])
        have eq : (some n == a) = false := by simpa using q
        obtain ⟨M1, e1, e2, e3⟩ := mr_sets (d := d) h hd hs hv hn (k := x) true (fun _ => ⟨hx, e⟩)
        have h1 := mp_gw h e3
        obtain ⟨M2, f1, f2, f3⟩ := ih (by
          intro y hy
          have := hya y hy
          rw [wi_up hP hx e this.2] at this
          refine ⟨this.1, ?_⟩
          intro z
          exact q (by rw [hy, z])) M1 _ h1 (mw_gw hw e3) e2 fuel (by omega)
        refine ⟨M2, ?_, ?_, zf_trans e3 f3⟩
        · rw [← f1]
          rw [pb_zbt] at e1
          simp only [mo_goes_213, pb_zos, if_neg hq, e1, Option.bind_some, mr_up h1 hn]
        · rw [eq]
          simpa using f2
end
