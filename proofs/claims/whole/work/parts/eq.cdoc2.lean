/-! THE CLASS: a document's text is read -/
/-- how deep a thing stands is told by what is around it -/
def dy_ok (D : List yT) : Prop := ∀ (i : Nat) (x : yT), D[i]? = some x → x.2.2.2 = py_dv D x.2.1
def dp_i (s : yD) : Prop := do_ok s.1 ∧ dy_ok s.1 ∧ (∀ k, s.2.1 = some k → k < s.1.length) ∧ py_dv s.1 s.2.1 ≤ 7 ∧ (∀ k, s.2.2.1 = some k → k < s.1.length)
def dp_x (M : zM) (dc : Nat) (s : yD) : Prop := do_x M dc s.1 ∧ zm_I M 1 dc 11 = zo s.2.1 ∧ zm_I M 1 dc 12 = zo s.2.2.1 ∧ zm_I M 1 dc 13 = zb s.2.2.2
def dq_W (dc t k j : Nat) : Prop := (t = 1 ∧ k = dc ∧ (j = 0 ∨ j = 11 ∨ j = 12 ∨ j = 13)) ∨ (t = 20 ∧ dc + 1 ≤ k ∧ k ≤ dc + 4)
section
variable {D : List yT} {s s' : yD} {o : Option Nat}
theorem dy_add {l : Nat} (h : do_ok D) (hy : dy_ok D) (ho : ∀ k, o = some k → k < D.length) : dy_ok (py_add D o l) := by
  have hx := dx_add D o l
  intro i x hi
  have hl := (List.getElem?_eq_some_iff.mp hi).1
  rw [add_len] at hl
  by_cases q : i = D.length
  · subst q
    rw [add_last] at hi
    injection hi with hi
    subst hi
    show py_dv D o = py_dv (py_add D o l) o
    cases o with
    | none => rfl
    | some k => exact (dx_lv hx (ho k rfl)).symm
  · obtain ⟨y, hyi⟩ : ∃ y, D[i]? = some y := ⟨D[i]'(by omega), List.getElem?_eq_getElem _⟩
    rw [add_get D o l hyi] at hi
    injection hi with hi
    have e1 : x.2.2.2 = y.2.2.2 ∧ x.2.1 = y.2.1 := by
      rw [← hi]
      split <;> exact ⟨rfl, rfl⟩
    rw [e1.1, e1.2, hy i y hyi]
    cases hp : y.2.1 with
    | none => rfl
    | some p =>
      have := (h.2 i y hyi).2.1 p hp
      exact (dx_lv hx (by omega)).symm
theorem dt_i {b : Nat} (h : dp_i s) (e : py_dt s b = some s') : dp_i s' := by
  obtain ⟨h1, h2, h3, h4, h5⟩ := h
  unfold py_dt at e
  by_cases q : s.2.2.2 = true
  · rw [if_pos q] at e
    by_cases q2 : (97 ≤ b ∧ b ≤ 122) ∧ s.1.length < 60 ∧ py_hm s.1 s.2.1 < 24
    · rw [if_pos q2] at e
      injection e with e
      subst e
      refine ⟨do_add h1 q2.2.1 (by omega) h3 q2.2.2 h4, dy_add h1 h2 h3, ?_, ?_, ?_⟩
      · intro k hk
        have := h3 k hk
        show k < (py_add _ _ _).length
        rw [add_len]
        omega
      · show py_dv (py_add s.1 s.2.1 (b - 97)) s.2.1 ≤ 7
        cases ho : s.2.1 with
        | none => exact Nat.zero_le _
        | some k =>
          rw [ho] at h4
          rw [dx_lv (dx_add s.1 (some k) (b - 97)) (h3 k ho)]
          exact h4
      · intro k hk
        injection hk with hk
        show k < (py_add _ _ _).length
        rw [add_len]
        omega
    · rw [if_neg q2] at e
      cases e
  · rw [if_neg q] at e
    by_cases q2 : b = 40 ∧ s.2.2.1.isSome = true ∧ py_dv s.1 s.2.2.1 < 8
    · rw [if_pos q2] at e
      injection e with e
      subst e
      exact ⟨h1, h2, h5, by show py_dv s.1 s.2.2.1 ≤ 7; omega, h5⟩
    · rw [if_neg q2] at e
      cases ho : s.2.1 with
      | none => rw [ho] at e; cases e
      | some k =>
        rw [ho] at e
        simp only at e
        by_cases q3 : b = 44
        · rw [if_pos q3] at e
          injection e with e
          subst e
          rw [ho] at h3 h4
          exact ⟨h1, h2, h3, h4, h5⟩
        · rw [if_neg q3] at e
          by_cases q4 : b = 41
          · rw [if_pos q4] at e
            injection e with e
            subst e
            have hk := h3 k ho
            obtain ⟨y, hy⟩ : ∃ y, s.1[k]? = some y := ⟨s.1[k]'hk, List.getElem?_eq_getElem _⟩
            have hp : py_pr s.1 k = y.2.1 := by unfold py_pr; rw [hy]
            have o1 := h1.2 k y hy
            refine ⟨h1, h2, ?_, ?_, ?_⟩
            · intro p e2
              have e2 : py_pr s.1 k = some p := e2
              rw [hp] at e2
              have := o1.2.1 p e2
              show p < s.1.length
              omega
            · show py_dv s.1 (py_pr s.1 k) ≤ 7
              rw [hp, ← h2 k y hy]
              exact o1.2.2.2.2
            · intro p e2
              cases e2
          · rw [if_neg q4] at e
            cases e
theorem dr_i : ∀ (b : List Nat) (p : Nat) (s : yD), dp_i s → do_ok (py_dr b p s).2 ∧ dy_ok (py_dr b p s).2 := by
  intro b
  induction b with
  | nil => intro p s h; exact ⟨h.1, h.2.1⟩
  | cons c r ih =>
    intro p s h
    rw [py_dr]
    split
    · exact ih _ _ h
    · cases e : py_dt s c with
      | none => exact ⟨h.1, h.2.1⟩
      | some s' => exact ih _ _ (dt_i h e)
theorem dp_0 : dp_i ([], none, none, true) := by
  refine ⟨⟨Nat.zero_le _, ?_⟩, ?_, ?_, Nat.zero_le _, ?_⟩
  · intro i x h; cases h
  · intro i x h; cases h
  · intro k h; cases h
  · intro k h; cases h
theorem doc_i (T : List Nat) : do_ok (py_doc T).2 ∧ dy_ok (py_doc T).2 := dr_i _ _ _ dp_0
end
section
variable {M M' : zM} {d dc ac : Nat} {D : List yT} {s s' : yD} {T : List Nat}
theorem cl_t36_1 {v : Int32} : do_takeThing_36 d dc v 1 M = some (0, M) := by
  unfold do_takeThing_36 do_takeThing_53
  split
  · rfl
  · split
    · rfl
    · rw [if_neg (by decide)]
theorem dl_zf {W : Nat → Nat → Nat → Prop} (h : do_l M dc) (hf : zf W M M') : do_l M' dc := by
  unfold do_l
  rw [hf.1, hf.2.1]
  exact h
theorem cl_t122 {l n : Nat} {o : Option Nat} (hx : do_x M dc D) (hD : do_ok D) (hn : n = D.length) (h60 : n < 60) (h11 : zm_I M 1 dc 11 = zo o) (ho : ∀ k, o = some k → k < D.length) {v : Int32} (hv : v = nI (py_dv D o)) {M1 : zM} (hM1 : M1 = zm_setI (zm_setI (zm_setI M 20 (dc + 1) n (nI l)) 20 (dc + 2) n (zo o)) 20 (dc + 3) n 0) : ∃ M', do_takeThing_122 d dc (some (dc + 4)) (nI n) v M1 = some (1, M') ∧ dp_x M' dc (py_add D o l, o, some n, false) ∧ zf (dq_W dc) M M' := by
  have hlen := hD.1
  have hz : z_in (nI n) 60 := nI_in (by omega) (by omega)
  have hcl := nI_clamp (show n < 2 ^ 31 by omega)
  have l4 := hx.1.1 4 (by omega) (by omega)
  have l3 := hx.1.1 3 (by omega) (by omega)
  have f1 : zf (dq_W dc) M M1 := by
    rw [hM1]
    exact zf_trans (zf_trans (zf_set (.inr ⟨rfl, by omega, by omega⟩)) (zf_set (.inr ⟨rfl, by omega, by omega⟩))) (zf_set (.inr ⟨rfl, by omega, by omega⟩))
  have f2 : zf (dq_W dc) M (zm_setI M1 20 (dc + 4) n v) := zf_trans f1 (zf_set (.inr ⟨rfl, by omega, by omega⟩))
  have g1 : ∀ k j, zm_I (zm_setI M1 20 (dc + 4) n v) 1 k j = zm_I M 1 k j := by
    intro k j
    rw [hM1, pm_ne (by omega), pm_ne (by omega), pm_ne (by omega), pm_ne (by omega)]
  have r1 : ∀ i, zm_I (zm_setI M1 20 (dc + 4) n v) 20 (dc + 1) i = if i = n then nI l else zm_I M 20 (dc + 1) i := by
    intro i
    rw [hM1, pm_ne (by omega), pm_ne (by omega), pm_ne (by omega), pm_II]
    by_cases q : i = n
    · rw [if_pos ⟨rfl, rfl, q⟩, if_pos q]
    · rw [if_neg (fun x => q x.2.2), if_neg q]
  have r2 : ∀ i, zm_I (zm_setI M1 20 (dc + 4) n v) 20 (dc + 2) i = if i = n then zo o else zm_I M 20 (dc + 2) i := by
    intro i
    rw [hM1, pm_ne (by omega), pm_ne (by omega), pm_II]
    by_cases q : i = n
    · rw [if_pos ⟨rfl, rfl, q⟩, if_pos q]
    · rw [if_neg (fun x => q x.2.2), if_neg q, pm_ne (by omega)]
  have r3 : ∀ i, zm_I (zm_setI M1 20 (dc + 4) n v) 20 (dc + 3) i = if i = n then 0 else zm_I M 20 (dc + 3) i := by
    intro i
    rw [hM1, pm_ne (by omega), pm_II]
    by_cases q : i = n
    · rw [if_pos ⟨rfl, rfl, q⟩, if_pos q]
    · rw [if_neg (fun x => q x.2.2), if_neg q, pm_ne (by omega), pm_ne (by omega)]
  have r4 : ∀ i, zm_I (zm_setI M1 20 (dc + 4) n v) 20 (dc + 4) i = if i = n then v else zm_I M 20 (dc + 4) i := by
    intro i
    rw [pm_II]
    by_cases q : i = n
    · rw [if_pos ⟨rfl, rfl, q⟩, if_pos q]
    · rw [if_neg (fun x => q x.2.2), if_neg q, hM1, pm_ne (by omega), pm_ne (by omega), pm_ne (by omega)]
  have key : ∀ M2, zf (dq_W dc) M M2 → (∀ k j, zm_I M2 1 k j = zm_I M 1 k j) → (∀ i, zm_I M2 20 (dc + 1) i = if i = n then nI l else zm_I M 20 (dc + 1) i) → (∀ i, zm_I M2 20 (dc + 2) i = if i = n then zo o else zm_I M 20 (dc + 2) i) → (∀ i, zm_I M2 20 (dc + 3) i = if i = n then 0 else if o = some i then zm_I M 20 (dc + 3) i + 1 else zm_I M 20 (dc + 3) i) → (∀ i, zm_I M2 20 (dc + 4) i = if i = n then v else zm_I M 20 (dc + 4) i) → ∃ M', do_takeThing_144 d dc M2 = some (1, M') ∧ dp_x M' dc (py_add D o l, o, some n, false) ∧ zf (dq_W dc) M M' := by
    intro M2 f s0 s1 s2 s3 s4
    have e0 : zm_I M2 1 dc 0 = nI n := by rw [s0, hx.2.1, hn]
    refine ⟨_, rfl, ?_, zf_trans f (zf_trans (zf_trans (zf_set (.inl ⟨rfl, rfl, by omega⟩)) (zf_set (.inl ⟨rfl, rfl, by omega⟩))) (zf_set (.inl ⟨rfl, rfl, by omega⟩)))⟩
    refine ⟨⟨dl_zf hx.1 (zf_trans f (zf_trans (zf_trans (zf_set (W := dq_W dc) (.inl ⟨rfl, rfl, by omega⟩)) (zf_set (.inl ⟨rfl, rfl, by omega⟩))) (zf_set (.inl ⟨rfl, rfl, by omega⟩)))), ?_, ?_⟩, ?_, ?_, ?_⟩
    · rw [pm_ne (by omega), pm_same, pm_ne (by omega), e0, add_len, ← hn]
      exact nI_add n 1
    · intro i x hi
      have hl := (List.getElem?_eq_some_iff.mp hi).1
      rw [add_len] at hl
      have g20 : ∀ k v0 v1 v2, zm_I (zm_setI (zm_setI (zm_setI M2 1 dc 12 v0) 1 dc 0 v1) 1 dc 13 v2) 20 k i = zm_I M2 20 k i := by
        intro k v0 v1 v2
        rw [pm_ne (by omega), pm_ne (by omega), pm_ne (by omega)]
      rw [g20, g20, g20, g20, s1, s2, s3, s4]
      by_cases q : i = n
      · rw [q, hn, add_last] at hi
        injection hi with hi
        subst hi
        rw [if_pos q, if_pos q, if_pos q, if_pos q]
        exact ⟨rfl, rfl, rfl, hv⟩
      · obtain ⟨y, hyi⟩ : ∃ y, D[i]? = some y := ⟨D[i]'(by omega), List.getElem?_eq_getElem _⟩
        rw [add_get D o l hyi] at hi
        injection hi with hi
        obtain ⟨m1, m2, m3, m4⟩ := hx.2.2 i y hyi
        rw [if_neg q, if_neg q, if_neg q, if_neg q, m1, m2, m3, m4]
        by_cases q2 : o = some i
        · rw [if_pos q2] at hi ⊢
          subst hi
          exact ⟨rfl, rfl, nI_add _ 1, rfl⟩
        · rw [if_neg q2] at hi ⊢
          subst hi
          exact ⟨rfl, rfl, rfl, rfl⟩
    · rw [pm_ne (by omega), pm_ne (by omega), pm_ne (by omega), s0]
      exact h11
    · rw [pm_ne (by omega), pm_ne (by omega), pm_same, e0]
      rfl
    · rw [pm_same]; rfl
  unfold do_takeThing_122
  simp only [hM1, pm_LI]
  rw [← hM1]
  simp only [l4.2, if_pos hz, hcl, zlet, g1, h11]
  cases ho' : o with
  | none =>
    rw [if_pos (show zo none = -1 from rfl)]
    rw [← ho']
    refine key _ f2 g1 r1 r2 ?_ r4
    intro i
    rw [r3, ho']
    rfl
  | some k =>
    have hk := ho k ho'
    have hzk : z_in (nI k) 60 := nI_in (by omega) (by omega)
    have hzo : zo (some k) = nI k := rfl
    rw [if_neg (show ¬ zo (some k) = -1 from pb_ne1 (by omega)), hzo]
    have hR : zm_R (zm_setI M1 20 (dc + 4) n v) 1 dc 3 = some (dc + 3) := by rw [f2.1]; exact l3.1
    have hL : zm_L (zm_setI M1 20 (dc + 4) n v) 20 (dc + 3) = 60 := by rw [f2.2.1]; exact l3.2
    simp only [hR, hL, if_pos hzk, nI_clamp (show k < 2 ^ 31 by omega)]
    rw [← ho']
    refine key _ (zf_trans f2 (zf_set (.inr ⟨rfl, by omega, by omega⟩))) ?_ ?_ ?_ ?_ ?_
    · intro a j; rw [pm_ne (by omega)]; exact g1 a j
    · intro i; rw [pm_ne (by omega)]; exact r1 i
    · intro i; rw [pm_ne (by omega)]; exact r2 i
    · intro i
      rw [pm_II]
      by_cases q : i = k
      · subst q
        rw [if_pos ⟨rfl, rfl, rfl⟩, if_neg (by omega), if_pos ho', r3, if_neg (by omega)]
      · rw [if_neg (fun x => q x.2.2), r3, if_neg (c := o = some i) (fun x => q (by rw [ho'] at x; injection x with x; exact x.symm))]
    · intro i; rw [pm_ne (by omega)]; exact r4 i
end
