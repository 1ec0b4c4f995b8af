/-! THE MODEL: the document's text is read -/
def md_w (am : Nat) (M : zM) (D : List yT) : Prop := zm_I M 12 am 21 = nI D.length ∧ ∀ (i : Nat) (x : yT), D[i]? = some x → zm_I M 20 (am + 13) (4 * i) = nI x.1 ∧ zm_I M 20 (am + 13) (4 * i + 1) = zo x.2.1 ∧ zm_I M 20 (am + 13) (4 * i + 2) = nI x.2.2.1 ∧ zm_I M 20 (am + 13) (4 * i + 3) = nI x.2.2.2
theorem mx_40 (n : Nat) : 4 * nI n = nI (4 * n) := by
  show nI 4 * nI n = _
  rw [pk_mul]
theorem mx_4b (n : Nat) : 4 * nI n + 1 = nI (4 * n + 1) := mx_4 n 1
theorem mx_42 (n : Nat) : 4 * nI n + 2 = nI (4 * n + 2) := mx_4 n 2
theorem mx_43 (n : Nat) : 4 * nI n + 3 = nI (4 * n + 3) := mx_4 n 3
/-- what reading a thing comes to: v is what the machine answers from its start -/
def od_r (am : Nat) (T : List Nat) (M' : zM) (b : List Nat) (D : List yT) (v : Option Nat × List yT) (o : Option Nat) : Prop := (∃ q, zm_I M' 12 am 4 = nI q ∧ q ≤ 400 ∧ v.1 = some q) ∨ (zm_I M' 12 am 4 = -1 ∧ ∃ a' b' D', T = a' ++ b' ∧ b'.length < b.length ∧ zm_I M' 12 am 3 = nI a'.length ∧ md_w am M' D' ∧ do_ok D' ∧ dx D D' ∧ v = py_dr b' a'.length (D', o, none, false))
def od_h (am : Nat) (T : List Nat) (r : Nat → Int32 → Int32 → zM → Option zM) (lv : Nat) (o : Option Nat) : Prop := ∀ (b a : List Nat) (M : zM) (D : List yT), T = a ++ b → ml_ok am M → mt_p am M T → zm_I M 12 am 3 = nI a.length → zm_I M 12 am 4 = -1 → md_w am M D → do_ok D → (∀ k, o = some k → k < D.length) → py_dv D o = lv → ∃ M', r am (zo o) (nI lv) M = some M' ∧ zf (mg am [3, 4, 21] [13]) M M' ∧ od_r am T M' b D (py_dr b a.length (D, o, none, true)) o
section
variable {am d : Nat} {M : zM} {T : List Nat}
theorem md_wmg {F A : List Nat} {M' : zM} {D : List yT} (h : md_w am M D) (hf : zf (mg am F A) M M') (hF : ¬ 21 ∈ F) (hA : ¬ 13 ∈ A) : md_w am M' D := by
  refine ⟨by rw [mg_f hf hF]; exact h.1, ?_⟩
  intro i x hx
  rw [mg_a hf (by decide) hA, mg_a hf (by decide) hA, mg_a hf (by decide) hA, mg_a hf (by decide) hA]
  exact h.2 i x hx
theorem mr_oneThing_46 (r : Nat → Int32 → Int32 → zM → Option zM) {D : List yT} {o : Option Nat} {p c : Nat} (hl : ml_ok am M) (hw : md_w am M D) (hD : do_ok D) (h60 : D.length < 60) (ho : ∀ k, o = some k → k < D.length) (h3 : zm_I M 12 am 3 = nI p) (hc : 97 ≤ c ∧ c ≤ 122) : ∃ M', mo_oneThing_46 r d am (zo o) (nI (py_dv D o)) (nI c) 1 M = mo_oneThing_156 r d am (nI (py_dv D o)) (nI D.length) M' ∧ md_w am M' (py_add D o (c - 97)) ∧ zm_I M' 12 am 3 = nI (p + 1) ∧ zf (mg am [3, 21] [13]) M M' := by
  have e97 : nI c - 97 = nI (c - 97) := pk_sub (a := c) (b := 97) (by omega)
  obtain ⟨Mf, hMf⟩ : ∃ X, X = zm_setI (zm_setI (zm_setI (zm_setI (zm_setI (zm_setI M 12 am 3 (nI (p + 1))) 12 am 21 (nI (D.length + 1))) 20 (am + 13) (4 * D.length) (nI (c - 97))) 20 (am + 13) (4 * D.length + 1) (zo o)) 20 (am + 13) (4 * D.length + 2) 0) 20 (am + 13) (4 * D.length + 3) (nI (py_dv D o)) := ⟨_, rfl⟩
  have hs : ∀ (j f : Nat), 4 * j + f < 4 * D.length → zm_I Mf 20 (am + 13) (4 * j + f) = zm_I M 20 (am + 13) (4 * j + f) := by
    intro j f hj
    rw [hMf, pm_ne (by omega), pm_ne (by omega), pm_ne (by omega), pm_ne (by omega), pm_ne (by omega), pm_ne (by omega)]
  have s0 : zm_I Mf 20 (am + 13) (4 * D.length) = nI (c - 97) := by rw [hMf, pm_ne (by omega), pm_ne (by omega), pm_ne (by omega), pm_same]
  have s1 : zm_I Mf 20 (am + 13) (4 * D.length + 1) = zo o := by rw [hMf, pm_ne (by omega), pm_ne (by omega), pm_same]
  have s2 : zm_I Mf 20 (am + 13) (4 * D.length + 2) = 0 := by rw [hMf, pm_ne (by omega), pm_same]
  have s3 : zm_I Mf 20 (am + 13) (4 * D.length + 3) = nI (py_dv D o) := by rw [hMf, pm_same]
  have s4 : zm_I Mf 12 am 3 = nI (p + 1) := by rw [hMf, pm_ne (by omega), pm_ne (by omega), pm_ne (by omega), pm_ne (by omega), pm_ne (by omega), pm_same]
  have s5 : zm_I Mf 12 am 21 = nI (D.length + 1) := by rw [hMf, pm_ne (by omega), pm_ne (by omega), pm_ne (by omega), pm_ne (by omega), pm_same]
  have hf : zf (mg am [3, 21] [13]) M Mf := by
    rw [hMf]
    exact zf_trans (zf_trans (zf_trans (zf_trans (zf_trans (zf_set (.inl ⟨rfl, rfl, by simp⟩)) (zf_set (.inl ⟨rfl, rfl, by simp⟩))) (zf_set (.inr ⟨.inl rfl, 13, by simp, rfl⟩))) (zf_set (.inr ⟨.inl rfl, 13, by simp, rfl⟩))) (zf_set (.inr ⟨.inl rfl, 13, by simp, rfl⟩))) (zf_set (.inr ⟨.inl rfl, 13, by simp, rfl⟩))
  have z0 : z_in (nI (4 * D.length)) 240 := nI_in (by omega) (by omega)
  have z1 : z_in (nI (4 * D.length + 1)) 240 := nI_in (by omega) (by omega)
  have z2 : z_in (nI (4 * D.length + 2)) 240 := nI_in (by omega) (by omega)
  have z3 : z_in (nI (4 * D.length + 3)) 240 := nI_in (by omega) (by omega)
  have h21 : zm_I (zm_setI M 12 am 3 (nI (p + 1))) 12 am 21 = nI D.length := by rw [pm_ne (by omega)]; exact hw.1
  have n2 : nI (4 * D.length) + 2 = nI (4 * D.length + 2) := by
    show nI (4 * D.length) + nI 2 = _
    rw [nI_add]
  have n3 : nI (4 * D.length) + 3 = nI (4 * D.length + 3) := by
    show nI (4 * D.length) + nI 3 = _
    rw [nI_add]
  have key : mo_oneThing_46 r d am (zo o) (nI (py_dv D o)) (nI c) 1 M = (if zo o = -1 then mo_oneThing_156 r d am (nI (py_dv D o)) (nI D.length) Mf else (if z_in ((4 * zo o) + 2) 240 then (if z_in ((4 * zo o) + 2) 240 then mo_oneThing_156 r d am (nI (py_dv D o)) (nI D.length) (zm_setI Mf 20 (am + 13) ((4 * zo o) + 2).toNatClampNeg ((zm_I Mf 20 (am + 13) ((4 * zo o) + 2).toNatClampNeg) + 1)) else none) else none)) := by
    unfold mo_oneThing_46
    rw [if_neg (by decide)]
    simp only [zlet, h3, nI_1, h21, pm_RI, pm_LI, ml_R19 hl, ml_L19 hl, mx_40, n2, n3, if_pos z0, if_pos z1, if_pos z2, if_pos z3, nI_clamp (show 4 * D.length < 2 ^ 31 by omega), nI_clamp (show 4 * D.length + 1 < 2 ^ 31 by omega), nI_clamp (show 4 * D.length + 2 < 2 ^ 31 by omega), nI_clamp (show 4 * D.length + 3 < 2 ^ 31 by omega), e97, hMf]
  rw [key]
  have old : ∀ (j : Nat) (x : yT), D[j]? = some x → zm_I Mf 20 (am + 13) (4 * j) = nI x.1 ∧ zm_I Mf 20 (am + 13) (4 * j + 1) = zo x.2.1 ∧ zm_I Mf 20 (am + 13) (4 * j + 2) = nI x.2.2.1 ∧ zm_I Mf 20 (am + 13) (4 * j + 3) = nI x.2.2.2 := by
    intro j x hx
    have hj := (List.getElem?_eq_some_iff.mp hx).1
    have h0 := hw.2 j x hx
    exact ⟨Eq.trans (hs j 0 (by omega)) h0.1, Eq.trans (hs j 1 (by omega)) h0.2.1, Eq.trans (hs j 2 (by omega)) h0.2.2.1, Eq.trans (hs j 3 (by omega)) h0.2.2.2⟩
  cases o with
  | none =>
    rw [if_pos pb_zon]
    refine ⟨Mf, rfl, ⟨by rw [add_len]; exact s5, ?_⟩, s4, hf⟩
    intro j x hx
    by_cases e : j < D.length
    · have hg : D[j]? = some D[j] := by simp
      rw [add_get D none _ hg, if_neg (by simp)] at hx
      injection hx with hx
      rw [← hx]
      exact old j _ hg
    · have : j = D.length := by
        have := (List.getElem?_eq_some_iff.mp hx).1
        rw [add_len] at this
        omega
      subst this
      rw [add_last] at hx
      injection hx with hx
      rw [← hx]
      exact ⟨s0, s1, s2, s3⟩
  | some k =>
    have hk := ho k rfl
    have hgk : D[k]? = some D[k] := by simp
    have ez : zo (some k) = nI k := rfl
    have hD24 := (hD.2 k _ hgk).2.2.2.1
    have zk : z_in (nI (4 * k + 2)) 240 := nI_in (by omega) (by omega)
    rw [ez, if_neg (pb_ne1 (by omega)), mx_42, if_pos zk, if_pos zk, nI_clamp (show 4 * k + 2 < 2 ^ 31 by omega), (old k _ hgk).2.2.1, nI_1]
    refine ⟨_, rfl, ⟨?_, ?_⟩, ?_, zf_trans hf (zf_set (.inr ⟨.inl rfl, 13, by simp, rfl⟩))⟩
    · rw [pm_ne (by omega), add_len]; exact s5
    · intro j x hx
      by_cases e : j < D.length
      · have hg : D[j]? = some D[j] := by simp
        rw [add_get D _ _ hg] at hx
        injection hx with hx
        have ho := old j _ hg
        by_cases e2 : k = j
        · subst e2
          rw [if_pos rfl] at hx
          rw [← hx]
          refine ⟨?_, ?_, pm_same, ?_⟩
          · rw [pm_ne (by omega)]; exact ho.1
          · rw [pm_ne (by omega)]; exact ho.2.1
          · rw [pm_ne (by omega)]; exact ho.2.2.2
        · rw [if_neg (by simpa using e2)] at hx
          rw [← hx]
          refine ⟨?_, ?_, ?_, ?_⟩
          · rw [pm_ne (by omega)]; exact ho.1
          · rw [pm_ne (by omega)]; exact ho.2.1
          · rw [pm_ne (by omega)]; exact ho.2.2.1
          · rw [pm_ne (by omega)]; exact ho.2.2.2
      · have : j = D.length := by
          have := (List.getElem?_eq_some_iff.mp hx).1
          rw [add_len] at this
          omega
        subst this
        rw [add_last] at hx
        injection hx with hx
        rw [← hx]
        refine ⟨?_, ?_, ?_, ?_⟩
        · rw [pm_ne (by omega)]; exact s0
        · rw [pm_ne (by omega)]; exact s1
        · rw [pm_ne (by omega)]; exact s2
        · rw [pm_ne (by omega)]; exact s3
    · rw [pm_ne (by omega)]; exact s4
end
