/-! THE MODEL lays its ways -/
/-- places of the model: fields F, rows A -/
def mg (am : Nat) (F A : List Nat) (t k j : Nat) : Prop := (t = 12 ∧ k = am ∧ j ∈ F) ∨ ((t = 20 ∨ t = 22) ∧ ∃ i, i ∈ A ∧ k = am + i)
theorem mg_mono {am : Nat} {F A F' A' : List Nat} (hF : ∀ j, j ∈ F → j ∈ F') (hA : ∀ j, j ∈ A → j ∈ A') : ∀ t k j, mg am F A t k j → mg am F' A' t k j := by
  intro t k j hm
  rcases hm with ⟨h1, h2, h3⟩ | ⟨h1, i, h2, h3⟩
  · exact .inl ⟨h1, h2, hF j h3⟩
  · exact .inr ⟨h1, i, hA i h2, h3⟩
theorem mg_a {am : Nat} {F A : List Nat} {M M' : zM} (hf : zf (mg am F A) M M') {t i j : Nat} (ht : t ≠ 12) (hi : ¬ i ∈ A) : zm_I M' t (am + i) j = zm_I M t (am + i) j := by
  refine hf.2.2.2.2.2.2 t (am + i) j ?_
  intro hm
  rcases hm with ⟨h1, _⟩ | ⟨_, i', h2, h3⟩
  · exact ht h1
  · have : i = i' := by omega
    subst this
    exact hi h2
theorem mg_f {am : Nat} {F A : List Nat} {M M' : zM} (hf : zf (mg am F A) M M') {j : Nat} (hj : ¬ j ∈ F) : zm_I M' 12 am j = zm_I M 12 am j := by
  refine hf.2.2.2.2.2.2 12 am j ?_
  intro hm
  rcases hm with ⟨_, _, h1⟩ | ⟨h1, _⟩
  · exact hj h1
  · rcases h1 with h1 | h1 <;> cases h1
theorem me_zf {am r : Nat} {F A : List Nat} {M M' : zM} {P : yP} (h : me_p am M r P) (hf : zf (mg am F A) M M') (hA : ¬ 2 ∈ A ∧ ¬ 4 ∈ A ∧ ¬ 6 ∈ A ∧ ¬ 8 ∈ A ∧ ¬ 10 ∈ A) : me_p am M' r P := by
  unfold me_p at *
  simp only [mg_a hf (t := 20) (by decide) hA.1, mg_a hf (t := 20) (by decide) hA.2.1, mg_a hf (t := 20) (by decide) hA.2.2.1, mg_a hf (t := 20) (by decide) hA.2.2.2.1, mg_a hf (t := 20) (by decide) hA.2.2.2.2]
  exact h
theorem mp_zf {am r : Nat} {F A : List Nat} {M M' : zM} {P : yP} (h : mp_ok am M r P) (hf : zf (mg am F A) M M') (hA : ¬ 2 ∈ A ∧ ¬ 4 ∈ A ∧ ¬ 6 ∈ A ∧ ¬ 8 ∈ A ∧ ¬ 10 ∈ A) : mp_ok am M' r P := ⟨h.1, ml_zf h.2.1 hf, me_zf h.2.2 hf hA⟩
/-- a way: to, by, at, into -/
abbrev yW : Type := Nat × Option Nat × Option Nat × Nat
def mw_has (am : Nat) (M : zM) (l : List yW) : Prop := zm_I M 12 am 26 = nI l.length ∧ l.length ≤ 128 ∧ ∀ i w, l[i]? = some w → zm_I M 20 (am + 14) i = nI w.1 ∧ zm_I M 20 (am + 15) i = zo w.2.1 ∧ zm_I M 20 (am + 16) i = zo w.2.2.1 ∧ zm_I M 20 (am + 17) i = nI w.2.2.2
def mw_W (am : Nat) : Nat → Nat → Nat → Prop := mg am [26] [14, 15, 16, 17]
theorem mw_push {am : Nat} {M : zM} {l : List yW} (h : mw_has am M l) (hl : l.length < 128) (q : Nat) (b a : Option Nat) (n : Nat) :
    mw_has am (zm_setI (zm_setI (zm_setI (zm_setI (zm_setI M 20 (am + 14) l.length (nI q)) 20 (am + 15) l.length (zo b)) 20 (am + 16) l.length (zo a)) 20 (am + 17) l.length (nI n)) 12 am 26 (nI (l.length + 1))) (l ++ [(q, b, a, n)]) ∧
    zf (mw_W am) M (zm_setI (zm_setI (zm_setI (zm_setI (zm_setI M 20 (am + 14) l.length (nI q)) 20 (am + 15) l.length (zo b)) 20 (am + 16) l.length (zo a)) 20 (am + 17) l.length (nI n)) 12 am 26 (nI (l.length + 1))) := by
  constructor
  · refine ⟨by simp [pm_II], by simp; omega, ?_⟩
    intro i w hw
    by_cases e : i < l.length
    · rw [List.getElem?_append_left e] at hw
      have h1 := h.2.2 i w hw
      have e2 : i ≠ l.length := by omega
      simp [pm_II, e2, h1]
    · have e2 : i = l.length := by
        have := (List.getElem?_eq_some_iff.mp hw).1
        simp at this
        omega
      subst e2
      simp at hw
      subst hw
      simp [pm_II]
  · refine zf_trans (zf_set ?_) (zf_trans (zf_set ?_) (zf_trans (zf_set ?_) (zf_trans (zf_set ?_) (zf_set ?_)))) <;> simp [mw_W, mg]
/-- letters that can be first -/
def py_fl (P : yP) (n : Nat) : List Nat := (List.range' 0 (py_nl P)).filter (fun q => py_fx P n (py_lf P q))
def py_il (P : yP) (a : Option Nat) (n : Nat) (b : Option Nat) : List yW := (py_fl P n).map (fun q => (q, b, a, n))
section
variable {am r d : Nat} {M : zM} {P : yP}
theorem mp_W (h : mp_ok am M r P) {M' : zM} (hf : zf (mw_W am) M M') : mp_ok am M' r P := mp_zf h hf (by simp)
theorem mr_laysInto_3 {n : Nat} {a b : Option Nat} (hd : 32 ≤ d) : ∀ (m q0 : Nat) (M : zM) (l : List yW), mp_ok am M r P → py_dm P n → mw_has am M l → q0 + m = py_nl P → l.length + ((List.range' q0 m).filter (fun q => py_fx P n (py_lf P q))).length ≤ 128 → ∀ fuel, m < fuel → ∃ M', mo_laysInto_3 d fuel am (nI r) (zo a) (nI n) (zo b) (nI q0) M = some M' ∧ zf (mw_W am) M M' ∧ mw_has am M' (l ++ ((List.range' q0 m).filter (fun q => py_fx P n (py_lf P q))).map (fun q => (q, b, a, n))) := by
  intro m
  induction m with
  | zero =>
    intro q0 M l h hn hw hq hlen fuel hf
    cases fuel with
    | zero => cases hf
    | succ fuel =>
      have : q0 = py_nl P := by omega
      subst this
      refine ⟨M, ?_, zf_refl _ _, by simpa using hw⟩
      simp [mo_laysInto_3, mr_nl h]
  | succ m ih =>
    intro q0 M l h hn hw hq hlen fuel hf
    cases fuel with
    | zero => cases hf
    | succ fuel =>
      have hnl := ok_nl h.1
      have hge : ¬ nI (py_nl P) ≤ nI q0 := nI_ge (by omega) (by omega)
      have hfi := mr_isFirst h hd hn (o := q0) (by omega)
      rw [List.range'_succ] at hlen ⊢
      cases hb : py_fx P n (py_lf P q0)
      · rw [hb] at hfi
        simp only [List.filter_cons, hb] at hlen ⊢
        obtain ⟨M', e1, e2, e3⟩ := ih (q0 + 1) M l h hn hw (by omega) (by simpa using hlen) fuel (by omega)
        refine ⟨M', ?_, e2, by simpa using e3⟩
        simp [mo_laysInto_3, mr_nl h, hge, hfi, pb_zbf, mo_laysInto_80, zlet, nI_1, e1]
      · rw [hb] at hfi
        simp only [List.filter_cons, hb, if_true, List.length_cons] at hlen
        have hz : z_in (nI l.length) 128 := nI_in (by omega) (by omega)
        have hp := mw_push hw (by omega) q0 b a n
        obtain ⟨M', e1, e2, e3⟩ := ih (q0 + 1) _ (l ++ [(q0, b, a, n)]) (mp_W h hp.2) hn hp.1 (by omega) (by simp; omega) fuel (by omega)
        refine ⟨M', ?_, zf_trans hp.2 e2, ?_⟩
        · rw [← e1]
          have hl := h.2.1
          simp only [mo_laysInto_3, mr_nl h, Option.bind_some, if_neg hge, hfi, pb_zbt]
          rw [if_neg (by decide)]
          simp only [zlet, pm_RI, pm_LI, ml_R22 hl, ml_L22 hl, ml_R23 hl, ml_L23 hl, ml_R24 hl, ml_L24 hl, ml_R25 hl, ml_L25 hl, pm_II, hw.1]
          simp only [if_pos hz, nI_clamp (show l.length < 2 ^ 31 by omega), mo_laysInto_80, zlet, nI_1, Nat.reduceEqDiff, false_and, if_false, reduceCtorEq]
        · simp only [List.filter_cons, hb, if_true, List.map_cons]
          simpa using e3
theorem mr_laysInto (h : mp_ok am M r P) (hd : 33 ≤ d) {n : Nat} (hn : py_dm P n) {a b : Option Nat} {l : List yW} (hw : mw_has am M l) (hlen : l.length + (py_fl P n).length ≤ 128) : ∃ M', mo_laysInto d am (nI r) (zo a) (nI n) (zo b) M = some M' ∧ zf (mw_W am) M M' ∧ mw_has am M' (l ++ py_il P a n b) := by
  cases d with
  | zero => omega
  | succ d =>
    show ∃ M', mo_laysInto_b d am (nI r) (zo a) (nI n) (zo b) M = some M' ∧ _
    unfold mo_laysInto_b
    have := ok_nl h.1
    have hLF := pb_LF
    exact mr_laysInto_3 (by omega) (py_nl P) 0 M l h hn hw (by omega) hlen zLF (by omega)
end
