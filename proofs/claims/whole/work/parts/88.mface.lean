/-! THE MODEL's face: its state in words, and its answers -/
/-- what was read: rule, letters, taken, what could come, end, counts, anys, the walk -/
abbrev yR : Type := Nat × List Nat × List (Nat × Option Nat) × Int32 × Bool × Nat × Nat × yS
def mv_r (am : Nat) (M : zM) (rd : Option yR) : Prop := match rd with
  | none => zm_I M 12 am 40 = 0
  | some x => zm_I M 12 am 40 = 1 ∧ zm_I M 12 am 41 = nI x.1 ∧ zm_I M 12 am 42 = nI x.2.1.length ∧ zm_I M 12 am 43 = nI x.2.2.1.length ∧ zm_I M 12 am 44 = x.2.2.2.1 ∧ zm_I M 12 am 47 = zb x.2.2.2.2.1 ∧ zm_I M 12 am 45 = nI x.2.2.2.2.2.1 ∧ zm_I M 12 am 46 = nI x.2.2.2.2.2.2.1 ∧ ma_x am M 27 x.2.1 ∧ (∀ i p, x.2.2.1[i]? = some p → zm_I M 20 (am + 28) i = nI p.1 ∧ zm_I M 20 (am + 29) i = zo p.2) ∧ (∀ c, c < 8 → zm_I M 20 (am + 30) (1 + c) = nI (x.2.2.2.2.2.2.2.2.1 c)) ∧ (∀ a, a < 4 → zm_I M 20 (am + 30) (9 + a) = x.2.2.2.2.2.2.2.2.2 a)
def rd_ok (R : Nat) (rd : Option yR) : Prop := ∀ x, rd = some x → x.1 < R ∧ x.2.1.length ≤ 24 ∧ x.2.2.1.length ≤ x.2.1.length ∧ x.2.2.2.2.2.1 ≤ 8 ∧ x.2.2.2.2.2.2.1 ≤ 4
/-- the tape -/
def tp_ok (T : List Nat) : Prop := T.length ≤ 400 ∧ ∀ b, b ∈ T → 1 ≤ b ∧ b < 256
def mt_p (am : Nat) (M : zM) (T : List Nat) : Prop := zm_I M 12 am 2 = nI T.length ∧ ∀ i b, T[i]? = some b → zm_I M 22 (am + 1) i = (nI b).toInt8.toInt32
/-- the state: tape, rules, document, what was read -/
abbrev yZ : Type := List Nat × (Nat × (Nat → yP)) × List yT × Option yR
def zz_ok (S : yZ) : Prop := tp_ok S.1 ∧ S.2.1.1 ≤ 8 ∧ (∀ r, r < S.2.1.1 → py_ok (S.2.1.2 r)) ∧ py_le26 S.2.1.1 S.2.1.2 ∧ do_ok S.2.2.1 ∧ rd_ok S.2.1.1 S.2.2.2
def mI (am : Nat) (M : zM) (S : yZ) : Prop := ml_ok am M ∧ mt_p am M S.1 ∧ mt_ok am M S.2.1.1 S.2.1.2 ∧ md_x am M S.2.2.1 ∧ mv_r am M S.2.2.2 ∧ zm_I M 12 am 31 = -1
section
variable {am d : Nat} {M : zM} {S : yZ}
theorem mv_zf {F A : List Nat} {M' : zM} {rd : Option yR} (h : mv_r am M rd) (hf : zf (mg am F A) M M') (hF : ¬ 40 ∈ F ∧ ¬ 41 ∈ F ∧ ¬ 42 ∈ F ∧ ¬ 43 ∈ F ∧ ¬ 44 ∈ F ∧ ¬ 45 ∈ F ∧ ¬ 46 ∈ F ∧ ¬ 47 ∈ F) (hA : ¬ 27 ∈ A ∧ ¬ 28 ∈ A ∧ ¬ 29 ∈ A ∧ ¬ 30 ∈ A) : mv_r am M' rd := by
  obtain ⟨f0, f1, f2, f3, f4, f5, f6, f7⟩ := hF
  obtain ⟨a0, a1, a2, a3⟩ := hA
  cases rd with
  | none =>
    show zm_I M' 12 am 40 = 0
    rw [mg_f hf f0]
    exact h
  | some x =>
    obtain ⟨h0, h1, h2, h3, h4, h5, h6, h7, h8, h9, h10, h11⟩ := h
    refine ⟨?_, ?_, ?_, ?_, ?_, ?_, ?_, ?_, ma_mg h8 hf a0, ?_, ?_, ?_⟩
    · rw [mg_f hf f0]; exact h0
    · rw [mg_f hf f1]; exact h1
    · rw [mg_f hf f2]; exact h2
    · rw [mg_f hf f3]; exact h3
    · rw [mg_f hf f4]; exact h4
    · rw [mg_f hf f7]; exact h5
    · rw [mg_f hf f5]; exact h6
    · rw [mg_f hf f6]; exact h7
    · intro i p hp
      rw [mg_a hf (by decide) a1, mg_a hf (by decide) a2]
      exact h9 i p hp
    · intro c hc
      rw [mg_a hf (by decide) a3]
      exact h10 c hc
    · intro c hc
      rw [mg_a hf (by decide) a3]
      exact h11 c hc
/-- fields and rows that the state doesn't stand on -/
def mi_F : List Nat := [0, 3, 4, 16, 17, 21, 26, 28, 35, 36, 53, 54, 55, 57, 58, 59, 61]
def mi_A : List Nat := [3, 5, 7, 9, 11, 13, 14, 15, 16, 17, 18, 19, 20, 21, 22, 23, 24, 25, 26, 31, 32, 33]
theorem mI_zf {M' : zM} (h : mI am M S) (hf : zf (mg am (31 :: mi_F) mi_A) M M') (h31 : zm_I M' 12 am 31 = -1) : mI am M' S := by
  obtain ⟨h1, h2, h3, h4, h5, _⟩ := h
  refine ⟨ml_zf h1 hf, ⟨?_, ?_⟩, mt_zf2 h3 hf (by simp [mi_F]) (by simp [mi_A]), md_zf h4 hf (by simp [mi_F]) (by simp [mi_A]), mv_zf h5 hf (by simp [mi_F]) (by simp [mi_A]), h31⟩
  · rw [mg_f hf (by simp [mi_F])]
    exact h2.1
  · intro i b hb
    rw [mg_a hf (by decide) (by simp [mi_A])]
    exact h2.2 i b hb
/-- the same, where 31 isn't touched -/
theorem mI_zf' {F A : List Nat} {M' : zM} (h : mI am M S) (hf : zf (mg am F A) M M') (hF : ∀ j, j ∈ F → j ∈ mi_F) (hA : ∀ j, j ∈ A → j ∈ mi_A) : mI am M' S := by
  refine mI_zf h (zf_mono hf (mg_mono (fun j hj => List.mem_cons_of_mem _ (hF j hj)) hA)) ?_
  rw [mg_f hf (fun x => by have := hF 31 x; simp [mi_F] at this)]
  exact h.2.2.2.2.2
/-- 'thrown' is set -/
theorem mI_0 (h : mI am M S) (v : Int32) : mI am (zm_setI M 12 am 0 v) S ∧ zf (mg am [0] []) M (zm_setI M 12 am 0 v) := by
  have hf : zf (mg am [0] []) M (zm_setI M 12 am 0 v) := zf_set (.inl ⟨rfl, rfl, by simp⟩)
  exact ⟨mI_zf' h hf (by simp [mi_F]) (by simp), hf⟩
theorem mr_isRule (h : mI am M S) (hz : zz_ok S) (hd : 0 < d) (x : Int32) : mo_isRule d am x M = some (zb (zin x S.2.1.1).isSome, M) := by
  have hR := hz.2.1
  obtain ⟨d, rfl⟩ : ∃ d', d = d' + 1 := ⟨d - 1, by omega⟩
  show mo_isRule_b d am x M = _
  unfold mo_isRule_b
  rw [h.2.2.1.1, mr_isInN (by omega)]
  simp only [Option.bind_some]
  exact if_pos (pb_zb _)
theorem mr_isThing (h : mI am M S) (hz : zz_ok S) (hd : 0 < d) (x : Int32) : mo_isThing d am x M = some (zb (zin x S.2.2.1.length).isSome, M) := by
  have hR := hz.2.2.2.2.1.1
  obtain ⟨d, rfl⟩ : ∃ d', d = d' + 1 := ⟨d - 1, by omega⟩
  show mo_isThing_b d am x M = _
  unfold mo_isThing_b
  rw [h.2.2.2.1.1, mr_isInN (by omega)]
  simp only [Option.bind_some]
  exact if_pos (pb_zb _)
theorem mI_p (h : mI am M S) {r : Nat} (hr : r < S.2.1.1) : mp_ok am M r (S.2.1.2 r) := h.2.2.1.2.2.2 r hr
/-! rule -/
def sp_rule (S : yZ) (x w : Int32) : Option Int32 := match zin x S.2.1.1 with
  | none => none
  | some r => match zin w 11 with
    | none => none
    | some k => some (if k = 0 then nI (py_le (S.2.1.2 r)) else if k = 1 then nI (py_nl (S.2.1.2 r)) else if k = 2 then nI (py_nc (S.2.1.2 r)) else if k = 3 then nI (py_na (S.2.1.2 r)) else if k = 4 then zb (py_nu (S.2.1.2 r) (py_rt (S.2.1.2 r))) else if k = 5 then zb (py_cf (S.2.1.2 r) true == 0) else if k = 6 then zb (py_sure (S.2.1.2 r)) else if k = 7 then nI (py_cf (S.2.1.2 r) false) else if k = 8 then nI (py_wd (S.2.1.2 r) (py_rt (S.2.1.2 r))).length else if k = 9 then zo (py_lg (S.2.1.2 r) (py_rt (S.2.1.2 r))) else zor (py_ll (S.2.1.2 r)))
theorem ten_64 : (10 : Int64) = (nI 11 - 1).toInt64 := by decide
theorem six_64 : (6 : Int64) = (nI 7 - 1).toInt64 := by decide
theorem four_64 : (4 : Int64) = (nI 5 - 1).toInt64 := by decide
theorem five_64 : (5 : Int64) = (nI 6 - 1).toInt64 := by decide
theorem one_64 : (1 : Int64) = (nI 2 - 1).toInt64 := by decide
theorem two_64 : (2 : Int64) = (nI 3 - 1).toInt64 := by decide
theorem seven_64 : (7 : Int64) = (nI 8 - 1).toInt64 := by decide
theorem mf_rule (h : mI am M S) (hz : zz_ok S) (hd : 200 ≤ d) (x w : Int32) : ∃ M' v, mo_rule d am x w M = some (v, M') ∧ mI am M' S ∧ zf (mg am (31 :: mi_F) mi_A) M M' ∧ zm_I M' 12 am 0 = zb (sp_rule S x w).isNone ∧ (∀ u, sp_rule S x w = some u → v = u) := by
  have hR := hz.2.1
  obtain ⟨d, rfl⟩ : ∃ d', d = d' + 1 := ⟨d - 1, by omega⟩
  show ∃ M' v, mo_rule_b d am x w M = _ ∧ _
  have h1 := mI_0 h 1
  have h0 := mI_0 h 0
  have hm : ∀ t k j, mg am [0] [] t k j → mg am (31 :: mi_F) mi_A t k j := mg_mono (by simp [mi_F]) (by simp)
  have e25 : mo_rule_25 d am x w (some am) M = some (0, zm_setI M 12 am 0 1) := by
    unfold mo_rule_25 mo_rule_26
    simp only [zlet, pm_same]
    rw [if_neg (by decide)]
  unfold mo_rule_b
  rw [mr_isRule h hz (by omega)]
  simp only [Option.bind_some]
  unfold sp_rule
  cases hx : zin x S.2.1.1 with
  | none =>
    simp only [Option.isSome_none, pb_zbf, if_true, e25]
    exact ⟨_, 0, rfl, h1.1, zf_mono h1.2 hm, pm_same, fun u hu => (by cases hu)⟩
  | some r =>
    obtain ⟨hr, rfl⟩ := zin_some (by omega) hx
    simp only [Option.isSome_some, pb_zbt]
    rw [if_neg (by decide), ten_64, mr_isInN (by omega)]
    simp only [Option.bind_some]
    cases hw : zin w 11 with
    | none =>
      simp only [Option.isSome_none, pb_zbf, if_true, e25]
      exact ⟨_, 0, rfl, h1.1, zf_mono h1.2 hm, pm_same, fun u hu => (by cases hu)⟩
    | some k =>
      obtain ⟨hk, rfl⟩ := zin_some (by omega) hw
      simp only [Option.isSome_some, pb_zbt]
      rw [if_neg (by decide)]
      have hp := mI_p h0.1 hr
      have hP := hp.1
      generalize S.2.1.2 r = P at *
      have e26 : ∀ (v : Int32) (M' : zM), (if (nI k : Int32) = 0 then ((mo_of d am (nI r) 0 (zm_setI M 12 am 0 0)).bind fun q16 => some (q16.1, q16.2)) else (if (nI k : Int32) = 1 then ((mo_of d am (nI r) 2 (zm_setI M 12 am 0 0)).bind fun q18 => some (q18.1, q18.2)) else (if (nI k : Int32) = 2 then ((mo_of d am (nI r) 3 (zm_setI M 12 am 0 0)).bind fun q20 => some (q20.1, q20.2)) else (if (nI k : Int32) = 3 then ((mo_of d am (nI r) 4 (zm_setI M 12 am 0 0)).bind fun q22 => some (q22.1, q22.2)) else (if (nI k : Int32) = 4 then ((mo_of d am (nI r) 1 (zm_setI M 12 am 0 0)).bind fun q24 => ((mo_isNull d am (nI r) q24.1 q24.2).bind fun q26 => (if q26.1 = 0 then mo_rule_139 d 0 q26.2 else mo_rule_139 d 1 q26.2))) else (if (nI k : Int32) = 5 then ((mo_conflicts d am (nI r) 1 (zm_setI M 12 am 0 0)).bind fun q29 => (if q29.1 = 0 then mo_rule_154 d 1 q29.2 else mo_rule_154 d 0 q29.2)) else (if (nI k : Int32) = 6 then ((mo_isSure d am (nI r) (zm_setI M 12 am 0 0)).bind fun q32 => (if q32.1 = 0 then mo_rule_168 d 0 q32.2 else mo_rule_168 d 1 q32.2)) else (if (nI k : Int32) = 7 then ((mo_conflicts d am (nI r) 0 (zm_setI M 12 am 0 0)).bind fun q35 => some (q35.1, q35.2)) else (if (nI k : Int32) = 8 then ((mo_wordOf d am (nI r) (zm_setI M 12 am 0 0)).bind fun q37 => some (q37.1, q37.2)) else (if (nI k : Int32) = 9 then ((mo_of d am (nI r) 1 (zm_setI M 12 am 0 0)).bind fun q39 => ((mo_longest d am (nI r) q39.1 q39.2).bind fun q41 => some (q41.1, q41.2))) else ((mo_lettersIn d am (nI r) (zm_setI M 12 am 0 0)).bind fun q43 => some (q43.1, q43.2)))))))))))) = some (v, M') → mo_rule_26 d am (nI r) (nI k) (some am) 0 M = some (v, M') := by
        intro v M' he
        unfold mo_rule_26
        simp only [zlet, pm_same]
        rw [if_pos (by decide)]
        exact he
      have hrt := ok_rt hP
      have hg := ok_hg hP
      /- answers that change nothing more -/
      have fin : ∀ v, mo_rule_26 d am (nI r) (nI k) (some am) 0 M = some (v, zm_setI M 12 am 0 0) → ∃ M' v', mo_rule_26 d am (nI r) (nI k) (some am) 0 M = some (v', M') ∧ mI am M' S ∧ zf (mg am (31 :: mi_F) mi_A) M M' ∧ zm_I M' 12 am 0 = zb (some v).isNone ∧ (∀ u, some v = some u → v' = u) := by
        intro v he
        exact ⟨_, v, he, h0.1, zf_mono h0.2 hm, pm_same, fun u hu => (by injection hu)⟩
      /- answers that lay ways -/
      have finW : ∀ v M1, mo_rule_26 d am (nI r) (nI k) (some am) 0 M = some (v, M1) → zf (mw_W am) (zm_setI M 12 am 0 0) M1 → ∃ M' v', mo_rule_26 d am (nI r) (nI k) (some am) 0 M = some (v', M') ∧ mI am M' S ∧ zf (mg am (31 :: mi_F) mi_A) M M' ∧ zm_I M' 12 am 0 = zb (some v).isNone ∧ (∀ u, some v = some u → v' = u) := by
        intro v M1 he hf
        refine ⟨M1, v, he, mI_zf' h0.1 hf (by simp [mi_F]) (by simp [mi_A]), zf_trans (zf_mono h0.2 hm) (zf_mono hf (mg_mono (by simp [mi_F]) (by simp [mi_A]))), ?_, fun u hu => (by injection hu)⟩
        rw [mg_f hf (by simp), pm_same]
        rfl
      have hk11 : k = 0 ∨ k = 1 ∨ k = 2 ∨ k = 3 ∨ k = 4 ∨ k = 5 ∨ k = 6 ∨ k = 7 ∨ k = 8 ∨ k = 9 ∨ k = 10 := by omega
      rcases hk11 with q | q | q | q | q | q | q | q | q | q | q
      · subst q
        refine fin _ (e26 _ _ ?_)
        simp [pb_n0, mr_le hp]
      · subst q
        refine fin _ (e26 _ _ ?_)
        simp [pb_n1, mr_nl hp]
      · subst q
        refine fin _ (e26 _ _ ?_)
        simp [pb_n2, mr_nc hp]
      · subst q
        refine fin _ (e26 _ _ ?_)
        simp [pb_n3, mr_na hp]
      · subst q
        refine fin _ (e26 _ _ ?_)
        simp only [pb_n4, mr_rt hp, Option.bind_some, mr_isNull hp _ hrt d (by omega)]
        cases py_nu P (py_rt P) <;> simp [zb, mo_rule_139]
      · subst q
        obtain ⟨M1, e1, e2⟩ := mr_conflicts (d := d) hp (by omega) true
        rw [pb_zbt] at e1
        have ec : (nI (py_cf P true) = 0) ↔ py_cf P true = 0 := nI_eq (b := 0) (cf_lt hP true) (by omega)
        refine finW _ M1 (e26 _ _ ?_) e2
        simp only [pb_n5, e1, Option.bind_some, ec]
        by_cases q : py_cf P true = 0
        · simp [q, mo_rule_154, zb]
        · simp [q, mo_rule_154, zb]
      · subst q
        obtain ⟨M1, e1, e2⟩ := mr_isSure (d := d) hp (by omega)
        refine finW _ M1 (e26 _ _ ?_) e2
        simp only [pb_n6, e1, Option.bind_some]
        cases py_sure P <;> simp [zb, mo_rule_168]
      · subst q
        obtain ⟨M1, e1, e2⟩ := mr_conflicts (d := d) hp (by omega) false
        rw [pb_zbf] at e1
        refine finW _ M1 (e26 _ _ ?_) e2
        simp [pb_n7, e1]
      · subst q
        obtain ⟨M1, e1, e2, e3, e4⟩ := mr_wordOf (d := d) hp (by omega) h0.1.2.2.2.2.2
        refine ⟨M1, nI (py_wd P (py_rt P)).length, e26 _ _ (by simp [pb_n8, e1]), mI_zf h0.1 (zf_mono e3 (mg_mono (by simp [mi_F]) (by simp [mi_A]))) e4, zf_trans (zf_mono h0.2 hm) (zf_mono e3 (mg_mono (by simp [mi_F]) (by simp [mi_A]))), ?_, fun u hu => (by injection hu)⟩
        rw [mg_f e3 (by simp), pm_same]
        rfl
      · subst q
        refine fin _ (e26 _ _ ?_)
        simp [pb_n9, mr_rt hp, mr_longest hp _ hrt d (by omega)]
      · subst q
        refine fin _ (e26 _ _ ?_)
        simp [pb_n10, mr_lettersIn hp (show 0 < d by omega)]
end
