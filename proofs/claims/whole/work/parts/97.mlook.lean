/-! THE MODEL: looking at the tape -/
def py_ht (b : List Nat) : Int32 := match b with
  | [] => -1
  | c :: _ => nI c
section
variable {am d : Nat} {M : zM} {T : List Nat}
theorem mt_mg {F A : List Nat} {M' : zM} (h : mt_p am M T) (hf : zf (mg am F A) M M') (hF : ¬ 2 ∈ F) (hA : ¬ 1 ∈ A) : mt_p am M' T := by
  refine ⟨by rw [mg_f hf hF]; exact h.1, ?_⟩
  intro i b hb
  rw [mg_a hf (by decide) hA]
  exact h.2 i b hb
theorem mr_look_0 (hok : tp_ok T) : ∀ (b a : List Nat) (M : zM), T = a ++ b → ml_ok am M → mt_p am M T → zm_I M 12 am 3 = nI a.length → ∀ fuel, b.length < fuel → ∃ n b' M', b = List.replicate n 32 ++ b' ∧ b'.head? ≠ some 32 ∧ mo_look_0 d fuel am M = some (py_ht b', M') ∧ zm_I M' 12 am 3 = nI (a.length + n) ∧ zf (mg am [3] []) M M' := by
  have h400 := hok.1
  intro b
  induction b with
  | nil =>
    intro a M e hl hT h3 fuel hf
    cases fuel with
    | zero => cases hf
    | succ fuel =>
      have hal : T.length = a.length := by rw [e]; simp
      have hh : mo_here d am M = some (-1, M) := by
        have := mr_here (d := d) hl hT hok h3 (by omega)
        rw [show T[a.length]? = none from by rw [List.getElem?_eq_none_iff]; omega] at this
        exact this
      refine ⟨0, [], M, rfl, by simp, ?_, h3, zf_refl _ _⟩
      simp only [mo_look_0, hh, Option.bind_some, py_ht]
      rw [if_neg (by decide)]
  | cons x b ih =>
    intro a M e hl hT h3 fuel hf
    cases fuel with
    | zero => cases hf
    | succ fuel =>
      have hal : T.length = a.length + (b.length + 1) := by rw [e]; simp
      have hx : T[a.length]? = some x := by rw [e]; simp
      have hx256 := hok.2 x (List.mem_of_getElem? hx)
      have hh : mo_here d am M = some (nI x, M) := by
        have := mr_here (d := d) hl hT hok h3 (by omega)
        rw [hx] at this
        exact this
      have e32 : (nI x = 32) ↔ x = 32 := nI_eq (b := 32) (by omega) (by omega)
      simp only [mo_look_0, hh, Option.bind_some, e32]
      by_cases q : x = 32
      · simp only [if_pos q, zlet, h3, nI_1]
        have hfz : zf (mg am [3] []) M (zm_setI M 12 am 3 (nI (a.length + 1))) := zf_set (.inl ⟨rfl, rfl, by simp⟩)
        obtain ⟨n, b', M', g1, g2, g3, g4, g5⟩ := ih (a ++ [x]) (zm_setI M 12 am 3 (nI (a.length + 1))) (by rw [e]; simp) (ml_set hl) (mt_mg hT hfz (by simp) (by simp)) (by rw [pm_same]; simp) fuel (by simp at hf; omega)
        refine ⟨n + 1, b', M', ?_, g2, g3, ?_, zf_trans hfz g5⟩
        · rw [g1, q, List.replicate_succ, List.cons_append]
        · rw [g4]
          simp only [List.length_append, List.length_cons, List.length_nil, Nat.zero_add]
          rw [show a.length + 1 + n = a.length + (n + 1) by omega]
      · rw [if_neg q]
        exact ⟨0, x :: b, M, rfl, by simpa using q, rfl, h3, zf_refl _ _⟩
/-- what lies at the place: behind blanks -/
theorem mr_look (hok : tp_ok T) {a b : List Nat} (e : T = a ++ b) (hl : ml_ok am M) (hT : mt_p am M T) (h3 : zm_I M 12 am 3 = nI a.length) (hd : 1 ≤ d) : ∃ n b' M', b = List.replicate n 32 ++ b' ∧ b'.head? ≠ some 32 ∧ mo_look d am M = some (py_ht b', M') ∧ zm_I M' 12 am 3 = nI (a.length + n) ∧ zf (mg am [3] []) M M' := by
  have hLF2 : 400 < zLF := pb_LF
  have h400 := hok.1
  have hal : T.length = a.length + b.length := by rw [e]; simp
  obtain ⟨d, rfl⟩ : ∃ d', d = d' + 1 := ⟨d - 1, by omega⟩
  obtain ⟨n, b', M', g1, g2, g3, g4, g5⟩ := mr_look_0 (am := am) (d := d) hok b a M e hl hT h3 zLF (by omega)
  refine ⟨n, b', M', g1, g2, ?_, g4, g5⟩
  have eb : mo_look (d + 1) am M = mo_look_b d am M := rfl
  rw [eb]
  unfold mo_look_b
  exact g3
theorem ht_eq {b : List Nat} (hb : ∀ x, x ∈ b → x < 256) {c : Nat} (hc : c < 256) : py_ht b = nI c ↔ b.head? = some c := by
  cases b with
  | nil =>
    have : ¬ (-1 : Int32) = nI c := fun h => pb_ne1 (n := c) (by omega) h.symm
    simp [py_ht, this]
  | cons x b =>
    have hx := hb x (by simp)
    have : (nI x = nI c) ↔ x = c := nI_eq (by omega) (by omega)
    simp [py_ht, this]
theorem ht_m1 {b : List Nat} (hb : ∀ x, x ∈ b → x < 256) : py_ht b = -1 ↔ b = [] := by
  cases b with
  | nil => simp [py_ht]
  | cons x b =>
    have hx := hb x (by simp)
    have : ¬ nI x = (-1 : Int32) := pb_ne1 (by omega)
    simp [py_ht, this]
theorem mr_takes (hok : tp_ok T) {a b : List Nat} (e : T = a ++ b) (hl : ml_ok am M) (hT : mt_p am M T) (h3 : zm_I M 12 am 3 = nI a.length) (hd : 2 ≤ d) {c : Nat} (hc : c < 256) : ∃ n b' M', b = List.replicate n 32 ++ b' ∧ b'.head? ≠ some 32 ∧ mo_takes d am (nI c) M = some (zb (decide (b'.head? = some c)), M') ∧ zm_I M' 12 am 3 = nI (a.length + n + (if b'.head? = some c then 1 else 0)) ∧ zf (mg am [3] []) M M' := by
  obtain ⟨d, rfl⟩ : ∃ d', d = d' + 1 := ⟨d - 1, by omega⟩
  have eb : mo_takes (d + 1) am (nI c) M = mo_takes_b d am (nI c) M := rfl
  rw [eb]
  obtain ⟨n, b', M', g1, g2, g3, g4, g5⟩ := mr_look (d := d) hok e hl hT h3 (by omega)
  have hb : ∀ x, x ∈ b' → x < 256 := fun x hx => (hok.2 x (by rw [e, g1]; simp [hx])).2
  unfold mo_takes_b
  simp only [g3, Option.bind_some, ht_eq hb hc, zlet, g4, nI_1]
  by_cases q : b'.head? = some c
  · rw [if_pos q]
    refine ⟨n, b', zm_setI M' 12 am 3 (nI (a.length + n + 1)), g1, g2, ?_, ?_, zf_trans g5 (zf_set (.inl ⟨rfl, rfl, by simp⟩))⟩
    · rw [decide_eq_true q, pb_zbt]
    · rw [pm_same, if_pos q]
  · rw [if_neg q]
    refine ⟨n, b', M', g1, g2, ?_, ?_, g5⟩
    · rw [decide_eq_false q, pb_zbf]
    · rw [if_neg q]
      exact g4
theorem mr_fine1 (h : zm_I M 12 am 4 = -1) : mo_fine d am M = some (1, M) := by
  unfold mo_fine mo_fine_13
  rw [if_pos h]
  simp
theorem mr_fine0 {q : Nat} (h : zm_I M 12 am 4 = nI q) (hq : q ≤ 400) : mo_fine d am M = some (0, M) := by
  unfold mo_fine mo_fine_13
  rw [h, if_neg (pb_ne1 (by omega))]
  simp
theorem mr_fails (h : zm_I M 12 am 4 = -1) (v : Int32) : mo_fails d am v M = some (zm_setI M 12 am 4 v) := by
  unfold mo_fails mo_fails_13
  rw [if_pos h]
  rfl
theorem mr_isLetter1 : mo_isLetter d (-1) M = some (0, M) := by
  unfold mo_isLetter mo_isLetter_16 mo_isLetter_17
  rw [if_pos (by decide)]
  simp
end
