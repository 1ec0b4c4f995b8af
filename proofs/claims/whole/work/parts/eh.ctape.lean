/-! THE CLASS: a tape is read -/
def re_a (M : zM) (re : Nat) (ls : List Nat) : Prop := re_l M re ∧ zm_I M 4 re 1 = nI ls.length ∧ ∀ (i x : Nat), ls[i]? = some x → zm_I M 20 (re + 1) i = nI x
section
variable {M M' : zM} {pa : Nat → Nat} {P : yP} {d ac wk re Q B : Nat} {T : List Nat}
theorem ctl_24 : ∀ (b : List Nat) (p : Nat) (l : List Nat), (py_tl b 24 p).1 = some l → l = [] := by
  intro b
  induction b with
  | nil => intro p l h; injection h with h; exact h.symm
  | cons x b ih =>
    intro p l h
    rw [py_tl] at h
    by_cases q : x = 32
    · rw [if_pos q] at h
      exact ih _ l h
    · rw [if_neg q, if_neg (show ¬ ((97 ≤ x ∧ x ≤ 122) ∧ 24 ≠ 24) by omega)] at h
      cases h
theorem ctl_26 : ∀ (b : List Nat) (n p : Nat) (l : List Nat), (py_tl b n p).1 = some l → ∀ x, x ∈ l → x < 26 := by
  intro b
  induction b with
  | nil => intro n p l h x hx; injection h with h; rw [← h] at hx; cases hx
  | cons y b ih =>
    intro n p l h x hx
    rw [py_tl] at h
    by_cases q : y = 32
    · rw [if_pos q] at h
      exact ih _ _ l h x hx
    · rw [if_neg q] at h
      by_cases q2 : (97 ≤ y ∧ y ≤ 122) ∧ n ≠ 24
      · rw [if_pos q2] at h
        cases h2 : (py_tl b (n + 1) (p + 1)).1 with
        | none => rw [h2] at h; cases h
        | some l2 =>
          rw [h2] at h
          have h : (y - 97) :: l2 = l := by injection h
          rw [← h] at hx
          rcases List.mem_cons.mp hx with g | g
          · omega
          · exact ih _ _ l2 h2 x g
      · rw [if_neg q2] at h
        cases h
theorem ctl_len : ∀ (b : List Nat) (n p : Nat) (l : List Nat), (py_tl b n p).1 = some l → n ≤ 24 → n + l.length ≤ 24 := by
  intro b
  induction b with
  | nil => intro n p l h hn; injection h with h; rw [← h]; exact hn
  | cons y b ih =>
    intro n p l h hn
    rw [py_tl] at h
    by_cases q : y = 32
    · rw [if_pos q] at h
      exact ih _ _ l h hn
    · rw [if_neg q] at h
      by_cases q2 : (97 ≤ y ∧ y ≤ 122) ∧ n ≠ 24
      · rw [if_pos q2] at h
        cases h2 : (py_tl b (n + 1) (p + 1)).1 with
        | none => rw [h2] at h; cases h
        | some l2 =>
          rw [h2] at h
          have h : (y - 97) :: l2 = l := by injection h
          have := ih _ _ l2 h2 (by omega)
          rw [← h, List.length_cons]
          omega
      · rw [if_neg q2] at h
        cases h
theorem ct_rr (h : ct_x M ac T) (hf : zf (rr_W re) M M') (hr : ac + 1 ≤ re) : ct_x M' ac T := by
  refine ⟨by rw [hf.2.1]; exact h.1, by rw [hf.2.2.2.2.1]; exact h.2.1, ?_⟩
  intro i x hx
  rw [hf.2.2.2.2.2.2 20 (ac + 1) i (by
    rintro (⟨e, _⟩ | ⟨_, e, _⟩)
    · cases e
    · omega)]
  exact h.2.2 i x hx
theorem cl_tape_8 (hlen : T.length ≤ 400) (h256 : ∀ b, b ∈ T → b < 256) (hr : ac + 1 ≤ re) : ∀ (b a : List Nat) (M : zM) (l0 l : List Nat), T = a ++ b → l0.length ≤ 24 → (py_tl b l0.length a.length).1 = some l → ct_x M ac T → re_a M re l0 → ∀ fuel, b.length < fuel → ∃ M', re_readTape_8 d fuel re (some (ac + 1)) (nI T.length) (some Q) (some wk) (nI a.length) M = re_readTape_64 d re (some Q) (some wk) M' ∧ re_a M' re (l0 ++ l) ∧ zf (rr_W re) M M' := by
  intro b
  induction b with
  | nil =>
    intro a M l0 l e h24 hl hT hre fuel hf
    have hla := congrArg List.length e
    rw [List.append_nil] at hla
    have hl : some [] = some l := hl
    injection hl with hl
    subst hl
    cases fuel with
    | zero => cases hf
    | succ fuel =>
      refine ⟨M, ?_, by simpa using hre, zf_refl _ _⟩
      rw [re_readTape_8, if_pos ((le_i2 (by omega) (by omega)).mpr (by omega))]
  | cons x b ih =>
    intro a M l0 l e h24 hl hT hre fuel hf
    have hla := congrArg List.length e
    rw [List.length_append, List.length_cons] at hla
    have hel : (a ++ [x]).length = a.length + 1 := by simp
    cases fuel with
    | zero => cases hf
    | succ fuel =>
      have hx : T[a.length]? = some x := by rw [e]; simp
      have hx2 := h256 x (by rw [e]; simp)
      have hz : z_in (nI a.length) 400 := nI_in (by omega) (by omega)
      have c24 : ((24 : Int32) ≤ nI l0.length) ↔ 24 ≤ l0.length := le_i2 (m := 24) (by omega) (by omega)
      have c3 : (nI x = 32) ↔ x = 32 := nI_eq (b := 32) (by omega) (by omega)
      rw [re_readTape_8, if_neg (fun y => by have := (le_i2 (by omega) (by omega)).mp y; omega), hre.2.1]
      by_cases q24 : 24 ≤ l0.length
      · rw [if_pos (c24.mpr q24)]
        have : l0.length = 24 := by omega
        rw [this] at hl
        rw [ctl_24 _ _ l hl, List.append_nil]
        exact ⟨M, rfl, hre, zf_refl _ _⟩
      · rw [if_neg (fun y => q24 (c24.mp y))]
        simp only [hT.1, if_pos hz, nI_clamp (show a.length < 2 ^ 31 by omega), hT.2.2 _ x hx, c3, re_readTape_58, zlet, nI_1]
        rw [py_tl] at hl
        by_cases q : x = 32
        · rw [if_pos q] at hl ⊢
          obtain ⟨M', g1, g2, g3⟩ := ih (a ++ [x]) M l0 l (by rw [e]; simp) h24 (by rw [hel]; exact hl) hT hre fuel (by simp at hf; omega)
          rw [hel] at g1
          exact ⟨M', g1, g2, g3⟩
        · rw [if_neg q] at hl ⊢
          by_cases q2 : (97 ≤ x ∧ x ≤ 122) ∧ l0.length ≠ 24
          · rw [if_pos q2] at hl
            cases h2 : (py_tl b (l0.length + 1) (a.length + 1)).1 with
            | none => rw [h2] at hl; cases hl
            | some l2 =>
              rw [h2] at hl
              have hl : (x - 97) :: l2 = l := by injection hl
              have hz2 : z_in (nI l0.length) 24 := nI_in (by omega) (by omega)
              have key : ∀ y : Fin 26, nI (y.val + 97) - 97 = nI y.val := by decide +kernel
              have ex : nI x - 97 = nI (x - 97) := by
                have := key ⟨x - 97, by omega⟩
                rw [show (⟨x - 97, (by omega : x - 97 < 26)⟩ : Fin 26).val + 97 = x from by show x - 97 + 97 = x; omega] at this
                exact this
              obtain ⟨M2, hM2⟩ : ∃ Y, Y = zm_setI (zm_setI M 20 (re + 1) l0.length (nI (x - 97))) 4 re 1 (nI (l0.length + 1)) := ⟨_, rfl⟩
              have f2 : zf (rr_W re) M M2 := by
                rw [hM2]
                exact zf_trans (zf_set (.inr ⟨rfl, by omega, by omega⟩)) (zf_set (.inl ⟨rfl, rfl⟩))
              have a1 : zm_I (zm_setI M 20 (re + 1) l0.length (nI (x - 97))) 4 re 1 = nI l0.length := (pm_ne (by omega)).trans hre.2.1
              have re2 : re_a M2 re (l0 ++ [x - 97]) := by
                refine ⟨?_, ?_, ?_⟩
                · unfold re_l
                  rw [f2.1, f2.2.1]
                  exact hre.1
                · rw [hM2, pm_same]; simp
                · intro i y hy
                  by_cases q3 : i < l0.length
                  · rw [List.getElem?_append_left q3] at hy
                    rw [hM2, pm_ne (by omega), pm_ne (by omega)]
                    exact hre.2.2 i y hy
                  · have q4 : i = l0.length := by
                      have := (List.getElem?_eq_some_iff.mp hy).1
                      simp at this
                      omega
                    subst q4
                    have ey : y = x - 97 := by simpa using hy.symm
                    rw [ey, hM2, pm_ne (by omega), pm_same]
              obtain ⟨M', g1, g2, g3⟩ := ih (a ++ [x]) M2 (l0 ++ [x - 97]) l2 (by rw [e]; simp) (by simp; omega) (by rw [hel, List.length_append]; exact h2) (ct_rr hT f2 hr) re2 fuel (by simp at hf; omega)
              rw [hel] at g1
              refine ⟨M', ?_, ?_, zf_trans f2 g3⟩
              · simp only [hre.1.1.1, hre.1.1.2, if_pos hz2, nI_clamp (show l0.length < 2 ^ 31 by omega), ex, a1, nI_1]
                rw [← hM2]
                exact g1
              · rw [← hl]
                rw [List.append_assoc] at g2
                exact g2
          · rw [if_neg q2] at hl
            cases hl
end
