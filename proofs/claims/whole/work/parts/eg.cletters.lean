/-! THE CLASS: the letters of a text -/
section
variable {M M' : zM} {pa : Nat → Nat} {P : yP} {d ac wk re Q B : Nat} {T : List Nat}
theorem cl_wrong_4 (hT : ct_x M ac T) (hlen : T.length ≤ 400) (h256 : ∀ b, b ∈ T → b < 256) : ∀ (b a : List Nat) (n : Nat), T = a ++ b → n ≤ 24 → ∀ fuel, b.length < fuel → re_wrongByte_4 d fuel (some (ac + 1)) (nI T.length) (nI n) (nI a.length) M = some ((match (py_tl b n a.length).1 with
    | none => nI (py_tl b n a.length).2
    | some _ => -1), M) := by
  intro b
  induction b with
  | nil =>
    intro a n e hn fuel hf
    have hla := congrArg List.length e
    rw [List.append_nil] at hla
    cases fuel with
    | zero => cases hf
    | succ fuel =>
      rw [re_wrongByte_4, if_pos ((le_i2 (by omega) (by omega)).mpr (by omega))]
      rfl
  | cons x b ih =>
    intro a n e hn fuel hf
    have hla := congrArg List.length e
    rw [List.length_append, List.length_cons] at hla
    cases fuel with
    | zero => cases hf
    | succ fuel =>
      have hx : T[a.length]? = some x := by rw [e]; simp
      have hx2 := h256 x (by rw [e]; simp)
      have hz : z_in (nI a.length) 400 := nI_in (by omega) (by omega)
      have c1 : (nI x < 97) ↔ x < 97 := lt_i2 (m := 97) (by omega) (by omega)
      have c2 : ((122 : Int32) < nI x) ↔ 122 < x := lt_i2 (a := 122) (by omega) (by omega)
      have c3 : (nI x = 32) ↔ x = 32 := nI_eq (b := 32) (by omega) (by omega)
      have c4 : (nI n ≤ 24) ↔ n ≤ 24 := le_i2 (a := 24) (by omega) (by omega)
      have c5 : (nI (n + 1) ≤ 24) ↔ n + 1 ≤ 24 := le_i2 (a := 24) (by omega) (by omega)
      have hel : (a ++ [x]).length = a.length + 1 := by simp
      have ih' : ∀ n, n ≤ 24 → re_wrongByte_4 d fuel (some (ac + 1)) (nI T.length) (nI n) (nI (a.length + 1)) M = some ((match (py_tl b n (a.length + 1)).1 with
        | none => nI (py_tl b n (a.length + 1)).2
        | some _ => -1), M) := by
        intro n hn
        have := ih (a ++ [x]) n (by rw [e]; simp) hn fuel (by simp at hf; omega)
        rw [hel] at this
        exact this
      rw [re_wrongByte_4, if_neg (fun y => by have := (le_i2 (by omega) (by omega)).mp y; omega)]
      simp only [hT.1, if_pos hz, nI_clamp (show a.length < 2 ^ 31 by omega), hT.2.2 _ x hx, c1, c2, re_wrongByte_29, re_wrongByte_30, re_wrongByte_40, re_wrongByte_53, re_wrongByte_59, c3, c4, c5, zlet, nI_1]
      by_cases q32 : x = 32
      · have et : py_tl (x :: b) n a.length = py_tl b n (a.length + 1) := by rw [py_tl, if_pos q32]
        rw [et]
        simp only [if_pos (show x < 97 by omega), if_true, if_pos q32, if_pos hn]
        exact ih' n hn
      · by_cases q1 : x < 97
        · have et : py_tl (x :: b) n a.length = (none, a.length) := by rw [py_tl, if_neg q32, if_neg (show ¬ ((97 ≤ x ∧ x ≤ 122) ∧ n ≠ 24) by omega)]
          rw [et]
          simp only [if_pos q1, if_true, if_neg q32]
        · by_cases q2 : 122 < x
          · have et : py_tl (x :: b) n a.length = (none, a.length) := by rw [py_tl, if_neg q32, if_neg (show ¬ ((97 ≤ x ∧ x ≤ 122) ∧ n ≠ 24) by omega)]
            rw [et]
            simp only [if_neg q1, if_pos q2, if_true, if_neg q32]
          · have h10 : ¬ (1 : Int32) = 0 := by decide
            by_cases q3 : n = 24
            · have et : py_tl (x :: b) n a.length = (none, a.length) := by rw [py_tl, if_neg q32, if_neg (show ¬ ((97 ≤ x ∧ x ≤ 122) ∧ n ≠ 24) by omega)]
              rw [et]
              simp only [if_neg q1, if_neg q2, if_neg h10, if_neg (show ¬ n + 1 ≤ 24 by omega)]
            · have et : py_tl (x :: b) n a.length = ((py_tl b (n + 1) (a.length + 1)).1.map (fun l => (x - 97) :: l), (py_tl b (n + 1) (a.length + 1)).2) := by rw [py_tl, if_neg q32, if_pos (show (97 ≤ x ∧ x ≤ 122) ∧ n ≠ 24 by omega)]
              rw [et]
              simp only [if_neg q1, if_neg q2, if_neg h10, if_pos (show n + 1 ≤ 24 by omega), ih' (n + 1) (by omega)]
              cases (py_tl b (n + 1) (a.length + 1)).1 <;> rfl
theorem cl_wrongByte (hT : ct_x M ac T) (hlen : T.length ≤ 400) (h256 : ∀ b, b ∈ T → b < 256) : re_wrongByte d (some (ac + 1)) (nI T.length) M = some ((match (py_tl T 0 0).1 with
    | none => nI (py_tl T 0 0).2
    | some _ => -1), M) := cl_wrong_4 hT hlen h256 T [] 0 rfl (by omega) zLF (by have := zLF_402; omega)
end
