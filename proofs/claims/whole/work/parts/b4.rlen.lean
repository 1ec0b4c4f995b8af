/-! THE RULES' text: a node for a byte at most -/
theorem sk_len : ∀ (b : List Nat) (p : Nat), (py_sk b p).1.length ≤ b.length := by
  intro b
  induction b with
  | nil => intro p; exact Nat.le_refl _
  | cons x b ih =>
    intro p
    unfold py_sk
    by_cases c : x = 32
    · rw [if_pos c]
      have := ih (p + 1)
      rw [List.length_cons]
      omega
    · rw [if_neg c]
      exact Nat.le_refl _
theorem tail_lt {b : List Nat} {c : Nat} (h : b.head? = some c) : b.tail.length + 1 = b.length := by
  cases b with
  | nil => cases h
  | cons x b => rfl
theorem num_len {least p : Nat} {b : List Nat} {x : Nat × List Nat × Nat} (h : pp_num least b p = .ok x) : x.2.1.length < b.length := by
  unfold pp_num at h
  cases b with
  | nil => cases h
  | cons c r =>
    dsimp only at h
    by_cases q : (48 ≤ c ∧ c ≤ 57) ∧ (least ≤ c - 48 ∨ (c - 48 = 0 ∧ least < 10) ∨ c - 48 = 1)
    · rw [if_pos q] at h
      cases r with
      | nil =>
        dsimp only at h
        by_cases u : least ≤ c - 48
        · rw [if_pos u] at h
          injection h with h
          rw [← h]
          simp
        · rw [if_neg u] at h
          cases h
      | cons e r' =>
        dsimp only at h
        by_cases q2 : 48 ≤ e ∧ e ≤ 57
        · rw [if_pos q2] at h
          by_cases q3 : least ≤ 10 * (c - 48) + (e - 48) ∧ 10 * (c - 48) + (e - 48) ≤ 12
          · rw [if_pos q3] at h
            injection h with h
            rw [← h]
            simp
            omega
          · rw [if_neg q3] at h
            cases h
        · rw [if_neg q2] at h
          by_cases u : least ≤ c - 48
          · rw [if_pos u] at h
            injection h with h
            rw [← h]
            simp
          · rw [if_neg u] at h
            cases h
    · rw [if_neg q] at h
      cases h
theorem sgn_len {c p : Nat} {b : List Nat} {y : List Nat × Nat} (h : pp_sgn c b p = .ok y) : y.1.length < b.length := by
  unfold pp_sgn at h
  by_cases q : (py_sk b p).1.head? = some c
  · rw [if_pos q] at h
    injection h with h
    have h1 := sk_len b p
    have h2 := tail_lt q
    rw [← h]
    show (py_sk b p).1.tail.length < b.length
    omega
  · rw [if_neg q] at h
    cases h
theorem bnd_len {p : Nat} {b : List Nat} {x : Nat × Option Nat × List Nat × Nat} (h : pp_bnd b p = .ok x) : x.2.2.1.length < b.length := by
  unfold pp_bnd at h
  cases h1 : pp_num 0 (py_sk b p).1 (py_sk b p).2 with
  | error q => rw [h1] at h; cases h
  | ok y =>
    rw [h1] at h
    dsimp only at h
    have l0 := sk_len b p
    have l1 := num_len h1
    have l2 := sk_len y.2.1 y.2.2
    by_cases q1 : (py_sk y.2.1 y.2.2).1.head? = some 125
    · rw [if_pos q1] at h
      have l3 := tail_lt q1
      by_cases q2 : y.1 = 0
      · rw [if_pos q2] at h
        cases h
      · rw [if_neg q2] at h
        injection h with h
        rw [← h]
        show (py_sk y.2.1 y.2.2).1.tail.length < b.length
        omega
    · rw [if_neg q1] at h
      cases h2 : pp_sgn 44 y.2.1 y.2.2 with
      | error q => rw [h2] at h; cases h
      | ok z =>
        rw [h2] at h
        dsimp only at h
        have l3 := sgn_len h2
        have l4 := sk_len z.1 z.2
        by_cases q3 : (py_sk z.1 z.2).1.head? = some 125
        · rw [if_pos q3] at h
          have l5 := tail_lt q3
          injection h with h
          rw [← h]
          show (py_sk z.1 z.2).1.tail.length < b.length
          omega
        · rw [if_neg q3] at h
          cases h3 : pp_num (max 1 y.1) (py_sk z.1 z.2).1 (py_sk z.1 z.2).2 with
          | error q => rw [h3] at h; cases h
          | ok t =>
            rw [h3] at h
            dsimp only at h
            have l5 := num_len h3
            cases h4 : pp_sgn 125 t.2.1 t.2.2 with
            | error q => rw [h4] at h; cases h
            | ok w =>
              rw [h4] at h
              dsimp only at h
              have l6 := sgn_len h4
              injection h with h
              rw [← h]
              show w.1.length < b.length
              omega
