/-! THE RULES' text: numbers -/
/-- behind the blanks -/
def py_sk : List Nat → Nat → List Nat × Nat
  | [], p => ([], p)
  | b :: r, p => if b = 32 then py_sk r (p + 1) else (b :: r, p)
theorem sk_rep : ∀ (n : Nat) (b : List Nat) (p : Nat), b.head? ≠ some 32 → py_sk (List.replicate n 32 ++ b) p = (b, p + n) := by
  intro n
  induction n with
  | zero =>
    intro b p h
    cases b with
    | nil => rfl
    | cons x b =>
      have : ¬ x = 32 := fun y => h (by simp [y])
      simp [py_sk, this]
  | succ n ih =>
    intro b p h
    rw [List.replicate_succ, List.cons_append]
    unfold py_sk
    rw [if_pos rfl, ih b (p + 1) h]
    have : p + 1 + n = p + (n + 1) := by omega
    rw [this]
/-- a number that isn't less than least: what it is, what comes behind it, and where -/
def pp_num (least : Nat) (b : List Nat) (p : Nat) : Except Nat (Nat × List Nat × Nat) := match b with
  | [] => .error p
  | c :: r => if (48 ≤ c ∧ c ≤ 57) ∧ (least ≤ c - 48 ∨ (c - 48 = 0 ∧ least < 10) ∨ c - 48 = 1) then (match r with
    | [] => if least ≤ c - 48 then .ok (c - 48, [], p + 1) else .error (p + 1)
    | e :: r' => if 48 ≤ e ∧ e ≤ 57 then (if least ≤ 10 * (c - 48) + (e - 48) ∧ 10 * (c - 48) + (e - 48) ≤ 12 then .ok (10 * (c - 48) + (e - 48), r', p + 2) else .error (p + 1)) else if least ≤ c - 48 then .ok (c - 48, e :: r', p + 1) else .error (p + 1)) else .error p
/-- what the model's memory is after a piece that may fail -/
def rq_r (am : Nat) (T : List Nat) (M' : zM) (res : Int32) (v : Except Nat (Nat × List Nat × Nat)) : Prop := match v with
  | .error q => zm_I M' 12 am 4 = nI q ∧ q ≤ 400
  | .ok x => res = nI x.1 ∧ zm_I M' 12 am 4 = -1 ∧ zm_I M' 12 am 3 = nI x.2.2 ∧ ∃ a', T = a' ++ x.2.1 ∧ a'.length = x.2.2
theorem in_12 {v l : Nat} (hv : v < 100) (hl : l < 13) : decide ((nI l).toInt64 ≤ (nI v).toInt64 ∧ (nI v).toInt64 ≤ 12) = decide (l ≤ v ∧ v ≤ 12) := by
  have key : ∀ (v : Fin 100) (l : Fin 13), decide ((nI l.val).toInt64 ≤ (nI v.val).toInt64 ∧ (nI v.val).toInt64 ≤ 12) = decide (l.val ≤ v.val ∧ v.val ≤ 12) := by decide +kernel
  exact key ⟨v, hv⟩ ⟨l, hl⟩
section
variable {am d : Nat} {M : zM} {T : List Nat}
theorem mr_isDigit {b : Nat} (hb : b < 256) : mo_isDigit d (nI b) M = some (zb (decide (48 ≤ b ∧ b ≤ 57)), M) := by
  unfold mo_isDigit
  have h1 : (nI b < 48) ↔ b < 48 := nI_ltI (b := 48) (by omega) (by omega)
  have h2 : ((57 : Int32) < nI b) ↔ 57 < b := nI_ltI (a := 57) (by omega) (by omega)
  simp only [h1, h2]
  by_cases q1 : b < 48
  · have : ¬ (48 ≤ b ∧ b ≤ 57) := by omega
    simp [q1, this, mo_isDigit_16, mo_isDigit_17, zb]
  · by_cases q2 : 57 < b
    · have : ¬ (48 ≤ b ∧ b ≤ 57) := by omega
      simp [q1, q2, this, mo_isDigit_16, mo_isDigit_17, zb]
    · have : 48 ≤ b ∧ b ≤ 57 := by omega
      simp [q1, q2, this, mo_isDigit_17, zb]
theorem mr_isDigit1 : mo_isDigit d (-1) M = some (0, M) := by
  unfold mo_isDigit mo_isDigit_16 mo_isDigit_17
  rw [if_pos (by decide)]
  simp
/-- the place is at the head of r: its byte -/
theorem mr_here2 (hok : tp_ok T) {a r : List Nat} (e : T = a ++ r) (hl : ml_ok am M) (hT : mt_p am M T) (h3 : zm_I M 12 am 3 = nI a.length) : mo_here d am M = some (py_ht r, M) := by
  have h400 := hok.1
  have hal : T.length = a.length + r.length := by rw [e]; simp
  rw [mr_here hl hT hok h3 (by omega), e]
  cases r with
  | nil => simp [py_ht]
  | cons x r => simp [py_ht]
theorem mr_number (hok : tp_ok T) {a b : List Nat} (e : T = a ++ b) (hl : ml_ok am M) (hT : mt_p am M T) (h3 : zm_I M 12 am 3 = nI a.length) (h4 : zm_I M 12 am 4 = -1) (hd : 2 ≤ d) {least : Nat} (hle : least ≤ 12) : ∃ res M', mo_number d am (nI least) M = some (res, M') ∧ zf (mg am [3, 4] []) M M' ∧ rq_r am T M' res (pp_num least (py_sk b a.length).1 (py_sk b a.length).2) := by
  have h400 := hok.1
  obtain ⟨d, rfl⟩ : ∃ d', d = d' + 1 := ⟨d - 1, by omega⟩
  have eb : mo_number (d + 1) am (nI least) M = mo_number_b d am (nI least) M := rfl
  rw [eb]
  obtain ⟨n1, b1, M1, k1, k2, k3, k4, k5⟩ := mr_look (d := d) hok e hl hT h3 (by omega)
  have hf1 : zf (mg am [3, 4] []) M M1 := zf_mono k5 (mg_mono (by simp) (by simp))
  have hl1 := ml_zf hl hf1
  have hT1 := mt_mg hT hf1 (by simp) (by simp)
  have h41 : zm_I M1 12 am 4 = -1 := by rw [mg_f k5 (by simp)]; exact h4
  have e1 : T = (a ++ List.replicate n1 32) ++ b1 := by rw [e, k1]; simp
  have el : (a ++ List.replicate n1 32).length = a.length + n1 := by simp
  have hTl : T.length = a.length + n1 + b1.length := by rw [e1]; simp only [List.length_append, List.length_replicate]
  rw [k1, sk_rep n1 b1 _ k2]
  dsimp only
  /- it fails where it stands -/
  have hfail : ∀ v3 : Int32, ∃ res M', mo_number_41 d am (nI least) v3 M1 = some (res, M') ∧ zf (mg am [3, 4] []) M M' ∧ zm_I M' 12 am 4 = nI (a.length + n1) := by
    intro v3
    refine ⟨0, zm_setI M1 12 am 4 (nI (a.length + n1)), ?_, zf_trans hf1 (zf_set (.inl ⟨rfl, rfl, by simp⟩)), pm_same⟩
    simp only [mo_number_41, mo_number_42, if_true, k4, mr_fails h41, Option.bind_some]
  unfold mo_number_b
  simp only [k3, Option.bind_some, zlet]
  cases b1 with
  | nil =>
    simp only [py_ht, mr_isDigit1, Option.bind_some, if_true]
    obtain ⟨res, M', g1, g2, g3⟩ := hfail (-1 - 48)
    exact ⟨res, M', g1, g2, g3, by omega⟩
  | cons c r =>
    have hc256 := (hok.2 c (by rw [e1]; simp)).2
    rw [List.length_cons] at hTl
    simp only [py_ht, mr_isDigit hc256, Option.bind_some]
    unfold pp_num
    dsimp only
    by_cases q : 48 ≤ c ∧ c ≤ 57
    · rw [decide_eq_true q, pb_zbt, if_neg (by decide)]
      have e48 : nI c - 48 = nI (c - 48) := pk_sub (a := c) (b := 48) (by omega)
      have t1 : (nI least ≤ nI (c - 48)) ↔ least ≤ c - 48 := nI_leI (by omega) (by omega)
      have t2 : (nI (c - 48) = 0) ↔ c - 48 = 0 := nI_eq (b := 0) (by omega) (by omega)
      have t3 : (nI least < 10) ↔ least < 10 := nI_ltI (b := 10) (by omega) (by omega)
      have t4 : (nI (c - 48) = 1) ↔ c - 48 = 1 := nI_eq (b := 1) (by omega) (by omega)
      have epre : (if nI least ≤ nI (c - 48) then mo_number_37 d am (nI least) (nI (c - 48)) M1 else (if nI (c - 48) = 0 then (if nI least < 10 then mo_number_37 d am (nI least) (nI (c - 48)) M1 else mo_number_32 d am (nI least) (nI (c - 48)) M1) else mo_number_32 d am (nI least) (nI (c - 48)) M1)) = (if least ≤ c - 48 ∨ (c - 48 = 0 ∧ least < 10) ∨ c - 48 = 1 then mo_number_37 d am (nI least) (nI (c - 48)) M1 else mo_number_41 d am (nI least) (nI (c - 48)) M1) := by
        simp only [t1, t2, t3, mo_number_32, t4]
        by_cases u1 : least ≤ c - 48
        · simp [u1]
        · by_cases u2 : c - 48 = 0
          · by_cases u3 : least < 10
            · simp [u1, u2, u3]
            · simp [u1, u2, u3]
          · by_cases u4 : c - 48 = 1
            · simp [u1, u2, u4]
            · simp [u1, u2, u4]
      rw [e48, epre]
      by_cases u : least ≤ c - 48 ∨ (c - 48 = 0 ∧ least < 10) ∨ c - 48 = 1
      · rw [if_pos u, if_pos ⟨q, u⟩]
        have f2 : zf (mg am [3, 4] []) M1 (zm_setI M1 12 am 3 (nI (a.length + n1 + 1))) := zf_set (.inl ⟨rfl, rfl, by simp⟩)
        obtain ⟨M2, hM2⟩ : ∃ X, X = zm_setI M1 12 am 3 (nI (a.length + n1 + 1)) := ⟨_, rfl⟩
        rw [← hM2] at f2
        have hf2 := zf_trans hf1 f2
        have w3 : zm_I M2 12 am 3 = nI (a.length + n1 + 1) := by rw [hM2, pm_same]
        have w4 : zm_I M2 12 am 4 = -1 := by rw [hM2, pm_ne (by omega)]; exact h41
        have e2 : T = ((a ++ List.replicate n1 32) ++ [c]) ++ r := by rw [e1]; simp
        have el2 : ((a ++ List.replicate n1 32) ++ [c]).length = a.length + n1 + 1 := by rw [List.length_append, el]; rfl
        have hh : mo_here d am M2 = some (py_ht r, M2) := mr_here2 hok e2 (ml_zf hl hf2) (mt_mg hT hf2 (by simp) (by simp)) (by rw [el2]; exact w3)
        have e37 : mo_number_37 d am (nI least) (nI (c - 48)) M1 = mo_number_42 d am (nI least) (nI (c - 48)) 1 M1 := rfl
        rw [e37]
        unfold mo_number_42
        rw [if_neg (by decide)]
        simp only [zlet, k4, nI_1]
        rw [← hM2]
        simp only [hh, Option.bind_some]
        /- no second digit -/
        have hone : ∃ res M', (if nI least ≤ nI (c - 48) then mo_number_139 d (nI (c - 48)) M2 else ((mo_fails d am (zm_I M2 12 am 3) M2).bind fun q16 => mo_number_139 d (nI (c - 48)) q16)) = some (res, M') ∧ zf (mg am [3, 4] []) M M' ∧ rq_r am T M' res (if least ≤ c - 48 then .ok (c - 48, r, a.length + n1 + 1) else .error (a.length + n1 + 1)) := by
          simp only [t1]
          by_cases u1 : least ≤ c - 48
          · rw [if_pos u1, if_pos u1]
            exact ⟨nI (c - 48), M2, rfl, hf2, rfl, w4, w3, _, e2, el2⟩
          · rw [if_neg u1, if_neg u1, w3, mr_fails w4]
            exact ⟨nI (c - 48), _, rfl, zf_trans hf2 (zf_set (.inl ⟨rfl, rfl, by simp⟩)), pm_same, by omega⟩
        cases r with
        | nil =>
          simp only [py_ht, mr_isDigit1, Option.bind_some, if_true]
          exact hone
        | cons x r' =>
          have hx256 := (hok.2 x (by rw [e1]; simp)).2
          rw [List.length_cons] at hTl
          simp only [py_ht, mr_isDigit hx256, Option.bind_some]
          by_cases q2 : 48 ≤ x ∧ x ≤ 57
          · rw [decide_eq_true q2, pb_zbt, if_neg (by decide), if_pos q2]
            have ev : 10 * nI (c - 48) + nI x - 48 = nI (10 * (c - 48) + (x - 48)) := by
              have a1 : 10 * nI (c - 48) + nI x = nI (10 * (c - 48) + x) := by
                show nI 10 * nI (c - 48) + nI x = _
                rw [pk_mul, nI_add]
              have a2 : nI (10 * (c - 48) + x) - 48 = nI (10 * (c - 48) + x - 48) := pk_sub (a := 10 * (c - 48) + x) (b := 48) (by omega)
              rw [a1, a2]
              have : 10 * (c - 48) + x - 48 = 10 * (c - 48) + (x - 48) := by omega
              rw [this]
            have hh' : mo_here d am M2 = some (nI x, M2) := hh
            simp only [hh', Option.bind_some]
            rw [ev, mr_isIn, in_12 (by omega) (by omega)]
            simp only [Option.bind_some]
            by_cases q3 : least ≤ 10 * (c - 48) + (x - 48) ∧ 10 * (c - 48) + (x - 48) ≤ 12
            · rw [decide_eq_true q3, pb_zbt, if_neg (by decide), if_pos q3]
              simp only [mo_number_113, mo_number_139, zlet, w3, nI_1]
              refine ⟨_, _, rfl, zf_trans hf2 (zf_set (.inl ⟨rfl, rfl, by simp⟩)), rfl, ?_, pm_same, ((a ++ List.replicate n1 32) ++ [c]) ++ [x], ?_, ?_⟩
              · rw [pm_ne (by omega)]; exact w4
              · rw [e2]; simp
              · rw [List.length_append, el2]; rfl
            · rw [decide_eq_false q3, pb_zbf, if_pos rfl, if_neg q3, w3, mr_fails w4]
              simp only [Option.bind_some, mo_number_113, mo_number_139, zlet]
              refine ⟨_, _, rfl, zf_trans (zf_trans hf2 (zf_set (.inl ⟨rfl, rfl, by simp⟩))) (zf_set (.inl ⟨rfl, rfl, by simp⟩)), ?_, by omega⟩
              rw [pm_ne (by omega), pm_same]
          · rw [decide_eq_false q2, pb_zbf, if_pos rfl, if_neg q2]
            exact hone
      · rw [if_neg u, if_neg (fun y => u y.2)]
        obtain ⟨res, M', g1, g2, g3⟩ := hfail (nI (c - 48))
        exact ⟨res, M', g1, g2, g3, by omega⟩
    · rw [decide_eq_false q, pb_zbf, if_pos rfl, if_neg (fun y => q y.1)]
      obtain ⟨res, M', g1, g2, g3⟩ := hfail (nI c - 48)
      exact ⟨res, M', g1, g2, g3, by omega⟩
end
