/-! THE RULES' text: the two numbers of a count -/
theorem num_ok {least p : Nat} {b : List Nat} {x : Nat × List Nat × Nat} (hl : least ≤ 12) (h : pp_num least b p = .ok x) : least ≤ x.1 ∧ x.1 ≤ 12 := by
  unfold pp_num at h
  cases b with
  | nil => cases h
  | cons c r =>
    dsimp only at h
    by_cases q : (48 ≤ c ∧ c ≤ 57) ∧ (least ≤ c - 48 ∨ (c - 48 = 0 ∧ least < 10) ∨ c - 48 = 1)
    · rw [if_pos q] at h
      cases r with
      | nil =>
        dsimp only at h
        by_cases u : least ≤ c - 48
        · rw [if_pos u] at h
          injection h with h
          rw [← h]
          exact ⟨u, by show c - 48 ≤ 12; omega⟩
        · rw [if_neg u] at h
          cases h
      | cons e r' =>
        dsimp only at h
        by_cases q2 : 48 ≤ e ∧ e ≤ 57
        · rw [if_pos q2] at h
          by_cases q3 : least ≤ 10 * (c - 48) + (e - 48) ∧ 10 * (c - 48) + (e - 48) ≤ 12
          · rw [if_pos q3] at h
            injection h with h
            rw [← h]
            exact q3
          · rw [if_neg q3] at h
            cases h
        · rw [if_neg q2] at h
          by_cases u : least ≤ c - 48
          · rw [if_pos u] at h
            injection h with h
            rw [← h]
            exact ⟨u, by show c - 48 ≤ 12; omega⟩
          · rw [if_neg u] at h
            cases h
    · rw [if_neg q] at h
      cases h
/-- the sign c behind blanks -/
def pp_sgn (c : Nat) (b : List Nat) (p : Nat) : Except Nat (List Nat × Nat) := if (py_sk b p).1.head? = some c then .ok ((py_sk b p).1.tail, (py_sk b p).2 + 1) else .error (py_sk b p).2
def pp_bnd (b : List Nat) (p : Nat) : Except Nat (Nat × Option Nat × List Nat × Nat) := match pp_num 0 (py_sk b p).1 (py_sk b p).2 with
  | .error q => .error q
  | .ok x => if (py_sk x.2.1 x.2.2).1.head? = some 125 then (if x.1 = 0 then .error (py_sk x.2.1 x.2.2).2 else .ok (x.1, some x.1, (py_sk x.2.1 x.2.2).1.tail, (py_sk x.2.1 x.2.2).2 + 1)) else match pp_sgn 44 x.2.1 x.2.2 with
    | .error q => .error q
    | .ok y => if (py_sk y.1 y.2).1.head? = some 125 then .ok (x.1, none, (py_sk y.1 y.2).1.tail, (py_sk y.1 y.2).2 + 1) else match pp_num (max 1 x.1) (py_sk y.1 y.2).1 (py_sk y.1 y.2).2 with
      | .error q => .error q
      | .ok t => match pp_sgn 125 t.2.1 t.2.2 with
        | .error q => .error q
        | .ok w => .ok (x.1, some t.1, w.1, w.2)
section
variable {am d : Nat} {M : zM} {T : List Nat}
/-- the place in the tape -/
def rp_x (am : Nat) (M : zM) (T : List Nat) (b : List Nat) (p : Nat) : Prop := zm_I M 12 am 3 = nI p ∧ ∃ a, T = a ++ b ∧ a.length = p
theorem rp_le {b : List Nat} {p : Nat} (hok : tp_ok T) (h : rp_x am M T b p) : p ≤ 400 := by
  have h400 := hok.1
  obtain ⟨_, a, e, rfl⟩ := h
  have : T.length = a.length + b.length := by rw [e]; simp
  omega
theorem rp_mg {F A : List Nat} {M' : zM} {b : List Nat} {p : Nat} (h : rp_x am M T b p) (hf : zf (mg am F A) M M') (hF : ¬ 3 ∈ F) : rp_x am M' T b p := ⟨by rw [mg_f hf hF]; exact h.1, h.2⟩
/-- look, in these words -/
theorem mr_look2 (hok : tp_ok T) {b : List Nat} {p : Nat} (hl : ml_ok am M) (hT : mt_p am M T) (h : rp_x am M T b p) (hd : 1 ≤ d) : ∃ M', mo_look d am M = some (py_ht (py_sk b p).1, M') ∧ rp_x am M' T (py_sk b p).1 (py_sk b p).2 ∧ zf (mg am [3] []) M M' ∧ (∀ x, x ∈ (py_sk b p).1 → x < 256) := by
  obtain ⟨h3, a, e, rfl⟩ := h
  obtain ⟨n, b', M', k1, k2, k3, k4, k5⟩ := mr_look (d := d) hok e hl hT h3 hd
  rw [k1, sk_rep n b' _ k2]
  refine ⟨M', k3, ⟨k4, a ++ List.replicate n 32, ?_, by simp⟩, k5, fun x hx => (hok.2 x (by rw [e, k1]; simp [show x ∈ b' from hx])).2⟩
  rw [e, k1]
  simp
theorem mr_takes2 (hok : tp_ok T) {b : List Nat} {p c : Nat} (hl : ml_ok am M) (hT : mt_p am M T) (h : rp_x am M T b p) (hd : 2 ≤ d) (hc : c < 256) : ∃ M', zf (mg am [3] []) M M' ∧ ((∃ y, pp_sgn c b p = .ok y ∧ mo_takes d am (nI c) M = some (1, M') ∧ rp_x am M' T y.1 y.2) ∨ (pp_sgn c b p = .error (py_sk b p).2 ∧ mo_takes d am (nI c) M = some (0, M') ∧ rp_x am M' T (py_sk b p).1 (py_sk b p).2)) := by
  obtain ⟨h3, a, e, rfl⟩ := h
  obtain ⟨n, b', M', k1, k2, k3, k4, k5⟩ := mr_takes (d := d) hok e hl hT h3 hd hc
  refine ⟨M', k5, ?_⟩
  have ek : py_sk b a.length = (b', a.length + n) := by rw [k1]; exact sk_rep n b' _ k2
  unfold pp_sgn
  rw [ek]
  dsimp only
  by_cases q : b'.head? = some c
  · rw [if_pos q] at k4
    rw [decide_eq_true q, pb_zbt] at k3
    rw [if_pos q]
    refine .inl ⟨_, rfl, k3, k4, a ++ List.replicate n 32 ++ [c], ?_, by simp; omega⟩
    cases b' with
    | nil => cases q
    | cons x r =>
      have : x = c := by simpa using q
      rw [e, k1, this]
      simp
  · rw [if_neg q] at k4
    rw [decide_eq_false q, pb_zbf] at k3
    rw [if_neg q]
    refine .inr ⟨rfl, k3, k4, a ++ List.replicate n 32, ?_, by simp⟩
    rw [e, k1]
    simp
theorem mr_number2 (hok : tp_ok T) {b : List Nat} {p : Nat} (hl : ml_ok am M) (hT : mt_p am M T) (h : rp_x am M T b p) (h4 : zm_I M 12 am 4 = -1) (hd : 2 ≤ d) {least : Nat} (hle : least ≤ 12) : ∃ res M', mo_number d am (nI least) M = some (res, M') ∧ zf (mg am [3, 4] []) M M' ∧ ((∃ q, pp_num least (py_sk b p).1 (py_sk b p).2 = .error q ∧ zm_I M' 12 am 4 = nI q ∧ q ≤ 400) ∨ (∃ x, pp_num least (py_sk b p).1 (py_sk b p).2 = .ok x ∧ res = nI x.1 ∧ least ≤ x.1 ∧ x.1 ≤ 12 ∧ zm_I M' 12 am 4 = -1 ∧ rp_x am M' T x.2.1 x.2.2)) := by
  obtain ⟨h3, a, e, rfl⟩ := h
  obtain ⟨res, M', g1, g2, g3⟩ := mr_number (d := d) hok e hl hT h3 h4 hd hle
  refine ⟨res, M', g1, g2, ?_⟩
  cases hv : pp_num least (py_sk b a.length).1 (py_sk b a.length).2 with
  | error q =>
    rw [hv] at g3
    exact .inl ⟨q, rfl, g3⟩
  | ok x =>
    rw [hv] at g3
    have hb := num_ok hle hv
    exact .inr ⟨x, rfl, g3.1, hb.1, hb.2, g3.2.1, g3.2.2.1, g3.2.2.2⟩
end
