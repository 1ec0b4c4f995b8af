/-! BY WHICH WORD two rules part: words as numbers -/
def py_nm (w : List Nat) : Nat := w.foldl (fun a l => 32 * a + l) 0
def py_rs (P : yP) (w : List Nat) : Option yS := w.foldl (py_os P) (some py_s00)
def py_dfs (P Q : yP) (a b : Option yS) (w : List Nat) : Bool := py_oe P (w.foldl (py_os P) a) != py_oe Q (w.foldl (py_os Q) b)
def py_dif (P Q : yP) (w : List Nat) : Bool := py_dfs P Q (some py_s00) (some py_s00) w
def w26 (w : List Nat) : Prop := ∀ x, x ∈ w → x < 26
section
theorem nm_acc : ∀ (w : List Nat) (a : Nat), w.foldl (fun a l => 32 * a + l) a = a * 32 ^ w.length + py_nm w := by
  intro w
  induction w with
  | nil => intro a; simp [py_nm]
  | cons l w ih =>
    intro a
    have e1 : py_nm (l :: w) = l * 32 ^ w.length + py_nm w := by
      show w.foldl (fun a l => 32 * a + l) (32 * 0 + l) = _
      rw [Nat.mul_zero, Nat.zero_add]
      exact ih l
    rw [List.foldl_cons, ih, e1, List.length_cons, Nat.pow_succ, Nat.add_mul, Nat.mul_comm 32 a, Nat.mul_assoc, Nat.mul_comm 32 (32 ^ w.length), Nat.add_assoc]
theorem nm_cons (l : Nat) (w : List Nat) : py_nm (l :: w) = l * 32 ^ w.length + py_nm w := by
  show w.foldl (fun a l => 32 * a + l) (32 * 0 + l) = _
  rw [Nat.mul_zero, Nat.zero_add]
  exact nm_acc w l
theorem nm_snoc (w : List Nat) (l : Nat) : py_nm (w ++ [l]) = 32 * py_nm w + l := by
  unfold py_nm
  rw [List.foldl_append]
  rfl
theorem nm_lt : ∀ (w : List Nat), w26 w → py_nm w < 32 ^ w.length := by
  intro w
  induction w with
  | nil => intro _; exact Nat.one_pos
  | cons l w ih =>
    intro h
    have h1 := ih (fun x hx => h x (List.mem_cons_of_mem _ hx))
    have h2 := h l List.mem_cons_self
    rw [nm_cons, List.length_cons, Nat.pow_succ]
    have h3 : l * 32 ^ w.length ≤ 31 * 32 ^ w.length := Nat.mul_le_mul_right _ (by omega)
    omega
theorem nm_inj : ∀ (w u : List Nat), w.length = u.length → w26 w → w26 u → py_nm w = py_nm u → w = u := by
  intro w
  induction w with
  | nil =>
    intro u hl _ _ _
    exact (List.eq_nil_of_length_eq_zero hl.symm).symm
  | cons l w ih =>
    intro u hl h1 h2 e
    cases u with
    | nil => cases hl
    | cons m u =>
      have hl' : w.length = u.length := by simpa using hl
      have a1 := nm_lt w (fun x hx => h1 x (List.mem_cons_of_mem _ hx))
      have a2 := nm_lt u (fun x hx => h2 x (List.mem_cons_of_mem _ hx))
      rw [nm_cons, nm_cons, hl'] at e
      rw [hl'] at a1
      have hlm : l = m := by
        have hp : 0 < 32 ^ u.length := Nat.pow_pos (by omega)
        rcases Nat.lt_trichotomy l m with h | h | h
        · have : (l + 1) * 32 ^ u.length ≤ m * 32 ^ u.length := Nat.mul_le_mul_right _ h
          rw [Nat.add_mul] at this
          omega
        · exact h
        · have : (m + 1) * 32 ^ u.length ≤ l * 32 ^ u.length := Nat.mul_le_mul_right _ h
          rw [Nat.add_mul] at this
          omega
      subst hlm
      rw [ih u hl' (fun x hx => h1 x (List.mem_cons_of_mem _ hx)) (fun x hx => h2 x (List.mem_cons_of_mem _ hx)) (by omega)]
theorem fl2_ss {f : Nat → Option (List Nat)} : ∀ (ls : List Nat) (w : List Nat), py_fl2 f ls = some w → ∃ a l b u, ls = a ++ l :: b ∧ w = l :: u ∧ f l = some u ∧ ∀ x, x ∈ a → f x = none := by
  intro ls
  induction ls with
  | nil => intro w h; cases h
  | cons l ls ih =>
    intro w h
    rw [py_fl2] at h
    cases hf : f l with
    | some u =>
      rw [hf] at h
      injection h with h
      exact ⟨[], l, ls, u, rfl, h.symm, hf, fun x hx => (by cases hx)⟩
    | none =>
      rw [hf] at h
      obtain ⟨a, l', b, u, e, ew, ef, ea⟩ := ih w h
      refine ⟨l :: a, l', b, u, by rw [e]; rfl, ew, ef, ?_⟩
      intro x hx
      rcases List.mem_cons.mp hx with q | q
      · rw [q]; exact hf
      · exact ea x q
theorem fl2_nn {f : Nat → Option (List Nat)} : ∀ (ls : List Nat), py_fl2 f ls = none → ∀ x, x ∈ ls → f x = none := by
  intro ls
  induction ls with
  | nil => intro _ x hx; cases hx
  | cons l ls ih =>
    intro h x hx
    rw [py_fl2] at h
    cases hf : f l with
    | some u => rw [hf] at h; cases h
    | none =>
      rw [hf] at h
      rcases List.mem_cons.mp hx with q | q
      · rw [q]; exact hf
      · exact ih h x q
variable {P Q : yP}
theorem df_nn : ∀ (m : Nat) (a b : Option yS), py_df P Q m a b = none → ∀ w, w.length = m → w26 w → py_dfs P Q a b w = false := by
  intro m
  induction m with
  | zero =>
    intro a b h w hw _
    rw [List.eq_nil_of_length_eq_zero hw]
    rw [py_df] at h
    show (py_oe P a != py_oe Q b) = false
    cases hq : (py_oe P a != py_oe Q b) with
    | false => rfl
    | true => rw [hq, if_pos rfl] at h; cases h
  | succ m ih =>
    intro a b h w hw h26
    cases w with
    | nil => cases hw
    | cons l w =>
      rw [py_df] at h
      have hl := h26 l List.mem_cons_self
      have := fl2_nn _ h l (by rw [List.mem_range'_1]; omega)
      exact ih _ _ this w (by simpa using hw) (fun x hx => h26 x (List.mem_cons_of_mem _ hx))
theorem df_ss : ∀ (m : Nat) (a b : Option yS) (w : List Nat), py_df P Q m a b = some w → w.length = m ∧ w26 w ∧ py_dfs P Q a b w = true ∧ ∀ u, u.length = m → w26 u → py_dfs P Q a b u = true → py_nm w ≤ py_nm u := by
  intro m
  induction m with
  | zero =>
    intro a b w h
    rw [py_df] at h
    cases hq : (py_oe P a != py_oe Q b) with
    | false => rw [hq, if_neg (by decide)] at h; cases h
    | true =>
      rw [hq, if_pos rfl] at h
      injection h with h
      subst h
      exact ⟨rfl, fun x hx => (by cases hx), hq, fun u _ _ _ => Nat.zero_le _⟩
  | succ m ih =>
    intro a b w h
    rw [py_df] at h
    obtain ⟨la, l, lb, u, e, ew, ef, ea⟩ := fl2_ss _ _ h
    obtain ⟨i1, i2, i3, i4⟩ := ih _ _ _ ef
    have hl : l < 26 := by
      have : l ∈ List.range' 0 26 := by rw [e]; simp
      rw [List.mem_range'_1] at this
      omega
    subst ew
    refine ⟨by rw [List.length_cons, i1], ?_, i3, ?_⟩
    · intro x hx
      rcases List.mem_cons.mp hx with q | q
      · rw [q]; exact hl
      · exact i2 x q
    · intro v hv v26 vd
      cases v with
      | nil => cases hv
      | cons x v =>
        have hvl : v.length = m := by simpa using hv
        have hx := v26 x List.mem_cons_self
        have hv26 : w26 v := fun y hy => v26 y (List.mem_cons_of_mem _ hy)
        have vd : py_dfs P Q (py_os P a x) (py_os Q b x) v = true := vd
        have hup := nm_lt u i2
        rw [nm_cons, nm_cons, i1, hvl]
        rw [i1] at hup
        rcases Nat.lt_trichotomy x l with q | q | q
        · have hxa : x ∈ la := by
            have hm : x ∈ List.range' 0 26 := by rw [List.mem_range'_1]; omega
            rw [e] at hm
            have hs : (la ++ l :: lb).Pairwise (· < ·) := by rw [← e]; exact List.pairwise_lt_range'
            rcases List.mem_append.mp hm with q1 | q1
            · exact q1
            · have h2 := (List.pairwise_append.mp hs).2.1
              rcases List.mem_cons.mp q1 with q2 | q2
              · omega
              · have := (List.pairwise_cons.mp h2).1 x q2
                omega
          have := df_nn m _ _ (ea x hxa) v hvl hv26
          rw [this] at vd
          cases vd
        · subst q
          have := i4 v hvl hv26 vd
          omega
        · have : (l + 1) * 32 ^ m ≤ x * 32 ^ m := Nat.mul_le_mul_right _ q
          rw [Nat.add_mul] at this
          omega
/-- the shortest word that parts them, the first by letters -/
theorem ul_some {w : List Nat} (hw : w26 w) (h4 : w.length ≤ 4) (hd : py_dif P Q w = true) (hs : ∀ u, w26 u → u.length < w.length → py_dif P Q u = false) (hm : ∀ u, w26 u → u.length = w.length → py_dif P Q u = true → py_nm w ≤ py_nm u) : py_ul P Q (List.range' 0 5) = some w := by
  have key : ∀ (m n : Nat), n + m = 5 → n ≤ w.length → py_ul P Q (List.range' n m) = some w := by
    intro m
    induction m with
    | zero => intro n e hn; omega
    | succ m ih =>
      intro n e hn
      rw [List.range'_succ, py_ul]
      by_cases q : n = w.length
      · cases hdf : py_df P Q n (some py_s00) (some py_s00) with
        | none =>
          have := df_nn n _ _ hdf w q.symm hw
          have hd : py_dfs P Q (some py_s00) (some py_s00) w = true := hd
          rw [this] at hd
          cases hd
        | some v =>
          obtain ⟨i1, i2, i3, i4⟩ := df_ss n _ _ v hdf
          have h1 := i4 w q.symm hw hd
          have h2 := hm v i2 (by omega) i3
          have : v = w := nm_inj v w (by omega) i2 hw (by omega)
          rw [this]
      · cases hdf : py_df P Q n (some py_s00) (some py_s00) with
        | some v =>
          obtain ⟨i1, i2, i3, _⟩ := df_ss n _ _ v hdf
          have := hs v i2 (by omega)
          have i3 : py_dif P Q v = true := i3
          rw [this] at i3
          cases i3
        | none => exact ih (n + 1) (by omega) (by omega)
  exact key 5 0 (by omega) (Nat.zero_le _)
theorem ul_none (hs : ∀ u, w26 u → u.length ≤ 4 → py_dif P Q u = false) : py_ul P Q (List.range' 0 5) = none := by
  have key : ∀ (m n : Nat), n + m = 5 → py_ul P Q (List.range' n m) = none := by
    intro m
    induction m with
    | zero => intro n e; rfl
    | succ m ih =>
      intro n e
      rw [List.range'_succ, py_ul]
      cases hdf : py_df P Q n (some py_s00) (some py_s00) with
      | some v =>
        obtain ⟨i1, i2, i3, _⟩ := df_ss n _ _ v hdf
        have := hs v i2 (by omega)
        have i3 : py_dif P Q v = true := i3
        rw [this] at i3
        cases i3
      | none => exact ih (n + 1) (by omega)
  exact key 5 0 (by omega)
end
