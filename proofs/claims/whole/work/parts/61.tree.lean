/-! PURE PART, trees: a pattern's nodes, numbers, and what is said of them -/
/-- a pattern: numbers by field and place; references by field and place; kids; which nodes are its own -/
abbrev yP : Type := (Nat → Nat → Nat) × (Nat → Nat → Option Nat) × (Nat → List Nat) × (Nat → Bool)
def py_kd (P : yP) : Nat → Nat := P.1 0
def py_nb (P : yP) : Nat → Nat := P.1 1
def py_hg (P : yP) : Nat → Nat := P.1 2
def py_lo (P : yP) : Nat → Nat := P.1 3
def py_hi (P : yP) : Nat → Nat := P.1 4
def py_lt (P : yP) : Nat → Nat := P.1 5
def py_lf (P : yP) : Nat → Nat := P.1 6
def py_fr (P : yP) : Nat → Nat := P.1 7
def py_cn (P : yP) : Nat → Nat := P.1 8
def py_an (P : yP) : Nat → Nat := P.1 9
def py_rt (P : yP) : Nat := P.1 10 0
def py_nl (P : yP) : Nat := P.1 10 1
def py_nc (P : yP) : Nat := P.1 10 2
def py_na (P : yP) : Nat := P.1 10 3
def py_le (P : yP) : Nat := P.1 10 4
/-- counts within one another in a node -/
def py_ar (P : yP) : Nat → Nat := P.1 11
def py_up (P : yP) : Nat → Option Nat := P.2.1 0
def py_to (P : yP) : Nat → Option Nat := P.2.1 1
def py_ks (P : yP) : Nat → List Nat := P.2.2.1
def py_dm (P : yP) : Nat → Prop := fun n => P.2.2.2 n = true
/-- letters of kids one behind another -/
def py_run (P : yP) : Nat → List Nat → Nat → Prop
  | a, [], b => a = b
  | a, c :: l, b => py_lo P c = a ∧ py_run P (py_hi P c) l b
def py_k5 (P : yP) (n : Nat) : Prop :=
  (py_kd P n = 0 → py_ks P n = [] ∧ py_nb P n < py_nl P ∧ py_lf P (py_nb P n) = n ∧ py_lo P n = py_nb P n ∧ py_hi P n = py_nb P n + 1) ∧
  (py_kd P n = 1 → py_ks P n = [] ∧ py_lo P n = py_hi P n) ∧
  (py_kd P n = 2 → 2 ≤ (py_ks P n).length) ∧
  (py_kd P n = 3 → 2 ≤ (py_ks P n).length) ∧
  (py_kd P n = 4 → 2 ≤ (py_ks P n).length ∧ (py_ks P n).length ≤ 4 ∧ py_nb P n < py_na P ∧ py_an P (py_nb P n) = n) ∧
  (py_kd P n = 5 → (∃ c, py_ks P n = [c] ∧ py_ar P n = py_ar P c + 1) ∧ py_nb P n < py_nc P ∧ py_cn P (py_nb P n) = n) ∧
  (2 ≤ py_kd P n → py_run P (py_lo P n) (py_ks P n) (py_hi P n)) ∧ py_lo P n ≤ py_hi P n ∧ py_kd P n ≤ 5 ∧ n < 400 ∧ py_ar P n ≤ 2 ∧ (py_ks P n).Nodup ∧ py_hg P n ≤ py_hg P (py_rt P) ∧ (py_ks P n).length ≤ 400
def py_ok (P : yP) : Prop :=
  (py_dm P (py_rt P) ∧ py_up P (py_rt P) = none ∧ py_hg P (py_rt P) ≤ 30 ∧ py_lo P (py_rt P) = 0 ∧ py_hi P (py_rt P) = py_nl P) ∧
  (∀ n c, py_dm P n → c ∈ py_ks P n → py_dm P c ∧ py_up P c = some n ∧ py_hg P c < py_hg P n ∧ py_ar P c ≤ py_ar P n) ∧
  (∀ n p, py_dm P n → py_up P n = some p → py_dm P p ∧ n ∈ py_ks P p) ∧
  (∀ n, py_dm P n → py_up P n = none → n = py_rt P) ∧
  (∀ n, py_dm P n → py_k5 P n) ∧
  (∀ o, o < py_nl P → py_dm P (py_lf P o) ∧ py_kd P (py_lf P o) = 0 ∧ py_nb P (py_lf P o) = o ∧ py_lt P o < 26) ∧
  (∀ c, c < py_nc P → py_dm P (py_cn P c) ∧ py_kd P (py_cn P c) = 5 ∧ py_nb P (py_cn P c) = c ∧ py_fr P c ≤ 12 ∧ (∀ t, py_to P c = some t → 1 ≤ t ∧ t ≤ 12 ∧ py_fr P c ≤ t)) ∧
  (∀ a, a < py_na P → py_dm P (py_an P a) ∧ py_kd P (py_an P a) = 4 ∧ py_nb P (py_an P a) = a) ∧
  py_nl P ≤ 16 ∧ py_nc P ≤ 8 ∧ py_na P ≤ 4
section
variable {P : yP}
theorem ok_rt (h : py_ok P) : py_dm P (py_rt P) := h.1.1
theorem ok_up0 (h : py_ok P) : py_up P (py_rt P) = none := h.1.2.1
theorem ok_hg (h : py_ok P) : py_hg P (py_rt P) ≤ 30 := h.1.2.2.1
theorem ok_lo0 (h : py_ok P) : py_lo P (py_rt P) = 0 := h.1.2.2.2.1
theorem ok_hi0 (h : py_ok P) : py_hi P (py_rt P) = py_nl P := h.1.2.2.2.2
theorem ok_kid (h : py_ok P) {n c : Nat} (hn : py_dm P n) (hc : c ∈ py_ks P n) : py_dm P c := (h.2.1 n c hn hc).1
theorem ok_kup (h : py_ok P) {n c : Nat} (hn : py_dm P n) (hc : c ∈ py_ks P n) : py_up P c = some n := (h.2.1 n c hn hc).2.1
theorem ok_khg (h : py_ok P) {n c : Nat} (hn : py_dm P n) (hc : c ∈ py_ks P n) : py_hg P c < py_hg P n := (h.2.1 n c hn hc).2.2.1
theorem ok_kar (h : py_ok P) {n c : Nat} (hn : py_dm P n) (hc : c ∈ py_ks P n) : py_ar P c ≤ py_ar P n := (h.2.1 n c hn hc).2.2.2
theorem ok_pdm (h : py_ok P) {n p : Nat} (hn : py_dm P n) (hp : py_up P n = some p) : py_dm P p := (h.2.2.1 n p hn hp).1
theorem ok_pks (h : py_ok P) {n p : Nat} (hn : py_dm P n) (hp : py_up P n = some p) : n ∈ py_ks P p := (h.2.2.1 n p hn hp).2
theorem ok_no (h : py_ok P) {n : Nat} (hn : py_dm P n) (hp : py_up P n = none) : n = py_rt P := h.2.2.2.1 n hn hp
theorem ok_k (h : py_ok P) {n : Nat} (hn : py_dm P n) : py_k5 P n := h.2.2.2.2.1 n hn
theorem ok_k0 (h : py_ok P) {n : Nat} (hn : py_dm P n) : py_kd P n = 0 → py_ks P n = [] ∧ py_nb P n < py_nl P ∧ py_lf P (py_nb P n) = n ∧ py_lo P n = py_nb P n ∧ py_hi P n = py_nb P n + 1 := (ok_k h hn).1
theorem ok_k1 (h : py_ok P) {n : Nat} (hn : py_dm P n) : py_kd P n = 1 → py_ks P n = [] ∧ py_lo P n = py_hi P n := (ok_k h hn).2.1
theorem ok_k2 (h : py_ok P) {n : Nat} (hn : py_dm P n) : py_kd P n = 2 → 2 ≤ (py_ks P n).length := (ok_k h hn).2.2.1
theorem ok_k3 (h : py_ok P) {n : Nat} (hn : py_dm P n) : py_kd P n = 3 → 2 ≤ (py_ks P n).length := (ok_k h hn).2.2.2.1
theorem ok_k4 (h : py_ok P) {n : Nat} (hn : py_dm P n) : py_kd P n = 4 → 2 ≤ (py_ks P n).length ∧ (py_ks P n).length ≤ 4 ∧ py_nb P n < py_na P ∧ py_an P (py_nb P n) = n := (ok_k h hn).2.2.2.2.1
theorem ok_k5 (h : py_ok P) {n : Nat} (hn : py_dm P n) : py_kd P n = 5 → (∃ c, py_ks P n = [c] ∧ py_ar P n = py_ar P c + 1) ∧ py_nb P n < py_nc P ∧ py_cn P (py_nb P n) = n := (ok_k h hn).2.2.2.2.2.1
theorem ok_run (h : py_ok P) {n : Nat} (hn : py_dm P n) : 2 ≤ py_kd P n → py_run P (py_lo P n) (py_ks P n) (py_hi P n) := (ok_k h hn).2.2.2.2.2.2.1
theorem ok_lohi (h : py_ok P) {n : Nat} (hn : py_dm P n) : py_lo P n ≤ py_hi P n := (ok_k h hn).2.2.2.2.2.2.2.1
theorem ok_kd (h : py_ok P) {n : Nat} (hn : py_dm P n) : py_kd P n ≤ 5 := (ok_k h hn).2.2.2.2.2.2.2.2.1
theorem ok_400 (h : py_ok P) {n : Nat} (hn : py_dm P n) : n < 400 := (ok_k h hn).2.2.2.2.2.2.2.2.2.1
theorem ok_ar (h : py_ok P) {n : Nat} (hn : py_dm P n) : py_ar P n ≤ 2 := (ok_k h hn).2.2.2.2.2.2.2.2.2.2.1
theorem ok_nd (h : py_ok P) {n : Nat} (hn : py_dm P n) : (py_ks P n).Nodup := (ok_k h hn).2.2.2.2.2.2.2.2.2.2.2.1
theorem ok_lf (h : py_ok P) {o : Nat} (ho : o < py_nl P) : py_dm P (py_lf P o) := (h.2.2.2.2.2.1 o ho).1
theorem ok_lfk (h : py_ok P) {o : Nat} (ho : o < py_nl P) : py_kd P (py_lf P o) = 0 := (h.2.2.2.2.2.1 o ho).2.1
theorem ok_lfn (h : py_ok P) {o : Nat} (ho : o < py_nl P) : py_nb P (py_lf P o) = o := (h.2.2.2.2.2.1 o ho).2.2.1
theorem ok_lt (h : py_ok P) {o : Nat} (ho : o < py_nl P) : py_lt P o < 26 := (h.2.2.2.2.2.1 o ho).2.2.2
theorem ok_cn (h : py_ok P) {c : Nat} (hc : c < py_nc P) : py_dm P (py_cn P c) := (h.2.2.2.2.2.2.1 c hc).1
theorem ok_cnk (h : py_ok P) {c : Nat} (hc : c < py_nc P) : py_kd P (py_cn P c) = 5 := (h.2.2.2.2.2.2.1 c hc).2.1
theorem ok_cnn (h : py_ok P) {c : Nat} (hc : c < py_nc P) : py_nb P (py_cn P c) = c := (h.2.2.2.2.2.2.1 c hc).2.2.1
theorem ok_fr (h : py_ok P) {c : Nat} (hc : c < py_nc P) : py_fr P c ≤ 12 := (h.2.2.2.2.2.2.1 c hc).2.2.2.1
theorem ok_to (h : py_ok P) {c t : Nat} (hc : c < py_nc P) (e : py_to P c = some t) : 1 ≤ t ∧ t ≤ 12 ∧ py_fr P c ≤ t := (h.2.2.2.2.2.2.1 c hc).2.2.2.2 t e
theorem ok_an (h : py_ok P) {a : Nat} (ha : a < py_na P) : py_dm P (py_an P a) := (h.2.2.2.2.2.2.2.1 a ha).1
theorem ok_ank (h : py_ok P) {a : Nat} (ha : a < py_na P) : py_kd P (py_an P a) = 4 := (h.2.2.2.2.2.2.2.1 a ha).2.1
theorem ok_ann (h : py_ok P) {a : Nat} (ha : a < py_na P) : py_nb P (py_an P a) = a := (h.2.2.2.2.2.2.2.1 a ha).2.2
theorem ok_nl (h : py_ok P) : py_nl P ≤ 16 := h.2.2.2.2.2.2.2.2.1
theorem ok_nc (h : py_ok P) : py_nc P ≤ 8 := h.2.2.2.2.2.2.2.2.2.1
theorem ok_na (h : py_ok P) : py_na P ≤ 4 := h.2.2.2.2.2.2.2.2.2.2
theorem ok_down (h : py_ok P) (Q : Nat → Prop) (hs : ∀ n, py_dm P n → (∀ c, c ∈ py_ks P n → Q c) → Q n) : ∀ n, py_dm P n → Q n := by
  have key : ∀ m n, py_hg P n < m → py_dm P n → Q n := by
    intro m
    induction m with
    | zero => intro n hn; omega
    | succ m ih =>
      intro n hn hd
      refine hs n hd ?_
      intro c hc
      have := ok_khg h hd hc
      exact ih c (by omega) (ok_kid h hd hc)
  intro n hd
  exact key _ n (Nat.lt_succ_self _) hd
theorem ok_uphg (h : py_ok P) {n p : Nat} (hn : py_dm P n) (hp : py_up P n = some p) : py_hg P n < py_hg P p := ok_khg h (ok_pdm h hn hp) (ok_pks h hn hp)
theorem ok_top (h : py_ok P) {n : Nat} (hn : py_dm P n) : py_hg P n ≤ py_hg P (py_rt P) := (ok_k h hn).2.2.2.2.2.2.2.2.2.2.2.2.1
theorem ok_ln (h : py_ok P) {n : Nat} (hn : py_dm P n) : (py_ks P n).length ≤ 400 := (ok_k h hn).2.2.2.2.2.2.2.2.2.2.2.2.2

theorem ok_climb (h : py_ok P) (Q : Nat → Prop) (h0 : Q (py_rt P)) (hs : ∀ k p, py_dm P k → py_up P k = some p → Q p → Q k) : ∀ k, py_dm P k → Q k := by
  have key : ∀ m k, py_hg P (py_rt P) - py_hg P k < m → py_dm P k → Q k := by
    intro m
    induction m with
    | zero => intro n hn; omega
    | succ m ih =>
      intro k hk hd
      cases e : py_up P k with
      | none =>
        have := ok_no h hd e
        rw [this]
        exact h0
      | some p =>
        have h1 := ok_uphg h hd e
        have h2 := ok_pdm h hd e
        have h3 := ok_top h h2
        exact hs k p hd e (ih p (by omega) h2)
  intro k hd
  exact key _ k (Nat.lt_succ_self _) hd
theorem ok_hg30 (h : py_ok P) {n : Nat} (hn : py_dm P n) : py_hg P n ≤ 30 := Nat.le_trans (ok_top h hn) (ok_hg h)
/-! recursion over kids, recursion over what is around -/
end
def py_tf {α : Type} (z : α) (g : (Nat → α) → Nat → α) : Nat → Nat → α
  | 0, _ => z
  | f + 1, n => g (py_tf z g f) n
def py_tr {α : Type} (P : yP) (z : α) (g : (Nat → α) → Nat → α) (n : Nat) : α := py_tf z g (py_hg P n + 1) n
section
variable {P : yP} {α : Type} {z : α} {g : (Nat → α) → Nat → α}
theorem tr_st (h : py_ok P) (hg : ∀ a b n, py_dm P n → (∀ c, c ∈ py_ks P n → a c = b c) → g a n = g b n) : ∀ f f' n, py_dm P n → py_hg P n < f → py_hg P n < f' → py_tf z g f n = py_tf z g f' n := by
  intro f
  induction f with
  | zero => intro _ n _ hn; omega
  | succ f ih =>
    intro f' n hd hn hn'
    cases f' with
    | zero => omega
    | succ f' =>
      refine hg _ _ n hd ?_
      intro c hc
      have h1 := ok_khg h hd hc
      exact ih f' c (ok_kid h hd hc) (by omega) (by omega)
theorem tr_eq (h : py_ok P) (hg : ∀ a b n, py_dm P n → (∀ c, c ∈ py_ks P n → a c = b c) → g a n = g b n) {n : Nat} (hn : py_dm P n) : py_tr P z g n = g (py_tr P z g) n := by
  show g (py_tf z g (py_hg P n)) n = _
  refine hg _ _ n hn ?_
  intro c hc
  exact tr_st h hg _ _ c (ok_kid h hn hc) (ok_khg h hn hc) (Nat.lt_succ_self _)
end
def py_uf {α : Type} (P : yP) (g : Nat → Option α → α) : Nat → Nat → α
  | 0, k => g k none
  | f + 1, k => g k ((py_up P k).map (py_uf P g f))
def py_ur {α : Type} (P : yP) (g : Nat → Option α → α) (k : Nat) : α := py_uf P g (py_hg P (py_rt P) - py_hg P k) k
section
variable {P : yP} {α : Type} {g : Nat → Option α → α}
theorem ur_st (h : py_ok P) : ∀ f f' k, py_dm P k → py_hg P (py_rt P) - py_hg P k ≤ f → py_hg P (py_rt P) - py_hg P k ≤ f' → py_uf P g f k = py_uf P g f' k := by
  intro f
  induction f with
  | zero =>
    intro f' k hd h1 h2
    cases f' with
    | zero => rfl
    | succ f' =>
      show g k none = g k ((py_up P k).map (py_uf P g f'))
      cases e : py_up P k with
      | none => rfl
      | some p =>
        have := ok_uphg h hd e
        have := ok_top h (ok_pdm h hd e)
        omega
  | succ f ih =>
    intro f' k hd h1 h2
    cases f' with
    | zero =>
      show g k ((py_up P k).map (py_uf P g f)) = g k none
      cases e : py_up P k with
      | none => rfl
      | some p =>
        have := ok_uphg h hd e
        have := ok_top h (ok_pdm h hd e)
        omega
    | succ f' =>
      show g k ((py_up P k).map (py_uf P g f)) = g k ((py_up P k).map (py_uf P g f'))
      cases e : py_up P k with
      | none => rfl
      | some p =>
        have := ok_uphg h hd e
        have := ok_top h (ok_pdm h hd e)
        show g k (some (py_uf P g f p)) = g k (some (py_uf P g f' p))
        rw [ih f' p (ok_pdm h hd e) (by omega) (by omega)]
theorem ur_eq (h : py_ok P) {k : Nat} (hk : py_dm P k) : py_ur P g k = g k ((py_up P k).map (py_ur P g)) := by
  cases e : py_up P k with
  | none =>
    unfold py_ur
    cases py_hg P (py_rt P) - py_hg P k with
    | zero => rfl
    | succ f =>
      show g k ((py_up P k).map _) = _
      rw [e]
      rfl
  | some p =>
    have h1 := ok_uphg h hk e
    have h2 := ok_top h (ok_pdm h hk e)
    have h3 : py_hg P (py_rt P) - py_hg P k = (py_hg P (py_rt P) - py_hg P k - 1) + 1 := by omega
    unfold py_ur
    rw [h3]
    show g k ((py_up P k).map _) = _
    rw [e]
    show g k (some _) = g k (some _)
    rw [ur_st h _ _ p (ok_pdm h hk e) (by omega) (Nat.le_refl _)]
theorem ur_rt (h : py_ok P) : py_ur P g (py_rt P) = g (py_rt P) none := by
  rw [ur_eq h (ok_rt h), ok_up0 h]
  rfl
theorem ur_up (h : py_ok P) {k p : Nat} (hk : py_dm P k) (e : py_up P k = some p) : py_ur P g k = g k (some (py_ur P g p)) := by
  rw [ur_eq h hk, e]
  rfl
end
/-- x is n or within it -/
def py_wi (P : yP) (n x : Nat) : Bool := py_ur P (fun k o => k == n || o.getD false) x
section
variable {P : yP}
theorem wi_self (h : py_ok P) {n : Nat} (hn : py_dm P n) : py_wi P n n = true := by
  unfold py_wi
  rw [ur_eq h hn]
  simp
theorem wi_up (h : py_ok P) {n x p : Nat} (hx : py_dm P x) (e : py_up P x = some p) (hne : x ≠ n) : py_wi P n x = py_wi P n p := by
  show py_ur P _ x = py_ur P _ p
  rw [ur_up h hx e]
  have : (x == n) = false := by simpa using hne
  rw [this]
  rfl
theorem wi_rt (h : py_ok P) {n : Nat} (hne : py_rt P ≠ n) : py_wi P n (py_rt P) = false := by
  unfold py_wi
  rw [ur_rt h]
  simpa using hne
theorem wi_par (h : py_ok P) {n x p : Nat} (hx : py_dm P x) (e : py_up P x = some p) (hw : py_wi P n p = true) : py_wi P n x = true := by
  by_cases q : x = n
  · subst q
    exact wi_self h hx
  · rw [wi_up h hx e q]
    exact hw
/-- what is within a kid is within the node -/
theorem wi_kid (h : py_ok P) {n c : Nat} (hn : py_dm P n) (hc : c ∈ py_ks P n) : ∀ x, py_dm P x → py_wi P c x = true → py_wi P n x = true := by
  refine ok_climb h _ ?_ ?_
  · intro hw
    by_cases q : py_rt P = c
    · have h1 := ok_kup h hn hc
      rw [← q, ok_up0 h] at h1
      cases h1
    · rw [wi_rt h q] at hw
      cases hw
  · intro x p hx e ih hw
    by_cases q : x = c
    · subst q
      have h1 := ok_kup h hn hc
      rw [h1] at e
      injection e with e
      exact wi_par h hx (by rw [h1]) (wi_self h hn)
    · rw [wi_up h hx e q] at hw
      exact wi_par h hx e (ih hw)
theorem wi_hg (h : py_ok P) {n : Nat} : ∀ x, py_dm P x → py_wi P n x = true → py_hg P x ≤ py_hg P n ∧ py_dm P n := by
  refine ok_climb h _ ?_ ?_
  · intro hw
    by_cases q : py_rt P = n
    · rw [← q]; exact ⟨Nat.le_refl _, ok_rt h⟩
    · rw [wi_rt h q] at hw; cases hw
  · intro x p hx e ih hw
    by_cases q : x = n
    · subst q; exact ⟨Nat.le_refl _, hx⟩
    · rw [wi_up h hx e q] at hw
      have h1 := ih hw
      have := ok_uphg h hx e
      exact ⟨by omega, h1.2⟩
/-- what is within a node, and isn't it, is within one of its kids -/
theorem wi_in (h : py_ok P) {n : Nat} : ∀ x, py_dm P x → py_wi P n x = true → x = n ∨ ∃ c, c ∈ py_ks P n ∧ py_wi P c x = true := by
  refine ok_climb h _ ?_ ?_
  · intro hw
    by_cases q : py_rt P = n
    · exact .inl q
    · rw [wi_rt h q] at hw; cases hw
  · intro x p hx e ih hw
    by_cases q : x = n
    · exact .inl q
    · rw [wi_up h hx e q] at hw
      right
      rcases ih hw with r | ⟨c, hc, hw'⟩
      · subst r
        exact ⟨x, ok_pks h hx e, wi_self h hx⟩
      · exact ⟨c, hc, wi_par h hx e hw'⟩
theorem run_mem (h : py_ok P) : ∀ l a b, (∀ c, c ∈ l → py_dm P c) → py_run P a l b → a ≤ b ∧ ∀ c, c ∈ l → a ≤ py_lo P c ∧ py_hi P c ≤ b := by
  intro l
  induction l with
  | nil => intro a b _ hr; exact ⟨Nat.le_of_eq hr, fun c hc => by cases hc⟩
  | cons c l ih =>
    intro a b hd hr
    obtain ⟨h1, h2⟩ := hr
    have h3 := ok_lohi h (hd c List.mem_cons_self)
    have h4 := ih (py_hi P c) b (fun x hx => hd x (List.mem_cons_of_mem _ hx)) h2
    refine ⟨by omega, ?_⟩
    intro x hx
    rcases List.mem_cons.mp hx with r | r
    · subst r; exact ⟨by omega, by omega⟩
    · have := h4.2 x r
      exact ⟨by omega, by omega⟩
theorem run_find (h : py_ok P) : ∀ l a b q, py_run P a l b → a ≤ q → q < b → ∃ c, c ∈ l ∧ py_lo P c ≤ q ∧ q < py_hi P c := by
  intro l
  induction l with
  | nil => intro a b q hr h1 h2; have : a = b := hr; omega
  | cons c l ih =>
    intro a b q hr h1 h2
    obtain ⟨h3, h4⟩ := hr
    by_cases e : q < py_hi P c
    · exact ⟨c, List.mem_cons_self, by omega, e⟩
    · obtain ⟨x, hx, h5⟩ := ih _ b q h4 (by omega) h2
      exact ⟨x, List.mem_cons_of_mem _ hx, h5⟩
theorem lh_kid (h : py_ok P) {n c : Nat} (hn : py_dm P n) (hc : c ∈ py_ks P n) : py_lo P n ≤ py_lo P c ∧ py_hi P c ≤ py_hi P n := by
  have hk : 2 ≤ py_kd P n := by
    by_cases e : 2 ≤ py_kd P n
    · exact e
    · have : py_kd P n = 0 ∨ py_kd P n = 1 := by omega
      rcases this with q | q
      · rw [(ok_k0 h hn q).1] at hc; cases hc
      · rw [(ok_k1 h hn q).1] at hc; cases hc
  exact (run_mem h _ _ _ (fun x hx => ok_kid h hn hx) (ok_run h hn hk)).2 c hc
theorem lh_wi (h : py_ok P) {n : Nat} (hn : py_dm P n) : ∀ x, py_dm P x → py_wi P n x = true → py_lo P n ≤ py_lo P x ∧ py_hi P x ≤ py_hi P n := by
  refine ok_climb h _ ?_ ?_
  · intro hw
    by_cases q : py_rt P = n
    · rw [q]; exact ⟨Nat.le_refl _, Nat.le_refl _⟩
    · rw [wi_rt h q] at hw; cases hw
  · intro x p hx e ih hw
    by_cases q : x = n
    · rw [q]; exact ⟨Nat.le_refl _, Nat.le_refl _⟩
    · rw [wi_up h hx e q] at hw
      have h1 := ih hw
      have h2 := lh_kid h (ok_pdm h hx e) (ok_pks h hx e)
      exact ⟨by omega, by omega⟩
/-- a letter is within a node iff its number is within the node's -/
theorem wi_lf (h : py_ok P) {q : Nat} (hq : q < py_nl P) : ∀ n, py_dm P n → (py_wi P n (py_lf P q) = true ↔ py_lo P n ≤ q ∧ q < py_hi P n) := by
  refine ok_down h _ ?_
  intro n hn ih
  have hl := ok_lf h hq
  have h0 := ok_k0 h hl (ok_lfk h hq)
  rw [ok_lfn h hq] at h0
  constructor
  · intro hw
    have := lh_wi h hn _ hl hw
    omega
  · intro ⟨h1, h2⟩
    by_cases e : 2 ≤ py_kd P n
    · obtain ⟨c, hc, h3⟩ := run_find h _ _ _ q (ok_run h hn e) h1 h2
      exact wi_kid h hn hc _ hl ((ih c hc).mpr h3)
    · have : py_kd P n = 0 ∨ py_kd P n = 1 := by omega
      rcases this with r | r
      · obtain ⟨_, _, h5, h6, h7⟩ := ok_k0 h hn r
        have : py_nb P n = q := by omega
        rw [this] at h5
        rw [h5]
        exact wi_self h hn
      · have := (ok_k1 h hn r).2
        omega
/-! the empty word -/
end
def py_ng (P : yP) (f : Nat → Bool) (n : Nat) : Bool := if py_kd P n = 0 then false else if py_kd P n = 1 then true else if py_kd P n = 3 then (py_ks P n).any f else if py_kd P n = 5 ∧ py_fr P (py_nb P n) = 0 then true else (py_ks P n).all f
def py_nu (P : yP) : Nat → Bool := py_tr P false (py_ng P)
section
variable {P : yP}
theorem pl_any {l : List Nat} {a b : Nat → Bool} (h : ∀ c, c ∈ l → a c = b c) : l.any a = l.any b := by
  induction l with
  | nil => rfl
  | cons c l ih =>
    rw [List.any_cons, List.any_cons, h c List.mem_cons_self, ih (fun x hx => h x (List.mem_cons_of_mem _ hx))]
theorem pl_all {l : List Nat} {a b : Nat → Bool} (h : ∀ c, c ∈ l → a c = b c) : l.all a = l.all b := by
  induction l with
  | nil => rfl
  | cons c l ih =>
    rw [List.all_cons, List.all_cons, h c List.mem_cons_self, ih (fun x hx => h x (List.mem_cons_of_mem _ hx))]
theorem nu_eq (h : py_ok P) {n : Nat} (hn : py_dm P n) : py_nu P n = py_ng P (py_nu P) n := by
  refine tr_eq h ?_ hn
  intro a b n _ hc
  unfold py_ng
  rw [pl_any hc, pl_all hc]
end
