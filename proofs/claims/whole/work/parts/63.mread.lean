/-! THE MODEL reads its tables: a pattern as a rule of it, and what its functions answer -/
def me_p (am : Nat) (M : zM) (r : Nat) (P : yP) : Prop :=
  (r < 8 ∧ zm_I M 20 (am + 4) (5 * r) = nI (py_le P) ∧ zm_I M 20 (am + 4) (5 * r + 1) = nI (py_rt P) ∧ zm_I M 20 (am + 4) (5 * r + 2) = nI (py_nl P) ∧ zm_I M 20 (am + 4) (5 * r + 3) = nI (py_nc P) ∧ zm_I M 20 (am + 4) (5 * r + 4) = nI (py_na P)) ∧
  (∀ n, py_dm P n → zm_I M 20 (am + 2) (6 * n) = nI (py_kd P n) ∧ (py_kd P n = 0 ∨ py_kd P n = 4 ∨ py_kd P n = 5 → zm_I M 20 (am + 2) (6 * n + 1) = nI (py_nb P n)) ∧ zm_I M 20 (am + 2) (6 * n + 2) = zo (py_up P n) ∧ zm_I M 20 (am + 2) (6 * n + 3) = zo (py_ks P n).head?) ∧
  (∀ n a c b, py_dm P n → py_ks P n = a ++ c :: b → zm_I M 20 (am + 2) (6 * c + 4) = zo b.head?) ∧
  (∀ c, c < py_nc P → zm_I M 20 (am + 6) (3 * (8 * r + c)) = nI (py_fr P c) ∧ zm_I M 20 (am + 6) (3 * (8 * r + c) + 1) = zo (py_to P c) ∧ zm_I M 20 (am + 6) (3 * (8 * r + c) + 2) = nI (py_cn P c)) ∧
  (∀ o, o < py_nl P → zm_I M 20 (am + 8) (2 * (16 * r + o)) = nI (py_lt P o) ∧ zm_I M 20 (am + 8) (2 * (16 * r + o) + 1) = nI (py_lf P o)) ∧
  (∀ a, a < py_na P → zm_I M 20 (am + 10) (4 * r + a) = nI (py_an P a))
/-- a pattern and where it stands -/
def mp_ok (am : Nat) (M : zM) (r : Nat) (P : yP) : Prop := py_ok P ∧ ml_ok am M ∧ me_p am M r P
theorem mo_ix {x : Int32} {n L : Nat} {α : Type} {f g : α} (e : x = nI n) (h : n < L) (hL : L < 2 ^ 31) : (if z_in x L then f else g) = f := by
  subst e
  exact if_pos (nI_in h hL)
section
variable {am r d : Nat} {M : zM} {P : yP}
theorem mr_at (h : ml_ok am M) {x y : Int32} {j : Nat} (e : 6 * x + y = nI j) (hj : j < 7200) : mo_at d am x y M = some (zm_I M 20 (am + 2) j, M) := by
  unfold mo_at
  rw [ml_R5 h]
  dsimp only
  rw [ml_L5 h, mo_ix e hj (by omega), e, nI_clamp (by omega)]
theorem mr_of (h : ml_ok am M) {x y : Int32} {j : Nat} (e : 5 * x + y = nI j) (hj : j < 40) : mo_of d am x y M = some (zm_I M 20 (am + 4) j, M) := by
  unfold mo_of
  rw [ml_R7 h]
  dsimp only
  rw [ml_L7 h, mo_ix e hj (by omega), e, nI_clamp (by omega)]
theorem mx_6 (n k : Nat) : 6 * nI n + nI k = nI (6 * n + k) := by
  show nI 6 * nI n + nI k = _
  rw [pk_mul, nI_add]
theorem mx_5 (n k : Nat) : 5 * nI n + nI k = nI (5 * n + k) := by
  show nI 5 * nI n + nI k = _
  rw [pk_mul, nI_add]
theorem mx_3 (n k : Nat) : 3 * (8 * nI n + nI k) = nI (3 * (8 * n + k)) := by
  show nI 3 * (nI 8 * nI n + nI k) = _
  rw [pk_mul, nI_add, pk_mul]
theorem mx_2 (n k : Nat) : 2 * (16 * nI n + nI k) = nI (2 * (16 * n + k)) := by
  show nI 2 * (nI 16 * nI n + nI k) = _
  rw [pk_mul, nI_add, pk_mul]
theorem mx_4 (n k : Nat) : 4 * nI n + nI k = nI (4 * n + k) := by
  show nI 4 * nI n + nI k = _
  rw [pk_mul, nI_add]
theorem mr_kd (h : mp_ok am M r P) {n : Nat} (hn : py_dm P n) : mo_at d am (nI n) 0 M = some (nI (py_kd P n), M) := by
  have := ok_400 h.1 hn
  rw [mr_at (x := nI n) (y := 0) h.2.1 (mx_6 n 0) (by omega)]
  exact congrArg (fun x => some (x, M)) (h.2.2.2.1 n hn).1
theorem mr_nb (h : mp_ok am M r P) {n : Nat} (hn : py_dm P n) (hk : py_kd P n = 0 ∨ py_kd P n = 4 ∨ py_kd P n = 5) : mo_at d am (nI n) 1 M = some (nI (py_nb P n), M) := by
  have := ok_400 h.1 hn
  rw [mr_at (x := nI n) (y := 1) h.2.1 (mx_6 n 1) (by omega), (h.2.2.2.1 n hn).2.1 hk]
theorem mr_up (h : mp_ok am M r P) {n : Nat} (hn : py_dm P n) : mo_at d am (nI n) 2 M = some (zo (py_up P n), M) := by
  have := ok_400 h.1 hn
  rw [mr_at (x := nI n) (y := 2) h.2.1 (mx_6 n 2) (by omega), (h.2.2.2.1 n hn).2.2.1]
theorem mr_ks (h : mp_ok am M r P) {n : Nat} (hn : py_dm P n) : mo_at d am (nI n) 3 M = some (zo (py_ks P n).head?, M) := by
  have := ok_400 h.1 hn
  rw [mr_at (x := nI n) (y := 3) h.2.1 (mx_6 n 3) (by omega), (h.2.2.2.1 n hn).2.2.2]
theorem mr_nx (h : mp_ok am M r P) {n c : Nat} {a b : List Nat} (hn : py_dm P n) (e : py_ks P n = a ++ c :: b) : mo_at d am (nI c) 4 M = some (zo b.head?, M) := by
  have hc : c ∈ py_ks P n := by rw [e]; simp
  have := ok_400 h.1 (ok_kid h.1 hn hc)
  rw [mr_at (x := nI c) (y := 4) h.2.1 (mx_6 c 4) (by omega), h.2.2.2.2.1 n a c b hn e]
theorem mr_le (h : mp_ok am M r P) : mo_of d am (nI r) 0 M = some (nI (py_le P), M) := by
  have := h.2.2.1.1
  rw [mr_of (x := nI r) (y := 0) h.2.1 (mx_5 r 0) (by omega)]
  exact congrArg (fun x => some (x, M)) h.2.2.1.2.1
theorem mr_rt (h : mp_ok am M r P) : mo_of d am (nI r) 1 M = some (nI (py_rt P), M) := by
  have := h.2.2.1.1
  rw [mr_of (x := nI r) (y := 1) h.2.1 (mx_5 r 1) (by omega), h.2.2.1.2.2.1]
theorem mr_nl (h : mp_ok am M r P) : mo_of d am (nI r) 2 M = some (nI (py_nl P), M) := by
  have := h.2.2.1.1
  rw [mr_of (x := nI r) (y := 2) h.2.1 (mx_5 r 2) (by omega), h.2.2.1.2.2.2.1]
theorem mr_nc (h : mp_ok am M r P) : mo_of d am (nI r) 3 M = some (nI (py_nc P), M) := by
  have := h.2.2.1.1
  rw [mr_of (x := nI r) (y := 3) h.2.1 (mx_5 r 3) (by omega), h.2.2.1.2.2.2.2.1]
theorem mr_na (h : mp_ok am M r P) : mo_of d am (nI r) 4 M = some (nI (py_na P), M) := by
  have := h.2.2.1.1
  rw [mr_of (x := nI r) (y := 4) h.2.1 (mx_5 r 4) (by omega), h.2.2.1.2.2.2.2.2]
theorem mr_fr (h : mp_ok am M r P) {c : Nat} (hc : c < py_nc P) : mo_from d am (nI r) (nI c) M = some (nI (py_fr P c), M) := by
  have h1 := h.2.2.1.1
  have h2 := ok_nc h.1
  unfold mo_from
  rw [ml_R9 h.2.1]
  dsimp only
  rw [ml_L9 h.2.1, mo_ix (mx_3 r c) (by omega) (by omega), mx_3, nI_clamp (by omega), (h.2.2.2.2.2.1 c hc).1]
theorem mr_to (h : mp_ok am M r P) {c : Nat} (hc : c < py_nc P) : mo_to d am (nI r) (nI c) M = some (zo (py_to P c), M) := by
  have h1 := h.2.2.1.1
  have h2 := ok_nc h.1
  have e : 3 * (8 * nI r + nI c) + 1 = nI (3 * (8 * r + c) + 1) := by rw [mx_3, nI_1]
  unfold mo_to
  rw [ml_R9 h.2.1]
  dsimp only
  rw [ml_L9 h.2.1, mo_ix e (by omega) (by omega), e, nI_clamp (by omega), (h.2.2.2.2.2.1 c hc).2.1]
theorem mr_lt (h : mp_ok am M r P) {o : Nat} (ho : o < py_nl P) : mo_letterOf d am (nI r) (nI o) M = some (nI (py_lt P o), M) := by
  have h1 := h.2.2.1.1
  have h2 := ok_nl h.1
  unfold mo_letterOf
  rw [ml_R11 h.2.1]
  dsimp only
  rw [ml_L11 h.2.1, mo_ix (mx_2 r o) (by omega) (by omega), mx_2, nI_clamp (by omega), (h.2.2.2.2.2.2.1 o ho).1]
theorem mr_lf (h : mp_ok am M r P) {o : Nat} (ho : o < py_nl P) : mo_leaf d am (nI r) (nI o) M = some (nI (py_lf P o), M) := by
  have h1 := h.2.2.1.1
  have h2 := ok_nl h.1
  have e : 2 * (16 * nI r + nI o) + 1 = nI (2 * (16 * r + o) + 1) := by rw [mx_2, nI_1]
  unfold mo_leaf
  rw [ml_R11 h.2.1]
  dsimp only
  rw [ml_L11 h.2.1, mo_ix e (by omega) (by omega), e, nI_clamp (by omega), (h.2.2.2.2.2.2.1 o ho).2]
theorem ok_kd6 (h : py_ok P) {n : Nat} (hn : py_dm P n) : py_kd P n = 0 ∨ py_kd P n = 1 ∨ py_kd P n = 2 ∨ py_kd P n = 3 ∨ py_kd P n = 4 ∨ py_kd P n = 5 := by
  have := ok_kd h hn
  omega
theorem pb_eqk {k m : Nat} (hk : k ≤ 5) (hm : m ≤ 5) : nI k = nI m ↔ k = m := nI_eq (by omega) (by omega)
theorem pb_LF : 400 < zLF := by
  unfold zLF
  exact Nat.lt_of_sub_pos (Nat.pos_of_ne_zero (by decide))
/-- the loop of isNull -/
theorem mr_isNull_56 (h : mp_ok am M r P) {n : Nat} (hn : py_dm P n) (R : Nat → Int32 → Int32 → zM → Option (Int32 × zM)) (hR : ∀ c, c ∈ py_ks P n → R am (nI r) (nI c) M = some (zb (py_nu P c), M)) (v3 : Int32) : ∀ (b a : List Nat), py_ks P n = a ++ b → ∀ fuel, b.length < fuel → mo_isNull_56 R d fuel am (nI r) v3 (zo b.head?) M = some (zb (if v3 = 3 then b.any (py_nu P) else b.all (py_nu P)), M) := by
  intro b
  induction b with
  | nil =>
    intro a _ fuel hf
    cases fuel with
    | zero => cases hf
    | succ fuel =>
      by_cases q : v3 = 3
      · simp [mo_isNull_56, mo_isNull_115, zo, zb, q]
      · simp [mo_isNull_56, mo_isNull_115, zo, zb, q]
  | cons c b ih =>
    intro a e fuel hf
    cases fuel with
    | zero => cases hf
    | succ fuel =>
      have hc : c ∈ py_ks P n := by rw [e]; simp
      have h4 := ok_400 h.1 (ok_kid h.1 hn hc)
      have ihc := ih (a ++ [c]) (by rw [e]; simp) fuel (by simp at hf; omega)
      have hne : ¬ nI c = -1 := pb_ne1 (by omega)
      by_cases q : v3 = 3
      · simp only [q, if_true] at ihc
        cases hb : py_nu P c
        · simp [mo_isNull_56, mo_isNull_79, pb_zos, hne, hR c hc, hb, pb_zbf, mr_nx h hn e, ihc, q, mo_isNull_92]
        · simp [mo_isNull_56, mo_isNull_79, pb_zos, hne, hR c hc, hb, pb_zbt, q, mo_isNull_92]
      · simp only [q, if_false] at ihc
        cases hb : py_nu P c
        · simp [mo_isNull_56, mo_isNull_79, pb_zos, hne, hR c hc, hb, pb_zbf, q, mo_isNull_92]
        · simp [mo_isNull_56, mo_isNull_79, pb_zos, hne, hR c hc, hb, pb_zbt, mr_nx h hn e, ihc, q, mo_isNull_92]
theorem mr_isNull (h : mp_ok am M r P) : ∀ n, py_dm P n → ∀ d, py_hg P n < d → mo_isNull d am (nI r) (nI n) M = some (zb (py_nu P n), M) := by
  refine ok_down h.1 _ ?_
  intro n hn ih d hd
  cases d with
  | zero => cases hd
  | succ d =>
    have hR : ∀ c, c ∈ py_ks P n → mo_isNull d am (nI r) (nI c) M = some (zb (py_nu P c), M) := by
      intro c hc
      have := ok_khg h.1 hn hc
      exact ih c hc d (by omega)
    have hlen : (py_ks P n).length < zLF := by
      exact Nat.lt_of_le_of_lt (ok_ln h.1 hn) pb_LF
    have hl := mr_isNull_56 (d := d) h hn _ hR (nI (py_kd P n)) (py_ks P n) [] rfl zLF hlen
    rw [mo_isNull.eq_2]
    have er : (fun a0 a1 a2 M => mo_isNull d a0 a1 a2 M) = mo_isNull d := rfl
    rw [er]
    unfold mo_isNull_b
    rw [nu_eq h.1 hn]
    rcases ok_kd6 h.1 hn with q | q | q | q | q | q
    · simp [mr_kd h hn, q, py_ng, mo_isNull_16, mo_isNull_26, pb_n0, pb_n1, pb_n2, pb_n3, pb_n4, pb_n5, zb]
    · simp [mr_kd h hn, q, py_ng, mo_isNull_16, mo_isNull_26, pb_n0, pb_n1, pb_n2, pb_n3, pb_n4, pb_n5, zb]
    · simp [q, pb_n0, pb_n1, pb_n2, pb_n3, pb_n4, pb_n5] at hl
      simp [mr_kd h hn, q, py_ng, mo_isNull_48, mr_ks h hn, hl, pb_n0, pb_n1, pb_n2, pb_n3, pb_n4, pb_n5]
    · simp [q, pb_n0, pb_n1, pb_n2, pb_n3, pb_n4, pb_n5] at hl
      simp [mr_kd h hn, q, py_ng, mo_isNull_48, mr_ks h hn, hl, pb_n0, pb_n1, pb_n2, pb_n3, pb_n4, pb_n5]
    · simp [q, pb_n0, pb_n1, pb_n2, pb_n3, pb_n4, pb_n5] at hl
      simp [mr_kd h hn, q, py_ng, mo_isNull_48, mr_ks h hn, hl, pb_n0, pb_n1, pb_n2, pb_n3, pb_n4, pb_n5]
    · simp [q, pb_n0, pb_n1, pb_n2, pb_n3, pb_n4, pb_n5] at hl
      have h5 := ok_k5 h.1 hn q
      have hf := ok_fr h.1 h5.2.1
      have e0 : nI (py_fr P (py_nb P n)) = 0 ↔ py_fr P (py_nb P n) = 0 := nI_eq (b := 0) (by omega) (by omega)
      by_cases q0 : py_fr P (py_nb P n) = 0
      · simp [mr_kd h hn, q, py_ng, mr_nb h hn (.inr (.inr q)), mr_fr h h5.2.1, q0, pb_n0, pb_n1, pb_n2, pb_n3, pb_n4, pb_n5, zb]
      · simp [mr_kd h hn, q, py_ng, mo_isNull_48, mr_ks h hn, hl, mr_nb h hn (.inr (.inr q)), mr_fr h h5.2.1, e0, q0, pb_n0, pb_n1, pb_n2, pb_n3, pb_n4, pb_n5]
end
