/-! NUMBERS OF RUNS: parts in any order -/
/-- orders of parts that take all that must be -/
def py_T (N : Nat → yN) (nu : Nat → Bool) : Nat → List Nat → yN
  | 0, L => fun j => if L.all nu then nv_1 j else 0
  | f + 1, L => fun j => (if L.all nu then nv_1 j else 0) + sl (fun c => cv (N c) (py_T N nu f (L.erase c)) j) L
/-- sets of i parts -/
def py_E (N : Nat → yN) (nu : Nat → Bool) : List Nat → Nat → yN
  | [], i => if i = 0 then nv_1 else nv_0
  | c :: L, i => fun n => (if nu c then py_E N nu L i n else 0) + (if i = 0 then 0 else cv (N c) (py_E N nu L (i - 1)) n)
def fact : Nat → Nat
  | 0 => 1
  | n + 1 => (n + 1) * fact n
def fsum (f : Nat → Nat) : Nat → Nat
  | 0 => 0
  | m + 1 => fsum f m + fact m * f m
section
variable {N : Nat → yN} {nu : Nat → Bool}
theorem E_0 : ∀ (L : List Nat) (n : Nat), py_E N nu L 0 n = if L.all nu then nv_1 n else 0 := by
  intro L
  induction L with
  | nil => intro n; rfl
  | cons c L ih =>
    intro n
    show (if nu c then py_E N nu L 0 n else 0) + 0 = _
    rw [ih n, List.all_cons]
    cases nu c <;> simp
theorem E_big : ∀ (L : List Nat) (i n : Nat), L.length < i → py_E N nu L i n = 0 := by
  intro L
  induction L with
  | nil =>
    intro i n h
    show (if i = 0 then nv_1 else nv_0) n = 0
    rw [if_neg (by simp at h; omega)]
    rfl
  | cons c L ih =>
    intro i n h
    rw [List.length_cons] at h
    show (if nu c then py_E N nu L i n else 0) + (if i = 0 then 0 else cv (N c) (py_E N nu L (i - 1)) n) = 0
    rw [ih i n (by omega), if_neg (show ¬ i = 0 by omega)]
    have : cv (N c) (py_E N nu L (i - 1)) n = cv (N c) nv_0 n := cv_ext n (fun _ _ => rfl) (fun k _ => ih (i - 1) k (by omega))
    rw [this, cv_0_r]
    simp
theorem sl_mulr {α : Type} (a : Nat) (f : α → Nat) : ∀ l : List α, sl (fun x => a * f x) l = a * sl f l := by
  intro l
  induction l with
  | nil => rfl
  | cons x l ih => rw [sl_cons, sl_cons, ih, Nat.mul_add]
theorem cv_slr {α : Type} (f : yN) (g : α → yN) (l : List α) (n : Nat) : cv f (fun i => sl (fun a => g a i) l) n = sl (fun a => cv f (g a) n) l := by
  rw [cv_comm, cv_sl]
  exact sl_ext (fun a _ => cv_comm _ _ n)
/-- each set is had by each of its parts as the first -/
theorem E_each : ∀ (L : List Nat), L.Nodup → ∀ (i n : Nat), (i + 1) * py_E N nu L (i + 1) n = sl (fun c => cv (N c) (py_E N nu (L.erase c) i) n) L := by
  intro L
  induction L with
  | nil =>
    intro _ i n
    rfl
  | cons d L ih =>
    intro hnd i n
    obtain ⟨hd, hL⟩ := List.nodup_cons.mp hnd
    rw [sl_cons, List.erase_cons_head]
    have e1 : sl (fun c => cv (N c) (py_E N nu ((d :: L).erase c) i) n) L = sl (fun c => (if nu d then cv (N c) (py_E N nu (L.erase c) i) n else 0) + (if i = 0 then 0 else cv (N d) (cv (N c) (py_E N nu (L.erase c) (i - 1))) n)) L := by
      refine sl_ext ?_
      intro c hc
      have hne : d ≠ c := by intro q; rw [q] at hd; exact hd hc
      rw [List.erase_cons_tail (by simpa using hne)]
      have e2 : cv (N c) (py_E N nu (d :: L.erase c) i) n = cv (N c) (fun k => (if nu d then py_E N nu (L.erase c) i k else 0) + (if i = 0 then 0 else cv (N d) (py_E N nu (L.erase c) (i - 1)) k)) n := cv_ext n (fun _ _ => rfl) (fun _ _ => rfl)
      rw [e2, cv_add_r]
      congr 1
      · cases nu d with
        | true => rfl
        | false => exact cv_0_r _ _
      · by_cases q : i = 0
        · simp only [if_pos q]
          exact cv_0_r _ _
        · simp only [if_neg q]
          rw [← cv_assoc, ← cv_assoc]
          exact cv_ext n (fun k _ => cv_comm _ _ k) (fun _ _ => rfl)
    rw [e1, sl_add]
    show (i + 1) * ((if nu d then py_E N nu L (i + 1) n else 0) + (if i + 1 = 0 then 0 else cv (N d) (py_E N nu L i) n)) = _
    rw [if_neg (show ¬ i + 1 = 0 by omega), Nat.mul_add]
    have e3 : sl (fun c => if nu d then cv (N c) (py_E N nu (L.erase c) i) n else 0) L = (i + 1) * (if nu d then py_E N nu L (i + 1) n else 0) := by
      cases nu d with
      | true => exact (ih hL i n).symm
      | false =>
        show sl (fun _ => 0) L = _
        rw [sl_zero]
        rfl
    have e4 : sl (fun c => if i = 0 then 0 else cv (N d) (cv (N c) (py_E N nu (L.erase c) (i - 1))) n) L = i * cv (N d) (py_E N nu L i) n := by
      by_cases q : i = 0
      · simp only [if_pos q]
        rw [sl_zero, q, Nat.zero_mul]
      · simp only [if_neg q]
        rw [← cv_slr, ← cv_mul_r]
        refine cv_ext n (fun _ _ => rfl) (fun k _ => ?_)
        have := ih hL (i - 1) k
        rw [show i - 1 + 1 = i by omega] at this
        exact this.symm
    have e5 : (i + 1) * cv (N d) (py_E N nu L i) n = i * cv (N d) (py_E N nu L i) n + cv (N d) (py_E N nu L i) n := Nat.succ_mul _ _
    rw [e3, e4, e5]
    omega
theorem fsum_sl {α : Type} (f : α → Nat → Nat) (l : List α) : ∀ m, sl (fun a => fsum (f a) m) l = fsum (fun i => sl (fun a => f a i) l) m := by
  intro m
  induction m with
  | zero => exact sl_zero l
  | succ m ih =>
    show sl (fun a => fsum (f a) m + fact m * f a m) l = fsum (fun i => sl (fun a => f a i) l) m + fact m * sl (fun a => f a m) l
    rw [sl_add, ih, sl_mulr]
theorem fsum_shift (f : Nat → Nat) : ∀ m, fsum f (m + 1) = f 0 + fsum (fun i => (i + 1) * f (i + 1)) m := by
  intro m
  induction m with
  | zero =>
    show 0 + fact 0 * f 0 = f 0 + 0
    show 0 + 1 * f 0 = f 0 + 0
    omega
  | succ m ih =>
    show fsum f (m + 1) + fact (m + 1) * f (m + 1) = f 0 + (fsum (fun i => (i + 1) * f (i + 1)) m + fact m * ((m + 1) * f (m + 1)))
    rw [ih]
    show f 0 + fsum (fun i => (i + 1) * f (i + 1)) m + ((m + 1) * fact m) * f (m + 1) = _
    rw [Nat.mul_comm (m + 1) (fact m), Nat.mul_assoc]
    omega
theorem fsum_ext {f g : Nat → Nat} : ∀ m, (∀ i, i < m → f i = g i) → fsum f m = fsum g m := by
  intro m
  induction m with
  | zero => intro _; rfl
  | succ m ih =>
    intro h
    show fsum f m + fact m * f m = fsum g m + fact m * g m
    rw [ih (fun i hi => h i (by omega)), h m (by omega)]
theorem cv_fsum (f : yN) (g : Nat → yN) (n : Nat) : ∀ m, cv f (fun k => fsum (fun i => g i k) m) n = fsum (fun i => cv f (g i) n) m := by
  intro m
  induction m with
  | zero => exact cv_0_r f n
  | succ m ih =>
    have e : cv f (fun k => fsum (fun i => g i k) (m + 1)) n = cv f (fun k => fsum (fun i => g i k) m + fact m * g m k) n := cv_ext n (fun _ _ => rfl) (fun _ _ => rfl)
    rw [e, cv_add_r, ih, cv_mul_r]
    rfl
theorem T_E : ∀ (f : Nat) (L : List Nat), L.Nodup → L.length ≤ f → ∀ n, py_T N nu f L n = fsum (fun i => py_E N nu L i n) (f + 1) := by
  intro f
  induction f with
  | zero =>
    intro L _ hl n
    have : L = [] := List.eq_nil_of_length_eq_zero (by omega)
    subst this
    show (if ([] : List Nat).all nu then nv_1 n else 0) = 0 + 1 * nv_1 n
    simp
  | succ f ih =>
    intro L hnd hl n
    show (if L.all nu then nv_1 n else 0) + sl (fun c => cv (N c) (py_T N nu f (L.erase c)) n) L = _
    rw [fsum_shift, ← E_0]
    congr 1
    have e1 : sl (fun c => cv (N c) (py_T N nu f (L.erase c)) n) L = sl (fun c => fsum (fun i => cv (N c) (py_E N nu (L.erase c) i) n) (f + 1)) L := by
      refine sl_ext ?_
      intro c hc
      rw [← cv_fsum]
      refine cv_ext n (fun _ _ => rfl) (fun k _ => ?_)
      exact ih (L.erase c) (hnd.erase c) (by rw [List.length_erase_of_mem hc]; omega) k
    rw [e1, fsum_sl]
    exact fsum_ext _ (fun i _ => (E_each L hnd i n).symm)
theorem sl_perm {α : Type} (f : α → Nat) {l m : List α} (h : l.Perm m) : sl f l = sl f m := by
  induction h with
  | nil => rfl
  | cons x _ ih => rw [sl_cons, sl_cons, ih]
  | swap x y l =>
    rw [sl_cons, sl_cons, sl_cons, sl_cons]
    omega
  | trans _ _ i1 i2 => rw [i1, i2]
theorem T_perm : ∀ (f : Nat) (L K : List Nat), L.Perm K → ∀ n, py_T N nu f L n = py_T N nu f K n := by
  intro f
  induction f with
  | zero =>
    intro L K h n
    show (if L.all nu then nv_1 n else 0) = (if K.all nu then nv_1 n else 0)
    rw [h.all_eq]
  | succ f ih =>
    intro L K h n
    show (if L.all nu then nv_1 n else 0) + sl (fun c => cv (N c) (py_T N nu f (L.erase c)) n) L = (if K.all nu then nv_1 n else 0) + sl (fun c => cv (N c) (py_T N nu f (K.erase c)) n) K
    rw [h.all_eq, sl_perm _ h]
    congr 1
    refine sl_ext ?_
    intro c _
    exact cv_ext n (fun _ _ => rfl) (fun k _ => ih _ _ (h.erase c) k)
end
