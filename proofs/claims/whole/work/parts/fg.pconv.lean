/-! NUMBERS OF WORDS: rows of numbers by lengths, multiplied -/
abbrev yN : Type := Nat → Nat
def cv (f g : yN) : Nat → Nat
  | 0 => f 0 * g 0
  | n + 1 => f 0 * g (n + 1) + cv (fun i => f (i + 1)) g n
def nv_0 : yN := fun _ => 0
def nv_1 : yN := fun n => if n = 0 then 1 else 0
section
theorem cv_add_l (f f' g : yN) : ∀ n, cv (fun i => f i + f' i) g n = cv f g n + cv f' g n := by
  intro n
  induction n generalizing f f' with
  | zero => show (f 0 + f' 0) * g 0 = f 0 * g 0 + f' 0 * g 0; rw [Nat.add_mul]
  | succ n ih =>
    show (f 0 + f' 0) * g (n + 1) + cv (fun i => f (i + 1) + f' (i + 1)) g n = (f 0 * g (n + 1) + cv (fun i => f (i + 1)) g n) + (f' 0 * g (n + 1) + cv (fun i => f' (i + 1)) g n)
    rw [ih (fun i => f (i + 1)) (fun i => f' (i + 1)), Nat.add_mul]
    omega
theorem cv_mul_l (a : Nat) (f g : yN) : ∀ n, cv (fun i => a * f i) g n = a * cv f g n := by
  intro n
  induction n generalizing f with
  | zero => show (a * f 0) * g 0 = a * (f 0 * g 0); rw [Nat.mul_assoc]
  | succ n ih =>
    show (a * f 0) * g (n + 1) + cv (fun i => a * f (i + 1)) g n = a * (f 0 * g (n + 1) + cv (fun i => f (i + 1)) g n)
    rw [ih (fun i => f (i + 1)), Nat.mul_add, Nat.mul_assoc]
theorem cv_right (f g : yN) : ∀ n, cv f g (n + 1) = cv f (fun i => g (i + 1)) n + f (n + 1) * g 0 := by
  intro n
  induction n generalizing f with
  | zero => rfl
  | succ n ih =>
    show f 0 * g (n + 2) + cv (fun i => f (i + 1)) g (n + 1) = (f 0 * g (n + 2) + cv (fun i => f (i + 1)) (fun i => g (i + 1)) n) + f (n + 2) * g 0
    rw [ih (fun i => f (i + 1))]
    exact (Nat.add_assoc _ _ _).symm
theorem cv_comm (f g : yN) : ∀ n, cv f g n = cv g f n := by
  intro n
  induction n generalizing f g with
  | zero => exact Nat.mul_comm _ _
  | succ n ih =>
    rw [cv_right]
    show _ = g 0 * f (n + 1) + cv (fun i => g (i + 1)) f n
    rw [ih f (fun i => g (i + 1)), Nat.mul_comm (f (n + 1))]
    omega
theorem cv_assoc (f g h : yN) : ∀ n, cv (cv f g) h n = cv f (cv g h) n := by
  intro n
  induction n generalizing f with
  | zero => exact Nat.mul_assoc _ _ _
  | succ n ih =>
    show (f 0 * g 0) * h (n + 1) + cv (fun i => f 0 * g (i + 1) + cv (fun i => f (i + 1)) g i) h n = f 0 * (g 0 * h (n + 1) + cv (fun i => g (i + 1)) h n) + cv (fun i => f (i + 1)) (cv g h) n
    rw [cv_add_l (fun i => f 0 * g (i + 1)) (fun i => cv (fun i => f (i + 1)) g i), cv_mul_l]
    have := ih (fun i => f (i + 1))
    have e : cv (fun i => cv (fun i => f (i + 1)) g i) h n = cv (cv (fun i => f (i + 1)) g) h n := rfl
    rw [e, this, Nat.mul_add, Nat.mul_assoc]
    omega
theorem cv_ext {f f' g g' : yN} : ∀ (n : Nat), (∀ i, i ≤ n → f i = f' i) → (∀ i, i ≤ n → g i = g' i) → cv f g n = cv f' g' n := by
  intro n
  induction n generalizing f f' with
  | zero =>
    intro h1 h2
    show f 0 * g 0 = f' 0 * g' 0
    rw [h1 0 (Nat.le_refl _), h2 0 (Nat.le_refl _)]
  | succ n ih =>
    intro h1 h2
    show f 0 * g (n + 1) + cv (fun i => f (i + 1)) g n = f' 0 * g' (n + 1) + cv (fun i => f' (i + 1)) g' n
    rw [h1 0 (Nat.zero_le _), h2 (n + 1) (Nat.le_refl _), ih (fun i hi => h1 (i + 1) (by omega)) (fun i hi => h2 i (by omega))]
theorem cv_0_l (g : yN) : ∀ n, cv nv_0 g n = 0 := by
  intro n
  induction n with
  | zero => exact Nat.zero_mul _
  | succ n ih =>
    show 0 * g (n + 1) + cv nv_0 g n = 0
    rw [ih, Nat.zero_mul]
theorem cv_1_l (g : yN) : ∀ n, cv nv_1 g n = g n := by
  intro n
  cases n with
  | zero => exact Nat.one_mul _
  | succ n =>
    show 1 * g (n + 1) + cv (fun i => nv_1 (i + 1)) g n = g (n + 1)
    have e : cv (fun i => nv_1 (i + 1)) g n = cv nv_0 g n := cv_ext n (fun i _ => rfl) (fun i _ => rfl)
    rw [e, cv_0_l, Nat.one_mul, Nat.add_zero]
theorem cv_1_r (f : yN) (n : Nat) : cv f nv_1 n = f n := by rw [cv_comm, cv_1_l]
theorem cv_0_r (f : yN) (n : Nat) : cv f nv_0 n = 0 := by rw [cv_comm, cv_0_l]
theorem cv_add_r (f g g' : yN) (n : Nat) : cv f (fun i => g i + g' i) n = cv f g n + cv f g' n := by rw [cv_comm, cv_add_l, cv_comm g, cv_comm g']
theorem cv_mul_r (a : Nat) (f g : yN) (n : Nat) : cv f (fun i => a * g i) n = a * cv f g n := by rw [cv_comm, cv_mul_l, cv_comm]
/-- sums over a list -/
def sl {α : Type} (f : α → Nat) (l : List α) : Nat := (l.map f).sum
theorem sl_nil {α : Type} (f : α → Nat) : sl f [] = 0 := rfl
theorem sl_cons {α : Type} (f : α → Nat) (a : α) (l : List α) : sl f (a :: l) = f a + sl f l := by simp [sl]
theorem sl_app {α : Type} (f : α → Nat) (l m : List α) : sl f (l ++ m) = sl f l + sl f m := by simp [sl]
theorem sl_ext {α : Type} {f g : α → Nat} : ∀ {l : List α}, (∀ a, a ∈ l → f a = g a) → sl f l = sl g l := by
  intro l
  induction l with
  | nil => intro _; rfl
  | cons a l ih =>
    intro h
    rw [sl_cons, sl_cons, h a List.mem_cons_self, ih (fun x hx => h x (List.mem_cons_of_mem _ hx))]
theorem sl_map {α β : Type} (f : β → Nat) (g : α → β) (l : List α) : sl f (l.map g) = sl (fun a => f (g a)) l := by
  unfold sl
  rw [List.map_map]
  rfl
theorem sl_fm {α β : Type} (f : β → Nat) (g : α → List β) : ∀ (l : List α), sl f (l.flatMap g) = sl (fun a => sl f (g a)) l := by
  intro l
  induction l with
  | nil => rfl
  | cons a l ih => rw [List.flatMap_cons, sl_app, sl_cons, ih]
theorem sl_add {α : Type} (f g : α → Nat) : ∀ (l : List α), sl (fun a => f a + g a) l = sl f l + sl g l := by
  intro l
  induction l with
  | nil => rfl
  | cons a l ih =>
    rw [sl_cons, sl_cons, sl_cons, ih]
    omega
theorem cv_sl {α : Type} (f : α → yN) (g : yN) : ∀ (l : List α) (n : Nat), cv (fun i => sl (fun a => f a i) l) g n = sl (fun a => cv (f a) g n) l := by
  intro l
  induction l with
  | nil => intro n; exact cv_0_l g n
  | cons a l ih =>
    intro n
    have e : cv (fun i => sl (fun a => f a i) (a :: l)) g n = cv (fun i => f a i + sl (fun a => f a i) l) g n := cv_ext n (fun i _ => sl_cons _ _ _) (fun i _ => rfl)
    rw [e, cv_add_l, ih n, sl_cons]
end
