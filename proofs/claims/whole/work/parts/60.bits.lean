/-! BITS of a number -/
def zbt (x : Int32) (i : Nat) : Bool := x.toBitVec.getLsbD i
def zbit (q : Nat) : Int32 := 1 <<< (nI q &&& 31)
theorem zq_sm {q : Nat} (h : q < 32) : (nI q &&& 31).toBitVec.smod 32 = BitVec.ofNat 32 q := by
  have key : ∀ q : Fin 32, (nI q.val &&& 31).toBitVec.smod 32 = BitVec.ofNat 32 q.val := by decide +kernel
  exact key ⟨q, h⟩
theorem zy_ext {a b : Int32} (h : ∀ i, i < 32 → zbt a i = zbt b i) : a = b := by
  apply Int32.toBitVec.inj
  apply BitVec.eq_of_getLsbD_eq
  intro i hi
  exact h i hi
theorem zy_or (a b : Int32) (i : Nat) : zbt (a ||| b) i = (zbt a i || zbt b i) := by simp [zbt]
theorem zy_and (a b : Int32) (i : Nat) : zbt (a &&& b) i = (zbt a i && zbt b i) := by simp [zbt]
theorem zy_xor (a b : Int32) (i : Nat) : zbt (a ^^^ b) i = (zbt a i ^^ zbt b i) := by simp [zbt]
theorem zy_0 (i : Nat) : zbt 0 i = false := by simp [zbt]
theorem zy_m1 {i : Nat} (h : i < 32) : zbt (-1) i = true := by
  have key : ∀ i : Fin 32, zbt (-1) i.val = true := by decide +kernel
  exact key ⟨i, h⟩
theorem zy_bit {q : Nat} (hq : q < 32) {i : Nat} (hi : i < 32) : zbt (zbit q) i = decide (i = q) := by
  have key : ∀ q i : Fin 32, zbt (zbit q.val) i.val = decide (i.val = q.val) := by decide +kernel
  exact key ⟨q, hq⟩ ⟨i, hi⟩
theorem zy_and1 (y : Int32) : y &&& 1 = if zbt y 0 then 1 else 0 := by
  apply zy_ext
  intro i hi
  have h1 : zbt 1 i = decide (i = 0) := by
    have key : ∀ i : Fin 32, zbt 1 i.val = decide (i.val = 0) := by decide +kernel
    exact key ⟨i, hi⟩
  rw [zy_and, h1]
  by_cases e : i = 0
  · subst e
    cases h : zbt y 0
    · simp [zy_0]
    · simp [h1]
  · cases h : zbt y 0
    · simp [zy_0, e]
    · simp [h1, e]
theorem zy_shr (x : Int32) {q : Nat} (hq : q < 32) {i : Nat} (hi : i < 32) : zbt (x >>> (nI q &&& 31)) i = if q + i < 32 then zbt x (q + i) else zbt x 31 := by
  unfold zbt
  rw [Int32.toBitVec_shiftRight, zq_sm hq, BitVec.sshiftRight', BitVec.toNat_ofNat, Nat.mod_eq_of_lt (by omega), BitVec.getLsbD_sshiftRight, BitVec.msb_eq_getLsbD_last]
  have : ¬ 32 ≤ i := by omega
  simp [this]
theorem zy_shl (x : Int32) {q : Nat} (hq : q < 32) {i : Nat} (hi : i < 32) : zbt (x <<< (nI q &&& 31)) i = (decide (q ≤ i) && zbt x (i - q)) := by
  unfold zbt
  rw [Int32.toBitVec_shiftLeft, zq_sm hq, BitVec.shiftLeft_eq', BitVec.toNat_ofNat, Nat.mod_eq_of_lt (by omega), BitVec.getLsbD_shiftLeft]
  by_cases e : q ≤ i
  · simp [hi, e]
  · simp [e]
/-- the test of a bit -/
theorem zy_has (x : Int32) {q : Nat} (hq : q < 32) : (x >>> (nI q &&& 31)) &&& 1 = if zbt x q then 1 else 0 := by
  rw [zy_and1, zy_shr x hq (by omega)]
  simp [hq]
/-- a set of numbers -/
def zor (l : List Nat) : Int32 := l.foldl (fun a q => a ||| zbit q) 0
theorem zor_acc : ∀ (l : List Nat) (a : Int32) (i : Nat), (∀ q, q ∈ l → q < 32) → i < 32 → zbt (l.foldl (fun a q => a ||| zbit q) a) i = (zbt a i || l.contains i) := by
  intro l
  induction l with
  | nil => intro a i _ _; simp
  | cons q l ih =>
    intro a i h hi
    rw [List.foldl_cons, ih _ _ (fun x hx => h x (List.mem_cons_of_mem _ hx)) hi, zy_or, zy_bit (h q List.mem_cons_self) hi, List.contains_cons]
    by_cases e : i = q
    · subst e; simp
    · have eb : (i == q) = false := by simpa using e
      rw [eb]
      simp [e]
theorem zor_bt {l : List Nat} (h : ∀ q, q ∈ l → q < 32) {i : Nat} (hi : i < 32) : zbt (zor l) i = l.contains i := by
  unfold zor
  rw [zor_acc l 0 i h hi, zy_0, Bool.false_or]
theorem zor_ext {l l' : List Nat} (h : ∀ q, q ∈ l → q < 32) (h' : ∀ q, q ∈ l' → q < 32) (e : ∀ q, q ∈ l ↔ q ∈ l') : zor l = zor l' := by
  apply zy_ext
  intro i hi
  rw [zor_bt h hi, zor_bt h' hi]
  have := e i
  rw [Bool.eq_iff_iff]
  simpa using this
theorem zor_or {l l' : List Nat} (h : ∀ q, q ∈ l → q < 32) (h' : ∀ q, q ∈ l' → q < 32) : zor l ||| zor l' = zor (l ++ l') := by
  apply zy_ext
  intro i hi
  rw [zy_or, zor_bt h hi, zor_bt h' hi, zor_bt (fun q hq => by rcases List.mem_append.mp hq with x | x; exact h q x; exact h' q x) hi]
  simp
theorem zor_nil : zor [] = 0 := rfl
theorem zor_snoc (l : List Nat) (q : Nat) : zor l ||| zbit q = zor (l ++ [q]) := by
  unfold zor
  rw [List.foldl_append]
  rfl
theorem zor_one {q : Nat} : zor [q] = zbit q := by
  unfold zor
  apply zy_ext
  intro i hi
  simp [zy_or, zy_0]
theorem zor_has {l : List Nat} (h : ∀ q, q ∈ l → q < 32) {i : Nat} (hi : i < 32) : (zor l >>> (nI i &&& 31)) &&& 1 = if i ∈ l then 1 else 0 := by
  rw [zy_has _ hi, zor_bt h hi]
  by_cases e : i ∈ l <;> simp [e]
