/-! LENGTHS, and how many readings there are, from the kids up -/
section
variable {P : yP}
theorem sm_tot {sel : Nat → Bool} {f : Nat → List Nat} : ∀ (l : List Nat) (S : List (List Nat)), (py_sm sel f l S).flatten.length = S.flatten.length + (l.map (fun c => if sel c then (f c).length else 0)).sum := by
  intro l
  induction l with
  | nil => intro S; simp [py_sm]
  | cons c l ih =>
    intro S
    have h2 := ih (if sel c then py_ins (f c) S else S)
    unfold py_sm at h2 ⊢
    rw [List.foldl_cons, h2, List.map_cons, List.sum_cons]
    cases hs : sel c
    · simp
    · simp only [if_true, ins_flat]
      omega
theorem fm_tot {f : Nat → List Nat} : ∀ (l : List Nat), (l.flatMap f).length = (l.map (fun c => (f c).length)).sum := by
  intro l
  induction l with
  | nil => rfl
  | cons c l ih => rw [List.flatMap_cons, List.length_append, ih, List.map_cons, List.sum_cons]
theorem wd_nu (h : py_ok P) {n : Nat} (hn : py_dm P n) (hu : py_nu P n = true) : py_wd P n = [] := by
  rw [wd_eq h hn]
  unfold py_wg
  rw [if_pos hu]
def py_ln (P : yP) (n : Nat) : Nat := (py_wd P n).length
theorem ln_le (h : py_ok P) {n : Nat} (hn : py_dm P n) : py_ln P n ≤ 2304 := Nat.le_trans (wd_len h n hn) (B_le h hn)
theorem ln_sum (h : py_ok P) {n : Nat} (hn : py_dm P n) (hk : py_kd P n = 2 ∨ py_kd P n = 4) : py_ln P n = ((py_ks P n).map (py_ln P)).sum := by
  have hz : py_nu P n = true → ∀ c, c ∈ py_ks P n → py_ln P c = 0 := by
    intro hu c hc
    rw [nu_eq h hn] at hu
    unfold py_ng at hu
    rw [if_neg (by omega), if_neg (by omega), if_neg (by omega), if_neg (by omega), List.all_eq_true] at hu
    unfold py_ln
    rw [wd_nu h (ok_kid h hn hc) (hu c hc)]
    rfl
  cases hu : py_nu P n with
  | true =>
    unfold py_ln
    rw [wd_nu h hn hu]
    have : ∀ l : List Nat, (∀ c, c ∈ l → py_ln P c = 0) → (l.map (fun n => (py_wd P n).length)).sum = 0 := by
      intro l
      induction l with
      | nil => intro _; rfl
      | cons x l ih =>
        intro hl
        rw [List.map_cons, List.sum_cons, ih (fun c hc => hl c (List.mem_cons_of_mem _ hc))]
        exact hl x List.mem_cons_self
    exact (this _ (hz hu)).symm
  | false =>
    unfold py_ln
    rw [wd_eq h hn]
    unfold py_wg
    rcases hk with hk | hk
    · rw [if_neg (by rw [hu]; simp), if_neg (by omega), if_pos hk, fm_tot]
    · rw [if_neg (by rw [hu]; simp), if_neg (by omega), if_neg (by omega), if_neg (by omega), if_pos hk, sm_tot]
      have : ∀ l : List Nat, (∀ c, c ∈ l → py_dm P c) → (l.map (fun c => if (!py_nu P c) = true then (py_wd P c).length else 0)) = l.map (fun n => (py_wd P n).length) := by
        intro l
        induction l with
        | nil => intro _; rfl
        | cons x l ih =>
          intro hl
          rw [List.map_cons, List.map_cons, ih (fun c hc => hl c (List.mem_cons_of_mem _ hc))]
          cases hx : py_nu P x with
          | true =>
            rw [wd_nu h (hl x List.mem_cons_self) hx]
            rfl
          | false => rfl
      rw [this _ (fun c hc => ok_kid h hn hc)]
      simp
theorem bst_min {f : Nat → List Nat} : ∀ (l : List Nat) (u : List Nat), (l.foldl (fun u c => if py_ls (f c) u then f c else u) u).length = l.foldl (fun m c => min m (f c).length) u.length := by
  intro l
  induction l with
  | nil => intro u; rfl
  | cons c l ih =>
    intro u
    rw [List.foldl_cons, List.foldl_cons, ih]
    congr 1
    unfold py_ls
    by_cases h1 : (f c).length < u.length
    · rw [decide_eq_true h1, Bool.true_or, if_pos rfl, Nat.min_eq_right (by omega)]
    · rw [decide_eq_false h1, Bool.false_or]
      by_cases h2 : (f c).length = u.length
      · rw [h2, Nat.min_self]
        split
        · exact h2
        · rfl
      · have : ((f c).length == u.length) = false := by simpa using h2
        rw [this, Bool.false_and, if_neg (by simp), Nat.min_eq_left (by omega)]
def py_mn (f : Nat → Nat) (l : List Nat) : Nat := match l with
  | [] => 0
  | c :: l => l.foldl (fun m c => min m (f c)) (f c)
theorem mn_0 {f : Nat → Nat} : ∀ (l : List Nat) (a : Nat), (a = 0 ∨ ∃ c, c ∈ l ∧ f c = 0) → l.foldl (fun m c => min m (f c)) a = 0 := by
  intro l
  induction l with
  | nil =>
    intro a h
    rcases h with h | ⟨c, h, _⟩
    · exact h
    · cases h
  | cons x l ih =>
    intro a h
    rw [List.foldl_cons]
    apply ih
    rcases h with h | ⟨c, h, e⟩
    · left; omega
    · rcases List.mem_cons.mp h with r | r
      · left; subst r; omega
      · right; exact ⟨c, r, e⟩
theorem ln_min (h : py_ok P) {n : Nat} (hn : py_dm P n) (hk : py_kd P n = 3) : py_ln P n = py_mn (py_ln P) (py_ks P n) := by
  cases hu : py_nu P n with
  | true =>
    have hu2 := hu
    rw [nu_eq h hn] at hu2
    unfold py_ng at hu2
    rw [if_neg (by omega), if_neg (by omega), if_pos hk, List.any_eq_true] at hu2
    obtain ⟨c, hc, hcu⟩ := hu2
    have hc0 : py_ln P c = 0 := by
      unfold py_ln
      rw [wd_nu h (ok_kid h hn hc) hcu]
      rfl
    unfold py_ln at *
    rw [wd_nu h hn hu]
    unfold py_mn
    cases e : py_ks P n with
    | nil => rw [e] at hc; cases hc
    | cons x l =>
      rw [e] at hc
      refine (mn_0 _ _ ?_).symm
      rcases List.mem_cons.mp hc with r | r
      · left; subst r; exact hc0
      · right; exact ⟨c, r, hc0⟩
  | false =>
    unfold py_ln
    rw [wd_eq h hn]
    unfold py_wg
    rw [if_neg (by rw [hu]; simp), if_neg (by omega), if_neg (by omega), if_pos hk]
    unfold py_bst py_mn
    cases py_ks P n with
    | nil => rfl
    | cons x l => exact bst_min l _
theorem ln_cnt (h : py_ok P) {n c : Nat} (hn : py_dm P n) (hk : py_kd P n = 5) (hc : py_ks P n = [c]) : py_ln P n = if py_nu P n then 0 else py_ln P c * max 1 (py_fr P (py_nb P n)) := by
  cases hu : py_nu P n with
  | true =>
    unfold py_ln
    rw [wd_nu h hn hu]
    rfl
  | false =>
    unfold py_ln
    rw [wd_eq h hn]
    unfold py_wg
    rw [if_neg (by rw [hu]; simp), if_neg (by omega), if_neg (by omega), if_neg (by omega), if_neg (by omega), if_pos hk, hc]
    simp [Nat.mul_comm]
theorem nu_cnt (h : py_ok P) {n c : Nat} (hn : py_dm P n) (hk : py_kd P n = 5) (hc : py_ks P n = [c]) : py_nu P n = (decide (py_fr P (py_nb P n) = 0) || py_nu P c) := by
  rw [nu_eq h hn]
  unfold py_ng
  rw [if_neg (by omega), if_neg (by omega), if_neg (by omega)]
  by_cases e : py_fr P (py_nb P n) = 0
  · rw [if_pos ⟨hk, e⟩, decide_eq_true e]; rfl
  · rw [if_neg (fun x => e x.2), decide_eq_false e, hc]; simp
theorem nu_all (h : py_ok P) {n : Nat} (hn : py_dm P n) (hk : py_kd P n = 2 ∨ py_kd P n = 4) : py_nu P n = (py_ks P n).all (py_nu P) := by
  rw [nu_eq h hn]
  unfold py_ng
  rw [if_neg (by omega), if_neg (by omega), if_neg (by omega), if_neg (by omega)]
theorem nu_any (h : py_ok P) {n : Nat} (hn : py_dm P n) (hk : py_kd P n = 3) : py_nu P n = (py_ks P n).any (py_nu P) := by
  rw [nu_eq h hn]
  unfold py_ng
  rw [if_neg (by omega), if_neg (by omega), if_pos hk]
/-- longest, in one go -/
def py_lo1 (k : Nat) (a v : Option Nat) : Option Nat := match a with
  | none => none
  | some x => match v with
    | none => none
    | some y => some (if k = 3 then max x y else x + y)
theorem lo1_none (k : Nat) (f : Nat → Option Nat) : ∀ l : List Nat, l.foldl (fun a c => py_lo1 k a (f c)) none = none := by
  intro l
  induction l with
  | nil => rfl
  | cons c l ih => rw [List.foldl_cons]; exact ih
theorem lo1_lgf (k : Nat) (f : Nat → Option Nat) : ∀ (l : List Nat) (a : Nat), l.foldl (fun a c => py_lo1 k a (f c)) (some a) = py_lgf k f a l := by
  intro l
  induction l with
  | nil => intro a; rfl
  | cons c l ih =>
    intro a
    rw [List.foldl_cons]
    unfold py_lgf
    cases e : f c with
    | none => exact lo1_none k f l
    | some v => exact ih _
/-! how many readings of 1 .. 4 letters -/
abbrev yv : Type := Nat → Int32
def py_st : yv := fun n => if n = 0 then 1 else 0
def py_cv (row rd : yv) (n : Nat) (a : Int32) : Int32 := (List.range' 1 n).foldl (fun s k => s + row (n - k) * rd k) a
def py_mul (row rd : yv) (e : Bool) : yv := fun n => py_cv row rd n (if e then row n else 0)
def py_anr (rows : Nat → yv) (rd : yv) (e : Bool) : Nat → yv := fun i n => if i = 0 ∨ n = 0 then (if e then rows i n else 0) else py_cv (rows (i - 1)) rd n (if e then rows i n else 0)
def py_an0 : Nat → yv := fun i => if i = 0 then py_st else fun _ => 0
def py_anf (rows : Nat → yv) : yv := fun k => 0 + rows 1 k * 1 + rows 2 k * 2 + rows 3 k * 6 + rows 4 k * 24
def py_cns (rd : yv) (few : Nat) (to : Option Nat) : Nat → Nat → yv × yv → yv × yv
  | 0, _, s => s
  | m + 1, t, s => if (∀ x, to = some x → t ≤ x) then py_cns rd few to m (t + 1) (py_mul s.1 rd false, if few ≤ t then (fun k => s.2 k + py_mul s.1 rd false k * 1) else s.2) else s
def py_few (P : yP) (c : Nat) : Nat := if py_fr P c = 0 ∨ (py_ks P (py_cn P c)).all (py_nu P) = true then 1 else py_fr P c
def py_rdg (P : yP) (f : Nat → yv) (n : Nat) : yv := if py_kd P n = 0 then (fun k => if k = 1 then 1 else 0) else if py_kd P n = 1 then (fun _ => 0) else if py_kd P n = 2 then (fun k => 0 + (py_ks P n).foldl (fun row c => py_mul row (f c) (py_nu P c)) py_st k * 1) else if py_kd P n = 3 then (fun k => (py_ks P n).foldl (fun s c => s + f c k) 0) else if py_kd P n = 4 then py_anf ((py_ks P n).foldl (fun rows c => py_anr rows (f c) (py_nu P c)) py_an0) else (py_cns (match (py_ks P n).head? with
  | none => fun _ => 0
  | some c => f c) (py_few P (py_nb P n)) (py_to P (py_nb P n)) 4 1 (py_st, fun _ => 0)).2
def py_rd (P : yP) : Nat → yv := py_tr P (fun _ => 0) (py_rdg P)
theorem pl_fold {α : Type} {l : List Nat} {F G : α → Nat → α} : (∀ c, c ∈ l → ∀ s, F s c = G s c) → ∀ s, l.foldl F s = l.foldl G s := by
  induction l with
  | nil => intro _ s; rfl
  | cons c l ih =>
    intro h s
    rw [List.foldl_cons, List.foldl_cons, h c List.mem_cons_self]
    exact ih (fun x hx => h x (List.mem_cons_of_mem _ hx)) _
theorem rd_eq (h : py_ok P) {n : Nat} (hn : py_dm P n) : py_rd P n = py_rdg P (py_rd P) n := by
  refine tr_eq h ?_ hn
  intro a b n _ hc
  unfold py_rdg
  rw [pl_fold (F := fun row c => py_mul row (a c) (py_nu P c)) (G := fun row c => py_mul row (b c) (py_nu P c)) (fun c hcc s => by rw [hc c hcc]), pl_fold (F := fun rows c => py_anr rows (a c) (py_nu P c)) (G := fun rows c => py_anr rows (b c) (py_nu P c)) (fun c hcc s => by rw [hc c hcc])]
  have e3 : (fun k => (py_ks P n).foldl (fun s c => s + a c k) 0) = (fun k => (py_ks P n).foldl (fun s c => s + b c k) 0) := by
    funext k
    exact pl_fold (fun c hcc s => by rw [hc c hcc]) 0
  rw [e3]
  cases e : py_ks P n with
  | nil => rfl
  | cons x l =>
    have : a x = b x := hc x (by rw [e]; simp)
    simp only [List.head?_cons, this]
end
