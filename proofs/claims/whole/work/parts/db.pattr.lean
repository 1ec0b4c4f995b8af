/-! WHAT IS KNOWN OF A NODE, from its kids up -/
def py_la (P : yP) (n x : Nat) : Bool := py_ur P (fun k o => k == n || (py_pst P k && o.getD false)) x
def py_lal (P : yP) (n : Nat) : List Nat := (List.range' 0 (py_nl P)).filter (fun q => py_la P n (py_lf P q))
section
variable {P : yP}
theorem fx_self (h : py_ok P) {n : Nat} (hn : py_dm P n) : py_fx P n n = true := by
  unfold py_fx
  rw [ur_eq h hn]
  simp
theorem fx_up (h : py_ok P) {n x p : Nat} (hx : py_dm P x) (e : py_up P x = some p) (hne : x ≠ n) : py_fx P n x = (py_pre P x && py_fx P n p) := by
  show py_ur P _ x = (_ && py_ur P _ p)
  rw [ur_up h hx e]
  have : (x == n) = false := by simpa using hne
  rw [this]
  rfl
theorem la_self (h : py_ok P) {n : Nat} (hn : py_dm P n) : py_la P n n = true := by
  unfold py_la
  rw [ur_eq h hn]
  simp
theorem la_up (h : py_ok P) {n x p : Nat} (hx : py_dm P x) (e : py_up P x = some p) (hne : x ≠ n) : py_la P n x = (py_pst P x && py_la P n p) := by
  show py_ur P _ x = (_ && py_ur P _ p)
  rw [ur_up h hx e]
  have : (x == n) = false := by simpa using hne
  rw [this]
  rfl
theorem la_rt0 (h : py_ok P) {n : Nat} (hne : py_rt P ≠ n) : py_la P n (py_rt P) = false := by
  unfold py_la
  rw [ur_rt h]
  have : (py_rt P == n) = false := by simpa using hne
  rw [this]
  simp
theorem wi_ne (h : py_ok P) {n c x : Nat} (hn : py_dm P n) (hc : c ∈ py_ks P n) (hx : py_dm P x) (hw : py_wi P c x = true) : x ≠ n := by
  intro e
  subst e
  have h1 := wi_hg h _ hx hw
  have h2 := ok_khg h hn hc
  omega
theorem fx_kid (h : py_ok P) {n c : Nat} (hn : py_dm P n) (hc : c ∈ py_ks P n) : ∀ x, py_dm P x → py_wi P c x = true → py_fx P n x = (py_pre P c && py_fx P c x) := by
  have hcd := ok_kid h hn hc
  have hcu := ok_kup h hn hc
  refine ok_climb h _ ?_ ?_
  · intro hw
    by_cases q : py_rt P = c
    · rw [← q, ok_up0 h] at hcu
      cases hcu
    · rw [wi_rt h q] at hw; cases hw
  · intro x p hx e ih hw
    have hne := wi_ne h hn hc hx hw
    by_cases q : x = c
    · subst q
      rw [hcu] at e
      injection e with e
      subst e
      rw [fx_up h hx hcu hne, fx_self h hn, fx_self h hx]
    · rw [wi_up h hx e q] at hw
      rw [fx_up h hx e hne, fx_up h hx e q, ih hw]
      cases py_pre P x <;> cases py_pre P c <;> rfl
theorem la_kid (h : py_ok P) {n c : Nat} (hn : py_dm P n) (hc : c ∈ py_ks P n) : ∀ x, py_dm P x → py_wi P c x = true → py_la P n x = (py_pst P c && py_la P c x) := by
  have hcd := ok_kid h hn hc
  have hcu := ok_kup h hn hc
  refine ok_climb h _ ?_ ?_
  · intro hw
    by_cases q : py_rt P = c
    · rw [← q, ok_up0 h] at hcu
      cases hcu
    · rw [wi_rt h q] at hw; cases hw
  · intro x p hx e ih hw
    have hne := wi_ne h hn hc hx hw
    by_cases q : x = c
    · subst q
      rw [hcu] at e
      injection e with e
      subst e
      rw [la_up h hx hcu hne, la_self h hn, la_self h hx]
    · rw [wi_up h hx e q] at hw
      rw [la_up h hx e hne, la_up h hx e q, ih hw]
      cases py_pst P x <;> cases py_pst P c <;> rfl
theorem la_wi (h : py_ok P) {n : Nat} : ∀ x, py_dm P x → py_la P n x = true → py_wi P n x = true := by
  refine ok_climb h _ ?_ ?_
  · intro hw
    by_cases q : py_rt P = n
    · rw [← q]; exact wi_self h (ok_rt h)
    · rw [la_rt0 h q] at hw; cases hw
  · intro x p hx e ih hw
    by_cases q : x = n
    · subst q; exact wi_self h hx
    · rw [la_up h hx e q, Bool.and_eq_true] at hw
      exact wi_par h hx e (ih hw.2)
/-- last in the whole -/
theorem lx_la (h : py_ok P) : ∀ x, py_dm P x → py_lx P x = py_la P (py_rt P) x := by
  refine ok_climb h _ ?_ ?_
  · rw [la_self h (ok_rt h)]
    unfold py_lx
    rw [ur_rt h]
    have : py_pst P (py_rt P) = true := by
      unfold py_pst
      rw [ok_up0 h]
    rw [this]
    rfl
  · intro x p hx e ih
    have hne : x ≠ py_rt P := fun q => by rw [q, ok_up0 h] at e; cases e
    rw [la_up h hx e hne, ← ih]
    show py_ur P _ x = (_ && py_ur P _ p)
    rw [ur_up h hx e]
    rfl
/-- a letter within a node that holds others is within one of them -/
theorem lf_kid (h : py_ok P) {n q : Nat} (hn : py_dm P n) (hk : 2 ≤ py_kd P n) (hq : q < py_nl P) (hw : py_wi P n (py_lf P q) = true) : ∃ c, c ∈ py_ks P n ∧ py_wi P c (py_lf P q) = true := by
  rcases wi_in h _ (ok_lf h hq) hw with e | e
  · have := ok_lfk h hq
    rw [e] at this
    omega
  · exact e
theorem mem_fl {n q : Nat} : q ∈ py_fl P n ↔ q < py_nl P ∧ py_fx P n (py_lf P q) = true := by
  unfold py_fl
  rw [List.mem_filter, List.mem_range'_1]
  constructor
  · intro ⟨h1, h2⟩; exact ⟨by omega, h2⟩
  · intro ⟨h1, h2⟩; exact ⟨by omega, h2⟩
theorem mem_lal {n q : Nat} : q ∈ py_lal P n ↔ q < py_nl P ∧ py_la P n (py_lf P q) = true := by
  unfold py_lal
  rw [List.mem_filter, List.mem_range'_1]
  constructor
  · intro ⟨h1, h2⟩; exact ⟨by omega, h2⟩
  · intro ⟨h1, h2⟩; exact ⟨by omega, h2⟩
theorem mem_in {n q : Nat} : q ∈ py_in P n ↔ q < py_nl P ∧ py_wi P n (py_lf P q) = true := by
  unfold py_in
  rw [List.mem_filter, List.mem_range'_1]
  constructor
  · intro ⟨h1, h2⟩; exact ⟨by omega, h2⟩
  · intro ⟨h1, h2⟩; exact ⟨by omega, h2⟩
theorem fl_32 (h : py_ok P) {n : Nat} : ∀ q, q ∈ py_fl P n → q < 32 := fun q hq => by
  have := (mem_fl.mp hq).1
  have := ok_nl h
  omega
theorem lal_32 (h : py_ok P) {n : Nat} : ∀ q, q ∈ py_lal P n → q < 32 := fun q hq => by
  have := (mem_lal.mp hq).1
  have := ok_nl h
  omega
theorem in_32 (h : py_ok P) {n : Nat} : ∀ q, q ∈ py_in P n → q < 32 := fun q hq => by
  have := (mem_in.mp hq).1
  have := ok_nl h
  omega
theorem pre_no (h : py_ok P) {n c : Nat} (hn : py_dm P n) (hc : c ∈ py_ks P n) (hk : py_kd P n ≠ 2) : py_pre P c = true ∧ py_pst P c = true := by
  unfold py_pre py_pst
  rw [ok_kup h hn hc]
  exact ⟨if_neg hk, if_neg hk⟩
theorem pre_row (h : py_ok P) {n c : Nat} (hn : py_dm P n) {a b : List Nat} (e : py_ks P n = a ++ c :: b) (hk : py_kd P n = 2) : py_pre P c = a.all (py_nu P) ∧ py_pst P c = b.all (py_nu P) := by
  have hc : c ∈ py_ks P n := by rw [e]; simp
  have hnd := ok_nd h hn
  rw [e] at hnd
  have hca : ¬ c ∈ a := by
    rw [List.nodup_append] at hnd
    intro x
    exact hnd.2.2 c x c (by simp) rfl
  have g := bf_eq (b := b) hca
  unfold py_pre py_pst
  rw [ok_kup h hn hc]
  dsimp only
  rw [if_pos hk, if_pos hk, e, g.1, g.2]
  exact ⟨rfl, rfl⟩
theorem fl_kids (h : py_ok P) {n : Nat} (hn : py_dm P n) (hk : 2 ≤ py_kd P n) (hk2 : py_kd P n ≠ 2) (q : Nat) : q ∈ py_fl P n ↔ ∃ c, c ∈ py_ks P n ∧ q ∈ py_fl P c := by
  rw [mem_fl]
  constructor
  · intro ⟨h1, h2⟩
    have hw : py_wi P n (py_lf P q) = true := by
      cases hw : py_wi P n (py_lf P q) with
      | true => rfl
      | false => rw [fx_wi h _ (ok_lf h h1) hw] at h2; cases h2
    obtain ⟨c, hc, hwc⟩ := lf_kid h hn hk h1 hw
    rw [fx_kid h hn hc _ (ok_lf h h1) hwc, Bool.and_eq_true] at h2
    exact ⟨c, hc, mem_fl.mpr ⟨h1, h2.2⟩⟩
  · intro ⟨c, hc, hq⟩
    obtain ⟨h1, h2⟩ := mem_fl.mp hq
    have hw : py_wi P c (py_lf P q) = true := by
      cases hw : py_wi P c (py_lf P q) with
      | true => rfl
      | false => rw [fx_wi h _ (ok_lf h h1) hw] at h2; cases h2
    refine ⟨h1, ?_⟩
    rw [fx_kid h hn hc _ (ok_lf h h1) hw, (pre_no h hn hc hk2).1, h2]
    rfl
theorem lal_kids (h : py_ok P) {n : Nat} (hn : py_dm P n) (hk : 2 ≤ py_kd P n) (hk2 : py_kd P n ≠ 2) (q : Nat) : q ∈ py_lal P n ↔ ∃ c, c ∈ py_ks P n ∧ q ∈ py_lal P c := by
  rw [mem_lal]
  constructor
  · intro ⟨h1, h2⟩
    obtain ⟨c, hc, hwc⟩ := lf_kid h hn hk h1 (la_wi h _ (ok_lf h h1) h2)
    rw [la_kid h hn hc _ (ok_lf h h1) hwc, Bool.and_eq_true] at h2
    exact ⟨c, hc, mem_lal.mpr ⟨h1, h2.2⟩⟩
  · intro ⟨c, hc, hq⟩
    obtain ⟨h1, h2⟩ := mem_lal.mp hq
    refine ⟨h1, ?_⟩
    rw [la_kid h hn hc _ (ok_lf h h1) (la_wi h _ (ok_lf h h1) h2), (pre_no h hn hc hk2).2, h2]
    rfl
theorem in_kids (h : py_ok P) {n : Nat} (hn : py_dm P n) (hk : 2 ≤ py_kd P n) (q : Nat) : q ∈ py_in P n ↔ ∃ c, c ∈ py_ks P n ∧ q ∈ py_in P c := by
  rw [mem_in]
  constructor
  · intro ⟨h1, h2⟩
    obtain ⟨c, hc, hwc⟩ := lf_kid h hn hk h1 h2
    exact ⟨c, hc, mem_in.mpr ⟨h1, hwc⟩⟩
  · intro ⟨c, hc, hq⟩
    obtain ⟨h1, h2⟩ := mem_in.mp hq
    exact ⟨h1, wi_kid h hn hc _ (ok_lf h h1) h2⟩
theorem fl_row (h : py_ok P) {n : Nat} (hn : py_dm P n) (hk2 : py_kd P n = 2) (q : Nat) : q ∈ py_fl P n ↔ ∃ a c b, py_ks P n = a ++ c :: b ∧ a.all (py_nu P) = true ∧ q ∈ py_fl P c := by
  rw [mem_fl]
  constructor
  · intro ⟨h1, h2⟩
    have hw : py_wi P n (py_lf P q) = true := by
      cases hw : py_wi P n (py_lf P q) with
      | true => rfl
      | false => rw [fx_wi h _ (ok_lf h h1) hw] at h2; cases h2
    obtain ⟨c, hc, hwc⟩ := lf_kid h hn (by omega) h1 hw
    obtain ⟨a, b, e⟩ := List.append_of_mem hc
    rw [fx_kid h hn hc _ (ok_lf h h1) hwc, Bool.and_eq_true, (pre_row h hn e hk2).1] at h2
    exact ⟨a, c, b, e, h2.1, mem_fl.mpr ⟨h1, h2.2⟩⟩
  · intro ⟨a, c, b, e, ha, hq⟩
    have hc : c ∈ py_ks P n := by rw [e]; simp
    obtain ⟨h1, h2⟩ := mem_fl.mp hq
    have hw : py_wi P c (py_lf P q) = true := by
      cases hw : py_wi P c (py_lf P q) with
      | true => rfl
      | false => rw [fx_wi h _ (ok_lf h h1) hw] at h2; cases h2
    refine ⟨h1, ?_⟩
    rw [fx_kid h hn hc _ (ok_lf h h1) hw, (pre_row h hn e hk2).1, h2, ha]
    rfl
theorem lal_row (h : py_ok P) {n : Nat} (hn : py_dm P n) (hk2 : py_kd P n = 2) (q : Nat) : q ∈ py_lal P n ↔ ∃ a c b, py_ks P n = a ++ c :: b ∧ b.all (py_nu P) = true ∧ q ∈ py_lal P c := by
  rw [mem_lal]
  constructor
  · intro ⟨h1, h2⟩
    obtain ⟨c, hc, hwc⟩ := lf_kid h hn (by omega) h1 (la_wi h _ (ok_lf h h1) h2)
    obtain ⟨a, b, e⟩ := List.append_of_mem hc
    rw [la_kid h hn hc _ (ok_lf h h1) hwc, Bool.and_eq_true, (pre_row h hn e hk2).2] at h2
    exact ⟨a, c, b, e, h2.1, mem_lal.mpr ⟨h1, h2.2⟩⟩
  · intro ⟨a, c, b, e, ha, hq⟩
    have hc : c ∈ py_ks P n := by rw [e]; simp
    obtain ⟨h1, h2⟩ := mem_lal.mp hq
    refine ⟨h1, ?_⟩
    rw [la_kid h hn hc _ (ok_lf h h1) (la_wi h _ (ok_lf h h1) h2), (pre_row h hn e hk2).2, h2, ha]
    rfl
/-! as the loops gather them -/
/-- all of them -/
def py_go1 (F : Nat → List Nat) (l : List Nat) (a : Int32) : Int32 := l.foldl (fun a c => a ||| zor (F c)) a
theorem go1_bt {F : Nat → List Nat} {i : Nat} (hi : i < 32) : ∀ (l : List Nat) (a : Int32), (∀ c, c ∈ l → ∀ q, q ∈ F c → q < 32) → zbt (py_go1 F l a) i = (zbt a i || l.any (fun c => (F c).contains i)) := by
  intro l
  induction l with
  | nil => intro a _; simp [py_go1]
  | cons c l ih =>
    intro a h
    have := ih (a ||| zor (F c)) (fun x hx => h x (List.mem_cons_of_mem _ hx))
    unfold py_go1 at this ⊢
    rw [List.foldl_cons, this, zy_or, zor_bt (h c List.mem_cons_self) hi, List.any_cons, Bool.or_assoc]
theorem go1_eq {F : Nat → List Nat} {l L : List Nat} (hF : ∀ c, c ∈ l → ∀ q, q ∈ F c → q < 32) (hL : ∀ q, q ∈ L → q < 32) (e : ∀ q, q ∈ L ↔ ∃ c, c ∈ l ∧ q ∈ F c) : py_go1 F l 0 = zor L := by
  apply zy_ext
  intro i hi
  rw [go1_bt hi _ _ hF, zy_0, zor_bt hL hi, Bool.false_or, Bool.eq_iff_iff, List.any_eq_true, List.contains_iff_mem, e i]
  constructor
  · intro ⟨c, h1, h2⟩; exact ⟨c, h1, by simpa using h2⟩
  · intro ⟨c, h1, h2⟩; exact ⟨c, h1, by simpa using h2⟩
/-- as far as what is ahead may be empty -/
def py_go2 (nu : Nat → Bool) (F : Nat → List Nat) : List Nat → Bool → Int32 → Int32
  | [], _, a => a
  | c :: l, g, a => py_go2 nu F l (g && nu c) (if g then a ||| zor (F c) else a)
/-- what may all be empty behind it -/
def py_go3 (nu : Nat → Bool) (F : Nat → List Nat) : List Nat → Int32 → Int32
  | [], a => a
  | c :: l, a => py_go3 nu F l (if nu c then a ||| zor (F c) else zor (F c))
def py_g2b (nu : Nat → Bool) (F : Nat → List Nat) (i : Nat) : List Nat → Bool
  | [] => false
  | c :: l => (F c).contains i || (nu c && py_g2b nu F i l)
def py_g3b (nu : Nat → Bool) (F : Nat → List Nat) (i : Nat) : List Nat → Bool
  | [] => false
  | c :: l => (l.all nu && (F c).contains i) || py_g3b nu F i l
theorem g2b_iff {nu : Nat → Bool} {F : Nat → List Nat} {i : Nat} : ∀ l, py_g2b nu F i l = true ↔ ∃ a c b, l = a ++ c :: b ∧ a.all nu = true ∧ i ∈ F c := by
  intro l
  induction l with
  | nil =>
    constructor
    · intro h; cases h
    · intro ⟨a, c, b, e, _⟩; cases a <;> cases e
  | cons x l ih =>
    show ((F x).contains i || (nu x && py_g2b nu F i l)) = true ↔ _
    rw [Bool.or_eq_true, Bool.and_eq_true, ih]
    constructor
    · intro h
      rcases h with h | ⟨h1, a, c, b, e, h2, h3⟩
      · exact ⟨[], x, l, rfl, rfl, by simpa using h⟩
      · exact ⟨x :: a, c, b, by rw [e]; rfl, by rw [List.all_cons, h1, h2]; rfl, h3⟩
    · intro ⟨a, c, b, e, h2, h3⟩
      cases a with
      | nil =>
        injection e with e1 e2
        subst e1
        exact .inl (by simpa using h3)
      | cons y a =>
        injection e with e1 e2
        subst e1
        rw [List.all_cons, Bool.and_eq_true] at h2
        exact .inr ⟨h2.1, a, c, b, e2, h2.2, h3⟩
theorem g3b_iff {nu : Nat → Bool} {F : Nat → List Nat} {i : Nat} : ∀ l, py_g3b nu F i l = true ↔ ∃ a c b, l = a ++ c :: b ∧ b.all nu = true ∧ i ∈ F c := by
  intro l
  induction l with
  | nil =>
    constructor
    · intro h; cases h
    · intro ⟨a, c, b, e, _⟩; cases a <;> cases e
  | cons x l ih =>
    show ((l.all nu && (F x).contains i) || py_g3b nu F i l) = true ↔ _
    rw [Bool.or_eq_true, Bool.and_eq_true, ih]
    constructor
    · intro h
      rcases h with ⟨h1, h2⟩ | ⟨a, c, b, e, h2, h3⟩
      · exact ⟨[], x, l, rfl, h1, by simpa using h2⟩
      · exact ⟨x :: a, c, b, by rw [e]; rfl, h2, h3⟩
    · intro ⟨a, c, b, e, h2, h3⟩
      cases a with
      | nil =>
        injection e with e1 e2
        subst e1
        subst e2
        exact .inl ⟨h2, by simpa using h3⟩
      | cons y a =>
        injection e with e1 e2
        exact .inr ⟨a, c, b, e2, h2, h3⟩
theorem go2_bt {nu : Nat → Bool} {F : Nat → List Nat} {i : Nat} (hi : i < 32) : ∀ (l : List Nat) (g : Bool) (a : Int32), (∀ c, c ∈ l → ∀ q, q ∈ F c → q < 32) → zbt (py_go2 nu F l g a) i = (zbt a i || (g && py_g2b nu F i l)) := by
  intro l
  induction l with
  | nil => intro g a _; simp [py_go2, py_g2b]
  | cons c l ih =>
    intro g a h
    rw [py_go2, ih _ _ (fun x hx => h x (List.mem_cons_of_mem _ hx))]
    cases g
    · simp
    · simp only [if_true, zy_or, zor_bt (h c List.mem_cons_self) hi, py_g2b, Bool.true_and, Bool.or_assoc]
theorem go3_bt {nu : Nat → Bool} {F : Nat → List Nat} {i : Nat} (hi : i < 32) : ∀ (l : List Nat) (a : Int32), (∀ c, c ∈ l → ∀ q, q ∈ F c → q < 32) → zbt (py_go3 nu F l a) i = ((l.all nu && zbt a i) || py_g3b nu F i l) := by
  intro l
  induction l with
  | nil => intro a _; simp [py_go3, py_g3b]
  | cons c l ih =>
    intro a h
    rw [py_go3, ih _ (fun x hx => h x (List.mem_cons_of_mem _ hx)), py_g3b, List.all_cons]
    cases nu c
    · simp only [Bool.false_eq_true, if_false, zor_bt (h c List.mem_cons_self) hi, Bool.false_and, Bool.false_or]
    · simp only [if_true, zy_or, zor_bt (h c List.mem_cons_self) hi, Bool.true_and]
      cases l.all nu <;> cases zbt a i <;> cases (F c).contains i <;> cases py_g3b nu F i l <;> rfl
theorem go2_eq (h : py_ok P) {n : Nat} (hn : py_dm P n) (hk2 : py_kd P n = 2) : py_go2 (py_nu P) (py_fl P) (py_ks P n) true 0 = zor (py_fl P n) := by
  apply zy_ext
  intro i hi
  rw [go2_bt hi _ _ _ (fun c _ => fl_32 h), zy_0, zor_bt (fl_32 h) hi, Bool.false_or, Bool.true_and, Bool.eq_iff_iff, g2b_iff, List.contains_iff_mem, fl_row h hn hk2]
theorem go3_eq (h : py_ok P) {n : Nat} (hn : py_dm P n) (hk2 : py_kd P n = 2) : py_go3 (py_nu P) (py_lal P) (py_ks P n) 0 = zor (py_lal P n) := by
  apply zy_ext
  intro i hi
  rw [go3_bt hi _ _ (fun c _ => lal_32 h), zy_0, zor_bt (lal_32 h) hi, Bool.and_false, Bool.false_or, Bool.eq_iff_iff, g3b_iff, List.contains_iff_mem, lal_row h hn hk2]
end
