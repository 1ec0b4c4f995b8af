/-! NUMBERS OF RUNS of a node, from its kids -/
def py_ps2 (P : yP) (p : Nat) (s : yS) (c : Nat) : yS := (none, fun k => if py_kd P p = 5 ∧ k = py_nb P p then s.2.1 k + 1 else 0, fun a => if py_kd P p = 4 ∧ a = py_nb P p then s.2.2 a ||| zbit (py_bf (py_ks P p) c).length else 0)
def py_f0 (P : yP) (p c : Nat) : yS := (none, fun _ => 1, fun _ => zbit (py_bf (py_ks P p) c).length)
def py_Rr (P : yP) : List Nat → yN
  | [] => nv_1
  | c :: l => fun n => cv (py_N P c) (py_Rr P l) n + (if py_nu P c then py_Rr P l n else 0)
section
variable {P : yP} {s t : yS}
theorem fx_in (hP : py_ok P) {n : Nat} : ∀ x, py_dm P x → py_fx P n x = true → py_wi P n x = true := by
  intro x hx h
  cases hw : py_wi P n x with
  | true => rfl
  | false => rw [fx_wi hP x hx hw] at h; cases h
theorem N_0 (x : Nat) : py_N P x 0 = 0 := rfl
theorem cv_N (x k : Nat) (g : yN) : cv (py_N P x) g (k + 1) = cv (fun i => py_N P x (i + 1)) g k := by
  show 0 * g (k + 1) + cv (fun i => py_N P x (i + 1)) g k = _
  rw [Nat.zero_mul, Nat.zero_add]
theorem cv_N0 (x : Nat) (g : yN) : cv (py_N P x) g 0 = 0 := Nat.zero_mul _
/-- all ways into c -/
theorem il_F (hP : py_ok P) {p c : Nat} (hp : py_dm P p) (hc : c ∈ py_ks P p) {b : Option Nat} (j : Nat) : sl (fun W => py_F P p j (py_ov P p s W)) (py_il P (some p) c b) = cv (py_N P c) (py_J P p c (py_ps2 P p s c)) (j + 1) := by
  have hdc := ok_kid hP hp hc
  have e := ok_kup hP hp hc
  have hpc : py_wi P c p = false := by
    cases hq : py_wi P c p with
    | false => rfl
    | true =>
      have := (wi_hg hP p hp hq).1
      have := ok_khg hP hp hc
      omega
  rw [cv_N]
  have hN : ∀ i, py_N P c (i + 1) = sl (fun q => py_F P c i (py_S P q)) (py_fl P c) := fun i => rfl
  rw [cv_ext (g' := py_J P p c (py_ps2 P p s c)) j (fun i _ => hN i) (fun i _ => rfl), cv_sl]
  unfold py_il
  rw [sl_map]
  refine sl_ext ?_
  intro q hq
  obtain ⟨q1, q2⟩ := mem_fl.mp hq
  have hqc : py_wi P c (py_lf P q) = true := fx_in hP (py_lf P q) (ok_lf hP q1) q2
  rw [F_cv hP hdc e j (py_ov P p s (q, b, some p, c)) q rfl q1 hqc]
  refine cv_ext j (fun i _ => ?_) (fun i _ => ?_)
  · refine F_sg hP i _ _ q ?_ rfl q1 hqc
    refine ⟨rfl, ?_⟩
    intro o ho
    have ho : some q = some o := ho
    injection ho with ho
    subst ho
    refine ⟨?_, ?_⟩
    · intro k hk hck hw
      show (if py_kd P p = 5 ∧ k = py_nb P p then s.2.1 k + 1 else (py_S P q).2.1 k) = (py_S P q).2.1 k
      rw [if_neg]
      rintro ⟨h5, hkn⟩
      have := (ok_k5 hP hp h5).2.2
      rw [← hkn] at this
      rw [this, hpc] at hck
      cases hck
    · intro a ha hca hw
      show (if py_kd P p = 4 ∧ a = py_nb P p then _ else (py_S P q).2.2 a) = (py_S P q).2.2 a
      rw [if_neg]
      rintro ⟨h4, han⟩
      have := (ok_k4 hP hp h4).2.2.2
      rw [← han] at this
      rw [this, hpc] at hca
      cases hca
  · refine J_ext hP hdc e ?_ ?_ i
    · intro h5
      show (if py_kd P p = 5 ∧ py_nb P p = py_nb P p then s.2.1 (py_nb P p) + 1 else _) = (if py_kd P p = 5 ∧ py_nb P p = py_nb P p then s.2.1 (py_nb P p) + 1 else 0)
      rw [if_pos ⟨h5, rfl⟩, if_pos ⟨h5, rfl⟩]
    · intro h4
      show (if py_kd P p = 4 ∧ py_nb P p = py_nb P p then s.2.2 (py_nb P p) ||| zbit (py_bf (py_ks P p) c).length else _) = (if py_kd P p = 4 ∧ py_nb P p = py_nb P p then s.2.2 (py_nb P p) ||| zbit (py_bf (py_ks P p) c).length else 0)
      rw [if_pos ⟨h4, rfl⟩, if_pos ⟨h4, rfl⟩]
theorem fl_N (hP : py_ok P) {p c : Nat} (hp : py_dm P p) (hc : c ∈ py_ks P p) (k : Nat) : sl (fun q => py_F P p k (py_S P q)) (py_fl P c) = cv (py_N P c) (py_J P p c (py_f0 P p c)) (k + 1) := by
  have hdc := ok_kid hP hp hc
  have e := ok_kup hP hp hc
  rw [cv_N]
  have hN : ∀ i, py_N P c (i + 1) = sl (fun q => py_F P c i (py_S P q)) (py_fl P c) := fun i => rfl
  rw [cv_ext (g' := py_J P p c (py_f0 P p c)) k (fun i _ => hN i) (fun i _ => rfl), cv_sl]
  refine sl_ext ?_
  intro q hq
  obtain ⟨q1, q2⟩ := mem_fl.mp hq
  have hqc : py_wi P c (py_lf P q) = true := fx_in hP (py_lf P q) (ok_lf hP q1) q2
  rw [F_cv hP hdc e k (py_S P q) q rfl q1 hqc]
  refine cv_ext k (fun i _ => rfl) (fun i _ => ?_)
  refine J_ext (s := py_S P q) (t := py_f0 P p c) hP hdc e (fun _ => rfl) ?_ i
  intro h4
  exact S_beg hP q1 hdc e h4 hqc
theorem sl_if {α : Type} {h : α → Bool} {a : Nat} : ∀ (l : List α), l.Nodup → (∀ x y, x ∈ l → y ∈ l → h x = true → h y = true → x = y) → sl (fun x => if h x then a else 0) l = if l.any h then a else 0 := by
  intro l
  induction l with
  | nil => intro _ _; rfl
  | cons x l ih =>
    intro hn hu
    obtain ⟨n1, n2⟩ := List.nodup_cons.mp hn
    rw [sl_cons, ih n2 (fun y z hy hz => hu y z (List.mem_cons_of_mem _ hy) (List.mem_cons_of_mem _ hz)), List.any_cons]
    cases hx : h x with
    | false => simp
    | true =>
      have : l.any h = false := by
        rw [List.any_eq_false]
        intro y hy hhy
        have := hu x y List.mem_cons_self (List.mem_cons_of_mem _ hy) hx hhy
        rw [this] at n1
        exact n1 hy
      rw [this]
      simp
theorem sl_swap {α β : Type} (h : α → β → Nat) (l : List α) : ∀ (m : List β), sl (fun a => sl (fun b => h a b) m) l = sl (fun b => sl (fun a => h a b) l) m := by
  intro m
  induction m with
  | nil => exact sl_zero l
  | cons b m ih =>
    rw [sl_cons, ← ih, ← sl_add]
    exact sl_ext (fun a _ => sl_cons _ _ _)
theorem sl_filter {α : Type} (g : α → Nat) (h : α → Bool) : ∀ (l : List α), sl g (l.filter h) = sl (fun x => if h x then g x else 0) l := by
  intro l
  induction l with
  | nil => rfl
  | cons x l ih =>
    rw [sl_cons, List.filter_cons]
    cases hx : h x with
    | false => simp [ih]
    | true => simp [sl_cons, ih]
/-- first letters, kid by kid -/
theorem fl_sum (hP : py_ok P) {n : Nat} (hn : py_dm P n) {L : List Nat} (hnd : L.Nodup) (hL : ∀ c, c ∈ L → c ∈ py_ks P n) (hm : ∀ q, q ∈ py_fl P n ↔ ∃ c, c ∈ L ∧ q ∈ py_fl P c) (g : Nat → Nat) : sl g (py_fl P n) = sl (fun c => sl g (py_fl P c)) L := by
  have e1 : ∀ x, sl g (py_fl P x) = sl (fun q => if py_fx P x (py_lf P q) then g q else 0) (List.range' 0 (py_nl P)) := fun x => sl_filter g _ _
  rw [e1]
  have e2 : sl (fun c => sl g (py_fl P c)) L = sl (fun c => sl (fun q => if py_fx P c (py_lf P q) then g q else 0) (List.range' 0 (py_nl P))) L := sl_ext (fun c _ => e1 c)
  rw [e2, ← sl_swap]
  refine sl_ext ?_
  intro q hq
  rw [List.mem_range'_1] at hq
  have hq1 : q < py_nl P := by omega
  have hlf := ok_lf hP hq1
  rw [sl_if L hnd (by
    intro x y hx hy h1 h2
    exact wi_uniq hP hn (hL x hx) (hL y hy) _ hlf (fx_in hP _ hlf h1) (fx_in hP _ hlf h2))]
  have : py_fx P n (py_lf P q) = L.any (fun c => py_fx P c (py_lf P q)) := by
    rw [Bool.eq_iff_iff, List.any_eq_true]
    have := hm q
    rw [mem_fl] at this
    constructor
    · intro h
      obtain ⟨c, hc, hqc⟩ := this.mp ⟨hq1, h⟩
      exact ⟨c, hc, (mem_fl.mp hqc).2⟩
    · rintro ⟨c, hc, hqc⟩
      exact (this.mpr ⟨c, hc, mem_fl.mpr ⟨hq1, hqc⟩⟩).2
  rw [this]
theorem N_leaf (hP : py_ok P) {n : Nat} (hn : py_dm P n) (hk : py_kd P n = 0) (k : Nat) : py_N P n k = if k = 1 then 1 else 0 := by
  obtain ⟨k1, k2, k3, k4, k5⟩ := ok_k0 hP hn hk
  have hfl : py_fl P n = [py_nb P n] := by
    have hmem : ∀ q, q ∈ py_fl P n ↔ q = py_nb P n := by
      intro q
      rw [mem_fl]
      constructor
      · rintro ⟨q1, q2⟩
        have hw := fx_in hP _ (ok_lf hP q1) q2
        rcases wi_in hP _ (ok_lf hP q1) hw with h | ⟨c, hc, _⟩
        · rw [← ok_lfn hP q1, h]
        · rw [k1] at hc; cases hc
      · intro h
        subst h
        exact ⟨k2, by rw [k3]; exact fx_self hP hn⟩
    have hpw : (py_fl P n).Pairwise (· < ·) := List.Pairwise.filter _ (List.pairwise_lt_range')
    cases hl : py_fl P n with
    | nil =>
      have := (hmem (py_nb P n)).mpr rfl
      rw [hl] at this
      cases this
    | cons a l =>
      rw [hl] at hpw
      have ha := (hmem a).mp (by rw [hl]; simp)
      cases l with
      | nil => rw [ha]
      | cons b l =>
        have hb := (hmem b).mp (by rw [hl]; simp)
        have := (List.pairwise_cons.mp hpw).1 b (by simp)
        omega
  cases k with
  | zero => rfl
  | succ k =>
    show sl (fun q => py_F P n k (py_S P q)) (py_fl P n) = _
    rw [hfl, sl_cons, sl_nil, Nat.add_zero]
    cases k with
    | zero =>
      show (if py_ex P (py_S P (py_nb P n)) n (py_lf P (py_nb P n)) then 1 else 0) = 1
      rw [k3, ex_self hP hn]
      rfl
    | succ k =>
      show sl (fun W => py_F P n k (py_go P (py_S P (py_nb P n)) W)) (py_avx P (py_S P (py_nb P n)) n (py_lf P (py_nb P n))) = 0
      rw [k3, avx_self hP hn]
      rfl
theorem N_none (hP : py_ok P) {n : Nat} (hn : py_dm P n) (hk : py_kd P n = 1) (k : Nat) : py_N P n k = 0 := by
  obtain ⟨k1, _⟩ := ok_k1 hP hn hk
  have hfl : py_fl P n = [] := by
    cases hl : py_fl P n with
    | nil => rfl
    | cons a l =>
      obtain ⟨q1, q2⟩ := mem_fl.mp (show a ∈ py_fl P n by rw [hl]; simp)
      have hw := fx_in hP _ (ok_lf hP q1) q2
      rcases wi_in hP _ (ok_lf hP q1) hw with h | ⟨c, hc, _⟩
      · have := ok_lfk hP q1
        rw [h] at this
        omega
      · rw [k1] at hc; cases hc
  cases k with
  | zero => rfl
  | succ k =>
    show sl _ (py_fl P n) = 0
    rw [hfl]
    rfl
theorem J_choice (hP : py_ok P) {p x : Nat} (hx : py_dm P x) (e : py_up P x = some p) (hk : py_kd P p = 3) (j : Nat) : py_J P p x s j = nv_1 j := by
  have hp := ok_pdm hP hx e
  have hps := (pre_no hP hp (ok_pks hP hx e) (by omega)).2
  cases j with
  | zero =>
    show (if py_pst P x && py_cl P s p then 1 else 0) = 1
    have hc : py_cl P s p = true := by
      unfold py_cl
      rw [if_neg (by omega), if_neg (by omega)]
    rw [hps, hc]
    rfl
  | succ j =>
    show sl _ (py_avl P s x) = 0
    have : py_avl P s x = [] := by
      rw [avl_eq hP hx e]
      unfold py_lv
      rw [e]
      simp only
      rw [if_neg (by omega), if_neg (by omega), if_neg (by omega)]
      rfl
    rw [this]
    rfl
theorem N_choice (hP : py_ok P) {n : Nat} (hn : py_dm P n) (hk : py_kd P n = 3) (k : Nat) : py_N P n k = sl (fun c => py_N P c k) (py_ks P n) := by
  cases k with
  | zero => exact (sl_zero _).symm
  | succ k =>
    show sl (fun q => py_F P n k (py_S P q)) (py_fl P n) = _
    rw [fl_sum hP hn (ok_nd hP hn) (fun c hc => hc) (fl_kids hP hn (by omega) (by omega))]
    refine sl_ext ?_
    intro c hc
    rw [fl_N hP hn hc]
    have e := ok_kup hP hn hc
    have hdc := ok_kid hP hn hc
    have : cv (py_N P c) (py_J P n c (py_f0 P n c)) (k + 1) = cv (py_N P c) nv_1 (k + 1) := cv_ext _ (fun i _ => rfl) (fun i _ => J_choice hP hdc e hk i)
    rw [this, cv_1_r]
theorem J_row (hP : py_ok P) {p : Nat} (hp : py_dm P p) (hk : py_kd P p = 2) : ∀ (n : Nat) (l a : List Nat) (x : Nat) (s : yS), l.length ≤ n → py_ks P p = a ++ x :: l → ∀ j, py_J P p x s j = py_Rr P l j := by
  intro n
  induction n with
  | zero =>
    intro l a x s hl ek j
    have hl0 : l = [] := List.eq_nil_of_length_eq_zero (by omega)
    subst hl0
    have hxm : x ∈ py_ks P p := by rw [ek]; simp
    have hx := ok_kid hP hp hxm
    have e := ok_kup hP hp hxm
    have hps := (pre_row hP hp ek hk).2
    have haf : py_af (py_ks P p) x = [] := by
      have h2 := (ok_fin hP hx e).2
      have hnd := ok_nd hP hp
      rw [ek] at hnd ⊢
      exact (bf_eq (b := []) (fun hm => (List.nodup_append.mp hnd).2.2 x hm x (by simp) rfl)).2
    cases j with
    | zero =>
      show (if py_pst P x && py_cl P s p then 1 else 0) = 1
      have hc : py_cl P s p = true := by
        unfold py_cl
        rw [if_neg (by omega), if_neg (by omega)]
      rw [hps, hc]
      rfl
    | succ j =>
      show sl _ (py_avl P s x) = 0
      have : py_avl P s x = [] := by
        rw [avl_eq hP hx e]
        unfold py_lv
        rw [e]
        simp only
        rw [if_pos hk, haf]
        rfl
      rw [this]
      rfl
  | succ n ih =>
    intro l a x s hl ek j
    have hxm : x ∈ py_ks P p := by rw [ek]; simp
    have hx := ok_kid hP hp hxm
    have e := ok_kup hP hp hxm
    have hps := (pre_row hP hp ek hk).2
    have hnd := ok_nd hP hp
    have haf : py_af (py_ks P p) x = l := by
      rw [ek] at hnd ⊢
      exact (bf_eq (b := l) (fun hm => (List.nodup_append.mp hnd).2.2 x hm x (by simp) rfl)).2
    have hsum : ∀ (m pre : List Nat) (j : Nat), l = pre ++ m → sl (fun W => py_F P p j (py_ov P p s W)) (py_rw P p m) + (if m.all (py_nu P) && decide (j + 1 = 0) then 1 else 0) = py_Rr P m (j + 1) := by
      intro m
      induction m with
      | nil => intro pre j _; rfl
      | cons c m ihm =>
        intro pre j em
        have hcm : c ∈ py_ks P p := by rw [ek, em]; simp
        have ekc : py_ks P p = (a ++ x :: pre) ++ c :: m := by rw [ek, em]; simp
        have hml : m.length ≤ n := by
          have := congrArg List.length em
          simp at this
          omega
        rw [py_rw, sl_app, il_F hP hp hcm]
        have hJ : cv (py_N P c) (py_J P p c (py_ps2 P p s c)) (j + 1) = cv (py_N P c) (py_Rr P m) (j + 1) := cv_ext _ (fun i _ => rfl) (fun i _ => ih m _ c _ hml ekc i)
        rw [hJ]
        show _ = cv (py_N P c) (py_Rr P m) (j + 1) + (if py_nu P c then py_Rr P m (j + 1) else 0)
        have hm2 := ihm (pre ++ [c]) j (by rw [em]; simp)
        have hd0 : decide (j + 1 = 0) = false := by simp
        rw [hd0, Bool.and_false] at hm2 ⊢
        cases py_nu P c with
        | false => simp [sl_nil]
        | true =>
          simp only [if_true]
          rw [← hm2]
          simp
    cases j with
    | zero =>
      show (if py_pst P x && py_cl P s p then 1 else 0) = _
      rw [hps]
      have hc : py_cl P s p = true := by
        unfold py_cl
        rw [if_neg (by omega), if_neg (by omega)]
      rw [hc, Bool.and_true]
      have h0 : ∀ m : List Nat, (if m.all (py_nu P) then 1 else 0) = py_Rr P m 0 := by
        intro m
        induction m with
        | nil => rfl
        | cons c m ihm =>
          show _ = cv (py_N P c) (py_Rr P m) 0 + (if py_nu P c then py_Rr P m 0 else 0)
          rw [cv_N0, ← ihm, List.all_cons]
          cases py_nu P c <;> simp
      exact h0 l
    | succ j =>
      show sl (fun W => py_F P p j (py_ov P p s W)) (py_avl P s x) = _
      have hav : py_avl P s x = py_rw P p l := by
        rw [avl_eq hP hx e]
        have hlv : py_lv P x = py_rw P p l := by
          unfold py_lv
          rw [e]
          simp only
          rw [if_pos hk, haf]
        rw [hlv]
        refine List.filter_eq_self.mpr ?_
        intro W _
        unfold py_gt
        rw [if_neg (by omega), if_neg (by omega)]
      have := hsum l [] j rfl
      rw [hav, ← this]
      simp
theorem N_row (hP : py_ok P) {n : Nat} (hn : py_dm P n) (hk : py_kd P n = 2) (k : Nat) : py_N P n (k + 1) = py_Rr P (py_ks P n) (k + 1) := by
  -- the first kids
  have nxd : ∃ nx : List Nat → List Nat, nx [] = [] ∧ ∀ c l, nx (c :: l) = c :: (if py_nu P c then nx l else []) := ⟨fun l => List.rec [] (fun c _ r => c :: (if py_nu P c then r else [])) l, rfl, fun c l => rfl⟩
  obtain ⟨nx, nx0, nx1⟩ := nxd
  have nxm : ∀ (l : List Nat) (c : Nat), c ∈ nx l ↔ ∃ a b, l = a ++ c :: b ∧ a.all (py_nu P) = true := by
    intro l
    induction l with
    | nil =>
      intro c
      rw [nx0]
      constructor
      · intro h; cases h
      · rintro ⟨a, b, e, _⟩
        cases a <;> cases e
    | cons x l ih =>
      intro c
      rw [nx1]
      constructor
      · intro h
        rcases List.mem_cons.mp h with h | h
        · exact ⟨[], l, by rw [h]; rfl, rfl⟩
        · cases hx : py_nu P x with
          | false => rw [hx] at h; cases h
          | true =>
            rw [hx, if_pos rfl] at h
            obtain ⟨a, b, e, ha⟩ := (ih c).mp h
            exact ⟨x :: a, b, by rw [e]; rfl, by rw [List.all_cons, hx, ha]; rfl⟩
      · rintro ⟨a, b, e, ha⟩
        cases a with
        | nil =>
          injection e with e1 _
          rw [← e1]
          exact List.mem_cons_self
        | cons y a =>
          injection e with e1 e2
          subst e1
          rw [List.all_cons, Bool.and_eq_true] at ha
          rw [ha.1, if_pos rfl]
          exact List.mem_cons_of_mem _ ((ih c).mpr ⟨a, b, e2, ha.2⟩)
  have nxs : ∀ l : List Nat, (nx l).Sublist l := by
    intro l
    induction l with
    | nil => rw [nx0]; exact List.Sublist.refl _
    | cons c l ih =>
      rw [nx1]
      cases py_nu P c with
      | false => exact List.Sublist.cons₂ c (List.nil_sublist l)
      | true => exact List.Sublist.cons₂ c ih
  show sl (fun q => py_F P n k (py_S P q)) (py_fl P n) = _
  rw [fl_sum hP hn ((nxs _).nodup (ok_nd hP hn)) (fun c hc => (nxs _).subset hc) (by
    intro q
    rw [fl_row hP hn hk]
    constructor
    · rintro ⟨a, c, b, e, ha, hq⟩
      exact ⟨c, (nxm _ c).mpr ⟨a, b, e, ha⟩, hq⟩
    · rintro ⟨c, hc, hq⟩
      obtain ⟨a, b, e, ha⟩ := (nxm _ c).mp hc
      exact ⟨a, c, b, e, ha, hq⟩)]
  have key : ∀ (l pre : List Nat), py_ks P n = pre ++ l → sl (fun c => sl (fun q => py_F P n k (py_S P q)) (py_fl P c)) (nx l) = py_Rr P l (k + 1) := by
    intro l
    induction l with
    | nil => intro pre _; rw [nx0]; rfl
    | cons c l ih =>
      intro pre e
      have hc : c ∈ py_ks P n := by rw [e]; simp
      rw [nx1, sl_cons, fl_N hP hn hc]
      have hJ : cv (py_N P c) (py_J P n c (py_f0 P n c)) (k + 1) = cv (py_N P c) (py_Rr P l) (k + 1) := cv_ext _ (fun i _ => rfl) (fun i _ => J_row hP hn hk l.length l pre c _ (Nat.le_refl _) e i)
      rw [hJ]
      show _ = cv (py_N P c) (py_Rr P l) (k + 1) + (if py_nu P c then py_Rr P l (k + 1) else 0)
      have := ih (pre ++ [c]) (by rw [e]; simp)
      cases py_nu P c with
      | false => simp [sl_nil]
      | true => rw [if_pos rfl, if_pos rfl, this]
  exact key _ [] rfl
end
