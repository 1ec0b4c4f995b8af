/-! first, last, places among kids -/
def py_bf (l : List Nat) (k : Nat) : List Nat := l.takeWhile (fun x => x != k)
def py_af (l : List Nat) (k : Nat) : List Nat := (l.dropWhile (fun x => x != k)).tail
theorem bf_eq {k : Nat} : ∀ {a b : List Nat}, ¬ k ∈ a → py_bf (a ++ k :: b) k = a ∧ py_af (a ++ k :: b) k = b := by
  intro a
  induction a with
  | nil => intro b _; simp [py_bf, py_af]
  | cons x a ih =>
    intro b hk
    have h1 : x ≠ k := fun e => hk (by rw [e]; simp)
    have h2 := ih (b := b) (fun e => hk (List.mem_cons_of_mem _ e))
    unfold py_bf py_af at *
    constructor
    · simp [h1, h2.1]
    · simp [h1]
      exact h2.2
theorem bf_split {k : Nat} : ∀ {l : List Nat}, k ∈ l → l = py_bf l k ++ k :: py_af l k ∧ ¬ k ∈ py_bf l k := by
  intro l
  induction l with
  | nil => intro hk; cases hk
  | cons x l ih =>
    intro hk
    by_cases e : x = k
    · subst e
      simp [py_bf, py_af]
    · have h1 := ih (by rcases List.mem_cons.mp hk with r | r; exact absurd r.symm e; exact r)
      have h2 : py_bf (x :: l) k = x :: py_bf l k := by simp [py_bf, e]
      have h3 : py_af (x :: l) k = py_af l k := by simp [py_af, e]
      rw [h2, h3]
      refine ⟨by rw [List.cons_append, ← h1.1], ?_⟩
      intro hm
      rcases List.mem_cons.mp hm with r | r
      · exact e r.symm
      · exact h1.2 r
/-- in a row all ahead of it, all behind it may be empty -/
def py_pre (P : yP) (k : Nat) : Bool := match py_up P k with
  | none => true
  | some p => if py_kd P p = 2 then (py_bf (py_ks P p) k).all (py_nu P) else true
def py_pst (P : yP) (k : Nat) : Bool := match py_up P k with
  | none => true
  | some p => if py_kd P p = 2 then (py_af (py_ks P p) k).all (py_nu P) else true
def py_fx (P : yP) (n x : Nat) : Bool := py_ur P (fun k o => k == n || (py_pre P k && o.getD false)) x
def py_lx (P : yP) (x : Nat) : Bool := py_ur P (fun k o => py_pst P k && o.getD true) x
section
variable {am r d : Nat} {M : zM} {P : yP}
theorem mr_isWithin_2 (h : mp_ok am M r P) {n : Nat} (hn : n < 2 ^ 31) : ∀ x, py_dm P x → ∀ fuel, py_hg P (py_rt P) - py_hg P x + 1 < fuel → mo_isWithin_2 d fuel am (nI n) (nI x) M = some (zb (py_wi P n x), M) := by
  refine ok_climb h.1 _ ?_ ?_
  · intro fuel hf
    have h4 := ok_400 h.1 (ok_rt h.1)
    have hne : ¬ nI (py_rt P) = -1 := pb_ne1 (by omega)
    have hne2 : ¬ (-1 : Int32) = nI n := fun e => pb_ne1 hn e.symm
    cases fuel with
    | zero => omega
    | succ fuel =>
      cases fuel with
      | zero => omega
      | succ fuel =>
        by_cases q : py_rt P = n
        · have := wi_self h.1 (ok_rt h.1)
          rw [q] at this hne
          simp [mo_isWithin_2, mo_isWithin_22, mo_isWithin_32, hne, q, this, zb]
        · have hq : ¬ nI (py_rt P) = nI n := fun e => q ((nI_eq (by omega) hn).mp e)
          simp [mo_isWithin_2, mo_isWithin_22, mo_isWithin_32, hne, hq, mr_up h (ok_rt h.1), ok_up0 h.1, pb_zon, hne2, wi_rt h.1 q, zb]
  · intro x p hx e ih fuel hf
    have h4 := ok_400 h.1 hx
    have hne : ¬ nI x = -1 := pb_ne1 (by omega)
    have h5 := ok_uphg h.1 hx e
    have h6 := ok_top h.1 (ok_pdm h.1 hx e)
    cases fuel with
    | zero => omega
    | succ fuel =>
      have ih' := ih fuel (by omega)
      by_cases q : x = n
      · have := wi_self h.1 hx
        rw [q] at this hne
        simp [mo_isWithin_2, mo_isWithin_22, mo_isWithin_32, hne, q, this, zb]
      · have hq : ¬ nI x = nI n := fun e => q ((nI_eq (by omega) hn).mp e)
        simp [mo_isWithin_2, hne, hq, mr_up h hx, e, pb_zos, ih', wi_up h.1 hx e q]
theorem pb_31 {P : yP} (h : py_ok P) {x k f : Nat} (hx : py_dm P x) (hk : k ≤ 300) : py_hg P (py_rt P) - py_hg P x + k < zLF := by
  have h1 := ok_hg h
  have h2 := pb_LF
  omega
theorem mr_isWithin (h : mp_ok am M r P) {n x : Nat} (hn : n < 2 ^ 31) (hx : py_dm P x) (hd : 0 < d) : mo_isWithin d am (nI x) (nI n) M = some (zb (py_wi P n x), M) := by
  cases d with
  | zero => omega
  | succ d =>
    show mo_isWithin_b d am (nI x) (nI n) M = _
    unfold mo_isWithin_b
    exact mr_isWithin_2 h hn x hx zLF (pb_31 (f := 0) h.1 hx (by omega))
/-- the loop over what is ahead of one in a row -/
theorem mr_isFirst_55 (h : mp_ok am M r P) (hd : 31 ≤ d) {p k : Nat} {b : List Nat} (hp : py_dm P p) (kl : Nat → Int32 → Int32 → Int32 → zM → Option (Int32 × zM)) (v2 : Int32) : ∀ (a1 a0 : List Nat), ¬ k ∈ a1 → py_ks P p = a0 ++ (a1 ++ k :: b) → ∀ fuel, a1.length < fuel → mo_isFirst_55 kl d fuel am (nI r) v2 (nI k) (nI p) (zo (a1 ++ k :: b).head?) M = if a1.all (py_nu P) then kl am (nI r) v2 (nI p) M else some (0, M) := by
  intro a1
  induction a1 with
  | nil =>
    intro a0 _ e fuel hf
    cases fuel with
    | zero => cases hf
    | succ fuel => simp [mo_isFirst_55, mo_isFirst_86, pb_zos]
  | cons c a1 ih =>
    intro a0 hk e fuel hf
    cases fuel with
    | zero => cases hf
    | succ fuel =>
      have hc : c ∈ py_ks P p := by rw [e]; simp
      have hkk : k ∈ py_ks P p := by rw [e]; simp
      have hcd := ok_kid h.1 hp hc
      have h4 := ok_400 h.1 hcd
      have h5 := ok_400 h.1 (ok_kid h.1 hp hkk)
      have h6 := ok_hg30 h.1 hcd
      have hne : ¬ nI c = nI k := by
        intro x
        have := (nI_eq (by omega) (by omega)).mp x
        exact hk (by rw [this]; simp)
      have ihc := ih (a0 ++ [c]) (fun x => hk (List.mem_cons_of_mem _ x)) (by rw [e]; simp) fuel (by simp at hf; omega)
      have hx := mr_nx h (d := d) (a := a0) (c := c) (b := a1 ++ k :: b) hp (by rw [e]; simp)
      cases hb : py_nu P c
      · simp [mo_isFirst_55, pb_zos, hne, mr_isNull h c hcd d (by omega), hb, pb_zbf]
      · simp [mo_isFirst_55, pb_zos, hne, mr_isNull h c hcd d (by omega), hb, pb_zbt]
        simp at hx ihc
        rw [hx]
        simp [ihc]
theorem ok_fin (h : py_ok P) {k p : Nat} (hk : py_dm P k) (e : py_up P k = some p) : py_ks P p = py_bf (py_ks P p) k ++ k :: py_af (py_ks P p) k ∧ ¬ k ∈ py_bf (py_ks P p) k := bf_split (ok_pks h hk e)
theorem bf_len {l : List Nat} {k : Nat} (hk : k ∈ l) : (py_bf l k).length < l.length ∧ (py_af l k).length < l.length := by
  have h1 := congrArg List.length (bf_split hk).1
  simp at h1
  omega
theorem mr_isFirst_20 (h : mp_ok am M r P) (hd : 31 ≤ d) {n : Nat} (hn : py_dm P n) : ∀ x, py_dm P x → py_wi P n x = true → ∀ fuel, py_hg P (py_rt P) - py_hg P x < fuel → mo_isFirst_20 d fuel am (nI r) (nI n) (nI x) M = some (zb (py_fx P n x), M) := by
  have hn4 := ok_400 h.1 hn
  refine ok_climb h.1 _ ?_ ?_
  · intro hw fuel hf
    cases fuel with
    | zero => omega
    | succ fuel =>
      by_cases q : py_rt P = n
      · simp [mo_isFirst_20, q, py_fx, ur_eq h.1 hn, zb]
      · rw [wi_rt h.1 q] at hw; cases hw
  · intro x p hx e ih hw fuel hf
    have h4 := ok_400 h.1 hx
    have h5 := ok_uphg h.1 hx e
    have hp := ok_pdm h.1 hx e
    have h6 := ok_top h.1 hp
    cases fuel with
    | zero => omega
    | succ fuel =>
      by_cases q : x = n
      · simp [mo_isFirst_20, q, py_fx, ur_eq h.1 hn, zb]
      · have hq : ¬ nI x = nI n := fun e => q ((nI_eq (by omega) (by omega)).mp e)
        rw [wi_up h.1 hx e q] at hw
        have ih' := ih hw fuel (by omega)
        have hfx : py_fx P n x = (py_pre P x && py_fx P n p) := by
          unfold py_fx
          rw [ur_up h.1 hx e]
          simp [q]
        have hfin := ok_fin h.1 hx e
        have hpk := ok_kd h.1 hp
        by_cases q2 : py_kd P p = 2
        · have hlen := bf_len (ok_pks h.1 hx e)
          have hlen2 := ok_ln h.1 hp
          have hLF := pb_LF
          have h55 := mr_isFirst_55 (r := r) h hd hp (fun p0 p1 p2 p3 m => mo_isFirst_20 d fuel p0 p1 p2 p3 m) (nI n) (py_bf (py_ks P p) x) [] hfin.2 hfin.1 zLF (by omega)
          rw [← hfin.1] at h55
          have hpre : py_pre P x = (py_bf (py_ks P p) x).all (py_nu P) := by simp [py_pre, e, q2]
          rw [hfx, hpre]
          have h0 : mo_isFirst_20 d (fuel + 1) am (nI r) (nI n) (nI x) M = mo_isFirst_55 (fun p0 p1 p2 p3 m => mo_isFirst_20 d fuel p0 p1 p2 p3 m) d zLF am (nI r) (nI n) (nI x) (nI p) (zo (py_ks P p).head?) M := by
            simp [mo_isFirst_20, hq, mr_up h hx, e, pb_zos, mr_kd h hp, q2, pb_n2, mr_ks h hp]
          rw [h0, h55]
          cases hb : (py_bf (py_ks P p) x).all (py_nu P)
          · simp [zb]
          · simp [ih']
        · have hq2 : ¬ nI (py_kd P p) = 2 := fun e => q2 ((pb_eqk hpk (m := 2) (by omega)).mp e)
          have hpre : py_pre P x = true := by simp [py_pre, e, q2]
          rw [hfx, hpre]
          simp [mo_isFirst_20, hq, mr_up h hx, e, pb_zos, mr_kd h hp, hq2, mo_isFirst_86, ih']
theorem fx_wi (h : py_ok P) {n : Nat} : ∀ x, py_dm P x → py_wi P n x = false → py_fx P n x = false := by
  refine ok_climb h _ ?_ ?_
  · intro hw
    by_cases q : py_rt P = n
    · rw [q, wi_self h (q ▸ ok_rt h)] at hw; cases hw
    · unfold py_fx
      rw [ur_rt h]
      simp [q]
  · intro x p hx e ih hw
    by_cases q : x = n
    · rw [q, wi_self h (q ▸ hx)] at hw; cases hw
    · rw [wi_up h hx e q] at hw
      unfold py_fx
      rw [ur_up h hx e]
      have := ih hw
      unfold py_fx at this
      simp [q, this]
theorem mr_isFirst (h : mp_ok am M r P) (hd : 32 ≤ d) {n o : Nat} (hn : py_dm P n) (ho : o < py_nl P) : mo_isFirst d am (nI r) (nI n) (nI o) M = some (zb (py_fx P n (py_lf P o)), M) := by
  have hl := ok_lf h.1 ho
  have hn4 := ok_400 h.1 hn
  cases d with
  | zero => omega
  | succ d =>
    show mo_isFirst_b d am (nI r) (nI n) (nI o) M = _
    unfold mo_isFirst_b
    rw [mr_lf h ho]
    simp only [Option.bind_some]
    rw [mr_isWithin h (by omega) hl (by omega)]
    simp only [Option.bind_some]
    cases hw : py_wi P n (py_lf P o)
    · rw [fx_wi h.1 _ hl hw]
      simp [zb]
    · rw [if_neg (by rw [pb_zbt]; decide)]
      exact mr_isFirst_20 h (by omega) hn _ hl hw zLF (by have := pb_31 (f := 0) (k := 0) h.1 hl (by omega); omega)
theorem mr_isRestNull_7 (h : mp_ok am M r P) (hd : 31 ≤ d) {p : Nat} (hp : py_dm P p) : ∀ (b a : List Nat), py_ks P p = a ++ b → ∀ fuel, b.length < fuel → mo_isRestNull_7 d fuel am (nI r) (zo b.head?) M = some (zb (b.all (py_nu P)), M) := by
  intro b
  induction b with
  | nil =>
    intro a _ fuel hf
    cases fuel with
    | zero => cases hf
    | succ fuel => simp [mo_isRestNull_7, zo, zb]
  | cons c b ih =>
    intro a e fuel hf
    cases fuel with
    | zero => cases hf
    | succ fuel =>
      have hc : c ∈ py_ks P p := by rw [e]; simp
      have hcd := ok_kid h.1 hp hc
      have h4 := ok_400 h.1 hcd
      have h6 := ok_hg30 h.1 hcd
      have ihc := ih (a ++ [c]) (by rw [e]; simp) fuel (by simp at hf; omega)
      have hne : ¬ nI c = -1 := pb_ne1 (by omega)
      cases hb : py_nu P c
      · simp [mo_isRestNull_7, pb_zos, hne, mr_isNull h c hcd d (by omega), hb, pb_zbf]
      · simp [mo_isRestNull_7, pb_zos, hne, mr_isNull h c hcd d (by omega), hb, pb_zbt, mr_nx h hp e, ihc]
theorem mr_isRestNull (h : mp_ok am M r P) (hd : 32 ≤ d) {k p : Nat} (hk : py_dm P k) (e : py_up P k = some p) : mo_isRestNull d am (nI r) (nI k) M = some (zb ((py_af (py_ks P p) k).all (py_nu P)), M) := by
  have hp := ok_pdm h.1 hk e
  have hfin := ok_fin h.1 hk e
  have hlen := bf_len (ok_pks h.1 hk e)
  have hlen2 := ok_ln h.1 hp
  have hLF := pb_LF
  cases d with
  | zero => omega
  | succ d =>
    show mo_isRestNull_b d am (nI r) (nI k) M = _
    unfold mo_isRestNull_b
    rw [mr_nx h hp hfin.1]
    simp only [Option.bind_some]
    exact mr_isRestNull_7 h (by omega) hp _ (py_bf (py_ks P p) k ++ [k]) (by rw [List.append_assoc]; exact hfin.1) zLF (by omega)
theorem mr_isLast_7 (h : mp_ok am M r P) (hd : 32 ≤ d) : ∀ x, py_dm P x → ∀ fuel, py_hg P (py_rt P) - py_hg P x < fuel → mo_isLast_7 d fuel am (nI r) (nI x) M = some (zb (py_lx P x), M) := by
  refine ok_climb h.1 _ ?_ ?_
  · intro fuel hf
    cases fuel with
    | zero => omega
    | succ fuel =>
      have : py_lx P (py_rt P) = true := by
        unfold py_lx
        rw [ur_rt h.1]
        simp [py_pst, ok_up0 h.1]
      simp [mo_isLast_7, mr_up h (ok_rt h.1), ok_up0 h.1, pb_zon, this, zb]
  · intro x p hx e ih fuel hf
    have h4 := ok_400 h.1 hx
    have h5 := ok_uphg h.1 hx e
    have hp := ok_pdm h.1 hx e
    have h6 := ok_top h.1 hp
    have hp4 := ok_400 h.1 hp
    have hne : ¬ nI p = -1 := pb_ne1 (by omega)
    cases fuel with
    | zero => omega
    | succ fuel =>
      have ih' := ih fuel (by omega)
      have hlx : py_lx P x = (py_pst P x && py_lx P p) := by
        unfold py_lx
        rw [ur_up h.1 hx e]
        rfl
      have hpk := ok_kd h.1 hp
      rw [hlx]
      by_cases q2 : py_kd P p = 2
      · have hpst : py_pst P x = (py_af (py_ks P p) x).all (py_nu P) := by simp [py_pst, e, q2]
        rw [hpst]
        have hr := mr_isRestNull h hd hx e
        cases hb : (py_af (py_ks P p) x).all (py_nu P)
        · rw [hb] at hr
          simp [mo_isLast_7, mr_up h hx, e, pb_zos, hne, mr_kd h hp, q2, pb_n2, hr, pb_zbf]
        · rw [hb] at hr
          simp [mo_isLast_7, mo_isLast_43, mr_up h hx, e, pb_zos, hne, mr_kd h hp, q2, pb_n2, hr, pb_zbt, ih']
      · have hq2 : ¬ nI (py_kd P p) = 2 := fun e => q2 ((pb_eqk hpk (m := 2) (by omega)).mp e)
        have hpst : py_pst P x = true := by simp [py_pst, e, q2]
        rw [hpst]
        simp [mo_isLast_7, mo_isLast_43, mr_up h hx, e, pb_zos, hne, mr_kd h hp, hq2, ih']
theorem mr_isLast (h : mp_ok am M r P) (hd : 33 ≤ d) {o : Nat} (ho : o < py_nl P) : mo_isLast d am (nI r) (nI o) M = some (zb (py_lx P (py_lf P o)), M) := by
  have hl := ok_lf h.1 ho
  cases d with
  | zero => omega
  | succ d =>
    show mo_isLast_b d am (nI r) (nI o) M = _
    unfold mo_isLast_b
    rw [mr_lf h ho]
    simp only [Option.bind_some]
    exact mr_isLast_7 h (by omega) _ hl zLF (by have := pb_31 (f := 0) (k := 0) h.1 hl (by omega); omega)
theorem mr_partOf_10 (h : mp_ok am M r P) {p k : Nat} {b : List Nat} (hp : py_dm P p) : ∀ (a1 a0 : List Nat), ¬ k ∈ a1 → py_ks P p = a0 ++ (a1 ++ k :: b) → ∀ fuel, a1.length < fuel → mo_partOf_10 d fuel am (nI k) (nI a0.length) (zo (a1 ++ k :: b).head?) M = some (nI (a0.length + a1.length), M) := by
  intro a1
  induction a1 with
  | nil =>
    intro a0 _ e fuel hf
    cases fuel with
    | zero => cases hf
    | succ fuel => simp [mo_partOf_10, pb_zos]
  | cons c a1 ih =>
    intro a0 hk e fuel hf
    cases fuel with
    | zero => cases hf
    | succ fuel =>
      have hc : c ∈ py_ks P p := by rw [e]; simp
      have hkk : k ∈ py_ks P p := by rw [e]; simp
      have h4 := ok_400 h.1 (ok_kid h.1 hp hc)
      have h5 := ok_400 h.1 (ok_kid h.1 hp hkk)
      have hne : ¬ nI c = nI k := by
        intro x
        have := (nI_eq (by omega) (by omega)).mp x
        exact hk (by rw [this]; simp)
      have ihc := ih (a0 ++ [c]) (fun x => hk (List.mem_cons_of_mem _ x)) (by rw [e]; simp) fuel (by simp at hf; omega)
      have hx := mr_nx h (d := d) (a := a0) (c := c) (b := a1 ++ k :: b) hp (by rw [e]; simp)
      simp [mo_partOf_10, pb_zos, hne, zlet, nI_1]
      simp at hx ihc
      rw [hx]
      simp [ihc]
      congr 1
      omega
theorem mr_partOf (h : mp_ok am M r P) (hd : 0 < d) {k p : Nat} (hk : py_dm P k) (e : py_up P k = some p) : mo_partOf d am (nI p) (nI k) M = some (nI (py_bf (py_ks P p) k).length, M) := by
  have hp := ok_pdm h.1 hk e
  have hfin := ok_fin h.1 hk e
  have hlen := bf_len (ok_pks h.1 hk e)
  have hlen2 := ok_ln h.1 hp
  have hLF := pb_LF
  cases d with
  | zero => omega
  | succ d =>
    show mo_partOf_b d am (nI p) (nI k) M = _
    unfold mo_partOf_b
    rw [mr_ks h hp]
    simp only [Option.bind_some]
    have := mr_partOf_10 (d := d) h hp (py_bf (py_ks P p) k) [] hfin.2 hfin.1 zLF (by omega)
    rw [← hfin.1] at this
    simpa [pb_n0] using this
end
