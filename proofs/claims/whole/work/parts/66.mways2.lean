/-! THE MODEL's ways behind an occurrence -/
def py_rw (P : yP) (p : Nat) : List Nat → List yW
  | [] => []
  | c :: l => py_il P (some p) c none ++ (if py_nu P c then py_rw P p l else [])
def py_an2 (P : yP) (p k : Nat) (l : List Nat) : List yW := (l.filter (fun c => c != k)).flatMap (fun c => py_il P (some p) c none)
def py_lv (P : yP) (k : Nat) : List yW := match py_up P k with
  | none => []
  | some p => if py_kd P p = 2 then py_rw P p (py_af (py_ks P p) k) else if py_kd P p = 4 then py_an2 P p k (py_ks P p) else if py_kd P p = 5 ∧ py_to P (py_nb P p) ≠ some 1 then py_il P (some p) k (some (py_nb P p)) else []
def py_wl (P : yP) (x : Nat) : List yW := py_ur P (fun k o => py_lv P k ++ (if py_pst P k then o.getD [] else [])) x
def py_ways (P : yP) (p : Option Nat) : List yW := match p with
  | none => py_il P none (py_rt P) none
  | some p => py_wl P (py_lf P p)
section
variable {am r d : Nat} {M : zM} {P : yP}
theorem wl_rt (h : py_ok P) : py_wl P (py_rt P) = [] := by
  unfold py_wl
  rw [ur_rt h]
  simp [py_lv, ok_up0 h]
theorem wl_up (h : py_ok P) {x p : Nat} (hx : py_dm P x) (e : py_up P x = some p) : py_wl P x = py_lv P x ++ (if py_pst P x then py_wl P p else []) := by
  unfold py_wl
  rw [ur_up h hx e]
  rfl
theorem fl_len (h : py_ok P) {n : Nat} (hn : py_dm P n) : (py_fl P n).length ≤ py_hi P n - py_lo P n := by
  have key : ∀ m q0, q0 + m ≤ py_nl P → ((List.range' q0 m).filter (fun q => py_fx P n (py_lf P q))).length ≤ py_hi P n - max q0 (py_lo P n) := by
    intro m
    induction m with
    | zero => intro q0 _; simp
    | succ m ih =>
      intro q0 hq
      rw [List.range'_succ, List.filter_cons]
      have := ih (q0 + 1) (by omega)
      cases hb : py_fx P n (py_lf P q0)
      · simp
        omega
      · have hw : py_wi P n (py_lf P q0) = true := by
          cases hw : py_wi P n (py_lf P q0)
          · rw [fx_wi h _ (ok_lf h (by omega)) hw] at hb
            cases hb
          · rfl
        have := (wi_lf h (by omega) n hn).mp hw
        simp
        omega
  have := key (py_nl P) 0 (by omega)
  simpa [py_fl] using this
theorem il_len (h : py_ok P) {n : Nat} (hn : py_dm P n) (a b : Option Nat) : (py_il P a n b).length ≤ py_hi P n - py_lo P n := by
  unfold py_il
  rw [List.length_map]
  exact fl_len h hn
theorem rw_len (h : py_ok P) (p : Nat) : ∀ l a b, (∀ c, c ∈ l → py_dm P c) → py_run P a l b → (py_rw P p l).length ≤ b - a := by
  intro l
  induction l with
  | nil => intro a b _ _; simp [py_rw]
  | cons c l ih =>
    intro a b hd hr
    obtain ⟨h1, h2⟩ := hr
    have hc := hd c List.mem_cons_self
    have h3 := il_len h hc (some p) none
    have h4 := ih _ _ (fun x hx => hd x (List.mem_cons_of_mem _ hx)) h2
    have h5 := (run_mem h _ _ _ (fun x hx => hd x (List.mem_cons_of_mem _ hx)) h2).1
    have h6 := ok_lohi h hc
    unfold py_rw
    rw [List.length_append]
    cases py_nu P c
    · simp
      omega
    · simp
      omega
theorem an_len (h : py_ok P) (p k : Nat) : ∀ l a b, (∀ c, c ∈ l → py_dm P c) → py_run P a l b → (py_an2 P p k l).length + (if k ∈ l then py_hi P k - py_lo P k else 0) ≤ b - a := by
  intro l
  induction l with
  | nil => intro a b _ _; simp [py_an2]
  | cons c l ih =>
    intro a b hd hr
    obtain ⟨h1, h2⟩ := hr
    have hc := hd c List.mem_cons_self
    have h3 := il_len h hc (some p) none
    have h4 := ih _ _ (fun x hx => hd x (List.mem_cons_of_mem _ hx)) h2
    have h5 := (run_mem h _ _ _ (fun x hx => hd x (List.mem_cons_of_mem _ hx)) h2).1
    have h6 := ok_lohi h hc
    unfold py_an2 at h4 ⊢
    rw [List.filter_cons]
    by_cases e : c = k
    · subst e
      simp at h4 ⊢
      split at h4 <;> omega
    · have e' : k ≠ c := fun x => e x.symm
      have e2 : (c != k) = true := by simpa using e
      rw [e2, if_pos rfl, List.flatMap_cons, List.length_append]
      have e3 : (k ∈ c :: l) ↔ k ∈ l := by simp [e']
      simp only [e3]
      omega
theorem run_split (h : py_ok P) {k : Nat} : ∀ l1 l2 a b, (∀ c, c ∈ l1 → py_dm P c) → py_run P a (l1 ++ k :: l2) b → a ≤ py_lo P k ∧ py_run P (py_hi P k) l2 b := by
  intro l1
  induction l1 with
  | nil => intro l2 a b _ hr; exact ⟨by rw [hr.1]; exact Nat.le_refl _, hr.2⟩
  | cons c l ih =>
    intro l2 a b hd hr
    obtain ⟨h1, h2⟩ := hr
    have := ih l2 _ b (fun x hx => hd x (List.mem_cons_of_mem _ hx)) h2
    have h6 := ok_lohi h (hd c List.mem_cons_self)
    exact ⟨by omega, this.2⟩
theorem lv_len (h : py_ok P) {x p : Nat} (hx : py_dm P x) (e : py_up P x = some p) : (py_lv P x).length + (py_hi P x - py_lo P x) + 16 * py_ar P x ≤ (py_hi P p - py_lo P p) + 16 * py_ar P p := by
  have hp := ok_pdm h hx e
  have hm := ok_pks h hx e
  have h1 := lh_kid h hp hm
  have h2 := ok_kar h hp hm
  have h3 := ok_lohi h hx
  have hfin := ok_fin h hx e
  unfold py_lv
  rw [e]
  simp only
  by_cases q2 : py_kd P p = 2
  · rw [if_pos q2]
    have hr := ok_run h hp (by omega)
    rw [hfin.1] at hr
    have hs := run_split h _ _ _ _ (fun c hc => ok_kid h hp (by rw [hfin.1]; simp [hc])) hr
    have hda : ∀ c, c ∈ py_af (py_ks P p) x → py_dm P c := fun c hc => ok_kid h hp (by rw [hfin.1]; simp [hc])
    have := rw_len h p _ _ _ hda hs.2
    have := (run_mem h _ _ _ hda hs.2).1
    omega
  · rw [if_neg q2]
    by_cases q4 : py_kd P p = 4
    · rw [if_pos q4]
      have := an_len h p x _ _ _ (fun c hc => ok_kid h hp hc) (ok_run h hp (by omega))
      rw [if_pos hm] at this
      omega
    · rw [if_neg q4]
      by_cases q5 : py_kd P p = 5 ∧ py_to P (py_nb P p) ≠ some 1
      · rw [if_pos q5]
        have h5 := ok_k5 h hp q5.1
        obtain ⟨c, hc, har⟩ := h5.1
        rw [hc] at hm
        have : x = c := by simpa using hm
        subst this
        have := il_len h hx (some p) (some (py_nb P p))
        have h7 := lh_wi h (ok_rt h) p hp
        have h8 := ok_hi0 h
        have h9 := ok_nl h
        have h10 : py_hi P x ≤ 16 := by
          have hw : ∀ y, py_dm P y → py_hi P y ≤ py_hi P (py_rt P) := by
            refine ok_climb h _ (Nat.le_refl _) ?_
            intro k p hk e ih
            have := lh_kid h (ok_pdm h hk e) (ok_pks h hk e)
            omega
          have := hw x hx
          omega
        omega
      · rw [if_neg q5]
        simp
        omega
theorem wl_len (h : py_ok P) : ∀ x, py_dm P x → (py_wl P x).length + (py_hi P x - py_lo P x) + 16 * py_ar P x ≤ 48 := by
  refine ok_climb h _ ?_ ?_
  · rw [wl_rt h, ok_hi0 h, ok_lo0 h]
    have := ok_nl h
    have := ok_ar h (ok_rt h)
    simp
    omega
  · intro x p hx e ih
    have := lv_len h hx e
    rw [wl_up h hx e]
    cases py_pst P x
    · simp
      omega
    · simp
      omega
theorem ways_len (h : py_ok P) {p : Option Nat} (hp : ∀ o, p = some o → o < py_nl P) : (py_ways P p).length ≤ 48 := by
  cases p with
  | none =>
    have := il_len h (ok_rt h) none none
    have := ok_hi0 h
    have := ok_nl h
    show (py_il P none (py_rt P) none).length ≤ 48
    omega
  | some o =>
    have := wl_len h _ (ok_lf h (hp o rfl))
    show (py_wl P (py_lf P o)).length ≤ 48
    omega
/-! the loops -/
theorem mr_laysRow_0 {fuel : Nat} {v2 v4 : Int32} : mo_laysRow_10 d (fuel + 1) am (nI r) v2 0 v4 M = some (0, M) := by
  by_cases q : v4 = -1 <;> simp [mo_laysRow_10, mo_laysRow_54, q]
theorem mr_laysRow_10 (hd : 33 ≤ d) {k p : Nat} (hk : py_dm P k) (e : py_up P k = some p) : ∀ (b a : List Nat) (M : zM) (l : List yW), mp_ok am M r P → mw_has am M l → py_ks P p = a ++ b → l.length + (py_rw P p b).length ≤ 128 → ∀ fuel, b.length + 1 < fuel → ∃ M', mo_laysRow_10 d fuel am (nI r) (nI k) 1 (zo b.head?) M = some (zb (b.all (py_nu P)), M') ∧ zf (mw_W am) M M' ∧ mw_has am M' (l ++ py_rw P p b) := by
  intro b
  induction b with
  | nil =>
    intro a M l h hw _ _ fuel hf
    cases fuel with
    | zero => cases hf
    | succ fuel =>
      refine ⟨M, ?_, zf_refl _ _, by simpa [py_rw] using hw⟩
      simp [mo_laysRow_10, mo_laysRow_54, zo, zb]
  | cons c b ih =>
    intro a M l h hw ek hlen fuel hf
    cases fuel with
    | zero => cases hf
    | succ fuel =>
      have hp := ok_pdm h.1 hk e
      have hc : c ∈ py_ks P p := by rw [ek]; simp
      have hcd := ok_kid h.1 hp hc
      have h4 := ok_400 h.1 hcd
      have h6 := ok_hg30 h.1 hcd
      have hne : ¬ nI c = -1 := pb_ne1 (by omega)
      have hil : (py_il P (some p) c none).length = (py_fl P c).length := by simp [py_il]
      have hlen' : l.length + (py_fl P c).length ≤ 128 := by
        unfold py_rw at hlen
        rw [List.length_append] at hlen
        omega
      obtain ⟨M1, e1, e2, e3⟩ := mr_laysInto (d := d) h hd hcd (a := some p) (b := none) hw hlen'
      have h1 := mp_W h e2
      rw [pb_zos, pb_zon] at e1
      cases hb : py_nu P c
      · refine ⟨M1, ?_, e2, by simpa [py_rw, hb] using e3⟩
        cases fuel with
        | zero => simp at hf
        | succ fuel =>
          simp only [mo_laysRow_10, pb_zos, List.head?_cons, if_neg hne, mr_up h hk, e, Option.bind_some, e1, mr_isNull h1 c hcd d (by omega), hb, pb_zbf, mr_nx h1 hp ek]
          rw [if_neg (by decide)]
          have := mr_laysRow_0 (am := am) (r := r) (d := d) (M := M1) (fuel := fuel) (v2 := nI k) (v4 := zo b.head?)
          simp only [mo_laysRow_10] at this
          rw [this]
          simp [hb, zb]
      · have hlen2 : (l ++ py_il P (some p) c none).length + (py_rw P p b).length ≤ 128 := by
          unfold py_rw at hlen
          simp [hb] at hlen
          simp
          omega
        obtain ⟨M2, f1, f2, f3⟩ := ih (a ++ [c]) M1 (l ++ py_il P (some p) c none) h1 e3 (by rw [ek]; simp) hlen2 fuel (by simp at hf; omega)
        refine ⟨M2, ?_, zf_trans e2 f2, by simpa [py_rw, hb] using f3⟩
        simp only [mo_laysRow_10, pb_zos, List.head?_cons, if_neg hne, mr_up h hk, e, Option.bind_some, e1, mr_isNull h1 c hcd d (by omega), hb, pb_zbt, mr_nx h1 hp ek]
        rw [if_neg (by decide), f1]
        simp [hb]
theorem mr_laysRow (h : mp_ok am M r P) (hd : 34 ≤ d) {k p : Nat} (hk : py_dm P k) (e : py_up P k = some p) {l : List yW} (hw : mw_has am M l) (hlen : l.length + (py_rw P p (py_af (py_ks P p) k)).length ≤ 128) : ∃ M', mo_laysRow d am (nI r) (nI k) M = some (zb ((py_af (py_ks P p) k).all (py_nu P)), M') ∧ zf (mw_W am) M M' ∧ mw_has am M' (l ++ py_rw P p (py_af (py_ks P p) k)) := by
  have hp := ok_pdm h.1 hk e
  have hfin := ok_fin h.1 hk e
  have hln := bf_len (ok_pks h.1 hk e)
  have hln2 := ok_ln h.1 hp
  have hLF := pb_LF
  cases d with
  | zero => omega
  | succ d =>
    show ∃ M', mo_laysRow_b d am (nI r) (nI k) M = _ ∧ _
    unfold mo_laysRow_b
    rw [mr_nx h hp hfin.1]
    simp only [Option.bind_some]
    exact mr_laysRow_10 (by omega) hk e _ (py_bf (py_ks P p) k ++ [k]) M l h hw (by rw [List.append_assoc]; exact hfin.1) hlen zLF (by omega)
theorem mr_laysWays_97 (hd : 33 ≤ d) {k p : Nat} (hk : py_dm P k) (e : py_up P k = some p) (kl : Nat → Int32 → Int32 → Int32 → zM → Option zM) (v3 : Int32) : ∀ (b a : List Nat) (M : zM) (l : List yW), mp_ok am M r P → mw_has am M l → py_ks P p = a ++ b → l.length + (py_an2 P p k b).length ≤ 128 → ∀ fuel, b.length < fuel → ∃ M', mo_laysWays_97 kl d fuel am (nI r) v3 (nI k) (nI p) (zo b.head?) M = mo_laysWays_132 kl d am (nI r) v3 (nI k) (nI p) M' ∧ zf (mw_W am) M M' ∧ mw_has am M' (l ++ py_an2 P p k b) := by
  intro b
  induction b with
  | nil =>
    intro a M l h hw _ _ fuel hf
    cases fuel with
    | zero => cases hf
    | succ fuel =>
      refine ⟨M, ?_, zf_refl _ _, by simpa [py_an2] using hw⟩
      simp [mo_laysWays_97, zo]
  | cons c b ih =>
    intro a M l h hw ek hlen fuel hf
    cases fuel with
    | zero => cases hf
    | succ fuel =>
      have hp := ok_pdm h.1 hk e
      have hc : c ∈ py_ks P p := by rw [ek]; simp
      have hcd := ok_kid h.1 hp hc
      have h4 := ok_400 h.1 hcd
      have h5 := ok_400 h.1 hk
      have hne : ¬ nI c = -1 := pb_ne1 (by omega)
      by_cases q : c = k
      · subst q
        have ha : py_an2 P p c (c :: b) = py_an2 P p c b := by simp [py_an2]
        rw [ha] at hlen ⊢
        obtain ⟨M2, f1, f2, f3⟩ := ih (a ++ [c]) M l h hw (by rw [ek]; simp) hlen fuel (by simp at hf; omega)
        refine ⟨M2, ?_, f2, f3⟩
        rw [← f1]
        simp only [mo_laysWays_97, mo_laysWays_120, pb_zos, List.head?_cons, if_neg hne, if_true, mr_nx h hp ek, Option.bind_some]
      · have hq : ¬ nI c = nI k := fun e => q ((nI_eq (by omega) (by omega)).mp e)
        have ha : py_an2 P p k (c :: b) = py_il P (some p) c none ++ py_an2 P p k b := by
          have : (c != k) = true := by simpa using q
          simp [py_an2, this]
        rw [ha] at hlen ⊢
        have hil : (py_il P (some p) c none).length = (py_fl P c).length := by simp [py_il]
        rw [List.length_append] at hlen
        obtain ⟨M1, e1, e2, e3⟩ := mr_laysInto (d := d) h hd hcd (a := some p) (b := none) hw (by omega)
        have h1 := mp_W h e2
        rw [pb_zos, pb_zon] at e1
        obtain ⟨M2, f1, f2, f3⟩ := ih (a ++ [c]) M1 (l ++ py_il P (some p) c none) h1 e3 (by rw [ek]; simp) (by simp; omega) fuel (by simp at hf; omega)
        refine ⟨M2, ?_, zf_trans e2 f2, by simpa using f3⟩
        rw [← f1]
        simp only [mo_laysWays_97, mo_laysWays_120, pb_zos, List.head?_cons, if_neg hne, if_neg hq, mr_nx h1 hp ek, Option.bind_some, e1]
theorem mr_laysWays_132 (hd : 33 ≤ d) {k p : Nat} (hk : py_dm P k) (e : py_up P k = some p) (kl : Nat → Int32 → Int32 → Int32 → zM → Option zM) (v3 : Int32) {l : List yW} (h : mp_ok am M r P) (hw : mw_has am M l) (hlen : l.length + (if py_kd P p = 5 ∧ py_to P (py_nb P p) ≠ some 1 then py_il P (some p) k (some (py_nb P p)) else []).length ≤ 128) : ∃ M', mo_laysWays_132 kl d am (nI r) v3 (nI k) (nI p) M = kl am (nI r) v3 (nI p) M' ∧ zf (mw_W am) M M' ∧ mw_has am M' (l ++ if py_kd P p = 5 ∧ py_to P (py_nb P p) ≠ some 1 then py_il P (some p) k (some (py_nb P p)) else []) := by
  have hp := ok_pdm h.1 hk e
  have hpk := ok_kd h.1 hp
  by_cases q5 : py_kd P p = 5
  · have h5 := ok_k5 h.1 hp q5
    have q5' : py_kd P p = 0 ∨ py_kd P p = 4 ∨ py_kd P p = 5 := .inr (.inr q5)
    by_cases q1 : py_to P (py_nb P p) = some 1
    · rw [if_neg (by simp [q1])]
      refine ⟨M, ?_, zf_refl _ _, by simpa using hw⟩
      simp [mo_laysWays_132, mo_laysWays_175, mr_kd h hp, q5, pb_n5, mr_nb h hp q5', mr_to h h5.2.1, q1, pb_zos, pb_n1, mr_up h hk, e]
    · rw [if_pos ⟨q5, q1⟩] at hlen ⊢
      have hil : (py_il P (some p) k (some (py_nb P p))).length = (py_fl P k).length := by simp [py_il]
      obtain ⟨M1, e1, e2, e3⟩ := mr_laysInto (d := d) h hd hk (a := some p) (b := some (py_nb P p)) hw (by omega)
      have h1 := mp_W h e2
      rw [pb_zos, pb_zos] at e1
      have hne : ¬ zo (py_to P (py_nb P p)) = 1 := by
        intro x
        cases ht : py_to P (py_nb P p) with
        | none => rw [ht, pb_zon] at x; exact absurd x (by decide)
        | some t =>
          rw [ht, pb_zos] at x
          have := ok_to h.1 h5.2.1 ht
          have := (nI_eq (b := 1) (by omega) (by omega)).mp x
          exact q1 (by rw [ht, this])
      refine ⟨M1, ?_, e2, e3⟩
      simp only [mo_laysWays_132, mo_laysWays_175, mr_kd h hp, Option.bind_some, q5, pb_n5, if_true, mr_nb h hp q5', mr_to h h5.2.1, if_neg hne, e1, mr_up h1 hk, e, pb_zos]
  · have hq5 : ¬ nI (py_kd P p) = 5 := fun e => q5 ((pb_eqk hpk (m := 5) (by omega)).mp e)
    rw [if_neg (fun x => q5 x.1)]
    refine ⟨M, ?_, zf_refl _ _, by simpa using hw⟩
    simp [mo_laysWays_132, mo_laysWays_175, mr_kd h hp, hq5, mr_up h hk, e, pb_zos]
theorem mr_laysWays_77 (hd : 33 ≤ d) {k p : Nat} (hk : py_dm P k) (e : py_up P k = some p) (q2 : py_kd P p ≠ 2) (kl : Nat → Int32 → Int32 → Int32 → zM → Option zM) (v3 : Int32) {l : List yW} (h : mp_ok am M r P) (hw : mw_has am M l) (hlen : l.length + (py_lv P k).length ≤ 128) : ∃ M', mo_laysWays_77 kl d am (nI r) v3 (nI k) (nI p) M = kl am (nI r) v3 (nI p) M' ∧ zf (mw_W am) M M' ∧ mw_has am M' (l ++ py_lv P k) := by
  have hp := ok_pdm h.1 hk e
  have hpk := ok_kd h.1 hp
  unfold py_lv at hlen ⊢
  rw [e] at hlen ⊢
  simp only [if_neg q2] at hlen ⊢
  by_cases q4 : py_kd P p = 4
  · rw [if_pos q4] at hlen ⊢
    have hln2 := ok_ln h.1 hp
    have hLF := pb_LF
    obtain ⟨M1, e1, e2, e3⟩ := mr_laysWays_97 (d := d) hd hk e kl v3 (py_ks P p) [] M l h hw rfl hlen zLF (by omega)
    have h1 := mp_W h e2
    have q5 : ¬ (py_kd P p = 5 ∧ py_to P (py_nb P p) ≠ some 1) := by omega
    obtain ⟨M2, f1, f2, f3⟩ := mr_laysWays_132 (d := d) hd hk e kl v3 h1 e3 (by rw [if_neg q5]; simp; omega)
    rw [if_neg q5] at f3
    refine ⟨M2, ?_, zf_trans e2 f2, by simpa using f3⟩
    rw [← f1, ← e1]
    simp only [mo_laysWays_77, mr_kd h hp, Option.bind_some, q4, pb_n4, if_true, mr_ks h hp]
  · rw [if_neg q4] at hlen ⊢
    have hq4 : ¬ nI (py_kd P p) = 4 := fun e => q4 ((pb_eqk hpk (m := 4) (by omega)).mp e)
    obtain ⟨M2, f1, f2, f3⟩ := mr_laysWays_132 (d := d) hd hk e kl v3 h hw hlen
    refine ⟨M2, ?_, f2, f3⟩
    rw [← f1]
    simp only [mo_laysWays_77, mr_kd h hp, Option.bind_some, if_neg hq4]
theorem mr_laysWays_77r (hd : 33 ≤ d) {k p : Nat} (hk : py_dm P k) (e : py_up P k = some p) (q2 : py_kd P p = 2) (kl : Nat → Int32 → Int32 → Int32 → zM → Option zM) (v3 : Int32) (h : mp_ok am M r P) : mo_laysWays_77 kl d am (nI r) v3 (nI k) (nI p) M = kl am (nI r) v3 (nI p) M := by
  have hp := ok_pdm h.1 hk e
  simp [mo_laysWays_77, mo_laysWays_132, mo_laysWays_175, mr_kd h hp, q2, pb_n2, mr_up h hk, e, pb_zos]
theorem mr_laysWays_34 (hd : 34 ≤ d) (hP : py_ok P) : ∀ x, py_dm P x → ∀ (M : zM) (l : List yW), mp_ok am M r P → mw_has am M l → l.length + (py_wl P x).length ≤ 128 → ∀ fuel, py_hg P (py_rt P) - py_hg P x < fuel → ∃ M', mo_laysWays_34 d fuel am (nI r) 1 (nI x) M = some M' ∧ zf (mw_W am) M M' ∧ mw_has am M' (l ++ py_wl P x) := by
  refine ok_climb hP _ ?_ ?_
  · intro M l h hw hlen fuel hf
    cases fuel with
    | zero => omega
    | succ fuel =>
      refine ⟨M, ?_, zf_refl _ _, by rw [wl_rt hP]; simpa using hw⟩
      simp [mo_laysWays_34, mr_up h (ok_rt hP), ok_up0 hP, pb_zon, mo_laysWays_187]
  · intro x p hx e ih M l h hw hlen fuel hf
    have hp := ok_pdm hP hx e
    have h4 := ok_400 hP hp
    have hne : ¬ nI p = -1 := pb_ne1 (by omega)
    have h5 := ok_uphg hP hx e
    have h6 := ok_top hP hp
    have hpk := ok_kd hP hp
    rw [wl_up hP hx e] at hlen ⊢
    rw [List.length_append] at hlen
    cases fuel with
    | zero => omega
    | succ fuel =>
      by_cases q2 : py_kd P p = 2
      · have hlv : py_lv P x = py_rw P p (py_af (py_ks P p) x) := by simp [py_lv, e, q2]
        have hps : py_pst P x = (py_af (py_ks P p) x).all (py_nu P) := by simp [py_pst, e, q2]
        rw [hlv] at hlen ⊢
        obtain ⟨M1, e1, e2, e3⟩ := mr_laysRow (d := d) h hd hx e hw (by omega)
        have h1 := mp_W h e2
        rw [← hps] at e1
        have hstep : mo_laysWays_34 d (fuel + 1) am (nI r) 1 (nI x) M = mo_laysWays_34 d fuel am (nI r) (zb (py_pst P x)) (nI p) M1 := by
          have h77 := mr_laysWays_77r (d := d) (by omega) hx e q2 (fun p0 p1 p2 p3 m => mo_laysWays_34 d fuel p0 p1 p2 p3 m) (zb (py_pst P x)) h1
          rw [← h77]
          simp only [mo_laysWays_34, mr_up h hx, e, pb_zos, Option.bind_some, if_neg hne, mr_kd h hp, q2, pb_n2, if_true, e1]
          rw [if_neg (by decide)]
        rw [hstep]
        cases hb : py_pst P x
        · refine ⟨M1, ?_, e2, by simpa using e3⟩
          cases fuel with
          | zero => omega
          | succ fuel =>
            cases hu : py_up P p with
            | none => simp [mo_laysWays_34, mr_up h1 hp, hu, pb_zon, mo_laysWays_187]
            | some pp =>
              have := ok_400 hP (ok_pdm hP hp hu)
              have hne' : ¬ nI pp = -1 := pb_ne1 (by omega)
              simp [mo_laysWays_34, mr_up h1 hp, hu, pb_zos, hne', mo_laysWays_187, pb_zbf]
        · rw [hb] at hlen
          obtain ⟨M2, f1, f2, f3⟩ := ih M1 _ h1 e3 (by simp at hlen ⊢; omega) fuel (by omega)
          exact ⟨M2, f1, zf_trans e2 f2, by simpa using f3⟩
      · have hps : py_pst P x = true := by simp [py_pst, e, q2]
        rw [hps] at hlen ⊢
        obtain ⟨M1, e1, e2, e3⟩ := mr_laysWays_77 (d := d) (by omega) hx e q2 (fun p0 p1 p2 p3 m => mo_laysWays_34 d fuel p0 p1 p2 p3 m) 1 h hw (by omega)
        have h1 := mp_W h e2
        have hq2 : ¬ nI (py_kd P p) = 2 := fun e => q2 ((pb_eqk hpk (m := 2) (by omega)).mp e)
        obtain ⟨M2, f1, f2, f3⟩ := ih M1 _ h1 e3 (by simp at hlen ⊢; omega) fuel (by omega)
        refine ⟨M2, ?_, zf_trans e2 f2, by simpa using f3⟩
        rw [f1] at e1
        rw [← e1]
        simp only [mo_laysWays_34, mr_up h hx, e, pb_zos, Option.bind_some, if_neg hne, mr_kd h hp, if_neg hq2]
        rw [if_neg (by decide)]
theorem mr_laysWays (h : mp_ok am M r P) (hd : 35 ≤ d) {p : Option Nat} (hp : ∀ o, p = some o → o < py_nl P) : ∃ M', mo_laysWays d am (nI r) (zo p) M = some M' ∧ zf (mw_W am) M M' ∧ mw_has am M' (py_ways P p) := by
  cases d with
  | zero => omega
  | succ d =>
    show ∃ M', mo_laysWays_b d am (nI r) (zo p) M = some M' ∧ _
    have hz : zf (mw_W am) M (zm_setI M 12 am 26 0) := zf_set (by simp [mw_W, mg])
    have h1 := mp_W h hz
    have hw0 : mw_has am (zm_setI M 12 am 26 0) [] := ⟨by simp [pm_II, pb_n0], by simp, by intro i w hw; simp at hw⟩
    have hlen := ways_len h.1 hp
    cases p with
    | none =>
      have : (py_fl P (py_rt P)).length ≤ 48 := by simpa [py_ways, py_il] using hlen
      obtain ⟨M1, e1, e2, e3⟩ := mr_laysInto (d := d) h1 (by omega) (ok_rt h.1) (a := none) (b := none) hw0 (by simp; omega)
      refine ⟨M1, ?_, zf_trans hz e2, by simpa [py_ways] using e3⟩
      rw [pb_zon] at e1
      simp [mo_laysWays_b, zlet, pb_zon, mr_rt h1, e1]
    | some o =>
      have ho := hp o rfl
      have hl := ok_lf h.1 ho
      have ho16 := ok_nl h.1
      have hlen' : (py_wl P (py_lf P o)).length ≤ 48 := hlen
      have hLF := pb_LF
      have hh := ok_hg h.1
      obtain ⟨M1, e1, e2, e3⟩ := mr_laysWays_34 (d := d) (by omega) h.1 _ hl _ [] h1 hw0 (by simp; omega) zLF (by omega)
      refine ⟨M1, ?_, zf_trans hz e2, by simpa [py_ways] using e3⟩
      have hne : ¬ nI o = -1 := pb_ne1 (by omega)
      simp only [mo_laysWays_b, zlet, pb_zos, if_neg hne, mr_lf h1 ho, Option.bind_some, e1]
end
