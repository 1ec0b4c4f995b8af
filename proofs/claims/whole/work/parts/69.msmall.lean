/-! THE MODEL: small questions -/
/-- a number of 0 .. n - 1 -/
def zin (x : Int32) (n : Nat) : Option Nat := if 0 ≤ x ∧ x < nI n then some x.toNatClampNeg else none
theorem zin_some {x : Int32} {n k : Nat} (hn : n < 2 ^ 31) (h : zin x n = some k) : k < n ∧ x = nI k := by
  unfold zin at h
  split at h
  · rename_i hc
    injection h with h
    have h0 : ¬ x < 0 := by
      intro y
      rw [fa_lt] at y
      have := hc.1
      rw [fa_le] at this
      omega
    obtain ⟨j, hj, e⟩ := nI_of h0
    rw [e] at h hc
    rw [nI_clamp hj] at h
    subst h
    exact ⟨(nI_ltI hj hn).mp hc.2, e⟩
  · cases h
theorem zin_nI {n k : Nat} (hn : n < 2 ^ 31) (h : k < n) : zin (nI k) n = some k := by
  unfold zin
  rw [if_pos ⟨nI_pos' (by omega), nI_lt h hn⟩, nI_clamp (by omega)]
theorem zin_none {x : Int32} {n : Nat} (h : zin x n = none) : ¬ (0 ≤ x ∧ x < nI n) := by
  intro hc
  unfold zin at h
  rw [if_pos hc] at h
  cases h
/-- the longest word -/
def py_lgf (k : Nat) (f : Nat → Option Nat) : Nat → List Nat → Option Nat
  | a, [] => some a
  | a, c :: l => match f c with
    | none => none
    | some v => py_lgf k f (if k = 3 then max a v else a + v) l
def py_lgg (P : yP) (f : Nat → Option Nat) (n : Nat) : Option Nat := if py_kd P n = 0 then some 1 else if py_kd P n = 1 then some 0 else match py_lgf (py_kd P n) f 0 (py_ks P n) with
  | none => none
  | some s => if py_kd P n = 5 ∧ s ≠ 0 then (match py_to P (py_nb P n) with
    | none => none
    | some t => some (s * t)) else some s
def py_lg (P : yP) : Nat → Option Nat := py_tr P none (py_lgg P)
/-- the count next around a node -/
def py_ca (P : yP) (x : Nat) : Option Nat := py_ur P (fun k o => match py_up P k with
  | none => none
  | some p => if py_kd P p = 5 then some (py_nb P p) else o.getD none) x
/-- anys around a node, or it -/
def py_aa (P : yP) (x : Nat) : List Nat := py_ur P (fun k o => (if py_kd P k = 4 then [py_nb P k] else []) ++ o.getD []) x
def py_ct (P : yP) (o : Nat) (inner : Bool) : Option Nat := match py_ca P (py_lf P o) with
  | none => none
  | some c => match py_ca P (py_cn P c) with
    | none => if inner then none else some c
    | some e => if inner then some c else some e
def py_ll (P : yP) : List Nat := (List.range' 0 (py_nl P)).map (py_lt P)
def py_in (P : yP) (n : Nat) : List Nat := (List.range' 0 (py_nl P)).filter (fun q => py_wi P n (py_lf P q))
section
variable {am r d : Nat} {M : zM} {P : yP}
theorem pl_lgf {k : Nat} {f g : Nat → Option Nat} : ∀ {l : List Nat} {a : Nat}, (∀ c, c ∈ l → f c = g c) → py_lgf k f a l = py_lgf k g a l := by
  intro l
  induction l with
  | nil => intro a _; rfl
  | cons c l ih =>
    intro a h
    unfold py_lgf
    rw [h c List.mem_cons_self]
    cases g c with
    | none => rfl
    | some v => exact ih (fun x hx => h x (List.mem_cons_of_mem _ hx))
theorem lg_eq (h : py_ok P) {n : Nat} (hn : py_dm P n) : py_lg P n = py_lgg P (py_lg P) n := by
  refine tr_eq h ?_ hn
  intro a b n _ hc
  unfold py_lgg
  rw [pl_lgf hc]
theorem lgf_le (h : py_ok P) {B k : Nat} : ∀ l a b acc v, (∀ c, c ∈ l → py_dm P c) → py_run P a l b → (∀ c, c ∈ l → ∀ v, py_lg P c = some v → v ≤ (py_hi P c - py_lo P c) * B) → py_lgf k (py_lg P) acc l = some v → v ≤ acc + (b - a) * B := by
  intro l
  induction l with
  | nil =>
    intro a b acc v _ _ _ e
    injection e with e
    omega
  | cons c l ih =>
    intro a b acc v hd hr hc e
    obtain ⟨h1, h2⟩ := hr
    unfold py_lgf at e
    cases hv : py_lg P c with
    | none => rw [hv] at e; cases e
    | some w =>
      rw [hv] at e
      have h3 := hc c List.mem_cons_self w hv
      have h4 := ih _ _ _ _ (fun x hx => hd x (List.mem_cons_of_mem _ hx)) h2 (fun x hx => hc x (List.mem_cons_of_mem _ hx)) e
      have h5 := (run_mem h _ _ _ (fun x hx => hd x (List.mem_cons_of_mem _ hx)) h2).1
      have h6 := ok_lohi h (hd c List.mem_cons_self)
      have h7 : (b - a) * B = (b - py_hi P c) * B + (py_hi P c - py_lo P c) * B := by
        rw [← Nat.add_mul]
        congr 1
        omega
      have h8 : (if k = 3 then max acc w else acc + w) ≤ acc + w := by
        split <;> omega
      omega
theorem lg_le (h : py_ok P) : ∀ n, py_dm P n → ∀ v, py_lg P n = some v → v ≤ (py_hi P n - py_lo P n) * 12 ^ py_ar P n := by
  refine ok_down h _ ?_
  intro n hn ih v hv
  rw [lg_eq h hn] at hv
  unfold py_lgg at hv
  by_cases q0 : py_kd P n = 0
  · rw [if_pos q0] at hv
    injection hv with hv
    obtain ⟨_, _, _, h1, h2⟩ := ok_k0 h hn q0
    have : py_hi P n - py_lo P n = 1 := by omega
    rw [this, Nat.one_mul]
    have := Nat.one_le_pow (py_ar P n) 12 (by omega)
    omega
  · rw [if_neg q0] at hv
    by_cases q1 : py_kd P n = 1
    · rw [if_pos q1] at hv
      injection hv with hv
      omega
    · rw [if_neg q1] at hv
      have hk2 : 2 ≤ py_kd P n := by omega
      by_cases q5 : py_kd P n = 5
      · have h5 := ok_k5 h hn q5
        obtain ⟨c, hc, har⟩ := h5.1
        have hcm : c ∈ py_ks P n := by rw [hc]; simp
        have ihc := ih c hcm
        have hlh := lh_kid h hn hcm
        rw [hc] at hv
        unfold py_lgf at hv
        cases hw : py_lg P c with
        | none => rw [hw] at hv; cases hv
        | some w =>
          rw [hw] at hv
          have h6 := ihc w hw
          have e0 : py_lgf (py_kd P n) (py_lg P) (if py_kd P n = 3 then max 0 w else 0 + w) [] = some w := by
            rw [q5]
            simp [py_lgf]
          simp only [e0] at hv
          have h7 : (py_hi P c - py_lo P c) * 12 ^ py_ar P c ≤ (py_hi P n - py_lo P n) * 12 ^ py_ar P c := Nat.mul_le_mul (by omega) (Nat.le_refl _)
          have h8 : (py_hi P n - py_lo P n) * 12 ^ py_ar P n = (py_hi P n - py_lo P n) * 12 ^ py_ar P c * 12 := by rw [har, Nat.pow_succ, Nat.mul_assoc]
          by_cases qs : py_kd P n = 5 ∧ w ≠ 0
          · rw [if_pos qs] at hv
            cases ht : py_to P (py_nb P n) with
            | none => rw [ht] at hv; cases hv
            | some t =>
              rw [ht] at hv
              injection hv with hv
              have ht2 := ok_to h h5.2.1 ht
              have : w * t ≤ (py_hi P n - py_lo P n) * 12 ^ py_ar P c * 12 := Nat.mul_le_mul (by omega) (by omega)
              omega
          · rw [if_neg qs] at hv
            injection hv with hv
            have : (py_hi P n - py_lo P n) * 12 ^ py_ar P c * 1 ≤ (py_hi P n - py_lo P n) * 12 ^ py_ar P c * 12 := Nat.mul_le_mul (Nat.le_refl _) (by omega)
            omega
      · cases hs : py_lgf (py_kd P n) (py_lg P) 0 (py_ks P n) with
        | none => rw [hs] at hv; cases hv
        | some s =>
          rw [hs] at hv
          have : ¬ (py_kd P n = 5 ∧ s ≠ 0) := fun x => q5 x.1
          simp only [if_neg this] at hv
          injection hv with hv
          have hr := lgf_le h (B := 12 ^ py_ar P n) (k := py_kd P n) _ _ _ 0 s (fun c hc => ok_kid h hn hc) (ok_run h hn hk2) (by
            intro c hc w hw
            have h1 := ih c hc w hw
            have h2 : 12 ^ py_ar P c ≤ 12 ^ py_ar P n := Nat.pow_le_pow_right (by omega) (ok_kar h hn hc)
            exact Nat.le_trans h1 (Nat.mul_le_mul (Nat.le_refl _) h2)) hs
          omega
theorem ok_hi16 (h : py_ok P) {n : Nat} (hn : py_dm P n) : py_hi P n ≤ py_nl P := by
  have hw : ∀ y, py_dm P y → py_hi P y ≤ py_hi P (py_rt P) := by
    refine ok_climb h _ (Nat.le_refl _) ?_
    intro k p hk e ih
    have := lh_kid h (ok_pdm h hk e) (ok_pks h hk e)
    omega
  have := hw n hn
  rw [ok_hi0 h] at this
  exact this
theorem lg_lt (h : py_ok P) {n v : Nat} (hn : py_dm P n) (hv : py_lg P n = some v) : v ≤ 2304 := by
  have h1 := lg_le h n hn v hv
  have h2 := ok_ar h hn
  have h3 := ok_hi16 h hn
  have h4 := ok_nl h
  have h5 : 12 ^ py_ar P n ≤ 12 ^ 2 := Nat.pow_le_pow_right (by omega) h2
  have h6 : (py_hi P n - py_lo P n) * 12 ^ py_ar P n ≤ 16 * 12 ^ 2 := Nat.mul_le_mul (by omega) h5
  omega
theorem mr_longest_37 (h : mp_ok am M r P) {n : Nat} (hn : py_dm P n) (hk : 2 ≤ py_kd P n) (R : Nat → Int32 → Int32 → zM → Option (Int32 × zM)) (hR : ∀ c, c ∈ py_ks P n → R am (nI r) (nI c) M = some (zo (py_lg P c), M)) : ∀ (b a : List Nat), py_ks P n = a ++ b → ∀ (acc fuel : Nat), acc + b.length * 2304 < 2 ^ 31 → b.length < fuel → mo_longest_37 R d fuel am (nI r) (nI n) (nI (py_kd P n)) (nI acc) (zo b.head?) M = some (zo (match py_lgf (py_kd P n) (py_lg P) acc b with
    | none => none
    | some s => if py_kd P n = 5 ∧ s ≠ 0 then (match py_to P (py_nb P n) with
      | none => none
      | some t => some (s * t)) else some s), M) := by
  have hk5 := ok_kd h.1 hn
  have e5 : (nI (py_kd P n) = 5) ↔ py_kd P n = 5 := pb_eqk hk5 (m := 5) (by omega)
  have e3 : (nI (py_kd P n) = 3) ↔ py_kd P n = 3 := pb_eqk hk5 (m := 3) (by omega)
  intro b
  induction b with
  | nil =>
    intro a _ acc fuel hacc hf
    cases fuel with
    | zero => cases hf
    | succ fuel =>
      have e0 : (nI acc = 0) ↔ acc = 0 := nI_eq (b := 0) (by simp at hacc; omega) (by omega)
      simp only [mo_longest_37, List.head?_nil, pb_zon, if_true, e5, e0, py_lgf]
      by_cases q5 : py_kd P n = 5
      · have h5 := ok_k5 h.1 hn q5
        rw [if_pos q5]
        by_cases q0 : acc = 0
        · rw [if_pos q0, if_neg (by simp [q0])]
          rfl
        · rw [if_neg q0, if_pos ⟨q5, q0⟩, mr_nb h hn (.inr (.inr q5))]
          simp only [Option.bind_some, mr_to h h5.2.1]
          cases ht : py_to P (py_nb P n) with
          | none => simp [pb_zon, mo_longest_135]
          | some t =>
            have := ok_to h.1 h5.2.1 ht
            rw [pb_zos, if_neg (pb_ne1 (by omega))]
            simp [mo_longest_135, pk_mul, pb_zos]
      · rw [if_neg q5, if_neg (fun x => q5 x.1)]
        rfl
  | cons c b ih =>
    intro a e acc fuel hacc hf
    cases fuel with
    | zero => cases hf
    | succ fuel =>
      have hc : c ∈ py_ks P n := by rw [e]; simp
      have hcd := ok_kid h.1 hn hc
      have h4 := ok_400 h.1 hcd
      have hne : ¬ nI c = -1 := pb_ne1 (by omega)
      simp only [List.length_cons] at hacc hf
      simp only [mo_longest_37, List.head?_cons, pb_zos, if_neg hne, hR c hc, Option.bind_some, py_lgf]
      cases hv : py_lg P c with
      | none => simp [pb_zon]
      | some v =>
        have hv2 := lg_lt h.1 hcd hv
        have hne2 : ¬ nI v = -1 := pb_ne1 (by omega)
        simp only [pb_zos, if_neg hne2, e3]
        by_cases q3 : py_kd P n = 3
        · have ih' := ih (a ++ [c]) (by rw [e]; simp) (max acc v) fuel (by omega) (by omega)
          rw [if_pos q3, pb_max (by omega) (by omega)]
          unfold mo_longest_80
          rw [mr_nx h hn e]
          simp only [Option.bind_some, ih', if_pos q3]
        · have ih' := ih (a ++ [c]) (by rw [e]; simp) (acc + v) fuel (by omega) (by omega)
          rw [if_neg q3, nI_add]
          unfold mo_longest_80
          rw [mr_nx h hn e]
          simp only [Option.bind_some, ih', if_neg q3]
theorem mr_longest (h : mp_ok am M r P) : ∀ n, py_dm P n → ∀ d, py_hg P n < d → mo_longest d am (nI r) (nI n) M = some (zo (py_lg P n), M) := by
  refine ok_down h.1 _ ?_
  intro n hn ih d hd
  cases d with
  | zero => cases hd
  | succ d =>
    have hR : ∀ c, c ∈ py_ks P n → mo_longest d am (nI r) (nI c) M = some (zo (py_lg P c), M) := by
      intro c hc
      have := ok_khg h.1 hn hc
      exact ih c hc d (by omega)
    have hlen : (py_ks P n).length < zLF := Nat.lt_of_le_of_lt (ok_ln h.1 hn) pb_LF
    have hlen2 := ok_ln h.1 hn
    rw [mo_longest.eq_2]
    have er : (fun a0 a1 a2 M => mo_longest d a0 a1 a2 M) = mo_longest d := rfl
    rw [er]
    unfold mo_longest_b
    rw [lg_eq h.1 hn]
    unfold py_lgg
    by_cases q0 : py_kd P n = 0
    · simp [mr_kd h hn, q0, mo_longest_16, mo_longest_25, pb_n0, pb_n1, pb_zos]
    · by_cases q1 : py_kd P n = 1
      · simp [mr_kd h hn, q1, mo_longest_16, mo_longest_25, pb_n0, pb_n1, pb_zos]
      · have hk5 := ok_kd h.1 hn
        have e0 : ¬ (nI (py_kd P n) = 0) := fun x => q0 ((pb_eqk hk5 (m := 0) (by omega)).mp x)
        have e1 : ¬ (nI (py_kd P n) = 1) := fun x => q1 ((pb_eqk hk5 (m := 1) (by omega)).mp x)
        have hl := mr_longest_37 (d := d) h hn (by omega) _ hR (py_ks P n) [] rfl 0 zLF (by omega) hlen
        rw [mr_kd h hn]
        simp only [Option.bind_some, if_neg e0, if_neg e1, mr_ks h hn, if_neg q0, if_neg q1]
        exact hl
theorem mr_lettersIn_4 (h : mp_ok am M r P) : ∀ (m o : Nat) (acc : Int32), o + m = py_nl P → ∀ fuel, m < fuel → mo_lettersIn_4 d fuel am (nI r) acc (nI o) M = some (((List.range' o m).map (py_lt P)).foldl (fun a q => a ||| zbit q) acc, M) := by
  have hnl := ok_nl h.1
  intro m
  induction m with
  | zero =>
    intro o acc e fuel hf
    cases fuel with
    | zero => cases hf
    | succ fuel =>
      have : o = py_nl P := by omega
      subst this
      simp [mo_lettersIn_4, mr_nl h]
  | succ m ih =>
    intro o acc e fuel hf
    cases fuel with
    | zero => cases hf
    | succ fuel =>
      have hge : ¬ nI (py_nl P) ≤ nI o := nI_ge (by omega) (by omega)
      have ih' := ih (o + 1) (acc ||| zbit (py_lt P o)) (by omega) fuel (by omega)
      rw [List.range'_succ, List.map_cons, List.foldl_cons, ← ih']
      simp only [mo_lettersIn_4, mr_nl h, Option.bind_some, if_neg hge, mr_lt h (show o < py_nl P by omega), zlet, nI_1]
      rfl
theorem mr_lettersIn (h : mp_ok am M r P) (hd : 0 < d) : mo_lettersIn d am (nI r) M = some (zor (py_ll P), M) := by
  have hnl := ok_nl h.1
  have hLF := pb_LF
  cases d with
  | zero => omega
  | succ d =>
    show mo_lettersIn_b d am (nI r) M = _
    unfold mo_lettersIn_b
    exact mr_lettersIn_4 (d := d) h (py_nl P) 0 0 (by omega) zLF (by omega)
theorem mr_inside_5 (h : mp_ok am M r P) (hd : 0 < d) {n : Nat} (hn : py_dm P n) : ∀ (m o : Nat) (acc : Int32), o + m = py_nl P → ∀ fuel, m < fuel → mo_inside_5 d fuel am (nI r) (nI n) acc (nI o) M = some (((List.range' o m).filter (fun q => py_wi P n (py_lf P q))).foldl (fun a q => a ||| zbit q) acc, M) := by
  have hnl := ok_nl h.1
  have hn4 := ok_400 h.1 hn
  intro m
  induction m with
  | zero =>
    intro o acc e fuel hf
    cases fuel with
    | zero => cases hf
    | succ fuel =>
      have : o = py_nl P := by omega
      subst this
      simp [mo_inside_5, mr_nl h]
  | succ m ih =>
    intro o acc e fuel hf
    cases fuel with
    | zero => cases hf
    | succ fuel =>
      have hge : ¬ nI (py_nl P) ≤ nI o := nI_ge (by omega) (by omega)
      have ho : o < py_nl P := by omega
      rw [List.range'_succ, List.filter_cons]
      simp only [mo_inside_5, mr_nl h, Option.bind_some, if_neg hge, mr_lf h ho, mr_isWithin h (show n < 2 ^ 31 by omega) (ok_lf h.1 ho) hd]
      cases hb : py_wi P n (py_lf P o)
      · have ih' := ih (o + 1) acc (by omega) fuel (by omega)
        simp [pb_zbf, mo_inside_40, zlet, nI_1, ih']
      · have ih' := ih (o + 1) (acc ||| zbit o) (by omega) fuel (by omega)
        rw [pb_zbt, if_neg (by decide), if_pos rfl, List.foldl_cons, ← ih']
        simp [mo_inside_40, zlet, nI_1, zbit]
theorem mr_inside (h : mp_ok am M r P) (hd : 1 < d) {n : Nat} (hn : py_dm P n) : mo_inside d am (nI r) (nI n) M = some (zor (py_in P n), M) := by
  have hnl := ok_nl h.1
  have hLF := pb_LF
  cases d with
  | zero => omega
  | succ d =>
    show mo_inside_b d am (nI r) (nI n) M = _
    unfold mo_inside_b
    exact mr_inside_5 (d := d) h (by omega) hn (py_nl P) 0 0 (by omega) zLF (by omega)
theorem ca_up (h : py_ok P) {x p : Nat} (hx : py_dm P x) (e : py_up P x = some p) : py_ca P x = if py_kd P p = 5 then some (py_nb P p) else py_ca P p := by
  unfold py_ca
  rw [ur_up h hx e]
  simp only [e]
  rfl
theorem ca_rt (h : py_ok P) : py_ca P (py_rt P) = none := by
  unfold py_ca
  rw [ur_rt h]
  simp only [ok_up0 h]
theorem ca_lt (h : py_ok P) : ∀ x, py_dm P x → ∀ c, py_ca P x = some c → c < py_nc P := by
  refine ok_climb h _ ?_ ?_
  · intro c e
    rw [ca_rt h] at e
    cases e
  · intro x p hx e ih c hc
    rw [ca_up h hx e] at hc
    by_cases q : py_kd P p = 5
    · rw [if_pos q] at hc
      injection hc with hc
      rw [← hc]
      exact (ok_k5 h (ok_pdm h hx e) q).2.1
    · rw [if_neg q] at hc
      exact ih c hc
theorem mr_countAbout_7 (h : mp_ok am M r P) : ∀ x, py_dm P x → ∀ fuel, py_hg P (py_rt P) - py_hg P x < fuel → mo_countAbout_7 d fuel am (zo (py_up P x)) M = some (zo (py_ca P x), M) := by
  refine ok_climb h.1 _ ?_ ?_
  · intro fuel hf
    cases fuel with
    | zero => omega
    | succ fuel => simp [mo_countAbout_7, ok_up0 h.1, ca_rt h.1, pb_zon]
  · intro x p hx e ih fuel hf
    have hp := ok_pdm h.1 hx e
    have h4 := ok_400 h.1 hp
    have hne : ¬ nI p = -1 := pb_ne1 (by omega)
    have h5 := ok_uphg h.1 hx e
    have h6 := ok_top h.1 hp
    have hpk := ok_kd h.1 hp
    cases fuel with
    | zero => omega
    | succ fuel =>
      have ih' := ih fuel (by omega)
      rw [ca_up h.1 hx e]
      by_cases q : py_kd P p = 5
      · simp [mo_countAbout_7, e, pb_zos, hne, mr_kd h hp, q, pb_n5, mr_nb h hp (.inr (.inr q))]
      · have hq : ¬ nI (py_kd P p) = 5 := fun e => q ((pb_eqk hpk (m := 5) (by omega)).mp e)
        simp [mo_countAbout_7, e, pb_zos, hne, mr_kd h hp, q, hq, mr_up h hp, ih']
theorem mr_countAbout (h : mp_ok am M r P) (hd : 0 < d) {x : Nat} (hx : py_dm P x) : mo_countAbout d am (nI x) M = some (zo (py_ca P x), M) := by
  have hLF := pb_LF
  have hh := ok_hg h.1
  cases d with
  | zero => omega
  | succ d =>
    show mo_countAbout_b d am (nI x) M = _
    unfold mo_countAbout_b
    rw [mr_up h hx]
    simp only [Option.bind_some]
    exact mr_countAbout_7 h x hx zLF (by omega)
theorem mr_nodeOf (h : mp_ok am M r P) {c : Nat} (hc : c < py_nc P) : mo_nodeOf d am (nI r) (nI c) M = some (nI (py_cn P c), M) := by
  have h1 := h.2.2.1.1
  have h2 := ok_nc h.1
  have e : 3 * (8 * nI r + nI c) + 2 = nI (3 * (8 * r + c) + 2) := by
    rw [mx_3]
    exact nI_add _ 2
  unfold mo_nodeOf
  rw [ml_R9 h.2.1]
  dsimp only
  rw [ml_L9 h.2.1, mo_ix e (by omega) (by omega), e, nI_clamp (by omega), (h.2.2.2.2.2.1 c hc).2.2]
theorem mr_nexts_11 (h : mp_ok am M r P) {l : List yW} (hw : mw_has am M l) : ∀ (b a : List yW), l = a ++ b → ∀ (acc : Int32) (fuel : Nat), b.length < fuel → mo_nexts_11 d fuel am acc (nI a.length) M = some ((b.map (fun W => W.1)).foldl (fun a q => a ||| zbit q) acc, M) := by
  have hlen := hw.2.1
  intro b
  induction b with
  | nil =>
    intro a e acc fuel hf
    cases fuel with
    | zero => cases hf
    | succ fuel =>
      have : l.length = a.length := by rw [e]; simp
      simp [mo_nexts_11, hw.1, this]
  | cons V b ih =>
    intro a e acc fuel hf
    cases fuel with
    | zero => cases hf
    | succ fuel =>
      have hll : l.length = a.length + (b.length + 1) := by rw [e]; simp
      have hge : ¬ nI l.length ≤ nI a.length := nI_ge (by omega) (by omega)
      have hz : z_in (nI a.length) 128 := nI_in (by omega) (by omega)
      have hv : l[a.length]? = some V := by rw [e]; simp
      have hV := (hw.2.2 a.length V hv).1
      have ih' := ih (a ++ [V]) (by rw [e]; simp) (acc ||| zbit V.1) fuel (by simp at hf; omega)
      simp only [List.length_append, List.length_cons, List.length_nil, Nat.zero_add] at ih'
      rw [List.map_cons, List.foldl_cons, ← ih']
      simp only [mo_nexts_11, hw.1, if_neg hge, ml_R22 h.2.1, ml_L22 h.2.1, if_pos hz, nI_clamp (show a.length < 2 ^ 31 by omega), hV, zlet, nI_1]
      rfl
theorem mr_nexts (h : mp_ok am M r P) (hd : 36 ≤ d) {o : Nat} (ho : o < py_nl P) : ∃ M', mo_nexts d am (nI r) (nI o) M = some (zor ((py_ways P (some o)).map (fun W => W.1)), M') ∧ zf (mw_W am) M M' := by
  have hLF := pb_LF
  cases d with
  | zero => omega
  | succ d =>
    have hpo : ∀ x, some o = some x → x < py_nl P := by intro x e; injection e with e; omega
    obtain ⟨M1, e1, e2, e3⟩ := mr_laysWays (d := d) h (by omega) hpo
    have hwl := ways_len h.1 hpo
    refine ⟨M1, ?_, e2⟩
    show mo_nexts_b d am (nI r) (nI o) M = _
    unfold mo_nexts_b
    rw [pb_zos] at e1
    rw [e1]
    simp only [Option.bind_some]
    exact mr_nexts_11 (mp_W h e2) e3 (py_ways P (some o)) [] rfl 0 zLF (by omega)
theorem aa_up (h : py_ok P) {x p : Nat} (hx : py_dm P x) (e : py_up P x = some p) : py_aa P x = (if py_kd P x = 4 then [py_nb P x] else []) ++ py_aa P p := by
  unfold py_aa
  rw [ur_up h hx e]
  rfl
theorem aa_rt (h : py_ok P) : py_aa P (py_rt P) = if py_kd P (py_rt P) = 4 then [py_nb P (py_rt P)] else [] := by
  unfold py_aa
  rw [ur_rt h]
  simp
theorem mr_anysAbout_4 (h : mp_ok am M r P) : ∀ x, py_dm P x → ∀ (acc : Int32) (fuel : Nat), py_hg P (py_rt P) - py_hg P x + 1 < fuel → mo_anysAbout_4 d fuel am acc (nI x) M = some ((py_aa P x).foldl (fun a q => a ||| zbit q) acc, M) := by
  refine ok_climb h.1 _ ?_ ?_
  · intro acc fuel hf
    have hr := ok_rt h.1
    have h4 := ok_400 h.1 hr
    have hne : ¬ nI (py_rt P) = -1 := pb_ne1 (by omega)
    have hpk := ok_kd h.1 hr
    rw [aa_rt h.1]
    cases fuel with
    | zero => omega
    | succ fuel =>
      cases fuel with
      | zero => omega
      | succ fuel =>
        by_cases q : py_kd P (py_rt P) = 4
        · simp [mo_anysAbout_4, hne, mr_kd h hr, q, pb_n4, mr_nb h hr (.inr (.inl q)), mo_anysAbout_32, zlet, mr_up h hr, ok_up0 h.1, pb_zon, zbit]
        · have hq : ¬ nI (py_kd P (py_rt P)) = 4 := fun e => q ((pb_eqk hpk (m := 4) (by omega)).mp e)
          simp [mo_anysAbout_4, hne, mr_kd h hr, q, hq, mo_anysAbout_32, zlet, mr_up h hr, ok_up0 h.1, pb_zon]
  · intro x p hx e ih acc fuel hf
    have hp := ok_pdm h.1 hx e
    have h4 := ok_400 h.1 hx
    have hne : ¬ nI x = -1 := pb_ne1 (by omega)
    have h5 := ok_uphg h.1 hx e
    have h6 := ok_top h.1 hp
    have hpk := ok_kd h.1 hx
    cases fuel with
    | zero => omega
    | succ fuel =>
      rw [aa_up h.1 hx e]
      by_cases q : py_kd P x = 4
      · have ih' := ih (acc ||| zbit (py_nb P x)) fuel (by omega)
        simp [q, List.foldl_cons]
        rw [← ih']
        simp [mo_anysAbout_4, hne, mr_kd h hx, q, pb_n4, mr_nb h hx (.inr (.inl q)), mo_anysAbout_32, zlet, mr_up h hx, e, pb_zos, zbit]
      · have hq : ¬ nI (py_kd P x) = 4 := fun e => q ((pb_eqk hpk (m := 4) (by omega)).mp e)
        have ih' := ih acc fuel (by omega)
        simp [q]
        rw [← ih']
        simp [mo_anysAbout_4, hne, mr_kd h hx, hq, mo_anysAbout_32, zlet, mr_up h hx, e, pb_zos]
theorem mr_anysAbout (h : mp_ok am M r P) (hd : 0 < d) {x : Nat} (hx : py_dm P x) : mo_anysAbout d am (nI x) M = some (zor (py_aa P x), M) := by
  have hLF := pb_LF
  have hh := ok_hg h.1
  cases d with
  | zero => omega
  | succ d =>
    show mo_anysAbout_b d am (nI x) M = _
    unfold mo_anysAbout_b
    exact mr_anysAbout_4 h x hx 0 zLF (by omega)
theorem mr_countAt (h : mp_ok am M r P) (hd : 1 < d) {o : Nat} (ho : o < py_nl P) (inner : Bool) : mo_countAt d am (nI r) (nI o) (zb inner) M = some (zo (py_ct P o inner), M) := by
  have hl := ok_lf h.1 ho
  have h8 := ok_nc h.1
  cases d with
  | zero => omega
  | succ d =>
    show mo_countAt_b d am (nI r) (nI o) (zb inner) M = _
    unfold mo_countAt_b py_ct
    rw [mr_lf h ho]
    simp only [Option.bind_some, mr_countAbout h (show 0 < d by omega) hl]
    cases hc : py_ca P (py_lf P o) with
    | none => cases inner <;> simp [pb_zon, mo_countAt_33, mo_countAt_51, zb]
    | some c =>
      have hc2 := ca_lt h.1 _ hl c hc
      have hne : ¬ nI c = -1 := pb_ne1 (by omega)
      simp only [pb_zos, if_neg hne, mr_nodeOf h hc2, Option.bind_some, mr_countAbout h (show 0 < d by omega) (ok_cn h.1 hc2)]
      cases he : py_ca P (py_cn P c) with
      | none => cases inner <;> simp [pb_zon, pb_zos, mo_countAt_33, mo_countAt_51, zb]
      | some e =>
        have he2 := ca_lt h.1 _ (ok_cn h.1 hc2) e he
        have hne2 : ¬ nI e = -1 := pb_ne1 (by omega)
        cases inner <;> simp [pb_zos, hne2, mo_countAt_33, mo_countAt_63, zb]
end
