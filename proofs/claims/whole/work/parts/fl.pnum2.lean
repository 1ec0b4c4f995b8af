/-! NUMBERS OF RUNS: counts -/
def py_tle (t : Nat) (to : Option Nat) : Bool := match to with
  | none => true
  | some x => decide (t ≤ x)
/-- the state in which a count has had t times -/
def py_tt (t : Nat) : yS := (none, fun _ => t, fun _ => 0)
def py_cnN (N : yN) (few : Nat) (to : Option Nat) : Nat → Nat → yN × yN → yN × yN
  | 0, _, s => s
  | m + 1, t, s => if py_tle t to then py_cnN N few to m (t + 1) (cv s.1 N, if few ≤ t then (fun k => s.2 k + cv s.1 N k) else s.2) else s
section
variable {P : yP} {s : yS}
theorem J_cnt (hP : py_ok P) {p b t : Nat} (hp : py_dm P p) (hk : py_kd P p = 5) (hb : py_ks P p = [b]) (ht : 1 ≤ t) (j : Nat) : py_J P p b (py_tt t) j = (if py_few P (py_nb P p) ≤ t then nv_1 j else 0) + (if py_tle (t + 1) (py_to P (py_nb P p)) then cv (py_N P b) (py_J P p b (py_tt (t + 1))) j else 0) := by
  have hbm : b ∈ py_ks P p := by rw [hb]; simp
  have hdb := ok_kid hP hp hbm
  have e := ok_kup hP hp hbm
  obtain ⟨_, k5b, k5c⟩ := ok_k5 hP hp hk
  have hps := (pre_no hP hp hbm (by omega)).2
  have hcl : py_cl P (py_tt t) p = decide (py_few P (py_nb P p) ≤ t) := by
    unfold py_cl
    rw [if_pos hk]
    show ((py_ks P p).all (py_nu P) || decide (py_fr P (py_nb P p) ≤ t)) = _
    unfold py_few
    rw [k5c]
    by_cases q : (py_ks P p).all (py_nu P) = true
    · rw [q, if_pos (.inr rfl), Bool.true_or, decide_eq_true ht]
    · have q' : (py_ks P p).all (py_nu P) = false := by simpa using q
      rw [q', Bool.false_or]
      by_cases q0 : py_fr P (py_nb P p) = 0
      · rw [if_pos (.inl q0), q0, decide_eq_true ht, decide_eq_true (Nat.zero_le _)]
      · rw [if_neg (by
          rintro (h | h)
          · exact q0 h
          · cases h)]
  have hJ1 : ∀ i, py_J P p b (py_ps2 P p (py_tt t) b) i = py_J P p b (py_tt (t + 1)) i := by
    intro i
    refine J_ext hP hdb e ?_ (fun h4 => by omega) i
    intro _
    show (if py_kd P p = 5 ∧ py_nb P p = py_nb P p then t + 1 else 0) = t + 1
    rw [if_pos ⟨hk, rfl⟩]
  cases j with
  | zero =>
    show (if py_pst P b && py_cl P (py_tt t) p then 1 else 0) = _
    rw [hps, hcl, Bool.true_and, cv_N0]
    by_cases q : py_few P (py_nb P p) ≤ t
    · rw [decide_eq_true q, if_pos rfl, if_pos q]
      simp [nv_1]
    · rw [decide_eq_false q, if_neg q]
      simp
  | succ j =>
    show sl (fun W => py_F P p j (py_ov P p (py_tt t) W)) (py_avl P (py_tt t) b) = _
    have hgt : ∀ W, py_gt P (py_tt t) p W = py_tle (t + 1) (py_to P (py_nb P p)) := by
      intro W
      unfold py_gt py_tle
      rw [if_neg (by omega), if_pos hk]
      cases py_to P (py_nb P p) with
      | none => rfl
      | some x =>
        show decide (t < x) = decide (t + 1 ≤ x)
        rfl
    have hav : py_avl P (py_tt t) b = if py_tle (t + 1) (py_to P (py_nb P p)) then py_il P (some p) b (some (py_nb P p)) else [] := by
      rw [avl_eq hP hdb e]
      have hlv : py_lv P b = if py_to P (py_nb P p) ≠ some 1 then py_il P (some p) b (some (py_nb P p)) else [] := by
        unfold py_lv
        rw [e]
        simp only
        rw [if_neg (by omega), if_neg (by omega)]
        by_cases q : py_to P (py_nb P p) ≠ some 1
        · rw [if_pos ⟨hk, q⟩, if_pos q]
        · rw [if_neg (fun h => q h.2), if_neg q]
      rw [hlv]
      simp only [hgt]
      cases hle : py_tle (t + 1) (py_to P (py_nb P p)) with
      | false =>
        rw [if_neg (show ¬ false = true by decide)]
        exact List.filter_eq_nil_iff.mpr (fun W _ h => by cases h)
      | true =>
        rw [if_pos (show true = true from rfl), if_pos (c := py_to P (py_nb P p) ≠ some 1)]
        · exact List.filter_eq_self.mpr (fun W _ => rfl)
        · intro h1
          rw [h1] at hle
          have : t + 1 ≤ 1 := by simpa [py_tle] using hle
          omega
    rw [hav]
    have hn1 : nv_1 (j + 1) = 0 := rfl
    rw [hn1]
    cases py_tle (t + 1) (py_to P (py_nb P p)) with
    | false => simp [sl_nil]
    | true =>
      rw [if_pos rfl, if_pos rfl, il_F hP hp hbm]
      have : cv (py_N P b) (py_J P p b (py_ps2 P p (py_tt t) b)) (j + 1) = cv (py_N P b) (py_J P p b (py_tt (t + 1))) (j + 1) := cv_ext _ (fun i _ => rfl) (fun i _ => hJ1 i)
      rw [this]
      simp
/-- powers begin late -/
theorem pow_late {N : yN} (h0 : N 0 = 0) {f : yN} {m : Nat} (hf : ∀ i, i < m → f i = 0) : ∀ i, i < m + 1 → cv f N i = 0 := by
  have key : ∀ (i : Nat) (f : yN) (m : Nat), (∀ i, i < m → f i = 0) → i < m + 1 → cv f N i = 0 := by
    intro i
    induction i with
    | zero =>
      intro f m hf hi
      show f 0 * N 0 = 0
      rw [h0, Nat.mul_zero]
    | succ i ih =>
      intro f m hf hi
      show f 0 * N (i + 1) + cv (fun i => f (i + 1)) N i = 0
      rw [hf 0 (by omega), Nat.zero_mul, Nat.zero_add]
      exact ih _ (m - 1) (fun k hk => hf (k + 1) (by omega)) (by omega)
  intro i hi
  exact key i f m hf hi
theorem cv_late {f g : yN} : ∀ (k m : Nat), (∀ i, i < m → f i = 0) → g 0 = 0 → k ≤ m → cv f g k = 0 := by
  intro k
  induction k generalizing f with
  | zero =>
    intro m hf hg _
    show f 0 * g 0 = 0
    rw [hg, Nat.mul_zero]
  | succ k ih =>
    intro m hf hg hk
    show f 0 * g (k + 1) + cv (fun i => f (i + 1)) g k = 0
    rw [hf 0 (by omega), Nat.zero_mul, Nat.zero_add]
    exact ih (m - 1) (fun i hi => hf (i + 1) (by omega)) hg (by omega)
theorem N_cnt (hP : py_ok P) {p b : Nat} (hp : py_dm P p) (hkd : py_kd P p = 5) (hb : py_ks P p = [b]) {k : Nat} (hk4 : k ≤ 4) : py_N P p k = (py_cnN (py_N P b) (py_few P (py_nb P p)) (py_to P (py_nb P p)) 4 1 (nv_1, nv_0)).2 k := by
  have hbm : b ∈ py_ks P p := by rw [hb]; simp
  have hdb := ok_kid hP hp hbm
  have e := ok_kup hP hp hbm
  obtain ⟨_, k5b, k5c⟩ := ok_k5 hP hp hkd
  have hto1 : py_tle 1 (py_to P (py_nb P p)) = true := by
    unfold py_tle
    cases ht : py_to P (py_nb P p) with
    | none => rfl
    | some x => exact decide_eq_true (ok_to hP k5b ht).1
  have hN : py_N P p k = cv (py_N P b) (py_J P p b (py_tt 1)) k := by
    cases k with
    | zero => exact (cv_N0 _ _).symm
    | succ k =>
      show sl (fun q => py_F P p k (py_S P q)) (py_fl P p) = _
      rw [fl_sum hP hp (ok_nd hP hp) (fun c hc => hc) (fl_kids hP hp (by omega) (by omega)), hb, sl_cons, sl_nil, Nat.add_zero, fl_N hP hp hbm]
      exact cv_ext _ (fun i _ => rfl) (fun i _ => J_ext (s := py_f0 P p b) (t := py_tt 1) hP hdb e (fun _ => rfl) (fun h4 => by omega) i)
  -- what is still to come
  have key : ∀ (m t : Nat) (row acc : yN), t + m = 5 → 1 ≤ t → (∀ i, i < t - 1 → row i = 0) → ∀ k, k ≤ 4 → (py_cnN (py_N P b) (py_few P (py_nb P p)) (py_to P (py_nb P p)) m t (row, acc)).2 k = acc k + (if py_tle t (py_to P (py_nb P p)) then cv row (cv (py_N P b) (py_J P p b (py_tt t))) k else 0) := by
    intro m
    induction m with
    | zero =>
      intro t row acc e1 ht hr k hk
      show acc k = _
      have : cv row (cv (py_N P b) (py_J P p b (py_tt t))) k = 0 := cv_late k 4 (fun i hi => hr i (by omega)) (cv_N0 _ _) hk
      rw [this]
      split <;> rfl
    | succ m ih =>
      intro t row acc e1 ht hr k hk
      rw [py_cnN]
      cases hle : py_tle t (py_to P (py_nb P p)) with
      | false =>
        rw [if_neg (show ¬ false = true by decide), if_neg (show ¬ false = true by decide)]
        rfl
      | true =>
        rw [if_pos (show true = true from rfl), if_pos (show true = true from rfl)]
        rw [ih (t + 1) _ _ (by omega) (by omega) (by
          intro i hi
          exact pow_late (N_0 b) hr i (by omega)) k hk]
        have hJ : cv row (cv (py_N P b) (py_J P p b (py_tt t))) k = (if py_few P (py_nb P p) ≤ t then cv row (py_N P b) k else 0) + (if py_tle (t + 1) (py_to P (py_nb P p)) then cv (cv row (py_N P b)) (cv (py_N P b) (py_J P p b (py_tt (t + 1)))) k else 0) := by
          rw [← cv_assoc]
          have e2 : cv (cv row (py_N P b)) (py_J P p b (py_tt t)) k = cv (cv row (py_N P b)) (fun j => (if py_few P (py_nb P p) ≤ t then nv_1 j else 0) + (if py_tle (t + 1) (py_to P (py_nb P p)) then cv (py_N P b) (py_J P p b (py_tt (t + 1))) j else 0)) k := cv_ext k (fun i _ => rfl) (fun i _ => J_cnt hP hp hkd hb ht i)
          rw [e2, cv_add_r]
          congr 1
          · by_cases q : py_few P (py_nb P p) ≤ t
            · simp only [if_pos q]
              exact cv_1_r _ _
            · simp only [if_neg q]
              exact cv_0_r _ _
          · cases py_tle (t + 1) (py_to P (py_nb P p)) with
            | true => rfl
            | false => exact cv_0_r _ _
        rw [hJ]
        dsimp only
        by_cases q : py_few P (py_nb P p) ≤ t
        · simp only [if_pos q]
          omega
        · simp only [if_neg q]
          omega
  have := key 4 1 nv_1 nv_0 rfl (Nat.le_refl _) (fun i hi => by omega) k hk4
  rw [this, hto1, if_pos rfl, cv_1_l, hN]
  show _ = 0 + _
  rw [Nat.zero_add]
end
