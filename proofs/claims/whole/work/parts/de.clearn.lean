/-! THE CLASS learns: what each part gives -/
section
variable {M M' : zM} {pa : Nat → Nat} {P : yP} {le ro d : Nat}
/-- the state while node n is learned: what its kids are is known -/
def lk_x (M : zM) (pa : Nat → Nat) (P : yP) (n : Nat) : Prop := cN_x M pa P ∧ ∀ c, c ∈ py_ks P n → ca_n M pa P c
theorem lk_zf (hP : py_ok P) {n : Nat} (hn : py_dm P n) (h : lk_x M pa P n) (hf : zf (lw_W ro (pa n)) M M') : lk_x M' pa P n := ⟨cN_zf h.1 hf lw_8, fun c hc => ca_zf (h.2 c hc) hf (cN_ne h.1 hP hn hc)⟩
theorem zf_3 {a j : Nat} {v : Int32} (hj : 8 ≤ j ∧ j ≤ 14) : zf (lw_W ro a) M (zm_setI M 3 a j v) := zf_set (.inl ⟨rfl, rfl, hj.1, hj.2⟩)
theorem zf_21 {a : Nat} (h : zf (fun t k j => t = 21 ∧ k = a + 1) M M') : zf (lw_W ro a) M M' := zf_mono h (fun t k j w => .inr (.inl w))
theorem zf_20 {a : Nat} {J : Nat → Prop} (h : zf (fun t k j => t = 20 ∧ k = ro ∧ J j) M M') : zf (lw_W ro a) M M' := zf_mono h (fun t k j w => .inr (.inr ⟨w.1, w.2.1⟩))
theorem zf_20' {a : Nat} (h : zf (fun t k j => t = 20 ∧ k = ro) M M') : zf (lw_W ro a) M M' := zf_mono h (fun t k j w => .inr (.inr w))
theorem cl_gather_73 {a : Nat} : ∀ (m k : Nat) (M : zM), k + m = 5 → zm_R M 3 a 15 = some (a + 1) → zm_L M 21 (a + 1) = 5 → (∀ j, j < k → zm_I M 21 (a + 1) j = 0) → ∀ fuel, m < fuel → ∃ M', le_gather_73 d fuel (some a) (nI k) M = some M' ∧ zf (fun t k j => t = 21 ∧ k = a + 1) M M' ∧ ∀ j, j < 5 → zm_I M' 21 (a + 1) j = 0 := by
  intro m
  induction m with
  | zero =>
    intro k M hk h15 hL hc fuel hf
    cases fuel with
    | zero => cases hf
    | succ fuel =>
      have : k = 5 := by omega
      subst this
      refine ⟨M, ?_, zf_refl _ _, hc⟩
      rw [le_gather_73, if_pos (show (5 : Int32) ≤ nI 5 by decide)]
  | succ m ih =>
    intro k M hk h15 hL hc fuel hf
    cases fuel with
    | zero => cases hf
    | succ fuel =>
      have hz : z_in (nI k) 5 := nI_in (by omega) (by omega)
      have hfz : zf (fun t k j => t = 21 ∧ k = a + 1) M (zm_setI M 21 (a + 1) k 0) := zf_set ⟨rfl, rfl⟩
      obtain ⟨M', g1, g2, g3⟩ := ih (k + 1) (zm_setI M 21 (a + 1) k 0) (by omega) h15 hL (by
        intro j hj
        by_cases e : j = k
        · subst e; exact pm_same
        · rw [pm_ne (by omega)]; exact hc j (by omega)) fuel (by omega)
      refine ⟨M', ?_, zf_trans hfz g2, g3⟩
      rw [le_gather_73, if_neg (show ¬ (5 : Int32) ≤ nI k from nI_ge (b := 5) (by omega) (by omega))]
      simp only [h15, hL, if_pos hz, nI_clamp (show k < 2 ^ 31 by omega), zlet, nI_1]
      exact g1
theorem cl_gather_20 (hP : py_ok P) {n : Nat} (hn : py_dm P n) : ∀ (b a : List Nat) (M : zM), py_ks P n = a ++ b → lk_x M pa P n → ∀ fuel, b.length < fuel → ∃ M', le_gather_20 d fuel (some (pa n)) (b.head?.map pa) M = some M' ∧ zf (lw_W ro (pa n)) M M' ∧ zm_I M' 3 (pa n) 9 = py_go1 (py_fl P) b (zm_I M 3 (pa n) 9) ∧ zm_I M' 3 (pa n) 10 = py_go1 (py_lal P) b (zm_I M 3 (pa n) 10) ∧ zm_I M' 3 (pa n) 11 = py_go1 (py_in P) b (zm_I M 3 (pa n) 11) ∧ ∀ j, j < 5 → zm_I M' 21 (pa n + 1) j = 0 := by
  intro b
  induction b with
  | nil =>
    intro a M e h fuel hf
    have hlf := zLF_10
    cases fuel with
    | zero => cases hf
    | succ fuel =>
      obtain ⟨M', g1, g2, g3⟩ := cl_gather_73 (d := d) (a := pa n) 5 0 M (by omega) (cN_15 h.1 hn).1 (cN_15 h.1 hn).2 (fun j hj => by omega) zLF (by omega)
      refine ⟨M', ?_, zf_21 g2, ?_, ?_, ?_, g3⟩
      · simp only [List.head?_nil, Option.map_none, le_gather_20]
        exact g1
      · exact g2.2.2.2.2.2.2 3 (pa n) 9 (by omega)
      · exact g2.2.2.2.2.2.2 3 (pa n) 10 (by omega)
      · exact g2.2.2.2.2.2.2 3 (pa n) 11 (by omega)
  | cons c b ih =>
    intro a M e h fuel hf
    cases fuel with
    | zero => cases hf
    | succ fuel =>
      have hc : c ∈ py_ks P n := by rw [e]; simp
      obtain ⟨k8, k9, k10, k11, _⟩ := h.2 c hc
      have hne := cN_ne h.1 hP hn hc
      have hfz : zf (lw_W ro (pa n)) M (zm_setI (zm_setI (zm_setI M 3 (pa n) 9 (zm_I M 3 (pa n) 9 ||| zor (py_fl P c))) 3 (pa n) 10 (zm_I M 3 (pa n) 10 ||| zor (py_lal P c))) 3 (pa n) 11 (zm_I M 3 (pa n) 11 ||| zor (py_in P c))) := zf_trans (zf_trans (zf_3 (by omega)) (zf_3 (by omega))) (zf_3 (by omega))
      obtain ⟨M', g1, g2, g3, g4, g5, g6⟩ := ih (a ++ [c]) _ (by rw [e]; simp) (lk_zf hP hn h hfz) fuel (by simp at hf; omega)
      refine ⟨M', ?_, zf_trans hfz g2, ?_, ?_, ?_, g6⟩
      · have a1 : zm_I (zm_setI M 3 (pa n) 9 (zm_I M 3 (pa n) 9 ||| zor (py_fl P c))) 3 (pa n) 10 = zm_I M 3 (pa n) 10 := pm_ne (by omega)
        have a2 : zm_I (zm_setI M 3 (pa n) 9 (zm_I M 3 (pa n) 9 ||| zor (py_fl P c))) 3 (pa c) 10 = zor (py_lal P c) := (pm_ne (by omega)).trans k10
        have a3 : zm_I (zm_setI (zm_setI M 3 (pa n) 9 (zm_I M 3 (pa n) 9 ||| zor (py_fl P c))) 3 (pa n) 10 (zm_I M 3 (pa n) 10 ||| zor (py_lal P c))) 3 (pa n) 11 = zm_I M 3 (pa n) 11 := (pm_ne (by omega)).trans (pm_ne (by omega))
        have a4 : zm_I (zm_setI (zm_setI M 3 (pa n) 9 (zm_I M 3 (pa n) 9 ||| zor (py_fl P c))) 3 (pa n) 10 (zm_I M 3 (pa n) 10 ||| zor (py_lal P c))) 3 (pa c) 11 = zor (py_in P c) := ((pm_ne (by omega)).trans (pm_ne (by omega))).trans k11
        simp only [List.head?_cons, Option.map_some, le_gather_20, k9, zlet, a1, a2, a3, a4, pm_RI, cN_nx h.1 hn e]
        exact g1
      · rw [g3, pm_ne (by omega), pm_ne (by omega), pm_same]
        rfl
      · rw [g4, pm_ne (by omega), pm_same]
        rfl
      · rw [g5, pm_same]
        rfl
theorem ks_LF (hP : py_ok P) {n : Nat} (hn : py_dm P n) : (py_ks P n).length < zLF := Nat.lt_of_le_of_lt (ok_ln hP hn) pb_LF
theorem cl_gather (hP : py_ok P) {n : Nat} (hn : py_dm P n) (h : lk_x M pa P n) : ∃ M', le_gather d le (some (pa n)) M = some M' ∧ zf (lw_W ro (pa n)) M M' ∧ zm_I M' 3 (pa n) 9 = py_go1 (py_fl P) (py_ks P n) 0 ∧ zm_I M' 3 (pa n) 10 = py_go1 (py_lal P) (py_ks P n) 0 ∧ zm_I M' 3 (pa n) 11 = py_go1 (py_in P) (py_ks P n) 0 ∧ ∀ j, j < 5 → zm_I M' 21 (pa n + 1) j = 0 := by
  have hfz : zf (lw_W ro (pa n)) M (zm_setI (zm_setI (zm_setI M 3 (pa n) 9 0) 3 (pa n) 10 0) 3 (pa n) 11 0) := zf_trans (zf_trans (zf_3 (by omega)) (zf_3 (by omega))) (zf_3 (by omega))
  obtain ⟨M', g1, g2, g3, g4, g5, g6⟩ := cl_gather_20 (d := d) (ro := ro) hP hn (py_ks P n) [] _ rfl (lk_zf hP hn h hfz) zLF (ks_LF hP hn)
  refine ⟨M', ?_, zf_trans hfz g2, ?_, ?_, ?_, g6⟩
  · unfold le_gather
    simp only [zlet, pm_RI, cN_ks h.1 hn]
    exact g1
  · rw [g3, pm_ne (by omega), pm_ne (by omega), pm_same]
  · rw [g4, pm_ne (by omega), pm_same]
  · rw [g5, pm_same]
/-- all the parts together -/
theorem cl_all_13 (hP : py_ok P) {n : Nat} (hn : py_dm P n) (hk3 : py_kd P n ≠ 3) : ∀ (b a : List Nat) (e : Bool) (s : Nat) (m : Option Nat), py_ks P n = a ++ b → lk_x M pa P n → (∀ x, m = some x → x ≤ 2304 * a.length) → ∀ fuel, b.length < fuel → le_learnAllTogether_13 d fuel (some (pa n)) (zb e) (nI s) (zo m) (b.head?.map pa) M = some (zm_setI (zm_setI (zm_setI M 3 (pa n) 8 (zb (e && b.all (py_nu P)))) 3 (pa n) 12 (nI (s + (b.map (py_ln P)).sum))) 3 (pa n) 13 (zo (b.foldl (fun a c => py_lo1 (py_kd P n) a (py_lg P c)) m))) := by
  intro b
  induction b with
  | nil =>
    intro a e s m _ h hm fuel hf
    cases fuel with
    | zero => cases hf
    | succ fuel =>
      simp only [List.head?_nil, Option.map_none, le_learnAllTogether_13, if_pos (pb_zb e), zlet, List.all_nil, Bool.and_true, List.map_nil, List.sum_nil, Nat.add_zero, List.foldl_nil]
  | cons c b ih =>
    intro a e s m ea h hm fuel hf
    cases fuel with
    | zero => cases hf
    | succ fuel =>
      have hc : c ∈ py_ks P n := by rw [ea]; simp
      have hcd := ok_kid hP hn hc
      obtain ⟨k8, k9, k10, k11, k12, k13, _⟩ := h.2 c hc
      have hB := B_le hP hcd
      have hlg : ∀ v, py_lg P c = some v → v ≤ 2304 := fun v hv => Nat.le_trans (lg_le hP c hcd v hv) hB
      have hnx := cN_nx h.1 hn ea
      have hal : a.length + 1 ≤ 400 := by
        have h1 := ok_ln hP hn
        rw [ea, List.length_append, List.length_cons] at h1
        omega
      have mid : ∀ (e' : Bool), le_learnAllTogether_35 (fun p0 p1 p2 p3 p4 m => le_learnAllTogether_13 d fuel p0 p1 p2 p3 p4 m) d (some (pa n)) (nI s) (zo m) (some (pa c)) (zb e') M = le_learnAllTogether_13 d fuel (some (pa n)) (zb e') (nI (s + py_ln P c)) (zo (py_lo1 (py_kd P n) m (py_lg P c))) (b.head?.map pa) M := by
        intro e'
        unfold le_learnAllTogether_35
        simp only [k12, nI_add, zlet, k13, le_learnAllTogether_59, le_learnAllTogether_71, hnx]
        cases m with
        | none => rw [if_pos pb_zon]; rfl
        | some x =>
          have hx := hm x rfl
          rw [if_neg (show ¬ zo (some x) = -1 from pb_ne1 (by omega))]
          cases el : py_lg P c with
          | none => rw [if_pos pb_zon]; rfl
          | some v =>
            have hv := hlg v el
            rw [if_neg (show ¬ zo (some v) = -1 from pb_ne1 (by omega))]
            have : zo (some x) + zo (some v) = zo (py_lo1 (py_kd P n) (some x) (some v)) := by
              show nI x + nI v = nI (if py_kd P n = 3 then max x v else x + v)
              rw [if_neg hk3, nI_add]
            rw [this]
      have hm2 : ∀ x, py_lo1 (py_kd P n) m (py_lg P c) = some x → x ≤ 2304 * (a ++ [c]).length := by
        intro x hx
        rw [List.length_append]
        show x ≤ 2304 * (a.length + 1)
        unfold py_lo1 at hx
        cases m with
        | none => cases hx
        | some y =>
          cases el : py_lg P c with
          | none => rw [el] at hx; cases hx
          | some v =>
            rw [el] at hx
            have hv := hlg v el
            have hy := hm y rfl
            dsimp only at hx
            rw [if_neg hk3] at hx
            injection hx with hx
            omega
      have fin := fun e' => ih (a ++ [c]) e' (s + py_ln P c) (py_lo1 (py_kd P n) m (py_lg P c)) (by rw [ea]; simp) h hm2 fuel (by simp at hf; omega)
      have tot : ∀ e', (e && py_nu P c) = e' → le_learnAllTogether_13 d fuel (some (pa n)) (zb e') (nI (s + py_ln P c)) (zo (py_lo1 (py_kd P n) m (py_lg P c))) (b.head?.map pa) M = some (zm_setI (zm_setI (zm_setI M 3 (pa n) 8 (zb (e && (c :: b).all (py_nu P)))) 3 (pa n) 12 (nI (s + ((c :: b).map (py_ln P)).sum))) 3 (pa n) 13 (zo ((c :: b).foldl (fun a c => py_lo1 (py_kd P n) a (py_lg P c)) m))) := by
        intro e' he
        rw [fin e', ← he, List.all_cons, List.map_cons, List.sum_cons, List.foldl_cons, ← Bool.and_assoc, Nat.add_assoc]
      simp only [List.head?_cons, Option.map_some, le_learnAllTogether_13, k8, le_learnAllTogether_34]
      cases e with
      | false =>
        rw [if_pos pb_zbf]
        have := mid false
        rw [pb_zbf] at this
        rw [this]
        exact tot false rfl
      | true =>
        rw [if_neg (show ¬ zb true = 0 by decide)]
        cases hu : py_nu P c with
        | false =>
          rw [if_pos pb_zbf]
          have := mid false
          rw [pb_zbf] at this
          rw [this]
          exact tot false (by rw [hu]; rfl)
        | true =>
          rw [if_neg (show ¬ zb true = 0 by decide)]
          have := mid true
          rw [pb_zbt] at this
          rw [this]
          exact tot true (by rw [hu]; rfl)
theorem cl_all (hP : py_ok P) {n : Nat} (hn : py_dm P n) (hk : py_kd P n = 2 ∨ py_kd P n = 4) (h : lk_x M pa P n) : ∃ M', le_learnAllTogether d le (some (pa n)) M = some M' ∧ zf (lw_W ro (pa n)) M M' ∧ zm_I M' 3 (pa n) 8 = zb (py_nu P n) ∧ zm_I M' 3 (pa n) 12 = nI (py_ln P n) ∧ zm_I M' 3 (pa n) 13 = zo (py_lg P n) ∧ (∀ j, j ≠ 8 → j ≠ 12 → j ≠ 13 → zm_I M' 3 (pa n) j = zm_I M 3 (pa n) j) ∧ (∀ j, zm_I M' 21 (pa n + 1) j = zm_I M 21 (pa n + 1) j) := by
  have g := cl_all_13 (d := d) hP hn (by omega) (py_ks P n) [] true 0 (some 0) rfl h (fun x hx => by injection hx with hx; omega) zLF (ks_LF hP hn)
  have g : le_learnAllTogether_13 d zLF (some (pa n)) 1 0 0 ((py_ks P n).head?.map pa) M = _ := g
  refine ⟨zm_setI (zm_setI (zm_setI M 3 (pa n) 8 (zb (true && (py_ks P n).all (py_nu P)))) 3 (pa n) 12 (nI (0 + ((py_ks P n).map (py_ln P)).sum))) 3 (pa n) 13 (zo ((py_ks P n).foldl (fun a c => py_lo1 (py_kd P n) a (py_lg P c)) (some 0))), ?_, zf_trans (zf_trans (zf_3 (j := 8) (by omega)) (zf_3 (j := 12) (by omega))) (zf_3 (j := 13) (by omega)), ?_, ?_, ?_, ?_, ?_⟩
  · unfold le_learnAllTogether
    simp only [cN_ks h.1 hn]
    exact g
  · rw [pm_ne (by omega), pm_ne (by omega), pm_same, Bool.true_and, nu_all hP hn hk]
  · rw [pm_ne (by omega), pm_same, Nat.zero_add, ln_sum hP hn hk]
  · rw [pm_same, lo1_lgf, lg_eq hP hn]
    unfold py_lgg
    rw [if_neg (by omega), if_neg (by omega)]
    cases py_lgf (py_kd P n) (py_lg P) 0 (py_ks P n) with
    | none => rfl
    | some s =>
      dsimp only
      rw [if_neg (by omega)]
  · intro j j1 j2 j3
    rw [pm_ne (by omega), pm_ne (by omega), pm_ne (by omega)]
  · intro j
    rw [pm_ne (by omega), pm_ne (by omega), pm_ne (by omega)]
/-- what holds of a node when it is learned -/
theorem ca_mk {n : Nat} (h8 : zm_I M 3 (pa n) 8 = zb (py_nu P n)) (h9 : zm_I M 3 (pa n) 9 = zor (py_fl P n)) (h10 : zm_I M 3 (pa n) 10 = zor (py_lal P n)) (h11 : zm_I M 3 (pa n) 11 = zor (py_in P n)) (h12 : zm_I M 3 (pa n) 12 = nI (py_ln P n)) (h13 : zm_I M 3 (pa n) 13 = zo (py_lg P n)) (h14 : py_kd P n = 4 → zm_I M 3 (pa n) 14 = zor (py_ml (py_nu P) (py_ks P n) 0)) (hrd : ∀ k, 1 ≤ k → k ≤ 4 → zm_I M 21 (pa n + 1) k = py_rd P n k) : ca_n M pa P n := ⟨h8, h9, h10, h11, h12, h13, h14, hrd⟩
theorem zor_1 {q : Nat} : zor [q] = 1 <<< (nI q &&& 31) := zor_one
theorem leaf_l (hP : py_ok P) {n : Nat} (hn : py_dm P n) (hk : py_kd P n = 0) : zor (py_fl P n) = zbit (py_nb P n) ∧ zor (py_lal P n) = zbit (py_nb P n) ∧ zor (py_in P n) = zbit (py_nb P n) := by
  obtain ⟨k1, k2, k3, k4, k5⟩ := ok_k0 hP hn hk
  have hnl := ok_nl hP
  have h1 : ∀ q, q ∈ [py_nb P n] → q < 32 := fun q hq => by
    have : q = py_nb P n := by simpa using hq
    omega
  have wq : ∀ q, q < py_nl P → py_wi P n (py_lf P q) = true → q = py_nb P n := by
    intro q hq hw
    have := (wi_lf hP hq n hn).mp hw
    omega
  have hself : py_wi P n (py_lf P (py_nb P n)) = true := by rw [k3]; exact wi_self hP hn
  refine ⟨?_, ?_, ?_⟩
  · rw [← zor_one]
    refine zor_ext (fl_32 hP) h1 ?_
    intro q
    rw [mem_fl]
    constructor
    · intro ⟨q1, q2⟩
      have hw : py_wi P n (py_lf P q) = true := by
        cases hw : py_wi P n (py_lf P q) with
        | true => rfl
        | false => rw [fx_wi hP _ (ok_lf hP q1) hw] at q2; cases q2
      simp [wq q q1 hw]
    · intro hq
      have : q = py_nb P n := by simpa using hq
      subst this
      refine ⟨k2, ?_⟩
      rw [k3]
      exact fx_self hP hn
  · rw [← zor_one]
    refine zor_ext (lal_32 hP) h1 ?_
    intro q
    rw [mem_lal]
    constructor
    · intro ⟨q1, q2⟩
      simp [wq q q1 (la_wi hP _ (ok_lf hP q1) q2)]
    · intro hq
      have : q = py_nb P n := by simpa using hq
      subst this
      refine ⟨k2, ?_⟩
      rw [k3]
      exact la_self hP hn
  · rw [← zor_one]
    refine zor_ext (in_32 hP) h1 ?_
    intro q
    rw [mem_in]
    constructor
    · intro ⟨q1, q2⟩
      simp [wq q q1 q2]
    · intro hq
      have : q = py_nb P n := by simpa using hq
      subst this
      exact ⟨k2, hself⟩
theorem none_l (hP : py_ok P) {n : Nat} (hn : py_dm P n) (hk : py_kd P n = 1) : zor (py_fl P n) = 0 ∧ zor (py_lal P n) = 0 ∧ zor (py_in P n) = 0 := by
  have k := ok_k1 hP hn hk
  have wq : ∀ q, q < py_nl P → py_wi P n (py_lf P q) = true → False := by
    intro q hq hw
    have := (wi_lf hP hq n hn).mp hw
    omega
  have e : ∀ L : List Nat, (∀ q, ¬ q ∈ L) → zor L = 0 := by
    intro L hL
    cases L with
    | nil => rfl
    | cons x l => exact absurd List.mem_cons_self (hL x)
  refine ⟨e _ ?_, e _ ?_, e _ ?_⟩
  · intro q hq
    obtain ⟨q1, q2⟩ := mem_fl.mp hq
    cases hw : py_wi P n (py_lf P q) with
    | true => exact wq q q1 hw
    | false => rw [fx_wi hP _ (ok_lf hP q1) hw] at q2; cases q2
  · intro q hq
    obtain ⟨q1, q2⟩ := mem_lal.mp hq
    exact wq q q1 (la_wi hP _ (ok_lf hP q1) q2)
  · intro q hq
    obtain ⟨q1, q2⟩ := mem_in.mp hq
    exact wq q q1 q2
theorem go_kids (hP : py_ok P) {n : Nat} (hn : py_dm P n) (hk : 2 ≤ py_kd P n) : (py_kd P n ≠ 2 → py_go1 (py_fl P) (py_ks P n) 0 = zor (py_fl P n) ∧ py_go1 (py_lal P) (py_ks P n) 0 = zor (py_lal P n)) ∧ py_go1 (py_in P) (py_ks P n) 0 = zor (py_in P n) := by
  refine ⟨fun hk2 => ⟨?_, ?_⟩, ?_⟩
  · exact go1_eq (fun c _ => fl_32 hP) (fl_32 hP) (fl_kids hP hn hk hk2)
  · exact go1_eq (fun c _ => lal_32 hP) (lal_32 hP) (lal_kids hP hn hk hk2)
  · exact go1_eq (fun c _ => in_32 hP) (in_32 hP) (in_kids hP hn hk)
theorem cl_letter (hP : py_ok P) {n : Nat} (hn : py_dm P n) (hk : py_kd P n = 0) (h : lk_x M pa P n) (h0 : ∀ j, j < 5 → zm_I M 21 (pa n + 1) j = 0) : ∃ M', le_learnLetter d le (some (pa n)) M = some M' ∧ zf (lw_W ro (pa n)) M M' ∧ ca_n M' pa P n := by
  obtain ⟨k1, k2, k3, k4, k5⟩ := ok_k0 hP hn hk
  obtain ⟨l1, l2, l3⟩ := leaf_l hP hn hk
  have hnb := cN_nb h.1 hn (.inl hk)
  have eln : py_ln P n = 1 := by
    unfold py_ln
    rw [wd_eq hP hn]
    unfold py_wg
    have hu : py_nu P n = false := by
      rw [nu_eq hP hn]
      unfold py_ng
      rw [if_pos hk]
    rw [if_neg (by rw [hu]; simp), if_pos hk]
    rfl
  have elg : py_lg P n = some 1 := by
    rw [lg_eq hP hn]
    unfold py_lgg
    rw [if_pos hk]
  have eu : py_nu P n = false := by
    rw [nu_eq hP hn]
    unfold py_ng
    rw [if_pos hk]
  have erd : ∀ k, py_rd P n k = if k = 1 then 1 else 0 := by
    intro k
    rw [rd_eq hP hn]
    unfold py_rdg
    rw [if_pos hk]
  have hz : z_in 1 5 := by decide
  obtain ⟨Mf, hMf⟩ : ∃ Y, Y = zm_setI (zm_setI (zm_setI (zm_setI (zm_setI (zm_setI (zm_setI M 3 (pa n) 9 (zbit (py_nb P n))) 3 (pa n) 10 (zbit (py_nb P n))) 3 (pa n) 11 (zbit (py_nb P n))) 3 (pa n) 8 0) 3 (pa n) 12 1) 3 (pa n) 13 1) 21 (pa n + 1) 1 1 := ⟨_, rfl⟩
  refine ⟨Mf, ?_, ?_, ca_mk ?_ ?_ ?_ ?_ ?_ ?_ (fun x => by omega) ?_⟩
  · unfold le_learnLetter
    have e9 : (1 : Int32) <<< (nI (py_nb P n) &&& 31) = zbit (py_nb P n) := rfl
    have a1 : zm_I (zm_setI M 3 (pa n) 9 (zbit (py_nb P n))) 3 (pa n) 9 = zbit (py_nb P n) := pm_same
    have a2 : zm_I (zm_setI (zm_setI M 3 (pa n) 9 (zbit (py_nb P n))) 3 (pa n) 10 (zbit (py_nb P n))) 3 (pa n) 9 = zbit (py_nb P n) := (pm_ne (by omega)).trans pm_same
    simp only [hnb, e9, zlet, a1, a2, pm_RI, (cN_15 h.1 hn).1, pm_LI, (cN_15 h.1 hn).2, if_pos hz, hMf]
    rfl
  · rw [hMf]
    exact zf_trans (zf_trans (zf_trans (zf_trans (zf_trans (zf_trans (zf_3 (by omega)) (zf_3 (by omega))) (zf_3 (by omega))) (zf_3 (by omega))) (zf_3 (by omega))) (zf_3 (by omega))) (zf_set (.inr (.inl ⟨rfl, rfl⟩)))
  · rw [hMf, pm_ne (by omega), pm_ne (by omega), pm_ne (by omega), pm_same, eu]; rfl
  · rw [hMf, pm_ne (by omega), pm_ne (by omega), pm_ne (by omega), pm_ne (by omega), pm_ne (by omega), pm_ne (by omega), pm_same, l1]
  · rw [hMf, pm_ne (by omega), pm_ne (by omega), pm_ne (by omega), pm_ne (by omega), pm_ne (by omega), pm_same, l2]
  · rw [hMf, pm_ne (by omega), pm_ne (by omega), pm_ne (by omega), pm_ne (by omega), pm_same, l3]
  · rw [hMf, pm_ne (by omega), pm_ne (by omega), pm_same, eln]; rfl
  · rw [hMf, pm_ne (by omega), pm_same, elg]; rfl
  · intro k k1 k2
    rw [erd, hMf]
    by_cases e : k = 1
    · subst e
      rw [pm_same, if_pos rfl]
    · rw [pm_ne (by omega), if_neg e, pm_ne (by omega), pm_ne (by omega), pm_ne (by omega), pm_ne (by omega), pm_ne (by omega), pm_ne (by omega)]
      exact h0 k (by omega)
theorem cl_nothing (hP : py_ok P) {n : Nat} (hn : py_dm P n) (hk : py_kd P n = 1) (h0 : ∀ j, j < 5 → zm_I M 21 (pa n + 1) j = 0) (h9 : zm_I M 3 (pa n) 9 = 0 ∧ zm_I M 3 (pa n) 10 = 0 ∧ zm_I M 3 (pa n) 11 = 0) : ∃ M', le_learnNothing d le (some (pa n)) M = some M' ∧ zf (lw_W ro (pa n)) M M' ∧ ca_n M' pa P n := by
  obtain ⟨l1, l2, l3⟩ := none_l hP hn hk
  have eu : py_nu P n = true := by
    rw [nu_eq hP hn]
    unfold py_ng
    rw [if_neg (by omega), if_pos hk]
  have eln : py_ln P n = 0 := by
    unfold py_ln
    rw [wd_nu hP hn eu]
    rfl
  have elg : py_lg P n = some 0 := by
    rw [lg_eq hP hn]
    unfold py_lgg
    rw [if_neg (by omega), if_pos hk]
  have erd : ∀ k, py_rd P n k = 0 := by
    intro k
    rw [rd_eq hP hn]
    unfold py_rdg
    rw [if_neg (by omega), if_pos hk]
  refine ⟨zm_setI (zm_setI (zm_setI M 3 (pa n) 8 1) 3 (pa n) 12 0) 3 (pa n) 13 0, rfl, zf_trans (zf_trans (zf_3 (by omega)) (zf_3 (by omega))) (zf_3 (by omega)), ca_mk ?_ ?_ ?_ ?_ ?_ ?_ (fun x => by omega) ?_⟩
  · rw [pm_ne (by omega), pm_ne (by omega), pm_same, eu]; rfl
  · rw [pm_ne (by omega), pm_ne (by omega), pm_ne (by omega), l1]; exact h9.1
  · rw [pm_ne (by omega), pm_ne (by omega), pm_ne (by omega), l2]; exact h9.2.1
  · rw [pm_ne (by omega), pm_ne (by omega), pm_ne (by omega), l3]; exact h9.2.2
  · rw [pm_ne (by omega), pm_same, eln]; rfl
  · rw [pm_same, elg]; rfl
  · intro k k1 k2
    rw [erd, pm_ne (by omega), pm_ne (by omega), pm_ne (by omega)]
    exact h0 k (by omega)
end
