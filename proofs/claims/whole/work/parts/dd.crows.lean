/-! THE CLASS: the nodes of a rule; the learner's rows -/
def cN_x (M : zM) (pa : Nat → Nat) (P : yP) : Prop := (∀ n, py_dm P n → zm_I M 3 (pa n) 0 = nI (ck (py_kd P n)) ∧ (py_kd P n = 0 ∨ py_kd P n = 4 ∨ py_kd P n = 5 → zm_I M 3 (pa n) 1 = nI (py_nb P n)) ∧ zm_R M 3 (pa n) 4 = (py_up P n).map pa ∧ zm_R M 3 (pa n) 5 = (py_ks P n).head?.map pa ∧ zm_R M 3 (pa n) 15 = some (pa n + 1) ∧ zm_L M 21 (pa n + 1) = 5 ∧ pa n + 1 < zm_n M) ∧ (∀ n a c b, py_dm P n → py_ks P n = a ++ c :: b → zm_R M 3 (pa c) 7 = b.head?.map pa ∧ zm_I M 3 (pa c) 2 = nI a.length) ∧ (∀ m n, py_dm P m → py_dm P n → pa m = pa n → m = n)
def py_ml (nu : Nat → Bool) : List Nat → Nat → List Nat
  | [], _ => []
  | c :: l, i => (if nu c then [] else [i]) ++ py_ml nu l (i + 1)
def ca_n (M : zM) (pa : Nat → Nat) (P : yP) (c : Nat) : Prop := zm_I M 3 (pa c) 8 = zb (py_nu P c) ∧ zm_I M 3 (pa c) 9 = zor (py_fl P c) ∧ zm_I M 3 (pa c) 10 = zor (py_lal P c) ∧ zm_I M 3 (pa c) 11 = zor (py_in P c) ∧ zm_I M 3 (pa c) 12 = nI (py_ln P c) ∧ zm_I M 3 (pa c) 13 = zo (py_lg P c) ∧ (py_kd P c = 4 → zm_I M 3 (pa c) 14 = zor (py_ml (py_nu P) (py_ks P c) 0)) ∧ (∀ k, 1 ≤ k → k ≤ 4 → zm_I M 21 (pa c + 1) k = py_rd P c k)
/-- what learning a node may change: the node's own knowledge, its readings, the rows -/
def lw_W (ro a t k j : Nat) : Prop := (t = 3 ∧ k = a ∧ 8 ≤ j ∧ j ≤ 14) ∨ (t = 21 ∧ k = a + 1) ∨ (t = 20 ∧ k = ro)
def lp_x (M : zM) (le ro : Nat) : Prop := zm_R M 2 le 0 = some ro ∧ zm_L M 20 ro = 25
section
variable {M M' : zM} {pa : Nat → Nat} {P : yP} {W : Nat → Nat → Nat → Prop} {le ro d : Nat}
theorem lp_zf (h : lp_x M le ro) (hf : zf W M M') : lp_x M' le ro := by
  unfold lp_x
  rw [hf.1, hf.2.1]
  exact h
theorem cN_zf (h : cN_x M pa P) (hf : zf W M M') (hw : ∀ k j, j < 8 → ¬ W 3 k j) : cN_x M' pa P := by
  obtain ⟨h1, h2, h3⟩ := h
  refine ⟨?_, ?_, h3⟩
  · intro n hn
    rw [hf.1, hf.2.1, hf.2.2.2.2.1, hf.2.2.2.2.2.2 3 (pa n) 0 (hw _ _ (by omega)), hf.2.2.2.2.2.2 3 (pa n) 1 (hw _ _ (by omega))]
    exact h1 n hn
  · intro n a c b hn e
    rw [hf.1, hf.2.2.2.2.2.2 3 (pa c) 2 (hw _ _ (by omega))]
    exact h2 n a c b hn e
theorem lw_8 {a : Nat} : ∀ k j, j < 8 → ¬ lw_W ro a 3 k j := by
  intro k j hj w
  unfold lw_W at w
  omega
theorem ca_zf {c a : Nat} (h : ca_n M pa P c) (hf : zf (lw_W ro a) M M') (hne : pa c ≠ a) : ca_n M' pa P c := by
  have e3 : ∀ j, zm_I M' 3 (pa c) j = zm_I M 3 (pa c) j := fun j => hf.2.2.2.2.2.2 3 (pa c) j (by unfold lw_W; omega)
  have e21 : ∀ j, zm_I M' 21 (pa c + 1) j = zm_I M 21 (pa c + 1) j := fun j => hf.2.2.2.2.2.2 21 (pa c + 1) j (by unfold lw_W; omega)
  unfold ca_n
  simp only [e3, e21]
  exact h
theorem cN_kd (h : cN_x M pa P) {n : Nat} (hn : py_dm P n) : zm_I M 3 (pa n) 0 = nI (ck (py_kd P n)) := (h.1 n hn).1
theorem cN_nb (h : cN_x M pa P) {n : Nat} (hn : py_dm P n) (hk : py_kd P n = 0 ∨ py_kd P n = 4 ∨ py_kd P n = 5) : zm_I M 3 (pa n) 1 = nI (py_nb P n) := (h.1 n hn).2.1 hk
theorem cN_up (h : cN_x M pa P) {n : Nat} (hn : py_dm P n) : zm_R M 3 (pa n) 4 = (py_up P n).map pa := (h.1 n hn).2.2.1
theorem cN_ks (h : cN_x M pa P) {n : Nat} (hn : py_dm P n) : zm_R M 3 (pa n) 5 = (py_ks P n).head?.map pa := (h.1 n hn).2.2.2.1
theorem cN_15 (h : cN_x M pa P) {n : Nat} (hn : py_dm P n) : zm_R M 3 (pa n) 15 = some (pa n + 1) ∧ zm_L M 21 (pa n + 1) = 5 := ⟨(h.1 n hn).2.2.2.2.1, (h.1 n hn).2.2.2.2.2.1⟩
theorem cN_nx (h : cN_x M pa P) {n c : Nat} {a b : List Nat} (hn : py_dm P n) (e : py_ks P n = a ++ c :: b) : zm_R M 3 (pa c) 7 = b.head?.map pa := (h.2.1 n a c b hn e).1
theorem cN_pl (h : cN_x M pa P) {n c : Nat} {a b : List Nat} (hn : py_dm P n) (e : py_ks P n = a ++ c :: b) : zm_I M 3 (pa c) 2 = nI a.length := (h.2.1 n a c b hn e).2
theorem cN_ne (h : cN_x M pa P) (hP : py_ok P) {n c : Nat} (hn : py_dm P n) (hc : c ∈ py_ks P n) : pa c ≠ pa n := by
  intro e
  have := h.2.2 c n (ok_kid hP hn hc) hn e
  have := ok_khg hP hn hc
  subst c
  omega
theorem zLF_10 : 10 < zLF := by
  have := zLF_402
  omega
/-! rows -/
theorem cl_clearRow_2 {i : Nat} (hi : i ≤ 4) : ∀ (m k : Nat) (M : zM), k + m = 5 → lp_x M le ro → (∀ j, j < k → zm_I M 20 ro (i * 5 + j) = 0) → ∀ fuel, m < fuel → ∃ M', le_clearRow_2 d fuel le (nI i) (nI k) M = some M' ∧ (∀ j, j < 5 → zm_I M' 20 ro (i * 5 + j) = 0) ∧ (∀ j, j < i * 5 ∨ i * 5 + 5 ≤ j → zm_I M' 20 ro j = zm_I M 20 ro j) ∧ zf (fun t k j => t = 20 ∧ k = ro) M M' := by
  intro m
  induction m with
  | zero =>
    intro k M hk hp hc fuel hf
    cases fuel with
    | zero => cases hf
    | succ fuel =>
      have : k = 5 := by omega
      subst this
      refine ⟨M, ?_, hc, fun _ _ => rfl, zf_refl _ _⟩
      rw [le_clearRow_2, if_pos (show (5 : Int32) ≤ nI 5 by decide)]
  | succ m ih =>
    intro k M hk hp hc fuel hf
    cases fuel with
    | zero => cases hf
    | succ fuel =>
      have e5 : nI i * 5 + nI k = nI (i * 5 + k) := by
        show nI i * nI 5 + nI k = _
        rw [pk_mul, nI_add]
      have hz : z_in (nI (i * 5 + k)) 25 := nI_in (by omega) (by omega)
      have hfz : zf (fun t k j => t = 20 ∧ k = ro) M (zm_setI M 20 ro (i * 5 + k) 0) := zf_set ⟨rfl, rfl⟩
      obtain ⟨M', g1, g2, g3, g4⟩ := ih (k + 1) (zm_setI M 20 ro (i * 5 + k) 0) (by omega) (lp_zf hp hfz) (by
        intro j hj
        by_cases e : j = k
        · subst e; exact pm_same
        · rw [pm_ne (by omega)]; exact hc j (by omega)) fuel (by omega)
      refine ⟨M', ?_, g2, ?_, zf_trans hfz g4⟩
      · rw [le_clearRow_2, if_neg (show ¬ (5 : Int32) ≤ nI k from nI_ge (b := 5) (by omega) (by omega))]
        simp only [hp.1, hp.2, e5, if_pos hz, nI_clamp (show i * 5 + k < 2 ^ 31 by omega), zlet, nI_1]
        exact g1
      · intro j hj
        rw [g3 j hj, pm_ne (by omega)]
theorem cl_clearRow {i : Nat} (hi : i ≤ 4) (hp : lp_x M le ro) : ∃ M', le_clearRow d le (nI i) M = some M' ∧ (∀ j, j < 5 → zm_I M' 20 ro (i * 5 + j) = 0) ∧ (∀ j, j < i * 5 ∨ i * 5 + 5 ≤ j → zm_I M' 20 ro j = zm_I M 20 ro j) ∧ zf (fun t k j => t = 20 ∧ k = ro) M M' := by
  have := zLF_10
  exact cl_clearRow_2 hi 5 0 M (by omega) hp (fun j hj => by omega) zLF (by omega)
theorem cl_startRow (hp : lp_x M le ro) (hd : 1 ≤ d) : ∃ M', le_startRow d le 0 M = some M' ∧ (∀ j, j < 5 → zm_I M' 20 ro j = py_st j) ∧ (∀ j, 5 ≤ j → zm_I M' 20 ro j = zm_I M 20 ro j) ∧ zf (fun t k j => t = 20 ∧ k = ro) M M' := by
  obtain ⟨d, rfl⟩ : ∃ d', d = d' + 1 := ⟨d - 1, by omega⟩
  have eb : le_startRow (d + 1) le 0 M = le_startRow_b d le 0 M := rfl
  rw [eb]
  unfold le_startRow_b
  obtain ⟨M1, g1, g2, g3, g4⟩ := cl_clearRow (d := d) (i := 0) (by omega) hp
  have g1 : le_clearRow d le 0 M = some M1 := g1
  have hp1 := lp_zf hp g4
  have hz : z_in ((0 : Int32) * 5) 25 := by decide
  rw [g1]
  simp only [Option.bind_some, hp1.1, hp1.2, if_pos hz, zlet]
  refine ⟨_, rfl, ?_, ?_, zf_trans g4 (zf_set ⟨rfl, rfl⟩)⟩
  · intro j hj
    have e0 : ((0 : Int32) * 5).toNatClampNeg = 0 := by decide
    rw [e0]
    unfold py_st
    by_cases e : j = 0
    · subst e
      rw [pm_same, if_pos rfl]
    · rw [pm_ne (by omega), if_neg e]
      have := g2 j hj
      rw [Nat.zero_mul, Nat.zero_add] at this
      exact this
  · intro j hj
    have e0 : ((0 : Int32) * 5).toNatClampNeg = 0 := by decide
    rw [e0, pm_ne (by omega)]
    exact g3 j (by omega)
theorem zp_0 : nI 0 + (-1 : Int32) = -1 := by decide
theorem zp_s (m : Nat) (h : m < 100) : nI (m + 1) + (-1 : Int32) = nI m := by
  have key : ∀ m : Fin 100, nI (m.val + 1) + (-1 : Int32) = nI m.val := by decide +kernel
  exact key ⟨m, h⟩
theorem cl_multiply_25 {a n : Nat} {row rd : yv} (hn : n ≤ 4) (kl : Nat → Option Nat → Int32 → Int32 → zM → Option zM) (v2 : Int32) (hp : lp_x M le ro) (h15 : zm_R M 3 a 15 = some (a + 1)) (hL : zm_L M 21 (a + 1) = 5) (hrow : ∀ j, j < n → zm_I M 20 ro j = row j) (hrd : ∀ k, 1 ≤ k → k ≤ 4 → zm_I M 21 (a + 1) k = rd k) : ∀ (m k : Nat) (acc : Int32), k + m = n + 1 → 1 ≤ k → ∀ fuel, m < fuel → le_multiply_25 kl d fuel le (some a) v2 (nI n) acc (nI k) M = kl le (some a) v2 (nI n + (-1)) (zm_setI M 20 ro n ((List.range' k m).foldl (fun s k => s + row (n - k) * rd k) acc)) := by
  intro m
  induction m with
  | zero =>
    intro k acc hk hk1 fuel hf
    cases fuel with
    | zero => cases hf
    | succ fuel =>
      have hz : z_in (nI n) 25 := nI_in (by omega) (by omega)
      rw [le_multiply_25, if_pos (show nI n < nI k from nI_lt (by omega) (by omega))]
      simp only [hp.1, hp.2, if_pos hz, nI_clamp (show n < 2 ^ 31 by omega), zlet]
      rfl
  | succ m ih =>
    intro k acc hk hk1 fuel hf
    cases fuel with
    | zero => cases hf
    | succ fuel =>
      have e1 : nI n - nI k = nI (n - k) := pk_sub (by omega)
      have hz : z_in (nI (n - k)) 25 := nI_in (by omega) (by omega)
      have hz2 : z_in (nI k) 5 := nI_in (by omega) (by omega)
      rw [le_multiply_25, if_neg (show ¬ nI n < nI k from nI_nlt (by omega) (by omega))]
      simp only [hp.1, hp.2, e1, if_pos hz, h15, hL, if_pos hz2, nI_clamp (show n - k < 2 ^ 31 by omega), nI_clamp (show k < 2 ^ 31 by omega), hrow (n - k) (by omega), hrd k hk1 (by omega), zlet, nI_1]
      rw [ih (k + 1) _ (by omega) (by omega) fuel (by omega), List.range'_succ, List.foldl_cons]
theorem cl_multiply_2 {a : Nat} {row rd : yv} (e : Bool) (h15 : zm_R M 3 a 15 = some (a + 1)) (hL : zm_L M 21 (a + 1) = 5) (hrd : ∀ k, 1 ≤ k → k ≤ 4 → zm_I M 21 (a + 1) k = rd k) : ∀ (m : Nat) (M1 : zM), m ≤ 5 → lp_x M1 le ro → zf (fun t k j => t = 20 ∧ k = ro ∧ j < 5) M M1 → (∀ j, j < m → zm_I M1 20 ro j = row j) → (∀ j, m ≤ j → j < 5 → zm_I M1 20 ro j = py_mul row rd e j) → ∀ fuel, m < fuel → ∃ M', le_multiply_2 d fuel le (some a) (zb e) (nI m + (-1)) M1 = some M' ∧ zf (fun t k j => t = 20 ∧ k = ro ∧ j < 5) M M' ∧ (∀ j, j < 5 → zm_I M' 20 ro j = py_mul row rd e j) := by
  intro m
  induction m with
  | zero =>
    intro M1 _ hp hf _ h2 fuel hfu
    cases fuel with
    | zero => cases hfu
    | succ fuel =>
      refine ⟨M1, ?_, hf, fun j hj => h2 j (by omega) hj⟩
      rw [zp_0, le_multiply_2, if_pos (by decide)]
  | succ m ih =>
    intro M1 hm hp hf h1 h2 fuel hfu
    cases fuel with
    | zero => cases hfu
    | succ fuel =>
      have h15' : zm_R M1 3 a 15 = some (a + 1) := by rw [hf.1]; exact h15
      have hL' : zm_L M1 21 (a + 1) = 5 := by rw [hf.2.1]; exact hL
      have hrd' : ∀ k, 1 ≤ k → k ≤ 4 → zm_I M1 21 (a + 1) k = rd k := by
        intro k k1 k2
        rw [hf.2.2.2.2.2.2 21 (a + 1) k (by omega)]
        exact hrd k k1 k2
      have hz : z_in (nI m) 25 := nI_in (by omega) (by omega)
      have hlf := zLF_10
      have key : ∀ (kl : Nat → Option Nat → Int32 → Int32 → zM → Option zM), (if zb e = 0 then le_multiply_20 kl d le (some a) (zb e) (nI m) 0 M1 else (match (zm_R M1 2 le 0) with | none => none | some k3 => (if z_in (nI m) (zm_L M1 20 k3) then le_multiply_20 kl d le (some a) (zb e) (nI m) (zm_I M1 20 k3 (nI m : Int32).toNatClampNeg) M1 else none))) = kl le (some a) (zb e) (nI m + (-1)) (zm_setI M1 20 ro m (py_mul row rd e m)) := by
        intro kl
        have c : ∀ acc, le_multiply_25 kl d zLF le (some a) (zb e) (nI m) acc 1 M1 = kl le (some a) (zb e) (nI m + (-1)) (zm_setI M1 20 ro m ((List.range' 1 m).foldl (fun s k => s + row (m - k) * rd k) acc)) := fun acc => cl_multiply_25 (d := d) (n := m) (M := M1) (row := row) (rd := rd) (by omega) kl (zb e) hp h15' hL' (fun j hj => h1 j (by omega)) hrd' m 1 acc (by omega) (by omega) zLF (by omega)
        cases e
        · rw [pb_zbf, if_pos rfl]
          unfold le_multiply_20
          exact c 0
        · rw [pb_zbt, if_neg (by decide)]
          simp only [hp.1, hp.2, if_pos hz, nI_clamp (show m < 2 ^ 31 by omega)]
          unfold le_multiply_20
          rw [h1 m (by omega)]
          exact c (row m)
      rw [zp_s m (by omega), le_multiply_2, if_neg (show ¬ nI m < 0 from nI_nlt (b := 0) (by omega) (by omega))]
      have hfz : zf (fun t k j => t = 20 ∧ k = ro ∧ j < 5) M1 (zm_setI M1 20 ro m (py_mul row rd e m)) := zf_set ⟨rfl, rfl, by omega⟩
      obtain ⟨M', w1, w2, w3⟩ := ih _ (by omega) (lp_zf hp hfz) (zf_trans hf hfz) (by
        intro j hj
        rw [pm_ne (by omega)]
        exact h1 j (by omega)) (by
        intro j h3 h4
        by_cases ej : j = m
        · subst ej; exact pm_same
        · rw [pm_ne (by omega)]
          exact h2 j (by omega) h4) fuel (by omega)
      exact ⟨M', (key _).trans w1, w2, w3⟩
theorem cl_multiply {a : Nat} {row rd : yv} (e : Bool) (hp : lp_x M le ro) (h15 : zm_R M 3 a 15 = some (a + 1)) (hL : zm_L M 21 (a + 1) = 5) (hrd : ∀ k, 1 ≤ k → k ≤ 4 → zm_I M 21 (a + 1) k = rd k) (hrow : ∀ j, j < 5 → zm_I M 20 ro j = row j) : ∃ M', le_multiply d le (some a) (zb e) M = some M' ∧ zf (fun t k j => t = 20 ∧ k = ro ∧ j < 5) M M' ∧ (∀ j, j < 5 → zm_I M' 20 ro j = py_mul row rd e j) := by
  have := zLF_10
  obtain ⟨M', g1, g2, g3⟩ := cl_multiply_2 (d := d) (ro := ro) (le := le) e h15 hL hrd 5 M (by omega) hp (zf_refl _ _) hrow (fun j h1 h2 => by omega) zLF (by omega)
  exact ⟨M', g1, g2, g3⟩
theorem cl_addRow_3 {a i : Nat} {row : yv} {t : Int32} (hi : i ≤ 4) (hp : lp_x M le ro) (h15 : zm_R M 3 a 15 = some (a + 1)) (hL : zm_L M 21 (a + 1) = 5) (hrow : ∀ j, 1 ≤ j → j < 5 → zm_I M 20 ro (i * 5 + j) = row j) : ∀ (m k : Nat) (M1 : zM), k + m = 5 → 1 ≤ k → zf (fun t k j => t = 21 ∧ k = a + 1) M M1 → (∀ j, k ≤ j → j < 5 → zm_I M1 21 (a + 1) j = zm_I M 21 (a + 1) j) → (∀ j, 1 ≤ j → j < k → zm_I M1 21 (a + 1) j = zm_I M 21 (a + 1) j + row j * t) → ∀ fuel, m < fuel → ∃ M', le_addRow_3 d fuel le (some a) (nI i) t (nI k) M1 = some M' ∧ zf (fun t k j => t = 21 ∧ k = a + 1) M M' ∧ (∀ j, 1 ≤ j → j < 5 → zm_I M' 21 (a + 1) j = zm_I M 21 (a + 1) j + row j * t) := by
  intro m
  induction m with
  | zero =>
    intro k M1 hk _ hf _ h2 fuel hfu
    cases fuel with
    | zero => cases hfu
    | succ fuel =>
      refine ⟨M1, ?_, hf, fun j j1 j2 => h2 j j1 (by omega)⟩
      have : k = 5 := by omega
      subst this
      rw [le_addRow_3, if_pos (show (5 : Int32) ≤ nI 5 by decide)]
  | succ m ih =>
    intro k M1 hk hk1 hf h1 h2 fuel hfu
    cases fuel with
    | zero => cases hfu
    | succ fuel =>
      have e5 : nI i * 5 + nI k = nI (i * 5 + k) := by
        show nI i * nI 5 + nI k = _
        rw [pk_mul, nI_add]
      have hz : z_in (nI (i * 5 + k)) 25 := nI_in (by omega) (by omega)
      have hz2 : z_in (nI k) 5 := nI_in (by omega) (by omega)
      have h15' : zm_R M1 3 a 15 = some (a + 1) := by rw [hf.1]; exact h15
      have hL' : zm_L M1 21 (a + 1) = 5 := by rw [hf.2.1]; exact hL
      have hp' := lp_zf hp hf
      have hr' : zm_I M1 20 ro (i * 5 + k) = row k := by
        rw [hf.2.2.2.2.2.2 20 ro (i * 5 + k) (by omega)]
        exact hrow k hk1 (by omega)
      rw [le_addRow_3, if_neg (show ¬ (5 : Int32) ≤ nI k from nI_ge (b := 5) (by omega) (by omega))]
      simp only [h15', hL', if_pos hz2, hp'.1, hp'.2, e5, if_pos hz, nI_clamp (show k < 2 ^ 31 by omega), nI_clamp (show i * 5 + k < 2 ^ 31 by omega), hr', h1 k (by omega) (by omega), zlet, nI_1]
      have hfz : zf (fun t k j => t = 21 ∧ k = a + 1) M1 (zm_setI M1 21 (a + 1) k (zm_I M 21 (a + 1) k + row k * t)) := zf_set ⟨rfl, rfl⟩
      refine ih (k + 1) _ (by omega) (by omega) (zf_trans hf hfz) ?_ ?_ fuel (by omega)
      · intro j j1 j2
        rw [pm_ne (by omega)]
        exact h1 j (by omega) j2
      · intro j j1 j2
        by_cases e : j = k
        · subst e; exact pm_same
        · rw [pm_ne (by omega)]
          exact h2 j j1 (by omega)
theorem cl_addRow {a i : Nat} {row : yv} {t : Int32} (hi : i ≤ 4) (hp : lp_x M le ro) (h15 : zm_R M 3 a 15 = some (a + 1)) (hL : zm_L M 21 (a + 1) = 5) (hrow : ∀ j, 1 ≤ j → j < 5 → zm_I M 20 ro (i * 5 + j) = row j) : ∃ M', le_addRow d le (some a) (nI i) t M = some M' ∧ zf (fun t k j => t = 21 ∧ k = a + 1) M M' ∧ (∀ j, 1 ≤ j → j < 5 → zm_I M' 21 (a + 1) j = zm_I M 21 (a + 1) j + row j * t) := by
  have := zLF_10
  exact cl_addRow_3 hi hp h15 hL hrow 4 1 M (by omega) (by omega) (zf_refl _ _) (fun _ _ _ => rfl) (fun j h1 h2 => by omega) zLF (by omega)
/-- rows i and i - 1: the products -/
theorem cl_addProduct_12 {a i n : Nat} {row rd : yv} (hi : 1 ≤ i ∧ i ≤ 4) (hn : 1 ≤ n ∧ n ≤ 4) (kl : Nat → Int32 → Int32 → Option Nat → Int32 → zM → Option zM) : ∀ (m k : Nat) (M : zM), lp_x M le ro → zm_R M 3 a 15 = some (a + 1) → zm_L M 21 (a + 1) = 5 → (∀ j, j < 5 → zm_I M 20 ro ((i - 1) * 5 + j) = row j) → (∀ k, 1 ≤ k → k ≤ 4 → zm_I M 21 (a + 1) k = rd k) → k + m = n + 1 → 1 ≤ k → ∀ fuel, m < fuel → ∃ M', le_addProduct_12 kl d fuel le (nI i) (nI (i - 1)) (some a) (nI n) (nI k) M = kl le (nI i) (nI (i - 1)) (some a) (nI (n + 1)) M' ∧ zf (fun t k j => t = 20 ∧ k = ro ∧ j = i * 5 + n) M M' ∧ zm_I M' 20 ro (i * 5 + n) = (List.range' k m).foldl (fun s k => s + row (n - k) * rd k) (zm_I M 20 ro (i * 5 + n)) := by
  intro m
  induction m with
  | zero =>
    intro k M hp h15 hL hrow hrd hk hk1 fuel hf
    cases fuel with
    | zero => cases hf
    | succ fuel =>
      refine ⟨M, ?_, zf_refl _ _, rfl⟩
      rw [le_addProduct_12, if_pos (show nI n < nI k from nI_lt (by omega) (by omega))]
      simp only [zlet, nI_1]
  | succ m ih =>
    intro k M hp h15 hL hrow hrd hk hk1 fuel hf
    cases fuel with
    | zero => cases hf
    | succ fuel =>
      have e1 : nI i * 5 + nI n = nI (i * 5 + n) := by
        show nI i * nI 5 + nI n = _
        rw [pk_mul, nI_add]
      have e2 : nI (i - 1) * 5 + nI n - nI k = nI ((i - 1) * 5 + (n - k)) := by
        have : nI (i - 1) * 5 = nI ((i - 1) * 5) := pk_mul (i - 1) 5
        rw [this, nI_add, pk_sub (by omega)]
        congr 1
        omega
      have hz1 : z_in (nI (i * 5 + n)) 25 := nI_in (by omega) (by omega)
      have hz2 : z_in (nI ((i - 1) * 5 + (n - k))) 25 := nI_in (by omega) (by omega)
      have hz3 : z_in (nI k) 5 := nI_in (by omega) (by omega)
      have hfz : zf (fun t k j => t = 20 ∧ k = ro ∧ j = i * 5 + n) M (zm_setI M 20 ro (i * 5 + n) (zm_I M 20 ro (i * 5 + n) + row (n - k) * rd k)) := zf_set ⟨rfl, rfl, rfl⟩
      obtain ⟨M', g1, g2, g3⟩ := ih (k + 1) (zm_setI M 20 ro (i * 5 + n) (zm_I M 20 ro (i * 5 + n) + row (n - k) * rd k)) (lp_zf hp hfz) h15 hL (by
        intro j hj
        rw [pm_ne (by omega)]
        exact hrow j hj) (by
        intro k k1 k2
        rw [pm_ne (by omega)]
        exact hrd k k1 k2) (by omega) (by omega) fuel (by omega)
      refine ⟨M', ?_, zf_trans hfz g2, ?_⟩
      · rw [le_addProduct_12, if_neg (show ¬ nI n < nI k from nI_nlt (by omega) (by omega))]
        simp only [hp.1, hp.2, e1, e2, if_pos hz1, if_pos hz2, h15, hL, if_pos hz3, nI_clamp (show i * 5 + n < 2 ^ 31 by omega), nI_clamp (show (i - 1) * 5 + (n - k) < 2 ^ 31 by omega), nI_clamp (show k < 2 ^ 31 by omega), hrow (n - k) (by omega), hrd k hk1 (by omega), zlet, nI_1]
        exact g1
      · rw [g3, pm_same, List.range'_succ, List.foldl_cons]
theorem cl_addProduct_3 {a i : Nat} {row rd : yv} (hi : 1 ≤ i ∧ i ≤ 4) : ∀ (m n : Nat) (M : zM), lp_x M le ro → zm_R M 3 a 15 = some (a + 1) → zm_L M 21 (a + 1) = 5 → (∀ j, j < 5 → zm_I M 20 ro ((i - 1) * 5 + j) = row j) → (∀ k, 1 ≤ k → k ≤ 4 → zm_I M 21 (a + 1) k = rd k) → n + m = 5 → 1 ≤ n → ∀ fuel, m < fuel → ∃ M', le_addProduct_3 d fuel le (nI i) (nI (i - 1)) (some a) (nI n) M = some M' ∧ zf (fun t k j => t = 20 ∧ k = ro ∧ i * 5 + n ≤ j ∧ j < i * 5 + 5) M M' ∧ ∀ j, n ≤ j → j < 5 → zm_I M' 20 ro (i * 5 + j) = py_cv row rd j (zm_I M 20 ro (i * 5 + j)) := by
  intro m
  induction m with
  | zero =>
    intro n M hp h15 hL hrow hrd hn hn1 fuel hf
    cases fuel with
    | zero => cases hf
    | succ fuel =>
      have : n = 5 := by omega
      subst this
      refine ⟨M, ?_, zf_refl _ _, fun j j1 j2 => by omega⟩
      rw [le_addProduct_3, if_pos (show (5 : Int32) ≤ nI 5 by decide)]
  | succ m ih =>
    intro n M hp h15 hL hrow hrd hn hn1 fuel hf
    have hlf := zLF_10
    cases fuel with
    | zero => cases hf
    | succ fuel =>
      obtain ⟨M1, g1, g2, g3⟩ := cl_addProduct_12 (d := d) (a := a) (n := n) hi ⟨hn1, by omega⟩ (fun p0 p1 p2 p3 p4 m => le_addProduct_3 d fuel p0 p1 p2 p3 p4 m) n 1 M hp h15 hL hrow hrd (by omega) (by omega) zLF (by omega)
      have g1 : le_addProduct_12 (fun p0 p1 p2 p3 p4 m => le_addProduct_3 d fuel p0 p1 p2 p3 p4 m) d zLF le (nI i) (nI (i - 1)) (some a) (nI n) 1 M = le_addProduct_3 d fuel le (nI i) (nI (i - 1)) (some a) (nI (n + 1)) M1 := g1
      have o1 : ∀ j, j ≠ i * 5 + n → zm_I M1 20 ro j = zm_I M 20 ro j := fun j hj => g2.2.2.2.2.2.2 20 ro j (by omega)
      obtain ⟨M', k1, k2, k3⟩ := ih (n + 1) M1 (lp_zf hp g2) (by rw [g2.1]; exact h15) (by rw [g2.2.1]; exact hL) (by
        intro j hj
        rw [o1 _ (by omega)]
        exact hrow j hj) (by
        intro k j1 j2
        rw [g2.2.2.2.2.2.2 21 (a + 1) k (by omega)]
        exact hrd k j1 j2) (by omega) (by omega) fuel (by omega)
      refine ⟨M', ?_, zf_trans (zf_mono g2 (fun t k j w => ⟨w.1, w.2.1, by omega, by omega⟩)) (zf_mono k2 (fun t k j w => ⟨w.1, w.2.1, by omega, by omega⟩)), ?_⟩
      · rw [le_addProduct_3, if_neg (show ¬ (5 : Int32) ≤ nI n from nI_ge (b := 5) (by omega) (by omega)), g1]
        exact k1
      · intro j j1 j2
        by_cases e : j = n
        · subst e
          rw [k2.2.2.2.2.2.2 20 ro (i * 5 + j) (by omega), g3]
          rfl
        · rw [k3 j (by omega) j2, o1 _ (by omega)]
theorem cl_addProduct {a i : Nat} {row rd : yv} (hi : 1 ≤ i ∧ i ≤ 4) (hp : lp_x M le ro) (h15 : zm_R M 3 a 15 = some (a + 1)) (hL : zm_L M 21 (a + 1) = 5) (hrow : ∀ j, j < 5 → zm_I M 20 ro ((i - 1) * 5 + j) = row j) (hrd : ∀ k, 1 ≤ k → k ≤ 4 → zm_I M 21 (a + 1) k = rd k) : ∃ M', le_addProduct d le (nI i) (nI (i - 1)) (some a) M = some M' ∧ zf (fun t k j => t = 20 ∧ k = ro ∧ i * 5 + 1 ≤ j ∧ j < i * 5 + 5) M M' ∧ ∀ j, 1 ≤ j → j < 5 → zm_I M' 20 ro (i * 5 + j) = py_cv row rd j (zm_I M 20 ro (i * 5 + j)) := by
  have := zLF_10
  exact cl_addProduct_3 hi 4 1 M hp h15 hL hrow hrd (by omega) (by omega) zLF (by omega)
end
