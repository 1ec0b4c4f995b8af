/-! THE CLASS learns an any -/
section
variable {M M' : zM} {pa : Nat → Nat} {P : yP} {le ro d : Nat}
theorem cl_any_61 {n c : Nat} {rd : yv} {R : Nat → yv} {e : Bool} (hac : c ≠ n) (kl : Nat → Option Nat → Option Nat → zM → Option zM) (M : zM) (h15 : zm_R M 3 c 15 = some (c + 1)) (hL : zm_L M 21 (c + 1) = 5) (hrd : ∀ k, 1 ≤ k → k ≤ 4 → zm_I M 21 (c + 1) k = rd k) (he : zm_I M 3 c 8 = zb e) : ∀ (m : Nat) (M1 : zM), m ≤ 5 → lp_x M1 le ro → zf (fun t k j => t = 20 ∧ k = ro) M M1 → (∀ i j, i < m → j < 5 → zm_I M1 20 ro (i * 5 + j) = R i j) → (∀ i j, m ≤ i → i < 5 → j < 5 → zm_I M1 20 ro (i * 5 + j) = py_anr R rd e i j) → ∀ fuel, m < fuel → ∃ M', le_learnAny_61 kl d fuel le (some n) (some c) (nI m + (-1)) M1 = kl le (some n) (zm_R M 3 c 7) M' ∧ zf (fun t k j => t = 20 ∧ k = ro) M M' ∧ (∀ i j, i < 5 → j < 5 → zm_I M' 20 ro (i * 5 + j) = py_anr R rd e i j) := by
  intro m
  induction m with
  | zero =>
    intro M1 _ hp hf _ h2 fuel hfu
    cases fuel with
    | zero => cases hfu
    | succ fuel =>
      refine ⟨M1, ?_, hf, fun i j hi hj => h2 i j (by omega) hi hj⟩
      rw [zp_0, le_learnAny_61, if_pos (by decide), hf.1]
  | succ m ih =>
    intro M1 hm hp hf h1 h2 fuel hfu
    cases fuel with
    | zero => cases hfu
    | succ fuel =>
      have he1 : zm_I M1 3 c 8 = zb e := by rw [hf.2.2.2.2.2.2 3 c 8 (by omega)]; exact he
      have hle : (nI m ≤ 0) ↔ m ≤ 0 := le_i2 (a := 0) (by omega) (by omega)
      -- behind the clearing
      have rest : ∀ (M2 : zM), lp_x M2 le ro → zf (fun t k j => t = 20 ∧ k = ro) M M2 → (∀ i j, i < m → j < 5 → zm_I M2 20 ro (i * 5 + j) = R i j) → (∀ j, j < 5 → zm_I M2 20 ro (m * 5 + j) = if e then R m j else 0) → (∀ i j, m + 1 ≤ i → i < 5 → j < 5 → zm_I M2 20 ro (i * 5 + j) = py_anr R rd e i j) → ∃ M', le_learnAny_77 kl (fun p0 p1 p2 p3 m => le_learnAny_61 kl d fuel p0 p1 p2 p3 m) d le (some n) (some c) (nI m) M2 = kl le (some n) (zm_R M 3 c 7) M' ∧ zf (fun t k j => t = 20 ∧ k = ro) M M' ∧ (∀ i j, i < 5 → j < 5 → zm_I M' 20 ro (i * 5 + j) = py_anr R rd e i j) := by
        intro M2 hp2 hf2 a1 a2 a3
        unfold le_learnAny_77 le_learnAny_90
        simp only [hle, zlet]
        by_cases c0 : m ≤ 0
        · rw [if_pos c0]
          have : m = 0 := by omega
          subst this
          refine ih M2 (by omega) hp2 hf2 (fun i j hi => by omega) ?_ fuel (by omega)
          intro i j i1 i2 hj
          by_cases ei : i = 0
          · subst ei
            rw [a2 j hj]
            unfold py_anr
            rw [if_pos (show (0 : Nat) = 0 ∨ j = 0 from .inl rfl)]
          · exact a3 i j (by omega) i2 hj
        · rw [if_neg c0]
          have em : nI m - 1 = nI (m - 1) := pk_sub (a := m) (b := 1) (by omega)
          rw [em]
          obtain ⟨M3, g1, g2, g3⟩ := cl_addProduct (d := d) (a := c) (i := m) (row := R (m - 1)) (rd := rd) ⟨by omega, by omega⟩ hp2 (by rw [hf2.1]; exact h15) (by rw [hf2.2.1]; exact hL) (fun j hj => a1 (m - 1) j (by omega) hj) (by
            intro k k1 k2
            rw [hf2.2.2.2.2.2.2 21 (c + 1) k (by omega)]
            exact hrd k k1 k2)
          rw [g1]
          simp only [Option.bind_some]
          have hf3 : zf (fun t k j => t = 20 ∧ k = ro) M2 M3 := zf_mono g2 (fun t k j w => ⟨w.1, w.2.1⟩)
          have o3 : ∀ j, j < m * 5 + 1 ∨ m * 5 + 5 ≤ j → zm_I M3 20 ro j = zm_I M2 20 ro j := fun j hj => g2.2.2.2.2.2.2 20 ro j (by omega)
          refine ih M3 (by omega) (lp_zf hp2 hf3) (zf_trans hf2 hf3) ?_ ?_ fuel (by omega)
          · intro i j hi hj
            rw [o3 _ (by omega)]
            exact a1 i j hi hj
          · intro i j i1 i2 hj
            by_cases ei : i = m
            · subst ei
              unfold py_anr
              by_cases ej : j = 0
              · subst ej
                rw [if_pos (show _ = 0 ∨ (0 : Nat) = 0 from .inr rfl), o3 _ (by omega)]
                exact a2 0 (by omega)
              · rw [g3 j (by omega) hj, a2 j hj, if_neg (show ¬ (_ = 0 ∨ j = 0) by omega)]
            · rw [o3 _ (by omega)]
              exact a3 i j (by omega) i2 hj
      rw [zp_s m (by omega), le_learnAny_61, if_neg (show ¬ nI m < 0 from nI_nlt (b := 0) (by omega) (by omega))]
      simp only [he1]
      cases e with
      | false =>
        rw [if_pos pb_zbf]
        obtain ⟨M2, g1, g2, g3, g4⟩ := cl_clearRow (d := d) (i := m) (by omega) hp
        rw [g1]
        simp only [Option.bind_some]
        refine rest M2 (lp_zf hp g4) (zf_trans hf g4) ?_ ?_ ?_
        · intro i j hi hj
          rw [g3 _ (by omega)]
          exact h1 i j (by omega) hj
        · intro j hj
          rw [g2 j hj]
          rfl
        · intro i j i1 i2 hj
          rw [g3 _ (by omega)]
          exact h2 i j i1 i2 hj
      | true =>
        rw [if_neg (show ¬ zb true = 0 by decide)]
        refine rest M1 hp hf (fun i j hi hj => h1 i j (by omega) hj) ?_ h2
        intro j hj
        rw [h1 m j (by omega) hj]
        rfl
theorem zor_app (l : List Nat) : ∀ (m : List Nat), zor (l ++ m) = m.foldl (fun a q => a ||| zbit q) (zor l) := by
  intro m
  unfold zor
  rw [List.foldl_append]
theorem cl_any_108 (hP : py_ok P) {n : Nat} (hn : py_dm P n) (hk : py_kd P n = 4) {R : Nat → yv} (h : lk_x M pa P n) (hp : lp_x M le ro) (hR : ∀ i j, i < 5 → j < 5 → zm_I M 20 ro (i * 5 + j) = R i j) (h0 : ∀ j, j < 5 → zm_I M 21 (pa n + 1) j = 0) : ∃ M', le_learnAny_108 d zLF le (some (pa n)) 1 1 M = some M' ∧ zf (lw_W ro (pa n)) M M' ∧ zm_I M' 3 (pa n) 8 = zb (py_nu P n) ∧ zm_I M' 3 (pa n) 12 = nI (py_ln P n) ∧ zm_I M' 3 (pa n) 13 = zo (py_lg P n) ∧ (∀ j, j ≠ 8 → j ≠ 12 → j ≠ 13 → zm_I M' 3 (pa n) j = zm_I M 3 (pa n) j) ∧ ∀ k, 1 ≤ k → k < 5 → zm_I M' 21 (pa n + 1) k = py_anf R k := by
  have hlf := zLF_10
  -- one turn
  have turn : ∀ (i : Nat) (o : Int32) (M1 : zM) (f : Nat), 1 ≤ i → i ≤ 4 → zf (lw_W ro (pa n)) M M1 → (∀ j, zm_I M1 20 ro j = zm_I M 20 ro j) → ∃ M2, le_learnAny_108 d (f + 1) le (some (pa n)) o (nI i) M1 = le_learnAny_108 d f le (some (pa n)) (o * nI i) (nI (i + 1)) M2 ∧ zf (lw_W ro (pa n)) M M2 ∧ (∀ j, zm_I M2 20 ro j = zm_I M 20 ro j) ∧ (∀ j, zm_I M2 3 (pa n) j = zm_I M1 3 (pa n) j) ∧ ∀ k, 1 ≤ k → k < 5 → zm_I M2 21 (pa n + 1) k = zm_I M1 21 (pa n + 1) k + R i k * (o * nI i) := by
    intro i o M1 f hi1 hi4 hf1 hr
    have hk1 := lk_zf hP hn h hf1
    have hp1 := lp_zf hp hf1
    obtain ⟨M2, u1, u2, u3⟩ := cl_addRow (d := d) (i := i) (t := o * nI i) (row := R i) (by omega) hp1 (cN_15 hk1.1 hn).1 (cN_15 hk1.1 hn).2 (fun j j1 j2 => by rw [hr]; exact hR i j (by omega) j2)
    refine ⟨M2, ?_, zf_trans hf1 (zf_21 u2), fun j => (u2.2.2.2.2.2.2 20 ro j (by omega)).trans (hr j), fun j => u2.2.2.2.2.2.2 3 (pa n) j (by omega), u3⟩
    rw [le_learnAny_108, if_neg (show ¬ (4 : Int32) < nI i from nI_nlt (a := 4) (by omega) (by omega))]
    simp only [zlet, u1, Option.bind_some, nI_1]
  obtain ⟨f, hf⟩ : ∃ f, zLF = f + 5 := ⟨zLF - 5, by omega⟩
  obtain ⟨M1, a1, a2, a3, a4, a5⟩ := turn 1 1 M (f + 4) (by omega) (by omega) (zf_refl _ _) (fun _ => rfl)
  obtain ⟨M2, b1, b2, b3, b4, b5⟩ := turn 2 (1 * nI 1) M1 (f + 3) (by omega) (by omega) a2 a3
  obtain ⟨M3, c1, c2, c3, c4, c5⟩ := turn 3 (1 * nI 1 * nI 2) M2 (f + 2) (by omega) (by omega) b2 b3
  obtain ⟨M4, d1, d2, d3, d4, d5⟩ := turn 4 (1 * nI 1 * nI 2 * nI 3) M3 (f + 1) (by omega) (by omega) c2 c3
  obtain ⟨M5, k1, k2, k3, k4, k5, k6, k7⟩ := cl_all (d := d) (le := le) (ro := ro) hP hn (.inr hk) (lk_zf hP hn h d2)
  refine ⟨M5, ?_, zf_trans d2 k2, k3, k4, k5, ?_, ?_⟩
  · have a1 : le_learnAny_108 d (f + 5) le (some (pa n)) 1 1 M = le_learnAny_108 d (f + 4) le (some (pa n)) (1 * nI 1) (nI (1 + 1)) M1 := a1
    rw [hf, a1, b1, c1, d1, le_learnAny_108, if_pos (show (4 : Int32) < nI (4 + 1) by decide), k1]
    rfl
  · intro j j1 j2 j3
    rw [k6 j j1 j2 j3, d4, c4, b4, a4]
  · intro k j1 j2
    rw [k7, d5 k j1 j2, c5 k j1 j2, b5 k j1 j2, a5 k j1 j2, h0 k j2]
    have e1 : (1 : Int32) * nI 1 = 1 := by decide
    have e2 : (1 : Int32) * nI 1 * nI 2 = 2 := by decide
    have e3 : (1 : Int32) * nI 1 * nI 2 * nI 3 = 6 := by decide
    have e4 : (1 : Int32) * nI 1 * nI 2 * nI 3 * nI 4 = 24 := by decide
    rw [e4, e3, e2, e1]
    rfl
theorem cl_any_33 (hP : py_ok P) {n : Nat} (hn : py_dm P n) (hk : py_kd P n = 4) : ∀ (b a : List Nat) (M : zM) (R : Nat → yv) (ms : List Nat), py_ks P n = a ++ b → lk_x M pa P n → lp_x M le ro → (∀ i j, i < 5 → j < 5 → zm_I M 20 ro (i * 5 + j) = R i j) → (∀ j, j < 5 → zm_I M 21 (pa n + 1) j = 0) → zm_I M 3 (pa n) 14 = zor ms → ∀ fuel, b.length < fuel → ∃ M', le_learnAny_33 d fuel le (some (pa n)) (b.head?.map pa) M = some M' ∧ zf (lw_W ro (pa n)) M M' ∧ zm_I M' 3 (pa n) 8 = zb (py_nu P n) ∧ zm_I M' 3 (pa n) 12 = nI (py_ln P n) ∧ zm_I M' 3 (pa n) 13 = zo (py_lg P n) ∧ zm_I M' 3 (pa n) 14 = zor (ms ++ py_ml (py_nu P) b a.length) ∧ (∀ j, j ≠ 8 → j ≠ 12 → j ≠ 13 → j ≠ 14 → zm_I M' 3 (pa n) j = zm_I M 3 (pa n) j) ∧ ∀ k, 1 ≤ k → k < 5 → zm_I M' 21 (pa n + 1) k = py_anf (b.foldl (fun rows c => py_anr rows (py_rd P c) (py_nu P c)) R) k := by
  intro b
  induction b with
  | nil =>
    intro a M R ms e h hp hR h0 h14 fuel hf
    cases fuel with
    | zero => cases hf
    | succ fuel =>
      obtain ⟨M', w1, w2, w3, w4, w5, w6, w7⟩ := cl_any_108 (d := d) hP hn hk h hp hR h0
      refine ⟨M', ?_, w2, w3, w4, w5, ?_, fun j j1 j2 j3 _ => w6 j j1 j2 j3, w7⟩
      · simp only [List.head?_nil, Option.map_none, le_learnAny_33]
        exact w1
      · rw [w6 14 (by omega) (by omega) (by omega), h14]
        simp [py_ml]
  | cons c b ih =>
    intro a M R ms e h hp hR h0 h14 fuel hf
    cases fuel with
    | zero => cases hf
    | succ fuel =>
      have hlf := zLF_10
      have hc : c ∈ py_ks P n := by rw [e]; simp
      have hcd := ok_kid hP hn hc
      have hne := cN_ne h.1 hP hn hc
      have hk4 := ok_k4 hP hn hk
      have hal : a.length < 4 := by
        have := hk4.2.1
        rw [e, List.length_append, List.length_cons] at this
        omega
      obtain ⟨k8, k9, k10, k11, k12, k13, k14, krd⟩ := h.2 c hc
      have hpl := cN_pl h.1 hn e
      have rest : ∀ (M0 : zM) (ms' : List Nat), zf (lw_W ro (pa n)) M M0 → (∀ j, zm_I M0 20 ro j = zm_I M 20 ro j) → (∀ j, zm_I M0 21 (pa n + 1) j = zm_I M 21 (pa n + 1) j) → (∀ j, j ≠ 14 → zm_I M0 3 (pa n) j = zm_I M 3 (pa n) j) → zm_I M0 3 (pa n) 14 = zor ms' → ms' ++ py_ml (py_nu P) b (a.length + 1) = ms ++ py_ml (py_nu P) (c :: b) a.length → ∃ M', le_learnAny_59 (fun p0 p1 p2 m => le_learnAny_33 d fuel p0 p1 p2 m) d le (some (pa n)) (some (pa c)) M0 = some M' ∧ zf (lw_W ro (pa n)) M M' ∧ zm_I M' 3 (pa n) 8 = zb (py_nu P n) ∧ zm_I M' 3 (pa n) 12 = nI (py_ln P n) ∧ zm_I M' 3 (pa n) 13 = zo (py_lg P n) ∧ zm_I M' 3 (pa n) 14 = zor (ms ++ py_ml (py_nu P) (c :: b) a.length) ∧ (∀ j, j ≠ 8 → j ≠ 12 → j ≠ 13 → j ≠ 14 → zm_I M' 3 (pa n) j = zm_I M 3 (pa n) j) ∧ ∀ k, 1 ≤ k → k < 5 → zm_I M' 21 (pa n + 1) k = py_anf ((c :: b).foldl (fun rows c => py_anr rows (py_rd P c) (py_nu P c)) R) k := by
        intro M0 ms' hf0 r20 r21 r3 r14 hms
        have hk0 := lk_zf hP hn h hf0
        have hp0 := lp_zf hp hf0
        obtain ⟨p8, p9, p10, p11, p12, p13, p14, prd⟩ := hk0.2 c hc
        obtain ⟨M1, g1, g2, g3⟩ := cl_any_61 (d := d) (n := pa n) (c := pa c) (rd := py_rd P c) (R := R) (e := py_nu P c) hne (fun p0 p1 p2 m => le_learnAny_33 d fuel p0 p1 p2 m) M0 (cN_15 hk0.1 hcd).1 (cN_15 hk0.1 hcd).2 prd p8 5 M0 (by omega) hp0 (zf_refl _ _) (fun i j hi hj => by rw [r20]; exact hR i j hi hj) (fun i j i1 i2 => by omega) zLF (by omega)
        have g1 : le_learnAny_61 (fun p0 p1 p2 m => le_learnAny_33 d fuel p0 p1 p2 m) d zLF le (some (pa n)) (some (pa c)) 4 M0 = _ := g1
        have hf1 : zf (lw_W ro (pa n)) M0 M1 := zf_20' g2
        have hk1 := lk_zf hP hn hk0 hf1
        have hnx := cN_nx hk0.1 hn e
        obtain ⟨M', w1, w2, w3, w4, w5, w6, w7, w8⟩ := ih (a ++ [c]) M1 (py_anr R (py_rd P c) (py_nu P c)) ms' (by rw [e]; simp) hk1 (lp_zf hp0 hf1) g3 (by
          intro j hj
          rw [g2.2.2.2.2.2.2 21 (pa n + 1) j (by omega), r21]
          exact h0 j hj) (by rw [g2.2.2.2.2.2.2 3 (pa n) 14 (by omega)]; exact r14) fuel (by simp at hf; omega)
        refine ⟨M', ?_, zf_trans hf0 (zf_trans hf1 w2), w3, w4, w5, ?_, ?_, w8⟩
        · unfold le_learnAny_59
          rw [g1, hnx]
          exact w1
        · rw [w6, List.length_append]
          show zor (ms' ++ py_ml (py_nu P) b (a.length + 1)) = _
          rw [hms]
        · intro j j1 j2 j3 j4
          rw [w7 j j1 j2 j3 j4, g2.2.2.2.2.2.2 3 (pa n) j (by omega)]
          exact r3 j j4
      simp only [List.head?_cons, Option.map_some, le_learnAny_33, k8, zlet, hpl]
      cases hu : py_nu P c with
      | false =>
        rw [if_pos pb_zbf, h14]
        refine rest _ (ms ++ [a.length]) (zf_3 (by omega)) (fun _ => pm_ne (by omega)) (fun _ => pm_ne (by omega)) (fun j hj => pm_ne (by omega)) ?_ ?_
        · rw [pm_same]
          exact zor_snoc ms a.length
        · rw [py_ml, hu]
          simp
      | true =>
        rw [if_neg (show ¬ zb true = 0 by decide)]
        refine rest M ms (zf_refl _ _) (fun _ => rfl) (fun _ => rfl) (fun _ _ => rfl) h14 ?_
        rw [py_ml, hu]
        simp
theorem cl_any_7 {a : Nat} : ∀ (m k : Nat) (M : zM), k + m = 5 → 1 ≤ k → lp_x M le ro → (∀ i j, 1 ≤ i → i < k → j < 5 → zm_I M 20 ro (i * 5 + j) = 0) → ∀ fuel, m < fuel → ∃ M1, le_learnAny_7 d fuel le (some a) (nI k) M = ((le_startRow d le 0 M1).bind fun q2 => le_learnAny_33 d zLF le (some a) (zm_R q2 3 a 5) q2) ∧ zf (fun t k j => t = 20 ∧ k = ro) M M1 ∧ (∀ i j, 1 ≤ i → i < 5 → j < 5 → zm_I M1 20 ro (i * 5 + j) = 0) := by
  intro m
  induction m with
  | zero =>
    intro k M hk hk1 hp hc fuel hf
    cases fuel with
    | zero => cases hf
    | succ fuel =>
      have : k = 5 := by omega
      subst this
      refine ⟨M, ?_, zf_refl _ _, hc⟩
      rw [le_learnAny_7, if_pos (show (4 : Int32) < nI 5 by decide)]
  | succ m ih =>
    intro k M hk hk1 hp hc fuel hf
    cases fuel with
    | zero => cases hf
    | succ fuel =>
      obtain ⟨M1, g1, g2, g3, g4⟩ := cl_clearRow (d := d) (i := k) (by omega) hp
      obtain ⟨M2, w1, w2, w3⟩ := ih (k + 1) M1 (by omega) (by omega) (lp_zf hp g4) (by
        intro i j i1 i2 hj
        by_cases e : i = k
        · subst e; exact g2 j hj
        · rw [g3 _ (by omega)]
          exact hc i j i1 (by omega) hj) fuel (by omega)
      refine ⟨M2, ?_, zf_trans g4 w2, w3⟩
      rw [le_learnAny_7, if_neg (show ¬ (4 : Int32) < nI k from nI_nlt (a := 4) (by omega) (by omega)), g1]
      simp only [Option.bind_some, zlet, nI_1]
      exact w1
theorem cl_any (hP : py_ok P) {n : Nat} (hn : py_dm P n) (hk : py_kd P n = 4) (hd : 2 ≤ d) (h : lk_x M pa P n) (hp : lp_x M le ro) (h0 : ∀ j, j < 5 → zm_I M 21 (pa n + 1) j = 0) (h9 : zm_I M 3 (pa n) 9 = zor (py_fl P n)) (h10 : zm_I M 3 (pa n) 10 = zor (py_lal P n)) (h11 : zm_I M 3 (pa n) 11 = zor (py_in P n)) : ∃ M', le_learnAny d le (some (pa n)) M = some M' ∧ zf (lw_W ro (pa n)) M M' ∧ ca_n M' pa P n := by
  obtain ⟨d, rfl⟩ : ∃ d', d = d' + 1 := ⟨d - 1, by omega⟩
  have eb : le_learnAny (d + 1) le (some (pa n)) M = le_learnAny_b d le (some (pa n)) M := rfl
  rw [eb]
  unfold le_learnAny_b
  simp only [zlet]
  have hlf := zLF_10
  have hf0 : zf (lw_W ro (pa n)) M (zm_setI M 3 (pa n) 14 0) := zf_3 (by omega)
  obtain ⟨M1, g1, g2, g3⟩ := cl_any_7 (d := d) (a := pa n) 4 1 (zm_setI M 3 (pa n) 14 0) (by omega) (by omega) (lp_zf hp hf0) (fun i j i1 i2 => by omega) zLF (by omega)
  have g1 : le_learnAny_7 d zLF le (some (pa n)) 1 (zm_setI M 3 (pa n) 14 0) = _ := g1
  have hf1 : zf (lw_W ro (pa n)) M M1 := zf_trans hf0 (zf_20' g2)
  obtain ⟨M2, s1, s2, s3, s4⟩ := cl_startRow (d := d) (lp_zf hp hf1) (by omega)
  have hf2 : zf (lw_W ro (pa n)) M M2 := zf_trans hf1 (zf_20' s4)
  have hk2 := lk_zf hP hn h hf2
  have o3 : ∀ j, zm_I M2 3 (pa n) j = zm_I (zm_setI M 3 (pa n) 14 0) 3 (pa n) j := fun j => (s4.2.2.2.2.2.2 3 (pa n) j (by omega)).trans (g2.2.2.2.2.2.2 3 (pa n) j (by omega))
  obtain ⟨M', w1, w2, w3, w4, w5, w6, w7, w8⟩ := cl_any_33 (d := d) (le := le) (ro := ro) hP hn hk (py_ks P n) [] M2 py_an0 [] rfl hk2 (lp_zf hp hf2) (by
    intro i j hi hj
    unfold py_an0
    by_cases e : i = 0
    · subst e
      rw [if_pos rfl, Nat.zero_mul, Nat.zero_add]
      exact s2 j hj
    · rw [if_neg e, s3 _ (by omega)]
      exact g3 i j (by omega) hi hj) (by
    intro j hj
    rw [s4.2.2.2.2.2.2 21 (pa n + 1) j (by omega), g2.2.2.2.2.2.2 21 (pa n + 1) j (by omega), pm_ne (by omega)]
    exact h0 j hj) (by rw [o3, pm_same]; rfl) zLF (ks_LF hP hn)
  refine ⟨M', ?_, zf_trans hf2 w2, ca_mk w3 ?_ ?_ ?_ w4 w5 (fun _ => ?_) ?_⟩
  · rw [g1, s1]
    simp only [Option.bind_some, cN_ks hk2.1 hn]
    exact w1
  · rw [w7 9 (by omega) (by omega) (by omega) (by omega), o3, pm_ne (by omega)]; exact h9
  · rw [w7 10 (by omega) (by omega) (by omega) (by omega), o3, pm_ne (by omega)]; exact h10
  · rw [w7 11 (by omega) (by omega) (by omega) (by omega), o3, pm_ne (by omega)]; exact h11
  · rw [w6]
    rfl
  · intro k k1 k2
    rw [w8 k k1 (by omega), rd_eq hP hn]
    unfold py_rdg
    rw [if_neg (by omega), if_neg (by omega), if_neg (by omega), if_neg (by omega), if_pos hk]
end
