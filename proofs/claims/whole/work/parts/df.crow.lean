/-! THE CLASS learns a row, a choice -/
section
variable {M M' : zM} {pa : Nat → Nat} {P : yP} {le ro d : Nat}
theorem cl_row_22 (hP : py_ok P) {n : Nat} (hn : py_dm P n) (hk : py_kd P n = 2) : ∀ (b a : List Nat) (M : zM) (g : Bool) (row : yv), py_ks P n = a ++ b → lk_x M pa P n → lp_x M le ro → (∀ j, j < 5 → zm_I M 20 ro j = row j) → (∀ j, j < 5 → zm_I M 21 (pa n + 1) j = 0) → ∀ fuel, b.length < fuel → ∃ M', le_learnRow_22 d fuel le (some (pa n)) (zb g) (b.head?.map pa) M = some M' ∧ zf (lw_W ro (pa n)) M M' ∧ zm_I M' 3 (pa n) 9 = py_go2 (py_nu P) (py_fl P) b g (zm_I M 3 (pa n) 9) ∧ zm_I M' 3 (pa n) 10 = py_go3 (py_nu P) (py_lal P) b (zm_I M 3 (pa n) 10) ∧ zm_I M' 3 (pa n) 11 = zm_I M 3 (pa n) 11 ∧ zm_I M' 3 (pa n) 8 = zb (py_nu P n) ∧ zm_I M' 3 (pa n) 12 = nI (py_ln P n) ∧ zm_I M' 3 (pa n) 13 = zo (py_lg P n) ∧ ∀ k, 1 ≤ k → k < 5 → zm_I M' 21 (pa n + 1) k = 0 + b.foldl (fun row c => py_mul row (py_rd P c) (py_nu P c)) row k * 1 := by
  intro b
  induction b with
  | nil =>
    intro a M g row e h hp hrow h0 fuel hf
    cases fuel with
    | zero => cases hf
    | succ fuel =>
      obtain ⟨M1, g1, g2, g3⟩ := cl_addRow (d := d) (i := 0) (t := 1) (row := row) (by omega) hp (cN_15 h.1 hn).1 (cN_15 h.1 hn).2 (fun j j1 j2 => by rw [Nat.zero_mul, Nat.zero_add]; exact hrow j j2)
      have g1 : le_addRow d le (some (pa n)) 0 1 M = some M1 := g1
      obtain ⟨M2, k1, k2, k3, k4, k5, k6, k7⟩ := cl_all (d := d) (le := le) (ro := ro) hP hn (.inl hk) (lk_zf hP hn h (zf_21 (ro := ro) g2))
      refine ⟨M2, ?_, zf_trans (zf_21 g2) k2, ?_, ?_, ?_, k3, k4, k5, ?_⟩
      · simp only [List.head?_nil, Option.map_none, le_learnRow_22, g1, Option.bind_some, k1]
      · rw [k6 9 (by omega) (by omega) (by omega)]
        exact g2.2.2.2.2.2.2 3 (pa n) 9 (by omega)
      · rw [k6 10 (by omega) (by omega) (by omega)]
        exact g2.2.2.2.2.2.2 3 (pa n) 10 (by omega)
      · rw [k6 11 (by omega) (by omega) (by omega)]
        exact g2.2.2.2.2.2.2 3 (pa n) 11 (by omega)
      · intro k j1 j2
        rw [k7, g3 k j1 j2, h0 k (by omega)]
        rfl
  | cons c b ih =>
    intro a M g row e h hp hrow h0 fuel hf
    cases fuel with
    | zero => cases hf
    | succ fuel =>
      have hc : c ∈ py_ks P n := by rw [e]; simp
      have hcd := ok_kid hP hn hc
      have hne := cN_ne h.1 hP hn hc
      obtain ⟨q8, q9, q10, q11, q12, q13, q14, qrd⟩ := h.2 c hc
      -- from where the first letters stand
      have tail : ∀ (M0 : zM), zf (lw_W ro (pa n)) M M0 → (∀ j, zm_I M0 20 ro j = zm_I M 20 ro j) → (∀ j, zm_I M0 21 (pa n + 1) j = zm_I M 21 (pa n + 1) j) → (∀ j, j ≠ 9 → zm_I M0 3 (pa n) j = zm_I M 3 (pa n) j) → ∃ M', le_learnRow_43 (fun p0 p1 p2 p3 m => le_learnRow_22 d fuel p0 p1 p2 p3 m) d le (some (pa n)) (zb g) (some (pa c)) M0 = some M' ∧ zf (lw_W ro (pa n)) M M' ∧ zm_I M' 3 (pa n) 9 = py_go2 (py_nu P) (py_fl P) b (g && py_nu P c) (zm_I M0 3 (pa n) 9) ∧ zm_I M' 3 (pa n) 10 = py_go3 (py_nu P) (py_lal P) b (if py_nu P c then zm_I M 3 (pa n) 10 ||| zor (py_lal P c) else zor (py_lal P c)) ∧ zm_I M' 3 (pa n) 11 = zm_I M 3 (pa n) 11 ∧ zm_I M' 3 (pa n) 8 = zb (py_nu P n) ∧ zm_I M' 3 (pa n) 12 = nI (py_ln P n) ∧ zm_I M' 3 (pa n) 13 = zo (py_lg P n) ∧ ∀ k, 1 ≤ k → k < 5 → zm_I M' 21 (pa n + 1) k = 0 + b.foldl (fun row c => py_mul row (py_rd P c) (py_nu P c)) (py_mul row (py_rd P c) (py_nu P c)) k * 1 := by
        intro M0 hf0 hr0 hd0 h30
        have hk0 := lk_zf hP hn h hf0
        have hp0 := lp_zf hp hf0
        obtain ⟨p8, p9, p10, p11, p12, p13, p14, prd⟩ := hk0.2 c hc
        obtain ⟨M2, hM2⟩ : ∃ Y, Y = zm_setI M0 3 (pa n) 10 (if py_nu P c then zm_I M 3 (pa n) 10 ||| zor (py_lal P c) else zor (py_lal P c)) := ⟨_, rfl⟩
        have hf2 : zf (lw_W ro (pa n)) M0 M2 := by rw [hM2]; exact zf_3 (by omega)
        have hk2 := lk_zf hP hn hk0 hf2
        have hp2 := lp_zf hp0 hf2
        obtain ⟨r8, r9, r10, r11, r12, r13, r14, rrd⟩ := hk2.2 c hc
        obtain ⟨M3, m1, m2, m3⟩ := cl_multiply (d := d) (ro := ro) (row := row) (rd := py_rd P c) (py_nu P c) hp2 (cN_15 hk2.1 hcd).1 (cN_15 hk2.1 hcd).2 rrd (fun j hj => by rw [hM2, pm_ne (by omega), hr0]; exact hrow j hj)
        have hf3 : zf (lw_W ro (pa n)) M2 M3 := zf_20 m2
        have hk3 := lk_zf hP hn hk2 hf3
        have hp3 := lp_zf hp2 hf3
        obtain ⟨M', w1, w2, w3, w4, w5, w6, w7, w8, w9⟩ := ih (a ++ [c]) M3 (g && py_nu P c) (py_mul row (py_rd P c) (py_nu P c)) (by rw [e]; simp) hk3 hp3 m3 (by
          intro j hj
          rw [m2.2.2.2.2.2.2 21 (pa n + 1) j (by omega), hM2, pm_ne (by omega), hd0]
          exact h0 j hj) fuel (by simp at hf; omega)
        have hnx : zm_R M3 3 (pa c) 7 = b.head?.map pa := cN_nx hk3.1 hn e
        have h84 : ∀ (g' : Bool) (v : Int32), v = (if py_nu P c then zm_I M 3 (pa n) 10 ||| zor (py_lal P c) else zor (py_lal P c)) → le_learnRow_84 (fun p0 p1 p2 p3 m => le_learnRow_22 d fuel p0 p1 p2 p3 m) d le (some (pa n)) (zb g') (some (pa c)) (some (pa n)) v M0 = le_learnRow_22 d fuel le (some (pa n)) (zb g') (b.head?.map pa) M3 := by
          intro g' v hv
          unfold le_learnRow_84
          simp only [zlet]
          rw [hv, ← hM2]
          simp only [r8, m1, Option.bind_some, hnx]
        have h59 : ∀ (g' : Bool), le_learnRow_59 (fun p0 p1 p2 p3 m => le_learnRow_22 d fuel p0 p1 p2 p3 m) d le (some (pa n)) (some (pa c)) (zb g') M0 = le_learnRow_22 d fuel le (some (pa n)) (zb g') (b.head?.map pa) M3 := by
          intro g'
          unfold le_learnRow_59
          simp only [p8, p10]
          cases hu : py_nu P c with
          | false =>
            rw [if_pos pb_zbf]
            exact h84 g' _ (by rw [hu]; rfl)
          | true =>
            rw [if_neg (show ¬ zb true = 0 by decide)]
            exact h84 g' _ (by rw [hu, h30 10 (by omega)]; rfl)
        refine ⟨M', ?_, zf_trans hf0 (zf_trans hf2 (zf_trans hf3 w2)), ?_, ?_, ?_, w6, w7, w8, w9⟩
        · unfold le_learnRow_43
          simp only [p8, le_learnRow_58]
          have f0 := h59 false
          have f1 := h59 true
          rw [pb_zbf] at f0
          rw [pb_zbt] at f1
          cases g with
          | false =>
            rw [if_pos pb_zbf, f0]
            exact w1
          | true =>
            rw [if_neg (show ¬ zb true = 0 by decide)]
            cases hu : py_nu P c with
            | false =>
              rw [if_pos pb_zbf, f0]
              rw [hu] at w1
              exact w1
            | true =>
              rw [if_neg (show ¬ zb true = 0 by decide), f1]
              rw [hu] at w1
              exact w1
        · rw [w3, m2.2.2.2.2.2.2 3 (pa n) 9 (by omega), hM2, pm_ne (by omega)]
        · rw [w4, m2.2.2.2.2.2.2 3 (pa n) 10 (by omega), hM2, pm_same]
        · rw [w5, m2.2.2.2.2.2.2 3 (pa n) 11 (by omega), hM2, pm_ne (by omega)]
          exact h30 11 (by omega)
      simp only [List.head?_cons, Option.map_some, le_learnRow_22, q9, zlet]
      cases g with
      | false =>
        rw [if_pos pb_zbf]
        obtain ⟨M', w1, w2, w3, w4⟩ := tail M (zf_refl _ _) (fun _ => rfl) (fun _ => rfl) (fun _ _ => rfl)
        exact ⟨M', w1, w2, w3, w4⟩
      | true =>
        rw [if_neg (show ¬ zb true = 0 by decide)]
        obtain ⟨M', w1, w2, w3, w4⟩ := tail (zm_setI M 3 (pa n) 9 (zm_I M 3 (pa n) 9 ||| zor (py_fl P c))) (zf_3 (by omega)) (fun _ => pm_ne (by omega)) (fun _ => pm_ne (by omega)) (fun j hj => pm_ne (by omega))
        refine ⟨M', w1, w2, ?_, w4⟩
        rw [w3, pm_same]
        rfl
theorem cl_row (hP : py_ok P) {n : Nat} (hn : py_dm P n) (hk : py_kd P n = 2) (hd : 2 ≤ d) (h : lk_x M pa P n) (hp : lp_x M le ro) (h0 : ∀ j, j < 5 → zm_I M 21 (pa n + 1) j = 0) (h11 : zm_I M 3 (pa n) 11 = zor (py_in P n)) : ∃ M', le_learnRow d le (some (pa n)) M = some M' ∧ zf (lw_W ro (pa n)) M M' ∧ ca_n M' pa P n := by
  obtain ⟨d, rfl⟩ : ∃ d', d = d' + 1 := ⟨d - 1, by omega⟩
  have eb : le_learnRow (d + 1) le (some (pa n)) M = le_learnRow_b d le (some (pa n)) M := rfl
  rw [eb]
  unfold le_learnRow_b
  simp only [zlet]
  have hf1 : zf (lw_W ro (pa n)) M (zm_setI (zm_setI M 3 (pa n) 9 0) 3 (pa n) 10 0) := zf_trans (zf_3 (by omega)) (zf_3 (by omega))
  obtain ⟨M2, g1, g2, g3, g4⟩ := cl_startRow (d := d) (lp_zf hp hf1) (by omega)
  have hf2 : zf (lw_W ro (pa n)) M M2 := zf_trans hf1 (zf_20' g4)
  have hk2 := lk_zf hP hn h hf2
  obtain ⟨M', w1, w2, w3, w4, w5, w6, w7, w8, w9⟩ := cl_row_22 (d := d) (le := le) (ro := ro) hP hn hk (py_ks P n) [] M2 true py_st rfl hk2 (lp_zf hp hf2) g2 (by
    intro j hj
    rw [g4.2.2.2.2.2.2 21 (pa n + 1) j (by omega), pm_ne (by omega), pm_ne (by omega)]
    exact h0 j hj) zLF (ks_LF hP hn)
  refine ⟨M', ?_, zf_trans hf2 w2, ca_mk w6 ?_ ?_ ?_ w7 w8 (fun x => by omega) ?_⟩
  · rw [g1]
    simp only [Option.bind_some, cN_ks hk2.1 hn]
    exact w1
  · rw [w3, g4.2.2.2.2.2.2 3 (pa n) 9 (by omega), pm_ne (by omega), pm_same]
    exact go2_eq hP hn hk
  · rw [w4, g4.2.2.2.2.2.2 3 (pa n) 10 (by omega), pm_same]
    exact go3_eq hP hn hk
  · rw [w5, g4.2.2.2.2.2.2 3 (pa n) 11 (by omega), pm_ne (by omega), pm_ne (by omega)]
    exact h11
  · intro k k1 k2
    rw [w9 k k1 (by omega), rd_eq hP hn]
    unfold py_rdg
    rw [if_neg (by omega), if_neg (by omega), if_pos hk]
/-- readings of a part are added -/
theorem cl_choice_93 {a c : Nat} (kl : Option Nat → Int32 → Int32 → Int32 → Option Nat → zM → Option zM) (v2 v3 v4 : Int32) (h15 : zm_R M 3 a 15 = some (a + 1)) (hL : zm_L M 21 (a + 1) = 5) (h15c : zm_R M 3 c 15 = some (c + 1)) (hLc : zm_L M 21 (c + 1) = 5) (hac : c ≠ a) : ∀ (m k : Nat) (M1 : zM), k + m = 5 → 1 ≤ k → zf (fun t k j => t = 21 ∧ k = a + 1) M M1 → (∀ j, k ≤ j → j < 5 → zm_I M1 21 (a + 1) j = zm_I M 21 (a + 1) j) → (∀ j, 1 ≤ j → j < k → zm_I M1 21 (a + 1) j = zm_I M 21 (a + 1) j + zm_I M 21 (c + 1) j) → ∀ fuel, m < fuel → ∃ M', le_learnChoice_93 kl d fuel (some a) v2 v3 v4 (some c) (nI k) M1 = kl (some a) v2 v3 v4 (zm_R M 3 c 7) M' ∧ zf (fun t k j => t = 21 ∧ k = a + 1) M M' ∧ (∀ j, 1 ≤ j → j < 5 → zm_I M' 21 (a + 1) j = zm_I M 21 (a + 1) j + zm_I M 21 (c + 1) j) := by
  intro m
  induction m with
  | zero =>
    intro k M1 hk _ hf _ h2 fuel hfu
    cases fuel with
    | zero => cases hfu
    | succ fuel =>
      have : k = 5 := by omega
      subst this
      refine ⟨M1, ?_, hf, fun j j1 j2 => h2 j j1 (by omega)⟩
      rw [le_learnChoice_93, if_pos (show (5 : Int32) ≤ nI 5 by decide), hf.1]
  | succ m ih =>
    intro k M1 hk hk1 hf h1 h2 fuel hfu
    cases fuel with
    | zero => cases hfu
    | succ fuel =>
      have hz2 : z_in (nI k) 5 := nI_in (by omega) (by omega)
      have a1 : zm_R M1 3 a 15 = some (a + 1) := by rw [hf.1]; exact h15
      have a2 : zm_L M1 21 (a + 1) = 5 := by rw [hf.2.1]; exact hL
      have a3 : zm_R M1 3 c 15 = some (c + 1) := by rw [hf.1]; exact h15c
      have a4 : zm_L M1 21 (c + 1) = 5 := by rw [hf.2.1]; exact hLc
      have a5 : zm_I M1 21 (c + 1) k = zm_I M 21 (c + 1) k := hf.2.2.2.2.2.2 21 (c + 1) k (by omega)
      rw [le_learnChoice_93, if_neg (show ¬ (5 : Int32) ≤ nI k from nI_ge (b := 5) (by omega) (by omega))]
      simp only [a1, a2, a3, a4, if_pos hz2, nI_clamp (show k < 2 ^ 31 by omega), a5, h1 k (by omega) (by omega), zlet, nI_1]
      have hfz : zf (fun t k j => t = 21 ∧ k = a + 1) M1 (zm_setI M1 21 (a + 1) k (zm_I M 21 (a + 1) k + zm_I M 21 (c + 1) k)) := zf_set ⟨rfl, rfl⟩
      refine ih (k + 1) _ (by omega) (by omega) (zf_trans hf hfz) ?_ ?_ fuel (by omega)
      · intro j j1 j2
        rw [pm_ne (by omega)]
        exact h1 j (by omega) j2
      · intro j j1 j2
        by_cases e : j = k
        · subst e; exact pm_same
        · rw [pm_ne (by omega)]
          exact h2 j j1 (by omega)
def py_mo1 (a : Option Nat) (v : Nat) : Option Nat := match a with
  | none => some v
  | some x => some (min x v)
theorem cl_choice_13 (hP : py_ok P) {n : Nat} (hn : py_dm P n) (hk3 : py_kd P n = 3) : ∀ (b a : List Nat) (M : zM) (e : Bool) (s m : Option Nat), py_ks P n = a ++ b → lk_x M pa P n → (∀ x, m = some x → x ≤ 2304) → (∀ x, s = some x → x ≤ 2304) → ∀ fuel, b.length < fuel → ∃ M', le_learnChoice_13 d fuel (some (pa n)) (zb e) (zo s) (zo m) (b.head?.map pa) M = some M' ∧ zf (lw_W ro (pa n)) M M' ∧ zm_I M' 3 (pa n) 8 = zb (e || b.any (py_nu P)) ∧ zm_I M' 3 (pa n) 12 = zo (b.foldl (fun a c => py_mo1 a (py_ln P c)) s) ∧ zm_I M' 3 (pa n) 13 = zo (b.foldl (fun a c => py_lo1 3 a (py_lg P c)) m) ∧ (∀ j, j ≠ 8 → j ≠ 12 → j ≠ 13 → zm_I M' 3 (pa n) j = zm_I M 3 (pa n) j) ∧ ∀ k, 1 ≤ k → k < 5 → zm_I M' 21 (pa n + 1) k = b.foldl (fun s c => s + py_rd P c k) (zm_I M 21 (pa n + 1) k) := by
  intro b
  induction b with
  | nil =>
    intro a M e s m _ h hm hs fuel hf
    cases fuel with
    | zero => cases hf
    | succ fuel =>
      refine ⟨zm_setI (zm_setI (zm_setI M 3 (pa n) 8 (zb e)) 3 (pa n) 12 (zo s)) 3 (pa n) 13 (zo m), ?_, zf_trans (zf_trans (zf_3 (by omega)) (zf_3 (by omega))) (zf_3 (by omega)), ?_, ?_, ?_, ?_, ?_⟩
      · simp only [List.head?_nil, Option.map_none, le_learnChoice_13, if_pos (pb_zb e), zlet]
      · rw [pm_ne (by omega), pm_ne (by omega), pm_same]; simp
      · rw [pm_ne (by omega), pm_same]; rfl
      · rw [pm_same]; rfl
      · intro j j1 j2 j3
        rw [pm_ne (by omega), pm_ne (by omega), pm_ne (by omega)]
      · intro k k1 k2
        rw [pm_ne (by omega), pm_ne (by omega), pm_ne (by omega)]; rfl
  | cons c b ih =>
    intro a M e s m ea h hm hs fuel hf
    cases fuel with
    | zero => cases hf
    | succ fuel =>
      have hlf := zLF_10
      have hc : c ∈ py_ks P n := by rw [ea]; simp
      have hcd := ok_kid hP hn hc
      have hne := cN_ne h.1 hP hn hc
      obtain ⟨k8, k9, k10, k11, k12, k13, k14, krd⟩ := h.2 c hc
      have hB := B_le hP hcd
      have hln := ln_le hP hcd
      have hlg : ∀ v, py_lg P c = some v → v ≤ 2304 := fun v hv => Nat.le_trans (lg_le hP c hcd v hv) hB
      have hnx := cN_nx h.1 hn ea
      obtain ⟨M1, u1, u2, u3⟩ := cl_choice_93 (d := d) (M := M) (a := pa n) (c := pa c) (fun p0 p1 p2 p3 p4 m => le_learnChoice_13 d fuel p0 p1 p2 p3 p4 m) 0 0 0 (cN_15 h.1 hn).1 (cN_15 h.1 hn).2 (cN_15 h.1 hcd).1 (cN_15 h.1 hcd).2 hne 4 1 M (by omega) (by omega) (zf_refl _ _) (fun _ _ _ => rfl) (fun j j1 j2 => by omega) zLF (by omega)
      have mid : ∀ (e' : Bool), le_learnChoice_35 (fun p0 p1 p2 p3 p4 m => le_learnChoice_13 d fuel p0 p1 p2 p3 p4 m) d (some (pa n)) (zo s) (zo m) (some (pa c)) (zb e') M = le_learnChoice_93 (fun p0 p1 p2 p3 p4 m => le_learnChoice_13 d fuel p0 p1 p2 p3 p4 m) d zLF (some (pa n)) (zb e') (zo (py_mo1 s (py_ln P c))) (zo (py_lo1 3 m (py_lg P c))) (some (pa c)) 1 M := by
        intro e'
        have m58 : ∀ v, le_learnChoice_58 (fun p0 p1 p2 p3 p4 m => le_learnChoice_13 d fuel p0 p1 p2 p3 p4 m) d (some (pa n)) (zb e') (zo m) (some (pa c)) v M = le_learnChoice_93 (fun p0 p1 p2 p3 p4 m => le_learnChoice_13 d fuel p0 p1 p2 p3 p4 m) d zLF (some (pa n)) (zb e') v (zo (py_lo1 3 m (py_lg P c))) (some (pa c)) 1 M := by
          intro v
          unfold le_learnChoice_58
          simp only [k13, le_learnChoice_74, le_learnChoice_88]
          cases m with
          | none => rw [if_pos pb_zon]; rfl
          | some x =>
            have hx := hm x rfl
            rw [if_neg (show ¬ zo (some x) = -1 from pb_ne1 (by omega))]
            cases el : py_lg P c with
            | none => rw [if_pos pb_zon]; rfl
            | some w =>
              have hv := hlg w el
              rw [if_neg (show ¬ zo (some w) = -1 from pb_ne1 (by omega))]
              have : (if zo (some x) < zo (some w) then zo (some w) else zo (some x)) = zo (py_lo1 3 (some x) (some w)) := pb_max (by omega) (by omega)
              rw [this]
        unfold le_learnChoice_35
        simp only [k12]
        cases s with
        | none =>
          rw [if_pos pb_zon]
          exact m58 _
        | some x =>
          have hx := hs x rfl
          rw [if_neg (show ¬ zo (some x) = -1 from pb_ne1 (by omega))]
          have : (if nI (py_ln P c) < zo (some x) then nI (py_ln P c) else zo (some x)) = zo (py_mo1 (some x) (py_ln P c)) := pb_min (by omega) (by omega)
          rw [this]
          exact m58 _
      have hm2 : ∀ x, py_lo1 3 m (py_lg P c) = some x → x ≤ 2304 := by
        intro x hx
        unfold py_lo1 at hx
        cases m with
        | none => cases hx
        | some y =>
          cases el : py_lg P c with
          | none => rw [el] at hx; cases hx
          | some v =>
            rw [el] at hx
            have hv := hlg v el
            have hy := hm y rfl
            dsimp only at hx
            rw [if_pos rfl] at hx
            injection hx with hx
            omega
      have hs2 : ∀ x, py_mo1 s (py_ln P c) = some x → x ≤ 2304 := by
        intro x hx
        cases s with
        | none => injection hx with hx; omega
        | some y =>
          have := hs y rfl
          injection hx with hx
          omega
      have hf1 : zf (lw_W ro (pa n)) M M1 := zf_21 u2
      have hk1 := lk_zf hP hn h hf1
      have go : ∀ (e' : Bool), (e || py_nu P c) = e' → ∃ M', le_learnChoice_35 (fun p0 p1 p2 p3 p4 m => le_learnChoice_13 d fuel p0 p1 p2 p3 p4 m) d (some (pa n)) (zo s) (zo m) (some (pa c)) (zb e') M = some M' ∧ zf (lw_W ro (pa n)) M M' ∧ zm_I M' 3 (pa n) 8 = zb (e || (c :: b).any (py_nu P)) ∧ zm_I M' 3 (pa n) 12 = zo ((c :: b).foldl (fun a c => py_mo1 a (py_ln P c)) s) ∧ zm_I M' 3 (pa n) 13 = zo ((c :: b).foldl (fun a c => py_lo1 3 a (py_lg P c)) m) ∧ (∀ j, j ≠ 8 → j ≠ 12 → j ≠ 13 → zm_I M' 3 (pa n) j = zm_I M 3 (pa n) j) ∧ ∀ k, 1 ≤ k → k < 5 → zm_I M' 21 (pa n + 1) k = (c :: b).foldl (fun s c => s + py_rd P c k) (zm_I M 21 (pa n + 1) k) := by
        intro e' he
        obtain ⟨M1', u1', u2', u3'⟩ := cl_choice_93 (d := d) (M := M) (a := pa n) (c := pa c) (fun p0 p1 p2 p3 p4 m => le_learnChoice_13 d fuel p0 p1 p2 p3 p4 m) (zb e') (zo (py_mo1 s (py_ln P c))) (zo (py_lo1 3 m (py_lg P c))) (cN_15 h.1 hn).1 (cN_15 h.1 hn).2 (cN_15 h.1 hcd).1 (cN_15 h.1 hcd).2 hne 4 1 M (by omega) (by omega) (zf_refl _ _) (fun _ _ _ => rfl) (fun j j1 j2 => by omega) zLF (by omega)
        have u1' : le_learnChoice_93 (fun p0 p1 p2 p3 p4 m => le_learnChoice_13 d fuel p0 p1 p2 p3 p4 m) d zLF (some (pa n)) (zb e') (zo (py_mo1 s (py_ln P c))) (zo (py_lo1 3 m (py_lg P c))) (some (pa c)) 1 M = _ := u1'
        have hf1 : zf (lw_W ro (pa n)) M M1' := zf_21 u2'
        have hk1 := lk_zf hP hn h hf1
        obtain ⟨M', w1, w2, w3, w4, w5, w6, w7⟩ := ih (a ++ [c]) M1' e' (py_mo1 s (py_ln P c)) (py_lo1 3 m (py_lg P c)) (by rw [ea]; simp) hk1 hm2 hs2 fuel (by simp at hf; omega)
        refine ⟨M', ?_, zf_trans hf1 w2, ?_, w4, w5, ?_, ?_⟩
        · rw [mid e', u1', hnx]
          exact w1
        · rw [w3, ← he, List.any_cons, Bool.or_assoc]
        · intro j j1 j2 j3
          rw [w6 j j1 j2 j3]
          exact u2'.2.2.2.2.2.2 3 (pa n) j (by omega)
        · intro k k1 k2
          rw [w7 k k1 k2, u3' k k1 k2, krd k k1 (by omega)]
          rfl
      simp only [List.head?_cons, Option.map_some, le_learnChoice_13, k8, le_learnChoice_30]
      cases e with
      | false =>
        rw [if_pos pb_zbf]
        cases hu : py_nu P c with
        | false =>
          rw [if_pos pb_zbf]
          have := go false (by rw [hu]; rfl)
          rw [pb_zbf] at this
          exact this
        | true =>
          rw [if_neg (show ¬ zb true = 0 by decide)]
          have := go true (by rw [hu]; rfl)
          rw [pb_zbt] at this
          exact this
      | true =>
        rw [if_neg (show ¬ zb true = 0 by decide)]
        have := go true rfl
        rw [pb_zbt] at this
        exact this
theorem mo1_mn {f : Nat → Nat} : ∀ (l : List Nat) (a : Nat), l.foldl (fun a c => py_mo1 a (f c)) (some a) = some (l.foldl (fun m c => min m (f c)) a) := by
  intro l
  induction l with
  | nil => intro a; rfl
  | cons c l ih => intro a; exact ih _
theorem cl_choice (hP : py_ok P) {n : Nat} (hn : py_dm P n) (hk : py_kd P n = 3) (h : lk_x M pa P n) (h0 : ∀ j, j < 5 → zm_I M 21 (pa n + 1) j = 0) (h9 : zm_I M 3 (pa n) 9 = zor (py_fl P n)) (h10 : zm_I M 3 (pa n) 10 = zor (py_lal P n)) (h11 : zm_I M 3 (pa n) 11 = zor (py_in P n)) : ∃ M', le_learnChoice d le (some (pa n)) M = some M' ∧ zf (lw_W ro (pa n)) M M' ∧ ca_n M' pa P n := by
  obtain ⟨M', w1, w2, w3, w4, w5, w6, w7⟩ := cl_choice_13 (d := d) (ro := ro) hP hn hk (py_ks P n) [] M false none (some 0) rfl h (fun x hx => by injection hx with hx; omega) (fun x hx => by cases hx) zLF (ks_LF hP hn)
  refine ⟨M', ?_, w2, ca_mk ?_ ?_ ?_ ?_ ?_ ?_ (fun x => by omega) ?_⟩
  · unfold le_learnChoice
    simp only [cN_ks h.1 hn]
    exact w1
  · rw [w3, Bool.false_or, nu_any hP hn hk]
  · rw [w6 9 (by omega) (by omega) (by omega)]; exact h9
  · rw [w6 10 (by omega) (by omega) (by omega)]; exact h10
  · rw [w6 11 (by omega) (by omega) (by omega)]; exact h11
  · rw [w4, ln_min hP hn hk]
    have h2 := ok_k3 hP hn hk
    cases e : py_ks P n with
    | nil => rw [e] at h2; simp at h2
    | cons x l =>
      rw [List.foldl_cons]
      show zo (l.foldl (fun a c => py_mo1 a (py_ln P c)) (some (py_ln P x))) = _
      rw [mo1_mn]
      rfl
  · rw [w5, lo1_lgf, lg_eq hP hn]
    unfold py_lgg
    rw [if_neg (by omega), if_neg (by omega), hk]
    cases py_lgf 3 (py_lg P) 0 (py_ks P n) with
    | none => rfl
    | some s =>
      dsimp only
      rw [if_neg (by omega)]
  · intro k k1 k2
    rw [w7 k k1 (by omega), h0 k (by omega), rd_eq hP hn]
    unfold py_rdg
    rw [if_neg (by omega), if_neg (by omega), if_neg (by omega), if_pos hk]
end
