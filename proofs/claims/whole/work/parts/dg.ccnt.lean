/-! THE CLASS learns a count, an any -/
section
variable {M M' : zM} {pa : Nat → Nat} {P : yP} {le ro d : Nat}
theorem cl_cnt_129 (hP : py_ok P) {n c : Nat} (hn : py_dm P n) (hc : py_ks P n = [c]) {few : Nat} {to : Option Nat} (hto : ∀ x, to = some x → x ≤ 12) (hfew : few ≤ 12) : ∀ (m t : Nat) (M : zM) (s : yv × yv), t + m = 5 → 1 ≤ t → lk_x M pa P n → lp_x M le ro → (∀ j, j < 5 → zm_I M 20 ro j = s.1 j) → (∀ k, 1 ≤ k → k < 5 → zm_I M 21 (pa n + 1) k = s.2 k) → ∀ fuel, m < fuel → ∃ M', le_learnCounted_129 d fuel le (some (pa n)) (zo to) (some (pa c)) (nI few) (nI t) M = some M' ∧ zf (lw_W ro (pa n)) M M' ∧ (∀ j, zm_I M' 3 (pa n) j = zm_I M 3 (pa n) j) ∧ ∀ k, 1 ≤ k → k < 5 → zm_I M' 21 (pa n + 1) k = (py_cns (py_rd P c) few to m t s).2 k := by
  intro m
  induction m with
  | zero =>
    intro t M s ht ht1 h hp hrow hrd fuel hf
    cases fuel with
    | zero => cases hf
    | succ fuel =>
      have : t = 5 := by omega
      subst this
      refine ⟨M, ?_, zf_refl _ _, fun _ => rfl, hrd⟩
      rw [le_learnCounted_129, if_pos (show (5 : Int32) ≤ nI 5 by decide)]
      rfl
  | succ m ih =>
    intro t M s ht ht1 h hp hrow hrd fuel hf
    cases fuel with
    | zero => cases hf
    | succ fuel =>
      have hcm : c ∈ py_ks P n := by rw [hc]; simp
      have hcd := ok_kid hP hn hcm
      obtain ⟨k8, k9, k10, k11, k12, k13, k14, krd⟩ := h.2 c hcm
      obtain ⟨M1, m1, m2, m3⟩ := cl_multiply (d := d) (ro := ro) (row := s.1) (rd := py_rd P c) false hp (cN_15 h.1 hcd).1 (cN_15 h.1 hcd).2 krd hrow
      rw [pb_zbf] at m1
      have hf1 : zf (lw_W ro (pa n)) M M1 := zf_20 m2
      have hk1 := lk_zf hP hn h hf1
      have hp1 := lp_zf hp hf1
      have r1 : ∀ j, zm_I M1 21 (pa n + 1) j = zm_I M 21 (pa n + 1) j := fun j => m2.2.2.2.2.2.2 21 (pa n + 1) j (by omega)
      have r3 : ∀ j, zm_I M1 3 (pa n) j = zm_I M 3 (pa n) j := fun j => m2.2.2.2.2.2.2 3 (pa n) j (by omega)
      have el : (nI t < nI few) ↔ t < few := lt_i2 (by omega) (by omega)
      have body : (∀ x, to = some x → t ≤ x) → ∃ M', le_learnCounted_146 (fun p0 p1 p2 p3 p4 p5 m => le_learnCounted_129 d fuel p0 p1 p2 p3 p4 p5 m) d le (some (pa n)) (zo to) (some (pa c)) (nI few) (nI t) M = some M' ∧ zf (lw_W ro (pa n)) M M' ∧ (∀ j, zm_I M' 3 (pa n) j = zm_I M 3 (pa n) j) ∧ ∀ k, 1 ≤ k → k < 5 → zm_I M' 21 (pa n + 1) k = (py_cns (py_rd P c) few to (m + 1) t s).2 k := by
        intro hle
        unfold le_learnCounted_146 le_learnCounted_167
        rw [m1]
        simp only [Option.bind_some, el, zlet, nI_1]
        have ecns : py_cns (py_rd P c) few to (m + 1) t s = py_cns (py_rd P c) few to m (t + 1) (py_mul s.1 (py_rd P c) false, if few ≤ t then (fun k => s.2 k + py_mul s.1 (py_rd P c) false k * 1) else s.2) := by
          rw [py_cns, if_pos hle]
        rw [ecns]
        by_cases cf : t < few
        · rw [if_pos cf, if_neg (show ¬ few ≤ t by omega)]
          obtain ⟨M', w1, w2, w3, w4⟩ := ih (t + 1) M1 (py_mul s.1 (py_rd P c) false, s.2) (by omega) (by omega) hk1 hp1 m3 (fun k k1 k2 => by rw [r1]; exact hrd k k1 k2) fuel (by omega)
          exact ⟨M', w1, zf_trans hf1 w2, fun j => (w3 j).trans (r3 j), w4⟩
        · rw [if_neg cf, if_pos (show few ≤ t by omega)]
          obtain ⟨M2, u1, u2, u3⟩ := cl_addRow (d := d) (i := 0) (t := 1) (row := py_mul s.1 (py_rd P c) false) (by omega) hp1 (cN_15 hk1.1 hn).1 (cN_15 hk1.1 hn).2 (fun j j1 j2 => by rw [Nat.zero_mul, Nat.zero_add]; exact m3 j j2)
          have u1 : le_addRow d le (some (pa n)) 0 1 M1 = some M2 := u1
          rw [u1]
          simp only [Option.bind_some]
          have hf2 : zf (lw_W ro (pa n)) M1 M2 := zf_21 u2
          obtain ⟨M', w1, w2, w3, w4⟩ := ih (t + 1) M2 (py_mul s.1 (py_rd P c) false, fun k => s.2 k + py_mul s.1 (py_rd P c) false k * 1) (by omega) (by omega) (lk_zf hP hn hk1 hf2) (lp_zf hp1 hf2) (fun j hj => by rw [u2.2.2.2.2.2.2 20 ro j (by omega)]; exact m3 j hj) (fun k k1 k2 => by rw [u3 k k1 k2, r1, hrd k k1 k2]) fuel (by omega)
          exact ⟨M', w1, zf_trans hf1 (zf_trans hf2 w2), fun j => (w3 j).trans ((u2.2.2.2.2.2.2 3 (pa n) j (by omega)).trans (r3 j)), w4⟩
      rw [le_learnCounted_129, if_neg (show ¬ (5 : Int32) ≤ nI t from nI_ge (b := 5) (by omega) (by omega))]
      cases to with
      | none =>
        rw [if_pos pb_zon]
        exact body (fun x hx => by cases hx)
      | some x =>
        have hx := hto x rfl
        rw [if_neg (show ¬ zo (some x) = -1 from pb_ne1 (by omega))]
        by_cases cx : x < t
        · rw [if_pos (show zo (some x) < nI t from nI_lt cx (by omega))]
          refine ⟨M, rfl, zf_refl _ _, fun _ => rfl, ?_⟩
          intro k k1 k2
          rw [py_cns, if_neg (fun hh => by have := hh x rfl; omega)]
          exact hrd k k1 k2
        · rw [if_neg (show ¬ zo (some x) < nI t from nI_nlt (by omega) (by omega))]
          exact body (fun y hy => by injection hy with hy; omega)
theorem cl_counted (hP : py_ok P) {n : Nat} (hn : py_dm P n) (hk : py_kd P n = 5) (hd : 2 ≤ d) (h : lk_x M pa P n) (hp : lp_x M le ro) (h0 : ∀ j, j < 5 → zm_I M 21 (pa n + 1) j = 0) (h9 : zm_I M 3 (pa n) 9 = zor (py_fl P n)) (h10 : zm_I M 3 (pa n) 10 = zor (py_lal P n)) (h11 : zm_I M 3 (pa n) 11 = zor (py_in P n)) : ∃ M', le_learnCounted d le (some (pa n)) (nI (py_fr P (py_nb P n))) (zo (py_to P (py_nb P n))) M = some M' ∧ zf (lw_W ro (pa n)) M M' ∧ ca_n M' pa P n := by
  obtain ⟨d, rfl⟩ : ∃ d', d = d' + 1 := ⟨d - 1, by omega⟩
  have eb : le_learnCounted (d + 1) le (some (pa n)) (nI (py_fr P (py_nb P n))) (zo (py_to P (py_nb P n))) M = le_learnCounted_b d le (some (pa n)) (nI (py_fr P (py_nb P n))) (zo (py_to P (py_nb P n))) M := rfl
  rw [eb]
  obtain ⟨⟨c, hc, har⟩, hnb, hcn⟩ := ok_k5 hP hn hk
  have hcm : c ∈ py_ks P n := by rw [hc]; simp
  have hcd := ok_kid hP hn hcm
  have hne := cN_ne h.1 hP hn hcm
  obtain ⟨k8, k9, k10, k11, k12, k13, k14, krd⟩ := h.2 c hcm
  have hfr := ok_fr hP hnb
  have hto : ∀ x, py_to P (py_nb P n) = some x → x ≤ 12 := fun x hx => (ok_to hP hnb hx).2.1
  have hto1 : ∀ x, py_to P (py_nb P n) = some x → 1 ≤ x := fun x hx => (ok_to hP hnb hx).1
  have efew : py_few P (py_nb P n) = if py_fr P (py_nb P n) = 0 ∨ py_nu P c = true then 1 else py_fr P (py_nb P n) := by
    unfold py_few
    rw [hcn, hc]
    simp
  have hfew : py_few P (py_nb P n) ≤ 12 := by
    rw [efew]
    split <;> omega
  have hks : zm_R M 3 (pa n) 5 = some (pa c) := by
    rw [cN_ks h.1 hn, hc]
    rfl
  have hnuc := nu_cnt hP hn hk hc
  have hlnc := ln_cnt hP hn hk hc
  have hlnle := ln_le hP hcd
  -- from the numbers on
  have fin121 : ∀ (M1 : zM), zf (lw_W ro (pa n)) M M1 → zm_I M1 3 (pa n) 8 = zb (py_nu P n) → zm_I M1 3 (pa n) 12 = nI (py_ln P n) → zm_I M1 3 (pa n) 13 = zo (py_lg P n) → (∀ j, j ≠ 8 → j ≠ 12 → j ≠ 13 → zm_I M1 3 (pa n) j = zm_I M 3 (pa n) j) → (∀ j, zm_I M1 21 (pa n + 1) j = zm_I M 21 (pa n + 1) j) → ∃ M', le_learnCounted_121 d le (some (pa n)) (zo (py_to P (py_nb P n))) (some (pa c)) (nI (py_few P (py_nb P n))) M1 = some M' ∧ zf (lw_W ro (pa n)) M M' ∧ ca_n M' pa P n := by
    intro M1 hf1 a8 a12 a13 a3 a21
    have hk1 := lk_zf hP hn h hf1
    have hp1 := lp_zf hp hf1
    obtain ⟨M2, g1, g2, g3, g4⟩ := cl_startRow (d := d) hp1 (by omega)
    have hf2 : zf (lw_W ro (pa n)) M1 M2 := zf_20' g4
    have hlf := zLF_10
    obtain ⟨M', w1, w2, w3, w4⟩ := cl_cnt_129 (d := d) (le := le) (ro := ro) hP hn hc hto hfew 4 1 M2 (py_st, fun _ => 0) (by omega) (by omega) (lk_zf hP hn hk1 hf2) (lp_zf hp1 hf2) g2 (by
      intro k k1 k2
      rw [g4.2.2.2.2.2.2 21 (pa n + 1) k (by omega), a21]
      exact h0 k k2) zLF (by omega)
    have o3 : ∀ j, zm_I M2 3 (pa n) j = zm_I M1 3 (pa n) j := fun j => g4.2.2.2.2.2.2 3 (pa n) j (by omega)
    refine ⟨M', ?_, zf_trans hf1 (zf_trans hf2 w2), ca_mk ?_ ?_ ?_ ?_ ?_ ?_ (fun x => by omega) ?_⟩
    · unfold le_learnCounted_121
      rw [g1]
      exact w1
    · rw [w3, o3]; exact a8
    · rw [w3, o3, a3 9 (by omega) (by omega) (by omega)]; exact h9
    · rw [w3, o3, a3 10 (by omega) (by omega) (by omega)]; exact h10
    · rw [w3, o3, a3 11 (by omega) (by omega) (by omega)]; exact h11
    · rw [w3, o3]; exact a12
    · rw [w3, o3]; exact a13
    · intro k k1 k2
      rw [w4 k k1 (by omega), rd_eq hP hn]
      unfold py_rdg
      rw [if_neg (by omega), if_neg (by omega), if_neg (by omega), if_neg (by omega), if_neg (by omega), hc]
      rfl
  have elg : py_lg P n = (match py_lg P c with
    | none => none
    | some s => if s ≠ 0 then (match py_to P (py_nb P n) with
      | none => none
      | some t => some (s * t)) else some s) := by
    rw [lg_eq hP hn]
    unfold py_lgg
    rw [if_neg (by omega), if_neg (by omega), hc]
    unfold py_lgf
    cases py_lg P c with
    | none => rfl
    | some v =>
      unfold py_lgf
      dsimp only
      rw [if_neg (show ¬ py_kd P n = 3 by omega), Nat.zero_add]
      by_cases e : v = 0
      · rw [if_neg (fun x => x.2 e), if_neg (fun x => x e)]
      · rw [if_pos ⟨hk, e⟩, if_pos e]
        rfl
  have hlg : ∀ v, py_lg P c = some v → v ≤ 2304 := fun v hv => Nat.le_trans (lg_le hP c hcd v hv) (B_le hP hcd)
  have fin73 : ∀ (M1 : zM) (v : Int32), v = nI (py_ln P n) → zf (lw_W ro (pa n)) M M1 → zm_I M1 3 (pa n) 8 = zb (py_nu P n) → (∀ j, j ≠ 8 → zm_I M1 3 (pa n) j = zm_I M 3 (pa n) j) → (∀ j, zm_I M1 21 (pa n + 1) j = zm_I M 21 (pa n + 1) j) → ∃ M', le_learnCounted_73 d le (some (pa n)) (zo (py_to P (py_nb P n))) (some (pa c)) (nI (py_few P (py_nb P n))) (some (pa n)) v M1 = some M' ∧ zf (lw_W ro (pa n)) M M' ∧ ca_n M' pa P n := by
    intro M1 v hv hf1 a8 a3 a21
    have hk1 := lk_zf hP hn h hf1
    have k131 : zm_I (zm_setI M1 3 (pa n) 12 v) 3 (pa c) 13 = zo (py_lg P c) := by
      rw [pm_ne (by omega)]
      exact (hk1.2 c hcm).2.2.2.2.2.1
    have last : ∀ w : Int32, w = zo (py_lg P n) → ∃ M', le_learnCounted_121 d le (some (pa n)) (zo (py_to P (py_nb P n))) (some (pa c)) (nI (py_few P (py_nb P n))) (zm_setI (zm_setI M1 3 (pa n) 12 v) 3 (pa n) 13 w) = some M' ∧ zf (lw_W ro (pa n)) M M' ∧ ca_n M' pa P n := by
      intro w hw
      refine fin121 _ (zf_trans hf1 (zf_trans (zf_3 (by omega)) (zf_3 (by omega)))) ?_ ?_ ?_ ?_ ?_
      · rw [pm_ne (by omega), pm_ne (by omega)]; exact a8
      · rw [pm_ne (by omega), pm_same]; exact hv
      · rw [pm_same]; exact hw
      · intro j j1 j2 j3
        rw [pm_ne (by omega), pm_ne (by omega)]
        exact a3 j j1
      · intro j
        rw [pm_ne (by omega), pm_ne (by omega)]
        exact a21 j
    unfold le_learnCounted_73 le_learnCounted_107 le_learnCounted_118
    simp only [zlet, k131]
    cases el : py_lg P c with
    | none =>
      rw [if_neg (show ¬ zo (none : Option Nat) = 0 by decide)]
      have hn13 : (-1 : Int32) = zo (py_lg P n) := by
        rw [elg, el]
        rfl
      by_cases ct : zo (py_to P (py_nb P n)) = -1
      · rw [if_pos ct]
        exact last _ hn13
      · rw [if_neg ct, if_pos pb_zon]
        exact last _ hn13
    | some s =>
      have hs := hlg s el
      by_cases cs : s = 0
      · rw [if_pos (show zo (some s) = 0 by rw [cs]; rfl)]
        refine last _ ?_
        rw [elg, el]
        dsimp only
        rw [if_neg (fun x => x cs), cs]
        rfl
      · rw [if_neg (show ¬ zo (some s) = 0 from fun x => cs ((nI_eq (b := 0) (by omega) (by omega)).mp x))]
        cases et : py_to P (py_nb P n) with
        | none =>
          rw [if_pos pb_zon]
          rw [et] at last
          refine last _ ?_
          rw [elg, el, et]
          dsimp only
          rw [if_pos cs]
          rfl
        | some t =>
          have ht := hto t et
          rw [if_neg (show ¬ zo (some t) = -1 from pb_ne1 (by omega)), if_neg (show ¬ zo (some s) = -1 from pb_ne1 (by omega))]
          rw [et] at last
          refine last _ ?_
          rw [elg, el, et]
          dsimp only
          rw [if_pos cs]
          show nI s * nI t = nI (s * t)
          exact pk_mul s t
  -- whether it may be empty
  have fin50 : ∀ (v : Int32), v = zb (py_nu P n) → ∃ M', le_learnCounted_50 d le (some (pa n)) (zo (py_to P (py_nb P n))) (some (pa c)) (nI (py_few P (py_nb P n))) (some (pa n)) v M = some M' ∧ zf (lw_W ro (pa n)) M M' ∧ ca_n M' pa P n := by
    intro v hv
    unfold le_learnCounted_50
    rw [hv]
    have a1 : zm_I (zm_setI M 3 (pa n) 8 (zb (py_nu P n))) 3 (pa n) 8 = zb (py_nu P n) := pm_same
    have a2 : zm_I (zm_setI M 3 (pa n) 8 (zb (py_nu P n))) 3 (pa c) 12 = nI (py_ln P c) := (pm_ne (by omega)).trans k12
    have hf1 : zf (lw_W ro (pa n)) M (zm_setI M 3 (pa n) 8 (zb (py_nu P n))) := zf_3 (by omega)
    simp only [if_pos (pb_zb (py_nu P n)), zlet, a1, a2]
    cases hu : py_nu P n with
    | false =>
      rw [if_pos pb_zbf]
      rw [hu] at hf1 a1
      refine fin73 _ _ ?_ hf1 (by rw [hu]; exact a1) (fun j hj => pm_ne (by omega)) (fun j => pm_ne (by omega))
      rw [hlnc, hu]
      rw [hnuc, Bool.or_eq_false_iff] at hu
      have e0 : ¬ py_fr P (py_nb P n) = 0 := of_decide_eq_false hu.1
      rw [efew, if_neg (by rw [hu.2]; simp [e0]), pk_mul, Nat.max_eq_right (by omega)]
      rfl
    | true =>
      rw [if_neg (show ¬ zb true = 0 by decide)]
      rw [hu] at hf1 a1
      refine fin73 _ _ ?_ hf1 (by rw [hu]; exact a1) (fun j hj => pm_ne (by omega)) (fun j => pm_ne (by omega))
      rw [hlnc, hu]
      rfl
  have e0 : (nI (py_fr P (py_nb P n)) = 0) ↔ py_fr P (py_nb P n) = 0 := nI_eq (b := 0) (by omega) (by omega)
  have e1 : ((1 : Int32) ≤ nI (py_fr P (py_nb P n))) ↔ 1 ≤ py_fr P (py_nb P n) := le_i2 (m := 1) (by omega) (by omega)
  have fin30 : ∀ (v : Int32), v = nI (py_few P (py_nb P n)) → ∃ M', le_learnCounted_30 d le (some (pa n)) (nI (py_fr P (py_nb P n))) (zo (py_to P (py_nb P n))) (some (pa c)) v M = some M' ∧ zf (lw_W ro (pa n)) M M' ∧ ca_n M' pa P n := by
    intro v hv
    unfold le_learnCounted_30 le_learnCounted_45
    rw [hv]
    simp only [e0, k8]
    by_cases c0 : py_fr P (py_nb P n) = 0
    · rw [if_pos c0]
      refine fin50 _ ?_
      rw [hnuc, decide_eq_true c0]
      rfl
    · rw [if_neg c0]
      cases hu : py_nu P c with
      | false =>
        rw [if_pos pb_zbf]
        refine fin50 _ ?_
        rw [hnuc, decide_eq_false c0, hu]
        rfl
      | true =>
        rw [if_neg (show ¬ zb true = 0 by decide)]
        refine fin50 _ ?_
        rw [hnuc, decide_eq_false c0, hu]
        rfl
  unfold le_learnCounted_b le_learnCounted_25
  simp only [hks, k8, e1]
  cases hu : py_nu P c with
  | false =>
    rw [if_pos pb_zbf]
    by_cases c1 : 1 ≤ py_fr P (py_nb P n)
    · rw [if_pos c1]
      refine fin30 _ ?_
      rw [efew, hu, if_neg (by simp; omega)]
    · rw [if_neg c1]
      refine fin30 _ ?_
      rw [efew, if_pos (.inl (by omega))]
      rfl
  | true =>
    rw [if_neg (show ¬ zb true = 0 by decide)]
    refine fin30 _ ?_
    rw [efew, if_pos (.inr hu)]
    rfl
end
