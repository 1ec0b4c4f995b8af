/-! THE CLASS's parser: units, anys, atoms, patterns -/
section
variable {ac b r d : Nat} {T : List Nat}
theorem le_i2 {a m : Nat} (ha : a < 1000) (hm : m < 1000) : (nI m ≤ nI a) ↔ m ≤ a := by
  constructor
  · intro h
    by_cases g : m ≤ a
    · exact g
    · exact absurd h (nI_ge (by omega) (by omega))
  · intro h
    exact nI_le (by omega) (by omega)
theorem lt_i2 {a m : Nat} (ha : a < 1000) (hm : m < 1000) : (nI a < nI m) ↔ a < m := by
  constructor
  · intro h
    by_cases g : a < m
    · exact g
    · exact absurd h (nI_nlt (by omega) (by omega))
  · intro h
    exact nI_lt (by omega) (by omega)
theorem cm_unit_43 (hok : tp_ok T) (hd : 3 ≤ d) {rp : Nat → Int32 → zM → Option (Option Nat × zM)} {rc : Nat → Int32 → Int32 → Int32 → zM → Option (Option Nat × zM)} {rl : Nat → Int32 → Int32 → zM → Option (Option Nat × zM)} {ru ra rb ry : Nat → Int32 → zM → Option (Option Nat × zM)} {M : zM} {pa : Nat → Nat} {pn a0 : Nat} {q : yQp} {n c : Nat} {bs : List Nat} (hR : cs_x ac b M T r pa pn (c :: bs, q.2.1, q.2.2)) (hw : pw_x a0 q.2.2) (hN : q.2.2.1 < 400) (hn : n < q.2.2.1) (hup : (q.2.2.2.1 n).2.2.1 = none) (har2 : (q.2.2.2.1 n).2.2.2.2 ≤ 2) (hc : c < 256) : ∃ res M' pa' pn', rs_unit_43 rp rc rl ru ra rb ry d b (some (pa n)) (nI c) M = some (res, M') ∧ ce_x M pa pn M' pa' pn' ∧ zh (cf_W b r pa' pn') M M' ∧ ((∃ e, (if (q.2.2.2.1 n).2.2.2.2 = 2 ∨ q.2.2.2.2.2.1.length = 8 then Except.error q.2.1 else if c = 123 then (match pp_bnd bs (q.2.1 + 1) with
      | .error e => .error e
      | .ok y => .ok (q.2.2.1, y.2.2.1, y.2.2.2, pb_cnt q.2.2 n y.1 y.2.1)) else .ok (q.2.2.1, bs, q.2.1 + 1, pb_cnt q.2.2 n (if c = 43 then 1 else 0) (if c = 63 then some 1 else none)) : Except Nat (Nat × yQp)) = .error e ∧ res = none ∧ zm_I M' 6 b 7 = nI e ∧ cp_x M' b pa' pn') ∨ (∃ x, (if (q.2.2.2.1 n).2.2.2.2 = 2 ∨ q.2.2.2.2.2.1.length = 8 then Except.error q.2.1 else if c = 123 then (match pp_bnd bs (q.2.1 + 1) with
      | .error e => .error e
      | .ok y => .ok (q.2.2.1, y.2.2.1, y.2.2.2, pb_cnt q.2.2 n y.1 y.2.1)) else .ok (q.2.2.1, bs, q.2.1 + 1, pb_cnt q.2.2 n (if c = 43 then 1 else 0) (if c = 63 then some 1 else none)) : Except Nat (Nat × yQp)) = .ok x ∧ res = some (pa' x.1) ∧ cs_x ac b M' T r pa' pn' x.2)) := by
  have hC8 : q.2.2.2.2.2.1.length ≤ 8 := hw.2.2.1
  have k3 : zm_I M 3 (pa n) 3 = nI (q.2.2.2.1 n).2.2.2.2 := (hR.2.2.1.2.2 n hn).2.2.1
  have c3 : zm_I M 5 (b + 2 + 10 * r) 3 = nI q.2.2.2.2.2.1.length := hR.2.2.2.1.2.1
  have e2 : ((2 : Int32) ≤ nI (q.2.2.2.1 n).2.2.2.2) ↔ 2 ≤ (q.2.2.2.1 n).2.2.2.2 := le_i2 (m := 2) (by omega) (by omega)
  have e8 : (nI q.2.2.2.2.2.1.length < 8) ↔ q.2.2.2.2.2.1.length < 8 := lt_i2 (m := 8) (by omega) (by omega)
  obtain ⟨nn1, nn2⟩ := cl_noNode (d := d) hR
  dsimp only at nn1 nn2
  unfold rs_unit_43
  simp only [k3, e2, cb_8 hR.1, c3, e8, rs_unit_63, nn1, Option.bind_some]
  have hbad : ∀ v : Except Nat (Nat × yQp), v = .error q.2.1 → ∃ res M' pa' pn', some ((none : Option Nat), zm_setI M 6 b 7 (nI q.2.1)) = some (res, M') ∧ ce_x M pa pn M' pa' pn' ∧ zh (cf_W b r pa' pn') M M' ∧ ((∃ e, v = .error e ∧ res = none ∧ zm_I M' 6 b 7 = nI e ∧ cp_x M' b pa' pn') ∨ (∃ x, v = .ok x ∧ res = some (pa' x.1) ∧ cs_x ac b M' T r pa' pn' x.2)) := fun v hv => ⟨_, _, pa, pn, rfl, c6_ce nn2, c6_zh nn2, .inl ⟨_, hv, rfl, pm_same, cp_c6 hR nn2⟩⟩
  by_cases c2 : 2 ≤ (q.2.2.2.1 n).2.2.2.2
  · rw [if_pos c2, if_pos (.inl (show (q.2.2.2.1 n).2.2.2.2 = 2 by omega))]
    exact hbad _ rfl
  · rw [if_neg c2]
    by_cases c8 : q.2.2.2.2.2.1.length < 8
    · rw [if_pos c8, if_neg (show ¬ ((q.2.2.2.1 n).2.2.2.2 = 2 ∨ q.2.2.2.2.2.1.length = 8) by omega)]
      obtain ⟨M1, M2, M4, pa', pn', s1, s2, s3, s4, s5, s6, ⟨f0, t0, s7⟩, s8, s9⟩ := cl_cnt (d := d) (n := n) hR hw hN (by omega) hn hup (by show (q.2.2.2.1 n).2.2.2.2 ≤ 1; omega) c8
      have s1 : rs_make d b 4 (nI q.2.2.2.2.2.1.length) M = some (some (pa' q.2.2.1), M1) := s1
      have s2 : nd_append d (pa' q.2.2.1) (some (pa n)) M1 = some M2 := s2
      have s3 : zm_I M2 3 (pa' q.2.2.1) 3 = nI (q.2.2.2.1 n).2.2.2.2 := s3
      have s4 : zm_I M2 5 (b + 2 + 10 * r) 3 = nI q.2.2.2.2.2.1.length := s4
      have s6 : M4 = zm_setI (zm_setR (zm_setI M2 3 (pa' q.2.2.1) 3 (nI ((q.2.2.2.1 n).2.2.2.2 + 1))) 24 (b + 2 + 10 * r + 8) q.2.2.2.2.2.1.length (some (pa' q.2.2.1))) 5 (b + 2 + 10 * r) 3 (nI (q.2.2.2.2.2.1.length + 1)) := s6
      have s7 : cs_x ac b M4 T r pa' pn' (c :: bs, q.2.1, pb_cnt q.2.2 n f0 t0) := s7
      obtain ⟨u1, u2⟩ := cs_step (q := (c :: bs, q.2.1, pb_cnt q.2.2 n f0 t0)) s7
      have hru := cb_ru s5
      have hz : z_in (nI q.2.2.2.2.2.1.length) 8 := nI_in (by omega) (by omega)
      have s43 : zm_I (zm_setI M2 3 (pa' q.2.2.1) 3 (nI ((q.2.2.2.1 n).2.2.2.2 + 1))) 5 (b + 2 + 10 * r) 3 = nI q.2.2.2.2.2.1.length := by rw [pm_ne (by omega)]; exact s4
      have p4 : zm_I M4 6 b 6 = nI q.2.1 := s7.2.1.1
      have nb4 : zm_I (zm_setI M4 6 b 6 (nI (q.2.1 + 1))) 3 (pa' q.2.2.1) 1 = nI q.2.2.2.2.2.1.length := by
        have g := (u1.2.2.1.2.2 q.2.2.1 (by show q.2.2.1 < q.2.2.1 + 1; omega)).2.1
        have x2 := (cnt_X q.2.2 n f0 t0 hn).2.1
        have g : ((pb_cnt q.2.2 n f0 t0).2.1 q.2.2.1).1 = 0 ∨ ((pb_cnt q.2.2 n f0 t0).2.1 q.2.2.1).1 = 4 ∨ ((pb_cnt q.2.2 n f0 t0).2.1 q.2.2.1).1 = 5 → zm_I (zm_setI M4 6 b 6 (nI (q.2.1 + 1))) 3 (pa' q.2.2.1) 1 = nI ((pb_cnt q.2.2 n f0 t0).2.1 q.2.2.1).2.1 := g
        rw [x2] at g
        exact g (.inr (.inr rfl))
      obtain ⟨res, M5, a1, a2, a3, a4⟩ := cl_amounts (d := d) (c := c) (B := q.2.2) hok hd u1 c8 hc
      simp only [s1, Option.bind_some, s2, zlet, s3, nI_1, pm_RI, cb_8 s5, (ru_12 hru).1, pm_LI, (ru_12 hru).2, s43, if_pos hz, nI_clamp (show q.2.2.2.2.2.1.length < 2 ^ 31 by omega), pr_ne (show (6 : Nat) ≠ 24 ∨ b ≠ b + 2 + 10 * r + 8 ∨ 8 ≠ q.2.2.2.2.2.1.length from .inl (by decide)), pm_IR]
      rw [← s6, p4, nI_1, nb4, a1]
      simp only [Option.bind_some, rs_unit_165]
      have ceF : ce_x M pa pn M5 pa' pn' := ce_trans s8 (ce_trans (c6_ce u2) a2)
      have zhF : zh (cf_W b r pa' pn') M M5 := zh_trans s9 (zh_trans (c6_zh u2) a3)
      rcases a4 with ⟨e, m1, m2, m3, m4⟩ | ⟨x, m1, m2, m3⟩
      · rw [m2, if_pos rfl]
        refine ⟨_, _, pa', pn', rfl, ceF, zhF, .inl ⟨e, ?_, rfl, m3, m4⟩⟩
        by_cases c123 : c = 123
        · rw [if_pos c123] at m1 ⊢
          rw [m1]
        · rw [if_neg c123] at m1
          cases m1
      · rw [m2, if_neg (show ¬ (1 : Int32) = 0 by decide)]
        by_cases c123 : c = 123
        · rw [if_pos c123] at m1 ⊢
          rw [m1]
          exact ⟨_, _, pa', pn', rfl, ceF, zhF, .inr ⟨_, rfl, rfl, m3⟩⟩
        · rw [if_neg c123] at m1 ⊢
          injection m1 with m1
          subst m1
          exact ⟨_, _, pa', pn', rfl, ceF, zhF, .inr ⟨_, rfl, rfl, m3⟩⟩
    · rw [if_neg c8, if_pos (.inr (show q.2.2.2.2.2.1.length = 8 by omega))]
      exact hbad _ rfl
theorem cm_unit (hok : tp_ok T) (hd : 3 ≤ d) {rp : Nat → Int32 → zM → Option (Option Nat × zM)} {rc : Nat → Int32 → Int32 → Int32 → zM → Option (Option Nat × zM)} {rl : Nat → Int32 → Int32 → zM → Option (Option Nat × zM)} {ru ra rb ry : Nat → Int32 → zM → Option (Option Nat × zM)} {v1 : Int32} {atom : yIp} {a0 hb : Nat} (hi : ci_ok ac b T r a0 atom (fun M => ra b v1 M)) (hp : pi_ok a0 hb atom) : ci_ok ac b T r a0 (pp_unit atom) (fun M => rs_unit_b rp rc rl ru ra rb ry d b v1 M) := by
  intro q M pa pn hR hw hN
  show ∃ res M' pa' pn', rs_unit_b rp rc rl ru ra rb ry d b v1 M = some (res, M') ∧ _
  unfold rs_unit_b
  obtain ⟨res, M1, pa1, pn1, k1, k2, k3, k4⟩ := hi q M pa pn hR hw hN
  have k1 : ra b v1 M = some (res, M1) := k1
  rw [k1]
  simp only [Option.bind_some]
  unfold pp_unit
  rcases k4 with ⟨e, m1, m2, m3, m4⟩ | ⟨y, m1, m2, m3⟩
  · rw [m1, m2]
    exact ⟨_, _, pa1, pn1, rfl, k2, k3, .inl ⟨e, rfl, rfl, m3, m4⟩⟩
  · rw [m1, m2]
    dsimp only
    obtain ⟨G', hpo⟩ := hp _ (fun _ => (0, 0, 0)) hw hN y m1
    obtain ⟨g1, g2, g3, g4, g5, g6, g7, g8, g9, g10⟩ := hpo
    have dc := g3.1
    have ac' := (g3.2.2 y.1 dc).2.2.2.2.2.1
    obtain ⟨M2, t1, t2, t3, t4⟩ := cl_sign (d := d) hok m3
    rw [t1]
    simp only [Option.bind_some]
    have ce2 : ce_x M pa pn M2 pa1 pn1 := ce_trans k2 (c6_ce t3)
    have zh2 : zh (cf_W b r pa1 pn1) M M2 := zh_trans k3 (c6_zh t3)
    have l0 := sk_len y.2.1 y.2.2.1
    cases e2 : (py_sk y.2.1 y.2.2.1).1 with
    | nil =>
      simp only [py_ht, if_neg (show ¬ (-1 : Int32) = 63 by decide), if_neg (show ¬ (-1 : Int32) = 42 by decide), if_neg (show ¬ (-1 : Int32) = 43 by decide), if_neg (show ¬ (-1 : Int32) = 123 by decide)]
      exact ⟨_, _, pa1, pn1, rfl, ce2, zh2, .inr ⟨_, rfl, rfl, t2⟩⟩
    | cons c bs =>
      rw [e2] at l0
      have hc : c < 256 := t4 c (by rw [e2]; simp)
      have t2' : cs_x ac b M2 T r pa1 pn1 (c :: bs, (py_sk y.2.1 y.2.2.1).2, y.2.2.2) := by
        have : pb_skip y.2 = (c :: bs, (py_sk y.2.1 y.2.2.1).2, y.2.2.2) := by
          unfold pb_skip
          rw [e2]
        rw [← this]
        exact t2
      have x63 : (nI c = 63) ↔ c = 63 := nI_eq (b := 63) (by omega) (by omega)
      have x42 : (nI c = 42) ↔ c = 42 := nI_eq (b := 42) (by omega) (by omega)
      have x43 : (nI c = 43) ↔ c = 43 := nI_eq (b := 43) (by omega) (by omega)
      have x123 : (nI c = 123) ↔ c = 123 := nI_eq (b := 123) (by omega) (by omega)
      simp only [py_ht, x63, x42, x43, x123]
      by_cases c1 : c = 63 ∨ c = 42 ∨ c = 43 ∨ c = 123
      · rw [if_pos c1]
        have hgo : ∀ (A B : Option (Option Nat × zM)), (if c = 63 then A else (if c = 42 then A else (if c = 43 then A else (if c = 123 then A else B)))) = A := by
          intro A B
          rcases c1 with h | h | h | h <;> subst h <;> simp
        rw [hgo]
        simp only [List.length_cons] at l0
        obtain ⟨res2, M3, pa3, pn3, w1, w2, w3, w4⟩ := cm_unit_43 (rp := rp) (rc := rc) (rl := rl) (ru := ru) (ra := ra) (rb := rb) (ry := ry) (q := (c :: bs, (py_sk y.2.1 y.2.2.1).2, y.2.2.2)) (n := y.1) hok hd t2' g2 (by show y.2.2.2.1 < 400; omega) dc.2 g3.2.1 ac' hc
        exact ⟨res2, M3, pa3, pn3, w1, ce_trans ce2 w2, zh_tr2 zh2 w3 w2, w4⟩
      · rw [if_neg c1]
        have hgo : ∀ (A B : Option (Option Nat × zM)), (if c = 63 then A else (if c = 42 then A else (if c = 43 then A else (if c = 123 then A else B)))) = B := by
          intro A B
          rw [if_neg (fun h => c1 (.inl h)), if_neg (fun h => c1 (.inr (.inl h))), if_neg (fun h => c1 (.inr (.inr (.inl h)))), if_neg (fun h => c1 (.inr (.inr (.inr h))))]
        rw [hgo]
        exact ⟨_, _, pa1, pn1, rfl, ce2, zh2, .inr ⟨_, rfl, rfl, t2⟩⟩
/-- the parts of an any; the sign ahead of each isn't taken yet -/
theorem cm_any (hok : tp_ok T) {rp : Nat → Int32 → zM → Option (Option Nat × zM)} {rc : Nat → Int32 → Int32 → Int32 → zM → Option (Option Nat × zM)} {rl : Nat → Int32 → Int32 → zM → Option (Option Nat × zM)} {ru ra rb ry : Nat → Int32 → zM → Option (Option Nat × zM)} {v1 : Int32} {pat : yIp} {a0 hb n : Nat} (hi : ci_ok ac b T r a0 pat (fun M => rp b (v1 + 1) M)) (hp : pi_ok a0 hb pat) : ∀ (fuel k : Nat) (q : yQp) (c : Nat) (M : zM) (pa : Nat → Nat) (pn f2 : Nat), k ≤ 3 → 4 ≤ k + fuel → 5 ≤ k + f2 → cs_x ac b M T r pa pn (c :: q.1, q.2.1, q.2.2) → pw_x a0 q.2.2 → q.2.2.1 + q.1.length ≤ 400 → lw_n q n → (q.2.2.2.1 n).2.2.1 = none → ∃ res M' pa' pn', rs_anyOrder_66 rp rc rl ru ra rb ry d f2 b v1 (some (pa n)) (nI (k + 1)) M = some (res, M') ∧ ce_x M pa pn M' pa' pn' ∧ zh (cf_W b r pa' pn') M M' ∧ ((∃ e, pp_any pat n fuel k (q.1, q.2.1 + 1, q.2.2) = .error e ∧ res = none ∧ zm_I M' 6 b 7 = nI e ∧ cp_x M' b pa' pn') ∨ (∃ x, pp_any pat n fuel k (q.1, q.2.1 + 1, q.2.2) = .ok x ∧ res = some (pa' x.1) ∧ cs_x ac b M' T r pa' pn' x.2)) := by
  intro fuel
  induction fuel with
  | zero => intro k q c M pa pn f2 h1 h2; omega
  | succ fuel ih =>
    intro k q c M pa pn f2 hk hkf hf2 hR hw hN hl hu
    obtain ⟨f2, rfl⟩ : ∃ f, f2 = f + 1 := ⟨f2 - 1, by omega⟩
    have e4 : ((4 : Int32) < nI (k + 1)) ↔ 4 < k + 1 := lt_i2 (a := 4) (by omega) (by omega)
    have hpM : zm_I M 6 b 6 = nI q.2.1 := hR.2.1.1
    obtain ⟨s1, s2⟩ := cs_step (q := q) hR
    rw [rs_anyOrder_66, if_neg (fun h => by have := e4.mp h; omega), hpM, nI_1]
    simp only [zlet]
    unfold pp_any
    obtain ⟨res, M1, pa1, pn1, k1, k2, k3, k4⟩ := hi _ _ pa pn s1 hw (by dsimp only; omega)
    have k1 : rp b (v1 + 1) (zm_setI M 6 b 6 (nI (q.2.1 + 1))) = some (res, M1) := k1
    rw [k1]
    simp only [Option.bind_some]
    have ce1 := ce_trans (c6_ce s2) k2
    have zh1 : zh (cf_W b r pa1 pn1) M M1 := zh_tr2 (c6_zh s2) k3 k2
    rcases k4 with ⟨e, m1, m2, m3, m4⟩ | ⟨y, m1, m2, m3⟩
    · rw [m1, m2]
      exact ⟨_, _, pa1, pn1, rfl, ce1, zh1, .inl ⟨e, rfl, rfl, m3, m4⟩⟩
    · rw [m1, m2]
      dsimp only
      obtain ⟨G', hpo⟩ := hp (q.1, q.2.1 + 1, q.2.2) (fun _ => (0, 0, 0)) hw (by dsimp only; omega) y m1
      have hl1 : lw_n (q.1, q.2.1 + 1, q.2.2) n := hl
      obtain ⟨p1, p2, p3, p4, p5, p6, p7, p8, p9⟩ := lw_put hl1 hpo
      have hN9 := hpo.2.2.2.2.2.2.2.2.1
      have hb8 := hpo.2.2.2.2.2.2.2.1
      dsimp only at hN9 hb8
      have eX : y.2.2.2.2.1 n = q.2.2.2.1 n := (hpo.1.1 n hl.1).1
      have epn : pa1 n = pa n := k2.2.1 n (by have := hR.2.2.1.1; have := hl.1; dsimp only at *; omega)
      obtain ⟨M2, w1, w2, w3, w4⟩ := cl_append (d := d) (A := n) (C := y.1) m3 p2 p3 p4 (by rw [eX]; exact hu) p5 p7 ⟨p8, p9⟩
      rw [epn] at w1
      rw [w1]
      simp only [Option.bind_some]
      obtain ⟨M3, t1, t2, t3, t4⟩ := cl_sign (d := d) hok w2
      have t1 : rs_sign d b M2 = some (py_ht (py_sk y.2.1 y.2.2.1).1, M3) := t1
      have t4 : ∀ x, x ∈ (py_sk y.2.1 y.2.2.1).1 → x < 256 := t4
      rw [t1]
      have ce3 := ce_trans ce1 (ce_trans w3 (c6_ce t3))
      have zh3 : zh (cf_W b r pa1 pn1) M M3 := zh_trans (zh_trans zh1 w4) (c6_zh t3)
      have e38 : (py_ht (py_sk y.2.1 y.2.2.1).1 = 38) ↔ (py_sk y.2.1 y.2.2.1).1.head? = some 38 := ht_eq (c := 38) t4 (by omega)
      have e93 : (py_ht (py_sk y.2.1 y.2.2.1).1 = 93) ↔ (py_sk y.2.1 y.2.2.1).1.head? = some 93 := ht_eq (c := 93) t4 (by omega)
      have el2 : (nI (k + 1) < 2) ↔ k + 1 < 2 := lt_i2 (m := 2) (by omega) (by omega)
      have eq4 : (nI (k + 1) = 4) ↔ k + 1 = 4 := nI_eq (b := 4) (by omega) (by omega)
      have l3 := sk_len y.2.1 y.2.2.1
      have hp3 : zm_I M3 6 b 6 = nI (py_sk y.2.1 y.2.2.1).2 := t2.2.1.1
      obtain ⟨nn1, nn2⟩ := cl_noNode (d := d) t2
      have nn1 : rs_noNode d b M3 = some (none, zm_setI M3 6 b 7 (nI (py_sk y.2.1 y.2.2.1).2)) := nn1
      have hbad : ∀ v : Except Nat (Nat × yQp), v = .error (py_sk y.2.1 y.2.2.1).2 → ∃ res M' pa' pn', some ((none : Option Nat), zm_setI M3 6 b 7 (nI (py_sk y.2.1 y.2.2.1).2)) = some (res, M') ∧ ce_x M pa pn M' pa' pn' ∧ zh (cf_W b r pa' pn') M M' ∧ ((∃ e, v = .error e ∧ res = none ∧ zm_I M' 6 b 7 = nI e ∧ cp_x M' b pa' pn') ∨ (∃ x, v = .ok x ∧ res = some (pa' x.1) ∧ cs_x ac b M' T r pa' pn' x.2)) := fun v hv => ⟨_, _, pa1, pn1, rfl, ce_trans ce3 (c6_ce nn2), zh_trans zh3 (c6_zh nn2), .inl ⟨_, hv, rfl, pm_same, cp_c6 t2 nn2⟩⟩
      simp only [Option.bind_some, e93, el2, rs_anyOrder_133, rs_anyOrder_145, e38, eq4, nn1, zlet, nI_1]
      cases e5 : (py_sk y.2.1 y.2.2.1).1 with
      | nil =>
        rw [if_neg (show ¬ ([] : List Nat).head? = some 93 by simp), if_neg (show ¬ ([] : List Nat).head? = some 38 by simp), if_neg (show ¬ (([] : List Nat).head? = some 38 ∧ k + 1 < 4) by simp), if_neg (show ¬ (2 ≤ k + 1 ∧ ([] : List Nat).head? = some 93) by simp)]
        exact hbad _ rfl
      | cons z zs =>
        rw [e5] at l3
        have t2' : cs_x ac b M3 T r pa1 pn1 (z :: zs, (py_sk y.2.1 y.2.2.1).2, pb_put y.2.2.2 n y.1) := by
          have : pb_skip (y.2.1, y.2.2.1, pb_put y.2.2.2 n y.1) = (z :: zs, (py_sk y.2.1 y.2.2.1).2, pb_put y.2.2.2 n y.1) := by
            unfold pb_skip
            dsimp only
            rw [e5]
          rw [← this]
          exact t2
        simp only [List.head?_cons, Option.some.injEq, List.tail_cons]
        by_cases c93 : z = 93
        · have c38 : ¬ z = 38 := by omega
          rw [if_pos c93, if_neg (show ¬ (z = 38 ∧ k + 1 < 4) from fun h => c38 h.1)]
          by_cases c2 : k + 1 < 2
          · rw [if_pos c2, if_neg c38, if_neg (show ¬ (2 ≤ k + 1 ∧ z = 93) by omega)]
            exact hbad _ rfl
          · rw [if_neg c2, if_pos (show 2 ≤ k + 1 ∧ z = 93 by omega), hp3, nI_1]
            obtain ⟨u1, u2⟩ := cs_step (q := (z :: zs, (py_sk y.2.1 y.2.2.1).2, pb_put y.2.2.2 n y.1)) t2'
            rw [← epn]
            exact ⟨_, _, pa1, pn1, rfl, ce_trans ce3 (c6_ce u2), zh_trans zh3 (c6_zh u2), .inr ⟨_, rfl, rfl, u1⟩⟩
        · rw [if_neg c93]
          by_cases c38 : z = 38
          · rw [if_pos c38]
            by_cases ck4 : k + 1 = 4
            · rw [if_pos ck4, if_neg (show ¬ (z = 38 ∧ k + 1 < 4) by omega), if_neg (show ¬ (2 ≤ k + 1 ∧ z = 93) from fun h => c93 h.2)]
              exact hbad _ rfl
            · rw [if_neg ck4, if_pos (show z = 38 ∧ k + 1 < 4 by omega)]
              simp only [List.length_cons] at l3
              obtain ⟨res3, M4, pa4, pn4, u1, u2, u3, u4⟩ := ih (k + 1) (zs, (py_sk y.2.1 y.2.2.1).2, pb_put y.2.2.2 n y.1) z M3 pa1 pn1 f2 (by omega) (by omega) (by omega) t2' (pw_put hpo.2.1 _ _) (by show y.2.2.2.1 + zs.length ≤ 400; omega)
                (by
                  obtain ⟨a1, a2, a3, a4, a5⟩ := p1
                  refine ⟨a1, a2, ?_, a4, a5⟩
                  have a3 : ((pb_put y.2.2.2 n y.1).2.1 n).2.2.2.1.length + y.2.1.length ≤ 400 := a3
                  show ((pb_put y.2.2.2 n y.1).2.1 n).2.2.2.1.length + zs.length ≤ 400
                  omega)
                (by
                  show ((py_put y.2.2.2.2.1 n y.1) n).2.2.1 = none
                  rw [put_A]
                  show (y.2.2.2.2.1 n).2.2.1 = none
                  rw [eX]
                  exact hu)
              rw [epn] at u1
              exact ⟨res3, M4, pa4, pn4, u1, ce_trans ce3 u2, zh_tr2 zh3 u3 u2, u4⟩
          · rw [if_neg c38, if_neg (show ¬ (z = 38 ∧ k + 1 < 4) from fun h => c38 h.1), if_neg (show ¬ (2 ≤ k + 1 ∧ z = 93) from fun h => c93 h.2)]
            exact hbad _ rfl
end
