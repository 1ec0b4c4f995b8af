/-! THE CLASS's parser: brackets, atoms, patterns -/
def ch_ok (ac b : Nat) (T : List Nat) (r a0 : Nat) (item : yIp) (run : zM → Option (Option Nat × zM)) : Prop := ∀ (q : yQp) (c : Nat) (M : zM) (pa : Nat → Nat) (pn : Nat), cs_x ac b M T r pa pn (c :: q.1, q.2.1, q.2.2) → pw_x a0 q.2.2 → q.2.2.1 + 1 + q.1.length ≤ 400 → ∃ res M' pa' pn', run M = some (res, M') ∧ ce_x M pa pn M' pa' pn' ∧ zh (cf_W b r pa' pn') M M' ∧ ((∃ e, item q = .error e ∧ res = none ∧ zm_I M' 6 b 7 = nI e ∧ cp_x M' b pa' pn') ∨ (∃ x, item q = .ok x ∧ res = some (pa' x.1) ∧ cs_x ac b M' T r pa' pn' x.2))
section
variable {ac b r d : Nat} {T : List Nat}
theorem cl_any0 {M : zM} {pa : Nat → Nat} {pn a0 : Nat} {q : yQp} (h : cs_x ac b M T r pa pn q) (hw : pw_x a0 q.2.2) (hN : q.2.2.1 < 400) (hd : 1 ≤ d) (hA : q.2.2.2.2.2.2.length < 4) : ∃ M1 M4 pa' pn', rs_make d b 5 (nI q.2.2.2.2.2.2.length) M = some (some (pa' q.2.2.1), M1) ∧ zm_I M1 5 (b + 2 + 10 * r) 4 = nI q.2.2.2.2.2.2.length ∧ cb_x ac b M1 T r pa' pn' ∧ M4 = zm_setI (zm_setR M1 24 (b + 2 + 10 * r + 9) q.2.2.2.2.2.2.length (some (pa' q.2.2.1))) 5 (b + 2 + 10 * r) 4 (nI (q.2.2.2.2.2.2.length + 1)) ∧ cs_x ac b M4 T r pa' pn' (q.1, q.2.1, ((pb_open q.2.2 4 q.2.2.2.2.2.2.length).1, (pb_open q.2.2 4 q.2.2.2.2.2.2.length).2.1, q.2.2.2.2.1, q.2.2.2.2.2.1, q.2.2.2.2.2.2 ++ [q.2.2.1])) ∧ ce_x M pa pn M4 pa' pn' ∧ zh (cf_W b r pa' pn') M M4 := by
  obtain ⟨M1, pa', pn', g1, g2, g3, g4⟩ := cl_make (d := d) (kd := 4) (nb := q.2.2.2.2.2.2.length) (v := nI q.2.2.2.2.2.2.length) h hw hN (by omega) (fun _ => rfl)
  obtain ⟨c1, c2, c3, c4, c5, c6, c7⟩ := g2
  obtain ⟨M4, hM4⟩ : ∃ Y, Y = zm_setI (zm_setR M1 24 (b + 2 + 10 * r + 9) q.2.2.2.2.2.2.length (some (pa' q.2.2.1))) 5 (b + 2 + 10 * r) 4 (nI (q.2.2.2.2.2.2.length + 1)) := ⟨_, rfl⟩
  have z : zh (cq_W (b + 2 + 10 * r)) M1 M4 := by
    rw [hM4]
    exact zh_trans (zh_setR (.inr (.inr ⟨rfl, .inr (.inr rfl)⟩))) (zh_setI (.inl ⟨rfl, rfl, by omega, by omega⟩))
  have n4 : zm_n M4 = zm_n M1 ∧ zm_s M4 = zm_s M1 := by
    rw [hM4]
    simp only [pm_nI, pm_nR, pm_sI, pm_sR, and_self]
  have hb := cb_b c1
  refine ⟨M1, M4, pa', pn', g1, c4.2.2, c1, hM4, ⟨cb_cq c1 z, cq_p_cq c2 (by omega) z, cq_n_cq c3 c1 z, ⟨?_, ?_, ?_⟩, ?_, ?_, ?_⟩, ce_trans g3 (ce_set n4.1 n4.2), zh_trans g4 (zh_mono z (fun t k j _ w => cq_cf w))⟩
  · rw [hM4, pm_ne (by omega), pm_IR]; exact c4.1
  · rw [hM4, pm_ne (by omega), pm_IR]; exact c4.2.1
  · rw [hM4, pm_same]
    show nI (q.2.2.2.2.2.2.length + 1) = nI (q.2.2.2.2.2.2 ++ [q.2.2.1]).length
    simp
  · intro i x hx
    rw [hM4, pm_ne (by omega), pm_IR, pm_RI, pr_ne (by omega)]
    exact c5 i x hx
  · intro i x hx
    rw [hM4, pm_ne (by omega), pm_IR, pm_ne (by omega), pm_IR, pm_RI, pr_ne (by omega)]
    exact c6 i x hx
  · intro i x hx
    have hx : (q.2.2.2.2.2.2 ++ [q.2.2.1])[i]? = some x := hx
    rw [hM4, pm_RI]
    by_cases e : i < q.2.2.2.2.2.2.length
    · rw [List.getElem?_append_left e] at hx
      rw [pr_ne (by omega)]
      exact c7 i x hx
    · have e2 : i = q.2.2.2.2.2.2.length := by
        have := (List.getElem?_eq_some_iff.mp hx).1
        simp at this
        omega
      subst e2
      have ex : x = q.2.2.1 := by simpa using hx.symm
      subst ex
      exact pr_same
theorem cm_anyOrder (hok : tp_ok T) (hd : 1 ≤ d) {rp : Nat → Int32 → zM → Option (Option Nat × zM)} {rc : Nat → Int32 → Int32 → Int32 → zM → Option (Option Nat × zM)} {rl : Nat → Int32 → Int32 → zM → Option (Option Nat × zM)} {ru ra rb ry : Nat → Int32 → zM → Option (Option Nat × zM)} {v1 : Int32} {pat : yIp} {a0 hb : Nat} (hi : ci_ok ac b T r a0 pat (fun M => rp b (v1 + 1) M)) (hp : pi_ok a0 hb pat) : ch_ok ac b T r a0 (fun q => if q.2.2.2.2.2.2.length < 4 then pp_anyOf pat (q.1, q.2.1 + 1, q.2.2) else .error q.2.1) (fun M => rs_anyOrder_b rp rc rl ru ra rb ry d b v1 M) := by
  intro q c M pa pn hR hw hN
  show ∃ res M' pa' pn', rs_anyOrder_b rp rc rl ru ra rb ry d b v1 M = some (res, M') ∧ _
  have c4 : zm_I M 5 (b + 2 + 10 * r) 4 = nI q.2.2.2.2.2.2.length := hR.2.2.2.1.2.2
  have hA4 : q.2.2.2.2.2.2.length ≤ 4 := hw.2.2.2.1
  have e4 : (nI q.2.2.2.2.2.2.length < 4) ↔ q.2.2.2.2.2.2.length < 4 := lt_i2 (m := 4) (by omega) (by omega)
  obtain ⟨nn1, nn2⟩ := cl_noNode (d := d) hR
  dsimp only at nn1 nn2
  unfold rs_anyOrder_b
  simp only [cb_8 hR.1, c4, e4]
  by_cases cA : q.2.2.2.2.2.2.length < 4
  · rw [if_pos cA]
    obtain ⟨M1, M4, pa', pn', s1, s2, s3, s4, s5, s6, s7⟩ := cl_any0 (d := d) hR hw (by dsimp only; omega) hd cA
    have s1 : rs_make d b 5 (nI q.2.2.2.2.2.2.length) M = some (some (pa' q.2.2.1), M1) := s1
    have s2 : zm_I M1 5 (b + 2 + 10 * r) 4 = nI q.2.2.2.2.2.2.length := s2
    have s4 : M4 = zm_setI (zm_setR M1 24 (b + 2 + 10 * r + 9) q.2.2.2.2.2.2.length (some (pa' q.2.2.1))) 5 (b + 2 + 10 * r) 4 (nI (q.2.2.2.2.2.2.length + 1)) := s4
    have hru := cb_ru s3
    have hz : z_in (nI q.2.2.2.2.2.2.length) 4 := nI_in (by omega) (by omega)
    simp only [s1, Option.bind_some, cb_8 s3, (ru_13 hru).1, (ru_13 hru).2, s2, if_pos hz, nI_clamp (show q.2.2.2.2.2.2.length < 2 ^ 31 by omega), zlet, pr_ne (show (6 : Nat) ≠ 24 ∨ b ≠ b + 2 + 10 * r + 9 ∨ 8 ≠ q.2.2.2.2.2.2.length from .inl (by decide)), pm_IR, nI_1]
    rw [← s4]
    have eX : (pb_open q.2.2 4 q.2.2.2.2.2.2.length).2.1 q.2.2.1 = (4, q.2.2.2.2.2.2.length, none, [], 0) := pu_s _ _ _
    have hLF := zLF_402
    obtain ⟨res, M5, pa5, pn5, u1, u2, u3, u4⟩ := cm_any (d := d) (rp := rp) (rc := rc) (rl := rl) (ru := ru) (ra := ra) (rb := rb) (ry := ry) (n := q.2.2.1) (v1 := v1) hok hi hp 5 0 (q.1, q.2.1, ((pb_open q.2.2 4 q.2.2.2.2.2.2.length).1, (pb_open q.2.2 4 q.2.2.2.2.2.2.length).2.1, q.2.2.2.2.1, q.2.2.2.2.2.1, q.2.2.2.2.2.2 ++ [q.2.2.1])) c M4 pa' pn' zLF (by omega) (by omega) (by omega) s5 (pw_any hw cA) (by show q.2.2.1 + 1 + q.1.length ≤ 400; omega)
      (by
        refine ⟨Nat.lt_succ_self _, ?_, ?_, ?_, ?_⟩
        · show ((pb_open q.2.2 4 q.2.2.2.2.2.2.length).2.1 q.2.2.1).2.2.2.1.Nodup
          rw [eX]
          simp
        · show ((pb_open q.2.2 4 q.2.2.2.2.2.2.length).2.1 q.2.2.1).2.2.2.1.length + q.1.length ≤ 400
          rw [eX]
          simp
          omega
        · show ((pb_open q.2.2 4 q.2.2.2.2.2.2.length).2.1 q.2.2.1).2.2.2.2 ≤ 2
          rw [eX]
          exact Nat.zero_le _
        · intro z hz
          have hz : z ∈ ((pb_open q.2.2 4 q.2.2.2.2.2.2.length).2.1 q.2.2.1).2.2.2.1 := hz
          rw [eX] at hz
          cases hz)
      (by
        show ((pb_open q.2.2 4 q.2.2.2.2.2.2.length).2.1 q.2.2.1).2.2.1 = none
        rw [eX])
    refine ⟨res, M5, pa5, pn5, u1, ce_trans s6 u2, zh_tr2 s7 u3 u2, ?_⟩
    rw [if_pos cA]
    exact u4
  · rw [if_neg cA, nn1]
    simp only [Option.bind_some]
    refine ⟨_, _, pa, pn, rfl, c6_ce nn2, c6_zh nn2, .inl ⟨_, ?_, rfl, pm_same, cp_c6 hR nn2⟩⟩
    rw [if_neg cA]
def pp_brk (pat : yIp) : yIp := fun q => match pat (q.1, q.2.1 + 1, q.2.2) with
  | .error e => .error e
  | .ok x => match pp_sgn 41 x.2.1 x.2.2.1 with
    | .error e => .error e
    | .ok y => .ok (x.1, y.1, y.2, x.2.2.2)
theorem cm_bracket (hok : tp_ok T) {rp : Nat → Int32 → zM → Option (Option Nat × zM)} {rc : Nat → Int32 → Int32 → Int32 → zM → Option (Option Nat × zM)} {rl : Nat → Int32 → Int32 → zM → Option (Option Nat × zM)} {ru ra rb ry : Nat → Int32 → zM → Option (Option Nat × zM)} {v1 : Int32} {pat : yIp} {a0 : Nat} (hi : ci_ok ac b T r a0 pat (fun M => rp b (v1 + 1) M)) : ch_ok ac b T r a0 (pp_brk pat) (fun M => rs_bracket_b rp rc rl ru ra rb ry d b v1 M) := by
  intro q c M pa pn hR hw hN
  show ∃ res M' pa' pn', rs_bracket_b rp rc rl ru ra rb ry d b v1 M = some (res, M') ∧ _
  obtain ⟨s1, s2⟩ := cs_step (q := q) hR
  have hpM : zm_I M 6 b 6 = nI q.2.1 := hR.2.1.1
  unfold rs_bracket_b pp_brk
  rw [hpM, nI_1]
  simp only [zlet]
  obtain ⟨res, M1, pa1, pn1, k1, k2, k3, k4⟩ := hi _ _ pa pn s1 hw (by dsimp only; omega)
  have k1 : rp b (v1 + 1) (zm_setI M 6 b 6 (nI (q.2.1 + 1))) = some (res, M1) := k1
  rw [k1]
  simp only [Option.bind_some]
  have ce1 := ce_trans (c6_ce s2) k2
  have zh1 : zh (cf_W b r pa1 pn1) M M1 := zh_tr2 (c6_zh s2) k3 k2
  rcases k4 with ⟨e, m1, m2, m3, m4⟩ | ⟨y, m1, m2, m3⟩
  · rw [m1, m2]
    exact ⟨_, _, pa1, pn1, rfl, ce1, zh1, .inl ⟨e, rfl, rfl, m3, m4⟩⟩
  · rw [m1, m2]
    dsimp only
    obtain ⟨M3, t1, t2, t3, t4⟩ := cl_sign (d := d) hok m3
    rw [t1]
    have ce3 := ce_trans ce1 (c6_ce t3)
    have zh3 : zh (cf_W b r pa1 pn1) M M3 := zh_trans zh1 (c6_zh t3)
    have e41 : (py_ht (py_sk y.2.1 y.2.2.1).1 = 41) ↔ (py_sk y.2.1 y.2.2.1).1.head? = some 41 := ht_eq (c := 41) t4 (by omega)
    simp only [Option.bind_some, e41]
    have hp3 : zm_I M3 6 b 6 = nI (py_sk y.2.1 y.2.2.1).2 := t2.2.1.1
    by_cases c41 : (py_sk y.2.1 y.2.2.1).1.head? = some 41
    · rw [if_pos c41]
      cases e5 : (py_sk y.2.1 y.2.2.1).1 with
      | nil => rw [e5] at c41; cases c41
      | cons z zs =>
        have es : pp_sgn 41 y.2.1 y.2.2.1 = .ok (zs, (py_sk y.2.1 y.2.2.1).2 + 1) := by
          unfold pp_sgn
          rw [if_pos c41, e5]
          rfl
        have t2' : cs_x ac b M3 T r pa1 pn1 (z :: zs, (py_sk y.2.1 y.2.2.1).2, y.2.2.2) := by
          have : pb_skip y.2 = (z :: zs, (py_sk y.2.1 y.2.2.1).2, y.2.2.2) := by
            unfold pb_skip
            rw [e5]
          rw [← this]
          exact t2
        obtain ⟨u1, u2⟩ := cs_step (q := y.2) t2'
        rw [es, hp3, nI_1]
        exact ⟨_, _, pa1, pn1, rfl, ce_trans ce3 (c6_ce u2), zh_trans zh3 (c6_zh u2), .inr ⟨_, rfl, rfl, u1⟩⟩
    · rw [if_neg c41]
      have es : pp_sgn 41 y.2.1 y.2.2.1 = .error (py_sk y.2.1 y.2.2.1).2 := if_neg c41
      obtain ⟨nn1, nn2⟩ := cl_noNode (d := d) t2
      have nn1 : rs_noNode d b M3 = some (none, zm_setI M3 6 b 7 (nI (py_sk y.2.1 y.2.2.1).2)) := nn1
      rw [es, nn1]
      exact ⟨_, _, pa1, pn1, rfl, ce_trans ce3 (c6_ce nn2), zh_trans zh3 (c6_zh nn2), .inl ⟨_, rfl, rfl, pm_same, cp_c6 t2 nn2⟩⟩
theorem cm_atom (hok : tp_ok T) (hd : 2 ≤ d) {rp : Nat → Int32 → zM → Option (Option Nat × zM)} {rc : Nat → Int32 → Int32 → Int32 → zM → Option (Option Nat × zM)} {rl : Nat → Int32 → Int32 → zM → Option (Option Nat × zM)} {ru ra rb ry : Nat → Int32 → zM → Option (Option Nat × zM)} {dp : Nat} {inner : Option yIp} {a0 : Nat} (h0 : inner = none → dp = 8) (h1 : ∀ pat, inner = some pat → dp < 8 ∧ ch_ok ac b T r a0 (pp_brk pat) (fun M => rb b (nI dp) M) ∧ ch_ok ac b T r a0 (fun q => if q.2.2.2.2.2.2.length < 4 then pp_anyOf pat (q.1, q.2.1 + 1, q.2.2) else .error q.2.1) (fun M => ry b (nI dp) M)) : ci_ok ac b T r a0 (pp_atom inner) (fun M => rs_atom_b rp rc rl ru ra rb ry d b (nI dp) M) := by
  intro q M pa pn hR hw hN
  show ∃ res M' pa' pn', rs_atom_b rp rc rl ru ra rb ry d b (nI dp) M = some (res, M') ∧ _
  have h400 := hok.1
  obtain ⟨M1, t1, t2, t3, t4⟩ := cl_sign (d := d) hok hR
  have l0 := sk_len q.1 q.2.1
  have hL16 : q.2.2.2.2.1.length ≤ 16 := hw.2.1
  have hA4 : q.2.2.2.2.2.2.length ≤ 4 := hw.2.2.2.1
  have hdp : dp ≤ 8 := by
    cases e : inner with
    | none => have := h0 e; omega
    | some pat => have := (h1 pat e).1; omega
  have hpM : zm_I M1 6 b 6 = nI (py_sk q.1 q.2.1).2 := t2.2.1.1
  have hlen := cs_len t2
  have hlen : T.length = (py_sk q.1 q.2.1).2 + (py_sk q.1 q.2.1).1.length := hlen
  obtain ⟨nn1, nn2⟩ := cl_noNode (d := d) t2
  have nn1 : rs_noNode d b M1 = some (none, zm_setI M1 6 b 7 (nI (py_sk q.1 q.2.1).2)) := nn1
  have hbad : ∀ v : Except Nat (Nat × yQp), v = .error (py_sk q.1 q.2.1).2 → ∃ res M' pa' pn', some ((none : Option Nat), zm_setI M1 6 b 7 (nI (py_sk q.1 q.2.1).2)) = some (res, M') ∧ ce_x M pa pn M' pa' pn' ∧ zh (cf_W b r pa' pn') M M' ∧ ((∃ e, v = .error e ∧ res = none ∧ zm_I M' 6 b 7 = nI e ∧ cp_x M' b pa' pn') ∨ (∃ x, v = .ok x ∧ res = some (pa' x.1) ∧ cs_x ac b M' T r pa' pn' x.2)) := fun v hv => ⟨_, _, pa, pn, rfl, ce_trans (c6_ce t3) (c6_ce nn2), zh_trans (c6_zh t3) (c6_zh nn2), .inl ⟨_, hv, rfl, pm_same, cp_c6 t2 nn2⟩⟩
  unfold rs_atom_b
  rw [t1]
  simp only [Option.bind_some]
  cases e : (py_sk q.1 q.2.1).1 with
  | nil =>
    have ev : pp_atom inner q = .error (py_sk q.1 q.2.1).2 := by
      unfold pp_atom
      rw [e]
    rw [ev]
    simp only [py_ht, cl_isLetter1, Option.bind_some, if_true, if_neg (show ¬ (-1 : Int32) = 48 by decide), if_neg (show ¬ (-1 : Int32) = 40 by decide), if_neg (show ¬ (-1 : Int32) = 91 by decide), rs_atom_62, nn1, ite_self]
    exact hbad _ rfl
  | cons c bs =>
    rw [e] at l0 hlen
    simp only [List.length_cons] at l0 hlen
    have hc : c < 256 := t4 c (by rw [e]; simp)
    have t5 : cs_x ac b M1 T r pa pn (c :: bs, (py_sk q.1 q.2.1).2, q.2.2) := by
      have : pb_skip q = (c :: bs, (py_sk q.1 q.2.1).2, q.2.2) := by
        unfold pb_skip
        rw [e]
      rw [← this]
      exact t2
    have ev := atom_cons (inner := inner) e
    rw [ev]
    have x40 : (nI c = 40) ↔ c = 40 := nI_eq (b := 40) (by omega) (by omega)
    have x91 : (nI c = 91) ↔ c = 91 := nI_eq (b := 91) (by omega) (by omega)
    have x48 : (nI c = 48) ↔ c = 48 := nI_eq (b := 48) (by omega) (by omega)
    have x8 : ((8 : Int32) ≤ nI dp) ↔ 8 ≤ dp := le_i2 (m := 8) (by omega) (by omega)
    simp only [py_ht, cl_isLetter hc, Option.bind_some, x40, x91, x48, x8, rs_atom_62, nn1]
    by_cases cl : 97 ≤ c ∧ c ≤ 122
    · rw [decide_eq_true cl, pb_zbt, if_neg (show ¬ (1 : Int32) = 0 by decide), if_neg (show ¬ c = 48 by omega), if_pos cl]
      have e97 : nI c - 97 = nI (c - 97) := pk_sub (a := c) (b := 97) (by omega)
      rw [e97]
      by_cases c16 : q.2.2.2.2.1.length < 16
      · rw [if_pos c16]
        obtain ⟨M2, pa2, pn2, u1, u2, u3, u4⟩ := cl_leaf (d := d) (q := (c :: bs, (py_sk q.1 q.2.1).2, q.2.2)) (l := c - 97) t5 hw (by show q.2.2.1 < 400; omega) hd c16 rfl (by show (py_sk q.1 q.2.1).2 ≤ 400; omega)
        have u1 : rs_leaf d b (nI (c - 97)) M1 = some (some (pa2 q.2.2.1), M2) := u1
        rw [u1]
        exact ⟨_, _, pa2, pn2, rfl, ce_trans (c6_ce t3) u3, zh_tr2 (c6_zh t3) u4 u3, .inr ⟨_, rfl, rfl, u2⟩⟩
      · rw [if_neg c16]
        obtain ⟨d, rfl⟩ : ∃ d', d = d' + 1 := ⟨d - 1, by omega⟩
        have eb : rs_leaf (d + 1) b (nI (c - 97)) M1 = rs_leaf_b d b (nI (c - 97)) M1 := rfl
        have c2 : zm_I M1 5 (b + 2 + 10 * r) 2 = nI q.2.2.2.2.1.length := t2.2.2.2.1.1
        have enn : rs_noNode d b M1 = rs_noNode (d + 1) b M1 := rfl
        have : rs_leaf (d + 1) b (nI (c - 97)) M1 = some (none, zm_setI M1 6 b 7 (nI (py_sk q.1 q.2.1).2)) := by
          rw [eb]
          unfold rs_leaf_b
          simp only [cb_8 t2.1, c2, if_neg (show ¬ nI q.2.2.2.2.1.length < 16 from nI_nlt (b := 16) (by omega) (by omega)), enn, nn1, Option.bind_some]
        rw [this]
        exact hbad _ rfl
    · rw [decide_eq_false cl, pb_zbf, if_pos rfl]
      by_cases c48 : c = 48
      · rw [if_pos c48, if_pos c48]
        obtain ⟨s1, s2⟩ := cs_step (q := q) t5
        obtain ⟨M2, pa2, pn2, u1, u2, u3, u4⟩ := cl_make (d := d) (kd := 1) (nb := 0) (v := -1) s1 hw (by show q.2.2.1 < 400; omega) (by omega) (fun h => by omega)
        have u1 : rs_make d b 1 (-1) (zm_setI M1 6 b 6 (nI ((py_sk q.1 q.2.1).2 + 1))) = some (some (pa2 q.2.2.1), M2) := u1
        simp only [zlet, hpM, nI_1, u1, Option.bind_some]
        exact ⟨_, _, pa2, pn2, rfl, ce_trans (c6_ce t3) (ce_trans (c6_ce s2) u3), zh_tr2 (zh_trans (c6_zh t3) (c6_zh s2)) u4 u3, .inr ⟨_, rfl, rfl, u2⟩⟩
      · rw [if_neg c48, if_neg c48, if_neg cl]
        cases ei : inner with
        | none =>
          have := h0 ei
          rw [if_pos (show 8 ≤ dp by omega)]
          exact hbad _ rfl
        | some pat =>
          obtain ⟨hd8, hbr, han⟩ := h1 pat ei
          rw [if_neg (show ¬ 8 ≤ dp by omega)]
          dsimp only
          by_cases c4 : c = 40
          · rw [if_pos c4, if_pos c4]
            obtain ⟨res, M2, pa2, pn2, k1, k2, k3, k4⟩ := hbr (bs, (py_sk q.1 q.2.1).2, q.2.2) c M1 pa pn t5 hw (by show q.2.2.1 + 1 + bs.length ≤ 400; omega)
            have k1 : rb b (nI dp) M1 = some (res, M2) := k1
            unfold rs_atom_67
            rw [if_pos (x40.mpr c4), k1]
            simp only [Option.bind_some, rs_atom_86]
            exact ⟨_, _, pa2, pn2, rfl, ce_trans (c6_ce t3) k2, zh_tr2 (c6_zh t3) k3 k2, k4⟩
          · rw [if_neg c4, if_neg c4]
            by_cases c9 : c = 91
            · rw [if_pos c9]
              obtain ⟨res, M2, pa2, pn2, k1, k2, k3, k4⟩ := han (bs, (py_sk q.1 q.2.1).2, q.2.2) c M1 pa pn t5 hw (by show q.2.2.1 + 1 + bs.length ≤ 400; omega)
              have k1 : ry b (nI dp) M1 = some (res, M2) := k1
              unfold rs_atom_67
              rw [if_neg (fun h => c4 (x40.mp h)), k1]
              simp only [Option.bind_some, rs_atom_86]
              refine ⟨_, _, pa2, pn2, rfl, ce_trans (c6_ce t3) k2, zh_tr2 (c6_zh t3) k3 k2, ?_⟩
              have ee : (if c = 91 ∧ q.2.2.2.2.2.2.length < 4 then pp_anyOf pat (bs, (py_sk q.1 q.2.1).2 + 1, q.2.2) else .error (py_sk q.1 q.2.1).2) = (if q.2.2.2.2.2.2.length < 4 then pp_anyOf pat (bs, (py_sk q.1 q.2.1).2 + 1, q.2.2) else .error (py_sk q.1 q.2.1).2) := by
                by_cases cA : q.2.2.2.2.2.2.length < 4
                · rw [if_pos ⟨c9, cA⟩, if_pos cA]
                · rw [if_neg (fun h => cA h.2), if_neg cA]
              rw [ee]
              exact k4
            · rw [if_neg c9, if_neg (show ¬ (c = 91 ∧ q.2.2.2.2.2.2.length < 4) from fun h => c9 h.1)]
              exact hbad _ rfl
theorem cm_pat (hok : tp_ok T) (a0 : Nat) : ∀ (m dp d : Nat), dp + m = 8 → 8 * m + 10 ≤ d → ci_ok ac b T r a0 (pp_pat m) (fun M => rs_pattern d b (nI dp) M) := by
  have step : ∀ (inner : Option yIp) (dp d hb : Nat), 3 ≤ d → pi_ok a0 hb (pp_atom inner) → ci_ok ac b T r a0 (pp_atom inner) (fun M => (grs_pattern d).2.2.2.2.1 b (nI dp) M) → ci_ok ac b T r a0 (pp_join (pp_join (pp_unit (pp_atom inner)) 2 44) 3 124) (fun M => rs_pattern (d + 6) b (nI dp) M) := by
    intro inner dp d hb hd hpa hat
    have hun : ci_ok ac b T r a0 (pp_unit (pp_atom inner)) (fun M => (grs_pattern (d + 1)).2.2.2.1 b (nI dp) M) := cm_unit (d := d) hok hd hat hpa
    have hl2 : ci_ok ac b T r a0 (pp_unit (pp_atom inner)) (fun M => (grs_pattern (d + 2)).2.2.1 b (nI 2) (nI dp) M) := by
      intro q M pa pn h1 h2 h3
      obtain ⟨res, M', pa', pn', g1, g2⟩ := hun q M pa pn h1 h2 h3
      refine ⟨res, M', pa', pn', ?_, g2⟩
      have g1 : (grs_pattern (d + 1)).2.2.2.1 b (nI dp) M = some (res, M') := g1
      show rs_link_b (grs_pattern (d + 1)).1 (grs_pattern (d + 1)).2.1 (grs_pattern (d + 1)).2.2.1 (grs_pattern (d + 1)).2.2.2.1 (grs_pattern (d + 1)).2.2.2.2.1 (grs_pattern (d + 1)).2.2.2.2.2.1 (grs_pattern (d + 1)).2.2.2.2.2.2 (d + 1) b (nI 2) (nI dp) M = _
      unfold rs_link_b
      rw [if_neg (show ¬ (nI 2 : Int32) = 3 by decide), g1]
      rfl
    have hro : ci_ok ac b T r a0 (pp_join (pp_unit (pp_atom inner)) 2 44) (fun M => (grs_pattern (d + 3)).2.1 b (nI 2) (nI 44) (nI dp) M) := cm_join (d := d + 2) hok (by omega) (.inl rfl) (by omega) hl2 (pm_unit hpa)
    have hl3 : ci_ok ac b T r a0 (pp_join (pp_unit (pp_atom inner)) 2 44) (fun M => (grs_pattern (d + 4)).2.2.1 b (nI 3) (nI dp) M) := by
      intro q M pa pn h1 h2 h3
      obtain ⟨res, M', pa', pn', g1, g2⟩ := hro q M pa pn h1 h2 h3
      refine ⟨res, M', pa', pn', ?_, g2⟩
      have g1 : (grs_pattern (d + 3)).2.1 b 2 44 (nI dp) M = some (res, M') := g1
      show rs_link_b (grs_pattern (d + 3)).1 (grs_pattern (d + 3)).2.1 (grs_pattern (d + 3)).2.2.1 (grs_pattern (d + 3)).2.2.2.1 (grs_pattern (d + 3)).2.2.2.2.1 (grs_pattern (d + 3)).2.2.2.2.2.1 (grs_pattern (d + 3)).2.2.2.2.2.2 (d + 3) b (nI 3) (nI dp) M = _
      unfold rs_link_b
      rw [if_pos (show (nI 3 : Int32) = 3 by decide), g1]
      rfl
    have hch : ci_ok ac b T r a0 (pp_join (pp_join (pp_unit (pp_atom inner)) 2 44) 3 124) (fun M => (grs_pattern (d + 5)).2.1 b (nI 3) (nI 124) (nI dp) M) := cm_join (d := d + 4) hok (by omega) (.inr rfl) (by omega) hl3 (pm_join (pm_unit hpa) (.inl rfl))
    intro q M pa pn h1 h2 h3
    obtain ⟨res, M', pa', pn', g1, g2⟩ := hch q M pa pn h1 h2 h3
    refine ⟨res, M', pa', pn', ?_, g2⟩
    have g1 : (grs_pattern (d + 5)).2.1 b 3 124 (nI dp) M = some (res, M') := g1
    show ((grs_pattern (d + 5)).2.1 b 3 124 (nI dp) M).bind _ = _
    rw [g1]
    rfl
  intro m
  induction m with
  | zero =>
    intro dp d hm hd
    obtain ⟨d, rfl⟩ : ∃ k, d = k + 7 := ⟨d - 7, by omega⟩
    exact step none dp (d + 1) 0 (by omega) (pm_atom (hb := 0) (fun pat h => by cases h)) (cm_atom (d := d) hok (by omega) (fun _ => by omega) (fun pat h => by cases h))
  | succ m ih =>
    intro dp d hm hd
    obtain ⟨d, rfl⟩ : ∃ k, d = k + 8 := ⟨d - 8, by omega⟩
    have hpp := pm_pat a0 m
    have hin : ci_ok ac b T r a0 (pp_pat m) (fun M => (grs_pattern d).1 b (nI dp + 1) M) := by
      rw [nI_1]
      exact ih (dp + 1) d (by omega) (by omega)
    have hbr : ch_ok ac b T r a0 (pp_brk (pp_pat m)) (fun M => (grs_pattern (d + 1)).2.2.2.2.2.1 b (nI dp) M) := cm_bracket (d := d) (rc := (grs_pattern d).2.1) (rl := (grs_pattern d).2.2.1) (ru := (grs_pattern d).2.2.2.1) (ra := (grs_pattern d).2.2.2.2.1) (rb := (grs_pattern d).2.2.2.2.2.1) (ry := (grs_pattern d).2.2.2.2.2.2) hok hin
    have han : ch_ok ac b T r a0 (fun q => if q.2.2.2.2.2.2.length < 4 then pp_anyOf (pp_pat m) (q.1, q.2.1 + 1, q.2.2) else .error q.2.1) (fun M => (grs_pattern (d + 1)).2.2.2.2.2.2 b (nI dp) M) := cm_anyOrder (d := d) hok (by omega) hin hpp
    have hpa : pi_ok a0 (2 * (m + 1)) (pp_atom (some (pp_pat m))) := pm_atom (fun pat h => by injection h with h; rw [← h]; exact hpp)
    refine step (some (pp_pat m)) dp (d + 2) _ (by omega) hpa (cm_atom (d := d + 1) hok (by omega) (fun h => by cases h) ?_)
    intro pat h
    injection h with h
    rw [← h]
    exact ⟨by omega, hbr, han⟩
end
