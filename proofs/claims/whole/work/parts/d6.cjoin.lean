/-! THE CLASS's parser: some of a kind with a sign between -/
def ci_ok (ac b : Nat) (T : List Nat) (r a0 : Nat) (item : yIp) (run : zM → Option (Option Nat × zM)) : Prop := ∀ (q : yQp) (M : zM) (pa : Nat → Nat) (pn : Nat), cs_x ac b M T r pa pn q → pw_x a0 q.2.2 → q.2.2.1 + q.1.length ≤ 400 → ∃ res M' pa' pn', run M = some (res, M') ∧ ce_x M pa pn M' pa' pn' ∧ zh (cf_W b r pa' pn') M M' ∧ ((∃ e, item q = .error e ∧ res = none ∧ zm_I M' 6 b 7 = nI e ∧ cp_x M' b pa' pn') ∨ (∃ x, item q = .ok x ∧ res = some (pa' x.1) ∧ cs_x ac b M' T r pa' pn' x.2))
section
variable {ac b r d : Nat} {T : List Nat}
theorem zh_cf {pa pa' : Nat → Nat} {pn pn' : Nat} {M M' : zM} (h : zh (cf_W b r pa pn) M M') (e : pn ≤ pn' ∧ ∀ j, j < pn → pa' j = pa j) : zh (cf_W b r pa' pn') M M' := zh_mono h (fun t k j _ w => cf_mono e.1 e.2 t k j w)
theorem ce_e {M M' : zM} {pa pa' : Nat → Nat} {pn pn' : Nat} (h : ce_x M pa pn M' pa' pn') : pn ≤ pn' ∧ ∀ j, j < pn → pa' j = pa j := ⟨h.1, h.2.1⟩
theorem zh_tr2 {pa pa' : Nat → Nat} {pn pn' : Nat} {M M' M'' : zM} (h : zh (cf_W b r pa pn) M M') (h2 : zh (cf_W b r pa' pn') M' M'') (e : ce_x M' pa pn M'' pa' pn') : zh (cf_W b r pa' pn') M M'' := zh_trans (zh_cf h (ce_e e)) h2
/-- noNode -/
theorem cl_noNode {pa : Nat → Nat} {pn : Nat} {M : zM} {q : yQp} (h : cs_x ac b M T r pa pn q) : rs_noNode d b M = some (none, zm_setI M 6 b 7 (nI q.2.1)) ∧ zf (c6_W b) M (zm_setI M 6 b 7 (nI q.2.1)) := by
  refine ⟨?_, zf_set ⟨rfl, rfl, .inr rfl⟩⟩
  unfold rs_noNode
  have : zm_I M 6 b 6 = nI q.2.1 := h.2.1.1
  rw [this]
  rfl
theorem chain_49 (rp : Nat → Int32 → zM → Option (Option Nat × zM)) (rc : Nat → Int32 → Int32 → Int32 → zM → Option (Option Nat × zM)) (rl : Nat → Int32 → Int32 → zM → Option (Option Nat × zM)) (ru ra rb ry : Nat → Int32 → zM → Option (Option Nat × zM)) (fuel : Nat) (v1 v2 v3 v6 : Int32) (n : Nat) (M : zM) : rs_chain_49 rp rc rl ru ra rb ry d (fuel + 1) b v1 v2 v3 (some n) v6 M = (if 400 ≤ v6 then some (some n, M) else ((rs_sign d b M).bind fun q2 => (if q2.1 = v2 then ((rl b v1 v3 (zm_setI q2.2 6 b 6 ((zm_I q2.2 6 b 6) + 1))).bind fun q7 => (match q7.1 with | none => some (none, q7.2) | some _ => ((nd_append d n q7.1 q7.2).bind fun q20 => rs_chain_49 rp rc rl ru ra rb ry d fuel b v1 v2 v3 (some n) (v6 + 1) q20))) else some (some n, q2.2)))) := by
  rw [rs_chain_49]
  simp only [rs_chain_103, zlet]
  by_cases e : 400 ≤ v6
  · rw [if_pos e, if_pos e]
  · rw [if_neg e, if_neg e]
    rfl
theorem cm_more (hok : tp_ok T) {rp : Nat → Int32 → zM → Option (Option Nat × zM)} {rc : Nat → Int32 → Int32 → Int32 → zM → Option (Option Nat × zM)} {rl : Nat → Int32 → Int32 → zM → Option (Option Nat × zM)} {ru ra rb ry : Nat → Int32 → zM → Option (Option Nat × zM)} {v1 v3 : Int32} {item : yIp} {a0 hb sign n : Nat} (hs : sign < 256) (hi : ci_ok ac b T r a0 item (fun M => rl b v1 v3 M)) (hp : pi_ok a0 hb item) : ∀ (fuel : Nat) (q : yQp) (M : zM) (pa : Nat → Nat) (pn f2 k : Nat), q.1.length < fuel → q.1.length < f2 → k + q.1.length < 400 → cs_x ac b M T r pa pn q → pw_x a0 q.2.2 → ((py_sk q.1 q.2.1).1.head? = some sign → q.2.2.1 + (py_sk q.1 q.2.1).1.tail.length ≤ 400) → lw_n q n → (q.2.2.2.1 n).2.2.1 = none → ∃ res M' pa' pn', rs_chain_49 rp rc rl ru ra rb ry d f2 b v1 (nI sign) v3 (some (pa n)) (nI k) M = some (res, M') ∧ ce_x M pa pn M' pa' pn' ∧ zh (cf_W b r pa' pn') M M' ∧ ((∃ e, pp_more item sign n fuel q = .error e ∧ res = none ∧ zm_I M' 6 b 7 = nI e ∧ cp_x M' b pa' pn') ∨ (∃ x, pp_more item sign n fuel q = .ok x ∧ res = some (pa' x.1) ∧ cs_x ac b M' T r pa' pn' x.2)) := by
  intro fuel
  induction fuel with
  | zero => intro q M pa pn f2 k h; omega
  | succ fuel ih =>
    intro q M pa pn f2 k hf hf2 hk hR hw H1 hl hu
    obtain ⟨f2, rfl⟩ : ∃ f, f2 = f + 1 := ⟨f2 - 1, by omega⟩
    have l0 := sk_len q.1 q.2.1
    rw [chain_49, if_neg (show ¬ (400 : Int32) ≤ nI k from nI_ge (b := 400) (by omega) (by omega))]
    unfold pp_more
    obtain ⟨M1, g1, g2, g3, g4⟩ := cl_sign (d := d) hok hR
    rw [g1]
    simp only [Option.bind_some, ht_eq g4 hs]
    by_cases c : (py_sk q.1 q.2.1).1.head? = some sign
    · rw [if_pos c, if_pos c]
      have l1 := tail_lt c
      have hp1 : zm_I M1 6 b 6 = nI (py_sk q.1 q.2.1).2 := g2.2.1.1
      cases e5 : (py_sk q.1 q.2.1).1 with
      | nil => rw [e5] at c; cases c
      | cons z zs =>
        have g2' : cs_x ac b M1 T r pa pn (z :: zs, (py_sk q.1 q.2.1).2, q.2.2) := by
          have : pb_skip q = (z :: zs, (py_sk q.1 q.2.1).2, q.2.2) := by
            unfold pb_skip
            rw [e5]
          rw [← this]
          exact g2
        obtain ⟨s1, s2⟩ := cs_step (q := q) g2'
        have H1c := H1 c
        rw [e5] at H1c l1 l0
        simp only [List.tail_cons] at H1c l1 ⊢
        rw [hp1, nI_1]
        have z2 : zf (c6_W b) M (zm_setI M1 6 b 6 (nI ((py_sk q.1 q.2.1).2 + 1))) := zf_trans g3 s2
        obtain ⟨res, M2, pa2, pn2, k1, k2, k3, k4⟩ := hi _ _ pa pn s1 hw (by dsimp only; omega)
        have k1 : rl b v1 v3 (zm_setI M1 6 b 6 (nI ((py_sk q.1 q.2.1).2 + 1))) = some (res, M2) := k1
        rw [k1]
        simp only [Option.bind_some]
        have ce2 := ce_trans (c6_ce z2) k2
        have zh2 : zh (cf_W b r pa2 pn2) M M2 := zh_tr2 (c6_zh z2) k3 k2
        rcases k4 with ⟨e, m1, m2, m3, m4⟩ | ⟨y, m1, m2, m3⟩
        · rw [m1, m2]
          exact ⟨_, _, pa2, pn2, rfl, ce2, zh2, .inl ⟨e, rfl, rfl, m3, m4⟩⟩
        · rw [m1, m2]
          dsimp only
          obtain ⟨G', hpo⟩ := hp (zs, (py_sk q.1 q.2.1).2 + 1, q.2.2) (fun _ => (0, 0, 0)) hw (by dsimp only; omega) y m1
          have hl1 : lw_n (zs, (py_sk q.1 q.2.1).2 + 1, q.2.2) n := by
            obtain ⟨a1, a2, a3, a4, a5⟩ := hl
            refine ⟨a1, a2, ?_, a4, a5⟩
            show (q.2.2.2.1 n).2.2.2.1.length + zs.length ≤ 400
            simp only [List.length_cons] at l0
            omega
          obtain ⟨p1, p2, p3, p4, p5, p6, p7, p8, p9⟩ := lw_put hl1 hpo
          have hN9 := hpo.2.2.2.2.2.2.2.2.1
          have hb8 := hpo.2.2.2.2.2.2.2.1
          dsimp only at hN9 hb8
          have eX : y.2.2.2.2.1 n = q.2.2.2.1 n := (hpo.1.1 n hl.1).1
          obtain ⟨M3, w1, w2, w3, w4⟩ := cl_append (d := d) (A := n) (C := y.1) m3 p2 p3 p4 (by rw [eX]; exact hu) p5 p7 ⟨p8, p9⟩
          have epn : pa2 n = pa n := k2.2.1 n (by have := hR.2.2.1.1; have := hl.1; omega)
          rw [epn] at w1
          rw [w1]
          simp only [Option.bind_some, nI_1]
          have l3 := sk_len y.2.1 y.2.2.1
          simp only [List.length_cons] at l0 l1
          obtain ⟨res3, M4, pa4, pn4, u1, u2, u3, u4⟩ := ih (y.2.1, y.2.2.1, pb_put y.2.2.2 n y.1) M3 pa2 pn2 f2 (k + 1) (by dsimp only; omega) (by dsimp only; omega) (by dsimp only; omega) w2 (pw_put hpo.2.1 _ _)
            (fun h => by
              have := tail_lt h
              dsimp only at this ⊢
              show y.2.2.2.1 + _ ≤ 400
              omega) p1 (by
              show ((py_put y.2.2.2.2.1 n y.1) n).2.2.1 = none
              rw [put_A]
              show (y.2.2.2.2.1 n).2.2.1 = none
              rw [eX]
              exact hu)
          rw [epn] at u1
          exact ⟨res3, M4, pa4, pn4, u1, ce_trans ce2 (ce_trans w3 u2), zh_tr2 (zh_tr2 zh2 w4 w3) u3 u2, u4⟩
    · rw [if_neg c, if_neg c]
      exact ⟨_, _, pa, pn, rfl, c6_ce g3, c6_zh g3, .inr ⟨_, rfl, rfl, g2⟩⟩
theorem cm_join (hok : tp_ok T) (hd : 1 ≤ d) {rp : Nat → Int32 → zM → Option (Option Nat × zM)} {rc : Nat → Int32 → Int32 → Int32 → zM → Option (Option Nat × zM)} {rl : Nat → Int32 → Int32 → zM → Option (Option Nat × zM)} {ru ra rb ry : Nat → Int32 → zM → Option (Option Nat × zM)} {kd : Nat} {v3 : Int32} {item : yIp} {a0 hb sign : Nat} (hkd : kd = 2 ∨ kd = 3) (hs : sign < 256) (hi : ci_ok ac b T r a0 item (fun M => rl b (nI kd) v3 M)) (hp : pi_ok a0 hb item) : ci_ok ac b T r a0 (pp_join item kd sign) (fun M => rs_chain_b rp rc rl ru ra rb ry d b (nI kd) (nI sign) v3 M) := by
  intro q M pa pn hR hw hN
  show ∃ res M' pa' pn', rs_chain_b rp rc rl ru ra rb ry d b (nI kd) (nI sign) v3 M = some (res, M') ∧ _
  unfold rs_chain_b
  obtain ⟨res, M1, pa1, pn1, k1, k2, k3, k4⟩ := hi q M pa pn hR hw hN
  have k1 : rl b (nI kd) v3 M = some (res, M1) := k1
  rw [k1]
  simp only [Option.bind_some, rs_chain_21]
  unfold pp_join
  rcases k4 with ⟨e, m1, m2, m3, m4⟩ | ⟨y, m1, m2, m3⟩
  · rw [m1, m2]
    exact ⟨_, _, pa1, pn1, rfl, k2, k3, .inl ⟨e, rfl, rfl, m3, m4⟩⟩
  · rw [m1, m2]
    dsimp only
    obtain ⟨G', hpo⟩ := hp _ (fun _ => (0, 0, 0)) hw hN y m1
    obtain ⟨M2, t1, t2, t3, t4⟩ := cl_sign (d := d) hok m3
    rw [t1]
    simp only [Option.bind_some, ht_eq t4 hs]
    have ce2 : ce_x M pa pn M2 pa1 pn1 := ce_trans k2 (c6_ce t3)
    have zh2 : zh (cf_W b r pa1 pn1) M M2 := zh_trans k3 (c6_zh t3)
    by_cases c : (py_sk y.2.1 y.2.2.1).1.head? = some sign
    · rw [if_pos c, if_pos c]
      obtain ⟨g1, g2, g3, g4, g5, g6, g7, g8, g9, g10⟩ := hpo
      have dc := g3.1
      have l1 := tail_lt c
      have l2 := sk_len y.2.1 y.2.2.1
      have ac' := (g3.2.2 y.1 dc).2.2.2.2.2.1
      have eck : nI (ck kd) = nI kd := by
        rcases hkd with e | e <;> subst e <;> rfl
      obtain ⟨M3, pa3, pn3, s1, s2, s3, s4⟩ := cl_make (d := d) (kd := kd) (nb := 0) (v := -1) t2 g2 (by show y.2.2.2.1 < 400; omega) hd (fun h => by omega)
      rw [eck] at s1
      have s1 : rs_make d b (nI kd) (-1) M2 = some (some (pa3 y.2.2.2.1), M3) := s1
      rw [s1]
      simp only [Option.bind_some]
      have eX : (pb_open y.2.2.2 kd 0).2.1 y.2.2.2.1 = (kd, 0, none, [], 0) := pu_s _ _ _
      have eXc : (pb_open y.2.2.2 kd 0).2.1 y.1 = y.2.2.2.2.1 y.1 := pu_o _ _ (by omega)
      obtain ⟨M4, w1, w2, w3, w4⟩ := cl_append (d := d) s2 (A := y.2.2.2.1) (C := y.1) (by show y.2.2.2.1 < y.2.2.2.1 + 1; omega) (by show y.1 < y.2.2.2.1 + 1; omega) (by omega) (by show ((pb_open y.2.2.2 kd 0).2.1 y.2.2.2.1).2.2.1 = none; rw [eX]) (by show ((pb_open y.2.2.2 kd 0).2.1 y.1).2.2.1 = none; rw [eXc]; exact g3.2.1) (by show ((pb_open y.2.2.2 kd 0).2.1 y.2.2.2.1).2.2.2.1.length ≤ 400; rw [eX]; simp) (by show ((pb_open y.2.2.2 kd 0).2.1 y.2.2.2.1).2.2.2.2 ≤ 100 ∧ ((pb_open y.2.2.2 kd 0).2.1 y.1).2.2.2.2 ≤ 100; rw [eX, eXc]; exact ⟨Nat.zero_le _, by omega⟩)
      have epy : pa3 y.1 = pa1 y.1 := s3.2.1 y.1 (by have := m3.2.2.1.1; omega)
      rw [epy] at w1
      rw [w1]
      simp only [Option.bind_some]
      have XR : py_put (pb_open y.2.2.2 kd 0).2.1 y.2.2.2.1 y.1 y.2.2.2.1 = _ := put_A _ _ _
      rw [eX, eXc] at XR
      have hl : lw_n (pb_skip (y.2.1, y.2.2.1, pb_put (pb_open y.2.2.2 kd 0) y.2.2.2.1 y.1)) y.2.2.2.1 := by
        refine ⟨Nat.lt_succ_self _, ?_, ?_, ?_, ?_⟩
        · show (py_put (pb_open y.2.2.2 kd 0).2.1 y.2.2.2.1 y.1 y.2.2.2.1).2.2.2.1.Nodup
          rw [XR]
          simp
        · show (py_put (pb_open y.2.2.2 kd 0).2.1 y.2.2.2.1 y.1 y.2.2.2.1).2.2.2.1.length + (py_sk y.2.1 y.2.2.1).1.length ≤ 400
          rw [XR]
          simp
          omega
        · show (py_put (pb_open y.2.2.2 kd 0).2.1 y.2.2.2.1 y.1 y.2.2.2.1).2.2.2.2 ≤ 2
          rw [XR]
          show max 0 (y.2.2.2.2.1 y.1).2.2.2.2 ≤ 2
          omega
        · intro z hz
          have hz : z ∈ (py_put (pb_open y.2.2.2 kd 0).2.1 y.2.2.2.1 y.1 y.2.2.2.1).2.2.2.1 := hz
          rw [XR] at hz
          have : z = y.1 := by simpa using hz
          show z < y.2.2.2.1 + 1
          omega
      have w2 : cs_x ac b M4 T r pa3 pn3 (pb_skip (y.2.1, y.2.2.1, pb_put (pb_open y.2.2.2 kd 0) y.2.2.2.1 y.1)) := w2
      have hLF := zLF_402
      have skk := sk_sk y.2.1 y.2.2.1
      obtain ⟨res2, M5, pa5, pn5, v1, v2, v4, v5⟩ := cm_more (v1 := nI kd) (rp := rp) (rc := rc) (ru := ru) (ra := ra) (rb := rb) (ry := ry) (n := y.2.2.2.1) hok hs hi hp (y.2.1.length + 1) (pb_skip (y.2.1, y.2.2.1, pb_put (pb_open y.2.2.2 kd 0) y.2.2.2.1 y.1)) M4 pa3 pn3 zLF 0 (by show (py_sk y.2.1 y.2.2.1).1.length < _; omega) (by show (py_sk y.2.1 y.2.2.1).1.length < _; omega) (by show 0 + (py_sk y.2.1 y.2.2.1).1.length < 400; omega) w2 (pw_put (pw_new g2 _) _ _)
        (fun h => by
          show y.2.2.2.1 + 1 + (py_sk (py_sk y.2.1 y.2.2.1).1 (py_sk y.2.1 y.2.2.1).2).1.tail.length ≤ 400
          rw [skk]
          omega) hl (by
          show (py_put (pb_open y.2.2.2 kd 0).2.1 y.2.2.2.1 y.1 y.2.2.2.1).2.2.1 = none
          rw [XR])
      have em : ∀ f, pp_more item sign y.2.2.2.1 (f + 1) (pb_skip (y.2.1, y.2.2.1, pb_put (pb_open y.2.2.2 kd 0) y.2.2.2.1 y.1)) = pp_more item sign y.2.2.2.1 (f + 1) (y.2.1, y.2.2.1, pb_put (pb_open y.2.2.2 kd 0) y.2.2.2.1 y.1) := by
        intro f
        unfold pp_more
        show (if (py_sk (py_sk y.2.1 y.2.2.1).1 (py_sk y.2.1 y.2.2.1).2).1.head? = some sign then _ else _) = _
        unfold pb_skip
        dsimp only
        rw [skk]
      rw [em] at v5
      exact ⟨res2, M5, pa5, pn5, v1, ce_trans ce2 (ce_trans s3 (ce_trans w3 v2)), zh_tr2 (zh_tr2 (zh_tr2 zh2 s4 s3) w4 w3) v4 v2, v5⟩
    · rw [if_neg c, if_neg c]
      exact ⟨_, _, pa1, pn1, rfl, ce2, zh2, .inr ⟨_, rfl, rfl, t2⟩⟩
end
