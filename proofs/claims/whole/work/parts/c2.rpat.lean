/-! THE RULES' text: the model reads anys, atoms, patterns -/
def pp_anyOf (pat : yIp) : yIp := fun q => pp_any pat q.2.2.1 5 0 (q.1, q.2.1, ((pb_open q.2.2 4 q.2.2.2.2.2.2.length).1, (pb_open q.2.2 4 q.2.2.2.2.2.2.length).2.1, q.2.2.2.2.1, q.2.2.2.2.2.1, q.2.2.2.2.2.2 ++ [q.2.2.1]))
def ra_ok (am : Nat) (T : List Nat) (r a0 : Nat) (item : yIp) (run : zM → Option (Int32 × zM)) : Prop := ∀ (q : yQp) (M : zM), rs_x am M T r q → pw_x a0 q.2.2 → q.2.2.1 + 1 + q.1.length ≤ 400 → q.2.2.2.2.2.2.length < 4 → ∃ res M', run M = some (res, M') ∧ zf (rw_r am r) M M' ∧ ((∃ e, item q = .error e ∧ zm_I M' 12 am 4 = nI e ∧ e ≤ 400) ∨ (∃ x, item q = .ok x ∧ res = nI x.1 ∧ rs_x am M' T r x.2))
section
variable {am d : Nat} {T : List Nat} {r : Nat}
theorem anyOf_end {rj : Nat → Int32 → Int32 → Int32 → zM → Option (Int32 × zM)} {rp ra ry ru : Nat → Int32 → zM → Option (Int32 × zM)} {f : Nat} {v1 v3 v4 v5 : Int32} {M : zM} {e : Nat} (h : zm_I M 12 am 4 = nI e) (he : e ≤ 400) : mo_anyOf_33 rj rp ra ry ru d (f + 1) am v1 v3 v4 v5 M = some (v3, M) := by
  rw [mo_anyOf_33, mr_fine0 h he]
  simp only [Option.bind_some, if_true, mo_anyOf_139, mr_fine0 h he, mo_anyOf_156]
theorem anyOf_ok {rj : Nat → Int32 → Int32 → Int32 → zM → Option (Int32 × zM)} {rp ra ry ru : Nat → Int32 → zM → Option (Int32 × zM)} {f : Nat} {v1 v3 v4 : Int32} {M : zM} (h : zm_I M 12 am 4 = -1) : mo_anyOf_33 rj rp ra ry ru d (f + 1) am v1 v3 v4 0 M = some (v3, zm_setI M 12 am 3 (zm_I M 12 am 3 + 1)) := by
  rw [mo_anyOf_33, mr_fine1 h]
  simp only [Option.bind_some, if_neg (show ¬ (1 : Int32) = 0 by decide), if_true, mo_anyOf_139, mr_fine1 h, mo_anyOf_156, zlet]
/-- a byte is passed over -/
theorem rs_step {M : zM} {q : yQp} {c : Nat} {b : List Nat} (h : rs_x am M T r (c :: b, q.2.1, q.2.2)) : rs_x am (zm_setI M 12 am 3 (nI (q.2.1 + 1))) T r (b, q.2.1 + 1, q.2.2) := by
  refine rs_at (q := (c :: b, q.2.1, q.2.2)) h (zf_set (.inl ⟨rfl, rfl, by simp⟩)) ⟨pm_same, ?_⟩
  obtain ⟨a, ha, hl⟩ := h.2.2.1.2
  exact ⟨a ++ [c], by rw [ha]; simp, by simp [hl]⟩
theorem rm_any (hok : tp_ok T) (hd : 2 ≤ d) {rj : Nat → Int32 → Int32 → Int32 → zM → Option (Int32 × zM)} {rp ra ry ru : Nat → Int32 → zM → Option (Int32 × zM)} {v1 : Int32} {pat : yIp} {a0 hb n : Nat} (hi : ri_ok am T r a0 pat (fun M => rp am (v1 + 1) M)) (hp : pi_ok a0 hb pat) : ∀ (fuel k : Nat) (q : yQp) (M : zM) (f2 : Nat), k ≤ 3 → 4 ≤ k + fuel → 7 ≤ k + f2 → rs_x am M T r q → pw_x a0 q.2.2 → q.2.2.1 + q.1.length ≤ 400 → lw_n q n → ∃ res M', mo_anyOf_33 rj rp ra ry ru d f2 am v1 (nI n) (nI k) 1 M = some (res, M') ∧ zf (rw_r am r) M M' ∧ ((∃ e, pp_any pat n fuel k q = .error e ∧ zm_I M' 12 am 4 = nI e ∧ e ≤ 400) ∨ (∃ x, pp_any pat n fuel k q = .ok x ∧ res = nI x.1 ∧ rs_x am M' T r x.2)) := by
  intro fuel
  induction fuel with
  | zero => intro k q M f2 h1 h2; omega
  | succ fuel ih =>
    intro k q M f2 hk hkf hf2 hR hw hN hl
    obtain ⟨f2, rfl⟩ : ∃ f, f2 = f + 1 := ⟨f2 - 1, by omega⟩
    obtain ⟨f3, hf3⟩ : ∃ f, f2 = f + 1 := ⟨f2 - 1, by omega⟩
    rw [mo_anyOf_33, rs_fine hR]
    simp only [Option.bind_some, if_neg (show ¬ (1 : Int32) = 0 by decide)]
    unfold pp_any
    obtain ⟨res, M1, k1, k2, k3⟩ := hi q M hR hw hN
    have k1 : rp am (v1 + 1) M = some (res, M1) := k1
    rw [k1]
    simp only [Option.bind_some]
    rcases k3 with ⟨e, m1, m2, m3⟩ | ⟨y, m1, m2, m3⟩
    · rw [m1, mr_fine0 m2 m3]
      simp only [Option.bind_some, if_true]
      exact ⟨_, _, rfl, k2, .inl ⟨e, rfl, m2, m3⟩⟩
    · rw [m1, rs_fine m3]
      simp only [Option.bind_some, if_neg (show ¬ (1 : Int32) = 0 by decide)]
      obtain ⟨G', hpo⟩ := hp q (fun _ => (0, 0, 0)) hw hN y m1
      obtain ⟨p1, p2, p3, p4, p5, p6, p7, p8, p9⟩ := lw_put hl hpo
      have hN9 := hpo.2.2.2.2.2.2.2.2.1
      have hb8 := hpo.2.2.2.2.2.2.2.1
      obtain ⟨M2, s1, s2, s3⟩ := rs_put (d := d) m3 (by omega) p2 p3 p4 p5 p6 p7 ⟨p8, p9⟩
      rw [m2, s1]
      simp only [Option.bind_some, zlet, nI_1]
      obtain ⟨M3, t1, t2, t3, t4⟩ := rs_look (d := d) hok s2 (by omega)
      have t1 : mo_look d am M2 = some (py_ht (py_sk y.2.1 y.2.2.1).1, M3) := t1
      have t4 : ∀ x, x ∈ (py_sk y.2.1 y.2.2.1).1 → x < 256 := t4
      rw [t1]
      have z3 : zf (rw_r am r) M M3 := zf_trans (zf_trans k2 (rw_mg s3 (by simp) (by simp))) (rw_mg t3 (by simp) (by simp))
      have e38 : (py_ht (py_sk y.2.1 y.2.2.1).1 = 38) ↔ (py_sk y.2.1 y.2.2.1).1.head? = some 38 := ht_eq (c := 38) t4 (by omega)
      have e4 : ((4 : Int32) ≤ nI (k + 1)) ↔ 4 ≤ k + 1 := by
        constructor
        · intro h
          by_cases g : 4 ≤ k + 1
          · exact g
          · exact absurd h (nI_ge (b := 4) (by omega) (by omega))
        · intro h
          exact nI_le (a := 4) (by omega) (by omega)
      have e2 : (nI (k + 1) < (2 : Int32)) ↔ k + 1 < 2 := by
        constructor
        · intro h
          by_cases g : k + 1 < 2
          · exact g
          · exact absurd h (nI_nlt (b := 2) (by omega) (by omega))
        · intro h
          exact nI_lt (b := 2) (by omega) (by omega)
      have l3 := sk_len y.2.1 y.2.2.1
      simp only [Option.bind_some, e38, e4]
      have hp3 : zm_I M3 12 am 3 = nI (py_sk y.2.1 y.2.2.1).2 := t2.2.2.1.1
      have h43 : zm_I M3 12 am 4 = -1 := t2.2.2.2.1
      have hp400 : (py_sk y.2.1 y.2.2.1).2 ≤ 400 := rs_400 hok t2
      by_cases c : (py_sk y.2.1 y.2.2.1).1.head? = some 38 ∧ k + 1 < 4
      · rw [if_pos c, if_pos c.1, if_neg (show ¬ 4 ≤ k + 1 by omega)]
        simp only [mo_anyOf_93, if_neg (show ¬ (1 : Int32) = 0 by decide), zlet, mo_anyOf_136, hp3, nI_1]
        have l1 := tail_lt c.1
        cases e5 : (py_sk y.2.1 y.2.2.1).1 with
        | nil => rw [e5] at c; cases c.1
        | cons x b =>
          have t5 : rs_x am M3 T r (x :: b, (py_sk y.2.1 y.2.2.1).2, pb_put y.2.2.2 n y.1) := by
            have : pb_skip (y.2.1, y.2.2.1, pb_put y.2.2.2 n y.1) = (x :: b, (py_sk y.2.1 y.2.2.1).2, pb_put y.2.2.2 n y.1) := by
              unfold pb_skip
              dsimp only
              rw [e5]
            rw [← this]
            exact t2
          have t6 := rs_step (q := (x :: b, (py_sk y.2.1 y.2.2.1).2, pb_put y.2.2.2 n y.1)) t5
          rw [e5] at l1 l3
          obtain ⟨res2, M5, w1, w2, w3⟩ := ih (k + 1) (b, (py_sk y.2.1 y.2.2.1).2 + 1, pb_put y.2.2.2 n y.1) (zm_setI M3 12 am 3 (nI ((py_sk y.2.1 y.2.2.1).2 + 1))) f2 (by omega) (by omega) (by omega) t6 (pw_put hpo.2.1 _ _) (by simp at l3; show y.2.2.2.1 + b.length ≤ 400; omega)
            (by
              obtain ⟨a1, a2, a3, a4, a5⟩ := p1
              refine ⟨a1, a2, ?_, a4, a5⟩
              have a3 : ((pb_put y.2.2.2 n y.1).2.1 n).2.2.2.1.length + y.2.1.length ≤ 400 := a3
              simp at l3
              show ((pb_put y.2.2.2 n y.1).2.1 n).2.2.2.1.length + b.length ≤ 400
              omega)
          exact ⟨res2, M5, w1, zf_trans (zf_trans z3 (zf_set (.inl ⟨rfl, rfl, .inl rfl⟩))) w2, w3⟩
      · rw [if_neg c]
        have hpre : (if (py_sk y.2.1 y.2.2.1).1.head? = some 38 then (if 4 ≤ k + 1 then mo_anyOf_92 rj rp ra ry ru (fun p0 p1 p2 p3 p4 m => mo_anyOf_33 rj rp ra ry ru d f2 p0 p1 p2 p3 p4 m) d am v1 (nI n) (nI (k + 1)) M3 else mo_anyOf_93 rj rp ra ry ru (fun p0 p1 p2 p3 p4 m => mo_anyOf_33 rj rp ra ry ru d f2 p0 p1 p2 p3 p4 m) d am v1 (nI n) (nI (k + 1)) 1 M3) else mo_anyOf_92 rj rp ra ry ru (fun p0 p1 p2 p3 p4 m => mo_anyOf_33 rj rp ra ry ru d f2 p0 p1 p2 p3 p4 m) d am v1 (nI n) (nI (k + 1)) M3) = mo_anyOf_93 rj rp ra ry ru (fun p0 p1 p2 p3 p4 m => mo_anyOf_33 rj rp ra ry ru d f2 p0 p1 p2 p3 p4 m) d am v1 (nI n) (nI (k + 1)) 0 M3 := by
          by_cases c1 : (py_sk y.2.1 y.2.2.1).1.head? = some 38
          · rw [if_pos c1, if_pos (by
              by_cases g : 4 ≤ k + 1
              · exact g
              · exact absurd ⟨c1, by omega⟩ c)]
            rfl
          · rw [if_neg c1]
            rfl
        rw [hpre]
        unfold mo_anyOf_93
        simp only [if_true, e2]
        have hfail : ∃ res M', mo_anyOf_128 rj rp ra ry ru (fun p0 p1 p2 p3 p4 m => mo_anyOf_33 rj rp ra ry ru d f2 p0 p1 p2 p3 p4 m) d am v1 (nI n) (nI (k + 1)) 0 M3 = some (res, M') ∧ zf (rw_r am r) M M' ∧ zm_I M' 12 am 4 = nI (py_sk y.2.1 y.2.2.1).2 := by
          refine ⟨nI n, zm_setI M3 12 am 4 (nI (py_sk y.2.1 y.2.2.1).2), ?_, zf_trans z3 (zf_set (.inl ⟨rfl, rfl, .inr (.inl rfl)⟩)), pm_same⟩
          unfold mo_anyOf_128
          rw [mr_fails h43, hp3]
          simp only [Option.bind_some, mo_anyOf_136]
          rw [hf3]
          exact anyOf_end pm_same hp400
        by_cases c2 : k + 1 < 2
        · rw [if_pos c2, if_neg (fun h => by omega)]
          obtain ⟨res2, M4, w1, w2, w3⟩ := hfail
          exact ⟨res2, M4, w1, w2, .inl ⟨_, rfl, w3, hp400⟩⟩
        · rw [if_neg c2]
          obtain ⟨M4, u1, u2, u3, u4⟩ := rs_look (d := d) hok t2 (by omega)
          have skk := sk_sk y.2.1 y.2.2.1
          have u1 : mo_look d am M3 = some (py_ht (py_sk (py_sk y.2.1 y.2.2.1).1 (py_sk y.2.1 y.2.2.1).2).1, M4) := u1
          rw [skk] at u1
          have z4 : zf (rw_r am r) M M4 := zf_trans z3 (rw_mg u3 (by simp) (by simp))
          have u2 : rs_x am M4 T r ((py_sk (py_sk y.2.1 y.2.2.1).1 (py_sk y.2.1 y.2.2.1).2).1, (py_sk (py_sk y.2.1 y.2.2.1).1 (py_sk y.2.1 y.2.2.1).2).2, pb_put y.2.2.2 n y.1) := u2
          rw [skk] at u2
          have e93 : (py_ht (py_sk y.2.1 y.2.2.1).1 = 93) ↔ (py_sk y.2.1 y.2.2.1).1.head? = some 93 := ht_eq (c := 93) t4 (by omega)
          rw [u1]
          simp only [Option.bind_some, e93]
          have hp4 : zm_I M4 12 am 3 = nI (py_sk y.2.1 y.2.2.1).2 := u2.2.2.1.1
          have h44 : zm_I M4 12 am 4 = -1 := u2.2.2.2.1
          by_cases c3 : (py_sk y.2.1 y.2.2.1).1.head? = some 93
          · rw [if_pos c3, if_pos ⟨by omega, c3⟩]
            simp only [mo_anyOf_136]
            rw [hf3, anyOf_ok h44, hp4, nI_1]
            cases e5 : (py_sk y.2.1 y.2.2.1).1 with
            | nil => rw [e5] at c3; cases c3
            | cons x b =>
              rw [e5] at u2
              have t6 := rs_step (q := (x :: b, (py_sk y.2.1 y.2.2.1).2, pb_put y.2.2.2 n y.1)) u2
              exact ⟨_, _, rfl, zf_trans z4 (zf_set (.inl ⟨rfl, rfl, .inl rfl⟩)), .inr ⟨_, rfl, rfl, t6⟩⟩
          · rw [if_neg c3, if_neg (fun h => c3 h.2)]
            refine ⟨nI n, zm_setI M4 12 am 4 (nI (py_sk y.2.1 y.2.2.1).2), ?_, zf_trans z4 (zf_set (.inl ⟨rfl, rfl, .inr (.inl rfl)⟩)), .inl ⟨_, rfl, pm_same, hp400⟩⟩
            unfold mo_anyOf_128
            rw [mr_fails h44, hp4]
            simp only [Option.bind_some, mo_anyOf_136]
            rw [hf3]
            exact anyOf_end pm_same hp400
theorem rm_anyOf (hok : tp_ok T) (hd : 2 ≤ d) {rj : Nat → Int32 → Int32 → Int32 → zM → Option (Int32 × zM)} {rp ra ry ru : Nat → Int32 → zM → Option (Int32 × zM)} {v1 : Int32} {pat : yIp} {a0 hb : Nat} (hr : r < 8) (hi : ri_ok am T r a0 pat (fun M => rp am (v1 + 1) M)) (hp : pi_ok a0 hb pat) : ra_ok am T r a0 (pp_anyOf pat) (fun M => mo_anyOf_b rj rp ra ry ru d am v1 M) := by
  intro q M hR hw hN hA
  show ∃ res M', mo_anyOf_b rj rp ra ry ru d am v1 M = some (res, M') ∧ _
  obtain ⟨M1, M2, a1, a2, a3, a4, a5, a6, a7⟩ := rsx_any (d := d) hR hr (by omega) hA
  have e4 : 4 * nI r + nI q.2.2.2.2.2.2.length = nI (4 * r + q.2.2.2.2.2.2.length) := mx_4 _ _
  have z4 : z_in (nI (4 * r + q.2.2.2.2.2.2.length)) 32 := nI_in (by omega) (by omega)
  unfold mo_anyOf_b
  simp only [a1, a2, Option.bind_some, ml_R14 a4, ml_L14 a4, a3, e4, if_pos z4, nI_clamp (show 4 * r + q.2.2.2.2.2.2.length < 2 ^ 31 by omega), zlet]
  have hLF := zLF_402
  have eX : (pb_open q.2.2 4 q.2.2.2.2.2.2.length).2.1 q.2.2.1 = (4, q.2.2.2.2.2.2.length, none, [], 0) := pu_s _ _ _
  obtain ⟨res, M3, w1, w2, w3⟩ := rm_any (rj := rj) (rp := rp) (ra := ra) (ry := ry) (ru := ru) (n := q.2.2.1) (v1 := v1) hok hd hi hp 5 0 (q.1, q.2.1, ((pb_open q.2.2 4 q.2.2.2.2.2.2.length).1, (pb_open q.2.2 4 q.2.2.2.2.2.2.length).2.1, q.2.2.2.2.1, q.2.2.2.2.2.1, q.2.2.2.2.2.2 ++ [q.2.2.1])) _ zLF (by omega) (by omega) (by omega) a5 (pw_any hw hA) (by show q.2.2.1 + 1 + q.1.length ≤ 400; omega)
    (by
      refine ⟨Nat.lt_succ_self _, ?_, ?_, ?_, ?_⟩
      · show ((pb_open q.2.2 4 q.2.2.2.2.2.2.length).2.1 q.2.2.1).2.2.2.1.Nodup
        rw [eX]
        simp
      · show ((pb_open q.2.2 4 q.2.2.2.2.2.2.length).2.1 q.2.2.1).2.2.2.1.length + q.1.length ≤ 400
        rw [eX]
        simp
        omega
      · show ((pb_open q.2.2 4 q.2.2.2.2.2.2.length).2.1 q.2.2.1).2.2.2.2 ≤ 2
        rw [eX]
        exact Nat.zero_le _
      · intro c hc
        have hc : c ∈ ((pb_open q.2.2 4 q.2.2.2.2.2.2.length).2.1 q.2.2.1).2.2.2.1 := hc
        rw [eX] at hc
        cases hc)
  exact ⟨res, M3, w1, zf_trans a7 w2, w3⟩
theorem atom_cons {inner : Option yIp} {q : yQp} {c : Nat} {b : List Nat} (e : (py_sk q.1 q.2.1).1 = c :: b) : pp_atom inner q = (if c = 48 then .ok (q.2.2.1, b, (py_sk q.1 q.2.1).2 + 1, pb_open q.2.2 1 0) else if 97 ≤ c ∧ c ≤ 122 then (if q.2.2.2.2.1.length < 16 then .ok (q.2.2.1, b, (py_sk q.1 q.2.1).2 + 1, ((pb_open q.2.2 0 q.2.2.2.2.1.length).1, (pb_open q.2.2 0 q.2.2.2.2.1.length).2.1, q.2.2.2.2.1 ++ [(c - 97, q.2.2.1)], q.2.2.2.2.2)) else .error (py_sk q.1 q.2.1).2) else match inner with
      | none => .error (py_sk q.1 q.2.1).2
      | some pat => if c = 40 then (match pat (b, (py_sk q.1 q.2.1).2 + 1, q.2.2) with
        | .error e => .error e
        | .ok x => match pp_sgn 41 x.2.1 x.2.2.1 with
          | .error e => .error e
          | .ok y => .ok (x.1, y.1, y.2, x.2.2.2)) else if c = 91 ∧ q.2.2.2.2.2.2.length < 4 then pp_anyOf pat (b, (py_sk q.1 q.2.1).2 + 1, q.2.2) else .error (py_sk q.1 q.2.1).2) := by
  unfold pp_atom
  rw [e]
  rfl
theorem rm_atom (hok : tp_ok T) (hd : 2 ≤ d) {rj : Nat → Int32 → Int32 → Int32 → zM → Option (Int32 × zM)} {rp ra ry ru : Nat → Int32 → zM → Option (Int32 × zM)} {dp : Nat} {inner : Option yIp} {a0 hb : Nat} (hr : r < 8) (h0 : inner = none → dp = 8) (h1 : ∀ pat, inner = some pat → dp < 8 ∧ ri_ok am T r a0 pat (fun M => rp am (nI (dp + 1)) M) ∧ ra_ok am T r a0 (pp_anyOf pat) (fun M => ry am (nI dp) M)) : ri_ok am T r a0 (pp_atom inner) (fun M => mo_atom_b rj rp ra ry ru d am (nI dp) M) := by
  intro q M hR hw hN
  show ∃ res M', mo_atom_b rj rp ra ry ru d am (nI dp) M = some (res, M') ∧ _
  obtain ⟨M1, t1, t2, t3, t4⟩ := rs_look (d := d) hok hR (by omega)
  have z1 : zf (rw_r am r) M M1 := rw_mg t3 (by simp) (by simp)
  have hp3 : zm_I M1 12 am 3 = nI (py_sk q.1 q.2.1).2 := t2.2.2.1.1
  have h43 : zm_I M1 12 am 4 = -1 := t2.2.2.2.1
  have hp400 : (py_sk q.1 q.2.1).2 ≤ 400 := rs_400 hok t2
  have l0 := sk_len q.1 q.2.1
  have hL16 : q.2.2.2.2.1.length ≤ 16 := hw.2.1
  have hA4 : q.2.2.2.2.2.2.length ≤ 4 := hw.2.2.2.1
  have hdp : dp ≤ 8 := by
    cases e : inner with
    | none => have := h0 e; omega
    | some pat => have := (h1 pat e).1; omega
  unfold mo_atom_b
  rw [t1]
  simp only [Option.bind_some]
  have hfail : ∀ v2 : Int32, mo_atom_75 rj rp ra ry ru d am (nI dp) v2 M1 = some (0, zm_setI M1 12 am 4 (nI (py_sk q.1 q.2.1).2)) := by
    intro v2
    unfold mo_atom_75 mo_atom_76
    rw [if_pos rfl, mr_fails h43, hp3]
    rfl
  have hbad : ∀ v : Except Nat (Nat × yQp), v = .error (py_sk q.1 q.2.1).2 → ∃ res M', some ((0 : Int32), zm_setI M1 12 am 4 (nI (py_sk q.1 q.2.1).2)) = some (res, M') ∧ zf (rw_r am r) M M' ∧ ((∃ e, v = .error e ∧ zm_I M' 12 am 4 = nI e ∧ e ≤ 400) ∨ (∃ x, v = .ok x ∧ res = nI x.1 ∧ rs_x am M' T r x.2)) := fun v hv => ⟨_, _, rfl, zf_trans z1 (zf_set (.inl ⟨rfl, rfl, .inr (.inl rfl)⟩)), .inl ⟨_, hv, pm_same, hp400⟩⟩
  cases e : (py_sk q.1 q.2.1).1 with
  | nil =>
    simp only [py_ht, if_neg (show ¬ (-1 : Int32) = 40 by decide), if_neg (show ¬ (-1 : Int32) = 91 by decide), mo_atom_22, if_neg (show ¬ (-1 : Int32) = 48 by decide), mr_isLetter1, Option.bind_some, if_true, mo_atom_46, hfail]
    refine hbad _ ?_
    unfold pp_atom
    rw [e]
  | cons c b =>
    rw [e] at l0
    have l1 : b.length + 1 ≤ q.1.length := by simpa using l0
    have hc : c < 256 := t4 c (by rw [e]; simp)
    have t5 : rs_x am M1 T r (c :: b, (py_sk q.1 q.2.1).2, q.2.2) := by
      have : pb_skip q = (c :: b, (py_sk q.1 q.2.1).2, q.2.2) := by
        unfold pb_skip
        rw [e]
      rw [← this]
      exact t2
    have t6 := rs_step (q := (c :: b, (py_sk q.1 q.2.1).2, q.2.2)) t5
    have z6 : zf (rw_r am r) M (zm_setI M1 12 am 3 (nI ((py_sk q.1 q.2.1).2 + 1))) := zf_trans z1 (zf_set (.inl ⟨rfl, rfl, .inl rfl⟩))
    have x40 : (nI c = 40) ↔ c = 40 := nI_eq (b := 40) (by omega) (by omega)
    have x91 : (nI c = 91) ↔ c = 91 := nI_eq (b := 91) (by omega) (by omega)
    have x48 : (nI c = 48) ↔ c = 48 := nI_eq (b := 48) (by omega) (by omega)
    have ev := atom_cons (inner := inner) e
    rw [ev]
    simp only [py_ht, x40, x91]
    have hmid : (if c = 40 then mo_atom_17 rj rp ra ry ru d am (nI dp) (nI c) M1 else (if c = 91 then mo_atom_17 rj rp ra ry ru d am (nI dp) (nI c) M1 else mo_atom_22 rj rp ra ry ru d am (nI dp) (nI c) 0 M1)) = mo_atom_22 rj rp ra ry ru d am (nI dp) (nI c) (if c = 40 ∨ c = 91 then 1 else 0) M1 := by
      by_cases c4 : c = 40
      · rw [if_pos c4, if_pos (.inl c4)]; rfl
      · rw [if_neg c4]
        by_cases c9 : c = 91
        · rw [if_pos c9, if_pos (.inr c9)]; rfl
        · rw [if_neg c9, if_neg (fun h => by rcases h with h | h; exact c4 h; exact c9 h)]
    rw [hmid]
    unfold mo_atom_22
    simp only [x48, mr_isLetter hc, Option.bind_some]
    by_cases c48 : c = 48
    · rw [if_pos c48, if_pos c48]
      obtain ⟨M2, s1, s2, s3⟩ := rs_open (d := d) t6 (by show q.2.2.1 < 1200; omega) 1 0
      have s1 : mo_opens d am 1 0 (zm_setI M1 12 am 3 (nI ((py_sk q.1 q.2.1).2 + 1))) = some (nI q.2.2.1, M2) := s1
      refine ⟨nI q.2.2.1, M2, ?_, zf_trans z6 (rw_mg s3 (by simp) (by simp)), .inr ⟨_, rfl, rfl, s2⟩⟩
      unfold mo_atom_71 mo_atom_76
      simp only [if_neg (show ¬ (1 : Int32) = 0 by decide), zlet, hp3, nI_1, x48, if_pos c48, s1, Option.bind_some]
    · rw [if_neg c48, if_neg c48]
      by_cases cl : 97 ≤ c ∧ c ≤ 122
      · rw [if_pos cl, decide_eq_true cl, pb_zbt, if_neg (show ¬ (1 : Int32) = 0 by decide)]
        have hmany : mo_many d am 2 M1 = some (nI q.2.2.2.2.1.length, M1) := mr_many (w := 2) t2.1 t2.2.2.2.2.2.1 (by omega) t2.2.2.2.2.2.2.1.1
        rw [hmany]
        simp only [Option.bind_some]
        by_cases c16 : q.2.2.2.2.1.length < 16
        · rw [if_pos c16, if_pos (show nI q.2.2.2.2.1.length < 16 from nI_lt (b := 16) (by omega) (by omega))]
          obtain ⟨M2, M3, a1, a2, a3, a4, a5, a6, a7⟩ := rsx_leaf (d := d) t6 hr (by show q.2.2.1 < 1200; omega) c16 (c - 97)
          have a1 : mo_more d am 2 (zm_setI M1 12 am 3 (nI ((py_sk q.1 q.2.1).2 + 1))) = some (nI q.2.2.2.2.1.length, M2) := a1
          have a2 : mo_opens d am 0 (nI q.2.2.2.2.1.length) M2 = some (nI q.2.2.1, M3) := a2
          have e2 : 2 * (16 * nI r + nI q.2.2.2.2.1.length) = nI (2 * (16 * r + q.2.2.2.2.1.length)) := mx_2 _ _
          have e97 : nI c - 97 = nI (c - 97) := pk_sub (a := c) (b := 97) (by omega)
          have z2 : z_in (nI (2 * (16 * r + q.2.2.2.2.1.length))) 256 := nI_in (by omega) (by omega)
          have z3 : z_in (nI (2 * (16 * r + q.2.2.2.2.1.length) + 1)) 256 := nI_in (by omega) (by omega)
          have i16 : zm_I (zm_setI M3 20 (am + 9) (2 * (16 * r + q.2.2.2.2.1.length)) (nI (c - 97))) 12 am 16 = nI r := by rw [pm_ne (by omega)]; exact a3
          refine ⟨nI q.2.2.1, _, ?_, zf_trans z6 a7, .inr ⟨_, rfl, rfl, a5⟩⟩
          unfold mo_atom_71 mo_atom_76
          simp only [if_neg (show ¬ (1 : Int32) = 0 by decide), zlet, hp3, nI_1, x48, if_neg c48, mr_isLetter hc, Option.bind_some, decide_eq_true cl, pb_zbt, a1, a2, ml_R12 a4, ml_L12 a4, a3, e2, if_pos z2, nI_clamp (show 2 * (16 * r + q.2.2.2.2.1.length) < 2 ^ 31 by omega), e97, pm_RI, pm_LI, i16, if_pos z3, nI_clamp (show 2 * (16 * r + q.2.2.2.2.1.length) + 1 < 2 ^ 31 by omega)]
        · rw [if_neg c16, if_neg (show ¬ nI q.2.2.2.2.1.length < 16 from nI_nlt (b := 16) (by omega) (by omega)), if_neg (show ¬ (c = 40 ∨ c = 91) by omega)]
          simp only [mo_atom_46, if_true, hfail]
          exact hbad _ rfl
      · rw [if_neg cl, decide_eq_false cl, pb_zbf, if_pos rfl]
        unfold mo_atom_46
        by_cases cb : c = 40 ∨ c = 91
        · rw [if_pos cb, if_neg (show ¬ (1 : Int32) = 0 by decide)]
          cases ei : inner with
          | none =>
            have := h0 ei
            subst this
            rw [if_pos (show (8 : Int32) ≤ nI 8 by decide), hfail]
            exact hbad _ rfl
          | some pat =>
            obtain ⟨hd8, hpat, hany⟩ := h1 pat ei
            rw [if_neg (show ¬ (8 : Int32) ≤ nI dp from nI_ge (b := 8) (by omega) (by omega))]
            dsimp only
            by_cases c4 : c = 40
            · rw [if_pos c4, if_pos (x40.mpr c4)]
              unfold mo_atom_71 mo_atom_76
              simp only [if_neg (show ¬ (1 : Int32) = 0 by decide), zlet, hp3, nI_1, x48, if_neg c48, mr_isLetter hc, Option.bind_some, decide_eq_false cl, pb_zbf, if_true, x91, if_neg (show ¬ c = 91 by omega)]
              obtain ⟨res, M2, k1, k2, k3⟩ := hpat _ _ t6 hw (by show q.2.2.1 + b.length ≤ 400; omega)
              have k1 : rp am (nI (dp + 1)) (zm_setI M1 12 am 3 (nI ((py_sk q.1 q.2.1).2 + 1))) = some (res, M2) := k1
              rw [k1]
              simp only [Option.bind_some]
              have z7 := zf_trans z6 k2
              rcases k3 with ⟨er, m1, m2, m3⟩ | ⟨y, m1, m2, m3⟩
              · have m1 : pat (b, (py_sk q.1 q.2.1).2 + 1, q.2.2) = .error er := m1
                rw [m1, mr_fine0 m2 m3]
                simp only [Option.bind_some, if_true, mo_atom_229]
                exact ⟨_, _, rfl, z7, .inl ⟨er, rfl, m2, m3⟩⟩
              · have m1 : pat (b, (py_sk q.1 q.2.1).2 + 1, q.2.2) = .ok y := m1
                rw [m1, rs_fine m3]
                simp only [Option.bind_some, if_neg (show ¬ (1 : Int32) = 0 by decide)]
                obtain ⟨M3, z8, g⟩ := rs_takes (d := d) hok m3 hd (c := 41) (by omega)
                have z9 : zf (rw_r am r) M M3 := zf_trans z7 (rw_mg z8 (by simp) (by simp))
                rcases g with ⟨cc, t7, t8⟩ | ⟨cc, t7, t8⟩
                · have t7 : mo_takes d am 41 M2 = some (1, M3) := t7
                  have es : pp_sgn 41 y.2.1 y.2.2.1 = .ok ((py_sk y.2.1 y.2.2.1).1.tail, (py_sk y.2.1 y.2.2.1).2 + 1) := if_pos cc
                  rw [t7, es]
                  simp only [Option.bind_some, if_neg (show ¬ (1 : Int32) = 0 by decide), mo_atom_229]
                  exact ⟨_, _, rfl, z9, .inr ⟨_, rfl, m2, t8⟩⟩
                · have t7 : mo_takes d am 41 M2 = some (0, M3) := t7
                  have es : pp_sgn 41 y.2.1 y.2.2.1 = .error (py_sk y.2.1 y.2.2.1).2 := if_neg cc
                  have hp9 : zm_I M3 12 am 3 = nI (py_sk y.2.1 y.2.2.1).2 := t8.2.2.1.1
                  rw [t7, es]
                  simp only [Option.bind_some, if_true, mr_fails t8.2.2.2.1, mo_atom_229, hp9]
                  exact ⟨_, _, rfl, zf_trans z9 (zf_set (.inl ⟨rfl, rfl, .inr (.inl rfl)⟩)), .inl ⟨_, rfl, pm_same, rs_sk400 hok m3⟩⟩
            · have c9 : c = 91 := by omega
              rw [if_neg c4, if_neg (fun h => c4 (x40.mp h))]
              have hmany : mo_many d am 4 M1 = some (nI q.2.2.2.2.2.2.length, M1) := mr_many (w := 4) t2.1 t2.2.2.2.2.2.1 (by omega) t2.2.2.2.2.2.2.1.2.2
              rw [hmany]
              simp only [Option.bind_some]
              by_cases cA : q.2.2.2.2.2.2.length < 4
              · rw [if_pos (show c = 91 ∧ q.2.2.2.2.2.2.length < 4 from ⟨c9, cA⟩), if_neg (show ¬ (4 : Int32) ≤ nI q.2.2.2.2.2.2.length from nI_ge (b := 4) (by omega) (by omega))]
                unfold mo_atom_71 mo_atom_76
                simp only [if_neg (show ¬ (1 : Int32) = 0 by decide), zlet, hp3, nI_1, x48, if_neg c48, mr_isLetter hc, Option.bind_some, decide_eq_false cl, pb_zbf, if_true, x91, if_pos c9]
                obtain ⟨res, M2, k1, k2, k3⟩ := hany _ _ t6 hw (by show q.2.2.1 + 1 + b.length ≤ 400; omega) cA
                have k1 : ry am (nI dp) (zm_setI M1 12 am 3 (nI ((py_sk q.1 q.2.1).2 + 1))) = some (res, M2) := k1
                rw [k1]
                exact ⟨_, _, rfl, zf_trans z6 k2, k3⟩
              · rw [if_neg (show ¬ (c = 91 ∧ q.2.2.2.2.2.2.length < 4) from fun h => cA h.2), if_pos (show (4 : Int32) ≤ nI q.2.2.2.2.2.2.length from nI_le (a := 4) (by omega) (by omega)), hfail]
                exact hbad _ rfl
        · rw [if_neg cb, if_pos rfl, hfail]
          refine hbad _ ?_
          cases ei : inner with
          | none => rfl
          | some pat =>
            dsimp only
            rw [if_neg (fun h => cb (.inl h)), if_neg (fun h => cb (.inr h.1))]
theorem rm_pat (hok : tp_ok T) (hr : r < 8) (a0 : Nat) : ∀ (m dp d : Nat), dp + m = 8 → 6 * m + 8 ≤ d → ri_ok am T r a0 (pp_pat m) (fun M => mo_pattern d am (nI dp) M) := by
  intro m
  induction m with
  | zero =>
    intro dp d hm hd
    obtain ⟨d, rfl⟩ : ∃ k, d = k + 4 := ⟨d - 4, by omega⟩
    have hat : ri_ok am T r a0 (pp_atom none) (fun M => mo_atom (d + 1) am (nI dp) M) := rm_atom (hb := 0) hok (d := d) (by omega) hr (fun _ => by omega) (fun pat h => by cases h)
    have hat' : ri_ok am T r a0 (pp_atom none) (fun M => (gmo_joined d).2.2.1 am (nI dp) M) := by
      obtain ⟨d, rfl⟩ : ∃ k, d = k + 1 := ⟨d - 1, by omega⟩
      exact rm_atom (hb := 0) hok (d := d) (by omega) hr (fun _ => by omega) (fun pat h => by cases h)
    have hpa : pi_ok a0 0 (pp_atom none) := pm_atom (hb := 0) (fun pat h => by cases h)
    have hun : ri_ok am T r a0 (pp_unit (pp_atom none)) (fun M => (gmo_joined (d + 1)).2.2.2.2 am (nI dp) M) := rm_unit (d := d) hok (by omega) hr hat' hpa
    have hro : ri_ok am T r a0 (pp_join (pp_unit (pp_atom none)) 2 44) (fun M => (gmo_joined (d + 2)).1 am 2 44 (nI dp) M) := rm_join (kd := 2) (sign := 44) (d := d + 1) hok (by omega) (by omega) hun (pm_unit hpa)
    have hch : ri_ok am T r a0 (pp_join (pp_join (pp_unit (pp_atom none)) 2 44) 3 124) (fun M => (gmo_joined (d + 3)).1 am 3 124 (nI dp) M) := rm_join (kd := 3) (sign := 124) (d := d + 2) hok (by omega) (by omega) hro (pm_join (pm_unit hpa) (.inl rfl))
    intro q M h1 h2 h3
    obtain ⟨res, M', g1, g2⟩ := hch q M h1 h2 h3
    refine ⟨res, M', ?_, g2⟩
    show ((gmo_joined (d + 3)).1 am 3 124 (nI dp) M).bind _ = _
    have g1 : (gmo_joined (d + 3)).1 am 3 124 (nI dp) M = some (res, M') := g1
    rw [g1]
    rfl
  | succ m ih =>
    intro dp d hm hd
    obtain ⟨d, rfl⟩ : ∃ k, d = k + 6 := ⟨d - 6, by omega⟩
    have hin : ri_ok am T r a0 (pp_pat m) (fun M => (gmo_joined (d + 1)).2.1 am (nI (dp + 1)) M) := ih (dp + 1) (d + 1) (by omega) (by omega)
    have hin0 : ri_ok am T r a0 (pp_pat m) (fun M => (gmo_joined d).2.1 am (nI dp + 1) M) := by
      rw [nI_1]
      exact ih (dp + 1) d (by omega) (by omega)
    have hpp := pm_pat a0 m
    have hany : ra_ok am T r a0 (pp_anyOf (pp_pat m)) (fun M => (gmo_joined (d + 1)).2.2.2.1 am (nI dp) M) := rm_anyOf (d := d) hok (by omega) hr hin0 hpp
    have hpa : pi_ok a0 (2 * (m + 1)) (pp_atom (some (pp_pat m))) := pm_atom (fun pat h => by injection h with h; rw [← h]; exact hpp)
    have hat : ri_ok am T r a0 (pp_atom (some (pp_pat m))) (fun M => (gmo_joined (d + 2)).2.2.1 am (nI dp) M) := rm_atom (hb := 0) hok (d := d + 1) (by omega) hr (fun h => by cases h) (fun pat h => by
      injection h with h
      rw [← h]
      exact ⟨by omega, hin, hany⟩)
    have hun : ri_ok am T r a0 (pp_unit (pp_atom (some (pp_pat m)))) (fun M => (gmo_joined (d + 3)).2.2.2.2 am (nI dp) M) := rm_unit (d := d + 2) hok (by omega) hr hat hpa
    have hro : ri_ok am T r a0 (pp_join (pp_unit (pp_atom (some (pp_pat m)))) 2 44) (fun M => (gmo_joined (d + 4)).1 am 2 44 (nI dp) M) := rm_join (kd := 2) (sign := 44) (d := d + 3) hok (by omega) (by omega) hun (pm_unit hpa)
    have hch : ri_ok am T r a0 (pp_join (pp_join (pp_unit (pp_atom (some (pp_pat m)))) 2 44) 3 124) (fun M => (gmo_joined (d + 5)).1 am 3 124 (nI dp) M) := rm_join (kd := 3) (sign := 124) (d := d + 4) hok (by omega) (by omega) hro (pm_join (pm_unit hpa) (.inl rfl))
    intro q M h1 h2 h3
    obtain ⟨res, M', g1, g2⟩ := hch q M h1 h2 h3
    refine ⟨res, M', ?_, g2⟩
    show ((gmo_joined (d + 5)).1 am 3 124 (nI dp) M).bind _ = _
    have g1 : (gmo_joined (d + 5)).1 am 3 124 (nI dp) M = some (res, M') := g1
    rw [g1]
    rfl
end
