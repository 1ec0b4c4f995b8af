/-! THE RULES' text: the model reads a unit -/
section
variable {am d : Nat} {T : List Nat} {r : Nat}
theorem rw_bnd {M M' : zM} {row : Nat} (hf : zf (mg am [3, 4] [7]) M M') (hc : ∀ j, j ≠ row → j ≠ row + 1 → zm_I M' 20 (am + 7) j = zm_I M 20 (am + 7) j) (hrow : 24 * r ≤ row ∧ row + 1 < 24 * r + 24) : zf (rw_r am r) M M' := by
  obtain ⟨a1, a2, a3, a4, a5, a6, a7⟩ := hf
  refine ⟨a1, a2, a3, a4, a5, a6, ?_⟩
  intro t k j w
  by_cases q : mg am [3, 4] [7] t k j
  · rcases q with ⟨q1, q2, q⟩ | ⟨q1, x, q2, q3⟩
    · refine absurd (.inl ⟨q1, q2, ?_⟩) w
      simp at q
      omega
    · have e : x = 7 := by simpa using q2
      subst e
      rcases q1 with q1 | q1
      · subst q1
        subst q3
        refine hc j (fun e => w ?_) (fun e => w ?_)
        · exact .inr (.inr ⟨rfl, .inr (.inr (.inl ⟨rfl, by omega, by omega⟩))⟩)
        · exact .inr (.inr ⟨rfl, .inr (.inr (.inl ⟨rfl, by omega, by omega⟩))⟩)
      · exact absurd (.inr (.inl ⟨q1, 7, by simp, q3⟩)) w
  · exact a7 t k j q
/-- behind the sign of a count: c the sign, f and t what stands in its table first -/
theorem rm_unit_48 (hok : tp_ok T) (hd : 3 ≤ d) {rj : Nat → Int32 → Int32 → Int32 → zM → Option (Int32 × zM)} {rp ra ry ru : Nat → Int32 → zM → Option (Int32 × zM)} {M : zM} {q : yQp} {n c : Nat} {b : List Nat} (hr : r < 8) (hR : rs_x am M T r (c :: b, q.2.1, q.2.2)) (hN : q.2.2.1 < 1000) (hn : n < q.2.2.1) (hup : (q.2.2.2.1 n).2.2.1 = none) (har2 : (q.2.2.2.1 n).2.2.2.2 ≤ 2) (hC8 : q.2.2.2.2.2.1.length ≤ 8) (hc : c = 63 ∨ c = 42 ∨ c = 43 ∨ c = 123) : ∃ res M', mo_unit_48 rj rp ra ry ru d am (nI n) (nI c) M = some (res, M') ∧ zf (rw_r am r) M M' ∧ ((∃ e, (if (q.2.2.2.1 n).2.2.2.2 = 2 ∨ q.2.2.2.2.2.1.length = 8 then Except.error q.2.1 else if c = 123 then (match pp_bnd b (q.2.1 + 1) with
      | .error e => .error e
      | .ok y => .ok (q.2.2.1, y.2.2.1, y.2.2.2, pb_cnt q.2.2 n y.1 y.2.1)) else .ok (q.2.2.1, b, q.2.1 + 1, pb_cnt q.2.2 n (if c = 43 then 1 else 0) (if c = 63 then some 1 else none)) : Except Nat (Nat × yQp)) = .error e ∧ zm_I M' 12 am 4 = nI e ∧ e ≤ 400) ∨ (∃ x, (if (q.2.2.2.1 n).2.2.2.2 = 2 ∨ q.2.2.2.2.2.1.length = 8 then Except.error q.2.1 else if c = 123 then (match pp_bnd b (q.2.1 + 1) with
      | .error e => .error e
      | .ok y => .ok (q.2.2.1, y.2.2.1, y.2.2.2, pb_cnt q.2.2 n y.1 y.2.1)) else .ok (q.2.2.1, b, q.2.1 + 1, pb_cnt q.2.2 n (if c = 43 then 1 else 0) (if c = 63 then some 1 else none)) : Except Nat (Nat × yQp)) = .ok x ∧ res = nI x.1 ∧ rs_x am M' T r x.2)) := by
  have h3 : zm_I M 12 am 3 = nI q.2.1 := hR.2.2.1.1
  have h4 : zm_I M 12 am 4 = -1 := hR.2.2.2.1
  have hp400 : q.2.1 ≤ 400 := rs_400 (q := (c :: b, q.2.1, q.2.2)) hok hR
  have e5 : 6 * nI n + 5 = nI (6 * n + 5) := mx_6 n 5
  have z5 : z_in (nI (6 * n + 5)) 7200 := nI_in (by omega) (by omega)
  have k5 : zm_I M 20 (am + 3) (6 * n + 5) = nI (q.2.2.2.1 n).2.2.2.2 := (hR.2.2.2.2.1.2 n hn).2.2.2.2.1
  have e2 : (nI (q.2.2.2.1 n).2.2.2.2 = 2) ↔ (q.2.2.2.1 n).2.2.2.2 = 2 := nI_eq (b := 2) (by omega) (by omega)
  have e8 : (nI q.2.2.2.2.2.1.length = 8) ↔ q.2.2.2.2.2.1.length = 8 := nI_eq (b := 8) (by omega) (by omega)
  have hmany : mo_many d am 3 M = some (nI q.2.2.2.2.2.1.length, M) := mr_many (w := 3) hR.1 hR.2.2.2.2.2.1 (by omega) hR.2.2.2.2.2.2.1.2.1
  have hfail : zf (rw_r am r) M (zm_setI M 12 am 4 (nI q.2.1)) := zf_set (.inl ⟨rfl, rfl, .inr (.inl rfl)⟩)
  unfold mo_unit_48
  simp only [ml_R6 hR.1, ml_L6 hR.1, e5, if_pos z5, nI_clamp (show 6 * n + 5 < 2 ^ 31 by omega), k5, e2, hmany, Option.bind_some, e8, mo_unit_73, mr_fails h4, h3]
  by_cases c2 : (q.2.2.2.1 n).2.2.2.2 = 2
  · rw [if_pos c2, if_pos (.inl c2)]
    exact ⟨_, _, rfl, hfail, .inl ⟨q.2.1, rfl, pm_same, hp400⟩⟩
  · rw [if_neg c2]
    by_cases c8 : q.2.2.2.2.2.1.length = 8
    · rw [if_pos c8, if_pos (.inr c8)]
      exact ⟨_, _, rfl, hfail, .inl ⟨q.2.1, rfl, pm_same, hp400⟩⟩
    · rw [if_neg c8, if_neg (fun h => by rcases h with h | h; exact c2 h; exact c8 h)]
      have hR1 : rs_x am (zm_setI M 12 am 3 (nI (q.2.1 + 1))) T r (b, q.2.1 + 1, q.2.2) := by
        refine rs_at (q := (c :: b, q.2.1, q.2.2)) hR (zf_set (.inl ⟨rfl, rfl, by simp⟩)) ⟨pm_same, ?_⟩
        obtain ⟨a, ha, hl⟩ := hR.2.2.1.2
        exact ⟨a ++ [c], by rw [ha]; simp, by simp [hl]⟩
      obtain ⟨M1, M2, M3, M9, s1, s2, s3, s4, s5, s6, s7, s8, s9⟩ := rsx_cnt (d := d) hR1 hr (by show q.2.2.1 < 1200; omega) (by show q.2.2.2.2.2.1.length < 8; omega) hn hup (by show (q.2.2.2.1 n).2.2.2.2 ≤ 1; omega) (if c = 43 then 1 else 0) (if c = 63 then some 1 else none)
      have s1 : mo_more d am 3 (zm_setI M 12 am 3 (nI (q.2.1 + 1))) = some (nI q.2.2.2.2.2.1.length, M1) := s1
      have s2 : mo_opens d am 5 (nI q.2.2.2.2.2.1.length) M1 = some (nI q.2.2.1, M2) := s2
      have s3 : mo_puts d am (nI q.2.2.1) (nI n) M2 = some M3 := s3
      have s4 : zm_I M3 20 (am + 3) (6 * q.2.2.1 + 5) = nI (q.2.2.2.1 n).2.2.2.2 := s4
      have z9 : zf (rw_r am r) M M9 := zf_trans (zf_set (.inl ⟨rfl, rfl, .inl rfl⟩)) s9
      have e6 : 6 * nI q.2.2.1 + 5 = nI (6 * q.2.2.1 + 5) := mx_6 _ 5
      have z6 : z_in (nI (6 * q.2.2.1 + 5)) 7200 := nI_in (by omega) (by omega)
      have i16 : zm_I (zm_setI M3 20 (am + 3) (6 * q.2.2.1 + 5) (nI ((q.2.2.2.1 n).2.2.2.2 + 1))) 12 am 16 = nI r := by rw [pm_ne (by omega)]; exact s5
      have er : 3 * (8 * nI r + nI q.2.2.2.2.2.1.length) = nI (3 * (8 * r + q.2.2.2.2.2.1.length)) := mx_3 _ _
      have er1 : nI (3 * (8 * r + q.2.2.2.2.2.1.length)) + 1 = nI (3 * (8 * r + q.2.2.2.2.2.1.length) + 1) := mx_3a _ _ 1
      have er2 : nI (3 * (8 * r + q.2.2.2.2.2.1.length)) + 2 = nI (3 * (8 * r + q.2.2.2.2.2.1.length) + 2) := mx_3a _ _ 2
      have zr0 : z_in (nI (3 * (8 * r + q.2.2.2.2.2.1.length))) 192 := nI_in (by omega) (by omega)
      have zr1 : z_in (nI (3 * (8 * r + q.2.2.2.2.2.1.length) + 1)) 192 := nI_in (by omega) (by omega)
      have zr2 : z_in (nI (3 * (8 * r + q.2.2.2.2.2.1.length) + 2)) 192 := nI_in (by omega) (by omega)
      have x43 : (nI c = 43) ↔ c = 43 := nI_eq (b := 43) (by omega) (by omega)
      have x63 : (nI c = 63) ↔ c = 63 := nI_eq (b := 63) (by omega) (by omega)
      have x123 : (nI c = 123) ↔ c = 123 := nI_eq (b := 123) (by omega) (by omega)
      have key : ∀ (f : Nat) (t : Option Nat) (s : Int32), (if c = 43 then 1 else 0) = f → (if c = 63 then some 1 else none) = t → s = nI f → mo_unit_163 rj rp ra ry ru d am (nI c) (nI q.2.2.1) (nI (3 * (8 * r + q.2.2.2.2.2.1.length))) (some (am + 7)) (nI (3 * (8 * r + q.2.2.2.2.2.1.length))) s (zm_setI M3 20 (am + 3) (6 * q.2.2.1 + 5) (nI ((q.2.2.2.1 n).2.2.2.2 + 1))) = (if c = 123 then (mo_bounds d am (nI (3 * (8 * r + q.2.2.2.2.2.1.length))) M9).bind fun q12 => some (nI q.2.2.1, q12) else some (nI q.2.2.1, M9)) := by
        intro f t s hf ht hs
        rw [hf, ht] at s7
        unfold mo_unit_163
        rw [s7, hs]
        by_cases c63 : c = 63
        · rw [if_pos c63] at ht
          subst ht
          simp only [ml_R10 s6, ml_L10 s6, pm_RI, pm_LI, if_pos zr0, nI_clamp (show 3 * (8 * r + q.2.2.2.2.2.1.length) < 2 ^ 31 by omega), zlet, x63, if_pos c63, mo_unit_183, er1, er2, if_pos zr1, if_pos zr2, nI_clamp (show 3 * (8 * r + q.2.2.2.2.2.1.length) + 1 < 2 ^ 31 by omega), nI_clamp (show 3 * (8 * r + q.2.2.2.2.2.1.length) + 2 < 2 ^ 31 by omega), x123, mo_unit_207]
          rfl
        · rw [if_neg c63] at ht
          subst ht
          simp only [ml_R10 s6, ml_L10 s6, pm_RI, pm_LI, if_pos zr0, nI_clamp (show 3 * (8 * r + q.2.2.2.2.2.1.length) < 2 ^ 31 by omega), zlet, x63, if_neg c63, mo_unit_183, er1, er2, if_pos zr1, if_pos zr2, nI_clamp (show 3 * (8 * r + q.2.2.2.2.2.1.length) + 1 < 2 ^ 31 by omega), nI_clamp (show 3 * (8 * r + q.2.2.2.2.2.1.length) + 2 < 2 ^ 31 by omega), x123, mo_unit_207]
          rfl
      have hpre : (if nI c = 43 then mo_unit_163 rj rp ra ry ru d am (nI c) (nI q.2.2.1) (nI (3 * (8 * r + q.2.2.2.2.2.1.length))) (some (am + 7)) (nI (3 * (8 * r + q.2.2.2.2.2.1.length))) 1 (zm_setI M3 20 (am + 3) (6 * q.2.2.1 + 5) (nI ((q.2.2.2.1 n).2.2.2.2 + 1))) else mo_unit_163 rj rp ra ry ru d am (nI c) (nI q.2.2.1) (nI (3 * (8 * r + q.2.2.2.2.2.1.length))) (some (am + 7)) (nI (3 * (8 * r + q.2.2.2.2.2.1.length))) 0 (zm_setI M3 20 (am + 3) (6 * q.2.2.1 + 5) (nI ((q.2.2.2.1 n).2.2.2.2 + 1)))) = (if c = 123 then (mo_bounds d am (nI (3 * (8 * r + q.2.2.2.2.2.1.length))) M9).bind fun q12 => some (nI q.2.2.1, q12) else some (nI q.2.2.1, M9)) := by
        by_cases c43 : c = 43
        · rw [if_pos (x43.mpr c43)]
          exact key 1 _ 1 (if_pos c43) rfl rfl
        · rw [if_neg (fun h => c43 (x43.mp h))]
          exact key 0 _ 0 (if_neg c43) rfl rfl
      simp only [zlet, nI_1, s1, Option.bind_some, s2, s3, ml_R6 s6, ml_L6 s6, e6, if_pos z6, nI_clamp (show 6 * q.2.2.1 + 5 < 2 ^ 31 by omega), s4, i16, er, pm_RI, ml_R10 s6, hpre]
      by_cases c123 : c = 123
      · rw [if_pos c123, if_pos c123]
        obtain ⟨M', w1, w2, w3, w4⟩ := mr_bounds (d := d) (row := 3 * (8 * r + q.2.2.2.2.2.1.length)) hok s8.1 s8.2.1 s8.2.2.1 s8.2.2.2.1 hd (by omega)
        rw [w1]
        simp only [Option.bind_some]
        have z10 : zf (rw_r am r) M M' := zf_trans z9 (rw_bnd w2 w3 (by omega))
        refine ⟨_, _, rfl, z10, ?_⟩
        rcases w4 with ⟨e, v1, v2, v3⟩ | ⟨x, v1, v2, v3, v4, v5, v6, v7⟩
        · have v1 : pp_bnd b (q.2.1 + 1) = .error e := v1
          rw [v1]
          exact .inl ⟨e, rfl, v2, v3⟩
        · have v1 : pp_bnd b (q.2.1 + 1) = .ok x := v1
          rw [v1]
          refine .inr ⟨_, rfl, rfl, ?_⟩
          exact rs_bnd (q0 := (b, q.2.1 + 1, q.2.2)) s8 w2 w3 v2 v3 v4 v5
      · rw [if_neg c123, if_neg c123]
        exact ⟨_, _, rfl, z9, .inr ⟨_, rfl, rfl, s8⟩⟩
theorem rm_unit (hok : tp_ok T) (hd : 3 ≤ d) {rj : Nat → Int32 → Int32 → Int32 → zM → Option (Int32 × zM)} {rp ra ry ru : Nat → Int32 → zM → Option (Int32 × zM)} {v1 : Int32} {atom : yIp} {a0 hb : Nat} (hr : r < 8) (hi : ri_ok am T r a0 atom (fun M => ra am v1 M)) (hp : pi_ok a0 hb atom) : ri_ok am T r a0 (pp_unit atom) (fun M => mo_unit_b rj rp ra ry ru d am v1 M) := by
  intro q M hR hw hN
  show ∃ res M', mo_unit_b rj rp ra ry ru d am v1 M = some (res, M') ∧ _
  unfold mo_unit_b
  obtain ⟨res, M1, k1, k2, k3⟩ := hi q M hR hw hN
  have k1 : ra am v1 M = some (res, M1) := k1
  rw [k1]
  simp only [Option.bind_some]
  unfold pp_unit
  rcases k3 with ⟨e, m1, m2, m3⟩ | ⟨y, m1, m2, m3⟩
  · rw [m1, mr_fine0 m2 m3]
    simp only [Option.bind_some, if_true, mo_unit_21, if_neg (show ¬ (-1 : Int32) = 63 by decide), if_neg (show ¬ (-1 : Int32) = 42 by decide), if_neg (show ¬ (-1 : Int32) = 43 by decide), if_neg (show ¬ (-1 : Int32) = 123 by decide)]
    exact ⟨_, _, rfl, k2, .inl ⟨e, rfl, m2, m3⟩⟩
  · rw [m1, rs_fine m3]
    simp only [Option.bind_some, if_neg (show ¬ (1 : Int32) = 0 by decide)]
    obtain ⟨G', hpo⟩ := hp _ (fun _ => (0, 0, 0)) hw hN y m1
    obtain ⟨g1, g2, g3, g4, g5, g6, g7, g8, g9, g10⟩ := hpo
    have dc := g3.1
    have ac := (g3.2.2 y.1 dc).2.2.2.2.2.1
    have hC8 : y.2.2.2.2.2.2.1.length ≤ 8 := g2.2.2.1
    obtain ⟨M2, t1, t2, t3, t4⟩ := rs_look (d := d) hok m3 (by omega)
    rw [t1]
    simp only [Option.bind_some]
    have z2 : zf (rw_r am r) M M2 := zf_trans k2 (rw_mg t3 (by simp) (by simp))
    cases e2 : (py_sk y.2.1 y.2.2.1).1 with
    | nil =>
      simp only [py_ht, mo_unit_21, if_neg (show ¬ (-1 : Int32) = 63 by decide), if_neg (show ¬ (-1 : Int32) = 42 by decide), if_neg (show ¬ (-1 : Int32) = 43 by decide), if_neg (show ¬ (-1 : Int32) = 123 by decide)]
      exact ⟨_, _, rfl, z2, .inr ⟨_, rfl, m2, t2⟩⟩
    | cons c b =>
      have hc : c < 256 := t4 c (by rw [e2]; simp)
      have t2' : rs_x am M2 T r (c :: b, (py_sk y.2.1 y.2.2.1).2, y.2.2.2) := by
        have : pb_skip y.2 = (c :: b, (py_sk y.2.1 y.2.2.1).2, y.2.2.2) := by
          unfold pb_skip
          rw [e2]
        rw [← this]
        exact t2
      have x63 : (nI c = 63) ↔ c = 63 := nI_eq (b := 63) (by omega) (by omega)
      have x42 : (nI c = 42) ↔ c = 42 := nI_eq (b := 42) (by omega) (by omega)
      have x43 : (nI c = 43) ↔ c = 43 := nI_eq (b := 43) (by omega) (by omega)
      have x123 : (nI c = 123) ↔ c = 123 := nI_eq (b := 123) (by omega) (by omega)
      simp only [py_ht, mo_unit_21, x63, x42, x43, x123, m2]
      by_cases c1 : c = 63 ∨ c = 42 ∨ c = 43 ∨ c = 123
      · rw [if_pos c1]
        have hgo : (if c = 63 then mo_unit_48 rj rp ra ry ru d am (nI y.1) (nI c) M2 else (if c = 42 then mo_unit_48 rj rp ra ry ru d am (nI y.1) (nI c) M2 else (if c = 43 then mo_unit_48 rj rp ra ry ru d am (nI y.1) (nI c) M2 else (if c = 123 then mo_unit_48 rj rp ra ry ru d am (nI y.1) (nI c) M2 else some (nI y.1, M2))))) = mo_unit_48 rj rp ra ry ru d am (nI y.1) (nI c) M2 := by
          rcases c1 with h | h | h | h <;> subst h <;> simp
        rw [hgo]
        obtain ⟨res2, M3, w1, w2, w3⟩ := rm_unit_48 (rj := rj) (rp := rp) (ra := ra) (ry := ry) (ru := ru) (q := (c :: b, (py_sk y.2.1 y.2.2.1).2, y.2.2.2)) (n := y.1) hok hd hr t2' (by show y.2.2.2.1 < 1000; omega) dc.2 g3.2.1 ac hC8 c1
        exact ⟨res2, M3, w1, zf_trans z2 w2, w3⟩
      · rw [if_neg c1]
        have hgo : (if c = 63 then mo_unit_48 rj rp ra ry ru d am (nI y.1) (nI c) M2 else (if c = 42 then mo_unit_48 rj rp ra ry ru d am (nI y.1) (nI c) M2 else (if c = 43 then mo_unit_48 rj rp ra ry ru d am (nI y.1) (nI c) M2 else (if c = 123 then mo_unit_48 rj rp ra ry ru d am (nI y.1) (nI c) M2 else some (nI y.1, M2))))) = some (nI y.1, M2) := by
          rw [if_neg (fun h => c1 (.inl h)), if_neg (fun h => c1 (.inr (.inl h))), if_neg (fun h => c1 (.inr (.inr (.inl h)))), if_neg (fun h => c1 (.inr (.inr (.inr h))))]
        rw [hgo]
        exact ⟨_, _, rfl, z2, .inr ⟨_, rfl, rfl, t2⟩⟩
end
