/-! THE RULES' text: the model reads some of a kind with a sign between -/
def ri_ok (am : Nat) (T : List Nat) (r a0 : Nat) (item : yIp) (run : zM → Option (Int32 × zM)) : Prop := ∀ (q : yQp) (M : zM), rs_x am M T r q → pw_x a0 q.2.2 → q.2.2.1 + q.1.length ≤ 400 → ∃ res M', run M = some (res, M') ∧ zf (rw_r am r) M M' ∧ ((∃ e, item q = .error e ∧ zm_I M' 12 am 4 = nI e ∧ e ≤ 400) ∨ (∃ x, item q = .ok x ∧ res = nI x.1 ∧ rs_x am M' T r x.2))
/-- the node that is filled -/
def lw_n (q : yQp) (n : Nat) : Prop := n < q.2.2.1 ∧ (q.2.2.2.1 n).2.2.2.1.Nodup ∧ (q.2.2.2.1 n).2.2.2.1.length + q.1.length ≤ 400 ∧ (q.2.2.2.1 n).2.2.2.2 ≤ 2 ∧ (∀ c, c ∈ (q.2.2.2.1 n).2.2.2.1 → c < q.2.2.1)
/-- what the put of a piece that was read asks for -/
theorem lw_put {a0 hb n : Nat} {q : yQp} {G G' : yG} {y : Nat × yQp} (h : lw_n q n) (hp : po_x a0 hb q G y G') : lw_n (y.2.1, y.2.2.1, pb_put y.2.2.2 n y.1) n ∧ n < y.2.2.2.1 ∧ y.1 < y.2.2.2.1 ∧ n ≠ y.1 ∧ (y.2.2.2.2.1 y.1).2.2.1 = none ∧ (y.2.2.2.2.1 n).2.2.2.1.Nodup ∧ (y.2.2.2.2.1 n).2.2.2.1.length ≤ 400 ∧ (y.2.2.2.2.1 n).2.2.2.2 ≤ 100 ∧ (y.2.2.2.2.1 y.1).2.2.2.2 ≤ 100 := by
  obtain ⟨g1, g2, g3, g4, g5, g6, g7, g8, g9, g10⟩ := hp
  obtain ⟨l1, l2, l3, l4, l5⟩ := h
  have eX : y.2.2.2.2.1 n = q.2.2.2.1 n := (g1.1 n l1).1
  have dc := g3.1
  have ac := (g3.2.2 y.1 dc).2.2.2.2.2.1
  refine ⟨⟨?_, ?_, ?_, ?_, ?_⟩, by omega, dc.2, by omega, g3.2.1, by rw [eX]; exact l2, by rw [eX]; omega, by rw [eX]; omega, by omega⟩
  · show n < y.2.2.2.1
    omega
  · show ((py_put y.2.2.2.2.1 n y.1) n).2.2.2.1.Nodup
    rw [put_A]
    show ((y.2.2.2.2.1 n).2.2.2.1 ++ [y.1]).Nodup
    rw [eX, List.nodup_append]
    refine ⟨l2, by simp, ?_⟩
    intro a ha b hb e
    have : b = y.1 := by simpa using hb
    have := l5 a ha
    omega
  · show ((py_put y.2.2.2.2.1 n y.1) n).2.2.2.1.length + y.2.1.length ≤ 400
    rw [put_A]
    show ((y.2.2.2.2.1 n).2.2.2.1 ++ [y.1]).length + y.2.1.length ≤ 400
    rw [eX]
    simp
    omega
  · show ((py_put y.2.2.2.2.1 n y.1) n).2.2.2.2 ≤ 2
    rw [put_A]
    show max (y.2.2.2.2.1 n).2.2.2.2 (y.2.2.2.2.1 y.1).2.2.2.2 ≤ 2
    rw [eX]
    omega
  · intro c hc
    have hc : c ∈ ((py_put y.2.2.2.2.1 n y.1) n).2.2.2.1 := hc
    rw [put_A] at hc
    have hc : c ∈ (y.2.2.2.2.1 n).2.2.2.1 ++ [y.1] := hc
    rw [eX] at hc
    show c < y.2.2.2.1
    rcases List.mem_append.mp hc with hc | hc
    · have := l5 c hc
      omega
    · have : c = y.1 := by simpa using hc
      omega
theorem zLF_402 : 402 < zLF := by
  unfold zLF
  exact Nat.lt_of_sub_pos (Nat.pos_of_ne_zero (by decide))
section
variable {am d : Nat} {T : List Nat} {r : Nat}
theorem rs_400 {M : zM} {q : yQp} (hok : tp_ok T) (h : rs_x am M T r q) : q.2.1 ≤ 400 := rp_le hok h.2.2.1
theorem rs_sk400 {M : zM} {q : yQp} (hok : tp_ok T) (h : rs_x am M T r q) : (py_sk q.1 q.2.1).2 ≤ 400 := by
  obtain ⟨M', _, g2, _, _⟩ := rs_look (d := 1) hok h (Nat.le_refl _)
  exact rs_400 hok g2
/-- takes, in these words -/
theorem rs_takes {M : zM} {q : yQp} (hok : tp_ok T) (h : rs_x am M T r q) (hd : 2 ≤ d) {c : Nat} (hc : c < 256) : ∃ M', zf (mg am [3] []) M M' ∧ (((py_sk q.1 q.2.1).1.head? = some c ∧ mo_takes d am (nI c) M = some (1, M') ∧ rs_x am M' T r ((py_sk q.1 q.2.1).1.tail, (py_sk q.1 q.2.1).2 + 1, q.2.2)) ∨ (¬ (py_sk q.1 q.2.1).1.head? = some c ∧ mo_takes d am (nI c) M = some (0, M') ∧ rs_x am M' T r (pb_skip q))) := by
  obtain ⟨M', g1, g2⟩ := mr_takes2 (d := d) hok h.1 h.2.1 h.2.2.1 hd hc
  refine ⟨M', g1, ?_⟩
  by_cases e : (py_sk q.1 q.2.1).1.head? = some c
  · rcases g2 with ⟨y, k1, k2, k3⟩ | ⟨k1, k2, k3⟩
    · unfold pp_sgn at k1
      rw [if_pos e] at k1
      injection k1 with k1
      subst k1
      exact .inl ⟨e, k2, rs_at h g1 k3⟩
    · unfold pp_sgn at k1
      rw [if_pos e] at k1
      cases k1
  · rcases g2 with ⟨y, k1, k2, k3⟩ | ⟨k1, k2, k3⟩
    · unfold pp_sgn at k1
      rw [if_neg e] at k1
      cases k1
    · exact .inr ⟨e, k2, rs_at h g1 k3⟩
theorem rs_fine {M : zM} {q : yQp} (h : rs_x am M T r q) : mo_fine d am M = some (1, M) := mr_fine1 h.2.2.2.1
/-- the loop, one turn of it -/
theorem joined_57 (rj : Nat → Int32 → Int32 → Int32 → zM → Option (Int32 × zM)) (rp ra ry ru : Nat → Int32 → zM → Option (Int32 × zM)) (fuel : Nat) (v1 v2 v3 v5 : Int32) (M : zM) : mo_joined_57 rj rp ra ry ru d (fuel + 1) am v1 v2 v3 v5 M = ((mo_fine d am M).bind fun q1 => (if q1.1 = 0 then some (v5, q1.2) else ((mo_takes d am v2 q1.2).bind fun q4 => (if q4.1 = 0 then some (v5, q4.2) else ((if v1 = 3 then rj am 2 44 v3 q4.2 else ru am v3 q4.2).bind fun q8 => ((mo_fine d am q8.2).bind fun q7 => (if q7.1 = 0 then mo_joined_57 rj rp ra ry ru d fuel am v1 v2 v3 v5 q7.2 else ((mo_puts d am v5 q8.1 q7.2).bind fun q10 => mo_joined_57 rj rp ra ry ru d fuel am v1 v2 v3 v5 q10)))))))) := by
  rw [mo_joined_57]
  by_cases e : v1 = 3
  · simp only [e, if_true, mo_joined_113, mo_joined_93, mo_joined_110]
  · simp only [e, if_false, mo_joined_113, mo_joined_93, mo_joined_110]
theorem rm_more (hok : tp_ok T) (hd : 2 ≤ d) {rj : Nat → Int32 → Int32 → Int32 → zM → Option (Int32 × zM)} {rp ra ry ru : Nat → Int32 → zM → Option (Int32 × zM)} {v1 v3 : Int32} {item : yIp} {a0 hb sign n : Nat} (hs : sign < 256) (hi : ri_ok am T r a0 item (fun M => if v1 = 3 then rj am 2 44 v3 M else ru am v3 M)) (hp : pi_ok a0 hb item) : ∀ (fuel : Nat) (q : yQp) (M : zM) (f2 : Nat), q.1.length < fuel → q.1.length + 1 < f2 → rs_x am M T r q → pw_x a0 q.2.2 → ((py_sk q.1 q.2.1).1.head? = some sign → q.2.2.1 + (py_sk q.1 q.2.1).1.tail.length ≤ 400) → lw_n q n → ∃ res M', mo_joined_57 rj rp ra ry ru d f2 am v1 (nI sign) v3 (nI n) M = some (res, M') ∧ zf (rw_r am r) M M' ∧ ((∃ e, pp_more item sign n fuel q = .error e ∧ zm_I M' 12 am 4 = nI e ∧ e ≤ 400) ∨ (∃ x, pp_more item sign n fuel q = .ok x ∧ res = nI x.1 ∧ rs_x am M' T r x.2)) := by
  intro fuel
  induction fuel with
  | zero => intro q M f2 h; omega
  | succ fuel ih =>
    intro q M f2 hf hf2 hR hw H1 hl
    obtain ⟨f2, rfl⟩ : ∃ f, f2 = f + 1 := ⟨f2 - 1, by omega⟩
    have l0 := sk_len q.1 q.2.1
    rw [joined_57, rs_fine hR]
    simp only [Option.bind_some, if_neg (show ¬ (1 : Int32) = 0 by decide)]
    unfold pp_more
    obtain ⟨M1, z1, g⟩ := rs_takes (d := d) hok hR hd hs
    rcases g with ⟨c, t1, t2⟩ | ⟨c, t1, t2⟩
    · rw [if_pos c, t1]
      simp only [Option.bind_some, if_neg (show ¬ (1 : Int32) = 0 by decide)]
      have l1 := tail_lt c
      obtain ⟨res, M2, k1, k2, k3⟩ := hi _ M1 t2 hw (by have := H1 c; dsimp only; omega)
      have k1 : (if v1 = 3 then rj am 2 44 v3 M1 else ru am v3 M1) = some (res, M2) := k1
      rw [k1]
      simp only [Option.bind_some]
      have z2 : zf (rw_r am r) M M2 := zf_trans (rw_mg z1 (by simp) (by simp)) k2
      rcases k3 with ⟨e, m1, m2, m3⟩ | ⟨y, m1, m2, m3⟩
      · rw [m1, mr_fine0 m2 m3]
        simp only [Option.bind_some, if_true]
        obtain ⟨f3, rfl⟩ : ∃ f, f2 = f + 1 := ⟨f2 - 1, by omega⟩
        rw [joined_57, mr_fine0 m2 m3]
        simp only [Option.bind_some, if_true]
        exact ⟨_, _, rfl, z2, .inl ⟨e, rfl, m2, m3⟩⟩
      · rw [m1, rs_fine m3]
        simp only [Option.bind_some, if_neg (show ¬ (1 : Int32) = 0 by decide)]
        obtain ⟨G', hpo⟩ := hp ((py_sk q.1 q.2.1).1.tail, (py_sk q.1 q.2.1).2 + 1, q.2.2) (fun _ => (0, 0, 0)) hw (by have := H1 c; dsimp only; omega) y m1
        have hl1 : lw_n ((py_sk q.1 q.2.1).1.tail, (py_sk q.1 q.2.1).2 + 1, q.2.2) n := by
          obtain ⟨a1, a2, a3, a4, a5⟩ := hl
          refine ⟨a1, a2, ?_, a4, a5⟩
          show (q.2.2.2.1 n).2.2.2.1.length + (py_sk q.1 q.2.1).1.tail.length ≤ 400
          omega
        obtain ⟨p1, p2, p3, p4, p5, p6, p7, p8, p9⟩ := lw_put hl1 hpo
        have hN9 := hpo.2.2.2.2.2.2.2.2.1
        have hb8 := hpo.2.2.2.2.2.2.2.1
        have H1c := H1 c
        dsimp only at hN9 hb8
        obtain ⟨M3, s1, s2, s3⟩ := rs_put (d := d) m3 (by omega) p2 p3 p4 p5 p6 p7 ⟨p8, p9⟩
        rw [m2, s1]
        simp only [Option.bind_some]
        have l3 := sk_len y.2.1 y.2.2.1
        obtain ⟨res2, M4, w1, w2, w3⟩ := ih (y.2.1, y.2.2.1, pb_put y.2.2.2 n y.1) M3 f2 (by dsimp only; omega) (by dsimp only; omega) s2 (pw_put hpo.2.1 _ _)
          (fun h => by
            have := tail_lt h
            dsimp only at this ⊢
            show y.2.2.2.1 + _ ≤ 400
            omega) p1
        exact ⟨res2, M4, w1, zf_trans (zf_trans z2 (rw_mg s3 (by simp) (by simp))) w2, w3⟩
    · rw [if_neg c, t1]
      simp only [Option.bind_some, if_true]
      exact ⟨_, _, rfl, rw_mg z1 (by simp) (by simp), .inr ⟨_, rfl, rfl, t2⟩⟩
theorem joined_b (rj : Nat → Int32 → Int32 → Int32 → zM → Option (Int32 × zM)) (rp ra ry ru : Nat → Int32 → zM → Option (Int32 × zM)) (v1 v2 v3 : Int32) (M : zM) : mo_joined_b rj rp ra ry ru d am v1 v2 v3 M = ((if v1 = 3 then rj am 2 44 v3 M else ru am v3 M).bind fun q2 => ((mo_fine d am q2.2).bind fun q6 => (if q6.1 = 0 then some (q2.1, q6.2) else ((mo_look d am q6.2).bind fun q9 => (if q9.1 = v2 then ((mo_opens d am v1 0 q9.2).bind fun q12 => ((mo_puts d am q12.1 q2.1 q12.2).bind fun q20 => mo_joined_57 rj rp ra ry ru d zLF am v1 v2 v3 q12.1 q20)) else some (q2.1, q9.2)))))) := by
  unfold mo_joined_b
  by_cases e : v1 = 3
  · simp only [e, if_true, mo_joined_21, mo_joined_38]
  · simp only [e, if_false, mo_joined_21, mo_joined_38]
theorem rm_join (hok : tp_ok T) (hd : 2 ≤ d) {rj : Nat → Int32 → Int32 → Int32 → zM → Option (Int32 × zM)} {rp ra ry ru : Nat → Int32 → zM → Option (Int32 × zM)} {kd : Nat} {v3 : Int32} {item : yIp} {a0 hb sign : Nat} (hs : sign < 256) (hi : ri_ok am T r a0 item (fun M => if nI kd = 3 then rj am 2 44 v3 M else ru am v3 M)) (hp : pi_ok a0 hb item) : ri_ok am T r a0 (pp_join item kd sign) (fun M => mo_joined_b rj rp ra ry ru d am (nI kd) (nI sign) v3 M) := by
  intro q M hR hw hN
  show ∃ res M', mo_joined_b rj rp ra ry ru d am (nI kd) (nI sign) v3 M = some (res, M') ∧ _
  rw [joined_b]
  obtain ⟨res, M1, k1, k2, k3⟩ := hi q M hR hw hN
  have k1 : (if nI kd = 3 then rj am 2 44 v3 M else ru am v3 M) = some (res, M1) := k1
  rw [k1]
  simp only [Option.bind_some]
  unfold pp_join
  rcases k3 with ⟨e, m1, m2, m3⟩ | ⟨y, m1, m2, m3⟩
  · rw [m1, mr_fine0 m2 m3]
    simp only [Option.bind_some, if_true]
    exact ⟨_, _, rfl, k2, .inl ⟨e, rfl, m2, m3⟩⟩
  · rw [m1, rs_fine m3]
    simp only [Option.bind_some, if_neg (show ¬ (1 : Int32) = 0 by decide)]
    obtain ⟨G', hpo⟩ := hp _ (fun _ => (0, 0, 0)) hw hN y m1
    obtain ⟨M2, t1, t2, t3, t4⟩ := rs_look (d := d) hok m3 (by omega)
    rw [t1]
    simp only [Option.bind_some, ht_eq t4 hs]
    have z2 : zf (rw_r am r) M M2 := zf_trans k2 (rw_mg t3 (by simp) (by simp))
    by_cases c : (py_sk y.2.1 y.2.2.1).1.head? = some sign
    · rw [if_pos c, if_pos c]
      obtain ⟨g1, g2, g3, g4, g5, g6, g7, g8, g9, g10⟩ := hpo
      have dc := g3.1
      have l1 := tail_lt c
      have l2 := sk_len y.2.1 y.2.2.1
      have ac := (g3.2.2 y.1 dc).2.2.2.2.2.1
      obtain ⟨M3, s1, s2, s3⟩ := rs_open (d := d) t2 (by show y.2.2.2.1 < 1200; omega) kd 0
      have s1 : mo_opens d am (nI kd) 0 M2 = some (nI y.2.2.2.1, M3) := s1
      rw [s1]
      simp only [Option.bind_some]
      have eX : (pb_open y.2.2.2 kd 0).2.1 y.2.2.2.1 = (kd, 0, none, [], 0) := pu_s _ _ _
      have eXc : (pb_open y.2.2.2 kd 0).2.1 y.1 = y.2.2.2.2.1 y.1 := pu_o _ _ (by omega)
      obtain ⟨M4, w1, w2, w3⟩ := rs_put (d := d) s2 (A := y.2.2.2.1) (C := y.1) (by show y.2.2.2.1 + 1 ≤ 1200; omega) (by show y.2.2.2.1 < y.2.2.2.1 + 1; omega) (by show y.1 < y.2.2.2.1 + 1; omega) (by omega) (by show ((pb_open y.2.2.2 kd 0).2.1 y.1).2.2.1 = none; rw [eXc]; exact g3.2.1) (by show ((pb_open y.2.2.2 kd 0).2.1 y.2.2.2.1).2.2.2.1.Nodup; rw [eX]; simp) (by show ((pb_open y.2.2.2 kd 0).2.1 y.2.2.2.1).2.2.2.1.length ≤ 400; rw [eX]; simp) (by show ((pb_open y.2.2.2 kd 0).2.1 y.2.2.2.1).2.2.2.2 ≤ 100 ∧ ((pb_open y.2.2.2 kd 0).2.1 y.1).2.2.2.2 ≤ 100; rw [eX, eXc]; exact ⟨Nat.zero_le _, by omega⟩)
      rw [m2, w1]
      simp only [Option.bind_some]
      have XR : py_put (pb_open y.2.2.2 kd 0).2.1 y.2.2.2.1 y.1 y.2.2.2.1 = _ := put_A _ _ _
      rw [eX, eXc] at XR
      have hl : lw_n (y.2.1, y.2.2.1, pb_put (pb_open y.2.2.2 kd 0) y.2.2.2.1 y.1) y.2.2.2.1 := by
        refine ⟨Nat.lt_succ_self _, ?_, ?_, ?_, ?_⟩
        · show (py_put (pb_open y.2.2.2 kd 0).2.1 y.2.2.2.1 y.1 y.2.2.2.1).2.2.2.1.Nodup
          rw [XR]
          simp
        · show (py_put (pb_open y.2.2.2 kd 0).2.1 y.2.2.2.1 y.1 y.2.2.2.1).2.2.2.1.length + y.2.1.length ≤ 400
          rw [XR]
          simp
          omega
        · show (py_put (pb_open y.2.2.2 kd 0).2.1 y.2.2.2.1 y.1 y.2.2.2.1).2.2.2.2 ≤ 2
          rw [XR]
          show max 0 (y.2.2.2.2.1 y.1).2.2.2.2 ≤ 2
          omega
        · intro z hz
          have hz : z ∈ (py_put (pb_open y.2.2.2 kd 0).2.1 y.2.2.2.1 y.1 y.2.2.2.1).2.2.2.1 := hz
          rw [XR] at hz
          have : z = y.1 := by simpa using hz
          show z < y.2.2.2.1 + 1
          omega
      have w2 : rs_x am M4 T r (pb_skip (y.2.1, y.2.2.1, pb_put (pb_open y.2.2.2 kd 0) y.2.2.2.1 y.1)) := w2
      have hLF := zLF_402
      have skk := sk_sk y.2.1 y.2.2.1
      obtain ⟨res2, M5, v1, v2, v3⟩ := rm_more (v1 := nI kd) (rp := rp) (ra := ra) (ry := ry) hok hd hs hi hp (y.2.1.length + 1) (pb_skip (y.2.1, y.2.2.1, pb_put (pb_open y.2.2.2 kd 0) y.2.2.2.1 y.1)) M4 zLF (by show (py_sk y.2.1 y.2.2.1).1.length < _; omega) (by show (py_sk y.2.1 y.2.2.1).1.length + 1 < _; omega) w2 (pw_put (pw_new g2 _) _ _)
        (fun h => by
          show y.2.2.2.1 + 1 + (py_sk (py_sk y.2.1 y.2.2.1).1 (py_sk y.2.1 y.2.2.1).2).1.tail.length ≤ 400
          rw [skk]
          omega)
        (by
          obtain ⟨a1, a2, a3, a4, a5⟩ := hl
          refine ⟨a1, a2, ?_, a4, a5⟩
          have a3 : ((pb_put (pb_open y.2.2.2 kd 0) y.2.2.2.1 y.1).2.1 y.2.2.2.1).2.2.2.1.length + y.2.1.length ≤ 400 := a3
          show ((pb_put (pb_open y.2.2.2 kd 0) y.2.2.2.1 y.1).2.1 y.2.2.2.1).2.2.2.1.length + (py_sk y.2.1 y.2.2.1).1.length ≤ 400
          omega)
      have em : ∀ f, pp_more item sign y.2.2.2.1 (f + 1) (pb_skip (y.2.1, y.2.2.1, pb_put (pb_open y.2.2.2 kd 0) y.2.2.2.1 y.1)) = pp_more item sign y.2.2.2.1 (f + 1) (y.2.1, y.2.2.1, pb_put (pb_open y.2.2.2 kd 0) y.2.2.2.1 y.1) := by
        intro f
        unfold pp_more
        show (if (py_sk (py_sk y.2.1 y.2.2.1).1 (py_sk y.2.1 y.2.2.1).2).1.head? = some sign then _ else _) = _
        unfold pb_skip
        dsimp only
        rw [skk]
      rw [em] at v3
      refine ⟨res2, M5, v1, zf_trans (zf_trans (zf_trans z2 (rw_mg s3 (by simp) (by simp))) (rw_mg w3 (by simp) (by simp))) v2, v3⟩
    · rw [if_neg c, if_neg c]
      exact ⟨_, _, rfl, z2, .inr ⟨_, rfl, m2, t2⟩⟩
end
