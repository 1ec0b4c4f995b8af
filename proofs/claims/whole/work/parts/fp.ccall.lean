/-! THE CLASS: calls that only look -/
theorem zin_c {n : Nat} (hn : n < 2 ^ 31) (x : Int32) : (zin x n = none ∧ (x < 0 ∨ (¬ x < 0 ∧ nI n ≤ x ∧ ¬ x < nI n))) ∨ ∃ k, k < n ∧ x = nI k ∧ zin x n = some k ∧ ¬ x < 0 ∧ ¬ nI n ≤ x ∧ x < nI n := by
  cases h : zin x n with
  | none =>
    refine .inl ⟨rfl, ?_⟩
    have q := zin_none h
    by_cases a : x < 0
    · exact .inl a
    · refine .inr ⟨a, ?_⟩
      rw [Int32.lt_iff_toInt_lt] at a
      rw [Int32.le_iff_toInt_le, Int32.lt_iff_toInt_lt] at q
      rw [Int32.le_iff_toInt_le, Int32.lt_iff_toInt_lt]
      have : (0 : Int32).toInt = 0 := rfl
      omega
  | some k =>
    obtain ⟨h1, h2⟩ := zin_some hn h
    refine .inr ⟨k, h1, h2, rfl, ?_⟩
    unfold zin at h
    by_cases q : 0 ≤ x ∧ x < nI n
    · rw [Int32.le_iff_toInt_le, Int32.lt_iff_toInt_lt] at q
      rw [Int32.le_iff_toInt_le, Int32.lt_iff_toInt_lt, Int32.lt_iff_toInt_lt]
      have : (0 : Int32).toInt = 0 := rfl
      omega
    · rw [if_neg q] at h
      cases h
theorem zin_w {n : Nat} (hn : n < 2 ^ 31) {w : Int32} (h : zin w n = none) {i : Nat} (hi : i < n) : ¬ w = nI i := fun e => by
  rw [e, zin_nI hn hi] at h
  cases h
theorem cr_bit_zb {d : Nat} (b : Bool) (M : zM) : cr_bit d (zb b) M = some (zb b, M) := by cases b <;> simp [cr_bit, cr_bit_9, zb]
section
variable {ac N0 S0 d : Nat} {M : zM} {S : yZ} {g : yG2}
theorem cl_ruleAt (hI : cI ac N0 S0 M S g) (x : Int32) : cr_ruleAt d ac x M = some ((zin x S.2.1.1).map (fun r => g.1.1 + 2 + 10 * r), M) := by
  obtain ⟨hg, ⟨⟨o0, o2, _⟩, o1⟩, hT, ⟨hS, hcp, hdm⟩, _⟩ := hI
  obtain ⟨hw, hn, h8, _⟩ := hS
  unfold cr_ruleAt
  rcases zin_c (show S.2.1.1 < 2 ^ 31 by omega) x with ⟨hz, h | ⟨h1, h2, h3⟩⟩ | ⟨k, hk, e, hz, h1, h2, h3⟩
  · rw [if_pos h, hz]; rfl
  · rw [if_neg h1, hz]
    simp only [o2, hn, if_pos h2]
    rfl
  · rw [if_neg h1, hz]
    have hzk : z_in x 8 := by rw [e]; exact nI_in (by omega) (by omega)
    simp only [o2, hn, if_neg h2, hw.1.1, hw.1.2, if_pos hzk]
    rw [e, nI_clamp (by omega), (hw.2.2.1 k (by omega)).1]
    rfl
theorem cl_read (hI : cI ac N0 S0 M S g) (hz : zz_ok S) (hd : 1 ≤ d) (w : Int32) : cr_read d ac w M = some (sp_read S w, M) := by
  obtain ⟨d, rfl⟩ : ∃ d', d = d' + 1 := ⟨d - 1, by omega⟩
  have eb : cr_read (d + 1) ac w M = cr_read_b d ac w M := rfl
  obtain ⟨hg, ⟨⟨o0, o2, o3, o4, o5, o6, o7, o8, o9, o10, o11, o12, o13⟩, o1⟩, hT, _, _, _, hdl, hL, hrd, _⟩ := hI
  rw [eb]
  unfold cr_read_b sp_read
  simp only [o12]
  cases hr : S.2.2.2 with
  | none =>
    rw [hr] at hrd
    simp only [hrd.1, if_true]
  | some x =>
    rw [hr] at hrd
    obtain ⟨v0, ⟨_, v1, v2, _, _⟩, ⟨v3, v4, v8, v10⟩, _⟩ := hrd
    have h8 := hz.2.1
    have hx := hz.2.2.2.2.2 x hr
    simp only [v0, v1, v2, v3, v4, if_neg (pb_ne1 (show x.1 < 2 ^ 31 by omega)), cr_bit_zb, Option.bind_some]
    by_cases q0 : w = 0
    · simp [q0]
    · by_cases q1 : w = 1
      · simp [q1]
      · by_cases q2 : w = 2
        · simp [q2]
        · by_cases q3 : w = 3
          · simp [q3]
          · by_cases q4 : w = 4
            · simp [q4]
            · simp [q0, q1, q2, q3, q4]
theorem cl_taken (hI : cI ac N0 S0 M S g) (hz : zz_ok S) (i w : Int32) : cr_taken d ac i w M = some (sp_tak S i w, M) := by
  obtain ⟨hg, ⟨⟨o0, o2, o3, o4, o5, o6, o7, o8, o9, o10, o11, o12, o13⟩, o1⟩, hT, _, _, _, hdl, hL, hrd, _⟩ := hI
  unfold cr_taken sp_tak
  simp only [o12]
  cases hr : S.2.2.2 with
  | none =>
    rw [hr] at hrd
    simp only [hrd.1, if_true, cr_taken_26]
  | some x =>
    rw [hr] at hrd
    obtain ⟨v0, ⟨vl, v1, v2, v5, v6⟩, _⟩ := hrd
    have h8 := hz.2.1
    have hx := hz.2.2.2.2.2 x hr
    simp only [v0, v2, if_neg (pb_ne1 (show x.1 < 2 ^ 31 by omega)), cr_taken_26, cr_taken_64]
    rcases zin_c (show x.2.2.1.length < 2 ^ 31 by omega) i with ⟨hzi, h | ⟨h1, h2, h3⟩⟩ | ⟨k, hk, e, hzi, h1, h2, h3⟩
    · rw [if_pos h, hzi]
    · rw [if_neg h1, if_neg h3, hzi]
    · have hg : x.2.2.1[k]? = some x.2.2.1[k] := by simp
      have hgv := v6 _ _ hg
      have hzk : z_in i 24 := by rw [e]; exact nI_in (by omega) (by omega)
      rw [if_neg h1, if_pos h3, hzi]
      simp only [vl.2.1.1, vl.2.1.2, vl.2.2.1.1, vl.2.2.1.2, if_pos hzk, hg]
      rw [e, nI_clamp (by omega), hgv.1, hgv.2]
      rcases zin_c (show 2 < 2 ^ 31 by omega) w with ⟨hzw, _⟩ | ⟨j, hj, ew, hzw, _⟩
      · have q0 : ¬ w = 0 := zin_w (by omega) hzw (i := 0) (by omega)
        have q1 : ¬ w = 1 := zin_w (by omega) hzw (i := 1) (by omega)
        rw [if_neg q0, if_neg q1, hzw]
      · rw [hzw]
        rcases (by omega : j = 0 ∨ j = 1) with q | q
        · subst q
          rw [ew]
          simp [pb_n0]
        · subst q
          rw [ew]
          simp [pb_n1]
theorem cl_times (hI : cI ac N0 S0 M S g) (hz : zz_ok S) (c : Int32) : cr_times d ac c M = some (sp_tim S c, M) := by
  obtain ⟨hg, ⟨⟨o0, o2, o3, o4, o5, o6, o7, o8, o9, o10, o11, o12, o13⟩, o1⟩, hT, _, _, _, hdl, hL, hrd, _⟩ := hI
  unfold cr_times sp_tim
  simp only [o12]
  cases hr : S.2.2.2 with
  | none =>
    rw [hr] at hrd
    simp only [hrd.1, if_true, cr_times_26]
  | some x =>
    rw [hr] at hrd
    obtain ⟨v0, ⟨vl, _⟩, ⟨v3, v4, v8, v10⟩, v11, v12, _⟩ := hrd
    have h8 := hz.2.1
    have hx := hz.2.2.2.2.2 x hr
    simp only [v0, v8, if_neg (pb_ne1 (show x.1 < 2 ^ 31 by omega)), cr_times_26]
    rcases zin_c (show x.2.2.2.2.2.1 < 2 ^ 31 by omega) c with ⟨hzi, h | ⟨h1, h2, h3⟩⟩ | ⟨k, hk, e, hzi, h1, h2, h3⟩
    · rw [if_pos h, hzi]
    · rw [if_neg h1, if_neg h3, hzi]
    · have hzk : z_in c 8 := by rw [e]; exact nI_in (by omega) (by omega)
      rw [if_neg h1, if_pos h3, hzi]
      simp only [vl.2.2.2.1.1, vl.2.2.2.1.2, if_pos hzk]
      rw [e, nI_clamp (by omega), v11 k hk]
theorem cl_parts (hI : cI ac N0 S0 M S g) (hz : zz_ok S) (c : Int32) : cr_parts d ac c M = some (sp_par S c, M) := by
  obtain ⟨hg, ⟨⟨o0, o2, o3, o4, o5, o6, o7, o8, o9, o10, o11, o12, o13⟩, o1⟩, hT, _, _, _, hdl, hL, hrd, _⟩ := hI
  unfold cr_parts sp_par
  simp only [o12]
  cases hr : S.2.2.2 with
  | none =>
    rw [hr] at hrd
    simp only [hrd.1, if_true, cr_parts_26]
  | some x =>
    rw [hr] at hrd
    obtain ⟨v0, ⟨vl, _⟩, ⟨v3, v4, v8, v10⟩, v11, v12, _⟩ := hrd
    have h8 := hz.2.1
    have hx := hz.2.2.2.2.2 x hr
    simp only [v0, v10, if_neg (pb_ne1 (show x.1 < 2 ^ 31 by omega)), cr_parts_26]
    rcases zin_c (show x.2.2.2.2.2.2.1 < 2 ^ 31 by omega) c with ⟨hzi, h | ⟨h1, h2, h3⟩⟩ | ⟨k, hk, e, hzi, h1, h2, h3⟩
    · rw [if_pos h, hzi]
    · rw [if_neg h1, if_neg h3, hzi]
    · have hzk : z_in c 4 := by rw [e]; exact nI_in (by omega) (by omega)
      rw [if_neg h1, if_pos h3, hzi]
      simp only [vl.2.2.2.2.1.1, vl.2.2.2.2.1.2, if_pos hzk]
      rw [e, nI_clamp (by omega), v12 k hk]
theorem cl_thing (hI : cI ac N0 S0 M S g) (hz : zz_ok S) (t w : Int32) : cr_thing d ac t w M = some (sp_thg S t w, M) := by
  obtain ⟨hg, ⟨⟨o0, o2, o3, o4, o5, o6, o7, o8, o9, o10, o11, o12, o13⟩, o1⟩, hT, _, _, ⟨hdx, hdh, hdy⟩, _⟩ := hI
  have h60 : S.2.2.1.length ≤ 60 := hz.2.2.2.2.1.1
  unfold cr_thing sp_thg
  simp only [o4, hdx.2.1, cr_thing_15]
  rcases zin_c (show S.2.2.1.length < 2 ^ 31 by omega) t with ⟨hzi, h | ⟨h1, h2, h3⟩⟩ | ⟨k, hk, e, hzi, h1, h2, h3⟩
  · rw [if_pos h, hzi]
  · rw [if_neg h1, if_neg h3, hzi]
  · have hg : S.2.2.1[k]? = some S.2.2.1[k] := by simp
    obtain ⟨a1, a2, a3, a4⟩ := hdx.2.2 _ _ hg
    obtain ⟨b1, b2, b3, b4⟩ := hdh _ _ hg
    have hzk : z_in t 60 := by rw [e]; exact nI_in (by omega) (by omega)
    have l1 := hdx.1.1 1 (by omega) (by omega)
    have l2 := hdx.1.1 2 (by omega) (by omega)
    have l3 := hdx.1.1 3 (by omega) (by omega)
    have l4 := hdx.1.1 4 (by omega) (by omega)
    have l5 := hdx.1.1 5 (by omega) (by omega)
    have l6 := hdx.1.1 6 (by omega) (by omega)
    have l7 := hdx.1.1 7 (by omega) (by omega)
    have l8 := hdx.1.1 8 (by omega) (by omega)
    rw [if_neg h1, if_pos h3, hzi]
    simp only [l1.1, l1.2, l2.1, l2.2, l3.1, l3.2, l4.1, l4.2, l5.1, l5.2, l6.1, l6.2, l7.1, l7.2, l8.1, l8.2, if_pos hzk, hg]
    rw [e, nI_clamp (by omega), a1, a2, a3, a4, b1, b2, b3, b4]
    rcases zin_c (show 8 < 2 ^ 31 by omega) w with ⟨hzw, _⟩ | ⟨j, hj, ew, hzw, _⟩
    · have q0 : ¬ w = 0 := zin_w (by omega) hzw (i := 0) (by omega)
      have q1 : ¬ w = 1 := zin_w (by omega) hzw (i := 1) (by omega)
      have q2 : ¬ w = 2 := zin_w (by omega) hzw (i := 2) (by omega)
      have q3 : ¬ w = 3 := zin_w (by omega) hzw (i := 3) (by omega)
      have q4 : ¬ w = 4 := zin_w (by omega) hzw (i := 4) (by omega)
      have q5 : ¬ w = 5 := zin_w (by omega) hzw (i := 5) (by omega)
      have q6 : ¬ w = 6 := zin_w (by omega) hzw (i := 6) (by omega)
      have q7 : ¬ w = 7 := zin_w (by omega) hzw (i := 7) (by omega)
      rw [if_neg q0, if_neg q1, if_neg q2, if_neg q3, if_neg q4, if_neg q5, if_neg q6, if_neg q7, hzw]
    · rw [hzw]
      rcases (by omega : j = 0 ∨ j = 1 ∨ j = 2 ∨ j = 3 ∨ j = 4 ∨ j = 5 ∨ j = 6 ∨ j = 7) with q | q | q | q | q | q | q | q <;> subst q <;> rw [ew] <;> simp [pb_n0, pb_n1, pb_n2, pb_n3, pb_n4, pb_n5, pb_n6, pb_n7]
theorem cl_wrong (hI : cI ac N0 S0 M S g) (hz : zz_ok S) (hd : 1 ≤ d) (i : Int32) : cr_wrong d ac i M = some (sp_wrg S i, M) := by
  obtain ⟨d, rfl⟩ : ∃ d', d = d' + 1 := ⟨d - 1, by omega⟩
  have eb : cr_wrong (d + 1) ac i M = cr_wrong_b d ac i M := rfl
  obtain ⟨hg, ⟨⟨o0, o2, o3, o4, o5, o6, o7, o8, o9, o10, o11, o12, o13⟩, o1⟩, hT, _, _, ⟨hdx, hdh, hdy⟩, _⟩ := hI
  have h60 : S.2.2.1.length ≤ 60 := hz.2.2.2.2.1.1
  rw [eb]
  unfold cr_wrong_b sp_wrg
  simp only [o4, hdx.2.1, cl_wrongThings (S := S) rfl rfl h60 hdx hdh, cl_wrongThing (S := S) rfl rfl h60 hdx hdh, Option.bind_some, cr_wrong_35]
  by_cases q : S.2.2.1.length = 0
  · rw [if_pos q, if_pos (by rw [q]; rfl)]
  · rw [if_neg q, if_neg (show ¬ nI S.2.2.1.length = 0 from fun y => q ((nI_eq (b := 0) (by omega) (by omega)).mp y))]
    by_cases q2 : i = -1
    · rw [if_pos q2, if_pos q2]
    · rw [if_neg q2, if_neg q2]
      cases zin i (py_wgs S).length with
      | none => rfl
      | some k =>
        dsimp only
        cases (py_wgs S)[k]? <;> rfl
end
