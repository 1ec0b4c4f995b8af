/-! THE MODEL's face: shown, read, taken, times, parts, mended, unlike, thing, wrong -/
def sp_read (S : yZ) (w : Int32) : Int32 := match S.2.2.2 with
  | none => -1
  | some x => if w = 0 then nI x.1 else if w = 1 then nI x.2.1.length else if w = 2 then nI x.2.2.1.length else if w = 3 then x.2.2.2.1 else if w = 4 then zb x.2.2.2.2.1 else -1
def sp_tak (S : yZ) (i w : Int32) : Int32 := match S.2.2.2 with
  | none => -1000000
  | some x => match zin i x.2.2.1.length with
    | none => -1000000
    | some k => match zin w 2 with
      | none => -1000000
      | some j => match x.2.2.1[k]? with
        | none => -1000000
        | some p => if j = 0 then nI p.1 else zo p.2
def sp_tim (S : yZ) (c : Int32) : Int32 := match S.2.2.2 with
  | none => -1000000
  | some x => match zin c x.2.2.2.2.2.1 with
    | none => -1000000
    | some k => nI (x.2.2.2.2.2.2.2.2.1 k)
def sp_par (S : yZ) (c : Int32) : Int32 := match S.2.2.2 with
  | none => -1000000
  | some x => match zin c x.2.2.2.2.2.2.1 with
    | none => -1000000
    | some k => x.2.2.2.2.2.2.2.2.2 k
def sp_men (S : yZ) (w : Int32) : Int32 := match S.2.2.2 with
  | none => -1
  | some x => match zin w 3 with
    | none => -1
    | some k => if py_sure (S.2.1.2 x.1) then (match py_md (S.2.1.2 x.1) x.2.1 with
      | none => -1
      | some none => if k = 0 then 0 else -1
      | some (some c) => if k = 0 then nI c.1 else if k = 1 then nI c.2.1 else if c.1 = 1 then -1 else nI c.2.2) else -1
def py_ul (P Q : yP) : List Nat → Option (List Nat)
  | [] => none
  | n :: l => match py_df P Q n (some py_s00) (some py_s00) with
    | some w => some w
    | none => py_ul P Q l
def sp_unl (S : yZ) (x y k : Int32) : Int32 := match zin x S.2.1.1 with
  | none => -1
  | some r => match zin y S.2.1.1 with
    | none => -1
    | some o => if k < -1 then -1 else if py_sure (S.2.1.2 r) && py_sure (S.2.1.2 o) then (match py_ul (S.2.1.2 r) (S.2.1.2 o) (List.range' 0 5) with
      | none => -1
      | some w => if k = -1 then nI w.length else match zin k w.length with
        | none => -1
        | some i => match w[i]? with
          | none => -1
          | some l => nI l) else -1
def sp_thg (S : yZ) (t w : Int32) : Int32 := match zin t S.2.2.1.length with
  | none => -2
  | some i => match S.2.2.1[i]? with
    | none => -2
    | some x => match zin w 8 with
      | none => -2
      | some k => if k = 0 then nI x.1 else if k = 1 then nI x.2.2.1 else if k = 2 then zo x.2.1 else if k = 3 then nI x.2.2.2 else if k = 4 then nI (py_he S.2.1.1 S.2.1.2 S.2.2.1 i x.1).1 else if k = 5 then zo (py_he S.2.1.1 S.2.1.2 S.2.2.1 i x.1).2.1 else if k = 6 then (py_he S.2.1.1 S.2.1.2 S.2.2.1 i x.1).2.2.1 else zb (py_he S.2.1.1 S.2.1.2 S.2.2.1 i x.1).2.2.2
/-- whether the i-th thing is wrong -/
def py_wg2 (S : yZ) (i : Nat) : Bool := match S.2.2.1[i]? with
  | none => false
  | some x => (py_he S.2.1.1 S.2.1.2 S.2.2.1 i x.1).1 == 0
def py_wgs (S : yZ) : List Nat := (List.range' 0 S.2.2.1.length).filter (py_wg2 S)
def sp_wrg (S : yZ) (i : Int32) : Int32 := if S.2.2.1.length = 0 then -1 else if i = -1 then nI (py_wgs S).length else match zin i (py_wgs S).length with
  | none => -1
  | some k => match (py_wgs S)[k]? with
    | none => -1
    | some t => nI t
section
variable {am d : Nat} {M : zM} {S : yZ}
theorem mf_read (h : mI am M S) (w : Int32) : mf_r am M S (mo_read d am w M) (sp_read S w) := by
  obtain ⟨h0, hf0⟩ := mI_0 h 0
  have hv := h0.2.2.2.2.1
  unfold mo_read sp_read
  simp only [zlet]
  cases hr : S.2.2.2 with
  | none =>
    rw [hr] at hv
    have hv' : zm_I (zm_setI M 12 am 0 0) 12 am 40 = 0 := hv
    exact mf_mk0 h0 hf0 (by simp only [hv', if_true])
  | some x =>
    rw [hr] at hv
    obtain ⟨v0, v1, v2, v3, v4, v5, _⟩ := hv
    refine mf_mk0 h0 hf0 ?_
    simp only [v0, v1, v2, v3, v4, v5]
    rw [if_neg (by decide)]
    by_cases q0 : w = 0
    · simp [q0]
    · by_cases q1 : w = 1
      · simp [q1]
      · by_cases q2 : w = 2
        · simp [q2]
        · by_cases q3 : w = 3
          · simp [q3]
          · by_cases q4 : w = 4
            · cases x.2.2.2.2.1 <;> simp [q4, zb, mo_read_80]
            · simp [q0, q1, q2, q3, q4]
theorem mf_tak (h : mI am M S) (hz : zz_ok S) (hd : 1 ≤ d) (i w : Int32) : mf_r am M S (mo_taken d am i w M) (sp_tak S i w) := by
  obtain ⟨d, rfl⟩ : ∃ d', d = d' + 1 := ⟨d - 1, by omega⟩
  have eb : mo_taken (d + 1) am i w M = mo_taken_b d am i w M := rfl
  rw [eb]
  obtain ⟨h0, hf0⟩ := mI_0 h 0
  have hv := h0.2.2.2.2.1
  have hrd := hz.2.2.2.2.2
  unfold mo_taken_b sp_tak
  simp only [zlet]
  cases hr : S.2.2.2 with
  | none =>
    rw [hr] at hv
    have hv' : zm_I (zm_setI M 12 am 0 0) 12 am 40 = 0 := hv
    exact mf_mk0 h0 hf0 (by simp only [hv', if_true, mo_taken_38])
  | some x =>
    rw [hr] at hv
    have hx := hrd x hr
    obtain ⟨v0, v1, v2, v3, v4, v5, v6, v7, v8, v9, v10, v11⟩ := hv
    dsimp only
    simp only [v0, v3]
    rw [if_neg (by decide), mr_isInN (by omega)]
    simp only [Option.bind_some]
    cases hi : zin i x.2.2.1.length with
    | none => exact mf_mk0 h0 hf0 (by simp [zb, mo_taken_38])
    | some k =>
      obtain ⟨hk, rfl⟩ := zin_some (by omega) hi
      dsimp only
      simp only [Option.isSome_some, pb_zbt]
      rw [if_neg (by decide), one_64, mr_isInN (by omega)]
      simp only [Option.bind_some]
      cases hw : zin w 2 with
      | none => exact mf_mk0 h0 hf0 (by simp [zb, mo_taken_38])
      | some j =>
        obtain ⟨hj, rfl⟩ := zin_some (by omega) hw
        have hg : x.2.2.1[k]? = some x.2.2.1[k] := by simp
        have hgv := v9 _ _ hg
        have hzk : z_in (nI k) 24 := nI_in (by omega) (by omega)
        have hl := h0.1
        dsimp only
        rw [hg]
        simp only [Option.isSome_some, pb_zbt]
        rw [if_neg (by decide)]
        have hj2 : j = 0 ∨ j = 1 := by omega
        refine mf_mk0 h0 hf0 ?_
        rcases hj2 with q | q
        · subst q
          simp only [pb_n0, if_true, ml_R49 hl, ml_L49 hl, if_pos hzk, nI_clamp (show k < 2 ^ 31 by omega), hgv.1, mo_taken_61]
        · subst q
          simp only [pb_n1]
          rw [if_neg (by decide), if_neg (by decide)]
          simp only [ml_R50 hl, ml_L50 hl, if_pos hzk, nI_clamp (show k < 2 ^ 31 by omega), hgv.2, mo_taken_61]
theorem mf_tim (h : mI am M S) (hz : zz_ok S) (hd : 1 ≤ d) (c : Int32) : mf_r am M S (mo_times d am c M) (sp_tim S c) := by
  obtain ⟨d, rfl⟩ : ∃ d', d = d' + 1 := ⟨d - 1, by omega⟩
  have eb : mo_times (d + 1) am c M = mo_times_b d am c M := rfl
  rw [eb]
  obtain ⟨h0, hf0⟩ := mI_0 h 0
  have hv := h0.2.2.2.2.1
  have hrd := hz.2.2.2.2.2
  unfold mo_times_b sp_tim
  simp only [zlet]
  cases hr : S.2.2.2 with
  | none =>
    rw [hr] at hv
    have hv' : zm_I (zm_setI M 12 am 0 0) 12 am 40 = 0 := hv
    exact mf_mk0 h0 hf0 (by simp only [hv', if_true, mo_times_39, mo_times_42])
  | some x =>
    rw [hr] at hv
    have hx := hrd x hr
    obtain ⟨v0, v1, v2, v3, v4, v5, v6, v7, v8, v9, v10, v11⟩ := hv
    dsimp only
    simp only [v0, v6]
    rw [if_neg (by decide), mr_isInN (by omega)]
    simp only [Option.bind_some]
    cases hi : zin c x.2.2.2.2.2.1 with
    | none => exact mf_mk0 h0 hf0 (by simp [zb, mo_times_39, mo_times_42])
    | some k =>
      obtain ⟨hk, rfl⟩ := zin_some (by omega) hi
      dsimp only
      have e1 : 1 + nI k = nI (1 + k) := nI_add 1 k
      have hzk : z_in (nI (1 + k)) 13 := nI_in (by omega) (by omega)
      refine mf_mk0 h0 hf0 ?_
      simp only [Option.isSome_some, pb_zbt]
      rw [if_neg (by decide)]
      simp only [ml_R51 h0.1, ml_L51 h0.1, e1, if_pos hzk, nI_clamp (show 1 + k < 2 ^ 31 by omega), v10 k (by omega), mo_times_42]
theorem mf_par (h : mI am M S) (hz : zz_ok S) (hd : 1 ≤ d) (c : Int32) : mf_r am M S (mo_parts d am c M) (sp_par S c) := by
  obtain ⟨d, rfl⟩ : ∃ d', d = d' + 1 := ⟨d - 1, by omega⟩
  have eb : mo_parts (d + 1) am c M = mo_parts_b d am c M := rfl
  rw [eb]
  obtain ⟨h0, hf0⟩ := mI_0 h 0
  have hv := h0.2.2.2.2.1
  have hrd := hz.2.2.2.2.2
  unfold mo_parts_b sp_par
  simp only [zlet]
  cases hr : S.2.2.2 with
  | none =>
    rw [hr] at hv
    have hv' : zm_I (zm_setI M 12 am 0 0) 12 am 40 = 0 := hv
    exact mf_mk0 h0 hf0 (by simp only [hv', if_true, mo_parts_40, mo_parts_43])
  | some x =>
    rw [hr] at hv
    have hx := hrd x hr
    obtain ⟨v0, v1, v2, v3, v4, v5, v6, v7, v8, v9, v10, v11⟩ := hv
    dsimp only
    simp only [v0, v7]
    rw [if_neg (by decide), mr_isInN (by omega)]
    simp only [Option.bind_some]
    cases hi : zin c x.2.2.2.2.2.2.1 with
    | none => exact mf_mk0 h0 hf0 (by simp [zb, mo_parts_40, mo_parts_43])
    | some k =>
      obtain ⟨hk, rfl⟩ := zin_some (by omega) hi
      dsimp only
      have e1 : 9 + nI k = nI (9 + k) := nI_add 9 k
      have hzk : z_in (nI (9 + k)) 13 := nI_in (by omega) (by omega)
      refine mf_mk0 h0 hf0 ?_
      simp only [Option.isSome_some, pb_zbt]
      rw [if_neg (by decide)]
      simp only [ml_R51 h0.1, ml_L51 h0.1, e1, if_pos hzk, nI_clamp (show 9 + k < 2 ^ 31 by omega), v11 k (by omega), mo_parts_43]
theorem mf_men (h : mI am M S) (hz : zz_ok S) (hd : 200 ≤ d) (w : Int32) : mf_r am M S (mo_mended d am w M) (sp_men S w) := by
  obtain ⟨d, rfl⟩ : ∃ d', d = d' + 1 := ⟨d - 1, by omega⟩
  have eb : mo_mended (d + 1) am w M = mo_mended_b d am w M := rfl
  rw [eb]
  obtain ⟨h0, hf0⟩ := mI_0 h 0
  have hv := h0.2.2.2.2.1
  have hrd := hz.2.2.2.2.2
  unfold mo_mended_b sp_men
  simp only [zlet]
  cases hr : S.2.2.2 with
  | none =>
    rw [hr] at hv
    have hv' : zm_I (zm_setI M 12 am 0 0) 12 am 40 = 0 := hv
    exact mf_mk0 h0 hf0 (by simp only [hv', if_true, mo_mended_42])
  | some x =>
    rw [hr] at hv
    have hx := hrd x hr
    obtain ⟨v0, v1, v2, v3, v4, v5, v6, v7, v8, v9, v10, v11⟩ := hv
    have hp := mI_p h0 hx.1
    dsimp only
    simp only [v0]
    rw [if_neg (by decide), two_64, mr_isInN (by omega)]
    simp only [Option.bind_some]
    cases hw : zin w 3 with
    | none => exact mf_mk0 h0 hf0 (by simp [zb, mo_mended_42])
    | some k =>
      obtain ⟨hk, rfl⟩ := zin_some (by omega) hw
      dsimp only
      simp only [Option.isSome_some, pb_zbt]
      rw [if_neg (by decide), v1]
      obtain ⟨M1, e1, e2⟩ := mr_isSure (d := d) hp (by omega)
      rw [e1]
      simp only [Option.bind_some]
      cases hsu : py_sure (S.2.1.2 x.1)
      · exact mf_mkW h0 hf0 (by simp [zb, mo_mended_42]) e2
      · simp only [pb_zbt, if_true]
        rw [if_neg (by decide)]
        have hin : mx_in am M1 x.1 (S.2.1.2 x.1) x.2.1 := by
          refine ⟨mp_W hp e2, ?_, ?_, ma_mg v8 e2 (by simp), hx.2.1⟩
          · rw [mg_f e2 (by simp)]; exact v1
          · rw [mg_f e2 (by simp)]; exact v2
        obtain ⟨M2, f1, f2, f3, f4⟩ := mr_findsEdit (d := d) (by omega) hin
        have hf12 : zf (mg am [26, 35, 36, 53, 54, 55] [14, 15, 16, 17, 23, 25, 26, 31]) (zm_setI M 12 am 0 0) M2 := zf_trans (zf_mono e2 (mg_mono (by simp) (by simp))) f2
        have h31 : zm_I M2 12 am 31 = -1 := by
          rw [mg_f hf12 (by simp)]
          exact h0.2.2.2.2.2
        rw [f1]
        simp only [Option.bind_some]
        refine mf_mk h0 hf0 ?_ hf12 (by simp [mi_F]) (by simp [mi_A]) h31
        have hk3 : k = 0 ∨ k = 1 ∨ k = 2 := by omega
        cases hmd : py_md (S.2.1.2 x.1) x.2.1 with
        | none => simp [zb, mo_mended_42]
        | some o =>
          simp only [Option.isSome_some, pb_zbt]
          rw [if_neg (by decide)]
          cases o with
          | none =>
            obtain ⟨g1, g2, g3⟩ := f3 hmd
            rcases hk3 with q | q | q
            · subst q; simp [pb_n0, g1, mo_mended_71]
            · subst q; simp [pb_n1, g2, mo_mended_71]
            · subst q; simp [pb_n2, g3, mo_mended_71]
          | some c =>
            obtain ⟨g1, g2, g3⟩ := f4 c hmd
            rcases hk3 with q | q | q
            · subst q; simp [pb_n0, g1, mo_mended_71]
            · subst q; simp [pb_n1, g2, mo_mended_71]
            · subst q; simp [pb_n2, g3, mo_mended_71]
theorem mf_thg (h : mI am M S) (hz : zz_ok S) (hd : 200 ≤ d) (t w : Int32) : mf_r am M S (mo_thing d am t w M) (sp_thg S t w) := by
  have h60 := hz.2.2.2.2.1.1
  obtain ⟨d, rfl⟩ : ∃ d', d = d' + 1 := ⟨d - 1, by omega⟩
  have eb : mo_thing (d + 1) am t w M = mo_thing_b d am t w M := rfl
  rw [eb]
  obtain ⟨h0, hf0⟩ := mI_0 h 0
  unfold mo_thing_b sp_thg
  simp only [zlet]
  rw [mr_isThing h0 hz (by omega)]
  simp only [Option.bind_some]
  cases ht : zin t S.2.2.1.length with
  | none => exact mf_mk0 h0 hf0 (by simp [zb, mo_thing_25])
  | some i =>
    obtain ⟨hi, rfl⟩ := zin_some (by omega) ht
    have hg : S.2.2.1[i]? = some S.2.2.1[i] := by simp
    dsimp only
    rw [hg]
    dsimp only
    have hD := h0.2.2.2.1.2 i _ hg
    generalize S.2.2.1[i] = x at *
    simp only [Option.isSome_some, pb_zbt]
    rw [if_neg (by decide), seven_64, mr_isInN (by omega)]
    simp only [Option.bind_some]
    cases hw : zin w 8 with
    | none => exact mf_mk0 h0 hf0 (by simp [zb, mo_thing_25])
    | some k =>
      obtain ⟨hk, rfl⟩ := zin_some (by omega) hw
      dsimp only
      simp only [Option.isSome_some, pb_zbt]
      rw [if_neg (by decide)]
      have hl := h0.1
      have z0 : z_in (nI (4 * i)) 240 := nI_in (by omega) (by omega)
      have z1 : z_in (nI (4 * i + 1)) 240 := nI_in (by omega) (by omega)
      have z2 : z_in (nI (4 * i + 2)) 240 := nI_in (by omega) (by omega)
      have z3 : z_in (nI (4 * i + 3)) 240 := nI_in (by omega) (by omega)
      have e2 : nI (4 * i) + 2 = nI (4 * i + 2) := nI_add (4 * i) 2
      have e3 : nI (4 * i) + 3 = nI (4 * i + 3) := nI_add (4 * i) 3
      have hk8 : k = 0 ∨ k = 1 ∨ k = 2 ∨ k = 3 ∨ 4 ≤ k := by omega
      rcases hk8 with q | q | q | q | q
      · subst q
        refine mf_mk0 h0 hf0 ?_
        rw [if_neg (by decide), if_neg (by decide), if_neg (by decide)]
        simp only [mo_thing_59, ml_R18 hl, ml_L18 hl, mx_41, pb_n0, Int32.add_zero, if_pos z0, nI_clamp (show 4 * i < 2 ^ 31 by omega), hD.1, if_true]
      · subst q
        refine mf_mk0 h0 hf0 ?_
        rw [if_neg (by decide), if_pos (by decide)]
        simp only [mo_thing_59, ml_R18 hl, ml_L18 hl, mx_41, e2, if_pos z2, nI_clamp (show 4 * i + 2 < 2 ^ 31 by omega), hD.2.2.1]
        simp
      · subst q
        refine mf_mk0 h0 hf0 ?_
        rw [if_neg (by decide), if_neg (by decide), if_pos (by decide)]
        simp only [mo_thing_59, ml_R18 hl, ml_L18 hl, mx_41, nI_1, if_pos z1, nI_clamp (show 4 * i + 1 < 2 ^ 31 by omega), hD.2.1]
        simp
      · subst q
        refine mf_mk0 h0 hf0 ?_
        rw [if_neg (by decide), if_neg (by decide), if_neg (by decide)]
        simp only [mo_thing_59, ml_R18 hl, ml_L18 hl, mx_41, pb_n3, e3, if_pos z3, nI_clamp (show 4 * i + 3 < 2 ^ 31 by omega), hD.2.2.2]
        simp
      · obtain ⟨M1, f1, f2, f3⟩ := mr_held (d := d) h0.2.2.1 hz.2.2.2.1 hz.2.2.2.2.1 h0.2.2.2.1 (by omega) hg
        have hle : (4 : Int32) ≤ nI k := nI_le (a := 4) q (by omega)
        have h31 : zm_I M1 12 am 31 = -1 := by
          rw [mg_f f3 (by simp)]
          exact h0.2.2.2.2.2
        refine mf_mk h0 hf0 ?_ f3 (by simp [mi_F]) (by simp [mi_A]) h31
        rw [if_pos hle, f1]
        simp only [Option.bind_some]
        have hk4 : k = 4 ∨ k = 5 ∨ k = 6 ∨ k = 7 := by omega
        rcases hk4 with q | q | q | q
        · subst q; simp [pb_n4, mo_thing_114]
        · subst q; simp [pb_n5, mo_thing_114, f2.1]
        · subst q; simp [pb_n6, mo_thing_114, f2.2.1]
        · subst q
          rw [f2.2.2]
          cases (py_he S.2.1.1 S.2.1.2 S.2.2.1 i x.1).2.2.2 <;> simp [pb_n7, mo_thing_114, zb]
end
