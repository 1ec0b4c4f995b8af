/-! THE MODEL's face: message, the whole -/
theorem or_len (cl : Int32) (en : Bool) : ∀ (m v : Nat) (f : Bool), v + m = 27 → (py_or cl en (List.range' v m) f).length ≤ 5 * m + 2 := by
  intro m
  induction m with
  | zero => intro v f _; simp [py_or]
  | succ m ih =>
    intro v f hv
    rw [List.range'_succ]
    unfold py_or
    have h1 := ih (v + 1) f (by omega)
    have h2 := ih (v + 1) true (by omega)
    cases hu : py_it cl en v with
    | none => dsimp only; omega
    | some u =>
      have hf : (if f = true then ([32, 111, 114, 32] : List Int32) else []).length ≤ 4 := by cases f <;> simp
      dsimp only
      rw [List.length_append, List.length_append]
      unfold py_it at hu
      by_cases c : v < 26
      · rw [if_pos c] at hu
        by_cases c2 : zbt cl v = true
        · rw [if_pos c2] at hu
          injection hu with hu
          rw [← hu, List.length_cons, List.length_nil]
          omega
        · rw [if_neg c2] at hu
          cases hu
      · rw [if_neg c] at hu
        have hm : m = 0 := by omega
        subst hm
        by_cases c2 : en = true
        · rw [if_pos c2] at hu
          injection hu with hu
          rw [← hu]
          have : (py_or cl en (List.range' (v + 1) 0) true).length = 0 := by simp [py_or]
          rw [this]
          simp only [List.length_cons, List.length_nil]
          omega
        · rw [if_neg c2] at hu
          cases hu
theorem fo_len (D : List yT) (t pl : Nat) : (py_fo D t pl).length ≤ 3 := by
  unfold py_fo
  cases (py_kl D t)[pl]? <;> simp
theorem nu2_len (pl : Nat) : (py_nu2 pl).length ≤ 2 := by
  unfold py_nu2
  by_cases c : pl ≤ 9 <;> simp [c]
theorem msg_len (D : List yT) (t pl : Nat) (cl : Int32) (en : Bool) : (py_msg D t pl cl en).length ≤ 300 := by
  have h1 := path_len D 60 t
  have h2 := or_len cl en 27 0 false (by omega)
  have h3 := fo_len D t pl
  have h4 := nu2_len pl
  unfold py_msg
  simp only [List.length_append, List.length_cons, List.length_nil]
  omega
theorem he_0 {R : Nat} {Ps : Nat → yP} {D : List yT} {t : Nat} {x : yT} (hD : do_ok D) (hx : D[t]? = some x) (h : (py_he R Ps D t x.1).1 = 0) : ∃ pl, (py_he R Ps D t x.1).2.1 = some pl ∧ pl ≤ 24 := by
  have hd := hD.2 t x hx
  unfold py_he at h ⊢
  cases hr : py_ro R Ps x.1 with
  | none =>
    rw [hr] at h
    dsimp only at h ⊢
    by_cases c : (py_kl D t).length = 0
    · rw [if_pos c] at h
      cases h
    · rw [if_neg c]
      exact ⟨0, rfl, by omega⟩
  | some r =>
    rw [hr] at h
    dsimp only at h ⊢
    by_cases c : py_sure (Ps r) = true
    · rw [if_pos c] at h ⊢
      by_cases c2 : (py_rn (Ps r) (py_kl D t) py_s00).1.length = (py_kl D t).length ∧ py_ce (Ps r) (py_rn (Ps r) (py_kl D t) py_s00).2 = true
      · rw [if_pos c2] at h
        cases h
      · rw [if_neg c2]
        have := rn_len (P := Ps r) (py_kl D t) py_s00
        exact ⟨_, rfl, by omega⟩
    · rw [if_neg c] at h
      cases h
def sp_mes (S : yZ) (t k : Int32) : Int32 := match zin t S.2.2.1.length with
  | none => -1
  | some i => match S.2.2.1[i]? with
    | none => -1
    | some x => if (py_he S.2.1.1 S.2.1.2 S.2.2.1 i x.1).1 = 0 then (if k = -1 then nI (py_msg S.2.2.1 i ((py_he S.2.1.1 S.2.1.2 S.2.2.1 i x.1).2.1.getD 0) (py_he S.2.1.1 S.2.1.2 S.2.2.1 i x.1).2.2.1 (py_he S.2.1.1 S.2.1.2 S.2.2.1 i x.1).2.2.2).length else match zin k (py_msg S.2.2.1 i ((py_he S.2.1.1 S.2.1.2 S.2.2.1 i x.1).2.1.getD 0) (py_he S.2.1.1 S.2.1.2 S.2.2.1 i x.1).2.2.1 (py_he S.2.1.1 S.2.1.2 S.2.2.1 i x.1).2.2.2).length with
      | none => -1
      | some j => match (py_msg S.2.2.1 i ((py_he S.2.1.1 S.2.1.2 S.2.2.1 i x.1).2.1.getD 0) (py_he S.2.1.1 S.2.1.2 S.2.2.1 i x.1).2.2.1 (py_he S.2.1.1 S.2.1.2 S.2.2.1 i x.1).2.2.2)[j]? with
        | none => -1
        | some c => c) else -1
section
variable {am d : Nat} {M : zM} {S : yZ}
theorem mr_saysMessage {D : List yT} (hD : do_ok D) (hl : ml_ok am M) (hx : md_x am M D) {t pl : Nat} {cl : Int32} {en : Bool} (ht : t < D.length) (hpl : pl ≤ 24) (h57 : zm_I M 12 am 57 = nI pl) (h58 : zm_I M 12 am 58 = cl) (h59 : zm_I M 12 am 59 = zb en) (hd : 70 ≤ d) : ∃ M', mo_saysMessage d am (nI t) M = some M' ∧ ms_x am M' (py_msg D t pl cl en) ∧ zf (mg am [61] [33]) M M' := by
  have h60 := hD.1
  have hLF2 : 400 < zLF := pb_LF
  obtain ⟨d, rfl⟩ : ∃ d', d = d' + 1 := ⟨d - 1, by omega⟩
  have eb : mo_saysMessage (d + 1) am (nI t) M = mo_saysMessage_b d am (nI t) M := rfl
  rw [eb]
  have l1 := path_len D 60 t
  have l3 := fo_len D t pl
  have l4 := nu2_len pl
  have f0 : zf (mg am [61] [33]) M (zm_setI M 12 am 61 0) := zf_set (.inl ⟨rfl, rfl, by simp⟩)
  obtain ⟨M1, a1, a2, a3⟩ := mr_saysPath (am := am) hD 60 t d (zm_setI M 12 am 61 0) [] (by omega) (by omega) (by omega) ht (ml_set hl) (md_zf hx f0 (by simp) (by simp)) ⟨pm_same, fun i c h => by simp at h⟩ (by simp)
  rw [List.nil_append] at a2
  have F1 := zf_trans f0 a3
  obtain ⟨M2, b1, b2, b3⟩ := mr_saysWord (d := d) tt_7 (by simp) (ml_zf hl F1) a2 (by simp; omega) (by omega)
  have F2 := zf_trans F1 b3
  have hl2 := ml_zf hl F2
  have hx2 := md_zf hx F2 (by simp) (by simp)
  have w57 : zm_I M2 12 am 57 = nI pl := by rw [mg_f F2 (by simp)]; exact h57
  /- the thing at the place, or the end -/
  have step3 : ∃ M3, ((mo_letterAt d am (nI t) (nI pl) M2).bind fun q7 => (if q7.1 = (-1) then ((mo_saysWord d am (some 8) q7.2).bind fun q12 => mo_saysMessage_50 d am q12) else ((mo_says d am (97 + q7.1) q7.2).bind fun q14 => mo_saysMessage_50 d am q14))) = mo_saysMessage_50 d am M3 ∧ ms_x am M3 (py_path D 60 t ++ [58, 32] ++ py_fo D t pl) ∧ zf (mg am [61] [33]) M2 M3 := by
    rw [mr_letterAt hD hl2 hx2 (by omega) (by omega)]
    simp only [Option.bind_some]
    unfold py_fo
    cases hk : (py_kl D t)[pl]? with
    | none =>
      dsimp only
      rw [if_pos rfl]
      obtain ⟨M3, c1, c2, c3⟩ := mr_saysWord (d := d) tt_8 (by simp) hl2 b2 (by simp; omega) (by omega)
      exact ⟨M3, by rw [c1]; rfl, c2, c3⟩
    | some l =>
      dsimp only
      have hl26 : l < 26 := by
        have hm := List.mem_of_getElem? hk
        unfold py_kl at hm
        obtain ⟨y, hy, rfl⟩ := List.mem_map.mp hm
        obtain ⟨i, hi⟩ := List.mem_iff_getElem?.mp (List.mem_filter.mp hy).1
        exact (hD.2 i y hi).1
      rw [if_neg (pb_ne1 (by omega))]
      obtain ⟨M3, c1, c2, c3⟩ := mr_says (d := d) hl2 b2 (by simp; omega) (97 + nI l)
      exact ⟨M3, by rw [c1]; rfl, c2, c3⟩
  obtain ⟨M3, c1, c2, c3⟩ := step3
  have F3 := zf_trans F2 c3
  obtain ⟨M4, d1, d2, d3⟩ := mr_saysWord (d := d) tt_9 (by simp) (ml_zf hl F3) c2 (by simp; omega) (by omega)
  have F4 := zf_trans F3 d3
  have w574 : zm_I M4 12 am 57 = nI pl := by rw [mg_f F4 (by simp)]; exact h57
  have e9 : (nI pl ≤ 9) ↔ pl ≤ 9 := nI_leI (b := 9) (by omega) (by omega)
  /- the number -/
  have step5 : ∃ M5, (if (zm_I M4 12 am 57) ≤ 9 then mo_saysMessage_80 d am M4 else ((mo_says d am (48 + ((zm_I M4 12 am 57) / 10)) M4).bind fun q4 => mo_saysMessage_80 d am q4)) = mo_saysMessage_80 d am M5 ∧ ms_x am M5 (py_path D 60 t ++ [58, 32] ++ py_fo D t pl ++ [32, 97, 116, 32] ++ (if pl ≤ 9 then [] else [48 + nI pl / 10])) ∧ zf (mg am [61] [33]) M4 M5 := by
    rw [w574]
    by_cases c : pl ≤ 9
    · rw [if_pos (e9.mpr c), if_pos c]
      exact ⟨M4, rfl, by simpa using d2, zf_refl _ _⟩
    · rw [if_neg (fun y => c (e9.mp y)), if_neg c]
      obtain ⟨M5, p1, p2, p3⟩ := mr_says (d := d) (ml_zf hl F4) d2 (by simp; omega) (48 + nI pl / 10)
      exact ⟨M5, by rw [p1]; rfl, p2, p3⟩
  obtain ⟨M5, p1, p2, p3⟩ := step5
  have F5 := zf_trans F4 p3
  have w575 : zm_I M5 12 am 57 = nI pl := by rw [mg_f F5 (by simp)]; exact h57
  have hif : (if pl ≤ 9 then ([] : List Int32) else [48 + nI pl / 10]).length ≤ 1 := by by_cases c : pl ≤ 9 <;> simp [c]
  obtain ⟨M6, q1, q2, q3⟩ := mr_says (d := d) (ml_zf hl F5) p2 (by simp only [List.length_append, List.length_cons, List.length_nil]; omega) (48 + (nI pl - nI pl / 10 * 10))
  have F6 := zf_trans F5 q3
  have eq6 : py_path D 60 t ++ [58, 32] ++ py_fo D t pl ++ [32, 97, 116, 32] ++ (if pl ≤ 9 then [] else [48 + nI pl / 10]) ++ [48 + (nI pl - nI pl / 10 * 10)] = py_path D 60 t ++ [58, 32] ++ py_fo D t pl ++ [32, 97, 116, 32] ++ py_nu2 pl := by
    unfold py_nu2
    simp only [List.append_assoc]
  rw [eq6] at q2
  obtain ⟨M7, r1, r2, r3⟩ := mr_saysWord (d := d) tt_10 (by simp) (ml_zf hl F6) q2 (by simp only [List.length_append, List.length_cons, List.length_nil]; omega) (by omega)
  have F7 := zf_trans F6 r3
  obtain ⟨M8, s1, s2, s3⟩ := mr_saysMessage_106 (d := d) (by omega) (cl := cl) (en := en) 27 0 M7 _ false (by omega) (ml_zf hl F7) r2 (by rw [mg_f F7 (by simp)]; exact h58) (by rw [mg_f F7 (by simp)]; exact h59) (by intro _; simp only [List.length_append, List.length_cons, List.length_nil]; omega) zLF (by omega)
  have s1' : mo_saysMessage_106 d zLF am 0 0 M7 = some M8 := s1
  refine ⟨M8, ?_, s2, zf_trans F7 s3⟩
  unfold mo_saysMessage_b
  simp only [zlet, a1, Option.bind_some, b1, w57]
  rw [c1]
  unfold mo_saysMessage_50
  simp only [d1, Option.bind_some]
  rw [p1]
  unfold mo_saysMessage_80
  simp only [w575, q1, Option.bind_some, r1, s1']
theorem mf_mes (h : mI am M S) (hz : zz_ok S) (hd : 200 ≤ d) (t k : Int32) : mf_r am M S (mo_message d am t k M) (sp_mes S t k) := by
  have h60 := hz.2.2.2.2.1.1
  obtain ⟨d, rfl⟩ : ∃ d', d = d' + 1 := ⟨d - 1, by omega⟩
  have eb : mo_message (d + 1) am t k M = mo_message_b d am t k M := rfl
  rw [eb]
  obtain ⟨h0, hf0⟩ := mI_0 h 0
  unfold mo_message_b sp_mes
  simp only [zlet]
  rw [mr_isThing h0 hz (by omega)]
  simp only [Option.bind_some]
  cases ht : zin t S.2.2.1.length with
  | none => exact mf_mk0 h0 hf0 (by simp [zb, mo_message_21])
  | some i =>
    obtain ⟨hi, rfl⟩ := zin_some (by omega) ht
    have hg : S.2.2.1[i]? = some S.2.2.1[i] := by simp
    dsimp only
    rw [hg]
    dsimp only
    simp only [Option.isSome_some, pb_zbt]
    rw [if_neg (by decide)]
    obtain ⟨M1, f1, f2, f3⟩ := mr_held (d := d) h0.2.2.1 hz.2.2.2.1 hz.2.2.2.2.1 h0.2.2.2.1 (by omega) hg
    rw [f1]
    simp only [Option.bind_some]
    have hhe : (py_he S.2.1.1 S.2.1.2 S.2.2.1 i S.2.2.1[i].1).1 ≤ 2 := by
      unfold py_he
      cases py_ro S.2.1.1 S.2.1.2 S.2.2.1[i].1 with
      | none =>
        dsimp only
        by_cases c : (py_kl S.2.2.1 i).length = 0
        · rw [if_pos c]; exact Nat.le_succ 1
        · rw [if_neg c]; exact Nat.zero_le _
      | some r =>
        dsimp only
        by_cases c : py_sure (S.2.1.2 r) = true
        · rw [if_pos c]
          by_cases c2 : (py_rn (S.2.1.2 r) (py_kl S.2.2.1 i) py_s00).1.length = (py_kl S.2.2.1 i).length ∧ py_ce (S.2.1.2 r) (py_rn (S.2.1.2 r) (py_kl S.2.2.1 i) py_s00).2 = true
          · rw [if_pos c2]; exact Nat.le_succ 1
          · rw [if_neg c2]; exact Nat.zero_le _
        · rw [if_neg c]; exact Nat.le_refl 2
    have e0 : (nI (py_he S.2.1.1 S.2.1.2 S.2.2.1 i S.2.2.1[i].1).1 = 0) ↔ (py_he S.2.1.1 S.2.1.2 S.2.2.1 i S.2.2.1[i].1).1 = 0 := nI_eq (b := 0) (by omega) (by omega)
    have f3' : zf (mg am [26, 35, 36, 57, 58, 59] [14, 15, 16, 17, 23, 24, 25, 26]) (zm_setI M 12 am 0 0) M1 := f3
    have h1 : mI am M1 S := mI_zf' h0 f3' (by simp [mi_F]) (by simp [mi_A])
    simp only [e0]
    by_cases c : (py_he S.2.1.1 S.2.1.2 S.2.2.1 i S.2.2.1[i].1).1 = 0
    · rw [if_pos c, if_pos c]
      obtain ⟨pl, p1, p2⟩ := he_0 hz.2.2.2.2.1 hg c
      obtain ⟨g1, g2, g3⟩ := f2
      rw [p1] at g1
      obtain ⟨M2, k1, k2, k3⟩ := mr_saysMessage (d := d) hz.2.2.2.2.1 h1.1 h1.2.2.2.1 hi p2 g1 g2 g3 (by omega)
      have F : zf (mg am [26, 35, 36, 57, 58, 59, 61] [14, 15, 16, 17, 23, 24, 25, 26, 33]) (zm_setI M 12 am 0 0) M2 := zf_trans (zf_mono f3' (mg_mono (by simp) (by simp))) (zf_mono k3 (mg_mono (by simp) (by simp)))
      rw [p1, k1]
      simp only [Option.bind_some, Option.getD_some]
      have hml := msg_len S.2.2.1 i pl (py_he S.2.1.1 S.2.1.2 S.2.2.1 i S.2.2.1[i].1).2.2.1 (py_he S.2.1.1 S.2.1.2 S.2.2.1 i S.2.2.1[i].1).2.2.2
      have hl2 := ml_zf h0.1 F
      have h31 : zm_I M2 12 am 31 = -1 := by rw [mg_f F (by simp)]; exact h0.2.2.2.2.2
      generalize py_msg S.2.2.1 i pl (py_he S.2.1.1 S.2.1.2 S.2.2.1 i S.2.2.1[i].1).2.2.1 (py_he S.2.1.1 S.2.1.2 S.2.2.1 i S.2.2.1[i].1).2.2.2 = w at *
      refine mf_mk h0 hf0 ?_ F (by simp [mi_F]) (by simp [mi_A]) h31
      rw [k2.1]
      by_cases ck : k = -1
      · rw [if_pos ck, if_pos ck]
        rfl
      · rw [if_neg ck, if_neg ck, mr_isInN (by omega)]
        simp only [Option.bind_some]
        cases hk : zin k w.length with
        | none => simp [zb, mo_message_66]
        | some j =>
          obtain ⟨hj, rfl⟩ := zin_some (by omega) hk
          have hwj : w[j]? = some w[j] := by simp
          have zj : z_in (nI j) 300 := nI_in (by omega) (by omega)
          dsimp only
          rw [hwj]
          simp only [Option.isSome_some, pb_zbt]
          rw [if_neg (by decide)]
          simp only [ml_R60 hl2, ml_L60 hl2, if_pos zj, nI_clamp (show j < 2 ^ 31 by omega), k2.2 _ _ hwj, mo_message_66]
    · rw [if_neg c, if_neg c]
      exact mf_mk h0 hf0 (by rfl) f3' (by simp [mi_F]) (by simp [mi_A]) h1.2.2.2.2.2
end
