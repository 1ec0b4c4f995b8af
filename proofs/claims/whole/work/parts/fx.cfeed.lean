/-! THE CLASS: feed, end -/
theorem ush_b (v : Int32) {s : Nat} (hs : s = 0 ∨ s = 8 ∨ s = 16 ∨ s = 24) : ((v.toUInt32 >>> ((nI s).toUInt32 &&& Int32.toUInt32 31)).toInt32) &&& 255 = nI (py_b v s) := by
  rw [← (b_eq v s).1]
  apply Int32.toBitVec.inj
  apply BitVec.eq_of_getLsbD_eq
  intro i hi
  have e255 : ∀ i : Fin 32, 8 ≤ i.val → (255 : Int32).toBitVec.getLsbD i.val = false := by decide +kernel
  rw [Int32.toBitVec_and, Int32.toBitVec_and, BitVec.getLsbD_and, BitVec.getLsbD_and]
  by_cases q : 8 ≤ i
  · rw [e255 ⟨i, hi⟩ q]
    simp
  · congr 1
    rcases hs with rfl | rfl | rfl | rfl
    · show (v.toBitVec >>> 0).getLsbD i = (v.toBitVec.sshiftRight 0).getLsbD i
      rw [BitVec.getLsbD_ushiftRight, BitVec.getLsbD_sshiftRight]
      simp [show 0 + i < 32 by omega, show ¬ 32 ≤ i by omega]
    · show (v.toBitVec >>> 8).getLsbD i = (v.toBitVec.sshiftRight 8).getLsbD i
      rw [BitVec.getLsbD_ushiftRight, BitVec.getLsbD_sshiftRight]
      simp [show 8 + i < 32 by omega, show ¬ 32 ≤ i by omega]
    · show (v.toBitVec >>> 16).getLsbD i = (v.toBitVec.sshiftRight 16).getLsbD i
      rw [BitVec.getLsbD_ushiftRight, BitVec.getLsbD_sshiftRight]
      simp [show 16 + i < 32 by omega, show ¬ 32 ≤ i by omega]
    · show (v.toBitVec >>> 24).getLsbD i = (v.toBitVec.sshiftRight 24).getLsbD i
      rw [BitVec.getLsbD_ushiftRight, BitVec.getLsbD_sshiftRight]
      simp [show 24 + i < 32 by omega, show ¬ 32 ≤ i by omega]
theorem nI_m8 (n : Nat) : nI (8 * (n + 1)) + (-8) = nI (8 * n) := by
  have h := pb_sub (8 * n) 8
  rw [Int32.sub_eq_add_neg] at h
  exact h
theorem bs_n (v : Int32) : ∀ n, (py_bs v n).length ≤ n := by
  intro n
  induction n with
  | zero => exact Nat.le_refl _
  | succ n ih =>
    rw [py_bs, List.length_append]
    split
    · rw [List.length_nil]; omega
    · rw [List.length_singleton]; omega
def pt_W (ac t k j : Nat) : Prop := (t = 11 ∧ k = ac ∧ j = 1) ∨ (t = 20 ∧ k = ac + 1)
section
variable {ac N0 S0 d R : Nat} {M M' : zM} {S : yZ} {g : yG2}
theorem cl_bytes_5 (v : Int32) : ∀ (n acc : Nat), n ≤ 4 → ∀ fuel, n < fuel → cr_bytesIn_5 d fuel v (nI acc) (nI (8 * n) + (-8)) M = some (nI (acc + (py_bs v n).length), M) := by
  intro n
  induction n with
  | zero =>
    intro acc hn fuel hf
    cases fuel with
    | zero => cases hf
    | succ fuel =>
      rw [cr_bytesIn_5, if_pos (by decide)]
      rfl
  | succ n ih =>
    intro acc hn fuel hf
    cases fuel with
    | zero => cases hf
    | succ fuel =>
      have hb := b_eq v (8 * n)
      have e0 : (nI (py_b v (8 * n)) = 0) ↔ py_b v (8 * n) = 0 := nI_eq (b := 0) (by omega) (by omega)
      have e1 : nI acc + 1 = nI (acc + 1) := nI_add acc 1
      rw [nI_m8, cr_bytesIn_5, if_neg (show ¬ nI (8 * n) < 0 from fun y => by have := (lt_i2 (a := 8 * n) (m := 0) (by omega) (by omega)).mp y; omega), ush_b v (by omega)]
      simp only [e0, cr_bytesIn_22, zlet, e1]
      rw [py_bs]
      by_cases q : py_b v (8 * n) = 0
      · rw [if_pos q, if_pos q, ih acc (by omega) fuel (by omega)]
        simp
      · rw [if_neg q, if_neg q, ih (acc + 1) (by omega) fuel (by omega), List.length_append]
        simp only [List.length_singleton]
        rw [show acc + 1 + (py_bs v n).length = acc + (1 + (py_bs v n).length) by omega]
theorem cl_bytesIn (v : Int32) : cr_bytesIn d v M = some (nI (py_bs v 4).length, M) := by
  have h := cl_bytes_5 (d := d) (M := M) v 4 0 (by omega) zLF (by have := zLF_10; omega)
  rw [Nat.zero_add] at h
  exact h
theorem cl_put3 (v : Int32) : ∀ (n : Nat) (T : List Nat) (M : zM), n ≤ 4 → T.length + (py_bs v n).length ≤ 400 → zm_R M 11 ac 0 = some (ac + 1) → zm_I M 11 ac 1 = nI T.length → ct_x M ac T → ∀ fuel, n < fuel → ∃ M', cr_put_3 d fuel ac v (nI (8 * n) + (-8)) M = some M' ∧ zm_I M' 11 ac 1 = nI (T ++ py_bs v n).length ∧ ct_x M' ac (T ++ py_bs v n) ∧ zf (pt_W ac) M M' := by
  intro n
  induction n with
  | zero =>
    intro T M hn hl hR h1 hT fuel hf
    cases fuel with
    | zero => cases hf
    | succ fuel =>
      refine ⟨M, ?_, ?_, ?_, zf_refl _ _⟩
      · rw [cr_put_3, if_pos (by decide)]
      · rw [py_bs, List.append_nil]; exact h1
      · rw [py_bs, List.append_nil]; exact hT
  | succ n ih =>
    intro T M hn hl hR h1 hT fuel hf
    cases fuel with
    | zero => cases hf
    | succ fuel =>
      have hb := b_eq v (8 * n)
      have e0 : (nI (py_b v (8 * n)) = 0) ↔ py_b v (8 * n) = 0 := nI_eq (b := 0) (by omega) (by omega)
      rw [nI_m8, cr_put_3, if_neg (show ¬ nI (8 * n) < 0 from fun y => by have := (lt_i2 (a := 8 * n) (m := 0) (by omega) (by omega)).mp y; omega), ush_b v (by omega)]
      simp only [e0, cr_put_49, zlet]
      rw [py_bs] at hl ⊢
      by_cases q : py_b v (8 * n) = 0
      · rw [if_pos q] at hl ⊢
        rw [if_pos q]
        exact ih T M (by omega) hl hR h1 hT fuel (by omega)
      · rw [if_neg q] at hl ⊢
        rw [if_neg q]
        rw [List.length_append, List.length_singleton] at hl
        have hz : z_in (nI T.length) 400 := nI_in (by omega) (by omega)
        have e1 : nI T.length + 1 = nI (T.length + 1) := nI_add T.length 1
        rw [h1, if_neg (show ¬ (400 : Int32) ≤ nI T.length from fun y => by have := (le_i2 (a := T.length) (m := 400) (by omega) (by omega)).mp y; omega)]
        simp only [hR, hT.1, if_pos hz, nI_clamp (show T.length < 2 ^ 31 by omega)]
        rw [pm_ne (show (11 : Nat) ≠ 20 ∨ ac ≠ ac + 1 ∨ 1 ≠ T.length by omega), h1, e1]
        obtain ⟨M2, hM2⟩ : ∃ Y, Y = zm_setI (zm_setI M 20 (ac + 1) T.length (nI (py_b v (8 * n)))) 11 ac 1 (nI (T.length + 1)) := ⟨_, rfl⟩
        have f2 : zf (pt_W ac) M M2 := by rw [hM2]; exact zf_trans (zf_set (.inr ⟨rfl, rfl⟩)) (zf_set (.inl ⟨rfl, rfl, rfl⟩))
        rw [← hM2]
        have hT2 : ct_x M2 ac (T ++ [py_b v (8 * n)]) := by
          refine ⟨by rw [f2.2.1]; exact hT.1, by rw [f2.2.2.2.2.1]; exact hT.2.1, ?_⟩
          intro i x hx
          rw [hM2, pm_ne (by omega)]
          by_cases qi : i = T.length
          · rw [qi] at hx ⊢
            rw [pm_same]
            simp at hx
            rw [hx]
          · rw [pm_ne (by omega)]
            refine hT.2.2 i x ?_
            by_cases q2 : i < T.length
            · rw [List.getElem?_append_left q2] at hx
              exact hx
            · rw [List.getElem?_append_right (by omega), List.getElem?_singleton, if_neg (by omega)] at hx
              cases hx
        obtain ⟨M', a1, a2, a3, a4⟩ := ih (T ++ [py_b v (8 * n)]) M2 (by omega) (by rw [List.length_append, List.length_singleton]; omega) (by rw [f2.1]; exact hR) (by rw [hM2, pm_same, List.length_append, List.length_singleton]) hT2 fuel (by omega)
        rw [List.append_assoc] at a2 a3
        exact ⟨M', a1, a2, a3, zf_trans f2 a4⟩
theorem cl_putB (v : Int32) {T : List Nat} (hl : T.length + (py_bs v 4).length ≤ 400) (hR : zm_R M 11 ac 0 = some (ac + 1)) (h1 : zm_I M 11 ac 1 = nI T.length) (hT : ct_x M ac T) : ∃ M', cr_put d ac v M = some M' ∧ zm_R M' 11 ac 0 = some (ac + 1) ∧ zm_I M' 11 ac 1 = nI (T ++ py_bs v 4).length ∧ ct_x M' ac (T ++ py_bs v 4) ∧ zf (pt_W ac) M M' := by
  obtain ⟨M', a1, a2, a3, a4⟩ := cl_put3 (d := d) v 4 T M (by omega) hl hR h1 hT zLF (by have := zLF_10; omega)
  exact ⟨M', a1, by rw [a4.1]; exact hR, a2, a3, a4⟩
/-- only the tape has changed -/
theorem cI_tape {T' : List Nat} (hI : cI ac N0 S0 M S g) (hz : zz_ok S) (hf : zf (pt_W ac) M M') (h1 : zm_I M' 11 ac 1 = nI T'.length) (hT : ct_x M' ac T') : cI ac N0 S0 M' (T', S.2) g ∧ zh (cC_W ac) M M' := by
  have hI' := hI
  obtain ⟨_, _, _, _, _, _, _, hL, hrd, ⟨hU, hC, hS, hD⟩, _⟩ := hI
  have ew : ∀ t k j, pt_W ac t k j → ((t = 11 ∧ k = ac ∧ j = 1) ∨ (t = 20 ∧ k = ac + 1)) ∧ ¬ cLc ac t k j := by
    intro t k j hw
    unfold pt_W at hw
    unfold cLc
    omega
  have z2 := zr_zf hf
  have e14 : zm_I M' 11 ac 14 = zm_I M 11 ac 14 := zr_I z2 (fun hw => by have := ew _ _ _ hw; omega)
  exact ⟨cI_hi (T' := T') (rd' := S.2.2.2) hI' hz z2 (fun t k j hw => by have := ew t k j hw; omega) h1 hT (cL_zr hL z2 (fun t k j hw => (ew t k j hw).2)) (rdc_ag hrd (ag_w z2 (fun t k j hw => by have := ew t k j hw; omega))) (kU_ag hU (ag_w z2 (fun t k j hw => by have := ew t k j hw; omega))) (kC_ag hC (ag_w z2 (fun t k j hw => by have := ew t k j hw; omega))) (kS_ag hS e14 (ag_w z2 (fun t k j hw => by have := ew t k j hw; omega))) (kD_ag hD (ag_w z2 (fun t k j hw => by have := ew t k j hw; omega))), zh_cC z2 (fun t k j hw => by have := ew t k j hw; omega)⟩
theorem cl_feed (hI : cI ac N0 S0 M S g) (hz : zz_ok S) (hd : 1 ≤ d) (a b c e f : Int32) : cf_r ac N0 S0 M (cr_feed d ac a b c e f M) (sp_feed S a b c e f).1 (sp_feed S a b c e f).2 := by
  obtain ⟨d, rfl⟩ : ∃ d', d = d' + 1 := ⟨d - 1, by omega⟩
  have eb : cr_feed (d + 1) ac a b c e f M = cr_feed_b d ac a b c e f M := rfl
  rw [eb]
  have h400 := hz.1.1
  obtain ⟨⟨o0, _⟩, o1⟩ := hI.2.1
  have hT := hI.2.2.1
  have b4 : ∀ v, (py_bs v 4).length ≤ 4 := fun v => bs_n v 4
  have ba := b4 a
  have bb := b4 b
  have bc := b4 c
  have be := b4 e
  have bf := b4 f
  unfold cr_feed_b sp_feed
  simp only [cl_bytesIn, Option.bind_some, zlet, o1]
  rw [nI_add, nI_add, nI_add, nI_add, nI_add]
  have cq : (nI (S.1.length + ((py_bs a 4).length + (py_bs b 4).length + (py_bs c 4).length + (py_bs e 4).length + (py_bs f 4).length)) ≤ 400) ↔ ¬ 400 < S.1.length + (py_bs a 4).length + (py_bs b 4).length + (py_bs c 4).length + (py_bs e 4).length + (py_bs f 4).length := by
    have := le_i2 (a := 400) (m := S.1.length + ((py_bs a 4).length + (py_bs b 4).length + (py_bs c 4).length + (py_bs e 4).length + (py_bs f 4).length)) (by omega) (by omega)
    refine this.trans ?_
    omega
  by_cases q : 400 < S.1.length + (py_bs a 4).length + (py_bs b 4).length + (py_bs c 4).length + (py_bs e 4).length + (py_bs f 4).length
  · rw [if_pos q, if_neg (fun y => cq.mp y q)]
    exact cf_same hI rfl
  · rw [if_neg q, if_pos (cq.mpr q)]
    obtain ⟨M1, p1, p2, p3, p4, p5⟩ := cl_putB (d := d) a (T := S.1) (by omega) o0 o1 hT
    obtain ⟨M2, q1, q2, q3, q4, q5⟩ := cl_putB (d := d) b (T := S.1 ++ py_bs a 4) (by simp only [List.length_append]; omega) p2 p3 p4
    obtain ⟨M3, r1, r2, r3, r4, r5⟩ := cl_putB (d := d) c (T := S.1 ++ py_bs a 4 ++ py_bs b 4) (by simp only [List.length_append]; omega) q2 q3 q4
    obtain ⟨M4, s1, s2, s3, s4, s5⟩ := cl_putB (d := d) e (T := S.1 ++ py_bs a 4 ++ py_bs b 4 ++ py_bs c 4) (by simp only [List.length_append]; omega) r2 r3 r4
    obtain ⟨M5, t1, t2, t3, t4, t5⟩ := cl_putB (d := d) f (T := S.1 ++ py_bs a 4 ++ py_bs b 4 ++ py_bs c 4 ++ py_bs e 4) (by simp only [List.length_append]; omega) s2 s3 s4
    have eT : S.1 ++ py_bs a 4 ++ py_bs b 4 ++ py_bs c 4 ++ py_bs e 4 ++ py_bs f 4 = S.1 ++ (py_bs a 4 ++ (py_bs b 4 ++ (py_bs c 4 ++ (py_bs e 4 ++ py_bs f 4)))) := by simp [List.append_assoc]
    rw [eT] at t3 t4
    obtain ⟨u1, u2⟩ := cI_tape hI hz (zf_trans p5 (zf_trans q5 (zf_trans r5 (zf_trans s5 t5)))) t3 t4
    refine ⟨M5, g, ?_, u1, u2⟩
    simp only [p1, q1, r1, s1, t1, Option.bind_some, t3]
theorem cl_end (hI : cI ac N0 S0 M S g) (hz : zz_ok S) (n : Int32) : cf_r ac N0 S0 M (cr_end d ac n M) (zb (sp_end S n).1) (sp_end S n).2 := by
  have h400 := hz.1.1
  obtain ⟨⟨o0, _⟩, o1⟩ := hI.2.1
  have hT := hI.2.2.1
  unfold cr_end sp_end
  simp only [o1, cr_end_12, zlet]
  rcases zin_c (show S.1.length + 1 < 2 ^ 31 by omega) n with ⟨hzi, h | ⟨h1, h2, h3⟩⟩ | ⟨k, hk, e, hzi, h1, h2, h3⟩
  · rw [if_pos h, hzi]
    exact cf_same hI rfl
  · have hn : ¬ n ≤ nI S.1.length := fun y => by
      have := (le_i2 (a := S.1.length) (m := S.1.length + 1) (by omega) (by omega)).mp (Int32.le_trans h2 y)
      omega
    rw [if_neg h1, if_neg hn, hzi]
    exact cf_same hI rfl
  · rw [if_neg h1, if_pos (show n ≤ nI S.1.length by rw [e]; exact (le_i2 (by omega) (by omega)).mpr (by omega)), hzi]
    dsimp only
    obtain ⟨M2, hM2⟩ : ∃ Y, Y = zm_setI M 11 ac 1 n := ⟨_, rfl⟩
    have f2 : zf (pt_W ac) M M2 := by rw [hM2]; exact zf_set (.inl ⟨rfl, rfl, rfl⟩)
    obtain ⟨u1, u2⟩ := cI_tape (T' := S.1.take k) hI hz f2 (by rw [hM2, pm_same, e, List.length_take, Nat.min_eq_left (by omega)]) (by
      refine ⟨by rw [f2.2.1]; exact hT.1, by rw [f2.2.2.2.2.1]; exact hT.2.1, ?_⟩
      intro i x hx
      rw [hM2, pm_ne (by omega)]
      refine hT.2.2 i x ?_
      rw [List.getElem?_take] at hx
      by_cases q : i < k
      · rw [if_pos q] at hx; exact hx
      · rw [if_neg q] at hx; cases hx)
    refine ⟨M2, g, ?_, u1, u2⟩
    rw [← hM2]
    rfl
end
