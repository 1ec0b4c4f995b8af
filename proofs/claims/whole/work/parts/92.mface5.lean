/-! THE MODEL's face: count, feed, end -/
/-- bytes of a number, the highest first, 0 left out -/
def py_b (v : Int32) (k : Nat) : Nat := ((v >>> (nI k &&& 31)) &&& 255).toBitVec.toNat
def py_bs (v : Int32) : Nat → List Nat
  | 0 => []
  | n + 1 => (if py_b v (8 * n) = 0 then [] else [py_b v (8 * n)]) ++ py_bs v n
theorem b_eq (v : Int32) (k : Nat) : (v >>> (nI k &&& 31)) &&& 255 = nI (py_b v k) ∧ py_b v k < 256 := by
  obtain ⟨j, hj, e⟩ := pk_andE (v >>> (nI k &&& 31)) (m := 255) 8 (by decide)
  have h256 : (2 : Nat) ^ 8 = 256 := by decide
  unfold py_b
  rw [e, pk_tn (by omega)]
  exact ⟨rfl, by omega⟩
theorem bv_ok (v : Int32) : ∀ n b, b ∈ py_bs v n → 1 ≤ b ∧ b < 256 := by
  intro n
  induction n with
  | zero => intro b hb; cases hb
  | succ n ih =>
    intro b hb
    have h := b_eq v (8 * n)
    unfold py_bs at hb
    rcases List.mem_append.mp hb with q | q
    · by_cases e : py_b v (8 * n) = 0
      · rw [if_pos e] at q; cases q
      · rw [if_neg e] at q
        have : b = py_b v (8 * n) := by simpa using q
        omega
    · exact ih b q
theorem bv_len (v : Int32) : ∀ n, (py_bs v n).length ≤ n := by
  intro n
  induction n with
  | zero => simp [py_bs]
  | succ n ih =>
    unfold py_bs
    by_cases e : py_b v (8 * n) = 0
    · rw [if_pos e]
      simp
      omega
    · rw [if_neg e]
      simp
      omega
def sp_feed (S : yZ) (a b c e f : Int32) : Int32 × yZ := if 400 < S.1.length + (py_bs a 4).length + (py_bs b 4).length + (py_bs c 4).length + (py_bs e 4).length + (py_bs f 4).length then (-1, S) else (nI (S.1 ++ (py_bs a 4 ++ (py_bs b 4 ++ (py_bs c 4 ++ (py_bs e 4 ++ py_bs f 4))))).length, (S.1 ++ (py_bs a 4 ++ (py_bs b 4 ++ (py_bs c 4 ++ (py_bs e 4 ++ py_bs f 4)))), S.2))
def sp_end (S : yZ) (n : Int32) : Bool × yZ := match zin n (S.1.length + 1) with
  | none => (false, S)
  | some k => (true, (S.1.take k, S.2))
section
variable {am d : Nat} {M : zM} {S : yZ}
theorem mr_bytesOf_4 (v : Int32) : ∀ (m k : Nat) (acc : Nat), k + m = 4 → ∀ fuel, m < fuel → mo_bytesOf_4 d fuel v (nI acc) (nI k) M = some (nI (acc + ((List.range' k m).filter (fun i => py_b v (8 * i) != 0)).length), M) := by
  intro m
  induction m with
  | zero =>
    intro k acc hk fuel hf
    cases fuel with
    | zero => cases hf
    | succ fuel =>
      have : k = 4 := by omega
      subst this
      have hle : (4 : Int32) ≤ nI 4 := by decide
      simp [mo_bytesOf_4, hle]
  | succ m ih =>
    intro k acc hk fuel hf
    cases fuel with
    | zero => cases hf
    | succ fuel =>
      have hge : ¬ (4 : Int32) ≤ nI k := nI_ge (b := 4) (by omega) (by omega)
      have e8 : 8 * nI k = nI (8 * k) := pk_mul 8 k
      have hb := b_eq v (8 * k)
      have e0 : (nI (py_b v (8 * k)) = 0) ↔ py_b v (8 * k) = 0 := nI_eq (b := 0) (by omega) (by omega)
      rw [List.range'_succ, List.filter_cons]
      simp only [mo_bytesOf_4, if_neg hge, e8, hb.1, e0]
      by_cases q : py_b v (8 * k) = 0
      · have ih' := ih (k + 1) acc (by omega) fuel (by omega)
        rw [if_pos q]
        simp [q, mo_bytesOf_28, zlet, nI_1, ih']
      · have ih' := ih (k + 1) (acc + 1) (by omega) fuel (by omega)
        have qb : (py_b v (8 * k) != 0) = true := by simpa using q
        rw [if_neg q]
        simp only [mo_bytesOf_28, zlet, nI_1, ih', qb, if_true, List.length_cons]
        have : acc + 1 + ((List.range' (k + 1) m).filter (fun i => py_b v (8 * i) != 0)).length = acc + (((List.range' (k + 1) m).filter (fun i => py_b v (8 * i) != 0)).length + 1) := by omega
        rw [this]
theorem mr_bytesOf (v : Int32) : mo_bytesOf d v M = some (nI (py_bs v 4).length, M) := by
  have hLF := pb_LF
  have h := mr_bytesOf_4 (d := d) (M := M) v 4 0 0 (by omega) zLF (by omega)
  have e : ((List.range' 0 4).filter (fun i => py_b v (8 * i) != 0)).length = (py_bs v 4).length := by
    have er : List.range' 0 4 = [0, 1, 2, 3] := rfl
    rw [er]
    unfold py_bs
    unfold py_bs
    unfold py_bs
    unfold py_bs
    unfold py_bs
    simp only [List.filter_cons, List.filter_nil, List.length_append, List.length_nil, Nat.add_zero]
    by_cases q0 : py_b v (8 * 0) = 0 <;> by_cases q1 : py_b v (8 * 1) = 0 <;> by_cases q2 : py_b v (8 * 2) = 0 <;> by_cases q3 : py_b v (8 * 3) = 0 <;> simp [q0, q1, q2, q3]
  rw [Nat.zero_add, e] at h
  exact h
theorem mr_brings_3 (v : Int32) : ∀ (n : Nat) (M : zM) (T : List Nat), n ≤ 4 → ml_ok am M → mt_p am M T → T.length + (py_bs v n).length ≤ 400 → ∀ fuel, n < fuel → ∃ M', mo_brings_3 d fuel am v (nI (8 * n) - 8) M = some M' ∧ mt_p am M' (T ++ py_bs v n) ∧ zf (mg am [2] [1]) M M' := by
  intro n
  induction n with
  | zero =>
    intro M T hn hl hT hlen fuel hf
    cases fuel with
    | zero => cases hf
    | succ fuel =>
      have hlt : nI (8 * 0) - 8 < 0 := by decide
      exact ⟨M, by simp only [mo_brings_3, if_pos hlt], by simpa [py_bs] using hT, zf_refl _ _⟩
  | succ n ih =>
    intro M T hn hl hT hlen fuel hf
    cases fuel with
    | zero => cases hf
    | succ fuel =>
      have e8 : nI (8 * (n + 1)) - 8 = nI (8 * n) := pk_sub (a := 8 * (n + 1)) (b := 8) (by omega)
      have hnl : ¬ nI (8 * n) < 0 := nI_pos (by omega)
      have hm8 : nI (8 * n) + (-8) = nI (8 * n) - 8 := by rw [Int32.sub_eq_add_neg]
      have hb := b_eq v (8 * n)
      have e0 : (nI (py_b v (8 * n)) = 0) ↔ py_b v (8 * n) = 0 := nI_eq (b := 0) (by omega) (by omega)
      have hl4 := bv_len v n
      unfold py_bs at hlen ⊢
      by_cases q : py_b v (8 * n) = 0
      · rw [if_pos q, List.nil_append] at hlen ⊢
        obtain ⟨M', g1, g2, g3⟩ := ih M T (by omega) hl hT hlen fuel (by omega)
        refine ⟨M', ?_, g2, g3⟩
        rw [← g1]
        simp only [mo_brings_3, e8, if_neg hnl, hb.1, zlet, e0, if_pos q, mo_brings_43, hm8]
      · rw [if_neg q] at hlen ⊢
        simp only [List.length_append, List.length_cons, List.length_nil] at hlen
        have hz : z_in (nI T.length) 400 := nI_in (by omega) (by omega)
        have hfz : zf (mg am [2] [1]) M (zm_setI (zm_setI M 22 (am + 1) T.length (nI (py_b v (8 * n))).toInt8.toInt32) 12 am 2 (nI (T.length + 1))) := zf_trans (zf_set (.inr ⟨.inr rfl, 1, by simp, rfl⟩)) (zf_set (.inl ⟨rfl, rfl, by simp⟩))
        obtain ⟨M', g1, g2, g3⟩ := ih (zm_setI (zm_setI M 22 (am + 1) T.length (nI (py_b v (8 * n))).toInt8.toInt32) 12 am 2 (nI (T.length + 1))) (T ++ [py_b v (8 * n)]) (by omega) (ml_zf hl hfz) (by
          refine ⟨by rw [pm_same]; simp, ?_⟩
          intro i b hi
          rw [pm_ne (by omega)]
          by_cases e : i < T.length
          · rw [List.getElem?_append_left e] at hi
            rw [pm_ne (by omega)]
            exact hT.2 i b hi
          · have e2 : i = T.length := by
              have := (List.getElem?_eq_some_iff.mp hi).1
              simp at this
              omega
            subst e2
            simp at hi
            subst hi
            rw [pm_same]) (by simp; omega) fuel (by omega)
        refine ⟨M', ?_, by simpa using g2, zf_trans hfz g3⟩
        rw [← g1]
        have ei : (nI (py_b v (8 * n))).toInt8.toInt32.toInt8.toInt32 = (nI (py_b v (8 * n))).toInt8.toInt32 := by simp
        simp only [ei, mo_brings_3, e8, if_neg hnl, hb.1, zlet, e0, if_neg q, ml_R1 hl, hT.1, ml_L1 hl, if_pos hz, nI_clamp (show T.length < 2 ^ 31 by omega), pm_ne (show (12 : Nat) ≠ 22 ∨ am ≠ am + 1 ∨ 2 ≠ T.length from .inl (by decide)), mo_brings_43, hm8, nI_1]
theorem mr_brings {M : zM} {T : List Nat} (hl : ml_ok am M) (hT : mt_p am M T) (v : Int32) (hlen : T.length + (py_bs v 4).length ≤ 400) : ∃ M', mo_brings d am v M = some M' ∧ mt_p am M' (T ++ py_bs v 4) ∧ zf (mg am [2] [1]) M M' := by
  have hLF := pb_LF
  obtain ⟨M', g1, g2⟩ := mr_brings_3 (am := am) (d := d) v 4 M T (by omega) hl hT hlen zLF (by omega)
  refine ⟨M', ?_, g2⟩
  unfold mo_brings
  exact g1
/-- the tape alone is another -/
theorem mI_tape {M' : zM} {T : List Nat} (h : mI am M S) (hf : zf (mg am [0, 2] [1]) M M') (hT : mt_p am M' T) : mI am M' (T, S.2) := by
  obtain ⟨h1, h2, h3, h4, h5, h6⟩ := h
  refine ⟨ml_zf h1 hf, hT, mt_zf2 h3 hf (by simp) (by simp), md_zf h4 hf (by simp) (by simp), mv_zf h5 hf (by simp) (by simp), ?_⟩
  rw [mg_f hf (by simp)]
  exact h6
theorem mf_feed (h : mI am M S) (hz : zz_ok S) (hd : 1 ≤ d) (a b c e f : Int32) : ∃ M', mo_feed d am a b c e f M = some ((sp_feed S a b c e f).1, M') ∧ mI am M' (sp_feed S a b c e f).2 ∧ zf (mg am [0, 2] [1]) M M' := by
  have h400 := hz.1.1
  obtain ⟨d, rfl⟩ : ∃ d', d = d' + 1 := ⟨d - 1, by omega⟩
  have eb : mo_feed (d + 1) am a b c e f M = mo_feed_b d am a b c e f M := rfl
  rw [eb]
  obtain ⟨h0, hf0⟩ := mI_0 h 0
  have hl := h0.1
  have hT := h0.2.1
  have la := bv_len a 4
  have lb := bv_len b 4
  have lc := bv_len c 4
  have le := bv_len e 4
  have lf := bv_len f 4
  unfold mo_feed_b sp_feed
  simp only [zlet, mr_bytesOf, Option.bind_some, hT.1, nI_add]
  have ecmp : (nI (S.1.length + (py_bs a 4).length + (py_bs b 4).length + (py_bs c 4).length + (py_bs e 4).length + (py_bs f 4).length) ≤ 400) ↔ S.1.length + (py_bs a 4).length + (py_bs b 4).length + (py_bs c 4).length + (py_bs e 4).length + (py_bs f 4).length ≤ 400 := nI_leI (b := 400) (by omega) (by omega)
  have ecmp2 : ((400 : Int32) < nI (S.1.length + (py_bs a 4).length + (py_bs b 4).length + (py_bs c 4).length + (py_bs e 4).length + (py_bs f 4).length)) ↔ 400 < S.1.length + (py_bs a 4).length + (py_bs b 4).length + (py_bs c 4).length + (py_bs e 4).length + (py_bs f 4).length := nI_ltI (a := 400) (by omega) (by omega)
  by_cases q : 400 < S.1.length + (py_bs a 4).length + (py_bs b 4).length + (py_bs c 4).length + (py_bs e 4).length + (py_bs f 4).length
  · rw [if_pos q]
    refine ⟨_, ?_, h0, zf_mono hf0 (mg_mono (by simp) (by simp))⟩
    have q' : ¬ S.1.length + (py_bs a 4).length + (py_bs b 4).length + (py_bs c 4).length + (py_bs e 4).length + (py_bs f 4).length ≤ 400 := by omega
    simp only [ecmp, ecmp2, if_neg q', if_pos q]
  · rw [if_neg q]
    obtain ⟨M1, a1, a2, a3⟩ := mr_brings (am := am) (d := d) hl hT a (by omega)
    have l1 := ml_zf hl a3
    obtain ⟨M2, b1, b2, b3⟩ := mr_brings (am := am) (d := d) l1 a2 b (by simp; omega)
    have l2 := ml_zf l1 b3
    obtain ⟨M3, c1, c2, c3⟩ := mr_brings (am := am) (d := d) l2 b2 c (by simp; omega)
    have l3 := ml_zf l2 c3
    obtain ⟨M4, e1, e2, e3⟩ := mr_brings (am := am) (d := d) l3 c2 e (by simp; omega)
    have l4 := ml_zf l3 e3
    obtain ⟨M5, f1, f2, f3⟩ := mr_brings (am := am) (d := d) l4 e2 f (by simp; omega)
    have hfa : zf (mg am [2] [1]) (zm_setI M 12 am 0 0) M5 := zf_trans a3 (zf_trans b3 (zf_trans c3 (zf_trans e3 f3)))
    have hfb : zf (mg am [0, 2] [1]) M M5 := zf_trans (zf_mono hf0 (mg_mono (by simp) (by simp))) (zf_mono hfa (mg_mono (by simp) (by simp)))
    simp only [List.append_assoc] at f2
    refine ⟨M5, ?_, mI_tape h hfb f2, hfb⟩
    have q' : S.1.length + (py_bs a 4).length + (py_bs b 4).length + (py_bs c 4).length + (py_bs e 4).length + (py_bs f 4).length ≤ 400 := by omega
    simp only [ecmp, ecmp2, if_pos q', if_neg q, a1, b1, c1, e1, f1, Option.bind_some, f2.1]
theorem mf_end (h : mI am M S) (hz : zz_ok S) (n : Int32) : ∃ M', mo_end d am n M = some (zb (sp_end S n).1, M') ∧ mI am M' (sp_end S n).2 ∧ zf (mg am [0, 2] [1]) M M' := by
  have h400 := hz.1.1
  obtain ⟨h0, hf0⟩ := mI_0 h 0
  have hT := h0.2.1
  unfold mo_end sp_end
  simp only [zlet, hT.1]
  by_cases q : n < 0
  · have hn : zin n (S.1.length + 1) = none := by
      unfold zin
      refine if_neg ?_
      intro hc
      rw [fa_lt] at q
      have := hc.1
      rw [fa_le] at this
      omega
    rw [hn, if_pos q]
    exact ⟨_, rfl, h0, zf_mono hf0 (mg_mono (by simp) (by simp))⟩
  · obtain ⟨j, hj, rfl⟩ := nI_of q
    rw [if_neg q]
    by_cases q2 : j ≤ S.1.length
    · rw [zin_nI (by omega) (by omega), if_pos (nI_le q2 (by omega))]
      have hfz : zf (mg am [0, 2] [1]) M (zm_setI (zm_setI M 12 am 0 0) 12 am 2 (nI j)) := zf_trans (zf_mono hf0 (mg_mono (by simp) (by simp))) (zf_set (.inl ⟨rfl, rfl, by simp⟩))
      refine ⟨_, rfl, mI_tape h hfz ⟨?_, ?_⟩, hfz⟩
      · rw [pm_same, List.length_take, Nat.min_eq_left q2]
      · intro i b hb
        rw [pm_ne (by omega)]
        rw [List.getElem?_take] at hb
        split at hb
        · exact hT.2 i b hb
        · cases hb
    · have hn : zin (nI j) (S.1.length + 1) = none := by
        unfold zin
        refine if_neg ?_
        intro hc
        have := (nI_ltI hj (by omega)).mp hc.2
        omega
      rw [hn, if_neg (nI_ge (by omega) hj)]
      exact ⟨_, rfl, h0, zf_mono hf0 (mg_mono (by simp) (by simp))⟩
/-! count -/
theorem mr_rulesThatAre_4 (hz : zz_ok S) (hd : 36 ≤ d) (u : Bool) : ∀ (m r : Nat) (M : zM) (acc : Int32), r + m = S.2.1.1 → mI am M S → ∀ fuel, m < fuel → ∃ M', mo_rulesThatAre_4 d fuel am (zb (!u)) acc (nI r) M = some (((List.range' r m).filter (fun r => py_cf (S.2.1.2 r) u == 0)).foldl (fun a q => a ||| zbit q) acc, M') ∧ zf (mw_W am) M M' := by
  have hR := hz.2.1
  intro m
  induction m with
  | zero =>
    intro r M acc hr h fuel hf
    cases fuel with
    | zero => cases hf
    | succ fuel =>
      have : r = S.2.1.1 := by omega
      subst this
      exact ⟨M, by simp [mo_rulesThatAre_4, h.2.2.1.1], zf_refl _ _⟩
  | succ m ih =>
    intro r M acc hr h fuel hf
    cases fuel with
    | zero => cases hf
    | succ fuel =>
      have hge : ¬ nI S.2.1.1 ≤ nI r := nI_ge (by omega) (by omega)
      have hp := mI_p h (r := r) (by omega)
      obtain ⟨M1, e1, e2⟩ := mr_conflicts (d := d) hp hd u
      have h1 : mI am M1 S := mI_zf' h e2 (by simp [mi_F]) (by simp [mi_A])
      have e0 : (nI (py_cf (S.2.1.2 r) u) = 0) ↔ py_cf (S.2.1.2 r) u = 0 := nI_eq (b := 0) (cf_lt hp.1 u) (by omega)
      have e24 : mo_rulesThatAre_4 d (fuel + 1) am (zb (!u)) acc (nI r) M = if py_cf (S.2.1.2 r) u = 0 then mo_rulesThatAre_4 d fuel am (zb (!u)) (acc ||| zbit r) (nI (r + 1)) M1 else mo_rulesThatAre_4 d fuel am (zb (!u)) acc (nI (r + 1)) M1 := by
        simp only [mo_rulesThatAre_4, h.2.2.1.1, if_neg hge, mo_rulesThatAre_24]
        cases u
        · rw [pb_zbf] at e1
          simp only [Bool.not_false, pb_zbt]
          rw [if_neg (by decide), e1]
          simp only [Option.bind_some, e0, mo_rulesThatAre_37, zlet, nI_1, Int32.or_zero]
          rfl
        · rw [pb_zbt] at e1
          simp only [Bool.not_true, pb_zbf, if_true, e1, Option.bind_some, e0, mo_rulesThatAre_37, zlet, nI_1, Int32.or_zero]
          rfl
      rw [List.range'_succ, List.filter_cons, e24]
      by_cases q : py_cf (S.2.1.2 r) u = 0
      · obtain ⟨M2, f1, f2⟩ := ih (r + 1) M1 (acc ||| zbit r) (by omega) h1 fuel (by omega)
        have qb : (py_cf (S.2.1.2 r) u == 0) = true := by simpa using q
        rw [if_pos q, qb, f1]
        exact ⟨M2, rfl, zf_trans e2 f2⟩
      · obtain ⟨M2, f1, f2⟩ := ih (r + 1) M1 acc (by omega) h1 fuel (by omega)
        have qb : (py_cf (S.2.1.2 r) u == 0) = false := by simpa using q
        rw [if_neg q, qb, f1]
        exact ⟨M2, rfl, zf_trans e2 f2⟩
theorem mr_rulesThatAre (h : mI am M S) (hz : zz_ok S) (hd : 37 ≤ d) (u : Bool) : ∃ M', mo_rulesThatAre d am (zb (!u)) M = some (zor (py_ra S u), M') ∧ zf (mw_W am) M M' := by
  have hR := hz.2.1
  have hLF := pb_LF
  obtain ⟨d, rfl⟩ : ∃ d', d = d' + 1 := ⟨d - 1, by omega⟩
  exact mr_rulesThatAre_4 (am := am) (d := d) hz (by omega) u S.2.1.1 0 M 0 (by omega) h zLF (by omega)
theorem mr_fullest_15 (h : mI am M S) (hz : zz_ok S) : ∀ (m t b : Nat), t + m = S.2.2.1.length → b < S.2.2.1.length → ∀ fuel, m < fuel → mo_fullest_15 d fuel am (nI b) (nI t) M = some (nI ((List.range' t m).foldl (fun b t => if py_hold S.2.2.1 b < py_hold S.2.2.1 t then t else b) b), M) := by
  have h60 := hz.2.2.2.2.1.1
  intro m
  induction m with
  | zero =>
    intro t b ht hb fuel hf
    cases fuel with
    | zero => cases hf
    | succ fuel =>
      have : t = S.2.2.1.length := by omega
      subst this
      simp [mo_fullest_15, h.2.2.2.1.1]
  | succ m ih =>
    intro t b ht hb fuel hf
    cases fuel with
    | zero => cases hf
    | succ fuel =>
      have hge : ¬ nI S.2.2.1.length ≤ nI t := nI_ge (by omega) (by omega)
      have htl : t < S.2.2.1.length := by omega
      have hgt : S.2.2.1[t]? = some S.2.2.1[t] := by simp
      have hgb : S.2.2.1[b]? = some S.2.2.1[b] := by simp
      have vt := (h.2.2.2.1.2 t _ hgt).2.2.1
      have vb := (h.2.2.2.1.2 b _ hgb).2.2.1
      have ot := (hz.2.2.2.2.1.2 t _ hgt).2.2.2.1
      have ob := (hz.2.2.2.2.1.2 b _ hgb).2.2.2.1
      have hht : py_hold S.2.2.1 t = S.2.2.1[t].2.2.1 := by simp [py_hold, hgt]
      have hhb : py_hold S.2.2.1 b = S.2.2.1[b].2.2.1 := by simp [py_hold, hgb]
      have zt : z_in (nI (4 * t + 2)) 240 := nI_in (by omega) (by omega)
      have zb' : z_in (nI (4 * b + 2)) 240 := nI_in (by omega) (by omega)
      have et : nI (4 * t) + 2 = nI (4 * t + 2) := nI_add (4 * t) 2
      have eb : nI (4 * b) + 2 = nI (4 * b + 2) := nI_add (4 * b) 2
      have ele : (nI S.2.2.1[t].2.2.1 ≤ nI S.2.2.1[b].2.2.1) ↔ S.2.2.1[t].2.2.1 ≤ S.2.2.1[b].2.2.1 := nI_leI (by omega) (by omega)
      rw [List.range'_succ, List.foldl_cons, hht, hhb]
      simp only [mo_fullest_15, h.2.2.2.1.1, if_neg hge, ml_R18 h.1, ml_L18 h.1, mx_41, et, eb, if_pos zt, if_pos zb', nI_clamp (show 4 * t + 2 < 2 ^ 31 by omega), nI_clamp (show 4 * b + 2 < 2 ^ 31 by omega), vt, vb, ele, mo_fullest_51, zlet, nI_1]
      by_cases q : S.2.2.1[t].2.2.1 ≤ S.2.2.1[b].2.2.1
      · rw [if_pos q, if_neg (by omega)]
        exact ih (t + 1) b (by omega) hb fuel (by omega)
      · rw [if_neg q, if_pos (by omega)]
        exact ih (t + 1) t (by omega) htl fuel (by omega)
theorem mr_fullest (h : mI am M S) (hz : zz_ok S) : mo_fullest d am M = some (zo (py_fu S.2.2.1), M) := by
  have h60 := hz.2.2.2.2.1.1
  have hLF := pb_LF
  have e0 : (nI S.2.2.1.length = 0) ↔ S.2.2.1.length = 0 := nI_eq (b := 0) (by omega) (by omega)
  unfold mo_fullest py_fu
  simp only [h.2.2.2.1.1, e0]
  by_cases q : S.2.2.1.length = 0
  · rw [if_pos q, if_pos q]
    unfold mo_fullest_12
    have ez : zLF = zLF - 1 + 1 := by omega
    rw [ez]
    have hle : nI S.2.2.1.length ≤ 1 := by rw [q]; decide
    simp [mo_fullest_15, h.2.2.2.1.1, hle, zo]
  · rw [if_neg q, if_neg q]
    unfold mo_fullest_12
    have := mr_fullest_15 (d := d) h hz (S.2.2.1.length - 1) 1 0 (by omega) (by omega) zLF (by omega)
    exact this
theorem mr_deepest_4 (h : mI am M S) (hz : zz_ok S) : ∀ (b a : List yT) (acc : Nat), S.2.2.1 = a ++ b → acc ≤ 8 → ∀ fuel, b.length < fuel → mo_deepest_4 d fuel am (nI acc) (nI a.length) M = some (nI (b.foldl (fun m x => max m (x.2.2.2 + 1)) acc), M) := by
  have h60 := hz.2.2.2.2.1.1
  intro b
  induction b with
  | nil =>
    intro a acc e hacc fuel hf
    cases fuel with
    | zero => cases hf
    | succ fuel =>
      have : S.2.2.1.length = a.length := by rw [e]; simp
      simp [mo_deepest_4, h.2.2.2.1.1, this]
  | cons x b ih =>
    intro a acc e hacc fuel hf
    cases fuel with
    | zero => cases hf
    | succ fuel =>
      have hal : S.2.2.1.length = a.length + (b.length + 1) := by rw [e]; simp
      have hge : ¬ nI S.2.2.1.length ≤ nI a.length := nI_ge (by omega) (by omega)
      have hg : S.2.2.1[a.length]? = some x := by rw [e]; simp
      have vx := (h.2.2.2.1.2 _ _ hg).2.2.2
      have ox := (hz.2.2.2.2.1.2 _ _ hg).2.2.2.2
      have zt : z_in (nI (4 * a.length + 3)) 240 := nI_in (by omega) (by omega)
      have et : nI (4 * a.length) + 3 = nI (4 * a.length + 3) := nI_add (4 * a.length) 3
      have ih' := ih (a ++ [x]) (max acc (x.2.2.2 + 1)) (by rw [e]; simp) (by omega) fuel (by simp at hf; omega)
      simp only [List.length_append, List.length_cons, List.length_nil, Nat.zero_add] at ih'
      rw [List.foldl_cons, ← ih']
      simp only [mo_deepest_4, h.2.2.2.1.1, if_neg hge, ml_R18 h.1, ml_L18 h.1, mx_41, et, if_pos zt, nI_clamp (show 4 * a.length + 3 < 2 ^ 31 by omega), vx, nI_1, zlet]
      rw [pb_max (by omega) (by omega)]
theorem mf_cou (h : mI am M S) (hz : zz_ok S) (hd : 200 ≤ d) (w : Int32) : mf_r am M S (mo_count d am w M) (sp_cou S w) := by
  have hLF := pb_LF
  have h60 := hz.2.2.2.2.1.1
  obtain ⟨d, rfl⟩ : ∃ d', d = d' + 1 := ⟨d - 1, by omega⟩
  have eb : mo_count (d + 1) am w M = mo_count_b d am w M := rfl
  rw [eb]
  obtain ⟨h0, hf0⟩ := mI_0 h 0
  unfold mo_count_b sp_cou
  simp only [zlet]
  by_cases q0 : w = 0
  · exact mf_mk0 h0 hf0 (by simp [q0, h0.2.1.1])
  · rw [if_neg q0, if_neg q0]
    by_cases q1 : w = 1
    · exact mf_mk0 h0 hf0 (by simp [q1, h0.2.2.1.1])
    · rw [if_neg q1, if_neg q1]
      by_cases q2 : w = 2
      · exact mf_mk0 h0 hf0 (by simp [q2, h0.2.2.2.1.1])
      · rw [if_neg q2, if_neg q2]
        by_cases q3 : w = 3
        · obtain ⟨M1, e1, e2⟩ := mr_wrongs (d := d) h0 hz (by omega)
          rw [if_pos q3, if_pos q3]
          refine mf_mk h0 hf0 (by rw [e1]; rfl) e2 (by simp [mi_F]) (by simp [mi_A]) ?_
          rw [mg_f e2 (by simp)]
          exact h0.2.2.2.2.2
        · rw [if_neg q3, if_neg q3]
          by_cases q4 : w = 4
          · obtain ⟨M1, e1, e2⟩ := mr_rulesThatAre (d := d) h0 hz (by omega) true
            rw [Bool.not_true, pb_zbf] at e1
            rw [if_pos q4, if_pos q4]
            exact mf_mkW h0 hf0 (by rw [e1]; rfl) e2
          · rw [if_neg q4, if_neg q4]
            by_cases q5 : w = 5
            · obtain ⟨M1, e1, e2⟩ := mr_rulesThatAre (d := d) h0 hz (by omega) false
              rw [Bool.not_false, pb_zbt] at e1
              rw [if_pos q5, if_pos q5]
              exact mf_mkW h0 hf0 (by rw [e1]; rfl) e2
            · rw [if_neg q5, if_neg q5]
              by_cases q6 : w = 6
              · rw [if_pos q6, if_pos q6]
                exact mf_mk0 h0 hf0 (by rw [mr_fullest h0 hz]; rfl)
              · rw [if_neg q6, if_neg q6]
                by_cases q7 : w = 7
                · rw [if_pos q7, if_pos q7]
                  have := mr_deepest_4 (d := d) h0 hz S.2.2.1 [] 0 rfl (by omega) zLF (by omega)
                  have this' : mo_deepest d am (zm_setI M 12 am 0 0) = _ := this
                  exact mf_mk0 h0 hf0 (by rw [this']; rfl)
                · rw [if_neg q7, if_neg q7]
                  exact mf_mk0 h0 hf0 rfl
end
