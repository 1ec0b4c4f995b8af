/-! THE CLASS: a node is left -/
section
variable {M M' : zM} {pa : Nat → Nat} {P : yP} {d wy Q : Nat}
theorem an_cons (p k c : Nat) (b : List Nat) : py_an2 P p k (c :: b) = (if c = k then [] else py_il P (some p) c none) ++ py_an2 P p k b := by
  unfold py_an2
  rw [List.filter_cons]
  by_cases e : c = k
  · rw [if_pos e]
    simp [e]
  · rw [if_neg e]
    simp [e]
theorem cl_wany_13 (hP : py_ok P) {p k : Nat} (hp : py_dm P p) (hk : py_dm P k) (k4 : py_kd P p = 4) : ∀ (b a : List Nat) (M : zM) (l : List yK), py_ks P p = a ++ b → wS M pa Q P wy → wk_h M wy l → l.length + (py_an2 P p k b).length ≤ 48 → ∀ fuel, b.length < fuel → ∃ M', wy_leaveInAny_13 d fuel wy (some (pa k)) (some (pa p)) (nI (4 * py_nb P p)) (b.head?.map pa) M = some M' ∧ wk_h M' wy (l ++ (py_an2 P p k b).map (fun W => (W, zm_I M 9 wy 5, zm_I M 9 wy 6, py_ah1 P W))) ∧ zf (wy_W wy) M M' ∧ zm_I M' 9 wy 5 = zm_I M 9 wy 5 ∧ zm_I M' 9 wy 6 = zm_I M 9 wy 6 ||| py_o1n P p := by
  intro b
  induction b with
  | nil =>
    intro a M l e h hl hlen fuel hf
    cases fuel with
    | zero => cases hf
    | succ fuel =>
      have h14 : zm_I M 3 (pa p) 14 = zor (py_ml (py_nu P) (py_ks P p) 0) := (h.1.2.1 p hp).2.2.2.2.2.2.1 k4
      have eo : py_o1n P p = zor (py_ml (py_nu P) (py_ks P p) 0) <<< (nI (4 * py_nb P p) &&& 31) := by unfold py_o1n; rw [if_pos k4]
      refine ⟨zm_setI M 9 wy 6 (zm_I M 9 wy 6 ||| py_o1n P p), ?_, ?_, zf_set (.inl ⟨rfl, rfl, .inr (.inr rfl)⟩), pm_ne (by omega), pm_same⟩
      · simp only [List.head?_nil, Option.map_none, wy_leaveInAny_13, zlet, h14, eo]
      · show wk_h _ wy (l ++ [])
        rw [List.append_nil]
        refine ⟨(pm_ne (by omega)).trans hl.1, hl.2.1, ?_⟩
        intro i x hx
        rw [pm_ne (by omega), pm_ne (by omega), pm_ne (by omega), pm_ne (by omega)]
        exact hl.2.2 i x hx
  | cons c b ih =>
    intro a M l e h hl hlen fuel hf
    cases fuel with
    | zero => cases hf
    | succ fuel =>
      have hc : c ∈ py_ks P p := by rw [e]; simp
      have hcd := ok_kid hP hp hc
      have hnd := ok_nd hP hp
      have hca : ¬ c ∈ a := by
        rw [e] at hnd
        have := (List.nodup_append.mp hnd).2.2
        exact fun hx => this c hx c (by simp) rfl
      have hbf : py_bf (py_ks P p) c = a := by rw [e]; exact (bf_eq hca).1
      rw [an_cons, List.length_append] at hlen
      have inj : (some (pa c) = some (pa k)) ↔ c = k := by
        constructor
        · intro g
          exact h.1.1.2.2 c k hcd hk (by injection g)
        · intro g; rw [g]
      rw [an_cons]
      by_cases q : c = k
      · rw [if_pos q] at hlen ⊢
        simp only [List.length_nil, Nat.zero_add] at hlen
        simp only [List.head?_cons, Option.map_some, wy_leaveInAny_13, if_pos (inj.mpr q), wy_leaveInAny_43, cN_nx h.1.1 hp e]
        obtain ⟨M', k1, k2⟩ := ih (a ++ [c]) M l (by rw [e]; simp) h hl (by omega) fuel (by simp at hf; omega)
        exact ⟨M', k1, k2⟩
      · rw [if_neg q] at hlen ⊢
        obtain ⟨M1, g1, g2, g3, g4, g5⟩ := cl_put (d := d) hP (c := c) (a := some p) (b := none) (ah := zbit (4 * py_nb P p + a.length)) (fun x hx => by cases hx) h.2.1 hl (by omega)
        have h1 := wS_zf h g3
        have ex : zm_R M1 3 (pa c) 7 = b.head?.map pa := cN_nx h1.1.1 hp e
        have eo : (-1 : Int32) = zo none := rfl
        have eb : (1 : Int32) <<< ((nI (4 * py_nb P p) + nI a.length) &&& 31) = zbit (4 * py_nb P p + a.length) := by rw [nI_add]; rfl
        simp only [List.head?_cons, Option.map_some, wy_leaveInAny_13, if_neg (fun x => q (inj.mp x)), wy_leaveInAny_43, cX_fl h.1 hcd, cN_pl h.1.1 hp e, eo, eb, g1, Option.bind_some, ex]
        obtain ⟨M', k1, k2, k3, k5, k6⟩ := ih (a ++ [c]) M1 _ (by rw [e]; simp) h1 g2 (by rw [List.length_append, List.length_map]; omega) fuel (by simp at hf; omega)
        refine ⟨M', k1, ?_, zf_trans g3 k3, k5.trans g4, k6.trans (by rw [g5])⟩
        rw [g4, g5, List.append_assoc] at k2
        have em : (py_il P (some p) c none).map (fun W => (W, zm_I M 9 wy 5, zm_I M 9 wy 6, zbit (4 * py_nb P p + a.length))) = (py_il P (some p) c none).map (fun W => (W, zm_I M 9 wy 5, zm_I M 9 wy 6, py_ah1 P W)) := by
          refine List.map_congr_left ?_
          intro W hW
          rw [il_ah hW, if_pos k4, hbf]
        rw [em, ← List.map_append] at k2
        exact k2
theorem few_i (hP : py_ok P) {n : Nat} (hn : py_dm P n) (k5 : py_kd P n = 5) : py_few P (py_nb P n) ≤ 12 ∧ 1 ≤ py_few P (py_nb P n) := by
  have h5 := (ok_k5 hP hn k5).2.1
  obtain ⟨b, _, _, e⟩ := few_v hP h5
  have hfr := ok_fr hP h5
  rw [e]
  split
  · omega
  · omega
/-- a node is left within the one above -/
theorem cl_wleave (hP : py_ok P) {p k : Nat} (hk : py_dm P k) (e : py_up P k = some p) {l : List yK} (h : wS M pa Q P wy) (hl : wk_h M wy l) (hlen : l.length + (py_lv P k).length ≤ 48) : ∃ M', wy_leave (d + 2) wy (some Q) (some (pa k)) (some (pa p)) M = some (zb (py_pst P k), M') ∧ wk_h M' wy (l ++ py_cvl P k (zm_I M 9 wy 5) (zm_I M 9 wy 6)) ∧ zf (wy_W wy) M M' ∧ zm_I M' 9 wy 5 = zm_I M 9 wy 5 ||| py_e1n P p ∧ zm_I M' 9 wy 6 = zm_I M 9 wy 6 ||| py_o1n P p := by
  have hp := ok_pdm hP hk e
  have hm := ok_pks hP hk e
  have hfin := ok_fin hP hk e
  obtain ⟨ck5, _, _, c2, c3, c4, c5⟩ := ck_v hP hp
  have e2 : (nI (ck (py_kd P p)) = 2) ↔ py_kd P p = 2 := (nI_eq (b := 2) (by omega) (by omega)).trans c2
  have e3 : (nI (ck (py_kd P p)) = 3) ↔ py_kd P p = 3 := (nI_eq (b := 3) (by omega) (by omega)).trans c3
  have e4 : (nI (ck (py_kd P p)) = 4) ↔ py_kd P p = 5 := (nI_eq (b := 4) (by omega) (by omega)).trans c4
  have e5 : (nI (ck (py_kd P p)) = 5) ↔ py_kd P p = 4 := (nI_eq (b := 5) (by omega) (by omega)).trans c5
  have ru := cR_ru h.1.2.2.1
  have elv : py_lv P k = if py_kd P p = 2 then py_rw P p (py_af (py_ks P p) k) else if py_kd P p = 4 then py_an2 P p k (py_ks P p) else if py_kd P p = 5 ∧ py_to P (py_nb P p) ≠ some 1 then py_il P (some p) k (some (py_nb P p)) else [] := by
    unfold py_lv
    rw [e]
  have eps : py_pst P k = if py_kd P p = 2 then (py_af (py_ks P p) k).all (py_nu P) else true := by
    unfold py_pst
    rw [e]
  have x0 : ∀ x : Int32, x ||| 0 = x := fun x => Int32.or_zero
  have hb : wy_leave (d + 2) wy (some Q) (some (pa k)) (some (pa p)) M = wy_leave_b (d + 1) wy (some Q) (some (pa k)) (some (pa p)) M := rfl
  rw [hb]
  unfold wy_leave_b py_cvl
  rw [elv] at hlen ⊢
  rw [eps]
  simp only [cN_kd h.1.1 hp, e2, e3, e4, e5]
  by_cases k2 : py_kd P p = 2
  · rw [if_pos k2] at hlen ⊢
    rw [if_pos k2, if_pos k2]
    have := ks_LF hP hp
    have h3 : (py_af (py_ks P p) k).length < zLF := by
      have := congrArg List.length hfin.1
      rw [List.length_append, List.length_cons] at this
      omega
    obtain ⟨M', g1, g2, g3, g4, g5⟩ := cl_wrow_5 (d := d) (wy := wy) hP hp (py_af (py_ks P p) k) (py_bf (py_ks P p) k ++ [k]) M l (by rw [List.append_assoc]; exact hfin.1) h hl hlen zLF h3
    have ex : zm_R M 3 (pa k) 7 = (py_af (py_ks P p) k).head?.map pa := cN_nx h.1.1 hp hfin.1
    refine ⟨M', ?_, ?_, g3, ?_, ?_⟩
    · show ((wy_leaveInRow_b d wy (some (pa k)) M).bind _) = _
      unfold wy_leaveInRow_b
      simp only [ex, g1, Option.bind_some]
      rw [if_pos (by cases (py_af (py_ks P p) k).all (py_nu P) <;> simp [zb])]
    · have em : (py_rw P p (py_af (py_ks P p) k)).map (fun W => (W, zm_I M 9 wy 5, zm_I M 9 wy 6, (0 : Int32))) = (py_rw P p (py_af (py_ks P p) k)).map (fun W => (W, zm_I M 9 wy 5, zm_I M 9 wy 6, py_ah1 P W)) := by
        refine List.map_congr_left ?_
        intro W hW
        rw [rw_ah hP (p := p) (by omega) _ W hW]
      rw [em] at g2
      exact g2
    · unfold py_e1n
      rw [if_neg (by omega), g4, x0]
    · unfold py_o1n
      rw [if_neg (by omega), g5, x0]
  · rw [if_neg k2] at hlen ⊢
    rw [if_neg k2, if_neg k2]
    by_cases k4 : py_kd P p = 4
    · rw [if_pos k4] at hlen ⊢
      rw [if_neg (show ¬ py_kd P p = 3 by omega), if_neg (show ¬ py_kd P p = 5 by omega), if_pos k4]
      obtain ⟨M', g1, g2, g3, g4, g5⟩ := cl_wany_13 (d := d) (wy := wy) hP hp hk k4 (py_ks P p) [] M l rfl h hl hlen zLF (ks_LF hP hp)
      refine ⟨M', ?_, g2, g3, ?_, g5⟩
      · show ((wy_leaveInAny_b d wy (some (pa k)) (some (pa p)) M).bind _) = _
        unfold wy_leaveInAny_b
        have em : (4 : Int32) * nI (py_nb P p) = nI (4 * py_nb P p) := pk_mul 4 _
        simp only [cN_nb h.1.1 hp (.inr (.inl k4)), em, zlet, cN_ks h.1.1 hp, g1, Option.bind_some]
        rfl
      · unfold py_e1n
        rw [if_neg (by omega), g4, x0]
    · simp only [if_neg k4] at hlen ⊢
      by_cases k5 : py_kd P p = 5
      · have h5 := ok_k5 hP hp k5
        have hn8 : py_nb P p < 8 := by have := ok_nc hP; omega
        have hz : z_in (nI (py_nb P p)) 8 := nI_in (by omega) (by omega)
        have hto : zm_I M 20 (Q + 6) (py_nb P p) = zo (py_to P (py_nb P p)) := (h.1.2.2.1.1.2 _ h5.2.1).2
        obtain ⟨f1, f2⟩ := few_i hP hp k5
        rw [if_neg (show ¬ py_kd P p = 3 by omega), if_pos k5]
        have h76 : ∀ M1, wS M1 pa Q P wy → wy_leave_76 (d + 1) wy (some Q) (some (pa p)) M1 = some (1, if 1 < py_few P (py_nb P p) then zm_setI M1 9 wy 5 (zm_I M1 9 wy 5 ||| zbit (py_nb P p)) else M1) := by
          intro M1 h1
          have r1 := cR_ru h1.1.2.2.1
          unfold wy_leave_76
          simp only [r1.2.2.2.2.2.2.1.1, r1.2.2.2.2.2.2.1.2, cN_nb h1.1.1 hp (.inr (.inr k5)), if_pos hz, nI_clamp (show py_nb P p < 2 ^ 31 by omega), h1.1.2.2.2.1 _ h5.2.1]
          have el : (nI (py_few P (py_nb P p)) ≤ 1) ↔ py_few P (py_nb P p) ≤ 1 := le_i2 (a := 1) (by omega) (by omega)
          by_cases g : 1 < py_few P (py_nb P p)
          · rw [if_neg (fun x => by have := el.mp x; omega), if_pos g]
            rfl
          · rw [if_pos (el.mpr (by omega)), if_neg g]
            rfl
        have hfin2 : ∀ (M1 : zM) (l1 : List yK), wk_h M1 wy l1 → zm_I M1 9 wy 5 = zm_I M 9 wy 5 → zm_I M1 9 wy 6 = zm_I M 9 wy 6 → ∃ M', M' = (if 1 < py_few P (py_nb P p) then zm_setI M1 9 wy 5 (zm_I M1 9 wy 5 ||| zbit (py_nb P p)) else M1) ∧ wk_h M' wy l1 ∧ zf (wy_W wy) M1 M' ∧ zm_I M' 9 wy 5 = zm_I M 9 wy 5 ||| py_e1n P p ∧ zm_I M' 9 wy 6 = zm_I M 9 wy 6 ||| py_o1n P p := by
          intro M1 l1 w1 w2 w3
          have eo : py_o1n P p = 0 := by unfold py_o1n; rw [if_neg k4]
          rw [eo, x0]
          unfold py_e1n
          by_cases g : 1 < py_few P (py_nb P p)
          · rw [if_pos g, if_pos ⟨k5, g⟩]
            refine ⟨_, rfl, ⟨(pm_ne (by omega)).trans w1.1, w1.2.1, ?_⟩, zf_set (.inl ⟨rfl, rfl, .inr (.inl rfl)⟩), ?_, ?_⟩
            · intro i x hx
              rw [pm_ne (by omega), pm_ne (by omega), pm_ne (by omega), pm_ne (by omega)]
              exact w1.2.2 i x hx
            · rw [pm_same, w2]
            · rw [pm_ne (by omega), w3]
          · rw [if_neg g, if_neg (fun x => g x.2), x0]
            exact ⟨_, rfl, w1, zf_refl _ _, w2, w3⟩
        simp only [ru.2.2.2.2.2.1.1, ru.2.2.2.2.2.1.2, cN_nb h.1.1 hp (.inr (.inr k5)), if_pos hz, nI_clamp (show py_nb P p < 2 ^ 31 by omega), hto]
        by_cases k1 : py_to P (py_nb P p) = some 1
        · rw [if_neg (show ¬ (py_kd P p = 5 ∧ py_to P (py_nb P p) ≠ some 1) from fun x => x.2 k1)]
          have : zo (py_to P (py_nb P p)) = 1 := by rw [k1]; rfl
          rw [if_pos this, h76 M h]
          obtain ⟨M', w1, w2, w3, w4, w5⟩ := hfin2 M l hl rfl rfl
          rw [← w1]
          refine ⟨M', rfl, ?_, w3, w4, w5⟩
          simpa using w2
        · have hne : ¬ zo (py_to P (py_nb P p)) = 1 := by
            intro x
            apply k1
            cases ht : py_to P (py_nb P p) with
            | none => rw [ht] at x; exact absurd x (by decide)
            | some t =>
              rw [ht] at x
              have hx : nI t = nI 1 := x
              have ht12 := ok_to hP h5.2.1 ht
              rw [(nI_eq (a := t) (b := 1) (by omega) (by omega)).mp hx]
          rw [if_pos (show py_kd P p = 5 ∧ py_to P (py_nb P p) ≠ some 1 from ⟨k5, k1⟩)] at hlen ⊢
          rw [if_neg hne]
          obtain ⟨M1, g1, g2, g3, g4, g5⟩ := cl_put (d := d + 1) hP (c := k) (a := some p) (b := some (py_nb P p)) (ah := 0) (fun x hx => by injection hx with hx; omega) h.2.1 hl hlen
          have g1 : wy_put (d + 1) wy (zor (py_fl P k)) (nI (py_nb P p)) 0 M = some M1 := g1
          simp only [cX_fl h.1 hk, g1, Option.bind_some]
          rw [h76 M1 (wS_zf h g3)]
          obtain ⟨M', w1, w2, w3, w4, w5⟩ := hfin2 M1 _ g2 g4 g5
          rw [← w1]
          refine ⟨M', rfl, ?_, zf_trans g3 w3, w4, w5⟩
          have em : (py_il P (some p) k (some (py_nb P p))).map (fun W => (W, zm_I M 9 wy 5, zm_I M 9 wy 6, (0 : Int32))) = (py_il P (some p) k (some (py_nb P p))).map (fun W => (W, zm_I M 9 wy 5, zm_I M 9 wy 6, py_ah1 P W)) := by
            refine List.map_congr_left ?_
            intro W hW
            rw [il_ah hW, if_neg k4]
          rw [em] at w2
          exact w2
      · rw [if_neg (show ¬ (py_kd P p = 5 ∧ py_to P (py_nb P p) ≠ some 1) from fun x => k5 x.1)]
        refine ⟨M, ?_, by simpa using hl, zf_refl _ _, ?_, ?_⟩
        · rw [if_neg k5]
          by_cases k3 : py_kd P p = 3
          · rw [if_pos k3]; rfl
          · rw [if_neg k3]; rfl
        · unfold py_e1n
          rw [if_neg (fun x => k5 x.1), x0]
        · unfold py_o1n
          rw [if_neg k4, x0]
end
