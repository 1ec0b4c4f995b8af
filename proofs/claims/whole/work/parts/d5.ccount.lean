/-! THE CLASS's parser: counts -/
theorem nI_all (v : Int32) : ∃ n : Nat, nI n = v := by
  refine ⟨v.toBitVec.toNat, ?_⟩
  apply Int32.toBitVec.inj
  show (Int32.ofNat v.toBitVec.toNat).toBitVec = v.toBitVec
  simp
theorem bnd_e {bs : List Nat} {p e : Nat} (m : pp_num 0 (py_sk bs p).1 (py_sk bs p).2 = .error e) : pp_bnd bs p = .error e := by
  unfold pp_bnd
  rw [m]
theorem bnd_c {bs zs : List Nat} {p : Nat} {y : Nat × List Nat × Nat} (m : pp_num 0 (py_sk bs p).1 (py_sk bs p).2 = .ok y) (e : (py_sk y.2.1 y.2.2).1 = 44 :: zs) : pp_bnd bs p = if (py_sk zs ((py_sk y.2.1 y.2.2).2 + 1)).1.head? = some 125 then .ok (y.1, none, (py_sk zs ((py_sk y.2.1 y.2.2).2 + 1)).1.tail, (py_sk zs ((py_sk y.2.1 y.2.2).2 + 1)).2 + 1) else (match pp_num (max 1 y.1) (py_sk zs ((py_sk y.2.1 y.2.2).2 + 1)).1 (py_sk zs ((py_sk y.2.1 y.2.2).2 + 1)).2 with
    | .error e => .error e
    | .ok w => match pp_sgn 125 w.2.1 w.2.2 with
      | .error e => .error e
      | .ok v => .ok (y.1, some w.1, v.1, v.2)) := by
  have es : pp_sgn 44 y.2.1 y.2.2 = .ok (zs, (py_sk y.2.1 y.2.2).2 + 1) := by
    unfold pp_sgn
    rw [if_pos (by rw [e]; rfl), e]
    rfl
  unfold pp_bnd
  rw [m]
  dsimp only
  rw [if_neg (by rw [e]; simp), es]
  rfl
theorem bnd_n {bs : List Nat} {p : Nat} {y : Nat × List Nat × Nat} (m : pp_num 0 (py_sk bs p).1 (py_sk bs p).2 = .ok y) (e : ¬ (py_sk y.2.1 y.2.2).1.head? = some 44) : pp_bnd bs p = if (py_sk y.2.1 y.2.2).1.head? = some 125 then (if y.1 = 0 then .error (py_sk y.2.1 y.2.2).2 else .ok (y.1, some y.1, (py_sk y.2.1 y.2.2).1.tail, (py_sk y.2.1 y.2.2).2 + 1)) else .error (py_sk y.2.1 y.2.2).2 := by
  have es : pp_sgn 44 y.2.1 y.2.2 = .error (py_sk y.2.1 y.2.2).2 := if_neg e
  unfold pp_bnd
  rw [m]
  dsimp only
  rw [es]
section
variable {ac b r pn d : Nat} {pa : Nat → Nat} {M : zM} {T : List Nat} {q : yQp}
theorem cn_ar {N A n v : Nat} {X X' : Nat → yX} (h : cn_n M pa X N n) (hn : n < N) (hA : A < N) (inj : ∀ i j, i < N → j < N → pa i = pa j → i = j) (hX : ∀ k, k ≠ A → X' k = X k) (hXA : X' A = ((X A).1, (X A).2.1, (X A).2.2.1, (X A).2.2.2.1, v)) : cn_n (zm_setI M 3 (pa A) 3 (nI v)) pa X' N n := by
  have same : ∀ k, (X' k).1 = (X k).1 ∧ (X' k).2.1 = (X k).2.1 ∧ (X' k).2.2.1 = (X k).2.2.1 ∧ (X' k).2.2.2.1 = (X k).2.2.2.1 := by
    intro k
    by_cases e : k = A
    · subst e; rw [hXA]; exact ⟨rfl, rfl, rfl, rfl⟩
    · rw [hX k e]; exact ⟨rfl, rfl, rfl, rfl⟩
  obtain ⟨h1, h2, h3, h4, h5, h6, h7, h8, h9⟩ := h
  obtain ⟨s1, s2, s3, s4⟩ := same n
  unfold cn_n
  rw [s1, s2, s3, s4, pm_RI, pm_ne (show (3 : Nat) ≠ 3 ∨ pa n ≠ pa A ∨ 0 ≠ 3 by omega), pm_ne (show (3 : Nat) ≠ 3 ∨ pa n ≠ pa A ∨ 1 ≠ 3 by omega), pm_ne (show (3 : Nat) ≠ 3 ∨ pa n ≠ pa A ∨ 2 ≠ 3 by omega)]
  refine ⟨h1, h2, ?_, h4, h5, h6, ?_, h8, h9⟩
  · by_cases e : n = A
    · subst e
      rw [pm_same, hXA]
    · rw [pm_ne (.inr (.inl (fun x => e (inj n A hn hA x)))), hX n e]
      exact h3
  · intro i c hc
    obtain ⟨g1, g2, g3, g4⟩ := h7 i c hc
    rw [(same c).2.2.1, pm_ne (by omega)]
    exact ⟨g1, g2, g3, g4⟩
theorem cl_cnt {a0 : Nat} (h : cs_x ac b M T r pa pn q) (hw : pw_x a0 q.2.2) (hN : q.2.2.1 < 400) (hd : 2 ≤ d) {n : Nat} (hn : n < q.2.2.1) (hup : (q.2.2.2.1 n).2.2.1 = none) (har : (q.2.2.2.1 n).2.2.2.2 ≤ 1) (hC : q.2.2.2.2.2.1.length < 8) : ∃ M1 M2 M4 pa' pn', rs_make d b 4 (nI q.2.2.2.2.2.1.length) M = some (some (pa' q.2.2.1), M1) ∧ nd_append d (pa' q.2.2.1) (some (pa n)) M1 = some M2 ∧ zm_I M2 3 (pa' q.2.2.1) 3 = nI (q.2.2.2.1 n).2.2.2.2 ∧ zm_I M2 5 (b + 2 + 10 * r) 3 = nI q.2.2.2.2.2.1.length ∧ cb_x ac b M2 T r pa' pn' ∧ M4 = zm_setI (zm_setR (zm_setI M2 3 (pa' q.2.2.1) 3 (nI ((q.2.2.2.1 n).2.2.2.2 + 1))) 24 (b + 2 + 10 * r + 8) q.2.2.2.2.2.1.length (some (pa' q.2.2.1))) 5 (b + 2 + 10 * r) 3 (nI (q.2.2.2.2.2.1.length + 1)) ∧ (∃ f t, cs_x ac b M4 T r pa' pn' (q.1, q.2.1, pb_cnt q.2.2 n f t)) ∧ ce_x M pa pn M4 pa' pn' ∧ zh (cf_W b r pa' pn') M M4 := by
  obtain ⟨M1, pa', pn', g1, g2, g3, g4⟩ := cl_make (d := d) (kd := 5) (nb := q.2.2.2.2.2.1.length) (v := nI q.2.2.2.2.2.1.length) h hw hN (by omega) (fun _ => rfl)
  have epa : ∀ k, k < q.2.2.1 → pa' k = pa k := fun k hk => g3.2.1 k (by have := h.2.2.1.1; omega)
  have eX0 : (pb_open q.2.2 5 q.2.2.2.2.2.1.length).2.1 q.2.2.1 = (5, q.2.2.2.2.2.1.length, none, [], 0) := pu_s _ _ _
  have eX1 : (pb_open q.2.2 5 q.2.2.2.2.2.1.length).2.1 n = q.2.2.2.1 n := pu_o _ _ (by omega)
  obtain ⟨M2, k1, k2, k3, k4⟩ := cl_append (d := d) (A := q.2.2.1) (C := n) g2 (by show q.2.2.1 < q.2.2.1 + 1; omega) (by show n < q.2.2.1 + 1; omega) (by omega) (by show ((pb_open q.2.2 5 q.2.2.2.2.2.1.length).2.1 q.2.2.1).2.2.1 = none; rw [eX0]) (by show ((pb_open q.2.2 5 q.2.2.2.2.2.1.length).2.1 n).2.2.1 = none; rw [eX1]; exact hup) (by show ((pb_open q.2.2 5 q.2.2.2.2.2.1.length).2.1 q.2.2.1).2.2.2.1.length ≤ 400; rw [eX0]; simp) (by show ((pb_open q.2.2 5 q.2.2.2.2.2.1.length).2.1 q.2.2.1).2.2.2.2 ≤ 100 ∧ ((pb_open q.2.2 5 q.2.2.2.2.2.1.length).2.1 n).2.2.2.2 ≤ 100; rw [eX0, eX1]; exact ⟨Nat.zero_le _, by omega⟩)
  rw [epa n hn] at k1
  obtain ⟨c1, c2, c3, c4, c5, c6, c7⟩ := k2
  obtain ⟨x1, x2, x3⟩ := cnt_X q.2.2 n 0 none hn
  have hNp := c3.1
  have hNp : q.2.2.1 + 1 ≤ pn' := hNp
  have inj : ∀ i j, i < q.2.2.1 + 1 → j < q.2.2.1 + 1 → pa' i = pa' j → i = j := fun i j hi hj e => c1.2.2.1.2.2.2 i j (by omega) (by omega) e
  have e3 : zm_I M2 3 (pa' q.2.2.1) 3 = nI (q.2.2.2.1 n).2.2.2.2 := by
    have g := (c3.2.2 q.2.2.1 (by show q.2.2.1 < q.2.2.1 + 1; omega)).2.2.1
    have g : zm_I M2 3 (pa' q.2.2.1) 3 = nI ((py_put (py_u q.2.2.2.1 q.2.2.1 (5, q.2.2.2.2.2.1.length, none, [], 0)) q.2.2.1 n) q.2.2.1).2.2.2.2 := g
    rw [x3] at g
    rw [g]
    show nI (max 0 (q.2.2.2.1 n).2.2.2.2) = _
    rw [Nat.max_eq_right (Nat.zero_le _)]
  have e5 : zm_I M2 5 (b + 2 + 10 * r) 3 = nI q.2.2.2.2.2.1.length := c4.2.1
  obtain ⟨M4, hM4⟩ : ∃ Y, Y = zm_setI (zm_setR (zm_setI M2 3 (pa' q.2.2.1) 3 (nI ((q.2.2.2.1 n).2.2.2.2 + 1))) 24 (b + 2 + 10 * r + 8) q.2.2.2.2.2.1.length (some (pa' q.2.2.1))) 5 (b + 2 + 10 * r) 3 (nI (q.2.2.2.2.2.1.length + 1)) := ⟨_, rfl⟩
  have z3 : zh (fun t k j => t = 3 ∧ k = pa' q.2.2.1 ∧ j = 3) M2 (zm_setI M2 3 (pa' q.2.2.1) 3 (nI ((q.2.2.2.1 n).2.2.2.2 + 1))) := zh_setI ⟨rfl, rfl, rfl⟩
  have z34 : zh (cq_W (b + 2 + 10 * r)) (zm_setI M2 3 (pa' q.2.2.1) 3 (nI ((q.2.2.2.1 n).2.2.2.2 + 1))) M4 := by
    rw [hM4]
    exact zh_trans (zh_setR (.inr (.inr ⟨rfl, .inr (.inl rfl)⟩))) (zh_setI (.inl ⟨rfl, rfl, by omega, by omega⟩))
  have hQ := cb_rs c1
  have hb := cb_b c1
  have c1' : cb_x ac b (zm_setI M2 3 (pa' q.2.2.1) 3 (nI ((q.2.2.2.1 n).2.2.2.2 + 1))) T r pa' pn' := cb_zh c1 z3 (fun t k j v w => by rcases v with v | v | v | v | v | v <;> omega)
  obtain ⟨f0, hf0⟩ := nI_all (zm_I M2 20 (b + 2 + 10 * r + 5) q.2.2.2.2.2.1.length)
  obtain ⟨t0, ht0⟩ := nI_all (zm_I M2 20 (b + 2 + 10 * r + 6) q.2.2.2.2.2.1.length)
  have n4 : zm_n M4 = zm_n M2 ∧ zm_s M4 = zm_s M2 := by
    rw [hM4]
    simp only [pm_nI, pm_nR, pm_sI, pm_sR, and_self]
  refine ⟨M1, M2, M4, pa', pn', g1, k1, e3, e5, c1, hM4, ⟨f0, some t0, cb_cq c1' z34, ?_, ?_, ⟨?_, ?_, ?_⟩, ?_, ?_, ?_⟩, ce_trans g3 (ce_trans k3 (ce_set n4.1 n4.2)), zh_trans g4 (zh_trans k4 (zh_trans (zh_mono z3 ?_) (zh_mono z34 (fun t k j _ w => cq_cf w))))⟩
  · refine cq_p_cq ⟨?_, c2.2⟩ (by show b < zm_n M2; omega) z34
    rw [pm_ne (by omega)]
    exact c2.1
  · refine cq_n_cq ⟨hNp, ?_, ?_⟩ c1' z34
    · rw [pm_ne (by omega)]
      exact c3.2.1
    · intro k hk
      have hk : k < q.2.2.1 + 1 := hk
      obtain ⟨y1, y2, y3⟩ := cnt_X q.2.2 n f0 (some t0) hn
      refine cn_ar (c3.2.2 k hk) hk (by show q.2.2.1 < q.2.2.1 + 1; omega) inj y1 ?_
      rw [y2]
      show _ = ((py_put (py_u q.2.2.2.1 q.2.2.1 (5, q.2.2.2.2.2.1.length, none, [], 0)) q.2.2.1 n q.2.2.1).1, (py_put (py_u q.2.2.2.1 q.2.2.1 (5, q.2.2.2.2.2.1.length, none, [], 0)) q.2.2.1 n q.2.2.1).2.1, (py_put (py_u q.2.2.2.1 q.2.2.1 (5, q.2.2.2.2.2.1.length, none, [], 0)) q.2.2.1 n q.2.2.1).2.2.1, (py_put (py_u q.2.2.2.1 q.2.2.1 (5, q.2.2.2.2.2.1.length, none, [], 0)) q.2.2.1 n q.2.2.1).2.2.2.1, _)
      rw [x3]
  · rw [hM4, pm_ne (by omega), pm_IR, pm_ne (by omega)]; exact c4.1
  · rw [hM4, pm_same]
    show nI (q.2.2.2.2.2.1.length + 1) = nI (q.2.2.2.2.2.1 ++ [(f0, some t0, q.2.2.1)]).length
    simp
  · rw [hM4, pm_ne (by omega), pm_IR, pm_ne (by omega)]; exact c4.2.2
  · intro i x hx
    rw [hM4, pm_ne (by omega), pm_IR, pm_ne (by omega), pm_RI, pr_ne (by omega), pm_RI]
    exact c5 i x hx
  · intro i x hx
    have hx : (q.2.2.2.2.2.1 ++ [(f0, some t0, q.2.2.1)])[i]? = some x := hx
    rw [hM4, pm_ne (by omega), pm_IR, pm_ne (by omega), pm_ne (by omega), pm_IR, pm_ne (by omega), pm_RI]
    by_cases e : i < q.2.2.2.2.2.1.length
    · rw [List.getElem?_append_left e] at hx
      rw [pr_ne (by omega), pm_RI]
      exact c6 i x hx
    · have e2 : i = q.2.2.2.2.2.1.length := by
        have := (List.getElem?_eq_some_iff.mp hx).1
        simp at this
        omega
      subst e2
      have ex : x = (f0, some t0, q.2.2.1) := by simpa using hx.symm
      subst ex
      exact ⟨hf0.symm, ht0.symm, pr_same⟩
  · intro i x hx
    rw [hM4, pm_RI, pr_ne (by omega), pm_RI]
    exact c7 i x hx
  · intro t k j _ w
    exact .inl ⟨w.1, by omega, q.2.2.1, by omega, w.2.1⟩
/-- the two numbers of the last count are told -/
theorem cs_bnd {bs : List Nat} {p n f0 f : Nat} {t0 t : Option Nat} {B : yBp} (h : cs_x ac b M T r pa pn (bs, p, pb_cnt B n f0 t0)) : cs_x ac b (zm_setI (zm_setI M 20 (b + 2 + 10 * r + 5) B.2.2.2.1.length (nI f)) 20 (b + 2 + 10 * r + 6) B.2.2.2.1.length (zo t)) T r pa pn (bs, p, pb_cnt B n f t) ∧ zh (cf_W b r pa pn) M (zm_setI (zm_setI M 20 (b + 2 + 10 * r + 5) B.2.2.2.1.length (nI f)) 20 (b + 2 + 10 * r + 6) B.2.2.2.1.length (zo t)) ∧ ce_x M pa pn (zm_setI (zm_setI M 20 (b + 2 + 10 * r + 5) B.2.2.2.1.length (nI f)) 20 (b + 2 + 10 * r + 6) B.2.2.2.1.length (zo t)) pa pn := by
  obtain ⟨c1, c2, c3, c4, c5, c6, c7⟩ := h
  have z : zh (cq_W (b + 2 + 10 * r)) M (zm_setI (zm_setI M 20 (b + 2 + 10 * r + 5) B.2.2.2.1.length (nI f)) 20 (b + 2 + 10 * r + 6) B.2.2.2.1.length (zo t)) := zh_trans (zh_setI (.inr (.inl ⟨rfl, .inr (.inl rfl)⟩))) (zh_setI (.inr (.inl ⟨rfl, .inr (.inr rfl)⟩)))
  have hb := cb_b c1
  refine ⟨⟨cb_cq c1 z, cq_p_cq c2 (by omega) z, cq_n_cq c3 c1 z, ⟨?_, ?_, ?_⟩, ?_, ?_, ?_⟩, zh_mono z (fun t k j _ w => cq_cf w), ce_set (by simp only [pm_nI]) (by simp only [pm_sI])⟩
  · rw [pm_ne (by omega), pm_ne (by omega)]; exact c4.1
  · rw [pm_ne (by omega), pm_ne (by omega), c4.2.1]
    congr 1
    simp [pb_cnt]
  · rw [pm_ne (by omega), pm_ne (by omega)]; exact c4.2.2
  · intro i x hx
    rw [pm_ne (by omega), pm_ne (by omega), pm_RI, pm_RI]
    exact c5 i x hx
  · intro i x hx
    have hx : (B.2.2.2.1 ++ [(f, t, B.1)])[i]? = some x := hx
    rw [pm_RI, pm_RI]
    by_cases e : i < B.2.2.2.1.length
    · rw [List.getElem?_append_left e] at hx
      rw [pm_ne (by omega), pm_ne (by omega), pm_ne (by omega), pm_ne (by omega)]
      refine c6 i x ?_
      show (B.2.2.2.1 ++ [(f0, t0, B.1)])[i]? = some x
      rw [List.getElem?_append_left e]
      exact hx
    · have e2 : i = B.2.2.2.1.length := by
        have := (List.getElem?_eq_some_iff.mp hx).1
        simp at this
        omega
      subst e2
      have ex : x = (f, t, B.1) := by simpa using hx.symm
      subst ex
      have g := c6 B.2.2.2.1.length (f0, t0, B.1) (by show (B.2.2.2.1 ++ [(f0, t0, B.1)])[B.2.2.2.1.length]? = _; simp)
      refine ⟨?_, pm_same, g.2.2⟩
      rw [pm_ne (by omega), pm_same]
  · intro i x hx
    rw [pm_RI, pm_RI]
    exact c7 i x hx
theorem cp_c6 {M' : zM} (h : cs_x ac b M T r pa pn q) (hf : zf (c6_W b) M M') : cp_x M' b pa pn := (cb_zh h.1 (zh_zf hf) (fun t k j v w => by unfold c6_W at w; rcases v with v | v | v | v | v | v <;> omega)).2.2.1
/-- how a piece that may fail ends -/
def cz_x (ac b : Nat) (M : zM) (T : List Nat) (r : Nat) (pa : Nat → Nat) (pn : Nat) (B : yBp) (n : Nat) (run : Option (Int32 × zM)) (v : Except Nat (Nat × Option Nat × List Nat × Nat)) : Prop := ∃ res M', run = some (res, M') ∧ ce_x M pa pn M' pa pn ∧ zh (cf_W b r pa pn) M M' ∧ ((∃ e, v = .error e ∧ res = 0 ∧ zm_I M' 6 b 7 = nI e ∧ cp_x M' b pa pn) ∨ (∃ x, v = .ok x ∧ res = 1 ∧ cs_x ac b M' T r pa pn (x.2.2.1, x.2.2.2, pb_cnt B n x.1 x.2.1)))
theorem cl_braces_74 (hok : tp_ok T) {bs : List Nat} {p n f0 f : Nat} {t0 t : Option Nat} {B : yBp} (h : cs_x ac b M T r pa pn (bs, p, pb_cnt B n f0 t0)) (hB : B.2.2.2.1.length < 8) (hf : f ≤ 12) (v4 : Int32) : cz_x ac b M T r pa pn B n (rs_braces_74 d b (nI B.2.2.2.1.length) (nI f) (zo t) v4 M) (if (py_sk bs p).1.head? = some 125 ∧ ¬ (v4 = 0 ∧ f = 0) then .ok (f, t, (py_sk bs p).1.tail, (py_sk bs p).2 + 1) else .error (py_sk bs p).2) := by
  unfold cz_x rs_braces_74
  obtain ⟨M1, g1, g2, g3, g4⟩ := cl_sign (d := d) (q := (bs, p, pb_cnt B n f0 t0)) hok h
  have g1 : rs_sign d b M = some (py_ht (py_sk bs p).1, M1) := g1
  have g4 : ∀ x, x ∈ (py_sk bs p).1 → x < 256 := g4
  have e125 : (py_ht (py_sk bs p).1 = 125) ↔ (py_sk bs p).1.head? = some 125 := ht_eq (c := 125) g4 (by omega)
  rw [g1]
  simp only [Option.bind_some, e125]
  have hp : zm_I M1 6 b 6 = nI (py_sk bs p).2 := g2.2.1.1
  have hbad : rs_braces_93 d b M1 = some (0, zm_setI M1 6 b 7 (nI (py_sk bs p).2)) := by
    unfold rs_braces_93 rs_fails
    rw [hp]
    simp [zlet]
  have z7 : zf (c6_W b) M (zm_setI M1 6 b 7 (nI (py_sk bs p).2)) := zf_trans g3 (zf_set ⟨rfl, rfl, .inr rfl⟩)
  have hgood : (py_sk bs p).1.head? = some 125 → ∃ M', rs_braces_98 d b (nI B.2.2.2.1.length) (nI f) (zo t) M1 = some (1, M') ∧ ce_x M pa pn M' pa pn ∧ zh (cf_W b r pa pn) M M' ∧ cs_x ac b M' T r pa pn ((py_sk bs p).1.tail, (py_sk bs p).2 + 1, pb_cnt B n f t) := by
    intro c
    cases e : (py_sk bs p).1 with
    | nil => rw [e] at c; cases c
    | cons y ys =>
      have g2' : cs_x ac b M1 T r pa pn (y :: ys, (py_sk bs p).2, pb_cnt B n f0 t0) := by
        have : pb_skip (bs, p, pb_cnt B n f0 t0) = (y :: ys, (py_sk bs p).2, pb_cnt B n f0 t0) := by
          unfold pb_skip
          dsimp only
          rw [e]
        rw [← this]
        exact g2
      obtain ⟨s1, s2⟩ := cs_step (q := (bs, p, pb_cnt B n f0 t0)) g2'
      obtain ⟨s3, s4, s5⟩ := cs_bnd (f := f) (t := t) s1
      have hru := cb_ru s1.1
      have hz : z_in (nI B.2.2.2.1.length) 8 := nI_in (by omega) (by omega)
      refine ⟨_, ?_, ce_trans (c6_ce g3) (ce_trans (c6_ce s2) s5), zh_trans (c6_zh g3) (zh_trans (c6_zh s2) s4), s3⟩
      unfold rs_braces_98
      simp only [zlet, hp, nI_1, cb_8 s1.1, (ru_9 hru).1, (ru_9 hru).2, if_pos hz, nI_clamp (show B.2.2.2.1.length < 2 ^ 31 by omega), pm_RI, pm_LI]
      have hru2 : cw_ru (zm_setI M1 6 b 6 (nI ((py_sk bs p).2 + 1))) (b + 2 + 10 * r) := hru
      have e8 : zm_R M1 6 b 8 = some (b + 2 + 10 * r) := cb_8 g2.1
      have hru3 := cb_ru g2.1
      simp only [e8, (ru_10 hru3).1, (ru_10 hru3).2, if_pos hz]
  by_cases c : (py_sk bs p).1.head? = some 125
  · rw [if_pos c]
    by_cases c4 : v4 = 0
    · rw [if_pos c4]
      by_cases cf : f = 0
      · rw [if_neg (show ¬ (1 : Int32) ≤ nI f from nI_ge (b := 1) (by omega) (by omega)), if_neg (fun x => x.2 ⟨c4, cf⟩), hbad]
        exact ⟨_, _, rfl, c6_ce z7, c6_zh z7, .inl ⟨_, rfl, rfl, pm_same, cp_c6 h z7⟩⟩
      · rw [if_pos (show (1 : Int32) ≤ nI f from nI_le (a := 1) (by omega) (by omega)), if_pos ⟨c, fun x => cf x.2⟩]
        obtain ⟨M', w1, w2, w3, w4⟩ := hgood c
        exact ⟨_, _, w1, w2, w3, .inr ⟨_, rfl, rfl, w4⟩⟩
    · rw [if_neg c4, if_pos ⟨c, fun x => c4 x.1⟩]
      obtain ⟨M', w1, w2, w3, w4⟩ := hgood c
      exact ⟨_, _, w1, w2, w3, .inr ⟨_, rfl, rfl, w4⟩⟩
  · rw [if_neg c, if_neg (fun x => c x.1), hbad]
    exact ⟨_, _, rfl, c6_ce z7, c6_zh z7, .inl ⟨_, rfl, rfl, pm_same, cp_c6 h z7⟩⟩
theorem cz_less {M0 : zM} {B : yBp} {n : Nat} {run : Option (Int32 × zM)} {v : Except Nat (Nat × Option Nat × List Nat × Nat)} (h : cz_x ac b M T r pa pn B n run v) (hf : zf (c6_W b) M0 M) : cz_x ac b M0 T r pa pn B n run v := by
  obtain ⟨res, M', h1, h2, h3, h4⟩ := h
  exact ⟨res, M', h1, ce_trans (c6_ce hf) h2, zh_trans (c6_zh hf) h3, h4⟩
theorem cl_braces (hok : tp_ok T) (hd : 2 ≤ d) {bs : List Nat} {p n f0 : Nat} {t0 : Option Nat} {B : yBp} (h : cs_x ac b M T r pa pn (bs, p, pb_cnt B n f0 t0)) (hB : B.2.2.2.1.length < 8) : cz_x ac b M T r pa pn B n (rs_braces d b (nI B.2.2.2.1.length) M) (pp_bnd bs p) := by
  obtain ⟨d, rfl⟩ : ∃ d', d = d' + 1 := ⟨d - 1, by omega⟩
  have eb : rs_braces (d + 1) b (nI B.2.2.2.1.length) M = rs_braces_b d b (nI B.2.2.2.1.length) M := rfl
  rw [eb]
  unfold rs_braces_b
  obtain ⟨res, M1, g1, g2, g3⟩ := cl_amount (d := d) (least := 0) (q := (bs, p, pb_cnt B n f0 t0)) hok h (by omega) (by omega)
  have g1 : rs_amount d b 0 M = some (res, M1) := g1
  rw [g1]
  simp only [Option.bind_some]
  rcases g3 with ⟨e, m1, m2, m3⟩ | ⟨y, m1, m2, m3⟩
  · have m1 : pp_num 0 (py_sk bs p).1 (py_sk bs p).2 = .error e := m1
    rw [bnd_e m1, m2, if_pos rfl]
    exact ⟨_, _, rfl, c6_ce g2, c6_zh g2, .inl ⟨e, rfl, rfl, m3, cp_c6 h g2⟩⟩
  · have m1 : pp_num 0 (py_sk bs p).1 (py_sk bs p).2 = .ok y := m1
    have hy := (num_ok (by omega) m1).2
    rw [m2, if_neg (pb_ne1 (by omega))]
    obtain ⟨M2, k1, k2, k3, k4⟩ := cl_sign (d := d) (q := (y.2.1, y.2.2, pb_cnt B n f0 t0)) hok m3
    have k1 : rs_sign d b M1 = some (py_ht (py_sk y.2.1 y.2.2).1, M2) := k1
    have k4 : ∀ x, x ∈ (py_sk y.2.1 y.2.2).1 → x < 256 := k4
    have e44 : (py_ht (py_sk y.2.1 y.2.2).1 = 44) ↔ (py_sk y.2.1 y.2.2).1.head? = some 44 := ht_eq (c := 44) k4 (by omega)
    rw [k1]
    simp only [Option.bind_some, e44]
    have z2 : zf (c6_W b) M M2 := zf_trans g2 k3
    have k2 : cs_x ac b M2 T r pa pn ((py_sk y.2.1 y.2.2).1, (py_sk y.2.1 y.2.2).2, pb_cnt B n f0 t0) := k2
    have skk := sk_sk y.2.1 y.2.2
    by_cases c44 : (py_sk y.2.1 y.2.2).1.head? = some 44
    · rw [if_pos c44]
      unfold rs_braces_29
      rw [if_neg (show ¬ (1 : Int32) = 0 by decide)]
      have hp2 : zm_I M2 6 b 6 = nI (py_sk y.2.1 y.2.2).2 := k2.2.1.1
      cases e5 : (py_sk y.2.1 y.2.2).1 with
      | nil => rw [e5] at c44; cases c44
      | cons z zs =>
        have hz44 : z = 44 := by rw [e5] at c44; simpa using c44
        subst hz44
        rw [bnd_c m1 e5]
        rw [e5] at k2
        obtain ⟨s1, s2⟩ := cs_step (q := (bs, p, pb_cnt B n f0 t0)) k2
        have z3 := zf_trans z2 s2
        obtain ⟨M3, u1, u2, u3, u4⟩ := cl_sign (d := d) (q := (zs, (py_sk y.2.1 y.2.2).2 + 1, pb_cnt B n f0 t0)) hok s1
        have u1 : rs_sign d b (zm_setI M2 6 b 6 (nI ((py_sk y.2.1 y.2.2).2 + 1))) = some (py_ht (py_sk zs ((py_sk y.2.1 y.2.2).2 + 1)).1, M3) := u1
        have u4 : ∀ x, x ∈ (py_sk zs ((py_sk y.2.1 y.2.2).2 + 1)).1 → x < 256 := u4
        have u2 : cs_x ac b M3 T r pa pn ((py_sk zs ((py_sk y.2.1 y.2.2).2 + 1)).1, (py_sk zs ((py_sk y.2.1 y.2.2).2 + 1)).2, pb_cnt B n f0 t0) := u2
        have z4 := zf_trans z3 u3
        have e125 : (py_ht (py_sk zs ((py_sk y.2.1 y.2.2).2 + 1)).1 = 125) ↔ (py_sk zs ((py_sk y.2.1 y.2.2).2 + 1)).1.head? = some 125 := ht_eq (c := 125) u4 (by omega)
        have skk2 := sk_sk zs ((py_sk y.2.1 y.2.2).2 + 1)
        simp only [zlet, hp2, nI_1, u1, Option.bind_some, e125]
        by_cases c2 : (py_sk zs ((py_sk y.2.1 y.2.2).2 + 1)).1.head? = some 125
        · rw [if_pos c2, if_pos c2]
          have g := cl_braces_74 (d := d) (f := y.1) (t := none) hok u2 hB hy 1
          rw [skk2, if_pos ⟨c2, fun x => absurd x.1 (by decide)⟩] at g
          exact cz_less g z4
        · rw [if_neg c2, if_neg c2]
          have emax : (if nI y.1 < 1 then (1 : Int32) else nI y.1) = nI (max 1 y.1) := by
            by_cases w : y.1 < 1
            · rw [if_pos (show nI y.1 < 1 from nI_lt (b := 1) w (by omega)), Nat.max_eq_left (by omega)]; rfl
            · rw [if_neg (show ¬ nI y.1 < 1 from nI_nlt (b := 1) (by omega) (by omega)), Nat.max_eq_right (by omega)]
          rw [emax]
          obtain ⟨res2, M4, o1, o2, o3⟩ := cl_amount (d := d) (least := max 1 y.1) (q := ((py_sk zs ((py_sk y.2.1 y.2.2).2 + 1)).1, (py_sk zs ((py_sk y.2.1 y.2.2).2 + 1)).2, pb_cnt B n f0 t0)) hok u2 (by omega) (by omega)
          rw [o1]
          simp only [Option.bind_some]
          dsimp only at o3
          rw [skk2] at o3
          have z5 := zf_trans z4 o2
          rcases o3 with ⟨e, q1, q2, q3⟩ | ⟨w, q1, q2, q3⟩
          · rw [q1, q2, if_pos rfl]
            exact ⟨_, _, rfl, c6_ce z5, c6_zh z5, .inl ⟨e, rfl, rfl, q3, cp_c6 h z5⟩⟩
          · have hw12 := num_ok (by omega) q1
            rw [q1, q2, if_neg (pb_ne1 (by omega))]
            dsimp only
            have g := cl_braces_74 (d := d) (f := y.1) (t := some w.1) hok q3 hB hy 1
            have es2 : (match pp_sgn 125 w.2.1 w.2.2 with
              | .error e => .error e
              | .ok v => .ok (y.1, some w.1, v.1, v.2) : Except Nat (Nat × Option Nat × List Nat × Nat)) = (if (py_sk w.2.1 w.2.2).1.head? = some 125 ∧ ¬ ((1 : Int32) = 0 ∧ y.1 = 0) then .ok (y.1, some w.1, (py_sk w.2.1 w.2.2).1.tail, (py_sk w.2.1 w.2.2).2 + 1) else .error (py_sk w.2.1 w.2.2).2) := by
              unfold pp_sgn
              by_cases c3 : (py_sk w.2.1 w.2.2).1.head? = some 125
              · rw [if_pos c3, if_pos ⟨c3, fun x => absurd x.1 (by decide)⟩]
              · rw [if_neg c3, if_neg (fun x => c3 x.1)]
            rw [es2]
            exact cz_less g z5
    · rw [if_neg c44]
      unfold rs_braces_29
      rw [if_pos rfl]
      have g := cl_braces_74 (d := d) (f := y.1) (t := some y.1) hok k2 hB hy 0
      rw [skk] at g
      have g : cz_x ac b M2 T r pa pn B n (rs_braces_74 d b (nI B.2.2.2.1.length) (nI y.1) (nI y.1) 0 M2) _ := g
      rw [bnd_n m1 c44]
      by_cases c125 : (py_sk y.2.1 y.2.2).1.head? = some 125
      · rw [if_pos c125]
        by_cases c0 : y.1 = 0
        · rw [if_pos c0]
          rw [if_neg (fun x => x.2 ⟨rfl, c0⟩)] at g
          exact cz_less g z2
        · rw [if_neg c0]
          rw [if_pos ⟨c125, fun x => c0 x.2⟩] at g
          exact cz_less g z2
      · rw [if_neg c125]
        rw [if_neg (fun x => c125 x.1)] at g
        exact cz_less g z2
theorem cl_amounts (hok : tp_ok T) (hd : 3 ≤ d) {bs : List Nat} {p n f0 c : Nat} {t0 : Option Nat} {B : yBp} (h : cs_x ac b M T r pa pn (bs, p, pb_cnt B n f0 t0)) (hB : B.2.2.2.1.length < 8) (hc : c < 256) : cz_x ac b M T r pa pn B n (rs_amounts d b (nI c) (nI B.2.2.2.1.length) M) (if c = 123 then pp_bnd bs p else .ok ((if c = 43 then 1 else 0), (if c = 63 then some 1 else none), bs, p)) := by
  obtain ⟨d, rfl⟩ : ∃ d', d = d' + 1 := ⟨d - 1, by omega⟩
  have eb : rs_amounts (d + 1) b (nI c) (nI B.2.2.2.1.length) M = rs_amounts_b d b (nI c) (nI B.2.2.2.1.length) M := rfl
  rw [eb]
  unfold rs_amounts_b
  have x123 : (nI c = 123) ↔ c = 123 := nI_eq (b := 123) (by omega) (by omega)
  have x43 : (nI c = 43) ↔ c = 43 := nI_eq (b := 43) (by omega) (by omega)
  have x63 : (nI c = 63) ↔ c = 63 := nI_eq (b := 63) (by omega) (by omega)
  simp only [x123, x43]
  by_cases c1 : c = 123
  · rw [if_pos c1, if_pos c1]
    obtain ⟨res, M', g1, g2, g3, g4⟩ := cl_braces (d := d) hok (by omega) h hB
    have hres : res = 0 ∨ res = 1 := by
      rcases g4 with ⟨e, _, q, _⟩ | ⟨x, _, q, _⟩
      · exact .inl q
      · exact .inr q
    refine ⟨res, M', ?_, g2, g3, g4⟩
    rw [g1]
    simp only [Option.bind_some]
    rw [if_pos hres]
  · rw [if_neg c1, if_neg c1]
    obtain ⟨s3, s4, s5⟩ := cs_bnd (f := if c = 43 then 1 else 0) (t := if c = 63 then some 1 else none) h
    have hru := cb_ru h.1
    have hz : z_in (nI B.2.2.2.1.length) 8 := nI_in (by omega) (by omega)
    refine ⟨1, _, ?_, s5, s4, .inr ⟨_, rfl, rfl, s3⟩⟩
    simp only [cb_8 h.1, rs_amounts_31, rs_amounts_51, (ru_9 hru).1, (ru_9 hru).2, if_pos hz, zlet, nI_clamp (show B.2.2.2.1.length < 2 ^ 31 by omega), pm_RI, pm_LI, cb_8 h.1, x63, (ru_10 hru).1, (ru_10 hru).2]
    by_cases c2 : c = 43
    · subst c2
      rfl
    · rw [if_neg c2, if_neg c2]
      by_cases c3 : c = 63
      · rw [if_pos c3, if_pos c3]; rfl
      · rw [if_neg c3, if_neg c3]; rfl
end
