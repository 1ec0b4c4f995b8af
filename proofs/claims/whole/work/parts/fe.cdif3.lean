/-! THE CLASS: the word that parts two rules -/
def du_x (M : zM) (di : Nat) (o : Option (List Nat)) : Prop := match o with
  | none => zm_I M 0 di 0 = -1
  | some w => zm_I M 0 di 0 = nI w.length ∧ w.length ≤ 4 ∧ w26 w ∧ ∀ (i x : Nat), w[i]? = some x → zm_I M 20 (di + 1) i = nI x
section
theorem nI_bt {n i : Nat} (hi : i < 32) : zbt (nI n) i = n.testBit i := by
  unfold zbt
  show (BitVec.ofNat 32 n).getLsbD i = _
  rw [BitVec.getLsbD_ofNat]
  simp [hi]
theorem pack_v {a b : Nat} (ha : a < 8738) (hb : b < 32) : nI (32 * a + b) &&& 31 = nI b ∧ nI (32 * a + b) >>> (5 &&& 31) = nI a := by
  constructor
  · apply zy_ext
    intro i hi
    rw [zy_and, bt_31 hi, nI_bt hi, nI_bt hi]
    have e : b = (32 * a + b) % 2 ^ 5 := by omega
    have h := Nat.testBit_mod_two_pow (32 * a + b) 5 i
    rw [← e] at h
    rw [h, Bool.and_comm]
  · apply zy_ext
    intro i hi
    have h5 : (5 : Int32) = nI 5 := rfl
    rw [h5, zy_shr _ (show 5 < 32 by omega) hi]
    have e : a = (32 * a + b) / 2 ^ 5 := by omega
    have h := Nat.testBit_div_two_pow (n := 5) (32 * a + b) i
    rw [← e] at h
    rw [nI_bt hi, h]
    by_cases q : 5 + i < 32
    · rw [if_pos q, nI_bt q, Nat.add_comm 5 i]
    · rw [if_neg q, nI_bt (by omega)]
      have l1 : (32 * a + b) < 2 ^ 31 := by omega
      rw [Nat.testBit_lt_two_pow l1]
      symm
      apply Nat.testBit_lt_two_pow
      exact Nat.lt_of_lt_of_le l1 (Nat.pow_le_pow_right (by omega) (by omega))
variable {M M' : zM} {pa : Nat → Nat} {P Q : yP} {d wk di a1 a2 : Nat} {E : List yJ}
theorem cl_dspell_22 (hdj0 : dj_ok P Q E) (hE : E.length ≤ 8738) {W : List Nat} (hW : W.length ≤ 4) : ∀ (k j : Nat) (e : yJ) (M : zM), E[j]? = some e → e.2.2.length = k → e.2.2 = W.take k → k ≤ W.length → di_l M di → (∀ (i : Nat) (e : yJ), E[i]? = some e → zm_I M 20 (di + 4) i = nI (32 * e.1 + e.2.1)) → (∀ (i x : Nat), k ≤ i → W[i]? = some x → zm_I M 20 (di + 1) i = nI x) → ∀ fuel, k < fuel → ∃ M', di_spell_22 d fuel di (nI j) (zo (py_po k)) M = some M' ∧ (∀ (i x : Nat), W[i]? = some x → zm_I M' 20 (di + 1) i = nI x) ∧ zf (fun t k _ => t = 20 ∧ k = di + 1) M M' := by
  intro k
  induction k with
  | zero =>
    intro j e M hj hk hW0 hkl hl hc hr fuel hf
    cases fuel with
    | zero => cases hf
    | succ fuel =>
      refine ⟨M, ?_, fun i x hx => hr i x (Nat.zero_le _) hx, zf_refl _ _⟩
      rw [di_spell_22, if_pos (show zo (py_po 0) < 0 by decide)]
  | succ k ih =>
    intro j e M hj hk hWk hkl hl hc hr fuel hf
    cases fuel with
    | zero => cases hf
    | succ fuel =>
      have hjl := (List.getElem?_eq_some_iff.mp hj).1
      have hj0 : 0 < j := by
        by_cases q : 0 < j
        · exact q
        · have : j = 0 := by omega
          subst this
          rw [hdj0.1] at hj
          injection hj with hj
          rw [← hj] at hk
          cases hk
      obtain ⟨_, _, _, g4, g5⟩ := hdj0.2.1 j e hj
      obtain ⟨g6, e', g7, g8⟩ := g5 hj0
      have he'l : e'.2.2.length = k := by
        rw [g8, List.length_append, List.length_singleton] at hk
        omega
      have hWk' : W[k]? = some e.2.1 := by
        have h1 : e.2.2[k]? = some e.2.1 := by
          rw [g8, List.getElem?_append_right (by omega), he'l, Nat.sub_self]
          rfl
        rw [hWk, List.getElem?_take_of_lt (by omega)] at h1
        exact h1
      have he'W : e'.2.2 = W.take k := by
        have h1 : e.2.2.take k = e'.2.2 := by rw [g8, ← he'l, List.take_left]
        rw [← h1, hWk, List.take_take, Nat.min_eq_left (by omega)]
      have zj : z_in (nI j) 8738 := nI_in (by omega) (by omega)
      have zk : z_in (nI k) 4 := nI_in (by omega) (by omega)
      have hpo : zo (py_po (k + 1)) = nI k := rfl
      obtain ⟨p1, p2⟩ := pack_v (a := e.1) (b := e.2.1) (by omega) (by omega)
      have f1 : zf (fun t k _ => t = 20 ∧ k = di + 1) M (zm_setI M 20 (di + 1) k (nI e.2.1)) := zf_set ⟨rfl, rfl⟩
      have l1 : di_l (zm_setI M 20 (di + 1) k (nI e.2.1)) di := by unfold di_l; rw [pm_RI, pm_LI]; exact hl
      have c4 : zm_I (zm_setI M 20 (di + 1) k (nI e.2.1)) 20 (di + 4) j = nI (32 * e.1 + e.2.1) := by rw [pm_ne (by omega)]; exact hc j e hj
      obtain ⟨M', q1, q2, q3⟩ := ih e.1 e' _ g7 he'l he'W (by omega) l1 (fun i e hi => by rw [pm_ne (by omega)]; exact hc i e hi) (by
        intro i x hi hx
        rw [pm_II]
        by_cases q : i = k
        · subst q
          rw [hWk'] at hx
          injection hx with hx
          rw [if_pos ⟨rfl, rfl, rfl⟩, hx]
        · rw [if_neg (fun e => q e.2.2)]
          exact hr i x (by omega) hx) fuel (by omega)
      refine ⟨M', ?_, q2, zf_trans f1 q3⟩
      rw [di_spell_22, hpo, if_neg (nI_pos (by omega))]
      simp only [hl.2.2.2.1.1, hl.2.2.2.1.2, hl.1.1, hl.1.2, pm_RI, pm_LI, if_pos zj, if_pos zk, nI_clamp (show j < 2 ^ 31 by omega), nI_clamp (show k < 2 ^ 31 by omega), hc j e hj, p1, p2, c4, zlet]
      have ek : nI k + (-1) = zo (py_po k) := by
        cases k with
        | zero => rfl
        | succ k => exact pb_pm k
      rw [ek]
      exact q1
theorem cl_dspell (hdj0 : dj_ok P Q E) (hE : E.length ≤ 8738) (hl : di_l M di) (hc : ∀ (i : Nat) (e : yJ), E[i]? = some e → zm_I M 20 (di + 4) i = nI (32 * e.1 + e.2.1)) {p n l : Nat} {e : yJ} (he : E[p]? = some e) (hen : e.2.2.length + 1 = n) (hn : n ≤ 4) (hl26 : l < 26) : ∃ M', di_spell d di (nI p) (nI l) (nI n) M = some M' ∧ du_x M' di (some (e.2.2 ++ [l])) ∧ zf (dd_W di) M M' := by
  have hLF : zLF = 100000 := rfl
  obtain ⟨k, rfl⟩ : ∃ k, n = k + 1 := ⟨n - 1, by omega⟩
  have hk : e.2.2.length = k := by omega
  have zk : z_in (nI k) 4 := nI_in (by omega) (by omega)
  have hWl : (e.2.2 ++ [l]).length = k + 1 := by rw [List.length_append, List.length_singleton, hk]
  have f0 : zf (dd_W di) M (zm_setI (zm_setI M 0 di 0 (nI (k + 1))) 20 (di + 1) k (nI l)) := zf_trans (zf_set (.inl ⟨rfl, rfl, .inl rfl⟩)) (zf_set (.inr ⟨rfl, by omega, by omega⟩))
  have l0 : di_l (zm_setI (zm_setI M 0 di 0 (nI (k + 1))) 20 (di + 1) k (nI l)) di := by unfold di_l; rw [pm_RI, pm_LI, pm_RI, pm_LI]; exact hl
  obtain ⟨M', q1, q2, q3⟩ := cl_dspell_22 (d := d) (di := di) (W := e.2.2 ++ [l]) hdj0 hE (by omega) k p e _ he hk (by rw [← hk, List.take_left]) (by omega) l0 (fun i e hi => by rw [pm_ne (by omega), pm_ne (by omega)]; exact hc i e hi) (by
    intro i x hi hx
    have hil := (List.getElem?_eq_some_iff.mp hx).1
    have : i = k := by omega
    subst this
    rw [List.getElem?_append_right (by omega), hk, Nat.sub_self] at hx
    injection hx with hx
    rw [pm_same, hx]) zLF (by omega)
  refine ⟨M', ?_, ⟨?_, by omega, ?_, q2⟩, zf_trans f0 (zf_mono q3 (fun t k j w => .inr ⟨w.1, by have := w.2; omega, by have := w.2; omega⟩))⟩
  · unfold di_spell
    simp only [zlet, pm_RI, pm_LI, hl.1.1, hl.1.2, nI_pred, if_pos zk, nI_clamp (show k < 2 ^ 31 by omega)]
    have e2 : nI (k + 1) - 2 = zo (py_po k) := by
      have key : ∀ k : Fin 5, nI (k.val + 1) - 2 = zo (py_po k.val) := by decide +kernel
      exact key ⟨k, by omega⟩
    rw [e2]
    exact q1
  · rw [q3.2.2.2.2.2.2 _ _ _ (by rintro ⟨e, _⟩; cases e), pm_ne (by omega), pm_same, hWl]
  · intro y hy
    rcases List.mem_append.mp hy with q | q
    · exact (hdj0.2.1 p e he).1 y q
    · rw [List.mem_singleton.mp q]; exact hl26
theorem di_st (h : di_i M pa a1 P a2 Q wk di E) {F : List yJ} (hf : zf (fun t k j => (t = 0 ∧ k = di ∧ j = 9) ∨ (t = 20 ∧ di + 2 ≤ k ∧ k ≤ di + 6)) M M') (hj : dj_x M' di P Q F) (h1 : a1 + 10 ≤ di) (h2 : a2 + 10 ≤ di) : di_i M' pa a1 P a2 Q wk di F ∧ zf (dd_W di) M M' := by
  have hz : zf (dd_W di) M M' := zf_mono hf (by
    rintro t k j (⟨w1, w2, w3⟩ | ⟨w1, w2, w3⟩)
    · exact .inl ⟨w1, w2, .inr (by omega)⟩
    · exact .inr ⟨w1, by omega, w3⟩)
  exact ⟨⟨cX_dd h.1 hz h1, cX_dd h.2.1 hz h2, wl_dd h.2.2.1 hz, hj⟩, hz⟩
theorem dv_dr : ∀ t k j, dv_W wk di t k j → dr_W wk di t k j := by
  rintro t k j (w | ⟨w1, w2, w3, w4⟩)
  · exact .inl w
  · exact .inr (.inl ⟨w1, w2, .inr (by omega)⟩)
theorem cl_goOn_14 (hP : py_ok P) (hQ : py_ok Q) (hd : 4 ≤ d) (h1 : a1 + 10 ≤ wk) (h2 : a2 + 10 ≤ wk) (hr : wk + 12 < di) {n p : Nat} {e0 : yJ} (hn : n ≤ 4) (hen : e0.2.2.length + 1 = n) : ∀ (m l : Nat) (M : zM) (F : List yJ), l + m = 26 → di_i M pa a1 P a2 Q wk di F → dj_ok P Q F → F[p]? = some e0 → ∀ fuel, m < fuel → ∃ M', di_goOn_14 d fuel di (some a1) (some a2) (nI p) (nI n) (some wk) (zor (py_ll P) ||| zor (py_ll Q)) (nI l) M = some (zb (py_dg P Q n p e0.2.2 (List.range' l m) F).1.isSome, M') ∧ ((py_dg P Q n p e0.2.2 (List.range' l m) F).1 = none → di_i M' pa a1 P a2 Q wk di (py_dg P Q n p e0.2.2 (List.range' l m) F).2 ∧ dj_ok P Q (py_dg P Q n p e0.2.2 (List.range' l m) F).2 ∧ (∀ (i : Nat) (e : yJ), F[i]? = some e → (py_dg P Q n p e0.2.2 (List.range' l m) F).2[i]? = some e) ∧ zm_I M' 0 di 0 = zm_I M 0 di 0) ∧ (∀ w, (py_dg P Q n p e0.2.2 (List.range' l m) F).1 = some w → du_x M' di (some w)) ∧ zr (dr_W wk di) M M' := by
  intro m
  induction m with
  | zero =>
    intro l M F e h hdj hp fuel hf
    have hl : l = 26 := by omega
    subst hl
    cases fuel with
    | zero => cases hf
    | succ fuel =>
      refine ⟨M, ?_, fun _ => ⟨h, hdj, fun i e he => he, rfl⟩, fun w hw => (by cases hw), zr_refl _ _⟩
      rw [di_goOn_14, if_pos (by decide)]
      rfl
  | succ m ih =>
    intro l M F e h hdj hp fuel hf
    have hl : l < 26 := by omega
    cases fuel with
    | zero => cases hf
    | succ fuel =>
      have e26 : (26 : Int32) = nI 26 := rfl
      have e1 : nI l + 1 = nI (l + 1) := nI_add l 1
      have hpl := (List.getElem?_eq_some_iff.mp hp).1
      rw [List.range'_succ, py_dg]
      rw [di_goOn_14, e26, if_neg (fun q => by have := (nI_leI (by omega) (by omega)).mp q; omega), zy_has _ (show l < 32 by omega)]
      have kn : zbt (zor (py_ll P) ||| zor (py_ll Q)) l = py_kn P Q l := rfl
      rw [kn]
      simp only [di_goOn_120, di_goOn_81, di_goOn_76, zlet, e1]
      have next : ∀ (M1 : zM) (F1 : List yJ), zr (dr_W wk di) M M1 → di_i M1 pa a1 P a2 Q wk di F1 → dj_ok P Q F1 → (∀ (i : Nat) (e : yJ), F[i]? = some e → F1[i]? = some e) → zm_I M1 0 di 0 = zm_I M 0 di 0 → ∃ M', di_goOn_14 d fuel di (some a1) (some a2) (nI p) (nI n) (some wk) (zor (py_ll P) ||| zor (py_ll Q)) (nI (l + 1)) M1 = some (zb (py_dg P Q n p e0.2.2 (List.range' (l + 1) m) F1).1.isSome, M') ∧ ((py_dg P Q n p e0.2.2 (List.range' (l + 1) m) F1).1 = none → di_i M' pa a1 P a2 Q wk di (py_dg P Q n p e0.2.2 (List.range' (l + 1) m) F1).2 ∧ dj_ok P Q (py_dg P Q n p e0.2.2 (List.range' (l + 1) m) F1).2 ∧ (∀ (i : Nat) (e : yJ), F[i]? = some e → (py_dg P Q n p e0.2.2 (List.range' (l + 1) m) F1).2[i]? = some e) ∧ zm_I M' 0 di 0 = zm_I M 0 di 0) ∧ (∀ w, (py_dg P Q n p e0.2.2 (List.range' (l + 1) m) F1).1 = some w → du_x M' di (some w)) ∧ zr (dr_W wk di) M M' := by
        intro M1 F1 f1 i1 j1 k1 z1
        obtain ⟨M', q1, q2, q3, q4⟩ := ih (l + 1) M1 F1 (by omega) i1 j1 (k1 p e0 hp) fuel (by omega)
        refine ⟨M', q1, fun hn => ?_, q3, zr_trans f1 q4⟩
        obtain ⟨r1, r2, r3, r4⟩ := q2 hn
        exact ⟨r1, r2, fun i e he => r3 i e (k1 i e he), by rw [r4, z1]⟩
      cases hk : py_kn P Q l with
      | false =>
        rw [if_neg (show ¬ false = true by decide), if_pos (show (0 : Int32) = 0 from rfl), if_neg (show ¬ false = true by decide)]
        exact next M F (zr_refl _ _) h hdj (fun i e he => he) rfl
      | true =>
        rw [if_pos (show true = true from rfl), if_neg (show ¬ (1 : Int32) = 0 by decide), if_pos (show true = true from rfl)]
        obtain ⟨M1, b1, b2, b3, b4, b5, b6⟩ := cl_advance (d := d) hP hQ hd h1 h2 hr h hp (show e0.2.2.length ≤ 3 by omega) hl
        rw [b1, Option.bind_some, b4]
        cases hdf : py_dif P Q (e0.2.2 ++ [l]) with
        | true =>
          rw [if_neg (show ¬ zb true = 0 by decide), if_pos (show true = true from rfl)]
          obtain ⟨M2, c1, c2, c3⟩ := cl_dspell (d := d) hdj (b5.2.2.2.2.2.1) b5.2.2.2.1 (fun i e he => (b5.2.2.2.2.2.2.1 i e he).2.2) hp hen hn hl
          rw [c1, Option.bind_some]
          refine ⟨M2, rfl, fun hn => (by cases hn), fun w hw => ?_, zr_trans (zr_mono b6 dv_dr) (zr_mono (zr_zf c3) (fun t k j w => .inr w))⟩
          injection hw with hw
          rw [← hw]
          exact c2
        | false =>
          rw [if_pos (show zb false = 0 from rfl), if_neg (show ¬ false = true by decide)]
          have gone1 : (zm_I M1 0 di 10 = -1) ↔ (py_rs P (e0.2.2 ++ [l])).isSome = false := by
            rw [b2]
            show py_oc P (py_rs P (e0.2.2 ++ [l])) = -1 ↔ _
            cases hrs : py_rs P (e0.2.2 ++ [l]) with
            | none => exact ⟨fun _ => rfl, fun _ => rfl⟩
            | some s =>
              have gs := rs_g hP _ _ s rfl hrs
              exact ⟨fun h => absurd h (cod_ne hP gs.2.2.1 gs.2.2.2.1), fun h => (by cases h)⟩
          have gone2 : (zm_I M1 0 di 11 = -1) ↔ (py_rs Q (e0.2.2 ++ [l])).isSome = false := by
            rw [b3]
            show py_oc Q (py_rs Q (e0.2.2 ++ [l])) = -1 ↔ _
            cases hrs : py_rs Q (e0.2.2 ++ [l]) with
            | none => exact ⟨fun _ => rfl, fun _ => rfl⟩
            | some s =>
              have gs := rs_g hQ _ _ s rfl hrs
              exact ⟨fun h => absurd h (cod_ne hQ gs.2.2.1 gs.2.2.2.1), fun h => (by cases h)⟩
          have z1 : zm_I M1 0 di 0 = zm_I M 0 di 0 := zr_I b6 (by
            rintro ((⟨e, _⟩ | ⟨e, _⟩) | ⟨_, _, e, _⟩)
            · cases e
            · cases e
            · cases e)
          have b6 : zr (dr_W wk di) M M1 := zr_mono b6 dv_dr
          have e4 : (4 : Int32) = nI 4 := rfl
          have live : py_alv P Q (e0.2.2 ++ [l]) = true → ∃ M', (if (1 : Int32) = 0 then di_goOn_14 d fuel di (some a1) (some a2) (nI p) (nI n) (some wk) (zor (py_ll P) ||| zor (py_ll Q)) (nI (l + 1)) M1 else (if 4 ≤ nI n then di_goOn_14 d fuel di (some a1) (some a2) (nI p) (nI n) (some wk) (zor (py_ll P) ||| zor (py_ll Q)) (nI (l + 1)) M1 else ((di_isKnown d di M1).bind fun q12 => (if q12.1 = 0 then ((di_store d di (zm_I q12.2 0 di 10) (zm_I q12.2 0 di 11) ((nI p * 32) + nI l) q12.2).bind fun q15 => di_goOn_14 d fuel di (some a1) (some a2) (nI p) (nI n) (some wk) (zor (py_ll P) ||| zor (py_ll Q)) (nI (l + 1)) q15) else di_goOn_14 d fuel di (some a1) (some a2) (nI p) (nI n) (some wk) (zor (py_ll P) ||| zor (py_ll Q)) (nI (l + 1)) q12.2)))) = some (zb (py_dg P Q n p e0.2.2 (List.range' (l + 1) m) (if py_alv P Q (e0.2.2 ++ [l]) && (decide (n < 4) && !py_isk P Q F (e0.2.2 ++ [l])) then F ++ [(p, l, e0.2.2 ++ [l])] else F)).1.isSome, M') ∧ ((py_dg P Q n p e0.2.2 (List.range' (l + 1) m) (if py_alv P Q (e0.2.2 ++ [l]) && (decide (n < 4) && !py_isk P Q F (e0.2.2 ++ [l])) then F ++ [(p, l, e0.2.2 ++ [l])] else F)).1 = none → di_i M' pa a1 P a2 Q wk di (py_dg P Q n p e0.2.2 (List.range' (l + 1) m) (if py_alv P Q (e0.2.2 ++ [l]) && (decide (n < 4) && !py_isk P Q F (e0.2.2 ++ [l])) then F ++ [(p, l, e0.2.2 ++ [l])] else F)).2 ∧ dj_ok P Q (py_dg P Q n p e0.2.2 (List.range' (l + 1) m) (if py_alv P Q (e0.2.2 ++ [l]) && (decide (n < 4) && !py_isk P Q F (e0.2.2 ++ [l])) then F ++ [(p, l, e0.2.2 ++ [l])] else F)).2 ∧ (∀ (i : Nat) (e : yJ), F[i]? = some e → (py_dg P Q n p e0.2.2 (List.range' (l + 1) m) (if py_alv P Q (e0.2.2 ++ [l]) && (decide (n < 4) && !py_isk P Q F (e0.2.2 ++ [l])) then F ++ [(p, l, e0.2.2 ++ [l])] else F)).2[i]? = some e) ∧ zm_I M' 0 di 0 = zm_I M 0 di 0) ∧ (∀ w, (py_dg P Q n p e0.2.2 (List.range' (l + 1) m) (if py_alv P Q (e0.2.2 ++ [l]) && (decide (n < 4) && !py_isk P Q F (e0.2.2 ++ [l])) then F ++ [(p, l, e0.2.2 ++ [l])] else F)).1 = some w → du_x M' di (some w)) ∧ zr (dr_W wk di) M M' := by
            intro ha
            rw [if_neg (show ¬ (1 : Int32) = 0 by decide), e4, ha, Bool.true_and]
            by_cases q4 : 4 ≤ n
            · rw [if_pos ((nI_leI (by omega) (by omega)).mpr q4), decide_eq_false (show ¬ n < 4 by omega), Bool.false_and, if_neg (show ¬ false = true by decide)]
              exact next M1 F b6 b5 hdj (fun i e he => he) z1
            · rw [if_neg (fun q => q4 ((nI_leI (by omega) (by omega)).mp q)), decide_eq_true (show n < 4 by omega), Bool.true_and]
              have hik := cl_isKnown (d := d) (by omega) b5.2.2.2 b2 b3
              rw [hik, Option.bind_some]
              cases hk2 : py_isk P Q F (e0.2.2 ++ [l]) with
              | true =>
                rw [if_neg (show ¬ zb true = 0 by decide), if_neg (show ¬ (!true) = true by decide)]
                exact next M1 F b6 b5 hdj (fun i e he => he) z1
              | false =>
                rw [if_pos (show zb false = 0 from rfl), if_pos (show (!false) = true from rfl)]
                have hadd := dj_add hdj hp hl (by omega) ha hk2
                have hlen := dj_len hP hQ hadd
                rw [List.length_append, List.length_singleton] at hlen
                have ev : nI p * 32 + nI l = nI (32 * p + l) := by
                  have : (32 : Int32) = nI 32 := rfl
                  rw [this, pk_mul, nI_add, Nat.mul_comm]
                obtain ⟨M2, c1, c2, c3⟩ := cl_store (d := d) (by omega) b5.2.2.2 (by omega) (p := p) (l := l) (w := e0.2.2 ++ [l]) ev
                simp only [b2, b3]
                rw [c1, Option.bind_some]
                obtain ⟨k1, k2⟩ := di_st b5 c3 c2 (by omega) (by omega)
                refine next M2 _ (zr_trans b6 (zr_mono (zr_zf k2) (fun t k j w => .inr w))) k1 hadd ?_ ?_
                · intro i e he
                  rw [List.getElem?_append_left ((List.getElem?_eq_some_iff.mp he).1)]
                  exact he
                · rw [c3.2.2.2.2.2.2 _ _ _ (by
                    rintro (⟨_, _, e⟩ | ⟨e, _⟩)
                    · cases e
                    · cases e), z1]
          by_cases q1 : zm_I M1 0 di 10 = -1
          · rw [if_pos q1]
            have s1 := gone1.mp q1
            by_cases q2 : zm_I M1 0 di 11 = -1
            · rw [if_pos q2, if_pos trivial]
              have s2 := gone2.mp q2
              have ha : py_alv P Q (e0.2.2 ++ [l]) = false := by unfold py_alv; rw [s1, s2]; rfl
              rw [ha, Bool.false_and, if_neg (show ¬ false = true by decide)]
              exact next M1 F b6 b5 hdj (fun i e he => he) z1
            · rw [if_neg q2]
              refine live ?_
              unfold py_alv
              cases hs : (py_rs Q (e0.2.2 ++ [l])).isSome with
              | true => rw [Bool.or_true]
              | false => exact absurd (gone2.mpr hs) q2
          · rw [if_neg q1]
            refine live ?_
            unfold py_alv
            cases hs : (py_rs P (e0.2.2 ++ [l])).isSome with
            | true => rfl
            | false => exact absurd (gone1.mpr hs) q1
end
