/-! THE MODEL: parts of an any as they make the least word -/
/-- how many letters a node's words may need -/
def py_B (P : yP) (n : Nat) : Nat := (py_hi P n - py_lo P n) * 12 ^ py_ar P n
/-- what is said of shortest at a node -/
def sh_S (P : yP) (f : Nat → List Nat) (am r : Nat) (R : Nat → Int32 → Int32 → Int32 → zM → Option (Int32 × zM)) (must : Int32) (c : Nat) : Prop := ∀ (M : zM) (t : List Nat) (pr : Nat), mp_ok am M r P → mt_x am M t → zm_I M 12 am 31 + 1 = nI pr → pr + py_hg P c ≤ 60 → t.length + 2 * py_B P c ≤ 12000 → ∃ M', R am (nI r) (nI c) must M = some (1, M') ∧ mt_x am M' (t ++ f c) ∧ zf (sh_W am t.length pr) M M' ∧ zm_I M' 12 am 31 = zm_I M 12 am 31
/-- pieces: where, how long -/
def mq_x (am : Nat) (M : zM) (pr k : Nat) (S : List (Nat × Nat)) : Prop := ∀ i p, S[i]? = some p → zm_I M 20 (am + 19) (5 * pr + (k + i)) = nI p.1 ∧ zm_I M 20 (am + 20) (5 * pr + (k + i)) = nI p.2
def py_wo (t : List Nat) (p : Nat × Nat) : List Nat := (t.drop p.1).take p.2
theorem wo_len {t : List Nat} {p : Nat × Nat} (h : p.1 + p.2 ≤ t.length) : (py_wo t p).length = p.2 := by
  unfold py_wo
  rw [List.length_take, List.length_drop]
  omega
theorem wo_get {t : List Nat} {p : Nat × Nat} {i z : Nat} (h : (py_wo t p)[i]? = some z) : t[p.1 + i]? = some z := by
  unfold py_wo at h
  rw [List.getElem?_take] at h
  split at h
  · rw [List.getElem?_drop] at h
    exact h
  · cases h
theorem wo_app {t u : List Nat} {p : Nat × Nat} (h : p.1 + p.2 ≤ t.length) : py_wo (t ++ u) p = py_wo t p := by
  unfold py_wo
  rw [List.drop_append_of_le_length (by omega), List.take_append_of_le_length (by rw [List.length_drop]; omega)]
section
variable {am r d : Nat} {M : zM} {P : yP} {t : List Nat}
variable (R1 : Nat → Int32 → Int32 → Int32 → zM → Option (Int32 × zM)) (R2 : Nat → Int32 → Int32 → zM → Option (Int32 × zM)) (R3 : Nat → Int32 → Int32 → Int32 → zM → Option (Int32 × zM)) (R4 : Nat → Int32 → Int32 → zM → Option (Int32 × zM)) (R5 : Nat → Int32 → Int32 → Int32 → Int32 → Int32 → zM → Option (Int32 × zM))
/-- the insertion of a piece -/
theorem mr_some_107 (kl : Nat → Int32 → Int32 → Int32 → Int32 → Int32 → Int32 → Int32 → Int32 → zM → Option (Int32 × zM)) (v1 v2 v3 v4 v5 v6 v8 : Int32) {fr pr : Nat} (hpr : pr ≤ 62) (hfr : fr ≤ t.length) : ∀ (S1 S2 : List (Nat × Nat)) (M : zM), ml_ok am M → mt_x am M t → (∀ p, p ∈ S1 → p.1 + p.2 ≤ t.length) → S1.length + S2.length ≤ 4 → mq_x am M pr 0 S1.reverse → mq_x am M pr (S1.length + 1) S2 → ∀ fuel, S1.length < fuel → ∃ M', mo_some_107 R1 R2 R3 R4 R5 kl d fuel am v1 v2 v3 v4 v5 v6 (nI (S1.length + S2.length)) v8 (nI fr) (nI S1.length) (nI (5 * pr)) M = mo_some_234 R1 R2 R3 R4 R5 kl d am v1 v2 v3 v4 v5 v6 (nI (S1.length + S2.length + 1)) v8 M' ∧ mq_x am M' pr 0 (py_inp (fun p => py_ah (t.drop fr) (py_wo t p)) (fr, t.length - fr) S1 S2) ∧ mt_x am M' t ∧ zf (sh_W am t.length pr) M M' ∧ zm_I M' 12 am 31 = zm_I M 12 am 31 := by
  intro S1
  have put : ∀ (S1 S2 : List (Nat × Nat)) (M : zM), ml_ok am M → mt_x am M t → S1.length + S2.length ≤ 4 → mq_x am M pr 0 S1.reverse → mq_x am M pr (S1.length + 1) S2 → ∃ M', mo_some_202 R1 R2 R3 R4 R5 kl d am v1 v2 v3 v4 v5 v6 (nI (S1.length + S2.length)) v8 (nI fr) (nI S1.length) (nI (5 * pr)) M = mo_some_234 R1 R2 R3 R4 R5 kl d am v1 v2 v3 v4 v5 v6 (nI (S1.length + S2.length + 1)) v8 M' ∧ mq_x am M' pr 0 (S1.reverse ++ (fr, t.length - fr) :: S2) ∧ mt_x am M' t ∧ zf (sh_W am t.length pr) M M' ∧ zm_I M' 12 am 31 = zm_I M 12 am 31 := by
    intro S1 S2 M hl h hlen hS1 hS2
    have h12 := h.2.1
    have hz : z_in (nI (5 * pr + S1.length)) 320 := nI_in (by omega) (by omega)
    refine ⟨zm_setI (zm_setI M 20 (am + 19) (5 * pr + S1.length) (nI fr)) 20 (am + 20) (5 * pr + S1.length) (nI (t.length - fr)), ?_, ?_, ?_, ?_, ?_⟩
    · simp only [mo_some_202, ml_R29 hl, ml_L29 hl, ml_R30 hl, ml_L30 hl, nI_add, if_pos hz, nI_clamp (show 5 * pr + S1.length < 2 ^ 31 by omega), zlet, pm_RI, pm_LI, pm_ne (show (12 : Nat) ≠ 20 ∨ am ≠ am + 19 ∨ (28 : Nat) ≠ 5 * pr + S1.length from .inl (by decide)), h.1, pk_sub hfr, nI_1]
    · intro i p hp
      by_cases e : i < S1.length
      · rw [List.getElem?_append_left (by simpa using e)] at hp
        have := hS1 i p hp
        have e2 : 5 * pr + (0 + i) ≠ 5 * pr + S1.length := by omega
        simp only [pm_II, e2, and_false, if_false]
        exact this
      · rw [List.getElem?_append_right (by simp; omega)] at hp
        simp only [List.length_reverse] at hp
        by_cases e2 : i = S1.length
        · subst e2
          simp at hp
          subst hp
          simp [pm_II]
        · have e3 : i - S1.length = (i - S1.length - 1) + 1 := by omega
          rw [e3, List.getElem?_cons_succ] at hp
          have := hS2 _ p hp
          have e4 : 5 * pr + (0 + i) ≠ 5 * pr + S1.length := by omega
          have e5 : 5 * pr + (0 + i) = 5 * pr + (S1.length + 1 + (i - S1.length - 1)) := by omega
          simp only [pm_II, e4, and_false, if_false]
          rw [e5]
          exact this
    · refine ⟨by simp [pm_II]; exact h.1, h.2.1, ?_, h.2.2.2⟩
      intro i x hx
      simp [pm_II]
      exact h.2.2.1 i x hx
    · refine zf_trans (zf_set ?_) (zf_set ?_)
      · exact .inr (.inr ⟨rfl, .inl rfl, by omega⟩)
      · exact .inr (.inr ⟨rfl, .inr rfl, by omega⟩)
    · simp [pm_II]
  induction S1 with
  | nil =>
    intro S2 M hl h _ hlen hS1 hS2 fuel hf
    cases fuel with
    | zero => cases hf
    | succ fuel =>
      obtain ⟨M', e1, e2⟩ := put [] S2 M hl h hlen hS1 hS2
      refine ⟨M', ?_, e2⟩
      rw [← e1]
      simp [mo_some_107, pb_n0]
  | cons p S1 ih =>
    intro S2 M hl h hin hlen hS1 hS2 fuel hf
    have h12 := h.2.1
    cases fuel with
    | zero => cases hf
    | succ fuel =>
      simp only [List.length_cons] at hlen hf ⊢
      have hgt : ¬ nI (S1.length + 1) ≤ 0 := nI_nle (by omega) (by omega)
      have hp := hin p List.mem_cons_self
      have hq := hS1 S1.length p (by simp)
      simp only [Nat.zero_add] at hq
      have hidx : nI (5 * pr) + nI (S1.length + 1) - 1 = nI (5 * pr + S1.length) := by
        rw [nI_add]
        exact pk_sub (a := 5 * pr + (S1.length + 1)) (b := 1) (by omega)
      have hz : z_in (nI (5 * pr + S1.length)) 320 := nI_in (by omega) (by omega)
      have hz2 : z_in (nI (5 * pr + (S1.length + 1))) 320 := nI_in (by omega) (by omega)
      have hfl : (t.drop fr).length = t.length - fr := by simp
      have hah := mr_isAhead (d := d) (x := t.drop fr) (y := py_wo t p) (a := fr) (b := p.1) hl h (by
        intro i z hz
        rw [List.getElem?_drop] at hz
        exact hz) (fun i z hz => wo_get hz) (by rw [hfl]; omega) (by rw [wo_len hp]; omega)
      rw [hfl, wo_len hp] at hah
      have e0 : mo_some_107 R1 R2 R3 R4 R5 kl d (fuel + 1) am v1 v2 v3 v4 v5 v6 (nI (S1.length + 1 + S2.length)) v8 (nI fr) (nI (S1.length + 1)) (nI (5 * pr)) M = if py_ah (t.drop fr) (py_wo t p) then mo_some_107 R1 R2 R3 R4 R5 kl d fuel am v1 v2 v3 v4 v5 v6 (nI (S1.length + 1 + S2.length)) v8 (nI fr) (nI S1.length) (nI (5 * pr)) (zm_setI (zm_setI M 20 (am + 19) (5 * pr + (S1.length + 1)) (nI p.1)) 20 (am + 20) (5 * pr + (S1.length + 1)) (nI p.2)) else mo_some_202 R1 R2 R3 R4 R5 kl d am v1 v2 v3 v4 v5 v6 (nI (S1.length + 1 + S2.length)) v8 (nI fr) (nI (S1.length + 1)) (nI (5 * pr)) M := by
        simp only [mo_some_107, if_neg hgt, ml_R29 hl, ml_L29 hl, ml_R30 hl, ml_L30 hl, hidx, if_pos hz, nI_clamp (show 5 * pr + S1.length < 2 ^ 31 by omega), hq.1, hq.2, h.1, pk_sub hfr, hah, Option.bind_some]
        cases py_ah (t.drop fr) (py_wo t p)
        · simp [pb_zbf]
        · rw [pb_zbt, if_neg (by decide)]
          simp only [nI_add, if_pos hz2, nI_clamp (show 5 * pr + (S1.length + 1) < 2 ^ 31 by omega), zlet, pm_RI, pm_LI, ml_R30 hl, ml_L30 hl, if_pos hz, if_true, pm_ne (show (20 : Nat) ≠ 20 ∨ am + 20 ≠ am + 19 ∨ 5 * pr + S1.length ≠ 5 * pr + (S1.length + 1) from .inr (.inl (by omega))), hq.2, pk_m1]
      rw [e0]
      unfold py_inp
      cases hb : py_ah (t.drop fr) (py_wo t p)
      · simp only [Bool.false_eq_true, if_false]
        obtain ⟨M', g1, g2⟩ := put (p :: S1) S2 M hl h (by simpa using hlen) hS1 hS2
        exact ⟨M', g1, g2⟩
      · simp only [if_true]
        have hl1 : ml_ok am (zm_setI (zm_setI M 20 (am + 19) (5 * pr + (S1.length + 1)) (nI p.1)) 20 (am + 20) (5 * pr + (S1.length + 1)) (nI p.2)) := ml_set (ml_set hl)
        have hfm : zf (sh_W am t.length pr) M (zm_setI (zm_setI M 20 (am + 19) (5 * pr + (S1.length + 1)) (nI p.1)) 20 (am + 20) (5 * pr + (S1.length + 1)) (nI p.2)) := zf_trans (zf_set (.inr (.inr ⟨rfl, .inl rfl, by omega⟩))) (zf_set (.inr (.inr ⟨rfl, .inr rfl, by omega⟩)))
        obtain ⟨M', g1, g2, g3, g4, g5⟩ := ih (p :: S2) _ hl1 (by
          refine ⟨by simp [pm_II]; exact h.1, h.2.1, ?_, h.2.2.2⟩
          intro i x hx
          simp [pm_II]
          exact h.2.2.1 i x hx) (fun q hq => hin q (List.mem_cons_of_mem _ hq)) (by simp; omega) (by
          intro i q hq
          have hil := (List.getElem?_eq_some_iff.mp hq).1
          simp at hil
          have := hS1 i q (by rw [List.reverse_cons, List.getElem?_append_left (by simpa using hil)]; exact hq)
          have e2 : 5 * pr + (0 + i) ≠ 5 * pr + (S1.length + 1) := by omega
          simp only [pm_II, e2, and_false, if_false]
          exact this) (by
          intro i q hq
          cases i with
          | zero =>
            simp at hq
            subst hq
            simp [pm_II]
          | succ i =>
            have := hS2 i q (by simpa using hq)
            simp only [List.length_cons] at this
            have e2 : 5 * pr + (S1.length + 1 + (i + 1)) ≠ 5 * pr + (S1.length + 1) := by omega
            have e3 : 5 * pr + (S1.length + 1 + (i + 1)) = 5 * pr + (S1.length + 1 + 1 + i) := by omega
            simp only [pm_II, e2, and_false, if_false]
            rw [e3]
            exact this) fuel (by omega)
        have e4 : S1.length + (p :: S2).length = S1.length + 1 + S2.length := by simp; omega
        rw [e4] at g1
        exact ⟨M', g1, g2, g3, zf_trans hfm g4, g5.trans (by simp [pm_II])⟩
/-- pieces written in their order -/
theorem mr_some_255 {T : List Nat} {S : List (Nat × Nat)} {pr L : Nat} (hpr : pr ≤ 62) (hd : 0 < d) (hS4 : S.length ≤ 4) (hin : ∀ p, p ∈ S → p.1 + p.2 ≤ T.length) (hL : L ≤ T.length) (v6 v8 : Int32) : ∀ (b a : List (Nat × Nat)) (M : zM) (u : List Nat), S = a ++ b → ml_ok am M → mt_x am M (T ++ u) → mq_x am M pr 0 S → zm_I M 12 am 31 = nI pr → (T ++ u).length + ((b.map (py_wo T)).flatten).length ≤ 12000 → ∀ fuel, b.length < fuel → ∃ M', mo_some_255 R1 R2 R3 R4 R5 d fuel am v6 (nI S.length) v8 (nI a.length) M = mo_some_319 R1 R2 R3 R4 R5 d zLF am v6 v8 v8 M' ∧ mt_x am M' (T ++ (u ++ (b.map (py_wo T)).flatten)) ∧ zf (sh_W am L (pr + 1)) M M' ∧ zm_I M' 12 am 31 = nI pr := by
  intro b
  induction b with
  | nil =>
    intro a M u e hl h hq h31 hlen fuel hf
    cases fuel with
    | zero => cases hf
    | succ fuel =>
      have : S.length = a.length := by rw [e]; simp
      refine ⟨M, ?_, by simpa using h, zf_refl _ _, h31⟩
      simp [mo_some_255, this]
  | cons p b ih =>
    intro a M u e hl h hq h31 hlen fuel hf
    cases fuel with
    | zero => cases hf
    | succ fuel =>
      have hll : S.length = a.length + (b.length + 1) := by rw [e]; simp
      have hge : ¬ nI S.length ≤ nI a.length := nI_ge (by omega) (by omega)
      have hpin := hin p (by rw [e]; simp)
      have hpq := hq a.length p (by rw [e]; simp)
      simp only [Nat.zero_add] at hpq
      have hidx : 5 * nI pr + nI a.length = nI (5 * pr + a.length) := mx_5 pr a.length
      have hz : z_in (nI (5 * pr + a.length)) 320 := nI_in (by omega) (by omega)
      have h12 := h.2.1
      simp only [List.length_append] at hlen h12
      have hw := wo_len hpin
      simp only [List.map_cons, List.flatten_cons, List.length_append, hw] at hlen
      obtain ⟨M1, e1, e2, e3, e4⟩ := mr_again (d := d) hl h hd (pr + 1) L (by simp; omega) (a := p.1) (e := p.1 + p.2) (by omega) (by simp; omega) (by simp; omega)
      have ew : ((T ++ u).drop p.1).take (p.1 + p.2 - p.1) = py_wo T p := by
        rw [Nat.add_sub_cancel_left]
        exact wo_app hpin
      rw [ew, List.append_assoc] at e2
      obtain ⟨M2, f1, f2, f3, f4⟩ := ih (a ++ [p]) M1 (u ++ py_wo T p) (by rw [e]; simp) (ml_zf hl e3) e2 (by
        intro i q hq'
        have hi := (List.getElem?_eq_some_iff.mp hq').1
        have := hq i q hq'
        rw [e3.2.2.2.2.2.2 20 (am + 19) _ (by simp [sh_W]; omega), e3.2.2.2.2.2.2 20 (am + 20) _ (by simp [sh_W]; omega)]
        exact this) (by rw [e4]; exact h31) (by simp only [List.length_append]; omega) fuel (by simp at hf; omega)
      refine ⟨M2, ?_, by simpa using f2, zf_trans e3 f3, f4⟩
      rw [← f1]
      simp only [mo_some_255, if_neg hge, ml_R29 hl, ml_L29 hl, ml_R30 hl, ml_L30 hl, h31, hidx, if_pos hz, nI_clamp (show 5 * pr + a.length < 2 ^ 31 by omega), hpq.1, hpq.2, nI_add, e1, Option.bind_some, zlet, nI_1, List.length_append, List.length_cons, List.length_nil, Nat.zero_add]
/-- and moved down -/
theorem mr_some_319 {tt x w : List Nat} {pr pr0 : Nat} (hlen : (tt ++ (x ++ w)).length ≤ 12000) : ∀ (m k : Nat) (M : zM), ml_ok am M → k + m = w.length → zm_I M 12 am 28 = nI (tt ++ (x ++ w)).length → zm_I M 12 am 31 = nI pr → (∀ i z, w[i]? = some z → k ≤ i → zm_I M 22 (am + 18) ((tt ++ x).length + i) = nI z ∧ z < 26) → ∀ fuel, m < fuel → ∃ M', mo_some_319 R1 R2 R3 R4 R5 d fuel am (nI tt.length) (nI (tt ++ x).length) (nI ((tt ++ x).length + k)) M = some (1, zm_setI (zm_setI M' 12 am 28 (nI (tt ++ w).length)) 12 am 31 (nI pr - 1)) ∧ (∀ i z, w[i]? = some z → k ≤ i → zm_I M' 22 (am + 18) (tt.length + i) = nI z) ∧ (∀ j, j < tt.length + k → zm_I M' 22 (am + 18) j = zm_I M 22 (am + 18) j) ∧ zf (sh_W am tt.length pr0) M M' := by
  simp only [List.length_append] at hlen ⊢
  intro m
  induction m with
  | zero =>
    intro k M hl hk h28 h31 _ fuel hf
    cases fuel with
    | zero => cases hf
    | succ fuel =>
      have : k = w.length := by omega
      subst this
      refine ⟨M, ?_, ?_, fun _ _ => rfl, zf_refl _ _⟩
      · have e1 : nI tt.length + nI (tt.length + (x.length + w.length)) - nI (tt.length + x.length) = nI (tt.length + w.length) := by
          rw [nI_add, pk_sub (by omega)]
          congr 1
          omega
        have e2 : tt.length + x.length + w.length = tt.length + (x.length + w.length) := by omega
        simp only [mo_some_319, h28, e2, Int32.le_refl, if_true, zlet, e1, pm_ne (show (12 : Nat) ≠ 12 ∨ am ≠ am ∨ (31 : Nat) ≠ 28 from .inr (.inr (by decide))), h31]
      · intro i z hz hi
        have := (List.getElem?_eq_some_iff.mp hz).1
        omega
  | succ m ih =>
    intro k M hl hk h28 h31 hw fuel hf
    cases fuel with
    | zero => cases hf
    | succ fuel =>
      have hkl : k < w.length := by omega
      have hgk : w[k]? = some w[k] := by simp
      have hwk := hw k _ hgk (Nat.le_refl _)
      have hge : ¬ nI (tt.length + (x.length + w.length)) ≤ nI (tt.length + x.length + k) := nI_ge (by omega) (by omega)
      have hz : z_in (nI (tt.length + x.length + k)) 12000 := nI_in (by omega) (by omega)
      have hz2 : z_in (nI (tt.length + k)) 12000 := nI_in (by omega) (by omega)
      have e1 : nI tt.length + nI (tt.length + x.length + k) - nI (tt.length + x.length) = nI (tt.length + k) := by
        rw [nI_add, pk_sub (by omega)]
        congr 1
        omega
      obtain ⟨M2, f1, f2, f3, f4⟩ := ih (k + 1) (zm_setI M 22 (am + 18) (tt.length + k) (nI w[k])) (ml_set hl) (by omega) (by rw [pm_ne (by omega)]; exact h28) (by rw [pm_ne (by omega)]; exact h31) (by
        intro i z hz hi
        have := hw i z hz (by omega)
        rw [pm_ne (by omega)]
        exact this) fuel (by omega)
      refine ⟨M2, ?_, ?_, ?_, zf_trans (zf_set (.inr (.inl ⟨rfl, rfl, by omega⟩))) f4⟩
      · have e3 : tt.length + x.length + (k + 1) = tt.length + x.length + k + 1 := by omega
        rw [e3] at f1
        rw [← f1]
        simp only [mo_some_319, h28, if_neg hge, ml_R27 hl, ml_L27 hl, if_pos hz, e1, if_pos hz2, nI_clamp (show tt.length + x.length + k < 2 ^ 31 by omega), nI_clamp (show tt.length + k < 2 ^ 31 by omega), hwk.1, byte_26 hwk.2, zlet, nI_1]
      · intro i z hz' hi
        by_cases e : i = k
        · subst e
          rw [f3 _ (by omega), pm_same]
          rw [hgk] at hz'
          injection hz' with hz'
          rw [hz']
        · exact f2 i z hz' (by omega)
      · intro j hj
        rw [f3 j (by omega), pm_ne (by omega)]
end
