/-! the class's clash is the reference's -/
section
variable {P : yP} {x : Nat}
def py_tn (P : yP) (V W : yW) : Prop := ∀ a, V.2.2.1 = some a → py_kd P a = 4 → ¬ (py_pa P a W.2.2.1 = true ∧ py_nu P V.2.2.2 = false)
/-- a way that turns at a node around x -/
def py_tw (P : yP) (x : Nat) (V : yW) (k a : Nat) : Prop := py_dm P k ∧ py_up P k = some a ∧ py_wi P k x = true ∧ V ∈ py_lv P k
theorem tw_a (hP : py_ok P) (hx : py_dm P x) {V : yW} {k a : Nat} (h : py_tw P x V k a) : py_dm P a ∧ py_wi P a x = true ∧ a ≠ x ∧ V.2.2.1 = some a := by
  have ha := ok_pdm hP h.1 h.2.1
  have hm := ok_pks hP h.1 h.2.1
  exact ⟨ha, wi_kid hP ha hm x hx h.2.2.1, (wi_ne hP ha hm hx h.2.2.1).symm, (lv_what hP h.1 h.2.1 h.2.2.2).1⟩
theorem pa_self (a : Nat) : py_pa P a (some a) = false := by simp [py_pa]
theorem clk_c (hP : py_ok P) (hx : py_dm P x) {V : yW} {W : yK} {k a : Nat} (h : py_tw P x V k a) (hW : kw_e P x W 0) : py_htl P V.2.1 W.2.1 = true ↔ (py_kd P a = 5 → py_cr P a V W.1 = true) := by
  obtain ⟨ha, hwa, hax, hat⟩ := tw_a hP hx h
  obtain ⟨_, _, hby, _, _, h1⟩ := lv_what hP h.1 h.2.1 h.2.2.2
  by_cases k5 : py_kd P a = 5
  · rw [if_pos k5] at hby
    have h5 := ok_k5 hP ha k5
    have hc := h5.2.1
    have hne := h1 k5
    have hnc := ok_nc hP
    have hb := hW (py_nb P a) (by omega)
    rw [h5.2.2, zy_0] at hb
    obtain ⟨b, hkb, _, hfew⟩ := few_v hP hc
    rw [h5.2.2] at hkb
    have hps : py_ps P a V W.1 = py_pa P a W.1.2.2.1 := by
      unfold py_ps
      rw [hat, pa_self, Bool.false_or]
    have hcr : py_cr P a V W.1 = (match py_to P (py_nb P a) with
      | none => true
      | some t => decide (py_lt2 P a V W.1 < t)) := by
      unfold py_cr
      rw [hat]
      simp
      rfl
    have hhl : py_htl P (some (py_nb P a)) W.2.1 = (!zbt W.2.1 (py_nb P a) || (match py_to P (py_nb P a) with
      | none => true
      | some t => decide (py_fr P (py_nb P a) < t))) := rfl
    rw [hcr, hby, hhl]
    cases ht : py_to P (py_nb P a) with
    | none => simp
    | some t =>
      have htt := ok_to hP hc ht
      have ht1 : t ≠ 1 := fun y => hne (by rw [ht, y])
      simp only [k5, true_implies]
      unfold py_lt2
      rw [hps, hkb]
      simp only [List.all_cons, List.all_nil, Bool.and_true]
      by_cases g : py_pa P a W.1.2.2.1 = true ∧ 1 < py_few P (py_nb P a)
      · have z1 : zbt W.2.1 (py_nb P a) = true := hb.mpr (.inr ⟨hc, hwa, hax, g.1, g.2⟩)
        have g2 := g.2
        rw [hfew] at g2
        split at g2
        · omega
        · rename_i hn
          have hnu : py_nu P b = false := by
            cases hh : py_nu P b
            · rfl
            · exact absurd (.inr hh) hn
          have hmax : max 1 (py_fr P (py_nb P a)) = py_fr P (py_nb P a) := by omega
          rw [z1, g.1, hnu]
          simp [hmax]
      · have z1 : zbt W.2.1 (py_nb P a) = false := by
          cases hz : zbt W.2.1 (py_nb P a)
          · rfl
          · have := hb.mp hz
            rcases this with h | ⟨_, _, _, q1, q2⟩
            · cases h
            · exact absurd ⟨q1, q2⟩ g
        rw [z1]
        simp only [Bool.not_false, Bool.true_or, true_iff, decide_eq_true_eq]
        split
        · rename_i hh
          rw [Bool.and_eq_true] at hh
          have hnu : py_nu P b = false := by simpa using hh.2
          have : ¬ 1 < py_few P (py_nb P a) := fun y => g ⟨hh.1, y⟩
          rw [hfew, hnu] at this
          have hfr : py_fr P (py_nb P a) ≤ 1 := by
            by_cases f0 : py_fr P (py_nb P a) = 0
            · omega
            · rw [if_neg (by simp [f0])] at this
              omega
          omega
        · omega
  · rw [if_neg k5] at hby
    rw [hby]
    simp [py_htl, k5]
theorem bf_at {l : List Nat} {c : Nat} (h : c ∈ l) : l[(py_bf l c).length]? = some c := by
  have := (bf_split h).1
  have e : ∀ (u v : List Nat), l = u ++ c :: v → l[u.length]? = some c := by
    intro u v g
    rw [g]
    simp
  exact e _ _ this
theorem ah_bt (hP : py_ok P) (hx : py_dm P x) {V : yW} {k a i : Nat} (h : py_tw P x V k a) (hi : i < 32) : zbt (py_ah1 P V) i = true ↔ py_kd P a = 4 ∧ i / 4 = py_nb P a ∧ i % 4 = (py_bf (py_ks P a) V.2.2.2).length ∧ i = 4 * py_nb P a + (py_bf (py_ks P a) V.2.2.2).length := by
  obtain ⟨ha, hwa, hax, hat⟩ := tw_a hP hx h
  obtain ⟨_, _, _, hin, _, _⟩ := lv_what hP h.1 h.2.1 h.2.2.2
  unfold py_ah1
  rw [hat]
  simp only
  by_cases k4 : py_kd P a = 4
  · have h4 := ok_k4 hP ha k4
    have hna := ok_na hP
    have hj := (List.getElem?_eq_some_iff.mp (bf_at hin)).1
    rw [if_pos k4, zy_bit (by omega) hi, decide_eq_true_eq]
    constructor
    · intro e; exact ⟨k4, by omega, by omega, e⟩
    · rintro ⟨_, _, _, e⟩; exact e
  · rw [if_neg k4, zy_0]
    simp [k4]
theorem ov_ah (hP : py_ok P) (hx : py_dm P x) {V : yW} {W : yK} {k a i : Nat} (h : py_tw P x V k a) (hW : kw_o P x W 0) (hi : i < 32) (hb : zbt (py_ah1 P V) i = true) : zbt W.2.2.1 i = true ↔ py_pa P a W.1.2.2.1 = true ∧ py_nu P V.2.2.2 = false := by
  obtain ⟨ha, hwa, hax, hat⟩ := tw_a hP hx h
  obtain ⟨_, _, _, hin, _, _⟩ := lv_what hP h.1 h.2.1 h.2.2.2
  obtain ⟨k4, b1, b2, _⟩ := (ah_bt hP hx h hi).mp hb
  have h4 := ok_k4 hP ha k4
  rw [hW i hi, zy_0, b1, b2, h4.2.2.2, ml_mem, Nat.sub_zero, bf_at hin]
  constructor
  · rintro (g | ⟨_, _, _, g1, _, c, g2, g3⟩)
    · cases g
    · injection g2 with g2
      rw [g2]
      exact ⟨g1, g3⟩
  · rintro ⟨g1, g2⟩
    exact .inr ⟨h4.2.2.1, hwa, hax, g1, Nat.zero_le _, _, rfl, g2⟩
theorem clk_a (hP : py_ok P) (hx : py_dm P x) {V W : yK} {k a k' a' : Nat} (h : py_tw P x V.1 k a) (h' : py_tw P x W.1 k' a') (oV : kw_o P x V 0) (oW : kw_o P x W 0) (eV : V.2.2.2 = py_ah1 P V.1) (eW : W.2.2.2 = py_ah1 P W.1) : ((V.2.2.1 ||| W.2.2.1) &&& (V.2.2.2 ||| W.2.2.2) = 0) ↔ py_tn P V.1 W.1 ∧ py_tn P W.1 V.1 := by
  have hat := (tw_a hP hx h).2.2.2
  have hat' := (tw_a hP hx h').2.2.2
  have one : ∀ {V W : yK} {k a : Nat}, py_tw P x V.1 k a → V.1.2.2.1 = some a → kw_o P x V 0 → kw_o P x W 0 → (∀ i, i < 32 → zbt (py_ah1 P V.1) i = true → zbt V.2.2.1 i = false ∧ (zbt W.2.2.1 i = false ↔ py_tn P V.1 W.1)) ∧ (¬ py_kd P a = 4 → py_tn P V.1 W.1) ∧ (py_kd P a = 4 → ∃ i, i < 32 ∧ zbt (py_ah1 P V.1) i = true) := by
    intro V W k a h hat oV oW
    refine ⟨?_, ?_, ?_⟩
    · intro i hi hb
      have k4 := ((ah_bt hP hx h hi).mp hb).1
      have g1 := ov_ah hP hx h oV hi hb
      have g2 := ov_ah hP hx h oW hi hb
      rw [hat, pa_self] at g1
      constructor
      · cases hz : zbt V.2.2.1 i
        · rfl
        · exact absurd (g1.mp hz).1 (by simp)
      · constructor
        · intro hz a1 e1 _ hh
          rw [hat] at e1
          injection e1 with e1
          subst e1
          rw [g2.mpr hh] at hz
          cases hz
        · intro ht
          cases hz : zbt W.2.2.1 i
          · rfl
          · exact absurd (g2.mp hz) (ht a hat k4)
    · intro k4 a1 e1 q
      rw [hat] at e1
      injection e1 with e1
      subst e1
      exact absurd q k4
    · intro k4
      have ha := (tw_a hP hx h).1
      have h4 := ok_k4 hP ha k4
      have hna := ok_na hP
      obtain ⟨_, _, _, hin, _, _⟩ := lv_what hP h.1 h.2.1 h.2.2.2
      have hj := (List.getElem?_eq_some_iff.mp (bf_at hin)).1
      refine ⟨4 * py_nb P a + (py_bf (py_ks P a) V.1.2.2.2).length, by omega, ?_⟩
      rw [ah_bt hP hx h (by omega)]
      exact ⟨k4, by omega, by omega, rfl⟩
  obtain ⟨p1, p2, p3⟩ := one h hat oV oW
  obtain ⟨q1, q2, q3⟩ := one h' hat' oW oV
  constructor
  · intro e
    have eb : ∀ i, i < 32 → ((zbt V.2.2.1 i || zbt W.2.2.1 i) && (zbt (py_ah1 P V.1) i || zbt (py_ah1 P W.1) i)) = false := by
      intro i hi
      have := congrArg (fun y => zbt y i) e
      simp only [zy_and, zy_or, zy_0, eV, eW] at this
      exact this
    constructor
    · by_cases k4 : py_kd P a = 4
      · obtain ⟨i, hi, hb⟩ := p3 k4
        have := eb i hi
        rw [hb, (p1 i hi hb).1] at this
        simp only [Bool.false_or, Bool.true_or, Bool.and_true] at this
        exact ((p1 i hi hb).2).mp this
      · exact p2 k4
    · by_cases k4 : py_kd P a' = 4
      · obtain ⟨i, hi, hb⟩ := q3 k4
        have := eb i hi
        rw [hb, (q1 i hi hb).1] at this
        simp only [Bool.or_false, Bool.or_true, Bool.and_true] at this
        exact ((q1 i hi hb).2).mp this
      · exact q2 k4
  · rintro ⟨t1, t2⟩
    refine zy_ext ?_
    intro i hi
    rw [zy_and, zy_or, zy_or, zy_0, eV, eW]
    have w1 : zbt (py_ah1 P V.1) i = true → zbt V.2.2.1 i = false ∧ zbt W.2.2.1 i = false := fun hb => ⟨(p1 i hi hb).1, (p1 i hi hb).2.mpr t1⟩
    have w2 : zbt (py_ah1 P W.1) i = true → zbt W.2.2.1 i = false ∧ zbt V.2.2.1 i = false := fun hb => ⟨(q1 i hi hb).1, (q1 i hi hb).2.mpr t2⟩
    cases c1 : zbt (py_ah1 P V.1) i
    · cases c2 : zbt (py_ah1 P W.1) i
      · simp
      · rw [(w2 c2).1, (w2 c2).2]
        simp
    · rw [(w1 c1).1, (w1 c1).2]
      simp
theorem bo_iff (hP : py_ok P) {V W : yW} : ∀ x, py_dm P x → (py_bo P V W x = true ↔ ∀ k n, py_dm P k → py_up P k = some n → py_wi P k x = true → (py_kd P n = 5 → py_cr P n V W = true) ∧ (py_kd P n = 4 → py_cp P n k V W = true)) := by
  refine ok_climb hP _ ?_ ?_
  · constructor
    · intro _ k n hk e hw
      by_cases q : py_rt P = k
      · rw [← q, ok_up0 hP] at e; cases e
      · rw [wi_rt hP q] at hw; cases hw
    · intro _
      unfold py_bo
      rw [ur_rt hP, ok_up0 hP]
  · intro y p hy e ih
    have eb : py_bo P V W y = ((if py_kd P p = 5 then py_cr P p V W else true) && ((if py_kd P p = 4 then py_cp P p y V W else true) && py_bo P V W p)) := by
      unfold py_bo
      rw [ur_up hP hy e, e]
      rfl
    rw [eb, Bool.and_eq_true, Bool.and_eq_true, ih]
    constructor
    · rintro ⟨h1, h2, h3⟩ k n hk ek hw
      by_cases q : y = k
      · subst q
        rw [e] at ek
        injection ek with ek
        subst ek
        exact ⟨fun k5 => by rw [if_pos k5] at h1; exact h1, fun k4 => by rw [if_pos k4] at h2; exact h2⟩
      · rw [wi_up hP hy e q] at hw
        exact h3 k n hk ek hw
    · intro h
      have hy1 := h y p hy e (wi_self hP hy)
      refine ⟨?_, ?_, fun k n hk ek hw => h k n hk ek (wi_par hP hy e hw)⟩
      · by_cases k5 : py_kd P p = 5
        · rw [if_pos k5]; exact hy1.1 k5
        · rw [if_neg k5]
      · by_cases k4 : py_kd P p = 4
        · rw [if_pos k4]; exact hy1.2 k4
        · rw [if_neg k4]
theorem bo_tn (hP : py_ok P) (hx : py_dm P x) {V W : yW} {k a k' a' : Nat} (h : py_tw P x V k a) (h' : py_tw P x W k' a') : py_bo P V W x = true ↔ ((py_kd P a = 5 → py_cr P a V W = true) ∧ (py_kd P a' = 5 → py_cr P a' V W = true)) ∧ (py_tn P V W ∧ py_tn P W V) := by
  have hat := (tw_a hP hx h).2.2.2
  have hat' := (tw_a hP hx h').2.2.2
  obtain ⟨_, _, _, hin, h4k, _⟩ := lv_what hP h.1 h.2.1 h.2.2.2
  obtain ⟨_, _, _, hin', h4k', _⟩ := lv_what hP h'.1 h'.2.1 h'.2.2.2
  rw [bo_iff hP x hx]
  have hcp : ∀ n own, py_cp P n own V W = true ↔ ∀ c, c ∈ py_ks P n → ¬ (c ≠ own ∧ py_ps P n V W = true ∧ py_nu P c = false ∧ ((V.2.2.1 = some n ∧ V.2.2.2 = c) ∨ (W.2.2.1 = some n ∧ W.2.2.2 = c))) := by
    intro n own
    unfold py_cp
    rw [List.all_eq_true]
    constructor
    · intro g c hc
      have := g c hc
      unfold py_mo at this
      simp at this
      rintro ⟨q1, q2, q3, q4⟩
      rcases this with (t | t | t) | ⟨t1, t2⟩
      · exact q1 t
      · rw [t] at q2; cases q2
      · rw [t] at q3; cases q3
      · rcases q4 with ⟨q5, q6⟩ | ⟨q5, q6⟩
        · rcases t1 with t | t
          · exact t q5
          · exact t q6
        · rcases t2 with t | t
          · exact t q5
          · exact t q6
    · intro g c hc
      have g2 := g c hc
      unfold py_mo
      simp
      by_cases q1 : c = own
      · exact .inl (.inl q1)
      · cases q2 : py_ps P n V W
        · exact .inl (.inr (.inl rfl))
        · cases q3 : py_nu P c
          · refine .inr ⟨?_, ?_⟩
            · by_cases q5 : V.2.2.1 = some n
              · exact .inr (fun q6 => g2 ⟨q1, q2, q3, .inl ⟨q5, q6⟩⟩)
              · exact .inl q5
            · by_cases q5 : W.2.2.1 = some n
              · exact .inr (fun q6 => g2 ⟨q1, q2, q3, .inr ⟨q5, q6⟩⟩)
              · exact .inl q5
          · exact .inl (.inr (.inr rfl))
  constructor
  · intro g
    have g1 := g k a h.1 h.2.1 h.2.2.1
    have g2 := g k' a' h'.1 h'.2.1 h'.2.2.1
    refine ⟨⟨g1.1, g2.1⟩, ?_, ?_⟩
    · intro a1 e1 k4 q
      rw [hat] at e1
      injection e1 with e1
      subst e1
      refine (hcp a k).mp (g1.2 k4) _ hin ⟨h4k k4, ?_, q.2, .inl ⟨hat, rfl⟩⟩
      unfold py_ps
      rw [q.1, Bool.or_true]
    · intro a1 e1 k4 q
      rw [hat'] at e1
      injection e1 with e1
      subst e1
      refine (hcp a' k').mp (g2.2 k4) _ hin' ⟨h4k' k4, ?_, q.2, .inr ⟨hat', rfl⟩⟩
      unfold py_ps
      rw [q.1, Bool.true_or]
  · rintro ⟨⟨c1, c2⟩, t1, t2⟩ y n hy e hw
    constructor
    · intro k5
      by_cases q : a = n
      · rw [← q]; exact c1 (by rw [q]; exact k5)
      · by_cases q' : a' = n
        · rw [← q']; exact c2 (by rw [q']; exact k5)
        · unfold py_cr
          rw [hat, hat']
          simp [q, q']
    · intro k4
      rw [hcp]
      rintro c hc ⟨q1, q2, q3, q4 | q4⟩
      · refine t1 n q4.1 k4 ⟨?_, by rw [q4.2]; exact q3⟩
        unfold py_ps at q2
        rw [q4.1, pa_self, Bool.false_or] at q2
        exact q2
      · refine t2 n q4.1 k4 ⟨?_, by rw [q4.2]; exact q3⟩
        unfold py_ps at q2
        rw [q4.1, pa_self, Bool.or_false] at q2
        exact q2
theorem cr_sy {n : Nat} {V W : yW} : py_cr P n V W = py_cr P n W V := by
  unfold py_cr py_lt2 py_ps
  rw [Bool.or_comm (py_pa P n V.2.2.1), Bool.and_comm (V.2.2.1 != some n)]
/-- the class's clash -/
theorem clk_both (hP : py_ok P) {b : Option Nat} (hb : ∀ o, b = some o → o < py_nl P) {V W : yK} (hV : V ∈ py_cw P b) (hW : W ∈ py_cw P b) : py_clk P V W = py_both P b V.1 W.1 := by
  cases b with
  | none =>
    have hV : V ∈ (py_ways P none).map (fun W => (W, (0 : Int32), (0 : Int32), (0 : Int32))) := hV
    have hW : W ∈ (py_ways P none).map (fun W => (W, (0 : Int32), (0 : Int32), (0 : Int32))) := hW
    obtain ⟨V1, hV1, rfl⟩ := List.mem_map.mp hV
    obtain ⟨W1, hW1, rfl⟩ := List.mem_map.mp hW
    have il : ∀ X : yW, X ∈ py_il P none (py_rt P) none → X.2.1 = none := by
      intro X hX
      unfold py_il at hX
      obtain ⟨q, _, rfl⟩ := List.mem_map.mp hX
      rfl
    unfold py_clk py_both
    simp only
    rw [il V1 hV1, il W1 hW1]
    show (_ && (decide ((0 ||| 0 : Int32) &&& (0 ||| 0) = 0) && (true && true))) = (_ && true)
    rw [show decide ((0 ||| 0 : Int32) &&& (0 ||| 0) = 0) = true by decide]
    rfl
  | some o =>
    have hx := ok_lf hP (hb o rfl)
    obtain ⟨⟨k, a, h1⟩, eV, oV, aV⟩ := cwf_mem hP _ hx 40 0 0 V hV
    obtain ⟨⟨k', a', h1'⟩, eW, oW, aW⟩ := cwf_mem hP _ hx 40 0 0 W hW
    have h : py_tw P (py_lf P o) V.1 k a := h1
    have h' : py_tw P (py_lf P o) W.1 k' a' := h1'
    unfold py_clk py_both
    simp only
    congr 1
    rw [Bool.eq_iff_iff, Bool.and_eq_true, Bool.and_eq_true, decide_eq_true_eq, clk_a hP hx h h' oV oW aV aW, clk_c hP hx h eW, clk_c hP hx h' eV, bo_tn hP hx h h', cr_sy (n := a') (V := W.1) (W := V.1)]
    constructor
    · rintro ⟨g1, g2⟩; exact ⟨g2, g1⟩
    · rintro ⟨g1, g2⟩; exact ⟨g2, g1⟩
end
