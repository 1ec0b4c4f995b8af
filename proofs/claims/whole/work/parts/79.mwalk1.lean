/-! THE MODEL walks: whether one can leave, go, end -/
/-- a walk: the occurrence, times of counts, parts of anys -/
abbrev yS : Type := Option Nat × (Nat → Nat) × (Nat → Int32)
def mk_x (am : Nat) (M : zM) (w : Nat) (s : yS) : Prop := zm_I M 20 (am + 23) w = zo s.1 ∧ (∀ c, c < 8 → zm_I M 20 (am + 23) (w + 1 + c) = nI (s.2.1 c)) ∧ (∀ a, a < 4 → zm_I M 20 (am + 23) (w + 9 + a) = s.2.2 a)
def sw_ok (P : yP) (s : yS) : Prop := (∀ o, s.1 = some o → o < py_nl P) ∧ ∀ c, s.2.1 c ≤ 1000
def py_cl4 (P : yP) (x : Int32) : Nat → List Nat → Bool
  | _, [] => true
  | i, c :: l => (zbt x i || py_nu P c) && py_cl4 P x (i + 1) l
/-- one can go out of a node -/
def py_cl (P : yP) (s : yS) (n : Nat) : Bool := if py_kd P n = 5 then (py_ks P n).all (py_nu P) || decide (py_fr P (py_nb P n) ≤ s.2.1 (py_nb P n)) else if py_kd P n = 4 then py_cl4 P (s.2.2 (py_nb P n)) 0 (py_ks P n) else true
/-- out of all around x up to a -/
def py_bl (P : yP) (s : yS) (a x : Nat) : Bool := py_ur P (fun k o => match py_up P k with
  | none => true
  | some n => n == a || (py_cl P s n && o.getD true)) x
def py_be (P : yP) (s : yS) (x : Nat) : Bool := py_ur P (fun k o => match py_up P k with
  | none => true
  | some n => py_cl P s n && o.getD true) x
/-- a way's turn -/
def py_gt (P : yP) (s : yS) (a c : Nat) : Bool := if py_kd P a = 4 then !zbt (s.2.2 (py_nb P a)) (py_bf (py_ks P a) c).length else if py_kd P a = 5 then (match py_to P (py_nb P a) with
  | none => true
  | some t => decide (s.2.1 (py_nb P a) < t)) else true
def py_cg (P : yP) (s : yS) (W : yW) : Bool := match s.1 with
  | none => true
  | some o => match W.2.2.1 with
    | none => true
    | some a => py_bl P s a (py_lf P o) && py_gt P s a W.2.2.2
def py_ce (P : yP) (s : yS) : Bool := match s.1 with
  | none => py_nu P (py_rt P)
  | some o => py_lx P (py_lf P o) && py_be P s (py_lf P o)
/-- a way behind an occurrence, all of it -/
def py_wk (P : yP) (o : Nat) (W : yW) : Prop := W.1 < py_nl P ∧ ∃ a, W.2.2.1 = some a ∧ py_dm P a ∧ W.2.2.2 ∈ py_ks P a ∧ py_wi P a (py_lf P o) = true ∧ a ≠ py_lf P o ∧ py_fx P W.2.2.2 (py_lf P W.1) = true
section
variable {am r d : Nat} {M : zM} {P : yP} {s : yS} {w : Nat}
theorem wl_wk (h : py_ok P) : ∀ x, py_dm P x → ∀ W, W ∈ py_wl P x → W.1 < py_nl P ∧ ∃ a, W.2.2.1 = some a ∧ py_dm P a ∧ W.2.2.2 ∈ py_ks P a ∧ py_wi P a x = true ∧ py_hg P x < py_hg P a ∧ py_fx P W.2.2.2 (py_lf P W.1) = true := by
  refine ok_climb h _ ?_ ?_
  · intro W hW
    rw [wl_rt h] at hW
    cases hW
  · intro x p hx e ih W hW
    have hp := ok_pdm h hx e
    have hh := ok_uphg h hx e
    rw [wl_up h hx e] at hW
    rcases List.mem_append.mp hW with y | y
    · obtain ⟨c, h1, h2⟩ := lv_mem h hx e y
      rcases h2 with h2 | h2
      · obtain ⟨q, g1, g2, g3⟩ := il_mem h2
        rw [g2]
        exact ⟨g1, p, rfl, hp, h1, wi_par h hx e (wi_self h hp), hh, g3⟩
      · obtain ⟨q, g1, g2, g3⟩ := il_mem h2
        rw [g2]
        exact ⟨g1, p, rfl, hp, h1, wi_par h hx e (wi_self h hp), hh, g3⟩
    · cases hb : py_pst P x
      · rw [hb] at y; simp at y
      · rw [hb] at y
        obtain ⟨g1, a, g2, g3, g4, g5, g6, g7⟩ := ih W (by simpa using y)
        exact ⟨g1, a, g2, g3, g4, wi_par h hx e g5, by omega, g7⟩
theorem ways_wk (h : py_ok P) {o : Nat} (ho : o < py_nl P) {W : yW} (hW : W ∈ py_ways P (some o)) : py_wk P o W := by
  obtain ⟨g1, a, g2, g3, g4, g5, g6, g7⟩ := wl_wk h _ (ok_lf h ho) W hW
  refine ⟨g1, a, g2, g3, g4, g5, ?_, g7⟩
  intro e
  rw [e] at g6
  omega
theorem mr_has {x : Int32} {i : Nat} (hi : i < 32) : mo_has d x (nI i) M = some (zb (zbt x i), M) := by
  unfold mo_has
  rw [zy_has x hi]
  cases zbt x i <;> simp [mo_has_14, zb]
theorem mr_timesIn (h : mp_ok am M r P) (hd : 0 < d) (hs : mk_x am M w s) (hw : w + 13 ≤ 208) {n : Nat} (hn : py_dm P n) (hk : py_kd P n = 5) : mo_timesIn d am (nI w) (nI n) M = some (nI (s.2.1 (py_nb P n)), M) := by
  have h5 := (ok_k5 h.1 hn hk).2.1
  have h8 := ok_nc h.1
  obtain ⟨d, rfl⟩ : ∃ d', d = d' + 1 := ⟨d - 1, by omega⟩
  show mo_timesIn_b d am (nI w) (nI n) M = _
  have e : nI w + 1 + nI (py_nb P n) = nI (w + 1 + py_nb P n) := by rw [nI_1, nI_add]
  have hz : z_in (nI (w + 1 + py_nb P n)) 208 := nI_in (by omega) (by omega)
  unfold mo_timesIn_b
  simp only [mr_nb h hn (.inr (.inr hk)), Option.bind_some, ml_R34 h.2.1, ml_L34 h.2.1, e, if_pos hz, nI_clamp (show w + 1 + py_nb P n < 2 ^ 31 by omega), hs.2.1 _ (show py_nb P n < 8 by omega)]
theorem mr_setIn (h : mp_ok am M r P) (hd : 0 < d) (hs : mk_x am M w s) (hw : w + 13 ≤ 208) {n : Nat} (hn : py_dm P n) (hk : py_kd P n = 4) : mo_setIn d am (nI w) (nI n) M = some (s.2.2 (py_nb P n), M) := by
  have h5 := (ok_k4 h.1 hn hk).2.2.1
  have h8 := ok_na h.1
  obtain ⟨d, rfl⟩ : ∃ d', d = d' + 1 := ⟨d - 1, by omega⟩
  show mo_setIn_b d am (nI w) (nI n) M = _
  have e : nI w + 9 + nI (py_nb P n) = nI (w + 9 + py_nb P n) := by
    have : nI w + 9 = nI (w + 9) := nI_add w 9
    rw [this, nI_add]
  have hz : z_in (nI (w + 9 + py_nb P n)) 208 := nI_in (by omega) (by omega)
  unfold mo_setIn_b
  simp only [mr_nb h hn (.inr (.inl hk)), Option.bind_some, ml_R34 h.2.1, ml_L34 h.2.1, e, if_pos hz, nI_clamp (show w + 9 + py_nb P n < 2 ^ 31 by omega), hs.2.2 _ (show py_nb P n < 4 by omega)]
theorem mr_canLeave_73 (h : mp_ok am M r P) (hd : 31 ≤ d) (hs : mk_x am M w s) (hw : w + 13 ≤ 208) {n : Nat} (hn : py_dm P n) (hk : py_kd P n = 4) : ∀ (b a : List Nat), py_ks P n = a ++ b → ∀ fuel, b.length < fuel → mo_canLeave_73 d fuel am (nI r) (nI w) (nI n) (nI a.length) (zo b.head?) M = some (zb (py_cl4 P (s.2.2 (py_nb P n)) a.length b), M) := by
  have h4l := (ok_k4 h.1 hn hk).2.1
  intro b
  induction b with
  | nil =>
    intro a _ fuel hf
    cases fuel with
    | zero => cases hf
    | succ fuel => simp [mo_canLeave_73, zo, py_cl4, zb]
  | cons c b ih =>
    intro a e fuel hf
    cases fuel with
    | zero => cases hf
    | succ fuel =>
      have hal : a.length < 4 := by
        have := congrArg List.length e
        simp at this
        omega
      have hc : c ∈ py_ks P n := by rw [e]; simp
      have hcd := ok_kid h.1 hn hc
      have h4 := ok_400 h.1 hcd
      have h30 := ok_hg30 h.1 hcd
      have hne : ¬ nI c = -1 := pb_ne1 (by omega)
      have ih' := ih (a ++ [c]) (by rw [e]; simp) fuel (by simp at hf; omega)
      simp only [List.length_append, List.length_cons, List.length_nil, Nat.zero_add] at ih'
      have h105 : mo_canLeave_105 (fun p0 p1 p2 p3 p4 p5 m => mo_canLeave_73 d fuel p0 p1 p2 p3 p4 p5 m) d am (nI r) (nI w) (nI n) (nI a.length) (nI c) M = some (zb (py_cl4 P (s.2.2 (py_nb P n)) (a.length + 1) b), M) := by
        simp only [mo_canLeave_105, zlet, nI_1, mr_nx h hn e, Option.bind_some, ih']
      simp only [mo_canLeave_73, List.head?_cons, pb_zos, if_neg hne, mr_setIn h (show 0 < d by omega) hs hw hn hk, Option.bind_some, mr_has (show a.length < 32 by omega), py_cl4]
      cases zbt (s.2.2 (py_nb P n)) a.length
      · simp only [pb_zbf, if_true, mr_isNull h c hcd d (by omega), Option.bind_some]
        cases py_nu P c
        · simp [zb]
        · rw [pb_zbt, if_neg (by decide), h105]
          simp
      · rw [pb_zbt, if_neg (by decide), h105]
        simp
theorem mr_canLeave (h : mp_ok am M r P) (hd : 32 ≤ d) (hs : mk_x am M w s) (hso : sw_ok P s) (hw : w + 13 ≤ 208) {n : Nat} (hn : py_dm P n) : mo_canLeave d am (nI r) (nI w) (nI n) M = some (zb (py_cl P s n), M) := by
  obtain ⟨d, rfl⟩ : ∃ d', d = d' + 1 := ⟨d - 1, by omega⟩
  show mo_canLeave_b d am (nI r) (nI w) (nI n) M = _
  have hk := ok_kd h.1 hn
  unfold mo_canLeave_b py_cl
  by_cases q5 : py_kd P n = 5
  · obtain ⟨⟨c, hc, _⟩, hnc, _⟩ := ok_k5 h.1 hn q5
    have hcd := ok_kid h.1 hn (show c ∈ py_ks P n by rw [hc]; simp)
    have h30 := ok_hg30 h.1 hcd
    have hfr := ok_fr h.1 hnc
    have ht := hso.2 (py_nb P n)
    rw [mr_kd h hn, q5, pb_n5, hc]
    simp only [Option.bind_some, if_true, mr_ks h hn, hc, List.head?_cons, pb_zos, mr_isNull h c hcd d (by omega), List.all_cons, List.all_nil, Bool.and_true]
    cases py_nu P c
    · simp only [pb_zbf, if_true, mr_timesIn h (show 0 < d by omega) hs hw hn q5, Option.bind_some, mr_nb h hn (.inr (.inr q5)), mr_fr h hnc, nI_ltI (show s.2.1 (py_nb P n) < 2 ^ 31 by omega) (show py_fr P (py_nb P n) < 2 ^ 31 by omega)]
      by_cases q : s.2.1 (py_nb P n) < py_fr P (py_nb P n)
      · have : ¬ py_fr P (py_nb P n) ≤ s.2.1 (py_nb P n) := by omega
        simp [q, this, mo_canLeave_49, zb]
      · have : py_fr P (py_nb P n) ≤ s.2.1 (py_nb P n) := by omega
        simp [q, this, mo_canLeave_44, mo_canLeave_49, zb]
    · simp [pb_zbt, mo_canLeave_44, mo_canLeave_49]
  · have e5 : ¬ nI (py_kd P n) = 5 := fun x => q5 ((pb_eqk hk (m := 5) (by omega)).mp x)
    rw [mr_kd h hn, if_neg q5]
    simp only [Option.bind_some, if_neg e5, mr_kd h hn]
    by_cases q4 : py_kd P n = 4
    · have hLF := pb_LF
      have hln := ok_ln h.1 hn
      rw [q4, pb_n4, if_pos rfl, if_pos rfl, mr_ks h hn]
      simp only [Option.bind_some]
      exact mr_canLeave_73 (d := d) h (by omega) hs hw hn q4 (py_ks P n) [] rfl zLF (by omega)
    · have e4 : ¬ nI (py_kd P n) = 4 := fun x => q4 ((pb_eqk hk (m := 4) (by omega)).mp x)
      rw [if_neg e4, if_neg q4]
      rfl
theorem bl_up (h : py_ok P) {a x n : Nat} (hx : py_dm P x) (e : py_up P x = some n) : py_bl P s a x = (n == a || (py_cl P s n && py_bl P s a n)) := by
  unfold py_bl
  rw [ur_up h hx e]
  simp only [e]
  rfl
theorem be_up (h : py_ok P) {x n : Nat} (hx : py_dm P x) (e : py_up P x = some n) : py_be P s x = (py_cl P s n && py_be P s n) := by
  unfold py_be
  rw [ur_up h hx e]
  simp only [e]
  rfl
theorem be_rt (h : py_ok P) : py_be P s (py_rt P) = true := by
  unfold py_be
  rw [ur_rt h]
  simp only [ok_up0 h]
theorem mr_canGo_38 (h : mp_ok am M r P) (hd : 32 ≤ d) (hs : mk_x am M w s) (hso : sw_ok P s) (hw : w + 13 ≤ 208) {l : List yW} {k : Nat} {W : yW} (hww : mw_has am M l) (hk : l[k]? = some W) {a : Nat} (ha : py_dm P a) (hc : W.2.2.2 ∈ py_ks P a) : ∀ x, py_dm P x → py_wi P a x = true → x ≠ a → ∀ fuel, py_hg P (py_rt P) - py_hg P x < fuel → mo_canGo_38 d fuel am (nI r) (nI w) (nI k) (nI a) (zo (py_up P x)) M = some (zb (py_bl P s a x && py_gt P s a W.2.2.2), M) := by
  have ha4 := ok_400 h.1 ha
  have hak := ok_kd h.1 ha
  have hk1 := mw_lt hww hk
  have hz : z_in (nI k) 128 := nI_in (by omega) (by omega)
  have hWW := hww.2.2 k W hk
  have hcd := ok_kid h.1 ha hc
  have hcu := ok_kup h.1 ha hc
  refine ok_climb h.1 _ ?_ ?_
  · intro hwi hne
    have : py_rt P ≠ a := hne
    rw [wi_rt h.1 this] at hwi
    cases hwi
  · intro x n hx e ih hwi hne fuel hf
    have hn := ok_pdm h.1 hx e
    have hn4 := ok_400 h.1 hn
    have h5 := ok_uphg h.1 hx e
    have h6 := ok_top h.1 hn
    rw [wi_up h.1 hx e hne] at hwi
    rw [bl_up h.1 hx e, e, pb_zos]
    cases fuel with
    | zero => omega
    | succ fuel =>
      by_cases q : n = a
      · subst q
        simp only [mo_canGo_38, if_true, mr_kd h hn, Option.bind_some]
        unfold py_gt
        by_cases q4 : py_kd P n = 4
        · have hk4 := ok_k4 h.1 hn q4
          have hbl := bf_len hc
          rw [q4, pb_n4, if_pos rfl, if_pos rfl]
          simp only [mr_setIn h (show 0 < d by omega) hs hw hn q4, Option.bind_some, ml_R25 h.2.1, ml_L25 h.2.1, if_pos hz, nI_clamp (show k < 2 ^ 31 by omega), hWW.2.2.2, mr_partOf h (show 0 < d by omega) hcd hcu, mr_has (show (py_bf (py_ks P n) W.2.2.2).length < 32 by omega)]
          cases zbt (s.2.2 (py_nb P n)) (py_bf (py_ks P n) W.2.2.2).length <;> simp [mo_canGo_111, zb]
        · have e4 : ¬ nI (py_kd P n) = 4 := fun x => q4 ((pb_eqk hak (m := 4) (by omega)).mp x)
          rw [if_neg e4, if_neg q4]
          by_cases q5 : py_kd P n = 5
          · have hnc := (ok_k5 h.1 hn q5).2.1
            have ht := hso.2 (py_nb P n)
            rw [q5, pb_n5, if_pos rfl, if_pos rfl, mr_nb h hn (.inr (.inr q5))]
            simp only [Option.bind_some, mr_to h hnc]
            unfold mo_canGo_139
            cases hto : py_to P (py_nb P n) with
            | none => simp [pb_zon, mo_canGo_159, mo_canGo_164, zb]
            | some t =>
              have := ok_to h.1 hnc hto
              rw [pb_zos, if_neg (pb_ne1 (by omega)), mr_timesIn h (by omega) hs hw hn q5]
              simp only [Option.bind_some]
              by_cases q : s.2.1 (py_nb P n) < t
              · rw [if_neg (nI_ge q (by omega))]
                simp [q, mo_canGo_159, mo_canGo_164, zb]
              · rw [if_pos (nI_le (by omega) (by omega))]
                simp [q, mo_canGo_164, zb]
          · have e5 : ¬ nI (py_kd P n) = 5 := fun x => q5 ((pb_eqk hak (m := 5) (by omega)).mp x)
            rw [if_neg e5, if_neg q5]
            simp [mo_canGo_139, mo_canGo_159, mo_canGo_164, zb]
      · have hq : ¬ nI n = nI a := fun e => q ((nI_eq (by omega) (by omega)).mp e)
        have ih' := ih hwi q fuel (by omega)
        have eq : (n == a) = false := by simpa using q
        rw [eq, Bool.false_or]
        simp only [mo_canGo_38, if_neg hq, mr_canLeave h hd hs hso hw hn, Option.bind_some]
        cases py_cl P s n
        · simp [zb]
        · rw [pb_zbt, if_neg (by decide), mr_up h hn]
          simp only [Option.bind_some, ih', Bool.true_and]
theorem mr_canGo (h : mp_ok am M r P) (hd : 33 ≤ d) (hs : mk_x am M w s) (hso : sw_ok P s) (hw : w + 13 ≤ 208) {k : Nat} {W : yW} (hww : mw_has am M (py_ways P s.1)) (hk : (py_ways P s.1)[k]? = some W) : mo_canGo d am (nI r) (nI w) (nI k) M = some (zb (py_cg P s W), M) := by
  have hLF := pb_LF
  have hh := ok_hg h.1
  have hnl := ok_nl h.1
  have hz34 : z_in (nI w) 208 := nI_in (by omega) (by omega)
  obtain ⟨d, rfl⟩ : ∃ d', d = d' + 1 := ⟨d - 1, by omega⟩
  show mo_canGo_b d am (nI r) (nI w) (nI k) M = _
  have hk1 := mw_lt hww hk
  have hz : z_in (nI k) 128 := nI_in (by omega) (by omega)
  have hWW := hww.2.2 k W hk
  unfold mo_canGo_b py_cg
  simp only [ml_R34 h.2.1, ml_L34 h.2.1, if_pos hz34, nI_clamp (show w < 2 ^ 31 by omega), hs.1]
  cases hs1 : s.1 with
  | none => simp [pb_zon, zb]
  | some o =>
    have ho := hso.1 o hs1
    have hl := ok_lf h.1 ho
    have hne : ¬ nI o = -1 := pb_ne1 (by omega)
    rw [hs1] at hk
    obtain ⟨g1, a, g2, g3, g4, g5, g6, g7⟩ := ways_wk h.1 ho (List.mem_of_getElem? hk)
    have ha4 := ok_400 h.1 g3
    have h38 := mr_canGo_38 (d := d) h (by omega) hs hso hw hww (by rw [hs1]; exact hk) g3 g4 (py_lf P o) hl g5 (fun e => g6 e.symm) zLF (by omega)
    rw [g2, pb_zos] at hWW
    simp only [pb_zos, if_neg hne, ml_R24 h.2.1, ml_L24 h.2.1, if_pos hz, nI_clamp (show k < 2 ^ 31 by omega), hWW.2.2.1, zlet, mr_lf h ho, Option.bind_some, mr_up h hl, h38, g2]
theorem mr_canEnd_55 (h : mp_ok am M r P) (hd : 32 ≤ d) (hs : mk_x am M w s) (hso : sw_ok P s) (hw : w + 13 ≤ 208) : ∀ x, py_dm P x → ∀ fuel, py_hg P (py_rt P) - py_hg P x < fuel → mo_canEnd_55 d fuel am (nI r) (nI w) (zo (py_up P x)) M = some (zb (py_be P s x), M) := by
  refine ok_climb h.1 _ ?_ ?_
  · intro fuel hf
    cases fuel with
    | zero => omega
    | succ fuel => simp [mo_canEnd_55, ok_up0 h.1, pb_zon, be_rt h.1, zb]
  · intro x n hx e ih fuel hf
    have hn := ok_pdm h.1 hx e
    have hn4 := ok_400 h.1 hn
    have hne : ¬ nI n = -1 := pb_ne1 (by omega)
    have h5 := ok_uphg h.1 hx e
    have h6 := ok_top h.1 hn
    rw [be_up h.1 hx e, e, pb_zos]
    cases fuel with
    | zero => omega
    | succ fuel =>
      have ih' := ih fuel (by omega)
      simp only [mo_canEnd_55, if_neg hne, mr_canLeave h hd hs hso hw hn, Option.bind_some]
      cases py_cl P s n
      · simp [zb]
      · rw [pb_zbt, if_neg (by decide), mr_up h hn]
        simp only [Option.bind_some, ih', Bool.true_and]
theorem mr_canEnd (h : mp_ok am M r P) (hd : 34 ≤ d) (hs : mk_x am M w s) (hso : sw_ok P s) (hw : w + 13 ≤ 208) : mo_canEnd d am (nI r) (nI w) M = some (zb (py_ce P s), M) := by
  have hLF := pb_LF
  have hh := ok_hg h.1
  have hnl := ok_nl h.1
  have hz34 : z_in (nI w) 208 := nI_in (by omega) (by omega)
  obtain ⟨d, rfl⟩ : ∃ d', d = d' + 1 := ⟨d - 1, by omega⟩
  show mo_canEnd_b d am (nI r) (nI w) M = _
  unfold mo_canEnd_b py_ce
  simp only [ml_R34 h.2.1, ml_L34 h.2.1, if_pos hz34, nI_clamp (show w < 2 ^ 31 by omega), hs.1]
  cases hs1 : s.1 with
  | none =>
    have hr := ok_rt h.1
    simp only [pb_zon, if_true, mr_rt h, Option.bind_some, mr_isNull h _ hr d (by omega)]
    exact if_pos (pb_zb _)
  | some o =>
    have ho := hso.1 o hs1
    have hl := ok_lf h.1 ho
    have hne : ¬ nI o = -1 := pb_ne1 (by omega)
    have h55 := mr_canEnd_55 (d := d) h (by omega) hs hso hw (py_lf P o) hl zLF (by omega)
    simp only [pb_zos, if_neg hne, mr_isLast h (show 33 ≤ d by omega) ho, Option.bind_some]
    cases py_lx P (py_lf P o)
    · simp [zb]
    · rw [pb_zbt, if_neg (by decide)]
      simp only [ml_R34 h.2.1, ml_L34 h.2.1, if_pos hz34, hs.1, hs1, pb_zos, mr_lf h ho, Option.bind_some, mr_up h hl, h55, Bool.true_and]
end
