/-! THE CLASS: a letter is taken -/
def wk_t (M : zM) (wk : Nat) (t : yS) : Prop := (∀ c, c < 8 → zm_I M 20 (wk + 11) c = nI (t.2.1 c)) ∧ (∀ a, a < 4 → zm_I M 20 (wk + 12) a = t.2.2 a)
def we_W (wk t k j : Nat) : Prop := (t = 20 ∧ (k = wk + 11 ∨ k = wk + 12)) ∨ (t = 8 ∧ k = wk ∧ (j = 1 ∨ j = 2))
/-- the rule and the rows, whatever the walk is at -/
def wk_r (M : zM) (pa : Nat → Nat) (Q : Nat) (P : yP) (wk : Nat) : Prop := cX M pa Q P ∧ wk_l M wk ∧ zm_R M 8 wk 0 = some Q ∧ Q + 10 ≤ wk
section
variable {M M' : zM} {pa : Nat → Nat} {P : yP} {d wk Q : Nat} {s t : yS}
theorem wr_x (h : wk_x M pa Q P wk s) : wk_r M pa Q P wk := ⟨h.1, h.2.1, h.2.2.1, h.2.2.2.1⟩
theorem wr_zf (h : wk_r M pa Q P wk) (hf : zf (we_W wk) M M') : wk_r M' pa Q P wk := by
  have hq := h.2.2.2
  refine ⟨cX_zf h.1 hf ?_ ?_ ?_ ?_, ?_, ?_, hq⟩
  · rintro k j (⟨e, _⟩ | ⟨e, _⟩) <;> cases e
  · rintro k j (⟨e, _⟩ | ⟨e, _⟩) <;> cases e
  · rintro j _ (⟨e, _⟩ | ⟨e, _⟩) <;> cases e
  · rintro i j hi (⟨_, e⟩ | ⟨e, _⟩)
    · omega
    · cases e
  · unfold wk_l
    rw [hf.1, hf.2.1]
    exact h.2.1
  · rw [hf.1]
    exact h.2.2.1
theorem wt_ex (h : wk_x M pa Q P wk s) : ∃ t, wk_t M wk t ∧ ∀ o, s.1 = some o → py_eq P o s t := by
  have key : ∀ v : Int32, ∃ n : Nat, nI n = v := nI_all
  cases hs : s.1 with
  | none =>
    refine ⟨(none, fun c => (key (zm_I M 20 (wk + 11) c)).choose, fun a => zm_I M 20 (wk + 12) a), ⟨fun c _ => ((key (zm_I M 20 (wk + 11) c)).choose_spec).symm, fun a _ => rfl⟩, fun o ho => by cases ho⟩
  | some o =>
    obtain ⟨g1, g2⟩ := h.2.2.2.2.2 o hs
    refine ⟨(some o, fun c => if c < py_nc P ∧ py_wi P (py_cn P c) (py_lf P o) = true then s.2.1 c else (key (zm_I M 20 (wk + 11) c)).choose, fun a => zm_I M 20 (wk + 12) a), ⟨?_, fun a _ => rfl⟩, ?_⟩
    · intro c hc
      show _ = nI (if _ then _ else _)
      by_cases q : c < py_nc P ∧ py_wi P (py_cn P c) (py_lf P o) = true
      · rw [if_pos q]
        exact g1 c q.1 q.2
      · rw [if_neg q]
        exact ((key (zm_I M 20 (wk + 11) c)).choose_spec).symm
    · intro o' ho'
      injection ho' with ho'
      subst ho'
      refine ⟨?_, ?_⟩
      · intro c hc hw
        show (if c < py_nc P ∧ py_wi P (py_cn P c) (py_lf P o) = true then s.2.1 c else _) = _
        rw [if_pos ⟨hc, hw⟩]
      · intro a ha hw
        exact g2 a ha hw
theorem pa_up (hP : py_ok P) (h : cN_x M pa P) {x : Nat} {a : Option Nat} (hx : py_dm P x) (ha : ∀ b, a = some b → py_dm P b) : ((py_up P x).map pa = a.map pa) ↔ py_up P x = a := by
  constructor
  · intro e
    cases hu : py_up P x with
    | none =>
      cases a with
      | none => rfl
      | some b => rw [hu] at e; cases e
    | some n =>
      cases a with
      | none => rw [hu] at e; cases e
      | some b =>
        rw [hu] at e
        have e : some (pa n) = some (pa b) := e
        injection e with e
        rw [h.2.2 n b (ok_pdm hP hx hu) (ha b rfl) e]
  · intro e
    rw [e]
theorem s1_t (hP : py_ok P) {n k : Nat} (hn : py_dm P n) (k5 : py_kd P n = 5) (ht : wk_t M wk t) : wk_t (zm_setI M 20 (wk + 11) (py_nb P n) 1) wk (py_s1 P t n k) := by
  unfold py_s1
  rw [if_pos k5]
  refine ⟨?_, ?_⟩
  · intro c hc
    show _ = nI (if c = py_nb P n then 1 else t.2.1 c)
    by_cases q : c = py_nb P n
    · rw [if_pos q, q, pm_same]
      rfl
    · rw [if_neg q, pm_ne (by omega)]
      exact ht.1 c hc
  · intro a ha
    rw [pm_ne (by omega)]
    exact ht.2 a ha
theorem s1_any (hP : py_ok P) {n k : Nat} (hn : py_dm P n) (k4 : py_kd P n = 4) (ht : wk_t M wk t) : wk_t (zm_setI M 20 (wk + 12) (py_nb P n) (zbit (py_bf (py_ks P n) k).length)) wk (py_s1 P t n k) := by
  unfold py_s1
  rw [if_neg (by omega), if_pos k4]
  refine ⟨?_, ?_⟩
  · intro c hc
    rw [pm_ne (by omega)]
    exact ht.1 c hc
  · intro a ha
    show _ = (if a = py_nb P n then _ else t.2.2 a)
    by_cases q : a = py_nb P n
    · rw [if_pos q, q, pm_same]
    · rw [if_neg q, pm_ne (by omega)]
      exact ht.2 a ha
theorem cl_enter_13 (hP : py_ok P) {a : Option Nat} : ∀ x, py_dm P x → (∀ b, a = some b → py_wi P b x = true ∧ b ≠ x) → ∀ (fuel : Nat) (M : zM) (t : yS), py_hg P (py_rt P) - py_hg P x + 1 < fuel → wk_r M pa Q P wk → zm_R M 8 wk 7 = a.map pa → wk_t M wk t → ∃ M' y, wk_enter_13 d fuel wk (some (pa x)) M = wk_enter_90 d wk (some (pa y)) M' ∧ py_dm P y ∧ py_up P y = a ∧ py_wi P y x = true ∧ wk_t M' wk ((py_pt P a x).foldl (fun s x => py_s1 P s x.1 x.2) t) ∧ zf (we_W wk) M M' := by
  refine ok_climb hP _ ?_ ?_
  · intro ha fuel M t hf h h7 ht
    have hn : a = none := by
      cases a with
      | none => rfl
      | some b =>
        obtain ⟨g1, g2⟩ := ha b rfl
        rw [wi_rt hP g2.symm] at g1
        cases g1
    subst hn
    cases fuel with
    | zero => cases hf
    | succ fuel =>
      refine ⟨M, py_rt P, ?_, ok_rt hP, ok_up0 hP, wi_self hP (ok_rt hP), by rw [pt_rt hP]; exact ht, zf_refl _ _⟩
      rw [wk_enter_13]
      simp only [cN_up h.1.1 (ok_rt hP), ok_up0 hP, h7]
      rw [if_pos trivial]
  · intro x n hx e ih ha fuel M t hf h h7 ht
    have hn := ok_pdm hP hx e
    have hm := ok_pks hP hx e
    have hfin := ok_fin hP hx e
    have h1 := ok_uphg hP hx e
    have h2 := ok_top hP hn
    have hnc := ok_nc hP
    have hna := ok_na hP
    cases fuel with
    | zero => cases hf
    | succ fuel =>
      have hup := pa_up (M := M) hP h.1.1 hx (a := a) (fun b hb => (wi_hg hP x hx (ha b hb).1).2)
      have hu := cN_up h.1.1 hx
      rw [pt_up hP hx e]
      rw [wk_enter_13]
      by_cases q : some n = a
      · have hq : zm_R M 3 (pa x) 4 = zm_R M 8 wk 7 := by rw [hu, h7]; exact hup.mpr (e.trans q)
        refine ⟨M, x, ?_, hx, e.trans q, wi_self hP hx, ?_, zf_refl _ _⟩
        · rw [if_pos hq]
        · rw [if_pos (by simpa using q)]
          exact ht
      · have hq : ¬ zm_R M 3 (pa x) 4 = zm_R M 8 wk 7 := by
          rw [hu, h7]
          intro y
          exact q (e.symm.trans (hup.mp y))
        have hun : zm_R M 3 (pa x) 4 = some (pa n) := by rw [hu, e]; rfl
        rw [if_neg (show ¬ (some n == a) = true by simpa using q), List.foldl_cons]
        have ha2 : ∀ b, a = some b → py_wi P b n = true ∧ b ≠ n := by
          intro b hb
          obtain ⟨g1, g2⟩ := ha b hb
          rw [wi_up hP hx e (fun y => g2 y.symm)] at g1
          exact ⟨g1, fun y => q (by rw [hb, y])⟩
        have go : ∀ M1, zf (we_W wk) M M1 → wk_t M1 wk (py_s1 P t n x) → ∃ M' y, wk_enter_13 d fuel wk (some (pa n)) M1 = wk_enter_90 d wk (some (pa y)) M' ∧ py_dm P y ∧ py_up P y = a ∧ py_wi P y x = true ∧ wk_t M' wk ((py_pt P a n).foldl (fun s x => py_s1 P s x.1 x.2) (py_s1 P t n x)) ∧ zf (we_W wk) M M' := by
          intro M1 f1 t1
          obtain ⟨M', y, k1, k2, k3, k4, k5, k6⟩ := ih ha2 fuel M1 _ (by omega) (wr_zf h f1) (by rw [f1.1]; exact h7) t1
          exact ⟨M', y, k1, k2, k3, wi_par hP hx e k4, k5, zf_trans f1 k6⟩
        obtain ⟨ck5, _, _, c2, c3, c4, c5⟩ := ck_v hP hn
        have e4 : (nI (ck (py_kd P n)) = 4) ↔ py_kd P n = 5 := (nI_eq (b := 4) (by omega) (by omega)).trans c4
        have e5 : (nI (ck (py_kd P n)) = 5) ↔ py_kd P n = 4 := (nI_eq (b := 5) (by omega) (by omega)).trans c5
        simp only
        rw [if_neg hq]
        simp only [hun, cN_kd h.1.1 hn, e4]
        by_cases k5 : py_kd P n = 5
        · have h5 := ok_k5 hP hn k5
          have hz : z_in (nI (py_nb P n)) 8 := nI_in (by omega) (by omega)
          rw [if_pos k5]
          simp only [h.2.1.1.1, h.2.1.1.2, cN_nb h.1.1 hn (.inr (.inr k5)), if_pos hz, nI_clamp (show py_nb P n < 2 ^ 31 by omega), zlet, wk_enter_85]
          exact go _ (zf_set (.inl ⟨rfl, .inl rfl⟩)) (s1_t hP hn k5 ht)
        · rw [if_neg k5]
          simp only [wk_enter_58, cN_kd h.1.1 hn, e5]
          by_cases k4 : py_kd P n = 4
          · have h4 := ok_k4 hP hn k4
            have hz : z_in (nI (py_nb P n)) 4 := nI_in (by omega) (by omega)
            rw [if_pos k4]
            simp only [h.2.1.2.1, h.2.1.2.2, cN_nb h.1.1 hn (.inr (.inl k4)), if_pos hz, nI_clamp (show py_nb P n < 2 ^ 31 by omega), zlet, wk_enter_85, cN_pl h.1.1 hn hfin.1]
            exact go _ (zf_set (.inl ⟨rfl, .inr rfl⟩)) (s1_any hP hn k4 ht)
          · rw [if_neg k4]
            simp only [wk_enter_85]
            refine go M (zf_refl _ _) ?_
            unfold py_s1
            rw [if_neg k5, if_neg k4]
            exact ht
theorem cl_enter_174 : ∃ M', wk_enter_174 d wk M = some M' ∧ zm_I M' 8 wk 1 = zm_I M 8 wk 5 ∧ zm_I M' 8 wk 2 = zm_I M 8 wk 6 ∧ (∀ k j, zm_I M' 20 k j = zm_I M 20 k j) ∧ zf (we_W wk) M M' := by
  refine ⟨zm_setI (zm_setI M 8 wk 1 (zm_I M 8 wk 5)) 8 wk 2 (zm_I M 8 wk 6), ?_, ?_, ?_, ?_, ?_⟩
  · unfold wk_enter_174
    simp only [zlet]
    have : zm_I (zm_setI M 8 wk 1 (zm_I M 8 wk 5)) 8 wk 6 = zm_I M 8 wk 6 := pm_ne (by omega)
    rw [this]
  · rw [pm_ne (by omega), pm_same]
  · rw [pm_same]
  · intro k j
    rw [pm_ne (by omega), pm_ne (by omega)]
  · exact zf_trans (zf_set (.inr ⟨rfl, rfl, .inl rfl⟩)) (zf_set (.inr ⟨rfl, rfl, .inr rfl⟩))
theorem cl_enter (hP : py_ok P) (h : wk_x M pa Q P wk s) (hv : ∀ o, s.1 = some o → o < py_nl P) {W : yW} (hW : W ∈ py_ways P s.1) (hh : wk_hit M pa wk (some W)) : ∃ M', wk_enter d wk M = some M' ∧ wk_x M' pa Q P wk (py_go P s W) ∧ zm_I M' 8 wk 2 = zo W.2.1 ∧ zf (we_W wk) M M' := by
  obtain ⟨h1, hnone, hsome⟩ := go_way hP hv hW
  obtain ⟨t, ht, hte⟩ := wt_ex h
  have hge := go_eq hP hv hW hte
  have hlq := ok_lf hP h1
  have hnl := ok_nl hP
  have hnc := ok_nc hP
  have hna := ok_na hP
  have h100 := zLF_100
  have h30 := hg_40 hP hlq
  have hab : ∀ b, W.2.2.1 = some b → py_wi P b (py_lf P W.1) = true ∧ b ≠ py_lf P W.1 := by
    intro b hb
    cases hs : s.1 with
    | none => rw [hnone hs] at hb; cases hb
    | some o =>
      obtain ⟨a, g1, _, _, _, _, g6⟩ := hsome o hs
      rw [g1] at hb
      injection hb with hb
      rw [← hb]
      exact g6
  obtain ⟨b5, b6, b7⟩ := hh
  obtain ⟨M1, y, k1, k2, k3, k4, k5, k6⟩ := cl_enter_13 (d := d) hP (a := W.2.2.1) (py_lf P W.1) hlq hab zLF M t (by omega) (wr_x h) b7 ht
  have r1 := wr_zf (wr_x h) k6
  have c5 : zm_I M1 8 wk 5 = nI W.1 := by
    rw [k6.2.2.2.2.2.2 8 wk 5 (by rintro (⟨e, _⟩ | ⟨_, _, e⟩)
                                  · cases e
                                  · omega)]
    exact b5
  have c6 : zm_I M1 8 wk 6 = zo W.2.1 := by
    rw [k6.2.2.2.2.2.2 8 wk 6 (by rintro (⟨e, _⟩ | ⟨_, _, e⟩)
                                  · cases e
                                  · omega)]
    exact b6
  have c7 : zm_R M1 8 wk 7 = W.2.2.1.map pa := by rw [k6.1]; exact b7
  -- the end: from what the rows are
  have fin : ∀ M2, zf (we_W wk) M M2 → zm_I M2 8 wk 5 = nI W.1 → zm_I M2 8 wk 6 = zo W.2.1 → wk_t M2 wk (py_goc P t W) → ∃ M', wk_enter_174 d wk M2 = some M' ∧ wk_x M' pa Q P wk (py_go P s W) ∧ zm_I M' 8 wk 2 = zo W.2.1 ∧ zf (we_W wk) M M' := by
    intro M2 f2 d5 d6 t2
    obtain ⟨M', g1, g2, g3, g4, g5⟩ := cl_enter_174 (d := d) (wk := wk) (M := M2)
    have f3 := zf_trans f2 g5
    have r3 := wr_zf (wr_x h) f3
    refine ⟨M', g1, ⟨r3.1, r3.2.1, r3.2.2.1, r3.2.2.2, ?_, ?_⟩, g3.trans d6, f3⟩
    · rw [g2, d5]
      rfl
    · intro o ho
      have ho : some W.1 = some o := ho
      injection ho with ho
      subst ho
      refine ⟨?_, ?_⟩
      · intro c hc hw
        rw [g4, t2.1 c (by omega), hge.1 c hc hw]
      · intro a ha hw
        rw [g4, t2.2 a (by omega), hge.2 a ha hw]
  have ru := cR_ru h.1.2.2.1
  have hz : z_in (nI W.1) 16 := nI_in (by omega) (by omega)
  have e6 := (h.1.2.2.1.2.2.2.2.1 W.1 h1).2
  unfold wk_enter
  simp only [h.2.2.1, ru.2.1.1, ru.2.1.2, b5, if_pos hz, nI_clamp (show W.1 < 2 ^ 31 by omega), e6]
  rw [k1]
  unfold wk_enter_90
  cases ha : W.2.2.1 with
  | none =>
    rw [ha] at c7 k5
    have c7 : zm_R M1 8 wk 7 = none := c7
    simp only [c7, wk_enter_131]
    refine fin M1 k6 c5 c6 ?_
    have : py_goc P t W = (some W.1, ((py_pt P none (py_lf P W.1)).foldl (fun s x => py_s1 P s x.1 x.2) t).2) := by
      unfold py_goc py_s2 py_en
      rw [ha]
    rw [this]
    exact k5
  | some a =>
    rw [ha] at c7 k5 k3
    have c7 : zm_R M1 8 wk 7 = some (pa a) := c7
    have had : py_dm P a := ok_pdm hP k2 k3
    have hfin := ok_fin hP k2 k3
    obtain ⟨ck5, _, _, c2, c3, c4, c5'⟩ := ck_v hP had
    have e4 : (nI (ck (py_kd P a)) = 4) ↔ py_kd P a = 5 := (nI_eq (b := 4) (by omega) (by omega)).trans c4
    have e5 : (nI (ck (py_kd P a)) = 5) ↔ py_kd P a = 4 := (nI_eq (b := 5) (by omega) (by omega)).trans c5'
    have hyi : y = W.2.2.2 := by
      cases hs : s.1 with
      | none => rw [hnone hs] at ha; cases ha
      | some o =>
        obtain ⟨a', g1, g2, g3, _, g5, _⟩ := hsome o hs
        rw [ha] at g1
        injection g1 with g1
        subst g1
        exact wi_uniq hP had (ok_pks hP k2 k3) g3 _ hlq k4 g5
    have egc : py_goc P t W = (some W.1, (py_s2 P ((py_pt P (some a) (py_lf P W.1)).foldl (fun s x => py_s1 P s x.1 x.2) t) (some a) y).2) := by
      unfold py_goc py_en
      rw [ha, hyi]
    have frI : ∀ (k : Nat) (v : Int32) (i : Nat), zm_I (zm_setI M1 20 k i v) 8 wk 5 = nI W.1 ∧ zm_I (zm_setI M1 20 k i v) 8 wk 6 = zo W.2.1 := fun k v i => ⟨(pm_ne (by omega)).trans c5, (pm_ne (by omega)).trans c6⟩
    simp only [c7, cN_kd r1.1.1 had, e4]
    by_cases q5 : py_kd P a = 5
    · have h5 := ok_k5 hP had q5
      have hz8 : z_in (nI (py_nb P a)) 8 := nI_in (by omega) (by omega)
      rw [if_pos q5]
      simp only [r1.2.1.1.1, r1.2.1.1.2, cN_nb r1.1.1 had (.inr (.inr q5)), if_pos hz8, nI_clamp (show py_nb P a < 2 ^ 31 by omega), zlet, k5.1 _ (show py_nb P a < 8 by omega), nI_1]
      refine fin _ (zf_trans k6 (zf_set (.inl ⟨rfl, .inl rfl⟩))) (frI _ _ _).1 (frI _ _ _).2 ?_
      rw [egc]
      unfold py_s2
      simp only [if_pos q5]
      refine ⟨?_, ?_⟩
      · intro c hc
        show _ = nI (if c = py_nb P a then _ else _)
        by_cases q : c = py_nb P a
        · rw [if_pos q, q, pm_same]
        · rw [if_neg q, pm_ne (by omega)]
          exact k5.1 c hc
      · intro b hb
        rw [pm_ne (by omega)]
        exact k5.2 b hb
    · rw [if_neg q5]
      unfold wk_enter_131
      simp only [c7, cN_kd r1.1.1 had, e5]
      by_cases q4 : py_kd P a = 4
      · have h4 := ok_k4 hP had q4
        have hz4 : z_in (nI (py_nb P a)) 4 := nI_in (by omega) (by omega)
        rw [if_pos q4]
        simp only [r1.2.1.2.1, r1.2.1.2.2, cN_nb r1.1.1 had (.inr (.inl q4)), if_pos hz4, nI_clamp (show py_nb P a < 2 ^ 31 by omega), zlet, k5.2 _ (show py_nb P a < 4 by omega), cN_pl r1.1.1 had hfin.1]
        refine fin _ (zf_trans k6 (zf_set (.inl ⟨rfl, .inr rfl⟩))) (frI _ _ _).1 (frI _ _ _).2 ?_
        rw [egc]
        unfold py_s2
        simp only [if_neg q5, if_pos q4]
        refine ⟨?_, ?_⟩
        · intro c hc
          rw [pm_ne (by omega)]
          exact k5.1 c hc
        · intro b hb
          show _ = (if b = py_nb P a then _ else _)
          by_cases q : b = py_nb P a
          · rw [if_pos q, q, pm_same]
            rfl
          · rw [if_neg q, pm_ne (by omega)]
            exact k5.2 b hb
      · rw [if_neg q4]
        refine fin M1 k6 c5 c6 ?_
        rw [egc]
        unfold py_s2
        simp only [if_neg q5, if_neg q4]
        exact k5
end
