/-! two walks that go on alike -/
def py_sim (P : yP) (s t : yS) : Prop := t.1 = s.1 ∧ ∀ o, s.1 = some o → (∀ c, c < py_nc P → py_wi P (py_cn P c) (py_lf P o) = true → t.2.1 c = s.2.1 c ∨ (py_to P c = none ∧ py_few P c ≤ t.2.1 c ∧ py_few P c ≤ s.2.1 c)) ∧ (∀ a, a < py_na P → py_wi P (py_an P a) (py_lf P o) = true → t.2.2 a = s.2.2 a)
section
variable {P : yP} {s t : yS}
theorem sim_refl (s : yS) : py_sim P s s := ⟨rfl, fun o _ => ⟨fun c _ _ => .inl rfl, fun _ _ _ => rfl⟩⟩
theorem sim_cut (s : yS) : py_sim P s (py_cut P s) := by
  refine ⟨rfl, fun o ho => ⟨?_, fun _ _ _ => rfl⟩⟩
  intro c hc hw
  show (if py_to P c = none then min (s.2.1 c) (py_few P c) else s.2.1 c) = _ ∨ (_ ∧ py_few P c ≤ (if py_to P c = none then min (s.2.1 c) (py_few P c) else s.2.1 c) ∧ _)
  by_cases q : py_to P c = none
  · rw [if_pos q]
    by_cases g : s.2.1 c ≤ py_few P c
    · exact .inl (Nat.min_eq_left g)
    · exact .inr ⟨q, by rw [Nat.min_eq_right (by omega)]; exact Nat.le_refl _, by omega⟩
  · rw [if_neg q]
    exact .inl rfl
theorem sim_cl (hP : py_ok P) (h : py_sim P s t) {o n : Nat} (hs : s.1 = some o) (hn : py_dm P n) (hw : py_wi P n (py_lf P o) = true) : py_cl P t n = py_cl P s n := by
  obtain ⟨g1, g2⟩ := h.2 o hs
  unfold py_cl
  by_cases k5 : py_kd P n = 5
  · rw [if_pos k5, if_pos k5]
    have h5 := ok_k5 hP hn k5
    obtain ⟨b, hkb, _, hfew⟩ := few_v hP h5.2.1
    rw [h5.2.2] at hkb
    rcases g1 _ h5.2.1 (by rw [h5.2.2]; exact hw) with q | ⟨_, q1, q2⟩
    · rw [q]
    · rw [hfew] at q1 q2
      rw [hkb]
      simp only [List.all_cons, List.all_nil, Bool.and_true]
      cases hnu : py_nu P b
      · rw [hnu] at q1 q2
        by_cases f0 : py_fr P (py_nb P n) = 0
        · simp [f0]
        · rw [if_neg (by simp [f0])] at q1 q2
          simp [q1, q2]
      · rfl
  · rw [if_neg k5, if_neg k5]
    by_cases k4 : py_kd P n = 4
    · rw [if_pos k4, if_pos k4]
      have h4 := ok_k4 hP hn k4
      rw [g2 _ h4.2.2.1 (by rw [h4.2.2.2]; exact hw)]
    · rw [if_neg k4, if_neg k4]
theorem sim_gt (hP : py_ok P) (h : py_sim P s t) {o n c : Nat} (hs : s.1 = some o) (hn : py_dm P n) (hw : py_wi P n (py_lf P o) = true) : py_gt P t n c = py_gt P s n c := by
  obtain ⟨g1, g2⟩ := h.2 o hs
  unfold py_gt
  by_cases k4 : py_kd P n = 4
  · rw [if_pos k4, if_pos k4]
    have h4 := ok_k4 hP hn k4
    rw [g2 _ h4.2.2.1 (by rw [h4.2.2.2]; exact hw)]
  · rw [if_neg k4, if_neg k4]
    by_cases k5 : py_kd P n = 5
    · rw [if_pos k5, if_pos k5]
      have h5 := ok_k5 hP hn k5
      rcases g1 _ h5.2.1 (by rw [h5.2.2]; exact hw) with q | ⟨q, _, _⟩
      · rw [q]
      · rw [q]
    · rw [if_neg k5, if_neg k5]
theorem bl_rt2 (hP : py_ok P) {a : Nat} : py_bl P s a (py_rt P) = true := by
  unfold py_bl
  rw [ur_rt hP, ok_up0 hP]
theorem sim_bl (hP : py_ok P) (h : py_sim P s t) {o a : Nat} (hs : s.1 = some o) (ho : o < py_nl P) : ∀ x, py_dm P x → py_wi P x (py_lf P o) = true → py_bl P t a x = py_bl P s a x ∧ py_be P t x = py_be P s x := by
  refine ok_climb hP _ ?_ ?_
  · intro _
    rw [bl_rt2 hP, bl_rt2 hP, be_rt hP, be_rt hP]
    exact ⟨rfl, rfl⟩
  · intro x p hx e ih hw
    have hp := ok_pdm hP hx e
    have hwp := wi_kid hP hp (ok_pks hP hx e) _ (ok_lf hP ho) hw
    obtain ⟨i1, i2⟩ := ih hwp
    rw [bl_up hP hx e, bl_up hP hx e, be_up hP hx e, be_up hP hx e, i1, i2, sim_cl hP h hs hp hwp]
    exact ⟨rfl, rfl⟩
theorem sim_cg (hP : py_ok P) (h : py_sim P s t) (hv : ∀ o, s.1 = some o → o < py_nl P) {W : yW} (hW : W ∈ py_ways P s.1) : py_cg P t W = py_cg P s W := by
  obtain ⟨h1, hnone, hsome⟩ := go_way hP hv hW
  unfold py_cg
  rw [h.1]
  cases hs : s.1 with
  | none => rfl
  | some o =>
    obtain ⟨a, g1, g2, _, g4, _⟩ := hsome o hs
    have hx := ok_lf hP (hv o hs)
    rw [g1]
    simp only
    rw [(sim_bl hP h hs (hv o hs) _ hx (wi_self hP hx)).1, sim_gt hP h hs g2 g4.1]
theorem sim_ce (hP : py_ok P) (h : py_sim P s t) (hv : ∀ o, s.1 = some o → o < py_nl P) : py_ce P t = py_ce P s := by
  unfold py_ce
  rw [h.1]
  cases hs : s.1 with
  | none => rfl
  | some o =>
    have hx := ok_lf hP (hv o hs)
    simp only
    rw [(sim_bl (a := 0) hP h hs (hv o hs) _ hx (wi_self hP hx)).2]
theorem sim_avs (hP : py_ok P) (h : py_sim P s t) (hv : ∀ o, s.1 = some o → o < py_nl P) : py_avs P t = py_avs P s := by
  unfold py_avs
  rw [h.1]
  exact List.filter_congr (fun W hW => sim_cg hP h hv hW)
theorem sim_fd (hP : py_ok P) (h : py_sim P s t) (hv : ∀ o, s.1 = some o → o < py_nl P) (l : Nat) : py_fd P t l = py_fd P s l := by
  rw [fd_avs, fd_avs, sim_avs hP h hv]
/-- the times behind a letter -/
theorem go_time (hP : py_ok P) (hv : ∀ o, s.1 = some o → o < py_nl P) {W : yW} (hW : W ∈ py_ways P s.1) {c : Nat} (hc : c < py_nc P) (hw : py_wi P (py_cn P c) (py_lf P W.1) = true) : (py_go P s W).2.1 c = if py_pa P (py_cn P c) W.2.2.1 = true then 1 else if W.2.2.1 = some (py_cn P c) then s.2.1 c + 1 else s.2.1 c := by
  obtain ⟨h1, hnone, hsome⟩ := go_way hP hv hW
  have hlq := ok_lf hP h1
  have hge := go_eq hP hv hW (t := s) (fun o _ => ⟨fun _ _ _ => rfl, fun _ _ _ => rfl⟩)
  rw [← hge.1 c hc hw]
  have hab : ∀ b, W.2.2.1 = some b → py_wi P b (py_lf P W.1) = true ∧ b ≠ py_lf P W.1 := by
    intro b hb
    cases hs : s.1 with
    | none => rw [hnone hs] at hb; cases hb
    | some o =>
      obtain ⟨a, g1, _, _, _, _, g6⟩ := hsome o hs
      rw [g1] at hb
      injection hb with hb
      rw [← hb]
      exact g6
  have hpt := fun n k => pt_mem (n := n) (k := k) hP (py_lf P W.1) hlq hab
  have hkn := ok_cnk hP hc
  have hnn := ok_cnn hP hc
  have hen : (py_en P s W.2.2.1 W.1).2.1 c = if py_pa P (py_cn P c) W.2.2.1 = true then 1 else s.2.1 c := by
    unfold py_en
    rw [f1_t]
    have : (∃ x, x ∈ py_pt P W.2.2.1 (py_lf P W.1) ∧ py_kd P x.1 = 5 ∧ py_nb P x.1 = c) ↔ py_pa P (py_cn P c) W.2.2.1 = true := by
      constructor
      · rintro ⟨x, g1, g2, g3⟩
        have hm := (hpt x.1 x.2).mp g1
        have := (ok_k5 hP (ok_pdm hP hm.1 hm.2.1) g2).2.2
        rw [g3] at this
        rw [this]
        exact hm.2.2.2
      · intro hp
        obtain ⟨k, k1, k2, k3⟩ := wi_dn hP _ hlq hw (lf_ne hP h1 (.inr hkn))
        exact ⟨(py_cn P c, k), (hpt _ _).mpr ⟨k1, k2, k3, hp⟩, hkn, hnn⟩
    by_cases g : py_pa P (py_cn P c) W.2.2.1 = true
    · rw [if_pos g, if_pos (this.mpr g)]
    · rw [if_neg g, if_neg (fun y => g (this.mp y))]
  have hs2 : ∀ u : yS, (py_s2 P u W.2.2.1 W.2.2.2).2.1 c = if W.2.2.1 = some (py_cn P c) then u.2.1 c + 1 else u.2.1 c := by
    intro u
    unfold py_s2
    cases ha : W.2.2.1 with
    | none => simp
    | some a =>
      simp only
      by_cases q : a = py_cn P c
      · subst q
        rw [if_pos hkn, if_pos rfl, hnn]
        simp [py_u]
      · rw [if_neg (show ¬ some a = some (py_cn P c) from fun y => q (by injection y))]
        by_cases k5 : py_kd P a = 5
        · rw [if_pos k5]
          have hwa := hab a ha
          have had := (wi_hg hP _ hlq hwa.1).2
          have : c ≠ py_nb P a := fun y => q (by rw [y]; exact ((ok_k5 hP had k5).2.2).symm)
          simp [py_u, this]
        · rw [if_neg k5]
          split <;> rfl
  show (py_s2 P (py_en P s W.2.2.1 W.1) W.2.2.1 W.2.2.2).2.1 c = _
  rw [hs2, hen]
  by_cases g : py_pa P (py_cn P c) W.2.2.1 = true
  · have : ¬ W.2.2.1 = some (py_cn P c) := by
      intro y
      rw [y, pa_self] at g
      cases g
    rw [if_neg this, if_pos g, if_pos g]
  · rw [if_neg g, if_neg g]
/-- a node around the new letter that isn't begun by it is around the old one -/
theorem go_old (hP : py_ok P) (hv : ∀ o, s.1 = some o → o < py_nl P) {W : yW} (hW : W ∈ py_ways P s.1) {n : Nat} (hw : py_wi P n (py_lf P W.1) = true) (hp : py_pa P n W.2.2.1 = false) : ∃ o, s.1 = some o ∧ py_wi P n (py_lf P o) = true := by
  obtain ⟨h1, hnone, hsome⟩ := go_way hP hv hW
  have hlq := ok_lf hP h1
  cases hs : s.1 with
  | none => rw [hnone hs] at hp; cases hp
  | some o =>
    obtain ⟨a, g1, g2, g3, g4, g5, g6⟩ := hsome o hs
    rw [g1] at hp
    have hup : py_wi P n a = true := by
      rcases wi_cmp hP _ hlq hw g6.1 with q | q
      · exact q
      · have hp : (a != n && py_wi P a n) = false := hp
        rw [q, Bool.and_true] at hp
        have : a = n := by simpa using hp
        rw [← this]
        exact wi_self hP g2
    exact ⟨o, rfl, wi_tr hP _ (ok_lf hP (hv o hs)) g4.1 hup⟩
/-- parts depend on parts alone -/
theorem s1_p (l : List (Nat × Nat)) : ∀ u v : yS, u.2.2 = v.2.2 → (l.foldl (fun s x => py_s1 P s x.1 x.2) u).2.2 = (l.foldl (fun s x => py_s1 P s x.1 x.2) v).2.2 := by
  induction l with
  | nil => intro u v e; exact e
  | cons y l ih =>
    intro u v e
    rw [List.foldl_cons, List.foldl_cons]
    refine ih _ _ ?_
    unfold py_s1
    split
    · exact e
    · split
      · show py_u u.2.2 _ _ = py_u v.2.2 _ _
        rw [e]
      · exact e
theorem goc_p {u v : yS} (e : u.2.2 = v.2.2) (W : yW) : (py_goc P u W).2.2 = (py_goc P v W).2.2 := by
  show (py_s2 P (py_en P u W.2.2.1 W.1) W.2.2.1 W.2.2.2).2.2 = (py_s2 P (py_en P v W.2.2.1 W.1) W.2.2.1 W.2.2.2).2.2
  have h : (py_en P u W.2.2.1 W.1).2.2 = (py_en P v W.2.2.1 W.1).2.2 := s1_p _ _ _ e
  unfold py_s2
  split
  · exact h
  · split
    · exact h
    · split
      · show py_u (py_en P u W.2.2.1 W.1).2.2 _ _ = py_u (py_en P v W.2.2.1 W.1).2.2 _ _
        rw [h]
      · exact h
theorem sim_go (hP : py_ok P) (h : py_sim P s t) (hv : ∀ o, s.1 = some o → o < py_nl P) {W : yW} (hW : W ∈ py_ways P s.1) : py_sim P (py_go P s W) (py_go P t W) := by
  have hvt : ∀ o, t.1 = some o → o < py_nl P := by rw [h.1]; exact hv
  have hWt : W ∈ py_ways P t.1 := by rw [h.1]; exact hW
  refine ⟨rfl, ?_⟩
  intro o ho
  have ho : some W.1 = some o := ho
  injection ho with ho
  subst ho
  refine ⟨?_, ?_⟩
  · intro c hc hw
    rw [go_time hP hv hW hc hw, go_time hP hvt hWt hc hw]
    cases hp : py_pa P (py_cn P c) W.2.2.1
    · obtain ⟨o, hs, hwo⟩ := go_old hP hv hW hw hp
      have g := (h.2 o hs).1 c hc hwo
      simp only [Bool.false_eq_true, if_false]
      by_cases q : W.2.2.1 = some (py_cn P c)
      · rw [if_pos q, if_pos q]
        rcases g with g | ⟨g1, g2, g3⟩
        · exact .inl (by rw [g])
        · exact .inr ⟨g1, by omega, by omega⟩
      · rw [if_neg q, if_neg q]
        exact g
    · simp
  · intro a ha hw
    -- with s's times but t's parts
    have hge := go_eq hP hv hW (t := (s.1, s.2.1, t.2.2)) (fun o hs => ⟨fun _ _ _ => rfl, fun a ha hwo => (h.2 o hs).2 a ha hwo⟩)
    have hgt := go_eq hP hvt hWt (t := t) (fun o _ => ⟨fun _ _ _ => rfl, fun _ _ _ => rfl⟩)
    rw [← hge.2 a ha hw, ← hgt.2 a ha hw]
    have := goc_p (P := P) (u := t) (v := (s.1, s.2.1, t.2.2)) rfl W
    rw [this]
end
