/-! what isn't around is 0; times and parts that the walk tells -/
def wk_0 (P : yP) (s : yS) : Prop := (∀ c, c < py_nc P → (∀ o, s.1 = some o → py_wi P (py_cn P c) (py_lf P o) = false) → s.2.1 c = 0) ∧ (∀ a, a < py_na P → (∀ o, s.1 = some o → py_wi P (py_an P a) (py_lf P o) = false) → s.2.2 a = 0)
section
variable {M M' : zM} {pa : Nat → Nat} {P : yP} {d wk Q B : Nat} {s : yS}
theorem ar_wi (hP : py_ok P) {n : Nat} : ∀ x, py_dm P x → py_wi P n x = true → py_ar P x ≤ py_ar P n := by
  refine ok_climb hP _ ?_ ?_
  · intro h
    by_cases q : py_rt P = n
    · rw [q]; exact Nat.le_refl _
    · rw [wi_rt hP q] at h; cases h
  · intro x p hx e ih h
    by_cases q : x = n
    · rw [q]; exact Nat.le_refl _
    · rw [wi_up hP hx e q] at h
      have := ih h
      have := ok_kar hP (ok_pdm hP hx e) (ok_pks hP hx e)
      omega
theorem ar_cnt (hP : py_ok P) {n x : Nat} (hx : py_dm P x) (hw : py_wi P n x = true) (hne : n ≠ x) (k5 : py_kd P n = 5) : py_ar P x + 1 ≤ py_ar P n := by
  have hn := (wi_hg hP x hx hw).2
  obtain ⟨k, k1, k2, k3⟩ := wi_dn hP x hx hw hne
  obtain ⟨c, hc, har⟩ := (ok_k5 hP hn k5).1
  have hm := ok_pks hP k1 k2
  rw [hc] at hm
  have : k = c := by simpa using hm
  subst this
  have := ar_wi hP x hx k3
  omega
/-- the count next around -/
theorem ca_what (hP : py_ok P) : ∀ x, py_dm P x → (py_ca P x = none → ∀ n, py_wi P n x = true → n ≠ x → py_kd P n ≠ 5) ∧ (∀ c, py_ca P x = some c → c < py_nc P ∧ py_wi P (py_cn P c) x = true ∧ py_cn P c ≠ x ∧ ∀ n, py_wi P n x = true → n ≠ x → py_kd P n = 5 → n = py_cn P c ∨ (py_wi P n (py_cn P c) = true ∧ n ≠ py_cn P c)) := by
  refine ok_climb hP _ ?_ ?_
  · constructor
    · intro _ n hw hne
      rw [wi_rt hP hne.symm] at hw
      cases hw
    · intro c hc
      rw [ca_rt hP] at hc
      cases hc
  · intro x p hx e ih
    have hp := ok_pdm hP hx e
    have hup := ok_uphg hP hx e
    have hpx : p ≠ x := fun y => by rw [y] at hup; omega
    have hdn : ∀ n, py_wi P n x = true → n ≠ x → py_wi P n p = true := fun n h1 h2 => by rw [wi_up hP hx e h2.symm] at h1; exact h1
    have hnx : ∀ n, py_wi P n p = true → n ≠ x := fun n h y => by
      have := (wi_hg hP p hp h).1
      rw [y] at this
      omega
    rw [ca_up hP hx e]
    by_cases k5 : py_kd P p = 5
    · rw [if_pos k5]
      have h5 := ok_k5 hP hp k5
      constructor
      · intro h; cases h
      · intro c hc
        injection hc with hc
        subst hc
        rw [h5.2.2]
        refine ⟨h5.2.1, wi_par hP hx e (wi_self hP hp), hpx, ?_⟩
        intro n h1 h2 _
        by_cases q : n = p
        · exact .inl q
        · exact .inr ⟨hdn n h1 h2, q⟩
    · rw [if_neg k5]
      constructor
      · intro h n h1 h2 k
        by_cases q : n = p
        · rw [q] at k; exact k5 k
        · exact ih.1 h n (hdn n h1 h2) q k
      · intro c hc
        obtain ⟨g1, g2, g3, g4⟩ := ih.2 c hc
        refine ⟨g1, wi_par hP hx e g2, hnx _ g2, ?_⟩
        intro n h1 h2 k
        by_cases q : n = p
        · rw [q] at k; exact absurd k k5
        · exact g4 n (hdn n h1 h2) q k
theorem ct_iff (hP : py_ok P) {o c : Nat} (ho : o < py_nl P) (hc : c < py_nc P) : (py_ct P o false = some c ∨ py_ct P o true = some c) ↔ py_wi P (py_cn P c) (py_lf P o) = true := by
  have hx := ok_lf hP ho
  obtain ⟨w1, w2⟩ := ca_what hP _ hx
  have hkc := ok_cnk hP hc
  have hne := lf_ne hP ho (.inr hkc)
  have inj : ∀ a b, a < py_nc P → b < py_nc P → py_cn P a = py_cn P b → a = b := by
    intro a b ha hb e
    rw [← ok_cnn hP ha, ← ok_cnn hP hb, e]
  unfold py_ct
  cases h1 : py_ca P (py_lf P o) with
  | none =>
    constructor
    · rintro (h | h) <;> cases h
    · intro h
      exact absurd hkc (w1 h1 _ h hne)
  | some c1 =>
    obtain ⟨g1, g2, g3, g4⟩ := w2 c1 h1
    have hd1 := ok_cn hP g1
    have hk1 := ok_cnk hP g1
    obtain ⟨v1, v2⟩ := ca_what hP _ hd1
    simp only
    cases h2 : py_ca P (py_cn P c1) with
    | none =>
      constructor
      · rintro (h | h)
        · have : c1 = c := by injection h
          rw [← this]; exact g2
        · cases h
      · intro h
        rcases g4 _ h hne hkc with q | ⟨q1, q2⟩
        · exact .inl (by rw [inj _ _ hc g1 q]; rfl)
        · exact absurd hkc (v1 h2 _ q1 q2)
    | some e =>
      obtain ⟨f1, f2, f3, f4⟩ := v2 e h2
      have hke := ok_cnk hP f1
      have hde := ok_cn hP f1
      constructor
      · rintro (h | h)
        · have : e = c := by injection h
          rw [← this]
          exact wi_tr hP _ hx g2 f2
        · have : c1 = c := by injection h
          rw [← this]; exact g2
      · intro h
        rcases g4 _ h hne hkc with q | ⟨q1, q2⟩
        · exact .inr (by rw [inj _ _ hc g1 q]; rfl)
        · rcases f4 _ q1 q2 hkc with q | ⟨q3, q4⟩
          · exact .inl (by rw [inj _ _ hc f1 q]; rfl)
          · exfalso
            have a1 := ar_cnt hP hx g2 g3 hk1
            have a2 := ar_cnt hP hd1 f2 f3 hke
            have a3 := ar_cnt hP hde q3 q4 hkc
            have a4 := ok_ar hP (ok_cn hP hc)
            omega
theorem f0_t2 (c : Nat) : ∀ (l : List (Nat × Nat)) (s : yS), (s.2.1 c = 0 ∨ ∃ x, x ∈ l ∧ py_kd P x.1 = 5 ∧ py_nb P x.1 = c) → (l.foldl (fun s x => py_s0 P s x.1) s).2.1 c = 0 := by
  intro l
  induction l with
  | nil =>
    rintro s (h | ⟨x, h, _⟩)
    · exact h
    · cases h
  | cons y l ih =>
    intro s h
    rw [List.foldl_cons]
    refine ih _ ?_
    by_cases g : ∃ x, x ∈ l ∧ py_kd P x.1 = 5 ∧ py_nb P x.1 = c
    · exact .inr g
    · left
      unfold py_s0
      rcases h with h | ⟨x, h1, h2, h3⟩
      · split
        · show (if c = py_nb P y.1 then 0 else s.2.1 c) = 0
          split
          · rfl
          · exact h
        · split <;> exact h
      · rcases List.mem_cons.mp h1 with q | q
        · rw [q] at h2 h3
          rw [if_pos h2]
          show (if c = py_nb P y.1 then 0 else s.2.1 c) = 0
          rw [if_pos h3.symm]
        · exact absurd ⟨x, q, h2, h3⟩ g
theorem f0_b2 (c : Nat) : ∀ (l : List (Nat × Nat)) (s : yS), (s.2.2 c = 0 ∨ ∃ x, x ∈ l ∧ py_kd P x.1 = 4 ∧ py_nb P x.1 = c) → (l.foldl (fun s x => py_s0 P s x.1) s).2.2 c = 0 := by
  intro l
  induction l with
  | nil =>
    rintro s (h | ⟨x, h, _⟩)
    · exact h
    · cases h
  | cons y l ih =>
    intro s h
    rw [List.foldl_cons]
    refine ih _ ?_
    by_cases g : ∃ x, x ∈ l ∧ py_kd P x.1 = 4 ∧ py_nb P x.1 = c
    · exact .inr g
    · left
      unfold py_s0
      rcases h with h | ⟨x, h1, h2, h3⟩
      · split
        · exact h
        · split
          · show (if c = py_nb P y.1 then 0 else s.2.2 c) = 0
            split
            · rfl
            · exact h
          · exact h
      · rcases List.mem_cons.mp h1 with q | q
        · rw [q] at h2 h3
          rw [if_neg (by omega), if_pos h2]
          show (if c = py_nb P y.1 then 0 else s.2.2 c) = 0
          rw [if_pos h3.symm]
        · exact absurd ⟨x, q, h2, h3⟩ g
theorem w0_0 : wk_0 P py_s00 := ⟨fun _ _ _ => rfl, fun _ _ _ => rfl⟩
theorem w0_go (hP : py_ok P) (h : wk_0 P s) (hv : ∀ o, s.1 = some o → o < py_nl P) {W : yW} (hW : W ∈ py_ways P s.1) : wk_0 P (py_go P s W) := by
  obtain ⟨h1, hnone, hsome⟩ := go_way hP hv hW
  have hlq := ok_lf hP h1
  have hab : ∀ b, W.2.2.1 = some b → py_wi P b (py_lf P W.1) = true ∧ b ≠ py_lf P W.1 := by
    intro b hb
    cases hs : s.1 with
    | none => rw [hnone hs] at hb; cases hb
    | some o =>
      obtain ⟨a, g1, _, _, _, _, g6⟩ := hsome o hs
      rw [g1] at hb
      injection hb with hb
      rw [← hb]
      exact g6
  -- a node around the old letter that isn't around the new one is left
  have hleft : ∀ n o, s.1 = some o → py_wi P n (py_lf P o) = true → n ≠ py_lf P o → py_wi P n (py_lf P W.1) = false → ∃ k, (n, k) ∈ py_pt P W.2.2.1 (py_lf P o) := by
    intro n o hs hw hne hnw
    obtain ⟨a, g1, g2, g3, g4, g5, g6⟩ := hsome o hs
    have hxo := ok_lf hP (hv o hs)
    obtain ⟨k, k1, k2, k3⟩ := wi_dn hP _ hxo hw hne
    refine ⟨k, (pt_mem hP _ hxo (fun b hb => by rw [g1] at hb; injection hb with hb; rw [← hb]; exact g4)).mpr ⟨k1, k2, k3, ?_⟩⟩
    rw [g1]
    have hna : py_wi P n a = false := by
      cases q : py_wi P n a
      · rfl
      · rw [wi_tr hP _ hlq g6.1 q] at hnw; cases hnw
    rcases wi_cmp hP _ hxo hw g4.1 with q | q
    · rw [hna] at q; cases q
    · unfold py_pa
      have : a ≠ n := fun y => by rw [← y, wi_self hP g2] at hna; cases hna
      simp [q, this]
  refine ⟨?_, ?_⟩
  · intro c hc hno
    have hno := hno W.1 rfl
    have hkn := ok_cnk hP hc
    have hnn := ok_cnn hP hc
    show (py_en P (py_s2 P (py_lv0 P s W.2.2.1) W.2.2.1 W.2.2.2) W.2.2.1 W.1).2.1 c = 0
    unfold py_en
    rw [f1_t, if_neg (by
      rintro ⟨x, hx, q1, q2⟩
      have hm := (pt_mem (n := x.1) (k := x.2) hP _ hlq hab).mp hx
      have hxd := ok_pdm hP hm.1 hm.2.1
      have e1 : py_cn P c = x.1 := by rw [← q2]; exact (ok_k5 hP hxd q1).2.2
      rw [e1, wi_kid hP hxd (ok_pks hP hm.1 hm.2.1) _ hlq hm.2.2.1] at hno
      cases hno)]
    have hs2 : (py_s2 P (py_lv0 P s W.2.2.1) W.2.2.1 W.2.2.2).2.1 c = (py_lv0 P s W.2.2.1).2.1 c := by
      unfold py_s2
      cases ha : W.2.2.1 with
      | none => rfl
      | some a =>
        simp only
        split
        · rename_i k5
          show (if c = py_nb P a then _ else _) = _
          rw [if_neg (by
            intro y
            have hwa := hab a ha
            have had := (wi_hg hP _ hlq hwa.1).2
            rw [y, (ok_k5 hP had k5).2.2, hwa.1] at hno
            cases hno)]
        · split <;> rfl
    rw [hs2]
    unfold py_lv0
    cases hs : s.1 with
    | none => exact h.1 c hc (fun o ho => by rw [hs] at ho; cases ho)
    | some o =>
      refine f0_t2 c _ s ?_
      cases q : py_wi P (py_cn P c) (py_lf P o)
      · exact .inl (h.1 c hc (fun o' ho' => by rw [hs] at ho'; injection ho' with ho'; rw [← ho']; exact q))
      · obtain ⟨k, hk⟩ := hleft _ o hs q (lf_ne hP (hv o hs) (.inr hkn)) hno
        exact .inr ⟨_, hk, hkn, hnn⟩
  · intro c hc hno
    have hno := hno W.1 rfl
    have hkn := ok_ank hP hc
    have hnn := ok_ann hP hc
    show (py_en P (py_s2 P (py_lv0 P s W.2.2.1) W.2.2.1 W.2.2.2) W.2.2.1 W.1).2.2 c = 0
    have hnot : ∀ x, x ∈ py_pt P W.2.2.1 (py_lf P W.1) → py_kd P x.1 = 4 → py_nb P x.1 = c → False := by
      intro x hx q1 q2
      have hm := (pt_mem (n := x.1) (k := x.2) hP _ hlq hab).mp hx
      have hxd := ok_pdm hP hm.1 hm.2.1
      have e1 : py_an P c = x.1 := by rw [← q2]; exact (ok_k4 hP hxd q1).2.2.2
      rw [e1, wi_kid hP hxd (ok_pks hP hm.1 hm.2.1) _ hlq hm.2.2.1] at hno
      cases hno
    unfold py_en
    rw [f1_b (v := 0) c _ _ (fun x hx q1 q2 => (hnot x hx q1 q2).elim), if_neg (by
      rintro ⟨x, hx, q1, q2⟩
      exact hnot x hx q1 q2)]
    have hs2 : (py_s2 P (py_lv0 P s W.2.2.1) W.2.2.1 W.2.2.2).2.2 c = (py_lv0 P s W.2.2.1).2.2 c := by
      unfold py_s2
      cases ha : W.2.2.1 with
      | none => rfl
      | some a =>
        simp only
        split
        · rfl
        · split
          · rename_i k4
            show (if c = py_nb P a then _ else _) = _
            rw [if_neg (by
              intro y
              have hwa := hab a ha
              have had := (wi_hg hP _ hlq hwa.1).2
              rw [y, (ok_k4 hP had k4).2.2.2, hwa.1] at hno
              cases hno)]
          · rfl
    rw [hs2]
    unfold py_lv0
    cases hs : s.1 with
    | none => exact h.2 c hc (fun o ho => by rw [hs] at ho; cases ho)
    | some o =>
      refine f0_b2 c _ s ?_
      cases q : py_wi P (py_an P c) (py_lf P o)
      · exact .inl (h.2 c hc (fun o' ho' => by rw [hs] at ho'; injection ho' with ho'; rw [← ho']; exact q))
      · obtain ⟨k, hk⟩ := hleft _ o hs q (lf_ne hP (hv o hs) (.inl hkn)) hno
        exact .inr ⟨_, hk, hkn, hnn⟩
end
