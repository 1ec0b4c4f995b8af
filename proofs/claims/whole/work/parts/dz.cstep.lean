/-! THE CLASS: a step of the walk, its end, what could come -/
/-- what a walk keeps: times are at least 1, the part one is in has begun -/
def wk_u (P : yP) (s : yS) : Prop := ∀ o, s.1 = some o → (∀ c, c < py_nc P → py_wi P (py_cn P c) (py_lf P o) = true → 1 ≤ s.2.1 c) ∧ (∀ k n, py_dm P k → py_up P k = some n → py_wi P k (py_lf P o) = true → py_kd P n = 4 → zbt (s.2.2 (py_nb P n)) (py_bf (py_ks P n) k).length = true)
section
variable {M M' : zM} {pa : Nat → Nat} {P : yP} {d wk Q B : Nat} {s : yS}
theorem wv_of (h : wk_u P s) (hb : sw_b P B s) (hB : B ≤ 900) : wk_v P s := fun o ho => ⟨hb.1 o ho, fun c hc hw => ⟨(h o ho).1 c hc hw, Nat.le_trans (hb.2 c) hB⟩, (h o ho).2⟩
theorem wu_0 : wk_u P py_s00 := fun o ho => by cases ho
theorem wu_go (hP : py_ok P) (h : wk_u P s) (hv : ∀ o, s.1 = some o → o < py_nl P) {W : yW} (hW : W ∈ py_ways P s.1) : wk_u P (py_go P s W) := by
  obtain ⟨h1, hnone, hsome⟩ := go_way hP hv hW
  have hlq := ok_lf hP h1
  have hge := go_eq hP hv hW (t := s) (fun o _ => ⟨fun _ _ _ => rfl, fun _ _ _ => rfl⟩)
  have hab : ∀ b, W.2.2.1 = some b → py_wi P b (py_lf P W.1) = true ∧ b ≠ py_lf P W.1 := by
    intro b hb
    cases hs : s.1 with
    | none => rw [hnone hs] at hb; cases hb
    | some o =>
      obtain ⟨a, g1, _, _, _, _, g6⟩ := hsome o hs
      rw [g1] at hb
      injection hb with hb
      rw [← hb]
      exact g6
  have hpt := fun n k => pt_mem (n := n) (k := k) hP (py_lf P W.1) hlq hab
  -- a node around the new letter that isn't begun by it is around the old one
  have hold : ∀ n, py_wi P n (py_lf P W.1) = true → py_pa P n W.2.2.1 = false → ∃ o a, s.1 = some o ∧ W.2.2.1 = some a ∧ py_dm P a ∧ W.2.2.2 ∈ py_ks P a ∧ py_wi P W.2.2.2 (py_lf P W.1) = true ∧ py_wi P n (py_lf P o) = true ∧ py_wi P n a = true ∧ py_wi P a (py_lf P o) = true ∧ a ≠ py_lf P o := by
    intro n hw hp
    cases hs : s.1 with
    | none => rw [hnone hs] at hp; cases hp
    | some o =>
      obtain ⟨a, g1, g2, g3, g4, g5, g6⟩ := hsome o hs
      rw [g1] at hp
      have hup : py_wi P n a = true := by
        rcases wi_cmp hP _ hlq hw g6.1 with q | q
        · exact q
        · have hp : (a != n && py_wi P a n) = false := hp
          rw [q, Bool.and_true] at hp
          have : a = n := by simpa using hp
          rw [← this]
          exact wi_self hP g2
      exact ⟨o, a, rfl, g1, g2, g3, g5, wi_tr hP _ (ok_lf hP (hv o hs)) g4.1 hup, hup, g4.1, g4.2⟩
  intro o ho
  have ho : some W.1 = some o := ho
  injection ho with ho
  subst ho
  refine ⟨?_, ?_⟩
  · intro c hc hw
    have hkn := ok_cnk hP hc
    have hnn := ok_cnn hP hc
    rw [← hge.1 c hc hw]
    -- the class's value
    show 1 ≤ (py_s2 P (py_en P s W.2.2.1 W.1) W.2.2.1 W.2.2.2).2.1 c
    have hs2 : ∀ u : yS, u.2.1 c ≤ (py_s2 P u W.2.2.1 W.2.2.2).2.1 c := by
      intro u
      unfold py_s2
      cases W.2.2.1 with
      | none => exact Nat.le_refl _
      | some a =>
        simp only
        split
        · show u.2.1 c ≤ (if c = py_nb P a then u.2.1 (py_nb P a) + 1 else u.2.1 c)
          split
          · rename_i q; rw [← q]; omega
          · exact Nat.le_refl _
        · split <;> exact Nat.le_refl _
    refine Nat.le_trans ?_ (hs2 _)
    unfold py_en
    rw [f1_t]
    split
    · exact Nat.le_refl _
    · rename_i hno
      cases hp : py_pa P (py_cn P c) W.2.2.1
      · obtain ⟨o, a, hs, _, _, _, _, hwo, _⟩ := hold _ hw hp
        exact (h o hs).1 c hc hwo
      · exfalso
        obtain ⟨k, k1, k2, k3⟩ := wi_dn hP _ hlq hw (lf_ne hP h1 (.inr hkn))
        exact hno ⟨(py_cn P c, k), (hpt _ _).mpr ⟨k1, k2, k3, hp⟩, hkn, hnn⟩
  · intro k n hk e hw k4
    have hn := ok_pdm hP hk e
    have hm := ok_pks hP hk e
    have h4 := ok_k4 hP hn k4
    have hwn := wi_kid hP hn hm _ hlq hw
    have h32 : (py_bf (py_ks P n) k).length < 32 := by
      have := (List.getElem?_eq_some_iff.mp (bf_at hm)).1
      omega
    have hg2 := hge.2 (py_nb P n) h4.2.2.1 (by rw [h4.2.2.2]; exact hwn)
    rw [← hg2]
    show zbt ((py_s2 P (py_en P s W.2.2.1 W.1) W.2.2.1 W.2.2.2).2.2 (py_nb P n)) _ = true
    have hval : ∀ x, x ∈ py_pt P W.2.2.1 (py_lf P W.1) → py_kd P x.1 = 4 → py_nb P x.1 = py_nb P n → zbit (py_bf (py_ks P x.1) x.2).length = zbit (py_bf (py_ks P n) k).length := by
      intro x hx q4 q
      have hm' := (hpt x.1 x.2).mp hx
      have hxd := ok_pdm hP hm'.1 hm'.2.1
      have e1 : x.1 = n := by
        have := (ok_k4 hP hxd q4).2.2.2
        rw [q, h4.2.2.2] at this
        exact this.symm
      rw [e1] at hm' ⊢
      have := wi_uniq hP hn (ok_pks hP hm'.1 hm'.2.1) hm _ hlq hm'.2.2.1 hw
      rw [this]
    have hen : (py_en P s W.2.2.1 W.1).2.2 (py_nb P n) = if (∃ x, x ∈ py_pt P W.2.2.1 (py_lf P W.1) ∧ py_kd P x.1 = 4 ∧ py_nb P x.1 = py_nb P n) then zbit (py_bf (py_ks P n) k).length else s.2.2 (py_nb P n) := f1_b _ _ _ hval
    have hs2 : ∀ (u : yS) (i : Nat), zbt (u.2.2 (py_nb P n)) i = true → zbt ((py_s2 P u W.2.2.1 W.2.2.2).2.2 (py_nb P n)) i = true := by
      intro u i hu
      unfold py_s2
      cases W.2.2.1 with
      | none => exact hu
      | some a =>
        simp only
        split
        · exact hu
        · split
          · show zbt (if py_nb P n = py_nb P a then _ else _) i = true
            split
            · rename_i q
              rw [zy_or, ← q, hu]
              rfl
            · exact hu
          · exact hu
    cases hp : py_pa P n W.2.2.1
    · obtain ⟨o, a, hs, ha, had, hin, hwi, hwo, hna, hao, haf⟩ := hold _ hwn hp
      by_cases q : a = n
      · -- the turn is here: the part is the one gone into
        subst q
        have hki : k = W.2.2.2 := wi_uniq hP hn hm hin _ hlq hw hwi
        unfold py_s2
        rw [ha]
        simp only
        rw [if_neg (by omega), if_pos k4]
        show zbt (if py_nb P a = py_nb P a then _ else _) _ = true
        rw [if_pos rfl, zy_or, hki, zy_bit (by rw [← hki]; exact h32) (by rw [← hki]; exact h32)]
        simp
      · -- above the turn: the old part
        refine hs2 _ _ ?_
        rw [hen]
        split
        · rw [zy_bit h32 h32]; simp
        · refine (h o hs).2 k n hk e ?_ k4
          -- k is around a, so around the old letter
          obtain ⟨k', q1, q2, q3⟩ := wi_dn hP a had hna (fun y => q y.symm)
          have : k = k' := wi_uniq hP hn hm (ok_pks hP q1 q2) _ hlq hw (wi_tr hP _ hlq (hab a ha).1 q3)
          rw [this]
          exact wi_tr hP _ (ok_lf hP (hv o hs)) hao q3
    · refine hs2 _ _ ?_
      rw [hen, if_pos ⟨(n, k), (hpt _ _).mpr ⟨hk, e, hw, hp⟩, k4, rfl⟩, zy_bit h32 h32]
      simp
end
