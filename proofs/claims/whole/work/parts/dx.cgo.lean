/-! a letter is taken: what the class changes and what the reference changes -/
section
variable {P : yP} {s : yS}
theorem pt_mem (hP : py_ok P) {a : Option Nat} {n k : Nat} : ∀ x, py_dm P x → (∀ b, a = some b → py_wi P b x = true ∧ b ≠ x) → ((n, k) ∈ py_pt P a x ↔ py_dm P k ∧ py_up P k = some n ∧ py_wi P k x = true ∧ py_pa P n a = true) := by
  refine ok_climb hP _ ?_ ?_
  · intro ha
    rw [pt_rt hP]
    constructor
    · intro h; cases h
    · rintro ⟨h1, h2, h3, _⟩
      by_cases q : py_rt P = k
      · rw [← q, ok_up0 hP] at h2; cases h2
      · rw [wi_rt hP q] at h3; cases h3
  · intro x m hx e ih ha
    have hm := ok_pdm hP hx e
    rw [pt_up hP hx e]
    by_cases q : some m = a
    · rw [if_pos (by simpa using q)]
      constructor
      · intro h; cases h
      · rintro ⟨h1, h2, h3, h4⟩
        exfalso
        rw [← q] at h4
        have hn := ok_pdm hP h1 h2
        have hk := ok_pks hP h1 h2
        exact wi_no hP hx e (wi_kid hP hn hk x hx h3) (wi_ne hP hn hk hx h3).symm h4
    · rw [if_neg (by simpa using q)]
      have ha2 : ∀ b, a = some b → py_wi P b m = true ∧ b ≠ m := by
        intro b hb
        obtain ⟨g1, g2⟩ := ha b hb
        rw [wi_up hP hx e (fun y => g2 y.symm)] at g1
        exact ⟨g1, fun y => q (by rw [hb, y])⟩
      rw [List.mem_cons, ih ha2]
      constructor
      · rintro (h | ⟨h1, h2, h3, h4⟩)
        · injection h with e1 e2
          subst e1 e2
          refine ⟨hx, e, wi_self hP hx, ?_⟩
          cases a with
          | none => rfl
          | some b =>
            obtain ⟨g1, g2⟩ := ha2 b rfl
            unfold py_pa
            simp [g1, g2]
        · exact ⟨h1, h2, wi_par hP hx e h3, h4⟩
      · rintro ⟨h1, h2, h3, h4⟩
        by_cases q2 : x = k
        · subst q2
          rw [e] at h2
          injection h2 with h2
          exact .inl (by rw [h2])
        · rw [wi_up hP hx e q2] at h3
          exact .inr ⟨h1, h2, h3, h4⟩
theorem f1_t (c : Nat) : ∀ (l : List (Nat × Nat)) (s : yS), (l.foldl (fun s x => py_s1 P s x.1 x.2) s).2.1 c = if (∃ x, x ∈ l ∧ py_kd P x.1 = 5 ∧ py_nb P x.1 = c) then 1 else s.2.1 c := by
  intro l
  induction l with
  | nil => intro s; simp
  | cons y l ih =>
    intro s
    rw [List.foldl_cons, ih]
    by_cases g : ∃ x, x ∈ l ∧ py_kd P x.1 = 5 ∧ py_nb P x.1 = c
    · rw [if_pos g, if_pos (by obtain ⟨x, h1, h2⟩ := g; exact ⟨x, List.mem_cons_of_mem _ h1, h2⟩)]
    · rw [if_neg g]
      by_cases q : py_kd P y.1 = 5 ∧ py_nb P y.1 = c
      · rw [if_pos ⟨y, List.mem_cons_self, q⟩]
        unfold py_s1
        rw [if_pos q.1]
        simp [py_u, q.2]
      · rw [if_neg (by
          rintro ⟨x, h1, h2⟩
          rcases List.mem_cons.mp h1 with h | h
          · rw [h] at h2; exact q h2
          · exact g ⟨x, h, h2⟩)]
        unfold py_s1
        by_cases k5 : py_kd P y.1 = 5
        · rw [if_pos k5]
          have : c ≠ py_nb P y.1 := fun z => q ⟨k5, z.symm⟩
          simp [py_u, this]
        · rw [if_neg k5]
          split <;> rfl
theorem f1_b (b : Nat) {v : Int32} : ∀ (l : List (Nat × Nat)) (s : yS), (∀ x, x ∈ l → py_kd P x.1 = 4 → py_nb P x.1 = b → zbit (py_bf (py_ks P x.1) x.2).length = v) → (l.foldl (fun s x => py_s1 P s x.1 x.2) s).2.2 b = if (∃ x, x ∈ l ∧ py_kd P x.1 = 4 ∧ py_nb P x.1 = b) then v else s.2.2 b := by
  intro l
  induction l with
  | nil => intro s _; simp
  | cons y l ih =>
    intro s hv
    rw [List.foldl_cons, ih _ (fun x hx => hv x (List.mem_cons_of_mem _ hx))]
    by_cases g : ∃ x, x ∈ l ∧ py_kd P x.1 = 4 ∧ py_nb P x.1 = b
    · rw [if_pos g, if_pos (by obtain ⟨x, h1, h2⟩ := g; exact ⟨x, List.mem_cons_of_mem _ h1, h2⟩)]
    · rw [if_neg g]
      by_cases q : py_kd P y.1 = 4 ∧ py_nb P y.1 = b
      · rw [if_pos ⟨y, List.mem_cons_self, q⟩]
        unfold py_s1
        rw [if_neg (by omega), if_pos q.1]
        have := hv y List.mem_cons_self q.1 q.2
        simp [py_u, q.2, this]
      · rw [if_neg (by
          rintro ⟨x, h1, h2⟩
          rcases List.mem_cons.mp h1 with h | h
          · rw [h] at h2; exact q h2
          · exact g ⟨x, h, h2⟩)]
        unfold py_s1
        by_cases k5 : py_kd P y.1 = 5
        · rw [if_pos k5]
        · rw [if_neg k5]
          by_cases k4 : py_kd P y.1 = 4
          · rw [if_pos k4]
            have : b ≠ py_nb P y.1 := fun z => q ⟨k4, z.symm⟩
            simp [py_u, this]
          · rw [if_neg k4]
theorem f0_t (c : Nat) : ∀ (l : List (Nat × Nat)) (s : yS), (∀ x, x ∈ l → py_kd P x.1 = 5 → py_nb P x.1 ≠ c) → (l.foldl (fun s x => py_s0 P s x.1) s).2.1 c = s.2.1 c := by
  intro l
  induction l with
  | nil => intro s _; rfl
  | cons y l ih =>
    intro s hv
    rw [List.foldl_cons, ih _ (fun x hx => hv x (List.mem_cons_of_mem _ hx))]
    unfold py_s0
    by_cases k5 : py_kd P y.1 = 5
    · rw [if_pos k5]
      have := hv y List.mem_cons_self k5
      simp [py_u, this.symm]
    · rw [if_neg k5]
      split <;> rfl
theorem f0_b (b : Nat) : ∀ (l : List (Nat × Nat)) (s : yS), (∀ x, x ∈ l → py_kd P x.1 = 4 → py_nb P x.1 ≠ b) → (l.foldl (fun s x => py_s0 P s x.1) s).2.2 b = s.2.2 b := by
  intro l
  induction l with
  | nil => intro s _; rfl
  | cons y l ih =>
    intro s hv
    rw [List.foldl_cons, ih _ (fun x hx => hv x (List.mem_cons_of_mem _ hx))]
    unfold py_s0
    by_cases k5 : py_kd P y.1 = 5
    · rw [if_pos k5]
    · rw [if_neg k5]
      by_cases k4 : py_kd P y.1 = 4
      · rw [if_pos k4]
        have := hv y List.mem_cons_self k4
        simp [py_u, this.symm]
      · rw [if_neg k4]
/-- two states are one, around an occurrence -/
def py_eq (P : yP) (o : Nat) (s t : yS) : Prop := (∀ c, c < py_nc P → py_wi P (py_cn P c) (py_lf P o) = true → t.2.1 c = s.2.1 c) ∧ (∀ a, a < py_na P → py_wi P (py_an P a) (py_lf P o) = true → t.2.2 a = s.2.2 a)
/-- the class's way to take a letter: t is all that stands in its rows -/
def py_goc (P : yP) (t : yS) (W : yW) : yS := (some W.1, (py_s2 P (py_en P t W.2.2.1 W.1) W.2.2.1 W.2.2.2).2)
/-- a way behind where a walk is -/
theorem go_way (hP : py_ok P) (hv : ∀ o, s.1 = some o → o < py_nl P) {W : yW} (hW : W ∈ py_ways P s.1) : W.1 < py_nl P ∧ (s.1 = none → W.2.2.1 = none) ∧ (∀ o, s.1 = some o → ∃ a, W.2.2.1 = some a ∧ py_dm P a ∧ W.2.2.2 ∈ py_ks P a ∧ (py_wi P a (py_lf P o) = true ∧ a ≠ py_lf P o) ∧ (py_wi P W.2.2.2 (py_lf P W.1) = true) ∧ (py_wi P a (py_lf P W.1) = true ∧ a ≠ py_lf P W.1)) := by
  cases hs : s.1 with
  | none =>
    rw [hs] at hW
    obtain ⟨q, h1, rfl, _⟩ := il_mem (P := P) hW
    exact ⟨h1, fun _ => rfl, fun o ho => by cases ho⟩
  | some o =>
    have ho := hv o hs
    rw [hs] at hW
    obtain ⟨h1, a, h2, h3, h4, h5, h6, h7⟩ := ways_wk hP ho hW
    refine ⟨h1, fun h => (by cases h), ?_⟩
    intro o' ho'
    injection ho' with ho'
    subst ho'
    have hwi : py_wi P W.2.2.2 (py_lf P W.1) = true := by
      cases hw : py_wi P W.2.2.2 (py_lf P W.1)
      · rw [fx_wi hP _ (ok_lf hP h1) hw] at h7
        cases h7
      · rfl
    exact ⟨a, h2, h3, h4, ⟨h5, h6⟩, hwi, wi_kid hP h3 h4 _ (ok_lf hP h1) hwi, (wi_ne hP h3 h4 (ok_lf hP h1) hwi).symm⟩
theorem lf_ne (hP : py_ok P) {n q : Nat} (hq : q < py_nl P) (hk : py_kd P n = 4 ∨ py_kd P n = 5) : n ≠ py_lf P q := by
  intro y
  have := ok_lfk hP hq
  rw [← y] at this
  omega
/-- a node around x has one in it on the way to x -/
theorem wi_dn (hP : py_ok P) {n : Nat} : ∀ x, py_dm P x → py_wi P n x = true → n ≠ x → ∃ k, py_dm P k ∧ py_up P k = some n ∧ py_wi P k x = true := by
  intro x hx hw hne
  rcases wi_in hP x hx hw with h | ⟨c, h1, h2⟩
  · exact absurd h.symm hne
  · have hn := (wi_hg hP x hx hw).2
    exact ⟨c, ok_kid hP hn h1, ok_kup hP hn h1, h2⟩
/-- of two nodes around x one is around the other -/
theorem wi_cmp (hP : py_ok P) {a b : Nat} : ∀ x, py_dm P x → py_wi P a x = true → py_wi P b x = true → py_wi P a b = true ∨ py_wi P b a = true := by
  refine ok_climb hP _ ?_ ?_
  · intro h1 h2
    by_cases q : py_rt P = a
    · by_cases q2 : py_rt P = b
      · rw [← q, ← q2]; exact .inl (wi_self hP (ok_rt hP))
      · rw [wi_rt hP q2] at h2; cases h2
    · rw [wi_rt hP q] at h1; cases h1
  · intro x p hx e ih h1 h2
    by_cases q : x = a
    · subst q; exact .inr h2
    · by_cases q2 : x = b
      · subst q2; exact .inl h1
      · rw [wi_up hP hx e q] at h1
        rw [wi_up hP hx e q2] at h2
        exact ih h1 h2
theorem go_eq (hP : py_ok P) (hv : ∀ o, s.1 = some o → o < py_nl P) {t : yS} {W : yW} (hW : W ∈ py_ways P s.1) (ht : ∀ o, s.1 = some o → py_eq P o s t) : py_eq P W.1 (py_go P s W) (py_goc P t W) := by
  obtain ⟨h1, hnone, hsome⟩ := go_way hP hv hW
  have hlq := ok_lf hP h1
  have hab : ∀ b, W.2.2.1 = some b → py_wi P b (py_lf P W.1) = true ∧ b ≠ py_lf P W.1 := by
    intro b hb
    cases hs : s.1 with
    | none => rw [hnone hs] at hb; cases hb
    | some o =>
      obtain ⟨a, g1, _, _, _, _, g6⟩ := hsome o hs
      rw [g1] at hb
      injection hb with hb
      rw [← hb]
      exact g6
  have hpt := fun n k => pt_mem (n := n) (k := k) hP (py_lf P W.1) hlq hab
  -- which nodes the new letter begins
  have hin : ∀ n, py_wi P n (py_lf P W.1) = true → n ≠ py_lf P W.1 → (py_pa P n W.2.2.1 = true ↔ ∃ x, x ∈ py_pt P W.2.2.1 (py_lf P W.1) ∧ x.1 = n) := by
    intro n hw hne
    constructor
    · intro hp
      obtain ⟨k, k1, k2, k3⟩ := wi_dn hP _ hlq hw hne
      exact ⟨(n, k), (hpt n k).mpr ⟨k1, k2, k3, hp⟩, rfl⟩
    · rintro ⟨⟨n', k⟩, hx, e⟩
      have e : n' = n := e
      subst e
      exact ((hpt n' k).mp hx).2.2.2
  -- the old ones that are left
  have h0 : ∀ n, py_pa P n W.2.2.1 = false → ∀ o, s.1 = some o → ∀ x, x ∈ py_pt P W.2.2.1 (py_lf P o) → x.1 ≠ n := by
    intro n hp o hs x hx e
    obtain ⟨a, g1, g2, g3, g4, _⟩ := hsome o hs
    have := (pt_mem (n := x.1) (k := x.2) hP (py_lf P o) (ok_lf hP (hv o hs)) (fun b hb => by
      rw [g1] at hb
      injection hb with hb
      rw [← hb]
      exact g4)).mp hx
    rw [e, hp] at this
    exact absurd this.2.2.2 (by simp)
  refine ⟨?_, ?_⟩
  · intro c hc hw
    have hkn := ok_cnk hP hc
    have hnn := ok_cnn hP hc
    have hne := lf_ne hP h1 (.inr hkn)
    have hone : ∀ l : List (Nat × Nat), (∀ x, x ∈ l → py_dm P x.1) → ((∃ x, x ∈ l ∧ py_kd P x.1 = 5 ∧ py_nb P x.1 = c) ↔ ∃ x, x ∈ l ∧ x.1 = py_cn P c) := by
      intro l hl
      constructor
      · rintro ⟨x, g1, g2, g3⟩
        have := (ok_k5 hP (hl x g1) g2).2.2
        rw [g3] at this
        exact ⟨x, g1, this.symm⟩
      · rintro ⟨x, g1, g2⟩
        exact ⟨x, g1, by rw [g2]; exact hkn, by rw [g2]; exact hnn⟩
    have hdm : ∀ x, x ∈ py_pt P W.2.2.1 (py_lf P W.1) → py_dm P x.1 := by
      intro x hx
      have := (hpt x.1 x.2).mp hx
      exact ok_pdm hP this.1 this.2.1
    have hen : ∀ u : yS, (py_en P u W.2.2.1 W.1).2.1 c = if py_pa P (py_cn P c) W.2.2.1 = true then 1 else u.2.1 c := by
      intro u
      unfold py_en
      rw [f1_t]
      have : (∃ x, x ∈ py_pt P W.2.2.1 (py_lf P W.1) ∧ py_kd P x.1 = 5 ∧ py_nb P x.1 = c) ↔ py_pa P (py_cn P c) W.2.2.1 = true := (hone _ hdm).trans (hin _ hw hne).symm
      by_cases g : py_pa P (py_cn P c) W.2.2.1 = true
      · rw [if_pos g, if_pos (this.mpr g)]
      · rw [if_neg g, if_neg (fun y => g (this.mp y))]
    have hs2 : ∀ u : yS, (py_s2 P u W.2.2.1 W.2.2.2).2.1 c = if W.2.2.1 = some (py_cn P c) then u.2.1 c + 1 else u.2.1 c := by
      intro u
      unfold py_s2
      cases ha : W.2.2.1 with
      | none => simp
      | some a =>
        simp only
        by_cases q : a = py_cn P c
        · subst q
          rw [if_pos hkn, if_pos rfl, hnn]
          simp [py_u]
        · rw [if_neg (show ¬ some a = some (py_cn P c) from fun y => q (by injection y))]
          by_cases k5 : py_kd P a = 5
          · rw [if_pos k5]
            have hwa := hab a ha
            have had := (wi_hg hP _ hlq hwa.1).2
            have : c ≠ py_nb P a := fun y => q (by rw [y]; exact ((ok_k5 hP had k5).2.2).symm)
            simp [py_u, this]
          · rw [if_neg k5]
            split <;> rfl
    have hl0 : py_pa P (py_cn P c) W.2.2.1 = false → (py_lv0 P s W.2.2.1).2.1 c = s.2.1 c := by
      intro hp
      unfold py_lv0
      cases hs : s.1 with
      | none => rfl
      | some o =>
        refine f0_t c _ s ?_
        intro x hx k5 e
        have hm := (pt_mem (n := x.1) (k := x.2) hP (py_lf P o) (ok_lf hP (hv o hs)) (fun b hb => by
          obtain ⟨a, g1, g2, g3, g4, _⟩ := hsome o hs
          rw [g1] at hb
          injection hb with hb
          rw [← hb]
          exact g4)).mp hx
        have := (ok_k5 hP (ok_pdm hP hm.1 hm.2.1) k5).2.2
        rw [e] at this
        exact h0 _ hp o hs x hx this.symm
    show (py_s2 P (py_en P t W.2.2.1 W.1) W.2.2.1 W.2.2.2).2.1 c = (py_en P (py_s2 P (py_lv0 P s W.2.2.1) W.2.2.1 W.2.2.2) W.2.2.1 W.1).2.1 c
    rw [hs2, hen, hen, hs2]
    cases hp : py_pa P (py_cn P c) W.2.2.1
    · rw [hl0 hp]
      have hst : t.2.1 c = s.2.1 c := by
        cases hs : s.1 with
        | none =>
          rw [hnone hs] at hp
          cases hp
        | some o =>
          refine (ht o hs).1 c hc ?_
          obtain ⟨a, g1, g2, g3, g4, _, g6⟩ := hsome o hs
          rw [g1] at hp
          -- cn c is at a or above
          have hup : py_wi P (py_cn P c) a = true := by
            rcases wi_cmp hP _ hlq hw g6.1 with q | q
            · exact q
            · have hp : (a != py_cn P c && py_wi P a (py_cn P c)) = false := hp
              rw [q, Bool.and_true] at hp
              have : a = py_cn P c := by simpa using hp
              rw [← this]
              exact wi_self hP g2
          exact wi_tr hP _ (ok_lf hP (hv o hs)) g4.1 hup
      simp [hst]
    · have : ¬ W.2.2.1 = some (py_cn P c) := by
        intro y
        rw [y, pa_self] at hp
        cases hp
      rw [if_neg this]
      simp
  · intro b hb hw
    have hkn := ok_ank hP hb
    have hnn := ok_ann hP hb
    have hne := lf_ne hP h1 (.inl hkn)
    have hone : ∀ l : List (Nat × Nat), (∀ x, x ∈ l → py_dm P x.1) → ((∃ x, x ∈ l ∧ py_kd P x.1 = 4 ∧ py_nb P x.1 = b) ↔ ∃ x, x ∈ l ∧ x.1 = py_an P b) := by
      intro l hl
      constructor
      · rintro ⟨x, g1, g2, g3⟩
        have := (ok_k4 hP (hl x g1) g2).2.2.2
        rw [g3] at this
        exact ⟨x, g1, this.symm⟩
      · rintro ⟨x, g1, g2⟩
        exact ⟨x, g1, by rw [g2]; exact hkn, by rw [g2]; exact hnn⟩
    have hdm : ∀ x, x ∈ py_pt P W.2.2.1 (py_lf P W.1) → py_dm P x.1 := by
      intro x hx
      have := (hpt x.1 x.2).mp hx
      exact ok_pdm hP this.1 this.2.1
    obtain ⟨k0, kd0, ku0, kw0⟩ := wi_dn hP _ hlq hw hne
    have hval : ∀ x, x ∈ py_pt P W.2.2.1 (py_lf P W.1) → py_kd P x.1 = 4 → py_nb P x.1 = b → zbit (py_bf (py_ks P x.1) x.2).length = zbit (py_bf (py_ks P (py_an P b)) k0).length := by
      intro x hx k4 e
      have hm := (hpt x.1 x.2).mp hx
      have hxd := ok_pdm hP hm.1 hm.2.1
      have e1 : py_an P b = x.1 := by rw [← e]; exact (ok_k4 hP hxd k4).2.2.2
      rw [e1] at ku0 ⊢
      have := wi_uniq hP hxd (ok_pks hP hm.1 hm.2.1) (ok_pks hP kd0 ku0) _ hlq hm.2.2.1 kw0
      rw [this]
    have hen : ∀ u : yS, (py_en P u W.2.2.1 W.1).2.2 b = if py_pa P (py_an P b) W.2.2.1 = true then zbit (py_bf (py_ks P (py_an P b)) k0).length else u.2.2 b := by
      intro u
      unfold py_en
      rw [f1_b b _ _ hval]
      have : (∃ x, x ∈ py_pt P W.2.2.1 (py_lf P W.1) ∧ py_kd P x.1 = 4 ∧ py_nb P x.1 = b) ↔ py_pa P (py_an P b) W.2.2.1 = true := (hone _ hdm).trans (hin _ hw hne).symm
      by_cases g : py_pa P (py_an P b) W.2.2.1 = true
      · rw [if_pos g, if_pos (this.mpr g)]
      · rw [if_neg g, if_neg (fun y => g (this.mp y))]
    have hs2 : ∀ u : yS, (py_s2 P u W.2.2.1 W.2.2.2).2.2 b = if W.2.2.1 = some (py_an P b) then u.2.2 b ||| zbit (py_bf (py_ks P (py_an P b)) W.2.2.2).length else u.2.2 b := by
      intro u
      unfold py_s2
      cases ha : W.2.2.1 with
      | none => simp
      | some a =>
        simp only
        by_cases q : a = py_an P b
        · subst q
          rw [if_neg (by omega), if_pos hkn, if_pos rfl, hnn]
          simp [py_u]
        · rw [if_neg (show ¬ some a = some (py_an P b) from fun y => q (by injection y))]
          by_cases k5 : py_kd P a = 5
          · rw [if_pos k5]
          · rw [if_neg k5]
            by_cases k4 : py_kd P a = 4
            · rw [if_pos k4]
              have hwa := hab a ha
              have had := (wi_hg hP _ hlq hwa.1).2
              have : b ≠ py_nb P a := fun y => q (by rw [y]; exact ((ok_k4 hP had k4).2.2.2).symm)
              simp [py_u, this]
            · rw [if_neg k4]
    have hl0 : py_pa P (py_an P b) W.2.2.1 = false → (py_lv0 P s W.2.2.1).2.2 b = s.2.2 b := by
      intro hp
      unfold py_lv0
      cases hs : s.1 with
      | none => rfl
      | some o =>
        refine f0_b b _ s ?_
        intro x hx k4 e
        have hm := (pt_mem (n := x.1) (k := x.2) hP (py_lf P o) (ok_lf hP (hv o hs)) (fun b hb => by
          obtain ⟨a, g1, g2, g3, g4, _⟩ := hsome o hs
          rw [g1] at hb
          injection hb with hb
          rw [← hb]
          exact g4)).mp hx
        have := (ok_k4 hP (ok_pdm hP hm.1 hm.2.1) k4).2.2.2
        rw [e] at this
        exact h0 _ hp o hs x hx this.symm
    show (py_s2 P (py_en P t W.2.2.1 W.1) W.2.2.1 W.2.2.2).2.2 b = (py_en P (py_s2 P (py_lv0 P s W.2.2.1) W.2.2.1 W.2.2.2) W.2.2.1 W.1).2.2 b
    rw [hs2, hen, hen, hs2]
    cases hp : py_pa P (py_an P b) W.2.2.1
    · rw [hl0 hp]
      have hst : t.2.2 b = s.2.2 b := by
        cases hs : s.1 with
        | none =>
          rw [hnone hs] at hp
          cases hp
        | some o =>
          refine (ht o hs).2 b hb ?_
          obtain ⟨a, g1, g2, g3, g4, _, g6⟩ := hsome o hs
          rw [g1] at hp
          have hup : py_wi P (py_an P b) a = true := by
            rcases wi_cmp hP _ hlq hw g6.1 with q | q
            · exact q
            · have hp : (a != py_an P b && py_wi P a (py_an P b)) = false := hp
              rw [q, Bool.and_true] at hp
              have : a = py_an P b := by simpa using hp
              rw [← this]
              exact wi_self hP g2
          exact wi_tr hP _ (ok_lf hP (hv o hs)) g4.1 hup
      simp [hst]
    · have : ¬ W.2.2.1 = some (py_an P b) := by
        intro y
        rw [y, pa_self] at hp
        cases hp
      rw [if_neg this]
      simp
end
