/-! two ways at once: the class's bits say what the reference says -/
def py_htl (P : yP) (b : Option Nat) (en : Int32) : Bool := match b with
  | none => true
  | some c => !zbt en c || (match py_to P c with
    | none => true
    | some t => decide (py_fr P c < t))
def py_clk (P : yP) (V W : yK) : Bool := py_lt P V.1.1 == py_lt P W.1.1 && (decide ((V.2.2.1 ||| W.2.2.1) &&& (V.2.2.2 ||| W.2.2.2) = 0) && (py_htl P V.1.2.1 W.2.1 && py_htl P W.1.2.1 V.2.1))
section
variable {P : yP} {x : Nat}
theorem lv_what (hP : py_ok P) {k a : Nat} (hk : py_dm P k) (e : py_up P k = some a) {V : yW} (hV : V ∈ py_lv P k) : V.2.2.1 = some a ∧ V.1 < py_nl P ∧ V.2.1 = (if py_kd P a = 5 then some (py_nb P a) else none) ∧ V.2.2.2 ∈ py_ks P a ∧ (py_kd P a = 4 → V.2.2.2 ≠ k) ∧ (py_kd P a = 5 → py_to P (py_nb P a) ≠ some 1) := by
  have ha := ok_pdm hP hk e
  have hm := ok_pks hP hk e
  have hfin := ok_fin hP hk e
  have il : ∀ c b, V ∈ py_il P (some a) c b → V.2.2.1 = some a ∧ V.1 < py_nl P ∧ V.2.1 = b ∧ V.2.2.2 = c := by
    intro c b h
    unfold py_il at h
    obtain ⟨q, hq, rfl⟩ := List.mem_map.mp h
    unfold py_fl at hq
    rw [List.mem_filter, List.mem_range'_1] at hq
    exact ⟨rfl, by omega, rfl, rfl⟩
  unfold py_lv at hV
  rw [e] at hV
  simp only at hV
  by_cases k2 : py_kd P a = 2
  · rw [if_pos k2] at hV
    have rw2 : ∀ l : List Nat, V ∈ py_rw P a l → ∃ c, c ∈ l ∧ V ∈ py_il P (some a) c none := by
      intro l
      induction l with
      | nil => intro h; cases h
      | cons c l ih =>
        intro h
        unfold py_rw at h
        rw [List.mem_append] at h
        rcases h with h | h
        · exact ⟨c, by simp, h⟩
        · split at h
          · obtain ⟨c', h1, h2⟩ := ih h
            exact ⟨c', by simp [h1], h2⟩
          · cases h
    obtain ⟨c, h1, h2⟩ := rw2 _ hV
    obtain ⟨g1, g2, g3, g4⟩ := il c none h2
    refine ⟨g1, g2, by rw [if_neg (by omega)]; exact g3, ?_, fun h => by omega, fun h => by omega⟩
    rw [g4, hfin.1]
    simp [h1]
  · rw [if_neg k2] at hV
    by_cases k4 : py_kd P a = 4
    · rw [if_pos k4] at hV
      unfold py_an2 at hV
      obtain ⟨c, h1, h2⟩ := List.mem_flatMap.mp hV
      rw [List.mem_filter] at h1
      obtain ⟨g1, g2, g3, g4⟩ := il c none h2
      refine ⟨g1, g2, by rw [if_neg (by omega)]; exact g3, by rw [g4]; exact h1.1, fun _ => by rw [g4]; simpa using h1.2, fun h => by omega⟩
    · rw [if_neg k4] at hV
      split at hV
      · rename_i k5
        obtain ⟨g1, g2, g3, g4⟩ := il k _ hV
        exact ⟨g1, g2, by rw [if_pos k5.1]; exact g3, by rw [g4]; exact hm, fun h => absurd h k4, fun _ => k5.2⟩
      · cases hV
theorem wi_tr (hP : py_ok P) {a b : Nat} : ∀ x, py_dm P x → py_wi P b x = true → py_wi P a b = true → py_wi P a x = true := by
  refine ok_climb hP _ ?_ ?_
  · intro h1 h2
    by_cases q : py_rt P = b
    · rw [q]; exact h2
    · rw [wi_rt hP q] at h1; cases h1
  · intro y p hy e ih h1 h2
    by_cases q : y = b
    · rw [q]; exact h2
    · rw [wi_up hP hy e q] at h1
      exact wi_par hP hy e (ih h1 h2)
/-- above and within: the same node -/
theorem wi_as (hP : py_ok P) {a : Nat} : ∀ x, py_dm P x → py_wi P a x = true → py_wi P x a = true → a = x := by
  intro x hx h1 h2
  obtain ⟨g1, ga⟩ := wi_hg hP x hx h1
  obtain ⟨g2, _⟩ := wi_hg hP a ga h2
  by_cases q : x = a
  · exact q.symm
  · exfalso
    cases e : py_up P x with
    | none =>
      have := ok_no hP hx e
      rw [this] at h1 q
      rw [wi_rt hP q] at h1
      cases h1
    | some p =>
      rw [wi_up hP hx e q] at h1
      have := (wi_hg hP p (ok_pdm hP hx e) h1).1
      have := ok_uphg hP hx e
      omega
theorem ml_mem (nu : Nat → Bool) : ∀ (l : List Nat) (i j : Nat), j ∈ py_ml nu l i ↔ i ≤ j ∧ ∃ c, l[j - i]? = some c ∧ nu c = false := by
  intro l
  induction l with
  | nil => intro i j; simp [py_ml]
  | cons a l ih =>
    intro i j
    unfold py_ml
    rw [List.mem_append, ih (i + 1) j]
    constructor
    · rintro (h | ⟨h1, c, h2, h3⟩)
      · split at h
        · cases h
        · rename_i hn
          have : j = i := by simpa using h
          subst this
          exact ⟨Nat.le_refl _, a, by simp, by simpa using hn⟩
      · refine ⟨by omega, c, ?_, h3⟩
        rw [show j - i = j - (i + 1) + 1 by omega, List.getElem?_cons_succ]
        exact h2
    · rintro ⟨h1, c, h2, h3⟩
      by_cases q : j = i
      · subst q
        rw [Nat.sub_self] at h2
        have : a = c := by simpa using h2
        subst this
        exact .inl (by rw [h3]; simp)
      · right
        refine ⟨by omega, c, ?_, h3⟩
        rw [show j - i = j - (i + 1) + 1 by omega, List.getElem?_cons_succ] at h2
        exact h2
theorem o1_bt (hP : py_ok P) {p c : Nat} (hp : py_dm P p) (hc : c < 32) : zbt (py_o1n P p) c = true ↔ py_kd P p = 4 ∧ c / 4 = py_nb P p ∧ c % 4 ∈ py_ml (py_nu P) (py_ks P p) 0 := by
  unfold py_o1n
  by_cases k4 : py_kd P p = 4
  · rw [if_pos k4]
    have h4 := ok_k4 hP hp k4
    have hna := ok_na hP
    have hm : ∀ q, q ∈ py_ml (py_nu P) (py_ks P p) 0 → q < 4 := by
      intro q hq
      obtain ⟨_, y, h1, _⟩ := (ml_mem _ _ _ _).mp hq
      have := (List.getElem?_eq_some_iff.mp h1).1
      omega
    rw [zy_shl _ (by omega) hc, zor_bt (fun q hq => by have := hm q hq; omega) (by omega)]
    constructor
    · intro h
      rw [Bool.and_eq_true] at h
      have h1 : 4 * py_nb P p ≤ c := by simpa using h.1
      have h2 : c - 4 * py_nb P p ∈ py_ml (py_nu P) (py_ks P p) 0 := by simpa using h.2
      have := hm _ h2
      refine ⟨k4, by omega, ?_⟩
      rw [show c % 4 = c - 4 * py_nb P p by omega]
      exact h2
    · rintro ⟨_, h1, h2⟩
      rw [Bool.and_eq_true]
      rw [show c % 4 = c - 4 * py_nb P p by omega] at h2
      exact ⟨by simp; omega, by simpa using h2⟩
  · rw [if_neg k4, zy_0]
    simp [k4]
theorem e1_bt (hP : py_ok P) {p c : Nat} (hp : py_dm P p) (hc : c < 32) : zbt (py_e1n P p) c = true ↔ py_kd P p = 5 ∧ c = py_nb P p ∧ 1 < py_few P c := by
  unfold py_e1n
  by_cases k5 : py_kd P p = 5
  · have h5 := ok_k5 hP hp k5
    have := ok_nc hP
    by_cases g : 1 < py_few P (py_nb P p)
    · rw [if_pos ⟨k5, g⟩, zy_bit (by omega) hc]
      constructor
      · intro h
        have : c = py_nb P p := by simpa using h
        exact ⟨k5, this, by rw [this]; exact g⟩
      · rintro ⟨_, h, _⟩; simpa using h
    · rw [if_neg (fun y => g y.2), zy_0]
      constructor
      · intro h; cases h
      · rintro ⟨_, h1, h2⟩; rw [h1] at h2; exact absurd h2 g
  · rw [if_neg (fun y => k5 y.1), zy_0]
    simp [k5]
def kw_e (P : yP) (x : Nat) (V : yK) (e0 : Int32) : Prop := ∀ c, c < 32 → (zbt V.2.1 c = true ↔ zbt e0 c = true ∨ (c < py_nc P ∧ py_wi P (py_cn P c) x = true ∧ py_cn P c ≠ x ∧ py_pa P (py_cn P c) V.1.2.2.1 = true ∧ 1 < py_few P c))
def kw_o (P : yP) (x : Nat) (V : yK) (o0 : Int32) : Prop := ∀ c, c < 32 → (zbt V.2.2.1 c = true ↔ zbt o0 c = true ∨ (c / 4 < py_na P ∧ py_wi P (py_an P (c / 4)) x = true ∧ py_an P (c / 4) ≠ x ∧ py_pa P (py_an P (c / 4)) V.1.2.2.1 = true ∧ c % 4 ∈ py_ml (py_nu P) (py_ks P (py_an P (c / 4))) 0))
/-- nothing lies between a node and the one above -/
theorem wi_no (hP : py_ok P) {n p : Nat} (hx : py_dm P x) (e : py_up P x = some p) (h1 : py_wi P n x = true) (h2 : n ≠ x) (h3 : py_pa P n (some p) = true) : False := by
  rw [wi_up hP hx e (fun y => h2 y.symm)] at h1
  have h3' : p ≠ n ∧ py_wi P p n = true := by
    unfold py_pa at h3
    simpa using h3
  exact h3'.1 (wi_as hP p (ok_pdm hP hx e) h1 h3'.2).symm
theorem cwf_mem (hP : py_ok P) : ∀ x, py_dm P x → ∀ (f : Nat) (en ov : Int32) (V : yK), V ∈ py_cwf P f x en ov → (∃ k a, py_dm P k ∧ py_up P k = some a ∧ py_wi P k x = true ∧ V.1 ∈ py_lv P k) ∧ kw_e P x V en ∧ kw_o P x V ov ∧ V.2.2.2 = py_ah1 P V.1 := by
  refine ok_climb hP _ ?_ ?_
  · intro f en ov V hV
    cases f with
    | zero => cases hV
    | succ f =>
      unfold py_cwf at hV
      rw [ok_up0 hP] at hV
      cases hV
  · intro x p hx e ih f en ov V hV
    have hp := ok_pdm hP hx e
    cases f with
    | zero => cases hV
    | succ f =>
      unfold py_cwf at hV
      rw [e] at hV
      simp only at hV
      rw [List.mem_append] at hV
      rcases hV with hV | hV
      · unfold py_cvl at hV
        obtain ⟨W, hW, rfl⟩ := List.mem_map.mp hV
        have hat := (lv_what hP hx e hW).1
        refine ⟨⟨x, p, hx, e, wi_self hP hx, hW⟩, ?_, ?_, rfl⟩
        · intro c hc
          constructor
          · intro h; exact .inl h
          · rintro (h | ⟨_, g1, g2, g3, _⟩)
            · exact h
            · exfalso
              have g3 : py_pa P (py_cn P c) W.2.2.1 = true := g3
              rw [hat] at g3
              exact wi_no hP hx e g1 g2 g3
        · intro c hc
          constructor
          · intro h; exact .inl h
          · rintro (h | ⟨_, g1, g2, g3, _⟩)
            · exact h
            · exfalso
              have g3 : py_pa P (py_an P (c / 4)) W.2.2.1 = true := g3
              rw [hat] at g3
              exact wi_no hP hx e g1 g2 g3
      · split at hV
        · obtain ⟨⟨k, a, hk, hka, hkp, hlv⟩, he, ho, hah⟩ := ih f _ _ V hV
          have hat := (lv_what hP hk hka hlv).1
          have hpa : py_pa P p V.1.2.2.1 = true := by
            rw [hat]
            unfold py_pa
            have hne := wi_ne hP (ok_pdm hP hk hka) (ok_pks hP hk hka) hp hkp
            have h1 : py_wi P a p = true := wi_kid hP (ok_pdm hP hk hka) (ok_pks hP hk hka) p hp hkp
            simp [h1, hne.symm]
          have hpx : p ≠ x := fun y => by
            have := ok_uphg hP hx e
            rw [y] at this
            omega
          have hwx : ∀ n, (py_wi P n x = true ∧ n ≠ x) ↔ py_wi P n p = true := by
            intro n
            constructor
            · rintro ⟨h1, h2⟩
              rw [wi_up hP hx e (fun y => h2 y.symm)] at h1
              exact h1
            · intro h1
              refine ⟨wi_par hP hx e h1, ?_⟩
              intro y
              have := (wi_hg hP p hp h1).1
              have := ok_uphg hP hx e
              rw [y] at *
              omega
          refine ⟨⟨k, a, hk, hka, wi_par hP hx e hkp, hlv⟩, ?_, ?_, hah⟩
          · intro c hc
            rw [he c hc, zy_or, Bool.or_eq_true, e1_bt hP hp hc]
            constructor
            · rintro ((h | ⟨h1, h2, h3⟩) | ⟨h1, h2, h3, h4, h5⟩)
              · exact .inl h
              · have k5 := ok_k5 hP hp h1
                have : py_cn P c = p := by rw [h2]; exact k5.2.2
                refine .inr ⟨by rw [h2]; exact k5.2.1, ?_, ?_, ?_, h3⟩
                · rw [this]; exact wi_par hP hx e (wi_self hP hp)
                · rw [this]; exact hpx
                · rw [this]; exact hpa
              · have := (hwx _).mpr h2
                exact .inr ⟨h1, this.1, this.2, h4, h5⟩
            · rintro (h | ⟨h1, h2, h3, h4, h5⟩)
              · exact .inl (.inl h)
              · by_cases q : py_cn P c = p
                · refine .inl (.inr ⟨?_, ?_, h5⟩)
                  · rw [← q]; exact ok_cnk hP h1
                  · rw [← q]; exact (ok_cnn hP h1).symm
                · exact .inr ⟨h1, (hwx _).mp ⟨h2, h3⟩, q, h4, h5⟩
          · intro c hc
            rw [ho c hc, zy_or, Bool.or_eq_true, o1_bt hP hp hc]
            constructor
            · rintro ((h | ⟨h1, h2, h3⟩) | ⟨h1, h2, h3, h4, h5⟩)
              · exact .inl h
              · have k4 := ok_k4 hP hp h1
                have : py_an P (c / 4) = p := by rw [h2]; exact k4.2.2.2
                refine .inr ⟨by rw [h2]; exact k4.2.2.1, ?_, ?_, ?_, ?_⟩
                · rw [this]; exact wi_par hP hx e (wi_self hP hp)
                · rw [this]; exact hpx
                · rw [this]; exact hpa
                · rw [this]; exact h3
              · have := (hwx _).mpr h2
                exact .inr ⟨h1, this.1, this.2, h4, h5⟩
            · rintro (h | ⟨h1, h2, h3, h4, h5⟩)
              · exact .inl (.inl h)
              · by_cases q : py_an P (c / 4) = p
                · refine .inl (.inr ⟨?_, ?_, ?_⟩)
                  · rw [← q]; exact ok_ank hP h1
                  · rw [← q]; exact (ok_ann hP h1).symm
                  · rw [← q]; exact h5
                · exact .inr ⟨h1, (hwx _).mp ⟨h2, h3⟩, q, h4, h5⟩
        · cases hV
end
