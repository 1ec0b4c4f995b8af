/-! WALKS with the same number go on alike -/
def py_oc (P : yP) (a : Option yS) : Int32 := match a with
  | none => -1
  | some s => py_cod P s
def py_osm (P : yP) (a b : Option yS) : Prop := (a = none ∧ b = none) ∨ ∃ s t, a = some s ∧ b = some t ∧ py_sim P s t
section
variable {P : yP} {s t : yS} {B : Nat}
theorem tm_sim (h : py_sim P s t) {o c : Nat} (hs : s.1 = some o) (hc : c < py_nc P) (hw : py_wi P (py_cn P c) (py_lf P o) = true) : py_tm P t (some c) = py_tm P s (some c) := by
  unfold py_tm
  simp only
  rcases (h.2 o hs).1 c hc hw with e | ⟨e1, e2, e3⟩
  · rw [e]
  · rw [if_pos e1, if_pos e1]
    omega
theorem sim_cod (hP : py_ok P) (h : py_sim P s t) (hs0 : wk_0 P s) (ht0 : wk_0 P t) (hv : ∀ o, s.1 = some o → o < py_nl P) : py_cod P t = py_cod P s := by
  unfold py_cod
  rw [h.1]
  cases hs : s.1 with
  | none => rfl
  | some o =>
    have ho := hv o hs
    show py_cod2 t (py_cod1 P t o) _ = py_cod2 s (py_cod1 P s o) _
    have tme : ∀ b, py_tm P t (py_ct P o b) = py_tm P s (py_ct P o b) := by
      intro b
      cases hc : py_ct P o b with
      | none => rfl
      | some c =>
        have hcn := ct_lt hP ho hc
        refine tm_sim h hs hcn ((ct_iff hP ho hcn).mp ?_)
        cases b
        · exact .inl hc
        · exact .inr hc
    have e1 : py_cod1 P t o = py_cod1 P s o := by
      unfold py_cod1
      rw [tme false, tme true]
    have e2 : ∀ a, a < py_na P → t.2.2 a = s.2.2 a := by
      intro a ha
      cases hw : py_wi P (py_an P a) (py_lf P o) with
      | true => exact (h.2 o hs).2 a ha hw
      | false =>
        rw [hs0.2 a ha (fun o' e => by rw [hs] at e; injection e with e; rw [← e]; exact hw), ht0.2 a ha (fun o' e => by rw [h.1, hs] at e; injection e with e; rw [← e]; exact hw)]
    rw [e1]
    have key : ∀ (l : List Nat) (v : Int32), (∀ a, a ∈ l → a < py_na P) → py_cod2 t v l = py_cod2 s v l := by
      intro l
      induction l with
      | nil => intro v _; rfl
      | cons a l ih =>
        intro v hl
        rw [py_cod2, py_cod2, e2 a (hl a List.mem_cons_self)]
        exact ih _ (fun x hx => hl x (List.mem_cons_of_mem _ hx))
    refine key _ _ ?_
    intro a ha
    rw [List.mem_range'_1] at ha
    omega
theorem cod_ne (hP : py_ok P) (h4 : wk_4 P s) (hv : ∀ o, s.1 = some o → o < py_nl P) : py_cod P s ≠ -1 := by
  intro e
  cases hs : s.1 with
  | none =>
    unfold py_cod at e
    rw [hs] at e
    exact absurd e (show ¬ (0 : Int32) = -1 by decide)
  | some o =>
    have ho := hv o hs
    have hnl := ok_nl hP
    have hna := ok_na hP
    have h1 := cod_bt hP h4 hs ho (show 31 < 32 by omega)
    rw [e, zy_m1 (by omega), small5_bt (show o + 1 < 32 by omega) (by omega) (by omega), small_bt (tm_lt hP h4 ho false) (by omega) (by omega), small_bt (tm_lt hP h4 ho true) (by omega) (by omega), decide_eq_false (show ¬ (13 ≤ 31 ∧ 31 < 13 + 4 * py_na P) by omega)] at h1
    simp at h1
theorem cod_sim (hP : py_ok P) (h4s : wk_4 P s) (h4t : wk_4 P t) (hvs : ∀ o, s.1 = some o → o < py_nl P) (hvt : ∀ o, t.1 = some o → o < py_nl P) (e : py_cod P s = py_cod P t) : py_sim P s t := by
  have hnl := ok_nl hP
  have z : ∀ u : yS, u.1 = none → py_cod P u = 0 := by
    intro u hu
    unfold py_cod
    rw [hu]
  have zn : ∀ (u : yS) (o : Nat), wk_4 P u → u.1 = some o → o < py_nl P → py_cod P u ≠ 0 := by
    intro u o h4 hu ho e0
    have := cod_last hP h4 hu ho
    rw [e0] at this
    exact absurd this.symm (pb_ne1 (by omega))
  cases hs : s.1 with
  | none =>
    cases ht : t.1 with
    | none => exact ⟨by rw [ht, hs], fun o h => by rw [hs] at h; cases h⟩
    | some o => exact absurd (e.symm.trans (z s hs)) (zn t o h4t ht (hvt o ht))
  | some o =>
    have ho := hvs o hs
    cases ht : t.1 with
    | none => exact absurd (e.trans (z t ht)) (zn s o h4s hs ho)
    | some o' =>
      have ho' := hvt o' ht
      have h1 := cod_last hP h4s hs ho
      have h2 := cod_last hP h4t ht ho'
      rw [e, h2] at h1
      have hoo : o' = o := (nI_eq (by omega) (by omega)).mp h1
      subst hoo
      have tme : ∀ b, py_tm P s (py_ct P o' b) = py_tm P t (py_ct P o' b) := by
        intro b
        have l1 := tm_lt hP h4s ho b
        have l2 := tm_lt hP h4t ho' b
        cases b
        · have a1 := cod_t1 hP h4s hs ho
          have a2 := cod_t1 hP h4t ht ho'
          rw [e, a2] at a1
          exact ((nI_eq (by omega) (by omega)).mp a1).symm
        · have a1 := cod_t2 hP h4s hs ho
          have a2 := cod_t2 hP h4t ht ho'
          rw [e, a2] at a1
          exact ((nI_eq (by omega) (by omega)).mp a1).symm
      refine ⟨by rw [ht, hs], ?_⟩
      intro o2 ho2
      rw [hs] at ho2
      injection ho2 with ho2
      subst ho2
      refine ⟨?_, ?_⟩
      · intro c hc hw
        have hct := (ct_iff hP ho hc).mpr hw
        have htm : py_tm P s (some c) = py_tm P t (some c) := by
          rcases hct with h | h
          · have := tme false; rw [h] at this; exact this
          · have := tme true; rw [h] at this; exact this
        unfold py_tm at htm
        simp only at htm
        by_cases q : py_to P c = none
        · rw [if_pos q, if_pos q] at htm
          by_cases q2 : t.2.1 c = s.2.1 c
          · exact .inl q2
          · exact .inr ⟨q, by omega, by omega⟩
        · rw [if_neg q, if_neg q] at htm
          exact .inl htm.symm
      · intro a ha _
        have a1 := cod_b hP h4s hs ho ha
        have a2 := cod_b hP h4t ht ho' ha
        rw [← a1, ← a2, e]
theorem rs_snoc (w : List Nat) (l : Nat) : py_rs P (w ++ [l]) = py_os P (py_rs P w) l := by
  unfold py_rs
  rw [List.foldl_append]
  rfl
theorem rs_g (hP : py_ok P) : ∀ (n : Nat) (w : List Nat) (s : yS), w.length = n → py_rs P w = some s → wk_g P n s := by
  intro n
  induction n with
  | zero =>
    intro w s hw h
    rw [List.eq_nil_of_length_eq_zero hw] at h
    injection h with h
    subst h
    exact wg_0
  | succ n ih =>
    intro w s hw h
    have hne : w ≠ [] := by intro e; rw [e] at hw; cases hw
    obtain ⟨u, l, e⟩ : ∃ u l, w = u ++ [l] := ⟨w.dropLast, w.getLast hne, (List.dropLast_concat_getLast hne).symm⟩
    subst e
    rw [rs_snoc] at h
    cases hu : py_rs P u with
    | none => rw [hu] at h; cases h
    | some s0 =>
      rw [hu] at h
      have h : (match py_fd P s0 l with
        | none => none
        | some W => some (py_go P s0 W)) = some s := h
      cases hf : py_fd P s0 l with
      | none => rw [hf] at h; cases h
      | some W =>
        rw [hf] at h
        injection h with h
        subst h
        exact wg_go hP (ih u s0 (by simp at hw; omega) hu) hf
theorem osm_next (hP : py_ok P) {u v : List Nat} (h : py_osm P (py_rs P u) (py_rs P v)) : py_oe P (py_rs P v) = py_oe P (py_rs P u) ∧ ∀ l, py_osm P (py_rs P (u ++ [l])) (py_rs P (v ++ [l])) := by
  rcases h with ⟨h1, h2⟩ | ⟨s, t, h1, h2, hst⟩
  · refine ⟨by rw [h1, h2], ?_⟩
    intro l
    rw [rs_snoc, rs_snoc, h1, h2]
    exact .inl ⟨rfl, rfl⟩
  · have gs := rs_g hP _ u s rfl h1
    have hv := gs.2.2.2.1
    refine ⟨?_, ?_⟩
    · rw [h1, h2]
      exact sim_ce hP hst hv
    · intro l
      rw [rs_snoc, rs_snoc, h1, h2]
      show py_osm P (match py_fd P s l with
        | none => none
        | some W => some (py_go P s W)) (match py_fd P t l with
        | none => none
        | some W => some (py_go P t W))
      rw [sim_fd hP hst hv l]
      cases hf : py_fd P s l with
      | none => exact .inl ⟨rfl, rfl⟩
      | some W =>
        refine .inr ⟨_, _, rfl, rfl, sim_go hP hst hv ?_⟩
        rw [fd_avs] at hf
        exact (avs_lt hP hv (List.mem_of_find?_eq_some hf)).2
theorem oc_osm (hP : py_ok P) {u v : List Nat} : py_oc P (py_rs P u) = py_oc P (py_rs P v) ↔ py_osm P (py_rs P u) (py_rs P v) := by
  constructor
  · intro e
    cases hu : py_rs P u with
    | none =>
      cases hv : py_rs P v with
      | none => exact .inl ⟨rfl, rfl⟩
      | some t =>
        rw [hu, hv] at e
        have gt := rs_g hP _ v t rfl hv
        exact absurd e.symm (cod_ne hP gt.2.2.1 gt.2.2.2.1)
    | some s =>
      have gs := rs_g hP _ u s rfl hu
      cases hv : py_rs P v with
      | none =>
        rw [hu, hv] at e
        exact absurd e (cod_ne hP gs.2.2.1 gs.2.2.2.1)
      | some t =>
        rw [hu, hv] at e
        have gt := rs_g hP _ v t rfl hv
        exact .inr ⟨s, t, rfl, rfl, cod_sim hP gs.2.2.1 gt.2.2.1 gs.2.2.2.1 gt.2.2.2.1 e⟩
  · rintro (⟨h1, h2⟩ | ⟨s, t, h1, h2, hst⟩)
    · rw [h1, h2]
    · have gs := rs_g hP _ u s rfl h1
      have gt := rs_g hP _ v t rfl h2
      rw [h1, h2]
      exact (sim_cod hP hst gs.2.1 gt.2.1 gs.2.2.2.1).symm
end
/-- the numbers of both walks -/
def py_ka (P Q : yP) (w : List Nat) : Int32 × Int32 := (py_oc P (py_rs P w), py_oc Q (py_rs Q w))
def py_alv (P Q : yP) (w : List Nat) : Bool := (py_rs P w).isSome || (py_rs Q w).isSome
section
variable {P Q : yP}
theorem ka_next (hP : py_ok P) (hQ : py_ok Q) {u v : List Nat} (e : py_ka P Q u = py_ka P Q v) : py_dif P Q u = py_dif P Q v ∧ py_alv P Q u = py_alv P Q v ∧ ∀ l, py_ka P Q (u ++ [l]) = py_ka P Q (v ++ [l]) := by
  have e1 : py_oc P (py_rs P u) = py_oc P (py_rs P v) := congrArg Prod.fst e
  have e2 : py_oc Q (py_rs Q u) = py_oc Q (py_rs Q v) := congrArg Prod.snd e
  have m1 := (oc_osm hP).mp e1
  have m2 := (oc_osm hQ).mp e2
  obtain ⟨a1, a2⟩ := osm_next hP m1
  obtain ⟨b1, b2⟩ := osm_next hQ m2
  refine ⟨?_, ?_, ?_⟩
  · show (py_oe P (py_rs P u) != py_oe Q (py_rs Q u)) = (py_oe P (py_rs P v) != py_oe Q (py_rs Q v))
    rw [a1, b1]
  · have s1 : (py_rs P u).isSome = (py_rs P v).isSome := by
      rcases m1 with ⟨h1, h2⟩ | ⟨s, t, h1, h2, _⟩ <;> rw [h1, h2] <;> rfl
    have s2 : (py_rs Q u).isSome = (py_rs Q v).isSome := by
      rcases m2 with ⟨h1, h2⟩ | ⟨s, t, h1, h2, _⟩ <;> rw [h1, h2] <;> rfl
    unfold py_alv
    rw [s1, s2]
  · intro l
    unfold py_ka
    rw [(oc_osm hP).mpr (a2 l), (oc_osm hQ).mpr (b2 l)]
theorem alv_pre {u : List Nat} {l : Nat} (h : py_alv P Q (u ++ [l]) = true) : py_alv P Q u = true := by
  unfold py_alv at h ⊢
  rw [rs_snoc, rs_snoc] at h
  cases h1 : py_rs P u with
  | some s => rfl
  | none =>
    cases h2 : py_rs Q u with
    | some s => rfl
    | none =>
      rw [h1, h2] at h
      cases h
theorem dif_alv {u : List Nat} (h : py_dif P Q u = true) : py_alv P Q u = true := by
  have h : (py_oe P (py_rs P u) != py_oe Q (py_rs Q u)) = true := h
  unfold py_alv
  cases h1 : py_rs P u with
  | some s => rfl
  | none =>
    cases h2 : py_rs Q u with
    | some s => rfl
    | none =>
      rw [h1, h2] at h
      cases h
theorem os_ll (hP : py_ok P) {u : List Nat} {l : Nat} (h : (py_rs P (u ++ [l])).isSome = true) : l ∈ py_ll P ∧ l < 26 ∧ (py_rs P u).isSome = true := by
  rw [rs_snoc] at h
  cases h1 : py_rs P u with
  | none => rw [h1] at h; cases h
  | some s =>
    rw [h1] at h
    have gs := rs_g hP _ u s rfl h1
    have h : (match py_fd P s l with
        | none => none
        | some W => some (py_go P s W)).isSome = true := h
    cases hf : py_fd P s l with
    | none => rw [hf] at h; cases h
    | some W =>
      rw [fd_avs] at hf
      have hm := (avs_lt hP gs.2.2.2.1 (List.mem_of_find?_eq_some hf)).1
      have hl := List.find?_some hf
      have hl : py_lt P W.1 = l := by simpa using hl
      refine ⟨?_, ?_, rfl⟩
      · unfold py_ll
        rw [List.mem_map]
        exact ⟨W.1, by rw [List.mem_range'_1]; omega, hl⟩
      · rw [← hl]; exact ok_lt hP hm
end
