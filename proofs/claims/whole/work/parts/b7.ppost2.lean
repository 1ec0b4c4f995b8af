/-! THE RULES' text: counts, anys, atoms, patterns make trees -/
theorem pt_ar {B B' : yBp} {G : yG} {D : Nat → Prop} {R l v : Nat} (h : pt_x B G D R l) (ho : ∀ k, k ≠ R → B'.2.1 k = B.2.1 k) (hR : B'.2.1 R = ((B.2.1 R).1, (B.2.1 R).2.1, (B.2.1 R).2.2.1, (B.2.1 R).2.2.2.1, v)) (hv : (B.2.1 R).2.2.2.2 ≤ v ∧ v ≤ 2) (hL : B'.2.2.1 = B.2.2.1) (hC : ∃ s, B'.2.2.2.1 = B.2.2.2.1 ++ s) (hA : B'.2.2.2.2 = B.2.2.2.2) : pt_x B' G D R l := by
  obtain ⟨h1, h2, h3⟩ := h
  have hkR : ∀ n x, D n → x ∈ (B.2.1 n).2.2.2.1 → x ≠ R := by
    intro n x hn hx e
    have g := ((h3 n hn).1 x hx).2.1
    rw [e, h2] at g
    cases g
  refine ⟨h1, by rw [hR]; exact h2, ?_⟩
  intro n hn
  obtain ⟨a1, a2, a3, a4, a5, a6, a7, a8, a9, a10⟩ := h3 n hn
  by_cases e : n = R
  · subst e
    unfold ps_x
    rw [hR]
    refine ⟨?_, ?_, fun _ => rfl, a4, a5, hv.2, a7, a8, a9, fun e => absurd rfl e⟩
    · intro c hc
      have g := a1 c hc
      rw [ho c (hkR n c hn hc)]
      exact ⟨g.1, g.2.1, g.2.2.1, Nat.le_trans g.2.2.2 hv.1⟩
    · intro p hp
      have hp : (B.2.1 n).2.2.1 = some p := hp
      rw [h2] at hp
      cases hp
  · unfold ps_x
    rw [ho n e]
    refine ⟨?_, ?_, a3, a4, a5, a6, a7, a8, a9, ?_⟩
    · intro c hc
      rw [ho c (hkR n c hn hc)]
      exact a1 c hc
    · intro p hp
      have g := a2 p hp
      refine ⟨g.1, ?_⟩
      by_cases ep : p = R
      · rw [ep, hR]
        rw [ep] at g
        exact g.2
      · rw [ho p ep]; exact g.2
    · intro _
      obtain ⟨s, hs⟩ := hC
      obtain ⟨p0, p1, p2, p3, p4, p5, p6⟩ := a10 e
      unfold pk_x
      rw [ho n e, hL, hA, hs]
      refine ⟨p0, p1, p2, p3, p4, ?_, p6⟩
      intro k
      obtain ⟨⟨c, b1, b2⟩, ⟨f, t, b3⟩⟩ := p5 k
      refine ⟨⟨c, b1, ?_⟩, ⟨f, t, ga_app b3⟩⟩
      rw [ho c (hkR n c hn (by rw [b1]; simp))]
      exact b2
theorem pm_cnt {a0 hb : Nat} {q : yQp} {G G1 : yG} {y : Nat × yQp} (hp : po_x a0 hb q G y G1) (har : (y.2.2.2.2.1 y.1).2.2.2.2 ≠ 2) (hC8 : y.2.2.2.2.2.2.1.length ≠ 8) (hN : q.2.2.1 + q.1.length ≤ 400) {f : Nat} {t : Option Nat} (hf : f ≤ 12 ∧ (∀ v, t = some v → 1 ≤ v ∧ v ≤ 12 ∧ f ≤ v)) {b : List Nat} {p : Nat} (hbl : b.length < y.2.1.length) : ∃ G', po_x a0 hb q G (y.2.2.2.1, b, p, pb_cnt y.2.2.2 y.1 f t) G' := by
  obtain ⟨g1, g2, g3, g4, g5, g6, g7, g8, g9, g10⟩ := hp
  have dc := g3.1
  have hac := (g3.2.2 y.1 dc).2.2.2.2.2.1
  have px0 : px_e (fun k => k < y.2.2.2.1) y.2.2.2 (pb_open y.2.2.2 5 y.2.2.2.2.2.2.1.length) G1 (py_u G1 y.2.2.2.1 (0, q.2.2.2.2.1.length, q.2.2.2.2.1.length)) := by
    refine ⟨?_, ⟨[], by simp [pb_open]⟩, ⟨[], by simp [pb_open]⟩, ⟨[], by simp [pb_open]⟩⟩
    intro k hk
    have hk : k < y.2.2.2.1 := hk
    exact ⟨pu_o _ _ (by omega), pu_o _ _ (by omega)⟩
  have eX : (pb_open y.2.2.2 5 y.2.2.2.2.2.2.1.length).2.1 y.2.2.2.1 = (5, y.2.2.2.2.2.2.1.length, none, [], 0) := pu_s _ _ _
  have eG := pu_s G1 y.2.2.2.1 (0, q.2.2.2.2.1.length, q.2.2.2.2.1.length)
  have t1 : pt_x (pb_open y.2.2.2 5 y.2.2.2.2.2.2.1.length) (py_u G1 y.2.2.2.1 (0, q.2.2.2.2.1.length, q.2.2.2.2.1.length)) (fun k => y.2.2.2.1 ≤ k ∧ k < y.2.2.2.1 + 1) y.2.2.2.1 y.2.1.length := pt_one eX (by omega) (.inl (by rw [eG]))
  have t2 : pt_x (pb_open y.2.2.2 5 y.2.2.2.2.2.2.1.length) (py_u G1 y.2.2.2.1 (0, q.2.2.2.2.1.length, q.2.2.2.2.1.length)) (fun n => q.2.2.1 ≤ n ∧ n < y.2.2.2.1) y.1 y.2.1.length := pt_ext (px_mono px0 (fun k hk => hk.2)) (Nat.le_refl _) g3
  have k2 : pk_x (pb_open y.2.2.2 5 y.2.2.2.2.2.2.1.length) (py_u G1 y.2.2.2.1 (0, q.2.2.2.2.1.length, q.2.2.2.2.1.length)) y.1 := pk_ext px0 dc.2 (fun z hz => ((g3.2.2 y.1 dc).1 z hz).1.2) g4
  have eGc : py_u G1 y.2.2.2.1 (0, q.2.2.2.2.1.length, q.2.2.2.2.1.length) y.1 = G1 y.1 := pu_o _ _ (by omega)
  have eXc : (pb_open y.2.2.2 5 y.2.2.2.2.2.2.1.length).2.1 y.1 = y.2.2.2.2.1 y.1 := pu_o _ _ (by omega)
  have t3 := pt_put t1 t2 k2 (fun k h1 h2 => by omega) (by rw [eX]; show 2 ≤ 5; decide) (by rw [eG, eGc]; exact g5.symm) (by rw [eX]; show 0 + 1 + _ ≤ 400; omega)
  have XR : (pb_put (pb_open y.2.2.2 5 y.2.2.2.2.2.2.1.length) y.2.2.2.1 y.1).2.1 y.2.2.2.1 = _ := put_A _ _ _
  rw [eX, eXc] at XR
  rw [eG, eGc] at t3
  have GR := pu_s (py_u G1 y.2.2.2.1 (0, q.2.2.2.2.1.length, q.2.2.2.2.1.length)) y.2.2.2.1 (max 0 ((G1 y.1).1 + 1), q.2.2.2.2.1.length, (G1 y.1).2.2)
  have cX1 : (pb_cnt y.2.2.2 y.1 f t).2.1 y.2.2.2.1 = (5, y.2.2.2.2.2.2.1.length, none, [y.1], (y.2.2.2.2.1 y.1).2.2.2.2 + 1) := if_pos rfl
  have cX2 : ∀ k, k ≠ y.2.2.2.1 → (pb_cnt y.2.2.2 y.1 f t).2.1 k = (pb_put (pb_open y.2.2.2 5 y.2.2.2.2.2.2.1.length) y.2.2.2.1 y.1).2.1 k := by
    intro k hk
    show (if k = y.2.2.2.1 then _ else _) = _
    rw [if_neg hk]
    by_cases e : k = y.1
    · subst e
      rw [if_pos rfl]
      refine Eq.symm (Eq.trans (put_C _ hk) ?_)
      rw [eXc]
    · rw [if_neg e]
      exact (Eq.trans (put_o _ hk e) (pu_o _ _ hk)).symm
  have t4 := pt_ar (B' := pb_cnt y.2.2.2 y.1 f t) (v := (y.2.2.2.2.1 y.1).2.2.2.2 + 1) t3 cX2 (by rw [cX1, XR]; rfl) (by rw [XR]; show max 0 (y.2.2.2.2.1 y.1).2.2.2.2 ≤ _ ∧ _; omega) rfl ⟨[(f, t, y.2.2.2.1)], rfl⟩ rfl
  refine ⟨py_u (py_u G1 y.2.2.2.1 (0, q.2.2.2.2.1.length, q.2.2.2.2.1.length)) y.2.2.2.1 (max 0 ((G1 y.1).1 + 1), q.2.2.2.2.1.length, (G1 y.1).2.2), ?_, ?_, ?_, ?_, ?_, ?_, ?_, ?_, ?_, ?_⟩
  · refine px_tr g1 (B'' := pb_cnt y.2.2.2 y.1 f t) (D' := fun k => k < q.2.2.1) ⟨?_, ⟨[], by simp [pb_cnt]⟩, ⟨[(f, t, y.2.2.2.1)], rfl⟩, ⟨[], by simp [pb_cnt]⟩⟩ (fun k hk => hk)
    intro k hk
    have hk : k < q.2.2.1 := hk
    refine ⟨Eq.trans (cX2 k (by omega)) (Eq.trans (put_o _ (by omega) (by omega)) (pu_o _ _ (by omega))), ?_⟩
    rw [pu_o _ _ (by omega), pu_o _ _ (by omega)]
  · have w := pw_put (pw_new g2 (5, y.2.2.2.2.2.2.1.length, none, [], 0)) y.2.2.2.1 y.1
    have ck : ∀ k, ((pb_cnt y.2.2.2 y.1 f t).2.1 k).1 = ((pb_put (pb_open y.2.2.2 5 y.2.2.2.2.2.2.1.length) y.2.2.2.1 y.1).2.1 k).1 ∧ ((pb_cnt y.2.2.2 y.1 f t).2.1 k).2.1 = ((pb_put (pb_open y.2.2.2 5 y.2.2.2.2.2.2.1.length) y.2.2.2.1 y.1).2.1 k).2.1 := by
      intro k
      by_cases e : k = y.2.2.2.1
      · rw [e, cX1, XR]; exact ⟨rfl, rfl⟩
      · rw [cX2 k e]; exact ⟨rfl, rfl⟩
    obtain ⟨w1, w2, w3, w4, w5, w6, w7⟩ := w
    refine ⟨w1, w2, ?_, w4, ?_, ?_, ?_⟩
    · have w3 : y.2.2.2.2.2.2.1.length ≤ 8 := w3
      show (y.2.2.2.2.2.2.1 ++ [(f, t, y.2.2.2.1)]).length ≤ 8
      rw [List.length_append]
      show y.2.2.2.2.2.2.1.length + 1 ≤ 8
      omega
    · intro o x hx
      have g := w5 o x hx
      exact ⟨g.1, g.2.1, Eq.trans (ck x.2).1 g.2.2.1, Eq.trans (ck x.2).2 g.2.2.2.1, g.2.2.2.2⟩
    · intro o x hx
      have hx : (y.2.2.2.2.2.2.1 ++ [(f, t, y.2.2.2.1)])[o]? = some x := hx
      by_cases e : o < y.2.2.2.2.2.2.1.length
      · rw [List.getElem?_append_left e] at hx
        have g := w6 o x hx
        exact ⟨g.1, g.2.1, g.2.2.1, g.2.2.2.1, Eq.trans (ck x.2.2).1 g.2.2.2.2.1, Eq.trans (ck x.2.2).2 g.2.2.2.2.2⟩
      · have e2 : o = y.2.2.2.2.2.2.1.length := by
          have := (List.getElem?_eq_some_iff.mp hx).1
          simp at this
          omega
        subst e2
        have ex : x = (f, t, y.2.2.2.1) := by simpa using hx.symm
        subst ex
        have w1 : a0 ≤ y.2.2.2.1 + 1 := w1
        have g21 : a0 ≤ y.2.2.2.1 := g2.1
        refine ⟨hf.1, hf.2, g21, Nat.lt_succ_self _, ?_, ?_⟩
        · show ((pb_cnt y.2.2.2 y.1 f t).2.1 y.2.2.2.1).1 = 5
          rw [cX1]
        · show ((pb_cnt y.2.2.2 y.1 f t).2.1 y.2.2.2.1).2.1 = _
          rw [cX1]
    · intro o x hx
      have g := w7 o x hx
      exact ⟨g.1, g.2.1, Eq.trans (ck x).1 g.2.2.1, Eq.trans (ck x).2 g.2.2.2⟩
  · refine pt_iff (pt_ext (px_refl _ _ _) (Nat.le_of_lt hbl) t4) ?_
    intro k
    show ((y.2.2.2.1 ≤ k ∧ k < y.2.2.2.1 + 1) ∨ (q.2.2.1 ≤ k ∧ k < y.2.2.2.1)) ↔ q.2.2.1 ≤ k ∧ k < y.2.2.2.1 + 1
    omega
  · show pk_x (pb_cnt y.2.2.2 y.1 f t) _ y.2.2.2.1
    unfold pk_x
    rw [cX1]
    refine ⟨(fun h => by cases h), (fun h => by cases h), (fun h => by cases h), (fun h => by cases h), (fun h => by cases h), ?_, (show 5 ≤ 5 by decide)⟩
    intro _
    refine ⟨⟨y.1, rfl, ?_⟩, ⟨f, t, ?_⟩⟩
    · show (y.2.2.2.2.1 y.1).2.2.2.2 + 1 = ((pb_cnt y.2.2.2 y.1 f t).2.1 y.1).2.2.2.2 + 1
      rw [cX2 y.1 (by omega)]
      have : (pb_put (pb_open y.2.2.2 5 y.2.2.2.2.2.2.1.length) y.2.2.2.1 y.1).2.1 y.1 = _ := put_C _ (by omega)
      rw [this, eXc]
    · show (y.2.2.2.2.2.2.1 ++ [(f, t, y.2.2.2.1)])[y.2.2.2.2.2.2.1.length]? = some (f, t, y.2.2.2.1)
      simp
  · exact congrArg (fun v => v.2.1) GR
  · exact Eq.trans (congrArg (fun v => v.2.2) GR) g6
  · have e1 := congrArg (fun v => v.1) GR
    have e2 := congrArg (fun v => v.2.2.2.2) cX1
    dsimp only at e1 e2 ⊢
    rw [e1, e2]
    show max 0 ((G1 y.1).1 + 1) + q.2.2.2.2.2.2.length ≤ hb + ((y.2.2.2.2.1 y.1).2.2.2.2 + 1) + y.2.2.2.2.2.2.2.length
    omega
  · show b.length < q.1.length
    omega
  · show y.2.2.2.1 + 1 + b.length ≤ q.2.2.1 + q.1.length
    omega
  · exact g10
theorem bnd_ok {p : Nat} {b : List Nat} {x : Nat × Option Nat × List Nat × Nat} (h : pp_bnd b p = .ok x) : x.1 ≤ 12 ∧ (∀ t, x.2.1 = some t → 1 ≤ t ∧ t ≤ 12 ∧ x.1 ≤ t) := by
  unfold pp_bnd at h
  cases h1 : pp_num 0 (py_sk b p).1 (py_sk b p).2 with
  | error q => rw [h1] at h; cases h
  | ok y =>
    rw [h1] at h
    dsimp only at h
    have n1 := num_ok (by omega) h1
    by_cases q1 : (py_sk y.2.1 y.2.2).1.head? = some 125
    · rw [if_pos q1] at h
      by_cases q2 : y.1 = 0
      · rw [if_pos q2] at h
        cases h
      · rw [if_neg q2] at h
        injection h with h
        rw [← h]
        refine ⟨n1.2, ?_⟩
        intro t ht
        have ht : some y.1 = some t := ht
        injection ht with ht
        subst ht
        exact ⟨by omega, n1.2, Nat.le_refl _⟩
    · rw [if_neg q1] at h
      cases h2 : pp_sgn 44 y.2.1 y.2.2 with
      | error q => rw [h2] at h; cases h
      | ok z =>
        rw [h2] at h
        dsimp only at h
        by_cases q3 : (py_sk z.1 z.2).1.head? = some 125
        · rw [if_pos q3] at h
          injection h with h
          rw [← h]
          exact ⟨n1.2, (fun t ht => by cases ht)⟩
        · rw [if_neg q3] at h
          cases h3 : pp_num (max 1 y.1) (py_sk z.1 z.2).1 (py_sk z.1 z.2).2 with
          | error q => rw [h3] at h; cases h
          | ok w =>
            rw [h3] at h
            dsimp only at h
            have n2 := num_ok (by omega) h3
            cases h4 : pp_sgn 125 w.2.1 w.2.2 with
            | error q => rw [h4] at h; cases h
            | ok v =>
              rw [h4] at h
              dsimp only at h
              injection h with h
              rw [← h]
              refine ⟨n1.2, ?_⟩
              intro t ht
              have ht : some w.1 = some t := ht
              injection ht with ht
              subst ht
              exact ⟨by omega, n2.2, by omega⟩
theorem pm_unit {a0 hb : Nat} {atom : yIp} (hi : pi_ok a0 hb atom) : pi_ok a0 hb (pp_unit atom) := by
  intro q G hw hN x hx
  unfold pp_unit at hx
  cases e : atom q with
  | error t => rw [e] at hx; cases hx
  | ok y =>
    rw [e] at hx
    dsimp only at hx
    obtain ⟨G1, hp⟩ := hi q G hw hN y e
    have hsk := sk_len y.2.1 y.2.2.1
    have hskip : po_x a0 hb q G (y.1, pb_skip y.2) G1 := po_less (y := pb_skip y.2) hp rfl (sk_len _ _)
    cases e2 : (py_sk y.2.1 y.2.2.1).1 with
    | nil =>
      rw [e2] at hx
      dsimp only at hx
      injection hx with hx
      subst hx
      exact ⟨G1, hskip⟩
    | cons c r =>
      rw [e2] at hx
      rw [e2] at hsk
      dsimp only at hx
      have hr : r.length < y.2.1.length := by simp at hsk; omega
      by_cases c1 : c = 63 ∨ c = 42 ∨ c = 43 ∨ c = 123
      · rw [if_pos c1] at hx
        by_cases c2 : (y.2.2.2.2.1 y.1).2.2.2.2 = 2 ∨ y.2.2.2.2.2.2.1.length = 8
        · rw [if_pos c2] at hx
          cases hx
        · rw [if_neg c2] at hx
          have c3 : (y.2.2.2.2.1 y.1).2.2.2.2 ≠ 2 ∧ y.2.2.2.2.2.2.1.length ≠ 8 := ⟨fun h => c2 (.inl h), fun h => c2 (.inr h)⟩
          by_cases c4 : c = 123
          · rw [if_pos c4] at hx
            cases e3 : pp_bnd r ((py_sk y.2.1 y.2.2.1).2 + 1) with
            | error t => rw [e3] at hx; cases hx
            | ok z =>
              rw [e3] at hx
              dsimp only at hx
              injection hx with hx
              subst hx
              have l2 := bnd_len e3
              exact pm_cnt hp c3.1 c3.2 hN (bnd_ok e3) (by omega)
          · rw [if_neg c4] at hx
            injection hx with hx
            subst hx
            refine pm_cnt hp c3.1 c3.2 hN ?_ hr
            by_cases c5 : c = 43
            · subst c5
              refine ⟨by decide, ?_⟩
              intro v hv
              rw [if_neg (by decide)] at hv
              cases hv
            · rw [if_neg c5]
              refine ⟨by decide, ?_⟩
              intro v hv
              by_cases c6 : c = 63
              · rw [if_pos c6] at hv
                injection hv with hv
                subst hv
                decide
              · rw [if_neg c6] at hv
                cases hv
      · rw [if_neg c1] at hx
        injection hx with hx
        subst hx
        exact ⟨G1, hskip⟩
