/-! THE CLASS: a witness is offered -/
def wo_W (wi t k j : Nat) : Prop := t = 10 ∧ k = wi ∧ 1 ≤ j ∧ j ≤ 4
section
variable {M M' : zM} {pa : Nat → Nat} {P : yP} {d sp wi Q : Nat} {T : List Nat} {en ov : Int32} {x : Option yB} {p : Option Nat}
theorem oi_inj {a b : Option Nat} (h : py_oi a = py_oi b) : a = b := by
  cases a with
  | none =>
    cases b with
    | none => rfl
    | some b => exact absurd h (by show ¬ 0 = b + 1; omega)
  | some a =>
    cases b with
    | none => exact absurd h (by show ¬ a + 1 = 0; omega)
    | some b =>
      have h : a + 1 = b + 1 := h
      rw [show a = b by omega]
theorem lex_key {a l1 l2 h1 h2 a' l1' l2' h1' h2' : Nat} (b2 : l2 < 16) (b2' : l2' < 16) (b4 : h2 < 16) (b4' : h2' < 16) (ha : a' ≤ a) : py_lex [a, l1, l2, h1, h2] [a', l1', l2', h1', h2'] = true ↔ a = a' ∧ (16 * l1 + l2 < 16 * l1' + l2' ∨ (16 * l1 + l2 = 16 * l1' + l2' ∧ 16 * h1 + h2 < 16 * h1' + h2')) := by
  show (if a = a' then (if l1 = l1' then (if l2 = l2' then (if h1 = h1' then (if h2 = h2' then false else decide (h2 < h2')) else decide (h1 < h1')) else decide (l2 < l2')) else decide (l1 < l1')) else decide (a < a')) = true ↔ _
  by_cases qa : a = a'
  · rw [if_pos qa]
    by_cases q1 : l1 = l1'
    · rw [if_pos q1]
      by_cases q2 : l2 = l2'
      · rw [if_pos q2]
        by_cases q3 : h1 = h1'
        · rw [if_pos q3]
          by_cases q4 : h2 = h2'
          · rw [if_pos q4]
            exact ⟨fun h => (by cases h), fun h => (by omega)⟩
          · rw [if_neg q4, decide_eq_true_eq]
            omega
        · rw [if_neg q3, decide_eq_true_eq]
          omega
      · rw [if_neg q2, decide_eq_true_eq]
        omega
    · rw [if_neg q1, decide_eq_true_eq]
      omega
  · rw [if_neg qa, decide_eq_true_eq]
    omega
theorem btr_acc {y : yB} (hx : ∀ b, x = some b → py_oi b.1 ≤ py_oi y.1 ∧ py_oi b.2.1.2 < 16 ∧ py_oi b.2.2.1.2 < 16) (h2 : py_oi y.2.1.2 < 16) (h4 : py_oi y.2.2.1.2 < 16) : py_btr x y = true ↔ (py_wc x y.2.2.2 = -1 ∨ (py_wc x y.2.2.2 = 0 ∧ ∃ b, x = some b ∧ y.1 = b.1 ∧ (py_c2 y.2.1 < py_c2 b.2.1 ∨ (py_c2 y.2.1 = py_c2 b.2.1 ∧ py_c2 y.2.2.1 < py_c2 b.2.2.1)))) := by
  cases x with
  | none => exact ⟨fun _ => .inl rfl, fun _ => rfl⟩
  | some b =>
    obtain ⟨k1, k2, k3⟩ := hx b rfl
    show (py_ls y.2.2.2 b.2.2.2 || (y.2.2.2 == b.2.2.2 && py_lex (py_key y) (py_key b))) = true ↔ ((if py_ls y.2.2.2 b.2.2.2 then (-1 : Int32) else if y.2.2.2 = b.2.2.2 then 0 else 1) = -1 ∨ ((if py_ls y.2.2.2 b.2.2.2 then (-1 : Int32) else if y.2.2.2 = b.2.2.2 then 0 else 1) = 0 ∧ ∃ b', some b = some b' ∧ y.1 = b'.1 ∧ (py_c2 y.2.1 < py_c2 b'.2.1 ∨ (py_c2 y.2.1 = py_c2 b'.2.1 ∧ py_c2 y.2.2.1 < py_c2 b'.2.2.1))))
    cases hls : py_ls y.2.2.2 b.2.2.2 with
    | true =>
      rw [if_pos rfl]
      exact ⟨fun _ => .inl rfl, fun _ => rfl⟩
    | false =>
      rw [if_neg (by decide), Bool.false_or]
      by_cases q : y.2.2.2 = b.2.2.2
      · have qb : (y.2.2.2 == b.2.2.2) = true := by simpa using q
        rw [if_pos q, qb, Bool.true_and]
        have hk := lex_key (a := py_oi y.1) (l1 := y.2.1.1) (l2 := py_oi y.2.1.2) (h1 := y.2.2.1.1) (h2 := py_oi y.2.2.1.2) (a' := py_oi b.1) (l1' := b.2.1.1) (l2' := py_oi b.2.1.2) (h1' := b.2.2.1.1) (h2' := py_oi b.2.2.1.2) h2 k2 h4 k3 k1
        have hk : py_lex (py_key y) (py_key b) = true ↔ _ := hk
        rw [hk]
        constructor
        · rintro ⟨e1, e2⟩
          exact .inr ⟨rfl, b, rfl, oi_inj e1, e2⟩
        · rintro (h | ⟨_, b', hb, e1, e2⟩)
          · exact absurd h (by decide)
          · injection hb with hb
            subst hb
            exact ⟨by rw [e1], e2⟩
      · have qb : (y.2.2.2 == b.2.2.2) = false := by simpa using q
        rw [if_neg q, qb, Bool.false_and]
        constructor
        · intro h; cases h
        · rintro (h | ⟨h, _⟩)
          · exact absurd h (by decide)
          · exact absurd h (by decide)
theorem cl_offer_v {a1 a2 a3 : Int32} : wi_offer d wi a1 a2 a3 M = wi_offer_37 d wi a1 a2 a3 (zb (decide (a1 = zm_I M 10 wi 2 ∧ (a2 < zm_I M 10 wi 3 ∨ (a2 = zm_I M 10 wi 3 ∧ ¬ zm_I M 10 wi 4 ≤ a3))))) M := by
  unfold wi_offer wi_offer_32 wi_offer_36
  by_cases q1 : a1 = zm_I M 10 wi 2
  · rw [if_pos q1]
    by_cases q2 : a2 < zm_I M 10 wi 3
    · rw [if_pos q2, decide_eq_true ⟨q1, .inl q2⟩]
      rfl
    · rw [if_neg q2]
      by_cases q3 : a2 = zm_I M 10 wi 3
      · rw [if_pos q3]
        by_cases q4 : zm_I M 10 wi 4 ≤ a3
        · rw [if_pos q4, decide_eq_false (by
            rintro ⟨_, h | ⟨_, h⟩⟩
            · exact q2 h
            · exact h q4)]
          rfl
        · rw [if_neg q4, decide_eq_true ⟨q1, .inr ⟨q3, q4⟩⟩]
          rfl
      · rw [if_neg q3, decide_eq_false (by
          rintro ⟨_, h | ⟨h, _⟩⟩
          · exact q2 h
          · exact q3 h)]
        rfl
  · rw [if_neg q1, decide_eq_false (fun h => q1 h.1)]
    rfl
/-- the state between weighing and offering, and what an offer makes of it -/
theorem cl_offer {y : yB} (hy : y.2.2.2 = py_txb P p en ov) (hy1 : y.1 = p) (hp16 : py_oi p ≤ 16) (b1 : y.2.1.1 < 16 ∧ py_oi y.2.1.2 < 16) (b2 : y.2.2.1.1 < 16 ∧ py_oi y.2.2.1.2 < 16) (hw : wt_w M wi x (py_txb P p en ov) (py_wc x (py_txb P p en ov))) (h1 : zm_I M 10 wi 1 = zb x.isSome) (hx : ∀ b, x = some b → zm_I M 10 wi 2 = zo b.1 ∧ zm_I M 10 wi 3 = nI (py_c2 b.2.1) ∧ zm_I M 10 wi 4 = nI (py_c2 b.2.2.1) ∧ py_oi b.1 ≤ py_oi p ∧ (b.2.1.1 < 16 ∧ py_oi b.2.1.2 < 16) ∧ (b.2.2.1.1 < 16 ∧ py_oi b.2.2.1.2 < 16)) (h8 : zm_I M 10 wi 8 = 1) (h9 : zm_I M 10 wi 9 = zo p) (h10 : zm_I M 10 wi 10 = en) (h11 : zm_I M 10 wi 11 = ov) : ∃ M', wi_offer d wi (zo p) (nI (py_c2 y.2.1)) (nI (py_c2 y.2.2.1)) M = some M' ∧ wt_x M' wi (if py_btr x y then some y else x) ∧ wt_c M' wi P (if py_btr x y then some y else x) ∧ zf (wo_W wi) M M' := by
  obtain ⟨w1, w2, w3, w4⟩ := hw
  have hT := hy
  have hacc := btr_acc (x := x) (y := y) (fun b hb => by obtain ⟨_, _, _, h, h', h''⟩ := hx b hb; rw [hy1]; exact ⟨h, h'.2, h''.2⟩) b1.2 b2.2
  rw [hy] at hacc
  have hc2 : ∀ w : Nat × Option Nat, w.1 < 16 → py_oi w.2 < 16 → py_c2 w < 256 := by
    intro w h1 h2
    unfold py_c2
    omega
  have cl := hc2 _ b1.1 b1.2
  have ch := hc2 _ b2.1 b2.2
  rw [cl_offer_v]
  unfold wi_offer_37 wi_offer_78
  rw [w2]
  have take : py_btr x y = true → wt_t M wi (py_txb P p en ov) → (py_wc x (py_txb P p en ov) = -1 ∨ py_wc x (py_txb P p en ov) = 0) → ∃ M', wi_offer_58 d wi (zo p) (nI (py_c2 y.2.1)) (nI (py_c2 y.2.2.1)) M = some M' ∧ wt_x M' wi (if py_btr x y then some y else x) ∧ wt_c M' wi P (if py_btr x y then some y else x) ∧ zf (wo_W wi) M M' := by
    intro hb ht hw0
    rw [hb, if_pos rfl]
    obtain ⟨M1, hM1⟩ : ∃ Y, Y = zm_setI (zm_setI (zm_setI (zm_setI M 10 wi 1 1) 10 wi 2 (zo p)) 10 wi 3 (nI (py_c2 y.2.1))) 10 wi 4 (nI (py_c2 y.2.2.1)) := ⟨_, rfl⟩
    have f1 : zf (wo_W wi) M M1 := by
      rw [hM1]
      exact zf_trans (zf_trans (zf_trans (zf_set ⟨rfl, rfl, by omega, by omega⟩) (zf_set ⟨rfl, rfl, by omega, by omega⟩)) (zf_set ⟨rfl, rfl, by omega, by omega⟩)) (zf_set ⟨rfl, rfl, by omega, by omega⟩)
    have nf : ∀ j, ¬ (1 ≤ j ∧ j ≤ 4) → zm_I M1 10 wi j = zm_I M 10 wi j := by
      intro j hj
      exact f1.2.2.2.2.2.2 _ _ _ (fun w => hj ⟨w.2.2.1, w.2.2.2⟩)
    have t1 : wt_t M1 wi (py_txb P p en ov) := wtt_zr ht (zr_zf f1) (by rintro ⟨_, _, _, h⟩; omega) (by rintro j ⟨h, _⟩; omega)
    have run : wi_offer_58 d wi (zo p) (nI (py_c2 y.2.1)) (nI (py_c2 y.2.2.1)) M = some M1 := by
      unfold wi_offer_58 wi_offer_78
      simp only [zlet]
      rw [hM1]
    refine ⟨M1, run, ⟨?_, ?_, ?_⟩, ?_, f1⟩
    · unfold wt_l; rw [f1.1, f1.2.1]; exact w1
    · rw [hM1, pm_ne (by omega), pm_ne (by omega), pm_ne (by omega), pm_same]; rfl
    · intro b hb
      injection hb with hb
      subst hb
      refine ⟨?_, ?_, ?_, ?_, by rw [hy1]; exact hp16, b1, b2⟩
      · rw [hM1, pm_ne (by omega), pm_ne (by omega), pm_same, hy1]
      · rw [hM1, pm_ne (by omega), pm_same]
      · rw [hM1, pm_same]
      · rw [hy]; exact t1
    · refine .inr ⟨by rw [nf 8 (by omega)]; exact h8, p, en, ov, y, by rw [nf 9 (by omega)]; exact h9, by rw [nf 10 (by omega)]; exact h10, by rw [nf 11 (by omega)]; exact h11, hp16, rfl, .inl ⟨?_, hy⟩⟩
      rw [nf 7 (by omega), w2]
      exact hw0
  have stay : py_btr x y = false → ∃ b, x = some b ∧ ((py_wc x (py_txb P p en ov) = 0 ∧ b.2.2.2 = py_txb P p en ov) ∨ (py_wc x (py_txb P p en ov) = 1 ∧ py_ls (py_txb P p en ov) b.2.2.2 = false ∧ py_txb P p en ov ≠ b.2.2.2)) := by
    intro hb
    cases x with
    | none => cases hb
    | some b =>
      refine ⟨b, rfl, ?_⟩
      have hn : ¬ py_wc (some b) (py_txb P p en ov) = -1 := by
        intro h
        rw [hacc.mpr (.inl h)] at hb
        cases hb
      show ((if py_ls (py_txb P p en ov) b.2.2.2 then (-1 : Int32) else if py_txb P p en ov = b.2.2.2 then 0 else 1) = 0 ∧ _) ∨ ((if py_ls (py_txb P p en ov) b.2.2.2 then (-1 : Int32) else if py_txb P p en ov = b.2.2.2 then 0 else 1) = 1 ∧ _)
      have hn : ¬ (if py_ls (py_txb P p en ov) b.2.2.2 then (-1 : Int32) else if py_txb P p en ov = b.2.2.2 then 0 else 1) = -1 := hn
      cases hls : py_ls (py_txb P p en ov) b.2.2.2 with
      | true => rw [hls, if_pos rfl] at hn; exact absurd rfl hn
      | false =>
        rw [if_neg (by decide)]
        by_cases q : py_txb P p en ov = b.2.2.2
        · rw [if_pos q]; exact .inl ⟨rfl, q.symm⟩
        · rw [if_neg q]; exact .inr ⟨rfl, rfl, q⟩
  have keep : py_btr x y = false → wt_x M wi (if py_btr x y then some y else x) ∧ wt_c M wi P (if py_btr x y then some y else x) := by
    intro hb
    obtain ⟨b, hxb, hcase⟩ := stay hb
    obtain ⟨k1, k2, k3, k4, k5, k6⟩ := hx b hxb
    have hwn : py_wc x (py_txb P p en ov) ≠ -1 := by
      rcases hcase with ⟨h, _⟩ | ⟨h, _⟩ <;> (rw [h]; decide)
    rw [hb, if_neg (by decide)]
    refine ⟨⟨w1, h1, ?_⟩, .inr ⟨h8, p, en, ov, b, h9, h10, h11, hp16, hxb, ?_⟩⟩
    · intro b' hb'
      rw [hxb] at hb'
      injection hb' with hb'
      subst hb'
      exact ⟨k1, k2, k3, w4 b hxb hwn, by omega, k5, k6⟩
    · rw [w2]
      rcases hcase with ⟨h, h'⟩ | h
      · exact .inl ⟨.inr h, h'⟩
      · exact .inr h
  have wcv : py_wc x (py_txb P p en ov) = -1 ∨ py_wc x (py_txb P p en ov) = 0 ∨ py_wc x (py_txb P p en ov) = 1 := by
    cases x with
    | none => exact .inl rfl
    | some b =>
      show (if py_ls (py_txb P p en ov) b.2.2.2 then (-1 : Int32) else if py_txb P p en ov = b.2.2.2 then 0 else 1) = -1 ∨ (if py_ls (py_txb P p en ov) b.2.2.2 then (-1 : Int32) else if py_txb P p en ov = b.2.2.2 then 0 else 1) = 0 ∨ (if py_ls (py_txb P p en ov) b.2.2.2 then (-1 : Int32) else if py_txb P p en ov = b.2.2.2 then 0 else 1) = 1
      split
      · exact .inl rfl
      · split
        · exact .inr (.inl rfl)
        · exact .inr (.inr rfl)
  rcases wcv with hc | hc | hc
  · rw [if_pos (show py_wc x (py_txb P p en ov) < 0 by rw [hc]; decide)]
    exact take (hacc.mpr (.inl hc)) (w3 hc) (.inl hc)
  · rw [if_neg (show ¬ py_wc x (py_txb P p en ov) < 0 by rw [hc]; decide), if_pos hc]
    obtain ⟨b, hxb⟩ : ∃ b, x = some b := by
      cases x with
      | none => exact absurd hc (show ¬ (-1 : Int32) = 0 by decide)
      | some b => exact ⟨b, rfl⟩
    obtain ⟨k1, k2, k3, k4, k5, k6⟩ := hx b hxb
    have c1 := hc2 _ k5.1 k5.2
    have c2 := hc2 _ k6.1 k6.2
    have ezo : (zo p = zo b.1) ↔ p = b.1 := by
      constructor
      · intro h
        cases hp : p with
        | none =>
          cases hb : b.1 with
          | none => rfl
          | some o =>
            rw [hp, hb] at h
            rw [hp, hb] at k4
            exact absurd k4 (by show ¬ o + 1 ≤ 0; omega)
        | some o' =>
          cases hb : b.1 with
          | none =>
            rw [hp, hb] at h
            rw [hp] at hp16
            have : o' + 1 ≤ 16 := hp16
            exact absurd h (pb_ne1 (by omega))
          | some o =>
            rw [hp, hb] at h
            rw [hp] at hp16
            rw [hp, hb] at k4
            have h3 : o' + 1 ≤ 16 := hp16
            have h4 : o + 1 ≤ o' + 1 := k4
            have := (nI_eq (by omega) (by omega)).mp h
            rw [this]
      · intro h; rw [h]
    have hdec : (zo p = zm_I M 10 wi 2 ∧ (nI (py_c2 y.2.1) < zm_I M 10 wi 3 ∨ (nI (py_c2 y.2.1) = zm_I M 10 wi 3 ∧ ¬ zm_I M 10 wi 4 ≤ nI (py_c2 y.2.2.1)))) ↔ py_btr x y = true := by
      rw [hacc, k1, k2, k3, ezo, nI_ltI (by omega) (by omega), nI_eq (by omega) (by omega), nI_leI (by omega) (by omega)]
      constructor
      · rintro ⟨h1, h2⟩
        exact .inr ⟨hc, b, hxb, by rw [hy1]; exact h1, by omega⟩
      · rintro (h | ⟨_, b', hb', h1, h2⟩)
        · rw [hc] at h; exact absurd h (by decide)
        · rw [hxb] at hb'
          injection hb' with hb'
          subst hb'
          exact ⟨by rw [← hy1]; exact h1, by omega⟩
    cases hb : py_btr x y with
    | true =>
      rw [decide_eq_true (hdec.mpr hb), if_neg (show ¬ zb true = 0 by decide)]
      have ht : wt_t M wi (py_txb P p en ov) := by
        have h0 := w4 b hxb (by rw [hc]; decide)
        have e : py_txb P p en ov = b.2.2.2 := by
          rw [hxb] at hc
          have hc : (if py_ls (py_txb P p en ov) b.2.2.2 then (-1 : Int32) else if py_txb P p en ov = b.2.2.2 then 0 else 1) = 0 := hc
          cases hls : py_ls (py_txb P p en ov) b.2.2.2 with
          | true => rw [hls, if_pos rfl] at hc; exact absurd hc (by decide)
          | false =>
            rw [hls, if_neg (by decide)] at hc
            by_cases q : py_txb P p en ov = b.2.2.2
            · exact q
            · rw [if_neg q] at hc; exact absurd hc (by decide)
        rw [e]
        exact h0
      have h58 := take hb ht (.inr hc)
      rw [hb] at h58
      exact h58
    | false =>
      rw [decide_eq_false (fun h => by have := hdec.mp h; rw [hb] at this; cases this), if_pos (show zb false = 0 from rfl), ← hb]
      obtain ⟨g1, g2⟩ := keep hb
      exact ⟨M, rfl, g1, g2, zf_refl _ _⟩
  · rw [if_neg (show ¬ py_wc x (py_txb P p en ov) < 0 by rw [hc]; decide), if_neg (show ¬ py_wc x (py_txb P p en ov) = 0 by rw [hc]; decide)]
    have hb : py_btr x y = false := by
      cases hb : py_btr x y with
      | false => rfl
      | true =>
        rcases hacc.mp hb with h | ⟨h, _⟩
        · rw [hc] at h; exact absurd h (by decide)
        · rw [hc] at h; exact absurd h (by decide)
    obtain ⟨g1, g2⟩ := keep hb
    exact ⟨M, rfl, g1, g2, zf_refl _ _⟩
end
