/-! THE MODEL's face: recount, reletter -/
/-- a count told anew -/
def py_rc (P : yP) (c f : Nat) (t : Option Nat) : yP := (fun k => if k = 7 then py_u (P.1 7) c f else P.1 k, fun k => if k = 1 then py_u (P.2.1 1) c t else P.2.1 k, P.2.2)
/-- a letter told anew -/
def py_rl (P : yP) (o l : Nat) : yP := (fun k => if k = 5 then py_u (P.1 5) o l else P.1 k, P.2)
theorem rc_run {P : yP} {c f : Nat} {t : Option Nat} : ∀ (l : List Nat) (a b : Nat), py_run (py_rc P c f t) a l b ↔ py_run P a l b := by
  intro l
  induction l with
  | nil => intro a b; exact Iff.rfl
  | cons x l ih => intro a b; exact and_congr Iff.rfl (ih _ _)
theorem rl_run {P : yP} {o k : Nat} : ∀ (l : List Nat) (a b : Nat), py_run (py_rl P o k) a l b ↔ py_run P a l b := by
  intro l
  induction l with
  | nil => intro a b; exact Iff.rfl
  | cons x l ih => intro a b; exact and_congr Iff.rfl (ih _ _)
theorem rc_ok {P : yP} (h : py_ok P) {c f : Nat} {t : Option Nat} (hf : f ≤ 12) (ht : ∀ x, t = some x → 1 ≤ x ∧ x ≤ 12 ∧ f ≤ x) : py_ok (py_rc P c f t) := by
  obtain ⟨h1, h2, h3, h4, h5, h6, h7, h8, h9⟩ := h
  have h5' : ∀ n, py_dm (py_rc P c f t) n → py_k5 (py_rc P c f t) n := by
    intro n hn
    obtain ⟨g1, g2, g3, g4, g5, g6, g7, g8⟩ := h5 n hn
    exact ⟨g1, g2, g3, g4, g5, g6, fun hk => (rc_run _ _ _).mpr (g7 hk), g8⟩
  refine ⟨h1, h2, h3, h4, h5', h6, ?_, h8, h9⟩
  intro c' hc'
  obtain ⟨g1, g2, g3, g4, g5⟩ := h7 c' hc'
  refine ⟨g1, g2, g3, ?_, ?_⟩
  · show py_u (P.1 7) c f c' ≤ 12
    unfold py_u
    split
    · exact hf
    · exact g4
  · intro x hx
    have hx' : py_u (P.2.1 1) c t c' = some x := hx
    show 1 ≤ x ∧ x ≤ 12 ∧ py_u (P.1 7) c f c' ≤ x
    unfold py_u at hx' ⊢
    by_cases e : c' = c
    · rw [if_pos e] at hx' ⊢
      exact ht x hx'
    · rw [if_neg e] at hx' ⊢
      exact g5 x hx'
theorem rl_ok {P : yP} (h : py_ok P) {o l : Nat} (hl : l < 26) : py_ok (py_rl P o l) := by
  obtain ⟨h1, h2, h3, h4, h5, h6, h9⟩ := h
  have h5' : ∀ n, py_dm (py_rl P o l) n → py_k5 (py_rl P o l) n := by
    intro n hn
    obtain ⟨g1, g2, g3, g4, g5, g6, g7, g8⟩ := h5 n hn
    exact ⟨g1, g2, g3, g4, g5, g6, fun hk => (rl_run _ _ _).mpr (g7 hk), g8⟩
  refine ⟨h1, h2, h3, h4, h5', ?_, h9⟩
  intro o' ho'
  obtain ⟨g1, g2, g3, g4⟩ := h6 o' ho'
  refine ⟨g1, g2, g3, ?_⟩
  show py_u (P.1 5) o l o' < 26
  unfold py_u
  split
  · exact hl
  · exact g4
/-- the rules with one of them another -/
def yz_r (S : yZ) (r : Nat) (P : yP) : yZ := (S.1, (S.2.1.1, py_u S.2.1.2 r P), S.2.2)
theorem yz_ok {S : yZ} (hz : zz_ok S) {r : Nat} {P : yP} (hP : py_ok P) (hle : py_le P = py_le (S.2.1.2 r)) : zz_ok (yz_r S r P) := by
  obtain ⟨h1, h2, h3, h4, h5, h6⟩ := hz
  refine ⟨h1, h2, ?_, ?_, h5, h6⟩
  · intro r' hr'
    show py_ok (py_u S.2.1.2 r P r')
    unfold py_u
    split
    · exact hP
    · exact h3 r' hr'
  · intro r' hr'
    show py_le (py_u S.2.1.2 r P r') < 26
    unfold py_u
    split
    · rename_i e
      rw [hle, ← e]
      exact h4 r' hr'
    · exact h4 r' hr'
def sp_rec (S : yZ) (x y f t : Int32) : Int32 × yZ := match zin x S.2.1.1 with
  | none => (-1, S)
  | some r => match zin y (py_nc (S.2.1.2 r)) with
    | none => (-1, S)
    | some c => match zin f 13 with
      | none => (-2, S)
      | some fn => if t = -1 then (if py_fr (S.2.1.2 r) c = fn ∧ py_to (S.2.1.2 r) c = none then (-3, S) else (zb (py_sure (py_rc (S.2.1.2 r) c fn none)), yz_r S r (py_rc (S.2.1.2 r) c fn none))) else match zin t 13 with
        | none => (-2, S)
        | some tn => if max 1 fn ≤ tn then (if py_fr (S.2.1.2 r) c = fn ∧ py_to (S.2.1.2 r) c = some tn then (-3, S) else (zb (py_sure (py_rc (S.2.1.2 r) c fn (some tn))), yz_r S r (py_rc (S.2.1.2 r) c fn (some tn)))) else (-2, S)
def sp_rel (S : yZ) (x y l : Int32) : Int32 × yZ := match zin x S.2.1.1 with
  | none => (-1, S)
  | some r => match zin y (py_nl (S.2.1.2 r)) with
    | none => (-1, S)
    | some o => match zin l 26 with
      | none => (-2, S)
      | some ln => if py_lt (S.2.1.2 r) o = ln then (-3, S) else (zb (py_sure (py_rl (S.2.1.2 r) o ln)), yz_r S r (py_rl (S.2.1.2 r) o ln))
section
variable {am d : Nat} {M : zM} {S : yZ}
theorem tw_64 : (12 : Int64) = (nI 13 - 1).toInt64 := by decide
theorem tf_64 : (25 : Int64) = (nI 26 - 1).toInt64 := by decide
/-- two numbers of a count in its row -/
theorem mI_rc (h : mI am M S) (hz : zz_ok S) {r c f : Nat} {t : Option Nat} (hr : r < S.2.1.1) (hc : c < py_nc (S.2.1.2 r)) (hf : f ≤ 12) (ht : ∀ x, t = some x → 1 ≤ x ∧ x ≤ 12 ∧ f ≤ x) : mI am (zm_setI (zm_setI M 20 (am + 6) (3 * (8 * r + c)) (nI f)) 20 (am + 6) (3 * (8 * r + c) + 1) (zo t)) (yz_r S r (py_rc (S.2.1.2 r) c f t)) ∧ zf (mg am [] [6]) M (zm_setI (zm_setI M 20 (am + 6) (3 * (8 * r + c)) (nI f)) 20 (am + 6) (3 * (8 * r + c) + 1) (zo t)) := by
  have hfz : zf (mg am [] [6]) M (zm_setI (zm_setI M 20 (am + 6) (3 * (8 * r + c)) (nI f)) 20 (am + 6) (3 * (8 * r + c) + 1) (zo t)) := zf_trans (zf_set (.inr ⟨.inl rfl, 6, by simp, rfl⟩)) (zf_set (.inr ⟨.inl rfl, 6, by simp, rfl⟩))
  refine ⟨?_, hfz⟩
  have hcr := ok_nc (hz.2.2.1 r hr)
  obtain ⟨h1, h2, h3, h4, h5, h6⟩ := h
  refine ⟨ml_zf h1 hfz, ⟨?_, ?_⟩, ⟨?_, h3.2.1, ml_zf h1 hfz, ?_⟩, md_zf h4 hfz (by simp) (by simp), mv_zf h5 hfz (by simp) (by simp), ?_⟩
  · rw [mg_f hfz (by simp)]; exact h2.1
  · intro i b hb
    rw [mg_a hfz (by decide) (by simp)]
    exact h2.2 i b hb
  · rw [mg_f hfz (by simp)]; exact h3.1
  · intro r' hr'
    have hp := h3.2.2.2 r' hr'
    have hc8 := ok_nc hp.1
    show mp_ok am _ r' (py_u S.2.1.2 r (py_rc (S.2.1.2 r) c f t) r')
    unfold py_u
    by_cases e : r' = r
    · subst e
      rw [if_pos rfl]
      obtain ⟨q1, q2, q3⟩ := hp
      obtain ⟨p1, p2, p3, p4, p5, p6⟩ := q3
      refine ⟨rc_ok q1 hf ht, ml_zf q2 hfz, ?_, ?_, ?_, ?_, ?_, ?_⟩
      · rw [mg_a hfz (by decide) (by simp), mg_a hfz (by decide) (by simp), mg_a hfz (by decide) (by simp), mg_a hfz (by decide) (by simp), mg_a hfz (by decide) (by simp)]
        exact p1
      · intro n hn
        rw [mg_a hfz (by decide) (by simp), mg_a hfz (by decide) (by simp), mg_a hfz (by decide) (by simp), mg_a hfz (by decide) (by simp)]
        exact p2 n hn
      · intro n a' c' b' hn he
        rw [mg_a hfz (by decide) (by simp)]
        exact p3 n a' c' b' hn he
      · intro c' hc'
        have hc2 : c' < py_nc (S.2.1.2 r') := hc'
        have g := p4 c' hc2
        show zm_I _ 20 (am + 6) (3 * (8 * r' + c')) = nI (py_u ((S.2.1.2 r').1 7) c f c') ∧ zm_I _ 20 (am + 6) (3 * (8 * r' + c') + 1) = zo (py_u ((S.2.1.2 r').2.1 1) c t c') ∧ zm_I _ 20 (am + 6) (3 * (8 * r' + c') + 2) = nI (py_cn (S.2.1.2 r') c')
        unfold py_u
        by_cases ec : c' = c
        · subst ec
          rw [if_pos rfl, if_pos rfl]
          refine ⟨?_, pm_same, ?_⟩
          · rw [pm_ne (by omega), pm_same]
          · rw [pm_ne (by omega), pm_ne (by omega)]
            exact g.2.2
        · rw [if_neg ec, if_neg ec]
          rw [pm_ne (by omega), pm_ne (by omega), pm_ne (by omega), pm_ne (by omega), pm_ne (by omega), pm_ne (by omega)]
          exact g
      · intro o' ho'
        rw [mg_a hfz (by decide) (by simp), mg_a hfz (by decide) (by simp)]
        exact p5 o' ho'
      · intro a' ha'
        rw [mg_a hfz (by decide) (by simp)]
        exact p6 a' ha'
    · rw [if_neg e]
      obtain ⟨q1, q2, q3⟩ := hp
      obtain ⟨p1, p2, p3, p4, p5, p6⟩ := q3
      refine ⟨q1, ml_zf q2 hfz, ?_, ?_, ?_, ?_, ?_, ?_⟩
      · rw [mg_a hfz (by decide) (by simp), mg_a hfz (by decide) (by simp), mg_a hfz (by decide) (by simp), mg_a hfz (by decide) (by simp), mg_a hfz (by decide) (by simp)]
        exact p1
      · intro n hn
        rw [mg_a hfz (by decide) (by simp), mg_a hfz (by decide) (by simp), mg_a hfz (by decide) (by simp), mg_a hfz (by decide) (by simp)]
        exact p2 n hn
      · intro n a' c' b' hn he
        rw [mg_a hfz (by decide) (by simp)]
        exact p3 n a' c' b' hn he
      · intro c' hc'
        have g := p4 c' hc'
        rw [pm_ne (by omega), pm_ne (by omega), pm_ne (by omega), pm_ne (by omega), pm_ne (by omega), pm_ne (by omega)]
        exact g
      · intro o' ho'
        rw [mg_a hfz (by decide) (by simp), mg_a hfz (by decide) (by simp)]
        exact p5 o' ho'
      · intro a' ha'
        rw [mg_a hfz (by decide) (by simp)]
        exact p6 a' ha'
  · rw [mg_f hfz (by simp)]; exact h6
theorem mI_rl (h : mI am M S) (hz : zz_ok S) {r o l : Nat} (hr : r < S.2.1.1) (ho : o < py_nl (S.2.1.2 r)) (hl : l < 26) : mI am (zm_setI M 20 (am + 8) (2 * (16 * r + o)) (nI l)) (yz_r S r (py_rl (S.2.1.2 r) o l)) ∧ zf (mg am [] [8]) M (zm_setI M 20 (am + 8) (2 * (16 * r + o)) (nI l)) := by
  have hfz : zf (mg am [] [8]) M (zm_setI M 20 (am + 8) (2 * (16 * r + o)) (nI l)) := zf_set (.inr ⟨.inl rfl, 8, by simp, rfl⟩)
  refine ⟨?_, hfz⟩
  have hcr := ok_nl (hz.2.2.1 r hr)
  obtain ⟨h1, h2, h3, h4, h5, h6⟩ := h
  refine ⟨ml_zf h1 hfz, ⟨?_, ?_⟩, ⟨?_, h3.2.1, ml_zf h1 hfz, ?_⟩, md_zf h4 hfz (by simp) (by simp), mv_zf h5 hfz (by simp) (by simp), ?_⟩
  · rw [mg_f hfz (by simp)]; exact h2.1
  · intro i b hb
    rw [mg_a hfz (by decide) (by simp)]
    exact h2.2 i b hb
  · rw [mg_f hfz (by simp)]; exact h3.1
  · intro r' hr'
    have hp := h3.2.2.2 r' hr'
    have hc8 := ok_nl hp.1
    show mp_ok am _ r' (py_u S.2.1.2 r (py_rl (S.2.1.2 r) o l) r')
    unfold py_u
    by_cases e : r' = r
    · subst e
      rw [if_pos rfl]
      obtain ⟨q1, q2, q3⟩ := hp
      obtain ⟨p1, p2, p3, p4, p5, p6⟩ := q3
      refine ⟨rl_ok q1 hl, ml_zf q2 hfz, ?_, ?_, ?_, ?_, ?_, ?_⟩
      · rw [mg_a hfz (by decide) (by simp), mg_a hfz (by decide) (by simp), mg_a hfz (by decide) (by simp), mg_a hfz (by decide) (by simp), mg_a hfz (by decide) (by simp)]
        exact p1
      · intro n hn
        rw [mg_a hfz (by decide) (by simp), mg_a hfz (by decide) (by simp), mg_a hfz (by decide) (by simp), mg_a hfz (by decide) (by simp)]
        exact p2 n hn
      · intro n a' c' b' hn he
        rw [mg_a hfz (by decide) (by simp)]
        exact p3 n a' c' b' hn he
      · intro c' hc'
        rw [mg_a hfz (by decide) (by simp), mg_a hfz (by decide) (by simp), mg_a hfz (by decide) (by simp)]
        exact p4 c' hc'
      · intro o' ho'
        have ho2 : o' < py_nl (S.2.1.2 r') := ho'
        have g := p5 o' ho2
        show zm_I _ 20 (am + 8) (2 * (16 * r' + o')) = nI (py_u ((S.2.1.2 r').1 5) o l o') ∧ zm_I _ 20 (am + 8) (2 * (16 * r' + o') + 1) = nI (py_lf (S.2.1.2 r') o')
        unfold py_u
        by_cases ec : o' = o
        · subst ec
          rw [if_pos rfl]
          refine ⟨pm_same, ?_⟩
          rw [pm_ne (by omega)]
          exact g.2
        · rw [if_neg ec, pm_ne (by omega), pm_ne (by omega)]
          exact g
      · intro a' ha'
        rw [mg_a hfz (by decide) (by simp)]
        exact p6 a' ha'
    · rw [if_neg e]
      obtain ⟨q1, q2, q3⟩ := hp
      obtain ⟨p1, p2, p3, p4, p5, p6⟩ := q3
      refine ⟨q1, ml_zf q2 hfz, ?_, ?_, ?_, ?_, ?_, ?_⟩
      · rw [mg_a hfz (by decide) (by simp), mg_a hfz (by decide) (by simp), mg_a hfz (by decide) (by simp), mg_a hfz (by decide) (by simp), mg_a hfz (by decide) (by simp)]
        exact p1
      · intro n hn
        rw [mg_a hfz (by decide) (by simp), mg_a hfz (by decide) (by simp), mg_a hfz (by decide) (by simp), mg_a hfz (by decide) (by simp)]
        exact p2 n hn
      · intro n a' c' b' hn he
        rw [mg_a hfz (by decide) (by simp)]
        exact p3 n a' c' b' hn he
      · intro c' hc'
        rw [mg_a hfz (by decide) (by simp), mg_a hfz (by decide) (by simp), mg_a hfz (by decide) (by simp)]
        exact p4 c' hc'
      · intro o' ho'
        have g := p5 o' ho'
        rw [pm_ne (by omega), pm_ne (by omega)]
        exact g
      · intro a' ha'
        rw [mg_a hfz (by decide) (by simp)]
        exact p6 a' ha'
  · rw [mg_f hfz (by simp)]; exact h6
/-- the numbers of a count, and the question behind them -/
theorem mr_recount_72 (h : mI am M S) (hz : zz_ok S) (hd : 37 ≤ d) {r c f : Nat} {t : Option Nat} (hr : r < S.2.1.1) (hc : c < py_nc (S.2.1.2 r)) (hf : f ≤ 12) (ht : ∀ x, t = some x → 1 ≤ x ∧ x ≤ 12 ∧ f ≤ x) : ∃ M', mo_recount_72 d am (nI r) (nI c) (nI f) (zo t) M = some ((if py_fr (S.2.1.2 r) c = f ∧ py_to (S.2.1.2 r) c = t then ((-3 : Int32), S) else (zb (py_sure (py_rc (S.2.1.2 r) c f t)), yz_r S r (py_rc (S.2.1.2 r) c f t))).1, M') ∧ mI am M' (if py_fr (S.2.1.2 r) c = f ∧ py_to (S.2.1.2 r) c = t then ((-3 : Int32), S) else (zb (py_sure (py_rc (S.2.1.2 r) c f t)), yz_r S r (py_rc (S.2.1.2 r) c f t))).2 ∧ zf (mg am [26] [6, 14, 15, 16, 17]) M M' := by
  have hR := hz.2.1
  have hp := mI_p h hr
  have hc8 := ok_nc hp.1
  have hfr := ok_fr hp.1 hc
  have ef : (nI (py_fr (S.2.1.2 r) c) = nI f) ↔ py_fr (S.2.1.2 r) c = f := nI_eq (by omega) (by omega)
  have et : (zo (py_to (S.2.1.2 r) c) = zo t) ↔ py_to (S.2.1.2 r) c = t := by
    cases h1 : py_to (S.2.1.2 r) c with
    | none =>
      cases t with
      | none => simp
      | some y =>
        have := ht y rfl
        have hne : ¬ (-1 : Int32) = nI y := fun e => pb_ne1 (by omega) e.symm
        simp [zo, hne]
    | some x =>
      have h2 := ok_to hp.1 hc h1
      cases t with
      | none =>
        have hne : ¬ nI x = -1 := pb_ne1 (by omega)
        simp [zo, hne]
      | some y =>
        have := ht y rfl
        rw [pb_zos, pb_zos, nI_eq (by omega) (by omega)]
        simp
  have h96 : ∃ M', mo_recount_96 d am (nI r) (nI c) (nI f) (zo t) M = some (zb (py_sure (py_rc (S.2.1.2 r) c f t)), M') ∧ mI am M' (yz_r S r (py_rc (S.2.1.2 r) c f t)) ∧ zf (mg am [26] [6, 14, 15, 16, 17]) M M' := by
    obtain ⟨h1, hf1⟩ := mI_rc h hz hr hc hf ht
    have hp1 := h1.2.2.1.2.2.2 r hr
    have er : (yz_r S r (py_rc (S.2.1.2 r) c f t)).2.1.2 r = py_rc (S.2.1.2 r) c f t := by
      show py_u S.2.1.2 r (py_rc (S.2.1.2 r) c f t) r = _
      simp [py_u]
    rw [er] at hp1
    obtain ⟨M2, e1, e2⟩ := mr_isSure (d := d) hp1 hd
    have z0 : z_in (nI (3 * (8 * r + c))) 192 := nI_in (by omega) (by omega)
    have z1 : z_in (nI (3 * (8 * r + c) + 1)) 192 := nI_in (by omega) (by omega)
    refine ⟨M2, ?_, mI_zf' h1 e2 (by simp [mi_F]) (by simp [mi_A]), zf_trans (zf_mono hf1 (mg_mono (by simp) (by simp))) (zf_mono e2 (mg_mono (by simp) (by simp)))⟩
    unfold mo_recount_96
    simp only [ml_R9 h.1, ml_L9 h.1, mx_3, if_pos z0, nI_clamp (show 3 * (8 * r + c) < 2 ^ 31 by omega), zlet, pm_RI, pm_LI, nI_1, if_pos z1, nI_clamp (show 3 * (8 * r + c) + 1 < 2 ^ 31 by omega), e1, Option.bind_some]
    cases py_sure (py_rc (S.2.1.2 r) c f t) <;> simp [zb, mo_recount_140]
  unfold mo_recount_72
  simp only [mr_fr hp hc, Option.bind_some, ef]
  by_cases q1 : py_fr (S.2.1.2 r) c = f
  · rw [if_pos q1]
    simp only [mr_to hp hc, Option.bind_some, et]
    by_cases q2 : py_to (S.2.1.2 r) c = t
    · rw [if_pos q2, if_pos ⟨q1, q2⟩]
      exact ⟨M, rfl, h, zf_refl _ _⟩
    · rw [if_neg q2, if_neg (fun x => q2 x.2)]
      exact h96
  · rw [if_neg q1, if_neg (fun x => q1 x.1)]
    exact h96
theorem mf_rec (h : mI am M S) (hz : zz_ok S) (hd : 200 ≤ d) (x y f t : Int32) : ∃ M', mo_recount d am x y f t M = some ((sp_rec S x y f t).1, M') ∧ mI am M' (sp_rec S x y f t).2 ∧ zf (mg am [0, 26] [6, 14, 15, 16, 17]) M M' := by
  have hR := hz.2.1
  obtain ⟨d, rfl⟩ : ∃ d', d = d' + 1 := ⟨d - 1, by omega⟩
  have eb : mo_recount (d + 1) am x y f t M = mo_recount_b d am x y f t M := rfl
  rw [eb]
  obtain ⟨h0, hf0⟩ := mI_0 h 0
  have hm0 : zf (mg am [0, 26] [6, 14, 15, 16, 17]) M (zm_setI M 12 am 0 0) := zf_mono hf0 (mg_mono (by simp) (by simp))
  have fin : ∀ v, ∃ M', (some (v, zm_setI M 12 am 0 0) : Option (Int32 × zM)) = some (v, M') ∧ mI am M' S ∧ zf (mg am [0, 26] [6, 14, 15, 16, 17]) M M' := fun v => ⟨_, rfl, h0, hm0⟩
  unfold mo_recount_b sp_rec
  simp only [zlet]
  rw [mr_isRule h0 hz (by omega)]
  simp only [Option.bind_some]
  cases hx : zin x S.2.1.1 with
  | none => simp only [Option.isSome_none, pb_zbf, if_true, mo_recount_31]; exact fin _
  | some r =>
    obtain ⟨hr, rfl⟩ := zin_some (by omega) hx
    dsimp only
    have hp := mI_p h0 hr
    have hnc := ok_nc hp.1
    simp only [Option.isSome_some, pb_zbt]
    rw [if_neg (by decide), mr_nc hp]
    simp only [Option.bind_some, mr_isInN (show py_nc (S.2.1.2 r) < 2 ^ 30 by omega)]
    cases hy : zin y (py_nc (S.2.1.2 r)) with
    | none => simp only [Option.isSome_none, pb_zbf, if_true, mo_recount_31]; exact fin _
    | some c =>
      obtain ⟨hc, rfl⟩ := zin_some (by omega) hy
      dsimp only
      simp only [Option.isSome_some, pb_zbt]
      rw [if_neg (by decide), tw_64, mr_isInN (by omega)]
      simp only [Option.bind_some]
      cases hf : zin f 13 with
      | none => simp only [Option.isSome_none, pb_zbf, if_true, mo_recount_69]; exact fin _
      | some fn =>
        obtain ⟨hfn, rfl⟩ := zin_some (by omega) hf
        dsimp only
        simp only [Option.isSome_some, pb_zbt]
        rw [if_neg (by decide)]
        by_cases q : t = -1
        · subst q
          rw [if_pos rfl, if_pos rfl]
          obtain ⟨M1, e1, e2, e3⟩ := mr_recount_72 (d := d) (t := none) h0 hz (by omega) hr hc (show fn ≤ 12 by omega) (fun x hx => by cases hx)
          exact ⟨M1, e1, e2, zf_trans hm0 (zf_mono e3 (mg_mono (by simp) (by simp)))⟩
        · rw [if_neg q, if_neg q]
          have emx : (if 1 < nI fn then nI fn else 1) = nI (max 1 fn) := pb_max (a := 1) (by omega) (by omega)
          rw [emx, mr_isIn]
          have hlo : (nI (max 1 fn)).toInt64.toInt = ((max 1 fn : Nat) : Int) := by rw [Int32.toInt_toInt64, nI_toInt (by omega)]
          have hhi : ((nI 13 - 1).toInt64).toInt = 12 := by decide
          cases ht : zin t 13 with
          | none =>
            have hno := zin_none ht
            have : ¬ ((nI (max 1 fn)).toInt64 ≤ t.toInt64 ∧ t.toInt64 ≤ (nI 13 - 1).toInt64) := by
              intro hc
              apply hno
              rw [Int64.le_iff_toInt_le, Int64.le_iff_toInt_le, hlo, hhi, Int32.toInt_toInt64] at hc
              rw [fa_le, fa_lt, nI_toInt (by omega)]
              have h0' : ((0 : Int32)).toInt = 0 := by decide
              omega
            rw [decide_eq_false this]
            simp only [Option.bind_some, pb_zbf, if_true, mo_recount_69]
            exact fin _
          | some tn =>
            obtain ⟨htn, rfl⟩ := zin_some (by omega) ht
            dsimp only
            have key : ((nI (max 1 fn)).toInt64 ≤ (nI tn).toInt64 ∧ (nI tn).toInt64 ≤ (nI 13 - 1).toInt64) ↔ max 1 fn ≤ tn := by
              rw [Int64.le_iff_toInt_le, Int64.le_iff_toInt_le, hlo, hhi, Int32.toInt_toInt64, nI_toInt (by omega)]
              omega
            by_cases q2 : max 1 fn ≤ tn
            · rw [decide_eq_true (key.mpr q2), if_pos q2]
              simp only [Option.bind_some, pb_zbt]
              rw [if_neg (by decide)]
              obtain ⟨M1, e1, e2, e3⟩ := mr_recount_72 (d := d) (t := some tn) h0 hz (by omega) hr hc (show fn ≤ 12 by omega) (fun x hx => by injection hx with hx; omega)
              exact ⟨M1, e1, e2, zf_trans hm0 (zf_mono e3 (mg_mono (by simp) (by simp)))⟩
            · rw [decide_eq_false (fun x => q2 (key.mp x)), if_neg q2]
              simp only [Option.bind_some, pb_zbf, if_true, mo_recount_69]
              exact fin _
theorem mf_rel (h : mI am M S) (hz : zz_ok S) (hd : 200 ≤ d) (x y l : Int32) : ∃ M', mo_reletter d am x y l M = some ((sp_rel S x y l).1, M') ∧ mI am M' (sp_rel S x y l).2 ∧ zf (mg am [0, 26] [8, 14, 15, 16, 17]) M M' := by
  have hR := hz.2.1
  obtain ⟨d, rfl⟩ : ∃ d', d = d' + 1 := ⟨d - 1, by omega⟩
  have eb : mo_reletter (d + 1) am x y l M = mo_reletter_b d am x y l M := rfl
  rw [eb]
  obtain ⟨h0, hf0⟩ := mI_0 h 0
  have hm0 : zf (mg am [0, 26] [8, 14, 15, 16, 17]) M (zm_setI M 12 am 0 0) := zf_mono hf0 (mg_mono (by simp) (by simp))
  have fin : ∀ v, ∃ M', (some (v, zm_setI M 12 am 0 0) : Option (Int32 × zM)) = some (v, M') ∧ mI am M' S ∧ zf (mg am [0, 26] [8, 14, 15, 16, 17]) M M' := fun v => ⟨_, rfl, h0, hm0⟩
  unfold mo_reletter_b sp_rel
  simp only [zlet]
  rw [mr_isRule h0 hz (by omega)]
  simp only [Option.bind_some]
  cases hx : zin x S.2.1.1 with
  | none => simp only [Option.isSome_none, pb_zbf, if_true, mo_reletter_31]; exact fin _
  | some r =>
    obtain ⟨hr, rfl⟩ := zin_some (by omega) hx
    dsimp only
    have hp := mI_p h0 hr
    have hnl := ok_nl hp.1
    simp only [Option.isSome_some, pb_zbt]
    rw [if_neg (by decide), mr_nl hp]
    simp only [Option.bind_some, mr_isInN (show py_nl (S.2.1.2 r) < 2 ^ 30 by omega)]
    cases hy : zin y (py_nl (S.2.1.2 r)) with
    | none => simp only [Option.isSome_none, pb_zbf, if_true, mo_reletter_31]; exact fin _
    | some o =>
      obtain ⟨ho, rfl⟩ := zin_some (by omega) hy
      dsimp only
      simp only [Option.isSome_some, pb_zbt]
      rw [if_neg (by decide), tf_64, mr_isInN (by omega)]
      simp only [Option.bind_some]
      cases hl : zin l 26 with
      | none => simp only [Option.isSome_none, pb_zbf, if_true]; exact fin _
      | some ln =>
        obtain ⟨hln, rfl⟩ := zin_some (by omega) hl
        dsimp only
        simp only [Option.isSome_some, pb_zbt]
        rw [if_neg (by decide), mr_lt hp ho]
        have hlt := ok_lt hp.1 ho
        have el : (nI (py_lt (S.2.1.2 r) o) = nI ln) ↔ py_lt (S.2.1.2 r) o = ln := nI_eq (by omega) (by omega)
        simp only [Option.bind_some, el]
        by_cases q : py_lt (S.2.1.2 r) o = ln
        · rw [if_pos q, if_pos q]
          exact fin _
        · rw [if_neg q, if_neg q]
          obtain ⟨h1, hf1⟩ := mI_rl h0 hz hr ho hln
          have hp1 := h1.2.2.1.2.2.2 r hr
          have er : (yz_r S r (py_rl (S.2.1.2 r) o ln)).2.1.2 r = py_rl (S.2.1.2 r) o ln := by
            show py_u S.2.1.2 r (py_rl (S.2.1.2 r) o ln) r = _
            simp [py_u]
          rw [er] at hp1
          obtain ⟨M2, e1, e2⟩ := mr_isSure (d := d) hp1 (by omega)
          have z0 : z_in (nI (2 * (16 * r + o))) 256 := nI_in (by omega) (by omega)
          refine ⟨M2, ?_, mI_zf' h1 e2 (by simp [mi_F]) (by simp [mi_A]), zf_trans hm0 (zf_trans (zf_mono hf1 (mg_mono (by simp) (by simp))) (zf_mono e2 (mg_mono (by simp) (by simp))))⟩
          simp only [ml_R11 h0.1, ml_L11 h0.1, mx_2, if_pos z0, nI_clamp (show 2 * (16 * r + o) < 2 ^ 31 by omega), e1, Option.bind_some]
          cases py_sure (py_rl (S.2.1.2 r) o ln) <;> simp [zb, mo_reletter_88]
end
