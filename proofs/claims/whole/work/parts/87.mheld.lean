/-! THE MODEL holds things to rules -/
/-- all rules told -/
def mt_ok (am : Nat) (M : zM) (R : Nat) (Ps : Nat → yP) : Prop := zm_I M 12 am 15 = nI R ∧ R ≤ 8 ∧ ml_ok am M ∧ ∀ r, r < R → mp_ok am M r (Ps r)
theorem mt_zf2 {am R : Nat} {F A : List Nat} {M M' : zM} {Ps : Nat → yP} (h : mt_ok am M R Ps) (hf : zf (mg am F A) M M') (h0 : ¬ 15 ∈ F) (hA : ¬ 2 ∈ A ∧ ¬ 4 ∈ A ∧ ¬ 6 ∈ A ∧ ¬ 8 ∈ A ∧ ¬ 10 ∈ A) : mt_ok am M' R Ps := by
  refine ⟨?_, h.2.1, ml_zf h.2.2.1 hf, fun r hr => mp_zf (h.2.2.2 r hr) hf hA⟩
  rw [mg_f hf h0]
  exact h.1
/-- a thing: letter, the one in which it is, how many it holds, how many are around it -/
abbrev yT : Type := Nat × Option Nat × Nat × Nat
def py_kl (D : List yT) (t : Nat) : List Nat := (D.filter (fun x => x.2.1 == some t)).map (fun x => x.1)
def do_ok (D : List yT) : Prop := D.length ≤ 60 ∧ (∀ i x, D[i]? = some x → x.1 < 26 ∧ (∀ p, x.2.1 = some p → p < i) ∧ x.2.2.1 = (py_kl D i).length ∧ x.2.2.1 ≤ 24 ∧ x.2.2.2 ≤ 7)
def md_x (am : Nat) (M : zM) (D : List yT) : Prop := zm_I M 12 am 20 = nI D.length ∧ ∀ i x, D[i]? = some x → zm_I M 20 (am + 12) (4 * i) = nI x.1 ∧ zm_I M 20 (am + 12) (4 * i + 1) = zo x.2.1 ∧ zm_I M 20 (am + 12) (4 * i + 2) = nI x.2.2.1 ∧ zm_I M 20 (am + 12) (4 * i + 3) = nI x.2.2.2
theorem md_zf {am : Nat} {F A : List Nat} {M M' : zM} {D : List yT} (h : md_x am M D) (hf : zf (mg am F A) M M') (h0 : ¬ 20 ∈ F) (hA : ¬ 12 ∈ A) : md_x am M' D := by
  refine ⟨?_, ?_⟩
  · rw [mg_f hf h0]
    exact h.1
  · intro i x hx
    rw [mg_a hf (by decide) hA, mg_a hf (by decide) hA, mg_a hf (by decide) hA, mg_a hf (by decide) hA]
    exact h.2 i x hx
def py_ro (R : Nat) (Ps : Nat → yP) (x : Nat) : Option Nat := (List.range' 0 R).find? (fun r => py_le (Ps r) == x)
/-- right (1), wrong (0), its rule isn't sure (2); place, what could come, end -/
abbrev yH : Type := Nat × Option Nat × Int32 × Bool
def py_he (R : Nat) (Ps : Nat → yP) (D : List yT) (t : Nat) (x : Nat) : yH := match py_ro R Ps x with
  | none => if (py_kl D t).length = 0 then (1, none, 0, false) else (0, some 0, 0, true)
  | some r => if py_sure (Ps r) then (if (py_rn (Ps r) (py_kl D t) py_s00).1.length = (py_kl D t).length ∧ py_ce (Ps r) (py_rn (Ps r) (py_kl D t) py_s00).2 = true then (1, none, 0, false) else (0, some (py_rn (Ps r) (py_kl D t) py_s00).1.length, zor (py_cc (Ps r) (py_rn (Ps r) (py_kl D t) py_s00).2), py_ce (Ps r) (py_rn (Ps r) (py_kl D t) py_s00).2)) else (2, none, 0, false)
def mh_W (am : Nat) : Nat → Nat → Nat → Prop := mg am [26, 35, 36, 57, 58, 59] [14, 15, 16, 17, 23, 24, 25, 26]
def mh_x (am : Nat) (M : zM) (h : yH) : Prop := zm_I M 12 am 57 = zo h.2.1 ∧ zm_I M 12 am 58 = h.2.2.1 ∧ zm_I M 12 am 59 = zb h.2.2.2
def py_le26 (R : Nat) (Ps : Nat → yP) : Prop := ∀ r, r < R → py_le (Ps r) < 26
section
variable {am R d : Nat} {M : zM} {Ps : Nat → yP} {D : List yT}
theorem mx_41 (n : Nat) : 4 * nI n = nI (4 * n) := pk_mul 4 n
theorem mr_isIn (a b c : Int64) : mo_isIn d a b c M = some (zb (decide (b ≤ a ∧ a ≤ c)), M) := by
  unfold mo_isIn
  have h1 : (lg_cmp a b < 0) ↔ ¬ b ≤ a := by
    rw [← lg_cmp_ge a b, Int32.not_le]
  have h2 : (0 < lg_cmp a c) ↔ ¬ a ≤ c := by
    rw [← lg_cmp_le a c, Int32.not_le]
  simp only [h1, h2]
  by_cases q1 : b ≤ a
  · by_cases q2 : a ≤ c
    · simp [q1, q2, mo_isIn_18, zb]
    · simp [q1, q2, mo_isIn_17, mo_isIn_18, zb]
  · simp [q1, mo_isIn_17, mo_isIn_18, zb]
theorem mr_isInN {x : Int32} {n : Nat} (hn : n < 2 ^ 30) : mo_isIn d x.toInt64 0 ((nI n - 1).toInt64) M = some (zb (zin x n).isSome, M) := by
  rw [mr_isIn]
  have key : (0 ≤ x.toInt64 ∧ x.toInt64 ≤ (nI n - 1).toInt64) ↔ (0 ≤ x ∧ x < nI n) := by
    rw [Int64.le_iff_toInt_le, Int64.le_iff_toInt_le, Int32.toInt_toInt64, Int32.toInt_toInt64, fa_le, fa_lt, nI_toInt (by omega)]
    have h1 : (nI n - 1).toInt = (n : Int) - 1 := pk_sub_toInt (a := n) (b := 1) (by omega) (by omega)
    have h0 : ((0 : Int64)).toInt = 0 := by decide
    have h0' : ((0 : Int32)).toInt = 0 := by decide
    rw [h1, h0, h0']
    omega
  unfold zin
  by_cases q : 0 ≤ x ∧ x < nI n
  · rw [if_pos q, decide_eq_true (key.mpr q)]
    rfl
  · rw [if_neg q, decide_eq_false (fun y => q (key.mp y))]
    rfl
theorem mr_ruleOf_2 (h : mt_ok am M R Ps) (hle : py_le26 R Ps) {t : Nat} {x : yT} (hD : md_x am M D) (hx : D[t]? = some x) (ht : t < 60) (hx26 : x.1 < 26) : ∀ (m r : Nat), r + m = R → ∀ fuel, m < fuel → mo_ruleOf_2 d fuel am (nI t) (nI r) M = some (zo ((List.range' r m).find? (fun r => py_le (Ps r) == x.1)), M) := by
  have hR := h.2.1
  intro m
  induction m with
  | zero =>
    intro r hr fuel hf
    cases fuel with
    | zero => cases hf
    | succ fuel =>
      have : r = R := by omega
      subst this
      simp [mo_ruleOf_2, mo_ruleOf_33, mo_ruleOf_46, h.1, zo]
  | succ m ih =>
    intro r hr fuel hf
    cases fuel with
    | zero => cases hf
    | succ fuel =>
      have hge : ¬ nI R ≤ nI r := nI_ge (by omega) (by omega)
      have hp := h.2.2.2 r (by omega)
      have hz : z_in (nI (4 * t)) 240 := nI_in (by omega) (by omega)
      have hlr := hle r (by omega)
      have ih' := ih (r + 1) (by omega) fuel (by omega)
      have ev : (nI (py_le (Ps r)) = nI x.1) ↔ py_le (Ps r) = x.1 := nI_eq (by omega) (by omega)
      rw [List.range'_succ, List.find?_cons]
      simp only [mo_ruleOf_2, h.1, if_neg hge, mr_le hp, Option.bind_some, ml_R18 h.2.2.1, ml_L18 h.2.2.1, mx_41, if_pos hz, nI_clamp (show 4 * t < 2 ^ 31 by omega), (hD.2 t x hx).1, ev]
      by_cases q : py_le (Ps r) = x.1
      · have eq : (py_le (Ps r) == x.1) = true := by simpa using q
        rw [if_pos q, eq]
        simp [mo_ruleOf_33, mo_ruleOf_46, h.1, hge, zo]
      · have eq : (py_le (Ps r) == x.1) = false := by simpa using q
        rw [if_neg q, eq]
        simp only [zlet, nI_1, ih']
theorem mr_ruleOf (h : mt_ok am M R Ps) (hd : 0 < d) (hle : py_le26 R Ps) {t : Nat} {x : yT} (hD : md_x am M D) (hx : D[t]? = some x) (ht : t < 60) (hx26 : x.1 < 26) : mo_ruleOf d am (nI t) M = some (zo (py_ro R Ps x.1), M) := by
  have hLF := pb_LF
  have hR := h.2.1
  obtain ⟨d, rfl⟩ : ∃ d', d = d' + 1 := ⟨d - 1, by omega⟩
  show mo_ruleOf_b d am (nI t) M = _
  unfold mo_ruleOf_b
  exact mr_ruleOf_2 (d := d) h hle hD hx ht hx26 R 0 (by omega) zLF (by omega)
/-- the letters of what a thing holds come to the row -/
theorem mr_held_26 (hDk : do_ok D) {t : Nat} (ht : t < 60) (v2 : Int32) {L : List Nat} (hL : py_kl D t = L) (hL24 : L.length ≤ 24) : ∀ (b a : List yT) (M : zM), D = a ++ b → ml_ok am M → md_x am M D → ma_x am M 24 ((a.filter (fun x => x.2.1 == some t)).map (fun x => x.1)) → ∀ fuel, b.length < fuel → ∃ M' f', mo_held_26 d fuel am (nI t) v2 (nI ((a.filter (fun x => x.2.1 == some t)).map (fun x => x.1)).length) (nI a.length) M = mo_held_26 d (f' + 1) am (nI t) v2 (nI L.length) (nI D.length) M' ∧ ma_x am M' 24 L ∧ zf (mg am [] [24]) M M' := by
  have h60 := hDk.1
  intro b
  induction b with
  | nil =>
    intro a M e hl hD hma fuel hf
    rw [List.append_nil] at e
    subst e
    cases fuel with
    | zero => cases hf
    | succ fuel =>
      have eL : (D.filter (fun x => x.2.1 == some t)).map (fun x => x.1) = L := hL
      rw [eL] at hma ⊢
      exact ⟨M, fuel, rfl, hma, zf_refl _ _⟩
  | cons x b ih =>
    intro a M e hl hD hma fuel hf
    have hal : D.length = a.length + (b.length + 1) := by rw [e]; simp
    have hxD : D[a.length]? = some x := by rw [e]; simp
    have hx := hD.2 _ _ hxD
    have hxo := hDk.2 _ _ hxD
    cases fuel with
    | zero => cases hf
    | succ fuel =>
      have hge : ¬ nI D.length ≤ nI a.length := nI_ge (by omega) (by omega)
      have hz1 : z_in (nI (4 * a.length + 1)) 240 := nI_in (by omega) (by omega)
      have hz0 : z_in (nI (4 * a.length)) 240 := nI_in (by omega) (by omega)
      have ev : (zo x.2.1 = nI t) ↔ x.2.1 = some t := by
        cases hp : x.2.1 with
        | none =>
          constructor
          · intro y
            exact absurd y.symm (pb_ne1 (by omega))
          · intro y
            cases y
        | some p =>
          have := hxo.2.1 p hp
          rw [pb_zos, nI_eq (by omega) (by omega)]
          simp
      have e0 : mo_held_26 d (fuel + 1) am (nI t) v2 (nI ((a.filter (fun x => x.2.1 == some t)).map (fun x => x.1)).length) (nI a.length) M = if x.2.1 = some t then (if z_in (nI ((a.filter (fun x => x.2.1 == some t)).map (fun x => x.1)).length) 26 then mo_held_26 d fuel am (nI t) v2 (nI ((a.filter (fun x => x.2.1 == some t)).map (fun x => x.1)).length + 1) (nI (a.length + 1)) (zm_setI M 20 (am + 24) (nI ((a.filter (fun x => x.2.1 == some t)).map (fun x => x.1)).length).toNatClampNeg (nI x.1)) else none) else mo_held_26 d fuel am (nI t) v2 (nI ((a.filter (fun x => x.2.1 == some t)).map (fun x => x.1)).length) (nI (a.length + 1)) M := by
        simp only [mo_held_26, hD.1, if_neg hge, ml_R18 hl, ml_L18 hl, mx_41, nI_1, if_pos hz1, if_pos hz0, nI_clamp (show 4 * a.length + 1 < 2 ^ 31 by omega), nI_clamp (show 4 * a.length < 2 ^ 31 by omega), hx.1, hx.2.1, ev, ml_R37 hl, ml_L37 hl, zlet, mo_held_71]
      have ef : ((a ++ [x]).filter (fun x => x.2.1 == some t)).map (fun x => x.1) = (a.filter (fun x => x.2.1 == some t)).map (fun x => x.1) ++ (if x.2.1 = some t then [x.1] else []) := by
        rw [List.filter_append, List.map_append]
        congr 1
        by_cases q : x.2.1 = some t
        · simp [q]
        · simp [q]
      rw [e0]
      generalize hA : (a.filter (fun x => x.2.1 == some t)).map (fun x => x.1) = A at *
      by_cases q : x.2.1 = some t
      · rw [if_pos q] at ef ⊢
        have hAl : A.length < 24 := by
          have e1 : L = (a.filter (fun x => x.2.1 == some t)).map (fun x => x.1) ++ (((x :: b).filter (fun x => x.2.1 == some t)).map (fun x => x.1)) := by
            rw [← hL, py_kl, e, List.filter_append, List.map_append]
          rw [hA, List.filter_cons] at e1
          have eq : (x.2.1 == some t) = true := by simpa using q
          rw [eq] at e1
          have e2 := congrArg List.length e1
          simp at e2
          omega
        have hz : z_in (nI A.length) 26 := nI_in (by omega) (by omega)
        have hfz : zf (mg am [] [24]) M (zm_setI M 20 (am + 24) A.length (nI x.1)) := zf_set (.inr ⟨.inl rfl, 24, by simp, rfl⟩)
        have hma' : ma_x am (zm_setI M 20 (am + 24) A.length (nI x.1)) 24 (A ++ [x.1]) := by
          refine ⟨?_, ?_⟩
          · intro i y hy
            by_cases ei : i < A.length
            · rw [List.getElem?_append_left ei] at hy
              rw [pm_ne (by omega)]
              exact hma.1 i y hy
            · have e2 : i = A.length := by
                have := (List.getElem?_eq_some_iff.mp hy).1
                simp at this
                omega
              subst e2
              simp at hy
              subst hy
              rw [pm_same]
          · intro y hy
            rcases List.mem_append.mp hy with z | z
            · exact hma.2 y z
            · have : y = x.1 := by simpa using z
              rw [this]
              exact hxo.1
        rw [if_pos hz, nI_clamp (by omega), nI_1]
        obtain ⟨M', f', g1, g2, g3⟩ := ih (a ++ [x]) _ (by rw [e]; simp) (ml_zf hl hfz) (md_zf hD hfz (by simp) (by simp)) (by rw [ef]; exact hma') fuel (by simp at hf; omega)
        rw [ef] at g1
        simp only [List.length_append, List.length_cons, List.length_nil, Nat.zero_add] at g1
        exact ⟨M', f', g1, g2, zf_trans hfz g3⟩
      · rw [if_neg q] at ef ⊢
        rw [List.append_nil] at ef
        obtain ⟨M', f', g1, g2, g3⟩ := ih (a ++ [x]) M (by rw [e]; simp) hl hD (by rw [ef]; exact hma) fuel (by simp at hf; omega)
        rw [ef] at g1
        simp only [List.length_append, List.length_cons, List.length_nil, Nat.zero_add] at g1
        exact ⟨M', f', g1, g2, g3⟩
theorem mr_held (h : mt_ok am M R Ps) (hle : py_le26 R Ps) (hDk : do_ok D) (hD : md_x am M D) (hd : 39 ≤ d) {t : Nat} {x : yT} (hx : D[t]? = some x) : ∃ M', mo_held d am (nI t) M = some (nI (py_he R Ps D t x.1).1, M') ∧ mh_x am M' (py_he R Ps D t x.1) ∧ zf (mh_W am) M M' := by
  have hLF := pb_LF
  have h60 := hDk.1
  have htl := (List.getElem?_eq_some_iff.mp hx).1
  have hxo := hDk.2 t x hx
  obtain ⟨d, rfl⟩ : ∃ d', d = d' + 1 := ⟨d - 1, by omega⟩
  have hfz : zf (mg am [57, 58, 59] []) M (zm_setI (zm_setI (zm_setI M 12 am 57 (-1)) 12 am 58 0) 12 am 59 0) := zf_trans (zf_set (.inl ⟨rfl, rfl, by simp⟩)) (zf_trans (zf_set (.inl ⟨rfl, rfl, by simp⟩)) (zf_set (.inl ⟨rfl, rfl, by simp⟩)))
  have hs0 : mh_x am (zm_setI (zm_setI (zm_setI M 12 am 57 (-1)) 12 am 58 0) 12 am 59 0) (1, none, 0, false) := by
    refine ⟨?_, ?_, ?_⟩
    · rw [pm_ne (by omega), pm_ne (by omega), pm_same]
      rfl
    · rw [pm_ne (by omega), pm_same]
    · rw [pm_same]
      rfl
  generalize hM0 : zm_setI (zm_setI (zm_setI M 12 am 57 (-1)) 12 am 58 0) 12 am 59 0 = M0 at *
  have h0 := mt_zf2 h hfz (by simp) (by simp)
  have hD0 := md_zf hD hfz (by simp) (by simp)
  have hro := mr_ruleOf (d := d) h0 (by omega) hle hD0 hx (by omega) hxo.1
  have hkl : (py_kl D t).length ≤ 24 := by
    have := hxo.2.2
    omega
  obtain ⟨M1, f', g1, g2, g3⟩ := mr_held_26 (am := am) (d := d) hDk (t := t) (by omega) (zo (py_ro R Ps x.1)) (L := py_kl D t) rfl hkl D [] M0 rfl h0.2.2.1 hD0 ⟨by intro i y hy; simp at hy, by intro y hy; simp at hy⟩ zLF (by omega)
  have h1 := mt_zf2 h0 g3 (by simp) (by simp)
  have hD1 := md_zf hD0 g3 (by simp) (by simp)
  have hf1 : zf (mh_W am) M M1 := zf_trans (zf_mono hfz (mg_mono (by simp) (by simp))) (zf_mono g3 (mg_mono (by simp) (by simp)))
  have hs1 : mh_x am M1 (1, none, 0, false) := by
    refine ⟨?_, ?_, ?_⟩
    · rw [mg_f g3 (by simp)]; exact hs0.1
    · rw [mg_f g3 (by simp)]; exact hs0.2.1
    · rw [mg_f g3 (by simp)]; exact hs0.2.2
  show ∃ M', mo_held_b d am (nI t) M = _ ∧ _
  have e0 : mo_held_b d am (nI t) M = mo_held_26 d (f' + 1) am (nI t) (zo (py_ro R Ps x.1)) (nI (py_kl D t).length) (nI D.length) M1 := by
    rw [← g1]
    unfold mo_held_b
    simp only [zlet, hM0, hro, Option.bind_some]
    rfl
  rw [e0]
  have hle2 : nI D.length ≤ nI D.length := Int32.le_refl _
  /- the wrong ones: place, end, what could come -/
  unfold py_he
  cases hr : py_ro R Ps x.1 with
  | none =>
    simp only [mo_held_26, hD1.1, if_pos hle2, pb_zon, if_true, mo_held_92, mo_held_111, mo_held_127, mo_held_132]
    by_cases q : (py_kl D t).length = 0
    · rw [if_pos q, q, if_pos (by rfl)]
      exact ⟨M1, rfl, hs1, hf1⟩
    · have hq : ¬ (0 : Int32) = nI (py_kl D t).length := fun y => nI_ne0 (by omega) (by omega) y.symm
      rw [if_neg hq, if_neg q]
      refine ⟨zm_setI (zm_setI (zm_setI M1 12 am 57 0) 12 am 59 1) 12 am 58 0, ?_, ⟨?_, ?_, ?_⟩, zf_trans hf1 (zf_trans (zf_set (.inl ⟨rfl, rfl, by simp⟩)) (zf_trans (zf_set (.inl ⟨rfl, rfl, by simp⟩)) (zf_set (.inl ⟨rfl, rfl, by simp⟩))))⟩
      · simp [mo_held_147, mo_held_175, zlet, pb_n0]
      · rw [pm_ne (by omega), pm_ne (by omega), pm_same]
        rfl
      · rw [pm_same]
      · rw [pm_ne (by omega), pm_same]
        rfl
  | some r =>
    have hrR : r < R := by
      have := List.mem_of_find?_eq_some hr
      simp at this
      omega
    have hR8 := h.2.1
    have hp := h1.2.2.2 r hrR
    have hne : ¬ nI r = -1 := pb_ne1 (by omega)
    obtain ⟨M2, e1, e2⟩ := mr_isSure (d := d) hp (by omega)
    have hf2 : zf (mh_W am) M M2 := zf_trans hf1 (zf_mono e2 (mg_mono (by simp) (by simp)))
    have hs2 : mh_x am M2 (1, none, 0, false) := by
      refine ⟨?_, ?_, ?_⟩
      · rw [mg_f e2 (by simp)]; exact hs1.1
      · rw [mg_f e2 (by simp)]; exact hs1.2.1
      · rw [mg_f e2 (by simp)]; exact hs1.2.2
    simp only [mo_held_26, hD1.1, if_pos hle2, pb_zos, if_neg hne, e1, Option.bind_some]
    cases hsu : py_sure (Ps r)
    · simp only [pb_zbf, if_true, Bool.false_eq_true, if_false]
      exact ⟨M2, rfl, hs2, hf2⟩
    · rw [pb_zbt, if_neg (by decide)]
      simp only [if_true]
      have hp2 := mp_W hp e2
      obtain ⟨M3, k1, k2, k3, k4⟩ := mr_goesThrough (d := d) (ia := 24) (L := 26) (letters := py_kl D t) hp2 (by omega) (by simp) (by omega) (by omega) (ma_mg g2 e2 (by simp)) (ml_L37 hp2.2.1)
      have hp3 := mp_zf hp2 k4 (by simp)
      have hf3 : zf (mh_W am) M M3 := zf_trans hf2 (zf_mono k4 (mg_mono (by simp) (by simp)))
      have hs3 : mh_x am M3 (1, none, 0, false) := by
        refine ⟨?_, ?_, ?_⟩
        · rw [mg_f k4 (by simp)]; exact hs2.1
        · rw [mg_f k4 (by simp)]; exact hs2.2.1
        · rw [mg_f k4 (by simp)]; exact hs2.2.2
      have hb := sw_of (rn_b (h.2.2.2 r hrR).1 (py_kl D t) py_s00 0 s00_b) (by omega)
      have hce := mr_canEnd (d := d) (w := 0) hp3 (by omega) k2 hb (by omega)
      have hce' : mo_canEnd d am (nI r) 0 M3 = _ := hce
      have hrl := rn_len (P := Ps r) (py_kl D t) py_s00
      generalize hg : py_rn (Ps r) (py_kl D t) py_s00 = g at *
      have epl : (nI g.1.length = nI (py_kl D t).length) ↔ g.1.length = (py_kl D t).length := nI_eq (by omega) (by omega)
      have e147 : ∀ b : Bool, ∃ M', mo_held_147 d am (nI r) (nI g.1.length) (zb b) M3 = some (0, M') ∧ mh_x am M' (0, some g.1.length, zor (py_cc (Ps r) g.2), b) ∧ zf (mh_W am) M M' := by
        intro b
        have hfa : zf (mg am [57, 59] []) M3 (zm_setI (zm_setI M3 12 am 57 (nI g.1.length)) 12 am 59 (zb b)) := zf_trans (zf_set (.inl ⟨rfl, rfl, by simp⟩)) (zf_set (.inl ⟨rfl, rfl, by simp⟩))
        obtain ⟨M4, l1, l2⟩ := mr_couldCome (d := d) (w := 0) (mp_zf hp3 hfa (by simp)) (by omega) (mk_mg k2 hfa (by simp)) hb (by omega)
        have l1' : mo_couldCome d am (nI r) 0 _ = _ := l1
        refine ⟨zm_setI M4 12 am 58 (zor (py_cc (Ps r) g.2)), ?_, ⟨?_, ?_, ?_⟩, zf_trans hf3 (zf_trans (zf_mono hfa (mg_mono (by simp) (by simp))) (zf_trans (zf_mono l2 (mg_mono (by simp) (by simp))) (zf_set (.inl ⟨rfl, rfl, by simp⟩))))⟩
        · unfold mo_held_147
          simp only [zlet, if_pos (pb_zb b), if_neg hne, l1', Option.bind_some, mo_held_175]
        · rw [pm_ne (by omega), mg_f l2 (by simp), pm_ne (by omega), pm_same]
          rfl
        · rw [pm_same]
        · rw [pm_ne (by omega), mg_f l2 (by simp), pm_same]
      simp only [mo_held_92, if_neg hne, ml_R37 hp2.2.1, k1, Option.bind_some, mo_held_111, hce']
      cases hcc : py_ce (Ps r) g.2
      · simp only [pb_zbf, if_true, mo_held_132, epl, Bool.false_eq_true, and_false, if_false]
        have e9 := e147 false
        rw [pb_zbf] at e9
        obtain ⟨M4, l1, l2, l3⟩ := e9
        refine ⟨M4, ?_, l2, l3⟩
        by_cases q : g.1.length = (py_kl D t).length
        · rw [if_pos q, l1]
          rfl
        · rw [if_neg q, l1]
          rfl
      · rw [pb_zbt, if_neg (by decide)]
        simp only [mo_held_127, mo_held_132, epl, and_true]
        by_cases q : g.1.length = (py_kl D t).length
        · rw [if_pos q, if_pos q, if_neg (by decide)]
          exact ⟨M3, rfl, hs3, hf3⟩
        · rw [if_neg q, if_neg q]
          have e9 := e147 true
          rw [pb_zbt] at e9
          obtain ⟨M4, l1, l2, l3⟩ := e9
          exact ⟨M4, l1, l2, l3⟩
end
