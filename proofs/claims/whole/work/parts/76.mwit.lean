/-! THE MODEL: the witness -/
def py_oi (o : Option Nat) : Nat := match o with
  | none => 0
  | some n => n + 1
/-- the best so far: behind, the lower way, the higher one, letters -/
abbrev yB : Type := Option Nat × (Nat × Option Nat) × (Nat × Option Nat) × List Nat
def py_key (b : yB) : List Nat := [py_oi b.1, b.2.1.1, py_oi b.2.1.2, b.2.2.1.1, py_oi b.2.2.1.2]
def py_btr (x : Option yB) (y : yB) : Bool := match x with
  | none => true
  | some b => py_ls y.2.2.2 b.2.2.2 || (y.2.2.2 == b.2.2.2 && py_lex (py_key y) (py_key b))
def py_tx (P : yP) (p : Option Nat) (V W : yW) : List Nat := match p with
  | none => []
  | some o => py_ad P V W (py_lf P o) ++ [py_lt P o]
def py_sw (V W : yW) : Bool := decide (W.1 < V.1) || (V.1 == W.1 && decide (py_oi W.2.1 < py_oi V.2.1))
def py_new (P : yP) (p : Option Nat) (V W : yW) : yB := if py_sw V W then (p, (W.1, W.2.1), (V.1, V.2.1), py_tx P p V W) else (p, (V.1, V.2.1), (W.1, W.2.1), py_tx P p V W)
def py_try (P : yP) (p : Option Nat) (x : Option yB) (V W : yW) : Option yB := if py_btr x (py_new P p V W) then some (py_new P p V W) else x
def py_pf {β : Type} (F : β → yW → yW → β) : List yW → List yW → β → β
  | _, [], b => b
  | pre, V :: t, b => py_pf F (pre ++ [V]) t (pre.foldl (fun b W => F b V W) b)
def py_fw1 (P : yP) (unc : Bool) (p : Option Nat) (x : Option yB) (V W : yW) : Option yB := if py_cf1 P unc p V W then py_try P p x V W else x
def py_fws (P : yP) (unc : Bool) : List Nat → Option yB → Option yB
  | [], x => x
  | k :: l, x => py_fws P unc l (py_pf (py_fw1 P unc (py_po k)) [] (py_ways P (py_po k)) x)
def py_fw (P : yP) (unc : Bool) : Option yB := py_fws P unc (List.range' 0 (py_nl P + 1)) none
def mb_x (am : Nat) (M : zM) (x : Option yB) : Prop := match x with
  | none => zm_I M 20 (am + 21) 5 = -1
  | some b => zm_I M 20 (am + 21) 0 = zo b.1 ∧ zm_I M 20 (am + 21) 1 = nI b.2.1.1 ∧ zm_I M 20 (am + 21) 2 = zo b.2.1.2 ∧ zm_I M 20 (am + 21) 3 = nI b.2.2.1.1 ∧ zm_I M 20 (am + 21) 4 = zo b.2.2.1.2 ∧ zm_I M 20 (am + 21) 5 = nI b.2.2.2.length ∧ (∀ i x, b.2.2.2[i]? = some x → zm_I M 22 (am + 22) i = nI x) ∧ b.2.2.2.length ≤ 12000 ∧ (∀ x, x ∈ b.2.2.2 → x < 26) ∧ b.2.1.1 < 16 ∧ b.2.2.1.1 < 16 ∧ py_oi b.1 ≤ 16 ∧ py_oi b.2.1.2 ≤ 16 ∧ py_oi b.2.2.1.2 ≤ 16
theorem oi_lt {a b : Option Nat} (ha : py_oi a ≤ 16) (hb : py_oi b ≤ 16) : zo b ≤ zo a ↔ ¬ py_oi a < py_oi b := by
  cases a with
  | none =>
    cases b with
    | none => simp [py_oi, zo]
    | some n =>
      simp only [py_oi, zo] at *
      constructor
      · intro x
        exfalso
        rw [fa_le, nI_toInt (by omega)] at x
        have : ((-1 : Int32)).toInt = -1 := by decide
        omega
      · intro x; omega
  | some m =>
    cases b with
    | none =>
      simp only [py_oi, zo] at *
      constructor
      · intro _; omega
      · intro _
        rw [fa_le, nI_toInt (by omega)]
        have : ((-1 : Int32)).toInt = -1 := by decide
        omega
    | some n =>
      simp only [py_oi, zo] at *
      rw [nI_leI (by omega) (by omega)]
      omega
theorem oi_eq {a b : Option Nat} (ha : py_oi a ≤ 16) (hb : py_oi b ≤ 16) : zo a = zo b ↔ py_oi a = py_oi b := by
  constructor
  · intro x
    have h1 := (oi_lt ha hb).mp (by rw [x]; exact Int32.le_refl _)
    have h2 := (oi_lt hb ha).mp (by rw [x]; exact Int32.le_refl _)
    omega
  · intro x
    cases a <;> cases b <;> simp [py_oi] at x <;> simp [x]
section
variable {am r d : Nat} {M : zM} {P : yP}
/-- the rest of the comparison: by numbers -/
theorem mr_isBetter_55 (hl : ml_ok am M) {l : List yW} {v w : Nat} {V W : yW} (hw : mw_has am M l) (hv : l[v]? = some V) (hw2 : l[w]? = some W) {b : yB} {p : Option Nat} {t : List Nat} (hb : mb_x am M (some b)) (hx : mt_x am M t) (hlt : t.length = b.2.2.2.length) (hp : py_oi p ≤ 16) (hV1 : V.1 < 16) (hW1 : W.1 < 16) (hV2 : py_oi V.2.1 ≤ 16) (hW2 : py_oi W.2.1 ≤ 16) : ∀ (m k : Nat), k + m = t.length → ∀ fuel, m < fuel → mo_isBetter_55 d fuel am (zo p) (nI v) (nI w) (nI k) M = some (zb (if t.drop k = b.2.2.2.drop k then py_lex (py_key (p, (V.1, V.2.1), (W.1, W.2.1), t)) (py_key b) else py_lex (t.drop k) (b.2.2.2.drop k)), M) := by
  obtain ⟨b0, b1, b2, b3, b4, b5, b6, b7, b8, b9, b10, b11, b12, b13⟩ := hb
  have hv1 := mw_lt hw hv
  have hw1 := mw_lt hw hw2
  have hz : z_in (nI v) 128 := nI_in (by omega) (by omega)
  have hz2 : z_in (nI w) 128 := nI_in (by omega) (by omega)
  have hVV := hw.2.2 v V hv
  have hWW := hw.2.2 w W hw2
  have i0 : z_in 0 7 := by decide
  have i1 : z_in 1 7 := by decide
  have i2 : z_in 2 7 := by decide
  have i3 : z_in 3 7 := by decide
  have i4 : z_in 4 7 := by decide
  have c0 : (0 : Int32).toNatClampNeg = 0 := by decide
  have c1 : (1 : Int32).toNatClampNeg = 1 := by decide
  have c2 : (2 : Int32).toNatClampNeg = 2 := by decide
  have c3 : (3 : Int32).toNatClampNeg = 3 := by decide
  have c4 : (4 : Int32).toNatClampNeg = 4 := by decide
  intro m
  induction m with
  | zero =>
    intro k hk fuel hf
    cases fuel with
    | zero => cases hf
    | succ fuel =>
      have e1 : t.drop k = [] := List.drop_eq_nil_of_le (by omega)
      have e2 : b.2.2.2.drop k = [] := List.drop_eq_nil_of_le (by omega)
      have hle : nI t.length ≤ nI k := nI_le (by omega) (by have := hx.2.1; omega)
      rw [e1, e2, if_pos rfl]
      simp only [mo_isBetter_55, hx.1, if_pos hle, ml_R32 hl, ml_L32 hl, ml_R22 hl, ml_L22 hl, ml_R23 hl, ml_L23 hl, if_pos hz, if_pos hz2, if_pos i0, if_pos i1, if_pos i2, if_pos i3, if_pos i4, c0, c1, c2, c3, c4, b0, b1, b2, b3, b4, nI_clamp (show v < 2 ^ 31 by omega), nI_clamp (show w < 2 ^ 31 by omega), hVV.1, hVV.2.1, hWW.1, hWW.2.1, oi_eq hp b11, nI_eq (show V.1 < 2 ^ 31 by omega) (show b.2.1.1 < 2 ^ 31 by omega), nI_eq (show W.1 < 2 ^ 31 by omega) (show b.2.2.1.1 < 2 ^ 31 by omega), oi_eq hV2 b12, nI_leI (show b.2.1.1 < 2 ^ 31 by omega) (show V.1 < 2 ^ 31 by omega), nI_leI (show b.2.2.1.1 < 2 ^ 31 by omega) (show W.1 < 2 ^ 31 by omega), oi_lt hp b11, oi_lt hV2 b12, oi_lt hW2 b13]
      unfold py_key
      simp only [py_lex]
      by_cases q0 : py_oi p = py_oi b.1
      · rw [if_pos q0, if_pos q0]
        by_cases q1 : V.1 = b.2.1.1
        · rw [if_pos q1, if_pos q1]
          by_cases q2 : py_oi V.2.1 = py_oi b.2.1.2
          · rw [if_pos q2, if_pos q2]
            by_cases q3 : W.1 = b.2.2.1.1
            · rw [if_pos q3, if_pos q3]
              by_cases q4 : py_oi W.2.1 < py_oi b.2.2.1.2
              · have q5 : ¬ py_oi W.2.1 = py_oi b.2.2.1.2 := by omega
                simp [q4, q5, mo_isBetter_266, zb]
              · by_cases q5 : py_oi W.2.1 = py_oi b.2.2.1.2
                · simp [q5, mo_isBetter_266, zb]
                · simp [q4, q5, mo_isBetter_266, zb]
            · rw [if_neg q3, if_neg q3]
              by_cases q4 : W.1 < b.2.2.1.1
              · have q5 : ¬ b.2.2.1.1 ≤ W.1 := by omega
                simp [q4, q5, mo_isBetter_266, zb]
              · have q5 : b.2.2.1.1 ≤ W.1 := by omega
                simp [q4, q5, mo_isBetter_266, zb]
          · rw [if_neg q2, if_neg q2]
            by_cases q4 : py_oi V.2.1 < py_oi b.2.1.2
            · simp [q4, mo_isBetter_207, zb]
            · simp [q4, mo_isBetter_207, zb]
        · rw [if_neg q1, if_neg q1]
          by_cases q4 : V.1 < b.2.1.1
          · have q5 : ¬ b.2.1.1 ≤ V.1 := by omega
            simp [q4, q5, mo_isBetter_171, zb]
          · have q5 : b.2.1.1 ≤ V.1 := by omega
            simp [q4, q5, mo_isBetter_171, zb]
      · rw [if_neg q0, if_neg q0]
        by_cases q4 : py_oi p < py_oi b.1
        · simp [q4, mo_isBetter_135, zb]
        · simp [q4, mo_isBetter_135, zb]
  | succ m ih =>
    intro k hk fuel hf
    cases fuel with
    | zero => cases hf
    | succ fuel =>
      have h12 := hx.2.1
      have ih' := ih (k + 1) (by omega) fuel (by omega)
      have hkl : k < t.length := by omega
      have hkb : k < b.2.2.2.length := by omega
      have hge : ¬ nI t.length ≤ nI k := nI_ge (by omega) (by omega)
      have hzk : z_in (nI k) 12000 := nI_in (by omega) (by omega)
      have d1 : t.drop k = t[k] :: t.drop (k + 1) := List.drop_eq_getElem_cons hkl
      have d2 : b.2.2.2.drop k = b.2.2.2[k] :: b.2.2.2.drop (k + 1) := List.drop_eq_getElem_cons hkb
      have hX := hx.2.2.1 k t[k] (by simp)
      have hY := b6 k b.2.2.2[k] (by simp)
      have hX6 := hx.2.2.2 t[k] (by simp)
      have hY6 := b8 b.2.2.2[k] (by simp)
      rw [d1, d2]
      generalize t[k] = X at *
      generalize b.2.2.2[k] = Y at *
      by_cases q : X = Y
      · subst q
        simp only [List.cons.injEq, true_and, py_lex, if_true]
        rw [← ih']
        simp only [mo_isBetter_55, hx.1, if_neg hge, ml_R27 hl, ml_L27 hl, ml_R33 hl, ml_L33 hl, if_pos hzk, nI_clamp (show k < 2 ^ 31 by omega), hX, hY, if_true, zlet, nI_1]
      · have hq : ¬ nI X = nI Y := fun e => q ((nI_eq (by omega) (by omega)).mp e)
        have hne : ¬ (X :: t.drop (k + 1) = Y :: b.2.2.2.drop (k + 1)) := fun e => q (by injection e)
        rw [if_neg hne]
        simp only [mo_isBetter_55, hx.1, if_neg hge, ml_R27 hl, ml_L27 hl, ml_R33 hl, ml_L33 hl, if_pos hzk, nI_clamp (show k < 2 ^ 31 by omega), hX, hY, if_neg hq, py_lex, if_neg q]
        by_cases q2 : X < Y
        · rw [if_neg (nI_ge q2 (by omega))]
          simp [q2, mo_isBetter_103, zb]
        · rw [if_pos (nI_le (by omega) (by omega))]
          simp [q2, mo_isBetter_103, zb]
theorem mr_isBetter (hl : ml_ok am M) {l : List yW} {v w : Nat} {V W : yW} (hw : mw_has am M l) (hv : l[v]? = some V) (hw2 : l[w]? = some W) {x : Option yB} {p : Option Nat} {t : List Nat} (hb : mb_x am M x) (hx : mt_x am M t) (hp : py_oi p ≤ 16) (hV1 : V.1 < 16) (hW1 : W.1 < 16) (hV2 : py_oi V.2.1 ≤ 16) (hW2 : py_oi W.2.1 ≤ 16) : mo_isBetter d am (zo p) (nI v) (nI w) M = some (zb (py_btr x (p, (V.1, V.2.1), (W.1, W.2.1), t)), M) := by
  have i5 : z_in 5 7 := by decide
  have c5 : (5 : Int32).toNatClampNeg = 5 := by decide
  have h12 := hx.2.1
  unfold mo_isBetter
  cases x with
  | none =>
    have hb' : zm_I M 20 (am + 21) 5 = -1 := hb
    simp only [ml_R32 hl, ml_L32 hl, if_pos i5, c5, hb', if_true, mo_isBetter_23, mo_isBetter_46, mo_isBetter_51, py_btr]
    simp [zb]
  | some b =>
    have hb' := hb
    obtain ⟨b0, b1, b2, b3, b4, b5, b6, b7, b8, b9, b10, b11, b12, b13⟩ := hb'
    have hne : ¬ nI b.2.2.2.length = -1 := pb_ne1 (by omega)
    simp only [ml_R32 hl, ml_L32 hl, if_pos i5, c5, b5, if_neg hne, hx.1, mo_isBetter_23]
    unfold py_btr py_ls
    by_cases q : t.length = b.2.2.2.length
    · have hLF : 12000 < zLF := by unfold zLF; exact Nat.lt_of_sub_pos (Nat.pos_of_ne_zero (by decide))
      have h55 := mr_isBetter_55 (d := d) hl hw hv hw2 hb hx q hp hV1 hW1 hV2 hW2 t.length 0 (by omega) zLF (by omega)
      rw [if_pos (by rw [q])]
      have h55' : mo_isBetter_55 d zLF am (zo p) (nI v) (nI w) 0 M = _ := h55
      rw [h55']
      simp only [List.drop_zero, q, Nat.lt_irrefl, decide_false, Bool.false_or, beq_self_eq_true, Bool.true_and]
      by_cases qt : t = b.2.2.2
      · rw [if_pos qt]
        have : py_lex t b.2.2.2 = false := by
          rw [qt]
          have key : ∀ u : List Nat, py_lex u u = false := by
            intro u
            induction u with
            | nil => rfl
            | cons a u ih => simp [py_lex, ih]
          exact key _
        rw [this]
        simp [qt]
      · rw [if_neg qt]
        have : (t == b.2.2.2) = false := by simpa using qt
        simp [this]
    · have hq : ¬ nI t.length = nI b.2.2.2.length := fun e => q ((nI_eq (by omega) (by omega)).mp e)
      rw [if_neg hq]
      have e1 : (t.length == b.2.2.2.length) = false := by simpa using q
      have e2 : (t == b.2.2.2) = false := by
        have : ¬ t = b.2.2.2 := fun e => q (by rw [e])
        simpa using this
      simp only [e1, e2, Bool.false_and, Bool.or_false]
      by_cases q2 : t.length < b.2.2.2.length
      · rw [if_neg (nI_ge q2 (by omega))]
        simp [q2, mo_isBetter_46, mo_isBetter_51, zb]
      · rw [if_pos (nI_le (by omega) (by omega))]
        simp [q2, mo_isBetter_51, zb]
end
