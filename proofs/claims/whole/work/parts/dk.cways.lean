/-! THE CLASS: the ways behind an occurrence -/
/-- a way as the class has it: with the counts that must have had times enough, the parts that must be over, the part that must be ahead -/
abbrev yK : Type := yW × Int32 × Int32 × Int32
def py_ah1 (P : yP) (W : yW) : Int32 := match W.2.2.1 with
  | none => 0
  | some a => if py_kd P a = 4 then zbit (4 * py_nb P a + (py_bf (py_ks P a) W.2.2.2).length) else 0
/-- what leaving node p adds -/
def py_e1n (P : yP) (p : Nat) : Int32 := if py_kd P p = 5 ∧ 1 < py_few P (py_nb P p) then zbit (py_nb P p) else 0
def py_o1n (P : yP) (p : Nat) : Int32 := if py_kd P p = 4 then zor (py_ml (py_nu P) (py_ks P p) 0) <<< (nI (4 * py_nb P p) &&& 31) else 0
def py_cvl (P : yP) (k : Nat) (en ov : Int32) : List yK := (py_lv P k).map (fun W => (W, en, ov, py_ah1 P W))
def py_cwf (P : yP) : Nat → Nat → Int32 → Int32 → List yK
  | 0, _, _, _ => []
  | f + 1, k, en, ov => match py_up P k with
    | none => []
    | some p => py_cvl P k en ov ++ (if py_pst P k then py_cwf P f p (en ||| py_e1n P p) (ov ||| py_o1n P p) else [])
def py_cw (P : yP) (p : Option Nat) : List yK := match p with
  | none => (py_ways P none).map (fun W => (W, 0, 0, 0))
  | some o => py_cwf P 40 (py_lf P o) 0 0
def py_cd (W : yW) : Int32 := nI (16 * W.1 + py_oi W.2.1)
/-- the list in the class's rows -/
def wk_h (M : zM) (wy : Nat) (l : List yK) : Prop := zm_I M 9 wy 4 = nI l.length ∧ l.length ≤ 48 ∧ ∀ (i : Nat) (x : yK), l[i]? = some x → zm_I M 20 (wy + 1) i = py_cd x.1 ∧ zm_I M 20 (wy + 2) i = x.2.1 ∧ zm_I M 20 (wy + 3) i = x.2.2.1 ∧ zm_I M 20 (wy + 4) i = x.2.2.2
def wy_l (M : zM) (wy : Nat) : Prop := (zm_R M 9 wy 0 = some (wy + 1) ∧ zm_L M 20 (wy + 1) = 48) ∧ (zm_R M 9 wy 1 = some (wy + 2) ∧ zm_L M 20 (wy + 2) = 48) ∧ (zm_R M 9 wy 2 = some (wy + 3) ∧ zm_L M 20 (wy + 3) = 48) ∧ (zm_R M 9 wy 3 = some (wy + 4) ∧ zm_L M 20 (wy + 4) = 48)
def wy_W (wy t k j : Nat) : Prop := (t = 9 ∧ k = wy ∧ (j = 4 ∨ j = 5 ∨ j = 6)) ∨ (t = 20 ∧ wy < k ∧ k ≤ wy + 4)
section
variable {M M' : zM} {pa : Nat → Nat} {P : yP} {d wy Q : Nat}
theorem wl_zf {W : Nat → Nat → Nat → Prop} (h : wy_l M wy) (hf : zf W M M') : wy_l M' wy := by
  unfold wy_l
  rw [hf.1, hf.2.1]
  exact h
theorem oi_cd {i : Nat} {b : Option Nat} (hi : i < 16) (hb : ∀ x, b = some x → x < 8) : (nI i <<< (4 &&& 31)) ||| (zo b + 1) = nI (16 * i + py_oi b) := by
  have key : ∀ (i : Fin 16) (c : Fin 9), (nI i.val <<< (4 &&& 31)) ||| (nI c.val) = nI (16 * i.val + c.val) := by decide +kernel
  cases b with
  | none =>
    have e : zo (none : Option Nat) + 1 = nI 0 := by decide
    rw [e]
    exact key ⟨i, hi⟩ ⟨0, by omega⟩
  | some x =>
    have hx := hb x rfl
    have e : zo (some x) + 1 = nI (x + 1) := nI_1 x
    rw [e]
    exact key ⟨i, hi⟩ ⟨x + 1, by omega⟩
/-- all occurrences of a set are put -/
theorem cl_put_3 {L : List Nat} {b : Option Nat} {ah : Int32} {mk : Nat → yW} (hL : ∀ q, q ∈ L → q < 16) (hmk : ∀ q, (mk q).1 = q ∧ (mk q).2.1 = b) (hb : ∀ x, b = some x → x < 8) : ∀ (m i : Nat) (M : zM) (l : List yK), i + m = 16 → wy_l M wy → wk_h M wy l → l.length + ((List.range' i m).filter (fun q => L.contains q)).length ≤ 48 → ∀ fuel, m < fuel → ∃ M', wy_put_3 d fuel wy (zor L) (zo b) ah (nI i) M = some M' ∧ wk_h M' wy (l ++ ((List.range' i m).filter (fun q => L.contains q)).map (fun q => (mk q, zm_I M 9 wy 5, zm_I M 9 wy 6, ah))) ∧ zf (wy_W wy) M M' ∧ zm_I M' 9 wy 5 = zm_I M 9 wy 5 ∧ zm_I M' 9 wy 6 = zm_I M 9 wy 6 := by
  intro m
  induction m with
  | zero =>
    intro i M l hi hw hl hlen fuel hf
    cases fuel with
    | zero => cases hf
    | succ fuel =>
      have : i = 16 := by omega
      subst this
      refine ⟨M, ?_, by simpa using hl, zf_refl _ _, rfl, rfl⟩
      rw [wy_put_3, if_pos (show (16 : Int32) ≤ nI 16 by decide)]
      rfl
  | succ m ih =>
    intro i M l hi hw hl hlen fuel hf
    cases fuel with
    | zero => cases hf
    | succ fuel =>
      have hL32 : ∀ q, q ∈ L → q < 32 := fun q hq => by have := hL q hq; omega
      have hbit := zor_has hL32 (i := i) (by omega)
      rw [List.range'_succ, List.filter_cons] at hlen ⊢
      rw [wy_put_3, if_neg (show ¬ (16 : Int32) ≤ nI i from nI_ge (b := 16) (by omega) (by omega))]
      have h4 := hl.1
      have e48 : ((48 : Int32) ≤ nI l.length) ↔ 48 ≤ l.length := le_i2 (m := 48) (by have := hl.2.1; omega) (by omega)
      by_cases hq : i ∈ L
      · have hc : L.contains i = true := by simpa using hq
        rw [hc] at hlen ⊢
        simp only [if_true, List.length_cons] at hlen
        have hlt : l.length < 48 := by omega
        rw [if_pos hq] at hbit
        have hz : z_in (nI l.length) 48 := nI_in (by omega) (by omega)
        rw [h4, if_neg (fun x => by have := e48.mp x; omega), hbit, if_neg (show ¬ (1 : Int32) = 0 by decide)]
        have c0 := oi_cd (i := i) (b := b) (by omega) hb
        obtain ⟨M2, hM2⟩ : ∃ Y, Y = zm_setI (zm_setI (zm_setI (zm_setI (zm_setI M 20 (wy + 1) l.length (nI (16 * i + py_oi b))) 20 (wy + 2) l.length (zm_I M 9 wy 5)) 20 (wy + 3) l.length (zm_I M 9 wy 6)) 20 (wy + 4) l.length ah) 9 wy 4 (nI (l.length + 1)) := ⟨_, rfl⟩
        have a1 : ∀ v, zm_I (zm_setI M 20 (wy + 1) l.length v) 9 wy 4 = nI l.length := fun v => (pm_ne (by omega)).trans h4
        have a2 : ∀ v, zm_I (zm_setI M 20 (wy + 1) l.length v) 9 wy 5 = zm_I M 9 wy 5 := fun v => pm_ne (by omega)
        have a3 : ∀ v w, zm_I (zm_setI (zm_setI M 20 (wy + 1) l.length v) 20 (wy + 2) l.length w) 9 wy 4 = nI l.length := fun v w => (pm_ne (by omega)).trans (a1 v)
        have a4 : ∀ v w, zm_I (zm_setI (zm_setI M 20 (wy + 1) l.length v) 20 (wy + 2) l.length w) 9 wy 6 = zm_I M 9 wy 6 := fun v w => (pm_ne (by omega)).trans (pm_ne (by omega))
        have a5 : ∀ v w x, zm_I (zm_setI (zm_setI (zm_setI M 20 (wy + 1) l.length v) 20 (wy + 2) l.length w) 20 (wy + 3) l.length x) 9 wy 4 = nI l.length := fun v w x => (pm_ne (by omega)).trans (a3 v w)
        have a6 : ∀ v w x y, zm_I (zm_setI (zm_setI (zm_setI (zm_setI M 20 (wy + 1) l.length v) 20 (wy + 2) l.length w) 20 (wy + 3) l.length x) 20 (wy + 4) l.length y) 9 wy 4 = nI l.length := fun v w x y => (pm_ne (by omega)).trans (a5 v w x)
        have hf2 : zf (wy_W wy) M M2 := by
          rw [hM2]
          exact zf_trans (zf_trans (zf_trans (zf_trans (zf_set (.inr ⟨rfl, by omega, by omega⟩)) (zf_set (.inr ⟨rfl, by omega, by omega⟩))) (zf_set (.inr ⟨rfl, by omega, by omega⟩))) (zf_set (.inr ⟨rfl, by omega, by omega⟩))) (zf_set (.inl ⟨rfl, rfl, .inl rfl⟩))
        have m5 : zm_I M2 9 wy 5 = zm_I M 9 wy 5 := by rw [hM2, pm_ne (by omega), pm_ne (by omega), pm_ne (by omega), pm_ne (by omega), pm_ne (by omega)]
        have m6 : zm_I M2 9 wy 6 = zm_I M 9 wy 6 := by rw [hM2, pm_ne (by omega), pm_ne (by omega), pm_ne (by omega), pm_ne (by omega), pm_ne (by omega)]
        have hl2 : wk_h M2 wy (l ++ [(mk i, zm_I M 9 wy 5, zm_I M 9 wy 6, ah)]) := by
          refine ⟨?_, by simp; omega, ?_⟩
          · rw [hM2, pm_same]; simp
          · intro j x hx
            by_cases e : j < l.length
            · rw [List.getElem?_append_left e] at hx
              have g := hl.2.2 j x hx
              rw [hM2, pm_ne (by omega), pm_ne (by omega), pm_ne (by omega), pm_ne (by omega), pm_ne (by omega), pm_ne (by omega), pm_ne (by omega), pm_ne (by omega), pm_ne (by omega), pm_ne (by omega), pm_ne (by omega), pm_ne (by omega), pm_ne (by omega), pm_ne (by omega), pm_ne (by omega), pm_ne (by omega), pm_ne (by omega), pm_ne (by omega), pm_ne (by omega), pm_ne (by omega)]
              exact g
            · have e2 : j = l.length := by
                have := (List.getElem?_eq_some_iff.mp hx).1
                simp at this
                omega
              subst e2
              have ex : x = (mk i, zm_I M 9 wy 5, zm_I M 9 wy 6, ah) := by simpa using hx.symm
              subst ex
              refine ⟨?_, ?_, ?_, ?_⟩
              · rw [hM2, pm_ne (by omega), pm_ne (by omega), pm_ne (by omega), pm_ne (by omega), pm_same]
                show nI (16 * i + py_oi b) = nI (16 * (mk i).1 + py_oi (mk i).2.1)
                rw [(hmk i).1, (hmk i).2]
              · rw [hM2, pm_ne (by omega), pm_ne (by omega), pm_ne (by omega), pm_same]
              · rw [hM2, pm_ne (by omega), pm_ne (by omega), pm_same]
              · rw [hM2, pm_ne (by omega), pm_same]
        obtain ⟨M', g1, g2, g3, g4, g5⟩ := ih (i + 1) M2 (l ++ [(mk i, zm_I M 9 wy 5, zm_I M 9 wy 6, ah)]) (by omega) (wl_zf hw hf2) hl2 (by rw [List.length_append]; show l.length + 1 + _ ≤ 48; omega) fuel (by omega)
        refine ⟨M', ?_, ?_, zf_trans hf2 g3, g4.trans m5, g5.trans m6⟩
        · simp only [hw.1.1, hw.1.2, if_pos hz, nI_clamp (show l.length < 2 ^ 31 by omega), c0, zlet, pm_RI, pm_LI, hw.2.1.1, hw.2.1.2, a1, a2, hw.2.2.1.1, hw.2.2.1.2, a3, a4, hw.2.2.2.1, hw.2.2.2.2, a5, a6, nI_1, wy_put_91]
          rw [← hM2]
          exact g1
        · rw [m5, m6, List.append_assoc] at g2
          exact g2
      · have hc : L.contains i = false := by simpa using hq
        rw [hc] at hlen ⊢
        simp only [Bool.false_eq_true, if_false] at hlen
        rw [if_neg hq] at hbit
        rw [hbit, if_pos rfl, h4]
        obtain ⟨M', g1, g2⟩ := ih (i + 1) M l (by omega) hw hl hlen fuel (by omega)
        by_cases c48 : 48 ≤ l.length
        · -- the list is full: nothing more is wanted
          rw [if_pos (e48.mpr c48)]
          have h0 : ((List.range' (i + 1) m).filter (fun q => L.contains q)) = [] := List.eq_nil_of_length_eq_zero (by omega)
          refine ⟨M, rfl, ?_, zf_refl _ _, rfl, rfl⟩
          simp only [Bool.false_eq_true, if_false]
          rw [h0]
          simpa using hl
        · rw [if_neg (fun x => c48 (e48.mp x))]
          simp only [Bool.false_eq_true, if_false]
          refine ⟨M', ?_, g2⟩
          simp only [wy_put_91, zlet, nI_1]
          exact g1
end
