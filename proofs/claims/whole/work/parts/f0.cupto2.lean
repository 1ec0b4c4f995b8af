/-! THE CLASS: letters up to an occurrence are spelled -/
/-- a node and what is around it -/
def py_chf (P : yP) : Nat → Nat → List Nat
  | 0, x => [x]
  | f + 1, x => x :: (match py_up P x with
    | none => []
    | some p => py_chf P f p)
def pth_x (M : zM) (pa : Nat → Nat) (sp : Nat) (L : List Nat) : Prop := ∀ (i x : Nat), L[i]? = some x → zm_R M 24 (sp + 3) i = some (pa x)
section
variable {M M' : zM} {pa : Nat → Nat} {P : yP} {d sp Q : Nat} {t : List Nat} {en ov : Int32}
theorem cX_sq (hP : py_ok P) (h : cX M pa Q P) (hf : zr (sq_W sp) M M') (hq : Q + 10 ≤ sp) : cX M' pa Q P := by
  refine cX_gen hP h ?_ ?_ ?_ ?_ ?_ (by rw [zr_n hf]; exact Nat.le_refl _)
  · intro n _ j
    have n3 : ¬ sq_W sp 3 (pa n) j := by rintro (⟨e, _⟩ | ⟨e, _⟩ | ⟨e, _⟩) <;> cases e
    exact ⟨zr_I hf n3, zr_R hf n3⟩
  · intro n _
    have n3 : ∀ j, ¬ sq_W sp 21 (pa n + 1) j := by rintro j (⟨e, _⟩ | ⟨e, _⟩ | ⟨e, _⟩) <;> cases e
    exact ⟨fun j => zr_I hf (n3 j), by rw [zr_L hf]⟩
  · intro j _
    have n3 : ¬ sq_W sp 5 Q j := by rintro (⟨e, _⟩ | ⟨e, _⟩ | ⟨e, _⟩) <;> cases e
    exact ⟨zr_I hf n3, zr_R hf n3⟩
  · intro i hi
    have n3 : ∀ j, ¬ sq_W sp 20 (Q + i) j := by
      rintro j (⟨e, _⟩ | ⟨_, e⟩ | ⟨e, _⟩)
      · cases e
      · omega
      · cases e
    exact ⟨fun j => zr_I hf (n3 j), by rw [zr_L hf]⟩
  · intro i hi
    have n3 : ∀ j, ¬ sq_W sp 24 (Q + i) j := by
      rintro j (⟨e, _⟩ | ⟨e, _⟩ | ⟨_, e⟩)
      · cases e
      · cases e
      · omega
    exact ⟨fun j => zr_R hf (n3 j), by rw [zr_L hf]⟩
theorem sl_sq : ∀ t k j, sl_W sp t k j → sq_W sp t k j := by
  rintro t k j (⟨a, b, c⟩ | ⟨a, b⟩)
  · exact .inl ⟨a, b, .inl c⟩
  · exact .inr (.inl ⟨a, .inl b⟩)
/-- the node, then what is around it, up to the root -/
theorem chf_v (hP : py_ok P) : ∀ x, py_dm P x → ∀ f, py_hg P (py_rt P) - py_hg P x ≤ f → (py_chf P f x)[0]? = some x ∧ (py_chf P f x).length ≤ py_hg P (py_rt P) - py_hg P x + 1 ∧ (∀ (i y : Nat), (py_chf P f x)[i]? = some y → py_dm P y) ∧ (∀ (i y z : Nat), (py_chf P f x)[i]? = some y → (py_chf P f x)[i + 1]? = some z → py_up P y = some z) ∧ (∀ y, (py_chf P f x)[(py_chf P f x).length - 1]? = some y → y = py_rt P) := by
  refine ok_climb hP _ ?_ ?_
  · intro f _
    have e : py_chf P f (py_rt P) = [py_rt P] := by
      cases f with
      | zero => rfl
      | succ f =>
        rw [py_chf, ok_up0 hP]
    rw [e]
    refine ⟨rfl, by simp, ?_, ?_, ?_⟩
    · intro i y h
      cases i with
      | zero => injection h with h; rw [← h]; exact ok_rt hP
      | succ i => cases h
    · intro i y z h1 h2
      cases h2
    · intro y h
      injection h with h
      exact h.symm
  · intro x p hx e ih f hf
    have hhg := ok_uphg hP hx e
    have htop := ok_top hP (ok_pdm hP hx e)
    cases f with
    | zero => omega
    | succ f =>
      obtain ⟨i1, i2, i3, i4, i5⟩ := ih f (by omega)
      have ec : py_chf P (f + 1) x = x :: py_chf P f p := by rw [py_chf, e]
      have hne : 0 < (py_chf P f p).length := by
        have := (List.getElem?_eq_some_iff.mp i1).1
        exact this
      rw [ec]
      refine ⟨rfl, by rw [List.length_cons]; omega, ?_, ?_, ?_⟩
      · intro i y h
        cases i with
        | zero => injection h with h; rw [← h]; exact hx
        | succ i => exact i3 i y h
      · intro i y z h1 h2
        cases i with
        | zero =>
          injection h1 with h1
          rw [Nat.zero_add, List.getElem?_cons_succ, i1] at h2
          injection h2 with h2
          rw [← h1, e, h2]
        | succ i => exact i4 i y z h1 h2
      · intro y h
        rw [List.length_cons, show (py_chf P f p).length + 1 - 1 = ((py_chf P f p).length - 1) + 1 by omega, List.getElem?_cons_succ] at h
        exact i5 y h
theorem cl_up_27 (hP : py_ok P) (hq : Q + 10 ≤ sp) {v2 : Int32} : ∀ x, py_dm P x → ∀ (fuel f : Nat) (M : zM) (pre : List Nat), py_hg P (py_rt P) - py_hg P x + 1 < fuel → py_hg P (py_rt P) - py_hg P x ≤ f → pre.length + (py_hg P (py_rt P) - py_hg P x) ≤ 38 → cX M pa Q P → sl_l M sp → pth_x M pa sp pre → ∃ M', sp_spellUpTo_27 d fuel sp (some Q) v2 en ov (nI pre.length) (some (pa x)) M = sp_spellUpTo_61 d sp (some Q) v2 en ov (nI (pre ++ py_chf P f x).length) M' ∧ pth_x M' pa sp (pre ++ py_chf P f x) ∧ zr (fun t k _ => t = 24 ∧ k = sp + 3) M M' := by
  have e40 : (40 : Int32) = nI 40 := rfl
  have step : ∀ (x fuel : Nat) (M : zM) (pre : List Nat), py_dm P x → pre.length ≤ 38 → cX M pa Q P → sl_l M sp → pth_x M pa sp pre → ∃ M1, sp_spellUpTo_27 d (fuel + 1) sp (some Q) v2 en ov (nI pre.length) (some (pa x)) M = sp_spellUpTo_27 d fuel sp (some Q) v2 en ov (nI (pre ++ [x]).length) ((py_up P x).map pa) M1 ∧ cX M1 pa Q P ∧ sl_l M1 sp ∧ pth_x M1 pa sp (pre ++ [x]) ∧ zr (fun t k _ => t = 24 ∧ k = sp + 3) M M1 := by
    intro x fuel M pre hx hpre hX hl hp
    have hz : z_in (nI pre.length) 40 := nI_in (by omega) (by omega)
    have f1 : zr (fun t k _ => t = 24 ∧ k = sp + 3) M (zm_setR M 24 (sp + 3) pre.length (some (pa x))) := zr_setR ⟨rfl, rfl⟩
    have hX1 := cX_sq hP hX (zr_mono f1 (fun t k j w => .inr (.inr w))) hq
    refine ⟨_, ?_, hX1, ?_, ?_, f1⟩
    · rw [sp_spellUpTo_27, e40]
      rw [if_neg (fun p => by have := (nI_leI (by omega) (by omega)).mp p; omega)]
      simp only [hl.2.2.1, hl.2.2.2, if_pos hz, nI_clamp (show pre.length < 2 ^ 31 by omega), zlet, cN_up hX1.1 hx]
      rw [List.length_append, List.length_singleton, nI_1]
    · have n7 : ∀ j, ¬ ((fun t k (_ : Nat) => t = 24 ∧ k = sp + 3) : Nat → Nat → Nat → Prop) 7 sp j := by
        rintro j ⟨e, _⟩
        cases e
      unfold sl_l
      rw [zr_R f1 (n7 0), zr_R f1 (n7 2), zr_R f1 (n7 3), zr_L f1]
      exact hl
    · intro i y hy
      rw [pm_RR]
      by_cases q : i = pre.length
      · subst q
        rw [List.getElem?_append_right (Nat.le_refl _), Nat.sub_self] at hy
        injection hy with hy
        rw [if_pos ⟨rfl, rfl, rfl⟩, hy]
      · rw [if_neg (fun e => q e.2.2)]
        have hil := (List.getElem?_eq_some_iff.mp hy).1
        rw [List.length_append, List.length_singleton] at hil
        rw [List.getElem?_append_left (by omega)] at hy
        exact hp i y hy
  refine ok_climb hP _ ?_ ?_
  · intro fuel f M pre hf hff hpre hX hl hp
    cases fuel with
    | zero => cases hf
    | succ fuel =>
      obtain ⟨M1, s1, s2, s3, s4, s5⟩ := step (py_rt P) fuel M pre (ok_rt hP) (by omega) hX hl hp
      have e : py_chf P f (py_rt P) = [py_rt P] := by
        cases f with
        | zero => rfl
        | succ f => rw [py_chf, ok_up0 hP]
      rw [e]
      refine ⟨M1, ?_, s4, s5⟩
      rw [s1, ok_up0 hP]
      cases fuel with
      | zero => omega
      | succ fuel =>
        rfl
  · intro x p hx e ih fuel f M pre hf hff hpre hX hl hp
    have hhg := ok_uphg hP hx e
    have htop := ok_top hP (ok_pdm hP hx e)
    cases fuel with
    | zero => cases hf
    | succ fuel =>
      cases f with
      | zero => omega
      | succ f =>
        obtain ⟨M1, s1, s2, s3, s4, s5⟩ := step x fuel M pre hx (by omega) hX hl hp
        obtain ⟨M2, q1, q2, q3⟩ := ih fuel f M1 (pre ++ [x]) (by omega) (by omega) (by rw [List.length_append, List.length_singleton]; omega) s2 s3 s4
        have ec : py_chf P (f + 1) x = x :: py_chf P f p := by rw [py_chf, e]
        have ea : pre ++ py_chf P (f + 1) x = (pre ++ [x]) ++ py_chf P f p := by rw [ec]; simp
        rw [ea]
        refine ⟨M2, ?_, q2, zr_trans s5 q3⟩
        rw [s1, e]
        exact q1
end
