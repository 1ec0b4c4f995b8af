/-! THE CLASS: letters are spelled -/
def sl_l (M : zM) (sp : Nat) : Prop := (zm_R M 7 sp 0 = some (sp + 1) ∧ zm_L M 20 (sp + 1) = 9216) ∧ (zm_R M 7 sp 2 = some (sp + 2) ∧ zm_L M 20 (sp + 2) = 2304) ∧ (zm_R M 7 sp 3 = some (sp + 3) ∧ zm_L M 24 (sp + 3) = 40)
def sl_x (M : zM) (sp : Nat) (t : List Nat) : Prop := sl_l M sp ∧ zm_I M 7 sp 1 = nI t.length ∧ t.length ≤ 9216 ∧ (∀ (i x : Nat), t[i]? = some x → zm_I M 20 (sp + 1) i = nI x) ∧ (∀ x, x ∈ t → x < 26)
def sl_W (sp t k j : Nat) : Prop := (t = 7 ∧ k = sp ∧ j = 1) ∨ (t = 20 ∧ k = sp + 1)
theorem pb_sub (a b : Nat) : nI (a + b) - nI b = nI a := by
  rw [← nI_add, Int32.add_sub_cancel]
section
variable {M M' : zM} {d sp : Nat} {t : List Nat}
theorem sll_zf {W : Nat → Nat → Nat → Prop} (h : sl_l M sp) (hf : zf W M M') : sl_l M' sp := by
  unfold sl_l
  rw [hf.1, hf.2.1]
  exact h
theorem cl_spw (h : sl_x M sp t) (hlen : t.length < 9216) {x : Nat} (hx : x < 26) : ∃ M', sp_write d sp (nI x) M = some M' ∧ sl_x M' sp (t ++ [x]) ∧ zf (sl_W sp) M M' := by
  obtain ⟨h1, h2, h3, h4, h5⟩ := h
  have hz : z_in (nI t.length) 9216 := nI_in (by omega) (by omega)
  have e1 : zm_I (zm_setI M 20 (sp + 1) t.length (nI x)) 7 sp 1 = nI t.length := by rw [pm_ne (by omega)]; exact h2
  have e9 : (9216 : Int32) = nI 9216 := rfl
  have f : zf (sl_W sp) M (zm_setI (zm_setI M 20 (sp + 1) t.length (nI x)) 7 sp 1 (nI (t.length + 1))) := zf_trans (zf_set (.inr ⟨rfl, rfl⟩)) (zf_set (.inl ⟨rfl, rfl, rfl⟩))
  refine ⟨zm_setI (zm_setI M 20 (sp + 1) t.length (nI x)) 7 sp 1 (nI (t.length + 1)), ?_, ⟨sll_zf h1 f, ?_, ?_, ?_, ?_⟩, f⟩
  · unfold sp_write sp_write_30
    rw [h2, e9, if_neg (fun p => by have := (nI_leI (by omega) (by omega)).mp p; omega)]
    simp only [h1.1.1, h1.1.2, if_pos hz, nI_clamp (show t.length < 2 ^ 31 by omega), zlet, e1, nI_1]
  · rw [pm_same]; simp
  · simp; omega
  · intro i y hy
    rw [pm_ne (by omega)]
    by_cases e : i < t.length
    · rw [List.getElem?_append_left e] at hy
      rw [pm_ne (by omega)]
      exact h4 i y hy
    · have e2 : i = t.length := by
        have := (List.getElem?_eq_some_iff.mp hy).1
        simp at this
        omega
      subst e2
      simp at hy
      rw [pm_same, hy]
  · intro y hy
    rcases List.mem_append.mp hy with q | q
    · exact h5 y q
    · rw [List.mem_singleton.mp q]; exact hx
/-- where two words of the same length first differ -/
theorem cl_keep_10 {tt u w : List Nat} (h : sl_x M sp (tt ++ (u ++ w))) (hlen : u.length = w.length) : ∀ (m k : Nat), k + m = w.length → u.take k = w.take k → ∀ fuel, m < fuel → ∃ k', k ≤ k' ∧ k' ≤ w.length ∧ u.take k' = w.take k' ∧ (k' < w.length → u[k']? ≠ w[k']?) ∧ sp_keepFirst_10 d fuel sp (nI tt.length) (nI (tt.length + u.length)) (nI w.length) (nI k) M = sp_keepFirst_43 d sp (nI tt.length) (nI (tt.length + u.length)) (nI w.length) (nI k') M := by
  obtain ⟨h1, h2, h3, h4, h5⟩ := h
  simp only [List.length_append] at h3
  intro m
  induction m with
  | zero =>
    intro k e hk fuel hf
    cases fuel with
    | zero => cases hf
    | succ fuel =>
      refine ⟨k, Nat.le_refl _, by omega, hk, fun q => by omega, ?_⟩
      rw [sp_keepFirst_10, if_pos ((nI_leI (by omega) (by omega)).mpr (by omega))]
  | succ m ih =>
    intro k e hk fuel hf
    cases fuel with
    | zero => cases hf
    | succ fuel =>
      obtain ⟨a, ha⟩ : ∃ a, u[k]? = some a := ⟨u[k]'(by omega), List.getElem?_eq_getElem _⟩
      obtain ⟨b, hb⟩ : ∃ a, w[k]? = some a := ⟨w[k]'(by omega), List.getElem?_eq_getElem _⟩
      have ga : (tt ++ (u ++ w))[tt.length + k]? = some a := by
        rw [List.getElem?_append_right (by omega), show tt.length + k - tt.length = k by omega, List.getElem?_append_left (by omega)]
        exact ha
      have gb : (tt ++ (u ++ w))[tt.length + u.length + k]? = some b := by
        rw [List.getElem?_append_right (by omega), List.getElem?_append_right (by omega), show tt.length + u.length + k - tt.length - u.length = k by omega]
        exact hb
      have za : z_in (nI (tt.length + k)) 9216 := nI_in (by omega) (by omega)
      have zb' : z_in (nI (tt.length + u.length + k)) 9216 := nI_in (by omega) (by omega)
      have hwm : b < 26 := h5 b (List.mem_of_getElem? gb)
      have hum : a < 26 := h5 a (List.mem_of_getElem? ga)
      rw [sp_keepFirst_10, if_neg (fun p => by have := (nI_leI (by omega) (by omega)).mp p; omega)]
      simp only [h1.1.1, h1.1.2, nI_add, if_pos za, if_pos zb', nI_clamp (show tt.length + k < 2 ^ 31 by omega), nI_clamp (show tt.length + u.length + k < 2 ^ 31 by omega), h4 _ a ga, h4 _ b gb, zlet, nI_1]
      by_cases q : a = b
      · rw [if_pos (by rw [q])]
        have hk1 : u.take (k + 1) = w.take (k + 1) := by
          rw [List.take_succ, List.take_succ, hk, ha, hb, q]
        obtain ⟨k', q1, q2, q3, q4, q5⟩ := ih (k + 1) (by omega) hk1 fuel (by omega)
        exact ⟨k', by omega, q2, q3, q4, q5⟩
      · rw [if_neg (fun p => q ((nI_eq (by omega) (by omega)).mp p))]
        exact ⟨k, Nat.le_refl _, by omega, hk, fun _ => by rw [ha, hb]; intro e; injection e with e; exact q e, rfl⟩
theorem lex_self : ∀ w : List Nat, py_lex w w = false := by
  intro w
  induction w with
  | nil => rfl
  | cons a w ih =>
    show (if a = a then py_lex w w else decide (a < a)) = false
    rw [if_pos rfl]
    exact ih
theorem lex_take {u w : List Nat} : ∀ (k : Nat), u.take k = w.take k → py_lex w u = py_lex (w.drop k) (u.drop k) := by
  intro k
  induction k generalizing u w with
  | zero => intro _; rfl
  | succ k ih =>
    intro h
    cases u with
    | nil =>
      cases w with
      | nil => rfl
      | cons b w => cases h
    | cons a u =>
      cases w with
      | nil => cases h
      | cons b w =>
        rw [List.take_succ_cons, List.take_succ_cons] at h
        injection h with h1 h2
        rw [List.drop_succ_cons, List.drop_succ_cons, ← ih h2]
        show (if b = a then py_lex w u else decide (b < a)) = _
        rw [if_pos h1.symm]
theorem cl_keepFirst {tt u w : List Nat} (h : sl_x M sp (tt ++ (u ++ w))) (hlen : u.length = w.length) : ∃ M', sp_keepFirst d sp (nI tt.length) (nI (tt.length + u.length)) M = some M' ∧ sl_x M' sp (tt ++ (if py_lex w u then w else u)) ∧ zf (sl_W sp) M M' := by
  have hLF : 100000 = zLF := rfl
  have h0 := h
  obtain ⟨h1, h2, h3, h4, h5⟩ := h
  simp only [List.length_append] at h3
  obtain ⟨k, q1, q2, q3, q4, q5⟩ := cl_keep_10 (d := d) h0 hlen w.length 0 (by omega) rfl zLF (by omega)
  have e1 : nI (tt ++ (u ++ w)).length - nI (tt.length + u.length) = nI w.length := by
    simp only [List.length_append]
    rw [show tt.length + (u.length + w.length) = w.length + (tt.length + u.length) by omega]
    exact pb_sub _ _
  have run : sp_keepFirst d sp (nI tt.length) (nI (tt.length + u.length)) M = sp_keepFirst_43 d sp (nI tt.length) (nI (tt.length + u.length)) (nI w.length) (nI k) M := by
    unfold sp_keepFirst
    rw [h2]
    simp only [zlet]
    rw [e1]
    exact q5
  rw [run]
  unfold sp_keepFirst_43 sp_keepFirst_84
  have keepU : py_lex w u = false → ∃ M', some (zm_setI M 7 sp 1 (nI (tt.length + u.length))) = some M' ∧ sl_x M' sp (tt ++ (if py_lex w u then w else u)) ∧ zf (sl_W sp) M M' := by
    intro hl
    have f : zf (sl_W sp) M (zm_setI M 7 sp 1 (nI (tt.length + u.length))) := zf_set (.inl ⟨rfl, rfl, rfl⟩)
    refine ⟨_, rfl, ?_, f⟩
    rw [hl]
    refine ⟨sll_zf h1 f, by rw [pm_same]; simp, by simp; omega, ?_, ?_⟩
    · intro i x hx
      have hx : (tt ++ u)[i]? = some x := hx
      rw [pm_ne (by omega)]
      refine h4 i x ?_
      have hi := (List.getElem?_eq_some_iff.mp hx).1
      rw [← List.append_assoc, List.getElem?_append_left hi]
      exact hx
    · intro x hx
      have hx : x ∈ tt ++ u := hx
      refine h5 x ?_
      rw [← List.append_assoc]
      exact List.mem_append.mpr (.inl hx)
  by_cases qk : k = w.length
  · have huw : u = w := by
      rw [qk, List.take_length, ← hlen, List.take_length] at q3
      exact q3
    rw [if_pos ((nI_leI (by omega) (by omega)).mpr (by omega))]
    refine keepU ?_
    rw [huw]
    exact lex_self w
  · have hk : k < w.length := by omega
    obtain ⟨a, ha⟩ : ∃ a, u[k]? = some a := ⟨u[k]'(by omega), List.getElem?_eq_getElem _⟩
    obtain ⟨b, hb⟩ : ∃ a, w[k]? = some a := ⟨w[k]'(by omega), List.getElem?_eq_getElem _⟩
    have hab : a ≠ b := fun e => q4 hk (by rw [ha, hb, e])
    have ga : (tt ++ (u ++ w))[tt.length + k]? = some a := by
      rw [List.getElem?_append_right (by omega), show tt.length + k - tt.length = k by omega, List.getElem?_append_left (by omega)]
      exact ha
    have gb : (tt ++ (u ++ w))[tt.length + u.length + k]? = some b := by
      rw [List.getElem?_append_right (by omega), List.getElem?_append_right (by omega), show tt.length + u.length + k - tt.length - u.length = k by omega]
      exact hb
    have za : z_in (nI (tt.length + k)) 9216 := nI_in (by omega) (by omega)
    have zb' : z_in (nI (tt.length + u.length + k)) 9216 := nI_in (by omega) (by omega)
    have hwm : b < 26 := h5 b (List.mem_of_getElem? gb)
    have hum : a < 26 := h5 a (List.mem_of_getElem? ga)
    have hlex : py_lex w u = decide (b < a) := by
      rw [lex_take k q3]
      have e1 : w.drop k = b :: w.drop (k + 1) := by
        rw [List.drop_eq_getElem_cons hk]
        rw [List.getElem?_eq_getElem hk] at hb
        injection hb with hb
        rw [hb]
      have e2 : u.drop k = a :: u.drop (k + 1) := by
        rw [List.drop_eq_getElem_cons (show k < u.length by omega)]
        rw [List.getElem?_eq_getElem (show k < u.length by omega)] at ha
        injection ha with ha
        rw [ha]
      rw [e1, e2]
      show (if b = a then _ else decide (b < a)) = _
      rw [if_neg (fun e => hab e.symm)]
    rw [if_neg (fun p => by have := (nI_leI (by omega) (by omega)).mp p; omega)]
    simp only [h1.1.1, h1.1.2, nI_add, if_pos za, if_pos zb', nI_clamp (show tt.length + k < 2 ^ 31 by omega), nI_clamp (show tt.length + u.length + k < 2 ^ 31 by omega), h4 _ a ga, h4 _ b gb, zlet]
    by_cases q : a ≤ b
    · rw [if_pos ((nI_leI (by omega) (by omega)).mpr q)]
      refine keepU ?_
      rw [hlex]
      simp
      omega
    · rw [if_neg (fun p => q ((nI_leI (by omega) (by omega)).mp p))]
      rw [nI_clamp (show tt.length + u.length < 2 ^ 31 by omega), nI_clamp (show tt.length < 2 ^ 31 by omega), nI_clamp (show w.length < 2 ^ 31 by omega)]
      rw [if_pos ⟨nI_pos (by omega), nI_pos (by omega), nI_pos (by omega), by omega, by omega⟩]
      have hl : py_lex w u = true := by rw [hlex]; simp; omega
      obtain ⟨M1, hM1⟩ : ∃ Y, Y = zm_copy M 20 (sp + 1) (va_cpy (zm_I M 20 (sp + 1)) (zm_I M 20 (sp + 1)) (tt.length + u.length) tt.length w.length) := ⟨_, rfl⟩
      have g1 : ∀ j, zm_I M1 20 (sp + 1) j = va_cpy (zm_I M 20 (sp + 1)) (zm_I M 20 (sp + 1)) (tt.length + u.length) tt.length w.length j := by
        intro j
        rw [hM1]
        show (if 20 = 20 ∧ sp + 1 = sp + 1 then _ else _) = _
        rw [if_pos ⟨rfl, rfl⟩]
      have f1 : zf (sl_W sp) M M1 := by
        rw [hM1]
        refine ⟨rfl, rfl, rfl, rfl, rfl, rfl, ?_⟩
        intro t' k' j' nW
        show (if t' = 20 ∧ k' = sp + 1 then _ else _) = _
        rw [if_neg (fun e => nW (.inr e))]
      rw [← hM1]
      have f2 : zf (sl_W sp) M (zm_setI M1 7 sp 1 (nI (tt.length + u.length))) := zf_trans f1 (zf_set (.inl ⟨rfl, rfl, rfl⟩))
      refine ⟨_, rfl, ?_, f2⟩
      rw [hl]
      refine ⟨sll_zf h1 f2, by rw [pm_same, hlen]; simp, by simp; omega, ?_, ?_⟩
      · intro i x hx
        have hx : (tt ++ w)[i]? = some x := hx
        rw [pm_ne (by omega), g1]
        by_cases qi : i < tt.length
        · rw [pk_cpy_out (.inl qi)]
          refine h4 i x ?_
          rw [List.getElem?_append_left qi] at hx ⊢
          exact hx
        · rw [List.getElem?_append_right (by omega)] at hx
          have hi := (List.getElem?_eq_some_iff.mp hx).1
          rw [pk_cpy_in (by omega) (by omega)]
          refine h4 _ x ?_
          rw [List.getElem?_append_right (by omega), List.getElem?_append_right (by omega), show tt.length + u.length + (i - tt.length) - tt.length - u.length = i - tt.length by omega]
          exact hx
      · intro x hx
        have hx : x ∈ tt ++ w := hx
        refine h5 x ?_
        rcases List.mem_append.mp hx with q | q
        · exact List.mem_append.mpr (.inl q)
        · exact List.mem_append.mpr (.inr (List.mem_append.mpr (.inr q)))
end
