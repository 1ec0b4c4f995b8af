/-! words in the order that makes the least -/
def py_inp {α : Type} (f : α → Bool) (x : α) : List α → List α → List α
  | [], b => x :: b
  | p :: a, b => if f p then py_inp f x a (p :: b) else (p :: a).reverse ++ x :: b
def py_ins (w : List Nat) (S : List (List Nat)) : List (List Nat) := py_inp (py_ah w) w S.reverse []
def py_sm (sel : Nat → Bool) (f : Nat → List Nat) (l : List Nat) (S : List (List Nat)) : List (List Nat) := l.foldl (fun S c => if sel c then py_ins (f c) S else S) S
theorem inp_map {α β : Type} (g : α → β) (f : α → Bool) (f' : β → Bool) (x : α) : ∀ (a b : List α), (∀ p, p ∈ a → f p = f' (g p)) → (py_inp f x a b).map g = py_inp f' (g x) (a.map g) (b.map g) := by
  intro a
  induction a with
  | nil => intro b _; rfl
  | cons p a ih =>
    intro b h
    have hp := h p List.mem_cons_self
    unfold py_inp
    rw [List.map_cons]
    simp only [← hp]
    cases f p
    · simp
    · simp
      have := ih (p :: b) (fun q hq => h q (List.mem_cons_of_mem _ hq))
      simpa using this
theorem inp_len {α : Type} (f : α → Bool) (x : α) : ∀ (a b : List α), (py_inp f x a b).length = a.length + b.length + 1 := by
  intro a
  induction a with
  | nil => intro b; simp [py_inp]
  | cons p a ih =>
    intro b
    unfold py_inp
    cases f p
    · simp
      omega
    · simp
      rw [ih]
      simp
      omega
theorem inp_mem {α : Type} (f : α → Bool) (x : α) : ∀ (a b : List α) (q : α), q ∈ py_inp f x a b → q = x ∨ q ∈ a ∨ q ∈ b := by
  intro a
  induction a with
  | nil =>
    intro b q h
    simp [py_inp] at h
    rcases h with h | h
    · exact .inl h
    · exact .inr (.inr h)
  | cons p a ih =>
    intro b q h
    unfold py_inp at h
    cases hf : f p
    · rw [hf] at h
      simp at h
      rcases h with h | h | h | h
      · exact .inr (.inl (by simp [h]))
      · exact .inr (.inl (by simp [h]))
      · exact .inl h
      · exact .inr (.inr h)
    · rw [hf] at h
      simp at h
      rcases ih _ q h with h | h | h
      · exact .inl h
      · exact .inr (.inl (by simp [h]))
      · simp at h
        rcases h with h | h
        · exact .inr (.inl (by simp [h]))
        · exact .inr (.inr h)
theorem inp_flat (f : List Nat → Bool) (w : List Nat) : ∀ (a b : List (List Nat)), (py_inp f w a b).flatten.length = a.flatten.length + b.flatten.length + w.length := by
  intro a
  induction a with
  | nil => intro b; simp [py_inp]; omega
  | cons p a ih =>
    intro b
    unfold py_inp
    cases f p
    · simp
      have : (a.reverse.map List.length).sum = (a.map List.length).sum := by
        rw [List.map_reverse, List.sum_reverse]
      omega
    · simp only [if_true]
      rw [ih]
      simp
      omega
theorem ins_flat (w : List Nat) (S : List (List Nat)) : (py_ins w S).flatten.length = S.flatten.length + w.length := by
  unfold py_ins
  rw [inp_flat]
  simp
theorem ins_len (w : List Nat) (S : List (List Nat)) : (py_ins w S).length = S.length + 1 := by
  unfold py_ins
  rw [inp_len]
  simp
section
variable {am r d : Nat} {M : zM} {P : yP} {t : List Nat}
theorem mr_isAhead_3 (hl : ml_ok am M) (h : mt_x am M t) {x y : List Nat} {a b : Nat} (hx : ∀ i z, x[i]? = some z → t[a + i]? = some z) (hy : ∀ i z, y[i]? = some z → t[b + i]? = some z) (hxl : a + x.length ≤ 12000) (hyl : b + y.length ≤ 12000) : ∀ (m k : Nat), k + m = x.length + y.length → ∀ fuel, m < fuel → mo_isAhead_3 d fuel am (nI a) (nI x.length) (nI b) (nI y.length) (nI k) M = some (zb (py_lex ((x ++ y).drop k) ((y ++ x).drop k)), M) := by
  have h12 := h.2.1
  intro m
  induction m with
  | zero =>
    intro k hk fuel hf
    cases fuel with
    | zero => cases hf
    | succ fuel =>
      have : k = x.length + y.length := by omega
      subst this
      have e1 : (x ++ y).drop (x.length + y.length) = [] := by simp
      rw [e1]
      simp [mo_isAhead_3, nI_add, py_lex, zb]
  | succ m ih =>
    intro k hk fuel hf
    cases fuel with
    | zero => cases hf
    | succ fuel =>
      have ih' := ih (k + 1) (by omega) fuel (by omega)
      have hge : ¬ nI (x.length + y.length) ≤ nI k := nI_ge (by omega) (by omega)
      have k1 : k < (x ++ y).length := by simp; omega
      have k2 : k < (y ++ x).length := by simp; omega
      have d1 : (x ++ y).drop k = (x ++ y)[k] :: (x ++ y).drop (k + 1) := List.drop_eq_getElem_cons k1
      have d2 : (y ++ x).drop k = (y ++ x)[k] :: (y ++ x).drop (k + 1) := List.drop_eq_getElem_cons k2
      have gx : ∃ i, i < 12000 ∧ (if k < x.length then i = a + k else i = b + k - x.length) ∧ t[i]? = some (x ++ y)[k] := by
        by_cases q : k < x.length
        · refine ⟨a + k, by omega, by simp [q], ?_⟩
          have : (x ++ y)[k]? = some (x ++ y)[k] := by simp
          rw [List.getElem?_append_left q] at this
          exact hx k _ this
        · refine ⟨b + k - x.length, by omega, by simp [q], ?_⟩
          have : (x ++ y)[k]? = some (x ++ y)[k] := by simp
          rw [List.getElem?_append_right (by omega)] at this
          have := hy _ _ this
          rw [← this]
          congr 1
          omega
      have gy : ∃ i, i < 12000 ∧ (if k < y.length then i = b + k else i = a + k - y.length) ∧ t[i]? = some (y ++ x)[k] := by
        by_cases q : k < y.length
        · refine ⟨b + k, by omega, by simp [q], ?_⟩
          have : (y ++ x)[k]? = some (y ++ x)[k] := by simp
          rw [List.getElem?_append_left q] at this
          exact hy k _ this
        · refine ⟨a + k - y.length, by omega, by simp [q], ?_⟩
          have : (y ++ x)[k]? = some (y ++ x)[k] := by simp
          rw [List.getElem?_append_right (by omega)] at this
          have := hx _ _ this
          rw [← this]
          congr 1
          omega
      obtain ⟨i, i1, i2, i3⟩ := gx
      obtain ⟨j, j1, j2, j3⟩ := gy
      have hX := h.2.2.1 _ _ i3
      have hY := h.2.2.1 _ _ j3
      have hX6 := h.2.2.2 _ (List.mem_of_getElem? i3)
      have hY6 := h.2.2.2 _ (List.mem_of_getElem? j3)
      have hz1 : z_in (nI i) 12000 := nI_in (by omega) (by omega)
      have hz2 : z_in (nI j) 12000 := nI_in (by omega) (by omega)
      rw [d1, d2]
      generalize (x ++ y)[k] = X at *
      generalize (y ++ x)[k] = Y at *
      have h74 : mo_isAhead_74 (fun p0 p1 p2 p3 p4 p5 m => mo_isAhead_3 d fuel p0 p1 p2 p3 p4 p5 m) d am (nI a) (nI x.length) (nI b) (nI y.length) (nI k) (nI X) (nI Y) M = some (zb (py_lex (X :: (x ++ y).drop (k + 1)) (Y :: (y ++ x).drop (k + 1))), M) := by
        unfold mo_isAhead_74 py_lex
        by_cases q : X = Y
        · subst q
          simp [zlet, nI_1, ih']
        · have hq : ¬ nI X = nI Y := fun e => q ((nI_eq (by omega) (by omega)).mp e)
          rw [if_neg hq, if_neg q]
          by_cases q2 : X < Y
          · rw [if_neg (nI_ge q2 (by omega))]
            simp [mo_isAhead_95, q2, zb]
          · rw [if_pos (nI_le (by omega) (by omega))]
            simp [mo_isAhead_95, q2, zb]
      have h41 : mo_isAhead_41 (fun p0 p1 p2 p3 p4 p5 m => mo_isAhead_3 d fuel p0 p1 p2 p3 p4 p5 m) d am (nI a) (nI x.length) (nI b) (nI y.length) (nI k) (nI X) M = some (zb (py_lex (X :: (x ++ y).drop (k + 1)) (Y :: (y ++ x).drop (k + 1))), M) := by
        unfold mo_isAhead_41
        by_cases q : k < y.length
        · rw [if_pos q] at j2
          subst j2
          rw [if_neg (nI_ge q (by omega))]
          simp only [ml_R27 hl, ml_L27 hl, nI_add, if_pos hz2, nI_clamp (show b + k < 2 ^ 31 by omega), hY, h74]
        · rw [if_neg q] at j2
          subst j2
          rw [if_pos (nI_le (by omega) (by omega))]
          simp only [ml_R27 hl, ml_L27 hl, nI_add, pk_sub (show y.length ≤ a + k by omega), if_pos hz2, nI_clamp (show a + k - y.length < 2 ^ 31 by omega), hY, h74]
      by_cases q : k < x.length
      · rw [if_pos q] at i2
        subst i2
        simp only [mo_isAhead_3, nI_add, if_neg hge]
        rw [if_neg (nI_ge q (by omega))]
        simp only [ml_R27 hl, ml_L27 hl, if_pos hz1, nI_clamp (show a + k < 2 ^ 31 by omega), hX, h41]
      · rw [if_neg q] at i2
        subst i2
        simp only [mo_isAhead_3, nI_add, if_neg hge]
        rw [if_pos (nI_le (by omega) (by omega))]
        simp only [ml_R27 hl, ml_L27 hl, pk_sub (show x.length ≤ b + k by omega), if_pos hz1, nI_clamp (show b + k - x.length < 2 ^ 31 by omega), hX, h41]
theorem mr_isAhead (hl : ml_ok am M) (h : mt_x am M t) {x y : List Nat} {a b : Nat} (hx : ∀ i z, x[i]? = some z → t[a + i]? = some z) (hy : ∀ i z, y[i]? = some z → t[b + i]? = some z) (hxl : a + x.length ≤ 12000) (hyl : b + y.length ≤ 12000) : mo_isAhead d am (nI a) (nI x.length) (nI b) (nI y.length) M = some (zb (py_ah x y), M) := by
  have hLF : 24000 < zLF := by unfold zLF; exact Nat.lt_of_sub_pos (Nat.pos_of_ne_zero (by decide))
  have := mr_isAhead_3 (d := d) hl h hx hy hxl hyl (x.length + y.length) 0 (by omega) zLF (by omega)
  simpa [mo_isAhead, py_ah, pb_n0] using this
end
