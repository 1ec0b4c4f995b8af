/-! A DOCUMENT's text, as a machine over bytes -/
/-- the things so far, the one that is open, the latest one, whether a thing is wanted -/
abbrev yD : Type := List yT × Option Nat × Option Nat × Bool
def py_dv (D : List yT) (o : Option Nat) : Nat := match o with
  | none => 0
  | some k => match D[k]? with
    | none => 0
    | some x => x.2.2.2 + 1
def py_hm (D : List yT) (o : Option Nat) : Nat := match o with
  | none => 0
  | some k => match D[k]? with
    | none => 0
    | some x => x.2.2.1
def py_pr (D : List yT) (k : Nat) : Option Nat := match D[k]? with
  | none => none
  | some x => x.2.1
def py_in1 (D : List yT) (o : Option Nat) : List yT := match o with
  | none => D
  | some k => match D[k]? with
    | none => D
    | some x => D.set k (x.1, x.2.1, x.2.2.1 + 1, x.2.2.2)
def py_add (D : List yT) (o : Option Nat) (l : Nat) : List yT := py_in1 D o ++ [(l, o, 0, py_dv D o)]
def py_dt (s : yD) (b : Nat) : Option yD := if s.2.2.2 = true then (if (97 ≤ b ∧ b ≤ 122) ∧ s.1.length < 60 ∧ py_hm s.1 s.2.1 < 24 then some (py_add s.1 s.2.1 (b - 97), s.2.1, some s.1.length, false) else none) else if b = 40 ∧ s.2.2.1.isSome = true ∧ py_dv s.1 s.2.2.1 < 8 then some (s.1, s.2.2.1, s.2.2.1, true) else match s.2.1 with
  | none => none
  | some k => if b = 44 then some (s.1, some k, s.2.2.1, true) else if b = 41 then some (s.1, py_pr s.1 k, none, false) else none
def py_dr : List Nat → Nat → yD → Option Nat × List yT
  | [], p, s => (if s.2.2.2 = true ∨ s.2.1.isSome = true then some p else none, s.1)
  | b :: r, p, s => if b = 32 then py_dr r (p + 1) s else match py_dt s b with
    | none => (some p, s.1)
    | some s' => py_dr r (p + 1) s'
theorem dr_rep : ∀ (n : Nat) (b : List Nat) (p : Nat) (s : yD), py_dr (List.replicate n 32 ++ b) p s = py_dr b (p + n) s := by
  intro n
  induction n with
  | zero => intro b p s; simp
  | succ n ih =>
    intro b p s
    rw [List.replicate_succ, List.cons_append]
    unfold py_dr
    rw [if_pos rfl, ih]
    have : p + 1 + n = p + (n + 1) := by omega
    rw [this]
    cases b <;> simp [py_dr]
theorem dr_w : ∀ (b : List Nat) (p : Nat) (D : List yT) (o l l' : Option Nat), py_dr b p (D, o, l, true) = py_dr b p (D, o, l', true) := by
  intro b
  induction b with
  | nil => intro p D o l l'; simp [py_dr]
  | cons x b ih =>
    intro p D o l l'
    by_cases q : x = 32
    · simp only [py_dr, if_pos q]
      exact ih _ _ _ _ _
    · simp only [py_dr, if_neg q, py_dt, if_true]
theorem dr_lat (b : List Nat) (p : Nat) (D : List yT) (o l : Option Nat) (h1 : b.head? ≠ some 40) (h2 : b.head? ≠ some 32) : py_dr b p (D, o, l, false) = py_dr b p (D, o, none, false) := by
  cases b with
  | nil => simp [py_dr]
  | cons x b =>
    have q1 : x ≠ 40 := fun e => h1 (by simp [e])
    have q2 : x ≠ 32 := fun e => h2 (by simp [e])
    simp only [py_dr, if_neg q2, py_dt, q1, false_and, if_false, Bool.false_eq_true]
    cases o with
    | none => rfl
    | some k =>
      dsimp only
      by_cases q : x = 44
      · rw [if_pos q, if_pos q]
        exact dr_w _ _ _ _ _ _
      · rw [if_neg q, if_neg q]
/-! the list grows -/
def dx (D D' : List yT) : Prop := D.length ≤ D'.length ∧ ∀ (i : Nat) (x : yT), D[i]? = some x → ∃ h, D'[i]? = some (x.1, x.2.1, h, x.2.2.2)
theorem dx_refl (D : List yT) : dx D D := ⟨Nat.le_refl _, fun i x h => ⟨x.2.2.1, h⟩⟩
theorem dx_trans {D D' D'' : List yT} (h : dx D D') (h' : dx D' D'') : dx D D'' := by
  refine ⟨Nat.le_trans h.1 h'.1, ?_⟩
  intro i x hx
  obtain ⟨k, e⟩ := h.2 i x hx
  obtain ⟨k', e'⟩ := h'.2 i _ e
  exact ⟨k', e'⟩
theorem in1_len (D : List yT) (o : Option Nat) : (py_in1 D o).length = D.length := by
  unfold py_in1
  cases o with
  | none => rfl
  | some k =>
    cases h : D[k]? with
    | none => simp [h]
    | some x => simp [h]
theorem in1_get (D : List yT) (o : Option Nat) {i : Nat} {x : yT} (hx : D[i]? = some x) : (py_in1 D o)[i]? = some (if o = some i then (x.1, x.2.1, x.2.2.1 + 1, x.2.2.2) else x) := by
  have hi := (List.getElem?_eq_some_iff.mp hx).1
  unfold py_in1
  cases o with
  | none => simpa using hx
  | some k =>
    by_cases e : k = i
    · subst e
      simp only [hx, if_true]
      exact List.getElem?_set_self hi
    · cases h : D[k]? with
      | none => simp [h, hx, e]
      | some y => simp [h, hx, e, List.getElem?_set]
theorem add_len (D : List yT) (o : Option Nat) (l : Nat) : (py_add D o l).length = D.length + 1 := by
  unfold py_add
  rw [List.length_append, in1_len]
  rfl
theorem add_get (D : List yT) (o : Option Nat) (l : Nat) {i : Nat} {x : yT} (hx : D[i]? = some x) : (py_add D o l)[i]? = some (if o = some i then (x.1, x.2.1, x.2.2.1 + 1, x.2.2.2) else x) := by
  have hi := (List.getElem?_eq_some_iff.mp hx).1
  unfold py_add
  rw [List.getElem?_append_left (by rw [in1_len]; exact hi)]
  exact in1_get D o hx
theorem add_last (D : List yT) (o : Option Nat) (l : Nat) : (py_add D o l)[D.length]? = some (l, o, 0, py_dv D o) := by
  unfold py_add
  rw [List.getElem?_append_right (by rw [in1_len]; exact Nat.le_refl _), in1_len, Nat.sub_self]
  rfl
theorem dx_add (D : List yT) (o : Option Nat) (l : Nat) : dx D (py_add D o l) := by
  refine ⟨by rw [add_len]; omega, ?_⟩
  intro i x hx
  rw [add_get D o l hx]
  by_cases e : o = some i
  · rw [if_pos e]
    exact ⟨_, rfl⟩
  · rw [if_neg e]
    exact ⟨x.2.2.1, rfl⟩
theorem dx_lv {D D' : List yT} (h : dx D D') {k : Nat} (hk : k < D.length) : py_dv D' (some k) = py_dv D (some k) := by
  have hx : D[k]? = some D[k] := by simp
  obtain ⟨m, e⟩ := h.2 k _ hx
  simp only [py_dv, hx, e]
theorem dx_pr {D D' : List yT} (h : dx D D') {k : Nat} (hk : k < D.length) : py_pr D' k = py_pr D k := by
  have hx : D[k]? = some D[k] := by simp
  obtain ⟨m, e⟩ := h.2 k _ hx
  simp only [py_pr, hx, e]
theorem kl_len (D : List yT) (t : Nat) : (py_kl D t).length = ((D.map (fun x => x.2.1)).filter (fun y => y == some t)).length := by
  unfold py_kl
  rw [List.filter_map]
  simp [Function.comp_def]
theorem in1_map (D : List yT) (o : Option Nat) : (py_in1 D o).map (fun x => x.2.1) = D.map (fun x => x.2.1) := by
  apply List.ext_getElem?
  intro i
  rw [List.getElem?_map, List.getElem?_map]
  cases h : D[i]? with
  | none =>
    have : (py_in1 D o)[i]? = none := by
      rw [List.getElem?_eq_none_iff, in1_len]
      exact List.getElem?_eq_none_iff.mp h
    rw [this]
  | some x =>
    rw [in1_get D o h]
    by_cases e : o = some i
    · rw [if_pos e]; rfl
    · rw [if_neg e]
theorem add_kl (D : List yT) (o : Option Nat) (l t : Nat) : (py_kl (py_add D o l) t).length = (py_kl D t).length + (if o = some t then 1 else 0) := by
  rw [kl_len, kl_len]
  unfold py_add
  rw [List.map_append, in1_map, List.filter_append, List.length_append]
  congr 1
  by_cases e : o = some t
  · simp [e]
  · simp [e]
theorem kl_end {D : List yT} (h : do_ok D) : (py_kl D D.length).length = 0 := by
  rw [kl_len, List.length_eq_zero_iff, List.filter_eq_nil_iff]
  intro y hy
  obtain ⟨x, hx, rfl⟩ := List.mem_map.mp hy
  obtain ⟨i, hi⟩ := List.mem_iff_getElem?.mp hx
  have hil := (List.getElem?_eq_some_iff.mp hi).1
  have hp := (h.2 i x hi).2.1
  intro e
  have := hp D.length (by simpa using e)
  omega
theorem do_add {D : List yT} {o : Option Nat} {l : Nat} (h : do_ok D) (h60 : D.length < 60) (hl : l < 26) (ho : ∀ k, o = some k → k < D.length) (hm : py_hm D o < 24) (hv : py_dv D o ≤ 7) : do_ok (py_add D o l) := by
  refine ⟨by rw [add_len]; omega, ?_⟩
  intro i x hx
  have hi := (List.getElem?_eq_some_iff.mp hx).1
  rw [add_len] at hi
  rw [add_kl]
  by_cases e : i < D.length
  · have hg : D[i]? = some D[i] := by simp
    have hd := h.2 i _ hg
    rw [add_get D o l hg] at hx
    injection hx with hx
    by_cases e2 : o = some i
    · rw [if_pos e2] at hx
      rw [if_pos e2, ← hx]
      have : py_hm D o = D[i].2.2.1 := by simp only [py_hm, e2, hg]
      refine ⟨hd.1, hd.2.1, ?_, ?_, hd.2.2.2.2⟩
      · show D[i].2.2.1 + 1 = _
        rw [hd.2.2.1]
      · show D[i].2.2.1 + 1 ≤ 24
        omega
    · rw [if_neg e2] at hx
      rw [if_neg e2, ← hx]
      exact hd
  · have : i = D.length := by omega
    subst this
    rw [add_last] at hx
    injection hx with hx
    rw [← hx, kl_end h]
    have : o ≠ some D.length := fun e2 => by have := ho _ e2; omega
    rw [if_neg this]
    exact ⟨hl, ho, rfl, Nat.zero_le _, hv⟩
