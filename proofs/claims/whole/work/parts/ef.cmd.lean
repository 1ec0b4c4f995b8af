/-! mended: the class's tries are the reference's -/
section
variable {P : yP} {ls : List Nat}
theorem find_ext {α : Type} {p q : α → Bool} : ∀ {l : List α}, (∀ a, a ∈ l → p a = q a) → l.find? p = l.find? q := by
  intro l
  induction l with
  | nil => intro _; rfl
  | cons W l ih =>
    intro h
    rw [List.find?_cons, List.find?_cons, h W List.mem_cons_self, ih (fun V hV => h V (List.mem_cons_of_mem _ hV))]
theorem find_fil {α : Type} {p q : α → Bool} : ∀ (l : List α), (l.filter p).find? q = l.find? (fun a => p a && q a) := by
  intro l
  induction l with
  | nil => rfl
  | cons a l ih =>
    rw [List.filter_cons, List.find?_cons]
    cases hp : p a
    · simpa using ih
    · simp only [if_true, Bool.true_and]
      rw [List.find?_cons]
      cases q a
      · exact ih
      · rfl
theorem find_mp {α β : Type} {f : α → β} {q : β → Bool} : ∀ (l : List α), (l.map f).find? q = (l.find? (fun a => q (f a))).map f := by
  intro l
  induction l with
  | nil => rfl
  | cons a l ih =>
    rw [List.map_cons, List.find?_cons, List.find?_cons]
    cases q (f a)
    · exact ih
    · rfl
theorem find_fm {α β : Type} {f : α → List β} {q : β → Bool} : ∀ (l : List α), (l.flatMap f).find? q = l.findSome? (fun a => (f a).find? q) := by
  intro l
  induction l with
  | nil => rfl
  | cons a l ih =>
    rw [List.flatMap_cons, List.find?_append, List.findSome?_cons, ih]
    cases (f a).find? q <;> rfl
theorem some_ext {α β : Type} {f h : α → Option β} : ∀ {l : List α}, (∀ a, a ∈ l → f a = h a) → l.findSome? f = l.findSome? h := by
  intro l
  induction l with
  | nil => intro _; rfl
  | cons a l ih =>
    intro e
    rw [List.findSome?_cons, List.findSome?_cons, e a List.mem_cons_self, ih (fun x hx => e x (List.mem_cons_of_mem _ hx))]
theorem rng_app {m n : Nat} (h : m ≤ n) : List.range' 0 n = List.range' 0 m ++ List.range' m (n - m) := by
  have := List.range'_append (s := 0) (m := m) (n := n - m) (step := 1)
  rw [Nat.one_mul, Nat.zero_add, show m + (n - m) = n by omega] at this
  exact this.symm
theorem find_cut {m n : Nat} (h : m ≤ n) {p : Nat → Bool} (hp : ∀ k, m ≤ k → k < n → p k = false) : (List.range' 0 n).find? p = (List.range' 0 m).find? p := by
  rw [rng_app h, List.find?_append]
  have : (List.range' m (n - m)).find? p = none := by
    rw [List.find?_eq_none]
    intro k hk
    rw [List.mem_range'_1] at hk
    rw [hp k (by omega) (by omega)]
    simp
  rw [this, Option.or_none]
theorem some_cut {β : Type} {m n : Nat} (h : m ≤ n) {p : Nat → Option β} (hp : ∀ k, m ≤ k → k < n → p k = none) : (List.range' 0 n).findSome? p = (List.range' 0 m).findSome? p := by
  rw [rng_app h, List.findSome?_append]
  have : (List.range' m (n - m)).findSome? p = none := by
    rw [List.findSome?_eq_none_iff]
    intro k hk
    rw [List.mem_range'_1] at hk
    exact hp k (by omega) (by omega)
  rw [this, Option.or_none]
theorem el_find (kind k : Nat) : (py_el P ls kind k (List.range' 0 26)).find? (py_ts P ls) = ((List.range' 0 26).find? (fun l => (zbt (zor (py_ll P)) l && (decide (kind = 2) || ls[k]? != some l)) && py_ts P ls (kind, k, l))).map (fun l => (kind, k, l)) := by
  unfold py_el
  rw [find_mp, find_fil]
theorem pk_map (kind : Nat) (k m : Nat) : (List.range' k m).findSome? (fun k => (py_pl P ls kind (zor (py_ll P)) k 0 26).map (fun l => ((kind, k, l) : yE))) = (py_pk P ls kind (zor (py_ll P)) k m).map (fun x => (kind, x.1, x.2)) := by
  unfold py_pk
  generalize List.range' k m = L
  induction L with
  | nil => rfl
  | cons a L ih =>
    rw [List.findSome?_cons, List.findSome?_cons]
    cases py_pl P ls kind (zor (py_ll P)) a 0 26 with
    | none => exact ih
    | some l => rfl
theorem cm_md (P : yP) (ls : List Nat) : py_cm P ls = py_md P ls := by
  have h0 : (py_rn P ls py_s00).1.length ≤ ls.length := rn_le ls py_s00
  unfold py_cm py_md
  cases hw : py_wrd P ls
  · simp only [Bool.false_eq_true, if_false]
    have t1 : ∀ k, k < ls.length → py_ts P ls (1, k, 0) = if k ≤ (py_rn P ls py_s00).1.length then py_wf P (ls.drop (k + 1)) (py_at P ls k) else false := by
      intro k hk
      show py_wrd P (py_es 1 k 0 0 ls) = _
      rw [es_1 (by omega), wrd_at (by omega)]
    have t2 : ∀ k l, k ≤ ls.length → py_ts P ls (2, k, l) = if k ≤ (py_rn P ls py_s00).1.length then py_pi P ls 2 k l else false := by
      intro k l hk
      show py_wrd P (py_es 2 k l 0 ls) = _
      rw [es_2 hk, wrd_at hk]
      rfl
    have t3 : ∀ k l, k < ls.length → py_ts P ls (3, k, l) = if k ≤ (py_rn P ls py_s00).1.length then py_pi P ls 3 k l else false := by
      intro k l hk
      show py_wrd P (py_es 3 k l 0 ls) = _
      rw [es_3 (by omega), wrd_at (by omega)]
      rfl
    have f1 : (py_e1 ls).find? (py_ts P ls) = ((List.range' 0 (py_m1 P ls)).find? (fun k => py_wf P (ls.drop (k + 1)) (py_at P ls k))).map (fun k => ((1, k, 0) : yE)) := by
      unfold py_e1
      rw [find_mp, find_cut (show py_m1 P ls ≤ ls.length from Nat.min_le_right _ _) (fun k h1 h2 => by
        rw [t1 k h2, if_neg (by unfold py_m1 at h1; omega)])]
      congr 1
      refine find_ext ?_
      intro k hk
      rw [List.mem_range'_1] at hk
      have : k < py_m1 P ls := by omega
      unfold py_m1 at this
      rw [t1 k (by omega), if_pos (by omega)]
    have f2 : (py_e2 P ls 2 (List.range' 0 (ls.length + 1))).find? (py_ts P ls) = (py_pk P ls 2 (zor (py_ll P)) 0 ((py_rn P ls py_s00).1.length + 1)).map (fun x => ((2, x.1, x.2) : yE)) := by
      unfold py_e2
      rw [find_fm, some_cut (show (py_rn P ls py_s00).1.length + 1 ≤ ls.length + 1 by omega) (fun k h1 h2 => by
        rw [el_find, List.find?_eq_none.mpr (fun l _ => by
          rw [t2 k l (by omega), if_neg (by omega)]
          simp)]
        rfl), ← pk_map]
      refine some_ext ?_
      intro k hk
      rw [List.mem_range'_1] at hk
      rw [el_find]
      congr 1
      refine find_ext ?_
      intro l _
      rw [t2 k l (by omega), if_pos (by omega)]
      simp
    have f3 : (py_e2 P ls 3 (List.range' 0 ls.length)).find? (py_ts P ls) = (py_pk P ls 3 (zor (py_ll P)) 0 (py_m1 P ls)).map (fun x => ((3, x.1, x.2) : yE)) := by
      unfold py_e2
      rw [find_fm, some_cut (show py_m1 P ls ≤ ls.length from Nat.min_le_right _ _) (fun k h1 h2 => by
        rw [el_find, List.find?_eq_none.mpr (fun l _ => by
          rw [t3 k l h2, if_neg (by unfold py_m1 at h1; omega)]
          simp)]
        rfl), ← pk_map]
      refine some_ext ?_
      intro k hk
      rw [List.mem_range'_1] at hk
      have hm : k < py_m1 P ls := by omega
      unfold py_m1 at hm
      rw [el_find]
      congr 1
      refine find_ext ?_
      intro l _
      have ht := t3 k l (by omega)
      rw [if_pos (by omega)] at ht
      rw [ht]
      by_cases q : ls[k]? = some l
      · -- the same letter: the text itself, which is no word
        have hsame : py_pi P ls 3 k l = false := by
          rw [← ht]
          show py_wrd P (py_es 3 k l 0 ls) = false
          rw [es_3 (by omega)]
          have hd : ls.drop k = l :: ls.drop (k + 1) := by
            obtain ⟨hk1, hk2⟩ := List.getElem?_eq_some_iff.mp q
            rw [List.drop_eq_getElem_cons hk1, hk2]
          rw [← hd, List.take_append_drop]
          exact hw
        rw [hsame]
        simp
      · have : (ls[k]? != some l) = true := by simpa using q
        rw [this]
        simp
    unfold py_ea
    rw [List.find?_append, List.find?_append, f1, f2, f3]
    unfold py_cm2
    cases (List.range' 0 (py_m1 P ls)).find? (fun k => py_wf P (ls.drop (k + 1)) (py_at P ls k)) with
    | some k => rfl
    | none =>
      cases py_pk P ls 2 (zor (py_ll P)) 0 ((py_rn P ls py_s00).1.length + 1) with
      | some x => rfl
      | none =>
        cases py_pk P ls 3 (zor (py_ll P)) 0 (py_m1 P ls) with
        | some x => rfl
        | none => rfl
  · rfl
end
