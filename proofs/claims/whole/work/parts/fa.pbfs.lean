/-! BY WHICH WORD two rules part: sought level by level -/
/-- an entry: the one it came from, by which letter, its word -/
abbrev yJ : Type := Nat × Nat × List Nat
def py_kn (P Q : yP) (l : Nat) : Bool := zbt (zor (py_ll P) ||| zor (py_ll Q)) l
def py_isk (P Q : yP) (E : List yJ) (w : List Nat) : Bool := E.any (fun e => py_ka P Q e.2.2 == py_ka P Q w)
def py_dg (P Q : yP) (n p : Nat) (w : List Nat) : List Nat → List yJ → Option (List Nat) × List yJ
  | [], E => (none, E)
  | l :: ls, E => if py_kn P Q l then (if py_dif P Q (w ++ [l]) then (some (w ++ [l]), E) else py_dg P Q n p w ls (if py_alv P Q (w ++ [l]) && (decide (n < 4) && !py_isk P Q E (w ++ [l])) then E ++ [(p, l, w ++ [l])] else E)) else py_dg P Q n p w ls E
def py_wj (E : List yJ) (i : Nat) : List Nat := match E[i]? with
  | none => []
  | some e => e.2.2
def py_dw (P Q : yP) (n : Nat) : Nat → Nat → List yJ → Option (List Nat) × List yJ
  | 0, _, E => (none, E)
  | m + 1, i, E => match py_dg P Q n i (py_wj E i) (List.range' 0 26) E with
    | (some w, E') => (some w, E')
    | (none, E') => py_dw P Q n m (i + 1) E'
def py_dz (P Q : yP) : Nat → Nat → Nat → List yJ → Option (List Nat)
  | 0, _, _, _ => none
  | f + 1, n, b, E => match py_dw P Q n (E.length - b) b E with
    | (some w, _) => some w
    | (none, E') => py_dz P Q f (n + 1) E.length E'
/-- entries hang together -/
def dj_ok (P Q : yP) (E : List yJ) : Prop := E[0]? = some (0, 0, []) ∧ (∀ (i : Nat) (e : yJ), E[i]? = some e → w26 e.2.2 ∧ e.2.2.length ≤ 3 ∧ py_alv P Q e.2.2 = true ∧ e.2.1 < 26 ∧ (0 < i → e.1 < i ∧ ∃ e', E[e.1]? = some e' ∧ e.2.2 = e'.2.2 ++ [e.2.1])) ∧ (E.map (fun e => py_ka P Q e.2.2)).Nodup
section
theorem nd_sub {α : Type} [DecidableEq α] : ∀ (l m : List α), l.Nodup → (∀ x, x ∈ l → x ∈ m) → l.length ≤ m.length := by
  intro l
  induction l with
  | nil => intro m _ _; exact Nat.zero_le _
  | cons a l ih =>
    intro m hn hs
    have ha := hs a List.mem_cons_self
    obtain ⟨hn1, hn2⟩ := List.nodup_cons.mp hn
    have h1 := ih (m.erase a) hn2 (by
      intro x hx
      have hne : x ≠ a := by intro e; rw [e] at hx; exact hn1 hx
      exact (List.mem_erase_of_ne hne).mpr (hs x (List.mem_cons_of_mem _ hx)))
    rw [List.length_erase_of_mem ha] at h1
    have : 0 < m.length := List.length_pos_of_mem ha
    rw [List.length_cons]
    omega
variable {P Q : yP}
/-- all words of n letters of a rule -/
def py_aw (P : yP) : Nat → List (List Nat)
  | 0 => [[]]
  | n + 1 => (py_aw P n).flatMap (fun w => (py_ll P).map (fun l => w ++ [l]))
theorem aw_len (hP : py_ok P) : ∀ n, (py_aw P n).length ≤ 16 ^ n := by
  have hl : (py_ll P).length ≤ 16 := by
    unfold py_ll
    rw [List.length_map, List.length_range']
    exact ok_nl hP
  intro n
  induction n with
  | zero => exact Nat.le_refl _
  | succ n ih =>
    have key : ∀ L : List (List Nat), (L.flatMap (fun w => (py_ll P).map (fun l => w ++ [l]))).length ≤ L.length * 16 := by
      intro L
      induction L with
      | nil => exact Nat.le_refl _
      | cons w L ihL =>
        rw [List.flatMap_cons, List.length_append, List.length_map, List.length_cons, Nat.add_mul]
        omega
    rw [py_aw, Nat.pow_succ]
    exact Nat.le_trans (key _) (Nat.mul_le_mul_right _ ih)
theorem aw_mem (hP : py_ok P) : ∀ (n : Nat) (w : List Nat), w.length = n → (py_rs P w).isSome = true → w ∈ py_aw P n := by
  intro n
  induction n with
  | zero =>
    intro w hw _
    rw [List.eq_nil_of_length_eq_zero hw]
    exact List.mem_singleton.mpr rfl
  | succ n ih =>
    intro w hw h
    have hne : w ≠ [] := by intro e; rw [e] at hw; cases hw
    obtain ⟨u, l, e⟩ : ∃ u l, w = u ++ [l] := ⟨w.dropLast, w.getLast hne, (List.dropLast_concat_getLast hne).symm⟩
    subst e
    obtain ⟨h1, _, h2⟩ := os_ll hP h
    rw [py_aw, List.mem_flatMap]
    exact ⟨u, ih u (by simp at hw; omega) h2, List.mem_map.mpr ⟨l, h1, rfl⟩⟩
theorem dj_len (hP : py_ok P) (hQ : py_ok Q) {E : List yJ} (h : dj_ok P Q E) : E.length ≤ 8738 := by
  have hnd : (E.map (fun e => e.2.2)).Nodup := by
    have h3 := h.2.2
    have e : E.map (fun e => py_ka P Q e.2.2) = (E.map (fun e => e.2.2)).map (py_ka P Q) := by rw [List.map_map]; rfl
    rw [e] at h3
    exact List.Pairwise.of_map (py_ka P Q) (fun a b hab => fun e2 => hab (by rw [e2])) h3
  have hs := nd_sub (E.map (fun e => e.2.2)) ((py_aw P 0 ++ py_aw P 1 ++ py_aw P 2 ++ py_aw P 3) ++ (py_aw Q 0 ++ py_aw Q 1 ++ py_aw Q 2 ++ py_aw Q 3)) hnd (by
    intro x hx
    obtain ⟨e, he, rfl⟩ := List.mem_map.mp hx
    obtain ⟨i, hi, rfl⟩ := List.getElem_of_mem he
    obtain ⟨_, k2, k3, _⟩ := h.2.1 i _ (List.getElem?_eq_getElem hi)
    have hl : E[i].2.2.length = 0 ∨ E[i].2.2.length = 1 ∨ E[i].2.2.length = 2 ∨ E[i].2.2.length = 3 := by omega
    unfold py_alv at k3
    rw [Bool.or_eq_true] at k3
    simp only [List.mem_append]
    rcases k3 with k3 | k3
    · rcases hl with q | q | q | q
      · exact .inl (.inl (.inl (.inl (aw_mem hP 0 _ q k3))))
      · exact .inl (.inl (.inl (.inr (aw_mem hP 1 _ q k3))))
      · exact .inl (.inl (.inr (aw_mem hP 2 _ q k3)))
      · exact .inl (.inr (aw_mem hP 3 _ q k3))
    · rcases hl with q | q | q | q
      · exact .inr (.inl (.inl (.inl (aw_mem hQ 0 _ q k3))))
      · exact .inr (.inl (.inl (.inr (aw_mem hQ 1 _ q k3))))
      · exact .inr (.inl (.inr (aw_mem hQ 2 _ q k3)))
      · exact .inr (.inr (aw_mem hQ 3 _ q k3)))
  rw [List.length_map] at hs
  simp only [List.length_append] at hs
  have a0 := aw_len hP 0
  have a1 := aw_len hP 1
  have a2 := aw_len hP 2
  have a3 := aw_len hP 3
  have b0 := aw_len hQ 0
  have b1 := aw_len hQ 1
  have b2 := aw_len hQ 2
  have b3 := aw_len hQ 3
  have e2 : (16 : Nat) ^ 2 = 256 := by decide
  have e3 : (16 : Nat) ^ 3 = 4096 := by decide
  rw [e2] at a2 b2
  rw [e3] at a3 b3
  simp only [Nat.pow_zero, Nat.pow_one] at a0 a1 b0 b1
  omega
theorem isk_mem {E : List yJ} {w : List Nat} : py_isk P Q E w = true ↔ ∃ e, e ∈ E ∧ py_ka P Q e.2.2 = py_ka P Q w := by
  unfold py_isk
  rw [List.any_eq_true]
  constructor
  · rintro ⟨e, h1, h2⟩
    exact ⟨e, h1, by simpa using h2⟩
  · rintro ⟨e, h1, h2⟩
    exact ⟨e, h1, by simpa using h2⟩
/-- a new entry -/
theorem dj_add {E : List yJ} {p l : Nat} {e0 : yJ} (h : dj_ok P Q E) (hp : E[p]? = some e0) (hl : l < 26) (h3 : e0.2.2.length ≤ 2) (ha : py_alv P Q (e0.2.2 ++ [l]) = true) (hk : py_isk P Q E (e0.2.2 ++ [l]) = false) : dj_ok P Q (E ++ [(p, l, e0.2.2 ++ [l])]) := by
  have hpl := (List.getElem?_eq_some_iff.mp hp).1
  refine ⟨?_, ?_, ?_⟩
  · rw [List.getElem?_append_left (by omega)]; exact h.1
  · intro i e he
    by_cases q : i < E.length
    · rw [List.getElem?_append_left q] at he
      obtain ⟨k1, k2, k3, k4, k5⟩ := h.2.1 i e he
      refine ⟨k1, k2, k3, k4, fun h0 => ?_⟩
      obtain ⟨m1, e', m2, m3⟩ := k5 h0
      exact ⟨m1, e', by rw [List.getElem?_append_left (by omega)]; exact m2, m3⟩
    · have hil := (List.getElem?_eq_some_iff.mp he).1
      rw [List.length_append, List.length_singleton] at hil
      have hi : i = E.length := by omega
      subst hi
      rw [List.getElem?_append_right (Nat.le_refl _), Nat.sub_self] at he
      injection he with he
      subst he
      refine ⟨?_, ?_, ha, hl, fun _ => ⟨hpl, e0, by rw [List.getElem?_append_left hpl]; exact hp, rfl⟩⟩
      · intro x hx
        rcases List.mem_append.mp hx with q | q
        · exact (h.2.1 p e0 hp).1 x q
        · rw [List.mem_singleton.mp q]; exact hl
      · show (e0.2.2 ++ [l]).length ≤ 3
        rw [List.length_append, List.length_singleton]
        omega
  · rw [List.map_append, List.nodup_append]
    refine ⟨h.2.2, by simp, ?_⟩
    intro a ha1 b hb e
    rw [List.map_singleton, List.mem_singleton] at hb
    obtain ⟨e1, he1, rfl⟩ := List.mem_map.mp ha1
    have : py_isk P Q E (e0.2.2 ++ [l]) = true := isk_mem.mpr ⟨e1, he1, by rw [e, hb]⟩
    rw [hk] at this
    cases this
theorem dj_0 : dj_ok P Q [(0, 0, [])] := by
  refine ⟨rfl, ?_, by simp⟩
  intro i e he
  cases i with
  | zero =>
    injection he with he
    subst he
    exact ⟨fun x hx => (by cases hx), Nat.zero_le _, rfl, by show 0 < 26; omega, fun h => by omega⟩
  | succ i => cases he
end
