/-! BY WHICH WORD two rules part: level by level finds it -/
def bg_i (P Q : yP) (n b N i l : Nat) (F : List yJ) : Prop :=
  dj_ok P Q F ∧ (N ≤ F.length ∧ b ≤ N ∧ i ≤ N ∧ b ≤ i) ∧
  (∀ u, w26 u → u.length < n → py_dif P Q u = false) ∧
  (∀ u, w26 u → u.length < n → py_alv P Q u = true → ∃ (j : Nat) (e : yJ), F[j]? = some e ∧ py_ka P Q e.2.2 = py_ka P Q u ∧ (e.2.2.length < u.length ∨ (e.2.2.length = u.length ∧ py_nm e.2.2 ≤ py_nm u))) ∧
  (∀ (j : Nat) (e : yJ), F[j]? = some e → (j < b → e.2.2.length + 1 < n) ∧ (b ≤ j → j < N → e.2.2.length + 1 = n) ∧ (N ≤ j → e.2.2.length = n)) ∧
  (∀ (j k : Nat) (e e' : yJ), j < k → F[j]? = some e → F[k]? = some e' → e.2.2.length = e'.2.2.length → py_nm e.2.2 < py_nm e'.2.2) ∧
  (∀ (j : Nat) (e : yJ), b ≤ j → j < N → F[j]? = some e → ∀ x, x < 26 → (j < i ∨ (j = i ∧ x < l)) → py_dif P Q (e.2.2 ++ [x]) = false ∧ (py_alv P Q (e.2.2 ++ [x]) = true → n < 4 → ∃ (k : Nat) (e2 : yJ), F[k]? = some e2 ∧ py_ka P Q e2.2.2 = py_ka P Q (e.2.2 ++ [x]) ∧ (e2.2.2.length < n ∨ (e2.2.2.length = n ∧ py_nm e2.2.2 ≤ py_nm (e.2.2 ++ [x]))))) ∧
  (∀ (k : Nat) (e : yJ), N ≤ k → F[k]? = some e → ∃ (j x : Nat) (w : yJ), b ≤ j ∧ j < N ∧ F[j]? = some w ∧ x < 26 ∧ e.2.2 = w.2.2 ++ [x] ∧ (j < i ∨ (j = i ∧ x < l)))
section
variable {P Q : yP}
theorem w26_snoc {u : List Nat} {x : Nat} (h : w26 (u ++ [x])) : w26 u ∧ x < 26 := ⟨fun y hy => h y (List.mem_append.mpr (.inl hy)), h x (List.mem_append.mpr (.inr (List.mem_singleton.mpr rfl)))⟩
theorem snoc_of {u : List Nat} {n : Nat} (h : u.length = n + 1) : ∃ v x, u = v ++ [x] ∧ v.length = n := by
  have hne : u ≠ [] := by intro e; rw [e] at h; cases h
  refine ⟨u.dropLast, u.getLast hne, (List.dropLast_concat_getLast hne).symm, ?_⟩
  rw [List.length_dropLast]
  omega
theorem kn_alv (hP : py_ok P) (hQ : py_ok Q) {u : List Nat} {l : Nat} (h : py_kn P Q l = false) : py_alv P Q (u ++ [l]) = false := by
  have h32 : ∀ (R : yP), py_ok R → ∀ q, q ∈ py_ll R → q < 32 := by
    intro R hR q hq
    unfold py_ll at hq
    obtain ⟨o, ho, rfl⟩ := List.mem_map.mp hq
    rw [List.mem_range'_1] at ho
    have := ok_lt hR (show o < py_nl R by omega)
    omega
  unfold py_alv
  cases h1 : (py_rs P (u ++ [l])).isSome with
  | true =>
    obtain ⟨k1, k2, _⟩ := os_ll hP h1
    unfold py_kn at h
    rw [zy_or, zor_bt (h32 P hP) (by omega)] at h
    have : (py_ll P).contains l = true := List.contains_iff_mem.mpr k1
    rw [this] at h
    cases h
  | false =>
    cases h2 : (py_rs Q (u ++ [l])).isSome with
    | true =>
      obtain ⟨k1, k2, _⟩ := os_ll hQ h2
      unfold py_kn at h
      rw [zy_or, zor_bt (h32 Q hQ) (by omega)] at h
      have : (py_ll Q).contains l = true := List.contains_iff_mem.mpr k1
      rw [this, Bool.or_true] at h
      cases h
    | false => rfl
/-- a letter is done -/
theorem bg_step (hP : py_ok P) (hQ : py_ok Q) {n b N i l : Nat} {F : List yJ} {e0 : yJ} (h : bg_i P Q n b N i l F) (hi : i < N) (he : F[i]? = some e0) (hl : l < 26) (hn : n ≤ 4) (hnd : py_dif P Q (e0.2.2 ++ [l]) = false) : bg_i P Q n b N i (l + 1) (if py_alv P Q (e0.2.2 ++ [l]) && (decide (n < 4) && !py_isk P Q F (e0.2.2 ++ [l])) then F ++ [(i, l, e0.2.2 ++ [l])] else F) := by
  obtain ⟨c0, ⟨d1, d2, d3, d4⟩, c1, c2, c3, c4, c5, c6⟩ := h
  have hlen := (c3 i e0 he).2.1 d4 hi
  have w0 := (c0.2.1 i e0 he).1
  by_cases q : (py_alv P Q (e0.2.2 ++ [l]) && (decide (n < 4) && !py_isk P Q F (e0.2.2 ++ [l]))) = true
  · rw [if_pos q]
    rw [Bool.and_eq_true, Bool.and_eq_true, decide_eq_true_eq] at q
    obtain ⟨q1, q2, q3⟩ := q
    have q3 : py_isk P Q F (e0.2.2 ++ [l]) = false := by simpa using q3
    have hnew : ∀ (j : Nat) (e : yJ), (F ++ [(i, l, e0.2.2 ++ [l])])[j]? = some e → F[j]? = some e ∨ (j = F.length ∧ e = (i, l, e0.2.2 ++ [l])) := by
      intro j e hj
      by_cases qj : j < F.length
      · rw [List.getElem?_append_left qj] at hj
        exact .inl hj
      · have hjl := (List.getElem?_eq_some_iff.mp hj).1
        rw [List.length_append, List.length_singleton] at hjl
        have : j = F.length := by omega
        subst this
        rw [List.getElem?_append_right (Nat.le_refl _), Nat.sub_self] at hj
        injection hj with hj
        exact .inr ⟨rfl, hj.symm⟩
    have hold : ∀ (j : Nat) (e : yJ), F[j]? = some e → (F ++ [(i, l, e0.2.2 ++ [l])])[j]? = some e := by
      intro j e hj
      have := (List.getElem?_eq_some_iff.mp hj).1
      rw [List.getElem?_append_left this]
      exact hj
    have hlast : (F ++ [(i, l, e0.2.2 ++ [l])])[F.length]? = some (i, l, e0.2.2 ++ [l]) := by
      rw [List.getElem?_append_right (Nat.le_refl _), Nat.sub_self]
      rfl
    have hnl : (e0.2.2 ++ [l]).length = n := by rw [List.length_append, List.length_singleton]; omega
    refine ⟨dj_add c0 he hl (by omega) q1 q3, ⟨by rw [List.length_append, List.length_singleton]; omega, d2, d3, d4⟩, c1, ?_, ?_, ?_, ?_, ?_⟩
    · intro u h1 h2 h3
      obtain ⟨j, e, k1, k2⟩ := c2 u h1 h2 h3
      exact ⟨j, e, hold j e k1, k2⟩
    · intro j e hj
      rcases hnew j e hj with hj | ⟨hj, hee⟩
      · exact c3 j e hj
      · subst hj
        rw [hee]
        exact ⟨fun q => by omega, fun _ q => by omega, fun _ => hnl⟩
    · intro j k e e' hjk hj hk hlen2
      have hkl := (List.getElem?_eq_some_iff.mp hk).1
      rw [List.length_append, List.length_singleton] at hkl
      have hj' : F[j]? = some e := by
        rcases hnew j e hj with h | ⟨h, _⟩
        · exact h
        · omega
      rcases hnew k e' hk with hk | ⟨hk, hee⟩
      · exact c4 j k e e' hjk hj' hk hlen2
      · rw [hee] at hlen2 ⊢
        have hel : e.2.2.length = n := by rw [hlen2]; exact hnl
        show py_nm e.2.2 < py_nm (e0.2.2 ++ [l])
        by_cases qN : N ≤ j
        · obtain ⟨j2, x, w, m1, m2, m3, m4, m5, m6⟩ := c6 j e qN hj'
          rw [m5, nm_snoc, nm_snoc]
          rcases m6 with m6 | ⟨m6, m7⟩
          · have hwl := (c3 j2 w m3).2.1 m1 m2
            have := c4 j2 i w e0 m6 m3 he (by omega)
            omega
          · subst m6
            rw [m3] at he
            injection he with he
            rw [he]
            omega
        · exfalso
          by_cases qb : j < b
          · have := (c3 j e hj').1 qb
            omega
          · have := (c3 j e hj').2.1 (by omega) (by omega)
            omega
    · intro j e hb hN hj x hx hjx
      have hj' : F[j]? = some e := by
        rcases hnew j e hj with h | ⟨h, _⟩
        · exact h
        · omega
      by_cases qx : j < i ∨ (j = i ∧ x < l)
      · obtain ⟨k1, k2⟩ := c5 j e hb hN hj' x hx qx
        refine ⟨k1, fun h1 h2 => ?_⟩
        obtain ⟨k, e2, m1, m2⟩ := k2 h1 h2
        exact ⟨k, e2, hold k e2 m1, m2⟩
      · have hji : j = i ∧ x = l := by omega
        obtain ⟨rfl, rfl⟩ := hji
        rw [hj'] at he
        injection he with he
        subst he
        refine ⟨hnd, fun _ _ => ⟨F.length, _, hlast, rfl, .inr ⟨hnl, Nat.le_refl _⟩⟩⟩
    · intro k e hk1 hk2
      rcases hnew k e hk2 with hk | ⟨hk, hee⟩
      · obtain ⟨j, x, w, m1, m2, m3, m4, m5, m6⟩ := c6 k e hk1 hk
        exact ⟨j, x, w, m1, m2, hold j w m3, m4, m5, by omega⟩
      · rw [hee]
        exact ⟨i, l, e0, d4, hi, hold i e0 he, hl, rfl, .inr ⟨rfl, by omega⟩⟩
  · rw [if_neg q]
    refine ⟨c0, ⟨d1, d2, d3, d4⟩, c1, c2, c3, c4, ?_, ?_⟩
    · intro j e hb hN hj x hx hjx
      by_cases qx : j < i ∨ (j = i ∧ x < l)
      · exact c5 j e hb hN hj x hx qx
      · have hji : j = i ∧ x = l := by omega
        obtain ⟨rfl, rfl⟩ := hji
        rw [hj] at he
        injection he with he
        subst he
        refine ⟨hnd, fun h1 h2 => ?_⟩
        have hk : py_isk P Q F (e.2.2 ++ [x]) = true := by
          cases hk : py_isk P Q F (e.2.2 ++ [x]) with
          | true => rfl
          | false =>
            exfalso
            refine q ?_
            rw [h1, hk, decide_eq_true h2]
            rfl
        obtain ⟨e2, m1, m2⟩ := isk_mem.mp hk
        obtain ⟨k, hkl, rfl⟩ := List.getElem_of_mem m1
        refine ⟨k, F[k], List.getElem?_eq_getElem hkl, m2, ?_⟩
        by_cases qN : N ≤ k
        · have hkn := (c3 k _ (List.getElem?_eq_getElem hkl)).2.2 qN
          refine .inr ⟨hkn, ?_⟩
          obtain ⟨j2, y, w, n1, n2, n3, n4, n5, n6⟩ := c6 k _ qN (List.getElem?_eq_getElem hkl)
          rw [n5, nm_snoc, nm_snoc]
          rcases n6 with n6 | ⟨n6, n7⟩
          · have hwl := (c3 j2 w n3).2.1 n1 n2
            have := c4 j2 j w e n6 n3 hj (by omega)
            omega
          · subst n6
            rw [n3] at hj
            injection hj with hj
            rw [hj]
            omega
        · refine .inl ?_
          by_cases qb : k < b
          · have := (c3 k _ (List.getElem?_eq_getElem hkl)).1 qb
            omega
          · have := (c3 k _ (List.getElem?_eq_getElem hkl)).2.1 (by omega) (by omega)
            omega
    · intro k e hk1 hk2
      obtain ⟨j, x, w, m1, m2, m3, m4, m5, m6⟩ := c6 k e hk1 hk2
      exact ⟨j, x, w, m1, m2, m3, m4, m5, by omega⟩
theorem bg_next {n b N i : Nat} {F : List yJ} (h : bg_i P Q n b N i 26 F) (hi : i < N) : bg_i P Q n b N (i + 1) 0 F := by
  obtain ⟨c0, ⟨d1, d2, d3, d4⟩, c1, c2, c3, c4, c5, c6⟩ := h
  refine ⟨c0, ⟨d1, d2, by omega, by omega⟩, c1, c2, c3, c4, ?_, ?_⟩
  · intro j e hb hN hj x hx hjx
    exact c5 j e hb hN hj x hx (by omega)
  · intro k e hk1 hk2
    obtain ⟨j, x, w, m1, m2, m3, m4, m5, m6⟩ := c6 k e hk1 hk2
    exact ⟨j, x, w, m1, m2, m3, m4, m5, by omega⟩
/-- a word that parts them, of this level, has its beginning among the entries -/
theorem bg_rep (hP : py_ok P) (hQ : py_ok Q) {n b N i l : Nat} {F : List yJ} (h : bg_i P Q n b N i l F) {v : List Nat} {x : Nat} (hv : w26 (v ++ [x])) (hlen : (v ++ [x]).length = n) (hd : py_dif P Q (v ++ [x]) = true) : ∃ (j : Nat) (e : yJ), b ≤ j ∧ j < N ∧ F[j]? = some e ∧ py_nm e.2.2 ≤ py_nm v ∧ py_dif P Q (e.2.2 ++ [x]) = true := by
  obtain ⟨c0, ⟨d1, d2, d3, d4⟩, c1, c2, c3, c4, c5, c6⟩ := h
  obtain ⟨v26, x26⟩ := w26_snoc hv
  rw [List.length_append, List.length_singleton] at hlen
  have ha := alv_pre (dif_alv hd)
  obtain ⟨j, e, k1, k2, k3⟩ := c2 v v26 (by omega) ha
  obtain ⟨n1, n2, n3⟩ := ka_next hP hQ k2
  have hde : py_dif P Q (e.2.2 ++ [x]) = true := by rw [(ka_next hP hQ (n3 x)).1]; exact hd
  have e26 := (c0.2.1 j e k1).1
  rcases k3 with k3 | ⟨k3, k4⟩
  · exfalso
    have hw : w26 (e.2.2 ++ [x]) := by
      intro y hy
      rcases List.mem_append.mp hy with q | q
      · exact e26 y q
      · rw [List.mem_singleton.mp q]; exact x26
    have := c1 (e.2.2 ++ [x]) hw (by rw [List.length_append, List.length_singleton]; omega)
    rw [hde] at this
    cases this
  · have hj1 : ¬ j < b := fun q => by have := (c3 j e k1).1 q; omega
    have hj2 : ¬ N ≤ j := fun q => by have := (c3 j e k1).2.2 q; omega
    exact ⟨j, e, by omega, by omega, k1, k4, hde⟩
theorem bg_found (hP : py_ok P) (hQ : py_ok Q) {n b N i l : Nat} {F : List yJ} {e0 : yJ} (h : bg_i P Q n b N i l F) (hi : i < N) (he : F[i]? = some e0) (hl : l < 26) (hn : n ≤ 4) (hd : py_dif P Q (e0.2.2 ++ [l]) = true) : py_ul P Q (List.range' 0 5) = some (e0.2.2 ++ [l]) := by
  have h0 := h
  obtain ⟨c0, ⟨d1, d2, d3, d4⟩, c1, c2, c3, c4, c5, c6⟩ := h
  have hlen := (c3 i e0 he).2.1 d4 hi
  have w0 := (c0.2.1 i e0 he).1
  have hnl : (e0.2.2 ++ [l]).length = n := by rw [List.length_append, List.length_singleton]; omega
  refine ul_some ?_ (by omega) hd ?_ ?_
  · intro y hy
    rcases List.mem_append.mp hy with q | q
    · exact w0 y q
    · rw [List.mem_singleton.mp q]; exact hl
  · intro u hu hul
    exact c1 u hu (by omega)
  · intro u hu hul hud
    rw [hnl] at hul
    obtain ⟨v, x, rfl, hvl⟩ := snoc_of (show u.length = (n - 1) + 1 by omega)
    obtain ⟨j, e, k1, k2, k3, k4, k5⟩ := bg_rep hP hQ h0 hu hul hud
    have x26 := (w26_snoc hu).2
    have hno : ¬ (j < i ∨ (j = i ∧ x < l)) := by
      intro q
      have := (c5 j e k1 k2 k3 x x26 q).1
      rw [k5] at this
      cases this
    rw [nm_snoc, nm_snoc]
    by_cases q : j = i
    · subst q
      rw [k3] at he
      injection he with he
      subst he
      have : ¬ x < l := fun q => hno (.inr ⟨rfl, q⟩)
      omega
    · have hji : i < j := by omega
      have hel := (c3 j e k3).2.1 k1 k2
      have := c4 i j e0 e hji he k3 (by omega)
      omega
theorem bg_level (hP : py_ok P) (hQ : py_ok Q) {n b N : Nat} {F : List yJ} (h : bg_i P Q n b N N 0 F) (hn1 : 1 ≤ n) (hn : n ≤ 4) : (∀ u, w26 u → u.length < n + 1 → py_dif P Q u = false) ∧ (n < 4 → bg_i P Q (n + 1) N F.length N 0 F) := by
  have h0 := h
  obtain ⟨c0, ⟨d1, d2, d3, d4⟩, c1, c2, c3, c4, c5, c6⟩ := h
  have j1 : ∀ u, w26 u → u.length < n + 1 → py_dif P Q u = false := by
    intro u hu hul
    by_cases q : u.length < n
    · exact c1 u hu q
    · obtain ⟨v, x, rfl, hvl⟩ := snoc_of (show u.length = (n - 1) + 1 by omega)
      cases hd : py_dif P Q (v ++ [x]) with
      | false => rfl
      | true =>
        exfalso
        obtain ⟨j, e, k1, k2, k3, k4, k5⟩ := bg_rep hP hQ h0 hu (by omega) hd
        have := (c5 j e k1 k2 k3 x (w26_snoc hu).2 (.inl k2)).1
        rw [k5] at this
        cases this
  refine ⟨j1, fun hn4 => ?_⟩
  refine ⟨c0, ⟨Nat.le_refl _, d1, d1, Nat.le_refl _⟩, j1, ?_, ?_, c4, ?_, ?_⟩
  · intro u hu hul ha
    by_cases q : u.length < n
    · exact c2 u hu q ha
    · obtain ⟨v, x, rfl, hvl⟩ := snoc_of (show u.length = (n - 1) + 1 by omega)
      obtain ⟨v26, x26⟩ := w26_snoc hu
      obtain ⟨j, e, k1, k2, k3⟩ := c2 v v26 (by omega) (alv_pre ha)
      obtain ⟨n1, n2, n3⟩ := ka_next hP hQ k2
      have hax : py_alv P Q (e.2.2 ++ [x]) = true := by rw [(ka_next hP hQ (n3 x)).2.1]; exact ha
      have e26 := (c0.2.1 j e k1).1
      have hw : w26 (e.2.2 ++ [x]) := by
        intro y hy
        rcases List.mem_append.mp hy with q | q
        · exact e26 y q
        · rw [List.mem_singleton.mp q]; exact x26
      rcases k3 with k3 | ⟨k3, k4⟩
      · obtain ⟨j2, e2, m1, m2, m3⟩ := c2 (e.2.2 ++ [x]) hw (by rw [List.length_append, List.length_singleton]; omega) hax
        refine ⟨j2, e2, m1, by rw [m2, n3 x], .inl ?_⟩
        rw [List.length_append, List.length_singleton] at m3 ⊢
        rcases m3 with m3 | ⟨m3, _⟩ <;> omega
      · have hj1 : ¬ j < b := fun q => by have := (c3 j e k1).1 q; omega
        have hj2 : ¬ N ≤ j := fun q => by have := (c3 j e k1).2.2 q; omega
        obtain ⟨k, e2, m1, m2, m3⟩ := (c5 j e (by omega) (by omega) k1 x x26 (.inl (by omega))).2 hax hn4
        refine ⟨k, e2, m1, by rw [m2, n3 x], ?_⟩
        rw [List.length_append, List.length_singleton]
        rcases m3 with m3 | ⟨m3, m4⟩
        · exact .inl (by omega)
        · refine .inr ⟨by omega, ?_⟩
          rw [nm_snoc] at m4 ⊢
          omega
  · intro j e hj
    have hjl := (List.getElem?_eq_some_iff.mp hj).1
    obtain ⟨k1, k2, k3⟩ := c3 j e hj
    refine ⟨fun q => ?_, fun q _ => ?_, fun q => ?_⟩
    · by_cases qb : j < b
      · have := k1 qb; omega
      · have := k2 (by omega) q; omega
    · have := k3 q; omega
    · omega
  · intro j e hb hN hj x hx hjx
    omega
  · intro k e hk1 hk2
    have := (List.getElem?_eq_some_iff.mp hk2).1
    omega
theorem dg_ok (hP : py_ok P) (hQ : py_ok Q) {n b N i : Nat} {e0 : yJ} (hi : i < N) (hn : n ≤ 4) : ∀ (m l : Nat) (F : List yJ), l + m = 26 → bg_i P Q n b N i l F → F[i]? = some e0 → (∀ w, (py_dg P Q n i e0.2.2 (List.range' l m) F).1 = some w → py_ul P Q (List.range' 0 5) = some w) ∧ ((py_dg P Q n i e0.2.2 (List.range' l m) F).1 = none → bg_i P Q n b N (i + 1) 0 (py_dg P Q n i e0.2.2 (List.range' l m) F).2) := by
  intro m
  induction m with
  | zero =>
    intro l F e h he
    have hl : l = 26 := by omega
    subst hl
    refine ⟨fun w hw => (by cases hw), fun _ => bg_next h hi⟩
  | succ m ih =>
    intro l F e h he
    have hl : l < 26 := by omega
    rw [List.range'_succ, py_dg]
    have hst : ∀ F', F' = (if py_alv P Q (e0.2.2 ++ [l]) && (decide (n < 4) && !py_isk P Q F (e0.2.2 ++ [l])) then F ++ [(i, l, e0.2.2 ++ [l])] else F) → F'[i]? = some e0 := by
      intro F' hF
      rw [hF]
      split
      · rw [List.getElem?_append_left ((List.getElem?_eq_some_iff.mp he).1)]; exact he
      · exact he
    cases hk : py_kn P Q l with
    | false =>
      rw [if_neg (by decide)]
      have hna := kn_alv hP hQ (u := e0.2.2) hk
      have hnd : py_dif P Q (e0.2.2 ++ [l]) = false := by
        cases hd : py_dif P Q (e0.2.2 ++ [l]) with
        | false => rfl
        | true => rw [dif_alv hd] at hna; cases hna
      have h1 := bg_step hP hQ h hi he hl hn hnd
      rw [hna] at h1
      exact ih (l + 1) F (by omega) h1 he
    | true =>
      rw [if_pos rfl]
      cases hd : py_dif P Q (e0.2.2 ++ [l]) with
      | true =>
        rw [if_pos rfl]
        refine ⟨fun w hw => ?_, fun hw => (by cases hw)⟩
        injection hw with hw
        rw [← hw]
        exact bg_found hP hQ h hi he hl hn hd
      | false =>
        rw [if_neg (by decide)]
        exact ih (l + 1) _ (by omega) (bg_step hP hQ h hi he hl hn hd) (hst _ rfl)
theorem dw_ok (hP : py_ok P) (hQ : py_ok Q) {n b N : Nat} (hn : n ≤ 4) : ∀ (m i : Nat) (F : List yJ), i + m = N → bg_i P Q n b N i 0 F → (∀ w, (py_dw P Q n m i F).1 = some w → py_ul P Q (List.range' 0 5) = some w) ∧ ((py_dw P Q n m i F).1 = none → bg_i P Q n b N N 0 (py_dw P Q n m i F).2) := by
  intro m
  induction m with
  | zero =>
    intro i F e h
    have hi : i = N := by omega
    subst hi
    exact ⟨fun w hw => (by cases hw), fun _ => h⟩
  | succ m ih =>
    intro i F e h
    have hi : i < N := by omega
    have hNF := h.2.1.1
    obtain ⟨e0, he⟩ : ∃ e, F[i]? = some e := ⟨F[i]'(by omega), List.getElem?_eq_getElem _⟩
    have hwj : py_wj F i = e0.2.2 := by unfold py_wj; rw [he]
    obtain ⟨k1, k2⟩ := dg_ok hP hQ hi hn 26 0 F rfl h he
    rw [py_dw, hwj]
    cases hg : py_dg P Q n i e0.2.2 (List.range' 0 26) F with
    | mk a F' =>
      rw [hg] at k1 k2
      cases a with
      | some w =>
        refine ⟨fun w' hw' => ?_, fun hw => (by cases hw)⟩
        injection hw' with hw'
        rw [← hw']
        exact k1 w rfl
      | none => exact ih (i + 1) F' (by omega) (k2 rfl)
theorem dz_ok (hP : py_ok P) (hQ : py_ok Q) : ∀ (f n b : Nat) (F : List yJ), n + f = 5 → 1 ≤ n → bg_i P Q n b F.length b 0 F → 1 ≤ f → py_dz P Q f n b F = py_ul P Q (List.range' 0 5) := by
  intro f
  induction f with
  | zero => intro n b F e hn h hf; omega
  | succ f ih =>
    intro n b F e hn h _
    have hb := h.2.1.2.1
    obtain ⟨k1, k2⟩ := dw_ok hP hQ (show n ≤ 4 by omega) (F.length - b) b F (by omega) h
    rw [py_dz]
    cases hg : py_dw P Q n (F.length - b) b F with
    | mk a F' =>
      rw [hg] at k1 k2
      cases a with
      | some w => exact (k1 w rfl).symm
      | none =>
        obtain ⟨j1, j2⟩ := bg_level hP hQ (k2 rfl) hn (by omega)
        by_cases q : n < 4
        · exact ih (n + 1) F.length F' (by omega) (by omega) (j2 q) (by omega)
        · have hf0 : f = 0 := by omega
          subst hf0
          rw [ul_none (fun u hu hul => j1 u hu (by omega))]
          rfl
theorem bg_0 (h : py_dif P Q [] = false) : bg_i P Q 1 0 1 0 0 [(0, 0, [])] := by
  refine ⟨dj_0, ⟨Nat.le_refl _, by omega, by omega, by omega⟩, ?_, ?_, ?_, ?_, ?_, ?_⟩
  · intro u hu hul
    rw [List.eq_nil_of_length_eq_zero (show u.length = 0 by omega)]
    exact h
  · intro u hu hul _
    rw [List.eq_nil_of_length_eq_zero (show u.length = 0 by omega)]
    exact ⟨0, _, rfl, rfl, .inr ⟨rfl, Nat.le_refl _⟩⟩
  · intro j e hj
    cases j with
    | zero =>
      injection hj with hj
      subst hj
      exact ⟨fun q => by omega, fun _ _ => rfl, fun q => by omega⟩
    | succ j => cases hj
  · intro j k e e' hjk hj hk _
    cases k with
    | zero => omega
    | succ k => cases hk
  · intro j e hb hN hj x hx hjx
    omega
  · intro k e hk1 hk2
    have := (List.getElem?_eq_some_iff.mp hk2).1
    simp at this
    omega
theorem dz_ul (hP : py_ok P) (hQ : py_ok Q) (h : py_dif P Q [] = false) : py_dz P Q 4 1 0 [(0, 0, [])] = py_ul P Q (List.range' 0 5) := dz_ok hP hQ 4 1 0 _ rfl (Nat.le_refl _) (bg_0 h) (by omega)
end
