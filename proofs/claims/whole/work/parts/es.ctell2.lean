/-! THE CLASS: a message is written -/
def dm_t (M : zM) (dc : Nat) (w : List Int32) : Prop := zm_I M 1 dc 10 = nI w.length ∧ w.length ≤ 160 ∧ ∀ (i : Nat) (c : Int32), w[i]? = some c → zm_I M 20 (dc + 9) i = c
def dw_W (dc t k j : Nat) : Prop := (t = 1 ∧ k = dc ∧ j = 10) ∨ (t = 20 ∧ k = dc + 9)
def py_anc (D : List yT) : Nat → Nat → Nat
  | 0, t => t
  | n + 1, t => match py_pr D t with
    | none => t
    | some p => py_anc D n p
def py_le1 (D : List yT) (t : Nat) : Nat := match D[t]? with
  | none => 0
  | some x => x.1
def py_dp (D : List yT) (t : Nat) : Nat := match D[t]? with
  | none => 0
  | some x => x.2.2.2
def py_lvl (D : List yT) (t lv : Nat) : List Int32 := (if lv = 0 then [] else [47]) ++ [97 + nI (py_le1 D (py_anc D (py_dp D t - lv) t))]
theorem pb_pm (n : Nat) : nI (n + 1) + (-1) = nI n := by
  rw [nI_succ, Int32.add_assoc, show (1 : Int32) + (-1) = 0 from by decide, Int32.add_zero]
section
variable {D : List yT}
theorem dp_par (h : do_ok D) (hy : dy_ok D) {t : Nat} {x : yT} (hx : D[t]? = some x) : (x.2.1 = none → x.2.2.2 = 0) ∧ (∀ p, x.2.1 = some p → p < t ∧ x.2.2.2 = py_dp D p + 1) := by
  have h1 := hy t x hx
  refine ⟨fun e => by rw [h1, e]; rfl, ?_⟩
  intro p e
  have hp := (h.2 t x hx).2.1 p e
  have hl := (List.getElem?_eq_some_iff.mp hx).1
  refine ⟨hp, ?_⟩
  rw [h1, e]
  obtain ⟨y, hyp⟩ : ∃ y, D[p]? = some y := ⟨D[p]'(by omega), List.getElem?_eq_getElem _⟩
  unfold py_dv py_dp
  simp only [hyp]
theorem path_lvl (h : do_ok D) (hy : dy_ok D) : ∀ (n t : Nat), t < n → t < D.length → py_path D n t = (List.range' 0 (py_dp D t + 1)).flatMap (py_lvl D t) := by
  intro n
  induction n with
  | zero => intro t ht; omega
  | succ n ih =>
    intro t ht htl
    obtain ⟨x, hx⟩ : ∃ y, D[t]? = some y := ⟨D[t]'htl, List.getElem?_eq_getElem _⟩
    have hd := dp_par h hy hx
    have e1 : py_dp D t = x.2.2.2 := by unfold py_dp; rw [hx]
    have e2 : py_le1 D t = x.1 := by unfold py_le1; rw [hx]
    have e3 : py_pr D t = x.2.1 := by unfold py_pr; rw [hx]
    have e4 : py_path D (n + 1) t = (match x.2.1 with
      | none => []
      | some p => py_path D n p ++ [47]) ++ [97 + nI x.1] := by
      rw [py_path, hx]
      show (match x.2.1 with | none => [] | some p => py_path D n p ++ [47]) ++ [97 + nI x.1] = _
      cases x.2.1 <;> rfl
    rw [e4]
    cases hp : x.2.1 with
    | none =>
      have h0 := hd.1 hp
      rw [e1, h0]
      show ([] : List Int32) ++ [97 + nI x.1] = (py_lvl D t 0) ++ []
      unfold py_lvl
      rw [e1, h0]
      show _ = (([] : List Int32) ++ [97 + nI (py_le1 D t)]) ++ []
      rw [e2]
      rfl
    | some p =>
      obtain ⟨p1, p2⟩ := hd.2 p hp
      have hi := ih p (by omega) (by omega)
      rw [e1, p2]
      show (py_path D n p ++ [47]) ++ [97 + nI x.1] = _
      rw [hi, show List.range' 0 (py_dp D p + 1 + 1) = List.range' 0 (py_dp D p + 1) ++ [py_dp D p + 1] by rw [List.range'_concat]; simp, List.flatMap_append]
      have hl : (List.range' 0 (py_dp D p + 1)).flatMap (py_lvl D t) = (List.range' 0 (py_dp D p + 1)).flatMap (py_lvl D p) := by
        have hm : ∀ l : List Nat, (∀ v, v ∈ l → v < py_dp D p + 1) → l.flatMap (py_lvl D t) = l.flatMap (py_lvl D p) := by
          intro l
          induction l with
          | nil => intro _; rfl
          | cons v l ihl =>
            intro hv
            rw [List.flatMap_cons, List.flatMap_cons, ihl (fun u hu => hv u (List.mem_cons_of_mem _ hu))]
            have hv1 := hv v List.mem_cons_self
            have e5 : py_lvl D t v = py_lvl D p v := by
              unfold py_lvl
              rw [e1, p2, show py_dp D p + 1 - v = (py_dp D p - v) + 1 by omega]
              have e6 : py_anc D ((py_dp D p - v) + 1) t = py_anc D (py_dp D p - v) p := by rw [py_anc, e3, hp]
              rw [e6]
            rw [e5]
        refine hm _ ?_
        intro v hv
        rw [List.mem_range'_1] at hv
        omega
      rw [hl, List.append_assoc]
      refine congrArg (fun z => (List.range' 0 (py_dp D p + 1)).flatMap (py_lvl D p) ++ z) ?_
      show [47] ++ [97 + nI x.1] = py_lvl D t (py_dp D p + 1) ++ []
      unfold py_lvl
      rw [e1, p2, Nat.sub_self, if_neg (by omega)]
      show _ = ([47] ++ [97 + nI (py_le1 D t)]) ++ []
      rw [e2]
      rfl
end
section
variable {M M' : zM} {d dc : Nat} {D : List yT} {w : List Int32}
theorem dl_dw (h : do_l M dc) (hf : zf (dw_W dc) M M') : do_l M' dc := dl_zf h hf
theorem do_dw (h : do_x M dc D) (hf : zf (dw_W dc) M M') : do_x M' dc D := by
  have n1 : ¬ dw_W dc 1 dc 0 := by
    rintro (⟨_, _, e⟩ | ⟨e, _⟩)
    · cases e
    · cases e
  have n20 : ∀ i j, i ≤ 8 → ¬ dw_W dc 20 (dc + i) j := by
    rintro i j hi (⟨e, _⟩ | ⟨_, e⟩)
    · cases e
    · omega
  refine ⟨dl_zf h.1 hf, ?_, ?_⟩
  · rw [hf.2.2.2.2.2.2 _ _ _ n1]; exact h.2.1
  · intro i x hx
    rw [hf.2.2.2.2.2.2 _ _ _ (n20 1 i (by omega)), hf.2.2.2.2.2.2 _ _ _ (n20 2 i (by omega)), hf.2.2.2.2.2.2 _ _ _ (n20 3 i (by omega)), hf.2.2.2.2.2.2 _ _ _ (n20 4 i (by omega))]
    exact h.2.2 i x hx
theorem do_e_dw {i : Nat} {e : yH} (h : do_e M dc i e) (hf : zf (dw_W dc) M M') : do_e M' dc i e := by
  have n20 : ∀ i j, i ≤ 8 → ¬ dw_W dc 20 (dc + i) j := by
    rintro i j hi (⟨e, _⟩ | ⟨_, e⟩)
    · cases e
    · omega
  obtain ⟨h1, h2, h3, h4⟩ := h
  refine ⟨?_, ?_, ?_, ?_⟩
  · rw [hf.2.2.2.2.2.2 _ _ _ (n20 5 i (by omega))]; exact h1
  · rw [hf.2.2.2.2.2.2 _ _ _ (n20 6 i (by omega))]; exact h2
  · rw [hf.2.2.2.2.2.2 _ _ _ (n20 7 i (by omega))]; exact h3
  · rw [hf.2.2.2.2.2.2 _ _ _ (n20 8 i (by omega))]; exact h4
theorem cl_write (hl : do_l M dc) (h : dm_t M dc w) (hw : w.length < 160) (c : Int32) : ∃ M', do_write d dc c M = some M' ∧ dm_t M' dc (w ++ [c]) ∧ zf (dw_W dc) M M' := by
  have hz : z_in (nI w.length) 160 := nI_in (by omega) (by omega)
  have e10 : zm_I (zm_setI M 20 (dc + 9) w.length c) 1 dc 10 = nI w.length := by rw [pm_ne (by omega)]; exact h.1
  have e160 : (160 : Int32) = nI 160 := rfl
  refine ⟨zm_setI (zm_setI M 20 (dc + 9) w.length c) 1 dc 10 (nI (w.length + 1)), ?_, ⟨?_, ?_, ?_⟩, zf_trans (zf_set (.inr ⟨rfl, rfl⟩)) (zf_set (.inl ⟨rfl, rfl, rfl⟩))⟩
  · unfold do_write do_write_30
    rw [h.1, e160, if_neg (fun p => by have := (le_i2 (by omega) (by omega)).mp p; omega)]
    simp only [hl.2.1, hl.2.2, if_pos hz, nI_clamp (show w.length < 2 ^ 31 by omega), zlet, e10, nI_1]
  · rw [pm_same]; simp
  · simp; omega
  · intro i x hx
    rw [pm_ne (by omega)]
    by_cases e : i < w.length
    · rw [List.getElem?_append_left e] at hx
      rw [pm_ne (by omega)]
      exact h.2.2 i x hx
    · have e2 : i = w.length := by
        have := (List.getElem?_eq_some_iff.mp hx).1
        simp at this
        omega
      subst e2
      simp at hx
      rw [pm_same]
      exact hx
theorem cl_write2_2 {k : Nat} {u : List Int32} (hu : tq_txt.getD k [] = u) (hu9 : u.length ≤ 20) : ∀ (b a : List Int32) (M : zM) (w : List Int32), u = a ++ b → do_l M dc → dm_t M dc w → w.length + b.length ≤ 160 → ∀ fuel, b.length < fuel → ∃ M', do_write2_2 d fuel dc (some k) (nI a.length) M = some M' ∧ dm_t M' dc (w ++ b) ∧ zf (dw_W dc) M M' := by
  intro b
  induction b with
  | nil =>
    intro a M w e hl hw h300 fuel hf
    cases fuel with
    | zero => cases hf
    | succ fuel =>
      have hal : u.length = a.length := by rw [e]; simp
      have hle : nI u.length ≤ nI a.length := nI_le (by omega) (by omega)
      refine ⟨M, ?_, by simpa using hw, zf_refl _ _⟩
      simp only [do_write2_2, tq_317, hu, Option.bind_some, if_pos hle]
  | cons x b ih =>
    intro a M w e hl hw h300 fuel hf
    cases fuel with
    | zero => cases hf
    | succ fuel =>
      have hal : u.length = a.length + (b.length + 1) := by rw [e]; simp
      have hx : (tq_txt.getD k [])[a.length]? = some x := by rw [hu, e]; simp
      have hge : ¬ nI u.length ≤ nI a.length := nI_ge (by omega) (by omega)
      simp only [List.length_cons] at h300 hf
      obtain ⟨M1, g1, g2, g3⟩ := cl_write (d := d) hl hw (by omega) x
      obtain ⟨M2, k1, k2, k3⟩ := ih (a ++ [x]) M1 (w ++ [x]) (by rw [e]; simp) (dl_zf hl g3) g2 (by simp; omega) fuel (by omega)
      refine ⟨M2, ?_, by simpa using k2, zf_trans g3 k3⟩
      simp only [do_write2_2, tq_317, hu, Option.bind_some, if_neg hge, tq_318 k hx (by rw [hu]; exact hu9), g1, zlet, nI_1]
      rw [← k1]
      simp
theorem cl_write2 {k : Nat} {u : List Int32} (hu : tq_txt.getD k [] = u) (hu9 : u.length ≤ 20) (hl : do_l M dc) (hw : dm_t M dc w) (h300 : w.length + u.length ≤ 160) (hd : 1 ≤ d) : ∃ M', do_write2 d dc (some k) M = some M' ∧ dm_t M' dc (w ++ u) ∧ zf (dw_W dc) M M' := by
  have hLF2 : 400 < zLF := pb_LF
  obtain ⟨d, rfl⟩ : ∃ d', d = d' + 1 := ⟨d - 1, by omega⟩
  exact cl_write2_2 (d := d) hu hu9 u [] M w rfl hl hw h300 zLF (by omega)
theorem cl_anc_10 (hD : do_ok D) (hy : dy_ok D) (hx : do_x M dc D) {lv : Nat} (hlv : lv ≤ 100) : ∀ (m t : Nat), t < D.length → py_dp D t = lv + m → ∀ fuel, m < fuel → do_ancestor_10 d fuel dc (nI lv) (nI t) (nI (lv + m)) M = some (nI (py_anc D m t), M) ∧ py_anc D m t < D.length := by
  have hlen := hD.1
  intro m
  induction m with
  | zero =>
    intro t ht hdp fuel hf
    cases fuel with
    | zero => cases hf
    | succ fuel =>
      rw [do_ancestor_10, if_pos ((le_i2 (by omega) (by omega)).mpr (by omega))]
      exact ⟨rfl, ht⟩
  | succ m ih =>
    intro t ht hdp fuel hf
    cases fuel with
    | zero => cases hf
    | succ fuel =>
      obtain ⟨x, hxt⟩ : ∃ y, D[t]? = some y := ⟨D[t]'ht, List.getElem?_eq_getElem _⟩
      have hd := dp_par hD hy hxt
      have e1 : py_dp D t = x.2.2.2 := by unfold py_dp; rw [hxt]
      have e3 : py_pr D t = x.2.1 := by unfold py_pr; rw [hxt]
      have o5 := (hD.2 t x hxt).2.2.2.2
      have hz : z_in (nI t) 60 := nI_in (by omega) (by omega)
      have l2 := hx.1.1 2 (by omega) (by omega)
      rw [do_ancestor_10, if_neg (fun p => by have := (le_i2 (by omega) (by omega)).mp p; omega)]
      cases hp : x.2.1 with
      | none => have := hd.1 hp; omega
      | some p =>
        obtain ⟨p1, p2⟩ := hd.2 p hp
        have hzo : zo (some p) = nI p := rfl
        simp only [l2.1, l2.2, if_pos hz, nI_clamp (show t < 2 ^ 31 by omega), (hx.2.2 t x hxt).2.1, hp, zlet]
        rw [if_neg (show ¬ zo (some p) = -1 from pb_ne1 (by omega)), hzo]
        have e4 : nI (lv + (m + 1)) + (-1) = nI (lv + m) := pb_pm (lv + m)
        rw [e4]
        have e6 : py_anc D (m + 1) t = py_anc D m p := by rw [py_anc, e3, hp]
        rw [e6]
        exact ih p (by omega) (by omega) fuel (by omega)
theorem cl_ancestor (hD : do_ok D) (hy : dy_ok D) (hx : do_x M dc D) {t lv : Nat} (ht : t < D.length) (hlv : lv ≤ py_dp D t) : do_ancestor d dc (nI t) (nI lv) M = some (nI (py_anc D (py_dp D t - lv) t), M) ∧ py_anc D (py_dp D t - lv) t < D.length := by
  have hLF2 : 400 < zLF := pb_LF
  have hlen := hD.1
  obtain ⟨x, hxt⟩ : ∃ y, D[t]? = some y := ⟨D[t]'ht, List.getElem?_eq_getElem _⟩
  have e1 : py_dp D t = x.2.2.2 := by unfold py_dp; rw [hxt]
  have o5 := (hD.2 t x hxt).2.2.2.2
  have hz : z_in (nI t) 60 := nI_in (by omega) (by omega)
  have l4 := hx.1.1 4 (by omega) (by omega)
  have h := cl_anc_10 (d := d) hD hy hx (lv := lv) (by omega) (py_dp D t - lv) t ht (by omega) zLF (by omega)
  refine ⟨?_, h.2⟩
  unfold do_ancestor
  simp only [l4.1, l4.2, if_pos hz, nI_clamp (show t < 2 ^ 31 by omega), (hx.2.2 t x hxt).2.2.2, zlet]
  rw [← e1]
  have e2 : lv + (py_dp D t - lv) = py_dp D t := by omega
  rw [e2] at h
  exact h.1
theorem cl_heldAt_7 (hD : do_ok D) (hx : do_x M dc D) {t pl : Nat} (ht : t < 60) (hp : pl ≤ 60) : ∀ (r a : List yT) (n : Nat), D = a ++ r → n ≤ pl → ∀ fuel, r.length < fuel → ∃ q, do_heldAt_7 d fuel dc (nI t) (nI pl) (nI n) (nI a.length) M = some (zo q, M) ∧ (q = none → (py_kl r t)[pl - n]? = none) ∧ (∀ i, q = some i → ∃ y, D[i]? = some y ∧ (py_kl r t)[pl - n]? = some y.1) := by
  have hlen := hD.1
  intro r
  induction r with
  | nil =>
    intro a n e hn fuel hf
    have hla := congrArg List.length e
    rw [List.append_nil] at hla
    cases fuel with
    | zero => cases hf
    | succ fuel =>
      refine ⟨none, ?_, fun _ => rfl, fun i h => by cases h⟩
      rw [do_heldAt_7, hx.2.1, if_pos ((le_i2 (by omega) (by omega)).mpr (by omega))]
      rfl
  | cons y r ih =>
    intro a n e hn fuel hf
    have hla := congrArg List.length e
    rw [List.length_append, List.length_cons] at hla
    rw [List.length_cons] at hf
    cases fuel with
    | zero => cases hf
    | succ fuel =>
      have hel : (a ++ [y]).length = a.length + 1 := by simp
      have hyi : D[a.length]? = some y := by rw [e]; simp
      have hz : z_in (nI a.length) 60 := nI_in (by omega) (by omega)
      have l2 := hx.1.1 2 (by omega) (by omega)
      have hpar := (hD.2 _ y hyi).2.1
      have ep : (zo y.2.1 = nI t) ↔ y.2.1 = some t := zo_eq (fun p hp => by have := hpar p hp; omega) (by omega)
      have e1 : nI a.length + 1 = nI (a.length + 1) := nI_add _ 1
      rw [do_heldAt_7, hx.2.1, if_neg (fun p => by have := (le_i2 (by omega) (by omega)).mp p; omega)]
      simp only [l2.1, l2.2, if_pos hz, nI_clamp (show a.length < 2 ^ 31 by omega), (hx.2.2 _ y hyi).2.1, ep, do_heldAt_38, zlet, e1]
      by_cases q : y.2.1 = some t
      · have hk : py_kl (y :: r) t = y.1 :: py_kl r t := by
          unfold py_kl
          rw [List.filter_cons, if_pos (by simpa using q)]
          rfl
        rw [if_pos q, hk]
        by_cases q2 : n = pl
        · subst q2
          rw [if_pos rfl, Nat.sub_self]
          exact ⟨some a.length, rfl, fun h => (by cases h), fun i h => (by injection h with h; subst h; exact ⟨y, hyi, rfl⟩)⟩
        · rw [if_neg (fun p => q2 ((nI_eq (by omega) (by omega)).mp p))]
          have e2 : nI n + 1 = nI (n + 1) := nI_add _ 1
          obtain ⟨o, k1, k2, k3⟩ := ih (a ++ [y]) (n + 1) (by rw [e]; simp) (by omega) fuel (by omega)
          rw [hel] at k1
          rw [e2, show pl - n = (pl - (n + 1)) + 1 by omega, List.getElem?_cons_succ]
          exact ⟨o, k1, k2, k3⟩
      · have hk : py_kl (y :: r) t = py_kl r t := by
          unfold py_kl
          rw [List.filter_cons, if_neg (by simpa using q)]
        rw [if_neg q, hk]
        obtain ⟨o, k1, k2, k3⟩ := ih (a ++ [y]) n (by rw [e]; simp) hn fuel (by omega)
        rw [hel] at k1
        exact ⟨o, k1, k2, k3⟩
theorem cl_heldAt (hD : do_ok D) (hx : do_x M dc D) {t pl : Nat} (ht : t < D.length) (hp : pl ≤ 60) : ∃ q, do_heldAt d dc (nI t) (nI pl) M = some (zo q, M) ∧ (q = none → (py_kl D t)[pl]? = none) ∧ (∀ i, q = some i → ∃ y, D[i]? = some y ∧ (py_kl D t)[pl]? = some y.1) := by
  have hLF2 : 400 < zLF := pb_LF
  have hlen := hD.1
  have htk : (D.take (t + 1)).length = t + 1 := by rw [List.length_take]; omega
  obtain ⟨q, k1, k2, k3⟩ := cl_heldAt_7 (d := d) hD hx (show t < 60 by omega) hp (D.drop (t + 1)) (D.take (t + 1)) 0 (List.take_append_drop _ _).symm (by omega) zLF (by rw [List.length_drop]; omega)
  rw [htk] at k1
  rw [kl_drop hD, Nat.sub_zero] at k2 k3
  refine ⟨q, ?_, k2, k3⟩
  unfold do_heldAt
  have e1 : nI t + 1 = nI (t + 1) := nI_add t 1
  rw [e1]
  exact k1
end
