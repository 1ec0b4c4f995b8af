/-! THE CLASS: wrong things, the fullest, the deepest -/
section
variable {M M' : zM} {d dc R : Nat} {D : List yT} {Ps : Nat → yP} {S : yZ}
theorem wg_he (hS : S.2.1 = (R, Ps)) (hSD : S.2.2.1 = D) (hh : do_h M dc R Ps D) {i : Nat} {x : yT} (hx : D[i]? = some x) : (zm_I M 20 (dc + 5) i = 0) ↔ py_wg2 S i = true := by
  have h1 := (hh i x hx).1
  rw [h1]
  unfold py_wg2
  rw [hSD, hx, hS]
  show nI (py_he R Ps D i x.1).1 = 0 ↔ ((py_he R Ps D i x.1).1 == 0) = true
  have hl : (py_he R Ps D i x.1).1 < 3 := by
    unfold py_he
    split
    · split
      · show 1 < 3; omega
      · exact Nat.succ_pos 2
    · split
      · split
        · show 1 < 3; omega
        · exact Nat.succ_pos 2
      · exact Nat.lt_succ_self 2
  rw [show (0 : Int32) = nI 0 from rfl, nI_eq (by omega) (by omega)]
  simp
theorem cl_wrongs_4 (hS : S.2.1 = (R, Ps)) (hSD : S.2.2.1 = D) (hD : D.length ≤ 60) (hdo : do_x M dc D) (hh : do_h M dc R Ps D) : ∀ (m t n : Nat), t + m = D.length → ∀ fuel, m < fuel → do_wrongThings_4 d fuel dc (nI n) (nI t) M = some (nI (n + ((List.range' t m).filter (py_wg2 S)).length), M) := by
  intro m
  induction m with
  | zero =>
    intro t n e fuel hf
    cases fuel with
    | zero => cases hf
    | succ fuel =>
      rw [do_wrongThings_4, hdo.2.1, if_pos ((le_i2 (by omega) (by omega)).mpr (by omega))]
      rfl
  | succ m ih =>
    intro t n e fuel hf
    cases fuel with
    | zero => cases hf
    | succ fuel =>
      obtain ⟨y, hy⟩ : ∃ y, D[t]? = some y := ⟨D[t]'(by omega), List.getElem?_eq_getElem _⟩
      have hz : z_in (nI t) 60 := nI_in (by omega) (by omega)
      have l5 := hdo.1.1 5 (by omega) (by omega)
      have hw := wg_he hS hSD hh hy
      rw [do_wrongThings_4, hdo.2.1, if_neg (fun q => by have := (le_i2 (by omega) (by omega)).mp q; omega)]
      simp only [l5.1, l5.2, if_pos hz, nI_clamp (show t < 2 ^ 31 by omega), do_wrongThings_27, zlet]
      have e1 : nI t + 1 = nI (t + 1) := nI_add t 1
      rw [List.range'_succ, List.filter_cons, e1]
      by_cases q : py_wg2 S t = true
      · rw [if_pos (hw.mpr q), if_pos q]
        have e2 : nI n + 1 = nI (n + 1) := nI_add n 1
        rw [e2, ih (t + 1) (n + 1) (by omega) fuel (by omega), List.length_cons]
        rw [show n + 1 + ((List.range' (t + 1) m).filter (py_wg2 S)).length = n + (((List.range' (t + 1) m).filter (py_wg2 S)).length + 1) by omega]
      · rw [if_neg (fun x => q (hw.mp x)), if_neg q]
        have e2 : nI n + 0 = nI n := nI_add n 0
        rw [e2]
        exact ih (t + 1) n (by omega) fuel (by omega)
theorem cl_wrongThings (hS : S.2.1 = (R, Ps)) (hSD : S.2.2.1 = D) (hD : D.length ≤ 60) (hdo : do_x M dc D) (hh : do_h M dc R Ps D) : do_wrongThings d dc M = some (nI (py_wgs S).length, M) := by
  show do_wrongThings_4 d zLF dc (nI 0) (nI 0) M = _
  rw [cl_wrongs_4 hS hSD hD hdo hh D.length 0 0 (by omega) zLF (by rw [zLF]; omega), Nat.zero_add]
  unfold py_wgs
  rw [hSD]
theorem cl_wrong1_4 (hS : S.2.1 = (R, Ps)) (hSD : S.2.2.1 = D) (hD : D.length ≤ 60) (hdo : do_x M dc D) (hh : do_h M dc R Ps D) {v : Int32} : ∀ (m t n : Nat), t + m = D.length → n ≤ t → ∀ fuel, m < fuel → do_wrongThing_4 d fuel dc v (nI n) (nI t) M = some (zo (if nI n ≤ v then ((List.range' t m).filter (py_wg2 S))[v.toNatClampNeg - n]? else none), M) := by
  intro m
  induction m with
  | zero =>
    intro t n e hn fuel hf
    cases fuel with
    | zero => cases hf
    | succ fuel =>
      rw [do_wrongThing_4, hdo.2.1, if_pos ((le_i2 (by omega) (by omega)).mpr (by omega))]
      split <;> rfl
  | succ m ih =>
    intro t n e hn fuel hf
    cases fuel with
    | zero => cases hf
    | succ fuel =>
      obtain ⟨y, hy⟩ : ∃ y, D[t]? = some y := ⟨D[t]'(by omega), List.getElem?_eq_getElem _⟩
      have hz : z_in (nI t) 60 := nI_in (by omega) (by omega)
      have l5 := hdo.1.1 5 (by omega) (by omega)
      have hw := wg_he hS hSD hh hy
      rw [do_wrongThing_4, hdo.2.1, if_neg (fun q => by have := (le_i2 (by omega) (by omega)).mp q; omega)]
      simp only [l5.1, l5.2, if_pos hz, nI_clamp (show t < 2 ^ 31 by omega), do_wrongThing_31, zlet]
      have e1 : nI t + 1 = nI (t + 1) := nI_add t 1
      rw [List.range'_succ, List.filter_cons, e1]
      by_cases q : py_wg2 S t = true
      · rw [if_pos (hw.mpr q), if_pos q]
        by_cases q2 : nI n = v
        · subst q2
          rw [if_pos rfl, if_pos (Int32.le_refl _), nI_clamp (show n < 2 ^ 31 by omega), Nat.sub_self]
          rfl
        · rw [if_neg q2]
          have e2 : nI n + 1 = nI (n + 1) := nI_add n 1
          rw [e2, ih (t + 1) (n + 1) (by omega) (by omega) fuel (by omega)]
          have hn1 := nI_toInt (show n < 2 ^ 31 by omega)
          have hn2 := nI_toInt (show n + 1 < 2 ^ 31 by omega)
          by_cases q3 : nI n ≤ v
          · have q4 : nI (n + 1) ≤ v := by
              rw [fa_le] at q3 ⊢
              have : (nI n).toInt ≠ v.toInt := fun x => q2 (Int32.toInt_inj.mp x)
              omega
            have hv : v.toNatClampNeg = v.toInt.toNat := rfl
            rw [if_pos q3, if_pos q4]
            rw [fa_le] at q4
            have e3 : v.toNatClampNeg - n = (v.toNatClampNeg - (n + 1)) + 1 := by rw [hv]; omega
            rw [e3, List.getElem?_cons_succ]
          · have q4 : ¬ nI (n + 1) ≤ v := by
              intro x
              rw [fa_le] at q3 x
              omega
            rw [if_neg q3, if_neg q4]
      · rw [if_neg (fun x => q (hw.mp x)), if_neg q]
        exact ih (t + 1) n (by omega) (by omega) fuel (by omega)
theorem cl_wrongThing (hS : S.2.1 = (R, Ps)) (hSD : S.2.2.1 = D) (hD : D.length ≤ 60) (hdo : do_x M dc D) (hh : do_h M dc R Ps D) {v : Int32} : do_wrongThing d dc v M = some ((match zin v (py_wgs S).length with
    | none => -1
    | some k => match (py_wgs S)[k]? with
      | none => -1
      | some t => nI t), M) := by
  show do_wrongThing_4 d zLF dc v (nI 0) (nI 0) M = _
  rw [cl_wrong1_4 hS hSD hD hdo hh D.length 0 0 (by omega) (by omega) zLF (by rw [zLF]; omega), Nat.sub_zero]
  have hw : (List.range' 0 D.length).filter (py_wg2 S) = py_wgs S := by unfold py_wgs; rw [hSD]
  rw [hw]
  have hl : (py_wgs S).length ≤ 60 := by
    rw [← hw]
    refine Nat.le_trans (List.length_filter_le _ _) ?_
    rw [List.length_range']
    exact hD
  have e0 : nI 0 = 0 := rfl
  rw [e0]
  by_cases q : (0 : Int32) ≤ v
  · rw [if_pos q]
    by_cases q2 : v < nI (py_wgs S).length
    · have hz : zin v (py_wgs S).length = some v.toNatClampNeg := by unfold zin; rw [if_pos ⟨q, q2⟩]
      rw [hz]
      show some (zo (py_wgs S)[v.toNatClampNeg]?, M) = some ((match (py_wgs S)[v.toNatClampNeg]? with
      | none => -1
      | some t => nI t), M)
      cases (py_wgs S)[v.toNatClampNeg]? <;> rfl
    · have hz : zin v (py_wgs S).length = none := by unfold zin; rw [if_neg (fun x => q2 x.2)]
      rw [hz]
      have h2 : (py_wgs S)[v.toNatClampNeg]? = none := by
        rw [List.getElem?_eq_none_iff]
        have hv : v.toNatClampNeg = v.toInt.toNat := rfl
        rw [fa_lt, nI_toInt (show (py_wgs S).length < 2 ^ 31 by omega)] at q2
        omega
      rw [h2]
      rfl
  · have hz : zin v (py_wgs S).length = none := by unfold zin; rw [if_neg (fun x => q x.1)]
    rw [if_neg q, hz]
    rfl
theorem cl_full_4 (hD : do_ok D) (hdo : do_x M dc D) : ∀ (m t b : Nat), t + m = D.length → b < t → ∀ fuel, m < fuel → do_fullest_4 d fuel dc (nI b) (nI t) M = some (nI ((List.range' t m).foldl (fun b t => if py_hold D b < py_hold D t then t else b) b), M) := by
  have hlen := hD.1
  intro m
  induction m with
  | zero =>
    intro t b e hb fuel hf
    cases fuel with
    | zero => cases hf
    | succ fuel =>
      rw [do_fullest_4, hdo.2.1, if_pos ((le_i2 (by omega) (by omega)).mpr (by omega))]
      rfl
  | succ m ih =>
    intro t b e hb fuel hf
    cases fuel with
    | zero => cases hf
    | succ fuel =>
      obtain ⟨y, hy⟩ : ∃ y, D[t]? = some y := ⟨D[t]'(by omega), List.getElem?_eq_getElem _⟩
      obtain ⟨x, hx⟩ : ∃ y, D[b]? = some y := ⟨D[b]'(by omega), List.getElem?_eq_getElem _⟩
      have hz : z_in (nI t) 60 := nI_in (by omega) (by omega)
      have hzb : z_in (nI b) 60 := nI_in (by omega) (by omega)
      have l3 := hdo.1.1 3 (by omega) (by omega)
      have hy3 := (hdo.2.2 t y hy).2.2.1
      have hx3 := (hdo.2.2 b x hx).2.2.1
      have oy := (hD.2 t y hy).2.2.2.1
      have ox := (hD.2 b x hx).2.2.2.1
      have ey : py_hold D t = y.2.2.1 := by unfold py_hold; rw [hy]
      have ex : py_hold D b = x.2.2.1 := by unfold py_hold; rw [hx]
      rw [do_fullest_4, hdo.2.1, if_neg (fun q => by have := (le_i2 (by omega) (by omega)).mp q; omega), if_neg (pb_ne1 (by omega))]
      simp only [l3.1, l3.2, if_pos hz, if_pos hzb, nI_clamp (show t < 2 ^ 31 by omega), nI_clamp (show b < 2 ^ 31 by omega), hy3, hx3, do_fullest_34, do_fullest_32, zlet]
      have e1 : nI t + 1 = nI (t + 1) := nI_add t 1
      rw [List.range'_succ, List.foldl_cons, e1, ey, ex]
      by_cases q : x.2.2.1 < y.2.2.1
      · rw [if_neg (fun p => by have := (le_i2 (by omega) (by omega)).mp p; omega), if_pos q]
        exact ih (t + 1) t (by omega) (by omega) fuel (by omega)
      · rw [if_pos ((le_i2 (by omega) (by omega)).mpr (by omega)), if_neg q]
        exact ih (t + 1) b (by omega) (by omega) fuel (by omega)
theorem cl_fullest (hD : do_ok D) (hdo : do_x M dc D) : do_fullest d dc M = some (zo (py_fu D), M) := by
  have hlen := hD.1
  show do_fullest_4 d (99999 + 1) dc (-1) (nI 0) M = _
  unfold py_fu
  by_cases q : D.length = 0
  · rw [do_fullest_4, hdo.2.1, if_pos ((le_i2 (by omega) (by omega)).mpr (by omega)), if_pos q]
    rfl
  · rw [do_fullest_4, hdo.2.1, if_neg (fun q => by have := (le_i2 (by omega) (by omega)).mp q; omega), if_pos rfl, if_neg q]
    simp only [do_fullest_34, do_fullest_32, zlet]
    have e1 : nI 0 + 1 = nI 1 := nI_add 0 1
    rw [e1]
    exact cl_full_4 hD hdo (D.length - 1) 1 0 (by omega) (by omega) 99999 (by omega)
theorem cl_deep_4 (hD : do_ok D) (hdo : do_x M dc D) : ∀ (r a : List yT) (n : Nat), D = a ++ r → n ≤ 100 → ∀ fuel, r.length < fuel → do_deepest_4 d fuel dc (nI n) (nI a.length) M = some (nI (r.foldl (fun m x => max m (x.2.2.2 + 1)) n), M) := by
  have hlen := hD.1
  intro r
  induction r with
  | nil =>
    intro a n e hn fuel hf
    have hla := congrArg List.length e
    rw [List.append_nil] at hla
    cases fuel with
    | zero => cases hf
    | succ fuel =>
      rw [do_deepest_4, hdo.2.1, if_pos ((le_i2 (by omega) (by omega)).mpr (by omega))]
      rfl
  | cons y r ih =>
    intro a n e hn fuel hf
    have hla := congrArg List.length e
    rw [List.length_append, List.length_cons] at hla
    cases fuel with
    | zero => cases hf
    | succ fuel =>
      have hy : D[a.length]? = some y := by rw [e]; simp
      have hz : z_in (nI a.length) 60 := nI_in (by omega) (by omega)
      have l4 := hdo.1.1 4 (by omega) (by omega)
      have h4 := (hdo.2.2 _ y hy).2.2.2
      have o4 := (hD.2 _ y hy).2.2.2.2
      have hel : (a ++ [y]).length = a.length + 1 := by simp
      rw [do_deepest_4, hdo.2.1, if_neg (fun q => by have := (le_i2 (by omega) (by omega)).mp q; omega)]
      simp only [l4.1, l4.2, if_pos hz, nI_clamp (show a.length < 2 ^ 31 by omega), h4, zlet]
      have e1 : nI a.length + 1 = nI (a.length + 1) := nI_add _ 1
      have e2 : nI y.2.2.2 + 1 = nI (y.2.2.2 + 1) := nI_add _ 1
      rw [e1, e2, pb_max (by omega) (by omega), List.foldl_cons, ← hel]
      exact ih (a ++ [y]) _ (by rw [e]; simp) (by omega) fuel (by rw [List.length_cons] at hf; omega)
theorem cl_deepest (hD : do_ok D) (hdo : do_x M dc D) : do_deepest d dc M = some (nI (py_de D), M) := by
  have hlen := hD.1
  exact cl_deep_4 hD hdo D [] 0 rfl (by omega) zLF (by rw [zLF]; omega)
end
