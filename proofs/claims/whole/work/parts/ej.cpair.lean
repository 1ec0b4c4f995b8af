/-! THE CLASS: what two ways ask together -/
section
variable {M : zM} {pa : Nat → Nat} {P : yP} {d wy Q : Nat} {l : List yK} {i j : Nat} {V W : yK}
theorem cl_enoughOf (hw : wy_l M wy) (hl : wk_h M wy l) (hV : l[i]? = some V) (hW : l[j]? = some W) : wy_enoughOf d wy (nI i) (nI j) M = some (V.2.1 ||| W.2.1, M) := by
  have h48 := hl.2.1
  have hi := (List.getElem?_eq_some_iff.mp hV).1
  have hj := (List.getElem?_eq_some_iff.mp hW).1
  have zi : z_in (nI i) 48 := nI_in (by omega) (by omega)
  have zj : z_in (nI j) 48 := nI_in (by omega) (by omega)
  unfold wy_enoughOf
  simp only [hw.2.1.1, hw.2.1.2, if_pos zi, if_pos zj, nI_clamp (show i < 2 ^ 31 by omega), nI_clamp (show j < 2 ^ 31 by omega), (hl.2.2 i V hV).2.1, (hl.2.2 j W hW).2.1]
theorem cl_overOf (hw : wy_l M wy) (hl : wk_h M wy l) (hV : l[i]? = some V) (hW : l[j]? = some W) : wy_overOf d wy (nI i) (nI j) M = some (V.2.2.1 ||| W.2.2.1, M) := by
  have h48 := hl.2.1
  have hi := (List.getElem?_eq_some_iff.mp hV).1
  have hj := (List.getElem?_eq_some_iff.mp hW).1
  have zi : z_in (nI i) 48 := nI_in (by omega) (by omega)
  have zj : z_in (nI j) 48 := nI_in (by omega) (by omega)
  unfold wy_overOf
  simp only [hw.2.2.1.1, hw.2.2.1.2, if_pos zi, if_pos zj, nI_clamp (show i < 2 ^ 31 by omega), nI_clamp (show j < 2 ^ 31 by omega), (hl.2.2 i V hV).2.2.1, (hl.2.2 j W hW).2.2.1]
def py_cdn (W : yW) : Nat := 16 * W.1 + py_oi W.2.1
theorem cdn_lt (hP : py_ok P) (h : py_kok P V) : py_cdn V.1 < 1000 := by
  have := h.1
  have := ok_nl hP
  have := ok_nc hP
  unfold py_cdn
  cases hb : V.1.2.1 with
  | none => show 16 * V.1.1 + 0 < 1000; omega
  | some y =>
    have := h.2 y hb
    show 16 * V.1.1 + (y + 1) < 1000
    omega
theorem cl_lowerOf (hP : py_ok P) (hw : wy_l M wy) (hl : wk_h M wy l) (hV : l[i]? = some V) (hW : l[j]? = some W) (kV : py_kok P V) (kW : py_kok P W) : wy_lowerOf d wy (nI i) (nI j) M = some (nI (min (py_cdn V.1) (py_cdn W.1)), M) := by
  have h48 := hl.2.1
  have hi := (List.getElem?_eq_some_iff.mp hV).1
  have hj := (List.getElem?_eq_some_iff.mp hW).1
  have zi : z_in (nI i) 48 := nI_in (by omega) (by omega)
  have zj : z_in (nI j) 48 := nI_in (by omega) (by omega)
  have a1 := cdn_lt hP kV
  have a2 := cdn_lt hP kW
  have e1 : py_cd V.1 = nI (py_cdn V.1) := rfl
  have e2 : py_cd W.1 = nI (py_cdn W.1) := rfl
  unfold wy_lowerOf
  simp only [hw.1.1, hw.1.2, if_pos zi, if_pos zj, nI_clamp (show i < 2 ^ 31 by omega), nI_clamp (show j < 2 ^ 31 by omega), (hl.2.2 i V hV).1, (hl.2.2 j W hW).1, e1, e2, lt_i2 a2 a1]
  by_cases q : py_cdn W.1 < py_cdn V.1
  · rw [if_pos q, Nat.min_eq_right (by omega)]
  · rw [if_neg q, Nat.min_eq_left (by omega)]
theorem cl_higherOf (hP : py_ok P) (hw : wy_l M wy) (hl : wk_h M wy l) (hV : l[i]? = some V) (hW : l[j]? = some W) (kV : py_kok P V) (kW : py_kok P W) : wy_higherOf d wy (nI i) (nI j) M = some (nI (max (py_cdn V.1) (py_cdn W.1)), M) := by
  have h48 := hl.2.1
  have hi := (List.getElem?_eq_some_iff.mp hV).1
  have hj := (List.getElem?_eq_some_iff.mp hW).1
  have zi : z_in (nI i) 48 := nI_in (by omega) (by omega)
  have zj : z_in (nI j) 48 := nI_in (by omega) (by omega)
  have a1 := cdn_lt hP kV
  have a2 := cdn_lt hP kW
  have e1 : py_cd V.1 = nI (py_cdn V.1) := rfl
  have e2 : py_cd W.1 = nI (py_cdn W.1) := rfl
  unfold wy_higherOf
  simp only [hw.1.1, hw.1.2, if_pos zi, if_pos zj, nI_clamp (show i < 2 ^ 31 by omega), nI_clamp (show j < 2 ^ 31 by omega), (hl.2.2 i V hV).1, (hl.2.2 j W hW).1, e1, e2, lt_i2 a1 a2]
  by_cases q : py_cdn V.1 < py_cdn W.1
  · rw [if_pos q, Nat.max_eq_right (by omega)]
  · rw [if_neg q, Nat.max_eq_left (by omega)]
end
