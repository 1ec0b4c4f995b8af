/-! THE CLASS: a thing is held, its end -/
def dh_W (wk dc x t k j : Nat) : Prop := wz_W wk t k j ∨ dj_W dc x t k j
section
variable {M M' : zM} {pa : Nat → Nat} {P : yP} {d dc wk Q B : Nat} {D : List yT} {s : yS}
theorem cl_hold_75 (hP : py_ok P) (hd : 2 ≤ d) (hr : dc + 9 < wk) (hD : D.length ≤ 60) {t n : Nat} {y : yT} (hy : D[t]? = some y) (hn : n ≤ 900) (hh : y.2.2.1 ≤ 900) (hw : wk_g P B s) (hB : B ≤ 900) (hx : wk_x M pa Q P wk s) (hdo : do_x M dc D) : ∃ M', do_holdTo_75 d dc (nI t) (some wk) (nI n) M = some M' ∧ zm_I M' 20 (dc + 5) t = zb (decide (n = y.2.2.1) && py_ce P s) ∧ zm_I M' 20 (dc + 6) t = (if (decide (n = y.2.2.1) && py_ce P s) then -1 else nI n) ∧ zm_I M' 20 (dc + 7) t = (if (decide (n = y.2.2.1) && py_ce P s) then 0 else zor (py_cc P s)) ∧ zm_I M' 20 (dc + 8) t = (if (decide (n = y.2.2.1) && py_ce P s) then 0 else zb (py_ce P s)) ∧ zr (dh_W wk dc t) M M' := by
  have htl := (List.getElem?_eq_some_iff.mp hy).1
  have hz : z_in (nI t) 60 := nI_in (by omega) (by omega)
  obtain ⟨M1, a1, a2, a3⟩ := cl_canEnd (d := d) hP hd hx hw.1 hw.2.2.2 hB
  have d1 := do_wz hdo (zr_mono a3 wz_h) hr
  have l3 := d1.1.1 3 (by omega) (by omega)
  have h3 := (d1.2.2 t y hy).2.2.1
  obtain ⟨M2, b1, b2, b3⟩ := cl_couldCome (d := d) hP hd a2 hw.1 hw.2.2.2 hB
  have d2 := do_wz d1 (zr_mono b3 wz_h) hr
  have en : (nI n = nI y.2.2.1) ↔ n = y.2.2.1 := nI_eq (by omega) (by omega)
  obtain ⟨M3, c1, c2, c3, c4, c5, c6⟩ := cl_judge (d := d) (M := M2) hd d2.1 (show t < 60 by omega) (decide (n = y.2.2.1) && py_ce P s) (py_ce P s) (nI n) (zor (py_cc P s))
  refine ⟨M3, ?_, c2, c3, c4, c5, zr_trans (zr_mono (zr_trans a3 b3) (fun t k j w => .inl (wz_h t k j w))) (zr_mono (zr_zf c6) (fun t k j w => .inr w))⟩
  unfold do_holdTo_75
  simp only [a1, Option.bind_some, l3.1, l3.2, if_pos hz, nI_clamp (show t < 2 ^ 31 by omega), h3, en, do_holdTo_103, do_holdTo_104, b1]
  by_cases q : n = y.2.2.1
  · have hq : decide (n = y.2.2.1) = true := by simpa using q
    rw [hq, Bool.true_and] at c1
    rw [if_pos q]
    cases hc : py_ce P s
    · rw [hc] at c1
      rw [if_pos (show zb false = 0 from rfl)]
      have c1 : do_judge d dc (nI t) 0 (nI n) (zor (py_cc P s)) (zb false) M2 = some M3 := c1
      rw [c1]
      rfl
    · rw [hc] at c1
      rw [if_neg (show ¬ zb true = 0 by decide)]
      have c1 : do_judge d dc (nI t) 1 (nI n) (zor (py_cc P s)) (zb true) M2 = some M3 := c1
      rw [c1]
      rfl
  · have hq : decide (n = y.2.2.1) = false := by simpa using q
    rw [hq, Bool.false_and] at c1
    rw [if_neg q]
    have c1 : do_judge d dc (nI t) 0 (nI n) (zor (py_cc P s)) (zb (py_ce P s)) M2 = some M3 := c1
    rw [c1]
    rfl
end
