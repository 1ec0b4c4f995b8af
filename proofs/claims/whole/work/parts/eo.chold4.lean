/-! THE CLASS: which rule is a thing's; all things held -/
def do_h (M : zM) (dc R : Nat) (Ps : Nat → yP) (D : List yT) : Prop := ∀ (i : Nat) (x : yT), D[i]? = some x → do_e M dc i (py_he R Ps D i x.1)
section
variable {M M' : zM} {pa : Nat → Nat} {d dc wk b R : Nat} {D : List yT} {Ps : Nat → yP}
theorem cl_numberR_2 (h : cS_x M pa b R Ps) (h26 : py_le26 R Ps) {l : Nat} (hl : l < 26) : ∀ (m r : Nat), r + m = R → ∀ fuel, m < fuel → rs_numberFor_2 d fuel b (nI l) (nI r) M = some (zo ((List.range' r m).find? (fun r => py_le (Ps r) == l)), M) := by
  have hR := h.2.2.1
  intro m
  induction m with
  | zero =>
    intro r e fuel hf
    cases fuel with
    | zero => cases hf
    | succ fuel =>
      rw [rs_numberFor_2, h.2.1, if_pos ((le_i2 (by omega) (by omega)).mpr (by omega))]
      rfl
  | succ m ih =>
    intro r e fuel hf
    cases fuel with
    | zero => cases hf
    | succ fuel =>
      obtain ⟨⟨c1, c2⟩, _, c3, _⟩ := h.1
      obtain ⟨x1, _⟩ := h.2.2.2 r (by omega)
      have hz : z_in (nI r) 8 := nI_in (by omega) (by omega)
      rw [rs_numberFor_2, h.2.1, if_neg (fun q => by have := (le_i2 (by omega) (by omega)).mp q; omega)]
      simp only [c1, c2, if_pos hz, nI_clamp (show r < 2 ^ 31 by omega), (c3 r (by omega)).1, x1.2.2.1.2.1, zlet]
      rw [List.range'_succ, List.find?_cons]
      have h2 := h26 r (by omega)
      by_cases q : py_le (Ps r) = l
      · rw [if_pos (by rw [q])]
        have hb : (py_le (Ps r) == l) = true := by simpa using q
        rw [hb]
        rfl
      · rw [if_neg (fun x => q ((nI_eq (by omega) (by omega)).mp x))]
        have hb : (py_le (Ps r) == l) = false := by simpa using q
        rw [hb]
        have e1 : nI r + 1 = nI (r + 1) := nI_add r 1
        rw [e1]
        exact ih (r + 1) (by omega) fuel (by omega)
theorem cl_numberR (h : cS_x M pa b R Ps) (h26 : py_le26 R Ps) {l : Nat} (hl : l < 26) : rs_numberFor d b (nI l) M = some (zo (py_ro R Ps l), M) := by
  have hR := h.2.2.1
  show rs_numberFor_2 d zLF b (nI l) (nI 0) M = _
  exact cl_numberR_2 h h26 hl R 0 (by omega) zLF (by rw [zLF]; omega)
theorem ro_lt {l r : Nat} (h : py_ro R Ps l = some r) : r < R := by
  have h1 := List.mem_of_find?_eq_some h
  rw [List.mem_range'_1] at h1
  omega
theorem cl_hold_2 (hd : 3 ≤ d) (hb : b + 84 ≤ dc) (hr : dc + 9 < wk) (hD : do_ok D) (h26 : py_le26 R Ps) (hPs : ∀ r, r < R → py_ok (Ps r)) : ∀ (m t : Nat) (M : zM), t + m = D.length → cS_x M pa b R Ps → wk_l M wk → do_x M dc D → (∀ (i : Nat) (x : yT), i < t → D[i]? = some x → do_e M dc i (py_he R Ps D i x.1)) → ∀ fuel, m < fuel → ∃ M', do_hold_2 d fuel dc (some b) (some wk) (nI t) M = some M' ∧ do_h M' dc R Ps D ∧ zr (dg_W wk dc) M M' := by
  intro m
  have hlen := hD.1
  induction m with
  | zero =>
    intro t M e hS hw hdo hh fuel hf
    cases fuel with
    | zero => cases hf
    | succ fuel =>
      refine ⟨M, ?_, ?_, zr_refl _ _⟩
      · rw [do_hold_2, hdo.2.1, if_pos ((le_i2 (by omega) (by omega)).mpr (by omega))]
      · intro i x hx
        exact hh i x (by have := (List.getElem?_eq_some_iff.mp hx).1; omega) hx
  | succ m ih =>
    intro t M e hS hw hdo hh fuel hf
    cases fuel with
    | zero => cases hf
    | succ fuel =>
      obtain ⟨y, hy⟩ : ∃ y, D[t]? = some y := ⟨D[t]'(by omega), List.getElem?_eq_getElem _⟩
      have hz : z_in (nI t) 60 := nI_in (by omega) (by omega)
      have hcl := nI_clamp (show t < 2 ^ 31 by omega)
      obtain ⟨r1, r2, r3, r4⟩ := hdo.2.2 t y hy
      have l1 := hdo.1.1 1 (by omega) (by omega)
      have l3 := hdo.1.1 3 (by omega) (by omega)
      obtain ⟨o1, o2, o3, o4, o5⟩ := hD.2 t y hy
      have hnf := cl_numberR (d := d) hS h26 o1
      have key : ∀ M1, zr (dh_W wk dc t) M M1 → do_e M1 dc t (py_he R Ps D t y.1) → ∃ M', do_hold_2 d fuel dc (some b) (some wk) (nI t + 1) M1 = some M' ∧ do_h M' dc R Ps D ∧ zr (dg_W wk dc) M M' := by
        intro M1 hf1 he1
        have hf2 := zr_mono hf1 dh_dg
        have hw1 : wk_l M1 wk := by
          refine ⟨?_, ?_⟩
          · have n8 : ∀ j, (j = 3 ∨ j = 4) → ¬ dh_W wk dc t 8 wk j := by
              rintro j hj ((⟨_, _, e1, e2⟩ | ⟨e, _⟩) | ⟨e, _⟩)
              · omega
              · cases e
              · cases e
            rw [zr_R hf1 (n8 3 (.inl rfl)), zr_L hf1]
            exact hw.1
          · have n8 : ∀ j, (j = 3 ∨ j = 4) → ¬ dh_W wk dc t 8 wk j := by
              rintro j hj ((⟨_, _, e1, e2⟩ | ⟨e, _⟩) | ⟨e, _⟩)
              · omega
              · cases e
              · cases e
            rw [zr_R hf1 (n8 4 (.inr rfl)), zr_L hf1]
            exact hw.2
        obtain ⟨M', q1, q2, q3⟩ := ih (t + 1) M1 (by omega) (cS_dg hS hf2 hb (by omega)) hw1 (do_dg hdo hf2 hr) (by
          intro i x hi hx
          by_cases q : i = t
          · subst q
            rw [hy] at hx
            injection hx with hx
            subst hx
            exact he1
          · exact do_e_zr (hh i x (by omega) hx) hf1 hr q) fuel (by omega)
        have e1 : nI t + 1 = nI (t + 1) := nI_add t 1
        exact ⟨M', by rw [e1]; exact q1, q2, zr_trans hf2 q3⟩
      rw [do_hold_2, hdo.2.1, if_neg (fun q => by have := (le_i2 (by omega) (by omega)).mp q; omega)]
      simp only [l1.1, l1.2, if_pos hz, hcl, r1, hnf, Option.bind_some]
      cases hro : py_ro R Ps y.1 with
      | none =>
        have hhe : py_he R Ps D t y.1 = if (py_kl D t).length = 0 then (1, none, 0, false) else (0, some 0, 0, true) := by unfold py_he; rw [hro]
        rw [if_pos (show zo none = -1 from rfl)]
        simp only [l3.1, l3.2, if_pos hz, r3, do_hold_44, do_hold_98, zlet]
        by_cases q : y.2.2.1 = 0
        · rw [if_pos (show nI y.2.2.1 = 0 by rw [q]; rfl)]
          obtain ⟨M1, c1, c2, c3, c4, c5, c6⟩ := cl_judge (d := d) (M := M) (by omega) hdo.1 (show t < 60 by omega) true true 0 0
          have c1 : do_judge d dc (nI t) 1 0 0 1 M = some M1 := c1
          rw [c1, Option.bind_some]
          refine key M1 (zr_mono (zr_zf c6) (fun t k j w => .inr w)) ?_
          rw [hhe, if_pos (by omega)]
          exact ⟨c2, c3, c4, c5⟩
        · rw [if_neg (nI_ne0 (by omega) (by omega))]
          obtain ⟨M1, c1, c2, c3, c4, c5, c6⟩ := cl_judge (d := d) (M := M) (by omega) hdo.1 (show t < 60 by omega) false true 0 0
          have c1 : do_judge d dc (nI t) 0 0 0 1 M = some M1 := c1
          rw [c1, Option.bind_some]
          refine key M1 (zr_mono (zr_zf c6) (fun t k j w => .inr w)) ?_
          rw [hhe, if_neg (by omega)]
          exact ⟨c2, c3, c4, c5⟩
      | some r =>
        have hrR := ro_lt hro
        have hR := hS.2.2.1
        obtain ⟨⟨k1, k2⟩, _, k3, _⟩ := hS.1
        obtain ⟨x1, x2, x3, x4⟩ := hS.2.2.2 r hrR
        have hzr : z_in (nI r) 8 := nI_in (by omega) (by omega)
        rw [if_neg (show ¬ zo (some r) = -1 from pb_ne1 (by omega))]
        have ezo : zo (some r) = nI r := rfl
        rw [ezo]
        simp only [k1, k2, if_pos hzr, nI_clamp (show r < 2 ^ 31 by omega), (k3 r (by omega)).1, x4, do_hold_98, zlet]
        cases hsu : py_sure (Ps r) with
        | false =>
          rw [if_pos (show zb false = 0 from rfl)]
          have hhe : py_he R Ps D t y.1 = (2, none, 0, false) := by unfold py_he; rw [hro]; show (if py_sure (Ps r) then _ else _) = _; rw [hsu]; rfl
          obtain ⟨M1, c1, c2, c3, c4, c5, c6⟩ := cl_judge (d := d) (M := M) (by omega) hdo.1 (show t < 60 by omega) true false 0 0
          have c1 : do_judge d dc (nI t) 1 0 0 0 M = some M1 := c1
          have hf1 := zr_mono (W' := dh_W wk dc t) (zr_zf c6) (fun t k j w => .inr w)
          have l5 := (do_dg hdo (zr_mono hf1 dh_dg) hr).1.1 5 (by omega) (by omega)
          rw [c1, Option.bind_some]
          simp only [l5.1, l5.2, if_pos hz, hcl]
          refine key _ (zr_trans hf1 (zr_setI (.inr ⟨rfl, by omega, by omega, rfl⟩))) ?_
          rw [hhe]
          refine ⟨?_, ?_, ?_, ?_⟩
          · rw [pm_same]; rfl
          · rw [pm_ne (by omega)]; exact c3
          · rw [pm_ne (by omega)]; exact c4
          · rw [pm_ne (by omega)]; exact c5
        | true =>
          rw [if_neg (show ¬ zb true = 0 by decide)]
          obtain ⟨M1, c1, c2, c3⟩ := cl_holdTo (d := d) (hPs r hrR) hd (show b + 2 + 10 * r + 10 ≤ dc by omega) hr x1 hw hdo hD hy
          rw [c1, Option.bind_some]
          refine key M1 c3 ?_
          have hhe : py_he R Ps D t y.1 = if (py_rn (Ps r) (py_kl D t) py_s00).1.length = (py_kl D t).length ∧ py_ce (Ps r) (py_rn (Ps r) (py_kl D t) py_s00).2 = true then (1, none, 0, false) else (0, some (py_rn (Ps r) (py_kl D t) py_s00).1.length, zor (py_cc (Ps r) (py_rn (Ps r) (py_kl D t) py_s00).2), py_ce (Ps r) (py_rn (Ps r) (py_kl D t) py_s00).2) := by unfold py_he; rw [hro]; show (if py_sure (Ps r) then _ else _) = _; rw [hsu]; rfl
          rw [hhe]
          exact c2
theorem cl_hold (hd : 4 ≤ d) (hb : b + 84 ≤ dc) (hr : dc + 9 < wk) (hD : do_ok D) (h26 : py_le26 R Ps) (hPs : ∀ r, r < R → py_ok (Ps r)) (hS : cS_x M pa b R Ps) (hw : wk_l M wk) (hdo : do_x M dc D) : ∃ M', do_hold d dc (some b) (some wk) M = some M' ∧ do_h M' dc R Ps D ∧ zr (dg_W wk dc) M M' := by
  obtain ⟨d, rfl⟩ : ∃ d', d = d' + 1 := ⟨d - 1, by omega⟩
  have hlen := hD.1
  exact cl_hold_2 (d := d) (by omega) hb hr hD h26 hPs D.length 0 M (by omega) hS hw hdo (fun i x hi => by omega) zLF (by rw [zLF]; omega)
end
