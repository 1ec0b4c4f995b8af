/-! THE CLASS: all things are held -/
def do_e (M : zM) (dc i : Nat) (h : yH) : Prop := zm_I M 20 (dc + 5) i = nI h.1 ∧ zm_I M 20 (dc + 6) i = zo h.2.1 ∧ zm_I M 20 (dc + 7) i = h.2.2.1 ∧ zm_I M 20 (dc + 8) i = zb h.2.2.2
/-- the rules that were told, as they stand -/
def cS_x (M : zM) (pa : Nat → Nat) (b R : Nat) (Ps : Nat → yP) : Prop := cw_rs M b ∧ zm_I M 6 b 1 = nI R ∧ R ≤ 8 ∧ ∀ r, r < R → cX M pa (b + 2 + 10 * r) (Ps r) ∧ zm_I M 5 (b + 2 + 10 * r) 14 = nI (py_cf (Ps r) false) ∧ zm_I M 5 (b + 2 + 10 * r) 15 = zb (py_cf (Ps r) true == 0) ∧ zm_I M 5 (b + 2 + 10 * r) 16 = zb (py_sure (Ps r))
def dg_W (wk dc t k j : Nat) : Prop := wz_W wk t k j ∨ (t = 20 ∧ dc + 5 ≤ k ∧ k ≤ dc + 8)
section
variable {D : List yT}
theorem kl_app (a b : List yT) (t : Nat) : py_kl (a ++ b) t = py_kl a t ++ py_kl b t := by
  unfold py_kl
  rw [List.filter_append, List.map_append]
theorem kl_drop (h : do_ok D) (t : Nat) : py_kl (D.drop (t + 1)) t = py_kl D t := by
  have e : D = D.take (t + 1) ++ D.drop (t + 1) := (List.take_append_drop _ _).symm
  have h0 : py_kl (D.take (t + 1)) t = [] := by
    unfold py_kl
    rw [List.map_eq_nil_iff, List.filter_eq_nil_iff]
    intro x hx hb
    obtain ⟨i, hi, rfl⟩ := List.getElem_of_mem hx
    rw [List.length_take] at hi
    have h1 : D[i]? = some ((D.take (t + 1))[i]) := by
      rw [List.getElem_take]
      exact List.getElem?_eq_getElem (by omega)
    have h2 := (h.2 i _ h1).2.1 t (by simpa using hb)
    omega
  calc py_kl (D.drop (t + 1)) t = [] ++ py_kl (D.drop (t + 1)) t := rfl
    _ = py_kl (D.take (t + 1)) t ++ py_kl (D.drop (t + 1)) t := by rw [h0]
    _ = py_kl (D.take (t + 1) ++ D.drop (t + 1)) t := (kl_app _ _ _).symm
    _ = py_kl D t := by rw [← e]
end
section
variable {M M' : zM} {pa : Nat → Nat} {P : yP} {d dc wk Q b R : Nat} {D : List yT} {Ps : Nat → yP}
theorem dh_dg {t : Nat} : ∀ x k j, dh_W wk dc t x k j → dg_W wk dc x k j := by
  rintro x k j (h | ⟨h1, h2, h3, _⟩)
  · exact .inl h
  · exact .inr ⟨h1, h2, h3⟩
theorem cX_dg (h : cX M pa Q P) (hf : zr (dg_W wk dc) M M') (hq : Q + 10 ≤ dc) (hq2 : Q + 10 ≤ wk) : cX M' pa Q P := by
  refine cX_zr h hf ?_ ?_ ?_ ?_ ?_
  · rintro k j ((⟨e, _⟩ | ⟨e, _⟩) | ⟨e, _⟩) <;> cases e
  · rintro k j ((⟨e, _⟩ | ⟨e, _⟩) | ⟨e, _⟩) <;> cases e
  · rintro j _ ((⟨e, _⟩ | ⟨e, _⟩) | ⟨e, _⟩) <;> cases e
  · rintro k j ((⟨e, _⟩ | ⟨e, _⟩) | ⟨e, _⟩) <;> cases e
  · rintro i j hi ((⟨e, _⟩ | ⟨_, e⟩) | ⟨_, e, e'⟩)
    · cases e
    · omega
    · omega
theorem rs_zr {W : Nat → Nat → Nat → Prop} (h : cw_rs M b) (hf : zr W M M') (h5 : ∀ k j, j ≤ 13 → ¬ W 5 k j) (h6 : ¬ W 6 b 0 ∧ ¬ W 6 b 2) (h25 : ∀ k j, ¬ W 25 k j) : cw_rs M' b := by
  refine cw_rs_zh (W := W) h ⟨?_, ?_, ?_, ?_⟩ ?_ h6 ?_
  · rw [zr_n hf]; exact Nat.le_refl _
  · intro t k _; rw [zr_L hf]
  · intro t k j _; rw [hf.2.2.1]
  · intro t k j _ w; exact hf.2.2.2.2.2 t k j w
  · intro i j _ _ hj; exact h5 _ _ hj
  · intro i _; exact h25 _ _
theorem cS_dg (h : cS_x M pa b R Ps) (hf : zr (dg_W wk dc) M M') (hb : b + 84 ≤ dc) (hw : b + 84 ≤ wk) : cS_x M' pa b R Ps := by
  have n5 : ∀ k j, ¬ dg_W wk dc 5 k j := by rintro k j ((⟨e, _⟩ | ⟨e, _⟩) | ⟨e, _⟩) <;> cases e
  have n6 : ∀ k j, ¬ dg_W wk dc 6 k j := by rintro k j ((⟨e, _⟩ | ⟨e, _⟩) | ⟨e, _⟩) <;> cases e
  have n25 : ∀ k j, ¬ dg_W wk dc 25 k j := by rintro k j ((⟨e, _⟩ | ⟨e, _⟩) | ⟨e, _⟩) <;> cases e
  obtain ⟨h1, h2, h3, h4⟩ := h
  refine ⟨rs_zr h1 hf (fun k j _ => n5 k j) ⟨n6 _ _, n6 _ _⟩ n25, ?_, h3, ?_⟩
  · rw [zr_I hf (n6 _ _)]; exact h2
  · intro r hr
    obtain ⟨a1, a2, a3, a4⟩ := h4 r hr
    refine ⟨cX_dg a1 hf (by omega) (by omega), ?_, ?_, ?_⟩
    · rw [zr_I hf (n5 _ _)]; exact a2
    · rw [zr_I hf (n5 _ _)]; exact a3
    · rw [zr_I hf (n5 _ _)]; exact a4
theorem do_dg (h : do_x M dc D) (hf : zr (dg_W wk dc) M M') (hr : dc + 9 < wk) : do_x M' dc D := by
  have n1 : ∀ j, ¬ dg_W wk dc 1 dc j := by rintro j ((⟨e, _⟩ | ⟨e, _⟩) | ⟨e, _⟩) <;> cases e
  have n20 : ∀ i j, i ≤ 4 → ¬ dg_W wk dc 20 (dc + i) j := by
    rintro i j hi ((⟨e, _⟩ | ⟨_, e⟩) | ⟨_, e, e'⟩)
    · cases e
    · omega
    · omega
  refine ⟨⟨?_, ?_, ?_⟩, ?_, ?_⟩
  · intro i h1 h2
    rw [zr_R hf (n1 i), zr_L hf]
    exact h.1.1 i h1 h2
  · rw [zr_R hf (n1 9)]; exact h.1.2.1
  · rw [zr_L hf]; exact h.1.2.2
  · rw [zr_I hf (n1 0)]; exact h.2.1
  · intro i x hx
    rw [zr_I hf (n20 1 i (by omega)), zr_I hf (n20 2 i (by omega)), zr_I hf (n20 3 i (by omega)), zr_I hf (n20 4 i (by omega))]
    exact h.2.2 i x hx
theorem do_e_zr {i t : Nat} {e : yH} (h : do_e M dc i e) (hf : zr (dh_W wk dc t) M M') (hr : dc + 9 < wk) (hi : i ≠ t) : do_e M' dc i e := by
  have n20 : ∀ k, k ≤ 8 → ¬ dh_W wk dc t 20 (dc + k) i := by
    rintro k hk ((⟨e, _⟩ | ⟨_, e⟩) | ⟨_, _, _, e⟩)
    · cases e
    · omega
    · exact hi e
  obtain ⟨h1, h2, h3, h4⟩ := h
  refine ⟨?_, ?_, ?_, ?_⟩
  · rw [zr_I hf (n20 5 (by omega))]; exact h1
  · rw [zr_I hf (n20 6 (by omega))]; exact h2
  · rw [zr_I hf (n20 7 (by omega))]; exact h3
  · rw [zr_I hf (n20 8 (by omega))]; exact h4
theorem cl_holdTo (hP : py_ok P) (hd : 3 ≤ d) (hq : Q + 10 ≤ dc) (hr : dc + 9 < wk) (hX : cX M pa Q P) (hw : wk_l M wk) (hdo : do_x M dc D) (hD : do_ok D) {t : Nat} {y : yT} (hy : D[t]? = some y) : ∃ M', do_holdTo d dc (nI t) (some Q) (some wk) M = some M' ∧ do_e M' dc t (if (py_rn P (py_kl D t) py_s00).1.length = (py_kl D t).length ∧ py_ce P (py_rn P (py_kl D t) py_s00).2 = true then (1, none, 0, false) else (0, some (py_rn P (py_kl D t) py_s00).1.length, zor (py_cc P (py_rn P (py_kl D t) py_s00).2), py_ce P (py_rn P (py_kl D t) py_s00).2)) ∧ zr (dh_W wk dc t) M M' := by
  obtain ⟨d, rfl⟩ : ∃ d', d = d' + 1 := ⟨d - 1, by omega⟩
  have htl := (List.getElem?_eq_some_iff.mp hy).1
  have hlen := hD.1
  obtain ⟨M1, a1, a2, _, a4⟩ := cl_begin (d := d) hX hw (by omega)
  have do1 := do_wz hdo a4 hr
  have h26 : ∀ x, x ∈ D → x.1 < 26 ∧ ∀ p, x.2.1 = some p → p < 60 := by
    intro x hx
    obtain ⟨i, hi, rfl⟩ := List.getElem_of_mem hx
    have h1 := hD.2 i _ (List.getElem?_eq_getElem hi)
    exact ⟨h1.1, fun p hp => by have := h1.2.1 p hp; omega⟩
  have hdl : (D.drop (t + 1)).length ≤ 60 := by rw [List.length_drop]; omega
  have htk : (D.take (t + 1)).length = t + 1 := by rw [List.length_take]; omega
  obtain ⟨M2, b1, b2, b3, b4, b5⟩ := cl_hold_16 (d := d) (pa := pa) (Q := Q) hP (by omega) hr hlen h26 (show t < 60 by omega) (D.drop (t + 1)) (D.take (t + 1)) M1 py_s00 0 0 (List.take_append_drop _ _).symm (by omega) wg_0 a2 do1 zLF (by rw [zLF]; omega)
  rw [htk, kl_drop hD] at b1
  rw [kl_drop hD] at b2 b3
  have hyk := (hD.2 t y hy).2.2.1
  have hh := (hD.2 t y hy).2.2.2.1
  have hle : (py_rn P (py_kl D t) py_s00).1.length ≤ 900 := by
    have h1 : (py_rn P (py_kl D t) py_s00).1.length ≤ (py_kl D t).length := rn_len _ _
    omega
  obtain ⟨M3, c1, c2, c3, c4, c5, c6⟩ := cl_hold_75 (d := d) hP (by omega) hr hlen hy hle (by omega) b3 (by omega) b2 b4
  rw [Nat.zero_add] at b1
  refine ⟨M3, ?_, ?_, zr_trans (zr_mono (zr_trans a4 b5) (fun t k j w => .inl w)) c6⟩
  · show do_holdTo_b d dc (nI t) (some Q) (some wk) M = _
    unfold do_holdTo_b
    simp only [a1, Option.bind_some, zlet]
    have e1 : nI t + 1 = nI (t + 1) := nI_add t 1
    have e0 : (0 : Int32) = nI 0 := rfl
    rw [e1, e0, b1, c1]
  · rw [hyk] at c2 c3 c4 c5
    by_cases q : (py_rn P (py_kl D t) py_s00).1.length = (py_kl D t).length ∧ py_ce P (py_rn P (py_kl D t) py_s00).2 = true
    · have hq : (decide ((py_rn P (py_kl D t) py_s00).1.length = (py_kl D t).length) && py_ce P (py_rn P (py_kl D t) py_s00).2) = true := by simp [q.1, q.2]
      rw [hq] at c2 c3 c4 c5
      rw [if_pos q]
      exact ⟨c2, c3, c4, c5⟩
    · have hq : (decide ((py_rn P (py_kl D t) py_s00).1.length = (py_kl D t).length) && py_ce P (py_rn P (py_kl D t) py_s00).2) = false := by
        rw [Bool.eq_false_iff]
        intro h
        rw [Bool.and_eq_true, decide_eq_true_eq] at h
        exact q h
      rw [hq] at c2 c3 c4 c5
      rw [if_neg q]
      exact ⟨c2, c3, c4, c5⟩
end
