/-! THE RULES' text: an any begins -/
section
variable {am d : Nat} {M : zM} {T : List Nat} {r : Nat} {q : yQp}
theorem rsx_any (h : rs_x am M T r q) (hr : r < 8) (hN : q.2.2.1 < 1200) (hL : q.2.2.2.2.2.2.length < 4) : ∃ M1 M2, mo_more d am 4 M = some (nI q.2.2.2.2.2.2.length, M1) ∧ mo_opens d am 4 (nI q.2.2.2.2.2.2.length) M1 = some (nI q.2.2.1, M2) ∧ zm_I M2 12 am 16 = nI r ∧ ml_ok am M2 ∧ rs_x am (zm_setI M2 20 (am + 11) (4 * r + q.2.2.2.2.2.2.length) (nI q.2.2.1)) T r (q.1, q.2.1, (pb_open q.2.2 4 q.2.2.2.2.2.2.length).1, (pb_open q.2.2 4 q.2.2.2.2.2.2.length).2.1, q.2.2.2.2.1, q.2.2.2.2.2.1, q.2.2.2.2.2.2 ++ [q.2.2.1]) ∧ zf (mg am [17] [3, 5, 11]) M (zm_setI M2 20 (am + 11) (4 * r + q.2.2.2.2.2.2.length) (nI q.2.2.1)) ∧ zf (rw_r am r) M (zm_setI M2 20 (am + 11) (4 * r + q.2.2.2.2.2.2.length) (nI q.2.2.1)) := by
  obtain ⟨h1, h2, h3, h4, h5, h6, h7, h8, h9, h10⟩ := h
  obtain ⟨M1, a1, a2, a3, a4⟩ := mr_more (d := d) (w := 4) h1 h6 (by omega) h7.2.2 (by omega)
  obtain ⟨M2, b1, b2, b3⟩ := rn_open (d := d) (ml_zf h1 a4) (rn_mg h5 a4 (by simp) (by simp)) hN 4 q.2.2.2.2.2.2.length
  have F2 : zf (mg am [17] [3, 5]) M M2 := zf_trans (zf_mono a4 (mg_mono (by simp) (by simp))) (zf_mono b3 (mg_mono (by simp) (by simp)))
  have f3 : zf (mg am [] [11]) M2 (zm_setI M2 20 (am + 11) (4 * r + q.2.2.2.2.2.2.length) (nI q.2.2.1)) := zf_set (.inr ⟨.inl rfl, 11, by simp, rfl⟩)
  have F3 : zf (mg am [17] [3, 5, 11]) M (zm_setI M2 20 (am + 11) (4 * r + q.2.2.2.2.2.2.length) (nI q.2.2.1)) := zf_trans (zf_mono F2 (mg_mono (by simp) (by simp))) (zf_mono f3 (mg_mono (by simp) (by simp)))
  have b1' : mo_opens d am 4 (nI q.2.2.2.2.2.2.length) M1 = some (nI q.2.2.1, M2) := b1
  have h62 : zm_I M2 12 am 16 = nI r := by rw [mg_f F2 (by simp)]; exact h6
  have r5 : ∀ j, zm_I (zm_setI M2 20 (am + 11) (4 * r + q.2.2.2.2.2.2.length) (nI q.2.2.1)) 20 (am + 5) j = zm_I M1 20 (am + 5) j := fun j => Eq.trans (mg_a f3 (by decide) (by simp)) (mg_a b3 (by decide) (by simp))
  refine ⟨M1, M2, a1, b1', h62, ml_zf h1 F2, ⟨ml_zf h1 F3, mt_mg h2 F3 (by simp) (by simp), rp_mg h3 F3 (by simp), by rw [mg_f F3 (by simp)]; exact h4, rn_mg b2 f3 (by simp) (by simp), by rw [mg_f F3 (by simp)]; exact h6, ⟨?_, ?_, ?_⟩, ?_, ?_, ?_⟩, F3, zf_trans (rw_one (J := fun j => j = 5 * r + 4) a4 a3 (by simp) (fun j hj => .inr (.inr ⟨rfl, .inr (.inl ⟨rfl, by omega, by omega⟩)⟩))) (zf_trans (rw_mg b3 (by simp) (by simp)) (zf_set (.inr (.inr ⟨rfl, .inr (.inr (.inr (.inr ⟨rfl, by omega, by omega⟩)))⟩))))⟩
  · rw [r5, a3 _ (by omega)]
    exact h7.1
  · rw [r5, a3 _ (by omega)]
    exact h7.2.1
  · rw [r5, a2]
    simp
  · intro i x hx
    have g := h8 i x hx
    rw [mg_a F3 (by decide) (by simp), mg_a F3 (by decide) (by simp)]
    exact g
  · intro i x hx
    have g := h9 i x hx
    rw [mg_a F3 (by decide) (by simp), mg_a F3 (by decide) (by simp), mg_a F3 (by decide) (by simp)]
    exact g
  · intro i x hx
    have hx' : (q.2.2.2.2.2.2 ++ [q.2.2.1])[i]? = some x := hx
    by_cases e : i < q.2.2.2.2.2.2.length
    · rw [List.getElem?_append_left e] at hx'
      rw [pm_ne (by omega), mg_a F2 (by decide) (by simp)]
      exact h10 i x hx'
    · have e2 : i = q.2.2.2.2.2.2.length := by
        have := (List.getElem?_eq_some_iff.mp hx').1
        simp at this
        omega
      subst e2
      have ex : x = q.2.2.1 := by simpa using hx'.symm
      rw [ex]
      exact pm_same
end
