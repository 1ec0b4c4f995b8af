/-! THE CLASS: recount, whole -/
section
variable {ac N0 S0 d : Nat} {M : zM} {S : yZ} {g : yG2}
theorem cl_rec57 (hI : cI ac N0 S0 M S g) (hz : zz_ok S) (hd : 42 ≤ d) {r c f : Nat} {t : Option Nat} (hr : r < S.2.1.1) (hc : c < py_nc (S.2.1.2 r)) (hf : f ≤ 12) (ht : ∀ x, t = some x → 1 ≤ x ∧ x ≤ 12 ∧ f ≤ x) (hzz : ¬ (py_fr (S.2.1.2 r) c = f ∧ py_to (S.2.1.2 r) c = t) → zz_ok (yz_r S r (py_rc (S.2.1.2 r) c f t))) : cf_r ac N0 S0 M (cr_recount_57 d ac (nI c) (nI f) (zo t) (some (g.1.1 + 2 + 10 * r)) 1 M) (if py_fr (S.2.1.2 r) c = f ∧ py_to (S.2.1.2 r) c = t then -3 else zb (py_sure (py_rc (S.2.1.2 r) c f t))) (if py_fr (S.2.1.2 r) c = f ∧ py_to (S.2.1.2 r) c = t then S else yz_r S r (py_rc (S.2.1.2 r) c f t)) := by
  obtain ⟨hP, hX, x14, x15, x16, hr8⟩ := cI_r hI hz hr
  obtain ⟨hN, hA, ⟨hF, r0, r1, ⟨r2, r3, r4⟩, rl, rc, ra, rn⟩, hcA⟩ := hX
  have h8 := ok_nc hP
  have hzk : z_in (nI c) 8 := nI_in (by omega) (by omega)
  obtain ⟨_, _, _, p12, pt⟩ := hP.2.2.2.2.2.2.1 c hc
  have c1 : (nI (py_fr (S.2.1.2 r) c) = nI f) ↔ py_fr (S.2.1.2 r) c = f := nI_eq (by omega) (by omega)
  have c2 : (zo (py_to (S.2.1.2 r) c) = zo t) ↔ py_to (S.2.1.2 r) c = t := by
    cases t with
    | none =>
      rw [pb_zon]
      exact pb_zo1 (fun n hn => by have := pt n hn; omega)
    | some x =>
      have := ht x rfl
      rw [pb_zos]
      exact zo_eq (fun y hy => by have := pt y hy; omega) (by omega)
  unfold cr_recount_57
  rw [if_neg (show ¬ nI f < 0 from fun y => by have := (lt_i2 (a := f) (m := 0) (by omega) (by omega)).mp y; omega), if_neg (show ¬ (12 : Int32) < nI f from fun y => by have := (lt_i2 (a := 12) (m := f) (by omega) (by omega)).mp y; omega), if_neg (show ¬ (1 : Int32) = 0 by decide)]
  simp only [hF.1.2.2.2.2.1.1, hF.1.2.2.2.2.1.2, hF.1.2.2.2.2.2.1.1, hF.1.2.2.2.2.2.1.2, if_pos hzk, nI_clamp (show c < 2 ^ 31 by omega), (hF.2 c hc).1, (hF.2 c hc).2, c1, c2]
  by_cases q : py_fr (S.2.1.2 r) c = f
  · by_cases q2 : py_to (S.2.1.2 r) c = t
    · rw [if_pos q, if_pos q2, if_pos ⟨q, q2⟩, if_pos ⟨q, q2⟩]
      exact cf_same hI rfl
    · rw [if_pos q, if_neg q2, if_neg (fun h => q2 h.2), if_neg (fun h => q2 h.2)]
      exact cl_rec103 hI hz hd hr hc hf ht (hzz (fun h => q2 h.2))
  · rw [if_neg q, if_neg (fun h => q h.1), if_neg (fun h => q h.1)]
    exact cl_rec103 hI hz hd hr hc hf ht (hzz (fun h => q h.1))
end
