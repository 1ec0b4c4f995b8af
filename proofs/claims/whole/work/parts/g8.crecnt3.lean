/-! THE CLASS: recount -/
section
variable {ac N0 S0 d : Nat} {M : zM} {S : yZ} {g : yG2}
theorem cl_rec57f {v2 v3 v4 s0 : Int32} {v5 : Option Nat} (h : zin v3 13 = none ∨ s0 = 0) : cr_recount_57 d ac v2 v3 v4 v5 s0 M = some (-2, M) := by
  unfold cr_recount_57 cr_recount_74
  by_cases q : v3 < 0
  · rw [if_pos q]
  · rw [if_neg q]
    by_cases q2 : (12 : Int32) < v3
    · rw [if_pos q2]
    · rw [if_neg q2]
      rcases h with h | h
      · exfalso
        rcases zin_c (show 13 < 2 ^ 31 by omega) v3 with ⟨_, h1 | ⟨h1, h2, h3⟩⟩ | ⟨k, hk, e, hzi, _⟩
        · exact q h1
        · rw [Int32.lt_iff_toInt_lt] at q2
          rw [Int32.le_iff_toInt_le] at h2
          have e13 : (nI 13).toInt = 13 := by decide
          have e12 : (12 : Int32).toInt = 12 := by decide
          omega
        · rw [h] at hzi
          cases hzi
      · rw [if_pos h]
theorem cl_recount (hI : cI ac N0 S0 M S g) (hz : zz_ok S) (hd : 43 ≤ d) (x y f t : Int32) : cf_r ac N0 S0 M (cr_recount d ac x y f t M) (sp_rec S x y f t).1 (sp_rec S x y f t).2 := by
  obtain ⟨d, rfl⟩ : ∃ d', d = d' + 1 := ⟨d - 1, by omega⟩
  have eb : cr_recount (d + 1) ac x y f t M = cr_recount_b d ac x y f t M := rfl
  rw [eb]
  have hzz := zz_rec hz x y f t
  unfold cr_recount_b
  unfold sp_rec at hzz ⊢
  rw [cl_ruleAt hI]
  simp only [Option.bind_some, cr_recount_25, cr_recount_52, cr_recount_56]
  cases hx : zin x S.2.1.1 with
  | none => exact cf_same hI rfl
  | some r =>
    rw [hx] at hzz
    obtain ⟨hr, _⟩ := zin_some (show S.2.1.1 < 2 ^ 31 by have := hz.2.1; omega) hx
    obtain ⟨hP, hX, _, _, _, hr8⟩ := cI_r hI hz hr
    have r3 := hX.2.2.1.2.2.2.1.2.1
    have h8 := ok_nc hP
    simp only [Option.map_some, r3]
    dsimp only at hzz
    rcases zin_c (show py_nc (S.2.1.2 r) < 2 ^ 31 by omega) y with ⟨hzi, h | ⟨h1, h2, h3⟩⟩ | ⟨c, hc, e, hzi, h1, h2, h3⟩
    · rw [if_pos h, hzi]; exact cf_same hI rfl
    · rw [if_neg h1, if_neg h3, hzi]; exact cf_same hI rfl
    · rw [if_neg h1, if_pos h3, hzi]
      rw [hzi] at hzz
      dsimp only at hzz
      cases hzf : zin f 13 with
      | none =>
        refine cf_same hI ?_
        dsimp only
        simp only [cl_rec57f (d := d) (M := M) (.inl hzf)]
        simp
      | some fn =>
        rw [hzf] at hzz
        dsimp only at hzz
        obtain ⟨hfn, ef⟩ := zin_some (show 13 < 2 ^ 31 by omega) hzf
        by_cases q1 : t = -1
        · rw [if_pos q1]
          simp only [if_pos q1] at hzz ⊢
          have := cl_rec57 (d := d) (t := none) hI hz (by omega) hr hc (show fn ≤ 12 by omega) (fun x hx => by cases hx) (fun q => by rw [if_neg q] at hzz; exact hzz)
          rw [e, ef, q1]
          by_cases q : py_fr (S.2.1.2 r) c = fn ∧ py_to (S.2.1.2 r) c = none
          · rw [if_pos q, if_pos q] at this; rw [if_pos q]; exact this
          · rw [if_neg q, if_neg q] at this; rw [if_neg q]; exact this
        · rw [if_neg q1]
          simp only [if_neg q1] at hzz ⊢
          simp only [cl_rec57f (d := d) (M := M) (.inr rfl)]
          rcases zin_c (show 13 < 2 ^ 31 by omega) t with ⟨hzt, h5⟩ | ⟨tn, htn, et, hzt, _⟩
          · have h6 : t < 1 ∨ (12 : Int32) < t := by
              rw [Int32.lt_iff_toInt_lt, Int32.lt_iff_toInt_lt]
              rw [Int32.lt_iff_toInt_lt, Int32.le_iff_toInt_le] at h5
              have e13 : (nI 13).toInt = 13 := by decide
              have e12 : (12 : Int32).toInt = 12 := by decide
              have e1 : (1 : Int32).toInt = 1 := by decide
              have e0 : (0 : Int32).toInt = 0 := by decide
              omega
            rw [hzt]
            refine cf_same hI ?_
            by_cases a : t < 1
            · rw [if_pos a]
            · rw [if_neg a]
              by_cases b : t < f
              · rw [if_pos b]
              · rw [if_neg b, if_pos (h6.resolve_left a)]
          · rw [hzt]
            rw [hzt] at hzz
            dsimp only at hzz ⊢
            have d1 : (t < 1) ↔ tn < 1 := by rw [et]; exact lt_i2 (m := 1) (by omega) (by omega)
            have d2 : (t < f) ↔ tn < fn := by rw [et, ef]; exact lt_i2 (by omega) (by omega)
            have d3 : ¬ (12 : Int32) < t := by rw [et]; exact fun y => by have := (lt_i2 (a := 12) (m := tn) (by omega) (by omega)).mp y; omega
            by_cases qm : max 1 fn ≤ tn
            · rw [if_neg (fun y => by have := d1.mp y; omega), if_neg (fun y => by have := d2.mp y; omega), if_neg d3]
              rw [if_pos qm] at hzz ⊢
              have := cl_rec57 (d := d) (t := some tn) hI hz (by omega) hr hc (show fn ≤ 12 by omega) (fun x hx => by injection hx with hx; omega) (fun q => by rw [if_neg q] at hzz; exact hzz)
              rw [e, ef, et]
              by_cases q : py_fr (S.2.1.2 r) c = fn ∧ py_to (S.2.1.2 r) c = some tn
              · rw [if_pos q, if_pos q] at this; rw [if_pos q]; exact this
              · rw [if_neg q, if_neg q] at this; rw [if_neg q]; exact this
            · rw [if_neg qm]
              refine cf_same hI ?_
              by_cases a : t < 1
              · rw [if_pos a]
              · rw [if_neg a, if_pos (d2.mpr (by have : ¬ tn < 1 := fun y => a (d1.mpr y); omega))]
end
