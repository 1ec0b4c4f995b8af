/-! THE RULES' text: bounds -/
theorem sk_sk : ∀ (b : List Nat) (p : Nat), py_sk (py_sk b p).1 (py_sk b p).2 = py_sk b p := by
  intro b
  induction b with
  | nil => intro p; rfl
  | cons x b ih =>
    intro p
    by_cases c : x = 32
    · have e : py_sk (x :: b) p = py_sk b (p + 1) := by
        conv => lhs; unfold py_sk
        rw [if_pos c]
      rw [e]
      exact ih _
    · have e : py_sk (x :: b) p = (x :: b, p) := by
        conv => lhs; unfold py_sk
        rw [if_neg c]
      rw [e]
      exact e
theorem sgn_sk (c : Nat) (b : List Nat) (p : Nat) : pp_sgn c (py_sk b p).1 (py_sk b p).2 = pp_sgn c b p := by
  unfold pp_sgn
  rw [sk_sk]
def rb_r (am : Nat) (T : List Nat) (M' : zM) (row : Nat) (v : Except Nat (Nat × Option Nat × List Nat × Nat)) : Prop := (∃ q, v = .error q ∧ zm_I M' 12 am 4 = nI q ∧ q ≤ 400) ∨ (∃ x, v = .ok x ∧ zm_I M' 12 am 4 = -1 ∧ rp_x am M' T x.2.2.1 x.2.2.2 ∧ zm_I M' 20 (am + 7) row = nI x.1 ∧ zm_I M' 20 (am + 7) (row + 1) = zo x.2.1 ∧ x.1 ≤ 12 ∧ ∀ t, x.2.1 = some t → 1 ≤ t ∧ t ≤ 12 ∧ x.1 ≤ t)
section
variable {am d : Nat} {M : zM} {T : List Nat}
theorem mr_bounds_115 (hok : tp_ok T) {b : List Nat} {p : Nat} (hl : ml_ok am M) (hT : mt_p am M T) (h : rp_x am M T b p) (h4 : zm_I M 12 am 4 = -1) (hd : 2 ≤ d) : ∃ M', mo_bounds_115 d am M = some M' ∧ zf (mg am [3, 4] []) M M' ∧ ((∃ y, pp_sgn 125 b p = .ok y ∧ zm_I M' 12 am 4 = -1 ∧ rp_x am M' T y.1 y.2) ∨ (∃ q, pp_sgn 125 b p = .error q ∧ zm_I M' 12 am 4 = nI q ∧ q ≤ 400)) := by
  obtain ⟨M1, g1, g2⟩ := mr_takes2 (d := d) (c := 125) hok hl hT h hd (by omega)
  have h41 : zm_I M1 12 am 4 = -1 := by rw [mg_f g1 (by simp)]; exact h4
  have hf1 : zf (mg am [3, 4] []) M M1 := zf_mono g1 (mg_mono (by simp) (by simp))
  unfold mo_bounds_115
  rw [mr_fine1 h4]
  simp only [Option.bind_some, if_neg (show ¬ (1 : Int32) = 0 by decide)]
  rcases g2 with ⟨y, k1, k2, k3⟩ | ⟨k1, k2, k3⟩
  · have k2' : mo_takes d am 125 M = some (1, M1) := k2
    refine ⟨M1, ?_, hf1, .inl ⟨y, k1, h41, k3⟩⟩
    simp only [k2', Option.bind_some, if_neg (show ¬ (1 : Int32) = 0 by decide), mo_bounds_139]
  · have k2' : mo_takes d am 125 M = some (0, M1) := k2
    refine ⟨zm_setI M1 12 am 4 (nI (py_sk b p).2), ?_, zf_trans hf1 (zf_set (.inl ⟨rfl, rfl, by simp⟩)), .inr ⟨_, k1, pm_same, rp_le hok k3⟩⟩
    simp only [k2', Option.bind_some, if_true, k3.1, mr_fails h41, mo_bounds_139]
theorem mr_bounds (hok : tp_ok T) {b : List Nat} {p row : Nat} (hl : ml_ok am M) (hT : mt_p am M T) (h : rp_x am M T b p) (h4 : zm_I M 12 am 4 = -1) (hd : 3 ≤ d) (hrow : row + 1 < 192) : ∃ M', mo_bounds d am (nI row) M = some M' ∧ zf (mg am [3, 4] [7]) M M' ∧ (∀ j, j ≠ row → j ≠ row + 1 → zm_I M' 20 (am + 7) j = zm_I M 20 (am + 7) j) ∧ rb_r am T M' row (pp_bnd b p) := by
  obtain ⟨d, rfl⟩ : ∃ d', d = d' + 1 := ⟨d - 1, by omega⟩
  have eb : mo_bounds (d + 1) am (nI row) M = mo_bounds_b d am (nI row) M := rfl
  rw [eb]
  obtain ⟨res, M1, a1, a2, a3⟩ := mr_number2 (d := d) (least := 0) hok hl hT h h4 (by omega) (by omega)
  have a1' : mo_number d am 0 M = some (res, M1) := a1
  have hf1 : zf (mg am [3, 4] [7]) M M1 := zf_mono a2 (mg_mono (by simp) (by simp))
  have hj1 : ∀ j, zm_I M1 20 (am + 7) j = zm_I M 20 (am + 7) j := fun j => mg_a a2 (by decide) (by simp)
  unfold mo_bounds_b pp_bnd
  rw [a1']
  simp only [Option.bind_some]
  rcases a3 with ⟨q, b1, b2, b3⟩ | ⟨x, b1, b2, b3, b4, b5, b6⟩
  · rw [b1]
    refine ⟨M1, ?_, hf1, fun j _ _ => hj1 j, .inl ⟨q, rfl, b2, b3⟩⟩
    simp only [mr_fine0 b2 b3, Option.bind_some, if_true]
  · rw [b1]
    subst b2
    dsimp only
    have hl1 := ml_zf hl hf1
    have z0 : z_in (nI row) 192 := nI_in (by omega) (by omega)
    have z1 : z_in (nI (row + 1)) 192 := nI_in (by omega) (by omega)
    simp only [mr_fine1 b5, Option.bind_some, if_neg (show ¬ (1 : Int32) = 0 by decide), ml_R10 hl1, ml_L10 hl1, if_pos z0, nI_clamp (show row < 2 ^ 31 by omega), zlet, pm_RI, pm_LI, nI_1, if_pos z1, nI_clamp (show row + 1 < 2 ^ 31 by omega)]
    obtain ⟨M3, hM3⟩ : ∃ X, X = zm_setI (zm_setI M1 20 (am + 7) row (nI x.1)) 20 (am + 7) (row + 1) (nI x.1) := ⟨_, rfl⟩
    rw [← hM3]
    have f3 : zf (mg am [] [7]) M1 M3 := by
      rw [hM3]
      exact zf_trans (zf_set (.inr ⟨.inl rfl, 7, by simp, rfl⟩)) (zf_set (.inr ⟨.inl rfl, 7, by simp, rfl⟩))
    have hf3 : zf (mg am [3, 4] [7]) M M3 := zf_trans hf1 (zf_mono f3 (mg_mono (by simp) (by simp)))
    have w0 : zm_I M3 20 (am + 7) row = nI x.1 := by rw [hM3, pm_ne (by omega), pm_same]
    have w1 : zm_I M3 20 (am + 7) (row + 1) = nI x.1 := by rw [hM3, pm_same]
    have hj3 : ∀ j, j ≠ row → j ≠ row + 1 → zm_I M3 20 (am + 7) j = zm_I M 20 (am + 7) j := by
      intro j h0 h1
      rw [hM3, pm_ne (by omega), pm_ne (by omega)]
      exact hj1 j
    obtain ⟨M4, c1, c2, c3, c4⟩ := mr_look2 (d := d) hok (ml_zf hl hf3) (mt_mg hT hf3 (by simp) (by simp)) (rp_mg b6 f3 (by simp)) (by omega)
    have hf4 : zf (mg am [3, 4] [7]) M M4 := zf_trans hf3 (zf_mono c3 (mg_mono (by simp) (by simp)))
    have hj4 : ∀ j, zm_I M4 20 (am + 7) j = zm_I M3 20 (am + 7) j := fun j => mg_a c3 (by decide) (by simp)
    have h44 : zm_I M4 12 am 4 = -1 := by rw [mg_f c3 (by simp), mg_f f3 (by simp)]; exact b5
    have e125 : (py_ht (py_sk x.2.1 x.2.2).1 = 125) ↔ (py_sk x.2.1 x.2.2).1.head? = some 125 := ht_eq (c := 125) c4 (by omega)
    have ex0 : (nI x.1 = 0) ↔ x.1 = 0 := nI_eq (b := 0) (by omega) (by omega)
    rw [c1]
    simp only [Option.bind_some, e125, ex0]
    by_cases q1 : (py_sk x.2.1 x.2.2).1.head? = some 125
    · rw [if_pos q1, if_pos q1]
      by_cases q2 : x.1 = 0
      · rw [if_pos q2, if_pos q2, c2.1, mr_fails h44]
        simp only [Option.bind_some, mo_bounds_51, zlet]
        refine ⟨_, rfl, zf_trans (zf_trans hf4 (zf_set (.inl ⟨rfl, rfl, by simp⟩))) (zf_set (.inl ⟨rfl, rfl, by simp⟩)), ?_, .inl ⟨_, rfl, ?_, rp_le hok c2⟩⟩
        · intro j h0 h1
          rw [pm_ne (by omega), pm_ne (by omega), hj4 j]
          exact hj3 j h0 h1
        · rw [pm_ne (by omega), pm_same]
      · rw [if_neg q2, if_neg q2]
        simp only [mo_bounds_51, zlet, c2.1, nI_1]
        refine ⟨_, rfl, zf_trans hf4 (zf_set (.inl ⟨rfl, rfl, by simp⟩)), ?_, .inr ⟨_, rfl, ?_, ⟨pm_same, ?_⟩, ?_, ?_, b4, ?_⟩⟩
        · intro j h0 h1
          rw [pm_ne (by omega), hj4 j]
          exact hj3 j h0 h1
        · rw [pm_ne (by omega)]; exact h44
        · obtain ⟨_, a', e', l'⟩ := c2
          refine ⟨a' ++ [125], ?_, by simp [l']⟩
          have : (py_sk x.2.1 x.2.2).1 = 125 :: (py_sk x.2.1 x.2.2).1.tail := by
            cases hs : (py_sk x.2.1 x.2.2).1 with
            | nil => rw [hs] at q1; cases q1
            | cons y r =>
              rw [hs] at q1
              have : y = 125 := by simpa using q1
              rw [this]
              rfl
          rw [this] at e'
          rw [e']
          simp
        · rw [pm_ne (by omega), hj4]; exact w0
        · rw [pm_ne (by omega), hj4]; exact w1
        · intro t ht
          injection ht with ht
          omega
    · rw [if_neg q1, if_neg q1]
      obtain ⟨M5, g1, g2⟩ := mr_takes2 (d := d) (c := 44) hok (ml_zf hl hf4) (mt_mg hT hf4 (by simp) (by simp)) c2 (by omega) (by omega)
      rw [sgn_sk] at g2
      have hf5 : zf (mg am [3, 4] [7]) M M5 := zf_trans hf4 (zf_mono g1 (mg_mono (by simp) (by simp)))
      have h45 : zm_I M5 12 am 4 = -1 := by rw [mg_f g1 (by simp)]; exact h44
      have hj5 : ∀ j, zm_I M5 20 (am + 7) j = zm_I M3 20 (am + 7) j := fun j => Eq.trans (mg_a g1 (by decide) (by simp)) (hj4 j)
      rcases g2 with ⟨y, k1, k2, k3⟩ | ⟨k1, k2, k3⟩
      · have k2' : mo_takes d am 44 M4 = some (1, M5) := k2
        rw [k1, k2']
        have hl5 := ml_zf hl hf5
        simp only [Option.bind_some, if_neg (show ¬ (1 : Int32) = 0 by decide), ml_R10 hl5, ml_L10 hl5, if_pos z1]
        obtain ⟨M6, hM6⟩ : ∃ X, X = zm_setI M5 20 (am + 7) (row + 1) (-1) := ⟨_, rfl⟩
        rw [← hM6]
        have f6 : zf (mg am [] [7]) M5 M6 := by rw [hM6]; exact zf_set (.inr ⟨.inl rfl, 7, by simp, rfl⟩)
        have hf6 : zf (mg am [3, 4] [7]) M M6 := zf_trans hf5 (zf_mono f6 (mg_mono (by simp) (by simp)))
        have v0 : zm_I M6 20 (am + 7) row = nI x.1 := by rw [hM6, pm_ne (by omega), hj5]; exact w0
        have v1 : zm_I M6 20 (am + 7) (row + 1) = -1 := by rw [hM6, pm_same]
        have hj6 : ∀ j, j ≠ row → j ≠ row + 1 → zm_I M6 20 (am + 7) j = zm_I M 20 (am + 7) j := by
          intro j h0 h1
          rw [hM6, pm_ne (by omega), hj5]
          exact hj3 j h0 h1
        obtain ⟨M7, m1, m2, m3, m4⟩ := mr_look2 (d := d) hok (ml_zf hl hf6) (mt_mg hT hf6 (by simp) (by simp)) (rp_mg k3 f6 (by simp)) (by omega)
        have hf7 : zf (mg am [3, 4] [7]) M M7 := zf_trans hf6 (zf_mono m3 (mg_mono (by simp) (by simp)))
        have hl7 := ml_zf hl hf7
        have hT7 := mt_mg hT hf7 (by simp) (by simp)
        have h47 : zm_I M7 12 am 4 = -1 := by rw [mg_f m3 (by simp), mg_f f6 (by simp)]; exact h45
        have hj7 : ∀ j, zm_I M7 20 (am + 7) j = zm_I M6 20 (am + 7) j := fun j => mg_a m3 (by decide) (by simp)
        have f125 : (py_ht (py_sk y.1 y.2).1 = 125) ↔ (py_sk y.1 y.2).1.head? = some 125 := ht_eq (c := 125) m4 (by omega)
        rw [m1]
        simp only [Option.bind_some, f125]
        by_cases q2 : (py_sk y.1 y.2).1.head? = some 125
        · rw [if_pos q2, if_pos q2]
          obtain ⟨M8, n1, n2, n3⟩ := mr_bounds_115 (d := d) hok hl7 hT7 m2 h47 (by omega)
          have es : pp_sgn 125 (py_sk y.1 y.2).1 (py_sk y.1 y.2).2 = .ok ((py_sk y.1 y.2).1.tail, (py_sk y.1 y.2).2 + 1) := by
            rw [sgn_sk]
            unfold pp_sgn
            rw [if_pos q2]
          rw [es] at n3
          have hj8 : ∀ j, zm_I M8 20 (am + 7) j = zm_I M6 20 (am + 7) j := fun j => Eq.trans (mg_a n2 (by decide) (by simp)) (hj7 j)
          rcases n3 with ⟨z, z1, z2, z3⟩ | ⟨z, z1, _⟩
          · injection z1 with z1
            rw [← z1] at z3
            refine ⟨M8, n1, zf_trans hf7 (zf_mono n2 (mg_mono (by simp) (by simp))), ?_, .inr ⟨_, rfl, z2, z3, ?_, ?_, b4, ?_⟩⟩
            · intro j h0 h1
              rw [hj8]
              exact hj6 j h0 h1
            · rw [hj8]; exact v0
            · rw [hj8]; exact v1
            · intro t ht
              cases ht
          · cases z1
        · rw [if_neg q2, if_neg q2]
          have emx : (if 1 < nI x.1 then nI x.1 else 1) = nI (max 1 x.1) := by
            have : ((1 : Int32) < nI x.1) ↔ 1 < x.1 := nI_ltI (a := 1) (by omega) (by omega)
            simp only [this]
            by_cases u : 1 < x.1
            · rw [if_pos u, Nat.max_eq_right (by omega)]
            · rw [if_neg u, Nat.max_eq_left (by omega)]
              rfl
          rw [emx]
          obtain ⟨res2, M8, n1, n2, n3⟩ := mr_number2 (d := d) (least := max 1 x.1) hok hl7 hT7 m2 h47 (by omega) (by omega)
          rw [sk_sk] at n3
          have hf8 : zf (mg am [3, 4] [7]) M M8 := zf_trans hf7 (zf_mono n2 (mg_mono (by simp) (by simp)))
          have hl8 := ml_zf hl hf8
          have hj8 : ∀ j, zm_I M8 20 (am + 7) j = zm_I M6 20 (am + 7) j := fun j => Eq.trans (mg_a n2 (by decide) (by simp)) (hj7 j)
          rw [n1]
          simp only [Option.bind_some, ml_R10 hl7, ml_L10 hl8, if_pos z1]
          obtain ⟨M9, hM9⟩ : ∃ X, X = zm_setI M8 20 (am + 7) (row + 1) res2 := ⟨_, rfl⟩
          rw [← hM9]
          have f9 : zf (mg am [] [7]) M8 M9 := by rw [hM9]; exact zf_set (.inr ⟨.inl rfl, 7, by simp, rfl⟩)
          have hf9 : zf (mg am [3, 4] [7]) M M9 := zf_trans hf8 (zf_mono f9 (mg_mono (by simp) (by simp)))
          have hj9 : ∀ j, j ≠ row → j ≠ row + 1 → zm_I M9 20 (am + 7) j = zm_I M 20 (am + 7) j := by
            intro j h0 h1
            rw [hM9, pm_ne (by omega), hj8]
            exact hj6 j h0 h1
          rcases n3 with ⟨q, s1, s2, s3⟩ | ⟨t, s1, s2, s3, s4, s5, s6⟩
          · rw [s1]
            have h49 : zm_I M9 12 am 4 = nI q := by rw [mg_f f9 (by simp)]; exact s2
            refine ⟨M9, ?_, hf9, hj9, .inl ⟨q, rfl, h49, s3⟩⟩
            unfold mo_bounds_115
            simp only [mr_fine0 h49 s3, Option.bind_some, if_true, mo_bounds_139]
          · rw [s1]
            subst s2
            dsimp only
            have h49 : zm_I M9 12 am 4 = -1 := by rw [mg_f f9 (by simp)]; exact s5
            obtain ⟨M10, u1, u2, u3⟩ := mr_bounds_115 (d := d) hok (ml_zf hl hf9) (mt_mg hT hf9 (by simp) (by simp)) (rp_mg s6 f9 (by simp)) h49 (by omega)
            have hjA : ∀ j, zm_I M10 20 (am + 7) j = zm_I M9 20 (am + 7) j := fun j => mg_a u2 (by decide) (by simp)
            have hfA : zf (mg am [3, 4] [7]) M M10 := zf_trans hf9 (zf_mono u2 (mg_mono (by simp) (by simp)))
            have hjB : ∀ j, j ≠ row → j ≠ row + 1 → zm_I M10 20 (am + 7) j = zm_I M 20 (am + 7) j := by
              intro j h0 h1
              rw [hjA]
              exact hj9 j h0 h1
            rcases u3 with ⟨z, z1, z2, z3⟩ | ⟨z, z1, z2, z3⟩
            · rw [z1]
              refine ⟨M10, u1, hfA, hjB, .inr ⟨_, rfl, z2, z3, ?_, ?_, b4, ?_⟩⟩
              · rw [hjA, hM9, pm_ne (by omega), hj8]; exact v0
              · rw [hjA, hM9, pm_same]; rfl
              · intro t' ht
                injection ht with ht
                omega
            · rw [z1]
              exact ⟨M10, u1, hfA, hjB, .inl ⟨z, rfl, z2, z3⟩⟩
      · have k2' : mo_takes d am 44 M4 = some (0, M5) := k2
        rw [sk_sk] at k3 k1
        rw [k1, k2']
        simp only [Option.bind_some, if_true, k3.1, mr_fails h45]
        refine ⟨_, rfl, zf_trans hf5 (zf_set (.inl ⟨rfl, rfl, by simp⟩)), ?_, .inl ⟨_, rfl, ?_, rp_le hok k3⟩⟩
        · intro j h0 h1
          rw [pm_ne (by omega), hj5]
          exact hj3 j h0 h1
        · rw [pm_same]
end
