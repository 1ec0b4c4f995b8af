/-! THE CLASS: mend once more: what it keeps -/
def r7_W (wk re t k j : Nat) : Prop := wz_W wk t k j ∨ r6_W re t k j ∨ r13_W re t k j
section
variable {M M' : zM} {pa : Nat → Nat} {P : yP} {d wk re Q B n : Nat} {s : yS}
theorem cl_mend2_22 (hP : py_ok P) (hd : 2 ≤ d) (hr : wk + 12 < re) {ls : List Nat} (hls : ls.length ≤ 24) (h26 : ∀ x, x ∈ ls → x < 26) {g : List (Nat × Option Nat)} : ∀ (b a : List Nat) (M : zM), ls = a ++ b → (py_rn P a py_s00).1.length = a.length → wk_x M pa Q P wk (py_at P ls a.length) → re_x M re ls g → re_st M re P ls a.length → ∀ fuel, b.length < fuel → ∃ M', re_mend_22 d fuel re (some Q) (some wk) (nI a.length) M = re_mend_59 d re (some Q) (some wk) (nI (py_rn P ls py_s00).1.length) M' ∧ wk_x M' pa Q P wk (py_at P ls (py_rn P ls py_s00).1.length) ∧ re_x M' re ls g ∧ re_st M' re P ls (py_rn P ls py_s00).1.length ∧ zr (r7_W wk re) M M' := by
  intro b
  induction b with
  | nil =>
    intro a M e ha hx hre hst fuel hf
    rw [List.append_nil] at e
    subst e
    cases fuel with
    | zero => cases hf
    | succ fuel =>
      rw [ha]
      refine ⟨M, ?_, hx, hre, hst, zr_refl _ _⟩
      rw [re_mend_22, hre.2.1, if_pos ((le_i2 (by omega) (by omega)).mpr (Nat.le_refl _))]
  | cons l b ih =>
    intro a M e ha hx hre hst fuel hf
    have hla := congrArg List.length e
    rw [List.length_append, List.length_cons] at hla
    have hta : ls.take a.length = a := by rw [e]; simp
    have hat : py_at P ls a.length = (py_rn P a py_s00).2 := by unfold py_at; rw [hta]
    have hw : wk_g P 24 (py_at P ls a.length) := at_g hP hls _
    cases fuel with
    | zero => cases hf
    | succ fuel =>
      have hl : ls[a.length]? = some l := by rw [e]; simp
      have hl26 := h26 l (by rw [e]; simp)
      have hz : z_in (nI a.length) 24 := nI_in (by omega) (by omega)
      obtain ⟨M1, k1, k2, k3, k4⟩ := cl_step (d := d) hP hd hx hw.1 hw.2.2.2 (by omega) hl26
      have re1 := re_wz hre k4 hr
      have z1 : zr (r7_W wk re) M M1 := zr_mono k4 (fun t k j w => .inl w)
      have st1 : re_st M1 re P ls a.length := by
        intro i hi
        rw [zr_I k4 (by rintro (⟨e, _⟩ | ⟨_, e⟩)
                        · cases e
                        · omega)]
        exact hst i hi
      have hrn := rn_app (P := P) a (l :: b) py_s00 ha
      rw [← e, ← hat] at hrn
      rw [re_mend_22, hre.2.1, if_neg (fun y => by have := (le_i2 (by omega) (by omega)).mp y; omega)]
      simp only [hre.1.1.1, hre.1.1.2, if_pos hz, nI_clamp (show a.length < 2 ^ 31 by omega), hre.2.2.2.1 _ l hl, k1, Option.bind_some, zlet, nI_1]
      cases hfd : py_fd P (py_at P ls a.length) l with
      | none =>
        rw [if_pos (show zb (none : Option yW).isSome = 0 from rfl)]
        have hlen : (py_rn P ls py_s00).1.length = a.length := by
          rw [hrn, rn_none hfd]
          simp [ha]
        rw [hlen]
        exact ⟨M1, rfl, k2 hfd, re1, st1, z1⟩
      | some W =>
        obtain ⟨x1, _⟩ := k3 W hfd
        rw [if_neg (show ¬ zb (some W).isSome = 0 by show ¬ zb true = 0; decide)]
        have hgo : py_at P ls (a.length + 1) = py_go P (py_at P ls a.length) W := by
          have ht : ls.take (a.length + 1) = a ++ [l] := by
            rw [e, show a ++ l :: b = (a ++ [l]) ++ b by simp, show a.length + 1 = (a ++ [l]).length by simp, List.take_left]
          have h1 := rn_app (P := P) a [l] py_s00 ha
          unfold py_at at hfd ⊢
          rw [hta] at hfd ⊢
          rw [ht, h1, rn_some hfd]
          rfl
        have hfull : (py_rn P (a ++ [l]) py_s00).1.length = (a ++ [l]).length := by
          have h1 := rn_app (P := P) a [l] py_s00 ha
          rw [hat] at hfd
          rw [h1, rn_some hfd]
          simp [ha, py_rn]
        rw [← hgo] at x1
        have hw1 : wk_g P 24 (py_at P ls (a.length + 1)) := at_g hP hls _
        have hst1 := cl_state (d := d) hP (by omega) x1 hw1.2.1 hw1.2.2.2 (by omega)
        have hz2 : z_in (nI (a.length + 1)) 25 := nI_in (by omega) (by omega)
        obtain ⟨M2, hM2⟩ : ∃ Y, Y = zm_setI M1 20 (re + 6) (a.length + 1) (py_cod P (py_at P ls (a.length + 1))) := ⟨_, rfl⟩
        have f2 : zf (r6_W re) M1 M2 := by rw [hM2]; exact zf_set ⟨rfl, rfl⟩
        have x2 := wx_rr x1 (zf_mono f2 r6_rr) hr
        have re2 : re_x M2 re ls g := rx_rr re1 f2 ⟨(by rintro ⟨e, _⟩; cases e), (by rintro ⟨e, _⟩; cases e)⟩ (by rintro i j h1 h2 ⟨_, e⟩; omega)
        have st2 : re_st M2 re P ls (a.length + 1) := by
          intro i hi
          by_cases q : i = a.length + 1
          · rw [q, hM2, pm_same]
          · rw [hM2, pm_ne (by omega)]
            exact st1 i (by omega)
        have el : (a ++ [l]).length = a.length + 1 := by simp
        obtain ⟨M', q1, q2, q3, q4, q5⟩ := ih (a ++ [l]) M2 (by rw [e]; simp) hfull (by rw [el]; exact x2) re2 (by rw [el]; exact st2) fuel (by simp at hf; omega)
        refine ⟨M', ?_, q2, q3, q4, zr_trans z1 (zr_trans (zr_mono (zr_zf f2) (fun t k j w => .inr (.inl w))) q5)⟩
        rw [el] at q1
        simp only [hst1, Option.bind_some, re1.1.2.2.2.2.2.1, re1.1.2.2.2.2.2.2, if_pos hz2, nI_clamp (show a.length + 1 < 2 ^ 31 by omega)]
        rw [← hM2]
        exact q1
variable {ls : List Nat} {g : List (Nat × Option Nat)}
theorem cl_mend2 (hP : py_ok P) (hd : 5 ≤ d) (hls : ls.length ≤ 24) (h26 : ∀ x, x ∈ ls → x < 26) (hX : cX M pa Q P) (hw : wk_l M wk) (hq : Q + 10 ≤ wk) (hr : wk + 12 < re) (hre : re_x M re ls g) : ∃ M', re_mend d re (some Q) (some wk) M = some M' ∧ re_m M' re (py_cm P ls) ∧ zr (r7_W wk re) M M' := by
  obtain ⟨d, rfl⟩ : ∃ d', d = d' + 1 := ⟨d - 1, by omega⟩
  have h100 := zLF_100
  have eb : re_mend (d + 1) re (some Q) (some wk) M = re_mend_b d re (some Q) (some wk) M := rfl
  rw [eb]
  unfold re_mend_b
  have m2 : ∀ t k j, r13_W re t k j → r7_W wk re t k j := fun t k j w => .inr (.inr w)
  have m1 : ∀ t k j, wz_W wk t k j → r7_W wk re t k j := fun t k j w => .inl w
  obtain ⟨M1, hM1⟩ : ∃ Y, Y = zm_setI M 4 re 12 1 := ⟨_, rfl⟩
  have f1 : zf (r13_W re) M M1 := by rw [hM1]; exact zf_set ⟨rfl, rfl, by omega, by omega⟩
  have n8 : ∀ t k j, t ≠ 4 → ¬ r13_W re t k j := fun t k j ht x => ht x.1
  have X1 : cX M1 pa Q P := cX_zf hX f1 (fun k j => n8 _ _ _ (by decide)) (fun k j => n8 _ _ _ (by decide)) (fun j _ => n8 _ _ _ (by decide)) (fun i j _ => n8 _ _ _ (by decide))
  have w1 : wk_l M1 wk := by unfold wk_l; rw [f1.1, f1.2.1]; exact hw
  have re1 : re_x M1 re ls g := rx_rr hre f1 ⟨(by rintro ⟨_, _, e, _⟩; omega), (by rintro ⟨_, _, e, _⟩; omega)⟩ (by rintro i j _ _ ⟨e, _⟩; cases e)
  obtain ⟨M2, a1, a2, a3, a4⟩ := cl_begin (d := d) X1 w1 hq
  have re2 := re_wz re1 a4 hr
  have hst := cl_state (d := d) hP (by omega) a2 w0_0 (wg_0 (P := P)).2.2.2 (by omega)
  have hz : z_in (0 : Int32) 25 := nI_in (c := 0) (by omega) (by omega)
  have hc0 : (0 : Int32).toNatClampNeg = 0 := nI_clamp (show 0 < 2 ^ 31 by omega)
  obtain ⟨M3, hM3⟩ : ∃ Y, Y = zm_setI M2 20 (re + 6) 0 (py_cod P py_s00) := ⟨_, rfl⟩
  have f3 : zf (r6_W re) M2 M3 := by rw [hM3]; exact zf_set ⟨rfl, rfl⟩
  have x3 := wx_rr a2 (zf_mono f3 r6_rr) hr
  have re3 : re_x M3 re ls g := rx_rr re2 f3 ⟨(by rintro ⟨e, _⟩; cases e), (by rintro ⟨e, _⟩; cases e)⟩ (by rintro i j h1 h2 ⟨_, e⟩; omega)
  have st3 : re_st M3 re P ls ([] : List Nat).length := by
    intro i hi
    have : i = 0 := by simpa using hi
    subst this
    rw [hM3, pm_same]
    rfl
  obtain ⟨M4, b1, b2, b3, b4, b5⟩ := cl_mend2_22 (d := d) (P := P) (g := g) hP (by omega) hr hls h26 ls [] M3 rfl rfl x3 re3 st3 zLF (by omega)
  have b1 : re_mend_22 d zLF re (some Q) (some wk) 0 M3 = re_mend_59 d re (some Q) (some wk) (nI (py_rn P ls py_s00).1.length) M4 := b1
  obtain ⟨M5, c1, c2, c3⟩ := cl_mend_59 (d := d) hP (by omega) hls h26 ⟨b2.1, b2.2.1, hq, hr, b3, b4⟩ b2
  refine ⟨M5, ?_, c2, ?_⟩
  · simp only [zlet]
    rw [← hM1, a1, Option.bind_some]
    simp only [hst, Option.bind_some, re2.1.2.2.2.2.2.1, re2.1.2.2.2.2.2.2, if_pos hz, hc0]
    rw [← hM3, b1]
    exact c1
  · refine zr_trans (zr_mono (zr_zf f1) m2) (zr_trans (zr_mono a4 m1) (zr_trans (zr_mono (zr_zf f3) (fun t k j w => .inr (.inl w))) (zr_trans b5 (zr_mono c3 ?_))))
    rintro t k j (w | w)
    · exact m1 t k j w
    · exact m2 t k j w
end
