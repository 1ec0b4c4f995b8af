/-! THE CLASS: the states met on the way -/
/-- where the walk is behind i letters -/
def py_at (P : yP) (ls : List Nat) (i : Nat) : yS := (py_rn P (ls.take i) py_s00).2
def re_st (M : zM) (re : Nat) (P : yP) (ls : List Nat) (n : Nat) : Prop := ∀ i, i ≤ n → zm_I M 20 (re + 6) i = py_cod P (py_at P ls i)
section
variable {M M' : zM} {pa : Nat → Nat} {P : yP} {d wk re Q B : Nat} {s : yS}
theorem rn_g (hP : py_ok P) : ∀ (b : List Nat) (s : yS) (B : Nat), wk_g P B s → wk_g P (B + b.length) (py_rn P b s).2 := by
  intro b
  induction b with
  | nil => intro s B h; exact h
  | cons l b ih =>
    intro s B h
    cases hf : py_fd P s l with
    | none => rw [rn_none hf]; exact wg_mono h (by omega)
    | some W =>
      rw [rn_some hf]
      have := ih _ _ (wg_go hP h hf)
      rw [List.length_cons, show B + (b.length + 1) = B + 1 + b.length by omega]
      exact this
theorem at_g (hP : py_ok P) {ls : List Nat} (hls : ls.length ≤ 24) (i : Nat) : wk_g P 24 (py_at P ls i) := by
  have := rn_g hP (ls.take i) py_s00 0 wg_0
  refine wg_mono this ?_
  rw [List.length_take]
  omega
/-- what a full prefix says -/
theorem rn_take {ls : List Nat} {i : Nat} (h : i ≤ (py_rn P ls py_s00).1.length) : (py_rn P (ls.take i) py_s00).1.length = (ls.take i).length := by
  have hle := rn_le (P := P) (ls.take i) py_s00
  by_cases q : (py_rn P (ls.take i) py_s00).1.length = (ls.take i).length
  · exact q
  · exfalso
    have hs := rn_stop (P := P) (ls.take i) (ls.drop i) py_s00 (by omega)
    rw [List.take_append_drop] at hs
    rw [hs] at h
    rw [List.length_take] at hle q
    omega
theorem rn_past {ls : List Nat} {i : Nat} (h : (py_rn P ls py_s00).1.length < i) (hi : i ≤ ls.length) : (py_rn P (ls.take i) py_s00).1.length < (ls.take i).length := by
  have hle := rn_le (P := P) (ls.take i) py_s00
  by_cases q : (py_rn P (ls.take i) py_s00).1.length = (ls.take i).length
  · exfalso
    have ha := rn_app (P := P) (ls.take i) (ls.drop i) py_s00 q
    rw [List.take_append_drop] at ha
    rw [ha, List.length_append, q, List.length_take] at h
    omega
  · omega
def r6_W (re t k _j : Nat) : Prop := t = 20 ∧ k = re + 6
theorem r6_rr : ∀ t k j, r6_W re t k j → rr_W re t k j := fun t k j h => .inr ⟨h.1, by have := h.2; omega, by have := h.2; omega⟩
theorem cl_mend_22 (hP : py_ok P) (hd : 2 ≤ d) (hr : wk + 12 < re) {ls : List Nat} (hls : ls.length ≤ 24) (h26 : ∀ x, x ∈ ls → x < 26) {g : List (Nat × Option Nat)} : ∀ (b a : List Nat) (M : zM), ls = a ++ b → (py_rn P a py_s00).1.length = a.length → wk_x M pa Q P wk (py_at P ls a.length) → re_x M re ls g → re_st M re P ls a.length → ∀ fuel, b.length < fuel → ∃ M', re_mend_22 d fuel re (some Q) (some wk) (nI a.length) M = re_mend_59 d re (some Q) (some wk) (nI (py_rn P ls py_s00).1.length) M' ∧ wk_x M' pa Q P wk (py_at P ls (py_rn P ls py_s00).1.length) ∧ re_x M' re ls g ∧ re_st M' re P ls (py_rn P ls py_s00).1.length ∧ zr (rd_W wk re) M M' := by
  intro b
  induction b with
  | nil =>
    intro a M e ha hx hre hst fuel hf
    rw [List.append_nil] at e
    subst e
    cases fuel with
    | zero => cases hf
    | succ fuel =>
      rw [ha]
      refine ⟨M, ?_, hx, hre, hst, zr_refl _ _⟩
      rw [re_mend_22, hre.2.1, if_pos ((le_i2 (by omega) (by omega)).mpr (Nat.le_refl _))]
  | cons l b ih =>
    intro a M e ha hx hre hst fuel hf
    have hla := congrArg List.length e
    rw [List.length_append, List.length_cons] at hla
    have hta : ls.take a.length = a := by rw [e]; simp
    have hat : py_at P ls a.length = (py_rn P a py_s00).2 := by unfold py_at; rw [hta]
    have hw : wk_g P 24 (py_at P ls a.length) := at_g hP hls _
    cases fuel with
    | zero => cases hf
    | succ fuel =>
      have hl : ls[a.length]? = some l := by rw [e]; simp
      have hl26 := h26 l (by rw [e]; simp)
      have hz : z_in (nI a.length) 24 := nI_in (by omega) (by omega)
      obtain ⟨M1, k1, k2, k3, k4⟩ := cl_step (d := d) hP hd hx hw.1 hw.2.2.2 (by omega) hl26
      have re1 := re_wz hre k4 hr
      have z1 : zr (rd_W wk re) M M1 := zr_mono k4 (fun t k j w => .inl w)
      have st1 : re_st M1 re P ls a.length := by
        intro i hi
        rw [zr_I k4 (by rintro (⟨e, _⟩ | ⟨_, e⟩)
                        · cases e
                        · omega)]
        exact hst i hi
      have hrn := rn_app (P := P) a (l :: b) py_s00 ha
      rw [← e, ← hat] at hrn
      rw [re_mend_22, hre.2.1, if_neg (fun y => by have := (le_i2 (by omega) (by omega)).mp y; omega)]
      simp only [hre.1.1.1, hre.1.1.2, if_pos hz, nI_clamp (show a.length < 2 ^ 31 by omega), hre.2.2.2.1 _ l hl, k1, Option.bind_some, zlet, nI_1]
      cases hfd : py_fd P (py_at P ls a.length) l with
      | none =>
        rw [if_pos (show zb (none : Option yW).isSome = 0 from rfl)]
        have hlen : (py_rn P ls py_s00).1.length = a.length := by
          rw [hrn, rn_none hfd]
          simp [ha]
        rw [hlen]
        exact ⟨M1, rfl, k2 hfd, re1, st1, z1⟩
      | some W =>
        obtain ⟨x1, _⟩ := k3 W hfd
        rw [if_neg (show ¬ zb (some W).isSome = 0 by show ¬ zb true = 0; decide)]
        have hgo : py_at P ls (a.length + 1) = py_go P (py_at P ls a.length) W := by
          have ht : ls.take (a.length + 1) = a ++ [l] := by
            rw [e, show a ++ l :: b = (a ++ [l]) ++ b by simp, show a.length + 1 = (a ++ [l]).length by simp, List.take_left]
          have h1 := rn_app (P := P) a [l] py_s00 ha
          unfold py_at at hfd ⊢
          rw [hta] at hfd ⊢
          rw [ht, h1, rn_some hfd]
          rfl
        have hfull : (py_rn P (a ++ [l]) py_s00).1.length = (a ++ [l]).length := by
          have h1 := rn_app (P := P) a [l] py_s00 ha
          rw [hat] at hfd
          rw [h1, rn_some hfd]
          simp [ha, py_rn]
        rw [← hgo] at x1
        have hw1 : wk_g P 24 (py_at P ls (a.length + 1)) := at_g hP hls _
        have hst1 := cl_state (d := d) hP (by omega) x1 hw1.2.1 hw1.2.2.2 (by omega)
        have hz2 : z_in (nI (a.length + 1)) 25 := nI_in (by omega) (by omega)
        obtain ⟨M2, hM2⟩ : ∃ Y, Y = zm_setI M1 20 (re + 6) (a.length + 1) (py_cod P (py_at P ls (a.length + 1))) := ⟨_, rfl⟩
        have f2 : zf (r6_W re) M1 M2 := by rw [hM2]; exact zf_set ⟨rfl, rfl⟩
        have x2 := wx_rr x1 (zf_mono f2 r6_rr) hr
        have re2 : re_x M2 re ls g := rx_rr re1 f2 ⟨(by rintro ⟨e, _⟩; cases e), (by rintro ⟨e, _⟩; cases e)⟩ (by rintro i j h1 h2 ⟨_, e⟩; omega)
        have st2 : re_st M2 re P ls (a.length + 1) := by
          intro i hi
          by_cases q : i = a.length + 1
          · rw [q, hM2, pm_same]
          · rw [hM2, pm_ne (by omega)]
            exact st1 i (by omega)
        have el : (a ++ [l]).length = a.length + 1 := by simp
        obtain ⟨M', q1, q2, q3, q4, q5⟩ := ih (a ++ [l]) M2 (by rw [e]; simp) hfull (by rw [el]; exact x2) re2 (by rw [el]; exact st2) fuel (by simp at hf; omega)
        refine ⟨M', ?_, q2, q3, q4, zr_trans z1 (zr_trans (zr_mono (zr_zf (zf_mono f2 r6_rr)) (fun t k j w => .inr w)) q5)⟩
        rw [el] at q1
        simp only [hst1, Option.bind_some, re1.1.2.2.2.2.2.1, re1.1.2.2.2.2.2.2, if_pos hz2, nI_clamp (show a.length + 1 < 2 ^ 31 by omega)]
        rw [← hM2]
        exact q1
end
