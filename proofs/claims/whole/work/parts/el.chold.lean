/-! THE CLASS: a thing is held to its rule -/
def do_x (M : zM) (dc : Nat) (D : List yT) : Prop := do_l M dc ∧ zm_I M 1 dc 0 = nI D.length ∧ ∀ (i : Nat) (x : yT), D[i]? = some x → zm_I M 20 (dc + 1) i = nI x.1 ∧ zm_I M 20 (dc + 2) i = zo x.2.1 ∧ zm_I M 20 (dc + 3) i = nI x.2.2.1 ∧ zm_I M 20 (dc + 4) i = nI x.2.2.2
section
variable {M M' : zM} {pa : Nat → Nat} {P : yP} {d dc wk Q B : Nat} {D : List yT}
theorem do_wz (h : do_x M dc D) (hf : zr (wz_W wk) M M') (hr : dc + 9 < wk) : do_x M' dc D := by
  have n1 : ∀ j, ¬ wz_W wk 1 dc j := by rintro j (⟨e, _⟩ | ⟨e, _⟩) <;> cases e
  have n20 : ∀ i j, i ≤ 9 → ¬ wz_W wk 20 (dc + i) j := by
    rintro i j hi (⟨e, _⟩ | ⟨_, e⟩)
    · cases e
    · omega
  refine ⟨⟨?_, ?_, ?_⟩, ?_, ?_⟩
  · intro i h1 h2
    rw [zr_R hf (n1 i), zr_L hf]
    exact h.1.1 i h1 h2
  · rw [zr_R hf (n1 9)]; exact h.1.2.1
  · rw [zr_L hf]; exact h.1.2.2
  · rw [zr_I hf (n1 0)]; exact h.2.1
  · intro i x hx
    rw [zr_I hf (n20 1 i (by omega)), zr_I hf (n20 2 i (by omega)), zr_I hf (n20 3 i (by omega)), zr_I hf (n20 4 i (by omega))]
    exact h.2.2 i x hx
theorem cl_hold_16 (hP : py_ok P) (hd : 2 ≤ d) (hr : dc + 9 < wk) (hD : D.length ≤ 60) (h26 : ∀ x, x ∈ D → x.1 < 26 ∧ ∀ p, x.2.1 = some p → p < 60) {t : Nat} (ht : t < 60) : ∀ (r a : List yT) (M : zM) (s : yS) (n B : Nat), D = a ++ r → B + r.length ≤ 900 → wk_g P B s → wk_x M pa Q P wk s → do_x M dc D → ∀ fuel, r.length + 1 < fuel → ∃ M', do_holdTo_16 d fuel dc (nI t) (some wk) (nI n) 1 (nI a.length) M = do_holdTo_75 d dc (nI t) (some wk) (nI (n + (py_rn P (py_kl r t) s).1.length)) M' ∧ wk_x M' pa Q P wk (py_rn P (py_kl r t) s).2 ∧ wk_g P (B + r.length) (py_rn P (py_kl r t) s).2 ∧ do_x M' dc D ∧ zr (wz_W wk) M M' := by
  intro r
  induction r with
  | nil =>
    intro a M s n B e hB hw hx hdo fuel hf
    have hla := congrArg List.length e
    rw [List.append_nil] at hla
    cases fuel with
    | zero => cases hf
    | succ fuel =>
      refine ⟨M, ?_, hx, hw, hdo, zr_refl _ _⟩
      rw [do_holdTo_16, hdo.2.1, if_pos ((le_i2 (by omega) (by omega)).mpr (by omega))]
      rfl
  | cons y r ih =>
    intro a M s n B e hB hw hx hdo fuel hf
    have hla := congrArg List.length e
    rw [List.length_append, List.length_cons] at hla
    rw [List.length_cons] at hB
    have hel : (a ++ [y]).length = a.length + 1 := by simp
    cases fuel with
    | zero => cases hf
    | succ fuel =>
      have hy : D[a.length]? = some y := by rw [e]; simp
      have hy26 := h26 y (by rw [e]; simp)
      have hz : z_in (nI a.length) 60 := nI_in (by omega) (by omega)
      obtain ⟨r1, r2, _⟩ := hdo.2.2 _ y hy
      have l1 := hdo.1.1 1 (by omega) (by omega)
      have l2 := hdo.1.1 2 (by omega) (by omega)
      have ep : (zo y.2.1 = nI t) ↔ y.2.1 = some t := zo_eq (fun p hp => by have := hy26.2 p hp; omega) (by omega)
      rw [do_holdTo_16, hdo.2.1, if_neg (fun q => by have := (le_i2 (by omega) (by omega)).mp q; omega), if_neg (show ¬ (1 : Int32) = 0 by decide)]
      simp only [l1.1, l1.2, l2.1, l2.2, if_pos hz, nI_clamp (show a.length < 2 ^ 31 by omega), r1, r2, ep, do_holdTo_69, do_holdTo_66, zlet, nI_1]
      by_cases q : y.2.1 = some t
      · have hk : py_kl (y :: r) t = y.1 :: py_kl r t := by
          unfold py_kl
          rw [List.filter_cons, if_pos (by simpa using q)]
          rfl
        rw [if_pos q, hk]
        obtain ⟨M1, k1, k2, k3, k4⟩ := cl_step (d := d) hP hd hx hw.1 hw.2.2.2 (by omega) hy26.1
        have do1 := do_wz hdo k4 hr
        rw [k1, Option.bind_some]
        cases hfd : py_fd P s y.1 with
        | none =>
          rw [rn_none hfd]
          have h0 : zb (none : Option yW).isSome = 0 := rfl
          simp only [h0, if_true]
          cases fuel with
          | zero => omega
          | succ fuel =>
            refine ⟨M1, ?_, k2 hfd, wg_mono hw (by omega), do1, k4⟩
            rw [do_holdTo_16]
            have e0 : nI n + 0 = nI n := nI_add n 0
            rw [e0]
            split
            · rfl
            · rw [if_pos rfl]; rfl
        | some W =>
          rw [rn_some hfd]
          obtain ⟨x1, _⟩ := k3 W hfd
          have h1 : ¬ zb (some W).isSome = 0 := by show ¬ zb true = 0; decide
          have h1' : zb (some W).isSome = 1 := rfl
          simp only [if_neg h1]
          rw [h1']
          obtain ⟨M', q1, q2, q3, q4, q5⟩ := ih (a ++ [y]) M1 (py_go P s W) (n + 1) (B + 1) (by rw [e]; simp) (by omega) (wg_go hP hw hfd) x1 do1 fuel (by simp at hf; omega)
          rw [hel] at q1
          refine ⟨M', ?_, q2, wg_mono q3 (by rw [List.length_cons]; omega), q4, zr_trans k4 q5⟩
          rw [q1, List.length_cons]
          rw [show n + 1 + (py_rn P (py_kl r t) (py_go P s W)).1.length = n + ((py_rn P (py_kl r t) (py_go P s W)).1.length + 1) by omega]
      · have hk : py_kl (y :: r) t = py_kl r t := by
          unfold py_kl
          rw [List.filter_cons, if_neg (by simpa using q)]
        rw [if_neg q, hk]
        obtain ⟨M', q1, q2, q3, q4, q5⟩ := ih (a ++ [y]) M s n B (by rw [e]; simp) (by omega) hw hx hdo fuel (by simp at hf; omega)
        rw [hel] at q1
        exact ⟨M', q1, q2, wg_mono q3 (by rw [List.length_cons]; omega), q4, q5⟩
end
