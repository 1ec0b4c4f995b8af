/-! THE CLASS: a text is read -/
def wk_g (P : yP) (B : Nat) (s : yS) : Prop := wk_u P s ∧ wk_0 P s ∧ wk_4 P s ∧ sw_b P B s
def re_l (M : zM) (re : Nat) : Prop := (zm_R M 4 re 5 = some (re + 1) ∧ zm_L M 20 (re + 1) = 24) ∧ (zm_R M 4 re 6 = some (re + 2) ∧ zm_L M 20 (re + 2) = 24) ∧ (zm_R M 4 re 7 = some (re + 3) ∧ zm_L M 20 (re + 3) = 24) ∧ (zm_R M 4 re 9 = some (re + 4) ∧ zm_L M 20 (re + 4) = 8) ∧ (zm_R M 4 re 11 = some (re + 5) ∧ zm_L M 20 (re + 5) = 4) ∧ (zm_R M 4 re 16 = some (re + 6) ∧ zm_L M 20 (re + 6) = 25)
/-- letters, and those that were taken -/
def re_x (M : zM) (re : Nat) (ls : List Nat) (g : List (Nat × Option Nat)) : Prop := re_l M re ∧ zm_I M 4 re 1 = nI ls.length ∧ zm_I M 4 re 2 = nI g.length ∧ (∀ (i x : Nat), ls[i]? = some x → zm_I M 20 (re + 1) i = nI x) ∧ (∀ (i : Nat) (x : Nat × Option Nat), g[i]? = some x → zm_I M 20 (re + 2) i = nI x.1 ∧ zm_I M 20 (re + 3) i = zo x.2)
def rr_W (re t k _j : Nat) : Prop := (t = 4 ∧ k = re) ∨ (t = 20 ∧ re < k ∧ k ≤ re + 6)
def rd_W (wk re t k j : Nat) : Prop := wz_W wk t k j ∨ rr_W re t k j
section
variable {M M' : zM} {pa : Nat → Nat} {P : yP} {d wk re Q B : Nat} {s : yS}
theorem wg_0 : wk_g P 0 py_s00 := ⟨wu_0, w0_0, w4_0, ⟨fun o ho => (by cases ho), fun _ => Nat.le_refl _⟩⟩
theorem wg_mono {B' : Nat} (h : wk_g P B s) (hB : B ≤ B') : wk_g P B' s := ⟨h.1, h.2.1, h.2.2.1, h.2.2.2.1, fun c => Nat.le_trans (h.2.2.2.2 c) hB⟩
theorem wg_go (hP : py_ok P) (h : wk_g P B s) {W : yW} {l : Nat} (hf : py_fd P s l = some W) : wk_g P (B + 1) (py_go P s W) := by
  have hW : W ∈ py_avs P s := by
    rw [fd_avs] at hf
    exact List.mem_of_find?_eq_some hf
  have hWw := (avs_lt hP h.2.2.2.1 hW).2
  exact ⟨wu_go hP h.1 h.2.2.2.1 hWw, w0_go hP h.2.1 h.2.2.2.1 hWw, w4_go hP h.2.2.1 h.2.2.2.1 hW, go_b hP h.2.2.2 hWw⟩
theorem wx_rr (h : wk_x M pa Q P wk s) (hf : zf (rr_W re) M M') (hr : wk + 12 < re) : wk_x M' pa Q P wk s := by
  have hq := h.2.2.2.1
  have n20 : ∀ k j, k ≤ re → ¬ rr_W re 20 k j := by
    rintro k j hk (⟨e, _⟩ | ⟨_, e, _⟩)
    · cases e
    · omega
  have n8 : ∀ t k j, t ≠ 4 → t ≠ 20 → ¬ rr_W re t k j := by
    rintro t k j h1 h2 (⟨e, _⟩ | ⟨e, _⟩)
    · exact h1 e
    · exact h2 e
  refine ⟨cX_zf h.1 hf (fun k j => n8 _ _ _ (by decide) (by decide)) (fun k j => n8 _ _ _ (by decide) (by decide)) (fun j _ => n8 _ _ _ (by decide) (by decide)) (fun i j hi => n20 _ _ (by omega)), ?_, ?_, hq, ?_, ?_⟩
  · unfold wk_l
    rw [hf.1, hf.2.1]
    exact h.2.1
  · rw [hf.1]; exact h.2.2.1
  · rw [hf.2.2.2.2.2.2 8 wk 1 (n8 _ _ _ (by decide) (by decide))]; exact h.2.2.2.2.1
  · intro o ho
    obtain ⟨g1, g2⟩ := h.2.2.2.2.2 o ho
    refine ⟨fun c hc hw => ?_, fun a ha hw => ?_⟩
    · rw [hf.2.2.2.2.2.2 20 (wk + 11) c (n20 _ _ (by omega))]; exact g1 c hc hw
    · rw [hf.2.2.2.2.2.2 20 (wk + 12) a (n20 _ _ (by omega))]; exact g2 a ha hw
theorem re_wz {ls : List Nat} {g : List (Nat × Option Nat)} (h : re_x M re ls g) (hf : zr (wz_W wk) M M') (hr : wk + 12 < re) : re_x M' re ls g := by
  have n4 : ∀ j, ¬ wz_W wk 4 re j := by rintro j (⟨e, _⟩ | ⟨e, _⟩) <;> cases e
  have n20 : ∀ i j, ¬ wz_W wk 20 (re + i) j := by
    rintro i j (⟨e, _⟩ | ⟨_, e⟩)
    · cases e
    · omega
  refine ⟨?_, ?_, ?_, ?_, ?_⟩
  · unfold re_l
    rw [zr_L hf, zr_R hf (n4 5), zr_R hf (n4 6), zr_R hf (n4 7), zr_R hf (n4 9), zr_R hf (n4 11), zr_R hf (n4 16)]
    exact h.1
  · rw [zr_I hf (n4 1)]; exact h.2.1
  · rw [zr_I hf (n4 2)]; exact h.2.2.1
  · intro i x hx
    rw [zr_I hf (n20 1 i)]
    exact h.2.2.2.1 i x hx
  · intro i x hx
    rw [zr_I hf (n20 2 i), zr_I hf (n20 3 i)]
    exact h.2.2.2.2 i x hx
theorem rn_some {l : Nat} {ls : List Nat} {W : yW} (h : py_fd P s l = some W) : py_rn P (l :: ls) s = ((W.1, W.2.1) :: (py_rn P ls (py_go P s W)).1, (py_rn P ls (py_go P s W)).2) := by
  rw [py_rn, h]
theorem rn_none {l : Nat} {ls : List Nat} (h : py_fd P s l = none) : py_rn P (l :: ls) s = ([], s) := by
  rw [py_rn, h]
theorem cl_read_75 (hP : py_ok P) (hd : 2 ≤ d) (hr : wk + 12 < re) {ls : List Nat} (hls : ls.length ≤ 24) (h26 : ∀ x, x ∈ ls → x < 26) : ∀ (b a : List Nat) (M : zM) (s : yS) (g : List (Nat × Option Nat)) (B : Nat), ls = a ++ b → g.length = a.length → B + b.length ≤ 900 → wk_g P B s → wk_x M pa Q P wk s → re_x M re ls g → ∀ fuel, b.length < fuel → ∃ M', re_readTape_75 d fuel re (some Q) (some wk) M = re_readTape_144 d re (some Q) (some wk) M' ∧ wk_x M' pa Q P wk (py_rn P b s).2 ∧ wk_g P (B + b.length) (py_rn P b s).2 ∧ re_x M' re ls (g ++ (py_rn P b s).1) ∧ zr (rd_W wk re) M M' := by
  intro b
  induction b with
  | nil =>
    intro a M s g B e hg hB hw hx hre fuel hf
    have hla := congrArg List.length e
    rw [List.append_nil] at hla
    cases fuel with
    | zero => cases hf
    | succ fuel =>
      refine ⟨M, ?_, hx, hw, by simpa [py_rn] using hre, zr_refl _ _⟩
      rw [re_readTape_75, hre.2.1, hre.2.2.1, if_pos ((le_i2 (by omega) (by omega)).mpr (by omega))]
  | cons l b ih =>
    intro a M s g B e hg hB hw hx hre fuel hf
    have hla := congrArg List.length e
    rw [List.length_append, List.length_cons] at hla
    rw [List.length_cons] at hB
    cases fuel with
    | zero => cases hf
    | succ fuel =>
      have hl : ls[g.length]? = some l := by rw [e, hg]; simp
      have hl26 := h26 l (by rw [e]; simp)
      have hz : z_in (nI g.length) 24 := nI_in (by omega) (by omega)
      have hcl := nI_clamp (show g.length < 2 ^ 31 by omega)
      obtain ⟨M1, k1, k2, k3, k4⟩ := cl_step (d := d) hP hd hx hw.1 hw.2.2.2 (by omega) hl26
      have re1 := re_wz hre k4 hr
      have z1 : zr (rd_W wk re) M M1 := zr_mono k4 (fun t k j w => .inl w)
      rw [re_readTape_75, hre.2.1, hre.2.2.1, if_neg (fun y => by have := (le_i2 (by omega) (by omega)).mp y; omega)]
      simp only [hre.1.1.1, hre.1.1.2, if_pos hz, hcl, hre.2.2.2.1 _ l hl, k1, Option.bind_some]
      cases hfd : py_fd P s l with
      | none =>
        rw [if_pos (show zb (none : Option yW).isSome = 0 from rfl), rn_none hfd]
        exact ⟨M1, rfl, k2 hfd, wg_mono hw (by omega), by simpa using re1, z1⟩
      | some W =>
        obtain ⟨x1, by1⟩ := k3 W hfd
        rw [if_neg (show ¬ zb (some W).isSome = 0 by show ¬ zb true = 0; decide), rn_some hfd]
        have e1 : zm_I M1 8 wk 1 = nI W.1 := x1.2.2.2.2.1
        obtain ⟨M2, hM2⟩ : ∃ Y, Y = zm_setI (zm_setI (zm_setI M1 20 (re + 2) g.length (nI W.1)) 20 (re + 3) g.length (zo W.2.1)) 4 re 2 (nI (g.length + 1)) := ⟨_, rfl⟩
        have f2 : zf (rr_W re) M1 M2 := by
          rw [hM2]
          exact zf_trans (zf_trans (zf_set (.inr ⟨rfl, by omega, by omega⟩)) (zf_set (.inr ⟨rfl, by omega, by omega⟩))) (zf_set (.inl ⟨rfl, rfl⟩))
        have x2 := wx_rr x1 f2 hr
        have a1 : zm_I (zm_setI M1 20 (re + 2) g.length (nI W.1)) 4 re 2 = nI g.length := (pm_ne (by omega)).trans re1.2.2.1
        have a2 : zm_I (zm_setI M1 20 (re + 2) g.length (nI W.1)) 8 wk 2 = zo W.2.1 := (pm_ne (by omega)).trans by1
        have a3 : zm_I (zm_setI (zm_setI M1 20 (re + 2) g.length (nI W.1)) 20 (re + 3) g.length (zo W.2.1)) 4 re 2 = nI g.length := (pm_ne (by omega)).trans a1
        have re2 : re_x M2 re ls (g ++ [(W.1, W.2.1)]) := by
          refine ⟨?_, ?_, ?_, ?_, ?_⟩
          · unfold re_l
            rw [f2.1, f2.2.1]
            exact re1.1
          · rw [hM2, pm_ne (by omega), pm_ne (by omega), pm_ne (by omega)]; exact re1.2.1
          · rw [hM2, pm_same]; simp
          · intro i x hxx
            rw [hM2, pm_ne (by omega), pm_ne (by omega), pm_ne (by omega)]
            exact re1.2.2.2.1 i x hxx
          · intro i x hxx
            by_cases q : i < g.length
            · rw [List.getElem?_append_left q] at hxx
              rw [hM2, pm_ne (by omega), pm_ne (by omega), pm_ne (by omega), pm_ne (by omega), pm_ne (by omega), pm_ne (by omega)]
              exact re1.2.2.2.2 i x hxx
            · have q2 : i = g.length := by
                have := (List.getElem?_eq_some_iff.mp hxx).1
                simp at this
                omega
              subst q2
              have ex : x = (W.1, W.2.1) := by simpa using hxx.symm
              subst ex
              refine ⟨?_, ?_⟩
              · rw [hM2, pm_ne (by omega), pm_ne (by omega), pm_same]
              · rw [hM2, pm_ne (by omega), pm_same]
        obtain ⟨M', q1, q2, q3, q4, q5⟩ := ih (a ++ [l]) M2 (py_go P s W) (g ++ [(W.1, W.2.1)]) (B + 1) (by rw [e]; simp) (by rw [List.length_append, List.length_append, hg]; rfl) (by omega) (wg_go hP hw hfd) x2 re2 fuel (by simp at hf; omega)
        refine ⟨M', ?_, q2, wg_mono q3 (by rw [List.length_cons]; omega), ?_, zr_trans z1 (zr_trans (zr_mono (zr_zf f2) (fun t k j w => .inr w)) q5)⟩
        · simp only [re1.1.2.1.1, re1.1.2.1.2, re1.2.2.1, if_pos hz, hcl, e1, zlet, pm_RI, pm_LI, re1.1.2.2.1.1, re1.1.2.2.1.2, a1, a2, a3, nI_1]
          rw [← hM2]
          exact q1
        · rw [List.append_assoc] at q4
          exact q4
end
