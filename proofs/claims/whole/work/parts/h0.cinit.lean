/-! THE BEGINNING: what constructors lay -/
def ix (t a0 : Nat) (M0 : zM) (l : List (Nat × Nat × Nat × Nat)) (li : List (Nat × Int32)) (n s : Nat) (M : zM) : Prop :=
  a0 < zm_n M0 ∧ zm_n M = zm_n M0 + n ∧ zm_s M = zm_s M0 + s ∧ zh (fun t' k' _ => t' = t ∧ k' = a0) M0 M ∧ (∀ x ∈ l, zm_R M t a0 x.1 = some x.2.1 ∧ a0 < x.2.1 ∧ x.2.1 < zm_n M ∧ zm_L M x.2.2.1 x.2.1 = x.2.2.2) ∧ (∀ x ∈ li, zm_I M t a0 x.1 = x.2) ∧ (∀ j, (∀ x ∈ li, x.1 ≠ j) → zm_I M t a0 j = zm_I M0 t a0 j)
theorem ix_il {x : zM} {f : zM → Option zM} {P : zM → Prop} (h : ∀ Y, Y = x → ∃ M', f Y = some M' ∧ P M') : ∃ M', zlet x f = some M' ∧ P M' := h x rfl
theorem ix_ib {o : Option zM} {f : zM → Option zM} {P Q : zM → Prop} (ho : ∃ M', o = some M' ∧ Q M') (h : ∀ Y, Q Y → ∃ M', f Y = some M' ∧ P M') : ∃ M', o.bind f = some M' ∧ P M' := by
  obtain ⟨M', e, q⟩ := ho
  rw [e]
  exact h M' q
section
variable {t a0 n s : Nat} {M0 M M1 M2 M3 : zM} {l l' : List (Nat × Nat × Nat × Nat)} {li li' : List (Nat × Int32)} {j tg len sl n' s' : Nat}
theorem ix_rf (h : a0 < zm_n M0) : ix t a0 M0 [] [] 0 0 M0 := ⟨h, rfl, rfl, zh_refl _ _, fun x hx => (by cases hx), fun x hx => (by cases hx), fun _ _ => rfl⟩
theorem ix_gen (h : ix t a0 M0 l li n s M) (hf : zh (fun t' k' j' => t' = t ∧ k' = a0 ∧ j' = j) M M3) (hn : zm_n M3 = zm_n M + n') (hs : zm_s M3 = zm_s M + s') (hj : ∀ x ∈ l, x.1 ≠ j) (hR : zm_R M3 t a0 j = some (zm_n M)) (hL : zm_L M3 tg (zm_n M) = len) (hI : zm_I M3 t a0 j = zm_I M t a0 j) (h0 : 0 < n') : ix t a0 M0 (l ++ [(j, zm_n M0 + n, tg, len)]) li (n + n') (s + s') M3 := by
  obtain ⟨k1, k2, k3, k4, k5, k6, k7⟩ := h
  have eI : ∀ j', zm_I M3 t a0 j' = zm_I M t a0 j' := by
    intro j'
    by_cases q : j' = j
    · rw [q]; exact hI
    · exact zh_I hf (by omega) (fun w => q w.2.2)
  refine ⟨k1, by omega, by omega, zh_trans k4 (zh_mono hf (fun _ _ _ _ w => ⟨w.1, w.2.1⟩)), ?_, ?_, ?_⟩
  · intro x hx
    rcases List.mem_append.mp hx with hx | hx
    · obtain ⟨b1, b2, b3, b4⟩ := k5 x hx
      refine ⟨?_, b2, by omega, ?_⟩
      · rw [zh_R hf (by omega) (fun w => hj x hx w.2.2)]; exact b1
      · rw [zh_L hf b3]; exact b4
    · have hx := List.mem_singleton.mp hx
      subst hx
      dsimp only
      rw [← k2]
      exact ⟨hR, by omega, by omega, hL⟩
  · intro x hx
    rw [eI]
    exact k6 x hx
  · intro j' hj'
    rw [eI]
    exact k7 j' hj'
/-- a new row, kept in field j -/
theorem ix_row (h : ix t a0 M0 l li n s M) (e1 : M1 = zm_new M tg len sl) (e2 : M2 = zm_setR M1 t a0 j (some (zm_n M))) (hj : ∀ x ∈ l, x.1 ≠ j) : ix t a0 M0 (l ++ [(j, zm_n M0 + n, tg, len)]) li (n + 1) (s + sl) M2 := by
  have ha : a0 < zm_n M := by have := h.1; have := h.2.1; omega
  subst e1 e2
  refine ix_gen (n' := 1) (s' := sl) h (zh_trans (zh_new _ M tg len sl) (zh_setR ⟨rfl, rfl, rfl⟩)) ?_ ?_ hj pr_same ?_ ?_ (by omega)
  · rw [pm_nR, pn_n]
  · rw [pm_sR, pn_s]
  · rw [pm_LR, pn_L]
    exact if_pos ⟨rfl, rfl⟩
  · rw [pm_IR, pn_I]
    exact if_neg (fun w => by omega)
theorem ix_int {v : Int32} (h : ix t a0 M0 l li n s M) (e : M1 = zm_setI M t a0 j v) (hj : ∀ x ∈ li, x.1 ≠ j) : ix t a0 M0 l (li ++ [(j, v)]) n s M1 := by
  obtain ⟨k1, k2, k3, k4, k5, k6, k7⟩ := h
  subst e
  refine ⟨k1, by rw [pm_nI]; exact k2, by rw [pm_sI]; exact k3, zh_trans k4 (zh_setI ⟨rfl, rfl⟩), ?_, ?_, ?_⟩
  · intro x hx
    rw [pm_RI, pm_LI, pm_nI]
    exact k5 x hx
  · intro x hx
    rcases List.mem_append.mp hx with hx | hx
    · rw [pm_ne (.inr (.inr (hj x hx)))]
      exact k6 x hx
    · have hx := List.mem_singleton.mp hx
      subst hx
      exact pm_same
  · intro j' hj'
    rw [pm_ne (.inr (.inr (fun q => hj' (j, v) (List.mem_append.mpr (.inr (List.mem_singleton.mpr rfl))) q.symm)))]
    exact k7 j' (fun x hx => hj' x (List.mem_append.mpr (.inl hx)))
theorem ix_none (h : ix t a0 M0 l li n s M) (e : M1 = zm_setR M t a0 j none) (hj : ∀ x ∈ l, x.1 ≠ j) : ix t a0 M0 l li n s M1 := by
  obtain ⟨k1, k2, k3, k4, k5, k6, k7⟩ := h
  subst e
  refine ⟨k1, by rw [pm_nR]; exact k2, by rw [pm_sR]; exact k3, zh_trans k4 (zh_setR ⟨rfl, rfl⟩), ?_, ?_, ?_⟩
  · intro x hx
    rw [pr_ne (.inr (.inr (hj x hx))), pm_LR, pm_nR]
    exact k5 x hx
  · intro x hx
    rw [pm_IR]
    exact k6 x hx
  · intro j' hj'
    rw [pm_IR]
    exact k7 j' hj'
/-- a new object, made by its own constructor, kept in field j -/
theorem ix_obj {W : Nat → Nat → Nat → Prop} (h : ix t a0 M0 l li n s M) (e1 : M1 = zm_new M tg 0 sl) (q : zh W M1 M2) (hW : ∀ t' k' j', W t' k' j' → zm_n M ≤ k') (qn : zm_n M2 = zm_n M1 + n') (qs : zm_s M2 = zm_s M1 + s') (e3 : M3 = zm_setR M2 t a0 j (some (zm_n M))) (hj : ∀ x ∈ l, x.1 ≠ j) : ix t a0 M0 (l ++ [(j, zm_n M0 + n, tg, 0)]) li (n + (1 + n')) (s + (sl + s')) M3 := by
  have ha : a0 < zm_n M := by have := h.1; have := h.2.1; omega
  have n1 : zm_n M1 = zm_n M + 1 := by rw [e1, pn_n]
  have s1 : zm_s M1 = zm_s M + sl := by rw [e1, pn_s]
  have z1 : zh W M M1 := by rw [e1]; exact zh_new _ _ _ _ _
  have z2 : zh W M M2 := zh_trans z1 q
  subst e3
  refine ix_gen (n' := 1 + n') (s' := sl + s') h (zh_trans (zh_mono z2 (fun t' k' j' hk w => absurd (hW _ _ _ w) (by omega))) (zh_setR ⟨rfl, rfl, rfl⟩)) ?_ ?_ hj pr_same ?_ ?_ (by omega)
  · rw [pm_nR]; omega
  · rw [pm_sR]; omega
  · rw [pm_LR, zh_L q (by omega), e1, pn_L]
    exact if_pos ⟨rfl, rfl⟩
  · rw [pm_IR, zh_I z2 ha (fun w => by have := hW _ _ _ w; omega)]
theorem ix_zo {W : Nat → Nat → Nat → Prop} {v : Option Nat} (e1 : M1 = zm_new M tg 0 sl) (q : zh W M1 M2) (hW : ∀ t' k' j', W t' k' j' → zm_n M ≤ k') (e3 : M3 = zm_setR M2 t a0 j v) : zh (fun t' k' _ => t' = t ∧ k' = a0) M M3 ∧ zh (fun t' k' _ => t' = t ∧ k' = a0) M2 M3 := by
  have z3 : zh (fun t' k' _ => t' = t ∧ k' = a0) M2 M3 := by rw [e3]; exact zh_setR ⟨rfl, rfl⟩
  have z2 : zh W M M2 := zh_trans (by rw [e1]; exact zh_new _ _ _ _ _) q
  exact ⟨zh_trans (zh_mono z2 (fun t' k' j' hk w => absurd (hW _ _ _ w) (by omega))) z3, z3⟩
theorem ix_zi {v : Int32} (e : M1 = zm_setI M t a0 j v) : zh (fun t' k' _ => t' = t ∧ k' = a0) M M1 := by rw [e]; exact zh_setI ⟨rfl, rfl⟩
theorem ix_at {j a : Nat} (h : ix t a0 M0 l li n s M) (hm : (j, a, tg, len) ∈ l) : zm_R M t a0 j = some a ∧ zm_L M tg a = len := ⟨(h.2.2.2.2.1 _ hm).1, (h.2.2.2.2.1 _ hm).2.2.2⟩
theorem ix_v {v : Int32} (h : ix t a0 M0 l li n s M) (hm : (j, v) ∈ li) : zm_I M t a0 j = v := h.2.2.2.2.2.1 _ hm
theorem ix_z (h : ix t a0 M0 l li n s M) (hj : ∀ x ∈ li, x.1 ≠ j) : zm_I M t a0 j = zm_I M0 t a0 j := h.2.2.2.2.2.2 j hj
theorem ix_n (h : ix t a0 M0 l li n s M) : zm_n M = zm_n M0 + n := h.2.1
theorem ix_s (h : ix t a0 M0 l li n s M) : zm_s M = zm_s M0 + s := h.2.2.1
theorem ix_zh (h : ix t a0 M0 l li n s M) : zh (fun t' k' _ => t' = t ∧ k' = a0) M0 M := h.2.2.2.1
end
section
variable {d a0 : Nat} {M : zM}

theorem ib_ru_init (ha : zm_n M = a0 + 1) : ∃ M', ru_init d a0 M = some M' ∧ zm_n M' = zm_n M + 9 ∧ zm_s M' = zm_s M + 100 ∧ zh (fun t' k' _ => t' = 5 ∧ k' = a0) M M' ∧ cw_ru M' a0 := by
  unfold ru_init
  have h0 : ix 5 a0 M [] [] 0 0 M := ix_rf (by omega)
  refine ix_il fun M1 eM1 => ?_
  have h1 : ix 5 a0 M [] [] 0 0 M1 := ix_none h0 eM1 (by simp)
  refine ix_il fun M4 eM4 => ix_il fun M6 eM6 => ?_
  have h2 : ix 5 a0 M [(5, zm_n M + 0, 20, 16)] [] 1 16 M6 := ix_row h1 eM4 eM6 (by simp)
  refine ix_il fun M9 eM9 => ix_il fun M11 eM11 => ?_
  have h3 : ix 5 a0 M [(5, zm_n M + 0, 20, 16), (6, zm_n M + 1, 24, 16)] [] 2 32 M11 := ix_row h2 eM9 eM11 (by simp)
  refine ix_il fun M14 eM14 => ix_il fun M16 eM16 => ?_
  have h4 : ix 5 a0 M [(5, zm_n M + 0, 20, 16), (6, zm_n M + 1, 24, 16), (7, zm_n M + 2, 20, 16)] [] 3 48 M16 := ix_row h3 eM14 eM16 (by simp)
  refine ix_il fun M19 eM19 => ix_il fun M21 eM21 => ?_
  have h5 : ix 5 a0 M [(5, zm_n M + 0, 20, 16), (6, zm_n M + 1, 24, 16), (7, zm_n M + 2, 20, 16), (8, zm_n M + 3, 20, 16)] [] 4 64 M21 := ix_row h4 eM19 eM21 (by simp)
  refine ix_il fun M24 eM24 => ix_il fun M26 eM26 => ?_
  have h6 : ix 5 a0 M [(5, zm_n M + 0, 20, 16), (6, zm_n M + 1, 24, 16), (7, zm_n M + 2, 20, 16), (8, zm_n M + 3, 20, 16), (9, zm_n M + 4, 20, 8)] [] 5 72 M26 := ix_row h5 eM24 eM26 (by simp)
  refine ix_il fun M29 eM29 => ix_il fun M31 eM31 => ?_
  have h7 : ix 5 a0 M [(5, zm_n M + 0, 20, 16), (6, zm_n M + 1, 24, 16), (7, zm_n M + 2, 20, 16), (8, zm_n M + 3, 20, 16), (9, zm_n M + 4, 20, 8), (10, zm_n M + 5, 20, 8)] [] 6 80 M31 := ix_row h6 eM29 eM31 (by simp)
  refine ix_il fun M34 eM34 => ix_il fun M36 eM36 => ?_
  have h8 : ix 5 a0 M [(5, zm_n M + 0, 20, 16), (6, zm_n M + 1, 24, 16), (7, zm_n M + 2, 20, 16), (8, zm_n M + 3, 20, 16), (9, zm_n M + 4, 20, 8), (10, zm_n M + 5, 20, 8), (11, zm_n M + 6, 20, 8)] [] 7 88 M36 := ix_row h7 eM34 eM36 (by simp)
  refine ix_il fun M39 eM39 => ix_il fun M41 eM41 => ?_
  have h9 : ix 5 a0 M [(5, zm_n M + 0, 20, 16), (6, zm_n M + 1, 24, 16), (7, zm_n M + 2, 20, 16), (8, zm_n M + 3, 20, 16), (9, zm_n M + 4, 20, 8), (10, zm_n M + 5, 20, 8), (11, zm_n M + 6, 20, 8), (12, zm_n M + 7, 24, 8)] [] 8 96 M41 := ix_row h8 eM39 eM41 (by simp)
  refine ix_il fun M44 eM44 => ix_il fun M46 eM46 => ?_
  have h10 : ix 5 a0 M [(5, zm_n M + 0, 20, 16), (6, zm_n M + 1, 24, 16), (7, zm_n M + 2, 20, 16), (8, zm_n M + 3, 20, 16), (9, zm_n M + 4, 20, 8), (10, zm_n M + 5, 20, 8), (11, zm_n M + 6, 20, 8), (12, zm_n M + 7, 24, 8), (13, zm_n M + 8, 24, 4)] [] 9 100 M46 := ix_row h9 eM44 eM46 (by simp)
  refine ⟨M46, rfl, ix_n h10, ix_s h10, ix_zh h10, ?_⟩
  have f5 := ix_at (j := 5) (a := zm_n M + 0) (tg := 20) (len := 16) h10 (by simp)
  rw [show zm_n M + 0 = a0 + 1 by omega] at f5
  have f6 := ix_at (j := 6) (a := zm_n M + 1) (tg := 24) (len := 16) h10 (by simp)
  rw [show zm_n M + 1 = a0 + 2 by omega] at f6
  have f7 := ix_at (j := 7) (a := zm_n M + 2) (tg := 20) (len := 16) h10 (by simp)
  rw [show zm_n M + 2 = a0 + 3 by omega] at f7
  have f8 := ix_at (j := 8) (a := zm_n M + 3) (tg := 20) (len := 16) h10 (by simp)
  rw [show zm_n M + 3 = a0 + 4 by omega] at f8
  have f9 := ix_at (j := 9) (a := zm_n M + 4) (tg := 20) (len := 8) h10 (by simp)
  rw [show zm_n M + 4 = a0 + 5 by omega] at f9
  have f10 := ix_at (j := 10) (a := zm_n M + 5) (tg := 20) (len := 8) h10 (by simp)
  rw [show zm_n M + 5 = a0 + 6 by omega] at f10
  have f11 := ix_at (j := 11) (a := zm_n M + 6) (tg := 20) (len := 8) h10 (by simp)
  rw [show zm_n M + 6 = a0 + 7 by omega] at f11
  have f12 := ix_at (j := 12) (a := zm_n M + 7) (tg := 24) (len := 8) h10 (by simp)
  rw [show zm_n M + 7 = a0 + 8 by omega] at f12
  have f13 := ix_at (j := 13) (a := zm_n M + 8) (tg := 24) (len := 4) h10 (by simp)
  rw [show zm_n M + 8 = a0 + 9 by omega] at f13
  exact ⟨f5, f6, f7, f8, f9, f10, f11, f12, f13⟩
theorem ib_ar (a c : Nat) : a + 117 + (117 * c + 400) = a + (117 * (c + 1) + 400) := by omega
/-- what a set of rules' constructor writes besides new cells -/
def rs_IW (b t k _j : Nat) : Prop := (t = 6 ∧ k = b) ∨ (t = 25 ∧ k = b + 1)
theorem ib_rs_15 {b : Nat} : ∀ (c i fuel : Nat) (M : zM), i + c = 8 → c < fuel → zm_n M = b + 2 + 10 * i → zm_R M 6 b 0 = some (b + 1) → zm_L M 25 (b + 1) = 8 → (∀ i', i' < i → zm_R M 25 (b + 1) i' = some (b + 2 + 10 * i') ∧ cw_ru M (b + 2 + 10 * i')) → ∃ M', rs_init_15 d fuel b (nI i) M = some M' ∧ zm_n M' = b + 84 ∧ zm_s M' = zm_s M + (117 * c + 400) ∧ zh (rs_IW b) M M' ∧ cw_rs M' b ∧ zm_I M' 6 b 1 = 0 ∧ (∀ j, zm_R M' 24 (b + 82) j = none) := by
  intro c
  induction c with
  | zero =>
    intro i fuel M hi hf hn h0 hL hold
    obtain ⟨fuel, rfl⟩ : ∃ f', fuel = f' + 1 := ⟨fuel - 1, by omega⟩
    have hi8 : i = 8 := by omega
    subst hi8
    unfold rs_init_15
    rw [if_pos (show (8 : Int32) ≤ nI 8 by rw [pb_n8]; exact Int32.le_refl 8)]
    refine ix_il fun M2 e2 => ix_il fun M5 e5 => ix_il fun M7 e7 => ix_il fun M10 e10 => ix_il fun M12 e12 => ?_
    have n2 : zm_n M2 = b + 82 := by rw [e2, pm_nI]; omega
    have n5 : zm_n M5 = b + 83 := by rw [e5, pn_n, n2]
    have n7 : zm_n M7 = b + 83 := by rw [e7, pm_nR, n5]
    have n10 : zm_n M10 = b + 84 := by rw [e10, pn_n, n7]
    have n12 : zm_n M12 = b + 84 := by rw [e12, pm_nR, n10]
    have s12 : zm_s M12 = zm_s M + 400 := by rw [e12, pm_sR, e10, pn_s, e7, pm_sR, e5, pn_s, e2, pm_sI]
    have z12 : zh (fun t k j => t = 6 ∧ k = b ∧ j ≠ 0) M M12 := by
      have z2 : zh (fun t k j => t = 6 ∧ k = b ∧ j ≠ 0) M M2 := by rw [e2]; exact zh_setI ⟨rfl, rfl, by omega⟩
      have z5 : zh (fun t k j => t = 6 ∧ k = b ∧ j ≠ 0) M2 M5 := by rw [e5]; exact zh_new _ _ _ _ _
      have z7 : zh (fun t k j => t = 6 ∧ k = b ∧ j ≠ 0) M5 M7 := by rw [e7]; exact zh_setR ⟨rfl, rfl, by omega⟩
      have z10 : zh (fun t k j => t = 6 ∧ k = b ∧ j ≠ 0) M7 M10 := by rw [e10]; exact zh_new _ _ _ _ _
      have z12 : zh (fun t k j => t = 6 ∧ k = b ∧ j ≠ 0) M10 M12 := by rw [e12]; exact zh_setR ⟨rfl, rfl, by omega⟩
      exact zh_trans z2 (zh_trans z5 (zh_trans z7 (zh_trans z10 z12)))
    have a0 : zm_R M12 6 b 0 = some (b + 1) := by rw [zh_R z12 (by omega) (fun w => w.2.2 rfl)]; exact h0
    have a1 : zm_L M12 25 (b + 1) = 8 := by rw [zh_L z12 (by omega)]; exact hL
    have a2 : zm_R M12 6 b 2 = some (b + 82) := by
      rw [e12, pr_ne (by omega), e10, pn_R, if_neg (by omega), e7, pr_same, n2]
    have a3 : zm_L M12 24 (b + 82) = 400 := by
      rw [e12, pm_LR, e10, pn_L, if_neg (by omega), e7, pm_LR, e5, pn_L, if_pos ⟨rfl, by omega⟩]
    have a4 : zm_I M12 6 b 1 = 0 := by
      rw [e12, pm_IR, e10, pn_I, if_neg (by omega), e7, pm_IR, e5, pn_I, if_neg (by omega), e2, pm_same]
    have a5 : ∀ j, zm_R M12 24 (b + 82) j = none := by
      intro j
      rw [e12, pr_ne (by omega), e10, pn_R, if_neg (by omega), e7, pr_ne (by omega), e5, pn_R, if_pos ⟨rfl, by omega⟩]
    rw [a0]
    dsimp only
    rw [a1, if_pos (show z_in 0 8 by decide)]
    refine ix_il fun M17 e17 => ⟨M17, rfl, ?_, ?_, ?_, ?_, ?_, ?_⟩
    · rw [e17, pm_nR, n12]
    · rw [e17, pm_sR, s12]
    · refine zh_trans (zh_mono z12 (fun t k j _ w => .inl ⟨w.1, w.2.1⟩)) ?_
      rw [e17]
      exact zh_setR (.inl ⟨rfl, rfl⟩)
    · have z17 : zh (fun t k j => t = 6 ∧ k = b ∧ j ≠ 0) M M17 := by
        refine zh_trans z12 ?_
        rw [e17]
        exact zh_setR ⟨rfl, rfl, by omega⟩
      refine ⟨⟨?_, ?_⟩, ⟨?_, ?_⟩, ?_, ?_⟩
      · rw [e17, pr_ne (by omega)]; exact a0
      · rw [e17, pm_LR]; exact a1
      · rw [e17, pr_ne (by omega)]; exact a2
      · rw [e17, pm_LR]; exact a3
      · intro i' hi'
        obtain ⟨g1, g2⟩ := hold i' hi'
        refine ⟨?_, cw_ru_zh g2 z17 (by omega) (fun j _ _ w => by omega)⟩
        rw [zh_R z17 (by omega) (fun w => by omega)]
        exact g1
      · rw [e17, pm_nR]
        omega
    · rw [e17, pm_IR]; exact a4
    · intro j
      rw [e17, pr_ne (by omega)]
      exact a5 j
  | succ c ih =>
    intro i fuel M hi hf hn h0 hL hold
    obtain ⟨fuel, rfl⟩ : ∃ f', fuel = f' + 1 := ⟨fuel - 1, by omega⟩
    unfold rs_init_15
    rw [if_neg (show ¬ (8 : Int32) ≤ nI i by rw [← pb_n8]; exact nI_ge (by omega) (by omega))]
    refine ix_il fun M19 e19 => ix_ib (ib_ru_init (d := d) (a0 := zm_n M) (M := M19) (by rw [e19, pn_n])) fun q21 g21 => ?_
    obtain ⟨n21, s21, z21, g21⟩ := g21
    have n19 : zm_n M19 = b + 2 + 10 * i + 1 := by rw [e19, pn_n]; omega
    have z19 : zh (fun t k j => t = 25 ∧ k = b + 1 ∧ j = i) M M19 := by rw [e19]; exact zh_new _ _ _ _ _
    have z20 : zh (fun t k j => t = 25 ∧ k = b + 1 ∧ j = i) M q21 := by
      refine ⟨?_, ?_, ?_, ?_⟩
      · have := zh_n z19; omega
      · intro t k hk
        rw [zh_L z21 (by omega), zh_L z19 hk]
      · intro t k j hk
        rw [z21.2.2.1 t k j (by omega), z19.2.2.1 t k j hk]
      · intro t k j hk w
        rw [zh_I z21 (by omega) (fun w => by omega), zh_R z21 (by omega) (fun w => by omega)]
        exact z19.2.2.2 t k j hk w
    have e1 : zm_L q21 25 (b + 1) = 8 := by rw [zh_L z20 (by omega)]; exact hL
    rw [h0]
    dsimp only
    rw [e1, if_pos (show z_in (nI i) 8 from nI_in (by omega) (by omega)), nI_clamp (by omega)]
    refine ix_il fun M26 e26 => ?_
    show ∃ M', rs_init_15 d fuel b (nI i + 1) M26 = some M' ∧ _
    rw [nI_1]
    have z26 : zh (fun t k j => t = 25 ∧ k = b + 1 ∧ j = i) M M26 := by
      refine zh_trans z20 ?_
      rw [e26]
      exact zh_setR ⟨rfl, rfl, rfl⟩
    have n26 : zm_n M26 = b + 2 + 10 * (i + 1) := by rw [e26, pm_nR]; omega
    have s26 : zm_s M26 = zm_s M + 117 := by rw [e26, pm_sR, s21, e19, pn_s]
    have hnr : cw_ru M26 (b + 2 + 10 * i) := by
      have hq : zm_n M = b + 2 + 10 * i := hn
      rw [hq] at g21
      have zq : zh (fun t k j => t = 25 ∧ k = b + 1 ∧ j = i) q21 M26 := by
        rw [e26]
        exact zh_setR ⟨rfl, rfl, rfl⟩
      exact cw_ru_zh g21 zq (by omega) (fun j _ _ w => by omega)
    obtain ⟨M', r1, r2, r3, r4, r5, r6, r7⟩ := ih (i + 1) fuel M26 (by omega) (by omega) n26 (by rw [zh_R z26 (by omega) (fun w => by omega)]; exact h0) (by rw [zh_L z26 (by omega)]; exact hL) (by
      intro i' hi'
      by_cases q : i' = i
      · subst q
        refine ⟨?_, hnr⟩
        rw [e26, pr_same, hn]
      · obtain ⟨g1, g2⟩ := hold i' (by omega)
        refine ⟨?_, cw_ru_zh g2 z26 (by omega) (fun j _ _ w => by omega)⟩
        rw [zh_R z26 (by omega) (fun w => by omega)]
        exact g1)
    exact ⟨M', r1, r2, by rw [r3, s26]; exact ib_ar _ _, zh_trans (zh_mono z26 (fun t k j _ w => .inr ⟨w.1, w.2.1⟩)) r4, r5, r6, r7⟩
theorem ib_rs_init (ha : zm_n M = a0 + 1) (hd : 1 ≤ d) : ∃ M', rs_init d a0 M = some M' ∧ zm_n M' = zm_n M + 83 ∧ zm_s M' = zm_s M + 1344 ∧ zh (rs_IW a0) M M' ∧ cw_rs M' a0 ∧ zm_I M' 6 a0 1 = 0 ∧ (∀ j, zm_R M' 24 (a0 + 82) j = none) := by
  have hLF := zLF_402
  obtain ⟨d, rfl⟩ : ∃ d', d = d' + 1 := ⟨d - 1, by omega⟩
  have eb : rs_init (d + 1) a0 M = rs_init_b d a0 M := rfl
  rw [eb]
  unfold rs_init_b
  refine ix_il fun M2 e2 => ix_il fun M4 e4 => ?_
  have n4 : zm_n M4 = a0 + 2 := by rw [e4, pm_nR, e2, pn_n]; omega
  have s4 : zm_s M4 = zm_s M + 8 := by rw [e4, pm_sR, e2, pn_s]
  have z4 : zh (rs_IW a0) M M4 := by
    have z2 : zh (rs_IW a0) M M2 := by rw [e2]; exact zh_new _ _ _ _ _
    refine zh_trans z2 ?_
    rw [e4]
    exact zh_setR (.inl ⟨rfl, rfl⟩)
  obtain ⟨M', r1, r2, r3, r4, r5⟩ := ib_rs_15 (d := d) (b := a0) 8 0 zLF M4 rfl (by omega) (by omega) (by rw [e4, pr_same, ha]) (by rw [e4, pm_LR, e2, pn_L, if_pos ⟨rfl, ha.symm⟩]) (fun i' hi' => by omega)
  have r1' : rs_init_15 d zLF a0 0 M4 = some M' := r1
  exact ⟨M', r1', by omega, by omega, zh_trans z4 r4, r5⟩

theorem ib_do_init (ha : zm_n M = a0 + 1) : ∃ M', do_init d a0 M = some M' ∧ zm_n M' = zm_n M + 9 ∧ zm_s M' = zm_s M + 640 ∧ zh (fun t' k' _ => t' = 1 ∧ k' = a0) M M' ∧ do_l M' a0 ∧ zm_I M' 1 a0 0 = zm_I M 1 a0 0 := by
  unfold do_init
  have h0 : ix 1 a0 M [] [] 0 0 M := ix_rf (by omega)
  refine ix_il fun M2 eM2 => ix_il fun M4 eM4 => ?_
  have h1 : ix 1 a0 M [(1, zm_n M + 0, 20, 60)] [] 1 60 M4 := ix_row h0 eM2 eM4 (by simp)
  refine ix_il fun M7 eM7 => ix_il fun M9 eM9 => ?_
  have h2 : ix 1 a0 M [(1, zm_n M + 0, 20, 60), (2, zm_n M + 1, 20, 60)] [] 2 120 M9 := ix_row h1 eM7 eM9 (by simp)
  refine ix_il fun M12 eM12 => ix_il fun M14 eM14 => ?_
  have h3 : ix 1 a0 M [(1, zm_n M + 0, 20, 60), (2, zm_n M + 1, 20, 60), (3, zm_n M + 2, 20, 60)] [] 3 180 M14 := ix_row h2 eM12 eM14 (by simp)
  refine ix_il fun M17 eM17 => ix_il fun M19 eM19 => ?_
  have h4 : ix 1 a0 M [(1, zm_n M + 0, 20, 60), (2, zm_n M + 1, 20, 60), (3, zm_n M + 2, 20, 60), (4, zm_n M + 3, 20, 60)] [] 4 240 M19 := ix_row h3 eM17 eM19 (by simp)
  refine ix_il fun M22 eM22 => ix_il fun M24 eM24 => ?_
  have h5 : ix 1 a0 M [(1, zm_n M + 0, 20, 60), (2, zm_n M + 1, 20, 60), (3, zm_n M + 2, 20, 60), (4, zm_n M + 3, 20, 60), (5, zm_n M + 4, 20, 60)] [] 5 300 M24 := ix_row h4 eM22 eM24 (by simp)
  refine ix_il fun M27 eM27 => ix_il fun M29 eM29 => ?_
  have h6 : ix 1 a0 M [(1, zm_n M + 0, 20, 60), (2, zm_n M + 1, 20, 60), (3, zm_n M + 2, 20, 60), (4, zm_n M + 3, 20, 60), (5, zm_n M + 4, 20, 60), (6, zm_n M + 5, 20, 60)] [] 6 360 M29 := ix_row h5 eM27 eM29 (by simp)
  refine ix_il fun M32 eM32 => ix_il fun M34 eM34 => ?_
  have h7 : ix 1 a0 M [(1, zm_n M + 0, 20, 60), (2, zm_n M + 1, 20, 60), (3, zm_n M + 2, 20, 60), (4, zm_n M + 3, 20, 60), (5, zm_n M + 4, 20, 60), (6, zm_n M + 5, 20, 60), (7, zm_n M + 6, 20, 60)] [] 7 420 M34 := ix_row h6 eM32 eM34 (by simp)
  refine ix_il fun M37 eM37 => ix_il fun M39 eM39 => ?_
  have h8 : ix 1 a0 M [(1, zm_n M + 0, 20, 60), (2, zm_n M + 1, 20, 60), (3, zm_n M + 2, 20, 60), (4, zm_n M + 3, 20, 60), (5, zm_n M + 4, 20, 60), (6, zm_n M + 5, 20, 60), (7, zm_n M + 6, 20, 60), (8, zm_n M + 7, 20, 60)] [] 8 480 M39 := ix_row h7 eM37 eM39 (by simp)
  refine ix_il fun M42 eM42 => ix_il fun M44 eM44 => ?_
  have h9 : ix 1 a0 M [(1, zm_n M + 0, 20, 60), (2, zm_n M + 1, 20, 60), (3, zm_n M + 2, 20, 60), (4, zm_n M + 3, 20, 60), (5, zm_n M + 4, 20, 60), (6, zm_n M + 5, 20, 60), (7, zm_n M + 6, 20, 60), (8, zm_n M + 7, 20, 60), (9, zm_n M + 8, 20, 160)] [] 9 640 M44 := ix_row h8 eM42 eM44 (by simp)
  refine ⟨M44, rfl, ix_n h9, ix_s h9, ix_zh h9, ?_⟩
  have f1 := ix_at (j := 1) (a := zm_n M + 0) (tg := 20) (len := 60) h9 (by simp)
  rw [show zm_n M + 0 = a0 + 1 by omega] at f1
  have f2 := ix_at (j := 2) (a := zm_n M + 1) (tg := 20) (len := 60) h9 (by simp)
  rw [show zm_n M + 1 = a0 + 2 by omega] at f2
  have f3 := ix_at (j := 3) (a := zm_n M + 2) (tg := 20) (len := 60) h9 (by simp)
  rw [show zm_n M + 2 = a0 + 3 by omega] at f3
  have f4 := ix_at (j := 4) (a := zm_n M + 3) (tg := 20) (len := 60) h9 (by simp)
  rw [show zm_n M + 3 = a0 + 4 by omega] at f4
  have f5 := ix_at (j := 5) (a := zm_n M + 4) (tg := 20) (len := 60) h9 (by simp)
  rw [show zm_n M + 4 = a0 + 5 by omega] at f5
  have f6 := ix_at (j := 6) (a := zm_n M + 5) (tg := 20) (len := 60) h9 (by simp)
  rw [show zm_n M + 5 = a0 + 6 by omega] at f6
  have f7 := ix_at (j := 7) (a := zm_n M + 6) (tg := 20) (len := 60) h9 (by simp)
  rw [show zm_n M + 6 = a0 + 7 by omega] at f7
  have f8 := ix_at (j := 8) (a := zm_n M + 7) (tg := 20) (len := 60) h9 (by simp)
  rw [show zm_n M + 7 = a0 + 8 by omega] at f8
  have f9 := ix_at (j := 9) (a := zm_n M + 8) (tg := 20) (len := 160) h9 (by simp)
  rw [show zm_n M + 8 = a0 + 9 by omega] at f9
  refine ⟨⟨?_, f9.1, f9.2⟩, ix_z h9 (by simp)⟩
  intro i i1 i2
  have hi : i = 1 ∨ i = 2 ∨ i = 3 ∨ i = 4 ∨ i = 5 ∨ i = 6 ∨ i = 7 ∨ i = 8 := by omega
  rcases hi with q | q | q | q | q | q | q | q <;> subst q
  · exact f1
  · exact f2
  · exact f3
  · exact f4
  · exact f5
  · exact f6
  · exact f7
  · exact f8
theorem ib_le_init (ha : zm_n M = a0 + 1) : ∃ M', le_init d a0 M = some M' ∧ zm_n M' = zm_n M + 1 ∧ zm_s M' = zm_s M + 25 ∧ zh (fun t' k' _ => t' = 2 ∧ k' = a0) M M' ∧ lp_x M' a0 (a0 + 1) := by
  unfold le_init
  have h0 : ix 2 a0 M [] [] 0 0 M := ix_rf (by omega)
  refine ix_il fun M2 eM2 => ix_il fun M4 eM4 => ?_
  have h1 : ix 2 a0 M [(0, zm_n M + 0, 20, 25)] [] 1 25 M4 := ix_row h0 eM2 eM4 (by simp)
  refine ⟨M4, rfl, ix_n h1, ix_s h1, ix_zh h1, ?_⟩
  have f0 := ix_at (j := 0) (a := zm_n M + 0) (tg := 20) (len := 25) h1 (by simp)
  rw [show zm_n M + 0 = a0 + 1 by omega] at f0
  exact f0
theorem ib_wy_init (ha : zm_n M = a0 + 1) : ∃ M', wy_init d a0 M = some M' ∧ zm_n M' = zm_n M + 4 ∧ zm_s M' = zm_s M + 192 ∧ zh (fun t' k' _ => t' = 9 ∧ k' = a0) M M' ∧ wy_l M' a0 := by
  unfold wy_init
  have h0 : ix 9 a0 M [] [] 0 0 M := ix_rf (by omega)
  refine ix_il fun M2 eM2 => ix_il fun M4 eM4 => ?_
  have h1 : ix 9 a0 M [(0, zm_n M + 0, 20, 48)] [] 1 48 M4 := ix_row h0 eM2 eM4 (by simp)
  refine ix_il fun M7 eM7 => ix_il fun M9 eM9 => ?_
  have h2 : ix 9 a0 M [(0, zm_n M + 0, 20, 48), (1, zm_n M + 1, 20, 48)] [] 2 96 M9 := ix_row h1 eM7 eM9 (by simp)
  refine ix_il fun M12 eM12 => ix_il fun M14 eM14 => ?_
  have h3 : ix 9 a0 M [(0, zm_n M + 0, 20, 48), (1, zm_n M + 1, 20, 48), (2, zm_n M + 2, 20, 48)] [] 3 144 M14 := ix_row h2 eM12 eM14 (by simp)
  refine ix_il fun M17 eM17 => ix_il fun M19 eM19 => ?_
  have h4 : ix 9 a0 M [(0, zm_n M + 0, 20, 48), (1, zm_n M + 1, 20, 48), (2, zm_n M + 2, 20, 48), (3, zm_n M + 3, 20, 48)] [] 4 192 M19 := ix_row h3 eM17 eM19 (by simp)
  refine ⟨M19, rfl, ix_n h4, ix_s h4, ix_zh h4, ?_⟩
  have f0 := ix_at (j := 0) (a := zm_n M + 0) (tg := 20) (len := 48) h4 (by simp)
  rw [show zm_n M + 0 = a0 + 1 by omega] at f0
  have f1 := ix_at (j := 1) (a := zm_n M + 1) (tg := 20) (len := 48) h4 (by simp)
  rw [show zm_n M + 1 = a0 + 2 by omega] at f1
  have f2 := ix_at (j := 2) (a := zm_n M + 2) (tg := 20) (len := 48) h4 (by simp)
  rw [show zm_n M + 2 = a0 + 3 by omega] at f2
  have f3 := ix_at (j := 3) (a := zm_n M + 3) (tg := 20) (len := 48) h4 (by simp)
  rw [show zm_n M + 3 = a0 + 4 by omega] at f3
  exact ⟨f0, f1, f2, f3⟩
theorem ib_sp_init (ha : zm_n M = a0 + 1) (hd : 1 ≤ d) : ∃ M', sp_init d a0 M = some M' ∧ zm_n M' = zm_n M + 13 ∧ zm_s M' = zm_s M + 11677 ∧ zh (fun t' k' _ => t' = 7 ∧ k' = a0) M M' ∧ sl_l M' a0 := by
  obtain ⟨d, rfl⟩ : ∃ d', d = d' + 1 := ⟨d - 1, by omega⟩
  have eb : sp_init (d + 1) a0 M = sp_init_b d a0 M := rfl
  rw [eb]
  unfold sp_init_b
  have h0 : ix 7 a0 M [] [] 0 0 M := ix_rf (by omega)
  refine ix_il fun M2 eM2 => ix_il fun M4 eM4 => ?_
  have h1 : ix 7 a0 M [(0, zm_n M + 0, 20, 9216)] [] 1 9216 M4 := ix_row h0 eM2 eM4 (by simp)
  refine ix_il fun M7 eM7 => ix_il fun M9 eM9 => ?_
  have h2 : ix 7 a0 M [(0, zm_n M + 0, 20, 9216), (2, zm_n M + 1, 20, 2304)] [] 2 11520 M9 := ix_row h1 eM7 eM9 (by simp)
  refine ix_il fun M12 eM12 => ix_il fun M14 eM14 => ?_
  have h3 : ix 7 a0 M [(0, zm_n M + 0, 20, 9216), (2, zm_n M + 1, 20, 2304), (3, zm_n M + 2, 24, 40)] [] 3 11560 M14 := ix_row h2 eM12 eM14 (by simp)
  refine ix_il fun M16 eM16 => ix_ib (ib_ru_init (d := d) (a0 := zm_n M14) (M := M16) (by rw [eM16, pn_n])) fun q18 gq18 => ix_il fun M20 eM20 => ?_
  obtain ⟨nq18, sq18, zq18, gq18⟩ := gq18
  have h4 : ix 7 a0 M [(0, zm_n M + 0, 20, 9216), (2, zm_n M + 1, 20, 2304), (3, zm_n M + 2, 24, 40), (4, zm_n M + 3, 5, 0)] [] 13 11677 M20 := ix_obj h3 eM16 zq18 (fun t k j w => by omega) nq18 sq18 eM20 (by simp)
  have y4 := ix_zo eM16 zq18 (fun t k j w => by omega) eM20
  have cq18 : zm_n M14 = a0 + 4 := by have := ix_n h3; omega
  have dq18 : zm_n q18 = a0 + 14 := by rw [nq18, eM16, pn_n]; omega
  rw [cq18] at gq18
  refine ⟨M20, rfl, ix_n h4, ix_s h4, ix_zh h4, ?_⟩
  have f0 := ix_at (j := 0) (a := zm_n M + 0) (tg := 20) (len := 9216) h4 (by simp)
  rw [show zm_n M + 0 = a0 + 1 by omega] at f0
  have f2 := ix_at (j := 2) (a := zm_n M + 1) (tg := 20) (len := 2304) h4 (by simp)
  rw [show zm_n M + 1 = a0 + 2 by omega] at f2
  have f3 := ix_at (j := 3) (a := zm_n M + 2) (tg := 24) (len := 40) h4 (by simp)
  rw [show zm_n M + 2 = a0 + 3 by omega] at f3
  have f4 := ix_at (j := 4) (a := zm_n M + 3) (tg := 5) (len := 0) h4 (by simp)
  rw [show zm_n M + 3 = a0 + 4 by omega] at f4
  exact ⟨f0, f2, f3⟩
theorem ib_wi_init (ha : zm_n M = a0 + 1) : ∃ M', wi_init d a0 M = some M' ∧ zm_n M' = zm_n M + 1 ∧ zm_s M' = zm_s M + 2304 ∧ zh (fun t' k' _ => t' = 10 ∧ k' = a0) M M' ∧ wt_l M' a0 ∧ zm_I M' 10 a0 0 = -1 := by
  unfold wi_init
  have h0 : ix 10 a0 M [] [] 0 0 M := ix_rf (by omega)
  refine ix_il fun M1 eM1 => ?_
  have h1 : ix 10 a0 M [] [(0, (-1))] 0 0 M1 := ix_int h0 eM1 (by simp)
  refine ix_il fun M4 eM4 => ix_il fun M6 eM6 => ?_
  have h2 : ix 10 a0 M [(6, zm_n M + 0, 20, 2304)] [(0, (-1))] 1 2304 M6 := ix_row h1 eM4 eM6 (by simp)
  refine ⟨M6, rfl, ix_n h2, ix_s h2, ix_zh h2, ?_⟩
  have f6 := ix_at (j := 6) (a := zm_n M + 0) (tg := 20) (len := 2304) h2 (by simp)
  rw [show zm_n M + 0 = a0 + 1 by omega] at f6
  exact ⟨f6, ix_v h2 (by simp)⟩
theorem ib_wk_init (ha : zm_n M = a0 + 1) (hd : 1 ≤ d) : ∃ M', wk_init d a0 M = some M' ∧ zm_n M' = zm_n M + 12 ∧ zm_s M' = zm_s M + 129 ∧ zh (fun t' k' _ => t' = 8 ∧ k' = a0) M M' ∧ wk_l M' a0 := by
  obtain ⟨d, rfl⟩ : ∃ d', d = d' + 1 := ⟨d - 1, by omega⟩
  have eb : wk_init (d + 1) a0 M = wk_init_b d a0 M := rfl
  rw [eb]
  unfold wk_init_b
  have h0 : ix 8 a0 M [] [] 0 0 M := ix_rf (by omega)
  refine ix_il fun M1 eM1 => ix_ib (ib_ru_init (d := d) (a0 := zm_n M) (M := M1) (by rw [eM1, pn_n])) fun q3 gq3 => ix_il fun M5 eM5 => ?_
  obtain ⟨nq3, sq3, zq3, gq3⟩ := gq3
  have h1 : ix 8 a0 M [(0, zm_n M + 0, 5, 0)] [] 10 117 M5 := ix_obj h0 eM1 zq3 (fun t k j w => by omega) nq3 sq3 eM5 (by simp)
  have y1 := ix_zo eM1 zq3 (fun t k j w => by omega) eM5
  have cq3 : zm_n M = a0 + 1 := by have := ix_n h0; omega
  have dq3 : zm_n q3 = a0 + 11 := by rw [nq3, eM1, pn_n]; omega
  rw [cq3] at gq3
  refine ix_il fun M7 eM7 => ?_
  have h2 : ix 8 a0 M [(0, zm_n M + 0, 5, 0)] [(1, (-1))] 10 117 M7 := ix_int h1 eM7 (by simp)
  refine ix_il fun M9 eM9 => ?_
  have h3 : ix 8 a0 M [(0, zm_n M + 0, 5, 0)] [(1, (-1)), (2, (-1))] 10 117 M9 := ix_int h2 eM9 (by simp)
  refine ix_il fun M12 eM12 => ix_il fun M14 eM14 => ?_
  have h4 : ix 8 a0 M [(0, zm_n M + 0, 5, 0), (3, zm_n M + 10, 20, 8)] [(1, (-1)), (2, (-1))] 11 125 M14 := ix_row h3 eM12 eM14 (by simp)
  refine ix_il fun M17 eM17 => ix_il fun M19 eM19 => ?_
  have h5 : ix 8 a0 M [(0, zm_n M + 0, 5, 0), (3, zm_n M + 10, 20, 8), (4, zm_n M + 11, 20, 4)] [(1, (-1)), (2, (-1))] 12 129 M19 := ix_row h4 eM17 eM19 (by simp)
  refine ix_il fun M21 eM21 => ?_
  have h6 : ix 8 a0 M [(0, zm_n M + 0, 5, 0), (3, zm_n M + 10, 20, 8), (4, zm_n M + 11, 20, 4)] [(1, (-1)), (2, (-1))] 12 129 M21 := ix_none h5 eM21 (by simp)
  refine ⟨M21, rfl, ix_n h6, ix_s h6, ix_zh h6, ?_⟩
  have f0 := ix_at (j := 0) (a := zm_n M + 0) (tg := 5) (len := 0) h6 (by simp)
  rw [show zm_n M + 0 = a0 + 1 by omega] at f0
  have f3 := ix_at (j := 3) (a := zm_n M + 10) (tg := 20) (len := 8) h6 (by simp)
  rw [show zm_n M + 10 = a0 + 11 by omega] at f3
  have f4 := ix_at (j := 4) (a := zm_n M + 11) (tg := 20) (len := 4) h6 (by simp)
  rw [show zm_n M + 11 = a0 + 12 by omega] at f4
  exact ⟨f3, f4⟩
theorem ib_re_init (ha : zm_n M = a0 + 1) : ∃ M', re_init d a0 M = some M' ∧ zm_n M' = zm_n M + 6 ∧ zm_s M' = zm_s M + 109 ∧ zh (fun t' k' _ => t' = 4 ∧ k' = a0) M M' ∧ re_l M' a0 ∧ zm_I M' 4 a0 0 = -1 := by
  unfold re_init
  have h0 : ix 4 a0 M [] [] 0 0 M := ix_rf (by omega)
  refine ix_il fun M1 eM1 => ?_
  have h1 : ix 4 a0 M [] [(0, (-1))] 0 0 M1 := ix_int h0 eM1 (by simp)
  refine ix_il fun M4 eM4 => ix_il fun M6 eM6 => ?_
  have h2 : ix 4 a0 M [(5, zm_n M + 0, 20, 24)] [(0, (-1))] 1 24 M6 := ix_row h1 eM4 eM6 (by simp)
  refine ix_il fun M9 eM9 => ix_il fun M11 eM11 => ?_
  have h3 : ix 4 a0 M [(5, zm_n M + 0, 20, 24), (6, zm_n M + 1, 20, 24)] [(0, (-1))] 2 48 M11 := ix_row h2 eM9 eM11 (by simp)
  refine ix_il fun M14 eM14 => ix_il fun M16 eM16 => ?_
  have h4 : ix 4 a0 M [(5, zm_n M + 0, 20, 24), (6, zm_n M + 1, 20, 24), (7, zm_n M + 2, 20, 24)] [(0, (-1))] 3 72 M16 := ix_row h3 eM14 eM16 (by simp)
  refine ix_il fun M19 eM19 => ix_il fun M21 eM21 => ?_
  have h5 : ix 4 a0 M [(5, zm_n M + 0, 20, 24), (6, zm_n M + 1, 20, 24), (7, zm_n M + 2, 20, 24), (9, zm_n M + 3, 20, 8)] [(0, (-1))] 4 80 M21 := ix_row h4 eM19 eM21 (by simp)
  refine ix_il fun M24 eM24 => ix_il fun M26 eM26 => ?_
  have h6 : ix 4 a0 M [(5, zm_n M + 0, 20, 24), (6, zm_n M + 1, 20, 24), (7, zm_n M + 2, 20, 24), (9, zm_n M + 3, 20, 8), (11, zm_n M + 4, 20, 4)] [(0, (-1))] 5 84 M26 := ix_row h5 eM24 eM26 (by simp)
  refine ix_il fun M29 eM29 => ix_il fun M31 eM31 => ?_
  have h7 : ix 4 a0 M [(5, zm_n M + 0, 20, 24), (6, zm_n M + 1, 20, 24), (7, zm_n M + 2, 20, 24), (9, zm_n M + 3, 20, 8), (11, zm_n M + 4, 20, 4), (16, zm_n M + 5, 20, 25)] [(0, (-1))] 6 109 M31 := ix_row h6 eM29 eM31 (by simp)
  refine ⟨M31, rfl, ix_n h7, ix_s h7, ix_zh h7, ?_⟩
  have f5 := ix_at (j := 5) (a := zm_n M + 0) (tg := 20) (len := 24) h7 (by simp)
  rw [show zm_n M + 0 = a0 + 1 by omega] at f5
  have f6 := ix_at (j := 6) (a := zm_n M + 1) (tg := 20) (len := 24) h7 (by simp)
  rw [show zm_n M + 1 = a0 + 2 by omega] at f6
  have f7 := ix_at (j := 7) (a := zm_n M + 2) (tg := 20) (len := 24) h7 (by simp)
  rw [show zm_n M + 2 = a0 + 3 by omega] at f7
  have f9 := ix_at (j := 9) (a := zm_n M + 3) (tg := 20) (len := 8) h7 (by simp)
  rw [show zm_n M + 3 = a0 + 4 by omega] at f9
  have f11 := ix_at (j := 11) (a := zm_n M + 4) (tg := 20) (len := 4) h7 (by simp)
  rw [show zm_n M + 4 = a0 + 5 by omega] at f11
  have f16 := ix_at (j := 16) (a := zm_n M + 5) (tg := 20) (len := 25) h7 (by simp)
  rw [show zm_n M + 5 = a0 + 6 by omega] at f16
  exact ⟨⟨f5, f6, f7, f9, f11, f16⟩, ix_v h7 (by simp)⟩
theorem ib_di_init (ha : zm_n M = a0 + 1) : ∃ M', di_init d a0 M = some M' ∧ zm_n M' = zm_n M + 6 ∧ zm_s M' = zm_s M + 37004 ∧ zh (fun t' k' _ => t' = 0 ∧ k' = a0) M M' ∧ di_l M' a0 ∧ zm_I M' 0 a0 2 = -1 ∧ zm_I M' 0 a0 3 = -1 := by
  unfold di_init
  have h0 : ix 0 a0 M [] [] 0 0 M := ix_rf (by omega)
  refine ix_il fun M1 eM1 => ?_
  have h1 : ix 0 a0 M [] [(0, (-1))] 0 0 M1 := ix_int h0 eM1 (by simp)
  refine ix_il fun M4 eM4 => ix_il fun M6 eM6 => ?_
  have h2 : ix 0 a0 M [(1, zm_n M + 0, 20, 4)] [(0, (-1))] 1 4 M6 := ix_row h1 eM4 eM6 (by simp)
  refine ix_il fun M8 eM8 => ?_
  have h3 : ix 0 a0 M [(1, zm_n M + 0, 20, 4)] [(0, (-1)), (2, (-1))] 1 4 M8 := ix_int h2 eM8 (by simp)
  refine ix_il fun M10 eM10 => ?_
  have h4 : ix 0 a0 M [(1, zm_n M + 0, 20, 4)] [(0, (-1)), (2, (-1)), (3, (-1))] 1 4 M10 := ix_int h3 eM10 (by simp)
  refine ix_il fun M13 eM13 => ix_il fun M15 eM15 => ?_
  have h5 : ix 0 a0 M [(1, zm_n M + 0, 20, 4), (4, zm_n M + 1, 20, 8738)] [(0, (-1)), (2, (-1)), (3, (-1))] 2 8742 M15 := ix_row h4 eM13 eM15 (by simp)
  refine ix_il fun M18 eM18 => ix_il fun M20 eM20 => ?_
  have h6 : ix 0 a0 M [(1, zm_n M + 0, 20, 4), (4, zm_n M + 1, 20, 8738), (5, zm_n M + 2, 20, 8738)] [(0, (-1)), (2, (-1)), (3, (-1))] 3 17480 M20 := ix_row h5 eM18 eM20 (by simp)
  refine ix_il fun M23 eM23 => ix_il fun M25 eM25 => ?_
  have h7 : ix 0 a0 M [(1, zm_n M + 0, 20, 4), (4, zm_n M + 1, 20, 8738), (5, zm_n M + 2, 20, 8738), (6, zm_n M + 3, 20, 8738)] [(0, (-1)), (2, (-1)), (3, (-1))] 4 26218 M25 := ix_row h6 eM23 eM25 (by simp)
  refine ix_il fun M28 eM28 => ix_il fun M30 eM30 => ?_
  have h8 : ix 0 a0 M [(1, zm_n M + 0, 20, 4), (4, zm_n M + 1, 20, 8738), (5, zm_n M + 2, 20, 8738), (6, zm_n M + 3, 20, 8738), (7, zm_n M + 4, 20, 8738)] [(0, (-1)), (2, (-1)), (3, (-1))] 5 34956 M30 := ix_row h7 eM28 eM30 (by simp)
  refine ix_il fun M33 eM33 => ix_il fun M35 eM35 => ?_
  have h9 : ix 0 a0 M [(1, zm_n M + 0, 20, 4), (4, zm_n M + 1, 20, 8738), (5, zm_n M + 2, 20, 8738), (6, zm_n M + 3, 20, 8738), (7, zm_n M + 4, 20, 8738), (8, zm_n M + 5, 20, 2048)] [(0, (-1)), (2, (-1)), (3, (-1))] 6 37004 M35 := ix_row h8 eM33 eM35 (by simp)
  refine ⟨M35, rfl, ix_n h9, ix_s h9, ix_zh h9, ?_⟩
  have f1 := ix_at (j := 1) (a := zm_n M + 0) (tg := 20) (len := 4) h9 (by simp)
  rw [show zm_n M + 0 = a0 + 1 by omega] at f1
  have f4 := ix_at (j := 4) (a := zm_n M + 1) (tg := 20) (len := 8738) h9 (by simp)
  rw [show zm_n M + 1 = a0 + 2 by omega] at f4
  have f5 := ix_at (j := 5) (a := zm_n M + 2) (tg := 20) (len := 8738) h9 (by simp)
  rw [show zm_n M + 2 = a0 + 3 by omega] at f5
  have f6 := ix_at (j := 6) (a := zm_n M + 3) (tg := 20) (len := 8738) h9 (by simp)
  rw [show zm_n M + 3 = a0 + 4 by omega] at f6
  have f7 := ix_at (j := 7) (a := zm_n M + 4) (tg := 20) (len := 8738) h9 (by simp)
  rw [show zm_n M + 4 = a0 + 5 by omega] at f7
  have f8 := ix_at (j := 8) (a := zm_n M + 5) (tg := 20) (len := 2048) h9 (by simp)
  rw [show zm_n M + 5 = a0 + 6 by omega] at f8
  exact ⟨⟨f1, f4, f5, f6, f7, f8⟩, ix_v h9 (by simp), ix_v h9 (by simp)⟩
theorem ib_mo_init (ha : zm_n M = a0 + 1) : ∃ M', mo_init d a0 M = some M' ∧ zm_n M' = zm_n M + 33 ∧ zm_s M' = zm_s M + 42180 ∧ zh (fun t' k' _ => t' = 12 ∧ k' = a0) M M' ∧ ml_ok a0 M' ∧ zm_I M' 12 a0 31 = -1 ∧ (∀ j, j ≠ 31 → zm_I M' 12 a0 j = zm_I M 12 a0 j) := by
  unfold mo_init
  have h0 : ix 12 a0 M [] [] 0 0 M := ix_rf (by omega)
  refine ix_il fun M2 eM2 => ix_il fun M4 eM4 => ?_
  have h1 : ix 12 a0 M [(1, zm_n M + 0, 22, 400)] [] 1 400 M4 := ix_row h0 eM2 eM4 (by simp)
  refine ix_il fun M7 eM7 => ix_il fun M9 eM9 => ?_
  have h2 : ix 12 a0 M [(1, zm_n M + 0, 22, 400), (5, zm_n M + 1, 20, 7200)] [] 2 7600 M9 := ix_row h1 eM7 eM9 (by simp)
  refine ix_il fun M12 eM12 => ix_il fun M14 eM14 => ?_
  have h3 : ix 12 a0 M [(1, zm_n M + 0, 22, 400), (5, zm_n M + 1, 20, 7200), (6, zm_n M + 2, 20, 7200)] [] 3 14800 M14 := ix_row h2 eM12 eM14 (by simp)
  refine ix_il fun M17 eM17 => ix_il fun M19 eM19 => ?_
  have h4 : ix 12 a0 M [(1, zm_n M + 0, 22, 400), (5, zm_n M + 1, 20, 7200), (6, zm_n M + 2, 20, 7200), (7, zm_n M + 3, 20, 40)] [] 4 14840 M19 := ix_row h3 eM17 eM19 (by simp)
  refine ix_il fun M22 eM22 => ix_il fun M24 eM24 => ?_
  have h5 : ix 12 a0 M [(1, zm_n M + 0, 22, 400), (5, zm_n M + 1, 20, 7200), (6, zm_n M + 2, 20, 7200), (7, zm_n M + 3, 20, 40), (8, zm_n M + 4, 20, 40)] [] 5 14880 M24 := ix_row h4 eM22 eM24 (by simp)
  refine ix_il fun M27 eM27 => ix_il fun M29 eM29 => ?_
  have h6 : ix 12 a0 M [(1, zm_n M + 0, 22, 400), (5, zm_n M + 1, 20, 7200), (6, zm_n M + 2, 20, 7200), (7, zm_n M + 3, 20, 40), (8, zm_n M + 4, 20, 40), (9, zm_n M + 5, 20, 192)] [] 6 15072 M29 := ix_row h5 eM27 eM29 (by simp)
  refine ix_il fun M32 eM32 => ix_il fun M34 eM34 => ?_
  have h7 : ix 12 a0 M [(1, zm_n M + 0, 22, 400), (5, zm_n M + 1, 20, 7200), (6, zm_n M + 2, 20, 7200), (7, zm_n M + 3, 20, 40), (8, zm_n M + 4, 20, 40), (9, zm_n M + 5, 20, 192), (10, zm_n M + 6, 20, 192)] [] 7 15264 M34 := ix_row h6 eM32 eM34 (by simp)
  refine ix_il fun M37 eM37 => ix_il fun M39 eM39 => ?_
  have h8 : ix 12 a0 M [(1, zm_n M + 0, 22, 400), (5, zm_n M + 1, 20, 7200), (6, zm_n M + 2, 20, 7200), (7, zm_n M + 3, 20, 40), (8, zm_n M + 4, 20, 40), (9, zm_n M + 5, 20, 192), (10, zm_n M + 6, 20, 192), (11, zm_n M + 7, 20, 256)] [] 8 15520 M39 := ix_row h7 eM37 eM39 (by simp)
  refine ix_il fun M42 eM42 => ix_il fun M44 eM44 => ?_
  have h9 : ix 12 a0 M [(1, zm_n M + 0, 22, 400), (5, zm_n M + 1, 20, 7200), (6, zm_n M + 2, 20, 7200), (7, zm_n M + 3, 20, 40), (8, zm_n M + 4, 20, 40), (9, zm_n M + 5, 20, 192), (10, zm_n M + 6, 20, 192), (11, zm_n M + 7, 20, 256), (12, zm_n M + 8, 20, 256)] [] 9 15776 M44 := ix_row h8 eM42 eM44 (by simp)
  refine ix_il fun M47 eM47 => ix_il fun M49 eM49 => ?_
  have h10 : ix 12 a0 M [(1, zm_n M + 0, 22, 400), (5, zm_n M + 1, 20, 7200), (6, zm_n M + 2, 20, 7200), (7, zm_n M + 3, 20, 40), (8, zm_n M + 4, 20, 40), (9, zm_n M + 5, 20, 192), (10, zm_n M + 6, 20, 192), (11, zm_n M + 7, 20, 256), (12, zm_n M + 8, 20, 256), (13, zm_n M + 9, 20, 32)] [] 10 15808 M49 := ix_row h9 eM47 eM49 (by simp)
  refine ix_il fun M52 eM52 => ix_il fun M54 eM54 => ?_
  have h11 : ix 12 a0 M [(1, zm_n M + 0, 22, 400), (5, zm_n M + 1, 20, 7200), (6, zm_n M + 2, 20, 7200), (7, zm_n M + 3, 20, 40), (8, zm_n M + 4, 20, 40), (9, zm_n M + 5, 20, 192), (10, zm_n M + 6, 20, 192), (11, zm_n M + 7, 20, 256), (12, zm_n M + 8, 20, 256), (13, zm_n M + 9, 20, 32), (14, zm_n M + 10, 20, 32)] [] 11 15840 M54 := ix_row h10 eM52 eM54 (by simp)
  refine ix_il fun M57 eM57 => ix_il fun M59 eM59 => ?_
  have h12 : ix 12 a0 M [(1, zm_n M + 0, 22, 400), (5, zm_n M + 1, 20, 7200), (6, zm_n M + 2, 20, 7200), (7, zm_n M + 3, 20, 40), (8, zm_n M + 4, 20, 40), (9, zm_n M + 5, 20, 192), (10, zm_n M + 6, 20, 192), (11, zm_n M + 7, 20, 256), (12, zm_n M + 8, 20, 256), (13, zm_n M + 9, 20, 32), (14, zm_n M + 10, 20, 32), (18, zm_n M + 11, 20, 240)] [] 12 16080 M59 := ix_row h11 eM57 eM59 (by simp)
  refine ix_il fun M62 eM62 => ix_il fun M64 eM64 => ?_
  have h13 : ix 12 a0 M [(1, zm_n M + 0, 22, 400), (5, zm_n M + 1, 20, 7200), (6, zm_n M + 2, 20, 7200), (7, zm_n M + 3, 20, 40), (8, zm_n M + 4, 20, 40), (9, zm_n M + 5, 20, 192), (10, zm_n M + 6, 20, 192), (11, zm_n M + 7, 20, 256), (12, zm_n M + 8, 20, 256), (13, zm_n M + 9, 20, 32), (14, zm_n M + 10, 20, 32), (18, zm_n M + 11, 20, 240), (19, zm_n M + 12, 20, 240)] [] 13 16320 M64 := ix_row h12 eM62 eM64 (by simp)
  refine ix_il fun M67 eM67 => ix_il fun M69 eM69 => ?_
  have h14 : ix 12 a0 M [(1, zm_n M + 0, 22, 400), (5, zm_n M + 1, 20, 7200), (6, zm_n M + 2, 20, 7200), (7, zm_n M + 3, 20, 40), (8, zm_n M + 4, 20, 40), (9, zm_n M + 5, 20, 192), (10, zm_n M + 6, 20, 192), (11, zm_n M + 7, 20, 256), (12, zm_n M + 8, 20, 256), (13, zm_n M + 9, 20, 32), (14, zm_n M + 10, 20, 32), (18, zm_n M + 11, 20, 240), (19, zm_n M + 12, 20, 240), (22, zm_n M + 13, 20, 128)] [] 14 16448 M69 := ix_row h13 eM67 eM69 (by simp)
  refine ix_il fun M72 eM72 => ix_il fun M74 eM74 => ?_
  have h15 : ix 12 a0 M [(1, zm_n M + 0, 22, 400), (5, zm_n M + 1, 20, 7200), (6, zm_n M + 2, 20, 7200), (7, zm_n M + 3, 20, 40), (8, zm_n M + 4, 20, 40), (9, zm_n M + 5, 20, 192), (10, zm_n M + 6, 20, 192), (11, zm_n M + 7, 20, 256), (12, zm_n M + 8, 20, 256), (13, zm_n M + 9, 20, 32), (14, zm_n M + 10, 20, 32), (18, zm_n M + 11, 20, 240), (19, zm_n M + 12, 20, 240), (22, zm_n M + 13, 20, 128), (23, zm_n M + 14, 20, 128)] [] 15 16576 M74 := ix_row h14 eM72 eM74 (by simp)
  refine ix_il fun M77 eM77 => ix_il fun M79 eM79 => ?_
  have h16 : ix 12 a0 M [(1, zm_n M + 0, 22, 400), (5, zm_n M + 1, 20, 7200), (6, zm_n M + 2, 20, 7200), (7, zm_n M + 3, 20, 40), (8, zm_n M + 4, 20, 40), (9, zm_n M + 5, 20, 192), (10, zm_n M + 6, 20, 192), (11, zm_n M + 7, 20, 256), (12, zm_n M + 8, 20, 256), (13, zm_n M + 9, 20, 32), (14, zm_n M + 10, 20, 32), (18, zm_n M + 11, 20, 240), (19, zm_n M + 12, 20, 240), (22, zm_n M + 13, 20, 128), (23, zm_n M + 14, 20, 128), (24, zm_n M + 15, 20, 128)] [] 16 16704 M79 := ix_row h15 eM77 eM79 (by simp)
  refine ix_il fun M82 eM82 => ix_il fun M84 eM84 => ?_
  have h17 : ix 12 a0 M [(1, zm_n M + 0, 22, 400), (5, zm_n M + 1, 20, 7200), (6, zm_n M + 2, 20, 7200), (7, zm_n M + 3, 20, 40), (8, zm_n M + 4, 20, 40), (9, zm_n M + 5, 20, 192), (10, zm_n M + 6, 20, 192), (11, zm_n M + 7, 20, 256), (12, zm_n M + 8, 20, 256), (13, zm_n M + 9, 20, 32), (14, zm_n M + 10, 20, 32), (18, zm_n M + 11, 20, 240), (19, zm_n M + 12, 20, 240), (22, zm_n M + 13, 20, 128), (23, zm_n M + 14, 20, 128), (24, zm_n M + 15, 20, 128), (25, zm_n M + 16, 20, 128)] [] 17 16832 M84 := ix_row h16 eM82 eM84 (by simp)
  refine ix_il fun M87 eM87 => ix_il fun M89 eM89 => ?_
  have h18 : ix 12 a0 M [(1, zm_n M + 0, 22, 400), (5, zm_n M + 1, 20, 7200), (6, zm_n M + 2, 20, 7200), (7, zm_n M + 3, 20, 40), (8, zm_n M + 4, 20, 40), (9, zm_n M + 5, 20, 192), (10, zm_n M + 6, 20, 192), (11, zm_n M + 7, 20, 256), (12, zm_n M + 8, 20, 256), (13, zm_n M + 9, 20, 32), (14, zm_n M + 10, 20, 32), (18, zm_n M + 11, 20, 240), (19, zm_n M + 12, 20, 240), (22, zm_n M + 13, 20, 128), (23, zm_n M + 14, 20, 128), (24, zm_n M + 15, 20, 128), (25, zm_n M + 16, 20, 128), (27, zm_n M + 17, 22, 12000)] [] 18 28832 M89 := ix_row h17 eM87 eM89 (by simp)
  refine ix_il fun M92 eM92 => ix_il fun M94 eM94 => ?_
  have h19 : ix 12 a0 M [(1, zm_n M + 0, 22, 400), (5, zm_n M + 1, 20, 7200), (6, zm_n M + 2, 20, 7200), (7, zm_n M + 3, 20, 40), (8, zm_n M + 4, 20, 40), (9, zm_n M + 5, 20, 192), (10, zm_n M + 6, 20, 192), (11, zm_n M + 7, 20, 256), (12, zm_n M + 8, 20, 256), (13, zm_n M + 9, 20, 32), (14, zm_n M + 10, 20, 32), (18, zm_n M + 11, 20, 240), (19, zm_n M + 12, 20, 240), (22, zm_n M + 13, 20, 128), (23, zm_n M + 14, 20, 128), (24, zm_n M + 15, 20, 128), (25, zm_n M + 16, 20, 128), (27, zm_n M + 17, 22, 12000), (29, zm_n M + 18, 20, 320)] [] 19 29152 M94 := ix_row h18 eM92 eM94 (by simp)
  refine ix_il fun M97 eM97 => ix_il fun M99 eM99 => ?_
  have h20 : ix 12 a0 M [(1, zm_n M + 0, 22, 400), (5, zm_n M + 1, 20, 7200), (6, zm_n M + 2, 20, 7200), (7, zm_n M + 3, 20, 40), (8, zm_n M + 4, 20, 40), (9, zm_n M + 5, 20, 192), (10, zm_n M + 6, 20, 192), (11, zm_n M + 7, 20, 256), (12, zm_n M + 8, 20, 256), (13, zm_n M + 9, 20, 32), (14, zm_n M + 10, 20, 32), (18, zm_n M + 11, 20, 240), (19, zm_n M + 12, 20, 240), (22, zm_n M + 13, 20, 128), (23, zm_n M + 14, 20, 128), (24, zm_n M + 15, 20, 128), (25, zm_n M + 16, 20, 128), (27, zm_n M + 17, 22, 12000), (29, zm_n M + 18, 20, 320), (30, zm_n M + 19, 20, 320)] [] 20 29472 M99 := ix_row h19 eM97 eM99 (by simp)
  refine ix_il fun M101 eM101 => ?_
  have h21 : ix 12 a0 M [(1, zm_n M + 0, 22, 400), (5, zm_n M + 1, 20, 7200), (6, zm_n M + 2, 20, 7200), (7, zm_n M + 3, 20, 40), (8, zm_n M + 4, 20, 40), (9, zm_n M + 5, 20, 192), (10, zm_n M + 6, 20, 192), (11, zm_n M + 7, 20, 256), (12, zm_n M + 8, 20, 256), (13, zm_n M + 9, 20, 32), (14, zm_n M + 10, 20, 32), (18, zm_n M + 11, 20, 240), (19, zm_n M + 12, 20, 240), (22, zm_n M + 13, 20, 128), (23, zm_n M + 14, 20, 128), (24, zm_n M + 15, 20, 128), (25, zm_n M + 16, 20, 128), (27, zm_n M + 17, 22, 12000), (29, zm_n M + 18, 20, 320), (30, zm_n M + 19, 20, 320)] [(31, (-1))] 20 29472 M101 := ix_int h20 eM101 (by simp)
  refine ix_il fun M104 eM104 => ix_il fun M106 eM106 => ?_
  have h22 : ix 12 a0 M [(1, zm_n M + 0, 22, 400), (5, zm_n M + 1, 20, 7200), (6, zm_n M + 2, 20, 7200), (7, zm_n M + 3, 20, 40), (8, zm_n M + 4, 20, 40), (9, zm_n M + 5, 20, 192), (10, zm_n M + 6, 20, 192), (11, zm_n M + 7, 20, 256), (12, zm_n M + 8, 20, 256), (13, zm_n M + 9, 20, 32), (14, zm_n M + 10, 20, 32), (18, zm_n M + 11, 20, 240), (19, zm_n M + 12, 20, 240), (22, zm_n M + 13, 20, 128), (23, zm_n M + 14, 20, 128), (24, zm_n M + 15, 20, 128), (25, zm_n M + 16, 20, 128), (27, zm_n M + 17, 22, 12000), (29, zm_n M + 18, 20, 320), (30, zm_n M + 19, 20, 320), (32, zm_n M + 20, 20, 7)] [(31, (-1))] 21 29479 M106 := ix_row h21 eM104 eM106 (by simp)
  refine ix_il fun M109 eM109 => ix_il fun M111 eM111 => ?_
  have h23 : ix 12 a0 M [(1, zm_n M + 0, 22, 400), (5, zm_n M + 1, 20, 7200), (6, zm_n M + 2, 20, 7200), (7, zm_n M + 3, 20, 40), (8, zm_n M + 4, 20, 40), (9, zm_n M + 5, 20, 192), (10, zm_n M + 6, 20, 192), (11, zm_n M + 7, 20, 256), (12, zm_n M + 8, 20, 256), (13, zm_n M + 9, 20, 32), (14, zm_n M + 10, 20, 32), (18, zm_n M + 11, 20, 240), (19, zm_n M + 12, 20, 240), (22, zm_n M + 13, 20, 128), (23, zm_n M + 14, 20, 128), (24, zm_n M + 15, 20, 128), (25, zm_n M + 16, 20, 128), (27, zm_n M + 17, 22, 12000), (29, zm_n M + 18, 20, 320), (30, zm_n M + 19, 20, 320), (32, zm_n M + 20, 20, 7), (33, zm_n M + 21, 22, 12000)] [(31, (-1))] 22 41479 M111 := ix_row h22 eM109 eM111 (by simp)
  refine ix_il fun M114 eM114 => ix_il fun M116 eM116 => ?_
  have h24 : ix 12 a0 M [(1, zm_n M + 0, 22, 400), (5, zm_n M + 1, 20, 7200), (6, zm_n M + 2, 20, 7200), (7, zm_n M + 3, 20, 40), (8, zm_n M + 4, 20, 40), (9, zm_n M + 5, 20, 192), (10, zm_n M + 6, 20, 192), (11, zm_n M + 7, 20, 256), (12, zm_n M + 8, 20, 256), (13, zm_n M + 9, 20, 32), (14, zm_n M + 10, 20, 32), (18, zm_n M + 11, 20, 240), (19, zm_n M + 12, 20, 240), (22, zm_n M + 13, 20, 128), (23, zm_n M + 14, 20, 128), (24, zm_n M + 15, 20, 128), (25, zm_n M + 16, 20, 128), (27, zm_n M + 17, 22, 12000), (29, zm_n M + 18, 20, 320), (30, zm_n M + 19, 20, 320), (32, zm_n M + 20, 20, 7), (33, zm_n M + 21, 22, 12000), (34, zm_n M + 22, 20, 208)] [(31, (-1))] 23 41687 M116 := ix_row h23 eM114 eM116 (by simp)
  refine ix_il fun M119 eM119 => ix_il fun M121 eM121 => ?_
  have h25 : ix 12 a0 M [(1, zm_n M + 0, 22, 400), (5, zm_n M + 1, 20, 7200), (6, zm_n M + 2, 20, 7200), (7, zm_n M + 3, 20, 40), (8, zm_n M + 4, 20, 40), (9, zm_n M + 5, 20, 192), (10, zm_n M + 6, 20, 192), (11, zm_n M + 7, 20, 256), (12, zm_n M + 8, 20, 256), (13, zm_n M + 9, 20, 32), (14, zm_n M + 10, 20, 32), (18, zm_n M + 11, 20, 240), (19, zm_n M + 12, 20, 240), (22, zm_n M + 13, 20, 128), (23, zm_n M + 14, 20, 128), (24, zm_n M + 15, 20, 128), (25, zm_n M + 16, 20, 128), (27, zm_n M + 17, 22, 12000), (29, zm_n M + 18, 20, 320), (30, zm_n M + 19, 20, 320), (32, zm_n M + 20, 20, 7), (33, zm_n M + 21, 22, 12000), (34, zm_n M + 22, 20, 208), (37, zm_n M + 23, 20, 26)] [(31, (-1))] 24 41713 M121 := ix_row h24 eM119 eM121 (by simp)
  refine ix_il fun M124 eM124 => ix_il fun M126 eM126 => ?_
  have h26 : ix 12 a0 M [(1, zm_n M + 0, 22, 400), (5, zm_n M + 1, 20, 7200), (6, zm_n M + 2, 20, 7200), (7, zm_n M + 3, 20, 40), (8, zm_n M + 4, 20, 40), (9, zm_n M + 5, 20, 192), (10, zm_n M + 6, 20, 192), (11, zm_n M + 7, 20, 256), (12, zm_n M + 8, 20, 256), (13, zm_n M + 9, 20, 32), (14, zm_n M + 10, 20, 32), (18, zm_n M + 11, 20, 240), (19, zm_n M + 12, 20, 240), (22, zm_n M + 13, 20, 128), (23, zm_n M + 14, 20, 128), (24, zm_n M + 15, 20, 128), (25, zm_n M + 16, 20, 128), (27, zm_n M + 17, 22, 12000), (29, zm_n M + 18, 20, 320), (30, zm_n M + 19, 20, 320), (32, zm_n M + 20, 20, 7), (33, zm_n M + 21, 22, 12000), (34, zm_n M + 22, 20, 208), (37, zm_n M + 23, 20, 26), (38, zm_n M + 24, 20, 26)] [(31, (-1))] 25 41739 M126 := ix_row h25 eM124 eM126 (by simp)
  refine ix_il fun M129 eM129 => ix_il fun M131 eM131 => ?_
  have h27 : ix 12 a0 M [(1, zm_n M + 0, 22, 400), (5, zm_n M + 1, 20, 7200), (6, zm_n M + 2, 20, 7200), (7, zm_n M + 3, 20, 40), (8, zm_n M + 4, 20, 40), (9, zm_n M + 5, 20, 192), (10, zm_n M + 6, 20, 192), (11, zm_n M + 7, 20, 256), (12, zm_n M + 8, 20, 256), (13, zm_n M + 9, 20, 32), (14, zm_n M + 10, 20, 32), (18, zm_n M + 11, 20, 240), (19, zm_n M + 12, 20, 240), (22, zm_n M + 13, 20, 128), (23, zm_n M + 14, 20, 128), (24, zm_n M + 15, 20, 128), (25, zm_n M + 16, 20, 128), (27, zm_n M + 17, 22, 12000), (29, zm_n M + 18, 20, 320), (30, zm_n M + 19, 20, 320), (32, zm_n M + 20, 20, 7), (33, zm_n M + 21, 22, 12000), (34, zm_n M + 22, 20, 208), (37, zm_n M + 23, 20, 26), (38, zm_n M + 24, 20, 26), (39, zm_n M + 25, 20, 26)] [(31, (-1))] 26 41765 M131 := ix_row h26 eM129 eM131 (by simp)
  refine ix_il fun M134 eM134 => ix_il fun M136 eM136 => ?_
  have h28 : ix 12 a0 M [(1, zm_n M + 0, 22, 400), (5, zm_n M + 1, 20, 7200), (6, zm_n M + 2, 20, 7200), (7, zm_n M + 3, 20, 40), (8, zm_n M + 4, 20, 40), (9, zm_n M + 5, 20, 192), (10, zm_n M + 6, 20, 192), (11, zm_n M + 7, 20, 256), (12, zm_n M + 8, 20, 256), (13, zm_n M + 9, 20, 32), (14, zm_n M + 10, 20, 32), (18, zm_n M + 11, 20, 240), (19, zm_n M + 12, 20, 240), (22, zm_n M + 13, 20, 128), (23, zm_n M + 14, 20, 128), (24, zm_n M + 15, 20, 128), (25, zm_n M + 16, 20, 128), (27, zm_n M + 17, 22, 12000), (29, zm_n M + 18, 20, 320), (30, zm_n M + 19, 20, 320), (32, zm_n M + 20, 20, 7), (33, zm_n M + 21, 22, 12000), (34, zm_n M + 22, 20, 208), (37, zm_n M + 23, 20, 26), (38, zm_n M + 24, 20, 26), (39, zm_n M + 25, 20, 26), (48, zm_n M + 26, 20, 24)] [(31, (-1))] 27 41789 M136 := ix_row h27 eM134 eM136 (by simp)
  refine ix_il fun M139 eM139 => ix_il fun M141 eM141 => ?_
  have h29 : ix 12 a0 M [(1, zm_n M + 0, 22, 400), (5, zm_n M + 1, 20, 7200), (6, zm_n M + 2, 20, 7200), (7, zm_n M + 3, 20, 40), (8, zm_n M + 4, 20, 40), (9, zm_n M + 5, 20, 192), (10, zm_n M + 6, 20, 192), (11, zm_n M + 7, 20, 256), (12, zm_n M + 8, 20, 256), (13, zm_n M + 9, 20, 32), (14, zm_n M + 10, 20, 32), (18, zm_n M + 11, 20, 240), (19, zm_n M + 12, 20, 240), (22, zm_n M + 13, 20, 128), (23, zm_n M + 14, 20, 128), (24, zm_n M + 15, 20, 128), (25, zm_n M + 16, 20, 128), (27, zm_n M + 17, 22, 12000), (29, zm_n M + 18, 20, 320), (30, zm_n M + 19, 20, 320), (32, zm_n M + 20, 20, 7), (33, zm_n M + 21, 22, 12000), (34, zm_n M + 22, 20, 208), (37, zm_n M + 23, 20, 26), (38, zm_n M + 24, 20, 26), (39, zm_n M + 25, 20, 26), (48, zm_n M + 26, 20, 24), (49, zm_n M + 27, 20, 24)] [(31, (-1))] 28 41813 M141 := ix_row h28 eM139 eM141 (by simp)
  refine ix_il fun M144 eM144 => ix_il fun M146 eM146 => ?_
  have h30 : ix 12 a0 M [(1, zm_n M + 0, 22, 400), (5, zm_n M + 1, 20, 7200), (6, zm_n M + 2, 20, 7200), (7, zm_n M + 3, 20, 40), (8, zm_n M + 4, 20, 40), (9, zm_n M + 5, 20, 192), (10, zm_n M + 6, 20, 192), (11, zm_n M + 7, 20, 256), (12, zm_n M + 8, 20, 256), (13, zm_n M + 9, 20, 32), (14, zm_n M + 10, 20, 32), (18, zm_n M + 11, 20, 240), (19, zm_n M + 12, 20, 240), (22, zm_n M + 13, 20, 128), (23, zm_n M + 14, 20, 128), (24, zm_n M + 15, 20, 128), (25, zm_n M + 16, 20, 128), (27, zm_n M + 17, 22, 12000), (29, zm_n M + 18, 20, 320), (30, zm_n M + 19, 20, 320), (32, zm_n M + 20, 20, 7), (33, zm_n M + 21, 22, 12000), (34, zm_n M + 22, 20, 208), (37, zm_n M + 23, 20, 26), (38, zm_n M + 24, 20, 26), (39, zm_n M + 25, 20, 26), (48, zm_n M + 26, 20, 24), (49, zm_n M + 27, 20, 24), (50, zm_n M + 28, 20, 24)] [(31, (-1))] 29 41837 M146 := ix_row h29 eM144 eM146 (by simp)
  refine ix_il fun M149 eM149 => ix_il fun M151 eM151 => ?_
  have h31 : ix 12 a0 M [(1, zm_n M + 0, 22, 400), (5, zm_n M + 1, 20, 7200), (6, zm_n M + 2, 20, 7200), (7, zm_n M + 3, 20, 40), (8, zm_n M + 4, 20, 40), (9, zm_n M + 5, 20, 192), (10, zm_n M + 6, 20, 192), (11, zm_n M + 7, 20, 256), (12, zm_n M + 8, 20, 256), (13, zm_n M + 9, 20, 32), (14, zm_n M + 10, 20, 32), (18, zm_n M + 11, 20, 240), (19, zm_n M + 12, 20, 240), (22, zm_n M + 13, 20, 128), (23, zm_n M + 14, 20, 128), (24, zm_n M + 15, 20, 128), (25, zm_n M + 16, 20, 128), (27, zm_n M + 17, 22, 12000), (29, zm_n M + 18, 20, 320), (30, zm_n M + 19, 20, 320), (32, zm_n M + 20, 20, 7), (33, zm_n M + 21, 22, 12000), (34, zm_n M + 22, 20, 208), (37, zm_n M + 23, 20, 26), (38, zm_n M + 24, 20, 26), (39, zm_n M + 25, 20, 26), (48, zm_n M + 26, 20, 24), (49, zm_n M + 27, 20, 24), (50, zm_n M + 28, 20, 24), (51, zm_n M + 29, 20, 13)] [(31, (-1))] 30 41850 M151 := ix_row h30 eM149 eM151 (by simp)
  refine ix_il fun M154 eM154 => ix_il fun M156 eM156 => ?_
  have h32 : ix 12 a0 M [(1, zm_n M + 0, 22, 400), (5, zm_n M + 1, 20, 7200), (6, zm_n M + 2, 20, 7200), (7, zm_n M + 3, 20, 40), (8, zm_n M + 4, 20, 40), (9, zm_n M + 5, 20, 192), (10, zm_n M + 6, 20, 192), (11, zm_n M + 7, 20, 256), (12, zm_n M + 8, 20, 256), (13, zm_n M + 9, 20, 32), (14, zm_n M + 10, 20, 32), (18, zm_n M + 11, 20, 240), (19, zm_n M + 12, 20, 240), (22, zm_n M + 13, 20, 128), (23, zm_n M + 14, 20, 128), (24, zm_n M + 15, 20, 128), (25, zm_n M + 16, 20, 128), (27, zm_n M + 17, 22, 12000), (29, zm_n M + 18, 20, 320), (30, zm_n M + 19, 20, 320), (32, zm_n M + 20, 20, 7), (33, zm_n M + 21, 22, 12000), (34, zm_n M + 22, 20, 208), (37, zm_n M + 23, 20, 26), (38, zm_n M + 24, 20, 26), (39, zm_n M + 25, 20, 26), (48, zm_n M + 26, 20, 24), (49, zm_n M + 27, 20, 24), (50, zm_n M + 28, 20, 24), (51, zm_n M + 29, 20, 13), (52, zm_n M + 30, 20, 26)] [(31, (-1))] 31 41876 M156 := ix_row h31 eM154 eM156 (by simp)
  refine ix_il fun M159 eM159 => ix_il fun M161 eM161 => ?_
  have h33 : ix 12 a0 M [(1, zm_n M + 0, 22, 400), (5, zm_n M + 1, 20, 7200), (6, zm_n M + 2, 20, 7200), (7, zm_n M + 3, 20, 40), (8, zm_n M + 4, 20, 40), (9, zm_n M + 5, 20, 192), (10, zm_n M + 6, 20, 192), (11, zm_n M + 7, 20, 256), (12, zm_n M + 8, 20, 256), (13, zm_n M + 9, 20, 32), (14, zm_n M + 10, 20, 32), (18, zm_n M + 11, 20, 240), (19, zm_n M + 12, 20, 240), (22, zm_n M + 13, 20, 128), (23, zm_n M + 14, 20, 128), (24, zm_n M + 15, 20, 128), (25, zm_n M + 16, 20, 128), (27, zm_n M + 17, 22, 12000), (29, zm_n M + 18, 20, 320), (30, zm_n M + 19, 20, 320), (32, zm_n M + 20, 20, 7), (33, zm_n M + 21, 22, 12000), (34, zm_n M + 22, 20, 208), (37, zm_n M + 23, 20, 26), (38, zm_n M + 24, 20, 26), (39, zm_n M + 25, 20, 26), (48, zm_n M + 26, 20, 24), (49, zm_n M + 27, 20, 24), (50, zm_n M + 28, 20, 24), (51, zm_n M + 29, 20, 13), (52, zm_n M + 30, 20, 26), (56, zm_n M + 31, 20, 4)] [(31, (-1))] 32 41880 M161 := ix_row h32 eM159 eM161 (by simp)
  refine ix_il fun M164 eM164 => ix_il fun M166 eM166 => ?_
  have h34 : ix 12 a0 M [(1, zm_n M + 0, 22, 400), (5, zm_n M + 1, 20, 7200), (6, zm_n M + 2, 20, 7200), (7, zm_n M + 3, 20, 40), (8, zm_n M + 4, 20, 40), (9, zm_n M + 5, 20, 192), (10, zm_n M + 6, 20, 192), (11, zm_n M + 7, 20, 256), (12, zm_n M + 8, 20, 256), (13, zm_n M + 9, 20, 32), (14, zm_n M + 10, 20, 32), (18, zm_n M + 11, 20, 240), (19, zm_n M + 12, 20, 240), (22, zm_n M + 13, 20, 128), (23, zm_n M + 14, 20, 128), (24, zm_n M + 15, 20, 128), (25, zm_n M + 16, 20, 128), (27, zm_n M + 17, 22, 12000), (29, zm_n M + 18, 20, 320), (30, zm_n M + 19, 20, 320), (32, zm_n M + 20, 20, 7), (33, zm_n M + 21, 22, 12000), (34, zm_n M + 22, 20, 208), (37, zm_n M + 23, 20, 26), (38, zm_n M + 24, 20, 26), (39, zm_n M + 25, 20, 26), (48, zm_n M + 26, 20, 24), (49, zm_n M + 27, 20, 24), (50, zm_n M + 28, 20, 24), (51, zm_n M + 29, 20, 13), (52, zm_n M + 30, 20, 26), (56, zm_n M + 31, 20, 4), (60, zm_n M + 32, 20, 300)] [(31, (-1))] 33 42180 M166 := ix_row h33 eM164 eM166 (by simp)
  refine ⟨M166, rfl, ix_n h34, ix_s h34, ix_zh h34, ?_⟩
  have f1 := ix_at (j := 1) (a := zm_n M + 0) (tg := 22) (len := 400) h34 (by simp)
  rw [show zm_n M + 0 = a0 + 1 by omega] at f1
  have f5 := ix_at (j := 5) (a := zm_n M + 1) (tg := 20) (len := 7200) h34 (by simp)
  rw [show zm_n M + 1 = a0 + 2 by omega] at f5
  have f6 := ix_at (j := 6) (a := zm_n M + 2) (tg := 20) (len := 7200) h34 (by simp)
  rw [show zm_n M + 2 = a0 + 3 by omega] at f6
  have f7 := ix_at (j := 7) (a := zm_n M + 3) (tg := 20) (len := 40) h34 (by simp)
  rw [show zm_n M + 3 = a0 + 4 by omega] at f7
  have f8 := ix_at (j := 8) (a := zm_n M + 4) (tg := 20) (len := 40) h34 (by simp)
  rw [show zm_n M + 4 = a0 + 5 by omega] at f8
  have f9 := ix_at (j := 9) (a := zm_n M + 5) (tg := 20) (len := 192) h34 (by simp)
  rw [show zm_n M + 5 = a0 + 6 by omega] at f9
  have f10 := ix_at (j := 10) (a := zm_n M + 6) (tg := 20) (len := 192) h34 (by simp)
  rw [show zm_n M + 6 = a0 + 7 by omega] at f10
  have f11 := ix_at (j := 11) (a := zm_n M + 7) (tg := 20) (len := 256) h34 (by simp)
  rw [show zm_n M + 7 = a0 + 8 by omega] at f11
  have f12 := ix_at (j := 12) (a := zm_n M + 8) (tg := 20) (len := 256) h34 (by simp)
  rw [show zm_n M + 8 = a0 + 9 by omega] at f12
  have f13 := ix_at (j := 13) (a := zm_n M + 9) (tg := 20) (len := 32) h34 (by simp)
  rw [show zm_n M + 9 = a0 + 10 by omega] at f13
  have f14 := ix_at (j := 14) (a := zm_n M + 10) (tg := 20) (len := 32) h34 (by simp)
  rw [show zm_n M + 10 = a0 + 11 by omega] at f14
  have f18 := ix_at (j := 18) (a := zm_n M + 11) (tg := 20) (len := 240) h34 (by simp)
  rw [show zm_n M + 11 = a0 + 12 by omega] at f18
  have f19 := ix_at (j := 19) (a := zm_n M + 12) (tg := 20) (len := 240) h34 (by simp)
  rw [show zm_n M + 12 = a0 + 13 by omega] at f19
  have f22 := ix_at (j := 22) (a := zm_n M + 13) (tg := 20) (len := 128) h34 (by simp)
  rw [show zm_n M + 13 = a0 + 14 by omega] at f22
  have f23 := ix_at (j := 23) (a := zm_n M + 14) (tg := 20) (len := 128) h34 (by simp)
  rw [show zm_n M + 14 = a0 + 15 by omega] at f23
  have f24 := ix_at (j := 24) (a := zm_n M + 15) (tg := 20) (len := 128) h34 (by simp)
  rw [show zm_n M + 15 = a0 + 16 by omega] at f24
  have f25 := ix_at (j := 25) (a := zm_n M + 16) (tg := 20) (len := 128) h34 (by simp)
  rw [show zm_n M + 16 = a0 + 17 by omega] at f25
  have f27 := ix_at (j := 27) (a := zm_n M + 17) (tg := 22) (len := 12000) h34 (by simp)
  rw [show zm_n M + 17 = a0 + 18 by omega] at f27
  have f29 := ix_at (j := 29) (a := zm_n M + 18) (tg := 20) (len := 320) h34 (by simp)
  rw [show zm_n M + 18 = a0 + 19 by omega] at f29
  have f30 := ix_at (j := 30) (a := zm_n M + 19) (tg := 20) (len := 320) h34 (by simp)
  rw [show zm_n M + 19 = a0 + 20 by omega] at f30
  have f32 := ix_at (j := 32) (a := zm_n M + 20) (tg := 20) (len := 7) h34 (by simp)
  rw [show zm_n M + 20 = a0 + 21 by omega] at f32
  have f33 := ix_at (j := 33) (a := zm_n M + 21) (tg := 22) (len := 12000) h34 (by simp)
  rw [show zm_n M + 21 = a0 + 22 by omega] at f33
  have f34 := ix_at (j := 34) (a := zm_n M + 22) (tg := 20) (len := 208) h34 (by simp)
  rw [show zm_n M + 22 = a0 + 23 by omega] at f34
  have f37 := ix_at (j := 37) (a := zm_n M + 23) (tg := 20) (len := 26) h34 (by simp)
  rw [show zm_n M + 23 = a0 + 24 by omega] at f37
  have f38 := ix_at (j := 38) (a := zm_n M + 24) (tg := 20) (len := 26) h34 (by simp)
  rw [show zm_n M + 24 = a0 + 25 by omega] at f38
  have f39 := ix_at (j := 39) (a := zm_n M + 25) (tg := 20) (len := 26) h34 (by simp)
  rw [show zm_n M + 25 = a0 + 26 by omega] at f39
  have f48 := ix_at (j := 48) (a := zm_n M + 26) (tg := 20) (len := 24) h34 (by simp)
  rw [show zm_n M + 26 = a0 + 27 by omega] at f48
  have f49 := ix_at (j := 49) (a := zm_n M + 27) (tg := 20) (len := 24) h34 (by simp)
  rw [show zm_n M + 27 = a0 + 28 by omega] at f49
  have f50 := ix_at (j := 50) (a := zm_n M + 28) (tg := 20) (len := 24) h34 (by simp)
  rw [show zm_n M + 28 = a0 + 29 by omega] at f50
  have f51 := ix_at (j := 51) (a := zm_n M + 29) (tg := 20) (len := 13) h34 (by simp)
  rw [show zm_n M + 29 = a0 + 30 by omega] at f51
  have f52 := ix_at (j := 52) (a := zm_n M + 30) (tg := 20) (len := 26) h34 (by simp)
  rw [show zm_n M + 30 = a0 + 31 by omega] at f52
  have f56 := ix_at (j := 56) (a := zm_n M + 31) (tg := 20) (len := 4) h34 (by simp)
  rw [show zm_n M + 31 = a0 + 32 by omega] at f56
  have f60 := ix_at (j := 60) (a := zm_n M + 32) (tg := 20) (len := 300) h34 (by simp)
  rw [show zm_n M + 32 = a0 + 33 by omega] at f60
  exact ⟨⟨f1, f5, f6, f7, f8, f9, f10, f11, f12, f13, f14, f18, f19, f22, f23, f24, f25, f27, f29, f30, f32, f33, f34, f37, f38, f39, f48, f49, f50, f51, f52, f56, f60⟩, ix_v h34 (by simp), fun j hj => ix_z h34 (by simp; omega)⟩
end
