/-! THE CLASS: a frame in which references change too; the walk's state -/
def zr (W : Nat → Nat → Nat → Prop) (M M' : zM) : Prop := zm_L M' = zm_L M ∧ zm_K M' = zm_K M ∧ zm_J M' = zm_J M ∧ zm_n M' = zm_n M ∧ zm_s M' = zm_s M ∧ ∀ t k j, ¬ W t k j → zm_I M' t k j = zm_I M t k j ∧ zm_R M' t k j = zm_R M t k j
section
variable {W W' : Nat → Nat → Nat → Prop} {M M' M'' : zM}
theorem zr_refl (W : Nat → Nat → Nat → Prop) (M : zM) : zr W M M := ⟨rfl, rfl, rfl, rfl, rfl, fun _ _ _ _ => ⟨rfl, rfl⟩⟩
theorem zr_trans (h : zr W M M') (h' : zr W M' M'') : zr W M M'' := by
  obtain ⟨a2, a3, a4, a5, a6, a7⟩ := h
  obtain ⟨b2, b3, b4, b5, b6, b7⟩ := h'
  exact ⟨b2.trans a2, b3.trans a3, b4.trans a4, b5.trans a5, b6.trans a6, fun t k j w => ⟨(b7 t k j w).1.trans (a7 t k j w).1, (b7 t k j w).2.trans (a7 t k j w).2⟩⟩
theorem zr_mono (h : zr W M M') (hw : ∀ t k j, W t k j → W' t k j) : zr W' M M' := ⟨h.1, h.2.1, h.2.2.1, h.2.2.2.1, h.2.2.2.2.1, fun t k j w => h.2.2.2.2.2 t k j (fun x => w (hw t k j x))⟩
theorem zr_zf (h : zf W M M') : zr W M M' := ⟨h.2.1, h.2.2.1, h.2.2.2.1, h.2.2.2.2.1, h.2.2.2.2.2.1, fun t k j w => ⟨h.2.2.2.2.2.2 t k j w, by rw [h.1]⟩⟩
theorem zr_setI {t k j : Nat} {v : Int32} (h : W t k j) : zr W M (zm_setI M t k j v) := zr_zf (zf_set h)
theorem zr_setR {t k j : Nat} {v : Option Nat} (h : W t k j) : zr W M (zm_setR M t k j v) := by
  refine ⟨pm_LR _ _ _ _ _, pm_KR _ _ _ _ _, rfl, pm_nR _ _ _ _ _, pm_sR _ _ _ _ _, fun t' k' j' w => ⟨by rw [pm_IR], ?_⟩⟩
  rw [pm_RR]
  refine if_neg ?_
  intro ⟨h1, h2, h3⟩
  subst h1 h2 h3
  exact w h
theorem zr_L (h : zr W M M') : zm_L M' = zm_L M := h.1
theorem zr_n (h : zr W M M') : zm_n M' = zm_n M := h.2.2.2.1
theorem zr_I (h : zr W M M') {t k j : Nat} (w : ¬ W t k j) : zm_I M' t k j = zm_I M t k j := (h.2.2.2.2.2 t k j w).1
theorem zr_R (h : zr W M M') {t k j : Nat} (w : ¬ W t k j) : zm_R M' t k j = zm_R M t k j := (h.2.2.2.2.2 t k j w).2
end
section
variable {M M' : zM} {pa : Nat → Nat} {P : yP} {d wk Q : Nat} {W : Nat → Nat → Nat → Prop}
theorem ru_zr (h : cw_ru M Q) (hf : zr W M M') (h5 : ∀ j, ¬ W 5 Q j) : cw_ru M' Q := by
  unfold cw_ru
  rw [zr_L hf, zr_R hf (h5 5), zr_R hf (h5 6), zr_R hf (h5 7), zr_R hf (h5 8), zr_R hf (h5 9), zr_R hf (h5 10), zr_R hf (h5 11), zr_R hf (h5 12), zr_R hf (h5 13)]
  exact h
theorem cX_zr (h : cX M pa Q P) (hf : zr W M M') (h3 : ∀ k j, ¬ W 3 k j) (h21 : ∀ k j, ¬ W 21 k j) (h5 : ∀ j, j ≤ 13 → ¬ W 5 Q j) (h24 : ∀ k j, ¬ W 24 k j) (h20 : ∀ i j, i ≤ 9 → ¬ W 20 (Q + i) j) : cX M' pa Q P := by
  obtain ⟨a1, a2, ⟨r1, r2, r3, r4, r5, r6, r7, r8⟩, a4⟩ := h
  have i5 : ∀ j, j ≤ 13 → zm_I M' 5 Q j = zm_I M 5 Q j ∧ zm_R M' 5 Q j = zm_R M 5 Q j := fun j hj => ⟨zr_I hf (h5 j hj), zr_R hf (h5 j hj)⟩
  refine ⟨⟨?_, ?_, a1.2.2⟩, ?_, ⟨⟨?_, ?_⟩, ?_, ?_, ⟨?_, ?_, ?_⟩, ?_, ?_, ?_, ?_⟩, ?_, ?_⟩
  · intro n hn
    rw [zr_I hf (h3 _ _), zr_I hf (h3 _ _), zr_R hf (h3 _ _), zr_R hf (h3 _ _), zr_R hf (h3 _ _), zr_L hf, zr_n hf]
    exact a1.1 n hn
  · intro n a c b hn e
    rw [zr_I hf (h3 _ _), zr_R hf (h3 _ _)]
    exact a1.2.1 n a c b hn e
  · intro m hm
    unfold ca_n
    rw [zr_I hf (h3 _ _), zr_I hf (h3 _ _), zr_I hf (h3 _ _), zr_I hf (h3 _ _), zr_I hf (h3 _ _), zr_I hf (h3 _ _), zr_I hf (h3 _ _)]
    obtain ⟨g1, g2, g3, g4, g5, g6, g7, g8⟩ := a2 m hm
    refine ⟨g1, g2, g3, g4, g5, g6, g7, fun k k1 k2 => ?_⟩
    rw [zr_I hf (h21 _ _)]
    exact g8 k k1 k2
  · unfold cw_ru
    rw [zr_L hf, (i5 5 (by omega)).2, (i5 6 (by omega)).2, (i5 7 (by omega)).2, (i5 8 (by omega)).2, (i5 9 (by omega)).2, (i5 10 (by omega)).2, (i5 11 (by omega)).2, (i5 12 (by omega)).2, (i5 13 (by omega)).2]
    exact r1.1
  · intro c hc
    rw [zr_I hf (h20 5 c (by omega)), zr_I hf (h20 6 c (by omega))]
    exact r1.2 c hc
  · rw [(i5 0 (by omega)).1]; exact r2
  · rw [(i5 1 (by omega)).2]; exact r3
  · rw [(i5 2 (by omega)).1]; exact r4.1
  · rw [(i5 3 (by omega)).1]; exact r4.2.1
  · rw [(i5 4 (by omega)).1]; exact r4.2.2
  · intro o ho
    rw [zr_I hf (h20 1 o (by omega)), zr_R hf (h24 _ _)]
    exact r5 o ho
  · intro c hc
    rw [zr_R hf (h24 _ _)]
    exact r6 c hc
  · intro c hc
    rw [zr_R hf (h24 _ _)]
    exact r7 c hc
  · rw [zr_n hf]; exact r8
  · intro c hc
    rw [zr_I hf (h20 7 c (by omega))]
    exact a4.1 c hc
  · intro o ho
    rw [zr_I hf (h20 3 o (by omega)), zr_I hf (h20 4 o (by omega))]
    exact a4.2 o ho
end
/-- the walk's rows -/
def wk_l (M : zM) (wk : Nat) : Prop := (zm_R M 8 wk 3 = some (wk + 11) ∧ zm_L M 20 (wk + 11) = 8) ∧ (zm_R M 8 wk 4 = some (wk + 12) ∧ zm_L M 20 (wk + 12) = 4)
/-- a walk on a rule: only what is around the last occurrence counts -/
def wk_x (M : zM) (pa : Nat → Nat) (Q : Nat) (P : yP) (wk : Nat) (s : yS) : Prop := cX M pa Q P ∧ wk_l M wk ∧ zm_R M 8 wk 0 = some Q ∧ Q + 10 ≤ wk ∧ zm_I M 8 wk 1 = zo s.1 ∧ (∀ o, s.1 = some o → (∀ c, c < py_nc P → py_wi P (py_cn P c) (py_lf P o) = true → zm_I M 20 (wk + 11) c = nI (s.2.1 c)) ∧ (∀ a, a < py_na P → py_wi P (py_an P a) (py_lf P o) = true → zm_I M 20 (wk + 12) a = s.2.2 a))
/-- a walk in order -/
def wk_v (P : yP) (s : yS) : Prop := ∀ o, s.1 = some o → o < py_nl P ∧ (∀ c, c < py_nc P → py_wi P (py_cn P c) (py_lf P o) = true → 1 ≤ s.2.1 c ∧ s.2.1 c ≤ 900) ∧ (∀ k n, py_dm P k → py_up P k = some n → py_wi P k (py_lf P o) = true → py_kd P n = 4 → zbt (s.2.2 (py_nb P n)) (py_bf (py_ks P n) k).length = true)
def wk_hit (M : zM) (pa : Nat → Nat) (wk : Nat) (h : Option yW) : Prop := match h with
  | none => zm_I M 8 wk 5 = -1
  | some W => zm_I M 8 wk 5 = nI W.1 ∧ zm_I M 8 wk 6 = zo W.2.1 ∧ zm_R M 8 wk 7 = W.2.2.1.map pa
def wh_W (wk t k j : Nat) : Prop := t = 8 ∧ k = wk ∧ 5 ≤ j ∧ j ≤ 7
section
variable {M M' : zM} {pa : Nat → Nat} {P : yP} {d wk Q : Nat} {s : yS}
theorem wx_wh (h : wk_x M pa Q P wk s) (hf : zr (wh_W wk) M M') : wk_x M' pa Q P wk s := by
  have hq := h.2.2.2.1
  have n8 : ∀ t k j, t ≠ 8 → ¬ wh_W wk t k j := fun t k j ht x => ht x.1
  have n4 : ∀ j, j ≤ 4 → ¬ wh_W wk 8 wk j := fun j hj x => by have := x.2.2.1; omega
  refine ⟨cX_zr h.1 hf (fun k j => n8 _ _ _ (by decide)) (fun k j => n8 _ _ _ (by decide)) (fun j _ => n8 _ _ _ (by decide)) (fun k j => n8 _ _ _ (by decide)) (fun i j _ => n8 _ _ _ (by decide)), ?_, ?_, hq, ?_, ?_⟩
  · unfold wk_l
    rw [zr_L hf, zr_R hf (n4 3 (by omega)), zr_R hf (n4 4 (by omega))]
    exact h.2.1
  · rw [zr_R hf (n4 0 (by omega))]; exact h.2.2.1
  · rw [zr_I hf (n4 1 (by omega))]; exact h.2.2.2.2.1
  · intro o ho
    obtain ⟨g1, g2⟩ := h.2.2.2.2.2 o ho
    refine ⟨fun c hc hw => ?_, fun a ha hw => ?_⟩
    · rw [zr_I hf (n8 _ _ _ (by decide))]; exact g1 c hc hw
    · rw [zr_I hf (n8 _ _ _ (by decide))]; exact g2 a ha hw
/-- the ways that one can go -/
def py_avs (P : yP) (s : yS) : List yW := (py_ways P s.1).filter (py_cg P s)
def py_ava (P : yP) (s : yS) (x : Nat) : List yW := (py_wl P x).filter (fun W => match W.2.2.1 with
  | none => true
  | some a => py_bl P s a x && py_gt P s a W.2.2.2)
/-- those of one level -/
def py_avl (P : yP) (s : yS) (k : Nat) : List yW := (py_lv P k).filter (fun W => match W.2.2.1 with
  | none => true
  | some a => py_gt P s a W.2.2.2)
theorem ava_rt (hP : py_ok P) : py_ava P s (py_rt P) = [] := by
  unfold py_ava
  rw [wl_rt hP]
  rfl
theorem ava_up (hP : py_ok P) {x p : Nat} (hx : py_dm P x) (e : py_up P x = some p) : py_ava P s x = py_avl P s x ++ (if py_pst P x && py_cl P s p then py_ava P s p else []) := by
  unfold py_ava py_avl
  rw [wl_up hP hx e, List.filter_append]
  congr 1
  · refine List.filter_congr ?_
    intro W hW
    have hat := (lv_what hP hx e hW).1
    rw [hat]
    simp only
    rw [bl_up hP hx e]
    simp
  · cases hps : py_pst P x
    · simp
    · simp only [if_true, Bool.true_and]
      have hc : ∀ W, W ∈ py_wl P p → (match W.2.2.1 with
          | none => true
          | some a => py_bl P s a x && py_gt P s a W.2.2.2) = (py_cl P s p && (match W.2.2.1 with
          | none => true
          | some a => py_bl P s a p && py_gt P s a W.2.2.2)) := by
        intro W hW
        obtain ⟨_, a, ha, had, _, _, hlt, _⟩ := wl_wk hP p (ok_pdm hP hx e) W hW
        rw [ha]
        simp only
        have hne : (p == a) = false := by
          have : p ≠ a := fun y => by rw [y] at hlt; omega
          simpa using this
        rw [bl_up hP hx e, hne, Bool.false_or, Bool.and_assoc]
      rw [List.filter_congr hc]
      cases hcl : py_cl P s p
      · simp
      · simp
theorem avs_eq (hP : py_ok P) {o : Nat} (ho : o < py_nl P) (hs : s.1 = some o) : py_avs P s = py_ava P s (py_lf P o) := by
  unfold py_avs py_ava
  rw [hs]
  show (py_wl P (py_lf P o)).filter (py_cg P s) = _
  refine List.filter_congr ?_
  intro W hW
  unfold py_cg
  rw [hs]
  rfl
theorem ce_up (hP : py_ok P) {x p : Nat} (hx : py_dm P x) (e : py_up P x = some p) : (py_lx P x && py_be P s x) = ((py_pst P x && py_cl P s p) && (py_lx P p && py_be P s p)) := by
  have h1 : py_lx P x = (py_pst P x && py_lx P p) := by
    unfold py_lx
    rw [ur_up hP hx e]
    rfl
  have h2 : py_be P s x = (py_cl P s p && py_be P s p) := by
    unfold py_be
    rw [ur_up hP hx e, e]
    rfl
  rw [h1, h2]
  cases py_pst P x <;> cases py_cl P s p <;> simp
theorem ce_rt (hP : py_ok P) : (py_lx P (py_rt P) && py_be P s (py_rt P)) = true := by
  have h1 : py_lx P (py_rt P) = true := by
    unfold py_lx
    rw [ur_rt hP]
    unfold py_pst
    rw [ok_up0 hP]
    rfl
  have h2 : py_be P s (py_rt P) = true := by
    unfold py_be
    rw [ur_rt hP, ok_up0 hP]
  rw [h1, h2]
  rfl
end
