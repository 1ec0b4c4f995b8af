/-! THE CLASS: what may change, and what stays -/
def zh (W : Nat → Nat → Nat → Prop) (M M' : zM) : Prop := zm_n M ≤ zm_n M' ∧ (∀ t k, k < zm_n M → zm_L M' t k = zm_L M t k) ∧ (∀ t k j, k < zm_n M → zm_J M' t k j = zm_J M t k j) ∧ (∀ t k j, k < zm_n M → ¬ W t k j → zm_I M' t k j = zm_I M t k j ∧ zm_R M' t k j = zm_R M t k j)
theorem zh_refl (W : Nat → Nat → Nat → Prop) (M : zM) : zh W M M := ⟨Nat.le_refl _, fun _ _ _ => rfl, fun _ _ _ _ => rfl, fun _ _ _ _ _ => ⟨rfl, rfl⟩⟩
theorem zh_trans {W : Nat → Nat → Nat → Prop} {M M' M'' : zM} (h : zh W M M') (h' : zh W M' M'') : zh W M M'' := by
  obtain ⟨a1, a2, a3, a4⟩ := h
  obtain ⟨b1, b2, b3, b4⟩ := h'
  refine ⟨Nat.le_trans a1 b1, fun t k hk => (b2 t k (by omega)).trans (a2 t k hk), fun t k j hk => (b3 t k j (by omega)).trans (a3 t k j hk), fun t k j hk w => ?_⟩
  have g := b4 t k j (by omega) w
  have g' := a4 t k j hk w
  exact ⟨g.1.trans g'.1, g.2.trans g'.2⟩
theorem zh_mono {W W' : Nat → Nat → Nat → Prop} {M M' : zM} (h : zh W M M') (hw : ∀ t k j, k < zm_n M → W t k j → W' t k j) : zh W' M M' := by
  obtain ⟨a1, a2, a3, a4⟩ := h
  exact ⟨a1, a2, a3, fun t k j hk w => a4 t k j hk (fun x => w (hw t k j hk x))⟩
theorem zh_setI {W : Nat → Nat → Nat → Prop} {M : zM} {t k j : Nat} {v : Int32} (h : W t k j) : zh W M (zm_setI M t k j v) := by
  refine ⟨Nat.le_refl _, fun _ _ _ => rfl, fun _ _ _ _ => rfl, fun t' k' j' _ w => ⟨?_, rfl⟩⟩
  rw [pm_II]
  refine if_neg ?_
  intro ⟨h1, h2, h3⟩
  subst h1 h2 h3
  exact w h
theorem zh_setR {W : Nat → Nat → Nat → Prop} {M : zM} {t k j : Nat} {v : Option Nat} (h : W t k j) : zh W M (zm_setR M t k j v) := by
  refine ⟨Nat.le_refl _, fun _ _ _ => rfl, fun _ _ _ _ => rfl, fun t' k' j' _ w => ⟨rfl, ?_⟩⟩
  rw [pm_RR]
  refine if_neg ?_
  intro ⟨h1, h2, h3⟩
  subst h1 h2 h3
  exact w h
theorem pn_n (M : zM) (t len sl : Nat) : zm_n (zm_new M t len sl) = zm_n M + 1 := Eq.trans rfl rfl
theorem pn_s (M : zM) (t len sl : Nat) : zm_s (zm_new M t len sl) = zm_s M + sl := Eq.trans rfl rfl
theorem pn_L (M : zM) (t len sl t' k : Nat) : zm_L (zm_new M t len sl) t' k = if t' = t ∧ k = zm_n M then len else zm_L M t' k := Eq.trans rfl rfl
theorem pn_I (M : zM) (t len sl t' k j : Nat) : zm_I (zm_new M t len sl) t' k j = if t' = t ∧ k = zm_n M then 0 else zm_I M t' k j := Eq.trans rfl rfl
theorem pn_R (M : zM) (t len sl t' k j : Nat) : zm_R (zm_new M t len sl) t' k j = if t' = t ∧ k = zm_n M then none else zm_R M t' k j := Eq.trans rfl rfl
theorem pn_J (M : zM) (t len sl t' k j : Nat) : zm_J (zm_new M t len sl) t' k j = if t' = t ∧ k = zm_n M then 0 else zm_J M t' k j := Eq.trans rfl rfl
theorem pr_same {t k j : Nat} {M : zM} {v : Option Nat} : zm_R (zm_setR M t k j v) t k j = v := by rw [pm_RR]; exact if_pos ⟨rfl, rfl, rfl⟩
theorem pr_ne {t k j t' k' j' : Nat} {M : zM} {v : Option Nat} (h : t' ≠ t ∨ k' ≠ k ∨ j' ≠ j) : zm_R (zm_setR M t k j v) t' k' j' = zm_R M t' k' j' := by
  rw [pm_RR]
  refine if_neg ?_
  intro ⟨h1, h2, h3⟩
  rcases h with h | h | h
  · exact h h1
  · exact h h2
  · exact h h3
theorem pr_II (M : zM) (t k j : Nat) (v : Option Nat) : zm_n (zm_setR M t k j v) = zm_n M := Eq.trans rfl rfl
theorem zh_new (W : Nat → Nat → Nat → Prop) (M : zM) (t len sl : Nat) : zh W M (zm_new M t len sl) := by
  refine ⟨Nat.le_succ _, ?_, ?_, ?_⟩
  · intro t' k hk
    rw [pn_L]
    exact if_neg (fun h => by omega)
  · intro t' k j hk
    rw [pn_J]
    exact if_neg (fun h => by omega)
  · intro t' k j hk _
    rw [pn_I, pn_R]
    exact ⟨if_neg (fun h => by omega), if_neg (fun h => by omega)⟩
theorem zh_zf {W : Nat → Nat → Nat → Prop} {M M' : zM} (h : zf W M M') : zh W M M' := by
  obtain ⟨a1, a2, a3, a4, a5, a6, a7⟩ := h
  exact ⟨by rw [a5]; exact Nat.le_refl _, fun t k _ => by rw [a2], fun t k j _ => by rw [a4], fun t k j _ w => ⟨a7 t k j w, by rw [a1]⟩⟩
theorem zh_n {W : Nat → Nat → Nat → Prop} {M M' : zM} (h : zh W M M') : zm_n M ≤ zm_n M' := h.1
theorem zh_L {W : Nat → Nat → Nat → Prop} {M M' : zM} (h : zh W M M') {t k : Nat} (hk : k < zm_n M) : zm_L M' t k = zm_L M t k := h.2.1 t k hk
theorem zh_I {W : Nat → Nat → Nat → Prop} {M M' : zM} (h : zh W M M') {t k j : Nat} (hk : k < zm_n M) (w : ¬ W t k j) : zm_I M' t k j = zm_I M t k j := (h.2.2.2 t k j hk w).1
theorem zh_R {W : Nat → Nat → Nat → Prop} {M M' : zM} (h : zh W M M') {t k j : Nat} (hk : k < zm_n M) (w : ¬ W t k j) : zm_R M' t k j = zm_R M t k j := (h.2.2.2 t k j hk w).2
/-! the layout of a rule, of a set of rules -/
def cw_ru (M : zM) (q : Nat) : Prop := (zm_R M 5 q 5 = some (q + 1) ∧ zm_L M 20 (q + 1) = 16) ∧ (zm_R M 5 q 6 = some (q + 2) ∧ zm_L M 24 (q + 2) = 16) ∧ (zm_R M 5 q 7 = some (q + 3) ∧ zm_L M 20 (q + 3) = 16) ∧ (zm_R M 5 q 8 = some (q + 4) ∧ zm_L M 20 (q + 4) = 16) ∧ (zm_R M 5 q 9 = some (q + 5) ∧ zm_L M 20 (q + 5) = 8) ∧ (zm_R M 5 q 10 = some (q + 6) ∧ zm_L M 20 (q + 6) = 8) ∧ (zm_R M 5 q 11 = some (q + 7) ∧ zm_L M 20 (q + 7) = 8) ∧ (zm_R M 5 q 12 = some (q + 8) ∧ zm_L M 24 (q + 8) = 8) ∧ (zm_R M 5 q 13 = some (q + 9) ∧ zm_L M 24 (q + 9) = 4)
def cw_rs (M : zM) (b : Nat) : Prop := (zm_R M 6 b 0 = some (b + 1) ∧ zm_L M 25 (b + 1) = 8) ∧ (zm_R M 6 b 2 = some (b + 82) ∧ zm_L M 24 (b + 82) = 400) ∧ (∀ i, i < 8 → zm_R M 25 (b + 1) i = some (b + 2 + 10 * i) ∧ cw_ru M (b + 2 + 10 * i)) ∧ b + 84 ≤ zm_n M
theorem cw_ru_zh {W : Nat → Nat → Nat → Prop} {M M' : zM} {q : Nat} (h : cw_ru M q) (hf : zh W M M') (hq : q + 10 ≤ zm_n M) (hw : ∀ j, 5 ≤ j → j ≤ 13 → ¬ W 5 q j) : cw_ru M' q := by
  unfold cw_ru
  rw [zh_R hf (by omega) (hw 5 (by omega) (by omega)), zh_R hf (by omega) (hw 6 (by omega) (by omega)), zh_R hf (by omega) (hw 7 (by omega) (by omega)), zh_R hf (by omega) (hw 8 (by omega) (by omega)), zh_R hf (by omega) (hw 9 (by omega) (by omega)), zh_R hf (by omega) (hw 10 (by omega) (by omega)), zh_R hf (by omega) (hw 11 (by omega) (by omega)), zh_R hf (by omega) (hw 12 (by omega) (by omega)), zh_R hf (by omega) (hw 13 (by omega) (by omega))]
  rw [zh_L hf (by omega), zh_L hf (by omega), zh_L hf (by omega), zh_L hf (by omega), zh_L hf (by omega), zh_L hf (by omega), zh_L hf (by omega), zh_L hf (by omega), zh_L hf (by omega)]
  exact h
theorem cw_rs_zh {W : Nat → Nat → Nat → Prop} {M M' : zM} {b : Nat} (h : cw_rs M b) (hf : zh W M M') (hw5 : ∀ i j, i < 8 → 5 ≤ j → j ≤ 13 → ¬ W 5 (b + 2 + 10 * i) j) (hw6 : ¬ W 6 b 0 ∧ ¬ W 6 b 2) (hw25 : ∀ i, i < 8 → ¬ W 25 (b + 1) i) : cw_rs M' b := by
  obtain ⟨⟨h1, h2⟩, ⟨h3, h4⟩, h5, h6⟩ := h
  refine ⟨⟨?_, ?_⟩, ⟨?_, ?_⟩, ?_, Nat.le_trans h6 hf.1⟩
  · rw [zh_R hf (by omega) hw6.1]; exact h1
  · rw [zh_L hf (by omega)]; exact h2
  · rw [zh_R hf (by omega) hw6.2]; exact h3
  · rw [zh_L hf (by omega)]; exact h4
  · intro i hi
    obtain ⟨g1, g2⟩ := h5 i hi
    refine ⟨?_, cw_ru_zh g2 hf (by omega) (fun j a b => hw5 i j hi a b)⟩
    rw [zh_R hf (by omega) (hw25 i hi)]
    exact g1
/-! the parser's state -/
def ck (k : Nat) : Nat := if k = 4 then 5 else if k = 5 then 4 else k
def cn_n (M : zM) (pa : Nat → Nat) (X : Nat → yX) (N n : Nat) : Prop := zm_I M 3 (pa n) 0 = nI (ck (X n).1) ∧ ((X n).1 = 0 ∨ (X n).1 = 4 ∨ (X n).1 = 5 → zm_I M 3 (pa n) 1 = nI (X n).2.1) ∧ zm_I M 3 (pa n) 3 = nI (X n).2.2.2.2 ∧ zm_R M 3 (pa n) 4 = (X n).2.2.1.map pa ∧ zm_R M 3 (pa n) 5 = (X n).2.2.2.1.head?.map pa ∧ zm_R M 3 (pa n) 6 = (X n).2.2.2.1.getLast?.map pa ∧ (∀ (i c : Nat), (X n).2.2.2.1[i]? = some c → c < N ∧ zm_R M 3 (pa c) 7 = ((X n).2.2.2.1[i + 1]?).map pa ∧ zm_I M 3 (pa c) 2 = nI i ∧ (X c).2.2.1 = some n) ∧ ((X n).2.2.1 = none → zm_R M 3 (pa n) 7 = none ∧ zm_I M 3 (pa n) 2 = 0) ∧ (∀ p, (X n).2.2.1 = some p → p < N)
def cp_x (M : zM) (b : Nat) (pa : Nat → Nat) (pn : Nat) : Prop := pn ≤ 400 ∧ (∀ j, j < pn → zm_R M 24 (b + 82) j = some (pa j) ∧ pa j + 1 < zm_n M ∧ zm_R M 3 (pa j) 15 = some (pa j + 1) ∧ zm_L M 21 (pa j + 1) = 5) ∧ (∀ j, pn ≤ j → j < 400 → zm_R M 24 (b + 82) j = none) ∧ (∀ i j, i < pn → j < pn → pa i = pa j → i = j)
def ct_x (M : zM) (ac : Nat) (T : List Nat) : Prop := zm_L M 20 (ac + 1) = 400 ∧ ac + 2 ≤ zm_n M ∧ ∀ (i x : Nat), T[i]? = some x → zm_I M 20 (ac + 1) i = nI x
def cb_x (ac b : Nat) (M : zM) (T : List Nat) (r : Nat) (pa : Nat → Nat) (pn : Nat) : Prop := cw_rs M b ∧ ct_x M ac T ∧ cp_x M b pa pn ∧ (zm_R M 6 b 4 = some (ac + 1) ∧ zm_I M 6 b 5 = nI T.length ∧ zm_R M 6 b 8 = some (b + 2 + 10 * r) ∧ ac + 1 < b ∧ r < 8)
def cq_p (b : Nat) (M : zM) (T : List Nat) (bs : List Nat) (p : Nat) : Prop := zm_I M 6 b 6 = nI p ∧ ∃ a, T = a ++ bs ∧ a.length = p
def cq_n (b : Nat) (M : zM) (pa : Nat → Nat) (pn N : Nat) (X : Nat → yX) : Prop := N ≤ pn ∧ zm_I M 6 b 3 = nI N ∧ ∀ n, n < N → cn_n M pa X N n
def cq_c (Q : Nat) (M : zM) (l c a : Nat) : Prop := zm_I M 5 Q 2 = nI l ∧ zm_I M 5 Q 3 = nI c ∧ zm_I M 5 Q 4 = nI a
def cq_L (Q : Nat) (M : zM) (pa : Nat → Nat) (L : List (Nat × Nat)) : Prop := ∀ (i : Nat) (x : Nat × Nat), L[i]? = some x → zm_I M 20 (Q + 1) i = nI x.1 ∧ zm_R M 24 (Q + 2) i = some (pa x.2)
def cq_C (Q : Nat) (M : zM) (pa : Nat → Nat) (C : List (Nat × Option Nat × Nat)) : Prop := ∀ (i : Nat) (x : Nat × Option Nat × Nat), C[i]? = some x → zm_I M 20 (Q + 5) i = nI x.1 ∧ zm_I M 20 (Q + 6) i = zo x.2.1 ∧ zm_R M 24 (Q + 8) i = some (pa x.2.2)
def cq_A (Q : Nat) (M : zM) (pa : Nat → Nat) (A : List Nat) : Prop := ∀ (i x : Nat), A[i]? = some x → zm_R M 24 (Q + 9) i = some (pa x)
def cs_x (ac b : Nat) (M : zM) (T : List Nat) (r : Nat) (pa : Nat → Nat) (pn : Nat) (q : yQp) : Prop := cb_x ac b M T r pa pn ∧ cq_p b M T q.1 q.2.1 ∧ cq_n b M pa pn q.2.2.1 q.2.2.2.1 ∧ cq_c (b + 2 + 10 * r) M q.2.2.2.2.1.length q.2.2.2.2.2.1.length q.2.2.2.2.2.2.length ∧ cq_L (b + 2 + 10 * r) M pa q.2.2.2.2.1 ∧ cq_C (b + 2 + 10 * r) M pa q.2.2.2.2.2.1 ∧ cq_A (b + 2 + 10 * r) M pa q.2.2.2.2.2.2
/-- what reading rule r may change -/
def cf_W (b r : Nat) (pa : Nat → Nat) (pn : Nat) (t k j : Nat) : Prop := (t = 3 ∧ j ≤ 7 ∧ ∃ i, i < pn ∧ k = pa i) ∨ (t = 24 ∧ k = b + 82) ∨ (t = 6 ∧ k = b ∧ (j = 3 ∨ j = 6 ∨ j = 7)) ∨ (t = 5 ∧ k = b + 2 + 10 * r ∧ 2 ≤ j ∧ j ≤ 4) ∨ (t = 20 ∧ (k = b + 2 + 10 * r + 1 ∨ k = b + 2 + 10 * r + 5 ∨ k = b + 2 + 10 * r + 6)) ∨ (t = 24 ∧ (k = b + 2 + 10 * r + 2 ∨ k = b + 2 + 10 * r + 8 ∨ k = b + 2 + 10 * r + 9))
theorem cf_mono {b r : Nat} {pa pa' : Nat → Nat} {pn pn' : Nat} (h : pn ≤ pn') (e : ∀ j, j < pn → pa' j = pa j) : ∀ t k j, cf_W b r pa pn t k j → cf_W b r pa' pn' t k j := by
  intro t k j w
  rcases w with ⟨w1, w2, i, w3, w4⟩ | w
  · exact .inl ⟨w1, w2, i, by omega, by rw [e i w3]; exact w4⟩
  · exact .inr w
theorem cw_rs_cf {b r : Nat} {pa : Nat → Nat} {pn : Nat} {M M' : zM} (h : cw_rs M b) (hf : zh (cf_W b r pa pn) M M') : cw_rs M' b := by
  refine cw_rs_zh h hf ?_ ⟨?_, ?_⟩ ?_
  · intro i j _ h1 h2 w
    rcases w with w | w | w | w | w | w <;> omega
  · intro w
    rcases w with w | w | w | w | w | w <;> omega
  · intro w
    rcases w with w | w | w | w | w | w <;> omega
  · intro i _ w
    rcases w with w | w | w | w | w | w <;> omega
/-- the pool grew -/
def ce_x (M : zM) (pa : Nat → Nat) (pn : Nat) (M' : zM) (pa' : Nat → Nat) (pn' : Nat) : Prop := pn ≤ pn' ∧ (∀ j, j < pn → pa' j = pa j) ∧ zm_n M' + 2 * pn = zm_n M + 2 * pn' ∧ zm_s M' + 21 * pn = zm_s M + 21 * pn' ∧ (∀ j, pn ≤ j → j < pn' → zm_n M ≤ pa' j)
theorem ce_refl (M : zM) (pa : Nat → Nat) (pn : Nat) : ce_x M pa pn M pa pn := ⟨Nat.le_refl _, fun _ _ => rfl, rfl, rfl, fun j h1 h2 => by omega⟩
theorem ce_trans {M M' M'' : zM} {pa pa' pa'' : Nat → Nat} {pn pn' pn'' : Nat} (h : ce_x M pa pn M' pa' pn') (h' : ce_x M' pa' pn' M'' pa'' pn'') : ce_x M pa pn M'' pa'' pn'' := by
  obtain ⟨a1, a2, a3, a4, a5⟩ := h
  obtain ⟨b1, b2, b3, b4, b5⟩ := h'
  refine ⟨by omega, fun j hj => (b2 j (by omega)).trans (a2 j hj), by omega, by omega, ?_⟩
  intro j h1 h2
  by_cases e : j < pn'
  · rw [b2 j e]; exact a5 j h1 e
  · have := b5 j (by omega) h2
    omega
theorem ce_set {M M' : zM} {pa : Nat → Nat} {pn : Nat} (h1 : zm_n M' = zm_n M) (h2 : zm_s M' = zm_s M) : ce_x M pa pn M' pa pn := ⟨Nat.le_refl _, fun _ _ => rfl, by omega, by omega, fun j h1 h2 => by omega⟩
/-! what an operation leaves alone -/
section
variable {W : Nat → Nat → Nat → Prop} {M M' : zM} {ac b r pn : Nat} {pa : Nat → Nat} {T : List Nat}
theorem ct_zh (h : ct_x M ac T) (hf : zh W M M') (hw : ∀ j, ¬ W 20 (ac + 1) j) : ct_x M' ac T := by
  obtain ⟨h1, h2, h3⟩ := h
  refine ⟨by rw [zh_L hf (by omega)]; exact h1, Nat.le_trans h2 hf.1, ?_⟩
  intro i x hx
  rw [zh_I hf (by omega) (hw i)]
  exact h3 i x hx
theorem cp_zh (h : cp_x M b pa pn) (hf : zh W M M') (hb : b + 82 < zm_n M) (hw : ∀ j, ¬ W 24 (b + 82) j) (hw3 : ∀ k, ¬ W 3 k 15) : cp_x M' b pa pn := by
  obtain ⟨h1, h2, h3, h4⟩ := h
  refine ⟨h1, ?_, ?_, h4⟩
  · intro j hj
    obtain ⟨g1, g2, g3, g4⟩ := h2 j hj
    refine ⟨?_, Nat.lt_of_lt_of_le g2 hf.1, ?_, ?_⟩
    · rw [zh_R hf hb (hw j)]; exact g1
    · rw [zh_R hf (by omega) (hw3 _)]; exact g3
    · rw [zh_L hf (by omega)]; exact g4
  · intro j h5 h6
    rw [zh_R hf hb (hw j)]
    exact h3 j h5 h6
def cb_V (b ac t k j : Nat) : Prop := (t = 20 ∧ k = ac + 1) ∨ (t = 6 ∧ k = b ∧ (j = 0 ∨ j = 2 ∨ j = 4 ∨ j = 5 ∨ j = 8)) ∨ t = 25 ∨ (t = 5 ∧ 5 ≤ j) ∨ (t = 24 ∧ k = b + 82) ∨ (t = 3 ∧ j = 15)
theorem cb_zh (h : cb_x ac b M T r pa pn) (hf : zh W M M') (hw : ∀ t k j, cb_V b ac t k j → ¬ W t k j) : cb_x ac b M' T r pa pn := by
  obtain ⟨h1, h2, h3, h4, h5, h6, h7⟩ := h
  have hb := h1.2.2.2
  refine ⟨cw_rs_zh h1 hf ?_ ⟨?_, ?_⟩ ?_, ct_zh h2 hf ?_, cp_zh h3 hf (by omega) ?_ ?_, ?_, ?_, ?_, h7⟩
  · intro i j _ h1 h2
    exact hw _ _ _ (.inr (.inr (.inr (.inl ⟨rfl, h1⟩))))
  · exact hw _ _ _ (.inr (.inl ⟨rfl, rfl, by omega⟩))
  · exact hw _ _ _ (.inr (.inl ⟨rfl, rfl, by omega⟩))
  · intro i _
    exact hw _ _ _ (.inr (.inr (.inl rfl)))
  · intro j
    exact hw _ _ _ (.inl ⟨rfl, rfl⟩)
  · intro j
    exact hw _ _ _ (.inr (.inr (.inr (.inr (.inl ⟨rfl, rfl⟩)))))
  · intro j
    exact hw _ _ _ (.inr (.inr (.inr (.inr (.inr ⟨rfl, rfl⟩)))))
  · rw [zh_R hf (by omega) (hw _ _ _ (.inr (.inl ⟨rfl, rfl, by omega⟩)))]; exact h4
  · rw [zh_I hf (by omega) (hw _ _ _ (.inr (.inl ⟨rfl, rfl, by omega⟩)))]; exact h5
  · rw [zh_R hf (by omega) (hw _ _ _ (.inr (.inl ⟨rfl, rfl, by omega⟩)))]; exact h6
theorem cn_zh {N n : Nat} {X : Nat → yX} (h : cn_n M pa X N n) (hf : zh W M M') (hk : ∀ k, k < N → pa k < zm_n M) (hn : n < N) (hw : ∀ k j, k < N → j ≤ 7 → ¬ W 3 (pa k) j) : cn_n M' pa X N n := by
  obtain ⟨h1, h2, h3, h4, h5, h6, h7, h8, h9⟩ := h
  have hkn := hk n hn
  refine ⟨?_, ?_, ?_, ?_, ?_, ?_, ?_, ?_, h9⟩
  · rw [zh_I hf hkn (hw n 0 hn (by omega))]; exact h1
  · intro hh
    rw [zh_I hf hkn (hw n 1 hn (by omega))]; exact h2 hh
  · rw [zh_I hf hkn (hw n 3 hn (by omega))]; exact h3
  · rw [zh_R hf hkn (hw n 4 hn (by omega))]; exact h4
  · rw [zh_R hf hkn (hw n 5 hn (by omega))]; exact h5
  · rw [zh_R hf hkn (hw n 6 hn (by omega))]; exact h6
  · intro i c hc
    obtain ⟨g1, g2, g3, g4⟩ := h7 i c hc
    refine ⟨g1, ?_, ?_, g4⟩
    · rw [zh_R hf (hk c g1) (hw c 7 g1 (by omega))]; exact g2
    · rw [zh_I hf (hk c g1) (hw c 2 g1 (by omega))]; exact g3
  · intro hu
    rw [zh_R hf hkn (hw n 7 hn (by omega)), zh_I hf hkn (hw n 2 hn (by omega))]
    exact h8 hu
theorem cb_pa (h : cb_x ac b M T r pa pn) {k : Nat} (hk : k < pn) : pa k < zm_n M := by
  have := (h.2.2.1.2.1 k hk).2.1
  omega
theorem cb_b (h : cb_x ac b M T r pa pn) : b + 84 ≤ zm_n M := h.1.2.2.2
theorem cb_rs (h : cb_x ac b M T r pa pn) : b + 2 + 10 * r + 10 ≤ zm_n M := by
  have := cb_b h
  have := h.2.2.2.2.2.2.2
  omega
theorem cb_ru (h : cb_x ac b M T r pa pn) : cw_ru M (b + 2 + 10 * r) := (h.1.2.2.1 r h.2.2.2.2.2.2.2).2
theorem cq_n_zh {N : Nat} {X : Nat → yX} (h : cq_n b M pa pn N X) (hb : cb_x ac b M T r pa pn) (hf : zh W M M') (hw : ∀ k j, k < N → j ≤ 7 → ¬ W 3 (pa k) j) (hw6 : ¬ W 6 b 3) : cq_n b M' pa pn N X := by
  obtain ⟨h1, h2, h3⟩ := h
  have := cb_b hb
  refine ⟨h1, by rw [zh_I hf (by omega) hw6]; exact h2, ?_⟩
  intro n hn
  exact cn_zh (h3 n hn) hf (fun k hk => cb_pa hb (by omega)) hn hw
theorem cq_L_zh {Q : Nat} {L : List (Nat × Nat)} (h : cq_L Q M pa L) (hf : zh W M M') (hQ : Q + 10 ≤ zm_n M) (h1 : ∀ j, ¬ W 20 (Q + 1) j) (h2 : ∀ j, ¬ W 24 (Q + 2) j) : cq_L Q M' pa L := by
  intro i x hx
  rw [zh_I hf (by omega) (h1 i), zh_R hf (by omega) (h2 i)]
  exact h i x hx
theorem cq_C_zh {Q : Nat} {C : List (Nat × Option Nat × Nat)} (h : cq_C Q M pa C) (hf : zh W M M') (hQ : Q + 10 ≤ zm_n M) (h1 : ∀ j, ¬ W 20 (Q + 5) j) (h2 : ∀ j, ¬ W 20 (Q + 6) j) (h3 : ∀ j, ¬ W 24 (Q + 8) j) : cq_C Q M' pa C := by
  intro i x hx
  rw [zh_I hf (by omega) (h1 i), zh_I hf (by omega) (h2 i), zh_R hf (by omega) (h3 i)]
  exact h i x hx
theorem cq_A_zh {Q : Nat} {A : List Nat} (h : cq_A Q M pa A) (hf : zh W M M') (hQ : Q + 10 ≤ zm_n M) (h1 : ∀ j, ¬ W 24 (Q + 9) j) : cq_A Q M' pa A := by
  intro i x hx
  rw [zh_R hf (by omega) (h1 i)]
  exact h i x hx
theorem cq_c_zh {Q l c a : Nat} (h : cq_c Q M l c a) (hf : zh W M M') (hQ : Q + 10 ≤ zm_n M) (h1 : ∀ j, ¬ W 5 Q j) : cq_c Q M' l c a := by
  unfold cq_c
  rw [zh_I hf (by omega) (h1 2), zh_I hf (by omega) (h1 3), zh_I hf (by omega) (h1 4)]
  exact h
/-- only places in the set's own cell are changed -/
def c6_W (b t k j : Nat) : Prop := t = 6 ∧ k = b ∧ (j = 6 ∨ j = 7)
theorem cs_at {q : yQp} {bs : List Nat} {p : Nat} (h : cs_x ac b M T r pa pn q) (hf : zf (c6_W b) M M') (hp : cq_p b M' T bs p) : cs_x ac b M' T r pa pn (bs, p, q.2.2) := by
  obtain ⟨h1, h2, h3, h4, h5, h6, h7⟩ := h
  have hz := zh_zf hf
  have hQ := cb_rs h1
  refine ⟨cb_zh h1 hz ?_, hp, cq_n_zh h3 h1 hz ?_ ?_, cq_c_zh h4 hz hQ ?_, cq_L_zh h5 hz hQ ?_ ?_, cq_C_zh h6 hz hQ ?_ ?_ ?_, cq_A_zh h7 hz hQ ?_⟩
  · intro t k j v w
    unfold c6_W at w
    rcases v with v | v | v | v | v | v <;> omega
  all_goals (intros; intro w; unfold c6_W at w; omega)
theorem c6_cf : ∀ t k j, c6_W b t k j → cf_W b r pa pn t k j := fun t k j w => .inr (.inr (.inl ⟨w.1, w.2.1, by have := w.2.2; omega⟩))
theorem c6_ce (hf : zf (c6_W b) M M') : ce_x M pa pn M' pa pn := ce_set hf.2.2.2.2.1 hf.2.2.2.2.2.1
theorem c6_zh (hf : zf (c6_W b) M M') : zh (cf_W b r pa pn) M M' := zh_mono (zh_zf hf) (fun t k j _ w => c6_cf t k j w)
end
