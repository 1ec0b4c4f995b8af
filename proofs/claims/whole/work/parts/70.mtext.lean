/-! THE MODEL's text: letters written, copied, compared -/
def mt_x (am : Nat) (M : zM) (t : List Nat) : Prop := zm_I M 12 am 28 = nI t.length ∧ t.length ≤ 12000 ∧ (∀ i x, t[i]? = some x → zm_I M 22 (am + 18) i = nI x) ∧ (∀ x, x ∈ t → x < 26)
def sh_W (am L pr t k j : Nat) : Prop := (t = 12 ∧ k = am ∧ (j = 28 ∨ j = 31)) ∨ (t = 22 ∧ k = am + 18 ∧ L ≤ j) ∨ (t = 20 ∧ (k = am + 19 ∨ k = am + 20) ∧ 5 * pr ≤ j)
theorem sh_mono {am L L' pr pr' : Nat} (hL : L ≤ L') (hp : pr ≤ pr') : ∀ t k j, sh_W am L' pr' t k j → sh_W am L pr t k j := by
  intro t k j h
  rcases h with h | ⟨h1, h2, h3⟩ | ⟨h1, h2, h3⟩
  · exact .inl h
  · exact .inr (.inl ⟨h1, h2, by omega⟩)
  · exact .inr (.inr ⟨h1, h2, by omega⟩)
theorem sh_mg {am L pr : Nat} : ∀ t k j, sh_W am L pr t k j → mg am [28, 31] [18, 19, 20] t k j := by
  intro t k j h
  rcases h with ⟨h1, h2, h3⟩ | ⟨h1, h2, h3⟩ | ⟨h1, h2, h3⟩
  · refine .inl ⟨h1, h2, ?_⟩
    rcases h3 with h3 | h3 <;> simp [h3]
  · exact .inr ⟨.inr h1, 18, by simp, h2⟩
  · rcases h2 with h2 | h2
    · exact .inr ⟨.inl h1, 19, by simp, h2⟩
    · exact .inr ⟨.inl h1, 20, by simp, h2⟩
theorem byte_26 {x : Nat} (h : x < 26) : (nI x).toInt8.toInt32 = nI x := by
  have key : ∀ x : Fin 26, (nI x.val).toInt8.toInt32 = nI x.val := by decide +kernel
  exact key ⟨x, h⟩
/-- by letters -/
def py_lex : List Nat → List Nat → Bool
  | [], _ => false
  | _ :: _, [] => false
  | x :: a, y :: b => if x = y then py_lex a b else decide (x < y)
def py_ls (a b : List Nat) : Bool := decide (a.length < b.length) || (a.length == b.length && py_lex a b)
def py_ah (a b : List Nat) : Bool := py_lex (a ++ b) (b ++ a)
section
variable {am r d : Nat} {M : zM} {P : yP} {t : List Nat}
theorem mt_zf {W : Nat → Nat → Nat → Prop} {M' : zM} (h : mt_x am M t) (hf : zf W M M') (h1 : ¬ W 12 am 28) (h2 : ∀ j, j < t.length → ¬ W 22 (am + 18) j) : mt_x am M' t := by
  refine ⟨by rw [hf.2.2.2.2.2.2 _ _ _ h1]; exact h.1, h.2.1, ?_, h.2.2.2⟩
  intro i x hx
  have := (List.getElem?_eq_some_iff.mp hx).1
  rw [hf.2.2.2.2.2.2 _ _ _ (h2 i this)]
  exact h.2.2.1 i x hx
theorem mr_writes (hl : ml_ok am M) (h : mt_x am M t) (hlen : t.length < 12000) {x : Nat} (hx : x < 26) (pr : Nat) : ∃ M', mo_writes d am (nI x) M = some M' ∧ mt_x am M' (t ++ [x]) ∧ zf (sh_W am t.length pr) M M' ∧ zm_I M' 12 am 31 = zm_I M 12 am 31 := by
  have hz : z_in (nI t.length) 12000 := nI_in (by omega) (by omega)
  refine ⟨zm_setI (zm_setI M 22 (am + 18) t.length (nI x)) 12 am 28 (nI (t.length + 1)), ?_, ?_, ?_, ?_⟩
  · unfold mo_writes
    simp only [ml_R27 hl, ml_L27 hl, h.1, if_pos hz, nI_clamp (show t.length < 2 ^ 31 by omega), byte_26 hx, zlet, pm_II, nI_1]
    simp [nI_1]
  · refine ⟨by simp [pm_II], by simp; omega, ?_, ?_⟩
    · intro i y hy
      by_cases e : i < t.length
      · rw [List.getElem?_append_left e] at hy
        have h1 := h.2.2.1 i y hy
        have e2 : i ≠ t.length := by omega
        simp [pm_II, e2, h1]
      · have e2 : i = t.length := by
          have := (List.getElem?_eq_some_iff.mp hy).1
          simp at this
          omega
        subst e2
        simp at hy
        subst hy
        simp [pm_II]
    · intro y hy
      rcases List.mem_append.mp hy with q | q
      · exact h.2.2.2 y q
      · simp at q
        omega
  · refine zf_trans (zf_set ?_) (zf_set ?_)
    · exact .inr (.inl ⟨rfl, rfl, Nat.le_refl _⟩)
    · exact .inl ⟨rfl, rfl, .inl rfl⟩
  · simp [pm_II]
theorem mr_again_2 (pr L : Nat) {e : Nat} (he : e ≤ t.length) : ∀ (m i : Nat) (M : zM) (u : List Nat), ml_ok am M → mt_x am M (t ++ u) → L ≤ t.length → i + m = e → (t ++ u).length + m ≤ 12000 → ∀ fuel, m < fuel → ∃ M', mo_again_2 d fuel am (nI e) (nI i) M = some M' ∧ mt_x am M' (t ++ (u ++ (t.drop i).take m)) ∧ zf (sh_W am L pr) M M' ∧ zm_I M' 12 am 31 = zm_I M 12 am 31 := by
  intro m
  induction m with
  | zero =>
    intro i M u hl h hL hi hlen fuel hf
    cases fuel with
    | zero => cases hf
    | succ fuel =>
      have : i = e := by omega
      subst this
      refine ⟨M, by simp [mo_again_2], by simpa using h, zf_refl _ _, rfl⟩
  | succ m ih =>
    intro i M u hl h hL hi hlen fuel hf
    cases fuel with
    | zero => cases hf
    | succ fuel =>
      simp only [List.length_append] at hlen
      have hge : ¬ nI e ≤ nI i := nI_ge (by omega) (by omega)
      have hil : i < t.length := by omega
      have hz : z_in (nI i) 12000 := nI_in (by omega) (by omega)
      have hg : (t ++ u)[i]? = some t[i] := by rw [List.getElem?_append_left hil]; simp
      have hv := h.2.2.1 i _ hg
      have h26 := h.2.2.2 t[i] (by simp)
      obtain ⟨M1, e1, e2, e3, e4⟩ := mr_writes (d := d) hl h (by simp; omega) h26 pr
      rw [List.append_assoc] at e2
      obtain ⟨M2, f1, f2, f3, f4⟩ := ih (i + 1) M1 (u ++ [t[i]]) (ml_zf hl e3) e2 hL (by omega) (by simp; omega) fuel (by omega)
      refine ⟨M2, ?_, ?_, zf_trans (zf_mono e3 (sh_mono (by simp; omega) (Nat.le_refl _))) f3, f4.trans e4⟩
      · simp only [mo_again_2, if_neg hge, ml_R27 hl, ml_L27 hl, if_pos hz, nI_clamp (show i < 2 ^ 31 by omega), hv, e1, Option.bind_some, zlet, nI_1, f1]
      · have hd : t.drop i = t[i] :: t.drop (i + 1) := (List.drop_eq_getElem_cons hil)
        rw [hd, List.take_succ_cons]
        simpa using f2
theorem mr_again (hl : ml_ok am M) (h : mt_x am M t) (hd : 0 < d) (pr L : Nat) (hL : L ≤ t.length) {a e : Nat} (ha : a ≤ e) (he : e ≤ t.length) (hlen : t.length + (e - a) ≤ 12000) : ∃ M', mo_again d am (nI a) (nI e) M = some M' ∧ mt_x am M' (t ++ (t.drop a).take (e - a)) ∧ zf (sh_W am L pr) M M' ∧ zm_I M' 12 am 31 = zm_I M 12 am 31 := by
  cases d with
  | zero => omega
  | succ d =>
    have h0 : mt_x am M (t ++ []) := by simpa using h
    have hLF : 12000 < zLF := by unfold zLF; exact Nat.lt_of_sub_pos (Nat.pos_of_ne_zero (by decide))
    obtain ⟨M', e1, e2, e3⟩ := mr_again_2 (d := d) pr L he (e - a) a M [] hl h0 hL (by omega) (by simp; omega) zLF (by omega)
    exact ⟨M', e1, by simpa using e2, e3⟩
/-- two pieces of the text of the same length -/
theorem mr_compared_3 (hl : ml_ok am M) (h : mt_x am M t) : ∀ (u w : List Nat) (k a b : Nat), (∀ i x, u[i]? = some x → t[a + k + i]? = some x) → (∀ i x, w[i]? = some x → t[b + k + i]? = some x) → u.length = w.length → ∀ fuel, u.length < fuel → ∃ v, mo_compared_3 d fuel am (nI a) (nI b) (nI (k + u.length)) (nI k) M = some (v, M) ∧ (0 ≤ v ↔ py_lex u w = false) := by
  intro u
  induction u with
  | nil =>
    intro w k a b _ _ _ fuel hf
    cases fuel with
    | zero => cases hf
    | succ fuel =>
      refine ⟨0, by simp [mo_compared_3], by simp [py_lex]⟩
  | cons x u ih =>
    intro w k a b hu hw he fuel hf
    cases fuel with
    | zero => cases hf
    | succ fuel =>
      cases w with
      | nil => simp at he
      | cons y w =>
        have h12 := h.2.1
        have hx := hu 0 x (by simp)
        have hy := hw 0 y (by simp)
        simp only [Nat.add_zero] at hx hy
        have hxl := (List.getElem?_eq_some_iff.mp hx).1
        have hyl := (List.getElem?_eq_some_iff.mp hy).1
        have hxv := h.2.2.1 _ _ hx
        have hyv := h.2.2.1 _ _ hy
        have hx26 := h.2.2.2 x (List.mem_of_getElem? hx)
        have hy26 := h.2.2.2 y (List.mem_of_getElem? hy)
        have hu1 := (List.getElem?_eq_some_iff.mp (hu u.length ((x :: u)[u.length]'(by simp)) (by simp))).1
        have hge : ¬ nI (k + (x :: u).length) ≤ nI k := nI_ge (by simp) (by simp; omega)
        have hz : z_in (nI (a + k)) 12000 := nI_in (by omega) (by omega)
        have hz2 : z_in (nI (b + k)) 12000 := nI_in (by omega) (by omega)
        have exy : (nI x = nI y) ↔ x = y := nI_eq (by omega) (by omega)
        have e0 : ∀ v, mo_compared_3 d (fuel + 1) am (nI a) (nI b) (nI (k + (x :: u).length)) (nI k) M = v ↔ (if x = y then mo_compared_3 d fuel am (nI a) (nI b) (nI (k + (x :: u).length)) (nI (k + 1)) M else some (nI x - nI y, M)) = v := by
          intro v
          simp only [mo_compared_3, if_neg hge, ml_R27 hl, ml_L27 hl, nI_add, if_pos hz, if_pos hz2, nI_clamp (show a + k < 2 ^ 31 by omega), nI_clamp (show b + k < 2 ^ 31 by omega), hxv, hyv, exy, zlet, nI_1]
        by_cases q : x = y
        · obtain ⟨v, g1, g2⟩ := ih w (k + 1) a b (by
            intro i z hz
            have := hu (i + 1) z (by simpa using hz)
            rw [← this]
            congr 1
            omega) (by
            intro i z hz
            have := hw (i + 1) z (by simpa using hz)
            rw [← this]
            congr 1
            omega) (by simpa using he) fuel (by simp at hf; omega)
          refine ⟨v, ?_, by simpa [py_lex, q] using g2⟩
          rw [e0, if_pos q]
          have : k + (x :: u).length = k + 1 + u.length := by simp; omega
          rw [this]
          exact g1
        · refine ⟨nI x - nI y, by rw [e0, if_neg q], ?_⟩
          unfold py_lex
          rw [if_neg q]
          by_cases q2 : x < y
          · have := pk_sneg (a := x) (b := y) (by omega) q2
            constructor
            · intro z
              exfalso
              rw [fa_lt] at this
              rw [fa_le] at z
              omega
            · intro z
              simp [q2] at z
          · rw [pk_sub (by omega)]
            simp [q2]
            exact nI_pos' (by omega)
theorem mr_keepsLess_49 (hl0 : ml_ok am M) {tt uu ww : List Nat} (pr : Nat) (hlen : (tt ++ (uu ++ ww)).length ≤ 12000) (hwu : ww.length ≤ uu.length) (v5 : Int32) (hv5 : ¬ v5 = 0) : ∀ (m k : Nat) (M : zM), ml_ok am M → k + m = ww.length → (∀ i x, ww[i]? = some x → k ≤ i → zm_I M 22 (am + 18) ((tt ++ uu).length + i) = nI x ∧ x < 26) → ∀ fuel, m < fuel → ∃ M', mo_keepsLess_49 d fuel am (nI tt.length) (nI (tt ++ uu).length) (nI uu.length) (nI ww.length) v5 (nI k) M = some (zm_setI M' 12 am 28 (nI (tt.length + ww.length))) ∧ (∀ i x, ww[i]? = some x → k ≤ i → zm_I M' 22 (am + 18) (tt.length + i) = nI x) ∧ (∀ j, j < tt.length + k → zm_I M' 22 (am + 18) j = zm_I M 22 (am + 18) j) ∧ zf (sh_W am tt.length pr) M M' ∧ zm_I M' 12 am 31 = zm_I M 12 am 31 := by
  simp only [List.length_append] at hlen ⊢
  intro m
  induction m with
  | zero =>
    intro k M hl hk _ fuel hf
    cases fuel with
    | zero => cases hf
    | succ fuel =>
      have : k = ww.length := by omega
      subst this
      refine ⟨M, ?_, ?_, fun _ _ => rfl, zf_refl _ _, rfl⟩
      · simp [mo_keepsLess_49, mo_keepsLess_80, hv5, mo_keepsLess_93, zlet, nI_add]
      · intro i x hx hi
        have := (List.getElem?_eq_some_iff.mp hx).1
        omega
  | succ m ih =>
    intro k M hl hk hw fuel hf
    cases fuel with
    | zero => cases hf
    | succ fuel =>
      have hkl : k < ww.length := by omega
      have hge : ¬ nI ww.length ≤ nI k := nI_ge (by omega) (by omega)
      have hz : z_in (nI (tt.length + uu.length + k)) 12000 := nI_in (by omega) (by omega)
      have hz2 : z_in (nI (tt.length + k)) 12000 := nI_in (by omega) (by omega)
      have hgk : ww[k]? = some ww[k] := by simp
      have hwk := hw k _ hgk (Nat.le_refl _)
      have hl1 : ml_ok am (zm_setI M 22 (am + 18) (tt.length + k) (nI ww[k])) := ml_set hl
      obtain ⟨M2, f1, f2, f3, f4, f5⟩ := ih (k + 1) _ hl1 (by omega) (by
        intro i x hx hi
        have h1 := hw i x hx (by omega)
        refine ⟨?_, h1.2⟩
        have : tt.length + uu.length + i ≠ tt.length + k := by omega
        simp [pm_II, this]
        exact h1.1) fuel (by omega)
      refine ⟨M2, ?_, ?_, ?_, zf_trans (zf_set (.inr (.inl ⟨rfl, rfl, by omega⟩))) f4, ?_⟩
      · rw [← f1]
        simp only [mo_keepsLess_49, if_neg hge, ml_R27 hl, ml_L27 hl, nI_add, if_pos hz, if_pos hz2, nI_clamp (show tt.length + uu.length + k < 2 ^ 31 by omega), nI_clamp (show tt.length + k < 2 ^ 31 by omega), hwk.1, byte_26 hwk.2, zlet, nI_1]
      · intro i x hx hi
        by_cases e : i = k
        · subst e
          rw [f3 _ (by omega), pm_same]
          rw [hgk] at hx
          injection hx with hx
          rw [hx]
        · exact f2 i x hx (by omega)
      · intro j hj
        rw [f3 j (by omega), pm_ne (by omega)]
      · rw [f5, pm_ne (by omega)]
theorem mr_keepsLess (hl : ml_ok am M) {tt uu ww : List Nat} (h : mt_x am M (tt ++ (uu ++ ww))) (hd : 0 < d) (pr : Nat) : ∃ M', mo_keepsLess d am (nI tt.length) (nI (tt ++ uu).length) M = some M' ∧ mt_x am M' (tt ++ (if py_ls ww uu then ww else uu)) ∧ zf (sh_W am tt.length pr) M M' ∧ zm_I M' 12 am 31 = zm_I M 12 am 31 := by
  have hlen := h.2.1
  have hlen' := hlen
  simp only [List.length_append] at hlen'
  have hLF : 12000 < zLF := by unfold zLF; exact Nat.lt_of_sub_pos (Nat.pos_of_ne_zero (by decide))
  cases d with
  | zero => omega
  | succ d =>
    have ex1 : nI (tt ++ uu).length - nI tt.length = nI uu.length := by
      rw [List.length_append, pk_sub (by omega)]
      congr 1
      omega
    have ex7 : zm_I M 12 am 28 - nI (tt ++ uu).length = nI ww.length := by
      rw [h.1, pk_sub (by simp)]
      congr 1
      simp
      omega
    have hsame : ∃ M', mo_keepsLess_38 d am (nI tt.length) (nI (tt ++ uu).length) (nI uu.length) (nI ww.length) M = some M' ∧ mt_x am M' (tt ++ uu) ∧ zf (sh_W am tt.length pr) M M' ∧ zm_I M' 12 am 31 = zm_I M 12 am 31 := by
      refine ⟨zm_setI M 12 am 28 (nI (tt.length + uu.length)), ?_, ?_, zf_set (.inl ⟨rfl, rfl, .inl rfl⟩), pm_ne (by omega)⟩
      · simp [mo_keepsLess_38, mo_keepsLess_39, mo_keepsLess_80, mo_keepsLess_93, zlet, nI_add]
      · refine ⟨by simp [pm_II], by simp; omega, ?_, ?_⟩
        · intro i x hx
          rw [pm_ne (by omega)]
          refine h.2.2.1 i x ?_
          rw [← List.append_assoc, List.getElem?_append_left (List.getElem?_eq_some_iff.mp hx).1]
          exact hx
        · intro x hx
          exact h.2.2.2 x (by rw [← List.append_assoc]; exact List.mem_append_left _ hx)
    have hless : ww.length ≤ uu.length → ∃ M', mo_keepsLess_34 d am (nI tt.length) (nI (tt ++ uu).length) (nI uu.length) (nI ww.length) M = some M' ∧ mt_x am M' (tt ++ ww) ∧ zf (sh_W am tt.length pr) M M' ∧ zm_I M' 12 am 31 = zm_I M 12 am 31 := by
      intro hwu
      obtain ⟨M2, f1, f2, f3, f4, f5⟩ := mr_keepsLess_49 (d := d) hl pr hlen hwu 1 (by decide) ww.length 0 M hl (by omega) (by
        intro i x hx _
        have hg : (tt ++ (uu ++ ww))[(tt ++ uu).length + i]? = some x := by
          rw [← List.append_assoc, List.getElem?_append_right (by omega), Nat.add_sub_cancel_left]
          exact hx
        exact ⟨h.2.2.1 _ _ hg, h.2.2.2 x (List.mem_of_getElem? hg)⟩) zLF (by omega)
      refine ⟨zm_setI M2 12 am 28 (nI (tt.length + ww.length)), ?_, ?_, zf_trans f4 (zf_set (.inl ⟨rfl, rfl, .inl rfl⟩)), ?_⟩
      · have : mo_keepsLess_34 d am (nI tt.length) (nI (tt ++ uu).length) (nI uu.length) (nI ww.length) M = mo_keepsLess_49 d zLF am (nI tt.length) (nI (tt ++ uu).length) (nI uu.length) (nI ww.length) 1 (nI 0) M := by
          unfold mo_keepsLess_34 mo_keepsLess_39
          rw [if_neg (by decide)]
          rfl
        rw [this]
        exact f1
      · refine ⟨by simp [pm_II], by simp; omega, ?_, ?_⟩
        · intro i x hx
          rw [pm_ne (by omega)]
          by_cases e : i < tt.length
          · rw [List.getElem?_append_left e] at hx
            rw [f3 i (by omega)]
            exact h.2.2.1 i x (by rw [List.getElem?_append_left e]; exact hx)
          · rw [List.getElem?_append_right (by omega)] at hx
            have := f2 (i - tt.length) x hx (by omega)
            rw [← this]
            congr 1
            omega
        · intro x hx
          refine h.2.2.2 x ?_
          rcases List.mem_append.mp hx with q | q
          · exact List.mem_append_left _ q
          · exact List.mem_append_right _ (List.mem_append_right _ q)
      · rw [pm_ne (by omega)]
        exact f5
    have hb : mo_keepsLess (d + 1) am (nI tt.length) (nI (tt ++ uu).length) M = mo_keepsLess_b d am (nI tt.length) (nI (tt ++ uu).length) M := rfl
    rw [hb]
    unfold mo_keepsLess_b
    simp only [zlet, ex1, ex7]
    by_cases q : ww.length < uu.length
    · rw [if_pos (nI_lt q (by omega))]
      have : py_ls ww uu = true := by simp [py_ls, q]
      rw [this]
      exact hless (by omega)
    · rw [if_neg (nI_nlt (by omega) (by omega))]
      by_cases q2 : ww.length = uu.length
      · rw [q2, if_pos rfl]
        have hu : ∀ i x, uu[i]? = some x → (tt ++ (uu ++ ww))[tt.length + 0 + i]? = some x := by
          intro i x hx
          rw [List.getElem?_append_right (by omega)]
          have : tt.length + 0 + i - tt.length = i := by omega
          rw [this, List.getElem?_append_left (List.getElem?_eq_some_iff.mp hx).1]
          exact hx
        have hw : ∀ i x, ww[i]? = some x → (tt ++ (uu ++ ww))[(tt ++ uu).length + 0 + i]? = some x := by
          intro i x hx
          rw [← List.append_assoc, List.getElem?_append_right (by omega)]
          have : (tt ++ uu).length + 0 + i - (tt ++ uu).length = i := by omega
          rw [this]
          exact hx
        obtain ⟨v, g1, g2⟩ := mr_compared_3 (d := d) hl h ww uu 0 (tt ++ uu).length tt.length hw hu q2 zLF (by omega)
        have g1' : mo_compared d am (nI (tt ++ uu).length) (nI tt.length) (nI uu.length) M = some (v, M) := by
          unfold mo_compared
          rw [Nat.zero_add, q2] at g1
          exact g1
        rw [g1']
        simp only [Option.bind_some]
        rw [q2] at hsame hless
        by_cases q3 : py_lex ww uu = false
        · rw [if_pos (g2.mpr q3)]
          have : py_ls ww uu = false := by simp [py_ls, q2, q3]
          rw [this]
          exact hsame
        · rw [if_neg (fun x => q3 (g2.mp x))]
          have q4 : py_lex ww uu = true := by simpa using q3
          have : py_ls ww uu = true := by simp [py_ls, q2, q4]
          rw [this]
          exact hless (Nat.le_refl _)
      · rw [if_neg (fun x => q2 ((nI_eq (by omega) (by omega)).mp x))]
        have : py_ls ww uu = false := by simp [py_ls, q, q2]
        rw [this]
        exact hsame
end
