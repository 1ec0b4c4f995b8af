/-! THE MODEL counts words -/
def wf_W (am v t k j : Nat) : Prop := mw_W am t k j ∨ (t = 12 ∧ k = am ∧ (j = 35 ∨ j = 36)) ∨ (t = 20 ∧ k = am + 23 ∧ v ≤ j)
theorem wf_mg {am v : Nat} : ∀ t k j, wf_W am v t k j → mg am [26, 35, 36] [14, 15, 16, 17, 23] t k j := by
  intro t k j h
  rcases h with h | h | h
  · exact mg_mono (by simp) (by simp) t k j h
  · refine .inl ⟨h.1, h.2.1, ?_⟩
    rcases h.2.2 with h3 | h3 <;> simp [h3]
  · exact .inr ⟨.inl h.1, 23, by simp, h.2.1⟩
theorem wf_ws {am v : Nat} : ∀ t k j, ws_W am v t k j → wf_W am v t k j := by
  intro t k j h
  rcases h with h | h | h
  · exact .inl h
  · exact .inr (.inl h)
  · exact .inr (.inr ⟨h.1, h.2.1, h.2.2.1⟩)
theorem wf_mono {am v v' : Nat} (hv : v ≤ v') : ∀ t k j, wf_W am v' t k j → wf_W am v t k j := by
  intro t k j h
  rcases h with h | h | h
  · exact .inl h
  · exact .inr (.inl h)
  · exact .inr (.inr ⟨h.1, h.2.1, by have := h.2.2; omega⟩)
section
variable {am r : Nat} {P : yP}
theorem wf_row {M M' : zM} {w v : Nat} {s : yS} (hs : mk_x am M w s) (hf : zf (wf_W am v) M M') (hd : w + 13 ≤ v) : mk_x am M' w s := by
  have key : ∀ j, w ≤ j → j < w + 13 → zm_I M' 20 (am + 23) j = zm_I M 20 (am + 23) j := by
    intro j h1 h2
    refine hf.2.2.2.2.2.2 20 (am + 23) j ?_
    intro x
    rcases x with x | x | x
    · simp [mw_W, mg] at x
    · exact absurd x.1 (by decide)
    · have := x.2.2
      omega
  refine ⟨?_, ?_, ?_⟩
  · rw [key w (by omega) (by omega)]
    exact hs.1
  · intro c hc
    rw [key _ (by omega) (by omega)]
    exact hs.2.1 c hc
  · intro a ha
    rw [key _ (by omega) (by omega)]
    exact hs.2.2 a ha
def py_wl1 (P : yP) (n : Nat) (s : yS) (a : Int32) (l : Nat) : Int32 := match py_fd P s l with
  | none => a
  | some W => a + py_wn P n (py_go P s W)
theorem mr_wordsFrom_33 (hP : py_ok P) {d n w B : Nat} {s : yS} (hd : 36 ≤ d) (hw : w + 26 ≤ 208) (hsb : sw_b P B s) (hB : B ≤ 900) (Rr : Nat → Int32 → Int32 → Int32 → zM → Option (Int32 × zM)) (hR : ∀ (M : zM) (s' : yS), mp_ok am M r P → mk_x am M (w + 13) s' → sw_b P (B + 1) s' → ∃ M', Rr am (nI r) (nI (w + 13)) (nI n) M = some (py_wn P n s', M') ∧ zf (wf_W am (w + 13)) M M') : ∀ (m l : Nat) (M : zM) (acc : Int32), l + m = 26 → mp_ok am M r P → mk_x am M w s → ∀ fuel, m < fuel → ∃ M', mo_wordsFrom_33 Rr d fuel am (nI r) (nI w) (nI (n + 1)) (zor (py_cc P s)) acc (nI l) M = some ((List.range' l m).foldl (py_wl1 P n s) acc, M') ∧ zf (wf_W am (w + 13)) M M' := by
  intro m
  induction m with
  | zero =>
    intro l M acc hl h hs fuel hf
    cases fuel with
    | zero => cases hf
    | succ fuel =>
      have : l = 26 := by omega
      subst this
      have hle : (26 : Int32) ≤ nI 26 := by decide
      refine ⟨M, ?_, zf_refl _ _⟩
      simp [mo_wordsFrom_33, hle]
  | succ m ih =>
    intro l M acc hl h hs fuel hf
    cases fuel with
    | zero => cases hf
    | succ fuel =>
      have hge : ¬ (26 : Int32) ≤ nI l := nI_ge (b := 26) (by omega) (by omega)
      have hcc := fd_cc (s := s) hP hsb.1 (l := l) (by omega)
      have e13 : nI w + 13 = nI (w + 13) := nI_add w 13
      have en : nI (n + 1) - 1 = nI n := nI_pred n
      rw [List.range'_succ, List.foldl_cons]
      simp only [mo_wordsFrom_33, if_neg hge, mr_has (show l < 32 by omega), Option.bind_some, hcc]
      cases hfd : py_fd P s l with
      | none =>
        obtain ⟨M', g1, g2⟩ := ih (l + 1) M acc (by omega) h hs fuel (by omega)
        refine ⟨M', ?_, g2⟩
        have e1 : py_wl1 P n s acc l = acc := by simp [py_wl1, hfd]
        rw [e1, ← g1]
        simp [zb, mo_wordsFrom_84, zlet, nI_1]
      | some W =>
        have hW := fd_mem hfd
        obtain ⟨M1, e1, e2, e3⟩ := mr_steps (am := am) (r := r) (d := d) (w := w) (v := w + 13) (l := l) h hd hs (sw_of hsb (by omega)) (.inl (by omega)) (by omega) (by omega) (by omega)
        have h1 := mp_zf h (zf_mono e3 ws_mg) (by simp)
        obtain ⟨M2, f1, f2⟩ := hR M1 (py_go P s W) h1 (e2 W hfd).1 (go_b hP hsb hW.1)
        have hf12 := zf_trans (zf_mono e3 wf_ws) f2
        have h2 := mp_zf h (zf_mono hf12 wf_mg) (by simp)
        obtain ⟨M3, g1, g2⟩ := ih (l + 1) M2 (acc + py_wn P n (py_go P s W)) (by omega) h2 (wf_row hs hf12 (Nat.le_refl _)) fuel (by omega)
        refine ⟨M3, ?_, zf_trans hf12 g2⟩
        have ew : py_wl1 P n s acc l = acc + py_wn P n (py_go P s W) := by simp [py_wl1, hfd]
        rw [ew, ← g1]
        simp only [Option.isSome_some, pb_zbt]
        rw [if_neg (by decide), e13, en, e1]
        simp only [Option.bind_some, f1, zlet, mo_wordsFrom_84, nI_1]
theorem mr_wordsFrom (hP : py_ok P) : ∀ (n d w B : Nat) (s : yS) (M : zM), 38 + n ≤ d → w + 13 * (n + 1) ≤ 208 → sw_b P B s → B + n ≤ 900 → mp_ok am M r P → mk_x am M w s → ∃ M', mo_wordsFrom d am (nI r) (nI w) (nI n) M = some (py_wn P n s, M') ∧ zf (wf_W am w) M M' := by
  intro n
  induction n with
  | zero =>
    intro d w B s M hd hw hsb hB h hs
    obtain ⟨d, rfl⟩ : ∃ d', d = d' + 1 := ⟨d - 1, by omega⟩
    have hce := mr_canEnd (d := d) h (by omega) hs (sw_of hsb (by omega)) (by omega)
    refine ⟨M, ?_, zf_refl _ _⟩
    rw [mo_wordsFrom.eq_2]
    unfold mo_wordsFrom_b
    rw [if_pos pb_n0, hce]
    simp only [Option.bind_some, py_wn]
    cases py_ce P s <;> simp [zb, mo_wordsFrom_18]
  | succ n ih =>
    intro d w B s M hd hw hsb hB h hs
    obtain ⟨d, rfl⟩ : ∃ d', d = d' + 1 := ⟨d - 1, by omega⟩
    have hLF := pb_LF
    have hne : ¬ nI (n + 1) = 0 := nI_ne0 (by omega) (by omega)
    obtain ⟨M1, e1, e2⟩ := mr_couldCome (d := d) h (by omega) hs (sw_of hsb (by omega)) (by omega)
    have h1 := mp_W h e2
    obtain ⟨M2, f1, f2⟩ := mr_wordsFrom_33 (am := am) (r := r) (d := d) (n := n) (w := w) (B := B) (s := s) hP (by omega) (by omega) hsb (by omega) (mo_wordsFrom d) (by
      intro M' s' h' hs' hsb'
      exact ih d (w + 13) (B + 1) s' M' (by omega) (by omega) hsb' (by omega) h' hs') 26 0 M1 0 (by omega) h1 (mk_mg hs e2 (by simp)) zLF (by omega)
    refine ⟨M2, ?_, zf_trans (zf_mono e2 (fun _ _ _ x => .inl x)) (zf_mono f2 (wf_mono (by omega)))⟩
    rw [mo_wordsFrom.eq_2]
    have er : (fun a0 a1 a2 a3 M => mo_wordsFrom d a0 a1 a2 a3 M) = mo_wordsFrom d := rfl
    rw [er]
    unfold mo_wordsFrom_b
    rw [if_neg hne, e1]
    simp only [Option.bind_some]
    exact f1
end
