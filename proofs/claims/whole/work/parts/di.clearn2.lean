/-! THE CLASS learns a tree, a rule -/
def cF_x (M : zM) (Q : Nat) (P : yP) : Prop := cw_ru M Q ∧ ∀ c, c < py_nc P → zm_I M 20 (Q + 5) c = nI (py_fr P c) ∧ zm_I M 20 (Q + 6) c = zo (py_to P c)
def ls_W (ro : Nat) (pa : Nat → Nat) (P : yP) (n t k j : Nat) : Prop := ∃ m, py_dm P m ∧ py_wi P n m = true ∧ lw_W ro (pa m) t k j
section
variable {M M' : zM} {pa : Nat → Nat} {P : yP} {le ro d Q : Nat}
theorem wi_uniq (h : py_ok P) {n c c' : Nat} (hn : py_dm P n) (hc : c ∈ py_ks P n) (hc' : c' ∈ py_ks P n) : ∀ m, py_dm P m → py_wi P c m = true → py_wi P c' m = true → c = c' := by
  have hcu := ok_kup h hn hc
  have hcu' := ok_kup h hn hc'
  refine ok_climb h _ ?_ ?_
  · intro hw _
    by_cases q : py_rt P = c
    · rw [← q, ok_up0 h] at hcu; cases hcu
    · rw [wi_rt h q] at hw; cases hw
  · intro x p hx e ih h1 h2
    by_cases q : x = c
    · by_cases q' : x = c'
      · omega
      · rw [wi_up h hx e q'] at h2
        rw [q, hcu] at e
        injection e with e
        subst e
        have := (wi_hg h _ hn h2).1
        have := ok_khg h hn hc'
        omega
    · rw [wi_up h hx e q] at h1
      by_cases q' : x = c'
      · rw [q', hcu'] at e
        injection e with e
        subst e
        have := (wi_hg h _ hn h1).1
        have := ok_khg h hn hc
        omega
      · rw [wi_up h hx e q'] at h2
        exact ih h1 h2
theorem cF_zf {W : Nat → Nat → Nat → Prop} (h : cF_x M Q P) (hf : zf W M M') (hw : ∀ j, ¬ W 20 (Q + 5) j ∧ ¬ W 20 (Q + 6) j) : cF_x M' Q P := by
  obtain ⟨h1, h2⟩ := h
  refine ⟨?_, ?_⟩
  · unfold cw_ru
    rw [hf.1, hf.2.1]
    exact h1
  · intro c hc
    rw [hf.2.2.2.2.2.2 20 (Q + 5) c (hw c).1, hf.2.2.2.2.2.2 20 (Q + 6) c (hw c).2]
    exact h2 c hc
theorem ca_zfs {W : Nat → Nat → Nat → Prop} {m : Nat} (h : ca_n M pa P m) (hf : zf W M M') (h3 : ∀ j, 8 ≤ j → ¬ W 3 (pa m) j) (h21 : ∀ j, ¬ W 21 (pa m + 1) j) : ca_n M' pa P m := by
  have e21 : ∀ j, zm_I M' 21 (pa m + 1) j = zm_I M 21 (pa m + 1) j := fun j => hf.2.2.2.2.2.2 21 (pa m + 1) j (h21 j)
  unfold ca_n
  rw [hf.2.2.2.2.2.2 3 (pa m) 8 (h3 8 (by omega)), hf.2.2.2.2.2.2 3 (pa m) 9 (h3 9 (by omega)), hf.2.2.2.2.2.2 3 (pa m) 10 (h3 10 (by omega)), hf.2.2.2.2.2.2 3 (pa m) 11 (h3 11 (by omega)), hf.2.2.2.2.2.2 3 (pa m) 12 (h3 12 (by omega)), hf.2.2.2.2.2.2 3 (pa m) 13 (h3 13 (by omega)), hf.2.2.2.2.2.2 3 (pa m) 14 (h3 14 (by omega))]
  simp only [e21]
  exact h
theorem ls_8 {n : Nat} : ∀ k j, j < 8 → ¬ ls_W ro pa P n 3 k j := by
  intro k j hj ⟨m, _, _, w⟩
  exact lw_8 k j hj w
theorem ls_20 {n k j : Nat} (hk : k ≠ ro) : ¬ ls_W ro pa P n 20 k j := by
  intro ⟨m, _, _, w⟩
  unfold lw_W at w
  omega
theorem ck_v (hP : py_ok P) {n : Nat} (hn : py_dm P n) : ck (py_kd P n) ≤ 5 ∧ (ck (py_kd P n) = 0 ↔ py_kd P n = 0) ∧ (ck (py_kd P n) = 1 ↔ py_kd P n = 1) ∧ (ck (py_kd P n) = 2 ↔ py_kd P n = 2) ∧ (ck (py_kd P n) = 3 ↔ py_kd P n = 3) ∧ (ck (py_kd P n) = 4 ↔ py_kd P n = 5) ∧ (ck (py_kd P n) = 5 ↔ py_kd P n = 4) := by
  rcases ok_kd6 hP hn with k | k | k | k | k | k <;> rw [k] <;> decide
/-- the node itself, when its kids are known -/
theorem cl_learn_n (hP : py_ok P) {n : Nat} (hn : py_dm P n) (hd : 2 ≤ d) (h : lk_x M pa P n) (hp : lp_x M le ro) (hF : cF_x M Q P) (hro : Q + 10 ≤ ro) (rl : Nat → Option Nat → Option Nat → Int32 → zM → Option zM) (v3 : Int32) (fuel : Nat) : ∃ M', le_learn_13 rl d (fuel + 1) le (some Q) (some (pa n)) v3 none M = some M' ∧ zf (lw_W ro (pa n)) M M' ∧ ca_n M' pa P n := by
  obtain ⟨M1, g1, g2, g3, g4, g5, g6⟩ := cl_gather (d := d) (le := le) (ro := ro) hP hn h
  have h1 := lk_zf hP hn h g2
  have hp1 := lp_zf hp g2
  have hF1 := cF_zf hF g2 (fun j => ⟨by unfold lw_W; omega, by unfold lw_W; omega⟩)
  obtain ⟨ck5, c0, c1, c2, c3, c4, _⟩ := ck_v hP hn
  have hk1 := cN_kd h1.1 hn
  have e0 : (nI (ck (py_kd P n)) = 0) ↔ py_kd P n = 0 := (nI_eq (b := 0) (by omega) (by omega)).trans c0
  have e1 : (nI (ck (py_kd P n)) = 1) ↔ py_kd P n = 1 := (nI_eq (b := 1) (by omega) (by omega)).trans c1
  have e2 : (nI (ck (py_kd P n)) = 2) ↔ py_kd P n = 2 := (nI_eq (b := 2) (by omega) (by omega)).trans c2
  have e3 : (nI (ck (py_kd P n)) = 3) ↔ py_kd P n = 3 := (nI_eq (b := 3) (by omega) (by omega)).trans c3
  have e4 : (nI (ck (py_kd P n)) = 4) ↔ py_kd P n = 5 := (nI_eq (b := 4) (by omega) (by omega)).trans c4
  simp only [le_learn_13, g1, Option.bind_some, hk1, e0, e1, e2, e3, e4, le_learn_143]
  have big : 2 ≤ py_kd P n → zm_I M1 3 (pa n) 11 = zor (py_in P n) ∧ (py_kd P n ≠ 2 → zm_I M1 3 (pa n) 9 = zor (py_fl P n) ∧ zm_I M1 3 (pa n) 10 = zor (py_lal P n)) := by
    intro hk
    have gk := go_kids hP hn hk
    refine ⟨g5.trans gk.2, fun hk2 => ⟨g3.trans (gk.1 hk2).1, g4.trans (gk.1 hk2).2⟩⟩
  rcases ok_kd6 hP hn with k | k | k | k | k | k
  · obtain ⟨M2, w1, w2, w3⟩ := cl_letter (d := d) (le := le) (ro := ro) hP hn k h1 g6
    refine ⟨M2, ?_, zf_trans g2 w2, w3⟩
    rw [if_pos k, w1]
    rfl
  · have hks := (ok_k1 hP hn k).1
    obtain ⟨M2, w1, w2, w3⟩ := cl_nothing (d := d) (le := le) (ro := ro) hP hn k g6 ⟨by rw [g3, hks]; rfl, by rw [g4, hks]; rfl, by rw [g5, hks]; rfl⟩
    refine ⟨M2, ?_, zf_trans g2 w2, w3⟩
    rw [if_neg (by omega), if_pos k, w1]
    rfl
  · obtain ⟨M2, w1, w2, w3⟩ := cl_row (d := d) hP hn k hd h1 hp1 g6 (big (by omega)).1
    refine ⟨M2, ?_, zf_trans g2 w2, w3⟩
    rw [if_neg (by omega), if_neg (by omega), if_pos k, w1]
    rfl
  · have bb := big (by omega)
    obtain ⟨M2, w1, w2, w3⟩ := cl_choice (d := d) (le := le) (ro := ro) hP hn k h1 g6 (bb.2 (by omega)).1 (bb.2 (by omega)).2 bb.1
    refine ⟨M2, ?_, zf_trans g2 w2, w3⟩
    rw [if_neg (by omega), if_neg (by omega), if_neg (by omega), if_pos k, w1]
    rfl
  · have bb := big (by omega)
    obtain ⟨M2, w1, w2, w3⟩ := cl_any (d := d) hP hn k hd h1 hp1 g6 (bb.2 (by omega)).1 (bb.2 (by omega)).2 bb.1
    refine ⟨M2, ?_, zf_trans g2 w2, w3⟩
    rw [if_neg (by omega), if_neg (by omega), if_neg (by omega), if_neg (by omega), if_neg (by omega), w1]
    rfl
  · have bb := big (by omega)
    have hnb := (ok_k5 hP hn k).2.1
    have hnc := ok_nc hP
    obtain ⟨M2, w1, w2, w3⟩ := cl_counted (d := d) hP hn k hd h1 hp1 g6 (bb.2 (by omega)).1 (bb.2 (by omega)).2 bb.1
    refine ⟨M2, ?_, zf_trans g2 w2, w3⟩
    have hz : z_in (nI (py_nb P n)) 8 := nI_in (by omega) (by omega)
    rw [if_neg (by omega), if_neg (by omega), if_neg (by omega), if_neg (by omega), if_pos k]
    simp only [(ru_9 hF1.1).1, (ru_9 hF1.1).2, (ru_10 hF1.1).1, (ru_10 hF1.1).2, cN_nb h1.1 hn (.inr (.inr k)), if_pos hz, nI_clamp (show py_nb P n < 2 ^ 31 by omega), (hF1.2 _ hnb).1, (hF1.2 _ hnb).2, w1, Option.bind_some]
theorem cl_learn (hP : py_ok P) (hro : Q + 10 ≤ ro) : ∀ n, py_dm P n → ∀ (d dep : Nat) (M : zM), py_hg P n + 3 ≤ d → dep + py_hg P n ≤ 40 → cN_x M pa P → lp_x M le ro → cF_x M Q P → ∃ M', le_learn d le (some Q) (some (pa n)) (nI dep) M = some M' ∧ zf (ls_W ro pa P n) M M' ∧ ∀ m, py_dm P m → py_wi P n m = true → ca_n M' pa P m := by
  refine ok_down hP _ ?_
  intro n hn ih d dep M hd hdep hN hp hF
  obtain ⟨d, rfl⟩ : ∃ d', d = d' + 1 := ⟨d - 1, by omega⟩
  have inj := hN.2.2
  -- over the kids
  have loop : ∀ (b a : List Nat) (M : zM), py_ks P n = a ++ b → cN_x M pa P → lp_x M le ro → cF_x M Q P → (∀ c, c ∈ a → ∀ m, py_dm P m → py_wi P c m = true → ca_n M pa P m) → ∀ fuel, b.length < fuel → ∃ M', le_learn_13 (fun a0 a1 a2 a3 M => le_learn d a0 a1 a2 a3 M) d fuel le (some Q) (some (pa n)) (nI dep) (b.head?.map pa) M = some M' ∧ zf (ls_W ro pa P n) M M' ∧ (∀ m, py_dm P m → py_wi P n m = true → ca_n M' pa P m) := by
    intro b
    induction b with
    | nil =>
      intro a M e hN hp hF hA fuel hf
      cases fuel with
      | zero => cases hf
      | succ fuel =>
        rw [List.append_nil] at e
        have hk : lk_x M pa P n := ⟨hN, fun c hc => hA c (by rw [← e]; exact hc) c (ok_kid hP hn hc) (wi_self hP (ok_kid hP hn hc))⟩
        obtain ⟨M', w1, w2, w3⟩ := cl_learn_n (d := d) hP hn (by omega) hk hp hF hro (fun a0 a1 a2 a3 M => le_learn d a0 a1 a2 a3 M) (nI dep) fuel
        refine ⟨M', w1, zf_mono w2 (fun t k j w => ⟨n, hn, wi_self hP hn, w⟩), ?_⟩
        intro m hm hw
        by_cases em : m = n
        · rw [em]; exact w3
        · rcases wi_in hP m hm hw with r | ⟨c, hc, hwc⟩
          · exact absurd r em
          · refine ca_zf (hA c (by rw [← e]; exact hc) m hm hwc) w2 ?_
            intro x
            exact em (inj m n hm hn x)
    | cons c b ihb =>
      intro a M e hN hp hF hA fuel hf
      cases fuel with
      | zero => cases hf
      | succ fuel =>
        have hc : c ∈ py_ks P n := by rw [e]; simp
        have hcd := ok_kid hP hn hc
        have hch := ok_khg hP hn hc
        obtain ⟨M1, g1, g2, g3⟩ := ih c hc d (dep + 1) M (by omega) (by omega) hN hp hF
        have hN1 := cN_zf hN g2 ls_8
        have hp1 := lp_zf hp g2
        have hF1 := cF_zf hF g2 (fun j => ⟨ls_20 (by omega), ls_20 (by omega)⟩)
        obtain ⟨M', w1, w2, w3⟩ := ihb (a ++ [c]) M1 (by rw [e]; simp) hN1 hp1 hF1 (by
          intro x hx m hm hw
          by_cases ex : x = c
          · subst ex
            exact g3 m hm hw
          · have hxa : x ∈ a := by
              rcases List.mem_append.mp hx with r | r
              · exact r
              · exact absurd (by simpa using r) ex
            have hxk : x ∈ py_ks P n := by rw [e]; simp [hxa]
            have av : ∀ t k j, ls_W ro pa P c t k j → ¬ (t = 3 ∧ k = pa m) ∧ ¬ (t = 21 ∧ k = pa m + 1) := by
              intro t k j ⟨y, hy, hwy, w⟩
              have hne : pa y ≠ pa m := by
                intro ey
                have := inj y m hy hm ey
                subst this
                exact ex (wi_uniq hP hn hxk hc y hm hw hwy)
              unfold lw_W at w
              omega
            exact ca_zfs (hA x hxa m hm hw) g2 (fun j _ w => (av _ _ _ w).1 ⟨rfl, rfl⟩) (fun j w => (av _ _ _ w).2 ⟨rfl, rfl⟩)) fuel (by simp at hf; omega)
        refine ⟨M', ?_, zf_trans (zf_mono g2 (fun t k j ⟨m, m1, m2, m3⟩ => ⟨m, m1, wi_kid hP hn hc m m1 m2, m3⟩)) w2, w3⟩
        simp only [List.head?_cons, Option.map_some, le_learn_13, nI_1, g1, Option.bind_some, cN_nx hN1 hn e]
        exact w1
  obtain ⟨M', w1, w2, w3⟩ := loop (py_ks P n) [] M rfl hN hp hF (fun c hc => by cases hc) zLF (ks_LF hP hn)
  refine ⟨M', ?_, w2, w3⟩
  show le_learn_b (fun a0 a1 a2 a3 M => le_learn d a0 a1 a2 a3 M) d le (some Q) (some (pa n)) (nI dep) M = some M'
  unfold le_learn_b
  rw [if_pos (show nI dep ≤ 40 from nI_le (b := 40) (by omega) (by omega))]
  simp only [cN_ks hN hn]
  exact w1
/-! the count next around -/
def py_can (P : yP) (x : Nat) : Option Nat := py_ur P (fun k o => match py_up P k with
  | none => none
  | some p => if py_kd P p = 5 then some p else o.getD none) x
theorem can_ca (h : py_ok P) : ∀ x, py_dm P x → py_ca P x = (py_can P x).map (py_nb P) ∧ (∀ p, py_can P x = some p → py_dm P p ∧ py_kd P p = 5) := by
  refine ok_climb h _ ?_ ?_
  · unfold py_ca py_can
    rw [ur_rt h, ur_rt h, ok_up0 h]
    exact ⟨rfl, fun p hp => by cases hp⟩
  · intro x p hx e ih
    unfold py_ca py_can at ih ⊢
    rw [ur_up h hx e, ur_up h hx e, e]
    dsimp only
    by_cases k : py_kd P p = 5
    · rw [if_pos k, if_pos k]
      refine ⟨rfl, ?_⟩
      intro y hy
      injection hy with hy
      subst hy
      exact ⟨ok_pdm h hx e, k⟩
    · rw [if_neg k, if_neg k]
      exact ih
theorem cl_countAround_5 (hP : py_ok P) (hN : cN_x M pa P) : ∀ x, py_dm P x → ∀ fuel, py_hg P (py_rt P) - py_hg P x + 1 < fuel → nd_countAround_5 d fuel ((py_up P x).map pa) M = some ((py_can P x).map pa, M) := by
  refine ok_climb hP _ ?_ ?_
  · intro fuel hf
    cases fuel with
    | zero => omega
    | succ fuel =>
      have : py_can P (py_rt P) = none := by
        unfold py_can
        rw [ur_rt hP, ok_up0 hP]
      rw [this, ok_up0 hP]
      simp only [Option.map_none, nd_countAround_5, nd_countAround_25]
  · intro x p hx e ih fuel hf
    have hp := ok_pdm hP hx e
    have h1 := ok_uphg hP hx e
    have h2 := ok_top hP hp
    cases fuel with
    | zero => omega
    | succ fuel =>
      obtain ⟨ck5, _, _, _, _, c4, _⟩ := ck_v hP hp
      have e4 : (nI (ck (py_kd P p)) = 4) ↔ py_kd P p = 5 := (nI_eq (b := 4) (by omega) (by omega)).trans c4
      have ec : py_can P x = if py_kd P p = 5 then some p else py_can P p := by
        unfold py_can
        rw [ur_up hP hx e, e]
        rfl
      rw [e, ec]
      simp only [Option.map_some, nd_countAround_5, cN_kd hN hp, e4, nd_countAround_25, cN_up hN hp]
      by_cases k : py_kd P p = 5
      · rw [if_pos k, if_pos k]
        rfl
      · rw [if_neg k, if_neg k]
        exact ih fuel (by omega)
theorem cl_countAround (hP : py_ok P) (hN : cN_x M pa P) {x : Nat} (hx : py_dm P x) : nd_countAround d (pa x) M = some ((py_can P x).map pa, M) := by
  unfold nd_countAround
  rw [cN_up hN hx]
  exact cl_countAround_5 hP hN x hx zLF (pb_31 (f := 0) hP hx (by omega))
end
