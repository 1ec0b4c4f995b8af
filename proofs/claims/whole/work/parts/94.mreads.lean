/-! THE MODEL's face: reads -/
theorem byte_255 {b : Nat} (h : b < 256) : (nI b).toInt8.toInt32 &&& 255 = nI b := by
  have key : ∀ b : Fin 256, (nI b.val).toInt8.toInt32 &&& 255 = nI b.val := by decide +kernel
  exact key ⟨b, h⟩
/-- letters of a tape, or the place of another byte -/
def py_tl : List Nat → Nat → Nat → Option (List Nat) × Nat
  | [], _, p => (some [], p)
  | b :: r, n, p => if b = 32 then py_tl r n (p + 1) else if (97 ≤ b ∧ b ≤ 122) ∧ n ≠ 24 then ((py_tl r (n + 1) (p + 1)).1.map (fun l => (b - 97) :: l), (py_tl r (n + 1) (p + 1)).2) else (none, p)
def py_rr (P : yP) (r : Nat) (ls : List Nat) : yR := (r, ls, (py_rn P ls py_s00).1, zor (py_cc P (py_rn P ls py_s00).2), py_ce P (py_rn P ls py_s00).2, py_nc P, py_na P, (py_rn P ls py_s00).2)
def sp_rds (S : yZ) (x : Int32) : Int32 × yZ := match zin x S.2.1.1 with
  | none => (-1, S)
  | some r => if py_sure (S.2.1.2 r) then (match (py_tl S.1 0 0).1 with
    | none => ((-2) - nI (py_tl S.1 0 0).2, S)
    | some ls => (zb (py_wrd (S.2.1.2 r) ls), ([], S.2.1, S.2.2.1, some (py_rr (S.2.1.2 r) r ls)))) else (-1, S)
section
variable {am d : Nat} {M : zM} {S : yZ}
theorem mr_here {T : List Nat} (hl : ml_ok am M) (hT : mt_p am M T) (hok : tp_ok T) {p : Nat} (h3 : zm_I M 12 am 3 = nI p) (hp : p ≤ 400) : mo_here d am M = some (match T[p]? with
    | none => -1
    | some b => nI b, M) := by
  have h400 := hok.1
  unfold mo_here
  rw [hT.1, h3]
  by_cases q : p < T.length
  · have hg : T[p]? = some T[p] := by simp
    have hz : z_in (nI p) 400 := nI_in (by omega) (by omega)
    have hb := hok.2 T[p] (by simp)
    rw [if_neg (nI_ge q (by omega)), hg]
    simp only [ml_R1 hl, ml_L1 hl, if_pos hz, nI_clamp (show p < 2 ^ 31 by omega), hT.2 _ _ hg, byte_255 hb.2, mo_here_28]
  · have hg : T[p]? = none := by rw [List.getElem?_eq_none_iff]; omega
    rw [if_pos (nI_le (by omega) (by omega)), hg]
    rfl
theorem mr_isLetter {b : Nat} (hb : b < 256) : mo_isLetter d (nI b) M = some (zb (decide (97 ≤ b ∧ b ≤ 122)), M) := by
  unfold mo_isLetter
  have h1 : (nI b < 97) ↔ b < 97 := nI_ltI (b := 97) (by omega) (by omega)
  have h2 : ((122 : Int32) < nI b) ↔ 122 < b := nI_ltI (a := 122) (by omega) (by omega)
  simp only [h1, h2]
  by_cases q1 : b < 97
  · have : ¬ (97 ≤ b ∧ b ≤ 122) := by omega
    simp [q1, this, mo_isLetter_16, mo_isLetter_17, zb]
  · by_cases q2 : 122 < b
    · have : ¬ (97 ≤ b ∧ b ≤ 122) := by omega
      simp [q1, q2, this, mo_isLetter_16, mo_isLetter_17, zb]
    · have : 97 ≤ b ∧ b ≤ 122 := by omega
      simp [q1, q2, this, mo_isLetter_17, zb]
theorem mr_lettersOnTape_7 {T : List Nat} (hok : tp_ok T) : ∀ (b a : List Nat) (M : zM) (L : List Nat), T = a ++ b → ml_ok am M → mt_p am M T → zm_I M 12 am 3 = nI a.length → ma_x am M 24 L → L.length ≤ 24 → ∀ fuel, b.length < fuel → ∃ M', mo_lettersOnTape_7 d fuel am (nI L.length) M = some (match (py_tl b L.length a.length).1 with
    | none => -1
    | some l => nI (L ++ l).length, M') ∧ (∀ l, (py_tl b L.length a.length).1 = some l → ma_x am M' 24 (L ++ l) ∧ (L ++ l).length ≤ 24) ∧ ((py_tl b L.length a.length).1 = none → zm_I M' 12 am 3 = nI (py_tl b L.length a.length).2) ∧ zf (mg am [3] [24]) M M' := by
  have h400 := hok.1
  intro b
  induction b with
  | nil =>
    intro a M L e hl hT h3 hma hL fuel hf
    cases fuel with
    | zero => cases hf
    | succ fuel =>
      have hal : T.length = a.length := by rw [e]; simp
      have hle : nI T.length ≤ nI a.length := nI_le (by omega) (by omega)
      refine ⟨M, ?_, ?_, ?_, zf_refl _ _⟩
      · simp [mo_lettersOnTape_7, hT.1, h3, hle, py_tl]
      · intro l hl'
        unfold py_tl at hl'
        injection hl' with hl'
        subst hl'
        simpa using ⟨hma, hL⟩
      · intro x
        unfold py_tl at x
        cases x
  | cons x b ih =>
    intro a M L e hl hT h3 hma hL fuel hf
    have hal : T.length = a.length + (b.length + 1) := by rw [e]; simp
    have hx : T[a.length]? = some x := by rw [e]; simp
    have hx256 := hok.2 x (List.mem_of_getElem? hx)
    cases fuel with
    | zero => cases hf
    | succ fuel =>
      have hge : ¬ nI T.length ≤ nI a.length := nI_ge (by omega) (by omega)
      have hh : mo_here d am M = some (nI x, M) := by
        have := mr_here (d := d) hl hT hok h3 (by omega)
        rw [hx] at this
        exact this
      have e32 : (nI x = 32) ↔ x = 32 := nI_eq (b := 32) (by omega) (by omega)
      have e24 : (nI L.length = 24) ↔ L.length = 24 := nI_eq (b := 24) (by omega) (by omega)
      /- behind this byte -/
      have hnext : ∀ (M1 : zM) (L1 : List Nat), ml_ok am M1 → mt_p am M1 T → zm_I M1 12 am 3 = nI a.length → ma_x am M1 24 L1 → L1.length ≤ 24 → ∃ M', mo_lettersOnTape_64 (fun p0 p1 m => mo_lettersOnTape_7 d fuel p0 p1 m) d am (nI L1.length) M1 = some (match (py_tl b L1.length (a.length + 1)).1 with
          | none => -1
          | some l => nI (L1 ++ l).length, M') ∧ (∀ l, (py_tl b L1.length (a.length + 1)).1 = some l → ma_x am M' 24 (L1 ++ l) ∧ (L1 ++ l).length ≤ 24) ∧ ((py_tl b L1.length (a.length + 1)).1 = none → zm_I M' 12 am 3 = nI (py_tl b L1.length (a.length + 1)).2) ∧ zf (mg am [3] [24]) M1 M' := by
        intro M1 L1 hl1 hT1 h31 hma1 hL1
        have hfz : zf (mg am [3] [24]) M1 (zm_setI M1 12 am 3 (nI (a.length + 1))) := zf_set (.inl ⟨rfl, rfl, by simp⟩)
        obtain ⟨M', g1, g2, g3, g4⟩ := ih (a ++ [x]) (zm_setI M1 12 am 3 (nI (a.length + 1))) L1 (by rw [e]; simp) (ml_set hl1) (by
          refine ⟨by rw [pm_ne (by omega)]; exact hT1.1, ?_⟩
          intro i y hy
          rw [pm_ne (by omega)]
          exact hT1.2 i y hy) (by rw [pm_same]; simp) (by
          refine ⟨?_, hma1.2⟩
          intro i y hy
          rw [pm_ne (by omega)]
          exact hma1.1 i y hy) hL1 fuel (by simp at hf; omega)
        simp only [List.length_append, List.length_cons, List.length_nil, Nat.zero_add] at g1 g2 g3 ⊢
        refine ⟨M', ?_, g2, g3, zf_trans hfz g4⟩
        rw [← g1]
        simp only [mo_lettersOnTape_64, zlet, h31, nI_1]
      unfold py_tl
      simp only [mo_lettersOnTape_7, hT.1, h3, if_neg hge, hh, Option.bind_some, e32]
      by_cases q : x = 32
      · rw [if_pos q, if_pos q]
        exact hnext M L hl hT h3 hma hL
      · rw [if_neg q, if_neg q]
        simp only [mr_isLetter (show x < 256 by omega), Option.bind_some]
        by_cases q1 : 97 ≤ x ∧ x ≤ 122
        · rw [decide_eq_true q1, pb_zbt, if_neg (by decide)]
          simp only [e24]
          by_cases q2 : L.length = 24
          · rw [if_pos q2, if_neg (fun y => y.2 q2)]
            refine ⟨M, rfl, fun l hl => (by cases hl), fun _ => h3, zf_refl _ _⟩
          · rw [if_neg q2, if_pos ⟨q1, q2⟩]
            have hz : z_in (nI L.length) 26 := nI_in (by omega) (by omega)
            have e97 : nI x - 97 = nI (x - 97) := pk_sub (a := x) (b := 97) (by omega)
            have hfz : zf (mg am [3] [24]) M (zm_setI M 20 (am + 24) L.length (nI (x - 97))) := zf_set (.inr ⟨.inl rfl, 24, by simp, rfl⟩)
            obtain ⟨M', g1, g2, g3, g4⟩ := hnext (zm_setI M 20 (am + 24) L.length (nI (x - 97))) (L ++ [x - 97]) (ml_set hl) (by
              refine ⟨by rw [pm_ne (by omega)]; exact hT.1, ?_⟩
              intro i y hy
              rw [pm_ne (by omega)]
              exact hT.2 i y hy) (by rw [pm_ne (by omega)]; exact h3) (by
              refine ⟨?_, ?_⟩
              · intro i y hy
                by_cases ei : i < L.length
                · rw [List.getElem?_append_left ei] at hy
                  rw [pm_ne (by omega)]
                  exact hma.1 i y hy
                · have e2 : i = L.length := by
                    have := (List.getElem?_eq_some_iff.mp hy).1
                    simp at this
                    omega
                  subst e2
                  simp at hy
                  subst hy
                  rw [pm_same]
              · intro y hy
                rcases List.mem_append.mp hy with z | z
                · exact hma.2 y z
                · have : y = x - 97 := by simpa using z
                  omega) (by simp; omega)
            simp only [List.length_append, List.length_cons, List.length_nil, Nat.zero_add] at g1 g2 g3
            refine ⟨M', ?_, ?_, ?_, zf_trans hfz g4⟩
            · simp only [ml_R37 hl, ml_L37 hl, hh, Option.bind_some, if_pos hz, nI_clamp (show L.length < 2 ^ 31 by omega), e97, zlet, nI_1, g1]
              cases ht : (py_tl b (L.length + 1) (a.length + 1)).1 with
              | none => rfl
              | some l =>
                have : L.length + 1 + l.length = L.length + (l.length + 1) := by omega
                simp [this]
            · intro l hl'
              cases ht : (py_tl b (L.length + 1) (a.length + 1)).1 with
              | none => rw [ht] at hl'; cases hl'
              | some l' =>
                rw [ht] at hl'
                have : l = (x - 97) :: l' := by simpa using hl'.symm
                have g := g2 l' ht
                rw [this]
                simp only [List.append_assoc, List.cons_append, List.nil_append] at g
                refine ⟨g.1, ?_⟩
                have := g.2
                simp
                omega
            · intro hn
              cases ht : (py_tl b (L.length + 1) (a.length + 1)).1 with
              | none => exact g3 ht
              | some l' => rw [ht] at hn; cases hn
        · rw [decide_eq_false q1, pb_zbf, if_pos rfl, if_neg (fun y => q1 y.1)]
          exact ⟨M, rfl, fun l hl => (by cases hl), fun _ => h3, zf_refl _ _⟩
theorem mr_lettersOnTape (h : mI am M S) (hz : zz_ok S) (hd : 1 ≤ d) : ∃ M', mo_lettersOnTape d am M = some (match (py_tl S.1 0 0).1 with
    | none => -1
    | some l => nI l.length, M') ∧ (∀ l, (py_tl S.1 0 0).1 = some l → ma_x am M' 24 l ∧ l.length ≤ 24) ∧ ((py_tl S.1 0 0).1 = none → zm_I M' 12 am 3 = nI (py_tl S.1 0 0).2) ∧ zf (mg am [3] [24]) M M' := by
  have h400 := hz.1.1
  have hLF := pb_LF
  obtain ⟨d, rfl⟩ : ∃ d', d = d' + 1 := ⟨d - 1, by omega⟩
  have hfz : zf (mg am [3] [24]) M (zm_setI M 12 am 3 0) := zf_set (.inl ⟨rfl, rfl, by simp⟩)
  have hLF2 : 400 < zLF := hLF
  obtain ⟨M', g1, g2, g3, g4⟩ := mr_lettersOnTape_7 (am := am) (d := d) hz.1 S.1 [] (zm_setI M 12 am 3 0) [] rfl (ml_set h.1) (by
    refine ⟨by rw [pm_ne (by omega)]; exact h.2.1.1, ?_⟩
    intro i y hy
    rw [pm_ne (by omega)]
    exact h.2.1.2 i y hy) pm_same ⟨by intro i y hy; simp at hy, by intro y hy; cases hy⟩ (by simp) zLF (by omega)
  simp only [List.length_nil, List.nil_append] at g1 g2 g3
  have g1' : mo_lettersOnTape_7 d zLF am 0 (zm_setI M 12 am 3 0) = _ := g1
  refine ⟨M', ?_, g2, g3, zf_trans hfz g4⟩
  rw [← g1']
  have eb : mo_lettersOnTape (d + 1) am M = mo_lettersOnTape_b d am M := rfl
  rw [eb]
  unfold mo_lettersOnTape_b
  simp only [zlet]
/-! the copies -/
theorem mr_reads_117 {ls : List Nat} (hl24 : ls.length ≤ 24) : ∀ (m k : Nat) (M : zM), k + m = ls.length → ml_ok am M → ma_x am M 24 ls → (∀ i x, ls[i]? = some x → i < k → zm_I M 20 (am + 27) i = nI x) → ∀ fuel, m < fuel → ∃ M', mo_reads_117 d fuel am (nI ls.length) (nI k) M = mo_reads_142 d zLF am (nI ls.length) 0 M' ∧ ma_x am M' 27 ls ∧ zf (mg am [] [27]) M M' := by
  intro m
  induction m with
  | zero =>
    intro k M hk hl hma hc fuel hf
    cases fuel with
    | zero => cases hf
    | succ fuel =>
      have : k = ls.length := by omega
      subst this
      refine ⟨M, by simp [mo_reads_117], ⟨?_, hma.2⟩, zf_refl _ _⟩
      intro i x hx
      exact hc i x hx (List.getElem?_eq_some_iff.mp hx).1
  | succ m ih =>
    intro k M hk hl hma hc fuel hf
    cases fuel with
    | zero => cases hf
    | succ fuel =>
      have hkl : k < ls.length := by omega
      have hge : ¬ nI ls.length ≤ nI k := nI_ge (by omega) (by omega)
      have z26 : z_in (nI k) 26 := nI_in (by omega) (by omega)
      have z24 : z_in (nI k) 24 := nI_in (by omega) (by omega)
      have hg : ls[k]? = some ls[k] := by simp
      have hfz : zf (mg am [] [27]) M (zm_setI M 20 (am + 27) k (nI ls[k])) := zf_set (.inr ⟨.inl rfl, 27, by simp, rfl⟩)
      obtain ⟨M', g1, g2, g3⟩ := ih (k + 1) _ (by omega) (ml_zf hl hfz) (ma_mg hma hfz (by simp)) (by
        intro i x hx hik
        by_cases e : i = k
        · subst e
          rw [pm_same]
          rw [hg] at hx
          injection hx with hx
          rw [hx]
        · rw [pm_ne (by omega)]
          exact hc i x hx (by omega)) fuel (by omega)
      refine ⟨M', ?_, g2, zf_trans hfz g3⟩
      rw [← g1]
      simp only [mo_reads_117, if_neg hge, ml_R37 hl, ml_L37 hl, if_pos z26, ml_R48 hl, ml_L48 hl, if_pos z24, nI_clamp (show k < 2 ^ 31 by omega), hma.1 _ _ hg, zlet, nI_1]
theorem mr_reads_142 {g : List (Nat × Option Nat)} (hg24 : g.length ≤ 24) (v2 : Int32) : ∀ (m k : Nat) (M : zM), k + m = g.length → ml_ok am M → mv_x am M g → zm_I M 12 am 43 = nI g.length → (∀ i p, g[i]? = some p → i < k → zm_I M 20 (am + 28) i = nI p.1 ∧ zm_I M 20 (am + 29) i = zo p.2) → ∀ fuel, m < fuel → ∃ M', mo_reads_142 d fuel am v2 (nI k) M = mo_reads_182 d zLF am v2 0 M' ∧ (∀ i p, g[i]? = some p → zm_I M' 20 (am + 28) i = nI p.1 ∧ zm_I M' 20 (am + 29) i = zo p.2) ∧ zf (mg am [] [28, 29]) M M' := by
  intro m
  induction m with
  | zero =>
    intro k M hk hl hg h43 hc fuel hf
    cases fuel with
    | zero => cases hf
    | succ fuel =>
      have : k = g.length := by omega
      subst this
      refine ⟨M, by simp [mo_reads_142, h43], ?_, zf_refl _ _⟩
      intro i p hp
      exact hc i p hp (List.getElem?_eq_some_iff.mp hp).1
  | succ m ih =>
    intro k M hk hl hg h43 hc fuel hf
    cases fuel with
    | zero => cases hf
    | succ fuel =>
      have hkl : k < g.length := by omega
      have hge : ¬ nI g.length ≤ nI k := nI_ge (by omega) (by omega)
      have z26 : z_in (nI k) 26 := nI_in (by omega) (by omega)
      have z24 : z_in (nI k) 24 := nI_in (by omega) (by omega)
      have hgk : g[k]? = some g[k] := by simp
      have hv := hg k _ hgk
      have hfz : zf (mg am [] [28, 29]) M (zm_setI (zm_setI M 20 (am + 28) k (nI g[k].1)) 20 (am + 29) k (zo g[k].2)) := zf_trans (zf_set (.inr ⟨.inl rfl, 28, by simp, rfl⟩)) (zf_set (.inr ⟨.inl rfl, 29, by simp, rfl⟩))
      obtain ⟨M', g1, g2, g3⟩ := ih (k + 1) _ (by omega) (ml_zf hl hfz) (by
        intro i p hp
        rw [mg_a hfz (by decide) (by simp), mg_a hfz (by decide) (by simp)]
        exact hg i p hp) (by rw [mg_f hfz (by simp)]; exact h43) (by
        intro i p hp hik
        by_cases e : i = k
        · subst e
          rw [hgk] at hp
          injection hp with hp
          rw [← hp]
          refine ⟨?_, pm_same⟩
          rw [pm_ne (by omega), pm_same]
        · rw [pm_ne (by omega), pm_ne (by omega), pm_ne (by omega), pm_ne (by omega)]
          exact hc i p hp (by omega)) fuel (by omega)
      refine ⟨M', ?_, g2, zf_trans hfz g3⟩
      rw [← g1]
      simp only [mo_reads_142, h43, if_neg hge, ml_R38 hl, ml_L38 hl, if_pos z26, ml_R49 hl, ml_L49 hl, if_pos z24, nI_clamp (show k < 2 ^ 31 by omega), hv.1, zlet, pm_RI, pm_LI, ml_R39 hl, ml_L39 hl, ml_R50 hl, ml_L50 hl, pm_ne (show (20 : Nat) ≠ 20 ∨ am + 26 ≠ am + 28 ∨ k ≠ k from .inr (.inl (by omega))), hv.2, nI_1]
theorem mr_reads_182 (v2 : Int32) {s : yS} : ∀ (m k : Nat) (M : zM), k + m = 13 → ml_ok am M → mk_x am M 0 s → (∀ i, i < k → zm_I M 20 (am + 30) i = zm_I M 20 (am + 23) i) → ∀ fuel, m < fuel → ∃ M' f', mo_reads_182 d fuel am v2 (nI k) M = mo_reads_182 d (f' + 1) am v2 13 M' ∧ mk_x am M' 0 s ∧ (∀ i, i < 13 → zm_I M' 20 (am + 30) i = zm_I M' 20 (am + 23) i) ∧ zf (mg am [] [30]) M M' := by
  intro m
  induction m with
  | zero =>
    intro k M hk hl hs hc fuel hf
    cases fuel with
    | zero => cases hf
    | succ fuel =>
      have : k = 13 := by omega
      subst this
      exact ⟨M, fuel, rfl, hs, hc, zf_refl _ _⟩
  | succ m ih =>
    intro k M hk hl hs hc fuel hf
    cases fuel with
    | zero => cases hf
    | succ fuel =>
      have hge : ¬ (13 : Int32) ≤ nI k := nI_ge (b := 13) (by omega) (by omega)
      have z1 : z_in (nI k) 208 := nI_in (by omega) (by omega)
      have z2 : z_in (nI k) 13 := nI_in (by omega) (by omega)
      have hfz : zf (mg am [] [30]) M (zm_setI M 20 (am + 30) k (zm_I M 20 (am + 23) k)) := zf_set (.inr ⟨.inl rfl, 30, by simp, rfl⟩)
      obtain ⟨M', f', g1, g2, g3, g4⟩ := ih (k + 1) _ (by omega) (ml_zf hl hfz) (mk_mg hs hfz (by simp)) (by
        intro i hi
        by_cases e : i = k
        · subst e
          rw [pm_same, pm_ne (by omega)]
        · rw [pm_ne (by omega), pm_ne (by omega)]
          exact hc i (by omega)) fuel (by omega)
      refine ⟨M', f', ?_, g2, g3, zf_trans hfz g4⟩
      rw [← g1]
      simp only [mo_reads_182, if_neg hge, ml_R34 hl, ml_L34 hl, if_pos z1, ml_R51 hl, ml_L51 hl, if_pos z2, nI_clamp (show k < 2 ^ 31 by omega), zlet, nI_1]
end
