/-! THE MODEL: all pairs of ways -/
def fw_W (am : Nat) : Nat → Nat → Nat → Prop := mg am [28, 31] [18, 19, 20, 21, 22]
section
variable {am r d : Nat} {P : yP}
theorem mr_findsWitness_40 (hP : py_ok P) {l : List yW} (hd : 165 ≤ d) {p : Option Nat} (hp : ∀ o, p = some o → o < py_nl P) (hll : l.length ≤ 128) (hl : ∀ W, W ∈ l → W.1 < py_nl P ∧ (∀ o, p = some o → py_wok P W) ∧ py_oi W.2.1 ≤ 16) (unc : Bool) (kl9 : Nat → Int32 → Int32 → Int32 → zM → Option (Int32 × zM)) (kl28 : Nat → Int32 → Int32 → Int32 → Int32 → zM → Option (Int32 × zM)) {V : yW} {t : List yW} : ∀ (b a : List yW) (M : zM) (x : Option yB), l = a ++ (b ++ V :: t) → mp_ok am M r P → mw_has am M l → mb_x am M x → zm_I M 12 am 31 = -1 → ∀ fuel, b.length < fuel → ∃ M', mo_findsWitness_40 kl9 kl28 d fuel am (nI r) (zb unc) (zo p) (nI (a.length + b.length)) (nI a.length) M = kl28 am (nI r) (zb unc) (zo p) (nI (a.length + b.length + 1)) M' ∧ mb_x am M' (b.foldl (fun x W => py_fw1 P unc p x V W) x) ∧ zf (fw_W am) M M' ∧ zm_I M' 12 am 31 = -1 := by
  have hnl := ok_nl hP
  intro b
  induction b with
  | nil =>
    intro a M x e h hw hb h31 fuel hf
    cases fuel with
    | zero => cases hf
    | succ fuel => exact ⟨M, by simp [mo_findsWitness_40, zlet, nI_1], by simpa using hb, zf_refl _ _, h31⟩
  | cons W b ih =>
    intro a M x e h hw hb h31 fuel hf
    cases fuel with
    | zero => cases hf
    | succ fuel =>
      have hle : l.length = a.length + (b.length + 1 + (t.length + 1)) := by rw [e]; simp; omega
      have hge : ¬ nI (a.length + (b.length + 1)) ≤ nI a.length := nI_ge (by omega) (by omega)
      have hVm : V ∈ l := by rw [e]; simp
      have hWm : W ∈ l := by rw [e]; simp
      have hv : l[a.length + (b.length + 1)]? = some V := by
        rw [e, List.getElem?_append_right (by omega), Nat.add_sub_cancel_left, List.getElem?_append_right (by simp)]
        simp
      have hw2 : l[a.length]? = some W := by rw [e]; simp
      have hV := hl V hVm
      have hW := hl W hWm
      have hbo := mr_areBoth (d := d) h hw hv hw2 (by omega) hp hV.1 hW.1 (fun o eo => ⟨hV.2.1 o eo, hW.2.1 o eo⟩)
      have hu := mr_isUnlike (d := d) h hw hv hw2 (by omega) (by omega)
      have e1 : a.length + (0 + 1) + b.length = a.length + (b.length + 1) := by omega
      have e2 : nI (a.length + (0 + 1)) = nI a.length + 1 := (nI_1 _).symm
      /- going on with the next -/
      have hnext : ∀ (M1 : zM) (x1 : Option yB), mp_ok am M1 r P → mw_has am M1 l → mb_x am M1 x1 → zm_I M1 12 am 31 = -1 → ∃ M', mo_findsWitness_85 kl9 kl28 (fun p0 p1 p2 p3 p4 p5 m => mo_findsWitness_40 kl9 kl28 d fuel p0 p1 p2 p3 p4 p5 m) d am (nI r) (zb unc) (zo p) (nI (a.length + (b.length + 1))) (nI a.length) M1 = kl28 am (nI r) (zb unc) (zo p) (nI (a.length + (b.length + 1) + 1)) M' ∧ mb_x am M' (b.foldl (fun x W => py_fw1 P unc p x V W) x1) ∧ zf (fw_W am) M1 M' ∧ zm_I M' 12 am 31 = -1 := by
        intro M1 x1 h1 hw1 hb1 h311
        obtain ⟨M', g1, g2⟩ := ih (a ++ [W]) M1 x1 (by rw [e]; simp) h1 hw1 hb1 h311 fuel (by simp at hf; omega)
        simp only [List.length_append, List.length_cons, List.length_nil] at g1
        rw [e1, e2] at g1
        refine ⟨M', ?_, g2⟩
        rw [← g1]
        simp only [mo_findsWitness_85, zlet]
      /- a pair that passes the first question -/
      have h62 : py_cf1 P unc p V W = py_both P p V W → ∃ M', mo_findsWitness_62 kl9 kl28 (fun p0 p1 p2 p3 p4 p5 m => mo_findsWitness_40 kl9 kl28 d fuel p0 p1 p2 p3 p4 p5 m) d am (nI r) (zb unc) (zo p) (nI (a.length + (b.length + 1))) (nI a.length) M = kl28 am (nI r) (zb unc) (zo p) (nI (a.length + (b.length + 1) + 1)) M' ∧ mb_x am M' ((W :: b).foldl (fun x W => py_fw1 P unc p x V W) x) ∧ zf (fw_W am) M M' ∧ zm_I M' 12 am 31 = -1 := by
        intro ecf
        unfold mo_findsWitness_62
        rw [hbo, List.foldl_cons]
        simp only [Option.bind_some]
        unfold py_fw1
        rw [ecf]
        cases hbb : py_both P p V W
        · simp only [pb_zbf, if_true, Bool.false_eq_true, if_false]
          exact hnext M x h hw hb h31
        · rw [pb_zbt, if_neg (by decide)]
          simp only [if_true]
          obtain ⟨M1, f1, f2, f3, f4⟩ := mr_tries (d := d) h hw hv hw2 hb hd hp (by omega) (by omega) hV.2.2 hW.2.2 (fun o eo => ⟨hV.2.1 o eo, hW.2.1 o eo⟩) h31
          obtain ⟨M2, g1, g2, g3, g4⟩ := hnext M1 (py_try P p x V W) (mp_zf h f3 (by simp)) (mw_zf hw f3 (by simp) (by simp)) f2 f4
          refine ⟨M2, ?_, g2, zf_trans f3 g3, g4⟩
          rw [f1]
          exact g1
      simp only [List.length_cons]
      simp only [mo_findsWitness_40, if_neg hge]
      cases unc
      · have ecf : py_cf1 P false p V W = py_both P p V W := by simp [py_cf1]
        rw [pb_zbf, if_pos rfl]
        exact h62 ecf
      · rw [pb_zbt, if_neg (by decide), hu]
        simp only [Option.bind_some]
        by_cases q : V.1 = W.1
        · have ecf : py_cf1 P true p V W = false := by simp [py_cf1, q]
          have eq : (V.1 != W.1) = false := by simp [q]
          rw [eq, pb_zbf, if_pos rfl, List.foldl_cons]
          have : py_fw1 P true p x V W = x := by simp [py_fw1, ecf]
          rw [this]
          exact hnext M x h hw hb h31
        · have q' : (V.1 != W.1) = true := by simpa using q
          have ecf : py_cf1 P true p V W = py_both P p V W := by simp [py_cf1, q']
          rw [q', pb_zbt, if_neg (by decide)]
          exact h62 ecf
theorem mr_findsWitness_28 (hP : py_ok P) {l : List yW} (hd : 165 ≤ d) {p : Option Nat} (hp : ∀ o, p = some o → o < py_nl P) (hll : l.length ≤ 128) (hl : ∀ W, W ∈ l → W.1 < py_nl P ∧ (∀ o, p = some o → py_wok P W) ∧ py_oi W.2.1 ≤ 16) (unc : Bool) (kl9 : Nat → Int32 → Int32 → Int32 → zM → Option (Int32 × zM)) : ∀ (b a : List yW) (M : zM) (x : Option yB), l = a ++ b → mp_ok am M r P → mw_has am M l → mb_x am M x → zm_I M 12 am 31 = -1 → ∀ fuel, b.length < fuel → ∃ M', mo_findsWitness_28 kl9 d fuel am (nI r) (zb unc) (zo p) (nI a.length) M = kl9 am (nI r) (zb unc) (zo p + 1) M' ∧ mb_x am M' (py_pf (py_fw1 P unc p) a b x) ∧ zf (fw_W am) M M' ∧ zm_I M' 12 am 31 = -1 := by
  intro b
  induction b with
  | nil =>
    intro a M x e h hw hb h31 fuel hf
    cases fuel with
    | zero => cases hf
    | succ fuel =>
      have : l.length = a.length := by rw [e]; simp
      exact ⟨M, by simp [mo_findsWitness_28, hw.1, this, zlet], hb, zf_refl _ _, h31⟩
  | cons V b ih =>
    intro a M x e h hw hb h31 fuel hf
    cases fuel with
    | zero => cases hf
    | succ fuel =>
      have hle : l.length = a.length + (b.length + 1) := by rw [e]; simp
      have hge : ¬ nI l.length ≤ nI a.length := nI_ge (by omega) (by omega)
      have hLF := pb_LF
      obtain ⟨M1, e1, e2, e3, e4⟩ := mr_findsWitness_40 (am := am) (r := r) (d := d) hP hd hp hll hl unc kl9 (fun p0 p1 p2 p3 p4 m => mo_findsWitness_28 kl9 d fuel p0 p1 p2 p3 p4 m) (V := V) (t := b) a [] M x (by rw [e]; simp) h hw hb h31 zLF (by omega)
      simp only [List.length_nil, Nat.zero_add] at e1
      obtain ⟨M2, f1, f2, f3, f4⟩ := ih (a ++ [V]) M1 _ (by rw [e]; simp) (mp_zf h e3 (by simp)) (mw_zf hw e3 (by simp) (by simp)) e2 e4 fuel (by simp at hf; omega)
      simp only [List.length_append, List.length_cons, List.length_nil, Nat.zero_add] at f1
      rw [f1] at e1
      refine ⟨M2, ?_, f2, zf_trans e3 f3, f4⟩
      rw [← e1]
      simp only [mo_findsWitness_28, hw.1, if_neg hge]
      rfl
theorem mr_findsWitness_9 (hd : 165 ≤ d) (unc : Bool) : ∀ (m k : Nat) (M : zM) (x : Option yB), mp_ok am M r P → mb_x am M x → zm_I M 12 am 31 = -1 → k + m = py_nl P + 1 → ∀ fuel, m < fuel → ∃ M', mo_findsWitness_9 d fuel am (nI r) (zb unc) (zo (py_po k)) M = some (zb (py_fws P unc (List.range' k m) x).isSome, M') ∧ mb_x am M' (py_fws P unc (List.range' k m) x) ∧ zf (mg am [26, 28, 31] [14, 15, 16, 17, 18, 19, 20, 21, 22]) M M' ∧ zm_I M' 12 am 31 = -1 := by
  intro m
  induction m with
  | zero =>
    intro k M x h hb h31 hk fuel hf
    have hnl := ok_nl h.1
    cases fuel with
    | zero => cases hf
    | succ fuel =>
      have e : k = py_nl P + 1 := by omega
      subst e
      refine ⟨M, ?_, by simpa [py_fws] using hb, zf_refl _ _, h31⟩
      have i5 : z_in 5 7 := by decide
      have c5 : (5 : Int32).toNatClampNeg = 5 := by decide
      have hl := h.2.1
      have hle : nI (py_nl P) ≤ zo (py_po (py_nl P + 1)) := nI_le (Nat.le_refl _) (by omega)
      simp only [mo_findsWitness_9, mr_nl h, Option.bind_some, if_pos hle, ml_R32 hl, ml_L32 hl, if_pos i5, c5, List.range'_zero, py_fws]
      cases x with
      | none =>
        have hb' : zm_I M 20 (am + 21) 5 = -1 := hb
        simp [hb', mo_findsWitness_118, zb]
      | some b =>
        have b5 := hb.2.2.2.2.2.1
        have b7 := hb.2.2.2.2.2.2.2.1
        have hne : ¬ nI b.2.2.2.length = -1 := pb_ne1 (by omega)
        simp [b5, hne, mo_findsWitness_118, zb]
  | succ m ih =>
    intro k M x h hb h31 hk fuel hf
    have hnl := ok_nl h.1
    have hLF := pb_LF
    cases fuel with
    | zero => cases hf
    | succ fuel =>
      have hpo : ∀ o, py_po k = some o → o < py_nl P := by
        intro o e
        cases k with
        | zero => cases e
        | succ k => injection e with e; omega
      have hge : ¬ nI (py_nl P) ≤ zo (py_po k) := by
        cases k with
        | zero =>
          show ¬ nI (py_nl P) ≤ -1
          intro x
          rw [fa_le, nI_toInt (by omega)] at x
          have : ((-1 : Int32)).toInt = -1 := by decide
          omega
        | succ k => exact nI_ge (by omega) (by omega)
      obtain ⟨M1, e1, e2, e3⟩ := mr_laysWays (d := d) h (by omega) hpo
      have h1 := mp_W h e2
      have hwl := ways_len h.1 hpo
      obtain ⟨M2, f1, f2, f3, f4⟩ := mr_findsWitness_28 (am := am) (r := r) (d := d) h.1 hd hpo (by omega) (fun W hW => ⟨(ways_lt h.1 hpo hW).1, (ways_lt h.1 hpo hW).2, ways_by h.1 hpo hW⟩) unc (fun p0 p1 p2 p3 m => mo_findsWitness_9 d fuel p0 p1 p2 p3 m) (py_ways P (py_po k)) [] M1 x rfl h1 e3 (mb_zf hb e2 (by simp) (by simp)) (by rw [mg_f e2 (by simp)]; exact h31) zLF (by omega)
      obtain ⟨M3, g1, g2, g3, g4⟩ := ih (k + 1) M2 _ (mp_zf h1 f3 (by simp)) f2 f4 (by omega) fuel (by omega)
      refine ⟨M3, ?_, ?_, zf_trans (zf_mono e2 (mg_mono (by simp) (by simp))) (zf_trans (zf_mono f3 (mg_mono (by simp) (by simp))) g3), g4⟩
      · rw [List.range'_succ]
        show _ = some (zb (py_fws P unc (List.range' (k + 1) m) (py_pf (py_fw1 P unc (py_po k)) [] (py_ways P (py_po k)) x)).isSome, M3)
        rw [← g1, ← po_s]
        simp only [mo_findsWitness_9, mr_nl h, Option.bind_some, if_neg hge, e1]
        exact f1
      · rw [List.range'_succ]
        exact g2
theorem mr_findsWitness {M : zM} (h : mp_ok am M r P) (hd : 166 ≤ d) (unc : Bool) (h31 : zm_I M 12 am 31 = -1) : ∃ M', mo_findsWitness d am (nI r) (zb unc) M = some (zb (py_fw P unc).isSome, M') ∧ mb_x am M' (py_fw P unc) ∧ zf (mg am [26, 28, 31] [14, 15, 16, 17, 18, 19, 20, 21, 22]) M M' ∧ zm_I M' 12 am 31 = -1 := by
  have hnl := ok_nl h.1
  have hLF := pb_LF
  have i5 : z_in 5 7 := by decide
  have c5 : (5 : Int32).toNatClampNeg = 5 := by decide
  obtain ⟨d, rfl⟩ : ∃ d', d = d' + 1 := ⟨d - 1, by omega⟩
  have hz : zf (mg am [26, 28, 31] [14, 15, 16, 17, 18, 19, 20, 21, 22]) M (zm_setI M 20 (am + 21) 5 (-1)) := zf_set (.inr ⟨.inl rfl, 21, by simp, rfl⟩)
  have hb0 : mb_x am (zm_setI M 20 (am + 21) 5 (-1)) none := pm_same
  obtain ⟨M', e1, e2, e3, e4⟩ := mr_findsWitness_9 (am := am) (r := r) (d := d) (by omega) unc (py_nl P + 1) 0 _ none (mp_zf h hz (by simp)) hb0 (by rw [pm_ne (by omega)]; exact h31) (by omega) zLF (by omega)
  refine ⟨M', ?_, e2, zf_trans hz e3, e4⟩
  show mo_findsWitness_b d am (nI r) (zb unc) M = _
  unfold mo_findsWitness_b
  simp only [ml_R32 h.2.1, ml_L32 h.2.1, if_pos i5, c5, zlet]
  exact e1
end
