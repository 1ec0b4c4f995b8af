/-! THE CLASS: a witness is weighed -/
section
variable {M M' : zM} {pa : Nat → Nat} {P : yP} {d sp wi Q : Nat} {T : List Nat} {en ov : Int32} {x : Option yB} {p : Option Nat}
theorem ls_self (T : List Nat) : py_ls T T = false := by
  unfold py_ls
  rw [lex_self, decide_eq_false (by omega)]
  simp
theorem cX_ww (hP : py_ok P) (h : cX M pa Q P) (hf : zr (ww_W wi sp) M M') (hq : Q + 10 ≤ sp) (hwi : sp + 4 ≤ wi) : cX M' pa Q P := by
  refine cX_gen hP h ?_ ?_ ?_ ?_ ?_ (by rw [zr_n hf]; exact Nat.le_refl _)
  · intro n _ j
    have n3 : ¬ ww_W wi sp 3 (pa n) j := by rintro (⟨e, _⟩ | ⟨e, _⟩ | ⟨⟨e, _⟩ | ⟨e, _⟩ | ⟨e, _⟩, _⟩) <;> cases e
    exact ⟨zr_I hf n3, zr_R hf n3⟩
  · intro n _
    have n3 : ∀ j, ¬ ww_W wi sp 21 (pa n + 1) j := by rintro j (⟨e, _⟩ | ⟨e, _⟩ | ⟨⟨e, _⟩ | ⟨e, _⟩ | ⟨e, _⟩, _⟩) <;> cases e
    exact ⟨fun j => zr_I hf (n3 j), by rw [zr_L hf]⟩
  · intro j _
    have n3 : ¬ ww_W wi sp 5 Q j := by rintro (⟨e, _⟩ | ⟨e, _⟩ | ⟨⟨e, _⟩ | ⟨e, _⟩ | ⟨e, _⟩, _⟩) <;> cases e
    exact ⟨zr_I hf n3, zr_R hf n3⟩
  · intro i hi
    have n3 : ∀ j, ¬ ww_W wi sp 20 (Q + i) j := by
      rintro j (⟨e, _⟩ | ⟨_, e⟩ | ⟨⟨e, _⟩ | ⟨_, e⟩ | ⟨e, _⟩, _⟩)
      · cases e
      · omega
      · cases e
      · omega
      · cases e
    exact ⟨fun j => zr_I hf (n3 j), by rw [zr_L hf]⟩
  · intro i hi
    have n3 : ∀ j, ¬ ww_W wi sp 24 (Q + i) j := by
      rintro j (⟨e, _⟩ | ⟨e, _⟩ | ⟨⟨e, _⟩ | ⟨e, _⟩ | ⟨_, e⟩, _⟩)
      · cases e
      · cases e
      · cases e
      · cases e
      · omega
    exact ⟨fun j => zr_R hf (n3 j), by rw [zr_L hf]⟩
/-- what a weighing leaves -/
def wt_w (M : zM) (wi : Nat) (x : Option yB) (T : List Nat) (w : Int32) : Prop := wt_l M wi ∧ zm_I M 10 wi 7 = w ∧ (w = -1 → wt_t M wi T) ∧ (∀ b, x = some b → w ≠ -1 → wt_t M wi b.2.2.2)
theorem cl_w149 (hx : sl_x M sp T) (hT : T.length ≤ 2304) (hl : wt_l M wi) (hwi : sp + 4 ≤ wi) {w : Int32} (hw : w = -1 ∨ w = 0 ∨ w = 1) (hb : ∀ b, x = some b → wt_t M wi b.2.2.2) : ∃ M', wi_weigh_149 d wi (some sp) (some wi) w M = some M' ∧ wt_w M' wi x T w ∧ zf (fun t k j => (t = 20 ∧ k = wi + 1) ∨ (t = 10 ∧ k = wi ∧ (j = 5 ∨ j = 7))) M M' := by
  have f1 : zf (fun t k j => (t = 20 ∧ k = wi + 1) ∨ (t = 10 ∧ k = wi ∧ (j = 5 ∨ j = 7))) M (zm_setI M 10 wi 7 w) := zf_set (.inr ⟨rfl, rfl, .inr rfl⟩)
  have l1 : wt_l (zm_setI M 10 wi 7 w) wi := by
    unfold wt_l
    rw [pm_RI, pm_LI]
    exact hl
  have t1 : ∀ U, wt_t M wi U → wt_t (zm_setI M 10 wi 7 w) wi U := by
    intro U hU
    refine ⟨by rw [pm_ne (by omega)]; exact hU.1, hU.2.1, ?_, hU.2.2.2⟩
    intro i y hy
    rw [pm_ne (by omega)]
    exact hU.2.2.1 i y hy
  unfold wi_weigh_149 wi_weigh_165
  simp only [zlet, pm_same]
  by_cases q : w = -1
  · subst q
    rw [if_neg (by decide)]
    have x1 : sl_x (zm_setI M 10 wi 7 (-1)) sp T := by
      refine ⟨sll_zf hx.1 f1, by rw [pm_ne (by omega)]; exact hx.2.1, hx.2.2.1, ?_, hx.2.2.2.2⟩
      intro i y hy
      rw [pm_ne (by omega)]
      exact hx.2.2.2.1 i y hy
    obtain ⟨M2, a1, a2, a3⟩ := cl_wkeep (d := d) x1 hT l1 hwi
    rw [a1, Option.bind_some]
    refine ⟨M2, rfl, ⟨?_, ?_, fun _ => a2, fun b _ h => absurd rfl h⟩, zf_trans f1 (zf_mono a3 ?_)⟩
    · unfold wt_l
      rw [a3.1, a3.2.1]
      exact l1
    · rw [a3.2.2.2.2.2.2 _ _ _ (by rintro (⟨e, _⟩ | ⟨_, _, e⟩) <;> cases e), pm_same]
    · rintro t k j (w | ⟨w1, w2, w3⟩)
      · exact .inl w
      · exact .inr ⟨w1, w2, .inl w3⟩
  · have q2 : (0 : Int32) ≤ w := by
      rcases hw with h | h | h
      · exact absurd h q
      · rw [h]; decide
      · rw [h]; decide
    rw [if_pos q2]
    exact ⟨_, rfl, ⟨l1, by rw [pm_same], fun h => absurd h q, fun b hb' _ => t1 _ (hb b hb')⟩, f1⟩
theorem cl_w57 (hP : py_ok P) (hq : Q + 10 ≤ sp) (hwi : sp + 4 ≤ wi) (hd : 71 ≤ d) (hX : cX M pa Q P) (hl : sl_l M sp) (hwt : wt_x M wi x) (hen : ∀ c, c < py_nc P → zbt en c = true → 2 ≤ py_fr P c) (hp : ∀ o, p = some o → o < py_nl P) : ∃ M', wi_weigh_57 d wi (some Q) (zo p) en ov (some sp) M = some M' ∧ wt_w M' wi x (py_txb P p en ov) (py_wc x (py_txb P p en ov)) ∧ zm_I M' 10 wi 8 = 1 ∧ zm_I M' 10 wi 9 = zo p ∧ zm_I M' 10 wi 10 = en ∧ zm_I M' 10 wi 11 = ov ∧ sl_l M' sp ∧ zr (ww_W wi sp) M M' := by
  obtain ⟨M0, hM0⟩ : ∃ Y, Y = zm_setI (zm_setI (zm_setI (zm_setI M 10 wi 8 1) 10 wi 9 (zo p)) 10 wi 10 en) 10 wi 11 ov := ⟨_, rfl⟩
  have f0 : zf (fun t k j => t = 10 ∧ k = wi ∧ 8 ≤ j ∧ j ≤ 11) M M0 := by
    rw [hM0]
    exact zf_trans (zf_trans (zf_trans (zf_set ⟨rfl, rfl, by omega, by omega⟩) (zf_set ⟨rfl, rfl, by omega, by omega⟩)) (zf_set ⟨rfl, rfl, by omega, by omega⟩)) (zf_set ⟨rfl, rfl, by omega, by omega⟩)
  have g8 : zm_I M0 10 wi 8 = 1 := by rw [hM0, pm_ne (by omega), pm_ne (by omega), pm_ne (by omega), pm_same]
  have g9 : zm_I M0 10 wi 9 = zo p := by rw [hM0, pm_ne (by omega), pm_ne (by omega), pm_same]
  have g10 : zm_I M0 10 wi 10 = en := by rw [hM0, pm_ne (by omega), pm_same]
  have g11 : zm_I M0 10 wi 11 = ov := by rw [hM0, pm_same]
  have F0 : zr (ww_W wi sp) M M0 := zr_mono (zr_zf f0) (fun t k j w => .inl ⟨w.1, w.2.1, by omega⟩)
  have hX0 := cX_ww hP hX F0 hq hwi
  have hl0 : sl_l M0 sp := sll_zf hl f0
  have nf : ∀ t k j, ¬ (t = 10 ∧ k = wi ∧ 8 ≤ j ∧ j ≤ 11) → zm_I M0 t k j = zm_I M t k j := fun t k j w => f0.2.2.2.2.2.2 t k j w
  have wl0 : wt_l M0 wi := by unfold wt_l; rw [f0.1, f0.2.1]; exact hwt.1
  have w10 : zm_I M0 10 wi 1 = zb x.isSome := by rw [nf _ _ _ (by omega)]; exact hwt.2.1
  have wb0 : ∀ b, x = some b → wt_t M0 wi b.2.2.2 := fun b hb => wtt_zr (hwt.2.2 b hb).2.2.2.1 (zr_zf f0) (by omega) (by omega)
  have hTl := txb_len (en := en) (ov := ov) hP hp
  have hb2 : ∀ y, py_dm P y → (py_adb P en ov y).length ≤ 2304 := fun y hy => by have := adb_len (en := en) (ov := ov) hP y hy; omega
  have hlen : sp_lengthUpTo d sp (some Q) (zo p) en ov M0 = some (nI (py_txb P p en ov).length, M0) := by
    rw [cl_lenUp (d := d) hP (by omega) hX0 hen hp]
    cases p with
    | none => rfl
    | some o =>
      show some (nI ((py_adb P en ov (py_lf P o)).length + 1), M0) = some (nI (py_adb P en ov (py_lf P o) ++ [py_lt P o]).length, M0)
      rw [List.length_append, List.length_singleton]
  have w112 : (∀ b, x = some b → (py_txb P p en ov).length ≤ b.2.2.2.length) → ∃ M', wi_weigh_112 d wi (some Q) (zo p) en ov (some sp) (nI (py_txb P p en ov).length) M0 = some M' ∧ wt_w M' wi x (py_txb P p en ov) (py_wc x (py_txb P p en ov)) ∧ zm_I M' 10 wi 8 = 1 ∧ zm_I M' 10 wi 9 = zo p ∧ zm_I M' 10 wi 10 = en ∧ zm_I M' 10 wi 11 = ov ∧ sl_l M' sp ∧ zr (ww_W wi sp) M M' := by
    intro hle
    obtain ⟨M1, a1, a2, a3⟩ := cl_spellUp (d := d) hP hq hd hX0 hl0 hen hb2 hp
    have a2 : sl_x M1 sp (py_txb P p en ov) := by
      cases p with
      | none => exact a2
      | some o => exact a2
    have n10 : ∀ k j, ¬ (sq_W sp 10 k j ∧ k ≠ sp + 2) := by
      rintro k j ⟨⟨e, _⟩ | ⟨e, _⟩ | ⟨e, _⟩, _⟩ <;> cases e
    have n20 : ∀ j, ¬ (sq_W sp 20 (wi + 1) j ∧ wi + 1 ≠ sp + 2) := by
      rintro j ⟨⟨e, _⟩ | ⟨_, e⟩ | ⟨e, _⟩, _⟩
      · cases e
      · omega
      · cases e
    have wl1 : wt_l M1 wi := wtl_zr wl0 a3 (n10 _ _)
    have wb1 : ∀ b, x = some b → wt_t M1 wi b.2.2.2 := fun b hb => wtt_zr (wb0 b hb) a3 (n10 _ _) n20
    have F1 : zr (ww_W wi sp) M0 M1 := zr_mono a3 (fun t k j w => .inr (.inr w))
    have fin : ∀ w : Int32, (w = -1 ∨ w = 0 ∨ w = 1) → w = py_wc x (py_txb P p en ov) → ∃ M', wi_weigh_149 d wi (some sp) (some wi) w M1 = some M' ∧ wt_w M' wi x (py_txb P p en ov) (py_wc x (py_txb P p en ov)) ∧ zm_I M' 10 wi 8 = 1 ∧ zm_I M' 10 wi 9 = zo p ∧ zm_I M' 10 wi 10 = en ∧ zm_I M' 10 wi 11 = ov ∧ sl_l M' sp ∧ zr (ww_W wi sp) M M' := by
      intro w hw hww
      obtain ⟨M2, b1, b2, b3⟩ := cl_w149 (d := d) (x := x) a2 hTl wl1 hwi hw wb1
      have F2 : zr (ww_W wi sp) M1 M2 := zr_mono (zr_zf b3) (by
        rintro t k j (w | ⟨w1, w2, w3⟩)
        · exact .inr (.inl w)
        · exact .inl ⟨w1, w2, by omega⟩)
      have keep : ∀ j, 8 ≤ j → zm_I M2 10 wi j = zm_I M0 10 wi j := by
        intro j hj
        rw [b3.2.2.2.2.2.2 _ _ _ (by
          rintro (⟨e, _⟩ | ⟨_, _, e⟩)
          · cases e
          · omega), zr_I a3 (n10 _ _)]
      rw [hww] at b2
      refine ⟨M2, b1, b2, ?_, ?_, ?_, ?_, ?_, zr_trans F0 (zr_trans F1 F2)⟩
      · rw [keep 8 (by omega)]; exact g8
      · rw [keep 9 (by omega)]; exact g9
      · rw [keep 10 (by omega)]; exact g10
      · rw [keep 11 (by omega)]; exact g11
      · exact sll_zf a2.1 b3
    unfold wi_weigh_112
    simp only [a1, Option.bind_some]
    have e1 : zm_I M1 10 wi 1 = zb x.isSome := by rw [zr_I a3 (n10 _ _)]; exact w10
    rw [e1]
    cases hx : x with
    | none =>
      rw [if_pos (show zb (none : Option yB).isSome = 0 from rfl), ← hx]
      exact fin (-1) (.inl rfl) (by rw [hx]; rfl)
    | some b =>
      rw [if_neg (show ¬ zb (some b).isSome = 0 by show ¬ zb true = 0; decide)]
      have t1 := wb1 b hx
      have hbl := t1.2.1
      have hle := hle b hx
      rw [t1.1]
      by_cases q : (py_txb P p en ov).length = b.2.2.2.length
      · rw [if_pos (by rw [q])]
        have hc := cl_comp_2 (d := d) wl1 a2 t1 q (py_txb P p en ov).length 0 (by omega) zLF (by rw [zLF]; omega)
        have hc : wi_compare d wi (some sp) M1 = some (py_cmp (py_txb P p en ov) b.2.2.2, M1) := hc
        rw [hc, Option.bind_some, ← hx]
        refine fin _ ?_ ?_
        · unfold py_cmp
          split
          · exact .inl rfl
          · split
            · exact .inr (.inl rfl)
            · exact .inr (.inr rfl)
        · rw [hx]
          show py_cmp _ _ = if py_ls _ _ then _ else _
          have hls : py_ls (py_txb P p en ov) b.2.2.2 = py_lex (py_txb P p en ov) b.2.2.2 := by
            unfold py_ls
            rw [decide_eq_false (show ¬ (py_txb P p en ov).length < b.2.2.2.length by omega), show ((py_txb P p en ov).length == b.2.2.2.length) = true by simpa using q]
            simp
          rw [hls]
          rfl
      · rw [if_neg (fun e => q ((nI_eq (by omega) (by omega)).mp e)), ← hx]
        refine fin (-1) (.inl rfl) ?_
        rw [hx]
        show (-1 : Int32) = if py_ls _ _ then _ else _
        have hls : py_ls (py_txb P p en ov) b.2.2.2 = true := by
          unfold py_ls
          rw [decide_eq_true (show (py_txb P p en ov).length < b.2.2.2.length by omega)]
          simp
        rw [hls, if_pos rfl]
  unfold wi_weigh_57
  simp only [zlet]
  rw [← hM0]
  simp only [hlen, Option.bind_some, w10]
  cases hx : x with
  | none =>
    rw [if_pos (show zb (none : Option yB).isSome = 0 from rfl), ← hx]
    exact w112 (fun b hb => by rw [hx] at hb; cases hb)
  | some b =>
    rw [if_neg (show ¬ zb (some b).isSome = 0 by show ¬ zb true = 0; decide)]
    have t0 := wb0 b hx
    have hbl := t0.2.1
    rw [t0.1]
    by_cases q : (py_txb P p en ov).length ≤ b.2.2.2.length
    · rw [if_pos ((nI_leI (by omega) (by omega)).mpr q), ← hx]
      exact w112 (fun b' hb' => by rw [hx] at hb'; injection hb' with hb'; rw [← hb']; exact q)
    · rw [if_neg (fun e => q ((nI_leI (by omega) (by omega)).mp e))]
      have hls : py_ls (py_txb P p en ov) b.2.2.2 = false := by
        unfold py_ls
        rw [decide_eq_false (show ¬ (py_txb P p en ov).length < b.2.2.2.length by omega), show ((py_txb P p en ov).length == b.2.2.2.length) = false by simp; omega]
        simp
      have hwc : py_wc (some b) (py_txb P p en ov) = 1 := by
        show (if py_ls _ _ then _ else _) = _
        rw [hls, if_neg (by decide), if_neg (fun e => by rw [e] at q; omega)]
      have f1 : zf (fun t k j => t = 10 ∧ k = wi ∧ j = 7) M0 (zm_setI M0 10 wi 7 1) := zf_set ⟨rfl, rfl, rfl⟩
      refine ⟨_, rfl, ⟨?_, ?_, ?_, ?_⟩, ?_, ?_, ?_, ?_, sll_zf hl0 f1, zr_trans F0 (zr_mono (zr_zf f1) (fun t k j w => .inl ⟨w.1, w.2.1, by omega⟩))⟩
      · unfold wt_l; rw [pm_RI, pm_LI]; exact wl0
      · rw [pm_same, hwc]
      · intro h; rw [hwc] at h; exact absurd h (by decide)
      · intro b' hb' _
        injection hb' with hb'
        subst hb'
        exact wtt_zr t0 (zr_zf f1) (by omega) (by omega)
      · rw [pm_ne (by omega)]; exact g8
      · rw [pm_ne (by omega)]; exact g9
      · rw [pm_ne (by omega)]; exact g10
      · rw [pm_ne (by omega)]; exact g11
theorem cl_weigh (hP : py_ok P) (hq : Q + 10 ≤ sp) (hwi : sp + 4 ≤ wi) (hd : 72 ≤ d) (hX : cX M pa Q P) (hl : sl_l M sp) (hwt : wt_x M wi x) (hwc : wt_c M wi P x) (hen : ∀ c, c < py_nc P → zbt en c = true → 2 ≤ py_fr P c) (hp : ∀ o, p = some o → o < py_nl P) : ∃ M', wi_weigh d wi (some Q) (zo p) en ov (some sp) M = some M' ∧ wt_w M' wi x (py_txb P p en ov) (py_wc x (py_txb P p en ov)) ∧ zm_I M' 10 wi 8 = 1 ∧ zm_I M' 10 wi 9 = zo p ∧ zm_I M' 10 wi 10 = en ∧ zm_I M' 10 wi 11 = ov ∧ sl_l M' sp ∧ zr (ww_W wi sp) M M' := by
  obtain ⟨d, rfl⟩ : ∃ d', d = d' + 1 := ⟨d - 1, by omega⟩
  have h57 := cl_w57 (d := d) (p := p) (ov := ov) hP hq hwi (by omega) hX hl hwt hen hp
  have hnl := ok_nl hP
  have eb : wi_weigh (d + 1) wi (some Q) (zo p) en ov (some sp) M = wi_weigh_b d wi (some Q) (zo p) en ov (some sp) M := rfl
  rw [eb]
  have h29 : ∃ M', wi_weigh_29 d wi (some Q) (zo p) en ov (some sp) M = some M' ∧ wt_w M' wi x (py_txb P p en ov) (py_wc x (py_txb P p en ov)) ∧ zm_I M' 10 wi 8 = 1 ∧ zm_I M' 10 wi 9 = zo p ∧ zm_I M' 10 wi 10 = en ∧ zm_I M' 10 wi 11 = ov ∧ sl_l M' sp ∧ zr (ww_W wi sp) M M' := by
    unfold wi_weigh_29 wi_weigh_30
    split
    · exact h57
    · rw [if_pos rfl]; exact h57
  unfold wi_weigh_b
  by_cases q9 : zm_I M 10 wi 9 = zo p
  · rw [if_pos q9]
    by_cases q10 : zm_I M 10 wi 10 = en
    · rw [if_pos q10]
      by_cases q11 : zm_I M 10 wi 11 = ov
      · rw [if_pos q11]
        unfold wi_weigh_30
        rcases hwc with h8 | ⟨h8, p', en', ov', b, h9, h10, h11, hp16, hxb, hw⟩
        · rw [if_pos h8]; exact h57
        · rw [if_neg (by rw [h8]; decide), if_neg (show ¬ (1 : Int32) = 0 by decide)]
          have epp : p' = p := by
            rw [q9] at h9
            cases p with
            | none =>
              cases p' with
              | none => rfl
              | some o' =>
                have : o' + 1 ≤ 16 := hp16
                exact absurd h9.symm (pb_ne1 (by omega))
            | some o =>
              have := hp o rfl
              cases p' with
              | none => exact absurd h9 (pb_ne1 (by omega))
              | some o' =>
                have : o' + 1 ≤ 16 := hp16
                have h := (nI_eq (by omega) (by omega)).mp h9
                rw [h]
          subst epp
          rw [← h10, q10] at hw
          rw [← h11, q11] at hw
          have tb := (hwt.2.2 b hxb).2.2.2.1
          obtain ⟨v, hv⟩ : ∃ v, v = (if zm_I M 10 wi 7 < 0 then 0 else zm_I M 10 wi 7) := ⟨_, rfl⟩
          have hvw : v = py_wc x (py_txb P p' en ov) ∧ v ≠ -1 := by
            rw [hxb, hv]
            show _ = (if py_ls (py_txb P p' en ov) b.2.2.2 then (-1 : Int32) else if py_txb P p' en ov = b.2.2.2 then 0 else 1) ∧ _
            rcases hw with ⟨h7, ht⟩ | ⟨h7, h1, h2⟩
            · rw [ht, ls_self, if_neg (show ¬ false = true by decide), if_pos rfl]
              rcases h7 with h7 | h7
              · rw [h7]; decide
              · rw [h7]; decide
            · rw [h1, if_neg (show ¬ false = true by decide), if_neg h2, h7]
              decide
          simp only [zlet]
          rw [← hv]
          have f1 : zf (fun t k j => t = 10 ∧ k = wi ∧ j = 7) M (zm_setI M 10 wi 7 v) := zf_set ⟨rfl, rfl, rfl⟩
          refine ⟨_, rfl, ⟨?_, ?_, ?_, ?_⟩, ?_, ?_, ?_, ?_, sll_zf hl f1, zr_mono (zr_zf f1) (fun t k j w => .inl ⟨w.1, w.2.1, by omega⟩)⟩
          · unfold wt_l; rw [pm_RI, pm_LI]; exact hwt.1
          · rw [pm_same]; exact hvw.1
          · intro h; rw [← hvw.1] at h; exact absurd h hvw.2
          · intro b' hb' _
            rw [hxb] at hb'
            injection hb' with hb'
            subst hb'
            exact wtt_zr tb (zr_zf f1) (by omega) (by omega)
          · rw [pm_ne (by omega)]; exact h8
          · rw [pm_ne (by omega)]; exact h9
          · rw [pm_ne (by omega)]; exact q10
          · rw [pm_ne (by omega)]; exact q11
      · rw [if_neg q11]; exact h29
    · rw [if_neg q10]; exact h29
  · rw [if_neg q9]; exact h29
end
