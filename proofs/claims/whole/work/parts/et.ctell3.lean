/-! THE CLASS: a message, the whole -/
def do_tellT (d : Nat) (t0 : Nat) (v1 : Int32) (M : zM) : Option zM := ((do_write2 d t0 (some 0) M).bind fun q5 => (match (zm_R q5 1 t0 6) with | none => none | some k7 => (if z_in v1 (zm_L q5 20 k7) then ((do_heldAt d t0 v1 (zm_I q5 20 k7 (v1 : Int32).toNatClampNeg) q5).bind fun q10 => (if q10.1 = (-1) then ((do_write2 d t0 (some 1) q10.2).bind fun q16 => do_tell_96 d t0 v1 q16) else (match (zm_R q10.2 1 t0 1) with | none => none | some k18 => (if z_in q10.1 (zm_L q10.2 20 k18) then ((do_write d t0 (97 + (zm_I q10.2 20 k18 q10.1.toNatClampNeg)) q10.2).bind fun q21 => do_tell_96 d t0 v1 q21) else none)))) else none)))
section
variable {M M' : zM} {d dc : Nat} {D : List yT} {w : List Int32}
theorem ct_0 : tq_txt.getD 0 [] = [58, 32] := rfl
theorem ct_1 : tq_txt.getD 1 [] = [101, 110, 100] := rfl
theorem ct_2 : tq_txt.getD 2 [] = [32, 97, 116, 32] := rfl
theorem ct_3 : tq_txt.getD 3 [] = [44, 32] := rfl
theorem ct_4 : tq_txt.getD 4 [] = [32, 111, 114, 32] := rfl
theorem dw_20 {i j : Nat} (hi : i ≤ 8) : ¬ dw_W dc 20 (dc + i) j := by
  rintro (⟨e, _⟩ | ⟨_, e⟩)
  · cases e
  · omega
theorem cl_could_7 (hd : 1 ≤ d) {t beg : Nat} {cl : Int32} {en : Bool} (ht : t < 60) (hbeg : beg ≤ 160) : ∀ (m v : Nat) (M : zM) (w : List Int32) (f : Bool), v + (m + 1) = 27 → do_l M dc → dm_t M dc w → zm_I M 20 (dc + 7) t = cl → zm_I M 20 (dc + 8) t = zb en → (f = true ↔ beg < w.length) → beg ≤ w.length → w.length + (py_or cl en (List.range' v (m + 1)) f).length ≤ 160 → ∀ fuel, m < fuel → ∃ M', do_tellWhatCould_7 d fuel dc (nI t) (nI beg) (nI v) M = some M' ∧ dm_t M' dc (w ++ py_or cl en (List.range' v (m + 1)) f) ∧ zf (dw_W dc) M M' := by
  have hz : z_in (nI t) 60 := nI_in (by omega) (by omega)
  have hcl := nI_clamp (show t < 2 ^ 31 by omega)
  intro m
  induction m with
  | zero =>
    intro v M w f hv hl hw h7 h8 hf hbw hlen fuel hfu
    have hv : v = 26 := by omega
    subst hv
    have hor : py_or cl en (List.range' 26 (0 + 1)) f = if en = true then (if f = true then [32, 111, 114, 32] else []) ++ [101, 110, 100] else [] := by
      show py_or cl en [26] f = _
      unfold py_or py_it
      rw [if_neg (by omega)]
      cases en <;> rfl
    rw [hor] at hlen ⊢
    cases fuel with
    | zero => cases hfu
    | succ fuel =>
      have l8 := hl.1 8 (by omega) (by omega)
      rw [do_tellWhatCould_7, if_pos (show (26 : Int32) ≤ nI 26 by decide)]
      simp only [l8.1, l8.2, if_pos hz, hcl, h8, do_tellWhatCould_83, do_tellWhatCould_77, hw.1]
      cases en with
      | false =>
        rw [if_pos (show zb false = 0 from rfl), if_neg (by decide), List.append_nil]
        exact ⟨M, rfl, hw, zf_refl _ _⟩
      | true =>
        rw [if_pos rfl] at hlen
        rw [if_neg (show ¬ zb true = 0 by decide), if_pos rfl]
        rw [List.length_append] at hlen
        cases f with
        | false =>
          have hwb : ¬ beg < w.length := fun x => by have := hf.mpr x; cases this
          have hw2 := hw.2.1
          rw [if_pos ((nI_leI (by omega) (by omega)).mpr (by omega))]
          rw [if_neg (by decide)] at hlen ⊢
          obtain ⟨M1, a1, a2, a3⟩ := cl_write2 (d := d) ct_1 (by decide) hl hw (by simp at hlen ⊢; omega) hd
          rw [a1, Option.bind_some]
          exact ⟨M1, rfl, a2, a3⟩
        | true =>
          have hwb : beg < w.length := hf.mp rfl
          have hw2 := hw.2.1
          rw [if_neg (fun p => by have := (nI_leI (by omega) (by omega)).mp p; omega)]
          rw [if_pos rfl] at hlen ⊢
          obtain ⟨M1, a1, a2, a3⟩ := cl_write2 (d := d) ct_4 (by decide) hl hw (by simp at hlen ⊢; omega) hd
          obtain ⟨M2, b1, b2, b3⟩ := cl_write2 (d := d) ct_1 (by decide) (dl_zf hl a3) a2 (by simp at hlen ⊢; omega) hd
          rw [a1, Option.bind_some, b1, Option.bind_some]
          refine ⟨M2, rfl, ?_, zf_trans a3 b3⟩
          rw [List.append_assoc] at b2
          exact b2
  | succ m ih =>
    intro v M w f hv hl hw h7 h8 hf hbw hlen fuel hfu
    have hor : py_or cl en (List.range' v (m + 1 + 1)) f = if zbt cl v = true then (if f = true then [32, 111, 114, 32] else []) ++ ([97 + nI v] ++ py_or cl en (List.range' (v + 1) (m + 1)) true) else py_or cl en (List.range' (v + 1) (m + 1)) f := by
      rw [List.range'_succ, py_or]
      unfold py_it
      rw [if_pos (show v < 26 by omega)]
      split
      · rename_i h
        split at h
        · cases h
        · rename_i q
          rw [if_neg q]
      · rename_i u h
        split at h
        · rename_i q
          injection h with h
          subst h
          rw [if_pos q]
        · cases h
    rw [hor] at hlen ⊢
    cases fuel with
    | zero => cases hfu
    | succ fuel =>
      have l7 := hl.1 7 (by omega) (by omega)
      have hw2 := hw.2.1
      have e1 : nI v + 1 = nI (v + 1) := nI_add v 1
      have e26 : (26 : Int32) = nI 26 := rfl
      rw [do_tellWhatCould_7, e26, if_neg (fun p => by have := (nI_leI (by omega) (by omega)).mp p; omega)]
      simp only [l7.1, l7.2, if_pos hz, hcl, h7, do_tellWhatCould_48, do_tellWhatCould_40, hw.1, zlet, zy_has cl (show v < 32 by omega), e1]
      have next : ∀ (M1 : zM) (w1 : List Int32) (f1 : Bool), zf (dw_W dc) M M1 → dm_t M1 dc w1 → (f1 = true ↔ beg < w1.length) → beg ≤ w1.length → w1.length + (py_or cl en (List.range' (v + 1) (m + 1)) f1).length ≤ 160 → ∃ M', do_tellWhatCould_7 d fuel dc (nI t) (nI beg) (nI (v + 1)) M1 = some M' ∧ dm_t M' dc (w1 ++ py_or cl en (List.range' (v + 1) (m + 1)) f1) ∧ zf (dw_W dc) M M' := by
        intro M1 w1 f1 g1 g2 g3 g5 g4
        obtain ⟨M', k1, k2, k3⟩ := ih (v + 1) M1 w1 f1 (by omega) (dl_zf hl g1) g2 (by rw [g1.2.2.2.2.2.2 _ _ _ (dw_20 (by omega))]; exact h7) (by rw [g1.2.2.2.2.2.2 _ _ _ (dw_20 (by omega))]; exact h8) g3 g5 g4 fuel (by omega)
        exact ⟨M', k1, k2, zf_trans g1 k3⟩
      by_cases q : zbt cl v = true
      · rw [if_pos q] at hlen ⊢
        rw [if_pos q, if_neg (show ¬ (1 : Int32) = 0 by decide)]
        rw [List.length_append, List.length_append, List.length_singleton] at hlen
        cases f with
        | false =>
          have hwb : ¬ beg < w.length := fun x => by have := hf.mpr x; cases this
          rw [if_pos ((nI_leI (by omega) (by omega)).mpr (by omega))]
          rw [if_neg (by decide)] at hlen ⊢
          rw [List.length_nil] at hlen
          obtain ⟨M1, a1, a2, a3⟩ := cl_write (d := d) hl hw (by omega) (97 + nI v)
          rw [a1, Option.bind_some]
          obtain ⟨M2, k1, k2, k3⟩ := next M1 (w ++ [97 + nI v]) true a3 a2 (by rw [List.length_append, List.length_singleton]; exact ⟨fun _ => by omega, fun _ => rfl⟩) (by rw [List.length_append, List.length_singleton]; omega) (by rw [List.length_append, List.length_singleton]; omega)
          refine ⟨M2, k1, ?_, k3⟩
          rw [List.append_assoc] at k2
          exact k2
        | true =>
          have hwb : beg < w.length := hf.mp rfl
          rw [if_neg (fun p => by have := (nI_leI (by omega) (by omega)).mp p; omega)]
          rw [if_pos rfl] at hlen ⊢
          obtain ⟨M1, a1, a2, a3⟩ := cl_write2 (d := d) ct_4 (by decide) hl hw (by simp at hlen ⊢; omega) hd
          obtain ⟨M2, b1, b2, b3⟩ := cl_write (d := d) (dl_zf hl a3) a2 (by simp at hlen ⊢; omega) (97 + nI v)
          rw [a1, Option.bind_some, b1, Option.bind_some]
          obtain ⟨M3, k1, k2, k3⟩ := next M2 _ true (zf_trans a3 b3) b2 (by rw [List.length_append, List.length_append, List.length_singleton]; exact ⟨fun _ => by omega, fun _ => rfl⟩) (by rw [List.length_append, List.length_append, List.length_singleton]; omega) (by simp at hlen ⊢; omega)
          refine ⟨M3, k1, ?_, k3⟩
          rw [List.append_assoc, List.append_assoc] at k2
          exact k2
      · rw [if_neg q] at hlen ⊢
        rw [if_neg q, if_pos rfl]
        exact next M w f (zf_refl _ _) hw hf hbw hlen
theorem cl_tellCould (hd : 2 ≤ d) {t : Nat} {cl : Int32} {en : Bool} (ht : t < 60) (hl : do_l M dc) (hw : dm_t M dc w) (h7 : zm_I M 20 (dc + 7) t = cl) (h8 : zm_I M 20 (dc + 8) t = zb en) (hlen : w.length + (py_or cl en (List.range' 0 27) false).length ≤ 160) : ∃ M', do_tellWhatCould d dc (nI t) M = some M' ∧ dm_t M' dc (w ++ py_or cl en (List.range' 0 27) false) ∧ zf (dw_W dc) M M' := by
  have hLF2 : 400 < zLF := pb_LF
  obtain ⟨d, rfl⟩ : ∃ d', d = d' + 1 := ⟨d - 1, by omega⟩
  show ∃ M', do_tellWhatCould_b d dc (nI t) M = some M' ∧ _
  unfold do_tellWhatCould_b
  rw [hw.1]
  exact cl_could_7 (d := d) (by omega) ht hw.2.1 26 0 M w false rfl hl hw h7 h8 ⟨fun h => (by cases h), fun h => (by omega)⟩ (Nat.le_refl _) hlen zLF (by omega)
theorem cl_tell_129 (hd : 2 ≤ d) {t pl : Nat} {cl : Int32} {en : Bool} (ht : t < 60) (hl : do_l M dc) (hw : dm_t M dc w) (h6 : zm_I M 20 (dc + 6) t = nI pl) (h7 : zm_I M 20 (dc + 7) t = cl) (h8 : zm_I M 20 (dc + 8) t = zb en) (hlen : w.length + 3 + (py_or cl en (List.range' 0 27) false).length ≤ 160) : ∃ M', do_tell_129 d dc (nI t) M = some M' ∧ dm_t M' dc (w ++ ([48 + (nI pl - nI pl / 10 * 10)] ++ ([44, 32] ++ py_or cl en (List.range' 0 27) false))) ∧ zf (dw_W dc) M M' := by
  have hz : z_in (nI t) 60 := nI_in (by omega) (by omega)
  have hcl := nI_clamp (show t < 2 ^ 31 by omega)
  have l6 := hl.1 6 (by omega) (by omega)
  obtain ⟨M1, a1, a2, a3⟩ := cl_write (d := d) hl hw (by omega) (48 + (nI pl - nI pl / 10 * 10))
  obtain ⟨M2, b1, b2, b3⟩ := cl_write2 (d := d) ct_3 (by decide) (dl_zf hl a3) a2 (by simp; omega) (by omega)
  have f2 := zf_trans a3 b3
  obtain ⟨M3, c1, c2, c3⟩ := cl_tellCould (d := d) (cl := cl) (en := en) hd ht (dl_zf hl f2) b2 (by rw [f2.2.2.2.2.2.2 _ _ _ (dw_20 (by omega))]; exact h7) (by rw [f2.2.2.2.2.2.2 _ _ _ (dw_20 (by omega))]; exact h8) (by simp; omega)
  refine ⟨M3, ?_, ?_, zf_trans f2 c3⟩
  · unfold do_tell_129
    simp only [l6.1, l6.2, if_pos hz, hcl, h6, a1, Option.bind_some, b1, c1]
  · rw [List.append_assoc, List.append_assoc] at c2
    exact c2
theorem cl_tell_96 (hd : 2 ≤ d) {t pl : Nat} {cl : Int32} {en : Bool} (ht : t < 60) (hpl : pl ≤ 24) (hl : do_l M dc) (hw : dm_t M dc w) (h6 : zm_I M 20 (dc + 6) t = nI pl) (h7 : zm_I M 20 (dc + 7) t = cl) (h8 : zm_I M 20 (dc + 8) t = zb en) (hlen : w.length + 8 + (py_or cl en (List.range' 0 27) false).length ≤ 160) : ∃ M', do_tell_96 d dc (nI t) M = some M' ∧ dm_t M' dc (w ++ ([32, 97, 116, 32] ++ (py_nu2 pl ++ ([44, 32] ++ py_or cl en (List.range' 0 27) false)))) ∧ zf (dw_W dc) M M' := by
  have hz : z_in (nI t) 60 := nI_in (by omega) (by omega)
  have hcl := nI_clamp (show t < 2 ^ 31 by omega)
  obtain ⟨M1, a1, a2, a3⟩ := cl_write2 (d := d) ct_2 (by decide) hl hw (by simp; omega) (by omega)
  have hl1 := dl_zf hl a3
  have l6 := hl1.1 6 (by omega) (by omega)
  have g6 : zm_I M1 20 (dc + 6) t = nI pl := by rw [a3.2.2.2.2.2.2 _ _ _ (dw_20 (by omega))]; exact h6
  have g7 : zm_I M1 20 (dc + 7) t = cl := by rw [a3.2.2.2.2.2.2 _ _ _ (dw_20 (by omega))]; exact h7
  have g8 : zm_I M1 20 (dc + 8) t = zb en := by rw [a3.2.2.2.2.2.2 _ _ _ (dw_20 (by omega))]; exact h8
  unfold do_tell_96
  have e10 : (10 : Int32) = nI 10 := rfl
  simp only [a1, Option.bind_some, l6.1, l6.2, if_pos hz, hcl, g6]
  by_cases q : pl ≤ 9
  · have q2 : nI pl < 10 := by rw [e10]; exact (nI_ltI (by omega) (by omega)).mpr (by omega)
    rw [if_pos q2]
    obtain ⟨M2, b1, b2, b3⟩ := cl_tell_129 (d := d) hd ht hl1 a2 g6 g7 g8 (by simp; omega)
    refine ⟨M2, b1, ?_, zf_trans a3 b3⟩
    unfold py_nu2
    rw [if_pos q]
    rw [List.append_assoc] at b2
    exact b2
  · have q2 : ¬ nI pl < 10 := by
      rw [e10]
      intro p
      have := (nI_ltI (by omega) (by omega)).mp p
      omega
    rw [if_neg q2]
    obtain ⟨M2, b1, b2, b3⟩ := cl_write (d := d) hl1 a2 (by simp; omega) (48 + nI pl / 10)
    have g6' : zm_I M2 20 (dc + 6) t = nI pl := by rw [b3.2.2.2.2.2.2 _ _ _ (dw_20 (by omega))]; exact g6
    have g7' : zm_I M2 20 (dc + 7) t = cl := by rw [b3.2.2.2.2.2.2 _ _ _ (dw_20 (by omega))]; exact g7
    have g8' : zm_I M2 20 (dc + 8) t = zb en := by rw [b3.2.2.2.2.2.2 _ _ _ (dw_20 (by omega))]; exact g8
    obtain ⟨M3, c1, c2, c3⟩ := cl_tell_129 (d := d) hd ht (dl_zf hl1 b3) b2 g6' g7' g8' (by simp; omega)
    rw [b1, Option.bind_some]
    refine ⟨M3, c1, ?_, zf_trans a3 (zf_trans b3 c3)⟩
    unfold py_nu2
    rw [if_neg q]
    simp only [List.append_assoc] at c2 ⊢
    exact c2
theorem cl_tellT (hd : 2 ≤ d) (hD : do_ok D) {t pl : Nat} {cl : Int32} {en : Bool} (ht : t < D.length) (hpl : pl ≤ 24) (hx : do_x M dc D) (hw : dm_t M dc w) (h6 : zm_I M 20 (dc + 6) t = nI pl) (h7 : zm_I M 20 (dc + 7) t = cl) (h8 : zm_I M 20 (dc + 8) t = zb en) (hlen : w.length + 13 + (py_or cl en (List.range' 0 27) false).length ≤ 160) : ∃ M', do_tellT d dc (nI t) M = some M' ∧ dm_t M' dc (w ++ ([58, 32] ++ (py_fo D t pl ++ ([32, 97, 116, 32] ++ (py_nu2 pl ++ ([44, 32] ++ py_or cl en (List.range' 0 27) false)))))) ∧ zf (dw_W dc) M M' := by
  have hD60 := hD.1
  have hz : z_in (nI t) 60 := nI_in (by omega) (by omega)
  have hcl := nI_clamp (show t < 2 ^ 31 by omega)
  obtain ⟨M1, a1, a2, a3⟩ := cl_write2 (d := d) ct_0 (by decide) hx.1 hw (by simp; omega) (by omega)
  have x1 := do_dw hx a3
  have l6 := x1.1.1 6 (by omega) (by omega)
  have l1 := x1.1.1 1 (by omega) (by omega)
  have g6 : zm_I M1 20 (dc + 6) t = nI pl := by rw [a3.2.2.2.2.2.2 _ _ _ (dw_20 (by omega))]; exact h6
  obtain ⟨q, k1, k2, k3⟩ := cl_heldAt (d := d) hD x1 ht (show pl ≤ 60 by omega)
  unfold do_tellT
  simp only [a1, Option.bind_some, l6.1, l6.2, if_pos hz, hcl, g6, k1]
  have fin : ∀ (M2 : zM) (u : List Int32), zf (dw_W dc) M M2 → dm_t M2 dc (w ++ [58, 32] ++ u) → u = py_fo D t pl → u.length ≤ 3 → ∃ M', do_tell_96 d dc (nI t) M2 = some M' ∧ dm_t M' dc (w ++ ([58, 32] ++ (py_fo D t pl ++ ([32, 97, 116, 32] ++ (py_nu2 pl ++ ([44, 32] ++ py_or cl en (List.range' 0 27) false)))))) ∧ zf (dw_W dc) M M' := by
    intro M2 u f2 t2 hu hu3
    obtain ⟨M3, c1, c2, c3⟩ := cl_tell_96 (d := d) (pl := pl) (cl := cl) (en := en) hd (show t < 60 by omega) hpl (dl_zf hx.1 f2) t2 (by rw [f2.2.2.2.2.2.2 _ _ _ (dw_20 (by omega))]; exact h6) (by rw [f2.2.2.2.2.2.2 _ _ _ (dw_20 (by omega))]; exact h7) (by rw [f2.2.2.2.2.2.2 _ _ _ (dw_20 (by omega))]; exact h8) (by simp; omega)
    refine ⟨M3, c1, ?_, zf_trans f2 c3⟩
    rw [← hu]
    simp only [List.append_assoc] at c2 ⊢
    exact c2
  cases hq : q with
  | none =>
    rw [if_pos (show zo none = -1 from rfl)]
    obtain ⟨M2, b1, b2, b3⟩ := cl_write2 (d := d) ct_1 (by decide) x1.1 a2 (by simp; omega) (by omega)
    rw [b1, Option.bind_some]
    refine fin M2 _ (zf_trans a3 b3) b2 ?_ (by simp)
    unfold py_fo
    rw [k2 hq]
  | some i =>
    obtain ⟨y, hy1, hy2⟩ := k3 i hq
    have hil := (List.getElem?_eq_some_iff.mp hy1).1
    have hzi : z_in (nI i) 60 := nI_in (by omega) (by omega)
    have hzo : zo (some i) = nI i := rfl
    rw [if_neg (show ¬ zo (some i) = -1 from pb_ne1 (by omega)), hzo]
    simp only [l1.1, l1.2, if_pos hzi, nI_clamp (show i < 2 ^ 31 by omega), (x1.2.2 i y hy1).1]
    obtain ⟨M2, b1, b2, b3⟩ := cl_write (d := d) x1.1 a2 (by simp; omega) (97 + nI y.1)
    rw [b1, Option.bind_some]
    refine fin M2 _ (zf_trans a3 b3) b2 ?_ (by simp)
    unfold py_fo
    rw [hy2]
theorem cl_tell_7 (hD : do_ok D) (hy : dy_ok D) {t : Nat} (ht : t < D.length) : ∀ (m v : Nat) (M : zM) (w : List Int32), v + m = py_dp D t + 1 → do_x M dc D → dm_t M dc w → w.length + 2 * m ≤ 160 → ∀ fuel, m < fuel → ∃ M', do_tell_7 d fuel dc (nI t) (nI v) M = do_tellT d dc (nI t) M' ∧ dm_t M' dc (w ++ (List.range' v m).flatMap (py_lvl D t)) ∧ zf (dw_W dc) M M' := by
  have hD60 := hD.1
  have hz : z_in (nI t) 60 := nI_in (by omega) (by omega)
  have hcl := nI_clamp (show t < 2 ^ 31 by omega)
  obtain ⟨x, hxt⟩ : ∃ y, D[t]? = some y := ⟨D[t]'ht, List.getElem?_eq_getElem _⟩
  have e1 : py_dp D t = x.2.2.2 := by unfold py_dp; rw [hxt]
  have o5 := (hD.2 t x hxt).2.2.2.2
  intro m
  induction m with
  | zero =>
    intro v M w hv hx hw hlen fuel hf
    cases fuel with
    | zero => cases hf
    | succ fuel =>
      have l4 := hx.1.1 4 (by omega) (by omega)
      refine ⟨M, ?_, by simpa using hw, zf_refl _ _⟩
      rw [do_tell_7]
      simp only [l4.1, l4.2, if_pos hz, hcl, (hx.2.2 t x hxt).2.2.2]
      rw [if_pos ((nI_ltI (by omega) (by omega)).mpr (by omega))]
      unfold do_tellT
      simp only [hcl]
      rfl
  | succ m ih =>
    intro v M w hv hx hw hlen fuel hf
    cases fuel with
    | zero => cases hf
    | succ fuel =>
      have l4 := hx.1.1 4 (by omega) (by omega)
      have ev : nI v + 1 = nI (v + 1) := nI_add v 1
      have k27 : ∀ (M1 : zM) (w1 : List Int32), zf (dw_W dc) M M1 → dm_t M1 dc w1 → w1 = w ++ (if v = 0 then [] else [47]) → ∃ M', do_tell_27 (fun p0 p1 p2 m => do_tell_7 d fuel p0 p1 p2 m) d dc (nI t) (nI v) M1 = do_tellT d dc (nI t) M' ∧ dm_t M' dc (w ++ (List.range' v (m + 1)).flatMap (py_lvl D t)) ∧ zf (dw_W dc) M M' := by
        intro M1 w1 f1 t1 hw1
        have x1 := do_dw hx f1
        obtain ⟨q1, q2⟩ := cl_ancestor (d := d) hD hy x1 ht (show v ≤ py_dp D t by omega)
        obtain ⟨y, hya⟩ : ∃ y, D[py_anc D (py_dp D t - v) t]? = some y := ⟨D[py_anc D (py_dp D t - v) t]'q2, List.getElem?_eq_getElem _⟩
        have e2 : py_le1 D (py_anc D (py_dp D t - v) t) = y.1 := by unfold py_le1; rw [hya]
        have hza : z_in (nI (py_anc D (py_dp D t - v) t)) 60 := nI_in (by omega) (by omega)
        have l1 := x1.1.1 1 (by omega) (by omega)
        have hw1l : w1.length ≤ w.length + 1 := by rw [hw1]; split <;> simp
        obtain ⟨M2, b1, b2, b3⟩ := cl_write (d := d) x1.1 t1 (by omega) (97 + nI y.1)
        have f2 := zf_trans f1 b3
        have hl1 : w1 ++ [97 + nI y.1] = w ++ py_lvl D t v := by
          rw [hw1]
          unfold py_lvl
          rw [e2, List.append_assoc]
        obtain ⟨M3, c1, c2, c3⟩ := ih (v + 1) M2 _ (by omega) (do_dw hx f2) b2 (by simp; omega) fuel (by omega)
        refine ⟨M3, ?_, ?_, zf_trans f2 c3⟩
        · unfold do_tell_27
          simp only [q1, Option.bind_some, l1.1, l1.2, if_pos hza, nI_clamp (show py_anc D (py_dp D t - v) t < 2 ^ 31 by omega), (x1.2.2 _ y hya).1, b1, zlet, ev]
          exact c1
        · rw [hl1] at c2
          rw [List.range'_succ, List.flatMap_cons, ← List.append_assoc]
          exact c2
      rw [do_tell_7]
      simp only [l4.1, l4.2, if_pos hz, hcl, (hx.2.2 t x hxt).2.2.2]
      rw [if_neg (fun p => by have := (nI_ltI (by omega) (by omega)).mp p; omega)]
      by_cases q : v = 0
      · subst q
        rw [if_pos (show nI 0 ≤ 0 by decide)]
        exact k27 M w (zf_refl _ _) hw (by rw [if_pos rfl, List.append_nil])
      · rw [if_neg (nI_nle (by omega) (by omega))]
        obtain ⟨M1, a1, a2, a3⟩ := cl_write (d := d) hx.1 hw (by omega) 47
        rw [a1, Option.bind_some]
        exact k27 M1 _ a3 a2 (by rw [if_neg q])
theorem cl_tell (hd : 3 ≤ d) (hD : do_ok D) (hy : dy_ok D) {t pl : Nat} {cl : Int32} {en : Bool} (ht : t < D.length) (hpl : pl ≤ 24) (hx : do_x M dc D) (h6 : zm_I M 20 (dc + 6) t = nI pl) (h7 : zm_I M 20 (dc + 7) t = cl) (h8 : zm_I M 20 (dc + 8) t = zb en) (hlen : 29 + (py_or cl en (List.range' 0 27) false).length ≤ 160) : ∃ M', do_tell d dc (nI t) M = some M' ∧ dm_t M' dc (py_msg D t pl cl en) ∧ zf (dw_W dc) M M' := by
  have hLF2 : 400 < zLF := pb_LF
  have hD60 := hD.1
  obtain ⟨d, rfl⟩ : ∃ d', d = d' + 1 := ⟨d - 1, by omega⟩
  obtain ⟨x, hxt⟩ : ∃ y, D[t]? = some y := ⟨D[t]'ht, List.getElem?_eq_getElem _⟩
  have e1 : py_dp D t = x.2.2.2 := by unfold py_dp; rw [hxt]
  have o5 := (hD.2 t x hxt).2.2.2.2
  have f0 : zf (dw_W dc) M (zm_setI M 1 dc 10 0) := zf_set (.inl ⟨rfl, rfl, rfl⟩)
  have t0 : dm_t (zm_setI M 1 dc 10 0) dc [] := ⟨by rw [pm_same]; rfl, by decide, fun i c h => by cases h⟩
  obtain ⟨M1, a1, a2, a3⟩ := cl_tell_7 (d := d) hD hy ht (py_dp D t + 1) 0 _ [] (by omega) (do_dw hx f0) t0 (by simp; omega) zLF (by omega)
  have f1 := zf_trans f0 a3
  have hpa := path_lvl hD hy 60 t (by omega) ht
  rw [List.nil_append, ← hpa] at a2
  have hpl2 : (py_path D 60 t).length ≤ 16 := by
    rw [hpa]
    have hm : ∀ (l : List Nat), (l.flatMap (py_lvl D t)).length ≤ 2 * l.length := by
      intro l
      induction l with
      | nil => exact Nat.le_refl _
      | cons v l ih =>
        rw [List.flatMap_cons, List.length_append, List.length_cons]
        have : (py_lvl D t v).length ≤ 2 := by unfold py_lvl; split <;> simp
        omega
    have := hm (List.range' 0 (py_dp D t + 1))
    rw [List.length_range'] at this
    omega
  obtain ⟨M2, b1, b2, b3⟩ := cl_tellT (d := d) (cl := cl) (en := en) (by omega) hD ht hpl (do_dw hx f1) a2 (by rw [f1.2.2.2.2.2.2 _ _ _ (dw_20 (by omega))]; exact h6) (by rw [f1.2.2.2.2.2.2 _ _ _ (dw_20 (by omega))]; exact h7) (by rw [f1.2.2.2.2.2.2 _ _ _ (dw_20 (by omega))]; exact h8) (by omega)
  refine ⟨M2, ?_, ?_, zf_trans f1 b3⟩
  · show do_tell_b d dc (nI t) M = _
    unfold do_tell_b
    simp only [zlet]
    have e0 : (0 : Int32) = nI 0 := rfl
    rw [e0]
    rw [e0] at a1
    rw [a1]
    exact b1
  · unfold py_msg
    simp only [List.append_assoc] at b2 ⊢
    exact b2
end
