/-! THE MODEL's face: reads, the whole -/
def rd_F : List Nat := [0, 2, 3, 26, 35, 36, 40, 41, 42, 43, 44, 45, 46, 47]
def rd_A : List Nat := [14, 15, 16, 17, 23, 24, 25, 26, 27, 28, 29, 30]
section
variable {am d : Nat} {M : zM} {S : yZ}
theorem mf_rds (h : mI am M S) (hz : zz_ok S) (hd : 200 ≤ d) (x : Int32) : ∃ M', mo_reads d am x M = some ((sp_rds S x).1, M') ∧ mI am M' (sp_rds S x).2 ∧ zf (mg am rd_F rd_A) M M' := by
  have hR := hz.2.1
  have h400 := hz.1.1
  have hLF := pb_LF
  have hLF2 : 400 < zLF := hLF
  obtain ⟨d, rfl⟩ : ∃ d', d = d' + 1 := ⟨d - 1, by omega⟩
  have eb : mo_reads (d + 1) am x M = mo_reads_b d am x M := rfl
  rw [eb]
  obtain ⟨h0, hf0⟩ := mI_0 h 0
  have hm0 : zf (mg am rd_F rd_A) M (zm_setI M 12 am 0 0) := zf_mono hf0 (mg_mono (by simp [rd_F]) (by simp))
  unfold mo_reads_b sp_rds
  simp only [zlet]
  rw [mr_isRule h0 hz (by omega)]
  simp only [Option.bind_some]
  cases hx : zin x S.2.1.1 with
  | none => exact ⟨_, by simp only [Option.isSome_none, pb_zbf, if_true, mo_reads_21], h0, hm0⟩
  | some r =>
    obtain ⟨hr, rfl⟩ := zin_some (by omega) hx
    dsimp only
    have hp := mI_p h0 hr
    simp only [Option.isSome_some, pb_zbt]
    rw [if_neg (by decide)]
    obtain ⟨M1, e1, e2⟩ := mr_isSure (d := d) hp (by omega)
    rw [e1]
    simp only [Option.bind_some]
    have h1 : mI am M1 S := mI_zf' h0 e2 (by simp [mi_F]) (by simp [mi_A])
    have hm1 : zf (mg am rd_F rd_A) M M1 := zf_trans hm0 (zf_mono e2 (mg_mono (by simp [rd_F]) (by simp [rd_A])))
    cases hsu : py_sure (S.2.1.2 r)
    · exact ⟨M1, by simp [zb, mo_reads_21], h1, hm1⟩
    · simp only [pb_zbt, if_true]
      rw [if_neg (by decide)]
      obtain ⟨M2, g1, g2, g3, g4⟩ := mr_lettersOnTape (d := d) h1 hz (by omega)
      rw [g1]
      simp only [Option.bind_some]
      have h2 : mI am M2 S := mI_zf' h1 g4 (by simp [mi_F]) (by simp [mi_A])
      have hm2 : zf (mg am rd_F rd_A) M M2 := zf_trans hm1 (zf_mono g4 (mg_mono (by simp [rd_F]) (by simp [rd_A])))
      cases hls : (py_tl S.1 0 0).1 with
      | none => exact ⟨M2, by simp [g3 hls], h2, hm2⟩
      | some ls =>
        obtain ⟨k1, k2⟩ := g2 ls hls
        dsimp only
        have hrl := rn_len (P := S.2.1.2 r) ls py_s00
        rw [if_neg (pb_ne1 (by omega))]
        have hp2 := mI_p h2 hr
        obtain ⟨M3, hM3⟩ : ∃ X, X = zm_setI (zm_setI (zm_setI (zm_setI M2 12 am 2 0) 12 am 40 1) 12 am 41 (nI r)) 12 am 42 (nI ls.length) := ⟨_, rfl⟩
        rw [← hM3]
        have f3 : zf (mg am [2, 40, 41, 42] []) M2 M3 := by
          rw [hM3]
          exact zf_trans (zf_trans (zf_trans (zf_set (.inl ⟨rfl, rfl, by simp⟩)) (zf_set (.inl ⟨rfl, rfl, by simp⟩))) (zf_set (.inl ⟨rfl, rfl, by simp⟩))) (zf_set (.inl ⟨rfl, rfl, by simp⟩))
        have w2 : zm_I M3 12 am 2 = 0 := by rw [hM3, pm_ne (by omega), pm_ne (by omega), pm_ne (by omega), pm_same]
        have w40 : zm_I M3 12 am 40 = 1 := by rw [hM3, pm_ne (by omega), pm_ne (by omega), pm_same]
        have w41 : zm_I M3 12 am 41 = nI r := by rw [hM3, pm_ne (by omega), pm_same]
        have w42 : zm_I M3 12 am 42 = nI ls.length := by rw [hM3, pm_same]
        have hp3 := mp_zf hp2 f3 (by simp)
        have k3 := ma_mg k1 f3 (by simp)
        obtain ⟨M4, a1, a2, a3, a4⟩ := mr_goesThrough (d := d) (ia := 24) (L := 26) hp3 (by omega) (by simp) (by omega) (by omega) k3 (ml_L37 hp3.2.1)
        rw [ml_R37 hp3.2.1, a1]
        simp only [Option.bind_some]
        have hp4 := mp_zf hp3 a4 (by simp)
        obtain ⟨M5, hM5⟩ : ∃ X, X = zm_setI M4 12 am 43 (nI (py_rn (S.2.1.2 r) ls py_s00).1.length) := ⟨_, rfl⟩
        rw [← hM5]
        have f5 : zf (mg am [43] []) M4 M5 := by rw [hM5]; exact zf_set (.inl ⟨rfl, rfl, by simp⟩)
        have w43 : zm_I M5 12 am 43 = nI (py_rn (S.2.1.2 r) ls py_s00).1.length := by rw [hM5, pm_same]
        have hp5 := mp_zf hp4 f5 (by simp)
        have hsw := sw_of (rn_b hp.1 ls py_s00 0 s00_b) (by omega)
        have s5 := mk_mg a2 f5 (by simp)
        obtain ⟨M6, b1, b2⟩ := mr_couldCome (d := d) (w := 0) hp5 (by omega) s5 hsw (by omega)
        have b1' : mo_couldCome d am (nI r) 0 M5 = _ := b1
        rw [b1']
        simp only [Option.bind_some]
        obtain ⟨M7, hM7⟩ : ∃ X, X = zm_setI M6 12 am 44 (zor (py_cc (S.2.1.2 r) (py_rn (S.2.1.2 r) ls py_s00).2)) := ⟨_, rfl⟩
        rw [← hM7]
        have f7 : zf (mg am [44] []) M6 M7 := by rw [hM7]; exact zf_set (.inl ⟨rfl, rfl, by simp⟩)
        have w44 : zm_I M7 12 am 44 = zor (py_cc (S.2.1.2 r) (py_rn (S.2.1.2 r) ls py_s00).2) := by rw [hM7, pm_same]
        have hp7 := mp_zf (mp_W hp5 b2) f7 (by simp)
        have s7 := mk_mg (mk_mg s5 b2 (by simp)) f7 (by simp)
        have c1 : mo_canEnd d am (nI r) 0 M7 = some (zb (py_ce (S.2.1.2 r) (py_rn (S.2.1.2 r) ls py_s00).2), M7) := mr_canEnd (d := d) (w := 0) hp7 (by omega) s7 hsw (by omega)
        rw [c1]
        simp only [Option.bind_some]
        rw [if_pos (pb_zb _)]
        obtain ⟨M8, hM8⟩ : ∃ X, X = zm_setI M7 12 am 47 (zb (py_ce (S.2.1.2 r) (py_rn (S.2.1.2 r) ls py_s00).2)) := ⟨_, rfl⟩
        rw [← hM8]
        have f8 : zf (mg am [47] []) M7 M8 := by rw [hM8]; exact zf_set (.inl ⟨rfl, rfl, by simp⟩)
        have w47 : zm_I M8 12 am 47 = zb (py_ce (S.2.1.2 r) (py_rn (S.2.1.2 r) ls py_s00).2) := by rw [hM8, pm_same]
        have hp8 := mp_zf hp7 f8 (by simp)
        rw [mr_nc hp8]
        simp only [Option.bind_some]
        obtain ⟨M9, hM9⟩ : ∃ X, X = zm_setI M8 12 am 45 (nI (py_nc (S.2.1.2 r))) := ⟨_, rfl⟩
        rw [← hM9]
        have f9 : zf (mg am [45] []) M8 M9 := by rw [hM9]; exact zf_set (.inl ⟨rfl, rfl, by simp⟩)
        have w45 : zm_I M9 12 am 45 = nI (py_nc (S.2.1.2 r)) := by rw [hM9, pm_same]
        have hp9 := mp_zf hp8 f9 (by simp)
        rw [mr_na hp9]
        simp only [Option.bind_some]
        obtain ⟨M10, hM10⟩ : ∃ X, X = zm_setI M9 12 am 46 (nI (py_na (S.2.1.2 r))) := ⟨_, rfl⟩
        rw [← hM10]
        have f10 : zf (mg am [46] []) M9 M10 := by rw [hM10]; exact zf_set (.inl ⟨rfl, rfl, by simp⟩)
        have w46 : zm_I M10 12 am 46 = nI (py_na (S.2.1.2 r)) := by rw [hM10, pm_same]
        have hp10 := mp_zf hp9 f10 (by simp)
        have F7 : zf (mg am [45, 46, 47] []) M7 M10 := zf_trans (zf_trans (zf_mono f8 (mg_mono (by simp) (by simp))) (zf_mono f9 (mg_mono (by simp) (by simp)))) (zf_mono f10 (mg_mono (by simp) (by simp)))
        have F5 : zf (mg am [26, 44, 45, 46, 47] [14, 15, 16, 17]) M5 M10 := zf_trans (zf_trans (zf_mono b2 (mg_mono (by simp) (by simp))) (zf_mono f7 (mg_mono (by simp) (by simp)))) (zf_mono F7 (mg_mono (by simp) (by simp)))
        have F4 : zf (mg am [26, 43, 44, 45, 46, 47] [14, 15, 16, 17]) M4 M10 := zf_trans (zf_mono f5 (mg_mono (by simp) (by simp))) (zf_mono F5 (mg_mono (by simp) (by simp)))
        have F3 : zf (mg am [26, 35, 36, 43, 44, 45, 46, 47] [14, 15, 16, 17, 23, 25, 26]) M3 M10 := zf_trans (zf_mono a4 (mg_mono (by simp) (by simp))) (zf_mono F4 (mg_mono (by simp) (by simp)))
        obtain ⟨M11, p1, p2, p3⟩ := mr_reads_117 (d := d) k2 ls.length 0 M10 (by omega) hp10.2.1 (ma_mg k3 F3 (by simp)) (by intro i x _ hi; omega) zLF (by omega)
        have p1' : mo_reads_117 d zLF am (nI ls.length) 0 M10 = _ := p1
        rw [p1']
        have G4 : zf (mg am [26, 43, 44, 45, 46, 47] [14, 15, 16, 17, 27]) M4 M11 := zf_trans (zf_mono F4 (mg_mono (by simp) (by simp))) (zf_mono p3 (mg_mono (by simp) (by simp)))
        have hl11 := ml_zf hp10.2.1 p3
        obtain ⟨M12, q1, q2, q3⟩ := mr_reads_142 (d := d) (g := (py_rn (S.2.1.2 r) ls py_s00).1) (by omega) (nI ls.length) (py_rn (S.2.1.2 r) ls py_s00).1.length 0 M11 (by omega) hl11 (by
          intro i p hp
          rw [mg_a G4 (by decide) (by simp), mg_a G4 (by decide) (by simp)]
          exact a3 i p hp) (by rw [mg_f p3 (by simp), mg_f F5 (by simp)]; exact w43) (by intro i p _ hi; omega) zLF (by omega)
        have q1' : mo_reads_142 d zLF am (nI ls.length) 0 M11 = _ := q1
        rw [q1']
        have hl12 := ml_zf hl11 q3
        obtain ⟨M13, f', r1, r2, r3, r4⟩ := mr_reads_182 (d := d) (nI ls.length) 13 0 M12 (by omega) hl12 (mk_mg (mk_mg a2 G4 (by simp)) q3 (by simp)) (by intro i hi; omega) zLF (by omega)
        have r1' : mo_reads_182 d zLF am (nI ls.length) 0 M12 = _ := r1
        rw [r1']
        have G10 : zf (mg am [] [27, 28, 29, 30]) M10 M13 := zf_trans (zf_trans (zf_mono p3 (mg_mono (by simp) (by simp))) (zf_mono q3 (mg_mono (by simp) (by simp)))) (zf_mono r4 (mg_mono (by simp) (by simp)))
        have G3 : zf (mg am [26, 35, 36, 43, 44, 45, 46, 47] [14, 15, 16, 17, 23, 25, 26, 27, 28, 29, 30]) M3 M13 := zf_trans (zf_mono F3 (mg_mono (by simp) (by simp))) (zf_mono G10 (mg_mono (by simp) (by simp)))
        have G2 : zf (mg am [2, 26, 35, 36, 40, 41, 42, 43, 44, 45, 46, 47] [14, 15, 16, 17, 23, 25, 26, 27, 28, 29, 30]) M2 M13 := zf_trans (zf_mono f3 (mg_mono (by simp) (by simp))) (zf_mono G3 (mg_mono (by simp) (by simp)))
        have v43 : zm_I M13 12 am 43 = nI (py_rn (S.2.1.2 r) ls py_s00).1.length := by rw [mg_f G10 (by simp), mg_f F5 (by simp)]; exact w43
        have v47 : zm_I M13 12 am 47 = zb (py_ce (S.2.1.2 r) (py_rn (S.2.1.2 r) ls py_s00).2) := by rw [mg_f G10 (by simp), mg_f f10 (by simp), mg_f f9 (by simp)]; exact w47
        refine ⟨M13, ?_, ⟨ml_zf h2.1 G2, ⟨?_, ?_⟩, mt_zf2 h2.2.2.1 G2 (by simp) (by simp), md_zf h2.2.2.2.1 G2 (by simp) (by simp), ⟨?_, ?_, ?_, v43, ?_, v47, ?_, ?_, ?_, ?_, ?_, ?_⟩, ?_⟩, zf_trans hm2 (zf_mono G2 (mg_mono (by simp [rd_F]) (by simp [rd_A])))⟩
        · have hv : (13 : Int32) ≤ 13 := by decide
          simp only [mo_reads_182, if_pos hv, v43, v47, nI_eq (show (py_rn (S.2.1.2 r) ls py_s00).1.length < 2 ^ 31 by omega) (show ls.length < 2 ^ 31 by omega)]
          unfold py_wrd
          by_cases q : (py_rn (S.2.1.2 r) ls py_s00).1.length = ls.length
          · rw [if_pos q]
            cases py_ce (S.2.1.2 r) (py_rn (S.2.1.2 r) ls py_s00).2
            · simp [zb, mo_reads_225, mo_reads_226]
            · rw [pb_zbt, if_neg (by decide)]
              simp [zb, q, mo_reads_226]
          · simp [q, mo_reads_225, mo_reads_226, zb]
        · show zm_I M13 12 am 2 = nI 0
          rw [mg_f G3 (by simp)]
          exact w2
        · intro i b hb
          simp at hb
        · rw [mg_f G3 (by simp)]; exact w40
        · rw [mg_f G3 (by simp)]; exact w41
        · rw [mg_f G3 (by simp)]; exact w42
        · rw [mg_f G10 (by simp), mg_f F7 (by simp)]; exact w44
        · rw [mg_f G10 (by simp), mg_f f10 (by simp)]; exact w45
        · rw [mg_f G10 (by simp)]; exact w46
        · exact ma_mg (ma_mg p2 q3 (by simp)) r4 (by simp)
        · intro i p hp
          rw [mg_a r4 (by decide) (by simp), mg_a r4 (by decide) (by simp)]
          exact q2 i p hp
        · intro c hc
          rw [r3 _ (by omega)]
          have := r2.2.1 c hc
          rw [Nat.zero_add] at this
          exact this
        · intro a ha
          rw [r3 _ (by omega)]
          have := r2.2.2 a ha
          rw [Nat.zero_add] at this
          exact this
        · rw [mg_f G2 (by simp)]; exact h2.2.2.2.2.2
end
