/-! THE CLASS: reads; how long a message is -/
theorem tl_p : ∀ (b : List Nat) (n p : Nat), (py_tl b n p).2 ≤ p + b.length := by
  intro b
  induction b with
  | nil => intro n p; exact Nat.le_refl _
  | cons x b ih =>
    intro n p
    rw [py_tl, List.length_cons]
    split
    · have := ih n (p + 1); omega
    · split
      · have := ih (n + 1) (p + 1)
        show (py_tl b (n + 1) (p + 1)).2 ≤ _
        omega
      · show p ≤ _
        omega
def py_itl (cl : Int32) (en : Bool) (v : Nat) : Nat := match py_it cl en v with
  | none => 0
  | some u => u.length + 4
theorem ory_len {cl : Int32} {en : Bool} : ∀ (l : List Nat) (f : Bool), (py_or cl en l f).length ≤ (l.map (py_itl cl en)).sum := by
  intro l
  induction l with
  | nil => intro f; exact Nat.le_refl _
  | cons v l ih =>
    intro f
    rw [py_or, List.map_cons, List.sum_cons]
    unfold py_itl at ih ⊢
    cases py_it cl en v with
    | none => simpa using ih f
    | some u =>
      have := ih true
      dsimp only
      rw [List.length_append, List.length_append]
      split
      · simp only [List.length_cons, List.length_nil]; omega
      · simp only [List.length_nil]; omega
theorem ory_26 {cl : Int32} {en : Bool} : ∀ (l : List Nat), (∀ v, v ∈ l → v < 26) → (l.map (py_itl cl en)).sum = 5 * (l.filter (fun v => zbt cl v)).length := by
  intro l
  induction l with
  | nil => intro _; rfl
  | cons v l ih =>
    intro h
    have hv := h v (by simp)
    rw [List.map_cons, List.sum_cons, ih (fun w hw => h w (by simp [hw])), List.filter_cons]
    unfold py_itl py_it
    rw [if_pos hv]
    by_cases q : zbt cl v = true
    · rw [if_pos q, if_pos q, List.length_cons]
      simp only [List.length_cons, List.length_nil]
      omega
    · rw [if_neg q, if_neg q]
      simp
theorem ory_16 {P : yP} (hP : py_ok P) {A : List Nat} (hA : ∀ x, x ∈ A → ∃ o, o < py_nl P ∧ py_lt P o = x) {en : Bool} : (py_or (zor A) en (List.range' 0 27) false).length ≤ 87 := by
  have h26 : ∀ x, x ∈ A → x < 32 := by
    intro x hx
    obtain ⟨o, h1, h2⟩ := hA x hx
    have := ok_lt hP h1
    omega
  have h1 := ory_len (cl := zor A) (en := en) (List.range' 0 27) false
  have e27 : List.range' 0 27 = List.range' 0 26 ++ [26] := by decide
  rw [e27, List.map_append, List.sum_append, ory_26 (List.range' 0 26) (fun v hv => by rw [List.mem_range'_1] at hv; omega)] at h1
  have h2 : ((List.range' 0 26).filter (fun v => zbt (zor A) v)).length ≤ ((List.range' 0 (py_nl P)).map (py_lt P)).length := by
    refine nd_sub _ _ (List.Pairwise.filter _ List.nodup_range') ?_
    intro x hx
    rw [List.mem_filter, List.mem_range'_1] at hx
    rw [zor_bt h26 (by omega), List.contains_iff_mem] at hx
    obtain ⟨o, h3, h4⟩ := hA x hx.2
    rw [List.mem_map]
    exact ⟨o, by rw [List.mem_range'_1]; omega, h4⟩
  rw [List.length_map, List.length_range'] at h2
  have h16 := ok_nl hP
  have h3 : ([26].map (py_itl (zor A) en)).sum ≤ 7 := by
    unfold py_itl py_it
    cases en <;> simp
  rw [e27]
  omega
theorem he_len {R : Nat} {Ps : Nat → yP} {D : List yT} {t x : Nat} (hPs : ∀ r, r < R → py_ok (Ps r)) : (py_or (py_he R Ps D t x).2.2.1 (py_he R Ps D t x).2.2.2 (List.range' 0 27) false).length ≤ 87 := by
  have h0 : ∀ en, (py_or 0 en (List.range' 0 27) false).length ≤ 87 := by
    intro en
    cases en <;> decide
  unfold py_he
  cases hr : py_ro R Ps x with
  | none =>
    dsimp only
    split <;> exact h0 _
  | some r =>
    dsimp only
    split
    · split
      · exact h0 _
      · have hrR : r < R := by
          unfold py_ro at hr
          have := List.mem_of_find?_eq_some hr
          rw [List.mem_range'_1] at this
          omega
        have hP := hPs r hrR
        refine ory_16 hP ?_
        intro y hy
        unfold py_cc at hy
        rw [List.mem_map] at hy
        obtain ⟨W, h1, h2⟩ := hy
        rw [List.mem_filter] at h1
        exact ⟨W.1, (ways_lt hP (rn_g hP (py_kl D t) py_s00 0 wg_0).2.2.2.1 h1.1).1, h2⟩
    · exact h0 _
section
variable {ac N0 S0 d R : Nat} {M M' : zM} {S : yZ} {g : yG2}
theorem cl_isWord {P : yP} {re : Nat} {ls : List Nat} (hls : ls.length ≤ 24) (h2 : zm_I M 4 re 2 = nI (py_rn P ls py_s00).1.length) (h1 : zm_I M 4 re 1 = nI ls.length) (h4 : zm_I M 4 re 4 = zb (py_ce P (py_rn P ls py_s00).2)) : re_isWord d re M = some (zb (py_wrd P ls), M) := by
  have hl := rn_len (P := P) ls py_s00
  unfold re_isWord re_isWord_22 re_isWord_23 py_wrd
  have e : (nI (py_rn P ls py_s00).1.length = nI ls.length) ↔ (py_rn P ls py_s00).1.length = ls.length := nI_eq (by omega) (by omega)
  simp only [h2, h1, h4, e, pb_zb0]
  by_cases q : (py_rn P ls py_s00).1.length = ls.length
  · cases py_ce P (py_rn P ls py_s00).2 <;> simp [q, zb]
  · simp [q, zb]
theorem cl_reads (hI : cI ac N0 S0 M S g) (hz : zz_ok S) (hd : 4 ≤ d) (x : Int32) : cf_r ac N0 S0 M (cr_reads d ac x M) (sp_rds S x).1 (sp_rds S x).2 := by
  obtain ⟨d, rfl⟩ : ∃ d', d = d' + 1 := ⟨d - 1, by omega⟩
  have eb : cr_reads (d + 1) ac x M = cr_reads_b d ac x M := rfl
  rw [eb]
  have hI' := hI
  obtain ⟨_, ⟨⟨o0, o2, o3, o4, o5, o6, o7, o8, o9, o10, o11, o12, o13⟩, o1⟩, hT, _, _, _, _, hL, hrd, ⟨hU, hC, hS, hD⟩, _⟩ := hI
  unfold cr_reads_b sp_rds
  rw [cl_ruleAt hI', Option.bind_some]
  simp only [cr_reads_17]
  have h8 := hz.2.1
  have h400 := hz.1.1
  have h256 : ∀ b, b ∈ S.1 → b < 256 := fun b hb => (hz.1.2 b hb).2
  cases hx : zin x S.2.1.1 with
  | none => exact cf_same hI' rfl
  | some r =>
    obtain ⟨hr, ex⟩ := zin_some (show S.2.1.1 < 2 ^ 31 by omega) hx
    obtain ⟨hP, hX, _, _, x16, hr8⟩ := cI_r hI' hz hr
    have hb := cI_b hI' hr8
    simp only [Option.map_some, x16, pb_zb0]
    by_cases qs : py_sure (S.2.1.2 r) = true
    · rw [if_neg (by rw [qs]; decide)]
      simp only [if_pos qs, o0, o1, cl_wrongByte hT h400 h256, Option.bind_some]
      cases htl : (py_tl S.1 0 0).1 with
      | none =>
        have hp := tl_p S.1 0 0
        dsimp only
        rw [if_neg (pb_ne1 (by omega))]
        exact cf_same hI' rfl
      | some ls =>
        dsimp only
        rw [if_pos rfl]
        have hl24 := tl_len S.1 0 0 ls (by omega) htl
        have hrl : re_l M (ac + 228) := by
          cases hq : S.2.2.2 with
          | none => rw [hq] at hrd; exact hrd.2
          | some y => rw [hq] at hrd; exact hrd.2.1.1
        obtain ⟨M1, k1, k2, k3, k4⟩ := cl_readTape (d := d) (wk := ac + 215) (re := ac + 228) hP (by omega) hX hL.2.2.2.2.2.1 (by omega) (by omega) (by omega) hT h400 h256 hrl htl
        obtain ⟨M2, hM2⟩ : ∃ Y, Y = zm_setI (zm_setI M1 4 (ac + 228) 0 x) 11 ac 1 0 := ⟨_, rfl⟩
        have z2 : zr (fun t k j => rd_W (ac + 215) (ac + 228) t k j ∨ (t = 11 ∧ k = ac ∧ j = 1)) M M2 := by
          refine zr_trans (zr_mono k4 (fun t k j h => .inl h)) ?_
          rw [hM2]
          exact zr_trans (zr_setI (.inl (.inr (.inl ⟨rfl, rfl⟩)))) (zr_setI (.inr ⟨rfl, rfl, rfl⟩))
        have ew : ∀ t k j, (rd_W (ac + 215) (ac + 228) t k j ∨ (t = 11 ∧ k = ac ∧ j = 1)) → ((ac + 215 ≤ k ∧ k < ac + 235) ∨ (t = 11 ∧ k = ac ∧ j = 1)) ∧ ¬ cLc ac t k j := by
          intro t k j hw
          unfold rd_W wz_W rr_W at hw
          unfold cLc
          omega
        have ek : ∀ j, j ≠ 1 → zm_I M2 11 ac j = zm_I M 11 ac j := fun j hj => zr_I z2 (fun hw => by have := ew _ _ _ hw; omega)
        have eR : ∀ j, j ≠ 1 → zm_R M2 11 ac j = zm_R M 11 ac j := fun j hj => zr_R z2 (fun hw => by have := ew _ _ _ hw; omega)
        have eR1 : ∀ j, zm_R M1 11 ac j = zm_R M 11 ac j := fun j => zr_R k4 (fun hw => by unfold rd_W wz_W rr_W at hw; omega)
        have e4 : ∀ j, j ≠ 0 → zm_I M2 4 (ac + 228) j = zm_I M1 4 (ac + 228) j := fun j hj => by rw [hM2, pm_ne (by omega), pm_ne (by omega)]
        have e20 : ∀ k j, zm_I M2 20 k j = zm_I M1 20 k j := fun k j => by rw [hM2, pm_ne (by omega), pm_ne (by omega)]
        obtain ⟨y1, y2, y3, y4, y5, y6, y7⟩ := k3
        obtain ⟨w1, w2, w3, w4, w5⟩ := k2
        refine ⟨M2, g, ?_, cI_hi (T' := []) (rd' := some (py_rr (S.2.1.2 r) r ls)) hI' hz z2 (fun t k j hw => by have := ew t k j hw; omega) (by rw [hM2, pm_same]; rfl) ?_ (cL_zr hL z2 (fun t k j hw => (ew t k j hw).2)) ?_ (kU_ag hU (ag_w z2 (fun t k j hw => by have := ew t k j hw; omega))) (kC_ag hC (ag_w z2 (fun t k j hw => by have := ew t k j hw; omega))) (kS_ag hS (ek 14 (by omega)) (ag_w z2 (fun t k j hw => by have := ew t k j hw; omega))) (kD_ag hD (ag_w z2 (fun t k j hw => by have := ew t k j hw; omega))), zh_cC z2 (fun t k j hw => by have := ew t k j hw; omega)⟩
        · simp only [o11, o12, k1, Option.bind_some, eR1, zlet]
          rw [← hM2, eR 12 (by omega), o12]
          dsimp only
          rw [cl_isWord (P := S.2.1.2 r) (ls := ls) (by omega) (by rw [e4 _ (by omega)]; exact w3) (by rw [e4 _ (by omega)]; exact w2) (by rw [e4 _ (by omega)]; exact y2), Option.bind_some, cr_bit_zb]
          rfl
        · refine ⟨by rw [zr_L z2]; exact hT.1, by rw [zr_n z2]; exact hT.2.1, ?_⟩
          intro i b hb
          simp at hb
        · refine ⟨?_, ⟨?_, by rw [e4 _ (by omega)]; exact w2, by rw [e4 _ (by omega)]; exact w3, ?_, ?_⟩, ⟨by rw [e4 _ (by omega)]; exact y1, by rw [e4 _ (by omega)]; exact y2, by rw [e4 _ (by omega)]; exact y3, by rw [e4 _ (by omega)]; exact y5⟩, ?_, ?_, .inl (by rw [e4 _ (by omega)]; exact y7), hl24.2⟩
          · rw [hM2, pm_ne (by omega), pm_same]
            exact ex
          · unfold re_l at w1 ⊢
            rw [hM2]
            exact w1
          · intro i b hb
            rw [e20]
            exact w4 i b hb
          · intro i b hb
            rw [e20, e20]
            exact w5 i b hb
          · intro c hc
            rw [e20]
            exact y4 c hc
          · intro c hc
            rw [e20]
            exact y6 c hc
    · rw [if_pos (by simpa using qs)]
      simp only [if_neg qs]
      exact cf_same hI' rfl
end
