/-! THE CLASS: letters up to an occurrence, the whole; the shortest word kept -/
def st_x (M : zM) (sp : Nat) (w : List Nat) : Prop := w.length ≤ 2304 ∧ ∀ (i x : Nat), w[i]? = some x → zm_I M 20 (sp + 2) i = nI x
section
variable {M M' : zM} {pa : Nat → Nat} {P : yP} {d sp Q : Nat} {t : List Nat} {en ov : Int32}
theorem cl_up_67 (hP : py_ok P) (hq : Q + 10 ≤ sp) (hd : 70 ≤ d) (hen : ∀ c, c < py_nc P → zbt en c = true → 2 ≤ py_fr P c) (hb : ∀ x, py_dm P x → (py_adb P en ov x).length ≤ 2304) {o : Nat} (ho : o < py_nl P) {L : List Nat} (h0 : L[0]? = some (py_lf P o)) (hdm : ∀ (i y : Nat), L[i]? = some y → py_dm P y) (hup : ∀ (i y z : Nat), L[i]? = some y → L[i + 1]? = some z → py_up P y = some z) (hL : L.length ≤ 39) : ∀ (i n : Nat) (M : zM), L[i]? = some n → cX M pa Q P → sl_x M sp (py_adb P en ov n) → zm_R M 7 sp 4 = some Q → pth_x M pa sp L → ∀ fuel, i < fuel → ∃ M', sp_spellUpTo_67 d fuel sp (some Q) (nI o) en ov (nI i) M = some M' ∧ sl_x M' sp (py_adb P en ov (py_lf P o) ++ [py_lt P o]) ∧ zf (sl_W sp) M M' := by
  intro i
  induction i with
  | zero =>
    intro n M hn hX hx h4 hp fuel hf
    rw [h0] at hn
    injection hn with hn
    subst hn
    cases fuel with
    | zero => cases hf
    | succ fuel =>
      have hnl := ok_nl hP
      have hru := cR_ru hX.2.2.1
      have hz : z_in (nI o) 16 := nI_in (by omega) (by omega)
      have hbl := hb _ (ok_lf hP ho)
      obtain ⟨M1, a1, a2, a3⟩ := cl_spw (d := d) hx (by omega) (ok_lt hP ho)
      refine ⟨M1, ?_, a2, a3⟩
      rw [sp_spellUpTo_67, if_pos (show nI 0 ≤ 0 by decide)]
      simp only [hru.1.1, hru.1.2, if_pos hz, nI_clamp (show o < 2 ^ 31 by omega), (hX.2.2.1.2.2.2.2.1 o ho).1, a1, Option.bind_some]
  | succ i ih =>
    intro n M hn hX hx h4 hp fuel hf
    cases fuel with
    | zero => cases hf
    | succ fuel =>
      have hil := (List.getElem?_eq_some_iff.mp hn).1
      obtain ⟨x, hxi⟩ : ∃ x, L[i]? = some x := ⟨L[i]'(by omega), List.getElem?_eq_getElem _⟩
      have hdx := hdm i x hxi
      have hdn := hdm (i + 1) n hn
      have e := hup i x n hxi hn
      have hbx := hb x hdx
      have hbn := hb n hdn
      have hBn := B_le hP hdn
      have hg30 := ok_hg30 hP hdn
      have hck := ck_v hP hdn
      have kck : ∀ k, k ≤ 5 → ((nI (ck (py_kd P n)) = nI k) ↔ ck (py_kd P n) = k) := fun k hk => nI_eq (by omega) (by omega)
      have e2 : (2 : Int32) = nI 2 := rfl
      have e4 : (4 : Int32) = nI 4 := rfl
      have e5 : (5 : Int32) = nI 5 := rfl
      have z1 : z_in (nI (i + 1)) 40 := nI_in (by omega) (by omega)
      have z0 : z_in (nI i) 40 := nI_in (by omega) (by omega)
      have hsl := hx.1
      obtain ⟨d, rfl⟩ : ∃ d', d = d' + 1 := ⟨d - 1, by omega⟩
      have kids : ∀ c, py_dm P c → sg_S pa Q P sp (gsp_spell d).1 0 c := by
        intro c hc
        have := ok_hg30 hP hc
        exact cl_spell hP hq c hc d 0 (by omega) (by omega)
      have next : ∀ (M1 : zM), zf (sl_W sp) M M1 → sl_x M1 sp (py_adb P en ov n ++ py_hdb P en ov n x) → ∃ M', sp_spellUpTo_67 (d + 1) fuel sp (some Q) (nI o) en ov (nI (i + 1) + (-1)) M1 = some M' ∧ sl_x M' sp (py_adb P en ov (py_lf P o) ++ [py_lt P o]) ∧ zf (sl_W sp) M M' := by
        intro M1 f1 x1
        rw [← adb_up hP hdx e] at x1
        obtain ⟨M2, b1, b2, b3⟩ := ih x M1 hxi (cX_sl hX f1 hq) x1 (by rw [f1.1]; exact h4) (by
          intro j y hy
          rw [f1.1]
          exact hp j y hy) fuel (by omega)
        rw [pb_pm]
        exact ⟨M2, b1, b2, zf_trans f1 b3⟩
      have g1 := hp (i + 1) n hn
      have g0 := hp i x hxi
      rw [sp_spellUpTo_67, if_neg (nI_nle (by omega) (by omega))]
      simp only [hsl.2.2.1, hsl.2.2.2, if_pos z1, nI_pred, if_pos z0, nI_clamp (show i + 1 < 2 ^ 31 by omega), nI_clamp (show i < 2 ^ 31 by omega), g1, g0, cN_kd hX.1 hdn, sp_spellUpTo_181, sp_spellUpTo_156, zlet]
      rw [e2, e4, e5]
      rcases ok_kd6 hP hdn with hk | hk | hk | hk | hk | hk
      · have h0 := ok_pks hP hdx e
        rw [(ok_k0 hP hdn hk).1] at h0
        cases h0
      · have h0 := ok_pks hP hdx e
        rw [(ok_k1 hP hdn hk).1] at h0
        cases h0
      · rw [if_pos ((kck 2 (by omega)).mpr (hck.2.2.2.1.mpr hk))]
        obtain ⟨M1, a1, a2, a3⟩ := cl_gRow (d := d) (dep := 0) (u := some x) hP hq hdn (by omega) (fun y h => by injection h with h; rw [← h]; exact hdx) (fun c hc => kids c (ok_kid hP hdn hc)) hX hx h4 (by omega)
        have a1 : sp_spellRow (d + 1) sp (some (pa n)) (some (pa x)) 0 M = some M1 := a1
        rw [a1, Option.bind_some]
        refine next M1 a3 ?_
        rw [(hdb_v 2 hk).1 rfl]
        have hpr : (fun y : Nat => some y != some x) = (fun y : Nat => y != x) := by
          funext y
          rfl
        rw [hpr] at a2
        exact a2
      · have c3 := hck.2.2.2.2.1.mpr hk
        rw [if_neg (fun q => by have := (kck 2 (by omega)).mp q; omega), if_neg (fun q => by have := (kck 4 (by omega)).mp q; omega), if_neg (fun q => by have := (kck 5 (by omega)).mp q; omega)]
        refine next M (zf_refl _ _) ?_
        rw [(hdb_v 3 hk).2.2.2 (by omega) (by omega) (by omega), List.append_nil]
        exact hx
      · have c5 := hck.2.2.2.2.2.2.mpr hk
        rw [if_neg (fun q => by have := (kck 2 (by omega)).mp q; omega), if_neg (fun q => by have := (kck 4 (by omega)).mp q; omega), if_pos ((kck 5 (by omega)).mpr c5)]
        rw [cl_others (d := d + 1) hP hX hdx e hk, Option.bind_some]
        obtain ⟨M1, a1, a2, a3⟩ := cl_gParts (d := d) (dep := 0) hP hq (by omega) hdn hk (oth_sel (ov := ov) hP hdn hk (ok_pks hP hdx e)) (fun c hc => kids c (ok_kid hP hdn hc)) hX hx h4 (by omega)
        have a1 : sp_spellParts (d + 1) sp (some (pa n)) ((ov >>> ((4 * nI (py_nb P n)) &&& 31)) &&& ((1 <<< (nI (py_bf (py_ks P n) x).length &&& 31)) ^^^ (-1))) 0 M = some M1 := a1
        rw [a1, Option.bind_some]
        refine next M1 a3 ?_
        rw [(hdb_v 4 hk).2.1 rfl]
        exact a2
      · have c4 := hck.2.2.2.2.2.1.mpr hk
        obtain ⟨⟨c, hc, _⟩, k5b, k5c⟩ := ok_k5 hP hdn hk
        have hnc := ok_nc hP
        have hru := cR_ru hX.2.2.1
        have hz : z_in (nI (py_nb P n)) 8 := nI_in (by omega) (by omega)
        rw [if_neg (fun q => by have := (kck 2 (by omega)).mp q; omega), if_pos ((kck 4 (by omega)).mpr c4)]
        rw [cN_nb hX.1 hdn (.inr (.inr hk)), zy_has en (show py_nb P n < 32 by omega)]
        by_cases q : zbt en (py_nb P n) = true
        · rw [if_pos q, if_neg (show ¬ (1 : Int32) = 0 by decide)]
          have hfr2 := hen _ k5b q
          have hfr := ok_fr hP k5b
          simp only [hru.2.2.2.2.1.1, hru.2.2.2.2.1.2, if_pos hz, nI_clamp (show py_nb P n < 2 ^ 31 by omega), (hX.2.2.1.1.2 _ k5b).1]
          have ef : nI (py_fr P (py_nb P n)) - 1 = nI (py_fr P (py_nb P n) - 1) := by
            rw [show py_fr P (py_nb P n) = (py_fr P (py_nb P n) - 1) + 1 by omega, nI_pred]
            rfl
          have hB5 := Bs_5 hP hdn hk hc
          have hxc : x = c := by
            have := ok_pks hP hdx e
            rw [hc] at this
            simpa using this
          rw [ef]
          obtain ⟨M1, a1, a2, a3⟩ := cl_stimes (d := d) (dep := 0) (T := py_fr P (py_nb P n) - 1) (gsp_spell d).1 (gsp_spell d).2.1 (gsp_spell d).2.2.1 (gsp_spell d).2.2.2.1 (gsp_spell d).2.2.2.2 hP hdx (by omega) (kids x hdx) hX hx h4 (by rw [hxc]; omega)
          have a1 : sp_spellTimes (d + 1) sp (some (pa x)) (nI (py_fr P (py_nb P n) - 1)) 0 M = some M1 := a1
          rw [a1, Option.bind_some]
          refine next M1 a3 ?_
          rw [(hdb_v 5 hk).2.2.1 rfl, if_pos q]
          exact a2
        · rw [if_neg q, if_pos rfl, if_neg (fun q => by have := (kck 5 (by omega)).mp q; omega)]
          refine next M (zf_refl _ _) ?_
          rw [(hdb_v 5 hk).2.2.1 rfl, if_neg q, List.append_nil]
          exact hx
theorem cl_spellUp (hP : py_ok P) (hq : Q + 10 ≤ sp) (hd : 71 ≤ d) (hX : cX M pa Q P) (hl : sl_l M sp) (hen : ∀ c, c < py_nc P → zbt en c = true → 2 ≤ py_fr P c) (hb : ∀ x, py_dm P x → (py_adb P en ov x).length ≤ 2304) {b : Option Nat} (hbo : ∀ o, b = some o → o < py_nl P) : ∃ M', sp_spellUpTo d sp (some Q) (zo b) en ov M = some M' ∧ sl_x M' sp (match b with
    | none => []
    | some o => py_adb P en ov (py_lf P o) ++ [py_lt P o]) ∧ zr (fun t k j => sq_W sp t k j ∧ k ≠ sp + 2) M M' := by
  have hLF : zLF = 100000 := rfl
  obtain ⟨d, rfl⟩ : ∃ d', d = d' + 1 := ⟨d - 1, by omega⟩
  have f0 : zr (fun t k j => sq_W sp t k j ∧ k ≠ sp + 2) M (zm_setI (zm_setR M 7 sp 4 (some Q)) 7 sp 1 0) := zr_trans (zr_setR ⟨.inl ⟨rfl, rfl, .inr rfl⟩, by omega⟩) (zr_setI ⟨.inl ⟨rfl, rfl, .inl rfl⟩, by omega⟩)
  have mono : ∀ t k j, (sq_W sp t k j ∧ k ≠ sp + 2) → sq_W sp t k j := fun t k j w => w.1
  have hX0 := cX_sq hP hX (zr_mono f0 mono) hq
  have hl0 : sl_l (zm_setI (zm_setR M 7 sp 4 (some Q)) 7 sp 1 0) sp := by
    unfold sl_l
    rw [zr_L f0, pm_RI, pr_ne (by omega), pr_ne (by omega), pr_ne (by omega)]
    exact hl
  have x0 : sl_x (zm_setI (zm_setR M 7 sp 4 (some Q)) 7 sp 1 0) sp [] := ⟨hl0, by rw [pm_same]; rfl, by decide, fun i x h => (by cases h), fun x h => (by cases h)⟩
  have h40 : zm_R (zm_setI (zm_setR M 7 sp 4 (some Q)) 7 sp 1 0) 7 sp 4 = some Q := by rw [pm_RI, pr_same]
  have eb : sp_spellUpTo (d + 1) sp (some Q) (zo b) en ov M = sp_spellUpTo_b d sp (some Q) (zo b) en ov M := rfl
  rw [eb]
  unfold sp_spellUpTo_b
  simp only [zlet]
  obtain ⟨M0, hM0⟩ : ∃ Y, Y = zm_setI (zm_setR M 7 sp 4 (some Q)) 7 sp 1 0 := ⟨_, rfl⟩
  rw [← hM0] at f0 hX0 hl0 x0 h40 ⊢
  cases b with
  | none =>
    rw [if_pos (show zo none = -1 from rfl)]
    exact ⟨M0, rfl, x0, f0⟩
  | some o =>
    have ho := hbo o rfl
    have hnl := ok_nl hP
    have hru := cR_ru hX0.2.2.1
    have hz : z_in (nI o) 16 := nI_in (by omega) (by omega)
    have hzo : zo (some o) = nI o := rfl
    have h30 := ok_hg hP
    have hlf := ok_lf hP ho
    rw [hzo, if_neg (pb_ne1 (by omega))]
    simp only [hru.2.1.1, hru.2.1.2, if_pos hz, nI_clamp (show o < 2 ^ 31 by omega), (hX0.2.2.1.2.2.2.2.1 o ho).2]
    obtain ⟨M1, a1, a2, a3⟩ := cl_up_27 (d := d) (en := en) (ov := ov) (v2 := nI o) hP hq (py_lf P o) hlf zLF 30 M0 [] (by omega) (by omega) (by rw [List.length_nil]; omega) hX0 hl0 (fun i x h => by cases h)
    rw [List.nil_append] at a1 a2
    obtain ⟨c1, c2, c3, c4, c5⟩ := chf_v hP (py_lf P o) hlf 30 (by omega)
    have hne : 0 < (py_chf P 30 (py_lf P o)).length := (List.getElem?_eq_some_iff.mp c1).1
    have a3' : zr (fun t k j => sq_W sp t k j ∧ k ≠ sp + 2) M0 M1 := zr_mono a3 (fun t k j w => ⟨.inr (.inr w), by have := w.2; omega⟩)
    have hX1 := cX_sq hP hX0 (zr_mono a3' mono) hq
    have n24 : ∀ t k j, t ≠ 24 → ¬ ((fun t k (_ : Nat) => t = 24 ∧ k = sp + 3) : Nat → Nat → Nat → Prop) t k j := by
      rintro t k j h ⟨e, _⟩
      exact h e
    have x1 : sl_x M1 sp [] := by
      refine ⟨?_, ?_, by decide, fun i x h => (by cases h), fun x h => (by cases h)⟩
      · unfold sl_l
        rw [zr_L a3, zr_R a3 (n24 7 sp 0 (by omega)), zr_R a3 (n24 7 sp 2 (by omega)), zr_R a3 (n24 7 sp 3 (by omega))]
        exact hl0
      · rw [zr_I a3 (n24 7 sp 1 (by omega))]; exact x0.2.1
    obtain ⟨r, hr⟩ : ∃ r, (py_chf P 30 (py_lf P o))[(py_chf P 30 (py_lf P o)).length - 1]? = some r := ⟨_, List.getElem?_eq_getElem (by omega)⟩
    have hrt := c5 r hr
    obtain ⟨M2, b1, b2, b3⟩ := cl_up_67 (d := d) (en := en) (ov := ov) hP hq (by omega) hen hb ho c1 c3 c4 (by omega) ((py_chf P 30 (py_lf P o)).length - 1) r M1 hr hX1 (by rw [hrt, adb_rt hP]; exact x1) (by rw [zr_R a3 (n24 7 sp 4 (by omega))]; exact h40) a2 zLF (by omega)
    refine ⟨M2, ?_, b2, zr_trans f0 (zr_trans a3' (zr_mono (zr_zf b3) (fun t k j w => ⟨sl_sq t k j w, ?_⟩)))⟩
    · have a1 : sp_spellUpTo_27 d zLF sp (some Q) (nI o) en ov 0 (some (pa (py_lf P o))) M0 = sp_spellUpTo_61 d sp (some Q) (nI o) en ov (nI (py_chf P 30 (py_lf P o)).length) M1 := a1
      rw [a1]
      unfold sp_spellUpTo_61
      simp only [zlet]
      rw [show (py_chf P 30 (py_lf P o)).length = ((py_chf P 30 (py_lf P o)).length - 1) + 1 by omega, nI_pred]
      exact b1
    · rcases w with ⟨_, h, _⟩ | ⟨_, h⟩ <;> omega
theorem cl_short_28 {w : List Nat} (hw : w.length ≤ 2304) : ∀ (m k : Nat) (M : zM), k + m = w.length → sl_x M sp w → (∀ (i x : Nat), i < k → w[i]? = some x → zm_I M 20 (sp + 2) i = nI x) → ∀ fuel, m < fuel → ∃ M', sp_spellShortest_28 d fuel sp (nI k) M = some M' ∧ st_x M' sp w ∧ zf (fun t k _ => t = 20 ∧ k = sp + 2) M M' := by
  have e23 : (2304 : Int32) = nI 2304 := rfl
  intro m
  induction m with
  | zero =>
    intro k M e hx hk fuel hf
    cases fuel with
    | zero => cases hf
    | succ fuel =>
      refine ⟨M, ?_, ⟨hw, fun i x h => hk i x (by have := (List.getElem?_eq_some_iff.mp h).1; omega) h⟩, zf_refl _ _⟩
      rw [sp_spellShortest_28, hx.2.1, if_pos ((nI_leI (by omega) (by omega)).mpr (by omega))]
      rfl
  | succ m ih =>
    intro k M e hx hk fuel hf
    cases fuel with
    | zero => cases hf
    | succ fuel =>
      obtain ⟨x, hxk⟩ : ∃ x, w[k]? = some x := ⟨w[k]'(by omega), List.getElem?_eq_getElem _⟩
      have z1 : z_in (nI k) 9216 := nI_in (by omega) (by omega)
      have z2 : z_in (nI k) 2304 := nI_in (by omega) (by omega)
      have f1 : zf (fun t k _ => t = 20 ∧ k = sp + 2) M (zm_setI M 20 (sp + 2) k (nI x)) := zf_set ⟨rfl, rfl⟩
      have x1 : sl_x (zm_setI M 20 (sp + 2) k (nI x)) sp w := by
        refine ⟨sll_zf hx.1 f1, by rw [pm_ne (by omega)]; exact hx.2.1, hx.2.2.1, ?_, hx.2.2.2.2⟩
        intro i y hy
        rw [pm_ne (by omega)]
        exact hx.2.2.2.1 i y hy
      obtain ⟨M', q1, q2, q3⟩ := ih (k + 1) _ (by omega) x1 (by
        intro i y hi hy
        rw [pm_II]
        by_cases q : i = k
        · subst q
          rw [hxk] at hy
          injection hy with hy
          rw [if_pos ⟨rfl, rfl, rfl⟩, hy]
        · rw [if_neg (fun e => q e.2.2)]
          exact hk i y (by omega) hy) fuel (by omega)
      refine ⟨M', ?_, q2, zf_trans f1 q3⟩
      rw [sp_spellShortest_28, hx.2.1, if_neg (fun p => by have := (nI_leI (by omega) (by omega)).mp p; omega), e23, if_neg (fun p => by have := (nI_leI (by omega) (by omega)).mp p; omega)]
      simp only [hx.1.1.1, hx.1.1.2, hx.1.2.1.1, hx.1.2.1.2, if_pos z1, if_pos z2, nI_clamp (show k < 2 ^ 31 by omega), hx.2.2.2.1 k x hxk, zlet, nI_1]
      exact q1
theorem cl_spellShortest (hP : py_ok P) (hq : Q + 10 ≤ sp) (hd : 71 ≤ d) (hX : cX M pa Q P) (hl : sl_l M sp) : ∃ M', sp_spellShortest d sp (some Q) M = some M' ∧ st_x M' sp (py_wd P (py_rt P)) ∧ zr (sq_W sp) M M' := by
  have hLF : zLF = 100000 := rfl
  obtain ⟨d, rfl⟩ : ∃ d', d = d' + 1 := ⟨d - 1, by omega⟩
  have f0 : zr (sq_W sp) M (zm_setI (zm_setR M 7 sp 4 (some Q)) 7 sp 1 0) := zr_trans (zr_setR (.inl ⟨rfl, rfl, .inr rfl⟩)) (zr_setI (.inl ⟨rfl, rfl, .inl rfl⟩))
  have hX0 := cX_sq hP hX f0 hq
  have hl0 : sl_l (zm_setI (zm_setR M 7 sp 4 (some Q)) 7 sp 1 0) sp := by
    unfold sl_l
    rw [zr_L f0, pm_RI, pr_ne (by omega), pr_ne (by omega), pr_ne (by omega)]
    exact hl
  have x0 : sl_x (zm_setI (zm_setR M 7 sp 4 (some Q)) 7 sp 1 0) sp [] := ⟨hl0, by rw [pm_same]; rfl, by decide, fun i x h => (by cases h), fun x h => (by cases h)⟩
  have h40 : zm_R (zm_setI (zm_setR M 7 sp 4 (some Q)) 7 sp 1 0) 7 sp 4 = some Q := by rw [pm_RI, pr_same]
  have hrt := ok_rt hP
  have hg := ok_hg hP
  have hB := B_le hP hrt
  have hR1 : ∀ M0 : zM, cX M0 pa Q P → zm_R M0 5 Q 1 = some (pa (py_rt P)) := fun M0 h => h.2.2.1.2.2.1
  have eb : sp_spellShortest (d + 1) sp (some Q) M = sp_spellShortest_b d sp (some Q) M := rfl
  rw [eb]
  unfold sp_spellShortest_b
  simp only [zlet]
  obtain ⟨M0, hM0⟩ : ∃ Y, Y = zm_setI (zm_setR M 7 sp 4 (some Q)) 7 sp 1 0 := ⟨_, rfl⟩
  rw [← hM0] at f0 hX0 hl0 x0 h40 ⊢
  obtain ⟨M1, a1, a2, a3⟩ := cl_spell (pa := pa) (sp := sp) hP hq (py_rt P) hrt d 0 (by omega) (by omega) M0 [] hX0 x0 h40 (by rw [List.length_nil]; omega)
  have a1 : sp_spell d sp (some (pa (py_rt P))) 0 M0 = some M1 := a1
  rw [List.nil_append] at a2
  have hw := wd_len hP _ hrt
  obtain ⟨M2, b1, b2, b3⟩ := cl_short_28 (d := d) (w := py_wd P (py_rt P)) (by omega) (py_wd P (py_rt P)).length 0 M1 (by omega) a2 (fun i x hi => by omega) zLF (by omega)
  refine ⟨M2, ?_, b2, zr_trans f0 (zr_trans (zr_mono (zr_zf a3) sl_sq) (zr_mono (zr_zf b3) (fun t k j w => .inr (.inl ⟨w.1, .inr w.2⟩))))⟩
  simp only [hR1 M0 hX0, a1, Option.bind_some]
  exact b1
theorem cl_shortestLetter {w : List Nat} (hl : sl_l M sp) (hs : st_x M sp w) {k x : Nat} (hk : w[k]? = some x) : sp_shortestLetter d sp (nI k) M = some (nI x, M) := by
  have hkl := (List.getElem?_eq_some_iff.mp hk).1
  have h1 := hs.1
  have z2 : z_in (nI k) 2304 := nI_in (by omega) (by omega)
  have e23 : (2304 : Int32) = nI 2304 := rfl
  unfold sp_shortestLetter sp_shortestLetter_21
  rw [if_neg (nI_pos (by omega)), e23, if_neg (fun p => by have := (nI_leI (by omega) (by omega)).mp p; omega)]
  simp only [hl.2.1.1, hl.2.1.2, if_pos z2, nI_clamp (show k < 2 ^ 31 by omega), hs.2 k x hk]
end
