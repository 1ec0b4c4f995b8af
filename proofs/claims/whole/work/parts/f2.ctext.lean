/-! the class's letters up to an occurrence are the reference's -/
def py_txb (P : yP) (p : Option Nat) (en ov : Int32) : List Nat := match p with
  | none => []
  | some o => py_adb P en ov (py_lf P o) ++ [py_lt P o]
section
variable {P : yP} {en ov : Int32}
theorem hdb_len (h : py_ok P) {x p : Nat} (hx : py_dm P x) (e : py_up P x = some p) : (py_hdb P en ov p x).length + py_B P x ≤ py_B P p := by
  have hp := ok_pdm h hx e
  have hm := ok_pks h hx e
  have hfin := ok_fin h hx e
  have hw : ∀ c, c ∈ py_ks P p → (py_wd P c).length ≤ py_B P c := fun c hc => wd_len h c (ok_kid h hp hc)
  have hk2 : 2 ≤ py_kd P p := by
    by_cases q : 2 ≤ py_kd P p
    · exact q
    · have : py_kd P p = 0 ∨ py_kd P p = 1 := by omega
      rcases this with q | q
      · rw [(ok_k0 h hp q).1] at hm; cases hm
      · rw [(ok_k1 h hp q).1] at hm; cases hm
  have hB := Bs_le h hp hk2
  have hsplit : py_Bs P (py_ks P p) = py_Bs P (py_bf (py_ks P p) x) + (py_B P x + py_Bs P (py_af (py_ks P p) x)) := by
    conv => lhs; rw [hfin.1]
    rw [Bs_app, Bs_cons]
  unfold py_hdb
  by_cases q2 : py_kd P p = 2
  · rw [if_pos q2]
    have := fm_len (P := P) (l := py_bf (py_ks P p) x) (fun c hc => hw c (by rw [hfin.1]; exact List.mem_append_left _ hc))
    omega
  · rw [if_neg q2]
    by_cases q4 : py_kd P p = 4
    · rw [if_pos q4]
      have := sm_len2 (P := P) (sel := fun c => c != x && zbt ov (4 * py_nb P p + (py_bf (py_ks P p) c).length)) (x := x) (S := []) (by simp) hm hw
      simp only [List.flatten_nil, List.length_nil, Nat.zero_add] at this
      omega
    · rw [if_neg q4]
      by_cases q5 : py_kd P p = 5
      · rw [if_pos q5]
        obtain ⟨⟨c, hc, _⟩, k5b, _⟩ := ok_k5 h hp q5
        have hxc : x = c := by rw [hc] at hm; simpa using hm
        subst hxc
        have h5 := Bs_5 h hp q5 hc
        have hl := ok_fr h k5b
        have h6 := hw x hm
        have h7 : (py_fr P (py_nb P p) - 1) * (py_wd P x).length ≤ 11 * py_B P x := Nat.mul_le_mul (by omega) h6
        split
        · simp
          omega
        · simp
          omega
      · rw [if_neg q5]
        simp
        omega
theorem adb_len (h : py_ok P) : ∀ x, py_dm P x → (py_adb P en ov x).length + py_B P x ≤ 2304 := by
  refine ok_climb h _ ?_ ?_
  · rw [adb_rt h]
    have := B_le h (ok_rt h)
    simpa using this
  · intro x p hx e ih
    have := hdb_len (en := en) (ov := ov) h hx e
    rw [adb_up h hx e, List.length_append]
    omega
theorem few_1 {c : Nat} (h : 1 < py_few P c) : py_few P c = py_fr P c ∧ py_fr P c ≠ 0 ∧ (py_ks P (py_cn P c)).all (py_nu P) = false := by
  unfold py_few at h ⊢
  by_cases q : py_fr P c = 0 ∨ (py_ks P (py_cn P c)).all (py_nu P) = true
  · rw [if_pos q] at h; omega
  · rw [if_neg q]
    exact ⟨rfl, fun e => q (.inl e), by
      cases hq : (py_ks P (py_cn P c)).all (py_nu P)
      · rfl
      · exact absurd (.inr hq) q⟩
theorem hdb_hd (hP : py_ok P) {x n own : Nat} {V W : yK} (hx : py_dm P x) (hk0 : py_kd P x = 0) (ho : py_dm P own) (e : py_up P own = some n) (hw : py_wi P own x = true) (eV : kw_e P x V 0) (eW : kw_e P x W 0) (oV : kw_o P x V 0) (oW : kw_o P x W 0) : py_hdb P (V.2.1 ||| W.2.1) (V.2.2.1 ||| W.2.2.1) n own = py_hd P V.1 W.1 n own := by
  have hn := ok_pdm hP ho e
  have hown := ok_pks hP ho e
  have hwn : py_wi P n x = true := wi_kid hP hn hown x hx hw
  unfold py_hdb py_hd
  by_cases q2 : py_kd P n = 2
  · rw [if_pos q2, if_pos q2]
  · rw [if_neg q2, if_neg q2]
    by_cases q4 : py_kd P n = 4
    · rw [if_pos q4, if_pos q4]
      obtain ⟨_, k4b, k4c, k4d⟩ := ok_k4 hP hn q4
      have hna := ok_na hP
      have hnx : n ≠ x := by intro h; rw [h] at q4; omega
      refine congrArg List.flatten ?_
      unfold py_sm
      refine pl_foldl ?_
      intro c hc S
      have hbf := bf_at hc
      have hlt := (List.getElem?_eq_some_iff.mp hbf).1
      have h32 : 4 * py_nb P n + (py_bf (py_ks P n) c).length < 32 := by omega
      have hd4 : (4 * py_nb P n + (py_bf (py_ks P n) c).length) / 4 = py_nb P n := by omega
      have hm4 : (4 * py_nb P n + (py_bf (py_ks P n) c).length) % 4 = (py_bf (py_ks P n) c).length := by omega
      have key : ∀ U : yK, kw_o P x U 0 → (zbt U.2.2.1 (4 * py_nb P n + (py_bf (py_ks P n) c).length) = true ↔ py_pa P n U.1.2.2.1 = true ∧ py_nu P c = false) := by
        intro U hU
        rw [hU _ h32, hd4, hm4, k4d]
        constructor
        · rintro (h | ⟨_, _, _, h1, h2⟩)
          · rw [zy_0] at h; cases h
          · obtain ⟨_, y, hy, hyu⟩ := (ml_mem (py_nu P) _ _ _).mp h2
            rw [Nat.sub_zero, hbf] at hy
            injection hy with hy
            rw [← hy] at hyu
            exact ⟨h1, hyu⟩
        · rintro ⟨h1, h2⟩
          exact .inr ⟨k4c, hwn, hnx, h1, (ml_mem (py_nu P) _ _ _).mpr ⟨Nat.zero_le _, c, by rw [Nat.sub_zero]; exact hbf, h2⟩⟩
      have hs : (c != own && zbt (V.2.2.1 ||| W.2.2.1) (4 * py_nb P n + (py_bf (py_ks P n) c).length)) = py_mo P n c own V.1 W.1 := by
        unfold py_mo py_ps
        rw [zy_or]
        refine congrArg (fun z => c != own && z) ?_
        rw [Bool.eq_iff_iff, Bool.or_eq_true, key V oV, key W oW, Bool.and_eq_true, Bool.or_eq_true]
        constructor
        · rintro (⟨h1, h2⟩ | ⟨h1, h2⟩)
          · exact ⟨.inl h1, by rw [h2]; rfl⟩
          · exact ⟨.inr h1, by rw [h2]; rfl⟩
        · rintro ⟨h1, h2⟩
          have h2 : py_nu P c = false := by simpa using h2
          rcases h1 with h1 | h1
          · exact .inl ⟨h1, h2⟩
          · exact .inr ⟨h1, h2⟩
      simp only [hs]
    · rw [if_neg q4, if_neg q4]
      by_cases q5 : py_kd P n = 5
      · rw [if_pos q5, if_pos q5]
        obtain ⟨_, k5b, k5c⟩ := ok_k5 hP hn q5
        have hnc := ok_nc hP
        have hnx : n ≠ x := by intro h; rw [h] at q5; omega
        have key : ∀ U : yK, kw_e P x U 0 → (zbt U.2.1 (py_nb P n) = true ↔ py_pa P n U.1.2.2.1 = true ∧ 1 < py_few P (py_nb P n)) := by
          intro U hU
          rw [hU _ (show py_nb P n < 32 by omega), k5c]
          constructor
          · rintro (h | ⟨_, _, _, h1, h2⟩)
            · rw [zy_0] at h; cases h
            · exact ⟨h1, h2⟩
          · rintro ⟨h1, h2⟩
            exact .inr ⟨k5b, hwn, hnx, h1, h2⟩
        have hiff : zbt (V.2.1 ||| W.2.1) (py_nb P n) = true ↔ py_ps P n V.1 W.1 = true ∧ 1 < py_few P (py_nb P n) := by
          unfold py_ps
          rw [zy_or, Bool.or_eq_true, key V eV, key W eW, Bool.or_eq_true]
          constructor
          · rintro (⟨h1, h2⟩ | ⟨h1, h2⟩)
            · exact ⟨.inl h1, h2⟩
            · exact ⟨.inr h1, h2⟩
          · rintro ⟨h1, h2⟩
            rcases h1 with h1 | h1
            · exact .inl ⟨h1, h2⟩
            · exact .inr ⟨h1, h2⟩
        by_cases q : zbt (V.2.1 ||| W.2.1) (py_nb P n) = true
        · rw [if_pos q]
          obtain ⟨h1, h2⟩ := hiff.mp q
          obtain ⟨f1, f2, f3⟩ := few_1 h2
          rw [k5c] at f3
          have hl : py_lt2 P n V.1 W.1 = py_fr P (py_nb P n) := by
            unfold py_lt2
            rw [h1, f3, if_pos (by decide)]
            omega
          rw [hl]
        · rw [if_neg q]
          have hl : py_lt2 P n V.1 W.1 = 1 := by
            unfold py_lt2
            by_cases q1 : (py_ps P n V.1 W.1 && !(py_ks P n).all (py_nu P)) = true
            · rw [if_pos q1]
              rw [Bool.and_eq_true] at q1
              have hfew : ¬ 1 < py_few P (py_nb P n) := fun h => q (hiff.mpr ⟨q1.1, h⟩)
              have h3 : (py_ks P n).all (py_nu P) = false := by simpa using q1.2
              unfold py_few at hfew
              rw [k5c] at hfew
              by_cases q3 : py_fr P (py_nb P n) = 0
              · rw [q3]; rfl
              · rw [if_neg (by
                  rintro (h | h)
                  · exact q3 h
                  · rw [h3] at h; cases h)] at hfew
                omega
            · rw [if_neg q1]
          rw [hl]
          rfl
      · rw [if_neg q5, if_neg q5]
theorem adb_ad (hP : py_ok P) {x : Nat} {V W : yK} (hx : py_dm P x) (hk0 : py_kd P x = 0) (eV : kw_e P x V 0) (eW : kw_e P x W 0) (oV : kw_o P x V 0) (oW : kw_o P x W 0) : ∀ y, py_dm P y → py_wi P y x = true → py_adb P (V.2.1 ||| W.2.1) (V.2.2.1 ||| W.2.2.1) y = py_ad P V.1 W.1 y := by
  refine ok_climb hP _ ?_ ?_
  · intro _
    rw [adb_rt hP, ad_rt hP]
  · intro y p hy e ih hw
    have hp := ok_pdm hP hy e
    have hwp : py_wi P p x = true := wi_kid hP hp (ok_pks hP hy e) x hx hw
    rw [adb_up hP hy e, ad_up hP hy e, ih hwp, hdb_hd hP hx hk0 hy e hw eV eW oV oW]
theorem txb_tx (hP : py_ok P) {b : Option Nat} (hb : ∀ o, b = some o → o < py_nl P) {V W : yK} (hV : V ∈ py_cw P b) (hW : W ∈ py_cw P b) : py_txb P b (V.2.1 ||| W.2.1) (V.2.2.1 ||| W.2.2.1) = py_tx P b V.1 W.1 ∧ (∀ c, c < py_nc P → zbt (V.2.1 ||| W.2.1) c = true → 2 ≤ py_fr P c) := by
  cases b with
  | none =>
    refine ⟨rfl, ?_⟩
    intro c hc h
    have h0 : ∀ U : yK, U ∈ py_cw P none → U.2.1 = 0 := by
      intro U hU
      have hU : U ∈ (py_ways P none).map (fun W => (W, (0 : Int32), (0 : Int32), (0 : Int32))) := hU
      obtain ⟨Y, _, rfl⟩ := List.mem_map.mp hU
      rfl
    rw [h0 V hV, h0 W hW, zy_or, zy_0] at h
    cases h
  | some o =>
    have ho := hb o rfl
    have hlf := ok_lf hP ho
    obtain ⟨_, eV, oV, _⟩ := cwf_mem hP (py_lf P o) hlf 40 0 0 V hV
    obtain ⟨_, eW, oW, _⟩ := cwf_mem hP (py_lf P o) hlf 40 0 0 W hW
    have hnc := ok_nc hP
    refine ⟨?_, ?_⟩
    · show py_adb P _ _ (py_lf P o) ++ [py_lt P o] = py_ad P V.1 W.1 (py_lf P o) ++ [py_lt P o]
      rw [adb_ad hP hlf (ok_lfk hP ho) eV eW oV oW (py_lf P o) hlf (wi_self hP hlf)]
    · intro c hc h
      rw [zy_or, Bool.or_eq_true] at h
      have key : ∀ U : yK, kw_e P (py_lf P o) U 0 → zbt U.2.1 c = true → 2 ≤ py_fr P c := by
        intro U hU hz
        rcases (hU c (by omega)).mp hz with h | ⟨_, _, _, _, h2⟩
        · rw [zy_0] at h; cases h
        · have := few_1 h2
          omega
      rcases h with h | h
      · exact key V eV h
      · exact key W eW h
theorem txb_len (hP : py_ok P) {b : Option Nat} (hb : ∀ o, b = some o → o < py_nl P) : (py_txb P b en ov).length ≤ 2304 := by
  cases b with
  | none => exact Nat.zero_le _
  | some o =>
    have ho := hb o rfl
    have hlf := ok_lf hP ho
    have h1 := adb_len (en := en) (ov := ov) hP _ hlf
    have h2 := wd_len hP _ hlf
    have h3 : (py_wd P (py_lf P o)).length = 1 := by
      have hk := ok_lfk hP ho
      have hu : py_nu P (py_lf P o) = false := by
        rw [nu_eq hP hlf]
        unfold py_ng
        rw [if_pos hk]
      rw [wd_eq hP hlf]
      unfold py_wg
      rw [hu, hk]
      rfl
    show (py_adb P en ov (py_lf P o) ++ [py_lt P o]).length ≤ 2304
    rw [List.length_append, List.length_singleton]
    omega
end
