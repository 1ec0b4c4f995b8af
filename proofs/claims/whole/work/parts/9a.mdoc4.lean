/-! THE MODEL's face: document -/
theorem pb_LF2 : 8000 < zLF := by
  unfold zLF
  decide
theorem do_nil : do_ok [] := ⟨Nat.zero_le _, fun i x h => by simp at h⟩
theorem dr_le : ∀ (b : List Nat) (p : Nat) (s : yD) (q : Nat), (py_dr b p s).1 = some q → q ≤ p + b.length := by
  intro b
  induction b with
  | nil =>
    intro p s q h
    simp only [py_dr] at h
    by_cases c : s.2.2.2 = true ∨ s.2.1.isSome = true
    · rw [if_pos c] at h
      injection h with h
      omega
    · rw [if_neg c] at h
      cases h
  | cons x b ih =>
    intro p s q h
    simp only [py_dr] at h
    rw [List.length_cons]
    by_cases c : x = 32
    · rw [if_pos c] at h
      have := ih _ _ _ h
      omega
    · rw [if_neg c] at h
      cases hs : py_dt s x with
      | none =>
        rw [hs] at h
        injection h with h
        omega
      | some s' =>
        rw [hs] at h
        have := ih _ _ _ h
        omega
def py_doc (T : List Nat) : Option Nat × List yT := py_dr T 0 ([], none, none, true)
def sp_doc (S : yZ) : Int32 × yZ := match (py_doc S.1).1 with
  | some _ => (-1, S)
  | none => (nI (py_doc S.1).2.length, ([], S.2.1, (py_doc S.1).2, S.2.2.2))
section
variable {am d : Nat} {M : zM} {S : yZ}
theorem mr_readsDocument {T : List Nat} (hl : ml_ok am M) (hT : mt_p am M T) (hok : tp_ok T) (hd : 12 ≤ d) : ∃ M', mo_readsDocument d am M = some (zo (py_doc T).1, M') ∧ ((py_doc T).1 = none → md_w am M' (py_doc T).2 ∧ do_ok (py_doc T).2) ∧ zf (mg am [3, 4, 21] [13]) M M' := by
  have h400 := hok.1
  obtain ⟨d, rfl⟩ : ∃ d', d = d' + 1 := ⟨d - 1, by omega⟩
  have eb : mo_readsDocument (d + 1) am M = mo_readsDocument_b d am M := rfl
  rw [eb]
  obtain ⟨M5, hM5⟩ : ∃ X, X = zm_setI (zm_setI (zm_setI M 12 am 3 0) 12 am 4 (-1)) 12 am 21 0 := ⟨_, rfl⟩
  have f5 : zf (mg am [3, 4, 21] []) M M5 := by
    rw [hM5]
    exact zf_trans (zf_trans (zf_set (.inl ⟨rfl, rfl, by simp⟩)) (zf_set (.inl ⟨rfl, rfl, by simp⟩))) (zf_set (.inl ⟨rfl, rfl, by simp⟩))
  have f5' : zf (mg am [3, 4, 21] [13]) M M5 := zf_mono f5 (mg_mono (by simp) (by simp))
  have w3 : zm_I M5 12 am 3 = 0 := by rw [hM5, pm_ne (by omega), pm_ne (by omega), pm_same]
  have w4 : zm_I M5 12 am 4 = -1 := by rw [hM5, pm_ne (by omega), pm_same]
  have w21 : zm_I M5 12 am 21 = 0 := by rw [hM5, pm_same]
  unfold mo_readsDocument_b
  simp only [zlet]
  rw [← hM5]
  obtain ⟨M1, g1, g2, g3⟩ := mr_oneThing hok 7 0 d (by omega) (by omega) none T [] M5 [] rfl (ml_zf hl f5) (mt_mg hT f5 (by simp) (by simp)) w3 w4 ⟨w21, fun i x h => by simp at h⟩ do_nil (fun k hk => by cases hk) rfl
  have g1' : mo_oneThing d am (-1) 0 M5 = some M1 := g1
  rw [g1']
  simp only [Option.bind_some]
  have hf1 := zf_trans f5' g2
  have hl1 := ml_zf hl hf1
  have hT1 := mt_mg hT hf1 (by simp) (by simp)
  have ed : py_dr T ([] : List Nat).length ([], none, none, true) = py_doc T := rfl
  rw [ed] at g3
  rcases g3 with ⟨q, q1, q2, q3⟩ | ⟨q1, a', b', D', q2, q3, q4, q5, q6, q7, q8⟩
  · refine ⟨M1, ?_, ?_, hf1⟩
    · simp only [mr_fine0 q1 q2, Option.bind_some, if_true, mo_readsDocument_44, q1, q3, zo]
    · intro hn
      rw [q3] at hn
      cases hn
  · obtain ⟨n1, b1, M2, k1, k2, k3, k4, k5⟩ := mr_look (d := d) hok q2 hl1 hT1 q4 (by omega)
    have hb1 : ∀ x, x ∈ b1 → x < 256 := fun x hx => (hok.2 x (by rw [q2, k1]; simp [hx])).2
    have hf2 : zf (mg am [3, 4, 21] [13]) M M2 := zf_trans hf1 (zf_mono k5 (mg_mono (by simp) (by simp)))
    have h42 : zm_I M2 12 am 4 = -1 := by rw [mg_f k5 (by simp)]; exact q1
    rw [k1, dr_rep] at q8
    rw [q8]
    simp only [mr_fine1 q1, Option.bind_some, if_neg (show ¬ (1 : Int32) = 0 by decide), k3, ht_m1 hb1]
    by_cases c : b1 = []
    · subst c
      rw [if_pos rfl]
      refine ⟨M2, ?_, ?_, hf2⟩
      · simp only [mo_readsDocument_44, h42]
        simp [py_dr, zo]
      · intro _
        simp only [py_dr]
        exact ⟨md_wmg q5 k5 (by simp) (by simp), q6⟩
    · rw [if_neg c]
      cases b1 with
      | nil => exact absurd rfl c
      | cons x b2 =>
        have x32 : ¬ x = 32 := fun y => k2 (by simp [y])
        have ev : (py_dr (x :: b2) (a'.length + n1) (D', none, none, false)).1 = some (a'.length + n1) := by simp [py_dr, py_dt, x32]
        refine ⟨zm_setI M2 12 am 4 (nI (a'.length + n1)), ?_, ?_, zf_trans hf2 (zf_set (.inl ⟨rfl, rfl, by simp⟩))⟩
        · simp only [k4, mr_fails h42, Option.bind_some, mo_readsDocument_44, pm_same, ev, zo]
        · intro hn
          rw [ev] at hn
          cases hn
theorem mr_copies_2 {i j L : Nat} (hij : i ≠ j) (hL : L < 8000) : ∀ (m k : Nat) (M : zM), k + m = L → zm_L M 20 (am + i) = L → zm_L M 20 (am + j) = L → (∀ n, n < k → zm_I M 20 (am + j) n = zm_I M 20 (am + i) n) → ∀ fuel, m < fuel → ∃ M', mo_copies_2 d fuel (some (am + i)) (some (am + j)) (nI k) M = some M' ∧ (∀ n, n < L → zm_I M' 20 (am + j) n = zm_I M' 20 (am + i) n) ∧ zf (mg am [] [j]) M M' := by
  intro m
  induction m with
  | zero =>
    intro k M hk l1 l2 hc fuel hf
    cases fuel with
    | zero => cases hf
    | succ fuel =>
      have : k = L := by omega
      subst this
      have : (Int32.ofNat k) ≤ nI k := nI_le (a := k) (by omega) (by omega)
      refine ⟨M, ?_, hc, zf_refl _ _⟩
      simp only [mo_copies_2, l2, if_pos this]
  | succ m ih =>
    intro k M hk l1 l2 hc fuel hf
    cases fuel with
    | zero => cases hf
    | succ fuel =>
      have hge : ¬ (Int32.ofNat L) ≤ nI k := nI_ge (b := L) (by omega) (by omega)
      have hz : z_in (nI k) L := nI_in (by omega) (by omega)
      have hfz : zf (mg am [] [j]) M (zm_setI M 20 (am + j) k (zm_I M 20 (am + i) k)) := zf_set (.inr ⟨.inl rfl, j, by simp, rfl⟩)
      obtain ⟨M', g1, g2, g3⟩ := ih (k + 1) (zm_setI M 20 (am + j) k (zm_I M 20 (am + i) k)) (by omega) (by rw [pm_LI]; exact l1) (by rw [pm_LI]; exact l2) (by
        intro n hn
        by_cases e : n = k
        · subst e
          rw [pm_same, pm_ne (by omega)]
        · rw [pm_ne (by omega), pm_ne (by omega)]
          exact hc n (by omega)) fuel (by omega)
      refine ⟨M', ?_, g2, zf_trans hfz g3⟩
      simp only [mo_copies_2, l1, l2, if_neg hge, if_pos hz, nI_clamp (show k < 2 ^ 31 by omega), zlet, nI_1]
      exact g1
theorem mr_copies {i j L : Nat} (hij : i ≠ j) (hL : L < 8000) (l1 : zm_L M 20 (am + i) = L) (l2 : zm_L M 20 (am + j) = L) : ∃ M', mo_copies d (some (am + i)) (some (am + j)) M = some M' ∧ (∀ n, n < L → zm_I M' 20 (am + j) n = zm_I M 20 (am + i) n) ∧ zf (mg am [] [j]) M M' := by
  have hLF := pb_LF2
  obtain ⟨M', g1, g2, g3⟩ := mr_copies_2 (d := d) hij hL L 0 M (by omega) l1 l2 (by intro n hn; omega) zLF (by omega)
  refine ⟨M', ?_, ?_, g3⟩
  · unfold mo_copies
    exact g1
  · intro n hn
    rw [g2 n hn, mg_a g3 (by decide) (by simpa using hij)]
theorem mf_doc (h : mI am M S) (hz : zz_ok S) (hd : 200 ≤ d) : (∃ M', mo_document d am M = some ((sp_doc S).1, M') ∧ mI am M' (sp_doc S).2 ∧ zf (mg am [0, 2, 3, 4, 20, 21] [12, 13]) M M') ∧ zz_ok (sp_doc S).2 := by
  have hok := hz.1
  obtain ⟨d, rfl⟩ : ∃ d', d = d' + 1 := ⟨d - 1, by omega⟩
  have eb : mo_document (d + 1) am M = mo_document_b d am M := rfl
  rw [eb]
  obtain ⟨h0, hf0⟩ := mI_0 h 0
  obtain ⟨M1, g1, g2, g3⟩ := mr_readsDocument (d := d) h0.1 h0.2.1 hok (by omega)
  have hm1 : zf (mg am [0, 2, 3, 4, 20, 21] [12, 13]) M M1 := zf_trans (zf_mono hf0 (mg_mono (by simp) (by simp))) (zf_mono g3 (mg_mono (by simp) (by simp)))
  have h1 : mI am M1 S := mI_zf' h0 g3 (by simp [mi_F]) (by simp [mi_A])
  unfold mo_document_b sp_doc
  simp only [zlet, g1, Option.bind_some]
  cases hv : (py_doc S.1).1 with
  | some q =>
    have : ¬ zo (some q) = -1 := by
      intro hq
      have hq' : nI q = -1 := hq
      have hle := dr_le _ _ _ _ hv
      have h400 := hok.1
      exact pb_ne1 (by omega) hq'
    dsimp only
    rw [if_neg this]
    exact ⟨⟨M1, rfl, h1, hm1⟩, hz⟩
  | none =>
    obtain ⟨g4, g5⟩ := g2 hv
    dsimp only
    rw [if_pos pb_zon]
    have f6 : zf (mg am [2] []) M1 (zm_setI M1 12 am 2 0) := zf_set (.inl ⟨rfl, rfl, by simp⟩)
    have hl6 := ml_zf h1.1 f6
    obtain ⟨M7, c1, c2, c3⟩ := mr_copies (d := d) (i := 13) (j := 12) (by decide) (by omega) (ml_L19 hl6) (ml_L18 hl6)
    simp only [ml_R18 hl6, ml_R19 hl6, c1, Option.bind_some]
    have w21 : zm_I M7 12 am 21 = nI (py_doc S.1).2.length := by
      rw [mg_f c3 (by simp), mg_f f6 (by simp)]
      exact g4.1
    have f8 : zf (mg am [20] []) M7 (zm_setI M7 12 am 20 (nI (py_doc S.1).2.length)) := zf_set (.inl ⟨rfl, rfl, by simp⟩)
    have F : zf (mg am [2, 20] [12]) M1 (zm_setI M7 12 am 20 (nI (py_doc S.1).2.length)) := zf_trans (zf_trans (zf_mono f6 (mg_mono (by simp) (by simp))) (zf_mono c3 (mg_mono (by simp) (by simp)))) (zf_mono f8 (mg_mono (by simp) (by simp)))
    refine ⟨⟨zm_setI M7 12 am 20 (nI (py_doc S.1).2.length), ?_, ?_, zf_trans hm1 (zf_mono F (mg_mono (by simp) (by simp)))⟩, ?_⟩
    · simp only [w21, pm_same]
    · refine ⟨ml_zf h1.1 F, ⟨?_, fun i b hb => by simp at hb⟩, mt_zf2 h1.2.2.1 F (by simp) (by simp), ⟨pm_same, ?_⟩, mv_zf h1.2.2.2.2.1 F (by simp) (by simp), ?_⟩
      · show zm_I _ 12 am 2 = nI 0
        rw [mg_f f8 (by simp), mg_f c3 (by simp), pm_same]
        rfl
      · intro i x hx
        have hi : i < (py_doc S.1).2.length := (List.getElem?_eq_some_iff.mp hx).1
        have h60 := g5.1
        have hc : ∀ n, n < 240 → zm_I (zm_setI M7 12 am 20 (nI (py_doc S.1).2.length)) 20 (am + 12) n = zm_I M1 20 (am + 13) n := by
          intro n hn
          rw [pm_ne (by omega), c2 n hn, pm_ne (by omega)]
        have hx0 := g4.2 i x hx
        exact ⟨Eq.trans (hc _ (by omega)) hx0.1, Eq.trans (hc _ (by omega)) hx0.2.1, Eq.trans (hc _ (by omega)) hx0.2.2.1, Eq.trans (hc _ (by omega)) hx0.2.2.2⟩
      · rw [mg_f F (by simp)]
        exact h1.2.2.2.2.2
    · refine ⟨⟨Nat.zero_le _, fun b hb => by cases hb⟩, hz.2.1, hz.2.2.1, hz.2.2.2.1, g5, hz.2.2.2.2.2⟩
end
