/-! THE CLASS: a document's text is read, the whole -/
section
variable {M M' : zM} {d dc ac : Nat} {D : List yT} {s s' : yD} {T : List Nat}
theorem cl_t36_0 {b : Nat} (hx : dp_x M dc s) (hi : dp_i s) (h60 : s.1.length < 60) (hb : b < 256) : ∃ M', do_takeThing_36 d dc (nI b) 0 M = some (zb (decide (97 ≤ b ∧ b ≤ 122)), M') ∧ (97 ≤ b ∧ b ≤ 122 → dp_x M' dc (py_add s.1 s.2.1 (b - 97), s.2.1, some s.1.length, false)) ∧ (¬ (97 ≤ b ∧ b ≤ 122) → M' = M) ∧ zf (dq_W dc) M M' := by
  have e97 : (97 : Int32) = nI 97 := rfl
  have e122 : (122 : Int32) = nI 122 := rfl
  by_cases q : 97 ≤ b ∧ b ≤ 122
  · obtain ⟨hdo, h11, h12, h13⟩ := hx
    obtain ⟨i1, i2, i3, i4, i5⟩ := hi
    have hz : z_in (nI s.1.length) 60 := nI_in (by omega) (by omega)
    have hcl := nI_clamp (show s.1.length < 2 ^ 31 by omega)
    have l1 := hdo.1.1 1 (by omega) (by omega)
    have l2 := hdo.1.1 2 (by omega) (by omega)
    have l3 := hdo.1.1 3 (by omega) (by omega)
    have l4 := hdo.1.1 4 (by omega) (by omega)
    have k97 : ∀ y : Fin 26, nI (y.val + 97) - 97 = nI y.val := by decide +kernel
    have eb : nI b - 97 = nI (b - 97) := by
      have := k97 ⟨b - 97, by omega⟩
      rw [show (⟨b - 97, (by omega : b - 97 < 26)⟩ : Fin 26).val + 97 = b from by show b - 97 + 97 = b; omega] at this
      exact this
    have g1 : ∀ n a1 a2 a3 j, zm_I (zm_setI (zm_setI (zm_setI M 20 (dc + 1) n a1) 20 (dc + 2) n a2) 20 (dc + 3) n a3) 1 dc j = zm_I M 1 dc j := by
      intro n a1 a2 a3 j
      rw [pm_ne (by omega), pm_ne (by omega), pm_ne (by omega)]
    have g2 : ∀ n a1 a2 j, zm_I (zm_setI (zm_setI M 20 (dc + 1) n a1) 20 (dc + 2) n a2) 1 dc j = zm_I M 1 dc j := by
      intro n a1 a2 j
      rw [pm_ne (by omega), pm_ne (by omega)]
    have g3 : ∀ n a1 j, zm_I (zm_setI M 20 (dc + 1) n a1) 1 dc j = zm_I M 1 dc j := by
      intro n a1 j
      rw [pm_ne (by omega)]
    have run : ∃ M', do_takeThing_36 d dc (nI b) 0 M = some (1, M') ∧ dp_x M' dc (py_add s.1 s.2.1 (b - 97), s.2.1, some s.1.length, false) ∧ zf (dq_W dc) M M' := by
      unfold do_takeThing_36
      rw [e97, e122, if_neg (fun p => by have := (lt_i2 (by omega) (by omega)).mp p; omega), if_neg (fun p => by have := (lt_i2 (by omega) (by omega)).mp p; omega), if_pos rfl, ← e97, eb]
      simp only [l1.1, l1.2, pm_RI, pm_LI, g1, g2, g3, l2.1, l2.2, l3.1, l3.2, l4.1, l4.2, hdo.2.1, if_pos hz, hcl, zlet, h11]
      cases ho : s.2.1 with
      | none =>
        rw [if_pos (show zo none = -1 from rfl)]
        exact cl_t122 (d := d) (l := b - 97) (o := none) hdo i1 rfl h60 (by rw [h11, ho]) (fun k hk => by cases hk) (v := 0) rfl rfl
      | some k =>
        have hk := i3 k ho
        have hzk : z_in (nI k) 60 := nI_in (by omega) (by omega)
        have hzo : zo (some k) = nI k := rfl
        obtain ⟨y, hy⟩ : ∃ y, s.1[k]? = some y := ⟨s.1[k]'hk, List.getElem?_eq_getElem _⟩
        rw [if_neg (show ¬ zo (some k) = -1 from pb_ne1 (by omega)), hzo]
        have g4 : ∀ n a1 a2 a3, zm_I (zm_setI (zm_setI (zm_setI M 20 (dc + 1) n a1) 20 (dc + 2) n a2) 20 (dc + 3) n a3) 20 (dc + 4) k = nI y.2.2.2 := by
          intro n a1 a2 a3
          rw [pm_ne (by omega), pm_ne (by omega), pm_ne (by omega)]
          exact (hdo.2.2 k y hy).2.2.2
        simp only [if_pos hzk, nI_clamp (show k < 2 ^ 31 by omega), g4]
        have hdv : py_dv s.1 (some k) = y.2.2.2 + 1 := by show (match s.1[k]? with | none => 0 | some x => x.2.2.2 + 1) = _; rw [hy]
        exact cl_t122 (d := d) (l := b - 97) (o := some k) hdo i1 rfl h60 (by rw [h11, ho]) (fun k' hk' => by injection hk' with hk'; omega) (v := nI y.2.2.2 + 1) (by rw [hdv]; exact nI_add _ 1) rfl
    obtain ⟨M', a1, a2, a3⟩ := run
    refine ⟨M', ?_, fun _ => a2, fun n => (n q).elim, a3⟩
    rw [a1, decide_eq_true q]
    rfl
  · refine ⟨M, ?_, fun p => (q p).elim, fun _ => rfl, zf_refl _ _⟩
    unfold do_takeThing_36 do_takeThing_53
    rw [decide_eq_false q]
    rw [e97, e122]
    by_cases q1 : b < 97
    · rw [if_pos ((lt_i2 (by omega) (by omega)).mpr q1)]
      rfl
    · rw [if_neg (fun p => q1 ((lt_i2 (by omega) (by omega)).mp p)), if_pos ((lt_i2 (by omega) (by omega)).mpr (by omega))]
      rfl
theorem cl_takeThing {b : Nat} (hx : dp_x M dc s) (hi : dp_i s) (hw : s.2.2.2 = true) (hb : b < 256) : ∃ M', do_takeThing d dc (nI b) M = some (zb (py_dt s b).isSome, M') ∧ dp_x M' dc ((py_dt s b).getD s) ∧ zf (dq_W dc) M M' := by
  have hlen := hi.1.1
  have e60 : (60 : Int32) = nI 60 := rfl
  have e24 : (24 : Int32) = nI 24 := rfl
  have fail : ¬ ((97 ≤ b ∧ b ≤ 122) ∧ s.1.length < 60 ∧ py_hm s.1 s.2.1 < 24) → py_dt s b = none := by
    intro n
    unfold py_dt
    rw [if_pos hw, if_neg n]
  have ok : s.1.length < 60 → py_hm s.1 s.2.1 < 24 → ∃ M', do_takeThing_36 d dc (nI b) 0 M = some (zb (py_dt s b).isSome, M') ∧ dp_x M' dc ((py_dt s b).getD s) ∧ zf (dq_W dc) M M' := by
    intro h60 h24
    obtain ⟨M', a1, a2, a3, a4⟩ := cl_t36_0 (d := d) hx hi h60 hb
    by_cases q : 97 ≤ b ∧ b ≤ 122
    · have hp : py_dt s b = some (py_add s.1 s.2.1 (b - 97), s.2.1, some s.1.length, false) := by
        unfold py_dt
        rw [if_pos hw, if_pos ⟨q, h60, h24⟩]
      rw [decide_eq_true q] at a1
      rw [hp]
      exact ⟨M', a1, a2 q, a4⟩
    · rw [decide_eq_false q] at a1
      rw [fail (fun x => q x.1)]
      rw [a3 q] at a1
      exact ⟨M, a1, hx, zf_refl _ _⟩
  obtain ⟨hdo, h11, h12, h13⟩ := hx
  unfold do_takeThing
  rw [hdo.2.1, e60]
  by_cases q : s.1.length < 60
  · rw [if_neg (fun p => by have := (le_i2 (by omega) (by omega)).mp p; omega), h11]
    cases ho : s.2.1 with
    | none =>
      rw [if_pos (show zo none = -1 from rfl)]
      exact ok q (by rw [ho]; show 0 < 24; omega)
    | some k =>
      have hk := hi.2.2.1 k ho
      have hzk : z_in (nI k) 60 := nI_in (by omega) (by omega)
      have hzo : zo (some k) = nI k := rfl
      obtain ⟨y, hy⟩ : ∃ y, s.1[k]? = some y := ⟨s.1[k]'hk, List.getElem?_eq_getElem _⟩
      have l3 := hdo.1.1 3 (by omega) (by omega)
      have hm : py_hm s.1 s.2.1 = y.2.2.1 := by rw [ho]; show (match s.1[k]? with | none => 0 | some x => x.2.2.1) = _; rw [hy]
      have o4 := (hi.1.2 k y hy).2.2.2.1
      rw [if_neg (show ¬ zo (some k) = -1 from pb_ne1 (by omega)), hzo]
      simp only [l3.1, l3.2, if_pos hzk, nI_clamp (show k < 2 ^ 31 by omega), (hdo.2.2 k y hy).2.2.1, e24]
      by_cases q2 : y.2.2.1 < 24
      · rw [if_pos ((lt_i2 (by omega) (by omega)).mpr q2)]
        exact ok q (by rw [hm]; exact q2)
      · rw [if_neg (fun p => q2 ((lt_i2 (by omega) (by omega)).mp p)), do_takeThing_31, cl_t36_1, fail (fun x => by rw [hm] at x; omega)]
        exact ⟨M, rfl, ⟨hdo, h11, h12, h13⟩, zf_refl _ _⟩
  · rw [if_pos ((le_i2 (by omega) (by omega)).mpr (by omega)), do_takeThing_31, cl_t36_1, fail (fun x => q x.2.1)]
    exact ⟨M, rfl, ⟨hdo, h11, h12, h13⟩, zf_refl _ _⟩
theorem dp_set {j : Nat} {v : Int32} {a b : Option Nat} {c : Bool} (hx : do_x M dc D) (hj : j = 11 ∨ j = 12 ∨ j = 13) : do_x (zm_setI M 1 dc j v) dc D := by
  refine ⟨dl_zf hx.1 (zf_set (W := dq_W dc) (.inl ⟨rfl, rfl, by omega⟩)), ?_, ?_⟩
  · rw [pm_ne (by omega)]; exact hx.2.1
  · intro i x h
    rw [pm_ne (by omega), pm_ne (by omega), pm_ne (by omega), pm_ne (by omega)]
    exact hx.2.2 i x h
theorem cl_takeSign {b : Nat} (hx : dp_x M dc s) (hi : dp_i s) (hw : s.2.2.2 = false) (hb : b < 256) : ∃ M', do_takeSign d dc (nI b) M = some (zb (py_dt s b).isSome, M') ∧ dp_x M' dc ((py_dt s b).getD s) ∧ zf (dq_W dc) M M' := by
  have hlen := hi.1.1
  have hx0 := hx
  obtain ⟨hdo, h11, h12, h13⟩ := hx
  have hw' : ¬ s.2.2.2 = true := by rw [hw]; decide
  have eqb : ∀ c, c < 256 → ((nI b = nI c) ↔ b = c) := fun c hc => nI_eq (by omega) (by omega)
  have k45 : ¬ (b = 40 ∧ s.2.2.1.isSome = true ∧ py_dv s.1 s.2.2.1 < 8) → ∃ M', do_takeSign_45 d dc (nI b) M = some (zb (py_dt s b).isSome, M') ∧ dp_x M' dc ((py_dt s b).getD s) ∧ zf (dq_W dc) M M' := by
    intro n
    have hdt : py_dt s b = match s.2.1 with
      | none => none
      | some k => if b = 44 then some (s.1, some k, s.2.2.1, true) else if b = 41 then some (s.1, py_pr s.1 k, none, false) else none := by
      unfold py_dt
      rw [if_neg hw', if_neg n]
      cases s.2.1 <;> rfl
    unfold do_takeSign_45 do_takeSign_65
    rw [h11]
    cases ho : s.2.1 with
    | none =>
      rw [ho] at hdt
      rw [if_pos (show zo none = -1 from rfl), hdt]
      exact ⟨M, rfl, hx0, zf_refl _ _⟩
    | some k =>
      rw [ho] at hdt
      simp only at hdt
      have hk := hi.2.2.1 k ho
      have hzk : z_in (nI k) 60 := nI_in (by omega) (by omega)
      have hzo : zo (some k) = nI k := rfl
      have e44 : (44 : Int32) = nI 44 := rfl
      have e41 : (41 : Int32) = nI 41 := rfl
      rw [if_neg (show ¬ zo (some k) = -1 from pb_ne1 (by omega)), e44, e41]
      by_cases q : b = 44
      · rw [if_pos q] at hdt
        rw [if_pos ((eqb 44 (by omega)).mpr q), hdt]
        unfold do_takeSign_67 do_takeSign_99
        rw [e44, if_pos ((eqb 44 (by omega)).mpr q)]
        refine ⟨_, rfl, ⟨dp_set hdo (by omega) (a := none) (b := none) (c := false), ?_, ?_, ?_⟩, zf_set (.inl ⟨rfl, rfl, by omega⟩)⟩
        · rw [pm_ne (by omega), h11, ho]; rfl
        · rw [pm_ne (by omega), h12]; rfl
        · rw [pm_same]; rfl
      · rw [if_neg q] at hdt
        rw [if_neg (fun p => q ((eqb 44 (by omega)).mp p))]
        by_cases q2 : b = 41
        · rw [if_pos q2] at hdt
          obtain ⟨y, hy⟩ : ∃ y, s.1[k]? = some y := ⟨s.1[k]'hk, List.getElem?_eq_getElem _⟩
          have hp : py_pr s.1 k = y.2.1 := by unfold py_pr; rw [hy]
          have l2 := hdo.1.1 2 (by omega) (by omega)
          rw [if_pos ((eqb 41 (by omega)).mpr q2), hdt]
          unfold do_takeSign_67 do_takeSign_99
          rw [e44, if_neg (fun p => q ((eqb 44 (by omega)).mp p))]
          have g1 : zm_I (zm_setI M 1 dc 12 (-1)) 1 dc 11 = nI k := by rw [pm_ne (by omega), h11, ho, hzo]
          have g2 : zm_I (zm_setI M 1 dc 12 (-1)) 20 (dc + 2) k = zo y.2.1 := by rw [pm_ne (by omega)]; exact (hdo.2.2 k y hy).2.1
          simp only [zlet, pm_RI, pm_LI, l2.1, l2.2, g1, if_pos hzk, nI_clamp (show k < 2 ^ 31 by omega), g2]
          refine ⟨_, rfl, ⟨dp_set (dp_set hdo (by omega) (a := none) (b := none) (c := false)) (by omega) (a := none) (b := none) (c := false), ?_, ?_, ?_⟩, zf_trans (zf_set (.inl ⟨rfl, rfl, by omega⟩)) (zf_set (.inl ⟨rfl, rfl, by omega⟩))⟩
          · rw [pm_same]
            show zo y.2.1 = zo (py_pr s.1 k)
            rw [hp]
          · rw [pm_ne (by omega), pm_same]
            rfl
          · rw [pm_ne (by omega), pm_ne (by omega), h13, hw]
            rfl
        · rw [if_neg q2] at hdt
          rw [if_neg (fun p => q2 ((eqb 41 (by omega)).mp p)), hdt]
          exact ⟨M, rfl, hx0, zf_refl _ _⟩
  unfold do_takeSign
  have e40 : (40 : Int32) = nI 40 := rfl
  rw [e40]
  by_cases q : b = 40
  · rw [if_pos ((eqb 40 (by omega)).mpr q), h12]
    cases hl : s.2.2.1 with
    | none =>
      rw [if_pos (show zo none = -1 from rfl)]
      exact k45 (fun x => by rw [hl] at x; cases x.2.1)
    | some k =>
      have hk := hi.2.2.2.2 k hl
      have hzk : z_in (nI k) 60 := nI_in (by omega) (by omega)
      have hzo : zo (some k) = nI k := rfl
      obtain ⟨y, hy⟩ : ∃ y, s.1[k]? = some y := ⟨s.1[k]'hk, List.getElem?_eq_getElem _⟩
      have l4 := hdo.1.1 4 (by omega) (by omega)
      have o5 := (hi.1.2 k y hy).2.2.2.2
      have hdv : py_dv s.1 s.2.2.1 = y.2.2.2 + 1 := by rw [hl]; show (match s.1[k]? with | none => 0 | some x => x.2.2.2 + 1) = _; rw [hy]
      have e1 : nI y.2.2.2 + 1 = nI (y.2.2.2 + 1) := nI_add _ 1
      have e8 : (8 : Int32) = nI 8 := rfl
      rw [if_neg (show ¬ zo (some k) = -1 from pb_ne1 (by omega)), hzo]
      simp only [l4.1, l4.2, if_pos hzk, nI_clamp (show k < 2 ^ 31 by omega), (hdo.2.2 k y hy).2.2.2, e1, e8, zlet]
      by_cases q2 : 8 ≤ y.2.2.2 + 1
      · rw [if_pos ((le_i2 (by omega) (by omega)).mpr q2)]
        exact k45 (fun x => by rw [hdv] at x; omega)
      · rw [if_neg (fun p => q2 ((le_i2 (by omega) (by omega)).mp p))]
        have hdt : py_dt s b = some (s.1, s.2.2.1, s.2.2.1, true) := by
          unfold py_dt
          rw [if_neg hw', if_pos ⟨q, by rw [hl]; rfl, by rw [hdv]; omega⟩]
        rw [hdt]
        refine ⟨_, rfl, ⟨dp_set (dp_set hdo (by omega) (a := none) (b := none) (c := false)) (by omega) (a := none) (b := none) (c := false), ?_, ?_, ?_⟩, zf_trans (zf_set (.inl ⟨rfl, rfl, by omega⟩)) (zf_set (.inl ⟨rfl, rfl, by omega⟩))⟩
        · rw [pm_ne (by omega), pm_same]
          show nI k = zo s.2.2.1
          rw [hl]
          rfl
        · rw [pm_ne (by omega), pm_ne (by omega)]
          exact h12
        · rw [pm_same]; rfl
  · rw [if_neg (fun p => q ((eqb 40 (by omega)).mp p))]
    exact k45 (fun x => q x.1)
theorem cl_dparse_22 (hok : tp_ok T) (hac : ac + 1 ≤ dc) : ∀ (r a : List Nat) (M : zM) (s : yD), T = a ++ r → ct_x M ac T → dp_x M dc s → dp_i s → ∀ fuel, r.length < fuel → ∃ M', do_parse_22 d fuel dc (some (ac + 1)) (nI T.length) (nI a.length) M = some (zo (py_dr r a.length s).1, M') ∧ do_x M' dc (py_dr r a.length s).2 ∧ zf (dq_W dc) M M' := by
  have hlen := hok.1
  intro r
  induction r with
  | nil =>
    intro a M s e hT hx hi fuel hf
    have hla := congrArg List.length e
    rw [List.append_nil] at hla
    cases fuel with
    | zero => cases hf
    | succ fuel =>
      refine ⟨M, ?_, hx.1, zf_refl _ _⟩
      rw [do_parse_22, if_pos ((le_i2 (by omega) (by omega)).mpr (by omega)), hx.2.2.2, hx.2.1]
      unfold do_parse_100 do_parse_105 py_dr
      cases hw : s.2.2.2 with
      | true =>
        rw [if_neg (show ¬ zb true = 0 by decide), if_pos (.inl rfl), hla]
        rfl
      | false =>
        rw [if_pos (show zb false = 0 from rfl)]
        cases ho : s.2.1 with
        | none =>
          rw [if_pos (show zo none = -1 from rfl), if_neg (by simp)]
          rfl
        | some k =>
          have hk := hi.2.2.1 k ho
          have := hi.1.1
          rw [if_neg (show ¬ zo (some k) = -1 from pb_ne1 (by omega)), if_pos (.inr rfl), hla]
          rfl
  | cons c r ih =>
    intro a M s e hT hx hi fuel hf
    have hla := congrArg List.length e
    rw [List.length_append, List.length_cons] at hla
    cases fuel with
    | zero => cases hf
    | succ fuel =>
      have hel : (a ++ [c]).length = a.length + 1 := by simp
      have hc : T[a.length]? = some c := by rw [e]; simp
      have hcm : c ∈ T := by rw [e]; simp
      have hc256 := (hok.2 c hcm).2
      have hz : z_in (nI a.length) 400 := nI_in (by omega) (by omega)
      have e32 : (32 : Int32) = nI 32 := rfl
      have eqb : ∀ x, x < 256 → ((nI c = nI x) ↔ c = x) := fun x hx => nI_eq (by omega) (by omega)
      have e1 : nI a.length + 1 = nI (a.length + 1) := nI_add _ 1
      have next : ∀ M1 s1, zf (dq_W dc) M M1 → dp_x M1 dc s1 → dp_i s1 → ∃ M', do_parse_22 d fuel dc (some (ac + 1)) (nI T.length) (nI (a.length + 1)) M1 = some (zo (py_dr r (a.length + 1) s1).1, M') ∧ do_x M' dc (py_dr r (a.length + 1) s1).2 ∧ zf (dq_W dc) M M' := by
        intro M1 s1 f1 x1 i1
        have hT1 : ct_x M1 ac T := by
          refine ct_zh hT (zh_zf f1) ?_
          rintro j (⟨e, _⟩ | ⟨_, e, _⟩)
          · cases e
          · omega
        obtain ⟨M', q1, q2, q3⟩ := ih (a ++ [c]) M1 s1 (by rw [e]; simp) hT1 x1 i1 fuel (by rw [List.length_cons] at hf; omega)
        rw [hel] at q1 q2
        exact ⟨M', q1, q2, zf_trans f1 q3⟩
      rw [do_parse_22, if_neg (fun p => by have := (le_i2 (by omega) (by omega)).mp p; omega)]
      simp only [hT.1, if_pos hz, nI_clamp (show a.length < 2 ^ 31 by omega), hT.2.2 _ c hc, e32, do_parse_65, do_parse_69, do_parse_70, zlet, e1]
      rw [py_dr]
      by_cases q : c = 32
      · rw [if_pos ((eqb 32 (by omega)).mpr q), if_pos q, if_neg (show ¬ (1 : Int32) = 0 by decide)]
        exact next M s (zf_refl _ _) hx hi
      · rw [if_neg (fun p => q ((eqb 32 (by omega)).mp p)), if_neg q, hx.2.2.2]
        have fin : ∀ M1, zf (dq_W dc) M M1 → dp_x M1 dc ((py_dt s c).getD s) → ∃ M', (if zb (py_dt s c).isSome = 0 then (if (0 : Int32) = 0 then some (nI a.length, M1) else do_parse_22 d fuel dc (some (ac + 1)) (nI T.length) (nI (a.length + 1)) M1) else (if (1 : Int32) = 0 then some (nI a.length, M1) else do_parse_22 d fuel dc (some (ac + 1)) (nI T.length) (nI (a.length + 1)) M1)) = some (zo (match py_dt s c with
            | none => (some a.length, s.1)
            | some s' => py_dr r (a.length + 1) s').1, M') ∧ do_x M' dc (match py_dt s c with
            | none => (some a.length, s.1)
            | some s' => py_dr r (a.length + 1) s').2 ∧ zf (dq_W dc) M M' := by
          intro M1 f1 x1
          cases hdt : py_dt s c with
          | none =>
            rw [hdt] at x1
            rw [if_pos (show zb (none : Option yD).isSome = 0 from rfl), if_pos rfl]
            exact ⟨M1, rfl, x1.1, f1⟩
          | some s1 =>
            rw [hdt] at x1
            rw [if_neg (show ¬ zb (some s1).isSome = 0 by show ¬ zb true = 0; decide), if_neg (show ¬ (1 : Int32) = 0 by decide)]
            exact next M1 s1 f1 x1 (dt_i hi hdt)
        cases hw : s.2.2.2 with
        | true =>
          rw [if_neg (show ¬ zb true = 0 by decide)]
          obtain ⟨M1, a1, a2, a3⟩ := cl_takeThing (d := d) hx hi hw hc256
          rw [a1, Option.bind_some]
          exact fin M1 a3 a2
        | false =>
          rw [if_pos (show zb false = 0 from rfl)]
          obtain ⟨M1, a1, a2, a3⟩ := cl_takeSign (d := d) hx hi hw hc256
          rw [a1, Option.bind_some]
          exact fin M1 a3 a2
theorem cl_dparse (hok : tp_ok T) (hd : 1 ≤ d) (hac : ac + 1 ≤ dc) (hT : ct_x M ac T) (hl : do_l M dc) : ∃ M', do_parse d dc (some (ac + 1)) (nI T.length) M = some (zo (py_doc T).1, M') ∧ do_x M' dc (py_doc T).2 ∧ zf (dq_W dc) M M' := by
  obtain ⟨d, rfl⟩ : ∃ d', d = d' + 1 := ⟨d - 1, by omega⟩
  have hlen := hok.1
  have f : zf (dq_W dc) M (zm_setI (zm_setI (zm_setI (zm_setI M 1 dc 0 0) 1 dc 11 (-1)) 1 dc 12 (-1)) 1 dc 13 1) := zf_trans (zf_trans (zf_trans (zf_set (.inl ⟨rfl, rfl, by omega⟩)) (zf_set (.inl ⟨rfl, rfl, by omega⟩))) (zf_set (.inl ⟨rfl, rfl, by omega⟩))) (zf_set (.inl ⟨rfl, rfl, by omega⟩))
  have hT1 : ct_x (zm_setI (zm_setI (zm_setI (zm_setI M 1 dc 0 0) 1 dc 11 (-1)) 1 dc 12 (-1)) 1 dc 13 1) ac T := by
    refine ct_zh hT (zh_zf f) ?_
    rintro j (⟨e, _⟩ | ⟨_, e, _⟩)
    · cases e
    · omega
  obtain ⟨M', q1, q2, q3⟩ := cl_dparse_22 (d := d) hok hac T [] _ ([], none, none, true) rfl hT1 ⟨⟨dl_zf hl f, by rw [pm_ne (by omega), pm_ne (by omega), pm_ne (by omega), pm_same]; rfl, fun i x h => by cases h⟩, by rw [pm_ne (by omega), pm_ne (by omega), pm_same]; rfl, by rw [pm_ne (by omega), pm_same]; rfl, by rw [pm_same]; rfl⟩ dp_0 zLF (by rw [zLF]; omega)
  refine ⟨M', ?_, q2, zf_trans f q3⟩
  have eb : do_parse (d + 1) dc (some (ac + 1)) (nI T.length) M = do_parse_b d dc (some (ac + 1)) (nI T.length) M := rfl
  rw [eb]
  unfold do_parse_b
  simp only [zlet]
  exact q1
end
