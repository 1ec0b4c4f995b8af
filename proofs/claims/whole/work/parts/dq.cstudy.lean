/-! THE CLASS: clash, study -/
def st_W (wy Q t k j : Nat) : Prop := wy_W wy t k j ∨ (t = 5 ∧ k = Q ∧ 14 ≤ j ∧ j ≤ 16)
section
variable {M M' : zM} {pa : Nat → Nat} {P : yP} {d wy Q : Nat}
theorem cw_kok (hP : py_ok P) {b : Option Nat} (hb : ∀ o, b = some o → o < py_nl P) {V : yK} (hV : V ∈ py_cw P b) : py_kok P V := by
  cases b with
  | none =>
    have hV : V ∈ (py_ways P none).map (fun W => (W, (0 : Int32), (0 : Int32), (0 : Int32))) := hV
    obtain ⟨W, hW, rfl⟩ := List.mem_map.mp hV
    obtain ⟨q, h1, rfl, _⟩ := il_mem (P := P) hW
    exact ⟨h1, fun y hy => by cases hy⟩
  | some o =>
    have hx := ok_lf hP (hb o rfl)
    obtain ⟨⟨k, a, h1, h2, h3, h4⟩, _⟩ := cwf_mem hP _ hx 40 0 0 V hV
    obtain ⟨_, g2, g3, _⟩ := lv_what hP h1 h2 h4
    refine ⟨g2, ?_⟩
    intro y hy
    rw [g3] at hy
    split at hy
    · rename_i k5
      injection hy with hy
      rw [← hy]
      exact (ok_k5 hP (ok_pdm hP h1 h2) k5).2.1
    · cases hy
theorem cl_nextBehind (hP : py_ok P) (hd : 4 ≤ d) {b : Option Nat} (hb : ∀ o, b = some o → o < py_nl P) (h : wS M pa Q P wy) : ∃ M', wy_nextBehind d wy (some Q) (zo b) M = some (zor ((py_ways P b).map (fun W => W.1)), M') ∧ zf (wy_W wy) M M' := by
  obtain ⟨d, rfl⟩ : ∃ d', d = d' + 1 := ⟨d - 1, by omega⟩
  obtain ⟨M1, g1, g2, g3⟩ := cl_wlist (d := d) hP (by omega) hb h
  have h48 := cw_len hP hb
  have hLF := zLF_100
  have := cl_next_11 (d := d) (M := M1) hP (l := py_cw P b) (fun x hx => cw_kok hP hb hx) (wl_zf h.2.1 g3) g2 (py_cw P b) [] rfl zLF (by omega)
  refine ⟨M1, ?_, g3⟩
  show (wy_list d wy (some Q) (zo b) M).bind _ = _
  rw [g1, Option.bind_some]
  have e : (py_cw P b).map (fun x => x.1.1) = (py_ways P b).map (fun W => W.1) := by
    rw [← cw_fst hP hb, List.map_map]
    rfl
  rw [e] at this
  exact this
theorem cl_htl (hP : py_ok P) (h : cX M pa Q P) {b : Option Nat} {en : Int32} (hb : ∀ y, b = some y → y < py_nc P) : wy_hasTimeLeft d (some Q) (zo b) en M = some (zb (py_htl P b en), M) := by
  have ru := cR_ru h.2.2.1
  have hnc := ok_nc hP
  unfold wy_hasTimeLeft
  cases b with
  | none => rfl
  | some c =>
    have hc := hb c rfl
    have hz : z_in (nI c) 8 := nI_in (by omega) (by omega)
    have hne : ¬ nI c = -1 := pb_ne1 (by omega)
    have hh : py_htl P (some c) en = (!zbt en c || (match py_to P c with
      | none => true
      | some t => decide (py_fr P c < t))) := rfl
    rw [hh]
    show (if nI c = -1 then _ else _) = _
    rw [if_neg hne]
    obtain ⟨f1, f2⟩ := h.2.2.1.1.2 c hc
    simp only [pb_zos, zy_has en (show c < 32 by omega), ru.2.2.2.2.2.1.1, ru.2.2.2.2.2.1.2, ru.2.2.2.2.1.1, ru.2.2.2.2.1.2, if_pos hz, nI_clamp (show c < 2 ^ 31 by omega), f1, f2]
    cases hz : zbt en c
    · rw [if_pos (by simp)]
      rfl
    · rw [if_neg (by simp)]
      cases ht : py_to P c with
      | none => rfl
      | some t =>
        have htt := ok_to hP hc ht
        have h1 : ¬ zo (some t) = -1 := pb_ne1 (by omega)
        rw [if_neg h1]
        have h2 : (zo (some t) ≤ nI (py_fr P c)) ↔ t ≤ py_fr P c := le_i2 (m := t) (by omega) (by omega)
        by_cases g : py_fr P c < t
        · rw [if_neg (fun y => by have := h2.mp y; omega)]
          simp [g, wy_hasTimeLeft_38, wy_hasTimeLeft_43, zb]
        · rw [if_pos (h2.mpr (by omega))]
          simp [g, wy_hasTimeLeft_43, zb]
theorem cl_clash (hP : py_ok P) (hd : 1 ≤ d) {l : List yK} {i j : Nat} {V W : yK} (h : wS M pa Q P wy) (hl : wk_h M wy l) (hV : l[i]? = some V) (hW : l[j]? = some W) (kV : py_kok P V) (kW : py_kok P W) : wy_clash d wy (some Q) (nI i) (nI j) M = some (zb (py_clk P V W), M) := by
  obtain ⟨d, rfl⟩ : ∃ d', d = d' + 1 := ⟨d - 1, by omega⟩
  have eb : wy_clash (d + 1) wy (some Q) (nI i) (nI j) M = wy_clash_b d wy (some Q) (nI i) (nI j) M := rfl
  rw [eb]
  have hw := h.2.1
  have ru := cR_ru h.1.2.2.1
  have h48 := hl.2.1
  have hnl := ok_nl hP
  have hnc := ok_nc hP
  have hi := (List.getElem?_eq_some_iff.mp hV).1
  have hj := (List.getElem?_eq_some_iff.mp hW).1
  have zi : z_in (nI i) 48 := nI_in (by omega) (by omega)
  have zj : z_in (nI j) 48 := nI_in (by omega) (by omega)
  have ci := nI_clamp (show i < 2 ^ 31 by omega)
  have cj := nI_clamp (show j < 2 ^ 31 by omega)
  obtain ⟨v1, v2, v3, v4⟩ := hl.2.2 i V hV
  obtain ⟨w1, w2, w3, w4⟩ := hl.2.2 j W hW
  have k1 := kV.1
  have k2 := kW.1
  obtain ⟨c1, c2⟩ := cd_v (W := V.1) (by omega) (fun y hy => by have := kV.2 y hy; omega)
  obtain ⟨c3, c4⟩ := cd_v (W := W.1) (by omega) (fun y hy => by have := kW.2 y hy; omega)
  have zo1 : z_in (nI V.1.1) 16 := nI_in (by omega) (by omega)
  have zo2 : z_in (nI W.1.1) 16 := nI_in (by omega) (by omega)
  have o1 := nI_clamp (show V.1.1 < 2 ^ 31 by omega)
  have o2 := nI_clamp (show W.1.1 < 2 ^ 31 by omega)
  have l1 := (h.1.2.2.1.2.2.2.2.1 V.1.1 k1).1
  have l2 := (h.1.2.2.1.2.2.2.2.1 W.1.1 k2).1
  have t1 := ok_lt hP k1
  have t2 := ok_lt hP k2
  have el : (nI (py_lt P V.1.1) = nI (py_lt P W.1.1)) ↔ py_lt P V.1.1 = py_lt P W.1.1 := nI_eq (by omega) (by omega)
  have h1 := cl_htl (d := d) hP h.1 (b := V.1.2.1) (en := W.2.1) kV.2
  have h2 := cl_htl (d := d) hP h.1 (b := W.1.2.1) (en := V.2.1) kW.2
  unfold wy_clash_b
  simp only [hw.1.1, hw.1.2, if_pos zi, if_pos zj, ci, cj, v1, w1, wy_occurrenceIn, Option.bind_some, c1, c3, ru.1.1, ru.1.2, if_pos zo1, if_pos zo2, o1, o2, l1, l2, el]
  unfold py_clk
  by_cases q : py_lt P V.1.1 = py_lt P W.1.1
  · rw [if_pos q]
    unfold wy_clash_31
    simp only [hw.2.2.1.1, hw.2.2.1.2, hw.2.2.2.1, hw.2.2.2.2, if_pos zi, if_pos zj, ci, cj, v3, v4, w3, w4]
    by_cases q2 : (V.2.2.1 ||| W.2.2.1) &&& (V.2.2.2 ||| W.2.2.2) = 0
    · rw [if_pos q2]
      unfold wy_clash_61
      simp only [hw.1.1, hw.1.2, if_pos zi, ci, v1, wy_countIn, Option.bind_some, c2, hw.2.1.1, hw.2.1.2, if_pos zj, cj, w2, h1]
      cases b1 : py_htl P V.1.2.1 W.2.1
      · rw [if_pos (show zb false = 0 from rfl)]
        simp [wy_clash_109, wy_clash_110, zb]
      · rw [if_neg (show ¬ zb true = 0 by decide)]
        unfold wy_clash_83
        simp only [hw.1.1, hw.1.2, if_pos zj, cj, w1, wy_countIn, Option.bind_some, c4, hw.2.1.1, hw.2.1.2, if_pos zi, ci, v2, h2]
        cases b2 : py_htl P W.1.2.1 V.2.1
        · rw [if_pos (show zb false = 0 from rfl)]
          simp [wy_clash_109, wy_clash_110, zb]
        · rw [if_neg (show ¬ zb true = 0 by decide)]
          simp [wy_clash_110, zb, q, q2]
    · rw [if_neg q2]
      simp [wy_clash_109, wy_clash_110, zb, q2]
  · rw [if_neg q]
    simp [wy_clash_109, wy_clash_110, zb, q]
theorem cl_isUnlike (hP : py_ok P) (hd : 1 ≤ d) {l : List yK} {i j : Nat} {V W : yK} (h : wS M pa Q P wy) (hl : wk_h M wy l) (hV : l[i]? = some V) (hW : l[j]? = some W) (kV : py_kok P V) (kW : py_kok P W) : wy_isUnlike d wy (nI i) (nI j) M = some (zb (V.1.1 != W.1.1), M) := by
  obtain ⟨d, rfl⟩ : ∃ d', d = d' + 1 := ⟨d - 1, by omega⟩
  have eb : wy_isUnlike (d + 1) wy (nI i) (nI j) M = wy_isUnlike_b d wy (nI i) (nI j) M := rfl
  rw [eb]
  have hw := h.2.1
  have h48 := hl.2.1
  have hnl := ok_nl hP
  have hnc := ok_nc hP
  have hi := (List.getElem?_eq_some_iff.mp hV).1
  have hj := (List.getElem?_eq_some_iff.mp hW).1
  have zi : z_in (nI i) 48 := nI_in (by omega) (by omega)
  have zj : z_in (nI j) 48 := nI_in (by omega) (by omega)
  have ci := nI_clamp (show i < 2 ^ 31 by omega)
  have cj := nI_clamp (show j < 2 ^ 31 by omega)
  have v1 := (hl.2.2 i V hV).1
  have w1 := (hl.2.2 j W hW).1
  have k1 := kV.1
  have k2 := kW.1
  obtain ⟨c1, c2⟩ := cd_v (W := V.1) (by omega) (fun y hy => by have := kV.2 y hy; omega)
  obtain ⟨c3, c4⟩ := cd_v (W := W.1) (by omega) (fun y hy => by have := kW.2 y hy; omega)
  have el : (nI V.1.1 = nI W.1.1) ↔ V.1.1 = W.1.1 := nI_eq (by omega) (by omega)
  unfold wy_isUnlike_b
  simp only [hw.1.1, hw.1.2, if_pos zi, if_pos zj, ci, cj, v1, w1, wy_occurrenceIn, Option.bind_some, c1, c3, el]
  by_cases q : V.1.1 = W.1.1
  · rw [if_pos q]
    simp [wy_isUnlike_26, q, zb]
  · rw [if_neg q]
    simp [wy_isUnlike_26, q, zb]
theorem clk_sy (V W : yK) : py_clk P V W = py_clk P W V := by
  unfold py_clk
  have e1 : (py_lt P V.1.1 == py_lt P W.1.1) = (py_lt P W.1.1 == py_lt P V.1.1) := by
    rw [Bool.eq_iff_iff, beq_iff_eq, beq_iff_eq]
    exact eq_comm
  have oc : ∀ a b : Int32, a ||| b = b ||| a := fun a b => zy_ext (fun i _ => by rw [zy_or, zy_or, Bool.or_comm])
  rw [e1, oc V.2.2.1 W.2.2.1, oc V.2.2.2 W.2.2.2, Bool.and_comm (py_htl P V.1.2.1 W.2.1)]
end
