/-! THE CLASS: a walk's state as one number, and back -/
/-- the time that matters -/
def py_tm (P : yP) (s : yS) (x : Option Nat) : Nat := match x with
  | none => 0
  | some c => if py_to P c = none then min (s.2.1 c) (py_few P c) else s.2.1 c
/-- a walk with times cut to those that matter -/
def py_cut (P : yP) (s : yS) : yS := (s.1, fun c => py_tm P s (some c), s.2.2)
def py_cod1 (P : yP) (s : yS) (o : Nat) : Int32 := (nI (o + 1) ||| (nI (py_tm P s (py_ct P o false)) <<< (nI 5 &&& 31))) ||| (nI (py_tm P s (py_ct P o true)) <<< (nI 9 &&& 31))
def py_cod2 (s : yS) (v : Int32) : List Nat → Int32
  | [] => v
  | a :: l => py_cod2 s (v ||| (s.2.2 a <<< (nI (13 + 4 * a) &&& 31))) l
def py_cod (P : yP) (s : yS) : Int32 := match s.1 with
  | none => 0
  | some o => py_cod2 s (py_cod1 P s o) (List.range' 0 (py_na P))
section
variable {M M' : zM} {pa : Nat → Nat} {P : yP} {d wk Q B : Nat} {s : yS}
theorem small_bt {n : Nat} (hn : n < 16) {i : Nat} (h4 : 4 ≤ i) (hi : i < 32) : zbt (nI n) i = false := by
  have key : ∀ (n : Fin 16) (i : Fin 32), 4 ≤ i.val → zbt (nI n.val) i.val = false := by decide +kernel
  exact key ⟨n, hn⟩ ⟨i, hi⟩ h4
theorem small5_bt {n : Nat} (hn : n < 32) {i : Nat} (h4 : 5 ≤ i) (hi : i < 32) : zbt (nI n) i = false := by
  have key : ∀ (n : Fin 32) (i : Fin 32), 5 ≤ i.val → zbt (nI n.val) i.val = false := by decide +kernel
  exact key ⟨n, hn⟩ ⟨i, hi⟩ h4
theorem bt_15 {i : Nat} (hi : i < 32) : zbt 15 i = decide (i < 4) := by
  have key : ∀ i : Fin 32, zbt 15 i.val = decide (i.val < 4) := by decide +kernel
  exact key ⟨i, hi⟩
theorem bt_31 {i : Nat} (hi : i < 32) : zbt 31 i = decide (i < 5) := by
  have key : ∀ i : Fin 32, zbt 31 i.val = decide (i.val < 5) := by decide +kernel
  exact key ⟨i, hi⟩
theorem cod2_bt : ∀ (m a : Nat) (v : Int32), a + m ≤ 4 → (∀ b i, b < a + m → 4 ≤ i → i < 32 → zbt (s.2.2 b) i = false) → ∀ i, i < 32 → zbt (py_cod2 s v (List.range' a m)) i = (zbt v i || (decide (13 + 4 * a ≤ i ∧ i < 13 + 4 * (a + m)) && zbt (s.2.2 ((i - 13) / 4)) ((i - 13) % 4))) := by
  intro m
  induction m with
  | zero =>
    intro a v _ _ i hi
    have : decide (13 + 4 * a ≤ i ∧ i < 13 + 4 * (a + 0)) = false := by
      rw [decide_eq_false_iff_not]
      omega
    rw [this]
    simp [py_cod2]
  | succ m ih =>
    intro a v ham hb i hi
    rw [List.range'_succ]
    unfold py_cod2
    rw [ih (a + 1) _ (by omega) (fun b i h1 => hb b i (by omega)) i hi, zy_or, zy_shl _ (by omega) hi]
    by_cases q1 : 13 + 4 * a ≤ i
    · by_cases q2 : i < 13 + 4 * (a + 1)
      · have e1 : (i - 13) / 4 = a := by omega
        have e2 : i - (13 + 4 * a) = (i - 13) % 4 := by omega
        have d1 : decide (13 + 4 * (a + 1) ≤ i ∧ i < 13 + 4 * (a + 1 + m)) = false := by
          rw [decide_eq_false_iff_not]; omega
        have d2 : decide (13 + 4 * a ≤ i ∧ i < 13 + 4 * (a + (m + 1))) = true := by
          rw [decide_eq_true_eq]; omega
        rw [d1, d2, e1, e2]
        simp [q1]
      · have e0 : zbt (s.2.2 a) (i - (13 + 4 * a)) = false := hb a _ (by omega) (by omega) (by omega)
        have d1 : decide (13 + 4 * (a + 1) ≤ i ∧ i < 13 + 4 * (a + 1 + m)) = decide (13 + 4 * a ≤ i ∧ i < 13 + 4 * (a + (m + 1))) := by
          congr 1
          apply propext
          constructor <;> intro _ <;> omega
        rw [e0, d1]
        simp
    · have d1 : decide (13 + 4 * (a + 1) ≤ i ∧ i < 13 + 4 * (a + 1 + m)) = false := by
        rw [decide_eq_false_iff_not]; omega
      have d2 : decide (13 + 4 * a ≤ i ∧ i < 13 + 4 * (a + (m + 1))) = false := by
        rw [decide_eq_false_iff_not]; omega
      rw [d1, d2]
      simp [q1]
theorem tm_lt (hP : py_ok P) (h4 : wk_4 P s) {o : Nat} (ho : o < py_nl P) (b : Bool) : py_tm P s (py_ct P o b) < 16 := by
  cases hc : py_ct P o b with
  | none => show 0 < 16; omega
  | some c =>
    have hcn := ct_lt hP ho hc
    have hk := few_i hP (ok_cn hP hcn) (ok_cnk hP hcn)
    rw [ok_cnn hP hcn] at hk
    show (if py_to P c = none then min (s.2.1 c) (py_few P c) else s.2.1 c) < 16
    cases ht : py_to P c with
    | none =>
      rw [if_pos rfl]
      have := Nat.min_le_right (s.2.1 c) (py_few P c)
      omega
    | some t =>
      rw [if_neg (by simp)]
      have := h4.1 c t hcn ht
      have := ok_to hP hcn ht
      omega
/-- all bits of the number -/
theorem cod_bt (hP : py_ok P) (h4 : wk_4 P s) {o : Nat} (hs : s.1 = some o) (ho : o < py_nl P) {i : Nat} (hi : i < 32) : zbt (py_cod P s) i = (((zbt (nI (o + 1)) i || (decide (5 ≤ i) && zbt (nI (py_tm P s (py_ct P o false))) (i - 5))) || (decide (9 ≤ i) && zbt (nI (py_tm P s (py_ct P o true))) (i - 9))) || (decide (13 ≤ i ∧ i < 13 + 4 * py_na P) && zbt (s.2.2 ((i - 13) / 4)) ((i - 13) % 4))) := by
  have hna := ok_na hP
  unfold py_cod
  rw [hs]
  simp only
  rw [cod2_bt (py_na P) 0 _ (by omega) (fun b i hb => h4.2 b i (by omega)) i hi]
  unfold py_cod1
  rw [zy_or, zy_or, zy_shl _ (by omega) hi, zy_shl _ (by omega) hi]
  simp
theorem cod_last (hP : py_ok P) (h4 : wk_4 P s) {o : Nat} (hs : s.1 = some o) (ho : o < py_nl P) : (py_cod P s &&& 31) - 1 = nI o := by
  have hnl := ok_nl hP
  have e : py_cod P s &&& 31 = nI (o + 1) := by
    refine zy_ext ?_
    intro i hi
    rw [zy_and, cod_bt hP h4 hs ho hi, bt_31 hi]
    by_cases q : i < 5
    · have a1 : decide (5 ≤ i) = false := by rw [decide_eq_false_iff_not]; omega
      have a2 : decide (9 ≤ i) = false := by rw [decide_eq_false_iff_not]; omega
      have a3 : decide (13 ≤ i ∧ i < 13 + 4 * py_na P) = false := by rw [decide_eq_false_iff_not]; omega
      rw [a1, a2, a3]
      simp [q]
    · rw [small5_bt (n := o + 1) (by omega) (by omega) hi]
      simp [q]
  rw [e]
  have key : ∀ o : Fin 16, nI (o.val + 1) - 1 = nI o.val := by decide +kernel
  exact key ⟨o, by omega⟩
theorem cod_t1 (hP : py_ok P) (h4 : wk_4 P s) {o : Nat} (hs : s.1 = some o) (ho : o < py_nl P) : (py_cod P s >>> (5 &&& 31)) &&& 15 = nI (py_tm P s (py_ct P o false)) := by
  have hnl := ok_nl hP
  have ht := tm_lt hP h4 ho false
  refine zy_ext ?_
  intro i hi
  show zbt ((py_cod P s >>> (nI 5 &&& 31)) &&& 15) i = _
  rw [zy_and, zy_shr _ (by omega) hi, bt_15 hi]
  by_cases q : i < 4
  · rw [if_pos (by omega), cod_bt hP h4 hs ho (by omega), small5_bt (n := o + 1) (by omega) (by omega) (by omega)]
    have a1 : decide (5 ≤ 5 + i) = true := by rw [decide_eq_true_eq]; omega
    have a2 : decide (9 ≤ 5 + i) = false := by rw [decide_eq_false_iff_not]; omega
    have a3 : decide (13 ≤ 5 + i ∧ 5 + i < 13 + 4 * py_na P) = false := by rw [decide_eq_false_iff_not]; omega
    rw [a1, a2, a3, show 5 + i - 5 = i by omega]
    simp [q]
  · rw [small_bt ht (by omega) hi]
    simp [q]
theorem cod_t2 (hP : py_ok P) (h4 : wk_4 P s) {o : Nat} (hs : s.1 = some o) (ho : o < py_nl P) : (py_cod P s >>> (9 &&& 31)) &&& 15 = nI (py_tm P s (py_ct P o true)) := by
  have hnl := ok_nl hP
  have ht := tm_lt hP h4 ho true
  have ht' := tm_lt hP h4 ho false
  refine zy_ext ?_
  intro i hi
  show zbt ((py_cod P s >>> (nI 9 &&& 31)) &&& 15) i = _
  rw [zy_and, zy_shr _ (by omega) hi, bt_15 hi]
  by_cases q : i < 4
  · rw [if_pos (by omega), cod_bt hP h4 hs ho (by omega), small5_bt (n := o + 1) (by omega) (by omega) (by omega), small_bt ht' (by omega) (show 9 + i - 5 < 32 by omega)]
    have a2 : decide (9 ≤ 9 + i) = true := by rw [decide_eq_true_eq]; omega
    have a3 : decide (13 ≤ 9 + i ∧ 9 + i < 13 + 4 * py_na P) = false := by rw [decide_eq_false_iff_not]; omega
    rw [a2, a3, show 9 + i - 9 = i by omega]
    simp [q]
  · rw [small_bt ht (by omega) hi]
    simp [q]
theorem cod_b (hP : py_ok P) (h4 : wk_4 P s) {o a : Nat} (hs : s.1 = some o) (ho : o < py_nl P) (ha : a < py_na P) : (py_cod P s >>> (nI (13 + 4 * a) &&& 31)) &&& 15 = s.2.2 a := by
  have hnl := ok_nl hP
  have hna := ok_na hP
  have ht := tm_lt hP h4 ho true
  have ht' := tm_lt hP h4 ho false
  refine zy_ext ?_
  intro i hi
  rw [zy_and, zy_shr _ (by omega) hi, bt_15 hi]
  by_cases q : i < 4
  · rw [if_pos (by omega), cod_bt hP h4 hs ho (by omega), small5_bt (n := o + 1) (by omega) (by omega) (by omega), small_bt ht' (by omega) (show 13 + 4 * a + i - 5 < 32 by omega), small_bt ht (by omega) (show 13 + 4 * a + i - 9 < 32 by omega)]
    have a3 : decide (13 ≤ 13 + 4 * a + i ∧ 13 + 4 * a + i < 13 + 4 * py_na P) = true := by rw [decide_eq_true_eq]; omega
    have e1 : (13 + 4 * a + i - 13) / 4 = a := by omega
    have e2 : (13 + 4 * a + i - 13) % 4 = i := by omega
    rw [a3, e1, e2]
    simp [q]
  · rw [h4.2 a i ha (by omega) hi]
    simp [q]
end
