/-! THE MODEL: the first edit that is a word -/
/-- a kind, a place, a letter -/
abbrev yE : Type := Nat × Nat × Nat
def py_ts (P : yP) (ls : List Nat) (c : yE) : Bool := py_wrd P (py_es c.1 c.2.1 c.2.2 0 ls)
def py_e1 (ls : List Nat) : List yE := (List.range' 0 ls.length).map (fun k => (1, k, 0))
def py_el (P : yP) (ls : List Nat) (kind k : Nat) (r : List Nat) : List yE := (r.filter (fun l => zbt (zor (py_ll P)) l && (decide (kind = 2) || ls[k]? != some l))).map (fun l => (kind, k, l))
def py_e2 (P : yP) (ls : List Nat) (kind : Nat) (r : List Nat) : List yE := r.flatMap (fun k => py_el P ls kind k (List.range' 0 26))
def py_ea (P : yP) (ls : List Nat) : List yE := py_e1 ls ++ (py_e2 P ls 2 (List.range' 0 (ls.length + 1)) ++ py_e2 P ls 3 (List.range' 0 ls.length))
/-- MENDED: nothing needed, an edit, or none -/
def py_md (P : yP) (ls : List Nat) : Option (Option yE) := if py_wrd P ls then some none else match (py_ea P ls).find? (py_ts P ls) with
  | none => none
  | some c => some (some c)
def fe_f (am : Nat) (M : zM) (c : yE) : Prop := zm_I M 12 am 53 = nI c.1 ∧ zm_I M 12 am 54 = nI c.2.1 ∧ zm_I M 12 am 55 = if c.1 = 1 then -1 else nI c.2.2
def fe_r (am : Nat) (M : zM) (loop : Option (Int32 × zM)) (cont : zM → Option (Int32 × zM)) (c : Option yE) : Prop := ∃ M', zf (me_W am) M M' ∧ (c = none → loop = cont M') ∧ (∀ e, c = some e → loop = some (1, M') ∧ fe_f am M' e)
section
variable {am r d : Nat} {P : yP} {ls : List Nat}
theorem mr_findsEdit_104 (hd : 39 ≤ d) (kl75 : Nat → Int32 → Int32 → zM → Option (Int32 × zM)) (kl82 : Nat → Int32 → Int32 → Int32 → zM → Option (Int32 × zM)) {kind k : Nat} (hk : kind = 2 ∨ kind = 3) (hkl : k ≤ ls.length) (hk3 : kind = 3 → k < ls.length) : ∀ (m l : Nat) (M : zM), l + m = 26 → mx_in am M r P ls → ∀ fuel, m < fuel → fe_r am M (mo_findsEdit_104 kl75 kl82 d fuel am (zor (py_ll P)) (nI kind) (nI k) (nI l) M) (fun M' => kl82 am (zor (py_ll P)) (nI kind) (nI (k + 1)) M') ((py_el P ls kind k (List.range' l m)).find? (py_ts P ls)) := by
  have hke : (nI kind = 2) ↔ kind = 2 := nI_eq (b := 2) (by omega) (by omega)
  intro m
  induction m with
  | zero =>
    intro l M hl hin fuel hf
    cases fuel with
    | zero => cases hf
    | succ fuel =>
      have : l = 26 := by omega
      subst this
      have hle : (26 : Int32) ≤ nI 26 := by decide
      refine ⟨M, zf_refl _ _, fun _ => ?_, fun e he => (by simp [py_el] at he)⟩
      simp only [mo_findsEdit_104, if_pos hle, zlet, nI_1]
  | succ m ih =>
    intro l M hl hin fuel hf
    have h24 := hin.2.2.2.2
    cases fuel with
    | zero => cases hf
    | succ fuel =>
      have hge : ¬ (26 : Int32) ≤ nI l := nI_ge (b := 26) (by omega) (by omega)
      /- on with the next letter -/
      have hnext : ∀ (M1 : zM), mx_in am M1 r P ls → fe_r am M1 (mo_findsEdit_149 kl75 kl82 (fun p0 p1 p2 p3 p4 m => mo_findsEdit_104 kl75 kl82 d fuel p0 p1 p2 p3 p4 m) d am (zor (py_ll P)) (nI kind) (nI k) (nI l) M1) (fun M' => kl82 am (zor (py_ll P)) (nI kind) (nI (k + 1)) M') ((py_el P ls kind k (List.range' (l + 1) m)).find? (py_ts P ls)) := by
        intro M1 h1
        have := ih (l + 1) M1 (by omega) h1 fuel (by omega)
        have e0 : mo_findsEdit_149 kl75 kl82 (fun p0 p1 p2 p3 p4 m => mo_findsEdit_104 kl75 kl82 d fuel p0 p1 p2 p3 p4 m) d am (zor (py_ll P)) (nI kind) (nI k) (nI l) M1 = mo_findsEdit_104 kl75 kl82 d fuel am (zor (py_ll P)) (nI kind) (nI k) (nI (l + 1)) M1 := by
          simp only [mo_findsEdit_149, zlet, nI_1]
        rw [e0]
        exact this
      /- a letter that is tried -/
      have h136 : fe_r am M (mo_findsEdit_136 kl75 kl82 (fun p0 p1 p2 p3 p4 m => mo_findsEdit_104 kl75 kl82 d fuel p0 p1 p2 p3 p4 m) d am (zor (py_ll P)) (nI kind) (nI k) (nI l) M) (fun M' => kl82 am (zor (py_ll P)) (nI kind) (nI (k + 1)) M') (((kind, k, l) :: py_el P ls kind k (List.range' (l + 1) m)).find? (py_ts P ls)) := by
        obtain ⟨M1, e1, e2, e3⟩ := mr_edits (d := d) (l := l) hin (kind := kind) (place := k) (by omega) hkl hd (fun _ => by omega) (nI l) (fun _ => rfl)
        have h1 := mx_zf hin e3
        have e0 : mo_findsEdit_136 kl75 kl82 (fun p0 p1 p2 p3 p4 m => mo_findsEdit_104 kl75 kl82 d fuel p0 p1 p2 p3 p4 m) d am (zor (py_ll P)) (nI kind) (nI k) (nI l) M = if zb (py_wrd P (py_es kind k l 0 ls)) = 0 then mo_findsEdit_149 kl75 kl82 (fun p0 p1 p2 p3 p4 m => mo_findsEdit_104 kl75 kl82 d fuel p0 p1 p2 p3 p4 m) d am (zor (py_ll P)) (nI kind) (nI k) (nI l) M1 else some (1, M1) := by
          simp only [mo_findsEdit_136, e1, Option.bind_some]
        rw [e0]
        have hts : py_ts P ls (kind, k, l) = py_wrd P (py_es kind k l 0 ls) := rfl
        cases hw : py_wrd P (py_es kind k l 0 ls)
        · rw [List.find?_cons, hts, hw]
          simp only [pb_zbf, if_true]
          obtain ⟨M2, g1, g2, g3⟩ := hnext M1 h1
          exact ⟨M2, zf_trans e3 g1, g2, g3⟩
        · rw [List.find?_cons, hts, hw]
          simp only [pb_zbt]
          rw [if_neg (by decide)]
          refine ⟨M1, e3, fun x => (by cases x), ?_⟩
          intro e he
          injection he with he
          subst he
          exact ⟨rfl, e2 hw⟩
      rw [List.range'_succ]
      have ecand : py_el P ls kind k (l :: List.range' (l + 1) m) = (if zbt (zor (py_ll P)) l && (decide (kind = 2) || ls[k]? != some l) then [(kind, k, l)] else []) ++ py_el P ls kind k (List.range' (l + 1) m) := by
        unfold py_el
        rw [List.filter_cons]
        cases (zbt (zor (py_ll P)) l && (decide (kind = 2) || ls[k]? != some l)) <;> simp
      rw [ecand]
      simp only [mo_findsEdit_104, if_neg hge, mr_has (show l < 32 by omega), Option.bind_some]
      cases hb : zbt (zor (py_ll P)) l
      · simp only [pb_zbf, if_true, Bool.false_and, Bool.false_eq_true, if_false, List.nil_append]
        exact hnext M hin
      · rw [pb_zbt, if_neg (by decide)]
        simp only [Bool.true_and, hke]
        rcases hk with q | q
        · rw [if_pos q]
          have : (decide (kind = 2) || ls[k]? != some l) = true := by simp [q]
          rw [this, if_pos rfl]
          exact h136
        · have hkl3 := hk3 q
          have q2 : ¬ kind = 2 := by omega
          rw [if_neg q2]
          have hz : z_in (nI k) 24 := nI_in (by omega) (by omega)
          have hg : ls[k]? = some ls[k] := by simp
          have hv := hin.2.2.2.1.1 _ _ hg
          have h26 := hin.2.2.2.1.2 ls[k] (by simp)
          have ev : (nI l = nI ls[k]) ↔ l = ls[k] := nI_eq (by omega) (by omega)
          simp only [ml_R48 hin.1.2.1, ml_L48 hin.1.2.1, if_pos hz, nI_clamp (show k < 2 ^ 31 by omega), hv, ev]
          by_cases q3 : l = ls[k]
          · rw [if_pos q3]
            have : (decide (kind = 2) || ls[k]? != some l) = false := by
              rw [hg, ← q3]
              simp [q2]
            rw [this]
            simp only [Bool.false_eq_true, if_false, List.nil_append]
            exact hnext M hin
          · rw [if_neg q3]
            have : (decide (kind = 2) || ls[k]? != some l) = true := by
              rw [hg]
              have : ¬ ls[k] = l := fun x => q3 x.symm
              simp [this]
            rw [this, if_pos rfl]
            exact h136
theorem mr_findsEdit_82 (hd : 39 ≤ d) (kl75 : Nat → Int32 → Int32 → zM → Option (Int32 × zM)) {kind : Nat} (hk : kind = 2 ∨ kind = 3) : ∀ (m k : Nat) (M : zM), k + m = ls.length + (if kind = 2 then 1 else 0) → mx_in am M r P ls → ∀ fuel, m < fuel → fe_r am M (mo_findsEdit_82 kl75 d fuel am (zor (py_ll P)) (nI kind) (nI k) M) (fun M' => kl75 am (zor (py_ll P)) (nI (kind + 1)) M') ((py_e2 P ls kind (List.range' k m)).find? (py_ts P ls)) := by
  have hke : (nI kind = 2) ↔ kind = 2 := nI_eq (b := 2) (by omega) (by omega)
  have hLF := pb_LF
  intro m
  induction m with
  | zero =>
    intro k M hkm hin fuel hf
    have h24 := hin.2.2.2.2
    cases fuel with
    | zero => cases hf
    | succ fuel =>
      refine ⟨M, zf_refl _ _, fun _ => ?_, fun e he => (by simp [py_e2] at he)⟩
      simp only [mo_findsEdit_82, hke, hin.2.2.1, mo_findsEdit_97]
      rcases hk with q | q
      · rw [if_pos q]
        rw [if_pos q] at hkm
        have : nI ls.length + 1 ≤ nI k := by rw [nI_1]; exact nI_le (by omega) (by omega)
        rw [if_pos this]
        simp only [zlet, nI_1]
      · have q2 : ¬ kind = 2 := by omega
        rw [if_neg q2]
        rw [if_neg q2] at hkm
        have : nI ls.length + 0 ≤ nI k := by rw [Int32.add_zero]; exact nI_le (by omega) (by omega)
        rw [if_pos this]
        simp only [zlet, nI_1]
  | succ m ih =>
    intro k M hkm hin fuel hf
    have h24 := hin.2.2.2.2
    cases fuel with
    | zero => cases hf
    | succ fuel =>
      have h104 := mr_findsEdit_104 (am := am) (r := r) (d := d) (P := P) (ls := ls) hd kl75 (fun p0 p1 p2 p3 m => mo_findsEdit_82 kl75 d fuel p0 p1 p2 p3 m) hk (k := k) (by
        by_cases q : kind = 2
        · rw [if_pos q] at hkm; omega
        · rw [if_neg q] at hkm; omega) (by
        intro q
        rw [if_neg (by omega)] at hkm
        omega) 26 0 M (by omega) hin zLF (by omega)
      obtain ⟨M1, g1, g2, g3⟩ := h104
      have e0 : mo_findsEdit_82 kl75 d (fuel + 1) am (zor (py_ll P)) (nI kind) (nI k) M = mo_findsEdit_104 kl75 (fun p0 p1 p2 p3 m => mo_findsEdit_82 kl75 d fuel p0 p1 p2 p3 m) d zLF am (zor (py_ll P)) (nI kind) (nI k) (nI 0) M := by
        simp only [mo_findsEdit_82, hke, hin.2.2.1, mo_findsEdit_97]
        rcases hk with q | q
        · rw [if_pos q]
          rw [if_pos q] at hkm
          have : ¬ nI ls.length + 1 ≤ nI k := by rw [nI_1]; exact nI_ge (by omega) (by omega)
          rw [if_neg this]
          rfl
        · have q2 : ¬ kind = 2 := by omega
          rw [if_neg q2]
          rw [if_neg q2] at hkm
          have : ¬ nI ls.length + 0 ≤ nI k := by rw [Int32.add_zero]; exact nI_ge (by omega) (by omega)
          rw [if_neg this]
          rfl
      have ecand : py_e2 P ls kind (List.range' k (m + 1)) = py_el P ls kind k (List.range' 0 26) ++ py_e2 P ls kind (List.range' (k + 1) m) := by
        have er : List.range' k (m + 1) = k :: List.range' (k + 1) m := List.range'_succ
        unfold py_e2
        rw [er, List.flatMap_cons]
      rw [e0, ecand, List.find?_append]
      cases hf1 : (py_el P ls kind k (List.range' 0 26)).find? (py_ts P ls) with
      | none =>
        have e2 := g2 hf1
        rw [e2]
        simp only [Option.none_or]
        obtain ⟨M2, k1, k2, k3⟩ := ih (k + 1) M1 (by omega) (mx_zf hin g1) fuel (by omega)
        exact ⟨M2, zf_trans g1 k1, k2, k3⟩
      | some c =>
        simp only [Option.some_or]
        refine ⟨M1, g1, fun x => (by cases x), ?_⟩
        intro e he
        injection he with he
        subst he
        exact g3 c hf1
theorem mr_findsEdit_75 {M : zM} (hd : 39 ≤ d) (hin : mx_in am M r P ls) {f : Nat} : ∃ M', mo_findsEdit_75 d (f + 3) am (zor (py_ll P)) 2 M = some (zb ((py_e2 P ls 2 (List.range' 0 (ls.length + 1)) ++ py_e2 P ls 3 (List.range' 0 ls.length)).find? (py_ts P ls)).isSome, M') ∧ zf (me_W am) M M' ∧ (∀ c, (py_e2 P ls 2 (List.range' 0 (ls.length + 1)) ++ py_e2 P ls 3 (List.range' 0 ls.length)).find? (py_ts P ls) = some c → fe_f am M' c) := by
  have hLF := pb_LF
  have h24 := hin.2.2.2.2
  have n2 : ¬ (3 : Int32) < 2 := by decide
  have n3 : ¬ (3 : Int32) < 3 := by decide
  have n4 : (3 : Int32) < 4 := by decide
  obtain ⟨M1, g1, g2, g3⟩ := mr_findsEdit_82 (am := am) (r := r) (d := d) (P := P) (ls := ls) hd (fun p0 p1 p2 m => mo_findsEdit_75 d (f + 2) p0 p1 p2 m) (kind := 2) (.inl rfl) (ls.length + 1) 0 M (by simp) hin zLF (by omega)
  have e0 : mo_findsEdit_75 d (f + 3) am (zor (py_ll P)) 2 M = mo_findsEdit_82 (fun p0 p1 p2 m => mo_findsEdit_75 d (f + 2) p0 p1 p2 m) d zLF am (zor (py_ll P)) (nI 2) (nI 0) M := by
    conv => lhs; unfold mo_findsEdit_75
    simp only [if_neg n2]
    rfl
  rw [e0, List.find?_append]
  cases hf1 : (py_e2 P ls 2 (List.range' 0 (ls.length + 1))).find? (py_ts P ls) with
  | some c =>
    obtain ⟨k1, k2⟩ := g3 c hf1
    refine ⟨M1, ?_, g1, ?_⟩
    · rw [k1]
      simp [zb]
    · intro c' hc'
      simp only [Option.some_or] at hc'
      injection hc' with hc'
      rw [← hc']
      exact k2
  | none =>
    have e2 := g2 hf1
    rw [e2]
    simp only [Option.none_or]
    obtain ⟨M2, k1, k2, k3⟩ := mr_findsEdit_82 (am := am) (r := r) (d := d) (P := P) (ls := ls) hd (fun p0 p1 p2 m => mo_findsEdit_75 d (f + 1) p0 p1 p2 m) (kind := 3) (.inr rfl) ls.length 0 M1 (by simp) (mx_zf hin g1) zLF (by omega)
    have e3 : mo_findsEdit_75 d (f + 2) am (zor (py_ll P)) (nI (2 + 1)) M1 = mo_findsEdit_82 (fun p0 p1 p2 m => mo_findsEdit_75 d (f + 1) p0 p1 p2 m) d zLF am (zor (py_ll P)) (nI 3) (nI 0) M1 := by
      have : nI (2 + 1) = 3 := rfl
      rw [this]
      conv => lhs; unfold mo_findsEdit_75
      simp only [if_neg n3]
      rfl
    rw [e3]
    cases hf2 : (py_e2 P ls 3 (List.range' 0 ls.length)).find? (py_ts P ls) with
    | some c =>
      obtain ⟨l1, l2⟩ := k3 c hf2
      refine ⟨M2, ?_, zf_trans g1 k1, ?_⟩
      · rw [l1]
        simp [zb]
      · intro c' hc'
        injection hc' with hc'
        rw [← hc']
        exact l2
    | none =>
      refine ⟨M2, ?_, zf_trans g1 k1, fun c' hc' => (by cases hc')⟩
      rw [k2 hf2]
      have : nI (3 + 1) = 4 := rfl
      rw [this]
      simp [mo_findsEdit_75, n4, zb]
theorem mr_findsEdit_38 (hd : 39 ≤ d) : ∀ (m k : Nat) (M : zM), k + m = ls.length → mx_in am M r P ls → ∀ fuel, m < fuel → ∃ M', mo_findsEdit_38 d fuel am (nI k) M = some (zb (((List.range' k m).map (fun k => (1, k, 0)) ++ (py_e2 P ls 2 (List.range' 0 (ls.length + 1)) ++ py_e2 P ls 3 (List.range' 0 ls.length))).find? (py_ts P ls)).isSome, M') ∧ zf (me_W am) M M' ∧ (∀ c, ((List.range' k m).map (fun k => (1, k, 0)) ++ (py_e2 P ls 2 (List.range' 0 (ls.length + 1)) ++ py_e2 P ls 3 (List.range' 0 ls.length))).find? (py_ts P ls) = some c → fe_f am M' c) := by
  have hLF := pb_LF
  intro m
  induction m with
  | zero =>
    intro k M hkm hin fuel hf
    have h24 := hin.2.2.2.2
    cases fuel with
    | zero => cases hf
    | succ fuel =>
      have : k = ls.length := by omega
      subst this
      simp only [List.range'_zero, List.map_nil, List.nil_append]
      have hle : nI ls.length ≤ nI ls.length := Int32.le_refl _
      obtain ⟨M1, g1, g2⟩ := mr_findsEdit_75 (am := am) (r := r) (d := d) (P := P) hd hin (f := zLF - 3)
      refine ⟨M1, ?_, g2⟩
      have ez : zLF - 3 + 3 = zLF := by omega
      rw [ez] at g1
      simp only [mo_findsEdit_38, hin.2.2.1, if_pos hle, hin.2.1, mr_lettersIn hin.1 (show 0 < d by omega), Option.bind_some, g1]
  | succ m ih =>
    intro k M hkm hin fuel hf
    have h24 := hin.2.2.2.2
    cases fuel with
    | zero => cases hf
    | succ fuel =>
      have hge : ¬ nI ls.length ≤ nI k := nI_ge (by omega) (by omega)
      obtain ⟨M1, e1, e2, e3⟩ := mr_edits (d := d) (l := 0) hin (kind := 1) (place := k) (by omega) (by omega) hd (fun x => by omega) (-1) (fun x => by omega)
      have e1' : mo_edits d am 1 (nI k) (-1) M = some (zb (py_wrd P (py_es 1 k 0 0 ls)), M1) := e1
      have hts : py_ts P ls (1, k, 0) = py_wrd P (py_es 1 k 0 0 ls) := rfl
      rw [List.range'_succ, List.map_cons, List.cons_append, List.find?_cons, hts]
      have e0 : mo_findsEdit_38 d (fuel + 1) am (nI k) M = if zb (py_wrd P (py_es 1 k 0 0 ls)) = 0 then mo_findsEdit_38 d fuel am (nI (k + 1)) M1 else some (1, M1) := by
        simp only [mo_findsEdit_38, hin.2.2.1, if_neg hge, e1', Option.bind_some, zlet, nI_1]
      rw [e0]
      cases hw : py_wrd P (py_es 1 k 0 0 ls)
      · simp only [pb_zbf, if_true]
        obtain ⟨M2, g1, g2, g3⟩ := ih (k + 1) M1 (by omega) (mx_zf hin e3) fuel (by omega)
        exact ⟨M2, g1, zf_trans e3 g2, g3⟩
      · simp only [pb_zbt]
        rw [if_neg (by decide)]
        refine ⟨M1, by simp [zb], e3, ?_⟩
        intro c hc
        injection hc with hc
        rw [← hc]
        exact e2 hw
theorem mr_findsEdit {M : zM} (hd : 40 ≤ d) (hin : mx_in am M r P ls) : ∃ M', mo_findsEdit d am M = some (zb (py_md P ls).isSome, M') ∧ zf (me_W am) M M' ∧ (py_md P ls = some none → zm_I M' 12 am 53 = 0 ∧ zm_I M' 12 am 54 = -1 ∧ zm_I M' 12 am 55 = -1) ∧ (∀ c, py_md P ls = some (some c) → fe_f am M' c) := by
  have hLF := pb_LF
  have h24 := hin.2.2.2.2
  obtain ⟨d, rfl⟩ : ∃ d', d = d' + 1 := ⟨d - 1, by omega⟩
  show ∃ M', mo_findsEdit_b d am M = _ ∧ _
  have hfz : zf (me_W am) M (zm_setI (zm_setI (zm_setI M 12 am 53 0) 12 am 54 (-1)) 12 am 55 (-1)) := zf_trans (zf_set (.inl ⟨rfl, rfl, by simp⟩)) (zf_trans (zf_set (.inl ⟨rfl, rfl, by simp⟩)) (zf_set (.inl ⟨rfl, rfl, by simp⟩)))
  generalize hM0 : zm_setI (zm_setI (zm_setI M 12 am 53 0) 12 am 54 (-1)) 12 am 55 (-1) = M0 at *
  have h0 := mx_zf hin hfz
  obtain ⟨M1, e1, e2⟩ := mr_isWord (d := d) (ia := 27) (L := 24) (letters := ls) h0.1 (by omega) (by simp) h24 (by omega) h0.2.2.2.1 (ml_L48 h0.1.2.1)
  have hf1 : zf (me_W am) M0 M1 := zf_mono e2 (mg_mono (by simp) (by simp))
  have ebb : mo_findsEdit_b d am M = if zb (py_wrd P ls) = 0 then mo_findsEdit_38 d zLF am 0 M1 else some (1, M1) := by
    unfold mo_findsEdit_b
    simp only [zlet, hM0, h0.2.1, ml_R48 h0.1.2.1, h0.2.2.1, e1, Option.bind_some]
  rw [ebb]
  unfold py_md
  cases hw : py_wrd P ls
  · simp only [pb_zbf, if_true, Bool.false_eq_true, if_false]
    obtain ⟨M2, g1, g2, g3⟩ := mr_findsEdit_38 (am := am) (r := r) (d := d) (P := P) (ls := ls) (by omega) ls.length 0 M1 (by omega) (mx_zf h0 hf1) zLF (by omega)
    have g1' : mo_findsEdit_38 d zLF am 0 M1 = _ := g1
    have eea : (List.range' 0 ls.length).map (fun k => (1, k, 0)) ++ (py_e2 P ls 2 (List.range' 0 (ls.length + 1)) ++ py_e2 P ls 3 (List.range' 0 ls.length)) = py_ea P ls := rfl
    rw [eea] at g1' g3
    refine ⟨M2, ?_, zf_trans hfz (zf_trans hf1 g2), ?_, ?_⟩
    · rw [g1']
      cases (py_ea P ls).find? (py_ts P ls) <;> rfl
    · intro x
      cases hf : (py_ea P ls).find? (py_ts P ls) with
      | none => rw [hf] at x; cases x
      | some c => rw [hf] at x; cases x
    · intro c x
      cases hf : (py_ea P ls).find? (py_ts P ls) with
      | none => rw [hf] at x; cases x
      | some c' =>
        rw [hf] at x
        injection x with x
        injection x with x
        rw [← x]
        exact g3 c' hf
  · simp only [pb_zbt, if_true]
    rw [if_neg (by decide)]
    refine ⟨M1, rfl, zf_trans hfz hf1, ?_, ?_⟩
    · intro _
      rw [mg_f e2 (by simp), mg_f e2 (by simp), mg_f e2 (by simp), ← hM0]
      refine ⟨?_, ?_, pm_same⟩
      · rw [pm_ne (by omega), pm_ne (by omega), pm_same]
      · rw [pm_ne (by omega), pm_same]
    · intro c x
      injection x with x
      cases x
end
