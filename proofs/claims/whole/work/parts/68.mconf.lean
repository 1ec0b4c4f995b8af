/-! THE MODEL counts conflicts; small questions about a pattern -/
def py_po (k : Nat) : Option Nat := match k with
  | 0 => none
  | k + 1 => some k
theorem po_s (k : Nat) : zo (py_po k) + 1 = zo (py_po (k + 1)) := by
  cases k with
  | zero => decide
  | succ k => exact nI_1 k
def py_pc (f : yW → yW → Bool) : List yW → List yW → Nat
  | _, [] => 0
  | pre, V :: t => (pre.filter (f V)).length + py_pc f (pre ++ [V]) t
def py_cf1 (P : yP) (unc : Bool) (p : Option Nat) (V W : yW) : Bool := (!unc || V.1 != W.1) && py_both P p V W
def py_cfp (P : yP) (unc : Bool) (p : Option Nat) : Nat := py_pc (py_cf1 P unc p) [] (py_ways P p)
def py_cfs (P : yP) (unc : Bool) : List Nat → Nat
  | [] => 0
  | k :: l => py_cfp P unc (py_po k) + py_cfs P unc l
def py_cf (P : yP) (unc : Bool) : Nat := py_cfs P unc (List.range' 0 (py_nl P + 1))
def py_sure (P : yP) : Bool := py_cf P false == 0
theorem pc_cons (f : yW → yW → Bool) (pre : List yW) (V : yW) (t : List yW) : py_pc f pre (V :: t) = (pre.filter (f V)).length + py_pc f (pre ++ [V]) t := rfl
theorem pc_le (f : yW → yW → Bool) : ∀ t pre, py_pc f pre t ≤ t.length * (pre.length + t.length) := by
  intro t
  induction t with
  | nil => intro pre; simp [py_pc]
  | cons V t ih =>
    intro pre
    have h1 := ih (pre ++ [V])
    have h2 : (pre.filter (f V)).length ≤ pre.length := List.length_filter_le _ _
    rw [pc_cons]
    simp only [List.length_append, List.length_cons, List.length_nil, Nat.zero_add] at h1 ⊢
    have : t.length * (pre.length + 1 + t.length) + (pre.length + 1 + t.length) = (t.length + 1) * (pre.length + (t.length + 1)) := by
      rw [Nat.add_mul, Nat.one_mul, Nat.add_assoc pre.length 1 t.length, Nat.add_comm 1 t.length]
    omega
section
variable {am r d : Nat} {M : zM} {P : yP}
theorem il_mem {a b : Option Nat} {n : Nat} {W : yW} (hW : W ∈ py_il P a n b) : ∃ q, q < py_nl P ∧ W = (q, b, a, n) ∧ py_fx P n (py_lf P q) = true := by
  unfold py_il py_fl at hW
  simp at hW
  obtain ⟨q, h1, h2⟩ := hW
  exact ⟨q, by omega, h2.symm, h1.2⟩
theorem rw_mem {p : Nat} : ∀ {l : List Nat} {W : yW}, W ∈ py_rw P p l → ∃ c, c ∈ l ∧ W ∈ py_il P (some p) c none := by
  intro l
  induction l with
  | nil => intro W hW; simp [py_rw] at hW
  | cons c l ih =>
    intro W hW
    unfold py_rw at hW
    rcases List.mem_append.mp hW with x | x
    · exact ⟨c, List.mem_cons_self, x⟩
    · cases hb : py_nu P c
      · rw [hb] at x; simp at x
      · rw [hb] at x
        obtain ⟨c', h1, h2⟩ := ih (by simpa using x)
        exact ⟨c', List.mem_cons_of_mem _ h1, h2⟩
/-- what is laid on a level -/
theorem lv_mem (h : py_ok P) {k p : Nat} (hk : py_dm P k) (e : py_up P k = some p) {W : yW} (hW : W ∈ py_lv P k) : ∃ c, c ∈ py_ks P p ∧ (W ∈ py_il P (some p) c none ∨ W ∈ py_il P (some p) c (some (py_nb P p))) := by
  have hfin := ok_fin h hk e
  unfold py_lv at hW
  rw [e] at hW
  simp only at hW
  by_cases q2 : py_kd P p = 2
  · rw [if_pos q2] at hW
    obtain ⟨c, h1, h2⟩ := rw_mem hW
    exact ⟨c, by rw [hfin.1]; simp [h1], .inl h2⟩
  · rw [if_neg q2] at hW
    by_cases q4 : py_kd P p = 4
    · rw [if_pos q4] at hW
      unfold py_an2 at hW
      rw [List.mem_flatMap] at hW
      obtain ⟨c, h1, h2⟩ := hW
      exact ⟨c, (List.mem_filter.mp h1).1, .inl h2⟩
    · rw [if_neg q4] at hW
      by_cases q5 : py_kd P p = 5 ∧ py_to P (py_nb P p) ≠ some 1
      · rw [if_pos q5] at hW
        exact ⟨k, ok_pks h hk e, .inr hW⟩
      · rw [if_neg q5] at hW
        cases hW
theorem lv_wok (h : py_ok P) {k p : Nat} (hk : py_dm P k) (e : py_up P k = some p) {W : yW} (hW : W ∈ py_lv P k) : py_wok P W := by
  have hp := ok_pdm h hk e
  obtain ⟨c, h1, h2⟩ := lv_mem h hk e hW
  rcases h2 with h2 | h2
  · obtain ⟨q, g1, g2, _⟩ := il_mem h2
    rw [g2]
    exact ⟨g1, ⟨p, rfl, hp⟩, ok_kid h hp h1⟩
  · obtain ⟨q, g1, g2, _⟩ := il_mem h2
    rw [g2]
    exact ⟨g1, ⟨p, rfl, hp⟩, ok_kid h hp h1⟩
theorem wl_wok (h : py_ok P) : ∀ x, py_dm P x → ∀ W, W ∈ py_wl P x → py_wok P W := by
  refine ok_climb h _ ?_ ?_
  · intro W hW
    rw [wl_rt h] at hW
    cases hW
  · intro x p hx e ih W hW
    rw [wl_up h hx e] at hW
    rcases List.mem_append.mp hW with y | y
    · exact lv_wok h hx e y
    · cases hb : py_pst P x
      · rw [hb] at y; simp at y
      · rw [hb] at y
        exact ih W (by simpa using y)
theorem ways_lt (h : py_ok P) {p : Option Nat} (hp : ∀ o, p = some o → o < py_nl P) {W : yW} (hW : W ∈ py_ways P p) : W.1 < py_nl P ∧ (∀ o, p = some o → py_wok P W) := by
  cases p with
  | none =>
    obtain ⟨q, g1, g2, _⟩ := il_mem hW
    rw [g2]
    exact ⟨g1, fun o e => by cases e⟩
  | some o =>
    have := wl_wok h _ (ok_lf h (hp o rfl)) W hW
    exact ⟨this.1, fun _ _ => this⟩
theorem mr_isUnlike (h : mp_ok am M r P) {l : List yW} {v w : Nat} {V W : yW} (hw : mw_has am M l) (hv : l[v]? = some V) (hw2 : l[w]? = some W) (hV : V.1 < 2 ^ 31) (hW : W.1 < 2 ^ 31) : mo_isUnlike d am (nI v) (nI w) M = some (zb (V.1 != W.1), M) := by
  have hv1 := mw_lt hw hv
  have hw1 := mw_lt hw hw2
  have hz : z_in (nI v) 128 := nI_in (by omega) (by omega)
  have hz2 : z_in (nI w) 128 := nI_in (by omega) (by omega)
  have hV1 := (hw.2.2 v V hv).1
  have hW1 := (hw.2.2 w W hw2).1
  unfold mo_isUnlike
  simp only [ml_R22 h.2.1, ml_L22 h.2.1, if_pos hz, if_pos hz2, nI_clamp (show v < 2 ^ 31 by omega), nI_clamp (show w < 2 ^ 31 by omega), hV1, hW1, nI_eq hV hW]
  by_cases q : V.1 = W.1
  · simp [q, mo_isUnlike_20, zb]
  · simp [q, mo_isUnlike_20, zb]
theorem mr_conflicts_38 (h : mp_ok am M r P) {l : List yW} (hw : mw_has am M l) (hd : 35 ≤ d) {p : Option Nat} (hp : ∀ o, p = some o → o < py_nl P) (hl : ∀ W, W ∈ l → W.1 < py_nl P ∧ (∀ o, p = some o → py_wok P W)) (unc : Bool) (kl5 : Nat → Int32 → Int32 → Int32 → Int32 → zM → Option (Int32 × zM)) (kl26 : Nat → Int32 → Int32 → Int32 → Int32 → Int32 → zM → Option (Int32 × zM)) {V : yW} {t : List yW} : ∀ (b a : List yW), l = a ++ (b ++ V :: t) → ∀ (n fuel : Nat), b.length < fuel → mo_conflicts_38 kl5 kl26 d fuel am (nI r) (zb unc) (nI n) (zo p) (nI (a.length + b.length)) (nI a.length) M = kl26 am (nI r) (zb unc) (nI (n + (b.filter (py_cf1 P unc p V)).length)) (zo p) (nI (a.length + b.length + 1)) M := by
  have hlen := hw.2.1
  have hnl := ok_nl h.1
  intro b
  induction b with
  | nil =>
    intro a e n fuel hf
    cases fuel with
    | zero => cases hf
    | succ fuel => simp [mo_conflicts_38, zlet, nI_1]
  | cons W b ih =>
    intro a e n fuel hf
    cases fuel with
    | zero => cases hf
    | succ fuel =>
      have hll : l.length = a.length + (b.length + 1 + (t.length + 1)) := by rw [e]; simp; omega
      have hge : ¬ nI (a.length + (b.length + 1)) ≤ nI a.length := nI_ge (by omega) (by omega)
      have hVm : V ∈ l := by rw [e]; simp
      have hWm : W ∈ l := by rw [e]; simp
      have hv : l[a.length + (b.length + 1)]? = some V := by
        rw [e, List.getElem?_append_right (by omega), Nat.add_sub_cancel_left, List.getElem?_append_right (by simp)]
        simp
      have hw2 : l[a.length]? = some W := by rw [e]; simp
      have hV := hl V hVm
      have hW := hl W hWm
      have hb := mr_areBoth (d := d) h hw hv hw2 (by omega) hp hV.1 hW.1 (fun o eo => ⟨hV.2 o eo, hW.2 o eo⟩)
      have hu := mr_isUnlike (d := d) h hw hv hw2 (by omega) (by omega)
      have ih' := ih (a ++ [W]) (by rw [e]; simp) (n + (if py_cf1 P unc p V W then 1 else 0)) fuel (by simp at hf; omega)
      simp only [List.length_append, List.length_cons, List.length_nil] at ih'
      have e1 : a.length + (0 + 1) + b.length = a.length + (b.length + 1) := by omega
      rw [e1] at ih'
      have hfil : n + ((W :: b).filter (py_cf1 P unc p V)).length = n + (if py_cf1 P unc p V W then 1 else 0) + (b.filter (py_cf1 P unc p V)).length := by
        rw [List.filter_cons]
        cases py_cf1 P unc p V W <;> simp <;> omega
      rw [hfil, List.length_cons, ← ih']
      have e2 : nI (a.length + (0 + 1)) = nI a.length + 1 := (nI_1 _).symm
      have e3 : ∀ n, nI (n + 1) = nI n + 1 := fun n => (nI_1 n).symm
      simp only [mo_conflicts_38, if_neg hge]
      cases unc
      · have ecf : py_cf1 P false p V W = py_both P p V W := by simp [py_cf1]
        rw [pb_zbf, if_pos rfl, ecf]
        unfold mo_conflicts_61
        rw [hb]
        simp only [Option.bind_some]
        cases py_both P p V W
        · simp [pb_zbf, mo_conflicts_79, mo_conflicts_80, zlet, e2]
        · rw [pb_zbt, if_neg (by decide)]
          simp [mo_conflicts_80, zlet, e2, e3]
      · rw [pb_zbt, if_neg (by decide), hu]
        simp only [Option.bind_some]
        by_cases q : V.1 = W.1
        · have ecf : py_cf1 P true p V W = false := by simp [py_cf1, q]
          rw [ecf]
          simp [q, pb_zbf, mo_conflicts_79, mo_conflicts_80, zlet, e2]
        · have q' : (V.1 != W.1) = true := by simpa using q
          have ecf : py_cf1 P true p V W = py_both P p V W := by simp [py_cf1, q']
          rw [q', pb_zbt, if_neg (by decide), ecf]
          unfold mo_conflicts_61
          rw [hb]
          simp only [Option.bind_some]
          cases py_both P p V W
          · simp [pb_zbf, mo_conflicts_79, mo_conflicts_80, zlet, e2]
          · rw [pb_zbt, if_neg (by decide)]
            simp [mo_conflicts_80, zlet, e2, e3]
theorem mr_conflicts_26 (h : mp_ok am M r P) {l : List yW} (hw : mw_has am M l) (hd : 35 ≤ d) {p : Option Nat} (hp : ∀ o, p = some o → o < py_nl P) (hl : ∀ W, W ∈ l → W.1 < py_nl P ∧ (∀ o, p = some o → py_wok P W)) (unc : Bool) (kl5 : Nat → Int32 → Int32 → Int32 → Int32 → zM → Option (Int32 × zM)) : ∀ (b a : List yW), l = a ++ b → ∀ (n fuel : Nat), b.length < fuel → mo_conflicts_26 kl5 d fuel am (nI r) (zb unc) (nI n) (zo p) (nI a.length) M = kl5 am (nI r) (zb unc) (nI (n + py_pc (py_cf1 P unc p) a b)) (zo p + 1) M := by
  have hlen := hw.2.1
  intro b
  induction b with
  | nil =>
    intro a e n fuel hf
    cases fuel with
    | zero => cases hf
    | succ fuel =>
      have : l.length = a.length := by rw [e]; simp
      simp [mo_conflicts_26, hw.1, this, zlet, py_pc]
  | cons V b ih =>
    intro a e n fuel hf
    cases fuel with
    | zero => cases hf
    | succ fuel =>
      have hll : l.length = a.length + (b.length + 1) := by rw [e]; simp
      have hge : ¬ nI l.length ≤ nI a.length := nI_ge (by omega) (by omega)
      have hLF := pb_LF
      have h38 := mr_conflicts_38 (d := d) h hw hd hp hl unc kl5 (fun p0 p1 p2 p3 p4 p5 m => mo_conflicts_26 kl5 d fuel p0 p1 p2 p3 p4 p5 m) (V := V) (t := b) a [] (by rw [e]; simp) n zLF (by omega)
      simp only [List.length_nil, Nat.zero_add] at h38
      have ih' := ih (a ++ [V]) (by rw [e]; simp) (n + (a.filter (py_cf1 P unc p V)).length) fuel (by simp at hf; omega)
      simp only [List.length_append, List.length_cons, List.length_nil, Nat.zero_add] at ih'
      rw [ih'] at h38
      have e0 : mo_conflicts_26 kl5 d (fuel + 1) am (nI r) (zb unc) (nI n) (zo p) (nI a.length) M = mo_conflicts_38 kl5 (fun p0 p1 p2 p3 p4 p5 m => mo_conflicts_26 kl5 d fuel p0 p1 p2 p3 p4 p5 m) d zLF am (nI r) (zb unc) (nI n) (zo p) (nI a.length) (nI 0) M := by
        simp only [mo_conflicts_26, hw.1, if_neg hge]
        rfl
      rw [e0, h38, pc_cons, Nat.add_assoc]
theorem mr_conflicts_5 (hd : 35 ≤ d) (unc : Bool) : ∀ (m k : Nat) (M : zM), mp_ok am M r P → k + m = py_nl P + 1 → ∀ (n fuel : Nat), m < fuel → ∃ M', mo_conflicts_5 d fuel am (nI r) (zb unc) (nI n) (zo (py_po k)) M = some (nI (n + py_cfs P unc (List.range' k m)), M') ∧ zf (mw_W am) M M' := by
  intro m
  induction m with
  | zero =>
    intro k M h hk n fuel hf
    have hnl := ok_nl h.1
    cases fuel with
    | zero => cases hf
    | succ fuel =>
      have e : k = py_nl P + 1 := by omega
      subst e
      refine ⟨M, ?_, zf_refl _ _⟩
      simp [mo_conflicts_5, mr_nl h, py_po, pb_zos, py_cfs]
  | succ m ih =>
    intro k M h hk n fuel hf
    have hnl := ok_nl h.1
    have hLF := pb_LF
    cases fuel with
    | zero => cases hf
    | succ fuel =>
      have hpo : ∀ o, py_po k = some o → o < py_nl P := by
        intro o e
        cases k with
        | zero => cases e
        | succ k => injection e with e; omega
      have hge : ¬ nI (py_nl P) ≤ zo (py_po k) := by
        cases k with
        | zero =>
          show ¬ nI (py_nl P) ≤ -1
          intro x
          rw [fa_le, nI_toInt (by omega)] at x
          have : ((-1 : Int32)).toInt = -1 := by decide
          omega
        | succ k => exact nI_ge (by omega) (by omega)
      obtain ⟨M1, e1, e2, e3⟩ := mr_laysWays (d := d) h hd hpo
      have h1 := mp_W h e2
      have hwl := ways_len h.1 hpo
      have h26 := mr_conflicts_26 (d := d) h1 e3 hd hpo (fun W hW => ways_lt h.1 hpo hW) unc (fun p0 p1 p2 p3 p4 m => mo_conflicts_5 d fuel p0 p1 p2 p3 p4 m) (py_ways P (py_po k)) [] rfl n zLF (by omega)
      obtain ⟨M2, f1, f2⟩ := ih (k + 1) M1 h1 (by omega) (n + py_cfp P unc (py_po k)) fuel (by omega)
      refine ⟨M2, ?_, zf_trans e2 f2⟩
      rw [List.range'_succ]
      show _ = some (nI (n + (py_cfp P unc (py_po k) + py_cfs P unc (List.range' (k + 1) m))), M2)
      rw [← Nat.add_assoc, ← f1, ← po_s]
      simp only [mo_conflicts_5, mr_nl h, Option.bind_some, if_neg hge, e1]
      exact h26
theorem mr_conflicts (h : mp_ok am M r P) (hd : 36 ≤ d) (unc : Bool) : ∃ M', mo_conflicts d am (nI r) (zb unc) M = some (nI (py_cf P unc), M') ∧ zf (mw_W am) M M' := by
  have hnl := ok_nl h.1
  have hLF := pb_LF
  cases d with
  | zero => omega
  | succ d =>
    show ∃ M', mo_conflicts_b d am (nI r) (zb unc) M = _ ∧ _
    unfold mo_conflicts_b
    obtain ⟨M', e1, e2⟩ := mr_conflicts_5 (d := d) (am := am) (r := r) (by omega) unc (py_nl P + 1) 0 M h (by omega) 0 zLF (by omega)
    refine ⟨M', ?_, e2⟩
    rw [Nat.zero_add] at e1
    exact e1
theorem cfs_le (h : py_ok P) (unc : Bool) : ∀ l, (∀ k, k ∈ l → k ≤ py_nl P) → py_cfs P unc l ≤ l.length * 2304 := by
  intro l
  induction l with
  | nil => intro _; simp [py_cfs]
  | cons k l ih =>
    intro hk
    have h1 := ih (fun x hx => hk x (List.mem_cons_of_mem _ hx))
    have h2 : py_cfp P unc (py_po k) ≤ 2304 := by
      have hpo : ∀ o, py_po k = some o → o < py_nl P := by
        intro o e
        have := hk k List.mem_cons_self
        cases k with
        | zero => cases e
        | succ k => injection e with e; omega
      have h3 := ways_len h hpo
      have h4 := pc_le (py_cf1 P unc (py_po k)) (py_ways P (py_po k)) []
      simp only [List.length_nil, Nat.zero_add] at h4
      have := Nat.mul_le_mul h3 h3
      unfold py_cfp
      omega
    unfold py_cfs
    simp
    omega
theorem cf_lt (h : py_ok P) (unc : Bool) : py_cf P unc < 2 ^ 31 := by
  have hnl := ok_nl h
  have h1 := cfs_le h unc (List.range' 0 (py_nl P + 1)) (by intro k hk; simp at hk; omega)
  simp at h1
  unfold py_cf
  omega
theorem mr_isSure (h : mp_ok am M r P) (hd : 37 ≤ d) : ∃ M', mo_isSure d am (nI r) M = some (zb (py_sure P), M') ∧ zf (mw_W am) M M' := by
  cases d with
  | zero => omega
  | succ d =>
    obtain ⟨M', e1, e2⟩ := mr_conflicts (d := d) h (by omega) false
    refine ⟨M', ?_, e2⟩
    show mo_isSure_b d am (nI r) M = _
    have e0 : (nI (py_cf P false) = 0) ↔ py_cf P false = 0 := nI_eq (b := 0) (cf_lt h.1 false) (by omega)
    unfold mo_isSure_b py_sure
    rw [pb_zbf] at e1
    rw [e1]
    simp only [Option.bind_some, e0]
    by_cases q : py_cf P false = 0
    · simp [q, mo_isSure_14, zb]
    · simp [q, mo_isSure_14, zb]
end
