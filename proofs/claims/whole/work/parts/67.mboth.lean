/-! THE MODEL: whether some reading allows two ways -/
/-- a way that turns at a goes out of n -/
def py_pa (P : yP) (n : Nat) (a : Option Nat) : Bool := match a with
  | none => true
  | some a => a != n && py_wi P a n
def py_ps (P : yP) (n : Nat) (V W : yW) : Bool := py_pa P n V.2.2.1 || py_pa P n W.2.2.1
def py_lt2 (P : yP) (n : Nat) (V W : yW) : Nat := if py_ps P n V W && !(py_ks P n).all (py_nu P) then max 1 (py_fr P (py_nb P n)) else 1
def py_cr (P : yP) (n : Nat) (V W : yW) : Bool := (V.2.2.1 != some n && W.2.2.1 != some n) || (match py_to P (py_nb P n) with
  | none => true
  | some t => decide (py_lt2 P n V W < t))
def py_mo (P : yP) (n c own : Nat) (V W : yW) : Bool := c != own && (py_ps P n V W && !py_nu P c)
def py_cp (P : yP) (n own : Nat) (V W : yW) : Bool := (py_ks P n).all (fun c => !(py_mo P n c own V W && ((V.2.2.1 == some n && V.2.2.2 == c) || (W.2.2.1 == some n && W.2.2.2 == c))))
def py_bo (P : yP) (V W : yW) (x : Nat) : Bool := py_ur P (fun k o => match py_up P k with
  | none => true
  | some n => (if py_kd P n = 5 then py_cr P n V W else true) && ((if py_kd P n = 4 then py_cp P n k V W else true) && o.getD true)) x
def py_both (P : yP) (p : Option Nat) (V W : yW) : Bool := py_lt P V.1 == py_lt P W.1 && (match p with
  | none => true
  | some p => py_bo P V W (py_lf P p))
/-- a way behind an occurrence -/
def py_wok (P : yP) (W : yW) : Prop := W.1 < py_nl P ∧ (∃ a, W.2.2.1 = some a ∧ py_dm P a) ∧ py_dm P W.2.2.2
section
variable {am r d : Nat} {M : zM} {P : yP} {l : List yW} {v w : Nat} {V W : yW}
theorem mw_lt (hw : mw_has am M l) (hv : l[v]? = some V) : v < 128 := by
  have := (List.getElem?_eq_some_iff.mp hv).1
  have := hw.2.1
  omega
theorem bo_up (h : py_ok P) {x n : Nat} (hx : py_dm P x) (e : py_up P x = some n) : py_bo P V W x = ((if py_kd P n = 5 then py_cr P n V W else true) && ((if py_kd P n = 4 then py_cp P n x V W else true) && py_bo P V W n)) := by
  unfold py_bo
  rw [ur_up h hx e]
  simp only [e]
  rfl
theorem bo_rt (h : py_ok P) : py_bo P V W (py_rt P) = true := by
  unfold py_bo
  rw [ur_rt h]
  simp only [ok_up0 h]
theorem mr_isPassed (h : mp_ok am M r P) (hw : mw_has am M l) (hv : l[v]? = some V) (hV : py_wok P V) (hd : 2 ≤ d) {n : Nat} (hn : py_dm P n) : mo_isPassed d am (nI n) (nI v) M = some (zb (py_pa P n V.2.2.1), M) := by
  have hv1 := mw_lt hw hv
  have hz : z_in (nI v) 128 := nI_in (by omega) (by omega)
  have hV1 := (hw.2.2 v V hv).2.2.1
  obtain ⟨a, ha, had⟩ := hV.2.1
  have ha4 := ok_400 h.1 had
  have hn4 := ok_400 h.1 hn
  cases d with
  | zero => omega
  | succ d =>
    show mo_isPassed_b d am (nI n) (nI v) M = _
    unfold mo_isPassed_b
    rw [ha] at hV1
    rw [ha]
    simp only [ml_R24 h.2.1, ml_L24 h.2.1, if_pos hz, nI_clamp (show v < 2 ^ 31 by omega), hV1, pb_zos]
    by_cases q : a = n
    · subst q
      simp [mo_isPassed_28, mo_isPassed_29, py_pa, zb]
    · have hq : ¬ nI a = nI n := fun e => q ((nI_eq (by omega) (by omega)).mp e)
      rw [if_neg hq, mr_isWithin h (by omega) hn (by omega)]
      have e1 : (a != n) = true := by simpa using q
      simp only [py_pa, e1, Bool.true_and, Option.bind_some]
      cases py_wi P a n <;> simp [mo_isPassed_28, mo_isPassed_29, zb]
theorem mr_leastTime (h : mp_ok am M r P) (hw : mw_has am M l) (hv : l[v]? = some V) (hw2 : l[w]? = some W) (hV : py_wok P V) (hW : py_wok P W) (hd : 33 ≤ d) {n : Nat} (hn : py_dm P n) (hk : py_kd P n = 5) : mo_leastTime d am (nI r) (nI n) (nI v) (nI w) M = some (nI (py_lt2 P n V W), M) := by
  have h5 := ok_k5 h.1 hn hk
  obtain ⟨c, hc, _⟩ := h5.1
  have hcd : py_dm P c := ok_kid h.1 hn (by rw [hc]; simp)
  have hg := ok_hg30 h.1 hcd
  have hfr := ok_fr h.1 h5.2.1
  cases d with
  | zero => omega
  | succ d =>
    show mo_leastTime_b d am (nI r) (nI n) (nI v) (nI w) M = _
    have h1 := mr_isPassed (d := d) h hw hv hV (by omega) hn
    have h2 := mr_isPassed (d := d) h hw hw2 hW (by omega) hn
    have h24 : mo_leastTime_24 d am (nI r) (nI n) 1 M = some (nI (if !(py_ks P n).all (py_nu P) then max 1 (py_fr P (py_nb P n)) else 1), M) := by
      unfold mo_leastTime_24
      rw [if_neg (by decide), mr_ks h hn, hc]
      simp only [Option.bind_some, List.head?_cons, pb_zos]
      rw [mr_isNull h c hcd d (by omega)]
      simp only [Option.bind_some]
      cases hb : py_nu P c
      · simp only [pb_zbf, if_true, mr_nb h hn (.inr (.inr hk)), Option.bind_some, mr_fr h h5.2.1, mo_leastTime_64]
        have : (if 1 < nI (py_fr P (py_nb P n)) then nI (py_fr P (py_nb P n)) else 1) = nI (max 1 (py_fr P (py_nb P n))) := by
          exact pb_max (a := 1) (by omega) (by omega)
        rw [this]
        simp [hb]
      · simp [pb_zbt, mo_leastTime_63, mo_leastTime_64, hb, pb_n1]
    unfold mo_leastTime_b py_lt2 py_ps
    rw [h1]
    simp only [Option.bind_some]
    cases hb1 : py_pa P n V.2.2.1
    · simp only [pb_zbf, if_true, h2, Option.bind_some]
      cases hb2 : py_pa P n W.2.2.1
      · simp [pb_zbf, mo_leastTime_24, mo_leastTime_63, mo_leastTime_64, pb_n1]
      · rw [pb_zbt, if_neg (by decide)]
        unfold mo_leastTime_19
        rw [h24]
        simp
    · rw [pb_zbt, if_neg (by decide)]
      unfold mo_leastTime_19
      rw [h24]
      simp
theorem mr_canRound (h : mp_ok am M r P) (hw : mw_has am M l) (hv : l[v]? = some V) (hw2 : l[w]? = some W) (hV : py_wok P V) (hW : py_wok P W) (hd : 34 ≤ d) {n : Nat} (hn : py_dm P n) (hk : py_kd P n = 5) : mo_canRound d am (nI r) (nI n) (nI v) (nI w) M = some (zb (py_cr P n V W), M) := by
  have h5 := ok_k5 h.1 hn hk
  have hv1 := mw_lt hw hv
  have hw1 := mw_lt hw hw2
  have hz : z_in (nI v) 128 := nI_in (by omega) (by omega)
  have hz2 : z_in (nI w) 128 := nI_in (by omega) (by omega)
  have hV1 := (hw.2.2 v V hv).2.2.1
  have hW1 := (hw.2.2 w W hw2).2.2.1
  obtain ⟨a, ha, had⟩ := hV.2.1
  obtain ⟨b, hb, hbd⟩ := hW.2.1
  have ha4 := ok_400 h.1 had
  have hb4 := ok_400 h.1 hbd
  have hn4 := ok_400 h.1 hn
  have hfr := ok_fr h.1 h5.2.1
  cases d with
  | zero => omega
  | succ d =>
    show mo_canRound_b d am (nI r) (nI n) (nI v) (nI w) M = _
    have hl := mr_leastTime (d := d) h hw hv hw2 hV hW (by omega) hn hk
    have hlt : py_lt2 P n V W ≤ 12 := by
      unfold py_lt2
      split <;> omega
    have h34 : mo_canRound_34 d am (nI r) (nI n) (nI v) (nI w) (zo (py_to P (py_nb P n))) M = some (zb (match py_to P (py_nb P n) with
        | none => true
        | some t => decide (py_lt2 P n V W < t)), M) := by
      unfold mo_canRound_34
      cases ht : py_to P (py_nb P n) with
      | none => simp [pb_zon, mo_canRound_54, mo_canRound_59, zb]
      | some t =>
        have := ok_to h.1 h5.2.1 ht
        rw [pb_zos, if_neg (pb_ne1 (by omega)), hl]
        simp only [Option.bind_some]
        by_cases q : py_lt2 P n V W < t
        · rw [if_neg (nI_ge q (by omega))]
          simp [q, mo_canRound_54, mo_canRound_59, zb]
        · rw [if_pos (nI_le (by omega) (by omega))]
          simp [q, mo_canRound_59, zb]
    rw [ha] at hV1
    rw [hb] at hW1
    unfold mo_canRound_b py_cr
    simp only [mr_nb h hn (.inr (.inr hk)), Option.bind_some, mr_to h h5.2.1, ml_R24 h.2.1, ml_L24 h.2.1, if_pos hz, if_pos hz2, nI_clamp (show v < 2 ^ 31 by omega), nI_clamp (show w < 2 ^ 31 by omega), hV1, hW1, pb_zos, ha, hb]
    by_cases q : a = n
    · subst q
      rw [if_pos rfl, h34]
      simp
    · have hq : ¬ nI a = nI n := fun e => q ((nI_eq (by omega) (by omega)).mp e)
      rw [if_neg hq]
      by_cases q2 : b = n
      · subst q2
        rw [if_pos rfl, h34]
        simp
      · have hq2 : ¬ nI b = nI n := fun e => q2 ((nI_eq (by omega) (by omega)).mp e)
        rw [if_neg hq2]
        simp [q, q2, mo_canRound_54, mo_canRound_59, zb]
theorem mr_mustBeOver (h : mp_ok am M r P) (hw : mw_has am M l) (hv : l[v]? = some V) (hw2 : l[w]? = some W) (hV : py_wok P V) (hW : py_wok P W) (hd : 33 ≤ d) {n c own : Nat} (hn : py_dm P n) (hc : py_dm P c) (ho : py_dm P own) : mo_mustBeOver d am (nI r) (nI n) (nI c) (nI own) (nI v) (nI w) M = some (zb (py_mo P n c own V W), M) := by
  have hc4 := ok_400 h.1 hc
  have ho4 := ok_400 h.1 ho
  have hg := ok_hg30 h.1 hc
  cases d with
  | zero => omega
  | succ d =>
    show mo_mustBeOver_b d am (nI r) (nI n) (nI c) (nI own) (nI v) (nI w) M = _
    have h1 := mr_isPassed (d := d) h hw hv hV (by omega) hn
    have h2 := mr_isPassed (d := d) h hw hw2 hW (by omega) hn
    have h26 : mo_mustBeOver_26 d am (nI r) (nI c) M = some (zb (!py_nu P c), M) := by
      unfold mo_mustBeOver_26
      rw [mr_isNull h c hc d (by omega)]
      cases py_nu P c <;> simp [mo_mustBeOver_39, mo_mustBeOver_40, zb]
    unfold mo_mustBeOver_b py_mo py_ps
    by_cases q : c = own
    · subst q
      simp [mo_mustBeOver_39, mo_mustBeOver_40, zb]
    · have hq : ¬ nI c = nI own := fun e => q ((nI_eq (by omega) (by omega)).mp e)
      have e1 : (c != own) = true := by simpa using q
      rw [if_neg hq, h1, e1]
      simp only [Option.bind_some]
      cases hb1 : py_pa P n V.2.2.1
      · simp only [pb_zbf, if_true, h2, Option.bind_some]
        cases hb2 : py_pa P n W.2.2.1
        · simp [pb_zbf, mo_mustBeOver_39, mo_mustBeOver_40]
        · rw [pb_zbt, if_neg (by decide), h26]
          simp
      · rw [pb_zbt, if_neg (by decide), h26]
        simp
theorem mr_canPart_8 (h : mp_ok am M r P) (hw : mw_has am M l) (hv : l[v]? = some V) (hw2 : l[w]? = some W) (hV : py_wok P V) (hW : py_wok P W) (hd : 33 ≤ d) {n own : Nat} (hn : py_dm P n) (ho : py_dm P own) : ∀ (b a : List Nat), py_ks P n = a ++ b → ∀ fuel, b.length < fuel → mo_canPart_8 d fuel am (nI r) (nI n) (nI own) (nI v) (nI w) (zo b.head?) M = some (zb (b.all (fun c => !(py_mo P n c own V W && ((V.2.2.1 == some n && V.2.2.2 == c) || (W.2.2.1 == some n && W.2.2.2 == c))))), M) := by
  have hv1 := mw_lt hw hv
  have hw1 := mw_lt hw hw2
  have hz : z_in (nI v) 128 := nI_in (by omega) (by omega)
  have hz2 : z_in (nI w) 128 := nI_in (by omega) (by omega)
  have hV1 := (hw.2.2 v V hv).2.2
  have hW1 := (hw.2.2 w W hw2).2.2
  obtain ⟨x, hx, hxd⟩ := hV.2.1
  obtain ⟨y, hy, hyd⟩ := hW.2.1
  have hx4 := ok_400 h.1 hxd
  have hy4 := ok_400 h.1 hyd
  have hn4 := ok_400 h.1 hn
  have hi4 := ok_400 h.1 hV.2.2
  have hj4 := ok_400 h.1 hW.2.2
  rw [hx] at hV1
  rw [hy] at hW1
  intro b
  induction b with
  | nil =>
    intro a _ fuel hf
    cases fuel with
    | zero => cases hf
    | succ fuel => simp [mo_canPart_8, zo, zb]
  | cons c b ih =>
    intro a e fuel hf
    cases fuel with
    | zero => cases hf
    | succ fuel =>
      have hc : c ∈ py_ks P n := by rw [e]; simp
      have hcd := ok_kid h.1 hn hc
      have h4 := ok_400 h.1 hcd
      have ihc := ih (a ++ [c]) (by rw [e]; simp) fuel (by simp at hf; omega)
      have hne : ¬ nI c = -1 := pb_ne1 (by omega)
      have hmo := mr_mustBeOver (d := d) h hw hv hw2 hV hW (by omega) hn hcd ho
      have h78 : mo_canPart_78 (fun p0 p1 p2 p3 p4 p5 p6 m => mo_canPart_8 d fuel p0 p1 p2 p3 p4 p5 p6 m) d am (nI r) (nI n) (nI own) (nI v) (nI w) (nI c) M = some (zb (b.all (fun c => !(py_mo P n c own V W && ((V.2.2.1 == some n && V.2.2.2 == c) || (W.2.2.1 == some n && W.2.2.2 == c))))), M) := by
        unfold mo_canPart_78
        rw [mr_nx h hn e]
        exact ihc
      have eV : (nI x = nI n) ↔ x = n := nI_eq (by omega) (by omega)
      have eW : (nI y = nI n) ↔ y = n := nI_eq (by omega) (by omega)
      have eVi : (nI V.2.2.2 = nI c) ↔ V.2.2.2 = c := nI_eq (by omega) (by omega)
      have eWi : (nI W.2.2.2 = nI c) ↔ W.2.2.2 = c := nI_eq (by omega) (by omega)
      have h53 : mo_canPart_53 (fun p0 p1 p2 p3 p4 p5 p6 m => mo_canPart_8 d fuel p0 p1 p2 p3 p4 p5 p6 m) d am (nI r) (nI n) (nI own) (nI v) (nI w) (nI c) M = some (zb (!(W.2.2.1 == some n && W.2.2.2 == c) && b.all (fun c => !(py_mo P n c own V W && ((V.2.2.1 == some n && V.2.2.2 == c) || (W.2.2.1 == some n && W.2.2.2 == c))))), M) := by
        unfold mo_canPart_53
        simp only [ml_R24 h.2.1, ml_L24 h.2.1, ml_R25 h.2.1, ml_L25 h.2.1, if_pos hz2, nI_clamp (show w < 2 ^ 31 by omega), hW1.1, hW1.2, pb_zos, eW, eWi, h78]
        by_cases q : y = n
        · by_cases q2 : W.2.2.2 = c
          · have e1 : (W.2.2.1 == some n && W.2.2.2 == c) = true := by simp [hy, q, q2]
            rw [if_pos q, if_pos q2, e1]
            simp [mo_canPart_76, zb]
          · have e1 : (W.2.2.1 == some n && W.2.2.2 == c) = false := by simp [hy, q, q2]
            rw [if_pos q, if_neg q2, e1]
            simp
        · have e1 : (W.2.2.1 == some n && W.2.2.2 == c) = false := by simp [hy, q]
          rw [if_neg q, e1]
          simp
      simp only [mo_canPart_8, pb_zos, List.head?_cons, if_neg hne, hmo, Option.bind_some, List.all_cons]
      cases hb : py_mo P n c own V W
      · simp only [pb_zbf, if_true, h78]
        simp
      · rw [pb_zbt, if_neg (by decide)]
        simp only [ml_R24 h.2.1, ml_L24 h.2.1, ml_R25 h.2.1, ml_L25 h.2.1, if_pos hz, nI_clamp (show v < 2 ^ 31 by omega), hV1.1, hV1.2, pb_zos, eV, eVi, h53]
        by_cases q : x = n
        · by_cases q2 : V.2.2.2 = c
          · have e1 : (V.2.2.1 == some n && V.2.2.2 == c) = true := by simp [hx, q, q2]
            rw [if_pos q, if_pos q2, e1]
            simp [mo_canPart_76, zb]
          · have e1 : (V.2.2.1 == some n && V.2.2.2 == c) = false := by simp [hx, q, q2]
            rw [if_pos q, if_neg q2, e1]
            simp
        · have e1 : (V.2.2.1 == some n && V.2.2.2 == c) = false := by simp [hx, q]
          rw [if_neg q, e1]
          simp
theorem mr_canPart (h : mp_ok am M r P) (hw : mw_has am M l) (hv : l[v]? = some V) (hw2 : l[w]? = some W) (hV : py_wok P V) (hW : py_wok P W) (hd : 34 ≤ d) {n own : Nat} (hn : py_dm P n) (ho : py_dm P own) : mo_canPart d am (nI r) (nI n) (nI own) (nI v) (nI w) M = some (zb (py_cp P n own V W), M) := by
  have hln2 := ok_ln h.1 hn
  have hLF := pb_LF
  cases d with
  | zero => omega
  | succ d =>
    show mo_canPart_b d am (nI r) (nI n) (nI own) (nI v) (nI w) M = _
    unfold mo_canPart_b
    rw [mr_ks h hn]
    simp only [Option.bind_some]
    exact mr_canPart_8 (d := d) h hw hv hw2 hV hW (by omega) hn ho (py_ks P n) [] rfl zLF (by omega)
theorem mr_areBoth_52 (h : mp_ok am M r P) (hw : mw_has am M l) (hv : l[v]? = some V) (hw2 : l[w]? = some W) (hV : py_wok P V) (hW : py_wok P W) (hd : 34 ≤ d) : ∀ x, py_dm P x → ∀ fuel, py_hg P (py_rt P) - py_hg P x < fuel → mo_areBoth_52 d fuel am (nI r) (nI v) (nI w) (nI x) (zo (py_up P x)) M = some (zb (py_bo P V W x), M) := by
  refine ok_climb h.1 _ ?_ ?_
  · intro fuel hf
    cases fuel with
    | zero => omega
    | succ fuel => simp [mo_areBoth_52, ok_up0 h.1, pb_zon, bo_rt h.1, zb]
  · intro x p hx e ih fuel hf
    have hp := ok_pdm h.1 hx e
    have h4 := ok_400 h.1 hp
    have hne : ¬ nI p = -1 := pb_ne1 (by omega)
    have h5 := ok_uphg h.1 hx e
    have h6 := ok_top h.1 hp
    cases fuel with
    | zero => omega
    | succ fuel =>
      have ih' := ih fuel (by omega)
      rw [bo_up h.1 hx e]
      rcases ok_kd6 h.1 hp with q | q | q | q | q | q
      · simp [mo_areBoth_52, e, pb_zos, hne, mr_kd h hp, q, pb_n0, mo_areBoth_84, mo_areBoth_112, mr_up h hp, ih']
      · simp [mo_areBoth_52, e, pb_zos, hne, mr_kd h hp, q, pb_n1, mo_areBoth_84, mo_areBoth_112, mr_up h hp, ih']
      · simp [mo_areBoth_52, e, pb_zos, hne, mr_kd h hp, q, pb_n2, mo_areBoth_84, mo_areBoth_112, mr_up h hp, ih']
      · simp [mo_areBoth_52, e, pb_zos, hne, mr_kd h hp, q, pb_n3, mo_areBoth_84, mo_areBoth_112, mr_up h hp, ih']
      · have hcp := mr_canPart (d := d) h hw hv hw2 hV hW hd hp hx
        cases hb : py_cp P p x V W
        · simp [mo_areBoth_52, e, pb_zos, hne, mr_kd h hp, q, pb_n4, mo_areBoth_84, mo_areBoth_112, mr_up h hp, ih', hcp, hb, pb_zbf]
        · simp [mo_areBoth_52, e, pb_zos, hne, mr_kd h hp, q, pb_n4, mo_areBoth_84, mo_areBoth_112, mr_up h hp, ih', hcp, hb, pb_zbt]
      · have hcr := mr_canRound (d := d) h hw hv hw2 hV hW hd hp q
        cases hb : py_cr P p V W
        · simp [mo_areBoth_52, e, pb_zos, hne, mr_kd h hp, q, pb_n5, hcr, hb, pb_zbf]
        · simp [mo_areBoth_52, e, pb_zos, hne, mr_kd h hp, q, pb_n5, mo_areBoth_84, mo_areBoth_112, mr_up h hp, ih', hcr, hb, pb_zbt]
theorem mr_areBoth (h : mp_ok am M r P) (hw : mw_has am M l) (hv : l[v]? = some V) (hw2 : l[w]? = some W) (hd : 35 ≤ d) {p : Option Nat} (hp : ∀ o, p = some o → o < py_nl P) (hV0 : V.1 < py_nl P) (hW0 : W.1 < py_nl P) (hVW : ∀ o, p = some o → py_wok P V ∧ py_wok P W) : mo_areBoth d am (nI r) (zo p) (nI v) (nI w) M = some (zb (py_both P p V W), M) := by
  have hv1 := mw_lt hw hv
  have hw1 := mw_lt hw hw2
  have hz : z_in (nI v) 128 := nI_in (by omega) (by omega)
  have hz2 : z_in (nI w) 128 := nI_in (by omega) (by omega)
  have hV1 := (hw.2.2 v V hv).1
  have hW1 := (hw.2.2 w W hw2).1
  have ht := ok_lt h.1 hV0
  have ht2 := ok_lt h.1 hW0
  have et : (nI (py_lt P V.1) = nI (py_lt P W.1)) ↔ py_lt P V.1 = py_lt P W.1 := nI_eq (by omega) (by omega)
  cases d with
  | zero => omega
  | succ d =>
    show mo_areBoth_b d am (nI r) (zo p) (nI v) (nI w) M = _
    unfold mo_areBoth_b py_both
    simp only [ml_R22 h.2.1, ml_L22 h.2.1, if_pos hz, if_pos hz2, nI_clamp (show v < 2 ^ 31 by omega), nI_clamp (show w < 2 ^ 31 by omega), hV1, hW1, mr_lt h hV0, mr_lt h hW0, Option.bind_some, et]
    by_cases q : py_lt P V.1 = py_lt P W.1
    · cases p with
      | none => simp [q, pb_zon, zb]
      | some o =>
        have ho := hp o rfl
        have hl := ok_lf h.1 ho
        have hnl := ok_nl h.1
        have hvw := hVW o rfl
        have hne : ¬ nI o = -1 := pb_ne1 (by omega)
        have hLF := pb_LF
        have hh := ok_hg h.1
        have h52 := mr_areBoth_52 (d := d) h hw hv hw2 hvw.1 hvw.2 (by omega) _ hl zLF (by omega)
        simp [q, pb_zos, hne, mr_lf h ho, mr_up h hl, h52]
    · simp [q, zb]
end
