/-! RUNS WITHIN A NODE -/
/-- ways that turn within x; whether x can be gone out of -/
def py_avx (P : yP) (s : yS) (x y : Nat) : List yW := py_ur P (fun k o => if k = x then [] else py_avl P s k ++ (match py_up P k with
  | none => []
  | some p => if py_pst P k && py_cl P s p then o.getD [] else [])) y
def py_ex (P : yP) (s : yS) (x y : Nat) : Bool := py_ur P (fun k o => k == x || (match py_up P k with
  | none => false
  | some p => (py_pst P k && py_cl P s p) && o.getD false)) y
def py_F (P : yP) (x : Nat) : Nat → yS → Nat
  | 0, s => match s.1 with
    | none => 0
    | some o => if py_ex P s x (py_lf P o) then 1 else 0
  | k + 1, s => match s.1 with
    | none => 0
    | some o => sl (fun W => py_F P x k (py_go P s W)) (py_avx P s x (py_lf P o))
/-- alike within x -/
def py_sg (P : yP) (x : Nat) (s t : yS) : Prop := t.1 = s.1 ∧ ∀ o, s.1 = some o → (∀ c, c < py_nc P → py_wi P x (py_cn P c) = true → py_wi P (py_cn P c) (py_lf P o) = true → t.2.1 c = s.2.1 c) ∧ (∀ a, a < py_na P → py_wi P x (py_an P a) = true → py_wi P (py_an P a) (py_lf P o) = true → t.2.2 a = s.2.2 a)
section
variable {P : yP} {s t : yS}
theorem avx_self (h : py_ok P) {x : Nat} (hx : py_dm P x) : py_avx P s x x = [] := by
  unfold py_avx
  cases hp : py_up P x with
  | none =>
    rw [ok_no h hx hp, ur_rt h, if_pos rfl]
  | some p => rw [ur_up h hx hp, if_pos rfl]
theorem avx_up (h : py_ok P) {x y p : Nat} (hy : py_dm P y) (e : py_up P y = some p) (hne : y ≠ x) : py_avx P s x y = py_avl P s y ++ (if py_pst P y && py_cl P s p then py_avx P s x p else []) := by
  unfold py_avx
  rw [ur_up h hy e, if_neg hne]
  simp only [e, Option.getD_some]
theorem ex_self (h : py_ok P) {x : Nat} (hx : py_dm P x) : py_ex P s x x = true := by
  unfold py_ex
  cases hp : py_up P x with
  | none =>
    rw [ok_no h hx hp, ur_rt h]
    simp
  | some p =>
    rw [ur_up h hx hp]
    simp
theorem ex_up (h : py_ok P) {x y p : Nat} (hy : py_dm P y) (e : py_up P y = some p) (hne : y ≠ x) : py_ex P s x y = ((py_pst P y && py_cl P s p) && py_ex P s x p) := by
  unfold py_ex
  rw [ur_up h hy e]
  have : (y == x) = false := by simpa using hne
  simp only [this, e, Option.getD_some, Bool.false_or]
/-- up to x, then on to the node above it -/
theorem avx_split (h : py_ok P) {x p : Nat} (hx : py_dm P x) (e : py_up P x = some p) : ∀ y, py_dm P y → py_wi P x y = true → py_avx P s p y = py_avx P s x y ++ (if py_ex P s x y then py_avl P s x else []) ∧ py_ex P s p y = (py_ex P s x y && (py_pst P x && py_cl P s p)) := by
  have hp := ok_pdm h hx e
  have hxp : x ≠ p := by
    intro q
    have := ok_uphg h hx e
    rw [q] at this
    omega
  refine ok_climb h _ ?_ ?_
  · intro hw
    by_cases q : py_rt P = x
    · rw [← q, ok_up0 h] at e; cases e
    · rw [wi_rt h q] at hw; cases hw
  · intro y q hy ey ih hw
    by_cases qx : y = x
    · subst qx
      rw [avx_up h hy e hxp, avx_self h hy, ex_self h hy, ex_up h hy e hxp, avx_self h hp, ex_self h hp]
      simp
    · have hwq : py_wi P x q = true := by rw [← wi_up h hy ey qx]; exact hw
      obtain ⟨i1, i2⟩ := ih hwq
      have hyp : y ≠ p := by
        intro q2
        have h1 := wi_hg h y hy hw
        have := ok_uphg h hx e
        rw [q2] at h1
        omega
      rw [avx_up h hy ey hyp, avx_up h hy ey qx, ex_up h hy ey hyp, ex_up h hy ey qx, i1, i2]
      cases (py_pst P y && py_cl P s q) <;> cases py_ex P s x q <;> simp
theorem avx_ava (h : py_ok P) : ∀ y, py_dm P y → py_avx P s (py_rt P) y = py_ava P s y ∧ py_ex P s (py_rt P) y = (py_lx P y && py_be P s y) := by
  refine ok_climb h _ ?_ ?_
  · rw [avx_self h (ok_rt h), ava_rt h, ex_self h (ok_rt h), ce_rt h]
    exact ⟨rfl, rfl⟩
  · intro y p hy e ih
    have hne : y ≠ py_rt P := by intro q; rw [q, ok_up0 h] at e; cases e
    rw [avx_up h hy e hne, ava_up h hy e, ih.1, ex_up h hy e hne, ce_up h hy e, ih.2]
    exact ⟨rfl, rfl⟩
theorem F_pn (h : py_ok P) : ∀ (k : Nat) (s : yS) (o : Nat), s.1 = some o → o < py_nl P → py_F P (py_rt P) k s = py_pn P k s := by
  intro k
  induction k with
  | zero =>
    intro s o hs ho
    show (match s.1 with
      | none => 0
      | some o => if py_ex P s (py_rt P) (py_lf P o) then 1 else 0) = if py_ce P s then 1 else 0
    rw [hs]
    simp only
    rw [(avx_ava h (py_lf P o) (ok_lf h ho)).2]
    unfold py_ce
    rw [hs]
  | succ k ih =>
    intro s o hs ho
    have hv : ∀ o', s.1 = some o' → o' < py_nl P := fun o' e => by rw [hs] at e; injection e with e; omega
    show (match s.1 with
      | none => 0
      | some o => sl (fun W => py_F P (py_rt P) k (py_go P s W)) (py_avx P s (py_rt P) (py_lf P o))) = sl (fun W => py_pn P k (py_go P s W)) (py_avs P s)
    rw [hs]
    simp only
    rw [(avx_ava h (py_lf P o) (ok_lf h ho)).1, ← avs_eq h ho hs]
    refine sl_ext ?_
    intro W hW
    exact ih _ W.1 rfl (avs_lt h hv hW).1
/-- where a way within x leads -/
theorem avx_mem (h : py_ok P) {x : Nat} : ∀ y, py_dm P y → py_wi P x y = true → ∀ W, W ∈ py_avx P s x y → W ∈ py_ava P s y ∧ ∃ a, W.2.2.1 = some a ∧ py_dm P a ∧ py_wi P x a = true ∧ W.2.2.2 ∈ py_ks P a ∧ W.1 < py_nl P := by
  refine ok_climb h _ ?_ ?_
  · intro hw W hW
    by_cases q : py_rt P = x
    · rw [← q, avx_self h (ok_rt h)] at hW; cases hW
    · rw [wi_rt h q] at hw; cases hw
  · intro y p hy e ih hw W hW
    have hp := ok_pdm h hy e
    by_cases qx : y = x
    · subst qx
      rw [avx_self h hy] at hW; cases hW
    · have hwp : py_wi P x p = true := by rw [← wi_up h hy e qx]; exact hw
      rw [avx_up h hy e qx] at hW
      rw [ava_up h hy e]
      rcases List.mem_append.mp hW with q | q
      · refine ⟨List.mem_append.mpr (.inl q), p, ?_⟩
        have hl := (List.mem_filter.mp q).1
        obtain ⟨k1, k2, k3, k4, _⟩ := lv_what h hy e hl
        exact ⟨k1, hp, hwp, k4, k2⟩
      · by_cases qc : (py_pst P y && py_cl P s p) = true
        · rw [if_pos qc] at q
          obtain ⟨k1, k2⟩ := ih hwp W q
          exact ⟨List.mem_append.mpr (.inr (by rw [if_pos qc]; exact k1)), k2⟩
        · rw [if_neg qc] at q; cases q
theorem sg_cl (h : py_ok P) {x n o : Nat} (hg : py_sg P x s t) (hs : s.1 = some o) (hn : py_dm P n) (hxn : py_wi P x n = true) (hw : py_wi P n (py_lf P o) = true) : py_cl P t n = py_cl P s n ∧ ∀ c, py_gt P t n c = py_gt P s n c := by
  unfold py_cl py_gt
  rcases ok_kd6 h hn with hk | hk | hk | hk | hk | hk
  · exact ⟨by rw [if_neg (by omega), if_neg (by omega), if_neg (by omega), if_neg (by omega)], fun c => by rw [if_neg (by omega), if_neg (by omega), if_neg (by omega), if_neg (by omega)]⟩
  · exact ⟨by rw [if_neg (by omega), if_neg (by omega), if_neg (by omega), if_neg (by omega)], fun c => by rw [if_neg (by omega), if_neg (by omega), if_neg (by omega), if_neg (by omega)]⟩
  · exact ⟨by rw [if_neg (by omega), if_neg (by omega), if_neg (by omega), if_neg (by omega)], fun c => by rw [if_neg (by omega), if_neg (by omega), if_neg (by omega), if_neg (by omega)]⟩
  · exact ⟨by rw [if_neg (by omega), if_neg (by omega), if_neg (by omega), if_neg (by omega)], fun c => by rw [if_neg (by omega), if_neg (by omega), if_neg (by omega), if_neg (by omega)]⟩
  · obtain ⟨_, _, k4c, k4d⟩ := ok_k4 h hn hk
    have e := (hg.2 o hs).2 (py_nb P n) k4c (by rw [k4d]; exact hxn) (by rw [k4d]; exact hw)
    exact ⟨by rw [if_neg (by omega), if_pos hk, if_neg (by omega), if_pos hk, e], fun c => by rw [if_pos hk, if_pos hk, e]⟩
  · obtain ⟨_, k5b, k5c⟩ := ok_k5 h hn hk
    have e := (hg.2 o hs).1 (py_nb P n) k5b (by rw [k5c]; exact hxn) (by rw [k5c]; exact hw)
    exact ⟨by rw [if_pos hk, if_pos hk, e], fun c => by rw [if_neg (by omega), if_pos hk, if_neg (by omega), if_pos hk, e]⟩
theorem sg_avx (h : py_ok P) {x o : Nat} (hg : py_sg P x s t) (hs : s.1 = some o) (ho : o < py_nl P) : ∀ y, py_dm P y → py_wi P x y = true → py_wi P y (py_lf P o) = true → py_avx P t x y = py_avx P s x y ∧ py_ex P t x y = py_ex P s x y := by
  refine ok_climb h _ ?_ ?_
  · intro hw _
    by_cases q : py_rt P = x
    · rw [← q, avx_self h (ok_rt h), avx_self h (ok_rt h), ex_self h (ok_rt h), ex_self h (ok_rt h)]
      exact ⟨rfl, rfl⟩
    · rw [wi_rt h q] at hw; cases hw
  · intro y p hy e ih hw hwo
    have hp := ok_pdm h hy e
    by_cases qx : y = x
    · subst qx
      rw [avx_self h hy, avx_self h hy, ex_self h hy, ex_self h hy]
      exact ⟨rfl, rfl⟩
    · have hwp : py_wi P x p = true := by rw [← wi_up h hy e qx]; exact hw
      have hpo : py_wi P p (py_lf P o) = true := wi_kid h hp (ok_pks h hy e) _ (ok_lf h ho) hwo
      obtain ⟨i1, i2⟩ := ih hwp hpo
      obtain ⟨c1, c2⟩ := sg_cl h hg hs hp hwp hpo
      have hav : py_avl P t y = py_avl P s y := by
        rw [avl_eq h hy e, avl_eq h hy e]
        refine List.filter_congr ?_
        intro W _
        rw [c2]
      rw [avx_up h hy e qx, avx_up h hy e qx, ex_up h hy e qx, ex_up h hy e qx, hav, c1, i1, i2]
      exact ⟨rfl, rfl⟩
theorem go_beg (hP : py_ok P) (hv : ∀ o, s.1 = some o → o < py_nl P) {W : yW} (hW : W ∈ py_ways P s.1) {n k : Nat} (hk : py_dm P k) (e : py_up P k = some n) (h4 : py_kd P n = 4) (hw : py_wi P k (py_lf P W.1) = true) : (py_go P s W).2.2 (py_nb P n) = if py_pa P n W.2.2.1 = true then zbit (py_bf (py_ks P n) k).length else if W.2.2.1 = some n then s.2.2 (py_nb P n) ||| zbit (py_bf (py_ks P n) W.2.2.2).length else s.2.2 (py_nb P n) := by
  have hn := ok_pdm hP hk e
  obtain ⟨_, _, k4c, k4d⟩ := ok_k4 hP hn h4
  obtain ⟨h1, hnone, hsome⟩ := go_way hP hv hW
  have hlq := ok_lf hP h1
  have hwn : py_wi P n (py_lf P W.1) = true := wi_kid hP hn (ok_pks hP hk e) _ hlq hw
  have hge := go_eq hP hv hW (t := s) (fun o _ => ⟨fun _ _ _ => rfl, fun _ _ _ => rfl⟩)
  rw [← hge.2 (py_nb P n) k4c (by rw [k4d]; exact hwn)]
  have hab : ∀ b, W.2.2.1 = some b → py_wi P b (py_lf P W.1) = true ∧ b ≠ py_lf P W.1 := by
    intro b hb
    cases hs : s.1 with
    | none => rw [hnone hs] at hb; cases hb
    | some o =>
      obtain ⟨a, g1, _, _, _, _, g6⟩ := hsome o hs
      rw [g1] at hb
      injection hb with hb
      rw [← hb]
      exact g6
  have hpt := fun n k => pt_mem (n := n) (k := k) hP (py_lf P W.1) hlq hab
  have hen : (py_en P s W.2.2.1 W.1).2.2 (py_nb P n) = if py_pa P n W.2.2.1 = true then zbit (py_bf (py_ks P n) k).length else s.2.2 (py_nb P n) := by
    unfold py_en
    have same : ∀ x, x ∈ py_pt P W.2.2.1 (py_lf P W.1) → py_kd P x.1 = 4 → py_nb P x.1 = py_nb P n → x.1 = n ∧ x.2 = k := by
      intro x hx hx4 hxn
      have hm := (hpt x.1 x.2).mp hx
      have hxd := ok_pdm hP hm.1 hm.2.1
      have := (ok_k4 hP hxd hx4).2.2.2
      rw [hxn, k4d] at this
      refine ⟨this.symm, ?_⟩
      have hm2 := hm.2.1
      rw [← this] at hm2
      exact wi_uniq hP hn (ok_pks hP hm.1 hm2) (ok_pks hP hk e) _ hlq hm.2.2.1 hw
    rw [f1_b (P := P) (py_nb P n) (v := zbit (py_bf (py_ks P n) k).length) _ _ (by
      intro x hx hx4 hxn
      obtain ⟨e1, e2⟩ := same x hx hx4 hxn
      rw [e1, e2])]
    have : (∃ x, x ∈ py_pt P W.2.2.1 (py_lf P W.1) ∧ py_kd P x.1 = 4 ∧ py_nb P x.1 = py_nb P n) ↔ py_pa P n W.2.2.1 = true := by
      constructor
      · rintro ⟨x, g1, g2, g3⟩
        obtain ⟨e1, _⟩ := same x g1 g2 g3
        have hm := (hpt x.1 x.2).mp g1
        rw [e1] at hm
        exact hm.2.2.2
      · intro hp
        exact ⟨(n, k), (hpt _ _).mpr ⟨hk, e, hw, hp⟩, h4, rfl⟩
    by_cases g : py_pa P n W.2.2.1 = true
    · rw [if_pos g, if_pos (this.mpr g)]
    · rw [if_neg g, if_neg (fun y => g (this.mp y))]
  have hs2 : ∀ u : yS, (py_s2 P u W.2.2.1 W.2.2.2).2.2 (py_nb P n) = if W.2.2.1 = some n then u.2.2 (py_nb P n) ||| zbit (py_bf (py_ks P n) W.2.2.2).length else u.2.2 (py_nb P n) := by
    intro u
    unfold py_s2
    cases ha : W.2.2.1 with
    | none => simp
    | some a =>
      have had : py_dm P a := by
        cases hs : s.1 with
        | none => rw [hnone hs] at ha; cases ha
        | some o =>
          obtain ⟨a', g1, g2, _⟩ := hsome o hs
          rw [g1] at ha
          injection ha with ha
          rw [← ha]
          exact g2
      simp only
      by_cases q5 : py_kd P a = 5
      · rw [if_pos q5, if_neg (fun e => by injection e with e; rw [e] at q5; omega)]
      · rw [if_neg q5]
        by_cases q4 : py_kd P a = 4
        · rw [if_pos q4]
          show py_u u.2.2 (py_nb P a) _ (py_nb P n) = _
          unfold py_u
          by_cases qn : a = n
          · subst qn
            rw [if_pos rfl, if_pos rfl]
          · have : py_nb P n ≠ py_nb P a := by
              intro e2
              have h1 := (ok_k4 hP had q4).2.2.2
              rw [← e2, k4d] at h1
              exact qn h1.symm
            rw [if_neg this, if_neg (fun e => by injection e with e; exact qn e)]
        · rw [if_neg q4, if_neg (fun e => by injection e with e; rw [e] at q4; exact q4 h4)]
  show (py_s2 P (py_en P s W.2.2.1 W.1) W.2.2.1 W.2.2.2).2.2 (py_nb P n) = _
  rw [hs2, hen]
  by_cases q : W.2.2.1 = some n
  · have hpa : py_pa P n W.2.2.1 = false := by rw [q]; exact pa_self n
    rw [if_pos q, if_pos q, hpa]
    rfl
  · rw [if_neg q, if_neg q]
end
