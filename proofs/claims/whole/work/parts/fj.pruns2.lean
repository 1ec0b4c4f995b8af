/-! RUNS WITHIN A NODE, from its kid on -/
/-- a letter is taken anew, all around it begins -/
def py_S (P : yP) (q : Nat) : yS := (some q, fun _ => 1, fun a => match (py_ks P (py_an P a)).find? (fun k => py_wi P k (py_lf P q)) with
  | none => 0
  | some k => zbit (py_bf (py_ks P (py_an P a)) k).length)
/-- a part of p is entered -/
def py_ov (P : yP) (p : Nat) (s : yS) (W : yW) : yS := (some W.1, fun k => if py_kd P p = 5 ∧ k = py_nb P p then s.2.1 k + 1 else (py_S P W.1).2.1 k, fun a => if py_kd P p = 4 ∧ a = py_nb P p then s.2.2 a ||| zbit (py_bf (py_ks P p) W.2.2.2).length else (py_S P W.1).2.2 a)
/-- how p can go on behind its kid x -/
def py_J (P : yP) (p x : Nat) (s : yS) : Nat → Nat
  | 0 => if py_pst P x && py_cl P s p then 1 else 0
  | j + 1 => sl (fun W => py_F P p j (py_ov P p s W)) (py_avl P s x)
def py_N (P : yP) (x : Nat) : Nat → Nat
  | 0 => 0
  | k + 1 => sl (fun q => py_F P x k (py_S P q)) (py_fl P x)
section
variable {P : yP} {s t : yS}
theorem S_beg (hP : py_ok P) {q n k : Nat} (hq : q < py_nl P) (hk : py_dm P k) (e : py_up P k = some n) (h4 : py_kd P n = 4) (hw : py_wi P k (py_lf P q) = true) : (py_S P q).2.2 (py_nb P n) = zbit (py_bf (py_ks P n) k).length := by
  have hn := ok_pdm hP hk e
  have k4d := (ok_k4 hP hn h4).2.2.2
  have hkm := ok_pks hP hk e
  show (match (py_ks P (py_an P (py_nb P n))).find? (fun k => py_wi P k (py_lf P q)) with
    | none => 0
    | some k => zbit (py_bf (py_ks P (py_an P (py_nb P n))) k).length) = _
  rw [k4d]
  cases hf : (py_ks P n).find? (fun k => py_wi P k (py_lf P q)) with
  | none =>
    have := List.find?_eq_none.mp hf k hkm
    exact absurd hw this
  | some k' =>
    have h1 := List.find?_some hf
    have h2 := List.mem_of_find?_eq_some hf
    have : k' = k := wi_uniq hP hn h2 hkm _ (ok_lf hP hq) h1 hw
    rw [this]
theorem avx_new (hP : py_ok P) {x o : Nat} (hs : s.1 = some o) (ho : o < py_nl P) (hx : py_wi P x (py_lf P o) = true) {W : yW} (hW : W ∈ py_avx P s x (py_lf P o)) : W ∈ py_ways P s.1 ∧ W.1 < py_nl P ∧ py_wi P x (py_lf P W.1) = true ∧ ∃ a, W.2.2.1 = some a ∧ py_dm P a ∧ py_wi P x a = true := by
  have hv : ∀ o', s.1 = some o' → o' < py_nl P := fun o' e => by rw [hs] at e; injection e with e; omega
  obtain ⟨k1, a, k2, k3, k4, k5, k6⟩ := avx_mem hP (py_lf P o) (ok_lf hP ho) hx W hW
  rw [← avs_eq hP ho hs] at k1
  have hm := (avs_lt hP hv k1).2
  obtain ⟨_, _, hsome⟩ := go_way hP hv hm
  obtain ⟨a', g1, g2, g3, g4, g5, g6⟩ := hsome o hs
  rw [k2] at g1
  injection g1 with g1
  subst g1
  exact ⟨hm, k6, wi_tr hP _ (ok_lf hP k6) g6.1 k4, a, k2, k3, k4⟩
theorem sg_go (hP : py_ok P) {x o : Nat} (hg : py_sg P x s t) (hs : s.1 = some o) (ho : o < py_nl P) {W : yW} (hW : W ∈ py_ways P s.1) : py_sg P x (py_go P s W) (py_go P t W) := by
  have hv : ∀ o', s.1 = some o' → o' < py_nl P := fun o' e => by rw [hs] at e; injection e with e; omega
  have hvt : ∀ o', t.1 = some o' → o' < py_nl P := by rw [hg.1]; exact hv
  have hWt : W ∈ py_ways P t.1 := by rw [hg.1]; exact hW
  refine ⟨rfl, ?_⟩
  intro o' ho'
  have ho' : some W.1 = some o' := ho'
  injection ho' with ho'
  subst ho'
  have h1 := (go_way hP hv hW).1
  refine ⟨?_, ?_⟩
  · intro c hc hxc hw
    rw [go_time hP hv hW hc hw, go_time hP hvt hWt hc hw]
    cases hp : py_pa P (py_cn P c) W.2.2.1
    · obtain ⟨o2, hs2, hwo⟩ := go_old hP hv hW hw hp
      rw [(hg.2 o2 hs2).1 c hc hxc hwo]
    · simp
  · intro a ha hxa hw
    have hk4 := ok_ank hP ha
    have hnn := ok_ann hP ha
    obtain ⟨k, m1, m2, m3⟩ := wi_dn hP _ (ok_lf hP h1) hw (lf_ne hP h1 (.inl hk4))
    have e1 := go_beg hP hv hW m1 m2 hk4 m3
    have e2 := go_beg hP hvt hWt m1 m2 hk4 m3
    rw [hnn] at e1 e2
    rw [e1, e2]
    cases hp : py_pa P (py_an P a) W.2.2.1
    · obtain ⟨o2, hs2, hwo⟩ := go_old hP hv hW hw hp
      rw [(hg.2 o2 hs2).2 a ha hxa hwo]
    · simp
theorem F_sg (hP : py_ok P) {x : Nat} : ∀ (k : Nat) (s t : yS) (o : Nat), py_sg P x s t → s.1 = some o → o < py_nl P → py_wi P x (py_lf P o) = true → py_F P x k t = py_F P x k s := by
  intro k
  induction k with
  | zero =>
    intro s t o hg hs ho hx
    have hlf := ok_lf hP ho
    have h1 := (sg_avx hP hg hs ho (py_lf P o) hlf hx (wi_self hP hlf)).2
    show (match t.1 with
      | none => 0
      | some o => if py_ex P t x (py_lf P o) then 1 else 0) = (match s.1 with
      | none => 0
      | some o => if py_ex P s x (py_lf P o) then 1 else 0)
    rw [hg.1, hs]
    simp only
    rw [h1]
  | succ k ih =>
    intro s t o hg hs ho hx
    have hlf := ok_lf hP ho
    have h1 := (sg_avx hP hg hs ho (py_lf P o) hlf hx (wi_self hP hlf)).1
    show (match t.1 with
      | none => 0
      | some o => sl (fun W => py_F P x k (py_go P t W)) (py_avx P t x (py_lf P o))) = (match s.1 with
      | none => 0
      | some o => sl (fun W => py_F P x k (py_go P s W)) (py_avx P s x (py_lf P o)))
    rw [hg.1, hs]
    simp only
    rw [h1]
    refine sl_ext ?_
    intro W hW
    obtain ⟨w1, w2, w3, _⟩ := avx_new hP hs ho hx hW
    exact ih _ _ W.1 (sg_go hP hg hs ho w1) rfl w2 w3
/-- a way at p: what it begins, and p's own -/
theorem ov_sg (hP : py_ok P) {p x o : Nat} (hx : py_dm P x) (e : py_up P x = some p) (hs : s.1 = some o) (ho : o < py_nl P) {W : yW} (hW : W ∈ py_ways P s.1) (hat : W.2.2.1 = some p) : py_sg P p (py_go P s W) (py_ov P p s W) := by
  have hv : ∀ o', s.1 = some o' → o' < py_nl P := fun o' e => by rw [hs] at e; injection e with e; omega
  have hp := ok_pdm hP hx e
  have h1 := (go_way hP hv hW).1
  refine ⟨rfl, ?_⟩
  intro o' ho'
  have ho' : some W.1 = some o' := ho'
  injection ho' with ho'
  subst ho'
  refine ⟨?_, ?_⟩
  · intro c hc hxc hw
    rw [go_time hP hv hW hc hw, hat]
    have hkn := ok_cnk hP hc
    have hnn := ok_cnn hP hc
    show (if py_kd P p = 5 ∧ c = py_nb P p then s.2.1 c + 1 else 1) = _
    by_cases q : py_cn P c = p
    · rw [if_pos ⟨by rw [← q]; exact hkn, by rw [← q]; exact hnn.symm⟩, q, pa_self, if_neg (by decide), if_pos rfl]
    · have hpa : py_pa P (py_cn P c) (some p) = true := by
        show (p != py_cn P c && py_wi P p (py_cn P c)) = true
        rw [hxc, Bool.and_true]
        simpa using fun h => q h.symm
      rw [if_pos hpa, if_neg]
      rintro ⟨h5, hcn⟩
      have := (ok_k5 hP hp h5).2.2
      rw [← hcn] at this
      exact q this
  · intro a ha hxa hw
    have hk4 := ok_ank hP ha
    have hnn := ok_ann hP ha
    obtain ⟨k, m1, m2, m3⟩ := wi_dn hP _ (ok_lf hP h1) hw (lf_ne hP h1 (.inl hk4))
    have e1 := go_beg hP hv hW m1 m2 hk4 m3
    have e2 := S_beg hP h1 m1 m2 hk4 m3
    rw [hnn] at e1 e2
    rw [e1, hat]
    show (if py_kd P p = 4 ∧ a = py_nb P p then s.2.2 a ||| zbit (py_bf (py_ks P p) W.2.2.2).length else (py_S P W.1).2.2 a) = _
    by_cases q : py_an P a = p
    · rw [if_pos ⟨by rw [← q]; exact hk4, by rw [← q]; exact hnn.symm⟩, q, pa_self, if_neg (by decide), if_pos rfl]
    · have hpa : py_pa P (py_an P a) (some p) = true := by
        show (p != py_an P a && py_wi P p (py_an P a)) = true
        rw [hxa, Bool.and_true]
        simpa using fun h => q h.symm
      rw [if_pos hpa, if_neg, e2]
      rintro ⟨h4, han⟩
      have := (ok_k4 hP hp h4).2.2.2
      rw [← han] at this
      exact q this
/-- how p goes on depends on p's own alone -/
theorem J_ext (hP : py_ok P) {p x : Nat} (hx : py_dm P x) (e : py_up P x = some p) (h5 : py_kd P p = 5 → s.2.1 (py_nb P p) = t.2.1 (py_nb P p)) (h4 : py_kd P p = 4 → s.2.2 (py_nb P p) = t.2.2 (py_nb P p)) : ∀ j, py_J P p x s j = py_J P p x t j := by
  have hp := ok_pdm hP hx e
  have hcl : py_cl P s p = py_cl P t p := by
    unfold py_cl
    by_cases q5 : py_kd P p = 5
    · rw [if_pos q5, if_pos q5, h5 q5]
    · rw [if_neg q5, if_neg q5]
      by_cases q4 : py_kd P p = 4
      · rw [if_pos q4, if_pos q4, h4 q4]
      · rw [if_neg q4, if_neg q4]
  have hgt : ∀ c, py_gt P s p c = py_gt P t p c := by
    intro c
    unfold py_gt
    by_cases q4 : py_kd P p = 4
    · rw [if_pos q4, if_pos q4, h4 q4]
    · rw [if_neg q4, if_neg q4]
      by_cases q5 : py_kd P p = 5
      · rw [if_pos q5, if_pos q5, h5 q5]
      · rw [if_neg q5, if_neg q5]
  intro j
  cases j with
  | zero =>
    show (if py_pst P x && py_cl P s p then 1 else 0) = (if py_pst P x && py_cl P t p then 1 else 0)
    rw [hcl]
  | succ j =>
    show sl (fun W => py_F P p j (py_ov P p s W)) (py_avl P s x) = sl (fun W => py_F P p j (py_ov P p t W)) (py_avl P t x)
    have hav : py_avl P s x = py_avl P t x := by
      rw [avl_eq hP hx e, avl_eq hP hx e]
      refine List.filter_congr ?_
      intro W _
      rw [hgt]
    rw [hav]
    refine sl_ext ?_
    intro W _
    have : py_ov P p s W = py_ov P p t W := by
      unfold py_ov
      have e1 : (fun k => if py_kd P p = 5 ∧ k = py_nb P p then s.2.1 k + 1 else (py_S P W.1).2.1 k) = (fun k => if py_kd P p = 5 ∧ k = py_nb P p then t.2.1 k + 1 else (py_S P W.1).2.1 k) := by
        funext k
        by_cases q : py_kd P p = 5 ∧ k = py_nb P p
        · rw [if_pos q, if_pos q, q.2, h5 q.1]
        · rw [if_neg q, if_neg q]
      have e2 : (fun a => if py_kd P p = 4 ∧ a = py_nb P p then s.2.2 a ||| zbit (py_bf (py_ks P p) W.2.2.2).length else (py_S P W.1).2.2 a) = (fun a => if py_kd P p = 4 ∧ a = py_nb P p then t.2.2 a ||| zbit (py_bf (py_ks P p) W.2.2.2).length else (py_S P W.1).2.2 a) := by
        funext a
        by_cases q : py_kd P p = 4 ∧ a = py_nb P p
        · rw [if_pos q, if_pos q, q.2, h4 q.1]
        · rw [if_neg q, if_neg q]
      rw [e1, e2]
    rw [this]
/-- a run within p is a run within its kid, then one behind it -/
theorem F_cv (hP : py_ok P) {p x : Nat} (hx : py_dm P x) (e : py_up P x = some p) : ∀ (k : Nat) (s : yS) (o : Nat), s.1 = some o → o < py_nl P → py_wi P x (py_lf P o) = true → py_F P p k s = cv (fun i => py_F P x i s) (py_J P p x s) k := by
  have hp := ok_pdm hP hx e
  intro k
  induction k with
  | zero =>
    intro s o hs ho hw
    have hlf := ok_lf hP ho
    have h1 := (avx_split (s := s) hP hx e (py_lf P o) hlf hw).2
    show (match s.1 with
      | none => 0
      | some o => if py_ex P s p (py_lf P o) then 1 else 0) = (match s.1 with
      | none => 0
      | some o => if py_ex P s x (py_lf P o) then 1 else 0) * (if py_pst P x && py_cl P s p then 1 else 0)
    rw [hs]
    simp only
    rw [h1]
    cases py_ex P s x (py_lf P o) <;> cases (py_pst P x && py_cl P s p) <;> rfl
  | succ k ih =>
    intro s o hs ho hw
    have hlf := ok_lf hP ho
    have hv : ∀ o', s.1 = some o' → o' < py_nl P := fun o' e => by rw [hs] at e; injection e with e; omega
    have h1 := (avx_split (s := s) hP hx e (py_lf P o) hlf hw).1
    have hpo : py_wi P p (py_lf P o) = true := wi_kid hP hp (ok_pks hP hx e) _ hlf hw
    have lhs : py_F P p (k + 1) s = sl (fun W => py_F P p k (py_go P s W)) (py_avx P s x (py_lf P o)) + (if py_ex P s x (py_lf P o) then sl (fun W => py_F P p k (py_go P s W)) (py_avl P s x) else 0) := by
      show (match s.1 with
        | none => 0
        | some o => sl (fun W => py_F P p k (py_go P s W)) (py_avx P s p (py_lf P o))) = _
      rw [hs]
      simp only
      rw [h1, sl_app]
      cases py_ex P s x (py_lf P o) <;> rfl
    have rhs : cv (fun i => py_F P x i s) (py_J P p x s) (k + 1) = py_F P x 0 s * py_J P p x s (k + 1) + cv (fun i => py_F P x (i + 1) s) (py_J P p x s) k := rfl
    have f0 : py_F P x 0 s = if py_ex P s x (py_lf P o) then 1 else 0 := by
      show (match s.1 with
        | none => 0
        | some o => if py_ex P s x (py_lf P o) then 1 else 0) = _
      rw [hs]
    have f1 : ∀ i, py_F P x (i + 1) s = sl (fun W => py_F P x i (py_go P s W)) (py_avx P s x (py_lf P o)) := by
      intro i
      show (match s.1 with
        | none => 0
        | some o => sl (fun W => py_F P x i (py_go P s W)) (py_avx P s x (py_lf P o))) = _
      rw [hs]
    have part1 : cv (fun i => py_F P x (i + 1) s) (py_J P p x s) k = sl (fun W => py_F P p k (py_go P s W)) (py_avx P s x (py_lf P o)) := by
      rw [cv_ext (g' := py_J P p x s) k (fun i _ => f1 i) (fun i _ => rfl), cv_sl]
      refine sl_ext ?_
      intro W hW
      obtain ⟨w1, w2, w3, a, w4, w5, w6⟩ := avx_new hP hs ho hw hW
      rw [ih (py_go P s W) W.1 rfl w2 w3]
      refine cv_ext k (fun i _ => rfl) (fun i _ => ?_)
      have hpw : py_wi P p (py_lf P W.1) = true := wi_kid hP hp (ok_pks hP hx e) _ (ok_lf hP w2) w3
      -- p is left as it is
      have hxp : py_wi P x p = false := by
        cases hc : py_wi P x p with
        | false => rfl
        | true =>
          have := (wi_hg hP p hp hc).1
          have := ok_uphg hP hx e
          omega
      have hne : a ≠ p := by intro q; rw [q, hxp] at w6; cases w6
      have hpa : py_pa P p W.2.2.1 = false := by
        rw [w4]
        show (a != p && py_wi P a p) = false
        cases hc : py_wi P a p with
        | false => simp
        | true =>
          have h1 := wi_tr hP p hp hc w6
          rw [hxp] at h1
          cases h1
      refine (J_ext hP hx e ?_ ?_ i)
      · intro h5
        obtain ⟨_, k5b, k5c⟩ := ok_k5 hP hp h5
        have := go_time hP hv w1 k5b (by rw [k5c]; exact hpw)
        rw [k5c, hpa, w4] at this
        rw [this, if_neg (by decide), if_neg (fun q => by injection q with q; exact hne q)]
      · intro h4
        have := go_beg hP hv w1 hx e h4 w3
        rw [hpa, w4] at this
        rw [this, if_neg (by decide), if_neg (fun q => by injection q with q; exact hne q)]
    rw [lhs, rhs, part1, f0]
    have part2 : (if py_ex P s x (py_lf P o) then sl (fun W => py_F P p k (py_go P s W)) (py_avl P s x) else 0) = (if py_ex P s x (py_lf P o) then 1 else 0) * py_J P p x s (k + 1) := by
      cases hex : py_ex P s x (py_lf P o) with
      | false => simp
      | true =>
        rw [if_pos rfl, if_pos rfl, Nat.one_mul]
        show _ = sl (fun W => py_F P p k (py_ov P p s W)) (py_avl P s x)
        refine sl_ext ?_
        intro W hW
        have hWp : W ∈ py_avx P s p (py_lf P o) := by
          rw [h1, hex, if_pos rfl]
          exact List.mem_append.mpr (.inr hW)
        obtain ⟨w1, w2, w3, _⟩ := avx_new hP hs ho hpo hWp
        have hat := (lv_what hP hx e (List.mem_filter.mp hW).1).1
        exact (F_sg hP k _ _ W.1 (ov_sg hP hx e hs ho w1 hat) rfl w2 w3).symm
    rw [part2]
    omega
end
