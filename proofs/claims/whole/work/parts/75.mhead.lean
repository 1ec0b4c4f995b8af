/-! THE MODEL: letters down to an occurrence, so that two ways can be behind it -/
def py_hd (P : yP) (V W : yW) (n own : Nat) : List Nat := if py_kd P n = 2 then (py_bf (py_ks P n) own).flatMap (py_wd P) else if py_kd P n = 4 then (py_sm (fun c => py_mo P n c own V W) (py_wd P) (py_ks P n) []).flatten else if py_kd P n = 5 then (List.replicate (py_lt2 P n V W - 1) (py_wd P own)).flatten else []
def py_ad (P : yP) (V W : yW) (x : Nat) : List Nat := py_ur P (fun k o => match py_up P k with
  | none => []
  | some p => o.getD [] ++ py_hd P V W p k) x
section
variable {am r d : Nat} {P : yP} {V W : yW}
theorem ad_up (h : py_ok P) {x p : Nat} (hx : py_dm P x) (e : py_up P x = some p) : py_ad P V W x = py_ad P V W p ++ py_hd P V W p x := by
  unfold py_ad
  rw [ur_up h hx e]
  simp only [e]
  rfl
theorem ad_rt (h : py_ok P) : py_ad P V W (py_rt P) = [] := by
  unfold py_ad
  rw [ur_rt h]
  simp only [ok_up0 h]
theorem sm_len2 {sel : Nat → Bool} {f : Nat → List Nat} {x : Nat} (hs : sel x = false) : ∀ {l : List Nat} {S : List (List Nat)}, x ∈ l → (∀ c, c ∈ l → (f c).length ≤ py_B P c) → (py_sm sel f l S).flatten.length + py_B P x ≤ S.flatten.length + py_Bs P l := by
  intro l
  induction l with
  | nil => intro S hx _; cases hx
  | cons c l ih =>
    intro S hx h
    have h1 := h c List.mem_cons_self
    have ht : ∀ y, y ∈ l → (f y).length ≤ py_B P y := fun y hy => h y (List.mem_cons_of_mem _ hy)
    rw [Bs_cons]
    by_cases e : c = x
    · subst e
      have h2 := sm_len (P := P) (sel := sel) (S := S) ht
      have h3 : py_sm sel f (c :: l) S = py_sm sel f l S := by simp [py_sm, hs]
      rw [h3]
      omega
    · have hx' : x ∈ l := by
        rcases List.mem_cons.mp hx with q | q
        · exact absurd q.symm e
        · exact q
      have h2 := ih (S := if sel c then py_ins (f c) S else S) hx' ht
      have h3 : py_sm sel f (c :: l) S = py_sm sel f l (if sel c then py_ins (f c) S else S) := by simp [py_sm]
      rw [h3]
      cases hc : sel c
      · rw [hc] at h2
        simp only [Bool.false_eq_true, if_false] at h2 ⊢
        omega
      · rw [hc] at h2
        simp only [if_true, ins_flat] at h2 ⊢
        omega
theorem lt2_le (h : py_ok P) {n : Nat} (hn : py_dm P n) (hk : py_kd P n = 5) : 1 ≤ py_lt2 P n V W ∧ py_lt2 P n V W ≤ 12 := by
  have := ok_fr h (ok_k5 h hn hk).2.1
  unfold py_lt2
  split <;> omega
theorem hd_len (h : py_ok P) {x p : Nat} (hx : py_dm P x) (e : py_up P x = some p) : (py_hd P V W p x).length + py_B P x ≤ py_B P p := by
  have hp := ok_pdm h hx e
  have hm := ok_pks h hx e
  have hfin := ok_fin h hx e
  have hw : ∀ c, c ∈ py_ks P p → (py_wd P c).length ≤ py_B P c := fun c hc => wd_len h c (ok_kid h hp hc)
  have hk2 : 2 ≤ py_kd P p := by
    by_cases q : 2 ≤ py_kd P p
    · exact q
    · have : py_kd P p = 0 ∨ py_kd P p = 1 := by omega
      rcases this with q | q
      · rw [(ok_k0 h hp q).1] at hm; cases hm
      · rw [(ok_k1 h hp q).1] at hm; cases hm
  have hB := Bs_le h hp hk2
  have hsplit : py_Bs P (py_ks P p) = py_Bs P (py_bf (py_ks P p) x) + (py_B P x + py_Bs P (py_af (py_ks P p) x)) := by
    conv => lhs; rw [hfin.1]
    rw [Bs_app, Bs_cons]
  unfold py_hd
  by_cases q2 : py_kd P p = 2
  · rw [if_pos q2]
    have := fm_len (P := P) (l := py_bf (py_ks P p) x) (fun c hc => hw c (by rw [hfin.1]; exact List.mem_append_left _ hc))
    omega
  · rw [if_neg q2]
    by_cases q4 : py_kd P p = 4
    · rw [if_pos q4]
      have := sm_len2 (P := P) (sel := fun c => py_mo P p c x V W) (x := x) (S := []) (by simp [py_mo]) hm hw
      simp only [List.flatten_nil, List.length_nil, Nat.zero_add] at this
      omega
    · rw [if_neg q4]
      by_cases q5 : py_kd P p = 5
      · rw [if_pos q5]
        obtain ⟨⟨c, hc, _⟩, _⟩ := ok_k5 h hp q5
        have hxc : x = c := by rw [hc] at hm; simpa using hm
        subst hxc
        have h5 := Bs_5 h hp q5 hc
        have hl := lt2_le (V := V) (W := W) h hp q5
        have h6 := hw x hm
        have h7 : (py_lt2 P p V W - 1) * (py_wd P x).length ≤ 11 * py_B P x := Nat.mul_le_mul (by omega) h6
        simp
        omega
      · rw [if_neg q5]
        simp
        omega
theorem ad_len (h : py_ok P) : ∀ x, py_dm P x → (py_ad P V W x).length + py_B P x ≤ 2304 := by
  refine ok_climb h _ ?_ ?_
  · rw [ad_rt h]
    have := B_le h (ok_rt h)
    simpa using this
  · intro x p hx e ih
    have := hd_len (V := V) (W := W) h hx e
    rw [ad_up h hx e, List.length_append]
    omega
theorem mp_Sw {M M' : zM} {L pr : Nat} {l : List yW} (hw : mw_has am M l) (hf : zf (sh_W am L pr) M M') : mw_has am M' l := by
  have hf' := zf_mono hf (sh_mg (am := am))
  refine ⟨by rw [mg_f hf' (by simp)]; exact hw.1, hw.2.1, ?_⟩
  intro i w hi
  rw [mg_a hf' (by decide) (by simp), mg_a hf' (by decide) (by simp), mg_a hf' (by decide) (by simp), mg_a hf' (by decide) (by simp)]
  exact hw.2.2 i w hi
theorem mr_ahead_48 (Rr : Nat → Int32 → Int32 → Int32 → Int32 → Int32 → zM → Option zM) {n own pr : Nat} {b : List Nat} (hP : py_ok P) (hn : py_dm P n) (hd : 126 ≤ d) (hpr : pr ≤ 30) (v4 v5 v6 : Int32) : ∀ (a1 a0 : List Nat) (M : zM) (t : List Nat), ¬ own ∈ a1 → py_ks P n = a0 ++ (a1 ++ own :: b) → mp_ok am M r P → mt_x am M t → zm_I M 12 am 31 + 1 = nI pr → t.length + 2 * py_Bs P a1 ≤ 12000 → ∀ fuel, a1.length < fuel → ∃ M', mo_ahead_48 Rr d fuel am (nI r) (nI n) (nI own) v4 v5 v6 (zo (a1 ++ own :: b).head?) M = mo_ahead_76 Rr d am (nI r) (nI n) (nI own) v4 v5 v6 M' ∧ mt_x am M' (t ++ a1.flatMap (py_wd P)) ∧ zf (sh_W am t.length pr) M M' ∧ zm_I M' 12 am 31 = zm_I M 12 am 31 := by
  intro a1
  induction a1 with
  | nil =>
    intro a0 M t _ e h hx h31 hlen fuel hf
    cases fuel with
    | zero => cases hf
    | succ fuel => exact ⟨M, by simp [mo_ahead_48, pb_zos], by simpa using hx, zf_refl _ _, rfl⟩
  | cons c a1 ih =>
    intro a0 M t hno e h hx h31 hlen fuel hf
    cases fuel with
    | zero => cases hf
    | succ fuel =>
      have hc : c ∈ py_ks P n := by rw [e]; simp
      have hko : own ∈ py_ks P n := by rw [e]; simp
      have hcd := ok_kid hP hn hc
      have h30 := ok_hg30 hP hcd
      have h4 := ok_400 hP hcd
      have h5 := ok_400 hP (ok_kid hP hn hko)
      have hfc := wd_len hP c hcd
      have hne : ¬ nI c = nI own := by
        intro x
        have := (nI_eq (by omega) (by omega)).mp x
        exact hno (by rw [this]; simp)
      rw [Bs_cons] at hlen
      obtain ⟨M1, e1, e2, e3, e4⟩ := (mr_shortestG (am := am) (r := r) hP c hcd d (by omega)).1 M t pr h hx h31 (by omega) (by omega)
      have h1 := mp_S h e3
      obtain ⟨M2, f1, f2, f3, f4⟩ := ih (a0 ++ [c]) M1 (t ++ py_wd P c) (fun x => hno (List.mem_cons_of_mem _ x)) (by rw [e]; simp) h1 e2 (by rw [e4]; exact h31) (by simp; omega) fuel (by simp at hf; omega)
      refine ⟨M2, ?_, by simpa using f2, zf_trans e3 (zf_mono f3 (sh_mono (by simp) (Nat.le_refl _))), f4.trans e4⟩
      rw [← f1]
      have hx2 := mr_nx h1 (d := d) (a := a0) (c := c) (b := a1 ++ own :: b) hn (by rw [e]; simp)
      simp only [mo_ahead_48, List.cons_append, List.head?_cons, pb_zos, if_neg hne, mo_shortest, e1, Option.bind_some, hx2]
theorem mr_ahead_122 (Rr : Nat → Int32 → Int32 → Int32 → Int32 → Int32 → zM → Option zM) {own pr T : Nat} (hP : py_ok P) (ho : py_dm P own) (hd : 126 ≤ d) (hpr : pr ≤ 30) (hT : T ≤ 12) (hnu : 1 < T → py_nu P own = false) (v2 v6 : Int32) {t : List Nat} (hlen : t.length + 12 * py_B P own ≤ 2304) : ∀ (m i : Nat) (M : zM), i + 1 + m = max 1 T → mp_ok am M r P → mt_x am M (t ++ (List.replicate i (py_wd P own)).flatten) → zm_I M 12 am 31 + 1 = nI pr → ∀ fuel, m < fuel → ∃ M', mo_ahead_122 Rr d fuel am (nI r) v2 (nI own) v6 (nI T) (nI t.length) (nI (i + 1)) M = mo_ahead_174 Rr d am (nI r) v2 v6 M' ∧ mt_x am M' (t ++ (List.replicate (T - 1) (py_wd P own)).flatten) ∧ zf (sh_W am t.length pr) M M' ∧ zm_I M' 12 am 31 = zm_I M 12 am 31 := by
  have h30 := ok_hg30 hP ho
  have hwl := wd_len hP own ho
  have hB := B_le hP ho
  intro m
  induction m with
  | zero =>
    intro i M hi h hx h31 fuel hf
    cases fuel with
    | zero => cases hf
    | succ fuel =>
      refine ⟨M, ?_, ?_, zf_refl _ _, rfl⟩
      · have : nI T ≤ nI (i + 1) := nI_le (by omega) (by omega)
        simp [mo_ahead_122, this]
      · have : T - 1 = i := by omega
        rw [this]
        exact hx
  | succ m ih =>
    intro i M hi h hx h31 fuel hf
    cases fuel with
    | zero => cases hf
    | succ fuel =>
      have hge : ¬ nI T ≤ nI (i + 1) := nI_ge (by omega) (by omega)
      have hu := hnu (by omega)
      cases i with
      | zero =>
        have hx' : mt_x am M t := by simpa using hx
        obtain ⟨M1, e1, e2, e3, e4⟩ := (mr_shortestG (am := am) (r := r) hP own ho d (by omega)).2 hu M t pr h hx' h31 (by omega) (by omega)
        have h1 := mp_S h e3
        obtain ⟨M2, f1, f2, f3, f4⟩ := ih 1 M1 (by omega) h1 (by simpa using e2) (by rw [e4]; exact h31) fuel (by omega)
        refine ⟨M2, ?_, f2, zf_trans e3 f3, f4.trans e4⟩
        rw [← f1]
        have hge' : ¬ nI T ≤ 1 := hge
        simp only [mo_ahead_122, mo_shortest, Nat.zero_add, pb_n1, if_neg hge', if_true, e1, Option.bind_some, mo_ahead_168, zlet]
        rfl
      | succ i =>
        have hne : ¬ nI (i + 1 + 1) = 1 := by
          intro x
          have := (nI_eq (b := 1) (by omega) (by omega)).mp x
          omega
        have hsub : nI (i + 1 + 1) - 1 = nI (i + 1) := nI_pred (i + 1)
        have hne0 : ¬ nI (i + 1) = 0 := nI_ne0 (by omega) (by omega)
        have hll : (t ++ (List.replicate (i + 1) (py_wd P own)).flatten).length = t.length + (i + 1) * (py_wd P own).length := by simp
        have hle : (i + 1 + 1) * (py_wd P own).length ≤ 12 * py_B P own := Nat.mul_le_mul (by omega) hwl
        have hle2 : (i + 1) * (py_wd P own).length + (py_wd P own).length = (i + 1 + 1) * (py_wd P own).length := by rw [Nat.add_mul (i + 1) 1, Nat.one_mul]
        have hdiv : (zm_I M 12 am 28 - nI t.length) / nI (i + 1) = nI (py_wd P own).length := by
          rw [hx.1, hll, pk_sub (by omega), Nat.add_sub_cancel_left, pk_div (by omega) (by omega) (by omega), Nat.mul_div_cancel_left _ (by omega)]
        have hw : (py_wd P own).length ≤ (List.replicate (i + 1) (py_wd P own)).flatten.length := by
          rw [List.replicate_succ, List.flatten_cons]
          simp
        obtain ⟨M1, e1, e2, e3, e4⟩ := mr_again (d := d) h.2.1 hx (by omega) pr t.length (by simp) (a := t.length) (e := t.length + (py_wd P own).length) (by omega) (by rw [List.length_append]; omega) (by rw [hll]; omega)
        have ew : ((t ++ (List.replicate (i + 1) (py_wd P own)).flatten).drop t.length).take (t.length + (py_wd P own).length - t.length) = py_wd P own := by
          rw [List.drop_left, List.replicate_succ, List.flatten_cons]
          simp
        rw [ew] at e2
        have er : t ++ (List.replicate (i + 1) (py_wd P own)).flatten ++ py_wd P own = t ++ (List.replicate (i + 1 + 1) (py_wd P own)).flatten := by
          rw [List.replicate_succ' (n := i + 1), List.flatten_append]
          simp
        rw [er] at e2
        have h1 := mp_S h e3
        obtain ⟨M2, f1, f2, f3, f4⟩ := ih (i + 1 + 1) M1 (by omega) h1 e2 (by rw [e4]; exact h31) fuel (by omega)
        refine ⟨M2, ?_, f2, zf_trans e3 f3, f4.trans e4⟩
        rw [← f1]
        simp only [mo_ahead_122, if_neg hge, if_neg hne, hsub, if_neg hne0, hdiv, nI_add, e1, Option.bind_some, mo_ahead_168, zlet, nI_1]
theorem mr_ahead_26 (Rr : Nat → Int32 → Int32 → Int32 → Int32 → Int32 → zM → Option zM) {M : zM} {l : List yW} {v w : Nat} (h : mp_ok am M r P) (hw : mw_has am M l) (hv : l[v]? = some V) (hw2 : l[w]? = some W) (hV : py_wok P V) (hW : py_wok P W) (hd : 130 ≤ d) {n own : Nat} (ho : py_dm P own) (e : py_up P own = some n) {t : List Nat} (hx : mt_x am M t) (h31 : zm_I M 12 am 31 = -1) (hlen : t.length + py_B P n ≤ 2304) : ∃ M', mo_ahead_26 Rr d am (nI r) (nI n) (nI own) (nI v) (nI w) M = some M' ∧ mt_x am M' (t ++ py_hd P V W n own) ∧ zf (sh_W am t.length 0) M M' ∧ zm_I M' 12 am 31 = zm_I M 12 am 31 := by
  have hn := ok_pdm h.1 ho e
  have hm := ok_pks h.1 ho e
  have hfin := ok_fin h.1 ho e
  have hB := B_le h.1 hn
  have h30 := ok_hg30 h.1 hn
  have hLF := pb_LF
  have hln := ok_ln h.1 hn
  have h31' : zm_I M 12 am 31 + 1 = nI 0 := by rw [h31]; decide
  unfold mo_ahead_26 py_hd
  rcases ok_kd6 h.1 hn with q | q | q | q | q | q
  · rw [(ok_k0 h.1 hn q).1] at hm; cases hm
  · rw [(ok_k1 h.1 hn q).1] at hm; cases hm
  · have hbl := bf_len hm
    have hB2 := Bs_le h.1 hn (by omega)
    have hsplit : py_Bs P (py_ks P n) = py_Bs P (py_bf (py_ks P n) own) + (py_B P own + py_Bs P (py_af (py_ks P n) own)) := by
      conv => lhs; rw [hfin.1]
      rw [Bs_app, Bs_cons]
    obtain ⟨M1, e1, e2⟩ := mr_ahead_48 (d := d) Rr (pr := 0) h.1 hn (by omega) (by omega) (nI v) (nI w) 2 (py_bf (py_ks P n) own) [] M t hfin.2 hfin.1 h hx h31' (by omega) zLF (by omega)
    rw [← hfin.1] at e1
    rw [if_pos q]
    refine ⟨M1, ?_, e2⟩
    rw [mr_kd h hn, q, pb_n2]
    simp only [Option.bind_some, if_true, mr_ks h hn, e1]
    simp [mo_ahead_76, mo_ahead_95, mo_ahead_174, mo_ahead_194]
  · rw [if_neg (by omega), if_neg (by omega), if_neg (by omega)]
    refine ⟨M, ?_, by simpa using hx, zf_refl _ _, rfl⟩
    rw [mr_kd h hn, q, pb_n3]
    simp [mo_ahead_76, mo_ahead_95, mo_ahead_174, mo_ahead_194]
  · rw [if_neg (by omega), if_pos q]
    obtain ⟨d, rfl⟩ : ∃ d', d = d' + 1 := ⟨d - 1, by omega⟩
    obtain ⟨M1, e1, e2⟩ := mr_some_b (d := d) (gmo_shortest d).1 (gmo_shortest d).2.1 (gmo_shortest d).2.2.1 (gmo_shortest d).2.2.2.1 (gmo_shortest d).2.2.2.2 (pr := 0) (tt := t) (f := py_wd P) (sel := fun c => py_mo P n c own V W) (by omega) h hx h31' hn q (by omega) (by omega) (nI own) (nI v) (nI w) (by
      intro M' h' hf' c hc fuel v7
      have hcd := ok_kid h.1 hn hc
      have h4 := ok_400 h.1 hcd
      have h5 := ok_400 h.1 ho
      have hne : ¬ nI c = -1 := pb_ne1 (by omega)
      have hne2 : ¬ nI own = -1 := pb_ne1 (by omega)
      simp only [mo_some_27, if_neg hne, if_neg hne2, mr_mustBeOver (d := d) h' (mp_Sw hw hf') hv hw2 hV hW (by omega) hn hcd ho, Option.bind_some]) (fun c hc _ => by
      have hcd := ok_kid h.1 hn hc
      have hc30 := ok_hg30 h.1 hcd
      exact (mr_shortestG (am := am) (r := r) h.1 c hcd d (by omega)).1) (fun x hx => wd_len h.1 x (ok_kid h.1 hn hx))
    refine ⟨M1, ?_, e2⟩
    rw [mr_kd h hn, q, pb_n4]
    simp only [Option.bind_some]
    rw [if_neg (by decide)]
    unfold mo_ahead_76
    rw [if_pos rfl]
    unfold mo_some
    rw [gs_5, e1]
    simp [mo_ahead_95, mo_ahead_174, mo_ahead_194]
  · rw [if_neg (by omega), if_neg (by omega), if_pos q]
    obtain ⟨⟨c, hc, _⟩, _⟩ := ok_k5 h.1 hn q
    have hxc : own = c := by rw [hc] at hm; simpa using hm
    subst hxc
    have h5 := Bs_5 h.1 hn q hc
    have hlt := lt2_le (V := V) (W := W) h.1 hn q
    have hlT := mr_leastTime (d := d) h hw hv hw2 hV hW (by omega) hn q
    have hnu : 1 < py_lt2 P n V W → py_nu P own = false := by
      intro x
      unfold py_lt2 at x
      rw [hc] at x
      cases hb : py_nu P own
      · rfl
      · simp [hb] at x
    obtain ⟨M1, e1, e2⟩ := mr_ahead_122 (d := d) Rr (pr := 0) (T := py_lt2 P n V W) h.1 ho (by omega) (by omega) (by omega) hnu (nI n) 5 (t := t) (by omega) (max 1 (py_lt2 P n V W) - 1) 0 M (by omega) h (by simpa using hx) h31' zLF (by omega)
    refine ⟨M1, ?_, e2⟩
    rw [mr_kd h hn, q, pb_n5]
    simp only [Option.bind_some]
    rw [if_neg (by decide)]
    unfold mo_ahead_76
    rw [if_neg (by decide)]
    unfold mo_ahead_95
    rw [if_pos rfl, hlT]
    simp only [Option.bind_some, zlet, hx.1]
    rw [Nat.zero_add, pb_n1] at e1
    rw [e1]
    simp [mo_ahead_174, mo_ahead_194]
theorem mr_ahead_n (hP : py_ok P) {l : List yW} {v w : Nat} (hv : l[v]? = some V) (hw2 : l[w]? = some W) (hV : py_wok P V) (hW : py_wok P W) : ∀ n, py_dm P n → ∀ own, py_dm P own → py_up P own = some n → ∀ d, 131 + (py_hg P (py_rt P) - py_hg P n) ≤ d → ∀ M, mp_ok am M r P → mw_has am M l → mt_x am M [] → zm_I M 12 am 31 = -1 → ∃ M', mo_ahead d am (nI r) (nI n) (nI own) (nI v) (nI w) M = some M' ∧ mt_x am M' (py_ad P V W own) ∧ zf (sh_W am 0 0) M M' ∧ zm_I M' 12 am 31 = -1 := by
  refine ok_climb hP _ ?_ ?_
  · intro own ho e d hd M h hw hx h31
    obtain ⟨d, rfl⟩ : ∃ d', d = d' + 1 := ⟨d - 1, by omega⟩
    have hB := B_le hP (ok_rt hP)
    have er : (fun a0 a1 a2 a3 a4 a5 M => mo_ahead d a0 a1 a2 a3 a4 a5 M) = mo_ahead d := rfl
    obtain ⟨M1, e1, e2, e3, e4⟩ := mr_ahead_26 (d := d) (mo_ahead d) h hw hv hw2 hV hW (by omega) ho e hx h31 (by simpa using hB)
    refine ⟨M1, ?_, ?_, e3, e4.trans h31⟩
    · rw [mo_ahead.eq_2, er]
      unfold mo_ahead_b
      simp only [mr_up h (ok_rt hP), ok_up0 hP, pb_zon, Option.bind_some, if_true, e1]
    · rw [ad_up hP ho e, ad_rt hP]
      exact e2
  · intro n p hn en ih own ho e d hd M h hw hx h31
    obtain ⟨d, rfl⟩ : ∃ d', d = d' + 1 := ⟨d - 1, by omega⟩
    have hp := ok_pdm hP hn en
    have h4 := ok_400 hP hp
    have hne : ¬ nI p = -1 := pb_ne1 (by omega)
    have h5 := ok_uphg hP hn en
    have h6 := ok_top hP hp
    have er : (fun a0 a1 a2 a3 a4 a5 M => mo_ahead d a0 a1 a2 a3 a4 a5 M) = mo_ahead d := rfl
    obtain ⟨M1, e1, e2, e3, e4⟩ := ih n hn en d (by omega) M h hw hx h31
    have h1 := mp_S h e3
    have hal := ad_len (V := V) (W := W) hP n hn
    obtain ⟨M2, f1, f2, f3, f4⟩ := mr_ahead_26 (d := d) (mo_ahead d) h1 (mp_Sw hw e3) hv hw2 hV hW (by omega) ho e e2 e4 hal
    refine ⟨M2, ?_, ?_, zf_trans e3 (zf_mono f3 (sh_mono (Nat.zero_le _) (Nat.le_refl _))), f4.trans e4⟩
    · rw [mo_ahead.eq_2, er]
      unfold mo_ahead_b
      simp only [mr_up h hn, en, pb_zos, Option.bind_some, if_neg hne, e1, f1]
    · rw [ad_up hP ho e]
      exact f2
theorem mr_ahead {M : zM} (h : mp_ok am M r P) {l : List yW} {v w : Nat} (hw : mw_has am M l) (hv : l[v]? = some V) (hw2 : l[w]? = some W) (hV : py_wok P V) (hW : py_wok P W) (hd : 164 ≤ d) {o : Nat} (ho : o < py_nl P) (hx : mt_x am M []) (h31 : zm_I M 12 am 31 = -1) : ∃ M', mo_ahead d am (nI r) (nI (py_lf P o)) (-1) (nI v) (nI w) M = some M' ∧ mt_x am M' (py_ad P V W (py_lf P o) ++ [py_lt P o]) ∧ zf (sh_W am 0 0) M M' ∧ zm_I M' 12 am 31 = -1 := by
  have hl := ok_lf h.1 ho
  have hlk := ok_lfk h.1 ho
  have hln := ok_lfn h.1 ho
  have hh := ok_hg h.1
  have hal := ad_len (V := V) (W := W) h.1 _ hl
  obtain ⟨d, rfl⟩ : ∃ d', d = d' + 1 := ⟨d - 1, by omega⟩
  have er : (fun a0 a1 a2 a3 a4 a5 M => mo_ahead d a0 a1 a2 a3 a4 a5 M) = mo_ahead d := rfl
  have hend : ∀ M1, mp_ok am M1 r P → ∀ t, mt_x am M1 t → t.length ≤ 2304 → ∃ M', mo_ahead_26 (mo_ahead d) d am (nI r) (nI (py_lf P o)) (-1) (nI v) (nI w) M1 = some M' ∧ mt_x am M' (t ++ [py_lt P o]) ∧ zf (sh_W am t.length 0) M1 M' ∧ zm_I M' 12 am 31 = zm_I M1 12 am 31 := by
    intro M1 h1 t hx1 ht
    obtain ⟨M2, e1, e2⟩ := mr_writes (d := d) h1.2.1 hx1 (by omega) (ok_lt h.1 ho) 0
    refine ⟨M2, ?_, e2⟩
    unfold mo_ahead_26
    rw [mr_kd h1 hl, hlk, pb_n0]
    simp only [Option.bind_some]
    rw [if_neg (by decide)]
    unfold mo_ahead_76
    rw [if_neg (by decide)]
    unfold mo_ahead_95
    rw [if_neg (by decide)]
    unfold mo_ahead_174
    rw [if_pos rfl, mr_nb h1 hl (.inl hlk), hln]
    simp only [Option.bind_some, mr_lt h1 ho, e1, mo_ahead_194]
  cases e : py_up P (py_lf P o) with
  | none =>
    have hrt := ok_no h.1 hl e
    obtain ⟨M1, e1, e2, e3, e4⟩ := hend M h [] hx (by simp)
    refine ⟨M1, ?_, ?_, e3, e4.trans h31⟩
    · rw [mo_ahead.eq_2, er]
      unfold mo_ahead_b
      simp only [mr_up h hl, e, pb_zon, Option.bind_some, if_true, e1]
    · have : py_ad P V W (py_lf P o) = [] := by rw [hrt, ad_rt h.1]
      rw [this]
      exact e2
  | some p =>
    have hp := ok_pdm h.1 hl e
    have h4 := ok_400 h.1 hp
    have hne : ¬ nI p = -1 := pb_ne1 (by omega)
    obtain ⟨M1, e1, e2, e3, e4⟩ := mr_ahead_n (am := am) (r := r) h.1 hv hw2 hV hW p hp (py_lf P o) hl e d (by omega) M h hw hx h31
    obtain ⟨M2, f1, f2, f3, f4⟩ := hend M1 (mp_S h e3) _ e2 (by omega)
    refine ⟨M2, ?_, f2, zf_trans e3 (zf_mono f3 (sh_mono (Nat.zero_le _) (Nat.le_refl _))), f4.trans e4⟩
    rw [mo_ahead.eq_2, er]
    unfold mo_ahead_b
    simp only [mr_up h hl, e, pb_zos, Option.bind_some, if_neg hne, e1, f1]
end
