/-! THE MODEL: the shortest word -/
def py_bst (f : Nat → List Nat) (l : List Nat) : List Nat := match l with
  | [] => []
  | c :: l => l.foldl (fun u c => if py_ls (f c) u then f c else u) (f c)
def py_wg (P : yP) (f : Nat → List Nat) (n : Nat) : List Nat := if py_nu P n then [] else if py_kd P n = 0 then [py_lt P (py_nb P n)] else if py_kd P n = 2 then (py_ks P n).flatMap f else if py_kd P n = 3 then py_bst f (py_ks P n) else if py_kd P n = 4 then (py_sm (fun c => !py_nu P c) f (py_ks P n) []).flatten else if py_kd P n = 5 then (List.replicate (max 1 (py_fr P (py_nb P n))) ((py_ks P n).flatMap f)).flatten else []
def py_wd (P : yP) : Nat → List Nat := py_tr P [] (py_wg P)
def py_Bs (P : yP) (l : List Nat) : Nat := (l.map (py_B P)).sum
theorem pl_foldl {α : Type} {F G : α → Nat → α} : ∀ {l : List Nat} {s : α}, (∀ c, c ∈ l → ∀ s, F s c = G s c) → l.foldl F s = l.foldl G s := by
  intro l
  induction l with
  | nil => intro s _; rfl
  | cons c l ih =>
    intro s h
    rw [List.foldl_cons, List.foldl_cons, h c List.mem_cons_self]
    exact ih (fun x hx => h x (List.mem_cons_of_mem _ hx))
theorem pl_flatMap {f g : Nat → List Nat} : ∀ {l : List Nat}, (∀ c, c ∈ l → f c = g c) → l.flatMap f = l.flatMap g := by
  intro l
  induction l with
  | nil => intro _; rfl
  | cons c l ih =>
    intro h
    rw [List.flatMap_cons, List.flatMap_cons, h c List.mem_cons_self, ih (fun x hx => h x (List.mem_cons_of_mem _ hx))]
theorem pl_sm {sel : Nat → Bool} {f g : Nat → List Nat} {l : List Nat} {S : List (List Nat)} (h : ∀ c, c ∈ l → f c = g c) : py_sm sel f l S = py_sm sel g l S := by
  refine pl_foldl ?_
  intro c hc s
  rw [h c hc]
theorem pl_bst {f g : Nat → List Nat} {l : List Nat} (h : ∀ c, c ∈ l → f c = g c) : py_bst f l = py_bst g l := by
  cases l with
  | nil => rfl
  | cons c l =>
    show l.foldl (fun u c => if py_ls (f c) u then f c else u) (f c) = l.foldl (fun u c => if py_ls (g c) u then g c else u) (g c)
    rw [h c List.mem_cons_self]
    refine pl_foldl ?_
    intro x hx s
    rw [h x (List.mem_cons_of_mem _ hx)]
section
variable {P : yP}
theorem wd_eq (h : py_ok P) {n : Nat} (hn : py_dm P n) : py_wd P n = py_wg P (py_wd P) n := by
  refine tr_eq h ?_ hn
  intro a b n _ hc
  unfold py_wg
  rw [pl_flatMap hc, pl_sm hc, pl_bst hc]
theorem Bs_run (h : py_ok P) {K : Nat} : ∀ l a b, (∀ c, c ∈ l → py_dm P c ∧ py_ar P c ≤ K) → py_run P a l b → py_Bs P l ≤ (b - a) * 12 ^ K := by
  intro l
  induction l with
  | nil => intro a b _ _; simp [py_Bs]
  | cons c l ih =>
    intro a b hd hr
    obtain ⟨h1, h2⟩ := hr
    have hc := hd c List.mem_cons_self
    have h4 := ih _ _ (fun x hx => hd x (List.mem_cons_of_mem _ hx)) h2
    have h5 := (run_mem h _ _ _ (fun x hx => (hd x (List.mem_cons_of_mem _ hx)).1) h2).1
    have h6 := ok_lohi h hc.1
    have h7 : py_B P c ≤ (py_hi P c - py_lo P c) * 12 ^ K := Nat.mul_le_mul (Nat.le_refl _) (Nat.pow_le_pow_right (by omega) hc.2)
    have h8 : (b - a) * 12 ^ K = (py_hi P c - py_lo P c) * 12 ^ K + (b - py_hi P c) * 12 ^ K := by
      rw [← Nat.add_mul]
      congr 1
      omega
    unfold py_Bs at h4 ⊢
    simp
    omega
theorem Bs_le (h : py_ok P) {n : Nat} (hn : py_dm P n) (hk : 2 ≤ py_kd P n) : py_Bs P (py_ks P n) ≤ py_B P n := Bs_run h _ _ _ (fun c hc => ⟨ok_kid h hn hc, ok_kar h hn hc⟩) (ok_run h hn hk)
theorem Bs_5 (h : py_ok P) {n c : Nat} (hn : py_dm P n) (hk : py_kd P n = 5) (hc : py_ks P n = [c]) : 12 * py_B P c ≤ py_B P n := by
  obtain ⟨c', e, har⟩ := (ok_k5 h hn hk).1
  rw [hc] at e
  injection e with e
  subst e
  have h1 := lh_kid h hn (show c ∈ py_ks P n by rw [hc]; simp)
  unfold py_B
  rw [har, Nat.pow_succ]
  have : (py_hi P c - py_lo P c) * 12 ^ py_ar P c ≤ (py_hi P n - py_lo P n) * 12 ^ py_ar P c := Nat.mul_le_mul (by omega) (Nat.le_refl _)
  have e2 : (py_hi P n - py_lo P n) * (12 ^ py_ar P c * 12) = 12 * ((py_hi P n - py_lo P n) * 12 ^ py_ar P c) := by rw [Nat.mul_comm 12, Nat.mul_assoc]
  rw [e2]
  exact Nat.mul_le_mul (Nat.le_refl _) this
theorem Bs_app (a b : List Nat) : py_Bs P (a ++ b) = py_Bs P a + py_Bs P b := by simp [py_Bs]
theorem Bs_cons (c : Nat) (l : List Nat) : py_Bs P (c :: l) = py_B P c + py_Bs P l := by simp [py_Bs]
theorem fm_len {f : Nat → List Nat} : ∀ {l : List Nat}, (∀ c, c ∈ l → (f c).length ≤ py_B P c) → (l.flatMap f).length ≤ py_Bs P l := by
  intro l
  induction l with
  | nil => intro _; simp
  | cons c l ih =>
    intro h
    have h1 := h c List.mem_cons_self
    have h2 := ih (fun x hx => h x (List.mem_cons_of_mem _ hx))
    rw [List.flatMap_cons, List.length_append, Bs_cons]
    omega
theorem sm_len {sel : Nat → Bool} {f : Nat → List Nat} : ∀ {l : List Nat} {S : List (List Nat)}, (∀ c, c ∈ l → (f c).length ≤ py_B P c) → (py_sm sel f l S).flatten.length ≤ S.flatten.length + py_Bs P l := by
  intro l
  induction l with
  | nil => intro S _; simp [py_sm]
  | cons c l ih =>
    intro S h
    have h1 := h c List.mem_cons_self
    unfold py_sm at ih ⊢
    rw [List.foldl_cons, Bs_cons]
    have h2 := ih (S := if sel c then py_ins (f c) S else S) (fun x hx => h x (List.mem_cons_of_mem _ hx))
    cases hs : sel c
    · rw [hs] at h2
      simp only [Bool.false_eq_true, if_false] at h2 ⊢
      omega
    · rw [hs] at h2
      simp only [if_true, ins_flat] at h2 ⊢
      omega
theorem bs_len {f : Nat → List Nat} : ∀ {l : List Nat} {u : List Nat}, (∀ c, c ∈ l → (f c).length ≤ py_B P c) → (l.foldl (fun u c => if py_ls (f c) u then f c else u) u).length ≤ u.length + py_Bs P l := by
  intro l
  induction l with
  | nil => intro u _; simp
  | cons c l ih =>
    intro u h
    have h1 := h c List.mem_cons_self
    have h2 := ih (u := if py_ls (f c) u then f c else u) (fun x hx => h x (List.mem_cons_of_mem _ hx))
    rw [List.foldl_cons, Bs_cons]
    cases hs : py_ls (f c) u
    · rw [hs] at h2
      simp only [Bool.false_eq_true, if_false] at h2 ⊢
      omega
    · rw [hs] at h2
      simp only [if_true] at h2 ⊢
      omega
theorem wd_len (h : py_ok P) : ∀ n, py_dm P n → (py_wd P n).length ≤ py_B P n := by
  refine ok_down h _ ?_
  intro n hn ih
  rw [wd_eq h hn]
  unfold py_wg
  split
  · simp
  · split
    · rename_i q0
      obtain ⟨_, _, _, h1, h2⟩ := ok_k0 h hn q0
      have : py_hi P n - py_lo P n = 1 := by omega
      unfold py_B
      rw [this, Nat.one_mul]
      have := Nat.one_le_pow (py_ar P n) 12 (by omega)
      simp
      omega
    · split
      · rename_i q2
        exact Nat.le_trans (fm_len ih) (Bs_le h hn (by omega))
      · split
        · rename_i q3
          have hB := Bs_le h hn (by omega)
          unfold py_bst
          cases hl : py_ks P n with
          | nil => simp
          | cons c l =>
            rw [hl] at ih hB
            have h1 := ih c List.mem_cons_self
            have h2 := bs_len (u := py_wd P c) (fun x hx => ih x (List.mem_cons_of_mem _ hx))
            rw [Bs_cons] at hB
            simp only
            omega
        · split
          · rename_i q4
            have := sm_len (P := P) (sel := fun c => !py_nu P c) (S := []) ih
            simp only [List.flatten_nil, List.length_nil, Nat.zero_add] at this
            exact Nat.le_trans this (Bs_le h hn (by omega))
          · split
            · rename_i q5
              obtain ⟨⟨c, hc, _⟩, hnc, _⟩ := ok_k5 h hn q5
              have h1 := ih c (by rw [hc]; simp)
              have h2 := Bs_5 h hn q5 hc
              have h3 := ok_fr h hnc
              have h4 : max 1 (py_fr P (py_nb P n)) * (py_wd P c).length ≤ 12 * py_B P c := Nat.mul_le_mul (by omega) h1
              rw [hc]
              simp
              omega
            · simp
theorem B_le (h : py_ok P) {n : Nat} (hn : py_dm P n) : py_B P n ≤ 2304 := by
  have h2 := ok_ar h hn
  have h3 := ok_hi16 h hn
  have h4 := ok_nl h
  have h5 : 12 ^ py_ar P n ≤ 12 ^ 2 := Nat.pow_le_pow_right (by omega) h2
  have h6 : (py_hi P n - py_lo P n) * 12 ^ py_ar P n ≤ 16 * 12 ^ 2 := Nat.mul_le_mul (by omega) h5
  unfold py_B
  omega
end
section
variable {am r d : Nat} {P : yP}
variable (R1 : Nat → Int32 → Int32 → Int32 → zM → Option (Int32 × zM)) (R2 : Nat → Int32 → Int32 → zM → Option (Int32 × zM)) (R3 : Nat → Int32 → Int32 → Int32 → zM → Option (Int32 × zM)) (R4 : Nat → Int32 → Int32 → zM → Option (Int32 × zM)) (R5 : Nat → Int32 → Int32 → Int32 → Int32 → Int32 → zM → Option (Int32 × zM))
theorem mp_S {M M' : zM} {L pr : Nat} (h : mp_ok am M r P) (hf : zf (sh_W am L pr) M M') : mp_ok am M' r P := mp_zf h (zf_mono hf sh_mg) (by simp)
theorem mr_some_27 {n pr : Nat} {tt : List Nat} {M0 : zM} {f : Nat → List Nat} {sel : Nat → Bool} (hP : py_ok P) (hn : py_dm P n) (hk : py_kd P n = 4) (hpr : pr + py_hg P n ≤ 60) (v3 v4 v5 : Int32) (hstep : ∀ M', mp_ok am M' r P → zf (sh_W am tt.length pr) M0 M' → ∀ c, c ∈ py_ks P n → ∀ fuel v7, mo_some_27 R1 R2 R3 R4 R5 d (fuel + 1) am (nI r) (nI n) v3 v4 v5 (nI tt.length) v7 (nI c) M' = mo_some_69 R1 R2 R3 R4 R5 (fun p0 p1 p2 p3 p4 p5 p6 p7 p8 m => mo_some_27 R1 R2 R3 R4 R5 d fuel p0 p1 p2 p3 p4 p5 p6 p7 p8 m) d am (nI r) (nI n) v3 v4 v5 (nI tt.length) v7 (nI c) (zb (sel c)) M') (hR : ∀ c, c ∈ py_ks P n → sel c = true → sh_S P f am r R1 0 c) (hfl : ∀ c, c ∈ py_ks P n → (f c).length ≤ py_B P c) : ∀ (b a : List Nat) (M : zM) (u : List Nat) (S : List (Nat × Nat)), py_ks P n = a ++ b → mp_ok am M r P → zf (sh_W am tt.length pr) M0 M → mt_x am M (tt ++ u) → mq_x am M pr 0 S → S.length ≤ a.length → (∀ p, p ∈ S → p.1 + p.2 ≤ (tt ++ u).length) → zm_I M 12 am 31 = nI pr → (tt ++ u).length + 2 * py_Bs P b ≤ 12000 → ∀ fuel, b.length < fuel → ∃ M' S' u', mo_some_27 R1 R2 R3 R4 R5 d fuel am (nI r) (nI n) v3 v4 v5 (nI tt.length) (nI S.length) (zo b.head?) M = mo_some_255 R1 R2 R3 R4 R5 d zLF am (nI tt.length) (nI S'.length) (nI (tt ++ u').length) 0 M' ∧ mt_x am M' (tt ++ u') ∧ mq_x am M' pr 0 S' ∧ S'.map (py_wo (tt ++ u')) = py_sm sel f b (S.map (py_wo (tt ++ u))) ∧ (∀ p, p ∈ S' → p.1 + p.2 ≤ (tt ++ u').length) ∧ S'.length ≤ 4 ∧ zf (sh_W am tt.length pr) M M' ∧ zm_I M' 12 am 31 = nI pr ∧ u'.length ≤ u.length + py_Bs P b := by
  have hk4 := ok_k4 hP hn hk
  intro b
  induction b with
  | nil =>
    intro a M u S e h hf0 hx hq hS hin h31 hlen fuel hf
    cases fuel with
    | zero => cases hf
    | succ fuel =>
      rw [List.append_nil] at e
      refine ⟨M, S, u, ?_, hx, hq, rfl, hin, by rw [← e] at hS; omega, zf_refl _ _, h31, by omega⟩
      simp only [mo_some_27, List.head?_nil, pb_zon, if_true, zlet, hx.1]
  | cons c b ih =>
    intro a M u S e h hf0 hx hq hS hin h31 hlen fuel hf
    have hlk : a.length + (b.length + 1) ≤ 4 := by
      have := congrArg List.length e
      simp at this
      omega
    cases fuel with
    | zero => cases hf
    | succ fuel =>
      have hc : c ∈ py_ks P n := by rw [e]; simp
      have hcd := ok_kid hP hn hc
      have hcg := ok_khg hP hn hc
      rw [Bs_cons] at hlen ⊢
      rw [List.head?_cons, pb_zos, hstep M h hf0 c hc]
      cases hs : sel c
      · obtain ⟨M', S', u', g1, g2, g3, g4, g5, g6, g7, g8, g9⟩ := ih (a ++ [c]) M u S (by rw [e]; simp) h hf0 hx hq (by simp; omega) hin h31 (by omega) fuel (by simp at hf; omega)
        refine ⟨M', S', u', ?_, g2, g3, ?_, g5, g6, g7, g8, by omega⟩
        · rw [← g1]
          simp only [mo_some_69, pb_zbf, if_true, mo_some_234, mr_nx h hn e, Option.bind_some]
        · rw [g4]
          simp [py_sm, hs]
      · have hfc := hfl c hc
        obtain ⟨M1, e1, e2, e3, e4⟩ := hR c hc hs M (tt ++ u) (pr + 1) h hx (by rw [h31, nI_1]) (by omega) (by omega)
        have h1 := mp_S h e3
        have hqq : mq_x am M1 pr 0 S := by
          intro i p hp
          have hi := (List.getElem?_eq_some_iff.mp hp).1
          have := hq i p hp
          rw [e3.2.2.2.2.2.2 20 (am + 19) _ (by simp [sh_W]; omega), e3.2.2.2.2.2.2 20 (am + 20) _ (by simp [sh_W]; omega)]
          exact this
        have hLF := pb_LF
        have hx1 : (tt ++ u).length ≤ (tt ++ u ++ f c).length := by simp
        obtain ⟨M2, k1, k2, k3, k4, k5⟩ := mr_some_107 (d := d) R1 R2 R3 R4 R5 (fun p0 p1 p2 p3 p4 p5 p6 p7 p8 m => mo_some_27 R1 R2 R3 R4 R5 d fuel p0 p1 p2 p3 p4 p5 p6 p7 p8 m) (nI r) (nI n) v3 v4 v5 (nI tt.length) (nI c) (fr := (tt ++ u).length) (pr := pr) (by omega) hx1 S.reverse [] M1 h1.2.1 e2 (by
          intro p hp
          have := hin p (by simpa using hp)
          omega) (by simp; omega) (by simpa using hqq) (by intro i p hp; simp at hp) zLF (by simp; omega)
        simp only [List.length_reverse, List.length_nil, Nat.add_zero] at k1
        have hdrop : (tt ++ u ++ f c).drop (tt ++ u).length = f c := by simp
        have hln : (tt ++ u ++ f c).length - (tt ++ u).length = (f c).length := by simp; omega
        rw [hdrop, hln] at k2
        have h2 := mp_S h1 k4
        have hf2 : zf (sh_W am tt.length pr) M M2 := zf_trans (zf_mono e3 (sh_mono (by simp) (by omega))) (zf_mono k4 (sh_mono (by simp) (Nat.le_refl _)))
        rw [List.append_assoc] at k3
        have hSl : (py_inp (fun p => py_ah (f c) (py_wo (tt ++ u ++ f c) p)) ((tt ++ u).length, (f c).length) S.reverse []).length = S.length + 1 := by
          rw [inp_len]
          simp
        have hlen3 : (tt ++ (u ++ f c)).length = (tt ++ u).length + (f c).length := by simp; omega
        obtain ⟨M', S', u', g1, g2, g3, g4, g5, g6, g7, g8, g9⟩ := ih (a ++ [c]) M2 (u ++ f c) _ (by rw [e]; simp) h2 (zf_trans hf0 hf2) k3 k2 (by rw [hSl]; simp; omega) (by
          intro p hp
          rcases inp_mem _ _ _ _ _ hp with q | q | q
          · rw [q, hlen3]
            omega
          · have := hin p (by simpa using q)
            omega
          · cases q) (by rw [k5, e4]; exact h31) (by omega) fuel (by simp at hf; omega)
        refine ⟨M', S', u', ?_, g2, g3, ?_, g5, g6, zf_trans hf2 g7, g8, by simp at g9; omega⟩
        · rw [← g1, hSl]
          have e5 : 5 * nI pr = nI (5 * pr) := pk_mul 5 pr
          simp only [mo_some_69, pb_zbt]
          rw [if_neg (by decide)]
          simp only [zlet, hx.1, e1, Option.bind_some, e4, h31, e5, k1]
          simp only [mo_some_234, mr_nx h2 hn e, Option.bind_some]
        · rw [g4]
          have hm := inp_map (py_wo (tt ++ (u ++ f c))) (fun p => py_ah (f c) (py_wo (tt ++ u ++ f c) p)) (py_ah (f c)) ((tt ++ u).length, (f c).length) S.reverse [] (by
            intro p hp
            rw [List.append_assoc])
          have hw1 : py_wo (tt ++ (u ++ f c)) ((tt ++ u).length, (f c).length) = f c := by
            unfold py_wo
            rw [← List.append_assoc, hdrop]
            simp
          have hw2 : S.map (py_wo (tt ++ (u ++ f c))) = S.map (py_wo (tt ++ u)) := by
            refine List.map_congr_left ?_
            intro p hp
            rw [← List.append_assoc]
            exact wo_app (hin p hp)
          rw [hm, hw1, List.map_reverse, hw2]
          simp [py_sm, hs, py_ins]
theorem mr_some_b {n pr : Nat} {tt : List Nat} {M : zM} {f : Nat → List Nat} {sel : Nat → Bool} (hd : 0 < d) (h : mp_ok am M r P) (hx : mt_x am M tt) (h31 : zm_I M 12 am 31 + 1 = nI pr) (hn : py_dm P n) (hk : py_kd P n = 4) (hpr : pr + py_hg P n ≤ 60) (hlen : tt.length + 2 * py_B P n ≤ 12000) (v3 v4 v5 : Int32) (hstep : ∀ M', mp_ok am M' r P → zf (sh_W am tt.length pr) M M' → ∀ c, c ∈ py_ks P n → ∀ fuel v7, mo_some_27 R1 R2 R3 R4 R5 d (fuel + 1) am (nI r) (nI n) v3 v4 v5 (nI tt.length) v7 (nI c) M' = mo_some_69 R1 R2 R3 R4 R5 (fun p0 p1 p2 p3 p4 p5 p6 p7 p8 m => mo_some_27 R1 R2 R3 R4 R5 d fuel p0 p1 p2 p3 p4 p5 p6 p7 p8 m) d am (nI r) (nI n) v3 v4 v5 (nI tt.length) v7 (nI c) (zb (sel c)) M') (hR : ∀ c, c ∈ py_ks P n → sel c = true → sh_S P f am r R1 0 c) (hfl : ∀ c, c ∈ py_ks P n → (f c).length ≤ py_B P c) : ∃ M', mo_some_b R1 R2 R3 R4 R5 d am (nI r) (nI n) v3 v4 v5 M = some (1, M') ∧ mt_x am M' (tt ++ (py_sm sel f (py_ks P n) []).flatten) ∧ zf (sh_W am tt.length pr) M M' ∧ zm_I M' 12 am 31 = zm_I M 12 am 31 := by
  have hB := Bs_le h.1 hn (by omega)
  have hLF := pb_LF
  have hLF2 : 12000 < zLF := by unfold zLF; exact Nat.lt_of_sub_pos (Nat.pos_of_ne_zero (by decide))
  have hln := ok_ln h.1 hn
  have hfz : zf (sh_W am tt.length pr) M (zm_setI M 12 am 31 (nI pr)) := zf_set (.inl ⟨rfl, rfl, .inr rfl⟩)
  have h0 := mp_S h hfz
  have hx0 : mt_x am (zm_setI M 12 am 31 (nI pr)) (tt ++ []) := by
    rw [List.append_nil]
    refine ⟨by rw [pm_ne (by omega)]; exact hx.1, hx.2.1, ?_, hx.2.2.2⟩
    intro i x hi
    rw [pm_ne (by omega)]
    exact hx.2.2.1 i x hi
  obtain ⟨M1, S, u, g1, g2, g3, g4, g5, g6, g7, g8, g9⟩ := mr_some_27 (d := d) R1 R2 R3 R4 R5 (f := f) (sel := sel) (M0 := M) h.1 hn hk hpr v3 v4 v5 hstep hR hfl (py_ks P n) [] (zm_setI M 12 am 31 (nI pr)) [] [] rfl h0 hfz hx0 (by intro i p hp; simp at hp) (by simp) (by intro p hp; cases hp) pm_same (by simp; omega) zLF (by omega)
  simp only [List.length_nil, Nat.zero_add, List.map_nil] at g1 g4 g9
  have h1 := mp_S h0 g7
  have hsm := sm_len (P := P) (sel := sel) (S := []) hfl
  rw [← g4] at hsm
  simp only [List.flatten_nil, List.length_nil, Nat.zero_add] at hsm
  have hx1 : mt_x am M1 (tt ++ u ++ []) := by simpa using g2
  obtain ⟨M2, k1, k2, k3, k4⟩ := mr_some_255 (d := d) R1 R2 R3 R4 R5 (T := tt ++ u) (S := S) (pr := pr) (L := tt.length) (by omega) hd g6 g5 (by simp) (nI tt.length) (nI (tt ++ u).length) S [] M1 [] rfl h1.2.1 hx1 g3 g8 (by simp only [List.append_nil, List.length_append]; omega) zLF (by omega)
  simp only [List.nil_append, List.append_assoc] at k2
  have h2 := mp_S h1 k3
  have h26 := k2.2.2.2
  obtain ⟨M3, l1, l2, l3, l4⟩ := mr_some_319 (d := d) R1 R2 R3 R4 R5 (tt := tt) (x := u) (w := (S.map (py_wo (tt ++ u))).flatten) (pr := pr) (pr0 := pr) (by simp only [List.length_append]; omega) _ 0 M2 h2.2.1 (Nat.zero_add _) k2.1 k4 (by
    intro i z hz _
    have hg : (tt ++ (u ++ (S.map (py_wo (tt ++ u))).flatten))[(tt ++ u).length + i]? = some z := by
      rw [← List.append_assoc, List.getElem?_append_right (by omega), Nat.add_sub_cancel_left]
      exact hz
    exact ⟨k2.2.2.1 _ _ hg, h26 z (List.mem_of_getElem? hg)⟩) zLF (by omega)
  rw [Nat.add_zero] at l1
  have hfin : zf (sh_W am tt.length pr) M M3 := zf_trans hfz (zf_trans g7 (zf_trans (zf_mono k3 (sh_mono (Nat.le_refl _) (by omega))) l4))
  refine ⟨zm_setI (zm_setI M3 12 am 28 (nI (tt ++ (S.map (py_wo (tt ++ u))).flatten).length)) 12 am 31 (nI pr - 1), ?_, ?_, zf_trans hfin (zf_trans (zf_set (.inl ⟨rfl, rfl, .inl rfl⟩)) (zf_set (.inl ⟨rfl, rfl, .inr rfl⟩))), ?_⟩
  · unfold mo_some_b
    simp only [zlet, h31, pm_ne (show (12 : Nat) ≠ 12 ∨ am ≠ am ∨ (28 : Nat) ≠ 31 from .inr (.inr (by decide))), hx.1, mr_ks h0 hn, Option.bind_some]
    have z1 := g1
    rw [pb_n0] at z1
    rw [z1]
    have z2 := k1
    rw [List.length_nil, pb_n0] at z2
    rw [z2, l1]
  · rw [← g4]
    refine ⟨?_, by simp only [List.length_append]; omega, ?_, ?_⟩
    · rw [pm_ne (by omega), pm_same]
    · intro i x hi
      rw [pm_ne (by omega), pm_ne (by omega)]
      by_cases e : i < tt.length
      · rw [l3 i (by omega)]
        refine k2.2.2.1 i x ?_
        rw [List.getElem?_append_left e]
        rw [List.getElem?_append_left e] at hi
        exact hi
      · rw [List.getElem?_append_right (by omega)] at hi
        have := l2 _ x hi (by omega)
        rw [← this]
        congr 1
        omega
    · intro x hxm
      refine h26 x ?_
      rcases List.mem_append.mp hxm with q | q
      · exact List.mem_append_left _ q
      · exact List.mem_append_right _ (List.mem_append_right _ q)
  · rw [pm_same, ← h31]
    exact Int32.add_sub_cancel _ _
end
