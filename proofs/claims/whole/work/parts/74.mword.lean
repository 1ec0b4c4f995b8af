/-! THE MODEL: the shortest word of every node -/
section
variable {am r d : Nat} {P : yP}
variable (R1 : Nat → Int32 → Int32 → Int32 → zM → Option (Int32 × zM)) (R2 : Nat → Int32 → Int32 → zM → Option (Int32 × zM)) (R3 : Nat → Int32 → Int32 → Int32 → zM → Option (Int32 × zM)) (R4 : Nat → Int32 → Int32 → zM → Option (Int32 × zM)) (R5 : Nat → Int32 → Int32 → Int32 → Int32 → Int32 → zM → Option (Int32 × zM))
theorem mr_all_17 {n pr : Nat} {f : Nat → List Nat} (hP : py_ok P) (hn : py_dm P n) (hpr : pr + py_hg P n ≤ 60) (hR : ∀ c, c ∈ py_ks P n → sh_S P f am r R1 0 c) (hfl : ∀ c, c ∈ py_ks P n → (f c).length ≤ py_B P c) : ∀ (b a : List Nat) (M : zM) (t : List Nat), py_ks P n = a ++ b → mp_ok am M r P → mt_x am M t → zm_I M 12 am 31 + 1 = nI pr → t.length + 2 * py_Bs P b ≤ 12000 → ∀ fuel, b.length < fuel → ∃ M', mo_all_17 R1 R2 R3 R4 R5 d fuel am (nI r) (zo b.head?) M = some (1, M') ∧ mt_x am M' (t ++ b.flatMap f) ∧ zf (sh_W am t.length pr) M M' ∧ zm_I M' 12 am 31 = zm_I M 12 am 31 := by
  intro b
  induction b with
  | nil =>
    intro a M t e h hx h31 hlen fuel hf
    cases fuel with
    | zero => cases hf
    | succ fuel => exact ⟨M, by simp [mo_all_17, zo], by simpa using hx, zf_refl _ _, rfl⟩
  | cons c b ih =>
    intro a M t e h hx h31 hlen fuel hf
    cases fuel with
    | zero => cases hf
    | succ fuel =>
      have hc : c ∈ py_ks P n := by rw [e]; simp
      have hcd := ok_kid hP hn hc
      have hcg := ok_khg hP hn hc
      have h4 := ok_400 hP hcd
      have hfc := hfl c hc
      have hne : ¬ nI c = -1 := pb_ne1 (by omega)
      rw [Bs_cons] at hlen
      obtain ⟨M1, e1, e2, e3, e4⟩ := hR c hc M t pr h hx h31 (by omega) (by omega)
      have h1 := mp_S h e3
      obtain ⟨M2, f1, f2, f3, f4⟩ := ih (a ++ [c]) M1 (t ++ f c) (by rw [e]; simp) h1 e2 (by rw [e4]; exact h31) (by simp; omega) fuel (by simp at hf; omega)
      refine ⟨M2, ?_, by simpa using f2, zf_trans e3 (zf_mono f3 (sh_mono (by simp) (Nat.le_refl _))), f4.trans e4⟩
      simp only [mo_all_17, List.head?_cons, pb_zos, if_neg hne, e1, Option.bind_some]
      rw [if_neg (by decide), mr_nx h1 hn e]
      simp only [Option.bind_some, f1]
theorem mr_least_17 {n pr : Nat} {f : Nat → List Nat} {must : Int32} (hd : 0 < d) (hP : py_ok P) (hn : py_dm P n) (hpr : pr + py_hg P n ≤ 60) (hR : ∀ c, c ∈ py_ks P n → sh_S P f am r R1 must c) (hfl : ∀ c, c ∈ py_ks P n → (f c).length ≤ py_B P c) {t : List Nat} : ∀ (b a : List Nat) (M : zM) (u : List Nat), py_ks P n = a ++ b → mp_ok am M r P → mt_x am M (t ++ u) → zm_I M 12 am 31 + 1 = nI pr → (t ++ u).length + 2 * py_Bs P b ≤ 12000 → ∀ fuel, b.length < fuel → ∃ M', mo_least_17 R1 R2 R3 R4 R5 d fuel am (nI r) must (nI t.length) 1 (zo b.head?) M = some (1, M') ∧ mt_x am M' (t ++ b.foldl (fun u c => if py_ls (f c) u then f c else u) u) ∧ zf (sh_W am t.length pr) M M' ∧ zm_I M' 12 am 31 = zm_I M 12 am 31 := by
  intro b
  induction b with
  | nil =>
    intro a M u e h hx h31 hlen fuel hf
    cases fuel with
    | zero => cases hf
    | succ fuel => exact ⟨M, by simp [mo_least_17, zo], by simpa using hx, zf_refl _ _, rfl⟩
  | cons c b ih =>
    intro a M u e h hx h31 hlen fuel hf
    cases fuel with
    | zero => cases hf
    | succ fuel =>
      have hc : c ∈ py_ks P n := by rw [e]; simp
      have hcd := ok_kid hP hn hc
      have hcg := ok_khg hP hn hc
      have h4 := ok_400 hP hcd
      have hfc := hfl c hc
      have hne : ¬ nI c = -1 := pb_ne1 (by omega)
      rw [Bs_cons] at hlen
      obtain ⟨M1, e1, e2, e3, e4⟩ := hR c hc M (t ++ u) pr h hx h31 (by omega) (by omega)
      have h1 := mp_S h e3
      rw [List.append_assoc] at e2
      obtain ⟨M2, f1, f2, f3, f4⟩ := mr_keepsLess (d := d) h1.2.1 e2 hd pr
      have h2 := mp_S h1 f3
      have hul : (if py_ls (f c) u then f c else u).length ≤ u.length + py_B P c := by
        split <;> omega
      obtain ⟨M3, g1, g2, g3, g4⟩ := ih (a ++ [c]) M2 (if py_ls (f c) u then f c else u) (by rw [e]; simp) h2 f2 (by rw [f4, e4]; exact h31) (by simp only [List.length_append] at hlen ⊢; omega) fuel (by simp at hf; omega)
      refine ⟨M3, ?_, by simpa using g2, zf_trans (zf_mono e3 (sh_mono (by simp) (Nat.le_refl _))) (zf_trans f3 g3), g4.trans (f4.trans e4)⟩
      simp only [mo_least_17, List.head?_cons, pb_zos, if_neg hne, zlet, hx.1, e1, Option.bind_some]
      rw [if_neg (by decide), if_neg (by decide), f1]
      simp only [Option.bind_some, mo_least_56, mo_least_59, mr_nx h2 hn e, g1]
theorem mr_shortestCount_66 {pr : Nat} (hd : 0 < d) {t w : List Nat} : ∀ (m k : Nat) (M : zM), ml_ok am M → mt_x am M (t ++ (List.replicate (k + 1) w).flatten) → (t ++ (List.replicate (k + 1 + m) w).flatten).length ≤ 12000 → k + 1 + m ≤ 12 → ∀ fuel, m < fuel → ∃ M', mo_shortestCount_66 R1 R2 R3 R4 R5 d fuel am (nI t.length) (nI (t ++ w).length) (nI (k + 1 + m)) (nI (k + 1)) M = some (1, M') ∧ mt_x am M' (t ++ (List.replicate (k + 1 + m) w).flatten) ∧ zf (sh_W am t.length pr) M M' ∧ zm_I M' 12 am 31 = zm_I M 12 am 31 := by
  intro m
  induction m with
  | zero =>
    intro k M hl hx hlen hk fuel hf
    cases fuel with
    | zero => cases hf
    | succ fuel => exact ⟨M, by simp [mo_shortestCount_66], by simpa using hx, zf_refl _ _, rfl⟩
  | succ m ih =>
    intro k M hl hx hlen hk fuel hf
    cases fuel with
    | zero => cases hf
    | succ fuel =>
      have hge : ¬ nI (k + 1 + (m + 1)) ≤ nI (k + 1) := nI_ge (by omega) (by omega)
      have hw : w.length ≤ (List.replicate (k + 1) w).flatten.length := by
        rw [List.replicate_succ, List.flatten_cons]
        simp
      have hlen2 : (t ++ (List.replicate (k + 1) w).flatten).length + w.length ≤ 12000 := by
        have e5 : (t ++ (List.replicate (k + 1 + (m + 1)) w).flatten).length = t.length + (k + 1 + (m + 1)) * w.length := by simp
        have e6 : (t ++ (List.replicate (k + 1) w).flatten).length = t.length + (k + 1) * w.length := by simp
        rw [e5] at hlen
        rw [e6]
        have : (k + 1) * w.length + w.length ≤ (k + 1 + (m + 1)) * w.length := by
          have : (k + 1) * w.length + w.length = (k + 1 + 1) * w.length := by rw [Nat.add_mul (k + 1) 1, Nat.one_mul]
          rw [this]
          exact Nat.mul_le_mul (by omega) (Nat.le_refl _)
        omega
      obtain ⟨M1, e1, e2, e3, e4⟩ := mr_again (d := d) hl hx hd pr t.length (by simp) (a := t.length) (e := (t ++ w).length) (by simp) (by simp only [List.length_append]; omega) (by simp only [List.length_append] at hlen2 ⊢; omega)
      have ew : ((t ++ (List.replicate (k + 1) w).flatten).drop t.length).take ((t ++ w).length - t.length) = w := by
        rw [List.drop_left, List.replicate_succ, List.flatten_cons]
        simp
      rw [ew] at e2
      have er : t ++ (List.replicate (k + 1) w).flatten ++ w = t ++ (List.replicate (k + 1 + 1) w).flatten := by
        rw [List.replicate_succ' (n := k + 1), List.flatten_append]
        simp
      rw [er] at e2
      have e7 : k + 1 + 1 + m = k + 1 + (m + 1) := by omega
      obtain ⟨M2, f1, f2, f3, f4⟩ := ih (k + 1) M1 (ml_zf hl e3) e2 (by rw [e7]; exact hlen) (by omega) fuel (by omega)
      rw [e7] at f1 f2
      refine ⟨M2, ?_, f2, zf_trans e3 f3, f4.trans e4⟩
      rw [← f1]
      simp only [mo_shortestCount_66, if_neg hge, e1, Option.bind_some, zlet, nI_1]
end
theorem gs_1 (d a0 : Nat) (a1 a2 a3 : Int32) (M : zM) : (gmo_shortest (d + 1)).1 a0 a1 a2 a3 M = mo_shortest_b (gmo_shortest d).1 (gmo_shortest d).2.1 (gmo_shortest d).2.2.1 (gmo_shortest d).2.2.2.1 (gmo_shortest d).2.2.2.2 d a0 a1 a2 a3 M := by rw [gmo_shortest.eq_2]
theorem gs_2 (d a0 : Nat) (a1 a2 : Int32) (M : zM) : (gmo_shortest (d + 1)).2.1 a0 a1 a2 M = mo_shortestCount_b (gmo_shortest d).1 (gmo_shortest d).2.1 (gmo_shortest d).2.2.1 (gmo_shortest d).2.2.2.1 (gmo_shortest d).2.2.2.2 d a0 a1 a2 M := by rw [gmo_shortest.eq_2]
theorem gs_3 (d a0 : Nat) (a1 a2 a3 : Int32) (M : zM) : (gmo_shortest (d + 1)).2.2.1 a0 a1 a2 a3 M = mo_least_b (gmo_shortest d).1 (gmo_shortest d).2.1 (gmo_shortest d).2.2.1 (gmo_shortest d).2.2.2.1 (gmo_shortest d).2.2.2.2 d a0 a1 a2 a3 M := by rw [gmo_shortest.eq_2]
theorem gs_4 (d a0 : Nat) (a1 a2 : Int32) (M : zM) : (gmo_shortest (d + 1)).2.2.2.1 a0 a1 a2 M = mo_all_b (gmo_shortest d).1 (gmo_shortest d).2.1 (gmo_shortest d).2.2.1 (gmo_shortest d).2.2.2.1 (gmo_shortest d).2.2.2.2 d a0 a1 a2 M := by rw [gmo_shortest.eq_2]
theorem gs_5 (d a0 : Nat) (a1 a2 a3 a4 a5 : Int32) (M : zM) : (gmo_shortest (d + 1)).2.2.2.2 a0 a1 a2 a3 a4 a5 M = mo_some_b (gmo_shortest d).1 (gmo_shortest d).2.1 (gmo_shortest d).2.2.1 (gmo_shortest d).2.2.2.1 (gmo_shortest d).2.2.2.2 d a0 a1 a2 a3 a4 a5 M := by rw [gmo_shortest.eq_2]
section
variable {am r d : Nat} {M : zM} {P : yP}
/-- what is said of the whole group at a node with so many calls left -/
def sh_G (P : yP) (am r d n : Nat) : Prop := sh_S P (py_wd P) am r (gmo_shortest d).1 0 n ∧ (py_nu P n = false → sh_S P (py_wd P) am r (gmo_shortest d).1 1 n)
theorem nu_kids3 (h : py_ok P) {n : Nat} (hn : py_dm P n) (hk : py_kd P n = 3) (hu : py_nu P n = false) {c : Nat} (hc : c ∈ py_ks P n) : py_nu P c = false := by
  rw [nu_eq h hn] at hu
  unfold py_ng at hu
  rw [if_neg (by omega), if_neg (by omega), if_pos hk] at hu
  cases hb : py_nu P c
  · rfl
  · have : (py_ks P n).any (py_nu P) = true := List.any_eq_true.mpr ⟨c, hc, hb⟩
    rw [this] at hu
    cases hu
theorem nu_kid5 (h : py_ok P) {n c : Nat} (hn : py_dm P n) (hk : py_kd P n = 5) (hu : py_nu P n = false) (hc : py_ks P n = [c]) : py_nu P c = false ∧ py_fr P (py_nb P n) ≠ 0 := by
  rw [nu_eq h hn] at hu
  unfold py_ng at hu
  rw [if_neg (by omega), if_neg (by omega), if_neg (by omega), hc] at hu
  by_cases q : py_fr P (py_nb P n) = 0
  · rw [if_pos ⟨hk, q⟩] at hu
    cases hu
  · rw [if_neg (fun x => q x.2)] at hu
    exact ⟨by simpa using hu, q⟩
theorem nu_k1 (h : py_ok P) {n : Nat} (hn : py_dm P n) (hk : py_kd P n = 1) : py_nu P n = true := by
  rw [nu_eq h hn]
  unfold py_ng
  rw [if_neg (by omega), if_pos hk]
/-- a count's words -/
theorem mr_shortestCount (h : mp_ok am M r P) (hd : 32 ≤ d) {n : Nat} (hn : py_dm P n) (hk : py_kd P n = 5) (hu : py_nu P n = false) (hG : ∀ c, c ∈ py_ks P n → sh_G P am r d c) {t : List Nat} {pr : Nat} (hx : mt_x am M t) (h31 : zm_I M 12 am 31 + 1 = nI pr) (hpr : pr + py_hg P n ≤ 60) (hlen : t.length + 2 * py_B P n ≤ 12000) : ∃ M', (gmo_shortest (d + 1)).2.1 am (nI r) (nI n) M = some (1, M') ∧ mt_x am M' (t ++ py_wd P n) ∧ zf (sh_W am t.length pr) M M' ∧ zm_I M' 12 am 31 = zm_I M 12 am 31 := by
  have h5 := ok_k5 h.1 hn hk
  obtain ⟨⟨c, hc, _⟩, hnc, _⟩ := h5
  have hcm : c ∈ py_ks P n := by rw [hc]; simp
  have hcd := ok_kid h.1 hn hcm
  have hcg := ok_khg h.1 hn hcm
  have hc30 := ok_hg30 h.1 hcd
  have hfr := ok_fr h.1 hnc
  have hnu := nu_kid5 h.1 hn hk hu hc
  have hB := Bs_5 h.1 hn hk hc
  have hwl := wd_len h.1 c hcd
  obtain ⟨M1, e1, e2, e3, e4⟩ := (hG c hcm).2 hnu.1 M t pr h hx h31 (by omega) (by omega)
  have h1 := mp_S h e3
  have hmax : 1 ≤ max 1 (py_fr P (py_nb P n)) ∧ max 1 (py_fr P (py_nb P n)) ≤ 12 := by omega
  have hwd : py_wd P n = (List.replicate (max 1 (py_fr P (py_nb P n))) (py_wd P c)).flatten := by
    rw [wd_eq h.1 hn]
    unfold py_wg
    rw [hu, if_neg (by decide), if_neg (by omega), if_neg (by omega), if_neg (by omega), if_neg (by omega), if_pos hk, hc]
    simp
  have hwn := wd_len h.1 n hn
  rw [hwd] at hwn ⊢
  generalize hmm : max 1 (py_fr P (py_nb P n)) = mm at *
  have hLF := pb_LF
  have hx1 : mt_x am M1 (t ++ (List.replicate (0 + 1) (py_wd P c)).flatten) := by simpa using e2
  have em : 0 + 1 + (mm - 1) = mm := by omega
  obtain ⟨M2, f1, f2, f3, f4⟩ := mr_shortestCount_66 (d := d) (gmo_shortest d).1 (gmo_shortest d).2.1 (gmo_shortest d).2.2.1 (gmo_shortest d).2.2.2.1 (gmo_shortest d).2.2.2.2 (pr := pr) (by omega) (t := t) (w := py_wd P c) (mm - 1) 0 M1 h1.2.1 hx1 (by rw [em, List.length_append]; omega) (by omega) zLF (by omega)
  rw [em] at f1 f2
  refine ⟨M2, ?_, f2, zf_trans e3 f3, f4.trans e4⟩
  rw [gs_2]
  unfold mo_shortestCount_b
  simp only [zlet, hx.1, mr_ks h hn, hc, List.head?_cons, pb_zos, Option.bind_some, e1]
  rw [if_neg (by decide)]
  simp only [e2.1, mr_ks h1 hn, hc, List.head?_cons, pb_zos, Option.bind_some, mr_isNull h1 c hcd d (by omega), hnu.1, pb_zbf, if_true, mr_nb h1 hn (.inr (.inr hk)), mr_fr h1 hnc]
  have : (if 1 < nI (py_fr P (py_nb P n)) then nI (py_fr P (py_nb P n)) else 1) = nI mm := by
    rw [← hmm]
    exact pb_max (a := 1) (by omega) (by omega)
  rw [this]
  exact f1
theorem mr_least (h : mp_ok am M r P) (hd : 1 ≤ d) {n : Nat} (hn : py_dm P n) (hk : py_kd P n = 3) (hu : py_nu P n = false) (hG : ∀ c, c ∈ py_ks P n → sh_G P am r d c) {must : Int32} (hm : must = 0 ∨ must = 1) {t : List Nat} {pr : Nat} (hx : mt_x am M t) (h31 : zm_I M 12 am 31 + 1 = nI pr) (hpr : pr + py_hg P n ≤ 60) (hlen : t.length + 2 * py_B P n ≤ 12000) : ∃ M', (gmo_shortest (d + 1)).2.2.1 am (nI r) (nI n) must M = some (1, M') ∧ mt_x am M' (t ++ py_wd P n) ∧ zf (sh_W am t.length pr) M M' ∧ zm_I M' 12 am 31 = zm_I M 12 am 31 := by
  have hR : ∀ c, c ∈ py_ks P n → sh_S P (py_wd P) am r (gmo_shortest d).1 must c := by
    intro c hc
    rcases hm with q | q
    · rw [q]; exact (hG c hc).1
    · rw [q]; exact (hG c hc).2 (nu_kids3 h.1 hn hk hu hc)
  have hB := Bs_le h.1 hn (by omega)
  have hLF := pb_LF
  have hln := ok_ln h.1 hn
  have hwd : py_wd P n = py_bst (py_wd P) (py_ks P n) := by
    rw [wd_eq h.1 hn]
    unfold py_wg
    rw [hu, if_neg (by decide), if_neg (by omega), if_neg (by omega), if_pos hk]
  have h2k := ok_k3 h.1 hn hk
  cases hl : py_ks P n with
  | nil => rw [hl] at h2k; simp at h2k
  | cons c b =>
    have hc : c ∈ py_ks P n := by rw [hl]; simp
    have hcd := ok_kid h.1 hn hc
    have hcg := ok_khg h.1 hn hc
    have h4 := ok_400 h.1 hcd
    have hne : ¬ nI c = -1 := pb_ne1 (by omega)
    have hwl := wd_len h.1 c hcd
    rw [hl, Bs_cons] at hB
    rw [hl] at hln
    simp only [List.length_cons] at hln
    obtain ⟨M1, e1, e2, e3, e4⟩ := hR c hc M t pr h hx h31 (by omega) (by omega)
    have h1 := mp_S h e3
    obtain ⟨M2, f1, f2, f3, f4⟩ := mr_least_17 (d := d) (gmo_shortest d).1 (gmo_shortest d).2.1 (gmo_shortest d).2.2.1 (gmo_shortest d).2.2.2.1 (gmo_shortest d).2.2.2.2 (must := must) (pr := pr) hd h.1 hn hpr hR (fun x hx => wd_len h.1 x (ok_kid h.1 hn hx)) (t := t) b [c] M1 (py_wd P c) (by rw [hl]; rfl) h1 e2 (by rw [e4]; exact h31) (by simp only [List.length_append]; omega) (zLF - 1) (by omega)
    refine ⟨M2, ?_, ?_, zf_trans e3 f3, f4.trans e4⟩
    · rw [gs_3]
      unfold mo_least_b
      have ez : zLF = zLF - 1 + 1 := by omega
      simp only [zlet, hx.1, mr_ks h hn, hl, List.head?_cons, pb_zos, Option.bind_some]
      rw [ez]
      simp only [mo_least_17, if_neg hne, zlet, e1, Option.bind_some, hx.1]
      rw [if_neg (by decide), if_pos trivial]
      simp only [mo_least_56, mo_least_59, mr_nx (a := []) (b := b) h1 hn hl, Option.bind_some, f1]
    · rw [hwd, hl]
      exact f2
theorem mr_all (h : mp_ok am M r P) (hd : 32 ≤ d) {n : Nat} (hn : py_dm P n) (hk : py_kd P n = 2 ∨ py_kd P n = 4) (hu : py_nu P n = false) (hG : ∀ c, c ∈ py_ks P n → sh_G P am r d c ∧ sh_G P am r (d + 1) c) {t : List Nat} {pr : Nat} (hx : mt_x am M t) (h31 : zm_I M 12 am 31 + 1 = nI pr) (hpr : pr + py_hg P n ≤ 60) (hlen : t.length + 2 * py_B P n ≤ 12000) : ∃ M', (gmo_shortest (d + 2)).2.2.2.1 am (nI r) (nI n) M = some (1, M') ∧ mt_x am M' (t ++ py_wd P n) ∧ zf (sh_W am t.length pr) M M' ∧ zm_I M' 12 am 31 = zm_I M 12 am 31 := by
  have hB := Bs_le h.1 hn (by omega)
  have hLF := pb_LF
  have hln := ok_ln h.1 hn
  rw [gs_4]
  unfold mo_all_b
  rcases hk with q | q
  · have hwd : py_wd P n = (py_ks P n).flatMap (py_wd P) := by
      rw [wd_eq h.1 hn]
      unfold py_wg
      rw [hu, if_neg (by decide), if_neg (by omega), if_pos q]
    obtain ⟨M1, e1, e2⟩ := mr_all_17 (d := d + 1) (gmo_shortest (d + 1)).1 (gmo_shortest (d + 1)).2.1 (gmo_shortest (d + 1)).2.2.1 (gmo_shortest (d + 1)).2.2.2.1 (gmo_shortest (d + 1)).2.2.2.2 (pr := pr) h.1 hn hpr (fun c hc => (hG c hc).2.1) (fun x hx => wd_len h.1 x (ok_kid h.1 hn hx)) (py_ks P n) [] M t rfl h hx h31 (by omega) zLF (by omega)
    rw [← hwd] at e2
    refine ⟨M1, ?_, e2⟩
    simp only [mr_kd h hn, q, pb_n2, Option.bind_some, if_true, mr_ks h hn, e1]
  · have hwd : py_wd P n = (py_sm (fun c => !py_nu P c) (py_wd P) (py_ks P n) []).flatten := by
      rw [wd_eq h.1 hn]
      unfold py_wg
      rw [hu, if_neg (by decide), if_neg (by omega), if_neg (by omega), if_neg (by omega), if_pos q]
    obtain ⟨M1, e1, e2⟩ := mr_some_b (d := d) (gmo_shortest d).1 (gmo_shortest d).2.1 (gmo_shortest d).2.2.1 (gmo_shortest d).2.2.2.1 (gmo_shortest d).2.2.2.2 (pr := pr) (tt := t) (f := py_wd P) (sel := fun c => !py_nu P c) (by omega) h hx h31 hn q hpr hlen (-1) (-1) (-1) (by
      intro M' h' _ c hc fuel v7
      have hcd := ok_kid h.1 hn hc
      have h4 := ok_400 h.1 hcd
      have h30 := ok_hg30 h.1 hcd
      have hne : ¬ nI c = -1 := pb_ne1 (by omega)
      simp only [mo_some_27, if_neg hne, if_true, mr_isNull h' c hcd d (by omega), Option.bind_some]
      cases py_nu P c
      · simp only [pb_zbf, if_true]
        rfl
      · rw [pb_zbt, if_neg (by decide)]
        rfl) (fun c hc _ => (hG c hc).1.1) (fun x hx => wd_len h.1 x (ok_kid h.1 hn hx))
    rw [← hwd] at e2
    refine ⟨M1, ?_, e2⟩
    simp only [mr_kd h hn, q, pb_n4, Option.bind_some]
    rw [if_neg (by decide), gs_5, e1]
    rfl
theorem mr_shortestG (hP : py_ok P) : ∀ n, py_dm P n → ∀ d, 3 * py_hg P n + 36 ≤ d → sh_G P am r d n := by
  refine ok_down hP _ ?_
  intro n hn ih d hd
  have hhg := ok_hg30 hP hn
  obtain ⟨d, rfl⟩ : ∃ d', d = d' + 3 := ⟨d - 3, by omega⟩
  have hG : ∀ c, c ∈ py_ks P n → ∀ k, sh_G P am r (d + k) c := by
    intro c hc k
    have := ok_khg hP hn hc
    exact ih c hc (d + k) (by omega)
  /- the road behind the question of the empty word -/
  have h15 : ∀ (must : Int32), must = 0 ∨ must = 1 → py_nu P n = false → ∀ (M : zM) (t : List Nat) (pr : Nat), mp_ok am M r P → mt_x am M t → zm_I M 12 am 31 + 1 = nI pr → pr + py_hg P n ≤ 60 → t.length + 2 * py_B P n ≤ 12000 → ∃ M', mo_shortest_15 (gmo_shortest (d + 2)).1 (gmo_shortest (d + 2)).2.1 (gmo_shortest (d + 2)).2.2.1 (gmo_shortest (d + 2)).2.2.2.1 (gmo_shortest (d + 2)).2.2.2.2 (d + 2) am (nI r) (nI n) must M = some (1, M') ∧ mt_x am M' (t ++ py_wd P n) ∧ zf (sh_W am t.length pr) M M' ∧ zm_I M' 12 am 31 = zm_I M 12 am 31 := by
    intro must hm hu M t pr h hx h31 hpr hlen
    unfold mo_shortest_15
    rw [mr_kd h hn]
    simp only [Option.bind_some]
    rcases ok_kd6 hP hn with q | q | q | q | q | q
    · have h0 := ok_k0 hP hn q
      have hB1 : 1 ≤ py_B P n := by
        have := wd_len hP n hn
        rw [wd_eq hP hn] at this
        unfold py_wg at this
        rw [hu, if_neg (by decide), if_pos q] at this
        simpa using this
      have hwd : py_wd P n = [py_lt P (py_nb P n)] := by
        rw [wd_eq hP hn]
        unfold py_wg
        rw [hu, if_neg (by decide), if_pos q]
      obtain ⟨M1, e1, e2⟩ := mr_writes (d := d + 2) h.2.1 hx (by omega) (ok_lt hP h0.2.1) pr
      rw [← hwd] at e2
      refine ⟨M1, ?_, e2⟩
      simp only [q, pb_n0, if_true, mr_nb h hn (.inl q), Option.bind_some, mr_lt h h0.2.1, e1]
    · rw [nu_k1 hP hn q] at hu
      cases hu
    · obtain ⟨M1, e1, e2⟩ := mr_all (d := d) h (by omega) hn (.inl q) hu (fun c hc => ⟨hG c hc 0, hG c hc 1⟩) hx h31 hpr hlen
      refine ⟨M1, ?_, e2⟩
      rw [q, pb_n2, if_neg (by decide), if_neg (by decide), if_pos rfl, mr_isNull h n hn (d + 2) (by omega), hu]
      simp only [Option.bind_some, pb_zbf, if_true, e1]
      rfl
    · obtain ⟨M1, e1, e2⟩ := mr_least (d := d + 1) h (by omega) hn q hu (fun c hc => hG c hc 1) hm hx h31 hpr hlen
      refine ⟨M1, ?_, e2⟩
      rw [q, pb_n3, if_neg (by decide), if_neg (by decide), if_neg (by decide), if_pos rfl, e1]
      rfl
    · obtain ⟨M1, e1, e2⟩ := mr_all (d := d) h (by omega) hn (.inr q) hu (fun c hc => ⟨hG c hc 0, hG c hc 1⟩) hx h31 hpr hlen
      refine ⟨M1, ?_, e2⟩
      rw [q, pb_n4, if_neg (by decide), if_neg (by decide), if_neg (by decide), if_neg (by decide), if_pos rfl, mr_isNull h n hn (d + 2) (by omega), hu]
      simp only [Option.bind_some, pb_zbf, if_true, e1]
      rfl
    · obtain ⟨M1, e1, e2⟩ := mr_shortestCount (d := d + 1) h (by omega) hn q hu (fun c hc => hG c hc 1) hx h31 hpr hlen
      refine ⟨M1, ?_, e2⟩
      rw [q, pb_n5, if_neg (by decide), if_neg (by decide), if_neg (by decide), if_neg (by decide), if_neg (by decide), if_pos rfl, e1]
      rfl
  constructor
  · intro M t pr h hx h31 hpr hlen
    rw [gs_1]
    unfold mo_shortest_b
    rw [if_pos rfl, mr_isNull h n hn (d + 2) (by omega)]
    simp only [Option.bind_some]
    cases hu : py_nu P n
    · simp only [pb_zbf, if_true]
      exact h15 0 (.inl rfl) hu M t pr h hx h31 hpr hlen
    · rw [pb_zbt, if_neg (by decide)]
      refine ⟨M, rfl, ?_, zf_refl _ _, rfl⟩
      have hwd : py_wd P n = [] := by
        rw [wd_eq hP hn]
        unfold py_wg
        rw [hu, if_pos rfl]
      rw [hwd]
      simpa using hx
  · intro hu M t pr h hx h31 hpr hlen
    rw [gs_1]
    unfold mo_shortest_b
    rw [if_neg (by decide)]
    exact h15 1 (.inr rfl) hu M t pr h hx h31 hpr hlen
theorem mr_wordOf (h : mp_ok am M r P) (hd : 130 ≤ d) (h31 : zm_I M 12 am 31 = -1) : ∃ M', mo_wordOf d am (nI r) M = some (nI (py_wd P (py_rt P)).length, M') ∧ mt_x am M' (py_wd P (py_rt P)) ∧ zf (mg am [28, 31] [18, 19, 20]) M M' ∧ zm_I M' 12 am 31 = -1 := by
  have hr := ok_rt h.1
  have hg := ok_hg h.1
  have hB := B_le h.1 hr
  cases d with
  | zero => omega
  | succ d =>
    have hz : zf (sh_W am 0 0) M (zm_setI M 12 am 28 0) := zf_set (.inl ⟨rfl, rfl, .inl rfl⟩)
    have h0 := mp_S h hz
    have hx0 : mt_x am (zm_setI M 12 am 28 0) [] := ⟨pm_same, by simp, by intro i x hx; simp at hx, by intro x hx; cases hx⟩
    have h310 : zm_I (zm_setI M 12 am 28 0) 12 am 31 = zm_I M 12 am 31 := pm_ne (by omega)
    obtain ⟨M1, e1, e2, e3, e4⟩ := (mr_shortestG (am := am) (r := r) h.1 (py_rt P) hr d (by omega)).1 _ [] 0 h0 hx0 (by rw [h310, h31]; decide) (by omega) (by simp; omega)
    refine ⟨M1, ?_, by simpa using e2, zf_mono (zf_trans hz e3) sh_mg, by rw [e4, h310, h31]⟩
    show mo_wordOf_b d am (nI r) M = _
    unfold mo_wordOf_b mo_shortest
    simp only [zlet, mr_rt h0, Option.bind_some, e1, e2.1]
    simp
end
