/-! THE MODEL: by which word two rules part -/
def py_oe (P : yP) (a : Option yS) : Bool := match a with
  | none => false
  | some s => py_ce P s
def py_os (P : yP) (a : Option yS) (l : Nat) : Option yS := match a with
  | none => none
  | some s => match py_fd P s l with
    | none => none
    | some W => some (py_go P s W)
def py_fl2 (f : Nat → Option (List Nat)) : List Nat → Option (List Nat)
  | [] => none
  | l :: ls => match f l with
    | some w => some (l :: w)
    | none => py_fl2 f ls
def py_df (P Q : yP) : Nat → Option yS → Option yS → Option (List Nat)
  | 0, a, b => if py_oe P a != py_oe Q b then some [] else none
  | m + 1, a, b => py_fl2 (fun l => py_df P Q m (py_os P a l) (py_os Q b l)) (List.range' 0 26)
theorem os_n {P : yP} {s : yS} {l : Nat} (h : py_fd P s l = none) : py_os P (some s) l = none := by simp [py_os, h]
theorem os_s {P : yP} {s : yS} {l : Nat} {W : yW} (h : py_fd P s l = some W) : py_os P (some s) l = some (py_go P s W) := by simp [py_os, h]
theorem fl2_none {f : Nat → Option (List Nat)} : ∀ l, (∀ x, x ∈ l → f x = none) → py_fl2 f l = none := by
  intro l
  induction l with
  | nil => intro _; rfl
  | cons x l ih =>
    intro h
    unfold py_fl2
    rw [h x List.mem_cons_self]
    exact ih (fun y hy => h y (List.mem_cons_of_mem _ hy))
theorem df_none (P Q : yP) : ∀ m, py_df P Q m none none = none := by
  intro m
  induction m with
  | zero => simp [py_df, py_oe]
  | succ m ih =>
    unfold py_df
    refine fl2_none _ ?_
    intro x _
    exact ih
def pf_W (am kk t k j : Nat) : Prop := mw_W am t k j ∨ (t = 12 ∧ k = am ∧ (j = 35 ∨ j = 36)) ∨ (t = 20 ∧ k = am + 23 ∧ ((13 * (kk + 1) ≤ j ∧ j < 78) ∨ 78 + 13 * (kk + 1) ≤ j)) ∨ (t = 20 ∧ k = am + 32 ∧ kk ≤ j)
theorem pf_mg {am kk : Nat} : ∀ t k j, pf_W am kk t k j → mg am [26, 35, 36] [14, 15, 16, 17, 23, 32] t k j := by
  intro t k j h
  rcases h with h | h | h | h
  · exact mg_mono (by simp) (by simp) t k j h
  · refine .inl ⟨h.1, h.2.1, ?_⟩
    rcases h.2.2 with h3 | h3 <;> simp [h3]
  · exact .inr ⟨.inl h.1, 23, by simp, h.2.1⟩
  · exact .inr ⟨.inl h.1, 32, by simp, h.2.1⟩
theorem pf_mono {am kk : Nat} : ∀ t k j, pf_W am (kk + 1) t k j → pf_W am kk t k j := by
  intro t k j h
  rcases h with h | h | h | h
  · exact .inl h
  · exact .inr (.inl h)
  · refine .inr (.inr (.inl ⟨h.1, h.2.1, ?_⟩))
    have := h.2.2
    omega
  · exact .inr (.inr (.inr ⟨h.1, h.2.1, by have := h.2.2; omega⟩))
theorem pf_ws1 {am kk : Nat} (hk : kk ≤ 4) : ∀ t k j, ws_W am (13 * (kk + 1)) t k j → pf_W am kk t k j := by
  intro t k j h
  rcases h with h | h | h
  · exact .inl h
  · exact .inr (.inl h)
  · refine .inr (.inr (.inl ⟨h.1, h.2.1, ?_⟩))
    have := h.2.2
    omega
theorem pf_ws2 {am kk : Nat} : ∀ t k j, ws_W am (78 + 13 * (kk + 1)) t k j → pf_W am kk t k j := by
  intro t k j h
  rcases h with h | h | h
  · exact .inl h
  · exact .inr (.inl h)
  · refine .inr (.inr (.inl ⟨h.1, h.2.1, ?_⟩))
    have := h.2.2
    omega
section
variable {am r o : Nat} {P Q : yP}
theorem pf_row {M M' : zM} {w kk : Nat} {s : yS} (hs : mk_x am M w s) (hf : zf (pf_W am kk) M M') (hd : w + 13 ≤ 13 * (kk + 1) ∨ (78 ≤ w ∧ w + 13 ≤ 78 + 13 * (kk + 1))) : mk_x am M' w s := by
  have key : ∀ j, w ≤ j → j < w + 13 → zm_I M' 20 (am + 23) j = zm_I M 20 (am + 23) j := by
    intro j h1 h2
    refine hf.2.2.2.2.2.2 20 (am + 23) j ?_
    intro x
    rcases x with x | x | x | x
    · simp [mw_W, mg] at x
    · exact absurd x.1 (by decide)
    · have := x.2.2
      omega
    · have := x.2.1
      omega
  refine ⟨?_, ?_, ?_⟩
  · rw [key w (by omega) (by omega)]
    exact hs.1
  · intro c hc
    rw [key _ (by omega) (by omega)]
    exact hs.2.1 c hc
  · intro a ha
    rw [key _ (by omega) (by omega)]
    exact hs.2.2 a ha
/-- a walk, or none, in its row -/
def mo_x (am : Nat) (M : zM) (P : yP) (B w : Nat) (a : Option yS) : Prop := ∀ s, a = some s → mk_x am M w s ∧ sw_b P B s
theorem os_x (hP : py_ok P) {d B w v l : Nat} {M : zM} {a : Option yS} (h : mp_ok am M r P) (hd : 36 ≤ d) (ha : mo_x am M P B w a) (hB : B ≤ 900) (hdis : w + 13 ≤ v ∨ v + 13 ≤ w) (hw : w + 13 ≤ 208) (hv : v + 13 ≤ 208) (hl : l < 26) {s : yS} (hs : a = some s) : ∃ M', mo_steps d am (nI r) (nI w) (nI l) (nI v) M = some (zb (py_os P a l).isSome, M') ∧ mo_x am M' P (B + 1) v (py_os P a l) ∧ zf (ws_W am v) M M' := by
  subst hs
  obtain ⟨h1, h2⟩ := ha s rfl
  obtain ⟨M1, e1, e2, e3⟩ := mr_steps (am := am) (r := r) (d := d) (w := w) (v := v) (l := l) h hd h1 (sw_of h2 (by omega)) hdis hw hv (by omega)
  cases hfd : py_fd P s l with
  | none =>
    rw [hfd] at e1
    rw [os_n hfd]
    exact ⟨M1, e1, fun s' hs' => (by cases hs'), e3⟩
  | some W =>
    rw [hfd] at e1
    rw [os_s hfd]
    refine ⟨M1, e1, ?_, e3⟩
    intro s' hs'
    injection hs' with hs'
    rw [← hs']
    exact ⟨(e2 W hfd).1, go_b hP h2 (fd_mem hfd).1⟩
def py_occ (P : yP) (a : Option yS) : List Nat := match a with
  | none => []
  | some s => py_cc P s
theorem occ_no (h : py_ok P) {a : Option yS} (ha : ∀ s, a = some s → ∀ o, s.1 = some o → o < py_nl P) {l : Nat} (hl : l < 26) : zbt (zor (py_occ P a)) l = (py_os P a l).isSome := by
  cases a with
  | none => simp [py_occ, py_os, zor_nil, zy_0]
  | some s =>
    show zbt (zor (py_cc P s)) l = _
    rw [fd_cc h (ha s rfl) hl]
    cases hfd : py_fd P s l with
    | none => rw [os_n hfd]; rfl
    | some W => rw [os_s hfd]; rfl
theorem mr_parts2_117 (hP : py_ok P) (hQ : py_ok Q) {d k m : Nat} {a b : Option yS} (hd : 36 ≤ d) (hk : k + (m + 1) ≤ 4) (n : Int32) (Rr : Nat → Int32 → Int32 → Int32 → Int32 → Int32 → Int32 → zM → Option (Int32 × zM)) (hR : ∀ (M : zM) (a' b' : Option yS), mp_ok am M r P → mp_ok am M o Q → mo_x am M P (k + 1) (13 * (k + 1)) a' → mo_x am M Q (k + 1) (78 + 13 * (k + 1)) b' → ∃ M', Rr am (nI r) (nI o) (nI (k + 1)) n (zb a'.isSome) (zb b'.isSome) M = some (zb (py_df P Q m a' b').isSome, M') ∧ (∀ w, py_df P Q m a' b' = some w → ∀ i x, w[i]? = some x → zm_I M' 20 (am + 32) (k + 1 + i) = nI x) ∧ zf (pf_W am (k + 1)) M M') (hab : a.isSome || b.isSome) : ∀ (c l : Nat) (M : zM), l + c = 26 → mp_ok am M r P → mp_ok am M o Q → mo_x am M P k (13 * k) a → mo_x am M Q k (78 + 13 * k) b → ∀ fuel, c < fuel → ∃ M', mo_parts2_117 Rr d fuel am (nI r) (nI o) (nI k) n (zb a.isSome) (zb b.isSome) (nI (13 * k)) (zor (py_occ P a) ||| zor (py_occ Q b)) (nI l) M = some (zb (py_fl2 (fun l => py_df P Q m (py_os P a l) (py_os Q b l)) (List.range' l c)).isSome, M') ∧ (∀ w, py_fl2 (fun l => py_df P Q m (py_os P a l) (py_os Q b l)) (List.range' l c) = some w → ∀ i x, w[i]? = some x → zm_I M' 20 (am + 32) (k + i) = nI x) ∧ zf (pf_W am k) M M' := by
  intro c
  induction c with
  | zero =>
    intro l M hl hr ho ha hb fuel hf
    cases fuel with
    | zero => cases hf
    | succ fuel =>
      have : l = 26 := by omega
      subst this
      have hle : (26 : Int32) ≤ nI 26 := by decide
      refine ⟨M, ?_, fun w hw => (by simp [py_fl2] at hw), zf_refl _ _⟩
      simp [mo_parts2_117, hle, py_fl2, zb]
  | succ c ih =>
    intro l M hl hr ho ha hb fuel hf
    cases fuel with
    | zero => cases hf
    | succ fuel =>
      have hge : ¬ (26 : Int32) ≤ nI l := nI_ge (b := 26) (by omega) (by omega)
      have ca := occ_no hP (a := a) (fun s hs => (ha s hs).2.1) (l := l) (by omega)
      have cb := occ_no hQ (a := b) (fun s hs => (hb s hs).2.1) (l := l) (by omega)
      have e13 : nI (13 * k) + 13 = nI (13 * (k + 1)) := nI_add (13 * k) 13
      have e78 : 78 + nI (13 * k) = nI (78 + 13 * k) := nI_add 78 (13 * k)
      have e78' : nI (78 + 13 * k) + 13 = nI (78 + 13 * (k + 1)) := nI_add (78 + 13 * k) 13
      have hnext : ∀ (M1 : zM), mp_ok am M1 r P → mp_ok am M1 o Q → mo_x am M1 P k (13 * k) a → mo_x am M1 Q k (78 + 13 * k) b → py_df P Q m (py_os P a l) (py_os Q b l) = none → ∃ M', mo_parts2_229 Rr (fun p0 p1 p2 p3 p4 p5 p6 p7 p8 p9 m => mo_parts2_117 Rr d fuel p0 p1 p2 p3 p4 p5 p6 p7 p8 p9 m) d am (nI r) (nI o) (nI k) n (zb a.isSome) (zb b.isSome) (nI (13 * k)) (zor (py_occ P a) ||| zor (py_occ Q b)) (nI l) M1 = some (zb (py_fl2 (fun l => py_df P Q m (py_os P a l) (py_os Q b l)) (l :: List.range' (l + 1) c)).isSome, M') ∧ (∀ w, py_fl2 (fun l => py_df P Q m (py_os P a l) (py_os Q b l)) (l :: List.range' (l + 1) c) = some w → ∀ i x, w[i]? = some x → zm_I M' 20 (am + 32) (k + i) = nI x) ∧ zf (pf_W am k) M1 M' := by
        intro M1 h1 h2 h3 h4 hno
        obtain ⟨M', g1, g2, g3⟩ := ih (l + 1) M1 (by omega) h1 h2 h3 h4 fuel (by omega)
        have e0 : py_fl2 (fun l => py_df P Q m (py_os P a l) (py_os Q b l)) (l :: List.range' (l + 1) c) = py_fl2 (fun l => py_df P Q m (py_os P a l) (py_os Q b l)) (List.range' (l + 1) c) := by
          conv => lhs; unfold py_fl2
          simp only [hno]
        rw [e0]
        refine ⟨M', ?_, g2, g3⟩
        rw [← g1]
        simp only [mo_parts2_229, zlet, nI_1]
      rw [List.range'_succ]
      simp only [mo_parts2_117, if_neg hge, mr_has (show l < 32 by omega), Option.bind_some, zy_or, ca, cb]
      cases hbit : ((py_os P a l).isSome || (py_os Q b l).isSome)
      · have n1 : py_os P a l = none := by
          cases hx : py_os P a l with
          | none => rfl
          | some s => rw [hx] at hbit; simp at hbit
        have n2 : py_os Q b l = none := by
          cases hx : py_os Q b l with
          | none => rfl
          | some s => rw [hx] at hbit; simp at hbit
        rw [pb_zbf, if_pos rfl]
        exact hnext M hr ho ha hb (by rw [n1, n2, df_none])
      · rw [pb_zbt, if_neg (by decide)]
        /- behind both steps -/
        have h199 : ∀ (M2 : zM), mp_ok am M2 r P → mp_ok am M2 o Q → mo_x am M2 P k (13 * k) a → mo_x am M2 Q k (78 + 13 * k) b → mo_x am M2 P (k + 1) (13 * (k + 1)) (py_os P a l) → mo_x am M2 Q (k + 1) (78 + 13 * (k + 1)) (py_os Q b l) → ∃ M', mo_parts2_199 Rr (fun p0 p1 p2 p3 p4 p5 p6 p7 p8 p9 m => mo_parts2_117 Rr d fuel p0 p1 p2 p3 p4 p5 p6 p7 p8 p9 m) d am (nI r) (nI o) (nI k) n (zb a.isSome) (zb b.isSome) (nI (13 * k)) (zor (py_occ P a) ||| zor (py_occ Q b)) (nI l) (zb (py_os P a l).isSome) (zb (py_os Q b l).isSome) M2 = some (zb (py_fl2 (fun l => py_df P Q m (py_os P a l) (py_os Q b l)) (l :: List.range' (l + 1) c)).isSome, M') ∧ (∀ w, py_fl2 (fun l => py_df P Q m (py_os P a l) (py_os Q b l)) (l :: List.range' (l + 1) c) = some w → ∀ i x, w[i]? = some x → zm_I M' 20 (am + 32) (k + i) = nI x) ∧ zf (pf_W am k) M2 M' := by
          intro M2 h1 h2 h3 h4 h5 h6
          have hz : z_in (nI k) 4 := nI_in (by omega) (by omega)
          have hfz : zf (pf_W am k) M2 (zm_setI M2 20 (am + 32) k (nI l)) := zf_set (.inr (.inr (.inr ⟨rfl, rfl, Nat.le_refl _⟩)))
          have hfm : zf (mg am [] [32]) M2 (zm_setI M2 20 (am + 32) k (nI l)) := zf_set (.inr ⟨.inl rfl, 32, by simp, rfl⟩)
          obtain ⟨M3, f1, f2, f3⟩ := hR (zm_setI M2 20 (am + 32) k (nI l)) (py_os P a l) (py_os Q b l) (mp_zf h1 hfm (by simp)) (mp_zf h2 hfm (by simp)) (fun s hs => ⟨mk_mg (h5 s hs).1 hfm (by simp), (h5 s hs).2⟩) (fun s hs => ⟨mk_mg (h6 s hs).1 hfm (by simp), (h6 s hs).2⟩)
          have hf3 := zf_trans hfz (zf_mono f3 pf_mono)
          have e0 : mo_parts2_199 Rr (fun p0 p1 p2 p3 p4 p5 p6 p7 p8 p9 m => mo_parts2_117 Rr d fuel p0 p1 p2 p3 p4 p5 p6 p7 p8 p9 m) d am (nI r) (nI o) (nI k) n (zb a.isSome) (zb b.isSome) (nI (13 * k)) (zor (py_occ P a) ||| zor (py_occ Q b)) (nI l) (zb (py_os P a l).isSome) (zb (py_os Q b l).isSome) M2 = if zb (py_df P Q m (py_os P a l) (py_os Q b l)).isSome = 0 then mo_parts2_229 Rr (fun p0 p1 p2 p3 p4 p5 p6 p7 p8 p9 m => mo_parts2_117 Rr d fuel p0 p1 p2 p3 p4 p5 p6 p7 p8 p9 m) d am (nI r) (nI o) (nI k) n (zb a.isSome) (zb b.isSome) (nI (13 * k)) (zor (py_occ P a) ||| zor (py_occ Q b)) (nI l) M3 else some (1, M3) := by
            simp only [mo_parts2_199, ml_R56 h1.2.1, ml_L56 h1.2.1, if_pos hz, nI_clamp (show k < 2 ^ 31 by omega), zlet, nI_1, f1, Option.bind_some]
          rw [e0]
          cases hdf : py_df P Q m (py_os P a l) (py_os Q b l) with
          | none =>
            simp only [Option.isSome_none, pb_zbf, if_true]
            obtain ⟨M4, g1, g2, g3⟩ := hnext M3 (mp_zf h1 (zf_mono hf3 pf_mg) (by simp)) (mp_zf h2 (zf_mono hf3 pf_mg) (by simp)) (fun s hs => ⟨pf_row (h3 s hs).1 hf3 (.inl (by omega)), (h3 s hs).2⟩) (fun s hs => ⟨pf_row (h4 s hs).1 hf3 (.inr (by omega)), (h4 s hs).2⟩) hdf
            exact ⟨M4, g1, g2, zf_trans hf3 g3⟩
          | some w =>
            simp only [Option.isSome_some, pb_zbt]
            rw [if_neg (by decide)]
            have e9 : py_fl2 (fun l => py_df P Q m (py_os P a l) (py_os Q b l)) (l :: List.range' (l + 1) c) = some (l :: w) := by
              unfold py_fl2
              simp only [hdf]
            rw [e9]
            refine ⟨M3, rfl, ?_, hf3⟩
            intro w' hw'
            injection hw' with hw'
            subst hw'
            intro i x hx
            cases i with
            | zero =>
              simp at hx
              subst hx
              show zm_I M3 20 (am + 32) k = nI l
              rw [f3.2.2.2.2.2.2 20 (am + 32) k (by
                intro x
                rcases x with x | x | x | x
                · simp [mw_W, mg] at x
                · exact absurd x.1 (by decide)
                · have := x.2.1
                  omega
                · have := x.2.2
                  omega), pm_same]
            | succ i =>
              have := f2 w hdf i x (by simpa using hx)
              rw [← this]
              congr 1
              omega
        /- the second step -/
        have h164 : ∀ (M1 : zM), mp_ok am M1 r P → mp_ok am M1 o Q → mo_x am M1 P k (13 * k) a → mo_x am M1 Q k (78 + 13 * k) b → mo_x am M1 P (k + 1) (13 * (k + 1)) (py_os P a l) → ∃ M', mo_parts2_164 Rr (fun p0 p1 p2 p3 p4 p5 p6 p7 p8 p9 m => mo_parts2_117 Rr d fuel p0 p1 p2 p3 p4 p5 p6 p7 p8 p9 m) d am (nI r) (nI o) (nI k) n (zb a.isSome) (zb b.isSome) (nI (13 * k)) (zor (py_occ P a) ||| zor (py_occ Q b)) (nI l) (zb (py_os P a l).isSome) M1 = some (zb (py_fl2 (fun l => py_df P Q m (py_os P a l) (py_os Q b l)) (l :: List.range' (l + 1) c)).isSome, M') ∧ (∀ w, py_fl2 (fun l => py_df P Q m (py_os P a l) (py_os Q b l)) (l :: List.range' (l + 1) c) = some w → ∀ i x, w[i]? = some x → zm_I M' 20 (am + 32) (k + i) = nI x) ∧ zf (pf_W am k) M1 M' := by
          intro M1 h1 h2 h3 h4 h5
          unfold mo_parts2_164
          cases hbb : b with
          | none =>
            have := h199 M1 h1 h2 h3 h4 h5 (fun s hs => (by rw [hbb] at hs; cases hs))
            rw [hbb] at this
            simp only [Option.isSome_none, pb_zbf, if_true]
            simp only [Option.isSome_none, pb_zbf, py_os] at this
            exact this
          | some sb =>
            obtain ⟨M2, e1, e2, e3⟩ := os_x (am := am) (r := o) (d := d) (B := k) (w := 78 + 13 * k) (v := 78 + 13 * (k + 1)) (l := l) hQ h2 hd h4 (by omega) (.inl (by omega)) (by omega) (by omega) (by omega) hbb
            have hf := zf_mono e3 (pf_ws2 (am := am) (kk := k))
            obtain ⟨M3, f1, f2, f3⟩ := h199 M2 (mp_zf h1 (zf_mono hf pf_mg) (by simp)) (mp_zf h2 (zf_mono hf pf_mg) (by simp)) (fun s hs => ⟨pf_row (h3 s hs).1 hf (.inl (by omega)), (h3 s hs).2⟩) (fun s hs => ⟨pf_row (h4 s hs).1 hf (.inr (by omega)), (h4 s hs).2⟩) (fun s hs => ⟨ws_row (h5 s hs).1 e3 (.inl (by omega)), (h5 s hs).2⟩) e2
            refine ⟨M3, ?_, by rw [← hbb]; exact f2, zf_trans hf f3⟩
            rw [hbb] at f1 e1
            rw [← f1]
            simp only [Option.isSome_some, pb_zbt]
            rw [if_neg (by decide), e78, e78', e1]
            simp only [Option.bind_some]
            cases (py_os Q (some sb) l).isSome
            · simp [pb_zbf, mo_parts2_198]
            · rw [pb_zbt, if_neg (by decide)]
        cases haa : a with
        | none =>
          have := h164 M hr ho ha hb (fun s hs => (by rw [haa] at hs; cases hs))
          rw [haa] at this
          simp only [Option.isSome_none, pb_zbf, if_true, mo_parts2_163]
          simp only [Option.isSome_none, pb_zbf, py_os] at this
          exact this
        | some sa =>
          obtain ⟨M1, e1, e2, e3⟩ := os_x (am := am) (r := r) (d := d) (B := k) (w := 13 * k) (v := 13 * (k + 1)) (l := l) hP hr hd ha (by omega) (.inl (by omega)) (by omega) (by omega) (by omega) haa
          have hf := zf_mono e3 (pf_ws1 (am := am) (kk := k) (by omega))
          obtain ⟨M3, f1, f2, f3⟩ := h164 M1 (mp_zf hr (zf_mono hf pf_mg) (by simp)) (mp_zf ho (zf_mono hf pf_mg) (by simp)) (fun s hs => ⟨pf_row (ha s hs).1 hf (.inl (by omega)), (ha s hs).2⟩) (fun s hs => ⟨pf_row (hb s hs).1 hf (.inr (by omega)), (hb s hs).2⟩) e2
          refine ⟨M3, ?_, by rw [← haa]; exact f2, zf_trans hf f3⟩
          rw [haa] at f1 e1
          rw [← f1]
          simp only [Option.isSome_some, pb_zbt]
          rw [if_neg (by decide), e13, e1]
          simp only [Option.bind_some]
          cases (py_os P (some sa) l).isSome
          · simp [pb_zbf, mo_parts2_163]
          · rw [pb_zbt, if_neg (by decide)]
theorem mr_parts2 (hP : py_ok P) (hQ : py_ok Q) {n : Nat} (hn : n ≤ 4) : ∀ (m k d : Nat) (M : zM) (a b : Option yS), k + m = n → 38 + m ≤ d → mp_ok am M r P → mp_ok am M o Q → mo_x am M P k (13 * k) a → mo_x am M Q k (78 + 13 * k) b → ∃ M', mo_parts2 d am (nI r) (nI o) (nI k) (nI n) (zb a.isSome) (zb b.isSome) M = some (zb (py_df P Q m a b).isSome, M') ∧ (∀ w, py_df P Q m a b = some w → ∀ i x, w[i]? = some x → zm_I M' 20 (am + 32) (k + i) = nI x) ∧ zf (pf_W am k) M M' := by
  intro m
  induction m with
  | zero =>
    intro k d M a b hk hd hr ho ha hb
    obtain ⟨d, rfl⟩ : ∃ d', d = d' + 1 := ⟨d - 1, by omega⟩
    have e13 : 13 * nI k = nI (13 * k) := pk_mul 13 k
    have e78 : 78 + nI (13 * k) = nI (78 + 13 * k) := nI_add 78 (13 * k)
    have hkn : k = n := by omega
    refine ⟨M, ?_, ?_, zf_refl _ _⟩
    · rw [mo_parts2.eq_2]
      unfold mo_parts2_b
      simp only [zlet, e13]
      have h44 : ∀ x : Bool, mo_parts2_44 (fun a0 a1 a2 a3 a4 a5 a6 M => mo_parts2 d a0 a1 a2 a3 a4 a5 a6 M) d am (nI o) (zb b.isSome) (nI (13 * k)) (zb x) M = some (zb (x != py_oe Q b), M) := by
        intro x
        unfold mo_parts2_44
        cases b with
        | none => cases x <;> simp [zb, mo_parts2_66, mo_parts2_67, mo_parts2_75, py_oe]
        | some s =>
          have hs := hb s rfl
          simp only [Option.isSome_some, pb_zbt]
          rw [if_neg (by decide), e78, mr_canEnd ho (by omega) hs.1 (sw_of hs.2 (by omega)) (by omega)]
          simp only [Option.bind_some, py_oe]
          cases py_ce Q s <;> cases x <;> simp [zb, mo_parts2_66, mo_parts2_67, mo_parts2_75]
      have h18 : mo_parts2_18 (fun a0 a1 a2 a3 a4 a5 a6 M => mo_parts2 d a0 a1 a2 a3 a4 a5 a6 M) d am (nI r) (nI o) (nI k) (nI n) (zb a.isSome) (zb b.isSome) (nI (13 * k)) M = some (zb (py_oe P a != py_oe Q b), M) := by
        unfold mo_parts2_18
        rw [if_pos (by rw [hkn])]
        cases a with
        | none =>
          simp only [Option.isSome_none, pb_zbf, if_true]
          exact h44 false
        | some s =>
          have hs := ha s rfl
          simp only [Option.isSome_some, pb_zbt]
          rw [if_neg (by decide), mr_canEnd hr (by omega) hs.1 (sw_of hs.2 (by omega)) (by omega)]
          simp only [Option.bind_some, py_oe]
          cases py_ce P s
          · simp only [pb_zbf, if_true]
            exact h44 false
          · rw [pb_zbt, if_neg (by decide)]
            exact h44 true
      have hdf : (py_df P Q 0 a b).isSome = (py_oe P a != py_oe Q b) := by
        unfold py_df
        cases (py_oe P a != py_oe Q b) <;> simp
      rw [hdf]
      cases a with
      | none =>
        cases b with
        | none => simp [zb, py_oe]
        | some s =>
          simp only [Option.isSome_none, Option.isSome_some, pb_zbf, pb_zbt, if_true] at h18 ⊢
          rw [if_neg (by decide)]
          exact h18
      | some s =>
        simp only [Option.isSome_some, pb_zbt] at h18 ⊢
        rw [if_neg (by decide)]
        exact h18
    · intro w hw i x hx
      unfold py_df at hw
      split at hw
      · injection hw with hw
        subst hw
        simp at hx
      · cases hw
  | succ m ih =>
    intro k d M a b hk hd hr ho ha hb
    obtain ⟨d, rfl⟩ : ∃ d', d = d' + 1 := ⟨d - 1, by omega⟩
    have hLF := pb_LF
    have e13 : 13 * nI k = nI (13 * k) := pk_mul 13 k
    have e78 : 78 + nI (13 * k) = nI (78 + 13 * k) := nI_add 78 (13 * k)
    have er : (fun a0 a1 a2 a3 a4 a5 a6 M => mo_parts2 d a0 a1 a2 a3 a4 a5 a6 M) = mo_parts2 d := rfl
    cases hab : (a.isSome || b.isSome)
    · have n1 : a = none := by cases a with
        | none => rfl
        | some s => simp at hab
      have n2 : b = none := by cases b with
        | none => rfl
        | some s => simp at hab
      subst n1 n2
      rw [df_none]
      refine ⟨M, ?_, fun w hw => (by cases hw), zf_refl _ _⟩
      rw [mo_parts2.eq_2]
      simp [mo_parts2_b, zlet, zb]
    · have hloop : ∀ (M2 : zM), zf (mw_W am) M M2 → ∃ M', mo_parts2_117 (mo_parts2 d) d zLF am (nI r) (nI o) (nI k) (nI n) (zb a.isSome) (zb b.isSome) (nI (13 * k)) (zor (py_occ P a) ||| zor (py_occ Q b)) 0 M2 = some (zb (py_df P Q (m + 1) a b).isSome, M') ∧ (∀ w, py_df P Q (m + 1) a b = some w → ∀ i x, w[i]? = some x → zm_I M' 20 (am + 32) (k + i) = nI x) ∧ zf (pf_W am k) M M' := by
        intro M2 hf2
        obtain ⟨M3, g1, g2, g3⟩ := mr_parts2_117 (am := am) (r := r) (o := o) (d := d) (k := k) (m := m) (a := a) (b := b) hP hQ (by omega) (by omega) (nI n) (mo_parts2 d) (by
          intro M' a' b' q1 q2 q3 q4
          exact ih (k + 1) d M' a' b' (by omega) (by omega) q1 q2 q3 q4) hab 26 0 M2 (by omega) (mp_W hr hf2) (mp_W ho hf2) (fun s hs => ⟨mk_mg (ha s hs).1 hf2 (by simp), (ha s hs).2⟩) (fun s hs => ⟨mk_mg (hb s hs).1 hf2 (by simp), (hb s hs).2⟩) zLF (by omega)
        exact ⟨M3, g1, g2, zf_trans (zf_mono hf2 (fun _ _ _ x => .inl x)) g3⟩
      have hkn : ¬ nI k = nI n := by
        intro x
        have := (nI_eq (by omega) (by omega)).mp x
        omega
      have h92 : ∀ (M1 : zM), zf (mw_W am) M M1 → ∃ M', mo_parts2_92 (mo_parts2 d) d am (nI r) (nI o) (nI k) (nI n) (zb a.isSome) (zb b.isSome) (nI (13 * k)) (zor (py_occ P a)) M1 = some (zb (py_df P Q (m + 1) a b).isSome, M') ∧ (∀ w, py_df P Q (m + 1) a b = some w → ∀ i x, w[i]? = some x → zm_I M' 20 (am + 32) (k + i) = nI x) ∧ zf (pf_W am k) M M' := by
        intro M1 hf1
        unfold mo_parts2_92
        cases hbb : b with
        | none =>
          have := hloop M1 hf1
          rw [hbb] at this
          simp only [Option.isSome_none, pb_zbf, if_true, mo_parts2_111, zlet]
          exact this
        | some s =>
          have hs := hb s hbb
          obtain ⟨M2, e1, e2⟩ := mr_couldCome (d := d) (mp_W ho hf1) (by omega) (mk_mg hs.1 hf1 (by simp)) (sw_of hs.2 (by omega)) (by omega)
          have := hloop M2 (zf_trans hf1 e2)
          rw [hbb] at this
          simp only [Option.isSome_some, pb_zbt] at this ⊢
          rw [if_neg (by decide), e78, e1]
          simp only [Option.bind_some, mo_parts2_111, zlet]
          exact this
      have h18 : ∃ M', mo_parts2_18 (mo_parts2 d) d am (nI r) (nI o) (nI k) (nI n) (zb a.isSome) (zb b.isSome) (nI (13 * k)) M = some (zb (py_df P Q (m + 1) a b).isSome, M') ∧ (∀ w, py_df P Q (m + 1) a b = some w → ∀ i x, w[i]? = some x → zm_I M' 20 (am + 32) (k + i) = nI x) ∧ zf (pf_W am k) M M' := by
        unfold mo_parts2_18
        rw [if_neg hkn]
        cases haa : a with
        | none =>
          have := h92 M (zf_refl _ _)
          rw [haa] at this
          simp only [Option.isSome_none, pb_zbf, if_true]
          exact this
        | some s =>
          have hs := ha s haa
          obtain ⟨M1, e1, e2⟩ := mr_couldCome (d := d) hr (by omega) hs.1 (sw_of hs.2 (by omega)) (by omega)
          have := h92 M1 e2
          rw [haa] at this
          simp only [Option.isSome_some, pb_zbt] at this ⊢
          rw [if_neg (by decide), e1]
          simp only [Option.bind_some]
          exact this
      obtain ⟨M', k1, k2⟩ := h18
      refine ⟨M', ?_, k2⟩
      rw [← k1, mo_parts2.eq_2, er]
      unfold mo_parts2_b
      simp only [zlet, e13]
      cases a with
      | none =>
        cases b with
        | none => simp at hab
        | some s =>
          simp only [Option.isSome_none, Option.isSome_some, pb_zbf, pb_zbt, if_true]
          rw [if_neg (by decide)]
      | some s =>
        simp only [Option.isSome_some, pb_zbt]
        rw [if_neg (by decide)]
end
