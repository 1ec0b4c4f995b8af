/-! THE MODEL reads letters through; counts words -/
def py_rn (P : yP) : List Nat → yS → List (Nat × Option Nat) × yS
  | [], s => ([], s)
  | l :: ls, s => match py_fd P s l with
    | none => ([], s)
    | some W => ((W.1, W.2.1) :: (py_rn P ls (py_go P s W)).1, (py_rn P ls (py_go P s W)).2)
def py_sum (f : Nat → Int32) : List Nat → Int32 → Int32
  | [], a => a
  | l :: ls, a => py_sum f ls (a + f l)
def py_wn (P : yP) : Nat → yS → Int32
  | 0, s => zb (py_ce P s)
  | n + 1, s => (List.range' 0 26).foldl (fun a l => match py_fd P s l with
    | none => a
    | some W => a + py_wn P n (py_go P s W)) 0
def sw_b (P : yP) (B : Nat) (s : yS) : Prop := (∀ o, s.1 = some o → o < py_nl P) ∧ ∀ c, s.2.1 c ≤ B
def mv_x (am : Nat) (M : zM) (g : List (Nat × Option Nat)) : Prop := ∀ i p, g[i]? = some p → zm_I M 20 (am + 25) i = nI p.1 ∧ zm_I M 20 (am + 26) i = zo p.2
/-- letters in a row of the model -/
def ma_x (am : Nat) (M : zM) (ia : Nat) (ls : List Nat) : Prop := (∀ i x, ls[i]? = some x → zm_I M 20 (am + ia) i = nI x) ∧ ∀ x, x ∈ ls → x < 26
section
variable {am r d : Nat} {M : zM} {P : yP} {s : yS} {w v : Nat}
theorem sw_of {B : Nat} (h : sw_b P B s) (hB : B ≤ 1000) : sw_ok P s := ⟨h.1, fun c => Nat.le_trans (h.2 c) hB⟩
theorem s0_b {B : Nat} (h : ∀ c, s.2.1 c ≤ B) (n : Nat) : ∀ c, (py_s0 P s n).2.1 c ≤ B := by
  intro c
  unfold py_s0 py_u
  split
  · simp only
    split
    · omega
    · exact h c
  · split
    · exact h c
    · exact h c
theorem s1_b {B : Nat} (hB : 1 ≤ B) (h : ∀ c, s.2.1 c ≤ B) (n k : Nat) : ∀ c, (py_s1 P s n k).2.1 c ≤ B := by
  intro c
  unfold py_s1 py_u
  split
  · simp only
    split
    · omega
    · exact h c
  · split
    · exact h c
    · exact h c
theorem s2_b {B : Nat} (h : ∀ c, s.2.1 c ≤ B) (a : Option Nat) (k : Nat) : ∀ c, (py_s2 P s a k).2.1 c ≤ B + 1 := by
  intro c
  have hc := h c
  unfold py_s2 py_u
  split
  · omega
  · split
    · simp only
      split
      · rename_i e
        rw [← e]
        omega
      · omega
    · split
      · simp only
        omega
      · omega
theorem fold0_b {B : Nat} : ∀ (l : List (Nat × Nat)) (s : yS), (∀ c, s.2.1 c ≤ B) → ∀ c, (l.foldl (fun s x => py_s0 P s x.1) s).2.1 c ≤ B := by
  intro l
  induction l with
  | nil => intro s h c; exact h c
  | cons x l ih =>
    intro s h
    rw [List.foldl_cons]
    exact ih _ (s0_b h x.1)
theorem fold1_b {B : Nat} (hB : 1 ≤ B) : ∀ (l : List (Nat × Nat)) (s : yS), (∀ c, s.2.1 c ≤ B) → ∀ c, (l.foldl (fun s x => py_s1 P s x.1 x.2) s).2.1 c ≤ B := by
  intro l
  induction l with
  | nil => intro s h c; exact h c
  | cons x l ih =>
    intro s h
    rw [List.foldl_cons]
    exact ih _ (s1_b hB h x.1 x.2)
theorem go_b (h : py_ok P) {B : Nat} (hs : sw_b P B s) {W : yW} (hW : W ∈ py_ways P s.1) : sw_b P (B + 1) (py_go P s W) := by
  constructor
  · intro o e
    injection e with e
    rw [← e]
    exact (ways_lt h hs.1 hW).1
  · intro c
    unfold py_go py_en
    refine fold1_b (by omega) _ _ ?_ c
    refine s2_b ?_ _ _
    unfold py_lv0
    split
    · exact hs.2
    · exact fold0_b _ _ hs.2
theorem s00_b : sw_b P 0 py_s00 := ⟨fun o e => (by cases e), fun c => Nat.le_refl _⟩
theorem fd_mem {l : Nat} {W : yW} (h : py_fd P s l = some W) : W ∈ py_ways P s.1 ∧ py_lt P W.1 = l ∧ py_cg P s W = true := by
  unfold py_fd at h
  have h1 := List.mem_of_find?_eq_some h
  have h2 := List.find?_some h
  simp at h2
  exact ⟨h1, h2.1, h2.2⟩
theorem ma_mg {M' : zM} {F A : List Nat} {ia : Nat} {ls : List Nat} (h : ma_x am M ia ls) (hf : zf (mg am F A) M M') (hA : ¬ ia ∈ A) : ma_x am M' ia ls := by
  refine ⟨?_, h.2⟩
  intro i x hx
  rw [mg_a hf (by decide) hA]
  exact h.1 i x hx
theorem mr_goesThrough_32 (kl8 : Nat → Int32 → Option Nat → Int32 → Int32 → zM → Option (Int32 × zM)) (v2 : Option Nat) (v3 : Int32) {k : Nat} (hk : k < 26) {q : Nat × Option Nat} : ∀ (m i : Nat) (M : zM), mp_ok am M r P → i + m = 13 → (∀ j, j < i → zm_I M 20 (am + 23) j = zm_I M 20 (am + 23) (13 + j)) → zm_I M 12 am 35 = nI q.1 → zm_I M 12 am 36 = zo q.2 → ∀ fuel, m < fuel → ∃ M', mo_goesThrough_32 kl8 d fuel am (nI r) v2 v3 (nI k) (nI i) M = kl8 am (nI r) v2 v3 (nI (k + 1)) M' ∧ (∀ j, j < 13 → zm_I M' 20 (am + 23) j = zm_I M' 20 (am + 23) (13 + j)) ∧ (∀ j, 13 ≤ j → zm_I M' 20 (am + 23) j = zm_I M 20 (am + 23) j) ∧ zm_I M' 20 (am + 25) k = nI q.1 ∧ zm_I M' 20 (am + 26) k = zo q.2 ∧ (∀ j, j ≠ k → zm_I M' 20 (am + 25) j = zm_I M 20 (am + 25) j ∧ zm_I M' 20 (am + 26) j = zm_I M 20 (am + 26) j) ∧ zf (mg am [] [23, 25, 26]) M M' := by
  intro m
  induction m with
  | zero =>
    intro i M h hi hc h35 h36 fuel hf
    cases fuel with
    | zero => cases hf
    | succ fuel =>
      have : i = 13 := by omega
      subst this
      have hle : (13 : Int32) ≤ nI 13 := by decide
      have hz : z_in (nI k) 26 := nI_in (by omega) (by omega)
      refine ⟨zm_setI (zm_setI M 20 (am + 25) k (nI q.1)) 20 (am + 26) k (zo q.2), ?_, ?_, ?_, ?_, ?_, ?_, ?_⟩
      · simp only [mo_goesThrough_32, if_pos hle, ml_R38 h.2.1, ml_L38 h.2.1, if_pos hz, h35, zlet, pm_RI, pm_LI, ml_R39 h.2.1, ml_L39 h.2.1, pm_ne (show (12 : Nat) ≠ 20 ∨ am ≠ am + 25 ∨ 36 ≠ k from .inl (by decide)), h36, nI_clamp (show k < 2 ^ 31 by omega), nI_1]
      · intro j hj
        rw [pm_ne (by omega), pm_ne (by omega), pm_ne (by omega), pm_ne (by omega)]
        exact hc j hj
      · intro j hj
        rw [pm_ne (by omega), pm_ne (by omega)]
      · rw [pm_ne (by omega), pm_same]
      · rw [pm_same]
      · intro j hj
        rw [pm_ne (by omega), pm_ne (by omega), pm_ne (by omega), pm_ne (by omega)]
        exact ⟨rfl, rfl⟩
      · exact zf_trans (zf_set (.inr ⟨.inl rfl, 25, by simp, rfl⟩)) (zf_set (.inr ⟨.inl rfl, 26, by simp, rfl⟩))
  | succ m ih =>
    intro i M h hi hc h35 h36 fuel hf
    cases fuel with
    | zero => cases hf
    | succ fuel =>
      have hge : ¬ (13 : Int32) ≤ nI i := nI_ge (b := 13) (by omega) (by omega)
      have hz : z_in (nI (13 + i)) 208 := nI_in (by omega) (by omega)
      have hz2 : z_in (nI i) 208 := nI_in (by omega) (by omega)
      have e13 : 13 + nI i = nI (13 + i) := nI_add 13 i
      have hfz : zf (mg am [] [23, 25, 26]) M (zm_setI M 20 (am + 23) i (zm_I M 20 (am + 23) (13 + i))) := zf_set (.inr ⟨.inl rfl, 23, by simp, rfl⟩)
      obtain ⟨M', e1, e2, e3, e4, e5, e6, e7⟩ := ih (i + 1) _ (mp_zf h hfz (by simp)) (by omega) (by
        intro j hj
        by_cases e : j = i
        · subst e
          rw [pm_same, pm_ne (by omega)]
        · rw [pm_ne (by omega), pm_ne (by omega)]
          exact hc j (by omega)) (by rw [pm_ne (by omega)]; exact h35) (by rw [pm_ne (by omega)]; exact h36) fuel (by omega)
      refine ⟨M', ?_, e2, ?_, e4, e5, ?_, zf_trans hfz e7⟩
      · rw [← e1]
        simp only [mo_goesThrough_32, if_neg hge, ml_R34 h.2.1, ml_L34 h.2.1, e13, if_pos hz, if_pos hz2, nI_clamp (show 13 + i < 2 ^ 31 by omega), nI_clamp (show i < 2 ^ 31 by omega), zlet, nI_1]
      · intro j hj
        rw [e3 j hj, pm_ne (by omega)]
      · intro j hj
        have := e6 j hj
        rw [pm_ne (by omega), pm_ne (by omega)] at this
        exact this
theorem mr_goesThrough_8 (hP : py_ok P) (hd : 36 ≤ d) {ia L : Nat} {letters : List Nat} (hia : ¬ ia ∈ [14, 15, 16, 17, 23, 25, 26]) (hL : letters.length ≤ L) (hL2 : L ≤ 26) : ∀ (ls pre : List Nat) (M : zM) (s : yS) (g : List (Nat × Option Nat)), letters = pre ++ ls → mp_ok am M r P → ma_x am M ia letters → zm_L M 20 (am + ia) = L → mk_x am M 0 s → sw_b P pre.length s → mv_x am M g → g.length = pre.length → ∀ fuel, ls.length < fuel → ∃ M', mo_goesThrough_8 d fuel am (nI r) (some (am + ia)) (nI letters.length) (nI pre.length) M = some (nI (pre.length + (py_rn P ls s).1.length), M') ∧ mk_x am M' 0 (py_rn P ls s).2 ∧ mv_x am M' (g ++ (py_rn P ls s).1) ∧ zf (mg am [26, 35, 36] [14, 15, 16, 17, 23, 25, 26]) M M' := by
  intro ls
  induction ls with
  | nil =>
    intro pre M s g e h hma hLen hs hsb hg hgl fuel hf
    cases fuel with
    | zero => cases hf
    | succ fuel =>
      have : letters.length = pre.length := by rw [e]; simp
      refine ⟨M, ?_, hs, by simpa [py_rn] using hg, zf_refl _ _⟩
      simp [mo_goesThrough_8, this, mo_goesThrough_90, py_rn]
  | cons x ls ih =>
    intro pre M s g e h hma hLen hs hsb hg hgl fuel hf
    cases fuel with
    | zero => cases hf
    | succ fuel =>
      have hll : letters.length = pre.length + (ls.length + 1) := by rw [e]; simp
      have hge : ¬ nI letters.length ≤ nI pre.length := nI_ge (by omega) (by omega)
      have hz : z_in (nI pre.length) L := nI_in (by omega) (by omega)
      have hx : letters[pre.length]? = some x := by rw [e]; simp
      have hxv := hma.1 _ _ hx
      have hx26 := hma.2 x (List.mem_of_getElem? hx)
      obtain ⟨M1, e1, e2, e3⟩ := mr_steps (am := am) (r := r) (d := d) (w := 0) (v := 13) (l := x) h hd hs (sw_of hsb (by omega)) (.inl (by omega)) (by omega) (by omega) (by omega)
      have hf1 := zf_mono e3 ws_mg
      have h1 := mp_zf h hf1 (by simp)
      have e1' : mo_steps d am (nI r) 0 (nI x) 13 M = some (zb (py_fd P s x).isSome, M1) := e1
      cases hfd : py_fd P s x with
      | none =>
        have hrn : py_rn P (x :: ls) s = ([], s) := by simp [py_rn, hfd]
        rw [hrn]
        refine ⟨M1, ?_, ?_, ?_, zf_mono hf1 (mg_mono (by simp) (by simp))⟩
        · rw [hfd] at e1'
          simp only [mo_goesThrough_8, if_neg hge, hLen, if_pos hz, nI_clamp (show pre.length < 2 ^ 31 by omega), hxv, e1', Option.bind_some]
          simp [zb, mo_goesThrough_90]
        · exact ws_row hs e3 (.inl (by omega))
        · simp only [List.append_nil]
          intro i p hp
          rw [mg_a hf1 (by decide) (by simp), mg_a hf1 (by decide) (by simp)]
          exact hg i p hp
      | some W =>
        have hW := fd_mem hfd
        obtain ⟨g1, g2, g3⟩ := e2 W hfd
        have hLF := pb_LF
        obtain ⟨M2, k1, k2, k3, k4, k5, k6, k7⟩ := mr_goesThrough_32 (am := am) (r := r) (d := d) (P := P) (fun p0 p1 p2 p3 p4 m => mo_goesThrough_8 d fuel p0 p1 p2 p3 p4 m) (some (am + ia)) (nI letters.length) (k := pre.length) (by omega) (q := (W.1, W.2.1)) 13 0 M1 h1 (by omega) (by intro j hj; omega) g2 g3 zLF (by omega)
        have h2 := mp_zf h1 k7 (by simp)
        have hs2 : mk_x am M2 0 (py_go P s W) := by
          refine ⟨?_, ?_, ?_⟩
          · rw [k2 0 (by omega), k3 _ (by omega)]
            exact g1.1
          · intro c hc
            have := k2 (0 + 1 + c) (by omega)
            rw [this, k3 _ (by omega)]
            have := g1.2.1 c hc
            rw [← this]
            congr 1
            omega
          · intro c hc
            have := k2 (0 + 9 + c) (by omega)
            rw [this, k3 _ (by omega)]
            have := g1.2.2 c hc
            rw [← this]
            congr 1
            omega
        have hma1 := ma_mg hma hf1 (by simp at hia ⊢; omega)
        have hma2 := ma_mg hma1 k7 (by simp at hia ⊢; omega)
        have hLen2 : zm_L M2 20 (am + ia) = L := by rw [k7.2.1, hf1.2.1]; exact hLen
        obtain ⟨M3, l1, l2, l3, l4⟩ := ih (pre ++ [x]) M2 (py_go P s W) (g ++ [(W.1, W.2.1)]) (by rw [e]; simp) h2 hma2 hLen2 hs2 (by
          have := go_b hP hsb hW.1
          simpa using this) (by
          intro i p hp
          by_cases ei : i = pre.length
          · subst ei
            rw [List.getElem?_append_right (by omega)] at hp
            simp [hgl] at hp
            subst hp
            exact ⟨k4, k5⟩
          · have hil : i < g.length := by
              have := (List.getElem?_eq_some_iff.mp hp).1
              simp at this
              omega
            rw [List.getElem?_append_left hil] at hp
            have := k6 i ei
            rw [this.1, this.2, mg_a hf1 (by decide) (by simp), mg_a hf1 (by decide) (by simp)]
            exact hg i p hp) (by simp; omega) fuel (by simp at hf; omega)
        have hrn : py_rn P (x :: ls) s = ((W.1, W.2.1) :: (py_rn P ls (py_go P s W)).1, (py_rn P ls (py_go P s W)).2) := by simp [py_rn, hfd]
        rw [hrn]
        refine ⟨M3, ?_, l2, by simpa using l3, zf_trans (zf_mono hf1 (mg_mono (by simp) (by simp))) (zf_trans (zf_mono k7 (mg_mono (by simp) (by simp))) l4)⟩
        rw [hfd] at e1'
        simp only [List.length_append, List.length_cons, List.length_nil, Nat.zero_add] at l1 ⊢
        have e9 : pre.length + ((py_rn P ls (py_go P s W)).1.length + 1) = pre.length + 1 + (py_rn P ls (py_go P s W)).1.length := by omega
        rw [e9, ← l1, ← k1]
        simp only [mo_goesThrough_8, if_neg hge, hLen, if_pos hz, nI_clamp (show pre.length < 2 ^ 31 by omega), hxv, e1', Option.bind_some, Option.isSome_some, pb_zbt]
        rw [if_neg (by decide)]
        rfl
theorem mr_goesThrough (h : mp_ok am M r P) (hd : 37 ≤ d) {ia L : Nat} {letters : List Nat} (hia : ¬ ia ∈ [14, 15, 16, 17, 23, 25, 26]) (hL : letters.length ≤ L) (hL2 : L ≤ 26) (hma : ma_x am M ia letters) (hLen : zm_L M 20 (am + ia) = L) : ∃ M', mo_goesThrough d am (nI r) (some (am + ia)) (nI letters.length) M = some (nI (py_rn P letters py_s00).1.length, M') ∧ mk_x am M' 0 (py_rn P letters py_s00).2 ∧ mv_x am M' (py_rn P letters py_s00).1 ∧ zf (mg am [26, 35, 36] [14, 15, 16, 17, 23, 25, 26]) M M' := by
  have hLF := pb_LF
  obtain ⟨d, rfl⟩ : ∃ d', d = d' + 1 := ⟨d - 1, by omega⟩
  show ∃ M', mo_goesThrough_b d am (nI r) (some (am + ia)) (nI letters.length) M = _ ∧ _
  obtain ⟨M1, e1, e2, e3⟩ := mr_begins (d := d) (v := 0) h (by omega)
  have hf1 := zf_mono e3 gw_mg
  obtain ⟨M2, f1, f2, f3, f4⟩ := mr_goesThrough_8 (am := am) (r := r) (d := d) h.1 (by omega) hia hL hL2 letters [] M1 py_s00 [] rfl (mp_zf h hf1 (by simp)) (ma_mg hma hf1 (by simp at hia ⊢; omega)) (by rw [hf1.2.1]; exact hLen) e2 s00_b (by intro i p hp; simp at hp) rfl zLF (by omega)
  simp only [List.length_nil, Nat.zero_add, List.nil_append] at f1 f3
  refine ⟨M2, ?_, f2, f3, zf_trans (zf_mono hf1 (mg_mono (by simp) (by simp))) f4⟩
  unfold mo_goesThrough_b
  have e1' : mo_begins d am 0 M = some M1 := e1
  rw [e1']
  exact f1
theorem rn_b (h : py_ok P) : ∀ (ls : List Nat) (s : yS) (B : Nat), sw_b P B s → sw_b P (B + ls.length) (py_rn P ls s).2 := by
  intro ls
  induction ls with
  | nil => intro s B hs; simpa [py_rn] using hs
  | cons x ls ih =>
    intro s B hs
    unfold py_rn
    cases hfd : py_fd P s x with
    | none =>
      refine ⟨hs.1, fun c => ?_⟩
      have := hs.2 c
      show s.2.1 c ≤ B + (x :: ls).length
      omega
    | some W =>
      have := ih _ _ (go_b h hs (fd_mem hfd).1)
      simp only [List.length_cons]
      have e : B + (ls.length + 1) = B + 1 + ls.length := by omega
      rw [e]
      exact this
def py_wrd (P : yP) (ls : List Nat) : Bool := decide ((py_rn P ls py_s00).1.length = ls.length) && py_ce P (py_rn P ls py_s00).2
theorem rn_len : ∀ (ls : List Nat) (s : yS), (py_rn P ls s).1.length ≤ ls.length := by
  intro ls
  induction ls with
  | nil => intro s; simp [py_rn]
  | cons x ls ih =>
    intro s
    unfold py_rn
    cases py_fd P s x with
    | none => simp
    | some W =>
      have := ih (py_go P s W)
      simp
      omega
theorem mr_isWord (h : mp_ok am M r P) (hd : 38 ≤ d) {ia L : Nat} {letters : List Nat} (hia : ¬ ia ∈ [14, 15, 16, 17, 23, 25, 26]) (hL : letters.length ≤ L) (hL2 : L ≤ 26) (hma : ma_x am M ia letters) (hLen : zm_L M 20 (am + ia) = L) : ∃ M', mo_isWord d am (nI r) (some (am + ia)) (nI letters.length) M = some (zb (py_wrd P letters), M') ∧ zf (mg am [26, 35, 36] [14, 15, 16, 17, 23, 25, 26]) M M' := by
  obtain ⟨d, rfl⟩ : ∃ d', d = d' + 1 := ⟨d - 1, by omega⟩
  show ∃ M', mo_isWord_b d am (nI r) (some (am + ia)) (nI letters.length) M = _ ∧ _
  obtain ⟨M1, e1, e2, e3, e4⟩ := mr_goesThrough (d := d) h (by omega) hia hL hL2 hma hLen
  have h1 := mp_zf h e4 (by simp)
  have hb := sw_of (rn_b h.1 letters py_s00 0 s00_b) (by omega)
  have hce := mr_canEnd (d := d) (w := 0) h1 (by omega) e2 hb (by omega)
  have hce' : mo_canEnd d am (nI r) 0 M1 = _ := hce
  have hrl := rn_len (P := P) letters py_s00
  refine ⟨M1, ?_, e4⟩
  unfold mo_isWord_b py_wrd
  rw [e1]
  simp only [Option.bind_some, nI_eq (show (py_rn P letters py_s00).1.length < 2 ^ 31 by omega) (show letters.length < 2 ^ 31 by omega)]
  by_cases q : (py_rn P letters py_s00).1.length = letters.length
  · rw [if_pos q, hce']
    simp only [Option.bind_some]
    cases py_ce P (py_rn P letters py_s00).2
    · simp [zb, mo_isWord_24, mo_isWord_25]
    · rw [pb_zbt, if_neg (by decide)]
      simp [zb, q, mo_isWord_25]
  · simp [q, mo_isWord_24, mo_isWord_25, zb]
/-- some way takes a letter iff it could come -/
theorem fd_cc (h : py_ok P) (hs : ∀ o, s.1 = some o → o < py_nl P) {l : Nat} (hl : l < 26) : zbt (zor (py_cc P s)) l = (py_fd P s l).isSome := by
  have h26 : ∀ q, q ∈ py_cc P s → q < 32 := by
    intro q hq
    unfold py_cc at hq
    obtain ⟨W, hW, e⟩ := List.mem_map.mp hq
    have := ok_lt h (ways_lt h hs (List.mem_filter.mp hW).1).1
    omega
  rw [zor_bt h26 (by omega)]
  rw [Bool.eq_iff_iff]
  unfold py_cc py_fd
  rw [List.find?_isSome]
  simp only [List.contains_iff_mem, List.mem_map, List.mem_filter, Bool.and_eq_true, beq_iff_eq]
  constructor
  · intro ⟨W, ⟨h1, h2⟩, h3⟩
    exact ⟨W, h1, h3, h2⟩
  · intro ⟨W, h1, h3, h2⟩
    exact ⟨W, ⟨h1, h2⟩, h3⟩
end
