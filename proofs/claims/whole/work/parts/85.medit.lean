/-! THE MODEL mends -/
/-- letters with one less, more, another -/
def py_es (kind place l : Nat) : Nat → List Nat → List Nat
  | i, [] => if i = place ∧ 1 < kind then [l] else []
  | i, x :: r => ((if i = place ∧ 1 < kind then [l] else []) ++ (if i ≠ place ∨ kind = 2 then [x] else [])) ++ py_es kind place l (i + 1) r
theorem es_len (kind place l : Nat) : ∀ (r : List Nat) (i : Nat), (py_es kind place l i r).length ≤ r.length + (if i ≤ place then 1 else 0) := by
  intro r
  induction r with
  | nil =>
    intro i
    unfold py_es
    by_cases q : i = place ∧ 1 < kind
    · rw [if_pos q, if_pos (by omega)]
      simp
    · rw [if_neg q]
      simp
  | cons x r ih =>
    intro i
    have := ih (i + 1)
    unfold py_es
    simp only [List.length_append, List.length_cons]
    have h2 : (if i ≠ place ∨ kind = 2 then [x] else []).length ≤ 1 := by split <;> simp
    by_cases q : i = place ∧ 1 < kind
    · rw [if_pos q, if_pos (by omega : i ≤ place)]
      rw [if_neg (by omega : ¬ i + 1 ≤ place)] at this
      simp only [List.length_cons, List.length_nil]
      omega
    · rw [if_neg q]
      by_cases q2 : i ≤ place
      · rw [if_pos q2]
        have h3 : (if i + 1 ≤ place then 1 else 0) ≤ 1 := by split <;> omega
        simp only [List.length_nil]
        omega
      · rw [if_neg q2]
        rw [if_neg (by omega : ¬ i + 1 ≤ place)] at this
        simp only [List.length_nil]
        omega
theorem es_26 {kind place l : Nat} (hl : 1 < kind → l < 26) : ∀ (r : List Nat) (i : Nat), (∀ x, x ∈ r → x < 26) → ∀ x, x ∈ py_es kind place l i r → x < 26 := by
  intro r
  induction r with
  | nil =>
    intro i _ x hx
    unfold py_es at hx
    by_cases q : i = place ∧ 1 < kind
    · rw [if_pos q] at hx
      have : x = l := by simpa using hx
      rw [this]
      exact hl q.2
    · rw [if_neg q] at hx
      cases hx
  | cons y r ih =>
    intro i h x hx
    unfold py_es at hx
    rcases List.mem_append.mp hx with hx | hx
    · rcases List.mem_append.mp hx with hx | hx
      · by_cases q : i = place ∧ 1 < kind
        · rw [if_pos q] at hx
          have : x = l := by simpa using hx
          rw [this]
          exact hl q.2
        · rw [if_neg q] at hx
          cases hx
      · by_cases q : i ≠ place ∨ kind = 2
        · rw [if_pos q] at hx
          have : x = y := by simpa using hx
          rw [this]
          exact h y List.mem_cons_self
        · rw [if_neg q] at hx
          cases hx
    · exact ih (i + 1) (fun z hz => h z (List.mem_cons_of_mem _ hz)) x hx
def me_W (am : Nat) : Nat → Nat → Nat → Prop := mg am [26, 35, 36, 53, 54, 55] [14, 15, 16, 17, 23, 25, 26, 31]
section
variable {am r d : Nat} {P : yP}
/-- what is mended -/
def mx_in (am : Nat) (M : zM) (r : Nat) (P : yP) (ls : List Nat) : Prop := mp_ok am M r P ∧ zm_I M 12 am 41 = nI r ∧ zm_I M 12 am 42 = nI ls.length ∧ ma_x am M 27 ls ∧ ls.length ≤ 24
theorem mx_zf {M M' : zM} {ls : List Nat} (h : mx_in am M r P ls) (hf : zf (me_W am) M M') : mx_in am M' r P ls := by
  obtain ⟨h1, h2, h3, h4, h5⟩ := h
  refine ⟨mp_zf h1 hf (by simp), ?_, ?_, ma_mg h4 hf (by simp), h5⟩
  · rw [mg_f hf (by simp)]
    exact h2
  · rw [mg_f hf (by simp)]
    exact h3
theorem mr_edits_6 {ls : List Nat} {kind place l : Nat} (hk : kind = 1 ∨ kind = 2 ∨ kind = 3) (hpl : place ≤ 24) (hd : 38 ≤ d) (hl : 1 < kind → l < 26) (v3 : Int32) (hv3 : 1 < kind → v3 = nI l) : ∀ (b a : List Nat) (M : zM) (E : List Nat), ls = a ++ b → mx_in am M r P ls → ma_x am M 31 E → E.length + b.length + (if a.length ≤ place then 1 else 0) ≤ 25 → ∀ fuel, b.length + 1 < fuel → ∃ M', mo_edits_6 d fuel am (nI kind) (nI place) v3 (nI E.length) (nI a.length) M = some (zb (py_wrd P (E ++ py_es kind place l a.length b)), M') ∧ (py_wrd P (E ++ py_es kind place l a.length b) = true → zm_I M' 12 am 53 = nI kind ∧ zm_I M' 12 am 54 = nI place ∧ zm_I M' 12 am 55 = if kind = 1 then -1 else nI l) ∧ zf (me_W am) M M' := by
  have hk1 : (nI kind ≤ 1) ↔ kind ≤ 1 := nI_leI (b := 1) (by omega) (by omega)
  have hk2 : (nI kind = 2) ↔ kind = 2 := nI_eq (b := 2) (by omega) (by omega)
  have hke : (nI kind = 1) ↔ kind = 1 := nI_eq (b := 1) (by omega) (by omega)
  /- a letter more at the end of what is made -/
  have app : ∀ (M : zM) (E : List Nat) (x : Nat), x < 26 → E.length < 26 → mx_in am M r P ls → ma_x am M 31 E → mx_in am (zm_setI M 20 (am + 31) E.length (nI x)) r P ls ∧ ma_x am (zm_setI M 20 (am + 31) E.length (nI x)) 31 (E ++ [x]) ∧ zf (me_W am) M (zm_setI M 20 (am + 31) E.length (nI x)) := by
    intro M E x hx hE hin hma
    have hf : zf (me_W am) M (zm_setI M 20 (am + 31) E.length (nI x)) := zf_set (.inr ⟨.inl rfl, 31, by simp, rfl⟩)
    refine ⟨mx_zf hin hf, ⟨?_, ?_⟩, hf⟩
    · intro i y hy
      by_cases e : i < E.length
      · rw [List.getElem?_append_left e] at hy
        rw [pm_ne (by omega)]
        exact hma.1 i y hy
      · have e2 : i = E.length := by
          have := (List.getElem?_eq_some_iff.mp hy).1
          simp at this
          omega
        subst e2
        simp at hy
        subst hy
        rw [pm_same]
    · intro y hy
      rcases List.mem_append.mp hy with q | q
      · exact hma.2 y q
      · have : y = x := by simpa using q
        omega
  intro b
  induction b with
  | nil =>
    intro a M E e hin hma hlen fuel hf
    have hal : ls.length = a.length := by rw [e]; simp
    have h24 := hin.2.2.2.2
    obtain ⟨fuel, rfl⟩ : ∃ f', fuel = f' + 2 := ⟨fuel - 2, by omega⟩
    /- the end: behind the last letter -/
    have hend : ∀ (M : zM) (E : List Nat) (f : Nat), mx_in am M r P ls → ma_x am M 31 E → E.length ≤ 26 → ∃ M', mo_edits_6 d (f + 1) am (nI kind) (nI place) v3 (nI E.length) (nI (a.length + 1)) M = some (zb (py_wrd P E), M') ∧ (py_wrd P E = true → zm_I M' 12 am 53 = nI kind ∧ zm_I M' 12 am 54 = nI place ∧ zm_I M' 12 am 55 = if kind = 1 then -1 else nI l) ∧ zf (me_W am) M M' := by
      intro M E f hin hma hE
      obtain ⟨h1, h2, h3, h4, h5⟩ := hin
      have hlt : nI ls.length < nI (a.length + 1) := nI_lt (by omega) (by omega)
      obtain ⟨M1, e1, e2⟩ := mr_isWord (d := d) (ia := 31) (L := 26) (letters := E) h1 hd (by simp) hE (by omega) hma (ml_L52 h1.2.1)
      have hf1 : zf (me_W am) M M1 := zf_mono e2 (mg_mono (by simp) (by simp))
      have e0 : mo_edits_6 d (f + 1) am (nI kind) (nI place) v3 (nI E.length) (nI (a.length + 1)) M = if zb (py_wrd P E) = 0 then some (0, M1) else (if kind = 1 then mo_edits_120 d (some am) (-1) (zm_setI (zm_setI M1 12 am 53 (nI kind)) 12 am 54 (nI place)) else mo_edits_120 d (some am) v3 (zm_setI (zm_setI M1 12 am 53 (nI kind)) 12 am 54 (nI place))) := by
        simp only [mo_edits_6, h3, if_pos hlt, h2, ml_R52 h1.2.1, e1, Option.bind_some, zlet, hke]
      rw [e0]
      cases hw : py_wrd P E
      · refine ⟨M1, by simp [zb], fun x => (by cases x), hf1⟩
      · rw [pb_zbt, if_neg (by decide)]
        by_cases q : kind = 1
        · rw [if_pos q]
          refine ⟨zm_setI (zm_setI (zm_setI M1 12 am 53 (nI kind)) 12 am 54 (nI place)) 12 am 55 (-1), rfl, ?_, zf_trans hf1 (zf_trans (zf_set (.inl ⟨rfl, rfl, by simp⟩)) (zf_trans (zf_set (.inl ⟨rfl, rfl, by simp⟩)) (zf_set (.inl ⟨rfl, rfl, by simp⟩))))⟩
          intro _
          rw [if_pos q]
          refine ⟨?_, ?_, pm_same⟩
          · rw [pm_ne (by omega), pm_ne (by omega), pm_same]
          · rw [pm_ne (by omega), pm_same]
        · rw [if_neg q]
          refine ⟨zm_setI (zm_setI (zm_setI M1 12 am 53 (nI kind)) 12 am 54 (nI place)) 12 am 55 v3, rfl, ?_, zf_trans hf1 (zf_trans (zf_set (.inl ⟨rfl, rfl, by simp⟩)) (zf_trans (zf_set (.inl ⟨rfl, rfl, by simp⟩)) (zf_set (.inl ⟨rfl, rfl, by simp⟩))))⟩
          intro _
          rw [if_neg q]
          refine ⟨?_, ?_, ?_⟩
          · rw [pm_ne (by omega), pm_ne (by omega), pm_same]
          · rw [pm_ne (by omega), pm_same]
          · rw [pm_same]
            exact hv3 (by omega)
    have hnlt : ¬ nI ls.length < nI a.length := nI_nlt (by omega) (by omega)
    have hle : nI ls.length ≤ nI a.length := nI_le (by omega) (by omega)
    have epl : (nI a.length = nI place) ↔ a.length = place := nI_eq (by omega) (by omega)
    have h37 : ∀ (M : zM) (E : List Nat), mx_in am M r P ls → mo_edits_37 (fun p0 p1 p2 p3 p4 p5 m => mo_edits_6 d (fuel + 1) p0 p1 p2 p3 p4 p5 m) d am (nI kind) (nI place) v3 (nI E.length) (nI a.length) M = mo_edits_6 d (fuel + 1) am (nI kind) (nI place) v3 (nI E.length) (nI (a.length + 1)) M := by
      intro M E hin
      simp only [mo_edits_37, hin.2.2.1, if_pos hle, mo_edits_74, zlet, nI_1]
    unfold py_es
    by_cases q : a.length = place ∧ 1 < kind
    · have hlk := hl q.2
      rw [if_pos q]
      rw [if_pos (by omega : a.length ≤ place)] at hlen
      simp only [List.length_nil] at hlen
      obtain ⟨a1, a2, a3⟩ := app M E l hlk (by omega) hin hma
      obtain ⟨M1, f1, f2, f3⟩ := hend _ (E ++ [l]) fuel a1 a2 (by simp; omega)
      refine ⟨M1, ?_, f2, zf_trans a3 f3⟩
      have hz : z_in (nI E.length) 26 := nI_in (by omega) (by omega)
      have hnk : ¬ kind ≤ 1 := by omega
      have h37' := h37 _ (E ++ [l]) a1
      rw [← f1, ← h37']
      have eE : nI (E ++ [l]).length = nI (E.length + 1) := by simp
      rw [eE]
      conv => lhs; unfold mo_edits_6
      simp only [hin.2.2.1, if_neg hnlt, epl, if_pos q.1, hk1, if_neg hnk, ml_R52 hin.1.2.1, ml_L52 hin.1.2.1, if_pos hz, nI_clamp (show E.length < 2 ^ 31 by omega), zlet, hv3 q.2, nI_1]
    · rw [if_neg q, List.append_nil]
      have hEl : E.length ≤ 26 := by simp only [List.length_nil] at hlen; omega
      obtain ⟨M1, f1, f2, f3⟩ := hend M E fuel hin hma hEl
      refine ⟨M1, ?_, f2, f3⟩
      have h37' := h37 M E hin
      rw [← f1, ← h37']
      conv => lhs; unfold mo_edits_6
      simp only [hin.2.2.1, if_neg hnlt, epl, hk1]
      by_cases q1 : a.length = place
      · have : kind ≤ 1 := by omega
        rw [if_pos q1, if_pos this]
      · rw [if_neg q1]
  | cons x b ih =>
    intro a M E e hin hma hlen fuel hf
    have hal : ls.length = a.length + (b.length + 1) := by rw [e]; simp
    have h24 := hin.2.2.2.2
    obtain ⟨fuel, rfl⟩ : ∃ f', fuel = f' + 1 := ⟨fuel - 1, by omega⟩
    simp only [List.length_cons] at hlen hf
    have hnlt : ¬ nI ls.length < nI a.length := nI_nlt (by omega) (by omega)
    have hnle : ¬ nI ls.length ≤ nI a.length := nI_ge (by omega) (by omega)
    have epl : (nI a.length = nI place) ↔ a.length = place := nI_eq (by omega) (by omega)
    have hxl : ls[a.length]? = some x := by rw [e]; simp
    have hx26 := hin.2.2.2.1.2 x (List.mem_of_getElem? hxl)
    have hz24 : z_in (nI a.length) 24 := nI_in (by omega) (by omega)
    /- behind the place: the letter itself -/
    have h37 : ∀ (M : zM) (E : List Nat), mx_in am M r P ls → ma_x am M 31 E → E.length + (b.length + 1) + (if a.length + 1 ≤ place then 1 else 0) ≤ 25 → ∃ M', mo_edits_37 (fun p0 p1 p2 p3 p4 p5 m => mo_edits_6 d fuel p0 p1 p2 p3 p4 p5 m) d am (nI kind) (nI place) v3 (nI E.length) (nI a.length) M = some (zb (py_wrd P (E ++ ((if a.length ≠ place ∨ kind = 2 then [x] else []) ++ py_es kind place l (a.length + 1) b))), M') ∧ (py_wrd P (E ++ ((if a.length ≠ place ∨ kind = 2 then [x] else []) ++ py_es kind place l (a.length + 1) b)) = true → zm_I M' 12 am 53 = nI kind ∧ zm_I M' 12 am 54 = nI place ∧ zm_I M' 12 am 55 = if kind = 1 then -1 else nI l) ∧ zf (me_W am) M M' := by
      intro M E hin hma hlen
      have hz : z_in (nI E.length) 26 := nI_in (by omega) (by omega)
      by_cases q : a.length ≠ place ∨ kind = 2
      · rw [if_pos q]
        obtain ⟨a1, a2, a3⟩ := app M E x hx26 (by omega) hin hma
        obtain ⟨M1, f1, f2, f3⟩ := ih (a ++ [x]) _ (E ++ [x]) (by rw [e]; simp) a1 a2 (by simp only [List.length_append, List.length_cons, List.length_nil, Nat.zero_add]; omega) fuel (by omega)
        simp only [List.length_append, List.length_cons, List.length_nil, Nat.zero_add, List.append_assoc] at f1 f2
        refine ⟨M1, ?_, f2, zf_trans a3 f3⟩
        rw [← f1]
        have h57 : mo_edits_57 (fun p0 p1 p2 p3 p4 p5 m => mo_edits_6 d fuel p0 p1 p2 p3 p4 p5 m) d am (nI kind) (nI place) v3 (nI E.length) (nI a.length) M = mo_edits_6 d fuel am (nI kind) (nI place) v3 (nI (E.length + 1)) (nI (a.length + 1)) (zm_setI M 20 (am + 31) E.length (nI x)) := by
          simp only [mo_edits_57, ml_R48 hin.1.2.1, ml_L48 hin.1.2.1, if_pos hz24, ml_R52 hin.1.2.1, ml_L52 hin.1.2.1, if_pos hz, nI_clamp (show E.length < 2 ^ 31 by omega), nI_clamp (show a.length < 2 ^ 31 by omega), hin.2.2.2.1.1 _ _ hxl, zlet, nI_1, mo_edits_74]
        simp only [mo_edits_37, hin.2.2.1, if_neg hnle, epl, hk2, h57]
        by_cases q1 : a.length = place
        · have : kind = 2 := by
            rcases q with q | q
            · exact absurd q1 q
            · exact q
          rw [if_pos q1, if_pos this]
        · rw [if_neg q1]
      · rw [if_neg q, List.nil_append]
        have q1 : a.length = place := by omega
        have q2 : ¬ kind = 2 := by omega
        obtain ⟨M1, f1, f2, f3⟩ := ih (a ++ [x]) M E (by rw [e]; simp) hin hma (by simp only [List.length_append, List.length_cons, List.length_nil, Nat.zero_add]; omega) fuel (by omega)
        simp only [List.length_append, List.length_cons, List.length_nil, Nat.zero_add] at f1 f2
        refine ⟨M1, ?_, f2, f3⟩
        rw [← f1]
        simp only [mo_edits_37, hin.2.2.1, if_neg hnle, epl, hk2, if_pos q1, if_neg q2, mo_edits_74, zlet, nI_1]
    unfold py_es
    by_cases q : a.length = place ∧ 1 < kind
    · have hlk := hl q.2
      rw [if_pos q]
      rw [if_pos (by omega : a.length ≤ place)] at hlen
      obtain ⟨a1, a2, a3⟩ := app M E l hlk (by omega) hin hma
      have hne : ¬ a.length + 1 ≤ place := by omega
      obtain ⟨M1, f1, f2, f3⟩ := h37 _ (E ++ [l]) a1 a2 (by rw [if_neg hne]; simp only [List.length_append, List.length_cons, List.length_nil]; omega)
      simp only [List.append_assoc] at f1 f2 ⊢
      refine ⟨M1, ?_, f2, zf_trans a3 f3⟩
      rw [← f1]
      have hz : z_in (nI E.length) 26 := nI_in (by omega) (by omega)
      have hnk : ¬ kind ≤ 1 := by omega
      have eE : nI (E ++ [l]).length = nI (E.length + 1) := by simp
      rw [eE]
      simp only [mo_edits_6, hin.2.2.1, if_neg hnlt, epl, if_pos q.1, hk1, if_neg hnk, ml_R52 hin.1.2.1, ml_L52 hin.1.2.1, if_pos hz, nI_clamp (show E.length < 2 ^ 31 by omega), zlet, hv3 q.2, nI_1]
    · rw [if_neg q, List.nil_append]
      obtain ⟨M1, f1, f2, f3⟩ := h37 M E hin hma (by
        by_cases q2 : a.length + 1 ≤ place
        · rw [if_pos q2]
          rw [if_pos (by omega : a.length ≤ place)] at hlen
          omega
        · rw [if_neg q2]
          omega)
      refine ⟨M1, ?_, f2, f3⟩
      rw [← f1]
      simp only [mo_edits_6, hin.2.2.1, if_neg hnlt, epl, hk1]
      by_cases q1 : a.length = place
      · have : kind ≤ 1 := by omega
        rw [if_pos q1, if_pos this]
      · rw [if_neg q1]
theorem mr_edits {M : zM} {ls : List Nat} (hin : mx_in am M r P ls) {kind place l : Nat} (hk : kind = 1 ∨ kind = 2 ∨ kind = 3) (hpl : place ≤ ls.length) (hd : 39 ≤ d) (hl : 1 < kind → l < 26) (v3 : Int32) (hv3 : 1 < kind → v3 = nI l) : ∃ M', mo_edits d am (nI kind) (nI place) v3 M = some (zb (py_wrd P (py_es kind place l 0 ls)), M') ∧ (py_wrd P (py_es kind place l 0 ls) = true → zm_I M' 12 am 53 = nI kind ∧ zm_I M' 12 am 54 = nI place ∧ zm_I M' 12 am 55 = if kind = 1 then -1 else nI l) ∧ zf (me_W am) M M' := by
  have hLF := pb_LF
  have h24 := hin.2.2.2.2
  obtain ⟨d, rfl⟩ : ∃ d', d = d' + 1 := ⟨d - 1, by omega⟩
  show ∃ M', mo_edits_b d am (nI kind) (nI place) v3 M = _ ∧ _
  unfold mo_edits_b
  obtain ⟨M1, f1, f2, f3⟩ := mr_edits_6 (am := am) (r := r) (d := d) (P := P) (ls := ls) (kind := kind) (place := place) (l := l) hk (by omega) (by omega) hl v3 hv3 ls [] M [] rfl hin ⟨by intro i x hx; simp at hx, by intro x hx; cases hx⟩ (by
    have : (if ([] : List Nat).length ≤ place then 1 else 0) ≤ 1 := by split <;> omega
    simp only [List.length_nil] at this ⊢
    omega) zLF (by omega)
  exact ⟨M1, f1, f2, f3⟩
end
