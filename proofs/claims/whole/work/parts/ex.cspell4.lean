/-! THE CLASS: the best of parts, parts in any order, the shortest word -/
def py_cb (f : Nat → List Nat) (m : Nat) (l : List Nat) (u : List Nat) : List Nat := l.foldl (fun u c => if (f c).length = m then (if u = [] then f c else if py_lex (f c) u then f c else u) else u) u
section
variable {f : Nat → List Nat} {m : Nat}
/-- the first of the shortest by letters -/
theorem cb_bst (hm : 0 < m) : ∀ (l : List Nat) (u w : List Nat), (∀ c, c ∈ l → m ≤ (f c).length) → ((u.length = m ∧ w = u) ∨ (m < u.length ∧ w = [] ∧ ∃ c, c ∈ l ∧ (f c).length = m)) → l.foldl (fun u c => if py_ls (f c) u then f c else u) u = py_cb f m l w := by
  intro l
  induction l with
  | nil =>
    intro u w hl h
    rcases h with ⟨_, h⟩ | ⟨_, _, c, hc, _⟩
    · exact h.symm
    · cases hc
  | cons c l ih =>
    intro u w hl h
    have hc := hl c List.mem_cons_self
    have hl' : ∀ x, x ∈ l → m ≤ (f x).length := fun x hx => hl x (List.mem_cons_of_mem _ hx)
    have un : py_cb f m (c :: l) w = py_cb f m l (if (f c).length = m then (if w = [] then f c else if py_lex (f c) w then f c else w) else w) := rfl
    rw [List.foldl_cons, un]
    rcases h with ⟨h1, h2⟩ | ⟨h1, h2, x, hx, hxm⟩
    · subst h2
      have hw : ¬ w = [] := by
        intro e
        rw [e] at h1
        simp at h1
        omega
      rw [if_neg hw]
      by_cases q : (f c).length = m
      · rw [if_pos q]
        have e1 : py_ls (f c) w = py_lex (f c) w := by
          unfold py_ls
          rw [decide_eq_false (show ¬ (f c).length < w.length by omega), show ((f c).length == w.length) = true by simp; omega]
          simp
        rw [e1]
        refine ih _ _ hl' (.inl ⟨?_, rfl⟩)
        split
        · exact q
        · exact h1
      · rw [if_neg q]
        have e1 : py_ls (f c) w = false := by
          unfold py_ls
          rw [decide_eq_false (show ¬ (f c).length < w.length by omega), show ((f c).length == w.length) = false by simp; omega]
          simp
        rw [e1]
        exact ih _ _ hl' (.inl ⟨h1, rfl⟩)
    · subst h2
      rw [if_pos rfl]
      by_cases q : (f c).length = m
      · rw [if_pos q]
        have e1 : py_ls (f c) u = true := by
          unfold py_ls
          rw [decide_eq_true (show (f c).length < u.length by omega)]
          simp
        rw [e1]
        exact ih _ _ hl' (.inl ⟨q, rfl⟩)
      · rw [if_neg q]
        have hxl : x ∈ l := by
          rcases List.mem_cons.mp hx with e | e
          · rw [e] at hxm; exact absurd hxm q
          · exact e
        refine ih _ _ hl' (.inr ⟨?_, rfl, x, hxl, hxm⟩)
        split
        · omega
        · exact h1
theorem mn_all {f : Nat → Nat} : ∀ (l : List Nat) (a : Nat), l.foldl (fun m c => min m (f c)) a ≤ a ∧ (∀ c, c ∈ l → l.foldl (fun m c => min m (f c)) a ≤ f c) ∧ (l.foldl (fun m c => min m (f c)) a = a ∨ ∃ c, c ∈ l ∧ f c = l.foldl (fun m c => min m (f c)) a) := by
  intro l
  induction l with
  | nil => intro a; exact ⟨Nat.le_refl _, fun c hc => (by cases hc), .inl rfl⟩
  | cons x l ih =>
    intro a
    obtain ⟨h1, h2, h3⟩ := ih (min a (f x))
    rw [List.foldl_cons]
    refine ⟨by omega, ?_, ?_⟩
    · intro c hc
      rcases List.mem_cons.mp hc with e | e
      · rw [e]; omega
      · exact h2 c e
    · rcases h3 with h3 | ⟨c, hc, h3⟩
      · by_cases q : a ≤ f x
        · exact .inl (by omega)
        · exact .inr ⟨x, List.mem_cons_self, by omega⟩
      · exact .inr ⟨c, List.mem_cons_of_mem _ hc, h3⟩
theorem ln_pos {P : yP} (h : py_ok P) : ∀ n, py_dm P n → py_nu P n = false → 0 < py_ln P n := by
  refine ok_down h _ ?_
  intro n hn ih hu
  have sumpos : ∀ (l : List Nat), (∃ c, c ∈ l ∧ 0 < py_ln P c) → 0 < (l.map (py_ln P)).sum := by
    intro l
    induction l with
    | nil => rintro ⟨c, hc, _⟩; cases hc
    | cons x l ihl =>
      rintro ⟨c, hc, hp⟩
      rw [List.map_cons, List.sum_cons]
      rcases List.mem_cons.mp hc with e | e
      · rw [← e]; omega
      · have := ihl ⟨c, e, hp⟩; omega
  have k24 : (py_kd P n = 2 ∨ py_kd P n = 4) → 0 < py_ln P n := by
    intro hk
    rw [ln_sum h hn hk]
    rw [nu_all h hn hk, List.all_eq_false] at hu
    obtain ⟨c, hc, hcu⟩ := hu
    exact sumpos _ ⟨c, hc, ih c hc (by simpa using hcu)⟩
  rcases ok_kd6 h hn with hk | hk | hk | hk | hk | hk
  · have e : py_ln P n = 1 := by
      unfold py_ln
      rw [wd_eq h hn]
      unfold py_wg
      rw [hu, hk]
      rfl
    omega
  · rw [nu_k1 h hn hk] at hu; cases hu
  · exact k24 (.inl hk)
  · rw [ln_min h hn hk]
    have hlen := ok_k3 h hn hk
    cases hks : py_ks P n with
    | nil => rw [hks] at hlen; simp at hlen
    | cons c l =>
      have hp : ∀ x, x ∈ py_ks P n → 0 < py_ln P x := fun x hx => ih x hx (nu_kids3 h hn hk hu hx)
      have hmin : ∀ (l : List Nat) (a : Nat), 0 < a → (∀ x, x ∈ l → 0 < py_ln P x) → 0 < l.foldl (fun m c => min m (py_ln P c)) a := by
        intro l
        induction l with
        | nil => intro a ha _; exact ha
        | cons x l ihl =>
          intro a ha hx
          rw [List.foldl_cons]
          have := hx x List.mem_cons_self
          exact ihl _ (by omega) (fun y hy => hx y (List.mem_cons_of_mem _ hy))
      exact hmin l _ (hp c (by rw [hks]; simp)) (fun x hx => hp x (by rw [hks]; exact List.mem_cons_of_mem _ hx))
  · exact k24 (.inr hk)
  · obtain ⟨⟨c, hc, _⟩, _⟩ := ok_k5 h hn hk
    have h1 := nu_kid5 h hn hk hu hc
    rw [ln_cnt h hn hk hc, hu, if_neg (by decide)]
    have := ih c (by rw [hc]; simp) h1.1
    exact Nat.mul_pos this (by omega)
theorem wd_ne {P : yP} (h : py_ok P) {n : Nat} (hn : py_dm P n) (hu : py_nu P n = false) : py_wd P n ≠ [] := by
  intro e
  have := ln_pos h n hn hu
  unfold py_ln at this
  rw [e] at this
  simp at this
theorem cb_wd {P : yP} (h : py_ok P) {n : Nat} (hn : py_dm P n) (hk : py_kd P n = 3) (hu : py_nu P n = false) : py_cb (py_wd P) (py_ln P n) (py_ks P n) [] = py_wd P n ∧ 0 < py_ln P n := by
  have hlen := ok_k3 h hn hk
  have hmin := ln_min h hn hk
  have hnz : ∀ c, c ∈ py_ks P n → py_wd P c ≠ [] := by
    intro c hc e
    exact wd_ne h (ok_kid h hn hc) (nu_kids3 h hn hk hu hc) e
  have hwd : py_wd P n = py_bst (py_wd P) (py_ks P n) := by
    rw [wd_eq h hn]
    unfold py_wg
    rw [hu, hk]
    rfl
  cases hks : py_ks P n with
  | nil => rw [hks] at hlen; simp at hlen
  | cons c l =>
    have hpos : 0 < (py_wd P c).length := by
      have := hnz c (by rw [hks]; simp)
      exact List.length_pos_iff.mpr this
    have hm : py_ln P n = l.foldl (fun m c => min m (py_wd P c).length) (py_wd P c).length := by rw [hmin, hks]; rfl
    obtain ⟨m1, m2, m3⟩ := mn_all (f := fun c => (py_wd P c).length) l (py_wd P c).length
    rw [← hm] at m1 m2 m3
    have hp : 0 < py_ln P n := by
      rcases m3 with e | ⟨x, hx, e⟩
      · omega
      · have := hnz x (by rw [hks]; exact List.mem_cons_of_mem _ hx)
        have := List.length_pos_iff.mpr this
        omega
    refine ⟨?_, hp⟩
    rw [hwd, hks]
    show py_cb (py_wd P) (py_ln P n) l (if (py_wd P c).length = py_ln P n then (if ([] : List Nat) = [] then py_wd P c else if py_lex (py_wd P c) [] then py_wd P c else []) else []) = l.foldl (fun u c => if py_ls (py_wd P c) u then py_wd P c else u) (py_wd P c)
    rw [if_pos rfl]
    refine (cb_bst hp l _ _ (fun x hx => m2 x hx) ?_).symm
    by_cases q : (py_wd P c).length = py_ln P n
    · rw [if_pos q]
      exact .inl ⟨q, rfl⟩
    · rw [if_neg q]
      refine .inr ⟨by omega, rfl, ?_⟩
      rcases m3 with e | e
      · exact absurd e.symm q
      · exact e
end
section
variable {M M' : zM} {pa : Nat → Nat} {P : yP} {d sp Q : Nat} {t : List Nat}
variable (R1 : Nat → Option Nat → Int32 → zM → Option zM) (R2 : Nat → Option Nat → Option Nat → Int32 → zM → Option zM) (R3 : Nat → Option Nat → Int32 → Int32 → zM → Option zM) (R4 : Nat → Option Nat → Int32 → zM → Option zM) (R5 : Nat → Option Nat → Int32 → Int32 → zM → Option zM)
theorem cl_sbest_11 (hP : py_ok P) (hq : Q + 10 ≤ sp) {n dep : Nat} (hn : py_dm P n) (hpos : 0 < py_ln P n) (hR : ∀ c, c ∈ py_ks P n → sg_S pa Q P sp R1 dep c) : ∀ (b a : List Nat) (M : zM) (u : List Nat), py_ks P n = a ++ b → cX M pa Q P → sl_x M sp (t ++ u) → zm_R M 7 sp 4 = some Q → (u = [] ∨ u.length = py_ln P n) → (t ++ u).length + 2 * py_Bs P b ≤ 9216 → ∀ fuel, b.length < fuel → ∃ M', sp_spellBest_11 R1 R2 R3 R4 R5 d fuel sp (some (pa n)) (nI dep) (nI t.length) (b.head?.map pa) M = some M' ∧ sl_x M' sp (t ++ py_cb (py_wd P) (py_ln P n) b u) ∧ zf (sl_W sp) M M' := by
  have hln := ln_le hP hn
  intro b
  induction b with
  | nil =>
    intro a M u e hX hx h4 hu hlen fuel hf
    cases fuel with
    | zero => cases hf
    | succ fuel => exact ⟨M, rfl, hx, zf_refl _ _⟩
  | cons c b ih =>
    intro a M u e hX hx h4 hu hlen fuel hf
    cases fuel with
    | zero => cases hf
    | succ fuel =>
      have hc : c ∈ py_ks P n := by rw [e]; simp
      have hdc := ok_kid hP hn hc
      have hcl := ln_le hP hdc
      have hw := wd_len hP c hdc
      rw [Bs_cons] at hlen
      have hsz := hx.2.2.1
      have hlt : (t ++ u).length = t.length + u.length := List.length_append
      have h12c : zm_I M 3 (pa c) 12 = nI (py_ln P c) := (hX.2.1 c hdc).2.2.2.2.1
      have h12n : zm_I M 3 (pa n) 12 = nI (py_ln P n) := (hX.2.1 n hn).2.2.2.2.1
      have un : py_cb (py_wd P) (py_ln P n) (c :: b) u = py_cb (py_wd P) (py_ln P n) b (if (py_wd P c).length = py_ln P n then (if u = [] then py_wd P c else if py_lex (py_wd P c) u then py_wd P c else u) else u) := rfl
      rw [un]
      show ∃ M', sp_spellBest_11 R1 R2 R3 R4 R5 d (fuel + 1) sp (some (pa n)) (nI dep) (nI t.length) (some (pa c)) M = some M' ∧ _
      rw [sp_spellBest_11]
      simp only [h12c, h12n, sp_spellBest_54, zlet]
      have next : ∀ (M1 : zM) (u1 : List Nat), zf (sl_W sp) M M1 → sl_x M1 sp (t ++ u1) → (u1 = [] ∨ u1.length = py_ln P n) → u1.length ≤ u.length + py_B P c → ∃ M', sp_spellBest_11 R1 R2 R3 R4 R5 d fuel sp (some (pa n)) (nI dep) (nI t.length) (zm_R M1 3 (pa c) 7) M1 = some M' ∧ sl_x M' sp (t ++ py_cb (py_wd P) (py_ln P n) b u1) ∧ zf (sl_W sp) M M' := by
        intro M1 u1 f1 x1 hu1 hl1
        have hX1 := cX_sl hX f1 hq
        have hnx : zm_R M1 3 (pa c) 7 = b.head?.map pa := cN_nx hX1.1 hn e
        obtain ⟨M2, b1, b2, b3⟩ := ih (a ++ [c]) M1 u1 (by rw [e]; simp) hX1 x1 (by rw [f1.1]; exact h4) hu1 (by rw [List.length_append]; omega) fuel (by rw [List.length_cons] at hf; omega)
        rw [hnx]
        exact ⟨M2, b1, b2, zf_trans f1 b3⟩
      by_cases q : py_ln P c = py_ln P n
      · have q' : (py_wd P c).length = py_ln P n := q
        rw [if_pos (by rw [q]), if_pos q']
        obtain ⟨M1, a1, a2, a3⟩ := hR c hc M _ hX hx h4 (by omega)
        rw [a1, Option.bind_some, hx.2.1, hlt]
        by_cases q2 : u = []
        · subst q2
          rw [List.length_nil, Nat.add_zero, if_pos ((nI_leI (by omega) (by omega)).mpr (by omega)), if_pos rfl]
          rw [List.append_nil] at a2
          exact next M1 _ a3 a2 (.inr q') (by omega)
        · have hul : u.length = py_ln P n := by
            rcases hu with h | h
            · exact absurd h q2
            · exact h
          rw [if_neg (fun p => by have := (nI_leI (by omega) (by omega)).mp p; omega), if_neg q2]
          rw [List.append_assoc] at a2
          obtain ⟨M2, b1, b2, b3⟩ := cl_keepFirst (d := d) a2 (by omega)
          rw [b1, Option.bind_some]
          refine next M2 _ (zf_trans a3 b3) b2 (.inr ?_) ?_
          · split
            · exact q'
            · exact hul
          · split
            · omega
            · omega
      · rw [if_neg (fun p => q ((nI_eq (by omega) (by omega)).mp p)), if_neg (show ¬ (py_wd P c).length = py_ln P n from q)]
        exact next M u (zf_refl _ _) hx hu (by omega)
theorem cl_sparts_12 (hP : py_ok P) (hq : Q + 10 ≤ sp) (hd : 1 ≤ d) {n dep : Nat} {v2 : Int32} {sel : Nat → Bool} (hn : py_dm P n) (k4 : py_kd P n = 4) (hsel : ∀ a c b, py_ks P n = a ++ c :: b → zbt v2 a.length = sel c) (hR : ∀ c, c ∈ py_ks P n → sg_S pa Q P sp R1 dep c) : ∀ (b a : List Nat) (M : zM) (S : List (List Nat)) (v : Int64), py_ks P n = a ++ b → cX M pa Q P → sl_x M sp (t ++ S.flatten) → zm_R M 7 sp 4 = some Q → S.length ≤ a.length → pk_s v S → (t ++ S.flatten).length + 2 * py_Bs P b ≤ 9216 → ∀ fuel, b.length < fuel → ∃ M', sp_spellParts_12 R1 R2 R3 R4 R5 d fuel sp v2 (nI dep) v (nI S.length) (b.head?.map pa) M = some M' ∧ sl_x M' sp (t ++ (py_sm sel (py_wd P) b S).flatten) ∧ zf (sl_W sp) M M' := by
  have h4k := (ok_k4 hP hn k4).2.1
  intro b
  induction b with
  | nil =>
    intro a M S v e hX hx h4 hS hp hlen fuel hf
    cases fuel with
    | zero => cases hf
    | succ fuel => exact ⟨M, rfl, hx, zf_refl _ _⟩
  | cons c b ih =>
    intro a M S v e hX hx h4 hS hp hlen fuel hf
    cases fuel with
    | zero => cases hf
    | succ fuel =>
      have hc : c ∈ py_ks P n := by rw [e]; simp
      have hdc := ok_kid hP hn hc
      have hw := wd_len hP c hdc
      have hal : a.length + (b.length + 1) ≤ 4 := by rw [e] at h4k; simpa using h4k
      rw [Bs_cons] at hlen
      have hpl : zm_I M 3 (pa c) 2 = nI a.length := cN_pl hX.1 hn e
      have un : py_sm sel (py_wd P) (c :: b) S = py_sm sel (py_wd P) b (if sel c then py_ins (py_wd P c) S else S) := rfl
      rw [un]
      show ∃ M', sp_spellParts_12 R1 R2 R3 R4 R5 d (fuel + 1) sp v2 (nI dep) v (nI S.length) (some (pa c)) M = some M' ∧ _
      rw [sp_spellParts_12]
      simp only [hpl, zy_has v2 (show a.length < 32 by omega), hsel a c b e, sp_spellParts_57, zlet]
      have next : ∀ (M1 : zM) (S1 : List (List Nat)) (v1 : Int64), zf (sl_W sp) M M1 → sl_x M1 sp (t ++ S1.flatten) → S1.length ≤ a.length + 1 → pk_s v1 S1 → S1.flatten.length ≤ S.flatten.length + py_B P c → ∃ M', sp_spellParts_12 R1 R2 R3 R4 R5 d fuel sp v2 (nI dep) v1 (nI S1.length) (zm_R M1 3 (pa c) 7) M1 = some M' ∧ sl_x M' sp (t ++ (py_sm sel (py_wd P) b S1).flatten) ∧ zf (sl_W sp) M M' := by
        intro M1 S1 v1 f1 x1 hS1 hp1 hl1
        have hX1 := cX_sl hX f1 hq
        have hnx : zm_R M1 3 (pa c) 7 = b.head?.map pa := cN_nx hX1.1 hn e
        obtain ⟨M2, b1, b2, b3⟩ := ih (a ++ [c]) M1 S1 v1 (by rw [e]; simp) hX1 x1 (by rw [f1.1]; exact h4) (by simp; omega) hp1 (by simp only [List.length_append] at hlen ⊢; omega) fuel (by rw [List.length_cons] at hf; omega)
        rw [hnx]
        exact ⟨M2, b1, b2, zf_trans f1 b3⟩
      by_cases q : sel c = true
      · rw [if_pos q, if_neg (show ¬ (1 : Int32) = 0 by decide), if_pos q]
        obtain ⟨M1, a1, a2, a3⟩ := hR c hc M _ hX hx h4 (by omega)
        rw [List.append_assoc] at a2
        obtain ⟨v1, M2, b1, b2, b3, b4⟩ := cl_sortIn (d := d) hd (by omega) a2 hp
        have esz : zm_I M 7 sp 1 = nI (t.length + S.flatten.length) := by rw [hx.2.1, List.length_append]
        rw [a1, Option.bind_some, esz, b1, Option.bind_some, nI_1, ← ins_len (py_wd P c) S]
        exact next M2 _ v1 (zf_trans a3 b4) b3 (by rw [ins_len]; omega) b2 (by rw [ins_flat]; omega)
      · rw [if_neg q, if_pos rfl, if_neg q]
        exact next M S v (zf_refl _ _) hx (by omega) hp (by omega)
end
