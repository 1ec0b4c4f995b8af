/-! WHERE A RULE IS SURE each letter goes by one way at most; words are runs -/
def py_pn (P : yP) : Nat → yS → Nat
  | 0, s => if py_ce P s then 1 else 0
  | n + 1, s => sl (fun W => py_pn P n (py_go P s W)) (py_avs P s)
theorem sl_zero {α : Type} : ∀ l : List α, sl (fun _ => 0) l = 0 := by
  intro l
  induction l with
  | nil => rfl
  | cons a l ih => rw [sl_cons, ih]
section
variable {P : yP} {s : yS} {B : Nat}
theorem sure_pw (hs : py_sure P = true) {p : Option Nat} (hp : ∀ o, p = some o → o < py_nl P) : (py_ways P p).Pairwise (fun W V => py_both P p V W = false) := by
  have hcf : py_cf P false = 0 := by
    unfold py_sure at hs
    simpa using hs
  have key : ∀ (l : List Nat), py_cfs P false l = 0 → ∀ k, k ∈ l → py_cfp P false (py_po k) = 0 := by
    intro l
    induction l with
    | nil => intro _ k hk; cases hk
    | cons x l ih =>
      intro h k hk
      have h : py_cfp P false (py_po x) + py_cfs P false l = 0 := h
      rcases List.mem_cons.mp hk with q | q
      · rw [q]; omega
      · exact ih (by omega) k q
  have hk : ∃ k, k ∈ List.range' 0 (py_nl P + 1) ∧ py_po k = p := by
    cases p with
    | none => exact ⟨0, by rw [List.mem_range'_1]; omega, rfl⟩
    | some o => exact ⟨o + 1, by rw [List.mem_range'_1]; have := hp o rfl; omega, rfl⟩
  obtain ⟨k, hk1, hk2⟩ := hk
  have h0 := key _ hcf k hk1
  rw [hk2] at h0
  have pw : ∀ (t pre : List yW), py_pc (py_cf1 P false p) pre t = 0 → (∀ W V, W ∈ pre → V ∈ t → py_both P p V W = false) ∧ t.Pairwise (fun W V => py_both P p V W = false) := by
    intro t
    induction t with
    | nil => intro pre _; exact ⟨fun W V _ h => (by cases h), List.Pairwise.nil⟩
    | cons V t ih =>
      intro pre h
      have h : (pre.filter (py_cf1 P false p V)).length + py_pc (py_cf1 P false p) (pre ++ [V]) t = 0 := h
      obtain ⟨i1, i2⟩ := ih (pre ++ [V]) (by omega)
      have hf : pre.filter (py_cf1 P false p V) = [] := List.eq_nil_of_length_eq_zero (by omega)
      have hVW : ∀ W, W ∈ pre → py_both P p V W = false := by
        intro W hW
        have := List.filter_eq_nil_iff.mp hf W hW
        unfold py_cf1 at this
        simpa using this
      refine ⟨?_, List.pairwise_cons.mpr ⟨fun U hU => i1 V U (by simp) hU, i2⟩⟩
      intro W U hW hU
      rcases List.mem_cons.mp hU with q | q
      · rw [q]; exact hVW W hW
      · exact i1 W U (List.mem_append.mpr (.inl hW)) q
  exact (pw _ [] h0).2
theorem both_cg (hP : py_ok P) (hu : wk_u P s) (hv : ∀ o, s.1 = some o → o < py_nl P) {V W : yW} (hV : V ∈ py_avs P s) (hW : W ∈ py_avs P s) (hl : py_lt P V.1 = py_lt P W.1) : py_both P s.1 V W = true := by
  unfold py_both
  rw [Bool.and_eq_true]
  refine ⟨by simpa using hl, ?_⟩
  cases hs : s.1 with
  | none => rfl
  | some o =>
    have ho := hv o hs
    have hlf := ok_lf hP ho
    show py_bo P V W (py_lf P o) = true
    obtain ⟨mV, cV⟩ := List.mem_filter.mp hV
    obtain ⟨mW, cW⟩ := List.mem_filter.mp hW
    have tw : ∀ U : yW, U ∈ py_ways P s.1 → ∃ k a, py_tw P (py_lf P o) U k a := by
      intro U hU
      rw [hs] at hU
      have hb : ∀ o', some o = some o' → o' < py_nl P := fun o' e => by injection e with e; rw [← e]; exact ho
      have hf := cw_fst hP hb
      rw [← hf] at hU
      obtain ⟨K, hK, rfl⟩ := List.mem_map.mp hU
      obtain ⟨⟨k, a, h1, h2, h3, h4⟩, _⟩ := cwf_mem hP (py_lf P o) hlf 40 0 0 K hK
      exact ⟨k, a, h1, h2, h3, h4⟩
    obtain ⟨k, a, tV⟩ := tw V mV
    obtain ⟨k', a', tW⟩ := tw W mW
    have aV := tw_a hP hlf tV
    have aW := tw_a hP hlf tW
    have cg : ∀ (U : yW) (b : Nat), U.2.2.1 = some b → py_cg P s U = true → py_bl P s b (py_lf P o) = true ∧ py_gt P s b U.2.2.2 = true := by
      intro U b hb hc
      unfold py_cg at hc
      rw [hs] at hc
      simp only at hc
      rw [hb] at hc
      simpa using hc
    obtain ⟨bV, gV⟩ := cg V a aV.2.2.2 cV
    obtain ⟨bW, gW⟩ := cg W a' aW.2.2.2 cW
    -- what is left behind by a way can be left
    have left : ∀ (b n : Nat), py_bl P s b (py_lf P o) = true → py_wi P n (py_lf P o) = true → n ≠ py_lf P o → py_pa P n (some b) = true → py_wi P b (py_lf P o) = true → py_cl P s n = true := by
      intro b n hbl hn hne hpa hbw
      have hpa : (b != n && py_wi P b n) = true := hpa
      rw [Bool.and_eq_true] at hpa
      have hbn : b ≠ n := by simpa using hpa.1
      have key : ∀ x, py_dm P x → py_bl P s b x = true → py_wi P n x = true → n ≠ x → py_cl P s n = true := by
        refine ok_climb hP _ ?_ ?_
        · intro _ h1 h2
          have := wi_rt hP (n := n) (fun e => h2 e.symm)
          rw [this] at h1
          cases h1
        · intro x p hx e ih hblx hnx hne
          have hp := ok_pdm hP hx e
          rw [bl_up hP hx e] at hblx
          rw [wi_up hP hx e (fun h => hne h.symm)] at hnx
          by_cases q : p = b
          · -- then n is around b: no
            subst q
            exact absurd (wi_as hP n (wi_hg hP p hp hnx).2 hpa.2 hnx) hbn
          · have hq : (p == b) = false := by simpa using q
            rw [hq, Bool.false_or, Bool.and_eq_true] at hblx
            by_cases q2 : n = p
            · rw [q2]; exact hblx.1
            · exact ih hblx.2 hnx q2
      exact key _ hlf hbl hn hne
    have ut := (hu o hs).1
    have ub := (hu o hs).2
    have one : ∀ (U Y : yW) (b b' : Nat), U.2.2.1 = some b → Y.2.2.1 = some b' → py_dm P b → py_wi P b (py_lf P o) = true → b ≠ py_lf P o → py_bl P s b' (py_lf P o) = true → py_wi P b' (py_lf P o) = true → py_gt P s b U.2.2.2 = true → (py_kd P b = 5 → py_cr P b U Y = true) ∧ (U.2.2.2 ∈ py_ks P b → py_tn P U Y) := by
      intro U Y b b' hb hb' hbd hbw hbn hbl hbw' hgt
      refine ⟨fun h5 => ?_, fun hmem => ?_⟩
      · obtain ⟨_, k5b, k5c⟩ := ok_k5 hP hbd h5
        have h1 : 1 ≤ s.2.1 (py_nb P b) := ut _ k5b (by rw [k5c]; exact hbw)
        unfold py_gt at hgt
        rw [if_neg (by omega), if_pos h5] at hgt
        unfold py_cr
        cases hto : py_to P (py_nb P b) with
        | none => simp
        | some t =>
          rw [hto] at hgt
          have hgt : s.2.1 (py_nb P b) < t := by simpa using hgt
          have hl2 : py_lt2 P b U Y < t := by
            unfold py_lt2
            by_cases q : (py_ps P b U Y && !(py_ks P b).all (py_nu P)) = true
            · rw [if_pos q]
              rw [Bool.and_eq_true] at q
              have hps : py_pa P b Y.2.2.1 = true := by
                have := q.1
                unfold py_ps at this
                rw [hb, pa_self, Bool.false_or] at this
                exact this
              rw [hb'] at hps
              have hcl := left b' b hbl hbw hbn hps hbw'
              unfold py_cl at hcl
              rw [if_pos h5, Bool.or_eq_true] at hcl
              have hna : (py_ks P b).all (py_nu P) = false := by simpa using q.2
              rcases hcl with hcl | hcl
              · rw [hna] at hcl; cases hcl
              · have : py_fr P (py_nb P b) ≤ s.2.1 (py_nb P b) := by simpa using hcl
                omega
            · rw [if_neg q]
              omega
          rw [Bool.or_eq_true]
          exact .inr (by simpa using hl2)
      · intro a2 ha2 h4 hc
        rw [hb] at ha2
        injection ha2 with ha2
        subst ha2
        obtain ⟨hpa, hnu⟩ := hc
        rw [hb'] at hpa
        have hcl := left b' b hbl hbw hbn hpa hbw'
        unfold py_cl at hcl
        rw [if_neg (by omega), if_pos h4] at hcl
        have hcl := (cl4_ml P _ _ _).mp hcl
        have hat := bf_at hmem
        have hbit := hcl (py_bf (py_ks P b) U.2.2.2).length ((ml_mem (py_nu P) _ _ _).mpr ⟨Nat.zero_le _, U.2.2.2, by rw [Nat.sub_zero]; exact hat, hnu⟩)
        unfold py_gt at hgt
        rw [if_pos h4, hbit] at hgt
        cases hgt
    have iV := lv_what hP tV.1 tV.2.1 tV.2.2.2
    have iW := lv_what hP tW.1 tW.2.1 tW.2.2.2
    obtain ⟨v1, v2⟩ := one V W a a' aV.2.2.2 aW.2.2.2 aV.1 aV.2.1 aV.2.2.1 bW aW.2.1 gV
    obtain ⟨w1, w2⟩ := one W V a' a aW.2.2.2 aV.2.2.2 aW.1 aW.2.1 aW.2.2.1 bV aV.2.1 gW
    refine (bo_tn hP hlf tV tW).mpr ⟨⟨v1, fun h5 => ?_⟩, v2 iV.2.2.2.1, w2 iW.2.2.2.1⟩
    rw [cr_sy]
    exact w1 h5
theorem avs_pw (hP : py_ok P) (hsu : py_sure P = true) (hu : wk_u P s) (hv : ∀ o, s.1 = some o → o < py_nl P) : (py_avs P s).Pairwise (fun W V => py_lt P W.1 ≠ py_lt P V.1) := by
  have h1 := (sure_pw hsu hv).filter (py_cg P s)
  have h1 : (py_avs P s).Pairwise (fun W V => py_both P s.1 V W = false) := h1
  refine (List.pairwise_iff_getElem.mpr ?_)
  intro i j hi hj hij e
  have h2 := List.pairwise_iff_getElem.mp h1 i j hi hj hij
  have h3 := both_cg hP hu hv (List.getElem_mem hj) (List.getElem_mem hi) e.symm
  rw [h3] at h2
  cases h2
theorem sum_find {L : List yW} {g : yW → Nat} (hL : L.Pairwise (fun W V => py_lt P W.1 ≠ py_lt P V.1)) : ∀ (ls : List Nat), ls.Nodup → (∀ W, W ∈ L → py_lt P W.1 ∈ ls) → sl (fun l => match L.find? (fun W => py_lt P W.1 == l) with
    | none => 0
    | some W => g W) ls = sl g L := by
  induction L with
  | nil =>
    intro ls _ _
    exact sl_zero ls
  | cons W L ih =>
    intro ls hnd hm
    obtain ⟨hp1, hp2⟩ := List.pairwise_cons.mp hL
    rw [sl_cons, ← ih hp2 ls hnd (fun V hV => hm V (List.mem_cons_of_mem _ hV))]
    have key : ∀ (ls : List Nat), ls.Nodup → py_lt P W.1 ∈ ls → sl (fun l => match (W :: L).find? (fun W => py_lt P W.1 == l) with
        | none => 0
        | some W => g W) ls = g W + sl (fun l => match L.find? (fun W => py_lt P W.1 == l) with
        | none => 0
        | some W => g W) ls := by
      intro ls
      induction ls with
      | nil => intro _ h; cases h
      | cons l ls ihl =>
        intro hn hmem
        obtain ⟨n1, n2⟩ := List.nodup_cons.mp hn
        rw [sl_cons, sl_cons]
        by_cases q : py_lt P W.1 = l
        · have hf : (W :: L).find? (fun W => py_lt P W.1 == l) = some W := by
            rw [List.find?_cons, show (py_lt P W.1 == l) = true by simpa using q]
          have hf0 : L.find? (fun W => py_lt P W.1 == l) = none := by
            rw [List.find?_eq_none]
            intro V hV e
            have := hp1 V hV
            rw [q] at this
            exact this (by simpa using Eq.symm (show py_lt P V.1 = l by simpa using e))
          rw [hf, hf0]
          have hrest : sl (fun l => match (W :: L).find? (fun W => py_lt P W.1 == l) with
              | none => 0
              | some W => g W) ls = sl (fun l => match L.find? (fun W => py_lt P W.1 == l) with
              | none => 0
              | some W => g W) ls := by
            refine sl_ext ?_
            intro x hx
            have hne : py_lt P W.1 ≠ x := by intro e; rw [← q, e] at n1; exact n1 hx
            rw [List.find?_cons, show (py_lt P W.1 == x) = false by simpa using hne]
          rw [hrest]
          show g W + _ = g W + (0 + _)
          rw [Nat.zero_add]
        · have hmem' : py_lt P W.1 ∈ ls := by
            rcases List.mem_cons.mp hmem with e | e
            · exact absurd e q
            · exact e
          rw [ihl n2 hmem', List.find?_cons, show (py_lt P W.1 == l) = false by simpa using q]
          simp only
          omega
    exact key ls hnd (hm W List.mem_cons_self)
theorem wn_pn (hP : py_ok P) (hsu : py_sure P = true) : ∀ (n B : Nat) (s : yS), wk_g P B s → py_wn P n s = nI (py_pn P n s) := by
  intro n
  induction n with
  | zero =>
    intro B s _
    show zb (py_ce P s) = nI (if py_ce P s then 1 else 0)
    cases py_ce P s <;> rfl
  | succ n ih =>
    intro B s hg
    have hv := hg.2.2.2.1
    have hfd : ∀ l, py_fd P s l = (py_avs P s).find? (fun W => py_lt P W.1 == l) := fd_avs
    have hpw := avs_pw hP hsu hg.1 hv
    have hsum := sum_find (g := fun W => py_pn P n (py_go P s W)) hpw (List.range' 0 26) (List.nodup_range') (by
      intro W hW
      have := ok_lt hP (avs_lt hP hv hW).1
      rw [List.mem_range'_1]
      omega)
    show (List.range' 0 26).foldl _ 0 = nI (sl (fun W => py_pn P n (py_go P s W)) (py_avs P s))
    rw [← hsum]
    have key : ∀ (ls : List Nat) (a : Nat), ls.foldl (fun a l => match py_fd P s l with
        | none => a
        | some W => a + py_wn P n (py_go P s W)) (nI a) = nI (a + sl (fun l => match (py_avs P s).find? (fun W => py_lt P W.1 == l) with
        | none => 0
        | some W => py_pn P n (py_go P s W)) ls) := by
      intro ls
      induction ls with
      | nil => intro a; rfl
      | cons l ls ihl =>
        intro a
        rw [List.foldl_cons, sl_cons, hfd l]
        cases hf : (py_avs P s).find? (fun W => py_lt P W.1 == l) with
        | none =>
          simp only
          rw [ihl a, Nat.zero_add]
        | some W =>
          simp only
          have hgo := ih (B + 1) (py_go P s W) (wg_go hP hg (l := l) (by rw [hfd]; exact hf))
          rw [hgo, nI_add, ihl, Nat.add_assoc]
    have := key (List.range' 0 26) 0
    rw [Nat.zero_add] at this
    exact this
end
