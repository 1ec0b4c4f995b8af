/-! THE RULES' text: the model's calls rules and fault -/
def gs_x (us : List yU) (N : Nat) (X : Nat → yX) : Prop := ∀ (i : Nat) (u : yU), us[i]? = some u → (∃ G, gu_x X u G) ∧ u.2.2.2.1 ≤ N
theorem gs_26 {us : List yU} {N : Nat} {X : Nat → yX} (h : gs_x us N X) : ∀ (i : Nat) (u : yU), us[i]? = some u → u.1 < 26 := by
  intro i u hu
  obtain ⟨⟨G, g⟩, _⟩ := h i u hu
  exact g.2.2.2.2.2.2.2
theorem gs_add {us : List yU} {Ls b : List Nat} {p N : Nat} {X : Nat → yX} (h : gs_x us N X) (hN : N + b.length ≤ 400) {x : yU × yQp} (hx : pp_rule Ls b p N X = .ok x) : gs_x (us ++ [x.1]) x.2.2.2.1 x.2.2.2.2.1 := by
  obtain ⟨g1, g2, g3, g4, g5, g6, g7, g8⟩ := pm_rule hN hx
  intro i u hu
  by_cases ei : i < us.length
  · rw [List.getElem?_append_left ei] at hu
    obtain ⟨⟨G, k1⟩, k2⟩ := h i u hu
    exact ⟨⟨G, gu_ext k1 (fun k hk => g2 k (by omega))⟩, by omega⟩
  · have e2 : i = us.length := by
      have := (List.getElem?_eq_some_iff.mp hu).1
      simp at this
      omega
    subst e2
    have ex : u = x.1 := by simpa using hu.symm
    subst ex
    exact ⟨g1, by omega⟩
theorem pm_rules : ∀ (fuel : Nat) (us : List yU) (b : List Nat) (p N : Nat) (X : Nat → yX), us.length < 8 → N + b.length ≤ 400 → gs_x us N X → ∀ x, pp_rules fuel us b p N X = .ok x → x.1.length ≤ 8 ∧ 1 ≤ x.1.length ∧ gs_x x.1 x.2.1 x.2.2 ∧ x.2.1 ≤ 400 := by
  intro fuel
  induction fuel with
  | zero => intro us b p N X _ _ _ x h; cases h
  | succ fuel ih =>
    intro us b p N X h8 hN hg x h
    unfold pp_rules at h
    cases e : pp_rule (us.map (fun u => u.1)) b p N X with
    | error t => rw [e] at h; cases h
    | ok y =>
      rw [e] at h
      dsimp only at h
      obtain ⟨g1, g2, g3, g4, g5, g6, g7, g8⟩ := pm_rule hN e
      have hg2 := gs_add hg hN e
      have l0 := sk_len y.2.1 y.2.2.1
      by_cases c : (py_sk y.2.1 y.2.2.1).1.head? = some 59 ∧ us.length + 1 < 8
      · rw [if_pos c] at h
        have l1 := tail_lt c.1
        exact ih _ _ _ _ _ (by simp; omega) (by omega) hg2 x h
      · rw [if_neg c] at h
        by_cases c2 : (py_sk y.2.1 y.2.2.1).1 = []
        · rw [if_pos c2] at h
          injection h with h
          subst h
          refine ⟨?_, ?_, hg2, ?_⟩
          · show (us ++ [y.1]).length ≤ 8
            simp
            omega
          · show 1 ≤ (us ++ [y.1]).length
            simp
          · show y.2.2.2.1 ≤ 400
            omega
        · rw [if_neg c2] at h
          cases h
section
variable {am d : Nat} {M : zM} {T : List Nat} {S : yZ}
theorem rules_0 (f : Nat) : mo_readsRules_22 d (f + 1) am 0 M = some (zm_I M 12 am 4, M) := by
  rw [mo_readsRules_22, if_pos rfl]
theorem rm_rules (hok : tp_ok T) (hd : 60 ≤ d) : ∀ (fuel : Nat) (us : List yU) (b : List Nat) (p N : Nat) (X : Nat → yX) (M : zM) (f2 : Nat), rr_x am M T us b p N X → us.length < 8 → 8 ≤ fuel + us.length → 10 ≤ f2 + us.length → N + b.length ≤ 400 → gs_x us N X → ∃ res M', mo_readsRules_22 d f2 am 1 M = some (res, M') ∧ zf (mg am [3, 4, 16, 17] [3, 5, 7, 9, 11]) M M' ∧ ((∃ e, pp_rules fuel us b p N X = .error e ∧ res = nI e ∧ e ≤ 400) ∨ (∃ x, pp_rules fuel us b p N X = .ok x ∧ res = -1 ∧ rn_x am M' x.2.1 x.2.2 ∧ zm_I M' 12 am 16 = nI x.1.length ∧ ∀ i u, x.1[i]? = some u → ru_x am M' i u)) := by
  intro fuel
  induction fuel with
  | zero => intro us b p N X M f2 _ h1 h2; omega
  | succ fuel ih =>
    intro us b p N X M f2 hR h8 hf hf2 hN hg
    obtain ⟨f2, rfl⟩ : ∃ f, f2 = f + 1 := ⟨f2 - 1, by omega⟩
    obtain ⟨f3, hf3⟩ : ∃ f, f2 = f + 1 := ⟨f2 - 1, by omega⟩
    rw [mo_readsRules_22, if_neg (show ¬ (1 : Int32) = 0 by decide)]
    unfold pp_rules
    obtain ⟨M1, g1, g2, g3⟩ := rm_rule (d := d) hok hd hR h8 hN (gs_26 hg)
    rw [g1]
    simp only [Option.bind_some, zlet]
    have i16 : zm_I M1 12 am 16 = nI us.length := by
      rw [mg_f g2 (by simp)]
      exact hR.2.2.2.2.2.1
    rw [i16, nI_1]
    have z1 : zf (mg am [3, 4, 16, 17] [3, 5, 7, 9, 11]) M (zm_setI M1 12 am 16 (nI (us.length + 1))) := zf_trans (zf_mono g2 (mg_mono (by simp) (by simp))) (zf_set (.inl ⟨rfl, rfl, by simp⟩))
    have v1 : zf (mg am [16] []) M1 (zm_setI M1 12 am 16 (nI (us.length + 1))) := zf_set (.inl ⟨rfl, rfl, by simp⟩)
    rcases g3 with ⟨e, m1, m2, m3⟩ | ⟨x, m1, m2, m3, m4, m5, m6, m7, m8⟩
    · have m2' : zm_I (zm_setI M1 12 am 16 (nI (us.length + 1))) 12 am 4 = nI e := by rw [pm_ne (by omega)]; exact m2
      rw [m1, mr_fine0 m2' m3]
      simp only [Option.bind_some, if_true, mo_readsRules_69, mo_readsRules_70, mr_fine0 m2' m3]
      rw [hf3, rules_0]
      exact ⟨_, _, rfl, z1, .inl ⟨e, rfl, m2', m3⟩⟩
    · rw [m1]
      have hR2 : rr_x am (zm_setI M1 12 am 16 (nI (us.length + 1))) T (us ++ [x.1]) x.2.1 x.2.2.1 x.2.2.2.1 x.2.2.2.2.1 := ⟨ml_zf m2 v1, mt_mg m3 v1 (by simp) (by simp), rp_mg m4 v1 (by simp), by rw [mg_f v1 (by simp)]; exact m5, rn_mg m6 v1 (by simp) (by simp), by rw [pm_same]; simp, fun i u hu => ru_mg (m8 i u hu) v1 (by simp)⟩
      have hg2 := gs_add hg hN m1
      obtain ⟨q1, q2, q3, q4, q5, q6, q7, q8⟩ := pm_rule hN m1
      obtain ⟨M2, k1, k2, k3, k4⟩ := rr_look (d := d) hok hR2 (by omega)
      have z2 : zf (mg am [3, 4, 16, 17] [3, 5, 7, 9, 11]) M M2 := zf_trans z1 (zf_mono k3 (mg_mono (by simp) (by simp)))
      have e59 : (py_ht (py_sk x.2.1 x.2.2.1).1 = 59) ↔ (py_sk x.2.1 x.2.2.1).1.head? = some 59 := ht_eq (c := 59) k4 (by omega)
      have i162 : zm_I M2 12 am 16 = nI (us.length + 1) := by
        have := k2.2.2.2.2.2.1
        rw [this]
        simp
      have e8 : ((8 : Int32) ≤ nI (us.length + 1)) ↔ 8 ≤ us.length + 1 := by
        constructor
        · intro h
          by_cases g : 8 ≤ us.length + 1
          · exact g
          · exact absurd h (nI_ge (b := 8) (by omega) (by omega))
        · intro h
          exact nI_le (a := 8) (by omega) (by omega)
      rw [mr_fine1 hR2.2.2.2.1]
      simp only [Option.bind_some, if_neg (show ¬ (1 : Int32) = 0 by decide), k1, e59, i162, e8]
      have l0 := sk_len x.2.1 x.2.2.1
      have hp2 : zm_I M2 12 am 3 = nI (py_sk x.2.1 x.2.2.1).2 := k2.2.2.1.1
      by_cases c : (py_sk x.2.1 x.2.2.1).1.head? = some 59 ∧ us.length + 1 < 8
      · rw [if_pos c, if_pos c.1, if_neg (show ¬ 8 ≤ us.length + 1 by omega)]
        have l1 := tail_lt c.1
        simp only [mo_readsRules_70, if_neg (show ¬ (1 : Int32) = 0 by decide), zlet, hp2, nI_1]
        have v3 : zf (mg am [3] []) M2 (zm_setI M2 12 am 3 (nI ((py_sk x.2.1 x.2.2.1).2 + 1))) := zf_set (.inl ⟨rfl, rfl, by simp⟩)
        have hR3 : rr_x am (zm_setI M2 12 am 3 (nI ((py_sk x.2.1 x.2.2.1).2 + 1))) T (us ++ [x.1]) (py_sk x.2.1 x.2.2.1).1.tail ((py_sk x.2.1 x.2.2.1).2 + 1) x.2.2.2.1 x.2.2.2.2.1 := by
          obtain ⟨a1, a2, a3, a4, a5, a6, a7⟩ := k2
          refine ⟨ml_zf a1 v3, mt_mg a2 v3 (by simp) (by simp), ⟨pm_same, ?_⟩, by rw [mg_f v3 (by simp)]; exact a4, rn_mg a5 v3 (by simp) (by simp), by rw [mg_f v3 (by simp)]; exact a6, fun i u hu => ru_mg (a7 i u hu) v3 (by simp)⟩
          obtain ⟨a, ha, hl⟩ := a3.2
          cases e5 : (py_sk x.2.1 x.2.2.1).1 with
          | nil => rw [e5] at c; cases c.1
          | cons y r => exact ⟨a ++ [y], by rw [ha, e5]; simp, by simp [hl]⟩
        obtain ⟨res, M4, w1, w2, w3⟩ := ih (us ++ [x.1]) (py_sk x.2.1 x.2.2.1).1.tail ((py_sk x.2.1 x.2.2.1).2 + 1) x.2.2.2.1 x.2.2.2.2.1 _ f2 hR3 (by simp; omega) (by simp; omega) (by simp; omega) (by omega) hg2
        exact ⟨res, M4, w1, zf_trans (zf_trans z2 (zf_mono v3 (mg_mono (by simp) (by simp)))) w2, w3⟩
      · rw [if_neg c]
        have hpre : (if (py_sk x.2.1 x.2.2.1).1.head? = some 59 then (if 8 ≤ us.length + 1 then mo_readsRules_69 (fun p0 p1 m => mo_readsRules_22 d f2 p0 p1 m) d am M2 else mo_readsRules_70 (fun p0 p1 m => mo_readsRules_22 d f2 p0 p1 m) d am 1 M2) else mo_readsRules_69 (fun p0 p1 m => mo_readsRules_22 d f2 p0 p1 m) d am M2) = mo_readsRules_70 (fun p0 p1 m => mo_readsRules_22 d f2 p0 p1 m) d am 0 M2 := by
          by_cases c1 : (py_sk x.2.1 x.2.2.1).1.head? = some 59
          · rw [if_pos c1, if_pos (by
              by_cases g : 8 ≤ us.length + 1
              · exact g
              · exact absurd ⟨c1, by omega⟩ c)]
            rfl
          · rw [if_neg c1]
            rfl
        rw [hpre]
        obtain ⟨M3, u1, u2, u3, u4⟩ := rr_look (d := d) hok k2 (by omega)
        have skk := sk_sk x.2.1 x.2.2.1
        rw [skk] at u1 u2 u4
        have z3 : zf (mg am [3, 4, 16, 17] [3, 5, 7, 9, 11]) M M3 := zf_trans z2 (zf_mono u3 (mg_mono (by simp) (by simp)))
        simp only [mo_readsRules_70, if_true, mr_fine1 k2.2.2.2.1, Option.bind_some, if_neg (show ¬ (1 : Int32) = 0 by decide), u1, ht_m1 u4]
        by_cases c2 : (py_sk x.2.1 x.2.2.1).1 = []
        · rw [if_pos c2, if_pos c2, hf3, rules_0]
          obtain ⟨a1, a2, a3, a4, a5, a6, a7⟩ := u2
          exact ⟨_, _, rfl, z3, .inr ⟨_, rfl, a4, a5, a6, a7⟩⟩
        · rw [if_neg c2, if_neg c2, mr_fails u2.2.2.2.1, u2.2.2.1.1]
          simp only [Option.bind_some]
          rw [hf3, rules_0]
          exact ⟨_, _, rfl, zf_trans z3 (zf_set (.inl ⟨rfl, rfl, by simp⟩)), .inl ⟨_, rfl, pm_same, rp_le hok u2.2.2.1⟩⟩
end
def py_x0 : Nat → yX := fun _ => (0, 0, none, [], 0)
def py_rls (T : List Nat) : Except Nat (List yU × Nat × (Nat → yX)) := pp_rules 8 [] T 0 0 py_x0
def py_p0 : yP := (fun _ _ => 0, fun _ _ => none, fun _ => [], fun _ => false)
noncomputable def py_uPs (us : List yU) (X : Nat → yX) : Nat → yP := fun r => match us[r]? with
  | none => py_p0
  | some u => py_uP X u
noncomputable def sp_rls (S : yZ) : Int32 × yZ := match py_rls S.1 with
  | .error _ => (-1, S)
  | .ok x => (nI x.1.length, ([], (x.1.length, py_uPs x.1 x.2.2), S.2.2.1, none))
def sp_fau (S : yZ) (w : Int32) : Int32 := if w = 0 then (match py_rls S.1 with
  | .error e => nI e
  | .ok _ => -1) else if w = 1 then zo (py_doc S.1).1 else -2
section
variable {am d : Nat} {M : zM} {T : List Nat} {S : yZ}
theorem mr_readsRules (hl : ml_ok am M) (hT : mt_p am M T) (hok : tp_ok T) (hd : 61 ≤ d) : ∃ res M', mo_readsRules d am M = some (res, M') ∧ zf (mg am [3, 4, 16, 17] [3, 5, 7, 9, 11]) M M' ∧ ((∃ e, py_rls T = .error e ∧ res = nI e ∧ e ≤ 400) ∨ (∃ x, py_rls T = .ok x ∧ res = -1 ∧ rn_x am M' x.2.1 x.2.2 ∧ zm_I M' 12 am 16 = nI x.1.length ∧ ∀ i u, x.1[i]? = some u → ru_x am M' i u)) := by
  have hLF := zLF_402
  have h400 := hok.1
  obtain ⟨d, rfl⟩ : ∃ d', d = d' + 1 := ⟨d - 1, by omega⟩
  have eb : mo_readsRules (d + 1) am M = mo_readsRules_b d am M := rfl
  rw [eb]
  unfold mo_readsRules_b
  simp only [zlet]
  obtain ⟨M7, hM7⟩ : ∃ Y, Y = zm_setI (zm_setI (zm_setI (zm_setI M 12 am 3 0) 12 am 4 (-1)) 12 am 16 0) 12 am 17 0 := ⟨_, rfl⟩
  have f7 : zf (mg am [3, 4, 16, 17] []) M M7 := by
    rw [hM7]
    exact zf_trans (zf_trans (zf_trans (zf_set (.inl ⟨rfl, rfl, by simp⟩)) (zf_set (.inl ⟨rfl, rfl, by simp⟩))) (zf_set (.inl ⟨rfl, rfl, by simp⟩))) (zf_set (.inl ⟨rfl, rfl, by simp⟩))
  rw [← hM7]
  have hR : rr_x am M7 T [] T 0 0 py_x0 := by
    refine ⟨ml_zf hl f7, mt_mg hT f7 (by simp) (by simp), ⟨?_, [], rfl, rfl⟩, ?_, ⟨?_, fun n hn => by omega⟩, ?_, (fun i u hu => by simp at hu)⟩
    · rw [hM7, pm_ne (by omega), pm_ne (by omega), pm_ne (by omega), pm_same]; rfl
    · rw [hM7, pm_ne (by omega), pm_ne (by omega), pm_same]
    · rw [hM7, pm_same]; rfl
    · rw [hM7, pm_ne (by omega), pm_same]; rfl
  obtain ⟨res, M', g1, g2, g3⟩ := rm_rules (d := d) hok (by omega) 8 [] T 0 0 py_x0 M7 zLF hR (by simp) (by simp) (by simp; omega) (by omega) (fun i u hu => by simp at hu)
  exact ⟨res, M', g1, zf_trans (zf_mono f7 (mg_mono (by simp) (by simp))) g2, g3⟩
theorem py_rls_ok {x : List yU × Nat × (Nat → yX)} (hok : tp_ok T) (h : py_rls T = .ok x) : x.1.length ≤ 8 ∧ 1 ≤ x.1.length ∧ gs_x x.1 x.2.1 x.2.2 ∧ x.2.1 ≤ 400 := by
  have h400 := hok.1
  exact pm_rules 8 [] T 0 0 py_x0 (by simp) (by omega) (fun i u hu => by simp at hu) x h
theorem zz_rls (hz : zz_ok S) : zz_ok (sp_rls S).2 := by
  unfold sp_rls
  cases e : py_rls S.1 with
  | error t => exact hz
  | ok x =>
    obtain ⟨g1, g2, g3, g4⟩ := py_rls_ok hz.1 e
    refine ⟨⟨Nat.zero_le _, fun b hb => by cases hb⟩, g1, ?_, ?_, hz.2.2.2.2.1, fun y hy => by cases hy⟩
    · intro r hr
      obtain ⟨u, hu⟩ := gl_some (l := x.1) hr
      show py_ok (py_uPs x.1 x.2.2 r)
      unfold py_uPs
      rw [hu]
      exact uP_ok (g3 r u hu).1
    · intro r hr
      obtain ⟨u, hu⟩ := gl_some (l := x.1) hr
      show py_le (py_uPs x.1 x.2.2 r) < 26
      unfold py_uPs
      rw [hu]
      exact gs_26 g3 r u hu
theorem mf_fau (h : mI am M S) (hz : zz_ok S) (hd : 200 ≤ d) (w : Int32) : ∃ M', mo_fault d am w M = some (sp_fau S w, M') ∧ mI am M' S ∧ zf (mg am [0, 3, 4, 16, 17, 21] [3, 5, 7, 9, 11, 13]) M M' := by
  have hok := hz.1
  obtain ⟨d, rfl⟩ : ∃ d', d = d' + 1 := ⟨d - 1, by omega⟩
  have eb : mo_fault (d + 1) am w M = mo_fault_b d am w M := rfl
  rw [eb]
  obtain ⟨h0, hf0⟩ := mI_0 h 0
  unfold mo_fault_b sp_fau
  simp only [zlet]
  by_cases c0 : w = 0
  · rw [if_pos c0, if_pos c0]
    obtain ⟨res, M1, g1, g2, g3⟩ := mr_readsRules (d := d) h0.1 h0.2.1 hok (by omega)
    rw [g1]
    simp only [Option.bind_some, mo_fault_30]
    refine ⟨M1, ?_, mI_zf' h0 g2 (by simp [mi_F]) (by simp [mi_A]), zf_trans (zf_mono hf0 (mg_mono (by simp) (by simp))) (zf_mono g2 (mg_mono (by simp) (by simp)))⟩
    rcases g3 with ⟨e, m1, m2, m3⟩ | ⟨x, m1, m2, _⟩
    · rw [m1, m2]
    · rw [m1, m2]
  · rw [if_neg c0, if_neg c0]
    by_cases c1 : w = 1
    · rw [if_pos c1, if_pos c1]
      obtain ⟨M1, g1, g2, g3⟩ := mr_readsDocument (d := d) h0.1 h0.2.1 hok (by omega)
      rw [g1]
      simp only [Option.bind_some, mo_fault_30]
      exact ⟨M1, rfl, mI_zf' h0 g3 (by simp [mi_F]) (by simp [mi_A]), zf_trans (zf_mono hf0 (mg_mono (by simp) (by simp))) (zf_mono g3 (mg_mono (by simp) (by simp)))⟩
    · rw [if_neg c1, if_neg c1]
      simp only [mo_fault_30]
      exact ⟨_, rfl, h0, zf_mono hf0 (mg_mono (by simp) (by simp))⟩
theorem rn_nx {N n : Nat} {X : Nat → yX} (h : rn_x am M N X) (hn : n < N) {a b : List Nat} {c : Nat} (e : (X n).2.2.2.1 = a ++ c :: b) : zm_I M 20 (am + 3) (6 * c + 4) = zo b.head? ∧ c < N := by
  have g := (h.2 n hn).2.2.2.2.2.1 a.length c (by rw [e]; simp)
  refine ⟨?_, g.1⟩
  rw [g.2.1, e]
  congr 1
  rw [List.getElem?_append_right (by omega)]
  have : a.length + 1 - a.length = 1 := by omega
  rw [this]
  cases b <;> rfl
theorem mf_rls (h : mI am M S) (hz : zz_ok S) (hd : 200 ≤ d) : ∃ M', mo_rules d am M = some ((sp_rls S).1, M') ∧ mI am M' (sp_rls S).2 ∧ zf (mg am [0, 2, 3, 4, 15, 16, 17, 40] [2, 3, 4, 5, 6, 7, 8, 9, 10, 11]) M M' := by
  have hok := hz.1
  obtain ⟨d, rfl⟩ : ∃ d', d = d' + 1 := ⟨d - 1, by omega⟩
  have eb : mo_rules (d + 1) am M = mo_rules_b d am M := rfl
  rw [eb]
  obtain ⟨h0, hf0⟩ := mI_0 h 0
  obtain ⟨res, M1, g1, g2, g3⟩ := mr_readsRules (d := d) h0.1 h0.2.1 hok (by omega)
  have hm1 : zf (mg am [0, 2, 3, 4, 15, 16, 17, 40] [2, 3, 4, 5, 6, 7, 8, 9, 10, 11]) M M1 := zf_trans (zf_mono hf0 (mg_mono (by simp) (by simp))) (zf_mono g2 (mg_mono (by simp) (by simp)))
  have h1 : mI am M1 S := mI_zf' h0 g2 (by simp [mi_F]) (by simp [mi_A])
  unfold mo_rules_b sp_rls
  simp only [zlet, g1, Option.bind_some]
  rcases g3 with ⟨e, m1, m2, m3⟩ | ⟨x, m1, m2, m3, m4, m5⟩
  · rw [m1, m2, if_neg (pb_ne1 (by omega))]
    exact ⟨M1, rfl, h1, hm1⟩
  · rw [m1, m2, if_pos rfl]
    obtain ⟨p1, p2, p3, p4⟩ := py_rls_ok hok m1
    have f6 : zf (mg am [2] []) M1 (zm_setI M1 12 am 2 0) := zf_set (.inl ⟨rfl, rfl, by simp⟩)
    have hl6 := ml_zf h1.1 f6
    obtain ⟨M7, a1, a2, a3⟩ := mr_copies (d := d) (i := 3) (j := 2) (by decide) (by omega) (ml_L6 hl6) (ml_L5 hl6)
    have hl7 := ml_zf hl6 a3
    obtain ⟨M8, b1, b2, b3⟩ := mr_copies (d := d) (i := 5) (j := 4) (by decide) (by omega) (ml_L8 hl7) (ml_L7 hl7)
    have hl8 := ml_zf hl7 b3
    obtain ⟨M9, c1, c2, c3⟩ := mr_copies (d := d) (i := 7) (j := 6) (by decide) (by omega) (ml_L10 hl8) (ml_L9 hl8)
    have hl9 := ml_zf hl8 c3
    obtain ⟨Ma, d1, d2, d3⟩ := mr_copies (d := d) (i := 9) (j := 8) (by decide) (by omega) (ml_L12 hl9) (ml_L11 hl9)
    have hla := ml_zf hl9 d3
    obtain ⟨Mb, e1, e2, e3⟩ := mr_copies (d := d) (i := 11) (j := 10) (by decide) (by omega) (ml_L14 hla) (ml_L13 hla)
    have hlb := ml_zf hla e3
    have Fb : zf (mg am [2] [2, 4, 6, 8, 10]) M1 Mb := zf_trans (zf_trans (zf_trans (zf_trans (zf_trans (zf_mono f6 (mg_mono (by simp) (by simp))) (zf_mono a3 (mg_mono (by simp) (by simp)))) (zf_mono b3 (mg_mono (by simp) (by simp)))) (zf_mono c3 (mg_mono (by simp) (by simp)))) (zf_mono d3 (mg_mono (by simp) (by simp)))) (zf_mono e3 (mg_mono (by simp) (by simp)))
    have i16 : zm_I Mb 12 am 16 = nI x.1.length := by rw [mg_f Fb (by simp)]; exact m4
    have f15 : zf (mg am [15, 40] []) Mb (zm_setI (zm_setI Mb 12 am 15 (nI x.1.length)) 12 am 40 0) := zf_trans (zf_set (.inl ⟨rfl, rfl, by simp⟩)) (zf_set (.inl ⟨rfl, rfl, by simp⟩))
    have F : zf (mg am [2, 15, 40] [2, 4, 6, 8, 10]) M1 (zm_setI (zm_setI Mb 12 am 15 (nI x.1.length)) 12 am 40 0) := zf_trans (zf_mono Fb (mg_mono (by simp) (by simp))) (zf_mono f15 (mg_mono (by simp) (by simp)))
    obtain ⟨Mf, hMf⟩ : ∃ Y, Y = zm_setI (zm_setI Mb 12 am 15 (nI x.1.length)) 12 am 40 0 := ⟨_, rfl⟩
    have k15 : zm_I Mf 12 am 15 = nI x.1.length := by rw [hMf, pm_ne (by omega), pm_same]
    simp only [ml_R5 hl6, ml_R6 hl6, a1, Option.bind_some, ml_R7 hl7, ml_R8 hl7, b1, ml_R9 hl8, ml_R10 hl8, c1, ml_R11 hl9, ml_R12 hl9, d1, ml_R13 hla, ml_R14 hla, e1, i16, ← hMf, k15]
    rw [← hMf] at F f15
    have rc2 : ∀ n, n < 7200 → zm_I Mf 20 (am + 2) n = zm_I M1 20 (am + 3) n := by
      intro n hn
      rw [mg_a f15 (by decide) (by simp), mg_a e3 (by decide) (by simp), mg_a d3 (by decide) (by simp), mg_a c3 (by decide) (by simp), mg_a b3 (by decide) (by simp), a2 n hn]
      exact mg_a f6 (by decide) (by simp)
    have rc4 : ∀ n, n < 40 → zm_I Mf 20 (am + 4) n = zm_I M1 20 (am + 5) n := by
      intro n hn
      rw [mg_a f15 (by decide) (by simp), mg_a e3 (by decide) (by simp), mg_a d3 (by decide) (by simp), mg_a c3 (by decide) (by simp), b2 n hn, mg_a a3 (by decide) (by simp)]
      exact mg_a f6 (by decide) (by simp)
    have rc6 : ∀ n, n < 192 → zm_I Mf 20 (am + 6) n = zm_I M1 20 (am + 7) n := by
      intro n hn
      rw [mg_a f15 (by decide) (by simp), mg_a e3 (by decide) (by simp), mg_a d3 (by decide) (by simp), c2 n hn, mg_a b3 (by decide) (by simp), mg_a a3 (by decide) (by simp)]
      exact mg_a f6 (by decide) (by simp)
    have rc8 : ∀ n, n < 256 → zm_I Mf 20 (am + 8) n = zm_I M1 20 (am + 9) n := by
      intro n hn
      rw [mg_a f15 (by decide) (by simp), mg_a e3 (by decide) (by simp), d2 n hn, mg_a c3 (by decide) (by simp), mg_a b3 (by decide) (by simp), mg_a a3 (by decide) (by simp)]
      exact mg_a f6 (by decide) (by simp)
    have rc10 : ∀ n, n < 32 → zm_I Mf 20 (am + 10) n = zm_I M1 20 (am + 11) n := by
      intro n hn
      rw [mg_a f15 (by decide) (by simp), e2 n hn, mg_a d3 (by decide) (by simp), mg_a c3 (by decide) (by simp), mg_a b3 (by decide) (by simp), mg_a a3 (by decide) (by simp)]
      exact mg_a f6 (by decide) (by simp)
    have hlf : ml_ok am Mf := ml_zf h1.1 F
    refine ⟨Mf, rfl, ⟨hlf, ⟨?_, fun i b hb => by simp at hb⟩, ⟨k15, p1, hlf, ?_⟩, md_zf h1.2.2.2.1 F (by simp) (by simp), ?_, ?_⟩, zf_trans hm1 (zf_mono F (mg_mono (by simp) (by simp)))⟩
    · show zm_I Mf 12 am 2 = nI 0
      rw [mg_f f15 (by simp), mg_f e3 (by simp), mg_f d3 (by simp), mg_f c3 (by simp), mg_f b3 (by simp), mg_f a3 (by simp), pm_same]
      rfl
    · intro r hr
      have hr : r < x.1.length := hr
      obtain ⟨u, hu⟩ := gl_some (l := x.1) hr
      obtain ⟨hg, hzN⟩ := p3 r u hu
      have hgu := uG_ok hg
      obtain ⟨⟨r1, r2, r3, r4, r5⟩, r6, r7, r8⟩ := m5 r u hu
      have r8' : r < 8 := by omega
      have eP : py_uPs x.1 x.2.2 r = py_mk x.2.2 u (py_uG x.2.2 u) := by
        unfold py_uPs
        rw [hu]
        rfl
      show mp_ok am Mf r (py_uPs x.1 x.2.2 r)
      rw [eP]
      refine ⟨mk_ok hgu, hlf, ⟨r8', ?_, ?_, ?_, ?_, ?_⟩, ?_, ?_, ?_, ?_, ?_⟩
      · rw [rc4 _ (by omega)]; exact r1
      · rw [rc4 _ (by omega)]; exact r2
      · rw [rc4 _ (by omega)]; exact r3
      · rw [rc4 _ (by omega)]; exact r4
      · rw [rc4 _ (by omega)]; exact r5
      · intro n hn
        have hn := (mk_dm n).mp hn
        obtain ⟨n1, n2, n3, n4, n5, n6, n7⟩ := m3.2 n (by omega)
        refine ⟨?_, fun _ => ?_, ?_, ?_⟩
        · rw [rc2 _ (by omega)]; exact n1
        · rw [rc2 _ (by omega)]; exact n2
        · rw [rc2 _ (by omega)]; exact n3
        · rw [rc2 _ (by omega)]; exact n4
      · intro n a c b hn hks
        have hn := (mk_dm n).mp hn
        have g := rn_nx m3 (n := n) (by omega) hks
        rw [rc2 _ (by omega)]
        exact g.1
      · intro c hc
        have hc : c < u.2.2.2.2.2.1.length := hc
        obtain ⟨y, hy⟩ := gl_some (l := u.2.2.2.2.2.1) hc
        have g := r7 c y hy
        rw [mk_fr, mk_to, mk_cn, hy, rc6 _ (by omega), rc6 _ (by omega), rc6 _ (by omega)]
        exact g.2
      · intro o ho
        have ho : o < u.2.2.2.2.1.length := ho
        obtain ⟨y, hy⟩ := gl_some (l := u.2.2.2.2.1) ho
        have g := r6 o y hy
        rw [mk_lt, mk_lf, hy, rc8 _ (by omega), rc8 _ (by omega)]
        exact g.2
      · intro o ho
        have ho : o < u.2.2.2.2.2.2.length := ho
        obtain ⟨y, hy⟩ := gl_some (l := u.2.2.2.2.2.2) ho
        have g := r8 o y hy
        rw [mk_an, hy, rc10 _ (by omega)]
        exact g.2
    · show zm_I Mf 12 am 40 = 0
      rw [hMf, pm_same]
    · rw [mg_f F (by simp)]
      exact h1.2.2.2.2.2
end
