/-! THE CLASS: what stands in memory between two calls -/
/-- memory is the same at these addresses -/
def ag (A : Nat → Prop) (M M' : zM) : Prop := zm_n M ≤ zm_n M' ∧ ∀ t k, A k → zm_L M' t k = zm_L M t k ∧ ∀ j, zm_I M' t k j = zm_I M t k j ∧ zm_R M' t k j = zm_R M t k j
def rg (a b : Nat) : Nat → Prop := fun k => a ≤ k ∧ k < b
def nds (pa : Nat → Nat) (pn : Nat) : Nat → Prop := fun k => ∃ i, i < pn ∧ (k = pa i ∨ k = pa i + 1)
section
variable {A A' : Nat → Prop} {W : Nat → Nat → Nat → Prop} {M M' M'' : zM} {pa : Nat → Nat}
theorem ag_refl (A : Nat → Prop) (M : zM) : ag A M M := ⟨Nat.le_refl _, fun t k _ => ⟨rfl, fun j => ⟨rfl, rfl⟩⟩⟩
theorem ag_trans (h : ag A M M') (h' : ag A M' M'') : ag A M M'' := by
  refine ⟨Nat.le_trans h.1 h'.1, fun t k ha => ⟨?_, fun j => ⟨?_, ?_⟩⟩⟩
  · rw [(h'.2 t k ha).1, (h.2 t k ha).1]
  · rw [((h'.2 t k ha).2 j).1, ((h.2 t k ha).2 j).1]
  · rw [((h'.2 t k ha).2 j).2, ((h.2 t k ha).2 j).2]
theorem ag_mono (h : ag A M M') (hs : ∀ k, A' k → A k) : ag A' M M' := ⟨h.1, fun t k ha => h.2 t k (hs k ha)⟩
theorem ag_zr (h : zr W M M') (hw : ∀ t k j, A k → ¬ W t k j) : ag A M M' := by
  refine ⟨by rw [zr_n h]; exact Nat.le_refl _, fun t k ha => ⟨by rw [zr_L h], fun j => ⟨zr_I h (hw t k j ha), zr_R h (hw t k j ha)⟩⟩⟩
theorem ag_zf (h : zf W M M') (hw : ∀ t k j, A k → ¬ W t k j) : ag A M M' := ag_zr (zr_zf h) hw
theorem ag_zh (h : zh W M M') (hn : ∀ k, A k → k < zm_n M) (hw : ∀ t k j, A k → ¬ W t k j) : ag A M M' := by
  refine ⟨zh_n h, fun t k ha => ⟨zh_L h (hn k ha), fun j => ⟨zh_I h (hn k ha) (hw t k j ha), zh_R h (hn k ha) (hw t k j ha)⟩⟩⟩
theorem ag_I (h : ag A M M') {t k j : Nat} (ha : A k) : zm_I M' t k j = zm_I M t k j := ((h.2 t k ha).2 j).1
theorem ag_R (h : ag A M M') {t k j : Nat} (ha : A k) : zm_R M' t k j = zm_R M t k j := ((h.2 t k ha).2 j).2
theorem ag_L (h : ag A M M') {t k : Nat} (ha : A k) : zm_L M' t k = zm_L M t k := (h.2 t k ha).1
variable {P : yP} {Q b R pn : Nat} {Ps : Nat → yP}
theorem ct_ag {ac : Nat} {T : List Nat} (h : ct_x M ac T) (hf : ag (rg ac (ac + 2)) M M') : ct_x M' ac T := by
  have hr : rg ac (ac + 2) (ac + 1) := ⟨by omega, by omega⟩
  refine ⟨by rw [ag_L hf hr]; exact h.1, Nat.le_trans h.2.1 hf.1, ?_⟩
  intro i x hx
  rw [ag_I hf hr]
  exact h.2.2 i x hx
theorem cX_ag (hP : py_ok P) (h : cX M pa Q P) (hA : ∀ k, Q ≤ k → k < Q + 10 → A k) (hB : ∀ n, py_dm P n → A (pa n) ∧ A (pa n + 1)) (hf : ag A M M') : cX M' pa Q P := by
  refine cX_gen hP h ?_ ?_ ?_ ?_ ?_ hf.1
  · intro n hn j
    exact ⟨ag_I hf (hB n hn).1, ag_R hf (hB n hn).1⟩
  · intro n hn
    exact ⟨fun j => ag_I hf (hB n hn).2, ag_L hf (hB n hn).2⟩
  · intro j _
    exact ⟨ag_I hf (hA Q (Nat.le_refl _) (by omega)), ag_R hf (hA Q (Nat.le_refl _) (by omega))⟩
  · intro i hi
    exact ⟨fun j => ag_I hf (hA _ (by omega) (by omega)), ag_L hf (hA _ (by omega) (by omega))⟩
  · intro i hi
    exact ⟨fun j => ag_R hf (hA _ (by omega) (by omega)), ag_L hf (hA _ (by omega) (by omega))⟩
theorem rs_ag (h : cw_rs M b) (hf : ag (rg b (b + 84)) M M') : cw_rs M' b := by
  obtain ⟨h1, h2, h3, h4⟩ := h
  have r : ∀ i, i < 84 → rg b (b + 84) (b + i) := fun i hi => ⟨by omega, by omega⟩
  have r0 : rg b (b + 84) b := ⟨by omega, by omega⟩
  refine ⟨?_, ?_, ?_, Nat.le_trans h4 hf.1⟩
  · rw [ag_R hf r0, ag_L hf (r 1 (by omega))]; exact h1
  · rw [ag_R hf r0, ag_L hf (r 82 (by omega))]; exact h2
  · intro i hi
    obtain ⟨a1, a2⟩ := h3 i hi
    have q : ∀ k, k < 10 → rg b (b + 84) (b + 2 + 10 * i + k) := fun k hk => ⟨by omega, by omega⟩
    have q0 : rg b (b + 84) (b + 2 + 10 * i) := ⟨by omega, by omega⟩
    refine ⟨by rw [ag_R hf (r 1 (by omega))]; exact a1, ?_⟩
    unfold cw_ru
    rw [ag_R hf q0, ag_R hf q0, ag_R hf q0, ag_R hf q0, ag_R hf q0, ag_R hf q0, ag_R hf q0, ag_R hf q0, ag_R hf q0, ag_L hf (q 1 (by omega)), ag_L hf (q 2 (by omega)), ag_L hf (q 3 (by omega)), ag_L hf (q 4 (by omega)), ag_L hf (q 5 (by omega)), ag_L hf (q 6 (by omega)), ag_L hf (q 7 (by omega)), ag_L hf (q 8 (by omega)), ag_L hf (q 9 (by omega))]
    exact a2
theorem cp_ag (h : cp_x M b pa pn) (hf : ag (fun k => rg b (b + 84) k ∨ nds pa pn k) M M') : cp_x M' b pa pn := by
  obtain ⟨h1, h2, h3, h4⟩ := h
  have r0 : (fun k => rg b (b + 84) k ∨ nds pa pn k) (b + 82) := .inl ⟨by omega, by omega⟩
  refine ⟨h1, ?_, ?_, h4⟩
  · intro j hj
    obtain ⟨a1, a2, a3, a4⟩ := h2 j hj
    refine ⟨by rw [ag_R hf r0]; exact a1, Nat.lt_of_lt_of_le a2 hf.1, ?_, ?_⟩
    · rw [ag_R hf (.inr ⟨j, hj, .inl rfl⟩)]; exact a3
    · rw [ag_L hf (.inr ⟨j, hj, .inr rfl⟩)]; exact a4
  · intro j ha hb
    rw [ag_R hf r0]
    exact h3 j ha hb
theorem cS_ag (hPs : ∀ r, r < R → py_ok (Ps r)) (hdm : ∀ r, r < R → ∀ n, py_dm (Ps r) n → n < pn) (h : cS_x M pa b R Ps) (hf : ag (fun k => rg b (b + 84) k ∨ nds pa pn k) M M') : cS_x M' pa b R Ps := by
  obtain ⟨h1, h2, h3, h4⟩ := h
  have r0 : (fun k => rg b (b + 84) k ∨ nds pa pn k) b := .inl ⟨by omega, by omega⟩
  refine ⟨rs_ag h1 (ag_mono hf (fun k hk => .inl hk)), by rw [ag_I hf r0]; exact h2, h3, ?_⟩
  intro r hr
  obtain ⟨a1, a2, a3, a4⟩ := h4 r hr
  have rq : (fun k => rg b (b + 84) k ∨ nds pa pn k) (b + 2 + 10 * r) := .inl ⟨by omega, by omega⟩
  refine ⟨cX_ag (hPs r hr) a1 (fun k k1 k2 => .inl ⟨by omega, by omega⟩) (fun n hn => ⟨.inr ⟨n, hdm r hr n hn, .inl rfl⟩, .inr ⟨n, hdm r hr n hn, .inr rfl⟩⟩) hf, ?_, ?_, ?_⟩
  · rw [ag_I hf rq]; exact a2
  · rw [ag_I hf rq]; exact a3
  · rw [ag_I hf rq]; exact a4
variable {e : Nat} {D : List yT}
theorem dl_ag (h : do_l M e) (hf : ag (rg e (e + 10)) M M') : do_l M' e := by
  have r : ∀ i, i < 10 → rg e (e + 10) (e + i) := fun i hi => ⟨by omega, by omega⟩
  have r0 : rg e (e + 10) e := ⟨by omega, by omega⟩
  refine ⟨?_, ?_, ?_⟩
  · intro i h1 h2
    rw [ag_R hf r0, ag_L hf (r i (by omega))]
    exact h.1 i h1 h2
  · rw [ag_R hf r0]; exact h.2.1
  · rw [ag_L hf (r 9 (by omega))]; exact h.2.2
theorem dx_ag (h : do_x M e D) (hf : ag (rg e (e + 10)) M M') : do_x M' e D := by
  have r : ∀ i, i < 10 → rg e (e + 10) (e + i) := fun i hi => ⟨by omega, by omega⟩
  have r0 : rg e (e + 10) e := ⟨by omega, by omega⟩
  refine ⟨dl_ag h.1 hf, by rw [ag_I hf r0]; exact h.2.1, ?_⟩
  intro i x hx
  rw [ag_I hf (r 1 (by omega)), ag_I hf (r 2 (by omega)), ag_I hf (r 3 (by omega)), ag_I hf (r 4 (by omega))]
  exact h.2.2 i x hx
theorem dh_ag (h : do_h M e R Ps D) (hf : ag (rg e (e + 10)) M M') : do_h M' e R Ps D := by
  have r : ∀ i, i < 10 → rg e (e + 10) (e + i) := fun i hi => ⟨by omega, by omega⟩
  intro i x hx
  unfold do_e
  rw [ag_I hf (r 5 (by omega)), ag_I hf (r 6 (by omega)), ag_I hf (r 7 (by omega)), ag_I hf (r 8 (by omega))]
  exact h i x hx
theorem lp_ag {le : Nat} (h : lp_x M le (le + 1)) (hf : ag (rg le (le + 2)) M M') : lp_x M' le (le + 1) := by
  unfold lp_x
  rw [ag_R hf ⟨by omega, by omega⟩, ag_L hf ⟨by omega, by omega⟩]
  exact h
theorem wy_ag {wy : Nat} (h : wy_l M wy) (hf : ag (rg wy (wy + 5)) M M') : wy_l M' wy := by
  have r : ∀ i, i < 5 → rg wy (wy + 5) (wy + i) := fun i hi => ⟨by omega, by omega⟩
  have r0 : rg wy (wy + 5) wy := ⟨by omega, by omega⟩
  unfold wy_l
  rw [ag_R hf r0, ag_R hf r0, ag_R hf r0, ag_R hf r0, ag_L hf (r 1 (by omega)), ag_L hf (r 2 (by omega)), ag_L hf (r 3 (by omega)), ag_L hf (r 4 (by omega))]
  exact h
theorem sl_ag {sp : Nat} (h : sl_l M sp) (hf : ag (rg sp (sp + 14)) M M') : sl_l M' sp := by
  have r : ∀ i, i < 14 → rg sp (sp + 14) (sp + i) := fun i hi => ⟨by omega, by omega⟩
  have r0 : rg sp (sp + 14) sp := ⟨by omega, by omega⟩
  unfold sl_l
  rw [ag_R hf r0, ag_R hf r0, ag_R hf r0, ag_L hf (r 1 (by omega)), ag_L hf (r 2 (by omega)), ag_L hf (r 3 (by omega))]
  exact h
theorem st_ag {sp : Nat} {w : List Nat} (h : st_x M sp w) (hf : ag (rg (sp + 2) (sp + 3)) M M') : st_x M' sp w := by
  refine ⟨h.1, ?_⟩
  intro i x hx
  rw [ag_I hf ⟨by omega, by omega⟩]
  exact h.2 i x hx
theorem wtl_ag {wi : Nat} (h : wt_l M wi) (hf : ag (rg wi (wi + 2)) M M') : wt_l M' wi := by
  unfold wt_l
  rw [ag_R hf ⟨by omega, by omega⟩, ag_L hf ⟨by omega, by omega⟩]
  exact h
theorem wtx_ag {wi : Nat} {x : Option yB} (h : wt_x M wi x) (hf : ag (rg wi (wi + 2)) M M') : wt_x M' wi x := by
  have r0 : rg wi (wi + 2) wi := ⟨by omega, by omega⟩
  have r1 : rg wi (wi + 2) (wi + 1) := ⟨by omega, by omega⟩
  refine ⟨wtl_ag h.1 hf, by rw [ag_I hf r0]; exact h.2.1, ?_⟩
  intro b hb
  obtain ⟨k1, k2, k3, ⟨k4, k5, k6, k7⟩, k8⟩ := h.2.2 b hb
  refine ⟨by rw [ag_I hf r0]; exact k1, by rw [ag_I hf r0]; exact k2, by rw [ag_I hf r0]; exact k3, ⟨by rw [ag_I hf r0]; exact k4, k5, ?_, k7⟩, k8⟩
  intro i y hy
  rw [ag_I hf r1]
  exact k6 i y hy
theorem wkl_ag {wk : Nat} (h : wk_l M wk) (hf : ag (rg wk (wk + 13)) M M') : wk_l M' wk := by
  unfold wk_l
  rw [ag_R hf ⟨by omega, by omega⟩, ag_R hf ⟨by omega, by omega⟩, ag_L hf ⟨by omega, by omega⟩, ag_L hf ⟨by omega, by omega⟩]
  exact h
theorem rel_ag {re : Nat} (h : re_l M re) (hf : ag (rg re (re + 7)) M M') : re_l M' re := by
  have r : ∀ i, i < 7 → rg re (re + 7) (re + i) := fun i hi => ⟨by omega, by omega⟩
  have r0 : rg re (re + 7) re := ⟨by omega, by omega⟩
  unfold re_l
  rw [ag_R hf r0, ag_R hf r0, ag_R hf r0, ag_R hf r0, ag_R hf r0, ag_R hf r0, ag_L hf (r 1 (by omega)), ag_L hf (r 2 (by omega)), ag_L hf (r 3 (by omega)), ag_L hf (r 4 (by omega)), ag_L hf (r 5 (by omega)), ag_L hf (r 6 (by omega))]
  exact h
theorem rex_ag {re : Nat} {ls : List Nat} {g : List (Nat × Option Nat)} (h : re_x M re ls g) (hf : ag (rg re (re + 7)) M M') : re_x M' re ls g := by
  have r : ∀ i, i < 7 → rg re (re + 7) (re + i) := fun i hi => ⟨by omega, by omega⟩
  have r0 : rg re (re + 7) re := ⟨by omega, by omega⟩
  obtain ⟨h1, h2, h3, h4, h5⟩ := h
  refine ⟨rel_ag h1 hf, by rw [ag_I hf r0]; exact h2, by rw [ag_I hf r0]; exact h3, ?_, ?_⟩
  · intro i x hx
    rw [ag_I hf (r 1 (by omega))]
    exact h4 i x hx
  · intro i x hx
    rw [ag_I hf (r 2 (by omega)), ag_I hf (r 3 (by omega))]
    exact h5 i x hx
theorem dil_ag {di : Nat} (h : di_l M di) (hf : ag (rg di (di + 7)) M M') : di_l M' di := by
  have r : ∀ i, i < 7 → rg di (di + 7) (di + i) := fun i hi => ⟨by omega, by omega⟩
  have r0 : rg di (di + 7) di := ⟨by omega, by omega⟩
  unfold di_l
  rw [ag_R hf r0, ag_R hf r0, ag_R hf r0, ag_R hf r0, ag_R hf r0, ag_R hf r0, ag_L hf (r 1 (by omega)), ag_L hf (r 2 (by omega)), ag_L hf (r 3 (by omega)), ag_L hf (r 4 (by omega)), ag_L hf (r 5 (by omega)), ag_L hf (r 6 (by omega))]
  exact h
theorem dux_ag {di : Nat} {o : Option (List Nat)} (h : du_x M di o) (hf : ag (rg di (di + 7)) M M') : du_x M' di o := by
  have r0 : rg di (di + 7) di := ⟨by omega, by omega⟩
  have r1 : rg di (di + 7) (di + 1) := ⟨by omega, by omega⟩
  cases o with
  | none =>
    show zm_I M' 0 di 0 = -1
    rw [ag_I hf r0]
    exact h
  | some w =>
    obtain ⟨k1, k2, k3, k4⟩ := h
    refine ⟨by rw [ag_I hf r0]; exact k1, k2, k3, ?_⟩
    intro i x hx
    rw [ag_I hf r1]
    exact k4 i x hx
end
/-- what was read last, as the class keeps it -/
def rd_c (M : zM) (re : Nat) (Ps : Nat → yP) (rd : Option yR) : Prop := match rd with
  | none => zm_I M 4 re 0 = -1 ∧ re_l M re
  | some x => zm_I M 4 re 0 = nI x.1 ∧ re_x M re x.2.1 x.2.2.1 ∧ (zm_I M 4 re 3 = x.2.2.2.1 ∧ zm_I M 4 re 4 = zb x.2.2.2.2.1 ∧ zm_I M 4 re 8 = nI x.2.2.2.2.2.1 ∧ zm_I M 4 re 10 = nI x.2.2.2.2.2.2.1) ∧ (∀ c, c < x.2.2.2.2.2.1 → zm_I M 20 (re + 4) c = nI (x.2.2.2.2.2.2.2.2.1 c)) ∧ (∀ a, a < x.2.2.2.2.2.2.1 → zm_I M 20 (re + 5) a = x.2.2.2.2.2.2.2.2.2 a) ∧ (zm_I M 4 re 12 = 0 ∨ (¬ zm_I M 4 re 12 = 0 ∧ re_m M re (py_md (Ps x.1) x.2.1))) ∧ w26 x.2.1
theorem rdc_ag {M M' : zM} {re : Nat} {Ps : Nat → yP} {rd : Option yR} (h : rd_c M re Ps rd) (hf : ag (rg re (re + 7)) M M') : rd_c M' re Ps rd := by
  have r : ∀ i, i < 7 → rg re (re + 7) (re + i) := fun i hi => ⟨by omega, by omega⟩
  have r0 : rg re (re + 7) re := ⟨by omega, by omega⟩
  cases rd with
  | none => exact ⟨by rw [ag_I hf r0]; exact h.1, rel_ag h.2 hf⟩
  | some x =>
    obtain ⟨h1, h2, ⟨a1, a2, a3, a4⟩, h4, h5, h6, h7⟩ := h
    refine ⟨by rw [ag_I hf r0]; exact h1, rex_ag h2 hf, ⟨by rw [ag_I hf r0]; exact a1, by rw [ag_I hf r0]; exact a2, by rw [ag_I hf r0]; exact a3, by rw [ag_I hf r0]; exact a4⟩, ?_, ?_, ?_, h7⟩
    · intro c hc
      rw [ag_I hf (r 4 (by omega))]
      exact h4 c hc
    · intro a ha
      rw [ag_I hf (r 5 (by omega))]
      exact h5 a ha
    · rw [ag_I hf r0]
      rcases h6 with h6 | ⟨h6, h8⟩
      · exact .inl h6
      · refine .inr ⟨h6, ?_⟩
        unfold re_m at h8 ⊢
        rw [ag_I hf r0, ag_I hf r0, ag_I hf r0]
        exact h8
/-- the object itself -/
def cO_x (M : zM) (ac bt bs et es : Nat) (n : Nat) : Prop := (zm_R M 11 ac 0 = some (ac + 1) ∧ zm_R M 11 ac 2 = some bt ∧ zm_R M 11 ac 3 = some bs ∧ zm_R M 11 ac 4 = some et ∧ zm_R M 11 ac 5 = some es ∧ zm_R M 11 ac 6 = some (ac + 190) ∧ zm_R M 11 ac 7 = some (ac + 192) ∧ zm_R M 11 ac 8 = some (ac + 197) ∧ zm_R M 11 ac 9 = some (ac + 211) ∧ zm_R M 11 ac 10 = some (ac + 213) ∧ zm_R M 11 ac 11 = some (ac + 215) ∧ zm_R M 11 ac 12 = some (ac + 228) ∧ zm_R M 11 ac 13 = some (ac + 235)) ∧ zm_I M 11 ac 1 = nI n
def cK_x (M : zM) (ac R : Nat) (Ps : Nat → yP) : Prop := (zm_I M 10 (ac + 211) 0 = -1 ∨ ∃ r, r < R ∧ zm_I M 10 (ac + 211) 0 = nI r ∧ wt_x M (ac + 211) (py_fw (Ps r) false)) ∧ (zm_I M 10 (ac + 213) 0 = -1 ∨ ∃ r, r < R ∧ zm_I M 10 (ac + 213) 0 = nI r ∧ wt_x M (ac + 213) (py_fw (Ps r) true)) ∧ (zm_I M 11 ac 14 = -1 ∨ ∃ r, r < R ∧ zm_I M 11 ac 14 = nI r ∧ st_x M (ac + 197) (py_wd (Ps r) (py_rt (Ps r)))) ∧ ((zm_I M 0 (ac + 235) 2 = -1 ∧ zm_I M 0 (ac + 235) 3 = -1) ∨ ∃ r o, r < R ∧ o < R ∧ zm_I M 0 (ac + 235) 2 = nI r ∧ zm_I M 0 (ac + 235) 3 = nI o ∧ du_x M (ac + 235) (py_ul (Ps r) (Ps o) (List.range' 0 5)))
def cL_x (M : zM) (ac : Nat) : Prop := lp_x M (ac + 190) (ac + 191) ∧ wy_l M (ac + 192) ∧ sl_l M (ac + 197) ∧ wt_l M (ac + 211) ∧ wt_l M (ac + 213) ∧ wk_l M (ac + 215) ∧ di_l M (ac + 235)
/-- where told, spare, held lie; the pools -/
abbrev yG2 : Type := (Nat × Nat × Nat × Nat) × (Nat → Nat) × Nat × (Nat → Nat) × Nat
def cG_ok (ac : Nat) (g : yG2) : Prop := ((g.1.1 = ac + 2 ∧ g.1.2.1 = ac + 86) ∨ (g.1.1 = ac + 86 ∧ g.1.2.1 = ac + 2)) ∧ ((g.1.2.2.1 = ac + 170 ∧ g.1.2.2.2 = ac + 180) ∨ (g.1.2.2.1 = ac + 180 ∧ g.1.2.2.2 = ac + 170)) ∧ (∀ i, i < g.2.2.1 → ac + 242 ≤ g.2.1 i) ∧ (∀ i, i < g.2.2.2.2 → ac + 242 ≤ g.2.2.2.1 i) ∧ (∀ i j, i < g.2.2.1 → j < g.2.2.2.2 → g.2.1 i ≠ g.2.2.2.1 j ∧ g.2.1 i ≠ g.2.2.2.1 j + 1 ∧ g.2.1 i + 1 ≠ g.2.2.2.1 j)
def cI (ac N0 S0 : Nat) (M : zM) (S : yZ) (g : yG2) : Prop := cG_ok ac g ∧ cO_x M ac g.1.1 g.1.2.1 g.1.2.2.1 g.1.2.2.2 S.1.length ∧ ct_x M ac S.1 ∧ (cS_x M g.2.1 g.1.1 S.2.1.1 S.2.1.2 ∧ cp_x M g.1.1 g.2.1 g.2.2.1 ∧ (∀ r, r < S.2.1.1 → ∀ n, py_dm (S.2.1.2 r) n → n < g.2.2.1 ∧ ∀ r', r' < S.2.1.1 → py_dm (S.2.1.2 r') n → r' = r)) ∧ (cw_rs M g.1.2.1 ∧ cp_x M g.1.2.1 g.2.2.2.1 g.2.2.2.2) ∧ (do_x M g.1.2.2.1 S.2.2.1 ∧ do_h M g.1.2.2.1 S.2.1.1 S.2.1.2 S.2.2.1 ∧ dy_ok S.2.2.1) ∧ do_l M g.1.2.2.2 ∧ cL_x M ac ∧ rd_c M (ac + 228) S.2.1.2 S.2.2.2 ∧ cK_x M ac S.2.1.1 S.2.1.2 ∧ (ac + 242 ≤ zm_n M ∧ zm_n M = N0 + 2 * (g.2.2.1 + g.2.2.2.2) ∧ zm_s M = S0 + 21 * (g.2.2.1 + g.2.2.2.2))
