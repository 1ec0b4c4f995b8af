/-! THE CLASS: letters are weighed -/
def wt_l (M : zM) (wi : Nat) : Prop := zm_R M 10 wi 6 = some (wi + 1) ∧ zm_L M 20 (wi + 1) = 2304
def wt_t (M : zM) (wi : Nat) (T : List Nat) : Prop := zm_I M 10 wi 5 = nI T.length ∧ T.length ≤ 2304 ∧ (∀ (i x : Nat), T[i]? = some x → zm_I M 20 (wi + 1) i = nI x) ∧ (∀ x, x ∈ T → x < 26)
def py_c2 (w : Nat × Option Nat) : Nat := 16 * w.1 + py_oi w.2
def wt_b (M : zM) (wi : Nat) (b : yB) : Prop := zm_I M 10 wi 2 = zo b.1 ∧ zm_I M 10 wi 3 = nI (py_c2 b.2.1) ∧ zm_I M 10 wi 4 = nI (py_c2 b.2.2.1) ∧ wt_t M wi b.2.2.2 ∧ py_oi b.1 ≤ 16 ∧ (b.2.1.1 < 16 ∧ py_oi b.2.1.2 < 16) ∧ (b.2.2.1.1 < 16 ∧ py_oi b.2.2.1.2 < 16)
def wt_x (M : zM) (wi : Nat) (x : Option yB) : Prop := wt_l M wi ∧ zm_I M 10 wi 1 = zb x.isSome ∧ ∀ b, x = some b → wt_b M wi b
/-- better, alike, worse -/
def py_wc (x : Option yB) (T : List Nat) : Int32 := match x with
  | none => -1
  | some b => if py_ls T b.2.2.2 then -1 else if T = b.2.2.2 then 0 else 1
def wt_c (M : zM) (wi : Nat) (P : yP) (x : Option yB) : Prop := zm_I M 10 wi 8 = 0 ∨ (zm_I M 10 wi 8 = 1 ∧ ∃ p en ov b, zm_I M 10 wi 9 = zo p ∧ zm_I M 10 wi 10 = en ∧ zm_I M 10 wi 11 = ov ∧ py_oi p ≤ 16 ∧ x = some b ∧ (((zm_I M 10 wi 7 = -1 ∨ zm_I M 10 wi 7 = 0) ∧ b.2.2.2 = py_txb P p en ov) ∨ (zm_I M 10 wi 7 = 1 ∧ py_ls (py_txb P p en ov) b.2.2.2 = false ∧ py_txb P p en ov ≠ b.2.2.2)))
def ww_W (wi sp t k j : Nat) : Prop := (t = 10 ∧ k = wi ∧ (j = 5 ∨ (7 ≤ j ∧ j ≤ 11))) ∨ (t = 20 ∧ k = wi + 1) ∨ (sq_W sp t k j ∧ k ≠ sp + 2)
def py_cmp (u w : List Nat) : Int32 := if py_lex u w then -1 else if u = w then 0 else 1
section
variable {M M' : zM} {pa : Nat → Nat} {P : yP} {d sp wi Q : Nat} {T U : List Nat}
theorem cl_comp_2 (hl : wt_l M wi) (hx : sl_x M sp T) (ht : wt_t M wi U) (hlen : T.length = U.length) : ∀ (m k : Nat), k + m = T.length → ∀ fuel, m < fuel → wi_compare_2 d fuel wi (some sp) (nI k) M = some (py_cmp (T.drop k) (U.drop k), M) := by
  have hT := ht.2.1
  intro m
  induction m with
  | zero =>
    intro k e fuel hf
    cases fuel with
    | zero => cases hf
    | succ fuel =>
      rw [wi_compare_2, ht.1, if_pos ((nI_leI (by omega) (by omega)).mpr (by omega)), List.drop_eq_nil_of_le (show T.length ≤ k by omega), List.drop_eq_nil_of_le (show U.length ≤ k by omega)]
      rfl
  | succ m ih =>
    intro k e fuel hf
    cases fuel with
    | zero => cases hf
    | succ fuel =>
      have hkT : k < T.length := by omega
      have hkU : k < U.length := by omega
      have g1 : T[k]? = some T[k] := List.getElem?_eq_getElem hkT
      have g2 : U[k]? = some U[k] := List.getElem?_eq_getElem hkU
      have a26 : T[k] < 26 := hx.2.2.2.2 _ (List.getElem_mem hkT)
      have b26 : U[k] < 26 := ht.2.2.2 _ (List.getElem_mem hkU)
      have z1 : z_in (nI k) 9216 := nI_in (by omega) (by omega)
      have z2 : z_in (nI k) 2304 := nI_in (by omega) (by omega)
      rw [wi_compare_2, ht.1, if_neg (fun p => by have := (nI_leI (by omega) (by omega)).mp p; omega)]
      simp only [hx.2.1]
      rw [if_neg (fun p => by have := (nI_leI (by omega) (by omega)).mp p; omega)]
      simp only [hx.1.1.1, hx.1.1.2, hl.1, hl.2, if_pos z1, if_pos z2, nI_clamp (show k < 2 ^ 31 by omega), hx.2.2.2.1 k _ g1, ht.2.2.1 k _ g2, zlet, nI_1, wi_compare_53]
      rw [List.drop_eq_getElem_cons hkT, List.drop_eq_getElem_cons hkU]
      have hlx : py_lex (T[k] :: T.drop (k + 1)) (U[k] :: U.drop (k + 1)) = if T[k] = U[k] then py_lex (T.drop (k + 1)) (U.drop (k + 1)) else decide (T[k] < U[k]) := rfl
      unfold py_cmp
      rw [hlx]
      by_cases q : T[k] = U[k]
      · rw [if_pos (by rw [q]), if_pos q, ih (k + 1) (by omega) fuel (by omega)]
        unfold py_cmp
        have hiff : (T[k] :: T.drop (k + 1) = U[k] :: U.drop (k + 1)) ↔ T.drop (k + 1) = U.drop (k + 1) := ⟨fun e => (List.cons.inj e).2, fun e => (by rw [q, e])⟩
        simp only [hiff]
      · rw [if_neg (fun p => q ((nI_eq (by omega) (by omega)).mp p)), if_neg q]
        by_cases q2 : U[k] ≤ T[k]
        · rw [if_pos ((nI_leI (by omega) (by omega)).mpr q2), decide_eq_false (show ¬ T[k] < U[k] by omega), if_neg (by decide), if_neg (fun e => by injection e with e1 _; exact q e1)]
        · rw [if_neg (fun p => q2 ((nI_leI (by omega) (by omega)).mp p)), decide_eq_true (show T[k] < U[k] by omega), if_pos rfl]
theorem cl_keep_16 (hx0 : sl_x M sp T) (hT : T.length ≤ 2304) (hwi : wi + 1 ≠ sp + 1) : ∀ (m k : Nat) (M : zM), k + m = T.length → wt_l M wi → sl_x M sp T → zm_I M 10 wi 5 = nI T.length → (∀ (i x : Nat), i < k → T[i]? = some x → zm_I M 20 (wi + 1) i = nI x) → ∀ fuel, m < fuel → ∃ M', wi_keep_16 d fuel wi (some sp) (nI k) M = some M' ∧ wt_t M' wi T ∧ zf (fun t k _ => t = 20 ∧ k = wi + 1) M M' := by
  intro m
  induction m with
  | zero =>
    intro k M e hl hx h5 hk fuel hf
    cases fuel with
    | zero => cases hf
    | succ fuel =>
      refine ⟨M, ?_, ⟨h5, hT, fun i x h => hk i x (by have := (List.getElem?_eq_some_iff.mp h).1; omega) h, hx.2.2.2.2⟩, zf_refl _ _⟩
      rw [wi_keep_16, h5, if_pos ((nI_leI (by omega) (by omega)).mpr (by omega))]
  | succ m ih =>
    intro k M e hl hx h5 hk fuel hf
    cases fuel with
    | zero => cases hf
    | succ fuel =>
      obtain ⟨x, hxk⟩ : ∃ x, T[k]? = some x := ⟨T[k]'(by omega), List.getElem?_eq_getElem _⟩
      have z1 : z_in (nI k) 9216 := nI_in (by omega) (by omega)
      have z2 : z_in (nI k) 2304 := nI_in (by omega) (by omega)
      have f1 : zf (fun t k _ => t = 20 ∧ k = wi + 1) M (zm_setI M 20 (wi + 1) k (nI x)) := zf_set ⟨rfl, rfl⟩
      have x1 : sl_x (zm_setI M 20 (wi + 1) k (nI x)) sp T := by
        refine ⟨sll_zf hx.1 f1, by rw [pm_ne (by omega)]; exact hx.2.1, hx.2.2.1, ?_, hx.2.2.2.2⟩
        intro i y hy
        rw [pm_ne (by omega)]
        exact hx.2.2.2.1 i y hy
      have l1 : wt_l (zm_setI M 20 (wi + 1) k (nI x)) wi := by
        unfold wt_l
        rw [pm_RI, pm_LI]
        exact hl
      obtain ⟨M', q1, q2, q3⟩ := ih (k + 1) _ (by omega) l1 x1 (by rw [pm_ne (by omega)]; exact h5) (by
        intro i y hi hy
        rw [pm_II]
        by_cases q : i = k
        · subst q
          rw [hxk] at hy
          injection hy with hy
          rw [if_pos ⟨rfl, rfl, rfl⟩, hy]
        · rw [if_neg (fun e => q e.2.2)]
          exact hk i y (by omega) hy) fuel (by omega)
      refine ⟨M', ?_, q2, zf_trans f1 q3⟩
      rw [wi_keep_16, h5, if_neg (fun p => by have := (nI_leI (by omega) (by omega)).mp p; omega)]
      simp only [hx.1.1.1, hx.1.1.2, hl.1, hl.2, if_pos z1, if_pos z2, nI_clamp (show k < 2 ^ 31 by omega), hx.2.2.2.1 k x hxk, zlet, nI_1]
      exact q1
theorem cl_wkeep (hx : sl_x M sp T) (hT : T.length ≤ 2304) (hl : wt_l M wi) (hwi : sp + 4 ≤ wi) : ∃ M', wi_keep d wi (some sp) M = some M' ∧ wt_t M' wi T ∧ zf (fun t k j => (t = 20 ∧ k = wi + 1) ∨ (t = 10 ∧ k = wi ∧ j = 5)) M M' := by
  have hLF : zLF = 100000 := rfl
  have f1 : zf (fun t k j => (t = 20 ∧ k = wi + 1) ∨ (t = 10 ∧ k = wi ∧ j = 5)) M (zm_setI M 10 wi 5 (nI T.length)) := zf_set (.inr ⟨rfl, rfl, rfl⟩)
  have x1 : sl_x (zm_setI M 10 wi 5 (nI T.length)) sp T := by
    refine ⟨sll_zf hx.1 f1, by rw [pm_ne (by omega)]; exact hx.2.1, hx.2.2.1, ?_, hx.2.2.2.2⟩
    intro i y hy
    rw [pm_ne (by omega)]
    exact hx.2.2.2.1 i y hy
  have l1 : wt_l (zm_setI M 10 wi 5 (nI T.length)) wi := by
    unfold wt_l
    rw [pm_RI, pm_LI]
    exact hl
  obtain ⟨M', q1, q2, q3⟩ := cl_keep_16 (d := d) x1 hT (by omega) T.length 0 _ (by omega) l1 x1 (by rw [pm_same]) (fun i x hi => by omega) zLF (by omega)
  refine ⟨M', ?_, q2, zf_trans f1 (zf_mono q3 (fun t k j w => .inl w))⟩
  unfold wi_keep
  have e23 : (2304 : Int32) = nI 2304 := rfl
  simp only [hx.2.1, zlet]
  rw [e23, if_neg (fun p => by have := (nI_ltI (by omega) (by omega)).mp p; omega)]
  exact q1
theorem wtt_zr {W : Nat → Nat → Nat → Prop} (h : wt_t M wi T) (hf : zr W M M') (h5 : ¬ W 10 wi 5) (h20 : ∀ j, ¬ W 20 (wi + 1) j) : wt_t M' wi T := by
  refine ⟨by rw [zr_I hf h5]; exact h.1, h.2.1, ?_, h.2.2.2⟩
  intro i x hx
  rw [zr_I hf (h20 i)]
  exact h.2.2.1 i x hx
theorem wtl_zr {W : Nat → Nat → Nat → Prop} (h : wt_l M wi) (hf : zr W M M') (h6 : ¬ W 10 wi 6) : wt_l M' wi := by
  unfold wt_l
  rw [zr_R hf h6, zr_L hf]
  exact h
end
