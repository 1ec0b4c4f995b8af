/-! THE WORLD of the evaluator's memory in the machine's heap -/
/-- addresses of cells, of the script, of texts; where new cells begin; class numbers and slots, classes, array classes; kinds of fields, of elements; the script; how many texts -/
abbrev zG : Type := (Nat → Nat) × Nat × (Nat → Nat) × Nat × va_G × List vw_C × (Nat → ClassId) × (Nat → Nat → Nat) × (Nat → Nat) × (Nat → Int32) × Nat × Nat
def zg_ad (G : zG) : Nat → Nat := G.1
def zg_b (G : zG) : Nat := G.2.1
def zg_sa (G : zG) : Nat → Nat := G.2.2.1
def zg_base (G : zG) : Nat := G.2.2.2.1
def zg_D (G : zG) : va_G := G.2.2.2.2.1
def zg_cl (G : zG) : List vw_C := G.2.2.2.2.2.1
def zg_cA (G : zG) : Nat → ClassId := G.2.2.2.2.2.2.1
def zg_fk (G : zG) : Nat → Nat → Nat := G.2.2.2.2.2.2.2.1
def zg_elt (G : zG) : Nat → Nat := G.2.2.2.2.2.2.2.2.1
def zg_xs (G : zG) : Nat → Int32 := G.2.2.2.2.2.2.2.2.2.1
def zg_L (G : zG) : Nat := G.2.2.2.2.2.2.2.2.2.2.1
def zg_nS (G : zG) : Nat := G.2.2.2.2.2.2.2.2.2.2.2
def zg_A (G : zG) (t k : Nat) : Nat := if t = 90 then zg_b G else if t = 91 then zg_sa G k else zg_ad G k
def zg_N (G : zG) (t : Nat) : Nat := match (zg_cl G)[t]? with
  | some q => q.2.2
  | none => 0
/-- is place j of a cell of kind t a reference; of which kind -/
def zg_isR (G : zG) (t j : Nat) : Prop := t < 20 → 2 ≤ zg_fk G t j
def zg_rt (G : zG) (t j : Nat) : Nat := if t < 20 then zg_fk G t j - 2 else zg_elt G t
def z_fs (G : zG) (M : zM) (t k : Nat) : List Value := (List.range (zg_N G t)).map (fun j => z_cv (zg_A G) (ez_fv (zg_fk G t j) M t k j))
def z_cell (G : zG) (M : zM) (t k : Nat) : va_E :=
  if t < 20 then .inr (t, z_fs G M t k)
  else if t = 23 then .inl (zg_cA G t, zm_L M t k, .inr (.inl (zm_J M t k)))
  else if t = 24 ∨ t = 25 then .inl (zg_cA G t, zm_L M t k, .inr (.inr (.inr (.inr (fun i => (zm_R M t k i).map (zg_A G (zg_elt G t)))))))
  else .inl (zg_cA G t, zm_L M t k, .inl (zm_I M t k))
def z_ws (G : zG) (M : zM) : va_W := (List.range (zm_n M)).map (fun k => (zg_ad G k, z_cell G M (zm_K M k - 1) k))
def z_Rep (G : zG) (M : zM) (H : Heap) : Prop :=
  va_P (zg_D G) (zg_cl G) (z_ws G M) H ∧ va_D (fun q => zg_base G ≤ q) (z_ws G M) ∧ (∀ k, zm_n M ≤ k → zg_ad G k = H.size + (k - zm_n M) ∧ zm_K M k = 0) ∧ (∀ k, k < zm_n M → 1 ≤ zm_K M k ∧ zm_K M k ≤ 26 ∧ (zm_K M k ≤ 20 → ∃ q, (zg_cl G)[zm_K M k - 1]? = some q)) ∧ (∀ k t j r, zm_K M k = t + 1 → zm_R M t k j = some r → zg_isR G t j → zm_K M r = zg_rt G t j + 1) ∧ zm_L M 90 0 = zg_L G ∧ zm_I M 90 0 = zg_xs G
/-- a value that stands for something -/
def z_VV (G : zG) (sc : Prop) (M : zM) (v : zV) : Prop := match v with
  | .inr (.inr (t, some k)) => (t < 30 ∧ zm_K M k = t + 1) ∨ (t = 90 ∧ sc ∧ k = 0) ∨ (t = 91 ∧ k < zg_nS G)
  | _ => True
def z_tys (G : zG) (C24 C25 : String) : List (ClassId × FieldType) := [(zg_cA G 20, .int), (zg_cA G 21, .int), (zg_cA G 22, .byte), (zg_cA G 23, .long), (zg_cA G 24, .object C24), (zg_cA G 25, .object C25)]
/-- what memory keeps: kinds that are there stay, numbers grow -/
def z_le (M M' : zM) : Prop := zm_n M ≤ zm_n M' ∧ zm_s M ≤ zm_s M' ∧ ∀ k, zm_K M k ≠ 0 → zm_K M' k = zm_K M k
theorem z_le.rf {M : zM} : z_le M M := ⟨Nat.le_refl _, Nat.le_refl _, fun _ _ => rfl⟩
theorem z_le.tr {M1 M2 M3 : zM} (h : z_le M1 M2) (g : z_le M2 M3) : z_le M1 M3 := ⟨Nat.le_trans h.1 g.1, Nat.le_trans h.2.1 g.2.1, fun k hk => by
  have e := h.2.2 k hk
  rw [g.2.2 k (by rw [e]; exact hk), e]⟩
theorem z_VV.mono {G : zG} {sc : Prop} {M M' : zM} {v : zV} (h : z_VV G sc M v) (hm : ∀ k, zm_K M k ≠ 0 → zm_K M' k = zm_K M k) : z_VV G sc M' v := by
  rcases v with x | x | ⟨t, _ | k⟩
  · trivial
  · trivial
  · trivial
  · rcases h with ⟨h1, h2⟩ | h | h
    · exact Or.inl ⟨h1, by rw [hm k (by rw [h2]; exact Nat.succ_ne_zero t), h2]⟩
    · exact Or.inr (Or.inl h)
    · exact Or.inr (Or.inr h)
theorem z_K_setI (M : zM) (t k j : Nat) (v : Int32) : zm_K (zm_setI M t k j v) = zm_K M := rfl
theorem z_K_setR (M : zM) (t k j : Nat) (v : Option Nat) : zm_K (zm_setR M t k j v) = zm_K M := rfl
theorem z_n_setI (M : zM) (t k j : Nat) (v : Int32) : zm_n (zm_setI M t k j v) = zm_n M := rfl
theorem z_ws_len (G : zG) (M : zM) : (z_ws G M).length = zm_n M := by simp [z_ws]
theorem z_ws_get (G : zG) (M : zM) {k : Nat} (h : k < zm_n M) : (z_ws G M)[k]? = some (zg_ad G k, z_cell G M (zm_K M k - 1) k) := by
  simp [z_ws, h]
theorem z_lt {G : zG} {M : zM} {H : Heap} (h : z_Rep G M H) {k t : Nat} (hk : zm_K M k = t + 1) : k < zm_n M := by
  rcases Nat.lt_or_ge k (zm_n M) with q | q
  · exact q
  · have := (h.2.2.1 k q).2
    omega
theorem z_ws_at {G : zG} {M : zM} {H : Heap} (h : z_Rep G M H) {k t : Nat} (hk : zm_K M k = t + 1) : (z_ws G M)[k]? = some (zg_ad G k, z_cell G M t k) := by
  rw [z_ws_get G M (z_lt h hk), hk]; rfl
theorem z_fs_get (G : zG) (M : zM) (t k : Nat) {j : Nat} (h : j < zg_N G t) : (z_fs G M t k)[j]? = some (z_cv (zg_A G) (ez_fv (zg_fk G t j) M t k j)) := by
  simp [z_fs, h]
theorem z_fs_len (G : zG) (M : zM) (t k : Nat) : (z_fs G M t k).length = zg_N G t := by simp [z_fs]
theorem z_ws_set {G : zG} {M M' : zM} {k : Nat} {e : va_E} (hk : k < zm_n M) (hn : zm_n M' = zm_n M) (hK : zm_K M' = zm_K M) (ho : ∀ k', k' ≠ k → z_cell G M' (zm_K M k' - 1) k' = z_cell G M (zm_K M k' - 1) k') (he : z_cell G M' (zm_K M k - 1) k = e) : (z_ws G M).set k (zg_ad G k, e) = z_ws G M' := by
  apply List.ext_getElem?
  intro i
  by_cases hi : i < zm_n M
  · rw [z_ws_get G M' (by rw [hn]; exact hi), hK]
    by_cases hik : i = k
    · subst hik
      rw [List.getElem?_set_self (by rw [z_ws_len]; exact hi), he]
    · rw [List.getElem?_set_ne (Ne.symm hik), z_ws_get G M hi, ho i hik]
  · rw [List.getElem?_eq_none (by rw [List.length_set, z_ws_len]; omega), List.getElem?_eq_none (by rw [z_ws_len, hn]; omega)]
theorem z_setI_at (M : zM) (t k j : Nat) (v : Int32) (t' k' j' : Nat) : zm_I (zm_setI M t k j v) t' k' j' = if t' = t ∧ k' = k ∧ j' = j then v else zm_I M t' k' j' := rfl
theorem z_setR_at (M : zM) (t k j : Nat) (v : Option Nat) (t' k' j' : Nat) : zm_R (zm_setR M t k j v) t' k' j' = if t' = t ∧ k' = k ∧ j' = j then v else zm_R M t' k' j' := rfl
theorem z_setJ_at (M : zM) (t k j : Nat) (v : Int64) (t' k' j' : Nat) : zm_J (zm_setJ M t k j v) t' k' j' = if t' = t ∧ k' = k ∧ j' = j then v else zm_J M t' k' j' := rfl
theorem z_copy_at (M : zM) (t k : Nat) (f : Nat → Int32) (t' k' j' : Nat) : zm_I (zm_copy M t k f) t' k' j' = if t' = t ∧ k' = k then f j' else zm_I M t' k' j' := rfl
/-- a cell depends on its own places alone -/
theorem z_cell_congr {G : zG} {M M' : zM} {t k : Nat} (hI : zm_I M' t k = zm_I M t k) (hR : zm_R M' t k = zm_R M t k) (hJ : zm_J M' t k = zm_J M t k) (hL : zm_L M' t k = zm_L M t k) : z_cell G M' t k = z_cell G M t k := by
  have hf : z_fs G M' t k = z_fs G M t k := by
    unfold z_fs
    apply List.map_congr_left
    intro j _
    unfold ez_fv
    rw [hI, hR]
  unfold z_cell
  rw [hf, hI, hR, hJ, hL]
theorem z_I_other (M : zM) (t k j : Nat) (v : Int32) {t' k' : Nat} (h : ¬ (t' = t ∧ k' = k)) : zm_I (zm_setI M t k j v) t' k' = zm_I M t' k' := by
  funext j'
  rw [z_setI_at, if_neg (fun q => h ⟨q.1, q.2.1⟩)]
theorem z_R_other (M : zM) (t k j : Nat) (v : Option Nat) {t' k' : Nat} (h : ¬ (t' = t ∧ k' = k)) : zm_R (zm_setR M t k j v) t' k' = zm_R M t' k' := by
  funext j'
  rw [z_setR_at, if_neg (fun q => h ⟨q.1, q.2.1⟩)]
theorem z_J_other (M : zM) (t k j : Nat) (v : Int64) {t' k' : Nat} (h : ¬ (t' = t ∧ k' = k)) : zm_J (zm_setJ M t k j v) t' k' = zm_J M t' k' := by
  funext j'
  rw [z_setJ_at, if_neg (fun q => h ⟨q.1, q.2.1⟩)]
theorem z_copy_other (M : zM) (t k : Nat) (f : Nat → Int32) {t' k' : Nat} (h : ¬ (t' = t ∧ k' = k)) : zm_I (zm_copy M t k f) t' k' = zm_I M t' k' := by
  funext j'
  rw [z_copy_at, if_neg h]
theorem z_upd_I (M : zM) (t k j : Nat) (v : Int32) : zm_I (zm_setI M t k j v) t k = upd (zm_I M t k) j v := by
  funext j'
  rw [z_setI_at]
  by_cases h : j' = j
  · subst h; simp [upd]
  · simp [upd, h]
theorem z_upd_J (M : zM) (t k j : Nat) (v : Int64) : zm_J (zm_setJ M t k j v) t k = vp_updL (zm_J M t k) j v := by
  funext j'
  rw [z_setJ_at]
  by_cases h : j' = j
  · subst h; simp [vp_updL]
  · simp [vp_updL, h]
theorem z_upd_R (M : zM) (t k j : Nat) (v : Option Nat) : zm_R (zm_setR M t k j v) t k = va_up (zm_R M t k) j v := by
  funext j'
  rw [z_setR_at]
  by_cases h : j' = j
  · subst h; simp [va_up]
  · simp [va_up, h]
theorem z_fs_setI {G : zG} {M : zM} {t k j : Nat} {v : Int32} (h : zg_fk G t j ≤ 1) (_hj : j < zg_N G t) : (z_fs G M t k).set j (.int v) = z_fs G (zm_setI M t k j v) t k := by
  apply List.ext_getElem?
  intro i
  by_cases hi : i < zg_N G t
  · rw [z_fs_get G _ t k hi]
    by_cases hij : i = j
    · subst hij
      rw [List.getElem?_set_self (by rw [z_fs_len]; exact hi)]
      have : zg_fk G t i = 0 ∨ zg_fk G t i = 1 := by omega
      rcases this with e | e <;> rw [e] <;> simp [ez_fv, z_cv, z_setI_at]
    · rw [List.getElem?_set_ne (Ne.symm hij), z_fs_get G M t k hi]
      congr 2
      unfold ez_fv
      split <;> simp [z_setI_at, hij] <;> rfl
  · rw [List.getElem?_eq_none (by rw [List.length_set, z_fs_len]; omega), List.getElem?_eq_none (by rw [z_fs_len]; omega)]
theorem z_fs_setR {G : zG} {M : zM} {t k j f : Nat} {v : Option Nat} (h : zg_fk G t j = f + 2) (_hj : j < zg_N G t) : (z_fs G M t k).set j (z_cv (zg_A G) (.inr (.inr (f, v)))) = z_fs G (zm_setR M t k j v) t k := by
  apply List.ext_getElem?
  intro i
  by_cases hi : i < zg_N G t
  · rw [z_fs_get G _ t k hi]
    by_cases hij : i = j
    · subst hij
      rw [List.getElem?_set_self (by rw [z_fs_len]; exact hi), h]
      simp [ez_fv, z_setR_at]
    · rw [List.getElem?_set_ne (Ne.symm hij), z_fs_get G M t k hi]
      congr 2
      unfold ez_fv
      split <;> simp [z_setR_at, hij] <;> rfl
  · rw [List.getElem?_eq_none (by rw [List.length_set, z_fs_len]; omega), List.getElem?_eq_none (by rw [z_fs_len]; omega)]
/-- a new cell at the end -/
theorem z_ws_push {G : zG} {M : zM} {H : Heap} (_h : z_Rep G M H) (t len sl : Nat) : z_ws G (zm_new M t len sl) = z_ws G M ++ [(zg_ad G (zm_n M), z_cell G (zm_new M t len sl) t (zm_n M))] := by
  unfold z_ws
  show List.map _ (List.range (zm_n M + 1)) = _
  rw [List.range_succ, List.map_append, List.map_singleton]
  congr 1
  · apply List.map_congr_left
    intro k hk
    have hk' : k ≠ zm_n M := Nat.ne_of_lt (List.mem_range.mp hk)
    have e : zm_K (zm_new M t len sl) k = zm_K M k := by
      show (if k = M.1 then t + 1 else zm_K M k) = _
      exact if_neg hk'
    rw [e]
    congr 1
    apply z_cell_congr
    · funext j; show (if _ = t ∧ k = M.1 then _ else _) = _; rw [if_neg (fun q => hk' q.2)]
    · funext j; show (if _ = t ∧ k = M.1 then _ else _) = _; rw [if_neg (fun q => hk' q.2)]
    · funext j; show (if _ = t ∧ k = M.1 then _ else _) = _; rw [if_neg (fun q => hk' q.2)]
    · show (if _ = t ∧ k = M.1 then _ else _) = _; rw [if_neg (fun q => hk' q.2)]
  · have e : zm_K (zm_new M t len sl) (zm_n M) = t + 1 := by
      show (if zm_n M = M.1 then t + 1 else _) = _
      exact if_pos rfl
    rw [e]; rfl
