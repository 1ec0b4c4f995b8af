/-! ONE STEP of the evaluator is sound -/
theorem z_jmp {α : Type} {pc : Nat} {off : Int} {k : Nat → Option α} {out : α} (h : ez_jmp pc off k = some out) : ∃ t : Nat, (pc : Int) + off = (t : Int) ∧ k t = some out := by
  unfold ez_jmp at h
  split at h
  · rename_i t e
    exact ⟨t, e, h⟩
  · cases h
theorem z_beq_eq {a b : Nat} (h : Nat.beq a b = true) : a = b := Nat.eq_of_beq_eq_true h
theorem zg_A_ad (G : zG) {t : Nat} (h : t < 30) (k : Nat) : zg_A G t k = zg_ad G k := by
  unfold zg_A
  rw [if_neg (by omega), if_neg (by omega)]
theorem z_cell_o (G : zG) (M : zM) {t : Nat} (h : t < 20) (k : Nat) : z_cell G M t k = .inr (t, z_fs G M t k) := by
  unfold z_cell
  rw [if_pos h]
theorem z_cell_i (G : zG) (M : zM) {t : Nat} (h : t = 20 ∨ t = 21 ∨ t = 22) (k : Nat) : z_cell G M t k = .inl (zg_cA G t, zm_L M t k, .inl (zm_I M t k)) := by
  unfold z_cell
  rw [if_neg (by omega), if_neg (by omega), if_neg (by omega)]
theorem z_cell_l (G : zG) (M : zM) (k : Nat) : z_cell G M 23 k = .inl (zg_cA G 23, zm_L M 23 k, .inr (.inl (zm_J M 23 k))) := by
  unfold z_cell
  rw [if_neg (by omega), if_pos rfl]
theorem z_cell_r (G : zG) (M : zM) {t : Nat} (h : t = 24 ∨ t = 25) (k : Nat) : z_cell G M t k = .inl (zg_cA G t, zm_L M t k, .inr (.inr (.inr (.inr (fun i => (zm_R M t k i).map (zg_A G (zg_elt G t))))))) := by
  unfold z_cell
  rw [if_neg (by omega), if_neg (by omega), if_pos h]
theorem z_inj {G : zG} {M : zM} {H : Heap} (h : z_Rep G M H) {k k' : Nat} (hk : k < zm_n M) (hk' : k' < zm_n M) (e : zg_ad G k = zg_ad G k') : k = k' :=
  h.2.1.1 k k' _ _ (z_ws_get G M hk) (z_ws_get G M hk') e
theorem z_base {G : zG} {M : zM} {H : Heap} (h : z_Rep G M H) {k : Nat} (hk : k < zm_n M) : zg_base G ≤ zg_ad G k := h.2.1.2 k _ (z_ws_get G M hk)
theorem z_at_o {G : zG} {M : zM} {H : Heap} (h : z_Rep G M H) {k t : Nat} (hk : zm_K M k = t + 1) : va_at (zg_D G) (zg_cl G) (zg_ad G k, z_cell G M t k) H := h.1 k _ (z_ws_at h hk)
theorem z_VVk {G : zG} {sc : Prop} {M : zM} {t k : Nat} (h : z_VV G sc M (.inr (.inr (t, some k)))) (ht : t < 30) : zm_K M k = t + 1 := by
  rcases h with h | h | h
  · exact h.2
  · exact absurd h.1 (by omega)
  · exact absurd h.1 (by omega)
theorem z_N {G : zG} {t : Nat} {C : String} {T : u_T} {N : Nat} (h : (zg_cl G)[t]? = some (C, T, N)) : zg_N G t = N := by
  unfold zg_N
  rw [h]
section ZStep
variable {p : Program} {l : Launch} {e : Env} {R : Room} {s : State} {m : MethodId} {args : Array Value} {below : List Frame} {meth : Method} {c : Code} {Q : State → Prop}
variable {α : Type} {T : zT} {P : zP} {G : zG} {XX : State → Prop} {next : Nat → List (Nat × zV) → List zV → zM → Option α} {out : α} {mid n0 s0 : Nat} {sc : Prop}
/-- the machine goes well from wherever the evaluator goes on to -/
def z_Nx (p : Program) (l : Launch) (e : Env) (R : Room) (s : State) (m : MethodId) (args : Array Value) (below : List Frame) (meth : Method) (c : Code) (Q : State → Prop) (T : zT) (G : zG) (next : Nat → List (Nat × zV) → List zV → zM → Option α) (out : α) (mid n0 s0 : Nat) (sc : Prop) : Prop :=
  ∀ (pc' : Nat) (ls' : List (Nat × zV)) (st' : List zV) (M' : zM) (H' : Heap) (locs' : List Loc) (cells' slots' : Nat) (lsA' : Array Slot), next pc' ls' st' M' = some out → z_St G s n0 s0 M' H' locs' cells' slots' → lv_has lsA' (zt_nL T mid) (z_cvl (zg_A G) ls') → (∀ q ∈ ls', z_VV G sc M' q.2) → (∀ v ∈ st', z_VV G sc M' v) →
    W p l e R s m args below meth c H' locs' cells' slots' Q (F0 m pc' lsA' (st'.map (z_cv (zg_A G))))
variable {pc : Nat} {ls : List (Nat × zV)} {M : zM} {H : Heap} {locs : List Loc} {cells slots : Nat} {lsA : Array Slot} {r : List zV}
/-- a cell written: the state behind it -/
theorem z_wrote {M' : zM} {H1 : Heap} {k t i : Nat} (hst : z_St G s n0 s0 M H locs cells slots) (hk : zm_K M k = t + 1) (hn : zm_n M' = zm_n M) (hs : zm_s M' = zm_s M) (hKK : zm_K M' = zm_K M) (ho : ∀ t' k', k' ≠ k → z_cell G M' t' k' = z_cell G M t' k') (hat : va_at (zg_D G) (zg_cl G) (zg_ad G k, z_cell G M' t k) H1) (hz : H1.size = H.size) (oq : ∀ q : Nat, q ≠ zg_ad G k → H1[q]? = H[q]?) (hR : ∀ k t j r, zm_K M k = t + 1 → zm_R M' t k j = some r → zg_isR G t j → zm_K M r = zg_rt G t j + 1) (hL : zm_L M' 90 0 = zm_L M 90 0) (hI : zm_I M' 90 0 = zm_I M 90 0) : z_St G s n0 s0 M' H1 (locs ++ [⟨zg_ad G k, i⟩]) cells slots := by
  obtain ⟨h1, h2, h3, h4⟩ := hst
  exact ⟨z_Rep_set h1 hk hn hKK ho hat hz oq hR hL hI, h2.put hz oq (z_base h1 (z_lt h1 hk)), by rw [hn]; exact h3, by rw [hs]; exact h4⟩
theorem z_goI {t k j : Nat} {v : Int32} {H1 : Heap} {i : Nat} (hst : z_St G s n0 s0 M H locs cells slots) (hk : zm_K M k = t + 1) (ht : t < 30) (hat : va_at (zg_D G) (zg_cl G) (zg_ad G k, z_cell G (zm_setI M t k j v) t k) H1) (hz : H1.size = H.size) (oq : ∀ q : Nat, q ≠ zg_ad G k → H1[q]? = H[q]?) : z_St G s n0 s0 (zm_setI M t k j v) H1 (locs ++ [⟨zg_ad G k, i⟩]) cells slots :=
  z_wrote hst hk rfl rfl rfl (fun t' k' hk' => z_cell_congr (z_I_other M t k j v (fun q => hk' q.2)) rfl rfl rfl) hat hz oq hst.1.2.2.2.2.1 rfl (z_I_other M t k j v (fun q => by omega))
theorem z_goJ {t k j : Nat} {v : Int64} {H1 : Heap} {i : Nat} (hst : z_St G s n0 s0 M H locs cells slots) (hk : zm_K M k = t + 1) (hat : va_at (zg_D G) (zg_cl G) (zg_ad G k, z_cell G (zm_setJ M t k j v) t k) H1) (hz : H1.size = H.size) (oq : ∀ q : Nat, q ≠ zg_ad G k → H1[q]? = H[q]?) : z_St G s n0 s0 (zm_setJ M t k j v) H1 (locs ++ [⟨zg_ad G k, i⟩]) cells slots :=
  z_wrote hst hk rfl rfl rfl (fun t' k' hk' => z_cell_congr rfl rfl (z_J_other M t k j v (fun q => hk' q.2)) rfl) hat hz oq hst.1.2.2.2.2.1 rfl rfl
theorem z_goR {t k j : Nat} {v : Option Nat} {H1 : Heap} {i : Nat} (hst : z_St G s n0 s0 M H locs cells slots) (hk : zm_K M k = t + 1) (hv : ∀ y, v = some y → zm_K M y = zg_rt G t j + 1) (hat : va_at (zg_D G) (zg_cl G) (zg_ad G k, z_cell G (zm_setR M t k j v) t k) H1) (hz : H1.size = H.size) (oq : ∀ q : Nat, q ≠ zg_ad G k → H1[q]? = H[q]?) : z_St G s n0 s0 (zm_setR M t k j v) H1 (locs ++ [⟨zg_ad G k, i⟩]) cells slots := by
  refine z_wrote hst hk rfl rfl rfl (fun t' k' hk' => z_cell_congr rfl (z_R_other M t k j v (fun q => hk' q.2)) rfl rfl) hat hz oq ?_ rfl rfl
  intro k' t' j' r h1 h2 h3
  rw [z_setR_at] at h2
  split at h2
  · rename_i q
    obtain ⟨e1, e2, e3⟩ := q
    rw [e1, e3]
    exact hv r h2
  · exact hst.1.2.2.2.2.1 k' t' j' r h1 h2 h3
/-- a new cell: the state behind it -/
theorem z_goN {t len sl : Nat} {H1 : Heap} (hst : z_St G s n0 s0 M H locs cells slots) (ht : t + 1 ≤ 26) (hcl : t + 1 ≤ 20 → ∃ q, (zg_cl G)[t]? = some q) (hbase : zg_base G ≤ s.heap.size) (hat : va_at (zg_D G) (zg_cl G) (H.size, z_cell G (zm_new M t len sl) t (zm_n M)) H1) (hz : H1.size = H.size + 1) (o1 : ∀ q : Nat, q < H.size → H1[q]? = H[q]?) : z_St G s n0 s0 (zm_new M t len sl) H1 locs (cells + 1) (slots + sl) := by
  obtain ⟨h1, h2, h3, h4⟩ := hst
  refine ⟨z_Rep_new h1 ht hcl (Nat.le_trans hbase h2.1) hat hz o1, ⟨Nat.le_trans h2.1 (by omega), fun q g1 g2 => by rw [o1 q (Nat.lt_of_lt_of_le g1 h2.1)]; exact h2.2.1 q g1 g2, h2.2.2⟩, ?_, ?_⟩
  · show cells + 1 + n0 = zm_n M + 1
    omega
  · show slots + sl + s0 = zm_s M + sl
    omega
theorem z_VVnew {t len sl : Nat} {v : zV} (hRep : z_Rep G M H) (h : z_VV G sc M v) : z_VV G sc (zm_new M t len sl) v := h.mono (z_le_new M t len sl ((hRep.2.2.1 _ (Nat.le_refl _)).2)).2.2
theorem z_VVat (G : zG) (sc : Prop) (M : zM) {t len sl : Nat} (ht : t < 30) : z_VV G sc (zm_new M t len sl) (.inr (.inr (t, some (zm_n M)))) := Or.inl ⟨ht, if_pos rfl⟩
end ZStep
