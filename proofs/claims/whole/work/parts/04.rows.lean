/-! ROWS that write or make a cell, with what they leave as it was -/
section ZRows
variable {p : Program} {l : Launch} {e : Env} {R : Room} {s : State} {m : MethodId} {args : Array Value} {below : List Frame} {meth : Method} {c : Code} {H : Heap} {locs : List Loc} {cells slots : Nat} {Q : State → Prop}
variable {cc : ByteArray} {pc : Nat} {lsA : Array Slot} {rest : List Value} {D : va_G} {cl : List vw_C} {tys : List (ClassId × FieldType)} {GW : List Cond} {a : Nat}
/-- a field is written: its cell is new, all others are as they were -/
theorem z_rput (hx : p.tables.exec = Jvm.exec) (hb : c.code = cc) (hts : ∀ w ∈ GW, w.before args s = true) (hK : va_K D cl tys s) {own C : String} {T : u_T} {N t index : Nat} (hcl : cl[t]? = some (C, T, N)) (hin : ∀ w ∈ u_ws C T N, w ∈ GW) (ty0 : Nat → FieldType) (hty : ∀ k, k < N → parseFieldDescriptor (T k).2.2.1 = some (ty0 k)) (hnm : ∀ x, x < N → ∀ y, y < N → x ≠ y → (T x).2.1 ≠ (T y).2.1) (hown : s.vm.findClass own = some m.cls) {fs : List Value} (hat : va_at D cl (a, .inr (t, fs)) H) {j : Nat} (hj : j < N) (hlink : (Cond.fieldLink own index (T j).1 (T j).2.1 (T j).2.2.1).before args s = true) (hfin : (T j).2.2.2 = false ∨ ((T j).2.2.2 = true ∧ meth.name = "<init>" ∧ (T j).1 = own)) {v : Value} (hn : narrow (ty0 j) v = v) (hfit : fits (ty0 j) v = true) (hl : j < fs.length) (hdg : decode cc pc = .ok (.putfield index, 3))
    (kk : ∀ (H1 : Heap) (i : Nat), va_at D cl (a, .inr (t, fs.set j v)) H1 → H1.size = H.size → (∀ q : Nat, q ≠ a → H1[q]? = H[q]?) → W p l e R s m args below meth c H1 (locs ++ [⟨a, i⟩]) cells slots Q (F0 m (pc + 3) lsA rest)) : W p l e R s m args below meth c H locs cells slots Q (F0 m pc lsA (v :: .ref a :: rest)) := by
  have apart := va_apart (own := own) hts hin ty0 hty hnm hK hcl
  obtain ⟨r, er, cell, g1, g2, g3, g4⟩ := hat
  have er' : r = (C, T, N) := Option.some.inj (er.symm.trans hcl)
  subst er'
  obtain ⟨known, found, kC, hkC, ordinary⟩ := hK.1 t _ hcl
  obtain ⟨cf, kf, fi, f, hi, slot⟩ := known j hj
  have lays := u_lays hts hin hj
  have static := (u_facts found hkC lays hi).1
  have room : f.slot < cell.slots.size := by rw [slot]; exact k2_hasslot (g4 j hj)
  have done : ∀ H' : Heap, H'[a]? = some (cell.setSlot f.slot v) → va_at D cl (a, .inr (t, fs.set j v)) H' := by
    intro H' e1
    rw [slot] at e1
    exact ⟨_, hcl, t_OB.to (V := updV (vp_V fs) j v) ⟨_, e1, g2, g3, t_set g4 apart hj v⟩ (fun i _ => vp_updV_set hl v i)⟩
  have fit := u_fits found hkC ordinary lays hi (hty j hj) hn hfit
  have word := hts _ (hin _ (u_in_lay hj))
  unfold u_lay at word
  rcases hfin with hf | ⟨hf, hname, hdecl⟩
  · rw [if_neg (by rw [hf]; decide)] at word
    have store := u_store found hkC ordinary word hi (hty j hj) hn hfit
    exact W.putK hx hb (f := f) ⟨hown, hlink, ⟨_, _, _, hi⟩, static⟩ (by rw [g2]; exact store) g1 g3 room rfl rfl hdg fun H' e1 e2 e3 => kk H' _ (done H' e1) e2 e3
  · rw [if_pos hf] at word
    have hcf : m.cls = cf := by
      obtain ⟨_, _, c', _, _, _, -, -, hf', -, -, -, hown2, -⟩ := Cond.laysFinal_spec word
      have e1 : c' = cf := by have := hi.symm.trans hf'; simp at this; exact this.1.symm
      rw [hdecl] at hown2
      rw [← e1]; exact Option.some.inj (hown.symm.trans hown2)
    exact W.putFinK hx hb hown hlink hi static hcf hname (by rw [g2]; exact fit) g1 g3 room rfl rfl hdg fun H' e1 e2 e3 => kk H' _ (done H' e1) e2 e3
theorem z_arr {cA : ClassId} {ty : FieldType} (h : ArrOfT s cA ty) (n : Nat) (f : Nat → Value) : s.isArrayOf (arrV cA n f) ty := h n f
theorem z_arrin {cA : ClassId} {n : Nat} {f : Nat → Value} {i : Int32} (h : vp_in i n) : ¬ (i < 0 ∨ (arrV cA n f).slots.size ≤ i.toNatClampNeg) := by
  rw [arrV_size]; exact h
theorem z_updV {α : Type} (mk : α → Value) (f : Nat → α) (i : Nat) (v : α) : updV (fun j => mk (f j)) i (mk v) = fun j => mk (if j = i then v else f j) := by
  funext q
  by_cases hq : q = i
  · subst hq; simp [updV]
  · simp [updV, hq]
theorem z_riast (hx : p.tables.exec = Jvm.exec) (hb : c.code = cc) {cA : ClassId} (hA : ArrOfT s cA .int) {n : Nat} {f : Nat → Int32} (hat : va_at D cl (a, .inl (cA, n, .inl f)) H) {i v : Int32} (hin : vp_in i n) (hdg : decode cc pc = .ok (.iastore, 1))
    (kk : ∀ (H1 : Heap) (j : Nat), va_at D cl (a, .inl (cA, n, .inl (upd f i.toNatClampNeg v))) H1 → H1.size = H.size → (∀ q : Nat, q ≠ a → H1[q]? = H[q]?) → W p l e R s m args below meth c H1 (locs ++ [⟨a, j⟩]) cells slots Q (F0 m (pc + 1) lsA rest)) : W p l e R s m args below meth c H locs cells slots Q (F0 m pc lsA (.int v :: .int i :: .ref a :: rest)) := by
  refine W.iast hx hb hat (z_arr hA _ _) (fun q => by cases q) (z_arrin hin) rfl rfl hdg fun H1 e1 e2 e3 => kk H1 _ ?_ e2 e3
  show H1[a]? = some (vp_cell _ _)
  rw [e1, vp_cell_i, vp_cell_i, arrV_store, z_updV]; rfl
theorem z_rbast (hx : p.tables.exec = Jvm.exec) (hb : c.code = cc) {cA : ClassId} (hA : ArrOfT s cA .byte) {n : Nat} {f : Nat → Int32} (hat : va_at D cl (a, .inl (cA, n, .inl f)) H) {i v : Int32} (hin : vp_in i n) (hdg : decode cc pc = .ok (.bastore, 1))
    (kk : ∀ (H1 : Heap) (j : Nat), va_at D cl (a, .inl (cA, n, .inl (upd f i.toNatClampNeg v.toInt8.toInt32))) H1 → H1.size = H.size → (∀ q : Nat, q ≠ a → H1[q]? = H[q]?) → W p l e R s m args below meth c H1 (locs ++ [⟨a, j⟩]) cells slots Q (F0 m (pc + 1) lsA rest)) : W p l e R s m args below meth c H locs cells slots Q (F0 m pc lsA (.int v :: .int i :: .ref a :: rest)) := by
  refine W.bast hx hb hat (z_arr hA _ _) (fun q => by cases q) (z_arrin hin) rfl rfl hdg fun H1 e1 e2 e3 => kk H1 _ ?_ e2 e3
  show H1[a]? = some (vp_cell _ _)
  rw [e1, vp_cell_i, vp_cell_i, arrV_store]
  show some (arrV _ _ (updV _ _ (.int (v.toInt8.toInt32)))) = _
  rw [z_updV]; rfl
theorem z_rlast (hx : p.tables.exec = Jvm.exec) (hb : c.code = cc) {cA : ClassId} (hA : ArrOfT s cA .long) {n : Nat} {f : Nat → Int64} (hat : va_at D cl (a, .inl (cA, n, .inr (.inl f))) H) {i : Int32} {v : Int64} (hin : vp_in i n) (hdg : decode cc pc = .ok (.lastore, 1))
    (kk : ∀ (H1 : Heap) (j : Nat), va_at D cl (a, .inl (cA, n, .inr (.inl (vp_updL f i.toNatClampNeg v)))) H1 → H1.size = H.size → (∀ q : Nat, q ≠ a → H1[q]? = H[q]?) → W p l e R s m args below meth c H1 (locs ++ [⟨a, j⟩]) cells slots Q (F0 m (pc + 1) lsA rest)) : W p l e R s m args below meth c H locs cells slots Q (F0 m pc lsA (.long v :: .int i :: .ref a :: rest)) := by
  refine W.last hx hb hat (z_arr hA _ _) (fun q => by cases q) (z_arrin hin) rfl rfl hdg fun H1 e1 e2 e3 => kk H1 _ ?_ e2 e3
  show H1[a]? = some (vp_cell _ _)
  rw [e1, vp_cell_l, vp_cell_l, arrV_store, z_updV]; rfl
/-- a reference, or null, into an array of references -/
theorem z_raast (hx : p.tables.exec = Jvm.exec) (hb : c.code = cc) (hK : va_K D cl tys s) {cA : ClassId} {ci : Nat} {r : vw_C} (hA : ArrOfT s cA (.object r.1)) (hRA : va_RA s cA (.object r.1)) {n : Nat} {f : Nat → Option Nat} (hat : va_at D cl (a, .inl (cA, n, .inr (.inr (.inr (.inr f))))) H) (hcl : cl[ci]? = some r) {v : Option Nat} (hv : ∀ y, v = some y → ∃ vs, va_at D cl (y, .inr (ci, vs)) H) {i : Int32} (hin : vp_in i n) (hdg : decode cc pc = .ok (.aastore, 1))
    (kk : ∀ (H1 : Heap) (j : Nat), va_at D cl (a, .inl (cA, n, .inr (.inr (.inr (.inr (va_up f i.toNatClampNeg v)))))) H1 → H1.size = H.size → (∀ q : Nat, q ≠ a → H1[q]? = H[q]?) → W p l e R s m args below meth c H1 (locs ++ [⟨a, j⟩]) cells slots Q (F0 m (pc + 1) lsA rest)) : W p l e R s m args below meth c H locs cells slots Q (F0 m pc lsA (va_rf v :: .int i :: .ref a :: rest)) := by
  have fin : ∀ H1 : Heap, H1[a]? = some ((vp_cell cA (n, .inr (.inr (.inr (.inr f))))).setSlot i.toNatClampNeg (va_rf v)) → va_at D cl (a, .inl (cA, n, .inr (.inr (.inr (.inr (va_up f i.toNatClampNeg v)))))) H1 := by
    intro H1 e1
    show H1[a]? = some (vp_cell _ _)
    rw [e1, vp_cell_q, vp_cell_q, arrV_store, z_updV]; rfl
  cases v with
  | none => exact va_WaastN (C := r.1) hx hb hat (z_arr hA _ _) (fun q => by cases q) (z_arrin hin) rfl rfl hdg fun H1 e1 e2 e3 => kk H1 _ (fin H1 e1) e2 e3
  | some y =>
    obtain ⟨vs, r', hr', cellV, g1, g2, g3, -⟩ := hv y rfl
    have known := (hK.1 ci r hcl).2
    obtain ⟨kA, comp, k1, k2, k3, -⟩ := hRA
    have ec : comp = D.1 ci := Option.some.inj (k3.symm.trans known.1)
    subst ec
    obtain ⟨kC, hkC, -⟩ := known.2
    exact W.aast hx hb hat (fun q h => by cases h) (fun h => by cases h) k1 k2 rfl hkC ⟨fun q => hin (Or.inl q), by show _ < (arrV _ _ _).slots.size; rw [arrV_size]; exact Nat.not_le.mp fun q => hin (Or.inr q)⟩ g1 (fun q h => by rw [g3] at h; cases h) (by rw [g2]; exact hkC) (by rw [g2]; exact va_assign known) rfl rfl hdg fun H1 e1 e2 e3 => kk H1 _ (fin H1 e1) e2 e3
end ZRows
/-- memory with one cell written -/
theorem z_Rep_set {G : zG} {M M' : zM} {H H1 : Heap} {k t : Nat} (h : z_Rep G M H) (hk : zm_K M k = t + 1) (hn : zm_n M' = zm_n M) (hKK : zm_K M' = zm_K M) (ho : ∀ t' k', k' ≠ k → z_cell G M' t' k' = z_cell G M t' k') (hat : va_at (zg_D G) (zg_cl G) (zg_ad G k, z_cell G M' t k) H1) (hz : H1.size = H.size) (oq : ∀ q : Nat, q ≠ zg_ad G k → H1[q]? = H[q]?) (hR : ∀ k t j r, zm_K M k = t + 1 → zm_R M' t k j = some r → zg_isR G t j → zm_K M r = zg_rt G t j + 1) (hL : zm_L M' 90 0 = zm_L M 90 0) (hI : zm_I M' 90 0 = zm_I M 90 0) : z_Rep G M' H1 := by
  have hlt := z_lt h hk
  have hws : (z_ws G M).set k (zg_ad G k, z_cell G M' t k) = z_ws G M' := z_ws_set hlt hn hKK (fun k' hk' => ho _ k' hk') (by rw [hk]; rfl)
  refine ⟨?_, ?_, ?_, ?_, ?_, ?_, ?_⟩
  · rw [← hws]
    exact h.1.set h.2.1 (z_ws_at h hk) hat oq
  · rw [← hws]
    exact h.2.1.set (z_ws_at h hk)
  · intro k' hk'
    rw [hn] at hk' ⊢
    rw [hz, hKK]
    exact h.2.2.1 k' hk'
  · intro k' hk'
    rw [hn] at hk'
    rw [hKK]
    exact h.2.2.2.1 k' hk'
  · intro k' t' j r h1 h2 h3
    rw [hKK] at h1 ⊢
    exact hR k' t' j r h1 h2 h3
  · rw [hL]; exact h.2.2.2.2.2.1
  · rw [hI]; exact h.2.2.2.2.2.2
