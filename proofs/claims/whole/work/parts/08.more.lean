/-! MORE INSTRUCTIONS: lengths, new cells, constants, branches, the library's own calls -/
section ZInstr2
variable {p : Program} {l : Launch} {e : Env} {R : Room} {s : State} {m : MethodId} {args : Array Value} {below : List Frame} {meth : Method} {c : Code} {Q : State → Prop}
variable {α : Type} {T : zT} {P : zP} {G : zG} {XX : State → Prop} {next : Nat → List (Nat × zV) → List zV → zM → Option α} {out : α} {mid n0 s0 : Nat} {sc : Prop}
variable {pc : Nat} {ls : List (Nat × zV)} {M : zM} {H : Heap} {locs : List Loc} {cells slots : Nat} {lsA : Array Slot} {r st : List zV}
theorem zi_alen (hok : z_ok T P G) (hF : z_Fr T P G XX p s m args meth c mid sc) (hst : z_St G s n0 s0 M H locs cells slots) (hl : lv_has lsA (zt_nL T mid) (z_cvl (zg_A G) ls)) (hvl : ∀ q ∈ ls, z_VV G sc M q.2) (hnx : z_Nx p l e R s m args below meth c Q T G next out mid n0 s0 sc) {t k : Nat} (hd : decode (zp_B P mid) pc = .ok (.arraylength, 1)) (ht : (20 ≤ t ∧ t < 26) ∨ t = 90) (hvs : ∀ w ∈ (.inr (.inr (t, some k)) :: r : List zV), z_VV G sc M w) (hn : next (pc + 1) ls (.inl (Int32.ofNat (zm_L M t k)) :: r) M = some out)
    : W p l e R s m args below meth c H locs cells slots Q (F0 m pc lsA ((.inr (.inr (t, some k)) :: r : List zV).map (z_cv (zg_A G)))) := by
  obtain ⟨hx, hb, hml, hown, hts, hKK, hbase, hname, hsc⟩ := id hF
  have go := hnx _ _ _ _ _ _ _ _ _ hn hst hl hvl (z_cons trivial (z_tl hvs))
  by_cases h90 : t = 90
  · subst h90
    rcases (z_hd hvs : z_VV G sc M (.inr (.inr (90, some k)))) with h | ⟨-, h, rfl⟩ | h
    · exact absurd h.1 (by omega)
    · obtain ⟨hX, hbl, hbb⟩ := hsc h
      rw [hst.1.2.2.2.2.2.1] at go
      exact va_slen hx hb hX hbl (fun q => absurd hbb (Nat.not_lt.mpr q)) hst.2.1 hd go
    · exact absurd h.1 (by omega)
  · have hk := z_VVk (z_hd hvs) (by omega)
    show W p l e R s m args below meth c H locs cells slots Q (F0 m pc lsA (.ref (zg_A G t k) :: r.map (z_cv (zg_A G))))
    rw [zg_A_ad G (by omega)]
    have he := z_ws_at hst.1 hk
    have hcase : t = 20 ∨ t = 21 ∨ t = 22 ∨ t = 23 ∨ t = 24 ∨ t = 25 := by omega
    rcases hcase with rfl | rfl | rfl | rfl | rfl | rfl
    · rw [z_cell_i G M (by omega)] at he
      exact va_alen hx hb hKK.1 hst.1.1 k 0 he rfl rfl hd go
    · rw [z_cell_i G M (by omega)] at he
      exact va_alen hx hb hKK.1 hst.1.1 k 1 he rfl rfl hd go
    · rw [z_cell_i G M (by omega)] at he
      exact va_alen hx hb hKK.1 hst.1.1 k 2 he rfl rfl hd go
    · rw [z_cell_l G M] at he
      exact va_alen hx hb hKK.1 hst.1.1 k 3 he rfl rfl hd go
    · rw [z_cell_r G M (by omega)] at he
      exact va_alen hx hb hKK.1 hst.1.1 k 4 he rfl rfl hd go
    · rw [z_cell_r G M (by omega)] at he
      exact va_alen hx hb hKK.1 hst.1.1 k 5 he rfl rfl hd go
theorem zi_newa (hok : z_ok T P G) (hF : z_Fr T P G XX p s m args meth c mid sc) (hst : z_St G s n0 s0 M H locs cells slots) (hl : lv_has lsA (zt_nL T mid) (z_cvl (zg_A G) ls)) (hvl : ∀ q ∈ ls, z_VV G sc M q.2) (hnx : z_Nx p l e R s m args below meth c Q T G next out mid n0 s0 sc) (hroom : ∀ pc' ls' st' M', next pc' ls' st' M' = some out → zm_n M' ≤ R.cells + n0 ∧ zm_s M' ≤ R.slots + s0) {a : ArrayType} {n : Int32} {t : Nat} (hd : decode (zp_B P mid) pc = .ok (.newarray a, 2)) (ha : (a = .int ∧ (t = 20 ∨ t = 21)) ∨ (a = .byte ∧ t = 22) ∨ (a = .long ∧ t = 23)) (h0 : ¬ (n < 0 ∨ 100000 < n.toNatClampNeg)) (hvs : ∀ w ∈ (.inl n :: r : List zV), z_VV G sc M w) (hn : next (pc + 2) ls (.inr (.inr (t, some (zm_n M))) :: r) (zm_new M t n.toNatClampNeg n.toNatClampNeg) = some out)
    : W p l e R s m args below meth c H locs cells slots Q (F0 m pc lsA ((.inl n :: r : List zV).map (z_cv (zg_A G)))) := by
  obtain ⟨hx, hb, hml, hown, hts, hKK, hbase, hname, hsc⟩ := id hF
  obtain ⟨hr1, hr2⟩ := hroom _ _ _ _ hn
  have hr1 : zm_n M + 1 ≤ R.cells + n0 := hr1
  have hr2 : zm_s M + n.toNatClampNeg ≤ R.slots + s0 := hr2
  have hc1 := hst.2.2.1
  have hc2 := hst.2.2.2
  have ht : t = 20 ∨ t = 21 ∨ t = 22 ∨ t = 23 := by omega
  have had : zg_ad G (zm_n M) = H.size := by have := (hst.1.2.2.1 (zm_n M) (Nat.le_refl _)).1; omega
  have hneg : ¬ n < 0 := fun q => h0 (Or.inl q)
  have hbig : n.toNatClampNeg ≤ 100000 := Nat.not_lt.mp fun q => h0 (Or.inr q)
  have harr : (Cond.arrayClass (newarray.typeOf a)).before args s = true := by
    rcases ha with ⟨rfl, -⟩ | ⟨rfl, -⟩ | ⟨rfl, -⟩
    · exact hts _ hok.1.2.1
    · exact hts _ hok.1.2.2.1
    · exact hts _ hok.1.2.2.2.1
  refine va_newaK (g := F0 m pc lsA (.int n :: r.map (z_cv (zg_A G)))) hx hb harr rfl hd rfl hneg rfl (by rcases ha with ⟨rfl, -⟩ | ⟨rfl, -⟩ | ⟨rfl, -⟩ <;> simp only [newarray.typeOf, componentBytes] <;> omega) (by omega) (by omega) rfl fun H1 cA e1 z1 o1 hAr hNm => ?_
  have hcA : cA = zg_cA G t := by
    rcases ha with ⟨rfl, rfl | rfl⟩ | ⟨rfl, rfl⟩ | ⟨rfl, rfl⟩
    · exact Option.some.inj (hNm.symm.trans (hKK.1.2 0 _ rfl).2)
    · exact Option.some.inj (hNm.symm.trans (hKK.1.2 1 _ rfl).2)
    · exact Option.some.inj (hNm.symm.trans (hKK.1.2 2 _ rfl).2)
    · exact Option.some.inj (hNm.symm.trans (hKK.1.2 3 _ rfl).2)
  subst hcA
  have hL : zm_L (zm_new M t n.toNatClampNeg n.toNatClampNeg) t (zm_n M) = n.toNatClampNeg := if_pos ⟨rfl, rfl⟩
  have hI : zm_I (zm_new M t n.toNatClampNeg n.toNatClampNeg) t (zm_n M) = fun _ => 0 := by funext j; exact if_pos ⟨rfl, rfl⟩
  have hJ : zm_J (zm_new M t n.toNatClampNeg n.toNatClampNeg) t (zm_n M) = fun _ => 0 := by funext j; exact if_pos ⟨rfl, rfl⟩
  have hat : va_at (zg_D G) (zg_cl G) (H.size, z_cell G (zm_new M t n.toNatClampNeg n.toNatClampNeg) t (zm_n M)) H1 := by
    rcases ha with ⟨rfl, rfl | rfl⟩ | ⟨rfl, rfl⟩ | ⟨rfl, rfl⟩
    · rw [z_cell_i G _ (by omega), hL, hI]; exact e1
    · rw [z_cell_i G _ (by omega), hL, hI]; exact e1
    · rw [z_cell_i G _ (by omega), hL, hI]; exact e1
    · rw [z_cell_l G, hL, hJ]; exact e1
  have go := hnx _ _ _ _ _ _ _ _ _ hn (z_goN hst (by omega) (by omega) hbase hat z1 o1) hl (fun q hq => z_VVnew hst.1 (hvl q hq)) (z_cons (z_VVat G sc M (by omega)) (fun w hw => z_VVnew hst.1 (z_tl hvs w hw)))
  rw [List.map_cons] at go
  have e9 : z_cv (zg_A G) (.inr (.inr (t, some (zm_n M)))) = .ref H.size := by
    show Value.ref (zg_A G t (zm_n M)) = _
    rw [zg_A_ad G (by omega), had]
  rw [e9] at go
  exact go
theorem zi_new (hok : z_ok T P G) (hF : z_Fr T P G XX p s m args meth c mid sc) (hst : z_St G s n0 s0 M H locs cells slots) (hl : lv_has lsA (zt_nL T mid) (z_cvl (zg_A G) ls)) (hvl : ∀ q ∈ ls, z_VV G sc M q.2) (hnx : z_Nx p l e R s m args below meth c Q T G next out mid n0 s0 sc) (hroom : ∀ pc' ls' st' M', next pc' ls' st' M' = some out → zm_n M' ≤ R.cells + n0 ∧ zm_s M' ≤ R.slots + s0) {idx t N : Nat} (hd : decode (zp_B P mid) pc = .ok (.new idx, 3)) (hf : zt_neu T mid idx = some (t, N)) (hvs : ∀ w ∈ st, z_VV G sc M w) (hn : next (pc + 3) ls (.inr (.inr (t, some (zm_n M))) :: st) (zm_new M t 0 N) = some out)
    : W p l e R s m args below meth c H locs cells slots Q (F0 m pc lsA ((st : List zV).map (z_cv (zg_A G)))) := by
  obtain ⟨hx, hb, hml, hown, hts, hKK, hbase, hname, hsc⟩ := id hF
  obtain ⟨C, Tt, hcl, hw1, hw2, hw3⟩ := hok.2.2.2.2.2.1 mid idx t N hf
  obtain ⟨ht, hin, hnm, ty0, hty, hkind⟩ := hok.1.2.2.2.2.1 t C Tt N hcl
  obtain ⟨hr1, hr2⟩ := hroom _ _ _ _ hn
  have hr1 : zm_n M + 1 ≤ R.cells + n0 := hr1
  have hr2 : zm_s M + N ≤ R.slots + s0 := hr2
  have hc1 := hst.2.2.1
  have hc2 := hst.2.2.2
  have had : zg_ad G (zm_n M) = H.size := by have := (hst.1.2.2.1 (zm_n M) (Nat.le_refl _)).1; omega
  have hKn := hKK.1.1 t _ hcl
  refine W.newcK (g := F0 m pc lsA (st.map (z_cv (zg_A G)))) hx hb hown (hts _ hw1) (hts _ hw2) (hts _ hw3) rfl hd (by omega) (by omega) hKn.2.1 rfl fun H1 kC hkC e1 z1 o1 => ?_
  have hat : va_at (zg_D G) (zg_cl G) (H.size, z_cell G (zm_new M t 0 N) t (zm_n M)) H1 := by
    rw [z_cell_o G _ ht]
    refine ⟨_, hcl, (u_born ty0 hts hin hKn hkC e1 hty).to fun j hj => ?_⟩
    have e8 : vp_V (z_fs G (zm_new M t 0 N) t (zm_n M)) j = z_cv (zg_A G) (ez_fv (zg_fk G t j) (zm_new M t 0 N) t (zm_n M) j) := by
      unfold vp_V
      rw [List.getD_eq_getElem?_getD, z_fs_get G _ t _ (by rw [z_N hcl]; exact hj)]
      rfl
    rw [e8]
    have hI : zm_I (zm_new M t 0 N) t (zm_n M) j = 0 := if_pos ⟨rfl, rfl⟩
    have hR : zm_R (zm_new M t 0 N) t (zm_n M) j = none := if_pos ⟨rfl, rfl⟩
    rcases hkind j hj with ⟨k0, k1⟩ | ⟨k0, k1⟩ | ⟨f, k0, -, k1⟩
    · rw [k0, k1]; show _ = Value.int _; rw [hI]; rfl
    · rw [k0, k1]; show _ = Value.int _; rw [hI]; rfl
    · rw [k0]
      show _ = z_cv (zg_A G) (.inr (.inr (f, _)))
      rw [hR]
      rcases k1 with ⟨n, k1⟩ | ⟨u, k1⟩ <;> rw [k1] <;> rfl
  have go := hnx _ _ _ _ _ _ _ _ _ hn (z_goN hst (by omega) (fun _ => ⟨_, hcl⟩) hbase hat z1 o1) hl (fun q hq => z_VVnew hst.1 (hvl q hq)) (z_cons (z_VVat G sc M (by omega)) (fun w hw => z_VVnew hst.1 (hvs w hw)))
  rw [List.map_cons] at go
  have e9 : z_cv (zg_A G) (.inr (.inr (t, some (zm_n M)))) = .ref H.size := by
    show Value.ref (zg_A G t (zm_n M)) = _
    rw [zg_A_ad G (by omega), had]
  rw [e9] at go
  exact go
theorem zi_anew (hok : z_ok T P G) (hF : z_Fr T P G XX p s m args meth c mid sc) (hst : z_St G s n0 s0 M H locs cells slots) (hl : lv_has lsA (zt_nL T mid) (z_cvl (zg_A G) ls)) (hvl : ∀ q ∈ ls, z_VV G sc M q.2) (hnx : z_Nx p l e R s m args below meth c Q T G next out mid n0 s0 sc) (hroom : ∀ pc' ls' st' M', next pc' ls' st' M' = some out → zm_n M' ≤ R.cells + n0 ∧ zm_s M' ≤ R.slots + s0) {idx t : Nat} {n : Int32} (hd : decode (zp_B P mid) pc = .ok (.anewarray idx, 3)) (hf : zt_anw T mid idx = some t) (h0 : ¬ (n < 0 ∨ 100000 < n.toNatClampNeg)) (hvs : ∀ w ∈ (.inl n :: r : List zV), z_VV G sc M w) (hn : next (pc + 3) ls (.inr (.inr (t, some (zm_n M))) :: r) (zm_new M t n.toNatClampNeg n.toNatClampNeg) = some out)
    : W p l e R s m args below meth c H locs cells slots Q (F0 m pc lsA ((.inl n :: r : List zV).map (z_cv (zg_A G)))) := by
  obtain ⟨hx, hb, hml, hown, hts, hKK, hbase, hname, hsc⟩ := id hF
  obtain ⟨hr1, hr2⟩ := hroom _ _ _ _ hn
  have hr1 : zm_n M + 1 ≤ R.cells + n0 := hr1
  have hr2 : zm_s M + n.toNatClampNeg ≤ R.slots + s0 := hr2
  have hc1 := hst.2.2.1
  have hc2 := hst.2.2.2
  have had : zg_ad G (zm_n M) = H.size := by have := (hst.1.2.2.1 (zm_n M) (Nat.le_refl _)).1; omega
  have hneg : ¬ n < 0 := fun q => h0 (Or.inl q)
  have hbig : n.toNatClampNeg ≤ 100000 := Nat.not_lt.mp fun q => h0 (Or.inr q)
  have hw := hok.2.2.2.2.2.2.1 mid idx t hf
  have ht : t = 24 ∨ t = 25 := hw.elim (fun q => Or.inl q.1) (fun q => Or.inr q.1)
  obtain ⟨C, hlink, hover, hRA⟩ : ∃ C : String, (Cond.classLink (zp_Y P mid).cls idx C).before args s = true ∧ va_AO C s ∧ va_RA s (zg_cA G t) (.object C) := by
    rcases hw with ⟨rfl, h⟩ | ⟨rfl, h⟩
    · exact ⟨_, hts _ h, hKK.2.1, (hKK.1.2 4 _ rfl).2⟩
    · exact ⟨_, hts _ h, hKK.2.2.1, (hKK.1.2 5 _ rfl).2⟩
  refine W.anew (g := F0 m pc lsA (.int n :: r.map (z_cv (zg_A G)))) hx hb hown hlink (va_AO.use hover) rfl hd rfl hneg (by omega) (by omega) (by omega) fun cA kA comp f1 f2 f3 f4 => ?_
  obtain ⟨kA', comp', -, -, -, k4⟩ := hRA
  have hcA : cA = zg_cA G t := Option.some.inj (f1.symm.trans k4)
  subst hcA
  generalize hH1 : H.push ({ cls := zg_cA G t, slots := Array.replicate n.toNatClampNeg .null, vm := .none } : Cell) = H1
  have z1 : H1.size = H.size + 1 := by rw [← hH1, Array.size_push]
  have e1 : H1[H.size]? = some (arrV (zg_cA G t) n.toNatClampNeg (fun _ => .null)) := by rw [← hH1, Array.getElem?_push_size, ← arrV_new]
  have o1 : ∀ q : Nat, q < H.size → H1[q]? = H[q]? := fun q hq => by rw [← hH1, Array.getElem?_push, if_neg (Nat.ne_of_lt hq)]
  have hL : zm_L (zm_new M t n.toNatClampNeg n.toNatClampNeg) t (zm_n M) = n.toNatClampNeg := if_pos ⟨rfl, rfl⟩
  have hR : zm_R (zm_new M t n.toNatClampNeg n.toNatClampNeg) t (zm_n M) = fun _ => none := by funext j; exact if_pos ⟨rfl, rfl⟩
  have hat : va_at (zg_D G) (zg_cl G) (H.size, z_cell G (zm_new M t n.toNatClampNeg n.toNatClampNeg) t (zm_n M)) H1 := by
    rw [z_cell_r G _ ht, hL, hR]
    exact e1
  have go := hnx _ _ _ _ _ _ _ _ _ hn (z_goN hst (by omega) (by omega) hbase hat z1 o1) hl (fun q hq => z_VVnew hst.1 (hvl q hq)) (z_cons (z_VVat G sc M (by omega)) (fun w hw => z_VVnew hst.1 (z_tl hvs w hw)))
  rw [List.map_cons] at go
  have e9 : z_cv (zg_A G) (.inr (.inr (t, some (zm_n M)))) = .ref H.size := by
    show Value.ref (zg_A G t (zm_n M)) = _
    rw [zg_A_ad G (by omega), had]
  rw [e9] at go
  exact go
theorem zi_text (hok : z_ok T P G) (hF : z_Fr T P G XX p s m args meth c mid sc) (hst : z_St G s n0 s0 M H locs cells slots) (hl : lv_has lsA (zt_nL T mid) (z_cvl (zg_A G) ls)) (hvl : ∀ q ∈ ls, z_VV G sc M q.2) (hnx : z_Nx p l e R s m args below meth c Q T G next out mid n0 s0 sc) {idx j : Nat} {v : Int32} {w : Int64} (hd : decode (zp_B P mid) pc = .ok (.ldc idx, 2)) (hf : zt_con T mid idx = some (2, j, v, w)) (hvs : ∀ w ∈ st, z_VV G sc M w) (hn : next (pc + 2) ls (.inr (.inr (91, some j)) :: st) M = some out)
    : W p l e R s m args below meth c H locs cells slots Q (F0 m pc lsA ((st : List zV).map (z_cv (zg_A G)))) := by
  obtain ⟨hx, hb, hml, hown, hts, hKK, hbase, hname, hsc⟩ := id hF
  obtain ⟨hj, tx, hs⟩ := hok.2.2.2.2.2.2.2.2.2.1 mid idx j v w hf
  exact va_ldcS hx hb hown (hKK.2.2.2.2.1 _ hs) hd (hnx _ _ _ _ _ _ _ _ _ hn hst hl hvl (z_cons (Or.inr (Or.inr ⟨rfl, hj⟩)) hvs))
theorem zi_textw (hok : z_ok T P G) (hF : z_Fr T P G XX p s m args meth c mid sc) (hst : z_St G s n0 s0 M H locs cells slots) (hl : lv_has lsA (zt_nL T mid) (z_cvl (zg_A G) ls)) (hvl : ∀ q ∈ ls, z_VV G sc M q.2) (hnx : z_Nx p l e R s m args below meth c Q T G next out mid n0 s0 sc) {idx j : Nat} {v : Int32} {w : Int64} (hd : decode (zp_B P mid) pc = .ok (.ldc_w idx, 3)) (hf : zt_con T mid idx = some (2, j, v, w)) (hvs : ∀ w ∈ st, z_VV G sc M w) (hn : next (pc + 3) ls (.inr (.inr (91, some j)) :: st) M = some out)
    : W p l e R s m args below meth c H locs cells slots Q (F0 m pc lsA ((st : List zV).map (z_cv (zg_A G)))) := by
  obtain ⟨hx, hb, hml, hown, hts, hKK, hbase, hname, hsc⟩ := id hF
  obtain ⟨hj, tx, hs⟩ := hok.2.2.2.2.2.2.2.2.2.1 mid idx j v w hf
  have go := hnx _ _ _ _ _ _ _ _ _ hn hst hl hvl (z_cons (Or.inr (Or.inr ⟨rfl, hj⟩)) hvs)
  intro U hU X
  obtain ⟨t, a1, b1⟩ := go U hU X
  have hZ := hKK.2.2.2.2.1 _ hs
  exact ⟨t, X.ldcStringW hx hown (text := tx) (a := zg_sa G j) hZ.1 hZ.2 (g := F0 m pc lsA (st.map (z_cv (zg_A G)))) rfl (by rw [hb]; exact hd) t a1, b1⟩
theorem zi_if (hok : z_ok T P G) (hF : z_Fr T P G XX p s m args meth c mid sc) (hst : z_St G s n0 s0 M H locs cells slots) (hl : lv_has lsA (zt_nL T mid) (z_cvl (zg_A G) ls)) (hvl : ∀ q ∈ ls, z_VV G sc M q.2) (hnx : z_Nx p l e R s m args below meth c Q T G next out mid n0 s0 sc) {cd : ClassFile.Cond} {off : Int} {x : Int32} {tg : Nat} (hd : decode (zp_B P mid) pc = .ok (.ifCond cd off, 3)) (htg : (pc : Int) + off = (tg : Int)) (hvs : ∀ w ∈ r, z_VV G sc M w) (hn : ez_if cd x 0 (next tg ls r M) (next (pc + 3) ls r M) = some out)
    : W p l e R s m args below meth c H locs cells slots Q (F0 m pc lsA ((.inl x :: r : List zV).map (z_cv (zg_A G)))) := by
  obtain ⟨hx, hb, hml, hown, hts, hKK, hbase, hname, hsc⟩ := id hF
  have goJ := fun h => hnx tg ls r M H locs cells slots lsA h hst hl hvl hvs
  have goN := fun h => hnx (pc + 3) ls r M H locs cells slots lsA h hst hl hvl hvs
  cases cd with
  | eq => exact lv_if_eq hx hb hd htg (fun q => goJ (by simpa [ez_if, q] using hn)) (fun q => goN (by simpa [ez_if, q] using hn))
  | ne => exact lv_if_ne hx hb hd htg (fun q => goJ (by simpa [ez_if, q] using hn)) (fun q => goN (by simpa [ez_if, q] using hn))
  | lt => exact lv_if_lt hx hb hd htg (fun q => goJ ((if_pos q).symm.trans hn)) (fun q => goN ((if_neg q).symm.trans hn))
  | ge => exact lv_if_ge hx hb hd htg (fun q => goJ ((if_pos q).symm.trans hn)) (fun q => goN ((if_neg q).symm.trans hn))
  | gt => exact lv_if_gt hx hb hd htg (fun q => goJ ((if_pos q).symm.trans hn)) (fun q => goN ((if_neg q).symm.trans hn))
  | le => exact lv_if_le hx hb hd htg (fun q => goJ ((if_pos q).symm.trans hn)) (fun q => goN ((if_neg q).symm.trans hn))
theorem zi_icmp (hok : z_ok T P G) (hF : z_Fr T P G XX p s m args meth c mid sc) (hst : z_St G s n0 s0 M H locs cells slots) (hl : lv_has lsA (zt_nL T mid) (z_cvl (zg_A G) ls)) (hvl : ∀ q ∈ ls, z_VV G sc M q.2) (hnx : z_Nx p l e R s m args below meth c Q T G next out mid n0 s0 sc) {cd : ClassFile.Cond} {off : Int} {x y : Int32} {tg : Nat} (hd : decode (zp_B P mid) pc = .ok (.if_icmp cd off, 3)) (htg : (pc : Int) + off = (tg : Int)) (hvs : ∀ w ∈ r, z_VV G sc M w) (hn : ez_if cd x y (next tg ls r M) (next (pc + 3) ls r M) = some out)
    : W p l e R s m args below meth c H locs cells slots Q (F0 m pc lsA ((.inl y :: .inl x :: r : List zV).map (z_cv (zg_A G)))) := by
  obtain ⟨hx, hb, hml, hown, hts, hKK, hbase, hname, hsc⟩ := id hF
  have goJ := fun h => hnx tg ls r M H locs cells slots lsA h hst hl hvl hvs
  have goN := fun h => hnx (pc + 3) ls r M H locs cells slots lsA h hst hl hvl hvs
  cases cd with
  | eq => exact lv_icmp_eq hx hb hd htg (fun q => goJ ((if_pos q).symm.trans hn)) (fun q => goN ((if_neg q).symm.trans hn))
  | ne => exact lv_icmp_ne hx hb hd htg (fun q => goJ ((if_neg q).symm.trans hn)) (fun q => goN ((if_pos q).symm.trans hn))
  | lt => exact lv_icmp_lt hx hb hd htg (fun q => goJ ((if_pos q).symm.trans hn)) (fun q => goN ((if_neg q).symm.trans hn))
  | ge => exact lv_icmp_ge hx hb hd htg (fun q => goJ ((if_pos q).symm.trans hn)) (fun q => goN ((if_neg q).symm.trans hn))
  | gt => exact lv_icmp_gt hx hb hd htg (fun q => goJ ((if_pos q).symm.trans hn)) (fun q => goN ((if_neg q).symm.trans hn))
  | le => exact lv_icmp_le hx hb hd htg (fun q => goJ ((if_pos q).symm.trans hn)) (fun q => goN ((if_neg q).symm.trans hn))
theorem zi_acmp (hok : z_ok T P G) (hF : z_Fr T P G XX p s m args meth c mid sc) (hst : z_St G s n0 s0 M H locs cells slots) (hl : lv_has lsA (zt_nL T mid) (z_cvl (zg_A G) ls)) (hvl : ∀ q ∈ ls, z_VV G sc M q.2) (hnx : z_Nx p l e R s m args below meth c Q T G next out mid n0 s0 sc) {cd : ACond} {off : Int} {t tg : Nat} {x y : Option Nat} (ht : t < 30) (hd : decode (zp_B P mid) pc = .ok (.if_acmp cd off, 3)) (htg : (pc : Int) + off = (tg : Int)) (hvs : ∀ w ∈ (.inr (.inr (t, y)) :: .inr (.inr (t, x)) :: r : List zV), z_VV G sc M w) (hn : (match cd with | .eq => if x = y then next tg ls r M else next (pc + 3) ls r M | .ne => if x = y then next (pc + 3) ls r M else next tg ls r M) = some out)
    : W p l e R s m args below meth c H locs cells slots Q (F0 m pc lsA ((.inr (.inr (t, y)) :: .inr (.inr (t, x)) :: r : List zV).map (z_cv (zg_A G)))) := by
  obtain ⟨hx, hb, hml, hown, hts, hKK, hbase, hname, hsc⟩ := id hF
  have goJ := fun h => hnx tg ls r M H locs cells slots lsA h hst hl hvl (z_tl (z_tl hvs))
  have goN := fun h => hnx (pc + 3) ls r M H locs cells slots lsA h hst hl hvl (z_tl (z_tl hvs))
  have hxy : x.map (zg_A G t) = y.map (zg_A G t) ↔ x = y := by
    refine ⟨fun h => ?_, fun h => by rw [h]⟩
    cases x with
    | none => cases y with
      | none => rfl
      | some b => cases h
    | some a => cases y with
      | none => cases h
      | some b =>
        have h' : zg_A G t a = zg_A G t b := Option.some.inj h
        rw [zg_A_ad G ht, zg_A_ad G ht] at h'
        rw [z_inj hst.1 (z_lt hst.1 (z_VVk (z_hd (z_tl hvs)) ht)) (z_lt hst.1 (z_VVk (z_hd hvs) ht)) h']
  rw [List.map_cons, List.map_cons, z_cv_rf, z_cv_rf]
  cases cd with
  | eq => exact lv_acmp_eq hx hb hd htg (fun q => goJ ((if_pos (hxy.mp q)).symm.trans hn)) (fun q => goN ((if_neg (fun z => q (hxy.mpr z))).symm.trans hn))
  | ne => exact lv_acmp_ne hx hb hd htg (fun q => goJ ((if_neg (fun z => q (hxy.mpr z))).symm.trans hn)) (fun q => goN ((if_pos (hxy.mp q)).symm.trans hn))
end ZInstr2
