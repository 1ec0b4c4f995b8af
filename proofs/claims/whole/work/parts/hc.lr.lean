/-! A CALL OF rule THAT THROWS, and the law's own method about it -/
def lr_y : MethodName := ⟨"ContentRulesLaw", "rule", "(LContentRules;II[J)I"⟩
def lr_hh : List (Nat × Nat × Nat × Nat) := [(0, 10, 13, 13)]
def lr_L : List Cond := (xv_at "ContentRules" 150 xy_N xy_R [xy_X] 13 prog_28_method_4_code).filter vx_no
def lr_B4 : List Cond := [.declares (Bundle.initS xy_R), .declares (Bundle.initS xy_X), .declares (Bundle.initS Bundle.tN), .castable xy_N xy_N]
def lr_ps : List Nat := [193, 1655, 1664, 1666, 1669, 1671, 1656, 1657, 208, 209, 1658, 1663, 1667, 1687, 1645, 1688, 1647, 1689, 1649, 1659, 1661, 1651, 1683, 1684, 1686, 1651, 1674, 1675, 1676, 1677, 1677, 1678, 1679, 1680, 1680, 1681, 1682, 1683, 1673, 1634, 1642, 1643, 1644, 1646, 1648, 1650, 1654, 1653, 1652]
theorem lr_gi : GoodIn lw_tbl (lr_L.filter goodWord) := goodIn_r _ lr_ps (by decide +kernel) (by decide +kernel)
theorem lr_ng : ∀ w ∈ lr_L.filter (fun w => !goodWord w), w ∈ lr_B4 := by decide +kernel
theorem lr_hg : ∀ w ∈ Cond.classLink "ContentRules" 146 xy_N :: Cond.initialized xy_N :: lr_L, vx_ot w = true := by decide +kernel
theorem lr_w146 : Cond.classLink "ContentRules" 146 xy_N ∈ lw_tbl.filter goodWord := tx_wOk (i := 1633) (by decide +kernel)
theorem lr_wini : Cond.initialized xy_N ∈ lw_tbl.filter goodWord := tx_wOk (i := 196) (by decide +kernel)
theorem lr_w13 : Cond.classLink "ContentRulesLaw" 13 xy_N ∈ lw_tbl.filter goodWord := tx_wOk (i := 1628) (by decide +kernel)
theorem lr_wlink : Cond.methodLink "ContentRulesLaw" 7 (zp_Y zq_P 293) ∈ lw_tbl.filter goodWord := tx_wOk (i := 1629) (by decide +kernel)
theorem lr_winst : Cond.instanceMethod (zp_Y zq_P 293) ∈ lw_tbl.filter goodWord := tx_wOk (i := 1630) (by decide +kernel)
theorem lr_wsel : Cond.selects (zp_Y zq_P 293).cls (zp_Y zq_P 293) (zp_Y zq_P 293) ∈ lw_tbl.filter goodWord := tx_wOk (i := 1631) (by decide +kernel)
theorem lr_wcode : Cond.code (zp_Y zq_P 293) (zp_B zq_P 293) (zt_nL zq_T 293) (zp_RT zq_P 293) ∈ lw_tbl.filter goodWord := tx_wOk (i := 1632) (by decide +kernel)
theorem lr_wcls : Cond.initialized (zp_Y zq_P 293).cls ∈ lw_tbl.filter goodWord := tx_wOk (i := 179) (by decide +kernel)
theorem lr_yok : (zp_Y zq_P 293).cls ≠ "java/lang/invoke/MethodHandle" ∧ (zp_Y zq_P 293).cls ≠ "java/lang/invoke/VarHandle" ∧ (parseMethodDescriptor (zp_Y zq_P 293).desc).map (fun d => d.parameters.length) = some 2 := ⟨by decide +kernel, by decide +kernel, by decide +kernel⟩
theorem lr_okM : z_okM zq_T zq_P 293 := ⟨lr_wcode, by decide +kernel, Nat.le_of_ble_eq_true rfl, .inr (.inl ⟨rfl, rfl⟩)⟩
theorem lr_a0 : decode (zp_B zq_P 293) 0 = .ok (.aload_n 0, 1) := by decide +kernel
theorem lr_a1 : decode (zp_B zq_P 293) 1 = .ok (.iload_n 1, 1) := by decide +kernel
theorem lr_a5 : decode (zp_B zq_P 293) 5 = .ok (.astore_n 3, 1) := by decide +kernel
theorem lr_a6 : decode (zp_B zq_P 293) 6 = .ok (.aload_n 3, 1) := by decide +kernel
theorem lr_a7 : decode (zp_B zq_P 293) 7 = .ok (.ifnull (10), 3) := by decide +kernel
theorem lr_a10 : decode (zp_B zq_P 293) 10 = .ok (.aload_n 3, 1) := by decide +kernel
theorem lr_a14 : decode (zp_B zq_P 293) 14 = .ok (.ifnonnull (13), 3) := by decide +kernel
theorem lr_a27 : decode (zp_B zq_P 293) 27 = .ok (.iload_n 2, 1) := by decide +kernel
def lr_PX (ad : Nat → Nat) (n : Nat) (ad' : Nat → Nat) : Prop := ∀ k, k < n → ad' k = ad k
def lr_BX (Rg : zGr) (M : zM) (E : String) (ad' : Nat → Nat) (t : State) : Prop := E = xy_N ∧ z_Rep (ad', Rg) M t.heap
section
variable {p : Program} {l : Launch} {e : Env} {R : Room} {s : State} {m : MethodId} {args : Array Value} {below : List Frame} {meth : Method} {c : Code}
variable {Rg : zGr} {ad : Nat → Nat} {sv : Nat → Nat} {M : zM} {H : Heap} {locs : List Loc} {lsA : Array Slot} {Qc : Array Value → State → Outcome → State → Prop}
theorem lr_words {G : zG} (hts : ∀ w ∈ zp_GW zq_P, w.before args s = true) (hE : xy_E sv G s) : ∀ w ∈ lr_L, w.before args s = true := by
  obtain ⟨_, _, h4, h5, h6, h7⟩ := hE
  refine vx_hat (B := lr_B4) (fun w hw => hts w (List.mem_filter.mpr ⟨(lr_gi w hw).1, (List.mem_filter.mp hw).2⟩)) lr_ng ?_
  exact vx_c (va_Nw.use rfl h4) (vx_c (va_Nw.use rfl h5) (vx_c (va_Nw.use rfl h6) (vx_c (va_Nw.use rfl h7) vx_n)))
/-- 'throw new NoSuchElementException(..)' in rule -/
theorem lr_thr {pc is j : Nat} {text : String} (hF : zw_Fr zq_P (ad, Rg) (xy_E sv (ad, Rg)) p s m args c (zp_B zq_P 293) 4 "ContentRules") (hlt : l.stackTraces = false) (htab : ∀ x ∈ c.exceptionTable.toList, False) (hlocks : meth.locks = false) (hst : zw_St (ad, Rg) s M H locs) (hsz : lsA.size = 4)
    (hstr : ("ContentRules", is, text, j) ∈ tq_SS)
    (d0 : decode (zp_B zq_P 293) pc = .ok (.new 146, 3)) (d3 : decode (zp_B zq_P 293) (pc + 3) = .ok (.dup, 1)) (d4 : decode (zp_B zq_P 293) (pc + 4) = .ok (.ldc is, 2)) (d6 : decode (zp_B zq_P 293) (pc + 6) = .ok (.invokespecial 150, 3)) (d9 : decode (zp_B zq_P 293) (pc + 9) = .ok (.athrow, 1)) :
    W p l e (z_room 10 1 6) s m args below meth c H locs 0 0 (vx_MQ below Qc (vx_X (lr_PX ad (zm_n M)) (lr_BX Rg M) (fun q => zg_base (ad, Rg) ≤ q)) args s 1 6 (fun q => zg_base (ad, Rg) ≤ q)) (F0 m pc lsA []) := by
  obtain ⟨hx, hb, hml, hown, hts, hKK, hbase⟩ := hF
  have hE : xy_E sv (ad, Rg) s := hKK.2.2.2.2.2
  refine xv_make (A := fun q => zg_base (ad, Rg) ≤ q) (sup := xy_R) (names := [xy_X]) (i0 := 13) (b0 := prog_28_method_4_code) (own := "ContentRules") (cls := xy_N) (text := text) hx hb hlt (by decide +kernel) (by decide +kernel) (by decide +kernel) (by decide +kernel) (by decide +kernel) hown (by decide +kernel) (by decide +kernel) (hts _ lr_w146) (hts _ lr_wini) (hKK.2.2.2.2.1 _ hstr) (lr_words hts hE) lr_hg hE.2.1.1 hE.2.1.2 hst.2 (hsz.trans hml.symm) d0 d3 d4 d6 (by decide) (by decide) (by decide) (by decide) (fun q H1 ce h1 h2 h3 h4 h5 => ?_)
  refine xv_athrow hx hb d9 (vx_out (E := xy_N) (fun x hx => (htab x hx).elim) hlocks h1 h2 h3 (fun t ht _ => ?_) (fun z hz => hst.2.2.2 z hz) (Nat.le_refl 1) (Nat.le_refl 6))
  obtain ⟨ad', k1, k2⟩ := zw_again hst.1 h4 h5
  refine ⟨ad', k1, ⟨rfl, by rw [ht]; exact k2⟩, by rw [ht]; exact Nat.le_trans hst.2.1 h4, fun q q1 q2 => ?_⟩
  rw [ht, h5 q (Nat.lt_of_lt_of_le q1 hst.2.1)]
  exact hst.2.2.1 q q1 q2
theorem lr_throws {N0 S0 : Nat} {S : yZ} {g : yG2} {x w : Int32} (hlt : l.stackTraces = false) (hG : lq_G Rg) (hI : cI 0 N0 S0 M S g) (hz : zz_ok S) (hs : sp_rule S x w = none) (K0 : zm_K M 0 = 12) :
    vx_Met l (zp_Y zq_P 293) (Cond.code (zp_Y zq_P 293) (zp_B zq_P 293) (zt_nL zq_T 293) (zp_RT zq_P 293) :: zp_GW zq_P) (z_room 10 1 6) (z_Pc zq_P (ad, Rg) (xy_E sv (ad, Rg)) [.inr (.inr (11, some 0)), .inl x, .inl w] M) (va_Qi (fun (_ : Int32) (_ : Unit) => False) (fun _ _ => True) (fun q => zg_base (ad, Rg) ≤ q)) (vx_X (lr_PX ad (zm_n M)) (lr_BX Rg M) (fun q => zg_base (ad, Rg) ≤ q)) 1 6 (fun q => zg_base (ad, Rg) ≤ q) := by
  refine vx_ofW (cc := zp_B zq_P 293) (maxL := 4) (ret := some .int) (by decide +kernel) rfl ?_
  intro p e s m args below meth c s₁ Bd hml htab hPc
  obtain ⟨rfl, hRep, hbase, hKK⟩ := hPc
  have hts0 := atoms_spec (ws := Cond.code (zp_Y zq_P 293) (zp_B zq_P 293) (zt_nL zq_T 293) (zp_RT zq_P 293) :: zp_GW zq_P) Bd.pre
  have hl := lv_entry (([.inr (.inr (11, some 0)), .inl x, .inl w] : List zV).map (z_cv (zg_A (ad, Rg)))) (n := 4) (by rw [z_sl_len]; exact Nat.le_of_ble_eq_true rfl)
  have hF : zw_Fr zq_P (ad, Rg) (xy_E sv (ad, Rg)) p s m _ c (zp_B zq_P 293) 4 "ContentRules" := ⟨Bd.exec, Bd.bytes, hml, findClass_of_methodNamed Bd.named, fun w hw => hts0 w (List.mem_cons_of_mem _ hw), hKK, hbase⟩
  rw [lg_entry_eq]
  generalize (lg_sl (([.inr (.inr (11, some 0)), .inl x, .inl w] : List zV).map (z_cv (zg_A (ad, Rg)))) ++ List.replicate (4 - (lg_sl (([.inr (.inr (11, some 0)), .inl x, .inl w] : List zV).map (z_cv (zg_A (ad, Rg))))).length) Slot.unset).toArray = lsA at hl ⊢
  have l0 : lsA[0]? = some (.val (.ref (ad 0))) := lv_at hl 0 rfl
  have l1 : lsA[1]? = some (.val (.int x)) := lv_at hl 1 rfl
  have hx := Bd.exec
  have hb := Bd.bytes
  have hok := lq_ok hG ad
  have hst0 : zw_St (ad, Rg) s M s.heap [] := ⟨hRep, va_S.rf⟩
  refine lv_aload_n hx hb (pc := 0) lr_a0 rfl l0 ?_
  refine lv_iload_n hx hb (pc := 1) lr_a1 rfl l1 ?_
  have hra := cl_ruleAt (d := 5) hI x
  have o1 := (hok.2.2.2.2.1 293 136 0 291 1 11 rfl).1 rfl
  have E1 : Ev zq_T 5 291 0 (zl_args 0 [.inr (.inr (11, some 0)), .inl x]) [] M (some (.inr (.inr (5, (zin x S.2.1.1).map (fun r => g.1.1 + 2 + 10 * r)))), M) := tie_cr_ruleAt 5 0 x M _ hra
  obtain ⟨m1, _, _, _, _⟩ := lq_met (l := l) (sv := sv) hG hRep o1.1 (Nat.le_of_ble_eq_true rfl) (lq_VV (as' := [.inl x]) (by simp) (by omega) K0) E1
  refine zw_virtual (as' := [.inl x]) hok hF (xy_clo sv (ad, Rg)) hst0 m1 ⟨by decide, by decide⟩ ⟨by rw [Nat.sub_self]; decide, by rw [Nat.sub_self]; decide⟩ K0 hl.1 (Nat.le_of_ble_eq_true rfl) (by decide +kernel) rfl o1 (fun H1 locs1 hst1 => ?_)
  refine W.widen (k := 0) (n := 0) (by omega) (by omega) ?_
  show W p l e (z_room 10 1 6) s m _ below meth c H1 locs1 0 0 _ (F0 m 5 lsA [z_cv (zg_A (ad, Rg)) (.inr (.inr (5, (zin x S.2.1.1).map (fun r => g.1.1 + 2 + 10 * r))))])
  cases hzx : zin x S.2.1.1 with
  | none =>
    refine lv_astore_nN hx hb (pc := 5) lr_a5 rfl hl (by decide) rfl (fun ls hl => ?_)
    refine lv_aload_nN hx hb (pc := 6) lr_a6 rfl (lv_at hl 0 rfl) ?_
    refine lv_ifnullN hx hb (pc := 7) (tgt := 17) lr_a7 (by decide) ?_
    exact lr_thr (j := 5) hF hlt htab Bd.notSynchronized hst1 hl.1 (List.mem_of_getElem? (i := 5) rfl) (by decide +kernel) (by decide +kernel) (by decide +kernel) (by decide +kernel) (by decide +kernel)
  | some r =>
    have hR : S.2.1.1 < 2 ^ 31 := by have := hz.2.1; omega
    obtain ⟨hr, _⟩ := zin_some hR hzx
    obtain ⟨hP, hX, _, _, _, hr8⟩ := cI_r hI hz hr
    obtain ⟨_, _, ⟨_, _, r1, _⟩, _⟩ := hX
    have hw : zin w 11 = none := by
      unfold sp_rule at hs
      rw [hzx] at hs
      dsimp only at hs
      cases hw : zin w 11 with
      | none => rfl
      | some k => rw [hw] at hs; cases hs
    have kq : kw 0 242 M → True := fun _ => trivial
    have KQ : zm_K M (g.1.1 + 2 + 10 * r) = 6 := by
      have hwf := hRep.wf
      have go : ∀ k t j r n, zm_K M k = t + 1 → zm_R M t k j = some r → zg_isR (ad, Rg) t j → zg_rt (ad, Rg) t j + 1 = n → zm_K M r = n := fun k t j r n a1 a2 a3 a4 => by rw [hwf.2 k t j r a1 a2 a3, a4]
      have hfk : zg_fk (ad, Rg) = tq_fk := hG.2.1
      have hel : zg_elt (ad, Rg) = tx_elt := hG.2.2.1
      obtain ⟨_, ⟨⟨_, o2, _⟩, _⟩, _, ⟨⟨hrs, _⟩, _⟩, _⟩ := hI
      have e1 := go 0 11 2 g.1.1 7 K0 o2 (fun _ => by rw [hfk]; decide) (by unfold zg_rt; rw [hfk]; rfl)
      have e2 := go g.1.1 6 0 _ 26 e1 hrs.1.1 (fun _ => by rw [hfk]; decide) (by unfold zg_rt; rw [hfk]; rfl)
      exact go _ 25 r _ 6 e2 (hrs.2.2.1 r (by omega)).1 (fun q => absurd q (by decide)) (by unfold zg_rt; rw [if_neg (by decide), hel]; rfl)
    refine lv_astore_n hx hb (pc := 5) lr_a5 rfl hl (by decide) rfl (fun ls hl => ?_)
    refine lv_aload_n hx hb (pc := 6) lr_a6 rfl (lv_at hl 0 rfl) ?_
    refine lv_ifnull hx hb (pc := 7) lr_a7 ?_
    refine lv_aload_n hx hb (pc := 10) lr_a10 rfl (lv_at hl 0 rfl) ?_
    obtain ⟨hcfk, C, Tt, N, hcl, hj, hlink⟩ := hok.2.2.1 293 140 5 1 5 rfl
    obtain ⟨ht, hin, -, ty0, -, hkind⟩ := hok.1.2.2.2.2.1 5 C Tt N hcl
    have he := z_ws_at hst1.1 KQ
    rw [z_cell_o (ad, Rg) M ht] at he
    refine va_get hx hb hF.2.2.2.2.1 hin hF.2.2.2.1 hKK.1 hst1.1.1 (g.1.1 + 2 + 10 * r) he hcl 1 hj (hF.2.2.2.2.1 _ hlink) (fun _ q => q) (z_fs_get (ad, Rg) M 5 (g.1.1 + 2 + 10 * r) (by rw [z_N hcl]; exact hj)) (by decide +kernel) ?_
    rw [← hcfk]
    show W p l e (z_room 10 1 6) s m _ below meth c H1 locs1 0 0 _ (F0 m 14 ls [z_cv (zg_A (ad, Rg)) (.inr (.inr (3, zm_R M 5 (g.1.1 + 2 + 10 * r) 1)))])
    rw [r1]
    refine lv_ifnonnull hx hb (pc := 14) (tgt := 27) lr_a14 (by decide) ?_
    refine lv_iload_n hx hb (pc := 27) lr_a27 rfl (lv_at hl 3 rfl) ?_
    have ht1 : w.toInt < 0 ∨ 10 < w.toInt := by
      have h := zin_none hw
      rw [fa_le, fa_lt, nI_toInt (show 11 < 2 ^ 31 by omega)] at h
      have h0 : (0 : Int32).toInt = 0 := by decide
      rw [h0] at h
      omega
    refine lv_tableOut hx hb (pc := 28) (tgt := 168) (dflt := 140) (lo := 0) (hi := 10) (offs := #[60, 65, 70, 75, 80, 91, 99, 107, 112, 120, 128]) (len := 60) (by decide +kernel) ht1 (by decide) ?_
    exact lr_thr (j := 6) hF hlt htab Bd.notSynchronized hst1 hl.1 (List.mem_of_getElem? (i := 6) rfl) (by decide +kernel) (by decide +kernel) (by decide +kernel) (by decide +kernel) (by decide +kernel)
end
