/-! THE LAW'S rule: the class's call, its answer kept or its throw caught -/
theorem lr_d5 : decode method_3_code 5 = .ok (.invokevirtual 7, 3) := by decide +kernel
theorem lr_b0 : decode method_3_code 0 = .ok (.aload_n 3, 1) := by decide +kernel
theorem lr_b1 : decode method_3_code 1 = .ok (.iconst 0, 1) := by decide +kernel
theorem lr_b2 : decode method_3_code 2 = .ok (.aload_n 0, 1) := by decide +kernel
theorem lr_b3 : decode method_3_code 3 = .ok (.iload_n 1, 1) := by decide +kernel
theorem lr_b4 : decode method_3_code 4 = .ok (.iload_n 2, 1) := by decide +kernel
theorem lr_b10 : decode method_3_code 10 = .ok (.goto (7), 3) := by decide +kernel
theorem lr_b13 : decode method_3_code 13 = .ok (.astore 4, 2) := by decide +kernel
theorem lr_b15 : decode method_3_code 15 = .ok (.iconst 1, 1) := by decide +kernel
theorem lr_b17 : decode method_3_code 17 = .ok (.iconst 0, 1) := by decide +kernel
theorem lr_y0 : zp_Y zq_P 293 = ⟨"ContentRules", "rule", "(II)I"⟩ := by decide +kernel
section
variable {l : Launch} {Rg : zGr} {ad : Nat → Nat} {sv : Nat → Nat} {M : zM}
theorem lr_B {N0 S0 : Nat} {S : yZ} {g : yG2} {x w : Int32} (hlt : l.stackTraces = false) (hG : lq_G Rg) (hI : cI 0 N0 S0 M S g) (hz : zz_ok S) (hs : sp_rule S x w = none) (K0 : zm_K M 0 = 12) :
    Met l lr_y (Cond.codeWith lr_y method_3_code 5 (some .int) lr_hh :: zp_GW zq_P) (z_room 12 1 6) (z_Pc zq_P (ad, Rg) (xy_E sv (ad, Rg)) [.inr (.inr (11, some 0)), .inl x, .inl w, .inr (.inr (23, some 276))] M)
      (fun _ st o t => o = .returned (some (.int 1)) ∧ (∃ ad', lr_PX ad (zm_n M) ad' ∧ z_Rep (ad', Rg) M t.heap) ∧ va_F (fun q => zg_base (ad, Rg) ≤ q) st t) 1 6 (fun q => zg_base (ad, Rg) ≤ q) := by
  refine va_MetW (cc := method_3_code) (maxL := 5) (ret := some .int) (hh := lr_hh) (by decide +kernel) rfl ?_
  intro p e s m args below meth c s₁ Bd hml hPc
  obtain ⟨rfl, hRep, hbase, hKK⟩ := hPc
  have hts0 := atoms_spec (ws := Cond.codeWith lr_y method_3_code 5 (some .int) lr_hh :: zp_GW zq_P) Bd.pre
  have hts : ∀ w ∈ zp_GW zq_P, w.before _ s = true := fun w hw => hts0 w (List.mem_cons_of_mem _ hw)
  have htab : c.exceptionTable.toList = [⟨0, 10, 13, 13⟩] := vx_table (x := lr_y) Bd (hts0 _ List.mem_cons_self)
  have hl := lv_entry (([.inr (.inr (11, some 0)), .inl x, .inl w, .inr (.inr (23, some 276))] : List zV).map (z_cv (zg_A (ad, Rg)))) (n := 5) (by rw [z_sl_len]; exact Nat.le_of_ble_eq_true rfl)
  rw [lg_entry_eq]
  generalize (lg_sl (([.inr (.inr (11, some 0)), .inl x, .inl w, .inr (.inr (23, some 276))] : List zV).map (z_cv (zg_A (ad, Rg)))) ++ List.replicate (5 - (lg_sl (([.inr (.inr (11, some 0)), .inl x, .inl w, .inr (.inr (23, some 276))] : List zV).map (z_cv (zg_A (ad, Rg))))).length) Slot.unset).toArray = lsA at hl ⊢
  have l0 : lsA[0]? = some (.val (.ref (ad 0))) := lv_at hl 0 rfl
  have l1 : lsA[1]? = some (.val (.int x)) := lv_at hl 1 rfl
  have l2 : lsA[2]? = some (.val (.int w)) := lv_at hl 2 rfl
  have l3 : lsA[3]? = some (.val (.ref (ad 276))) := lv_at hl 3 rfl
  have hx := Bd.exec
  have hb := Bd.bytes
  have hown := findClass_of_methodNamed Bd.named
  have hst0 : zw_St (ad, Rg) s M s.heap [] := ⟨hRep, va_S.rf⟩
  have hE : xy_E sv (ad, Rg) s := hKK.2.2.2.2.2
  refine lv_aload_n hx hb (pc := 0) lr_b0 rfl l3 ?_
  refine lv_iconst hx hb (pc := 1) (v := 0) lr_b1 rfl ?_
  refine lv_aload_n hx hb (pc := 2) lr_b2 rfl l0 ?_
  refine lv_iload_n hx hb (pc := 3) lr_b3 rfl l1 ?_
  refine lv_iload_n hx hb (pc := 4) lr_b4 rfl l2 ?_
  have pre := zw_pre (P := zq_P) (xy_clo sv (ad, Rg)) hKK hbase hst0 [.inr (.inr (11, some 0)), .inl x, .inl w]
  have hok := lq_ok hG ad
  have he := z_ws_at hRep K0
  rw [z_cell_o (ad, Rg) M (by omega)] at he
  have hcl : (zg_cl (ad, Rg))[11]? = some ((tx_cl tq_R)[11]'(by decide +kernel)) := by
    have e : zg_cl (ad, Rg) = tx_cl tq_R := hG.1
    rw [e]
    exact List.getElem?_eq_getElem _
  have hrecv := va_recv hKK.1 hRep.1 hcl he
  have cb := callB_of (R := z_room 12 1 6) (own := "ContentRulesLaw") (index := 7) (rm := z_room 10 1 6) 2 hts (z_good hok lr_okM) rfl rfl rfl (hts _ lr_wcls) (hts _ lr_wlink) lr_yok ⟨by decide, by decide⟩
  refine vx_calli (pc := 5) (vx_runV (As := [.int x, .int w]) (rest := [.int 0, .ref (ad 276)]) (C := "ContentRules") ⟨hx, hb, hml, hown, hts⟩ (lr_throws hlt hG hI hz hs K0) ⟨cb, hts _ lr_winst, hts _ lr_wsel⟩ ⟨pre.1, hrecv, pre.2⟩ rfl rfl hl.1 rfl (lv_room (Nat.le_of_ble_eq_true rfl)) lr_d5 ⟨by decide, by decide⟩) va_S.rf (fun q _ h => h) (fun q h => h) (fun q _ h => h) (fun E ce q9 u t H1 locs1 ht hv hp hb1 z1 z2 z3 hce hcv hcl9 => ?_) (fun r u t H1 locs1 _ _ hp => hp.elim)
  obtain ⟨hE1, hR1⟩ := hb1
  subst hE1
  refine vx_catch (own := "ContentRulesLaw") (name := xy_N) hown [] ⟨0, 10, 13, 13⟩ [] htab (fun z hz => nomatch hz) (by decide) (by decide) (hts _ lr_w13) (va_Nw.use rfl hE.2.2.2.2.2) hce hcv hcl9 ?_
  refine lv_astore hx hb (pc := 13) lr_b13 hl (by decide) rfl (fun ls hl => ?_)
  refine lv_iconst hx hb (pc := 15) (v := 1) lr_b15 rfl ?_
  exact W.iret hx hb Bd.returns (fun t' ht' _ => ⟨rfl, ⟨u, hp, by rw [ht', ← ht]; exact hR1⟩, z3.F ht'⟩) (fun q hq => z3.2.2 q hq) (by decide +kernel) Bd.notSynchronized
theorem lr_A {v x w : Int32} (hG : lq_G Rg) (K0 : zm_K M 0 = 12) (K2 : zm_K M 276 = 24) (hL : zm_L M 23 276 = 1) (hr : Ev zq_T 205 293 0 (zl_args 0 [.inr (.inr (11, some 0)), .inl x, .inl w]) [] M (some (.inl v), M)) :
    Met l lr_y (Cond.codeWith lr_y method_3_code 5 (some .int) lr_hh :: zp_GW zq_P) (z_room 207 0 0) (z_Pc zq_P (ad, Rg) (xy_E sv (ad, Rg)) [.inr (.inr (11, some 0)), .inl x, .inl w, .inr (.inr (23, some 276))] M)
      (z_Qc (ad, Rg) (some (.inl 0)) (zm_setJ M 23 276 0 v.toInt64)) 0 0 (fun q => zg_base (ad, Rg) ≤ q) := by
  refine va_MetW (cc := method_3_code) (maxL := 5) (ret := some .int) (hh := lr_hh) (by decide +kernel) rfl ?_
  intro p e s m args below meth c s₁ Bd hml hPc
  obtain ⟨rfl, hRep, hbase, hKK⟩ := hPc
  have hts0 := atoms_spec (ws := Cond.codeWith lr_y method_3_code 5 (some .int) lr_hh :: zp_GW zq_P) Bd.pre
  have hts : ∀ w ∈ zp_GW zq_P, w.before _ s = true := fun w hw => hts0 w (List.mem_cons_of_mem _ hw)
  have hl := lv_entry (([.inr (.inr (11, some 0)), .inl x, .inl w, .inr (.inr (23, some 276))] : List zV).map (z_cv (zg_A (ad, Rg)))) (n := 5) (by rw [z_sl_len]; exact Nat.le_of_ble_eq_true rfl)
  rw [lg_entry_eq]
  generalize (lg_sl (([.inr (.inr (11, some 0)), .inl x, .inl w, .inr (.inr (23, some 276))] : List zV).map (z_cv (zg_A (ad, Rg)))) ++ List.replicate (5 - (lg_sl (([.inr (.inr (11, some 0)), .inl x, .inl w, .inr (.inr (23, some 276))] : List zV).map (z_cv (zg_A (ad, Rg))))).length) Slot.unset).toArray = lsA at hl ⊢
  have l0 : lsA[0]? = some (.val (.ref (ad 0))) := lv_at hl 0 rfl
  have l1 : lsA[1]? = some (.val (.int x)) := lv_at hl 1 rfl
  have l2 : lsA[2]? = some (.val (.int w)) := lv_at hl 2 rfl
  have l3 : lsA[3]? = some (.val (.ref (ad 276))) := lv_at hl 3 rfl
  have hx := Bd.exec
  have hb := Bd.bytes
  have hst0 : zw_St (ad, Rg) s M s.heap [] := ⟨hRep, va_S.rf⟩
  have hF : zw_Fr zq_P (ad, Rg) (xy_E sv (ad, Rg)) p s m _ c method_3_code 5 "ContentRulesLaw" := ⟨hx, hb, hml, findClass_of_methodNamed Bd.named, hts, hKK, hbase⟩
  have hok := lq_ok hG ad
  refine lv_aload_n hx hb (pc := 0) lr_b0 rfl l3 ?_
  refine lv_iconst hx hb (pc := 1) (v := 0) lr_b1 rfl ?_
  refine lv_aload_n hx hb (pc := 2) lr_b2 rfl l0 ?_
  refine lv_iload_n hx hb (pc := 3) lr_b3 rfl l1 ?_
  refine lv_iload_n hx hb (pc := 4) lr_b4 rfl l2 ?_
  obtain ⟨m1, _, _, _, _⟩ := lq_met (l := l) (sv := sv) hG hRep lr_okM (Nat.le_of_ble_eq_true rfl) (lq_VV (as' := [.inl x, .inl w]) (by simp) (by omega) K0) hr
  refine zw_virtual (pc := 5) (as' := [.inl x, .inl w]) (rest := [.int 0, .ref (ad 276)]) (n := 2) (idx := 7) hok hF (xy_clo sv (ad, Rg)) hst0 m1 ⟨by decide, by decide⟩ ⟨by rw [Nat.sub_self]; decide, by rw [Nat.sub_self]; decide⟩ K0 hl.1 (Nat.le_of_ble_eq_true rfl) (by decide +kernel) rfl ⟨lr_okM, ⟨lr_yok.1, lr_yok.2.1, lr_yok.2.2, lr_wcls⟩, ?_, lr_wlink, lr_winst, lr_wsel⟩ (fun H1 locs1 hst1 => ?_)
  · have e : zg_cl (ad, Rg) = tx_cl tq_R := hG.1
    rw [e]
    exact ⟨_, _, rfl⟩
  refine W.widen (k := 0) (n := 0) (by omega) (by omega) ?_
  show W p l e (z_room 207 0 0) s m _ below meth c H1 locs1 0 0 _ (F0 m 8 lsA [.int v, .int 0, .ref (ad 276)])
  refine lv_i2l hx hb (pc := 8) (by decide +kernel) rfl ?_
  have he := z_at_o hst1.1 K2
  rw [z_cell_l (ad, Rg) M] at he
  have hin : z_in 0 (zm_L M 23 276) := by rw [hL]; decide
  refine z_rlast hx hb (pc := 9) (hKK.1.2 3 _ rfl).1 he hin (by decide +kernel) (fun H2 i g1 g2 g3 => ?_)
  have g1' : va_at (zg_D (ad, Rg)) (zg_cl (ad, Rg)) (zg_ad (ad, Rg) 276, z_cell (ad, Rg) (zm_setJ M 23 276 0 v.toInt64) 23 276) H2 := by
    rw [z_cell_l (ad, Rg), z_upd_J]; exact g1
  have hst2 : z_Rep (ad, Rg) (zm_setJ M 23 276 0 v.toInt64) H2 := z_Rep_set hst1.1 K2 rfl rfl (fun t' k' hk' => z_cell_congr rfl rfl (z_J_other M 23 276 0 v.toInt64 (fun q => hk' q.2)) rfl) g1' g2 g3 hst1.1.2.2.2.2.1 rfl rfl
  have hS2 : va_S (fun q => zg_base (ad, Rg) ≤ q) s.heap H2 (locs1 ++ [⟨ad 276, i⟩]) := hst1.2.put g2 g3 (z_base hst1.1 (z_lt hst1.1 K2))
  refine lv_goto hx hb (pc := 10) (tgt := 17) lr_b10 (by decide) ?_
  refine lv_iconst hx hb (pc := 17) (v := 0) lr_b17 rfl ?_
  exact W.iret hx hb Bd.returns (fun t' ht' _ => ⟨rfl, by rw [ht']; exact hst2, hS2.F ht'⟩) (fun q hq => hS2.2.2 q hq) (by decide +kernel) Bd.notSynchronized
end
