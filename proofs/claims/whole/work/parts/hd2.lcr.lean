/-! THE LAW: its case of a rule -/
theorem ls_w43 : Cond.codeWith lr_y method_3_code 5 (some .int) lr_hh ∈ lw_tbl.filter goodWord := tx_wOk (i := 1627) (by decide +kernel)
theorem ls_wlink : Cond.methodLink "ContentRulesLaw" 43 lr_y ∈ lw_tbl.filter goodWord := tx_wOk (i := 1625) (by decide +kernel)
theorem ls_wstat : Cond.static lr_y ∈ lw_tbl.filter goodWord := tx_wOk (i := 1626) (by decide +kernel)
theorem ls_wini : Cond.initialized lr_y.cls ∈ lw_tbl.filter goodWord := tx_wOk (i := 178) (by decide +kernel)
theorem ls_yok : lr_y.cls ≠ "java/lang/invoke/MethodHandle" ∧ lr_y.cls ≠ "java/lang/invoke/VarHandle" ∧ (parseMethodDescriptor lr_y.desc).map (fun d => d.parameters.length) = some 4 := ⟨by decide +kernel, by decide +kernel, by decide +kernel⟩
theorem ls_sig (sig : MethodDescriptor) (h : parseMethodDescriptor lr_y.desc = some sig) : 4 = sig.parameters.length := by
  have h2 := ls_yok.2.2
  rw [h] at h2
  exact (Option.some.inj h2).symm
section
variable {p : Program} {l : Launch} {e : Env} {s : State} {m : MethodId} {below : List Frame} {meth : Method} {c : Code} {b L j S0 : Nat} {xs : Nat → Int32} {sv : Nat → Nat} {Rg : zGr}
variable {ad : Nat → Nat} {M M2 : zM} {S S' : yZ} {H : Heap} {locs : List Loc} {cells slots : Nat} {lsA : Array Slot} {rest : List Value} {Q : State → Prop} {R : Room} {args : Array Value} {pc : Nat}
/-- behind the class's call of rule: the model's, and what is asked of both -/
theorem ls_tail {r v : Int32} (X : lq_X p s m meth c b L xs sv Rg) (hS0 : S0 ≤ 200000) (hst : zw_St (ad, Rg) s M H locs) (K0 : zm_K M 0 = 12) (K1 : zm_K M 242 = 13) (K2 : zm_K M 276 = 24) (hc : cells ≤ zm_n M + (j + 1)) (hs : slots ≤ zm_s M + 6 * (j + 1)) (hl : lv_has lsA 7 (lq_ls ad b (nI (6 * j)))) (hj : 6 * j + 5 < L)
    (e2 : mo_rule 205 242 (xs (6 * j + 1)) (xs (6 * j + 2)) M = some (v, M2)) (J2 : cJ 0 242 277 S0 M2 S') (hI : zm_I M2 12 242 0 = r) (hJ : r = 0 → zm_J M2 23 276 0 = v.toInt64) (K : lq_K p l e s m below meth c b Rg S0 j) :
    W p l e room_1 s m #[Value.ref b] below meth c H locs cells slots (lw_Z below #[Value.ref b] s) (F0 m 326 lsA [.int r]) := by
  have hG := X.2.2.1
  have hok := lq_ok hG ad
  have hF := lq_Fr X ad
  have hL := X.2.1
  have hx := X.1.1
  have hb := X.1.2.1
  have b2 := cJ_max J2
  have r1 : room_1.frames = 2048 := rfl
  have r2 : room_1.locals = 84000 := rfl
  have r3 : room_1.cells = 601024 := rfl
  have r4 : room_1.slots = 7293034 := rfl
  have o1 : z_okM zq_T zq_P 78 ∧ _ := lq_okc (idx := 48) (cc := 78) (n := 2) (t := 12) hok rfl
  have o2 : z_okM zq_T zq_P 1 ∧ _ := lq_okc (idx := 49) (cc := 1) (n := 0) (t := 12) hok rfl
  have E1 : Ev zq_T 205 78 0 (zl_args 0 [.inr (.inr (12, some 242)), .inl (xs (6 * j + 1)), .inl (xs (6 * j + 2))]) [] M (some (.inl v), M2) := tie_mo_rule 205 242 (xs (6 * j + 1)) (xs (6 * j + 2)) M (v, M2) e2
  have E2 : Ev zq_T 205 1 0 (zl_args 0 [.inr (.inr (12, some 242))]) [] M2 (some (.inl (zm_I M2 12 242 0)), M2) := tie_mo_thrown 205 242 M2 (zm_I M2 12 242 0, M2) rfl
  obtain ⟨m1, n1, s1, w1, q1⟩ := lq_met (l := l) (sv := sv) hG hst.1 o1.1 (Nat.le_of_ble_eq_true rfl) (lq_VV (as' := [.inl (xs (6 * j + 1)), .inl (xs (6 * j + 2))]) (by simp) (by omega) K1) E1
  have K0' : zm_K M2 0 = 12 := by rw [q1 0 (by omega)]; exact K0
  have K1' : zm_K M2 242 = 13 := by rw [q1 242 (by omega)]; exact K1
  have K2' : zm_K M2 276 = 24 := by rw [q1 276 (by omega)]; exact K2
  refine lv_istore hx hb dz_326 hl (by decide) rfl (fun ls5 hl5 => ?_)
  refine lv_aload_n hx hb dz_328 rfl (lv_at hl5 3 rfl) ?_
  refine lq_arg (k := 1) X hst.2 (lv_at hl5 5 rfl) (lv_at hl5 1 rfl) (by omega) rfl dz_329 dz_330 dz_332 dz_333 dz_334 ?_
  refine lq_arg (k := 2) X hst.2 (lv_at hl5 5 rfl) (lv_at hl5 1 rfl) (by omega) rfl dz_335 dz_336 dz_338 dz_339 dz_340 ?_
  refine zw_virtual (pc := 341) (idx := 48) (n := 2) (as' := [.inl (xs (6 * j + 1)), .inl (xs (6 * j + 2))]) (rest := []) hok hF (xy_clo sv (ad, Rg)) hst m1 ⟨by omega, by omega⟩ ⟨by omega, by omega⟩ K1 hl5.1 (Nat.le_of_ble_eq_true rfl) dz_341 rfl o1 (fun H1 locs1 hst1 => ?_)
  show W p l e room_1 s m #[Value.ref b] below meth c H1 locs1 _ _ _ (F0 m 344 ls5 [.int v])
  refine lv_istore hx hb dz_344 hl5 (by decide) rfl (fun ls6 hl6 => ?_)
  refine lv_aload_n hx hb dz_346 rfl (lv_at hl6 4 rfl) ?_
  obtain ⟨m2, n2, s2, w2, q2⟩ := lq_met (l := l) (sv := sv) hG hst1.1 o2.1 (Nat.le_of_ble_eq_true rfl) (lq_VV (as' := []) (by simp) (by omega) K1') E2
  refine zw_virtual (pc := 347) (idx := 49) (n := 0) (as' := []) (rest := []) hok hF (xy_clo sv (ad, Rg)) hst1 m2 ⟨by omega, by omega⟩ ⟨by omega, by omega⟩ K1' hl6.1 (Nat.le_of_ble_eq_true rfl) dz_347 rfl o2 (fun H2 locs2 hst2 => ?_)
  show W p l e room_1 s m #[Value.ref b] below meth c H2 locs2 _ _ _ (F0 m 350 ls6 [.int (zm_I M2 12 242 0)])
  rw [hI]
  have go : ∀ cells' slots' : Nat, cells' ≤ zm_n M2 + (j + 1) → slots' ≤ zm_s M2 + 6 * (j + 1) → W p l e room_1 s m #[Value.ref b] below meth c H2 locs2 cells' slots' (lw_Z below #[Value.ref b] s) (F0 m 374 ls6 []) := by
    intro cells' slots' h1 h2
    refine lv_goto hx hb dz_374 (tgt := 1173) (by decide) ?_
    exact K ad M2 S' H2 locs2 _ _ ls6 ⟨J2, hst2, K0', K1', K2', h1, h2⟩ (lv_sub hl6 [2, 3, 4, 5, 6] rfl)
  refine lv_iload hx hb dz_350 (lv_at hl6 1 rfl) ?_
  refine lv_icmp_eq hx hb dz_352 (tgt := 357) (by decide) (fun _ => ?_) (fun h => absurd rfl h)
  refine lv_iload hx hb dz_357 (lv_at hl6 1 rfl) ?_
  refine lv_if_ne hx hb dz_359 (tgt := 374) (by decide) (fun _ => go _ _ (by omega) (by omega)) (fun hr => ?_)
  refine lv_aload_n hx hb dz_362 rfl (lv_at hl6 3 rfl) ?_
  refine lv_iconst hx hb dz_363 (v := 0) rfl ?_
  have he := z_ws_at hst2.1 K2'
  rw [z_cell_l (ad, Rg) M2] at he
  have hLn : zm_L M2 23 276 = 1 := J2.2.2.2
  have hin : z_in 0 (zm_L M2 23 276) := by rw [hLn]; decide
  refine va_lald hx hb hF.2.2.2.2.2.1.1 hst2.1.1 276 3 he rfl hin dz_364 ?_
  refine lv_iload hx hb dz_365 (lv_at hl6 0 rfl) ?_
  refine lv_i2l hx hb dz_367 rfl ?_
  refine W.lcmp hx hb dz_368 ?_
  refine lv_if_eq hx hb dz_369 (tgt := 374) (by decide) (fun _ => go _ _ (by omega) (by omega)) (fun h => absurd ((lg_cmp_eq _ _).mpr (hJ hr)) h)
/-- behind a call that made cells which no memory has -/
theorem ls_back {st0 : List Value} (hst : zw_St (ad, Rg) s M H locs)
    (kk : ∀ ad' H' locs', lr_PX ad (zm_n M) ad' → zw_St (ad', Rg) s M H' locs' → W p l e R s m args below meth c H' locs' (cells + 1) (slots + 6) Q (F0 m (pc + 3) lsA (.int 1 :: rest)))
    (hr : va_Run p l e R s m args below meth c H locs cells slots 1 6 (F0 m pc lsA st0) rest (fun st o t => o = .returned (some (.int 1)) ∧ (∃ ad', lr_PX ad (zm_n M) ad' ∧ z_Rep (ad', Rg) M t.heap) ∧ va_F (fun q => zg_base (ad, Rg) ≤ q) st t) (fun q => zg_base (ad, Rg) ≤ q)) : W p l e R s m args below meth c H locs cells slots Q (F0 m pc lsA st0) := by
  intro U hU X
  obtain ⟨v, st₀, t, U', L, h0, X', hL, e1, e2, ⟨hv, ⟨ad', hpx, hRep⟩, hF⟩, go⟩ := hr U hU X
  have hv : v = some (.int 1) := Outcome.returned.inj hv
  subst hv
  obtain ⟨g1, g2⟩ := hst
  rw [← h0] at g2
  have hS : va_S (fun q => zg_base (ad, Rg) ≤ q) s.heap t.heap (locs ++ L) := ⟨Nat.le_trans g2.1 hF.1, fun q q1 q2 => by rw [hF.2 q (Nat.lt_of_lt_of_le q1 g2.1) q2]; exact g2.2.1 q q1 q2, fun z hz => by
    rcases List.mem_append.mp hz with h | h
    · exact g2.2.2 z h
    · exact hL z h⟩
  obtain ⟨t2, a1, b1⟩ := kk ad' t.heap (locs ++ L) hpx ⟨hRep, hS⟩ U' e1 X'
  exact ⟨t2, go t2 a1, b1⟩
theorem lc_rule (hlt : l.stackTraces = false) (X : lq_X p s m meth c b L xs sv Rg) (hS0 : S0 ≤ 200000) (hM : lq_M s Rg ad M S S0 H locs cells slots j) (hl : lv_has lsA 7 (lq_ls ad b (nI (6 * j)))) (hj : 6 * j + 5 < L) (K : lq_K p l e s m below meth c b Rg S0 j) : W p l e room_1 s m #[Value.ref b] below meth c H locs cells slots (lw_Z below #[Value.ref b] s) (F0 m 309 lsA []) := by
  have l0 := lv_at hl 4 rfl
  have l1 := lv_at hl 3 rfl
  have l3 := lv_at hl 1 rfl
  have l4 := lv_at hl 0 rfl
  have hG := X.2.2.1
  have hok := lq_ok hG ad
  have hF := lq_Fr X ad
  have hL := X.2.1
  have hx := X.1.1
  have hb := X.1.2.1
  obtain ⟨_, _, hml, hown, hts, hKK, hbase⟩ := id hF
  obtain ⟨hJ, hst, K0, K1, K2, hc, hs⟩ := hM
  have b0 := cJ_max hJ
  have r1 : room_1.frames = 2048 := rfl
  have r2 : room_1.locals = 84000 := rfl
  have r3 : room_1.cells = 601024 := rfl
  have r4 : room_1.slots = 7293034 := rfl
  have kwM : kw 0 242 M := kw_of hst.1.wf hG.2.1 hG.2.2.1 K0 K1
  refine lv_aload_n hx hb dz_309 rfl l1 ?_
  refine lq_arg (k := 1) X hst.2 l0 l4 (by omega) rfl dz_310 dz_311 dz_313 dz_314 dz_315 ?_
  refine lq_arg (k := 2) X hst.2 l0 l4 (by omega) rfl dz_316 dz_317 dz_319 dz_320 dz_321 ?_
  refine lv_aload_n hx hb dz_322 rfl l3 ?_
  have pre := zw_pre (P := zq_P) (xy_clo sv (ad, Rg)) hKK hbase hst [.inr (.inr (11, some 0)), .inl (xs (6 * j + 1)), .inl (xs (6 * j + 2)), .inr (.inr (23, some 276))]
  rcases j_rule (d := 205) hJ rfl (by omega) (by omega) (xs (6 * j + 1)) (xs (6 * j + 2)) with ⟨v, e1, kk⟩ | ⟨hsp, kk⟩
  · obtain ⟨M2, S', e2, J2, hI, hJJ, _⟩ := kk v.toInt64 kwM
    have hL1 : zm_L M 23 276 = 1 := hJ.2.2.2
    have en : zm_n (zm_setJ M 23 276 0 v.toInt64) - zm_n M = 0 := Nat.sub_self _
    have es : zm_s (zm_setJ M 23 276 0 v.toInt64) - zm_s M = 0 := Nat.sub_self _
    refine zw_back (pc := 323) (rest := []) (M' := zm_setJ M 23 276 0 v.toInt64) (rv := some (.inl 0)) hst (fun H1 locs1 hst1 => ?_) (by
      rw [en, es]
      exact vx_runSW (hh := lr_hh) (bytes := method_3_code) (maxL := 5) (ret := some .int) (As := [.ref (ad 0), .int (xs (6 * j + 1)), .int (xs (6 * j + 2)), .ref (ad 276)]) (rest := []) ⟨hx, hb, hml, hown, hts⟩ (lr_A hG K0 K2 hL1 (tie_cr_rule 205 0 (xs (6 * j + 1)) (xs (6 * j + 2)) M (v, M) e1)) ⟨⟨rfl, rfl, by decide, by decide, pay_in hts (xt_good hok ls_w43), List.mem_cons_self⟩, hts _ ls_w43, hts _ ls_wini, ⟨ls_yok.1, ls_yok.2.1⟩, ls_sig, hts _ ls_wlink, hts _ ls_wstat⟩ pre rfl rfl hl.1 rfl (lv_room (Nat.le_of_ble_eq_true rfl)) dz_323 ⟨by omega, by omega⟩)
    rw [en, es]
    show W p l e room_1 s m #[Value.ref b] below meth c H1 locs1 (cells + 0) (slots + 0) _ (F0 m 326 lsA [.int 0])
    have n0 : zm_n (zm_setJ M 23 276 0 v.toInt64) = zm_n M := rfl
    have s0 : zm_s (zm_setJ M 23 276 0 v.toInt64) = zm_s M := rfl
    refine ls_tail X hS0 hst1 K0 K1 K2 (by omega) (by omega) hl hj e2 J2 hI (fun _ => ?_) K
    rw [hJJ]
    show (if (23 : Nat) = 23 ∧ (276 : Nat) = 242 + 34 ∧ (0 : Nat) = 0 then v.toInt64 else zm_J M 23 276 0) = v.toInt64
    exact if_pos ⟨rfl, rfl, rfl⟩
  · obtain ⟨v, M2, S', e2, J2, hI, _⟩ := kk kwM
    obtain ⟨⟨g, hcI⟩, _, hz, _⟩ := hJ
    refine ls_back (pc := 323) (rest := []) hst (fun ad' H1 locs1 hpx hst1 => ?_) (vx_runSW (hh := lr_hh) (bytes := method_3_code) (maxL := 5) (ret := some .int) (As := [.ref (ad 0), .int (xs (6 * j + 1)), .int (xs (6 * j + 2)), .ref (ad 276)]) (rest := []) ⟨hx, hb, hml, hown, hts⟩ (lr_B hlt hG hcI hz hsp K0) ⟨⟨rfl, rfl, by decide, by decide, pay_in hts (xt_good hok ls_w43), List.mem_cons_self⟩, hts _ ls_w43, hts _ ls_wini, ⟨ls_yok.1, ls_yok.2.1⟩, ls_sig, hts _ ls_wlink, hts _ ls_wstat⟩ pre rfl rfl hl.1 rfl (lv_room (Nat.le_of_ble_eq_true rfl)) dz_323 ⟨by omega, by omega⟩)
    show W p l e room_1 s m #[Value.ref b] below meth c H1 locs1 (cells + 1) (slots + 6) _ (F0 m 326 lsA [.int 1])
    have el : lq_ls ad' b (nI (6 * j)) = lq_ls ad b (nI (6 * j)) := by
      unfold lq_ls
      rw [hpx 276 (z_lt hst.1 K2), hpx 242 (z_lt hst.1 K1), hpx 0 (z_lt hst.1 K0)]
    exact ls_tail X hS0 hst1 K0 K1 K2 (by omega) (by omega) (by rw [el]; exact hl) hj e2 J2 hI (fun h => absurd h (by decide)) K
end
