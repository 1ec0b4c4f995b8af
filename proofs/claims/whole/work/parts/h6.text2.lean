/-! TEXTS, second: String.length, String.charAt -/
abbrev xGW : List Cond := zp_GW zq_P
theorem xd_chk : decode prog_21_method_155_code 5 = .ok (.invokestatic 1059, 3) := by decide +kernel
theorem xd_lch : decode prog_22_method_2_code 3 = .ok (.invokestatic 9, 3) := by decide +kernel
theorem xd_len : decode prog_21_method_54_code 6 = .ok (.invokevirtual 335, 3) := by decide +kernel
theorem xd_ch1 : decode prog_21_method_56_code 1 = .ok (.invokevirtual 492, 3) := by decide +kernel
theorem xd_ch2 : decode prog_21_method_56_code 12 = .ok (.invokestatic 495, 3) := by decide +kernel
theorem xc_len : Cond.code ⟨"java/lang/String", "length", "()I"⟩ prog_21_method_54_code 1 (some .int) ∈ lw_tbl.filter goodWord := tx_wOk (i := 1533) (by decide +kernel)
theorem xc_coder : Cond.code xy_coder prog_21_method_152_code 1 (some .byte) ∈ lw_tbl.filter goodWord := tx_wOk (i := 1537) (by decide +kernel)
theorem xc_lat : Cond.code xy_lat prog_21_method_154_code 1 (some .boolean) ∈ lw_tbl.filter goodWord := tx_wOk (i := 1547) (by decide +kernel)
theorem xc_lchar : Cond.code xy_lchar prog_22_method_2_code 2 (some .char) ∈ lw_tbl.filter goodWord := tx_wOk (i := 1550) (by decide +kernel)
theorem xc_check : Cond.code xy_check prog_21_method_155_code 2 none ∈ lw_tbl.filter goodWord := tx_wOk (i := 1553) (by decide +kernel)
theorem xc_pre : Cond.code xy_pre prog_29_method_11_code 3 (some .int) ∈ lw_tbl.filter goodWord := tx_wOk (i := 1558) (by decide +kernel)
theorem xi_str : Cond.initialized "java/lang/String" ∈ lw_tbl.filter goodWord := tx_wOk (i := 198) (by decide +kernel)
theorem xi_lat : Cond.initialized "java/lang/StringLatin1" ∈ lw_tbl.filter goodWord := tx_wOk (i := 199) (by decide +kernel)
theorem xi_pre : Cond.initialized "jdk/internal/util/Preconditions" ∈ lw_tbl.filter goodWord := tx_wOk (i := 200) (by decide +kernel)
theorem xl_coder : Cond.methodLink "java/lang/String" 335 xy_coder ∈ lw_tbl.filter goodWord := tx_wOk (i := 1534) (by decide +kernel)
theorem xn_coder : Cond.instanceMethod xy_coder ∈ lw_tbl.filter goodWord := tx_wOk (i := 1535) (by decide +kernel)
theorem xs_coder : Cond.selects "java/lang/String" xy_coder xy_coder ∈ lw_tbl.filter goodWord := tx_wOk (i := 1536) (by decide +kernel)
theorem xl_lat : Cond.methodLink "java/lang/String" 492 xy_lat ∈ lw_tbl.filter goodWord := tx_wOk (i := 1544) (by decide +kernel)
theorem xn_lat : Cond.instanceMethod xy_lat ∈ lw_tbl.filter goodWord := tx_wOk (i := 1545) (by decide +kernel)
theorem xs_lat : Cond.selects "java/lang/String" xy_lat xy_lat ∈ lw_tbl.filter goodWord := tx_wOk (i := 1546) (by decide +kernel)
theorem xl_lchar : Cond.methodLink "java/lang/String" 495 xy_lchar ∈ lw_tbl.filter goodWord := tx_wOk (i := 1548) (by decide +kernel)
theorem xt_lchar : Cond.static xy_lchar ∈ lw_tbl.filter goodWord := tx_wOk (i := 1549) (by decide +kernel)
theorem xl_check : Cond.methodLink "java/lang/StringLatin1" 9 xy_check ∈ lw_tbl.filter goodWord := tx_wOk (i := 1551) (by decide +kernel)
theorem xt_check : Cond.static xy_check ∈ lw_tbl.filter goodWord := tx_wOk (i := 1552) (by decide +kernel)
theorem xf_sio : Cond.fieldLink "java/lang/String" 1053 "jdk/internal/util/Preconditions" "SIOOBE_FORMATTER" "Ljava/util/function/BiFunction;" ∈ lw_tbl.filter goodWord := tx_wOk (i := 1554) (by decide +kernel)
theorem xl_pre : Cond.methodLink "java/lang/String" 1059 xy_pre ∈ lw_tbl.filter goodWord := tx_wOk (i := 1556) (by decide +kernel)
theorem xt_pre2 : Cond.static xy_pre ∈ lw_tbl.filter goodWord := tx_wOk (i := 1557) (by decide +kernel)
theorem xm_pre (l : Launch) {sv : Nat → Nat} {G : zG} {i n : Int32} (h0 : ¬ i < 0) (h1 : i < n) (o : Option Nat) : Met l xy_pre (.code xy_pre prog_29_method_11_code 3 (some .int) :: zp_GW zq_P) (xt_room 1) (xt_P sv G [.int i, .int n, va_rf o]) (vp_Si (fun r => r = i)) 0 0 (fun _ => False) := by
  have hfit : (lg_sl [.int i, .int n, va_rf o]).length ≤ 3 := by cases o <;> exact Nat.le_refl 3
  refine xt_of (by decide +kernel) hfit ?_
  intro p e s m args below meth c lsA hx hb hml hown hts hr hlocks hbase hE hl
  have l0 : lsA[0]? = some (.val (.int i)) := lv_at hl 0 rfl
  have l1 : lsA[1]? = some (.val (.int n)) := lv_at hl 1 rfl
  refine lv_iload_n hx hb (pc := 0) (k := 0) (by decide +kernel) rfl l0 ?_
  refine lv_if_lt hx hb (pc := 1) (tgt := 9) (off := 8) (by decide +kernel) (by decide) (fun h => absurd h h0) (fun _ => ?_)
  refine lv_iload_n hx hb (pc := 4) (k := 0) (by decide +kernel) rfl l0 ?_
  refine lv_iload_n hx hb (pc := 5) (k := 1) (by decide +kernel) rfl l1 ?_
  refine lv_icmp_lt hx hb (pc := 6) (tgt := 16) (off := 10) (by decide +kernel) (by decide) (fun _ => ?_) (fun h => absurd h1 h)
  refine lv_iload_n hx hb (pc := 16) (k := 0) (by decide +kernel) rfl l0 ?_
  exact W.iret hx hb hr (fun t ht _ => ⟨i, rfl, rfl, ht⟩) (fun q hq => by cases hq) (by decide +kernel) hlocks
theorem xm_check (l : Launch) {sv : Nat → Nat} {G : zG} (hok : z_ok zq_T zq_P G) {i n : Int32} (h0 : ¬ i < 0) (h1 : i < n) : Met l xy_check (.code xy_check prog_21_method_155_code 2 none :: zp_GW zq_P) (xt_room 2) (xt_P sv G [.int i, .int n]) (va_Sv (fun _ => True)) 0 0 (fun _ => False) := by
  refine xt_of (by decide +kernel) (Nat.le_refl 2) ?_
  intro p e s m args below meth c lsA hx hb hml hown hts hr hlocks hbase hE hl
  have l0 : lsA[0]? = some (.val (.int i)) := lv_at hl 0 rfl
  have l1 : lsA[1]? = some (.val (.int n)) := lv_at hl 1 rfl
  refine lv_iload_n hx hb (pc := 0) (k := 0) (by decide +kernel) rfl l0 ?_
  refine lv_iload_n hx hb (pc := 1) (k := 1) (by decide +kernel) rfl l1 ?_
  obtain ⟨o, ho⟩ : ∃ o : Option Nat, va_Z "jdk/internal/util/Preconditions" "SIOOBE_FORMATTER" "Ljava/util/function/BiFunction;" (va_rf o) (xt_A G) s s.heap := by
    rcases hE.2.1 with h | ⟨t, h⟩
    · exact ⟨none, h⟩
    · exact ⟨some t, h⟩
  refine va_gets hx hb (pc := 2) ho va_S.rf hown (hts _ xf_sio) (fun _ h => h) (by decide +kernel) ?_
  refine vp_callSi (pc := 5) (va_Run.run (va_runS (As := [.int i, .int n, va_rf o]) (rest := []) ⟨hx, hb, hml, hown, hts⟩ (xm_pre l h0 h1 o) ⟨callB_of (R := xt_room 2) (own := "java/lang/String") (index := 1059) (rm := xt_room 1) 3 hts (xt_good hok xc_pre) rfl rfl rfl (hts _ xi_pre) (hts _ xl_pre) ⟨by decide, by decide, by decide +kernel⟩ ⟨Nat.le_refl 2, Nat.le_of_ble_eq_true rfl⟩, hts _ xt_pre2⟩ (xt_pre _ hbase hE) rfl rfl hl.1 rfl (lv_room (Nat.le_of_ble_eq_true rfl)) xd_chk ⟨Nat.le_refl 0, Nat.le_refl 0⟩)) (fun r hr2 => ?_)
  refine lv_pop hx hb (pc := 8) (by decide +kernel) rfl ?_
  exact W.vret hx hb hr (fun t ht _ => ⟨rfl, trivial, ht⟩) (fun q hq => by cases hq) (by decide +kernel) hlocks
theorem xq_char : ∀ j, j < 12 → ∀ b ∈ tq_txt.getD j [], ((b &&& 255).toUInt32 % 65536).toInt32 = b ∧ narrow .char (.int b) = .int b := by decide +kernel
theorem xq_len : ∀ j, j < 12 → (tq_txt.getD j []).length < 1000 := by decide +kernel
theorem xq_at {j : Nat} {i : Int32} (hj : j < 12) (hi : z_in i (tq_txt.getD j []).length) : (tq_txt.getD j []).getD i.toNatClampNeg 0 ∈ tq_txt.getD j [] := by
  have h : i.toNatClampNeg < (tq_txt.getD j []).length := Nat.not_le.mp (fun q => hi (.inr q))
  generalize tq_txt.getD j [] = q at h ⊢
  rw [List.getD_eq_getElem?_getD, List.getElem?_eq_getElem h]
  exact List.getElem_mem h
theorem xm_lchar (l : Launch) {sv : Nat → Nat} {G : zG} (hok : z_ok zq_T zq_P G) (hS : zg_nS G = 12) {j : Nat} (hj : j < 12) {i : Int32} (hi : z_in i (tq_txt.getD j []).length) : Met l xy_lchar (.code xy_lchar prog_22_method_2_code 2 (some .char) :: zp_GW zq_P) (xt_room 3) (xt_P sv G [.ref (sv j), .int i]) (vp_Si (fun r => r = (tq_txt.getD j []).getD i.toNatClampNeg 0)) 0 0 (fun _ => False) := by
  refine xt_of (by decide +kernel) (Nat.le_refl 2) ?_
  intro p e s m args below meth c lsA hx hb hml hown hts hr hlocks hbase hE hl
  have l0 : lsA[0]? = some (.val (.ref (sv j))) := lv_at hl 0 rfl
  have l1 : lsA[1]? = some (.val (.int i)) := lv_at hl 1 rfl
  obtain ⟨h1, h2, h3, h4⟩ := hE.2.2 j (by rw [hS]; exact hj)
  have hlen := xq_len j hj
  have i0 : ¬ i < 0 := fun q => hi (.inl q)
  have i1 : i < Int32.ofNat (tq_txt.getD j []).length := by
    obtain ⟨k, hk, rfl⟩ := nI_of i0
    have : k < (tq_txt.getD j []).length := by
      have : ¬ (nI k < 0 ∨ (tq_txt.getD j []).length ≤ (nI k).toNatClampNeg) := hi
      rw [nI_clamp hk] at this
      omega
    exact nI_lt this (by omega)
  have hc := xq_char j hj _ (xq_at hj hi)
  refine lv_iload_n hx hb (pc := 0) (k := 1) (by decide +kernel) rfl l1 ?_
  refine lv_aload_n hx hb (pc := 1) (k := 0) (by decide +kernel) rfl l0 ?_
  refine va_tlen hx hb (pc := 2) h4 va_S.rf rfl (by decide +kernel) ?_
  refine va_csv (pc := 3) (va_Run.run (va_runS (As := [.int i, .int (Int32.ofNat (tq_txt.getD j []).length)]) (rest := []) ⟨hx, hb, hml, hown, hts⟩ (xm_check l hok i0 i1) ⟨callB_of (R := xt_room 3) (own := "java/lang/StringLatin1") (index := 9) (rm := xt_room 2) 2 hts (xt_good hok xc_check) rfl rfl rfl (hts _ xi_str) (hts _ xl_check) ⟨by decide, by decide, by decide +kernel⟩ ⟨Nat.le_refl 3, Nat.le_of_ble_eq_true rfl⟩, hts _ xt_check⟩ (xt_pre _ hbase hE) rfl rfl hl.1 rfl (lv_room (Nat.le_of_ble_eq_true rfl)) xd_lch ⟨Nat.le_refl 0, Nat.le_refl 0⟩)) (fun _ => ?_)
  refine lv_aload_n hx hb (pc := 6) (k := 0) (by decide +kernel) rfl l0 ?_
  refine lv_iload_n hx hb (pc := 7) (k := 1) (by decide +kernel) rfl l1 ?_
  refine va_tb hx hb (pc := 8) h4 va_S.rf hi rfl (by decide +kernel) ?_
  refine lv_sipush hx hb (pc := 9) (n := 255) (v := 255) (by decide +kernel) (by decide) ?_
  refine lv_iand hx hb (pc := 12) (by decide +kernel) ?_
  refine lv_i2c hx hb (pc := 13) (by decide +kernel) hc.1 ?_
  exact W.zret hx hb hr hc.2 (fun t ht _ => ⟨_, rfl, rfl, ht⟩) (fun q hq => by cases hq) (by decide +kernel) hlocks
/-- the receiver: a text -/
theorem xt_recv {sv : Nat → Nat} {G : zG} {s : State} (hE : xt_E sv G s) {j : Nat} (hj : j < zg_nS G) : ∃ cellB : Cell, s.heap[zg_sa G j]? = some cellB ∧ cellB.vm.isStatics = false ∧ s.vm.findClass "java/lang/String" = some cellB.cls := by
  obtain ⟨cell, q1, q2, q3, _⟩ := (hE.2.2 j hj).1
  exact ⟨cell, q1, q2, q3⟩
theorem xm_len (l : Launch) {sv : Nat → Nat} {G : zG} {XX : State → Prop} (hXX : ∀ U, XX U → xt_E sv G U) (hok : z_ok zq_T zq_P G) (hS : zg_nS G = 12) {j : Nat} (hj : j < 12) {M : zM} : z_Met zq_T zq_P G XX l z_roomX 317 [.inr (.inr (91, some j))] M (some (.inl (Int32.ofNat (tq_txt.getD j []).length))) M := by
  unfold z_Met
  rw [Nat.sub_self, Nat.sub_self]
  refine Met.ofW (cc := prog_21_method_54_code) (maxL := 1) (ret := some .int) (by decide +kernel) rfl ?_
  intro p e s m args below meth c s₁ Bd hml hPc
  obtain ⟨rfl, hRep, hbase, hKK⟩ := hPc
  have hts0 := atoms_spec (ws := Cond.code (zp_Y zq_P 317) (zp_B zq_P 317) (zt_nL zq_T 317) (zp_RT zq_P 317) :: zp_GW zq_P) Bd.pre
  have hts : ∀ w ∈ zp_GW zq_P, w.before _ s = true := fun w hw => hts0 w (List.mem_cons_of_mem _ hw)
  have hl := lv_entry [Value.ref (zg_sa G j)] (n := 1) (Nat.le_refl 1)
  have hx := Bd.exec
  have hb := Bd.bytes
  have hown := findClass_of_methodNamed Bd.named
  have hE : xt_E sv G s := hXX s hKK.2.2.2.2.2
  rw [lg_entry_eq]
  show W p l e _ s m _ below meth c s.heap [] 0 0 _ (F0 m 0 (lg_sl [Value.ref (zg_sa G j)] ++ List.replicate (1 - (lg_sl [Value.ref (zg_sa G j)]).length) Slot.unset).toArray [])
  generalize (lg_sl [Value.ref (zg_sa G j)] ++ List.replicate (1 - (lg_sl [Value.ref (zg_sa G j)]).length) Slot.unset).toArray = lsA at hl ⊢
  have l0 : lsA[0]? = some (.val (.ref (zg_sa G j))) := lv_at hl 0 rfl
  have hj' : j < zg_nS G := by rw [hS]; exact hj
  obtain ⟨h1, h2, h3, h4⟩ := hE.2.2 j hj'
  refine lv_aload_n hx hb (pc := 0) (k := 0) (by decide +kernel) rfl l0 ?_
  refine vk_getf hx hb (pc := 1) h3 va_S.rf hown (hts _ xw_val) (fun _ h => h) (by decide +kernel) ?_
  refine va_tlen hx hb (pc := 4) h4 va_S.rf rfl (by decide +kernel) ?_
  refine lv_aload_n hx hb (pc := 5) (k := 0) (by decide +kernel) rfl l0 ?_
  refine vp_callSi (pc := 6) (va_Run.run (va_runV (As := []) (C := "java/lang/String") (rest := [.int (Int32.ofNat (tq_txt.getD j []).length)]) ⟨hx, hb, hml, hown, hts⟩ (xm_coder l hj') ⟨callB_of (own := "java/lang/String") (index := 335) (rm := xt_room 1) 0 hts (xt_good hok xc_coder) rfl rfl rfl (hts _ xi_str) (hts _ xl_coder) ⟨by decide, by decide, by decide +kernel⟩ ⟨by decide, by decide⟩, hts _ xn_coder, hts _ xs_coder⟩ ⟨xt_blind sv G _, xt_recv hE hj', (xt_pre _ hbase hE).2⟩ rfl rfl hl.1 rfl (lv_room (Nat.le_of_ble_eq_true rfl)) xd_len ⟨Nat.le_refl 0, Nat.le_refl 0⟩)) (fun r hr2 => ?_)
  subst hr2
  refine lv_ishr hx hb (pc := 9) (by decide +kernel) ?_
  have e9 : Int32.ofNat (tq_txt.getD j []).length >>> ((0 : Int32) &&& 31) = Int32.ofNat (tq_txt.getD j []).length := by
    show _ >>> (0 : Int32) = _
    exact Int32.shiftRight_zero
  rw [e9]
  exact W.iret hx hb Bd.returns (fun t ht _ => ⟨rfl, by rw [ht]; exact hRep, by rw [ht]; exact Nat.le_refl _, fun q _ _ => by rw [ht]⟩) (fun q hq => by cases hq) (by decide +kernel) Bd.notSynchronized
theorem xm_char (l : Launch) {sv : Nat → Nat} {G : zG} {XX : State → Prop} (hXX : ∀ U, XX U → xt_E sv G U) (hok : z_ok zq_T zq_P G) (hS : zg_nS G = 12) {j : Nat} (hj : j < 12) {i : Int32} (hi : z_in i (tq_txt.getD j []).length) {M : zM} : z_Met zq_T zq_P G XX l z_roomX 318 [.inr (.inr (91, some j)), .inl i] M (some (.inl ((tq_txt.getD j []).getD i.toNatClampNeg 0))) M := by
  unfold z_Met
  rw [Nat.sub_self, Nat.sub_self]
  refine Met.ofW (cc := prog_21_method_56_code) (maxL := 2) (ret := some .char) (by decide +kernel) rfl ?_
  intro p e s m args below meth c s₁ Bd hml hPc
  obtain ⟨rfl, hRep, hbase, hKK⟩ := hPc
  have hts0 := atoms_spec (ws := Cond.code (zp_Y zq_P 318) (zp_B zq_P 318) (zt_nL zq_T 318) (zp_RT zq_P 318) :: zp_GW zq_P) Bd.pre
  have hts : ∀ w ∈ zp_GW zq_P, w.before _ s = true := fun w hw => hts0 w (List.mem_cons_of_mem _ hw)
  have hl := lv_entry [Value.ref (zg_sa G j), Value.int i] (n := 2) (Nat.le_refl 2)
  have hx := Bd.exec
  have hb := Bd.bytes
  have hown := findClass_of_methodNamed Bd.named
  have hE : xt_E sv G s := hXX s hKK.2.2.2.2.2
  rw [lg_entry_eq]
  show W p l e _ s m _ below meth c s.heap [] 0 0 _ (F0 m 0 (lg_sl [Value.ref (zg_sa G j), Value.int i] ++ List.replicate (2 - (lg_sl [Value.ref (zg_sa G j), Value.int i]).length) Slot.unset).toArray [])
  generalize (lg_sl [Value.ref (zg_sa G j), Value.int i] ++ List.replicate (2 - (lg_sl [Value.ref (zg_sa G j), Value.int i]).length) Slot.unset).toArray = lsA at hl ⊢
  have l0 : lsA[0]? = some (.val (.ref (zg_sa G j))) := lv_at hl 0 rfl
  have l1 : lsA[1]? = some (.val (.int i)) := lv_at hl 1 rfl
  have hj' : j < zg_nS G := by rw [hS]; exact hj
  obtain ⟨h1, h2, h3, h4⟩ := hE.2.2 j hj'
  have hc := xq_char j hj _ (xq_at hj hi)
  refine lv_aload_n hx hb (pc := 0) (k := 0) (by decide +kernel) rfl l0 ?_
  refine vp_callSi (pc := 1) (va_Run.run (va_runV (As := []) (C := "java/lang/String") (rest := []) ⟨hx, hb, hml, hown, hts⟩ (xm_lat l hj') ⟨callB_of (own := "java/lang/String") (index := 492) (rm := xt_room 1) 0 hts (xt_good hok xc_lat) rfl rfl rfl (hts _ xi_str) (hts _ xl_lat) ⟨by decide, by decide, by decide +kernel⟩ ⟨by decide, by decide⟩, hts _ xn_lat, hts _ xs_lat⟩ ⟨xt_blind sv G _, xt_recv hE hj', (xt_pre _ hbase hE).2⟩ rfl rfl hl.1 rfl (lv_room (Nat.le_of_ble_eq_true rfl)) xd_ch1 ⟨Nat.le_refl 0, Nat.le_refl 0⟩)) (fun r hr2 => ?_)
  subst hr2
  refine lv_if_eq hx hb (pc := 4) (tgt := 16) (off := 12) (by decide +kernel) (by decide) (fun h => absurd h (by decide)) (fun _ => ?_)
  refine lv_aload_n hx hb (pc := 7) (k := 0) (by decide +kernel) rfl l0 ?_
  refine vk_getf hx hb (pc := 8) h3 va_S.rf hown (hts _ xw_val) (fun _ h => h) (by decide +kernel) ?_
  refine lv_iload_n hx hb (pc := 11) (k := 1) (by decide +kernel) rfl l1 ?_
  refine vp_callSi (pc := 12) (va_Run.run (va_runS (As := [.ref (sv j), .int i]) (rest := []) ⟨hx, hb, hml, hown, hts⟩ (xm_lchar l hok hS hj hi) ⟨callB_of (own := "java/lang/String") (index := 495) (rm := xt_room 3) 2 hts (xt_good hok xc_lchar) rfl rfl rfl (hts _ xi_lat) (hts _ xl_lchar) ⟨by decide, by decide, by decide +kernel⟩ ⟨by decide, by decide⟩, hts _ xt_lchar⟩ (xt_pre _ hbase hE) rfl rfl hl.1 rfl (lv_room (Nat.le_of_ble_eq_true rfl)) xd_ch2 ⟨Nat.le_refl 0, Nat.le_refl 0⟩)) (fun r hr2 => ?_)
  subst hr2
  exact W.zret hx hb Bd.returns hc.2 (fun t ht _ => ⟨rfl, by rw [ht]; exact hRep, by rw [ht]; exact Nat.le_refl _, fun q _ _ => by rw [ht]⟩) (fun q hq => by cases hq) (by decide +kernel) Bd.notSynchronized
/-- methods from outside -/
theorem xt_ext (l : Launch) {sv : Nat → Nat} {G : zG} {XX : State → Prop} (hXX : ∀ U, XX U → xt_E sv G U) (hok : z_ok zq_T zq_P G) (hS : zg_nS G = 12) : z_Ext zq_T zq_P G XX l := by
  intro callee as v M h hva
  replace h : tq_X callee as = some v := h
  unfold tq_X at h
  by_cases c1 : Nat.beq callee 317 = true
  · rw [c1] at h
    have := Nat.eq_of_beq_eq_true c1
    subst this
    dsimp only [cond_true] at h
    split at h
    · cases h
      have hk := hva _ List.mem_cons_self
      rename_i j
      have hj : j < 12 := by
        rcases hk with h | h | h
        · exact absurd h.1 (by omega)
        · exact absurd h.1 (by omega)
        · rw [← hS]; exact h.2
      exact xm_len l hXX hok hS hj
    · cases h
  · rw [Bool.not_eq_true] at c1
    rw [c1] at h
    dsimp only [cond_false] at h
    by_cases c2 : Nat.beq callee 318 = true
    · rw [c2] at h
      have := Nat.eq_of_beq_eq_true c2
      subst this
      (try dsimp only [cond_true] at h)
      split at h
      · rename_i j i
        obtain ⟨hi, h⟩ := z_ite h
        cases h
        have hk := hva _ List.mem_cons_self
        have hj : j < 12 := by
          rcases hk with h | h | h
          · exact absurd h.1 (by omega)
          · exact absurd h.1 (by omega)
          · rw [← hS]; exact h.2
        exact xm_char l hXX hok hS hj hi
      · cases h
    · rw [Bool.not_eq_true] at c2
      rw [c2] at h
      cases h
/-! what a throw stands on -/
def xy_N : String := "java/util/NoSuchElementException"
def xy_R : String := "java/lang/RuntimeException"
def xy_X : String := "java/lang/Exception"
def xy_E (sv : Nat → Nat) (G : zG) (U : State) : Prop := xt_E sv G U ∧ (vx_Zq Bundle.tN "UNASSIGNED_STACK" Bundle.steD (xt_A G) U U.heap ∧ vx_Zq Bundle.tN "SUPPRESSED_SENTINEL" Bundle.listD (xt_A G) U U.heap) ∧ va_Nw (.declares (Bundle.initS xy_R)) U ∧ va_Nw (.declares (Bundle.initS xy_X)) U ∧ va_Nw (.declares (Bundle.initS Bundle.tN)) U ∧ va_Nw (.castable xy_N xy_N) U
theorem xy_warm {sv : Nat → Nat} {G : zG} {s U : State} (hW : s.WarmedH U.vm) (hq : ∀ q, q < zg_base G → U.heap[q]? = s.heap[q]?) (h : xy_E sv G s) : xy_E sv G U := by
  have k : ∀ a : Nat, a < s.heap.size → ¬ xt_A G a → U.heap[a]? = s.heap[a]? := fun a _ g => hq a (Nat.lt_of_not_le g)
  obtain ⟨h1, ⟨h2, h3⟩, h4, h5, h6, h7⟩ := h
  exact ⟨xt_warm hW hq h1, ⟨(h2.kept k).moved hW.alike, (h3.kept k).moved hW.alike⟩, va_Nw.warmD hW h4, va_Nw.warmD hW h5, va_Nw.warmD hW h6, va_Nw.warmC hW h7⟩
theorem xy_clo (sv : Nat → Nat) (G : zG) : z_clo G (xy_E sv G) := ⟨fun s U hW _ hq h => xy_warm hW hq h, fun U h j hj => (xt_clo sv G).2 U h.1 j hj⟩
