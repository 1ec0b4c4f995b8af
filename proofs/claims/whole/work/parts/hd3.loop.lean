/-! THE LAW'S LOOP -/
section
variable {p : Program} {l : Launch} {e : Env} {s : State} {m : MethodId} {below : List Frame} {meth : Method} {c : Code} {b L j S0 : Nat} {xs : Nat → Int32} {sv : Nat → Nat} {Rg : zGr}
variable {ad : Nat → Nat} {M : zM} {S : yZ} {H : Heap} {locs : List Loc} {cells slots : Nat} {lsA : Array Slot} {Q : State → Prop}
theorem lq_turn (X : lq_X p s m meth c b L xs sv Rg) (hS : va_S (fun q => zg_base (ad, Rg) ≤ q) s.heap H locs) (hl : lv_has lsA 7 (lq_ls ad b (nI (6 * j)))) (hj : 6 * j ≤ L + 5) (kt : L ≤ 6 * j + 5 → W p l e room_1 s m #[Value.ref b] below meth c H locs cells slots Q (F0 m 1179 lsA [])) (kf : 6 * j + 5 < L → W p l e room_1 s m #[Value.ref b] below meth c H locs cells slots Q (F0 m 33 lsA [])) : W p l e room_1 s m #[Value.ref b] below meth c H locs cells slots Q (F0 m 23 lsA []) := by
  obtain ⟨⟨hx, hb, hr, hml, hown, hts, hX, hbl, hlocks, hgv⟩, hL, hG, hbase, hKK⟩ := X
  have hbA : ¬ zg_base (ad, Rg) ≤ b := by
    have e : zg_base (ad, Rg) = s.heap.size := hbase
    omega
  refine lv_iload hx hb dz_23 (lv_at hl 0 rfl) ?_
  refine lv_aload_n hx hb dz_25 rfl (lv_at hl 4 rfl) ?_
  refine va_slen hx hb hX hbl hbA hS dz_26 ?_
  refine lv_bipush hx hb dz_27 (v := 6) (by decide) ?_
  refine lv_isub hx hb dz_29 ?_
  have hc : (Int32.ofNat L - 6 < nI (6 * j)) ↔ L < 6 * j + 6 := by
    rw [fa_lt]
    have e1 : (Int32.ofNat L - 6).toInt = (L : Int) - (6 : Nat) := pk_sub_toInt (a := L) (b := 6) (by omega) (by decide)
    rw [e1, nI_toInt (by omega)]
    omega
  refine lv_icmp_gt hx hb dz_30 (tgt := 1179) (by decide) (fun h => kt (by have := hc.mp h; omega)) (fun h => kf ?_)
  have h3 : ¬ L < 6 * j + 6 := fun q => h (hc.mpr q)
  omega
theorem lq_end (X : lq_X p s m meth c b L xs sv Rg) (hS0 : S0 ≤ 200000) (hM : lq_M s Rg ad M S S0 H locs cells slots j) (hj : 6 * j ≤ L + 5) : W p l e room_1 s m #[Value.ref b] below meth c H locs cells slots (lw_Z below #[Value.ref b] s) (F0 m 1179 lsA []) := by
  obtain ⟨⟨hx, hb, hr, hml, hown, hts, hX, hbl, hlocks, hgv⟩, hL, hG, hbase, hKK⟩ := X
  obtain ⟨hJ, hst, _, _, _, hc, hs⟩ := hM
  have b0 := cJ_max hJ
  refine lv_iconst hx hb dz_1179 (v := 1) rfl ?_
  refine va_forget (fun q hq => ?_) (W.widen (k := 601024) (n := 7293034) (by omega) (by omega) (lw_ret hx hb hr hlocks dz_1180))
  have e : zg_base (ad, Rg) = s.heap.size := hbase
  have h4 := hst.2.2.2 q hq
  rw [e] at h4
  exact h4
theorem lq_body (hlt : l.stackTraces = false) (X : lq_X p s m meth c b L xs sv Rg) (hS0 : S0 ≤ 200000) (hM : lq_M s Rg ad M S S0 H locs cells slots j) (hl : lv_has lsA 7 (lq_ls ad b (nI (6 * j)))) (hj : 6 * j + 5 < L) (K : lq_K p l e s m below meth c b Rg S0 j) : W p l e room_1 s m #[Value.ref b] below meth c H locs cells slots (lw_Z below #[Value.ref b] s) (F0 m 33 lsA []) := by
  obtain ⟨⟨hx, hb, hr, hml, hown, hts, hX, hbl, hlocks, hgv⟩, hL, hG, hbase, hKK⟩ := id X
  have hbA : ¬ zg_base (ad, Rg) ≤ b := by
    have e : zg_base (ad, Rg) = s.heap.size := hbase
    omega
  refine lv_aload_n hx hb dz_33 rfl (lv_at hl 4 rfl) ?_
  refine lv_iload hx hb dz_34 (lv_at hl 0 rfl) ?_
  refine va_sld hx hb hX hbl hbA hM.2.1.2 (nI_in (show 6 * j < L by omega) (by omega)) dz_36 ?_
  rw [nI_clamp (by omega)]
  refine lv_bipush hx hb dz_37 (v := 31) (by decide) ?_
  refine lv_iand hx hb dz_39 ?_
  obtain ⟨k, hk, ek⟩ := pk_andE (xs (6 * j)) (m := 31) 5 (by decide)
  rw [ek]
  have h32 : k < 32 := hk
  by_cases h : 25 < k
  · refine lv_tableOut hx hb dz_40 (tgt := 1173) (.inr (by rw [nI_toInt (by omega)]; omega)) (by decide) ?_
    obtain ⟨hJ, hst, K0, K1, K2, hc, hs⟩ := hM
    exact K ad M S H locs cells slots lsA ⟨hJ, hst, K0, K1, K2, by omega, by omega⟩ hl
  · rcases (show k = 0 ∨ k = 1 ∨ k = 2 ∨ k = 3 ∨ k = 4 ∨ k = 5 ∨ k = 6 ∨ k = 7 ∨ k = 8 ∨ k = 9 ∨ k = 10 ∨ k = 11 ∨ k = 12 ∨ k = 13 ∨ k = 14 ∨ k = 15 ∨ k = 16 ∨ k = 17 ∨ k = 18 ∨ k = 19 ∨ k = 20 ∨ k = 21 ∨ k = 22 ∨ k = 23 ∨ k = 24 ∨ k = 25 by omega) with rfl | rfl | rfl | rfl | rfl | rfl | rfl | rfl | rfl | rfl | rfl | rfl | rfl | rfl | rfl | rfl | rfl | rfl | rfl | rfl | rfl | rfl | rfl | rfl | rfl | rfl
    · exact lv_tableIn hx hb dz_40 (tgt := 160) (off := 120) (by decide) (by decide) (by decide +kernel) (by decide) (lc_feed X hS0 hM hl hj K)
    · exact lv_tableIn hx hb dz_40 (tgt := 233) (off := 193) (by decide) (by decide) (by decide +kernel) (by decide) (lc_end X hS0 hM hl hj K)
    · exact lv_tableIn hx hb dz_40 (tgt := 258) (off := 218) (by decide) (by decide) (by decide +kernel) (by decide) (lc_fault X hS0 hM hl hj K)
    · exact lv_tableIn hx hb dz_40 (tgt := 283) (off := 243) (by decide) (by decide) (by decide +kernel) (by decide) (lc_rules X hS0 hM hl hj K)
    · exact lv_tableIn hx hb dz_40 (tgt := 296) (off := 256) (by decide) (by decide) (by decide +kernel) (by decide) (lc_document X hS0 hM hl hj K)
    · exact lv_tableIn hx hb dz_40 (tgt := 309) (off := 269) (by decide) (by decide) (by decide +kernel) (by decide) (lc_rule hlt X hS0 hM hl hj K)
    · exact lv_tableIn hx hb dz_40 (tgt := 377) (off := 337) (by decide) (by decide) (by decide +kernel) (by decide) (lc_occurrence X hS0 hM hl hj K)
    · exact lv_tableIn hx hb dz_40 (tgt := 426) (off := 386) (by decide) (by decide) (by decide +kernel) (by decide) (lc_counted X hS0 hM hl hj K)
    · exact lv_tableIn hx hb dz_40 (tgt := 475) (off := 435) (by decide) (by decide) (by decide +kernel) (by decide) (lc_any X hS0 hM hl hj K)
    · exact lv_tableIn hx hb dz_40 (tgt := 524) (off := 484) (by decide) (by decide) (by decide +kernel) (by decide) (lc_witness X hS0 hM hl hj K)
    · exact lv_tableIn hx hb dz_40 (tgt := 589) (off := 549) (by decide) (by decide) (by decide +kernel) (by decide) (lc_shown X hS0 hM hl hj K)
    · exact lv_tableIn hx hb dz_40 (tgt := 654) (off := 614) (by decide) (by decide) (by decide +kernel) (by decide) (lc_shortest X hS0 hM hl hj K)
    · exact lv_tableIn hx hb dz_40 (tgt := 691) (off := 651) (by decide) (by decide) (by decide +kernel) (by decide) (lc_words X hS0 hM hl hj K)
    · exact lv_tableIn hx hb dz_40 (tgt := 728) (off := 688) (by decide) (by decide) (by decide +kernel) (by decide) (lc_reads X hS0 hM hl hj K)
    · exact lv_tableIn hx hb dz_40 (tgt := 753) (off := 713) (by decide) (by decide) (by decide +kernel) (by decide) (lc_read X hS0 hM hl hj K)
    · exact lv_tableIn hx hb dz_40 (tgt := 778) (off := 738) (by decide) (by decide) (by decide +kernel) (by decide) (lc_taken X hS0 hM hl hj K)
    · exact lv_tableIn hx hb dz_40 (tgt := 815) (off := 775) (by decide) (by decide) (by decide +kernel) (by decide) (lc_times X hS0 hM hl hj K)
    · exact lv_tableIn hx hb dz_40 (tgt := 840) (off := 800) (by decide) (by decide) (by decide +kernel) (by decide) (lc_parts X hS0 hM hl hj K)
    · exact lv_tableIn hx hb dz_40 (tgt := 865) (off := 825) (by decide) (by decide) (by decide +kernel) (by decide) (lc_mended X hS0 hM hl hj K)
    · exact lv_tableIn hx hb dz_40 (tgt := 890) (off := 850) (by decide) (by decide) (by decide +kernel) (by decide) (lc_unlike X hS0 hM hl hj K)
    · exact lv_tableIn hx hb dz_40 (tgt := 939) (off := 899) (by decide) (by decide) (by decide +kernel) (by decide) (lc_thing X hS0 hM hl hj K)
    · exact lv_tableIn hx hb dz_40 (tgt := 976) (off := 936) (by decide) (by decide) (by decide +kernel) (by decide) (lc_wrong X hS0 hM hl hj K)
    · exact lv_tableIn hx hb dz_40 (tgt := 1001) (off := 961) (by decide) (by decide) (by decide +kernel) (by decide) (lc_message X hS0 hM hl hj K)
    · exact lv_tableIn hx hb dz_40 (tgt := 1038) (off := 998) (by decide) (by decide) (by decide +kernel) (by decide) (lc_recount X hS0 hM hl hj K)
    · exact lv_tableIn hx hb dz_40 (tgt := 1099) (off := 1059) (by decide) (by decide) (by decide +kernel) (by decide) (lc_reletter X hS0 hM hl hj K)
    · exact lv_tableIn hx hb dz_40 (tgt := 1148) (off := 1108) (by decide) (by decide) (by decide +kernel) (by decide) (lc_count X hS0 hM hl hj K)
theorem lq_loop (hlt : l.stackTraces = false) (X : lq_X p s m meth c b L xs sv Rg) (hS0 : S0 ≤ 200000) : ∀ (n j : Nat) (ad : Nat → Nat) (M : zM) (S : yZ) (H : Heap) (locs : List Loc) (cells slots : Nat) (lsA : Array Slot), L ≤ 6 * j + 6 * n + 5 → 6 * j ≤ L + 5 → lq_M s Rg ad M S S0 H locs cells slots j → lv_has lsA 7 (lq_ls ad b (nI (6 * j))) → W p l e room_1 s m #[Value.ref b] below meth c H locs cells slots (lw_Z below #[Value.ref b] s) (F0 m 23 lsA []) := by
  intro n
  induction n with
  | zero =>
    intro j ad M S H locs cells slots lsA h1 h2 hM hl
    exact lq_turn X hM.2.1.2 hl h2 (fun _ => lq_end X hS0 hM h2) (fun h => absurd h (by omega))
  | succ n ih =>
    intro j ad M S H locs cells slots lsA h1 h2 hM hl
    refine lq_turn X hM.2.1.2 hl h2 (fun _ => lq_end X hS0 hM h2) (fun h => lq_body hlt X hS0 hM hl h ?_)
    intro ad' M' S' H' locs' cells' slots' ls' hM' hl'
    have hv : nI (6 * j) + Int32.ofInt 6 = nI (6 * (j + 1)) := by
      rw [show Int32.ofInt 6 = nI 6 from by decide]
      exact nI_add (6 * j) 6
    refine lv_iinc X.1.1 X.1.2.1 (k := 0) (v := nI (6 * (j + 1))) (lv' := lq_ls ad' b (nI (6 * (j + 1)))) dz_1173 hl' rfl hv (by decide) rfl (fun ls2 hl2 => ?_)
    refine lv_goto X.1.1 X.1.2.1 dz_1176 (tgt := 23) (by decide) ?_
    exact ih (j + 1) ad' M' S' H' locs' cells' slots' ls2 (by omega) (by omega) hM' hl2
end
