/-! THE LAW'S BEGINNING -/
def ws_M (L : Nat) (xs : Nat → Int32) : zM := (0, 0, (fun _ => 0), (fun t k => if t = 90 ∧ k = 0 then L else 0), (fun t k j => if t = 90 ∧ k = 0 then xs j else 0), (fun _ _ _ => none), (fun _ _ _ => 0))
def ws_S (Ps : Nat → yP) : yZ := ([], (0, Ps), [], none)
def ws_g : yG2 := ((0 + 2, 0 + 86, 0 + 170, 0 + 180), (fun _ => 0), 0, (fun _ => 0), 0)
theorem ws_zz (Ps : Nat → yP) : zz_ok (ws_S Ps) := by
  refine ⟨⟨Nat.zero_le _, fun b h => ?_⟩, Nat.zero_le _, fun r h => ?_, fun r h => ?_, ⟨Nat.zero_le _, fun i x h => ?_⟩, fun x h => ?_⟩
  · have h' : b ∈ ([] : List Nat) := h
    cases h'
  · exact absurd h (Nat.not_lt_zero r)
  · exact absurd h (Nat.not_lt_zero r)
  · have h' : ([] : List yT)[i]? = some x := h
    rw [List.getElem?_nil] at h'
    cases h'
  · have h' : (none : Option yR) = some x := h
    cases h'
theorem ws_nL (M : zM) (t len sl : Nat) {t' k : Nat} (h : ¬ (t' = t ∧ k = M.1)) : zm_L (zm_new M t len sl) t' k = zm_L M t' k := if_neg h
theorem ws_nI (M : zM) (t len sl : Nat) {t' k j : Nat} (h : ¬ (t' = t ∧ k = M.1)) : zm_I (zm_new M t len sl) t' k j = zm_I M t' k j := if_neg h
theorem ws_nR (M : zM) (t len sl : Nat) {t' k j : Nat} (h : ¬ (t' = t ∧ k = M.1)) : zm_R (zm_new M t len sl) t' k j = zm_R M t' k j := if_neg h
theorem ws_pI (M : zM) (t len sl : Nat) {k j : Nat} (h : k = M.1) : zm_I (zm_new M t len sl) t k j = 0 := if_pos ⟨rfl, h⟩
theorem ws_pL (M : zM) (t len sl : Nat) {k : Nat} (h : k = M.1) : zm_L (zm_new M t len sl) t k = len := if_pos ⟨rfl, h⟩
theorem ws_J {M2 M3 M4 M5 : zM} {Ps : Nat → yP} (n2 : zm_n M2 = 242) (hI : cI 0 (zm_n M2) (zm_s M2) M2 (ws_S Ps) ws_g) (e3 : M3 = zm_new M2 12 0 62) (hz : zh (fun t' k' _ => t' = 12 ∧ k' = 242) M3 M4) (n4 : zm_n M4 = 276) (ml4 : ml_ok 242 M4) (i31 : zm_I M4 12 242 31 = -1) (i4 : ∀ j, j ≠ 31 → zm_I M4 12 242 j = zm_I M3 12 242 j) (e5 : M5 = zm_new M4 23 1 1) : cJ 0 242 277 (zm_s M5) M5 (ws_S Ps) := by
  have m2 : M2.1 = 242 := n2
  have m4 : M4.1 = 276 := n4
  have n3 : zm_n M3 = 243 := by
    rw [e3]
    show M2.1 + 1 = 243
    rw [m2]
  have n5 : zm_n M5 = 277 := by
    rw [e5]
    show M4.1 + 1 = 277
    rw [m4]
  have f0 : ∀ j, j ≠ 31 → zm_I M4 12 242 j = 0 := by
    intro j hj
    rw [i4 j hj, e3]
    exact ws_pI M2 12 0 62 m2.symm
  have k45 : mk_ag 242 M4 M5 := by
    rw [e5]
    refine ⟨fun j => ⟨ws_nI M4 23 1 1 (by omega), ws_nR M4 23 1 1 (by omega)⟩, fun t a ht h1 h2 => ⟨ws_nL M4 23 1 1 (by omega), fun j => ws_nI M4 23 1 1 (by omega)⟩⟩
  have mi4 : mI 242 M4 (ws_S Ps) := by
    refine ⟨ml4, ⟨?_, fun i b h => ?_⟩, ⟨?_, Nat.zero_le _, ml4, fun r h => absurd h (Nat.not_lt_zero r)⟩, ⟨?_, fun i x h => ?_⟩, ?_, i31⟩
    · rw [f0 2 (by decide)]; exact nI_0.symm
    · have h' : ([] : List Nat)[i]? = some b := h
      rw [List.getElem?_nil] at h'
      cases h'
    · rw [f0 15 (by decide)]; exact nI_0.symm
    · rw [f0 20 (by decide)]; exact nI_0.symm
    · have h' : ([] : List yT)[i]? = some x := h
      rw [List.getElem?_nil] at h'
      cases h'
    · exact f0 40 (by decide)
  have ag25 : ag (fun k => rg 0 242 k ∨ nds (fun _ => 0) 0 k ∨ nds (fun _ => 0) 0 k) M2 M5 := by
    refine ⟨by omega, fun t k hk => ?_⟩
    have hk2 : k < 242 := by
      rcases hk with h | ⟨i, h, _⟩ | ⟨i, h, _⟩
      · exact h.2
      · exact absurd h (Nat.not_lt_zero i)
      · exact absurd h (Nat.not_lt_zero i)
    have a3 : zm_L M3 t k = zm_L M2 t k ∧ ∀ j, zm_I M3 t k j = zm_I M2 t k j ∧ zm_R M3 t k j = zm_R M2 t k j := by
      rw [e3]
      exact ⟨ws_nL M2 12 0 62 (by omega), fun j => ⟨ws_nI M2 12 0 62 (by omega), ws_nR M2 12 0 62 (by omega)⟩⟩
    have a5 : zm_L M5 t k = zm_L M4 t k ∧ ∀ j, zm_I M5 t k j = zm_I M4 t k j ∧ zm_R M5 t k j = zm_R M4 t k j := by
      rw [e5]
      exact ⟨ws_nL M4 23 1 1 (by omega), fun j => ⟨ws_nI M4 23 1 1 (by omega), ws_nR M4 23 1 1 (by omega)⟩⟩
    have hw : ∀ j : Nat, ¬ (t = 12 ∧ k = 242) := fun j q => by omega
    refine ⟨by rw [a5.1, zh_L hz (by omega), a3.1], fun j => ⟨?_, ?_⟩⟩
    · rw [(a5.2 j).1, zh_I hz (by omega) (hw j), (a3.2 j).1]
    · rw [(a5.2 j).2, zh_R hz (by omega) (hw j), (a3.2 j).2]
  refine ⟨⟨ws_g, cI_ag hI (ws_zz Ps) ag25 n5 rfl⟩, mI_ag mi4 k45, ws_zz Ps, ?_⟩
  rw [e5]
  exact ws_pL M4 23 1 1 m4.symm
section
variable {l : Launch} {p : Program} {e : Env} {s : State} {m : MethodId} {below : List Frame} {meth : Method} {c : Code} {b L : Nat} {xs : Nat → Int32}
theorem ws_okI {idx callee n : Nat} {G : zG} (hok : z_ok zq_T zq_P G) {t : Nat} (h : zt_cal zq_T 316 idx = some (2, callee, n, t)) : z_okM zq_T zq_P callee ∧ z_okY zq_P callee n ∧ zp_RT zq_P callee = none ∧ (zp_Y zq_P callee).name = "<init>" ∧ Cond.methodLink "ContentRulesLaw" idx (zp_Y zq_P callee) ∈ zp_GW zq_P ∧ Cond.instanceMethod (zp_Y zq_P callee) ∈ zp_GW zq_P := ((hok.2.2.2.2.1 316 idx 2 callee n t h).2.2.2.1 rfl).2
theorem ws_Rep {sv : Nat → Nat} {Rg : zGr} (X : lq_X p s m meth c b L xs sv Rg) (eL : zg_L (zn_0, Rg) = L) (ex : zg_xs (zn_0, Rg) = xs) : zw_St ((fun k => s.heap.size + k), Rg) s (ws_M L xs) s.heap [] := by
  have hws : z_ws ((fun k => s.heap.size + k), Rg) (ws_M L xs) = [] := rfl
  refine ⟨⟨?_, ?_, fun k _ => ⟨?_, rfl⟩, fun k h => absurd h (Nat.not_lt_zero k), fun k t j r _ h _ => ?_, ?_, ?_⟩, va_S.rf⟩
  · rw [hws]
    intro k q h
    rw [List.getElem?_nil] at h
    cases h
  · rw [hws]
    refine ⟨fun i j p q h => ?_, fun k q h => ?_⟩
    · rw [List.getElem?_nil] at h
      cases h
    · rw [List.getElem?_nil] at h
      cases h
  · show s.heap.size + k = s.heap.size + (k - 0)
    omega
  · cases h
  · have e : zm_L (ws_M L xs) 90 0 = L := rfl
    exact e.trans eL.symm
  · have e : zm_I (ws_M L xs) 90 0 = xs := rfl
    exact e.trans ex.symm
theorem whole_start (l : Launch) (hflags : l.flags = flags0) (hbd : L ≤ 3072) (C0 : lw_At p s m meth c b L xs) : W p l e room_1 s m #[Value.ref b] below meth c s.heap [] 0 0 (lw_Z below #[Value.ref b] s) (entryFrame m ([Value.ref b] : List Value).toArray 7) := by
  have hlt : l.stackTraces = false := by
    unfold Launch.stackTraces
    rw [hflags]
    decide +kernel
  obtain ⟨sv, Rg, X, eL, ex⟩ := en_X hbd C0
  have hst0 := ws_Rep X eL ex
  obtain ⟨ad, ead⟩ : ∃ Y : Nat → Nat, Y = fun k => s.heap.size + k := ⟨_, rfl⟩
  rw [← ead] at hst0
  obtain ⟨M0, eM0⟩ : ∃ Y, Y = ws_M L xs := ⟨_, rfl⟩
  rw [← eM0] at hst0
  have n0 : zm_n M0 = 0 := by rw [eM0]; rfl
  have s0 : zm_s M0 = 0 := by rw [eM0]; rfl
  have hG := X.2.2.1
  have hok := lq_ok hG ad
  have hF := lq_Fr X ad
  have hx := X.1.1
  have hb := X.1.2.1
  have r1 : room_1.frames = 2048 := rfl
  have r2 : room_1.locals = 84000 := rfl
  have r3 : room_1.cells = 601024 := rfl
  have r4 : room_1.slots = 7293034 := rfl
  have hcls : (zp_Y zq_P 316).cls = "ContentRulesLaw" := by decide +kernel
  have hl := lv_entry [Value.ref b] (n := 7) (by show 1 ≤ 7; decide)
  rw [lg_entry_eq]
  generalize (lg_sl [Value.ref b] ++ List.replicate (7 - (lg_sl [Value.ref b]).length) Slot.unset).toArray = lsA at hl ⊢
  refine zw_new (mid := 316) (idx := 8) (t := 11) (N := 15) hok hF hst0 hcls rfl dz_0 ⟨by omega, by omega⟩ (fun H1 hst1 => ?_)
  obtain ⟨M1, e1⟩ : ∃ Y, Y = zm_new M0 11 0 15 := ⟨_, rfl⟩
  rw [← e1] at hst1
  have n1 : zm_n M1 = 1 := by
    rw [e1]
    show zm_n M0 + 1 = 1
    rw [n0]
  have s1 : zm_s M1 = 15 := by
    rw [e1]
    show zm_s M0 + 15 = 15
    rw [s0]
  have q1 : zm_K M1 0 = 12 := by
    rw [e1]
    exact if_pos n0.symm
  rw [n0]
  show W p l e room_1 s m #[Value.ref b] below meth c H1 [] (0 + 1) (0 + 15) _ (F0 m 3 lsA [.ref (ad 0)])
  refine lv_dup hx hb dz_3 rfl ?_
  obtain ⟨M2, ev2, n2, s2, z2, c2⟩ := ib_cr_init (d := 205) (a0 := 0) (M := M1) (by omega) (by omega)
  have n2' : zm_n M2 = 242 := by omega
  have o1 := ws_okI (idx := 15) (callee := 282) (n := 0) (t := 11) hok rfl
  obtain ⟨m2, _, _, w2, q2⟩ := lq_met (l := l) (sv := sv) hG hst1.1 o1.1 (Nat.le_of_ble_eq_true rfl) (lq_VV (as' := []) (by simp) (by omega) q1) (tie_cr_init 205 0 M1 M2 ev2)
  refine zw_init (pc := 4) (idx := 15) (n := 0) (as' := []) (rest := [.ref (ad 0)]) hok hF (xy_clo sv (ad, Rg)) hst1 m2 ⟨by omega, by omega⟩ ⟨by omega, by omega⟩ (by omega) hl.1 (Nat.le_of_ble_eq_true rfl) dz_4 rfl o1 (fun H2 locs2 hst2 => ?_)
  have q2' : zm_K M2 0 = 12 := by rw [q2 0 (by omega)]; exact q1
  refine lv_astore_n hx hb (pc := 7) dz_7 rfl hl (by decide) rfl (fun ls1 hl1 => ?_)
  refine zw_new (pc := 8) (mid := 316) (idx := 16) (t := 12) (N := 62) hok hF hst2 hcls rfl dz_8 ⟨by omega, by omega⟩ (fun H3 hst3 => ?_)
  obtain ⟨M3, e3⟩ : ∃ Y, Y = zm_new M2 12 0 62 := ⟨_, rfl⟩
  rw [← e3] at hst3
  have n3 : zm_n M3 = 243 := by
    rw [e3]
    show zm_n M2 + 1 = 243
    rw [n2']
  have s3 : zm_s M3 = zm_s M2 + 62 := by rw [e3]; rfl
  have q3 : zm_K M3 242 = 13 := by
    rw [e3]
    exact if_pos n2'.symm
  have q30 : zm_K M3 0 = 12 := by
    rw [e3]
    refine Eq.trans (if_neg (fun q => ?_)) q2'
    have q' : 0 = zm_n M2 := q
    omega
  have ad2 : zg_ad (ad, Rg) (zm_n M2) = ad 242 := by rw [n2']; rfl
  rw [ad2]
  refine lv_dup hx hb (pc := 11) dz_11 rfl ?_
  obtain ⟨M4, ev4, n4, s4, z4, ml4, i31, i4⟩ := ib_mo_init (d := 205) (a0 := 242) (M := M3) n3
  have n4' : zm_n M4 = 276 := by omega
  have o2 := ws_okI (idx := 18) (callee := 0) (n := 0) (t := 12) hok rfl
  obtain ⟨m4, _, _, w4, q4⟩ := lq_met (l := l) (sv := sv) hG hst3.1 o2.1 (Nat.le_of_ble_eq_true rfl) (lq_VV (as' := []) (by simp) (by omega) q3) (tie_mo_init 205 242 M3 M4 ev4)
  refine zw_init (pc := 12) (idx := 18) (n := 0) (as' := []) (rest := [.ref (ad 242)]) hok hF (xy_clo sv (ad, Rg)) hst3 m4 ⟨by omega, by omega⟩ ⟨by omega, by omega⟩ (by omega) hl1.1 (Nat.le_of_ble_eq_true rfl) dz_12 rfl o2 (fun H4 locs4 hst4 => ?_)
  have q40 : zm_K M4 0 = 12 := by rw [q4 0 (by omega)]; exact q30
  have q42 : zm_K M4 242 = 13 := by rw [q4 242 (by omega)]; exact q3
  refine lv_astore_n hx hb (pc := 15) dz_15 rfl hl1 (by decide) rfl (fun ls2 hl2 => ?_)
  refine lv_iconst hx hb (pc := 16) (v := 1) dz_16 rfl ?_
  refine zw_newJ (pc := 17) (N := 1) hok hF hst4 (by decide) (by decide) (by omega) dz_17 ⟨by omega, by omega⟩ (fun H5 hst5 => ?_)
  obtain ⟨M5, e5⟩ : ∃ Y, Y = zm_new M4 23 1 1 := ⟨_, rfl⟩
  rw [← e5] at hst5
  have n5 : zm_n M5 = 277 := by
    rw [e5]
    show zm_n M4 + 1 = 277
    rw [n4']
  have s5 : zm_s M5 = zm_s M4 + 1 := by rw [e5]; rfl
  have q5 : zm_K M5 276 = 24 := by
    rw [e5]
    exact if_pos n4'.symm
  have q50 : zm_K M5 0 = 12 := by
    rw [e5]
    refine Eq.trans (if_neg (fun q => ?_)) q40
    have q' : 0 = zm_n M4 := q
    omega
  have q52 : zm_K M5 242 = 13 := by
    rw [e5]
    refine Eq.trans (if_neg (fun q => ?_)) q42
    have q' : 242 = zm_n M4 := q
    omega
  have ad4 : zg_ad (ad, Rg) (zm_n M4) = ad 276 := by rw [n4']; rfl
  rw [ad4]
  refine lv_astore_n hx hb (pc := 19) dz_19 rfl hl2 (by decide) rfl (fun ls3 hl3 => ?_)
  refine lv_iconst hx hb (pc := 20) (v := nI (6 * 0)) dz_20 (by decide) ?_
  refine lv_istore hx hb (pc := 21) (lv' := lq_ls ad b (nI (6 * 0))) dz_21 hl3 (by decide) rfl (fun ls4 hl4 => ?_)
  obtain ⟨Ps, _⟩ : ∃ Ps : Nat → yP, True := ⟨fun _ => ((fun _ _ => 0), (fun _ _ => none), (fun _ => []), (fun _ => false)), trivial⟩
  have hJ : cJ 0 242 277 (zm_s M5) M5 (ws_S Ps) := ws_J n2' (c2 Ps _ _ rfl rfl) e3 z4 n4' ml4 i31 i4 e5
  refine lq_loop hlt X (S0 := zm_s M5) (by omega) L 0 ad M5 (ws_S Ps) H5 locs4 _ _ ls4 (by omega) (by omega) ⟨hJ, hst5, q50, q52, q5, by omega, by omega⟩ hl4
end
