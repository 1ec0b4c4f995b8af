/-! THE LAW: what stands at each turn of its loop; a pair of calls -/
abbrev zGr : Type := Nat × (Nat → Nat) × Nat × va_G × List vw_C × (Nat → ClassId) × (Nat → Nat → Nat) × (Nat → Nat) × (Nat → Int32) × Nat × Nat
def zn_0 : Nat → Nat := fun k => k
def lq_G (Rg : zGr) : Prop := zg_cl (zn_0, Rg) = tx_cl tq_R ∧ zg_fk (zn_0, Rg) = tq_fk ∧ zg_elt (zn_0, Rg) = tx_elt ∧ zg_nS (zn_0, Rg) = 12
def lq_X (p : Program) (s : State) (m : MethodId) (meth : Method) (c : Code) (b L : Nat) (xs : Nat → Int32) (sv : Nat → Nat) (Rg : zGr) : Prop := lw_At p s m meth c b L xs ∧ L ≤ 3072 ∧ lq_G Rg ∧ zg_base (zn_0, Rg) = s.heap.size ∧ z_KK zq_P (zn_0, Rg) (xy_E sv (zn_0, Rg)) s
def lq_ls (ad : Nat → Nat) (b : Nat) (i : Int32) : List (Nat × Value) := [(4, .int i), (3, .ref (ad 276)), (2, .ref (ad 242)), (1, .ref (ad 0)), (0, .ref b)]
def lq_M (s : State) (Rg : zGr) (ad : Nat → Nat) (M : zM) (S : yZ) (S0 : Nat) (H : Heap) (locs : List Loc) (cells slots j : Nat) : Prop := cJ 0 242 277 S0 M S ∧ zw_St (ad, Rg) s M H locs ∧ zm_K M 0 = 12 ∧ zm_K M 242 = 13 ∧ zm_K M 276 = 24 ∧ cells ≤ zm_n M + j ∧ slots ≤ zm_s M + 6 * j
def lq_K (p : Program) (l : Launch) (e : Env) (s : State) (m : MethodId) (below : List Frame) (meth : Method) (c : Code) (b : Nat) (Rg : zGr) (S0 j : Nat) : Prop := ∀ (ad : Nat → Nat) (M : zM) (S : yZ) (H : Heap) (locs : List Loc) (cells slots : Nat) (lsA : Array Slot), lq_M s Rg ad M S S0 H locs cells slots (j + 1) → lv_has lsA 7 (lq_ls ad b (nI (6 * j))) → W p l e room_1 s m #[Value.ref b] below meth c H locs cells slots (lw_Z below #[Value.ref b] s) (F0 m 1173 lsA [])
section
variable {p : Program} {l : Launch} {e : Env} {s : State} {m : MethodId} {below : List Frame} {meth : Method} {c : Code} {b L j S0 : Nat} {xs : Nat → Int32} {sv : Nat → Nat} {Rg : zGr}
variable {ad : Nat → Nat} {M : zM} {S : yZ} {H : Heap} {locs : List Loc} {cells slots : Nat} {lsA : Array Slot} {st : List Value}
theorem lq_ok (h : lq_G Rg) (ad : Nat → Nat) : z_ok zq_T zq_P (ad, Rg) := zq_ok h.1 h.2.1 h.2.2.1 h.2.2.2
theorem lq_Fr (X : lq_X p s m meth c b L xs sv Rg) (ad : Nat → Nat) : zw_Fr zq_P (ad, Rg) (xy_E sv (ad, Rg)) p s m #[Value.ref b] c code 7 "ContentRulesLaw" := by
  obtain ⟨⟨hx, hb, _, hml, hown, hts, _⟩, _, _, hbase, hKK⟩ := X
  exact ⟨hx, hb, hml, hown, fun w hw => hts w (List.mem_filter.mp hw).1, hKK, Nat.le_of_eq hbase⟩
theorem lq_ext (h : lq_G Rg) (l : Launch) (sv : Nat → Nat) (ad : Nat → Nat) : z_Ext zq_T zq_P (ad, Rg) (xy_E sv (ad, Rg)) l := xt_ext l (fun U h => h.1) (lq_ok h ad) h.2.2.2
theorem cJ_max {ac am N0 : Nat} (h : cJ ac am N0 S0 M S) : N0 ≤ zm_n M ∧ S0 ≤ zm_s M ∧ zm_n M ≤ N0 + 1600 ∧ zm_s M ≤ S0 + 16800 := by
  obtain ⟨⟨g, hI⟩, _⟩ := h
  have h1 := hI.2.2.2.1.2.1.1
  have h2 := hI.2.2.2.2.1.2.1
  have h3 := hI.2.2.2.2.2.2.2.2.2.2.2
  omega
theorem kw_of {G : zG} (h : z_WF G M) (hf : zg_fk G = tq_fk) (he : zg_elt G = tx_elt) (h0 : zm_K M 0 = 12) (h1 : zm_K M 242 = 13) : kw 0 242 M := by
  have go : ∀ k t j r n, zm_K M k = t + 1 → zm_R M t k j = some r → zg_isR G t j → zg_rt G t j + 1 = n → zm_K M r = n := fun k t j r n a1 a2 a3 a4 => by rw [h.2 k t j r a1 a2 a3, a4]
  refine ⟨h0, h1, ?_, ?_, ?_, ?_, ?_⟩
  · rintro k j r hk (hj | hj) hr <;> subst hj
    · exact go k 11 2 r 7 hk hr (fun _ => by rw [hf]; decide) (by unfold zg_rt; rw [hf]; rfl)
    · exact go k 11 3 r 7 hk hr (fun _ => by rw [hf]; decide) (by unfold zg_rt; rw [hf]; rfl)
  · intro k r hk hr
    exact go k 6 2 r 25 hk hr (fun _ => by rw [hf]; decide) (by unfold zg_rt; rw [hf]; rfl)
  · intro k j r hk hr
    exact go k 24 j r 4 hk hr (fun q => absurd q (by decide)) (by unfold zg_rt; rw [if_neg (by decide), he]; rfl)
  · intro k r hk hr
    exact go k 3 15 r 22 hk hr (fun _ => by rw [hf]; decide) (by unfold zg_rt; rw [hf]; rfl)
  · intro k r hk hr
    rcases hr with hr | hr | hr | hr | hr | hr | hr | hr | hr | hr | hr | hr | hr | hr | hr | hr | hr | hr | hr | hr | hr | hr | hr | hr | hr | hr | hr | hr | hr | hr | hr | hr | hr
    · exact .inr (go k 12 1 r 23 hk hr (fun _ => by rw [hf]; decide) (by unfold zg_rt; rw [hf]; rfl))
    · exact .inl (go k 12 5 r 21 hk hr (fun _ => by rw [hf]; decide) (by unfold zg_rt; rw [hf]; rfl))
    · exact .inl (go k 12 6 r 21 hk hr (fun _ => by rw [hf]; decide) (by unfold zg_rt; rw [hf]; rfl))
    · exact .inl (go k 12 7 r 21 hk hr (fun _ => by rw [hf]; decide) (by unfold zg_rt; rw [hf]; rfl))
    · exact .inl (go k 12 8 r 21 hk hr (fun _ => by rw [hf]; decide) (by unfold zg_rt; rw [hf]; rfl))
    · exact .inl (go k 12 9 r 21 hk hr (fun _ => by rw [hf]; decide) (by unfold zg_rt; rw [hf]; rfl))
    · exact .inl (go k 12 10 r 21 hk hr (fun _ => by rw [hf]; decide) (by unfold zg_rt; rw [hf]; rfl))
    · exact .inl (go k 12 11 r 21 hk hr (fun _ => by rw [hf]; decide) (by unfold zg_rt; rw [hf]; rfl))
    · exact .inl (go k 12 12 r 21 hk hr (fun _ => by rw [hf]; decide) (by unfold zg_rt; rw [hf]; rfl))
    · exact .inl (go k 12 13 r 21 hk hr (fun _ => by rw [hf]; decide) (by unfold zg_rt; rw [hf]; rfl))
    · exact .inl (go k 12 14 r 21 hk hr (fun _ => by rw [hf]; decide) (by unfold zg_rt; rw [hf]; rfl))
    · exact .inl (go k 12 18 r 21 hk hr (fun _ => by rw [hf]; decide) (by unfold zg_rt; rw [hf]; rfl))
    · exact .inl (go k 12 19 r 21 hk hr (fun _ => by rw [hf]; decide) (by unfold zg_rt; rw [hf]; rfl))
    · exact .inl (go k 12 22 r 21 hk hr (fun _ => by rw [hf]; decide) (by unfold zg_rt; rw [hf]; rfl))
    · exact .inl (go k 12 23 r 21 hk hr (fun _ => by rw [hf]; decide) (by unfold zg_rt; rw [hf]; rfl))
    · exact .inl (go k 12 24 r 21 hk hr (fun _ => by rw [hf]; decide) (by unfold zg_rt; rw [hf]; rfl))
    · exact .inl (go k 12 25 r 21 hk hr (fun _ => by rw [hf]; decide) (by unfold zg_rt; rw [hf]; rfl))
    · exact .inr (go k 12 27 r 23 hk hr (fun _ => by rw [hf]; decide) (by unfold zg_rt; rw [hf]; rfl))
    · exact .inl (go k 12 29 r 21 hk hr (fun _ => by rw [hf]; decide) (by unfold zg_rt; rw [hf]; rfl))
    · exact .inl (go k 12 30 r 21 hk hr (fun _ => by rw [hf]; decide) (by unfold zg_rt; rw [hf]; rfl))
    · exact .inl (go k 12 32 r 21 hk hr (fun _ => by rw [hf]; decide) (by unfold zg_rt; rw [hf]; rfl))
    · exact .inr (go k 12 33 r 23 hk hr (fun _ => by rw [hf]; decide) (by unfold zg_rt; rw [hf]; rfl))
    · exact .inl (go k 12 34 r 21 hk hr (fun _ => by rw [hf]; decide) (by unfold zg_rt; rw [hf]; rfl))
    · exact .inl (go k 12 37 r 21 hk hr (fun _ => by rw [hf]; decide) (by unfold zg_rt; rw [hf]; rfl))
    · exact .inl (go k 12 38 r 21 hk hr (fun _ => by rw [hf]; decide) (by unfold zg_rt; rw [hf]; rfl))
    · exact .inl (go k 12 39 r 21 hk hr (fun _ => by rw [hf]; decide) (by unfold zg_rt; rw [hf]; rfl))
    · exact .inl (go k 12 48 r 21 hk hr (fun _ => by rw [hf]; decide) (by unfold zg_rt; rw [hf]; rfl))
    · exact .inl (go k 12 49 r 21 hk hr (fun _ => by rw [hf]; decide) (by unfold zg_rt; rw [hf]; rfl))
    · exact .inl (go k 12 50 r 21 hk hr (fun _ => by rw [hf]; decide) (by unfold zg_rt; rw [hf]; rfl))
    · exact .inl (go k 12 51 r 21 hk hr (fun _ => by rw [hf]; decide) (by unfold zg_rt; rw [hf]; rfl))
    · exact .inl (go k 12 52 r 21 hk hr (fun _ => by rw [hf]; decide) (by unfold zg_rt; rw [hf]; rfl))
    · exact .inl (go k 12 56 r 21 hk hr (fun _ => by rw [hf]; decide) (by unfold zg_rt; rw [hf]; rfl))
    · exact .inl (go k 12 60 r 21 hk hr (fun _ => by rw [hf]; decide) (by unfold zg_rt; rw [hf]; rfl))
/-- one number of the script, on the stack -/
theorem lq_arg {pc i k : Nat} {n : Int} {cells slots : Nat} {Q : State → Prop} (X : lq_X p s m meth c b L xs sv Rg) (hS : va_S (fun q => zg_base (ad, Rg) ≤ q) s.heap H locs) (l0 : lsA[0]? = some (.val (.ref b))) (l4 : lsA[4]? = some (.val (.int (nI i)))) (hik : i + k < L) (hn : Int32.ofInt n = nI k)
    (d0 : decode code pc = .ok (.aload_n 0, 1)) (d1 : decode code (pc + 1) = .ok (.iload 4, 2)) (d3 : decode code (pc + 3) = .ok (.iconst n, 1)) (d4 : decode code (pc + 4) = .ok (.iadd, 1)) (d5 : decode code (pc + 5) = .ok (.iaload, 1))
    (kk : W p l e room_1 s m #[Value.ref b] below meth c H locs cells slots Q (F0 m (pc + 6) lsA (.int (xs (i + k)) :: st))) : W p l e room_1 s m #[Value.ref b] below meth c H locs cells slots Q (F0 m pc lsA st) := by
  obtain ⟨⟨hx, hb, hr, hml, hown, hts, hX, hbl, hlocks, hgv⟩, hL, hG, hbase, hKK⟩ := X
  have hbA : ¬ zg_base (ad, Rg) ≤ b := by
    have e : zg_base (ad, Rg) = s.heap.size := hbase
    omega
  refine lv_aload_n hx hb d0 rfl l0 ?_
  refine lv_iload hx hb d1 l4 ?_
  refine lv_iconst hx hb d3 hn ?_
  refine lv_iadd hx hb d4 ?_
  rw [nI_add]
  refine va_sld hx hb hX hbl hbA hS (nI_in hik (by omega)) d5 ?_
  rw [nI_clamp (by omega)]
  exact kk
theorem lq_okc {G : zG} (hok : z_ok zq_T zq_P G) {idx cc n t : Nat} (h : zt_cal zq_T 316 idx = some (0, cc, n, t)) : z_okM zq_T zq_P cc ∧ z_okY zq_P cc n ∧ (∃ Tt N, (zg_cl G)[t]? = some ((zp_Y zq_P cc).cls, Tt, N)) ∧ Cond.methodLink "ContentRulesLaw" idx (zp_Y zq_P cc) ∈ zp_GW zq_P ∧ Cond.instanceMethod (zp_Y zq_P cc) ∈ zp_GW zq_P ∧ Cond.selects (zp_Y zq_P cc).cls (zp_Y zq_P cc) (zp_Y zq_P cc) ∈ zp_GW zq_P := (hok.2.2.2.2.1 316 idx 0 cc n t h).1 rfl
theorem lq_VV {G : zG} {as' : List zV} (h : ∀ v ∈ as', ∃ x : Int32, v = .inl x) {t k : Nat} (ht : t < 30) (hk : zm_K M k = t + 1) : ∀ v ∈ (.inr (.inr (t, some k)) :: as' : List zV), z_VV G False M v := by
  intro v hv
  rcases List.mem_cons.mp hv with rfl | hv
  · exact .inl ⟨ht, hk⟩
  · obtain ⟨x, rfl⟩ := h v hv
    trivial
/-- a call by its run: contract, and what the memory behind it keeps -/
theorem lq_met {d cc : Nat} {as : List zV} {M1 : zM} {rv : Option zV} (hG : lq_G Rg) (hst : z_Rep (ad, Rg) M H) (hMo : z_okM zq_T zq_P cc) (fit : zc_sum as ≤ zt_nL zq_T cc) (hva : ∀ v ∈ as, z_VV (ad, Rg) False M v) (r : Ev zq_T d cc 0 (zl_args 0 as) [] M (rv, M1)) : z_Met zq_T zq_P (ad, Rg) (xy_E sv (ad, Rg)) l (z_room d) cc as M rv M1 ∧ zm_n M ≤ zm_n M1 ∧ zm_s M ≤ zm_s M1 ∧ z_WF (ad, Rg) M1 ∧ (∀ k, zm_K M k ≠ 0 → zm_K M1 k = zm_K M k) := by
  obtain ⟨n, hn⟩ := r
  have hok := lq_ok hG ad
  have m1 := z_met (l := l) hok (xy_clo sv (ad, Rg)) (lq_ext hG l sv ad) hMo fit hva hn
  obtain ⟨g1, g2, g3⟩ := z_runK (G := (ad, Rg)) hok n _ _ _ _ _ _ _ _ hn
  obtain ⟨k1, k2, _⟩ := g3 hst.wf (fun q hq => hva _ (z_mem_args hq)) (fun v hv => by cases hv)
  exact ⟨m1, g1, g2, k1, k2⟩
/-- class, then model, with the same numbers: the same answer -/
theorem lq_pair {n pc1 pc2 idx1 idx2 c1 c2 : Nat} {as' : List zV} {off : Int} {run1 : Option (Int32 × zM)} {run2 : zM → Option (Int32 × zM)} (X : lq_X p s m meth c b L xs sv Rg) (hS0 : S0 ≤ 200000) (hM : lq_M s Rg ad M S S0 H locs cells slots j) (hl : lv_has lsA 7 (lq_ls ad b (nI (6 * j)))) (hj : 6 * j + 5 < L) (K : lq_K p l e s m below meth c b Rg S0 j)
    (J : jr 0 242 277 S0 run1 run2)
    (t1 : ∀ so, run1 = some so → Ev zq_T 205 c1 0 (zl_args 0 (.inr (.inr (11, some 0)) :: as')) [] M (some (.inl so.1), so.2))
    (t2 : ∀ M1 so, run2 M1 = some so → Ev zq_T 205 c2 0 (zl_args 0 (.inr (.inr (12, some 242)) :: as')) [] M1 (some (.inl so.1), so.2))
    (hint : ∀ v ∈ as', ∃ x : Int32, v = .inl x) (hlen : as'.length = n) (k1 : zt_cal zq_T 316 idx1 = some (0, c1, n, 11)) (k2 : zt_cal zq_T 316 idx2 = some (0, c2, n, 12))
    (f1 : zc_sum (.inr (.inr (11, some 0)) :: as') ≤ zt_nL zq_T c1) (f2 : zc_sum (.inr (.inr (12, some 242)) :: as') ≤ zt_nL zq_T c2)
    (d1 : decode code pc1 = .ok (.invokevirtual idx1, 3)) (d2 : decode code pc2 = .ok (.invokevirtual idx2, 3)) (d3 : decode code (pc2 + 3) = .ok (.if_icmp .eq off, 3)) (ht : ((pc2 + 3 : Nat) : Int) + off = ((1173 : Nat) : Int))
    (mid : ∀ (v : Int32) (H' : Heap) (locs' : List Loc) (cells' slots' : Nat), va_S (fun q => zg_base (ad, Rg) ≤ q) s.heap H' locs' → W p l e room_1 s m #[Value.ref b] below meth c H' locs' cells' slots' (lw_Z below #[Value.ref b] s) (F0 m pc2 lsA ((as'.map (z_cv (zg_A (ad, Rg)))).reverse ++ .ref (ad 242) :: [.int v])) → W p l e room_1 s m #[Value.ref b] below meth c H' locs' cells' slots' (lw_Z below #[Value.ref b] s) (F0 m (pc1 + 3) lsA [.int v]))
    : W p l e room_1 s m #[Value.ref b] below meth c H locs cells slots (lw_Z below #[Value.ref b] s) (F0 m pc1 lsA ((as'.map (z_cv (zg_A (ad, Rg)))).reverse ++ .ref (ad 0) :: [])) := by
  have hG := X.2.2.1
  have hok := lq_ok hG ad
  have hF := lq_Fr X ad
  have hL := X.2.1
  obtain ⟨hJ, hst, K0, K1, K2, hc, hs⟩ := hM
  obtain ⟨v, M1, e1, kk⟩ := J
  have o1 := lq_okc hok k1
  have o2 := lq_okc hok k2
  have E1 : Ev zq_T 205 c1 0 (zl_args 0 (.inr (.inr (11, some 0)) :: as')) [] M (some (.inl v), M1) := t1 (v, M1) e1
  obtain ⟨m1, n1, s1, w1, q1⟩ := lq_met (l := l) (sv := sv) hG hst.1 o1.1 f1 (lq_VV hint (by omega) K0) E1
  have K0' : zm_K M1 0 = 12 := by rw [q1 0 (by omega)]; exact K0
  have K1' : zm_K M1 242 = 13 := by rw [q1 242 (by omega)]; exact K1
  have K2' : zm_K M1 276 = 24 := by rw [q1 276 (by omega)]; exact K2
  obtain ⟨M2, S', e2, J2⟩ := kk (kw_of w1 hG.2.1 hG.2.2.1 K0' K1')
  have E2 : Ev zq_T 205 c2 0 (zl_args 0 (.inr (.inr (12, some 242)) :: as')) [] M1 (some (.inl v), M2) := t2 M1 (v, M2) e2
  have b0 := cJ_max hJ
  have b2 := cJ_max J2
  have r1 : room_1.frames = 2048 := rfl
  have r2 : room_1.locals = 84000 := rfl
  have r3 : room_1.cells = 601024 := rfl
  have r4 : room_1.slots = 7293034 := rfl
  have hn12 : zm_n M1 ≤ zm_n M2 ∧ zm_s M1 ≤ zm_s M2 := by
    obtain ⟨nn, hn⟩ := E2
    obtain ⟨g1, g2, _⟩ := z_runK (G := (ad, Rg)) hok nn _ _ _ _ _ _ _ _ hn
    exact ⟨g1, g2⟩
  refine zw_virtual hok hF (xy_clo sv (ad, Rg)) hst m1 ⟨by omega, by omega⟩ ⟨by omega, by omega⟩ K0 hl.1 (by decide) d1 hlen o1 (fun H1 locs1 hst1 => ?_)
  show W p l e room_1 s m #[Value.ref b] below meth c H1 locs1 _ _ _ (F0 m (pc1 + 3) lsA [.int v])
  refine mid v H1 locs1 _ _ hst1.2 ?_
  obtain ⟨m2, n2, s2, w2, q2⟩ := lq_met (l := l) (sv := sv) hG hst1.1 o2.1 f2 (lq_VV hint (by omega) K1') E2
  refine zw_virtual hok hF (xy_clo sv (ad, Rg)) hst1 m2 ⟨by omega, by omega⟩ ⟨by omega, by omega⟩ K1' hl.1 (Nat.le_of_ble_eq_true rfl) d2 hlen o2 (fun H2 locs2 hst2 => ?_)
  show W p l e room_1 s m #[Value.ref b] below meth c H2 locs2 _ _ _ (F0 m (pc2 + 3) lsA [.int v, .int v])
  refine lv_icmp_eq X.1.1 X.1.2.1 d3 ht (fun _ => ?_) (fun h => absurd rfl h)
  refine K ad M2 S' H2 locs2 _ _ lsA ⟨J2, hst2, ?_, ?_, ?_, by omega, by omega⟩ hl
  · rw [q2 0 (by omega)]; exact K0'
  · rw [q2 242 (by omega)]; exact K1'
  · rw [q2 276 (by omega)]; exact K2'
end
