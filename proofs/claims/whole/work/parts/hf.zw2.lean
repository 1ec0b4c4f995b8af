/-! THE LAW'S FRAME: new cells, constructors -/
section
variable {p : Program} {l : Launch} {e : Env} {R : Room} {s : State} {m : MethodId} {args : Array Value} {below : List Frame} {meth : Method} {c : Code} {Q : State → Prop}
variable {T : zT} {P : zP} {G : zG} {XX : State → Prop} {cc : ByteArray} {nL : Nat} {own : String}
variable {pc : Nat} {M M' : zM} {H : Heap} {locs : List Loc} {cells slots : Nat} {lsA : Array Slot} {rest st : List Value}
theorem zw_born {t len sl : Nat} {H1 : Heap} (hst : zw_St G s M H locs) (ht : t + 1 ≤ 26) (hcl : t + 1 ≤ 20 → ∃ q, (zg_cl G)[t]? = some q) (hbase : zg_base G ≤ s.heap.size) (hat : va_at (zg_D G) (zg_cl G) (H.size, z_cell G (zm_new M t len sl) t (zm_n M)) H1) (hz : H1.size = H.size + 1) (o1 : ∀ q : Nat, q < H.size → H1[q]? = H[q]?) : zw_St G s (zm_new M t len sl) H1 locs := by
  obtain ⟨h1, h2⟩ := hst
  exact ⟨z_Rep_new h1 ht hcl (Nat.le_trans hbase h2.1) hat hz o1, ⟨Nat.le_trans h2.1 (by omega), fun q g1 g2 => by rw [o1 q (Nat.lt_of_lt_of_le g1 h2.1)]; exact h2.2.1 q g1 g2, h2.2.2⟩⟩
theorem zw_new (hok : z_ok T P G) (hF : zw_Fr P G XX p s m args c cc nL own) (hst : zw_St G s M H locs) {mid idx t N : Nat} (hcls : (zp_Y P mid).cls = own) (hf : zt_neu T mid idx = some (t, N)) (hd : decode cc pc = .ok (.new idx, 3)) (hr : cells + 1 ≤ R.cells ∧ slots + N ≤ R.slots)
    (kk : ∀ H1, zw_St G s (zm_new M t 0 N) H1 locs → W p l e R s m args below meth c H1 locs (cells + 1) (slots + N) Q (F0 m (pc + 3) lsA (.ref (zg_ad G (zm_n M)) :: st))) : W p l e R s m args below meth c H locs cells slots Q (F0 m pc lsA st) := by
  obtain ⟨hx, hb, hml, hown, hts, hKK, hbase⟩ := id hF
  obtain ⟨C, Tt, hcl, hw1, hw2, hw3⟩ := hok.2.2.2.2.2.1 mid idx t N hf
  rw [hcls] at hw1
  obtain ⟨ht, hin, hnm, ty0, hty, hkind⟩ := hok.1.2.2.2.2.1 t C Tt N hcl
  have had : zg_ad G (zm_n M) = H.size := by have := (hst.1.2.2.1 (zm_n M) (Nat.le_refl _)).1; omega
  have hKn := hKK.1.1 t _ hcl
  refine W.newcK (g := F0 m pc lsA st) hx hb hown (hts _ hw1) (hts _ hw2) (hts _ hw3) rfl hd hr.1 hr.2 hKn.2.1 rfl fun H1 kC hkC e1 z1 o1 => ?_
  have hat : va_at (zg_D G) (zg_cl G) (H.size, z_cell G (zm_new M t 0 N) t (zm_n M)) H1 := by
    rw [z_cell_o G _ ht]
    refine ⟨_, hcl, (u_born ty0 hts hin hKn hkC e1 hty).to fun j hj => ?_⟩
    have e8 : vp_V (z_fs G (zm_new M t 0 N) t (zm_n M)) j = z_cv (zg_A G) (ez_fv (zg_fk G t j) (zm_new M t 0 N) t (zm_n M) j) := by
      unfold vp_V
      rw [List.getD_eq_getElem?_getD, z_fs_get G _ t _ (by rw [z_N hcl]; exact hj)]
      rfl
    rw [e8]
    have hI : zm_I (zm_new M t 0 N) t (zm_n M) j = 0 := if_pos ⟨rfl, rfl⟩
    have hR : zm_R (zm_new M t 0 N) t (zm_n M) j = none := if_pos ⟨rfl, rfl⟩
    rcases hkind j hj with ⟨k0, k1⟩ | ⟨k0, k1⟩ | ⟨f, k0, -, k1⟩
    · rw [k0, k1]; show _ = Value.int _; rw [hI]; rfl
    · rw [k0, k1]; show _ = Value.int _; rw [hI]; rfl
    · rw [k0]
      show _ = z_cv (zg_A G) (.inr (.inr (f, _)))
      rw [hR]
      rcases k1 with ⟨n, k1⟩ | ⟨u, k1⟩ <;> rw [k1] <;> rfl
  have go := kk H1 (zw_born hst (by omega) (fun _ => ⟨_, hcl⟩) hbase hat z1 o1)
  rw [had] at go
  exact go
theorem zw_newJ (hok : z_ok T P G) (hF : zw_Fr P G XX p s m args c cc nL own) (hst : zw_St G s M H locs) {n : Int32} {N : Nat} (hN : n.toNatClampNeg = N) (hneg : ¬ n < 0) (hbig : N ≤ 100000) (hd : decode cc pc = .ok (.newarray .long, 2)) (hr : cells + 1 ≤ R.cells ∧ slots + N ≤ R.slots)
    (kk : ∀ H1, zw_St G s (zm_new M 23 N N) H1 locs → W p l e R s m args below meth c H1 locs (cells + 1) (slots + N) Q (F0 m (pc + 2) lsA (.ref (zg_ad G (zm_n M)) :: st))) : W p l e R s m args below meth c H locs cells slots Q (F0 m pc lsA (.int n :: st)) := by
  obtain ⟨hx, hb, hml, hown, hts, hKK, hbase⟩ := id hF
  have had : zg_ad G (zm_n M) = H.size := by have := (hst.1.2.2.1 (zm_n M) (Nat.le_refl _)).1; omega
  have harr : (Cond.arrayClass (newarray.typeOf .long)).before args s = true := hts _ hok.1.2.2.2.1
  refine va_newaK (g := F0 m pc lsA (.int n :: st)) hx hb harr rfl hd rfl hneg hN (by simp only [newarray.typeOf, componentBytes]; omega) hr.1 hr.2 rfl fun H1 cA e1 z1 o1 hAr hNm => ?_
  have hcA : cA = zg_cA G 23 := Option.some.inj (hNm.symm.trans (hKK.1.2 3 _ rfl).2)
  subst hcA
  have hL : zm_L (zm_new M 23 N N) 23 (zm_n M) = N := if_pos ⟨rfl, rfl⟩
  have hJ : zm_J (zm_new M 23 N N) 23 (zm_n M) = fun _ => 0 := by funext j; exact if_pos ⟨rfl, rfl⟩
  have hat : va_at (zg_D G) (zg_cl G) (H.size, z_cell G (zm_new M 23 N N) 23 (zm_n M)) H1 := by
    rw [z_cell_l G, hL, hJ]; exact e1
  have go := kk H1 (zw_born hst (by omega) (fun q => absurd q (by omega)) hbase hat z1 o1)
  rw [had] at go
  exact go
theorem zw_init (hok : z_ok T P G) (hF : zw_Fr P G XX p s m args c cc nL own) (hc : z_clo G XX) (hst : zw_St G s M H locs) {idx callee n t k d : Nat} {as' : List zV} (hM : z_Met T P G XX l (z_room d) callee (.inr (.inr (t, some k)) :: as') M none M') (hR : R.frames ≥ d + 1 + 10 ∧ R.locals ≥ 48 * (d + 1) + 200) (hroom : cells + (zm_n M' - zm_n M) ≤ R.cells ∧ slots + (zm_s M' - zm_s M) ≤ R.slots) (ht30 : t < 30) (hsz : lsA.size = nL) (h8 : (rest.map fun v => v.category).sum ≤ 8) (hd : decode cc pc = .ok (.invokespecial idx, 3)) (hlen : as'.length = n)
    (hcal : z_okM T P callee ∧ z_okY P callee n ∧ zp_RT P callee = none ∧ (zp_Y P callee).name = "<init>" ∧ Cond.methodLink own idx (zp_Y P callee) ∈ zp_GW P ∧ Cond.instanceMethod (zp_Y P callee) ∈ zp_GW P)
    (kk : ∀ H' locs', zw_St G s M' H' locs' → W p l e R s m args below meth c H' locs' (cells + (zm_n M' - zm_n M)) (slots + (zm_s M' - zm_s M)) Q (F0 m (pc + 3) lsA rest))
    : W p l e R s m args below meth c H locs cells slots Q (F0 m pc lsA ((as'.map (z_cv (zg_A G))).reverse ++ .ref (zg_ad G k) :: rest)) := by
  obtain ⟨hx, hb, hml, hown, hts, hKK, hbase⟩ := id hF
  obtain ⟨hMo, hY, hnone, hini, w1, w2⟩ := hcal
  have hnL := hMo.2.2.1
  have hgood := z_good hok hMo
  unfold z_Met at hM
  rw [hnone] at hM hgood
  have pre := zw_pre (P := P) hc hKK hbase hst (.inr (.inr (t, some k)) :: as')
  have cb := callB_of (R := R) (own := own) (index := idx) (rm := z_room d (zm_n M' - zm_n M) (zm_s M' - zm_s M)) n hts hgood rfl rfl rfl (hts _ hY.2.2.2) (hts _ w1) ⟨hY.1, hY.2.1, hY.2.2.1⟩ ⟨by show d + 10 + 1 ≤ _; omega, by show 8 + (_ + 11) + (48 * d + 200) ≤ _; omega⟩
  have hadk : z_cv (zg_A G) (.inr (.inr (t, some k))) = .ref (zg_ad G k) := by
    show Value.ref (zg_A G t k) = _
    rw [zg_A_ad G ht30]
  rw [List.map_cons, hadk] at pre
  exact zw_back (rv := none) (rest := rest) hst kk (va_runI (As := as'.map (z_cv (zg_A G))) ⟨hx, hb, hml, hown, hts⟩ hM ⟨cb, hini, hts _ w2⟩ pre rfl (by rw [List.length_map]; exact hlen) hsz rfl (lv_room h8) hd hroom)
end
