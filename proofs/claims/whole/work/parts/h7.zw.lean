/-! THE LAW'S FRAMES: calls out of a frame whose count of cells is its own (a throw makes cells that no memory has) -/
def zw_St (G : zG) (s : State) (M : zM) (H : Heap) (locs : List Loc) : Prop := z_Rep G M H ∧ va_S (fun q => zg_base G ≤ q) s.heap H locs
def zw_Fr (P : zP) (G : zG) (XX : State → Prop) (p : Program) (s : State) (m : MethodId) (args : Array Value) (c : Code) (cc : ByteArray) (nL : Nat) (own : String) : Prop := p.tables.exec = Jvm.exec ∧ c.code = cc ∧ c.maxLocals = nL ∧ s.vm.findClass own = some m.cls ∧ (∀ w ∈ zp_GW P, w.before args s = true) ∧ z_KK P G XX s ∧ zg_base G ≤ s.heap.size
section
variable {p : Program} {l : Launch} {e : Env} {R : Room} {s : State} {m : MethodId} {args : Array Value} {below : List Frame} {meth : Method} {c : Code} {Q : State → Prop}
variable {T : zT} {P : zP} {G : zG} {XX : State → Prop} {cc : ByteArray} {nL : Nat} {own : String}
variable {pc : Nat} {M M' : zM} {H : Heap} {locs : List Loc} {cells slots : Nat} {lsA : Array Slot} {rest : List Value}
theorem zw_pre (hc : z_clo G XX) (hKK : z_KK P G XX s) (hbase : zg_base G ≤ s.heap.size) (hst : zw_St G s M H locs) (as : List zV) : PreS s H (z_Pc P G XX as M) (as.map (z_cv (zg_A G))) := by
  refine ⟨z_blind hc as M, fun U hU hW => ⟨rfl, by rw [hU]; exact hst.1, by rw [hU]; exact Nat.le_trans hbase hst.2.1, ?_⟩⟩
  refine hKK.warm hc hW hbase fun q hq => ?_
  rw [hU]
  exact hst.2.2.1 q (Nat.lt_of_lt_of_le hq hbase) (Nat.not_le.mpr hq)
/-- behind a call -/
theorem zw_back {a0 : Array Value} {st0 : List Value} {rv : Option zV} (hst : zw_St G s M H locs)
    (kk : ∀ H' locs', zw_St G s M' H' locs' → W p l e R s m args below meth c H' locs' (cells + (zm_n M' - zm_n M)) (slots + (zm_s M' - zm_s M)) Q (F0 m (pc + 3) lsA ((rv.map (z_cv (zg_A G))).toList ++ rest)))
    (hr : va_Run p l e R s m args below meth c H locs cells slots (zm_n M' - zm_n M) (zm_s M' - zm_s M) (F0 m pc lsA st0) rest (z_Qc G rv M' a0) (fun q => zg_base G ≤ q)) : W p l e R s m args below meth c H locs cells slots Q (F0 m pc lsA st0) := by
  intro U hU X
  obtain ⟨v, st₀, t, U', L, h0, X', hL, e1, e2, ⟨hv, hRep, hF⟩, go⟩ := hr U hU X
  have hv : v = rv.map (z_cv (zg_A G)) := Outcome.returned.inj hv
  subst hv
  obtain ⟨g1, g2⟩ := hst
  rw [← h0] at g2
  have hS : va_S (fun q => zg_base G ≤ q) s.heap t.heap (locs ++ L) := ⟨Nat.le_trans g2.1 hF.1, fun q q1 q2 => by rw [hF.2 q (Nat.lt_of_lt_of_le q1 g2.1) q2]; exact g2.2.1 q q1 q2, fun z hz => by
    rcases List.mem_append.mp hz with h | h
    · exact g2.2.2 z h
    · exact hL z h⟩
  obtain ⟨t2, a1, b1⟩ := kk t.heap (locs ++ L) ⟨hRep, hS⟩ U' e1 X'
  exact ⟨t2, go t2 a1, b1⟩
theorem zw_virtual (hok : z_ok T P G) (hF : zw_Fr P G XX p s m args c cc nL own) (hc : z_clo G XX) (hst : zw_St G s M H locs) {idx callee n t k d : Nat} {as' : List zV} {rv : Option zV} (hM : z_Met T P G XX l (z_room d) callee (.inr (.inr (t, some k)) :: as') M rv M') (hR : R.frames ≥ d + 1 + 10 ∧ R.locals ≥ 48 * (d + 1) + 200) (hroom : cells + (zm_n M' - zm_n M) ≤ R.cells ∧ slots + (zm_s M' - zm_s M) ≤ R.slots) (hk : zm_K M k = t + 1) (hsz : lsA.size = nL) (h8 : (rest.map fun v => v.category).sum ≤ 8) (hd : decode cc pc = .ok (.invokevirtual idx, 3)) (hlen : as'.length = n)
    (hcal : z_okM T P callee ∧ z_okY P callee n ∧ (∃ Tt N, (zg_cl G)[t]? = some ((zp_Y P callee).cls, Tt, N)) ∧ Cond.methodLink own idx (zp_Y P callee) ∈ zp_GW P ∧ Cond.instanceMethod (zp_Y P callee) ∈ zp_GW P ∧ Cond.selects (zp_Y P callee).cls (zp_Y P callee) (zp_Y P callee) ∈ zp_GW P)
    (kk : ∀ H' locs', zw_St G s M' H' locs' → W p l e R s m args below meth c H' locs' (cells + (zm_n M' - zm_n M)) (slots + (zm_s M' - zm_s M)) Q (F0 m (pc + 3) lsA ((rv.map (z_cv (zg_A G))).toList ++ rest)))
    : W p l e R s m args below meth c H locs cells slots Q (F0 m pc lsA ((as'.map (z_cv (zg_A G))).reverse ++ .ref (zg_ad G k) :: rest)) := by
  obtain ⟨hx, hb, hml, hown, hts, hKK, hbase⟩ := id hF
  obtain ⟨hMo, hY, ⟨Tt, N, hcl⟩, w1, w2, w3⟩ := hcal
  have ht20 := (hok.1.2.2.2.2.1 t _ Tt N hcl).1
  have he := z_ws_at hst.1 hk
  rw [z_cell_o G M ht20] at he
  have hrecv := va_recv hKK.1 hst.1.1 hcl he
  have hnL := hMo.2.2.1
  have pre := zw_pre (P := P) hc hKK hbase hst (.inr (.inr (t, some k)) :: as')
  have cb := callB_of (R := R) (own := own) (index := idx) (rm := z_room d (zm_n M' - zm_n M) (zm_s M' - zm_s M)) n hts (z_good hok hMo) rfl rfl rfl (hts _ hY.2.2.2) (hts _ w1) ⟨hY.1, hY.2.1, hY.2.2.1⟩ ⟨by show d + 10 + 1 ≤ _; omega, by show 8 + (_ + 11) + (48 * d + 200) ≤ _; omega⟩
  have hadk : z_cv (zg_A G) (.inr (.inr (t, some k))) = .ref (zg_ad G k) := by
    show Value.ref (zg_A G t k) = _
    rw [zg_A_ad G (by omega)]
  refine zw_back hst kk (va_runV (As := as'.map (z_cv (zg_A G))) (C := (zp_Y P callee).cls) ⟨hx, hb, hml, hown, hts⟩ hM ⟨cb, hts _ w2, hts _ w3⟩ ⟨pre.1, hrecv, fun U hU hW => ?_⟩ rfl (by rw [List.length_map]; exact hlen) hsz rfl (lv_room h8) hd hroom)
  have h9 := pre.2 U hU hW
  rw [List.map_cons, hadk] at h9
  exact h9
/-- new cells' addresses chosen again -/
theorem zw_again {ad : Nat → Nat} {Rg : Nat × (Nat → Nat) × Nat × va_G × List vw_C × (Nat → ClassId) × (Nat → Nat → Nat) × (Nat → Nat) × (Nat → Int32) × Nat × Nat} {H1 : Heap} (h : z_Rep (ad, Rg) M H) (hz : H.size ≤ H1.size) (hq : ∀ q : Nat, q < H.size → H1[q]? = H[q]?) : ∃ ad' : Nat → Nat, (∀ k, k < zm_n M → ad' k = ad k) ∧ z_Rep (ad', Rg) M H1 := by
  refine ⟨fun k => if k < zm_n M then ad k else H1.size + (k - zm_n M), fun k hk => if_pos hk, ?_⟩
  obtain ⟨ad', ead⟩ : ∃ Y : Nat → Nat, Y = fun k => if k < zm_n M then ad k else H1.size + (k - zm_n M) := ⟨_, rfl⟩
  rw [← ead]
  have e1 : ∀ k, k < zm_n M → ad' k = ad k := fun k hk => by rw [ead]; exact if_pos hk
  have hr : ∀ k t j r, zm_K M k = t + 1 → zm_R M t k j = some r → zg_isR (ad, Rg) t j → r < zm_n M := by
    intro k t j r h1 h2 h3
    have h4 := h.2.2.2.2.1 k t j r h1 h2 h3
    exact z_lt h h4
  have hcell : ∀ k, k < zm_n M → z_cell (ad', Rg) M (zm_K M k - 1) k = z_cell (ad, Rg) M (zm_K M k - 1) k := by
    intro k hk
    obtain ⟨q1, q2, q3⟩ := h.2.2.2.1 k hk
    obtain ⟨t, ht⟩ : ∃ t, zm_K M k = t + 1 := ⟨zm_K M k - 1, by omega⟩
    have et : zm_K M k - 1 = t := by omega
    rw [et]
    by_cases c1 : t < 20
    · rw [z_cell_o _ M c1, z_cell_o _ M c1]
      congr 2
      unfold z_fs
      apply List.map_congr_left
      intro j _
      show z_cv (zg_A (ad', Rg)) (ez_fv (zg_fk (ad, Rg) t j) M t k j) = z_cv (zg_A (ad, Rg)) (ez_fv (zg_fk (ad, Rg) t j) M t k j)
      obtain ⟨fk, efk⟩ : ∃ Y, Y = zg_fk (ad, Rg) t j := ⟨_, rfl⟩
      rw [← efk]
      match fk, efk with
      | 0, _ => rfl
      | 1, _ => rfl
      | f + 2, efk =>
        show z_cv (zg_A (ad', Rg)) (.inr (.inr (f, zm_R M t k j))) = z_cv (zg_A (ad, Rg)) (.inr (.inr (f, zm_R M t k j)))
        cases hRr : zm_R M t k j with
        | none => rfl
        | some r =>
          have := hr k t j r ht hRr (fun _ => by omega)
          show Value.ref (zg_A (ad', Rg) f r) = Value.ref (zg_A (ad, Rg) f r)
          congr 1
          unfold zg_A
          show (if f = 90 then zg_b (ad, Rg) else if f = 91 then zg_sa (ad, Rg) r else ad' r) = (if f = 90 then zg_b (ad, Rg) else if f = 91 then zg_sa (ad, Rg) r else ad r)
          rw [e1 r this]
    · by_cases c2 : t = 23
      · subst c2
        rfl
      · by_cases c3 : t = 24 ∨ t = 25
        · rw [z_cell_r _ M c3, z_cell_r _ M c3]
          have : (fun i => (zm_R M t k i).map (zg_A (ad', Rg) (zg_elt (ad', Rg) t))) = (fun i => (zm_R M t k i).map (zg_A (ad, Rg) (zg_elt (ad, Rg) t))) := by
            funext i
            cases hRr : zm_R M t k i with
            | none => rfl
            | some r =>
              have := hr k t i r ht hRr (fun q => absurd q c1)
              show some (zg_A (ad', Rg) (zg_elt (ad, Rg) t) r) = some (zg_A (ad, Rg) (zg_elt (ad, Rg) t) r)
              congr 1
              obtain ⟨f, ef⟩ : ∃ Y, Y = zg_elt (ad, Rg) t := ⟨_, rfl⟩
              rw [← ef]
              unfold zg_A
              show (if f = 90 then zg_b (ad, Rg) else if f = 91 then zg_sa (ad, Rg) r else ad' r) = (if f = 90 then zg_b (ad, Rg) else if f = 91 then zg_sa (ad, Rg) r else ad r)
              rw [e1 r this]
          rw [this]
          rfl
        · rw [z_cell_i _ M (by omega), z_cell_i _ M (by omega)]
          rfl
  have hws : z_ws (ad', Rg) M = z_ws (ad, Rg) M := by
    unfold z_ws
    apply List.map_congr_left
    intro k hk
    have hk' : k < zm_n M := List.mem_range.mp hk
    show (ad' k, z_cell (ad', Rg) M (zm_K M k - 1) k) = (ad k, z_cell (ad, Rg) M (zm_K M k - 1) k)
    rw [e1 k hk', hcell k hk']
  refine ⟨?_, ?_, ?_, h.2.2.2.1, h.2.2.2.2.1, h.2.2.2.2.2.1, h.2.2.2.2.2.2⟩
  · rw [hws]
    exact h.1.kept fun k x hx => hq x.1 (h.1 k x hx).lt
  · rw [hws]
    exact h.2.1
  · intro k hk
    refine ⟨?_, (h.2.2.1 k hk).2⟩
    show ad' k = _
    rw [ead]
    exact if_neg (Nat.not_lt.mpr hk)
end
