/-! RUNS: the evaluator's answer is the machine's -/
section ZRun
variable {α : Type} {T : zT} {P : zP} {G : zG} {XX : State → Prop} {call : Nat → Nat → List (Nat × zV) → zM → Option (Option zV × zM)} {next : Nat → List (Nat × zV) → List zV → zM → Option α} {ret : Option zV → zM → Option α} {out : α} {d mid n0 s0 : Nat} {sc : Prop}
variable {p : Program} {l : Launch} {e : Env} {R : Room} {s : State} {m : MethodId} {args : Array Value} {below : List Frame} {meth : Method} {c : Code} {Q : State → Prop}
variable {pc : Nat} {ls : List (Nat × zV)} {M : zM} {H : Heap} {locs : List Loc} {cells slots : Nat} {lsA : Array Slot} {st : List zV} {Goal : Prop}
theorem z_stepK (hok : z_ok T P G) (hcall : z_CallK G call M)
    (hnx : ∀ pc' ls' st' M', next pc' ls' st' M' = some out → z_Tr G sc M ls st M' ls' st' → Goal)
    (hret : ∀ v, ret v M = some out → (∀ w, v = some w → w ∈ st) → Goal)
    (h : ez_step T call next ret d mid pc ls st M = some out) : Goal := by
  unfold ez_step at h
  split at h
  · cases h
  · split at h
    · rename_i hp
      refine hnx _ _ _ _ (z_bif h).2 ⟨Nat.le_refl _, Nat.le_refl _, fun h1 h2 h3 => ?_⟩
      obtain ⟨k1, k2⟩ := z_pure_vv (P := z_VV G sc M) (fun _ => trivial) (fun _ => trivial) (fun _ => trivial) hp h2 h3
      exact ⟨h1, fun _ _ => rfl, k1, k2⟩
    · exact z_keep hok hcall hnx hret h
theorem z_stepW (hok : z_ok T P G) (hc : z_clo G XX) (hF : z_Fr T P G XX p s m args meth c mid sc) (hR : R.frames ≥ d + 10 ∧ R.locals ≥ 48 * d + 200) (hroom : ∀ pc' ls' st' M', next pc' ls' st' M' = some out → zm_n M' ≤ R.cells + n0 ∧ zm_s M' ≤ R.slots + s0) (hcall : z_Call T P G XX l call d M) (hext : z_Ext T P G XX l) (hst : z_St G s n0 s0 M H locs cells slots) (hl : lv_has lsA (zt_nL T mid) (z_cvl (zg_A G) ls)) (hvl : ∀ q ∈ ls, z_VV G sc M q.2) (hvs : ∀ v ∈ st, z_VV G sc M v) (hnx : z_Nx p l e R s m args below meth c Q T G next out mid n0 s0 sc)
    (hret : ∀ v, ret v M = some out → z_isRet T mid (zp_B P mid) pc v → (∀ w, v = some w → z_VV G sc M w) → W p l e R s m args below meth c H locs cells slots Q (F0 m pc lsA (v.toList.map (z_cv (zg_A G)))))
    (h : ez_step T call next ret d mid pc ls st M = some out) : W p l e R s m args below meth c H locs cells slots Q (F0 m pc lsA (st.map (z_cv (zg_A G)))) := by
  unfold ez_step at h
  split at h
  · cases h
  · rename_i i len note hcode
    split at h
    · rename_i n ls' st' hp
      have e1 := z_beq_eq (z_bif h).1
      replace h := (z_bif h).2
      subst e1
      obtain ⟨k1, k2⟩ := z_pure_vv (P := z_VV G sc M) (fun _ => trivial) (fun _ => trivial) (fun _ => trivial) hp hvl hvs
      exact z_pure hF.1 hF.2.1 (hok.2.1 mid pc i _ note hcode) hp hl fun lsA' hl' => hnx _ _ _ _ _ _ _ _ _ h hst hl' k1 k2
    · exact z_rest hok hc hF hR hroom hcall hext hst hl hvl hvs hnx hret hcode h
theorem z_runK (hok : z_ok T P G) : ∀ (n d mid pc : Nat) (ls : List (Nat × zV)) (st : List zV) (M : zM) (rv : Option zV) (M' : zM), ez_run T n d mid pc ls st M = some (rv, M') → zm_n M ≤ zm_n M' ∧ zm_s M ≤ zm_s M' ∧ (z_WF G M → (∀ q ∈ ls, z_VV G False M q.2) → (∀ v ∈ st, z_VV G False M v) → z_WF G M' ∧ (∀ k, zm_K M k ≠ 0 → zm_K M' k = zm_K M k) ∧ ∀ v, rv = some v → z_VV G False M' v) := by
  intro n
  induction n with
  | zero => intro d mid pc ls st M rv M' h; cases h
  | succ n ih =>
    intro d mid pc ls st M rv M' h
    refine z_stepK (sc := False) (G := G) hok ?_ ?_ ?_ h
    · intro d' callee as rv1 M1 h1
      obtain ⟨g1, g2, g3⟩ := ih _ _ _ _ _ _ _ _ h1
      exact ⟨g1, g2, fun k1 k2 => g3 k1 (fun q hq => k2 _ (z_mem_args hq)) (fun v hv => by cases hv)⟩
    · intro pc' ls' st' M1 h1 ht
      obtain ⟨g1, g2, g3⟩ := ih _ _ _ _ _ _ _ _ h1
      refine ⟨Nat.le_trans ht.1 g1, Nat.le_trans ht.2.1 g2, fun k1 k2 k3 => ?_⟩
      obtain ⟨q1, q2, q3, q4⟩ := ht.2.2 k1 k2 k3
      obtain ⟨r1, r2, r3⟩ := g3 q1 q3 q4
      exact ⟨r1, fun k hk => by rw [r2 k (by rw [q2 k hk]; exact hk), q2 k hk], r3⟩
    · intro v hv hm
      cases hv
      exact ⟨Nat.le_refl _, Nat.le_refl _, fun k1 k2 k3 => ⟨k1, fun _ _ => rfl, fun w hw => k3 w (hm w hw)⟩⟩
/-- at a return: the answer, and the world behind -/
theorem z_end {v : Option zV} (hok : z_okM T P mid) (hF : z_Fr T P G XX p s m args meth c mid sc) (hr : meth.sig.returnType = zp_RT P mid) (hlocks : meth.locks = false) (hst : z_St G s n0 s0 M H locs cells slots) (hret : z_isRet T mid (zp_B P mid) pc v) : W p l e R s m args below meth c H locs cells slots (MQ below (z_Qc G v M) args s (zm_n M - n0) (zm_s M - s0) (fun q => zg_base G ≤ q)) (F0 m pc lsA (v.toList.map (z_cv (zg_A G)))) := by
  have c1 : zm_n M - n0 = cells := by have := hst.2.2.1; omega
  have c2 : zm_s M - s0 = slots := by have := hst.2.2.2; omega
  rw [c1, c2]
  have fin : ∀ t : State, t.heap = H → s.WarmedH t.vm → z_Qc G v M args s (.returned (v.map (z_cv (zg_A G)))) t := fun t ht _ => ⟨rfl, by rw [ht]; exact hst.1, hst.2.1.F ht⟩
  have hf : ∀ q ∈ locs, zg_base G ≤ q.base := hst.2.1.2.2
  obtain ⟨-, -, -, hk⟩ := hok
  rcases hret with ⟨hd, x, rfl, h1 | ⟨h1, hx⟩⟩ | ⟨hd, x, rfl, h1⟩ | ⟨hd, x, rfl, h1⟩ | ⟨hd, rfl, h1⟩
  · have hr' : meth.sig.returnType = some .int := by rcases hk with h | h | h | h | h | h <;> first | (rw [hr]; exact h.2) | (exfalso; omega)
    exact W.iret hF.1 hF.2.1 hr' fin hf hd hlocks
  · have hr' : meth.sig.returnType = some .boolean := by rcases hk with h | h | h | h | h | h <;> first | (rw [hr]; exact h.2) | (exfalso; omega)
    exact W.zret hF.1 hF.2.1 hr' (by rcases hx with rfl | rfl <;> rfl) fin hf hd hlocks
  · have hr' : meth.sig.returnType = some .long := by rcases hk with h | h | h | h | h | h <;> first | (rw [hr]; exact h.2) | (exfalso; omega)
    exact W.lret hF.1 hF.2.1 hr' fin hf hd hlocks
  · have hr' : ∃ n, meth.sig.returnType = some (.object n) := by rcases hk with h | h | h | h | h | h <;> first | (rw [hr]; exact h.2) | (exfalso; omega)
    obtain ⟨n, hr'⟩ := hr'
    exact W.aret hF.1 hF.2.1 hr' (Or.inl ⟨n, rfl⟩) (by obtain ⟨t, y⟩ := x; cases y with | none => exact Or.inl rfl | some k => exact Or.inr ⟨_, rfl⟩) fin hf hd hlocks
  · have hr' : meth.sig.returnType = none := by rcases hk with h | h | h | h | h | h <;> first | (rw [hr]; exact h.2) | (exfalso; omega)
    exact W.vret hF.1 hF.2.1 hr' fin hf hd hlocks
/-- a method's contract out of the soundness of its runs -/
theorem z_metOf (hok : z_ok T P G) {callee : Nat} {as : List zV} {rv : Option zV} {M' : zM} (hM : z_okM T P callee) (hfit : zc_sum as ≤ zt_nL T callee)
    (body : ∀ (p : Program) (e : Env) (s : State) (m : MethodId) (args : Array Value) (below : List Frame) (meth : Method) (c : Code) (lsA : Array Slot), z_Fr T P G XX p s m args meth c callee False → meth.sig.returnType = zp_RT P callee → meth.locks = false → z_St G s (zm_n M) (zm_s M) M s.heap [] 0 0 → lv_has lsA (zt_nL T callee) (z_cvl (zg_A G) (zl_args 0 as)) → W p l e (z_room d (zm_n M' - zm_n M) (zm_s M' - zm_s M)) s m args below meth c s.heap [] 0 0 (MQ below (z_Qc G rv M') args s (zm_n M' - zm_n M) (zm_s M' - zm_s M) (fun q => zg_base G ≤ q)) (F0 m 0 lsA [])) :
    z_Met T P G XX l (z_room d) callee as M rv M' := by
  refine Met.ofW (cc := zp_B P callee) (maxL := zt_nL T callee) (ret := zp_RT P callee) hM.2.1 rfl ?_
  intro p e s m args below meth c s₁ Bd hml hPc
  obtain ⟨rfl, hRep, hbase, hKK⟩ := hPc
  have hts0 := atoms_spec (ws := Cond.code (zp_Y P callee) (zp_B P callee) (zt_nL T callee) (zp_RT P callee) :: zp_GW P) Bd.pre
  have hl := lv_entry (as.map (z_cv (zg_A G))) (n := zt_nL T callee) (by rw [z_sl_len]; exact hfit)
  rw [lg_entry_eq]
  generalize (lg_sl (as.map (z_cv (zg_A G))) ++ List.replicate (zt_nL T callee - (lg_sl (as.map (z_cv (zg_A G)))).length) Slot.unset).toArray = lsA at hl ⊢
  rw [z_args_cv] at hl
  exact body p e s m _ below meth c lsA ⟨Bd.exec, Bd.bytes, hml, findClass_of_methodNamed Bd.named, fun w hw => hts0 w (List.mem_cons_of_mem _ hw), hKK, hbase, (name_of_methodNamed Bd.named Bd.method).1, fun q => q.elim⟩ Bd.returns Bd.notSynchronized ⟨hRep, va_S.rf, Nat.zero_add _, Nat.zero_add _⟩ hl
/-- THE EVALUATOR IS SOUND: where it answers, the machine comes to that answer -/
theorem z_runW (hok : z_ok T P G) (hc : z_clo G XX) (hext : z_Ext T P G XX l) : ∀ (n d mid pc : Nat) (ls : List (Nat × zV)) (st : List zV) (M : zM) (rv : Option zV) (M' : zM), z_okM T P mid → ez_run T n d mid pc ls st M = some (rv, M') → ∀ (p : Program) (e : Env) (s : State) (m : MethodId) (args : Array Value) (below : List Frame) (meth : Method) (c : Code) (H : Heap) (locs : List Loc) (cells slots : Nat) (lsA : Array Slot) (n0 s0 : Nat), z_Fr T P G XX p s m args meth c mid False → meth.sig.returnType = zp_RT P mid → meth.locks = false → z_St G s n0 s0 M H locs cells slots → lv_has lsA (zt_nL T mid) (z_cvl (zg_A G) ls) → (∀ q ∈ ls, z_VV G False M q.2) → (∀ v ∈ st, z_VV G False M v) →
    W p l e (z_room d (zm_n M' - n0) (zm_s M' - s0)) s m args below meth c H locs cells slots (MQ below (z_Qc G rv M') args s (zm_n M' - n0) (zm_s M' - s0) (fun q => zg_base G ≤ q)) (F0 m pc lsA (st.map (z_cv (zg_A G)))) := by
  intro n
  induction n with
  | zero => intro d mid pc ls st M rv M' _ h; cases h
  | succ n ih =>
    intro d mid pc ls st M rv M' hM h p e s m args below meth c H locs cells slots lsA n0 s0 hF hr hlocks hst hl hvl hvs
    refine z_stepW (n0 := n0) (s0 := s0) (sc := False) hok hc hF ⟨Nat.le_refl _, Nat.le_refl _⟩ ?_ ?_ hext hst hl hvl hvs ?_ ?_ h
    · intro pc' ls' st' M1 h1
      obtain ⟨g1, g2, -⟩ := z_runK hok n _ _ _ _ _ _ _ _ h1
      refine ⟨?_, ?_⟩
      · show zm_n M1 ≤ zm_n M' - n0 + n0
        omega
      · show zm_s M1 ≤ zm_s M' - s0 + s0
        omega
    · intro d' callee as rv1 M1 hd hMc h1 hfit hva
      obtain ⟨g1, g2, g3⟩ := z_runK hok n _ _ _ _ _ _ _ _ h1
      obtain ⟨k1, k2, k3⟩ := g3 hst.1.wf (fun q hq => hva _ (z_mem_args hq)) (fun v hv => by cases hv)
      refine ⟨z_metOf hok hMc hfit ?_, ⟨g1, g2, k2⟩, k3⟩
      intro p e s m args below meth c lsA hF' hr' hlocks' hst' hl'
      exact ih d' callee 0 _ [] M rv1 M1 hMc h1 p e s m args below meth c s.heap [] 0 0 lsA _ _ hF' hr' hlocks' hst' hl' (fun q hq => hva _ (z_mem_args hq)) (fun v hv => by cases hv)
    · intro pc' ls' st' M1 H' locs' cells' slots' lsA' h1 hst' hl' hvl' hvs'
      exact ih d mid pc' ls' st' M1 rv M' hM h1 p e s m args below meth c H' locs' cells' slots' lsA' n0 s0 hF hr hlocks hst' hl' hvl' hvs'
    · intro v hv hret _
      cases hv
      exact z_end hM hF hr hlocks hst hret
/-- the contract of a method whose run the evaluator answers -/
theorem z_met (hok : z_ok T P G) (hc : z_clo G XX) (hext : z_Ext T P G XX l) {n d callee : Nat} {as : List zV} {rv : Option zV} {M' : zM} (hM : z_okM T P callee) (hfit : zc_sum as ≤ zt_nL T callee) (hva : ∀ v ∈ as, z_VV G False M v) (h : ez_run T n d callee 0 (zl_args 0 as) [] M = some (rv, M')) : z_Met T P G XX l (z_room d) callee as M rv M' := by
  refine z_metOf hok hM hfit ?_
  intro p e s m args below meth c lsA hF' hr' hlocks' hst' hl'
  exact z_runW hok hc hext n d callee 0 _ [] M rv M' hM h p e s m args below meth c s.heap [] 0 0 lsA _ _ hF' hr' hlocks' hst' hl' (fun q hq => hva _ (z_mem_args hq)) (fun v hv => by cases hv)
end ZRun
