/-! THE LIBRARY's own calls, switches -/
theorem z_tab {α : Type} {pc : Nat} {x : Int32} {dflt : Int} {k : Nat → Option α} {out : α} : ∀ (offs : List Int) (lo : Nat), ez_tab pc lo offs x dflt k = some out → (∃ (j : Nat) (off : Int), offs[j]? = some off ∧ x = Int32.ofNat (lo + j) ∧ ez_jmp pc off k = some out) ∨ ((∀ j, j < offs.length → x ≠ Int32.ofNat (lo + j)) ∧ ez_jmp pc dflt k = some out) := by
  intro offs
  induction offs with
  | nil => intro lo h; exact Or.inr ⟨fun j hj => by simp at hj, h⟩
  | cons o r ih =>
    intro lo h
    unfold ez_tab at h
    split at h
    · rename_i e
      exact Or.inl ⟨0, o, rfl, e, h⟩
    · rename_i hne
      rcases ih (lo + 1) h with ⟨j, off, h1, h2, h3⟩ | ⟨h1, h2⟩
      · exact Or.inl ⟨j + 1, off, h1, by rw [h2]; congr 1; omega, h3⟩
      · refine Or.inr ⟨fun j hj => ?_, h2⟩
        cases j with
        | zero => exact hne
        | succ j =>
          have := h1 j (by simpa using hj)
          rw [show lo + (j + 1) = lo + 1 + j by omega]
          exact this
section ZLib
variable {p : Program} {l : Launch} {e : Env} {R : Room} {s : State} {m : MethodId} {args : Array Value} {below : List Frame} {meth : Method} {c : Code} {Q : State → Prop}
variable {α : Type} {T : zT} {P : zP} {G : zG} {XX : State → Prop} {next : Nat → List (Nat × zV) → List zV → zM → Option α} {out : α} {mid n0 s0 : Nat} {sc : Prop}
variable {pc : Nat} {ls : List (Nat × zV)} {M : zM} {H : Heap} {locs : List Loc} {cells slots : Nat} {lsA : Array Slot} {r rest st : List zV}
theorem zi_table (hok : z_ok T P G) (hF : z_Fr T P G XX p s m args meth c mid sc) (hst : z_St G s n0 s0 M H locs cells slots) (hl : lv_has lsA (zt_nL T mid) (z_cvl (zg_A G) ls)) (hvl : ∀ q ∈ ls, z_VV G sc M q.2) (hnx : z_Nx p l e R s m args below meth c Q T G next out mid n0 s0 sc) {dflt hi : Int} {lo len : Nat} {offs : Array Int} {x : Int32} (hd : decode (zp_B P mid) pc = .ok (.tableswitch dflt (lo : Int) hi offs, len)) (hhi : hi + 1 = (lo : Int) + (offs.size : Nat)) (hsm : lo + offs.size ≤ 1000) (hvs : ∀ w ∈ r, z_VV G sc M w) (hn : ez_tab pc lo offs.toList x dflt (fun t => next t ls r M) = some out)
    : W p l e R s m args below meth c H locs cells slots Q (F0 m pc lsA ((.inl x :: r : List zV).map (z_cv (zg_A G)))) := by
  obtain ⟨hx, hb, hml, hown, hts, hKK, hbase, hname, hsc⟩ := id hF
  have hofs : offs.toList.length = offs.size := Array.length_toList
  rcases z_tab offs.toList lo hn with ⟨j, off, h1, h2, h3⟩ | ⟨h1, h2⟩
  · obtain ⟨t, ht, hk⟩ := z_jmp h3
    have hj : j < offs.size := by have := (List.getElem?_eq_some_iff.mp h1).1; omega
    have hxi : x.toInt = ((lo + j : Nat) : Int) := by rw [h2]; exact nI_toInt (by omega)
    refine lv_tableIn hx hb hd (by omega) (by omega) ?_ ht (hnx _ _ _ _ _ _ _ _ _ hk hst hl hvl hvs)
    rw [hxi, show (((lo + j : Nat) : Int) - (lo : Int)).toNat = j by omega, ← Array.getElem?_toList]
    exact h1
  · obtain ⟨t, ht, hk⟩ := z_jmp h2
    refine lv_tableOut hx hb hd ?_ ht (hnx _ _ _ _ _ _ _ _ _ hk hst hl hvl hvs)
    rcases Int.lt_or_le x.toInt lo with q | q
    · exact Or.inl q
    · rcases Int.lt_or_le hi x.toInt with q2 | q2
      · exact Or.inr q2
      · have hj : (x.toInt - lo).toNat < offs.toList.length := by omega
        refine absurd ?_ (h1 _ hj)
        apply Int32.toInt_inj.mp
        have : (Int32.ofNat (lo + (x.toInt - lo).toNat)).toInt = ((lo + (x.toInt - lo).toNat : Nat) : Int) := nI_toInt (by omega)
        rw [this]
        omega
theorem zi_obj (hok : z_ok T P G) (hF : z_Fr T P G XX p s m args meth c mid sc) (hst : z_St G s n0 s0 M H locs cells slots) (hl : lv_has lsA (zt_nL T mid) (z_cvl (zg_A G) ls)) (hvl : ∀ q ∈ ls, z_VV G sc M q.2) (hnx : z_Nx p l e R s m args below meth c Q T G next out mid n0 s0 sc) {idx t k : Nat} (hR : R.frames ≥ 10 ∧ R.locals ≥ 200) (hd : decode (zp_B P mid) pc = .ok (.invokespecial idx, 3)) (hcal : Cond.methodLink (zp_Y P mid).cls idx objectInit ∈ zp_GW P ∧ Cond.instanceMethod objectInit ∈ zp_GW P ∧ Cond.code objectInit ⟨#[0xb1]⟩ 1 none ∈ zp_GW P) (h8 : zc_sum rest ≤ 8) (hvs : ∀ w ∈ rest, z_VV G sc M w) (hn : next (pc + 3) ls rest M = some out)
    : W p l e R s m args below meth c H locs cells slots Q (F0 m pc lsA ((.inr (.inr (t, some k)) :: rest : List zV).map (z_cv (zg_A G)))) := by
  obtain ⟨hx, hb, hml, hown, hts, hKK, hbase, hname, hsc⟩ := id hF
  exact W.objInit hx hb hown (hts _ hcal.1) (hts _ hcal.2.1) (hts _ hcal.2.2) (g := F0 m pc lsA (.ref (zg_A G t k) :: rest.map (z_cv (zg_A G)))) rfl (hl.1.trans hml.symm) rfl hd (by omega) (by rw [z_zcsum]; show 2 * 0 + _ + 12 ≤ _; omega) (hnx _ _ _ _ _ _ _ _ _ hn hst hl hvl hvs)
theorem zi_max (hok : z_ok T P G) (hF : z_Fr T P G XX p s m args meth c mid sc) (hst : z_St G s n0 s0 M H locs cells slots) (hl : lv_has lsA (zt_nL T mid) (z_cvl (zg_A G) ls)) (hvl : ∀ q ∈ ls, z_VV G sc M q.2) (hnx : z_Nx p l e R s m args below meth c Q T G next out mid n0 s0 sc) {idx : Nat} {x y : Int32} (hR : R.frames ≥ 10 ∧ R.locals ≥ 200) (hroom : cells ≤ R.cells ∧ slots ≤ R.slots) (hd : decode (zp_B P mid) pc = .ok (.invokestatic idx, 3)) (hcal : Cond.methodLink (zp_Y P mid).cls idx Lib.Math.max.name ∈ zp_GW P ∧ Cond.static Lib.Math.max.name ∈ zp_GW P ∧ Cond.initialized "java/lang/Math" ∈ zp_GW P ∧ Cond.code Lib.Math.max.name Lib.Math.max.code 2 (some .int) ∈ zp_GW P) (h8 : zc_sum r ≤ 8) (hvs : ∀ w ∈ r, z_VV G sc M w) (hn : next (pc + 3) ls (.inl (if x < y then y else x) :: r) M = some out)
    : W p l e R s m args below meth c H locs cells slots Q (F0 m pc lsA ((.inl y :: .inl x :: r : List zV).map (z_cv (zg_A G)))) := by
  obtain ⟨hx, hb, hml, hown, hts, hKK, hbase, hname, hsc⟩ := id hF
  exact va_mmax hx hb (hml.trans hl.1.symm) hown (hts _ hcal.1) (hts _ hcal.2.1) (hts _ hcal.2.2.1) (hts _ hcal.2.2.2) (by omega) (by rw [z_zcsum]; omega) hroom.1 hroom.2 hd (hnx _ _ _ _ _ _ _ _ _ hn hst hl hvl (z_cons trivial hvs))
theorem zi_min (hok : z_ok T P G) (hF : z_Fr T P G XX p s m args meth c mid sc) (hst : z_St G s n0 s0 M H locs cells slots) (hl : lv_has lsA (zt_nL T mid) (z_cvl (zg_A G) ls)) (hvl : ∀ q ∈ ls, z_VV G sc M q.2) (hnx : z_Nx p l e R s m args below meth c Q T G next out mid n0 s0 sc) {idx : Nat} {x y : Int32} (hR : R.frames ≥ 10 ∧ R.locals ≥ 200) (hroom : cells ≤ R.cells ∧ slots ≤ R.slots) (hd : decode (zp_B P mid) pc = .ok (.invokestatic idx, 3)) (hcal : Cond.methodLink (zp_Y P mid).cls idx Lib.Math.min.name ∈ zp_GW P ∧ Cond.static Lib.Math.min.name ∈ zp_GW P ∧ Cond.initialized "java/lang/Math" ∈ zp_GW P ∧ Cond.code Lib.Math.min.name Lib.Math.min.code 2 (some .int) ∈ zp_GW P) (h8 : zc_sum r ≤ 8) (hvs : ∀ w ∈ r, z_VV G sc M w) (hn : next (pc + 3) ls (.inl (if y < x then y else x) :: r) M = some out)
    : W p l e R s m args below meth c H locs cells slots Q (F0 m pc lsA ((.inl y :: .inl x :: r : List zV).map (z_cv (zg_A G)))) := by
  obtain ⟨hx, hb, hml, hown, hts, hKK, hbase, hname, hsc⟩ := id hF
  exact va_mmin hx hb (hml.trans hl.1.symm) hown (hts _ hcal.1) (hts _ hcal.2.1) (hts _ hcal.2.2.1) (hts _ hcal.2.2.2) (by omega) (by rw [z_zcsum]; omega) hroom.1 hroom.2 hd (hnx _ _ _ _ _ _ _ _ _ hn hst hl hvl (z_cons trivial hvs))
theorem zi_copy (hok : z_ok T P G) (hF : z_Fr T P G XX p s m args meth c mid sc) (hst : z_St G s n0 s0 M H locs cells slots) (hl : lv_has lsA (zt_nL T mid) (z_cvl (zg_A G) ls)) (hvl : ∀ q ∈ ls, z_VV G sc M q.2) (hnx : z_Nx p l e R s m args below meth c Q T G next out mid n0 s0 sc) {idx k k' : Nat} {n dp sp : Int32} (hR : R.frames ≥ 10 ∧ R.locals ≥ 200) (hd : decode (zp_B P mid) pc = .ok (.invokestatic idx, 3)) (hcal : Cond.methodLink (zp_Y P mid).cls idx arraycopyName ∈ zp_GW P ∧ Cond.native arraycopyName ∈ zp_GW P ∧ Cond.static arraycopyName ∈ zp_GW P ∧ Cond.initialized "java/lang/System" ∈ zp_GW P) (h8 : zc_sum r ≤ 8) (hin : ¬ sp < 0 ∧ ¬ dp < 0 ∧ ¬ n < 0 ∧ sp.toNatClampNeg + n.toNatClampNeg ≤ zm_L M 20 k' ∧ dp.toNatClampNeg + n.toNatClampNeg ≤ zm_L M 20 k) (hvs : ∀ w ∈ (.inl n :: .inl dp :: .inr (.inr (20, some k)) :: .inl sp :: .inr (.inr (20, some k')) :: r : List zV), z_VV G sc M w) (hn : next (pc + 3) ls r (zm_copy M 20 k (va_cpy (zm_I M 20 k') (zm_I M 20 k) sp.toNatClampNeg dp.toNatClampNeg n.toNatClampNeg)) = some out)
    : W p l e R s m args below meth c H locs cells slots Q (F0 m pc lsA ((.inl n :: .inl dp :: .inr (.inr (20, some k)) :: .inl sp :: .inr (.inr (20, some k')) :: r : List zV).map (z_cv (zg_A G)))) := by
  obtain ⟨hx, hb, hml, hown, hts, hKK, hbase, hname, hsc⟩ := id hF
  obtain ⟨h1, h2, h3, h4, h5⟩ := hin
  have hk := z_VVk (z_hd (z_tl (z_tl hvs))) (by omega)
  have hk' := z_VVk (z_hd (z_tl (z_tl (z_tl (z_tl hvs))))) (by omega)
  have hrest := z_tl (z_tl (z_tl (z_tl (z_tl hvs))))
  show W p l e R s m args below meth c H locs cells slots Q (F0 m pc lsA (.int n :: .int dp :: .ref (zg_A G 20 k) :: .int sp :: .ref (zg_A G 20 k') :: r.map (z_cv (zg_A G))))
  rw [zg_A_ad G (by omega), zg_A_ad G (by omega)]
  have hd1 : H[zg_ad G k]? = some (vp_cell (zg_cA G 20) (zm_L M 20 k, .inl (zm_I M 20 k))) := by
    have := z_at_o hst.1 hk
    rw [z_cell_i G M (Or.inl rfl)] at this
    exact this
  have hs1 : H[zg_ad G k']? = some (vp_cell (zg_cA G 20) (zm_L M 20 k', .inl (zm_I M 20 k'))) := by
    have := z_at_o hst.1 hk'
    rw [z_cell_i G M (Or.inl rfl)] at this
    exact this
  have tn : ∀ z : Int32, ¬ z < 0 → z.toInt = (z.toNatClampNeg : Int) := by
    intro z hz
    obtain ⟨j, hj, rfl⟩ := nI_of hz
    rw [nI_clamp hj, nI_toInt hj]
  obtain ⟨-, kA, hkA, cm, hkk⟩ := (hKK.1.2 0 _ rfl).1 0 (fun _ => .int 0)
  have hkA : s.vm.classes[zg_cA G 20]? = some kA := hkA
  intro U hU X
  obtain ⟨vm', X', step⟩ := X.arraycopy hx hown (hts _ hcal.1) (hts _ hcal.2.1) (hts _ hcal.2.2.1) (hts _ hcal.2.2.2) (src := zg_ad G k') (dst := zg_ad G k) (srcPos := sp) (destPos := dp) (n := n) (by rw [hU]; exact hs1) (by rw [hU]; exact hd1)
    (fun _ h => by cases h) (fun _ h => by cases h) (fun h => by cases h) (fun h => by cases h) hkA hkA hkk hkk rfl h1 h2 h3
    (by rw [tn sp h1, tn n h3]; show ¬ _ > ((arrV _ _ (fun j => .int (zm_I M 20 k' j))).slots.size : Int); rw [arrV_size]; omega)
    (by rw [tn dp h2, tn n h3]; show ¬ _ > ((arrV _ _ (fun j => .int (zm_I M 20 k j))).slots.size : Int); rw [arrV_size]; omega)
    (fun vm₁ _ i hi => by
      have e5 : (vp_cell (zg_cA G 20) (zm_L M 20 k', .inl (zm_I M 20 k'))).slots.getD (sp.toNatClampNeg + i) .null = .int (zm_I M 20 k' (sp.toNatClampNeg + i)) := by
        show (arrV _ _ (fun j => .int (zm_I M 20 k' j))).slots.getD _ _ = _
        rw [Array.getD_eq_getD_getElem?, arrV_read _ _ (by omega)]
        rfl
      rw [e5]
      exact ⟨rfl, trivial⟩)
    (g := F0 m pc lsA (.int n :: .int dp :: .ref (zg_ad G k) :: .int sp :: .ref (zg_ad G k') :: r.map (z_cv (zg_A G)))) rfl (hl.1.trans hml.symm) (rest := r.map (z_cv (zg_A G))) rfl (by rw [hb]; exact hd) (by omega) (by rw [z_zcsum]; show 2 * 0 + _ + (7 + 11) ≤ _; omega)
  have e1 : copied (vp_cell (zg_cA G 20) (zm_L M 20 k', .inl (zm_I M 20 k'))) (vp_cell (zg_cA G 20) (zm_L M 20 k, .inl (zm_I M 20 k))) sp dp n = vp_cell (zg_cA G 20) (zm_L M 20 k, .inl (va_cpy (zm_I M 20 k') (zm_I M 20 k) sp.toNatClampNeg dp.toNatClampNeg n.toNatClampNeg)) := va_copied (fun z => .int z) _ _ (zm_I M 20 k') (zm_I M 20 k) h4
  rw [e1] at X' step
  have hlt : zg_ad G k < H.size := (Array.getElem?_eq_some_iff.mp hd1).1
  generalize hM' : zm_copy M 20 k (va_cpy (zm_I M 20 k') (zm_I M 20 k) sp.toNatClampNeg dp.toNatClampNeg n.toNatClampNeg) = M' at hn
  generalize hH1 : H.setIfInBounds (zg_ad G k) (vp_cell (zg_cA G 20) (zm_L M 20 k, .inl (va_cpy (zm_I M 20 k') (zm_I M 20 k) sp.toNatClampNeg dp.toNatClampNeg n.toNatClampNeg))) = H1
  have hheap : ((U.setVm vm').setCell (zg_ad G k) (vp_cell (zg_cA G 20) (zm_L M 20 k, .inl (va_cpy (zm_I M 20 k') (zm_I M 20 k) sp.toNatClampNeg dp.toNatClampNeg n.toNatClampNeg)))).heap = H1 := by rw [← hH1, ← hU]; rfl
  have oq : ∀ q : Nat, q ≠ zg_ad G k → H1[q]? = H[q]? := fun q hq => by rw [← hH1]; simp [Array.getElem?_setIfInBounds, Ne.symm hq]
  have hz : H1.size = H.size := by rw [← hH1]; simp
  have hI' : zm_I M' 20 k = va_cpy (zm_I M 20 k') (zm_I M 20 k) sp.toNatClampNeg dp.toNatClampNeg n.toNatClampNeg := by
    rw [← hM']; funext j; rw [z_copy_at, if_pos ⟨rfl, rfl⟩]
  have hat : va_at (zg_D G) (zg_cl G) (zg_ad G k, z_cell G M' 20 k) H1 := by
    rw [z_cell_i G _ (Or.inl rfl), hI']
    show H1[zg_ad G k]? = some _
    rw [← hH1, ← hM']
    simp [Array.getElem?_setIfInBounds, hlt]
    rfl
  have hRep' : z_Rep G M' H1 := by
    refine z_Rep_set hst.1 hk (by rw [← hM']; rfl) (by rw [← hM']; rfl) (fun t' j' hj' => ?_) hat hz oq ?_ (by rw [← hM']; rfl) ?_
    · rw [← hM']; exact z_cell_congr (z_copy_other M 20 k _ (fun q => hj' q.2)) rfl rfl rfl
    · rw [← hM']; exact hst.1.2.2.2.2.1
    · rw [← hM']; exact z_copy_other M 20 k _ (fun q => by omega)
  have hK' : zm_K M' = zm_K M := by rw [← hM']; rfl
  obtain ⟨t, a1, b1⟩ := hnx _ _ _ _ H1 _ cells slots lsA hn ⟨hRep', ⟨by rw [hz]; exact hst.2.1.1, fun q g1 g2 => by
      rw [oq q (fun e => g2 (by rw [e]; exact z_base hst.1 (z_lt hst.1 hk)))]
      exact hst.2.1.2.1 q g1 g2, fun q hq => by
      rcases List.mem_append.mp hq with h | h
      · exact hst.2.1.2.2 q h
      · obtain ⟨z, -, hz⟩ := List.mem_map.mp h
        rw [← hz]
        exact z_base hst.1 (z_lt hst.1 hk)⟩, by rw [← hM']; exact hst.2.2.1, by rw [← hM']; exact hst.2.2.2⟩ hl (fun q hq => (hvl q hq).mono fun _ _ => by rw [hK']) (fun w hw => (hrest w hw).mono fun _ _ => by rw [hK']) _ hheap X'
  exact ⟨t, step t a1, b1⟩
end ZLib
