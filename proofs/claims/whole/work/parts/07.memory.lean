/-! THE INSTRUCTIONS that read or write memory, one by one -/
section ZInstr
variable {p : Program} {l : Launch} {e : Env} {R : Room} {s : State} {m : MethodId} {args : Array Value} {below : List Frame} {meth : Method} {c : Code} {Q : State → Prop}
variable {α : Type} {T : zT} {P : zP} {G : zG} {XX : State → Prop} {next : Nat → List (Nat × zV) → List zV → zM → Option α} {out : α} {mid n0 s0 : Nat} {sc : Prop}
variable {pc : Nat} {ls : List (Nat × zV)} {M : zM} {H : Heap} {locs : List Loc} {cells slots : Nat} {lsA : Array Slot} {r : List zV}
theorem z_cons {P : zV → Prop} {v : zV} {r : List zV} (h1 : P v) (h2 : ∀ w ∈ r, P w) : ∀ w ∈ v :: r, P w := fun w hw => (List.mem_cons.mp hw).elim (fun e => by rw [e]; exact h1) (h2 w)
theorem z_tl {P : zV → Prop} {v : zV} {r : List zV} (h : ∀ w ∈ v :: r, P w) : ∀ w ∈ r, P w := fun w hw => h w (List.mem_cons_of_mem _ hw)
theorem z_hd {P : zV → Prop} {v : zV} {r : List zV} (h : ∀ w ∈ v :: r, P w) : P v := h v List.mem_cons_self
theorem zi_get (hok : z_ok T P G) (hF : z_Fr T P G XX p s m args meth c mid sc) (hst : z_St G s n0 s0 M H locs cells slots) (hl : lv_has lsA (zt_nL T mid) (z_cvl (zg_A G) ls)) (hvl : ∀ q ∈ ls, z_VV G sc M q.2) (hnx : z_Nx p l e R s m args below meth c Q T G next out mid n0 s0 sc) {idx t j fk k : Nat} (hd : decode (zp_B P mid) pc = .ok (.getfield idx, 3)) (hf : zt_fld T mid idx = some (t, j, fk)) (hvs : ∀ v ∈ (.inr (.inr (t, some k)) :: r : List zV), z_VV G sc M v) (hn : next (pc + 3) ls (ez_fv fk M t k j :: r) M = some out)
    : W p l e R s m args below meth c H locs cells slots Q (F0 m pc lsA ((.inr (.inr (t, some k)) :: r : List zV).map (z_cv (zg_A G)))) := by
  obtain ⟨hx, hb, hml, hown, hts, hKK, hbase, hname, hsc⟩ := id hF
  obtain ⟨rfl, C, Tt, N, hcl, hj, hlink⟩ := hok.2.2.1 mid idx t j fk hf
  obtain ⟨ht, hin, -, ty0, -, hkind⟩ := hok.1.2.2.2.2.1 t C Tt N hcl
  have hk := z_VVk (z_hd hvs) (by omega)
  show W p l e R s m args below meth c H locs cells slots Q (F0 m pc lsA (.ref (zg_A G t k) :: r.map (z_cv (zg_A G))))
  rw [zg_A_ad G (by omega)]
  have he := z_ws_at hst.1 hk
  rw [z_cell_o G M ht] at he
  refine va_get hx hb hts hin hown hKK.1 hst.1.1 k he hcl j hj (hts _ hlink) (fun _ q => q) (z_fs_get G M t k (by rw [z_N hcl]; exact hj)) hd ?_
  refine hnx _ _ _ _ _ _ _ _ _ hn hst hl hvl (z_cons ?_ (z_tl hvs))
  rcases hkind j hj with ⟨h0, -⟩ | ⟨h0, -⟩ | ⟨f, h0, hf30, -⟩
  · rw [h0]; trivial
  · rw [h0]; trivial
  · rw [h0]
    show z_VV G sc M (.inr (.inr (f, zm_R M t k j)))
    cases hr : zm_R M t k j with
    | none => trivial
    | some y =>
      refine Or.inl ⟨hf30, ?_⟩
      have h5 := hst.1.2.2.2.2.1 k t j y hk hr (fun _ => by omega)
      rw [h5]
      unfold zg_rt
      rw [if_pos ht, h0]
      omega
theorem zi_put (hok : z_ok T P G) (hF : z_Fr T P G XX p s m args meth c mid sc) (hst : z_St G s n0 s0 M H locs cells slots) (hl : lv_has lsA (zt_nL T mid) (z_cvl (zg_A G) ls)) (hvl : ∀ q ∈ ls, z_VV G sc M q.2) (hnx : z_Nx p l e R s m args below meth c Q T G next out mid n0 s0 sc) {idx t j fk k : Nat} {v : zV} {M' : zM} (hd : decode (zp_B P mid) pc = .ok (.putfield idx, 3)) (hf : zt_pfl T mid idx = some (t, j, fk)) (hput : ez_put fk v M t k j = some M') (hvs : ∀ w ∈ (v :: .inr (.inr (t, some k)) :: r : List zV), z_VV G sc M w) (hn : next (pc + 3) ls r M' = some out)
    : W p l e R s m args below meth c H locs cells slots Q (F0 m pc lsA ((v :: .inr (.inr (t, some k)) :: r : List zV).map (z_cv (zg_A G)))) := by
  obtain ⟨hx, hb, hml, hown, hts, hKK, hbase, hname, hsc⟩ := id hF
  obtain ⟨rfl, C, Tt, N, hcl, hj, hlink, hfin⟩ := hok.2.2.2.1 mid idx t j fk hf
  obtain ⟨ht, hin, hnm, ty0, hty, hkind⟩ := hok.1.2.2.2.2.1 t C Tt N hcl
  have hk := z_VVk (z_hd (z_tl hvs)) (by omega)
  show W p l e R s m args below meth c H locs cells slots Q (F0 m pc lsA (z_cv (zg_A G) v :: .ref (zg_A G t k) :: r.map (z_cv (zg_A G))))
  rw [zg_A_ad G (by omega)]
  have he := z_at_o hst.1 hk
  rw [z_cell_o G M ht] at he
  have hjN : j < zg_N G t := by rw [z_N hcl]; exact hj
  have hfin' : (Tt j).2.2.2 = false ∨ ((Tt j).2.2.2 = true ∧ meth.name = "<init>" ∧ (Tt j).1 = (zp_Y P mid).cls) := by
    rcases hfin with h | ⟨h1, h2, h3⟩
    · exact Or.inl h
    · exact Or.inr ⟨h1, by rw [hname]; exact h2, h3⟩
  rcases hkind j hj with ⟨h0, h1⟩ | ⟨h0, h1⟩ | ⟨f, h0, hf30, h1⟩
  · rw [h0] at hput
    rcases v with x | x | ⟨t', y⟩
    · have e : M' = zm_setI M t k j x := (Option.some.inj hput).symm
      subst e
      refine z_rput hx hb hts hKK.1 hcl hin ty0 hty hnm hown he hj (hts _ hlink) hfin' (by rw [h1]; rfl) (by rw [h1]; rfl) (by rw [z_fs_len]; exact hjN) hd fun H1 i g1 g2 g3 => ?_
      have g1' : va_at (zg_D G) (zg_cl G) (zg_ad G k, z_cell G (zm_setI M t k j x) t k) H1 := by
        rw [z_cell_o G _ ht, ← z_fs_setI (by omega) hjN]; exact g1
      exact hnx _ _ _ _ _ _ _ _ _ hn (z_goI hst hk (by omega) g1' g2 g3) hl (fun q hq => (hvl q hq).mono fun _ _ => rfl) (fun w hw => (z_tl (z_tl hvs) w hw).mono fun _ _ => rfl)
    · cases hput
    · cases hput
  · rw [h0] at hput
    rcases v with x | x | ⟨t', y⟩
    · have hput' : (if x = 0 ∨ x = 1 then some (zm_setI M t k j x) else none) = some M' := hput
      split at hput'
      · rename_i hx01
        have e : M' = zm_setI M t k j x := (Option.some.inj hput').symm
        subst e
        refine z_rput hx hb hts hKK.1 hcl hin ty0 hty hnm hown he hj (hts _ hlink) hfin' (by rw [h1]; rcases hx01 with rfl | rfl <;> rfl) (by rw [h1]; rcases hx01 with rfl | rfl <;> rfl) (by rw [z_fs_len]; exact hjN) hd fun H1 i g1 g2 g3 => ?_
        have g1' : va_at (zg_D G) (zg_cl G) (zg_ad G k, z_cell G (zm_setI M t k j x) t k) H1 := by
          rw [z_cell_o G _ ht, ← z_fs_setI (by omega) hjN]; exact g1
        exact hnx _ _ _ _ _ _ _ _ _ hn (z_goI hst hk (by omega) g1' g2 g3) hl (fun q hq => (hvl q hq).mono fun _ _ => rfl) (fun w hw => (z_tl (z_tl hvs) w hw).mono fun _ _ => rfl)
      · cases hput'
    · cases hput
    · cases hput
  · rw [h0] at hput
    rcases v with x | x | ⟨t', y⟩
    · cases hput
    · cases hput
    · have hput' : (bif Nat.beq f t' then some (zm_setR M t k j y) else none) = some M' := hput
      obtain ⟨e1, e2⟩ := z_bif hput'
      have e1 := z_beq_eq e1
      subst e1
      have e : M' = zm_setR M t k j y := (Option.some.inj e2).symm
      subst e
      have hy : ∀ y', y = some y' → zm_K M y' = zg_rt G t j + 1 := by
        intro y' e
        subst e
        rw [z_VVk (z_hd hvs) hf30]
        unfold zg_rt
        rw [if_pos ht, h0]
        omega
      have hval : narrow (ty0 j) (z_cv (zg_A G) (.inr (.inr (f, y)))) = z_cv (zg_A G) (.inr (.inr (f, y))) ∧ fits (ty0 j) (z_cv (zg_A G) (.inr (.inr (f, y)))) = true := by
        rcases h1 with ⟨n, h1⟩ | ⟨u, h1⟩ <;> rw [h1] <;> cases y <;> exact ⟨rfl, rfl⟩
      refine z_rput hx hb hts hKK.1 hcl hin ty0 hty hnm hown he hj (hts _ hlink) hfin' hval.1 hval.2 (by rw [z_fs_len]; exact hjN) hd fun H1 i g1 g2 g3 => ?_
      have g1' : va_at (zg_D G) (zg_cl G) (zg_ad G k, z_cell G (zm_setR M t k j y) t k) H1 := by
        rw [z_cell_o G _ ht, ← z_fs_setR h0 hjN]; exact g1
      exact hnx _ _ _ _ _ _ _ _ _ hn (z_goR hst hk hy g1' g2 g3) hl (fun q hq => (hvl q hq).mono fun _ _ => rfl) (fun w hw => (z_tl (z_tl hvs) w hw).mono fun _ _ => rfl)
theorem zi_iald (hok : z_ok T P G) (hF : z_Fr T P G XX p s m args meth c mid sc) (hst : z_St G s n0 s0 M H locs cells slots) (hl : lv_has lsA (zt_nL T mid) (z_cvl (zg_A G) ls)) (hvl : ∀ q ∈ ls, z_VV G sc M q.2) (hnx : z_Nx p l e R s m args below meth c Q T G next out mid n0 s0 sc) {t k : Nat} {x : Int32} (hd : decode (zp_B P mid) pc = .ok (.iaload, 1)) (ht : t = 20 ∨ t = 21 ∨ t = 90) (hin : z_in x (zm_L M t k)) (hvs : ∀ w ∈ (.inl x :: .inr (.inr (t, some k)) :: r : List zV), z_VV G sc M w) (hn : next (pc + 1) ls (.inl (zm_I M t k x.toNatClampNeg) :: r) M = some out)
    : W p l e R s m args below meth c H locs cells slots Q (F0 m pc lsA ((.inl x :: .inr (.inr (t, some k)) :: r : List zV).map (z_cv (zg_A G)))) := by
  obtain ⟨hx, hb, hml, hown, hts, hKK, hbase, hname, hsc⟩ := id hF
  have hrest := z_tl (z_tl hvs)
  rcases ht with rfl | rfl | rfl
  · have hk := z_VVk (z_hd (z_tl hvs)) (by omega)
    show W p l e R s m args below meth c H locs cells slots Q (F0 m pc lsA (.int x :: .ref (zg_A G 20 k) :: r.map (z_cv (zg_A G))))
    rw [zg_A_ad G (by omega)]
    have he := z_ws_at hst.1 hk
    rw [z_cell_i G M (Or.inl rfl)] at he
    exact va_iald hx hb hKK.1 hst.1.1 k 0 he rfl hin hd (hnx _ _ _ _ _ _ _ _ _ hn hst hl hvl (z_cons trivial hrest))
  · have hk := z_VVk (z_hd (z_tl hvs)) (by omega)
    show W p l e R s m args below meth c H locs cells slots Q (F0 m pc lsA (.int x :: .ref (zg_A G 21 k) :: r.map (z_cv (zg_A G))))
    rw [zg_A_ad G (by omega)]
    have he := z_ws_at hst.1 hk
    rw [z_cell_i G M (Or.inr (Or.inl rfl))] at he
    exact va_iald hx hb hKK.1 hst.1.1 k 1 he rfl hin hd (hnx _ _ _ _ _ _ _ _ _ hn hst hl hvl (z_cons trivial hrest))
  · have h90 : z_VV G sc M (.inr (.inr (90, some k))) := z_hd (z_tl hvs)
    rcases h90 with h | ⟨-, h, rfl⟩ | h
    · exact absurd h.1 (by omega)
    · obtain ⟨hX, hbl, hbb⟩ := hsc h
      have hN : next (pc + 1) ls (.inl (zg_xs G x.toNatClampNeg) :: r) M = some out := by rw [← hst.1.2.2.2.2.2.2]; exact hn
      rw [hst.1.2.2.2.2.2.1] at hin
      exact va_sld hx hb hX hbl (fun q => absurd hbb (Nat.not_lt.mpr q)) hst.2.1 hin hd (hnx _ _ _ _ _ _ _ _ _ hN hst hl hvl (z_cons trivial hrest))
    · exact absurd h.1 (by omega)
theorem zi_bald (hok : z_ok T P G) (hF : z_Fr T P G XX p s m args meth c mid sc) (hst : z_St G s n0 s0 M H locs cells slots) (hl : lv_has lsA (zt_nL T mid) (z_cvl (zg_A G) ls)) (hvl : ∀ q ∈ ls, z_VV G sc M q.2) (hnx : z_Nx p l e R s m args below meth c Q T G next out mid n0 s0 sc) {t k : Nat} {x : Int32} (hd : decode (zp_B P mid) pc = .ok (.baload, 1)) (ht : t = 22) (hin : z_in x (zm_L M t k)) (hvs : ∀ w ∈ (.inl x :: .inr (.inr (t, some k)) :: r : List zV), z_VV G sc M w) (hn : next (pc + 1) ls (.inl (zm_I M t k x.toNatClampNeg) :: r) M = some out)
    : W p l e R s m args below meth c H locs cells slots Q (F0 m pc lsA ((.inl x :: .inr (.inr (t, some k)) :: r : List zV).map (z_cv (zg_A G)))) := by
  obtain ⟨hx, hb, hml, hown, hts, hKK, hbase, hname, hsc⟩ := id hF
  subst ht
  have hk := z_VVk (z_hd (z_tl hvs)) (by omega)
  show W p l e R s m args below meth c H locs cells slots Q (F0 m pc lsA (.int x :: .ref (zg_A G 22 k) :: r.map (z_cv (zg_A G))))
  rw [zg_A_ad G (by omega)]
  have he := z_ws_at hst.1 hk
  rw [z_cell_i G M (Or.inr (Or.inr rfl))] at he
  exact va_bald hx hb hKK.1 hst.1.1 k 2 he rfl hin hd (hnx _ _ _ _ _ _ _ _ _ hn hst hl hvl (z_cons trivial (z_tl (z_tl hvs))))
theorem zi_lald (hok : z_ok T P G) (hF : z_Fr T P G XX p s m args meth c mid sc) (hst : z_St G s n0 s0 M H locs cells slots) (hl : lv_has lsA (zt_nL T mid) (z_cvl (zg_A G) ls)) (hvl : ∀ q ∈ ls, z_VV G sc M q.2) (hnx : z_Nx p l e R s m args below meth c Q T G next out mid n0 s0 sc) {t k : Nat} {x : Int32} (hd : decode (zp_B P mid) pc = .ok (.laload, 1)) (ht : t = 23) (hin : z_in x (zm_L M t k)) (hvs : ∀ w ∈ (.inl x :: .inr (.inr (t, some k)) :: r : List zV), z_VV G sc M w) (hn : next (pc + 1) ls (.inr (.inl (zm_J M t k x.toNatClampNeg)) :: r) M = some out)
    : W p l e R s m args below meth c H locs cells slots Q (F0 m pc lsA ((.inl x :: .inr (.inr (t, some k)) :: r : List zV).map (z_cv (zg_A G)))) := by
  obtain ⟨hx, hb, hml, hown, hts, hKK, hbase, hname, hsc⟩ := id hF
  subst ht
  have hk := z_VVk (z_hd (z_tl hvs)) (by omega)
  show W p l e R s m args below meth c H locs cells slots Q (F0 m pc lsA (.int x :: .ref (zg_A G 23 k) :: r.map (z_cv (zg_A G))))
  rw [zg_A_ad G (by omega)]
  have he := z_ws_at hst.1 hk
  rw [z_cell_l G M] at he
  exact va_lald hx hb hKK.1 hst.1.1 k 3 he rfl hin hd (hnx _ _ _ _ _ _ _ _ _ hn hst hl hvl (z_cons trivial (z_tl (z_tl hvs))))
theorem zi_aald (hok : z_ok T P G) (hF : z_Fr T P G XX p s m args meth c mid sc) (hst : z_St G s n0 s0 M H locs cells slots) (hl : lv_has lsA (zt_nL T mid) (z_cvl (zg_A G) ls)) (hvl : ∀ q ∈ ls, z_VV G sc M q.2) (hnx : z_Nx p l e R s m args below meth c Q T G next out mid n0 s0 sc) {t k : Nat} {x : Int32} (hd : decode (zp_B P mid) pc = .ok (.aaload, 1)) (ht : t = 24 ∨ t = 25) (hin : z_in x (zm_L M t k)) (hvs : ∀ w ∈ (.inl x :: .inr (.inr (t, some k)) :: r : List zV), z_VV G sc M w) (hn : next (pc + 1) ls (.inr (.inr (zt_elt T t, zm_R M t k x.toNatClampNeg)) :: r) M = some out)
    : W p l e R s m args below meth c H locs cells slots Q (F0 m pc lsA ((.inl x :: .inr (.inr (t, some k)) :: r : List zV).map (z_cv (zg_A G)))) := by
  obtain ⟨hx, hb, hml, hown, hts, hKK, hbase, hname, hsc⟩ := id hF
  have hk := z_VVk (z_hd (z_tl hvs)) (by omega)
  have helt : zg_elt G t < 20 := ht.elim (fun q => by subst q; exact hok.1.2.2.2.2.2.2.2.1) (fun q => by subst q; exact hok.1.2.2.2.2.2.2.2.2)
  have helT : zt_elt T t = zg_elt G t := hok.2.2.2.2.2.2.2.2.2.2 t
  have hval : z_VV G sc M (.inr (.inr (zt_elt T t, zm_R M t k x.toNatClampNeg))) := by
    rw [helT]
    cases hr : zm_R M t k x.toNatClampNeg with
    | none => trivial
    | some y =>
      refine Or.inl ⟨by omega, ?_⟩
      rw [hst.1.2.2.2.2.1 k t _ y hk hr (fun q => by omega)]
      unfold zg_rt
      rw [if_neg (by omega)]
  show W p l e R s m args below meth c H locs cells slots Q (F0 m pc lsA (.int x :: .ref (zg_A G t k) :: r.map (z_cv (zg_A G))))
  rw [zg_A_ad G (by omega)]
  have he := z_ws_at hst.1 hk
  rw [z_cell_r G M ht] at he
  have go := hnx _ _ _ _ _ _ _ _ _ hn hst hl hvl (z_cons hval (z_tl (z_tl hvs)))
  rw [List.map_cons, z_cv_rf, helT] at go
  rcases ht with rfl | rfl
  · exact va_aldq (C := zp_C24 P) hx hb hKK.1 hst.1.1 k 4 he rfl hin hd go
  · exact va_aldq (C := zp_C25 P) hx hb hKK.1 hst.1.1 k 5 he rfl hin hd go
theorem zi_iast (hok : z_ok T P G) (hF : z_Fr T P G XX p s m args meth c mid sc) (hst : z_St G s n0 s0 M H locs cells slots) (hl : lv_has lsA (zt_nL T mid) (z_cvl (zg_A G) ls)) (hvl : ∀ q ∈ ls, z_VV G sc M q.2) (hnx : z_Nx p l e R s m args below meth c Q T G next out mid n0 s0 sc) {t k : Nat} {x : Int32} {v : Int32} (hd : decode (zp_B P mid) pc = .ok (.iastore, 1)) (ht : t = 20 ∨ t = 21) (hin : z_in x (zm_L M t k)) (hvs : ∀ w ∈ (.inl v :: .inl x :: .inr (.inr (t, some k)) :: r : List zV), z_VV G sc M w) (hn : next (pc + 1) ls r (zm_setI M t k x.toNatClampNeg v) = some out)
    : W p l e R s m args below meth c H locs cells slots Q (F0 m pc lsA ((.inl v :: .inl x :: .inr (.inr (t, some k)) :: r : List zV).map (z_cv (zg_A G)))) := by
  obtain ⟨hx, hb, hml, hown, hts, hKK, hbase, hname, hsc⟩ := id hF
  have hk := z_VVk (z_hd (z_tl (z_tl hvs))) (by omega)
  show W p l e R s m args below meth c H locs cells slots Q (F0 m pc lsA (.int v :: .int x :: .ref (zg_A G t k) :: r.map (z_cv (zg_A G))))
  rw [zg_A_ad G (by omega)]
  have he := z_at_o hst.1 hk
  rw [z_cell_i G M (by omega)] at he
  have hA : ArrOfT s (zg_cA G t) .int := ht.elim (fun q => by subst q; exact (hKK.1.2 0 _ rfl).1) (fun q => by subst q; exact (hKK.1.2 1 _ rfl).1)
  refine z_riast hx hb hA he hin hd fun H1 i g1 g2 g3 => ?_
  have g1' : va_at (zg_D G) (zg_cl G) (zg_ad G k, z_cell G (zm_setI M t k x.toNatClampNeg v) t k) H1 := by
    rw [z_cell_i G _ (by omega), z_upd_I]; exact g1
  exact hnx _ _ _ _ _ _ _ _ _ hn (z_goI hst hk (by omega) g1' g2 g3) hl (fun q hq => (hvl q hq).mono fun _ _ => rfl) (fun w hw => (z_tl (z_tl (z_tl hvs)) w hw).mono fun _ _ => rfl)
theorem zi_bast (hok : z_ok T P G) (hF : z_Fr T P G XX p s m args meth c mid sc) (hst : z_St G s n0 s0 M H locs cells slots) (hl : lv_has lsA (zt_nL T mid) (z_cvl (zg_A G) ls)) (hvl : ∀ q ∈ ls, z_VV G sc M q.2) (hnx : z_Nx p l e R s m args below meth c Q T G next out mid n0 s0 sc) {t k : Nat} {x : Int32} {v : Int32} (hd : decode (zp_B P mid) pc = .ok (.bastore, 1)) (ht : t = 22) (hin : z_in x (zm_L M t k)) (hvs : ∀ w ∈ (.inl v :: .inl x :: .inr (.inr (t, some k)) :: r : List zV), z_VV G sc M w) (hn : next (pc + 1) ls r (zm_setI M t k x.toNatClampNeg v.toInt8.toInt32) = some out)
    : W p l e R s m args below meth c H locs cells slots Q (F0 m pc lsA ((.inl v :: .inl x :: .inr (.inr (t, some k)) :: r : List zV).map (z_cv (zg_A G)))) := by
  obtain ⟨hx, hb, hml, hown, hts, hKK, hbase, hname, hsc⟩ := id hF
  subst ht
  have hk := z_VVk (z_hd (z_tl (z_tl hvs))) (by omega)
  show W p l e R s m args below meth c H locs cells slots Q (F0 m pc lsA (.int v :: .int x :: .ref (zg_A G 22 k) :: r.map (z_cv (zg_A G))))
  rw [zg_A_ad G (by omega)]
  have he := z_at_o hst.1 hk
  rw [z_cell_i G M (by omega)] at he
  refine z_rbast hx hb (hKK.1.2 2 _ rfl).1 he hin hd fun H1 i g1 g2 g3 => ?_
  have g1' : va_at (zg_D G) (zg_cl G) (zg_ad G k, z_cell G (zm_setI M 22 k x.toNatClampNeg v.toInt8.toInt32) 22 k) H1 := by
    rw [z_cell_i G _ (by omega), z_upd_I]; exact g1
  exact hnx _ _ _ _ _ _ _ _ _ hn (z_goI hst hk (by omega) g1' g2 g3) hl (fun q hq => (hvl q hq).mono fun _ _ => rfl) (fun w hw => (z_tl (z_tl (z_tl hvs)) w hw).mono fun _ _ => rfl)
theorem zi_last (hok : z_ok T P G) (hF : z_Fr T P G XX p s m args meth c mid sc) (hst : z_St G s n0 s0 M H locs cells slots) (hl : lv_has lsA (zt_nL T mid) (z_cvl (zg_A G) ls)) (hvl : ∀ q ∈ ls, z_VV G sc M q.2) (hnx : z_Nx p l e R s m args below meth c Q T G next out mid n0 s0 sc) {t k : Nat} {x : Int32} {v : Int64} (hd : decode (zp_B P mid) pc = .ok (.lastore, 1)) (ht : t = 23) (hin : z_in x (zm_L M t k)) (hvs : ∀ w ∈ (.inr (.inl v) :: .inl x :: .inr (.inr (t, some k)) :: r : List zV), z_VV G sc M w) (hn : next (pc + 1) ls r (zm_setJ M t k x.toNatClampNeg v) = some out)
    : W p l e R s m args below meth c H locs cells slots Q (F0 m pc lsA ((.inr (.inl v) :: .inl x :: .inr (.inr (t, some k)) :: r : List zV).map (z_cv (zg_A G)))) := by
  obtain ⟨hx, hb, hml, hown, hts, hKK, hbase, hname, hsc⟩ := id hF
  subst ht
  have hk := z_VVk (z_hd (z_tl (z_tl hvs))) (by omega)
  show W p l e R s m args below meth c H locs cells slots Q (F0 m pc lsA (.long v :: .int x :: .ref (zg_A G 23 k) :: r.map (z_cv (zg_A G))))
  rw [zg_A_ad G (by omega)]
  have he := z_at_o hst.1 hk
  rw [z_cell_l G M] at he
  refine z_rlast hx hb (hKK.1.2 3 _ rfl).1 he hin hd fun H1 i g1 g2 g3 => ?_
  have g1' : va_at (zg_D G) (zg_cl G) (zg_ad G k, z_cell G (zm_setJ M 23 k x.toNatClampNeg v) 23 k) H1 := by
    rw [z_cell_l G, z_upd_J]; exact g1
  exact hnx _ _ _ _ _ _ _ _ _ hn (z_goJ hst hk g1' g2 g3) hl (fun q hq => (hvl q hq).mono fun _ _ => rfl) (fun w hw => (z_tl (z_tl (z_tl hvs)) w hw).mono fun _ _ => rfl)
theorem zi_aast (hok : z_ok T P G) (hF : z_Fr T P G XX p s m args meth c mid sc) (hst : z_St G s n0 s0 M H locs cells slots) (hl : lv_has lsA (zt_nL T mid) (z_cvl (zg_A G) ls)) (hvl : ∀ q ∈ ls, z_VV G sc M q.2) (hnx : z_Nx p l e R s m args below meth c Q T G next out mid n0 s0 sc) {t k : Nat} {x : Int32} {f : Nat} {v : Option Nat} (hf : f = zt_elt T t) (hd : decode (zp_B P mid) pc = .ok (.aastore, 1)) (ht : t = 24 ∨ t = 25) (hin : z_in x (zm_L M t k)) (hvs : ∀ w ∈ (.inr (.inr (f, v)) :: .inl x :: .inr (.inr (t, some k)) :: r : List zV), z_VV G sc M w) (hn : next (pc + 1) ls r (zm_setR M t k x.toNatClampNeg v) = some out)
    : W p l e R s m args below meth c H locs cells slots Q (F0 m pc lsA ((.inr (.inr (f, v)) :: .inl x :: .inr (.inr (t, some k)) :: r : List zV).map (z_cv (zg_A G)))) := by
  obtain ⟨hx, hb, hml, hown, hts, hKK, hbase, hname, hsc⟩ := id hF
  have hk := z_VVk (z_hd (z_tl (z_tl hvs))) (by omega)
  have helt : zg_elt G t < 20 := ht.elim (fun q => by subst q; exact hok.1.2.2.2.2.2.2.2.1) (fun q => by subst q; exact hok.1.2.2.2.2.2.2.2.2)
  have helT : f = zg_elt G t := hf.trans (hok.2.2.2.2.2.2.2.2.2.2 t)
  subst helT
  rw [List.map_cons, z_cv_rf]
  show W p l e R s m args below meth c H locs cells slots Q (F0 m pc lsA (va_rf _ :: .int x :: .ref (zg_A G t k) :: r.map (z_cv (zg_A G))))
  rw [zg_A_ad G (show t < 30 by omega)]
  have he := z_at_o hst.1 hk
  rw [z_cell_r G M ht] at he
  have hvk : ∀ y, v = some y → zm_K M y = zg_elt G t + 1 := fun y e => by subst e; exact z_VVk (z_hd hvs) (by omega)
  have hv' : ∀ y, v.map (zg_A G (zg_elt G t)) = some y → ∃ vs, va_at (zg_D G) (zg_cl G) (y, .inr (zg_elt G t, vs)) H := by
    intro y hy
    obtain ⟨z, hz, rfl⟩ := Option.map_eq_some_iff.mp hy
    have h7 := z_at_o hst.1 (hvk z hz)
    rw [z_cell_o G M helt] at h7
    exact ⟨_, by rw [zg_A_ad G (by omega)]; exact h7⟩
  have fin : ∀ (H1 : Heap) (i : Nat), va_at (zg_D G) (zg_cl G) (zg_ad G k, .inl (zg_cA G t, zm_L M t k, .inr (.inr (.inr (.inr (va_up (fun i => (zm_R M t k i).map (zg_A G (zg_elt G t))) x.toNatClampNeg (v.map (zg_A G (zg_elt G t))))))))) H1 → H1.size = H.size → (∀ q : Nat, q ≠ zg_ad G k → H1[q]? = H[q]?) → W p l e R s m args below meth c H1 (locs ++ [⟨zg_ad G k, i⟩]) cells slots Q (F0 m (pc + 1) lsA (r.map (z_cv (zg_A G)))) := by
    intro H1 i g1 g2 g3
    have g1' : va_at (zg_D G) (zg_cl G) (zg_ad G k, z_cell G (zm_setR M t k x.toNatClampNeg v) t k) H1 := by
      rw [z_cell_r G _ ht, z_upd_R]
      have e9 : (fun i => (va_up (zm_R M t k) x.toNatClampNeg v i).map (zg_A G (zg_elt G t))) = va_up (fun i => (zm_R M t k i).map (zg_A G (zg_elt G t))) x.toNatClampNeg (v.map (zg_A G (zg_elt G t))) := by
        funext q
        unfold va_up
        split <;> rfl
      rw [e9]; exact g1
    refine hnx _ _ _ _ _ _ _ _ _ hn (z_goR hst hk (fun y e => ?_) g1' g2 g3) hl (fun q hq => (hvl q hq).mono fun _ _ => rfl) (fun w hw => (z_tl (z_tl (z_tl hvs)) w hw).mono fun _ _ => rfl)
    rw [hvk y e]
    unfold zg_rt
    rw [if_neg (by omega)]
  rcases ht with rfl | rfl
  · obtain ⟨Tt, N, hcl⟩ := hok.1.2.2.2.2.2.1
    exact z_raast hx hb hKK.1 (r := (zp_C24 P, Tt, N)) (hKK.1.2 4 _ rfl).1 (hKK.1.2 4 _ rfl).2 he hcl hv' hin hd fin
  · obtain ⟨Tt, N, hcl⟩ := hok.1.2.2.2.2.2.2.1
    exact z_raast hx hb hKK.1 (r := (zp_C25 P, Tt, N)) (hKK.1.2 5 _ rfl).1 (hKK.1.2 5 _ rfl).2 he hcl hv' hin hd fin
end ZInstr
