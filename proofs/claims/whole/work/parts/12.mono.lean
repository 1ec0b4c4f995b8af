/-! WHAT A STEP KEEPS, without the machine: numbers grow, kinds stay, references stand for something -/
def z_WF (G : zG) (M : zM) : Prop := (∀ k, zm_n M ≤ k → zm_K M k = 0) ∧ (∀ k t j r, zm_K M k = t + 1 → zm_R M t k j = some r → zg_isR G t j → zm_K M r = zg_rt G t j + 1)
theorem z_Rep.wf {G : zG} {M : zM} {H : Heap} (h : z_Rep G M H) : z_WF G M := ⟨fun k hk => (h.2.2.1 k hk).2, h.2.2.2.2.1⟩
def z_Tr (G : zG) (sc : Prop) (M : zM) (ls : List (Nat × zV)) (st : List zV) (M' : zM) (ls' : List (Nat × zV)) (st' : List zV) : Prop :=
  zm_n M ≤ zm_n M' ∧ zm_s M ≤ zm_s M' ∧ (z_WF G M → (∀ q ∈ ls, z_VV G sc M q.2) → (∀ v ∈ st, z_VV G sc M v) → z_WF G M' ∧ (∀ k, zm_K M k ≠ 0 → zm_K M' k = zm_K M k) ∧ (∀ q ∈ ls', z_VV G sc M' q.2) ∧ ∀ v ∈ st', z_VV G sc M' v)
theorem z_Tr.st {G : zG} {sc : Prop} {M : zM} {ls : List (Nat × zV)} {st st' : List zV} (h : z_WF G M → (∀ v ∈ st, z_VV G sc M v) → ∀ v ∈ st', z_VV G sc M v) : z_Tr G sc M ls st M ls st' :=
  ⟨Nat.le_refl _, Nat.le_refl _, fun h1 h2 h3 => ⟨h1, fun _ _ => rfl, h2, h h1 h3⟩⟩
theorem z_Tr.wr {G : zG} {sc : Prop} {M M' : zM} {ls : List (Nat × zV)} {st st' : List zV} (hn : zm_n M' = zm_n M) (hs : zm_s M' = zm_s M) (hK : zm_K M' = zm_K M) (hR : z_WF G M → (∀ v ∈ st, z_VV G sc M v) → ∀ k t j r, zm_K M k = t + 1 → zm_R M' t k j = some r → zg_isR G t j → zm_K M r = zg_rt G t j + 1) (h : ∀ v ∈ st', v ∈ st) : z_Tr G sc M ls st M' ls st' :=
  ⟨by rw [hn]; exact Nat.le_refl _, by rw [hs]; exact Nat.le_refl _, fun h1 h2 h3 => ⟨⟨by rw [hn, hK]; exact h1.1, by rw [hK]; exact hR h1 h3⟩, fun k _ => by rw [hK], fun q hq => (h2 q hq).mono fun k _ => by rw [hK], fun v hv => (h3 v (h v hv)).mono fun k _ => by rw [hK]⟩⟩
theorem z_Tr.new {G : zG} {sc : Prop} {M : zM} {ls : List (Nat × zV)} {st r : List zV} {t len sl : Nat} (ht : z_WF G M → t < 30) (h : ∀ v ∈ r, v ∈ st) : z_Tr G sc M ls st (zm_new M t len sl) ls (.inr (.inr (t, some (zm_n M))) :: r) := by
  refine ⟨Nat.le_succ _, Nat.le_add_right _ _, fun h1 h2 h3 => ?_⟩
  have hle := z_le_new M t len sl (h1.1 _ (Nat.le_refl _))
  refine ⟨⟨fun k hk => ?_, fun k t' j y k1 k2 k3 => ?_⟩, hle.2.2, fun q hq => (h2 q hq).mono hle.2.2, z_cons (z_VVat G sc M (ht h1)) fun v hv => (h3 v (h v hv)).mono hle.2.2⟩
  · have hk : zm_n M + 1 ≤ k := hk
    have e : zm_K (zm_new M t len sl) k = zm_K M k := if_neg (fun q => by have q : k = zm_n M := q; omega)
    rw [e]
    exact h1.1 k (by omega)
  · by_cases e : k = zm_n M
    · subst e
      have k1' : (if zm_n M = zm_n M then t + 1 else zm_K M (zm_n M)) = t' + 1 := k1
      rw [if_pos rfl] at k1'
      have : t' = t := by omega
      subst this
      have k2' : (if t' = t' ∧ zm_n M = zm_n M then none else zm_R M t' (zm_n M) j) = some y := k2
      rw [if_pos ⟨rfl, rfl⟩] at k2'
      cases k2'
    · have k1' : (if k = zm_n M then t + 1 else zm_K M k) = t' + 1 := k1
      rw [if_neg e] at k1'
      have k2' : (if t' = t ∧ k = zm_n M then none else zm_R M t' k j) = some y := k2
      rw [if_neg (fun q => e q.2)] at k2'
      have h4 := h1.2 k t' j y k1' k2' k3
      have : y ≠ zm_n M := fun q => by
        rw [q, h1.1 _ (Nat.le_refl _)] at h4
        omega
      show (if y = zm_n M then t + 1 else zm_K M y) = _
      rw [if_neg this]
      exact h4
section ZMono
variable {α : Type} {T : zT} {P : zP} {G : zG} {call : Nat → Nat → List (Nat × zV) → zM → Option (Option zV × zM)} {next : Nat → List (Nat × zV) → List zV → zM → Option α} {ret : Option zV → zM → Option α} {out : α} {d mid : Nat} {sc : Prop}
variable {pc : Nat} {ls : List (Nat × zV)} {M : zM} {r rest st : List zV} {Goal : Prop}
/-- what a callee keeps -/
def z_CallK (G : zG) (call : Nat → Nat → List (Nat × zV) → zM → Option (Option zV × zM)) (M : zM) : Prop :=
  ∀ d' callee as rv M', call d' callee (zl_args 0 as) M = some (rv, M') → zm_n M ≤ zm_n M' ∧ zm_s M ≤ zm_s M' ∧ (z_WF G M → (∀ v ∈ as, z_VV G False M v) → z_WF G M' ∧ (∀ k, zm_K M k ≠ 0 → zm_K M' k = zm_K M k) ∧ ∀ v, rv = some v → z_VV G False M' v)
theorem z_Tr.cal {d' callee : Nat} {as rest : List zV} {rv : Option zV} {M' : zM} (hcall : z_CallK G call M) (h : call d' callee (zl_args 0 as) M = some (rv, M')) (hno : ∀ v ∈ as, z_no v = true) (ha : ∀ v ∈ as, v ∈ st) (hr : ∀ v ∈ rest, v ∈ st) : z_Tr G sc M ls st M' ls (rv.toList ++ rest) := by
  obtain ⟨h1, h2, h3⟩ := hcall d' callee as rv M' h
  refine ⟨h1, h2, fun g1 g2 g3 => ?_⟩
  obtain ⟨k1, k2, k3⟩ := h3 g1 fun v hv => z_VVno (g3 v (ha v hv)) (hno v hv)
  refine ⟨k1, k2, fun q hq => (g2 q hq).mono k2, fun v hv => ?_⟩
  rcases List.mem_append.mp hv with hv | hv
  · exact z_VVsc (k3 v (Option.mem_toList.mp hv))
  · exact (g3 v (hr v hv)).mono k2
theorem z_mem1 {a v : zV} {r : List zV} (h : v ∈ r) : v ∈ a :: r := List.mem_cons_of_mem _ h
theorem z_mem2 {a b v : zV} {r : List zV} (h : v ∈ r) : v ∈ a :: b :: r := z_mem1 (z_mem1 h)
theorem z_mem3 {a b c v : zV} {r : List zV} (h : v ∈ r) : v ∈ a :: b :: c :: r := z_mem1 (z_mem2 h)
theorem z_memD {n : Nat} {st : List zV} {v : zV} {rest : List zV} (h : st.drop n = v :: rest) : (∀ w ∈ v :: (st.take n).reverse, w ∈ st) ∧ ∀ w ∈ rest, w ∈ st :=
  ⟨(z_spread (P := fun w => w ∈ st) h fun _ q => q).2.1, (z_spread (P := fun w => w ∈ st) h fun _ q => q).2.2.1⟩
set_option maxHeartbeats 8000000 in
theorem z_keep (hok : z_ok T P G) (hcall : z_CallK G call M)
    (hnx : ∀ pc' ls' st' M', next pc' ls' st' M' = some out → z_Tr G sc M ls st M' ls' st' → Goal)
    (hret : ∀ v, ret v M = some out → (∀ w, v = some w → w ∈ st) → Goal)
    {i : Instr} {len note : Nat} (h : ez_rest T call next ret d mid pc i len note ls st M = some out) : Goal := by
  unfold ez_rest at h
  split at h
  case h_1 =>
    replace h := (z_bif h).2
    obtain ⟨t, ht, hk⟩ := z_jmp h
    exact hnx _ _ _ _ hk (.st fun _ q => q)
  case h_2 =>
    replace h := (z_bif h).2
    split at h
    · obtain ⟨t, ht, hk⟩ := z_jmp h
      unfold ez_if at hk
      split at hk <;> split at hk <;> exact hnx _ _ _ _ hk (.st fun _ q => z_tl q)
    · cases h
  case h_3 =>
    replace h := (z_bif h).2
    split at h
    · obtain ⟨t, ht, hk⟩ := z_jmp h
      unfold ez_if at hk
      split at hk <;> split at hk <;> exact hnx _ _ _ _ hk (.st fun _ q => z_tl (z_tl q))
    · cases h
  case h_4 =>
    replace h := (z_bif h).2
    split at h
    · obtain ⟨t, ht, hk⟩ := z_jmp h
      exact hnx _ _ _ _ hk (.st fun _ q => z_tl q)
    · exact hnx _ _ _ _ h (.st fun _ q => z_tl q)
    · cases h
  case h_5 =>
    replace h := (z_bif h).2
    split at h
    · exact hnx _ _ _ _ h (.st fun _ q => z_tl q)
    · obtain ⟨t, ht, hk⟩ := z_jmp h
      exact hnx _ _ _ _ hk (.st fun _ q => z_tl q)
    · cases h
  case h_6 =>
    replace h := (z_bif h).2
    split at h
    · replace h := (z_bif h).2
      split at h <;> obtain ⟨t, ht, hk⟩ := z_jmp h <;> split at hk <;> exact hnx _ _ _ _ hk (.st fun _ q => z_tl (z_tl q))
    · cases h
  case h_7 =>
    split at h
    · split at h
      · replace h := (z_bif h).2
        rcases z_tab _ _ h with ⟨j, off, -, -, h3⟩ | ⟨-, h3⟩ <;> obtain ⟨t, ht, hk⟩ := z_jmp h3 <;> exact hnx _ _ _ _ hk (.st fun _ q => z_tl q)
      · cases h
    · cases h
  case h_8 =>
    replace h := (z_bif h).2
    split at h
    · cases h
    · rename_i hf
      split at h
      · have g2 := z_beq_eq (z_bif h).1
        replace h := (z_bif h).2
        subst g2
        refine hnx _ _ _ _ h (.st fun hw q => z_cons ?_ (z_tl q))
        obtain ⟨rfl, C, Tt, N, hcl, hj, hlink⟩ := hok.2.2.1 _ _ _ _ _ hf
        obtain ⟨ht, hin, -, ty0, -, hkind⟩ := hok.1.2.2.2.2.1 _ C Tt N hcl
        have hk := z_VVk (z_hd q) (by omega)
        rcases hkind _ hj with ⟨h0, -⟩ | ⟨h0, -⟩ | ⟨f, h0, hf30, -⟩
        · rw [h0]; trivial
        · rw [h0]; trivial
        · rw [h0]
          show z_VV G sc M (.inr (.inr (f, zm_R M _ _ _)))
          cases hr : zm_R M _ _ _ with
          | none => trivial
          | some y =>
            refine Or.inl ⟨hf30, ?_⟩
            rw [hw.2 _ _ _ y hk hr (fun _ => by omega)]
            unfold zg_rt
            rw [if_pos ht, h0]
            omega
      · cases h
  case h_9 =>
    replace h := (z_bif h).2
    split at h
    · cases h
    · rename_i hf
      split at h
      · have g2 := z_beq_eq (z_bif h).1
        replace h := (z_bif h).2
        subst g2
        split at h
        · rename_i hp
          obtain ⟨hfk, C, Tt, N, hcl, hj, hlink, -⟩ := hok.2.2.2.1 _ _ _ _ _ hf
          obtain ⟨ht, hin, -, ty0, -, hkind⟩ := hok.1.2.2.2.2.1 _ C Tt N hcl
          unfold ez_put at hp
          split at hp
          · cases hp
            exact hnx _ _ _ _ h (.wr rfl rfl rfl (fun q _ => q.2) fun _ => z_mem2)
          · have hp' := (z_ite hp).2
            cases hp'
            exact hnx _ _ _ _ h (.wr rfl rfl rfl (fun q _ => q.2) fun _ => z_mem2)
          · rename_i f f' y
            have e1 := z_beq_eq (z_bif hp).1
            have hp' := (z_bif hp).2
            subst e1
            cases hp'
            refine hnx _ _ _ _ h (.wr rfl rfl rfl (fun q qv => ?_) fun _ => z_mem2)
            intro k t j x k1 k2 k3
            rw [z_setR_at] at k2
            split at k2
            · rename_i e9
              obtain ⟨rfl, rfl, rfl⟩ := e9
              subst k2
              have hf30 : f < 30 := by
                rcases hkind _ hj with ⟨h0, -⟩ | ⟨h0, -⟩ | ⟨f2, h0, hf30, -⟩ <;> omega
              rw [z_VVk (z_hd qv) hf30]
              unfold zg_rt
              rw [if_pos ht, ← hfk]
              omega
            · exact q.2 k t j x k1 k2 k3
          · cases hp
        · cases h
      · cases h
  case h_10 =>
    replace h := (z_bif h).2
    split at h
    · replace h := (z_ite (z_bif h).2).2
      exact hnx _ _ _ _ h (.st fun _ q => z_cons trivial (z_tl (z_tl q)))
    · cases h
  case h_11 =>
    replace h := (z_bif h).2
    split at h
    · replace h := (z_ite (z_bif h).2).2
      exact hnx _ _ _ _ h (.st fun _ q => z_cons trivial (z_tl (z_tl q)))
    · cases h
  case h_12 =>
    replace h := (z_bif h).2
    split at h
    · replace h := (z_ite (z_bif h).2).2
      exact hnx _ _ _ _ h (.st fun _ q => z_cons trivial (z_tl (z_tl q)))
    · cases h
  case h_13 =>
    replace h := (z_bif h).2
    split at h
    · rename_i x t k r
      have g := (z_bif h).1
      replace h := (z_ite (z_bif h).2).2
      have ht : t = 24 ∨ t = 25 := (z_or g).imp z_beq_eq z_beq_eq
      refine hnx _ _ _ _ h (.st fun hw q => z_cons ?_ (z_tl (z_tl q)))
      have helt : zg_elt G t < 20 := ht.elim (fun q => by subst q; exact hok.1.2.2.2.2.2.2.2.1) (fun q => by subst q; exact hok.1.2.2.2.2.2.2.2.2)
      rw [hok.2.2.2.2.2.2.2.2.2.2 t]
      cases hr : zm_R M t k x.toNatClampNeg with
      | none => trivial
      | some y =>
        refine Or.inl ⟨by omega, ?_⟩
        rw [hw.2 k t _ y (z_VVk (z_hd (z_tl q)) (by omega)) hr (fun q => by omega)]
        unfold zg_rt
        rw [if_neg (by omega)]
    · cases h
  case h_14 =>
    replace h := (z_bif h).2
    split at h
    · replace h := (z_ite (z_bif h).2).2
      exact hnx _ _ _ _ h (.wr rfl rfl rfl (fun q _ => q.2) fun _ => z_mem3)
    · cases h
  case h_15 =>
    replace h := (z_bif h).2
    split at h
    · replace h := (z_ite (z_bif h).2).2
      exact hnx _ _ _ _ h (.wr rfl rfl rfl (fun q _ => q.2) fun _ => z_mem3)
    · cases h
  case h_16 =>
    replace h := (z_bif h).2
    split at h
    · replace h := (z_ite (z_bif h).2).2
      exact hnx _ _ _ _ h (.wr rfl rfl rfl (fun q _ => q.2) fun _ => z_mem3)
    · cases h
  case h_17 =>
    replace h := (z_bif h).2
    split at h
    · rename_i f v x t k r
      have g := (z_bif h).1
      replace h := (z_ite (z_bif h).2).2
      obtain ⟨g1, g2⟩ := z_and g
      have ht : t = 24 ∨ t = 25 := (z_or g1).imp z_beq_eq z_beq_eq
      have hf : f = zg_elt G t := (z_beq_eq g2).trans (hok.2.2.2.2.2.2.2.2.2.2 t)
      have helt : zg_elt G t < 20 := ht.elim (fun q => by subst q; exact hok.1.2.2.2.2.2.2.2.1) (fun q => by subst q; exact hok.1.2.2.2.2.2.2.2.2)
      refine hnx _ _ _ _ h (.wr rfl rfl rfl (fun q qv => ?_) fun _ => z_mem3)
      intro k' t' j y k1 k2 k3
      rw [z_setR_at] at k2
      split at k2
      · rename_i e9
        obtain ⟨e1, e2, e3⟩ := e9
        subst k2
        rw [z_VVk (z_hd qv) (by omega), e1, hf]
        unfold zg_rt
        rw [if_neg (by omega)]
      · exact q.2 k' t' j y k1 k2 k3
    · cases h
  case h_18 =>
    replace h := (z_bif h).2
    split at h
    · replace h := (z_bif h).2
      exact hnx _ _ _ _ h (.st fun _ q => z_cons trivial (z_tl q))
    · cases h
  case h_19 =>
    replace h := (z_bif h).2
    split at h
    · have g := (z_bif h).1
      replace h := (z_etI (z_bif h).2).2
      refine hnx _ _ _ _ h (.new (fun _ => ?_) fun _ => z_mem1)
      split at g
      · rcases z_or g with q | q <;> rw [z_beq_eq q] <;> omega
      · rw [z_beq_eq g]; omega
      · rw [z_beq_eq g]; omega
      · cases g
    · cases h
  case h_20 =>
    replace h := (z_bif h).2
    split at h
    · cases h
    · rename_i hf
      split at h
      · replace h := (z_etI h).2
        refine hnx _ _ _ _ h (.new (fun _ => ?_) fun _ => z_mem1)
        rcases hok.2.2.2.2.2.2.1 _ _ _ hf with q | q <;> rw [q.1] <;> omega
      · cases h
  case h_21 =>
    replace h := (z_bif h).2
    split at h
    · cases h
    · rename_i hf
      refine hnx _ _ _ _ h (.new (fun _ => ?_) fun _ q => q)
      obtain ⟨C, Tt, hcl, -⟩ := hok.2.2.2.2.2.1 _ _ _ _ hf
      have := (hok.1.2.2.2.2.1 _ _ _ _ hcl).1
      omega
  case h_22 =>
    replace h := (z_bif h).2
    split at h
    · exact hnx _ _ _ _ h (.st fun _ q => z_cons trivial q)
    · rename_i hf
      exact hnx _ _ _ _ h (.st fun _ q => z_cons (Or.inr (Or.inr ⟨rfl, (hok.2.2.2.2.2.2.2.2.2.1 _ _ _ _ _ hf).1⟩)) q)
    · cases h
  case h_23 =>
    replace h := (z_bif h).2
    split at h
    · exact hnx _ _ _ _ h (.st fun _ q => z_cons trivial q)
    · rename_i hf
      exact hnx _ _ _ _ h (.st fun _ q => z_cons (Or.inr (Or.inr ⟨rfl, (hok.2.2.2.2.2.2.2.2.2.1 _ _ _ _ _ hf).1⟩)) q)
    · cases h
  case h_24 =>
    replace h := (z_bif h).2
    split at h
    · exact hnx _ _ _ _ h (.st fun _ q => z_cons trivial q)
    · cases h
  case h_25 =>
    replace h := (z_bif h).2
    split at h
    · split at h
      · rename_i hdrop
        replace h := (z_bif h).2
        obtain ⟨q1, q2, q3, d', rv, M', rfl, q4, q5⟩ := z_inv h
        exact hnx _ _ _ _ q5 (.cal hcall q4 q2 (z_memD hdrop).1 (z_memD hdrop).2)
      · cases h
    · split at h
      · rename_i hdrop
        replace h := (z_bif h).2
        unfold ez_ext at h
        replace h := (z_bif h).2
        split at h
        · exact hnx _ _ _ _ h (.st fun _ q => z_cons trivial fun w hw => q w ((z_memD hdrop).2 w hw))
        · cases h
      · cases h
    · cases h
  case h_26 =>
    replace h := (z_bif h).2
    split at h
    · replace h := (z_bif h).2
      obtain ⟨q1, q2, q3, d', rv, M', rfl, q4, q5⟩ := z_inv h
      exact hnx _ _ _ _ q5 (.cal hcall q4 q2 (fun v hv => List.mem_of_mem_take (List.mem_reverse.mp hv)) (fun v hv => List.mem_of_mem_drop hv))
    · replace h := (z_bif h).2
      obtain ⟨q1, q2, q3, d', rv, M', rfl, q4, q5⟩ := z_inv h
      exact hnx _ _ _ _ q5 (.cal hcall q4 q2 (fun v hv => List.mem_of_mem_take (List.mem_reverse.mp hv)) (fun v hv => List.mem_of_mem_drop hv))
    · split at h
      · exact hnx _ _ _ _ (z_bif h).2 (.st fun _ q => z_cons trivial (z_tl (z_tl q)))
      · cases h
    · split at h
      · exact hnx _ _ _ _ (z_bif h).2 (.st fun _ q => z_cons trivial (z_tl (z_tl q)))
      · cases h
    · split at h
      · replace h := (z_ite (z_bif h).2).2
        exact hnx _ _ _ _ h (.wr rfl rfl rfl (fun q _ => q.2) fun _ q => z_mem2 (z_mem3 q))
      · cases h
    · cases h
  case h_27 =>
    replace h := (z_bif h).2
    split at h
    · split at h
      · rename_i hdrop
        replace h := (z_bif h).2
        obtain ⟨q1, q2, q3, d', rv, M', rfl, q4, q5⟩ := z_inv h
        exact hnx _ _ _ _ q5 (.cal hcall q4 q2 (z_memD hdrop).1 (z_memD hdrop).2)
      · cases h
    · split at h
      · rename_i hdrop
        replace h := (z_bif h).2
        obtain ⟨q1, q2, q3, d', rv, M', rfl, q4, q5⟩ := z_inv h
        exact hnx _ _ _ _ q5 (.cal hcall q4 q2 (z_memD hdrop).1 (z_memD hdrop).2)
      · cases h
    · split at h
      · exact hnx _ _ _ _ (z_bif h).2 (.st fun _ q => z_tl q)
      · cases h
    · cases h
  case h_28 =>
    replace h := (z_bif h).2
    split at h
    · split at h
      · exact hret _ h fun w q => by cases q; exact List.mem_cons_self
      · exact hret _ (z_ite h).2 fun w q => by cases q; exact List.mem_cons_self
      · cases h
    · cases h
  case h_29 =>
    replace h := (z_bif h).2
    split at h
    · exact hret _ (z_bif h).2 fun w q => by cases q; exact List.mem_cons_self
    · cases h
  case h_30 =>
    replace h := (z_bif h).2
    split at h
    · exact hret _ (z_bif h).2 fun w q => by cases q; exact List.mem_cons_self
    · cases h
  case h_31 =>
    replace h := (z_bif h).2
    split at h
    · exact hret _ (z_bif h).2 fun w q => by cases q
    · cases h
  case h_32 => cases h
end ZMono
