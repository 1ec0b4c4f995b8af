/-! ONE STEP, whole -/
def z_isRet (T : zT) (mid : Nat) (cc : ByteArray) (pc : Nat) (v : Option zV) : Prop :=
  (decode cc pc = .ok (.ireturn, 1) ∧ ∃ x : Int32, v = some (.inl x) ∧ (zt_ret T mid = 1 ∨ (zt_ret T mid = 2 ∧ (x = 0 ∨ x = 1)))) ∨ (decode cc pc = .ok (.lreturn, 1) ∧ ∃ x : Int64, v = some (.inr (.inl x)) ∧ zt_ret T mid = 3) ∨ (decode cc pc = .ok (.areturn, 1) ∧ ∃ x : Nat × Option Nat, v = some (.inr (.inr x)) ∧ zt_ret T mid = 4) ∨ (decode cc pc = .ok (.return_, 1) ∧ v = none ∧ zt_ret T mid = 0)
theorem z_and {a b : Bool} (h : (a && b) = true) : a = true ∧ b = true := by
  cases a <;> cases b <;> first | exact ⟨rfl, rfl⟩ | cases h
theorem z_or {a b : Bool} (h : (a || b) = true) : a = true ∨ b = true := by
  cases a
  · exact Or.inr h
  · exact Or.inl rfl
theorem z_ite {α : Type} {c : Prop} [Decidable c] {x : Option α} {y : α} (h : (if c then x else none) = some y) : c ∧ x = some y := by
  by_cases hc : c
  · exact ⟨hc, by rw [if_pos hc] at h; exact h⟩
  · rw [if_neg hc] at h; cases h
theorem z_etI {α : Type} {c : Prop} [Decidable c] {x : Option α} {y : α} (h : (if c then none else x) = some y) : ¬ c ∧ x = some y := by
  by_cases hc : c
  · rw [if_pos hc] at h; cases h
  · exact ⟨hc, by rw [if_neg hc] at h; exact h⟩
/-- what the evaluator asks of calls -/
def z_Call (T : zT) (P : zP) (G : zG) (XX : State → Prop) (l : Launch) (call : Nat → Nat → List (Nat × zV) → zM → Option (Option zV × zM)) (d : Nat) (M : zM) : Prop :=
  ∀ d' callee as rv M', d = d' + 1 → z_okM T P callee → call d' callee (zl_args 0 as) M = some (rv, M') → zc_sum as ≤ zt_nL T callee → (∀ v ∈ as, z_VV G False M v) → z_Met T P G XX l (z_room d') callee as M rv M' ∧ z_le M M' ∧ (∀ v, rv = some v → z_VV G False M' v)
def z_Ext (T : zT) (P : zP) (G : zG) (XX : State → Prop) (l : Launch) : Prop :=
  ∀ callee as v M, zt_ext T callee as = some v → (∀ w ∈ as, z_VV G False M w) → z_Met T P G XX l z_roomX callee as M (some (.inl v)) M
/-- ez_inv taken apart -/
theorem z_inv {α : Type} {T : zT} {call : Nat → Nat → List (Nat × zV) → zM → Option (Option zV × zM)} {next : Nat → List (Nat × zV) → List zV → zM → Option α} {d mid pc callee : Nat} {ls : List (Nat × zV)} {as rest : List zV} {M : zM} {out : α} (h : ez_inv T call next d mid pc ls callee as rest M = some out) :
    zc_sum as ≤ zt_nL T callee ∧ (∀ v ∈ as, z_no v = true) ∧ zc_sum rest ≤ 8 ∧ ∃ d' rv M', d = d' + 1 ∧ call d' callee (zl_args 0 as) M = some (rv, M') ∧ next (pc + 3) ls (rv.toList ++ rest) M' = some out := by
  unfold ez_inv at h
  have g := (z_bif h).1
  replace h := (z_bif h).2
  obtain ⟨g1, g2⟩ := z_and g
  obtain ⟨g3, g4⟩ := z_and g1
  refine ⟨Nat.le_of_ble_eq_true g3, List.all_eq_true.mp g4, Nat.le_of_ble_eq_true g2, ?_⟩
  cases d with
  | zero => cases h
  | succ d' =>
    dsimp only at h
    split at h
    · cases h
    · rename_i M' hc
      exact ⟨d', none, M', rfl, hc, h⟩
    · rename_i v M' hc
      exact ⟨d', some v, M', rfl, hc, h⟩
theorem z_drop {n : Nat} {st : List zV} {v : zV} {rest : List zV} (h : st.drop n = v :: rest) : st = ((st.take n).reverse).reverse ++ v :: rest := by
  rw [List.reverse_reverse, ← h, List.take_append_drop]
theorem z_spread {P : zV → Prop} {n : Nat} {st : List zV} {v : zV} {rest : List zV} (h : st.drop n = v :: rest) (hvs : ∀ w ∈ st, P w) : st = ((st.take n).reverse).reverse ++ v :: rest ∧ (∀ w ∈ v :: (st.take n).reverse, P w) ∧ (∀ w ∈ rest, P w) ∧ P v := by
  have hm : ∀ w ∈ v :: rest, w ∈ st := fun w hw => List.mem_of_mem_drop (by rw [h]; exact hw)
  refine ⟨z_drop h, fun w hw => ?_, fun w hw => hvs w (hm w (List.mem_cons_of_mem _ hw)), hvs v (hm v List.mem_cons_self)⟩
  rcases List.mem_cons.mp hw with e | hw
  · rw [e]; exact hvs v (hm v List.mem_cons_self)
  · exact hvs w (List.mem_of_mem_take (List.mem_reverse.mp hw))
theorem z_t30 {T : zT} {P : zP} {G : zG} (hok : z_ok T P G) {t : Nat} {C : String} (h : ∃ Tt N, (zg_cl G)[t]? = some (C, Tt, N)) : t < 30 := by
  obtain ⟨Tt, N, hcl⟩ := h
  have := (hok.1.2.2.2.2.1 _ _ _ _ hcl).1
  omega
section ZWhole
variable {p : Program} {l : Launch} {e : Env} {R : Room} {s : State} {m : MethodId} {args : Array Value} {below : List Frame} {meth : Method} {c : Code} {Q : State → Prop}
variable {α : Type} {T : zT} {P : zP} {G : zG} {XX : State → Prop} {call : Nat → Nat → List (Nat × zV) → zM → Option (Option zV × zM)} {next : Nat → List (Nat × zV) → List zV → zM → Option α} {ret : Option zV → zM → Option α} {out : α} {d mid n0 s0 : Nat} {sc : Prop}
variable {pc : Nat} {ls : List (Nat × zV)} {M : zM} {H : Heap} {locs : List Loc} {cells slots : Nat} {lsA : Array Slot} {r rest st : List zV}
set_option maxHeartbeats 8000000 in
theorem z_rest (hok : z_ok T P G) (hc : z_clo G XX) (hF : z_Fr T P G XX p s m args meth c mid sc) (hR : R.frames ≥ d + 10 ∧ R.locals ≥ 48 * d + 200) (hroom : ∀ pc' ls' st' M', next pc' ls' st' M' = some out → zm_n M' ≤ R.cells + n0 ∧ zm_s M' ≤ R.slots + s0) (hcall : z_Call T P G XX l call d M) (hext : z_Ext T P G XX l) (hst : z_St G s n0 s0 M H locs cells slots) (hl : lv_has lsA (zt_nL T mid) (z_cvl (zg_A G) ls)) (hvl : ∀ q ∈ ls, z_VV G sc M q.2) (hvs : ∀ v ∈ st, z_VV G sc M v) (hnx : z_Nx p l e R s m args below meth c Q T G next out mid n0 s0 sc)
    (hret : ∀ v, ret v M = some out → z_isRet T mid (zp_B P mid) pc v → (∀ w, v = some w → z_VV G sc M w) → W p l e R s m args below meth c H locs cells slots Q (F0 m pc lsA (v.toList.map (z_cv (zg_A G)))))
    {i : Instr} {len note : Nat} (hcode : zt_code T mid pc = some (i, len, note)) (h : ez_rest T call next ret d mid pc i len note ls st M = some out) : W p l e R s m args below meth c H locs cells slots Q (F0 m pc lsA (st.map (z_cv (zg_A G)))) := by
  have hd : decode (zp_B P mid) pc = .ok (i, len) := hok.2.1 mid pc i len note hcode
  have hR10 : R.frames ≥ 10 ∧ R.locals ≥ 200 := ⟨by omega, by omega⟩
  unfold ez_rest at h
  split at h
  case h_1 =>
    have g := (z_bif h).1
    replace h := (z_bif h).2
    have e0 := z_beq_eq g
    subst e0
    obtain ⟨t, ht, hk⟩ := z_jmp h
    exact lv_goto hF.1 hF.2.1 hd ht (hnx _ _ _ _ _ _ _ _ _ hk hst hl hvl hvs)
  case h_2 =>
    have g := (z_bif h).1
    replace h := (z_bif h).2
    have e0 := z_beq_eq g
    subst e0
    split at h
    · obtain ⟨t, ht, hk⟩ := z_jmp h
      exact zi_if hok hF hst hl hvl hnx hd ht (z_tl hvs) hk
    · cases h
  case h_3 =>
    have g := (z_bif h).1
    replace h := (z_bif h).2
    have e0 := z_beq_eq g
    subst e0
    split at h
    · obtain ⟨t, ht, hk⟩ := z_jmp h
      exact zi_icmp hok hF hst hl hvl hnx hd ht (z_tl (z_tl hvs)) hk
    · cases h
  case h_4 =>
    have g := (z_bif h).1
    replace h := (z_bif h).2
    have e0 := z_beq_eq g
    subst e0
    split at h
    · obtain ⟨t, ht, hk⟩ := z_jmp h
      exact lv_ifnullN hF.1 hF.2.1 hd ht (hnx _ _ _ _ _ _ _ _ _ hk hst hl hvl (z_tl hvs))
    · exact lv_ifnull hF.1 hF.2.1 hd (hnx _ _ _ _ _ _ _ _ _ h hst hl hvl (z_tl hvs))
    · cases h
  case h_5 =>
    have g := (z_bif h).1
    replace h := (z_bif h).2
    have e0 := z_beq_eq g
    subst e0
    split at h
    · exact lv_ifnonnullN hF.1 hF.2.1 hd (hnx _ _ _ _ _ _ _ _ _ h hst hl hvl (z_tl hvs))
    · obtain ⟨t, ht, hk⟩ := z_jmp h
      exact lv_ifnonnull hF.1 hF.2.1 hd ht (hnx _ _ _ _ _ _ _ _ _ hk hst hl hvl (z_tl hvs))
    · cases h
  case h_6 =>
    have g := (z_bif h).1
    replace h := (z_bif h).2
    have e0 := z_beq_eq g
    subst e0
    split at h
    · have g2 := (z_bif h).1
      replace h := (z_bif h).2
      obtain ⟨g3, g4⟩ := z_and g2
      have e1 := z_beq_eq g3
      subst e1
      split at h
      · obtain ⟨t, ht, hk⟩ := z_jmp h
        exact zi_acmp hok hF hst hl hvl hnx (z_blt g4) hd ht hvs hk
      · obtain ⟨t, ht, hk⟩ := z_jmp h
        exact zi_acmp hok hF hst hl hvl hnx (z_blt g4) hd ht hvs hk
    · cases h
  case h_7 =>
    split at h
    · split at h
      · have g := (z_bif h).1
        replace h := (z_bif h).2
        obtain ⟨g1, g2⟩ := z_and g
        exact zi_table hok hF hst hl hvl hnx hd (of_decide_eq_true g1) (Nat.le_of_ble_eq_true g2) (z_tl hvs) h
      · cases h
    · cases h
  case h_8 =>
    have g := (z_bif h).1
    replace h := (z_bif h).2
    have e0 := z_beq_eq g
    subst e0
    split at h
    · cases h
    · rename_i hf
      split at h
      · have g2 := (z_bif h).1
        replace h := (z_bif h).2
        have e1 := z_beq_eq g2
        subst e1
        exact zi_get hok hF hst hl hvl hnx hd hf hvs h
      · cases h
  case h_9 =>
    have g := (z_bif h).1
    replace h := (z_bif h).2
    have e0 := z_beq_eq g
    subst e0
    split at h
    · cases h
    · rename_i hf
      split at h
      · have g2 := (z_bif h).1
        replace h := (z_bif h).2
        have e1 := z_beq_eq g2
        subst e1
        split at h
        · rename_i hp
          exact zi_put hok hF hst hl hvl hnx hd hf hp hvs h
        · cases h
      · cases h
  case h_10 =>
    have g := (z_bif h).1
    replace h := (z_bif h).2
    have e0 := z_beq_eq g
    subst e0
    split at h
    · have g2 := (z_bif h).1
      replace h := (z_bif h).2
      have g3 := (z_ite h).1
      replace h := (z_ite h).2
      refine zi_iald hok hF hst hl hvl hnx hd ?_ g3 hvs h
      rcases z_or g2 with q | q
      · rcases z_or q with q | q
        · exact Or.inl (z_beq_eq q)
        · exact Or.inr (Or.inl (z_beq_eq q))
      · exact Or.inr (Or.inr (z_beq_eq q))
    · cases h
  case h_11 =>
    have g := (z_bif h).1
    replace h := (z_bif h).2
    have e0 := z_beq_eq g
    subst e0
    split at h
    · have g2 := (z_bif h).1
      replace h := (z_bif h).2
      have g3 := (z_ite h).1
      replace h := (z_ite h).2
      exact zi_bald hok hF hst hl hvl hnx hd (z_beq_eq g2) g3 hvs h
    · cases h
  case h_12 =>
    have g := (z_bif h).1
    replace h := (z_bif h).2
    have e0 := z_beq_eq g
    subst e0
    split at h
    · have g2 := (z_bif h).1
      replace h := (z_bif h).2
      have g3 := (z_ite h).1
      replace h := (z_ite h).2
      exact zi_lald hok hF hst hl hvl hnx hd (z_beq_eq g2) g3 hvs h
    · cases h
  case h_13 =>
    have g := (z_bif h).1
    replace h := (z_bif h).2
    have e0 := z_beq_eq g
    subst e0
    split at h
    · have g2 := (z_bif h).1
      replace h := (z_bif h).2
      have g3 := (z_ite h).1
      replace h := (z_ite h).2
      exact zi_aald hok hF hst hl hvl hnx hd ((z_or g2).imp z_beq_eq z_beq_eq) g3 hvs h
    · cases h
  case h_14 =>
    have g := (z_bif h).1
    replace h := (z_bif h).2
    have e0 := z_beq_eq g
    subst e0
    split at h
    · have g2 := (z_bif h).1
      replace h := (z_bif h).2
      have g3 := (z_ite h).1
      replace h := (z_ite h).2
      exact zi_iast hok hF hst hl hvl hnx hd ((z_or g2).imp z_beq_eq z_beq_eq) g3 hvs h
    · cases h
  case h_15 =>
    have g := (z_bif h).1
    replace h := (z_bif h).2
    have e0 := z_beq_eq g
    subst e0
    split at h
    · have g2 := (z_bif h).1
      replace h := (z_bif h).2
      have g3 := (z_ite h).1
      replace h := (z_ite h).2
      exact zi_bast hok hF hst hl hvl hnx hd (z_beq_eq g2) g3 hvs h
    · cases h
  case h_16 =>
    have g := (z_bif h).1
    replace h := (z_bif h).2
    have e0 := z_beq_eq g
    subst e0
    split at h
    · have g2 := (z_bif h).1
      replace h := (z_bif h).2
      have g3 := (z_ite h).1
      replace h := (z_ite h).2
      exact zi_last hok hF hst hl hvl hnx hd (z_beq_eq g2) g3 hvs h
    · cases h
  case h_17 =>
    have g := (z_bif h).1
    replace h := (z_bif h).2
    have e0 := z_beq_eq g
    subst e0
    split at h
    · have g2 := (z_bif h).1
      replace h := (z_bif h).2
      obtain ⟨g4, g5⟩ := z_and g2
      have g3 := (z_ite h).1
      replace h := (z_ite h).2
      exact zi_aast hok hF hst hl hvl hnx (z_beq_eq g5) hd ((z_or g4).imp z_beq_eq z_beq_eq) g3 hvs h
    · cases h
  case h_18 =>
    have g := (z_bif h).1
    replace h := (z_bif h).2
    have e0 := z_beq_eq g
    subst e0
    split at h
    · have g2 := (z_bif h).1
      replace h := (z_bif h).2
      refine zi_alen hok hF hst hl hvl hnx hd ?_ hvs h
      rcases z_or g2 with q | q
      · obtain ⟨q1, q2⟩ := z_and q
        exact Or.inl ⟨Nat.le_of_ble_eq_true q1, z_blt q2⟩
      · exact Or.inr (z_beq_eq q)
    · cases h
  case h_19 =>
    have g := (z_bif h).1
    replace h := (z_bif h).2
    have e0 := z_beq_eq g
    subst e0
    split at h
    · have g2 := (z_bif h).1
      replace h := (z_bif h).2
      have g3 := (z_etI h).1
      replace h := (z_etI h).2
      refine zi_newa hok hF hst hl hvl hnx hroom hd ?_ g3 hvs h
      split at g2
      · exact Or.inl ⟨rfl, (z_or g2).imp z_beq_eq z_beq_eq⟩
      · exact Or.inr (Or.inl ⟨rfl, z_beq_eq g2⟩)
      · exact Or.inr (Or.inr ⟨rfl, z_beq_eq g2⟩)
      · cases g2
    · cases h
  case h_20 =>
    have g := (z_bif h).1
    replace h := (z_bif h).2
    have e0 := z_beq_eq g
    subst e0
    split at h
    · cases h
    · rename_i hf
      split at h
      · have g3 := (z_etI h).1
        replace h := (z_etI h).2
        exact zi_anew hok hF hst hl hvl hnx hroom hd hf g3 hvs h
      · cases h
  case h_21 =>
    have g := (z_bif h).1
    replace h := (z_bif h).2
    have e0 := z_beq_eq g
    subst e0
    split at h
    · cases h
    · rename_i hf
      exact zi_new hok hF hst hl hvl hnx hroom hd hf hvs h
  case h_22 =>
    have g := (z_bif h).1
    replace h := (z_bif h).2
    have e0 := z_beq_eq g
    subst e0
    split at h
    · rename_i hf
      exact lv_ldc hF.1 hF.2.1 hF.2.2.2.1 (hF.2.2.2.2.1 _ (hok.2.2.2.2.2.2.2.1 _ _ _ _ _ hf)) hd (hnx _ _ _ _ _ _ _ _ _ h hst hl hvl (z_cons trivial hvs))
    · rename_i hf
      exact zi_text hok hF hst hl hvl hnx hd hf hvs h
    · cases h
  case h_23 =>
    have g := (z_bif h).1
    replace h := (z_bif h).2
    have e0 := z_beq_eq g
    subst e0
    split at h
    · rename_i hf
      exact lv_ldcw hF.1 hF.2.1 hF.2.2.2.1 (hF.2.2.2.2.1 _ (hok.2.2.2.2.2.2.2.1 _ _ _ _ _ hf)) hd (hnx _ _ _ _ _ _ _ _ _ h hst hl hvl (z_cons trivial hvs))
    · rename_i hf
      exact zi_textw hok hF hst hl hvl hnx hd hf hvs h
    · cases h
  case h_24 =>
    have g := (z_bif h).1
    replace h := (z_bif h).2
    have e0 := z_beq_eq g
    subst e0
    split at h
    · rename_i hf
      exact lv_ldc2 hF.1 hF.2.1 hF.2.2.2.1 (hF.2.2.2.2.1 _ (hok.2.2.2.2.2.2.2.2.1 _ _ _ _ _ hf)) hd (hnx _ _ _ _ _ _ _ _ _ h hst hl hvl (z_cons trivial hvs))
    · cases h
  case h_25 =>
    have g := (z_bif h).1
    replace h := (z_bif h).2
    have e0 := z_beq_eq g
    subst e0
    split at h
    · rename_i hf
      have hcal := (hok.2.2.2.2.1 _ _ _ _ _ _ hf).1 rfl
      split at h
      · rename_i hdrop
        have g2 := (z_bif h).1
        replace h := (z_bif h).2
        obtain ⟨g3, g4⟩ := z_and g2
        have e1 := z_beq_eq g3
        subst e1
        obtain ⟨q1, q2, q3, d', rv, M', rfl, q4, q5⟩ := z_inv h
        obtain ⟨w1, w2, w3, w4⟩ := z_spread hdrop hvs
        obtain ⟨k1, k2, k3⟩ := hcall _ _ _ _ _ rfl hcal.1 q4 q1 (fun v hv => z_VVno (w2 v hv) (q2 v hv))
        rw [w1]
        exact zc_virtual hok hF hst hl hvl hnx rfl hc k2 k3 hR (hroom _ _ _ _ q5) k1 w3 q3 q5 hd (by rw [List.length_reverse]; exact z_beq_eq g4) w4 (z_t30 hok hcal.2.2.1) hcal
      · cases h
    · rename_i hf
      have hcal := (hok.2.2.2.2.1 _ _ _ _ _ _ hf).2.2.2.2.2.2.2.2.2 rfl
      split at h
      · rename_i hdrop
        have g2 := (z_bif h).1
        replace h := (z_bif h).2
        obtain ⟨g3, g4⟩ := z_and g2
        have e1 := z_beq_eq g3
        subst e1
        unfold ez_ext at h
        have g5 := (z_bif h).1
        replace h := (z_bif h).2
        obtain ⟨g6, g7⟩ := z_and g5
        have q2 := List.all_eq_true.mp g7
        split at h
        · rename_i hv
          obtain ⟨w1, w2, w3, w4⟩ := z_spread hdrop hvs
          have k1 := hext _ _ _ M hv (fun v hv => z_VVno (w2 v hv) (q2 v hv))
          rw [w1]
          exact zc_ext hok hF hst hl hvl hnx rfl hc z_le.rf (fun v q => by cases q; trivial) hR10 (hroom _ _ _ _ h) k1 w3 (Nat.le_of_ble_eq_true g6) h hd (by rw [List.length_reverse]; exact z_beq_eq g4) w4 hcal
        · cases h
      · cases h
    · cases h
  case h_26 =>
    have g := (z_bif h).1
    replace h := (z_bif h).2
    have e0 := z_beq_eq g
    subst e0
    split at h
    · rename_i hf
      have hcal := (hok.2.2.2.2.1 _ _ _ _ _ _ hf).2.1 rfl
      have g4 := (z_bif h).1
      replace h := (z_bif h).2
      obtain ⟨q1, q2, q3, d', rv, M', rfl, q4, q5⟩ := z_inv h
      obtain ⟨k1, k2, k3⟩ := hcall _ _ _ _ _ rfl hcal.1 q4 q1 (fun v hv => z_VVno (hvs v (List.mem_of_mem_take (List.mem_reverse.mp hv))) (q2 v hv))
      have go := zc_static (t := 0) (as := (st.take _).reverse) (rest := st.drop _) hok hF hst hl hvl hnx hc k2 k3 hR (hroom _ _ _ _ q5) k1 (fun v hv => hvs v (List.mem_of_mem_drop hv)) q3 q5 hd (by rw [List.length_reverse]; exact z_beq_eq g4) hcal
      rw [List.reverse_reverse, List.take_append_drop] at go
      exact go
    · rename_i hf
      have hcal := (hok.2.2.2.2.1 _ _ _ _ _ _ hf).2.2.1 rfl
      have g4 := (z_bif h).1
      replace h := (z_bif h).2
      obtain ⟨q1, q2, q3, d', rv, M', rfl, q4, q5⟩ := z_inv h
      obtain ⟨k1, k2, k3⟩ := hcall _ _ _ _ _ rfl hcal.1 q4 q1 (fun v hv => z_VVno (hvs v (List.mem_of_mem_take (List.mem_reverse.mp hv))) (q2 v hv))
      have go := zc_staticN (t := 0) (as := (st.take _).reverse) (rest := st.drop _) hok hF hst hl hvl hnx hc k2 k3 hR (hroom _ _ _ _ q5) k1 (fun v hv => hvs v (List.mem_of_mem_drop hv)) q3 q5 hd (by rw [List.length_reverse]; exact z_beq_eq g4) hcal
      rw [List.reverse_reverse, List.take_append_drop] at go
      exact go
    · rename_i hf
      have hcal := (hok.2.2.2.2.1 _ _ _ _ _ _ hf).2.2.2.2.2.2.1 rfl
      split at h
      · have g4 := (z_bif h).1
        replace h := (z_bif h).2
        have rm := hroom _ _ _ _ h
        have c1 := hst.2.2.1
        have c2 := hst.2.2.2
        exact zi_max hok hF hst hl hvl hnx hR10 ⟨by omega, by omega⟩ hd hcal (Nat.le_of_ble_eq_true g4) (z_tl (z_tl hvs)) h
      · cases h
    · rename_i hf
      have hcal := (hok.2.2.2.2.1 _ _ _ _ _ _ hf).2.2.2.2.2.2.2.1 rfl
      split at h
      · have g4 := (z_bif h).1
        replace h := (z_bif h).2
        have rm := hroom _ _ _ _ h
        have c1 := hst.2.2.1
        have c2 := hst.2.2.2
        exact zi_min hok hF hst hl hvl hnx hR10 ⟨by omega, by omega⟩ hd hcal (Nat.le_of_ble_eq_true g4) (z_tl (z_tl hvs)) h
      · cases h
    · rename_i hf
      have hcal := (hok.2.2.2.2.1 _ _ _ _ _ _ hf).2.2.2.2.2.2.2.2.1 rfl
      split at h
      · have g4 := (z_bif h).1
        replace h := (z_bif h).2
        obtain ⟨g5, g6⟩ := z_and g4
        obtain ⟨g7, g8⟩ := z_and g5
        have e1 := z_beq_eq g7
        have e2 := z_beq_eq g8
        subst e1
        subst e2
        have g9 := (z_ite h).1
        replace h := (z_ite h).2
        exact zi_copy hok hF hst hl hvl hnx hR10 hd hcal (Nat.le_of_ble_eq_true g6) g9 hvs h
      · cases h
    · cases h
  case h_27 =>
    have g := (z_bif h).1
    replace h := (z_bif h).2
    have e0 := z_beq_eq g
    subst e0
    split at h
    · rename_i hf
      obtain ⟨ht, hcal⟩ := (hok.2.2.2.2.1 _ _ _ _ _ _ hf).2.2.2.1 rfl
      split at h
      · rename_i hdrop
        have g2 := (z_bif h).1
        replace h := (z_bif h).2
        obtain ⟨g3, g4⟩ := z_and g2
        have e1 := z_beq_eq g3
        subst e1
        obtain ⟨q1, q2, q3, d', rv, M', rfl, q4, q5⟩ := z_inv h
        obtain ⟨w1, w2, w3, w4⟩ := z_spread hdrop hvs
        obtain ⟨k1, k2, k3⟩ := hcall _ _ _ _ _ rfl hcal.1 q4 q1 (fun v hv => z_VVno (w2 v hv) (q2 v hv))
        rw [w1]
        exact zc_init hok hF hst hl hvl hnx rfl hc k2 k3 hR (hroom _ _ _ _ q5) k1 w3 q3 q5 hd (by rw [List.length_reverse]; exact z_beq_eq g4) ht hcal
      · cases h
    · rename_i hf
      obtain ⟨ht, hcal⟩ := (hok.2.2.2.2.1 _ _ _ _ _ _ hf).2.2.2.2.1 rfl
      split at h
      · rename_i hdrop
        have g2 := (z_bif h).1
        replace h := (z_bif h).2
        obtain ⟨g3, g4⟩ := z_and g2
        have e1 := z_beq_eq g3
        subst e1
        obtain ⟨q1, q2, q3, d', rv, M', rfl, q4, q5⟩ := z_inv h
        obtain ⟨w1, w2, w3, w4⟩ := z_spread hdrop hvs
        obtain ⟨k1, k2, k3⟩ := hcall _ _ _ _ _ rfl hcal.1 q4 q1 (fun v hv => z_VVno (w2 v hv) (q2 v hv))
        rw [w1]
        exact zc_initN hok hF hst hl hvl hnx rfl hc k2 k3 hR (hroom _ _ _ _ q5) k1 w3 q3 q5 hd (by rw [List.length_reverse]; exact z_beq_eq g4) ht hcal
      · cases h
    · rename_i hf
      have hcal := (hok.2.2.2.2.1 _ _ _ _ _ _ hf).2.2.2.2.2.1 rfl
      split at h
      · have g4 := (z_bif h).1
        replace h := (z_bif h).2
        exact zi_obj hok hF hst hl hvl hnx hR10 hd hcal (Nat.le_of_ble_eq_true g4) (z_tl hvs) h
      · cases h
    · cases h
  case h_28 =>
    have g := (z_bif h).1
    replace h := (z_bif h).2
    have e0 := z_beq_eq g
    subst e0
    split at h
    · split at h
      · rename_i hr
        exact hret _ h (Or.inl ⟨hd, _, rfl, Or.inl hr⟩) (fun w q => by cases q; trivial)
      · rename_i hr
        have g3 := (z_ite h).1
        replace h := (z_ite h).2
        exact hret _ h (Or.inl ⟨hd, _, rfl, Or.inr ⟨hr, g3⟩⟩) (fun w q => by cases q; trivial)
      · cases h
    · cases h
  case h_29 =>
    have g := (z_bif h).1
    replace h := (z_bif h).2
    have e0 := z_beq_eq g
    subst e0
    split at h
    · have g2 := (z_bif h).1
      replace h := (z_bif h).2
      exact hret _ h (Or.inr (Or.inl ⟨hd, _, rfl, z_beq_eq g2⟩)) (fun w q => by cases q; trivial)
    · cases h
  case h_30 =>
    have g := (z_bif h).1
    replace h := (z_bif h).2
    have e0 := z_beq_eq g
    subst e0
    split at h
    · have g2 := (z_bif h).1
      replace h := (z_bif h).2
      exact hret _ h (Or.inr (Or.inr (Or.inl ⟨hd, _, rfl, z_beq_eq g2⟩))) (fun w q => by cases q; exact z_hd hvs)
    · cases h
  case h_31 =>
    have g := (z_bif h).1
    replace h := (z_bif h).2
    have e0 := z_beq_eq g
    subst e0
    split at h
    · have g2 := (z_bif h).1
      replace h := (z_bif h).2
      exact hret _ h (Or.inr (Or.inr (Or.inr ⟨hd, rfl, z_beq_eq g2⟩))) (fun w q => by cases q)
    · cases h
  case h_32 => cases h
end ZWhole
