/-! THE CLASS: rules: each rule read is learned and studied -/
def rl_W (ac bs R : Nat) (pa : Nat → Nat) (Ps : Nat → yP) (t k j : Nat) : Prop := ∃ s, s < R ∧ an_W ac pa (Ps s) (bs + 2 + 10 * s) t k j
theorem anW_x {ac Q : Nat} {pa : Nat → Nat} {P : yP} {t k j : Nat} (h : an_W ac pa P Q t k j) : (∃ m, py_dm P m ∧ ((t = 3 ∧ k = pa m ∧ 8 ≤ j) ∨ (t = 21 ∧ k = pa m + 1))) ∨ (t = 20 ∧ ((k = Q + 3 ∨ k = Q + 4 ∨ k = Q + 7) ∨ (ac + 191 ≤ k ∧ k < ac + 197))) ∨ (t = 9 ∧ k = ac + 192 ∧ 4 ≤ j) ∨ (t = 5 ∧ k = Q ∧ 14 ≤ j ∧ j ≤ 16) := by
  unfold an_W lr_W st_W wy_W at h
  rcases h with (⟨m, hm, _, h⟩ | h) | h
  · unfold lw_W at h
    rcases h with h | h | h
    · exact .inl ⟨m, hm, .inl ⟨h.1, h.2.1, h.2.2.1⟩⟩
    · exact .inl ⟨m, hm, .inr ⟨h.1, h.2⟩⟩
    · right; left; omega
  · right; left; omega
  · right; omega
section
variable {ac bs R pn d : Nat} {pa : Nat → Nat} {Ps : Nat → yP}
theorem cl_rules_53 (hd : 41 ≤ d) (hPs : ∀ r, r < R → py_ok (Ps r)) (hR8 : R ≤ 8) (hb1 : ac + 2 ≤ bs) (hb2 : bs + 84 ≤ ac + 170) (hpa : ∀ i, i < pn → ac + 242 ≤ pa i) (hinj : ∀ i j, i < pn → j < pn → pa i = pa j → i = j) (hdm : ∀ r, r < R → ∀ n, py_dm (Ps r) n → n < pn ∧ ∀ r', r' < R → py_dm (Ps r') n → r' = r) : ∀ (m k : Nat) (M : zM), k + m = R → zm_R M 11 ac 2 = some bs → zm_R M 11 ac 6 = some (ac + 190) → zm_R M 11 ac 7 = some (ac + 192) → cw_rs M bs → zm_I M 6 bs 1 = nI R → lp_x M (ac + 190) (ac + 191) → wy_l M (ac + 192) → (∀ s, s < R → cN_x M pa (Ps s) ∧ cR_x M pa (bs + 2 + 10 * s) (Ps s)) → (∀ s, s < k → cX M pa (bs + 2 + 10 * s) (Ps s) ∧ zm_I M 5 (bs + 2 + 10 * s) 14 = nI (py_cf (Ps s) false) ∧ zm_I M 5 (bs + 2 + 10 * s) 15 = zb (py_cf (Ps s) true == 0) ∧ zm_I M 5 (bs + 2 + 10 * s) 16 = zb (py_sure (Ps s))) → ∀ fuel, m < fuel → ∃ M', cr_rules_53 d fuel ac (nI k) M = ((cr_forgetWhatRulesTold d ac M').bind fun q4 => (match (zm_R q4 11 ac 2) with | none => none | some k6 => some (zm_I q4 6 k6 1, q4))) ∧ zf (rl_W ac bs R pa Ps) M M' ∧ cS_x M' pa bs R Ps := by
  intro m
  induction m with
  | zero =>
    intro k M hk o2 o6 o7 hw hz hl hy _ hX fuel hf
    obtain ⟨fuel, rfl⟩ : ∃ f, fuel = f + 1 := ⟨fuel - 1, by omega⟩
    have ek : k = R := by omega
    have hle : nI R ≤ nI k := nI_le (by omega) (by omega)
    refine ⟨M, ?_, zf_refl _ _, hw, hz, hR8, fun r hr => hX r (by omega)⟩
    rw [cr_rules_53]
    simp only [o2, hz, if_pos hle]
    rfl
  | succ m ih =>
    intro k M hk o2 o6 o7 hw hz hl hy hNR hX fuel hf
    obtain ⟨fuel, rfl⟩ : ∃ f, fuel = f + 1 := ⟨fuel - 1, by omega⟩
    have hkR : k < R := by omega
    have hlt : ¬ nI R ≤ nI k := nI_ge (by omega) (by omega)
    have hzk : z_in (nI k) 8 := nI_in (by omega) (by omega)
    obtain ⟨M1, M2, a1, a2, aR, aL, X2, x14, x15, x16, a3⟩ := cl_anew (d := d) (ac := ac) (Q := bs + 2 + 10 * k) (hPs k hkR) (by omega) (by omega) (hNR k hkR).1 (hNR k hkR).2 hl hy
    have wl1 : zm_R M 25 (bs + 1) k = some (bs + 2 + 10 * k) := (hw.2.2.1 k (by omega)).1
    have hw2 : cw_rs M2 bs := by
      unfold cw_rs cw_ru
      rw [a3.1, a3.2.1, a3.2.2.2.2.1]
      exact hw
    have n2 : ∀ s, s < R → s ≠ k → ∀ n, py_dm (Ps s) n → ∀ m', py_dm (Ps k) m' → pa n ≠ pa m' ∧ pa n + 1 ≠ pa m' + 1 := by
      intro s hs hsk n hn m' hm'
      have key : pa n ≠ pa m' := by
        intro e
        have h1 := (hdm s hs n hn).1
        have h2 := hdm k hkR m' hm'
        have := hinj n m' h1 h2.1 e
        subst this
        exact hsk (h2.2 s hs hn)
      exact ⟨key, by omega⟩
    have hNR2 : ∀ s, s < R → cN_x M2 pa (Ps s) ∧ cR_x M2 pa (bs + 2 + 10 * s) (Ps s) := by
      intro s hs
      refine ⟨cN_zf (hNR s hs).1 a3 ?_, cR_zf (hNR s hs).2 a3 ?_ ?_⟩
      · intro k' j hj hw
        rcases anW_x hw with ⟨m', hm', h⟩ | h | h | h <;> omega
      · intro j hj hw
        rcases anW_x hw with ⟨m', hm', h⟩ | h | h | h <;> omega
      · intro j
        refine ⟨fun hw => ?_, fun hw => ?_, fun hw => ?_⟩ <;> rcases anW_x hw with ⟨m', hm', h⟩ | h | h | h <;> omega
    have hX2 : ∀ s, s < k + 1 → cX M2 pa (bs + 2 + 10 * s) (Ps s) ∧ zm_I M2 5 (bs + 2 + 10 * s) 14 = nI (py_cf (Ps s) false) ∧ zm_I M2 5 (bs + 2 + 10 * s) 15 = zb (py_cf (Ps s) true == 0) ∧ zm_I M2 5 (bs + 2 + 10 * s) 16 = zb (py_sure (Ps s)) := by
      intro s hs
      by_cases q : s = k
      · rw [q]
        exact ⟨X2, x14, x15, x16⟩
      · obtain ⟨b1, b2, b3, b4⟩ := hX s (by omega)
        have e5 : ∀ j, zm_I M2 5 (bs + 2 + 10 * s) j = zm_I M 5 (bs + 2 + 10 * s) j := fun j => a3.2.2.2.2.2.2 _ _ _ (fun hw => by
          rcases anW_x hw with ⟨m, hm, h⟩ | h | h | h <;> omega)
        refine ⟨cX_gen (hPs s (by omega)) b1 ?_ ?_ ?_ ?_ ?_ (by rw [a3.2.2.2.2.1]; exact Nat.le_refl _), by rw [e5]; exact b2, by rw [e5]; exact b3, by rw [e5]; exact b4⟩
        · intro n hn j
          refine ⟨a3.2.2.2.2.2.2 _ _ _ (fun hw => ?_), by rw [a3.1]⟩
          rcases anW_x hw with ⟨m, hm, h⟩ | h | h | h
          · have := n2 s (by omega) q n hn m hm; omega
          · omega
          · omega
          · omega
        · intro n hn
          refine ⟨fun j => a3.2.2.2.2.2.2 _ _ _ (fun hw => ?_), by rw [a3.2.1]⟩
          rcases anW_x hw with ⟨m, hm, h⟩ | h | h | h
          · have := n2 s (by omega) q n hn m hm; omega
          · omega
          · omega
          · omega
        · intro j _
          exact ⟨e5 j, by rw [a3.1]⟩
        · intro i hi
          refine ⟨fun j => a3.2.2.2.2.2.2 _ _ _ (fun hw => ?_), by rw [a3.2.1]⟩
          rcases anW_x hw with ⟨m, hm, h⟩ | h | h | h <;> omega
        · intro i hi
          exact ⟨fun j => by rw [a3.1], by rw [a3.2.1]⟩
    obtain ⟨M3, c1, c2, c3⟩ := ih (k + 1) M2 (by omega) (by rw [a3.1]; exact o2) (by rw [a3.1]; exact o6) (by rw [a3.1]; exact o7) hw2 (by rw [a3.2.2.2.2.2.2 _ _ _ (fun hw => by rcases anW_x hw with ⟨m, hm, h⟩ | h | h | h <;> omega)]; exact hz) (by unfold lp_x; rw [a3.1, a3.2.1]; exact hl) (by unfold wy_l; rw [a3.1, a3.2.1]; exact hy) hNR2 hX2 fuel (by omega)
    refine ⟨M3, ?_, zf_trans (zf_mono a3 (fun t k' j h => ⟨k, hkR, h⟩)) c2, c3⟩
    rw [← c1, cr_rules_53]
    simp only [o2, hz, if_neg hlt, hw.1.1, hw.1.2, if_pos hzk, o6, nI_clamp (show k < 2 ^ 31 by omega), wl1, a1, Option.bind_some, aR, aL, o7, a2, zlet, nI_1]
end
