/-! CLASS AND MODEL side by side: what one does leaves the other alone -/
/-- the model's own memory is the same -/
def mk_ag (am : Nat) (M M' : zM) : Prop := (∀ j, zm_I M' 12 am j = zm_I M 12 am j ∧ zm_R M' 12 am j = zm_R M 12 am j) ∧ ∀ t a, (t = 20 ∨ t = 22) → 1 ≤ a → a ≤ 33 → zm_L M' t (am + a) = zm_L M t (am + a) ∧ ∀ j, zm_I M' t (am + a) j = zm_I M t (am + a) j
section
variable {am : Nat} {M M' : zM} {S : yZ}
theorem ml_ag (h : ml_ok am M) (hf : mk_ag am M M') : ml_ok am M' := by
  obtain ⟨h1, h2⟩ := hf
  have R : ∀ j, zm_R M' 12 am j = zm_R M 12 am j := fun j => (h1 j).2
  have L0 : ∀ a, 1 ≤ a → a ≤ 33 → zm_L M' 20 (am + a) = zm_L M 20 (am + a) := fun a p q => (h2 20 a (.inl rfl) p q).1
  have L2 : ∀ a, 1 ≤ a → a ≤ 33 → zm_L M' 22 (am + a) = zm_L M 22 (am + a) := fun a p q => (h2 22 a (.inr rfl) p q).1
  obtain ⟨⟨r1, l1⟩, ⟨r2, l2⟩, ⟨r3, l3⟩, ⟨r4, l4⟩, ⟨r5, l5⟩, ⟨r6, l6⟩, ⟨r7, l7⟩, ⟨r8, l8⟩, ⟨r9, l9⟩, ⟨r10, l10⟩, ⟨r11, l11⟩, ⟨r12, l12⟩, ⟨r13, l13⟩, ⟨r14, l14⟩, ⟨r15, l15⟩, ⟨r16, l16⟩, ⟨r17, l17⟩, ⟨r18, l18⟩, ⟨r19, l19⟩, ⟨r20, l20⟩, ⟨r21, l21⟩, ⟨r22, l22⟩, ⟨r23, l23⟩, ⟨r24, l24⟩, ⟨r25, l25⟩, ⟨r26, l26⟩, ⟨r27, l27⟩, ⟨r28, l28⟩, ⟨r29, l29⟩, ⟨r30, l30⟩, ⟨r31, l31⟩, ⟨r32, l32⟩, ⟨r33, l33⟩⟩ := h
  exact ⟨⟨(R 1).trans r1, (L2 1 (by omega) (by omega)).trans l1⟩, ⟨(R 5).trans r2, (L0 2 (by omega) (by omega)).trans l2⟩, ⟨(R 6).trans r3, (L0 3 (by omega) (by omega)).trans l3⟩, ⟨(R 7).trans r4, (L0 4 (by omega) (by omega)).trans l4⟩, ⟨(R 8).trans r5, (L0 5 (by omega) (by omega)).trans l5⟩, ⟨(R 9).trans r6, (L0 6 (by omega) (by omega)).trans l6⟩, ⟨(R 10).trans r7, (L0 7 (by omega) (by omega)).trans l7⟩, ⟨(R 11).trans r8, (L0 8 (by omega) (by omega)).trans l8⟩, ⟨(R 12).trans r9, (L0 9 (by omega) (by omega)).trans l9⟩, ⟨(R 13).trans r10, (L0 10 (by omega) (by omega)).trans l10⟩, ⟨(R 14).trans r11, (L0 11 (by omega) (by omega)).trans l11⟩, ⟨(R 18).trans r12, (L0 12 (by omega) (by omega)).trans l12⟩, ⟨(R 19).trans r13, (L0 13 (by omega) (by omega)).trans l13⟩, ⟨(R 22).trans r14, (L0 14 (by omega) (by omega)).trans l14⟩, ⟨(R 23).trans r15, (L0 15 (by omega) (by omega)).trans l15⟩, ⟨(R 24).trans r16, (L0 16 (by omega) (by omega)).trans l16⟩, ⟨(R 25).trans r17, (L0 17 (by omega) (by omega)).trans l17⟩, ⟨(R 27).trans r18, (L2 18 (by omega) (by omega)).trans l18⟩, ⟨(R 29).trans r19, (L0 19 (by omega) (by omega)).trans l19⟩, ⟨(R 30).trans r20, (L0 20 (by omega) (by omega)).trans l20⟩, ⟨(R 32).trans r21, (L0 21 (by omega) (by omega)).trans l21⟩, ⟨(R 33).trans r22, (L2 22 (by omega) (by omega)).trans l22⟩, ⟨(R 34).trans r23, (L0 23 (by omega) (by omega)).trans l23⟩, ⟨(R 37).trans r24, (L0 24 (by omega) (by omega)).trans l24⟩, ⟨(R 38).trans r25, (L0 25 (by omega) (by omega)).trans l25⟩, ⟨(R 39).trans r26, (L0 26 (by omega) (by omega)).trans l26⟩, ⟨(R 48).trans r27, (L0 27 (by omega) (by omega)).trans l27⟩, ⟨(R 49).trans r28, (L0 28 (by omega) (by omega)).trans l28⟩, ⟨(R 50).trans r29, (L0 29 (by omega) (by omega)).trans l29⟩, ⟨(R 51).trans r30, (L0 30 (by omega) (by omega)).trans l30⟩, ⟨(R 52).trans r31, (L0 31 (by omega) (by omega)).trans l31⟩, ⟨(R 56).trans r32, (L0 32 (by omega) (by omega)).trans l32⟩, ⟨(R 60).trans r33, (L0 33 (by omega) (by omega)).trans l33⟩⟩
theorem me_ag {r : Nat} {P : yP} (h : me_p am M r P) (hf : mk_ag am M M') : me_p am M' r P := by
  have q : ∀ a, 1 ≤ a → a ≤ 33 → ∀ j, zm_I M' 20 (am + a) j = zm_I M 20 (am + a) j := fun a p q => (hf.2 20 a (.inl rfl) p q).2
  unfold me_p at *
  simp only [q 2 (by omega) (by omega), q 4 (by omega) (by omega), q 6 (by omega) (by omega), q 8 (by omega) (by omega), q 10 (by omega) (by omega)]
  exact h
theorem mI_ag (h : mI am M S) (hf : mk_ag am M M') : mI am M' S := by
  have q : ∀ a, 1 ≤ a → a ≤ 33 → ∀ j, zm_I M' 20 (am + a) j = zm_I M 20 (am + a) j := fun a p q => (hf.2 20 a (.inl rfl) p q).2
  have q2 : ∀ a, 1 ≤ a → a ≤ 33 → ∀ j, zm_I M' 22 (am + a) j = zm_I M 22 (am + a) j := fun a p q => (hf.2 22 a (.inr rfl) p q).2
  have f : ∀ j, zm_I M' 12 am j = zm_I M 12 am j := fun j => (hf.1 j).1
  obtain ⟨h1, h2, ⟨a1, a2, a3, a4⟩, h4, h5, h6⟩ := h
  have hl := ml_ag h1 hf
  refine ⟨hl, ⟨by rw [f]; exact h2.1, fun i b hb => by rw [q2 1 (by omega) (by omega)]; exact h2.2 i b hb⟩, ⟨by rw [f]; exact a1, a2, hl, fun r hr => ⟨(a4 r hr).1, hl, me_ag (a4 r hr).2.2 hf⟩⟩, ⟨by rw [f]; exact h4.1, fun i x hx => ?_⟩, ?_, by rw [f]; exact h6⟩
  · rw [q 12 (by omega) (by omega), q 12 (by omega) (by omega), q 12 (by omega) (by omega), q 12 (by omega) (by omega)]
    exact h4.2 i x hx
  · cases hr : S.2.2.2 with
    | none =>
      rw [hr] at h5
      show zm_I M' 12 am 40 = 0
      rw [f]
      exact h5
    | some x =>
      rw [hr] at h5
      obtain ⟨b0, b1, b2, b3, b4, b5, b6, b7, b8, b9, b10, b11⟩ := h5
      refine ⟨by rw [f]; exact b0, by rw [f]; exact b1, by rw [f]; exact b2, by rw [f]; exact b3, by rw [f]; exact b4, by rw [f]; exact b5, by rw [f]; exact b6, by rw [f]; exact b7, ⟨fun i y hy => by rw [q 27 (by omega) (by omega)]; exact b8.1 i y hy, b8.2⟩, fun i p hp => ?_, fun c hc => ?_, fun a ha => ?_⟩
      · rw [q 28 (by omega) (by omega), q 29 (by omega) (by omega)]
        exact b9 i p hp
      · rw [q 30 (by omega) (by omega)]
        exact b10 c hc
      · rw [q 30 (by omega) (by omega)]
        exact b11 a ha
theorem mk_zh {ac : Nat} (hf : zh (cC_W ac) M M') (ha : am = ac + 242) (hn : am + 34 ≤ zm_n M) : mk_ag am M M' := by
  refine ⟨fun j => ⟨zh_I hf (by omega) (fun w => by unfold cC_W at w; omega), zh_R hf (by omega) (fun w => by unfold cC_W at w; omega)⟩, fun t a ht h1 h2 => ⟨zh_L hf (by omega), fun j => zh_I hf (by omega) (fun w => by unfold cC_W at w; omega)⟩⟩
end
/-- what the kinds of cells say of references -/
def kw (ac am : Nat) (M : zM) : Prop := zm_K M ac = 12 ∧ zm_K M am = 13 ∧ (∀ k j r, zm_K M k = 12 → (j = 2 ∨ j = 3) → zm_R M 11 k j = some r → zm_K M r = 7) ∧ (∀ k r, zm_K M k = 7 → zm_R M 6 k 2 = some r → zm_K M r = 25) ∧ (∀ k j r, zm_K M k = 25 → zm_R M 24 k j = some r → zm_K M r = 4) ∧ (∀ k r, zm_K M k = 4 → zm_R M 3 k 15 = some r → zm_K M r = 22) ∧ (∀ k r, zm_K M k = 13 → (zm_R M 12 k 1 = some r ∨ zm_R M 12 k 5 = some r ∨ zm_R M 12 k 6 = some r ∨ zm_R M 12 k 7 = some r ∨ zm_R M 12 k 8 = some r ∨ zm_R M 12 k 9 = some r ∨ zm_R M 12 k 10 = some r ∨ zm_R M 12 k 11 = some r ∨ zm_R M 12 k 12 = some r ∨ zm_R M 12 k 13 = some r ∨ zm_R M 12 k 14 = some r ∨ zm_R M 12 k 18 = some r ∨ zm_R M 12 k 19 = some r ∨ zm_R M 12 k 22 = some r ∨ zm_R M 12 k 23 = some r ∨ zm_R M 12 k 24 = some r ∨ zm_R M 12 k 25 = some r ∨ zm_R M 12 k 27 = some r ∨ zm_R M 12 k 29 = some r ∨ zm_R M 12 k 30 = some r ∨ zm_R M 12 k 32 = some r ∨ zm_R M 12 k 33 = some r ∨ zm_R M 12 k 34 = some r ∨ zm_R M 12 k 37 = some r ∨ zm_R M 12 k 38 = some r ∨ zm_R M 12 k 39 = some r ∨ zm_R M 12 k 48 = some r ∨ zm_R M 12 k 49 = some r ∨ zm_R M 12 k 50 = some r ∨ zm_R M 12 k 51 = some r ∨ zm_R M 12 k 52 = some r ∨ zm_R M 12 k 56 = some r ∨ zm_R M 12 k 60 = some r) → zm_K M r = 21 ∨ zm_K M r = 23)
section
variable {ac am N0 S0 : Nat} {M M' : zM} {S : yZ} {g : yG2}
theorem kw_row (hk : kw ac am M) (hl : ml_ok am M) {a : Nat} (h1 : 1 ≤ a) (h2 : a ≤ 33) : zm_K M (am + a) = 21 ∨ zm_K M (am + a) = 23 := by
  obtain ⟨_, k2, _, _, _, _, k7⟩ := hk
  obtain ⟨⟨r1, _⟩, ⟨r2, _⟩, ⟨r3, _⟩, ⟨r4, _⟩, ⟨r5, _⟩, ⟨r6, _⟩, ⟨r7, _⟩, ⟨r8, _⟩, ⟨r9, _⟩, ⟨r10, _⟩, ⟨r11, _⟩, ⟨r12, _⟩, ⟨r13, _⟩, ⟨r14, _⟩, ⟨r15, _⟩, ⟨r16, _⟩, ⟨r17, _⟩, ⟨r18, _⟩, ⟨r19, _⟩, ⟨r20, _⟩, ⟨r21, _⟩, ⟨r22, _⟩, ⟨r23, _⟩, ⟨r24, _⟩, ⟨r25, _⟩, ⟨r26, _⟩, ⟨r27, _⟩, ⟨r28, _⟩, ⟨r29, _⟩, ⟨r30, _⟩, ⟨r31, _⟩, ⟨r32, _⟩, ⟨r33, _⟩⟩ := hl
  have ha : a = 1 ∨ a = 2 ∨ a = 3 ∨ a = 4 ∨ a = 5 ∨ a = 6 ∨ a = 7 ∨ a = 8 ∨ a = 9 ∨ a = 10 ∨ a = 11 ∨ a = 12 ∨ a = 13 ∨ a = 14 ∨ a = 15 ∨ a = 16 ∨ a = 17 ∨ a = 18 ∨ a = 19 ∨ a = 20 ∨ a = 21 ∨ a = 22 ∨ a = 23 ∨ a = 24 ∨ a = 25 ∨ a = 26 ∨ a = 27 ∨ a = 28 ∨ a = 29 ∨ a = 30 ∨ a = 31 ∨ a = 32 ∨ a = 33 := by omega
  rcases ha with e | e | e | e | e | e | e | e | e | e | e | e | e | e | e | e | e | e | e | e | e | e | e | e | e | e | e | e | e | e | e | e | e <;> subst e
  · exact k7 am _ k2 (.inl r1)
  · exact k7 am _ k2 (.inr (.inl r2))
  · exact k7 am _ k2 (.inr (.inr (.inl r3)))
  · exact k7 am _ k2 (.inr (.inr (.inr (.inl r4))))
  · exact k7 am _ k2 (.inr (.inr (.inr (.inr (.inl r5)))))
  · exact k7 am _ k2 (.inr (.inr (.inr (.inr (.inr (.inl r6))))))
  · exact k7 am _ k2 (.inr (.inr (.inr (.inr (.inr (.inr (.inl r7)))))))
  · exact k7 am _ k2 (.inr (.inr (.inr (.inr (.inr (.inr (.inr (.inl r8))))))))
  · exact k7 am _ k2 (.inr (.inr (.inr (.inr (.inr (.inr (.inr (.inr (.inl r9)))))))))
  · exact k7 am _ k2 (.inr (.inr (.inr (.inr (.inr (.inr (.inr (.inr (.inr (.inl r10))))))))))
  · exact k7 am _ k2 (.inr (.inr (.inr (.inr (.inr (.inr (.inr (.inr (.inr (.inr (.inl r11)))))))))))
  · exact k7 am _ k2 (.inr (.inr (.inr (.inr (.inr (.inr (.inr (.inr (.inr (.inr (.inr (.inl r12))))))))))))
  · exact k7 am _ k2 (.inr (.inr (.inr (.inr (.inr (.inr (.inr (.inr (.inr (.inr (.inr (.inr (.inl r13)))))))))))))
  · exact k7 am _ k2 (.inr (.inr (.inr (.inr (.inr (.inr (.inr (.inr (.inr (.inr (.inr (.inr (.inr (.inl r14))))))))))))))
  · exact k7 am _ k2 (.inr (.inr (.inr (.inr (.inr (.inr (.inr (.inr (.inr (.inr (.inr (.inr (.inr (.inr (.inl r15)))))))))))))))
  · exact k7 am _ k2 (.inr (.inr (.inr (.inr (.inr (.inr (.inr (.inr (.inr (.inr (.inr (.inr (.inr (.inr (.inr (.inl r16))))))))))))))))
  · exact k7 am _ k2 (.inr (.inr (.inr (.inr (.inr (.inr (.inr (.inr (.inr (.inr (.inr (.inr (.inr (.inr (.inr (.inr (.inl r17)))))))))))))))))
  · exact k7 am _ k2 (.inr (.inr (.inr (.inr (.inr (.inr (.inr (.inr (.inr (.inr (.inr (.inr (.inr (.inr (.inr (.inr (.inr (.inl r18))))))))))))))))))
  · exact k7 am _ k2 (.inr (.inr (.inr (.inr (.inr (.inr (.inr (.inr (.inr (.inr (.inr (.inr (.inr (.inr (.inr (.inr (.inr (.inr (.inl r19)))))))))))))))))))
  · exact k7 am _ k2 (.inr (.inr (.inr (.inr (.inr (.inr (.inr (.inr (.inr (.inr (.inr (.inr (.inr (.inr (.inr (.inr (.inr (.inr (.inr (.inl r20))))))))))))))))))))
  · exact k7 am _ k2 (.inr (.inr (.inr (.inr (.inr (.inr (.inr (.inr (.inr (.inr (.inr (.inr (.inr (.inr (.inr (.inr (.inr (.inr (.inr (.inr (.inl r21)))))))))))))))))))))
  · exact k7 am _ k2 (.inr (.inr (.inr (.inr (.inr (.inr (.inr (.inr (.inr (.inr (.inr (.inr (.inr (.inr (.inr (.inr (.inr (.inr (.inr (.inr (.inr (.inl r22))))))))))))))))))))))
  · exact k7 am _ k2 (.inr (.inr (.inr (.inr (.inr (.inr (.inr (.inr (.inr (.inr (.inr (.inr (.inr (.inr (.inr (.inr (.inr (.inr (.inr (.inr (.inr (.inr (.inl r23)))))))))))))))))))))))
  · exact k7 am _ k2 (.inr (.inr (.inr (.inr (.inr (.inr (.inr (.inr (.inr (.inr (.inr (.inr (.inr (.inr (.inr (.inr (.inr (.inr (.inr (.inr (.inr (.inr (.inr (.inl r24))))))))))))))))))))))))
  · exact k7 am _ k2 (.inr (.inr (.inr (.inr (.inr (.inr (.inr (.inr (.inr (.inr (.inr (.inr (.inr (.inr (.inr (.inr (.inr (.inr (.inr (.inr (.inr (.inr (.inr (.inr (.inl r25)))))))))))))))))))))))))
  · exact k7 am _ k2 (.inr (.inr (.inr (.inr (.inr (.inr (.inr (.inr (.inr (.inr (.inr (.inr (.inr (.inr (.inr (.inr (.inr (.inr (.inr (.inr (.inr (.inr (.inr (.inr (.inr (.inl r26))))))))))))))))))))))))))
  · exact k7 am _ k2 (.inr (.inr (.inr (.inr (.inr (.inr (.inr (.inr (.inr (.inr (.inr (.inr (.inr (.inr (.inr (.inr (.inr (.inr (.inr (.inr (.inr (.inr (.inr (.inr (.inr (.inr (.inl r27)))))))))))))))))))))))))))
  · exact k7 am _ k2 (.inr (.inr (.inr (.inr (.inr (.inr (.inr (.inr (.inr (.inr (.inr (.inr (.inr (.inr (.inr (.inr (.inr (.inr (.inr (.inr (.inr (.inr (.inr (.inr (.inr (.inr (.inr (.inl r28))))))))))))))))))))))))))))
  · exact k7 am _ k2 (.inr (.inr (.inr (.inr (.inr (.inr (.inr (.inr (.inr (.inr (.inr (.inr (.inr (.inr (.inr (.inr (.inr (.inr (.inr (.inr (.inr (.inr (.inr (.inr (.inr (.inr (.inr (.inr (.inl r29)))))))))))))))))))))))))))))
  · exact k7 am _ k2 (.inr (.inr (.inr (.inr (.inr (.inr (.inr (.inr (.inr (.inr (.inr (.inr (.inr (.inr (.inr (.inr (.inr (.inr (.inr (.inr (.inr (.inr (.inr (.inr (.inr (.inr (.inr (.inr (.inr (.inl r30))))))))))))))))))))))))))))))
  · exact k7 am _ k2 (.inr (.inr (.inr (.inr (.inr (.inr (.inr (.inr (.inr (.inr (.inr (.inr (.inr (.inr (.inr (.inr (.inr (.inr (.inr (.inr (.inr (.inr (.inr (.inr (.inr (.inr (.inr (.inr (.inr (.inr (.inl r31)))))))))))))))))))))))))))))))
  · exact k7 am _ k2 (.inr (.inr (.inr (.inr (.inr (.inr (.inr (.inr (.inr (.inr (.inr (.inr (.inr (.inr (.inr (.inr (.inr (.inr (.inr (.inr (.inr (.inr (.inr (.inr (.inr (.inr (.inr (.inr (.inr (.inr (.inr (.inl r32))))))))))))))))))))))))))))))))
  · exact k7 am _ k2 (.inr (.inr (.inr (.inr (.inr (.inr (.inr (.inr (.inr (.inr (.inr (.inr (.inr (.inr (.inr (.inr (.inr (.inr (.inr (.inr (.inr (.inr (.inr (.inr (.inr (.inr (.inr (.inr (.inr (.inr (.inr (.inr r33))))))))))))))))))))))))))))))))
/-- nodes are no rows of the model -/
theorem kw_nds (hk : kw ac am M) (hI : cI ac N0 S0 M S g) {k : Nat} (hn : nds g.2.1 g.2.2.1 k ∨ nds g.2.2.2.1 g.2.2.2.2 k) : zm_K M k = 4 ∨ zm_K M k = 22 := by
  obtain ⟨k1, _, k3, k4, k5, k6, _⟩ := hk
  obtain ⟨_, ⟨⟨_, o2, o3, _⟩, _⟩, _, ⟨hS, hcp, _⟩, ⟨hws, hcps⟩, _⟩ := hI
  have go : ∀ (b j : Nat) (pa : Nat → Nat) (pn : Nat), (j = 2 ∨ j = 3) → zm_R M 11 ac j = some b → cw_rs M b → cp_x M b pa pn → nds pa pn k → zm_K M k = 4 ∨ zm_K M k = 22 := by
    intro b j pa pn hj hb hr hp ⟨i, hi, hki⟩
    have e1 := k3 ac j b k1 hj hb
    have e2 := k4 b _ e1 hr.2.1.1
    obtain ⟨p1, _, p3, _⟩ := hp.2.1 i hi
    have e3 := k5 _ i _ e2 p1
    have e4 := k6 _ _ e3 p3
    rcases hki with e | e
    · rw [e]; exact .inl e3
    · rw [e]; exact .inr e4
  rcases hn with hn | hn
  · exact go _ 2 _ _ (.inl rfl) o2 hS.1 hcp hn
  · exact go _ 3 _ _ (.inr rfl) o3 hws hcps hn
theorem cI_ag {N1 S1 : Nat} (hI : cI ac N0 S0 M S g) (hz : zz_ok S) (hf : ag (fun k => rg ac (ac + 242) k ∨ nds g.2.1 g.2.2.1 k ∨ nds g.2.2.2.1 g.2.2.2.2 k) M M') (hn : zm_n M' = N1 + 2 * (g.2.2.1 + g.2.2.2.2)) (hs : zm_s M' = S1 + 21 * (g.2.2.1 + g.2.2.2.2)) : cI ac N1 S1 M' S g := by
  obtain ⟨hg, ⟨⟨o0, o2, o3, o4, o5, o6, o7, o8, o9, o10, o11, o12, o13⟩, o1⟩, hT, ⟨hS, hcp, hdm⟩, ⟨hws, hcps⟩, ⟨hdx, hdh, hdy⟩, hdl, ⟨l1, l2, l3, l4, l5, l6, l7⟩, hrd, ⟨c1, c2, c3, c4⟩, hn0⟩ := hI
  obtain ⟨g1, g2, g3, g4, g5⟩ := hg
  have fr : ∀ lo hi, ac ≤ lo → hi ≤ ac + 242 → ag (rg lo hi) M M' := fun lo hi h1 h2 => ag_mono hf (fun k hk => .inl ⟨by have := hk.1; omega, by have := hk.2; omega⟩)
  have ra : rg ac (ac + 242) ac := ⟨by omega, by omega⟩
  have eR : ∀ j, zm_R M' 11 ac j = zm_R M 11 ac j := fun j => ag_R hf (.inl ra)
  have eI : ∀ j, zm_I M' 11 ac j = zm_I M 11 ac j := fun j => ag_I hf (.inl ra)
  refine ⟨⟨g1, g2, g3, g4, g5⟩, ⟨⟨?_, ?_, ?_, ?_, ?_, ?_, ?_, ?_, ?_, ?_, ?_, ?_, ?_⟩, ?_⟩, ct_ag hT (fr _ _ (by omega) (by omega)), ⟨?_, ?_, hdm⟩, ⟨rs_ag hws (fr _ _ (by omega) (by omega)), ?_⟩, ⟨dx_ag hdx (fr _ _ (by omega) (by omega)), dh_ag hdh (fr _ _ (by omega) (by omega)), hdy⟩, dl_ag hdl (fr _ _ (by omega) (by omega)), ⟨lp_ag l1 (fr _ _ (by omega) (by omega)), wy_ag l2 (fr _ _ (by omega) (by omega)), sl_ag l3 (fr _ _ (by omega) (by omega)), wtl_ag l4 (fr _ _ (by omega) (by omega)), wtl_ag l5 (fr _ _ (by omega) (by omega)), wkl_ag l6 (fr _ _ (by omega) (by omega)), dil_ag l7 (fr _ _ (by omega) (by omega))⟩, rdc_ag hrd (fr _ _ (by omega) (by omega)), ⟨kU_ag c1 (fr _ _ (by omega) (by omega)), kC_ag c2 (fr _ _ (by omega) (by omega)), kS_ag c3 (eI 14) (fr _ _ (by omega) (by omega)), kD_ag c4 (fr _ _ (by omega) (by omega))⟩, Nat.le_trans hn0.1 hf.1, hn, hs⟩
  all_goals first | (rw [eR]; assumption) | (rw [eI]; assumption) | skip
  · refine cS_ag hz.2.2.1 (fun r hr n hn => (hdm r hr n hn).1) hS (ag_mono hf ?_)
    rintro k (hk | hk)
    · exact .inl ⟨by have := hk.1; omega, by have := hk.2; omega⟩
    · exact .inr (.inl hk)
  · refine cp_ag hcp (ag_mono hf ?_)
    rintro k (hk | hk)
    · exact .inl ⟨by have := hk.1; omega, by have := hk.2; omega⟩
    · exact .inr (.inl hk)
  · refine cp_ag hcps (ag_mono hf ?_)
    rintro k (hk | hk)
    · exact .inl ⟨by have := hk.1; omega, by have := hk.2; omega⟩
    · exact .inr (.inr hk)
theorem cI_mg {F A : List Nat} (hI : cI ac N0 S0 M S g) (hz : zz_ok S) (hl : ml_ok am M) (hk : kw ac am M) (ha : am = ac + 242) (hA : ∀ a, a ∈ A → 1 ≤ a ∧ a ≤ 33) (hf : zf (mg am F A) M M') : cI ac N0 S0 M' S g := by
  have hn := hI.2.2.2.2.2.2.2.2.2.2
  refine cI_ag hI hz ?_ (by rw [hf.2.2.2.2.1]; exact hn.2.1) (by rw [hf.2.2.2.2.2.1]; exact hn.2.2)
  refine ag_zf hf ?_
  intro t k j hk' hw
  have hno : (∃ a, a ≤ 33 ∧ k = am + a) := by
    rcases hw with ⟨_, hw, _⟩ | ⟨_, i, hi, hw⟩
    · exact ⟨0, by omega, by omega⟩
    · exact ⟨i, (hA i hi).2, hw⟩
  obtain ⟨a, h33, rfl⟩ := hno
  rcases hk' with hk' | hk'
  · have := hk'.2
    omega
  · have e1 := kw_nds hk hI hk'
    by_cases q : a = 0
    · subst q
      have := hk.2.1
      rw [Nat.add_zero] at e1
      omega
    · have := kw_row hk hl (a := a) (by omega) h33
      omega
end
