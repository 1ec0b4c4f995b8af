/-! THE CLASS: the witness is sought -/
def wv_W (wy sp wi t k j : Nat) : Prop := wy_W wy t k j ∨ ww_W wi sp t k j ∨ wo_W wi t k j
/-- while the witness is sought -/
def ws_i (M : zM) (pa : Nat → Nat) (Q : Nat) (P : yP) (wy sp wi : Nat) (x : Option yB) (k : Nat) : Prop := wS M pa Q P wy ∧ sl_l M sp ∧ wt_x M wi x ∧ wt_c M wi P x ∧ ∀ b, x = some b → py_oi b.1 ≤ k
section
variable {M M' : zM} {pa : Nat → Nat} {P : yP} {d wy sp wi Q : Nat} {x : Option yB}
theorem wS_ww (hP : py_ok P) (h : wS M pa Q P wy) (hf : zr (ww_W wi sp) M M') (hs : wy + 5 ≤ sp) (hwi : sp + 4 ≤ wi) : wS M' pa Q P wy := by
  have hq := h.2.2
  refine ⟨cX_ww hP h.1 hf (by omega) hwi, ?_, hq⟩
  have n9 : ∀ j, ¬ ww_W wi sp 9 wy j := by rintro j (⟨e, _⟩ | ⟨e, _⟩ | ⟨⟨e, _⟩ | ⟨e, _⟩ | ⟨e, _⟩, _⟩) <;> cases e
  unfold wy_l
  rw [zr_R hf (n9 0), zr_R hf (n9 1), zr_R hf (n9 2), zr_R hf (n9 3), zr_L hf]
  exact h.2.1
theorem wkh_ww {l : List yK} (h : wk_h M wy l) (hf : zr (ww_W wi sp) M M') (hs : wy + 5 ≤ sp) (hwi : sp + 4 ≤ wi) : wk_h M' wy l := by
  have n9 : ∀ j, ¬ ww_W wi sp 9 wy j := by rintro j (⟨e, _⟩ | ⟨e, _⟩ | ⟨⟨e, _⟩ | ⟨e, _⟩ | ⟨e, _⟩, _⟩) <;> cases e
  have n20 : ∀ i j, i ≤ 4 → ¬ ww_W wi sp 20 (wy + i) j := by
    rintro i j hi (⟨e, _⟩ | ⟨_, e⟩ | ⟨⟨e, _⟩ | ⟨_, e⟩ | ⟨e, _⟩, _⟩)
    · cases e
    · omega
    · cases e
    · omega
    · cases e
  refine ⟨by rw [zr_I hf (n9 4)]; exact h.1, h.2.1, ?_⟩
  intro i y hy
  rw [zr_I hf (n20 1 i (by omega)), zr_I hf (n20 2 i (by omega)), zr_I hf (n20 3 i (by omega)), zr_I hf (n20 4 i (by omega))]
  exact h.2.2 i y hy
theorem wS_wo (hP : py_ok P) (h : wS M pa Q P wy) (hf : zf (wo_W wi) M M') : wS M' pa Q P wy := by
  refine ⟨cX_zf h.1 hf ?_ ?_ ?_ ?_, wl_zf h.2.1 hf, h.2.2⟩
  · rintro k j ⟨e, _⟩; cases e
  · rintro k j ⟨e, _⟩; cases e
  · rintro j _ ⟨e, _⟩; cases e
  · rintro i j _ ⟨e, _⟩; cases e
theorem wkh_wo {l : List yK} (h : wk_h M wy l) (hf : zf (wo_W wi) M M') : wk_h M' wy l := by
  have n9 : ∀ t k j, t ≠ 10 → ¬ wo_W wi t k j := fun t k j ht w => ht w.1
  refine ⟨by rw [hf.2.2.2.2.2.2 _ _ _ (n9 9 _ _ (by omega))]; exact h.1, h.2.1, ?_⟩
  intro i y hy
  rw [hf.2.2.2.2.2.2 _ _ _ (n9 20 _ _ (by omega)), hf.2.2.2.2.2.2 _ _ _ (n9 20 _ _ (by omega)), hf.2.2.2.2.2.2 _ _ _ (n9 20 _ _ (by omega)), hf.2.2.2.2.2.2 _ _ _ (n9 20 _ _ (by omega))]
  exact h.2.2 i y hy
theorem new_v (P : yP) (p : Option Nat) (V W : yW) : (py_new P p V W).1 = p ∧ (py_new P p V W).2.2.2 = py_tx P p V W ∧ (py_new P p V W).2.1 = (if py_sw V W then (W.1, W.2.1) else (V.1, V.2.1)) ∧ (py_new P p V W).2.2.1 = (if py_sw V W then (V.1, V.2.1) else (W.1, W.2.1)) := by
  unfold py_new
  split
  · exact ⟨rfl, rfl, rfl, rfl⟩
  · exact ⟨rfl, rfl, rfl, rfl⟩
theorem sw_v {V W : yW} (h1 : py_oi V.2.1 < 16) (h2 : py_oi W.2.1 < 16) : py_sw V W = true ↔ py_cdn W < py_cdn V := by
  unfold py_sw py_cdn
  rw [Bool.or_eq_true, Bool.and_eq_true, decide_eq_true_eq, decide_eq_true_eq, beq_iff_eq]
  omega
theorem cl_seek_100 (hP : py_ok P) (hs : wy + 5 ≤ sp) (hwi : sp + 4 ≤ wi) (hd : 72 ≤ d) {b : Option Nat} (hb : ∀ o, b = some o → o < py_nl P) {i j : Nat} {V W : yK} (hV : (py_cw P b)[j]? = some V) (hW : (py_cw P b)[i]? = some W) (h : ws_i M pa Q P wy sp wi x (py_oi b)) (hl : wk_h M wy (py_cw P b)) : ∃ M', ((wy_enoughOf d wy (nI i) (nI j) M).bind fun q3 => ((wy_overOf d wy (nI i) (nI j) q3.2).bind fun q5 => ((wi_weigh d wi (some Q) (zo b) q3.1 q5.1 (some sp) q5.2).bind fun q7 => ((wy_lowerOf d wy (nI i) (nI j) q7).bind fun q9 => ((wy_higherOf d wy (nI i) (nI j) q9.2).bind fun q11 => wi_offer d wi (zo b) q9.1 q11.1 q11.2))))) = some M' ∧ ws_i M' pa Q P wy sp wi (py_try P b x V.1 W.1) (py_oi b) ∧ wk_h M' wy (py_cw P b) ∧ zr (wv_W wy sp wi) M M' := by
  obtain ⟨hS, hsl, hx, hc, hk⟩ := h
  have hVm := List.mem_of_getElem? hV
  have hWm := List.mem_of_getElem? hW
  have kV := cw_kok hP hb hVm
  have kW := cw_kok hP hb hWm
  have hnl := ok_nl hP
  have hnc := ok_nc hP
  obtain ⟨tx1, tx2⟩ := txb_tx hP hb hWm hVm
  have oiV : py_oi V.1.2.1 < 16 := by
    cases hv : V.1.2.1 with
    | none => exact Nat.succ_pos _
    | some c => have := kV.2 c hv; show c + 1 < 16; omega
  have oiW : py_oi W.1.2.1 < 16 := by
    cases hv : W.1.2.1 with
    | none => exact Nat.succ_pos _
    | some c => have := kW.2 c hv; show c + 1 < 16; omega
  have ob : py_oi b ≤ 16 := by
    cases hb' : b with
    | none => exact Nat.zero_le _
    | some o => have := hb o hb'; show o + 1 ≤ 16; omega
  obtain ⟨M1, a1, a2, a3, a4, a5, a6, a7, a8⟩ := cl_weigh (d := d) (en := W.2.1 ||| V.2.1) (ov := W.2.2.1 ||| V.2.2.1) hP (by have := hS.2.2; omega) hwi hd hS.1 hsl hx hc tx2 hb
  have hS1 := wS_ww hP hS a8 hs hwi
  have hl1 := wkh_ww hl a8 hs hwi
  have n10 : ∀ j, j ≤ 4 → ¬ ww_W wi sp 10 wi j := by
    rintro j hj (⟨_, _, e⟩ | ⟨e, _⟩ | ⟨⟨e, _⟩ | ⟨e, _⟩ | ⟨e, _⟩, _⟩)
    · omega
    · cases e
    · cases e
    · cases e
    · cases e
  obtain ⟨n1, n2, n3, n4⟩ := new_v P b V.1 W.1
  have hswap : py_tx P b W.1 V.1 = py_tx P b V.1 W.1 := by
    have h2 := (txb_tx hP hb hVm hWm).1
    rw [← tx1, ← h2, Int32.or_comm W.2.1, Int32.or_comm W.2.2.1]
  have low : py_c2 (py_new P b V.1 W.1).2.1 = min (py_cdn W.1) (py_cdn V.1) ∧ py_c2 (py_new P b V.1 W.1).2.2.1 = max (py_cdn W.1) (py_cdn V.1) := by
    rw [n3, n4]
    by_cases q : py_sw V.1 W.1 = true
    · rw [if_pos q, if_pos q]
      have h1 := (sw_v oiV oiW).mp q
      rw [Nat.min_eq_left (by omega), Nat.max_eq_right (by omega)]
      exact ⟨rfl, rfl⟩
    · rw [if_neg q, if_neg q]
      have h1 : ¬ py_cdn W.1 < py_cdn V.1 := fun h => q ((sw_v oiV oiW).mpr h)
      rw [Nat.min_eq_right (by omega), Nat.max_eq_left (by omega)]
      exact ⟨rfl, rfl⟩
  have bnd : ((py_new P b V.1 W.1).2.1.1 < 16 ∧ py_oi (py_new P b V.1 W.1).2.1.2 < 16) ∧ ((py_new P b V.1 W.1).2.2.1.1 < 16 ∧ py_oi (py_new P b V.1 W.1).2.2.1.2 < 16) := by
    rw [n3, n4]
    have h1 := kV.1
    have h2 := kW.1
    split
    · exact ⟨⟨by show W.1.1 < 16; omega, oiW⟩, ⟨by show V.1.1 < 16; omega, oiV⟩⟩
    · exact ⟨⟨by show V.1.1 < 16; omega, oiV⟩, ⟨by show W.1.1 < 16; omega, oiW⟩⟩
  obtain ⟨M2, c1, c2, c3, c4⟩ := cl_offer (d := d) (P := P) (p := b) (en := W.2.1 ||| V.2.1) (ov := W.2.2.1 ||| V.2.2.1) (x := x) (y := py_new P b V.1 W.1) (by rw [n2, tx1, hswap]) n1 ob bnd.1 bnd.2 a2 (by rw [zr_I a8 (n10 1 (by omega))]; exact hx.2.1) (by
    intro b' hb'
    obtain ⟨k1, k2, k3, k4, k5, k6, k7⟩ := hx.2.2 b' hb'
    rw [zr_I a8 (n10 2 (by omega)), zr_I a8 (n10 3 (by omega)), zr_I a8 (n10 4 (by omega))]
    exact ⟨k1, k2, k3, hk b' hb', k6, k7⟩) a3 a4 a5 a6
  have ht : py_try P b x V.1 W.1 = if py_btr x (py_new P b V.1 W.1) then some (py_new P b V.1 W.1) else x := rfl
  rw [low.1, low.2] at c1
  refine ⟨M2, ?_, ⟨wS_wo hP hS1 c4, sll_zf a7 c4, by rw [ht]; exact c2, by rw [ht]; exact c3, ?_⟩, wkh_wo hl1 c4, zr_trans (zr_mono a8 (fun t k j w => .inr (.inl w))) (zr_mono (zr_zf c4) (fun t k j w => .inr (.inr w)))⟩
  · rw [cl_enoughOf (d := d) hS.2.1 hl hW hV, Option.bind_some, cl_overOf (d := d) hS.2.1 hl hW hV, Option.bind_some, a1, Option.bind_some, cl_lowerOf (d := d) hP hS1.2.1 hl1 hW hV kW kV, Option.bind_some, cl_higherOf (d := d) hP hS1.2.1 hl1 hW hV kW kV, Option.bind_some]
    exact c1
  · intro b' hb'
    rw [ht] at hb'
    split at hb'
    · injection hb' with hb'
      rw [← hb', n1]
      exact Nat.le_refl _
    · exact hk b' hb'
theorem cl_seek_66 (hP : py_ok P) (hs : wy + 5 ≤ sp) (hwi : sp + 4 ≤ wi) (hd : 72 ≤ d) {unc : Bool} {b : Option Nat} (hb : ∀ o, b = some o → o < py_nl P) (kl35 : Nat → Option Nat → Int32 → Option Nat → Option Nat → Int32 → zM → Option zM) (kl54 : Nat → Option Nat → Int32 → Option Nat → Option Nat → Int32 → Int32 → zM → Option zM) {j : Nat} {V : yK} (hV : (py_cw P b)[j]? = some V) : ∀ (u a : List yK) (M : zM) (x : Option yB), (py_cw P b).take j = a ++ u → ws_i M pa Q P wy sp wi x (py_oi b) → wk_h M wy (py_cw P b) → ∀ fuel, u.length < fuel → ∃ M', wi_seek_66 kl35 kl54 d fuel wi (some Q) (zb unc) (some wy) (some sp) (zo b) (nI j) (nI a.length) M = kl54 wi (some Q) (zb unc) (some wy) (some sp) (zo b) (nI (j + 1)) M' ∧ ws_i M' pa Q P wy sp wi (u.foldl (fun x W => py_fw1 P unc b x V.1 W.1) x) (py_oi b) ∧ wk_h M' wy (py_cw P b) ∧ zr (wv_W wy sp wi) M M' := by
  have hjl := (List.getElem?_eq_some_iff.mp hV).1
  have hVm := List.mem_of_getElem? hV
  have kV := cw_kok hP hb hVm
  intro u
  induction u with
  | nil =>
    intro a M x e h hl fuel hf
    have hal := congrArg List.length e
    rw [List.append_nil, List.length_take] at hal
    have h48 := hl.2.1
    cases fuel with
    | zero => cases hf
    | succ fuel =>
      refine ⟨M, ?_, h, hl, zr_refl _ _⟩
      rw [wi_seek_66, if_pos ((le_i2 (by omega) (by omega)).mpr (by omega))]
      simp only [zlet, nI_1]
  | cons W u ih =>
    intro a M x e h hl fuel hf
    have hal := congrArg List.length e
    rw [List.length_take, List.length_append, List.length_cons] at hal
    have h48 := hl.2.1
    rw [List.length_cons] at hf
    cases fuel with
    | zero => cases hf
    | succ fuel =>
      have hW : (py_cw P b)[a.length]? = some W := by
        have h1 : ((py_cw P b).take j)[a.length]? = some W := by rw [e]; simp
        rw [List.getElem?_take_of_lt (by omega)] at h1
        exact h1
      have hWm := List.mem_of_getElem? hW
      have kW := cw_kok hP hb hWm
      have hel : (a ++ [W]).length = a.length + 1 := by simp
      have hcl := cl_clash (d := d) hP (by omega) h.1 hl hW hV kW kV
      have hbo : py_clk P W V = py_both P b V.1 W.1 := by rw [clk_sy, clk_both hP hb hVm hWm]
      rw [hbo] at hcl
      have next : ∀ (M1 : zM) (x1 : Option yB), zr (wv_W wy sp wi) M M1 → ws_i M1 pa Q P wy sp wi x1 (py_oi b) → wk_h M1 wy (py_cw P b) → ∃ M', wi_seek_66 kl35 kl54 d fuel wi (some Q) (zb unc) (some wy) (some sp) (zo b) (nI j) (nI (a.length + 1)) M1 = kl54 wi (some Q) (zb unc) (some wy) (some sp) (zo b) (nI (j + 1)) M' ∧ ws_i M' pa Q P wy sp wi (u.foldl (fun x W => py_fw1 P unc b x V.1 W.1) x1) (py_oi b) ∧ wk_h M' wy (py_cw P b) ∧ zr (wv_W wy sp wi) M M' := by
        intro M1 x1 f1 h1 l1
        obtain ⟨M', q1, q2, q3, q4⟩ := ih (a ++ [W]) M1 x1 (by rw [e]; simp) h1 l1 fuel (by omega)
        rw [hel] at q1
        exact ⟨M', q1, q2, q3, zr_trans f1 q4⟩
      rw [wi_seek_66, if_neg (fun p => by have := (le_i2 (by omega) (by omega)).mp p; omega)]
      simp only [hcl, Option.bind_some, wi_seek_147, zlet, nI_1]
      rw [List.foldl_cons]
      have no : py_cf1 P unc b V.1 W.1 = false → py_fw1 P unc b x V.1 W.1 = x := by
        intro hc
        unfold py_fw1
        rw [hc]
        rfl
      have yes : py_cf1 P unc b V.1 W.1 = true → py_fw1 P unc b x V.1 W.1 = py_try P b x V.1 W.1 := by
        intro hc
        unfold py_fw1
        rw [hc]
        rfl
      have go : py_cf1 P unc b V.1 W.1 = true → ∃ M', wi_seek_100 kl35 kl54 (fun p0 p1 p2 p3 p4 p5 p6 p7 m => wi_seek_66 kl35 kl54 d fuel p0 p1 p2 p3 p4 p5 p6 p7 m) d wi (some Q) (zb unc) (some wy) (some sp) (zo b) (nI j) (nI a.length) M = kl54 wi (some Q) (zb unc) (some wy) (some sp) (zo b) (nI (j + 1)) M' ∧ ws_i M' pa Q P wy sp wi (u.foldl (fun x W => py_fw1 P unc b x V.1 W.1) (py_fw1 P unc b x V.1 W.1)) (py_oi b) ∧ wk_h M' wy (py_cw P b) ∧ zr (wv_W wy sp wi) M M' := by
        intro hc
        obtain ⟨M1, a1, a2, a3, a4⟩ := cl_seek_100 (d := d) hP hs hwi hd hb hV hW h hl
        rw [yes hc]
        obtain ⟨M2, q1, q2, q3, q4⟩ := next M1 _ a4 a2 a3
        refine ⟨M2, ?_, q2, q3, q4⟩
        rw [← q1]
        have bd : ∀ {α β : Type} (o : Option α) (f : α → Option β) (y : β), o.bind f = some y → ∃ z, o = some z ∧ f z = some y := by
          intro α β o f y ho
          cases o with
          | none => cases ho
          | some z => exact ⟨z, rfl, ho⟩
        obtain ⟨r1, s1, a1⟩ := bd _ _ _ a1
        obtain ⟨r2, s2, a1⟩ := bd _ _ _ a1
        obtain ⟨r3, s3, a1⟩ := bd _ _ _ a1
        obtain ⟨r4, s4, a1⟩ := bd _ _ _ a1
        obtain ⟨r5, s5, a1⟩ := bd _ _ _ a1
        unfold wi_seek_100 wi_seek_147
        simp only [s1, Option.bind_some, s2, s3, s4, s5, a1, zlet, nI_1]
      cases hbt : py_both P b V.1 W.1 with
      | false =>
        rw [if_pos (show zb false = 0 from rfl), no (by unfold py_cf1; rw [hbt, Bool.and_false])]
        exact next M x (zr_refl _ _) h hl
      | true =>
        rw [if_neg (show ¬ zb true = 0 by decide)]
        cases unc with
        | false =>
          rw [if_pos (show zb false = 0 from rfl)]
          exact go (by unfold py_cf1; rw [hbt]; rfl)
        | true =>
          rw [if_neg (show ¬ zb true = 0 by decide)]
          have hun := cl_isUnlike (d := d) hP (by omega) h.1 hl hW hV kW kV
          rw [hun, Option.bind_some]
          cases hu : (W.1.1 != V.1.1) with
          | false =>
            rw [if_pos (show zb false = 0 from rfl), no (by
              unfold py_cf1
              have : (V.1.1 != W.1.1) = false := by rw [bne_comm]; exact hu
              rw [this]
              rfl)]
            exact next M x (zr_refl _ _) h hl
          | true =>
            rw [if_neg (show ¬ zb true = 0 by decide)]
            exact go (by
              unfold py_cf1
              have : (V.1.1 != W.1.1) = true := by rw [bne_comm]; exact hu
              rw [this, hbt]
              rfl)
end
