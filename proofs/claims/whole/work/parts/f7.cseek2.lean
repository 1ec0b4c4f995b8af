/-! THE CLASS: the witness found -/
section
variable {M M' : zM} {pa : Nat → Nat} {P : yP} {d wy sp wi Q : Nat} {x : Option yB}
theorem cl_seek_54 (hP : py_ok P) (hs : wy + 5 ≤ sp) (hwi : sp + 4 ≤ wi) (hd : 72 ≤ d) {unc : Bool} {b : Option Nat} (hb : ∀ o, b = some o → o < py_nl P) (kl35 : Nat → Option Nat → Int32 → Option Nat → Option Nat → Int32 → zM → Option zM) : ∀ (t pre : List yK) (M : zM) (x : Option yB), py_cw P b = pre ++ t → ws_i M pa Q P wy sp wi x (py_oi b) → wk_h M wy (py_cw P b) → ∀ fuel, t.length < fuel → ∃ M', wi_seek_54 kl35 d fuel wi (some Q) (zb unc) (some wy) (some sp) (zo b) (nI pre.length) M = kl35 wi (some Q) (zb unc) (some wy) (some sp) (zo b + 1) M' ∧ ws_i M' pa Q P wy sp wi (py_pf (py_fw1 P unc b) (pre.map (fun x => x.1)) (t.map (fun x => x.1)) x) (py_oi b) ∧ zr (wv_W wy sp wi) M M' := by
  have hLF : zLF = 100000 := rfl
  intro t
  induction t with
  | nil =>
    intro pre M x e h hl fuel hf
    have hal := congrArg List.length e
    rw [List.append_nil] at hal
    have h48 := hl.2.1
    cases fuel with
    | zero => cases hf
    | succ fuel =>
      refine ⟨M, ?_, h, zr_refl _ _⟩
      rw [wi_seek_54]
      simp only [hl.1]
      rw [if_pos ((le_i2 (by omega) (by omega)).mpr (by omega))]
      rfl
  | cons V t ih =>
    intro pre M x e h hl fuel hf
    have hal := congrArg List.length e
    rw [List.length_append, List.length_cons] at hal
    rw [List.length_cons] at hf
    have h48 := hl.2.1
    cases fuel with
    | zero => cases hf
    | succ fuel =>
      have hV : (py_cw P b)[pre.length]? = some V := by rw [e]; simp
      have htk : (py_cw P b).take pre.length = [] ++ pre := by rw [e]; simp
      have hel : (pre ++ [V]).length = pre.length + 1 := by simp
      obtain ⟨M1, a1, a2, a3, a4⟩ := cl_seek_66 (d := d) (unc := unc) hP hs hwi hd hb kl35 (fun p0 p1 p2 p3 p4 p5 p6 m => wi_seek_54 kl35 d fuel p0 p1 p2 p3 p4 p5 p6 m) hV pre [] M x htk h hl zLF (by omega)
      obtain ⟨M2, b1, b2, b3⟩ := ih (pre ++ [V]) M1 _ (by rw [e]; simp) a2 a3 fuel (by omega)
      rw [hel] at b1
      refine ⟨M2, ?_, ?_, zr_trans a4 b3⟩
      · rw [wi_seek_54]
        simp only [hl.1]
        rw [if_neg (fun p => by have := (le_i2 (by omega) (by omega)).mp p; omega)]
        have a1 : wi_seek_66 kl35 (fun p0 p1 p2 p3 p4 p5 p6 m => wi_seek_54 kl35 d fuel p0 p1 p2 p3 p4 p5 p6 m) d zLF wi (some Q) (zb unc) (some wy) (some sp) (zo b) (nI pre.length) 0 M = wi_seek_54 kl35 d fuel wi (some Q) (zb unc) (some wy) (some sp) (zo b) (nI (pre.length + 1)) M1 := a1
        rw [a1]
        exact b1
      · rw [List.map_append] at b2
        have ef : ∀ (l : List yK) (x : Option yB), l.foldl (fun x W => py_fw1 P unc b x V.1 W.1) x = (l.map (fun x => x.1)).foldl (fun x W => py_fw1 P unc b x V.1 W) x := by
          intro l
          induction l with
          | nil => intro x; rfl
          | cons y l ihl => intro x; exact ihl _
        rw [ef] at b2
        exact b2
theorem oi_po (k : Nat) : py_oi (py_po k) = k := by
  cases k <;> rfl
theorem po_next (k : Nat) : zo (py_po k) + 1 = zo (py_po (k + 1)) := by
  cases k with
  | zero => rfl
  | succ k => exact nI_add k 1
theorem cl_seek_35 (hP : py_ok P) (hs : wy + 5 ≤ sp) (hwi : sp + 4 ≤ wi) (hd : 72 ≤ d) {unc : Bool} : ∀ (m k : Nat) (M : zM) (x : Option yB), k + m = py_nl P + 1 → ws_i M pa Q P wy sp wi x k → ∀ fuel, m < fuel → ∃ M', wi_seek_35 d fuel wi (some Q) (zb unc) (some wy) (some sp) (zo (py_po k)) M = some M' ∧ wt_x M' wi (py_fws P unc (List.range' k m) x) ∧ sl_l M' sp ∧ zr (wv_W wy sp wi) M M' := by
  have hLF : zLF = 100000 := rfl
  have hnl := ok_nl hP
  intro m
  induction m with
  | zero =>
    intro k M x e h fuel hf
    cases fuel with
    | zero => cases hf
    | succ fuel =>
      refine ⟨M, ?_, h.2.2.1, h.2.1, zr_refl _ _⟩
      have hn2 : zm_I M 5 Q 2 = nI (py_nl P) := h.1.1.2.2.1.2.2.2.1.1
      obtain ⟨k, rfl⟩ : ∃ k', k = k' + 1 := ⟨k - 1, by omega⟩
      have e2 : zo (py_po (k + 1)) = nI k := rfl
      rw [wi_seek_35]
      simp only [hn2]
      rw [e2, if_pos ((le_i2 (by omega) (by omega)).mpr (by omega))]
  | succ m ih =>
    intro k M x e h fuel hf
    cases fuel with
    | zero => cases hf
    | succ fuel =>
      have hn2 : zm_I M 5 Q 2 = nI (py_nl P) := h.1.1.2.2.1.2.2.2.1.1
      have hb : ∀ o, py_po k = some o → o < py_nl P := by
        intro o ho
        cases k with
        | zero => cases ho
        | succ k => injection ho with ho; omega
      have hlt : ¬ nI (py_nl P) ≤ zo (py_po k) := by
        cases k with
        | zero =>
          show ¬ nI (py_nl P) ≤ -1
          rw [fa_le, nI_toInt (by omega)]
          have : ((-1 : Int32)).toInt = -1 := by decide
          omega
        | succ k =>
          intro p
          have := (le_i2 (by omega) (by omega)).mp p
          omega
      obtain ⟨hS, hsl, hx, hc, hk⟩ := h
      obtain ⟨M1, a1, a2, a3⟩ := cl_wlist (d := d) hP (by omega) hb hS
      have hS1 := wS_zf hS a3
      have n10 : ∀ j, ¬ wy_W wy 10 wi j := by rintro j (⟨e, _⟩ | ⟨e, _⟩) <;> cases e
      have n20 : ∀ j, ¬ wy_W wy 20 (wi + 1) j := by
        rintro j (⟨e, _⟩ | ⟨_, e⟩)
        · cases e
        · omega
      have i10 : ∀ j, zm_I M1 10 wi j = zm_I M 10 wi j := fun j => a3.2.2.2.2.2.2 _ _ _ (n10 j)
      have hx1 : wt_x M1 wi x := by
        refine ⟨by unfold wt_l; rw [a3.1, a3.2.1]; exact hx.1, by rw [i10]; exact hx.2.1, ?_⟩
        intro b hb
        obtain ⟨k1, k2, k3, k4, k5⟩ := hx.2.2 b hb
        exact ⟨by rw [i10]; exact k1, by rw [i10]; exact k2, by rw [i10]; exact k3, wtt_zr k4 (zr_zf a3) (n10 _) n20, k5⟩
      have hc1 : wt_c M1 wi P x := by
        unfold wt_c
        rw [i10, i10, i10, i10, i10]
        exact hc
      have hi1 : ws_i M1 pa Q P wy sp wi x (py_oi (py_po k)) := ⟨hS1, sll_zf hsl a3, hx1, hc1, by rw [oi_po]; exact hk⟩
      have F1 : zr (wv_W wy sp wi) M M1 := zr_mono (zr_zf a3) (fun t k j w => .inl w)
      rw [wi_seek_35]
      simp only [hn2]
      rw [if_neg hlt]
      simp only [a1, Option.bind_some]
      rw [List.range'_succ]
      have hcw : (py_cw P (py_po k)).map (fun x => x.1) = py_ways P (py_po k) := cw_fst hP hb
      have h48 := a2.2.1
      have fin : ∀ (M2 : zM) (x2 : Option yB), zr (wv_W wy sp wi) M M2 → ws_i M2 pa Q P wy sp wi x2 (py_oi (py_po k)) → x2 = py_pf (py_fw1 P unc (py_po k)) [] (py_ways P (py_po k)) x → ∃ M', wi_seek_35 d fuel wi (some Q) (zb unc) (some wy) (some sp) (zo (py_po k) + 1) M2 = some M' ∧ wt_x M' wi (py_fws P unc (k :: List.range' (k + 1) m) x) ∧ sl_l M' sp ∧ zr (wv_W wy sp wi) M M' := by
        intro M2 x2 f2 h2 e2
        rw [oi_po] at h2
        obtain ⟨M3, q1, q2, q3, q4⟩ := ih (k + 1) M2 x2 (by omega) ⟨h2.1, h2.2.1, h2.2.2.1, h2.2.2.2.1, fun b hb => by have := h2.2.2.2.2 b hb; omega⟩ fuel (by omega)
        rw [po_next]
        refine ⟨M3, q1, ?_, q3, zr_trans f2 q4⟩
        rw [e2] at q2
        exact q2
      cases hl : py_cw P (py_po k) with
      | nil =>
        rw [hl] at a2 hcw
        have hw0 : py_ways P (py_po k) = [] := hcw.symm
        have h54 : wi_seek_54 (fun p0 p1 p2 p3 p4 p5 m => wi_seek_35 d fuel p0 p1 p2 p3 p4 p5 m) d zLF wi (some Q) (zb unc) (some wy) (some sp) (zo (py_po k)) 1 M1 = wi_seek_35 d fuel wi (some Q) (zb unc) (some wy) (some sp) (zo (py_po k) + 1) M1 := by
          show wi_seek_54 _ d (99999 + 1) wi (some Q) (zb unc) (some wy) (some sp) (zo (py_po k)) 1 M1 = _
          rw [wi_seek_54]
          simp only [a2.1]
          rw [if_pos (by decide)]
          rfl
        rw [h54]
        exact fin M1 x F1 hi1 (by rw [hw0]; rfl)
      | cons V t =>
        obtain ⟨M2, b1, b2, b3⟩ := cl_seek_54 (d := d) (unc := unc) hP hs hwi hd hb (fun p0 p1 p2 p3 p4 p5 m => wi_seek_35 d fuel p0 p1 p2 p3 p4 p5 m) t [V] M1 x hl hi1 a2 zLF (by rw [hl] at h48; simp at h48; omega)
        have b1 : wi_seek_54 (fun p0 p1 p2 p3 p4 p5 m => wi_seek_35 d fuel p0 p1 p2 p3 p4 p5 m) d zLF wi (some Q) (zb unc) (some wy) (some sp) (zo (py_po k)) 1 M1 = wi_seek_35 d fuel wi (some Q) (zb unc) (some wy) (some sp) (zo (py_po k) + 1) M2 := b1
        rw [b1]
        refine fin M2 _ (zr_trans F1 b3) b2 ?_
        rw [← hcw, hl]
        rfl
theorem pc_pf {P : yP} {unc : Bool} {p : Option Nat} : ∀ (t pre : List yW) (x : Option yB), py_pc (py_cf1 P unc p) pre t = 0 → py_pf (py_fw1 P unc p) pre t x = x := by
  intro t
  induction t with
  | nil => intro pre x _; rfl
  | cons V t ih =>
    intro pre x h
    have h : (pre.filter (py_cf1 P unc p V)).length + py_pc (py_cf1 P unc p) (pre ++ [V]) t = 0 := h
    show py_pf (py_fw1 P unc p) (pre ++ [V]) t (pre.foldl (fun b W => py_fw1 P unc p b V W) x) = x
    have hf : ∀ (l : List yW) (x : Option yB), (l.filter (py_cf1 P unc p V)).length = 0 → l.foldl (fun b W => py_fw1 P unc p b V W) x = x := by
      intro l
      induction l with
      | nil => intro x _; rfl
      | cons W l ihl =>
        intro x hl
        rw [List.filter_cons] at hl
        cases hc : py_cf1 P unc p V W with
        | true => rw [hc, if_pos rfl] at hl; simp at hl
        | false =>
          rw [hc, if_neg (by decide)] at hl
          rw [List.foldl_cons]
          have e : py_fw1 P unc p x V W = x := by
            unfold py_fw1
            rw [hc]
            rfl
          rw [e]
          exact ihl x hl
    rw [hf pre x (by omega)]
    exact ih _ _ (by omega)
theorem fw_none {P : yP} {unc : Bool} (h : py_cf P unc = 0) : py_fw P unc = none := by
  have key : ∀ (l : List Nat) (x : Option yB), py_cfs P unc l = 0 → py_fws P unc l x = x := by
    intro l
    induction l with
    | nil => intro x _; rfl
    | cons k l ih =>
      intro x h
      have h : py_cfp P unc (py_po k) + py_cfs P unc l = 0 := h
      show py_fws P unc l (py_pf (py_fw1 P unc (py_po k)) [] (py_ways P (py_po k)) x) = x
      have h0 : py_cfp P unc (py_po k) = 0 := by omega
      rw [pc_pf _ _ _ h0]
      exact ih x (by omega)
  exact key _ _ h
theorem cl_wseek (hP : py_ok P) (hs : wy + 5 ≤ sp) (hwi : sp + 4 ≤ wi) (hd : 73 ≤ d) {unc : Bool} (hS : wS M pa Q P wy) (hsl : sl_l M sp) (hl : wt_l M wi) (h15 : zm_I M 5 Q 15 = zb (py_cf P true == 0)) (h16 : zm_I M 5 Q 16 = zb (py_sure P)) : ∃ M', wi_seek d wi (some Q) (zb unc) (some wy) (some sp) M = some M' ∧ wt_x M' wi (py_fw P unc) ∧ sl_l M' sp ∧ zr (fun t k j => wv_W wy sp wi t k j ∨ (t = 10 ∧ k = wi ∧ j = 8)) M M' := by
  have hLF : zLF = 100000 := rfl
  have hnl := ok_nl hP
  obtain ⟨d, rfl⟩ : ∃ d', d = d' + 1 := ⟨d - 1, by omega⟩
  obtain ⟨M0, hM0⟩ : ∃ Y, Y = zm_setI (zm_setI M 10 wi 1 0) 10 wi 8 0 := ⟨_, rfl⟩
  have f0 : zf (fun t k j => t = 10 ∧ k = wi ∧ (j = 1 ∨ j = 8)) M M0 := by
    rw [hM0]
    exact zf_trans (zf_set ⟨rfl, rfl, .inl rfl⟩) (zf_set ⟨rfl, rfl, .inr rfl⟩)
  have F0 : zr (fun t k j => wv_W wy sp wi t k j ∨ (t = 10 ∧ k = wi ∧ j = 8)) M M0 := zr_mono (zr_zf f0) (by
    rintro t k j ⟨w1, w2, w3⟩
    rcases w3 with w3 | w3
    · exact .inl (.inr (.inr ⟨w1, w2, by omega, by omega⟩))
    · exact .inr ⟨w1, w2, w3⟩)
  have hS0 : wS M0 pa Q P wy := by
    refine ⟨cX_zf hS.1 f0 ?_ ?_ ?_ ?_, wl_zf hS.2.1 f0, hS.2.2⟩
    · rintro k j ⟨e, _⟩; cases e
    · rintro k j ⟨e, _⟩; cases e
    · rintro j _ ⟨e, _⟩; cases e
    · rintro i j _ ⟨e, _⟩; cases e
  have g1 : zm_I M0 10 wi 1 = 0 := by rw [hM0, pm_ne (by omega), pm_same]
  have g8 : zm_I M0 10 wi 8 = 0 := by rw [hM0, pm_same]
  have l0 : wt_l M0 wi := by unfold wt_l; rw [f0.1, f0.2.1]; exact hl
  have x0 : wt_x M0 wi none := ⟨l0, g1, fun b h => by cases h⟩
  have e15 : zm_I M0 5 Q 15 = zb (py_cf P true == 0) := by rw [f0.2.2.2.2.2.2 _ _ _ (by rintro ⟨e, _⟩; cases e)]; exact h15
  have e16 : zm_I M0 5 Q 16 = zb (py_sure P) := by rw [f0.2.2.2.2.2.2 _ _ _ (by rintro ⟨e, _⟩; cases e)]; exact h16
  have seek : ∃ M', wi_seek_32 d wi (some Q) (zb unc) (some wy) (some sp) M0 = some M' ∧ wt_x M' wi (py_fw P unc) ∧ sl_l M' sp ∧ zr (fun t k j => wv_W wy sp wi t k j ∨ (t = 10 ∧ k = wi ∧ j = 8)) M M' := by
    obtain ⟨M1, a1, a2, a3, a4⟩ := cl_seek_35 (d := d) (unc := unc) hP hs hwi (by omega) (py_nl P + 1) 0 M0 none (by omega) ⟨hS0, sll_zf hsl f0, x0, .inl g8, fun b h => (by cases h)⟩ zLF (by omega)
    exact ⟨M1, a1, a2, a3, zr_trans F0 (zr_mono a4 (fun t k j w => .inl w))⟩
  have skip : py_cf P unc = 0 → ∃ M', some M0 = some M' ∧ wt_x M' wi (py_fw P unc) ∧ sl_l M' sp ∧ zr (fun t k j => wv_W wy sp wi t k j ∨ (t = 10 ∧ k = wi ∧ j = 8)) M M' := by
    intro h
    refine ⟨M0, rfl, ?_, sll_zf hsl f0, F0⟩
    rw [fw_none h]
    exact x0
  have eb : wi_seek (d + 1) wi (some Q) (zb unc) (some wy) (some sp) M = wi_seek_b d wi (some Q) (zb unc) (some wy) (some sp) M := rfl
  rw [eb]
  unfold wi_seek_b wi_seek_31
  simp only [zlet]
  rw [← hM0]
  cases unc with
  | false =>
    rw [if_pos (show zb false = 0 from rfl)]
    simp only [e16]
    cases hsu : py_sure P with
    | false => rw [if_pos (show zb false = 0 from rfl)]; exact seek
    | true =>
      rw [if_neg (show ¬ zb true = 0 by decide)]
      refine skip ?_
      unfold py_sure at hsu
      simpa using hsu
  | true =>
    rw [if_neg (show ¬ zb true = 0 by decide)]
    simp only [e15]
    cases hcf : (py_cf P true == 0) with
    | false => rw [if_pos (show zb false = 0 from rfl)]; exact seek
    | true =>
      rw [if_neg (show ¬ zb true = 0 by decide)]
      exact skip (by simpa using hcf)
end
