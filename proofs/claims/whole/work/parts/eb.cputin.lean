/-! THE CLASS: a letter more, or another one -/
def py_pi (P : yP) (ls : List Nat) (kind k l : Nat) : Bool := py_wf P (l :: ls.drop (if kind = 2 then k else k + 1)) (py_at P ls k)
def py_pl (P : yP) (ls : List Nat) (kind : Nat) (v : Int32) (k i m : Nat) : Option Nat := (List.range' i m).find? (fun l => zbt v l && py_pi P ls kind k l)
def py_pk (P : yP) (ls : List Nat) (kind : Nat) (v : Int32) (k m : Nat) : Option (Nat × Nat) := (List.range' k m).findSome? (fun k => (py_pl P ls kind v k 0 26).map (fun l => (k, l)))
section
variable {M M' : zM} {pa : Nat → Nat} {P : yP} {d wk re Q B n : Nat} {s : yS} {ls : List Nat} {g : List (Nat × Option Nat)}
theorem wf_cons {l : Nat} {b : List Nat} : py_wf P (l :: b) s = match py_fd P s l with
    | none => false
    | some W => py_wf P b (py_go P s W) := by
  cases hf : py_fd P s l with
  | none =>
    unfold py_wf
    rw [rn_none hf]
    simp
  | some W =>
    unfold py_wf
    rw [rn_some hf]
    simp
theorem cl_put_18 (hP : py_ok P) (hd : 3 ≤ d) (hls : ls.length ≤ 24) (h26 : ∀ x, x ∈ ls → x < 26) {v3 v5 : Int32} {kind k : Nat} (hkind : kind = 2 ∨ kind = 3) (hk : k ≤ n) (hkl : (if kind = 2 then k else k + 1) ≤ ls.length) (kl9 : Nat → Option Nat → Option Nat → Int32 → Int32 → Int32 → Int32 → zM → Option (Int32 × zM)) : ∀ (m l : Nat) (M : zM), l + m = 26 → md_s M pa Q P wk re ls g n → ∀ fuel, m < fuel → ∃ M', (py_pl P ls kind v5 k l m = none → re_putIn_18 kl9 d fuel re (some Q) (some wk) v3 (nI kind) v5 (nI k) (nI l) M = kl9 re (some Q) (some wk) v3 (nI kind) v5 (nI (k + 1)) M' ∧ md_s M' pa Q P wk re ls g n) ∧ (∀ j, py_pl P ls kind v5 k l m = some j → re_putIn_18 kl9 d fuel re (some Q) (some wk) v3 (nI kind) v5 (nI k) (nI l) M = some (1, M') ∧ zm_I M' 4 re 13 = nI kind ∧ zm_I M' 4 re 14 = nI k ∧ zm_I M' 4 re 15 = nI j) ∧ zr (mw_W2 wk re) M M' := by
  intro m
  induction m with
  | zero =>
    intro l M hl h fuel hf
    cases fuel with
    | zero => cases hf
    | succ fuel =>
      have : l = 26 := by omega
      subst this
      refine ⟨M, fun _ => ⟨?_, h⟩, fun j hj => (by cases hj), zr_refl _ _⟩
      rw [re_putIn_18, if_pos (show (26 : Int32) ≤ nI 26 by decide)]
      simp only [zlet, nI_1]
  | succ m ih =>
    intro l M hl h fuel hf
    have hk24 : k ≤ 24 := by split at hkl <;> omega
    cases fuel with
    | zero => cases hf
    | succ fuel =>
      have hz : z_in (nI k) 25 := nI_in (by omega) (by omega)
      have epl : py_pl P ls kind v5 k l (m + 1) = if (zbt v5 l && py_pi P ls kind k l) = true then some l else py_pl P ls kind v5 k (l + 1) m := by
        unfold py_pl
        rw [List.range'_succ, List.find?_cons]
        cases (zbt v5 l && py_pi P ls kind k l) <;> rfl
      have go : ∀ M1, md_s M1 pa Q P wk re ls g n → zr (mw_W2 wk re) M M1 → (zbt v5 l && py_pi P ls kind k l) = false → ∃ M', (py_pl P ls kind v5 k l (m + 1) = none → re_putIn_18 kl9 d fuel re (some Q) (some wk) v3 (nI kind) v5 (nI k) (nI (l + 1)) M1 = kl9 re (some Q) (some wk) v3 (nI kind) v5 (nI (k + 1)) M' ∧ md_s M' pa Q P wk re ls g n) ∧ (∀ j, py_pl P ls kind v5 k l (m + 1) = some j → re_putIn_18 kl9 d fuel re (some Q) (some wk) v3 (nI kind) v5 (nI k) (nI (l + 1)) M1 = some (1, M') ∧ zm_I M' 4 re 13 = nI kind ∧ zm_I M' 4 re 14 = nI k ∧ zm_I M' 4 re 15 = nI j) ∧ zr (mw_W2 wk re) M M' := by
        intro M1 m1 z1 hb
        obtain ⟨M', q1, q2, q3⟩ := ih (l + 1) M1 (by omega) m1 fuel (by omega)
        rw [epl, hb]
        exact ⟨M', q1, q2, zr_trans z1 q3⟩
      rw [re_putIn_18, if_neg (show ¬ (26 : Int32) ≤ nI l from nI_ge (b := 26) (by omega) (by omega)), zy_has v5 (show l < 32 by omega)]
      cases hv : zbt v5 l
      · rw [if_pos (by simp)]
        simp only [re_putIn_91, zlet, nI_1]
        exact go M h (zr_refl _ _) (by rw [hv]; rfl)
      · rw [if_neg (by simp)]
        obtain ⟨M1, a1, a2, a3, a4, a5⟩ := cl_try (d := d) hP hd hls h26 h hk
        obtain ⟨M2, b1, b2, b3, b4⟩ := cl_step (d := d) (l := l) hP (by omega) a2 a3.1 a3.2.2.2 (by omega) (by omega)
        have hsim := sim_cut (P := P) (py_at P ls k)
        have hvk := (at_g hP hls k (P := P)).2.2.2.1
        have efd := sim_fd hP hsim hvk l
        have m2 := md_wz a4 b4
        have z2 : zr (mw_W2 wk re) M M2 := zr_mono (zr_trans a5 b4) (fun t k j w => .inl w)
        simp only [h.2.2.2.2.1.1.2.2.2.2.2.1, h.2.2.2.2.1.1.2.2.2.2.2.2, if_pos hz, nI_clamp (show k < 2 ^ 31 by omega), a1, Option.bind_some, b1]
        cases hf2 : py_fd P (py_cut P (py_at P ls k)) l with
        | none =>
          rw [if_pos (show zb (none : Option yW).isSome = 0 from rfl)]
          simp only [re_putIn_91, zlet, nI_1]
          refine go M2 m2 z2 ?_
          unfold py_pi
          rw [wf_cons, ← efd, hf2]
          simp
        | some W =>
          rw [if_neg (show ¬ zb (some W).isSome = 0 by show ¬ zb true = 0; decide)]
          obtain ⟨x2, _⟩ := b3 W hf2
          have hsg := sim_go hP hsim hvk (fd_mem (by rw [← efd]; exact hf2)).1
          have hvg : ∀ o, (py_go P (py_at P ls k) W).1 = some o → o < py_nl P := fun o ho => by
            have ho : some W.1 = some o := ho
            injection ho with ho
            rw [← ho]
            exact (go_way hP hvk (fd_mem (by rw [← efd]; exact hf2)).1).1
          have ep : py_pi P ls kind k l = py_wf P (ls.drop (if kind = 2 then k else k + 1)) (py_go P (py_at P ls k) W) := by
            unfold py_pi
            rw [wf_cons, ← efd, hf2]
          have hg2 := wg_go hP a3 hf2
          -- the rest, from place e on
          have rest : ∀ e, e = (if kind = 2 then k else k + 1) → ∃ M', (py_pl P ls kind v5 k l (m + 1) = none → re_putIn_73 kl9 (fun p0 p1 p2 p3 p4 p5 p6 p7 m => re_putIn_18 kl9 d fuel p0 p1 p2 p3 p4 p5 p6 p7 m) d re (some Q) (some wk) v3 (nI kind) v5 (nI k) (nI l) (some re) (some wk) (nI e) M2 = kl9 re (some Q) (some wk) v3 (nI kind) v5 (nI (k + 1)) M' ∧ md_s M' pa Q P wk re ls g n) ∧ (∀ j, py_pl P ls kind v5 k l (m + 1) = some j → re_putIn_73 kl9 (fun p0 p1 p2 p3 p4 p5 p6 p7 m => re_putIn_18 kl9 d fuel p0 p1 p2 p3 p4 p5 p6 p7 m) d re (some Q) (some wk) v3 (nI kind) v5 (nI k) (nI l) (some re) (some wk) (nI e) M2 = some (1, M') ∧ zm_I M' 4 re 13 = nI kind ∧ zm_I M' 4 re 14 = nI k ∧ zm_I M' 4 re 15 = nI j) ∧ zr (mw_W2 wk re) M M' := by
            intro e he
            rw [← he] at hkl ep
            have hsplit : ls = ls.take e ++ ls.drop e := (List.take_append_drop _ _).symm
            have hlen : (ls.take e).length = e := by rw [List.length_take]; omega
            obtain ⟨M3, c1, c2⟩ := cl_wordFrom (d := d) (P := P) (g := g) hP hd h.2.2.2.1 hls h26 hsplit (by omega) hg2 x2 m2.2.2.2.2.1
            rw [hlen, wf_sim hP hsg hvg, ← ep] at c1
            have m3 := md_wz m2 c2
            have z3 : zr (mw_W2 wk re) M M3 := zr_trans z2 (zr_mono c2 (fun t k j w => .inl w))
            unfold re_putIn_73
            simp only [c1, Option.bind_some]
            cases hb : py_pi P ls kind k l
            · rw [if_pos (show zb false = 0 from rfl)]
              simp only [re_putIn_91, zlet, nI_1]
              exact go M3 m3 z3 (by rw [hb, Bool.and_false])
            · rw [if_neg (show ¬ zb true = 0 by decide)]
              obtain ⟨M4, d1, d2, d3, d4, d5⟩ := cl_setMend (d := d) (re := re) (M := M3) (a := nI kind) (b := nI k) (c := nI l)
              rw [d1, Option.bind_some]
              have hsome : py_pl P ls kind v5 k l (m + 1) = some l := by rw [epl, hv, hb]; rfl
              refine ⟨M4, fun hn => (by rw [hsome] at hn; cases hn), ?_, zr_trans z3 (zr_mono (zr_zf d5) (fun t k j w => .inr w))⟩
              intro j hj
              rw [hsome] at hj
              injection hj with hj
              rw [← hj]
              exact ⟨rfl, d2, d3, d4⟩
          rcases hkind with q | q
          · subst q
            rw [if_pos (show nI 2 = 2 from rfl)]
            exact rest k (by simp)
          · subst q
            rw [if_neg (show ¬ nI 3 = 2 by decide)]
            simp only [nI_1]
            exact rest (k + 1) (by simp)
end
