/-! THE MODEL: a thing and what it holds -/
theorem rep_0 {n : Nat} {b b' : List Nat} (h : b.head? ≠ some 32) (e : b = List.replicate n 32 ++ b') : n = 0 ∧ b' = b := by
  cases n with
  | zero => exact ⟨rfl, by simpa using e.symm⟩
  | succ n =>
    rw [e, List.replicate_succ] at h
    exact absurd rfl h
section
variable {am d : Nat} {M : zM} {T : List Nat}
/-- a fault before: nothing is done -/
theorem mr_oneThing_184f {r : Nat → Int32 → Int32 → zM → Option zM} {q fuel : Nat} {v2 v5 v6 : Int32} (h4 : zm_I M 12 am 4 = nI q) (hq : q ≤ 400) : mo_oneThing_184 r d (fuel + 1) am v2 v5 v6 M = some M := by
  simp only [mo_oneThing_184, mr_fine0 h4 hq, Option.bind_some, if_true, mo_oneThing_241, mo_oneThing_265]
theorem mr_oneThing_184 (hok : tp_ok T) (hd : 2 ≤ d) {r : Nat → Int32 → Int32 → zM → Option zM} {i lv : Nat} (hR : od_h am T r (lv + 1) (some i)) : ∀ (n : Nat) (b a : List Nat) (c : Nat) (M : zM) (D : List yT), b.length ≤ n → T = a ++ c :: b → ml_ok am M → mt_p am M T → zm_I M 12 am 3 = nI a.length → zm_I M 12 am 4 = -1 → md_w am M D → do_ok D → i < D.length → py_dv D (some i) = lv + 1 → ∀ fuel, n + 1 < fuel → ∃ M', mo_oneThing_184 r d fuel am (nI lv) (nI i) 1 M = some M' ∧ zf (mg am [3, 4, 21] [13]) M M' ∧ od_r am T M' b D (py_dr b (a.length + 1) (D, some i, none, true)) (py_pr D i) := by
  have h400 := hok.1
  intro n
  induction n with
  | zero =>
    intro b a c M D hbn e hl hT h3 h4 hw hD hi hdv fuel hf
    have hb0 : b = [] := List.length_eq_zero_iff.mp (by omega)
    subst hb0
    obtain ⟨f, rfl⟩ : ∃ f, fuel = f + 2 := ⟨fuel - 2, by omega⟩
    have hfz : zf (mg am [3, 4, 21] [13]) M (zm_setI M 12 am 3 (nI (a.length + 1))) := zf_set (.inl ⟨rfl, rfl, by simp⟩)
    obtain ⟨M1, g1, g2, g3⟩ := hR [] (a ++ [c]) (zm_setI M 12 am 3 (nI (a.length + 1))) D (by rw [e]; simp) (ml_set hl) (mt_mg hT hfz (by simp) (by simp)) (by rw [pm_same]; simp) (by rw [pm_ne (by omega)]; exact h4) (md_wmg hw (zf_set (.inl ⟨rfl, rfl, by simp⟩) : zf (mg am [3] []) M _) (by simp) (by simp)) hD (by intro k hk; injection hk with hk; omega) hdv
    have g1' : r am (nI i) (nI (lv + 1)) (zm_setI M 12 am 3 (nI (a.length + 1))) = some M1 := g1
    rw [List.length_append, List.length_cons, List.length_nil] at g3
    rcases g3 with ⟨q, q1, q2, q3⟩ | ⟨q1, a', b', D', q2, q3, _⟩
    · refine ⟨M1, ?_, zf_trans hfz g2, .inl ⟨q, q1, q2, q3⟩⟩
      rw [mo_oneThing_184]
      simp only [mr_fine1 h4, Option.bind_some, if_neg (show ¬ (1 : Int32) = 0 by decide), zlet, h3, nI_1, g1', mr_fine0 q1 q2, if_true, mo_oneThing_235, mo_oneThing_236, mr_oneThing_184f q1 q2]
    · cases q3
  | succ n ih =>
    intro b a c M D hbn e hl hT h3 h4 hw hD hi hdv fuel hf
    obtain ⟨f, rfl⟩ : ∃ f, fuel = f + 2 := ⟨fuel - 2, by omega⟩
    have hfz : zf (mg am [3, 4, 21] [13]) M (zm_setI M 12 am 3 (nI (a.length + 1))) := zf_set (.inl ⟨rfl, rfl, by simp⟩)
    obtain ⟨M1, g1, g2, g3⟩ := hR b (a ++ [c]) (zm_setI M 12 am 3 (nI (a.length + 1))) D (by rw [e]; simp) (ml_set hl) (mt_mg hT hfz (by simp) (by simp)) (by rw [pm_same]; simp) (by rw [pm_ne (by omega)]; exact h4) (md_wmg hw (zf_set (.inl ⟨rfl, rfl, by simp⟩) : zf (mg am [3] []) M _) (by simp) (by simp)) hD (by intro k hk; injection hk with hk; omega) hdv
    have g1' : r am (nI i) (nI (lv + 1)) (zm_setI M 12 am 3 (nI (a.length + 1))) = some M1 := g1
    rw [List.length_append, List.length_cons, List.length_nil] at g3
    have hf1 := zf_trans hfz g2
    rcases g3 with ⟨q, q1, q2, q3⟩ | ⟨q1, a', b', D', q2, q3, q4, q5, q6, q7, q8⟩
    · refine ⟨M1, ?_, hf1, .inl ⟨q, q1, q2, q3⟩⟩
      rw [mo_oneThing_184]
      simp only [mr_fine1 h4, Option.bind_some, if_neg (show ¬ (1 : Int32) = 0 by decide), zlet, h3, nI_1, g1', mr_fine0 q1 q2, if_true, mo_oneThing_235, mo_oneThing_236, mr_oneThing_184f q1 q2]
    · have hl1 := ml_zf hl hf1
      have hT1 := mt_mg hT hf1 (by simp) (by simp)
      have hiD' : i < D'.length := Nat.lt_of_lt_of_le hi q7.1
      obtain ⟨n1, b1, M2, k1, k2, k3, k4, k5⟩ := mr_look (d := d) hok q2 hl1 hT1 q4 (by omega)
      have hb1 : ∀ x, x ∈ b1 → x < 256 := fun x hx => (hok.2 x (by rw [q2, k1]; simp [hx])).2
      have hf2 : zf (mg am [3, 4, 21] [13]) M M2 := zf_trans hf1 (zf_mono k5 (mg_mono (by simp) (by simp)))
      have hl2 := ml_zf hl hf2
      have hT2 := mt_mg hT hf2 (by simp) (by simp)
      have hw2 := md_wmg q5 k5 (by simp) (by simp)
      have h42 : zm_I M2 12 am 4 = -1 := by rw [mg_f k5 (by simp)]; exact q1
      have e2 : T = (a' ++ List.replicate n1 32) ++ b1 := by rw [q2, k1]; simp
      have el : (a' ++ List.replicate n1 32).length = a'.length + n1 := by simp only [List.length_append, List.length_replicate, List.length_cons, List.length_nil] <;> omega
      have hlen : b'.length = n1 + b1.length := by rw [k1]; simp only [List.length_append, List.length_replicate, List.length_cons, List.length_nil] <;> omega
      have hTl : T.length = a'.length + n1 + b1.length := by rw [e2]; simp only [List.length_append, List.length_replicate, List.length_cons, List.length_nil] <;> omega
      rw [k1, dr_rep] at q8
      rw [q8]
      have e44 : (py_ht b1 = 44) ↔ b1.head? = some 44 := ht_eq (c := 44) hb1 (by omega)
      by_cases c44 : b1.head? = some 44
      · cases b1 with
        | nil => cases c44
        | cons x b2 =>
          have hx : x = 44 := by simpa using c44
          subst hx
          obtain ⟨M3, m1, m2, m3⟩ := ih b2 (a' ++ List.replicate n1 32) 44 M2 D' (by simp at hlen; omega) e2 hl2 hT2 (by rw [el]; exact k4) h42 hw2 q6 hiD' (by rw [dx_lv q7 hi]; exact hdv) (f + 1) (by omega)
          rw [el, dx_pr q7 hi] at m3
          refine ⟨M3, ?_, zf_trans hf2 m2, ?_⟩
          · rw [mo_oneThing_184]
            simp only [mr_fine1 h4, Option.bind_some, if_neg (show ¬ (1 : Int32) = 0 by decide), zlet, h3, nI_1, g1', mr_fine1 q1, k3, e44, if_pos c44, mo_oneThing_236, m1]
          · have ev : py_dr (44 :: b2) (a'.length + n1) (D', some i, none, false) = py_dr b2 (a'.length + n1 + 1) (D', some i, none, true) := by simp [py_dr, py_dt]
            rw [ev]
            rcases m3 with ⟨q, t1, t2, t3⟩ | ⟨t1, a3, b3, D3, t2, t3, t4, t5, t6, t7, t8⟩
            · exact .inl ⟨q, t1, t2, t3⟩
            · refine .inr ⟨t1, a3, b3, D3, t2, ?_, t4, t5, t6, dx_trans q7 t7, t8⟩
              simp at hlen
              omega
      · obtain ⟨n2, b2, M3, m1, m2, m3, m4, m5⟩ := mr_takes (d := d) hok e2 hl2 hT2 (by rw [el]; exact k4) hd (c := 41) (by omega)
        obtain ⟨hn2, hb2⟩ := rep_0 k2 m1
        subst hn2
        rw [hb2] at m3 m4
        rw [el, Nat.add_zero] at m4
        have m3' : mo_takes d am 41 M2 = _ := m3
        have h43 : zm_I M3 12 am 4 = -1 := by rw [mg_f m5 (by simp)]; exact h42
        have hf3 : zf (mg am [3, 4, 21] [13]) M M3 := zf_trans hf2 (zf_mono m5 (mg_mono (by simp) (by simp)))
        have hpre : mo_oneThing_184 r d (f + 2) am (nI lv) (nI i) 1 M = (if zb (decide (b1.head? = some 41)) = 0 then some (zm_setI M3 12 am 4 (zm_I M3 12 am 3)) else some M3) := by
          rw [mo_oneThing_184]
          simp only [mr_fine1 h4, Option.bind_some, if_neg (show ¬ (1 : Int32) = 0 by decide), zlet, h3, nI_1, g1', mr_fine1 q1, k3, e44, if_neg c44, mo_oneThing_235, mo_oneThing_236]
          rw [mo_oneThing_184]
          simp only [mr_fine1 h42, Option.bind_some, if_neg (show ¬ (1 : Int32) = 0 by decide), if_true, mo_oneThing_241, m3', mr_fails h43, mo_oneThing_265]
        rw [hpre]
        by_cases c41 : b1.head? = some 41
        · rw [decide_eq_true c41, pb_zbt, if_neg (by decide)]
          rw [if_pos c41] at m4
          cases b1 with
          | nil => cases c41
          | cons x b2' =>
            have hx : x = 41 := by simpa using c41
            subst hx
            have ev : py_dr (41 :: b2') (a'.length + n1) (D', some i, none, false) = py_dr b2' (a'.length + n1 + 1) (D', py_pr D' i, none, false) := by simp [py_dr, py_dt]
            rw [ev]
            refine ⟨M3, rfl, hf3, .inr ⟨h43, (a' ++ List.replicate n1 32) ++ [41], b2', D', ?_, ?_, ?_, md_wmg hw2 m5 (by simp) (by simp), q6, q7, ?_⟩⟩
            · rw [e2]; simp
            · simp at hlen; omega
            · rw [m4, List.length_append, el]
              rfl
            · rw [dx_pr q7 hi, List.length_append, el]
              rfl
        · rw [decide_eq_false c41, pb_zbf, if_pos rfl]
          rw [if_neg c41] at m4
          have m4' : zm_I M3 12 am 3 = nI (a'.length + n1) := m4
          refine ⟨_, rfl, zf_trans hf3 (zf_set (.inl ⟨rfl, rfl, by simp⟩)), .inl ⟨a'.length + n1, ?_, by omega, ?_⟩⟩
          · rw [pm_same]; exact m4'
          · cases b1 with
            | nil => simp [py_dr]
            | cons x b2' =>
              have x1 : ¬ x = 44 := fun y => c44 (by simp [y])
              have x2 : ¬ x = 41 := fun y => c41 (by simp [y])
              have x3 : ¬ x = 32 := fun y => k2 (by simp [y])
              simp [py_dr, py_dt, x1, x2, x3]
theorem mr_oneThing_s (hok : tp_ok T) (hd : 2 ≤ d) {r : Nat → Int32 → Int32 → zM → Option zM} {lv : Nat} (hlv : lv ≤ 7) (hR : lv < 7 → ∀ i, od_h am T r (lv + 1) (some i)) (o : Option Nat) : od_h am T (mo_oneThing_b r d) lv o := by
  intro b a M D e hl hT h3 h4 hw hD ho hdv
  have h400 := hok.1
  have hD60 := hD.1
  have hLF2 : 400 < zLF := pb_LF
  obtain ⟨n1, b1, M1, k1, k2, k3, k4, k5⟩ := mr_look (d := d) hok e hl hT h3 (by omega)
  have hf1 : zf (mg am [3, 4, 21] [13]) M M1 := zf_mono k5 (mg_mono (by simp) (by simp))
  have hl1 := ml_zf hl hf1
  have hT1 := mt_mg hT hf1 (by simp) (by simp)
  have hw1 := md_wmg hw k5 (by simp) (by simp)
  have h41 : zm_I M1 12 am 4 = -1 := by rw [mg_f k5 (by simp)]; exact h4
  have e1 : T = (a ++ List.replicate n1 32) ++ b1 := by rw [e, k1]; simp
  have el : (a ++ List.replicate n1 32).length = a.length + n1 := by simp only [List.length_append, List.length_replicate, List.length_cons, List.length_nil] <;> omega
  have hlen : b.length = n1 + b1.length := by rw [k1]; simp only [List.length_append, List.length_replicate, List.length_cons, List.length_nil] <;> omega
  have hTl : T.length = a.length + n1 + b1.length := by rw [e1]; simp only [List.length_append, List.length_replicate, List.length_cons, List.length_nil] <;> omega
  rw [k1, dr_rep]
  have hfail : ∀ (v3 : Int32), (py_dr b1 (a.length + n1) (D, o, none, true)).1 = some (a.length + n1) → ∃ M', mo_oneThing_45 r d am (zo o) (nI lv) v3 M1 = some M' ∧ zf (mg am [3, 4, 21] [13]) M M' ∧ od_r am T M' (List.replicate n1 32 ++ b1) D (py_dr b1 (a.length + n1) (D, o, none, true)) o := by
    intro v3 hv
    refine ⟨zm_setI M1 12 am 4 (nI (a.length + n1)), ?_, zf_trans hf1 (zf_set (.inl ⟨rfl, rfl, by simp⟩)), .inl ⟨a.length + n1, pm_same, by omega, hv⟩⟩
    simp only [mo_oneThing_45, mo_oneThing_46, if_true, k4, mr_fails h41, Option.bind_some]
  unfold mo_oneThing_b
  rw [k3]
  simp only [Option.bind_some]
  cases b1 with
  | nil =>
    simp only [py_ht, mr_isLetter1, Option.bind_some, if_true]
    exact hfail _ (by simp [py_dr])
  | cons x b2 =>
    have hx256 := (hok.2 x (by rw [e1]; simp)).2
    have x32 : ¬ x = 32 := fun y => k2 (by simp [y])
    simp only [py_ht, mr_isLetter hx256, Option.bind_some]
    by_cases c1 : 97 ≤ x ∧ x ≤ 122
    · rw [decide_eq_true c1, pb_zbt, if_neg (by decide), hw1.1]
      by_cases c2 : 60 ≤ D.length
      · have : (60 : Int32) ≤ nI D.length := nI_le (a := 60) (by omega) (by omega)
        rw [if_pos this]
        refine hfail _ ?_
        have : ¬ D.length < 60 := by omega
        simp [py_dr, py_dt, x32, this]
      · have : ¬ (60 : Int32) ≤ nI D.length := nI_ge (b := 60) (by omega) (by omega)
        rw [if_neg this]
        /- the thing is taken -/
        have hgo : py_hm D o < 24 → ∃ M', mo_oneThing_41 r d am (zo o) (nI lv) (nI x) M1 = some M' ∧ zf (mg am [3, 4, 21] [13]) M M' ∧ od_r am T M' (List.replicate n1 32 ++ x :: b2) D (py_dr (x :: b2) (a.length + n1) (D, o, none, true)) o := by
          intro c3
          have hd60 : D.length < 60 := by omega
          obtain ⟨M2, m1, m2, m3, m4⟩ := mr_oneThing_46 (d := d) r (p := a.length + n1) hl1 hw1 hD hd60 ho k4 c1
          have hD2 : do_ok (py_add D o (x - 97)) := do_add hD hd60 (by omega) ho c3 (by omega)
          have hx2 := dx_add D o (x - 97)
          have hi2 : D.length < (py_add D o (x - 97)).length := by rw [add_len]; omega
          have hdv2 : py_dv (py_add D o (x - 97)) (some D.length) = lv + 1 := by
            show (match (py_add D o (x - 97))[D.length]? with
              | none => 0
              | some x => x.2.2.2 + 1) = lv + 1
            rw [add_last]
            show py_dv D o + 1 = lv + 1
            rw [hdv]
          have hpr2 : py_pr (py_add D o (x - 97)) D.length = o := by
            unfold py_pr
            rw [add_last]
          have hf2 : zf (mg am [3, 4, 21] [13]) M M2 := zf_trans hf1 (zf_mono m4 (mg_mono (by simp) (by simp)))
          have hl2 := ml_zf hl hf2
          have hT2 := mt_mg hT hf2 (by simp) (by simp)
          have h42 : zm_I M2 12 am 4 = -1 := by rw [mg_f m4 (by simp)]; exact h41
          have e2 : T = ((a ++ List.replicate n1 32) ++ [x]) ++ b2 := by rw [e1]; simp
          have el2 : ((a ++ List.replicate n1 32) ++ [x]).length = a.length + n1 + 1 := by simp only [List.length_append, List.length_replicate, List.length_cons, List.length_nil] <;> omega
          obtain ⟨n3, b3, M3, p1, p2, p3, p4, p5⟩ := mr_look (d := d) hok e2 hl2 hT2 (by rw [el2]; exact m3) (by omega)
          rw [el2] at p4
          have hf3 : zf (mg am [3, 4, 21] [13]) M M3 := zf_trans hf2 (zf_mono p5 (mg_mono (by simp) (by simp)))
          have hl3 := ml_zf hl hf3
          have hT3 := mt_mg hT hf3 (by simp) (by simp)
          have hw3 := md_wmg m2 p5 (by simp) (by simp)
          have h43 : zm_I M3 12 am 4 = -1 := by rw [mg_f p5 (by simp)]; exact h42
          have e3 : T = (((a ++ List.replicate n1 32) ++ [x]) ++ List.replicate n3 32) ++ b3 := by rw [e2, p1]; simp
          have el3 : (((a ++ List.replicate n1 32) ++ [x]) ++ List.replicate n3 32).length = a.length + n1 + 1 + n3 := by simp only [List.length_append, List.length_replicate, List.length_cons, List.length_nil] <;> omega
          have hlen3 : b2.length = n3 + b3.length := by rw [p1]; simp only [List.length_append, List.length_replicate, List.length_cons, List.length_nil] <;> omega
          have hTl3 : T.length = a.length + n1 + 1 + n3 + b3.length := by rw [e3]; simp only [List.length_append, List.length_replicate, List.length_cons, List.length_nil] <;> omega
          have hb3 : ∀ y, y ∈ b3 → y < 256 := fun y hy => (hok.2 y (by rw [e3]; simp [hy])).2
          have ev : py_dr (x :: b2) (a.length + n1) (D, o, none, true) = py_dr b3 (a.length + n1 + 1 + n3) (py_add D o (x - 97), o, some D.length, false) := by
            have : py_dt (D, o, none, true) x = some (py_add D o (x - 97), o, some D.length, false) := by
              unfold py_dt
              rw [if_pos rfl, if_pos ⟨c1, hd60, c3⟩]
            rw [← dr_rep n3 b3, ← p1]
            conv => lhs; unfold py_dr
            rw [if_neg x32, this]
          rw [ev]
          have e40 : (py_ht b3 = 40) ↔ b3.head? = some 40 := ht_eq (c := 40) hb3 (by omega)
          have e7 : (nI lv = 7) ↔ lv = 7 := nI_eq (b := 7) (by omega) (by omega)
          have hpre : mo_oneThing_41 r d am (zo o) (nI lv) (nI x) M1 = (if b3.head? = some 40 then (if lv = 7 then some (zm_setI M3 12 am 4 (nI (a.length + n1 + 1 + n3))) else mo_oneThing_184 r d zLF am (nI lv) (nI D.length) 1 M3) else some M3) := by
            rw [hdv] at m1
            simp only [mo_oneThing_41, m1, mo_oneThing_156, p3, Option.bind_some, e40, e7, p4, mr_fails h43]
          rw [hpre]
          by_cases c40 : b3.head? = some 40
          · rw [if_pos c40]
            cases b3 with
            | nil => cases c40
            | cons y b4 =>
              have hy : y = 40 := by simpa using c40
              subst hy
              by_cases c7 : lv = 7
              · rw [if_pos c7]
                refine ⟨_, rfl, zf_trans hf3 (zf_set (.inl ⟨rfl, rfl, by simp⟩)), .inl ⟨a.length + n1 + 1 + n3, pm_same, by omega, ?_⟩⟩
                have : py_dt (py_add D o (x - 97), o, some D.length, false) 40 = none := by
                  unfold py_dt
                  rw [if_neg (by simp), if_neg (by
                    intro h
                    have := h.2.2
                    rw [hdv2] at this
                    omega)]
                  cases o with
                  | none => rfl
                  | some k => rfl
                unfold py_dr
                rw [if_neg (by decide), this]
              · rw [if_neg c7]
                obtain ⟨M4, w1, w2, w3⟩ := mr_oneThing_184 (d := d) hok hd (hR (by omega) D.length) b4.length b4 (((a ++ List.replicate n1 32) ++ [x]) ++ List.replicate n3 32) 40 M3 (py_add D o (x - 97)) (Nat.le_refl _) e3 hl3 hT3 (by rw [el3]; exact p4) h43 hw3 hD2 hi2 hdv2 zLF (by simp at hTl3; omega)
                rw [el3, hpr2] at w3
                refine ⟨M4, w1, zf_trans hf3 w2, ?_⟩
                have : py_dt (py_add D o (x - 97), o, some D.length, false) 40 = some (py_add D o (x - 97), some D.length, some D.length, true) := by
                  unfold py_dt
                  rw [if_neg (by simp), if_pos ⟨rfl, rfl, by rw [hdv2]; omega⟩]
                have ev2 : py_dr (40 :: b4) (a.length + n1 + 1 + n3) (py_add D o (x - 97), o, some D.length, false) = py_dr b4 (a.length + n1 + 1 + n3 + 1) (py_add D o (x - 97), some D.length, none, true) := by
                  rw [← dr_w b4 _ _ _ (some D.length)]
                  conv => lhs; unfold py_dr
                  rw [if_neg (by decide), this]
                rw [ev2]
                rcases w3 with ⟨q, t1, t2, t3⟩ | ⟨t1, a5, b5, D5, t2, t3, t4, t5, t6, t7, t8⟩
                · exact .inl ⟨q, t1, t2, t3⟩
                · refine .inr ⟨t1, a5, b5, D5, t2, ?_, t4, t5, t6, dx_trans hx2 t7, t8⟩
                  simp at hlen3 ⊢
                  omega
          · rw [if_neg c40]
            refine ⟨M3, rfl, hf3, .inr ⟨h43, _, b3, py_add D o (x - 97), e3, ?_, by rw [el3]; exact p4, hw3, hD2, hx2, ?_⟩⟩
            · simp
              omega
            · rw [el3]
              exact dr_lat _ _ _ _ _ c40 p2
        cases o with
        | none =>
          rw [if_pos pb_zon]
          exact hgo (by show 0 < 24; omega)
        | some k =>
          have hk := ho k rfl
          have hgk : D[k]? = some D[k] := by simp
          have zk : z_in (nI (4 * k + 2)) 240 := nI_in (by omega) (by omega)
          have ez : zo (some k) = nI k := rfl
          have hD24 := (hD.2 k _ hgk).2.2.2.1
          have ehm : py_hm D (some k) = D[k].2.2.1 := by simp only [py_hm, hgk]
          have ene : ¬ zo (some k) = -1 := by rw [ez]; exact pb_ne1 (by omega)
          rw [if_neg ene]
          simp only [ml_R19 hl1, ml_L19 hl1]
          rw [ez, mx_42, if_pos zk, nI_clamp (show 4 * k + 2 < 2 ^ 31 by omega), (hw1.2 k _ hgk).2.2.1]
          by_cases c3 : 24 ≤ D[k].2.2.1
          · have : (24 : Int32) ≤ nI D[k].2.2.1 := nI_le (a := 24) (by omega) (by omega)
            rw [if_pos this]
            refine hfail _ ?_
            have : ¬ py_hm D (some k) < 24 := by omega
            simp [py_dr, py_dt, x32, this]
          · have : ¬ (24 : Int32) ≤ nI D[k].2.2.1 := nI_ge (b := 24) (by omega) (by omega)
            rw [if_neg this]
            exact hgo (by omega)
    · rw [decide_eq_false c1, pb_zbf, if_pos rfl]
      refine hfail _ ?_
      simp [py_dr, py_dt, x32, c1]
theorem mr_oneThing (hok : tp_ok T) : ∀ (m lv d : Nat), lv + m = 7 → m + 3 ≤ d → ∀ o, od_h am T (mo_oneThing d) lv o := by
  intro m
  induction m with
  | zero =>
    intro lv d hlv hd o
    obtain ⟨d, rfl⟩ : ∃ d', d = d' + 1 := ⟨d - 1, by omega⟩
    exact mr_oneThing_s (r := fun a0 a1 a2 M => mo_oneThing d a0 a1 a2 M) hok (by omega) (by omega) (fun h => by omega) o
  | succ m ih =>
    intro lv d hlv hd o
    obtain ⟨d, rfl⟩ : ∃ d', d = d' + 1 := ⟨d - 1, by omega⟩
    exact mr_oneThing_s (r := fun a0 a1 a2 M => mo_oneThing d a0 a1 a2 M) hok (by omega) (by omega) (fun h i => ih (lv + 1) d (by omega) (by omega) (some i)) o
end
