/-! THE CLASS: the walk looks around -/
section
variable {M M' : zM} {pa : Nat → Nat} {P : yP} {d wk Q : Nat} {s : yS}
theorem find_min {p : yW → Bool} {W : yW} : ∀ {L : List yW}, L.Pairwise (fun V W => V.1 < W.1) → W ∈ L → p W = true → (∀ V, V ∈ L → p V = true → W.1 ≤ V.1) → L.find? p = some W := by
  intro L
  induction L with
  | nil => intro _ h; cases h
  | cons V L ih =>
    intro hs hW hp hm
    rw [List.pairwise_cons] at hs
    rw [List.find?_cons]
    cases hv : p V
    · have : W ∈ L := by
        rcases List.mem_cons.mp hW with e | e
        · rw [e, hv] at hp; cases hp
        · exact e
      exact ih hs.2 this hp (fun X hX => hm X (List.mem_cons_of_mem _ hX))
    · rcases List.mem_cons.mp hW with e | e
      · rw [e]
      · have h1 := hs.1 W e
        have h2 := hm V List.mem_cons_self hv
        omega
/-- the occurrences of a level stand in order -/
theorem il_pw {a b : Option Nat} {n : Nat} : (py_il P a n b).Pairwise (fun V W => V.1 < W.1) := by
  unfold py_il py_fl
  rw [List.pairwise_map]
  refine List.Pairwise.filter _ ?_
  exact List.pairwise_lt_range'
theorem il_in (hP : py_ok P) {a b : Option Nat} {n : Nat} (hn : py_dm P n) {W : yW} (hW : W ∈ py_il P a n b) : py_lo P n ≤ W.1 ∧ W.1 < py_hi P n := by
  obtain ⟨q, h1, rfl, h3⟩ := il_mem hW
  have hw : py_wi P n (py_lf P q) = true := by
    cases hw : py_wi P n (py_lf P q)
    · rw [fx_wi hP _ (ok_lf hP h1) hw] at h3
      cases h3
    · rfl
  exact (wi_lf hP h1 n hn).mp hw
theorem rw_pw (hP : py_ok P) (p : Nat) : ∀ (l : List Nat) (a b : Nat), (∀ c, c ∈ l → py_dm P c) → py_run P a l b → (py_rw P p l).Pairwise (fun V W => V.1 < W.1) ∧ ∀ W, W ∈ py_rw P p l → a ≤ W.1 := by
  intro l
  induction l with
  | nil => intro a b _ _; exact ⟨List.Pairwise.nil, fun W h => by cases h⟩
  | cons c l ih =>
    intro a b hd hr
    obtain ⟨h1, h2⟩ := hr
    have hc := hd c List.mem_cons_self
    obtain ⟨g1, g2⟩ := ih _ _ (fun x hx => hd x (List.mem_cons_of_mem _ hx)) h2
    have h6 := ok_lohi hP hc
    unfold py_rw
    constructor
    · rw [List.pairwise_append]
      refine ⟨il_pw, ?_, ?_⟩
      · split
        · exact g1
        · exact List.Pairwise.nil
      · intro V hV W hW
        have q1 := il_in hP hc hV
        split at hW
        · have := g2 W hW
          omega
        · cases hW
    · intro W hW
      rcases List.mem_append.mp hW with q | q
      · have := il_in hP hc q
        omega
      · split at q
        · have := g2 W q
          omega
        · cases q
theorem an_pw (hP : py_ok P) (p k : Nat) : ∀ (l : List Nat) (a b : Nat), (∀ c, c ∈ l → py_dm P c) → py_run P a l b → (py_an2 P p k l).Pairwise (fun V W => V.1 < W.1) ∧ ∀ W, W ∈ py_an2 P p k l → a ≤ W.1 := by
  intro l
  induction l with
  | nil => intro a b _ _; exact ⟨List.Pairwise.nil, fun W h => by cases h⟩
  | cons c l ih =>
    intro a b hd hr
    obtain ⟨h1, h2⟩ := hr
    have hc := hd c List.mem_cons_self
    obtain ⟨g1, g2⟩ := ih _ _ (fun x hx => hd x (List.mem_cons_of_mem _ hx)) h2
    have h6 := ok_lohi hP hc
    rw [an_cons]
    constructor
    · rw [List.pairwise_append]
      refine ⟨?_, g1, ?_⟩
      · split
        · exact List.Pairwise.nil
        · exact il_pw
      · intro V hV W hW
        have := g2 W hW
        split at hV
        · cases hV
        · have q1 := il_in hP hc hV
          omega
    · intro W hW
      rcases List.mem_append.mp hW with q | q
      · split at q
        · cases q
        · have := il_in hP hc q
          omega
      · have := g2 W q
        omega
theorem lv_pw (hP : py_ok P) {k p : Nat} (hk : py_dm P k) (e : py_up P k = some p) : (py_lv P k).Pairwise (fun V W => V.1 < W.1) := by
  have hp := ok_pdm hP hk e
  have hfin := ok_fin hP hk e
  unfold py_lv
  rw [e]
  simp only
  by_cases q2 : py_kd P p = 2
  · rw [if_pos q2]
    have hr := ok_run hP hp (by omega)
    rw [hfin.1] at hr
    have hs := run_split hP _ _ _ _ (fun c hc => ok_kid hP hp (by rw [hfin.1]; simp [hc])) hr
    exact (rw_pw hP p _ _ _ (fun c hc => ok_kid hP hp (by rw [hfin.1]; simp [hc])) hs.2).1
  · rw [if_neg q2]
    by_cases q4 : py_kd P p = 4
    · rw [if_pos q4]
      exact (an_pw hP p k _ _ _ (fun c hc => ok_kid hP hp hc) (ok_run hP hp (by omega))).1
    · rw [if_neg q4]
      split
      · exact il_pw
      · exact List.Pairwise.nil
theorem avl_pw (hP : py_ok P) {k p : Nat} (hk : py_dm P k) (e : py_up P k = some p) : (py_avl P s k).Pairwise (fun V W => V.1 < W.1) := List.Pairwise.filter _ (lv_pw hP hk e)
/-- the lowest that is wanted is noted -/
theorem cl_note_15 {L : List yW} {a : Option Nat} {b : Option Nat} {w : Int32} {v : Option Nat} (hL : ∀ W, W ∈ L → W.1 < 16 ∧ W.2.1 = b ∧ W.2.2.1 = a) (hs : L.Pairwise (fun V W => V.1 < W.1)) (hv : v = a.map pa) (hfin : ∀ M1, zm_I M1 3 = zm_I M 3 → wk_noteHit_48 d wk v M1 = some (zm_setI (zm_setR M1 8 wk 7 v) 8 wk 6 (zo b))) : ∀ (m i : Nat) (M1 : zM), i + m = 16 → zm_I M1 3 = zm_I M 3 → zm_I M1 8 wk 5 = -1 → (∀ W, W ∈ L → zbt w W.1 = true → i ≤ W.1) → (∃ W, W ∈ L ∧ zbt w W.1 = true) → ∀ fuel, m < fuel → ∃ M', wk_noteHit_15 d fuel wk (zor (L.map (fun W => W.1)) &&& w) v (nI i) M1 = some M' ∧ wk_hit M' pa wk (L.find? (fun W => zbt w W.1)) ∧ zr (wh_W wk) M1 M' := by
  intro m
  induction m with
  | zero =>
    intro i M1 hi h3 h5 hlo hex fuel hf
    obtain ⟨W, hW, hw⟩ := hex
    have := hlo W hW hw
    have := (hL W hW).1
    omega
  | succ m ih =>
    intro i M1 hi h3 h5 hlo hex fuel hf
    cases fuel with
    | zero => cases hf
    | succ fuel =>
      have hbt : zbt (zor (L.map (fun W => W.1)) &&& w) i = ((L.map (fun W => W.1)).contains i && zbt w i) := by
        rw [zy_and, zor_bt (fun q hq => by
          obtain ⟨W, hW, rfl⟩ := List.mem_map.mp hq
          have := (hL W hW).1
          omega) (by omega)]
      rw [wk_noteHit_15, if_neg (show ¬ (16 : Int32) ≤ nI i from nI_ge (b := 16) (by omega) (by omega)), h5, if_pos rfl, zy_has _ (by omega), hbt]
      by_cases g : i ∈ L.map (fun W => W.1) ∧ zbt w i = true
      · obtain ⟨W, hW, rfl⟩ := List.mem_map.mp g.1
        have hc : (L.map (fun W => W.1)).contains W.1 = true := by simpa using g.1
        rw [hc, g.2]
        have hfd : L.find? (fun W => zbt w W.1) = some W := find_min hs hW g.2 hlo
        rw [hfd]
        cases fuel with
        | zero => omega
        | succ fuel =>
          obtain ⟨M2, hM2⟩ : ∃ Y, Y = zm_setI M1 8 wk 5 (nI W.1) := ⟨_, rfl⟩
          have h52 : zm_I M2 8 wk 5 = nI W.1 := by rw [hM2, pm_same]
          have h32 : zm_I M2 3 = zm_I M 3 := by
            rw [← h3]
            funext k j
            rw [hM2, pm_ne (by omega)]
          have hne : ¬ nI W.1 = -1 := pb_ne1 (by have := (hL W hW).1; omega)
          have hend : wk_noteHit_15 d (fuel + 1) wk (zor (L.map (fun W => W.1)) &&& w) v (nI (W.1 + 1)) M2 = wk_noteHit_48 d wk v M2 := by
            rw [wk_noteHit_15, h52, if_neg hne]
            split <;> rfl
          refine ⟨zm_setI (zm_setR M2 8 wk 7 v) 8 wk 6 (zo b), ?_, ⟨?_, ?_, ?_⟩, ?_⟩
          · rw [if_neg (by simp)]
            simp only [zlet, wk_noteHit_42, nI_1]
            rw [← hM2, hend, hfin M2 h32]
          · rw [pm_ne (by omega), pm_IR, h52]
          · rw [pm_same, (hL W hW).2.1]
          · rw [pm_RI, pr_same, hv, (hL W hW).2.2]
          · have z1 : zr (wh_W wk) M1 M2 := by rw [hM2]; exact zr_setI ⟨rfl, rfl, by omega, by omega⟩
            exact zr_trans z1 (zr_trans (zr_setR ⟨rfl, rfl, by omega, by omega⟩) (zr_setI ⟨rfl, rfl, by omega, by omega⟩))
      · have hc : ((L.map (fun W => W.1)).contains i && zbt w i) = false := by
          rw [Bool.eq_false_iff]
          intro y
          rw [Bool.and_eq_true] at y
          exact g ⟨by simpa using y.1, y.2⟩
        rw [hc, if_pos (by simp)]
        simp only [wk_noteHit_42, zlet, nI_1]
        refine ih (i + 1) M1 (by omega) h3 h5 ?_ hex fuel (by omega)
        intro W hW hw
        have h1 := hlo W hW hw
        have : W.1 ≠ i := fun y => g ⟨by rw [← y]; exact List.mem_map_of_mem hW, by rw [← y]; exact hw⟩
        omega
theorem cl_note {L : List yW} {a : Option Nat} {b : Option Nat} {w : Int32} {v : Option Nat} {h : Option yW} (hL : ∀ W, W ∈ L → W.1 < 16 ∧ W.2.1 = b ∧ W.2.2.1 = a) (hs : L.Pairwise (fun V W => V.1 < W.1)) (hv : v = a.map pa) (hfin : ∀ M1, zm_I M1 3 = zm_I M 3 → wk_noteHit_48 d wk v M1 = some (zm_setI (zm_setR M1 8 wk 7 v) 8 wk 6 (zo b))) (hh : wk_hit M pa wk h) (hh16 : ∀ W, h = some W → W.1 < 16) : ∃ M', wk_noteHit d wk (zor (L.map (fun W => W.1)) &&& w) v M = some M' ∧ wk_hit M' pa wk (h.or (L.find? (fun W => zbt w W.1))) ∧ zr (wh_W wk) M M' := by
  unfold wk_noteHit
  cases h with
  | some W =>
    have hne : ¬ nI W.1 = -1 := pb_ne1 (by have := hh16 W rfl; omega)
    rw [hh.1, if_neg hne]
    exact ⟨M, rfl, hh, zr_refl _ _⟩
  | none =>
    have hh5 : zm_I M 8 wk 5 = -1 := hh
    rw [hh5, if_pos rfl]
    have h100 := zLF_100
    have hbt : ∀ i, i < 32 → zbt (zor (L.map (fun W => W.1)) &&& w) i = ((L.map (fun W => W.1)).contains i && zbt w i) := by
      intro i hi
      rw [zy_and, zor_bt (fun q hq => by
        obtain ⟨W, hW, rfl⟩ := List.mem_map.mp hq
        have := (hL W hW).1
        omega) hi]
    by_cases g : ∃ W, W ∈ L ∧ zbt w W.1 = true
    · have hne : ¬ zor (L.map (fun W => W.1)) &&& w = 0 := by
        intro y
        obtain ⟨W, hW, hw⟩ := g
        have h16 := (hL W hW).1
        have : zbt (zor (L.map (fun W => W.1)) &&& w) W.1 = zbt 0 W.1 := congrArg (fun z => zbt z W.1) y
        rw [hbt _ (by omega), zy_0, hw, Bool.and_true] at this
        have hc : (L.map (fun W => W.1)).contains W.1 = true := by
          have := List.mem_map_of_mem (f := fun W : yW => W.1) hW
          simpa using this
        rw [hc] at this
        cases this
      rw [if_neg hne]
      exact cl_note_15 (M := M) hL hs hv hfin 16 0 M (by omega) rfl hh5 (fun W _ _ => Nat.zero_le _) g zLF (by omega)
    · have hfd : L.find? (fun W => zbt w W.1) = none := by
        rw [List.find?_eq_none]
        intro W hW hw
        exact g ⟨W, hW, hw⟩
      have h0 : zor (L.map (fun W => W.1)) &&& w = 0 := by
        refine zy_ext ?_
        intro i hi
        rw [hbt i hi, zy_0, Bool.eq_false_iff]
        intro y
        rw [Bool.and_eq_true] at y
        have y1 : i ∈ L.map (fun W => W.1) := by simpa using y.1
        obtain ⟨W, hW, rfl⟩ := List.mem_map.mp y1
        exact g ⟨W, hW, y.2⟩
      rw [h0, if_pos rfl, hfd]
      exact ⟨M, rfl, hh, zr_refl _ _⟩
theorem note_fin (hP : py_ok P) (hN : cN_x M pa P) {n : Nat} (hn : py_dm P n) : ∀ M1, zm_I M1 3 = zm_I M 3 → wk_noteHit_48 d wk (some (pa n)) M1 = some (zm_setI (zm_setR M1 8 wk 7 (some (pa n))) 8 wk 6 (zo (if py_kd P n = 5 then some (py_nb P n) else none))) := by
  intro M1 h3
  obtain ⟨ck5, _, _, _, _, c4, _⟩ := ck_v hP hn
  have e4 : (nI (ck (py_kd P n)) = 4) ↔ py_kd P n = 5 := (nI_eq (b := 4) (by omega) (by omega)).trans c4
  unfold wk_noteHit_48
  have k0 : zm_I (zm_setR M1 8 wk 7 (some (pa n))) 3 (pa n) 0 = nI (ck (py_kd P n)) := by rw [pm_IR, h3]; exact cN_kd hN hn
  simp only [zlet, k0, e4]
  by_cases k5 : py_kd P n = 5
  · have k1 : zm_I (zm_setR M1 8 wk 7 (some (pa n))) 3 (pa n) 1 = nI (py_nb P n) := by rw [pm_IR, h3]; exact cN_nb hN hn (.inr (.inr k5))
    rw [if_pos k5, if_pos k5, k1]
    rfl
  · rw [if_neg k5, if_neg k5]
    rfl
theorem note_fin0 : ∀ M1, zm_I M1 3 = zm_I M 3 → wk_noteHit_48 d wk none M1 = some (zm_setI (zm_setR M1 8 wk 7 none) 8 wk 6 (zo none)) := fun M1 _ => rfl
end
