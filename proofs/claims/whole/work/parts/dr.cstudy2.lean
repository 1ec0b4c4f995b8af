/-! THE CLASS: study -/
section
variable {M M' : zM} {pa : Nat → Nat} {P : yP} {d wy Q : Nat}
theorem wS_st (h : wS M pa Q P wy) (hf : zf (st_W wy Q) M M') : wS M' pa Q P wy := by
  have hq := h.2.2
  refine ⟨cX_zf h.1 hf ?_ ?_ ?_ ?_, wl_zf h.2.1 hf, hq⟩
  · rintro k j ((⟨e, _⟩ | ⟨e, _⟩) | ⟨e, _⟩) <;> cases e
  · rintro k j ((⟨e, _⟩ | ⟨e, _⟩) | ⟨e, _⟩) <;> cases e
  · rintro j hj ((⟨e, _⟩ | ⟨e, _⟩) | ⟨_, _, e, _⟩)
    · cases e
    · cases e
    · omega
  · rintro i j hi ((⟨e, _⟩ | ⟨_, e, _⟩) | ⟨e, _⟩)
    · cases e
    · omega
    · cases e
theorem wk_5 {l : List yK} {j : Nat} {v : Int32} (h : wk_h M wy l) : wk_h (zm_setI M 5 Q j v) wy l := by
  refine ⟨(pm_ne (by omega)).trans h.1, h.2.1, ?_⟩
  intro i x hx
  rw [pm_ne (by omega), pm_ne (by omega), pm_ne (by omega), pm_ne (by omega)]
  exact h.2.2 i x hx
theorem st_5 {j : Nat} {v : Int32} (hj : 14 ≤ j ∧ j ≤ 16) : zf (st_W wy Q) M (zm_setI M 5 Q j v) := zf_set (.inr ⟨rfl, rfl, hj.1, hj.2⟩)
theorem cl_study_39 (hP : py_ok P) (hd : 1 ≤ d) {b : Option Nat} (hb : ∀ o, b = some o → o < py_nl P) (kl12 : Nat → Option Nat → Int32 → zM → Option zM) (kl28 : Nat → Option Nat → Int32 → Int32 → zM → Option zM) {v2 : Int32} {j : Nat} {V : yK} (hV : (py_cw P b)[j]? = some V) : ∀ (u a : List yK) (M : zM) (n : Nat) (cl : Bool), (py_cw P b).take j = a ++ u → wS M pa Q P wy → wk_h M wy (py_cw P b) → zm_I M 5 Q 14 = nI n → zm_I M 5 Q 15 = zb cl → ∀ fuel, u.length < fuel → ∃ M', wy_study_39 kl12 kl28 d fuel wy (some Q) v2 (nI j) (nI a.length) M = kl28 wy (some Q) v2 (nI (j + 1)) M' ∧ zm_I M' 5 Q 14 = nI (n + (u.filter (fun W => py_cf1 P false b V.1 W.1)).length) ∧ zm_I M' 5 Q 15 = zb (cl && ((u.filter (fun W => py_cf1 P true b V.1 W.1)).length == 0)) ∧ zf (st_W wy Q) M M' ∧ wk_h M' wy (py_cw P b) := by
  intro u
  have h48 := cw_len hP hb
  have hj := (List.getElem?_eq_some_iff.mp hV).1
  induction u with
  | nil =>
    intro a M n cl e h hl h14 h15 fuel hf
    have hla := congrArg List.length e
    rw [List.length_take, List.append_nil] at hla
    cases fuel with
    | zero => cases hf
    | succ fuel =>
      refine ⟨M, ?_, by simpa using h14, by simpa using h15, zf_refl _ _, hl⟩
      rw [wy_study_39, if_pos ((le_i2 (by omega) (by omega)).mpr (by omega))]
      simp only [zlet, nI_1]
  | cons W u ih =>
    intro a M n cl e h hl h14 h15 fuel hf
    have hla := congrArg List.length e
    rw [List.length_take, List.length_append, List.length_cons] at hla
    have hW : (py_cw P b)[a.length]? = some W := by
      have : ((py_cw P b).take j)[a.length]? = some W := by rw [e]; simp
      rw [List.getElem?_take] at this
      split at this
      · exact this
      · cases this
    have mV : V ∈ py_cw P b := List.mem_of_getElem? hV
    have mW : W ∈ py_cw P b := List.mem_of_getElem? hW
    have ec : py_clk P W V = py_cf1 P false b V.1 W.1 := by
      rw [clk_sy, clk_both hP hb mV mW]
      rfl
    have eu : py_cf1 P true b V.1 W.1 = (W.1.1 != V.1.1 && py_cf1 P false b V.1 W.1) := by
      unfold py_cf1
      have : (V.1.1 != W.1.1) = (W.1.1 != V.1.1) := by
        rw [Bool.eq_iff_iff, bne_iff_ne, bne_iff_ne]
        exact ne_comm
      simp [this]
    cases fuel with
    | zero => cases hf
    | succ fuel =>
      have hf : u.length < fuel := by simp at hf; omega
      have e' : (py_cw P b).take j = (a ++ [W]) ++ u := by rw [e]; simp
      have el : (a ++ [W]).length = a.length + 1 := by simp
      have go : ∀ (M1 : zM) (n1 : Nat) (cl1 : Bool), wS M1 pa Q P wy → wk_h M1 wy (py_cw P b) → zm_I M1 5 Q 14 = nI n1 → zm_I M1 5 Q 15 = zb cl1 → zf (st_W wy Q) M M1 → n1 = n + (if py_cf1 P false b V.1 W.1 then 1 else 0) → cl1 = (cl && !py_cf1 P true b V.1 W.1) → ∃ M', wy_study_39 kl12 kl28 d fuel wy (some Q) v2 (nI j) (nI (a.length + 1)) M1 = kl28 wy (some Q) v2 (nI (j + 1)) M' ∧ zm_I M' 5 Q 14 = nI (n + ((W :: u).filter (fun W => py_cf1 P false b V.1 W.1)).length) ∧ zm_I M' 5 Q 15 = zb (cl && (((W :: u).filter (fun W => py_cf1 P true b V.1 W.1)).length == 0)) ∧ zf (st_W wy Q) M M' ∧ wk_h M' wy (py_cw P b) := by
        intro M1 n1 cl1 g1 g2 g3 g4 g5 g6 g7
        obtain ⟨M', k1, k2, k3, k4, k5⟩ := ih (a ++ [W]) M1 n1 cl1 e' g1 g2 g3 g4 fuel hf
        rw [el] at k1
        refine ⟨M', k1, ?_, ?_, zf_trans g5 k4, k5⟩
        · rw [k2, g6, List.filter_cons]
          cases py_cf1 P false b V.1 W.1
          · simp
          · simp only [if_true, List.length_cons]
            rw [show n + 1 + (u.filter (fun W => py_cf1 P false b V.1 W.1)).length = n + ((u.filter (fun W => py_cf1 P false b V.1 W.1)).length + 1) by omega]
        · rw [k3, g7, List.filter_cons]
          cases py_cf1 P true b V.1 W.1
          · simp
          · simp
      rw [wy_study_39, if_neg (fun g => by have := (le_i2 (by omega) (by omega)).mp g; omega), cl_clash hP hd h hl hW hV (cw_kok hP hb mW) (cw_kok hP hb mV), Option.bind_some, ec]
      cases c1 : py_cf1 P false b V.1 W.1
      · rw [if_pos (show zb false = 0 from rfl)]
        simp only [wy_study_92, zlet, nI_1]
        exact go M n cl h hl h14 h15 (zf_refl _ _) (by simp [c1]) (by rw [eu, c1]; simp)
      · rw [if_neg (show ¬ zb true = 0 by decide)]
        rw [c1, Bool.and_true] at eu
        obtain ⟨M2, hM2⟩ : ∃ Y, Y = zm_setI M 5 Q 14 (nI (n + 1)) := ⟨_, rfl⟩
        have f2 : zf (st_W wy Q) M M2 := by rw [hM2]; exact st_5 (by omega)
        have w2 := wS_st h f2
        have l2 : wk_h M2 wy (py_cw P b) := by rw [hM2]; exact wk_5 hl
        have a14 : zm_I M2 5 Q 14 = nI (n + 1) := by rw [hM2, pm_same]
        have a15 : zm_I M2 5 Q 15 = zb cl := by rw [hM2, pm_ne (by omega), h15]
        have fin : ∀ c : Bool, c = (cl && !py_cf1 P true b V.1 W.1) → ∃ M', wy_study_39 kl12 kl28 d fuel wy (some Q) v2 (nI j) (nI (a.length + 1)) (zm_setI M2 5 Q 15 (zb c)) = kl28 wy (some Q) v2 (nI (j + 1)) M' ∧ zm_I M' 5 Q 14 = nI (n + ((W :: u).filter (fun W => py_cf1 P false b V.1 W.1)).length) ∧ zm_I M' 5 Q 15 = zb (cl && (((W :: u).filter (fun W => py_cf1 P true b V.1 W.1)).length == 0)) ∧ zf (st_W wy Q) M M' ∧ wk_h M' wy (py_cw P b) := by
          intro c hc
          have f3 : zf (st_W wy Q) M (zm_setI M2 5 Q 15 (zb c)) := zf_trans f2 (st_5 (by omega))
          exact go _ (n + 1) c (wS_st h f3) (wk_5 l2) ((pm_ne (by omega)).trans a14) pm_same f3 (by simp [c1]) hc
        simp only [h14, nI_1, zlet]
        rw [← hM2]
        simp only [a15]
        cases cl
        · rw [if_pos (show zb false = 0 from rfl)]
          simp only [wy_study_88, wy_study_89, wy_study_92, zlet, nI_1]
          rw [if_pos (by simp)]
          exact fin false (by simp)
        · rw [if_neg (show ¬ zb true = 0 by decide), cl_isUnlike hP hd w2 l2 hW hV (cw_kok hP hb mW) (cw_kok hP hb mV), Option.bind_some]
          cases c2 : (W.1.1 != V.1.1)
          · rw [if_pos (show zb false = 0 from rfl)]
            simp only [wy_study_89, wy_study_92, zlet, nI_1]
            rw [if_pos (by simp)]
            exact fin true (by rw [eu, c2]; rfl)
          · rw [if_neg (show ¬ zb true = 0 by decide)]
            simp only [wy_study_88, wy_study_89, wy_study_92, zlet, nI_1]
            rw [if_pos (by simp)]
            exact fin false (by rw [eu, c2]; rfl)
theorem cl_study_28 (hP : py_ok P) (hd : 1 ≤ d) {b : Option Nat} (hb : ∀ o, b = some o → o < py_nl P) (kl12 : Nat → Option Nat → Int32 → zM → Option zM) {v2 : Int32} : ∀ (t pre : List yK) (M : zM) (n : Nat) (cl : Bool), py_cw P b = pre ++ t → wS M pa Q P wy → wk_h M wy (py_cw P b) → zm_I M 5 Q 14 = nI n → zm_I M 5 Q 15 = zb cl → ∀ fuel, t.length < fuel → ∃ M', wy_study_28 kl12 d fuel wy (some Q) v2 (nI pre.length) M = kl12 wy (some Q) (v2 + 1) M' ∧ zm_I M' 5 Q 14 = nI (n + py_pc (py_cf1 P false b) (pre.map (fun x => x.1)) (t.map (fun x => x.1))) ∧ zm_I M' 5 Q 15 = zb (cl && (py_pc (py_cf1 P true b) (pre.map (fun x => x.1)) (t.map (fun x => x.1)) == 0)) ∧ zf (st_W wy Q) M M' := by
  intro t
  have h48 := cw_len hP hb
  have h100 := zLF_100
  induction t with
  | nil =>
    intro pre M n cl e h hl h14 h15 fuel hf
    rw [List.append_nil] at e
    cases fuel with
    | zero => cases hf
    | succ fuel =>
      refine ⟨M, ?_, by simpa [py_pc] using h14, by simpa [py_pc] using h15, zf_refl _ _⟩
      rw [e] at hl h48
      rw [wy_study_28, hl.1, if_pos ((le_i2 (by omega) (by omega)).mpr (by omega))]
      rfl
  | cons V t ih =>
    intro pre M n cl e h hl h14 h15 fuel hf
    have hlen := congrArg List.length e
    rw [List.length_append, List.length_cons] at hlen
    have hV : (py_cw P b)[pre.length]? = some V := by rw [e]; simp
    have htk : (py_cw P b).take pre.length = [] ++ pre := by rw [e]; simp
    cases fuel with
    | zero => cases hf
    | succ fuel =>
      obtain ⟨M1, g1, g2, g3, g4, g5⟩ := cl_study_39 (d := d) (v2 := v2) hP hd hb kl12 (fun p0 p1 p2 p3 m => wy_study_28 kl12 d fuel p0 p1 p2 p3 m) hV pre [] M n cl htk h hl h14 h15 zLF (by omega)
      have g1 : wy_study_39 kl12 (fun p0 p1 p2 p3 m => wy_study_28 kl12 d fuel p0 p1 p2 p3 m) d zLF wy (some Q) v2 (nI pre.length) 0 M = wy_study_28 kl12 d fuel wy (some Q) v2 (nI (pre.length + 1)) M1 := g1
      obtain ⟨M', k1, k2, k3, k4⟩ := ih (pre ++ [V]) M1 _ _ (by rw [e]; simp) (wS_st h g4) g5 g2 g3 fuel (by simp at hf; omega)
      rw [List.length_append] at k1
      rw [List.map_append] at k2 k3
      have ep : ∀ c, py_pc (py_cf1 P c b) (pre.map (fun x => x.1)) ((V :: t).map (fun x => x.1)) = (pre.filter (fun W => py_cf1 P c b V.1 W.1)).length + py_pc (py_cf1 P c b) (pre.map (fun x => x.1) ++ [V].map (fun x => x.1)) (t.map (fun x => x.1)) := by
        intro c
        rw [show (V :: t).map (fun x => x.1) = V.1 :: t.map (fun x => x.1) from rfl, pc_cons, List.filter_map, List.length_map]
        rfl
      refine ⟨M', ?_, ?_, ?_, zf_trans g4 k4⟩
      · rw [wy_study_28, hl.1, if_neg (fun g => by have := (le_i2 (by omega) (by omega)).mp g; omega), g1]
        exact k1
      · rw [k2, ep, Nat.add_assoc]
      · rw [k3, ep, Bool.and_assoc]
        congr 2
        rw [Bool.eq_iff_iff, Bool.and_eq_true, beq_iff_eq, beq_iff_eq, beq_iff_eq]
        omega
theorem cl_study_12 (hP : py_ok P) (hd : 3 ≤ d) : ∀ (m k : Nat) (M : zM) (n : Nat) (cl : Bool), k + m = py_nl P + 1 → n ≤ k * 2304 → wS M pa Q P wy → zm_I M 5 Q 14 = nI n → zm_I M 5 Q 15 = zb cl → ∀ fuel, m < fuel → ∃ M', wy_study_12 d fuel wy (some Q) (zo (py_po k)) M = some M' ∧ zm_I M' 5 Q 14 = nI (n + py_cfs P false (List.range' k m)) ∧ zm_I M' 5 Q 15 = zb (cl && (py_cfs P true (List.range' k m) == 0)) ∧ zm_I M' 5 Q 16 = zb (n + py_cfs P false (List.range' k m) == 0) ∧ zf (st_W wy Q) M M' := by
  intro m
  have hnl := ok_nl hP
  have h100 := zLF_100
  induction m with
  | zero =>
    intro k M n cl hk hn h h14 h15 fuel hf
    have : k = py_nl P + 1 := by omega
    subst this
    cases fuel with
    | zero => cases hf
    | succ fuel =>
      have h2 : zm_I M 5 Q 2 = nI (py_nl P) := h.1.2.2.1.2.2.2.1.1
      have e0 : (nI n = 0) ↔ n = 0 := nI_eq (b := 0) (by omega) (by omega)
      refine ⟨zm_setI M 5 Q 16 (zb (n == 0)), ?_, ?_, ?_, ?_, st_5 (by omega)⟩
      · rw [wy_study_12]
        simp only [h2]
        rw [if_pos (show nI (py_nl P) ≤ zo (py_po (py_nl P + 1)) from (le_i2 (by omega) (by omega)).mpr (Nat.le_refl _)), h14]
        by_cases q : n = 0
        · rw [if_pos (e0.mpr q)]
          simp only [wy_study_123]
          rw [if_pos (by simp)]
          rw [q]
          rfl
        · rw [if_neg (fun y => q (e0.mp y))]
          simp only [wy_study_123]
          rw [if_pos (by simp)]
          have : (n == 0) = false := by simpa using q
          rw [this]
          rfl
      · rw [pm_ne (by omega), h14]
        rfl
      · rw [pm_ne (by omega), h15]
        simp [py_cfs]
      · rw [pm_same]
        rfl
  | succ m ih =>
    intro k M n cl hk hn h h14 h15 fuel hf
    cases fuel with
    | zero => cases hf
    | succ fuel =>
      have h2 : zm_I M 5 Q 2 = nI (py_nl P) := h.1.2.2.1.2.2.2.1.1
      have hb : ∀ o, py_po k = some o → o < py_nl P := by
        intro o ho
        cases k with
        | zero => cases ho
        | succ k =>
          have : k = o := by injection ho
          omega
      have hlt : ¬ nI (py_nl P) ≤ zo (py_po k) := by
        cases k with
        | zero =>
          have key : ∀ i : Fin 17, ¬ nI i.val ≤ zo (none : Option Nat) := by decide +kernel
          exact key ⟨py_nl P, by omega⟩
        | succ k => exact fun g => by have := (le_i2 (a := k) (m := py_nl P) (by omega) (by omega)).mp g; omega
      obtain ⟨M1, g1, g2, g3⟩ := cl_wlist (d := d) hP hd hb h
      have f1 : zf (st_W wy Q) M M1 := zf_mono g3 (fun t k j w => .inl w)
      have w1 := wS_st h f1
      have b14 : zm_I M1 5 Q 14 = nI n := by
        rw [g3.2.2.2.2.2.2 5 Q 14 (by rintro (⟨e, _⟩ | ⟨e, _⟩) <;> cases e)]; exact h14
      have b15 : zm_I M1 5 Q 15 = zb cl := by
        rw [g3.2.2.2.2.2.2 5 Q 15 (by rintro (⟨e, _⟩ | ⟨e, _⟩) <;> cases e)]; exact h15
      have h48 := cw_len hP hb
      have hfst := cw_fst hP hb
      have ple : py_cfp P false (py_po k) ≤ 2304 := by
        have := pc_le (py_cf1 P false (py_po k)) (py_ways P (py_po k)) []
        have hl2 := ways_len hP hb
        unfold py_cfp
        rw [List.length_nil, Nat.zero_add] at this
        have := Nat.mul_le_mul hl2 hl2
        omega
      have mid : ∃ M2, wy_study_28 (fun p0 p1 p2 m => wy_study_12 d fuel p0 p1 p2 m) d zLF wy (some Q) (zo (py_po k)) 1 M1 = wy_study_12 d fuel wy (some Q) (zo (py_po k) + 1) M2 ∧ zm_I M2 5 Q 14 = nI (n + py_cfp P false (py_po k)) ∧ zm_I M2 5 Q 15 = zb (cl && (py_cfp P true (py_po k) == 0)) ∧ zf (st_W wy Q) M1 M2 := by
        cases hc : py_cw P (py_po k) with
        | nil =>
          rw [hc] at hfst g2
          have hw0 : py_ways P (py_po k) = [] := hfst.symm
          have e0 : ∀ c, py_cfp P c (py_po k) = 0 := by
            intro c
            unfold py_cfp
            rw [hw0]
            rfl
          obtain ⟨f', hf'⟩ : ∃ f', zLF = f' + 1 := ⟨zLF - 1, by omega⟩
          refine ⟨M1, ?_, by rw [e0]; exact b14, by rw [e0]; simpa using b15, zf_refl _ _⟩
          rw [hf', wy_study_28, g2.1, if_pos (show nI ([] : List yK).length ≤ 1 by decide)]
          rfl
        | cons V t =>
          obtain ⟨M2, k1, k2, k3, k4⟩ := cl_study_28 (d := d) (v2 := zo (py_po k)) hP (by omega) hb (fun p0 p1 p2 m => wy_study_12 d fuel p0 p1 p2 m) t [V] M1 n cl hc w1 g2 b14 b15 zLF (by
            rw [hc, List.length_cons] at h48
            omega)
          have ec : ∀ c, py_cfp P c (py_po k) = py_pc (py_cf1 P c (py_po k)) ([V].map (fun x => x.1)) (t.map (fun x => x.1)) := by
            intro c
            unfold py_cfp
            rw [← hfst, hc, List.map_cons, pc_cons]
            simp
          exact ⟨M2, k1, by rw [ec]; exact k2, by rw [ec]; exact k3, k4⟩
      obtain ⟨M2, k1, k2, k3, k4⟩ := mid
      rw [po_s] at k1
      have hmul : (k + 1) * 2304 = k * 2304 + 2304 := by omega
      obtain ⟨M', q1, q2, q3, q4, q5⟩ := ih (k + 1) M2 _ _ (by omega) (by omega) (wS_st w1 k4) k2 k3 fuel (by omega)
      have ecs : ∀ c, py_cfs P c (List.range' k (m + 1)) = py_cfp P c (py_po k) + py_cfs P c (List.range' (k + 1) m) := by
        intro c
        rw [List.range'_succ]
        rfl
      refine ⟨M', ?_, ?_, ?_, ?_, zf_trans f1 (zf_trans k4 q5)⟩
      · rw [wy_study_12]
        simp only [h2]
        rw [if_neg hlt, g1, Option.bind_some, k1]
        exact q1
      · rw [q2, ecs, Nat.add_assoc]
      · rw [q3, ecs, Bool.and_assoc]
        congr 2
        rw [Bool.eq_iff_iff, Bool.and_eq_true, beq_iff_eq, beq_iff_eq, beq_iff_eq]
        omega
      · rw [q4, ecs, Nat.add_assoc]
theorem cl_study (hP : py_ok P) (hd : 4 ≤ d) (h : wS M pa Q P wy) : ∃ M', wy_study d wy (some Q) M = some M' ∧ zm_I M' 5 Q 14 = nI (py_cf P false) ∧ zm_I M' 5 Q 15 = zb (py_cf P true == 0) ∧ zm_I M' 5 Q 16 = zb (py_sure P) ∧ zf (st_W wy Q) M M' := by
  obtain ⟨d, rfl⟩ : ∃ d', d = d' + 1 := ⟨d - 1, by omega⟩
  have hnl := ok_nl hP
  have h100 := zLF_100
  obtain ⟨M2, hM2⟩ : ∃ Y, Y = zm_setI (zm_setI M 5 Q 14 0) 5 Q 15 1 := ⟨_, rfl⟩
  have f2 : zf (st_W wy Q) M M2 := by rw [hM2]; exact zf_trans (st_5 (by omega)) (st_5 (by omega))
  have a14 : zm_I M2 5 Q 14 = nI 0 := by rw [hM2, pm_ne (by omega), pm_same]; rfl
  have a15 : zm_I M2 5 Q 15 = zb true := by rw [hM2, pm_same]; rfl
  obtain ⟨M', g1, g2, g3, g4, g5⟩ := cl_study_12 (d := d) hP (by omega) (py_nl P + 1) 0 M2 0 true (by omega) (by omega) (wS_st h f2) a14 a15 zLF (by omega)
  rw [Nat.zero_add] at g2 g4
  refine ⟨M', ?_, g2, g3, g4, zf_trans f2 g5⟩
  show wy_study_b d wy (some Q) M = _
  unfold wy_study_b
  simp only [zlet]
  rw [← hM2]
  exact g1
end
