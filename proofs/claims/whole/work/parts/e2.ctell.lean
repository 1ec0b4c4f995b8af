/-! THE CLASS: times and parts that the walk tells; small numbers -/
def wk_4 (P : yP) (s : yS) : Prop := (∀ c t, c < py_nc P → py_to P c = some t → s.2.1 c ≤ t) ∧ (∀ a i, a < py_na P → 4 ≤ i → i < 32 → zbt (s.2.2 a) i = false)
section
variable {M M' : zM} {pa : Nat → Nat} {P : yP} {d wk Q B : Nat} {s : yS}
theorem zo_eq {x : Option Nat} {c : Nat} (hx : ∀ y, x = some y → y < 1000) (hc : c < 1000) : (zo x = nI c) ↔ x = some c := by
  cases x with
  | none =>
    constructor
    · intro e
      exact absurd e.symm (pb_ne1 (by omega))
    · intro e; cases e
  | some y =>
    have := hx y rfl
    constructor
    · intro e
      rw [(nI_eq (by omega) (by omega)).mp e]
    · intro e
      injection e with e
      rw [e]
      rfl
theorem ct_lt (hP : py_ok P) {o c : Nat} (ho : o < py_nl P) {b : Bool} (h : py_ct P o b = some c) : c < py_nc P := by
  have hx := ok_lf hP ho
  obtain ⟨_, w2⟩ := ca_what hP _ hx
  unfold py_ct at h
  cases h1 : py_ca P (py_lf P o) with
  | none => rw [h1] at h; cases h
  | some c1 =>
    rw [h1] at h
    have g1 := (w2 c1 h1).1
    simp only at h
    cases h2 : py_ca P (py_cn P c1) with
    | none =>
      rw [h2] at h
      cases b
      · have : c1 = c := by injection h
        omega
      · cases h
    | some e =>
      rw [h2] at h
      have g2 := ((ca_what hP _ (ok_cn hP g1)).2 e h2).1
      cases b
      · have : e = c := by injection h
        omega
      · have : c1 = c := by injection h
        omega
theorem cl_timeOf (hP : py_ok P) (h : wk_x M pa Q P wk s) (h0 : wk_0 P s) (hv : ∀ o, s.1 = some o → o < py_nl P) {c : Nat} (hc : c < py_nc P) : wk_timeOf d wk (nI c) M = some (nI (s.2.1 c), M) := by
  have hnc := ok_nc hP
  have hnl := ok_nl hP
  have ru := cR_ru h.1.2.2.1
  unfold wk_timeOf
  rw [h.2.2.2.2.1]
  cases hs : s.1 with
  | none =>
    rw [if_pos (show zo none = -1 from rfl), h0.1 c hc (fun o ho => by rw [hs] at ho; cases ho)]
    simp [wk_timeOf_44, wk_timeOf_45, wk_timeOf_60]
    rfl
  | some o =>
    have ho := hv o hs
    have hne : ¬ zo (some o) = -1 := pb_ne1 (by omega)
    have hz : z_in (zo (some o)) 16 := nI_in (c := o) (by omega) (by omega)
    have hcl : (zo (some o)).toNatClampNeg = o := nI_clamp (show o < 2 ^ 31 by omega)
    have hz8 : z_in (nI c) 8 := nI_in (by omega) (by omega)
    have e1 : (zo (py_ct P o false) = nI c) ↔ py_ct P o false = some c := zo_eq (fun y hy => by have := ct_lt hP ho hy; omega) (by omega)
    have e2 : (zo (py_ct P o true) = nI c) ↔ py_ct P o true = some c := zo_eq (fun y hy => by have := ct_lt hP ho hy; omega) (by omega)
    obtain ⟨o1, o2⟩ := h.1.2.2.2.2 o ho
    have hit := ct_iff hP ho hc
    have h40 : py_wi P (py_cn P c) (py_lf P o) = true → wk_timeOf_40 d wk (nI c) M = some (nI (s.2.1 c), M) := by
      intro hw
      unfold wk_timeOf_40 wk_timeOf_45 wk_timeOf_60
      rw [if_neg (show ¬ (1 : Int32) = 0 by decide)]
      simp only [h.2.1.1.1, h.2.1.1.2, if_pos hz8, nI_clamp (show c < 2 ^ 31 by omega), (h.2.2.2.2.2 o hs).1 c hc hw]
    rw [if_neg hne]
    simp only [h.2.2.1, ru.2.2.1.1, ru.2.2.1.2, ru.2.2.2.1.1, ru.2.2.2.1.2, if_pos hz, hcl, o1, o2, e1, e2]
    by_cases q1 : py_ct P o false = some c
    · rw [if_pos q1]
      exact h40 (hit.mp (.inl q1))
    · rw [if_neg q1]
      by_cases q2 : py_ct P o true = some c
      · rw [if_pos q2]
        exact h40 (hit.mp (.inr q2))
      · rw [if_neg q2]
        have hw : py_wi P (py_cn P c) (py_lf P o) = false := by
          cases hw : py_wi P (py_cn P c) (py_lf P o)
          · rfl
          · rcases hit.mpr hw with q | q
            · exact absurd q q1
            · exact absurd q q2
        rw [h0.1 c hc (fun o' ho' => by rw [hs] at ho'; injection ho' with ho'; rw [← ho']; exact hw)]
        simp [wk_timeOf_44, wk_timeOf_45, wk_timeOf_60]
        rfl
theorem cl_begunOf (hP : py_ok P) (h : wk_x M pa Q P wk s) (h0 : wk_0 P s) (hv : ∀ o, s.1 = some o → o < py_nl P) {a : Nat} (ha : a < py_na P) : wk_begunOf d wk (nI a) M = some (s.2.2 a, M) := by
  have hna := ok_na hP
  have hnl := ok_nl hP
  have ru := cR_ru h.1.2.2.1
  have hz4 : z_in (nI a) 4 := nI_in (by omega) (by omega)
  have hca := nI_clamp (show a < 2 ^ 31 by omega)
  unfold wk_begunOf
  simp only [h.2.2.1, ru.2.2.2.2.2.2.2.2.1, ru.2.2.2.2.2.2.2.2.2, if_pos hz4, hca, h.2.2.2.2.1, h.1.2.2.1.2.2.2.2.2.2.1 a ha]
  cases hs : s.1 with
  | none =>
    rw [if_pos (show zo none = -1 from rfl), h0.2 a ha (fun o ho => by rw [hs] at ho; cases ho)]
    simp [wk_begunOf_40, wk_begunOf_41, wk_begunOf_56]
  | some o =>
    have ho := hv o hs
    have hne : ¬ zo (some o) = -1 := pb_ne1 (by omega)
    have had := ok_an hP ha
    have h11 : zm_I M 3 (pa (py_an P a)) 11 = zor (py_in P (py_an P a)) := (h.1.2.1 _ had).2.2.2.1
    have hm : ∀ q, q ∈ py_in P (py_an P a) → q < 32 := by
      intro q hq
      unfold py_in at hq
      rw [List.mem_filter, List.mem_range'_1] at hq
      omega
    rw [if_neg hne]
    simp only [pb_zos, h11, zor_has hm (show o < 32 by omega)]
    have hin : o ∈ py_in P (py_an P a) ↔ py_wi P (py_an P a) (py_lf P o) = true := by
      unfold py_in
      rw [List.mem_filter, List.mem_range'_1]
      constructor
      · rintro ⟨_, g⟩; exact g
      · intro g; exact ⟨by omega, g⟩
    by_cases q : o ∈ py_in P (py_an P a)
    · rw [if_neg (by rw [if_pos q]; decide)]
      unfold wk_begunOf_41 wk_begunOf_56
      rw [if_neg (show ¬ (1 : Int32) = 0 by decide)]
      simp only [h.2.1.2.1, h.2.1.2.2, if_pos hz4, hca, (h.2.2.2.2.2 o hs).2 a ha (hin.mp q)]
    · rw [if_pos (by rw [if_neg q])]
      have hw : py_wi P (py_an P a) (py_lf P o) = false := by
        cases hw : py_wi P (py_an P a) (py_lf P o)
        · rfl
        · exact absurd (hin.mpr hw) q
      rw [h0.2 a ha (fun o' ho' => by rw [hs] at ho'; injection ho' with ho'; rw [← ho']; exact hw)]
      simp [wk_begunOf_40, wk_begunOf_41, wk_begunOf_56]
theorem w4_0 : wk_4 P py_s00 := ⟨fun _ _ _ _ => Nat.zero_le _, fun _ i _ _ _ => zy_0 i⟩
theorem w4_go (hP : py_ok P) (h : wk_4 P s) (hv : ∀ o, s.1 = some o → o < py_nl P) {W : yW} (hW : W ∈ py_avs P s) : wk_4 P (py_go P s W) := by
  obtain ⟨hWl, hWw⟩ := avs_lt hP hv hW
  obtain ⟨h1, hnone, hsome⟩ := go_way hP hv hWw
  have hlq := ok_lf hP h1
  have hcg : py_cg P s W = true := (List.mem_filter.mp hW).2
  have hab : ∀ b, W.2.2.1 = some b → py_wi P b (py_lf P W.1) = true ∧ b ≠ py_lf P W.1 := by
    intro b hb
    cases hs : s.1 with
    | none => rw [hnone hs] at hb; cases hb
    | some o =>
      obtain ⟨a, g1, _, _, _, _, g6⟩ := hsome o hs
      rw [g1] at hb
      injection hb with hb
      rw [← hb]
      exact g6
  have hl0t : ∀ c, (py_lv0 P s W.2.2.1).2.1 c ≤ s.2.1 c := by
    intro c
    unfold py_lv0
    cases s.1 with
    | none => exact Nat.le_refl _
    | some o =>
      simp only
      by_cases g : ∃ x, x ∈ py_pt P W.2.2.1 (py_lf P o) ∧ py_kd P x.1 = 5 ∧ py_nb P x.1 = c
      · rw [f0_t2 c _ s (.inr g)]; exact Nat.zero_le _
      · rw [f0_t c _ s (fun x hx q1 q2 => g ⟨x, hx, q1, q2⟩)]; exact Nat.le_refl _
  have hl0b : ∀ c i, zbt (s.2.2 c) i = false → zbt ((py_lv0 P s W.2.2.1).2.2 c) i = false := by
    intro c i hz
    unfold py_lv0
    cases s.1 with
    | none => exact hz
    | some o =>
      simp only
      by_cases g : ∃ x, x ∈ py_pt P W.2.2.1 (py_lf P o) ∧ py_kd P x.1 = 4 ∧ py_nb P x.1 = c
      · rw [f0_b2 c _ s (.inr g)]; exact zy_0 i
      · rw [f0_b c _ s (fun x hx q1 q2 => g ⟨x, hx, q1, q2⟩)]; exact hz
  refine ⟨?_, ?_⟩
  · intro c t hc ht
    have htt := ok_to hP hc ht
    show (py_en P (py_s2 P (py_lv0 P s W.2.2.1) W.2.2.1 W.2.2.2) W.2.2.1 W.1).2.1 c ≤ t
    unfold py_en
    rw [f1_t]
    split
    · exact htt.1
    · unfold py_s2
      cases ha : W.2.2.1 with
      | none =>
        simp only
        have := hl0t c
        rw [ha] at this
        have := h.1 c t hc ht
        omega
      | some a =>
        simp only
        have hl := hl0t c
        rw [ha] at hl
        have hst := h.1 c t hc ht
        split
        · rename_i k5
          show (if c = py_nb P a then _ else _) ≤ t
          split
          · rename_i q
            -- the turn had a time left
            cases hs : s.1 with
            | none => rw [hnone hs] at ha; cases ha
            | some o =>
              unfold py_cg at hcg
              rw [hs, ha] at hcg
              simp only [Bool.and_eq_true] at hcg
              have hg := hcg.2
              unfold py_gt at hg
              rw [if_neg (by omega), if_pos k5, ← q, ht] at hg
              have hg : s.2.1 c < t := by simpa using hg
              rw [← q]
              omega
          · omega
        · split
          · show (py_lv0 P s (some a)).2.1 c ≤ t
            omega
          · omega
  · intro b i hb hi4 hi
    have hbz := h.2 b i hb hi4 hi
    show zbt ((py_en P (py_s2 P (py_lv0 P s W.2.2.1) W.2.2.1 W.2.2.2) W.2.2.1 W.1).2.2 b) i = false
    have hbitz : ∀ n k, py_dm P n → py_kd P n = 4 → k ∈ py_ks P n → zbt (zbit (py_bf (py_ks P n) k).length) i = false := by
      intro n k hn k4 hk
      have h4 := ok_k4 hP hn k4
      have := (List.getElem?_eq_some_iff.mp (bf_at hk)).1
      rw [zy_bit (by omega) hi]
      have : i ≠ (py_bf (py_ks P n) k).length := by omega
      simpa using this
    have hs2 : zbt ((py_s2 P (py_lv0 P s W.2.2.1) W.2.2.1 W.2.2.2).2.2 b) i = false := by
      have hl := hl0b b i hbz
      unfold py_s2
      cases ha : W.2.2.1 with
      | none => rw [ha] at hl; exact hl
      | some a =>
        rw [ha] at hl
        simp only
        split
        · exact hl
        · split
          · rename_i k4
            show zbt (if b = py_nb P a then _ else _) i = false
            split
            · rename_i q
              have hin : W.2.2.2 ∈ py_ks P a := by
                cases hs : s.1 with
                | none => rw [hnone hs] at ha; cases ha
                | some o =>
                  obtain ⟨a', g1, _, g3, _⟩ := hsome o hs
                  rw [ha] at g1
                  injection g1 with g1
                  rw [g1]
                  exact g3
              have had := (wi_hg hP _ hlq (hab a ha).1).2
              rw [zy_or, ← q, hl, hbitz a _ had k4 hin]
              rfl
            · exact hl
          · exact hl
    have key : ∀ (l : List (Nat × Nat)) (u : yS), (∀ x, x ∈ l → py_kd P x.1 = 4 → zbt (zbit (py_bf (py_ks P x.1) x.2).length) i = false) → zbt (u.2.2 b) i = false → zbt ((l.foldl (fun s x => py_s1 P s x.1 x.2) u).2.2 b) i = false := by
      intro l
      induction l with
      | nil => intro u _ hu; exact hu
      | cons y l ih =>
        intro u hx hu
        rw [List.foldl_cons]
        refine ih _ (fun x hx' => hx x (List.mem_cons_of_mem _ hx')) ?_
        unfold py_s1
        split
        · exact hu
        · split
          · rename_i k4
            show zbt (if b = py_nb P y.1 then _ else _) i = false
            split
            · exact hx y List.mem_cons_self k4
            · exact hu
          · exact hu
    unfold py_en
    refine key _ _ ?_ hs2
    intro x hx k4
    have hm := (pt_mem (n := x.1) (k := x.2) hP _ hlq hab).mp hx
    exact hbitz x.1 x.2 (ok_pdm hP hm.1 hm.2.1) k4 (ok_pks hP hm.1 hm.2.1)
end
