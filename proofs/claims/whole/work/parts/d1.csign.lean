/-! THE CLASS's parser: signs, numbers -/
theorem num_no {least c p : Nat} {bs : List Nat} (h : ¬ ((48 ≤ c ∧ c ≤ 57) ∧ (least ≤ c - 48 ∨ (c - 48 = 0 ∧ least < 10) ∨ c - 48 = 1))) : pp_num least (c :: bs) p = .error p := by
  unfold pp_num
  exact if_neg h
theorem num_y0 {least c p : Nat} (h : (48 ≤ c ∧ c ≤ 57) ∧ (least ≤ c - 48 ∨ (c - 48 = 0 ∧ least < 10) ∨ c - 48 = 1)) : pp_num least [c] p = if least ≤ c - 48 then .ok (c - 48, [], p + 1) else .error (p + 1) := by
  unfold pp_num
  exact if_pos h
theorem num_y1 {least c f p : Nat} {bs : List Nat} (h : (48 ≤ c ∧ c ≤ 57) ∧ (least ≤ c - 48 ∨ (c - 48 = 0 ∧ least < 10) ∨ c - 48 = 1)) : pp_num least (c :: f :: bs) p = if 48 ≤ f ∧ f ≤ 57 then (if least ≤ 10 * (c - 48) + (f - 48) ∧ 10 * (c - 48) + (f - 48) ≤ 12 then .ok (10 * (c - 48) + (f - 48), bs, p + 2) else .error (p + 1)) else if least ≤ c - 48 then .ok (c - 48, f :: bs, p + 1) else .error (p + 1) := by
  unfold pp_num
  exact if_pos h
section
variable {ac b r pn d : Nat} {pa : Nat → Nat} {M : zM} {T : List Nat} {q : yQp}
theorem cb_tape (h : cb_x ac b M T r pa pn) {i x : Nat} (hx : T[i]? = some x) : zm_I M 20 (ac + 1) i = nI x := h.2.1.2.2 i x hx
/-- the byte at the place -/
theorem cs_head (h : cs_x ac b M T r pa pn q) {c : Nat} {bs : List Nat} (e : q.1 = c :: bs) : zm_I M 20 (ac + 1) q.2.1 = nI c ∧ q.2.1 < T.length := by
  obtain ⟨a, ha, hl⟩ := h.2.1.2
  rw [e] at ha
  have hx : T[q.2.1]? = some c := by rw [ha, ← hl]; simp
  exact ⟨cb_tape h.1 hx, (List.getElem?_eq_some_iff.mp hx).1⟩
theorem cs_len (h : cs_x ac b M T r pa pn q) : T.length = q.2.1 + q.1.length := by
  obtain ⟨a, ha, hl⟩ := h.2.1.2
  rw [ha, ← hl]
  simp
theorem cl_sign_0 (hok : tp_ok T) : ∀ (bs : List Nat) (p : Nat) (M : zM), cs_x ac b M T r pa pn (bs, p, q.2.2) → ∀ fuel, bs.length < fuel → ∃ M', rs_sign_0 d fuel b M = some (py_ht (py_sk bs p).1, M') ∧ cs_x ac b M' T r pa pn ((py_sk bs p).1, (py_sk bs p).2, q.2.2) ∧ zf (c6_W b) M M' := by
  have h400 := hok.1
  intro bs
  induction bs with
  | nil =>
    intro p M h fuel hf
    cases fuel with
    | zero => cases hf
    | succ fuel =>
      have hl := cs_len h
      have hp : zm_I M 6 b 6 = nI p := h.2.1.1
      have h5 : zm_I M 6 b 5 = nI T.length := h.1.2.2.2.2.1
      dsimp only [List.length_nil] at hl
      have hle : nI T.length ≤ nI p := nI_le (by omega) (by omega)
      refine ⟨M, ?_, h, zf_refl _ _⟩
      simp only [rs_sign_0, rs_sign_38, rs_sign_62, h5, hp, if_pos hle]
      rfl
  | cons c bs ih =>
    intro p M h fuel hf
    cases fuel with
    | zero => cases hf
    | succ fuel =>
      have hl := cs_len h
      have hp : zm_I M 6 b 6 = nI p := h.2.1.1
      have h5 : zm_I M 6 b 5 = nI T.length := h.1.2.2.2.2.1
      have h4 : zm_R M 6 b 4 = some (ac + 1) := h.1.2.2.2.1
      have hL : zm_L M 20 (ac + 1) = 400 := h.1.2.1.1
      obtain ⟨hc, hpl⟩ := cs_head h rfl
      dsimp only at hc hpl
      dsimp only [List.length_cons] at hl
      have hlt : ¬ nI T.length ≤ nI p := nI_ge (by omega) (by omega)
      have hz : z_in (nI p) 400 := nI_in (by omega) (by omega)
      have hc256 : c < 256 := by
        obtain ⟨a, ha, _⟩ := h.2.1.2
        exact (hok.2 c (by rw [ha]; simp)).2
      have e32 : (nI c = 32) ↔ c = 32 := nI_eq (b := 32) (by omega) (by omega)
      simp only [rs_sign_0, rs_sign_38, rs_sign_62, h5, hp, if_neg hlt, h4, hL, if_pos hz, nI_clamp (show p < 2 ^ 31 by omega), hc, e32, zlet, nI_1]
      unfold py_sk
      by_cases e : c = 32
      · rw [if_pos e, if_pos e]
        have hfz : zf (c6_W b) M (zm_setI M 6 b 6 (nI (p + 1))) := zf_set ⟨rfl, rfl, .inl rfl⟩
        have h2 : cs_x ac b (zm_setI M 6 b 6 (nI (p + 1))) T r pa pn (bs, p + 1, q.2.2) := by
          refine cs_at (q := (c :: bs, p, q.2.2)) h hfz ⟨pm_same, ?_⟩
          obtain ⟨a, ha, hl⟩ := h.2.1.2
          exact ⟨a ++ [c], by rw [ha]; simp, by simp [hl]⟩
        obtain ⟨M', g1, g2, g3⟩ := ih (p + 1) _ h2 fuel (by simp at hf; omega)
        exact ⟨M', g1, g2, zf_trans hfz g3⟩
      · rw [if_neg e, if_neg e]
        exact ⟨M, rfl, h, zf_refl _ _⟩
theorem cl_sign (hok : tp_ok T) (h : cs_x ac b M T r pa pn q) : ∃ M', rs_sign d b M = some (py_ht (py_sk q.1 q.2.1).1, M') ∧ cs_x ac b M' T r pa pn (pb_skip q) ∧ zf (c6_W b) M M' ∧ (∀ x, x ∈ (py_sk q.1 q.2.1).1 → x < 256) := by
  have hLF := zLF_402
  have h400 := hok.1
  have hl := cs_len h
  obtain ⟨M', g1, g2, g3⟩ := cl_sign_0 (d := d) (q := q) hok q.1 q.2.1 M h zLF (by omega)
  refine ⟨M', g1, g2, g3, ?_⟩
  intro x hx
  obtain ⟨a, ha, _⟩ := g2.2.1.2
  exact (hok.2 x (by rw [ha]; simp [hx])).2
/-- a byte is passed over -/
theorem cs_step {c : Nat} {bs : List Nat} {p : Nat} (h : cs_x ac b M T r pa pn (c :: bs, p, q.2.2)) : cs_x ac b (zm_setI M 6 b 6 (nI (p + 1))) T r pa pn (bs, p + 1, q.2.2) ∧ zf (c6_W b) M (zm_setI M 6 b 6 (nI (p + 1))) := by
  have hfz : zf (c6_W b) M (zm_setI M 6 b 6 (nI (p + 1))) := zf_set ⟨rfl, rfl, .inl rfl⟩
  refine ⟨?_, hfz⟩
  refine cs_at (q := (c :: bs, p, q.2.2)) h hfz ⟨pm_same, ?_⟩
  obtain ⟨a, ha, hl⟩ := h.2.1.2
  exact ⟨a ++ [c], by rw [ha]; simp, by simp [hl]⟩
theorem cl_isDigit {x : Nat} (hb : x < 256) : rs_isDigit d (nI x) M = some (zb (decide (48 ≤ x ∧ x ≤ 57)), M) := by
  unfold rs_isDigit rs_isDigit_16 rs_isDigit_17
  by_cases c1 : x < 48
  · rw [if_pos (show nI x < 48 from nI_lt (b := 48) c1 (by omega)), decide_eq_false (by omega)]
    rfl
  · rw [if_neg (show ¬ nI x < 48 from nI_nlt (b := 48) (by omega) (by omega))]
    by_cases c2 : 57 < x
    · rw [if_pos (show (57 : Int32) < nI x from nI_lt (a := 57) c2 (by omega)), decide_eq_false (by omega)]
      rfl
    · rw [if_neg (show ¬ (57 : Int32) < nI x from nI_nlt (a := 57) (by omega) (by omega)), decide_eq_true (by omega)]
      rfl
theorem cl_isDigit1 : rs_isDigit d (-1) M = some (0, M) := by
  unfold rs_isDigit rs_isDigit_16 rs_isDigit_17
  rw [if_pos (by decide)]
  simp
theorem cl_isLetter {x : Nat} (hb : x < 256) : rs_isLetter d (nI x) M = some (zb (decide (97 ≤ x ∧ x ≤ 122)), M) := by
  unfold rs_isLetter rs_isLetter_16 rs_isLetter_17
  by_cases c1 : x < 97
  · rw [if_pos (show nI x < 97 from nI_lt (b := 97) c1 (by omega)), decide_eq_false (by omega)]
    rfl
  · rw [if_neg (show ¬ nI x < 97 from nI_nlt (b := 97) (by omega) (by omega))]
    by_cases c2 : 122 < x
    · rw [if_pos (show (122 : Int32) < nI x from nI_lt (a := 122) c2 (by omega)), decide_eq_false (by omega)]
      rfl
    · rw [if_neg (show ¬ (122 : Int32) < nI x from nI_nlt (a := 122) (by omega) (by omega)), decide_eq_true (by omega)]
      rfl
theorem cl_isLetter1 : rs_isLetter d (-1) M = some (0, M) := by
  unfold rs_isLetter rs_isLetter_16 rs_isLetter_17
  rw [if_pos (by decide)]
  simp
theorem cl_canBegin {v least : Nat} (hv : v < 10) (hl : least ≤ 12) : rs_canBegin d (nI v) (nI least) M = some (zb (decide (least ≤ v ∨ (v = 0 ∧ least < 10) ∨ v = 1)), M) := by
  have key : ∀ (v : Fin 10) (l : Fin 13), rs_canBegin d (nI v.val) (nI l.val) M = some (zb (decide (l.val ≤ v.val ∨ (v.val = 0 ∧ l.val < 10) ∨ v.val = 1)), M) := by
    intro v l
    have e1 : (nI l.val ≤ nI v.val) ↔ l.val ≤ v.val := by
      constructor
      · intro h
        by_cases g : l.val ≤ v.val
        · exact g
        · exact absurd h (nI_ge (by omega) (by omega))
      · intro h
        exact nI_le (by omega) (by omega)
    have e2 : (nI v.val = 0) ↔ v.val = 0 := nI_eq (b := 0) (by omega) (by omega)
    have e3 : (nI l.val ≤ 9) ↔ l.val ≤ 9 := by
      constructor
      · intro h
        by_cases g : l.val ≤ 9
        · exact g
        · exact absurd h (nI_ge (a := 9) (by omega) (by omega))
      · intro h
        exact nI_le (b := 9) (by omega) (by omega)
    have e4 : (nI v.val = 1) ↔ v.val = 1 := nI_eq (b := 1) (by omega) (by omega)
    unfold rs_canBegin rs_canBegin_20 rs_canBegin_15 rs_canBegin_25
    simp only [e1, e2, e3, e4]
    by_cases c1 : l.val ≤ v.val
    · rw [if_pos c1, decide_eq_true (.inl c1)]; rfl
    · rw [if_neg c1]
      by_cases c4 : v.val = 1
      · rw [decide_eq_true (.inr (.inr c4)), if_neg (show ¬ v.val = 0 by omega), if_pos c4]; rfl
      · by_cases c2 : v.val = 0
        · rw [if_pos c2]
          by_cases c3 : l.val ≤ 9
          · rw [if_pos c3, decide_eq_true (.inr (.inl ⟨c2, by omega⟩))]; rfl
          · rw [if_neg c3, if_neg c4, decide_eq_false (by omega)]; rfl
        · rw [if_neg c2, if_neg c4, decide_eq_false (by omega)]; rfl
  exact key ⟨v, hv⟩ ⟨least, by omega⟩
/-- a number -/
theorem cl_amount (hok : tp_ok T) (h : cs_x ac b M T r pa pn q) {least : Nat} (hle : least ≤ 12) (hd : 1 ≤ d) : ∃ res M', rs_amount d b (nI least) M = some (res, M') ∧ zf (c6_W b) M M' ∧ ((∃ e, pp_num least (py_sk q.1 q.2.1).1 (py_sk q.1 q.2.1).2 = .error e ∧ res = -1 ∧ zm_I M' 6 b 7 = nI e) ∨ (∃ x, pp_num least (py_sk q.1 q.2.1).1 (py_sk q.1 q.2.1).2 = .ok x ∧ res = nI x.1 ∧ cs_x ac b M' T r pa pn (x.2.1, x.2.2, q.2.2))) := by
  have h400 := hok.1
  obtain ⟨d, rfl⟩ : ∃ d', d = d' + 1 := ⟨d - 1, by omega⟩
  have eb : rs_amount (d + 1) b (nI least) M = rs_amount_b d b (nI least) M := rfl
  rw [eb]
  unfold rs_amount_b
  obtain ⟨M1, g1, g2, g3, g4⟩ := cl_sign (d := d) hok h
  rw [g1]
  simp only [Option.bind_some]
  have hp : zm_I M1 6 b 6 = nI (py_sk q.1 q.2.1).2 := g2.2.1.1
  have z7 : zf (c6_W b) M (zm_setI M1 6 b 7 (nI (py_sk q.1 q.2.1).2)) := zf_trans g3 (zf_set ⟨rfl, rfl, .inr rfl⟩)
  have hbad : rs_amount_23 d b M1 = some (-1, zm_setI M1 6 b 7 (nI (py_sk q.1 q.2.1).2)) := by
    unfold rs_amount_23
    rw [hp]
    rfl
  cases e : (py_sk q.1 q.2.1).1 with
  | nil =>
    simp only [py_ht, cl_isDigit1, Option.bind_some, if_true, hbad]
    exact ⟨_, _, rfl, z7, .inl ⟨_, rfl, rfl, pm_same⟩⟩
  | cons c bs =>
    have hc : c < 256 := g4 c (by rw [e]; simp)
    simp only [py_ht, cl_isDigit hc, Option.bind_some]
    by_cases q1 : 48 ≤ c ∧ c ≤ 57
    · rw [decide_eq_true q1, pb_zbt, if_neg (show ¬ (1 : Int32) = 0 by decide)]
      have e48 : nI c - 48 = nI (c - 48) := pk_sub (a := c) (b := 48) (by omega)
      rw [e48, cl_canBegin (by omega) hle]
      simp only [Option.bind_some]
      by_cases q2 : least ≤ c - 48 ∨ (c - 48 = 0 ∧ least < 10) ∨ c - 48 = 1
      · rw [decide_eq_true q2, pb_zbt, if_neg (show ¬ (1 : Int32) = 0 by decide)]
        have g2' : cs_x ac b M1 T r pa pn (c :: bs, (py_sk q.1 q.2.1).2, q.2.2) := by
          have : pb_skip q = (c :: bs, (py_sk q.1 q.2.1).2, q.2.2) := by
            unfold pb_skip
            rw [e]
          rw [← this]
          exact g2
        obtain ⟨s1, s2⟩ := cs_step (q := q) g2'
        have hl := cs_len s1
        have h5 : zm_I (zm_setI M1 6 b 6 (nI ((py_sk q.1 q.2.1).2 + 1))) 6 b 5 = nI T.length := s1.1.2.2.2.2.1
        have h4 : zm_R (zm_setI M1 6 b 6 (nI ((py_sk q.1 q.2.1).2 + 1))) 6 b 4 = some (ac + 1) := s1.1.2.2.2.1
        have hL : zm_L (zm_setI M1 6 b 6 (nI ((py_sk q.1 q.2.1).2 + 1))) 20 (ac + 1) = 400 := s1.1.2.1.1
        have hp6 : zm_I (zm_setI M1 6 b 6 (nI ((py_sk q.1 q.2.1).2 + 1))) 6 b 6 = nI ((py_sk q.1 q.2.1).2 + 1) := pm_same
        have z1 : zf (c6_W b) M (zm_setI M1 6 b 6 (nI ((py_sk q.1 q.2.1).2 + 1))) := zf_trans g3 s2
        simp only [zlet, hp, nI_1, h5, hp6]
        have h104 : ∀ (v : Nat) (v4 : Int32), v < 100 → rs_amount_104 d b (nI least) (nI v) v4 (zm_setI M1 6 b 6 (nI ((py_sk q.1 q.2.1).2 + 1))) = (if least ≤ v ∧ v ≤ 12 then (if v4 = 0 then some (nI v, zm_setI M1 6 b 6 (nI ((py_sk q.1 q.2.1).2 + 1))) else some (nI v, zm_setI (zm_setI M1 6 b 6 (nI ((py_sk q.1 q.2.1).2 + 1))) 6 b 6 (nI ((py_sk q.1 q.2.1).2 + 2)))) else some (-1, zm_setI (zm_setI M1 6 b 6 (nI ((py_sk q.1 q.2.1).2 + 1))) 6 b 7 (nI ((py_sk q.1 q.2.1).2 + 1)))) := by
          intro v v4 hv
          unfold rs_amount_104 rs_amount_115 rs_amount_140
          simp only [zlet, hp6, nI_1]
          by_cases w1 : 12 < v
          · rw [if_pos (show (12 : Int32) < nI v from nI_lt (a := 12) w1 (by omega)), if_neg (show ¬ (least ≤ v ∧ v ≤ 12) by omega)]
          · rw [if_neg (show ¬ (12 : Int32) < nI v from nI_nlt (a := 12) (by omega) (by omega))]
            by_cases w2 : least ≤ v
            · rw [if_pos (show nI least ≤ nI v from nI_le w2 (by omega)), if_pos (show least ≤ v ∧ v ≤ 12 from ⟨w2, by omega⟩)]
            · rw [if_neg (show ¬ nI least ≤ nI v from nI_ge (by omega) (by omega)), if_neg (show ¬ (least ≤ v ∧ v ≤ 12) by omega)]
        have zb7 : zf (c6_W b) M (zm_setI (zm_setI M1 6 b 6 (nI ((py_sk q.1 q.2.1).2 + 1))) 6 b 7 (nI ((py_sk q.1 q.2.1).2 + 1))) := zf_trans z1 (zf_set ⟨rfl, rfl, .inr rfl⟩)
        have hone : ∃ res M', rs_amount_78 d b (nI least) (nI (c - 48)) (zm_setI M1 6 b 6 (nI ((py_sk q.1 q.2.1).2 + 1))) = some (res, M') ∧ zf (c6_W b) M M' ∧ ((∃ e, (if least ≤ c - 48 then Except.ok (c - 48, bs, (py_sk q.1 q.2.1).2 + 1) else .error ((py_sk q.1 q.2.1).2 + 1) : Except Nat (Nat × List Nat × Nat)) = .error e ∧ res = -1 ∧ zm_I M' 6 b 7 = nI e) ∨ (∃ x, (if least ≤ c - 48 then Except.ok (c - 48, bs, (py_sk q.1 q.2.1).2 + 1) else .error ((py_sk q.1 q.2.1).2 + 1) : Except Nat (Nat × List Nat × Nat)) = .ok x ∧ res = nI x.1 ∧ cs_x ac b M' T r pa pn (x.2.1, x.2.2, q.2.2))) := by
          unfold rs_amount_78 rs_amount_79
          rw [if_pos rfl, h104 _ _ (by omega)]
          by_cases w : least ≤ c - 48
          · rw [if_pos w, if_pos (show least ≤ c - 48 ∧ c - 48 ≤ 12 from ⟨w, by omega⟩), if_pos rfl]
            exact ⟨_, _, rfl, z1, .inr ⟨_, rfl, rfl, s1⟩⟩
          · rw [if_neg w, if_neg (show ¬ (least ≤ c - 48 ∧ c - 48 ≤ 12) from fun x => w x.1)]
            exact ⟨_, _, rfl, zb7, .inl ⟨_, rfl, rfl, pm_same⟩⟩
        cases bs with
        | nil =>
          dsimp only [List.length_nil] at hl
          rw [if_pos (show nI T.length ≤ nI ((py_sk q.1 q.2.1).2 + 1) from nI_le (by omega) (by omega)), num_y0 ⟨q1, q2⟩]
          exact hone
        | cons f bs2 =>
          dsimp only [List.length_cons] at hl
          obtain ⟨hf1, hf2⟩ := cs_head s1 rfl
          have hf1 : zm_I (zm_setI M1 6 b 6 (nI ((py_sk q.1 q.2.1).2 + 1))) 20 (ac + 1) ((py_sk q.1 q.2.1).2 + 1) = nI f := hf1
          have hf256 : f < 256 := g4 f (by rw [e]; simp)
          have hz : z_in (nI ((py_sk q.1 q.2.1).2 + 1)) 400 := nI_in (by omega) (by omega)
          rw [if_neg (show ¬ nI T.length ≤ nI ((py_sk q.1 q.2.1).2 + 1) from nI_ge (by omega) (by omega)), num_y1 ⟨q1, q2⟩]
          simp only [h4, hL, if_pos hz, nI_clamp (show (py_sk q.1 q.2.1).2 + 1 < 2 ^ 31 by omega), hf1, cl_isDigit hf256, Option.bind_some]
          by_cases q3 : 48 ≤ f ∧ f ≤ 57
          · rw [decide_eq_true q3, pb_zbt, if_neg (show ¬ (1 : Int32) = 0 by decide), if_pos q3]
            have ev : (nI (c - 48) * 10 + nI f) - 48 = nI (10 * (c - 48) + (f - 48)) := by
              have a1 : nI (c - 48) * 10 = nI ((c - 48) * 10) := pk_mul (c - 48) 10
              rw [a1, nI_add]
              have a2 : nI ((c - 48) * 10 + f) - 48 = nI ((c - 48) * 10 + f - 48) := pk_sub (a := (c - 48) * 10 + f) (b := 48) (by omega)
              rw [a2]
              congr 1
              omega
            have h79 : rs_amount_79 d b (nI least) (nI (c - 48)) 1 (zm_setI M1 6 b 6 (nI ((py_sk q.1 q.2.1).2 + 1))) = rs_amount_104 d b (nI least) (nI (10 * (c - 48) + (f - 48))) 1 (zm_setI M1 6 b 6 (nI ((py_sk q.1 q.2.1).2 + 1))) := by
              unfold rs_amount_79
              simp only [if_neg (show ¬ (1 : Int32) = 0 by decide), h4, hL, hp6, if_pos hz, nI_clamp (show (py_sk q.1 q.2.1).2 + 1 < 2 ^ 31 by omega), hf1, ev, zlet]
            rw [h79, h104 _ _ (by omega)]
            by_cases w : least ≤ 10 * (c - 48) + (f - 48) ∧ 10 * (c - 48) + (f - 48) ≤ 12
            · rw [if_pos w, if_pos w, if_neg (show ¬ (1 : Int32) = 0 by decide)]
              obtain ⟨s3, s4⟩ := cs_step (q := q) s1
              exact ⟨_, _, rfl, zf_trans z1 s4, .inr ⟨_, rfl, rfl, s3⟩⟩
            · rw [if_neg w, if_neg w]
              exact ⟨_, _, rfl, zb7, .inl ⟨_, rfl, rfl, pm_same⟩⟩
          · rw [decide_eq_false q3, pb_zbf, if_pos rfl, if_neg q3]
            exact hone
      · rw [decide_eq_false q2, pb_zbf, if_pos rfl, hbad]
        exact ⟨_, _, rfl, z7, .inl ⟨_, num_no (fun x => q2 x.2), rfl, pm_same⟩⟩
    · rw [decide_eq_false q1, pb_zbf, if_pos rfl, hbad]
      exact ⟨_, _, rfl, z7, .inl ⟨_, num_no (fun x => q1 x.1), rfl, pm_same⟩⟩
end
