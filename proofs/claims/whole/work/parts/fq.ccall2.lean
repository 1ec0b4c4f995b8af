/-! THE CLASS: calls that only look at rules -/
theorem zb_sh (b : Bool) {i : Nat} (hi : i < 8) (A : List Nat) : zor A ||| (zb b <<< (nI i &&& 31)) = zor (A ++ (if b = true then [i] else [])) := by
  cases b with
  | true => exact zor_snoc A i
  | false =>
    have key : ∀ i : Fin 8, zb false <<< (nI i.val &&& 31) = (0 : Int32) := by decide +kernel
    rw [key ⟨i, hi⟩, if_neg (by decide), List.append_nil]
    exact Int32.or_zero
theorem wi_top {P : yP} (h : py_ok P) : ∀ x, py_dm P x → py_wi P (py_rt P) x = true := ok_climb h _ (wi_self h (ok_rt h)) (fun k p hk e ih => wi_par h hk e ih)
def py_ayr (P : yP) (w : Int32) : List Nat → Nat → Int32
  | [], n => if w = 0 then nI n else -1
  | c :: b, n => if nI (n + 1) = w then zor (py_in P c) else py_ayr P w b (n + 1)
theorem ayr_none {P : yP} {w : Int32} (h : zin w 5 = none) : ∀ (b : List Nat) (n : Nat), n + b.length ≤ 4 → py_ayr P w b n = -1 := by
  intro b
  induction b with
  | nil =>
    intro n hn
    have q0 : ¬ w = 0 := zin_w (by omega) h (i := 0) (by omega)
    rw [py_ayr, if_neg q0]
  | cons c b ih =>
    intro n hn
    rw [List.length_cons] at hn
    rw [py_ayr, if_neg (fun y => zin_w (by omega) h (i := n + 1) (by omega) y.symm)]
    exact ih (n + 1) (by omega)
theorem ayr_some {P : yP} {k : Nat} (hk : k < 5) : ∀ (b : List Nat) (n : Nat), n + b.length ≤ 4 → py_ayr P (nI k) b n = if k = 0 then nI (n + b.length) else if n < k then (match b[k - 1 - n]? with
    | none => -1
    | some c => zor (py_in P c)) else -1 := by
  intro b
  induction b with
  | nil =>
    intro n hn
    have c0 : (nI k = 0) ↔ k = 0 := nI_eq (b := 0) (by omega) (by omega)
    rw [py_ayr]
    by_cases q : k = 0
    · rw [if_pos (c0.mpr q), if_pos q]; rfl
    · rw [if_neg (fun y => q (c0.mp y)), if_neg q]
      simp
  | cons c b ih =>
    intro n hn
    rw [List.length_cons] at hn
    have c1 : (nI (n + 1) = nI k) ↔ n + 1 = k := nI_eq (by omega) (by omega)
    rw [py_ayr, ih (n + 1) (by omega)]
    by_cases q : n + 1 = k
    · rw [if_pos (c1.mpr q), if_neg (by omega), if_pos (by omega), show k - 1 - n = 0 by omega]
      rfl
    · rw [if_neg (fun y => q (c1.mp y))]
      by_cases q0 : k = 0
      · rw [if_pos q0, if_pos q0, List.length_cons]
        congr 1
        omega
      · rw [if_neg q0, if_neg q0]
        by_cases q2 : n < k
        · rw [if_pos (by omega), if_pos q2, show k - 1 - n = k - 1 - (n + 1) + 1 by omega, List.getElem?_cons_succ]
        · rw [if_neg (by omega), if_neg q2]
section
variable {M : zM} {pa : Nat → Nat} {P : yP} {Q d b R : Nat} {Ps : Nat → yP}
theorem cl_clear_4 (h : cS_x M pa b R Ps) : ∀ (m i : Nat) (A : List Nat), i + m = R → ∀ fuel, m < fuel → rs_clearOnes_4 d fuel b (zor A) (nI i) M = some (zor (A ++ (List.range' i m).filter (fun r => py_cf (Ps r) true == 0)), M) := by
  obtain ⟨h1, h2, h3, h4⟩ := h
  intro m
  induction m with
  | zero =>
    intro i A e fuel hf
    cases fuel with
    | zero => cases hf
    | succ fuel =>
      rw [rs_clearOnes_4, h2, if_pos ((le_i2 (by omega) (by omega)).mpr (by omega))]
      simp
  | succ m ih =>
    intro i A e fuel hf
    cases fuel with
    | zero => cases hf
    | succ fuel =>
      have hz : z_in (nI i) 8 := nI_in (by omega) (by omega)
      have e1 : nI i + 1 = nI (i + 1) := nI_add i 1
      rw [rs_clearOnes_4, h2, if_neg (fun y => by have := (le_i2 (by omega) (by omega)).mp y; omega)]
      simp only [h1.1.1, h1.1.2, if_pos hz, nI_clamp (show i < 2 ^ 31 by omega), (h1.2.2.1 i (by omega)).1, (h4 i (by omega)).2.2.1, cr_bit_zb, Option.bind_some, zlet, zb_sh _ (show i < 8 by omega), e1]
      rw [ih (i + 1) _ (by omega) fuel (by omega), List.range'_succ, List.filter_cons, List.append_assoc]
      by_cases q : (py_cf (Ps i) true == 0) = true
      · rw [if_pos q, if_pos q]; rfl
      · rw [if_neg q, if_neg q]; rfl
theorem cl_sure_4 (h : cS_x M pa b R Ps) : ∀ (m i : Nat) (A : List Nat), i + m = R → ∀ fuel, m < fuel → rs_sureOnes_4 d fuel b (zor A) (nI i) M = some (zor (A ++ (List.range' i m).filter (fun r => py_cf (Ps r) false == 0)), M) := by
  obtain ⟨h1, h2, h3, h4⟩ := h
  intro m
  induction m with
  | zero =>
    intro i A e fuel hf
    cases fuel with
    | zero => cases hf
    | succ fuel =>
      rw [rs_sureOnes_4, h2, if_pos ((le_i2 (by omega) (by omega)).mpr (by omega))]
      simp
  | succ m ih =>
    intro i A e fuel hf
    cases fuel with
    | zero => cases hf
    | succ fuel =>
      have hz : z_in (nI i) 8 := nI_in (by omega) (by omega)
      have e1 : nI i + 1 = nI (i + 1) := nI_add i 1
      rw [rs_sureOnes_4, h2, if_neg (fun y => by have := (le_i2 (by omega) (by omega)).mp y; omega)]
      simp only [h1.1.1, h1.1.2, if_pos hz, nI_clamp (show i < 2 ^ 31 by omega), (h1.2.2.1 i (by omega)).1, (h4 i (by omega)).2.2.2, cr_bit_zb, Option.bind_some, zlet, zb_sh _ (show i < 8 by omega), e1]
      rw [ih (i + 1) _ (by omega) fuel (by omega), List.range'_succ, List.filter_cons, List.append_assoc]
      have es : py_sure (Ps i) = (py_cf (Ps i) false == 0) := rfl
      rw [es]
      by_cases q : (py_cf (Ps i) false == 0) = true
      · rw [if_pos q, if_pos q]; rfl
      · rw [if_neg q, if_neg q]; rfl
theorem cl_clearOnes (hd : 1 ≤ d) (h : cS_x M pa b R Ps) : rs_clearOnes d b M = some (zor ((List.range' 0 R).filter (fun r => py_cf (Ps r) true == 0)), M) := by
  obtain ⟨d, rfl⟩ : ∃ d', d = d' + 1 := ⟨d - 1, by omega⟩
  have h8 := h.2.2.1
  exact cl_clear_4 h R 0 [] (by omega) zLF (by have := zLF_10; omega)
theorem cl_sureOnes (hd : 1 ≤ d) (h : cS_x M pa b R Ps) : rs_sureOnes d b M = some (zor ((List.range' 0 R).filter (fun r => py_cf (Ps r) false == 0)), M) := by
  obtain ⟨d, rfl⟩ : ∃ d', d = d' + 1 := ⟨d - 1, by omega⟩
  have h8 := h.2.2.1
  exact cl_sure_4 h R 0 [] (by omega) zLF (by have := zLF_10; omega)
theorem cl_anysAr_9 (hP : py_ok P) (hN : cN_x M pa P) : ∀ x, py_dm P x → ∀ (acc : Int32) (fuel : Nat), py_hg P (py_rt P) - py_hg P x + 1 < fuel → ru_anysAround_9 d fuel acc (some (pa x)) M = some ((py_aa P x).foldl (fun a q => a ||| zbit q) acc, M) := by
  refine ok_climb hP _ ?_ ?_
  · intro acc fuel hf
    have hr := ok_rt hP
    obtain ⟨ck5, _, _, _, _, _, c5⟩ := ck_v hP hr
    have e5 : (nI (ck (py_kd P (py_rt P))) = 5) ↔ py_kd P (py_rt P) = 4 := (nI_eq (b := 5) (by omega) (by omega)).trans c5
    rw [aa_rt hP]
    cases fuel with
    | zero => omega
    | succ fuel =>
      cases fuel with
      | zero => omega
      | succ fuel =>
        simp only [ru_anysAround_9, cN_kd hN hr, e5, ru_anysAround_30, cN_up hN hr, ok_up0 hP, Option.map_none, zlet]
        by_cases q : py_kd P (py_rt P) = 4
        · rw [if_pos q, if_pos q, cN_nb hN hr (.inr (.inl q))]
          rfl
        · rw [if_neg q, if_neg q]
          rfl
  · intro x p hx e ih acc fuel hf
    have hp := ok_pdm hP hx e
    have h5 := ok_uphg hP hx e
    have h6 := ok_top hP hp
    obtain ⟨ck5, _, _, _, _, _, c5⟩ := ck_v hP hx
    have e5 : (nI (ck (py_kd P x)) = 5) ↔ py_kd P x = 4 := (nI_eq (b := 5) (by omega) (by omega)).trans c5
    rw [aa_up hP hx e]
    cases fuel with
    | zero => omega
    | succ fuel =>
      rw [ru_anysAround_9]
      simp only [cN_kd hN hx, e5, ru_anysAround_30, cN_up hN hx, e, Option.map_some, zlet]
      by_cases q : py_kd P x = 4
      · rw [if_pos q, if_pos q, cN_nb hN hx (.inr (.inl q))]
        exact ih (acc ||| zbit (py_nb P x)) fuel (by omega)
      · rw [if_neg q, if_neg q]
        exact ih acc fuel (by omega)
theorem cl_anysAround (hP : py_ok P) (hX : cX M pa Q P) {o : Nat} (ho : o < py_nl P) : ru_anysAround d Q (nI o) M = some (zor (py_aa P (py_lf P o)), M) := by
  have h16 := ok_nl hP
  have hz : z_in (nI o) 16 := nI_in (by omega) (by omega)
  obtain ⟨hN, _, ⟨⟨hru, _⟩, _, _, _, hlf, _⟩, _⟩ := hX
  unfold ru_anysAround
  simp only [hru.2.1.1, hru.2.1.2, if_pos hz, nI_clamp (show o < 2 ^ 31 by omega), (hlf o ho).2]
  exact cl_anysAr_9 hP hN _ (ok_lf hP ho) 0 zLF (pb_31 (f := 0) hP (ok_lf hP ho) (by omega))
theorem cl_any_52 (hP : py_ok P) (hX : cX M pa Q P) {n : Nat} (hn : py_dm P n) {w : Int32} : ∀ (b a : List Nat), py_ks P n = a ++ b → ∀ fuel, b.length < fuel → cr_any_52 d fuel w (nI a.length) (b.head?.map pa) M = some (py_ayr P w b a.length, M) := by
  intro b
  induction b with
  | nil =>
    intro a e fuel hf
    cases fuel with
    | zero => cases hf
    | succ fuel =>
      simp only [List.head?_nil, Option.map_none, cr_any_52, cr_any_92, py_ayr]
      by_cases q : w = 0
      · rw [if_pos q, if_pos q]
      · rw [if_neg q, if_neg q]
  | cons c b ih =>
    intro a e fuel hf
    cases fuel with
    | zero => cases hf
    | succ fuel =>
      have hc : c ∈ py_ks P n := by rw [e]; simp
      have hcd := ok_kid hP hn hc
      have e1 : nI a.length + 1 = nI (a.length + 1) := nI_add a.length 1
      simp only [List.head?_cons, Option.map_some, cr_any_52, zlet, e1, py_ayr, cN_nx hX.1 hn e, (hX.2.1 c hcd).2.2.2.1]
      by_cases q : nI (a.length + 1) = w
      · rw [if_pos q, if_pos q]
      · rw [if_neg q, if_neg q]
        have := ih (a ++ [c]) (by rw [e]; simp) fuel (by simp at hf; omega)
        rw [List.length_append] at this
        exact this
end
