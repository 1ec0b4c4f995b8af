/-! THE CLASS: words in any order, moved in place -/
def lb (v : Int64) (k : Nat) : Bool := v.toBitVec.getLsbD k
/-- the j-th length of four -/
def pk_l (v : Int64) (j l : Nat) : Prop := ∀ k, k < 16 → lb v (16 * j + k) = l.testBit k
theorem zs_sm {j : Nat} (h : j < 4) : (((16 * nI j) : Int32).toInt64 &&& 63).toBitVec.smod 64 = BitVec.ofNat 64 (16 * j) := by
  have key : ∀ j : Fin 4, (((16 * nI j.val) : Int32).toInt64 &&& 63).toBitVec.smod 64 = BitVec.ofNat 64 (16 * j.val) := by decide +kernel
  exact key ⟨j, h⟩
theorem lb_65535 {k : Nat} (h : k < 64) : lb 65535 k = decide (k < 16) := by
  have key : ∀ k : Fin 64, lb 65535 k.val = decide (k.val < 16) := by decide +kernel
  exact key ⟨k, h⟩
theorem lb_m1 {k : Nat} (h : k < 64) : lb (-1) k = true := by
  have key : ∀ k : Fin 64, lb (-1) k.val = true := by decide +kernel
  exact key ⟨k, h⟩
theorem lb_and (a b : Int64) (i : Nat) : lb (a &&& b) i = (lb a i && lb b i) := by simp [lb]
theorem lb_or (a b : Int64) (i : Nat) : lb (a ||| b) i = (lb a i || lb b i) := by simp [lb]
theorem lb_xor (a b : Int64) (i : Nat) : lb (a ^^^ b) i = (lb a i ^^ lb b i) := by simp [lb]
theorem lb_shr (x : Int64) {j : Nat} (hj : j < 4) {k : Nat} (hk : 16 * j + k < 64) : lb (x >>> (((16 * nI j) : Int32).toInt64 &&& 63)) k = lb x (16 * j + k) := by
  unfold lb
  rw [Int64.toBitVec_shiftRight, zs_sm hj, BitVec.sshiftRight', BitVec.toNat_ofNat, Nat.mod_eq_of_lt (by omega), BitVec.getLsbD_sshiftRight]
  have h1 : ¬ 64 ≤ k := by omega
  simp [h1, hk]
theorem lb_shl (x : Int64) {j : Nat} (hj : j < 4) {k : Nat} (hk : k < 64) : lb (x <<< (((16 * nI j) : Int32).toInt64 &&& 63)) k = (decide (16 * j ≤ k) && lb x (k - 16 * j)) := by
  unfold lb
  rw [Int64.toBitVec_shiftLeft, zs_sm hj, BitVec.shiftLeft_eq', BitVec.toNat_ofNat, Nat.mod_eq_of_lt (by omega), BitVec.getLsbD_shiftLeft]
  by_cases e : 16 * j ≤ k
  · simp [hk, e]
  · simp [e]
theorem lb_nI {l : Nat} (hl : l < 65536) {k : Nat} (hk : k < 64) : lb (nI l).toInt64 k = l.testBit k := by
  rw [nI_l (by omega)]
  show (BitVec.ofNat 64 l).getLsbD k = _
  rw [BitVec.getLsbD_ofNat]
  simp [hk]
theorem pk_get {v : Int64} {j l : Nat} (hj : j < 4) (hl : l < 65536) (h : pk_l v j l) : ((v >>> (((16 * nI j) : Int32).toInt64 &&& 63)) &&& 65535).toInt32 = nI l := by
  have e : (v >>> (((16 * nI j) : Int32).toInt64 &&& 63)) &&& 65535 = (nI l).toInt64 := by
    apply Int64.toBitVec.inj
    apply BitVec.eq_of_getLsbD_eq
    intro k hk
    show lb _ k = lb _ k
    rw [lb_and, lb_65535 hk, lb_nI hl hk]
    by_cases q : k < 16
    · rw [lb_shr v hj (by omega), h k q, decide_eq_true q, Bool.and_true]
    · rw [decide_eq_false q, Bool.and_false]
      symm
      apply Nat.testBit_lt_two_pow
      have : 2 ^ 16 ≤ 2 ^ k := Nat.pow_le_pow_right (by omega) (by omega)
      omega
  rw [e]
  exact Int32.toInt32_toInt64 _
theorem cl_withLength {M : zM} {d i l : Nat} (v : Int64) (hi : i < 4) (hl : l < 65536) : ∃ v', sp_withLength d v (nI i) (nI l) M = some (v', M) ∧ pk_l v' i l ∧ ∀ j x, j < 4 → j ≠ i → pk_l v j x → pk_l v' j x := by
  refine ⟨_, rfl, ?_, ?_⟩
  · intro k hk
    rw [lb_or, lb_and, lb_xor, lb_m1 (by omega), lb_shl _ hi (by omega), lb_shl _ hi (by omega), decide_eq_true (show 16 * i ≤ 16 * i + k by omega), show 16 * i + k - 16 * i = k by omega, lb_65535 (by omega), lb_nI hl (by omega), decide_eq_true hk]
    simp
  · intro j x hj hji hx k hk
    rw [lb_or, lb_and, lb_xor, lb_m1 (by omega), lb_shl _ hi (by omega), lb_shl _ hi (by omega), hx k hk]
    by_cases q : 16 * i ≤ 16 * j + k
    · rw [lb_65535 (by omega), lb_nI hl (by omega), decide_eq_false (show ¬ 16 * j + k - 16 * i < 16 by omega)]
      have h0 : l.testBit (16 * j + k - 16 * i) = false := by
        apply Nat.testBit_lt_two_pow
        have : 2 ^ 16 ≤ 2 ^ (16 * j + k - 16 * i) := Nat.pow_le_pow_right (by omega) (by omega)
        omega
      rw [h0]
      simp
    · rw [decide_eq_false q]
      simp
section
variable {M M' : zM} {d sp : Nat} {t : List Nat}
theorem sl_lt {X m Y : List Nat} (h : sl_x M sp (X ++ (m ++ Y))) : X.length + m.length + Y.length ≤ 9216 := by
  have := h.2.2.1
  simp only [List.length_append] at this
  omega
theorem cl_swap_3 {X p w Y : List Nat} (h : sl_x M sp (X ++ (p ++ (w ++ Y)))) : ∀ (m k : Nat), k + m = p.length + w.length → ∀ fuel, m < fuel → sp_isBetterSwapped_3 d fuel sp (nI X.length) (nI p.length) (nI w.length) (nI k) M = some (zb (py_lex ((w ++ p).drop k) ((p ++ w).drop k)), M) := by
  obtain ⟨h1, h2, h3, h4, h5⟩ := h
  simp only [List.length_append] at h3
  intro m
  induction m with
  | zero =>
    intro k e fuel hf
    cases fuel with
    | zero => cases hf
    | succ fuel =>
      rw [sp_isBetterSwapped_3, nI_add, if_pos ((nI_leI (by omega) (by omega)).mpr (by omega))]
      rw [List.drop_eq_nil_of_le (show (w ++ p).length ≤ k by simp; omega)]
      rfl
  | succ m ih =>
    intro k e fuel hf
    cases fuel with
    | zero => cases hf
    | succ fuel =>
      have hk1 : k < (p ++ w).length := by simp; omega
      have hk2 : k < (w ++ p).length := by simp; omega
      obtain ⟨a, ha⟩ : ∃ a, (p ++ w)[k]? = some a := ⟨(p ++ w)[k], List.getElem?_eq_getElem hk1⟩
      obtain ⟨b, hb⟩ : ∃ a, (w ++ p)[k]? = some a := ⟨(w ++ p)[k], List.getElem?_eq_getElem hk2⟩
      have e1 : (p ++ w).drop k = a :: (p ++ w).drop (k + 1) := by
        rw [List.drop_eq_getElem_cons hk1]
        rw [List.getElem?_eq_getElem hk1] at ha
        injection ha with ha
        rw [ha]
      have e2 : (w ++ p).drop k = b :: (w ++ p).drop (k + 1) := by
        rw [List.drop_eq_getElem_cons hk2]
        rw [List.getElem?_eq_getElem hk2] at hb
        injection hb with hb
        rw [hb]
      have ga : (X ++ (p ++ (w ++ Y)))[X.length + k]? = some a := by
        rw [List.getElem?_append_right (by omega), show X.length + k - X.length = k by omega, ← List.append_assoc, List.getElem?_append_left hk1]
        exact ha
      have ham : a < 26 := h5 a (List.mem_of_getElem? ga)
      have za : z_in (nI (X.length + k)) 9216 := nI_in (by omega) (by omega)
      have e3 : nI k + 1 = nI (k + 1) := nI_add k 1
      rw [sp_isBetterSwapped_3, nI_add, if_neg (fun p => by have := (nI_leI (by omega) (by omega)).mp p; omega)]
      simp only [h1.1.1, h1.1.2, nI_add, if_pos za, nI_clamp (show X.length + k < 2 ^ 31 by omega), h4 _ a ga, zlet]
      have fin : ∀ q : Nat, q < 9216 → (X ++ (p ++ (w ++ Y)))[q]? = some b → sp_isBetterSwapped_47 (fun p0 p1 p2 p3 p4 m => sp_isBetterSwapped_3 d fuel p0 p1 p2 p3 p4 m) d sp (nI X.length) (nI p.length) (nI w.length) (nI k) (nI a) (some (sp + 1)) (nI q) M = some (zb (py_lex ((w ++ p).drop k) ((p ++ w).drop k)), M) := by
        intro q hq hqb
        have hbm : b < 26 := h5 b (List.mem_of_getElem? hqb)
        have zq : z_in (nI q) 9216 := nI_in (by omega) (by omega)
        unfold sp_isBetterSwapped_47 sp_isBetterSwapped_69
        simp only [h1.1.2, if_pos zq, nI_clamp (show q < 2 ^ 31 by omega), h4 _ b hqb, zlet, e3]
        rw [e1, e2]
        show _ = some (zb (if b = a then py_lex ((w ++ p).drop (k + 1)) ((p ++ w).drop (k + 1)) else decide (b < a)), M)
        by_cases q1 : a = b
        · rw [if_pos (by rw [q1]), if_pos q1.symm]
          exact ih (k + 1) (by omega) fuel (by omega)
        · rw [if_neg (fun x => q1 ((nI_eq (by omega) (by omega)).mp x)), if_neg (c := b = a) (fun x => q1 x.symm)]
          by_cases q2 : a ≤ b
          · rw [if_pos ((nI_leI (by omega) (by omega)).mpr q2), if_pos (by simp), decide_eq_false (show ¬ b < a by omega)]
            rfl
          · rw [if_neg (fun x => q2 ((nI_leI (by omega) (by omega)).mp x)), if_pos (by simp), decide_eq_true (show b < a by omega)]
            rfl
      by_cases q : w.length ≤ k
      · rw [if_pos ((nI_leI (by omega) (by omega)).mpr q)]
        have e4 : nI (X.length + k) - nI w.length = nI (X.length + (k - w.length)) := by
          rw [show X.length + k = X.length + (k - w.length) + w.length by omega]
          exact pb_sub _ _
        rw [e4]
        refine fin _ (by omega) ?_
        rw [List.getElem?_append_right (by omega) (l₁ := w)] at hb
        rw [List.getElem?_append_right (by omega), show X.length + (k - w.length) - X.length = k - w.length by omega, List.getElem?_append_left (by omega)]
        exact hb
      · rw [if_neg (fun x => q ((nI_leI (by omega) (by omega)).mp x))]
        refine fin _ (by omega) ?_
        rw [List.getElem?_append_left (by omega) (l₁ := w)] at hb
        rw [List.getElem?_append_right (by omega), List.getElem?_append_right (by omega), show X.length + p.length + k - X.length - p.length = k by omega, List.getElem?_append_left (by omega)]
        exact hb
theorem cl_swap {X p w Y : List Nat} (h : sl_x M sp (X ++ (p ++ (w ++ Y)))) : sp_isBetterSwapped d sp (nI X.length) (nI p.length) (nI w.length) M = some (zb (py_ah w p), M) := by
  have hl := sl_lt h
  have hLF : zLF = 100000 := rfl
  have h3 := h.2.2.1
  simp only [List.length_append] at h3
  exact cl_swap_3 h (p.length + w.length) 0 (by omega) zLF (by omega)
theorem sl_set {A B : List Nat} {x y : Nat} (h : sl_x M sp (A ++ x :: B)) (hy : y < 26) : sl_x (zm_setI M 20 (sp + 1) A.length (nI y)) sp (A ++ y :: B) := by
  obtain ⟨h1, h2, h3, h4, h5⟩ := h
  refine ⟨sll_zf h1 (zf_set (W := sl_W sp) (.inr ⟨rfl, rfl⟩)), ?_, ?_, ?_, ?_⟩
  · rw [pm_ne (by omega), h2]; simp
  · simp at h3 ⊢; exact h3
  · intro i z hz
    rw [pm_II]
    by_cases q : i = A.length
    · subst q
      rw [if_pos ⟨rfl, rfl, rfl⟩]
      rw [List.getElem?_append_right (Nat.le_refl _), Nat.sub_self] at hz
      injection hz with hz
      rw [hz]
    · rw [if_neg (fun e => q e.2.2)]
      refine h4 i z ?_
      by_cases q2 : i < A.length
      · rw [List.getElem?_append_left q2] at hz ⊢; exact hz
      · rw [List.getElem?_append_right (by omega)] at hz ⊢
        rw [show i - A.length = (i - A.length - 1) + 1 by omega, List.getElem?_cons_succ] at hz ⊢
        exact hz
  · intro z hz
    rcases List.mem_append.mp hz with q | q
    · exact h5 z (List.mem_append.mpr (.inl q))
    · rcases List.mem_cons.mp q with q | q
      · rw [q]; exact hy
      · exact h5 z (List.mem_append.mpr (.inr (List.mem_cons_of_mem _ q)))
theorem cl_turn_7 : ∀ (n : Nat) (X m Y : List Nat) (M : zM), m.length ≤ n → sl_x M sp (X ++ (m ++ Y)) → ∀ fuel, n < fuel → ∃ M', sp_turn_7 d fuel sp (nI X.length) (nI (X.length + m.length) - 1) M = some M' ∧ sl_x M' sp (X ++ (m.reverse ++ Y)) ∧ zf (sl_W sp) M M' := by
  intro n
  induction n with
  | zero =>
    intro X m Y M hm h fuel hf
    have hm0 : m = [] := List.eq_nil_of_length_eq_zero (by omega)
    subst hm0
    have hl := sl_lt h
    cases fuel with
    | zero => cases hf
    | succ fuel =>
      refine ⟨M, ?_, h, zf_refl _ _⟩
      rw [sp_turn_7, if_pos]
      show nI (X.length + 0) - 1 ≤ nI X.length
      rw [Nat.add_zero]
      cases hX : X.length with
      | zero => decide
      | succ k =>
        rw [nI_pred]
        exact (nI_leI (by omega) (by omega)).mpr (by omega)
  | succ n ih =>
    intro X m Y M hm h fuel hf
    have hl := sl_lt h
    cases fuel with
    | zero => cases hf
    | succ fuel =>
      cases m with
      | nil =>
        refine ⟨M, ?_, h, zf_refl _ _⟩
        rw [sp_turn_7, if_pos]
        show nI (X.length + 0) - 1 ≤ nI X.length
        rw [Nat.add_zero]
        cases hX : X.length with
        | zero => decide
        | succ k =>
          rw [nI_pred]
          exact (nI_leI (by omega) (by omega)).mpr (by omega)
      | cons a r =>
        rw [List.length_cons] at hm hl
        have ev4 : nI (X.length + (a :: r).length) - 1 = nI (X.length + r.length) := by
          rw [List.length_cons, ← Nat.add_assoc, nI_pred]
        by_cases hr : r = []
        · subst hr
          refine ⟨M, ?_, h, zf_refl _ _⟩
          rw [ev4, sp_turn_7, if_pos ((nI_leI (by simp; omega) (by omega)).mpr (by simp))]
        · obtain ⟨q, b, hqb⟩ : ∃ q b, r = q ++ [b] := ⟨r.dropLast, r.getLast hr, (List.dropLast_concat_getLast hr).symm⟩
          subst hqb
          have hlq : (q ++ [b]).length = q.length + 1 := by simp
          rw [hlq] at hm hl ev4
          obtain ⟨h1, h2, h3, h4, h5⟩ := h
          have ga : (X ++ ((a :: (q ++ [b])) ++ Y))[X.length]? = some a := by
            rw [List.getElem?_append_right (Nat.le_refl _), Nat.sub_self]
            rfl
          have gb : (X ++ ((a :: (q ++ [b])) ++ Y))[X.length + (q.length + 1)]? = some b := by
            rw [List.getElem?_append_right (by omega), show X.length + (q.length + 1) - X.length = q.length + 1 by omega, List.cons_append, List.getElem?_cons_succ, List.getElem?_append_left (by simp), List.getElem?_append_right (Nat.le_refl _), Nat.sub_self]
            rfl
          have ham : a < 26 := h5 a (List.mem_of_getElem? ga)
          have hbm : b < 26 := h5 b (List.mem_of_getElem? gb)
          have zX : z_in (nI X.length) 9216 := nI_in (by omega) (by omega)
          have zH : z_in (nI (X.length + (q.length + 1))) 9216 := nI_in (by omega) (by omega)
          have s1 : sl_x (zm_setI M 20 (sp + 1) X.length (nI b)) sp (X ++ b :: (q ++ ([b] ++ Y))) := by
            refine sl_set (x := a) ?_ hbm
            have e0 : X ++ ((a :: (q ++ [b])) ++ Y) = X ++ a :: (q ++ ([b] ++ Y)) := by simp
            rw [← e0]
            exact ⟨h1, h2, h3, h4, h5⟩
          have s2 : sl_x (zm_setI (zm_setI M 20 (sp + 1) X.length (nI b)) 20 (sp + 1) (X.length + (q.length + 1)) (nI a)) sp ((X ++ [b]) ++ (q ++ ([a] ++ Y))) := by
            have e0 : X ++ b :: (q ++ ([b] ++ Y)) = (X ++ b :: q) ++ b :: Y := by simp
            rw [e0] at s1
            have e1 : (X ++ b :: q).length = X.length + (q.length + 1) := by simp
            have := sl_set (y := a) s1 ham
            rw [e1] at this
            have e2 : (X ++ b :: q) ++ a :: Y = (X ++ [b]) ++ (q ++ ([a] ++ Y)) := by simp
            rw [e2] at this
            exact this
          have f2 : zf (sl_W sp) M (zm_setI (zm_setI M 20 (sp + 1) X.length (nI b)) 20 (sp + 1) (X.length + (q.length + 1)) (nI a)) := zf_trans (zf_set (.inr ⟨rfl, rfl⟩)) (zf_set (.inr ⟨rfl, rfl⟩))
          obtain ⟨M', k1, k2, k3⟩ := ih (X ++ [b]) q ([a] ++ Y) _ (by omega) s2 fuel (by omega)
          refine ⟨M', ?_, ?_, zf_trans f2 k3⟩
          · rw [ev4, sp_turn_7, if_neg (fun x => by have := (nI_leI (by omega) (by omega)).mp x; omega)]
            simp only [h1.1.1, h1.1.2, pm_RI, pm_LI, if_pos zX, if_pos zH, nI_clamp (show X.length < 2 ^ 31 by omega), nI_clamp (show X.length + (q.length + 1) < 2 ^ 31 by omega), h4 _ a ga, h4 _ b gb, zlet]
            have e5 : nI X.length + 1 = nI (X ++ [b]).length := by rw [List.length_append, List.length_singleton]; exact nI_add _ 1
            have e6 : nI (X.length + (q.length + 1)) + (-1) = nI ((X ++ [b]).length + q.length) - 1 := by
              rw [List.length_append, List.length_singleton, ← Nat.add_assoc, pb_pm, show X.length + 1 + q.length = X.length + q.length + 1 by omega, nI_pred]
            rw [e5, e6]
            exact k1
          · have e7 : (X ++ [b]) ++ (q.reverse ++ ([a] ++ Y)) = X ++ ((a :: (q ++ [b])).reverse ++ Y) := by simp
            rw [← e7]
            exact k2
theorem cl_turn {X m Y : List Nat} (h : sl_x M sp (X ++ (m ++ Y))) : ∃ M', sp_turn d sp (nI X.length) (nI (X.length + m.length)) M = some M' ∧ sl_x M' sp (X ++ (m.reverse ++ Y)) ∧ zf (sl_W sp) M M' := by
  have hl := sl_lt h
  have hLF : zLF = 100000 := rfl
  exact cl_turn_7 m.length X m Y M (Nat.le_refl _) h zLF (by omega)
end
