/-! THE CLASS: a word is sorted in; rows, times, the best, parts -/
def pk_s (v : Int64) (S : List (List Nat)) : Prop := ∀ (j : Nat) (p : List Nat), S[j]? = some p → pk_l v j p.length
section
variable {M M' : zM} {d sp : Nat}
theorem cl_sort_18 {X w : List Nat} (hw : w.length < 65536) : ∀ (R B : List (List Nat)) (M : zM) (v : Int64), R.length + B.length ≤ 3 → (∀ p, p ∈ R → p.length < 65536) → sl_x M sp (X ++ (R.reverse.flatten ++ (w ++ B.flatten))) → pk_s v R.reverse → (∀ (j : Nat) (p : List Nat), B[j]? = some p → pk_l v (R.length + 1 + j) p.length) → ∀ fuel, R.length < fuel → ∃ v' M', sp_sortIn_18 d fuel sp (nI w.length) v (nI (X.length + R.reverse.flatten.length)) (nI R.length) M = some (v', M') ∧ pk_s v' (py_inp (py_ah w) w R B) ∧ sl_x M' sp (X ++ (py_inp (py_ah w) w R B).flatten) ∧ zf (sl_W sp) M M' := by
  intro R
  induction R with
  | nil =>
    intro B M v h3 hR hx hp hB fuel hf
    cases fuel with
    | zero => cases hf
    | succ fuel =>
      obtain ⟨v', a1, a2, a3⟩ := cl_withLength (M := M) (d := d) v (show 0 < 4 by omega) hw
      rw [List.length_nil] at h3
      refine ⟨v', M, ?_, ?_, ?_, zf_refl _ _⟩
      · have e0 : nI ([] : List (List Nat)).length = 0 := rfl
        have a1 : sp_withLength d v 0 (nI w.length) M = some (v', M) := a1
        rw [sp_sortIn_18, e0, if_pos (by decide), a1]
        rfl
      · intro j p hj
        have hj : (w :: B)[j]? = some p := hj
        cases j with
        | zero =>
          injection hj with hj
          subst hj
          exact a2
        | succ j =>
          rw [List.getElem?_cons_succ] at hj
          have hl := (List.getElem?_eq_some_iff.mp hj).1
          have := hB j p hj
          rw [List.length_nil, show 0 + 1 + j = j + 1 by omega] at this
          exact a3 (j + 1) p.length (by omega) (by omega) this
      · exact hx
  | cons p R ih =>
    intro B M v h3 hR hx hp hB fuel hf
    rw [List.length_cons] at h3
    cases fuel with
    | zero => cases hf
    | succ fuel =>
      have hpl := hR p List.mem_cons_self
      have hrf : (p :: R).reverse.flatten = R.reverse.flatten ++ p := by simp
      have hx1 : sl_x M sp ((X ++ R.reverse.flatten) ++ (p ++ (w ++ B.flatten))) := by
        have e : (X ++ R.reverse.flatten) ++ (p ++ (w ++ B.flatten)) = X ++ ((p :: R).reverse.flatten ++ (w ++ B.flatten)) := by rw [hrf]; simp
        rw [e]
        exact hx
      have hl := hx1.2.2.1
      simp only [List.length_append] at hl
      have hpk : pk_l v R.length p.length := by
        refine hp R.length p ?_
        rw [List.reverse_cons, List.getElem?_append_right (by simp), List.length_reverse, Nat.sub_self]
        rfl
      have ex : ((v >>> (((16 * (nI (R.length + 1) - 1)) : Int32).toInt64 &&& 63)) &&& 65535).toInt32 = nI p.length := by
        rw [nI_pred]
        exact pk_get (by omega) hpl hpk
      have e1 : X.length + (p :: R).reverse.flatten.length = (X ++ R.reverse.flatten).length + p.length := by rw [hrf]; simp; omega
      have e2 : nI ((X ++ R.reverse.flatten).length + p.length) - nI p.length = nI (X ++ R.reverse.flatten).length := pb_sub _ _
      have e3 : nI (R.length + 1) + (-1) = nI R.length := pb_pm _
      rw [e1, List.length_cons]
      have hsw := cl_swap (d := d) hx1
      rw [sp_sortIn_18, if_neg (nI_nle (by omega) (by omega))]
      simp only [zlet, ex, e2, hsw, Option.bind_some, e3, nI_add]
      have hin : py_inp (py_ah w) w (p :: R) B = if py_ah w p then py_inp (py_ah w) w R (p :: B) else (p :: R).reverse ++ w :: B := rfl
      rw [hin]
      cases hah : py_ah w p with
      | false =>
        rw [if_pos (show zb false = 0 from rfl), if_neg (by decide)]
        obtain ⟨v', a1, a2, a3⟩ := cl_withLength (M := M) (d := d) v (show R.length + 1 < 4 by omega) hw
        rw [a1, Option.bind_some]
        refine ⟨v', M, rfl, ?_, ?_, zf_refl _ _⟩
        · intro j q hj
          by_cases q1 : j < R.length + 1
          · rw [List.getElem?_append_left (by simp; omega)] at hj
            exact a3 j q.length (by omega) (by omega) (hp j q hj)
          · rw [List.getElem?_append_right (by simp; omega)] at hj
            rw [List.length_reverse, List.length_cons] at hj
            by_cases q2 : j = R.length + 1
            · subst q2
              rw [Nat.sub_self] at hj
              injection hj with hj
              subst hj
              exact a2
            · rw [show j - (R.length + 1) = (j - (R.length + 2)) + 1 by omega, List.getElem?_cons_succ] at hj
              have hjl := (List.getElem?_eq_some_iff.mp hj).1
              have := hB _ q hj
              rw [List.length_cons, show R.length + 1 + 1 + (j - (R.length + 2)) = j by omega] at this
              exact a3 j q.length (by omega) (by omega) this
        · have e : X ++ ((p :: R).reverse ++ w :: B).flatten = X ++ ((p :: R).reverse.flatten ++ (w ++ B.flatten)) := by simp
          rw [e]
          exact hx
      | true =>
        rw [if_neg (show ¬ zb true = 0 by decide), if_pos rfl]
        obtain ⟨M1, b1, b2, b3⟩ := cl_turn (d := d) hx1
        have hx2 : sl_x M1 sp (((X ++ R.reverse.flatten) ++ p.reverse) ++ (w ++ B.flatten)) := by
          rw [List.append_assoc]
          exact b2
        obtain ⟨M2, c1, c2, c3⟩ := cl_turn (d := d) hx2
        have e4 : ((X ++ R.reverse.flatten) ++ p.reverse).length = (X ++ R.reverse.flatten).length + p.length := by rw [List.length_append, List.length_reverse]
        rw [e4] at c1
        have hx3 : sl_x M2 sp ((X ++ R.reverse.flatten) ++ ((p.reverse ++ w.reverse) ++ B.flatten)) := by
          have e : (X ++ R.reverse.flatten) ++ ((p.reverse ++ w.reverse) ++ B.flatten) = ((X ++ R.reverse.flatten) ++ p.reverse) ++ (w.reverse ++ B.flatten) := by simp
          rw [e]
          exact c2
        obtain ⟨M3, g1, g2, g3⟩ := cl_turn (d := d) hx3
        have e5 : (X ++ R.reverse.flatten).length + (p.reverse ++ w.reverse).length = (X ++ R.reverse.flatten).length + p.length + w.length := by simp; omega
        rw [e5] at g1
        obtain ⟨v', a1, a2, a3⟩ := cl_withLength (M := M3) (d := d) v (show R.length + 1 < 4 by omega) hpl
        rw [b1, Option.bind_some, c1, Option.bind_some, g1, Option.bind_some, a1, Option.bind_some]
        have hx4 : sl_x M3 sp (X ++ (R.reverse.flatten ++ (w ++ (p :: B).flatten))) := by
          have e : X ++ (R.reverse.flatten ++ (w ++ (p :: B).flatten)) = (X ++ R.reverse.flatten) ++ ((p.reverse ++ w.reverse).reverse ++ B.flatten) := by simp
          rw [e]
          exact g2
        obtain ⟨v2, M4, k1, k2, k3, k4⟩ := ih (p :: B) M3 v' (by rw [List.length_cons]; omega) (fun q hq => hR q (List.mem_cons_of_mem _ hq)) hx4 (by
          intro j q hj
          have hjl := (List.getElem?_eq_some_iff.mp hj).1
          rw [List.length_reverse] at hjl
          refine a3 j q.length (by omega) (by omega) (hp j q ?_)
          rw [List.reverse_cons, List.getElem?_append_left (by simp; omega)]
          exact hj) (by
          intro j q hj
          cases j with
          | zero =>
            injection hj with hj
            subst hj
            exact a2
          | succ j =>
            rw [List.getElem?_cons_succ] at hj
            have hjl := (List.getElem?_eq_some_iff.mp hj).1
            have := hB j q hj
            rw [List.length_cons] at this
            rw [show R.length + 1 + (j + 1) = R.length + 1 + 1 + j by omega]
            exact a3 _ q.length (by omega) (by omega) this) fuel (by rw [List.length_cons] at hf; omega)
        refine ⟨v2, M4, ?_, k2, k3, zf_trans (zf_trans b3 c3) (zf_trans g3 k4)⟩
        rw [← k1, List.length_append]
theorem cl_sortIn {X w : List Nat} {S : List (List Nat)} {v : Int64} (hd : 1 ≤ d) (hS : S.length ≤ 3) (h : sl_x M sp (X ++ (S.flatten ++ w))) (hp : pk_s v S) : ∃ v' M', sp_sortIn d sp (nI (X.length + S.flatten.length)) v (nI S.length) M = some (v', M') ∧ pk_s v' (py_ins w S) ∧ sl_x M' sp (X ++ (py_ins w S).flatten) ∧ zf (sl_W sp) M M' := by
  obtain ⟨d, rfl⟩ : ∃ d', d = d' + 1 := ⟨d - 1, by omega⟩
  have hLF : zLF = 100000 := rfl
  have hl := h.2.2.1
  simp only [List.length_append] at hl
  have hm : ∀ p, p ∈ S.reverse → p.length < 65536 := by
    intro p hp
    have : p.length ≤ S.flatten.length := by
      rw [List.mem_reverse] at hp
      obtain ⟨a, b, e⟩ := List.append_of_mem hp
      rw [e]
      simp
      omega
    omega
  have hx : sl_x M sp (X ++ (S.reverse.reverse.flatten ++ (w ++ ([] : List (List Nat)).flatten))) := by
    rw [List.reverse_reverse, List.flatten_nil, List.append_nil]
    exact h
  obtain ⟨v', M', k1, k2, k3, k4⟩ := cl_sort_18 (d := d) (w := w) (by omega) S.reverse [] M v (by simp; omega) hm hx (by rw [List.reverse_reverse]; exact hp) (fun j p hj => by cases hj) zLF (by simp; omega)
  rw [List.reverse_reverse, List.length_reverse] at k1
  refine ⟨v', M', ?_, k2, k3, k4⟩
  show sp_sortIn_b d sp _ v _ M = _
  unfold sp_sortIn_b
  rw [h.2.1]
  have e1 : nI (X ++ (S.flatten ++ w)).length - nI (X.length + S.flatten.length) = nI w.length := by
    simp only [List.length_append]
    rw [show X.length + (S.flatten.length + w.length) = w.length + (X.length + S.flatten.length) by omega]
    exact pb_sub _ _
  simp only [zlet, e1]
  exact k1
end
/-- one more node spelled -/
def sg_S (pa : Nat → Nat) (Q : Nat) (P : yP) (sp : Nat) (R1 : Nat → Option Nat → Int32 → zM → Option zM) (dep c : Nat) : Prop := ∀ (M : zM) (t : List Nat), cX M pa Q P → sl_x M sp t → zm_R M 7 sp 4 = some Q → t.length + 2 * py_B P c ≤ 9216 → ∃ M', R1 sp (some (pa c)) (nI dep) M = some M' ∧ sl_x M' sp (t ++ py_wd P c) ∧ zf (sl_W sp) M M'
section
variable {M M' : zM} {pa : Nat → Nat} {P : yP} {d sp Q : Nat} {t : List Nat}
theorem cX_sl (h : cX M pa Q P) (hf : zf (sl_W sp) M M') (hq : Q + 10 ≤ sp) : cX M' pa Q P := by
  refine cX_zf h hf ?_ ?_ ?_ ?_
  · rintro k j (⟨e, _⟩ | ⟨e, _⟩) <;> cases e
  · rintro k j (⟨e, _⟩ | ⟨e, _⟩) <;> cases e
  · rintro j _ (⟨e, _⟩ | ⟨e, _⟩) <;> cases e
  · rintro i j hi (⟨e, _⟩ | ⟨_, e⟩)
    · cases e
    · omega
variable (R1 : Nat → Option Nat → Int32 → zM → Option zM) (R2 : Nat → Option Nat → Option Nat → Int32 → zM → Option zM) (R3 : Nat → Option Nat → Int32 → Int32 → zM → Option zM) (R4 : Nat → Option Nat → Int32 → zM → Option zM) (R5 : Nat → Option Nat → Int32 → Int32 → zM → Option zM)
theorem cl_srow_6 (hP : py_ok P) (hq : Q + 10 ≤ sp) {n dep : Nat} (hn : py_dm P n) {u : Option Nat} (hu : ∀ x, u = some x → py_dm P x) (hR : ∀ c, c ∈ py_ks P n → sg_S pa Q P sp R1 dep c) : ∀ (b a : List Nat) (M : zM) (t : List Nat), py_ks P n = a ++ b → cX M pa Q P → sl_x M sp t → zm_R M 7 sp 4 = some Q → t.length + 2 * py_Bs P b ≤ 9216 → ∀ fuel, b.length < fuel → ∃ M', sp_spellRow_6 R1 R2 R3 R4 R5 d fuel sp (u.map pa) (nI dep) (b.head?.map pa) M = some M' ∧ sl_x M' sp (t ++ (b.takeWhile (fun x => some x != u)).flatMap (py_wd P)) ∧ zf (sl_W sp) M M' := by
  intro b
  induction b with
  | nil =>
    intro a M t e hX hx h4 hlen fuel hf
    cases fuel with
    | zero => cases hf
    | succ fuel => exact ⟨M, rfl, by simpa using hx, zf_refl _ _⟩
  | cons c b ih =>
    intro a M t e hX hx h4 hlen fuel hf
    cases fuel with
    | zero => cases hf
    | succ fuel =>
      have hc : c ∈ py_ks P n := by rw [e]; simp
      have hdc := ok_kid hP hn hc
      rw [Bs_cons] at hlen
      have hw := wd_len hP c hdc
      have eqv : (some (pa c) = u.map pa) ↔ u = some c := by
        cases u with
        | none => simp
        | some x =>
          constructor
          · intro h
            injection h with h
            rw [hX.1.2.2 c x hdc (hu x rfl) h]
          · intro h
            injection h with h
            rw [h]
            rfl
      show ∃ M', sp_spellRow_6 R1 R2 R3 R4 R5 d (fuel + 1) sp (u.map pa) (nI dep) (some (pa c)) M = some M' ∧ _
      rw [sp_spellRow_6]
      simp only [eqv, sp_spellRow_34]
      by_cases q : u = some c
      · rw [if_pos q, List.takeWhile_cons_of_neg (by simp [q])]
        exact ⟨M, rfl, by simpa using hx, zf_refl _ _⟩
      · rw [if_neg q, List.takeWhile_cons_of_pos (by simp; exact fun h => q h.symm)]
        obtain ⟨M1, a1, a2, a3⟩ := hR c hc M t hX hx h4 (by omega)
        have hX1 := cX_sl hX a3 hq
        obtain ⟨M2, b1, b2, b3⟩ := ih (a ++ [c]) M1 _ (by rw [e]; simp) hX1 a2 (by rw [a3.1]; exact h4) (by simp; omega) fuel (by rw [List.length_cons] at hf; omega)
        have hnx : zm_R M1 3 (pa c) 7 = b.head?.map pa := cN_nx hX1.1 hn e
        refine ⟨M2, ?_, ?_, zf_trans a3 b3⟩
        · rw [a1, Option.bind_some, hnx]
          exact b1
        · rw [List.flatMap_cons, ← List.append_assoc]
          exact b2
theorem rep_get {w : List Nat} {T k : Nat} (hk : k < w.length * T) : (List.replicate (T + 1) w).flatten[w.length + k]? = (List.replicate (T + 1) w).flatten[k]? := by
  have hl : (List.replicate T w).flatten.length = w.length * T := by
    rw [List.length_flatten, List.map_replicate, List.sum_replicate_nat, Nat.mul_comm]
  have e1 : (List.replicate (T + 1) w).flatten = w ++ (List.replicate T w).flatten := by rw [List.replicate_succ, List.flatten_cons]
  have e2 : (List.replicate (T + 1) w).flatten = (List.replicate T w).flatten ++ w := by rw [List.replicate_succ', List.flatten_append]; simp
  have h1 : (List.replicate (T + 1) w).flatten[w.length + k]? = (List.replicate T w).flatten[k]? := by
    rw [e1, List.getElem?_append_right (by omega), show w.length + k - w.length = k by omega]
  have h2 : (List.replicate (T + 1) w).flatten[k]? = (List.replicate T w).flatten[k]? := by
    rw [e2, List.getElem?_append_left (by omega)]
  rw [h1, h2]
theorem cl_stimes_34 {w : List Nat} {T : Nat} (hT : T ≤ 12) : ∀ (m k : Nat) (M : zM), k + m = w.length * T → sl_x M sp (t ++ (List.replicate (T + 1) w).flatten.take (w.length + k)) → t.length + w.length * (T + 1) ≤ 9216 → ∀ fuel, m < fuel → ∃ M', sp_spellTimes_34 R1 R2 R3 R4 R5 d fuel sp (nI (T + 1)) (nI t.length) (nI w.length) (nI k) M = some M' ∧ sl_x M' sp (t ++ (List.replicate (T + 1) w).flatten) ∧ zf (sl_W sp) M M' := by
  have hlX : (List.replicate (T + 1) w).flatten.length = w.length * (T + 1) := by
    rw [List.length_flatten, List.map_replicate, List.sum_replicate_nat, Nat.mul_comm]
  have hTm : w.length * (T + 1) = w.length * T + w.length := Nat.mul_succ _ _
  have em : nI w.length * (nI (T + 1) - 1) = nI (w.length * T) := by rw [nI_pred, pk_mul]
  intro m
  induction m with
  | zero =>
    intro k M e hx hlen fuel hf
    cases fuel with
    | zero => cases hf
    | succ fuel =>
      refine ⟨M, ?_, ?_, zf_refl _ _⟩
      · rw [sp_spellTimes_34, em, if_pos ((nI_leI (by omega) (by omega)).mpr (by omega))]
        rfl
      · rw [List.take_of_length_le (by omega)] at hx
        exact hx
  | succ m ih =>
    intro k M e hx hlen fuel hf
    cases fuel with
    | zero => cases hf
    | succ fuel =>
      have hsz : (t ++ (List.replicate (T + 1) w).flatten.take (w.length + k)).length = t.length + (w.length + k) := by
        rw [List.length_append, List.length_take]
        omega
      obtain ⟨x, hX⟩ : ∃ x, (List.replicate (T + 1) w).flatten[k]? = some x := ⟨_, List.getElem?_eq_getElem (by omega)⟩
      have hX2 : (List.replicate (T + 1) w).flatten[w.length + k]? = some x := by rw [rep_get (by omega)]; exact hX
      have gx : (t ++ (List.replicate (T + 1) w).flatten.take (w.length + k))[t.length + k]? = some x := by
        rw [List.getElem?_append_right (by omega), show t.length + k - t.length = k by omega, List.getElem?_take_of_lt (by
          by_cases q : w.length = 0
          · rw [q] at e; omega
          · omega)]
        exact hX
      have hx26 := hx.2.2.2.2 x (List.mem_of_getElem? gx)
      have zk : z_in (nI (t.length + k)) 9216 := nI_in (by omega) (by omega)
      have e9 : (9216 : Int32) = nI 9216 := rfl
      obtain ⟨M1, a1, a2, a3⟩ := cl_spw (d := d) hx (by rw [hsz]; omega) hx26
      have hx1 : sl_x M1 sp (t ++ (List.replicate (T + 1) w).flatten.take (w.length + (k + 1))) := by
        rw [← Nat.add_assoc, List.take_succ, hX2]
        rw [List.append_assoc] at a2
        exact a2
      obtain ⟨M2, b1, b2, b3⟩ := ih (k + 1) M1 (by omega) hx1 hlen fuel (by omega)
      refine ⟨M2, ?_, b2, zf_trans a3 b3⟩
      rw [sp_spellTimes_34, em, if_neg (fun p => by have := (nI_leI (by omega) (by omega)).mp p; omega), hx.2.1, hsz, e9, if_neg (fun p => by have := (nI_leI (by omega) (by omega)).mp p; omega)]
      simp only [hx.1.1.1, hx.1.1.2, nI_add, if_pos zk, nI_clamp (show t.length + k < 2 ^ 31 by omega), hx.2.2.2.1 _ x gx, a1, Option.bind_some, zlet, nI_1]
      exact b1
theorem cl_stimes (hP : py_ok P) {c dep T : Nat} (hc : py_dm P c) (hT : T ≤ 12) (hR : sg_S pa Q P sp R1 dep c) (hX : cX M pa Q P) (hx : sl_x M sp t) (h4 : zm_R M 7 sp 4 = some Q) (hlen : t.length + 12 * py_B P c ≤ 9216) : ∃ M', sp_spellTimes_b R1 R2 R3 R4 R5 d sp (some (pa c)) (nI T) (nI dep) M = some M' ∧ sl_x M' sp (t ++ (List.replicate T (py_wd P c)).flatten) ∧ zf (sl_W sp) M M' := by
  have hLF : zLF = 100000 := rfl
  have hw := wd_len hP c hc
  unfold sp_spellTimes_b sp_spellTimes_9
  have e1 : (1 : Int32) = nI 1 := rfl
  rw [e1]
  cases T with
  | zero =>
    rw [if_neg (fun p => by have := (nI_leI (by omega) (by omega)).mp p; omega)]
    exact ⟨M, rfl, by simpa using hx, zf_refl _ _⟩
  | succ T =>
    rw [if_pos ((nI_leI (by omega) (by omega)).mpr (by omega))]
    obtain ⟨M1, a1, a2, a3⟩ := hR M t hX hx h4 (by omega)
    have hTm : (py_wd P c).length * (T + 1) ≤ 12 * py_B P c := by
      rw [Nat.mul_comm]
      exact Nat.mul_le_mul hT hw
    have hTm2 : (py_wd P c).length * (T + 1) = (py_wd P c).length * T + (py_wd P c).length := Nat.mul_succ _ _
    have hx1 : sl_x M1 sp (t ++ (List.replicate (T + 1) (py_wd P c)).flatten.take ((py_wd P c).length + 0)) := by
      rw [List.replicate_succ, List.flatten_cons, Nat.add_zero, List.take_left]
      exact a2
    obtain ⟨M2, b1, b2, b3⟩ := cl_stimes_34 (d := d) R1 R2 R3 R4 R5 (T := T) (by omega) ((py_wd P c).length * T) 0 M1 (by omega) hx1 (by omega) zLF (by omega)
    refine ⟨M2, ?_, b2, zf_trans a3 b3⟩
    simp only [zlet, a1, Option.bind_some]
    have e2 : zm_I M1 7 sp 1 - zm_I M 7 sp 1 = nI (py_wd P c).length := by
      rw [a2.2.1, hx.2.1, List.length_append, Nat.add_comm]
      exact pb_sub _ _
    rw [e2, hx.2.1]
    exact b1
end
