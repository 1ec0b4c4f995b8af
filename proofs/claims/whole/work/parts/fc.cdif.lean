/-! THE CLASS: pairs of walks, stored and found again -/
def di_l (M : zM) (di : Nat) : Prop := (zm_R M 0 di 1 = some (di + 1) ∧ zm_L M 20 (di + 1) = 4) ∧ (zm_R M 0 di 4 = some (di + 2) ∧ zm_L M 20 (di + 2) = 8738) ∧ (zm_R M 0 di 5 = some (di + 3) ∧ zm_L M 20 (di + 3) = 8738) ∧ (zm_R M 0 di 6 = some (di + 4) ∧ zm_L M 20 (di + 4) = 8738) ∧ (zm_R M 0 di 7 = some (di + 5) ∧ zm_L M 20 (di + 5) = 8738) ∧ (zm_R M 0 di 8 = some (di + 6) ∧ zm_L M 20 (di + 6) = 2048)
def bk_v (a b : Int32) : Int32 := (((a * 31) + (b * 17)) ^^^ ((((a * 31) + (b * 17)).toUInt32 >>> ((13 : Int32).toUInt32 &&& Int32.toUInt32 31)).toInt32)) &&& 2047
def bk_n (c : Int32 × Int32) : Nat := (bk_v c.1 c.2).toNatClampNeg
/-- the last of the first n in bucket h -/
def py_lst (B : Nat → Nat) (h : Nat) : Nat → Option Nat
  | 0 => none
  | n + 1 => if B n = h then some n else py_lst B h n
def py_bk (P Q : yP) (E : List yJ) (i : Nat) : Nat := bk_n (py_ka P Q (py_wj E i))
def dj_x (M : zM) (di : Nat) (P Q : yP) (E : List yJ) : Prop := di_l M di ∧ zm_I M 0 di 9 = nI E.length ∧ E.length ≤ 8738 ∧ (∀ (i : Nat) (e : yJ), E[i]? = some e → zm_I M 20 (di + 2) i = (py_ka P Q e.2.2).1 ∧ zm_I M 20 (di + 3) i = (py_ka P Q e.2.2).2 ∧ zm_I M 20 (di + 4) i = nI (32 * e.1 + e.2.1)) ∧ (∀ i, i < E.length → zm_I M 20 (di + 5) i = zo (py_lst (py_bk P Q E) (py_bk P Q E i) i)) ∧ (∀ h, h < 2048 → zm_I M 20 (di + 6) h = zo (py_lst (py_bk P Q E) h E.length))
def dd_W (di t k j : Nat) : Prop := (t = 0 ∧ k = di ∧ (j = 0 ∨ (9 ≤ j ∧ j ≤ 12))) ∨ (t = 20 ∧ di + 1 ≤ k ∧ k ≤ di + 6)
section
theorem bk_lt (c : Int32 × Int32) : bk_v c.1 c.2 = nI (bk_n c) ∧ bk_n c < 2048 := by
  have key : ∀ x : Int32, (x &&& 2047) = nI (x &&& 2047).toNatClampNeg ∧ (x &&& 2047).toNatClampNeg < 2048 := by
    intro x
    have h1 : (x &&& 2047).toBitVec.toNat ≤ 2047 := by
      rw [Int32.toBitVec_and, BitVec.toNat_and]
      exact Nat.and_le_right
    have h2 : (x &&& 2047).toInt = ((x &&& 2047).toBitVec.toNat : Int) := by
      show (x &&& 2047).toBitVec.toInt = _
      rw [BitVec.toInt_eq_toNat_of_lt (by omega)]
    have h3 : ¬ (x &&& 2047) < 0 := by
      rw [fa_lt, h2]
      have : ((0 : Int32)).toInt = 0 := by decide
      omega
    obtain ⟨j, hj, e⟩ := nI_of h3
    rw [e, nI_clamp hj]
    refine ⟨rfl, ?_⟩
    rw [e, nI_toInt hj] at h2
    rw [e] at h1
    omega
  exact key _
theorem lst_mem {B : Nat → Nat} {h : Nat} : ∀ (n j : Nat), py_lst B h n = some j → j < n ∧ B j = h := by
  intro n
  induction n with
  | zero => intro j e; cases e
  | succ n ih =>
    intro j e
    rw [py_lst] at e
    by_cases q : B n = h
    · rw [if_pos q] at e
      injection e with e
      subst e
      exact ⟨by omega, q⟩
    · rw [if_neg q] at e
      obtain ⟨a, b⟩ := ih j e
      exact ⟨by omega, b⟩
theorem lst_all {B : Nat → Nat} {h : Nat} {p : Nat → Bool} : ∀ (n : Nat), (∃ j, j < n ∧ B j = h ∧ p j = true) ↔ (∃ j, py_lst B h n = some j ∧ (p j = true ∨ ∃ i, i < j ∧ B i = h ∧ p i = true)) := by
  intro n
  induction n with
  | zero =>
    constructor
    · rintro ⟨j, h1, _⟩; omega
    · rintro ⟨j, h1, _⟩; cases h1
  | succ n ih =>
    rw [py_lst]
    by_cases q : B n = h
    · rw [if_pos q]
      constructor
      · rintro ⟨j, h1, h2, h3⟩
        refine ⟨n, rfl, ?_⟩
        by_cases qj : j = n
        · subst qj; exact .inl h3
        · exact .inr ⟨j, by omega, h2, h3⟩
      · rintro ⟨j, h1, h2⟩
        injection h1 with h1
        subst h1
        rcases h2 with h2 | ⟨i, a, b, c⟩
        · exact ⟨n, by omega, q, h2⟩
        · exact ⟨i, by omega, b, c⟩
    · rw [if_neg q, ← ih]
      constructor
      · rintro ⟨j, h1, h2, h3⟩
        have : j ≠ n := by intro e; rw [e] at h2; exact q h2
        exact ⟨j, by omega, h2, h3⟩
      · rintro ⟨j, h1, h2, h3⟩
        exact ⟨j, by omega, h2, h3⟩
theorem lst_ext {B B' : Nat → Nat} {h : Nat} : ∀ (n : Nat), (∀ i, i < n → B i = B' i) → py_lst B h n = py_lst B' h n := by
  intro n
  induction n with
  | zero => intro _; rfl
  | succ n ih =>
    intro hb
    rw [py_lst, py_lst, hb n (by omega), ih (fun i hi => hb i (by omega))]
variable {M M' : zM} {P Q : yP} {d di : Nat} {E : List yJ}
theorem wj_app {E : List yJ} {e : yJ} {i : Nat} (h : i < E.length) : py_wj (E ++ [e]) i = py_wj E i := by
  unfold py_wj
  rw [List.getElem?_append_left h]
theorem cl_isk_19 (hx : dj_x M di P Q E) {a b : Int32} (h10 : zm_I M 0 di 10 = a) (h11 : zm_I M 0 di 11 = b) {h : Nat} : ∀ (n m v : Nat), v + m ≤ E.length → m ≤ n → ∀ fuel, n < fuel → di_isKnown_19 d fuel di (zo (py_lst (py_bk P Q E) h m)) (nI v) M = some (zb (decide (∃ j, j < m ∧ py_bk P Q E j = h ∧ py_ka P Q (py_wj E j) = (a, b))), M) := by
  obtain ⟨x1, x2, x3, x4, x5, x6⟩ := hx
  intro n
  induction n with
  | zero =>
    intro m v hv hm fuel hf
    have hm0 : m = 0 := by omega
    subst hm0
    cases fuel with
    | zero => cases hf
    | succ fuel =>
      rw [decide_eq_false (by rintro ⟨j, h1, _⟩; omega), di_isKnown_19]
      split
      · rfl
      · rw [if_pos (show zo (py_lst (py_bk P Q E) h 0) = -1 from rfl)]
        rfl
  | succ n ih =>
    intro m v hv hm fuel hf
    cases fuel with
    | zero => cases hf
    | succ fuel =>
      have hall := lst_all (B := py_bk P Q E) (h := h) (p := fun j => decide (py_ka P Q (py_wj E j) = (a, b))) m
      have hall2 : (∃ j, j < m ∧ py_bk P Q E j = h ∧ py_ka P Q (py_wj E j) = (a, b)) ↔ (∃ j, py_lst (py_bk P Q E) h m = some j ∧ (py_ka P Q (py_wj E j) = (a, b) ∨ ∃ i, i < j ∧ py_bk P Q E i = h ∧ py_ka P Q (py_wj E i) = (a, b))) := by
        simpa only [decide_eq_true_eq] using hall
      simp only [hall2]
      rw [di_isKnown_19, x2]
      cases hl : py_lst (py_bk P Q E) h m with
      | none =>
        rw [decide_eq_false (by rintro ⟨j, h1, _⟩; cases h1)]
        split
        · rfl
        · rw [if_pos (show zo none = -1 from rfl)]
          rfl
      | some j =>
        obtain ⟨l1, l2⟩ := lst_mem _ _ hl
        obtain ⟨e, he⟩ : ∃ e, E[j]? = some e := ⟨E[j]'(by omega), List.getElem?_eq_getElem _⟩
        have hwj : py_wj E j = e.2.2 := by unfold py_wj; rw [he]
        obtain ⟨g1, g2, _⟩ := x4 j e he
        have zj : z_in (nI j) 8738 := nI_in (by omega) (by omega)
        have hzo : zo (some j) = nI j := rfl
        have hnext := ih j (v + 1) (by omega) (by omega) fuel (by omega)
        have hiff : (∃ j', some j = some j' ∧ (py_ka P Q (py_wj E j') = (a, b) ∨ ∃ i, i < j' ∧ py_bk P Q E i = h ∧ py_ka P Q (py_wj E i) = (a, b))) ↔ (py_ka P Q e.2.2 = (a, b) ∨ ∃ i, i < j ∧ py_bk P Q E i = h ∧ py_ka P Q (py_wj E i) = (a, b)) := by
          constructor
          · rintro ⟨j', h1, h2⟩
            injection h1 with h1
            subst h1
            rw [hwj] at h2
            exact h2
          · intro h2
            refine ⟨j, rfl, ?_⟩
            rw [hwj]
            exact h2
        simp only [hiff]
        rw [if_neg (fun p => by have := (nI_leI (by omega) (by omega)).mp p; omega), hzo, if_neg (pb_ne1 (by omega))]
        have e5 : zm_I M 20 (di + 5) j = zo (py_lst (py_bk P Q E) h j) := by rw [x5 j (by omega), l2]
        simp only [x1.2.1.1, x1.2.1.2, x1.2.2.1.1, x1.2.2.1.2, x1.2.2.2.2.1.1, x1.2.2.2.2.1.2, if_pos zj, nI_clamp (show j < 2 ^ 31 by omega), g1, g2, h10, h11, di_isKnown_60, zlet, nI_1, e5]
        by_cases q1 : (py_ka P Q e.2.2).1 = a
        · rw [if_pos q1]
          by_cases q2 : (py_ka P Q e.2.2).2 = b
          · rw [if_pos q2, decide_eq_true (.inl (Prod.ext q1 q2))]
            rfl
          · rw [if_neg q2, hnext]
            have : (py_ka P Q e.2.2 = (a, b) ∨ ∃ i, i < j ∧ py_bk P Q E i = h ∧ py_ka P Q (py_wj E i) = (a, b)) ↔ (∃ i, i < j ∧ py_bk P Q E i = h ∧ py_ka P Q (py_wj E i) = (a, b)) := ⟨fun h => by
              rcases h with h | h
              · exact absurd (congrArg Prod.snd h) q2
              · exact h, .inr⟩
            simp only [this]
        · rw [if_neg q1, hnext]
          have : (py_ka P Q e.2.2 = (a, b) ∨ ∃ i, i < j ∧ py_bk P Q E i = h ∧ py_ka P Q (py_wj E i) = (a, b)) ↔ (∃ i, i < j ∧ py_bk P Q E i = h ∧ py_ka P Q (py_wj E i) = (a, b)) := ⟨fun h => by
            rcases h with h | h
            · exact absurd (congrArg Prod.fst h) q1
            · exact h, .inr⟩
          simp only [this]
theorem cl_isKnown (hd : 1 ≤ d) (hx : dj_x M di P Q E) {w : List Nat} (h10 : zm_I M 0 di 10 = (py_ka P Q w).1) (h11 : zm_I M 0 di 11 = (py_ka P Q w).2) : di_isKnown d di M = some (zb (py_isk P Q E w), M) := by
  obtain ⟨d, rfl⟩ : ∃ d', d = d' + 1 := ⟨d - 1, by omega⟩
  have hLF : zLF = 100000 := rfl
  obtain ⟨b1, b2⟩ := bk_lt (py_ka P Q w)
  have h8738 := hx.2.2.1
  have zh : z_in (nI (bk_n (py_ka P Q w))) 2048 := nI_in b2 (by omega)
  have eb : di_isKnown (d + 1) di M = di_isKnown_b d di M := rfl
  rw [eb]
  unfold di_isKnown_b di_bucketOf
  rw [h10, h11]
  have ebk : ((((py_ka P Q w).1 * 31) + ((py_ka P Q w).2 * 17)) ^^^ (((((py_ka P Q w).1 * 31) + ((py_ka P Q w).2 * 17)).toUInt32 >>> ((13 : Int32).toUInt32 &&& Int32.toUInt32 31)).toInt32)) &&& 2047 = nI (bk_n (py_ka P Q w)) := b1
  simp only [zlet, Option.bind_some, ebk, hx.1.2.2.2.2.2.1, hx.1.2.2.2.2.2.2, if_pos zh, nI_clamp (show bk_n (py_ka P Q w) < 2 ^ 31 by omega), hx.2.2.2.2.2 _ b2]
  have h19 := cl_isk_19 (d := d) hx h10 h11 (h := bk_n (py_ka P Q w)) E.length E.length 0 (by omega) (by omega) zLF (by omega)
  have e0 : (0 : Int32) = nI 0 := rfl
  rw [e0, h19]
  have hiff : (∃ j, j < E.length ∧ py_bk P Q E j = bk_n (py_ka P Q w) ∧ py_ka P Q (py_wj E j) = ((py_ka P Q w).1, (py_ka P Q w).2)) ↔ py_isk P Q E w = true := by
    rw [isk_mem]
    constructor
    · rintro ⟨j, k1, _, k3⟩
      refine ⟨E[j], List.getElem_mem k1, ?_⟩
      have : py_wj E j = E[j].2.2 := by unfold py_wj; rw [List.getElem?_eq_getElem k1]
      rw [← this]
      exact k3
    · rintro ⟨e, k1, k2⟩
      obtain ⟨j, hj, rfl⟩ := List.getElem_of_mem k1
      have : py_wj E j = E[j].2.2 := by unfold py_wj; rw [List.getElem?_eq_getElem hj]
      refine ⟨j, hj, ?_, ?_⟩
      · unfold py_bk
        rw [this, k2]
      · rw [this]; exact k2
  simp only [hiff]
  congr 2
  cases py_isk P Q E w <;> rfl
theorem cl_store (hd : 1 ≤ d) (hx : dj_x M di P Q E) (hlen : E.length < 8738) {p l : Nat} {w : List Nat} {v : Int32} (hv : v = nI (32 * p + l)) : ∃ M', di_store d di (py_ka P Q w).1 (py_ka P Q w).2 v M = some M' ∧ dj_x M' di P Q (E ++ [(p, l, w)]) ∧ zf (fun t k j => (t = 0 ∧ k = di ∧ j = 9) ∨ (t = 20 ∧ di + 2 ≤ k ∧ k ≤ di + 6)) M M' := by
  obtain ⟨d, rfl⟩ : ∃ d', d = d' + 1 := ⟨d - 1, by omega⟩
  subst hv
  obtain ⟨x1, x2, x3, x4, x5, x6⟩ := hx
  obtain ⟨b1, b2⟩ := bk_lt (py_ka P Q w)
  have zh : z_in (nI (bk_n (py_ka P Q w))) 2048 := nI_in b2 (by omega)
  have zn : z_in (nI E.length) 8738 := nI_in (by omega) (by omega)
  obtain ⟨M', hM'⟩ : ∃ Y, Y = zm_setI (zm_setI (zm_setI (zm_setI (zm_setI (zm_setI M 20 (di + 2) E.length (py_ka P Q w).1) 20 (di + 3) E.length (py_ka P Q w).2) 20 (di + 4) E.length (nI (32 * p + l))) 20 (di + 5) E.length (zm_I M 20 (di + 6) (bk_n (py_ka P Q w)))) 20 (di + 6) (bk_n (py_ka P Q w)) (nI E.length)) 0 di 9 (nI (E.length + 1)) := ⟨_, rfl⟩
  have f : zf (fun t k j => (t = 0 ∧ k = di ∧ j = 9) ∨ (t = 20 ∧ di + 2 ≤ k ∧ k ≤ di + 6)) M M' := by
    rw [hM']
    exact zf_trans (zf_trans (zf_trans (zf_trans (zf_trans (zf_set (.inr ⟨rfl, by omega, by omega⟩)) (zf_set (.inr ⟨rfl, by omega, by omega⟩))) (zf_set (.inr ⟨rfl, by omega, by omega⟩))) (zf_set (.inr ⟨rfl, by omega, by omega⟩))) (zf_set (.inr ⟨rfl, by omega, by omega⟩))) (zf_set (.inl ⟨rfl, rfl, rfl⟩))
  have r2 : ∀ i, zm_I M' 20 (di + 2) i = if i = E.length then (py_ka P Q w).1 else zm_I M 20 (di + 2) i := by
    intro i
    rw [hM', pm_ne (by omega), pm_ne (by omega), pm_ne (by omega), pm_ne (by omega), pm_ne (by omega), pm_II]
    by_cases q : i = E.length
    · rw [if_pos ⟨rfl, rfl, q⟩, if_pos q]
    · rw [if_neg (fun x => q x.2.2), if_neg q]
  have r3 : ∀ i, zm_I M' 20 (di + 3) i = if i = E.length then (py_ka P Q w).2 else zm_I M 20 (di + 3) i := by
    intro i
    rw [hM', pm_ne (by omega), pm_ne (by omega), pm_ne (by omega), pm_ne (by omega), pm_II]
    by_cases q : i = E.length
    · rw [if_pos ⟨rfl, rfl, q⟩, if_pos q]
    · rw [if_neg (fun x => q x.2.2), if_neg q, pm_ne (by omega)]
  have r4 : ∀ i, zm_I M' 20 (di + 4) i = if i = E.length then nI (32 * p + l) else zm_I M 20 (di + 4) i := by
    intro i
    rw [hM', pm_ne (by omega), pm_ne (by omega), pm_ne (by omega), pm_II]
    by_cases q : i = E.length
    · rw [if_pos ⟨rfl, rfl, q⟩, if_pos q]
    · rw [if_neg (fun x => q x.2.2), if_neg q, pm_ne (by omega), pm_ne (by omega)]
  have r5 : ∀ i, zm_I M' 20 (di + 5) i = if i = E.length then zm_I M 20 (di + 6) (bk_n (py_ka P Q w)) else zm_I M 20 (di + 5) i := by
    intro i
    rw [hM', pm_ne (by omega), pm_ne (by omega), pm_II]
    by_cases q : i = E.length
    · rw [if_pos ⟨rfl, rfl, q⟩, if_pos q]
    · rw [if_neg (fun x => q x.2.2), if_neg q, pm_ne (by omega), pm_ne (by omega), pm_ne (by omega)]
  have r6 : ∀ i, zm_I M' 20 (di + 6) i = if i = bk_n (py_ka P Q w) then nI E.length else zm_I M 20 (di + 6) i := by
    intro i
    rw [hM', pm_ne (by omega), pm_II]
    by_cases q : i = bk_n (py_ka P Q w)
    · rw [if_pos ⟨rfl, rfl, q⟩, if_pos q]
    · rw [if_neg (fun x => q x.2.2), if_neg q, pm_ne (by omega), pm_ne (by omega), pm_ne (by omega), pm_ne (by omega)]
  have bke : ∀ i, i < E.length → py_bk P Q (E ++ [(p, l, w)]) i = py_bk P Q E i := by
    intro i hi
    unfold py_bk
    rw [wj_app hi]
  have bkn : py_bk P Q (E ++ [(p, l, w)]) E.length = bk_n (py_ka P Q w) := by
    unfold py_bk py_wj
    rw [List.getElem?_append_right (Nat.le_refl _), Nat.sub_self]
    rfl
  have lste : ∀ h n, n ≤ E.length → py_lst (py_bk P Q (E ++ [(p, l, w)])) h n = py_lst (py_bk P Q E) h n := fun h n hn => lst_ext n (fun i hi => bke i (by omega))
  have e1 : ∀ a1 a2 a3 a4 a5, zm_I (zm_setI (zm_setI (zm_setI (zm_setI (zm_setI M 20 (di + 2) E.length a1) 20 (di + 3) E.length a2) 20 (di + 4) E.length a3) 20 (di + 5) E.length a4) 20 (di + 6) (bk_n (py_ka P Q w)) a5) 0 di 9 = nI E.length := by
    intro a1 a2 a3 a4 a5
    rw [pm_ne (by omega), pm_ne (by omega), pm_ne (by omega), pm_ne (by omega), pm_ne (by omega)]
    exact x2
  have e2 : ∀ a1 a2 a3 a4, zm_I (zm_setI (zm_setI (zm_setI (zm_setI M 20 (di + 2) E.length a1) 20 (di + 3) E.length a2) 20 (di + 4) E.length a3) 20 (di + 5) E.length a4) 0 di 9 = nI E.length := by
    intro a1 a2 a3 a4
    rw [pm_ne (by omega), pm_ne (by omega), pm_ne (by omega), pm_ne (by omega)]
    exact x2
  have e3 : ∀ a1 a2 a3, zm_I (zm_setI (zm_setI (zm_setI M 20 (di + 2) E.length a1) 20 (di + 3) E.length a2) 20 (di + 4) E.length a3) 0 di 9 = nI E.length := by
    intro a1 a2 a3
    rw [pm_ne (by omega), pm_ne (by omega), pm_ne (by omega)]
    exact x2
  have e4 : ∀ a1 a2, zm_I (zm_setI (zm_setI M 20 (di + 2) E.length a1) 20 (di + 3) E.length a2) 0 di 9 = nI E.length := by
    intro a1 a2
    rw [pm_ne (by omega), pm_ne (by omega)]
    exact x2
  have e5 : ∀ a1, zm_I (zm_setI M 20 (di + 2) E.length a1) 0 di 9 = nI E.length := by
    intro a1
    rw [pm_ne (by omega)]
    exact x2
  have e6 : ∀ a1 a2 a3, zm_I (zm_setI (zm_setI (zm_setI M 20 (di + 2) E.length a1) 20 (di + 3) E.length a2) 20 (di + 4) E.length a3) 20 (di + 6) (bk_n (py_ka P Q w)) = zm_I M 20 (di + 6) (bk_n (py_ka P Q w)) := by
    intro a1 a2 a3
    rw [pm_ne (by omega), pm_ne (by omega), pm_ne (by omega)]
  refine ⟨M', ?_, ⟨?_, ?_, ?_, ?_, ?_, ?_⟩, f⟩
  · have eb : di_store (d + 1) di (py_ka P Q w).1 (py_ka P Q w).2 (nI (32 * p + l)) M = di_store_b d di (py_ka P Q w).1 (py_ka P Q w).2 (nI (32 * p + l)) M := rfl
    rw [eb]
    unfold di_store_b di_bucketOf
    have e87 : (8738 : Int32) = nI 8738 := rfl
    rw [x2, e87, if_pos ((nI_ltI (by omega) (by omega)).mpr hlen)]
    have ebk : ((((py_ka P Q w).1 * 31) + ((py_ka P Q w).2 * 17)) ^^^ (((((py_ka P Q w).1 * 31) + ((py_ka P Q w).2 * 17)).toUInt32 >>> ((13 : Int32).toUInt32 &&& Int32.toUInt32 31)).toInt32)) &&& 2047 = nI (bk_n (py_ka P Q w)) := b1
    simp only [zlet, Option.bind_some, ebk, pm_RI, pm_LI, x1.2.1.1, x1.2.1.2, x1.2.2.1.1, x1.2.2.1.2, x1.2.2.2.1.1, x1.2.2.2.1.2, x1.2.2.2.2.1.1, x1.2.2.2.2.1.2, x1.2.2.2.2.2.1, x1.2.2.2.2.2.2, x2, if_pos zn, if_pos zh, nI_clamp (show E.length < 2 ^ 31 by omega), nI_clamp (show bk_n (py_ka P Q w) < 2 ^ 31 by omega), e1, e2, e3, e4, e5, e6, nI_1]
    rw [hM']
  · unfold di_l
    rw [f.1, f.2.1]
    exact x1
  · rw [hM', pm_same, List.length_append, List.length_singleton]
  · rw [List.length_append, List.length_singleton]; omega
  · intro i e he
    rw [r2, r3, r4]
    by_cases q : i = E.length
    · subst q
      rw [List.getElem?_append_right (Nat.le_refl _), Nat.sub_self] at he
      injection he with he
      subst he
      rw [if_pos rfl, if_pos rfl, if_pos rfl]
      exact ⟨rfl, rfl, rfl⟩
    · have hil := (List.getElem?_eq_some_iff.mp he).1
      rw [List.length_append, List.length_singleton] at hil
      rw [List.getElem?_append_left (by omega)] at he
      rw [if_neg q, if_neg q, if_neg q]
      exact x4 i e he
  · intro i hi
    rw [List.length_append, List.length_singleton] at hi
    rw [r5]
    by_cases q : i = E.length
    · subst q
      rw [if_pos rfl, bkn, lste _ _ (Nat.le_refl _), x6 _ b2]
    · rw [if_neg q, bke i (by omega), lste _ _ (by omega), x5 i (by omega)]
  · intro h hh
    rw [r6, List.length_append, List.length_singleton, py_lst, bkn]
    by_cases q : h = bk_n (py_ka P Q w)
    · rw [if_pos q, if_pos q.symm]
      rfl
    · rw [if_neg q, if_neg (fun e => q e.symm), lste _ _ (Nat.le_refl _), x6 h hh]
end
