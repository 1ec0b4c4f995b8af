/-! NUMBERS OF WORDS: the class's are the reference's -/
def py_bb (B : Int32) : yS := (none, fun _ => 0, fun _ => B)
def py_nb2 (P : yP) (p : Nat) (B : Int32) : List Nat := (py_ks P p).filter (fun c => !zbt B (py_bf (py_ks P p) c).length)
section
variable {P : yP} {s : yS}
theorem bf_nth {l : List Nat} (hn : l.Nodup) {i c : Nat} (h : l[i]? = some c) : (py_bf l c).length = i := by
  have hi := (List.getElem?_eq_some_iff.mp h)
  obtain ⟨hil, he⟩ := hi
  have e : l = l.take i ++ c :: l.drop (i + 1) := by
    rw [← he]
    simp
  have hnc : ¬ c ∈ l.take i := by
    intro hm
    rw [e] at hn
    exact (List.nodup_append.mp hn).2.2 c hm c (by simp) rfl
  have h1 := (bf_eq (b := l.drop (i + 1)) hnc).1
  rw [← e] at h1
  rw [h1, List.length_take]
  omega
theorem cl4_all (hP : py_ok P) {p : Nat} (hp : py_dm P p) (B : Int32) : py_cl4 P B 0 (py_ks P p) = (py_nb2 P p B).all (py_nu P) := by
  have hnd := ok_nd hP hp
  rw [Bool.eq_iff_iff, cl4_ml, List.all_eq_true]
  constructor
  · intro h c hc
    obtain ⟨hc1, hc2⟩ := List.mem_filter.mp hc
    cases hu : py_nu P c with
    | true => rfl
    | false =>
      have hat := bf_at hc1
      have := h _ ((ml_mem (py_nu P) _ _ _).mpr ⟨Nat.zero_le _, c, by rw [Nat.sub_zero]; exact hat, hu⟩)
      rw [this] at hc2
      cases hc2
  · intro h j hj
    obtain ⟨_, c, hc, hu⟩ := (ml_mem (py_nu P) _ _ _).mp hj
    rw [Nat.sub_zero] at hc
    have hpl := bf_nth hnd hc
    cases hz : zbt B j with
    | true => rfl
    | false =>
      have := h c (List.mem_filter.mpr ⟨List.mem_of_getElem? hc, by rw [hpl, hz]; rfl⟩)
      rw [hu] at this
      cases this
theorem nb2_erase (hP : py_ok P) {p c : Nat} (hp : py_dm P p) (h4 : (py_ks P p).length ≤ 4) (hc : c ∈ py_ks P p) (B : Int32) : py_nb2 P p (B ||| zbit (py_bf (py_ks P p) c).length) = (py_nb2 P p B).erase c := by
  have hnd := ok_nd hP hp
  have hcl := (List.getElem?_eq_some_iff.mp (bf_at hc)).1
  rw [List.Nodup.erase_eq_filter (l := py_nb2 P p B) (List.Pairwise.filter _ hnd) c]
  unfold py_nb2
  rw [List.filter_filter]
  refine List.filter_congr ?_
  intro d hd
  have hdl := (List.getElem?_eq_some_iff.mp (bf_at hd)).1
  rw [zy_or, zy_bit (by omega) (by omega)]
  have hiff : ((py_bf (py_ks P p) d).length = (py_bf (py_ks P p) c).length) ↔ d = c := by
    constructor
    · intro e
      have h1 := bf_at hd
      have h2 := bf_at hc
      rw [e, h2] at h1
      injection h1 with h1
      exact h1.symm
    · intro e; rw [e]
  by_cases q : d = c
  · rw [decide_eq_true (hiff.mpr q)]
    have : (d != c) = false := by simpa using q
    rw [this]
    simp
  · rw [decide_eq_false (fun e => q (hiff.mp e))]
    have : (d != c) = true := by simpa using q
    rw [this]
    simp
theorem J_any (hP : py_ok P) {p : Nat} (hp : py_dm P p) (hk : py_kd P p = 4) : ∀ (f x : Nat) (B : Int32), x ∈ py_ks P p → zbt B (py_bf (py_ks P p) x).length = true → (py_nb2 P p B).length ≤ f → ∀ j, py_J P p x (py_bb B) j = py_T (py_N P) (py_nu P) f (py_nb2 P p B) j := by
  obtain ⟨_, k4b, k4c, k4d⟩ := ok_k4 hP hp hk
  have hnd := ok_nd hP hp
  intro f
  induction f with
  | zero =>
    intro x B hx hbx hl j
    have hdx := ok_kid hP hp hx
    have e := ok_kup hP hp hx
    have hps := (pre_no hP hp hx (by omega)).2
    have hR : py_nb2 P p B = [] := List.eq_nil_of_length_eq_zero (by omega)
    have hcl : py_cl P (py_bb B) p = (py_nb2 P p B).all (py_nu P) := by
      unfold py_cl
      rw [if_neg (by omega), if_pos hk]
      exact cl4_all hP hp B
    cases j with
    | zero =>
      show (if py_pst P x && py_cl P (py_bb B) p then 1 else 0) = (if (py_nb2 P p B).all (py_nu P) then nv_1 0 else 0)
      rw [hps, hcl, Bool.true_and]
      rfl
    | succ j =>
      show sl _ (py_avl P (py_bb B) x) = (if (py_nb2 P p B).all (py_nu P) then nv_1 (j + 1) else 0)
      have hav : py_avl P (py_bb B) x = [] := by
        rw [avl_eq hP hdx e]
        refine List.filter_eq_nil_iff.mpr ?_
        intro W hW hg
        have hm := (lv_what hP hdx e hW).2.2.2.1
        unfold py_gt at hg
        rw [if_pos hk] at hg
        have hg : (!zbt B (py_bf (py_ks P p) W.2.2.2).length) = true := hg
        have : W.2.2.2 ∈ py_nb2 P p B := List.mem_filter.mpr ⟨hm, hg⟩
        rw [hR] at this
        cases this
      rw [hav]
      split <;> rfl
  | succ f ih =>
    intro x B hx hbx hl j
    have hdx := ok_kid hP hp hx
    have e := ok_kup hP hp hx
    have hps := (pre_no hP hp hx (by omega)).2
    have hcl : py_cl P (py_bb B) p = (py_nb2 P p B).all (py_nu P) := by
      unfold py_cl
      rw [if_neg (by omega), if_pos hk]
      exact cl4_all hP hp B
    cases j with
    | zero =>
      show (if py_pst P x && py_cl P (py_bb B) p then 1 else 0) = (if (py_nb2 P p B).all (py_nu P) then nv_1 0 else 0) + sl (fun c => cv (py_N P c) (py_T (py_N P) (py_nu P) f ((py_nb2 P p B).erase c)) 0) (py_nb2 P p B)
      have : sl (fun c => cv (py_N P c) (py_T (py_N P) (py_nu P) f ((py_nb2 P p B).erase c)) 0) (py_nb2 P p B) = 0 := by
        rw [sl_ext (g := fun _ => 0) (fun c _ => cv_N0 _ _)]
        exact sl_zero _
      rw [this, hps, hcl, Bool.true_and]
      rfl
    | succ j =>
      show sl (fun W => py_F P p j (py_ov P p (py_bb B) W)) (py_avl P (py_bb B) x) = (if (py_nb2 P p B).all (py_nu P) then nv_1 (j + 1) else 0) + sl (fun c => cv (py_N P c) (py_T (py_N P) (py_nu P) f ((py_nb2 P p B).erase c)) (j + 1)) (py_nb2 P p B)
      have hav : py_avl P (py_bb B) x = (py_nb2 P p B).flatMap (fun c => py_il P (some p) c none) := by
        rw [avl_eq hP hdx e]
        have hlv : py_lv P x = py_an2 P p x (py_ks P p) := by
          unfold py_lv
          rw [e]
          simp only
          rw [if_neg (by omega), if_pos hk]
        rw [hlv]
        have key : ∀ l : List Nat, (py_an2 P p x l).filter (fun W => py_gt P (py_bb B) p W.2.2.2) = (l.filter (fun c => !zbt B (py_bf (py_ks P p) c).length)).flatMap (fun c => py_il P (some p) c none) := by
          intro l
          induction l with
          | nil => rfl
          | cons c l ihl =>
            rw [an_cons, List.filter_append, ihl, List.filter_cons]
            have hgc : ∀ W, W ∈ py_il P (some p) c none → py_gt P (py_bb B) p W.2.2.2 = !zbt B (py_bf (py_ks P p) c).length := by
              intro W hW
              unfold py_il at hW
              obtain ⟨q, _, rfl⟩ := List.mem_map.mp hW
              unfold py_gt
              rw [if_pos hk]
              rfl
            cases hz : zbt B (py_bf (py_ks P p) c).length with
            | true =>
              rw [if_neg (show ¬ (!true) = true by decide)]
              have : (if c = x then [] else py_il P (some p) c none).filter (fun W => py_gt P (py_bb B) p W.2.2.2) = [] := by
                refine List.filter_eq_nil_iff.mpr ?_
                intro W hW hg
                by_cases q : c = x
                · rw [if_pos q] at hW; cases hW
                · rw [if_neg q] at hW
                  rw [hgc W hW, hz] at hg
                  cases hg
              rw [this, List.nil_append]
            | false =>
              rw [if_pos (show (!false) = true from rfl), List.flatMap_cons]
              have hcx : ¬ c = x := by intro q; rw [q, hbx] at hz; cases hz
              rw [if_neg hcx]
              congr 1
              refine List.filter_eq_self.mpr ?_
              intro W hW
              rw [hgc W hW, hz]
              rfl
        exact key (py_ks P p)
      rw [hav, sl_fm]
      have hn1 : nv_1 (j + 1) = 0 := rfl
      have h0 : (if (py_nb2 P p B).all (py_nu P) then nv_1 (j + 1) else 0) = 0 := by
        rw [hn1]
        split <;> rfl
      rw [h0, Nat.zero_add]
      refine sl_ext ?_
      intro c hc
      obtain ⟨hc1, hc2⟩ := List.mem_filter.mp hc
      have hcl4 := (List.getElem?_eq_some_iff.mp (bf_at hc1)).1
      rw [il_F hP hp hc1]
      refine cv_ext _ (fun _ _ => rfl) (fun i _ => ?_)
      have hdc := ok_kid hP hp hc1
      have ec := ok_kup hP hp hc1
      rw [J_ext (s := py_ps2 P p (py_bb B) c) (t := py_bb (B ||| zbit (py_bf (py_ks P p) c).length)) hP hdc ec (fun h5 => by omega) (by
        intro _
        show (if py_kd P p = 4 ∧ py_nb P p = py_nb P p then B ||| zbit (py_bf (py_ks P p) c).length else 0) = B ||| zbit (py_bf (py_ks P p) c).length
        rw [if_pos ⟨hk, rfl⟩]) i]
      rw [ih c _ hc1 (by
        rw [zy_or, zy_bit (by omega) (by omega), decide_eq_true rfl, Bool.or_true]) (by
        rw [nb2_erase hP hp k4b hc1, List.length_erase_of_mem hc]
        omega) i, nb2_erase hP hp k4b hc1]
theorem N_any (hP : py_ok P) {p : Nat} (hp : py_dm P p) (hk : py_kd P p = 4) (k : Nat) : py_N P p (k + 1) = fsum (fun i => py_E (py_N P) (py_nu P) (py_ks P p).reverse i (k + 1)) 5 := by
  obtain ⟨_, k4b, k4c, k4d⟩ := ok_k4 hP hp hk
  have hnd := ok_nd hP hp
  rw [← T_E 4 _ (List.Perm.nodup (List.reverse_perm _).symm hnd) (by rw [List.length_reverse]; exact k4b), T_perm 4 _ _ (List.reverse_perm _)]
  show sl (fun q => py_F P p k (py_S P q)) (py_fl P p) = (if (py_ks P p).all (py_nu P) then nv_1 (k + 1) else 0) + sl (fun c => cv (py_N P c) (py_T (py_N P) (py_nu P) 3 ((py_ks P p).erase c)) (k + 1)) (py_ks P p)
  have hn1 : nv_1 (k + 1) = 0 := rfl
  have h0 : (if (py_ks P p).all (py_nu P) then nv_1 (k + 1) else 0) = 0 := by
    rw [hn1]
    split <;> rfl
  rw [h0, Nat.zero_add, fl_sum hP hp hnd (fun c hc => hc) (fl_kids hP hp (by omega) (by omega))]
  refine sl_ext ?_
  intro c hc
  have hcl4 := (List.getElem?_eq_some_iff.mp (bf_at hc)).1
  rw [fl_N hP hp hc]
  refine cv_ext _ (fun _ _ => rfl) (fun i _ => ?_)
  have hdc := ok_kid hP hp hc
  have ec := ok_kup hP hp hc
  have hz0 : (0 : Int32) ||| zbit (py_bf (py_ks P p) c).length = zbit (py_bf (py_ks P p) c).length := by
    apply zy_ext
    intro i hi
    rw [zy_or, zy_0, Bool.false_or]
  have hall : py_nb2 P p 0 = py_ks P p := List.filter_eq_self.mpr (fun d _ => by rw [zy_0]; rfl)
  have her : py_nb2 P p (zbit (py_bf (py_ks P p) c).length) = (py_ks P p).erase c := by
    rw [← hz0, nb2_erase hP hp k4b hc, hall]
  rw [J_ext (s := py_f0 P p c) (t := py_bb (zbit (py_bf (py_ks P p) c).length)) hP hdc ec (fun h5 => by omega) (fun _ => rfl) i]
  rw [J_any hP hp hk 3 c _ hc (by rw [zy_bit (by omega) (by omega), decide_eq_true rfl]) (by
    rw [her, List.length_erase_of_mem hc]
    omega) i, her]
/-- rows of the class -/
theorem pcv_v {row rd : yv} {r f : yN} {a : Nat} (h0 : f 0 = 0) : ∀ n, n ≤ 4 → (∀ i, i ≤ 4 → row i = nI (r i)) → (∀ i, 1 ≤ i → i ≤ 4 → rd i = nI (f i)) → py_cv row rd n (nI a) = nI (a + cv f r n) := by
  intro n hn hr hf
  have f1 := hf 1 (by omega) (by omega)
  have f2 := hf 2 (by omega) (by omega)
  have f3 := hf 3 (by omega) (by omega)
  have f4 := hf 4 (by omega) (by omega)
  have r0 := hr 0 (by omega)
  have r1 := hr 1 (by omega)
  have r2 := hr 2 (by omega)
  have r3 := hr 3 (by omega)
  have hc : n = 0 ∨ n = 1 ∨ n = 2 ∨ n = 3 ∨ n = 4 := by omega
  rcases hc with rfl | rfl | rfl | rfl | rfl
  · show nI a = nI (a + f 0 * r 0)
    rw [h0, Nat.zero_mul, Nat.add_zero]
  · show nI a + row 0 * rd 1 = nI (a + (f 0 * r 1 + f 1 * r 0))
    rw [r0, f1, pk_mul, nI_add, h0, Nat.zero_mul, Nat.zero_add, Nat.mul_comm (r 0)]
  · show nI a + row 1 * rd 1 + row 0 * rd 2 = nI (a + (f 0 * r 2 + (f 1 * r 1 + f 2 * r 0)))
    rw [r0, r1, f1, f2, pk_mul, pk_mul, nI_add, nI_add, h0, Nat.zero_mul, Nat.zero_add, Nat.mul_comm (r 0), Nat.mul_comm (r 1), Nat.add_assoc]
  · show nI a + row 2 * rd 1 + row 1 * rd 2 + row 0 * rd 3 = nI (a + (f 0 * r 3 + (f 1 * r 2 + (f 2 * r 1 + f 3 * r 0))))
    rw [r0, r1, r2, f1, f2, f3, pk_mul, pk_mul, pk_mul, nI_add, nI_add, nI_add, h0, Nat.zero_mul, Nat.zero_add, Nat.mul_comm (r 0), Nat.mul_comm (r 1), Nat.mul_comm (r 2)]
    congr 1
    omega
  · show nI a + row 3 * rd 1 + row 2 * rd 2 + row 1 * rd 3 + row 0 * rd 4 = nI (a + (f 0 * r 4 + (f 1 * r 3 + (f 2 * r 2 + (f 3 * r 1 + f 4 * r 0)))))
    rw [r0, r1, r2, r3, f1, f2, f3, f4, pk_mul, pk_mul, pk_mul, pk_mul, nI_add, nI_add, nI_add, nI_add, h0, Nat.zero_mul, Nat.zero_add, Nat.mul_comm (r 0), Nat.mul_comm (r 1), Nat.mul_comm (r 2), Nat.mul_comm (r 3)]
    congr 1
    omega
theorem Rr_swap (P : yP) (c d : Nat) (l : List Nat) : ∀ n, py_Rr P (c :: d :: l) n = py_Rr P (d :: c :: l) n := by
  intro n
  show cv (py_N P c) (fun k => cv (py_N P d) (py_Rr P l) k + (if py_nu P d then py_Rr P l k else 0)) n + (if py_nu P c then cv (py_N P d) (py_Rr P l) n + (if py_nu P d then py_Rr P l n else 0) else 0) = cv (py_N P d) (fun k => cv (py_N P c) (py_Rr P l) k + (if py_nu P c then py_Rr P l k else 0)) n + (if py_nu P d then cv (py_N P c) (py_Rr P l) n + (if py_nu P c then py_Rr P l n else 0) else 0)
  rw [cv_add_r, cv_add_r]
  have e1 : cv (py_N P c) (cv (py_N P d) (py_Rr P l)) n = cv (py_N P d) (cv (py_N P c) (py_Rr P l)) n := by
    rw [← cv_assoc, ← cv_assoc]
    exact cv_ext n (fun k _ => cv_comm _ _ k) (fun _ _ => rfl)
  have e2 : cv (py_N P c) (fun k => cv (py_N P d) (py_Rr P l) k) n = cv (py_N P c) (cv (py_N P d) (py_Rr P l)) n := rfl
  have e3 : cv (py_N P d) (fun k => cv (py_N P c) (py_Rr P l) k) n = cv (py_N P d) (cv (py_N P c) (py_Rr P l)) n := rfl
  have z : ∀ x, cv (py_N P x) (fun _ => 0) n = 0 := fun x => cv_0_r _ _
  have z2 : ∀ x, cv (py_N P x) (fun k => py_Rr P l k) n = cv (py_N P x) (py_Rr P l) n := fun x => rfl
  rw [e2, e3, e1]
  cases py_nu P c <;> cases py_nu P d <;> simp [z, z2] <;> omega
theorem Rr_perm (P : yP) {l m : List Nat} (h : l.Perm m) : ∀ n, py_Rr P l n = py_Rr P m n := by
  induction h with
  | nil => intro n; rfl
  | cons x _ ih =>
    intro n
    show cv _ _ n + _ = cv _ _ n + _
    rw [cv_ext (g' := py_Rr P _) n (fun _ _ => rfl) (fun k _ => ih k), ih n]
  | swap x y l => intro n; exact Rr_swap P y x l n
  | trans _ _ i1 i2 => intro n; rw [i1, i2]
/-- how many readings there are: by structure, by runs -/
theorem rd_N (hP : py_ok P) : ∀ n, py_dm P n → ∀ k, 1 ≤ k → k ≤ 4 → py_rd P n k = nI (py_N P n k) := by
  refine ok_down hP _ ?_
  intro n hn ih k hk1 hk4
  rw [rd_eq hP hn]
  unfold py_rdg
  have e0 : (0 : Int32) = nI 0 := rfl
  have e1 : (1 : Int32) = nI 1 := rfl
  rcases ok_kd6 hP hn with hk | hk | hk | hk | hk | hk
  · rw [if_pos hk, N_leaf hP hn hk]
    show (if k = 1 then (1 : Int32) else 0) = nI (if k = 1 then 1 else 0)
    split <;> rfl
  · rw [if_neg (by omega), if_pos hk, N_none hP hn hk]
    rfl
  · rw [if_neg (by omega), if_neg (by omega), if_pos hk]
    have key : ∀ (l pre : List Nat), py_ks P n = pre ++ l → ∀ (row : yv), (∀ i, i ≤ 4 → row i = nI (py_Rr P pre.reverse i)) → ∀ i, i ≤ 4 → l.foldl (fun row c => py_mul row (py_rd P c) (py_nu P c)) row i = nI (py_Rr P (py_ks P n).reverse i) := by
      intro l
      induction l with
      | nil =>
        intro pre e row hr i hi
        rw [List.append_nil] at e
        rw [e]
        exact hr i hi
      | cons c l ihl =>
        intro pre e row hr i hi
        rw [List.foldl_cons]
        have hc : c ∈ py_ks P n := by rw [e]; simp
        refine ihl (pre ++ [c]) (by rw [e]; simp) _ ?_ i hi
        intro m hm
        rw [List.reverse_append]
        show py_cv row (py_rd P c) m (if py_nu P c then row m else 0) = nI (cv (py_N P c) (py_Rr P pre.reverse) m + (if py_nu P c then py_Rr P pre.reverse m else 0))
        have ha : (if py_nu P c then row m else 0) = nI (if py_nu P c then py_Rr P pre.reverse m else 0) := by
          rw [hr m hm]
          cases py_nu P c <;> rfl
        rw [ha, pcv_v (N_0 c) m hm hr (fun i h1 h2 => ih c hc i h1 h2), Nat.add_comm]
    have hst : ∀ i, i ≤ 4 → py_st i = nI (py_Rr P ([] : List Nat).reverse i) := by
      intro i _
      show (if i = 0 then (1 : Int32) else 0) = nI (if i = 0 then 1 else 0)
      split <;> rfl
    have h1 := key (py_ks P n) [] rfl py_st hst k hk4
    obtain ⟨k', rfl⟩ : ∃ k', k = k' + 1 := ⟨k - 1, by omega⟩
    show 0 + (py_ks P n).foldl (fun row c => py_mul row (py_rd P c) (py_nu P c)) py_st (k' + 1) * 1 = _
    rw [h1, N_row hP hn hk, Rr_perm P (List.reverse_perm (py_ks P n)), e0, e1, pk_mul, nI_add, Nat.mul_one, Nat.zero_add]
  · rw [if_neg (by omega), if_neg (by omega), if_neg (by omega), if_pos hk, N_choice hP hn hk]
    have key : ∀ (l : List Nat) (a : Nat), (∀ c, c ∈ l → c ∈ py_ks P n) → l.foldl (fun s c => s + py_rd P c k) (nI a) = nI (a + sl (fun c => py_N P c k) l) := by
      intro l
      induction l with
      | nil => intro a _; rfl
      | cons c l ihl =>
        intro a hl
        rw [List.foldl_cons, ih c (hl c List.mem_cons_self) k hk1 hk4, nI_add, ihl _ (fun x hx => hl x (List.mem_cons_of_mem _ hx)), sl_cons, Nat.add_assoc]
    have := key (py_ks P n) 0 (fun c hc => hc)
    rw [Nat.zero_add] at this
    exact this
  · rw [if_neg (by omega), if_neg (by omega), if_neg (by omega), if_neg (by omega), if_pos hk]
    have key : ∀ (l pre : List Nat), py_ks P n = pre ++ l → ∀ (rows : Nat → yv), (∀ i m, i ≤ 4 → m ≤ 4 → rows i m = nI (py_E (py_N P) (py_nu P) pre.reverse i m)) → ∀ i m, i ≤ 4 → m ≤ 4 → l.foldl (fun rows c => py_anr rows (py_rd P c) (py_nu P c)) rows i m = nI (py_E (py_N P) (py_nu P) (py_ks P n).reverse i m) := by
      intro l
      induction l with
      | nil =>
        intro pre e rows hr i m hi hm
        rw [List.append_nil] at e
        rw [e]
        exact hr i m hi hm
      | cons c l ihl =>
        intro pre e rows hr i m hi hm
        rw [List.foldl_cons]
        have hc : c ∈ py_ks P n := by rw [e]; simp
        refine ihl (pre ++ [c]) (by rw [e]; simp) _ ?_ i m hi hm
        intro i m hi hm
        rw [List.reverse_append]
        show (if i = 0 ∨ m = 0 then (if py_nu P c then rows i m else 0) else py_cv (rows (i - 1)) (py_rd P c) m (if py_nu P c then rows i m else 0)) = nI ((if py_nu P c then py_E (py_N P) (py_nu P) pre.reverse i m else 0) + (if i = 0 then 0 else cv (py_N P c) (py_E (py_N P) (py_nu P) pre.reverse (i - 1)) m))
        have ha : (if py_nu P c then rows i m else 0) = nI (if py_nu P c then py_E (py_N P) (py_nu P) pre.reverse i m else 0) := by
          rw [hr i m hi hm]
          cases py_nu P c <;> rfl
        rw [ha]
        by_cases q0 : i = 0
        · rw [if_pos (.inl q0), if_pos q0, Nat.add_zero]
        · rw [if_neg q0]
          by_cases qm : m = 0
          · subst qm
            rw [if_pos (.inr rfl), cv_N0, Nat.add_zero]
          · rw [if_neg (by
              rintro (h | h)
              · exact q0 h
              · exact qm h), pcv_v (N_0 c) m hm (fun j hj => hr (i - 1) j (by omega) hj) (fun j h1 h2 => ih c hc j h1 h2)]
    have hst : ∀ i m, i ≤ 4 → m ≤ 4 → py_an0 i m = nI (py_E (py_N P) (py_nu P) ([] : List Nat).reverse i m) := by
      intro i m _ _
      show (if i = 0 then py_st else fun _ => 0) m = nI ((if i = 0 then nv_1 else nv_0) m)
      by_cases q : i = 0
      · rw [if_pos q, if_pos q]
        show (if m = 0 then (1 : Int32) else 0) = nI (if m = 0 then 1 else 0)
        split <;> rfl
      · rw [if_neg q, if_neg q]
        rfl
    have hk2 := fun i hi => key (py_ks P n) [] rfl py_an0 hst i k hi hk4
    obtain ⟨k', rfl⟩ : ∃ k', k = k' + 1 := ⟨k - 1, by omega⟩
    rw [N_any hP hn hk]
    unfold py_anf
    rw [hk2 1 (by omega), hk2 2 (by omega), hk2 3 (by omega), hk2 4 (by omega)]
    have e2 : (2 : Int32) = nI 2 := rfl
    have e6 : (6 : Int32) = nI 6 := rfl
    have e24 : (24 : Int32) = nI 24 := rfl
    rw [e0, e1, e2, e6, e24, pk_mul, pk_mul, pk_mul, pk_mul, nI_add, nI_add, nI_add, nI_add]
    have hE0 : py_E (py_N P) (py_nu P) (py_ks P n).reverse 0 (k' + 1) = 0 := by
      rw [E_0]
      show (if _ then 0 else 0) = 0
      split <;> rfl
    congr 1
    show _ = 0 + 1 * py_E (py_N P) (py_nu P) (py_ks P n).reverse 0 (k' + 1) + 1 * py_E (py_N P) (py_nu P) (py_ks P n).reverse 1 (k' + 1) + 2 * py_E (py_N P) (py_nu P) (py_ks P n).reverse 2 (k' + 1) + 6 * py_E (py_N P) (py_nu P) (py_ks P n).reverse 3 (k' + 1) + 24 * py_E (py_N P) (py_nu P) (py_ks P n).reverse 4 (k' + 1)
    rw [hE0]
    omega
  · rw [if_neg (by omega), if_neg (by omega), if_neg (by omega), if_neg (by omega), if_neg (by omega)]
    obtain ⟨⟨b, hb, _⟩, k5b, k5c⟩ := ok_k5 hP hn hk
    rw [N_cnt hP hn hk hb hk4, hb]
    show (py_cns (py_rd P b) _ _ 4 1 (py_st, fun _ => 0)).2 k = _
    have key : ∀ (m t : Nat) (s : yv × yv) (u : yN × yN), (∀ i, i ≤ 4 → s.1 i = nI (u.1 i)) → (∀ i, i ≤ 4 → s.2 i = nI (u.2 i)) → ∀ i, i ≤ 4 → (py_cns (py_rd P b) (py_few P (py_nb P n)) (py_to P (py_nb P n)) m t s).2 i = nI ((py_cnN (py_N P b) (py_few P (py_nb P n)) (py_to P (py_nb P n)) m t u).2 i) := by
      intro m
      induction m with
      | zero => intro t s u _ h2 i hi; exact h2 i hi
      | succ m ihm =>
        intro t s u h1 h2 i hi
        rw [py_cns, py_cnN]
        have hc : (∀ x, py_to P (py_nb P n) = some x → t ≤ x) ↔ py_tle t (py_to P (py_nb P n)) = true := by
          unfold py_tle
          cases py_to P (py_nb P n) with
          | none => simp
          | some x => simp
        have hmul : ∀ j, j ≤ 4 → py_mul s.1 (py_rd P b) false j = nI (cv u.1 (py_N P b) j) := by
          intro j hj
          show py_cv s.1 (py_rd P b) j 0 = _
          rw [e0, pcv_v (N_0 b) j hj h1 (fun i a1 a2 => ih b (by rw [hb]; simp) i a1 a2), Nat.zero_add, cv_comm]
        by_cases q : py_tle t (py_to P (py_nb P n)) = true
        · rw [if_pos (hc.mpr q), if_pos q]
          refine ihm (t + 1) _ _ (fun j hj => hmul j hj) ?_ i hi
          intro j hj
          by_cases qf : py_few P (py_nb P n) ≤ t
          · simp only [if_pos qf]
            rw [h2 j hj, hmul j hj, e1, pk_mul, nI_add, Nat.mul_one]
          · simp only [if_neg qf]
            exact h2 j hj
        · rw [if_neg (fun h => q (hc.mp h)), if_neg q]
          exact h2 i hi
    exact key 4 1 _ _ (by
      intro i _
      show (if i = 0 then (1 : Int32) else 0) = nI (if i = 0 then 1 else 0)
      split <;> rfl) (fun i _ => rfl) k hk4
/-- the class's words are the reference's -/
theorem rd_wn (hP : py_ok P) (hsu : py_sure P = true) {k : Nat} (hk1 : 1 ≤ k) (hk4 : k ≤ 4) : py_rd P (py_rt P) k = py_wn P k py_s00 := by
  rw [rd_N hP _ (ok_rt hP) k hk1 hk4, wn_pn hP hsu k 0 py_s00 wg_0]
  congr 1
  obtain ⟨k', rfl⟩ : ∃ k', k = k' + 1 := ⟨k - 1, by omega⟩
  show sl (fun q => py_F P (py_rt P) k' (py_S P q)) (py_fl P (py_rt P)) = sl (fun W => py_pn P k' (py_go P py_s00 W)) (py_avs P py_s00)
  have hav : py_avs P py_s00 = py_il P none (py_rt P) none := List.filter_eq_self.mpr (fun W _ => rfl)
  rw [hav]
  unfold py_il
  rw [sl_map]
  refine sl_ext ?_
  intro q hq
  have q1 := (mem_fl.mp hq).1
  have hW : (q, none, none, py_rt P) ∈ py_ways P py_s00.1 := List.mem_map.mpr ⟨q, hq, rfl⟩
  have hv : ∀ o, py_s00.1 = some o → o < py_nl P := fun o h => by cases h
  have hrt : py_wi P (py_rt P) (py_lf P q) = true := fx_in hP _ (ok_lf hP q1) (mem_fl.mp hq).2
  rw [← F_pn hP k' (py_go P py_s00 (q, none, none, py_rt P)) q rfl q1]
  refine F_sg hP k' _ _ q ?_ rfl q1 hrt
  refine ⟨rfl, ?_⟩
  intro o ho
  have ho : some q = some o := ho
  injection ho with ho
  subst ho
  refine ⟨?_, ?_⟩
  · intro c hc _ hw
    rw [go_time hP hv hW hc hw]
    rfl
  · intro a ha _ hw
    have hk4 := ok_ank hP ha
    have hnn := ok_ann hP ha
    obtain ⟨k, m1, m2, m3⟩ := wi_dn hP _ (ok_lf hP q1) hw (lf_ne hP q1 (.inl hk4))
    have e1 := go_beg hP hv hW m1 m2 hk4 m3
    have e2 := S_beg hP q1 m1 m2 hk4 m3
    rw [hnn] at e1 e2
    rw [e1, e2]
    rfl
end
