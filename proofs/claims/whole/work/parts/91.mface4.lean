/-! THE MODEL's face: shown, unlike, wrong, count -/
theorem pf_inv {β : Type} {F : β → yW → yW → β} {Q : β → Prop} {l : List yW} (hF : ∀ x V W, V ∈ l → W ∈ l → Q x → Q (F x V W)) : ∀ (t pre : List yW) (x : β), (∀ V, V ∈ pre → V ∈ l) → (∀ V, V ∈ t → V ∈ l) → Q x → Q (py_pf F pre t x) := by
  have inner : ∀ (V : yW), V ∈ l → ∀ (p : List yW) (x : β), (∀ W, W ∈ p → W ∈ l) → Q x → Q (p.foldl (fun b W => F b V W) x) := by
    intro V hV p
    induction p with
    | nil => intro x _ hx; exact hx
    | cons W p ih =>
      intro x hp hx
      rw [List.foldl_cons]
      exact ih _ (fun Y hY => hp Y (List.mem_cons_of_mem _ hY)) (hF x V W hV (hp W List.mem_cons_self) hx)
  intro t
  induction t with
  | nil => intro pre x _ _ hx; exact hx
  | cons V t ih =>
    intro pre x hpre ht hx
    have hV := ht V List.mem_cons_self
    refine ih (pre ++ [V]) _ ?_ (fun Y hY => ht Y (List.mem_cons_of_mem _ hY)) (inner V hV pre x hpre hx)
    intro Y hY
    rcases List.mem_append.mp hY with q | q
    · exact hpre Y q
    · have : Y = V := by simpa using q
      rw [this]
      exact hV
theorem fw_lt {P : yP} (h : py_ok P) {u : Bool} {b : yB} (hb : py_fw P u = some b) : b.2.1.1 < py_nl P := by
  have key : ∀ (l : List Nat) (x : Option yB), (∀ k, k ∈ l → k ≤ py_nl P) → (∀ b, x = some b → b.2.1.1 < py_nl P) → ∀ b, py_fws P u l x = some b → b.2.1.1 < py_nl P := by
    intro l
    induction l with
    | nil => intro x _ hx b hb; exact hx b hb
    | cons k l ih =>
      intro x hk hx b hb
      refine ih _ (fun y hy => hk y (List.mem_cons_of_mem _ hy)) ?_ b hb
      have hpo : ∀ o, py_po k = some o → o < py_nl P := by
        intro o e
        have := hk k List.mem_cons_self
        cases k with
        | zero => cases e
        | succ k => injection e with e; omega
      refine pf_inv (Q := fun x => ∀ b, x = some b → b.2.1.1 < py_nl P) (l := py_ways P (py_po k)) ?_ (py_ways P (py_po k)) [] x (fun V hV => by cases hV) (fun V hV => hV) hx
      intro x V W hV hW hx b hb
      unfold py_fw1 at hb
      split at hb
      · unfold py_try at hb
        split at hb
        · injection hb with hb
          rw [← hb]
          unfold py_new
          split
          · exact (ways_lt h hpo hW).1
          · exact (ways_lt h hpo hV).1
        · exact hx b hb
      · exact hx b hb
  exact key _ none (by intro k hk; simp at hk; omega) (fun b hb => by cases hb) b hb
theorem df_len {P Q : yP} : ∀ (m : Nat) (a b : Option yS) (w : List Nat), py_df P Q m a b = some w → w.length = m := by
  intro m
  induction m with
  | zero =>
    intro a b w hw
    unfold py_df at hw
    split at hw
    · injection hw with hw
      rw [← hw]
      rfl
    · cases hw
  | succ m ih =>
    intro a b w hw
    unfold py_df at hw
    have key : ∀ l w, py_fl2 (fun l => py_df P Q m (py_os P a l) (py_os Q b l)) l = some w → w.length = m + 1 := by
      intro l
      induction l with
      | nil => intro w hw; cases hw
      | cons x l ihl =>
        intro w hw
        unfold py_fl2 at hw
        cases hd : py_df P Q m (py_os P a x) (py_os Q b x) with
        | none =>
          rw [hd] at hw
          exact ihl w hw
        | some v =>
          rw [hd] at hw
          injection hw with hw
          rw [← hw, List.length_cons, ih _ _ _ hd]
    exact key _ w hw
def py_hold (D : List yT) (t : Nat) : Nat := match D[t]? with
  | none => 0
  | some x => x.2.2.1
def py_fu (D : List yT) : Option Nat := if D.length = 0 then none else some ((List.range' 1 (D.length - 1)).foldl (fun b t => if py_hold D b < py_hold D t then t else b) 0)
def py_de (D : List yT) : Nat := D.foldl (fun m x => max m (x.2.2.2 + 1)) 0
def py_ra (S : yZ) (u : Bool) : List Nat := (List.range' 0 S.2.1.1).filter (fun r => py_cf (S.2.1.2 r) u == 0)
def sp_cou (S : yZ) (w : Int32) : Int32 := if w = 0 then nI S.1.length else if w = 1 then nI S.2.1.1 else if w = 2 then nI S.2.2.1.length else if w = 3 then nI (py_wgs S).length else if w = 4 then zor (py_ra S true) else if w = 5 then zor (py_ra S false) else if w = 6 then zo (py_fu S.2.2.1) else if w = 7 then nI (py_de S.2.2.1) else -1
section
variable {am d : Nat} {M : zM} {S : yZ}
theorem mf_shw (h : mI am M S) (hz : zz_ok S) (hd : 200 ≤ d) (x : Int32) (u : Bool) (k : Int32) : mf_r am M S (mo_shown d am x (zb u) k M) (sp_shw S x u k) := by
  have hR := hz.2.1
  obtain ⟨d, rfl⟩ : ∃ d', d = d' + 1 := ⟨d - 1, by omega⟩
  have eb : mo_shown (d + 1) am x (zb u) k M = mo_shown_b d am x (zb u) k M := rfl
  rw [eb]
  obtain ⟨h0, hf0⟩ := mI_0 h 0
  unfold mo_shown_b sp_shw
  simp only [zlet]
  rw [mr_isRule h0 hz (by omega)]
  simp only [Option.bind_some]
  cases hx : zin x S.2.1.1 with
  | none => exact mf_mk0 h0 hf0 (by simp [zb, mo_shown_36])
  | some r =>
    obtain ⟨hr, rfl⟩ := zin_some (by omega) hx
    dsimp only
    have hp := mI_p h0 hr
    generalize S.2.1.2 r = P at *
    simp only [Option.isSome_some, pb_zbt]
    rw [if_neg (by decide)]
    by_cases q : k < 0
    · rw [if_pos q, if_pos q]
      exact mf_mk0 h0 hf0 (by simp [mo_shown_36])
    · rw [if_neg q, if_neg q]
      obtain ⟨j, hj, rfl⟩ := nI_of q
      obtain ⟨M1, e1, e2, e3, e4⟩ := mr_findsWitness (d := d) hp (by omega) u h0.2.2.2.2.2
      rw [e1]
      simp only [Option.bind_some]
      cases hfw : py_fw P u with
      | none => exact mf_mk h0 hf0 (by simp [zb, mo_shown_36]) e3 (by simp [mi_F]) (by simp [mi_A]) e4
      | some b =>
        rw [hfw] at e2
        have hlt := fw_lt hp.1 hfw
        obtain ⟨b0, b1, b2, b3, b4, b5, b6, b7, _⟩ := e2
        refine mf_mk h0 hf0 ?_ e3 (by simp [mi_F]) (by simp [mi_A]) e4
        have hl1 := ml_zf h0.1 e3
        have hp1 := mp_zf hp e3 (by simp)
        have i5 : z_in 5 7 := by decide
        have i1 : z_in 1 7 := by decide
        have c5 : (5 : Int32).toNatClampNeg = 5 := by decide
        have c1 : (1 : Int32).toNatClampNeg = 1 := by decide
        simp only [Option.isSome_some, pb_zbt]
        rw [if_neg (by decide)]
        simp only [ml_R32 hl1, ml_L32 hl1, if_pos i5, if_pos i1, c5, c1, b5, b1, mr_lt hp1 hlt, Option.bind_some, ml_R33 hl1, ml_L33 hl1]
        by_cases q1 : j ≤ b.2.2.2.length
        · rw [if_pos (nI_le q1 (by omega)), if_neg (nI_nlt q1 (by omega))]
          by_cases q2 : j = b.2.2.2.length
          · rw [if_pos (by rw [q2]), if_pos (by rw [q2])]
            rfl
          · have q2' : ¬ nI j = nI b.2.2.2.length := fun e => q2 ((nI_eq hj (by omega)).mp e)
            have hzj : z_in (nI j) 12000 := nI_in (by omega) (by omega)
            have hlj : j < b.2.2.2.length := by omega
            have hg : b.2.2.2[j]? = some b.2.2.2[j] := by simp
            rw [if_neg q2', if_neg q2', if_pos hzj, nI_clamp hj, b6 _ _ hg, hg]
            rfl
        · rw [if_neg (nI_ge (by omega) hj), if_pos (nI_lt (by omega) hj)]
          rfl
theorem mr_unlike_58 {r o : Nat} {P Q : yP} (hd : 50 ≤ d) (k : Int32) (hk : ¬ k < -1) : ∀ (m n : Nat) (M : zM), n + m = 5 → mp_ok am M r P → mp_ok am M o Q → mk_x am M 0 py_s00 → mk_x am M 78 py_s00 → ∀ fuel, m < fuel → ∃ M', mo_unlike_58 d fuel am (nI r) (nI o) k (nI n) M = some (match py_ul P Q (List.range' n m) with
    | none => -1
    | some w => if k = -1 then nI w.length else match zin k w.length with
      | none => -1
      | some i => match w[i]? with
        | none => -1
        | some l => nI l, M') ∧ zf (mg am [26, 35, 36] [14, 15, 16, 17, 23, 32]) M M' := by
  intro m
  induction m with
  | zero =>
    intro n M hn hr ho h1 h2 fuel hf
    cases fuel with
    | zero => cases hf
    | succ fuel =>
      have : n = 5 := by omega
      subst this
      have hlt : (4 : Int32) < nI 5 := by decide
      refine ⟨M, ?_, zf_refl _ _⟩
      simp [mo_unlike_58, hlt, py_ul]
  | succ m ih =>
    intro n M hn hr ho h1 h2 fuel hf
    cases fuel with
    | zero => cases hf
    | succ fuel =>
      have hnlt : ¬ (4 : Int32) < nI n := nI_nlt (b := n) (a := 4) (by omega) (by omega)
      obtain ⟨M1, e1, e2, e3⟩ := mr_parts2 (am := am) (r := r) (o := o) hr.1 ho.1 (n := n) (by omega) n 0 d M (some py_s00) (some py_s00) (by omega) (by omega) hr ho (fun s hs => (by injection hs with hs; rw [← hs]; exact ⟨h1, s00_b⟩)) (fun s hs => (by injection hs with hs; rw [← hs]; exact ⟨h2, s00_b⟩))
      have e1' : mo_parts2 d am (nI r) (nI o) 0 (nI n) 1 1 M = some (zb (py_df P Q n (some py_s00) (some py_s00)).isSome, M1) := e1
      have hf1 := zf_mono e3 pf_mg
      have eu : py_ul P Q (List.range' n (m + 1)) = match py_df P Q n (some py_s00) (some py_s00) with
          | some w => some w
          | none => py_ul P Q (List.range' (n + 1) m) := by
        rw [List.range'_succ]
        rfl
      rw [eu]
      simp only [mo_unlike_58, if_neg hnlt, e1', Option.bind_some]
      cases hdf : py_df P Q n (some py_s00) (some py_s00) with
      | none =>
        simp only [Option.isSome_none, pb_zbf, if_true]
        obtain ⟨M2, f1, f2⟩ := ih (n + 1) M1 (by omega) (mp_zf hr hf1 (by simp)) (mp_zf ho hf1 (by simp)) (pf_row h1 e3 (.inl (by omega))) (pf_row h2 e3 (.inr (by omega))) fuel (by omega)
        refine ⟨M2, ?_, zf_trans hf1 f2⟩
        rw [← f1]
        simp only [zlet, nI_1]
      | some w =>
        simp only [Option.isSome_some, pb_zbt]
        rw [if_neg (by decide)]
        have hwl := df_len n _ _ w hdf
        refine ⟨M1, ?_, hf1⟩
        by_cases q : k = -1
        · rw [if_pos q, if_pos q, hwl]
          rfl
        · rw [if_neg q, if_neg q]
          have hk0 : ¬ k < 0 := by
            intro x
            rw [fa_lt] at x hk
            have h0 : ((0 : Int32)).toInt = 0 := by decide
            have h1 : ((-1 : Int32)).toInt = -1 := by decide
            have : k.toInt = -1 := by omega
            exact q (Int32.toInt_inj.mp (by rw [this, h1]))
          obtain ⟨j, hj, rfl⟩ := nI_of hk0
          by_cases q2 : j < n
          · rw [if_neg (nI_ge q2 (by omega)), zin_nI (by omega) (show j < w.length by omega)]
            have hzj : z_in (nI j) 4 := nI_in (by omega) (by omega)
            have hjl : j < w.length := by omega
            have hg : w[j]? = some w[j] := by simp
            have hv := e2 w hdf j _ hg
            rw [Nat.zero_add] at hv
            have hl1 := ml_zf hr.2.1 hf1
            simp only [ml_R56 hl1, ml_L56 hl1, if_pos hzj, nI_clamp hj, hv, hg, mo_unlike_104]
          · have hn2 : zin (nI j) w.length = none := by
              unfold zin
              refine if_neg ?_
              intro hc
              have := (nI_ltI hj (by omega)).mp hc.2
              omega
            rw [if_pos (nI_le (by omega) hj), hn2]
            rfl
theorem mf_unl (h : mI am M S) (hz : zz_ok S) (hd : 200 ≤ d) (x y k : Int32) : mf_r am M S (mo_unlike d am x y k M) (sp_unl S x y k) := by
  have hR := hz.2.1
  have hLF := pb_LF
  obtain ⟨d, rfl⟩ : ∃ d', d = d' + 1 := ⟨d - 1, by omega⟩
  have eb : mo_unlike (d + 1) am x y k M = mo_unlike_b d am x y k M := rfl
  rw [eb]
  obtain ⟨h0, hf0⟩ := mI_0 h 0
  unfold mo_unlike_b sp_unl
  simp only [zlet]
  rw [mr_isRule h0 hz (by omega)]
  simp only [Option.bind_some]
  cases hx : zin x S.2.1.1 with
  | none => exact mf_mk0 h0 hf0 (by simp [zb, mo_unlike_42])
  | some r =>
    obtain ⟨hr, rfl⟩ := zin_some (by omega) hx
    dsimp only
    simp only [Option.isSome_some, pb_zbt]
    rw [if_neg (by decide), mr_isRule h0 hz (by omega)]
    simp only [Option.bind_some]
    cases hy : zin y S.2.1.1 with
    | none => exact mf_mk0 h0 hf0 (by simp [zb, mo_unlike_42])
    | some o =>
      obtain ⟨ho, rfl⟩ := zin_some (by omega) hy
      dsimp only
      simp only [Option.isSome_some, pb_zbt]
      rw [if_neg (by decide)]
      have hp := mI_p h0 hr
      have hq := mI_p h0 ho
      generalize S.2.1.2 r = P at *
      generalize S.2.1.2 o = Q at *
      by_cases q : k < -1
      · rw [if_pos q, if_pos q]
        exact mf_mk0 h0 hf0 (by simp [mo_unlike_42])
      · rw [if_neg q, if_neg q]
        obtain ⟨M1, e1, e2⟩ := mr_isSure (d := d) hp (by omega)
        rw [e1]
        simp only [Option.bind_some]
        cases hs1 : py_sure P
        · exact mf_mkW h0 hf0 (by simp [zb, mo_unlike_42]) e2
        · simp only [pb_zbt, Bool.true_and]
          rw [if_neg (by decide)]
          obtain ⟨M2, f1, f2⟩ := mr_isSure (d := d) (mp_W hq e2) (by omega)
          rw [f1]
          simp only [Option.bind_some]
          cases hs2 : py_sure Q
          · exact mf_mkW h0 hf0 (by simp [zb, mo_unlike_42]) (zf_trans e2 f2)
          · simp only [pb_zbt, if_true]
            rw [if_neg (by decide)]
            have hp2 := mp_W (mp_W hp e2) f2
            have hq2 := mp_W (mp_W hq e2) f2
            obtain ⟨M3, g1, g2, g3⟩ := mr_begins (d := d) (v := 0) hp2 (by omega)
            have hp3 := mp_gw hp2 g3
            have hq3 := mp_gw hq2 g3
            obtain ⟨M4, k1, k2, k3⟩ := mr_begins (d := d) (v := 78) hp3 (by omega)
            have g1' : mo_begins d am 0 M2 = some M3 := g1
            have k1' : mo_begins d am 78 M3 = some M4 := k1
            obtain ⟨M5, l1, l2⟩ := mr_unlike_58 (am := am) (d := d) (r := r) (o := o) (P := P) (Q := Q) (by omega) k q 5 0 M4 (by omega) (mp_gw hp3 k3) (mp_gw hq3 k3) (mk_zf g2 k3 (.inl (by omega))) k2 zLF (by omega)
            have l1' : mo_unlike_58 d zLF am (nI r) (nI o) k 0 M4 = _ := l1
            have hfa : zf (mg am [26, 35, 36] [14, 15, 16, 17, 23, 32]) (zm_setI M 12 am 0 0) M5 := zf_trans (zf_mono (zf_trans e2 f2) (mg_mono (by simp) (by simp))) (zf_trans (zf_mono (zf_mono g3 gw_mg) (mg_mono (by simp) (by simp))) (zf_trans (zf_mono (zf_mono k3 gw_mg) (mg_mono (by simp) (by simp))) l2))
            refine mf_mk h0 hf0 (by simp only [g1', k1', Option.bind_some]; exact l1') hfa (by simp [mi_F]) (by simp [mi_A]) ?_
            rw [mg_f hfa (by simp)]
            exact h0.2.2.2.2.2
theorem mr_wg (h : mI am M S) (hz : zz_ok S) (hd : 39 ≤ d) {t : Nat} (ht : t < S.2.2.1.length) : ∃ M' v, mo_held d am (nI t) M = some (v, M') ∧ (v = 0 ↔ py_wg2 S t = true) ∧ zf (mh_W am) M M' := by
  have hg : S.2.2.1[t]? = some S.2.2.1[t] := by simp
  obtain ⟨M1, f1, f2, f3⟩ := mr_held (d := d) h.2.2.1 hz.2.2.2.1 hz.2.2.2.2.1 h.2.2.2.1 hd hg
  refine ⟨M1, _, f1, ?_, f3⟩
  unfold py_wg2
  rw [hg]
  generalize S.2.2.1[t] = x
  have hle : (py_he S.2.1.1 S.2.1.2 S.2.2.1 t x.1).1 ≤ 2 := by
    unfold py_he
    split
    · split <;> simp
    · split
      · split <;> simp
      · simp
  show (nI (py_he S.2.1.1 S.2.1.2 S.2.2.1 t x.1).1 = 0) ↔ ((py_he S.2.1.1 S.2.1.2 S.2.2.1 t x.1).1 == 0) = true
  rw [beq_iff_eq]
  exact nI_eq (b := 0) (by omega) (by omega)
theorem mI_h {M' : zM} (h : mI am M S) (hf : zf (mh_W am) M M') : mI am M' S := mI_zf' h hf (by simp [mi_F]) (by simp [mi_A])
theorem mr_wrongs_4 (hz : zz_ok S) (hd : 39 ≤ d) : ∀ (m t : Nat) (M : zM) (n : Nat), t + m = S.2.2.1.length → mI am M S → ∀ fuel, m < fuel → ∃ M', mo_wrongs_4 d fuel am (nI n) (nI t) M = some (nI (n + ((List.range' t m).filter (py_wg2 S)).length), M') ∧ zf (mh_W am) M M' := by
  have h60 := hz.2.2.2.2.1.1
  intro m
  induction m with
  | zero =>
    intro t M n ht h fuel hf
    cases fuel with
    | zero => cases hf
    | succ fuel =>
      have : t = S.2.2.1.length := by omega
      subst this
      exact ⟨M, by simp [mo_wrongs_4, h.2.2.2.1.1], zf_refl _ _⟩
  | succ m ih =>
    intro t M n ht h fuel hf
    cases fuel with
    | zero => cases hf
    | succ fuel =>
      have hge : ¬ nI S.2.2.1.length ≤ nI t := nI_ge (by omega) (by omega)
      obtain ⟨M1, v, e1, e2, e3⟩ := mr_wg (d := d) h hz hd (t := t) (by omega)
      rw [List.range'_succ, List.filter_cons]
      simp only [mo_wrongs_4, h.2.2.2.1.1, if_neg hge, e1, Option.bind_some]
      cases hw : py_wg2 S t
      · have hv : ¬ v = 0 := fun x => (by rw [e2.mp x] at hw; cases hw)
        obtain ⟨M2, f1, f2⟩ := ih (t + 1) M1 n (by omega) (mI_h h e3) fuel (by omega)
        refine ⟨M2, ?_, zf_trans e3 f2⟩
        rw [if_neg hv]
        simp only [mo_wrongs_26, zlet, Int32.add_zero, nI_1, f1]
        simp
      · have hv : v = 0 := e2.mpr hw
        obtain ⟨M2, f1, f2⟩ := ih (t + 1) M1 (n + 1) (by omega) (mI_h h e3) fuel (by omega)
        refine ⟨M2, ?_, zf_trans e3 f2⟩
        rw [if_pos hv]
        simp only [mo_wrongs_26, zlet, nI_1, f1, if_true, List.length_cons]
        have : n + 1 + ((List.range' (t + 1) m).filter (py_wg2 S)).length = n + (((List.range' (t + 1) m).filter (py_wg2 S)).length + 1) := by omega
        rw [this]
theorem mr_wrongs (h : mI am M S) (hz : zz_ok S) (hd : 40 ≤ d) : ∃ M', mo_wrongs d am M = some (nI (py_wgs S).length, M') ∧ zf (mh_W am) M M' := by
  have h60 := hz.2.2.2.2.1.1
  have hLF := pb_LF
  obtain ⟨d, rfl⟩ : ∃ d', d = d' + 1 := ⟨d - 1, by omega⟩
  obtain ⟨M1, e1, e2⟩ := mr_wrongs_4 (am := am) (d := d) hz (by omega) S.2.2.1.length 0 M 0 (by omega) h zLF (by omega)
  refine ⟨M1, ?_, e2⟩
  rw [Nat.zero_add] at e1
  exact e1
theorem mr_wrong_33 (hz : zz_ok S) (hd : 39 ≤ d) {j : Nat} (hj : j < 2 ^ 31) : ∀ (m t : Nat) (M : zM) (n : Nat), t + m = S.2.2.1.length → n ≤ j → mI am M S → ∀ fuel, m < fuel → ∃ M', mo_wrong_33 d fuel am (nI j) (nI n) (nI t) M = some (match ((List.range' t m).filter (py_wg2 S))[j - n]? with
    | none => -1
    | some t => nI t, M') ∧ zf (mh_W am) M M' := by
  have h60 := hz.2.2.2.2.1.1
  intro m
  induction m with
  | zero =>
    intro t M n ht hn h fuel hf
    cases fuel with
    | zero => cases hf
    | succ fuel =>
      have : t = S.2.2.1.length := by omega
      subst this
      exact ⟨M, by simp [mo_wrong_33, h.2.2.2.1.1], zf_refl _ _⟩
  | succ m ih =>
    intro t M n ht hn h fuel hf
    cases fuel with
    | zero => cases hf
    | succ fuel =>
      have hge : ¬ nI S.2.2.1.length ≤ nI t := nI_ge (by omega) (by omega)
      obtain ⟨M1, v, e1, e2, e3⟩ := mr_wg (d := d) h hz hd (t := t) (by omega)
      rw [List.range'_succ, List.filter_cons]
      simp only [mo_wrong_33, h.2.2.2.1.1, if_neg hge, e1, Option.bind_some]
      cases hw : py_wg2 S t
      · have hv : ¬ v = 0 := fun x => (by rw [e2.mp x] at hw; cases hw)
        obtain ⟨M2, f1, f2⟩ := ih (t + 1) M1 n (by omega) hn (mI_h h e3) fuel (by omega)
        refine ⟨M2, ?_, zf_trans e3 f2⟩
        rw [if_neg hv]
        simp only [mo_wrong_62, zlet, nI_1, f1]
        simp
      · have hv : v = 0 := e2.mpr hw
        rw [if_pos hv]
        have enj : (nI n = nI j) ↔ n = j := nI_eq (by omega) hj
        simp only [enj, if_true]
        by_cases q : n = j
        · rw [if_pos q, q, Nat.sub_self]
          exact ⟨M1, rfl, e3⟩
        · obtain ⟨M2, f1, f2⟩ := ih (t + 1) M1 (n + 1) (by omega) (by omega) (mI_h h e3) fuel (by omega)
          refine ⟨M2, ?_, zf_trans e3 f2⟩
          rw [if_neg q]
          simp only [zlet, nI_1, mo_wrong_62, f1]
          have : j - n = (j - (n + 1)) + 1 := by omega
          rw [this, List.getElem?_cons_succ]
theorem mf_wrg (h : mI am M S) (hz : zz_ok S) (hd : 200 ≤ d) (i : Int32) : mf_r am M S (mo_wrong d am i M) (sp_wrg S i) := by
  have h60 := hz.2.2.2.2.1.1
  have hLF := pb_LF
  obtain ⟨d, rfl⟩ : ∃ d', d = d' + 1 := ⟨d - 1, by omega⟩
  have eb : mo_wrong (d + 1) am i M = mo_wrong_b d am i M := rfl
  rw [eb]
  obtain ⟨h0, hf0⟩ := mI_0 h 0
  unfold mo_wrong_b sp_wrg
  simp only [zlet, h0.2.2.2.1.1]
  have e0 : (nI S.2.2.1.length = 0) ↔ S.2.2.1.length = 0 := nI_eq (b := 0) (by omega) (by omega)
  simp only [e0]
  by_cases q0 : S.2.2.1.length = 0
  · rw [if_pos q0, if_pos q0]
    exact mf_mk0 h0 hf0 (by simp [mo_wrong_17])
  · rw [if_neg q0, if_neg q0]
    by_cases q1 : i = -1
    · subst q1
      obtain ⟨M1, e1, e2⟩ := mr_wrongs (d := d) h0 hz (by omega)
      rw [if_pos (Int32.le_refl _), if_pos rfl, if_pos rfl]
      refine mf_mk h0 hf0 (by rw [e1]; rfl) e2 (by simp [mi_F]) (by simp [mi_A]) ?_
      rw [mg_f e2 (by simp)]
      exact h0.2.2.2.2.2
    · rw [if_neg q1]
      by_cases q2 : i < 0
      · have hn : zin i (py_wgs S).length = none := by
          unfold zin
          refine if_neg ?_
          intro hc
          rw [fa_lt] at q2
          have := hc.1
          rw [fa_le] at this
          omega
        have hnl : ¬ (-1 : Int32) ≤ i := by
          intro x
          rw [fa_le] at x
          rw [fa_lt] at q2
          have h0' : ((0 : Int32)).toInt = 0 := by decide
          have h1 : ((-1 : Int32)).toInt = -1 := by decide
          have : i.toInt = -1 := by omega
          exact q1 (Int32.toInt_inj.mp (by rw [this, h1]))
        rw [hn, if_neg hnl]
        exact mf_mk0 h0 hf0 (by simp [mo_wrong_17, q1])
      · obtain ⟨j, hj, rfl⟩ := nI_of q2
        have hle : (-1 : Int32) ≤ nI j := by
          rw [fa_le, nI_toInt hj]
          have h1 : ((-1 : Int32)).toInt = -1 := by decide
          omega
        obtain ⟨M1, e1, e2⟩ := mr_wrong_33 (am := am) (d := d) hz (by omega) hj S.2.2.1.length 0 _ 0 (by omega) (by omega) h0 zLF (by omega)
        have e1' : mo_wrong_33 d zLF am (nI j) 0 0 (zm_setI M 12 am 0 0) = _ := e1
        rw [if_pos hle, if_neg q1]
        have hans : (match ((List.range' 0 S.2.2.1.length).filter (py_wg2 S))[j - 0]? with
            | none => (-1 : Int32)
            | some t => nI t) = match zin (nI j) (py_wgs S).length with
            | none => -1
            | some k => match (py_wgs S)[k]? with
              | none => -1
              | some t => nI t := by
          have hwl : (py_wgs S).length ≤ 60 := by
            unfold py_wgs
            have := List.length_filter_le (py_wg2 S) (List.range' 0 S.2.2.1.length)
            simp at this
            omega
          rw [Nat.sub_zero]
          by_cases q3 : j < (py_wgs S).length
          · rw [zin_nI (by omega) q3]
            rfl
          · have hn : zin (nI j) (py_wgs S).length = none := by
              unfold zin
              refine if_neg ?_
              intro hc
              have := (nI_ltI hj (by omega)).mp hc.2
              omega
            have hg : (py_wgs S)[j]? = none := by
              rw [List.getElem?_eq_none_iff]
              omega
            rw [hn]
            show (match (py_wgs S)[j]? with
              | none => (-1 : Int32)
              | some t => nI t) = -1
            rw [hg]
        refine mf_mk h0 hf0 (e1'.trans (congrArg (fun v => some (v, M1)) hans)) e2 (by simp [mi_F]) (by simp [mi_A]) ?_
        rw [mg_f e2 (by simp)]
        exact h0.2.2.2.2.2
end
