/-! THE MODEL's face: occurrence, counted, any, witness, shown, shortest, words -/
def mf_r (am : Nat) (M : zM) (S : yZ) (run : Option (Int32 × zM)) (v : Int32) : Prop := ∃ M', run = some (v, M') ∧ mI am M' S ∧ zf (mg am (31 :: mi_F) mi_A) M M'
def sp_occ (S : yZ) (x y w : Int32) : Int32 := match zin x S.2.1.1 with
  | none => -2
  | some r => match zin y (py_nl (S.2.1.2 r)) with
    | none => -2
    | some o => match zin w 7 with
      | none => -2
      | some k => if k = 0 then nI (py_lt (S.2.1.2 r) o) else if k = 1 then zb (py_fx (S.2.1.2 r) (py_rt (S.2.1.2 r)) (py_lf (S.2.1.2 r) o)) else if k = 2 then zb (py_lx (S.2.1.2 r) (py_lf (S.2.1.2 r) o)) else if k = 3 then zor ((py_ways (S.2.1.2 r) (some o)).map (fun W => W.1)) else if k = 4 then zo (py_ct (S.2.1.2 r) o false) else if k = 5 then zo (py_ct (S.2.1.2 r) o true) else zor (py_aa (S.2.1.2 r) (py_lf (S.2.1.2 r) o))
def sp_cnt (S : yZ) (x y w : Int32) : Int32 := match zin x S.2.1.1 with
  | none => -2
  | some r => match zin y (py_nc (S.2.1.2 r)) with
    | none => -2
    | some c => match zin w 5 with
      | none => -2
      | some k => if k = 0 then nI (py_fr (S.2.1.2 r) c) else if k = 1 then zo (py_to (S.2.1.2 r) c) else if k = 2 then zo (py_ca (S.2.1.2 r) (py_cn (S.2.1.2 r) c)) else if k = 3 then zor (py_in (S.2.1.2 r) (py_cn (S.2.1.2 r) c)) else zb ((py_ks (S.2.1.2 r) (py_cn (S.2.1.2 r) c)).all (py_nu (S.2.1.2 r)))
def sp_any (S : yZ) (x y w : Int32) : Int32 := match zin x S.2.1.1 with
  | none => -1
  | some r => match zin y (py_na (S.2.1.2 r)) with
    | none => -1
    | some a => match zin w 5 with
      | none => -1
      | some k => if k = 0 then nI (py_ks (S.2.1.2 r) (py_an (S.2.1.2 r) a)).length else match (py_ks (S.2.1.2 r) (py_an (S.2.1.2 r) a))[k - 1]? with
        | none => -1
        | some c => zor (py_in (S.2.1.2 r) c)
def sp_wit (S : yZ) (x : Int32) (u : Bool) (w : Int32) : Int32 := match zin x S.2.1.1 with
  | none => -1000000
  | some r => match zin w 6 with
    | none => -1000000
    | some k => match py_fw (S.2.1.2 r) u with
      | none => -1000000
      | some b => if k = 0 then zo b.1 else if k = 1 then nI b.2.1.1 else if k = 2 then zo b.2.1.2 else if k = 3 then nI b.2.2.1.1 else if k = 4 then zo b.2.2.1.2 else nI b.2.2.2.length
def sp_shw (S : yZ) (x : Int32) (u : Bool) (k : Int32) : Int32 := match zin x S.2.1.1 with
  | none => -1
  | some r => if k < 0 then -1 else match py_fw (S.2.1.2 r) u with
    | none => -1
    | some b => if nI b.2.2.2.length < k then -1 else if k = nI b.2.2.2.length then nI (py_lt (S.2.1.2 r) b.2.1.1) else match b.2.2.2[k.toNatClampNeg]? with
      | none => -1
      | some l => nI l
def sp_shr (S : yZ) (x k : Int32) : Int32 := match zin x S.2.1.1 with
  | none => -1
  | some r => match zin k (py_wd (S.2.1.2 r) (py_rt (S.2.1.2 r))).length with
    | none => -1
    | some i => match (py_wd (S.2.1.2 r) (py_rt (S.2.1.2 r)))[i]? with
      | none => -1
      | some l => nI l
def sp_wds (S : yZ) (x n : Int32) : Int32 := match zin x S.2.1.1 with
  | none => -1
  | some r => match zin n 5 with
    | none => -1
    | some k => if py_sure (S.2.1.2 r) then py_wn (S.2.1.2 r) k py_s00 else -1
section
variable {am d : Nat} {M : zM} {S : yZ}
theorem mf_mk {M0 M1 : zM} {F A : List Nat} {v : Int32} {run : Option (Int32 × zM)} (h0 : mI am M0 S) (hf0 : zf (mg am [0] []) M M0) (he : run = some (v, M1)) (hf : zf (mg am F A) M0 M1) (hF : ∀ j, j ∈ F → j ∈ 31 :: mi_F) (hA : ∀ j, j ∈ A → j ∈ mi_A) (h31 : zm_I M1 12 am 31 = -1) : mf_r am M S run v := ⟨M1, he, mI_zf h0 (zf_mono hf (mg_mono hF hA)) h31, zf_trans (zf_mono hf0 (mg_mono (by simp [mi_F]) (by simp))) (zf_mono hf (mg_mono hF hA))⟩
theorem mf_mk0 {M0 : zM} {v : Int32} {run : Option (Int32 × zM)} (h0 : mI am M0 S) (hf0 : zf (mg am [0] []) M M0) (he : run = some (v, M0)) : mf_r am M S run v := ⟨M0, he, h0, zf_mono hf0 (mg_mono (by simp [mi_F]) (by simp))⟩
theorem mf_mkW {M0 M1 : zM} {v : Int32} {run : Option (Int32 × zM)} (h0 : mI am M0 S) (hf0 : zf (mg am [0] []) M M0) (he : run = some (v, M1)) (hf : zf (mw_W am) M0 M1) : mf_r am M S run v := mf_mk h0 hf0 he hf (by simp [mi_F]) (by simp [mi_A]) (by rw [mg_f hf (by simp)]; exact h0.2.2.2.2.2)
theorem mf_occ (h : mI am M S) (hz : zz_ok S) (hd : 200 ≤ d) (x y w : Int32) : mf_r am M S (mo_occurrence d am x y w M) (sp_occ S x y w) := by
  have hR := hz.2.1
  obtain ⟨d, rfl⟩ : ∃ d', d = d' + 1 := ⟨d - 1, by omega⟩
  have eb : mo_occurrence (d + 1) am x y w M = mo_occurrence_b d am x y w M := rfl
  rw [eb]
  obtain ⟨h0, hf0⟩ := mI_0 h 0
  unfold mo_occurrence_b sp_occ
  simp only [zlet]
  rw [mr_isRule h0 hz (by omega)]
  simp only [Option.bind_some]
  cases hx : zin x S.2.1.1 with
  | none => exact mf_mk0 h0 hf0 (by simp [zb, mo_occurrence_43])
  | some r =>
    obtain ⟨hr, rfl⟩ := zin_some (by omega) hx
    dsimp only
    have hp := mI_p h0 hr
    have hP := hp.1
    generalize S.2.1.2 r = P at *
    have hnl := ok_nl hP
    simp only [Option.isSome_some, pb_zbt]
    rw [if_neg (by decide), mr_nl hp]
    simp only [Option.bind_some, mr_isInN (show py_nl P < 2 ^ 30 by omega)]
    cases hy : zin y (py_nl P) with
    | none => exact mf_mk0 h0 hf0 (by simp [zb, mo_occurrence_43])
    | some o =>
      obtain ⟨ho, rfl⟩ := zin_some (by omega) hy
      simp only [Option.isSome_some, pb_zbt]
      rw [if_neg (by decide), six_64, mr_isInN (by omega)]
      simp only [Option.bind_some]
      cases hw : zin w 7 with
      | none => exact mf_mk0 h0 hf0 (by simp [zb, mo_occurrence_43])
      | some k =>
        obtain ⟨hk, rfl⟩ := zin_some (by omega) hw
        simp only [Option.isSome_some, pb_zbt]
        rw [if_neg (by decide)]
        have hk7 : k = 0 ∨ k = 1 ∨ k = 2 ∨ k = 3 ∨ k = 4 ∨ k = 5 ∨ k = 6 := by omega
        rcases hk7 with q | q | q | q | q | q | q
        · subst q
          exact mf_mk0 h0 hf0 (by simp [pb_n0, mr_lt hp ho])
        · subst q
          refine mf_mk0 h0 hf0 ?_
          simp only [pb_n1, mr_rt hp, Option.bind_some, mr_isFirst hp (show 32 ≤ d by omega) (ok_rt hP) ho]
          cases py_fx P (py_rt P) (py_lf P o) <;> simp [zb, mo_occurrence_111]
        · subst q
          refine mf_mk0 h0 hf0 ?_
          simp only [pb_n2, mr_isLast hp (show 33 ≤ d by omega) ho, Option.bind_some]
          cases py_lx P (py_lf P o) <;> simp [zb, mo_occurrence_126]
        · subst q
          obtain ⟨M1, e1, e2⟩ := mr_nexts (d := d) hp (by omega) ho
          exact mf_mkW h0 hf0 (by simp [pb_n3, e1]) e2
        · subst q
          have := mr_countAt (d := d) hp (by omega) ho false
          rw [pb_zbf] at this
          exact mf_mk0 h0 hf0 (by simp [pb_n4, this])
        · subst q
          have := mr_countAt (d := d) hp (by omega) ho true
          rw [pb_zbt] at this
          exact mf_mk0 h0 hf0 (by simp [pb_n5, this])
        · subst q
          exact mf_mk0 h0 hf0 (by simp [pb_n6, mr_lf hp ho, mr_anysAbout hp (show 0 < d by omega) (ok_lf hP ho)])
theorem mf_cnt (h : mI am M S) (hz : zz_ok S) (hd : 200 ≤ d) (x y w : Int32) : mf_r am M S (mo_counted d am x y w M) (sp_cnt S x y w) := by
  have hR := hz.2.1
  obtain ⟨d, rfl⟩ : ∃ d', d = d' + 1 := ⟨d - 1, by omega⟩
  have eb : mo_counted (d + 1) am x y w M = mo_counted_b d am x y w M := rfl
  rw [eb]
  obtain ⟨h0, hf0⟩ := mI_0 h 0
  unfold mo_counted_b sp_cnt
  simp only [zlet]
  rw [mr_isRule h0 hz (by omega)]
  simp only [Option.bind_some]
  cases hx : zin x S.2.1.1 with
  | none => exact mf_mk0 h0 hf0 (by simp [zb, mo_counted_43])
  | some r =>
    obtain ⟨hr, rfl⟩ := zin_some (by omega) hx
    dsimp only
    have hp := mI_p h0 hr
    have hP := hp.1
    generalize S.2.1.2 r = P at *
    have hnc := ok_nc hP
    simp only [Option.isSome_some, pb_zbt]
    rw [if_neg (by decide), mr_nc hp]
    simp only [Option.bind_some, mr_isInN (show py_nc P < 2 ^ 30 by omega)]
    cases hy : zin y (py_nc P) with
    | none => exact mf_mk0 h0 hf0 (by simp [zb, mo_counted_43])
    | some c =>
      obtain ⟨hc, rfl⟩ := zin_some (by omega) hy
      simp only [Option.isSome_some, pb_zbt]
      rw [if_neg (by decide), four_64, mr_isInN (by omega)]
      simp only [Option.bind_some]
      have hcd := ok_cn hP hc
      cases hw : zin w 5 with
      | none => exact mf_mk0 h0 hf0 (by simp [zb, mo_counted_43])
      | some k =>
        obtain ⟨hk, rfl⟩ := zin_some (by omega) hw
        simp only [Option.isSome_some, pb_zbt]
        rw [if_neg (by decide)]
        have hk5 : k = 0 ∨ k = 1 ∨ k = 2 ∨ k = 3 ∨ k = 4 := by omega
        rcases hk5 with q | q | q | q | q
        · subst q
          exact mf_mk0 h0 hf0 (by simp [pb_n0, mr_fr hp hc])
        · subst q
          exact mf_mk0 h0 hf0 (by simp [pb_n1, mr_to hp hc])
        · subst q
          exact mf_mk0 h0 hf0 (by simp [pb_n2, mr_nodeOf hp hc, mr_countAbout hp (show 0 < d by omega) hcd])
        · subst q
          exact mf_mk0 h0 hf0 (by simp [pb_n3, mr_nodeOf hp hc, mr_inside hp (show 1 < d by omega) hcd])
        · subst q
          obtain ⟨⟨b, hb, _⟩, _⟩ := ok_k5 hP hcd (ok_cnk hP hc)
          have hbd := ok_kid hP hcd (show b ∈ py_ks P (py_cn P c) by rw [hb]; simp)
          have h30 := ok_hg30 hP hbd
          refine mf_mk0 h0 hf0 ?_
          simp only [pb_n4, mr_nodeOf hp hc, mr_ks hp hcd, hb, List.head?_cons, pb_zos, Option.bind_some, mr_isNull hp b hbd d (by omega), List.all_cons, List.all_nil, Bool.and_true]
          cases py_nu P b <;> simp [zb, mo_counted_137]
theorem mr_any_65 {r : Nat} {P : yP} (hp : mp_ok am M r P) (hd : 2 ≤ d) {n k : Nat} (hn : py_dm P n) (hn4 : (py_ks P n).length ≤ 4) (hk : k ≤ 4) : ∀ (b a : List Nat), py_ks P n = a ++ b → a.length < k ∨ k = 0 → ∀ fuel, b.length < fuel → mo_any_65 d fuel am (nI r) (nI k) (nI a.length) (zo b.head?) M = some (if k = 0 then nI (py_ks P n).length else match (py_ks P n)[k - 1]? with
    | none => -1
    | some c => zor (py_in P c), M) := by
  intro b
  induction b with
  | nil =>
    intro a e hak fuel hf
    have el : (py_ks P n).length = a.length := by rw [e]; simp
    cases fuel with
    | zero => cases hf
    | succ fuel =>
      by_cases q : k = 0
      · subst q
        simp [mo_any_65, zo, mo_any_110, pb_n0, el]
      · have hne : ¬ nI k = 0 := nI_ne0 (by omega) (by omega)
        have hg : (py_ks P n)[k - 1]? = none := by
          rw [List.getElem?_eq_none_iff]
          omega
        simp [mo_any_65, zo, mo_any_110, hne, q, hg]
  | cons c b ih =>
    intro a e hak fuel hf
    have el : (py_ks P n).length = a.length + (b.length + 1) := by rw [e]; simp
    cases fuel with
    | zero => cases hf
    | succ fuel =>
      have hc : c ∈ py_ks P n := by rw [e]; simp
      have hcd := ok_kid hp.1 hn hc
      have h4 := ok_400 hp.1 hcd
      have hne : ¬ nI c = -1 := pb_ne1 (by omega)
      have ev : (nI (a.length + 1) = nI k) ↔ a.length + 1 = k := nI_eq (by omega) (by omega)
      by_cases q : a.length + 1 = k
      · have hg : (py_ks P n)[k - 1]? = some c := by
          rw [← q, Nat.add_sub_cancel, e]
          simp
        have hk0 : ¬ k = 0 := by omega
        simp only [mo_any_65, List.head?_cons, pb_zos, if_neg hne, zlet, nI_1, ev, if_pos q, mr_inside hp (show 1 < d by omega) hcd, Option.bind_some, if_neg hk0, hg]
      · have ih' := ih (a ++ [c]) (by rw [e]; simp) (by simp; omega) fuel (by simp at hf; omega)
        simp only [List.length_append, List.length_cons, List.length_nil, Nat.zero_add] at ih'
        rw [← ih']
        simp only [mo_any_65, List.head?_cons, pb_zos, if_neg hne, zlet, nI_1, ev, if_neg q, mr_nx hp hn e, Option.bind_some]
theorem mf_any (h : mI am M S) (hz : zz_ok S) (hd : 200 ≤ d) (x y w : Int32) : mf_r am M S (mo_any d am x y w M) (sp_any S x y w) := by
  have hR := hz.2.1
  have hLF := pb_LF
  obtain ⟨d, rfl⟩ : ∃ d', d = d' + 1 := ⟨d - 1, by omega⟩
  have eb : mo_any (d + 1) am x y w M = mo_any_b d am x y w M := rfl
  rw [eb]
  obtain ⟨h0, hf0⟩ := mI_0 h 0
  unfold mo_any_b sp_any
  simp only [zlet]
  rw [mr_isRule h0 hz (by omega)]
  simp only [Option.bind_some]
  cases hx : zin x S.2.1.1 with
  | none => exact mf_mk0 h0 hf0 (by simp [zb, mo_any_43])
  | some r =>
    obtain ⟨hr, rfl⟩ := zin_some (by omega) hx
    dsimp only
    have hp := mI_p h0 hr
    have hP := hp.1
    generalize S.2.1.2 r = P at *
    have hna := ok_na hP
    simp only [Option.isSome_some, pb_zbt]
    rw [if_neg (by decide), mr_na hp]
    simp only [Option.bind_some, mr_isInN (show py_na P < 2 ^ 30 by omega)]
    cases hy : zin y (py_na P) with
    | none => exact mf_mk0 h0 hf0 (by simp [zb, mo_any_43])
    | some a =>
      obtain ⟨ha, rfl⟩ := zin_some (by omega) hy
      simp only [Option.isSome_some, pb_zbt]
      rw [if_neg (by decide), four_64, mr_isInN (by omega)]
      simp only [Option.bind_some]
      have had := ok_an hP ha
      have hk4 := ok_k4 hP had (ok_ank hP ha)
      have hlen := ok_ln hP had
      cases hw : zin w 5 with
      | none => exact mf_mk0 h0 hf0 (by simp [zb, mo_any_43])
      | some k =>
        obtain ⟨hk, rfl⟩ := zin_some (by omega) hw
        simp only [Option.isSome_some, pb_zbt]
        rw [if_neg (by decide)]
        have hzz : z_in (nI (4 * r + a)) 32 := nI_in (by omega) (by omega)
        have h65 := mr_any_65 (d := d) hp (by omega) had hk4.2.1 (show k ≤ 4 by omega) (py_ks P (py_an P a)) [] rfl (by simp; omega) zLF (by omega)
        have h65' : mo_any_65 d zLF am (nI r) (nI k) 0 (zo (py_ks P (py_an P a)).head?) _ = _ := h65
        refine mf_mk0 h0 hf0 ?_
        simp only [ml_R13 hp.2.1, ml_L13 hp.2.1, mx_4, if_pos hzz, nI_clamp (show 4 * r + a < 2 ^ 31 by omega), hp.2.2.2.2.2.2.2 a ha, mr_ks hp had, Option.bind_some, h65']
theorem mf_wit (h : mI am M S) (hz : zz_ok S) (hd : 200 ≤ d) (x : Int32) (u : Bool) (w : Int32) : mf_r am M S (mo_witness d am x (zb u) w M) (sp_wit S x u w) := by
  have hR := hz.2.1
  obtain ⟨d, rfl⟩ : ∃ d', d = d' + 1 := ⟨d - 1, by omega⟩
  have eb : mo_witness (d + 1) am x (zb u) w M = mo_witness_b d am x (zb u) w M := rfl
  rw [eb]
  obtain ⟨h0, hf0⟩ := mI_0 h 0
  unfold mo_witness_b sp_wit
  simp only [zlet]
  rw [mr_isRule h0 hz (by omega)]
  simp only [Option.bind_some]
  cases hx : zin x S.2.1.1 with
  | none => exact mf_mk0 h0 hf0 (by simp [zb, mo_witness_43, mo_witness_46])
  | some r =>
    obtain ⟨hr, rfl⟩ := zin_some (by omega) hx
    dsimp only
    have hp := mI_p h0 hr
    generalize S.2.1.2 r = P at *
    simp only [Option.isSome_some, pb_zbt]
    rw [if_neg (by decide), five_64, mr_isInN (by omega)]
    simp only [Option.bind_some]
    cases hw : zin w 6 with
    | none => exact mf_mk0 h0 hf0 (by simp [zb, mo_witness_43, mo_witness_46])
    | some k =>
      obtain ⟨hk, rfl⟩ := zin_some (by omega) hw
      simp only [Option.isSome_some, pb_zbt]
      rw [if_neg (by decide)]
      obtain ⟨M1, e1, e2, e3, e4⟩ := mr_findsWitness (d := d) hp (by omega) u h0.2.2.2.2.2
      rw [e1]
      simp only [Option.bind_some]
      cases hfw : py_fw P u with
      | none => exact mf_mk h0 hf0 (by simp [zb, mo_witness_43, mo_witness_46]) e3 (by simp [mi_F]) (by simp [mi_A]) e4
      | some b =>
        rw [hfw] at e2
        obtain ⟨b0, b1, b2, b3, b4, b5, _⟩ := e2
        refine mf_mk h0 hf0 ?_ e3 (by simp [mi_F]) (by simp [mi_A]) e4
        have hl1 := ml_zf h0.1 e3
        have hzk : z_in (nI k) 7 := nI_in (by omega) (by omega)
        simp only [Option.isSome_some, pb_zbt]
        rw [if_neg (by decide)]
        simp only [ml_R32 hl1, ml_L32 hl1, if_pos hzk, nI_clamp (show k < 2 ^ 31 by omega), mo_witness_46]
        have hk6 : k = 0 ∨ k = 1 ∨ k = 2 ∨ k = 3 ∨ k = 4 ∨ k = 5 := by omega
        rcases hk6 with q | q | q | q | q | q
        · subst q; simp [b0]
        · subst q; simp [b1]
        · subst q; simp [b2]
        · subst q; simp [b3]
        · subst q; simp [b4]
        · subst q; simp [b5]
theorem mf_shr (h : mI am M S) (hz : zz_ok S) (hd : 200 ≤ d) (x k : Int32) : mf_r am M S (mo_shortest2 d am x k M) (sp_shr S x k) := by
  have hR := hz.2.1
  obtain ⟨d, rfl⟩ : ∃ d', d = d' + 1 := ⟨d - 1, by omega⟩
  have eb : mo_shortest2 (d + 1) am x k M = mo_shortest2_b d am x k M := rfl
  rw [eb]
  obtain ⟨h0, hf0⟩ := mI_0 h 0
  unfold mo_shortest2_b sp_shr
  simp only [zlet]
  rw [mr_isRule h0 hz (by omega)]
  simp only [Option.bind_some]
  cases hx : zin x S.2.1.1 with
  | none => exact mf_mk0 h0 hf0 (by simp [zb, mo_shortest2_35, mo_shortest2_36])
  | some r =>
    obtain ⟨hr, rfl⟩ := zin_some (by omega) hx
    dsimp only
    have hp := mI_p h0 hr
    generalize S.2.1.2 r = P at *
    have hwl := wd_len hp.1 _ (ok_rt hp.1)
    have hB := B_le hp.1 (ok_rt hp.1)
    simp only [Option.isSome_some, pb_zbt]
    rw [if_neg (by decide)]
    by_cases q : k < 0
    · rw [if_pos q]
      have hn : zin k (py_wd P (py_rt P)).length = none := by
        unfold zin
        refine if_neg ?_
        intro hc
        rw [fa_lt] at q
        have := hc.1
        rw [fa_le] at this
        omega
      rw [hn]
      exact mf_mk0 h0 hf0 (by simp [mo_shortest2_35, mo_shortest2_36])
    · rw [if_neg q]
      obtain ⟨M1, e1, e2, e3, e4⟩ := mr_wordOf (d := d) hp (by omega) h0.2.2.2.2.2
      rw [e1]
      simp only [Option.bind_some]
      obtain ⟨j, hj, rfl⟩ := nI_of q
      by_cases q2 : j < (py_wd P (py_rt P)).length
      · rw [zin_nI (by omega) q2, if_neg (nI_ge q2 (by omega))]
        have hl1 := ml_zf h0.1 e3
        have hzj : z_in (nI j) 12000 := nI_in (by omega) (by omega)
        have hg : (py_wd P (py_rt P))[j]? = some (py_wd P (py_rt P))[j] := by simp
        dsimp only
        rw [hg]
        refine mf_mk h0 hf0 ?_ e3 (by simp [mi_F]) (by simp [mi_A]) e4
        simp only [ml_R27 hl1, ml_L27 hl1, if_pos hzj, nI_clamp (show j < 2 ^ 31 by omega), e2.2.2.1 _ _ hg, mo_shortest2_36]
      · have hn : zin (nI j) (py_wd P (py_rt P)).length = none := by
          unfold zin
          refine if_neg ?_
          intro hc
          have := (nI_ltI hj (by omega)).mp hc.2
          omega
        rw [hn, if_pos (nI_le (by omega) (by omega))]
        exact mf_mk h0 hf0 (by simp [mo_shortest2_35, mo_shortest2_36]) e3 (by simp [mi_F]) (by simp [mi_A]) e4
theorem mf_wds (h : mI am M S) (hz : zz_ok S) (hd : 200 ≤ d) (x n : Int32) : mf_r am M S (mo_words d am x n M) (sp_wds S x n) := by
  have hR := hz.2.1
  obtain ⟨d, rfl⟩ : ∃ d', d = d' + 1 := ⟨d - 1, by omega⟩
  have eb : mo_words (d + 1) am x n M = mo_words_b d am x n M := rfl
  rw [eb]
  obtain ⟨h0, hf0⟩ := mI_0 h 0
  unfold mo_words_b sp_wds
  simp only [zlet]
  rw [mr_isRule h0 hz (by omega)]
  simp only [Option.bind_some]
  cases hx : zin x S.2.1.1 with
  | none => exact mf_mk0 h0 hf0 (by simp [zb, mo_words_33])
  | some r =>
    obtain ⟨hr, rfl⟩ := zin_some (by omega) hx
    dsimp only
    have hp := mI_p h0 hr
    generalize S.2.1.2 r = P at *
    simp only [Option.isSome_some, pb_zbt]
    rw [if_neg (by decide), four_64, mr_isInN (by omega)]
    simp only [Option.bind_some]
    cases hw : zin n 5 with
    | none => exact mf_mk0 h0 hf0 (by simp [zb, mo_words_33])
    | some k =>
      obtain ⟨hk, rfl⟩ := zin_some (by omega) hw
      simp only [Option.isSome_some, pb_zbt]
      rw [if_neg (by decide)]
      obtain ⟨M1, e1, e2⟩ := mr_isSure (d := d) hp (by omega)
      rw [e1]
      simp only [Option.bind_some]
      cases hsu : py_sure P
      · exact mf_mkW h0 hf0 (by simp [zb, mo_words_33]) e2
      · simp only [pb_zbt, if_true]
        rw [if_neg (by decide)]
        have hp1 := mp_W hp e2
        obtain ⟨M2, f1, f2, f3⟩ := mr_begins (d := d) (v := 0) hp1 (by omega)
        have f1' : mo_begins d am 0 M1 = some M2 := f1
        have hf12 : zf (mg am [26, 35, 36] [14, 15, 16, 17, 23]) (zm_setI M 12 am 0 0) M2 := zf_trans (zf_mono e2 (mg_mono (by simp) (by simp))) (zf_mono (zf_mono f3 gw_mg) (mg_mono (by simp) (by simp)))
        obtain ⟨M3, g1, g2⟩ := mr_wordsFrom (am := am) (r := r) hp.1 k d 0 0 py_s00 M2 (by omega) (by omega) s00_b (by omega) (mp_zf hp1 (zf_mono f3 gw_mg) (by simp)) f2
        have g1' : mo_wordsFrom d am (nI r) 0 (nI k) M2 = _ := g1
        have hf13 := zf_trans hf12 (zf_mono g2 wf_mg)
        refine mf_mk h0 hf0 (by simp only [f1', g1', Option.bind_some]) hf13 (by simp [mi_F]) (by simp [mi_A]) ?_
        rw [mg_f hf13 (by simp)]
        exact h0.2.2.2.2.2
end
