/-! THE MODEL: what a message says -/
def ms_x (am : Nat) (M : zM) (w : List Int32) : Prop := zm_I M 12 am 61 = nI w.length ∧ ∀ (i : Nat) (c : Int32), w[i]? = some c → zm_I M 20 (am + 33) i = c
def py_path (D : List yT) : Nat → Nat → List Int32
  | 0, _ => []
  | n + 1, t => match D[t]? with
    | none => []
    | some x => (match x.2.1 with
      | none => []
      | some p => py_path D n p ++ [47]) ++ [97 + nI x.1]
section
variable {am d : Nat} {M : zM}
theorem ms_mg {F A : List Nat} {M' : zM} {w : List Int32} (h : ms_x am M w) (hf : zf (mg am F A) M M') (hF : ¬ 61 ∈ F) (hA : ¬ 33 ∈ A) : ms_x am M' w := by
  refine ⟨by rw [mg_f hf hF]; exact h.1, ?_⟩
  intro i c hc
  rw [mg_a hf (by decide) hA]
  exact h.2 i c hc
theorem mr_says {w : List Int32} (hl : ml_ok am M) (h : ms_x am M w) (hw : w.length < 300) (c : Int32) : ∃ M', mo_says d am c M = some M' ∧ ms_x am M' (w ++ [c]) ∧ zf (mg am [61] [33]) M M' := by
  have hz : z_in (nI w.length) 300 := nI_in (by omega) (by omega)
  have e61 : zm_I (zm_setI M 20 (am + 33) w.length c) 12 am 61 = nI w.length := by rw [pm_ne (by omega)]; exact h.1
  refine ⟨zm_setI (zm_setI M 20 (am + 33) w.length c) 12 am 61 (nI (w.length + 1)), ?_, ⟨?_, ?_⟩, zf_trans (zf_set (.inr ⟨.inl rfl, 33, by simp, rfl⟩)) (zf_set (.inl ⟨rfl, rfl, by simp⟩))⟩
  · unfold mo_says
    simp only [ml_R60 hl, ml_L60 hl, h.1, if_pos hz, nI_clamp (show w.length < 2 ^ 31 by omega), zlet, e61, nI_1]
  · rw [pm_same]; simp
  · intro i x hx
    rw [pm_ne (by omega)]
    by_cases e : i < w.length
    · rw [List.getElem?_append_left e] at hx
      rw [pm_ne (by omega)]
      exact h.2 i x hx
    · have e2 : i = w.length := by
        have := (List.getElem?_eq_some_iff.mp hx).1
        simp at this
        omega
      subst e2
      simp at hx
      rw [pm_same]
      exact hx
theorem tq_317 (k : Nat) : tq_X 317 [.inr (.inr (91, some k))] = some (nI (tq_txt.getD k []).length) := Eq.trans rfl rfl
theorem tq_318 (k : Nat) {i : Nat} {x : Int32} (h : (tq_txt.getD k [])[i]? = some x) (hs : (tq_txt.getD k []).length ≤ 20) : tq_X 318 [.inr (.inr (91, some k)), .inl (nI i)] = some x := by
  have hi := (List.getElem?_eq_some_iff.mp h).1
  have hz : z_in (nI i) (tq_txt.getD k []).length := nI_in hi (by omega)
  have e : tq_X 318 [.inr (.inr (91, some k)), .inl (nI i)] = (if z_in (nI i) (tq_txt.getD k []).length then some ((tq_txt.getD k []).getD (nI i).toNatClampNeg 0) else none) := Eq.trans rfl rfl
  rw [e, if_pos hz, nI_clamp (show i < 2 ^ 31 by omega)]
  have eg : ∀ u : List Int32, u[i]? = some x → u.getD i 0 = x := by
    intro u hu
    simp [hu]
  rw [eg _ h]
theorem mr_saysWord_2 {k : Nat} {u : List Int32} (hu : tq_txt.getD k [] = u) (hu9 : u.length ≤ 20) : ∀ (b a : List Int32) (M : zM) (w : List Int32), u = a ++ b → ml_ok am M → ms_x am M w → w.length + b.length ≤ 300 → ∀ fuel, b.length < fuel → ∃ M', mo_saysWord_2 d fuel am (some k) (nI a.length) M = some M' ∧ ms_x am M' (w ++ b) ∧ zf (mg am [61] [33]) M M' := by
  intro b
  induction b with
  | nil =>
    intro a M w e hl hw h300 fuel hf
    cases fuel with
    | zero => cases hf
    | succ fuel =>
      have hal : u.length = a.length := by rw [e]; simp
      have hle : nI u.length ≤ nI a.length := nI_le (by omega) (by omega)
      refine ⟨M, ?_, by simpa using hw, zf_refl _ _⟩
      simp only [mo_saysWord_2, tq_317, hu, Option.bind_some, if_pos hle]
  | cons x b ih =>
    intro a M w e hl hw h300 fuel hf
    cases fuel with
    | zero => cases hf
    | succ fuel =>
      have hal : u.length = a.length + (b.length + 1) := by rw [e]; simp
      have hx : (tq_txt.getD k [])[a.length]? = some x := by rw [hu, e]; simp
      have hge : ¬ nI u.length ≤ nI a.length := nI_ge (by omega) (by omega)
      simp only [List.length_cons] at h300 hf
      obtain ⟨M1, g1, g2, g3⟩ := mr_says (d := d) hl hw (by omega) x
      obtain ⟨M2, k1, k2, k3⟩ := ih (a ++ [x]) M1 (w ++ [x]) (by rw [e]; simp) (ml_zf hl g3) g2 (by simp; omega) fuel (by omega)
      refine ⟨M2, ?_, by simpa using k2, zf_trans g3 k3⟩
      simp only [mo_saysWord_2, tq_317, hu, Option.bind_some, if_neg hge, tq_318 k hx (by rw [hu]; exact hu9), g1, zlet, nI_1]
      rw [← k1]
      simp
theorem mr_saysWord {k : Nat} {u w : List Int32} (hu : tq_txt.getD k [] = u) (hu9 : u.length ≤ 20) (hl : ml_ok am M) (hw : ms_x am M w) (h300 : w.length + u.length ≤ 300) (hd : 1 ≤ d) : ∃ M', mo_saysWord d am (some k) M = some M' ∧ ms_x am M' (w ++ u) ∧ zf (mg am [61] [33]) M M' := by
  have hLF2 : 400 < zLF := pb_LF
  obtain ⟨d, rfl⟩ : ∃ d', d = d' + 1 := ⟨d - 1, by omega⟩
  obtain ⟨M', g1, g2, g3⟩ := mr_saysWord_2 (d := d) hu hu9 u [] M w rfl hl hw h300 zLF (by omega)
  refine ⟨M', ?_, g2, g3⟩
  have eb : mo_saysWord (d + 1) am (some k) M = mo_saysWord_b d am (some k) M := rfl
  rw [eb]
  unfold mo_saysWord_b
  exact g1
theorem path_len (D : List yT) : ∀ n t, (py_path D n t).length ≤ 2 * n := by
  intro n
  induction n with
  | zero => intro t; simp [py_path]
  | succ n ih =>
    intro t
    unfold py_path
    cases D[t]? with
    | none => simp
    | some x =>
      dsimp only
      cases x.2.1 with
      | none => simp; omega
      | some p =>
        have := ih p
        simp
        omega
theorem mr_saysPath {D : List yT} (hD : do_ok D) : ∀ (n t d : Nat) (M : zM) (w : List Int32), t < n → n ≤ 60 → n ≤ d → t < D.length → ml_ok am M → md_x am M D → ms_x am M w → w.length + 2 * n ≤ 300 → ∃ M', mo_saysPath d am (nI t) M = some M' ∧ ms_x am M' (w ++ py_path D n t) ∧ zf (mg am [61] [33]) M M' := by
  intro n
  induction n with
  | zero => intro t d M w ht; omega
  | succ n ih =>
    intro t d M w ht hn hd htD hl hx hw h300
    obtain ⟨d, rfl⟩ : ∃ d', d = d' + 1 := ⟨d - 1, by omega⟩
    have eb : mo_saysPath (d + 1) am (nI t) M = mo_saysPath_b (fun a0 a1 M => mo_saysPath d a0 a1 M) d am (nI t) M := rfl
    rw [eb]
    have h60 := hD.1
    have hg : D[t]? = some D[t] := by simp
    have hm := hx.2 t _ hg
    have hdo := hD.2 t _ hg
    have z1 : z_in (nI (4 * t + 1)) 240 := nI_in (by omega) (by omega)
    have z0 : z_in (nI (4 * t)) 240 := nI_in (by omega) (by omega)
    unfold mo_saysPath_b
    simp only [ml_R18 hl, ml_L18 hl, mx_4b, if_pos z1, nI_clamp (show 4 * t + 1 < 2 ^ 31 by omega), hm.2.1]
    have hlast : ∀ (M1 : zM) (w1 : List Int32), ml_ok am M1 → md_x am M1 D → ms_x am M1 w1 → w1.length < 300 → ∃ M', mo_saysPath_34 (fun a0 a1 M => mo_saysPath d a0 a1 M) d am (nI t) M1 = some M' ∧ ms_x am M' (w1 ++ [97 + nI D[t].1]) ∧ zf (mg am [61] [33]) M1 M' := by
      intro M1 w1 hl1 hx1 hw1 h1
      obtain ⟨M2, g1, g2, g3⟩ := mr_says (d := d) hl1 hw1 h1 (97 + nI D[t].1)
      refine ⟨M2, ?_, g2, g3⟩
      unfold mo_saysPath_34
      simp only [ml_R18 hl1, ml_L18 hl1, mx_41, if_pos z0, nI_clamp (show 4 * t < 2 ^ 31 by omega), (hx1.2 t _ hg).1, g1, Option.bind_some]
    have ep : py_path D (n + 1) t = (match D[t].2.1 with
      | none => []
      | some p => py_path D n p ++ [47]) ++ [97 + nI D[t].1] := by
      conv => lhs; unfold py_path
      rw [hg]
    rw [ep]
    cases hp : D[t].2.1 with
    | none =>
      rw [if_pos pb_zon]
      obtain ⟨M2, g1, g2, g3⟩ := hlast M w hl hx hw (by omega)
      exact ⟨M2, g1, by simpa using g2, g3⟩
    | some p =>
      have hpt := hdo.2.1 p hp
      have ez : zo (some p) = nI p := rfl
      rw [ez, if_neg (pb_ne1 (by omega))]
      obtain ⟨M1, g1, g2, g3⟩ := ih p d M w (by omega) (by omega) (by omega) (by omega) hl hx hw (by omega)
      have hpl := path_len D n p
      obtain ⟨M2, k1, k2, k3⟩ := mr_says (d := d) (ml_zf hl g3) g2 (by simp; omega) 47
      have hf2 := zf_trans g3 k3
      obtain ⟨M3, p1, p2, p3⟩ := hlast M2 _ (ml_zf hl hf2) (md_zf hx hf2 (by simp) (by simp)) k2 (by simp; omega)
      refine ⟨M3, ?_, by simpa using p2, zf_trans hf2 p3⟩
      simp only [g1, Option.bind_some, k1, p1]
end
