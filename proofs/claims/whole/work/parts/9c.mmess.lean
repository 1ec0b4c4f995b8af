/-! THE MODEL's face: message -/
def py_it (cl : Int32) (en : Bool) (v : Nat) : Option (List Int32) := if v < 26 then (if zbt cl v = true then some [97 + nI v] else none) else if en = true then some [101, 110, 100] else none
def py_or (cl : Int32) (en : Bool) : List Nat → Bool → List Int32
  | [], _ => []
  | v :: l, f => match py_it cl en v with
    | none => py_or cl en l f
    | some u => (if f = true then [32, 111, 114, 32] else []) ++ (u ++ py_or cl en l true)
def py_fo (D : List yT) (t pl : Nat) : List Int32 := match (py_kl D t)[pl]? with
  | none => [101, 110, 100]
  | some l => [97 + nI l]
def py_nu2 (pl : Nat) : List Int32 := (if pl ≤ 9 then [] else [48 + nI pl / 10]) ++ [48 + (nI pl - nI pl / 10 * 10)]
/-- the message of a thing that is wrong -/
def py_msg (D : List yT) (t : Nat) (pl : Nat) (cl : Int32) (en : Bool) : List Int32 := py_path D 60 t ++ [58, 32] ++ py_fo D t pl ++ [32, 97, 116, 32] ++ py_nu2 pl ++ [44, 32] ++ py_or cl en (List.range' 0 27) false
section
variable {am d : Nat} {M : zM}
theorem mr_letterAt_5 {D : List yT} (hD : do_ok D) (hl : ml_ok am M) (hx : md_x am M D) {t place : Nat} (ht : t < 60) (hp : place ≤ 60) : ∀ (b a : List yT) (v3 : Nat), D = a ++ b → v3 ≤ place → ∀ fuel, b.length < fuel → mo_letterAt_5 d fuel am (nI t) (nI place) (nI v3) (nI a.length) M = some (match (py_kl b t)[place - v3]? with
    | none => -1
    | some l => nI l, M) := by
  have h60 := hD.1
  intro b
  induction b with
  | nil =>
    intro a v3 e hv fuel hf
    cases fuel with
    | zero => cases hf
    | succ fuel =>
      have hal : D.length = a.length := by rw [e]; simp
      have hle : nI D.length ≤ nI a.length := nI_le (by omega) (by omega)
      simp [mo_letterAt_5, hx.1, if_pos hle, py_kl]
  | cons x b ih =>
    intro a v3 e hv fuel hf
    cases fuel with
    | zero => cases hf
    | succ fuel =>
      have hal : D.length = a.length + (b.length + 1) := by rw [e]; simp
      have hg : D[a.length]? = some x := by rw [e]; simp
      have hm := hx.2 _ _ hg
      have hdo := hD.2 _ _ hg
      have hge : ¬ nI D.length ≤ nI a.length := nI_ge (by omega) (by omega)
      have z1 : z_in (nI (4 * a.length + 1)) 240 := nI_in (by omega) (by omega)
      have z0 : z_in (nI (4 * a.length)) 240 := nI_in (by omega) (by omega)
      have ep : (zo x.2.1 = nI t) ↔ x.2.1 = some t := by
        cases hx1 : x.2.1 with
        | none =>
          have : ¬ (-1 : Int32) = nI t := fun y => pb_ne1 (n := t) (by omega) y.symm
          simp [zo, this]
        | some p =>
          have := hdo.2.1 p hx1
          have : (nI p = nI t) ↔ p = t := nI_eq (by omega) (by omega)
          simp [zo, this]
      have ev : (nI v3 = nI place) ↔ v3 = place := nI_eq (by omega) (by omega)
      have en1 : nI (4 * a.length) + 1 = nI (4 * a.length + 1) := nI_1 _
      have nxt : ∀ v, v ≤ place → mo_letterAt_5 d fuel am (nI t) (nI place) (nI v) (nI (a.length + 1)) M = some (match (py_kl b t)[place - v]? with
          | none => -1
          | some l => nI l, M) := by
        intro v hv2
        have := ih (a ++ [x]) v (by rw [e]; simp) hv2 fuel (by simp at hf; omega)
        rw [List.length_append] at this
        exact this
      simp only [mo_letterAt_5, hx.1, if_neg hge, ml_R18 hl, ml_L18 hl, mx_41, en1, if_pos z1, nI_clamp (show 4 * a.length + 1 < 2 ^ 31 by omega), hm.2.1, ep, ev, if_pos z0, nI_clamp (show 4 * a.length < 2 ^ 31 by omega), hm.1, zlet, mo_letterAt_50, nI_1]
      by_cases c : x.2.1 = some t
      · have ek : py_kl (x :: b) t = x.1 :: py_kl b t := by simp [py_kl, c]
        rw [if_pos c, ek]
        by_cases c2 : v3 = place
        · rw [if_pos c2]
          simp [c2]
        · rw [if_neg c2, nxt (v3 + 1) (by omega)]
          have : place - v3 = (place - (v3 + 1)) + 1 := by omega
          rw [this, List.getElem?_cons_succ]
      · have ek : py_kl (x :: b) t = py_kl b t := by simp [py_kl, c]
        rw [if_neg c, ek, nxt v3 hv]
theorem mr_letterAt {D : List yT} (hD : do_ok D) (hl : ml_ok am M) (hx : md_x am M D) {t place : Nat} (ht : t < 60) (hp : place ≤ 60) : mo_letterAt d am (nI t) (nI place) M = some (match (py_kl D t)[place]? with
    | none => -1
    | some l => nI l, M) := by
  have h60 := hD.1
  have hLF2 : 400 < zLF := pb_LF
  have := mr_letterAt_5 (d := d) hD hl hx ht hp D [] 0 rfl (Nat.zero_le _) zLF (by omega)
  have g : mo_letterAt_5 d zLF am (nI t) (nI place) 0 0 M = _ := this
  unfold mo_letterAt
  exact g
theorem tt_7 : tq_txt.getD 7 [] = [58, 32] := Eq.trans rfl rfl
theorem tt_8 : tq_txt.getD 8 [] = [101, 110, 100] := Eq.trans rfl rfl
theorem tt_9 : tq_txt.getD 9 [] = [32, 97, 116, 32] := Eq.trans rfl rfl
theorem tt_10 : tq_txt.getD 10 [] = [44, 32] := Eq.trans rfl rfl
theorem tt_11 : tq_txt.getD 11 [] = [32, 111, 114, 32] := Eq.trans rfl rfl
theorem mr_saysMessage_106 (hd : 1 ≤ d) {cl : Int32} {en : Bool} : ∀ (m v : Nat) (M : zM) (w : List Int32) (f : Bool), v + m = 27 → ml_ok am M → ms_x am M w → zm_I M 12 am 58 = cl → zm_I M 12 am 59 = zb en → (0 < m → w.length + 5 * m + 2 ≤ 300) → ∀ fuel, m < fuel → ∃ M', mo_saysMessage_106 d fuel am (zb f) (nI v) M = some M' ∧ ms_x am M' (w ++ py_or cl en (List.range' v m) f) ∧ zf (mg am [61] [33]) M M' := by
  intro m
  induction m with
  | zero =>
    intro v M w f hv hl hw h58 h59 h300 fuel hf
    cases fuel with
    | zero => cases hf
    | succ fuel =>
      have : v = 27 := by omega
      subst this
      have hlt : (26 : Int32) < nI 27 := by decide
      refine ⟨M, ?_, by simpa [py_or] using hw, zf_refl _ _⟩
      simp only [mo_saysMessage_106, if_pos hlt]
  | succ m ih =>
    intro v M w f hv hl hw h58 h59 h300' fuel hf
    have h300 := h300' (by omega)
    cases fuel with
    | zero => cases hf
    | succ fuel =>
      have e1 : ((26 : Int32) < nI v) ↔ 26 < v := nI_ltI (a := 26) (by omega) (by omega)
      have e2 : ((26 : Int32) ≤ nI v) ↔ 26 ≤ v := nI_leI (a := 26) (by omega) (by omega)
      rw [List.range'_succ]
      /- nothing is said -/
      have skip : py_it cl en v = none → ∃ M', mo_saysMessage_184 (fun p0 p1 p2 m => mo_saysMessage_106 d fuel p0 p1 p2 m) d am (zb f) (nI v) M = some M' ∧ ms_x am M' (w ++ py_or cl en (v :: List.range' (v + 1) m) f) ∧ zf (mg am [61] [33]) M M' := by
        intro hn
        obtain ⟨M', g1, g2, g3⟩ := ih (v + 1) M w f (by omega) hl hw h58 h59 (by intro _; omega) fuel (by omega)
        refine ⟨M', ?_, ?_, g3⟩
        · simp only [mo_saysMessage_184, zlet, nI_1]
          exact g1
        · unfold py_or
          rw [hn]
          exact g2
      /- something is said -/
      have say : ∀ u, py_it cl en v = some u → ∃ M', mo_saysMessage_145 (fun p0 p1 p2 m => mo_saysMessage_106 d fuel p0 p1 p2 m) d am (zb f) (nI v) M = some M' ∧ ms_x am M' (w ++ py_or cl en (v :: List.range' (v + 1) m) f) ∧ zf (mg am [61] [33]) M M' := by
        intro u hu
        have hul : (v < 26 → u.length = 1) ∧ u.length ≤ 3 := by
          unfold py_it at hu
          by_cases c : v < 26
          · rw [if_pos c] at hu
            by_cases c2 : zbt cl v = true
            · rw [if_pos c2] at hu
              injection hu with hu
              rw [← hu]
              simp
            · rw [if_neg c2] at hu
              cases hu
          · rw [if_neg c] at hu
            by_cases c2 : en = true
            · rw [if_pos c2] at hu
              injection hu with hu
              rw [← hu]
              simp [c]
            · rw [if_neg c2] at hu
              cases hu
        have tail : ∀ (M1 : zM) (w1 : List Int32), ml_ok am M1 → ms_x am M1 w1 → zm_I M1 12 am 58 = cl → zm_I M1 12 am 59 = zb en → w1.length ≤ w.length + 4 → ∃ M', mo_saysMessage_156 (fun p0 p1 p2 m => mo_saysMessage_106 d fuel p0 p1 p2 m) d am (nI v) M1 = some M' ∧ ms_x am M' (w1 ++ (u ++ py_or cl en (List.range' (v + 1) m) true)) ∧ zf (mg am [61] [33]) M1 M' := by
          intro M1 w1 hl1 hw1 h581 h591 hlen
          unfold py_it at hu
          by_cases c : v < 26
          · have c' : ¬ 26 ≤ v := by omega
            rw [if_pos c] at hu
            by_cases c2 : zbt cl v = true
            · rw [if_pos c2] at hu
              injection hu with hu
              obtain ⟨M2, g1, g2, g3⟩ := mr_says (d := d) hl1 hw1 (by omega) (97 + nI v)
              obtain ⟨M3, k1, k2, k3⟩ := ih (v + 1) M2 (w1 ++ [97 + nI v]) true (by omega) (ml_zf hl1 g3) g2 (by rw [mg_f g3 (by simp)]; exact h581) (by rw [mg_f g3 (by simp)]; exact h591) (by intro _; simp; omega) fuel (by omega)
              refine ⟨M3, ?_, by rw [← hu]; simpa using k2, zf_trans g3 k3⟩
              simp only [mo_saysMessage_156, e2, if_neg c', g1, Option.bind_some, mo_saysMessage_182, mo_saysMessage_184, zlet, nI_1]
              exact k1
            · rw [if_neg c2] at hu
              cases hu
          · have c' : 26 ≤ v := by omega
            rw [if_neg c] at hu
            by_cases c2 : en = true
            · rw [if_pos c2] at hu
              injection hu with hu
              obtain ⟨M2, g1, g2, g3⟩ := mr_saysWord (d := d) tt_8 (by simp) hl1 hw1 (by simp; omega) hd
              obtain ⟨M3, k1, k2, k3⟩ := ih (v + 1) M2 (w1 ++ [101, 110, 100]) true (by omega) (ml_zf hl1 g3) g2 (by rw [mg_f g3 (by simp)]; exact h581) (by rw [mg_f g3 (by simp)]; exact h591) (by intro _; simp; omega) fuel (by omega)
              refine ⟨M3, ?_, by rw [← hu]; simpa using k2, zf_trans g3 k3⟩
              simp only [mo_saysMessage_156, e2, if_pos c', g1, Option.bind_some, mo_saysMessage_182, mo_saysMessage_184, zlet, nI_1]
              exact k1
            · rw [if_neg c2] at hu
              cases hu
        have eo : py_or cl en (v :: List.range' (v + 1) m) f = (if f = true then [32, 111, 114, 32] else []) ++ (u ++ py_or cl en (List.range' (v + 1) m) true) := by
          conv => lhs; unfold py_or
          rw [hu]
        rw [eo]
        unfold mo_saysMessage_145
        cases f
        · rw [pb_zbf, if_pos rfl]
          obtain ⟨M2, g1, g2, g3⟩ := tail M w hl hw h58 h59 (by omega)
          exact ⟨M2, g1, by simpa using g2, g3⟩
        · rw [pb_zbt, if_neg (by decide)]
          obtain ⟨M1, g1, g2, g3⟩ := mr_saysWord (d := d) tt_11 (by simp) hl hw (by simp; omega) hd
          obtain ⟨M2, k1, k2, k3⟩ := tail M1 _ (ml_zf hl g3) g2 (by rw [mg_f g3 (by simp)]; exact h58) (by rw [mg_f g3 (by simp)]; exact h59) (by simp)
          refine ⟨M2, ?_, by simpa using k2, zf_trans g3 k3⟩
          simp only [g1, Option.bind_some, k1]
      have nlt : ¬ 26 < v := by omega
      simp only [mo_saysMessage_106, e1, if_neg nlt, e2, h58, h59]
      by_cases c : 26 ≤ v
      · rw [if_pos c]
        cases en
        · rw [pb_zbf, if_pos rfl]
          exact skip (by unfold py_it; rw [if_neg (by omega)]; rfl)
        · rw [pb_zbt, if_neg (by decide)]
          exact say [101, 110, 100] (by unfold py_it; rw [if_neg (by omega)]; rfl)
      · rw [if_neg c, mr_has (show v < 32 by omega)]
        simp only [Option.bind_some]
        cases hb : zbt cl v
        · rw [pb_zbf, if_pos rfl]
          exact skip (by unfold py_it; rw [if_pos (by omega), hb]; rfl)
        · rw [pb_zbt, if_neg (by decide)]
          exact say [97 + nI v] (by unfold py_it; rw [if_pos (by omega), hb]; rfl)
end
