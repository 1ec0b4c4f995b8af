/-! THE CLASS: the shortest word is spelled -/
theorem tw_all {α : Type} {p : α → Bool} : ∀ {l : List α}, (∀ x, x ∈ l → p x = true) → l.takeWhile p = l := by
  intro l
  induction l with
  | nil => intro _; rfl
  | cons a l ih =>
    intro h
    rw [List.takeWhile_cons_of_pos (h a List.mem_cons_self), ih (fun x hx => h x (List.mem_cons_of_mem _ hx))]
section
variable {M M' : zM} {pa : Nat → Nat} {P : yP} {d sp Q : Nat} {t : List Nat}
theorem gp_1 (d a0 : Nat) (a1 : Option Nat) (a2 : Int32) (M : zM) : (gsp_spell (d + 1)).1 a0 a1 a2 M = sp_spell_b (gsp_spell d).1 (gsp_spell d).2.1 (gsp_spell d).2.2.1 (gsp_spell d).2.2.2.1 (gsp_spell d).2.2.2.2 d a0 a1 a2 M := rfl
theorem gp_2 (d a0 : Nat) (a1 a2 : Option Nat) (a3 : Int32) (M : zM) : (gsp_spell (d + 1)).2.1 a0 a1 a2 a3 M = sp_spellRow_b (gsp_spell d).1 (gsp_spell d).2.1 (gsp_spell d).2.2.1 (gsp_spell d).2.2.2.1 (gsp_spell d).2.2.2.2 d a0 a1 a2 a3 M := rfl
theorem gp_3 (d a0 : Nat) (a1 : Option Nat) (a2 a3 : Int32) (M : zM) : (gsp_spell (d + 1)).2.2.1 a0 a1 a2 a3 M = sp_spellTimes_b (gsp_spell d).1 (gsp_spell d).2.1 (gsp_spell d).2.2.1 (gsp_spell d).2.2.2.1 (gsp_spell d).2.2.2.2 d a0 a1 a2 a3 M := rfl
theorem gp_4 (d a0 : Nat) (a1 : Option Nat) (a2 : Int32) (M : zM) : (gsp_spell (d + 1)).2.2.2.1 a0 a1 a2 M = sp_spellBest_b (gsp_spell d).1 (gsp_spell d).2.1 (gsp_spell d).2.2.1 (gsp_spell d).2.2.2.1 (gsp_spell d).2.2.2.2 d a0 a1 a2 M := rfl
theorem gp_5 (d a0 : Nat) (a1 : Option Nat) (a2 a3 : Int32) (M : zM) : (gsp_spell (d + 1)).2.2.2.2 a0 a1 a2 a3 M = sp_spellParts_b (gsp_spell d).1 (gsp_spell d).2.1 (gsp_spell d).2.2.1 (gsp_spell d).2.2.2.1 (gsp_spell d).2.2.2.2 d a0 a1 a2 a3 M := rfl
theorem cl_gRow (hP : py_ok P) (hq : Q + 10 ≤ sp) {n dep : Nat} (hn : py_dm P n) (hk : 2 ≤ py_kd P n) {u : Option Nat} (hu : ∀ x, u = some x → py_dm P x) (hR : ∀ c, c ∈ py_ks P n → sg_S pa Q P sp (gsp_spell d).1 dep c) (hX : cX M pa Q P) (hx : sl_x M sp t) (h4 : zm_R M 7 sp 4 = some Q) (hlen : t.length + 2 * py_B P n ≤ 9216) : ∃ M', (gsp_spell (d + 1)).2.1 sp (some (pa n)) (u.map pa) (nI dep) M = some M' ∧ sl_x M' sp (t ++ ((py_ks P n).takeWhile (fun x => some x != u)).flatMap (py_wd P)) ∧ zf (sl_W sp) M M' := by
  have hLF : zLF = 100000 := rfl
  have hl := ok_ln hP hn
  have hB := Bs_le hP hn hk
  obtain ⟨M', a1, a2, a3⟩ := cl_srow_6 (d := d) (gsp_spell d).1 (gsp_spell d).2.1 (gsp_spell d).2.2.1 (gsp_spell d).2.2.2.1 (gsp_spell d).2.2.2.2 hP hq hn hu hR (py_ks P n) [] M t rfl hX hx h4 (by omega) zLF (by omega)
  refine ⟨M', ?_, a2, a3⟩
  rw [gp_2]
  unfold sp_spellRow_b
  simp only [cN_ks hX.1 hn]
  exact a1
theorem cl_gParts (hP : py_ok P) (hq : Q + 10 ≤ sp) (hd : 1 ≤ d) {n dep : Nat} {v2 : Int32} {sel : Nat → Bool} (hn : py_dm P n) (k4 : py_kd P n = 4) (hsel : ∀ a c b, py_ks P n = a ++ c :: b → zbt v2 a.length = sel c) (hR : ∀ c, c ∈ py_ks P n → sg_S pa Q P sp (gsp_spell d).1 dep c) (hX : cX M pa Q P) (hx : sl_x M sp t) (h4 : zm_R M 7 sp 4 = some Q) (hlen : t.length + 2 * py_B P n ≤ 9216) : ∃ M', (gsp_spell (d + 1)).2.2.2.2 sp (some (pa n)) v2 (nI dep) M = some M' ∧ sl_x M' sp (t ++ (py_sm sel (py_wd P) (py_ks P n) []).flatten) ∧ zf (sl_W sp) M M' := by
  have hLF : zLF = 100000 := rfl
  have hl := ok_ln hP hn
  have hB := Bs_le hP hn (by omega)
  obtain ⟨M', a1, a2, a3⟩ := cl_sparts_12 (d := d) (t := t) (gsp_spell d).1 (gsp_spell d).2.1 (gsp_spell d).2.2.1 (gsp_spell d).2.2.2.1 (gsp_spell d).2.2.2.2 hP hq hd hn k4 hsel hR (py_ks P n) [] M [] 0 rfl hX (by simpa using hx) h4 (Nat.le_refl _) (fun j p h => by cases h) (by simp; omega) zLF (by omega)
  refine ⟨M', ?_, a2, a3⟩
  rw [gp_5]
  unfold sp_spellParts_b
  simp only [cN_ks hX.1 hn]
  exact a1
theorem ml_sel (P : yP) {n : Nat} {a b : List Nat} {c : Nat} (e : py_ks P n = a ++ c :: b) (ha : a.length < 32) (h32 : (py_ks P n).length ≤ 4) : zbt (zor (py_ml (py_nu P) (py_ks P n) 0)) a.length = !py_nu P c := by
  have h1 : ∀ q, q ∈ py_ml (py_nu P) (py_ks P n) 0 → q < 32 := by
    intro q hq
    obtain ⟨_, x, hx, _⟩ := (ml_mem (py_nu P) _ _ _).mp hq
    have := (List.getElem?_eq_some_iff.mp hx).1
    omega
  rw [zor_bt h1 ha, Bool.eq_iff_iff]
  rw [List.contains_iff_mem, ml_mem]
  have hg : (py_ks P n)[a.length - 0]? = some c := by rw [e]; simp
  constructor
  · rintro ⟨_, x, hx, hxu⟩
    rw [hg] at hx
    injection hx with hx
    rw [hx, hxu]
    rfl
  · intro h
    exact ⟨Nat.zero_le _, c, hg, by simpa using h⟩
theorem cl_spell (hP : py_ok P) (hq : Q + 10 ≤ sp) : ∀ n, py_dm P n → ∀ d dep, 2 * py_hg P n + 3 ≤ d → dep + py_hg P n ≤ 40 → sg_S pa Q P sp (gsp_spell d).1 dep n := by
  refine ok_down hP _ ?_
  intro n hn ih d dep hd hdep M t hX hx h4 hlen
  have hLF : zLF = 100000 := rfl
  obtain ⟨d, rfl⟩ : ∃ d', d = d' + 1 := ⟨d - 1, by omega⟩
  have hnu := cX_nu hX hn
  have hkd := cN_kd hX.1 hn
  have hck := ck_v hP hn
  have hru := cR_ru hX.2.2.1
  have e40 : (40 : Int32) = nI 40 := rfl
  have e1 : nI dep + 1 = nI (dep + 1) := nI_add _ 1
  have kck : ∀ k, k ≤ 5 → ((nI (ck (py_kd P n)) = nI k) ↔ ck (py_kd P n) = k) := fun k hk => nI_eq (by omega) (by omega)
  rw [gp_1]
  unfold sp_spell_b sp_spell_13 sp_spell_125
  rw [e40, if_neg (fun p => by have := (nI_ltI (by omega) (by omega)).mp p; omega)]
  simp only [hnu, hkd, e1]
  have e4 : (4 : Int32) = nI 4 := rfl
  have e3 : (3 : Int32) = nI 3 := rfl
  have e2 : (2 : Int32) = nI 2 := rfl
  cases hu : py_nu P n with
  | true =>
    rw [if_neg (show ¬ zb true = 0 by decide)]
    refine ⟨M, rfl, ?_, zf_refl _ _⟩
    rw [wd_nu hP hn hu, List.append_nil]
    exact hx
  | false =>
    rw [if_pos (show zb false = 0 from rfl)]
    have wg : py_wd P n = py_wg P (py_wd P) n := wd_eq hP hn
    have kids : ∀ c, c ∈ py_ks P n → ∀ d', 2 * py_hg P n + 1 ≤ d' → sg_S pa Q P sp (gsp_spell d').1 (dep + 1) c := by
      intro c hc d' hd'
      have := ok_khg hP hn hc
      exact ih c hc d' (dep + 1) (by omega) (by omega)
    have z0 : (nI (ck (py_kd P n)) = 0) ↔ ck (py_kd P n) = 0 := kck 0 (by omega)
    rcases ok_kd6 hP hn with hk | hk | hk | hk | hk | hk
    · rw [if_pos (z0.mpr (hck.2.1.mpr hk))]
      have k0 := ok_k0 hP hn hk
      have hnl := ok_nl hP
      have hnb := cN_nb hX.1 hn (.inl hk)
      have hz : z_in (nI (py_nb P n)) 16 := nI_in (by omega) (by omega)
      have hlt := ok_lt hP k0.2.1
      simp only [h4, hru.1.1, hru.1.2, hnb, if_pos hz, nI_clamp (show py_nb P n < 2 ^ 31 by omega), (hX.2.2.1.2.2.2.2.1 (py_nb P n) k0.2.1).1]
      have hB : 1 ≤ py_B P n := by
        have := wd_len hP n hn
        have := ln_pos hP n hn hu
        unfold py_ln at this
        omega
      obtain ⟨M1, a1, a2, a3⟩ := cl_spw (d := d) hx (by omega) hlt
      rw [a1, Option.bind_some]
      refine ⟨M1, rfl, ?_, a3⟩
      rw [wg]
      unfold py_wg
      rw [hu, hk]
      exact a2
    · rw [nu_k1 hP hn hk] at hu; cases hu
    · have c2 := hck.2.2.2.1.mpr hk
      rw [if_neg (fun p => by have := z0.mp p; omega), e4, if_neg (fun p => by have := (kck 4 (by omega)).mp p; omega), e3, if_neg (fun p => by have := (kck 3 (by omega)).mp p; omega), e2, if_pos ((kck 2 (by omega)).mpr c2)]
      obtain ⟨d, rfl⟩ : ∃ d', d = d' + 1 := ⟨d - 1, by omega⟩
      obtain ⟨M1, a1, a2, a3⟩ := cl_gRow (d := d) (u := none) (dep := dep + 1) hP hq hn (by omega) (fun x h => by cases h) (fun c hc => kids c hc d (by omega)) hX hx h4 hlen
      have a1 : (gsp_spell (d + 1)).2.1 sp (some (pa n)) none (nI (dep + 1)) M = some M1 := a1
      rw [a1, Option.bind_some]
      refine ⟨M1, rfl, ?_, a3⟩
      have ht : (py_ks P n).takeWhile (fun x => some x != none) = py_ks P n := tw_all (fun x _ => rfl)
      rw [ht] at a2
      rw [wg]
      unfold py_wg
      rw [hu, hk]
      exact a2
    · have c3 := hck.2.2.2.2.1.mpr hk
      rw [if_neg (fun p => by have := z0.mp p; omega), e4, if_neg (fun p => by have := (kck 4 (by omega)).mp p; omega), e3, if_pos ((kck 3 (by omega)).mpr c3)]
      obtain ⟨d, rfl⟩ : ∃ d', d = d' + 1 := ⟨d - 1, by omega⟩
      have hl := ok_ln hP hn
      have hB := Bs_le hP hn (by omega)
      obtain ⟨w1, w2⟩ := cb_wd hP hn hk hu
      obtain ⟨M1, a1, a2, a3⟩ := cl_sbest_11 (d := d) (t := t) (dep := dep + 1) (gsp_spell d).1 (gsp_spell d).2.1 (gsp_spell d).2.2.1 (gsp_spell d).2.2.2.1 (gsp_spell d).2.2.2.2 hP hq hn w2 (fun c hc => kids c hc d (by omega)) (py_ks P n) [] M [] rfl hX (by simpa using hx) h4 (.inl rfl) (by simp; omega) zLF (by omega)
      rw [w1] at a2
      refine ⟨M1, ?_, a2, a3⟩
      rw [gp_4]
      unfold sp_spellBest_b
      simp only [zlet, hx.2.1, cN_ks hX.1 hn, a1, Option.bind_some]
    · have c5 := hck.2.2.2.2.2.2.mpr hk
      rw [if_neg (fun p => by have := z0.mp p; omega), e4, if_neg (fun p => by have := (kck 4 (by omega)).mp p; omega), e3, if_neg (fun p => by have := (kck 3 (by omega)).mp p; omega), e2, if_neg (fun p => by have := (kck 2 (by omega)).mp p; omega)]
      obtain ⟨d, rfl⟩ : ∃ d', d = d' + 1 := ⟨d - 1, by omega⟩
      have k4 := ok_k4 hP hn hk
      have hmb : zm_I M 3 (pa n) 14 = zor (py_ml (py_nu P) (py_ks P n) 0) := (hX.2.1 n hn).2.2.2.2.2.2.1 hk
      obtain ⟨M1, a1, a2, a3⟩ := cl_gParts (d := d) (dep := dep + 1) (v2 := zor (py_ml (py_nu P) (py_ks P n) 0)) (sel := fun c => !py_nu P c) hP hq (by omega) hn hk (by
        intro a c b e
        refine ml_sel P e ?_ k4.2.1
        have := k4.2.1
        rw [e] at this
        simp at this
        omega) (fun c hc => kids c hc d (by omega)) hX hx h4 hlen
      rw [hmb, a1, Option.bind_some]
      refine ⟨M1, rfl, ?_, a3⟩
      rw [wg]
      unfold py_wg
      rw [hu, hk]
      exact a2
    · have c4 := hck.2.2.2.2.2.1.mpr hk
      rw [if_neg (fun p => by have := z0.mp p; omega), e4, if_pos ((kck 4 (by omega)).mpr c4)]
      obtain ⟨d, rfl⟩ : ∃ d', d = d' + 1 := ⟨d - 1, by omega⟩
      obtain ⟨⟨c, hc, _⟩, k5b, k5c⟩ := ok_k5 hP hn hk
      have hcm : c ∈ py_ks P n := by rw [hc]; simp
      have hdc := ok_kid hP hn hcm
      have hnc := ok_nc hP
      have hnb := cN_nb hX.1 hn (.inr (.inr hk))
      have hz : z_in (nI (py_nb P n)) 8 := nI_in (by omega) (by omega)
      have h1 := nu_kid5 hP hn hk hu hc
      have hfr := ok_fr hP k5b
      have hfew : py_few P (py_nb P n) = py_fr P (py_nb P n) := by
        unfold py_few
        rw [k5c, hc, if_neg]
        rintro (h | h)
        · exact h1.2 h
        · simp [h1.1] at h
      have hB5 := Bs_5 hP hn hk hc
      simp only [h4, hru.2.2.2.2.2.2.1.1, hru.2.2.2.2.2.2.1.2, hnb, if_pos hz, nI_clamp (show py_nb P n < 2 ^ 31 by omega), hX.2.2.2.1 (py_nb P n) k5b, hfew, cN_ks hX.1 hn, hc]
      obtain ⟨M1, a1, a2, a3⟩ := cl_stimes (d := d) (dep := dep + 1) (T := py_fr P (py_nb P n)) (gsp_spell d).1 (gsp_spell d).2.1 (gsp_spell d).2.2.1 (gsp_spell d).2.2.2.1 (gsp_spell d).2.2.2.2 hP hdc hfr (kids c hcm d (by omega)) hX hx h4 (by omega)
      have a1 : (gsp_spell (d + 1)).2.2.1 sp (Option.map pa [c].head?) (nI (py_fr P (py_nb P n))) (nI (dep + 1)) M = some M1 := a1
      rw [a1, Option.bind_some]
      refine ⟨M1, rfl, ?_, a3⟩
      rw [wg]
      unfold py_wg
      rw [hu, hk, hc]
      show sl_x M1 sp (t ++ (List.replicate (max 1 (py_fr P (py_nb P n))) ([c].flatMap (py_wd P))).flatten)
      rw [show max 1 (py_fr P (py_nb P n)) = py_fr P (py_nb P n) by omega, show [c].flatMap (py_wd P) = py_wd P c by simp]
      exact a2
end
