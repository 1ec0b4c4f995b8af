/-! EACH CALL, of class and model: equal answers, and both stand in words again -/
def cJ (ac am N0 S0 : Nat) (M : zM) (S : yZ) : Prop := (∃ g, cI ac N0 S0 M S g) ∧ mI am M S ∧ zz_ok S ∧ zm_L M 23 (am + 34) = 1
def jr (ac am N0 S0 : Nat) (run1 : Option (Int32 × zM)) (run2 : zM → Option (Int32 × zM)) : Prop := ∃ v M1, run1 = some (v, M1) ∧ (kw ac am M1 → ∃ M2 S', run2 M1 = some (v, M2) ∧ cJ ac am N0 S0 M2 S')
theorem mi_A33 : ∀ a, a ∈ mi_A → 1 ≤ a ∧ a ≤ 33 := by decide
section
variable {ac am N0 S0 d : Nat} {M : zM} {S S' : yZ} {v : Int32} {run1 : Option (Int32 × zM)} {run2 : zM → Option (Int32 × zM)}
theorem cJ_n (hJ : cJ ac am N0 S0 M S) : N0 ≤ zm_n M := by
  obtain ⟨⟨g, hI⟩, _⟩ := hJ
  have := hI.2.2.2.2.2.2.2.2.2.2.2.1
  omega
theorem jr_mk (hJ : cJ ac am N0 S0 M S) (ha : am = ac + 242) (hN : am + 35 ≤ N0) (h1 : cf_r ac N0 S0 M run1 v S') (hz' : zz_ok S') (h2 : ∀ M1, mI am M1 S → ∃ M2, run2 M1 = some (v, M2) ∧ mI am M2 S' ∧ ∃ F A, (∀ a, a ∈ A → 1 ≤ a ∧ a ≤ 33) ∧ zf (mg am F A) M1 M2) : jr ac am N0 S0 run1 run2 := by
  have hn := cJ_n hJ
  obtain ⟨M1, g', e, hI', hzh⟩ := h1
  have m1 : mI am M1 S := mI_ag hJ.2.1 (mk_zh hzh ha (by omega))
  refine ⟨v, M1, e, fun hk => ?_⟩
  obtain ⟨M2, e2, m2, F, A, hA, hf⟩ := h2 M1 m1
  exact ⟨M2, S', e2, ⟨g', cI_mg hI' hz' m1.1 hk ha hA hf⟩, m2, hz', by rw [hf.2.1, zh_L hzh (by omega)]; exact hJ.2.2.2⟩
theorem jr_same (hJ : cJ ac am N0 S0 M S) (ha : am = ac + 242) (hN : am + 35 ≤ N0) (h1 : run1 = some (v, M)) (h2 : ∀ M1, mI am M1 S → mf_r am M1 S (run2 M1) v) : jr ac am N0 S0 run1 run2 := by
  obtain ⟨⟨g, hI⟩, hm, hz, hL⟩ := hJ
  refine jr_mk ⟨⟨g, hI⟩, hm, hz, hL⟩ ha hN (cf_same hI h1) hz (fun M1 m1 => ?_)
  obtain ⟨M2, e, m2, hf⟩ := h2 M1 m1
  exact ⟨M2, e, m2, _, _, mi_A33, hf⟩
theorem jr_look (hJ : cJ ac am N0 S0 M S) (ha : am = ac + 242) (hN : am + 35 ≤ N0) (h1 : cf_r ac N0 S0 M run1 v S) (h2 : ∀ M1, mI am M1 S → mf_r am M1 S (run2 M1) v) : jr ac am N0 S0 run1 run2 := by
  refine jr_mk hJ ha hN h1 hJ.2.2.1 (fun M1 m1 => ?_)
  obtain ⟨M2, e, m2, hf⟩ := h2 M1 m1
  exact ⟨M2, e, m2, _, _, mi_A33, hf⟩

theorem j_feed (hJ : cJ ac am N0 S0 M S) (ha : am = ac + 242) (hN : am + 35 ≤ N0) (hd : 200 ≤ d) (a b c e f : Int32) : jr ac am N0 S0 (cr_feed d ac a b c e f M) (mo_feed d am a b c e f) := by
  obtain ⟨⟨g, hI⟩, hm, hz, hL⟩ := hJ
  exact jr_mk ⟨⟨g, hI⟩, hm, hz, hL⟩ ha hN (cl_feed hI hz (by omega) a b c e f) (zz_feed hz a b c e f) (fun M1 m1 => by
    obtain ⟨M2, e, m2, hf⟩ := mf_feed (d := d) m1 hz (by omega) a b c e f
    exact ⟨M2, e, m2, _, _, (by decide), hf⟩)
theorem j_end (hJ : cJ ac am N0 S0 M S) (ha : am = ac + 242) (hN : am + 35 ≤ N0) (hd : 200 ≤ d) (n : Int32) : jr ac am N0 S0 (cr_end d ac n M) (mo_end d am n) := by
  obtain ⟨⟨g, hI⟩, hm, hz, hL⟩ := hJ
  exact jr_mk ⟨⟨g, hI⟩, hm, hz, hL⟩ ha hN (cl_end hI hz n) (zz_end hz n) (fun M1 m1 => by
    obtain ⟨M2, e, m2, hf⟩ := mf_end (d := d) m1 hz n
    exact ⟨M2, e, m2, _, _, (by decide), hf⟩)
theorem j_fault (hJ : cJ ac am N0 S0 M S) (ha : am = ac + 242) (hN : am + 35 ≤ N0) (hd : 200 ≤ d) (w : Int32) : jr ac am N0 S0 (cr_fault d ac w M) (mo_fault d am w) := by
  obtain ⟨⟨g, hI⟩, hm, hz, hL⟩ := hJ
  exact jr_mk ⟨⟨g, hI⟩, hm, hz, hL⟩ ha hN (cl_fault hI hz (by omega) w) (hz) (fun M1 m1 => by
    obtain ⟨M2, e, m2, hf⟩ := mf_fau (d := d) m1 hz (by omega) w
    exact ⟨M2, e, m2, _, _, (by decide), hf⟩)
theorem j_rules (hJ : cJ ac am N0 S0 M S) (ha : am = ac + 242) (hN : am + 35 ≤ N0) (hd : 200 ≤ d) : jr ac am N0 S0 (cr_rules d ac M) (mo_rules d am) := by
  obtain ⟨⟨g, hI⟩, hm, hz, hL⟩ := hJ
  have he : ∀ e, py_rls S.1 = .error e → e ≤ 400 := by
    intro e he
    obtain ⟨res, M1, g1, g2, g3⟩ := mr_readsRules (d := 61) hm.1 hm.2.1 hz.1 (by omega)
    rcases g3 with ⟨e', m1, m2, m3⟩ | ⟨x, m1, _⟩
    · rw [m1] at he
      cases he
      exact m3
    · rw [m1] at he
      cases he
  exact jr_mk ⟨⟨g, hI⟩, hm, hz, hL⟩ ha hN (cl_rules hI hz (by omega) he) (zz_rls hz) (fun M1 m1 => by
    obtain ⟨M2, e, m2, hf⟩ := mf_rls (d := d) m1 hz hd
    exact ⟨M2, e, m2, _, _, (by decide), hf⟩)
theorem j_document (hJ : cJ ac am N0 S0 M S) (ha : am = ac + 242) (hN : am + 35 ≤ N0) (hd : 200 ≤ d) : jr ac am N0 S0 (cr_document d ac M) (mo_document d am) := by
  obtain ⟨⟨g, hI⟩, hm, hz, hL⟩ := hJ
  exact jr_mk ⟨⟨g, hI⟩, hm, hz, hL⟩ ha hN (cl_document hI hz (by omega)) (mf_doc (d := d) hm hz hd).2 (fun M1 m1 => by
    obtain ⟨⟨M2, e, m2, hf⟩, _⟩ := mf_doc (d := d) m1 hz hd
    exact ⟨M2, e, m2, _, _, (by decide), hf⟩)
theorem j_occurrence (hJ : cJ ac am N0 S0 M S) (ha : am = ac + 242) (hN : am + 35 ≤ N0) (hd : 200 ≤ d) (x y w : Int32) : jr ac am N0 S0 (cr_occurrence d ac x y w M) (mo_occurrence d am x y w) := by
  obtain ⟨⟨g, hI⟩, hm, hz, hL⟩ := hJ
  exact jr_look ⟨⟨g, hI⟩, hm, hz, hL⟩ ha hN (cl_occurrence hI hz (by omega) x y w) (fun M1 m1 => mf_occ m1 hz hd x y w)
theorem j_counted (hJ : cJ ac am N0 S0 M S) (ha : am = ac + 242) (hN : am + 35 ≤ N0) (hd : 200 ≤ d) (x y w : Int32) : jr ac am N0 S0 (cr_counted d ac x y w M) (mo_counted d am x y w) := by
  obtain ⟨⟨g, hI⟩, hm, hz, hL⟩ := hJ
  exact jr_same ⟨⟨g, hI⟩, hm, hz, hL⟩ ha hN (cl_qcounted hI hz (by omega) x y w) (fun M1 m1 => mf_cnt m1 hz hd x y w)
theorem j_any (hJ : cJ ac am N0 S0 M S) (ha : am = ac + 242) (hN : am + 35 ≤ N0) (hd : 200 ≤ d) (x y w : Int32) : jr ac am N0 S0 (cr_any d ac x y w M) (mo_any d am x y w) := by
  obtain ⟨⟨g, hI⟩, hm, hz, hL⟩ := hJ
  exact jr_same ⟨⟨g, hI⟩, hm, hz, hL⟩ ha hN (cl_qany hI hz (by omega) x y w) (fun M1 m1 => mf_any m1 hz hd x y w)
theorem j_witness (hJ : cJ ac am N0 S0 M S) (ha : am = ac + 242) (hN : am + 35 ≤ N0) (hd : 200 ≤ d) (x : Int32) (u : Bool) (w : Int32) : jr ac am N0 S0 (cr_witness d ac x (zb u) w M) (mo_witness d am x (zb u) w) := by
  obtain ⟨⟨g, hI⟩, hm, hz, hL⟩ := hJ
  exact jr_look ⟨⟨g, hI⟩, hm, hz, hL⟩ ha hN (cl_witness hI hz (by omega) x u w) (fun M1 m1 => mf_wit m1 hz hd x u w)
theorem j_shown (hJ : cJ ac am N0 S0 M S) (ha : am = ac + 242) (hN : am + 35 ≤ N0) (hd : 200 ≤ d) (x : Int32) (u : Bool) (k : Int32) : jr ac am N0 S0 (cr_shown d ac x (zb u) k M) (mo_shown d am x (zb u) k) := by
  obtain ⟨⟨g, hI⟩, hm, hz, hL⟩ := hJ
  exact jr_look ⟨⟨g, hI⟩, hm, hz, hL⟩ ha hN (cl_shown hI hz (by omega) x u k) (fun M1 m1 => mf_shw m1 hz hd x u k)
theorem j_shortest (hJ : cJ ac am N0 S0 M S) (ha : am = ac + 242) (hN : am + 35 ≤ N0) (hd : 200 ≤ d) (x k : Int32) : jr ac am N0 S0 (cr_shortest d ac x k M) (mo_shortest2 d am x k) := by
  obtain ⟨⟨g, hI⟩, hm, hz, hL⟩ := hJ
  exact jr_look ⟨⟨g, hI⟩, hm, hz, hL⟩ ha hN (cl_shortest hI hz (by omega) x k) (fun M1 m1 => mf_shr m1 hz hd x k)
theorem j_words (hJ : cJ ac am N0 S0 M S) (ha : am = ac + 242) (hN : am + 35 ≤ N0) (hd : 200 ≤ d) (x n : Int32) : jr ac am N0 S0 (cr_words d ac x n M) (mo_words d am x n) := by
  obtain ⟨⟨g, hI⟩, hm, hz, hL⟩ := hJ
  exact jr_same ⟨⟨g, hI⟩, hm, hz, hL⟩ ha hN (cl_words hI hz (by omega) x n) (fun M1 m1 => mf_wds m1 hz hd x n)
theorem j_reads (hJ : cJ ac am N0 S0 M S) (ha : am = ac + 242) (hN : am + 35 ≤ N0) (hd : 200 ≤ d) (x : Int32) : jr ac am N0 S0 (cr_reads d ac x M) (mo_reads d am x) := by
  obtain ⟨⟨g, hI⟩, hm, hz, hL⟩ := hJ
  exact jr_mk ⟨⟨g, hI⟩, hm, hz, hL⟩ ha hN (cl_reads hI hz (by omega) x) (zz_rds hz x) (fun M1 m1 => by
    obtain ⟨M2, e, m2, hf⟩ := mf_rds (d := d) m1 hz hd x
    exact ⟨M2, e, m2, _, _, (by unfold rd_A; decide), hf⟩)
theorem j_read (hJ : cJ ac am N0 S0 M S) (ha : am = ac + 242) (hN : am + 35 ≤ N0) (hd : 200 ≤ d) (w : Int32) : jr ac am N0 S0 (cr_read d ac w M) (mo_read d am w) := by
  obtain ⟨⟨g, hI⟩, hm, hz, hL⟩ := hJ
  exact jr_same ⟨⟨g, hI⟩, hm, hz, hL⟩ ha hN (cl_read hI hz (by omega) w) (fun M1 m1 => mf_read m1 w)
theorem j_taken (hJ : cJ ac am N0 S0 M S) (ha : am = ac + 242) (hN : am + 35 ≤ N0) (hd : 200 ≤ d) (i w : Int32) : jr ac am N0 S0 (cr_taken d ac i w M) (mo_taken d am i w) := by
  obtain ⟨⟨g, hI⟩, hm, hz, hL⟩ := hJ
  exact jr_same ⟨⟨g, hI⟩, hm, hz, hL⟩ ha hN (cl_taken hI hz i w) (fun M1 m1 => mf_tak m1 hz (by omega) i w)
theorem j_times (hJ : cJ ac am N0 S0 M S) (ha : am = ac + 242) (hN : am + 35 ≤ N0) (hd : 200 ≤ d) (c : Int32) : jr ac am N0 S0 (cr_times d ac c M) (mo_times d am c) := by
  obtain ⟨⟨g, hI⟩, hm, hz, hL⟩ := hJ
  exact jr_same ⟨⟨g, hI⟩, hm, hz, hL⟩ ha hN (cl_times hI hz c) (fun M1 m1 => mf_tim m1 hz (by omega) c)
theorem j_parts (hJ : cJ ac am N0 S0 M S) (ha : am = ac + 242) (hN : am + 35 ≤ N0) (hd : 200 ≤ d) (c : Int32) : jr ac am N0 S0 (cr_parts d ac c M) (mo_parts d am c) := by
  obtain ⟨⟨g, hI⟩, hm, hz, hL⟩ := hJ
  exact jr_same ⟨⟨g, hI⟩, hm, hz, hL⟩ ha hN (cl_parts hI hz c) (fun M1 m1 => mf_par m1 hz (by omega) c)
theorem j_mended (hJ : cJ ac am N0 S0 M S) (ha : am = ac + 242) (hN : am + 35 ≤ N0) (hd : 200 ≤ d) (w : Int32) : jr ac am N0 S0 (cr_mended d ac w M) (mo_mended d am w) := by
  obtain ⟨⟨g, hI⟩, hm, hz, hL⟩ := hJ
  exact jr_look ⟨⟨g, hI⟩, hm, hz, hL⟩ ha hN (cl_mended hI hz (by omega) w) (fun M1 m1 => mf_men m1 hz hd w)
theorem j_unlike (hJ : cJ ac am N0 S0 M S) (ha : am = ac + 242) (hN : am + 35 ≤ N0) (hd : 200 ≤ d) (x y k : Int32) : jr ac am N0 S0 (cr_unlike d ac x y k M) (mo_unlike d am x y k) := by
  obtain ⟨⟨g, hI⟩, hm, hz, hL⟩ := hJ
  exact jr_look ⟨⟨g, hI⟩, hm, hz, hL⟩ ha hN (cl_unlike hI hz (by omega) x y k) (fun M1 m1 => mf_unl m1 hz hd x y k)
theorem j_thing (hJ : cJ ac am N0 S0 M S) (ha : am = ac + 242) (hN : am + 35 ≤ N0) (hd : 200 ≤ d) (t w : Int32) : jr ac am N0 S0 (cr_thing d ac t w M) (mo_thing d am t w) := by
  obtain ⟨⟨g, hI⟩, hm, hz, hL⟩ := hJ
  exact jr_same ⟨⟨g, hI⟩, hm, hz, hL⟩ ha hN (cl_thing hI hz t w) (fun M1 m1 => mf_thg m1 hz hd t w)
theorem j_wrong (hJ : cJ ac am N0 S0 M S) (ha : am = ac + 242) (hN : am + 35 ≤ N0) (hd : 200 ≤ d) (i : Int32) : jr ac am N0 S0 (cr_wrong d ac i M) (mo_wrong d am i) := by
  obtain ⟨⟨g, hI⟩, hm, hz, hL⟩ := hJ
  exact jr_same ⟨⟨g, hI⟩, hm, hz, hL⟩ ha hN (cl_wrong hI hz (by omega) i) (fun M1 m1 => mf_wrg m1 hz hd i)
theorem j_message (hJ : cJ ac am N0 S0 M S) (ha : am = ac + 242) (hN : am + 35 ≤ N0) (hd : 200 ≤ d) (t k : Int32) : jr ac am N0 S0 (cr_message d ac t k M) (mo_message d am t k) := by
  obtain ⟨⟨g, hI⟩, hm, hz, hL⟩ := hJ
  exact jr_look ⟨⟨g, hI⟩, hm, hz, hL⟩ ha hN (cl_message hI hz (by omega) t k) (fun M1 m1 => mf_mes m1 hz hd t k)
theorem j_recount (hJ : cJ ac am N0 S0 M S) (ha : am = ac + 242) (hN : am + 35 ≤ N0) (hd : 200 ≤ d) (x y f t : Int32) : jr ac am N0 S0 (cr_recount d ac x y f t M) (mo_recount d am x y f t) := by
  obtain ⟨⟨g, hI⟩, hm, hz, hL⟩ := hJ
  exact jr_mk ⟨⟨g, hI⟩, hm, hz, hL⟩ ha hN (cl_recount hI hz (by omega) x y f t) (zz_rec hz x y f t) (fun M1 m1 => by
    obtain ⟨M2, e, m2, hf⟩ := mf_rec (d := d) m1 hz hd x y f t
    exact ⟨M2, e, m2, _, _, (by decide), hf⟩)
theorem j_reletter (hJ : cJ ac am N0 S0 M S) (ha : am = ac + 242) (hN : am + 35 ≤ N0) (hd : 200 ≤ d) (x y l : Int32) : jr ac am N0 S0 (cr_reletter d ac x y l M) (mo_reletter d am x y l) := by
  obtain ⟨⟨g, hI⟩, hm, hz, hL⟩ := hJ
  exact jr_mk ⟨⟨g, hI⟩, hm, hz, hL⟩ ha hN (cl_reletter hI hz (by omega) x y l) (zz_rel hz x y l) (fun M1 m1 => by
    obtain ⟨M2, e, m2, hf⟩ := mf_rel (d := d) m1 hz hd x y l
    exact ⟨M2, e, m2, _, _, (by decide), hf⟩)
theorem j_count (hJ : cJ ac am N0 S0 M S) (ha : am = ac + 242) (hN : am + 35 ≤ N0) (hd : 200 ≤ d) (w : Int32) : jr ac am N0 S0 (cr_count d ac w M) (mo_count d am w) := by
  obtain ⟨⟨g, hI⟩, hm, hz, hL⟩ := hJ
  exact jr_same ⟨⟨g, hI⟩, hm, hz, hL⟩ ha hN (cl_count hI hz (by omega) w) (fun M1 m1 => mf_cou m1 hz hd w)
/-- rule: the class answers, or throws; the model says which -/
theorem j_rule (hJ : cJ ac am N0 S0 M S) (ha : am = ac + 242) (hN : am + 35 ≤ N0) (hd : 200 ≤ d) (x w : Int32) : (∃ v, cr_rule d ac x w M = some (v, M) ∧ ∀ v64, kw ac am (zm_setJ M 23 (am + 34) 0 v64) → ∃ M2 S', mo_rule d am x w (zm_setJ M 23 (am + 34) 0 v64) = some (v, M2) ∧ cJ ac am N0 S0 M2 S' ∧ zm_I M2 12 am 0 = 0 ∧ zm_J M2 = zm_J (zm_setJ M 23 (am + 34) 0 v64) ∧ zm_K M2 = zm_K M) ∨ (sp_rule S x w = none ∧ (kw ac am M → ∃ v M2 S', mo_rule d am x w M = some (v, M2) ∧ cJ ac am N0 S0 M2 S' ∧ zm_I M2 12 am 0 = 1 ∧ zm_K M2 = zm_K M)) := by
  obtain ⟨⟨g, hI⟩, hm, hz, hL⟩ := hJ
  cases hs : sp_rule S x w with
  | none =>
    refine .inr ⟨rfl, fun hk => ?_⟩
    obtain ⟨M2, v, e, m2, hf, h0, _⟩ := mf_rule (d := d) hm hz hd x w
    rw [hs] at h0
    exact ⟨v, M2, S, e, ⟨⟨g, cI_mg hI hz hm.1 hk ha (fun a h => mi_A33 a h) hf⟩, m2, hz, by rw [hf.2.1]; exact hL⟩, h0, hf.2.2.1⟩
  | some v =>
    refine .inl ⟨v, ?_, fun v64 hk => ?_⟩
    · rw [cl_rule hI hz (by omega) x w, hs]
      rfl
    · have mj : mI am (zm_setJ M 23 (am + 34) 0 v64) S := mI_ag hm ⟨fun j => ⟨rfl, rfl⟩, fun t a _ _ _ => ⟨rfl, fun j => rfl⟩⟩
      have hn := hI.2.2.2.2.2.2.2.2.2.2.2
      have cj : cI ac N0 S0 (zm_setJ M 23 (am + 34) 0 v64) S g := cI_ag hI hz ⟨Nat.le_refl _, fun t k _ => ⟨rfl, fun j => ⟨rfl, rfl⟩⟩⟩ hn.1 hn.2
      obtain ⟨M2, v', e, m2, hf, h0, h1⟩ := mf_rule (d := d) mj hz hd x w
      rw [hs] at h0
      have := h1 v hs
      subst this
      exact ⟨M2, S, e, ⟨⟨g, cI_mg cj hz mj.1 hk ha (fun a h => mi_A33 a h) hf⟩, m2, hz, by rw [hf.2.1]; exact hL⟩, h0, hf.2.2.2.1, hf.2.2.1⟩
end
