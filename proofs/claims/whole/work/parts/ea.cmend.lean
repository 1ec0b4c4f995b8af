/-! THE CLASS: how a text is mended -/
/-- all that mending stands on -/
def md_s (M : zM) (pa : Nat → Nat) (Q : Nat) (P : yP) (wk re : Nat) (ls : List Nat) (g : List (Nat × Option Nat)) (n : Nat) : Prop := cX M pa Q P ∧ wk_l M wk ∧ Q + 10 ≤ wk ∧ wk + 12 < re ∧ re_x M re ls g ∧ re_st M re P ls n
section
variable {M M' : zM} {pa : Nat → Nat} {P : yP} {d wk re Q B n : Nat} {s : yS} {ls : List Nat} {g : List (Nat × Option Nat)}
theorem es_past {kind p l : Nat} : ∀ (r : List Nat) (i : Nat), p < i → py_es kind p l i r = r := by
  intro r
  induction r with
  | nil =>
    intro i h
    unfold py_es
    rw [if_neg (by omega)]
  | cons x r ih =>
    intro i h
    unfold py_es
    rw [if_neg (by omega), if_pos (by omega), ih (i + 1) (by omega)]
    rfl
theorem es_at {kind i l : Nat} (r : List Nat) : py_es kind i l i r = (if 1 < kind then [l] else []) ++ (if kind = 2 then r else r.tail) := by
  cases r with
  | nil =>
    unfold py_es
    by_cases q : 1 < kind
    · rw [if_pos ⟨rfl, q⟩, if_pos q]
      simp
    · rw [if_neg (fun y => q y.2), if_neg q]
      simp
  | cons x r =>
    unfold py_es
    rw [es_past r (i + 1) (by omega)]
    by_cases q : 1 < kind
    · rw [if_pos ⟨rfl, q⟩, if_pos q]
      by_cases q2 : kind = 2
      · rw [if_pos (.inr q2), if_pos q2]
        simp
      · rw [if_neg (by simp [q2]), if_neg q2]
        simp
    · rw [if_neg (fun y => q y.2), if_neg q, if_neg (by simp; omega), if_neg (by omega)]
      simp
theorem es_to {kind l : Nat} : ∀ (k i : Nat) (r : List Nat), k ≤ r.length → py_es kind (i + k) l i r = r.take k ++ py_es kind (i + k) l (i + k) (r.drop k) := by
  intro k
  induction k with
  | zero => intro i r _; simp
  | succ k ih =>
    intro i r hk
    cases r with
    | nil => simp at hk
    | cons x r =>
      rw [py_es, if_neg (by omega), if_pos (by omega)]
      have := ih (i + 1) r (by simpa using hk)
      rw [show i + 1 + k = i + (k + 1) by omega] at this
      rw [this]
      simp
theorem es_1 {k l : Nat} (hk : k ≤ ls.length) : py_es 1 k l 0 ls = ls.take k ++ ls.drop (k + 1) := by
  have := es_to (kind := 1) (l := l) k 0 ls hk
  rw [Nat.zero_add] at this
  rw [this, es_at]
  simp
theorem es_2 {k l : Nat} (hk : k ≤ ls.length) : py_es 2 k l 0 ls = ls.take k ++ l :: ls.drop k := by
  have := es_to (kind := 2) (l := l) k 0 ls hk
  rw [Nat.zero_add] at this
  rw [this, es_at]
  simp
theorem es_3 {k l : Nat} (hk : k ≤ ls.length) : py_es 3 k l 0 ls = ls.take k ++ l :: ls.drop (k + 1) := by
  have := es_to (kind := 3) (l := l) k 0 ls hk
  rw [Nat.zero_add] at this
  rw [this, es_at]
  simp
/-- an edit behind what can be read makes no word; others are read on from the state there -/
theorem wrd_at {k : Nat} {X : List Nat} (hk : k ≤ ls.length) : py_wrd P (ls.take k ++ X) = if k ≤ (py_rn P ls py_s00).1.length then py_wf P X (py_at P ls k) else false := by
  rw [wrd_wf]
  split
  · rename_i h
    exact wf_app (rn_take h)
  · rename_i h
    exact wf_stop (rn_past (by omega) hk)
theorem md_wz (h : md_s M pa Q P wk re ls g n) (hf : zr (wz_W wk) M M') : md_s M' pa Q P wk re ls g n := by
  obtain ⟨a1, a2, a3, a4, a5, a6⟩ := h
  refine ⟨cX_wz a1 hf a3, wl_zr a2 hf, a3, a4, re_wz a5 hf a4, ?_⟩
  intro i hi
  rw [zr_I hf (by
    rintro (⟨e, _⟩ | ⟨_, e⟩)
    · cases e
    · omega)]
  exact a6 i hi
def r13_W (re t k j : Nat) : Prop := t = 4 ∧ k = re ∧ 12 ≤ j ∧ j ≤ 15
theorem cl_setMend {a b c : Int32} : ∃ M', re_setMend d re a b c M = some M' ∧ zm_I M' 4 re 13 = a ∧ zm_I M' 4 re 14 = b ∧ zm_I M' 4 re 15 = c ∧ zf (r13_W re) M M' := by
  refine ⟨_, rfl, ?_, ?_, ?_, zf_trans (zf_trans (zf_set ⟨rfl, rfl, by omega, by omega⟩) (zf_set ⟨rfl, rfl, by omega, by omega⟩)) (zf_set ⟨rfl, rfl, by omega, by omega⟩)⟩
  · rw [pm_ne (by omega), pm_ne (by omega), pm_same]
  · rw [pm_ne (by omega), pm_same]
  · rw [pm_same]
def mw_W2 (wk re t k j : Nat) : Prop := wz_W wk t k j ∨ r13_W re t k j
/-- one try: from place k on with the rest b, behind the letters x -/
theorem cl_try (hP : py_ok P) (hd : 3 ≤ d) (hls : ls.length ≤ 24) (h26 : ∀ x, x ∈ ls → x < 26) (h : md_s M pa Q P wk re ls g n) {k : Nat} (hk : k ≤ n) : ∃ M', wk_resume d wk (some Q) (zm_I M 20 (re + 6) k) M = some M' ∧ wk_x M' pa Q P wk (py_cut P (py_at P ls k)) ∧ wk_g P 24 (py_cut P (py_at P ls k)) ∧ md_s M' pa Q P wk re ls g n ∧ zr (wz_W wk) M M' := by
  have hg := at_g hP hls k (P := P)
  obtain ⟨M', g1, g2, g3⟩ := cl_resume (d := d) hP (by omega) h.1 h.2.1 h.2.2.1 hg.2.2.1 hg.2.2.2.1
  rw [h.2.2.2.2.2 k hk]
  exact ⟨M', g1, g2, wg_cut hP hg, md_wz h g3, g3⟩
theorem cl_leave_3 (hP : py_ok P) (hd : 3 ≤ d) (hls : ls.length ≤ 24) (h26 : ∀ x, x ∈ ls → x < 26) {v3 : Int32} {n1 : Nat} (hn1 : n1 ≤ ls.length) (hn : n1 ≤ n + 1) (hv3 : ∀ i, i ≤ 24 → (v3 < nI i ↔ n1 ≤ i)) : ∀ (m k : Nat) (M : zM), k + m = n1 → md_s M pa Q P wk re ls g n → ∀ fuel, m < fuel → ∃ M', re_leaveOut_3 d fuel re (some Q) (some wk) v3 (nI k) M = some (zb ((List.range' k m).find? (fun k => py_wf P (ls.drop (k + 1)) (py_at P ls k))).isSome, M') ∧ (∀ j, (List.range' k m).find? (fun k => py_wf P (ls.drop (k + 1)) (py_at P ls k)) = some j → zm_I M' 4 re 13 = 1 ∧ zm_I M' 4 re 14 = nI j ∧ zm_I M' 4 re 15 = -1) ∧ ((List.range' k m).find? (fun k => py_wf P (ls.drop (k + 1)) (py_at P ls k)) = none → md_s M' pa Q P wk re ls g n) ∧ zr (mw_W2 wk re) M M' := by
  intro m
  induction m with
  | zero =>
    intro k M hk h fuel hf
    cases fuel with
    | zero => cases hf
    | succ fuel =>
      refine ⟨M, ?_, fun j hj => (by cases hj), fun _ => h, zr_refl _ _⟩
      rw [re_leaveOut_3, if_pos ((hv3 k (by omega)).mpr (by omega))]
      rfl
  | succ m ih =>
    intro k M hk h fuel hf
    cases fuel with
    | zero => cases hf
    | succ fuel =>
      have hz : z_in (nI k) 25 := nI_in (by omega) (by omega)
      obtain ⟨M1, a1, a2, a3, a4, a5⟩ := cl_try (d := d) hP hd hls h26 h (k := k) (by omega)
      have hsplit : ls = ls.take (k + 1) ++ ls.drop (k + 1) := (List.take_append_drop _ _).symm
      have hlen : (ls.take (k + 1)).length = k + 1 := by rw [List.length_take]; omega
      obtain ⟨M2, b1, b2⟩ := cl_wordFrom (d := d) (P := P) (g := g) hP hd h.2.2.2.1 hls h26 hsplit (by omega) a3 a2 a4.2.2.2.2.1
      rw [hlen, wf_sim hP (sim_cut _) ((at_g hP hls k).2.2.2.1)] at b1
      have m4 := md_wz a4 b2
      have z2 : zr (mw_W2 wk re) M M2 := zr_mono (zr_trans a5 b2) (fun t k j w => .inl w)
      rw [re_leaveOut_3, if_neg (fun y => by have := (hv3 k (by omega)).mp y; omega)]
      simp only [h.2.2.2.2.1.1.2.2.2.2.2.1, h.2.2.2.2.1.1.2.2.2.2.2.2, if_pos hz, nI_clamp (show k < 2 ^ 31 by omega), a1, Option.bind_some, nI_1, b1, zlet]
      rw [List.range'_succ, List.find?_cons]
      cases hb : py_wf P (ls.drop (k + 1)) (py_at P ls k)
      · rw [if_pos (show zb false = 0 from rfl)]
        obtain ⟨M', q1, q2, q3, q4⟩ := ih (k + 1) M2 (by omega) m4 fuel (by omega)
        exact ⟨M', q1, q2, q3, zr_trans z2 q4⟩
      · rw [if_neg (show ¬ zb true = 0 by decide)]
        obtain ⟨M3, c1, c2, c3, c4, c5⟩ := cl_setMend (d := d) (re := re) (M := M2) (a := 1) (b := nI k) (c := -1)
        rw [c1, Option.bind_some]
        refine ⟨M3, rfl, ?_, fun hj => (by cases hj), zr_trans z2 (zr_mono (zr_zf c5) (fun t k j w => .inr w))⟩
        intro j hj
        injection hj with hj
        rw [← hj]
        exact ⟨c2, c3, c4⟩
end
