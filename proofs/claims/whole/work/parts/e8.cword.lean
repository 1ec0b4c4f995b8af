/-! THE CLASS: whether the rest makes a word -/
def py_wf (P : yP) (b : List Nat) (s : yS) : Bool := decide ((py_rn P b s).1.length = b.length) && py_ce P (py_rn P b s).2
section
variable {M M' : zM} {pa : Nat → Nat} {P : yP} {d wk re Q B : Nat} {s t : yS}
theorem wg_cut (hP : py_ok P) (h : wk_g P B s) : wk_g P B (py_cut P s) := by
  obtain ⟨h1, h2, h3, h4⟩ := h
  have htm : ∀ c, py_tm P s (some c) ≤ s.2.1 c := by
    intro c
    show (if py_to P c = none then min (s.2.1 c) (py_few P c) else s.2.1 c) ≤ _
    split
    · exact Nat.min_le_left _ _
    · exact Nat.le_refl _
  refine ⟨?_, ⟨?_, h2.2⟩, ⟨?_, h3.2⟩, h4.1, fun c => Nat.le_trans (htm c) (h4.2 c)⟩
  · intro o ho
    refine ⟨?_, (h1 o ho).2⟩
    intro c hc hw
    have hk := few_i hP (ok_cn hP hc) (ok_cnk hP hc)
    rw [ok_cnn hP hc] at hk
    have g := (h1 o ho).1 c hc hw
    show 1 ≤ (if py_to P c = none then min (s.2.1 c) (py_few P c) else s.2.1 c)
    split
    · exact Nat.le_min.mpr ⟨g, hk.2⟩
    · exact g
  · intro c hc hno
    have := h2.1 c hc hno
    have := htm c
    show py_tm P s (some c) = 0
    omega
  · intro c t hc ht
    exact Nat.le_trans (htm c) (h3.1 c t hc ht)
theorem rn_sim (hP : py_ok P) : ∀ (b : List Nat) (s t : yS), py_sim P s t → (∀ o, s.1 = some o → o < py_nl P) → (py_rn P b t).1 = (py_rn P b s).1 ∧ py_sim P (py_rn P b s).2 (py_rn P b t).2 ∧ (∀ o, (py_rn P b s).2.1 = some o → o < py_nl P) := by
  intro b
  induction b with
  | nil => intro s t h hv; exact ⟨rfl, h, hv⟩
  | cons l b ih =>
    intro s t h hv
    have e := sim_fd hP h hv l
    cases hf : py_fd P s l with
    | none =>
      rw [hf] at e
      rw [rn_none hf, rn_none e]
      exact ⟨rfl, h, hv⟩
    | some W =>
      rw [hf] at e
      rw [rn_some hf, rn_some e]
      have hW := (fd_mem hf).1
      obtain ⟨g1, g2, g3⟩ := ih (py_go P s W) (py_go P t W) (sim_go hP h hv hW) (fun o ho => by
        have ho : some W.1 = some o := ho
        injection ho with ho
        rw [← ho]
        exact (go_way hP hv hW).1)
      exact ⟨by rw [g1], g2, g3⟩
theorem wf_sim (hP : py_ok P) {b : List Nat} (h : py_sim P s t) (hv : ∀ o, s.1 = some o → o < py_nl P) : py_wf P b t = py_wf P b s := by
  obtain ⟨g1, g2, g3⟩ := rn_sim hP b s t h hv
  unfold py_wf
  rw [g1, sim_ce hP g2 g3]
theorem rn_app : ∀ (a b : List Nat) (s : yS), (py_rn P a s).1.length = a.length → py_rn P (a ++ b) s = ((py_rn P a s).1 ++ (py_rn P b (py_rn P a s).2).1, (py_rn P b (py_rn P a s).2).2) := by
  intro a
  induction a with
  | nil => intro b s _; rfl
  | cons l a ih =>
    intro b s h
    rw [List.cons_append]
    cases hf : py_fd P s l with
    | none =>
      rw [rn_none hf] at h
      cases h
    | some W =>
      rw [rn_some hf] at h ⊢
      rw [rn_some hf]
      have h : (py_rn P a (py_go P s W)).1.length = a.length := by simpa using h
      rw [ih b _ h]
      rfl
theorem rn_le : ∀ (a : List Nat) (s : yS), (py_rn P a s).1.length ≤ a.length := by
  intro a
  induction a with
  | nil => intro s; exact Nat.le_refl _
  | cons l a ih =>
    intro s
    cases hf : py_fd P s l with
    | none => rw [rn_none hf]; exact Nat.zero_le _
    | some W =>
      rw [rn_some hf]
      have := ih (py_go P s W)
      simp
      exact this
/-- what can't be read isn't read further -/
theorem rn_stop : ∀ (a b : List Nat) (s : yS), (py_rn P a s).1.length < a.length → py_rn P (a ++ b) s = py_rn P a s := by
  intro a
  induction a with
  | nil => intro b s h; exact absurd h (by simp)
  | cons l a ih =>
    intro b s h
    rw [List.cons_append]
    cases hf : py_fd P s l with
    | none => rw [rn_none hf, rn_none hf]
    | some W =>
      rw [rn_some hf] at h ⊢
      rw [rn_some hf]
      have h : (py_rn P a (py_go P s W)).1.length < a.length := by simpa using h
      rw [ih b _ h]
theorem wf_app {a b : List Nat} (h : (py_rn P a s).1.length = a.length) : py_wf P (a ++ b) s = py_wf P b (py_rn P a s).2 := by
  unfold py_wf
  rw [rn_app a b s h]
  simp only [List.length_append, h]
  congr 1
  rw [decide_eq_decide]
  omega
theorem wf_stop {a b : List Nat} (h : (py_rn P a s).1.length < a.length) : py_wf P (a ++ b) s = false := by
  unfold py_wf
  rw [rn_stop a b s h, List.length_append]
  have : ¬ (py_rn P a s).1.length = a.length + b.length := by omega
  simp [this]
theorem wrd_wf (ls : List Nat) : py_wrd P ls = py_wf P ls py_s00 := rfl
/-- the class asks the same -/
theorem cl_wordFrom_2 (hP : py_ok P) (hd : 2 ≤ d) (hr : wk + 12 < re) {ls : List Nat} (hls : ls.length ≤ 24) (h26 : ∀ x, x ∈ ls → x < 26) {g : List (Nat × Option Nat)} : ∀ (b a : List Nat) (M : zM) (s : yS) (B : Nat), ls = a ++ b → B + b.length ≤ 900 → wk_g P B s → wk_x M pa Q P wk s → re_x M re ls g → ∀ fuel, b.length < fuel → ∃ M', re_isWordFrom_2 d fuel re (some wk) (nI a.length) M = some (zb (py_wf P b s), M') ∧ zr (wz_W wk) M M' := by
  intro b
  induction b with
  | nil =>
    intro a M s B e hB hw hx hre fuel hf
    have hla := congrArg List.length e
    rw [List.append_nil] at hla
    cases fuel with
    | zero => cases hf
    | succ fuel =>
      obtain ⟨M', g1, g2, g3⟩ := cl_canEnd (d := d) hP hd hx hw.1 hw.2.2.2 (by simp at hB; omega)
      refine ⟨M', ?_, zr_mono g3 wz_h⟩
      rw [re_isWordFrom_2, hre.2.1, if_pos ((le_i2 (by omega) (by omega)).mpr (by omega))]
      simp only [g1, Option.bind_some]
      rw [if_pos (by cases py_ce P s <;> simp [zb])]
      rfl
  | cons l b ih =>
    intro a M s B e hB hw hx hre fuel hf
    have hla := congrArg List.length e
    rw [List.length_append, List.length_cons] at hla
    rw [List.length_cons] at hB
    cases fuel with
    | zero => cases hf
    | succ fuel =>
      have hl : ls[a.length]? = some l := by rw [e]; simp
      have hl26 := h26 l (by rw [e]; simp)
      have hz : z_in (nI a.length) 24 := nI_in (by omega) (by omega)
      obtain ⟨M1, k1, k2, k3, k4⟩ := cl_step (d := d) hP hd hx hw.1 hw.2.2.2 (by omega) hl26
      have re1 := re_wz hre k4 hr
      rw [re_isWordFrom_2, hre.2.1, if_neg (fun y => by have := (le_i2 (by omega) (by omega)).mp y; omega)]
      simp only [hre.1.1.1, hre.1.1.2, if_pos hz, nI_clamp (show a.length < 2 ^ 31 by omega), hre.2.2.2.1 _ l hl, k1, Option.bind_some, zlet, nI_1]
      cases hfd : py_fd P s l with
      | none =>
        rw [if_pos (show zb (none : Option yW).isSome = 0 from rfl)]
        refine ⟨M1, ?_, k4⟩
        have : py_wf P (l :: b) s = false := by
          unfold py_wf
          rw [rn_none hfd]
          simp
        rw [this]
        rfl
      | some W =>
        obtain ⟨x1, _⟩ := k3 W hfd
        rw [if_neg (show ¬ zb (some W).isSome = 0 by show ¬ zb true = 0; decide)]
        obtain ⟨M', q1, q2⟩ := ih (a ++ [l]) M1 (py_go P s W) (B + 1) (by rw [e]; simp) (by omega) (wg_go hP hw hfd) x1 re1 fuel (by simp at hf; omega)
        refine ⟨M', ?_, zr_trans k4 q2⟩
        have : py_wf P (l :: b) s = py_wf P b (py_go P s W) := by
          unfold py_wf
          rw [rn_some hfd]
          simp
        rw [this, ← q1]
        rw [List.length_append]
        rfl
theorem cl_wordFrom (hP : py_ok P) (hd : 3 ≤ d) (hr : wk + 12 < re) {ls : List Nat} (hls : ls.length ≤ 24) (h26 : ∀ x, x ∈ ls → x < 26) {g : List (Nat × Option Nat)} {a b : List Nat} (e : ls = a ++ b) (hB : B ≤ 800) (hw : wk_g P B s) (hx : wk_x M pa Q P wk s) (hre : re_x M re ls g) : ∃ M', re_isWordFrom d re (some wk) (nI a.length) M = some (zb (py_wf P b s), M') ∧ zr (wz_W wk) M M' := by
  obtain ⟨d, rfl⟩ : ∃ d', d = d' + 1 := ⟨d - 1, by omega⟩
  have h100 := zLF_100
  have hla := congrArg List.length e
  rw [List.length_append] at hla
  exact cl_wordFrom_2 hP (by omega) hr hls h26 b a M s B e (by omega) hw hx hre zLF (by omega)
end
