/-! THE RULES' text: a rule that was read is a pattern -/
/-- its letter, its root, its nodes from .. up to, letters, counts, anys -/
abbrev yU : Type := Nat × Nat × Nat × Nat × List (Nat × Nat) × List (Nat × Option Nat × Nat) × List Nat
def gu_x (X : Nat → yX) (u : yU) (G : yG) : Prop := pw_x u.2.2.1 (u.2.2.2.1, X, u.2.2.2.2.1, u.2.2.2.2.2.1, u.2.2.2.2.2.2) ∧ pt_x (u.2.2.2.1, X, u.2.2.2.2.1, u.2.2.2.2.2.1, u.2.2.2.2.2.2) G (fun n => u.2.2.1 ≤ n ∧ n < u.2.2.2.1) u.2.1 0 ∧ pk_x (u.2.2.2.1, X, u.2.2.2.2.1, u.2.2.2.2.2.1, u.2.2.2.2.2.2) G u.2.1 ∧ (G u.2.1).2.1 = 0 ∧ (G u.2.1).2.2 = u.2.2.2.2.1.length ∧ (G u.2.1).1 ≤ 30 ∧ u.2.2.2.1 ≤ 400 ∧ u.1 < 26
def gu_1 (X : Nat → yX) (u : yU) (G : yG) (f n : Nat) : Nat := match f with
  | 0 => (X n).1
  | 1 => (X n).2.1
  | 2 => (G n).1
  | 3 => (G n).2.1
  | 4 => (G n).2.2
  | 5 => ((u.2.2.2.2.1[n]?).map (fun x => x.1)).getD 0
  | 6 => ((u.2.2.2.2.1[n]?).map (fun x => x.2)).getD 0
  | 7 => ((u.2.2.2.2.2.1[n]?).map (fun x => x.1)).getD 0
  | 8 => ((u.2.2.2.2.2.1[n]?).map (fun x => x.2.2)).getD 0
  | 9 => (u.2.2.2.2.2.2[n]?).getD 0
  | 10 => match n with
    | 0 => u.2.1
    | 1 => u.2.2.2.2.1.length
    | 2 => u.2.2.2.2.2.1.length
    | 3 => u.2.2.2.2.2.2.length
    | _ => u.1
  | _ => (X n).2.2.2.2
def gu_2 (X : Nat → yX) (u : yU) (f n : Nat) : Option Nat := match f with
  | 0 => (X n).2.2.1
  | _ => ((u.2.2.2.2.2.1[n]?).map (fun x => x.2.1)).getD none
def py_mk (X : Nat → yX) (u : yU) (G : yG) : yP := (gu_1 X u G, gu_2 X u, (fun n => (X n).2.2.2.1), (fun n => decide (u.2.2.1 ≤ n ∧ n < u.2.2.2.1)))
section
variable {X : Nat → yX} {u : yU} {G : yG}
theorem mk_kd (n : Nat) : py_kd (py_mk X u G) n = (X n).1 := Eq.trans rfl rfl
theorem mk_nb (n : Nat) : py_nb (py_mk X u G) n = (X n).2.1 := Eq.trans rfl rfl
theorem mk_hg (n : Nat) : py_hg (py_mk X u G) n = (G n).1 := Eq.trans rfl rfl
theorem mk_lo (n : Nat) : py_lo (py_mk X u G) n = (G n).2.1 := Eq.trans rfl rfl
theorem mk_hi (n : Nat) : py_hi (py_mk X u G) n = (G n).2.2 := Eq.trans rfl rfl
theorem mk_lt (n : Nat) : py_lt (py_mk X u G) n = ((u.2.2.2.2.1[n]?).map (fun x => x.1)).getD 0 := Eq.trans rfl rfl
theorem mk_lf (n : Nat) : py_lf (py_mk X u G) n = ((u.2.2.2.2.1[n]?).map (fun x => x.2)).getD 0 := Eq.trans rfl rfl
theorem mk_fr (n : Nat) : py_fr (py_mk X u G) n = ((u.2.2.2.2.2.1[n]?).map (fun x => x.1)).getD 0 := Eq.trans rfl rfl
theorem mk_cn (n : Nat) : py_cn (py_mk X u G) n = ((u.2.2.2.2.2.1[n]?).map (fun x => x.2.2)).getD 0 := Eq.trans rfl rfl
theorem mk_an (n : Nat) : py_an (py_mk X u G) n = (u.2.2.2.2.2.2[n]?).getD 0 := Eq.trans rfl rfl
theorem mk_rt : py_rt (py_mk X u G) = u.2.1 := Eq.trans rfl rfl
theorem mk_nl : py_nl (py_mk X u G) = u.2.2.2.2.1.length := Eq.trans rfl rfl
theorem mk_nc : py_nc (py_mk X u G) = u.2.2.2.2.2.1.length := Eq.trans rfl rfl
theorem mk_na : py_na (py_mk X u G) = u.2.2.2.2.2.2.length := Eq.trans rfl rfl
theorem mk_le : py_le (py_mk X u G) = u.1 := Eq.trans rfl rfl
theorem mk_ar (n : Nat) : py_ar (py_mk X u G) n = (X n).2.2.2.2 := Eq.trans rfl rfl
theorem mk_up (n : Nat) : py_up (py_mk X u G) n = (X n).2.2.1 := Eq.trans rfl rfl
theorem mk_to (n : Nat) : py_to (py_mk X u G) n = ((u.2.2.2.2.2.1[n]?).map (fun x => x.2.1)).getD none := Eq.trans rfl rfl
theorem mk_ks (n : Nat) : py_ks (py_mk X u G) n = (X n).2.2.2.1 := Eq.trans rfl rfl
theorem mk_dm (n : Nat) : py_dm (py_mk X u G) n ↔ (u.2.2.1 ≤ n ∧ n < u.2.2.2.1) := by
  show decide _ = true ↔ _
  simp
theorem mk_run : ∀ (l : List Nat) (a b : Nat), pr_run G a l b → py_run (py_mk X u G) a l b := by
  intro l
  induction l with
  | nil => intro a b h; exact h
  | cons c l ih => intro a b ⟨h1, h2⟩; exact ⟨h1, ih _ _ h2⟩
theorem gl_some {α : Type} {l : List α} {i : Nat} (h : i < l.length) : ∃ x, l[i]? = some x := ⟨l[i], by simp [h]⟩
theorem mk_k5 (h : gu_x X u G) {n : Nat} (hn : u.2.2.1 ≤ n ∧ n < u.2.2.2.1) : py_k5 (py_mk X u G) n := by
  obtain ⟨w, ⟨r1, r2, r3⟩, k, l0, l1, h30, z4, l26⟩ := h
  obtain ⟨w1, w2, w3, w4, w5, w6, w7⟩ := w
  dsimp only at w1 w2 w3 w4 w5 w6 w7
  obtain ⟨s1, s2, s3, s4, s5, s6, s7, s8, s9, s10⟩ := r3 n hn
  have kn : pk_x (u.2.2.2.1, X, u.2.2.2.2.1, u.2.2.2.2.2.1, u.2.2.2.2.2.2) G n := by
    by_cases e : n = u.2.1
    · rw [e]; exact k
    · exact s10 e
  obtain ⟨k0, k1, k2, k3, k4, k5, k6⟩ := kn
  dsimp only at k0 k1 k2 k3 k4 k5 k6
  unfold py_k5
  simp only [mk_kd, mk_nb, mk_hg, mk_lo, mk_hi, mk_lf, mk_cn, mk_an, mk_rt, mk_nl, mk_nc, mk_na, mk_ar, mk_ks]
  refine ⟨?_, k1, k2, k3, ?_, ?_, ?_, s5, k6, by omega, s6, s7, s4, by have := s8; dsimp only at this; omega⟩
  · intro e
    obtain ⟨a1, ⟨x, a2⟩, a3, a4⟩ := k0 e
    have := (List.getElem?_eq_some_iff.mp a2).1
    refine ⟨a1, this, ?_, a3, a4⟩
    rw [a2]
    rfl
  · intro e
    obtain ⟨a1, a2, a3⟩ := k4 e
    have := (List.getElem?_eq_some_iff.mp a3).1
    refine ⟨a1, a2, this, ?_⟩
    rw [a3]
    rfl
  · intro e
    obtain ⟨a1, ⟨f, t, a3⟩⟩ := k5 e
    have := (List.getElem?_eq_some_iff.mp a3).1
    refine ⟨a1, this, ?_⟩
    rw [a3]
    rfl
  · intro e
    exact mk_run _ _ _ (s9 e)
theorem mk_ok (h : gu_x X u G) : py_ok (py_mk X u G) := by
  have h' := h
  obtain ⟨w, ⟨r1, r2, r3⟩, k, l0, l1, h30, z4, l26⟩ := h
  obtain ⟨w1, w2, w3, w4, w5, w6, w7⟩ := w
  dsimp only at w1 w2 w3 w4 w5 w6 w7 r1 r2
  refine ⟨⟨(mk_dm _).mpr r1, r2, h30, l0, l1⟩, ?_, ?_, ?_, ?_, ?_, ?_, ?_, w2, w3, w4⟩
  · intro n c hn hc
    have g := (r3 n ((mk_dm n).mp hn)).1 c hc
    exact ⟨(mk_dm c).mpr g.1, g.2.1, g.2.2.1, g.2.2.2⟩
  · intro n p hn hp
    have g := (r3 n ((mk_dm n).mp hn)).2.1 p hp
    exact ⟨(mk_dm p).mpr g.1, g.2⟩
  · intro n hn hp
    exact (r3 n ((mk_dm n).mp hn)).2.2.1 hp
  · intro n hn
    exact mk_k5 h' ((mk_dm n).mp hn)
  · intro o ho
    obtain ⟨x, hx⟩ := gl_some (l := u.2.2.2.2.1) ho
    have g := w5 o x hx
    rw [mk_lf, mk_lt, hx]
    exact ⟨(mk_dm _).mpr ⟨g.1, g.2.1⟩, g.2.2.1, g.2.2.2.1, g.2.2.2.2⟩
  · intro o ho
    obtain ⟨x, hx⟩ := gl_some (l := u.2.2.2.2.2.1) ho
    have g := w6 o x hx
    rw [mk_cn, mk_fr, mk_to, hx]
    exact ⟨(mk_dm _).mpr ⟨g.2.2.1, g.2.2.2.1⟩, g.2.2.2.2.1, g.2.2.2.2.2, g.1, g.2.1⟩
  · intro o ho
    obtain ⟨x, hx⟩ := gl_some (l := u.2.2.2.2.2.2) ho
    have g := w7 o x hx
    rw [mk_an, hx]
    exact ⟨(mk_dm _).mpr ⟨g.1, g.2.1⟩, g.2.2.1, g.2.2.2⟩
end
/-- more nodes came behind -/
theorem gu_ext {X X' : Nat → yX} {u : yU} {G : yG} (h : gu_x X u G) (e : ∀ k, k < u.2.2.2.1 → X' k = X k) : gu_x X' u G := by
  obtain ⟨w, t, k, r⟩ := h
  have px : px_e (fun n => u.2.2.1 ≤ n ∧ n < u.2.2.2.1) (u.2.2.2.1, X, u.2.2.2.2.1, u.2.2.2.2.2.1, u.2.2.2.2.2.2) (u.2.2.2.1, X', u.2.2.2.2.1, u.2.2.2.2.2.1, u.2.2.2.2.2.2) G G := ⟨fun n hn => ⟨e n hn.2, rfl⟩, ⟨[], by simp⟩, ⟨[], by simp⟩, ⟨[], by simp⟩⟩
  refine ⟨?_, pt_ext px (Nat.le_refl _) t, pk_ext px t.1 (fun c hc => ((t.2.2 _ t.1).1 c hc).1) k, r⟩
  obtain ⟨w1, w2, w3, w4, w5, w6, w7⟩ := w
  dsimp only at w1 w2 w3 w4 w5 w6 w7
  refine ⟨w1, w2, w3, w4, ?_, ?_, ?_⟩
  · intro o x hx
    have g := w5 o x hx
    dsimp only
    rw [e _ g.2.1]
    exact g
  · intro o x hx
    have g := w6 o x hx
    dsimp only
    rw [e _ g.2.2.2.1]
    exact g
  · intro o x hx
    have g := w7 o x hx
    dsimp only
    rw [e _ g.2.1]
    exact g
noncomputable def py_uG (X : Nat → yX) (u : yU) : yG := Classical.epsilon (gu_x X u)
noncomputable def py_uP (X : Nat → yX) (u : yU) : yP := py_mk X u (py_uG X u)
theorem uG_ok {X : Nat → yX} {u : yU} (h : ∃ G, gu_x X u G) : gu_x X u (py_uG X u) := Classical.epsilon_spec h
theorem uP_ok {X : Nat → yX} {u : yU} (h : ∃ G, gu_x X u G) : py_ok (py_uP X u) := mk_ok (uG_ok h)
/-- one rule: letters of those ahead of it, bytes, place, nodes -/
def pp_rule (Ls : List Nat) (b : List Nat) (p N : Nat) (X : Nat → yX) : Except Nat (yU × yQp) := match (py_sk b p).1 with
  | [] => .error (py_sk b p).2
  | c :: r => if (97 ≤ c ∧ c ≤ 122) ∧ ¬ (c - 97) ∈ Ls then (match pp_sgn 61 r ((py_sk b p).2 + 1) with
    | .error e => .error e
    | .ok y => match pp_pat 8 (y.1, y.2, N, X, [], [], []) with
      | .error e => .error e
      | .ok x => .ok ((c - 97, x.1, N, x.2.2.2.1, x.2.2.2.2.2.1, x.2.2.2.2.2.2.1, x.2.2.2.2.2.2.2), x.2)) else .error (py_sk b p).2
def pp_rules : Nat → List yU → List Nat → Nat → Nat → (Nat → yX) → Except Nat (List yU × Nat × (Nat → yX))
  | 0, _, _, p, _, _ => .error p
  | fuel + 1, us, b, p, N, X => match pp_rule (us.map (fun u => u.1)) b p N X with
    | .error e => .error e
    | .ok x => if (py_sk x.2.1 x.2.2.1).1.head? = some 59 ∧ us.length + 1 < 8 then pp_rules fuel (us ++ [x.1]) (py_sk x.2.1 x.2.2.1).1.tail ((py_sk x.2.1 x.2.2.1).2 + 1) x.2.2.2.1 x.2.2.2.2.1 else if (py_sk x.2.1 x.2.2.1).1 = [] then .ok (us ++ [x.1], x.2.2.2.1, x.2.2.2.2.1) else .error (py_sk x.2.1 x.2.2.1).2
theorem pm_rule {Ls b : List Nat} {p N : Nat} {X : Nat → yX} (hN : N + b.length ≤ 400) {x : yU × yQp} (h : pp_rule Ls b p N X = .ok x) : (∃ G, gu_x x.2.2.2.2.1 x.1 G) ∧ (∀ k, k < N → x.2.2.2.2.1 k = X k) ∧ N ≤ x.2.2.2.1 ∧ x.2.2.2.1 + x.2.1.length ≤ 400 ∧ x.1.2.2.2.1 = x.2.2.2.1 ∧ x.1.2.2.1 = N ∧ x.2.1.length < b.length ∧ ¬ x.1.1 ∈ Ls := by
  unfold pp_rule at h
  have l0 := sk_len b p
  cases e : (py_sk b p).1 with
  | nil => rw [e] at h; cases h
  | cons c r =>
    rw [e] at h l0
    dsimp only at h
    have l1 : r.length + 1 ≤ b.length := by simpa using l0
    by_cases c1 : (97 ≤ c ∧ c ≤ 122) ∧ ¬ (c - 97) ∈ Ls
    · rw [if_pos c1] at h
      cases e2 : pp_sgn 61 r ((py_sk b p).2 + 1) with
      | error t => rw [e2] at h; cases h
      | ok y =>
        rw [e2] at h
        dsimp only at h
        have l2 := sgn_len e2
        cases e3 : pp_pat 8 (y.1, y.2, N, X, [], [], []) with
        | error t => rw [e3] at h; cases h
        | ok z =>
          rw [e3] at h
          dsimp only at h
          injection h with h
          subst h
          obtain ⟨G, g1, g2, g3, g4, g5, g6, g7, g8, g9, g10⟩ := pm_pat N 8 (y.1, y.2, N, X, [], [], []) (fun _ => (0, 0, 0)) ⟨Nat.le_refl _, by simp, by simp, by simp, (fun o x hx => by simp at hx), (fun o x hx => by simp at hx), (fun o x hx => by simp at hx)⟩ (by dsimp only; omega) z e3
          dsimp only at g1 g2 g3 g4 g5 g6 g7 g8 g9 g10
          have ha := (g3.2.2 z.1 g3.1).2.2.2.2.2.1
          have hA := g2.2.2.2.1
          refine ⟨⟨G, g2, pt_ext (px_refl _ _ _) (Nat.zero_le _) g3, g4, g5, g6, ?_, ?_, ?_⟩, fun k hk => (g1.1 k hk).1, ?_, ?_, rfl, rfl, ?_, c1.2⟩
          · show (G z.1).1 ≤ 30
            simp at g7
            omega
          · show z.2.2.2.1 ≤ 400
            omega
          · show c - 97 < 26
            omega
          · have := g3.1
            dsimp only
            omega
          · show z.2.2.2.1 + z.2.1.length ≤ 400
            omega
          · show z.2.1.length < b.length
            omega
    · rw [if_neg c1] at h
      cases h
