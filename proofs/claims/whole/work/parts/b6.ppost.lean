/-! THE RULES' text: what a piece leaves behind -/
def pw_x (a0 : Nat) (B : yBp) : Prop := a0 ≤ B.1 ∧ B.2.2.1.length ≤ 16 ∧ B.2.2.2.1.length ≤ 8 ∧ B.2.2.2.2.length ≤ 4 ∧
  (∀ (o : Nat) (x : Nat × Nat), B.2.2.1[o]? = some x → a0 ≤ x.2 ∧ x.2 < B.1 ∧ (B.2.1 x.2).1 = 0 ∧ (B.2.1 x.2).2.1 = o ∧ x.1 < 26) ∧
  (∀ (c : Nat) (x : Nat × Option Nat × Nat), B.2.2.2.1[c]? = some x → x.1 ≤ 12 ∧ (∀ t, x.2.1 = some t → 1 ≤ t ∧ t ≤ 12 ∧ x.1 ≤ t) ∧ a0 ≤ x.2.2 ∧ x.2.2 < B.1 ∧ (B.2.1 x.2.2).1 = 5 ∧ (B.2.1 x.2.2).2.1 = c) ∧
  (∀ (i x : Nat), B.2.2.2.2[i]? = some x → a0 ≤ x ∧ x < B.1 ∧ (B.2.1 x).1 = 4 ∧ (B.2.1 x).2.1 = i)
def po_x (a0 hb : Nat) (q : yQp) (G : yG) (x : Nat × yQp) (G' : yG) : Prop := px_e (fun k => k < q.2.2.1) q.2.2 x.2.2.2 G G' ∧ pw_x a0 x.2.2.2 ∧ pt_x x.2.2.2 G' (fun n => q.2.2.1 ≤ n ∧ n < x.2.2.2.1) x.1 x.2.1.length ∧ pk_x x.2.2.2 G' x.1 ∧ (G' x.1).2.1 = q.2.2.2.2.1.length ∧ (G' x.1).2.2 = x.2.2.2.2.2.1.length ∧ (G' x.1).1 + q.2.2.2.2.2.2.length ≤ hb + (x.2.2.2.2.1 x.1).2.2.2.2 + x.2.2.2.2.2.2.2.length ∧ x.2.1.length < q.1.length ∧ x.2.2.2.1 + x.2.1.length ≤ q.2.2.1 + q.1.length ∧ q.2.2.2.2.2.2.length ≤ x.2.2.2.2.2.2.2.length
def pi_ok (a0 hb : Nat) (item : yIp) : Prop := ∀ (q : yQp) (G : yG), pw_x a0 q.2.2 → q.2.2.1 + q.1.length ≤ 400 → ∀ x, item q = .ok x → ∃ G', po_x a0 hb q G x G'
/-- numbers and kinds as they were -/
theorem pw_put {a0 : Nat} {B : yBp} (h : pw_x a0 B) (A C : Nat) : pw_x a0 (pb_put B A C) := by
  obtain ⟨h1, h2, h3, h4, h5, h6, h7⟩ := h
  have ek := fun n => put_k B.2.1 A C n
  refine ⟨h1, h2, h3, h4, ?_, ?_, ?_⟩
  · intro o x hx
    have g := h5 o x hx
    exact ⟨g.1, g.2.1, Eq.trans (ek x.2).1 g.2.2.1, Eq.trans (ek x.2).2 g.2.2.2.1, g.2.2.2.2⟩
  · intro o x hx
    have g := h6 o x hx
    exact ⟨g.1, g.2.1, g.2.2.1, g.2.2.2.1, Eq.trans (ek x.2.2).1 g.2.2.2.2.1, Eq.trans (ek x.2.2).2 g.2.2.2.2.2⟩
  · intro o x hx
    have g := h7 o x hx
    exact ⟨g.1, g.2.1, Eq.trans (ek x).1 g.2.2.1, Eq.trans (ek x).2 g.2.2.2⟩
/-- a node more, which is in none of the tables yet -/
theorem pw_new {a0 : Nat} {B : yBp} (h : pw_x a0 B) (v : yX) : pw_x a0 (B.1 + 1, py_u B.2.1 B.1 v, B.2.2) := by
  obtain ⟨h1, h2, h3, h4, h5, h6, h7⟩ := h
  refine ⟨Nat.le_succ_of_le h1, h2, h3, h4, ?_, ?_, ?_⟩
  · intro o x hx
    have g := h5 o x hx
    have e : py_u B.2.1 B.1 v x.2 = B.2.1 x.2 := pu_o _ _ (by omega)
    show a0 ≤ x.2 ∧ x.2 < B.1 + 1 ∧ (py_u B.2.1 B.1 v x.2).1 = 0 ∧ (py_u B.2.1 B.1 v x.2).2.1 = o ∧ x.1 < 26
    rw [e]
    exact ⟨g.1, by omega, g.2.2⟩
  · intro o x hx
    have g := h6 o x hx
    have e : py_u B.2.1 B.1 v x.2.2 = B.2.1 x.2.2 := pu_o _ _ (by omega)
    show x.1 ≤ 12 ∧ (∀ t, x.2.1 = some t → 1 ≤ t ∧ t ≤ 12 ∧ x.1 ≤ t) ∧ a0 ≤ x.2.2 ∧ x.2.2 < B.1 + 1 ∧ (py_u B.2.1 B.1 v x.2.2).1 = 5 ∧ (py_u B.2.1 B.1 v x.2.2).2.1 = o
    rw [e]
    exact ⟨g.1, g.2.1, g.2.2.1, by omega, g.2.2.2.2⟩
  · intro o x hx
    have g := h7 o x hx
    have e : py_u B.2.1 B.1 v x = B.2.1 x := pu_o _ _ (by omega)
    show a0 ≤ x ∧ x < B.1 + 1 ∧ (py_u B.2.1 B.1 v x).1 = 4 ∧ (py_u B.2.1 B.1 v x).2.1 = o
    rw [e]
    exact ⟨g.1, by omega, g.2.2⟩
/-- one node alone -/
theorem pt_one {B : yBp} {G : yG} {n l : Nat} {kd nb : Nat} (hX : B.2.1 n = (kd, nb, none, [], 0)) (hl : l ≤ 400) (hlo : (G n).2.1 = (G n).2.2 ∨ (kd = 0 ∧ (G n).2.1 ≤ (G n).2.2)) : pt_x B G (fun k => n ≤ k ∧ k < n + 1) n l := by
  refine ⟨⟨Nat.le_refl _, Nat.lt_succ_self _⟩, by rw [hX], ?_⟩
  intro k ⟨k1, k2⟩
  have : k = n := by omega
  subst this
  unfold ps_x
  rw [hX]
  refine ⟨(fun c hc => by cases hc), (fun p hp => by cases hp), fun _ => rfl, Nat.le_refl _, ?_, (show 0 ≤ 2 by decide), by simp, by simpa using hl, ?_, fun e => absurd rfl e⟩
  · rcases hlo with h | ⟨_, h⟩
    · omega
    · exact h
  · intro hk
    have hk : 2 ≤ kd := hk
    rcases hlo with h | ⟨h, _⟩
    · exact h
    · omega
/-- fewer bytes are left -/
theorem po_less {a0 hb : Nat} {q : yQp} {G G' : yG} {n : Nat} {x y : yQp} (h : po_x a0 hb q G (n, x) G') (hB : y.2.2 = x.2.2) (hl : y.1.length ≤ x.1.length) : po_x a0 hb q G (n, y) G' := by
  obtain ⟨h1, h2, h3, h4, h5, h6, h7, h8, h9, h10⟩ := h
  dsimp only at h1 h2 h3 h4 h5 h6 h7 h8 h9 h10
  unfold po_x
  dsimp only
  rw [hB]
  refine ⟨h1, h2, pt_ext (px_refl _ _ _) hl h3, h4, h5, h6, h7, by omega, ?_, h10⟩
  omega
theorem po_mono {a0 hb hb' : Nat} {q : yQp} {G G' : yG} {x : Nat × yQp} (h : po_x a0 hb q G x G') (hl : hb ≤ hb') : po_x a0 hb' q G x G' := by
  obtain ⟨h1, h2, h3, h4, h5, h6, h7, h8⟩ := h
  exact ⟨h1, h2, h3, h4, h5, h6, by omega, h8⟩
/-- more of a kind: what is there already is a tree under n that may still be too small -/
theorem pm_more {a0 hb sign n kd : Nat} {item : yIp} (hi : pi_ok a0 hb item) (hkd : kd = 2 ∨ kd = 3) {Bd A0 lo : Nat} (hBd : Bd ≤ 400) : ∀ (fuel : Nat) (q : yQp) (G : yG) (a : Nat), pw_x a0 q.2.2 → ((py_sk q.1 q.2.1).1.head? = some sign → q.2.2.1 + (py_sk q.1 q.2.1).1.tail.length ≤ Bd) → (¬ (py_sk q.1 q.2.1).1.head? = some sign → q.2.2.1 + q.1.length ≤ Bd ∧ 2 ≤ (q.2.2.2.1 n).2.2.2.1.length) → 1 ≤ (q.2.2.2.1 n).2.2.2.1.length → a ≤ q.2.2.1 → pt_x q.2.2 G (fun k => a ≤ k ∧ k < q.2.2.1) n q.1.length → (q.2.2.2.1 n).1 = kd → (G n).2.1 = lo → (G n).2.2 = q.2.2.2.2.1.length → (G n).1 + A0 ≤ hb + 1 + (q.2.2.2.1 n).2.2.2.2 + q.2.2.2.2.2.2.length → A0 ≤ q.2.2.2.2.2.2.length → ∀ x, pp_more item sign n fuel q = .ok x → x.1 = n ∧ ∃ G', px_e (fun k => k < a) q.2.2 x.2.2.2 G G' ∧ pw_x a0 x.2.2.2 ∧ pt_x x.2.2.2 G' (fun k => a ≤ k ∧ k < x.2.2.2.1) n x.2.1.length ∧ pk_x x.2.2.2 G' n ∧ (G' n).2.1 = lo ∧ (G' n).2.2 = x.2.2.2.2.2.1.length ∧ (G' n).1 + A0 ≤ hb + 1 + (x.2.2.2.2.1 n).2.2.2.2 + x.2.2.2.2.2.2.2.length ∧ x.2.1.length ≤ q.1.length ∧ x.2.2.2.1 + x.2.1.length ≤ Bd ∧ A0 ≤ x.2.2.2.2.2.2.2.length := by
  intro fuel
  induction fuel with
  | zero =>
    intro q G a _ _ _ _ _ _ _ _ _ _ _ x hx
    cases hx
  | succ fuel ih =>
    intro q G a hw H1 H2 hs ha hT hK hlo hhi hh hA x hx
    have l0 := sk_len q.1 q.2.1
    unfold pp_more at hx
    by_cases c : (py_sk q.1 q.2.1).1.head? = some sign
    · rw [if_pos c] at hx
      have l1 := tail_lt c
      have b1 := H1 c
      cases e : item ((py_sk q.1 q.2.1).1.tail, (py_sk q.1 q.2.1).2 + 1, q.2.2) with
      | error t => rw [e] at hx; cases hx
      | ok y =>
        rw [e] at hx
        dsimp only at hx
        obtain ⟨G1, g1, g2, g3, g4, g5, g6, g7, g8, g9, g10⟩ := hi ((py_sk q.1 q.2.1).1.tail, (py_sk q.1 q.2.1).2 + 1, q.2.2) G hw (by dsimp only; omega) y e
        dsimp only at g1 g2 g3 g4 g5 g6 g7 g8 g9 g10
        have dR := hT.1
        have eR := g1.1 n dR.2
        have hT1 : pt_x y.2.2.2 G1 (fun k => a ≤ k ∧ k < q.2.2.1) n y.2.1.length := pt_ext (px_mono g1 (fun k hk => hk.2)) (by omega) hT
        have hd1 : ∀ k, (a ≤ k ∧ k < q.2.2.1) → ¬ (q.2.2.1 ≤ k ∧ k < y.2.2.2.1) := fun k h1 h2 => by omega
        have hr8 := (hT.2.2 n dR).2.2.2.2.2.2.2.1
        have eX : y.2.2.2.2.1 n = q.2.2.2.1 n := eR.1
        have hT2 := pt_put hT1 g3 g4 hd1 (by rw [eX, hK]; omega) (by rw [eR.2, hhi, g5]) (by rw [eX]; omega)
        have dc := g3.1
        have hT3 : pt_x (pb_put y.2.2.2 n y.1) (py_u G1 n (max (G1 n).1 ((G1 y.1).1 + 1), (G1 n).2.1, (G1 y.1).2.2)) (fun k => a ≤ k ∧ k < y.2.2.2.1) n y.2.1.length := by
          refine pt_iff hT2 ?_
          intro k
          constructor
          · intro h
            rcases h with h | h
            · exact ⟨h.1, by omega⟩
            · exact ⟨by omega, h.2⟩
          · intro h
            by_cases e2 : k < q.2.2.1
            · exact .inl ⟨h.1, e2⟩
            · exact .inr ⟨by omega, h.2⟩
        have XR : (pb_put y.2.2.2 n y.1).2.1 n = ((y.2.2.2.2.1 n).1, (y.2.2.2.2.1 n).2.1, (y.2.2.2.2.1 n).2.2.1, (y.2.2.2.2.1 n).2.2.2.1 ++ [y.1], max (y.2.2.2.2.1 n).2.2.2.2 (y.2.2.2.2.1 y.1).2.2.2.2) := put_A _ _ _
        have GR := pu_s G1 n (max (G1 n).1 ((G1 y.1).1 + 1), (G1 n).2.1, (G1 y.1).2.2)
        have XR2 : ((pb_put y.2.2.2 n y.1).2.1 n).2.2.2.1.length = (q.2.2.2.1 n).2.2.2.1.length + 1 := by rw [XR, ← eX]; simp
        have XRa : ((pb_put y.2.2.2 n y.1).2.1 n).2.2.2.2 = max (q.2.2.2.1 n).2.2.2.2 (y.2.2.2.2.1 y.1).2.2.2.2 := by rw [XR, ← eX]
        have l2 := sk_len y.2.1 y.2.2.1
        obtain ⟨k1, G2, k2, k3, k4, k5, k6, k7, k8, k9, k10, k11⟩ := ih (y.2.1, y.2.2.1, pb_put y.2.2.2 n y.1) (py_u G1 n (max (G1 n).1 ((G1 y.1).1 + 1), (G1 n).2.1, (G1 y.1).2.2)) a (pw_put g2 _ _)
          (fun h => by
            have := tail_lt h
            dsimp only at this ⊢
            show y.2.2.2.1 + _ ≤ Bd
            omega)
          (fun _ => ⟨by show y.2.2.2.1 + y.2.1.length ≤ Bd; omega, by show 2 ≤ ((pb_put y.2.2.2 n y.1).2.1 n).2.2.2.1.length; omega⟩)
          (by show 1 ≤ ((pb_put y.2.2.2 n y.1).2.1 n).2.2.2.1.length; omega)
          (by show a ≤ y.2.2.2.1; omega) hT3 (by show ((pb_put y.2.2.2 n y.1).2.1 n).1 = kd; rw [XR, eX]; exact hK) (by rw [GR]; show (G1 n).2.1 = lo; rw [eR.2]; exact hlo) (by rw [GR]; exact g6)
          (by
            rw [GR]
            show max (G1 n).1 ((G1 y.1).1 + 1) + A0 ≤ hb + 1 + ((pb_put y.2.2.2 n y.1).2.1 n).2.2.2.2 + y.2.2.2.2.2.2.2.length
            rw [XRa, eR.2]
            omega) (by show A0 ≤ y.2.2.2.2.2.2.2.length; omega) x hx
        refine ⟨k1, G2, ?_, k3, k4, k5, k6, k7, k8, by dsimp only at k9; omega, k10, k11⟩
        have px1 : px_e (fun k => k < a) y.2.2.2 (pb_put y.2.2.2 n y.1) G1 (py_u G1 n (max (G1 n).1 ((G1 y.1).1 + 1), (G1 n).2.1, (G1 y.1).2.2)) := by
          refine ⟨?_, ⟨[], by simp [pb_put]⟩, ⟨[], by simp [pb_put]⟩, ⟨[], by simp [pb_put]⟩⟩
          intro k hk
          have hk : k < a := hk
          exact ⟨put_o _ (by omega) (by omega), pu_o _ _ (by omega)⟩
        exact px_tr (px_tr (px_mono g1 (fun k (hk : k < a) => (by show k < q.2.2.1; omega))) px1 (fun k hk => hk)) k2 (fun k hk => hk)
    · rw [if_neg c] at hx
      injection hx with hx
      subst hx
      have b2 := H2 c
      refine ⟨rfl, G, px_refl _ _ _, hw, pt_ext (px_refl _ _ _) l0 hT, ?_, hlo, hhi, hh, l0, ?_, hA⟩
      · show pk_x q.2.2 G n
        have b22 := b2.2
        unfold pk_x
        rcases hkd with e | e
        · subst e
          rw [hK]
          exact ⟨(fun h => by cases h), (fun h => by cases h), fun _ => b22, (fun h => by cases h), (fun h => by cases h), (fun h => by cases h), by decide⟩
        · subst e
          rw [hK]
          exact ⟨(fun h => by cases h), (fun h => by cases h), (fun h => by cases h), fun _ => b22, (fun h => by cases h), (fun h => by cases h), by decide⟩
      · show q.2.2.1 + (py_sk q.1 q.2.1).1.length ≤ Bd
        omega
theorem pm_join {a0 hb sign kd : Nat} {item : yIp} (hi : pi_ok a0 hb item) (hkd : kd = 2 ∨ kd = 3) : pi_ok a0 (hb + 1) (pp_join item kd sign) := by
  intro q G hw hN x hx
  unfold pp_join at hx
  cases e : item q with
  | error t => rw [e] at hx; cases hx
  | ok y =>
    rw [e] at hx
    dsimp only at hx
    obtain ⟨G1, hp⟩ := hi q G hw hN y e
    by_cases c : (py_sk y.2.1 y.2.2.1).1.head? = some sign
    · rw [if_pos c] at hx
      obtain ⟨g1, g2, g3, g4, g5, g6, g7, g8, g9, g10⟩ := hp
      have dc := g3.1
      have l1 := tail_lt c
      have l2 := sk_len y.2.1 y.2.2.1
      have px0 : px_e (fun k => k < y.2.2.2.1) y.2.2.2 (pb_open y.2.2.2 kd 0) G1 (py_u G1 y.2.2.2.1 (0, q.2.2.2.2.1.length, q.2.2.2.2.1.length)) := by
        refine ⟨?_, ⟨[], by simp [pb_open]⟩, ⟨[], by simp [pb_open]⟩, ⟨[], by simp [pb_open]⟩⟩
        intro k hk
        have hk : k < y.2.2.2.1 := hk
        exact ⟨pu_o _ _ (by omega), pu_o _ _ (by omega)⟩
      have eX : (pb_open y.2.2.2 kd 0).2.1 y.2.2.2.1 = (kd, 0, none, [], 0) := pu_s _ _ _
      have eG := pu_s G1 y.2.2.2.1 (0, q.2.2.2.2.1.length, q.2.2.2.2.1.length)
      have t1 : pt_x (pb_open y.2.2.2 kd 0) (py_u G1 y.2.2.2.1 (0, q.2.2.2.2.1.length, q.2.2.2.2.1.length)) (fun k => y.2.2.2.1 ≤ k ∧ k < y.2.2.2.1 + 1) y.2.2.2.1 y.2.1.length := pt_one eX (by omega) (.inl (by rw [eG]))
      have t2 : pt_x (pb_open y.2.2.2 kd 0) (py_u G1 y.2.2.2.1 (0, q.2.2.2.2.1.length, q.2.2.2.2.1.length)) (fun n => q.2.2.1 ≤ n ∧ n < y.2.2.2.1) y.1 y.2.1.length := pt_ext (px_mono px0 (fun k hk => hk.2)) (Nat.le_refl _) g3
      have k2 : pk_x (pb_open y.2.2.2 kd 0) (py_u G1 y.2.2.2.1 (0, q.2.2.2.2.1.length, q.2.2.2.2.1.length)) y.1 := pk_ext px0 dc.2 (fun z hz => ((g3.2.2 y.1 dc).1 z hz).1.2) g4
      have eGc : py_u G1 y.2.2.2.1 (0, q.2.2.2.2.1.length, q.2.2.2.2.1.length) y.1 = G1 y.1 := pu_o _ _ (by omega)
      have eXc : (pb_open y.2.2.2 kd 0).2.1 y.1 = y.2.2.2.2.1 y.1 := pu_o _ _ (by omega)
      have t3 := pt_put t1 t2 k2 (fun k h1 h2 => by omega) (by rw [eX]; show 2 ≤ kd; omega) (by rw [eG, eGc]; exact g5.symm) (by rw [eX]; show 0 + 1 + _ ≤ 400; omega)
      have XR : (pb_put (pb_open y.2.2.2 kd 0) y.2.2.2.1 y.1).2.1 y.2.2.2.1 = _ := put_A _ _ _
      rw [eX, eXc] at XR
      rw [eG, eGc] at t3
      have GR := pu_s (py_u G1 y.2.2.2.1 (0, q.2.2.2.2.1.length, q.2.2.2.2.1.length)) y.2.2.2.1 (max 0 ((G1 y.1).1 + 1), q.2.2.2.2.1.length, (G1 y.1).2.2)
      have t4 : pt_x (pb_put (pb_open y.2.2.2 kd 0) y.2.2.2.1 y.1) (py_u (py_u G1 y.2.2.2.1 (0, q.2.2.2.2.1.length, q.2.2.2.2.1.length)) y.2.2.2.1 (max 0 ((G1 y.1).1 + 1), q.2.2.2.2.1.length, (G1 y.1).2.2)) (fun k => q.2.2.1 ≤ k ∧ k < y.2.2.2.1 + 1) y.2.2.2.1 y.2.1.length := by
        refine pt_iff t3 ?_
        intro k
        constructor
        · intro h
          rcases h with h | h
          · exact ⟨by omega, h.2⟩
          · exact ⟨h.1, by omega⟩
        · intro h
          by_cases e2 : k < y.2.2.2.1
          · exact .inr ⟨h.1, e2⟩
          · exact .inl ⟨by omega, h.2⟩
      obtain ⟨m1, G2, m2, m3, m4, m5, m6, m7, m8, m9, m10, m11⟩ := pm_more (sign := sign) (n := y.2.2.2.1) (A0 := q.2.2.2.2.2.2.length) (lo := q.2.2.2.2.1.length) hi hkd hN (y.2.1.length + 1) (y.2.1, y.2.2.1, pb_put (pb_open y.2.2.2 kd 0) y.2.2.2.1 y.1) (py_u (py_u G1 y.2.2.2.1 (0, q.2.2.2.2.1.length, q.2.2.2.2.1.length)) y.2.2.2.1 (max 0 ((G1 y.1).1 + 1), q.2.2.2.2.1.length, (G1 y.1).2.2)) q.2.2.1 (pw_put (pw_new g2 _) _ _)
        (fun _ => by
          show y.2.2.2.1 + 1 + (py_sk y.2.1 y.2.2.1).1.tail.length ≤ q.2.2.1 + q.1.length
          omega)
        (fun h => absurd c h)
        (by show 1 ≤ ((pb_put (pb_open y.2.2.2 kd 0) y.2.2.2.1 y.1).2.1 y.2.2.2.1).2.2.2.1.length; rw [XR]; simp)
        (by show q.2.2.1 ≤ y.2.2.2.1 + 1; omega) t4 (by show ((pb_put (pb_open y.2.2.2 kd 0) y.2.2.2.1 y.1).2.1 y.2.2.2.1).1 = kd; rw [XR]) (by rw [GR]) (by rw [GR]; exact g6)
        (by
          rw [GR]
          show max 0 ((G1 y.1).1 + 1) + q.2.2.2.2.2.2.length ≤ hb + 1 + ((pb_put (pb_open y.2.2.2 kd 0) y.2.2.2.1 y.1).2.1 y.2.2.2.1).2.2.2.2 + y.2.2.2.2.2.2.2.length
          rw [XR]
          show max 0 ((G1 y.1).1 + 1) + q.2.2.2.2.2.2.length ≤ hb + 1 + max 0 (y.2.2.2.2.1 y.1).2.2.2.2 + y.2.2.2.2.2.2.2.length
          omega) g10 x hx
      refine ⟨G2, ?_, m3, by rw [m1]; exact m4, by rw [m1]; exact m5, by rw [m1]; exact m6, by rw [m1]; exact m7, by rw [m1]; exact m8, by dsimp only at m9; omega, m10, m11⟩
      have px1 : px_e (fun k => k < q.2.2.1) y.2.2.2 (pb_put (pb_open y.2.2.2 kd 0) y.2.2.2.1 y.1) G1 (py_u (py_u G1 y.2.2.2.1 (0, q.2.2.2.2.1.length, q.2.2.2.2.1.length)) y.2.2.2.1 (max 0 ((G1 y.1).1 + 1), q.2.2.2.2.1.length, (G1 y.1).2.2)) := by
        refine ⟨?_, ⟨[], by simp [pb_put, pb_open]⟩, ⟨[], by simp [pb_put, pb_open]⟩, ⟨[], by simp [pb_put, pb_open]⟩⟩
        intro k hk
        have hk : k < q.2.2.1 := hk
        refine ⟨Eq.trans (put_o _ (by omega) (by omega)) (pu_o _ _ (by omega)), ?_⟩
        rw [pu_o _ _ (by omega), pu_o _ _ (by omega)]
      exact px_tr (px_tr g1 px1 (fun k hk => hk)) m2 (fun k hk => hk)
    · rw [if_neg c] at hx
      injection hx with hx
      subst hx
      exact ⟨G1, po_mono (po_less (y := pb_skip y.2) hp rfl (sk_len _ _)) (Nat.le_succ _)⟩
