/-! THE RULES' text: anys, atoms, patterns make trees -/
theorem pm_any {a0 hb n nb : Nat} {pat : yIp} (hi : pi_ok a0 hb pat) {Bd A0 lo : Nat} (hBd : Bd ≤ 400) : ∀ (fuel k : Nat) (q : yQp) (G : yG) (a : Nat), pw_x a0 q.2.2 → q.2.2.1 + q.1.length ≤ Bd → a ≤ q.2.2.1 → pt_x q.2.2 G (fun i => a ≤ i ∧ i < q.2.2.1) n q.1.length → (q.2.2.2.1 n).1 = 4 → (q.2.2.2.1 n).2.1 = nb → q.2.2.2.2.2.2[nb]? = some n → (q.2.2.2.1 n).2.2.2.1.length = k → k ≤ 3 → (G n).2.1 = lo → (G n).2.2 = q.2.2.2.2.1.length → (G n).1 + A0 ≤ hb + (q.2.2.2.1 n).2.2.2.2 + q.2.2.2.2.2.2.length → A0 + 1 ≤ q.2.2.2.2.2.2.length → ∀ x, pp_any pat n fuel k q = .ok x → x.1 = n ∧ ∃ G', px_e (fun i => i < a) q.2.2 x.2.2.2 G G' ∧ pw_x a0 x.2.2.2 ∧ pt_x x.2.2.2 G' (fun i => a ≤ i ∧ i < x.2.2.2.1) n x.2.1.length ∧ pk_x x.2.2.2 G' n ∧ (G' n).2.1 = lo ∧ (G' n).2.2 = x.2.2.2.2.2.1.length ∧ (G' n).1 + A0 ≤ hb + (x.2.2.2.2.1 n).2.2.2.2 + x.2.2.2.2.2.2.2.length ∧ x.2.1.length ≤ q.1.length ∧ x.2.2.2.1 + x.2.1.length ≤ Bd ∧ A0 ≤ x.2.2.2.2.2.2.2.length := by
  intro fuel
  induction fuel with
  | zero =>
    intro k q G a _ _ _ _ _ _ _ _ _ _ _ _ _ x hx
    cases hx
  | succ fuel ih =>
    intro k q G a hw H1 ha hT hK hnb hAn hs hk3 hlo hhi hh hA x hx
    unfold pp_any at hx
    cases e : pat q with
    | error t => rw [e] at hx; cases hx
    | ok y =>
      rw [e] at hx
      dsimp only at hx
      obtain ⟨G1, g1, g2, g3, g4, g5, g6, g7, g8, g9, g10⟩ := hi q G hw (by omega) y e
      have dR := hT.1
      have eR := g1.1 n dR.2
      have hT1 : pt_x y.2.2.2 G1 (fun k => a ≤ k ∧ k < q.2.2.1) n y.2.1.length := pt_ext (px_mono g1 (fun k hk => hk.2)) (by omega) hT
      have hd1 : ∀ k, (a ≤ k ∧ k < q.2.2.1) → ¬ (q.2.2.1 ≤ k ∧ k < y.2.2.2.1) := fun k h1 h2 => by omega
      have hr8 := (hT.2.2 n dR).2.2.2.2.2.2.2.1
      have eX : y.2.2.2.2.1 n = q.2.2.2.1 n := eR.1
      have hT2 := pt_put hT1 g3 g4 hd1 (by rw [eX, hK]; decide) (by rw [eR.2, hhi, g5]) (by rw [eX]; omega)
      have dc := g3.1
      have hT3 : pt_x (pb_put y.2.2.2 n y.1) (py_u G1 n (max (G1 n).1 ((G1 y.1).1 + 1), (G1 n).2.1, (G1 y.1).2.2)) (fun k => a ≤ k ∧ k < y.2.2.2.1) n y.2.1.length := by
        refine pt_iff hT2 ?_
        intro k
        constructor
        · intro h
          rcases h with h | h
          · exact ⟨h.1, by omega⟩
          · exact ⟨by omega, h.2⟩
        · intro h
          by_cases e2 : k < q.2.2.1
          · exact .inl ⟨h.1, e2⟩
          · exact .inr ⟨by omega, h.2⟩
      have XR : (pb_put y.2.2.2 n y.1).2.1 n = ((y.2.2.2.2.1 n).1, (y.2.2.2.2.1 n).2.1, (y.2.2.2.2.1 n).2.2.1, (y.2.2.2.2.1 n).2.2.2.1 ++ [y.1], max (y.2.2.2.2.1 n).2.2.2.2 (y.2.2.2.2.1 y.1).2.2.2.2) := put_A _ _ _
      have GR := pu_s G1 n (max (G1 n).1 ((G1 y.1).1 + 1), (G1 n).2.1, (G1 y.1).2.2)
      have XR2 : ((pb_put y.2.2.2 n y.1).2.1 n).2.2.2.1.length = k + 1 := by rw [XR, ← hs, ← eX]; simp
      have XRa : ((pb_put y.2.2.2 n y.1).2.1 n).2.2.2.2 = max (q.2.2.2.1 n).2.2.2.2 (y.2.2.2.2.1 y.1).2.2.2.2 := by rw [XR, ← eX]
      have XRk : ((pb_put y.2.2.2 n y.1).2.1 n).1 = 4 := by rw [XR, eX]; exact hK
      have XRn : ((pb_put y.2.2.2 n y.1).2.1 n).2.1 = nb := by rw [XR, eX]; exact hnb
      have hAn2 : (pb_put y.2.2.2 n y.1).2.2.2.2[nb]? = some n := by
        obtain ⟨s, es⟩ := g1.2.2.2
        have es : y.2.2.2.2.2.2.2 = q.2.2.2.2.2.2 ++ s := es
        show y.2.2.2.2.2.2.2[nb]? = some n
        rw [es]
        exact ga_app hAn
      have l2 := sk_len y.2.1 y.2.2.1
      have hh2 : max (G1 n).1 ((G1 y.1).1 + 1) + A0 ≤ hb + ((pb_put y.2.2.2 n y.1).2.1 n).2.2.2.2 + y.2.2.2.2.2.2.2.length := by
        rw [XRa, eR.2]
        omega
      have px1 : px_e (fun k => k < a) y.2.2.2 (pb_put y.2.2.2 n y.1) G1 (py_u G1 n (max (G1 n).1 ((G1 y.1).1 + 1), (G1 n).2.1, (G1 y.1).2.2)) := by
        refine ⟨?_, ⟨[], by simp [pb_put]⟩, ⟨[], by simp [pb_put]⟩, ⟨[], by simp [pb_put]⟩⟩
        intro k hk
        have hk : k < a := hk
        exact ⟨put_o _ (by omega) (by omega), pu_o _ _ (by omega)⟩
      have px2 := px_tr (px_mono g1 (fun k (hk : k < a) => (by show k < q.2.2.1; omega))) px1 (fun k hk => hk)
      by_cases c : (py_sk y.2.1 y.2.2.1).1.head? = some 38 ∧ k + 1 < 4
      · rw [if_pos c] at hx
        have l1 := tail_lt c.1
        obtain ⟨k1, G2, k2, k3, k4, k5, k6, k7, k8, k9, k10, k11⟩ := ih (k + 1) ((py_sk y.2.1 y.2.2.1).1.tail, (py_sk y.2.1 y.2.2.1).2 + 1, pb_put y.2.2.2 n y.1) (py_u G1 n (max (G1 n).1 ((G1 y.1).1 + 1), (G1 n).2.1, (G1 y.1).2.2)) a (pw_put g2 _ _)
          (by show y.2.2.2.1 + (py_sk y.2.1 y.2.2.1).1.tail.length ≤ Bd; omega)
          (by show a ≤ y.2.2.2.1; omega) (pt_ext (px_refl _ _ _) (by dsimp only; omega) hT3) XRk XRn hAn2 XR2 (by omega) (by rw [GR]; show (G1 n).2.1 = lo; rw [eR.2]; exact hlo) (by rw [GR]; exact g6)
          (by rw [GR]; exact hh2) (by show A0 + 1 ≤ y.2.2.2.2.2.2.2.length; omega) x hx
        exact ⟨k1, G2, px_tr px2 k2 (fun k hk => hk), k3, k4, k5, k6, k7, k8, by dsimp only at k9; omega, k10, k11⟩
      · rw [if_neg c] at hx
        by_cases c2 : 2 ≤ k + 1 ∧ (py_sk y.2.1 y.2.2.1).1.head? = some 93
        · rw [if_pos c2] at hx
          injection hx with hx
          subst hx
          have l1 := tail_lt c2.2
          refine ⟨rfl, py_u G1 n (max (G1 n).1 ((G1 y.1).1 + 1), (G1 n).2.1, (G1 y.1).2.2), px2, pw_put g2 _ _, pt_ext (px_refl _ _ _) (by dsimp only; omega) hT3, ?_, ?_, ?_, ?_, ?_, ?_, ?_⟩
          · show pk_x (pb_put y.2.2.2 n y.1) _ n
            unfold pk_x
            rw [XRk, XR2, XRn, hAn2]
            exact ⟨(fun h => by cases h), (fun h => by cases h), (fun h => by cases h), (fun h => by cases h), (fun _ => ⟨c2.1, by omega, rfl⟩), (fun h => by cases h), by decide⟩
          · refine Eq.trans (congrArg (fun v => v.2.1) GR) ?_
            show (G1 n).2.1 = lo
            rw [eR.2]
            exact hlo
          · exact Eq.trans (congrArg (fun v => v.2.2) GR) g6
          · have e1 := congrArg (fun v => v.1) GR
            dsimp only at e1 ⊢
            rw [e1]
            exact hh2
          · show (py_sk y.2.1 y.2.2.1).1.tail.length ≤ q.1.length
            omega
          · show y.2.2.2.1 + (py_sk y.2.1 y.2.2.1).1.tail.length ≤ Bd
            omega
          · show A0 ≤ y.2.2.2.2.2.2.2.length
            omega
        · rw [if_neg c2] at hx
          cases hx
/-- a letter -/
theorem pw_leaf {a0 : Nat} {B : yBp} (h : pw_x a0 B) (hl : B.2.2.1.length < 16) {c : Nat} (hc : c < 26) : pw_x a0 ((pb_open B 0 B.2.2.1.length).1, (pb_open B 0 B.2.2.1.length).2.1, B.2.2.1 ++ [(c, B.1)], B.2.2.2) := by
  have w := pw_new h (0, B.2.2.1.length, none, [], 0)
  obtain ⟨w1, w2, w3, w4, w5, w6, w7⟩ := w
  refine ⟨w1, ?_, w3, w4, ?_, w6, w7⟩
  · show (B.2.2.1 ++ [(c, B.1)]).length ≤ 16
    simp
    omega
  · intro o x hx
    have hx : (B.2.2.1 ++ [(c, B.1)])[o]? = some x := hx
    by_cases e : o < B.2.2.1.length
    · rw [List.getElem?_append_left e] at hx
      exact w5 o x hx
    · have e2 : o = B.2.2.1.length := by
        have := (List.getElem?_eq_some_iff.mp hx).1
        simp at this
        omega
      subst e2
      have ex : x = (c, B.1) := by simpa using hx.symm
      subst ex
      have eX : py_u B.2.1 B.1 (0, B.2.2.1.length, none, [], 0) B.1 = (0, B.2.2.1.length, none, [], 0) := pu_s _ _ _
      refine ⟨h.1, Nat.lt_succ_self _, ?_, ?_, hc⟩
      · exact congrArg (fun v => v.1) eX
      · exact congrArg (fun v => v.2.1) eX
theorem pw_any {a0 : Nat} {B : yBp} (h : pw_x a0 B) (hl : B.2.2.2.2.length < 4) : pw_x a0 ((pb_open B 4 B.2.2.2.2.length).1, (pb_open B 4 B.2.2.2.2.length).2.1, B.2.2.1, B.2.2.2.1, B.2.2.2.2 ++ [B.1]) := by
  have w := pw_new h (4, B.2.2.2.2.length, none, [], 0)
  obtain ⟨w1, w2, w3, w4, w5, w6, w7⟩ := w
  refine ⟨w1, w2, w3, ?_, w5, w6, ?_⟩
  · show (B.2.2.2.2 ++ [B.1]).length ≤ 4
    simp
    omega
  · intro o x hx
    have hx : (B.2.2.2.2 ++ [B.1])[o]? = some x := hx
    by_cases e : o < B.2.2.2.2.length
    · rw [List.getElem?_append_left e] at hx
      exact w7 o x hx
    · have e2 : o = B.2.2.2.2.length := by
        have := (List.getElem?_eq_some_iff.mp hx).1
        simp at this
        omega
      subst e2
      have ex : x = B.1 := by simpa using hx.symm
      subst ex
      have eX : py_u B.2.1 B.1 (4, B.2.2.2.2.length, none, [], 0) B.1 = (4, B.2.2.2.2.length, none, [], 0) := pu_s _ _ _
      refine ⟨h.1, Nat.lt_succ_self _, ?_, ?_⟩
      · exact congrArg (fun v => v.1) eX
      · exact congrArg (fun v => v.2.1) eX
theorem pm_atom {a0 hb : Nat} {inner : Option yIp} (hi : ∀ pat, inner = some pat → pi_ok a0 hb pat) : pi_ok a0 hb (pp_atom inner) := by
  intro q G hw hN x hx
  unfold pp_atom at hx
  have l0 := sk_len q.1 q.2.1
  cases e : (py_sk q.1 q.2.1).1 with
  | nil => rw [e] at hx; cases hx
  | cons c r =>
    rw [e] at hx l0
    dsimp only at hx
    have l1 : r.length + 1 ≤ q.1.length := by simpa using l0
    by_cases c0 : c = 48
    · rw [if_pos c0] at hx
      injection hx with hx
      subst hx
      have eX : (pb_open q.2.2 1 0).2.1 q.2.2.1 = (1, 0, none, [], 0) := pu_s _ _ _
      have eG := pu_s G q.2.2.1 (0, q.2.2.2.2.1.length, q.2.2.2.2.1.length)
      refine ⟨py_u G q.2.2.1 (0, q.2.2.2.2.1.length, q.2.2.2.2.1.length), ⟨?_, ⟨[], by simp [pb_open]⟩, ⟨[], by simp [pb_open]⟩, ⟨[], by simp [pb_open]⟩⟩, pw_new hw _, pt_one eX (by dsimp only; omega) (.inl (by rw [eG])), ?_, congrArg (fun v => v.2.1) eG, congrArg (fun v => v.2.2) eG, ?_, ?_, ?_, Nat.le_refl _⟩
      · intro k hk
        have hk : k < q.2.2.1 := hk
        exact ⟨pu_o _ _ (by omega), pu_o _ _ (by omega)⟩
      · show pk_x (pb_open q.2.2 1 0) _ q.2.2.1
        unfold pk_x
        rw [eX, eG]
        exact ⟨(fun h => by cases h), (fun _ => ⟨rfl, rfl⟩), (fun h => by cases h), (fun h => by cases h), (fun h => by cases h), (fun h => by cases h), by decide⟩
      · have e1 := congrArg (fun v => v.1) eG
        have e2 := congrArg (fun v => v.2.2.2.2) eX
        dsimp only at e1 e2 ⊢
        rw [e1, e2]
        show 0 + q.2.2.2.2.2.2.length ≤ hb + 0 + q.2.2.2.2.2.2.length
        omega
      · show r.length < q.1.length
        omega
      · show q.2.2.1 + 1 + r.length ≤ q.2.2.1 + q.1.length
        omega
    · rw [if_neg c0] at hx
      by_cases c1 : 97 ≤ c ∧ c ≤ 122
      · rw [if_pos c1] at hx
        by_cases c2 : q.2.2.2.2.1.length < 16
        · rw [if_pos c2] at hx
          injection hx with hx
          subst hx
          have eX : (pb_open q.2.2 0 q.2.2.2.2.1.length).2.1 q.2.2.1 = (0, q.2.2.2.2.1.length, none, [], 0) := pu_s _ _ _
          have eG := pu_s G q.2.2.1 (0, q.2.2.2.2.1.length, q.2.2.2.2.1.length + 1)
          refine ⟨py_u G q.2.2.1 (0, q.2.2.2.2.1.length, q.2.2.2.2.1.length + 1), ⟨?_, ⟨[(c - 97, q.2.2.1)], rfl⟩, ⟨[], by simp [pb_open]⟩, ⟨[], by simp [pb_open]⟩⟩, pw_leaf hw c2 (by omega), pt_one eX (by dsimp only; omega) (.inr ⟨rfl, by rw [eG]; exact Nat.le_succ _⟩), ?_, congrArg (fun v => v.2.1) eG, ?_, ?_, ?_, ?_, Nat.le_refl _⟩
          · intro k hk
            have hk : k < q.2.2.1 := hk
            exact ⟨pu_o _ _ (by omega), pu_o _ _ (by omega)⟩
          · show pk_x ((pb_open q.2.2 0 q.2.2.2.2.1.length).1, (pb_open q.2.2 0 q.2.2.2.2.1.length).2.1, q.2.2.2.2.1 ++ [(c - 97, q.2.2.1)], q.2.2.2.2.2) _ q.2.2.1
            unfold pk_x
            dsimp only
            rw [eX, eG]
            exact ⟨(fun _ => ⟨rfl, ⟨c - 97, by simp⟩, rfl, rfl⟩), (fun h => by cases h), (fun h => by cases h), (fun h => by cases h), (fun h => by cases h), (fun h => by cases h), (show 0 ≤ 5 by decide)⟩
          · refine Eq.trans (congrArg (fun v => v.2.2) eG) ?_
            show q.2.2.2.2.1.length + 1 = (q.2.2.2.2.1 ++ [(c - 97, q.2.2.1)]).length
            simp
          · have e1 := congrArg (fun v => v.1) eG
            have e2 := congrArg (fun v => v.2.2.2.2) eX
            dsimp only at e1 e2 ⊢
            rw [e1, e2]
            show 0 + q.2.2.2.2.2.2.length ≤ hb + 0 + q.2.2.2.2.2.2.length
            omega
          · show r.length < q.1.length
            omega
          · show q.2.2.1 + 1 + r.length ≤ q.2.2.1 + q.1.length
            omega
        · rw [if_neg c2] at hx
          cases hx
      · rw [if_neg c1] at hx
        cases ei : inner with
        | none => rw [ei] at hx; cases hx
        | some pat =>
          rw [ei] at hx
          dsimp only at hx
          have hp := hi pat ei
          by_cases c3 : c = 40
          · rw [if_pos c3] at hx
            cases e2 : pat (r, (py_sk q.1 q.2.1).2 + 1, q.2.2) with
            | error t => rw [e2] at hx; cases hx
            | ok y =>
              rw [e2] at hx
              dsimp only at hx
              obtain ⟨G1, g1, g2, g3, g4, g5, g6, g7, g8, g9, g10⟩ := hp (r, (py_sk q.1 q.2.1).2 + 1, q.2.2) G hw (by dsimp only; omega) y e2
              dsimp only at g1 g2 g3 g4 g5 g6 g7 g8 g9 g10
              cases e3 : pp_sgn 41 y.2.1 y.2.2.1 with
              | error t => rw [e3] at hx; cases hx
              | ok z =>
                rw [e3] at hx
                dsimp only at hx
                injection hx with hx
                subst hx
                have l2 := sgn_len e3
                refine ⟨G1, g1, g2, pt_ext (px_refl _ _ _) (Nat.le_of_lt l2) g3, g4, g5, g6, g7, ?_, ?_, g10⟩
                · show z.1.length < q.1.length
                  omega
                · show y.2.2.2.1 + z.1.length ≤ q.2.2.1 + q.1.length
                  omega
          · rw [if_neg c3] at hx
            by_cases c4 : c = 91 ∧ q.2.2.2.2.2.2.length < 4
            · rw [if_pos c4] at hx
              have eX : (pb_open q.2.2 4 q.2.2.2.2.2.2.length).2.1 q.2.2.1 = (4, q.2.2.2.2.2.2.length, none, [], 0) := pu_s _ _ _
              have eG := pu_s G q.2.2.1 (0, q.2.2.2.2.1.length, q.2.2.2.2.1.length)
              obtain ⟨m1, G2, m2, m3, m4, m5, m6, m7, m8, m9, m10, m11⟩ := pm_any (n := q.2.2.1) (nb := q.2.2.2.2.2.2.length) (A0 := q.2.2.2.2.2.2.length) (lo := q.2.2.2.2.1.length) (Bd := q.2.2.1 + q.1.length) hp hN 5 0 (r, (py_sk q.1 q.2.1).2 + 1, ((pb_open q.2.2 4 q.2.2.2.2.2.2.length).1, (pb_open q.2.2 4 q.2.2.2.2.2.2.length).2.1, q.2.2.2.2.1, q.2.2.2.2.2.1, q.2.2.2.2.2.2 ++ [q.2.2.1])) (py_u G q.2.2.1 (0, q.2.2.2.2.1.length, q.2.2.2.2.1.length)) q.2.2.1 (pw_any hw c4.2)
                (by show q.2.2.1 + 1 + r.length ≤ q.2.2.1 + q.1.length; omega) (Nat.le_succ _) (pt_one eX (by dsimp only; omega) (.inl (by rw [eG]))) (congrArg (fun v => v.1) eX) (congrArg (fun v => v.2.1) eX)
                (by show (q.2.2.2.2.2.2 ++ [q.2.2.1])[q.2.2.2.2.2.2.length]? = some q.2.2.1; simp) (congrArg (fun v => v.2.2.2.1.length) eX) (by decide) (congrArg (fun v => v.2.1) eG) (congrArg (fun v => v.2.2) eG)
                (by
                  have e1 := congrArg (fun v => v.1) eG
                  dsimp only at e1 ⊢
                  rw [e1]
                  show 0 + q.2.2.2.2.2.2.length ≤ _ + (q.2.2.2.2.2.2 ++ [q.2.2.1]).length
                  simp
                  omega)
                (by show q.2.2.2.2.2.2.length + 1 ≤ (q.2.2.2.2.2.2 ++ [q.2.2.1]).length; simp) x hx
              refine ⟨G2, ?_, m3, by rw [m1]; exact m4, by rw [m1]; exact m5, by rw [m1]; exact m6, by rw [m1]; exact m7, by rw [m1]; exact m8, by dsimp only at m9; omega, m10, m11⟩
              refine px_tr (B' := ((pb_open q.2.2 4 q.2.2.2.2.2.2.length).1, (pb_open q.2.2 4 q.2.2.2.2.2.2.length).2.1, q.2.2.2.2.1, q.2.2.2.2.2.1, q.2.2.2.2.2.2 ++ [q.2.2.1])) (G' := py_u G q.2.2.1 (0, q.2.2.2.2.1.length, q.2.2.2.2.1.length)) (D' := fun k => k < q.2.2.1) ⟨?_, ⟨[], by simp⟩, ⟨[], by simp⟩, ⟨[q.2.2.1], rfl⟩⟩ m2 (fun k hk => hk)
              intro k hk
              have hk : k < q.2.2.1 := hk
              exact ⟨pu_o _ _ (by omega), pu_o _ _ (by omega)⟩
            · rw [if_neg c4] at hx
              cases hx
theorem pm_pat (a0 : Nat) : ∀ m, pi_ok a0 (2 * (m + 1)) (pp_pat m) := by
  intro m
  induction m with
  | zero => exact pm_join (pm_join (pm_unit (pm_atom (hb := 0) (fun pat h => by cases h))) (.inl rfl)) (.inr rfl)
  | succ m ih =>
    refine pm_join (pm_join (pm_unit (pm_atom (hb := 2 * (m + 1)) ?_)) (.inl rfl)) (.inr rfl)
    intro pat h
    injection h with h
    rw [← h]
    exact ih
