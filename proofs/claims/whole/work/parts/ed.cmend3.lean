/-! THE CLASS: mend -/
def py_m1 (P : yP) (ls : List Nat) : Nat := min ((py_rn P ls py_s00).1.length + 1) ls.length
def py_cm2 (P : yP) (ls : List Nat) : Option yE := match (List.range' 0 (py_m1 P ls)).find? (fun k => py_wf P (ls.drop (k + 1)) (py_at P ls k)) with
  | some k => some (1, k, 0)
  | none => match py_pk P ls 2 (zor (py_ll P)) 0 ((py_rn P ls py_s00).1.length + 1) with
    | some x => some (2, x.1, x.2)
    | none => match py_pk P ls 3 (zor (py_ll P)) 0 (py_m1 P ls) with
      | some x => some (3, x.1, x.2)
      | none => none
def re_m (M : zM) (re : Nat) (e : Option (Option yE)) : Prop := match e with
  | none => zm_I M 4 re 13 = -1 ∧ zm_I M 4 re 14 = -1 ∧ zm_I M 4 re 15 = -1
  | some none => zm_I M 4 re 13 = 0 ∧ zm_I M 4 re 14 = -1 ∧ zm_I M 4 re 15 = -1
  | some (some e) => zm_I M 4 re 13 = nI e.1 ∧ zm_I M 4 re 14 = nI e.2.1 ∧ zm_I M 4 re 15 = if e.1 = 1 then -1 else nI e.2.2
section
variable {M M' : zM} {pa : Nat → Nat} {P : yP} {d wk re Q B n : Nat} {s : yS} {ls : List Nat} {g : List (Nat × Option Nat)}
theorem min_v {len n0 : Nat} (hl : len ≤ 24) (h0 : n0 ≤ len) {x : Int32} (hx : x = if nI len - 1 < nI n0 then nI len - 1 else nI n0) : ∀ i, i ≤ 25 → (x < nI i ↔ min (n0 + 1) len ≤ i) := by
  intro i hi
  cases len with
  | zero =>
    have : n0 = 0 := by omega
    subst this
    have e : x = -1 := by rw [hx]; decide
    rw [e]
    have key : ∀ i : Fin 26, (-1 : Int32) < nI i.val := by decide +kernel
    constructor
    · intro _; omega
    · intro _; exact key ⟨i, by omega⟩
  | succ m =>
    have key : ∀ m : Fin 25, nI (m.val + 1) - 1 = nI m.val := by decide +kernel
    have hk : nI (m + 1) - 1 = nI m := key ⟨m, by omega⟩
    rw [hk] at hx
    by_cases q : m < n0
    · rw [if_pos ((lt_i2 (by omega) (by omega)).mpr q)] at hx
      rw [hx, lt_i2 (by omega) (by omega)]
      omega
    · rw [if_neg (fun y => q ((lt_i2 (by omega) (by omega)).mp y))] at hx
      rw [hx, lt_i2 (by omega) (by omega)]
      omega
theorem cl_mend_82 (hP : py_ok P) (hd : 4 ≤ d) (hls : ls.length ≤ 24) (h26 : ∀ x, x ∈ ls → x < 26) (h : md_s M pa Q P wk re ls g (py_rn P ls py_s00).1.length) : ∃ M', re_mend_82 d re (some Q) (some wk) (nI (py_rn P ls py_s00).1.length) M = some M' ∧ re_m M' re ((py_cm2 P ls).map some) ∧ zr (mw_W2 wk re) M M' := by
  have h0 : (py_rn P ls py_s00).1.length ≤ ls.length := rn_le ls py_s00
  have hm1 : py_m1 P ls ≤ ls.length := Nat.min_le_right _ _
  have hm2 : py_m1 P ls ≤ (py_rn P ls py_s00).1.length + 1 := Nat.min_le_left _ _
  obtain ⟨x, hx⟩ : ∃ x, x = if nI ls.length - 1 < nI (py_rn P ls py_s00).1.length then nI ls.length - 1 else nI (py_rn P ls py_s00).1.length := ⟨_, rfl⟩
  have hv := min_v hls h0 hx
  have hv2 : ∀ i, i ≤ 25 → (nI (py_rn P ls py_s00).1.length < nI i ↔ (py_rn P ls py_s00).1.length + 1 ≤ i) := fun i hi => lt_i2 (by omega) (by omega)
  obtain ⟨M1, a1, a2, a3, a4⟩ := cl_leaveOut (d := d) (v3 := x) hP hd hls h26 hm1 hm2 (fun i hi => hv i (by omega)) h
  unfold re_mend_82 py_cm2
  rw [h.2.2.2.2.1.2.1, ← hx]
  simp only [zlet, a1, Option.bind_some]
  cases f1 : (List.range' 0 (py_m1 P ls)).find? (fun k => py_wf P (ls.drop (k + 1)) (py_at P ls k)) with
  | some k =>
    rw [if_neg (show ¬ zb (some k).isSome = 0 by show ¬ zb true = 0; decide)]
    obtain ⟨b1, b2, b3⟩ := a2 k f1
    exact ⟨M1, rfl, ⟨b1, b2, b3⟩, a4⟩
  | none =>
    rw [if_pos (show zb (none : Option Nat).isSome = 0 from rfl)]
    obtain ⟨M2, c1, c2, c3, c4⟩ := cl_putIn (d := d) (kind := 2) (v3 := nI (py_rn P ls py_s00).1.length) hP hd hls h26 (.inl rfl) (Nat.le_refl _) (show (py_rn P ls py_s00).1.length + 1 ≤ ls.length + 1 by omega) hv2 (a3 f1)
    have c1 : re_putIn d re (some Q) (some wk) (nI (py_rn P ls py_s00).1.length) 2 M1 = some (zb (py_pk P ls 2 (zor (py_ll P)) 0 ((py_rn P ls py_s00).1.length + 1)).isSome, M2) := c1
    rw [c1, Option.bind_some]
    simp only
    cases f2 : py_pk P ls 2 (zor (py_ll P)) 0 ((py_rn P ls py_s00).1.length + 1) with
    | some y =>
      rw [if_neg (show ¬ zb (some y).isSome = 0 by show ¬ zb true = 0; decide)]
      obtain ⟨b1, b2, b3⟩ := c3 y f2
      exact ⟨M2, rfl, ⟨b1, b2, b3⟩, zr_trans a4 c4⟩
    | none =>
      rw [if_pos (show zb (none : Option (Nat × Nat)).isSome = 0 from rfl)]
      obtain ⟨M3, d1, d2, d3, d4⟩ := cl_putIn (d := d) (kind := 3) (v3 := x) hP hd hls h26 (.inr rfl) hm2 (show py_m1 P ls ≤ ls.length + 0 by omega) hv (c2 f2)
      have d1 : re_putIn d re (some Q) (some wk) x 3 M2 = some (zb (py_pk P ls 3 (zor (py_ll P)) 0 (py_m1 P ls)).isSome, M3) := d1
      rw [d1, Option.bind_some]
      simp only
      cases f3 : py_pk P ls 3 (zor (py_ll P)) 0 (py_m1 P ls) with
      | some y =>
        rw [if_neg (show ¬ zb (some y).isSome = 0 by show ¬ zb true = 0; decide)]
        obtain ⟨b1, b2, b3⟩ := d3 y f3
        exact ⟨M3, rfl, ⟨b1, b2, b3⟩, zr_trans a4 (zr_trans c4 d4)⟩
      | none =>
        rw [if_pos (show zb (none : Option (Nat × Nat)).isSome = 0 from rfl)]
        obtain ⟨M4, e1, e2, e3, e4, e5⟩ := cl_setMend (d := d) (re := re) (M := M3) (a := -1) (b := -1) (c := -1)
        rw [e1, Option.bind_some]
        exact ⟨M4, rfl, ⟨e2, e3, e4⟩, zr_trans a4 (zr_trans c4 (zr_trans d4 (zr_mono (zr_zf e5) (fun t k j w => .inr w))))⟩
end
