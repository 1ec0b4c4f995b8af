/-! THE CLASS: a rule that is read and learned, its ways -/
def cX (M : zM) (pa : Nat → Nat) (Q : Nat) (P : yP) : Prop := cN_x M pa P ∧ (∀ m, py_dm P m → ca_n M pa P m) ∧ cR_x M pa Q P ∧ cA_x M Q P
def wS (M : zM) (pa : Nat → Nat) (Q : Nat) (P : yP) (wy : Nat) : Prop := cX M pa Q P ∧ wy_l M wy ∧ Q + 10 ≤ wy
section
variable {M M' : zM} {pa : Nat → Nat} {P : yP} {d wy Q : Nat}
theorem cX_zf {W : Nat → Nat → Nat → Prop} (h : cX M pa Q P) (hf : zf W M M') (h3 : ∀ k j, ¬ W 3 k j) (h21 : ∀ k j, ¬ W 21 k j) (h5 : ∀ j, j ≤ 4 → ¬ W 5 Q j) (h20 : ∀ i j, i ≤ 9 → ¬ W 20 (Q + i) j) : cX M' pa Q P := by
  obtain ⟨a1, a2, a3, a4⟩ := h
  refine ⟨cN_zf a1 hf (fun k j _ => h3 k j), fun m hm => ca_zfs (a2 m hm) hf (fun j _ => h3 _ j) (fun j => h21 _ j), cR_zf a3 hf h5 (fun j => ⟨h20 1 j (by omega), h20 5 j (by omega), h20 6 j (by omega)⟩), ?_, ?_⟩
  · intro c hc
    rw [hf.2.2.2.2.2.2 20 (Q + 7) c (h20 7 c (by omega))]
    exact a4.1 c hc
  · intro o ho
    rw [hf.2.2.2.2.2.2 20 (Q + 3) o (h20 3 o (by omega)), hf.2.2.2.2.2.2 20 (Q + 4) o (h20 4 o (by omega))]
    exact a4.2 o ho
theorem wS_zf (h : wS M pa Q P wy) (hf : zf (wy_W wy) M M') : wS M' pa Q P wy := by
  have hq := h.2.2
  refine ⟨cX_zf h.1 hf ?_ ?_ ?_ ?_, wl_zf h.2.1 hf, hq⟩
  · rintro k j (⟨e, _⟩ | ⟨e, _⟩) <;> cases e
  · rintro k j (⟨e, _⟩ | ⟨e, _⟩) <;> cases e
  · rintro j _ (⟨e, _⟩ | ⟨e, _⟩) <;> cases e
  · rintro i j hi (⟨e, _⟩ | ⟨_, e, _⟩)
    · cases e
    · omega
theorem fl_16 (hP : py_ok P) (c : Nat) : (List.range' 0 16).filter (fun q => (py_fl P c).contains q) = py_fl P c := by
  have hn := ok_nl hP
  have e : List.range' 0 16 = List.range' 0 (py_nl P) ++ List.range' (py_nl P) (16 - py_nl P) := by
    have := List.range'_append (s := 0) (m := py_nl P) (n := 16 - py_nl P) (step := 1)
    rw [Nat.one_mul, Nat.zero_add, show py_nl P + (16 - py_nl P) = 16 by omega] at this
    exact this.symm
  have hm : ∀ q, q ∈ py_fl P c ↔ q < py_nl P ∧ py_fx P c (py_lf P q) = true := by
    intro q
    unfold py_fl
    rw [List.mem_filter, List.mem_range'_1]
    constructor
    · rintro ⟨h1, h2⟩; exact ⟨by omega, h2⟩
    · rintro ⟨h1, h2⟩; exact ⟨by omega, h2⟩
  rw [e, List.filter_append]
  have e2 : (List.range' (py_nl P) (16 - py_nl P)).filter (fun q => (py_fl P c).contains q) = [] := by
    rw [List.filter_eq_nil_iff]
    intro q hq hx
    rw [List.mem_range'_1] at hq
    have := (hm q).mp (by simpa using hx)
    omega
  rw [e2, List.append_nil]
  show _ = (List.range' 0 (py_nl P)).filter (fun q => py_fx P c (py_lf P q))
  refine List.filter_congr ?_
  intro q hq
  rw [List.mem_range'_1] at hq
  have := hm q
  by_cases g : py_fx P c (py_lf P q) = true
  · rw [g]
    simpa using this.mpr ⟨by omega, g⟩
  · have g2 : py_fx P c (py_lf P q) = false := by simpa using g
    rw [g2]
    have : ¬ q ∈ py_fl P c := fun x => g (this.mp x).2
    simpa using this
theorem fl_lt (hP : py_ok P) {c q : Nat} (hq : q ∈ py_fl P c) : q < 16 := by
  have hn := ok_nl hP
  unfold py_fl at hq
  rw [List.mem_filter, List.mem_range'_1] at hq
  omega
theorem zLF_16 : 17 < zLF := by have := zLF_402; omega
/-- the ways into a node -/
theorem cl_put (hP : py_ok P) {c : Nat} {a b : Option Nat} {ah : Int32} {l : List yK} (hb : ∀ x, b = some x → x < 8) (hw : wy_l M wy) (hl : wk_h M wy l) (hlen : l.length + (py_il P a c b).length ≤ 48) : ∃ M', wy_put d wy (zor (py_fl P c)) (zo b) ah M = some M' ∧ wk_h M' wy (l ++ (py_il P a c b).map (fun W => (W, zm_I M 9 wy 5, zm_I M 9 wy 6, ah))) ∧ zf (wy_W wy) M M' ∧ zm_I M' 9 wy 5 = zm_I M 9 wy 5 ∧ zm_I M' 9 wy 6 = zm_I M 9 wy 6 := by
  have e := fl_16 hP c
  have hlen2 : l.length + (py_fl P c).length ≤ 48 := by
    unfold py_il at hlen
    rw [List.length_map] at hlen
    exact hlen
  have := zLF_16
  obtain ⟨M', g1, g2, g3⟩ := cl_put_3 (d := d) (wy := wy) (L := py_fl P c) (b := b) (ah := ah) (mk := fun q => (q, b, a, c)) (fun q hq => fl_lt hP hq) (fun q => ⟨rfl, rfl⟩) hb 16 0 M l (by omega) hw hl (by rw [e]; exact hlen2) zLF (by omega)
  refine ⟨M', g1, ?_, g3⟩
  rw [e] at g2
  unfold py_il
  rw [List.map_map]
  exact g2
theorem cX_nu (h : cX M pa Q P) {c : Nat} (hc : py_dm P c) : zm_I M 3 (pa c) 8 = zb (py_nu P c) := (h.2.1 c hc).1
theorem cX_fl (h : cX M pa Q P) {c : Nat} (hc : py_dm P c) : zm_I M 3 (pa c) 9 = zor (py_fl P c) := (h.2.1 c hc).2.1
theorem cl_wrow_5 (hP : py_ok P) {p : Nat} (hp : py_dm P p) : ∀ (b a : List Nat) (M : zM) (l : List yK), py_ks P p = a ++ b → wS M pa Q P wy → wk_h M wy l → l.length + (py_rw P p b).length ≤ 48 → ∀ fuel, b.length < fuel → ∃ M', wy_leaveInRow_5 d fuel wy (b.head?.map pa) M = some (zb (b.all (py_nu P)), M') ∧ wk_h M' wy (l ++ (py_rw P p b).map (fun W => (W, zm_I M 9 wy 5, zm_I M 9 wy 6, 0))) ∧ zf (wy_W wy) M M' ∧ zm_I M' 9 wy 5 = zm_I M 9 wy 5 ∧ zm_I M' 9 wy 6 = zm_I M 9 wy 6 := by
  intro b
  induction b with
  | nil =>
    intro a M l e h hl hlen fuel hf
    cases fuel with
    | zero => cases hf
    | succ fuel =>
      refine ⟨M, ?_, by simpa [py_rw] using hl, zf_refl _ _, rfl, rfl⟩
      simp only [List.head?_nil, Option.map_none, wy_leaveInRow_5]
      rfl
  | cons c b ih =>
    intro a M l e h hl hlen fuel hf
    cases fuel with
    | zero => cases hf
    | succ fuel =>
      have hc : c ∈ py_ks P p := by rw [e]; simp
      have hcd := ok_kid hP hp hc
      unfold py_rw at hlen
      rw [List.length_append] at hlen
      obtain ⟨M1, g1, g2, g3, g4, g5⟩ := cl_put (d := d) hP (c := c) (a := some p) (b := none) (ah := 0) (fun x hx => by cases hx) h.2.1 hl (by omega)
      have h1 := wS_zf h g3
      have en : zm_I M1 3 (pa c) 8 = zb (py_nu P c) := cX_nu h1.1 hcd
      have ex : zm_R M1 3 (pa c) 7 = b.head?.map pa := cN_nx h1.1.1 hp e
      have eo : (-1 : Int32) = zo none := rfl
      simp only [List.head?_cons, Option.map_some, wy_leaveInRow_5, cX_fl h.1 hcd, eo, g1, Option.bind_some, en, ex]
      rw [List.all_cons]
      unfold py_rw
      cases hnu : py_nu P c
      · refine ⟨M1, by rw [if_pos (show zb false = 0 from rfl)]; rfl, ?_, g3, g4, g5⟩
        simpa using g2
      · rw [if_neg (show ¬ zb true = 0 by decide), if_pos rfl]
        rw [hnu, if_pos rfl] at hlen
        obtain ⟨M', k1, k2, k3, k4, k5⟩ := ih (a ++ [c]) M1 _ (by rw [e]; simp) h1 g2 (by rw [List.length_append, List.length_map]; omega) fuel (by simp at hf; omega)
        refine ⟨M', k1, ?_, zf_trans g3 k3, k4.trans g4, k5.trans g5⟩
        rw [g4, g5, List.append_assoc, ← List.map_append] at k2
        exact k2
theorem rw_ah (hP : py_ok P) {p : Nat} (hk : py_kd P p ≠ 4) : ∀ (b : List Nat) (W : yW), W ∈ py_rw P p b → py_ah1 P W = 0 := by
  intro b
  induction b with
  | nil => intro W hW; cases hW
  | cons c b ih =>
    intro W hW
    unfold py_rw at hW
    rw [List.mem_append] at hW
    rcases hW with hW | hW
    · unfold py_il at hW
      obtain ⟨q, _, rfl⟩ := List.mem_map.mp hW
      show (if py_kd P p = 4 then _ else (0 : Int32)) = 0
      rw [if_neg hk]
    · split at hW
      · exact ih W hW
      · cases hW
theorem il_ah {a c : Nat} {b : Option Nat} {W : yW} (hW : W ∈ py_il P (some a) c b) : py_ah1 P W = if py_kd P a = 4 then zbit (4 * py_nb P a + (py_bf (py_ks P a) c).length) else 0 := by
  unfold py_il at hW
  obtain ⟨q, _, rfl⟩ := List.mem_map.mp hW
  rfl
end
