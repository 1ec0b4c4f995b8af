/-! THE RULES' text: a node is put behind the last one within another -/
/-- the place behind those -/
def py_lp (pl : Nat) : List Nat → Nat
  | [] => pl
  | c :: l => py_lp (6 * c + 4) l
section
variable {am d : Nat} {M : zM}
theorem mr_puts_53 (v : Int32) (hl : ml_ok am M) : ∀ (suf : List Nat) (pl : Nat), pl < 7200 → zm_I M 20 (am + 3) pl = zo suf.head? → (∀ i c, suf[i]? = some c → c < 1200 ∧ zm_I M 20 (am + 3) (6 * c + 4) = zo suf[i + 1]?) → ∀ fuel, suf.length < fuel → mo_puts_53 d fuel am v (nI pl) M = some (zm_setI M 20 (am + 3) (py_lp pl suf) v) := by
  intro suf
  induction suf with
  | nil =>
    intro pl hp hc hn fuel hf
    cases fuel with
    | zero => cases hf
    | succ fuel =>
      have hz : z_in (nI pl) 7200 := nI_in (by omega) (by omega)
      have hc' : zm_I M 20 (am + 3) pl = -1 := hc
      simp only [mo_puts_53, ml_R6 hl, ml_L6 hl, if_pos hz, nI_clamp (show pl < 2 ^ 31 by omega), hc', if_true, zlet, py_lp]
  | cons c suf ih =>
    intro pl hp hc hn fuel hf
    cases fuel with
    | zero => cases hf
    | succ fuel =>
      have hz : z_in (nI pl) 7200 := nI_in (by omega) (by omega)
      have hc' : zm_I M 20 (am + 3) pl = nI c := hc
      have h0 := hn 0 c rfl
      have hc1 := h0.1
      have hne : ¬ nI c = -1 := pb_ne1 (by omega)
      have e4 : 6 * nI c + 4 = nI (6 * c + 4) := mx_6 c 4
      have hh : zm_I M 20 (am + 3) (6 * c + 4) = zo suf.head? := by
        rw [h0.2]
        cases suf with
        | nil => rfl
        | cons x s => rfl
      have g := ih (6 * c + 4) (by omega) hh (fun i x hx => hn (i + 1) x hx) fuel (by simp at hf; omega)
      simp only [mo_puts_53, ml_R6 hl, ml_L6 hl, if_pos hz, nI_clamp (show pl < 2 ^ 31 by omega), hc', if_neg hne, zlet, e4, g]
      rfl
end
