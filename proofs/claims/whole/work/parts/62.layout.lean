/-! THE MODEL'S LAYOUT: its rows lie one behind another (by program, wip/whole/gen2/layout.py) -/
def ml_ok (am : Nat) (M : zM) : Prop :=
  (zm_R M 12 am 1 = some (am + 1) ∧ zm_L M 22 (am + 1) = 400) ∧
  (zm_R M 12 am 5 = some (am + 2) ∧ zm_L M 20 (am + 2) = 7200) ∧
  (zm_R M 12 am 6 = some (am + 3) ∧ zm_L M 20 (am + 3) = 7200) ∧
  (zm_R M 12 am 7 = some (am + 4) ∧ zm_L M 20 (am + 4) = 40) ∧
  (zm_R M 12 am 8 = some (am + 5) ∧ zm_L M 20 (am + 5) = 40) ∧
  (zm_R M 12 am 9 = some (am + 6) ∧ zm_L M 20 (am + 6) = 192) ∧
  (zm_R M 12 am 10 = some (am + 7) ∧ zm_L M 20 (am + 7) = 192) ∧
  (zm_R M 12 am 11 = some (am + 8) ∧ zm_L M 20 (am + 8) = 256) ∧
  (zm_R M 12 am 12 = some (am + 9) ∧ zm_L M 20 (am + 9) = 256) ∧
  (zm_R M 12 am 13 = some (am + 10) ∧ zm_L M 20 (am + 10) = 32) ∧
  (zm_R M 12 am 14 = some (am + 11) ∧ zm_L M 20 (am + 11) = 32) ∧
  (zm_R M 12 am 18 = some (am + 12) ∧ zm_L M 20 (am + 12) = 240) ∧
  (zm_R M 12 am 19 = some (am + 13) ∧ zm_L M 20 (am + 13) = 240) ∧
  (zm_R M 12 am 22 = some (am + 14) ∧ zm_L M 20 (am + 14) = 128) ∧
  (zm_R M 12 am 23 = some (am + 15) ∧ zm_L M 20 (am + 15) = 128) ∧
  (zm_R M 12 am 24 = some (am + 16) ∧ zm_L M 20 (am + 16) = 128) ∧
  (zm_R M 12 am 25 = some (am + 17) ∧ zm_L M 20 (am + 17) = 128) ∧
  (zm_R M 12 am 27 = some (am + 18) ∧ zm_L M 22 (am + 18) = 12000) ∧
  (zm_R M 12 am 29 = some (am + 19) ∧ zm_L M 20 (am + 19) = 320) ∧
  (zm_R M 12 am 30 = some (am + 20) ∧ zm_L M 20 (am + 20) = 320) ∧
  (zm_R M 12 am 32 = some (am + 21) ∧ zm_L M 20 (am + 21) = 7) ∧
  (zm_R M 12 am 33 = some (am + 22) ∧ zm_L M 22 (am + 22) = 12000) ∧
  (zm_R M 12 am 34 = some (am + 23) ∧ zm_L M 20 (am + 23) = 208) ∧
  (zm_R M 12 am 37 = some (am + 24) ∧ zm_L M 20 (am + 24) = 26) ∧
  (zm_R M 12 am 38 = some (am + 25) ∧ zm_L M 20 (am + 25) = 26) ∧
  (zm_R M 12 am 39 = some (am + 26) ∧ zm_L M 20 (am + 26) = 26) ∧
  (zm_R M 12 am 48 = some (am + 27) ∧ zm_L M 20 (am + 27) = 24) ∧
  (zm_R M 12 am 49 = some (am + 28) ∧ zm_L M 20 (am + 28) = 24) ∧
  (zm_R M 12 am 50 = some (am + 29) ∧ zm_L M 20 (am + 29) = 24) ∧
  (zm_R M 12 am 51 = some (am + 30) ∧ zm_L M 20 (am + 30) = 13) ∧
  (zm_R M 12 am 52 = some (am + 31) ∧ zm_L M 20 (am + 31) = 26) ∧
  (zm_R M 12 am 56 = some (am + 32) ∧ zm_L M 20 (am + 32) = 4) ∧
  (zm_R M 12 am 60 = some (am + 33) ∧ zm_L M 20 (am + 33) = 300)
theorem ml_R1 {am : Nat} {M : zM} (h : ml_ok am M) : zm_R M 12 am 1 = some (am + 1) := h.1.1
theorem ml_L1 {am : Nat} {M : zM} (h : ml_ok am M) : zm_L M 22 (am + 1) = 400 := h.1.2
theorem ml_R5 {am : Nat} {M : zM} (h : ml_ok am M) : zm_R M 12 am 5 = some (am + 2) := h.2.1.1
theorem ml_L5 {am : Nat} {M : zM} (h : ml_ok am M) : zm_L M 20 (am + 2) = 7200 := h.2.1.2
theorem ml_R6 {am : Nat} {M : zM} (h : ml_ok am M) : zm_R M 12 am 6 = some (am + 3) := h.2.2.1.1
theorem ml_L6 {am : Nat} {M : zM} (h : ml_ok am M) : zm_L M 20 (am + 3) = 7200 := h.2.2.1.2
theorem ml_R7 {am : Nat} {M : zM} (h : ml_ok am M) : zm_R M 12 am 7 = some (am + 4) := h.2.2.2.1.1
theorem ml_L7 {am : Nat} {M : zM} (h : ml_ok am M) : zm_L M 20 (am + 4) = 40 := h.2.2.2.1.2
theorem ml_R8 {am : Nat} {M : zM} (h : ml_ok am M) : zm_R M 12 am 8 = some (am + 5) := h.2.2.2.2.1.1
theorem ml_L8 {am : Nat} {M : zM} (h : ml_ok am M) : zm_L M 20 (am + 5) = 40 := h.2.2.2.2.1.2
theorem ml_R9 {am : Nat} {M : zM} (h : ml_ok am M) : zm_R M 12 am 9 = some (am + 6) := h.2.2.2.2.2.1.1
theorem ml_L9 {am : Nat} {M : zM} (h : ml_ok am M) : zm_L M 20 (am + 6) = 192 := h.2.2.2.2.2.1.2
theorem ml_R10 {am : Nat} {M : zM} (h : ml_ok am M) : zm_R M 12 am 10 = some (am + 7) := h.2.2.2.2.2.2.1.1
theorem ml_L10 {am : Nat} {M : zM} (h : ml_ok am M) : zm_L M 20 (am + 7) = 192 := h.2.2.2.2.2.2.1.2
theorem ml_R11 {am : Nat} {M : zM} (h : ml_ok am M) : zm_R M 12 am 11 = some (am + 8) := h.2.2.2.2.2.2.2.1.1
theorem ml_L11 {am : Nat} {M : zM} (h : ml_ok am M) : zm_L M 20 (am + 8) = 256 := h.2.2.2.2.2.2.2.1.2
theorem ml_R12 {am : Nat} {M : zM} (h : ml_ok am M) : zm_R M 12 am 12 = some (am + 9) := h.2.2.2.2.2.2.2.2.1.1
theorem ml_L12 {am : Nat} {M : zM} (h : ml_ok am M) : zm_L M 20 (am + 9) = 256 := h.2.2.2.2.2.2.2.2.1.2
theorem ml_R13 {am : Nat} {M : zM} (h : ml_ok am M) : zm_R M 12 am 13 = some (am + 10) := h.2.2.2.2.2.2.2.2.2.1.1
theorem ml_L13 {am : Nat} {M : zM} (h : ml_ok am M) : zm_L M 20 (am + 10) = 32 := h.2.2.2.2.2.2.2.2.2.1.2
theorem ml_R14 {am : Nat} {M : zM} (h : ml_ok am M) : zm_R M 12 am 14 = some (am + 11) := h.2.2.2.2.2.2.2.2.2.2.1.1
theorem ml_L14 {am : Nat} {M : zM} (h : ml_ok am M) : zm_L M 20 (am + 11) = 32 := h.2.2.2.2.2.2.2.2.2.2.1.2
theorem ml_R18 {am : Nat} {M : zM} (h : ml_ok am M) : zm_R M 12 am 18 = some (am + 12) := h.2.2.2.2.2.2.2.2.2.2.2.1.1
theorem ml_L18 {am : Nat} {M : zM} (h : ml_ok am M) : zm_L M 20 (am + 12) = 240 := h.2.2.2.2.2.2.2.2.2.2.2.1.2
theorem ml_R19 {am : Nat} {M : zM} (h : ml_ok am M) : zm_R M 12 am 19 = some (am + 13) := h.2.2.2.2.2.2.2.2.2.2.2.2.1.1
theorem ml_L19 {am : Nat} {M : zM} (h : ml_ok am M) : zm_L M 20 (am + 13) = 240 := h.2.2.2.2.2.2.2.2.2.2.2.2.1.2
theorem ml_R22 {am : Nat} {M : zM} (h : ml_ok am M) : zm_R M 12 am 22 = some (am + 14) := h.2.2.2.2.2.2.2.2.2.2.2.2.2.1.1
theorem ml_L22 {am : Nat} {M : zM} (h : ml_ok am M) : zm_L M 20 (am + 14) = 128 := h.2.2.2.2.2.2.2.2.2.2.2.2.2.1.2
theorem ml_R23 {am : Nat} {M : zM} (h : ml_ok am M) : zm_R M 12 am 23 = some (am + 15) := h.2.2.2.2.2.2.2.2.2.2.2.2.2.2.1.1
theorem ml_L23 {am : Nat} {M : zM} (h : ml_ok am M) : zm_L M 20 (am + 15) = 128 := h.2.2.2.2.2.2.2.2.2.2.2.2.2.2.1.2
theorem ml_R24 {am : Nat} {M : zM} (h : ml_ok am M) : zm_R M 12 am 24 = some (am + 16) := h.2.2.2.2.2.2.2.2.2.2.2.2.2.2.2.1.1
theorem ml_L24 {am : Nat} {M : zM} (h : ml_ok am M) : zm_L M 20 (am + 16) = 128 := h.2.2.2.2.2.2.2.2.2.2.2.2.2.2.2.1.2
theorem ml_R25 {am : Nat} {M : zM} (h : ml_ok am M) : zm_R M 12 am 25 = some (am + 17) := h.2.2.2.2.2.2.2.2.2.2.2.2.2.2.2.2.1.1
theorem ml_L25 {am : Nat} {M : zM} (h : ml_ok am M) : zm_L M 20 (am + 17) = 128 := h.2.2.2.2.2.2.2.2.2.2.2.2.2.2.2.2.1.2
theorem ml_R27 {am : Nat} {M : zM} (h : ml_ok am M) : zm_R M 12 am 27 = some (am + 18) := h.2.2.2.2.2.2.2.2.2.2.2.2.2.2.2.2.2.1.1
theorem ml_L27 {am : Nat} {M : zM} (h : ml_ok am M) : zm_L M 22 (am + 18) = 12000 := h.2.2.2.2.2.2.2.2.2.2.2.2.2.2.2.2.2.1.2
theorem ml_R29 {am : Nat} {M : zM} (h : ml_ok am M) : zm_R M 12 am 29 = some (am + 19) := h.2.2.2.2.2.2.2.2.2.2.2.2.2.2.2.2.2.2.1.1
theorem ml_L29 {am : Nat} {M : zM} (h : ml_ok am M) : zm_L M 20 (am + 19) = 320 := h.2.2.2.2.2.2.2.2.2.2.2.2.2.2.2.2.2.2.1.2
theorem ml_R30 {am : Nat} {M : zM} (h : ml_ok am M) : zm_R M 12 am 30 = some (am + 20) := h.2.2.2.2.2.2.2.2.2.2.2.2.2.2.2.2.2.2.2.1.1
theorem ml_L30 {am : Nat} {M : zM} (h : ml_ok am M) : zm_L M 20 (am + 20) = 320 := h.2.2.2.2.2.2.2.2.2.2.2.2.2.2.2.2.2.2.2.1.2
theorem ml_R32 {am : Nat} {M : zM} (h : ml_ok am M) : zm_R M 12 am 32 = some (am + 21) := h.2.2.2.2.2.2.2.2.2.2.2.2.2.2.2.2.2.2.2.2.1.1
theorem ml_L32 {am : Nat} {M : zM} (h : ml_ok am M) : zm_L M 20 (am + 21) = 7 := h.2.2.2.2.2.2.2.2.2.2.2.2.2.2.2.2.2.2.2.2.1.2
theorem ml_R33 {am : Nat} {M : zM} (h : ml_ok am M) : zm_R M 12 am 33 = some (am + 22) := h.2.2.2.2.2.2.2.2.2.2.2.2.2.2.2.2.2.2.2.2.2.1.1
theorem ml_L33 {am : Nat} {M : zM} (h : ml_ok am M) : zm_L M 22 (am + 22) = 12000 := h.2.2.2.2.2.2.2.2.2.2.2.2.2.2.2.2.2.2.2.2.2.1.2
theorem ml_R34 {am : Nat} {M : zM} (h : ml_ok am M) : zm_R M 12 am 34 = some (am + 23) := h.2.2.2.2.2.2.2.2.2.2.2.2.2.2.2.2.2.2.2.2.2.2.1.1
theorem ml_L34 {am : Nat} {M : zM} (h : ml_ok am M) : zm_L M 20 (am + 23) = 208 := h.2.2.2.2.2.2.2.2.2.2.2.2.2.2.2.2.2.2.2.2.2.2.1.2
theorem ml_R37 {am : Nat} {M : zM} (h : ml_ok am M) : zm_R M 12 am 37 = some (am + 24) := h.2.2.2.2.2.2.2.2.2.2.2.2.2.2.2.2.2.2.2.2.2.2.2.1.1
theorem ml_L37 {am : Nat} {M : zM} (h : ml_ok am M) : zm_L M 20 (am + 24) = 26 := h.2.2.2.2.2.2.2.2.2.2.2.2.2.2.2.2.2.2.2.2.2.2.2.1.2
theorem ml_R38 {am : Nat} {M : zM} (h : ml_ok am M) : zm_R M 12 am 38 = some (am + 25) := h.2.2.2.2.2.2.2.2.2.2.2.2.2.2.2.2.2.2.2.2.2.2.2.2.1.1
theorem ml_L38 {am : Nat} {M : zM} (h : ml_ok am M) : zm_L M 20 (am + 25) = 26 := h.2.2.2.2.2.2.2.2.2.2.2.2.2.2.2.2.2.2.2.2.2.2.2.2.1.2
theorem ml_R39 {am : Nat} {M : zM} (h : ml_ok am M) : zm_R M 12 am 39 = some (am + 26) := h.2.2.2.2.2.2.2.2.2.2.2.2.2.2.2.2.2.2.2.2.2.2.2.2.2.1.1
theorem ml_L39 {am : Nat} {M : zM} (h : ml_ok am M) : zm_L M 20 (am + 26) = 26 := h.2.2.2.2.2.2.2.2.2.2.2.2.2.2.2.2.2.2.2.2.2.2.2.2.2.1.2
theorem ml_R48 {am : Nat} {M : zM} (h : ml_ok am M) : zm_R M 12 am 48 = some (am + 27) := h.2.2.2.2.2.2.2.2.2.2.2.2.2.2.2.2.2.2.2.2.2.2.2.2.2.2.1.1
theorem ml_L48 {am : Nat} {M : zM} (h : ml_ok am M) : zm_L M 20 (am + 27) = 24 := h.2.2.2.2.2.2.2.2.2.2.2.2.2.2.2.2.2.2.2.2.2.2.2.2.2.2.1.2
theorem ml_R49 {am : Nat} {M : zM} (h : ml_ok am M) : zm_R M 12 am 49 = some (am + 28) := h.2.2.2.2.2.2.2.2.2.2.2.2.2.2.2.2.2.2.2.2.2.2.2.2.2.2.2.1.1
theorem ml_L49 {am : Nat} {M : zM} (h : ml_ok am M) : zm_L M 20 (am + 28) = 24 := h.2.2.2.2.2.2.2.2.2.2.2.2.2.2.2.2.2.2.2.2.2.2.2.2.2.2.2.1.2
theorem ml_R50 {am : Nat} {M : zM} (h : ml_ok am M) : zm_R M 12 am 50 = some (am + 29) := h.2.2.2.2.2.2.2.2.2.2.2.2.2.2.2.2.2.2.2.2.2.2.2.2.2.2.2.2.1.1
theorem ml_L50 {am : Nat} {M : zM} (h : ml_ok am M) : zm_L M 20 (am + 29) = 24 := h.2.2.2.2.2.2.2.2.2.2.2.2.2.2.2.2.2.2.2.2.2.2.2.2.2.2.2.2.1.2
theorem ml_R51 {am : Nat} {M : zM} (h : ml_ok am M) : zm_R M 12 am 51 = some (am + 30) := h.2.2.2.2.2.2.2.2.2.2.2.2.2.2.2.2.2.2.2.2.2.2.2.2.2.2.2.2.2.1.1
theorem ml_L51 {am : Nat} {M : zM} (h : ml_ok am M) : zm_L M 20 (am + 30) = 13 := h.2.2.2.2.2.2.2.2.2.2.2.2.2.2.2.2.2.2.2.2.2.2.2.2.2.2.2.2.2.1.2
theorem ml_R52 {am : Nat} {M : zM} (h : ml_ok am M) : zm_R M 12 am 52 = some (am + 31) := h.2.2.2.2.2.2.2.2.2.2.2.2.2.2.2.2.2.2.2.2.2.2.2.2.2.2.2.2.2.2.1.1
theorem ml_L52 {am : Nat} {M : zM} (h : ml_ok am M) : zm_L M 20 (am + 31) = 26 := h.2.2.2.2.2.2.2.2.2.2.2.2.2.2.2.2.2.2.2.2.2.2.2.2.2.2.2.2.2.2.1.2
theorem ml_R56 {am : Nat} {M : zM} (h : ml_ok am M) : zm_R M 12 am 56 = some (am + 32) := h.2.2.2.2.2.2.2.2.2.2.2.2.2.2.2.2.2.2.2.2.2.2.2.2.2.2.2.2.2.2.2.1.1
theorem ml_L56 {am : Nat} {M : zM} (h : ml_ok am M) : zm_L M 20 (am + 32) = 4 := h.2.2.2.2.2.2.2.2.2.2.2.2.2.2.2.2.2.2.2.2.2.2.2.2.2.2.2.2.2.2.2.1.2
theorem ml_R60 {am : Nat} {M : zM} (h : ml_ok am M) : zm_R M 12 am 60 = some (am + 33) := h.2.2.2.2.2.2.2.2.2.2.2.2.2.2.2.2.2.2.2.2.2.2.2.2.2.2.2.2.2.2.2.2.1
theorem ml_L60 {am : Nat} {M : zM} (h : ml_ok am M) : zm_L M 20 (am + 33) = 300 := h.2.2.2.2.2.2.2.2.2.2.2.2.2.2.2.2.2.2.2.2.2.2.2.2.2.2.2.2.2.2.2.2.2
theorem ml_zf {am : Nat} {M M' : zM} {W : Nat → Nat → Nat → Prop} (h : ml_ok am M) (hf : zf W M M') : ml_ok am M' := by
  obtain ⟨a1, a2, _⟩ := hf
  unfold ml_ok
  rw [a1, a2]
  exact h
theorem ml_set {am : Nat} {M : zM} {t k j : Nat} {v : Int32} (h : ml_ok am M) : ml_ok am (zm_setI M t k j v) := h
