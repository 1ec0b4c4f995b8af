/-! every call leaves a state in order -/
theorem tl_len : ∀ (b : List Nat) (n p : Nat) (ls : List Nat), n ≤ 24 → (py_tl b n p).1 = some ls → n + ls.length ≤ 24 ∧ ∀ x, x ∈ ls → x < 26 := by
  intro b
  induction b with
  | nil =>
    intro n p ls hn h
    simp only [py_tl] at h
    injection h with h
    rw [← h]
    exact ⟨by simpa using hn, fun x hx => by cases hx⟩
  | cons y b ih =>
    intro n p ls hn h
    simp only [py_tl] at h
    by_cases c : y = 32
    · rw [if_pos c] at h
      exact ih _ _ _ hn h
    · rw [if_neg c] at h
      by_cases c2 : (97 ≤ y ∧ y ≤ 122) ∧ n ≠ 24
      · rw [if_pos c2] at h
        cases ht : (py_tl b (n + 1) (p + 1)).1 with
        | none =>
          rw [ht] at h
          cases h
        | some l =>
          rw [ht] at h
          have e : ls = (y - 97) :: l := by simpa using h.symm
          have g := ih (n + 1) (p + 1) l (by omega) ht
          rw [e]
          refine ⟨by have := g.1; simp; omega, ?_⟩
          intro x hx
          rcases List.mem_cons.mp hx with z | z
          · omega
          · exact g.2 x z
      · rw [if_neg c2] at h
        cases h
section
variable {S : yZ}
theorem zz_feed (hz : zz_ok S) (a b c e f : Int32) : zz_ok (sp_feed S a b c e f).2 := by
  unfold sp_feed
  by_cases q : 400 < S.1.length + (py_bs a 4).length + (py_bs b 4).length + (py_bs c 4).length + (py_bs e 4).length + (py_bs f 4).length
  · rw [if_pos q]
    exact hz
  · rw [if_neg q]
    refine ⟨⟨?_, ?_⟩, hz.2⟩
    · simp only [List.length_append]
      omega
    · intro x hx
      simp only [List.mem_append] at hx
      rcases hx with z | z | z | z | z | z
      · exact hz.1.2 x z
      · exact bv_ok _ _ _ z
      · exact bv_ok _ _ _ z
      · exact bv_ok _ _ _ z
      · exact bv_ok _ _ _ z
      · exact bv_ok _ _ _ z
theorem zz_end (hz : zz_ok S) (n : Int32) : zz_ok (sp_end S n).2 := by
  unfold sp_end
  cases zin n (S.1.length + 1) with
  | none => exact hz
  | some k =>
    have h400 := hz.1.1
    refine ⟨⟨?_, fun x hx => hz.1.2 x (List.mem_of_mem_take hx)⟩, hz.2⟩
    have : (S.1.take k).length ≤ S.1.length := by rw [List.length_take]; omega
    exact Nat.le_trans this h400
theorem zz_rds (hz : zz_ok S) (x : Int32) : zz_ok (sp_rds S x).2 := by
  unfold sp_rds
  cases hx : zin x S.2.1.1 with
  | none => exact hz
  | some r =>
    have hR := hz.2.1
    have hr := (zin_some (by omega) hx).1
    have hP := hz.2.2.1 r hr
    dsimp only
    by_cases c : py_sure (S.2.1.2 r) = true
    · rw [if_pos c]
      cases hls : (py_tl S.1 0 0).1 with
      | none => exact hz
      | some ls =>
        have hl := tl_len S.1 0 0 ls (Nat.zero_le _) hls
        refine ⟨⟨Nat.zero_le _, fun b hb => by cases hb⟩, hz.2.1, hz.2.2.1, hz.2.2.2.1, hz.2.2.2.2.1, ?_⟩
        intro y hy
        have e : y = py_rr (S.2.1.2 r) r ls := by
          have : some (py_rr (S.2.1.2 r) r ls) = some y := hy
          injection this with this
          exact this.symm
        rw [e]
        refine ⟨hr, ?_, rn_len _ _, ok_nc hP, ok_na hP⟩
        have := hl.1
        show ls.length ≤ 24
        omega
    · rw [if_neg c]
      exact hz
theorem zz_rec (hz : zz_ok S) (x y f t : Int32) : zz_ok (sp_rec S x y f t).2 := by
  have hR := hz.2.1
  unfold sp_rec
  cases hx : zin x S.2.1.1 with
  | none => exact hz
  | some r =>
    have hr := (zin_some (by omega) hx).1
    have hP := hz.2.2.1 r hr
    dsimp only
    cases hy : zin y (py_nc (S.2.1.2 r)) with
    | none => exact hz
    | some c =>
      dsimp only
      cases hf : zin f 13 with
      | none => exact hz
      | some fn =>
        have hfn := (zin_some (by omega) hf).1
        dsimp only
        by_cases ct : t = -1
        · rw [if_pos ct]
          by_cases c2 : py_fr (S.2.1.2 r) c = fn ∧ py_to (S.2.1.2 r) c = none
          · rw [if_pos c2]
            exact hz
          · rw [if_neg c2]
            exact yz_ok hz (rc_ok hP (by omega) (fun x hx => by cases hx)) rfl
        · rw [if_neg ct]
          cases ht : zin t 13 with
          | none => exact hz
          | some tn =>
            have htn := (zin_some (by omega) ht).1
            dsimp only
            by_cases c3 : max 1 fn ≤ tn
            · rw [if_pos c3]
              by_cases c2 : py_fr (S.2.1.2 r) c = fn ∧ py_to (S.2.1.2 r) c = some tn
              · rw [if_pos c2]
                exact hz
              · rw [if_neg c2]
                refine yz_ok hz (rc_ok hP (by omega) (fun x hx => ?_)) rfl
                injection hx with hx
                omega
            · rw [if_neg c3]
              exact hz
theorem zz_rel (hz : zz_ok S) (x y l : Int32) : zz_ok (sp_rel S x y l).2 := by
  have hR := hz.2.1
  unfold sp_rel
  cases hx : zin x S.2.1.1 with
  | none => exact hz
  | some r =>
    have hr := (zin_some (by omega) hx).1
    have hP := hz.2.2.1 r hr
    dsimp only
    cases hy : zin y (py_nl (S.2.1.2 r)) with
    | none => exact hz
    | some o =>
      dsimp only
      cases hl : zin l 26 with
      | none => exact hz
      | some ln =>
        have hln := (zin_some (by omega) hl).1
        dsimp only
        by_cases c : py_lt (S.2.1.2 r) o = ln
        · rw [if_pos c]
          exact hz
        · rw [if_neg c]
          exact yz_ok hz (rl_ok hP hln) rfl
end
