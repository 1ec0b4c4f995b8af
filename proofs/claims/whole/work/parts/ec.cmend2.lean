/-! THE CLASS: mend, in memory -/
section
variable {M M' : zM} {pa : Nat → Nat} {P : yP} {d wk re Q B n : Nat} {s : yS} {ls : List Nat} {g : List (Nat × Option Nat)}
theorem cl_linAll (hP : py_ok P) (hd : 1 ≤ d) (h : cR_x M pa Q P) : ru_lettersInAll d Q M = some (zor (py_ll P), M) := by
  obtain ⟨d, rfl⟩ : ∃ d', d = d' + 1 := ⟨d - 1, by omega⟩
  have hnl := ok_nl hP
  show (ru_lettersIn d Q 65535 M).bind _ = _
  rw [cl_lin hP h, Option.bind_some]
  have : (List.range' 0 (py_nl P)).filter (fun o => zbt 65535 o) = List.range' 0 (py_nl P) := by
    rw [List.filter_eq_self]
    intro o ho
    rw [List.mem_range'_1] at ho
    exact bt_65535 (by omega)
  rw [this]
  rfl
theorem cl_put_9 (hP : py_ok P) (hd : 3 ≤ d) (hls : ls.length ≤ 24) (h26 : ∀ x, x ∈ ls → x < 26) {v3 v5 : Int32} {kind n1 : Nat} (hkind : kind = 2 ∨ kind = 3) (hn : n1 ≤ n + 1) (hnl : n1 ≤ ls.length + (if kind = 2 then 1 else 0)) (hv3 : ∀ i, i ≤ 25 → (v3 < nI i ↔ n1 ≤ i)) : ∀ (m k : Nat) (M : zM), k + m = n1 → md_s M pa Q P wk re ls g n → ∀ fuel, m < fuel → ∃ M', re_putIn_9 d fuel re (some Q) (some wk) v3 (nI kind) v5 (nI k) M = some (zb (py_pk P ls kind v5 k m).isSome, M') ∧ (py_pk P ls kind v5 k m = none → md_s M' pa Q P wk re ls g n) ∧ (∀ x, py_pk P ls kind v5 k m = some x → zm_I M' 4 re 13 = nI kind ∧ zm_I M' 4 re 14 = nI x.1 ∧ zm_I M' 4 re 15 = nI x.2) ∧ zr (mw_W2 wk re) M M' := by
  have h100 := zLF_100
  intro m
  induction m with
  | zero =>
    intro k M hk h fuel hf
    have hk25 : k ≤ 25 := by split at hnl <;> omega
    cases fuel with
    | zero => cases hf
    | succ fuel =>
      refine ⟨M, ?_, fun _ => h, fun j hj => (by cases hj), zr_refl _ _⟩
      rw [re_putIn_9, if_pos ((hv3 k hk25).mpr (by omega))]
      rfl
  | succ m ih =>
    intro k M hk h fuel hf
    have hk25 : k ≤ 25 := by split at hnl <;> omega
    cases fuel with
    | zero => cases hf
    | succ fuel =>
      have hkl : (if kind = 2 then k else k + 1) ≤ ls.length := by
        split
        · rename_i q; rw [if_pos q] at hnl; omega
        · rename_i q; rw [if_neg q] at hnl; omega
      obtain ⟨M1, a1, a2, a3⟩ := cl_put_18 (d := d) (v3 := v3) (v5 := v5) hP hd hls h26 hkind (show k ≤ n by omega) hkl (fun p0 p1 p2 p3 p4 p5 p6 m => re_putIn_9 d fuel p0 p1 p2 p3 p4 p5 p6 m) 26 0 M (by omega) h zLF (by omega)
      have epk : py_pk P ls kind v5 k (m + 1) = match py_pl P ls kind v5 k 0 26 with
        | some l => some (k, l)
        | none => py_pk P ls kind v5 (k + 1) m := by
        unfold py_pk
        rw [List.range'_succ, List.findSome?_cons]
        cases py_pl P ls kind v5 k 0 26 <;> rfl
      rw [re_putIn_9, if_neg (fun y => by have := (hv3 k hk25).mp y; omega), epk]
      cases hp : py_pl P ls kind v5 k 0 26 with
      | none =>
        obtain ⟨b1, b2⟩ := a1 hp
        have b1 : re_putIn_18 (fun p0 p1 p2 p3 p4 p5 p6 m => re_putIn_9 d fuel p0 p1 p2 p3 p4 p5 p6 m) d zLF re (some Q) (some wk) v3 (nI kind) v5 (nI k) 0 M = re_putIn_9 d fuel re (some Q) (some wk) v3 (nI kind) v5 (nI (k + 1)) M1 := b1
        rw [b1]
        obtain ⟨M', q1, q2, q3, q4⟩ := ih (k + 1) M1 (by omega) b2 fuel (by omega)
        exact ⟨M', q1, q2, q3, zr_trans a3 q4⟩
      | some l =>
        obtain ⟨b1, b2⟩ := a2 l hp
        have b1 : re_putIn_18 (fun p0 p1 p2 p3 p4 p5 p6 m => re_putIn_9 d fuel p0 p1 p2 p3 p4 p5 p6 m) d zLF re (some Q) (some wk) v3 (nI kind) v5 (nI k) 0 M = some (1, M1) := b1
        rw [b1]
        refine ⟨M1, rfl, fun hh => (by cases hh), ?_, a3⟩
        intro x hx
        injection hx with hx
        rw [← hx]
        exact b2
theorem cl_putIn (hP : py_ok P) (hd : 4 ≤ d) (hls : ls.length ≤ 24) (h26 : ∀ x, x ∈ ls → x < 26) {v3 : Int32} {kind n1 : Nat} (hkind : kind = 2 ∨ kind = 3) (hn : n1 ≤ n + 1) (hnl : n1 ≤ ls.length + (if kind = 2 then 1 else 0)) (hv3 : ∀ i, i ≤ 25 → (v3 < nI i ↔ n1 ≤ i)) (h : md_s M pa Q P wk re ls g n) : ∃ M', re_putIn d re (some Q) (some wk) v3 (nI kind) M = some (zb (py_pk P ls kind (zor (py_ll P)) 0 n1).isSome, M') ∧ (py_pk P ls kind (zor (py_ll P)) 0 n1 = none → md_s M' pa Q P wk re ls g n) ∧ (∀ x, py_pk P ls kind (zor (py_ll P)) 0 n1 = some x → zm_I M' 4 re 13 = nI kind ∧ zm_I M' 4 re 14 = nI x.1 ∧ zm_I M' 4 re 15 = nI x.2) ∧ zr (mw_W2 wk re) M M' := by
  obtain ⟨d, rfl⟩ : ∃ d', d = d' + 1 := ⟨d - 1, by omega⟩
  have h100 := zLF_100
  have hn26 : n1 < zLF := by split at hnl <;> omega
  obtain ⟨M', g1, g2⟩ := cl_put_9 (d := d) (v5 := zor (py_ll P)) hP (by omega) hls h26 hkind hn hnl hv3 n1 0 M (by omega) h zLF hn26
  refine ⟨M', ?_, g2⟩
  show re_putIn_b d re (some Q) (some wk) v3 (nI kind) M = _
  unfold re_putIn_b
  simp only [cl_linAll hP (show 1 ≤ d by omega) h.1.2.2.1, Option.bind_some]
  exact g1
theorem cl_leaveOut (hP : py_ok P) (hd : 4 ≤ d) (hls : ls.length ≤ 24) (h26 : ∀ x, x ∈ ls → x < 26) {v3 : Int32} {n1 : Nat} (hn1 : n1 ≤ ls.length) (hn : n1 ≤ n + 1) (hv3 : ∀ i, i ≤ 24 → (v3 < nI i ↔ n1 ≤ i)) (h : md_s M pa Q P wk re ls g n) : ∃ M', re_leaveOut d re (some Q) (some wk) v3 M = some (zb ((List.range' 0 n1).find? (fun k => py_wf P (ls.drop (k + 1)) (py_at P ls k))).isSome, M') ∧ (∀ j, (List.range' 0 n1).find? (fun k => py_wf P (ls.drop (k + 1)) (py_at P ls k)) = some j → zm_I M' 4 re 13 = 1 ∧ zm_I M' 4 re 14 = nI j ∧ zm_I M' 4 re 15 = -1) ∧ ((List.range' 0 n1).find? (fun k => py_wf P (ls.drop (k + 1)) (py_at P ls k)) = none → md_s M' pa Q P wk re ls g n) ∧ zr (mw_W2 wk re) M M' := by
  obtain ⟨d, rfl⟩ : ∃ d', d = d' + 1 := ⟨d - 1, by omega⟩
  have h100 := zLF_100
  exact cl_leave_3 hP (by omega) hls h26 hn1 hn hv3 n1 0 M (by omega) h zLF (by omega)
end
