/-! THE CLASS: rules as they were read, as patterns -/
section
variable {M : zM} {pa : Nat → Nat} {b pn N : Nat} {us : List yU} {X : Nat → yX}
theorem cv_P (hw : cw_rs M b) (hv : cv_x M b pa pn us N X) (hcp : cp_x M b pa pn) (hgs : gs_x us N X) {r : Nat} {u : yU} (hr : r < 8) (hu : us[r]? = some u) : cN_x M pa (py_uP X u) ∧ cR_x M pa (b + 2 + 10 * r) (py_uP X u) := by
  obtain ⟨v1, v2, v3, v4⟩ := hv
  obtain ⟨hG, huN⟩ := hgs r u hu
  obtain ⟨u0, u1, ⟨u2, u3, u4⟩, uL, uC, uA⟩ := v4 r u hu
  have hdm : ∀ n, py_dm (py_uP X u) n → n < N ∧ n < pn := by
    intro n hn
    have := (mk_dm (X := X) (u := u) (G := py_uG X u) n).mp hn
    omega
  refine ⟨⟨?_, ?_, ?_⟩, ⟨⟨(hw.2.2.1 r hr).2, ?_⟩, u0, u1, ⟨u2, u3, u4⟩, ?_, ?_, ?_, ?_⟩⟩
  · intro n hn
    obtain ⟨h1, h2⟩ := hdm n hn
    obtain ⟨c1, c2, c3, c4, c5, _⟩ := v2 n h1
    obtain ⟨p1, p2, p3, p4⟩ := hcp.2.1 n h2
    exact ⟨c1, c2, c4, c5, p3, p4, p2⟩
  · intro n a c b' hn e
    obtain ⟨h1, h2⟩ := hdm n hn
    obtain ⟨_, _, _, _, _, _, c7, _⟩ := v2 n h1
    have e' : (X n).2.2.2.1 = a ++ c :: b' := e
    obtain ⟨k1, k2, k3, k4⟩ := c7 a.length c (by rw [e']; simp)
    refine ⟨?_, k3⟩
    rw [k2, e']
    congr 1
    rw [List.getElem?_append_right (by omega), show a.length + 1 - a.length = 1 by omega]
    cases b' <;> rfl
  · intro m n hm hn e
    exact hcp.2.2.2 m n (hdm m hm).2 (hdm n hn).2 e
  · intro c hc
    have hc' : c < u.2.2.2.2.2.1.length := hc
    have e : u.2.2.2.2.2.1[c]? = some u.2.2.2.2.2.1[c] := by simp
    obtain ⟨k1, k2, k3⟩ := uC c _ e
    have f1 : py_fr (py_uP X u) c = (u.2.2.2.2.2.1[c]).1 := by
      unfold py_uP
      rw [mk_fr, e]
      rfl
    have f2 : py_to (py_uP X u) c = (u.2.2.2.2.2.1[c]).2.1 := by
      unfold py_uP
      rw [mk_to, e]
      rfl
    rw [f1, f2]
    exact ⟨k1, k2⟩
  · intro o ho
    have ho' : o < u.2.2.2.2.1.length := ho
    have e : u.2.2.2.2.1[o]? = some u.2.2.2.2.1[o] := by simp
    obtain ⟨k1, k2⟩ := uL o _ e
    have f1 : py_lt (py_uP X u) o = (u.2.2.2.2.1[o]).1 := by
      unfold py_uP
      rw [mk_lt, e]
      rfl
    have f2 : py_lf (py_uP X u) o = (u.2.2.2.2.1[o]).2 := by
      unfold py_uP
      rw [mk_lf, e]
      rfl
    rw [f1, f2]
    exact ⟨k1, k2⟩
  · intro c hc
    have hc' : c < u.2.2.2.2.2.1.length := hc
    have e : u.2.2.2.2.2.1[c]? = some u.2.2.2.2.2.1[c] := by simp
    obtain ⟨k1, k2, k3⟩ := uC c _ e
    have f1 : py_cn (py_uP X u) c = (u.2.2.2.2.2.1[c]).2.2 := by
      unfold py_uP
      rw [mk_cn, e]
      rfl
    rw [f1]
    exact k3
  · intro a ha
    have ha' : a < u.2.2.2.2.2.2.length := ha
    have e : u.2.2.2.2.2.2[a]? = some u.2.2.2.2.2.2[a] := by simp
    have f1 : py_an (py_uP X u) a = u.2.2.2.2.2.2[a] := by
      unfold py_uP
      rw [mk_an, e]
      rfl
    rw [f1]
    exact uA a _ e
  · have := hw.2.2.2
    omega
end
