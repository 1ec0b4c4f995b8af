/-! THE CLASS: what is seen on one level -/
def py_see (P : yP) (s : yS) (w : Int32) (k n : Nat) : Int32 := (zor ((py_avl P s k).map (fun W => W.1)) &&& w) ||| (if (py_pst P k && py_cl P s n) = true then 65536 else 0)
section
variable {M M' : zM} {pa : Nat → Nat} {P : yP} {d wk Q : Nat} {s : yS}
theorem zor_aw (hP : py_ok P) {A : List Nat} {c : Nat} {w : Int32} (hA : ∀ q, q ∈ A → q < 16) : (zor A &&& w) ||| (zor (py_fl P c) &&& w) = zor (A ++ py_fl P c) &&& w := by
  refine zy_ext ?_
  intro i hi
  have h1 : ∀ q, q ∈ A ++ py_fl P c → q < 32 := by
    intro q hq
    rcases List.mem_append.mp hq with g | g
    · have := hA q g; omega
    · have := fl_lt hP g; omega
  rw [zy_or, zy_and, zy_and, zy_and, zor_bt (fun q hq => by have := hA q hq; omega) hi, zor_bt (fun q hq => by have := fl_lt hP hq; omega) hi, zor_bt h1 hi, List.contains_append]
  cases A.contains i <;> cases (py_fl P c).contains i <;> simp
theorem il_fst {a b : Option Nat} {c : Nat} : (py_il P a c b).map (fun W => W.1) = py_fl P c := by
  unfold py_il
  rw [List.map_map]
  exact List.map_id _
theorem cl_lrow_8 (hP : py_ok P) (h : cX M pa Q P) {n : Nat} (hn : py_dm P n) {w : Int32} : ∀ (b a A : List Nat), py_ks P n = a ++ b → (∀ q, q ∈ A → q < 16) → ∀ fuel, b.length < fuel → wk_lookInRow_8 d fuel w (zor A &&& w) (b.head?.map pa) M = some ((zor (A ++ (py_rw P n b).map (fun W => W.1)) &&& w) ||| (if b.all (py_nu P) = true then 65536 else 0), M) := by
  intro b
  induction b with
  | nil =>
    intro a A e hA fuel hf
    cases fuel with
    | zero => cases hf
    | succ fuel =>
      simp only [List.head?_nil, Option.map_none, wk_lookInRow_8]
      simp [py_rw]
  | cons c b ih =>
    intro a A e hA fuel hf
    cases fuel with
    | zero => cases hf
    | succ fuel =>
      have hcd : py_dm P c := ok_kid hP hn (by rw [e]; simp)
      simp only [List.head?_cons, Option.map_some, wk_lookInRow_8, cX_fl h hcd, cX_nu h hcd, zlet, cN_nx h.1 hn e, zor_aw hP hA]
      unfold py_rw
      rw [List.map_append, il_fst, List.all_cons]
      cases hnu : py_nu P c
      · rw [if_pos (show zb false = 0 from rfl)]
        simp
      · rw [if_neg (show ¬ zb true = 0 by decide)]
        have := ih (a ++ [c]) (A ++ py_fl P c) (by rw [e]; simp) (fun q hq => by
          rcases List.mem_append.mp hq with g | g
          · exact hA q g
          · exact fl_lt hP g) fuel (by simp at hf; omega)
        rw [this]
        simp
theorem cl4_ml (P : yP) (x : Int32) : ∀ (l : List Nat) (i : Nat), py_cl4 P x i l = true ↔ ∀ j, j ∈ py_ml (py_nu P) l i → zbt x j = true := by
  intro l
  induction l with
  | nil => intro i; simp [py_cl4, py_ml]
  | cons c l ih =>
    intro i
    unfold py_cl4 py_ml
    rw [Bool.and_eq_true, ih (i + 1)]
    constructor
    · rintro ⟨h1, h2⟩ j hj
      rcases List.mem_append.mp hj with g | g
      · split at g
        · cases g
        · rename_i hn
          have : j = i := by simpa using g
          rw [this]
          rw [Bool.or_eq_true] at h1
          rcases h1 with h1 | h1
          · exact h1
          · exact absurd h1 hn
      · exact h2 j g
    · intro h
      refine ⟨?_, fun j hj => h j (List.mem_append.mpr (.inr hj))⟩
      rw [Bool.or_eq_true]
      cases hn : py_nu P c
      · exact .inl (h i (List.mem_append.mpr (.inl (by rw [hn]; simp))))
      · exact .inr rfl
theorem any_end (hP : py_ok P) {n : Nat} (hn : py_dm P n) (k4 : py_kd P n = 4) (x : Int32) : (zor (py_ml (py_nu P) (py_ks P n) 0) &&& (x ^^^ (-1)) = 0) ↔ py_cl4 P x 0 (py_ks P n) = true := by
  have h4 := ok_k4 hP hn k4
  have hm : ∀ q, q ∈ py_ml (py_nu P) (py_ks P n) 0 → q < 32 := by
    intro q hq
    obtain ⟨_, y, h1, _⟩ := (ml_mem _ _ _ _).mp hq
    have := (List.getElem?_eq_some_iff.mp h1).1
    omega
  rw [cl4_ml]
  constructor
  · intro e j hj
    have h32 := hm j hj
    have : zbt (zor (py_ml (py_nu P) (py_ks P n) 0) &&& (x ^^^ (-1))) j = zbt 0 j := congrArg (fun y => zbt y j) e
    rw [zy_and, zor_bt hm h32, zy_xor, zy_m1 h32, zy_0] at this
    have hc : (py_ml (py_nu P) (py_ks P n) 0).contains j = true := by simpa using hj
    rw [hc] at this
    simpa using this
  · intro h
    refine zy_ext ?_
    intro i hi
    rw [zy_and, zor_bt hm hi, zy_xor, zy_m1 hi, zy_0]
    cases hc : (py_ml (py_nu P) (py_ks P n) 0).contains i
    · simp
    · rw [h i (by simpa using hc)]
      rfl
theorem cl_lany_19 (hP : py_ok P) (h : cX M pa Q P) {n k : Nat} (hn : py_dm P n) (k4 : py_kd P n = 4) {w bg : Int32} (hown : zbt bg (py_bf (py_ks P n) k).length = true) : ∀ (b a A : List Nat), py_ks P n = a ++ b → (∀ q, q ∈ A → q < 16) → ∀ fuel, b.length < fuel → wk_lookInAny_19 d fuel (some (pa n)) w bg (zor A &&& w) (b.head?.map pa) M = some ((zor (A ++ ((py_an2 P n k b).filter (fun W => !zbt bg (py_bf (py_ks P n) W.2.2.2).length)).map (fun W => W.1)) &&& w) ||| (if py_cl4 P bg 0 (py_ks P n) = true then 65536 else 0), M) := by
  intro b
  have h4 := ok_k4 hP hn k4
  induction b with
  | nil =>
    intro a A e hA fuel hf
    cases fuel with
    | zero => cases hf
    | succ fuel =>
      have h14 : zm_I M 3 (pa n) 14 = zor (py_ml (py_nu P) (py_ks P n) 0) := (h.2.1 n hn).2.2.2.2.2.2.1 k4
      simp only [List.head?_nil, Option.map_none, wk_lookInAny_19, h14, any_end hP hn k4]
      split
      · simp [py_an2, wk_lookInAny_79]
      · simp [py_an2, wk_lookInAny_79]
  | cons c b ih =>
    intro a A e hA fuel hf
    cases fuel with
    | zero => cases hf
    | succ fuel =>
      have hcd : py_dm P c := ok_kid hP hn (by rw [e]; simp)
      have hnd := ok_nd hP hn
      have hca : ¬ c ∈ a := by
        rw [e] at hnd
        have := (List.nodup_append.mp hnd).2.2
        exact fun hx => this c hx c (by simp) rfl
      have hbf : py_bf (py_ks P n) c = a := by rw [e]; exact (bf_eq hca).1
      have hal : a.length < 32 := by
        have := congrArg List.length e
        rw [List.length_append] at this
        omega
      have hf : b.length < fuel := by simp at hf; omega
      simp only [List.head?_cons, Option.map_some, wk_lookInAny_19, wk_lookInAny_48, cX_fl h hcd, cN_pl h.1 hn e, zlet, cN_nx h.1 hn e, zor_aw hP hA, zy_has bg hal]
      rw [an_cons, List.filter_append, List.map_append]
      have hil : (py_il P (some n) c none).filter (fun W => !zbt bg (py_bf (py_ks P n) W.2.2.2).length) = if zbt bg a.length = true then [] else py_il P (some n) c none := by
        have hin : ∀ W, W ∈ py_il P (some n) c none → W.2.2.2 = c := by
          intro W hW
          obtain ⟨q, _, rfl, _⟩ := il_mem hW
          rfl
        split
        · rename_i hb
          rw [List.filter_eq_nil_iff]
          intro W hW
          rw [hin W hW, hbf, hb]
          simp
        · rename_i hb
          rw [List.filter_eq_self]
          intro W hW
          rw [hin W hW, hbf]
          simpa using hb
      cases hb : zbt bg a.length
      · have hck : c ≠ k := by
          intro y
          rw [← y, hbf, hb] at hown
          cases hown
        rw [if_neg hck, hil, hb]
        simp only [Bool.false_eq_true, if_false, if_true]
        rw [il_fst]
        have := ih (a ++ [c]) (A ++ py_fl P c) (by rw [e]; simp) (fun q hq => by
          rcases List.mem_append.mp hq with g | g
          · exact hA q g
          · exact fl_lt hP g) fuel hf
        rw [this, List.append_assoc]
      · have hz : ((if c = k then [] else py_il P (some n) c none).filter (fun W => !zbt bg (py_bf (py_ks P n) W.2.2.2).length)).map (fun W : yW => W.1) = [] := by
          split
          · rfl
          · rw [hil, hb]
            rfl
        rw [hz]
        simp only [if_true]
        rw [if_neg (show ¬ (1 : Int32) = 0 by decide)]
        exact ih (a ++ [c]) A (by rw [e]; simp) hA fuel hf
end
