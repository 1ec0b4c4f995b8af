/-! THE RULES' text: the trees that the pieces make -/
/-- of each node: its height, its first letter, the letter behind its last -/
abbrev yG : Type := Nat → Nat × Nat × Nat
def pr_run (G : yG) : Nat → List Nat → Nat → Prop
  | a, [], b => a = b
  | a, c :: l, b => (G c).2.1 = a ∧ pr_run G (G c).2.2 l b
def pk_x (B : yBp) (G : yG) (n : Nat) : Prop :=
  ((B.2.1 n).1 = 0 → (B.2.1 n).2.2.2.1 = [] ∧ (∃ x, B.2.2.1[(B.2.1 n).2.1]? = some (x, n)) ∧ (G n).2.1 = (B.2.1 n).2.1 ∧ (G n).2.2 = (B.2.1 n).2.1 + 1) ∧
  ((B.2.1 n).1 = 1 → (B.2.1 n).2.2.2.1 = [] ∧ (G n).2.1 = (G n).2.2) ∧
  ((B.2.1 n).1 = 2 → 2 ≤ (B.2.1 n).2.2.2.1.length) ∧
  ((B.2.1 n).1 = 3 → 2 ≤ (B.2.1 n).2.2.2.1.length) ∧
  ((B.2.1 n).1 = 4 → 2 ≤ (B.2.1 n).2.2.2.1.length ∧ (B.2.1 n).2.2.2.1.length ≤ 4 ∧ B.2.2.2.2[(B.2.1 n).2.1]? = some n) ∧
  ((B.2.1 n).1 = 5 → (∃ c, (B.2.1 n).2.2.2.1 = [c] ∧ (B.2.1 n).2.2.2.2 = (B.2.1 c).2.2.2.2 + 1) ∧ (∃ f t, B.2.2.2.1[(B.2.1 n).2.1]? = some (f, t, n))) ∧ (B.2.1 n).1 ≤ 5
/-- what holds of node n in the tree D under R; l: bytes left -/
def ps_x (B : yBp) (G : yG) (D : Nat → Prop) (R l n : Nat) : Prop :=
  (∀ c, c ∈ (B.2.1 n).2.2.2.1 → D c ∧ (B.2.1 c).2.2.1 = some n ∧ (G c).1 < (G n).1 ∧ (B.2.1 c).2.2.2.2 ≤ (B.2.1 n).2.2.2.2) ∧
  (∀ p, (B.2.1 n).2.2.1 = some p → D p ∧ n ∈ (B.2.1 p).2.2.2.1) ∧
  ((B.2.1 n).2.2.1 = none → n = R) ∧ (G n).1 ≤ (G R).1 ∧ (G n).2.1 ≤ (G n).2.2 ∧ (B.2.1 n).2.2.2.2 ≤ 2 ∧ (B.2.1 n).2.2.2.1.Nodup ∧ (B.2.1 n).2.2.2.1.length + l ≤ 400 ∧ (2 ≤ (B.2.1 n).1 → pr_run G (G n).2.1 (B.2.1 n).2.2.2.1 (G n).2.2) ∧ (n ≠ R → pk_x B G n)
def pt_x (B : yBp) (G : yG) (D : Nat → Prop) (R l : Nat) : Prop := D R ∧ (B.2.1 R).2.2.1 = none ∧ ∀ n, D n → ps_x B G D R l n
/-- what was there stays -/
def px_e (D : Nat → Prop) (B B' : yBp) (G G' : yG) : Prop := (∀ n, D n → B'.2.1 n = B.2.1 n ∧ G' n = G n) ∧ (∃ s, B'.2.2.1 = B.2.2.1 ++ s) ∧ (∃ s, B'.2.2.2.1 = B.2.2.2.1 ++ s) ∧ (∃ s, B'.2.2.2.2 = B.2.2.2.2 ++ s)
theorem ga_app {α : Type} {l s : List α} {i : Nat} {x : α} (h : l[i]? = some x) : (l ++ s)[i]? = some x := by
  have := (List.getElem?_eq_some_iff.mp h).1
  rw [List.getElem?_append_left this]
  exact h
theorem pr_ext {G G' : yG} : ∀ (l : List Nat) (a b : Nat), (∀ c, c ∈ l → G' c = G c) → pr_run G a l b → pr_run G' a l b := by
  intro l
  induction l with
  | nil => intro a b _ h; exact h
  | cons c l ih =>
    intro a b h ⟨h1, h2⟩
    have e := h c List.mem_cons_self
    refine ⟨by rw [e]; exact h1, ?_⟩
    rw [e]
    exact ih _ _ (fun x hx => h x (List.mem_cons_of_mem _ hx)) h2
theorem pr_snoc {G : yG} {c : Nat} : ∀ (l : List Nat) (a b : Nat), pr_run G a l b → (G c).2.1 = b → pr_run G a (l ++ [c]) (G c).2.2 := by
  intro l
  induction l with
  | nil =>
    intro a b h e
    have h : a = b := h
    exact ⟨by rw [e, h], rfl⟩
  | cons x l ih =>
    intro a b ⟨h1, h2⟩ e
    exact ⟨h1, ih _ _ h2 e⟩
theorem px_tr {D D' : Nat → Prop} {B B' B'' : yBp} {G G' G'' : yG} (h : px_e D B B' G G') (h' : px_e D' B' B'' G' G'') (hD : ∀ n, D n → D' n) : px_e D B B'' G G'' := by
  obtain ⟨a1, ⟨s1, a2⟩, ⟨s2, a3⟩, ⟨s3, a4⟩⟩ := h
  obtain ⟨b1, ⟨t1, b2⟩, ⟨t2, b3⟩, ⟨t3, b4⟩⟩ := h'
  refine ⟨fun n hn => ⟨((b1 n (hD n hn)).1).trans (a1 n hn).1, ((b1 n (hD n hn)).2).trans (a1 n hn).2⟩, ⟨s1 ++ t1, ?_⟩, ⟨s2 ++ t2, ?_⟩, ⟨s3 ++ t3, ?_⟩⟩
  · rw [b2, a2, List.append_assoc]
  · rw [b3, a3, List.append_assoc]
  · rw [b4, a4, List.append_assoc]
theorem px_mono {D D' : Nat → Prop} {B B' : yBp} {G G' : yG} (h : px_e D B B' G G') (hD : ∀ n, D' n → D n) : px_e D' B B' G G' := ⟨fun n hn => h.1 n (hD n hn), h.2⟩
theorem px_refl (D : Nat → Prop) (B : yBp) (G : yG) : px_e D B B G G := ⟨fun _ _ => ⟨rfl, rfl⟩, ⟨[], by simp⟩, ⟨[], by simp⟩, ⟨[], by simp⟩⟩
theorem pk_ext {D : Nat → Prop} {B B' : yBp} {G G' : yG} {n : Nat} (e : px_e D B B' G G') (hn : D n) (hk : ∀ c, c ∈ (B.2.1 n).2.2.2.1 → D c) (h : pk_x B G n) : pk_x B' G' n := by
  obtain ⟨e1, ⟨s1, e2⟩, ⟨s2, e3⟩, ⟨s3, e4⟩⟩ := e
  obtain ⟨h0, h1, h2, h3, h4, h5, h6⟩ := h
  unfold pk_x
  rw [(e1 n hn).1, (e1 n hn).2, e2, e3, e4]
  refine ⟨?_, h1, h2, h3, ?_, ?_, h6⟩
  · intro k
    obtain ⟨a1, ⟨x, a2⟩, a3⟩ := h0 k
    exact ⟨a1, ⟨x, ga_app a2⟩, a3⟩
  · intro k
    obtain ⟨a1, a2, a3⟩ := h4 k
    exact ⟨a1, a2, ga_app a3⟩
  · intro k
    obtain ⟨⟨c, a1, a2⟩, ⟨f, t, a3⟩⟩ := h5 k
    refine ⟨⟨c, a1, ?_⟩, ⟨f, t, ga_app a3⟩⟩
    rw [(e1 c (hk c (by rw [a1]; simp))).1]
    exact a2
theorem pt_ext {D : Nat → Prop} {B B' : yBp} {G G' : yG} {R l l' : Nat} (e : px_e D B B' G G') (hl : l' ≤ l) (h : pt_x B G D R l) : pt_x B' G' D R l' := by
  obtain ⟨h1, h2, h3⟩ := h
  have e1 := e.1
  refine ⟨h1, by rw [(e1 R h1).1]; exact h2, ?_⟩
  intro n hn
  obtain ⟨a1, a2, a3, a4, a5, a6, a7, a8, a9, a10⟩ := h3 n hn
  have en := (e1 n hn).1
  have eg := (e1 n hn).2
  refine ⟨?_, ?_, by rw [en]; exact a3, by rw [eg, (e1 R h1).2]; exact a4, by rw [eg]; exact a5, by rw [en]; exact a6, by rw [en]; exact a7, by rw [en]; omega, ?_, ?_⟩
  · intro c hc
    rw [en] at hc
    obtain ⟨b1, b2, b3, b4⟩ := a1 c hc
    refine ⟨b1, ?_, ?_, ?_⟩
    · rw [(e1 c b1).1]; exact b2
    · rw [(e1 c b1).2, eg]; exact b3
    · rw [(e1 c b1).1, en]; exact b4
  · intro p hp
    rw [en] at hp
    obtain ⟨b1, b2⟩ := a2 p hp
    exact ⟨b1, by rw [(e1 p b1).1]; exact b2⟩
  · intro k
    rw [en] at k ⊢
    rw [eg]
    exact pr_ext _ _ _ (fun c hc => (e1 c (a1 c hc).1).2) (a9 k)
  · intro k
    exact pk_ext e hn (fun c hc => (a1 c hc).1) (a10 k)
theorem pt_iff {D D' : Nat → Prop} {B : yBp} {G : yG} {R l : Nat} (h : pt_x B G D R l) (e : ∀ n, D n ↔ D' n) : pt_x B G D' R l := by
  have : D = D' := funext fun n => propext (e n)
  rw [← this]
  exact h
theorem put_A (X : Nat → yX) (A C : Nat) : py_put X A C A = ((X A).1, (X A).2.1, (X A).2.2.1, (X A).2.2.2.1 ++ [C], max (X A).2.2.2.2 (X C).2.2.2.2) := if_pos rfl
theorem put_C (X : Nat → yX) {A C : Nat} (h : C ≠ A) : py_put X A C C = ((X C).1, (X C).2.1, some A, (X C).2.2.2.1, (X C).2.2.2.2) := by
  unfold py_put
  rw [if_neg h, if_pos rfl]
theorem put_o (X : Nat → yX) {A C n : Nat} (h : n ≠ A) (h' : n ≠ C) : py_put X A C n = X n := by
  unfold py_put
  rw [if_neg h, if_neg h']
theorem put_k (X : Nat → yX) (A C n : Nat) : (py_put X A C n).1 = (X n).1 ∧ (py_put X A C n).2.1 = (X n).2.1 := by
  unfold py_put
  by_cases h : n = A
  · rw [if_pos h, h]; exact ⟨rfl, rfl⟩
  · rw [if_neg h]
    by_cases h' : n = C
    · rw [if_pos h', h']; exact ⟨rfl, rfl⟩
    · rw [if_neg h']; exact ⟨rfl, rfl⟩
theorem pu_s {α : Type} (f : Nat → α) (i : Nat) (v : α) : py_u f i v i = v := if_pos rfl
theorem pu_o {α : Type} (f : Nat → α) {i j : Nat} (v : α) (h : j ≠ i) : py_u f i v j = f j := if_neg h
theorem pt_put {B : yBp} {G : yG} {D D' : Nat → Prop} {R c l : Nat} (h : pt_x B G D R l) (h' : pt_x B G D' c l) (hk : pk_x B G c) (hdis : ∀ n, D n → ¬ D' n) (hR : 2 ≤ (B.2.1 R).1) (hlo : (G R).2.2 = (G c).2.1) (hlen : (B.2.1 R).2.2.2.1.length + 1 + l ≤ 400) : pt_x (pb_put B R c) (py_u G R (max (G R).1 ((G c).1 + 1), (G R).2.1, (G c).2.2)) (fun n => D n ∨ D' n) R l := by
  obtain ⟨dR, uR, hD⟩ := h
  obtain ⟨dc, uc, hD'⟩ := h'
  have hcR : c ≠ R := fun e => hdis R dR (e ▸ dc)
  have nR : ∀ n, D' n → n ≠ R := fun n hn e => hdis R dR (e ▸ hn)
  have nc : ∀ n, D n → n ≠ c := fun n hn e => hdis n hn (e ▸ dc)
  have XR : (pb_put B R c).2.1 R = ((B.2.1 R).1, (B.2.1 R).2.1, (B.2.1 R).2.2.1, (B.2.1 R).2.2.2.1 ++ [c], max (B.2.1 R).2.2.2.2 (B.2.1 c).2.2.2.2) := put_A _ _ _
  have Xc : (pb_put B R c).2.1 c = ((B.2.1 c).1, (B.2.1 c).2.1, some R, (B.2.1 c).2.2.2.1, (B.2.1 c).2.2.2.2) := put_C _ hcR
  have Xo : ∀ n, n ≠ R → n ≠ c → (pb_put B R c).2.1 n = B.2.1 n := fun n h1 h2 => put_o _ h1 h2
  have GR := pu_s G R (max (G R).1 ((G c).1 + 1), (G R).2.1, (G c).2.2)
  have Go : ∀ n, n ≠ R → py_u G R (max (G R).1 ((G c).1 + 1), (G R).2.1, (G c).2.2) n = G n := fun n hn => pu_o G _ hn
  obtain ⟨r1, r2, r3, r4, r5, r6, r7, r8, r9, r10⟩ := hD R dR
  have kc := hD' c dc
  obtain ⟨c1, c2, c3, c4, c5, c6, c7, c8, c9, c10⟩ := kc
  -- kids of nodes of D other than R, and of D', are as they were
  have kD : ∀ n x, D n → x ∈ (B.2.1 n).2.2.2.1 → D x ∧ x ≠ R ∧ x ≠ c := by
    intro n x hn hx
    have g := (hD n hn).1 x hx
    refine ⟨g.1, ?_, nc x g.1⟩
    intro e
    rw [e, uR] at g
    cases g.2.1
  have kD' : ∀ n x, D' n → x ∈ (B.2.1 n).2.2.2.1 → D' x ∧ x ≠ R ∧ x ≠ c := by
    intro n x hn hx
    have g := (hD' n hn).1 x hx
    refine ⟨g.1, nR x g.1, ?_⟩
    intro e
    rw [e, uc] at g
    cases g.2.1
  have pkk : ∀ n, n ≠ R → (∀ x, x ∈ (B.2.1 n).2.2.2.1 → x ≠ R ∧ x ≠ c) → pk_x B G n → pk_x (pb_put B R c) (py_u G R (max (G R).1 ((G c).1 + 1), (G R).2.1, (G c).2.2)) n := by
    intro n n1 n2 ⟨p0, p1, p2, p3, p4, p5, p6⟩
    have ek := put_k B.2.1 R c n
    have es : ((pb_put B R c).2.1 n).2.2.2.1 = (B.2.1 n).2.2.2.1 := by
      by_cases e : n = c
      · rw [e, Xc]
      · rw [Xo n n1 e]
    have ea : ((pb_put B R c).2.1 n).2.2.2.2 = (B.2.1 n).2.2.2.2 := by
      by_cases e : n = c
      · rw [e, Xc]
      · rw [Xo n n1 e]
    have ek1 : ((pb_put B R c).2.1 n).1 = (B.2.1 n).1 := ek.1
    have ek2 : ((pb_put B R c).2.1 n).2.1 = (B.2.1 n).2.1 := ek.2
    unfold pk_x
    rw [es, ea, ek1, ek2, Go n n1]
    refine ⟨p0, p1, p2, p3, p4, ?_, p6⟩
    intro k
    obtain ⟨⟨y, a1, a2⟩, a3⟩ := p5 k
    have n3 := n2 y (by rw [a1]; simp)
    exact ⟨⟨y, a1, by rw [Xo y n3.1 n3.2]; exact a2⟩, a3⟩
  refine ⟨.inl dR, by rw [XR]; exact uR, ?_⟩
  intro n hn
  by_cases eR : n = R
  · subst eR
    unfold ps_x
    rw [XR, GR]
    refine ⟨?_, ?_, fun _ => rfl, Nat.le_refl _, ?_, ?_, ?_, ?_, ?_, fun e => absurd rfl e⟩
    · intro y hy
      rcases List.mem_append.mp hy with hy | hy
      · have g := r1 y hy
        have g2 := kD n y dR hy
        refine ⟨.inl g.1, ?_, ?_, ?_⟩
        · rw [Xo y g2.2.1 g2.2.2]; exact g.2.1
        · rw [Go y g2.2.1]
          exact Nat.lt_of_lt_of_le g.2.2.1 (Nat.le_max_left _ _)
        · rw [Xo y g2.2.1 g2.2.2]
          exact Nat.le_trans g.2.2.2 (Nat.le_max_left _ _)
      · have : y = c := by simpa using hy
        subst this
        refine ⟨.inr dc, ?_, ?_, ?_⟩
        · rw [Xc]
        · rw [Go y hcR]
          exact Nat.lt_of_lt_of_le (Nat.lt_succ_self _) (Nat.le_max_right _ _)
        · rw [Xc]
          exact Nat.le_max_right _ _
    · intro p hp
      have hp : (B.2.1 n).2.2.1 = some p := hp
      rw [uR] at hp
      cases hp
    · show (G n).2.1 ≤ (G c).2.2
      omega
    · show max (B.2.1 n).2.2.2.2 (B.2.1 c).2.2.2.2 ≤ 2
      omega
    · show ((B.2.1 n).2.2.2.1 ++ [c]).Nodup
      rw [List.nodup_append]
      refine ⟨r7, by simp, ?_⟩
      intro y hy z hz e
      have : z = c := by simpa using hz
      exact (kD n y dR hy).2.2 (e.trans this)
    · show ((B.2.1 n).2.2.2.1 ++ [c]).length + l ≤ 400
      rw [List.length_append]
      exact hlen
    · intro _
      have q1 := r9 hR
      have q2 := pr_ext (G' := py_u G n (max (G n).1 ((G c).1 + 1), (G n).2.1, (G c).2.2)) _ _ _ (fun y hy => Go y (kD n y dR hy).2.1) q1
      have q3 := pr_snoc (c := c) _ _ _ q2 (by rw [Go c hcR]; exact hlo.symm)
      rw [Go c hcR] at q3
      exact q3
  · rcases hn with hn | hn
    · obtain ⟨a1, a2, a3, a4, a5, a6, a7, a8, a9, a10⟩ := hD n hn
      have en := Xo n eR (nc n hn)
      unfold ps_x
      rw [en, Go n eR, GR]
      refine ⟨?_, ?_, a3, Nat.le_trans a4 (Nat.le_max_left _ _), a5, a6, a7, a8, ?_, ?_⟩
      · intro y hy
        have g := a1 y hy
        have g2 := kD n y hn hy
        rw [Xo y g2.2.1 g2.2.2, Go y g2.2.1]
        exact ⟨.inl g.1, g.2⟩
      · intro p hp
        have g := a2 p hp
        refine ⟨.inl g.1, ?_⟩
        by_cases ep : p = R
        · rw [ep, XR]
          rw [ep] at g
          exact List.mem_append_left _ g.2
        · rw [Xo p ep (nc p g.1)]
          exact g.2
      · intro k
        exact pr_ext _ _ _ (fun y hy => Go y (kD n y hn hy).2.1) (a9 k)
      · intro _
        exact pkk n eR (fun y hy => (kD n y hn hy).2) (a10 eR)
    · by_cases ec : n = c
      · subst ec
        unfold ps_x
        rw [Xc, Go n hcR, GR]
        refine ⟨?_, ?_, ?_, Nat.le_trans (Nat.le_succ _) (Nat.le_max_right _ _), c5, c6, c7, c8, ?_, ?_⟩
        · intro y hy
          have g := c1 y hy
          have g2 := kD' n y hn hy
          rw [Xo y g2.2.1 g2.2.2, Go y g2.2.1]
          exact ⟨.inr g.1, g.2⟩
        · intro p hp
          have hp : some R = some p := hp
          injection hp with hp
          subst hp
          refine ⟨.inl dR, ?_⟩
          rw [XR]
          exact List.mem_append_right _ (by simp)
        · intro hp
          cases hp
        · intro k
          exact pr_ext _ _ _ (fun y hy => Go y (kD' n y hn hy).2.1) (c9 k)
        · intro _
          exact pkk n hcR (fun y hy => (kD' n y hn hy).2) hk
      · obtain ⟨a1, a2, a3, a4, a5, a6, a7, a8, a9, a10⟩ := hD' n hn
        have en := Xo n eR ec
        unfold ps_x
        rw [en, Go n eR, GR]
        refine ⟨?_, ?_, fun e => absurd (a3 e) ec, Nat.le_trans a4 (Nat.le_trans (Nat.le_succ _) (Nat.le_max_right _ _)), a5, a6, a7, a8, ?_, ?_⟩
        · intro y hy
          have g := a1 y hy
          have g2 := kD' n y hn hy
          rw [Xo y g2.2.1 g2.2.2, Go y g2.2.1]
          exact ⟨.inr g.1, g.2⟩
        · intro p hp
          have g := a2 p hp
          refine ⟨.inr g.1, ?_⟩
          by_cases ep : p = c
          · rw [ep, Xc]
            rw [ep] at g
            exact g.2
          · rw [Xo p (nR p g.1) ep]
            exact g.2
        · intro k
          exact pr_ext _ _ _ (fun y hy => Go y (kD' n y hn hy).2.1) (a9 k)
        · intro _
          exact pkk n eR (fun y hy => (kD' n y hn hy).2) (a10 ec)
