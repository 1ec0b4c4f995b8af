/-! RUNS WITHOUT FUEL: what the evaluator answers with enough of it, rule by rule -/
/-- more is known of 'next', 'call' -/
def zx_le {β : Type} (f g : Option β) : Prop := ∀ y, f = some y → g = some y
theorem zx_jmp {α : Type} {pc : Nat} {off : Int} {k k' : Nat → Option α} (h : ∀ t, zx_le (k t) (k' t)) : zx_le (ez_jmp pc off k) (ez_jmp pc off k') := by
  intro y hy
  unfold ez_jmp at hy ⊢
  split at hy
  · exact h _ y hy
  · cases hy
theorem zx_if {α : Type} {c : ClassFile.Cond} {x y : Int32} {j n j' n' : Option α} (hj : zx_le j j') (hn : zx_le n n') : zx_le (ez_if c x y j n) (ez_if c x y j' n') := by
  intro z hz
  unfold ez_if at hz ⊢
  cases c <;> dsimp only at hz ⊢ <;> split at hz <;> rename_i q <;> first | (rw [if_pos q]; first | exact hj z hz | exact hn z hz) | (rw [if_neg q]; first | exact hj z hz | exact hn z hz)
theorem zx_tab {α : Type} {pc : Nat} {x : Int32} {dflt : Int} {k k' : Nat → Option α} (h : ∀ t, zx_le (k t) (k' t)) : ∀ (offs : List Int) (lo : Nat), zx_le (ez_tab pc lo offs x dflt k) (ez_tab pc lo offs x dflt k')
  | [], lo => zx_jmp h
  | o :: r, lo => by
    intro z hz
    unfold ez_tab at hz ⊢
    split at hz
    · rename_i q
      rw [if_pos q]
      exact zx_jmp h z hz
    · rename_i q
      rw [if_neg q]
      exact zx_tab h r (lo + 1) z hz
theorem zx_bif {β : Type} {b : Bool} {x x' : Option β} (h : zx_le x x') : zx_le (bif b then x else none) (bif b then x' else none) := by
  cases b
  · intro y hy; cases hy
  · exact h
theorem zx_ite {β : Type} {c : Prop} [Decidable c] {x x' : Option β} (h : zx_le x x') : zx_le (if c then x else none) (if c then x' else none) := by
  intro y hy
  obtain ⟨h1, h2⟩ := z_ite hy
  rw [if_pos h1]
  exact h y h2
theorem zx_eti {β : Type} {c : Prop} [Decidable c] {x x' : Option β} (h : zx_le x x') : zx_le (if c then none else x) (if c then none else x') := by
  intro y hy
  obtain ⟨h1, h2⟩ := z_etI hy
  rw [if_neg h1]
  exact h y h2
theorem zx_no {β : Type} {x : Option β} : zx_le (none : Option β) x := fun y hy => by cases hy
section ZMore
variable {α : Type} {T : zT} {call call' : Nat → Nat → List (Nat × zV) → zM → Option (Option zV × zM)} {next next' : Nat → List (Nat × zV) → List zV → zM → Option α} {ret : Option zV → zM → Option α}
theorem zx_inv {d mid pc callee : Nat} {ls : List (Nat × zV)} {as rest : List zV} {M : zM} (hc : ∀ d callee ls M, zx_le (call d callee ls M) (call' d callee ls M)) (hn : ∀ pc ls st M, zx_le (next pc ls st M) (next' pc ls st M)) : zx_le (ez_inv T call next d mid pc ls callee as rest M) (ez_inv T call' next' d mid pc ls callee as rest M) := by
  refine zx_bif ?_
  cases d with
  | zero => exact zx_no
  | succ d' =>
    intro y h
    dsimp only at h ⊢
    split at h
    · cases h
    · rename_i e
      rw [hc _ _ _ _ _ e]
      exact hn _ _ _ _ y h
    · rename_i e
      rw [hc _ _ _ _ _ e]
      exact hn _ _ _ _ y h
theorem zx_ext {pc callee : Nat} {ls : List (Nat × zV)} {as rest : List zV} {M : zM} (hn : ∀ pc ls st M, zx_le (next pc ls st M) (next' pc ls st M)) : zx_le (ez_ext T next pc ls callee as rest M) (ez_ext T next' pc ls callee as rest M) := by
  refine zx_bif ?_
  intro y h
  split at h
  · exact hn _ _ _ _ y h
  · cases h
set_option maxHeartbeats 8000000 in
theorem zx_rest {d mid pc : Nat} {i : Instr} {len note : Nat} {ls : List (Nat × zV)} {st : List zV} {M : zM} (hc : ∀ d callee ls M, zx_le (call d callee ls M) (call' d callee ls M)) (hn : ∀ pc ls st M, zx_le (next pc ls st M) (next' pc ls st M)) : zx_le (ez_rest T call next ret d mid pc i len note ls st M) (ez_rest T call' next' ret d mid pc i len note ls st M) := by
  intro y h
  unfold ez_rest at h ⊢
  split at h
  case h_1 => exact zx_bif (zx_jmp fun t => hn _ _ _ _) y h
  case h_2 =>
    refine zx_bif ?_ y h
    split
    · exact zx_jmp fun t => zx_if (hn _ _ _ _) (hn _ _ _ _)
    · exact zx_no
  case h_3 =>
    refine zx_bif ?_ y h
    split
    · exact zx_jmp fun t => zx_if (hn _ _ _ _) (hn _ _ _ _)
    · exact zx_no
  case h_4 =>
    refine zx_bif ?_ y h
    split
    · exact zx_jmp fun t => hn _ _ _ _
    · exact hn _ _ _ _
    · exact zx_no
  case h_5 =>
    refine zx_bif ?_ y h
    split
    · exact hn _ _ _ _
    · exact zx_jmp fun t => hn _ _ _ _
    · exact zx_no
  case h_6 =>
    refine zx_bif ?_ y h
    split
    · refine zx_bif ?_
      split
      · refine zx_jmp fun t => ?_
        split
        · exact hn _ _ _ _
        · exact hn _ _ _ _
      · refine zx_jmp fun t => ?_
        split
        · exact hn _ _ _ _
        · exact hn _ _ _ _
    · exact zx_no
  case h_7 =>
    split at h
    · split at h
      · exact zx_bif (zx_tab (fun t => hn _ _ _ _) _ _) y h
      · cases h
    · cases h
  case h_8 =>
    refine zx_bif ?_ y h
    split
    · exact zx_no
    · split
      · exact zx_bif (hn _ _ _ _)
      · exact zx_no
  case h_9 =>
    refine zx_bif ?_ y h
    split
    · exact zx_no
    · split
      · refine zx_bif ?_
        split
        · exact hn _ _ _ _
        · exact zx_no
      · exact zx_no
  case h_10 =>
    refine zx_bif ?_ y h
    split
    · exact zx_bif (zx_ite (hn _ _ _ _))
    · exact zx_no
  case h_11 =>
    refine zx_bif ?_ y h
    split
    · exact zx_bif (zx_ite (hn _ _ _ _))
    · exact zx_no
  case h_12 =>
    refine zx_bif ?_ y h
    split
    · exact zx_bif (zx_ite (hn _ _ _ _))
    · exact zx_no
  case h_13 =>
    refine zx_bif ?_ y h
    split
    · exact zx_bif (zx_ite (hn _ _ _ _))
    · exact zx_no
  case h_14 =>
    refine zx_bif ?_ y h
    split
    · exact zx_bif (zx_ite (hn _ _ _ _))
    · exact zx_no
  case h_15 =>
    refine zx_bif ?_ y h
    split
    · exact zx_bif (zx_ite (hn _ _ _ _))
    · exact zx_no
  case h_16 =>
    refine zx_bif ?_ y h
    split
    · exact zx_bif (zx_ite (hn _ _ _ _))
    · exact zx_no
  case h_17 =>
    refine zx_bif ?_ y h
    split
    · exact zx_bif (zx_ite (hn _ _ _ _))
    · exact zx_no
  case h_18 =>
    refine zx_bif ?_ y h
    split
    · exact zx_bif (hn _ _ _ _)
    · exact zx_no
  case h_19 =>
    refine zx_bif ?_ y h
    split
    · exact zx_bif (zx_eti (hn _ _ _ _))
    · exact zx_no
  case h_20 =>
    refine zx_bif ?_ y h
    split
    · exact zx_no
    · split
      · exact zx_eti (hn _ _ _ _)
      · exact zx_no
  case h_21 =>
    refine zx_bif ?_ y h
    split
    · exact zx_no
    · exact hn _ _ _ _
  case h_22 =>
    refine zx_bif ?_ y h
    split
    · exact hn _ _ _ _
    · exact hn _ _ _ _
    · exact zx_no
  case h_23 =>
    refine zx_bif ?_ y h
    split
    · exact hn _ _ _ _
    · exact hn _ _ _ _
    · exact zx_no
  case h_24 =>
    refine zx_bif ?_ y h
    split
    · exact hn _ _ _ _
    · exact zx_no
  case h_25 =>
    refine zx_bif ?_ y h
    split
    · split
      · exact zx_bif (zx_inv hc hn)
      · exact zx_no
    · split
      · exact zx_bif (zx_ext hn)
      · exact zx_no
    · exact zx_no
  case h_26 =>
    refine zx_bif ?_ y h
    split
    · exact zx_bif (zx_inv hc hn)
    · exact zx_bif (zx_inv hc hn)
    · split
      · exact zx_bif (hn _ _ _ _)
      · exact zx_no
    · split
      · exact zx_bif (hn _ _ _ _)
      · exact zx_no
    · split
      · exact zx_bif (zx_ite (hn _ _ _ _))
      · exact zx_no
    · exact zx_no
  case h_27 =>
    refine zx_bif ?_ y h
    split
    · split
      · exact zx_bif (zx_inv hc hn)
      · exact zx_no
    · split
      · exact zx_bif (zx_inv hc hn)
      · exact zx_no
    · split
      · exact zx_bif (hn _ _ _ _)
      · exact zx_no
    · exact zx_no
  case h_28 => exact h
  case h_29 => exact h
  case h_30 => exact h
  case h_31 => exact h
  case h_32 => cases h
theorem zx_step {d mid pc : Nat} {ls : List (Nat × zV)} {st : List zV} {M : zM} (hc : ∀ d callee ls M, zx_le (call d callee ls M) (call' d callee ls M)) (hn : ∀ pc ls st M, zx_le (next pc ls st M) (next' pc ls st M)) : zx_le (ez_step T call next ret d mid pc ls st M) (ez_step T call' next' ret d mid pc ls st M) := by
  unfold ez_step
  split
  · exact zx_no
  · split
    · exact zx_bif (hn _ _ _ _)
    · exact zx_rest hc hn
end ZMore
theorem zx_run (T : zT) : ∀ (n d mid pc : Nat) (ls : List (Nat × zV)) (st : List zV) (M : zM), zx_le (ez_run T n d mid pc ls st M) (ez_run T (n + 1) d mid pc ls st M) := by
  intro n
  induction n with
  | zero => intro d mid pc ls st M; exact zx_no
  | succ n ih =>
    intro d mid pc ls st M
    exact zx_step (fun d callee ls M => ih d callee 0 ls [] M) (fun pc ls st M => ih d mid pc ls st M)
theorem zx_runK (T : zT) (n k d mid pc : Nat) (ls : List (Nat × zV)) (st : List zV) (M : zM) : zx_le (ez_run T n d mid pc ls st M) (ez_run T (n + k) d mid pc ls st M) := by
  induction k with
  | zero => exact fun y h => h
  | succ k ih => exact fun y h => zx_run T (n + k) d mid pc ls st M y (ih y h)
/-- the evaluator comes to this answer -/
def Ev (T : zT) (d mid pc : Nat) (ls : List (Nat × zV)) (st : List zV) (M : zM) (out : Option zV × zM) : Prop := ∃ n, ez_run T n d mid pc ls st M = some out
section ZEv
variable {T : zT} {d mid pc nt : Nat} {ls : List (Nat × zV)} {r st : List zV} {M : zM} {out : Option zV × zM}
theorem ev_st {i : Instr} {len : Nat} (hc : zt_code T mid pc = some (i, len, nt)) {pc' : Nat} {ls' : List (Nat × zV)} {st' : List zV} {M' : zM} (h : ∀ n, ez_run T (n + 1) d mid pc ls st M = ez_run T n d mid pc' ls' st' M') (k : Ev T d mid pc' ls' st' M' out) : Ev T d mid pc ls st M out := by
  obtain ⟨n, hn⟩ := k
  exact ⟨n + 1, (h n).trans hn⟩
theorem ev_unf {i : Instr} {len : Nat} (hc : zt_code T mid pc = some (i, len, nt)) (n : Nat) : ez_run T (n + 1) d mid pc ls st M = match ez_pure nt (zt_nL T mid) i ls st with
    | some (m, ls', st') => bif Nat.beq m len then ez_run T n d mid (pc + m) ls' st' M else none
    | none => ez_rest T (fun d' callee ls' M' => ez_run T n d' callee 0 ls' [] M') (ez_run T n d mid) (fun v M' => some (v, M')) d mid pc i len nt ls st M := by
  show ez_step T _ _ _ d mid pc ls st M = _
  unfold ez_step
  rw [hc]
  rfl
/-- locals and stack alone -/
theorem e_pure {i : Instr} {len : Nat} {ls' : List (Nat × zV)} {st' : List zV} (hc : zt_code T mid pc = some (i, len, nt)) (hp : ez_pure nt (zt_nL T mid) i ls st = some (len, ls', st')) (k : Ev T d mid (pc + len) ls' st' M out) : Ev T d mid pc ls st M out := by
  refine ev_st hc (fun n => ?_) k
  rw [ev_unf hc, hp]
  dsimp only
  rw [Nat.beq_refl]; rfl
/-- any other instruction -/
theorem e_rest {i : Instr} {len : Nat} {pc' : Nat} {ls' : List (Nat × zV)} {st' : List zV} {M' : zM} (hc : zt_code T mid pc = some (i, len, nt)) (hp : ez_pure nt (zt_nL T mid) i ls st = none) (h : ∀ n, ez_rest T (fun d' callee ls' M' => ez_run T n d' callee 0 ls' [] M') (ez_run T n d mid) (fun v M' => some (v, M')) d mid pc i len nt ls st M = ez_run T n d mid pc' ls' st' M') (k : Ev T d mid pc' ls' st' M' out) : Ev T d mid pc ls st M out := by
  refine ev_st hc (fun n => ?_) k
  rw [ev_unf hc, hp]
  exact h n
theorem e_const {n : Int} {v : Int32} (hc : zt_code T mid pc = some (.iconst n, 1, nt)) (hv : Int32.ofInt n = v) (k : Ev T d mid (pc + 1) ls (.inl v :: st) M out) : Ev T d mid pc ls st M out := by
  subst hv; exact e_pure hc rfl k
theorem e_bip {n : Int} {v : Int32} (hc : zt_code T mid pc = some (.bipush n, 2, nt)) (hv : (Int8.ofInt n).toInt32 = v) (k : Ev T d mid (pc + 2) ls (.inl v :: st) M out) : Ev T d mid pc ls st M out := by
  subst hv; exact e_pure hc rfl k
theorem e_sip {n : Int} {v : Int32} (hc : zt_code T mid pc = some (.sipush n, 3, nt)) (hv : (Int16.ofInt n).toInt32 = v) (k : Ev T d mid (pc + 3) ls (.inl v :: st) M out) : Ev T d mid pc ls st M out := by
  subst hv; exact e_pure hc rfl k
theorem e_lcon {n : Fin 2} {v : Int64} (hc : zt_code T mid pc = some (.lconst n, 1, nt)) (hv : Int64.ofNat (n : Nat) = v) (k : Ev T d mid (pc + 1) ls (.inr (.inl v) :: st) M out) : Ev T d mid pc ls st M out := by
  subst hv; exact e_pure hc rfl k
theorem e_ild {j : Nat} {x : Int32} (hc : zt_code T mid pc = some (.iload j, 2, nt)) (hg : zl_get ls j = some (.inl x)) (k : Ev T d mid (pc + 2) (ls) (.inl x :: st) (M) out) : Ev T d mid pc ls st M out := e_pure hc (by unfold ez_pure; dsimp only; rw [hg]) k

theorem e_ildn {j : Fin 4} {x : Int32} (hc : zt_code T mid pc = some (.iload_n j, 1, nt)) (hg : zl_get ls (j : Nat) = some (.inl x)) (k : Ev T d mid (pc + 1) (ls) (.inl x :: st) (M) out) : Ev T d mid pc ls st M out := e_pure hc (by unfold ez_pure; dsimp only; rw [hg]) k

theorem e_ist {k0 nL : Nat} {x : Int32} (hc : zt_code T mid pc = some (.istore k0, 2, nt)) (hn : zt_nL T mid = nL) (hk : Nat.blt (k0) nL = true) (k : Ev T d mid (pc + 2) (zl_st k0 (.inl x) ls) (r) (M) out) : Ev T d mid pc ls (.inl x :: r) M out := e_pure hc (by unfold ez_pure; dsimp only; rw [hn, hk]; rfl) k

theorem e_istn {k0 : Fin 4} {nL : Nat} {x : Int32} (hc : zt_code T mid pc = some (.istore_n k0, 1, nt)) (hn : zt_nL T mid = nL) (hk : Nat.blt ((k0 : Nat)) nL = true) (k : Ev T d mid (pc + 1) (zl_st (k0 : Nat) (.inl x) ls) (r) (M) out) : Ev T d mid pc ls (.inl x :: r) M out := e_pure hc (by unfold ez_pure; dsimp only; rw [hn, hk]; rfl) k

theorem e_lld {j : Nat} {x : Int64} (hc : zt_code T mid pc = some (.lload j, 2, nt)) (hg : zl_get ls j = some (.inr (.inl x))) (k : Ev T d mid (pc + 2) (ls) (.inr (.inl x) :: st) (M) out) : Ev T d mid pc ls st M out := e_pure hc (by unfold ez_pure; dsimp only; rw [hg]) k

theorem e_lldn {j : Fin 4} {x : Int64} (hc : zt_code T mid pc = some (.lload_n j, 1, nt)) (hg : zl_get ls (j : Nat) = some (.inr (.inl x))) (k : Ev T d mid (pc + 1) (ls) (.inr (.inl x) :: st) (M) out) : Ev T d mid pc ls st M out := e_pure hc (by unfold ez_pure; dsimp only; rw [hg]) k

theorem e_lst {k0 nL : Nat} {x : Int64} (hc : zt_code T mid pc = some (.lstore k0, 2, nt)) (hn : zt_nL T mid = nL) (hk : Nat.blt (k0 + 1) nL = true) (k : Ev T d mid (pc + 2) (zl_st2 k0 (.inr (.inl x)) ls) (r) (M) out) : Ev T d mid pc ls (.inr (.inl x) :: r) M out := e_pure hc (by unfold ez_pure; dsimp only; rw [hn, hk]; rfl) k

theorem e_lstn {k0 : Fin 4} {nL : Nat} {x : Int64} (hc : zt_code T mid pc = some (.lstore_n k0, 1, nt)) (hn : zt_nL T mid = nL) (hk : Nat.blt ((k0 : Nat) + 1) nL = true) (k : Ev T d mid (pc + 1) (zl_st2 (k0 : Nat) (.inr (.inl x)) ls) (r) (M) out) : Ev T d mid pc ls (.inr (.inl x) :: r) M out := e_pure hc (by unfold ez_pure; dsimp only; rw [hn, hk]; rfl) k

theorem e_ald {j : Nat} {x : Nat × Option Nat} (hc : zt_code T mid pc = some (.aload j, 2, nt)) (hg : zl_get ls j = some (.inr (.inr x))) (k : Ev T d mid (pc + 2) (ls) (.inr (.inr x) :: st) (M) out) : Ev T d mid pc ls st M out := e_pure hc (by unfold ez_pure; dsimp only; rw [hg]) k

theorem e_aldn {j : Fin 4} {x : Nat × Option Nat} (hc : zt_code T mid pc = some (.aload_n j, 1, nt)) (hg : zl_get ls (j : Nat) = some (.inr (.inr x))) (k : Ev T d mid (pc + 1) (ls) (.inr (.inr x) :: st) (M) out) : Ev T d mid pc ls st M out := e_pure hc (by unfold ez_pure; dsimp only; rw [hg]) k

theorem e_ast {k0 nL : Nat} {x : Nat × Option Nat} (hc : zt_code T mid pc = some (.astore k0, 2, nt)) (hn : zt_nL T mid = nL) (hk : Nat.blt (k0) nL = true) (k : Ev T d mid (pc + 2) (zl_st k0 (.inr (.inr x)) ls) (r) (M) out) : Ev T d mid pc ls (.inr (.inr x) :: r) M out := e_pure hc (by unfold ez_pure; dsimp only; rw [hn, hk]; rfl) k

theorem e_astn {k0 : Fin 4} {nL : Nat} {x : Nat × Option Nat} (hc : zt_code T mid pc = some (.astore_n k0, 1, nt)) (hn : zt_nL T mid = nL) (hk : Nat.blt ((k0 : Nat)) nL = true) (k : Ev T d mid (pc + 1) (zl_st (k0 : Nat) (.inr (.inr x)) ls) (r) (M) out) : Ev T d mid pc ls (.inr (.inr x) :: r) M out := e_pure hc (by unfold ez_pure; dsimp only; rw [hn, hk]; rfl) k

theorem e_inc {k0 nL : Nat} {n : Int} {x v : Int32} (hc : zt_code T mid pc = some (.iinc k0 n, 3, nt)) (hn : zt_nL T mid = nL) (hk : Nat.blt k0 nL = true) (hg : zl_get ls k0 = some (.inl x)) (hv : Int32.ofInt n = v) (k : Ev T d mid (pc + 3) (zl_st k0 (.inl (x + v)) ls) (st) (M) out) : Ev T d mid pc ls st M out := by
  subst hv
  exact e_pure hc (by unfold ez_pure; dsimp only; rw [hg]; dsimp only; rw [hn, hk]; rfl) k

theorem e_div {x y : Int32} (hc : zt_code T mid pc = some (.idiv, 1, nt)) (hy : ¬ y = 0) (k : Ev T d mid (pc + 1) (ls) (.inl (x / y) :: r) (M) out) : Ev T d mid pc ls (.inl y :: .inl x :: r) M out := e_pure hc (if_neg hy) k

theorem e_rem {x y : Int32} (hc : zt_code T mid pc = some (.irem, 1, nt)) (hy : ¬ y = 0) (k : Ev T d mid (pc + 1) (ls) (.inl (x - x / y * y) :: r) (M) out) : Ev T d mid pc ls (.inl y :: .inl x :: r) M out := e_pure hc (if_neg hy) k

theorem zl_eq (i : Nat) (v : zV) (ls : List (Nat × zV)) : zl_get (zl_st i v ls) i = some v := by
  unfold zl_st zl_get
  dsimp only
  rw [Nat.beq_refl]; rfl
theorem zl_eq2 (i : Nat) (v : zV) (ls : List (Nat × zV)) : zl_get (zl_st2 i v ls) i = some v := by
  unfold zl_st2 zl_get
  dsimp only
  rw [Nat.beq_refl]; rfl
theorem zl_filter {p : Nat × zV → Bool} {ls : List (Nat × zV)} {j : Nat} {w : zV} (h : zl_get ls j = some w) (hp : p (j, w) = true) : zl_get (ls.filter p) j = some w := by
  induction ls with
  | nil => cases h
  | cons q r ih =>
    unfold zl_get at h
    cases hb : Nat.beq q.1 j with
    | true =>
      rw [hb] at h
      have e1 : q.1 = j := Nat.eq_of_beq_eq_true hb
      have e2 : q.2 = w := Option.some.inj h
      have e3 : q = (j, w) := by rw [← e1, ← e2]
      rw [List.filter_cons_of_pos (by rw [e3]; exact hp)]
      unfold zl_get
      rw [hb, e2]; rfl
    | false =>
      rw [hb] at h
      have h : zl_get r j = some w := h
      by_cases hq : p q = true
      · rw [List.filter_cons_of_pos hq]
        unfold zl_get
        rw [hb]
        exact ih h
      · rw [List.filter_cons_of_neg hq]
        exact ih h
theorem zl_ne {i j : Nat} {v w : zV} {ls : List (Nat × zV)} (h : zl_get ls j = some w) (h1 : Nat.beq i j = false) (h2 : (!(Nat.beq j i) && !(Nat.beq (j + 1) i && Nat.beq (zc w) 2)) = true) : zl_get (zl_st i v ls) j = some w := by
  unfold zl_st zl_get
  dsimp only
  rw [h1]
  exact zl_filter h h2
theorem zl_ne2 {i j : Nat} {v w : zV} {ls : List (Nat × zV)} (h : zl_get ls j = some w) (h1 : Nat.beq i j = false) (h2 : (!(Nat.beq j i) && (!(Nat.beq j (i + 1)) && !(Nat.beq (j + 1) i && Nat.beq (zc w) 2))) = true) : zl_get (zl_st2 i v ls) j = some w := by
  unfold zl_st2 zl_get
  dsimp only
  rw [h1]
  exact zl_filter h h2

theorem e_iK {k0 nL : Nat} {x v : Int32} (hc : zt_code T mid pc = some (.istore k0, 2, nt)) (hn : zt_nL T mid = nL) (hk : Nat.blt (k0) nL = true) (hv : v = x) (k : ∀ ls', zl_get ls' k0 = some (.inl v) → (∀ j w, zl_get ls j = some w → Nat.beq k0 j = false → (!(Nat.beq j k0) && !(Nat.beq (j + 1) k0 && Nat.beq (zc w) 2)) = true → zl_get ls' j = some w) → Ev T d mid (pc + 2) ls' r M out) : Ev T d mid pc ls (.inl x :: r) M out := by
  subst hv
  exact e_ist hc hn hk (k _ (zl_eq _ _ _) fun j w h h1 h2 => zl_ne h h1 h2)

theorem e_iKn {k0 : Fin 4} {nL : Nat} {x v : Int32} (hc : zt_code T mid pc = some (.istore_n k0, 1, nt)) (hn : zt_nL T mid = nL) (hk : Nat.blt ((k0 : Nat)) nL = true) (hv : v = x) (k : ∀ ls', zl_get ls' (k0 : Nat) = some (.inl v) → (∀ j w, zl_get ls j = some w → Nat.beq (k0 : Nat) j = false → (!(Nat.beq j (k0 : Nat)) && !(Nat.beq (j + 1) (k0 : Nat) && Nat.beq (zc w) 2)) = true → zl_get ls' j = some w) → Ev T d mid (pc + 1) ls' r M out) : Ev T d mid pc ls (.inl x :: r) M out := by
  subst hv
  exact e_istn hc hn hk (k _ (zl_eq _ _ _) fun j w h h1 h2 => zl_ne h h1 h2)

theorem e_lK {k0 nL : Nat} {x v : Int64} (hc : zt_code T mid pc = some (.lstore k0, 2, nt)) (hn : zt_nL T mid = nL) (hk : Nat.blt (k0 + 1) nL = true) (hv : v = x) (k : ∀ ls', zl_get ls' k0 = some (.inr (.inl v)) → (∀ j w, zl_get ls j = some w → Nat.beq k0 j = false → (!(Nat.beq j k0) && (!(Nat.beq j (k0 + 1)) && !(Nat.beq (j + 1) k0 && Nat.beq (zc w) 2))) = true → zl_get ls' j = some w) → Ev T d mid (pc + 2) ls' r M out) : Ev T d mid pc ls (.inr (.inl x) :: r) M out := by
  subst hv
  exact e_lst hc hn hk (k _ (zl_eq2 _ _ _) fun j w h h1 h2 => zl_ne2 h h1 h2)

theorem e_lKn {k0 : Fin 4} {nL : Nat} {x v : Int64} (hc : zt_code T mid pc = some (.lstore_n k0, 1, nt)) (hn : zt_nL T mid = nL) (hk : Nat.blt ((k0 : Nat) + 1) nL = true) (hv : v = x) (k : ∀ ls', zl_get ls' (k0 : Nat) = some (.inr (.inl v)) → (∀ j w, zl_get ls j = some w → Nat.beq (k0 : Nat) j = false → (!(Nat.beq j (k0 : Nat)) && (!(Nat.beq j ((k0 : Nat) + 1)) && !(Nat.beq (j + 1) (k0 : Nat) && Nat.beq (zc w) 2))) = true → zl_get ls' j = some w) → Ev T d mid (pc + 1) ls' r M out) : Ev T d mid pc ls (.inr (.inl x) :: r) M out := by
  subst hv
  exact e_lstn hc hn hk (k _ (zl_eq2 _ _ _) fun j w h h1 h2 => zl_ne2 h h1 h2)

theorem e_aK {k0 nL : Nat} {x v : Nat × Option Nat} (hc : zt_code T mid pc = some (.astore k0, 2, nt)) (hn : zt_nL T mid = nL) (hk : Nat.blt (k0) nL = true) (hv : v = x) (k : ∀ ls', zl_get ls' k0 = some (.inr (.inr v)) → (∀ j w, zl_get ls j = some w → Nat.beq k0 j = false → (!(Nat.beq j k0) && !(Nat.beq (j + 1) k0 && Nat.beq (zc w) 2)) = true → zl_get ls' j = some w) → Ev T d mid (pc + 2) ls' r M out) : Ev T d mid pc ls (.inr (.inr x) :: r) M out := by
  subst hv
  exact e_ast hc hn hk (k _ (zl_eq _ _ _) fun j w h h1 h2 => zl_ne h h1 h2)

theorem e_aKn {k0 : Fin 4} {nL : Nat} {x v : Nat × Option Nat} (hc : zt_code T mid pc = some (.astore_n k0, 1, nt)) (hn : zt_nL T mid = nL) (hk : Nat.blt ((k0 : Nat)) nL = true) (hv : v = x) (k : ∀ ls', zl_get ls' (k0 : Nat) = some (.inr (.inr v)) → (∀ j w, zl_get ls j = some w → Nat.beq (k0 : Nat) j = false → (!(Nat.beq j (k0 : Nat)) && !(Nat.beq (j + 1) (k0 : Nat) && Nat.beq (zc w) 2)) = true → zl_get ls' j = some w) → Ev T d mid (pc + 1) ls' r M out) : Ev T d mid pc ls (.inr (.inr x) :: r) M out := by
  subst hv
  exact e_astn hc hn hk (k _ (zl_eq _ _ _) fun j w h h1 h2 => zl_ne h h1 h2)

theorem e_incK {k0 nL : Nat} {n : Int} {x v u : Int32} (hc : zt_code T mid pc = some (.iinc k0 n, 3, nt)) (hn : zt_nL T mid = nL) (hk : Nat.blt k0 nL = true) (hg : zl_get ls k0 = some (.inl x)) (hv : Int32.ofInt n = v) (hu : u = x + v) (k : ∀ ls', zl_get ls' k0 = some (.inl u) → (∀ j w, zl_get ls j = some w → Nat.beq k0 j = false → (!(Nat.beq j k0) && !(Nat.beq (j + 1) k0 && Nat.beq (zc w) 2)) = true → zl_get ls' j = some w) → Ev T d mid (pc + 3) ls' st M out) : Ev T d mid pc ls st M out := by
  subst hu
  exact e_inc hc hn hk hg hv (k _ (zl_eq _ _ _) fun j w h h1 h2 => zl_ne h h1 h2)

theorem e_jmp {α : Type} {off : Int} {tgt : Nat} {f : Nat → Option α} (ht : (pc : Int) + off = (tgt : Int)) : ez_jmp pc off f = f tgt := by
  unfold ez_jmp
  rw [ht]

theorem e_goto {off : Int} {tgt : Nat} (hc : zt_code T mid pc = some (.goto off, 3, nt)) (ht : (pc : Int) + off = (tgt : Int)) (k : Ev T d mid (tgt) (ls) (st) (M) out) : Ev T d mid pc ls st M out := e_rest hc rfl (fun n => e_jmp ht) k

def ez_cmp (c : ClassFile.Cond) (x y : Int32) : Prop := match c with
  | .eq => x = y
  | .ne => ¬ x = y
  | .lt => x < y
  | .ge => y ≤ x
  | .gt => y < x
  | .le => x ≤ y
theorem e_ifJ {α : Type} {c : ClassFile.Cond} {x y : Int32} {a b : Option α} (h : ez_cmp c x y) : ez_if c x y a b = a := by
  cases c <;> first | exact if_pos h | exact if_neg h
theorem e_ifN {α : Type} {c : ClassFile.Cond} {x y : Int32} {a b : Option α} (h : ¬ ez_cmp c x y) : ez_if c x y a b = b := by
  cases c <;> first | exact if_neg h | exact if_pos (Classical.byContradiction h)

theorem e_icJ {c : ClassFile.Cond} {off : Int} {tgt : Nat} {x y : Int32} (hc : zt_code T mid pc = some (.if_icmp c off, 3, nt)) (ht : (pc : Int) + off = (tgt : Int)) (h : ez_cmp c x y) (k : Ev T d mid (tgt) (ls) (r) (M) out) : Ev T d mid pc ls (.inl y :: .inl x :: r) M out := e_rest hc rfl (fun n => (e_jmp ht).trans (e_ifJ h)) k

theorem e_icN {c : ClassFile.Cond} {off : Int} {tgt : Nat} {x y : Int32} (hc : zt_code T mid pc = some (.if_icmp c off, 3, nt)) (ht : (pc : Int) + off = (tgt : Int)) (h : ¬ ez_cmp c x y) (k : Ev T d mid (pc + 3) (ls) (r) (M) out) : Ev T d mid pc ls (.inl y :: .inl x :: r) M out := e_rest hc rfl (fun n => (e_jmp ht).trans (e_ifN h)) k

theorem e_izJ {c : ClassFile.Cond} {off : Int} {tgt : Nat} {x : Int32} (hc : zt_code T mid pc = some (.ifCond c off, 3, nt)) (ht : (pc : Int) + off = (tgt : Int)) (h : ez_cmp c x 0) (k : Ev T d mid (tgt) (ls) (r) (M) out) : Ev T d mid pc ls (.inl x :: r) M out := e_rest hc rfl (fun n => (e_jmp ht).trans (e_ifJ h)) k

theorem e_izN {c : ClassFile.Cond} {off : Int} {tgt : Nat} {x : Int32} (hc : zt_code T mid pc = some (.ifCond c off, 3, nt)) (ht : (pc : Int) + off = (tgt : Int)) (h : ¬ ez_cmp c x 0) (k : Ev T d mid (pc + 3) (ls) (r) (M) out) : Ev T d mid pc ls (.inl x :: r) M out := e_rest hc rfl (fun n => (e_jmp ht).trans (e_ifN h)) k

theorem e_nu0 {off : Int} {t tgt : Nat} {o : Option Nat} (hc : zt_code T mid pc = some (.ifnull off, 3, nt)) (ht : (pc : Int) + off = (tgt : Int)) (ho : o = none) (k : Ev T d mid (tgt) (ls) (r) (M) out) : Ev T d mid pc ls (.inr (.inr (t, o)) :: r) M out := by
  subst ho
  exact e_rest hc rfl (fun n => e_jmp ht) k

theorem e_nu1 {off : Int} {t tgt k0 : Nat} {o : Option Nat} (hc : zt_code T mid pc = some (.ifnull off, 3, nt)) (ht : (pc : Int) + off = (tgt : Int)) (ho : o = some k0) (k : Ev T d mid (pc + 3) (ls) (r) (M) out) : Ev T d mid pc ls (.inr (.inr (t, o)) :: r) M out := by
  subst ho
  exact e_rest hc rfl (fun n => rfl) k

theorem e_nn0 {off : Int} {t tgt : Nat} {o : Option Nat} (hc : zt_code T mid pc = some (.ifnonnull off, 3, nt)) (ht : (pc : Int) + off = (tgt : Int)) (ho : o = none) (k : Ev T d mid (pc + 3) (ls) (r) (M) out) : Ev T d mid pc ls (.inr (.inr (t, o)) :: r) M out := by
  subst ho
  exact e_rest hc rfl (fun n => rfl) k

theorem e_nn1 {off : Int} {t tgt k0 : Nat} {o : Option Nat} (hc : zt_code T mid pc = some (.ifnonnull off, 3, nt)) (ht : (pc : Int) + off = (tgt : Int)) (ho : o = some k0) (k : Ev T d mid (tgt) (ls) (r) (M) out) : Ev T d mid pc ls (.inr (.inr (t, o)) :: r) M out := by
  subst ho
  exact e_rest hc rfl (fun n => e_jmp ht) k

theorem e_aeq1 {off : Int} {t tgt : Nat} {x y : Option Nat} (hc : zt_code T mid pc = some (.if_acmp .eq off, 3, nt)) (ht : (pc : Int) + off = (tgt : Int)) (h30 : Nat.blt t 30 = true) (h : x = y) (k : Ev T d mid (tgt) (ls) (r) (M) out) : Ev T d mid pc ls (.inr (.inr (t, y)) :: .inr (.inr (t, x)) :: r) M out := by
  refine e_rest hc rfl (fun n => ?_) k
  show (bif Nat.beq t t && Nat.blt t 30 then _ else none) = _
  rw [Nat.beq_refl, h30]
  exact (e_jmp ht).trans (if_pos h)

theorem e_aeq0 {off : Int} {t tgt : Nat} {x y : Option Nat} (hc : zt_code T mid pc = some (.if_acmp .eq off, 3, nt)) (ht : (pc : Int) + off = (tgt : Int)) (h30 : Nat.blt t 30 = true) (h : ¬ x = y) (k : Ev T d mid (pc + 3) (ls) (r) (M) out) : Ev T d mid pc ls (.inr (.inr (t, y)) :: .inr (.inr (t, x)) :: r) M out := by
  refine e_rest hc rfl (fun n => ?_) k
  show (bif Nat.beq t t && Nat.blt t 30 then _ else none) = _
  rw [Nat.beq_refl, h30]
  exact (e_jmp ht).trans (if_neg h)

theorem e_ane1 {off : Int} {t tgt : Nat} {x y : Option Nat} (hc : zt_code T mid pc = some (.if_acmp .ne off, 3, nt)) (ht : (pc : Int) + off = (tgt : Int)) (h30 : Nat.blt t 30 = true) (h : x = y) (k : Ev T d mid (pc + 3) (ls) (r) (M) out) : Ev T d mid pc ls (.inr (.inr (t, y)) :: .inr (.inr (t, x)) :: r) M out := by
  refine e_rest hc rfl (fun n => ?_) k
  show (bif Nat.beq t t && Nat.blt t 30 then _ else none) = _
  rw [Nat.beq_refl, h30]
  exact (e_jmp ht).trans (if_pos h)

theorem e_ane0 {off : Int} {t tgt : Nat} {x y : Option Nat} (hc : zt_code T mid pc = some (.if_acmp .ne off, 3, nt)) (ht : (pc : Int) + off = (tgt : Int)) (h30 : Nat.blt t 30 = true) (h : ¬ x = y) (k : Ev T d mid (tgt) (ls) (r) (M) out) : Ev T d mid pc ls (.inr (.inr (t, y)) :: .inr (.inr (t, x)) :: r) M out := by
  refine e_rest hc rfl (fun n => ?_) k
  show (bif Nat.beq t t && Nat.blt t 30 then _ else none) = _
  rw [Nat.beq_refl, h30]
  exact (e_jmp ht).trans (if_neg h)

theorem e_tab {dflt hi : Int} {lo len tgt : Nat} {offs : Array Int} {x : Int32} (hc : zt_code T mid pc = some (.tableswitch dflt (Int.ofNat lo) hi offs, len, nt)) (h1 : (decide (hi + 1 = (lo : Int) + (offs.size : Nat)) && Nat.ble (lo + offs.size) 1000) = true) (hs : ∀ f : Nat → Option (Option zV × zM), ez_tab pc lo offs.toList x dflt f = f tgt) (k : Ev T d mid (tgt) (ls) (r) (M) out) : Ev T d mid pc ls (.inl x :: r) M out := by
  refine e_rest hc rfl (fun n => ?_) k
  show (bif _ then ez_tab pc lo offs.toList x dflt _ else none) = _
  rw [h1]
  exact hs _

theorem e_tb1 {lo tgt : Nat} {o : Int} {l : List Int} {x : Int32} {dflt : Int} (h : x = Int32.ofNat lo) (ht : (pc : Int) + o = (tgt : Int)) (f : Nat → Option (Option zV × zM)) : ez_tab pc lo (o :: l) x dflt f = f tgt := (if_pos h).trans (e_jmp ht)

theorem e_tb0 {lo tgt : Nat} {o : Int} {l : List Int} {x : Int32} {dflt : Int} (h : ¬ x = Int32.ofNat lo) (f : Nat → Option (Option zV × zM)) (k : ez_tab pc (lo + 1) l x dflt f = f tgt) : ez_tab pc lo (o :: l) x dflt f = f tgt := (if_neg h).trans k

theorem e_tbd {lo tgt : Nat} {x : Int32} {dflt : Int} (ht : (pc : Int) + dflt = (tgt : Int)) (f : Nat → Option (Option zV × zM)) : ez_tab pc lo [] x dflt f = f tgt := e_jmp ht

theorem e_getI {idx t j k0 : Nat} {o : Option Nat} (hc : zt_code T mid pc = some (.getfield idx, 3, nt)) (hf : zt_fld T mid idx = some (t, j, 0) ∨ zt_fld T mid idx = some (t, j, 1)) (ho : o = some k0) (k : Ev T d mid (pc + 3) (ls) (.inl (zm_I M t k0 j) :: r) (M) out) : Ev T d mid pc ls (.inr (.inr (t, o)) :: r) M out := by
  subst ho
  rcases hf with hf | hf <;> refine e_rest hc rfl (fun n => ?_) k <;> unfold ez_rest <;> dsimp only <;> rw [hf] <;> dsimp only <;> rw [Nat.beq_refl, Nat.beq_refl] <;> rfl

theorem e_getR {idx t j f k0 : Nat} {o : Option Nat} (hc : zt_code T mid pc = some (.getfield idx, 3, nt)) (hf : zt_fld T mid idx = some (t, j, f + 2)) (ho : o = some k0) (k : Ev T d mid (pc + 3) (ls) (.inr (.inr (f, zm_R M t k0 j)) :: r) (M) out) : Ev T d mid pc ls (.inr (.inr (t, o)) :: r) M out := by
  subst ho
  refine e_rest hc rfl (fun n => ?_) k
  unfold ez_rest
  dsimp only
  rw [hf]
  dsimp only
  rw [Nat.beq_refl, Nat.beq_refl]; rfl

theorem e_putI {idx t j k0 : Nat} {o : Option Nat} {M' : zM} {x : Int32} (hc : zt_code T mid pc = some (.putfield idx, 3, nt)) (hf : zt_pfl T mid idx = some (t, j, 0))  (ho : o = some k0) (hM : M' = zm_setI M t k0 j x) (k : Ev T d mid (pc + 3) (ls) (r) (M') out) : Ev T d mid pc ls (.inl x :: .inr (.inr (t, o)) :: r) M out := by
  subst hM
  subst ho
  refine e_rest hc rfl (fun n => ?_) k
  unfold ez_rest
  dsimp only
  rw [hf]
  dsimp only
  rw [Nat.beq_refl, Nat.beq_refl]
  rfl

theorem e_putZ {idx t j k0 : Nat} {o : Option Nat} {M' : zM} {x : Int32} (hc : zt_code T mid pc = some (.putfield idx, 3, nt)) (hf : zt_pfl T mid idx = some (t, j, 1)) (hx : x = 0 ∨ x = 1) (ho : o = some k0) (hM : M' = zm_setI M t k0 j x) (k : Ev T d mid (pc + 3) (ls) (r) (M') out) : Ev T d mid pc ls (.inl x :: .inr (.inr (t, o)) :: r) M out := by
  subst hM
  subst ho
  refine e_rest hc rfl (fun n => ?_) k
  unfold ez_rest
  dsimp only
  rw [hf]
  dsimp only
  rw [Nat.beq_refl, Nat.beq_refl]
  show (match (if x = 0 ∨ x = 1 then some (zm_setI M t k0 j x) else none) with | some M' => _ | none => none) = _
  rw [if_pos hx]

theorem e_putR {idx t j k0 : Nat} {o : Option Nat} {M' : zM} {f : Nat} {y : Option Nat} (hc : zt_code T mid pc = some (.putfield idx, 3, nt)) (hf : zt_pfl T mid idx = some (t, j, f + 2))  (ho : o = some k0) (hM : M' = zm_setR M t k0 j y) (k : Ev T d mid (pc + 3) (ls) (r) (M') out) : Ev T d mid pc ls (.inr (.inr (f, y)) :: .inr (.inr (t, o)) :: r) M out := by
  subst hM
  subst ho
  refine e_rest hc rfl (fun n => ?_) k
  unfold ez_rest
  dsimp only
  rw [hf]
  dsimp only
  rw [Nat.beq_refl, Nat.beq_refl]
  show (match (bif Nat.beq f f then some (zm_setR M t k0 j y) else none) with | some M' => _ | none => none) = _
  rw [Nat.beq_refl]; rfl

theorem e_iald {t k0 : Nat} {x : Int32} {o : Option Nat} (hc : zt_code T mid pc = some (.iaload, 1, nt)) (ht : (Nat.beq t 20 || Nat.beq t 21 || Nat.beq t 90) = true) (ho : o = some k0) (hi : z_in x (zm_L M t k0)) (k : Ev T d mid (pc + 1) (ls) (.inl (zm_I M t k0 x.toNatClampNeg) :: r) (M) out) : Ev T d mid pc ls (.inl x :: .inr (.inr (t, o)) :: r) M out := by
  subst ho
  refine e_rest hc rfl (fun n => ?_) k
  show (bif Nat.beq t 20 || Nat.beq t 21 || Nat.beq t 90 then (if z_in x (zm_L M t k0) then _ else none) else none) = _
  rw [ht]
  exact if_pos hi

theorem e_bald {t k0 : Nat} {x : Int32} {o : Option Nat} (hc : zt_code T mid pc = some (.baload, 1, nt)) (ht : (Nat.beq t 22) = true) (ho : o = some k0) (hi : z_in x (zm_L M t k0)) (k : Ev T d mid (pc + 1) (ls) (.inl (zm_I M t k0 x.toNatClampNeg) :: r) (M) out) : Ev T d mid pc ls (.inl x :: .inr (.inr (t, o)) :: r) M out := by
  subst ho
  refine e_rest hc rfl (fun n => ?_) k
  show (bif Nat.beq t 22 then (if z_in x (zm_L M t k0) then _ else none) else none) = _
  rw [ht]
  exact if_pos hi

theorem e_lald {t k0 : Nat} {x : Int32} {o : Option Nat} (hc : zt_code T mid pc = some (.laload, 1, nt)) (ht : (Nat.beq t 23) = true) (ho : o = some k0) (hi : z_in x (zm_L M t k0)) (k : Ev T d mid (pc + 1) (ls) (.inr (.inl (zm_J M t k0 x.toNatClampNeg)) :: r) (M) out) : Ev T d mid pc ls (.inl x :: .inr (.inr (t, o)) :: r) M out := by
  subst ho
  refine e_rest hc rfl (fun n => ?_) k
  show (bif Nat.beq t 23 then (if z_in x (zm_L M t k0) then _ else none) else none) = _
  rw [ht]
  exact if_pos hi

theorem e_aald {t k0 : Nat} {x : Int32} {o : Option Nat} (hc : zt_code T mid pc = some (.aaload, 1, nt)) (ht : (Nat.beq t 24 || Nat.beq t 25) = true) (ho : o = some k0) (hi : z_in x (zm_L M t k0)) (k : Ev T d mid (pc + 1) (ls) (.inr (.inr (zt_elt T t, zm_R M t k0 x.toNatClampNeg)) :: r) (M) out) : Ev T d mid pc ls (.inl x :: .inr (.inr (t, o)) :: r) M out := by
  subst ho
  refine e_rest hc rfl (fun n => ?_) k
  show (bif Nat.beq t 24 || Nat.beq t 25 then (if z_in x (zm_L M t k0) then _ else none) else none) = _
  rw [ht]
  exact if_pos hi

theorem e_iast {t k0 : Nat} {x : Int32} {o : Option Nat} {v : Int32} (hc : zt_code T mid pc = some (.iastore, 1, nt)) (ht : (Nat.beq t 20 || Nat.beq t 21) = true) (ho : o = some k0) (hi : z_in x (zm_L M t k0)) {M' : zM} (hM : M' = zm_setI M t k0 x.toNatClampNeg v) (k : Ev T d mid (pc + 1) (ls) (r) (M') out) : Ev T d mid pc ls (.inl v :: .inl x :: .inr (.inr (t, o)) :: r) M out := by
  subst hM
  subst ho
  refine e_rest hc rfl (fun n => ?_) k
  show (bif Nat.beq t 20 || Nat.beq t 21 then (if z_in x (zm_L M t k0) then _ else none) else none) = _
  rw [ht]
  exact if_pos hi

theorem e_bast {t k0 : Nat} {x : Int32} {o : Option Nat} {v : Int32} (hc : zt_code T mid pc = some (.bastore, 1, nt)) (ht : (Nat.beq t 22) = true) (ho : o = some k0) (hi : z_in x (zm_L M t k0)) {M' : zM} (hM : M' = zm_setI M t k0 x.toNatClampNeg v.toInt8.toInt32) (k : Ev T d mid (pc + 1) (ls) (r) (M') out) : Ev T d mid pc ls (.inl v :: .inl x :: .inr (.inr (t, o)) :: r) M out := by
  subst hM
  subst ho
  refine e_rest hc rfl (fun n => ?_) k
  show (bif Nat.beq t 22 then (if z_in x (zm_L M t k0) then _ else none) else none) = _
  rw [ht]
  exact if_pos hi

theorem e_last {t k0 : Nat} {x : Int32} {o : Option Nat} {v : Int64} (hc : zt_code T mid pc = some (.lastore, 1, nt)) (ht : (Nat.beq t 23) = true) (ho : o = some k0) (hi : z_in x (zm_L M t k0)) {M' : zM} (hM : M' = zm_setJ M t k0 x.toNatClampNeg v) (k : Ev T d mid (pc + 1) (ls) (r) (M') out) : Ev T d mid pc ls (.inr (.inl v) :: .inl x :: .inr (.inr (t, o)) :: r) M out := by
  subst hM
  subst ho
  refine e_rest hc rfl (fun n => ?_) k
  show (bif Nat.beq t 23 then (if z_in x (zm_L M t k0) then _ else none) else none) = _
  rw [ht]
  exact if_pos hi

theorem e_aast {t k0 : Nat} {x : Int32} {o : Option Nat} {f : Nat} {v : Option Nat} (hc : zt_code T mid pc = some (.aastore, 1, nt)) (ht : ((Nat.beq t 24 || Nat.beq t 25) && Nat.beq f (zt_elt T t)) = true) (ho : o = some k0) (hi : z_in x (zm_L M t k0)) {M' : zM} (hM : M' = zm_setR M t k0 x.toNatClampNeg v) (k : Ev T d mid (pc + 1) (ls) (r) (M') out) : Ev T d mid pc ls (.inr (.inr (f, v)) :: .inl x :: .inr (.inr (t, o)) :: r) M out := by
  subst hM
  subst ho
  refine e_rest hc rfl (fun n => ?_) k
  show (bif (Nat.beq t 24 || Nat.beq t 25) && Nat.beq f (zt_elt T t) then (if z_in x (zm_L M t k0) then _ else none) else none) = _
  rw [ht]
  exact if_pos hi

theorem e_alen {t k0 : Nat} {o : Option Nat} (hc : zt_code T mid pc = some (.arraylength, 1, nt)) (ht : (Nat.ble 20 t && Nat.blt t 26 || Nat.beq t 90) = true) (ho : o = some k0) (k : Ev T d mid (pc + 1) (ls) (.inl (Int32.ofNat (zm_L M t k0)) :: r) (M) out) : Ev T d mid pc ls (.inr (.inr (t, o)) :: r) M out := by
  subst ho
  refine e_rest hc rfl (fun n => ?_) k
  show (bif Nat.ble 20 t && Nat.blt t 26 || Nat.beq t 90 then _ else none) = _
  rw [ht]; rfl

theorem e_newa_int {n : Int32} (hc : zt_code T mid pc = some (.newarray .int, 2, nt)) (ht : (Nat.beq nt 20 || Nat.beq nt 21) = true) (hn : ¬ (n < 0 ∨ 100000 < n.toNatClampNeg)) {M' : zM} (hM : M' = zm_new M nt n.toNatClampNeg n.toNatClampNeg) (k : Ev T d mid (pc + 2) (ls) (.inr (.inr (nt, some (zm_n M))) :: r) (M') out) : Ev T d mid pc ls (.inl n :: r) M out := by
  subst hM
  refine e_rest hc rfl (fun m => ?_) k
  show (bif Nat.beq nt 20 || Nat.beq nt 21 then (if n < 0 ∨ 100000 < n.toNatClampNeg then none else _) else none) = _
  rw [ht]
  exact if_neg hn

theorem e_newa_byte {n : Int32} (hc : zt_code T mid pc = some (.newarray .byte, 2, nt)) (ht : (Nat.beq nt 22) = true) (hn : ¬ (n < 0 ∨ 100000 < n.toNatClampNeg)) {M' : zM} (hM : M' = zm_new M nt n.toNatClampNeg n.toNatClampNeg) (k : Ev T d mid (pc + 2) (ls) (.inr (.inr (nt, some (zm_n M))) :: r) (M') out) : Ev T d mid pc ls (.inl n :: r) M out := by
  subst hM
  refine e_rest hc rfl (fun m => ?_) k
  show (bif Nat.beq nt 22 then (if n < 0 ∨ 100000 < n.toNatClampNeg then none else _) else none) = _
  rw [ht]
  exact if_neg hn

theorem e_newa_long {n : Int32} (hc : zt_code T mid pc = some (.newarray .long, 2, nt)) (ht : (Nat.beq nt 23) = true) (hn : ¬ (n < 0 ∨ 100000 < n.toNatClampNeg)) {M' : zM} (hM : M' = zm_new M nt n.toNatClampNeg n.toNatClampNeg) (k : Ev T d mid (pc + 2) (ls) (.inr (.inr (nt, some (zm_n M))) :: r) (M') out) : Ev T d mid pc ls (.inl n :: r) M out := by
  subst hM
  refine e_rest hc rfl (fun m => ?_) k
  show (bif Nat.beq nt 23 then (if n < 0 ∨ 100000 < n.toNatClampNeg then none else _) else none) = _
  rw [ht]
  exact if_neg hn

theorem e_anew {idx t : Nat} {n : Int32} (hc : zt_code T mid pc = some (.anewarray idx, 3, nt)) (hf : zt_anw T mid idx = some t) (hn : ¬ (n < 0 ∨ 100000 < n.toNatClampNeg)) {M' : zM} (hM : M' = zm_new M t n.toNatClampNeg n.toNatClampNeg) (k : Ev T d mid (pc + 3) (ls) (.inr (.inr (t, some (zm_n M))) :: r) (M') out) : Ev T d mid pc ls (.inl n :: r) M out := by
  subst hM
  refine e_rest hc rfl (fun m => ?_) k
  unfold ez_rest
  dsimp only
  rw [hf]
  exact if_neg hn

theorem e_new {idx t N : Nat} (hc : zt_code T mid pc = some (.new idx, 3, nt)) (hf : zt_neu T mid idx = some (t, N)) {M' : zM} (hM : M' = zm_new M t 0 N) (k : Ev T d mid (pc + 3) (ls) (.inr (.inr (t, some (zm_n M))) :: st) (M') out) : Ev T d mid pc ls st M out := by
  subst hM
  refine e_rest hc rfl (fun m => ?_) k
  unfold ez_rest
  dsimp only
  rw [hf]; rfl

theorem e_ldcI {idx j : Nat} {v : Int32} {w : Int64} (hc : zt_code T mid pc = some (.ldc idx, 2, nt)) (hf : zt_con T mid idx = some (0, j, v, w)) (k : Ev T d mid (pc + 2) (ls) (.inl v :: st) (M) out) : Ev T d mid pc ls st M out := by
  refine e_rest hc rfl (fun m => ?_) k
  unfold ez_rest
  dsimp only
  rw [hf]; rfl

theorem e_ldcS {idx j : Nat} {v : Int32} {w : Int64} (hc : zt_code T mid pc = some (.ldc idx, 2, nt)) (hf : zt_con T mid idx = some (2, j, v, w)) (k : Ev T d mid (pc + 2) (ls) (.inr (.inr (91, some j)) :: st) (M) out) : Ev T d mid pc ls st M out := by
  refine e_rest hc rfl (fun m => ?_) k
  unfold ez_rest
  dsimp only
  rw [hf]; rfl

theorem e_ldwI {idx j : Nat} {v : Int32} {w : Int64} (hc : zt_code T mid pc = some (.ldc_w idx, 3, nt)) (hf : zt_con T mid idx = some (0, j, v, w)) (k : Ev T d mid (pc + 3) (ls) (.inl v :: st) (M) out) : Ev T d mid pc ls st M out := by
  refine e_rest hc rfl (fun m => ?_) k
  unfold ez_rest
  dsimp only
  rw [hf]; rfl

theorem e_ldwS {idx j : Nat} {v : Int32} {w : Int64} (hc : zt_code T mid pc = some (.ldc_w idx, 3, nt)) (hf : zt_con T mid idx = some (2, j, v, w)) (k : Ev T d mid (pc + 3) (ls) (.inr (.inr (91, some j)) :: st) (M) out) : Ev T d mid pc ls st M out := by
  refine e_rest hc rfl (fun m => ?_) k
  unfold ez_rest
  dsimp only
  rw [hf]; rfl

theorem e_ld2 {idx j : Nat} {v : Int32} {w : Int64} (hc : zt_code T mid pc = some (.ldc2_w idx, 3, nt)) (hf : zt_con T mid idx = some (1, j, v, w)) (k : Ev T d mid (pc + 3) (ls) (.inr (.inl w) :: st) (M) out) : Ev T d mid pc ls st M out := by
  refine e_rest hc rfl (fun m => ?_) k
  unfold ez_rest
  dsimp only
  rw [hf]; rfl

theorem e_inv {i : Instr} {callee nl : Nat} {as rest : List zV} {rv : Option zV} {M' : zM} (hc : zt_code T mid pc = some (i, 3, nt)) (hp : ez_pure nt (zt_nL T mid) i ls st = none) (h : ∀ n, ez_rest T (fun d' callee ls' M' => ez_run T n d' callee 0 ls' [] M') (ez_run T n (d + 1) mid) (fun v M' => some (v, M')) (d + 1) mid pc i 3 nt ls st M = ez_inv T (fun d' callee ls' M' => ez_run T n d' callee 0 ls' [] M') (ez_run T n (d + 1) mid) (d + 1) mid pc ls callee as rest M) (hl : zt_nL T callee = nl) (hfit : ez_fit nl as = true) (h8 : Nat.ble (zc_sum rest) 8 = true) (hcal : Ev T d callee 0 (zl_args 0 as) [] M (rv, M')) (k : Ev T (d + 1) mid (pc + 3) ls (rv.toList ++ rest) M' out) : Ev T (d + 1) mid pc ls st M out := by
  obtain ⟨n1, h1⟩ := hcal
  obtain ⟨n2, h2⟩ := k
  refine ⟨n1 + n2 + 1, ?_⟩
  rw [ev_unf hc, hp]
  try dsimp only
  rw [h]
  unfold ez_inv
  rw [hl, hfit, h8]
  have g1 := zx_runK T n1 n2 _ _ _ _ _ _ _ h1
  have g2 : ez_run T (n1 + n2) (d + 1) mid (pc + 3) ls (rv.toList ++ rest) M' = some out := by
    rw [Nat.add_comm]
    exact zx_runK T n2 n1 _ _ _ _ _ _ _ h2
  show (match ez_run T (n1 + n2) d callee 0 (zl_args 0 as) [] M with | none => none | some (none, M') => _ | some (some v, M') => _) = _
  rw [g1]
  cases rv with
  | none => exact g2
  | some v => exact g2

theorem e_cvi {idx callee n t nl k0 : Nat} {o : Option Nat} {as' as rest : List zV} {rv : Option zV} {M' : zM} (hc : zt_code T mid pc = some (.invokevirtual idx, 3, nt)) (hf : zt_cal T mid idx = some (0, callee, n, t)) (hd : st.drop n = .inr (.inr (t, o)) :: rest) (ha : (st.take n).reverse = as') (hn : Nat.beq (st.take n).length n = true) (ho : o = some k0) (has : as = .inr (.inr (t, some k0)) :: as') (hl : zt_nL T callee = nl) (hfit : ez_fit nl as = true) (h8 : Nat.ble (zc_sum rest) 8 = true) (hcal : Ev T d callee 0 (zl_args 0 as) [] M (rv, M')) (k : Ev T (d + 1) mid (pc + 3) ls (rv.toList ++ rest) M' out) : Ev T (d + 1) mid pc ls st M out := by
  subst ho
  subst has
  refine e_inv hc rfl (fun m => ?_) hl hfit h8 hcal k
  unfold ez_rest
  try dsimp only
  rw [hf]
  show (match st.drop n with | .inr (.inr (t', some k)) :: rest => (bif Nat.beq t t' && Nat.beq (st.take n).length n then ez_inv T _ _ _ _ _ _ callee (.inr (.inr (t', some k)) :: (st.take n).reverse) rest M else none) | _ => none) = _
  rw [hd]
  try dsimp only
  rw [hn, Nat.beq_refl, ha]; rfl

theorem e_csp {idx callee n t nl k0 : Nat} {o : Option Nat} {as' as rest : List zV} {rv : Option zV} {M' : zM} (hc : zt_code T mid pc = some (.invokespecial idx, 3, nt)) (hf : zt_cal T mid idx = some (2, callee, n, t)) (hd : st.drop n = .inr (.inr (t, o)) :: rest) (ha : (st.take n).reverse = as') (hn : Nat.beq (st.take n).length n = true) (ho : o = some k0) (has : as = .inr (.inr (t, some k0)) :: as') (hl : zt_nL T callee = nl) (hfit : ez_fit nl as = true) (h8 : Nat.ble (zc_sum rest) 8 = true) (hcal : Ev T d callee 0 (zl_args 0 as) [] M (rv, M')) (k : Ev T (d + 1) mid (pc + 3) ls (rv.toList ++ rest) M' out) : Ev T (d + 1) mid pc ls st M out := by
  subst ho
  subst has
  refine e_inv hc rfl (fun m => ?_) hl hfit h8 hcal k
  unfold ez_rest
  try dsimp only
  rw [hf]
  show (match st.drop n with | .inr (.inr (t', some k)) :: rest => (bif Nat.beq t t' && Nat.beq (st.take n).length n then ez_inv T _ _ _ _ _ _ callee (.inr (.inr (t', some k)) :: (st.take n).reverse) rest M else none) | _ => none) = _
  rw [hd]
  try dsimp only
  rw [hn, Nat.beq_refl, ha]; rfl

theorem e_csn {idx callee n t nl k0 : Nat} {o : Option Nat} {as' as rest : List zV} {rv : Option zV} {M' : zM} (hc : zt_code T mid pc = some (.invokespecial idx, 3, nt)) (hf : zt_cal T mid idx = some (9, callee, n, t)) (hd : st.drop n = .inr (.inr (t, o)) :: rest) (ha : (st.take n).reverse = as') (hn : Nat.beq (st.take n).length n = true) (ho : o = some k0) (has : as = .inr (.inr (t, some k0)) :: as') (hl : zt_nL T callee = nl) (hfit : ez_fit nl as = true) (h8 : Nat.ble (zc_sum rest) 8 = true) (hcal : Ev T d callee 0 (zl_args 0 as) [] M (rv, M')) (k : Ev T (d + 1) mid (pc + 3) ls (rv.toList ++ rest) M' out) : Ev T (d + 1) mid pc ls st M out := by
  subst ho
  subst has
  refine e_inv hc rfl (fun m => ?_) hl hfit h8 hcal k
  unfold ez_rest
  try dsimp only
  rw [hf]
  show (match st.drop n with | .inr (.inr (t', some k)) :: rest => (bif Nat.beq t t' && Nat.beq (st.take n).length n then ez_inv T _ _ _ _ _ _ callee (.inr (.inr (t', some k)) :: (st.take n).reverse) rest M else none) | _ => none) = _
  rw [hd]
  try dsimp only
  rw [hn, Nat.beq_refl, ha]; rfl

theorem e_cst {idx callee n t nl : Nat} {as rest : List zV} {rv : Option zV} {M' : zM} (hc : zt_code T mid pc = some (.invokestatic idx, 3, nt)) (hf : zt_cal T mid idx = some (1, callee, n, t)) (hd : st.drop n = rest) (ha : (st.take n).reverse = as) (hn : Nat.beq (st.take n).length n = true) (hl : zt_nL T callee = nl) (hfit : ez_fit nl as = true) (h8 : Nat.ble (zc_sum rest) 8 = true) (hcal : Ev T d callee 0 (zl_args 0 as) [] M (rv, M')) (k : Ev T (d + 1) mid (pc + 3) ls (rv.toList ++ rest) M' out) : Ev T (d + 1) mid pc ls st M out := by
  subst hd
  refine e_inv hc rfl (fun m => ?_) hl hfit h8 hcal k
  unfold ez_rest
  try dsimp only
  rw [hf]
  show (bif Nat.beq (st.take n).length n then ez_inv T _ _ _ _ _ _ callee (st.take n).reverse (st.drop n) M else none) = _
  rw [hn, ha]; rfl

theorem e_csN {idx callee n t nl : Nat} {as rest : List zV} {rv : Option zV} {M' : zM} (hc : zt_code T mid pc = some (.invokestatic idx, 3, nt)) (hf : zt_cal T mid idx = some (8, callee, n, t)) (hd : st.drop n = rest) (ha : (st.take n).reverse = as) (hn : Nat.beq (st.take n).length n = true) (hl : zt_nL T callee = nl) (hfit : ez_fit nl as = true) (h8 : Nat.ble (zc_sum rest) 8 = true) (hcal : Ev T d callee 0 (zl_args 0 as) [] M (rv, M')) (k : Ev T (d + 1) mid (pc + 3) ls (rv.toList ++ rest) M' out) : Ev T (d + 1) mid pc ls st M out := by
  subst hd
  refine e_inv hc rfl (fun m => ?_) hl hfit h8 hcal k
  unfold ez_rest
  try dsimp only
  rw [hf]
  show (bif Nat.beq (st.take n).length n then ez_inv T _ _ _ _ _ _ callee (st.take n).reverse (st.drop n) M else none) = _
  rw [hn, ha]; rfl

theorem e_ext {idx callee n t k0 : Nat} {as' as rest : List zV} {v : Int32} (hc : zt_code T mid pc = some (.invokevirtual idx, 3, nt)) (hf : zt_cal T mid idx = some (7, callee, n, t)) (hd : st.drop n = .inr (.inr (91, some k0)) :: rest) (ha : (st.take n).reverse = as') (hn : Nat.beq (st.take n).length n = true) (has : as = .inr (.inr (91, some k0)) :: as') (h8 : (Nat.ble (zc_sum rest) 8 && as.all z_no) = true) (hv : zt_ext T callee as = some v) (k : Ev T d mid (pc + 3) ls (.inl v :: rest) M out) : Ev T d mid pc ls st M out := by
  subst has
  refine e_rest hc rfl (fun m => ?_) k
  unfold ez_rest
  try dsimp only
  rw [hf]
  show (match st.drop n with | .inr (.inr (t', some k)) :: rest => (bif Nat.beq t' 91 && Nat.beq (st.take n).length n then ez_ext T _ _ _ callee (.inr (.inr (t', some k)) :: (st.take n).reverse) rest M else none) | _ => none) = _
  rw [hd]
  try dsimp only
  rw [hn, ha]
  unfold ez_ext
  rw [h8, hv]; rfl

theorem e_obj {idx callee n t t' k0 : Nat} {o : Option Nat} (hc : zt_code T mid pc = some (.invokespecial idx, 3, nt)) (hf : zt_cal T mid idx = some (3, callee, n, t)) (ho : o = some k0) (h8 : Nat.ble (zc_sum r) 8 = true) (k : Ev T d mid (pc + 3) (ls) (r) (M) out) : Ev T d mid pc ls (.inr (.inr (t', o)) :: r) M out := by
  subst ho
  refine e_rest hc rfl (fun m => ?_) k
  unfold ez_rest
  try dsimp only
  rw [hf]
  try dsimp only
  rw [h8]; rfl

theorem e_max {idx callee n t : Nat} {x y : Int32} (hc : zt_code T mid pc = some (.invokestatic idx, 3, nt)) (hf : zt_cal T mid idx = some (4, callee, n, t)) (h8 : Nat.ble (zc_sum r) 8 = true) (k : Ev T d mid (pc + 3) (ls) (.inl (if x < y then y else x) :: r) (M) out) : Ev T d mid pc ls (.inl y :: .inl x :: r) M out := by
  refine e_rest hc rfl (fun m => ?_) k
  unfold ez_rest
  try dsimp only
  rw [hf]
  try dsimp only
  rw [h8]; rfl

theorem e_min {idx callee n t : Nat} {x y : Int32} (hc : zt_code T mid pc = some (.invokestatic idx, 3, nt)) (hf : zt_cal T mid idx = some (5, callee, n, t)) (h8 : Nat.ble (zc_sum r) 8 = true) (k : Ev T d mid (pc + 3) (ls) (.inl (if y < x then y else x) :: r) (M) out) : Ev T d mid pc ls (.inl y :: .inl x :: r) M out := by
  refine e_rest hc rfl (fun m => ?_) k
  unfold ez_rest
  try dsimp only
  rw [hf]
  try dsimp only
  rw [h8]; rfl

theorem e_copy {idx callee n t k1 k2 : Nat} {n0 dp sp : Int32} {o1 o2 : Option Nat} (hc : zt_code T mid pc = some (.invokestatic idx, 3, nt)) (hf : zt_cal T mid idx = some (6, callee, n, t)) (h1 : o1 = some k1) (h2 : o2 = some k2) (h8 : Nat.ble (zc_sum r) 8 = true) (hi : ¬ sp < 0 ∧ ¬ dp < 0 ∧ ¬ n0 < 0 ∧ sp.toNatClampNeg + n0.toNatClampNeg ≤ zm_L M 20 k2 ∧ dp.toNatClampNeg + n0.toNatClampNeg ≤ zm_L M 20 k1) {M' : zM} (hM : M' = zm_copy M 20 k1 (va_cpy (zm_I M 20 k2) (zm_I M 20 k1) sp.toNatClampNeg dp.toNatClampNeg n0.toNatClampNeg)) (k : Ev T d mid (pc + 3) (ls) (r) (M') out) : Ev T d mid pc ls (.inl n0 :: .inl dp :: .inr (.inr (20, o1)) :: .inl sp :: .inr (.inr (20, o2)) :: r) M out := by
  subst hM
  subst h1
  subst h2
  refine e_rest hc rfl (fun m => ?_) k
  unfold ez_rest
  try dsimp only
  rw [hf]
  try dsimp only
  rw [h8]
  exact if_pos hi

theorem e_ri {x : Int32} (hc : zt_code T mid pc = some (.ireturn, 1, nt)) (hr : zt_ret T mid = 1) : Ev T d mid pc ls [.inl x] M (some (.inl x), M) := by
  refine ⟨1, ?_⟩
  rw [ev_unf hc]
  show ez_rest T _ _ _ d mid pc (.ireturn) 1 nt ls _ M = _
  unfold ez_rest
  try dsimp only
  rw [hr]
  rfl

theorem e_rz {x : Int32} (hc : zt_code T mid pc = some (.ireturn, 1, nt)) (hr : zt_ret T mid = 2) (hx : x = 0 ∨ x = 1) : Ev T d mid pc ls [.inl x] M (some (.inl x), M) := by
  refine ⟨1, ?_⟩
  rw [ev_unf hc]
  show ez_rest T _ _ _ d mid pc (.ireturn) 1 nt ls _ M = _
  unfold ez_rest
  try dsimp only
  rw [hr]
  exact if_pos hx

theorem e_rl {x : Int64} (hc : zt_code T mid pc = some (.lreturn, 1, nt)) (hr : zt_ret T mid = 3) : Ev T d mid pc ls [.inr (.inl x)] M (some (.inr (.inl x)), M) := by
  refine ⟨1, ?_⟩
  rw [ev_unf hc]
  show ez_rest T _ _ _ d mid pc (.lreturn) 1 nt ls _ M = _
  unfold ez_rest
  try dsimp only
  rw [hr]
  rfl

theorem e_rr {x : Nat × Option Nat} (hc : zt_code T mid pc = some (.areturn, 1, nt)) (hr : zt_ret T mid = 4) : Ev T d mid pc ls [.inr (.inr x)] M (some (.inr (.inr x)), M) := by
  refine ⟨1, ?_⟩
  rw [ev_unf hc]
  show ez_rest T _ _ _ d mid pc (.areturn) 1 nt ls _ M = _
  unfold ez_rest
  try dsimp only
  rw [hr]
  rfl

theorem e_rv  (hc : zt_code T mid pc = some (.return_, 1, nt)) (hr : zt_ret T mid = 0) : Ev T d mid pc ls [] M (none, M) := by
  refine ⟨1, ?_⟩
  rw [ev_unf hc]
  show ez_rest T _ _ _ d mid pc (.return_) 1 nt ls _ M = _
  unfold ez_rest
  try dsimp only
  rw [hr]
  rfl

def zlet {α β : Type} (x : α) (f : α → β) : β := f x
theorem k_let {σ τ : Type} {x : τ} {f : τ → Option σ} {so : σ} {Gl : Prop} (hs : zlet x f = some so) (h : ∀ y, y = x → f y = some so → Gl) : Gl := h x rfl hs
theorem k_bind {σ τ : Type} {x : Option σ} {f : σ → Option τ} {so : τ} (h : x.bind f = some so) : ∃ q, x = some q ∧ f q = some so := Option.bind_eq_some_iff.mp h
theorem k_if {σ : Type} {c : Prop} [Decidable c] {A B : Option σ} {so : σ} {Gl : Prop} (hs : (if c then A else B) = some so) (h1 : c → A = some so → Gl) (h2 : ¬ c → B = some so → Gl) : Gl := by
  by_cases hc : c
  · rw [if_pos hc] at hs; exact h1 hc hs
  · rw [if_neg hc] at hs; exact h2 hc hs
theorem k_opt {σ : Type} {o : Option Nat} {A : Option σ} {B : Nat → Option σ} {so : σ} {Gl : Prop} (hs : (match o with | none => A | some k => B k) = some so) (h1 : o = none → A = some so → Gl) (h2 : ∀ k, o = some k → B k = some so → Gl) : Gl := by
  cases o with
  | none => exact h1 rfl hs
  | some k => exact h2 k rfl hs
end ZEv
