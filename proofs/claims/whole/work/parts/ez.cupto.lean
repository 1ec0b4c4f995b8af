/-! THE CLASS: letters up to an occurrence, how many -/
section
variable {M M' : zM} {pa : Nat → Nat} {P : yP} {Q : Nat}
/-- a rule that was read and learned stays so where its cells stay -/
theorem cX_gen (hP : py_ok P) (h : cX M pa Q P) (e3 : ∀ n, py_dm P n → ∀ j, zm_I M' 3 (pa n) j = zm_I M 3 (pa n) j ∧ zm_R M' 3 (pa n) j = zm_R M 3 (pa n) j) (e21 : ∀ n, py_dm P n → (∀ j, zm_I M' 21 (pa n + 1) j = zm_I M 21 (pa n + 1) j) ∧ zm_L M' 21 (pa n + 1) = zm_L M 21 (pa n + 1)) (e5 : ∀ j, j ≤ 13 → zm_I M' 5 Q j = zm_I M 5 Q j ∧ zm_R M' 5 Q j = zm_R M 5 Q j) (e20 : ∀ i, i ≤ 9 → (∀ j, zm_I M' 20 (Q + i) j = zm_I M 20 (Q + i) j) ∧ zm_L M' 20 (Q + i) = zm_L M 20 (Q + i)) (e24 : ∀ i, i ≤ 9 → (∀ j, zm_R M' 24 (Q + i) j = zm_R M 24 (Q + i) j) ∧ zm_L M' 24 (Q + i) = zm_L M 24 (Q + i)) (en : zm_n M ≤ zm_n M') : cX M' pa Q P := by
  obtain ⟨a1, a2, ⟨r1, r2, r3, r4, r5, r6, r7, r8⟩, a4⟩ := h
  refine ⟨⟨?_, ?_, a1.2.2⟩, ?_, ⟨⟨?_, ?_⟩, ?_, ?_, ⟨?_, ?_, ?_⟩, ?_, ?_, ?_, by omega⟩, ?_, ?_⟩
  · intro n hn
    obtain ⟨g1, g2, g3, g4, g5, g6, g7⟩ := a1.1 n hn
    rw [(e3 n hn 0).1, (e3 n hn 1).1, (e3 n hn 4).2, (e3 n hn 5).2, (e3 n hn 15).2, (e21 n hn).2]
    exact ⟨g1, g2, g3, g4, g5, g6, by omega⟩
  · intro n a c b hn e
    have hc := ok_kid hP hn (show c ∈ py_ks P n by rw [e]; simp)
    rw [(e3 c hc 7).2, (e3 c hc 2).1]
    exact a1.2.1 n a c b hn e
  · intro m hm
    unfold ca_n
    rw [(e3 m hm 8).1, (e3 m hm 9).1, (e3 m hm 10).1, (e3 m hm 11).1, (e3 m hm 12).1, (e3 m hm 13).1, (e3 m hm 14).1]
    obtain ⟨g1, g2, g3, g4, g5, g6, g7, g8⟩ := a2 m hm
    refine ⟨g1, g2, g3, g4, g5, g6, g7, fun k k1 k2 => ?_⟩
    rw [(e21 m hm).1]
    exact g8 k k1 k2
  · unfold cw_ru
    rw [(e5 5 (by omega)).2, (e5 6 (by omega)).2, (e5 7 (by omega)).2, (e5 8 (by omega)).2, (e5 9 (by omega)).2, (e5 10 (by omega)).2, (e5 11 (by omega)).2, (e5 12 (by omega)).2, (e5 13 (by omega)).2, (e20 1 (by omega)).2, (e24 2 (by omega)).2, (e20 3 (by omega)).2, (e20 4 (by omega)).2, (e20 5 (by omega)).2, (e20 6 (by omega)).2, (e20 7 (by omega)).2, (e24 8 (by omega)).2, (e24 9 (by omega)).2]
    exact r1.1
  · intro c hc
    rw [(e20 5 (by omega)).1, (e20 6 (by omega)).1]
    exact r1.2 c hc
  · rw [(e5 0 (by omega)).1]; exact r2
  · rw [(e5 1 (by omega)).2]; exact r3
  · rw [(e5 2 (by omega)).1]; exact r4.1
  · rw [(e5 3 (by omega)).1]; exact r4.2.1
  · rw [(e5 4 (by omega)).1]; exact r4.2.2
  · intro o ho
    rw [(e20 1 (by omega)).1, (e24 2 (by omega)).1]
    exact r5 o ho
  · intro c hc
    rw [(e24 8 (by omega)).1]
    exact r6 c hc
  · intro c hc
    rw [(e24 9 (by omega)).1]
    exact r7 c hc
  · intro c hc
    rw [(e20 7 (by omega)).1]
    exact a4.1 c hc
  · intro o ho
    rw [(e20 3 (by omega)).1, (e20 4 (by omega)).1]
    exact a4.2 o ho
end
/-- letters needed at one level, by the bits of what is enough and what is over -/
def py_hdb (P : yP) (en ov : Int32) (n own : Nat) : List Nat := if py_kd P n = 2 then (py_bf (py_ks P n) own).flatMap (py_wd P) else if py_kd P n = 4 then (py_sm (fun c => c != own && zbt ov (4 * py_nb P n + (py_bf (py_ks P n) c).length)) (py_wd P) (py_ks P n) []).flatten else if py_kd P n = 5 then (if zbt en (py_nb P n) then (List.replicate (py_fr P (py_nb P n) - 1) (py_wd P own)).flatten else []) else []
def py_adb (P : yP) (en ov : Int32) (x : Nat) : List Nat := py_ur P (fun k o => match py_up P k with
  | none => []
  | some p => o.getD [] ++ py_hdb P en ov p k) x
def sq_W (sp t k j : Nat) : Prop := (t = 7 ∧ k = sp ∧ (j = 1 ∨ j = 4)) ∨ (t = 20 ∧ (k = sp + 1 ∨ k = sp + 2)) ∨ (t = 24 ∧ k = sp + 3)
section
variable {M M' : zM} {pa : Nat → Nat} {P : yP} {d sp Q : Nat} {t : List Nat} {en ov : Int32}
theorem adb_up (h : py_ok P) {x p : Nat} (hx : py_dm P x) (e : py_up P x = some p) : py_adb P en ov x = py_adb P en ov p ++ py_hdb P en ov p x := by
  unfold py_adb
  rw [ur_up h hx e]
  simp only [e, Option.getD_some]
theorem adb_rt (h : py_ok P) : py_adb P en ov (py_rt P) = [] := by
  unfold py_adb
  rw [ur_rt h]
  simp only [ok_up0 h]
theorem cl_nAhead_7 (hP : py_ok P) (hX : cX M pa Q P) {n own : Nat} (hn : py_dm P n) (ho : py_dm P own) : ∀ (b a : List Nat) (v : Nat), py_ks P n = a ++ b → ∀ fuel, b.length < fuel → sp_neededAhead_7 d fuel (some (pa own)) (nI v) (b.head?.map pa) M = some (nI (v + ((py_bf b own).flatMap (py_wd P)).length), M) := by
  intro b
  induction b with
  | nil =>
    intro a v e fuel hf
    cases fuel with
    | zero => cases hf
    | succ fuel => rfl
  | cons c b ih =>
    intro a v e fuel hf
    cases fuel with
    | zero => cases hf
    | succ fuel =>
      have hc : c ∈ py_ks P n := by rw [e]; simp
      have hdc := ok_kid hP hn hc
      have eqv : (some (pa c) = some (pa own)) ↔ c = own := by
        constructor
        · intro h
          injection h with h
          exact hX.1.2.2 c own hdc ho h
        · intro h
          rw [h]
      show sp_neededAhead_7 d (fuel + 1) (some (pa own)) (nI v) (some (pa c)) M = _
      rw [sp_neededAhead_7]
      simp only [eqv, sp_neededAhead_31, zlet]
      by_cases q : c = own
      · rw [if_pos q]
        unfold py_bf
        rw [List.takeWhile_cons_of_neg (by simp [q])]
        rfl
      · rw [if_neg q]
        have h12 : zm_I M 3 (pa c) 12 = nI (py_ln P c) := (hX.2.1 c hdc).2.2.2.2.1
        have hnx : zm_R M 3 (pa c) 7 = b.head?.map pa := cN_nx hX.1 hn e
        rw [h12, hnx, nI_add, ih (a ++ [c]) _ (by rw [e]; simp) fuel (by rw [List.length_cons] at hf; omega)]
        unfold py_bf
        rw [List.takeWhile_cons_of_pos (by simp; exact q), List.flatMap_cons, List.length_append]
        unfold py_ln
        rw [Nat.add_assoc]
theorem cl_nIn_7 (hP : py_ok P) (hX : cX M pa Q P) {n : Nat} {v2 : Int32} {sel : Nat → Bool} (hn : py_dm P n) (k4 : py_kd P n = 4) (hsel : ∀ a c b, py_ks P n = a ++ c :: b → zbt v2 a.length = sel c) : ∀ (b a : List Nat) (v : Nat), py_ks P n = a ++ b → ∀ fuel, b.length < fuel → sp_neededIn_7 d fuel v2 (nI v) (b.head?.map pa) M = some (nI (v + (b.map (fun c => if sel c then (py_wd P c).length else 0)).sum), M) := by
  have h4k := (ok_k4 hP hn k4).2.1
  intro b
  induction b with
  | nil =>
    intro a v e fuel hf
    cases fuel with
    | zero => cases hf
    | succ fuel => rfl
  | cons c b ih =>
    intro a v e fuel hf
    cases fuel with
    | zero => cases hf
    | succ fuel =>
      have hc : c ∈ py_ks P n := by rw [e]; simp
      have hdc := ok_kid hP hn hc
      have hal : a.length + (b.length + 1) ≤ 4 := by rw [e] at h4k; simpa using h4k
      have hpl : zm_I M 3 (pa c) 2 = nI a.length := cN_pl hX.1 hn e
      have h12 : zm_I M 3 (pa c) 12 = nI (py_ln P c) := (hX.2.1 c hdc).2.2.2.2.1
      have hnx : zm_R M 3 (pa c) 7 = b.head?.map pa := cN_nx hX.1 hn e
      show sp_neededIn_7 d (fuel + 1) v2 (nI v) (some (pa c)) M = _
      rw [sp_neededIn_7]
      simp only [hpl, zy_has v2 (show a.length < 32 by omega), hsel a c b e, sp_neededIn_29, zlet, hnx, h12, nI_add]
      rw [List.map_cons, List.sum_cons]
      by_cases q : sel c = true
      · rw [if_pos q, if_neg (show ¬ (1 : Int32) = 0 by decide), if_pos q, ih (a ++ [c]) _ (by rw [e]; simp) fuel (by rw [List.length_cons] at hf; omega)]
        unfold py_ln
        rw [Nat.add_assoc]
      · rw [if_neg q, if_pos rfl, if_neg q, ih (a ++ [c]) _ (by rw [e]; simp) fuel (by rw [List.length_cons] at hf; omega), Nat.zero_add]
theorem oth_sel (hP : py_ok P) {n own : Nat} (hn : py_dm P n) (k4 : py_kd P n = 4) (ho : own ∈ py_ks P n) : ∀ a c b, py_ks P n = a ++ c :: b → zbt ((ov >>> ((4 * nI (py_nb P n)) &&& 31)) &&& ((1 <<< (nI (py_bf (py_ks P n) own).length &&& 31)) ^^^ (-1))) a.length = (c != own && zbt ov (4 * py_nb P n + (py_bf (py_ks P n) c).length)) := by
  intro a c b e
  obtain ⟨k1, k2, k3, k5⟩ := ok_k4 hP hn k4
  have hna := ok_na hP
  have hnd := ok_nd hP hn
  have hal : a.length + (b.length + 1) ≤ 4 := by rw [e] at k2; simpa using k2
  have hbf : py_bf (py_ks P n) c = a := by
    rw [e] at hnd ⊢
    refine (bf_eq ?_).1
    intro hm
    have := (List.nodup_append.mp hnd).2.2 c hm c (List.mem_cons_self)
    exact this rfl
  have hol : (py_bf (py_ks P n) own).length < 4 := by
    have h1 := bf_at ho
    have := (List.getElem?_eq_some_iff.mp h1).1
    omega
  have e4 : (4 : Int32) * nI (py_nb P n) = nI (4 * py_nb P n) := pk_mul 4 _
  have hone : (1 : Int32) <<< (nI (py_bf (py_ks P n) own).length &&& 31) = zbit (py_bf (py_ks P n) own).length := rfl
  rw [e4, zy_and, zy_xor, zy_m1 (by omega), hone, zy_bit (by omega) (by omega), zy_shr ov (show 4 * py_nb P n < 32 by omega) (by omega), if_pos (show 4 * py_nb P n + a.length < 32 by omega), hbf]
  have hiff : (a.length = (py_bf (py_ks P n) own).length) ↔ c = own := by
    constructor
    · intro h
      have h1 := bf_at ho
      rw [← h] at h1
      have h2 : (py_ks P n)[a.length]? = some c := by rw [e]; simp
      rw [h1] at h2
      injection h2 with h2
      exact h2.symm
    · intro h
      rw [← h, hbf]
  by_cases q : c = own
  · rw [decide_eq_true (hiff.mpr q)]
    simp [q]
  · rw [decide_eq_false (fun x => q (hiff.mp x))]
    have : (c != own) = true := by simpa using q
    rw [this]
    simp
theorem cl_others (hP : py_ok P) (hX : cX M pa Q P) {n own : Nat} (ho : py_dm P own) (e : py_up P own = some n) (k4 : py_kd P n = 4) : sp_othersOver d (some (pa own)) (some (pa n)) ov M = some ((ov >>> ((4 * nI (py_nb P n)) &&& 31)) &&& ((1 <<< (nI (py_bf (py_ks P n) own).length &&& 31)) ^^^ (-1)), M) := by
  have hn := ok_pdm hP ho e
  have hf := (ok_fin hP ho e).1
  unfold sp_othersOver
  simp only [cN_nb hX.1 hn (.inr (.inl k4)), cN_pl hX.1 hn hf]
theorem hdb_v {n own : Nat} (k : Nat) (hk : py_kd P n = k) : (k = 2 → py_hdb P en ov n own = (py_bf (py_ks P n) own).flatMap (py_wd P)) ∧ (k = 4 → py_hdb P en ov n own = (py_sm (fun c => c != own && zbt ov (4 * py_nb P n + (py_bf (py_ks P n) c).length)) (py_wd P) (py_ks P n) []).flatten) ∧ (k = 5 → py_hdb P en ov n own = if zbt en (py_nb P n) then (List.replicate (py_fr P (py_nb P n) - 1) (py_wd P own)).flatten else []) ∧ (k ≠ 2 → k ≠ 4 → k ≠ 5 → py_hdb P en ov n own = []) := by
  unfold py_hdb
  rw [hk]
  refine ⟨?_, ?_, ?_, ?_⟩
  · intro h; rw [if_pos h]
  · intro h; rw [if_neg (by omega), if_pos h]
  · intro h; rw [if_neg (by omega), if_neg (by omega), if_pos h]
  · intro h1 h2 h3; rw [if_neg h1, if_neg h2, if_neg h3]
theorem cl_lenUp_18 (hP : py_ok P) (hX : cX M pa Q P) (hen : ∀ c, c < py_nc P → zbt en c = true → 2 ≤ py_fr P c) : ∀ x, py_dm P x → ∀ (v fuel : Nat), py_hg P (py_rt P) - py_hg P x + 1 < fuel → sp_lengthUpTo_18 d fuel (some Q) en ov (nI v) (some (pa x)) M = some (nI (v + (py_adb P en ov x).length), M) := by
  have hLF : zLF = 100000 := rfl
  have hru := cR_ru hX.2.2.1
  refine ok_climb hP _ ?_ ?_
  · intro v fuel hf
    cases fuel with
    | zero => cases hf
    | succ fuel =>
      rw [adb_rt hP, sp_lengthUpTo_18]
      simp only [cN_up hX.1 (ok_rt hP), ok_up0 hP]
      rfl
  · intro x p hx e ih v fuel hf
    have hp := ok_pdm hP hx e
    have hhg := ok_uphg hP hx e
    have htop := ok_top hP hp
    have hl := ok_ln hP hp
    have hfin := (ok_fin hP hx e).1
    have hck := ck_v hP hp
    have kck : ∀ k, k ≤ 5 → ((nI (ck (py_kd P p)) = nI k) ↔ ck (py_kd P p) = k) := fun k hk => nI_eq (by omega) (by omega)
    have e2 : (2 : Int32) = nI 2 := rfl
    have e4 : (4 : Int32) = nI 4 := rfl
    have e5 : (5 : Int32) = nI 5 := rfl
    cases fuel with
    | zero => cases hf
    | succ fuel =>
      have next : ∀ u, u = (py_hdb P en ov p x).length → sp_lengthUpTo_18 d fuel (some Q) en ov (nI (v + u)) (some (pa p)) M = some (nI (v + (py_adb P en ov x).length), M) := by
        intro u hu
        rw [ih (v + u) fuel (by omega), adb_up hP hx e, List.length_append, hu]
        rw [show v + (py_hdb P en ov p x).length + (py_adb P en ov p).length = v + ((py_adb P en ov p).length + (py_hdb P en ov p x).length) by omega]
      rw [sp_lengthUpTo_18]
      simp only [cN_up hX.1 hx, e, Option.map_some, cN_kd hX.1 hp, sp_lengthUpTo_137, sp_lengthUpTo_109, zlet]
      rw [e2, e4, e5]
      rcases ok_kd6 hP hp with hk | hk | hk | hk | hk | hk
      · have h0 := ok_pks hP hx e
        rw [(ok_k0 hP hp hk).1] at h0
        cases h0
      · have h0 := ok_pks hP hx e
        rw [(ok_k1 hP hp hk).1] at h0
        cases h0
      · rw [if_pos ((kck 2 (by omega)).mpr (hck.2.2.2.1.mpr hk))]
        have h1 : sp_neededAhead d (some (pa x)) (some (pa p)) M = some (nI (0 + ((py_bf (py_ks P p) x).flatMap (py_wd P)).length), M) := by
          unfold sp_neededAhead
          simp only [cN_ks hX.1 hp]
          exact cl_nAhead_7 hP hX hp hx (py_ks P p) [] 0 rfl zLF (by omega)
        rw [h1, Option.bind_some]
        simp only [cN_up hX.1 hx, e, Option.map_some, nI_add, Nat.zero_add]
        exact next _ (by rw [(hdb_v 2 hk).1 rfl])
      · have c3 := hck.2.2.2.2.1.mpr hk
        rw [if_neg (fun q => by have := (kck 2 (by omega)).mp q; omega), if_neg (fun q => by have := (kck 4 (by omega)).mp q; omega), if_neg (fun q => by have := (kck 5 (by omega)).mp q; omega)]
        have := next 0 (by rw [(hdb_v 3 hk).2.2.2 (by omega) (by omega) (by omega)]; rfl)
        rw [Nat.add_zero] at this
        exact this
      · have c5 := hck.2.2.2.2.2.2.mpr hk
        rw [if_neg (fun q => by have := (kck 2 (by omega)).mp q; omega), if_neg (fun q => by have := (kck 4 (by omega)).mp q; omega), if_pos ((kck 5 (by omega)).mpr c5)]
        rw [cl_others (d := d) hP hX hx e hk, Option.bind_some]
        have h1 := cl_nIn_7 (d := d) hP hX hp hk (oth_sel (ov := ov) hP hp hk (ok_pks hP hx e)) (py_ks P p) [] 0 rfl zLF (by omega)
        have h2 : sp_neededIn d (some (pa p)) ((ov >>> ((4 * nI (py_nb P p)) &&& 31)) &&& ((1 <<< (nI (py_bf (py_ks P p) x).length &&& 31)) ^^^ (-1))) M = some (nI (0 + ((py_ks P p).map (fun c => if (c != x && zbt ov (4 * py_nb P p + (py_bf (py_ks P p) c).length)) then (py_wd P c).length else 0)).sum), M) := by
          unfold sp_neededIn
          simp only [cN_ks hX.1 hp]
          exact h1
        rw [h2, Option.bind_some]
        simp only [cN_up hX.1 hx, e, Option.map_some, nI_add, Nat.zero_add]
        refine next _ ?_
        rw [(hdb_v 4 hk).2.1 rfl, sm_tot]
        simp
      · have c4 := hck.2.2.2.2.2.1.mpr hk
        obtain ⟨⟨c, hc, _⟩, k5b, k5c⟩ := ok_k5 hP hp hk
        have hnc := ok_nc hP
        have hz : z_in (nI (py_nb P p)) 8 := nI_in (by omega) (by omega)
        rw [if_neg (fun q => by have := (kck 2 (by omega)).mp q; omega), if_pos ((kck 4 (by omega)).mpr c4)]
        rw [cN_nb hX.1 hp (.inr (.inr hk)), zy_has en (show py_nb P p < 32 by omega)]
        by_cases q : zbt en (py_nb P p) = true
        · rw [if_pos q, if_neg (show ¬ (1 : Int32) = 0 by decide)]
          have hfr := hen _ k5b q
          have h12 : zm_I M 3 (pa x) 12 = nI (py_ln P x) := (hX.2.1 x hx).2.2.2.2.1
          simp only [hru.2.2.2.2.1.1, hru.2.2.2.2.1.2, if_pos hz, nI_clamp (show py_nb P p < 2 ^ 31 by omega), (hX.2.2.1.1.2 _ k5b).1, h12]
          have ef : nI (py_fr P (py_nb P p)) - 1 = nI (py_fr P (py_nb P p) - 1) := by
            rw [show py_fr P (py_nb P p) = (py_fr P (py_nb P p) - 1) + 1 by omega, nI_pred]
            rfl
          rw [ef, pk_mul, nI_add]
          refine next _ ?_
          rw [(hdb_v 5 hk).2.2.1 rfl, if_pos q, List.length_flatten, List.map_replicate, List.sum_replicate_nat]
          rfl
        · rw [if_neg q, if_pos rfl, if_neg (fun q => by have := (kck 5 (by omega)).mp q; omega)]
          have := next 0 (by rw [(hdb_v 5 hk).2.2.1 rfl, if_neg q]; rfl)
          rw [Nat.add_zero] at this
          exact this
theorem cl_lenUp (hP : py_ok P) (hd : 1 ≤ d) (hX : cX M pa Q P) (hen : ∀ c, c < py_nc P → zbt en c = true → 2 ≤ py_fr P c) {b : Option Nat} (hb : ∀ o, b = some o → o < py_nl P) : sp_lengthUpTo d sp (some Q) (zo b) en ov M = some (nI (match b with
    | none => 0
    | some o => (py_adb P en ov (py_lf P o)).length + 1), M) := by
  have hLF : zLF = 100000 := rfl
  obtain ⟨d, rfl⟩ : ∃ d', d = d' + 1 := ⟨d - 1, by omega⟩
  have hru := cR_ru hX.2.2.1
  show sp_lengthUpTo_b d sp (some Q) (zo b) en ov M = _
  unfold sp_lengthUpTo_b
  cases b with
  | none => rfl
  | some o =>
    have ho := hb o rfl
    have hnl := ok_nl hP
    have hz : z_in (nI o) 16 := nI_in (by omega) (by omega)
    have hzo : zo (some o) = nI o := rfl
    have h30 := ok_hg hP
    rw [hzo, if_neg (pb_ne1 (by omega))]
    simp only [hru.2.1.1, hru.2.1.2, if_pos hz, nI_clamp (show o < 2 ^ 31 by omega), (hX.2.2.1.2.2.2.2.1 o ho).2]
    have := cl_lenUp_18 (d := d) (ov := ov) hP hX hen (py_lf P o) (ok_lf hP ho) 1 zLF (by omega)
    rw [Nat.add_comm] at this
    exact this
end
