/-! THE BEGINNING: the class's own constructor -/
section
variable {d a0 : Nat} {M M' : zM}
theorem ib_c {x y n : Nat} (h : x = y + n) (ha : y = a0 + 1) : x = a0 + (n + 1) := by omega
theorem ib_d {x y z n c : Nat} (h : x = y + n) (e : y = z + 1) (hc : z = a0 + c) : x = a0 + (c + 1 + n) := by omega
theorem ib_e {y n : Nat} (ha : y = a0 + 1) : y + n = a0 + (n + 1) := by omega
theorem ib_rsW {b : Nat} (t k j : Nat) (h : rs_IW b t k j) : b ≤ k := by
  unfold rs_IW at h
  omega
theorem ib_W {b tg : Nat} (t k : Nat) (w : t = tg ∧ k = b) : b ≤ k := Nat.le_of_eq w.2.symm
theorem ib_ag {K lo hi : Nat} (w : zh (fun t' k' _ => t' = 11 ∧ k' = a0) M M') (hn : zm_n M = a0 + K) (h1 : 1 ≤ lo) (h2 : hi ≤ K) : ag (rg (a0 + lo) (a0 + hi)) M M' := ag_zh w (fun k hk => by have := hk.2; omega) (fun t k j hk w => by have := hk.1; omega)
theorem ib_I {K o t j : Nat} (w : zh (fun t' k' _ => t' = 11 ∧ k' = a0) M M') (hn : zm_n M = a0 + K) (h1 : 1 ≤ o) (h2 : o < K) : zm_I M' t (a0 + o) j = zm_I M t (a0 + o) j := zh_I w (by omega) (fun w => by omega)
theorem ib_R {K o t j : Nat} (w : zh (fun t' k' _ => t' = 11 ∧ k' = a0) M M') (hn : zm_n M = a0 + K) (h1 : 1 ≤ o) (h2 : o < K) : zm_R M' t (a0 + o) j = zm_R M t (a0 + o) j := zh_R w (by omega) (fun w => by omega)
end
section
variable {d a0 : Nat} {M : zM}
set_option maxHeartbeats 16000000 in
theorem ib_cr_init (ha : zm_n M = a0 + 1) (hd : 3 ≤ d) : ∃ M', cr_init d a0 M = some M' ∧ zm_n M' = zm_n M + 241 ∧ zm_s M' = zm_s M + 58233 ∧ zh (fun t' k' _ => t' = 11 ∧ k' = a0) M M' ∧ (∀ (Ps : Nat → yP) (N0 S0 : Nat), zm_n M' = N0 → zm_s M' = S0 → cI a0 N0 S0 M' ([], (0, Ps), [], none) ((a0 + 2, a0 + 86, a0 + 170, a0 + 180), (fun _ => 0), 0, (fun _ => 0), 0)) := by
  obtain ⟨d, rfl⟩ : ∃ d', d = d' + 1 := ⟨d - 1, by omega⟩
  have hd1 : 1 ≤ d := by omega
  have eb : cr_init (d + 1) a0 M = cr_init_b d a0 M := rfl
  rw [eb]
  unfold cr_init_b
  have h0 : ix 11 a0 M [] [] 0 0 M := ix_rf (by omega)
  refine ix_il fun M2 eM2 => ix_il fun M4 eM4 => ?_
  have h1 : ix 11 a0 M [(0, zm_n M + 0, 20, 400)] [] 1 400 M4 := ix_row h0 eM2 eM4 (by simp)
  refine ix_il fun M6 eM6 => ?_
  have h2 : ix 11 a0 M [(0, zm_n M + 0, 20, 400)] [(1, 0)] 1 400 M6 := ix_int h1 eM6 (by simp)
  refine ix_il fun M8 eM8 => ix_ib (ib_rs_init (d := d) (a0 := zm_n M6) (M := M8) (by rw [eM8, pn_n]) hd1) fun q10 gq10 => ix_il fun M12 eM12 => ?_
  obtain ⟨nq10, sq10, zq10, gq10⟩ := gq10
  have h3 : ix 11 a0 M [(0, zm_n M + 0, 20, 400), (2, zm_n M + 1, 6, 0)] [(1, 0)] 85 1753 M12 := ix_obj h2 eM8 zq10 ib_rsW nq10 sq10 eM12 (by simp)
  have y3 := ix_zo eM8 zq10 ib_rsW eM12
  have cq10 : zm_n M6 = a0 + 2 := ib_c (ix_n h2) ha
  have dq10 : zm_n q10 = a0 + 86 := ib_d nq10 (by rw [eM8, pn_n]) cq10
  rw [cq10] at gq10
  refine ix_il fun M14 eM14 => ix_ib (ib_rs_init (d := d) (a0 := zm_n M12) (M := M14) (by rw [eM14, pn_n]) hd1) fun q16 gq16 => ix_il fun M18 eM18 => ?_
  obtain ⟨nq16, sq16, zq16, gq16⟩ := gq16
  have h4 : ix 11 a0 M [(0, zm_n M + 0, 20, 400), (2, zm_n M + 1, 6, 0), (3, zm_n M + 85, 6, 0)] [(1, 0)] 169 3106 M18 := ix_obj h3 eM14 zq16 ib_rsW nq16 sq16 eM18 (by simp)
  have y4 := ix_zo eM14 zq16 ib_rsW eM18
  have cq16 : zm_n M12 = a0 + 86 := ib_c (ix_n h3) ha
  have dq16 : zm_n q16 = a0 + 170 := ib_d nq16 (by rw [eM14, pn_n]) cq16
  rw [cq16] at gq16
  refine ix_il fun M20 eM20 => ix_ib (ib_do_init (d := d) (a0 := zm_n M18) (M := M20) (by rw [eM20, pn_n])) fun q22 gq22 => ix_il fun M24 eM24 => ?_
  obtain ⟨nq22, sq22, zq22, gq22⟩ := gq22
  have h5 : ix 11 a0 M [(0, zm_n M + 0, 20, 400), (2, zm_n M + 1, 6, 0), (3, zm_n M + 85, 6, 0), (4, zm_n M + 169, 1, 0)] [(1, 0)] 179 3760 M24 := ix_obj h4 eM20 zq22 (fun t k j w => ib_W t k w) nq22 sq22 eM24 (by simp)
  have y5 := ix_zo eM20 zq22 (fun t k j w => ib_W t k w) eM24
  have cq22 : zm_n M18 = a0 + 170 := ib_c (ix_n h4) ha
  have dq22 : zm_n q22 = a0 + 180 := ib_d nq22 (by rw [eM20, pn_n]) cq22
  rw [cq22] at gq22
  refine ix_il fun M26 eM26 => ix_ib (ib_do_init (d := d) (a0 := zm_n M24) (M := M26) (by rw [eM26, pn_n])) fun q28 gq28 => ix_il fun M30 eM30 => ?_
  obtain ⟨nq28, sq28, zq28, gq28⟩ := gq28
  have h6 : ix 11 a0 M [(0, zm_n M + 0, 20, 400), (2, zm_n M + 1, 6, 0), (3, zm_n M + 85, 6, 0), (4, zm_n M + 169, 1, 0), (5, zm_n M + 179, 1, 0)] [(1, 0)] 189 4414 M30 := ix_obj h5 eM26 zq28 (fun t k j w => ib_W t k w) nq28 sq28 eM30 (by simp)
  have y6 := ix_zo eM26 zq28 (fun t k j w => ib_W t k w) eM30
  have cq28 : zm_n M24 = a0 + 180 := ib_c (ix_n h5) ha
  have dq28 : zm_n q28 = a0 + 190 := ib_d nq28 (by rw [eM26, pn_n]) cq28
  rw [cq28] at gq28
  refine ix_il fun M32 eM32 => ix_ib (ib_le_init (d := d) (a0 := zm_n M30) (M := M32) (by rw [eM32, pn_n])) fun q34 gq34 => ix_il fun M36 eM36 => ?_
  obtain ⟨nq34, sq34, zq34, gq34⟩ := gq34
  have h7 : ix 11 a0 M [(0, zm_n M + 0, 20, 400), (2, zm_n M + 1, 6, 0), (3, zm_n M + 85, 6, 0), (4, zm_n M + 169, 1, 0), (5, zm_n M + 179, 1, 0), (6, zm_n M + 189, 2, 0)] [(1, 0)] 191 4440 M36 := ix_obj h6 eM32 zq34 (fun t k j w => ib_W t k w) nq34 sq34 eM36 (by simp)
  have y7 := ix_zo eM32 zq34 (fun t k j w => ib_W t k w) eM36
  have cq34 : zm_n M30 = a0 + 190 := ib_c (ix_n h6) ha
  have dq34 : zm_n q34 = a0 + 192 := ib_d nq34 (by rw [eM32, pn_n]) cq34
  rw [cq34] at gq34
  refine ix_il fun M38 eM38 => ix_ib (ib_wy_init (d := d) (a0 := zm_n M36) (M := M38) (by rw [eM38, pn_n])) fun q40 gq40 => ix_il fun M42 eM42 => ?_
  obtain ⟨nq40, sq40, zq40, gq40⟩ := gq40
  have h8 : ix 11 a0 M [(0, zm_n M + 0, 20, 400), (2, zm_n M + 1, 6, 0), (3, zm_n M + 85, 6, 0), (4, zm_n M + 169, 1, 0), (5, zm_n M + 179, 1, 0), (6, zm_n M + 189, 2, 0), (7, zm_n M + 191, 9, 0)] [(1, 0)] 196 4639 M42 := ix_obj h7 eM38 zq40 (fun t k j w => ib_W t k w) nq40 sq40 eM42 (by simp)
  have y8 := ix_zo eM38 zq40 (fun t k j w => ib_W t k w) eM42
  have cq40 : zm_n M36 = a0 + 192 := ib_c (ix_n h7) ha
  have dq40 : zm_n q40 = a0 + 197 := ib_d nq40 (by rw [eM38, pn_n]) cq40
  rw [cq40] at gq40
  refine ix_il fun M44 eM44 => ix_ib (ib_sp_init (d := d) (a0 := zm_n M42) (M := M44) (by rw [eM44, pn_n]) hd1) fun q46 gq46 => ix_il fun M48 eM48 => ?_
  obtain ⟨nq46, sq46, zq46, gq46⟩ := gq46
  have h9 : ix 11 a0 M [(0, zm_n M + 0, 20, 400), (2, zm_n M + 1, 6, 0), (3, zm_n M + 85, 6, 0), (4, zm_n M + 169, 1, 0), (5, zm_n M + 179, 1, 0), (6, zm_n M + 189, 2, 0), (7, zm_n M + 191, 9, 0), (8, zm_n M + 196, 7, 0)] [(1, 0)] 210 16321 M48 := ix_obj h8 eM44 zq46 (fun t k j w => ib_W t k w) nq46 sq46 eM48 (by simp)
  have y9 := ix_zo eM44 zq46 (fun t k j w => ib_W t k w) eM48
  have cq46 : zm_n M42 = a0 + 197 := ib_c (ix_n h8) ha
  have dq46 : zm_n q46 = a0 + 211 := ib_d nq46 (by rw [eM44, pn_n]) cq46
  rw [cq46] at gq46
  refine ix_il fun M50 eM50 => ix_ib (ib_wi_init (d := d) (a0 := zm_n M48) (M := M50) (by rw [eM50, pn_n])) fun q52 gq52 => ix_il fun M54 eM54 => ?_
  obtain ⟨nq52, sq52, zq52, gq52⟩ := gq52
  have h10 : ix 11 a0 M [(0, zm_n M + 0, 20, 400), (2, zm_n M + 1, 6, 0), (3, zm_n M + 85, 6, 0), (4, zm_n M + 169, 1, 0), (5, zm_n M + 179, 1, 0), (6, zm_n M + 189, 2, 0), (7, zm_n M + 191, 9, 0), (8, zm_n M + 196, 7, 0), (9, zm_n M + 210, 10, 0)] [(1, 0)] 212 18637 M54 := ix_obj h9 eM50 zq52 (fun t k j w => ib_W t k w) nq52 sq52 eM54 (by simp)
  have y10 := ix_zo eM50 zq52 (fun t k j w => ib_W t k w) eM54
  have cq52 : zm_n M48 = a0 + 211 := ib_c (ix_n h9) ha
  have dq52 : zm_n q52 = a0 + 213 := ib_d nq52 (by rw [eM50, pn_n]) cq52
  rw [cq52] at gq52
  refine ix_il fun M56 eM56 => ix_ib (ib_wi_init (d := d) (a0 := zm_n M54) (M := M56) (by rw [eM56, pn_n])) fun q58 gq58 => ix_il fun M60 eM60 => ?_
  obtain ⟨nq58, sq58, zq58, gq58⟩ := gq58
  have h11 : ix 11 a0 M [(0, zm_n M + 0, 20, 400), (2, zm_n M + 1, 6, 0), (3, zm_n M + 85, 6, 0), (4, zm_n M + 169, 1, 0), (5, zm_n M + 179, 1, 0), (6, zm_n M + 189, 2, 0), (7, zm_n M + 191, 9, 0), (8, zm_n M + 196, 7, 0), (9, zm_n M + 210, 10, 0), (10, zm_n M + 212, 10, 0)] [(1, 0)] 214 20953 M60 := ix_obj h10 eM56 zq58 (fun t k j w => ib_W t k w) nq58 sq58 eM60 (by simp)
  have y11 := ix_zo eM56 zq58 (fun t k j w => ib_W t k w) eM60
  have cq58 : zm_n M54 = a0 + 213 := ib_c (ix_n h10) ha
  have dq58 : zm_n q58 = a0 + 215 := ib_d nq58 (by rw [eM56, pn_n]) cq58
  rw [cq58] at gq58
  refine ix_il fun M62 eM62 => ix_ib (ib_wk_init (d := d) (a0 := zm_n M60) (M := M62) (by rw [eM62, pn_n]) hd1) fun q64 gq64 => ix_il fun M66 eM66 => ?_
  obtain ⟨nq64, sq64, zq64, gq64⟩ := gq64
  have h12 : ix 11 a0 M [(0, zm_n M + 0, 20, 400), (2, zm_n M + 1, 6, 0), (3, zm_n M + 85, 6, 0), (4, zm_n M + 169, 1, 0), (5, zm_n M + 179, 1, 0), (6, zm_n M + 189, 2, 0), (7, zm_n M + 191, 9, 0), (8, zm_n M + 196, 7, 0), (9, zm_n M + 210, 10, 0), (10, zm_n M + 212, 10, 0), (11, zm_n M + 214, 8, 0)] [(1, 0)] 227 21090 M66 := ix_obj h11 eM62 zq64 (fun t k j w => ib_W t k w) nq64 sq64 eM66 (by simp)
  have y12 := ix_zo eM62 zq64 (fun t k j w => ib_W t k w) eM66
  have cq64 : zm_n M60 = a0 + 215 := ib_c (ix_n h11) ha
  have dq64 : zm_n q64 = a0 + 228 := ib_d nq64 (by rw [eM62, pn_n]) cq64
  rw [cq64] at gq64
  refine ix_il fun M68 eM68 => ix_ib (ib_re_init (d := d) (a0 := zm_n M66) (M := M68) (by rw [eM68, pn_n])) fun q70 gq70 => ix_il fun M72 eM72 => ?_
  obtain ⟨nq70, sq70, zq70, gq70⟩ := gq70
  have h13 : ix 11 a0 M [(0, zm_n M + 0, 20, 400), (2, zm_n M + 1, 6, 0), (3, zm_n M + 85, 6, 0), (4, zm_n M + 169, 1, 0), (5, zm_n M + 179, 1, 0), (6, zm_n M + 189, 2, 0), (7, zm_n M + 191, 9, 0), (8, zm_n M + 196, 7, 0), (9, zm_n M + 210, 10, 0), (10, zm_n M + 212, 10, 0), (11, zm_n M + 214, 8, 0), (12, zm_n M + 227, 4, 0)] [(1, 0)] 234 21216 M72 := ix_obj h12 eM68 zq70 (fun t k j w => ib_W t k w) nq70 sq70 eM72 (by simp)
  have y13 := ix_zo eM68 zq70 (fun t k j w => ib_W t k w) eM72
  have cq70 : zm_n M66 = a0 + 228 := ib_c (ix_n h12) ha
  have dq70 : zm_n q70 = a0 + 235 := ib_d nq70 (by rw [eM68, pn_n]) cq70
  rw [cq70] at gq70
  refine ix_il fun M74 eM74 => ix_ib (ib_di_init (d := d) (a0 := zm_n M72) (M := M74) (by rw [eM74, pn_n])) fun q76 gq76 => ix_il fun M78 eM78 => ?_
  obtain ⟨nq76, sq76, zq76, gq76⟩ := gq76
  have h14 : ix 11 a0 M [(0, zm_n M + 0, 20, 400), (2, zm_n M + 1, 6, 0), (3, zm_n M + 85, 6, 0), (4, zm_n M + 169, 1, 0), (5, zm_n M + 179, 1, 0), (6, zm_n M + 189, 2, 0), (7, zm_n M + 191, 9, 0), (8, zm_n M + 196, 7, 0), (9, zm_n M + 210, 10, 0), (10, zm_n M + 212, 10, 0), (11, zm_n M + 214, 8, 0), (12, zm_n M + 227, 4, 0), (13, zm_n M + 234, 0, 0)] [(1, 0)] 241 58233 M78 := ix_obj h13 eM74 zq76 (fun t k j w => ib_W t k w) nq76 sq76 eM78 (by simp)
  have y14 := ix_zo eM74 zq76 (fun t k j w => ib_W t k w) eM78
  have cq76 : zm_n M72 = a0 + 235 := ib_c (ix_n h13) ha
  have dq76 : zm_n q76 = a0 + 242 := ib_d nq76 (by rw [eM74, pn_n]) cq76
  rw [cq76] at gq76
  refine ix_il fun M80 eM80 => ?_
  have h15 : ix 11 a0 M [(0, zm_n M + 0, 20, 400), (2, zm_n M + 1, 6, 0), (3, zm_n M + 85, 6, 0), (4, zm_n M + 169, 1, 0), (5, zm_n M + 179, 1, 0), (6, zm_n M + 189, 2, 0), (7, zm_n M + 191, 9, 0), (8, zm_n M + 196, 7, 0), (9, zm_n M + 210, 10, 0), (10, zm_n M + 212, 10, 0), (11, zm_n M + 214, 8, 0), (12, zm_n M + 227, 4, 0), (13, zm_n M + 234, 0, 0)] [(1, 0), (14, (-1))] 241 58233 M80 := ix_int h14 eM80 (by simp)
  refine ⟨M80, rfl, ix_n h15, ix_s h15, ix_zh h15, ?_⟩
  have f0 := ix_at (j := 0) (a := zm_n M + 0) (tg := 20) (len := 400) h15 (by simp)
  rw [show zm_n M + 0 = a0 + 1 from ib_e ha] at f0
  have f2 := ix_at (j := 2) (a := zm_n M + 1) (tg := 6) (len := 0) h15 (by simp)
  rw [show zm_n M + 1 = a0 + 2 from ib_e ha] at f2
  have f3 := ix_at (j := 3) (a := zm_n M + 85) (tg := 6) (len := 0) h15 (by simp)
  rw [show zm_n M + 85 = a0 + 86 from ib_e ha] at f3
  have f4 := ix_at (j := 4) (a := zm_n M + 169) (tg := 1) (len := 0) h15 (by simp)
  rw [show zm_n M + 169 = a0 + 170 from ib_e ha] at f4
  have f5 := ix_at (j := 5) (a := zm_n M + 179) (tg := 1) (len := 0) h15 (by simp)
  rw [show zm_n M + 179 = a0 + 180 from ib_e ha] at f5
  have f6 := ix_at (j := 6) (a := zm_n M + 189) (tg := 2) (len := 0) h15 (by simp)
  rw [show zm_n M + 189 = a0 + 190 from ib_e ha] at f6
  have f7 := ix_at (j := 7) (a := zm_n M + 191) (tg := 9) (len := 0) h15 (by simp)
  rw [show zm_n M + 191 = a0 + 192 from ib_e ha] at f7
  have f8 := ix_at (j := 8) (a := zm_n M + 196) (tg := 7) (len := 0) h15 (by simp)
  rw [show zm_n M + 196 = a0 + 197 from ib_e ha] at f8
  have f9 := ix_at (j := 9) (a := zm_n M + 210) (tg := 10) (len := 0) h15 (by simp)
  rw [show zm_n M + 210 = a0 + 211 from ib_e ha] at f9
  have f10 := ix_at (j := 10) (a := zm_n M + 212) (tg := 10) (len := 0) h15 (by simp)
  rw [show zm_n M + 212 = a0 + 213 from ib_e ha] at f10
  have f11 := ix_at (j := 11) (a := zm_n M + 214) (tg := 8) (len := 0) h15 (by simp)
  rw [show zm_n M + 214 = a0 + 215 from ib_e ha] at f11
  have f12 := ix_at (j := 12) (a := zm_n M + 227) (tg := 4) (len := 0) h15 (by simp)
  rw [show zm_n M + 227 = a0 + 228 from ib_e ha] at f12
  have f13 := ix_at (j := 13) (a := zm_n M + 234) (tg := 0) (len := 0) h15 (by simp)
  rw [show zm_n M + 234 = a0 + 235 from ib_e ha] at f13
  have x15 := ix_zi eM80
  have wq76 := zh_trans y14.2 x15
  have x14 := zh_trans y14.1 x15
  have wq70 := zh_trans y13.2 x14
  have x13 := zh_trans y13.1 x14
  have wq64 := zh_trans y12.2 x13
  have x12 := zh_trans y12.1 x13
  have wq58 := zh_trans y11.2 x12
  have x11 := zh_trans y11.1 x12
  have wq52 := zh_trans y10.2 x11
  have x10 := zh_trans y10.1 x11
  have wq46 := zh_trans y9.2 x10
  have x9 := zh_trans y9.1 x10
  have wq40 := zh_trans y8.2 x9
  have x8 := zh_trans y8.1 x9
  have wq34 := zh_trans y7.2 x8
  have x7 := zh_trans y7.1 x8
  have wq28 := zh_trans y6.2 x7
  have x6 := zh_trans y6.1 x7
  have wq22 := zh_trans y5.2 x6
  have x5 := zh_trans y5.1 x6
  have wq16 := zh_trans y4.2 x5
  have x4 := zh_trans y4.1 x5
  have wq10 := zh_trans y3.2 x4
  have x3 := zh_trans y3.1 x4
  have A0 : cw_rs M80 (a0 + 2) := rs_ag gq10.1 (ib_ag (lo := 2) (hi := 86) wq10 dq10 (by decide) (by decide))
  have A1 : cw_rs M80 (a0 + 86) := rs_ag gq16.1 (ib_ag (lo := 86) (hi := 170) wq16 dq16 (by decide) (by decide))
  have A2 : do_l M80 (a0 + 170) := dl_ag gq22.1 (ib_ag (lo := 170) (hi := 180) wq22 dq22 (by decide) (by decide))
  have A3 : do_l M80 (a0 + 180) := dl_ag gq28.1 (ib_ag (lo := 180) (hi := 190) wq28 dq28 (by decide) (by decide))
  have A4 : lp_x M80 (a0 + 190) (a0 + 191) := lp_ag gq34 (ib_ag (lo := 190) (hi := 192) wq34 dq34 (by decide) (by decide))
  have A5 : wy_l M80 (a0 + 192) := wy_ag gq40 (ib_ag (lo := 192) (hi := 197) wq40 dq40 (by decide) (by decide))
  have A6 : sl_l M80 (a0 + 197) := sl_ag gq46 (ib_ag (lo := 197) (hi := 211) wq46 dq46 (by decide) (by decide))
  have A7 : wt_l M80 (a0 + 211) := wtl_ag gq52.1 (ib_ag (lo := 211) (hi := 213) wq52 dq52 (by decide) (by decide))
  have A8 : wt_l M80 (a0 + 213) := wtl_ag gq58.1 (ib_ag (lo := 213) (hi := 215) wq58 dq58 (by decide) (by decide))
  have A9 : wk_l M80 (a0 + 215) := wkl_ag gq64 (ib_ag (lo := 215) (hi := 228) wq64 dq64 (by decide) (by decide))
  have A10 : re_l M80 (a0 + 228) := rel_ag gq70.1 (ib_ag (lo := 228) (hi := 235) wq70 dq70 (by decide) (by decide))
  have A11 : di_l M80 (a0 + 235) := dil_ag gq76.1 (ib_ag (lo := 235) (hi := 242) wq76 dq76 (by decide) (by decide))
  have B0 : zm_I M80 6 (a0 + 2) 1 = 0 := by rw [ib_I (o := 2) (t := 6) (j := 1) wq10 dq10 (by decide) (by decide)]; exact gq10.2.1
  have B2 : zm_I M80 1 (a0 + 170) 0 = 0 := by
    rw [ib_I (o := 170) (t := 1) (j := 0) wq22 dq22 (by decide) (by decide), gq22.2, eM20, pn_I, if_pos ⟨rfl, cq22.symm⟩]
  have B7 : zm_I M80 10 (a0 + 211) 0 = -1 := by rw [ib_I (o := 211) (t := 10) (j := 0) wq52 dq52 (by decide) (by decide)]; exact gq52.2
  have B8 : zm_I M80 10 (a0 + 213) 0 = -1 := by rw [ib_I (o := 213) (t := 10) (j := 0) wq58 dq58 (by decide) (by decide)]; exact gq58.2
  have B10 : zm_I M80 4 (a0 + 228) 0 = -1 := by rw [ib_I (o := 228) (t := 4) (j := 0) wq70 dq70 (by decide) (by decide)]; exact gq70.2
  have B11 : zm_I M80 0 (a0 + 235) 2 = -1 := by rw [ib_I (o := 235) (t := 0) (j := 2) wq76 dq76 (by decide) (by decide)]; exact gq76.2.1
  have B12 : zm_I M80 0 (a0 + 235) 3 = -1 := by rw [ib_I (o := 235) (t := 0) (j := 3) wq76 dq76 (by decide) (by decide)]; exact gq76.2.2
  have D0 : ∀ j, zm_R M80 24 (a0 + 2 + 82) j = none := fun j => by
    exact (ib_R (o := 84) (t := 24) (j := j) wq10 dq10 (by decide) (by decide)).trans (gq10.2.2 j)
  have D1 : ∀ j, zm_R M80 24 (a0 + 86 + 82) j = none := fun j => by
    exact (ib_R (o := 168) (t := 24) (j := j) wq16 dq16 (by decide) (by decide)).trans (gq16.2.2 j)
  have v1 : zm_I M80 11 a0 1 = 0 := ix_v h15 (by simp)
  have v14 : zm_I M80 11 a0 14 = -1 := ix_v h15 (by simp)
  have n80 : zm_n M80 = a0 + 242 := ib_c (ix_n h15) ha
  intro Ps N0 S0 hN hS
  have cp : ∀ b, (∀ j, zm_R M80 24 (b + 82) j = none) → cp_x M80 b (fun _ => 0) 0 := fun b hb => ⟨by decide, fun j hj => absurd hj (Nat.not_lt_zero j), fun j _ _ => hb j, fun i j hi => absurd hi (Nat.not_lt_zero i)⟩
  refine ⟨⟨.inl ⟨rfl, rfl⟩, .inl ⟨rfl, rfl⟩, fun i hi => absurd hi (Nat.not_lt_zero i), fun i hi => absurd hi (Nat.not_lt_zero i), fun i j hi => absurd hi (Nat.not_lt_zero i)⟩, ⟨⟨f0.1, f2.1, f3.1, f4.1, f5.1, f6.1, f7.1, f8.1, f9.1, f10.1, f11.1, f12.1, f13.1⟩, ?_⟩, ⟨f0.2, by rw [n80]; exact Nat.add_le_add_left (by decide) _, fun i x hx => by simp at hx⟩, ⟨⟨A0, ?_, Nat.zero_le 8, fun r hr => absurd hr (Nat.not_lt_zero r)⟩, cp _ D0, fun r hr => absurd hr (Nat.not_lt_zero r)⟩, ⟨A1, cp _ D1⟩, ⟨⟨A2, ?_, fun i x hx => by simp at hx⟩, fun i x hx => by simp at hx, fun i x hx => by simp at hx⟩, A3, ⟨A4, A5, A6, A7, A8, A9, A11⟩, ⟨B10, A10⟩, ⟨.inl B7, .inl B8, .inl v14, .inl ⟨B11, B12⟩⟩, Nat.le_of_eq n80.symm, hN, hS⟩
  · exact v1
  · exact B0
  · exact B2
end
