/-! THE REFERENCE IS MADE -/
def mkC (M0 M : Mem) (a : Nat) (xs : List (Nat × Nat × Nat × Nat)) : Prop := nx M = a ∧ 76 ≤ a ∧ isK M 75 11 54 ∧ (∀ b j, b < 76 → mI M b j = mI M0 b j ∧ mJ M b j = mJ M0 b j) ∧ (∀ b j, b < 75 → mR M b j = mR M0 b j) ∧ (∀ b k n, isK M0 b k n → isK M b k n) ∧ (∀ b j, 76 ≤ b → b < a → mI M b j = 0) ∧ ∀ e, e ∈ xs → mR M 75 e.1 = e.2.1 ∧ isK M e.2.1 e.2.2.1 e.2.2.2
theorem mkC_st {M0 M M1 M2 : Mem} {a i k n : Nat} {xs : List (Nat × Nat × Nat × Nat)} (h : mkC M0 M a xs) (e1 : M1 = nw M k n) (e2 : M2 = sR M1 75 i (nx M)) (hi : ∀ e, e ∈ xs → e.1 ≠ i) : mkC M0 M2 (a + 1) ((i, a, k, n) :: xs) := by
  obtain ⟨h1, h2, h3, h4, h5, h6, h7, h8⟩ := h
  subst e1
  subst e2
  have hl : M.2.2.2.length = a := h1
  have iI : ∀ b j, mI (sR (nw M k n) 75 i (nx M)) b j = if b = a then 0 else mI M b j := fun b j => by
    show (if b = M.2.2.2.length then 0 else mI M b j) = _
    rw [hl]
  have iR : ∀ b j, mR (sR (nw M k n) 75 i (nx M)) b j = if b = 75 ∧ j = i then a else if b = a then 0 else mR M b j := fun b j => by
    show (if b = 75 ∧ j = i then nx M else if b = M.2.2.2.length then 0 else mR M b j) = _
    rw [h1, hl]
  refine ⟨?_, by omega, isK_nw_old h3, fun b j hb => ⟨?_, ?_⟩, fun b j hb => ?_, fun b k' n' hk => isK_nw_old (h6 b k' n' hk), fun b j hb1 hb2 => ?_, fun e he => ?_⟩
  · show (M.2.2.2 ++ [(k, n)]).length = a + 1
    rw [List.length_append, hl]; rfl
  · rw [iI, if_neg (by omega)]; exact (h4 b j hb).1
  · refine Eq.trans ?_ (h4 b j hb).2
    show (if b = M.2.2.2.length then 0 else mJ M b j) = _
    rw [hl, if_neg (by omega)]
  · rw [iR, if_neg (by omega), if_neg (by omega)]; exact h5 b j hb
  · rw [iI]
    by_cases hq : b = a
    · rw [if_pos hq]
    · rw [if_neg hq]; exact h7 b j hb1 (by omega)
  · rcases List.mem_cons.mp he with rfl | he
    · refine ⟨?_, ?_⟩
      · rw [iR, if_pos ⟨rfl, rfl⟩]
      · have := isK_nw (M := M) (k := k) (n0 := n)
        rw [h1] at this
        exact this
    · obtain ⟨g1, g2⟩ := h8 e he
      refine ⟨?_, isK_nw_old g2⟩
      rw [iR, if_neg (fun z => hi e he z.2), if_neg (by omega)]; exact g1
def rfL : List (Nat × Nat × Nat × Nat) := [(53, 103, 14, 2), (52, 102, 14, 2), (50, 101, 14, 8), (49, 100, 14, 96), (48, 99, 14, 96), (47, 98, 14, 8), (46, 97, 14, 8), (45, 96, 14, 8000), (44, 95, 15, 2560), (43, 94, 14, 2560), (34, 93, 14, 8), (33, 92, 14, 4), (23, 91, 14, 4), (21, 90, 14, 40), (20, 89, 14, 40000), (18, 88, 14, 512), (17, 87, 14, 512), (15, 86, 14, 54), (14, 85, 14, 54), (13, 84, 14, 9), (11, 83, 14, 63), (10, 82, 14, 63), (9, 81, 14, 189), (8, 80, 14, 7), (7, 79, 14, 7), (6, 78, 14, 7), (5, 77, 14, 7), (1, 76, 14, 300)]
theorem mkC_rf {M0 B : Mem} (h : mkC M0 B 104 rfL) : RfS B := by
  obtain ⟨h1, h2, h3, h4, h5, h6, h7, h8⟩ := h
  exact ⟨h3, h8 (1, 76, 14, 300) (by decide), h8 (5, 77, 14, 7) (by decide), h8 (6, 78, 14, 7) (by decide), h8 (7, 79, 14, 7) (by decide), h8 (8, 80, 14, 7) (by decide), h8 (9, 81, 14, 189) (by decide), h8 (10, 82, 14, 63) (by decide), h8 (11, 83, 14, 63) (by decide), h8 (13, 84, 14, 9) (by decide), h8 (14, 85, 14, 54) (by decide), h8 (15, 86, 14, 54) (by decide), h8 (17, 87, 14, 512) (by decide), h8 (18, 88, 14, 512) (by decide), h8 (20, 89, 14, 40000) (by decide), h8 (21, 90, 14, 40) (by decide), h8 (23, 91, 14, 4) (by decide), h8 (33, 92, 14, 4) (by decide), h8 (34, 93, 14, 8) (by decide), h8 (43, 94, 14, 2560) (by decide), h8 (44, 95, 15, 2560) (by decide), h8 (45, 96, 14, 8000) (by decide), h8 (46, 97, 14, 8) (by decide), h8 (47, 98, 14, 8) (by decide), h8 (48, 99, 14, 96) (by decide), h8 (49, 100, 14, 96) (by decide), h8 (50, 101, 14, 8) (by decide), h8 (52, 102, 14, 2) (by decide), h8 (53, 103, 14, 2) (by decide)⟩
theorem mkC_ri {M0 B : Mem} (h : mkC M0 B 104 rfL) (h0 : ∀ j, mI M0 75 j = 0) : RI B s0 := by
  have hS := mkC_rf h
  obtain ⟨h1, h2, h3, h4, h5, h6, h7, h8⟩ := h
  have z : ∀ j, mI B 75 j = nI 0 := fun j => ((h4 75 j (by decide)).1.trans (h0 j)).trans rfl
  exact ⟨hS, ⟨⟨Nat.zero_le _, fun i hi => absurd hi (Nat.not_lt_zero _)⟩, ⟨Nat.zero_le _, fun i hi => absurd hi (Nat.not_lt_zero _)⟩, ⟨Nat.zero_le _, fun i hi => absurd hi (Nat.not_lt_zero _)⟩, Nat.zero_le _, fun i hi => absurd hi (Nat.not_lt_zero _)⟩, ⟨z 2, Nat.zero_le _, fun i hi => absurd hi (Nat.not_lt_zero _)⟩, ⟨z 12, fun i hi => absurd hi (Nat.not_lt_zero _)⟩, ⟨z 16, fun i hi => absurd hi (Nat.not_lt_zero _)⟩, z 51, fun i hi => absurd hi (Nat.not_lt_zero _)⟩
theorem rf_init {X : Cx} {Q : Option AV → Mem → Prop} {d kc ns : Nat} {M : Mem} (hd : 1 ≤ d) (hk : 28 ≤ kc) (hn : 55180 ≤ ns) (hx : nx M = 76) (ho : isK M 75 11 54) (h : ∀ B, mkC M B 104 rfL → Q none B) : Cl X d kc ns m_X11_init [vR 75] M Q := by
  have c0 : mkC M M 76 [] := ⟨hx, by decide, ho, fun _ _ _ => ⟨rfl, rfl⟩, fun _ _ _ => rfl, fun _ _ _ q => q, fun b j h1 h2 => by omega, fun e he => (by cases he)⟩
  have x2 : ix (nI 2) = 2 := na_ix (by omega)
  have x4 : ix (nI 4) = 4 := na_ix (by omega)
  have x7 : ix (nI 7) = 7 := na_ix (by omega)
  have x8 : ix (nI 8) = 8 := na_ix (by omega)
  have x9 : ix (nI 9) = 9 := na_ix (by omega)
  have x40 : ix (nI 40) = 40 := na_ix (by omega)
  have x54 : ix (nI 54) = 54 := na_ix (by omega)
  have x63 : ix (nI 63) = 63 := na_ix (by omega)
  have x96 : ix (nI 96) = 96 := na_ix (by omega)
  have x189 : ix (nI 189) = 189 := na_ix (by omega)
  have x300 : ix (nI 300) = 300 := na_ix (by omega)
  have x512 : ix (nI 512) = 512 := na_ix (by omega)
  have x2560 : ix (nI 2560) = 2560 := na_ix (by omega)
  have x8000 : ix (nI 8000) = 8000 := na_ix (by omega)
  have x40000 : ix (nI 40000) = 40000 := na_ix (by omega)
  refine e_X11_init (b_X11_init_0 ho hd ?_)
  simp only [x2, x4, x7, x8, x9, x40, x54, x63, x96, x189, x300, x512, x2560, x8000, x40000]
  refine ⟨na_in (by omega) (by omega), by omega, by omega, fun A0 e0 B0 f0 => ?_⟩
  have c1 := mkC_st c0 e0 f0 (by decide)
  refine ⟨na_in (by omega) (by omega), by omega, by omega, fun A1 e1 B1 f1 => ?_⟩
  have c2 := mkC_st c1 e1 f1 (by decide)
  refine ⟨na_in (by omega) (by omega), by omega, by omega, fun A2 e2 B2 f2 => ?_⟩
  have c3 := mkC_st c2 e2 f2 (by decide)
  refine ⟨na_in (by omega) (by omega), by omega, by omega, fun A3 e3 B3 f3 => ?_⟩
  have c4 := mkC_st c3 e3 f3 (by decide)
  refine ⟨na_in (by omega) (by omega), by omega, by omega, fun A4 e4 B4 f4 => ?_⟩
  have c5 := mkC_st c4 e4 f4 (by decide)
  refine ⟨na_in (by omega) (by omega), by omega, by omega, fun A5 e5 B5 f5 => ?_⟩
  have c6 := mkC_st c5 e5 f5 (by decide)
  refine ⟨na_in (by omega) (by omega), by omega, by omega, fun A6 e6 B6 f6 => ?_⟩
  have c7 := mkC_st c6 e6 f6 (by decide)
  refine ⟨na_in (by omega) (by omega), by omega, by omega, fun A7 e7 B7 f7 => ?_⟩
  have c8 := mkC_st c7 e7 f7 (by decide)
  refine ⟨na_in (by omega) (by omega), by omega, by omega, fun A8 e8 B8 f8 => ?_⟩
  have c9 := mkC_st c8 e8 f8 (by decide)
  refine ⟨na_in (by omega) (by omega), by omega, by omega, fun A9 e9 B9 f9 => ?_⟩
  have c10 := mkC_st c9 e9 f9 (by decide)
  refine ⟨na_in (by omega) (by omega), by omega, by omega, fun A10 e10 B10 f10 => ?_⟩
  have c11 := mkC_st c10 e10 f10 (by decide)
  refine ⟨na_in (by omega) (by omega), by omega, by omega, fun A11 e11 B11 f11 => ?_⟩
  have c12 := mkC_st c11 e11 f11 (by decide)
  refine ⟨na_in (by omega) (by omega), by omega, by omega, fun A12 e12 B12 f12 => ?_⟩
  have c13 := mkC_st c12 e12 f12 (by decide)
  refine ⟨na_in (by omega) (by omega), by omega, by omega, fun A13 e13 B13 f13 => ?_⟩
  have c14 := mkC_st c13 e13 f13 (by decide)
  refine ⟨na_in (by omega) (by omega), by omega, by omega, fun A14 e14 B14 f14 => ?_⟩
  have c15 := mkC_st c14 e14 f14 (by decide)
  refine ⟨na_in (by omega) (by omega), by omega, by omega, fun A15 e15 B15 f15 => ?_⟩
  have c16 := mkC_st c15 e15 f15 (by decide)
  refine ⟨na_in (by omega) (by omega), by omega, by omega, fun A16 e16 B16 f16 => ?_⟩
  have c17 := mkC_st c16 e16 f16 (by decide)
  refine ⟨na_in (by omega) (by omega), by omega, by omega, fun A17 e17 B17 f17 => ?_⟩
  have c18 := mkC_st c17 e17 f17 (by decide)
  refine ⟨na_in (by omega) (by omega), by omega, by omega, fun A18 e18 B18 f18 => ?_⟩
  have c19 := mkC_st c18 e18 f18 (by decide)
  refine ⟨na_in (by omega) (by omega), by omega, by omega, fun A19 e19 B19 f19 => ?_⟩
  have c20 := mkC_st c19 e19 f19 (by decide)
  refine ⟨na_in (by omega) (by omega), by omega, by omega, fun A20 e20 B20 f20 => ?_⟩
  have c21 := mkC_st c20 e20 f20 (by decide)
  refine ⟨na_in (by omega) (by omega), by omega, by omega, fun A21 e21 B21 f21 => ?_⟩
  have c22 := mkC_st c21 e21 f21 (by decide)
  refine ⟨na_in (by omega) (by omega), by omega, by omega, fun A22 e22 B22 f22 => ?_⟩
  have c23 := mkC_st c22 e22 f22 (by decide)
  refine ⟨na_in (by omega) (by omega), by omega, by omega, fun A23 e23 B23 f23 => ?_⟩
  have c24 := mkC_st c23 e23 f23 (by decide)
  refine ⟨na_in (by omega) (by omega), by omega, by omega, fun A24 e24 B24 f24 => ?_⟩
  have c25 := mkC_st c24 e24 f24 (by decide)
  refine ⟨na_in (by omega) (by omega), by omega, by omega, fun A25 e25 B25 f25 => ?_⟩
  have c26 := mkC_st c25 e25 f25 (by decide)
  refine ⟨na_in (by omega) (by omega), by omega, by omega, fun A26 e26 B26 f26 => ?_⟩
  have c27 := mkC_st c26 e26 f26 (by decide)
  refine ⟨na_in (by omega) (by omega), by omega, by omega, fun A27 e27 B27 f27 => ?_⟩
  have c28 := mkC_st c27 e27 f27 (by decide)
  exact h _ c28
