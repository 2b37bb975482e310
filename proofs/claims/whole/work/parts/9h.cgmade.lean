/-! THE CLASS: a game is made -/
section GAMEINIT
variable {X : Cx} {d kc ns a : Nat} {M : Mem} {Q : Option AV → Mem → Prop}
theorem kp_gameInit {x y : Nat} (hd : 1 ≤ d) (hkc : 4 ≤ kc) (hns : 28 ≤ ns) (ha : isK M a 1 16) (hx : nx M = a + 1) (ha2 : 37 < a) (hC : CuS M 29) (hJ : JoS M 35)
    (h : ∀ B, Fal (fun b _ => b = a) (fun b _ => b = a) M B → nx B = a + 5 → GaS B a → Q none B) : Cl X d kc ns m_X1_init [vR a, vR 29, vR 35, vR x, vR y] M Q := by
  have i8 : ix (nI 8) = 8 := na_ix (by decide)
  have i4 : ix (nI 4) = 4 := na_ix (by decide)
  have s0 := mkL.start (M := M) (a := a) (by omega)
  rw [hx] at s0
  refine e_X1_init (b_X1_init_0 ha (by omega) ⟨na_in (by decide) (by decide), by omega, by rw [i8]; omega, fun M1 e1 M2 e2 M3 e3 => ⟨na_in (by decide) (by decide), by omega, by rw [i8, i4]; omega, fun M4 e4 M5 e5 M6 e6 M7 e7 M8 e8 M9 e9 M10 e10 => ⟨na_in (by decide) (by decide), by omega, by rw [i8, i4]; omega, fun M11 e11 M12 e12 => ⟨na_in (by decide) (by decide), by omega, by rw [i8, i4]; omega, fun M13 e13 M14 e14 M15 e15 M16 e16 M17 e17 M18 e18 M19 e19 M20 e20 => ?_⟩⟩⟩⟩)
  rw [i8] at e1 e11 e13
  rw [i4] at e4
  rw [hx] at e2
  have s1 := s0.new (k := 14) (n := 8)
  rw [← e1] at s1
  have s2 := s1.putR (i := 4) (v := a + 1) rfl
  rw [← e2] at s2
  have s3 := s2.putI (i := 5) (v := nI 0) rfl
  rw [← e3] at s3
  have s4 := s3.new (k := 14) (n := 4)
  rw [← e4] at s4
  rw [s3.1] at e5
  have s5 := s4.putR (i := 6) (v := a + 1 + 1) rfl
  rw [← e5] at s5
  have s6 := s5.putI (i := 7) (v := nI 0) rfl
  rw [← e6] at s6
  have s7 := s6.putI (i := 8) (v := nI 0) rfl
  rw [← e7] at s7
  have s8 := s7.putI (i := 9) (v := nI 0) rfl
  rw [← e8] at s8
  have s9 := s8.putI (i := 10) (v := nI 8) rfl
  rw [← e9] at s9
  have s10 := s9.putI (i := 11) (v := nI 0) rfl
  rw [← e10] at s10
  have s11 := s10.new (k := 14) (n := 8)
  rw [← e11] at s11
  rw [s10.1] at e12
  have s12 := s11.putR (i := 12) (v := a + 1 + 1 + 1) rfl
  rw [← e12] at s12
  have s13 := s12.new (k := 14) (n := 8)
  rw [← e13] at s13
  rw [s12.1] at e14
  have s14 := s13.putR (i := 13) (v := a + 1 + 1 + 1 + 1) rfl
  rw [← e14] at s14
  have s15 := s14.putI (i := 14) (v := -1) rfl
  rw [← e15] at s15
  have s16 := s15.putI (i := 15) (v := -1) rfl
  rw [← e16] at s16
  have s17 := s16.putR (i := 0) (v := 29) rfl
  rw [← e17] at s17
  have s18 := s17.putR (i := 1) (v := 35) rfl
  rw [← e18] at s18
  have s19 := s18.putR (i := 2) (v := x) rfl
  rw [← e19] at s19
  have s20 := s19.putR (i := 3) (v := y) rfl
  rw [← e20] at s20
  obtain ⟨g1, g2, g3, g4, g5, g6, g7, g8⟩ := s20
  have old : ∀ b i, b < nx M → b ≠ a → mR M20 b i = mR M b i := fun b i hb hba => g4.2.2.1 b i hb hba
  have cu : CuS M20 29 := ⟨g4.2.2.2.2 _ _ _ hC.o, ⟨(old 29 0 (by omega) (by omega)).trans hC.r0, g4.2.2.2.2 _ _ _ hC.k0⟩, ⟨(old 29 1 (by omega) (by omega)).trans hC.r1, g4.2.2.2.2 _ _ _ hC.k1⟩, ⟨(old 29 2 (by omega) (by omega)).trans hC.r2, g4.2.2.2.2 _ _ _ hC.k2⟩, ⟨(old 29 3 (by omega) (by omega)).trans hC.r3, g4.2.2.2.2 _ _ _ hC.k3⟩⟩
  have jo : JoS M20 35 := ⟨g4.2.2.2.2 _ _ _ hJ.o, ⟨(old 35 5 (by omega) (by omega)).trans hJ.r5, g4.2.2.2.2 _ _ _ hJ.2.2⟩⟩
  exact h M20 g4 g1 ⟨g4.2.2.2.2 _ _ _ ha, ⟨g5 (0, 29) (by simp), cu⟩, ⟨g5 (1, 35) (by simp), jo⟩, ⟨g5 (4, a + 1) (by simp), g6 (a + 1, 14, 8) (by simp)⟩, ⟨g5 (6, a + 2) (by simp), g6 (a + 2, 14, 4) (by simp)⟩, ⟨g5 (12, a + 3) (by simp), g6 (a + 3, 14, 8) (by simp)⟩, ⟨g5 (13, a + 4) (by simp), g6 (a + 4, 14, 8) (by simp)⟩⟩
end GAMEINIT
