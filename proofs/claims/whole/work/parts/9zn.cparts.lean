/-! THE CLASS: its parts are made -/
section PARTS
variable {X : Cx} {d kc ns a : Nat} {M : Mem} {Q : Option AV → Mem → Prop}
theorem kp_tapeInit (hd : 1 ≤ d) (hkc : 1 ≤ kc) (hns : 300 ≤ ns) (ha : isK M a 9 4) (hx : nx M = a + 1)
    (h : ∀ B, Fal (fun b _ => b = a) (fun b _ => b = a) M B → nx B = a + 2 → TaS B a → mI B a 1 = nI 0 → Q none B) : Cl X d kc ns m_X9_init [vR a] M Q := by
  have i3 : ix (nI 300) = 300 := na_ix (by decide)
  have s0 := mkL.start (M := M) (a := a) (by omega)
  rw [hx] at s0
  refine e_X9_init (b_X9_init_0 ha hd ⟨na_in (by decide) (by decide), hkc, by rw [i3]; omega, fun M1 e1 M2 e2 M3 e3 M4 e4 M5 e5 => ?_⟩)
  rw [i3] at e1
  rw [hx] at e2
  have s1 := s0.new (k := 13) (n := 300)
  rw [← e1] at s1
  have s2 := s1.putR (i := 0) (v := a + 1) rfl
  rw [← e2] at s2
  have s3 := s2.putI (i := 1) (v := nI 0) rfl
  rw [← e3] at s3
  have s4 := s3.putI (i := 2) (v := nI 0) rfl
  rw [← e4] at s4
  have s5 := s4.putI (i := 3) (v := -1) rfl
  rw [← e5] at s5
  obtain ⟨g1, g2, g3, g4, g5, g6, g7, g8⟩ := s5
  exact h M5 g4 g1 ⟨g4.2.2.2.2 _ _ _ ha, ⟨g5 (0, a + 1) (by simp), g6 (a + 1, 13, 300) (by simp)⟩⟩ (g8 (1, nI 0) (by simp))
theorem kp_ptInit (hd : 1 ≤ d) (hkc : 2 ≤ kc) (hns : 12 ≤ ns) (ha : isK M a 7 3) (hx : nx M = a + 1)
    (h : ∀ B, Fal (fun b _ => b = a) (fun b _ => b = a) M B → nx B = a + 3 → PtS B a → mI B a 0 = mI M a 0 → Q none B) : Cl X d kc ns m_X7_init [vR a] M Q := by
  have i6 : ix (nI 6) = 6 := na_ix (by decide)
  have s0 := mkL.start (M := M) (a := a) (by omega)
  rw [hx] at s0
  refine e_X7_init (b_X7_init_0 ha hd ⟨na_in (by decide) (by decide), by omega, by rw [i6]; omega, fun M1 e1 M2 e2 => ⟨na_in (by decide) (by decide), by omega, by rw [i6]; omega, fun M3 e3 M4 e4 => ?_⟩⟩)
  rw [i6] at e1 e3
  rw [hx] at e2
  have s1 := s0.new (k := 14) (n := 6)
  rw [← e1] at s1
  have s2 := s1.putR (i := 1) (v := a + 1) rfl
  rw [← e2] at s2
  have s3 := s2.new (k := 14) (n := 6)
  rw [← e3] at s3
  rw [s2.1] at e4
  have s4 := s3.putR (i := 2) (v := a + 1 + 1) rfl
  rw [← e4] at s4
  obtain ⟨g1, g2, g3, g4, g5, g6, g7, g8⟩ := s4
  have hF : Fal (fun _ _ => False) (fun b _ => b = a) M M4 := by
    rw [e4, e3, e2, e1]
    exact ((Fal.nw.trans (Frr.sR (T := fun b _ => b = a) rfl).al).trans Fal.nw).trans (Frr.sR (T := fun b _ => b = a) rfl).al
  exact h M4 g4 g1 ⟨g4.2.2.2.2 _ _ _ ha, ⟨g5 (1, a + 1) (by simp), g6 (a + 1, 14, 6) (by simp)⟩, ⟨g5 (2, a + 2) (by simp), g6 (a + 2, 14, 6) (by simp)⟩⟩ (hF.2.1 a 0 (by omega) id)
theorem kp_cutInit (hd : 1 ≤ d) (hkc : 5 ≤ kc) (hns : 39 ≤ ns) (ha : isK M a 0 9) (hx : nx M = a + 1)
    (h : ∀ B, Fal (fun b _ => b = a) (fun b _ => b = a) M B → nx B = a + 6 → CuS B a → mI B (a + 4) 0 = nI 0 → Q none B) : Cl X d kc ns m_X0_init [vR a] M Q := by
  have i8 : ix (nI 8) = 8 := na_ix (by decide)
  have i10 : ix (nI 10) = 10 := na_ix (by decide)
  have i11 : ix (nI 11) = 11 := na_ix (by decide)
  have i0 : ix (nI 0) = 0 := na_ix (by decide)
  have s0 := mkL.start (M := M) (a := a) (by omega)
  rw [hx] at s0
  refine e_X0_init (b_X0_init_0 ha hd ⟨na_in (by decide) (by decide), by omega, by rw [i8]; omega, fun M1 e1 M2 e2 => ⟨na_in (by decide) (by decide), by omega, by rw [i8, i10]; omega, fun M3 e3 M4 e4 => ⟨na_in (by decide) (by decide), by omega, by rw [i8, i10]; omega, fun M5 e5 M6 e6 => ⟨na_in (by decide) (by decide), by omega, by rw [i8, i10, i11]; omega, fun M7 e7 M8 e8 => ⟨na_in (by decide) (by decide), by omega, by rw [i8, i10, i11, i0]; omega, fun M9 e9 M10 e10 M11 e11 M12 e12 M13 e13 M14 e14 => ?_⟩⟩⟩⟩⟩)
  rw [i8] at e1
  rw [i10] at e3 e5
  rw [i11] at e7
  rw [i0] at e9
  rw [hx] at e2
  have s1 := s0.new (k := 14) (n := 8)
  rw [← e1] at s1
  have s2 := s1.putR (i := 0) (v := a + 1) rfl
  rw [← e2] at s2
  have s3 := s2.new (k := 14) (n := 10)
  rw [← e3] at s3
  rw [s2.1] at e4
  have s4 := s3.putR (i := 1) (v := a + 1 + 1) rfl
  rw [← e4] at s4
  have s5 := s4.new (k := 14) (n := 10)
  rw [← e5] at s5
  rw [s4.1] at e6
  have s6 := s5.putR (i := 2) (v := a + 1 + 1 + 1) rfl
  rw [← e6] at s6
  have s7 := s6.new (k := 14) (n := 11)
  rw [← e7] at s7
  rw [s6.1] at e8
  have s8 := s7.putR (i := 3) (v := a + 1 + 1 + 1 + 1) rfl
  rw [← e8] at s8
  have s9 := s8.new (k := 14) (n := 0)
  rw [← e9] at s9
  rw [s8.1] at e10
  have s10 := s9.putR (i := 4) (v := a + 1 + 1 + 1 + 1 + 1) rfl
  rw [← e10] at s10
  have s11 := s10.putI (i := 5) (v := nI 0) rfl
  rw [← e11] at s11
  have s12 := s11.putI (i := 6) (v := nI 0) rfl
  rw [← e12] at s12
  have s13 := s12.putI (i := 7) (v := nI 0) rfl
  rw [← e13] at s13
  have s14 := s13.putI (i := 8) (v := -1) rfl
  rw [← e14] at s14
  obtain ⟨g1, g2, g3, g4, g5, g6, g7, g8⟩ := s14
  exact h M14 g4 g1 ⟨g4.2.2.2.2 _ _ _ ha, ⟨g5 (0, a + 1) (by simp), g6 (a + 1, 14, 8) (by simp)⟩, ⟨g5 (1, a + 2) (by simp), g6 (a + 2, 14, 10) (by simp)⟩, ⟨g5 (2, a + 3) (by simp), g6 (a + 3, 14, 10) (by simp)⟩, ⟨g5 (3, a + 4) (by simp), g6 (a + 4, 14, 11) (by simp)⟩⟩ ((g7 (a + 1 + 1 + 1 + 1, fun _ => 0) (by simp)).2.2 0)
end PARTS
