/-! THE CLASS: its parts are made, on -/
section PARTS
variable {X : Cx} {d kc ns a : Nat} {M : Mem} {Q : Option AV → Mem → Prop}
theorem kp_joinInit {x : Nat} (hd : 1 ≤ d) (hkc : 2 ≤ kc) (hns : 4 ≤ ns) (ha : isK M a 2 8) (hx : nx M = a + 1)
    (h : ∀ B, Fal (fun b _ => b = a) (fun b _ => b = a) M B → nx B = a + 3 → JoS B a → Q none B) : Cl X d kc ns m_X2_init [vR a, vR x] M Q := by
  have i4 : ix (nI 4) = 4 := na_ix (by decide)
  have i0 : ix (nI 0) = 0 := na_ix (by decide)
  have s0 := mkL.start (M := M) (a := a) (by omega)
  rw [hx] at s0
  refine e_X2_init (b_X2_init_0 ha hd ⟨na_in (by decide) (by decide), by omega, by rw [i0]; omega, fun M1 e1 M2 e2 M3 e3 M4 e4 M5 e5 => ⟨na_in (by decide) (by decide), by omega, by rw [i0, i4]; omega, fun M6 e6 M7 e7 M8 e8 M9 e9 M10 e10 => ?_⟩⟩)
  rw [i0] at e1
  rw [i4] at e6
  rw [hx] at e2
  have s1 := s0.new (k := 14) (n := 0)
  rw [← e1] at s1
  have s2 := s1.putR (i := 1) (v := a + 1) rfl
  rw [← e2] at s2
  have s3 := s2.putI (i := 2) (v := nI 0) rfl
  rw [← e3] at s3
  have s4 := s3.putI (i := 3) (v := nI 0) rfl
  rw [← e4] at s4
  have s5 := s4.putI (i := 4) (v := nI 0) rfl
  rw [← e5] at s5
  have s6 := s5.new (k := 14) (n := 4)
  rw [← e6] at s6
  rw [s5.1] at e7
  have s7 := s6.putR (i := 5) (v := a + 1 + 1) rfl
  rw [← e7] at s7
  have s8 := s7.putI (i := 6) (v := -1) rfl
  rw [← e8] at s8
  have s9 := s8.putI (i := 7) (v := nI 0) rfl
  rw [← e9] at s9
  have s10 := s9.putR (i := 0) (v := x) rfl
  rw [← e10] at s10
  obtain ⟨g1, g2, g3, g4, g5, g6, g7, g8⟩ := s10
  exact h M10 g4 g1 ⟨g4.2.2.2.2 _ _ _ ha, ⟨g5 (5, a + 2) (by simp), g6 (a + 2, 14, 4) (by simp)⟩⟩
theorem kp_ltInit (hd : 1 ≤ d) (hkc : 3 ≤ kc) (hns : 45 ≤ ns) (ha : isK M a 4 7) (hx : nx M = a + 1)
    (h : ∀ B, Fal (fun b _ => b = a) (fun b _ => b = a) M B → nx B = a + 4 → LtS B a → mI B a 0 = mI M a 0 → Q none B) : Cl X d kc ns m_X4_init [vR a] M Q := by
  have i9 : ix (nI 9) = 9 := na_ix (by decide)
  have i27 : ix (nI 27) = 27 := na_ix (by decide)
  have s0 := mkL.start (M := M) (a := a) (by omega)
  rw [hx] at s0
  refine e_X4_init (b_X4_init_0 ha hd ⟨na_in (by decide) (by decide), by omega, by rw [i27]; omega, fun M1 e1 M2 e2 => ⟨na_in (by decide) (by decide), by omega, by rw [i27, i9]; omega, fun M3 e3 M4 e4 => ⟨na_in (by decide) (by decide), by omega, by rw [i27, i9]; omega, fun M5 e5 M6 e6 => ?_⟩⟩⟩)
  rw [i27] at e1
  rw [i9] at e3 e5
  rw [hx] at e2
  have s1 := s0.new (k := 14) (n := 27)
  rw [← e1] at s1
  have s2 := s1.putR (i := 4) (v := a + 1) rfl
  rw [← e2] at s2
  have s3 := s2.new (k := 14) (n := 9)
  rw [← e3] at s3
  rw [s2.1] at e4
  have s4 := s3.putR (i := 5) (v := a + 1 + 1) rfl
  rw [← e4] at s4
  have s5 := s4.new (k := 14) (n := 9)
  rw [← e5] at s5
  rw [s4.1] at e6
  have s6 := s5.putR (i := 6) (v := a + 1 + 1 + 1) rfl
  rw [← e6] at s6
  obtain ⟨g1, g2, g3, g4, g5, g6, g7, g8⟩ := s6
  have hF : Fal (fun _ _ => False) (fun b _ => b = a) M M6 := by
    rw [e6, e5, e4, e3, e2, e1]
    exact ((((Fal.nw.trans (Frr.sR (T := fun b _ => b = a) rfl).al).trans Fal.nw).trans (Frr.sR (T := fun b _ => b = a) rfl).al).trans Fal.nw).trans (Frr.sR (T := fun b _ => b = a) rfl).al
  exact h M6 g4 g1 ⟨g4.2.2.2.2 _ _ _ ha, ⟨g5 (4, a + 1) (by simp), g6 (a + 1, 14, 27) (by simp)⟩, ⟨g5 (5, a + 2) (by simp), g6 (a + 2, 14, 9) (by simp)⟩, ⟨g5 (6, a + 3) (by simp), g6 (a + 3, 14, 9) (by simp)⟩⟩ (hF.2.1 a 0 (by omega) id)
end PARTS
