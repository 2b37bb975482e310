/-! THE CLASS: the mind is made -/
section MINDI
variable {X : Cx} {d kc ns a : Nat} {M : Mem} {Q : Option AV → Mem → Prop}
theorem kp_mindInit {x y : Nat} (hd : 2 ≤ d) (hkc : 28 ≤ kc) (hns : 4300 ≤ ns) (ha : isK M a 5 10) (hx : nx M = a + 1) (ha2 : 37 < a) (hJ : JoS M 35)
    (h : ∀ B, nx B = a + 29 → Fal (fun b _ => b = a) (fun b _ => b = a) M B → MiS B a → (∀ k, k < 4 → mR B (a + 1) k = a + 5 + 6 * k ∧ CuS B (a + 5 + 6 * k) ∧ mI B (a + 5 + 6 * k + 4) 0 = nI 0) → (mR B a 5 = x ∧ mR B a 6 = y) → Q none B) : Cl X d kc ns m_X5_init [vR a, vR 35, vR x, vR y] M Q := by
  have i4 : ix (nI 4) = 4 := na_ix (by decide)
  have i8 : ix (nI 8) = 8 := na_ix (by decide)
  have i2 : ix (nI 2048) = 2048 := na_ix (by decide)
  have s0 := mkL.start (M := M) (a := a) (by omega)
  rw [hx] at s0
  have key : ∀ r k (B : Mem) (kc ns : Nat), k + r = 4 → 6 * r ≤ kc → 48 * r ≤ ns → nx B = a + 5 + 6 * k → Fal (fun b _ => b = a) (fun b _ => b = a) M B → MiS B a → (∀ j, j < k → mR B (a + 1) j = a + 5 + 6 * j ∧ CuS B (a + 5 + 6 * j) ∧ mI B (a + 5 + 6 * j + 4) 0 = nI 0) → (mR B a 5 = x ∧ mR B a 6 = y) → WA X d kc ns m_X5_init 71 [some (vR a), none, none, none, some (vI (nI k))] [] B Q := by
    intro r
    induction r with
    | zero =>
      intro k B kc ns hk h1 h2 hn hF hMi hc h56
      obtain rfl : k = 4 := by omega
      exact b_X5_init_71 hMi.o (by omega) ⟨fun _ => h B hn hF hMi hc h56, fun q => absurd (Int32.le_refl _) q⟩
    | succ r ih =>
      intro k B kc ns hk h1 h2 hn hF hMi hc h56
      refine b_X5_init_71 hMi.o (by omega) ⟨fun q => absurd (by rw [na_le (by decide) (by omega)] at q; omega) (id : False → False), fun _ => ⟨by omega, by omega, fun M1 e1 => ⟨5, 39, by omega, by omega, ?_⟩⟩⟩
      have F1 : Fal (fun _ _ => False) (fun _ _ => False) B M1 := by rw [e1]; exact Fal.nw
      have x1 : nx M1 = nx B + 1 := by rw [e1, nx_nw]
      have k1 : isK M1 (nx B) 0 9 := by rw [e1]; exact isK_nw
      refine kp_cutInit (by omega) (by omega) (by omega) k1 x1 (fun C hFC hnC hCu hC4 => ?_)
      have FBC := F1.behind hFC (fun b k hb w => by
        have w : b = nx B := w
        omega) (fun b k hb w => by
        have w : b = nx B := w
        omega)
      have EBC := FBC.ext (fun _ _ _ _ q => q.elim)
      have mC := hMi.ext EBC
      rw [hMi.r1]
      refine ⟨rfl, 4, mC.k1, hCu.o, na_in (by omega) (by decide), fun M3 e3 => ?_⟩
      rw [na_ix (by omega)] at e3
      have f3 : Frr (fun _ _ => False) (fun b i => b = a + 1 ∧ i = k) C M3 := by rw [e3]; exact Frr.sR ⟨rfl, rfl⟩
      have E3 : Ext C M3 := f3.ext (fun b i ci n q hk => by
        obtain ⟨rfl, -⟩ := q
        obtain ⟨e1, -⟩ := isK_fun mC.k1 hk
        subst e1; rfl)
      have nx3 : nx M3 = nx C := by unfold nx; rw [f3.2.2]
      rw [nI_add]
      have rB : ∀ i, mR M3 a i = mR B a i := fun i => (f3.r (fun w => by omega)).trans (FBC.2.2.1 a i (by omega) id)
      refine ih (k + 1) M3 _ _ (by omega) (by omega) (by omega) (by rw [nx3, hnC]; omega) ?_ (mC.ext E3) (fun j hj => ?_) ⟨(rB 5).trans h56.1, (rB 6).trans h56.2⟩
      · exact ⟨by have := hF.1; omega, fun b i hb w => (f3.i id).trans ((FBC.2.1 b i (by omega) id).trans (hF.2.1 b i hb w)), fun b i hb w => (f3.r (fun q => by omega)).trans ((FBC.2.2.1 b i (by omega) id).trans (hF.2.2.1 b i hb w)), fun b i hb => (show mJ M3 b i = mJ C b i by unfold mJ; rw [f3.2.2]).trans ((FBC.2.2.2.1 b i (by omega)).trans (hF.2.2.2.1 b i hb)), fun b c n q => f3.k (FBC.2.2.2.2 _ _ _ (hF.2.2.2.2 _ _ _ q))⟩
      · by_cases z : j = k
        · subst z
          rw [hn] at e3 hCu hC4
          exact ⟨by rw [e3, mR_sR, if_pos ⟨rfl, rfl⟩], hCu.ext E3, (f3.i id).trans hC4⟩
        · obtain ⟨c1, c2, c3⟩ := hc j (by omega)
          exact ⟨(f3.r (fun w => z w.2)).trans ((FBC.2.2.1 _ _ (by omega) id).trans c1), (c2.ext EBC).ext E3, (f3.i id).trans ((FBC.2.1 _ _ (by omega) id).trans c3)⟩
  refine e_X5_init (b_X5_init_0 ha (by omega) ⟨na_in (by decide) (by decide), by omega, by rw [i4]; omega, fun M1 e1 M2 e2 => ⟨na_in (by decide) (by decide), by omega, by rw [i4, i2]; omega, fun M3 e3 M4 e4 => ⟨na_in (by decide) (by decide), by omega, by rw [i4, i2]; omega, fun M5 e5 M6 e6 => ⟨na_in (by decide) (by decide), by omega, by rw [i4, i2, i8]; omega, fun M7 e7 M8 e8 M9 e9 M10 e10 M11 e11 M12 e12 M13 e13 M14 e14 => ?_⟩⟩⟩⟩)
  rw [i4] at e1
  rw [i2] at e3 e5
  rw [i8] at e7
  rw [hx] at e2
  have s1 := s0.new (k := 16) (n := 4)
  rw [← e1] at s1
  have s2 := s1.putR (i := 1) (v := a + 1) rfl
  rw [← e2] at s2
  have s3 := s2.new (k := 14) (n := 2048)
  rw [← e3] at s3
  rw [s2.1] at e4
  have s4 := s3.putR (i := 2) (v := a + 1 + 1) rfl
  rw [← e4] at s4
  have s5 := s4.new (k := 14) (n := 2048)
  rw [← e5] at s5
  rw [s4.1] at e6
  have s6 := s5.putR (i := 3) (v := a + 1 + 1 + 1) rfl
  rw [← e6] at s6
  have s7 := s6.new (k := 14) (n := 8)
  rw [← e7] at s7
  rw [s6.1] at e8
  have s8 := s7.putR (i := 4) (v := a + 1 + 1 + 1 + 1) rfl
  rw [← e8] at s8
  have s9 := s8.putI (i := 7) (v := nI 0) rfl
  rw [← e9] at s9
  have s10 := s9.putI (i := 8) (v := -1) rfl
  rw [← e10] at s10
  have s11 := s10.putI (i := 9) (v := -1) rfl
  rw [← e11] at s11
  have s12 := s11.putR (i := 0) (v := 35) rfl
  rw [← e12] at s12
  have s13 := s12.putR (i := 5) (v := x) rfl
  rw [← e13] at s13
  have s14 := s13.putR (i := 6) (v := y) rfl
  rw [← e14] at s14
  obtain ⟨g1, g2, g3, g4, g5, g6, g7, g8⟩ := s14
  have jo : JoS M14 35 := ⟨g4.2.2.2.2 _ _ _ hJ.o, ⟨(g4.2.2.1 35 5 (by omega) (fun w => by
    have w : 35 = a := w
    omega)).trans hJ.r5, g4.2.2.2.2 _ _ _ hJ.2.2⟩⟩
  rw [i4, i2, i8]
  exact key 4 0 M14 _ _ rfl (by omega) (by omega) g1 g4 ⟨g4.2.2.2.2 _ _ _ ha, ⟨g5 (0, 35) (by simp), jo⟩, ⟨g5 (1, a + 1) (by simp), g6 (a + 1, 16, 4) (by simp)⟩, ⟨g5 (2, a + 2) (by simp), g6 (a + 2, 14, 2048) (by simp)⟩, ⟨g5 (3, a + 3) (by simp), g6 (a + 3, 14, 2048) (by simp)⟩, ⟨g5 (4, a + 4) (by simp), g6 (a + 4, 14, 8) (by simp)⟩⟩ (fun j hj => absurd hj (Nat.not_lt_zero _)) ⟨g5 (5, x) (by simp), g5 (6, y) (by simp)⟩
end MINDI
