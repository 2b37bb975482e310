/-! THE CLASS: the land that stands where none has come -/
section NOWHERE
variable {X : Cx} {d kc ns a : Nat} {M : Mem} {Q : Option AV → Mem → Prop}
theorem kp_nowhere (hd : 3 ≤ d) (hkc : 11 ≤ kc) (hns : 69 ≤ ns) (ha : isK M a 3 16) (hx : nx M = a + 1) (ha7 : 7 < a) (hS : LtS M 4) (l0 : mI M 4 0 = nI 0)
    (h : ∀ B, Fal (fun b _ => b = a) (fun b _ => b = a) M B → nx B = a + 12 → Q none B) : Cl X d kc ns m_X3_init [vR a, vR 4] M Q := by
  have i16 : ix (nI 16) = 16 := na_ix (by decide)
  have e1n : shl (nI 1) (nI 0) = nI 1 := by decide
  have iN : ix (nI 1) = 1 := na_ix (by decide)
  have vN : vp_in (nI 1) 65536 := na_in (by decide) (by decide)
  have s0 := mkL.start (M := M) (a := a) (by omega)
  rw [hx] at s0
  refine e_X3_init (b_X3_init_0 ha (by omega) ⟨na_in (by decide) (by decide), by omega, by rw [i16]; omega, fun M1 e1 M2 e2 M3 e3 M4 e4 => ?_⟩)
  rw [i16] at e1 ⊢
  rw [hx] at e2
  have s1 := s0.new (k := 14) (n := 16)
  rw [← e1] at s1
  have s2 := s1.putR (i := 12) (v := a + 1) rfl
  rw [← e2] at s2
  have s3 := s2.putI (i := 14) (v := nI 1) rfl
  rw [← e3] at s3
  have s4 := s3.putI (i := 15) (v := nI 0) rfl
  rw [← e4] at s4
  refine ⟨s4.kk hS.1, fun M5 e5 M6 e6 M7 e7 M8 e8 M9 e9 => ?_⟩
  have o4 : ∀ {B : Mem} {j : Nat} {rs : List (Nat × Nat)} {ks : List (Nat × Nat × Nat)} {cs : List (Nat × (Nat → Int32))} {fs : List (Nat × Int32)} (b i : Nat), mkL M B a j rs ks cs fs → b ≤ 7 → mI B b i = mI M b i ∧ mR B b i = mR M b i := fun b i s hb => s.old (by omega) (by omega)
  rw [(o4 4 0 s4 (by decide)).1, l0] at e5
  have s5 := s4.putI (i := 0) (v := nI 0) rfl
  rw [← e5] at s5
  rw [(o4 4 1 s5 (by decide)).1] at e6
  have s6 := s5.putI (i := 1) (v := mI M 4 1) rfl
  rw [← e6] at s6
  rw [(o4 4 2 s6 (by decide)).1] at e7
  have s7 := s6.putI (i := 2) (v := mI M 4 2) rfl
  rw [← e7] at s7
  rw [(o4 4 3 s7 (by decide)).1] at e8
  have s8 := s7.putI (i := 3) (v := mI M 4 3) rfl
  rw [← e8] at s8
  rw [s8.f (i := 0) (v := nI 0) (by simp), e1n, na_sub (by decide)] at e9
  have s9 := s8.putI (i := 4) (v := nI (1 - 1)) rfl
  rw [← e9] at s9
  have r4 : mR M9 4 4 = 5 := (o4 4 4 s9 (by decide)).2.trans hS.2.1.1
  refine ⟨27, by rw [r4]; exact s9.kk hS.2.1.2, by omega, by omega, fun M10 e10 M11 e11 => ?_⟩
  rw [r4] at e10
  rw [s9.1] at e11
  have s10 := s9.newc (c := 5) (n := 27) (f := mI M 5) (fun k => (o4 5 k s9 (by decide)).1)
  rw [← e10] at s10
  have s11 := s10.putR (i := 5) (v := a + 1 + 1) rfl
  rw [← e11] at s11
  have r5 : mR M11 4 5 = 6 := (o4 4 5 s11 (by decide)).2.trans hS.2.2.1.1
  refine ⟨9, by rw [r5]; exact s11.kk hS.2.2.1.2, by omega, by omega, fun M12 e12 M13 e13 => ?_⟩
  rw [r5] at e12
  rw [s11.1] at e13
  have s12 := s11.newc (c := 6) (n := 9) (f := mI M 6) (fun k => (o4 6 k s11 (by decide)).1)
  rw [← e12] at s12
  have s13 := s12.putR (i := 6) (v := a + 1 + 1 + 1) rfl
  rw [← e13] at s13
  have r6 : mR M13 4 6 = 7 := (o4 4 6 s13 (by decide)).2.trans hS.2.2.2.1
  refine ⟨9, by rw [r6]; exact s13.kk hS.2.2.2.2, by omega, by omega, fun M14 e14 M15 e15 => ?_⟩
  rw [r6] at e14
  rw [s13.1] at e15
  have s14 := s13.newc (c := 7) (n := 9) (f := mI M 7) (fun k => (o4 7 k s13 (by decide)).1)
  rw [← e14] at s14
  have s15 := s14.putR (i := 7) (v := a + 1 + 1 + 1 + 1) rfl
  rw [← e15] at s15
  rw [s15.f (i := 0) (v := nI 0) (by simp), e1n, iN]
  refine ⟨vN, by omega, by omega, fun M16 e16 M17 e17 => ?_⟩
  rw [s15.1] at e17
  have s16 := s15.new (k := 14) (n := 1)
  rw [← e16] at s16
  have s17 := s16.putR (i := 8) (v := a + 1 + 1 + 1 + 1 + 1) rfl
  rw [← e17] at s17
  rw [s17.f (i := 0) (v := nI 0) (by simp), e1n, iN]
  refine ⟨vN, by omega, by omega, fun M18 e18 M19 e19 => ?_⟩
  rw [s17.1] at e19
  have s18 := s17.new (k := 12) (n := 1)
  rw [← e18] at s18
  have s19 := s18.putR (i := 9) (v := a + 1 + 1 + 1 + 1 + 1 + 1) rfl
  rw [← e19] at s19
  rw [s19.f (i := 0) (v := nI 0) (by simp), e1n, iN]
  refine ⟨vN, by omega, by omega, fun M20 e20 M21 e21 => ?_⟩
  rw [s19.1] at e21
  have s20 := s19.new (k := 14) (n := 1)
  rw [← e20] at s20
  have s21 := s20.putR (i := 10) (v := a + 1 + 1 + 1 + 1 + 1 + 1 + 1) rfl
  rw [← e21] at s21
  rw [s21.f (i := 0) (v := nI 0) (by simp), e1n, iN]
  refine ⟨vN, by omega, by omega, fun M22 e22 M23 e23 => ?_⟩
  rw [s21.1] at e23
  have s22 := s21.new (k := 14) (n := 1)
  rw [← e22] at s22
  have s23 := s22.putR (i := 11) (v := a + 1 + 1 + 1 + 1 + 1 + 1 + 1 + 1) rfl
  rw [← e23] at s23
  refine ⟨by omega, by omega, fun M24 e24 => ⟨2, 0, by omega, Nat.zero_le _, ?_⟩⟩
  have s24 := s23.new (k := 8) (n := 4)
  rw [← e24] at s24
  rw [s23.1]
  have k24 : isK M24 (a + 1 + 1 + 1 + 1 + 1 + 1 + 1 + 1 + 1) 8 4 := s24.2.2.2.2.2.1 (_, 8, 4) (by simp)
  refine kp_rollInit (by omega) (by omega) k24 (fun M25 hF25 x25 ra25 rb25 ka25 kb25 z25 => ⟨rfl, hF25.2.2.2.2 _ _ _ (s24.kk ha), fun M26 e26 => ?_⟩)
  rw [s24.1] at x25 ra25 rb25 ka25 kb25
  have s24' := s24.less [(a + 8, fun _ => 0), (a + 7, fun _ => 0), (a + 6, fun _ => 0), (a + 5, fun _ => 0), (a + 4, mI M 7), (a + 3, mI M 6), (a + 2, mI M 5), (a + 1, fun _ => 0)] (fun e he => by simpa using Or.inr he)
  have s25 := s24'.al hF25 (by omega) (fun e he => by
    simp only [List.mem_cons, List.not_mem_nil, or_false] at he
    rcases he with rfl | rfl | rfl | rfl | rfl | rfl | rfl | rfl <;> (dsimp only; omega))
  have s26 := s25.putR (i := 13) (v := a + 9) rfl
  rw [← e26] at s26
  obtain ⟨g1, g2, g3, g4, g5, g6, g7, g8⟩ := s26
  have s26 : mkL M M26 a _ _ _ _ _ := ⟨g1, g2, g3, g4, g5, g6, g7, g8⟩
  have kn : ∀ b k n, isK M26 b k n → isK M26 b k (mN M26 b) := fun b k n hk => isK_n hk
  have LS : LaS M26 a := ⟨s26.kk ha, ⟨g5 (5, a + 2) (by simp), g6 (a + 2, 14, 27) (by simp)⟩, ⟨g5 (6, a + 3) (by simp), g6 (a + 3, 14, 9) (by simp)⟩, ⟨g5 (7, a + 4) (by simp), g6 (a + 4, 14, 9) (by simp)⟩, ⟨g5 (8, a + 5) (by simp), isK_n (g6 (a + 5, 14, 1) (by simp))⟩, ⟨g5 (9, a + 6) (by simp), isK_n (g6 (a + 6, 12, 1) (by simp))⟩, ⟨g5 (10, a + 7) (by simp), isK_n (g6 (a + 7, 14, 1) (by simp))⟩, ⟨g5 (11, a + 8) (by simp), isK_n (g6 (a + 8, 14, 1) (by simp))⟩, ⟨g5 (12, a + 1) (by simp), g6 (a + 1, 14, 16) (by simp)⟩, ⟨g5 (13, a + 9) (by simp), g6 (a + 9, 8, 4) (by simp)⟩⟩
  have p0 : mI M26 a 0 = nI 0 := g8 (0, nI 0) (by simp)
  have p4 : mI M26 a 4 = nI 0 := g8 (4, nI (1 - 1)) (by simp)
  have x26 : nx M26 = a + 12 := by rw [e26]; show nx M25 = _; omega
  have fin : Q none M26 := h M26 g4 x26
  refine e_X3_gatherTogether (b_X3_gatherTogether_0 LS (b_X3_gatherTogether_2 LS ⟨fun _ => ⟨rfl, Ext.refl _, ?_⟩, fun q => absurd (by rw [p0]; decide) q⟩))
  refine e_X3_findHanging (b_X3_findHanging_0 LS (b_X3_findHanging_2 LS (by omega) ⟨fun _ => ?_, fun q => absurd (by rw [p4]; decide) q⟩))
  refine e_X3_lookAhead (b_X3_lookAhead_0 LS (fun x1 e1 => ?_))
  rw [p4] at e1
  subst e1
  refine b_X3_lookAhead_5 LS ⟨fun q => absurd q (by decide), fun _ x2 e2 => ?_⟩
  rw [p0] at e2
  subst e2
  refine b_X3_lookAhead_16 LS ⟨fun _ => ?_, fun q => absurd (by decide) q⟩
  exact b_X3_lookAhead_5 LS ⟨fun _ => ⟨rfl, Ext.refl _, rfl, Ext.refl _, fin⟩, fun q => absurd (by decide) q⟩
/-- the protocol that stands where none has come -/
theorem kp_nothing (hd : 1 ≤ d) (hkc : 2 ≤ kc) (hns : 8 ≤ ns) (ha : isK M a 6 2) (hx : nx M = a + 1) (ha10 : 10 < a) (hS : PtS M 8) (hP : mI M 8 0 = nI 0)
    (h : ∀ B, Fal (fun _ _ => False) (fun b _ => b = a) M B → nx B = a + 3 → Q none B) : Cl X d kc ns m_X6_init [vR a, vR 8] M Q := by
  refine e_X6_init (b_X6_init_0 ha hd ⟨na_in (by decide) (by decide), by omega, by rw [na_ix (by decide)]; omega, fun M1 e1 M2 e2 => ⟨na_in (by decide) (by decide), by omega, by rw [na_ix (by decide)]; omega, fun M3 e3 M4 e4 => ?_⟩⟩)
  have x1 : nx M1 = a + 2 := by rw [e1, nx_nw, hx]
  have x2 : nx M2 = a + 2 := by rw [e2]; exact x1
  have x3 : nx M3 = a + 3 := by rw [e3, nx_nw, x2]
  have x4 : nx M4 = a + 3 := by rw [e4]; exact x3
  have hF : Fal (fun _ _ => False) (fun b _ => b = a) M M4 := by
    rw [e4, e3, e2, e1]
    exact ((Fal.nw.trans (Frr.sR (T := fun b _ => b = a) rfl).al).trans Fal.nw).trans (Frr.sR (T := fun b _ => b = a) rfl).al
  have l8 : 8 < nx M := by omega
  have p8 : mI M4 8 0 = nI 0 := (hF.2.1 8 0 l8 id).trans hP
  exact b_X6_init_20 (hF.2.2.2.2 _ _ _ ha) ⟨fun q => absurd q (by decide), fun _ => ⟨hF.2.2.2.2 _ _ _ hS.1, fun _ => h M4 hF x4, fun q => absurd (by rw [p8]; decide) q⟩⟩
end NOWHERE
