/-! THE CLASS: a land is made, the walk -/
theorem mkL.less {M B : Mem} {a j : Nat} {rs : List (Nat × Nat)} {ks : List (Nat × Nat × Nat)} {cs : List (Nat × (Nat → Int32))} {fs : List (Nat × Int32)} (h : mkL M B a j rs ks cs fs) (cs' : List (Nat × (Nat → Int32))) (hs : ∀ e, e ∈ cs' → e ∈ cs) : mkL M B a j rs ks cs' fs :=
  ⟨h.1, h.2.1, h.2.2.1, h.2.2.2.1, h.2.2.2.2.1, h.2.2.2.2.2.1, fun e he => h.2.2.2.2.2.2.1 e (hs e he), h.2.2.2.2.2.2.2⟩
section LANDINIT
variable {X : Cx} {d kc ns a : Nat} {L : LandT} {M : Mem} {Q : Option AV → Mem → Prop}
theorem kp_landInit (hd : 3 ≤ d) (hkc : 11 ≤ kc) (hns : 65 + 4 * 2 ^ L.1 ≤ ns) (ha : isK M a 3 16) (hx : nx M = a + 1) (ha7 : 7 < a) (hS : LtS M 4) (hL : kL M L) (hO : LdOK L)
    (h : ∀ B, Fal (fun b _ => b = a) (fun b _ => b = a) M B → nx B = a + 12 → laC B a L → mI B (a + 1) 0 = nI 0 → mI B a 14 = nI 1 → mI B a 15 = nI 0 → (mR B (a + 9) 0 = a + 10 ∧ mR B (a + 9) 1 = a + 11 ∧ isK B (a + 10) 14 0 ∧ isK B (a + 11) 14 0 ∧ mI B (a + 9) 3 = nI 0) → Q none B) : Cl X d kc ns m_X3_init [vR a, vR 4] M Q := by
  have hn := hO.1
  have h512 := p9 hn.2
  have hpos := Nat.two_pow_pos L.1
  have i16 : ix (nI 16) = 16 := na_ix (by decide)
  have e1n : shl (nI 1) (nI L.1) = nI (2 ^ L.1) := na_1shl (by omega)
  have iN : ix (nI (2 ^ L.1)) = 2 ^ L.1 := na_ix (by omega)
  have vN : vp_in (nI (2 ^ L.1)) 65536 := na_in (by omega) (by decide)
  obtain ⟨l0, l1, l2, l3, l4⟩ := hL
  have s0 := mkL.start (M := M) (a := a) (by omega)
  rw [hx] at s0
  refine e_X3_init (b_X3_init_0 ha (by omega) ⟨na_in (by decide) (by decide), by omega, by rw [i16]; omega, fun M1 e1 M2 e2 M3 e3 M4 e4 => ?_⟩)
  rw [i16] at e1 ⊢
  rw [hx] at e2
  have s1 := s0.new (k := 14) (n := 16)
  rw [← e1] at s1
  have s2 := s1.putR (i := 12) (v := a + 1) rfl
  rw [← e2] at s2
  have s3 := s2.putI (i := 14) (v := nI 1) rfl
  rw [← e3] at s3
  have s4 := s3.putI (i := 15) (v := nI 0) rfl
  rw [← e4] at s4
  refine ⟨s4.kk hS.1, fun M5 e5 M6 e6 M7 e7 M8 e8 M9 e9 => ?_⟩
  have o4 : ∀ {B : Mem} {j : Nat} {rs : List (Nat × Nat)} {ks : List (Nat × Nat × Nat)} {cs : List (Nat × (Nat → Int32))} {fs : List (Nat × Int32)} (b i : Nat), mkL M B a j rs ks cs fs → b ≤ 7 → mI B b i = mI M b i ∧ mR B b i = mR M b i := fun b i s hb => s.old (by omega) (by omega)
  rw [(o4 4 0 s4 (by decide)).1, l0] at e5
  have s5 := s4.putI (i := 0) (v := nI L.1) rfl
  rw [← e5] at s5
  rw [(o4 4 1 s5 (by decide)).1, l1] at e6
  have s6 := s5.putI (i := 1) (v := nI L.2.1) rfl
  rw [← e6] at s6
  rw [(o4 4 2 s6 (by decide)).1, l2] at e7
  have s7 := s6.putI (i := 2) (v := nI L.2.2.1) rfl
  rw [← e7] at s7
  rw [(o4 4 3 s7 (by decide)).1, l3] at e8
  have s8 := s7.putI (i := 3) (v := nI L.2.2.2.1) rfl
  rw [← e8] at s8
  rw [s8.f (i := 0) (v := nI L.1) (by simp), e1n, na_sub (by omega)] at e9
  have s9 := s8.putI (i := 4) (v := nI (2 ^ L.1 - 1)) rfl
  rw [← e9] at s9
  have r4 : mR M9 4 4 = 5 := (o4 4 4 s9 (by decide)).2.trans hS.2.1.1
  refine ⟨27, by rw [r4]; exact s9.kk hS.2.1.2, by omega, by omega, fun M10 e10 M11 e11 => ?_⟩
  rw [r4] at e10
  rw [s9.1] at e11
  have s10 := s9.newc (c := 5) (n := 27) (f := mI M 5) (fun k => (o4 5 k s9 (by decide)).1)
  rw [← e10] at s10
  have s11 := s10.putR (i := 5) (v := a + 1 + 1) rfl
  rw [← e11] at s11
  have r5 : mR M11 4 5 = 6 := (o4 4 5 s11 (by decide)).2.trans hS.2.2.1.1
  refine ⟨9, by rw [r5]; exact s11.kk hS.2.2.1.2, by omega, by omega, fun M12 e12 M13 e13 => ?_⟩
  rw [r5] at e12
  rw [s11.1] at e13
  have s12 := s11.newc (c := 6) (n := 9) (f := mI M 6) (fun k => (o4 6 k s11 (by decide)).1)
  rw [← e12] at s12
  have s13 := s12.putR (i := 6) (v := a + 1 + 1 + 1) rfl
  rw [← e13] at s13
  have r6 : mR M13 4 6 = 7 := (o4 4 6 s13 (by decide)).2.trans hS.2.2.2.1
  refine ⟨9, by rw [r6]; exact s13.kk hS.2.2.2.2, by omega, by omega, fun M14 e14 M15 e15 => ?_⟩
  rw [r6] at e14
  rw [s13.1] at e15
  have s14 := s13.newc (c := 7) (n := 9) (f := mI M 7) (fun k => (o4 7 k s13 (by decide)).1)
  rw [← e14] at s14
  have s15 := s14.putR (i := 7) (v := a + 1 + 1 + 1 + 1) rfl
  rw [← e15] at s15
  rw [s15.f (i := 0) (v := nI L.1) (by simp), e1n, iN]
  refine ⟨vN, by omega, by omega, fun M16 e16 M17 e17 => ?_⟩
  rw [s15.1] at e17
  have s16 := s15.new (k := 14) (n := 2 ^ L.1)
  rw [← e16] at s16
  have s17 := s16.putR (i := 8) (v := a + 1 + 1 + 1 + 1 + 1) rfl
  rw [← e17] at s17
  rw [s17.f (i := 0) (v := nI L.1) (by simp), e1n, iN]
  refine ⟨vN, by omega, by omega, fun M18 e18 M19 e19 => ?_⟩
  rw [s17.1] at e19
  have s18 := s17.new (k := 12) (n := 2 ^ L.1)
  rw [← e18] at s18
  have s19 := s18.putR (i := 9) (v := a + 1 + 1 + 1 + 1 + 1 + 1) rfl
  rw [← e19] at s19
  rw [s19.f (i := 0) (v := nI L.1) (by simp), e1n, iN]
  refine ⟨vN, by omega, by omega, fun M20 e20 M21 e21 => ?_⟩
  rw [s19.1] at e21
  have s20 := s19.new (k := 14) (n := 2 ^ L.1)
  rw [← e20] at s20
  have s21 := s20.putR (i := 10) (v := a + 1 + 1 + 1 + 1 + 1 + 1 + 1) rfl
  rw [← e21] at s21
  rw [s21.f (i := 0) (v := nI L.1) (by simp), e1n, iN]
  refine ⟨vN, by omega, by omega, fun M22 e22 M23 e23 => ?_⟩
  rw [s21.1] at e23
  have s22 := s21.new (k := 14) (n := 2 ^ L.1)
  rw [← e22] at s22
  have s23 := s22.putR (i := 11) (v := a + 1 + 1 + 1 + 1 + 1 + 1 + 1 + 1) rfl
  rw [← e23] at s23
  refine ⟨by omega, by omega, fun M24 e24 => ⟨2, 0, by omega, Nat.zero_le _, ?_⟩⟩
  have s24 := s23.new (k := 8) (n := 4)
  rw [← e24] at s24
  rw [s23.1]
  have k24 : isK M24 (a + 1 + 1 + 1 + 1 + 1 + 1 + 1 + 1 + 1) 8 4 := s24.2.2.2.2.2.1 (_, 8, 4) (by simp)
  refine kp_rollInit (by omega) (by omega) k24 (fun M25 hF25 x25 ra25 rb25 ka25 kb25 z25 => ⟨rfl, hF25.2.2.2.2 _ _ _ (s24.kk ha), fun M26 e26 => ?_⟩)
  rw [s24.1] at x25 ra25 rb25 ka25 kb25
  have s24' := s24.less [(a + 8, fun _ => 0), (a + 7, fun _ => 0), (a + 6, fun _ => 0), (a + 5, fun _ => 0), (a + 4, mI M 7), (a + 3, mI M 6), (a + 2, mI M 5), (a + 1, fun _ => 0)] (fun e he => by simpa using Or.inr he)
  have s25 := s24'.al hF25 (by omega) (fun e he => by
    simp only [List.mem_cons, List.not_mem_nil, or_false] at he
    rcases he with rfl | rfl | rfl | rfl | rfl | rfl | rfl | rfl <;> (dsimp only; omega))
  have s26 := s25.putR (i := 13) (v := a + 9) rfl
  rw [← e26] at s26
  obtain ⟨g1, g2, g3, g4, g5, g6, g7, g8⟩ := s26
  have s26 : mkL M M26 a _ _ _ _ _ := ⟨g1, g2, g3, g4, g5, g6, g7, g8⟩
  have kn : ∀ b k n, isK M26 b k n → isK M26 b k (mN M26 b) := fun b k n hk => isK_n hk
  have LS : LaS M26 a := ⟨s26.kk ha, ⟨g5 (5, a + 2) (by simp), g6 (a + 2, 14, 27) (by simp)⟩, ⟨g5 (6, a + 3) (by simp), g6 (a + 3, 14, 9) (by simp)⟩, ⟨g5 (7, a + 4) (by simp), g6 (a + 4, 14, 9) (by simp)⟩, ⟨g5 (8, a + 5) (by simp), isK_n (g6 (a + 5, 14, 2 ^ L.1) (by simp))⟩, ⟨g5 (9, a + 6) (by simp), isK_n (g6 (a + 6, 12, 2 ^ L.1) (by simp))⟩, ⟨g5 (10, a + 7) (by simp), isK_n (g6 (a + 7, 14, 2 ^ L.1) (by simp))⟩, ⟨g5 (11, a + 8) (by simp), isK_n (g6 (a + 8, 14, 2 ^ L.1) (by simp))⟩, ⟨g5 (12, a + 1) (by simp), g6 (a + 1, 14, 16) (by simp)⟩, ⟨g5 (13, a + 9) (by simp), g6 (a + 9, 8, 4) (by simp)⟩⟩
  have hT : ∀ p, LdT L p < 2 ^ L.1 := fun p => (hO.2.2.2.2.2.2.1 p).2
  refine kp_gather (f := fun p => LdT L p ||| 1 <<< p) LS hn.2 (g8 (0, nI L.1) (by simp)) (fun p hp => Nat.or_lt_two_pow (hT p) (by rw [Nat.one_shiftLeft]; exact Nat.pow_lt_pow_right (by decide) hp)) (fun p hp => ((g7 (a + 4, mI M 7) (by simp)).2.2 p).trans (l4 p (by omega)).2.2) (fun B27 hF27 hB27 => ⟨rfl, hF27.ext, ?_⟩)
  have s26a := s26.less [(a + 8, fun _ => 0), (a + 7, fun _ => 0), (a + 6, fun _ => 0), (a + 5, fun _ => 0), (a + 3, mI M 6), (a + 2, mI M 5), (a + 1, fun _ => 0)] (fun e he => by
    simp only [List.mem_cons, List.not_mem_nil, or_false] at he ⊢
    rcases he with h | h | h | h | h | h | h <;> simp [h])
  have s27 := s26a.al (r := a + 4) ((hF27.mono (T := fun b _ => b = a + 4) (fun b k q => q.1)).rr (T := fun b _ => b = a + 4)).al (by omega) (fun e he => by
    simp only [List.mem_cons, List.not_mem_nil, or_false] at he
    rcases he with rfl | rfl | rfl | rfl | rfl | rfl | rfl <;> (dsimp only; omega))
  have LS27 := LS.ext hF27.ext
  refine kp_findHanging (by omega) LS27 hO (s27.f (i := 0) (v := nI L.1) (by simp)) (s27.f (i := 4) (v := nI (2 ^ L.1 - 1)) (by simp)) (isK_mN (s27.2.2.2.2.2.1 (a + 7, 14, 2 ^ L.1) (by simp))) (fun p hp => ((s27.2.2.2.2.2.2.1 (a + 3, mI M 6) (by simp)).2.2 p).trans (l4 p (by omega)).2.1) ((s27.2.2.2.2.2.2.1 (a + 7, fun _ => 0) (by simp)).2.2 0) (fun B28 hF28 hB28 => ⟨rfl, hF28.ext, ?_⟩)
  have s27a := s27.less [(a + 8, fun _ => 0), (a + 6, fun _ => 0), (a + 5, fun _ => 0), (a + 3, mI M 6), (a + 2, mI M 5), (a + 1, fun _ => 0)] (fun e he => by
    simp only [List.mem_cons, List.not_mem_nil, or_false] at he ⊢
    rcases he with h | h | h | h | h | h <;> simp [h])
  have s28 := s27a.al (r := a + 7) ((hF28.mono (T := fun b _ => b = a + 7) (fun b k q => q.1)).rr (T := fun b _ => b = a + 7)).al (by omega) (fun e he => by
    simp only [List.mem_cons, List.not_mem_nil, or_false] at he
    rcases he with rfl | rfl | rfl | rfl | rfl | rfl <;> (dsimp only; omega))
  have nxf : ∀ {S : Nat → Nat → Prop} {B C : Mem}, Fr S B C → nx C = nx B := fun hF => by unfold nx; rw [hF.2]
  have rf : ∀ {S : Nat → Nat → Prop} {B C : Mem} (b k : Nat), Fr S B C → mR C b k = mR B b k := fun b k hF => by unfold mR; rw [hF.2]
  have x26 : nx M26 = a + 12 := by rw [e26]; show nx M25 = _; omega
  have rr26 : ∀ k, mR M26 (a + 9) k = mR M25 (a + 9) k := fun k => by rw [e26, mR_sR, if_neg (by omega)]
  refine h B28 s28.2.2.2.1 (by rw [nxf hF28, nxf hF27]; exact x26) ⟨LS27.ext hF28.ext, ⟨isK_mN (s28.2.2.2.2.2.1 (a + 5, 14, 2 ^ L.1) (by simp)), isK_mN (s28.2.2.2.2.2.1 (a + 6, 12, 2 ^ L.1) (by simp)), isK_mN (s28.2.2.2.2.2.1 (a + 7, 14, 2 ^ L.1) (by simp)), isK_mN (s28.2.2.2.2.2.1 (a + 8, 14, 2 ^ L.1) (by simp))⟩, ⟨s28.f (i := 0) (by simp), s28.f (i := 1) (by simp), s28.f (i := 2) (by simp), s28.f (i := 3) (by simp), s28.f (i := 4) (by simp)⟩, fun p hp k hk => ((s28.2.2.2.2.2.2.1 (a + 2, mI M 5) (by simp)).2.2 _).trans ((l4 p hp).1 k hk), fun p hp => ⟨((s28.2.2.2.2.2.2.1 (a + 3, mI M 6) (by simp)).2.2 p).trans (l4 p (by omega)).2.1, ?_⟩, hB28, (s28.2.2.2.2.2.2.1 (a + 5, fun _ => 0) (by simp)).2.2 0⟩ ((s28.2.2.2.2.2.2.1 (a + 1, fun _ => 0) (by simp)).2.2 0) (s28.f (i := 14) (by simp)) (s28.f (i := 15) (by simp)) ⟨?_, ?_, ?_, ?_, ?_⟩
  · rw [hF28.at (fun q => by omega), hB27 p hp, gaR_clo hn.2 hT hp]
  · rw [rf _ _ hF28, rf _ _ hF27, rr26]; exact ra25
  · rw [rf _ _ hF28, rf _ _ hF27, rr26]; exact rb25
  · refine hF28.ext.1 _ _ _ (hF27.ext.1 _ _ _ ?_)
    rw [e26]; exact ka25
  · refine hF28.ext.1 _ _ _ (hF27.ext.1 _ _ _ ?_)
    rw [e26]; exact kb25
  · rw [hF28.at (fun q => by omega), hF27.at (fun q => by omega), e26]; exact z25
end LANDINIT
