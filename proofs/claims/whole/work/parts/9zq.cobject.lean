/-! THE CLASS: the whole object is made -/
section OBJECT
variable {A B C M : Mem}
abbrev F1 (B C : Mem) : Prop := Fal (fun b _ => b = 1) (fun b _ => b = 1) B C
theorem f1_i {a k n i : Nat} (F : F1 B C) (h : isK B a k n) (ha : a ≠ 1) : mI C a i = mI B a i := F.2.1 a i (isK_lt h) ha
theorem f1_r {a k n i : Nat} (F : F1 B C) (h : isK B a k n) (ha : a ≠ 1) : mR C a i = mR B a i := F.2.2.1 a i (isK_lt h) ha
theorem f1_k {a k n : Nat} (F : F1 B C) (h : isK B a k n) : isK C a k n := F.2.2.2.2 _ _ _ h
theorem f1_Ta {a : Nat} (F : F1 B C) (h : TaS B a) (ha : a ≠ 1) : TaS C a := ⟨f1_k F h.1, (f1_r F h.1 ha).trans h.2.1, f1_k F h.2.2⟩
theorem f1_Jo {a : Nat} (F : F1 B C) (h : JoS B a) (ha : a ≠ 1) : JoS C a := ⟨f1_k F h.1, (f1_r F h.1 ha).trans h.2.1, f1_k F h.2.2⟩
theorem f1_Lt {a : Nat} (F : F1 B C) (h : LtS B a) (ha : a ≠ 1) : LtS C a := by
  obtain ⟨o, ⟨r1, k1⟩, ⟨r2, k2⟩, ⟨r3, k3⟩⟩ := h
  exact ⟨f1_k F o, ⟨(f1_r F o ha).trans r1, f1_k F k1⟩, ⟨(f1_r F o ha).trans r2, f1_k F k2⟩, ⟨(f1_r F o ha).trans r3, f1_k F k3⟩⟩
theorem f1_Pt {a : Nat} (F : F1 B C) (h : PtS B a) (ha : a ≠ 1) : PtS C a := by
  obtain ⟨o, ⟨r1, k1⟩, ⟨r2, k2⟩⟩ := h
  exact ⟨f1_k F o, ⟨(f1_r F o ha).trans r1, f1_k F k1⟩, ⟨(f1_r F o ha).trans r2, f1_k F k2⟩⟩
theorem f1_Cu {a : Nat} (F : F1 B C) (h : CuS B a) (ha : a ≠ 1) : CuS C a := by
  obtain ⟨o, ⟨r1, k1⟩, ⟨r2, k2⟩, ⟨r3, k3⟩, ⟨r4, k4⟩⟩ := h
  exact ⟨f1_k F o, ⟨(f1_r F o ha).trans r1, f1_k F k1⟩, ⟨(f1_r F o ha).trans r2, f1_k F k2⟩, ⟨(f1_r F o ha).trans r3, f1_k F k3⟩, ⟨(f1_r F o ha).trans r4, f1_k F k4⟩⟩
theorem f1_Mi {a : Nat} (F : F1 B C) (h : MiS B a) (ha : a ≠ 1) : MiS C a := by
  obtain ⟨o, ⟨r0, k0⟩, ⟨r1, k1⟩, ⟨r2, k2⟩, ⟨r3, k3⟩, ⟨r4, k4⟩⟩ := h
  exact ⟨f1_k F o, ⟨(f1_r F o ha).trans r0, f1_Jo F k0 (by decide)⟩, ⟨(f1_r F o ha).trans r1, f1_k F k1⟩, ⟨(f1_r F o ha).trans r2, f1_k F k2⟩, ⟨(f1_r F o ha).trans r3, f1_k F k3⟩, ⟨(f1_r F o ha).trans r4, f1_k F k4⟩⟩
theorem f1_Ga {a : Nat} (F : F1 B C) (h : GaS B a) (ha : a ≠ 1) : GaS C a := by
  obtain ⟨o, ⟨r0, k0⟩, ⟨r1, k1⟩, ⟨r2, k2⟩, ⟨r3, k3⟩, ⟨r4, k4⟩, ⟨r5, k5⟩⟩ := h
  exact ⟨f1_k F o, ⟨(f1_r F o ha).trans r0, f1_Cu F k0 (by decide)⟩, ⟨(f1_r F o ha).trans r1, f1_Jo F k1 (by decide)⟩, ⟨(f1_r F o ha).trans r2, f1_k F k2⟩, ⟨(f1_r F o ha).trans r3, f1_k F k3⟩, ⟨(f1_r F o ha).trans r4, f1_k F k4⟩, ⟨(f1_r F o ha).trans r5, f1_k F k5⟩⟩
/-- a part at j is made -/
theorem ob_sub {j j' k n : Nat} {rs : List (Nat × Nat)} {fs : List (Nat × Int32)} {M1 : Mem} (h : mkL M B 1 j rs [] [] fs) (hj : 2 ≤ j) (hM : nx M = 2) (e1 : M1 = nw B k n) (hF : Fal (fun b _ => b = j) (fun b _ => b = j) M1 C) (hn : nx C = j') : mkL M C 1 j' rs [] [] fs ∧ F1 B C := by
  have s1 := h.new (k := k) (n := n)
  rw [← e1] at s1
  have s2 : mkL M M1 1 (j + 1) rs [] [] fs := ⟨s1.1, s1.2.1, s1.2.2.1, s1.2.2.2.1, s1.2.2.2.2.1, fun e he => (by cases he), fun e he => (by cases he), s1.2.2.2.2.2.2.2⟩
  have s3 := s2.al hF (by omega) (fun e he => (by cases he))
  rw [hn] at s3
  refine ⟨s3, ?_⟩
  have g1 : Fal (fun _ _ => False) (fun _ _ => False) B M1 := by rw [e1]; exact Fal.nw
  exact (g1.behind hF (fun b k hb => by have := h.1; intro w; have w : b = j := w; omega) (fun b k hb => by have := h.1; intro w; have w : b = j := w; omega)).mono (fun _ _ q => q.elim) (fun _ _ q => q.elim)
/-- a field of the object is set -/
theorem ob_put {j i v : Nat} {rs : List (Nat × Nat)} {fs : List (Nat × Int32)} {M1 : Mem} (h : mkL M B 1 j rs [] [] fs) (e1 : M1 = sR B 1 i v) (hi : rs.all (fun e => e.1 != i) = true) : mkL M M1 1 j ((i, v) :: rs) [] [] fs ∧ F1 B M1 := by
  subst e1
  exact ⟨h.putR hi, (Frr.sR (S := fun b _ => b = 1) (T := fun b _ => b = 1) rfl).al⟩
theorem ob_int {j i : Nat} {v : Int32} {rs : List (Nat × Nat)} {fs : List (Nat × Int32)} {M1 : Mem} (h : mkL M B 1 j rs [] [] fs) (e1 : M1 = sI B 1 i v) (hi : fs.all (fun e => e.1 != i) = true) : mkL M M1 1 j rs [] [] ((i, v) :: fs) ∧ F1 B M1 := by
  subst e1
  exact ⟨h.putI hi, ((Fr.sI (S := fun b _ => b = 1) rfl).rr (T := fun b _ => b = 1)).al⟩
/-- an array at j is made, and set -/
theorem ob_arr {j k n i : Nat} {rs : List (Nat × Nat)} {fs : List (Nat × Int32)} {M1 M2 : Mem} (h : mkL M B 1 j rs [] [] fs) (hj : 2 ≤ j) (hM : nx M = 2) (e1 : M1 = nw B k n) (e2 : M2 = sR M1 1 i (nx B)) (hi : rs.all (fun e => e.1 != i) = true) : mkL M M2 1 (j + 1) ((i, j) :: rs) [] [] fs ∧ F1 B M2 ∧ isK M2 j k n := by
  obtain ⟨s1, f1⟩ := ob_sub (C := M1) (j' := j + 1) h hj hM e1 Fal.refl (by rw [e1, nx_nw, h.1])
  rw [h.1] at e2
  obtain ⟨s2, f2⟩ := ob_put s1 e2 hi
  refine ⟨s2, f1.trans f2, f1_k f2 ?_⟩
  rw [e1, ← h.1]; exact isK_nw
theorem ob_o {j : Nat} {rs : List (Nat × Nat)} {fs : List (Nat × Int32)} (h : mkL M B 1 j rs [] [] fs) (ho : isK M 1 10 16) : isK B 1 10 16 := h.2.2.2.1.2.2.2.2 _ _ _ ho
theorem ob_r {j i v : Nat} {rs : List (Nat × Nat)} {fs : List (Nat × Int32)} (h : mkL M B 1 j rs [] [] fs) (hi : (i, v) ∈ rs) : mR B 1 i = v := h.2.2.2.2.1 _ hi
/-- the object that has just been made -/
def tiX (B : Mem) : Prop := nx B = 60 ∧ TpS B ∧ mI B 2 1 = nI 0 ∧ (mI B 1 6 = nI 0 ∧ mI B 1 7 = nI 0 ∧ mI B 1 8 = nI 0) ∧ mI B 18 0 = nI 0 ∧ mcX B ∧ (mR B 23 5 = 0 ∧ mR B 23 6 = 0) ∧ ∀ i, i < 240 → mI B 57 i = (-1000)
end OBJECT
section MADEOB
variable {X : Cx} {d kc ns : Nat} {M : Mem} {Q : Option AV → Mem → Prop}
theorem kp10_init (hd : 4 ≤ d) (hkc : 58 ≤ kc) (hns : 5063 ≤ ns) (ho : isK M 1 10 16) (hx : nx M = 2) (h : ∀ B, tiX B → Q none B) : Cl X d kc ns m_X10_init [vR 1] M Q := by
  have x6 : ix (nI 6) = 6 := na_ix (by decide)
  have x8 : ix (nI 8) = 8 := na_ix (by decide)
  have x240 : ix (nI 240) = 240 := na_ix (by decide)
  have c0 := mkL.start (M := M) (a := 1) (by omega)
  rw [hx] at c0
  refine e_X10_init (b_X10_init_0 ho (by omega) ?_)
  simp only [x6, x8, x240]
  refine ⟨by omega, by omega, fun M1 e1 => ⟨1, 300, by omega, by omega, ?_⟩⟩
  rw [hx]
  have k1 : isK M1 2 9 4 := by rw [e1, ← hx]; exact isK_nw
  refine kp_tapeInit (by omega) (by omega) (by omega) k1 (by rw [e1, nx_nw, hx]) (fun M2 F2 n2 T2 z2 => ?_)
  obtain ⟨c1, g1⟩ := ob_sub c0 (by decide) hx e1 F2 n2
  refine ⟨rfl, ob_o c1 ho, fun M3 e3 => ?_⟩
  obtain ⟨c2, g2⟩ := ob_put c1 e3 rfl
  refine ⟨by omega, by omega, fun M4 e4 => ⟨3, 45, by omega, by omega, ?_⟩⟩
  rw [c2.1]
  refine kp_ltInit (by omega) (by omega) (by omega) (by rw [e4]; have := isK_nw (M := M3) (k := 4) (n0 := 7); rw [c2.1] at this; exact this) (by rw [e4, nx_nw, c2.1]) (fun M5 F5 n5 T5 => ?_)
  obtain ⟨c3, g3⟩ := ob_sub c2 (by decide) hx e4 F5 n5
  refine ⟨rfl, ob_o c3 ho, fun M6 e6 => ?_⟩
  obtain ⟨c4, g4⟩ := ob_put c3 e6 rfl
  refine ⟨by omega, by omega, fun M7 e7 => ⟨2, 12, by omega, by omega, ?_⟩⟩
  rw [c4.1]
  refine kp_ptInit (by omega) (by omega) (by omega) (by rw [e7]; have := isK_nw (M := M6) (k := 7) (n0 := 3); rw [c4.1] at this; exact this) (by rw [e7, nx_nw, c4.1]) (fun M8 F8 n8 T8 => ?_)
  obtain ⟨c5, g5⟩ := ob_sub c4 (by decide) hx e7 F8 n8
  refine ⟨rfl, ob_o c5 ho, fun M9 e9 => ?_⟩
  obtain ⟨c6, g6⟩ := ob_put c5 e9 rfl
  refine ⟨na_in (by decide) (by decide), by omega, by omega, fun M10 e10 M11 e11 => ?_⟩
  obtain ⟨c7, g7, k11⟩ := ob_arr c6 (by decide) hx e10 e11 rfl
  refine ⟨na_in (by decide) (by decide), by omega, by omega, fun M12 e12 M13 e13 => ?_⟩
  obtain ⟨c8, g8, k12⟩ := ob_arr c7 (by decide) hx e12 e13 rfl
  refine ⟨na_in (by decide) (by decide), by omega, by omega, fun M14 e14 M15 e15 => ?_⟩
  obtain ⟨c9, g9, k13⟩ := ob_arr c8 (by decide) hx e14 e15 rfl
  intro M16 e16
  obtain ⟨c10, g10⟩ := ob_int c9 e16 rfl
  intro M17 e17
  obtain ⟨c11, g11⟩ := ob_int c10 e17 rfl
  intro M18 e18
  obtain ⟨c12, g12⟩ := ob_int c11 e18 rfl
  refine ⟨by omega, by omega, fun M19 e19 => ⟨5, 39, by omega, by omega, ?_⟩⟩
  rw [c12.1]
  refine kp_cutInit (by omega) (by omega) (by omega) (by rw [e19]; have := isK_nw (M := M18) (k := 0) (n0 := 9); rw [c12.1] at this; exact this) (by rw [e19, nx_nw, c12.1]) (fun M20 F20 n20 T20 z20 => ?_)
  obtain ⟨c13, g13⟩ := ob_sub c12 (by decide) hx e19 F20 n20
  refine ⟨rfl, ob_o c13 ho, fun M21 e21 => ?_⟩
  obtain ⟨c14, g14⟩ := ob_put c13 e21 rfl
  refine ⟨by omega, by omega, fun M22 e22 => ⟨2, 4, by omega, by omega, ?_⟩⟩
  rw [c14.1]
  refine kp_joinInit (by omega) (by omega) (by omega) (by rw [e22]; have := isK_nw (M := M21) (k := 2) (n0 := 8); rw [c14.1] at this; exact this) (by rw [e22, nx_nw, c14.1]) (fun M23 F23 n23 T23 => ?_)
  obtain ⟨c15, g15⟩ := ob_sub c14 (by decide) hx e22 F23 n23
  refine ⟨rfl, ob_o c15 ho, fun M24 e24 => ?_⟩
  obtain ⟨c16, g16⟩ := ob_put c15 e24 rfl
  refine ⟨by omega, by omega, fun M25 e25 => ⟨28, 4300, by omega, by omega, ?_⟩⟩
  obtain ⟨q25, p25⟩ := ob_sub (C := M25) c16 (by decide) hx e25 Fal.refl (by rw [e25, nx_nw])
  rw [c16.1, ob_r q25 (i := 10) (v := 20) (by simp)]
  refine kp_mindInit (by omega) (by omega) (by omega) (by rw [e25]; have := isK_nw (M := M24) (k := 5) (n0 := 10); rw [c16.1] at this; exact this) (by rw [e25, nx_nw, c16.1]) (by decide) (f1_Jo (g16.trans p25) T23 (by decide)) (fun M26 n26 F26 T26 w26 v26 => ?_)
  obtain ⟨c17, g17⟩ := ob_sub c16 (by decide) hx e25 F26 n26
  refine ⟨rfl, ob_o c17 ho, fun M27 e27 => ?_⟩
  obtain ⟨c18, g18⟩ := ob_put c17 e27 rfl
  refine ⟨by omega, by omega, fun M28 e28 => ⟨4, 28, by omega, by omega, ?_⟩⟩
  obtain ⟨q28, p28⟩ := ob_sub (C := M28) c18 (by decide) hx e28 Fal.refl (by rw [e28, nx_nw])
  rw [c18.1, ob_r q28 (i := 10) (v := 20) (by simp), ob_r q28 (i := 9) (v := 14) (by simp)]
  have j28 : F1 M23 M28 := (g16.trans (g17.trans g18)).trans p28
  refine kp_gameInit (by omega) (by omega) (by omega) (by rw [e28]; have := isK_nw (M := M27) (k := 1) (n0 := 16); rw [c18.1] at this; exact this) (by rw [e28, nx_nw, c18.1]) (by decide) (f1_Cu ((g14.trans g15).trans j28) T20 (by decide)) (f1_Jo j28 T23 (by decide)) (fun M29 F29 n29 T29 => ?_)
  obtain ⟨c19, g19⟩ := ob_sub c18 (by decide) hx e28 F29 n29
  refine ⟨rfl, ob_o c19 ho, fun M30 e30 => ?_⟩
  obtain ⟨c20, g20⟩ := ob_put c19 e30 rfl
  refine ⟨na_in (by decide) (by decide), by omega, by omega, fun M31 e31 M32 e32 => ?_⟩
  obtain ⟨c21, g21, k57⟩ := ob_arr c20 (by decide) hx e31 e32 rfl
  refine ⟨na_in (by decide) (by decide), by omega, by omega, fun M33 e33 M34 e34 => ?_⟩
  obtain ⟨c22, g22, k58⟩ := ob_arr c21 (by decide) hx e33 e34 rfl
  refine ⟨na_in (by decide) (by decide), by omega, by omega, fun M35 e35 M36 e36 => ?_⟩
  obtain ⟨c23, g23, k59⟩ := ob_arr c22 (by decide) hx e35 e36 rfl
  rw [ob_r c23 (i := 13) (v := 57) (by simp)]
  have h22 : F1 M34 M36 := g23
  have h21 : F1 M32 M36 := g22.trans h22
  have h20 : F1 M30 M36 := g21.trans h21
  have h19 : F1 M29 M36 := g20.trans h20
  have h18 : F1 M27 M36 := g19.trans h19
  have h17 : F1 M26 M36 := g18.trans h18
  have h16 : F1 M24 M36 := g17.trans h17
  have h15 : F1 M23 M36 := g16.trans h16
  have h14 : F1 M21 M36 := g15.trans h15
  have h13 : F1 M20 M36 := g14.trans h14
  have h12 : F1 M18 M36 := g13.trans h13
  have h9 : F1 M15 M36 := ((g10.trans g11).trans g12).trans h12
  have h8 : F1 M13 M36 := g9.trans h9
  have h7 : F1 M11 M36 := g8.trans h8
  have h6 : F1 M9 M36 := g7.trans h7
  have h5 : F1 M8 M36 := g6.trans h6
  have h3 : F1 M5 M36 := (g4.trans g5).trans h5
  have h1 : F1 M2 M36 := (g2.trans g3).trans h3
  refine kp_fill (f1_k h21 k57) (by decide) (fun B hF hB => ⟨rfl, hF.ext, h B ?_⟩)
  have hE : Ext M36 B := hF.ext
  have i36 : ∀ b k, b ≠ 57 → mI B b k = mI M36 b k := fun b k hb => hF.1 b k (fun w => hb w.1)
  have t36 : TpS M36 := ⟨ob_o c23 ho, ⟨ob_r c23 (by simp), f1_Ta h1 T2 (by decide)⟩, ⟨ob_r c23 (by simp), f1_Lt h3 T5 (by decide)⟩, ⟨ob_r c23 (by simp), f1_Pt h5 T8 (by decide)⟩, ⟨ob_r c23 (by simp), f1_k h7 k11⟩, ⟨ob_r c23 (by simp), f1_k h8 k12⟩, ⟨ob_r c23 (by simp), f1_k h9 k13⟩, ⟨ob_r c23 (by simp), f1_Cu h13 T20 (by decide)⟩, ⟨ob_r c23 (by simp), f1_Jo h15 T23 (by decide)⟩, ⟨ob_r c23 (by simp), f1_Mi h17 T26 (by decide)⟩, ⟨ob_r c23 (by simp), f1_Ga h19 T29 (by decide)⟩, ⟨ob_r c23 (by simp), f1_k h21 k57⟩, ⟨ob_r c23 (by simp), f1_k h22 k58⟩, ⟨ob_r c23 (by simp), k59⟩⟩
  have r36 : ∀ b k, mR B b k = mR M36 b k := fun b k => by unfold mR; rw [hF.2]
  refine ⟨by unfold nx; rw [hF.2]; exact c23.1, t36.ext hE, ?_, ⟨?_, ?_, ?_⟩, ?_, fun k hk => ?_, ⟨?_, ?_⟩, hB⟩
  · exact (i36 _ _ (by decide)).trans ((f1_i h1 T2.1 (by decide)).trans z2)
  · exact (i36 _ _ (by decide)).trans (c23.f (by simp))
  · exact (i36 _ _ (by decide)).trans (c23.f (by simp))
  · exact (i36 _ _ (by decide)).trans (c23.f (by simp))
  · exact (i36 _ _ (by decide)).trans ((f1_i h13 T20.k3 (by decide)).trans z20)
  · obtain ⟨w1, w2, w3⟩ := w26 k hk
    exact ⟨(r36 _ _).trans ((f1_r h17 T26.k1 (by decide)).trans w1), (f1_Cu h17 w2 (by omega)).ext hE, (i36 _ _ (by omega)).trans ((f1_i h17 w2.k3 (by omega)).trans w3)⟩
  · exact (r36 _ _).trans ((f1_r h17 T26.1 (by decide)).trans v26.1)
  · exact (r36 _ _).trans ((f1_r h17 T26.1 (by decide)).trans v26.2)
end MADEOB
