/-! THE CLASS: the whole object is made -/
section OBJECT
variable {A B C M : Mem}
abbrev F1 (B C : Mem) : Prop := Fal (fun b _ => b = 1) (fun b _ => b = 1) B C
theorem f1_i {a k n i : Nat} (F : F1 B C) (h : isK B a k n) (ha : a ≠ 1) : mI C a i = mI B a i := F.2.1 a i (isK_lt h) ha
theorem f1_r {a k n i : Nat} (F : F1 B C) (h : isK B a k n) (ha : a ≠ 1) : mR C a i = mR B a i := F.2.2.1 a i (isK_lt h) ha
theorem f1_k {a k n : Nat} (F : F1 B C) (h : isK B a k n) : isK C a k n := F.2.2.2.2 _ _ _ h
theorem f1_Ta {a : Nat} (F : F1 B C) (h : TaS B a) (ha : a ≠ 1) : TaS C a := ⟨f1_k F h.1, (f1_r F h.1 ha).trans h.2.1, f1_k F h.2.2⟩
theorem f1_Jo {a : Nat} (F : F1 B C) (h : JoS B a) (ha : a ≠ 1) : JoS C a := ⟨f1_k F h.1, (f1_r F h.1 ha).trans h.2.1, f1_k F h.2.2⟩
theorem f1_Lt {a : Nat} (F : F1 B C) (h : LtS B a) (ha : a ≠ 1) : LtS C a := by
  obtain ⟨o, ⟨r1, k1⟩, ⟨r2, k2⟩, ⟨r3, k3⟩⟩ := h
  exact ⟨f1_k F o, ⟨(f1_r F o ha).trans r1, f1_k F k1⟩, ⟨(f1_r F o ha).trans r2, f1_k F k2⟩, ⟨(f1_r F o ha).trans r3, f1_k F k3⟩⟩
theorem f1_Pt {a : Nat} (F : F1 B C) (h : PtS B a) (ha : a ≠ 1) : PtS C a := by
  obtain ⟨o, ⟨r1, k1⟩, ⟨r2, k2⟩⟩ := h
  exact ⟨f1_k F o, ⟨(f1_r F o ha).trans r1, f1_k F k1⟩, ⟨(f1_r F o ha).trans r2, f1_k F k2⟩⟩
theorem f1_Cu {a : Nat} (F : F1 B C) (h : CuS B a) (ha : a ≠ 1) : CuS C a := by
  obtain ⟨o, ⟨r1, k1⟩, ⟨r2, k2⟩, ⟨r3, k3⟩, ⟨r4, k4⟩⟩ := h
  exact ⟨f1_k F o, ⟨(f1_r F o ha).trans r1, f1_k F k1⟩, ⟨(f1_r F o ha).trans r2, f1_k F k2⟩, ⟨(f1_r F o ha).trans r3, f1_k F k3⟩, ⟨(f1_r F o ha).trans r4, f1_k F k4⟩⟩
theorem f1_Mi {a : Nat} (F : F1 B C) (h : MiS B a) (ha : a ≠ 1) : MiS C a := by
  obtain ⟨o, ⟨r0, k0⟩, ⟨r1, k1⟩, ⟨r2, k2⟩, ⟨r3, k3⟩, ⟨r4, k4⟩⟩ := h
  exact ⟨f1_k F o, ⟨(f1_r F o ha).trans r0, f1_Jo F k0 (by decide)⟩, ⟨(f1_r F o ha).trans r1, f1_k F k1⟩, ⟨(f1_r F o ha).trans r2, f1_k F k2⟩, ⟨(f1_r F o ha).trans r3, f1_k F k3⟩, ⟨(f1_r F o ha).trans r4, f1_k F k4⟩⟩
theorem f1_Ga {a : Nat} (F : F1 B C) (h : GaS B a) (ha : a ≠ 1) : GaS C a := by
  obtain ⟨o, ⟨r0, k0⟩, ⟨r1, k1⟩, ⟨r2, k2⟩, ⟨r3, k3⟩, ⟨r4, k4⟩, ⟨r5, k5⟩⟩ := h
  exact ⟨f1_k F o, ⟨(f1_r F o ha).trans r0, f1_Cu F k0 (by decide)⟩, ⟨(f1_r F o ha).trans r1, f1_Jo F k1 (by decide)⟩, ⟨(f1_r F o ha).trans r2, f1_k F k2⟩, ⟨(f1_r F o ha).trans r3, f1_k F k3⟩, ⟨(f1_r F o ha).trans r4, f1_k F k4⟩, ⟨(f1_r F o ha).trans r5, f1_k F k5⟩⟩
/-- a part at j is made -/
theorem ob_sub {j j' k n : Nat} {rs : List (Nat × Nat)} {fs : List (Nat × Int32)} {M1 : Mem} (h : mkL M B 1 j rs [] [] fs) (hj : 2 ≤ j) (hM : nx M = 2) (e1 : M1 = nw B k n) (hF : Fal (fun b _ => b = j) (fun b _ => b = j) M1 C) (hn : nx C = j') : mkL M C 1 j' rs [] [] fs ∧ F1 B C := by
  have s1 := h.new (k := k) (n := n)
  rw [← e1] at s1
  have s2 : mkL M M1 1 (j + 1) rs [] [] fs := ⟨s1.1, s1.2.1, s1.2.2.1, s1.2.2.2.1, s1.2.2.2.2.1, fun e he => (by cases he), fun e he => (by cases he), s1.2.2.2.2.2.2.2⟩
  have s3 := s2.al hF (by omega) (fun e he => (by cases he))
  rw [hn] at s3
  refine ⟨s3, ?_⟩
  have g1 : Fal (fun _ _ => False) (fun _ _ => False) B M1 := by rw [e1]; exact Fal.nw
  exact (g1.behind hF (fun b k hb => by have := h.1; intro w; have w : b = j := w; omega) (fun b k hb => by have := h.1; intro w; have w : b = j := w; omega)).mono (fun _ _ q => q.elim) (fun _ _ q => q.elim)
/-- a field of the object is set -/
theorem ob_put {j i v : Nat} {rs : List (Nat × Nat)} {fs : List (Nat × Int32)} {M1 : Mem} (h : mkL M B 1 j rs [] [] fs) (e1 : M1 = sR B 1 i v) (hi : rs.all (fun e => e.1 != i) = true) : mkL M M1 1 j ((i, v) :: rs) [] [] fs ∧ F1 B M1 := by
  subst e1
  exact ⟨h.putR hi, (Frr.sR (S := fun b _ => b = 1) (T := fun b _ => b = 1) rfl).al⟩
theorem ob_int {j i : Nat} {v : Int32} {rs : List (Nat × Nat)} {fs : List (Nat × Int32)} {M1 : Mem} (h : mkL M B 1 j rs [] [] fs) (e1 : M1 = sI B 1 i v) (hi : fs.all (fun e => e.1 != i) = true) : mkL M M1 1 j rs [] [] ((i, v) :: fs) ∧ F1 B M1 := by
  subst e1
  exact ⟨h.putI hi, ((Fr.sI (S := fun b _ => b = 1) rfl).rr (T := fun b _ => b = 1)).al⟩
/-- an array at j is made, and set -/
theorem ob_arr {j k n i : Nat} {rs : List (Nat × Nat)} {fs : List (Nat × Int32)} {M1 M2 : Mem} (h : mkL M B 1 j rs [] [] fs) (hj : 2 ≤ j) (hM : nx M = 2) (e1 : M1 = nw B k n) (e2 : M2 = sR M1 1 i (nx B)) (hi : rs.all (fun e => e.1 != i) = true) : mkL M M2 1 (j + 1) ((i, j) :: rs) [] [] fs ∧ F1 B M2 ∧ isK M2 j k n := by
  obtain ⟨s1, f1⟩ := ob_sub (C := M1) (j' := j + 1) h hj hM e1 Fal.refl (by rw [e1, nx_nw, h.1])
  rw [h.1] at e2
  obtain ⟨s2, f2⟩ := ob_put s1 e2 hi
  refine ⟨s2, f1.trans f2, f1_k f2 ?_⟩
  rw [e1, ← h.1]; exact isK_nw
theorem ob_o {j : Nat} {rs : List (Nat × Nat)} {fs : List (Nat × Int32)} (h : mkL M B 1 j rs [] [] fs) (ho : isK M 1 10 18) : isK B 1 10 18 := h.2.2.2.1.2.2.2.2 _ _ _ ho
theorem ob_r {j i v : Nat} {rs : List (Nat × Nat)} {fs : List (Nat × Int32)} (h : mkL M B 1 j rs [] [] fs) (hi : (i, v) ∈ rs) : mR B 1 i = v := h.2.2.2.2.1 _ hi
/-- the object that has just been made -/
def tiX (B : Mem) : Prop := nx B = 75 ∧ TpS B ∧ mI B 2 1 = nI 0 ∧ (mI B 1 6 = nI 0 ∧ mI B 1 7 = nI 0 ∧ mI B 1 8 = nI 0) ∧ mI B 33 0 = nI 0 ∧ mcX B ∧ (mR B 38 5 = 14 ∧ mR B 38 6 = 26) ∧ ∀ i, i < 240 → mI B 72 i = (-1000)
end OBJECT
section MADEOB
variable {X : Cx} {d kc ns : Nat} {M : Mem} {Q : Option AV → Mem → Prop}
theorem kp10_init (hd : 4 ≤ d) (hkc : 73 ≤ kc) (hns : 5158 ≤ ns) (ho : isK M 1 10 18) (hx : nx M = 2) (h : ∀ B, tiX B → Q none B) : Cl X d kc ns m_X10_init [vR 1] M Q := by
  have x6 : ix (nI 6) = 6 := na_ix (by decide)
  have x8 : ix (nI 8) = 8 := na_ix (by decide)
  have x240 : ix (nI 240) = 240 := na_ix (by decide)
  have c0 := mkL.start (M := M) (a := 1) (by omega)
  rw [hx] at c0
  refine e_X10_init (b_X10_init_0 ho (by omega) ?_)
  simp only [x6, x8, x240]
  refine ⟨by omega, by omega, fun M1 e1 => ⟨1, 300, by omega, by omega, ?_⟩⟩
  rw [hx]
  have k1 : isK M1 2 9 4 := by rw [e1, ← hx]; exact isK_nw
  refine kp_tapeInit (by omega) (by omega) (by omega) k1 (by rw [e1, nx_nw, hx]) (fun M2 F2 n2 T2 z2 => ?_)
  obtain ⟨c1, g1⟩ := ob_sub c0 (by decide) hx e1 F2 n2
  refine ⟨rfl, ob_o c1 ho, fun M3 e3 => ?_⟩
  obtain ⟨c2, g2⟩ := ob_put c1 e3 rfl
  refine ⟨by omega, by omega, fun M4 e4 => ⟨3, 45, by omega, by omega, ?_⟩⟩
  rw [c2.1]
  refine kp_ltInit (by omega) (by omega) (by omega) (by rw [e4]; have := isK_nw (M := M3) (k := 4) (n0 := 7); rw [c2.1] at this; exact this) (by rw [e4, nx_nw, c2.1]) (fun M5 F5 n5 T5 y5 => ?_)
  have z5 : mI M5 4 0 = nI 0 := by
    have := mI_nw (M := M3) (k := 4) (n := 7) (i := 0)
    rw [c2.1, ← e4] at this
    exact y5.trans this
  obtain ⟨c3, g3⟩ := ob_sub c2 (by decide) hx e4 F5 n5
  refine ⟨rfl, ob_o c3 ho, fun M6 e6 => ?_⟩
  obtain ⟨c4, g4⟩ := ob_put c3 e6 rfl
  refine ⟨by omega, by omega, fun M7 e7 => ⟨2, 12, by omega, by omega, ?_⟩⟩
  rw [c4.1]
  refine kp_ptInit (by omega) (by omega) (by omega) (by rw [e7]; have := isK_nw (M := M6) (k := 7) (n0 := 3); rw [c4.1] at this; exact this) (by rw [e7, nx_nw, c4.1]) (fun M8 F8 n8 T8 y8 => ?_)
  have z8 : mI M8 8 0 = nI 0 := by
    have := mI_nw (M := M6) (k := 7) (n := 3) (i := 0)
    rw [c4.1, ← e7] at this
    exact y8.trans this
  obtain ⟨c5, g5⟩ := ob_sub c4 (by decide) hx e7 F8 n8
  refine ⟨rfl, ob_o c5 ho, fun M9 e9 => ?_⟩
  obtain ⟨c6, g6⟩ := ob_put c5 e9 rfl
  refine ⟨na_in (by decide) (by decide), by omega, by omega, fun M10 e10 M11 e11 => ?_⟩
  obtain ⟨c7, g7, k11⟩ := ob_arr c6 (by decide) hx e10 e11 rfl
  refine ⟨na_in (by decide) (by decide), by omega, by omega, fun M12 e12 M13 e13 => ?_⟩
  obtain ⟨c8, g8, k12⟩ := ob_arr c7 (by decide) hx e12 e13 rfl
  refine ⟨na_in (by decide) (by decide), by omega, by omega, fun M14 e14 M15 e15 => ?_⟩
  obtain ⟨c9, g9, k13⟩ := ob_arr c8 (by decide) hx e14 e15 rfl
  intro M16 e16
  obtain ⟨c10, g10⟩ := ob_int c9 e16 rfl
  intro M17 e17
  obtain ⟨c11, g11⟩ := ob_int c10 e17 rfl
  intro M18 e18
  obtain ⟨c12, g12⟩ := ob_int c11 e18 rfl
  have j9 : F1 M9 M18 := ((((g7.trans g8).trans g9).trans g10).trans g11).trans g12
  have j8 : F1 M8 M18 := g6.trans j9
  have j5 : F1 M5 M18 := (g4.trans g5).trans j8
  refine ⟨by omega, by omega, fun M19 e19 => ⟨11, 69, by omega, by omega, ?_⟩⟩
  obtain ⟨q19, p19⟩ := ob_sub (C := M19) c12 (by decide) hx e19 Fal.refl (by rw [e19, nx_nw])
  rw [c12.1, ob_r q19 (i := 1) (v := 4) (by simp)]
  have j59 := j5.trans p19
  refine kp_nowhere (by omega) (by omega) (by omega) (by rw [e19]; have := isK_nw (M := M18) (k := 3) (n0 := 16); rw [c12.1] at this; exact this) (by rw [e19, nx_nw, c12.1]) (by decide) (f1_Lt j59 T5 (by decide)) ((f1_i j59 T5.1 (by decide)).trans z5) (fun M20 F20 n20 => ?_)
  obtain ⟨c13, g13⟩ := ob_sub c12 (by decide) hx e19 F20 n20
  refine ⟨rfl, ob_o c13 ho, fun M21 e21 => ?_⟩
  obtain ⟨c14, g14⟩ := ob_put c13 e21 rfl
  have i12 : F1 M18 M21 := g13.trans g14
  refine ⟨by omega, by omega, fun M22 e22 => ⟨2, 8, by omega, by omega, ?_⟩⟩
  obtain ⟨q22, p22⟩ := ob_sub (C := M22) c14 (by decide) hx e22 Fal.refl (by rw [e22, nx_nw])
  rw [c14.1, ob_r q22 (i := 2) (v := 8) (by simp)]
  have j82 := (j8.trans i12).trans p22
  refine kp_nothing (by omega) (by omega) (by omega) (by rw [e22]; have := isK_nw (M := M21) (k := 6) (n0 := 2); rw [c14.1] at this; exact this) (by rw [e22, nx_nw, c14.1]) (by decide) (f1_Pt j82 T8 (by decide)) ((f1_i j82 T8.1 (by decide)).trans z8) (fun M23 F23 n23 => ?_)
  obtain ⟨c15, g15⟩ := ob_sub c14 (by decide) hx e22 (F23.mono (fun _ _ q => q.elim) (fun _ _ q => q)) n23
  refine ⟨rfl, ob_o c15 ho, fun M24 e24 => ?_⟩
  obtain ⟨c16, g16⟩ := ob_put c15 e24 rfl
  have i14 : F1 M18 M24 := (i12.trans g15).trans g16
  refine ⟨by omega, by omega, fun M25 e25 => ⟨5, 39, by omega, by omega, ?_⟩⟩
  rw [c16.1]
  refine kp_cutInit (by omega) (by omega) (by omega) (by rw [e25]; have := isK_nw (M := M24) (k := 0) (n0 := 9); rw [c16.1] at this; exact this) (by rw [e25, nx_nw, c16.1]) (fun M26 F26 n26 T26 z26 => ?_)
  obtain ⟨c17, g17⟩ := ob_sub c16 (by decide) hx e25 F26 n26
  refine ⟨rfl, ob_o c17 ho, fun M27 e27 => ?_⟩
  obtain ⟨c18, g18⟩ := ob_put c17 e27 rfl
  refine ⟨by omega, by omega, fun M28 e28 => ⟨2, 4, by omega, by omega, ?_⟩⟩
  rw [c18.1]
  refine kp_joinInit (by omega) (by omega) (by omega) (by rw [e28]; have := isK_nw (M := M27) (k := 2) (n0 := 8); rw [c18.1] at this; exact this) (by rw [e28, nx_nw, c18.1]) (fun M29 F29 n29 T29 => ?_)
  obtain ⟨c19, g19⟩ := ob_sub c18 (by decide) hx e28 F29 n29
  refine ⟨rfl, ob_o c19 ho, fun M30 e30 => ?_⟩
  obtain ⟨c20, g20⟩ := ob_put c19 e30 rfl
  refine ⟨by omega, by omega, fun M31 e31 => ⟨28, 4300, by omega, by omega, ?_⟩⟩
  obtain ⟨q31, p31⟩ := ob_sub (C := M31) c20 (by decide) hx e31 Fal.refl (by rw [e31, nx_nw])
  rw [c20.1, ob_r q31 (i := 12) (v := 35) (by simp), ob_r q31 (i := 9) (v := 14) (by simp), ob_r q31 (i := 10) (v := 26) (by simp)]
  refine kp_mindInit (by omega) (by omega) (by omega) (by rw [e31]; have := isK_nw (M := M30) (k := 5) (n0 := 10); rw [c20.1] at this; exact this) (by rw [e31, nx_nw, c20.1]) (by decide) (f1_Jo (g20.trans p31) T29 (by decide)) (fun M32 n32 F32 T32 w32 v32 => ?_)
  obtain ⟨c21, g21⟩ := ob_sub c20 (by decide) hx e31 F32 n32
  refine ⟨rfl, ob_o c21 ho, fun M33 e33 => ?_⟩
  obtain ⟨c22, g22⟩ := ob_put c21 e33 rfl
  refine ⟨by omega, by omega, fun M34 e34 => ⟨4, 28, by omega, by omega, ?_⟩⟩
  obtain ⟨q34, p34⟩ := ob_sub (C := M34) c22 (by decide) hx e34 Fal.refl (by rw [e34, nx_nw])
  rw [c22.1, ob_r q34 (i := 11) (v := 29) (by simp), ob_r q34 (i := 12) (v := 35) (by simp), ob_r q34 (i := 9) (v := 14) (by simp), ob_r q34 (i := 10) (v := 26) (by simp)]
  have j34 : F1 M29 M34 := ((g20.trans g21).trans g22).trans p34
  refine kp_gameInit (by omega) (by omega) (by omega) (by rw [e34]; have := isK_nw (M := M33) (k := 1) (n0 := 16); rw [c22.1] at this; exact this) (by rw [e34, nx_nw, c22.1]) (by decide) (f1_Cu ((g18.trans g19).trans j34) T26 (by decide)) (f1_Jo j34 T29 (by decide)) (fun M35 F35 n35 T35 => ?_)
  obtain ⟨c23, g23⟩ := ob_sub c22 (by decide) hx e34 F35 n35
  refine ⟨rfl, ob_o c23 ho, fun M36 e36 => ?_⟩
  obtain ⟨c24, g24⟩ := ob_put c23 e36 rfl
  refine ⟨na_in (by decide) (by decide), by omega, by omega, fun M37 e37 M38 e38 => ?_⟩
  obtain ⟨c25, g25, k57⟩ := ob_arr c24 (by decide) hx e37 e38 rfl
  refine ⟨na_in (by decide) (by decide), by omega, by omega, fun M39 e39 M40 e40 => ?_⟩
  obtain ⟨c26, g26, k58⟩ := ob_arr c25 (by decide) hx e39 e40 rfl
  refine ⟨na_in (by decide) (by decide), by omega, by omega, fun M41 e41 M42 e42 => ?_⟩
  obtain ⟨c27, g27, k59⟩ := ob_arr c26 (by decide) hx e41 e42 rfl
  rw [ob_r c27 (i := 15) (v := 72) (by simp)]
  have h26 : F1 M40 M42 := g27
  have h25 : F1 M38 M42 := g26.trans h26
  have h24 : F1 M36 M42 := g25.trans h25
  have h23 : F1 M35 M42 := g24.trans h24
  have h22 : F1 M33 M42 := g23.trans h23
  have h21 : F1 M32 M42 := g22.trans h22
  have h20 : F1 M30 M42 := g21.trans h21
  have h19 : F1 M29 M42 := g20.trans h20
  have h18 : F1 M27 M42 := g19.trans h19
  have h17 : F1 M26 M42 := g18.trans h18
  have h16 : F1 M24 M42 := g17.trans h17
  have h12 : F1 M18 M42 := i14.trans h16
  have h9 : F1 M15 M42 := ((g10.trans g11).trans g12).trans h12
  have h8 : F1 M13 M42 := g9.trans h9
  have h7 : F1 M11 M42 := g8.trans h8
  have h6 : F1 M9 M42 := g7.trans h7
  have h5 : F1 M8 M42 := g6.trans h6
  have h3 : F1 M5 M42 := (g4.trans g5).trans h5
  have h1 : F1 M2 M42 := (g2.trans g3).trans h3
  refine kp_fill (f1_k h25 k57) (by decide) (fun B hF hB => ⟨rfl, hF.ext, h B ?_⟩)
  have hE : Ext M42 B := hF.ext
  have i36 : ∀ b k, b ≠ 72 → mI B b k = mI M42 b k := fun b k hb => hF.1 b k (fun w => hb w.1)
  have t36 : TpS M42 := ⟨ob_o c27 ho, ⟨ob_r c27 (by simp), f1_Ta h1 T2 (by decide)⟩, ⟨ob_r c27 (by simp), f1_Lt h3 T5 (by decide)⟩, ⟨ob_r c27 (by simp), f1_Pt h5 T8 (by decide)⟩, ⟨ob_r c27 (by simp), f1_k h7 k11⟩, ⟨ob_r c27 (by simp), f1_k h8 k12⟩, ⟨ob_r c27 (by simp), f1_k h9 k13⟩, ⟨ob_r c27 (by simp), f1_Cu h17 T26 (by decide)⟩, ⟨ob_r c27 (by simp), f1_Jo h19 T29 (by decide)⟩, ⟨ob_r c27 (by simp), f1_Mi h21 T32 (by decide)⟩, ⟨ob_r c27 (by simp), f1_Ga h23 T35 (by decide)⟩, ⟨ob_r c27 (by simp), f1_k h25 k57⟩, ⟨ob_r c27 (by simp), f1_k h26 k58⟩, ⟨ob_r c27 (by simp), k59⟩⟩
  have r36 : ∀ b k, mR B b k = mR M42 b k := fun b k => by unfold mR; rw [hF.2]
  refine ⟨by unfold nx; rw [hF.2]; exact c27.1, t36.ext hE, ?_, ⟨?_, ?_, ?_⟩, ?_, fun k hk => ?_, ⟨?_, ?_⟩, hB⟩
  · exact (i36 _ _ (by decide)).trans ((f1_i h1 T2.1 (by decide)).trans z2)
  · exact (i36 _ _ (by decide)).trans (c27.f (by simp))
  · exact (i36 _ _ (by decide)).trans (c27.f (by simp))
  · exact (i36 _ _ (by decide)).trans (c27.f (by simp))
  · exact (i36 _ _ (by decide)).trans ((f1_i h17 T26.k3 (by decide)).trans z26)
  · obtain ⟨w1, w2, w3⟩ := w32 k hk
    exact ⟨(r36 _ _).trans ((f1_r h21 T32.k1 (by decide)).trans w1), (f1_Cu h21 w2 (by omega)).ext hE, (i36 _ _ (by omega)).trans ((f1_i h21 w2.k3 (by omega)).trans w3)⟩
  · exact (r36 _ _).trans ((f1_r h21 T32.1 (by decide)).trans v32.1)
  · exact (r36 _ _).trans ((f1_r h21 T32.1 (by decide)).trans v32.2)
end MADEOB
