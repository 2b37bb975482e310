/-! THE CLASS: the joiner's work, whole -/
def jiS (a b _k : Nat) : Prop := b = a ∨ b = a + 2
def jiT (a b k : Nat) : Prop := b = a ∧ k ≤ 1
/-- what the joiner finds -/
def joW (L : LandT) (P : Nat → Nat) (NU : PrL → Nat) (m pl g : Nat) : Option (Nat × Int) := joF L P NU pl g [] none (jlF L P (2 * m) m 0)
theorem jiT_ok {M : Mem} {a : Nat} (h : isK M a 2 8) : ∀ b k ci n, jiT a b k → isK M b ci n → finR ci k = false := fun b k ci n q hk => by
  obtain ⟨q1, q2⟩ := q
  subst q1
  obtain ⟨e1, e2⟩ := isK_fun h hk
  subst e1
  rcases (show k = 0 ∨ k = 1 by omega) with rfl | rfl <;> rfl
section JOIN
variable {X : Cx} {d : Nat} {L : LandT} {P : Nat → Nat} {NU : PrL → Nat} {a la hb m pl g : Nat} {M : Mem} {Q : Option AV → Mem → Prop}
theorem laR.rr {S T : Nat → Nat → Prop} {B : Mem} (h : laR M la L) (hF : Frr S T M B) (hT : ∀ a k ci n, T a k → isK M a ci n → finR ci k = false) (hS : ∀ b k, la ≤ b → b ≤ la + 8 → ¬ S b k) : laR B la L := h.al hF.al hT hS
theorem kp_join (hd : m + 2 ≤ d) (hm : m ≤ 4) (hg : g < 3) (hpl : pl ≤ 1) (hP : ∀ h, h < 2 * m → P h < 2 ^ L.1 ∧ 1 ≤ P h) (hNU : ∀ ps, PRp L P (2 * m) 0 ps → numO (fun k => pSe P (ps.getD k (0, 0))) L.1 m = NU ps ∧ NU ps < 2 ^ 31) (hla : a + 2 < la) (hhb : hb ≠ a ∧ hb ≠ a + 2) (hJ : JoS M a) (hR : laR M la L) (hkb : isK M hb 14 8) (hPm : ∀ h, h < 2 * m → mI M hb h = nI (P h))
    (h : ∀ B, Frr (jiS a) (jiT a) M B → joR B a (joW L P NU m pl g) → Q (some (vI (bI (joW L P NU m pl g).isSome))) B) : Cl X d 0 0 m_X2_join [vR a, vR la, vR hb, vI (nI m), vI (nI pl), vI (nI g)] M Q := by
  refine e_X2_join (b_X2_join_0 hJ (by omega) (fun M1 e1 M2 e2 M3 e3 M4 e4 M5 e5 M6 e6 M7 e7 => ?_))
  have t1 : ∀ k, k ≤ 1 → jiT a a k := fun k hk => ⟨rfl, hk⟩
  have s1 : ∀ k, jiS a a k := fun k => Or.inl rfl
  have f1 : Frr (jiS a) (jiT a) M M1 := by rw [e1]; exact Frr.sR (t1 0 (by decide))
  have f2 : Frr (jiS a) (jiT a) M M2 := f1.trans (by rw [e2]; exact Frr.sR (t1 1 (by decide)))
  have f3 : Frr (jiS a) (jiT a) M M3 := f2.trans (by rw [e3]; exact (Fr.sI (S := jiS a) (s1 _)).rr)
  have f4 : Frr (jiS a) (jiT a) M M4 := f3.trans (by rw [e4]; exact (Fr.sI (S := jiS a) (s1 _)).rr)
  have f5 : Frr (jiS a) (jiT a) M M5 := f4.trans (by rw [e5]; exact (Fr.sI (S := jiS a) (s1 _)).rr)
  have f6 : Frr (jiS a) (jiT a) M M6 := f5.trans (by rw [e6]; exact (Fr.sI (S := jiS a) (s1 _)).rr)
  have f7 : Frr (jiS a) (jiT a) M M7 := f6.trans (by rw [e7]; exact (Fr.sI (S := jiS a) (s1 _)).rr)
  have hE := f7.ext (jiT_ok hJ.1)
  have hJ7 := hJ.ext hE
  have r0 : mR M7 a 0 = la := by rw [e7, e6, e5, e4, e3, mR_sI, mR_sI, mR_sI, mR_sI, mR_sI, e2, mR_sR, if_neg (fun w => absurd w.2 (by decide)), e1, mR_sR, if_pos ⟨rfl, rfl⟩]
  have r1 : mR M7 a 1 = hb := by rw [e7, e6, e5, e4, e3, mR_sI, mR_sI, mR_sI, mR_sI, mR_sI, e2, mR_sR, if_pos ⟨rfl, rfl⟩]
  have i2 : mI M7 a 2 = nI m := by
    rw [e7, mI_sI_i (by decide), e6, mI_sI_i (by decide), e5, mI_sI_i (by decide), e4, mI_sI_i (by decide), e3, mI_sI_eq, minI_n (by omega) (by decide), Nat.min_eq_left hm]
  have i3 : mI M7 a 3 = nI pl := by rw [e7, mI_sI_i (by decide), e6, mI_sI_i (by decide), e5, mI_sI_i (by decide), e4, mI_sI_eq]
  have i4 : mI M7 a 4 = nI g := by rw [e7, mI_sI_i (by decide), e6, mI_sI_i (by decide), e5, mI_sI_eq]
  have i6 : joR M7 a none := ⟨by rw [e7, mI_sI_i (by decide), e6, mI_sI_eq], by rw [e7, mI_sI_eq]⟩
  have hR7 := hR.rr f7 (jiT_ok hJ.1) (fun b k h1 h2 q => by unfold jiS at q; omega)
  have p0 : pcN (2 * m) 0 = 0 := by
    have := (show ∀ k, k < 9 → pcN k 0 = 0 by decide) (2 * m) (by omega)
    exact this
  refine kp_joinFrom hm hg hpl hP hNU hla hhb m (d - 1) 0 [] M7 _ none (by simp) (by omega) (by decide) (by rw [p0]; rfl) (fun ps hps => hps) (fun k hk => absurd hk (Nat.not_lt_zero _)) ⟨hJ7, r0, r1, i2, i3, i4⟩ hR7 (f7.k hkb) (fun h hh => ?_) i6 (fun B hF hk hB => ⟨rfl, hF.ext, ?_⟩)
  · rw [f7.1 hb h (fun q => by unfold jiS at q; omega)]; exact hPm h hh
  · have hFF : Frr (jiS a) (jiT a) M B := f7.trans ((hF.mono (T := jiS a) (fun b k q => by
      unfold joS at q
      rcases q with q | q
      · exact Or.inl q.1
      · exact Or.inr q)).rr)
    have hB : joR B a (joW L P NU m pl g) := hB
    cases hw : joW L P NU m pl g with
    | none =>
      rw [hw] at hB
      have h9 := h B hFF (by rw [hw]; exact hB)
      rw [hw] at h9
      exact ⟨fun _ => h9, fun q => absurd hB.1 q⟩
    | some b =>
      rw [hw] at hB
      have h9 := h B hFF (by rw [hw]; exact hB)
      rw [hw] at h9
      exact ⟨fun q => by rw [hB.1] at q; exact absurd q (na_m1 hB.2.2.1), fun _ => h9⟩
end JOIN
