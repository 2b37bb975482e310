/-! THE CLASS: a land's roll is made -/
theorem Fal.ext {S T : Nat → Nat → Prop} {M B : Mem} (h : Fal S T M B) (hT : ∀ a k ci n, T a k → isK M a ci n → finR ci k = false) : Ext M B :=
  ⟨h.2.2.2.2, fun a ci k n hk hf => h.2.2.1 a k (isK_lt hk) (fun z => by rw [hT a k ci n z hk] at hf; cases hf)⟩
theorem Fal.mN {S T : Nat → Nat → Prop} {M B : Mem} (h : Fal S T M B) {b k : Nat} (hk : isK M b k (mN M b)) : mN B b = mN M b := isK_mN (h.2.2.2.2 _ _ _ hk)
theorem Fal.mono {S T S' T' : Nat → Nat → Prop} {M B : Mem} (h : Fal S T M B) (hS : ∀ a i, S a i → S' a i) (hT : ∀ a i, T a i → T' a i) : Fal S' T' M B := ⟨h.1, fun a i ha q => h.2.1 a i ha (fun z => q (hS a i z)), fun a i ha q => h.2.2.1 a i ha (fun z => q (hT a i z)), h.2.2.2⟩
theorem laR.al {S T : Nat → Nat → Prop} {M B : Mem} {a : Nat} {L : LandT} (h : laR M a L) (hF : Fal S T M B) (hT : ∀ a k ci n, T a k → isK M a ci n → finR ci k = false) (hS : ∀ b k, a ≤ b → b ≤ a + 8 → ¬ S b k) : laR B a L := by
  obtain ⟨⟨g1, ⟨g2, g3, g4, g5⟩, ⟨k0, k1, k2, k3, k4⟩, g6, g7, g8, g9⟩, f, hO⟩ := h
  have l0 : a < nx M := isK_lt g1.1
  have l2 : a + 2 < nx M := isK_lt g1.2.1.2
  have l3 : a + 3 < nx M := isK_lt g1.2.2.1.2
  have l4 : a + 4 < nx M := isK_lt g1.2.2.2.1.2
  have l5 : a + 5 < nx M := isK_lt g1.2.2.2.2.1.2
  have l6 : a + 6 < nx M := isK_lt g1.2.2.2.2.2.1.2
  have l7 : a + 7 < nx M := isK_lt g1.2.2.2.2.2.2.1.2
  have l8 : a + 8 < nx M := isK_lt g1.2.2.2.2.2.2.2.1.2
  have e : ∀ b k, b < nx M → a ≤ b → b ≤ a + 8 → mI B b k = mI M b k := fun b k hb h1 h2 => hF.2.1 b k hb (hS b k h1 h2)
  refine ⟨⟨g1.ext (hF.ext hT), ⟨(hF.mN g1.2.2.2.2.1.2).trans g2, (hF.mN g1.2.2.2.2.2.1.2).trans g3, (hF.mN g1.2.2.2.2.2.2.1.2).trans g4, (hF.mN g1.2.2.2.2.2.2.2.1.2).trans g5⟩, ⟨(e _ _ l0 (by omega) (by omega)).trans k0, (e _ _ l0 (by omega) (by omega)).trans k1, (e _ _ l0 (by omega) (by omega)).trans k2, (e _ _ l0 (by omega) (by omega)).trans k3, (e _ _ l0 (by omega) (by omega)).trans k4⟩, fun p hp k hk => (e _ _ l2 (by omega) (by omega)).trans (g6 p hp k hk), fun p hp => ⟨(e _ _ l3 (by omega) (by omega)).trans (g7 p hp).1, (e _ _ l4 (by omega) (by omega)).trans (g7 p hp).2⟩, fun s hs => (e _ _ l7 (by omega) (by omega)).trans (g8 s hs), (e _ _ l5 (by omega) (by omega)).trans g9⟩, fun s hs => ?_, hO⟩
  obtain ⟨q1, q2, q3⟩ := f s hs
  exact ⟨(e _ _ l5 (by omega) (by omega)).trans q1, (e _ _ l6 (by omega) (by omega)).trans q2, (e _ _ l8 (by omega) (by omega)).trans q3⟩
/-- the roll at a with its room c, w of K places -/
def roK (M : Mem) (a c w K : Nat) (W : Nat → Nat → Nat) (ls : List Nat) : Prop := RoS M a ∧ (mR M a 0 = c ∧ mR M a 1 = w) ∧ (K < 65536 ∧ isK M c 14 K ∧ isK M w 14 K ∧ ls.length ≤ K) ∧ mI M a 2 = nI ls.length ∧ stL M c 0 ls ∧ ∀ i x, ls[i]? = some x → mI M w i = nI (W x 0 + 8 * W x 1 + 64 * W x 2)
theorem roK.x {M : Mem} {a c w K : Nat} {W : Nat → Nat → Nat} {ls : List Nat} (h : roK M a c w K W ls) : roX M a W ls := by
  obtain ⟨h1, ⟨h2, h3⟩, ⟨h4, h5, h6, h7⟩, h8, h9, h10⟩ := h
  subst h2
  subst h3
  exact ⟨h1, K, h4, h5, h6, h7, h8, h9, h10⟩
theorem roK.fr {S : Nat → Nat → Prop} {M B : Mem} {a c w K : Nat} {W : Nat → Nat → Nat} {ls : List Nat} (h : roK M a c w K W ls) (hF : Fr S M B) (h1 : ¬ S a 2) (h2 : ∀ k, ¬ S c k) (h3 : ∀ k, ¬ S w k) : roK B a c w K W ls := by
  obtain ⟨g1, ⟨g2, g3⟩, ⟨g4, g5, g6, g7⟩, g8, g9, g10⟩ := h
  have e : ∀ b k, mR B b k = mR M b k := fun b k => by unfold mR; rw [hF.2]
  exact ⟨g1.ext hF.ext, ⟨(e _ _).trans g2, (e _ _).trans g3⟩, ⟨g4, hF.ext.1 _ _ _ g5, hF.ext.1 _ _ _ g6, g7⟩, (hF.at h1).trans g8, g9.fr hF (fun k _ => h2 _), fun i x hx => (hF.at (h3 i)).trans (g10 i x hx)⟩
def enF (a c w b k : Nat) : Prop := b = c ∨ b = w ∨ (b = a ∧ k = 2)
theorem w3_or {x y z : Nat} (hx : x ≤ 4) (hy : y ≤ 4) (hz : z ≤ 4) : (nI x ||| shl (nI y) (nI 3)) ||| shl (nI z) (nI 6) = nI (x + 8 * y + 64 * z) := by
  rw [na_shl _ (by decide), na_shl _ (by decide), na_or, na_or]
  congr 1
  rw [Nat.or_comm x, ← Nat.shiftLeft_add_eq_or_of_lt (show x < 2 ^ 3 by omega), Nat.or_comm _ (z <<< 6), ← Nat.shiftLeft_add_eq_or_of_lt (b := y <<< 3 + x) (i := 6) (by rw [Nat.shiftLeft_eq]; omega), Nat.shiftLeft_eq, Nat.shiftLeft_eq]
  omega
section ENTER
variable {X : Cx} {d kc ns a c w K : Nat} {W : Nat → Nat → Nat} {M : Mem} {Q : Option AV → Mem → Prop}
theorem kp_enter {pre : List Nat} {x : Nat} (hR : roK M a c w K W pre) (hW : ∀ k, W x k ≤ 4) (hl : pre.length < K) (hcw : c ≠ w) (hca : c ≠ a) (hwa : w ≠ a) (h : ∀ B, Fr (enF a c w) M B → roK B a c w K W (pre ++ [x]) → Q none B) : Cl X d 0 0 m_X8_enter [vR a, vI (nI x), vI (nI (W x 0)), vI (nI (W x 1)), vI (nI (W x 2))] M Q := by
  obtain ⟨g1, ⟨g2, g3⟩, ⟨g4, g5, g6, g7⟩, g8, g9, g10⟩ := hR
  refine e_X8_enter (b_X8_enter_0 g1 ?_)
  rw [g2, g3, g8]
  refine ⟨K, g5, fun q => absurd (by rw [na_le (by omega) (by omega)] at q; omega) (id : False → False), fun _ => ⟨K, g6, fun q => absurd (by rw [na_le (by omega) (by omega)] at q; omega) (id : False → False), fun _ => ⟨na_in hl (by omega), fun M1 e1 => ?_⟩⟩⟩
  rw [na_ix (by omega)] at e1
  have r1 : mR M1 a 1 = w := by rw [e1]; exact g3
  have s1 : mI M1 a 2 = nI pre.length := by rw [e1, mI_sI_a (fun z => hca z.symm)]; exact g8
  rw [r1, s1]
  refine ⟨K, by rw [e1]; exact g6, na_in hl (by omega), fun M2 e2 M3 e3 => ?_⟩
  rw [na_ix (by omega), w3_or (hW 0) (hW 1) (hW 2)] at e2
  have s2 : mI M2 a 2 = nI pre.length := by rw [e2, mI_sI_a (fun z => hwa z.symm)]; exact s1
  rw [s2, nI_add] at e3
  have hF : Fr (enF a c w) M M3 := by
    rw [e3, e2, e1]
    exact ((Fr.sI (Or.inl rfl)).trans (Fr.sI (Or.inr (Or.inl rfl)))).trans (Fr.sI (Or.inr (Or.inr ⟨rfl, rfl⟩)))
  have hr : ∀ k, mR M3 a k = mR M a k := fun k => by unfold mR; rw [hF.2]
  refine h M3 hF ⟨g1.ext hF.ext, ⟨(hr 0).trans g2, (hr 1).trans g3⟩, ⟨g4, hF.ext.1 _ _ _ g5, hF.ext.1 _ _ _ g6, by simp; omega⟩, ?_, ?_, fun i y hy => ?_⟩
  · rw [e3, mI_sI_eq]; simp
  · have e : stL (sI M c (0 + pre.length) (nI x)) c 0 (pre ++ [x]) := stL_snoc g9
    rw [Nat.zero_add] at e
    intro k y hy
    rw [e3, mI_sI_a hca, e2, mI_sI_a hcw, e1]
    exact e k y hy
  · rw [e3, mI_sI_a hwa, e2, mI_sI]
    by_cases hq : i = pre.length
    · subst hq
      have hy : x = y := by simpa using hy
      subst hy
      rw [if_pos ⟨rfl, rfl⟩]
    · rw [if_neg (fun z => hq z.2), e1, mI_sI_a (fun z => hcw z.symm)]
      have hlt : i < pre.length := by
        have := (List.getElem?_eq_some_iff.mp hy).1
        simp at this; omega
      rw [List.getElem?_append_left hlt] at hy
      exact g10 i y hy
end ENTER
