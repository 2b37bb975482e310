/-! THE CLASS: a land's roll of cuts, the first time; parts in their order -/
section MADE
variable {X : Cx} {d kc ns a : Nat} {L : LandT} {M : Mem} {Q : Option AV → Mem → Prop}
theorem ro_no {M : Mem} {a : Nat} (hS : RoS M a) : ∀ b k ci n, rmT a b k → isK M b ci n → finR ci k = false := fun b k ci n hT hk => by
  obtain ⟨rfl, hk1⟩ := hT
  obtain ⟨rfl, -⟩ := isK_fun hS hk
  rcases (show k = 0 ∨ k = 1 by omega) with rfl | rfl <;> rfl
/-- there is no room yet -/
theorem kp_roll3 (hd : 5 ≤ d) (ha : 33 < a) (hR : laR M a L) (hC : CuS M 29) (hz : mI M 33 0 = nI 0) (hl : mI M (a + 9) 3 = nI 0) (hk : isK M (mR M (a + 9) 0) 14 0) (hkc : 3 ≤ kc) (hns : 5 + 2 * wy L.1 L.2.1 ≤ ns)
    (h : ∀ B, Fal (rlS a (nx M + 1) (nx M + 2)) (fun b k => cbT 29 b k ∨ rmT (a + 9) b k) M B → nx B = nx M + 3 → laR B a L → roX B (a + 9) (wiL L) (lsL L (whL L) L.2.1) → mI B (a + 9) 3 = nI 1 → (mR B (a + 9) 0 = nx M + 1 ∧ mR B (a + 9) 1 = nx M + 2 ∧ isK B (nx M + 1) 14 (wy L.1 L.2.1) ∧ isK B (nx M + 2) 14 (wy L.1 L.2.1)) → Q (some (vR (a + 9))) B) : Cl X d kc ns m_X3_rollOfCuts [vR a, vR 29] M Q := by
  have hO := hR.2.2
  have h4 := hO.2.1.2.1
  have hwd := wy_dec L.1 (by have := hO.1.2; omega) L.2.1 (by omega)
  have hRo9 : RoS M (a + 9) := hR.1.1.2.2.2.2.2.2.2.2.2.2
  have l9 : a + 9 < nx M := isK_lt hRo9
  have l14 : 33 < nx M := by omega
  refine e_X3_rollOfCuts (b_X3_rollOfCuts_0 hR.1.1 (by omega) ⟨fun q => absurd hl q, fun _ => ⟨3, 5 + 2 * wy L.1 L.2.1, hkc, hns, ?_⟩⟩)
  rw [hR.1.2.2.1.1, hR.1.2.2.1.2.1]
  refine kp_room hRo9 hk hO.1.2 ⟨hO.2.1.1, h4, hO.2.1.2.2⟩ (Nat.le_refl _) (Nat.le_refl _) (fun M1 hF1 hnx hr0 hr1 hk1 hk2 hz2 => ?_)
  have hE := hF1.ext (ro_no hRo9)
  have hR1 := hR.al hF1 (ro_no hRo9) (fun b k h1 h2 q => by unfold rmS at q; omega)
  have hC1 := hC.ext hE
  have hz1 : mI M1 33 0 = nI 0 := (hF1.2.1 33 0 (by omega) (by unfold rmS; omega)).trans hz
  have hRo1 : roK M1 (a + 9) (nx M + 1) (nx M + 2) (wy L.1 L.2.1) (wiL L) [] := ⟨hRo9.ext hE, ⟨hr0, hr1⟩, ⟨hwd, hk1, hk2, Nat.zero_le _⟩, hz2, stL_nil, fun i x hx => by simp at hx⟩
  refine ⟨rfl, hE, hC1, ?_⟩
  refine kp_rtail (by omega) (by omega) ha (by omega) (by omega) (by omega) (lsL_wy hO) hR1 hC1 hz1 hRo1 (fun B hFB a1 a2 a3 => ?_)
  have hA : Fal (rlS a (nx M + 1) (nx M + 2)) (fun b k => cbT 29 b k ∨ rmT (a + 9) b k) M B := (hF1.mono (fun b k q => by unfold rmS at q; exact Or.inr (Or.inr (Or.inl (Or.inr (Or.inr q))))) (fun b k q => Or.inr q)).trans (hFB.al.mono (fun b k q => q) (fun b k q => Or.inl q))
  have n9 : ∀ k, ¬ cbT 29 (a + 9) k := fun k q => by unfold cbT at q; omega
  exact h B hA (by unfold nx at *; rw [hFB.2.2]; exact hnx) a1 a2 a3 ⟨(hFB.2.1 _ _ (n9 0)).trans hr0, (hFB.2.1 _ _ (n9 1)).trans hr1, hFB.k hk1, hFB.k hk2⟩
end MADE
