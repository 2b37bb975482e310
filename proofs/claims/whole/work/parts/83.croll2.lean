/-! THE CLASS: a land's roll of cuts -/
theorem roK.al {S T : Nat → Nat → Prop} {M B : Mem} {a c w K : Nat} {W : Nat → Nat → Nat} {ls : List Nat} (h : roK M a c w K W ls) (hF : Fal S T M B) (h1 : ¬ S a 2) (h2 : ∀ k, ¬ S c k) (h3 : ∀ k, ¬ S w k) (h4 : ¬ T a 0) (h5 : ¬ T a 1) : roK B a c w K W ls := by
  obtain ⟨g1, ⟨g2, g3⟩, ⟨g4, g5, g6, g7⟩, g8, g9, g10⟩ := h
  have la : a < nx M := isK_lt g1
  have lc : c < nx M := isK_lt g5
  have lw : w < nx M := isK_lt g6
  exact ⟨hF.2.2.2.2 _ _ _ g1, ⟨(hF.2.2.1 _ _ la h4).trans g2, (hF.2.2.1 _ _ la h5).trans g3⟩, ⟨g4, hF.2.2.2.2 _ _ _ g5, hF.2.2.2.2 _ _ _ g6, g7⟩, (hF.2.1 _ _ la h1).trans g8, fun i x hx => (hF.2.1 _ _ lc (h2 _)).trans (g9 i x hx), fun i x hx => (hF.2.1 _ _ lw (h3 i)).trans (g10 i x hx)⟩
theorem cb_no {M : Mem} (hC : CuS M 29) : ∀ b k ci n, cbT 29 b k → isK M b ci n → finR ci k = false := fun b k ci n hT hk => by
  obtain ⟨rfl, rfl⟩ := hT
  obtain ⟨rfl, -⟩ := isK_fun hC.1 hk
  rfl
def rlS (a c w b k : Nat) : Prop := cbS 29 b k ∨ flS a c w b k
section MADE
variable {X : Cx} {d d2 kc ns a c w K : Nat} {L : LandT} {M : Mem} {Q : Option AV → Mem → Prop}
theorem kp_rtail (hd : 4 ≤ d) (hd2 : 1 ≤ d2) (ha : 33 < a) (hcw : c ≠ w) (hc : a + 9 < c) (hw : a + 9 < w) (hlen : (lsL L (whL L) L.2.1).length ≤ K) (hR : laR M a L) (hC : CuS M 29) (hz : mI M 33 0 = nI 0) (hRo : roK M (a + 9) c w K (wiL L) [])
    (h : ∀ B, Frr (rlS a c w) (cbT 29) M B → laR B a L → roX B (a + 9) (wiL L) (lsL L (whL L) L.2.1) → mI B (a + 9) 3 = nI 1 → Q (some (vR (a + 9))) B) :
    Cl X d2 0 0 m_X0_begin [vR 29, vR (a + 8), vI (mI M a 0), vI (mI M a 4), vI (mI M a 1)] M (fun r M2 => r = none ∧ Ext M M2 ∧ WA X d kc ns m_X3_rollOfCuts 47 [some (vR a), some (vR 29), some (vI (nI 0)), none] [] M2 Q) := by
  obtain ⟨hCl, hFt, hO⟩ := hR
  have hR : laR M a L := ⟨hCl, hFt, hO⟩
  have h4 := hO.2.1.2.1
  have h3 := hO.2.1.1
  have hk8 : isK M (a + 8) 14 (2 ^ L.1) := by
    have := hCl.1.2.2.2.2.2.2.2.1.2
    rw [hCl.2.1.2.2.2] at this; exact this
  rw [hCl.2.2.1.1, hCl.2.2.1.2.2.2.2, hCl.2.2.1.2.1]
  refine kp_cbegin (base := lwB L) hd2 hC hO.1.2 (whL_lt L) (by omega) (by omega) hk8 (fun s hs => (hFt s hs).2.2) hz (fun B N hFB hW => ⟨rfl, cb_ext hFB hC, ?_⟩)
  have hWB := hW 2 (by decide) (by decide) (by omega)
  rw [vl_law h4] at hWB
  have hRB := hR.al hFB.al (cb_no hC) (fun b k h1 h2 q => by unfold cbS at q; omega)
  have hRoB := hRo.al hFB.al (by unfold cbS; omega) (fun k => by unfold cbS; omega) (fun k => by unfold cbS; omega) (by unfold cbT; omega) (by unfold cbT; omega)
  exact wa_roll hd ha hcw hc hw hO hlen (fun C hFC a1 a2 a3 => h C ((hFB.mono (fun b k q => Or.inl q) (fun b k q => q)).trans ((hFC.mono (fun b k q => Or.inr q)).rr)) a1 a2 a3) _ [] B rfl Fr.refl hRB hRoB hWB
/-- the roll is there -/
theorem kp_roll1 (hR : laR M a L) (hl : mI M (a + 9) 3 = nI 1) (hd : 1 ≤ d) (h : Q (some (vR (a + 9))) M) : Cl X d kc ns m_X3_rollOfCuts [vR a, vR 29] M Q :=
  e_X3_rollOfCuts (b_X3_rollOfCuts_0 hR.1.1 hd ⟨fun _ => h, fun q => absurd (by rw [hl] at q; exact q) (by decide)⟩)
/-- there is room for the roll -/
theorem kp_roll2 (hd : 5 ≤ d) (ha : 33 < a) (hcw : c ≠ w) (hc : a + 9 < c) (hw : a + 9 < w) (hR : laR M a L) (hC : CuS M 29) (hz : mI M 33 0 = nI 0) (hl : mI M (a + 9) 3 = nI 0) (hr : mR M (a + 9) 0 = c ∧ mR M (a + 9) 1 = w) (hk : isK M c 14 (wy L.1 L.2.1) ∧ isK M w 14 (wy L.1 L.2.1))
    (h : ∀ B, Frr (rlS a c w) (cbT 29) M B → laR B a L → roX B (a + 9) (wiL L) (lsL L (whL L) L.2.1) → mI B (a + 9) 3 = nI 1 → Q (some (vR (a + 9))) B) : Cl X d kc ns m_X3_rollOfCuts [vR a, vR 29] M Q := by
  have hO := hR.2.2
  have h4 := hO.2.1.2.1
  have hwd := wy_dec L.1 (by have := hO.1.2; omega) L.2.1 (by omega)
  have hwp := wy_pos L.1 (by have := hO.1.2; omega) L.2.1 (by omega) hO.2.1.1 hO.2.1.2.2
  have hRo9 : RoS M (a + 9) := hR.1.1.2.2.2.2.2.2.2.2.2.2
  have hF2 : Fr (fun b k => b = a + 9 ∧ k = 2) M (sI M (a + 9) 2 (nI 0)) := Fr.sI ⟨rfl, rfl⟩
  have hRoB : roK (sI M (a + 9) 2 (nI 0)) (a + 9) c w (wy L.1 L.2.1) (wiL L) [] := ⟨hRo9.ext hF2.ext, ⟨hr.1, hr.2⟩, ⟨hwd, hk.1, hk.2, Nat.zero_le _⟩, mI_sI_eq, stL_nil, fun i x hx => by simp at hx⟩
  refine e_X3_rollOfCuts (b_X3_rollOfCuts_0 hR.1.1 (by omega) ⟨fun q => absurd hl q, fun _ => ⟨0, 0, Nat.zero_le _, Nat.zero_le _, kp_room0 hRo9 (by rw [hr.1]; exact hk.1) ⟨hwp, by omega⟩ ⟨rfl, hF2.ext, hC.ext hF2.ext, ?_⟩⟩⟩)
  refine kp_rtail (by omega) (by omega) ha hcw hc hw (lsL_wy hO) (hR.fr hF2 (fun b k h1 h2 q => by omega)) (hC.ext hF2.ext) ((hF2.at (by omega)).trans hz) hRoB (fun B hFB a1 a2 a3 => h B (Frr.trans ((hF2.mono (fun b k q => Or.inr (Or.inr (Or.inl (Or.inr (Or.inr q)))))).rr) hFB) a1 a2 a3)
end MADE
