/-! THE CLASS: a land's roll is filled -/
theorem cuW.fr {S : Nat → Nat → Prop} {M B : Mem} {a h : Nat} {base : Nat → Bool} {b n o m N : Nat} {xs : List Nat} (hW : cuW M a h base b n o m N xs) (hF : Fr S M B) (hS : ∀ c k, (a ≤ c ∧ c ≤ a + 4) ∨ c = h → ¬ S c k) : cuW B a h base b n o m N xs := by
  obtain ⟨hK, ⟨b1, ⟨b2, b3, b4⟩, ⟨b5, b6, b7⟩, b8, b9⟩, hb, dp, hdp, hst⟩ := hW
  have e : ∀ c k, (a ≤ c ∧ c ≤ a + 4) ∨ c = h → mI B c k = mI M c k := fun c k q => hF.at (hS c k q)
  have er : mR B a 4 = mR M a 4 := by unfold mR; rw [hF.2]
  have hT : ∀ i e', cuT M a n o i e' dp → cuT B a n o i e' dp := fun i e' ⟨t1, t2, t3, t4, t5⟩ => ⟨(e _ _ (by omega)).trans t1, fun j hj => (e _ _ (by omega)).trans (t2 j hj), (e _ _ (by omega)).trans t3, fun j hj => (e _ _ (by omega)).trans (t4 j hj), fun s hs => (e _ _ (by omega)).trans (t5 s hs)⟩
  refine ⟨hK, ⟨b1.ext hF.ext, ⟨er.trans b2, hF.ext.1 _ _ _ b3, fun s hs => (e _ _ (by omega)).trans (b4 s hs)⟩, ⟨(e _ _ (by omega)).trans b5, (e _ _ (by omega)).trans b6, (e _ _ (by omega)).trans b7⟩, fun j hj => (e _ _ (by omega)).trans (b8 j hj), (e _ _ (by omega)).trans b9⟩, hb, dp, hdp, ?_⟩
  rcases hst with ⟨q1, q2, q3⟩ | ⟨q1, q2⟩
  · exact Or.inl ⟨q1, hT _ _ q2, q3⟩
  · exact Or.inr ⟨hT _ _ q1, q2⟩
def flS (a c w b k : Nat) : Prop := cuS 29 b k ∨ enF (a + 9) c w b k ∨ (b = a + 9 ∧ k = 3)
section FILLR
variable {X : Cx} {d kc ns a c w K N : Nat} {L : LandT} {Q : Option AV → Mem → Prop}
theorem wa_roll {M0 : Mem} (hd : 4 ≤ d) (ha : 33 < a) (hcw : c ≠ w) (hc : a + 9 < c) (hw : a + 9 < w) (hO : LdOK L) (hlen : (lsL L (whL L) L.2.1).length ≤ K)
    (h : ∀ B, Fr (flS a c w) M0 B → laR B a L → roX B (a + 9) (wiL L) (lsL L (whL L) L.2.1) → mI B (a + 9) 3 = nI 1 → Q (some (vR (a + 9))) B) :
    ∀ (xs pre : List Nat) (M : Mem), lsL L (whL L) L.2.1 = pre ++ xs → Fr (flS a c w) M0 M → laR M a L → roK M (a + 9) c w K (wiL L) pre → cuW M 29 (a + 8) (lwB L) 2 L.1 (whL L) L.2.1 N xs →
      WA X d kc ns m_X3_rollOfCuts 47 [some (vR a), some (vR 29), some (vI (nI pre.length)), none] [] M Q := by
  have h4 := hO.2.1.2.1
  have h8 := lsL_len (L := L) (o := whL L) hO.1.2 h4
  have hwi : ∀ x k, wiL L x k ≤ 4 := fun x k => Nat.le_trans (wiL_le L x k) h4
  intro xs
  induction xs with
  | nil =>
    intro pre M hls hF hR hRo hW
    have hcu : CuS M 29 := hW.2.1.1
    rw [List.append_nil] at hls
    have hp8 : pre.length ≤ 8000 := by rw [← hls]; exact h8
    refine b_X3_rollOfCuts_47 hR.1.1 (by omega) ⟨fun q => absurd (by rw [na_le (by decide) (by omega)] at q; omega) (id : False → False), fun _ => ⟨hcu, ?_⟩⟩
    refine kp_next (by omega) hW (fun _ B hFB hBB => ⟨_, rfl, hFB.ext, fun _ => ?_, fun q => absurd rfl q⟩) (fun x xs' hx => (by cases hx))
    have hRB := hR.fr hFB (fun b k h1 h2 q => by unfold cuS at q; omega)
    have hRoB := hRo.fr hFB (by unfold cuS; omega) (fun k => by unfold cuS; omega) (fun k => by unfold cuS; omega)
    refine b_X3_rollOfCuts_101 hRB.1.1 (fun M1 e1 => ?_)
    have hF1 : Fr (fun b k => b = a + 9 ∧ k = 3) B M1 := by rw [e1]; exact Fr.sI ⟨rfl, rfl⟩
    refine h M1 ((hF.trans (hFB.mono (fun b k q => Or.inl q))).trans (hF1.mono (fun b k q => Or.inr (Or.inr q)))) (hRB.fr hF1 (fun b k h1 h2 q => by omega)) ?_ (by rw [e1, mI_sI_eq])
    rw [hls]
    exact (hRoB.fr hF1 (by omega) (fun k => by omega) (fun k => by omega)).x
  | cons x xs ih =>
    intro pre M hls hF hR hRo hW
    have hcu : CuS M 29 := hW.2.1.1
    have hlL : (lsL L (whL L) L.2.1).length = pre.length + (xs.length + 1) := by rw [hls]; simp
    have hl : pre.length < K := by omega
    refine b_X3_rollOfCuts_47 hR.1.1 (by omega) ⟨fun q => absurd (by rw [na_le (by decide) (by omega)] at q; omega) (id : False → False), fun _ => ⟨hcu, ?_⟩⟩
    refine kp_next (by omega) hW (fun hx => (by cases hx)) (fun y ys hy B hFB hWB hX hparts => ⟨_, rfl, hFB.ext, fun q => absurd q (by decide), fun _ => ?_⟩)
    obtain ⟨rfl, rfl⟩ : x = y ∧ xs = ys := by cases hy; exact ⟨rfl, rfl⟩
    have hRB := hR.fr hFB (fun b k h1 h2 q => by unfold cuS at q; omega)
    have hRoB := hRo.fr hFB (by unfold cuS; omega) (fun k => by unfold cuS; omega) (fun k => by unfold cuS; omega)
    have hk15 : isK B 30 14 8 := hWB.2.1.1.2.1.2
    have hf : ∀ s, s < L.2.1 → (fun s => sOB 2 L.1 x (whL L) s) s < 2 ^ L.1 ∧ mI B 30 s = nI ((fun s => sOB 2 L.1 x (whL L) s) s) := fun s hs => ⟨sOB_lt _ _ _ _ _, hparts s hs⟩
    refine kp_number0 hWB.1 hWB.2.1 (by decide) (by omega) hX ⟨_, rfl, Ext.refl _, ?_⟩
    refine kp_wins (by omega) hRB hk15 (by decide) hf ⟨_, rfl, Ext.refl _, kp_wins (by omega) hRB hk15 (by decide) hf ⟨_, rfl, Ext.refl _, kp_wins (by omega) hRB hk15 (by decide) hf ⟨_, rfl, Ext.refl _, ?_⟩⟩⟩
    refine kp_enter (W := wiL L) (x := x) hRoB (fun k => hwi x k) hl hcw (by omega) (by omega) (fun C hFC hRoC => ⟨rfl, hFC.ext, ?_⟩)
    have := ih (pre ++ [x]) C (by rw [hls]; simp) ((hF.trans (hFB.mono (fun b k q => Or.inl q))).trans (hFC.mono (fun b k q => Or.inr (Or.inl q)))) (hRB.fr hFC (fun b k h1 h2 q => by unfold enF at q; omega)) hRoC (hWB.fr hFC (fun b k h1 q => by unfold enF at q; omega))
    rw [show (pre ++ [x]).length = pre.length + 1 by simp] at this
    rw [nI_add]; exact this
end FILLR
