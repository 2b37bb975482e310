/-! THE CLASS: a round begins -/
/-- the scout and the joiner -/
def scX (M : Mem) : Prop := CuS M 29 ∧ mI M 33 0 = nI 0 ∧ JoS M 35
def slS (b k : Nat) : Prop := (29 ≤ b ∧ b ≤ 32) ∨ (b = 33 ∧ k ≠ 0) ∨ b = 35 ∨ b = 37
def slT (b k : Nat) : Prop := (b = 29 ∧ k = 4) ∨ (b = 35 ∧ k ≤ 1)
/-- scratch, and what a round's beginning says of the game a -/
def erS (a b k : Nat) : Prop := slS b k ∨ (b = a ∧ (k = 10 ∨ k = 11))
def ccS (a b k : Nat) : Prop := slS b k ∨ (b = a ∧ k = 11)
theorem slT_ok {M : Mem} (h : scX M) : ∀ b k ci n, slT b k → isK M b ci n → finR ci k = false := fun b k ci n q hk => by
  rcases q with ⟨rfl, rfl⟩ | ⟨rfl, q2⟩
  · obtain ⟨e1, -⟩ := isK_fun h.1.o hk
    subst e1; rfl
  · obtain ⟨e1, -⟩ := isK_fun h.2.2.o hk
    subst e1
    rcases (show k = 0 ∨ k = 1 by omega) with rfl | rfl <;> rfl
theorem scX.rr {S T : Nat → Nat → Prop} {M B : Mem} (h : scX M) (hF : Frr S T M B) (hT : ∀ a k ci n, T a k → isK M a ci n → finR ci k = false) (h18 : ¬ S 33 0) : scX B :=
  ⟨h.1.ext (hF.ext hT), (hF.1 33 0 h18).trans h.2.1, h.2.2.ext (hF.ext hT)⟩
theorem cuS_sl {M B : Mem} (h : Fr (cuS 29) M B) {T : Nat → Nat → Prop} : Frr slS T M B := (h.mono (fun b k q => by unfold cuS at q; unfold slS; omega)).rr
theorem cb_sl {M B : Mem} (h : Frr (cbS 29) (cbT 29) M B) : Frr slS slT M B := h.mono (fun b k q => by unfold cbS at q; unfold slS; omega) (fun b k q => Or.inl q)
theorem ji_sl {M B : Mem} (h : Frr (jiS 35) (jiT 35) M B) : Frr slS slT M B := h.mono (fun b k q => by unfold jiS at q; unfold slS; omega) (fun b k q => Or.inr q)
theorem sl_no18 : ¬ slS 33 0 := fun q => by unfold slS at q; omega
theorem sl_la {la : Nat} (h : 37 < la) : ∀ b k, la ≤ b → b ≤ la + 8 → ¬ slS b k := fun b k h1 h2 q => by unfold slS at q; omega
theorem Frr.i {S T : Nat → Nat → Prop} {M B : Mem} (h : Frr S T M B) {b k : Nat} (hn : ¬ S b k) : mI B b k = mI M b k := h.1 b k hn
theorem Frr.r {S T : Nat → Nat → Prop} {M B : Mem} (h : Frr S T M B) {b k : Nat} (hn : ¬ T b k) : mR B b k = mR M b k := h.2.1 b k hn
theorem nsl {b k : Nat} (h : 37 < b) : ¬ slS b k := fun q => by unfold slS at q; omega
theorem nslT {b k : Nat} (h : 37 < b) : ¬ slT b k := fun q => by unfold slT at q; omega
theorem cuW.rr {S T : Nat → Nat → Prop} {M B : Mem} {a h : Nat} {base : Nat → Bool} {b n o m N : Nat} {xs : List Nat} (hW : cuW M a h base b n o m N xs) (hF : Frr S T M B) (hT : ∀ a k ci n, T a k → isK M a ci n → finR ci k = false) (h4 : ¬ T a 4) (hS : ∀ c k, (a ≤ c ∧ c ≤ a + 4) ∨ c = h → ¬ S c k) : cuW B a h base b n o m N xs := by
  obtain ⟨hK, ⟨b1, ⟨b2, b3, b4⟩, ⟨b5, b6, b7⟩, b8, b9⟩, hb, dp, hdp, hst⟩ := hW
  have i : ∀ c k, (a ≤ c ∧ c ≤ a + 4) ∨ c = h → mI B c k = mI M c k := fun c k hc => hF.1 c k (hS c k hc)
  have ct : ∀ i' e, cuT M a n o i' e dp → cuT B a n o i' e dp := fun i' e ⟨c1, c2, c3, c4, c5⟩ => ⟨(i a 8 (by omega)).trans c1, fun j hj => (i _ _ (by omega)).trans (c2 j hj), (i _ _ (by omega)).trans c3, fun j hj => (i _ _ (by omega)).trans (c4 j hj), fun s hs => (i _ _ (by omega)).trans (c5 s hs)⟩
  refine ⟨hK, ⟨b1.ext (hF.ext hT), ⟨(hF.2.1 a 4 h4).trans b2, hF.k b3, fun s hs => (i _ _ (Or.inr rfl)).trans (b4 s hs)⟩, ⟨(i _ _ (by omega)).trans b5, (i _ _ (by omega)).trans b6, (i _ _ (by omega)).trans b7⟩, fun j hj => (i _ _ (by omega)).trans (b8 j hj), (i _ _ (by omega)).trans b9⟩, hb, dp, hdp, ?_⟩
  rcases hst with ⟨s1, s2, s3⟩ | ⟨s1, s2⟩
  · exact Or.inl ⟨s1, ct _ _ s2, s3⟩
  · exact Or.inr ⟨ct _ _ s1, s2⟩
theorem wE_dec8 : ∀ r, r < 10 → ∀ m, m < 9 → wE m r 0 ≤ 400000 := by decide +kernel
theorem hg_fa {L : LandT} {s : Nat} (h : s ≠ 0) : hgB L s = true ↔ faL L s ≠ 2 := by
  have e := flB_eq L s
  unfold flB at e
  rw [if_neg h] at e
  rw [e]
  cases hgB L s with
  | false => simp
  | true =>
    simp only [if_true]
    refine ⟨fun _ => ?_, fun _ => trivial⟩
    split
    · omega
    · split <;> omega
theorem vl_hang {L : LandT} {o m x : Nat} (hx : nuF 3 L.1 x o L.1 = some m) : vlB (hgB L) 3 L.1 o m x = decide (∀ h, h < m → faL L (sOB 3 L.1 x o h) ≠ 2) := by
  unfold vlB
  refine decide_eq_decide.mpr ⟨fun w h hh => ?_, fun w h hh => ?_⟩
  · exact (hg_fa (Nat.ne_of_gt (nuF_pos hx hh))).mp (w h hh)
  · exact (hg_fa (Nat.ne_of_gt (nuF_pos hx hh))).mpr (w h hh)
theorem enB3_nu {n o m x : Nat} (hm : m ≤ 8) (h : x ∈ enB 3 n o m n 0 0) : nuF 3 n x o n = some m := (enB_ok (b := 3) (n := n) hm n 0 0 0 x (by omega) (Nat.zero_le _) (by simp) rfl h).2
theorem any_congr2 {xs : List Nat} {f g : Nat → Bool} (h : ∀ x, x ∈ xs → f x = g x) : xs.any f = xs.any g := by
  induction xs with
  | nil => rfl
  | cons x xs ih => rw [List.any_cons, List.any_cons, h x (by simp), ih (fun y hy => h y (by simp [hy]))]
theorem numI_cg {f g : Nat → Nat} {n s p : Nat} (h : f s = g s) : numI f n s p = numI g n s p := by
  unfold numI
  rw [h]
section ROUND
variable {X : Cx} {d a la : Nat} {L : LandT} {M : Mem} {Q : Option AV → Mem → Prop}
theorem la_k8 (hR : laR M la L) : isK M (la + 8) 14 (2 ^ L.1) := by
  have := hR.1.1.k11
  rw [hR.1.2.1.2.2.2] at this; exact this
theorem la_k7 (hR : laR M la L) : isK M (la + 7) 14 (2 ^ L.1) := by
  have := hR.1.1.k10
  rw [hR.1.2.1.2.2.1] at this; exact this
theorem kp_scoutCuts {o m : Nat} (hd : 1 ≤ d) (hla : 37 < la) (hR : laR M la L) (hS : scX M) (ho : o < 2 ^ L.1) (hm : 1 ≤ m ∧ m ≤ 4) (h : ∀ B N, Frr slS slT M B → laR B la L → scX B → cuW B 29 (la + 8) (lwB L) 2 L.1 o m N (lsL L o m) → Q none B) : Cl X d 0 0 m_X0_begin [vR 29, vR (la + 8), vI (nI L.1), vI (nI o), vI (nI m)] M Q := by
  refine kp_cbegin (base := lwB L) hd hS.1 hR.2.2.1.2 ho (by omega) (by omega) (la_k8 hR) (fun s hs => (hR.2.1 s hs).2.2) hS.2.1 (fun B N hFB hW => ?_)
  have hF := cb_sl hFB
  have hW2 := hW 2 (by decide) (by decide) (by omega)
  rw [vl_law hm.2] at hW2
  exact h B N hF (hR.rr hF (slT_ok hS) (sl_la hla)) (hS.rr hF (slT_ok hS) sl_no18) hW2
theorem kp_canCut {o m : Nat} (hd : 3 ≤ d) (ha : 37 < a) (hla : 37 < la) (hR : laR M la L) (hS : scX M) (hG : GaS M a) (h2 : mR M a 2 = la) (h8 : mI M a 8 = nI o) (h9 : mI M a 9 = nI m) (ho : o < 2 ^ L.1) (hm : 1 ≤ m ∧ m ≤ 4)
    (h : ∀ B, Frr (ccS a) slT M B → mI B a 11 = bI (decide ((lsL L o m).length = 1)) → Q (some (vI (bI (decide (0 < (lsL L o m).length))))) B) : Cl X d 0 0 m_X1_canCut [vR a] M Q := by
  have put : ∀ (b : Bool) (v : Bool) (B : Mem), Frr slS slT M B → b = decide ((lsL L o m).length = 1) → v = decide (0 < (lsL L o m).length) → GaS B a → WA X d 0 0 m_X1_canCut 57 [some (vR a), some (vI (bI v))] [vI (bI b), vR a] B Q := fun b v B hF hb hv hGB => by
    refine b_X1_canCut_57 hGB ⟨bI_B b, fun M1 e1 => ⟨bI_B v, ?_⟩⟩
    rw [hv]
    refine h M1 ((hF.mono (fun b k q => Or.inl q) (fun b k q => q)).trans ?_) ?_
    · rw [e1]; exact (Fr.sI (S := ccS a) (Or.inr ⟨rfl, rfl⟩)).rr
    · rw [e1, mI_sI_eq, hb]
  refine e_X1_canCut (b_X1_canCut_0 hG (by omega) ?_)
  rw [h2, h8, h9, hR.1.2.2.1.1]
  refine ⟨hR.1.1, kp_scoutCuts (by omega) hla hR hS ho hm (fun B N hFB hRB hSB hW => ⟨rfl, hFB.ext (slT_ok hS), ?_⟩)⟩
  have hGB := hG.ext (hFB.ext (slT_ok hS))
  refine kp_next (by omega) hW (fun hx C hFC hBC => ?_) (fun x xs hx C hFC hWC hXC hpC => ?_)
  · refine ⟨_, rfl, hFC.ext, fun _ => ?_, fun q => absurd rfl q⟩
    refine b_X1_canCut_56 (hGB.ext hFC.ext) ?_
    exact put false false C (hFB.trans (cuS_sl hFC)) (by rw [hx]; rfl) (by rw [hx]; rfl) (hGB.ext hFC.ext)
  · refine ⟨_, rfl, hFC.ext, fun q => absurd q (by decide), fun _ => ?_⟩
    have hGC := hGB.ext hFC.ext
    refine kp_next (by omega) hWC (fun hx2 D hFD hBD => ?_) (fun y ys hy D hFD hWD hXD hpD => ?_)
    · refine ⟨_, rfl, hFD.ext, fun q => absurd rfl q, fun _ => ?_⟩
      exact put true true D ((hFB.trans (cuS_sl hFC)).trans (cuS_sl hFD)) (by rw [hx, hx2]; rfl) (by rw [hx, hx2]; rfl) (hGC.ext hFD.ext)
    · refine ⟨_, rfl, hFD.ext, fun _ => ?_, fun q => absurd q (by decide)⟩
      refine b_X1_canCut_56 (hGC.ext hFD.ext) ?_
      exact put false true D ((hFB.trans (cuS_sl hFC)).trans (cuS_sl hFD)) (by rw [hx, hy]; simp) (by rw [hx, hy]; simp) (hGC.ext hFD.ext)
/-- the halves of x, joined -/
theorem kp_joinOf {hb pl g o m x : Nat} (hd : m + 2 ≤ d) (hla : 37 < la) (hR : laR M la L) (hS : scX M) (hm : m ≤ 4) (hg : g < 3) (hpl : pl ≤ 1) (hx : nuF 3 L.1 x o L.1 = some (2 * m)) (hhb : hb ≠ 35 ∧ hb ≠ 37) (hk : isK M hb 14 8) (hP : ∀ h, h < 2 * m → mI M hb h = nI (sOB 3 L.1 x o h))
    (h : ∀ B, Frr (jiS 35) (jiT 35) M B → joR B 35 (joW L (sOB 3 L.1 x o) (pcut L x o) m pl g) → Q (some (vI (bI (joW L (sOB 3 L.1 x o) (pcut L x o) m pl g).isSome))) B) : Cl X d 0 0 m_X2_join [vR 35, vR la, vR hb, vI (nI m), vI (nI pl), vI (nI g)] M Q := by
  have h49 : 4 ^ L.1 ≤ 4 ^ 9 := Nat.pow_le_pow_right (by decide) hR.2.2.1.2
  have h49e : (4 : Nat) ^ 9 = 262144 := rfl
  refine kp_join (P := sOB 3 L.1 x o) (NU := pcut L x o) hd hm hg hpl (fun h hh => ⟨sOB_lt _ _ _ _ _, nuF_pos hx hh⟩) (fun ps hp => ?_) (by omega) hhb hS.2.2 hR hk hP h
  obtain ⟨e1, e2, e3, e4, e5⟩ := pcut_ok hm hx hp
  refine ⟨?_, by omega⟩
  have c := numO_cut e2 e3
  refine Eq.trans ?_ c
  rw [numO_sm, numO_sm]
  refine smF_lt (fun s hs => ?_)
  have hg2 : ps[s]? = some (ps[s]'(by omega)) := List.getElem?_eq_getElem (by omega)
  have e6 := e4 s _ hg2
  have e7 : ps.getD s (0, 0) = ps[s]'(by omega) := by simp only [List.getD]; rw [hg2]; rfl
  refine numI_cg ?_
  show pSe (sOB 3 L.1 x o) (ps.getD s (0, 0)) = sOB 2 L.1 (pcut L x o ps) o s
  rw [e7, e6]; rfl
theorem kp_canHalve {o m : Nat} (hd : 7 ≤ d) (ha : 37 < a) (hla : 37 < la) (hR : laR M la L) (hS : scX M) (hG : GaS M a) (h2 : mR M a 2 = la) (h8 : mI M a 8 = nI o) (h9 : mI M a 9 = nI m) (ho : o < 2 ^ L.1) (hm : 1 ≤ m ∧ m ≤ 4)
    (h : ∀ B, Frr slS slT M B → Q (some (vI (bI (hvF L 0 false false o m).isSome))) B) : Cl X d 0 0 m_X1_canHalve [vR a] M Q := by
  have hn := hR.2.2.1.2
  rw [hvF_some] at h
  refine e_X1_canHalve (b_X1_canHalve_0 hG (by omega) ?_)
  rw [h2, h8, h9, hR.1.2.2.1.1, pk_mul]
  refine ⟨hR.1.1, kp_cbegin (base := hgB L) (by omega) hS.1 hn ho (by omega) (by omega) (la_k7 hR) hR.1.2.2.2.2.2.1 hS.2.1 (fun B N hFB hW => ⟨rfl, (cb_sl hFB).ext (slT_ok hS), ?_⟩)⟩
  have hWB := hW 3 (by decide) (by decide) (by omega)
  have hlen : ((enB 3 L.1 o (2 * m) L.1 0 0).filter (vlB (hgB L) 3 L.1 o (2 * m))).length ≤ 400000 := Nat.le_trans (List.length_filter_le _ _) (Nat.le_trans (enB_len _ _ _) (wE_dec8 _ (by omega) _ (by omega)))
  have eany : (enB 3 L.1 o (2 * m) L.1 0 0).any (okH L o (2 * m)) = ((enB 3 L.1 o (2 * m) L.1 0 0).filter (vlB (hgB L) 3 L.1 o (2 * m))).any (fun x => cpB L (sOB 3 L.1 x o) (2 * m) 5 0) := by
    rw [List.any_filter]
    refine any_congr2 (fun x hx => ?_)
    rw [vl_hang (enB3_nu (by omega) hx)]
    rfl
  rw [eany] at h
  have hall : ∀ x, x ∈ (enB 3 L.1 o (2 * m) L.1 0 0).filter (vlB (hgB L) 3 L.1 o (2 * m)) → nuF 3 L.1 x o L.1 = some (2 * m) := fun x hx => enB3_nu (by omega) (List.mem_filter.mp hx).1
  generalize (enB 3 L.1 o (2 * m) L.1 0 0).filter (vlB (hgB L) 3 L.1 o (2 * m)) = ls at hWB hlen h hall
  have key : ∀ xs i (C : Mem), i + xs.length ≤ 400000 → Frr slS slT M C → cuW C 29 (la + 7) (hgB L) 3 L.1 o (2 * m) N xs → (∀ x, x ∈ xs → nuF 3 L.1 x o L.1 = some (2 * m)) → ls.any (fun x => cpB L (sOB 3 L.1 x o) (2 * m) 5 0) = xs.any (fun x => cpB L (sOB 3 L.1 x o) (2 * m) 5 0) → WA X d 0 0 m_X1_canHalve 33 [some (vR a), some (vI (nI i))] [] C Q := by
    intro xs
    induction xs with
    | nil =>
      intro i C hi hF hWC hal he
      have hGC := hG.ext (hF.ext (slT_ok hS))
      have hi : i + 0 ≤ 400000 := hi
      refine b_X1_canHalve_33 hGC (by omega) ⟨fun q => absurd (by rw [na_le (by decide) (by omega)] at q; omega) (id : False → False), fun _ => ?_⟩
      refine kp_next (by omega) hWC (fun hx D hFD hBD => ⟨_, rfl, hFD.ext, fun _ => ?_, fun q => absurd rfl q⟩) (fun x xs hx => by cases hx)
      have h9 := h D (hF.trans (cuS_sl hFD))
      rw [he] at h9; exact h9
    | cons x xs ih =>
      intro i C hi hF hWC hal he
      have hGC := hG.ext (hF.ext (slT_ok hS))
      simp only [List.length_cons] at hi
      refine b_X1_canHalve_33 hGC (by omega) ⟨fun q => absurd (by rw [na_le (by decide) (by omega)] at q; omega) (id : False → False), fun _ => ?_⟩
      refine kp_next (by omega) hWC (fun hx => by cases hx) (fun x' xs' hx D hFD hWD hXD hpD => ⟨_, rfl, hFD.ext, fun q => absurd q (by decide), fun _ => ?_⟩)
      cases hx
      have hFD2 := hF.trans (cuS_sl (T := slT) hFD)
      have hRD := hR.rr hFD2 (slT_ok hS) (sl_la hla)
      have hSD := hS.rr hFD2 (slT_ok hS) sl_no18
      rw [hFD2.r (nslT ha), h2, hFD2.i (nsl ha), h9]
      refine kp_joinOf (pl := 0) (g := 0) (by omega) hla hRD hSD hm.2 (by decide) (by decide) (hal x (by simp)) (by decide) hSD.1.k0 hpD (fun E hFE hJE => ⟨_, rfl, (ji_sl hFE).ext (slT_ok hSD), ?_⟩)
      have hFE2 := hFD2.trans (ji_sl hFE)
      rw [bI_0]
      rw [List.any_cons] at he
      have hw := joW_some (L := L) (P := sOB 3 L.1 x o) (NU := pcut L x o) (g := 0) (pl := 0) hm.2 (by decide)
      rw [hw]
      refine ⟨fun q => ?_, fun q => ?_⟩
      · rw [nI_add]
        rw [q, Bool.false_or] at he
        refine ih (i + 1) E (by omega) hFE2 (hWD.rr hFE (jiT_ok hSD.2.2.o) (fun w => by unfold jiT at w; omega) (fun c k hc w => by unfold jiS at w; omega)) (fun x hx => hal x (by simp [hx])) he
      · have h9 := h E hFE2
        have q : cpB L (sOB 3 L.1 x o) (2 * m) 5 0 = true := by simpa using q
        rw [he, q, Bool.true_or] at h9; exact h9
  exact key ls 0 B (by omega) (cb_sl hFB) hWB hall rfl
end ROUND
