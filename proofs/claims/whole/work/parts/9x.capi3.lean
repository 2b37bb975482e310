/-! THE CLASS: the object is asked, on -/
section API
variable {X : Cx} {d : Nat} {M : Mem} {s : StT} {T : AdT} {Q : Option AV → Mem → Prop}
theorem far_b {L : LandT} (hO : LdOK L) (c q : Nat) : farU L c q < 20000 ∧ 1 ≤ farD L ∧ farD L < 20000 := by
  have hs4 := hO.2.1
  have hw := wiL_le L c q
  have v := fun k => allV_le hO.1.2 hO.2.2.2.2.1 k
  have v0 := v 0
  have v1 := v 1
  have v2 := v 2
  have vk := v q
  have hN : allN L ≤ 2673 := by unfold allN; omega
  have m1 : wiL L c q * allN L ≤ 4 * 2673 := Nat.mul_le_mul (by omega) hN
  have m2 : allV L q * L.2.1 ≤ 891 * 4 := Nat.mul_le_mul vk (by omega)
  have m3 : L.2.1 * allN L ≤ 4 * 2673 := Nat.mul_le_mul (by omega) hN
  refine ⟨by unfold farU; omega, ?_, ?_⟩
  · unfold farD
    split
    · omega
    · exact Nat.mul_pos hs4.1 (by omega)
  · unfold farD
    split <;> omega
theorem kp10_far {l x p w : Int32} (hd : 6 ≤ d) (h : CI M s T) (hq : ansQ M s T Q (aFar (sNl s) (sLs s) l x p w)) : Cl X d 0 0 m_X10_far [vR 1, vI l, vI x, vI p, vI w] M Q := by
  unfold aFar at hq
  refine e_X10_far (b_X10_far_0 h.1.1 (by omega) (kp_withLawful (by omega) h (fun e B hB hO => ⟨_, rfl, hO.2.2, fun _ => ?_, fun z => absurd rfl z⟩) (fun k c B e hk hc hj hB hO hR h14 hp => ⟨_, rfl, hO.2.2, fun z => absurd z (by have := h.lo hk; omega), fun _ => kp_isParty ⟨_, rfl, Ext.refl _, fun z => ?_, fun z => ?_⟩⟩)))
  · rw [e] at hq
    cases hp : inN p 3 with
    | none => rw [hp] at hq; exact hq B hB hO
    | some q =>
      rw [hp] at hq
      cases hw : inN w 2 with
      | none => rw [hw] at hq; exact hq B hB hO
      | some v => rw [hw] at hq; exact hq B hB hO
  · rw [bI_0] at z
    cases hp3 : inN p 3 with
    | none => rw [hp3] at hq; exact hq B hB hO
    | some q => rw [hp3] at z; cases z
  · rw [bI_n0] at z
    cases hp3 : inN p 3 with
    | none => rw [hp3] at z; cases z
    | some q =>
      obtain ⟨e4, e5⟩ := inN_some (by decide) hp3
      rw [hp3] at hq
      dsimp only at hq
      have no : (w.toInt < 0 ∨ (2 : Int) ≤ w.toInt) → inN w 2 = none := fun q => by unfold inN; rw [if_neg (by omega)]
      rw [toI_lt0, leI_n (n := 1) (by decide)]
      refine ⟨fun q2 => ?_, fun q0 => ⟨fun q2 => ?_, fun q2 => ?_⟩⟩
      · rw [no (Or.inl q2)] at hq; exact hq B hB hO
      · have e3 : inN w 2 = some w.toInt.toNat := by unfold inN; rw [if_pos (by omega)]
        obtain ⟨e6, e7⟩ := inN_some (by decide) e3
        rw [e3, e] at hq
        dsimp only at hq
        generalize w.toInt.toNat = v at e6 e7 hq
        obtain ⟨f1, f2, f3⟩ := far_b hR.2.2 c q
        have g1 := Nat.gcd_pos_of_pos_left (farU (sLs s k) c q) f2
        have g2 := Nat.gcd_le_left (farU (sLs s k) c q) f2
        rw [e4, e6]
        refine ⟨hR.1.1, kp_wins (f := fun i => seL (sLs s k) c i) (by omega) hR hB.1.1.k16 (by omega) (fun i hi => ⟨sOB_lt _ _ _ _ _, hp i hi⟩) ⟨_, rfl, Ext.refl _, ?_⟩⟩
        refine kp_farUpper (c := c) (by omega) hR e5 ⟨_, rfl, Ext.refl _, kp_farLower (by omega) hR ⟨_, rfl, Ext.refl _, kp_common f1 (by omega) ⟨_, rfl, Ext.refl _, ?_⟩⟩⟩
        have nz : ¬ nI (Nat.gcd (farD (sLs s k)) (farU (sLs s k) c q)) = nI 0 := fun z => by rw [na_eq (by omega) (by decide)] at z; omega
        rw [na_le (by decide) (by omega), na_eq (by omega) (by decide), pk_div (by omega) (by omega) (by omega), pk_div (by omega) (by omega) (by omega)]
        unfold farL at hq
        refine ⟨fun _ => ⟨fun z => ⟨nz, ?_⟩, fun z => ⟨nz, ?_⟩⟩, fun z => absurd g1 z⟩
        · rw [if_neg z] at hq; exact hq B hB hO
        · rw [if_pos z] at hq; exact hq B hB hO
      · rw [no (Or.inr (by omega))] at hq; exact hq B hB hO
theorem kp10_told {l w : Int32} (hd : 3 ≤ d) (h : CI M s T) (hq : ansQ M s T Q (aTold (sNl s) (sLs s) l w)) : Cl X d 0 0 m_X10_told [vR 1, vI l, vI w] M Q := by
  unfold aTold at hq
  refine e_X10_told (b_X10_told_0 h.1.1 (by omega) (kp_landAt h (fun e => ⟨_, rfl, Ext.refl _, fun z => absurd rfl z, fun _ => ?_⟩) (fun k e hk => ⟨_, rfl, Ext.refl _, fun _ => ?_, fun z => absurd z (by have := h.lo hk; omega)⟩)))
  · rw [e] at hq; exact hq M h OFr.refl
  · rw [e] at hq
    dsimp only at hq
    obtain ⟨hC, -⟩ := h.2.2.2.1 k hk
    have hO := h.1.2.2.1.2 k hk
    obtain ⟨k0, k1, k2, k3, k4⟩ := hC.2.2.1
    have yes : ∀ v : Nat, v < 7 → w.toInt = (v : Int) → inN w 7 = some v := fun v hv he => by unfold inN; rw [if_pos (by omega), he]; rfl
    have vin : ∀ v : Nat, v < 3 → w.toInt = ((v + 4 : Nat) : Int) → WA X d 0 0 m_X10_told 76 [some (vR 1), none, some (vI w), some (vR (aLa T k))] [] M Q := fun v hv he => by
      rw [yes (v + 4) (by omega) he] at hq
      dsimp only at hq
      rw [if_neg (by omega), if_neg (by omega), if_neg (by omega), if_neg (by omega), Nat.add_sub_cancel] at hq
      have ew : w = nI (v + 4) := by rw [← Int32.toInt_inj, he, nI_toInt (by omega)]
      refine b_X10_told_76 h.1.1 (by omega) ⟨hC.1, ?_⟩
      rw [ew, na_sub (by omega), Nat.add_sub_cancel]
      exact kp_votesInAll hC hO hv ⟨_, rfl, Ext.refl _, hq M h OFr.refl⟩
    refine ⟨fun z => ?_, fun z => ⟨hC.1, ?_⟩, fun z => ⟨hC.1, ?_⟩, fun z => ⟨hC.1, ?_⟩, fun z => ⟨hC.1, ?_⟩, fun z => vin 0 (by decide) z, fun z => vin 1 (by decide) z, fun z => vin 2 (by decide) z⟩
    · have : inN w 7 = none := by unfold inN; rw [if_neg (by omega)]
      rw [this] at hq; exact hq M h OFr.refl
    · rw [yes 0 (by decide) z] at hq; rw [k0]; exact hq M h OFr.refl
    · rw [yes 1 (by decide) z] at hq; rw [k1]; exact hq M h OFr.refl
    · rw [yes 2 (by decide) z] at hq; rw [k2]; exact hq M h OFr.refl
    · rw [yes 3 (by decide) z] at hq; rw [k3]; exact hq M h OFr.refl
theorem CI.lg {g : Nat} (h : CI M s T) (hg : g < sNg s) : 105 ≤ aGa T g := by
  have hse := h.2.2.2.2.2.2.2.2.2
  exact hse.lo ((hse.2.2.2.1 g hg).1 0 (by omega)) (by omega)
theorem CI.lp {p : Nat} (h : CI M s T) (hp : p < sNp s) : 105 ≤ aPa T p := by
  have hse := h.2.2.2.2.2.2.2.2.2
  exact hse.lo ((hse.2.2.1 p hp).1 0 (by omega)) (by omega)
/-- what stands of a game of the object -/
theorem CI.gm {g : Nat} (h : CI M s T) (hg : g < sNg s) : ((sGs s g).1 < sNl s ∧ (sGs s g).2.1 < sNp s) ∧ LdOK (sLs s (sGs s g).1) ∧ ProOK (sPs s (sGs s g).2.1) ∧ lgM (sLs s (sGs s g).1) (sPs s (sGs s g).2.1) (sGs s g).2.2 ∧ GOK (sLs s (sGs s g).1) (sPs s (sGs s g).2.1) (gmO s g) ∧ (sGs s g).2.2.length + muG (sLs s (sGs s g).1) (gmO s g) ≤ 2 * (sLs s (sGs s g).1).2.1 := by
  obtain ⟨a, b, c⟩ := h.1.2.2.2.2.2 g hg
  have hL := h.1.2.2.1.2 _ a
  have hP := h.1.2.2.2.1.2 _ b
  obtain ⟨p1, p2, p3⟩ := pl_ok hL hP _ _ rfl c
  exact ⟨⟨a, b⟩, hL, hP, c, p1, p3⟩
theorem kp10_phase {g : Int32} (hd : 1 ≤ d) (h : CI M s T) (hq : ansQ M s T Q (aPhase s g)) : Cl X d 0 0 m_X10_phase [vR 1, vI g] M Q := by
  unfold aPhase at hq
  refine e_X10_phase (b_X10_phase_0 h.1.1 (by omega) (kp_gameAt h (fun e => ⟨_, rfl, Ext.refl _, fun z => absurd rfl z, fun _ => ?_⟩) (fun k e hk => ⟨_, rfl, Ext.refl _, fun _ => ?_, fun z => absurd z (by have := h.lg hk; omega)⟩)))
  · rw [e] at hq; exact hq M h OFr.refl
  · rw [e] at hq
    have hA := h.2.2.2.2.2.1 k hk
    refine ⟨hA.1.1, ?_⟩
    rw [hA.2.2.2.1]
    exact hq M h OFr.refl
theorem kp10_turn {g : Int32} (hd : 3 ≤ d) (h : CI M s T) (hq : ansQ M s T Q (aTurn s g)) : Cl X d 0 0 m_X10_turn [vR 1, vI g] M Q := by
  unfold aTurn at hq
  refine e_X10_turn (b_X10_turn_0 h.1.1 (by omega) (kp_gameAt h (fun e => ⟨_, rfl, Ext.refl _, fun z => absurd rfl z, fun _ => ?_⟩) (fun k e hk => ⟨_, rfl, Ext.refl _, fun _ => ?_, fun z => absurd z (by have := h.lg hk; omega)⟩)))
  · rw [e] at hq; exact hq M h OFr.refl
  · rw [e] at hq
    have hA := h.2.2.2.2.2.1 k hk
    obtain ⟨⟨a, b⟩, hL, hP, hlg, hK, -⟩ := h.gm hk
    exact ⟨hA.1.1, kp_mover (by omega) hA (h.2.2.2.2.1 _ b) hP hK hL ⟨_, rfl, Ext.refl _, hq M h OFr.refl⟩⟩
theorem kp10_kept {g i : Int32} (hd : 1 ≤ d) (h : CI M s T) (hq : ansQ M s T Q (aKept s g i)) : Cl X d 0 0 m_X10_kept [vR 1, vI g, vI i] M Q := by
  unfold aKept at hq
  refine e_X10_kept (b_X10_kept_0 h.1.1 (by omega) (kp_gameAt h (fun e => ⟨_, rfl, Ext.refl _, fun z => absurd rfl z, fun _ => ?_⟩) (fun k e hk => ⟨_, rfl, Ext.refl _, fun _ => ?_, fun z => absurd z (by have := h.lg hk; omega)⟩)))
  · rw [e] at hq; exact hq M h OFr.refl
  · rw [e] at hq
    dsimp only at hq
    have hA := h.2.2.2.2.2.1 k hk
    obtain ⟨⟨a, b⟩, hL, hP, hlg, hK, -⟩ := h.gm hk
    have hs4 := hL.2.1
    have hlen := hK.2.2.1
    rw [hA.2.2.1.1.1]
    refine ⟨fun z => ?_, fun z => ⟨hA.1.1, ?_⟩⟩
    · rw [if_neg z] at hq
      have no : (i.toInt < 0 ∨ ((gKe (gmO s k)).length : Int) ≤ i.toInt) → inN i (gKe (gmO s k)).length = none := fun q => by unfold inN; rw [if_neg (by omega)]
      rw [toI_lt0, n_leI (by omega)]
      refine ⟨fun q => ?_, fun q0 => ⟨hA.1.1, fun q => ?_, fun q => ?_⟩⟩
      · rw [no (Or.inl q)] at hq; exact hq M h OFr.refl
      · rw [no (Or.inr q)] at hq; exact hq M h OFr.refl
      · have e3 : inN i (gKe (gmO s k)).length = some i.toInt.toNat := by unfold inN; rw [if_pos (by omega)]
        obtain ⟨e4, e5⟩ := inN_some (by omega) e3
        rw [e3] at hq
        dsimp only at hq
        generalize i.toInt.toNat = j at e4 e5 hq
        have hgj : (gKe (gmO s k))[j]? = some ((gKe (gmO s k))[j]'e5) := List.getElem?_eq_getElem e5
        have ed : (gKe (gmO s k)).getD j 0 = (gKe (gmO s k))[j]'e5 := by simp only [List.getD]; rw [hgj]; rfl
        have := hA.2.2.1.1.2 j _ hgj
        rw [Nat.zero_add] at this
        rw [e4, na_ix (by omega), this, ← ed]
        exact ⟨na_in (by omega) (by decide), hq M h OFr.refl⟩
    · rw [if_pos z] at hq; exact hq M h OFr.refl
theorem kp10_count {w : Int32} (hd : 3 ≤ d) (h : CI M s T) (hq : ansQ M s T Q (aCount s w)) : Cl X d 0 0 m_X10_count [vR 1, vI w] M Q := by
  unfold aCount at hq
  have yes : ∀ v : Nat, v < 5 → w.toInt = (v : Int) → inN w 5 = some v := fun v hv he => by unfold inN; rw [if_pos (by omega), he]; rfl
  refine e_X10_count (b_X10_count_0 h.1.1 (by omega) ⟨fun z => ?_, fun z => ?_, fun z => ?_, fun z => ?_, fun z => ?_, fun z => ?_⟩)
  · have : inN w 5 = none := by unfold inN; rw [if_neg (by omega)]
    rw [this] at hq; exact hq M h OFr.refl
  · rw [yes 0 (by decide) z] at hq; rw [h.2.2.1.1.1]; exact hq M h OFr.refl
  · rw [yes 1 (by decide) z] at hq; rw [h.2.2.1.1.2.1]; exact hq M h OFr.refl
  · rw [yes 2 (by decide) z] at hq; rw [h.2.2.1.1.2.2]; exact hq M h OFr.refl
  · rw [yes 3 (by decide) z] at hq
    have hq : ansQ M s T Q (nI (ovN s)) := hq
    have h8 := h.1.2.2.2.2.1
    have key : ∀ r i, i + r = sNg s → WA X (d - 1) 0 0 m_X10_gamesOver 4 [some (vR 1), some (vI (nI (smF i (fun g => if 7 < gPh (gmO s g) then 1 else 0)))), some (vI (nI i)), none] [] M (fun r M1 => ∃ x1 : Int32, r = some (vI x1) ∧ Ext M M1 ∧ Q (some (vI x1)) M1) := by
      intro r
      induction r with
      | zero =>
        intro i hi
        obtain rfl : i = sNg s := by omega
        exact b_X10_gamesOver_4 h.1.1 (by omega) ⟨fun _ => ⟨_, rfl, Ext.refl _, hq M h OFr.refl⟩, fun q => absurd (by rw [h.2.2.1.1.2.2]; exact Int32.le_refl _) q⟩
      | succ r ih =>
        intro i hi
        have hn := ih (i + 1) (by omega)
        have hA := h.2.2.2.2.2.1 i (by omega)
        obtain ⟨-, -, -, -, hK, -⟩ := h.gm (show i < sNg s by omega)
        have e : smF (i + 1) (fun g => if 7 < gPh (gmO s g) then 1 else 0) = smF i (fun g => if 7 < gPh (gmO s g) then 1 else 0) + (if 7 < gPh (gmO s i) then 1 else 0) := rfl
        refine b_X10_gamesOver_4 h.1.1 (by omega) ⟨fun q => absurd (by rw [h.2.2.1.1.2.2, na_le (by omega) (by omega)] at q; omega) (id : False → False), fun _ => ?_⟩
        have eI : inN (nI i) (sNg s) = some i := inN_nI (by omega) (by omega)
        refine kp_gameAt h (fun e2 => by rw [eI] at e2; cases e2) (fun k e2 hk => ⟨_, rfl, Ext.refl _, fun z => absurd z (by have := h.lg hk; omega), fun _ => ?_⟩)
        obtain rfl : i = k := Option.some.inj (eI.symm.trans e2)
        refine ⟨hA.1.1, kp_isOver hA.1.1 hA.2.2.2.1 hK.1 ⟨_, rfl, Ext.refl _, ?_⟩⟩
        rw [bI_0, nI_add]
        refine ⟨fun q => ?_, fun q => ?_⟩
        · rw [e, if_neg (of_decide_eq_false q), Nat.add_zero] at hn; exact hn
        · rw [e, if_pos (by simpa using q)] at hn
          rw [nI_add]; exact hn
    exact e_X10_gamesOver (b_X10_gamesOver_0 h.1.1 (key (sNg s) 0 (by omega)))
  · rw [yes 4 (by decide) z] at hq; rw [h.2.1.2.1]; exact hq M h OFr.refl
end API
