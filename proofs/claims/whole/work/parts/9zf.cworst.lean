/-! THE CLASS: the worst land, and what is worse -/
def fuE (L : LandT) (P : ProT) : Int32 := match enL L P with
  | none => -1
  | some c => nI (farU L c 0)
/-- the farthest so far, in its own numbers -/
def wrI (acc : Option (Nat × Nat × Nat)) (x2 x3 x4 : Int32) : Prop := match acc with
  | none => x2 = -1
  | some b => ∃ g, 1 ≤ g ∧ b.1 < 6 ∧ x2 = nI b.1 ∧ (x3 = nI (b.2.1 * g) ∧ b.2.1 * g < 20000) ∧ (x4 = nI (b.2.2 * g) ∧ b.2.2 * g < 20000)
theorem fr_un {L : LandT} (hO : LdOK L) (c : Nat) : ∃ g, 1 ≤ g ∧ farL L c 0 0 * g = farU L c 0 ∧ farL L c 0 1 * g = farD L := by
  obtain ⟨f1, f2, f3⟩ := far_b hO c 0
  refine ⟨Nat.gcd (farD L) (farU L c 0), Nat.gcd_pos_of_pos_left _ f2, ?_, ?_⟩
  · unfold farL
    rw [if_pos rfl]
    exact Nat.div_mul_cancel (Nat.gcd_dvd_right _ _)
  · unfold farL
    rw [if_neg (by decide)]
    exact Nat.div_mul_cancel (Nat.gcd_dvd_left _ _)
theorem cr_lt {a b c e g k : Nat} (hg : 1 ≤ g) (hk : 1 ≤ k) : (a * g) * (b * k) < (c * k) * (e * g) ↔ a * b < c * e := by
  have e1 : (a * g) * (b * k) = (a * b) * (g * k) := by rw [Nat.mul_mul_mul_comm]
  have e2 : (c * k) * (e * g) = (c * e) * (g * k) := by rw [Nat.mul_mul_mul_comm, Nat.mul_comm k g]
  rw [e1, e2]
  exact Nat.mul_lt_mul_right (Nat.mul_pos hg hk)
section WORSTC
variable {X : Cx} {d : Nat} {M : Mem} {s : StT} {T : AdT} {Q : Option AV → Mem → Prop}
theorem kp_farOfEnd {l p : Nat} (hd : 8 ≤ d) (h : CI M s T) (hl : l < sNl s) (hp : p < sNp s) (hq : ∀ B, CI B s T → OFr M B → (enL (sLs s l) (sPs s p) ≠ none → laR B (aLa T l) (sLs s l)) → Q (some (vI (fuE (sLs s l) (sPs s p)))) B) : Cl X d 0 0 m_X10_farOfEnd [vR 1, vI (nI l), vI (edI (sLs s l) (sPs s p))] M Q := by
  have h6 := h.1.2.2.1.1
  have hO0 := h.1.2.2.1.2 l hl
  have hP := h.1.2.2.2.1.2 p hp
  have h49 : 4 ^ (sLs s l).1 ≤ 4 ^ 9 := Nat.pow_le_pow_right (by decide) hO0.1.2
  have h49e : (4 : Nat) ^ 9 = 262144 := rfl
  have eE : inN (nI l) (sNl s) = some l := inN_nI (by omega) hl
  have hw : wlN (sNl s) (sLs s) (nI l) (edI (sLs s l) (sPs s p)) = (enL (sLs s l) (sPs s p)).map (fun c => (l, c)) := by
    unfold wlN lcN
    rw [eE]
    dsimp only
    cases hc : enL (sLs s l) (sPs s p) with
    | none =>
      have e1 : edI (sLs s l) (sPs s p) = -1 := by unfold edI; rw [hc]
      have e2 : inN (-1) (4 ^ (sLs s l).1) = none := by unfold inN; rw [if_neg (fun q => absurd q.1 (by decide))]
      rw [e1, e2]; rfl
    | some c =>
      obtain ⟨hc4, hj⟩ := enL_ok hO0 hP hc
      have e1 : edI (sLs s l) (sPs s p) = nI c := by unfold edI; rw [hc]
      rw [e1, inN_nI (by omega) hc4]
      dsimp only
      rw [if_pos hj]; rfl
  refine e_X10_farOfEnd (b_X10_farOfEnd_0 h.1.1 (by omega) (kp_withLawful (by omega) h (fun e B hB hO => ⟨_, rfl, hO.2.2, fun z => absurd rfl z, fun _ => ?_⟩) (fun k c B e hk hc hj hB hO hR h14 hps => ⟨_, rfl, hO.2.2, fun _ => ?_, fun z => absurd z (by have := h.lo hk; omega)⟩)))
  · rw [hw] at e
    have hn : enL (sLs s l) (sPs s p) = none := by
      cases hc : enL (sLs s l) (sPs s p) with
      | none => rfl
      | some c => rw [hc] at e; cases e
    have := hq B hB hO (fun w => absurd hn w)
    unfold fuE at this
    rw [hn] at this; exact this
  · rw [hw] at e
    cases hn : enL (sLs s l) (sPs s p) with
    | none => rw [hn] at e; cases e
    | some c2 =>
      rw [hn] at e
      have e : some (l, c2) = some (k, c) := e
      obtain ⟨rfl, rfl⟩ : l = k ∧ c2 = c := by simpa using e
      refine ⟨hR.1.1, kp_wins (f := fun i => seL (sLs s l) c2 i) (by omega) hR hB.1.1.k16 (by omega) (fun i hi => ⟨sOB_lt _ _ _ _ _, hps i hi⟩) ⟨_, rfl, Ext.refl _, kp_farUpper (c := c2) (by omega) hR (by decide) ⟨_, rfl, Ext.refl _, ?_⟩⟩⟩
      have := hq B hB hO (fun _ => hR)
      unfold fuE at this
      rw [hn] at this; exact this
theorem kp10_worst {p : Int32} (hd : 30 ≤ d) (h : CI M s T) (hq : ansQ M s T Q (aWorst s p)) : Cl X d 0 0 m_X10_worst [vR 1, vI p] M Q := by
  have h6 := h.1.2.2.1.1
  have h8 := h.1.2.2.2.1.1
  unfold aWorst at hq
  refine e_X10_worst (b_X10_worst_0 h.1.1 (by omega) (kp_protocolAt h (fun e => ⟨_, rfl, Ext.refl _, fun z => absurd rfl z, fun _ => ?_⟩) (fun j e hj => ⟨_, rfl, Ext.refl _, fun _ => ?_, fun z => absurd z (by have := h.lp hj; omega)⟩)))
  · rw [e] at hq; exact hq M h OFr.refl
  rw [e] at hq
  dsimp only at hq
  obtain ⟨a1, -⟩ := inN_some (by omega) e
  rw [a1]
  have key : ∀ r i (B : Mem) (x2 x3 x4 : Int32), i + r = sNl s → CI B s T → OFr M B → wrI (wrR (sLs s) (sPs s j) i) x2 x3 x4 → WA X d 0 0 m_X10_worst 20 [some (vR 1), some (vI (nI j)), some (vI x2), some (vI x3), some (vI x4), some (vI (nI i)), none, none, none] [] B Q := by
    intro r
    induction r with
    | zero =>
      intro i B x2 x3 x4 hi hB hOB hw
      obtain rfl : i = sNl s := by omega
      refine b_X10_worst_20 hB.1.1 (by omega) ⟨fun _ => ?_, fun q => absurd (by rw [hB.2.2.1.1.1]; exact Int32.le_refl _) q⟩
      have := hq B hB hOB
      cases ha : wrR (sLs s) (sPs s j) (sNl s) with
      | none =>
        rw [ha] at hw this
        have hw : x2 = -1 := hw
        rw [hw]; exact this
      | some b =>
        rw [ha] at hw this
        obtain ⟨g, -, -, w3, -⟩ := hw
        rw [w3]; exact this
    | succ r ih =>
      intro i B x2 x3 x4 hi hB hOB hw
      have hil : i < sNl s := by omega
      have hO := hB.1.2.2.1.2 i hil
      refine b_X10_worst_20 hB.1.1 (by omega) ⟨fun q => absurd (by rw [hB.2.2.1.1.1, na_le (by omega) (by omega)] at q; omega) (id : False → False), fun _ => ?_⟩
      refine kp_endOf (by omega) hB hil hj (fun C hC hOC => ⟨_, rfl, hOC.2.2, kp_farOfEnd (by omega) hC hil hj (fun D hD hOD hR => ⟨_, rfl, hOD.2.2, kp_landAt hD (fun eN => by rw [inN_nI (by omega) hil] at eN; cases eN) (fun k eN hk => ⟨_, rfl, Ext.refl _, fun z => absurd z (by have := hD.lo hk; omega), fun _ => ?_⟩)⟩)⟩)
      obtain rfl : i = k := Option.some.inj ((inN_nI (by omega) hil).symm.trans eN)
      have hOM := (hOB.trans hOC).trans hOD
      have ei : wrR (sLs s) (sPs s j) (i + 1) = match frL (sLs s i) (sPs s j) with
        | none => wrR (sLs s) (sPs s j) i
        | some e => match wrR (sLs s) (sPs s j) i with
          | none => some (i, e.1, e.2)
          | some b => if b.2.1 * e.2 < e.1 * b.2.2 then some (i, e.1, e.2) else some b := rfl
      rw [nI_add]
      cases hc : enL (sLs s i) (sPs s j) with
      | none =>
        have e2 : fuE (sLs s i) (sPs s j) = -1 := by unfold fuE; rw [hc]
        have e3 : frL (sLs s i) (sPs s j) = none := by unfold frL; rw [hc]
        rw [e3] at ei
        rw [e2]
        exact ⟨fun z => absurd rfl z, fun _ => ih (i + 1) D x2 x3 x4 (by omega) hD hOM (by rw [ei]; exact hw)⟩
      | some c =>
        have e2 : fuE (sLs s i) (sPs s j) = nI (farU (sLs s i) c 0) := by unfold fuE; rw [hc]
        have e3 : frL (sLs s i) (sPs s j) = some (farL (sLs s i) c 0 0, farL (sLs s i) c 0 1) := by unfold frL; rw [hc]
        obtain ⟨G, g1, g2, g3⟩ := fr_un hO c
        obtain ⟨f1, f2, f3⟩ := far_b hO c 0
        have hR := hR (by rw [hc]; simp)
        rw [e3] at ei
        dsimp only at ei
        rw [e2]
        refine ⟨fun _ => ⟨hR.1.1, kp_farLower (by omega) hR ⟨_, rfl, Ext.refl _, ?_⟩⟩, fun z => absurd z (na_m1 (by omega))⟩
        have new : wrR (sLs s) (sPs s j) (i + 1) = some (i, farL (sLs s i) c 0 0, farL (sLs s i) c 0 1) → WA X d 0 0 m_X10_worst 90 [some (vR 1), some (vI (nI j)), none, none, none, some (vI (nI i)), some (vI (nI (farU (sLs s i) c 0))), none, some (vI (nI (farD (sLs s i))))] [] D Q := fun w => by
          refine b_X10_worst_90 hD.1.1 ?_
          rw [nI_add]
          refine ih (i + 1) D _ _ _ (by omega) hD hOM ?_
          rw [w]
          exact ⟨G, g1, by dsimp only; omega, rfl, ⟨by rw [g2], by dsimp only; omega⟩, ⟨by rw [g3], by dsimp only; omega⟩⟩
        cases ha : wrR (sLs s) (sPs s j) i with
        | none =>
          rw [ha] at ei hw
          have hw : x2 = -1 := hw
          exact ⟨fun _ => new ei, fun z => absurd hw z⟩
        | some b =>
          rw [ha] at ei hw
          dsimp only at ei
          obtain ⟨g, w1, w2, w3, ⟨w4, w5⟩, w6, w7⟩ := hw
          have m1 : farU (sLs s i) c 0 * (b.2.2 * g) ≤ 20000 * 20000 := Nat.mul_le_mul (by omega) (by omega)
          have m2 : b.2.1 * g * farD (sLs s i) ≤ 20000 * 20000 := Nat.mul_le_mul (by omega) (by omega)
          have hcr : b.2.1 * farL (sLs s i) c 0 1 < farL (sLs s i) c 0 0 * b.2.2 ↔ b.2.1 * g * farD (sLs s i) < farU (sLs s i) c 0 * (b.2.2 * g) := by
            rw [← g2, ← g3]
            exact (cr_lt w1 g1).symm
          refine ⟨fun z => absurd (w3.symm.trans z) (na_m1 (by omega)), fun _ => ?_⟩
          rw [w4, w6, pk_mul, pk_mul, na_le (by omega) (by omega)]
          refine ⟨fun z => ?_, fun z => ?_⟩
          · rw [if_neg (fun y => by have := hcr.mp y; omega)] at ei
            rw [← w4, ← w6]
            refine ih (i + 1) D _ _ _ (by omega) hD hOM ?_
            rw [ei]
            exact ⟨g, w1, w2, w3, ⟨w4, w5⟩, w6, w7⟩
          · rw [if_pos (hcr.mpr (by omega))] at ei
            exact new ei
  exact key (sNl s) 0 M _ _ _ (by omega) h OFr.refl rfl
theorem fu_ws {L : LandT} {P P' : ProT} (hO : LdOK L) (hp' : fuE L P' ≠ -1) : (¬ fuE L P ≤ fuE L P') ↔ wsB L P P' = true := by
  unfold wsB fuE frL at *
  cases h2 : enL L P' with
  | none => rw [h2] at hp'; exact absurd rfl hp'
  | some c' =>
    cases h1 : enL L P with
    | none =>
      dsimp only
      have : (-1 : Int32) ≤ nI (farU L c' 0) := by
        rw [Int32.le_iff_toInt_le, nI_toInt (by have := (far_b hO c' 0).1; omega)]
        have : ((-1 : Int32)).toInt = -1 := by decide
        omega
      exact ⟨fun q => absurd this q, fun q => by cases q⟩
    | some c =>
      dsimp only
      obtain ⟨G, g1, g2, g3⟩ := fr_un hO c
      obtain ⟨G', g1', g2', g3'⟩ := fr_un hO c'
      obtain ⟨f1, f2, f3⟩ := far_b hO c 0
      have f1' := (far_b hO c' 0).1
      rw [na_le (by omega) (by omega), decide_eq_true_iff]
      have hcr := cr_lt (a := farL L c' 0 0) (b := farL L c 0 1) (c := farL L c 0 0) (e := farL L c' 0 1) g1' g1
      rw [g2, g2', g3, g3'] at hcr
      rw [← hcr, Nat.mul_lt_mul_right f2]
      omega
theorem kp10_worse {p p' : Int32} (hd : 30 ≤ d) (h : CI M s T) (hq : ansQ M s T Q (aWorse s p p')) : Cl X d 0 0 m_X10_worse [vR 1, vI p, vI p'] M Q := by
  have h6 := h.1.2.2.1.1
  have h8 := h.1.2.2.2.1.1
  unfold aWorse at hq
  refine e_X10_worse (b_X10_worse_0 h.1.1 (by omega) (kp_protocolAt h (fun e => ⟨_, rfl, Ext.refl _, fun _ => ?_, fun z => absurd rfl z⟩) (fun j e hj => ⟨_, rfl, Ext.refl _, fun z => absurd z (by have := h.lp hj; omega), fun _ => ?_⟩)))
  · rw [e] at hq; exact hq M h OFr.refl
  rw [e] at hq
  dsimp only at hq
  obtain ⟨a1, -⟩ := inN_some (by omega) e
  refine kp_protocolAt h (fun e2 => ⟨_, rfl, Ext.refl _, fun z => absurd rfl z, fun _ => ?_⟩) (fun k e2 hk => ⟨_, rfl, Ext.refl _, fun _ => ?_, fun z => absurd z (by have := h.lp hk; omega)⟩)
  · rw [e2] at hq; exact hq M h OFr.refl
  rw [e2] at hq
  dsimp only at hq
  obtain ⟨b1, -⟩ := inN_some (by omega) e2
  rw [a1, b1]
  have key : ∀ r i (B : Mem), i + r = sNl s → CI B s T → OFr M B → WA X d 0 0 m_X10_worse 23 [some (vR 1), some (vI (nI j)), some (vI (nI k)), some (vI (nI (mkS i (fun l => wsB (sLs s l) (sPs s j) (sPs s k))))), some (vI (nI i)), none, none] [] B Q := by
    intro r
    induction r with
    | zero =>
      intro i B hi hB hOB
      obtain rfl : i = sNl s := by omega
      exact b_X10_worse_23 hB.1.1 (by omega) ⟨fun _ => hq B hB hOB, fun q => absurd (by rw [hB.2.2.1.1.1]; exact Int32.le_refl _) q⟩
    | succ r ih =>
      intro i B hi hB hOB
      have hil : i < sNl s := by omega
      have hO := hB.1.2.2.1.2 i hil
      refine b_X10_worse_23 hB.1.1 (by omega) ⟨fun q => absurd (by rw [hB.2.2.1.1.1, na_le (by omega) (by omega)] at q; omega) (id : False → False), fun _ => ?_⟩
      refine kp_endOf (by omega) hB hil hj (fun C hC hOC => ⟨_, rfl, hOC.2.2, kp_farOfEnd (by omega) hC hil hj (fun D hD hOD _ => ⟨_, rfl, hOD.2.2, ?_⟩)⟩)
      refine kp_endOf (by omega) hD hil hk (fun E hE hOE => ⟨_, rfl, hOE.2.2, kp_farOfEnd (by omega) hE hil hk (fun F hF hOF _ => ⟨_, rfl, hOF.2.2, ?_⟩)⟩)
      have hOM := (((hOB.trans hOC).trans hOD).trans hOE).trans hOF
      rw [nI_add]
      have nx := ih (i + 1) F (by omega) hF hOM
      have no : wsB (sLs s i) (sPs s j) (sPs s k) = false → WA X d 0 0 m_X10_worse 23 [some (vR 1), some (vI (nI j)), some (vI (nI k)), some (vI (nI (mkS i (fun l => wsB (sLs s l) (sPs s j) (sPs s k))))), some (vI (nI (i + 1))), none, none] [] F Q := fun w => by
        simp only [mkS, w, Bool.false_eq_true, if_false] at nx
        exact nx
      refine ⟨fun z => no ?_, fun z => ⟨fun y => no ?_, fun y x5 e5 => ?_⟩⟩
      · have hn : enL (sLs s i) (sPs s k) = none := by
          cases hc : enL (sLs s i) (sPs s k) with
          | none => rfl
          | some c =>
            unfold fuE at z
            rw [hc] at z
            exact absurd z (na_m1 (by have := (far_b hO c 0).1; omega))
        unfold wsB frL
        rw [hn]
        cases enL (sLs s i) (sPs s j) <;> rfl
      · cases hb : wsB (sLs s i) (sPs s j) (sPs s k) with
        | false => rfl
        | true => exact absurd y ((fu_ws hO z).mpr hb)
      · have w := (fu_ws hO z).mp y
        rw [na_1shl (by omega), na_or] at e5
        have em : mkS (i + 1) (fun l => wsB (sLs s l) (sPs s j) (sPs s k)) = mkS i (fun l => wsB (sLs s l) (sPs s j) (sPs s k)) ||| 2 ^ i := by
          simp only [mkS, w, if_true]
        rw [em] at nx
        rw [e5]
        exact nx
  exact key (sNl s) 0 M (by omega) h OFr.refl
end WORSTC
