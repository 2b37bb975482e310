/-! THE CLASS: what a game allows, and back -/
section ASK
variable {X : Cx} {d a la pr : Nat} {L : LandT} {P : ProT} {M : Mem} {Q : Option AV → Mem → Prop}
theorem kp_isOver {ph : Nat} (hG : GaS M a) (h10 : mI M a 10 = nI ph) (hp : ph ≤ 9) (h : Q (some (vI (bI (decide (7 < ph))))) M) : Cl X d 0 0 m_X1_isOver [vR a] M Q := by
  refine e_X1_isOver (b_X1_isOver_0 hG ?_)
  rw [h10, na_eq (by omega) (by decide), na_eq (by omega) (by decide)]
  refine ⟨fun q => ?_, fun q => ⟨fun q2 => ?_, fun q2 => ?_⟩⟩
  · rw [decide_eq_true (by omega)] at h; exact h
  · rw [decide_eq_false (by omega)] at h; exact h
  · rw [decide_eq_true (by omega)] at h; exact h
theorem kp_mover {G : GamT} {mv : List Nat} (hd : 1 ≤ d) (hA : gaX M a la pr L G mv) (hP : prX M pr P) (hPO : ProOK P) (hK : GOK L P G) (hL : LdOK L) (h : Q (some (vI (if 7 < gPh G then -1 else nI (moF P false G)))) M) : Cl X d 0 0 m_X1_mover [vR a] M Q := by
  obtain ⟨hC, hM, hKx, hPx⟩ := hA
  obtain ⟨g1, g2, g3, g4, g5, g6, g7, g8, g9, g10, g11⟩ := hK
  have hs4 := hL.2.1
  refine e_X1_mover (b_X1_mover_0 hC.1 hd (kp_isOver hC.1 hPx.1 g1 ⟨_, rfl, Ext.refl _, fun q => ?_, fun q => ?_⟩))
  · rw [bI_n0] at q
    rw [if_pos (of_decide_eq_true q)] at h; exact h
  · rw [bI_0] at q
    have q := of_decide_eq_false q
    rw [if_neg q] at h
    obtain ⟨hle, htu⟩ := g8 (by omega)
    obtain ⟨p1, p2⟩ := hP.2 (gKe G).length (by omega)
    have hk1 := (hPO.2.2 ((gKe G).length % P.1)).1
    rw [hKx.1.1, na_lt (by omega) (by decide), hC.2.2]
    refine ⟨fun _ => ⟨hP.1, na_in (by omega) (by decide), fun x2 e2 => ?_⟩, fun w => absurd (by omega) w⟩
    rw [na_ix (by omega), p2, ← htu] at e2
    rw [← htu] at hk1
    rw [hPx.1, e2, na_eq (by omega) (by decide), na_eq (by omega) (by decide), na_eq (by omega) (by decide), na_sub (by omega)]
    unfold moF drF at h
    simp only [Bool.false_eq_true, if_false] at h
    refine ⟨fun w => ?_, fun w1 => ⟨fun w => ?_, fun w2 => ⟨fun w => ?_, fun w => ?_⟩⟩⟩
    · rw [if_pos (Or.inl w)] at h; exact h
    · rw [if_pos (Or.inr (Or.inl w))] at h; exact h
    · rw [if_neg (by omega)] at h; exact h
    · rw [if_pos (Or.inr (Or.inr w))] at h; exact h
/-- a legal cut or not, its parts in spare -/
theorem kp_ask {o m c : Nat} {x : Int32} (hd : 1 ≤ d) (hR : laR M la L) (ho : o < 2 ^ L.1) (hm : m ≤ 4) (hc : isK M c 14 8) (hca : ofa la c)
    (h : ∀ B, Fr (atS c) M B → (icB L x o m = true → ∀ s, s < m → mI B c s = nI (sOB 2 L.1 x.toInt.toNat o s)) → Q (some (vI (bI (icB L x o m)))) B) : Cl X d 0 0 m_X3_isLawfulCut [vR la, vI x, vI (nI o), vI (nI m), vR c] M Q := by
  have h512 := p9 hR.2.2.1.2
  have h49 : 4 ^ L.1 ≤ 4 ^ 9 := Nat.pow_le_pow_right (by decide) hR.2.2.1.2
  have h49e : (4 : Nat) ^ 9 = 262144 := rfl
  refine kp_isLawfulCut hd hR (by omega) (by omega) hc hca (fun hno B hF => ?_) (fun k hk hic B hF hB => ?_)
  · have := h B hF (fun w => by rw [hno] at w; cases w)
    rw [hno] at this; exact this
  · have e : icB L x o m = true := by
      unfold icB; rw [hk]; exact decide_eq_true hic
    have ek : x.toInt.toNat = k := by
      obtain ⟨e, hlt⟩ := inN_some (by omega) hk
      rw [e, toI_n (by omega)]; simp
    have := h B hF (fun _ => by rw [ek]; exact hB)
    rw [e] at this; exact this
/-- scratch of asking: the scout, the joiner, spare -/
def akS (a b k : Nat) : Prop := slS b k ∨ b = a + 4
theorem sp_ak {M B : Mem} {a : Nat} {T : Nat → Nat → Prop} (h : Fr (atS (a + 4)) M B) : Frr (akS a) T M B := (h.mono (fun b k q => Or.inr q)).rr
theorem sl_ak {M B : Mem} {a : Nat} (h : Frr slS slT M B) : Frr (akS a) slT M B := h.mono (fun b k q => Or.inl q) (fun b k q => q)
theorem ak_no {a b k : Nat} (h : 37 < b) (h2 : b ≠ a + 4) : ¬ akS a b k := fun q => by
  rcases q with q | q
  · exact nsl h q
  · exact h2 q
theorem kp_pHalves {o m : Nat} {x : Int32} (hd : 7 ≤ d) (ha : 37 < a) (hla : 37 < la) (hal : a + 4 < la ∨ la + 8 < a) (hR : laR M la L) (hS : scX M) (hC : gcX M a la pr) (k8 : mI M a 8 = nI o) (k9 : mI M a 9 = nI m) (ho : o < 2 ^ L.1) (hm : m ≤ 4)
    (h : ∀ B, Frr (akS a) slT M B → Q (some (vI (bI (ihB L x o m)))) B) : Cl X d 0 0 m_X1_permitsHalves [vR a, vI x] M Q := by
  obtain ⟨hG, h2, h3⟩ := hC
  have hn := hR.2.2.1.2
  have h512 := p9 hn
  have hpe : (2 : Nat) ^ (3 * L.1) = 8 ^ L.1 := by rw [Nat.pow_mul]
  unfold ihB at h
  refine e_X1_permitsHalves (b_X1_permitsHalves_0 hG (by omega) ?_)
  rw [h2, k8, k9, pk_mul]
  refine ⟨hR.1.1, kp_split hR.1.1 hR.1.2.2.1.1 hn (by decide) (by omega) (by omega) hG.k13 (by omega) (fun hk B hFB => ⟨_, rfl, hFB.ext, fun w => absurd rfl w, fun _ => ?_⟩) (fun k hk hu B hFB hB => ⟨_, rfl, hFB.ext, fun _ => ?_, fun w => absurd w (by decide)⟩)⟩
  · have h9 := h B (sp_ak hFB)
    rw [hpe] at hk
    cases hi : inN x (8 ^ L.1) with
    | none => rw [hi] at h9; exact h9
    | some k =>
      rw [hi] at h9
      dsimp only at h9
      rw [decide_eq_false (hk k hi)] at h9; exact h9
  · rw [hpe] at hk
    rw [hk] at h
    dsimp only at h
    rw [decide_eq_true hu, Bool.true_and] at h
    have hFr : Frr (akS a) slT M B := sp_ak hFB
    have hT := slT_ok hS
    have hRB := hR.rr hFr hT (fun b k h1 h2 => ak_no (by omega) (by omega))
    have hSB := hS.rr hFr hT (fun w => by rcases w with w | w; exact sl_no18 w; omega)
    have hGB := hG.ext hFB.ext
    have r2 : mR B a 2 = la := by rw [hFr.r (nslT ha)]; exact h2
    have i9 : mI B a 9 = nI m := by rw [hFB.at (fun q => by unfold atS at q; omega)]; exact k9
    have key : ∀ r s, s + r = 2 * m → (∀ j, j < s → faL L (sOB 3 L.1 k o j) ≠ 2) → WA X d 0 0 m_X1_permitsHalves 30 [some (vR a), none, some (vI (nI s))] [] B Q := by
      intro r
      induction r with
      | zero =>
        intro s hs hall
        obtain rfl : s = 2 * m := by omega
        refine b_X1_permitsHalves_30 hGB (by omega) ⟨fun _ => ?_, fun q => absurd (by rw [i9, pk_mul, na_le (by omega) (by omega)]; exact Nat.le_refl _) q⟩
        rw [r2, i9]
        refine kp_joinOf (pl := 0) (g := 0) (by omega) hla hRB hSB hm (by decide) (by decide) hu (by omega) hGB.k13 hB (fun E hFE hJE => ⟨_, rfl, (ji_sl hFE).ext (slT_ok hSB), bI_B _, ?_⟩)
        have hw := joW_some (L := L) (P := sOB 3 L.1 k o) (NU := pcut L k o) (g := 0) (pl := 0) hm (by decide)
        rw [hw]
        have h9 := h E (hFr.trans (sl_ak (ji_sl hFE)))
        unfold okH at h9
        rw [decide_eq_true hall, Bool.true_and] at h9
        exact h9
      | succ r ih =>
        intro s hs hall
        have hlt := sOB_lt 3 L.1 k o s
        have hpos := nuF_pos hu (show s < 2 * m by omega)
        refine b_X1_permitsHalves_30 hGB (by omega) ⟨fun q => absurd (by rw [i9, pk_mul, na_le (by omega) (by omega)] at q; omega) (id : False → False), fun _ => ⟨na_in (by omega) (by decide), ?_⟩⟩
        rw [r2, na_ix (by omega), hB s (by omega)]
        have hH : haF (hgB L) L.1 0 (sOB 3 L.1 k o s) < 2 ^ 10 := Nat.lt_of_lt_of_le haF_lt (Nat.pow_le_pow_right (by decide) (by omega))
        refine ⟨hRB.1.1, kp_isHanging hRB.1.1 hn hRB.1.2.2.1.1 hRB.1.2.1.2.2.1 hlt (hRB.1.2.2.2.2.2.1 _ hlt) (by omega) ⟨_, rfl, Ext.refl _, ?_⟩⟩
        rw [haF_n (Nat.zero_le _) hlt]
        refine ⟨fun q => ?_, fun q => ?_⟩
        · rw [bI_n0, hg_fa (Nat.ne_of_gt hpos)] at q
          rw [nI_add]
          refine ih (s + 1) (by omega) (fun j hj => ?_)
          by_cases z : j = s
          · subst z; exact q
          · exact hall j (by omega)
        · rw [bI_0] at q
          have q2 : faL L (sOB 3 L.1 k o s) = 2 := Classical.byContradiction (fun w => by
            have := (hg_fa (Nat.ne_of_gt hpos)).mpr w
            rw [q] at this; cases this)
          have h9 := h B hFr
          unfold okH at h9
          rw [decide_eq_false (fun w => w s (by omega) q2), Bool.false_and] at h9
          exact h9
    exact key (2 * m) 0 (by omega) (fun j hj => by omega)
theorem kp_pJoining {G : GamT} {x : Int32} (hd : 3 ≤ d) (ha : 37 < a) (hla : 37 < la) (hal : a + 4 < la ∨ la + 8 < a) (hR : laR M la L) (hC : gcX M a la pr) (k8 : mI M a 8 = nI (gOp G)) (k9 : mI M a 9 = nI (gLe G)) (ho : gOp G < 2 ^ L.1) (hm : gLe G ≤ 4) (hnu : nuF 3 L.1 (gDr G) (gOp G) L.1 = some (2 * gLe G)) (hD : ∀ h, h < 2 * gLe G → mI M (a + 3) h = nI (haG L G h))
    (h : ∀ B, Frr (akS a) slT M B → Q (some (vI (bI (icB L x (gOp G) (gLe G) && joB L G x.toInt.toNat)))) B) : Cl X d 0 0 m_X1_permitsJoining [vR a, vI x] M Q := by
  obtain ⟨hG, h2, h3⟩ := hC
  have hn := hR.2.2.1.2
  have h512 := p9 hn
  refine e_X1_permitsJoining (b_X1_permitsJoining_0 hG (by omega) ?_)
  rw [h2, k8, k9]
  refine ⟨hR.1.1, kp_ask (by omega) hR ho hm hG.k13 (by unfold ofa; omega) (fun B hFB hB => ⟨_, rfl, hFB.ext, fun q => ?_, fun q => ?_⟩)⟩
  rotate_left
  · rw [bI_0] at q
    have h9 := h B (sp_ak hFB)
    rw [q, Bool.false_and] at h9; exact h9
  rw [bI_n0] at q
  rw [q, Bool.true_and] at h
  have hB := hB q
  have hic : icN L x.toInt.toNat (gOp G) (gLe G) := by
    unfold icB at q
    cases hi : inN x (4 ^ L.1) with
    | none => rw [hi] at q; cases q
    | some k =>
      rw [hi] at q
      have h49 : 4 ^ L.1 ≤ 4 ^ 9 := Nat.pow_le_pow_right (by decide) hn
      have h49e : (4 : Nat) ^ 9 = 262144 := rfl
      obtain ⟨e, hlt⟩ := inN_some (by omega) hi
      have : x.toInt.toNat = k := by rw [e, toI_n (by omega)]; simp
      rw [this]; exact of_decide_eq_true q
  have hFr : Frr (akS a) slT M B := sp_ak hFB
  have hGB := hG.ext hFB.ext
  have i9 : mI B a 9 = nI (gLe G) := by rw [hFB.at (fun q => by unfold atS at q; omega)]; exact k9
  have hDB : ∀ h, h < 2 * gLe G → mI B (a + 3) h = nI (haG L G h) := fun h hh => by rw [hFB.at (fun q => by unfold atS at q; omega)]; exact hD h hh
  have hji := joB_iff hnu hic.1
  have hlt3 : ∀ h, haG L G h < 2 ^ L.1 := fun h => sOB_lt _ _ _ _ _
  have outer : ∀ r s, s + r = gLe G → (∀ t, t < s → smF (2 * gLe G) (fun h => if dif (haG L G h) (seG L G x.toInt.toNat t) = 0 then 1 else 0) = 2) → WA X d 0 0 m_X1_permitsJoining 27 [some (vR a), none, some (vI (nI s)), none, none] [] B Q := by
    intro r
    induction r with
    | zero =>
      intro s hs hall
      obtain rfl : s = gLe G := by omega
      refine b_X1_permitsJoining_27 hGB ⟨fun _ => ?_, fun w => absurd (by rw [i9, na_le (by omega) (by omega)]; exact Nat.le_refl _) w⟩
      have h9 := h B hFr
      rw [hji.mpr hall] at h9; exact h9
    | succ r ih =>
      intro s hs hall
      refine b_X1_permitsJoining_27 hGB ⟨fun w => absurd (by rw [i9, na_le (by omega) (by omega)] at w; omega) (id : False → False), fun _ => ?_⟩
      have cle : ∀ j, smF j (fun h => if dif (haG L G h) (seG L G x.toInt.toNat s) = 0 then 1 else 0) ≤ j := by
        intro j
        induction j with
        | zero => exact Nat.le_refl _
        | succ j ij =>
          show smF j _ + (if dif (haG L G j) (seG L G x.toInt.toNat s) = 0 then 1 else 0) ≤ _
          split <;> omega
      have inner : ∀ r2 j, j + r2 = 2 * gLe G → WA X d 0 0 m_X1_permitsJoining 40 [some (vR a), none, some (vI (nI s)), some (vI (nI (smF j (fun h => if dif (haG L G h) (seG L G x.toInt.toNat s) = 0 then 1 else 0)))), some (vI (nI j))] [] B Q := by
        intro r2
        induction r2 with
        | zero =>
          intro j hj
          obtain rfl : j = 2 * gLe G := by omega
          have c := cle (2 * gLe G)
          refine b_X1_permitsJoining_40 hGB ⟨fun _ => ?_, fun w => absurd (by rw [i9, pk_mul, na_le (by omega) (by omega)]; exact Nat.le_refl _) w⟩
          rw [na_eq (by omega) (by decide)]
          refine ⟨fun w => ?_, fun w => ?_⟩
          · rw [nI_add]
            refine ih (s + 1) (by omega) (fun t ht => ?_)
            by_cases z : t = s
            · subst z; exact w
            · exact hall t (by omega)
          · have h9 := h B hFr
            have : joB L G x.toInt.toNat = false := by
              cases hz : joB L G x.toInt.toNat with
              | false => rfl
              | true => exact absurd (hji.mp hz s (by omega)) w
            rw [this] at h9; exact h9
        | succ r2 ih2 =>
          intro j hj
          have hn2 := ih2 (j + 1) (by omega)
          have c := cle j
          have dl := dif_lt (b := seG L G x.toInt.toNat s) (hlt3 j)
          refine b_X1_permitsJoining_40 hGB ⟨fun w => absurd (by rw [i9, pk_mul, na_le (by omega) (by omega)] at w; omega) (id : False → False), fun _ => ⟨na_in (by omega) (by decide), na_in (by omega) (by decide), ?_⟩⟩
          have hBs : mI B (a + 4) s = nI (seG L G x.toInt.toNat s) := hB s (by omega)
          rw [na_ix (by omega), na_ix (by omega), hDB j (by omega), hBs, na_dif, na_eq (by omega) (by decide)]
          have e : smF (j + 1) (fun h => if dif (haG L G h) (seG L G x.toInt.toNat s) = 0 then 1 else 0) = smF j (fun h => if dif (haG L G h) (seG L G x.toInt.toNat s) = 0 then 1 else 0) + (if dif (haG L G j) (seG L G x.toInt.toNat s) = 0 then 1 else 0) := rfl
          rw [e] at hn2
          refine ⟨fun w => ?_, fun w => ?_⟩
          · rw [if_neg w, Nat.add_zero] at hn2
            rw [nI_add]; exact hn2
          · rw [if_pos w] at hn2
            rw [nI_add, nI_add]; exact hn2
      exact inner (2 * gLe G) 0 (by omega)
  exact outer (gLe G) 0 (by omega) (fun t ht => by omega)
end ASK
