/-! THE CLASS: the cut that a protocol ends with -/
theorem keF_ord {L : LandT} {P : ProT} {G : GamT} {g : Nat → Nat} (hL : LdOK L) (hK : GOK L P G) (hV : GCV L G) (h8 : gPh G = 8) (hP : PM (fun i => (gKe G).getD i 0) g (gKe G).length) (hso : ∀ s t, s < t → t < (gKe G).length → lwN (g s) ≤ lwN (g t)) : numO g L.1 (gKe G).length = keF L G := by
  obtain ⟨o0, m0⟩ := hV.2.2 h8
  have hk3 := hK.2.2.1
  have hs4 := hL.2.1
  have hlen : (gKe G).length = L.2.1 := by omega
  obtain ⟨x, y, hfs, -⟩ := keF_ok hL hK hV h8
  have hcv : ∀ q, q < L.1 → cvN (gKe G) q = 1 := fun q hq => by
    have := hV.2.1 q hq
    rw [o0, Nat.zero_testBit, if_neg (by decide)] at this
    omega
  have k7 := hK.2.2.2.2.2.2.1
  have hgi : ∀ i, i < (gKe G).length → (gKe G)[i]? = some ((gKe G).getD i 0) := fun i hi => by
    simp only [List.getD]
    rw [List.getElem?_eq_getElem hi]; rfl
  refine (ord_fam (D := fun q => fsK (gKe G) q % 4) hL.1.2 (by omega) (fun i hi => ?_) (fun p => Nat.mod_lt _ (by decide)) (fun q hq => ?_) (fun i hi q hq => ?_) hP hso).1
  · obtain ⟨a, b⟩ := k7 _ (List.mem_of_getElem? (hgi i hi))
    exact ⟨a, by omega⟩
  · have := (hfs q hq).1
    try dsimp only
    rw [Nat.mod_eq_of_lt (by omega)]; exact this
  · obtain ⟨f1, f2, f3⟩ := hfs q hq
    try dsimp only
    rw [Nat.mod_eq_of_lt (by omega)]
    rcases (show fsK (gKe G) q < i ∨ fsK (gKe G) q = i ∨ i < fsK (gKe G) q by omega) with z | z | z
    · rw [decide_eq_false (by omega)]
      cases hb : ((gKe G).getD i 0).testBit q with
      | false => rfl
      | true => exact (cv_one (by rw [hcv q hq]; exact Nat.le_refl 1) z hi f2 hb).elim
    · rw [decide_eq_true z, ← z]; exact f2
    · rw [decide_eq_false (by omega)]; exact f3 i z
section ENDS
variable {X : Cx} {d : Nat} {M : Mem} {s : StT} {T : AdT} {Q : Option AV → Mem → Prop}
theorem kp_endOf {l p : Nat} (hd : 26 ≤ d) (h : CI M s T) (hl : l < sNl s) (hp : p < sNp s) (hq : ∀ B, CI B s T → OFr M B → Q (some (vI (edI (sLs s l) (sPs s p)))) B) : Cl X d 0 0 m_X10_endOf [vR 1, vI (nI l), vI (nI p)] M Q := by
  have h6 := h.1.2.2.1.1
  have h8 := h.1.2.2.2.1.1
  have hO := h.1.2.2.1.2 l hl
  have hP := h.1.2.2.2.1.2 p hp
  have ll := h.lo hl
  have lp := h.lp hp
  have hs4 := hO.2.1
  have h512 := p9 hO.1.2
  have eI : (l * 8 + p) * 5 + 4 = 5 * (8 * l + p) + 4 := by omega
  have hI : 5 * (8 * l + p) + 4 < 240 := by omega
  have hin : vp_in (nI (5 * (8 * l + p) + 4)) 240 := na_in hI (by decide)
  have eE : inN (nI l) (sNl s) = some l := inN_nI (by omega) hl
  have eP : inN (nI p) (sNp s) = some p := inN_nI (by omega) hp
  refine e_X10_endOf (b_X10_endOf_0 h.1.1 (by omega) (kp_readyLand (by omega) h (fun e => by rw [eE] at e; cases e) (fun k B e hk hB hO1 hR h14 => ⟨_, rfl, hO1.2.2, ?_⟩)))
  obtain rfl : l = k := Option.some.inj (eE.symm.trans e)
  refine kp_protocolAt hB (fun e2 => by rw [eP] at e2; cases e2) (fun j e2 hj => ⟨_, rfl, Ext.refl _, fun z => absurd z (by omega), fun _ => ⟨fun _ x1 e1 => ?_, fun z => absurd z (by have := h.lp hj; omega)⟩⟩)
  obtain rfl : p = j := Option.some.inj (eP.symm.trans e2)
  rw [pk_mul, nI_add, pk_mul, nI_add, eI] at e1
  subst e1
  rw [na_ix (by omega)]
  have f176 : ∀ D, CI D s T → OFr M D → WA X d 0 0 m_X10_endOf 180 [some (vR 1), none, none, none, none, some (vI (nI (5 * (8 * l + p) + 4))), none] [vI (edI (sLs s l) (sPs s p)), vI (nI (5 * (8 * l + p) + 4)), vR 72] D Q := fun D hD hOD => by
    refine b_X10_endOf_180 hD.1.1 ⟨240, hD.1.1.k15, hin, fun M1 e1 => ⟨hin, ?_⟩⟩
    rw [e1, na_ix (by omega), mI_sI_eq]
    obtain ⟨g1, g2⟩ := hD.an (w := 4) (v := edI (sLs s l) (sPs s p)) hl hp (by decide) (by rw [if_neg (by decide), if_neg (by decide)])
    exact hq _ g1 (hOD.trans g2)
  refine ⟨hin, fun z => ⟨hin, ?_⟩, fun z => ?_⟩
  · rcases hB.2.2.2.2.2.2.2.2.1 l p 4 (by omega) (by omega) (by decide) with q | ⟨-, -, q⟩
    · exact absurd q z
    · rw [if_neg (by decide), if_neg (by decide)] at q
      rw [q]; exact hq B hB hO1
  refine kp_tn (ot := false) (g := 0) (by omega) hB hl hp (by decide) hR (fun C hF c1 c2 hX hE => ⟨rfl, hE, ?_⟩)
  have toC : ∀ D, Frr mjS miT C D → MX D (aLa T l) (aPa T p) (sLs s l) (sPs s p) 0 false → CI D s T ∧ OFr M D := fun D hFD hXD => by
    obtain ⟨f1, f2⟩ := c1.mx hl hp hFD hXD.1
    exact ⟨f1, (hO1.trans c2).trans f2⟩
  have trm : ∀ {n : Nat} {D D2 : Mem}, Frr (gxS 67 n) (stT 67) D D2 → Frr mjS miT D D2 := fun q => q.mono (fun b k q => tr_mj q) (fun b k q => tr_mt q)
  have fin : ∀ G D mv, Frr mjS miT C D → MX D (aLa T l) (aPa T p) (sLs s l) (sPs s p) 0 false → gaX D 67 (aLa T l) (aPa T p) (sLs s l) G mv → GOK (sLs s l) (sPs s p) G → GCV (sLs s l) G → 8 ≤ gPh G → G = enG (sLs s l) (sPs s p) → WA X d 0 0 m_X10_endOf 123 [some (vR 1), none, none, some (vR (aLa T l)), none, some (vI (nI (5 * (8 * l + p) + 4))), none] [] D Q := fun G D mv hFD hXD hA hK hV hG8 he => by
    have hTp := (toC D hFD hXD).1.1.1
    have hk3 := hK.2.2.1
    have hk1 := hK.1
    refine b_X10_endOf_123 hTp (by omega) ?_
    rw [hA.2.2.1.1.1]
    refine kp_order (f := fun i => (gKe G).getD i 0) (by omega) hA.1.1.k6 (by omega) (fun i hi => ?_) (fun E g hFE hg hPM hso => ⟨rfl, hFE.ext, ?_⟩)
    · have hgi : (gKe G)[i]? = some ((gKe G).getD i 0) := by
        simp only [List.getD]
        rw [List.getElem?_eq_getElem hi]; rfl
      have := hA.2.2.1.1.2 i _ hgi
      rw [Nat.zero_add] at this
      exact ⟨Nat.lt_of_lt_of_le (hK.2.2.2.2.2.2.1 _ (List.mem_of_getElem? hgi)).1 h512, this⟩
    · have hFE2 : Frr (gxS 67 9) (stT 67) D E := (hFE.mono (T := gxS 67 9) (fun b k q => by unfold atS at q; unfold gxS; omega)).rr
      have hXE := hXD.tr hTp.k14 (by omega) (by omega) hFE2
      obtain ⟨cE, oE⟩ := toC E (hFD.trans (trm hFE2)) hXE
      have i52 : ∀ k, mI E 67 k = mI D 67 k := fun k => hFE.at (by unfold atS; omega)
      rw [i52, i52, hA.2.2.2.1, hA.2.2.1.1.1, na_eq (by omega) (by decide)]
      refine ⟨fun w => ?_, fun w => ⟨hXE.2.1.1.1, ?_⟩⟩
      · have q := f176 E cE oE
        have e2 : edI (sLs s l) (sPs s p) = -1 := by
          unfold edI enL
          rw [← he, if_pos (by omega)]
        rw [e2] at q
        exact q
      · refine kp_numberOf hXE.2.1.1.1 hXE.2.1.1.2.2.1.1 hO.1.2 (hFE.ext.1 _ _ _ hA.1.1.k6) (by omega) (fun i hi => ⟨?_, hg i hi⟩) ⟨_, rfl, Ext.refl _, ?_⟩
        · obtain ⟨j, j1, j2⟩ := hPM.get hi
          have hgi : (gKe G)[j]? = some ((gKe G).getD j 0) := by
            simp only [List.getD]
            rw [List.getElem?_eq_getElem j1]; rfl
          rw [j2]
          exact (hK.2.2.2.2.2.2.1 _ (List.mem_of_getElem? hgi)).1
        · rw [keF_ord hO hK hV w hPM hso]
          have q := f176 E cE oE
          have e2 : edI (sLs s l) (sPs s p) = nI (keF (sLs s l) G) := by
            unfold edI enL
            rw [← he, if_neg (by omega)]
          rw [e2] at q
          exact q
  have loop : ∀ (f : Nat) (G : GamT) (D : Mem) (i : Nat) (mv : List Nat), Frr mjS miT C D → MX D (aLa T l) (aPa T p) (sLs s l) (sPs s p) 0 false → gaX D 67 (aLa T l) (aPa T p) (sLs s l) G mv → GOK (sLs s l) (sPs s p) G → GCV (sLs s l) G → GNE (sLs s l) G → PHK (sPs s p) G → mv.length = i → i + muG (sLs s l) G ≤ 8 → muG (sLs s l) G < f → edF (sLs s l) (sPs s p) f G = enG (sLs s l) (sPs s p) →
      WA X d 0 0 m_X10_endOf 74 [some (vR 1), none, none, some (vR (aLa T l)), none, some (vI (nI (5 * (8 * l + p) + 4))), some (vI (nI i))] [] D Q := by
    intro f
    induction f with
    | zero => intro G D i mv _ _ _ _ _ _ _ _ _ hm; omega
    | succ f ih =>
      intro G D i mv hFD hXD hA hK hV hN hPh hmv hmi hmf he
      have hTp := (toC D hFD hXD).1.1.1
      have hk1 := hK.1
      unfold edF at he
      have over : 8 ≤ gPh G → WA X d 0 0 m_X10_endOf 123 [some (vR 1), none, none, some (vR (aLa T l)), none, some (vI (nI (5 * (8 * l + p) + 4))), none] [] D Q := fun w => by
        rw [if_pos w] at he
        exact fin G D mv hFD hXD hA hK hV w he
      refine b_X10_endOf_74 hTp (by omega) ⟨fun w => ?_, fun w => kp_isOver hA.1.1 hA.2.2.2.1 hK.1 ⟨_, rfl, Ext.refl _, fun z => ?_, fun z => ?_⟩⟩
      · rw [na_le (by decide) (by omega)] at w
        refine over (Classical.byContradiction (fun q => ?_))
        obtain ⟨r, hr, hm1, hm2⟩ := sbF_ok (g := 0) (ot := false) hO hK hN (by omega)
        have := (mvG_ok hO hP hK hV (by omega) hm2 hm1).2.2
        omega
      · exact over (by have : 7 < gPh G := by simpa using bI_n0.mp z
                       omega)
      · have z := of_decide_eq_false (bI_0.mp z)
        rw [na_le (by decide) (by omega)] at w
        rw [if_neg (by omega)] at he
        obtain ⟨r, hr, hm1, hm2⟩ := sbF_ok (g := 0) (ot := false) hO hK hN (by omega)
        rw [hr] at he
        dsimp only at he
        obtain ⟨a1, a2, a3⟩ := mvG_ok hO hP hK hV (by omega) hm2 hm1
        refine kp_weigh (by omega) hXD hA (by decide) hK hPh (fun E hFE hXE hch => ⟨_, rfl, hFE.ext (mnT_ok hXD), ?_⟩)
        have hAE := gaX.we hXD hA (by decide) hFE
        have hch := hch (by omega)
        rw [hr] at hch
        have hch : mI E 38 9 = nI r.2 := hch
        rw [hch, nI_add]
        have hFE2 := hFD.trans (hFE.mono (fun b k q => we_mj q) (fun b k q => we_mt q))
        refine kp_play (by omega) (by decide) (by omega) (by omega) hXE.2.1 hXE.2.2.2.1 hXE.2.2.1 hP ⟨by omega, by omega⟩ hAE hK (by omega) hm2 hm1 (by omega) (fun F hFF hAF => ⟨rfl, hFF.ext (slT_ok hXE.2.2.2.1), ?_⟩)
        have hFF2 : Frr (gxS 67 mv.length) (stT 67) E F := hFF.mono (fun b k q => q) (fun b k q => Or.inl q)
        have hXF := hXE.tr (toC E hFE2 hXE).1.1.1.k14 (by omega) (by omega) hFF2
        exact ih _ F (i + 1) (mv ++ [r.2]) (hFE2.trans (trm hFF2)) hXF hAF a1 a2 (mvG_ne (P := sPs s p) hO hK (by omega) hm2 hm1) (PHK_mv hP r.2) (by simp [hmv]) (by omega) (by omega) he
  have hG := c1.1.1.k14
  obtain ⟨a, b, c⟩ := stG_ok hO hP
  refine kp_start (by omega) (by decide) (by omega) (by omega) hX.2.1 hX.2.2.2.1 hX.2.2.1 hP ⟨by omega, by omega⟩ hG (fun D hFD hA => ⟨rfl, hFD.ext (stT_ok hX.2.2.2.1 hG), ?_⟩)
  exact loop 9 (stG (sLs s l) (sPs s p)) D 0 [] (trm hFD) (hX.tr hG (by omega) (by omega) hFD) hA a b (GNE_sr _ _) (PHK_pl hP []) rfl (by omega) (by omega) rfl
theorem kp_endNo {l p : Int32} (hd : 26 ≤ d) (h : CI M s T) (hn : inN l (sNl s) = none ∨ inN p (sNp s) = none) (hq : ∀ B, CI B s T → OFr M B → Q (some (vI (-1))) B) : Cl X d 0 0 m_X10_endOf [vR 1, vI l, vI p] M Q := by
  refine e_X10_endOf (b_X10_endOf_0 h.1.1 (by omega) (kp_readyLand (by omega) h (fun e => ⟨_, rfl, Ext.refl _, ?_⟩) (fun k B e hk hB hO hR h14 => ⟨_, rfl, hO.2.2, ?_⟩)))
  · exact kp_protocolAt h (fun _ => ⟨_, rfl, Ext.refl _, fun _ => hq M h OFr.refl, fun z => absurd rfl z⟩) (fun j _ hj => ⟨_, rfl, Ext.refl _, fun _ => hq M h OFr.refl, fun z => absurd rfl z⟩)
  · refine kp_protocolAt hB (fun e2 => ⟨_, rfl, Ext.refl _, fun _ => hq B hB hO, fun _ => ⟨fun z => absurd rfl z, fun _ => hq B hB hO⟩⟩) (fun j e2 hj => ?_)
    rcases hn with w | w
    · rw [e] at w; cases w
    · rw [e2] at w; cases w
theorem kp10_ended {l p : Int32} (hd : 28 ≤ d) (h : CI M s T) (hq : ansQ M s T Q (aEnded s l p)) : Cl X d 0 0 m_X10_ended [vR 1, vI l, vI p] M Q := by
  have h6 := h.1.2.2.1.1
  have h8 := h.1.2.2.2.1.1
  unfold aEnded bothN at hq
  refine e_X10_ended (b_X10_ended_0 h.1.1 (by omega) ?_)
  cases e : inN l (sNl s) with
  | none =>
    rw [e] at hq
    exact kp_endNo (by omega) h (Or.inl e) (fun B hB hO => ⟨_, rfl, hO.2.2, hq B hB hO⟩)
  | some k =>
    rw [e] at hq
    dsimp only at hq
    cases e2 : inN p (sNp s) with
    | none =>
      rw [e2] at hq
      exact kp_endNo (by omega) h (Or.inr e2) (fun B hB hO => ⟨_, rfl, hO.2.2, hq B hB hO⟩)
    | some j =>
      rw [e2] at hq
      dsimp only at hq
      obtain ⟨a1, hk⟩ := inN_some (by omega) e
      obtain ⟨b1, hj⟩ := inN_some (by omega) e2
      rw [a1, b1]
      refine kp_endOf (by omega) h hk hj (fun C hC hOC => ⟨_, rfl, hOC.2.2, ?_⟩)
      have e3 : edI (sLs s k) (sPs s j) = oI (enL (sLs s k) (sPs s j)) := by
        unfold edI
        cases enL (sLs s k) (sPs s j) <;> rfl
      rw [e3]
      exact hq C hC hOC
end ENDS
