/-! THE CLASS: the mind turns to a game, and weighs it -/
section WEIGH
variable {X : Cx} {la pr g : Nat} {ot : Bool} {L : LandT} {P : ProT} {M : Mem} {Q : Option AV → Mem → Prop}
theorem kp_weigh {a d : Nat} {G : GamT} {mv : List Nat} (hd : 22 ≤ d) (h : MX M la pr L P g ot) (hA : gaX M a la pr L G mv) (ha : 66 < a) (hK : GOK L P G) (hph : PHK P G)
    (hq : ∀ B, Frr weS (mnT 4) M B → MX B la pr L P g ot → (gPh G < 8 → mI B 38 9 = chI (sbF L P g ot G)) → Q (some (vI (zI (sgI g (vnF L P g ot G))))) B) : Cl X d 0 0 m_X5_weigh [vR 38, vR a] M Q := by
  have hdr := drF_le h.2.2.2.2.1 ot ((L.2.1 - gLe G) % P.1)
  have hL := h.2.1.2.2
  have hs4 := hL.2.1
  have hK0 := hK
  obtain ⟨g1, g2, g3, g4, g5, g6, g7, g8, g9, g10, g11⟩ := hK
  refine e_X5_weigh (b_X5_weigh_0 h.1.1 (by omega) ?_)
  rw [h.1.2.1.1, hA.2.2.1.1.1, h.1.2.2.1.2.1]
  refine ⟨hA.1.1, h.2.1.1.1, kp_worthOfAll (f := fun s => (gKe G).getD s 0) (by omega) h.2.1 hA.1.1.k6 (by omega) (fun s hs => ?_) h.1.2.2.1.2.2 ⟨_, rfl, Ext.refl _, fun x2 e2 M2 eM => ?_⟩⟩
  · have hg : (gKe G)[s]? = some ((gKe G)[s]'hs) := List.getElem?_eq_getElem hs
    have e : (gKe G).getD s 0 = (gKe G)[s]'hs := by simp only [List.getD]; rw [hg]; rfl
    have := hA.2.2.1.1.2 s _ hg
    rw [Nat.zero_add] at this
    try dsimp only
    rw [e]
    exact ⟨(g7 _ (List.getElem_mem hs)).1, this⟩
  rw [kw_sg]
  obtain ⟨t1, t2, t3⟩ := mn_self (m := 4) h (by omega) eM
  have hF2 := mn_we (by omega) t1
  have hA2 := gaX.we h hA ha hF2
  rw [hA.2.2.1.2.2] at e2
  subst e2
  have et : gPh G < 8 → (L.2.1 - gLe G) % P.1 = gTu G := fun w => by rw [(g8 w).2]; congr 1; omega
  have hvn : gPh G < 8 → vnF L P g ot G = kwL L g (gKe G) + vlO (sbF L P g ot G) := fun w => by
    unfold vnF
    rw [if_neg (by omega)]
    cases sbF L P g ot G <;> rfl
  have fin : gPh G < 8 → ∀ B, Frr weS (mnT 4) M2 B → MX B la pr L P g ot → mI B 38 9 = chI (sbF L P g ot G) → Q (some (vI (zI (sgI g (kwL L g (gKe G))) + zI (sgI g (vlO (sbF L P g ot G)))))) B := fun w B hF hX hch => by
    have h9 := hq B (hF2.trans hF) hX (fun _ => hch)
    rw [hvn w, sgI_add, ← zI_add] at h9
    exact h9
  have ahd : (gPh G = 0 ∨ gPh G = 2 ∨ gPh G = 3 ∨ gPh G = 5) → WA X d 0 0 m_X5_weigh 152 [some (vR 38), some (vR a), some (vI (zI (sgI g (kwL L g (gKe G))))), some (vI (nI (gLe G)))] [] M2 Q := fun w => by
    obtain ⟨hle, htu⟩ := g8 (by omega)
    have hsr := sb_rb (g := g) (ot := ot) hph hK0 w
    refine b_X5_weigh_152 t2.1.1 (by omega) ?_
    rw [hA2.2.2.1.2.1]
    refine ⟨hA2.1.1, ah_all (X := X) (gLe G) (gOp G) (d - 1) M2 _ g2 (by omega) (by omega) t2 (fun B hF hX hch => ⟨_, rfl, mn_ext t2 hF, ?_⟩)⟩
    rw [rb_val1 hle, ← hsr]
    exact fin (by omega) B (mn_we (by omega) hF) hX (by rw [hch hle, hsr])
  refine kp_isOver hA2.1.1 hA2.2.2.2.1 (by omega) ⟨_, rfl, Ext.refl _, fun q => ?_, fun q => ?_⟩
  · rw [bI_n0] at q
    have q := of_decide_eq_true q
    have h9 := hq M2 hF2 t2 (fun z => by omega)
    unfold vnF at h9
    rw [if_pos (by omega)] at h9; exact h9
  rw [bI_0] at q
  have q := of_decide_eq_false q
  obtain ⟨hle1, -⟩ := g8 (by omega)
  rw [t2.1.2.1.1, t2.2.1.1.2.2.1.2.1]
  refine ⟨fun w => absurd w (by rw [na_lt (by omega) (by decide)]; omega), fun _ => ⟨t2.2.1.1.1, fun _ => ?_, fun w => absurd ((na_le (by omega) (by omega)).mpr (by omega)) w⟩⟩
  intro x3 e3
  rw [hA2.2.2.2.1] at e3
  have ei : x3.toInt = gPh G := by rw [e3]; exact toI_n (by omega)
  refine ⟨fun w => ahd (by omega), fun w => ?_, fun w => ahd (by omega), fun w => ahd (by omega), fun w => ?_, fun w => ahd (by omega), fun w => ?_, fun w => ?_⟩
  · -- a seat is to be kept
    have w : gPh G = 1 := by omega
    obtain ⟨hle, htu⟩ := g8 (by omega)
    obtain ⟨k1, k2⟩ := g9 (Or.inl w)
    have hmo : moF P ot G = 1 - drF P ot ((L.2.1 - gLe G) % P.1) := by unfold moF; rw [if_pos (by omega), et (by omega)]
    have es : sbF L P g ot G = fkF L g (cmF L P g ot (gLe G - 1)) (gDr G) (gOp G) (gLe G) (!grB g (drF P ot ((L.2.1 - gLe G) % P.1))) := by
      unfold sbF fkF
      rw [if_pos w, hmo, grB_not hdr]
    refine kp_drawer t2 (by omega) ⟨_, rfl, Ext.refl _, kp_worstFor hdr ⟨_, rfl, Ext.refl _, ?_⟩⟩
    rw [hA2.2.2.1.2.1]
    refine kp_keepOne (ah_all (gLe G - 1)) (by omega) t2 (by omega) g2 hA2.1.1.k12 (by omega) (hA2.2.2.2.2.2.1 w) (by split <;> omega) ?_ (fun B r n hF hX hch hrb hor => ⟨_, rfl, mn_ext t2 hF, ?_⟩)
    · generalize drF P ot ((L.2.1 - gLe G) % P.1) = dr at hdr
      show prB dr (if 1 - dr = 0 then -100 else 100) (if dr = 0 then -100 else 100) = true
      rcases (show dr = 0 ∨ dr = 1 by omega) with rfl | rfl <;> rfl
    · have hx : fkF L g (cmF L P g ot (gLe G - 1)) (gDr G) (gOp G) (gLe G) (!grB g (drF P ot ((L.2.1 - gLe G) % P.1))) = some (r, n) := by
        rcases hor with z | ⟨z, -⟩
        · exact z
        · have hrs := sgI_b g hrb
          generalize drF P ot ((L.2.1 - gLe G) % P.1) = dr at hdr z
          unfold prB at z
          rcases (show dr = 0 ∨ dr = 1 by omega) with rfl | rfl <;> simp at z <;> omega
      have hsb : sbF L P g ot G = some (r, n) := by rw [es]; exact hx
      have h9 := fin (by omega) B (mn_we (by omega) hF) hX (by rw [hch, hsb]; rfl)
      rw [hsb] at h9
      exact h9
  · -- halves are to be joined
    have w : gPh G = 4 := by omega
    have hmo : moF P ot G = 1 - drF P ot ((L.2.1 - gLe G) % P.1) := by unfold moF; rw [if_pos (by omega), et (by omega)]
    refine kp_joinHalves (by omega) t2 hA2 ha hK0 w rfl hmo (fun B q hF hX hsb hch hqb => ⟨_, rfl, hF.ext (mnT_ok t2), ?_⟩)
    have h9 := fin (by omega) B hF hX (by rw [hch, hsb]; rfl)
    rw [hsb] at h9
    exact h9
  · refine kp_drawSecond (by omega) t2 hA2 ha hK0 (by omega) (fun B hF hX hch => ⟨_, rfl, hF.ext (mnT_ok t2), ?_⟩)
    exact fin (by omega) B hF hX hch
  · refine kp_takeOne (by omega) t2 hA2 ha hK0 (by omega) (fun B hF hX hch => ⟨_, rfl, hF.ext (mnT_ok t2), ?_⟩)
    exact fin (by omega) B hF hX hch
def tuS (b k : Nat) : Prop := (b = 38 ∧ (k = 7 ∨ k = 8)) ∨ b = 40
def tuT (b k : Nat) : Prop := b = 38 ∧ (k = 5 ∨ k = 6)
theorem tuT_ok (h : MiS M 38) : ∀ b k ci n, tuT b k → isK M b ci n → finR ci k = false := fun b k ci n q hk => by
  obtain ⟨rfl, q⟩ := q
  obtain ⟨e1, -⟩ := isK_fun h.o hk
  subst e1
  rcases q with rfl | rfl <;> rfl
theorem kp_turnTo {d : Nat} (hd : 1 ≤ d) (hMi : MiS M 38) (hmc : mcX M) (hg : g < 3) (hcur : mR M 38 5 = la → mR M 38 6 = pr → mI M 38 7 = bI ot → mI M 38 8 = nI g → mmX M L P g ot)
    (hq : ∀ B, Frr tuS tuT M B → miX B la pr L P g ot → Q none B) : Cl X d 0 0 m_X5_turnTo [vR 38, vR la, vR pr, vI (bI ot), vI (nI g)] M Q := by
  have new : WA X d 0 0 m_X5_turnTo 33 [some (vR 38), some (vR la), some (vR pr), some (vI (bI ot)), some (vI (nI g))] [] M Q := by
    refine b_X5_turnTo_33 hMi hd (fun M1 e1 M2 e2 M3 e3 M4 e4 => ?_)
    have f4 : Frr tuS tuT M M4 := by
      rw [e4, e3, e2, e1]
      exact ((Frr.sR (S := tuS) (T := tuT) ⟨rfl, Or.inl rfl⟩).trans (Frr.sR ⟨rfl, Or.inr rfl⟩)).trans ((Fr.sI (S := tuS) (Or.inl ⟨rfl, Or.inl rfl⟩)).trans (Fr.sI (Or.inl ⟨rfl, Or.inr rfl⟩))).rr
    refine kp_fill (f4.k hMi.k2) (by decide) (fun B hFB hB => ⟨rfl, hFB.ext, ?_⟩)
    have hFB2 := f4.trans ((hFB.mono (T := tuS) (fun b k q => Or.inr q.1)).rr (T := tuT))
    have hE := hFB2.ext (tuT_ok hMi)
    have rB : ∀ k, mR B 38 k = mR M4 38 k := fun k => by unfold mR; rw [hFB.2]
    refine hq B hFB2 ⟨hMi.ext hE, ⟨?_, ?_⟩, ⟨?_, ?_, hg⟩, fun k hk => ?_, fun k hk => Or.inl (hB k hk)⟩
    · rw [rB, e4, e3, mR_sI, mR_sI, e2, mR_sR, if_neg (fun w => absurd w.2 (by decide)), e1, mR_sR, if_pos ⟨rfl, rfl⟩]
    · rw [rB, e4, e3, mR_sI, mR_sI, e2, mR_sR, if_pos ⟨rfl, rfl⟩]
    · rw [hFB.at (by omega), e4, mI_sI_i (by decide), e3, mI_sI_eq]
    · rw [hFB.at (by omega), e4, mI_sI_eq]
    · obtain ⟨k1, k2, k3⟩ := hmc k hk
      exact ⟨(hFB2.r (by unfold tuT; omega)).trans k1, k2.ext hE, (hFB2.i (by unfold tuS; omega)).trans k3⟩
  refine e_X5_turnTo (b_X5_turnTo_0 hMi ⟨fun _ => new, fun w1 => ⟨fun _ => new, fun w2 => ⟨fun _ => new, fun w3 => ⟨fun w4 => ?_, fun _ => new⟩⟩⟩⟩)
  exact hq M Frr.refl ⟨hMi, ⟨w1.symm, w2.symm⟩, ⟨w3.symm, w4.symm, hg⟩, hmc, hcur w1.symm w2.symm w3.symm w4.symm⟩
end WEIGH
