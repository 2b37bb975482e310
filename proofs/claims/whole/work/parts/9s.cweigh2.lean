/-! THE CLASS: the mind weighs a game, whole -/
theorem opI_pr {g dr : Nat} {a b : Int} (hdr : dr ≤ 1) : opI (grB g dr) a b = if prB dr (sgI g b) (sgI g a) = true then a else b := by
  rw [prB_of hdr]
  unfold opI
  cases grB g dr
  · simp only [Bool.false_eq_true, if_false, decide_eq_true_eq]
    split <;> omega
  · simp only [if_true, decide_eq_true_eq]
    split <;> omega
section WEIGH
variable {X : Cx} {la pr g : Nat} {ot : Bool} {L : LandT} {P : ProT} {M : Mem} {Q : Option AV → Mem → Prop}
theorem op_b {gr : Bool} {a b K : Int} (ha : -K ≤ a ∧ a ≤ K) (hb : -K ≤ b ∧ b ≤ K) : -K ≤ opI gr a b ∧ opI gr a b ≤ K := by
  unfold opI; cases gr <;> simp <;> omega
theorem kp_drawSecond {a d : Nat} {G : GamT} {mv : List Nat} (hd : 5 ≤ d) (h : MX M la pr L P g ot) (hA : gaX M a la pr L G mv) (ha : 66 < a) (hK : GOK L P G) (h6 : gPh G = 6)
    (hq : ∀ B, Frr weS (mnT 4) M B → MX B la pr L P g ot → mI B 38 9 = chI (sbF L P g ot G) → Q (some (vI (zI (sgI g (vlO (sbF L P g ot G)))))) B) : Cl X d 0 0 m_X5_drawSecond [vR 38, vR a] M Q := by
  have hdr := drF_le h.2.2.2.2.1 ot ((L.2.1 - gLe G) % P.1)
  have hL := h.2.1.2.2
  have hs4 := hL.2.1
  obtain ⟨g1, g2, g3, g4, g5, g6, g7, g8, g9, g10, g11⟩ := hK
  obtain ⟨hle, htu⟩ := g8 (by omega)
  obtain ⟨d1, d2⟩ := g9 (Or.inr (Or.inl h6))
  have et : (L.2.1 - gLe G) % P.1 = gTu G := by rw [htu]; congr 1; omega
  have h49 : 4 ^ L.1 ≤ 4 ^ 9 := Nat.pow_le_pow_right (by decide) hL.1.2
  have h49e : (4 : Nat) ^ 9 = 262144 := rfl
  have hlen := lsL_len (L := L) (o := gOp G) (m := gLe G) hL.1.2 (by omega)
  have hmo : moF P ot G = drF P ot ((L.2.1 - gLe G) % P.1) := by unfold moF; rw [if_neg (by omega), et]
  have es : sbF L P g ot G = (lsL L (gOp G) (gLe G)).foldl (scT L P g ot G (grB g (drF P ot ((L.2.1 - gLe G) % P.1)))) none := by
    unfold sbF
    rw [if_neg (by omega), if_neg (by omega), if_neg (by omega), if_neg (by omega), hmo]
  rw [es] at hq
  generalize hdre : drF P ot ((L.2.1 - gLe G) % P.1) = dr at hdr hq
  have fb := cwb L g (gDr G) (gOp G) (m := gLe G) (by omega)
  have fsb := sgI_b g fb
  have key : ∀ xs i (B : Mem) (N : Nat) (acc : Option (Int × Nat)), i + xs.length ≤ 8000 → (∀ q, acc = some q → (-20 ≤ q.1 ∧ q.1 ≤ 20) ∧ q.2 < 2 ^ 31) → (∀ x, x ∈ xs → x < 2 ^ 31) → Frr weS (mnT 4) M B → MX B la pr L P g ot → cuW B (43 + 6 * (gLe G - 1)) (la + 8) (lwB L) 2 L.1 (gOp G) (gLe G) N xs → xs.foldl (scT L P g ot G (grB g dr)) acc = (lsL L (gOp G) (gLe G)).foldl (scT L P g ot G (grB g dr)) none → WA X d 0 0 m_X5_drawSecond 42 [some (vR 38), some (vR a), some (vI (nI dr)), some (vI (zI (sgI g (cwL L g (gDr G) (gOp G) (gLe G))))), some (vI (zI (daI g acc).1)), some (vI (daI g acc).2), some (vR (43 + 6 * (gLe G - 1))), some (vI (nI i)), none, none, none] [] B Q := by
    intro xs
    induction xs with
    | nil =>
      intro i B N acc hi hacc hxs hF hX hW he
      have hi : i + 0 ≤ 8000 := hi
      have he : acc = _ := he
      refine b_X5_drawSecond_42 hX.1.1 (by omega) ⟨fun w => absurd (by rw [na_le (by decide) (by omega)] at w; omega) (id : False → False), fun _ => ⟨hW.2.1.1, kp_next (by omega) hW (fun hx C hFC hBC => ⟨_, rfl, hFC.ext, fun _ => ?_, fun w => absurd rfl w⟩) (fun y ys hy => by cases hy)⟩⟩
      have hFC2 := cu_ms (T := mnT (gLe G)) ⟨hle, by omega⟩ hFC
      have hXC := hX.ms (by omega) hFC2
      refine b_X5_drawSecond_145 hXC.1.1 (fun M1 e1 => ?_)
      obtain ⟨s1, s2, s3⟩ := mn_self (m := 4) hXC (by omega) e1
      have h9 := hq M1 ((hF.trans (mn_we (by omega) (ms_mn hFC2))).trans (mn_we (by omega) s1)) s2 (by rw [s3, ← he, daI_ch])
      rw [← he] at h9
      rw [daI_v]; exact h9
    | cons x xs ih =>
      intro i B N acc hi hacc hxs hF hX hW he
      simp only [List.length_cons] at hi
      have x31 := hxs x (by simp)
      have wb := cwb L g x (gOp G) (m := gLe G) (by omega)
      have wsb := sgI_b g wb
      refine b_X5_drawSecond_42 hX.1.1 (by omega) ⟨fun w => absurd (by rw [na_le (by decide) (by omega)] at w; omega) (id : False → False), fun _ => ⟨hW.2.1.1, kp_next (by omega) hW (fun hx => by cases hx) (fun y ys hy C hFC hWC hXC hpC => ⟨_, rfl, hFC.ext, fun w => absurd w (by decide), fun _ => ?_⟩)⟩⟩
      cases hy
      have hFC2 := cu_ms (T := mnT (gLe G)) ⟨hle, by omega⟩ hFC
      have hMC := hX.ms (by omega) hFC2
      have hF2 := hF.trans (mn_we (by omega) (ms_mn hFC2))
      have hAC := gaX.we h hA ha hF2
      have hxs' : ∀ z, z ∈ xs → z < 2 ^ 31 := fun z hz => hxs z (by simp [hz])
      have ob := op_b (gr := grB g dr) fb wb
      have osb := sgI_b g ob
      rw [List.foldl_cons] at he
      refine kp_number0 hWC.1 hWC.2.1 (by decide) (by omega) hXC ⟨_, rfl, Ext.refl _, hAC.1.1, ?_⟩
      rw [hMC.1.2.1.1, hMC.1.2.2.1.2.1, hAC.2.2.1.2.2]
      refine ⟨hMC.2.1.1.1, kp_mworth (by omega) hMC (by omega) hWC.2.1.1.k0 hpC ⟨_, rfl, Ext.refl _, ?_⟩⟩
      refine kp_prefers (by omega) (by omega) hdr ⟨_, rfl, Ext.refl _, ?_⟩
      rw [bI_0]
      have hop := opI_pr (g := g) (dr := dr) (a := cwL L g (gDr G) (gOp G) (gLe G)) (b := cwL L g x (gOp G) (gLe G)) hdr
      have go : ∀ s0 : Int32, s0 = zI (sgI g (opI (grB g dr) (cwL L g (gDr G) (gOp G) (gLe G)) (cwL L g x (gOp G) (gLe G)))) → WA X d 0 0 m_X5_drawSecond 103 [some (vR 38), some (vR a), some (vI (nI dr)), some (vI (zI (sgI g (cwL L g (gDr G) (gOp G) (gLe G))))), some (vI (zI (daI g acc).1)), some (vI (daI g acc).2), some (vR (43 + 6 * (gLe G - 1))), some (vI (nI i)), some (vI (nI x)), none, none] [vI s0] C Q := fun s0 es0 => by
        rw [es0]
        refine b_X5_drawSecond_103 hMC.1.1 (by omega) ⟨hAC.1.1, ?_⟩
        rw [hAC.2.2.2.2.2.2.2.1 (Or.inl h6), na_le x31 g5, nI_add]
        refine ⟨fun w => ?_, fun w => ?_⟩
        · have e : scT L P g ot G (grB g dr) acc x = acc := by
            unfold scT
            rw [if_neg (by omega), if_neg (by omega), if_neg (by omega)]
          rw [e] at he
          exact ih (i + 1) C N acc (by omega) hacc hxs' hF2 hMC hWC he
        · have e : scT L P g ot G (grB g dr) acc x = ofT (grB g dr) acc x (opI (grB g dr) (cwL L g (gDr G) (gOp G) (gLe G)) (cwL L g x (gOp G) (gLe G))) := by
            unfold scT
            rw [if_neg (by omega), if_neg (by omega), if_pos ⟨h6, by omega⟩]
          rw [e] at he
          have take : ofT (grB g dr) acc x (opI (grB g dr) (cwL L g (gDr G) (gOp G) (gLe G)) (cwL L g x (gOp G) (gLe G))) = some (opI (grB g dr) (cwL L g (gDr G) (gOp G) (gLe G)) (cwL L g x (gOp G) (gLe G)), x) → WA X d 0 0 m_X5_drawSecond 131 [some (vR 38), some (vR a), some (vI (nI dr)), some (vI (zI (sgI g (cwL L g (gDr G) (gOp G) (gLe G))))), none, none, some (vR (43 + 6 * (gLe G - 1))), some (vI (nI i)), some (vI (nI x)), none, some (vI (zI (sgI g (opI (grB g dr) (cwL L g (gDr G) (gOp G) (gLe G)) (cwL L g x (gOp G) (gLe G))))))] [] C Q := fun ht => by
            rw [ht] at he
            refine b_X5_drawSecond_131 hMC.1.1 ?_
            rw [nI_add]
            exact ih (i + 1) C N (some (_, x)) (by omega) (fun q hq2 => by cases hq2; exact ⟨ob, x31⟩) hxs' hF2 hMC hWC he
          cases acc with
          | none => exact ⟨fun _ => take rfl, fun w => absurd rfl w⟩
          | some q =>
            have qb := sgI_b g (hacc q rfl).1
            refine ⟨fun w => absurd w (na_m1 (hacc q rfl).2), fun _ => ?_⟩
            show Cl X (d - 1) 0 0 m_X5_prefers [vI (nI dr), vI (zI _), vI (zI (sgI g q.1))] C _
            refine kp_prefers (by omega) (by omega) hdr ⟨_, rfl, Ext.refl _, ?_⟩
            rw [bI_0]
            refine ⟨fun w => ?_, fun w => take (by rw [prB_ofT hdr, if_pos (eq_true_of_ne_false w)])⟩
            rw [prB_ofT hdr, if_neg (by rw [w]; decide)] at he
            exact ih (i + 1) C N (some q) (by omega) hacc hxs' hF2 hMC hWC he
      refine ⟨fun w => go _ ?_, fun w => go _ ?_⟩
      · rw [hop, if_neg (by rw [w]; decide)]
      · rw [hop, if_pos (eq_true_of_ne_false w)]
  have i14 := hA.2.2.2.2.2.2.2.1 (Or.inl h6)
  refine e_X5_drawSecond (b_X5_drawSecond_0 h.1.1 (by omega) ?_)
  rw [hA.2.2.1.2.2]
  refine ⟨hA.1.1, kp_drawer h (by omega) ⟨_, rfl, Ext.refl _, ?_⟩⟩
  rw [hdre, i14]
  refine kp_worthOfCut (by omega) h hA ha g2 (by omega) d2 d1 (fun B hFB => ⟨_, rfl, hFB.ext, ?_⟩)
  have hXB := h.sp hFB
  have hAB := gaX.we h hA ha (sp_we hFB)
  rw [hAB.2.2.1.2.1, hAB.2.2.1.2.2]
  refine kp_cutsOf hXB (by omega) (by omega) g2 (fun C N hFC hWC => ⟨_, rfl, hFC.ext (mnT_ok hXB), ?_⟩)
  exact key (lsL L (gOp G) (gLe G)) 0 C N none (by omega) (fun q hq2 => by cases hq2) (fun x hx => by
    have := (lsL_ok (by omega) hx).1
    omega) ((sp_we hFB).trans (mn_we (by omega) (ms_mn hFC))) (hXB.ms (by omega) hFC) hWC rfl
theorem kp_takeOne {a d : Nat} {G : GamT} {mv : List Nat} (hd : 3 ≤ d) (h : MX M la pr L P g ot) (hA : gaX M a la pr L G mv) (ha : 66 < a) (hK : GOK L P G) (h7 : gPh G = 7)
    (hq : ∀ B, Frr weS (mnT 4) M B → MX B la pr L P g ot → mI B 38 9 = chI (sbF L P g ot G) → Q (some (vI (zI (sgI g (vlO (sbF L P g ot G)))))) B) : Cl X d 0 0 m_X5_takeOne [vR 38, vR a] M Q := by
  have hdr := drF_le h.2.2.2.2.1 ot ((L.2.1 - gLe G) % P.1)
  have hL := h.2.1.2.2
  have hs4 := hL.2.1
  obtain ⟨g1, g2, g3, g4, g5, g6, g7, g8, g9, g10, g11⟩ := hK
  obtain ⟨hle, htu⟩ := g8 (by omega)
  obtain ⟨d1, d2⟩ := g9 (Or.inr (Or.inr h7))
  obtain ⟨s1, s2⟩ := g10 h7
  have et : (L.2.1 - gLe G) % P.1 = gTu G := by rw [htu]; congr 1; omega
  have hmo : moF P ot G = 1 - drF P ot ((L.2.1 - gLe G) % P.1) := by unfold moF; rw [if_pos (by omega), et]
  have es : sbF L P g ot G = ofT (grB g (1 - drF P ot ((L.2.1 - gLe G) % P.1))) (some (cwL L g (gDr G) (gOp G) (gLe G), 0)) 1 (cwL L g (gSe G) (gOp G) (gLe G)) := by
    unfold sbF
    rw [if_neg (by omega), if_neg (by omega), if_neg (by omega), if_pos h7, hmo]
    rfl
  rw [es] at hq
  generalize hdre : drF P ot ((L.2.1 - gLe G) % P.1) = dr at hdr hq
  have fb := cwb L g (gDr G) (gOp G) (m := gLe G) (by omega)
  have fsb := sgI_b g fb
  have wb := cwb L g (gSe G) (gOp G) (m := gLe G) (by omega)
  have wsb := sgI_b g wb
  refine e_X5_takeOne (b_X5_takeOne_0 h.1.1 (by omega) ?_)
  rw [hA.2.2.2.2.2.2.2.1 (Or.inr h7)]
  refine ⟨hA.1.1, kp_worthOfCut (by omega) h hA ha g2 (by omega) d2 d1 (fun B hFB => ⟨_, rfl, hFB.ext, ?_⟩)⟩
  have hXB := h.sp hFB
  have hAB := gaX.we h hA ha (sp_we hFB)
  rw [hAB.2.2.2.2.2.2.2.2 h7]
  refine kp_worthOfCut (by omega) hXB hAB ha g2 (by omega) s2 s1 (fun C hFC => ⟨_, rfl, hFC.ext, ?_⟩)
  have hXC := hXB.sp hFC
  have hAC := gaX.we hXB hAB ha (sp_we hFC)
  rw [hAC.2.2.1.2.2]
  refine kp_drawer hXC (by omega) ⟨_, rfl, Ext.refl _, ?_⟩
  rw [hdre, na_sub hdr]
  refine kp_prefers (by omega) (by omega) (by omega) ⟨_, rfl, Ext.refl _, ?_⟩
  rw [bI_0]
  have hF2 : Frr weS (mnT 4) M C := (sp_we hFB).trans (sp_we hFC)
  have eo := prB_ofT (g := g) (dr := 1 - dr) (q := (cwL L g (gDr G) (gOp G) (gLe G), 0)) (c := 1) (v := cwL L g (gSe G) (gOp G) (gLe G)) (by omega)
  rw [eo] at hq
  dsimp only at hq
  refine ⟨fun w => ?_, fun w => ?_⟩
  · rw [if_neg (by rw [w]; decide)] at hq
    refine b_X5_takeOne_48 hXC.1.1 (fun M1 e1 => ⟨fun _ => ?_, fun z => absurd (by rw [w]; rfl) z⟩)
    obtain ⟨t1, t2, t3⟩ := mn_self (m := 4) hXC (by omega) e1
    exact hq M1 (hF2.trans (mn_we (by omega) t1)) t2 t3
  · have w := eq_true_of_ne_false w
    rw [if_pos w] at hq
    refine b_X5_takeOne_48 hXC.1.1 (fun M1 e1 => ⟨fun z => absurd z (by rw [w]; decide), fun _ => ?_⟩)
    obtain ⟨t1, t2, t3⟩ := mn_self (m := 4) hXC (by omega) e1
    exact hq M1 (hF2.trans (mn_we (by omega) t1)) t2 t3
end WEIGH
