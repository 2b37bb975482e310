/-! THE CLASS: what is kept of protocols in lands -/
def ansV (L : LandT) (P : ProT) (w : Nat) : Int32 := if w < 3 then zI (sgI w (vnF L P w false (stG L P))) else zI (vnF L P 0 true (stG L P))
theorem MX.tr {n : Nat} {la pr g : Nat} {ot : Bool} {L : LandT} {P : ProT} {M B : Mem} (h : MX M la pr L P g ot) (hG : GaS M 67) (hl : 75 ≤ la) (hp : 75 ≤ pr) (hF : Frr (gxS 67 n) (stT 67) M B) : MX B la pr L P g ot := by
  obtain ⟨⟨h1, ⟨h2, h3⟩, ⟨h4, h5, h6⟩, h7, h8⟩, h9, h10, h11, h12, h13, h14⟩ := h
  have hT := stT_ok h11 hG
  have hE := hF.ext hT
  have no : ∀ b k, 37 < b → b < 67 → ¬ gxS 67 n b k := fun b k q1 q2 => gx_no q1 (Or.inl q2)
  have nT : ∀ b k, 37 < b → b < 67 → ¬ stT 67 b k := fun b k q1 q2 w => by unfold stT slT at w; omega
  refine ⟨⟨h1.ext hE, ⟨(hF.r (nT _ _ (by decide) (by decide))).trans h2, (hF.r (nT _ _ (by decide) (by decide))).trans h3⟩, ⟨(hF.i (no _ _ (by decide) (by decide))).trans h4, (hF.i (no _ _ (by decide) (by decide))).trans h5, h6⟩, fun k hk => ?_, h8.eq (fun k => hF.i (no _ _ (by decide) (by decide))) (fun k => hF.i (no _ _ (by decide) (by decide)))⟩, h9.rr hF hT (fun b k q1 q2 => gx_no (by omega) (Or.inr (by omega))), h10.rr hF hT (fun b k q1 q2 => gx_no (by omega) (Or.inr (by omega))), h11.rr hF hT (fun w => by
    rcases w with w | w
    · exact sl_no18 w
    · omega), h12, h13, h14⟩
  obtain ⟨k1, k2, k3⟩ := h7 k hk
  exact ⟨(hF.r (nT _ _ (by decide) (by decide))).trans k1, k2.ext hE, (hF.i (no _ _ (by omega) (by omega))).trans k3⟩
section KEPT
variable {X : Cx} {d : Nat} {M : Mem} {s : StT} {T : AdT} {Q : Option AV → Mem → Prop}
/-- one more answer is kept -/
theorem CI.an {l p w : Nat} {v : Int32} (h : CI M s T) (hl : l < sNl s) (hp : p < sNp s) (hw : w < 5) (hv : v = (if w < 3 then zI (sgI w (vnF (sLs s l) (sPs s p) w false (stG (sLs s l) (sPs s p)))) else if w = 3 then zI (vnF (sLs s l) (sPs s p) 0 true (stG (sLs s l) (sPs s p))) else edI (sLs s l) (sPs s p))) : CI (sI M 72 (5 * (8 * l + p) + w) v) s T ∧ OFr M (sI M 72 (5 * (8 * l + p) + w) v) := by
  have h8 := h.1.2.2.2.1.1
  refine h.mi (Fr.sI (S := miS) (Or.inr (Or.inr (Or.inr (Or.inr rfl))))).rr ⟨⟨h.2.2.2.2.2.2.2.1.1.1, h.2.2.2.2.2.2.2.1.1.2⟩, fun l' p' ot' g' hl' hp' hg' e1 e2 e3 e4 => ?_⟩ (fun l' p' w' hl' hp' hw' => ?_)
  · rw [mR_sI] at e1 e2
    rw [mI_sI_a (by decide)] at e3 e4
    exact (h.2.2.2.2.2.2.2.1.2 l' p' ot' g' hl' hp' hg' e1 e2 e3 e4).eq (fun k => mI_sI_a (by decide)) (fun k => mI_sI_a (by decide))
  · by_cases z : 5 * (8 * l' + p') + w' = 5 * (8 * l + p) + w
    · have z1 : l' = l ∧ p' = p ∧ w' = w := by omega
      obtain ⟨rfl, rfl, rfl⟩ := z1
      exact Or.inr ⟨hl, hp, by rw [mI_sI_eq]; exact hv⟩
    · rw [mI_sI_i z]
      exact h.2.2.2.2.2.2.2.2.1 l' p' w' hl' hp' hw'
theorem kp_answer {l p w : Nat} (hd : 24 ≤ d) (h : CI M s T) (hl : l < sNl s) (hp : p < sNp s) (hw : w < 4) (h14 : mI M (aLa T l) 14 = nI 0) (hq : ∀ B, CI B s T → OFr M B → mI B (aLa T l) 14 = nI 0 → Q (some (vI (ansV (sLs s l) (sPs s p) w))) B) : Cl X d 0 0 m_X10_answer [vR 1, vI (nI l), vI (nI p), vI (nI w)] M Q := by
  have h6 := h.1.2.2.1.1
  have h8 := h.1.2.2.2.1.1
  have hO := h.1.2.2.1.2 l hl
  have hP := h.1.2.2.2.1.2 p hp
  have ll := h.lo hl
  have lp := h.lp hp
  have hR := (h.2.2.2.1 l hl).ok hO h14
  have eI : (l * 8 + p) * 5 + w = 5 * (8 * l + p) + w := by omega
  have hI : 5 * (8 * l + p) + w < 240 := by omega
  have hin : vp_in (nI (5 * (8 * l + p) + w)) 240 := na_in hI (by decide)
  have eE : inN (nI l) (sNl s) = some l := inN_nI (by omega) hl
  have eP : inN (nI p) (sNp s) = some p := inN_nI (by omega) hp
  refine e_X10_answer (b_X10_answer_0 h.1.1 (by omega) (kp_readyLand (by omega) h (fun e => by rw [eE] at e; cases e) (fun k M1 e hk h1 hO1 hR1 h141 => ⟨_, rfl, hO1.2.2, ?_⟩)))
  obtain rfl : l = k := Option.some.inj (eE.symm.trans e)
  refine kp_protocolAt h1 (fun e2 => by rw [eP] at e2; cases e2) (fun j e2 hj => ⟨_, rfl, Ext.refl _, fun z => absurd z (by omega), fun _ => ⟨fun _ x1 e1 => ?_, fun z => absurd z (by have := h1.lp hj; omega)⟩⟩)
  obtain rfl : p = j := Option.some.inj (eP.symm.trans e2)
  have hq := fun (B : Mem) (c1 : CI B s T) (c2 : OFr M1 B) (c3 : mI B (aLa T l) 14 = nI 0) => hq B c1 (hO1.trans c2) c3
  have hR := hR1
  have h := h1
  have h14 := h141
  have fin : ∀ g ot, g < 3 → ansV (sLs s l) (sPs s p) w = zI (sgI g (vnF (sLs s l) (sPs s p) g ot (stG (sLs s l) (sPs s p)))) → WA X d 0 0 m_X10_answer 91 [some (vR 1), none, none, none, some (vR (aLa T l)), some (vR (aPa T p)), some (vI (nI (5 * (8 * l + p) + w))), none] [vI (nI g), vI (bI ot), vR (aPa T p), vR (aLa T l), vR 38] M1 Q := fun g ot hg hv => by
    refine b_X10_answer_91 h.1.1 (by omega) ⟨h.1.1.k13, kp_tn (by omega) h hl hp hg hR (fun B hF c1 c2 hX hE => ⟨rfl, hE, ?_⟩)⟩
    have hG := c1.1.1.k14
    refine kp_start (by omega) (by decide) (by omega) (by omega) hX.2.1 hX.2.2.2.1 hX.2.2.1 hP ⟨by omega, by omega⟩ hG (fun C hFC hA => ⟨rfl, hFC.ext (stT_ok hX.2.2.2.1 hG), ?_⟩)
    have hXC := hX.tr hG (by omega) (by omega) hFC
    refine kp_weigh (by omega) hXC hA (by decide) (stG_ok hO hP).1 (PHK_pl hP []) (fun D hFD hXD hch => ⟨_, rfl, hFD.ext (mnT_ok hXC), hin, fun M4 e4 => ⟨hin, ?_⟩⟩)
    have hFBD := (hFC.mono (fun b k q => tr_mj q) (fun b k q => tr_mt q)).trans (hFD.mono (fun b k q => we_mj q) (fun b k q => we_mt q))
    obtain ⟨f1, f2⟩ := c1.mx hl hp hFBD hXD.1
    have hv2 : zI (sgI g (vnF (sLs s l) (sPs s p) g ot (stG (sLs s l) (sPs s p)))) = (if w < 3 then zI (sgI w (vnF (sLs s l) (sPs s p) w false (stG (sLs s l) (sPs s p)))) else if w = 3 then zI (vnF (sLs s l) (sPs s p) 0 true (stG (sLs s l) (sPs s p))) else edI (sLs s l) (sPs s p)) := by
      rw [← hv]
      unfold ansV
      by_cases z : w < 3
      · rw [if_pos z, if_pos z]
      · rw [if_neg z, if_neg z, if_pos (by omega)]
    obtain ⟨g1, g2⟩ := f1.an hl hp (show w < 5 by omega) hv2
    have e14 : mI M4 (aLa T l) 14 = nI 0 := by
      rw [e4, na_ix (by omega), mI_sI_a (by omega), hFBD.i (mjS_no (by omega)), hF.i (fun q => by unfold tuS at q; omega)]
      exact h14
    rw [e4, na_ix (by omega)] at e14 ⊢
    rw [mI_sI_eq]
    have q := hq _ g1 ((c2.trans f2).trans g2) e14
    rw [hv] at q
    exact q
  rw [pk_mul, nI_add, pk_mul, nI_add, eI] at e1
  rw [e1, na_ix (by omega)]
  refine ⟨hin, fun z => ⟨hin, ?_⟩, fun z => ⟨fun w3 => ?_, fun w3 => ?_⟩⟩
  · rcases h.2.2.2.2.2.2.2.2.1 l p w (by omega) (by omega) (by omega) with q | ⟨-, -, q⟩
    · exact absurd q z
    · have := hq M1 h OFr.refl h14
      unfold ansV at this
      rw [q]
      by_cases w3 : w < 3
      · rw [if_pos w3] at this ⊢; exact this
      · rw [if_neg w3] at this ⊢
        rw [if_pos (by omega)]; exact this
  · rw [na_eq (by omega) (by decide)] at w3
    refine b_X10_answer_61 h.1.1 ⟨fun _ => ?_, fun q => absurd rfl q⟩
    exact b_X10_answer_81 h.1.1 ⟨fun _ => fin w false (by omega) (by unfold ansV; rw [if_pos (by omega)]), fun q => absurd rfl q⟩
  · rw [na_eq (by omega) (by decide)] at w3
    refine b_X10_answer_61 h.1.1 ⟨fun q => absurd q (by decide), fun _ => ?_⟩
    exact b_X10_answer_81 h.1.1 ⟨fun q => absurd q (by decide), fun _ => fin 0 true (by decide) (by unfold ansV; rw [if_neg (by omega)]; rfl)⟩
theorem kp10_sure {l p g : Int32} (hd : 26 ≤ d) (h : CI M s T) (hq : ansQ M s T Q (aSure s l p g)) : Cl X d 0 0 m_X10_sure [vR 1, vI l, vI p, vI g] M Q := by
  have h6 := h.1.2.2.1.1
  have h8 := h.1.2.2.2.1.1
  unfold aSure bothN at hq
  refine e_X10_sure (b_X10_sure_0 h.1.1 (by omega) (kp_readyLand (by omega) h (fun e => ⟨_, rfl, Ext.refl _, fun _ => ?_, fun z => absurd rfl z⟩) (fun k B e hk hB hO hR h14 => ⟨_, rfl, hO.2.2, fun z => absurd z (by have := h.lo hk; omega), fun _ => ?_⟩)))
  · rw [e] at hq; exact hq M h OFr.refl
  · rw [e] at hq
    dsimp only at hq
    refine kp_protocolAt hB (fun e2 => ⟨_, rfl, Ext.refl _, fun _ => ?_, fun z => absurd rfl z⟩) (fun j e2 hj => ⟨_, rfl, Ext.refl _, fun z => absurd z (by have := h.lp hj; omega), fun _ => kp_isGoal ⟨_, rfl, Ext.refl _, fun z => ?_, fun z => ?_⟩⟩)
    · rw [e2] at hq; exact hq B hB hO
    · rw [bI_n0] at z
      rw [e2] at hq
      dsimp only at hq
      cases ho : inN g 3 with
      | none => rw [ho] at z; cases z
      | some o =>
        rw [ho] at hq
        dsimp only at hq
        obtain ⟨a1, a2⟩ := inN_some (by omega) e
        obtain ⟨b1, b2⟩ := inN_some (by omega) e2
        obtain ⟨c1, c2⟩ := inN_some (by decide) ho
        rw [a1, b1, c1]
        refine kp_answer (by omega) hB hk hj (by omega) h14 (fun C hC hOC _ => ⟨_, rfl, hOC.2.2, ?_⟩)
        unfold ansV
        rw [if_pos c2]
        exact kp_asGoal c2 ⟨_, rfl, Ext.refl _, hq C hC (hO.trans hOC)⟩
    · rw [bI_0] at z
      rw [e2] at hq
      dsimp only at hq
      cases ho : inN g 3 with
      | none => rw [ho] at hq; exact hq B hB hO
      | some o => rw [ho] at z; cases z
theorem kp10_first {l p : Int32} (hd : 26 ≤ d) (h : CI M s T) (hq : ansQ M s T Q (aFirst s l p)) : Cl X d 0 0 m_X10_first [vR 1, vI l, vI p] M Q := by
  have h6 := h.1.2.2.1.1
  have h8 := h.1.2.2.2.1.1
  unfold aFirst bothN at hq
  refine e_X10_first (b_X10_first_0 h.1.1 (by omega) (kp_readyLand (by omega) h (fun e => ⟨_, rfl, Ext.refl _, fun _ => ?_, fun z => absurd rfl z⟩) (fun k B e hk hB hO hR h14 => ⟨_, rfl, hO.2.2, fun z => absurd z (by have := h.lo hk; omega), fun _ => ?_⟩)))
  · rw [e] at hq; exact hq M h OFr.refl
  · rw [e] at hq
    dsimp only at hq
    refine kp_protocolAt hB (fun e2 => ⟨_, rfl, Ext.refl _, fun z => absurd rfl z, fun _ => ?_⟩) (fun j e2 hj => ⟨_, rfl, Ext.refl _, fun _ => ?_, fun z => absurd z (by have := h.lp hj; omega)⟩)
    · rw [e2] at hq; exact hq B hB hO
    · rw [e2] at hq
      dsimp only at hq
      obtain ⟨a1, a2⟩ := inN_some (by omega) e
      obtain ⟨b1, b2⟩ := inN_some (by omega) e2
      rw [a1, b1]
      refine kp_answer (by omega) hB hk hj (by decide) h14 (fun C hC hOC h15 => ⟨_, rfl, hOC.2.2, ?_⟩)
      refine kp_answer (by omega) hC hk hj (by decide) h15 (fun D hD hOD _ => ⟨_, rfl, hOD.2.2, ?_⟩)
      have e3 : ansV (sLs s k) (sPs s j) 0 - ansV (sLs s k) (sPs s j) 3 = zI (vnF (sLs s k) (sPs s j) 0 false (stG (sLs s k) (sPs s j)) - vnF (sLs s k) (sPs s j) 0 true (stG (sLs s k) (sPs s j))) := zI_sub _ _
      rw [e3]
      exact hq D hD ((hO.trans hOC).trans hOD)
end KEPT
