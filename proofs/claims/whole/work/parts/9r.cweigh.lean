/-! THE CLASS: the mind weighs a game -/
def weS (b k : Nat) : Prop := mnS 4 b k ∨ b = 42
section WEIGH
variable {X : Cx} {la pr g : Nat} {ot : Bool} {L : LandT} {P : ProT} {M : Mem} {Q : Option AV → Mem → Prop}
theorem mn_we {m : Nat} {B : Mem} (hm : m ≤ 4) (hF : Frr (mnS m) (mnT m) M B) : Frr weS (mnT 4) M B := (mn_mono hm hF).mono (fun _ _ q => Or.inl q) (fun _ _ q => q)
theorem sp_we {B : Mem} {T : Nat → Nat → Prop} (hF : Fr (atS 42) M B) : Frr weS T M B := (hF.mono (fun _ _ q => Or.inr q)).rr
theorem MX.sp {B : Mem} (h : MX M la pr L P g ot) (hF0 : Fr (atS 42) M B) : MX B la pr L P g ot := by
  obtain ⟨⟨h1, ⟨h2, h3⟩, ⟨h4, h5, h6⟩, h7, h8⟩, h9, h10, h11, h12, h13, h14⟩ := h
  have hF : Frr (atS 42) (fun _ _ => False) M B := hF0.rr
  have hT : ∀ a k ci n, (fun _ _ => False : Nat → Nat → Prop) a k → isK M a ci n → finR ci k = false := fun _ _ _ _ q => q.elim
  have hE := hF0.ext
  refine ⟨⟨h1.ext hE, ⟨(hF.r id).trans h2, (hF.r id).trans h3⟩, ⟨(hF.i (by unfold atS; omega)).trans h4, (hF.i (by unfold atS; omega)).trans h5, h6⟩, fun k hk => ?_, h8.eq (fun k => hF.i (by unfold atS; omega)) (fun k => hF.i (by unfold atS; omega))⟩, h9.rr hF hT (fun b k q1 q2 w => by unfold atS at w; omega), h10.rr hF hT (fun b k q1 q2 w => by unfold atS at w; omega), h11.rr hF hT (fun w => by unfold atS at w; omega), h12, h13, h14⟩
  obtain ⟨k1, k2, k3⟩ := h7 k hk
  exact ⟨(hF.r id).trans k1, k2.ext hE, (hF.i (by unfold atS; omega)).trans k3⟩
theorem we_no {b k : Nat} (h : 66 < b) : ¬ weS b k := fun q => by unfold weS mnS at q; omega
theorem weT_no {b k : Nat} (h : 66 < b) : ¬ mnT 4 b k := mnT_no (by omega) (by omega)
theorem gaX.we {a la2 pr2 : Nat} {G : GamT} {mv : List Nat} {B : Mem} (hX : MX M la pr L P g ot) (hA : gaX M a la2 pr2 L G mv) (ha : 66 < a) (hF : Frr weS (mnT 4) M B) : gaX B a la2 pr2 L G mv := by
  obtain ⟨hC, hM, hK, ⟨p1, p2, p3, p4, p5, p6⟩⟩ := hA
  have i : ∀ b k, 66 < b → mI B b k = mI M b k := fun b k hb => hF.i (we_no hb)
  refine ⟨hC.rr hF (mnT_ok hX) ⟨weT_no ha, weT_no ha⟩, hM.rr hF (we_no ha) (fun k => we_no (by omega)), hK.rr hF ⟨we_no ha, we_no ha, we_no ha⟩ (fun k => we_no (by omega)), (i _ _ ha).trans p1, fun w => (i _ _ ha).trans (p2 w), fun w s hs => (i _ _ (by omega)).trans (p3 w s hs), fun w s hs => (i _ _ (by omega)).trans (p4 w s hs), fun w => (i _ _ ha).trans (p5 w), fun w => (i _ _ ha).trans (p6 w)⟩
theorem kp_worthOfCut {a x d : Nat} {G : GamT} {mv : List Nat} (hd : 2 ≤ d) (h : MX M la pr L P g ot) (hA : gaX M a la pr L G mv) (ha : 66 < a) (ho : gOp G < 2 ^ L.1) (hm : gLe G ≤ 4) (hx : x < 4 ^ L.1) (hic : icN L x (gOp G) (gLe G))
    (hq : ∀ B, Fr (atS 42) M B → Q (some (vI (zI (sgI g (cwL L g x (gOp G) (gLe G)))))) B) : Cl X d 0 0 m_X5_worthOfCut [vR 38, vI (nI x), vR a] M Q := by
  have hL := h.2.1.2.2
  have hn := hL.1.2
  have h512 := p9 hn
  have h49 : 4 ^ L.1 ≤ 4 ^ 9 := Nat.pow_le_pow_right (by decide) hn
  have h49e : (4 : Nat) ^ 9 = 262144 := rfl
  have hin : inN (nI x) (2 ^ (2 * L.1)) = some x := by rw [← p4e]; exact inN_nI (by omega) hx
  refine e_X5_worthOfCut (b_X5_worthOfCut_0 h.1.1 (by omega) ?_)
  rw [h.1.2.1.1, hA.2.2.1.2.1, hA.2.2.1.2.2]
  refine ⟨hA.1.1, h.2.1.1.1, kp_split h.2.1.1.1 h.2.1.1.2.2.1.1 hn (by decide) (by omega) (by omega) h.1.1.k4 (by have := h.2.2.2.2.2.1; omega) (fun hk => absurd hic.1 (hk x hin)) (fun k hk hu B hFB hB => ⟨_, rfl, hFB.ext, fun _ => ?_, fun w => absurd w (by decide)⟩)⟩
  rw [hin] at hk
  cases hk
  have hFB : Fr (atS 42) M B := hFB
  have hXB := h.sp hFB
  have hAB := gaX.we h hA ha (sp_we hFB)
  rw [hXB.1.2.1.1, hAB.2.2.1.2.2, hXB.1.2.2.1.2.1]
  exact ⟨hXB.2.1.1.1, kp_mworth (by omega) hXB hm hXB.1.1.k4 hB ⟨_, rfl, Ext.refl _, hq B hFB⟩⟩
theorem kp_joinHalves {a d dr : Nat} {G : GamT} {mv : List Nat} (hd : gLe G + 3 ≤ d) (h : MX M la pr L P g ot) (hA : gaX M a la pr L G mv) (ha : 66 < a) (hK : GOK L P G) (h4 : gPh G = 4) (hdre : drF P ot ((L.2.1 - gLe G) % P.1) = dr) (hmo : moF P ot G = 1 - dr)
    (hq : ∀ B q, Frr weS (mnT 4) M B → MX B la pr L P g ot → sbF L P g ot G = some q → mI B 38 9 = nI q.2 → (-900 ≤ q.1 ∧ q.1 ≤ 900) → Q (some (vI (zI (sgI g q.1)))) B) : Cl X d 0 0 m_X5_joinHalves [vR 38, vR (a + 3), vI (nI (gLe G))] M Q := by
  have hdr := drF_le h.2.2.2.2.1 ot ((L.2.1 - gLe G) % P.1)
  rw [hdre] at hdr
  have hL := h.2.1.2.2
  have hs4 := hL.2.1
  obtain ⟨g1, g2, g3, g4, g5, g6, g7, g8, g9, g10, g11⟩ := hK
  obtain ⟨hle, -⟩ := g8 (by omega)
  have g11 := g11 h4
  have h8p := p8 hL.1.2
  have hok : nuF 3 L.1 (gDr G) (gOp G) L.1 = some (2 * gLe G) ∧ cpB L (sOB 3 L.1 (gDr G) (gOp G)) (2 * gLe G) 5 0 = true := by
    unfold ihB at g11
    cases hi : inN (nI (gDr G)) (8 ^ L.1) with
    | none => rw [hi] at g11; cases g11
    | some k =>
      rw [hi] at g11
      obtain ⟨e, hk⟩ := inN_some (by omega) hi
      have hxk : gDr G = k := (na_eq g5 (by omega)).mp e
      rw [← hxk] at g11
      dsimp only at g11
      unfold okH at g11
      rw [Bool.and_eq_true, Bool.and_eq_true] at g11
      exact ⟨of_decide_eq_true g11.1, g11.2.2⟩
  obtain ⟨hnu, hcp⟩ := hok
  refine e_X5_joinHalves (b_X5_joinHalves_0 h.1.1 (by omega) (kp_drawer h (by omega) ⟨_, rfl, Ext.refl _, ?_⟩))
  rw [hdre, na_sub hdr, h.1.2.1.1, h.1.2.2.1.2.1]
  refine kp_joinOf (by omega) (by have := h.2.2.2.2.2.1; omega) h.2.1 h.2.2.2.1 (by omega) h.1.2.2.1.2.2 (by omega) hnu (by omega) hA.1.1.k12 (hA.2.2.2.2.2.2.1 h4) (fun D hFD hJD => ⟨_, rfl, (ji_sl hFD).ext (slT_ok h.2.2.2.1), fun M3 e3 => ?_⟩)
  have hs := joW_some (L := L) (P := sOB 3 L.1 (gDr G) (gOp G)) (NU := pcut L (gDr G) (gOp G)) (g := g) (pl := 1 - dr) (m := gLe G) (by omega) (by omega)
  rw [hcp] at hs
  obtain ⟨b, hb⟩ := Option.isSome_iff_exists.mp hs
  rw [hb] at hJD
  obtain ⟨j6, j7, j8, j9, j10⟩ := hJD
  rw [j6] at e3
  have hFD2 := ji_ms (m := 4) hFD
  have hMD := h.ms (by omega) hFD2
  obtain ⟨s1, s2, s3⟩ := mn_self (m := 4) hMD (by omega) e3
  have i7 : mI M3 35 7 = zI b.2 := by rw [e3, mI_sI_a (by decide)]; exact j7
  have hsb := sb_join (ot := ot) (P := P) hL (by omega) h4 hnu hdr hmo hb
  have sbb := sgI_b (n := 900) g (x := b.2) (by omega)
  have h9 := hq M3 _ (mn_we (by omega) ((ms_mn hFD2).trans s1)) s2 hsb s3 sbb
  rw [i7]
  dsimp only at h9
  rw [sgI_sg] at h9; exact h9
end WEIGH
