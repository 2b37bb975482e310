/-! THE REFERENCE: ended, worst, worse -/
section WORST
variable {X : Cx} {s : StT} {Q : Option AV → Mem → Prop}
theorem sp_keptCut {d l : Nat} {L : LandT} {ks : List Nat} {M : Mem} (hH : rH M l L) (hk : ks.length ≤ 4) (hks : stL M 92 0 ks) (hkb : ∀ s, s ∈ ks → s < 2 ^ L.1) (hfs : ∀ q, q < L.1 → fsK ks q < ks.length ∧ (ks.getD (fsK ks q) 0).testBit q = true ∧ ∀ i, i < fsK ks q → (ks.getD i 0).testBit q = false)
    (h : ∀ B, Fr nmS M B → Q (some (vI (nI (rnF (fun q => fsK ks q % 4) L.1).2.2))) B) : Cl X d 0 0 m_X11_keptCut [vR 75] M Q := by
  have hb := hH.b
  have h512 := p9 hb.2.1
  have hD4 : ∀ q, fsK ks q % 4 < 4 := fun q => Nat.mod_lt _ (by decide)
  have main : ∀ r p (B : Mem), p + r = L.1 → Fr nmS M B → (∀ i, i < 4 → mI B 91 i = oI ((rnF (fun q => fsK ks q % 4) p).1 i)) → WA X d 0 0 m_X11_keptCut 26 [some (vR 75), some (vI (nI (rnF (fun q => fsK ks q % 4) p).2.2)), some (vI (nI (rnF (fun q => fsK ks q % 4) p).2.1)), some (vI (nI p)), none] [] B Q := by
    intro r
    induction r with
    | zero =>
      intro p B hp2 hF hB
      obtain rfl : p = L.1 := by omega
      have hHB := hH.nm hF
      exact b_X11_keptCut_26 hHB.1 ⟨hHB.i, fun _ => h B hF, fun q => absurd (by rw [hHB.n, na_le (by omega) (by omega)]; omega) q⟩
    | succ r ih =>
      intro p B hp2 hF hB
      have hHB := hH.nm hF
      obtain ⟨f1, f2, f3⟩ := hfs p (by omega)
      have hDe : fsK ks p % 4 = fsK ks p := Nat.mod_eq_of_lt (by omega)
      obtain ⟨o1, o2, o3, o4⟩ := rnF_ok hD4 p
      have hcn := cnO_le (rnF (fun q => fsK ks q % 4) p).1 4
      have hpw : 4 ^ p ≤ 4 ^ 9 := Nat.pow_le_pow_right (by decide) (by omega)
      have h49 : (4 : Nat) ^ 9 = 262144 := rfl
      have hn := fun B' hF' => ih (p + 1) B' (by omega) hF'
      have seek : ∀ j i, i + j = fsK ks p → WA X d 0 0 m_X11_keptCut 42 [some (vR 75), some (vI (nI (rnF (fun q => fsK ks q % 4) p).2.2)), some (vI (nI (rnF (fun q => fsK ks q % 4) p).2.1)), some (vI (nI p)), some (vI (nI i))] [] B Q := by
        intro j
        induction j with
        | zero =>
          intro i hi
          obtain rfl : i = fsK ks p := by omega
          have hgi : ks[fsK ks p]? = some (ks.getD (fsK ks p) 0) := by
            simp only [List.getD]
            rw [List.getElem?_eq_getElem f1]; rfl
          have hkl := hkb _ (List.mem_of_getElem? hgi)
          have e := hks _ _ hgi
          rw [Nat.zero_add] at e
          have e : mI B 92 (fsK ks p) = nI (ks.getD (fsK ks p) 0) := by rw [hF.at (by unfold nmS; omega)]; exact e
          have hin : vp_in (nI (fsK ks p)) 4 := na_in (by omega) (by omega)
          have hx : ix (nI (fsK ks p)) = fsK ks p := na_ix (by omega)
          refine b_X11_keptCut_42 hHB.1 ⟨hin, fun q => ⟨hin, fun q2 => ?_, fun q2 => ⟨hin, fun M1 e1 => ?_⟩⟩, fun q => ?_⟩
          · rw [hx, hB _ (by omega)] at q2
            cases hcase : (rnF (fun q => fsK ks q % 4) p).1 (fsK ks p) with
            | none => rw [hcase] at q2; exact absurd rfl q2
            | some y =>
              refine b_X11_keptCut_84 hHB.1 ⟨hin, fun x1 e1 => ?_⟩
              rw [hx, hB _ (by omega), hcase, show oI (some y) = nI y from rfl, pk_mul, nI_add] at e1
              have := hn B hF
              simp only [rnF, hDe, hcase] at this
              rw [e1, nI_add]
              exact this hB
          · rw [hx, hB _ (by omega)] at q2
            rw [hx] at e1
            cases hcase : (rnF (fun q => fsK ks q % 4) p).1 (fsK ks p) with
            | some y => have := o2 _ _ hcase; rw [hcase] at q2; exact absurd q2 (na_m1 (a := y) (by omega))
            | none =>
              have hF1 : Fr nmS M M1 := by rw [e1]; exact hF.trans (Fr.sI rfl)
              refine b_X11_keptCut_84 (hH.nm hF1).1 ⟨hin, fun x1 ex => ?_⟩
              rw [hx, e1, mI_sI_eq, pk_mul, nI_add] at ex
              have := hn M1 hF1
              simp only [rnF, hDe, hcase] at this
              rw [ex, nI_add, nI_add]
              refine this (fun i hi => ?_)
              rw [e1, mI_sI]
              by_cases hi2 : i = fsK ks p
              · rw [if_pos ⟨rfl, hi2⟩, if_pos hi2]; rfl
              · rw [if_neg (fun z => hi2 z.2), if_neg hi2]; exact hB i hi
          · rw [hx, e, bit0 (by omega) (by omega), f2] at q
            cases q
        | succ j jh =>
          intro i hi
          have hgi : ks[i]? = some (ks.getD i 0) := by
            simp only [List.getD]
            rw [List.getElem?_eq_getElem (by omega)]; rfl
          have hkl := hkb _ (List.mem_of_getElem? hgi)
          have e := hks _ _ hgi
          rw [Nat.zero_add] at e
          have e : mI B 92 i = nI (ks.getD i 0) := by rw [hF.at (by unfold nmS; omega)]; exact e
          refine b_X11_keptCut_42 hHB.1 ⟨na_in (by omega) (by omega), fun q => ?_, fun _ => ?_⟩
          · rw [na_ix (k := i) (by omega), e, bit0 (by omega) (by omega)] at q
            exact absurd (f3 i (by omega)) q
          · rw [nI_add]; exact jh (i + 1) (by omega)
      refine b_X11_keptCut_26 hHB.1 ⟨hHB.i, fun q => ?_, fun _ => seek (fsK ks p) 0 (by omega)⟩
      rw [hHB.n, na_le (by omega) (by omega)] at q; omega
  have init : ∀ r i (B : Mem), i + r = 4 → Fr nmS M B → (∀ j, j < i → mI B 91 j = (-1)) → WA X d 0 0 m_X11_keptCut 6 [some (vR 75), some (vI (nI 0)), some (vI (nI 0)), some (vI (nI i)), none] [] B Q := by
    intro r
    induction r with
    | zero =>
      intro i B hs2 hF hB
      obtain rfl : i = 4 := by omega
      exact b_X11_keptCut_6 (hH.nm hF).1 ⟨fun _ => main L.1 0 B (by omega) hF (fun i hi => hB i hi), fun q => absurd (by decide) q⟩
    | succ r ih =>
      intro i B hs2 hF hB
      refine b_X11_keptCut_6 (hH.nm hF).1 ⟨fun q => ?_, fun _ => ⟨na_in (by omega) (by omega), fun M1 e1 => ?_⟩⟩
      · rw [na_le (by omega) (by omega)] at q; omega
      · rw [na_ix (by omega)] at e1
        rw [nI_add]
        refine ih (i + 1) M1 (by omega) (by rw [e1]; exact hF.trans (Fr.sI rfl)) (fun j hj => ?_)
        rw [e1, mI_sI]
        by_cases hi2 : j = i
        · rw [if_pos ⟨rfl, hi2⟩]
        · rw [if_neg (fun z => hi2 z.2)]; exact hB j (by omega)
  exact e_X11_keptCut (b_X11_keptCut_0 hH.1 (init 4 0 M (by omega) Fr.refl (fun i hi => by omega)))
theorem sp_endedOf {d l p : Nat} {M : Mem} (hd : 58 ≤ d) (hR : RI M s) (hl : l < sNl s) (hp : p < sNp s) (h : ∀ B, Fr scS M B → RI B s → rH B l (sLs s l) → Q (some (vI (oI (enL (sLs s l) (sPs s p))))) B) : Cl X d 0 0 m_X11_endedOf [vR 75, vI (nI l), vI (nI p)] M Q := by
  have h6 := hR.2.1.2.1.1
  have h8 := hR.2.1.2.2.1.1
  obtain ⟨hO, hL⟩ := hR.lds.2.2 l hl
  have hPO := hR.2.1.2.2.1.2 p hp
  have hs4 := hO.2.1.2.1
  have loop : ∀ (f : Nat) (G : GamT) (B : Mem), Fr scS M B → VG B l p (sLs s l) (sPs s p) 0 false G → GCV (sLs s l) G → GNE (sLs s l) G → muG (sLs s l) G < f → edF (sLs s l) (sPs s p) f G = enG (sLs s l) (sPs s p) →
      WA X d 0 0 m_X11_endedOf 12 [some (vR 75), none, none] [] B Q := by
    intro f
    induction f with
    | zero => intro G B _ _ _ _ hm; omega
    | succ f ih =>
      intro G B hF hVG hV hN hm he
      have hRB := hR.sc hF
      have hK := hVG.2.2
      have hph := hK.1
      have hk3 := hK.2.2.1
      unfold edF at he
      refine b_X11_endedOf_12 hVG.1.1.1 (by omega) ?_
      rw [hVG.2.1.2.2.2.2.2.1, na_le (by omega) (by omega), na_eq (by omega) (by omega)]
      refine ⟨fun q => ⟨fun q9 => ?_, fun q9 => ?_⟩, fun q => ?_⟩
      · rw [if_pos q] at he
        obtain ⟨z1, z2, z3, z4⟩ := keF_ok hO hK hV (by omega)
        refine sp_keptCut hVG.1.1 (by omega) hVG.2.1.2.2.2.2.2.2.2.1 (fun s hs => (hK.2.2.2.2.2.2.1 s hs).1) z3 (fun B2 hF2 => ⟨_, rfl, hF2.ext, ?_⟩)
        have h9 := h B2 (hF.trans (nmS_sc hF2)) (hRB.sc (nmS_sc hF2)) (hVG.1.1.nm hF2)
        unfold enL at h9
        rw [← he, if_neg q9] at h9
        exact h9
      · rw [if_pos q] at he
        have h9 := h B hF hRB hVG.1.1
        unfold enL at h9
        rw [← he, if_pos q9] at h9
        exact h9
      · rw [if_neg q] at he
        obtain ⟨r, hr, hm1, hm2⟩ := sbF_ok (g := 0) (ot := false) hO hK hN (by omega)
        rw [hr] at he
        dsimp only at he
        refine sp_seekBest (by omega) hVG (by omega) (fun B2 hF2 hVG2 _ => ⟨_, rfl, hF2.ext, ?_⟩)
        rw [hr]
        obtain ⟨a1, a2, a3⟩ := mvG_ok hO hPO hK hV (by omega) hm2 hm1
        have hne := mvG_ne (P := sPs s p) hO hK (by omega) hm2 hm1
        exact sp_makeMove (by omega) hVG2.1.1 (by omega) hPO hVG2.1.2.2.2.1 hVG2.2.1 hK (by omega) hm2 (Or.inl rfl) (fun B3 hF3 hH3 hG3 => ⟨rfl, hF3.ext, ih _ B3 ((hF.trans (ssS_sc hF2)).trans (sgS_sc hF3)) ⟨hVG2.1.sg hF3 hH3 hG3, hG3, a1⟩ a2 hne (by show muG (sLs s l) (mvG (sLs s l) (sPs s p) G r.2) < f; omega) he⟩)
  refine e_X11_endedOf (b_X11_endedOf_0 hR.1 (by omega) (sp_startGame (ot := false) (by omega) hR.1 (by omega) hL hO (by omega) hPO (hR.2.2.2.2.1.2 p hp) (fun B hF hH hG => ⟨rfl, hF.ext, ?_⟩)))
  have hRB := hR.sc hF
  refine sp_begin (g := 0) hRB.1 (fun B2 hF2 h36 h80 => ⟨rfl, hF2.ext, ?_⟩)
  obtain ⟨a, b, c⟩ := stG_ok hO hPO
  have hVG := VGof hH (by omega) hPO (hRB.2.2.2.2.1.2 p hp) hG a (by decide) hF2 h36 h80
  exact loop 9 _ B2 (hF.trans (ssS_sc hF2)) hVG b (GNE_sr _ _) (by omega) rfl
def aEnded (s : StT) (l p : Int32) : Int32 := match bothN s l p with
  | none => -1
  | some q => oI (enL (sLs s q.1) (sPs s q.2))
theorem rf_ended {dd : Nat} {l p : Int32} {M : Mem} (hd : 60 ≤ dd) (hR : RI M s) (h : ∀ B, Fr scS M B → RI B s → Q (some (vI (aEnded s l p))) B) : Cl X dd 0 0 m_X11_ended [vR 75, vI l, vI p] M Q := by
  unfold aEnded at h
  refine e_X11_ended (b_X11_ended_0 hR.1 (by omega) (sp_isBoth (by omega) hR ⟨_, rfl, Ext.refl _, fun q => ?_, fun q => ?_⟩))
  · have := bI_0.mp q
    cases hb : bothN s l p with
    | none => rw [hb] at h; exact h M Fr.refl hR
    | some y => rw [hb] at this; cases this
  · have := bI_n0.mp q
    cases hb : bothN s l p with
    | none => rw [hb] at this; cases this
    | some y =>
      rw [hb] at h
      dsimp only at h
      obtain ⟨e1, e2, e3, e4⟩ := bothN_some hR hb
      rw [e1, e3]
      exact sp_endedOf (by omega) hR e2 e4 (fun B hF hRB _ => ⟨_, rfl, hF.ext, h B hF hRB⟩)
/-- how far what a protocol ends with is, in a land -/
def frL (L : LandT) (P : ProT) : Option (Nat × Nat) := match enL L P with
  | none => none
  | some c => some (farL L c 0 0, farL L c 0 1)
theorem farL_le {L : LandT} (hO : LdOK L) {c w : Nat} : farL L c 0 w ≤ 10692 := by
  obtain ⟨l1, l2, l3, l4, l5, l6, l7, l8, l9, l10⟩ := hO
  have v0 := allV_le l1.2 l5 0
  have v1 := allV_le l1.2 l5 1
  have v2 := allV_le l1.2 l5 2
  have hwi := wiL_le L c 0
  have hN : allN L ≤ 2673 := by unfold allN; omega
  have m1 : wiL L c 0 * allN L ≤ 4 * 2673 := Nat.mul_le_mul (by omega) hN
  have m2 : allV L 0 * L.2.1 ≤ 891 * 4 := Nat.mul_le_mul v0 (by omega)
  have m3 : L.2.1 * allN L ≤ 4 * 2673 := Nat.mul_le_mul (by omega) hN
  have hD2 : farD L ≤ 10692 := by unfold farD; split <;> omega
  have hU : farU L c 0 ≤ 10692 := by unfold farU; omega
  unfold farL
  split
  · exact Nat.le_trans (Nat.div_le_self _ _) hU
  · exact Nat.le_trans (Nat.div_le_self _ _) hD2
end WORST
