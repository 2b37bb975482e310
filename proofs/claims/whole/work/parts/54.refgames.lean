/-! THE REFERENCE: protocols, lands' facts, games -/
def protS (s : StT) : StT := if sNp s = 8 then s else match (protT (sZ s) (sT s)).1 with
  | some _ => s
  | none => ((0, sT s), s.2.1, (sNp s + 1, fun p => if p = sNp s then (protT (sZ s) (sT s)).2 else sPs s p), s.2.2.2)
def aProt (s : StT) : Int32 := if sNp s = 8 then -1 else match (protT (sZ s) (sT s)).1 with
  | some _ => -1
  | none => nI (sNp s)
theorem mm_nat {L : LandT} {G : GamT} {x : Int32} (hn : L.1 ≤ 9) (hle : gLe G ≤ 4) (h : mmB L G x = true) : ∃ c, x = nI c ∧ c < 2 ^ 31 := by
  have h4 := p4 hn
  have h8 := p8 hn
  have ic : icB L x (gOp G) (gLe G) = true → ∃ c, x = nI c ∧ c < 2 ^ 31 := fun h => by
    obtain ⟨c, c1, c2, -, -⟩ := icB_some hn h
    exact ⟨c, c1, by omega⟩
  have inn : ∀ n, n ≤ 4 → (inN x n).isSome = true → ∃ c, x = nI c ∧ c < 2 ^ 31 := fun n hn4 h => by
    obtain ⟨j, hj⟩ := Option.isSome_iff_exists.mp h
    obtain ⟨j1, j2⟩ := inN_some (by omega) hj
    exact ⟨j, j1, by omega⟩
  unfold mmB at h
  split at h
  · exact ic h
  · split at h
    · exact inn _ hle h
    · split at h
      · obtain ⟨c, c1, c2, -, -⟩ := ihB_some hn h
        exact ⟨c, c1, by omega⟩
      · split at h
        · rw [Bool.and_eq_true] at h; exact ic h.1
        · split at h
          · rw [Bool.and_eq_true] at h; exact ic h.1
          · split at h
            · rw [Bool.and_eq_true] at h; exact ic h.1
            · split at h
              · exact inn 2 (by omega) h
              · cases h
theorem take_snoc {mv : List Nat} {k x : Nat} (h : mv[k]? = some x) : mv.take (k + 1) = mv.take k ++ [x] := by
  rw [List.take_succ, h]; rfl
section GAMES
variable {X : Cx} {s : StT} {M : Mem} {Q : Option AV → Mem → Prop}
theorem rf_protocol {dd : Nat} (hd : 6 ≤ dd) (hR : RI M s) (h : ∀ B, Fr rfS M B → RI B (protS s) → Q (some (vI (aProt s))) B) : Cl X dd 0 0 m_X11_protocol [vR 75] M Q := by
  have hl := hR.2.1.2.2.1.1
  have hz := hR.2.1.1.1
  have hlw := protT_w (sZ s) (sT s) hz
  unfold protS aProt at h
  refine e_X11_protocol (b_X11_protocol_0 hR.1 (by omega) ?_)
  rw [hR.2.2.2.2.1.1, na_eq (by omega) (by omega)]
  refine ⟨fun q => ?_, fun q => ?_⟩
  · rw [if_pos q, if_pos q] at h; exact h M Fr.refl hR
  · rw [if_neg q, if_neg q] at h
    refine sp_readProtocol (by omega) hR.1 hR.2.2.1 (by omega) (fun B j hF hB => ⟨_, rfl, hF.ext.trans pst_fr.ext, fun q2 M2 e2 M3 e3 => ?_, fun q2 => ?_⟩)
    · rw [oI_none (fun f hf => by have := hlw f hf; omega)] at q2
      rw [q2] at h
      obtain ⟨hLo, hLd⟩ := hB q2
      have hRB := (hR.ro hF (Nat.le_refl _)).sc (poS_sc (pst_fr (w := (protT (sZ s) (sT s)).1) (i := j)))
      have hLB : rPro (pst B (protT (sZ s) (sT s)).1 j) (sNp s) (protT (sZ s) (sT s)).2 := hLd.fr pst_fr (fun a i a1 a2 z => by unfold poS at z; omega)
      have hFB : Fr rfS M (pst B (protT (sZ s) (sT s)).1 j) := (roS_rf hF).trans (sc_rf (poS_sc pst_fr))
      generalize pst B (protT (sZ s) (sT s)).1 j = B1 at hRB hLB hFB e2
      obtain ⟨h1, h2, h3, h4, h5, h6, h7⟩ := hRB
      have e216 : mI M2 75 16 = nI (sNp s) := by rw [e2, mI_sI_i (by decide)]; exact h5.1
      have hF3 : Fr (fun a k => a = 75 ∧ (k = 2 ∨ k = 16)) B1 M3 := by rw [e3, e2]; exact (Fr.sI ⟨rfl, Or.inl rfl⟩).trans (Fr.sI ⟨rfl, Or.inr rfl⟩)
      have e316 : mI M3 75 16 = nI (sNp s + 1) := by rw [e3, mI_sI_eq, e216, nI_add]
      rw [e316, na_sub (by omega), Nat.add_sub_cancel]
      have hL' : ∀ l, l < sNp s + 1 → ProOK (if l = sNp s then (protT (sZ s) (sT s)).2 else sPs s l) := fun l hl' => by
        by_cases hq : l = sNp s
        · rw [if_pos hq]; exact hLo
        · rw [if_neg hq]; exact h2.2.2.1.2 l (by omega)
      refine h M3 (hFB.trans (hF3.mono (fun a k z => by unfold rfS; omega))) ⟨h1.fr hF3, ⟨⟨by show 0 ≤ 300; omega, fun i hi => by have hi : i < 0 := hi; omega⟩, h2.2.1, ⟨by show sNp s + 1 ≤ 8; omega, hL'⟩, h2.2.2.2.1, fun g hg => ?_⟩, ⟨by rw [e3, mI_sI_i (by decide), e2, mI_sI_eq]; rfl, by show 0 ≤ 300; omega, fun i hi => by have hi : i < 0 := hi; omega⟩, ⟨(hF3.at (by omega)).trans h4.1, fun l hl' => (h4.2 l hl').fr hF3 (fun a i a1 a2 z => by omega)⟩, ⟨e316, fun l hl' => ?_⟩, (hF3.at (by omega)).trans h6, fun g hg => ?_⟩
      · obtain ⟨g1, g2, g3⟩ := h2.2.2.2.2 g hg
        refine ⟨g1, by show (sGs s g).2.1 < sNp s + 1; omega, ?_⟩
        show lgM _ (if (sGs s g).2.1 = sNp s then _ else sPs s (sGs s g).2.1) _
        rw [if_neg (by omega)]; exact g3
      · show rPro M3 l (if l = sNp s then (protT (sZ s) (sT s)).2 else sPs s l)
        by_cases hq : l = sNp s
        · rw [if_pos hq, hq]; exact hLB.fr hF3 (fun a i a1 a2 z => by omega)
        · rw [if_neg hq]
          exact (h5.2 l (by have hl' : l < sNp s + 1 := hl'; omega)).fr hF3 (fun a i a1 a2 z => by omega)
      · obtain ⟨g1, g2, g3, g4, g5⟩ := h7 g hg
        obtain ⟨-, y1, -⟩ := h2.2.2.2.2 g hg
        refine ⟨(hF3.at (by omega)).trans g1, (hF3.at (by omega)).trans g2, (hF3.at (by omega)).trans g3, g4.fr hF3 (fun k _ => by omega), fun k hk => ?_⟩
        show _ = nI (gPh (plG _ (if (sGs s g).2.1 = sNp s then _ else sPs s (sGs s g).2.1) _))
        rw [if_neg (by omega), hF3.at (by omega)]
        exact g5 k hk
    · rw [oI_none (fun f hf => by have := hlw f hf; omega)] at q2
      cases hc : (protT (sZ s) (sT s)).1 with
      | none => exact absurd hc q2
      | some f =>
        rw [hc] at h
        exact h _ ((roS_rf hF).trans (sc_rf (poS_sc pst_fr))) ((hR.ro hF (Nat.le_refl _)).sc (poS_sc pst_fr))
def aTold (nl : Nat) (Ls : Nat → LandT) (l w : Int32) : Int32 := match inN l nl with
  | none => -1
  | some k => match inN w 7 with
    | none => -1
    | some v => if v = 0 then nI (Ls k).1 else if v = 1 then nI (Ls k).2.1 else if v = 2 then nI (LdLo (Ls k)) else if v = 3 then nI (LdHi (Ls k)) else nI (allV (Ls k) (v - 4))
theorem rf_told {dd : Nat} {l w : Int32} (hd : 3 ≤ dd) (hR : RI M s) (h : Q (some (vI (aTold (sNl s) (sLs s) l w))) M) : Cl X dd 0 0 m_X11_told [vR 75, vI l, vI w] M Q := by
  have hl := hR.lds
  have h6 := hl.2.1
  unfold aTold at h
  refine e_X11_told (b_X11_told_0 hR.1 (by omega) (sp_isLand (by omega) hR.1 hl.1 (by omega) ⟨_, rfl, Ext.refl _, fun q => ?_, fun q => ?_⟩))
  · have := bI_0.mp q
    cases hs : inN l (sNl s) with
    | none => rw [hs] at h; exact h
    | some j => rw [hs] at this; cases this
  have := bI_n0.mp q
  cases hs : inN l (sNl s) with
  | none => rw [hs] at this; cases this
  | some k =>
  rw [hs] at h
  dsimp only at h
  obtain ⟨f1, f2⟩ := inN_some (by omega) hs
  subst f1
  obtain ⟨hO, hL⟩ := hl.2.2 k f2
  refine sp_inN (n := 7) (by decide) (by decide) ⟨_, rfl, Ext.refl _, fun q => ?_, fun q => ?_⟩
  · have := bI_n0.mp q
    cases hw : inN w 7 with
    | none => rw [hw] at this; cases this
    | some v =>
      rw [hw] at h
      dsimp only at h
      obtain ⟨k1, k2⟩ := inN_some (by decide) hw
      subst k1
      have hin : vp_in (nI k) 7 := na_in (by omega) (by omega)
      have hx : ix (nI k) = k := na_ix (by omega)
      refine ⟨fun c0 => ⟨fun c1 => ⟨fun c2 => ⟨fun c3 => ?_, fun c3 => ⟨hin, ?_⟩⟩, fun c2 => ⟨hin, ?_⟩⟩, fun c1 => ⟨hin, ?_⟩⟩, fun c0 => ⟨hin, ?_⟩⟩
      · rw [na_eq (by omega) (by omega)] at c0 c1 c2 c3
        rw [if_neg c0, if_neg c1, if_neg c2, if_neg c3] at h
        rw [na_sub (by omega)]
        exact sp_allVotes (by omega) hR.1 (by omega) (by omega) hL hO.1.2 ⟨_, rfl, Ext.refl _, h⟩
      · rw [na_eq (by omega) (by omega)] at c0 c1 c2 c3
        rw [if_neg c0, if_neg c1, if_neg c2, if_pos c3] at h
        rw [hx, hL.2.2.2.1]; exact h
      · rw [na_eq (by omega) (by omega)] at c0 c1 c2
        rw [if_neg c0, if_neg c1, if_pos c2] at h
        rw [hx, hL.2.2.1]; exact h
      · rw [na_eq (by omega) (by omega)] at c0 c1
        rw [if_neg c0, if_pos c1] at h
        rw [hx, hL.2.1]; exact h
      · rw [na_eq (by omega) (by omega)] at c0
        rw [if_pos c0] at h
        rw [hx, hL.1]; exact h
  · have := bI_0.mp q
    cases hw : inN w 7 with
    | none => rw [hw] at h; exact h
    | some j => rw [hw] at this; cases this
/-- what is told of a parish, if there is such a one -/
def oPar (nl : Nat) (Ls : Nat → LandT) (l p w : Int32) : Option Nat := match inN l nl with
  | none => none
  | some k => match inN p (Ls k).1 with
    | none => none
    | some q => match inN w 5 with
      | none => none
      | some v => some (if v < 3 then LdV (Ls k) q v else if v = 3 then LdB (Ls k) q else clo (LdT (Ls k)) (Ls k).1 (2 ^ q))
theorem rf_parish {dd : Nat} {l p w : Int32} (hd : 4 ≤ dd) (hR : RI M s) (h : ∀ B, Fr scS M B → RI B s → mI B 75 0 = (match oPar (sNl s) (sLs s) l p w with | none => nI 1 | some _ => nI 0) → Q (some (vI (match oPar (sNl s) (sLs s) l p w with | none => nI 0 | some v => nI v))) B) : Cl X dd 0 0 m_X11_parish [vR 75, vI l, vI p, vI w] M Q := by
  have hl := hR.lds
  have h6 := hl.2.1
  have none' : oPar (sNl s) (sLs s) l p w = none → WA X dd 0 0 m_X11_parish 23 [some (vR 75), some (vI l), some (vI p), some (vI w)] [vR 75] M Q := fun hn => by
    rw [hn] at h
    refine b_X11_parish_23 hR.1 (b_X11_parish_24 hR.1 (by omega) (fun M1 e1 => ⟨fun q => absurd (by rw [e1, mI_sI_eq]) q, fun _ => ?_⟩))
    have hF : Fr scS M M1 := by rw [e1]; exact Fr.sI (by unfold scS; omega)
    exact h M1 hF (hR.sc hF) (by rw [e1, mI_sI_eq])
  refine e_X11_parish (b_X11_parish_0 hR.1 (by omega) (sp_isParish (by omega) hR.1 hl ⟨_, rfl, Ext.refl _, fun q => ?_, fun q => ?_⟩))
  · have := bI_0.mp q
    unfold ipB at this
    refine none' ?_
    unfold oPar
    cases hs : inN l (sNl s) with
    | none => rfl
    | some k =>
      rw [hs] at this
      dsimp only at this ⊢
      cases hp : inN p (sLs s k).1 with
      | none => rfl
      | some j => rw [hp] at this; cases this
  · have := bI_n0.mp q
    unfold ipB at this
    cases hs : inN l (sNl s) with
    | none => rw [hs] at this; cases this
    | some k =>
      rw [hs] at this
      dsimp only at this
      obtain ⟨f1, f2⟩ := inN_some (by omega) hs
      obtain ⟨hO, hL⟩ := hl.2.2 k f2
      have h9 := hO.1
      cases hp : inN p (sLs s k).1 with
      | none => rw [hp] at this; cases this
      | some j =>
        obtain ⟨j1, j2⟩ := inN_some (by omega) hp
        refine sp_inN (n := 5) (by decide) (by decide) ⟨_, rfl, Ext.refl _, fun q2 => ?_, fun q2 => ?_⟩
        · have := bI_0.mp q2
          refine none' ?_
          unfold oPar
          rw [hs]
          dsimp only
          rw [hp]
          dsimp only
          cases hw : inN w 5 with
          | none => rfl
          | some v => rw [hw] at this; cases this
        · have := bI_n0.mp q2
          cases hw : inN w 5 with
          | none => rw [hw] at this; cases this
          | some v =>
            obtain ⟨k1, k2⟩ := inN_some (by decide) hw
            unfold oPar at h
            simp only [hs, hp, hw] at h
            subst f1
            subst j1
            subst k1
            refine b_X11_parish_24 hR.1 (by omega) (fun M1 e1 => ⟨fun _ => ?_, fun z => absurd (by rw [← z, e1, mI_sI_eq]) (show ¬ nI 0 = nI 1 by decide)⟩)
            have hF : Fr scS M M1 := by rw [e1]; exact Fr.sI (by unfold scS; omega)
            have hR1 := hR.sc hF
            obtain ⟨-, hL1⟩ := hR1.lds.2.2 k f2
            have h9 := h M1 hF hR1 (by rw [e1, mI_sI_eq])
            refine ⟨fun q3 => ⟨fun q4 => ?_, fun q4 => ?_⟩, fun q3 => ?_⟩
            · rw [na_le (by omega) (by omega)] at q3
              rw [na_eq (by omega) (by omega)] at q4
              rw [if_neg (by omega), if_neg q4] at h9
              rw [na_1shl (by omega)]
              exact sp_staying hR1.1 (by omega) hL1 hO.1.2 (fun p => (hO.2.2.2.2.2.2.1 p).2) (Nat.pow_lt_pow_right (by decide) j2) ⟨_, rfl, Ext.refl _, h9⟩
            · rw [na_le (by omega) (by omega)] at q3
              rw [na_eq (by omega) (by omega)] at q4
              rw [if_neg (by omega), if_pos q4] at h9
              rw [pk_mul, nI_add, na_ix (by omega), (hL1.2.2.2.2 j (by omega)).2.1]
              exact ⟨na_in (by omega) (by omega), h9⟩
            · rw [na_le (by omega) (by omega)] at q3
              rw [if_pos (by omega)] at h9
              refine sp_voteAt ⟨_, rfl, Ext.refl _, na_in (by omega) (by omega), ?_⟩
              rw [na_ix (by omega), (hL1.2.2.2.2 j (by omega)).1 v (by omega)]
              exact h9
theorem rf_thrown {dd : Nat} {v : Int32} (hS : RfS M) (h0 : mI M 75 0 = v) (h : Q (some (vI v)) M) : Cl X dd 0 0 m_X11_thrown [vR 75] M Q := by
  refine e_X11_thrown (b_X11_thrown_0 hS ?_)
  rw [h0]; exact h
theorem sp_goThrough {dd g : Nat} (hd : 26 ≤ dd) (hR : RI M s) (hg : g < sNg s) (h : ∀ B, Fr scS M B → RI B s → rH B (sGs s g).1 (sLs s (sGs s g).1) → rGS B (sGs s g).2.1 false (gmO s g) → Q none B) : Cl X dd 0 0 m_X11_goThrough [vR 75, vI (nI g)] M Q := by
  have h8 := hR.2.1.2.2.2.1
  have hl := hR.lds
  have h6 := hl.2.1
  have hp8 := hR.2.1.2.2.1.1
  obtain ⟨y1, y2, y3⟩ := hR.2.1.2.2.2.2 g hg
  obtain ⟨g1, g2, g3, g4, g5⟩ := hR.2.2.2.2.2.2 g hg
  obtain ⟨hO, hL⟩ := hl.2.2 _ y1
  have hPO := hR.2.1.2.2.1.2 _ y2
  have hmv := (pl_ok hO hPO _ _ rfl y3).2.2
  have hs4 := hO.2.1.2.1
  unfold gmO at h
  generalize hGs : sGs s g = Gs at *
  obtain ⟨l, p, mv⟩ := Gs
  dsimp only at *
  have hin : vp_in (nI g) 8 := na_in (by omega) (by omega)
  have hx : ix (nI g) = g := na_ix (by omega)
  have key : ∀ r k (B : Mem), k + r = mv.length → Fr scS M B → RI B s → rH B l (sLs s l) → rGS B p false (plG (sLs s l) (sPs s p) (mv.take k)) → WA X dd 0 0 m_X11_goThrough 32 [some (vR 75), some (vI (nI g)), some (vI (nI k))] [] B Q := by
    intro r
    induction r with
    | zero =>
      intro k B hk hF hRB hH hG
      obtain rfl : k = mv.length := by omega
      obtain ⟨z1, z2, z3, z4, z5⟩ := hRB.2.2.2.2.2.2 g hg
      rw [hGs] at z3
      have z3 : mI B 101 g = nI mv.length := z3
      refine b_X11_goThrough_32 hRB.1 (by omega) ⟨hin, fun _ => ?_, fun q => absurd (by rw [hx, z3, na_le (by omega) (by omega)]; exact Nat.le_refl _) q⟩
      rw [List.take_length] at hG
      exact h B hF hRB hH hG
    | succ r ih =>
      intro k B hk hF hRB hH hG
      obtain ⟨z1, z2, z3, z4, z5⟩ := hRB.2.2.2.2.2.2 g hg
      rw [hGs] at z3 z4 z5
      have z3 : mI B 101 g = nI mv.length := z3
      have hkk : mv[k]? = some (mv.getD k 0) := by
        simp only [List.getD]
        rw [List.getElem?_eq_getElem (by omega)]; rfl
      obtain ⟨m1, m2⟩ := y3 k _ hkk
      obtain ⟨a, b, c⟩ := pl_ok hO hPO _ _ rfl (lgM_take y3 k)
      have e1 : nI 12 * nI g + nI k = nI (12 * g + k) := by rw [pk_mul, nI_add]
      have e84 := z4 _ _ hkk
      have e85 := z5 (k + 1) (by dsimp only; omega)
      dsimp only at e85
      rw [take_snoc hkk, plG_snoc] at e85
      refine b_X11_goThrough_32 hRB.1 (by omega) ⟨hin, fun q => ?_, fun _ => ?_⟩
      · rw [hx, z3, na_le (by omega) (by omega)] at q; omega
      rw [e1, nI_add, na_ix (k := 12 * g + k) (by omega), na_ix (k := 12 * g + k + 1) (by omega), e84, Nat.add_assoc, e85]
      refine ⟨na_in (by omega) (by omega), na_in (by omega) (by omega), sp_makeMove (by omega) hH (by omega) hPO (hRB.2.2.2.2.1.2 p y2) hG a (mm_8 m1) m2 (Or.inr rfl) (fun B2 hF2 hH2 hG2 => ⟨rfl, hF2.ext, na_in (by omega) (by omega), fun M2 e2 => ?_⟩)⟩
      have hR2 := hRB.sc (sgS_sc hF2)
      obtain ⟨w1, w2, w3, w4, w5⟩ := hR2.2.2.2.2.2.2 g hg
      rw [hGs] at w5
      have e85b := w5 (k + 1) (by dsimp only; omega)
      dsimp only at e85b
      rw [take_snoc hkk, plG_snoc] at e85b
      rw [e85b, sI_self hG2.2.2.2.2.2.1] at e2
      subst e2
      rw [nI_add]
      exact ih (k + 1) _ (by omega) (hF.trans (sgS_sc hF2)) hR2 hH2 (by rw [take_snoc hkk, plG_snoc]; exact hG2)
  refine e_X11_goThrough (b_X11_goThrough_0 hR.1 (by omega) ⟨hin, hin, ?_⟩)
  rw [hx, g1, g2]
  refine sp_startGame (ot := false) (by omega) hR.1 (by omega) hL hO (by omega) hPO (hR.2.2.2.2.1.2 p y2) (fun B hF hH hG => ⟨rfl, hF.ext, by rw [pk_mul]; exact na_in (by omega) (by omega), fun M2 e2 => ?_⟩)
  have hRB := hR.sc hF
  obtain ⟨z1, z2, z3, z4, z5⟩ := hRB.2.2.2.2.2.2 g hg
  rw [hGs] at z5
  have e85 := z5 0 (by omega)
  rw [Nat.add_zero] at e85
  rw [pk_mul, na_ix (by omega), e85] at e2
  have e29 : mI B 75 29 = nI (gPh (plG (sLs s l) (sPs s p) (mv.take 0))) := hG.2.2.2.2.2.1
  rw [sI_self e29] at e2
  subst e2
  exact key mv.length 0 _ (by omega) hF hRB hH hG
end GAMES
