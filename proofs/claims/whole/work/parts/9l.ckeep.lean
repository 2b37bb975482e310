/-! THE CLASS: one seat is kept, at the mind's best -/
def AH (X : Cx) (la pr : Nat) (L : LandT) (P : ProT) (g : Nat) (ot : Bool) (m : Nat) : Prop := ∀ (o d : Nat) (M : Mem) (Q : Option AV → Mem → Prop), o < 2 ^ L.1 → m ≤ L.2.1 → 3 * m + 8 ≤ d → MX M la pr L P g ot → (∀ B, Frr (mnS m) (mnT m) M B → MX B la pr L P g ot → (1 ≤ m → mI B 38 9 = chI (rbF L P g ot m o)) → Q (some (vI (zI (sgI g (cmF L P g ot m o))))) B) → Cl X d 0 0 m_X5_ahead [vR 38, vI (nI o), vI (nI m)] M Q
/-- the best for the keeper so far -/
def kbI (g dr : Nat) (acc : Option (Int × Nat)) : Int × Int32 := match acc with
  | none => (if 1 - dr = 0 then -100 else 100, -1)
  | some q => (sgI g q.1, nI q.2)
theorem fk_ge {gr : Bool} {f : Nat → Int} : ∀ j s (q q' : Int × Nat), fldR (fun acc s => ofT gr acc s (f s)) j s (some q) = some q' → if gr then q.1 ≤ q'.1 else q'.1 ≤ q.1
  | 0, s, q, q', h => by
    have h : some q = some q' := h
    cases h
    cases gr <;> simp
  | j + 1, s, q, q', h => by
    rw [fldR] at h
    by_cases hc : (if gr = true then q.1 < f s else f s < q.1)
    · have e : ofT gr (some q) s (f s) = some (f s, s) := if_pos hc
      rw [e] at h
      have := fk_ge j (s + 1) _ _ h
      cases gr <;> simp at hc this ⊢ <;> omega
    · have e : ofT gr (some q) s (f s) = some q := if_neg hc
      rw [e] at h
      exact fk_ge j (s + 1) _ _ h
theorem ofT_B {gr : Bool} {b : Option (Int × Nat)} {n : Nat} {v K : Int} (hb : ∀ q, b = some q → -K ≤ q.1 ∧ q.1 ≤ K) (hv : -K ≤ v ∧ v ≤ K) : ∀ q, ofT gr b n v = some q → -K ≤ q.1 ∧ q.1 ≤ K := fun q h => by
  unfold ofT at h
  cases b with
  | none => cases h; exact hv
  | some x =>
    dsimp only at h
    by_cases hc : (if gr = true then x.1 < v else v < x.1)
    · rw [if_pos hc] at h; cases h; exact hv
    · rw [if_neg hc] at h; cases h; exact hb _ rfl
section KEEP
variable {X : Cx} {la pr g : Nat} {ot : Bool} {L : LandT} {P : ProT} {M : Mem} {Q : Option AV → Mem → Prop}
theorem kp_keepOne {m o c hb d : Nat} {H : Int} (hA : AH X la pr L P g ot (m - 1)) (hd : 3 * m + 6 ≤ d) (h : MX M la pr L P g ot) (hm : 1 ≤ m ∧ m ≤ L.2.1) (ho : o < 2 ^ L.1) (hk : isK M hb 14 8) (hhb : 43 + 6 * (m - 1) ≤ hb ∧ ((hb ≠ 47 ∧ hb ≠ 53 ∧ hb ≠ 59 ∧ hb ≠ 65))) (hp : ∀ s, s < m → mI M hb s = nI (sOB 2 L.1 c o s)) (hH : -200 ≤ H ∧ H ≤ 200) (hH2 : prB (drF P ot ((L.2.1 - m) % P.1)) (kbI g (drF P ot ((L.2.1 - m) % P.1)) none).1 H = true)
    (hq : ∀ B r n, Frr (mnS (m - 1)) (mnT (m - 1)) M B → MX B la pr L P g ot → mI B 38 9 = nI n → (-20 ≤ r ∧ r ≤ 20) → (fkF L g (cmF L P g ot (m - 1)) c o m (!grB g (drF P ot ((L.2.1 - m) % P.1))) = some (r, n) ∨ (prB (drF P ot ((L.2.1 - m) % P.1)) (sgI g r) H = false ∧ prB (drF P ot ((L.2.1 - m) % P.1)) (sgI g (vlO (fkF L g (cmF L P g ot (m - 1)) c o m (!grB g (drF P ot ((L.2.1 - m) % P.1)))))) H = false)) → Q (some (vI (zI (sgI g r)))) B) : Cl X d 0 0 m_X5_keepOne [vR 38, vR hb, vI (nI o), vI (nI m), vI (zI H)] M Q := by
  have hdr := drF_le h.2.2.2.2.1 ot ((L.2.1 - m) % P.1)
  generalize hdre : drF P ot ((L.2.1 - m) % P.1) = dr at hdr hH2 hq
  have hL := h.2.1.2.2
  have hs4 := hL.2.1
  have hg3 := h.1.2.2.1.2.2
  have sub1 : nI m - nI 1 = nI (m - 1) := na_sub (a := m) (b := 1) hm.1
  have d1 : nI 1 - nI dr = nI (1 - dr) := na_sub hdr
  have hgn : grB g (1 - dr) = !grB g dr := grB_not hdr
  have kt : ∀ s, -20 ≤ ktF L g (cmF L P g ot (m - 1)) c o s ∧ ktF L g (cmF L P g ot (m - 1)) c o s ≤ 20 := fun s => by
    have h1 := woL_b g (wnL L (sOB 2 L.1 c o s))
    have h2 := cmF_b9 (L := L) (P := P) (g := g) (ot := ot) (m := m - 1) (by omega) (dif o (sOB 2 L.1 c o s))
    unfold ktF; omega
  have key : ∀ j s (B : Mem) (acc : Option (Int × Nat)), s + j = m → (acc = none ↔ s = 0) → (∀ q, acc = some q → -20 ≤ q.1 ∧ q.1 ≤ 20) → Frr (mnS m) (mnT m) M B → Frr (mnS (m - 1)) (mnT (m - 1)) M B → MX B la pr L P g ot → fldR (fun acc s => ofT (!grB g dr) acc s (ktF L g (cmF L P g ot (m - 1)) c o s)) j s acc = fkF L g (cmF L P g ot (m - 1)) c o m (!grB g dr) → WA X d 0 0 m_X5_keepOne 22 [some (vR 38), some (vR hb), some (vI (nI o)), some (vI (nI m)), some (vI (zI H)), some (vI (nI dr)), some (vI (zI (kbI g dr acc).1)), some (vI (kbI g dr acc).2), some (vI (nI s)), none] [] B Q := by
    intro j
    induction j with
    | zero =>
      intro s B acc hs hacc hab hF hF1 hX he
      obtain rfl : s = m := by omega
      have he : acc = fkF L g (cmF L P g ot (s - 1)) c o s (!grB g dr) := he
      cases acc with
      | none => exact absurd (hacc.mp rfl) (by omega)
      | some q =>
        obtain ⟨v, n⟩ := q
        have hvb := hab _ rfl
        refine b_X5_keepOne_22 hX.1.1 (by omega) ⟨fun _ => ?_, fun w => absurd (by rw [na_le (by omega) (by omega)]; exact Nat.le_refl _) w⟩
        refine b_X5_keepOne_101 hX.1.1 (fun M1 e1 => hq M1 v n (hF1.trans ?_) ?_ ?_ hvb (Or.inl he.symm))
        · rw [e1]; exact ms_mn ch_ms
        · rw [e1]; exact hX.ms (m := s) (by omega) ch_ms
        · rw [e1, mI_sI_eq]; rfl
    | succ j ih =>
      intro s B acc hs hacc hab hF hF1 hX he
      have kb : -200 ≤ (kbI g dr acc).1 ∧ (kbI g dr acc).1 ≤ 200 := by
        cases acc with
        | none => show -200 ≤ (if 1 - dr = 0 then (-100 : Int) else 100) ∧ (if 1 - dr = 0 then (-100 : Int) else 100) ≤ 200; split <;> omega
        | some q =>
          have := sgI_b g (hab q rfl)
          show -200 ≤ sgI g q.1 ∧ sgI g q.1 ≤ 200
          omega
      have ktb := kt s
      have ksb := sgI_b g ktb
      have hseat := sOB_lt 2 L.1 c o s
      refine b_X5_keepOne_22 hX.1.1 (by omega) ⟨fun w => absurd (by rw [na_le (by omega) (by omega)] at w; omega) (id : False → False), fun _ => ?_⟩
      refine kp_prefers (by omega) (by omega) hdr ⟨_, rfl, Ext.refl _, ?_⟩
      rw [bI_0]
      refine ⟨fun w => ?_, fun w => ?_⟩
      · -- the drawer has as much already
        cases acc with
        | none => rw [hH2] at w; cases w
        | some q =>
          obtain ⟨b, n⟩ := q
          have w : prB dr (sgI g b) H = false := w
          refine b_X5_keepOne_101 hX.1.1 (fun M1 e1 => hq M1 b n (hF1.trans ?_) ?_ ?_ (hab _ rfl) (Or.inr ⟨w, ?_⟩))
          · rw [e1]; exact ms_mn ch_ms
          · rw [e1]; exact hX.ms (m := m) (by omega) ch_ms
          · rw [e1, mI_sI_eq]; rfl
          · cases hfk : fkF L g (cmF L P g ot (m - 1)) c o m (!grB g dr) with
            | none =>
              rw [hfk] at he
              have := fld_some (gr := !grB g dr) (f := fun s => ktF L g (cmF L P g ot (m - 1)) c o s) (j + 1) s (some (b, n)) (Or.inl (by omega))
              rw [he] at this; cases this
            | some q' =>
              rw [hfk] at he
              have hge := fk_ge (j + 1) s _ _ he
              show prB dr (sgI g q'.1) H = false
              have hbb := prB_of (g := g) (pl := 1 - dr) (x := b) (y := q'.1) (by omega)
              rw [hgn] at hbb
              have hno : prB (1 - dr) (sgI g b) (sgI g q'.1) = false := by
                rw [hbb]
                cases hgr : grB g dr <;> rw [hgr] at hge <;> simp at hge ⊢ <;> omega
              unfold prB at w hno ⊢
              rcases (show dr = 0 ∨ dr = 1 by omega) with rfl | rfl <;> simp at w hno ⊢ <;> omega
      have w : prB dr (kbI g dr acc).1 H = true := eq_true_of_ne_false w
      have hpB : mI B hb s = nI (sOB 2 L.1 c o s) := by rw [hF1.i (by unfold mnS; omega)]; exact hp s (by omega)
      rw [hX.1.2.1.1, hX.1.2.2.1.2.1, na_ix (by omega), hpB]
      refine ⟨8, hF1.k hk, na_in (by omega) (by decide), hX.2.1.1.1, kp_worth hX.2.1 hseat hg3 ⟨_, rfl, Ext.refl _, na_in (by omega) (by decide), ?_⟩⟩
      rw [hpB, na_dif, sub1]
      refine hA (dif o (sOB 2 L.1 c o s)) (d - 1) B _ (dif_lt ho) (by omega) (by omega) hX (fun C hFC hXC hch => ⟨_, rfl, mn_ext hX hFC, fun x4 e4 => ?_⟩)
      rw [zI_add, wcL_sg, ← sgI_add] at e4
      have e4 : x4 = zI (sgI g (ktF L g (cmF L P g ot (m - 1)) c o s)) := e4
      rw [e4, d1]
      refine kp_prefers (by omega) (by omega) (by omega) ⟨_, rfl, Ext.refl _, ?_⟩
      rw [bI_0, nI_add]
      have hFC2 := hF.trans (mn_mono (Nat.sub_le m 1) hFC)
      have hFC1 := hF1.trans hFC
      rw [fldR] at he
      refine ⟨fun w2 => ?_, fun w2 => ?_⟩
      · cases acc with
        | none =>
          have w2 : prB (1 - dr) (sgI g (ktF L g (cmF L P g ot (m - 1)) c o s)) (if 1 - dr = 0 then -100 else 100) = false := w2
          unfold prB at w2
          rcases (show dr = 0 ∨ dr = 1 by omega) with rfl | rfl <;> simp at w2 <;> omega
        | some q =>
          obtain ⟨b, n⟩ := q
          have w2 : prB (1 - dr) (sgI g (ktF L g (cmF L P g ot (m - 1)) c o s)) (sgI g b) = false := w2
          rw [prB_of (by omega), hgn] at w2
          have e : ofT (!grB g dr) (some (b, n)) s (ktF L g (cmF L P g ot (m - 1)) c o s) = some (b, n) := by
            unfold ofT
            dsimp only
            rw [if_neg]
            cases hgr : grB g dr <;> rw [hgr] at w2 <;> simp at w2 ⊢ <;> omega
          rw [e] at he
          exact ih (s + 1) C (some (b, n)) (by omega) ⟨fun z => (by cases z), fun z => (by omega)⟩ hab hFC2 hFC1 hXC he
      · have w2 := eq_true_of_ne_false w2
        have e : ofT (!grB g dr) acc s (ktF L g (cmF L P g ot (m - 1)) c o s) = some (ktF L g (cmF L P g ot (m - 1)) c o s, s) := by
          cases acc with
          | none => rfl
          | some q =>
            obtain ⟨b, n⟩ := q
            have w2 : prB (1 - dr) (sgI g (ktF L g (cmF L P g ot (m - 1)) c o s)) (sgI g b) = true := w2
            rw [prB_of (by omega), hgn] at w2
            unfold ofT
            dsimp only
            rw [if_pos]
            cases hgr : grB g dr <;> rw [hgr] at w2 <;> simp at w2 ⊢ <;> omega
        rw [e] at he
        exact ih (s + 1) C _ (by omega) ⟨fun z => (by cases z), fun z => (by omega)⟩ (fun q hq2 => by cases hq2; exact ktb) hFC2 hFC1 hXC he
  refine e_X5_keepOne (b_X5_keepOne_0 h.1.1 (by omega) (kp_drawer h hm ⟨_, rfl, Ext.refl _, ?_⟩))
  rw [hdre, d1]
  refine kp_worstFor (by omega) ⟨_, rfl, Ext.refl _, ?_⟩
  exact key m 0 M none (by omega) ⟨fun _ => rfl, fun _ => rfl⟩ (fun q hq2 => by cases hq2) Frr.refl Frr.refl h rfl
end KEEP
