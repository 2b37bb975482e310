/-! THE CLASS: a protocol's text -/
/-- the phase that a round begins with, by what the round does -/
def kdP (v : Nat) : Nat := if v = 0 then 0 else if v = 1 then 3 else if v = 2 then 5 else 2
/-- what the reader of a protocol has read -/
def kP (M : Mem) (R : ProT) : Prop := mI M 8 0 = nI R.1 ∧ ∀ r, r < R.1 → mI M 9 r = nI (kdP (R.2.2 r)) ∧ mI M 10 r = nI (R.2.1 r)
def pxS (a k : Nat) : Prop := (a = 8 ∧ k = 0) ∨ a = 9 ∨ a = 10
theorem kP.fr {S : Nat → Nat → Prop} {M B : Mem} {R : ProT} (h : kP M R) (hF : Fr S M B) (hS : ∀ a k, 8 ≤ a → a ≤ 10 → ¬ S a k) : kP B R :=
  ⟨(hF.at (hS _ _ (by decide) (by decide))).trans h.1, fun r hr => ⟨(hF.at (hS _ _ (by decide) (by decide))).trans (h.2 r hr).1, (hF.at (hS _ _ (by decide) (by decide))).trans (h.2 r hr).2⟩⟩
theorem px_kT {M B : Mem} {z : Nat} {t : Nat → Nat} (h : kT M z t) (hF : Fr pxS M B) : kT B z t := h.fr hF (by unfold pxS; omega) (fun i => by unfold pxS; omega)
section PTXT
variable {X : Cx} {d : Nat} {z : Nat} {t : Nat → Nat} {M : Mem} {Q : Option AV → Mem → Prop}
/-- the player of a sign -/
def plO (c : Nat) : Int32 := if c = 97 then nI 0 else if c = 98 then nI 1 else (-1)
theorem kp_playerOf {c : Nat} (hc : c < 256) (h : Q (some (vI (plO c))) M) : Cl X d 0 0 m_X7_playerOf [vI (nI c)] M Q := by
  unfold plO at h
  refine e_X7_playerOf (b_X7_playerOf_0 ⟨fun q => ⟨fun q2 => ?_, fun q2 => ?_⟩, fun q => ?_⟩)
  · rw [na_eq (by omega) (by decide)] at q q2
    rw [if_neg q, if_neg q2] at h; exact h
  · rw [na_eq (by omega) (by decide)] at q q2
    rw [if_neg q, if_pos q2] at h; exact h
  · rw [na_eq (by omega) (by decide)] at q
    rw [if_pos q] at h; exact h
def kdO (c : Nat) : Nat := if c = 62 then 0 else if c = 43 then 3 else if c = 47 then 5 else 2
theorem kp_kindOf {c : Nat} (hc : c < 256) (h : Q (some (vI (nI (kdO c)))) M) : Cl X d 0 0 m_X7_kindOf [vI (nI c)] M Q := by
  unfold kdO at h
  have hi := nI_toInt (n := c) (by omega)
  refine e_X7_kindOf (b_X7_kindOf_0 ⟨fun q => ?_, fun q => ?_, fun q => ?_, fun q q2 q3 => ?_⟩)
  · rw [hi] at q
    rw [if_neg (by omega), if_pos (by omega)] at h; exact h
  · rw [hi] at q
    rw [if_neg (by omega), if_neg (by omega), if_pos (by omega)] at h; exact h
  · rw [hi] at q
    rw [if_pos (by omega)] at h; exact h
  · rw [hi] at q q2 q3
    rw [if_neg (by omega), if_neg (by omega), if_neg (by omega)] at h; exact h
theorem kP.add {R : ProT} {v f : Nat} (h : kP M R) (hr : R.1 < 6) : kP (sI (sI (sI M 9 R.1 (nI (kdP v))) 10 R.1 (nI f)) 8 0 (nI (R.1 + 1))) (R.1 + 1, upP R.2.1 R.1 f, upP R.2.2 R.1 v) := by
  obtain ⟨h1, h2⟩ := h
  refine ⟨by rw [mI_sI_eq], fun r hr2 => ?_⟩
  have hr2 : r < R.1 + 1 := hr2
  constructor
  · show _ = nI (kdP (upP R.2.2 R.1 v r))
    unfold upP
    rw [mI_sI_a (by decide), mI_sI_a (by decide), mI_sI]
    by_cases hq : r = R.1
    · rw [if_pos ⟨rfl, hq⟩, if_pos hq]
    · rw [if_neg (fun z => hq z.2), if_neg hq]; exact (h2 r (by omega)).1
  · show _ = nI (upP R.2.1 R.1 f r)
    unfold upP
    rw [mI_sI_a (by decide), mI_sI]
    by_cases hq : r = R.1
    · rw [if_pos ⟨rfl, hq⟩, if_pos hq]
    · rw [if_neg (fun z => hq z.2), if_neg hq, mI_sI_a (by decide)]; exact (h2 r (by omega)).2
theorem kp_round {i : Nat} {R : ProT} (hd : 2 ≤ d) (hS : PtS M 8) (hT : kT M z t) (hi : i ≤ z) (hP : kP M R) (hO : RnOK R)
    (h1 : (rdT z t R i).1 = none → ∀ B, Fr pxS M B → kP B (rdT z t R i).2.2 → Q (some (vI (nI 1))) (kst B none (rdT z t R i).2.1))
    (h2 : ∀ f, (rdT z t R i).1 = some f → ∀ B j, Fr pxS M B → Q (some (vI (nI 0))) (kst B (some f) j)) : Cl X d 0 0 m_X7_readRound [vR 8, vR 2] (kst M none i) Q := by
  have hz := hT.2.2.1
  have hb := chr_lt (i := i) hT
  have hs := skp_le z t i
  have pos : ∀ {j c : Nat}, chr z t j = c → c ≠ 0 → skp z t j < z := fun hc h0 => chr_pos hc h0
  unfold rdT at h1 h2
  have h6 := hO.1
  -- no round
  have no : ((chr z t i ≠ 97 ∧ chr z t i ≠ 98) ∨ R.1 = 6) → WA X d 0 0 m_X7_readRound 22 [some (vR 8), some (vR 2), none, none] [] (kst M none (skp z t i)) Q := fun hc => by
    rw [if_pos hc] at h2
    refine b_X7_readRound_22 (M := kst M none (skp z t i)) hS (by omega) ⟨hT.1, ?_⟩
    rw [kst_2]
    exact kp_refuse hT.1 ⟨_, rfl, ExtK, bI_B false, h2 _ rfl M _ Fr.refl⟩
  -- the round stands
  have yes : ∀ j v f, R.1 < 6 → (∀ B, Fr pxS M B → kP B (R.1 + 1, upP R.2.1 R.1 f, upP R.2.2 R.1 v) → Q (some (vI (nI 1))) (kst B none j)) → WA X d 0 0 m_X7_readRound 78 [some (vR 8), none, some (vI (nI f)), some (vI (nI (kdP v)))] [] (kst M none j) Q := fun j v f hR h => by
    have e8 : mI (kst M none j) 8 0 = nI R.1 := by rw [kst_o (by decide)]; exact hP.1
    refine b_X7_readRound_78 (M := kst M none j) hS ?_
    rw [e8]
    refine ⟨na_in (by omega) (by omega), fun M1 e1 => ?_⟩
    rw [na_ix (by omega), show (8 : Nat) + 1 = 9 from rfl, kst_sI (by decide)] at e1
    have e81 : mI M1 8 0 = nI R.1 := by rw [e1, kst_o (by decide), mI_sI_a (by decide)]; exact hP.1
    rw [e81]
    refine ⟨na_in (by omega) (by omega), fun M2 e2 M3 e3 => ?_⟩
    rw [na_ix (by omega), show (8 : Nat) + 2 = 10 from rfl, e1, kst_sI (by decide)] at e2
    have e82 : mI M2 8 0 = nI R.1 := by rw [e2, kst_o (by decide), mI_sI_a (by decide), mI_sI_a (by decide)]; exact hP.1
    rw [e82, nI_add, e2, kst_sI (by decide)] at e3
    rw [e3]
    exact h _ (((Fr.sI (Or.inr (Or.inl rfl))).trans (Fr.sI (Or.inr (Or.inr rfl)))).trans (Fr.sI (Or.inl ⟨rfl, rfl⟩))) (hP.add hR)
  refine e_X7_readRound (b_X7_readRound_0 (M := kst M none i) hS (by omega) ⟨hT.1, kp_peek hT hi ⟨_, rfl, ExtK, kp_playerOf hb ⟨_, rfl, Ext.refl _, fun q => ?_, fun q => ?_⟩⟩⟩)
  · refine no (Or.inl ?_)
    unfold plO at q
    split at q
    · exact absurd q (by decide)
    · split at q
      · exact absurd q (by decide)
      · exact ⟨by assumption, by assumption⟩
  have hab : chr z t i = 97 ∨ chr z t i = 98 := by
    unfold plO at q
    split at q
    · left; assumption
    · split at q
      · right; assumption
      · exact absurd rfl q
  have hf : plO (chr z t i) = nI (chr z t i - 97) := by
    unfold plO
    rcases hab with e | e
    · rw [e]; rfl
    · rw [e]; rfl
  have hsk : skp z t i < z := by
    rcases hab with e | e
    · exact pos e (by decide)
    · exact pos e (by decide)
  rw [kst_o (by decide), hP.1, na_lt (by omega) (by decide)]
  refine ⟨fun q6 => ?_, fun q6 => no (Or.inr (by omega))⟩
  rw [if_neg (by omega)] at h1 h2
  have hs2 := skp_le z t (skp z t i + 1)
  have hb2 := chr_lt (i := skp z t i + 1) hT
  refine kp_pass hT.1 ⟨rfl, ExtK, kp_peek hT (by omega) ⟨_, rfl, ExtK, kp_kindOf hb2 ⟨_, rfl, Ext.refl _, fun q2 => ?_, fun q2 => ?_⟩⟩⟩
  · rw [hf, show nI (kdO (chr z t (skp z t i + 1))) = nI (kdP 3) from q2]
    have hk : chr z t (skp z t i + 1) ≠ 62 ∧ chr z t (skp z t i + 1) ≠ 43 ∧ chr z t (skp z t i + 1) ≠ 47 := by
      unfold kdO at q2
      split at q2
      · exact absurd q2 (by decide)
      · split at q2
        · exact absurd q2 (by decide)
        · split at q2
          · exact absurd q2 (by decide)
          · exact ⟨by assumption, by assumption, by assumption⟩
    rw [if_pos hk] at h1
    exact yes _ 3 _ q6 (fun B hF hK => h1 rfl B hF hK)
  · have hk : chr z t (skp z t i + 1) = 62 ∨ chr z t (skp z t i + 1) = 43 ∨ chr z t (skp z t i + 1) = 47 := by
      unfold kdO at q2
      split at q2
      · left; assumption
      · split at q2
        · right; left; assumption
        · split at q2
          · right; right; assumption
          · exact absurd rfl q2
    have hkd : kdO (chr z t (skp z t i + 1)) = kdP (dnP (chr z t (skp z t i + 1))) := by
      rcases hk with e | e | e <;> (rw [e]; rfl)
    have hsk2 : skp z t (skp z t i + 1) < z := by
      rcases hk with e | e | e
      · exact pos e (by decide)
      · exact pos e (by decide)
      · exact pos e (by decide)
    rw [if_neg (by omega)] at h1 h2
    have hs3 := skp_le z t (skp z t (skp z t i + 1) + 1)
    have hb3 := chr_lt (i := skp z t (skp z t i + 1) + 1) hT
    rw [hf, hkd]
    refine kp_pass hT.1 ⟨rfl, ExtK, kp_peek hT (by omega) ⟨_, rfl, ExtK, kp_playerOf hb3 ⟨_, rfl, Ext.refl _, fun q3 => ?_, fun q3 => ?_⟩⟩⟩
    · have hne : ¬ ((chr z t (skp z t (skp z t i + 1) + 1) ≠ 97 ∧ chr z t (skp z t (skp z t i + 1) + 1) ≠ 98) ∨ chr z t (skp z t (skp z t i + 1) + 1) = chr z t i) := by
        unfold plO at q3
        rcases hab with e | e
        · rw [e] at q3 ⊢
          split at q3
          · exact absurd q3 (by decide)
          · split at q3
            · omega
            · exact absurd q3 (by decide)
        · rw [e] at q3 ⊢
          split at q3
          · omega
          · split at q3
            · exact absurd q3 (by decide)
            · exact absurd q3 (by decide)
      rw [if_neg hne] at h1
      exact kp_pass hT.1 ⟨rfl, ExtK, yes _ _ _ q6 (fun B hF hK => h1 rfl B hF hK)⟩
    · have hne : ((chr z t (skp z t (skp z t i + 1) + 1) ≠ 97 ∧ chr z t (skp z t (skp z t i + 1) + 1) ≠ 98) ∨ chr z t (skp z t (skp z t i + 1) + 1) = chr z t i) := by
        unfold plO at q3
        rcases hab with e | e
        · rw [e] at q3 ⊢
          split at q3
          · right; assumption
          · split at q3
            · exact absurd (by decide) q3
            · left; exact ⟨by assumption, by assumption⟩
        · rw [e] at q3 ⊢
          split at q3
          · exact absurd (by decide) q3
          · split at q3
            · right; assumption
            · left; exact ⟨by assumption, by assumption⟩
      rw [if_pos hne] at h2
      rw [kst_2]
      exact kp_refuse hT.1 ⟨_, rfl, ExtK, bI_B false, h2 _ rfl M _ Fr.refl⟩
theorem kp_readProtocol (hd : 3 ≤ d) (hS : PtS M 8) (hT : kT M z t)
    (h : ∀ B i, Fr pxS M B → ((protT z t).1 = none → kP B (protT z t).2) → Q (some (vI (oI (protT z t).1))) (kst B (protT z t).1 i)) : Cl X d 0 0 m_X7_read [vR 8, vR 2] M Q := by
  have hz := hT.2.2.1
  have bad : ∀ f B j k, Fr pxS M B → (protT z t).1 = some f → WA X d 0 0 m_X7_read 17 [some (vR 8), some (vR 2), some (vI (nI 0)), some (vI (nI k))] [] (kst B (some f) j) Q := fun f B2 j k hF2 he => by
    have g : Q (some (vI (mI (kst B2 (some f) j) 2 3))) (kst B2 (some f) j) := by
      have := h B2 j hF2 (fun q => (by rw [he] at q; cases q))
      rw [he] at this
      rw [kst_3]; exact this
    exact b_X7_read_17 (M := kst B2 (some f) j) (hS.ext hF2.ext) (by omega) ⟨fun _ => ⟨(px_kT hT hF2).1, g⟩, fun _ => ⟨fun _ => ⟨(px_kT hT hF2).1, g⟩, fun q => absurd rfl q⟩⟩
  have key : ∀ f i k (B : Mem) (R : ProT), z - i < f → i ≤ z → k ≤ i → Fr pxS M B → kP B R → RnOK R → rdsT z t f none i R = protT z t → WA X d 0 0 m_X7_read 17 [some (vR 8), some (vR 2), some (vI (nI 1)), some (vI (nI k))] [] (kst B none i) Q := by
    intro f
    induction f with
    | zero => intro i k B L h1; omega
    | succ f ih =>
      intro i k B L h1 hi hk hF hL hO he
      have hTB := px_kT hT hF
      have hs := skp_ge z t i
      have hs2 := skp_le z t i
      have hb := chr_lt (i := i) hTB
      have done : z ≤ skp z t i → ∀ j, Q (some (vI (mI (kst B none j) 2 3))) (kst B none j) := fun hq j => by
        have hc : ¬ chr z t i = 44 := fun z2 => by have := chr_pos z2 (by decide); omega
        unfold rdsT at he
        rw [if_neg hc, if_neg (by omega)] at he
        have := h B j hF (fun _ => by rw [← he]; exact hL)
        rw [kst_3]
        rw [← he] at this
        exact this
      refine b_X7_read_17 (M := kst B none i) (hS.ext hF.ext) (by omega) ⟨fun q => ⟨hTB.1, ?_⟩, fun _ => ⟨fun q => absurd q (by decide), fun _ => ⟨hTB.1, kp_peek hTB hi ⟨_, rfl, ExtK, fun q => ?_, fun q => ?_⟩⟩⟩⟩
      · rw [na_le (by omega) (by omega)] at q
        exact done (by omega) i
      · rw [na_eq (by omega) (by omega), chr_0 hTB] at q
        exact done q _
      · rw [na_eq (by omega) (by omega), chr_0 hTB] at q
        unfold rdsT at he
        have hss : skp z t (skp z t i) = skp z t i := skp_skp z t i
        have hcc : chr z t (skp z t i) = chr z t i := by unfold chr; rw [hss]
        refine kp_take (by omega) hTB (by omega) (by decide) (fun hc => ⟨_, rfl, ExtK, fun q2 => absurd q2 (by decide), fun _ => ?_⟩) (fun hc => ⟨_, rfl, ExtK, fun _ => ?_, fun q2 => absurd rfl q2⟩)
        · rw [hcc] at hc
          rw [if_pos hc] at he
          rw [hss]
          refine kp_round (by omega) (hS.ext hF.ext) hTB (by omega) hL hO (fun hw B2 hF2 hL2 => ⟨_, rfl, ExtKK hF2.ext, fun q2 => absurd q2 (by decide), fun _ => ?_⟩) (fun g hw B2 j hF2 => ⟨_, rfl, ExtKK hF2.ext, fun _ => ?_, fun q2 => absurd rfl q2⟩)
          · obtain ⟨o1, o2, o3⟩ := rdT_go hw
            rw [nI_add]
            have ho := rdT_ok (z := z) (t := t) (i := skp z t i + 1) hO
            rw [hw] at he
            exact ih _ (k + 1) B2 _ (by omega) o2 (by omega) (hF.trans hF2) hL2 ho he
          · rw [nI_add]
            refine bad g B2 j (k + 1) (hF.trans hF2) ?_
            rw [← he, hw]
            cases f with
            | zero => rfl
            | succ f => rfl
        · rw [hcc] at hc
          rw [if_neg hc, if_pos (by omega)] at he
          rw [nI_add, hss]
          exact bad _ B _ (k + 1) hF (by rw [← he])
  refine e_X7_read (b_X7_read_0 hS (by omega) (fun M1 e1 => ?_))
  have hF1 : Fr pxS M M1 := by rw [e1]; exact Fr.sI (Or.inl ⟨rfl, rfl⟩)
  have hT1 := px_kT hT hF1
  have hP1 : kP M1 R0 := ⟨by rw [e1, mI_sI_eq]; rfl, fun r hr => absurd hr (Nat.not_lt_zero r)⟩
  have hO0 : RnOK R0 := ⟨Nat.zero_le _, fun r => ⟨Nat.zero_le _, Nat.le_refl _⟩⟩
  refine ⟨hT1.1, kp_rewind hT1.1 ⟨rfl, kst_fr.ext, ?_⟩⟩
  refine kp_round (by omega) (hS.ext hF1.ext) hT1 (by omega) hP1 hO0 (fun hw B2 hF2 hL2 => ⟨_, rfl, ExtKK hF2.ext, ?_⟩) (fun g hw B2 j hF2 => ⟨_, rfl, ExtKK hF2.ext, ?_⟩)
  · obtain ⟨o1, o2, o3⟩ := rdT_go hw
    refine key 301 _ 0 B2 _ (by omega) o2 (by omega) (hF1.trans hF2) hL2 (rdT_ok hO0) ?_
    unfold protT
    rw [hw]
  · refine bad g B2 j 0 (hF1.trans hF2) ?_
    unfold protT
    rw [hw]
    rfl
end PTXT
