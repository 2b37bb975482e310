/-! THE CLASS: a game -/
/-- a protocol of the class -/
def prX (M : Mem) (pr : Nat) (P : ProT) : Prop := PrS M pr ∧ ∀ k, k < 4 → mI M (pr + 1) k = nI (kdP (P.2.2 (k % P.1))) ∧ mI M (pr + 2) k = nI (P.2.1 (k % P.1))
theorem prX.rr {S T : Nat → Nat → Prop} {M B : Mem} {pr : Nat} {P : ProT} (h : prX M pr P) (hF : Frr S T M B) (hT : ∀ a k ci n, T a k → isK M a ci n → finR ci k = false) (hS : ∀ b k, pr < b → b ≤ pr + 2 → ¬ S b k) : prX B pr P :=
  ⟨h.1.ext (hF.ext hT), fun k hk => ⟨(hF.1 _ _ (hS _ _ (by omega) (by omega))).trans (h.2 k hk).1, (hF.1 _ _ (hS _ _ (by omega) (by omega))).trans (h.2 k hk).2⟩⟩
def erF (L : LandT) (P : ProT) (o m k : Nat) : Nat := if m = 0 then 8 else srF L P o m (k % P.1)
/-- what is kept, what is open, how many seats are to come -/
def gkX (M : Mem) (a : Nat) (ks : List Nat) (o m : Nat) : Prop := (mI M a 7 = nI ks.length ∧ stL M (a + 2) 0 ks) ∧ mI M a 8 = nI o ∧ mI M a 9 = nI m
/-- what the phase wants -/
def gpX (M : Mem) (a : Nat) (L : LandT) (G : GamT) : Prop := mI M a 10 = nI (gPh G) ∧ (gPh G = 5 → mI M a 11 = bI (decide ((lsL L (gOp G) (gLe G)).length = 1))) ∧ (gPh G = 1 → ∀ s, s < gLe G → mI M (a + 3) s = nI (seG L G (gDr G) s)) ∧ (gPh G = 4 → ∀ h, h < 2 * gLe G → mI M (a + 3) h = nI (haG L G h)) ∧ (gPh G = 6 ∨ gPh G = 7 → mI M a 14 = nI (gDr G)) ∧ (gPh G = 7 → mI M a 15 = nI (gSe G))
def gmX (M : Mem) (a : Nat) (mv : List Nat) : Prop := mI M a 5 = nI mv.length ∧ stL M (a + 1) 0 mv
def gcX (M : Mem) (a la pr : Nat) : Prop := GaS M a ∧ mR M a 2 = la ∧ mR M a 3 = pr
/-- the game at a is G, by the moves mv -/
def gaX (M : Mem) (a la pr : Nat) (L : LandT) (G : GamT) (mv : List Nat) : Prop := gcX M a la pr ∧ gmX M a mv ∧ gkX M a (gKe G) (gOp G) (gLe G) ∧ gpX M a L G
theorem stL.rr {S T : Nat → Nat → Prop} {M B : Mem} {a base : Nat} {xs : List Nat} (h : stL M a base xs) (hF : Frr S T M B) (hS : ∀ k, k < xs.length → ¬ S a (base + k)) : stL B a base xs := fun k x hk => (hF.1 _ _ (hS k (List.getElem?_eq_some_iff.mp hk).1)).trans (h k x hk)
theorem gkX.rr {S T : Nat → Nat → Prop} {M B : Mem} {a o m : Nat} {ks : List Nat} (h : gkX M a ks o m) (hF : Frr S T M B) (h1 : ¬ S a 7 ∧ ¬ S a 8 ∧ ¬ S a 9) (h2 : ∀ k, ¬ S (a + 2) k) : gkX B a ks o m :=
  ⟨⟨(hF.1 _ _ h1.1).trans h.1.1, h.1.2.rr hF (fun k _ => h2 _)⟩, (hF.1 _ _ h1.2.1).trans h.2.1, (hF.1 _ _ h1.2.2).trans h.2.2⟩
theorem gmX.rr {S T : Nat → Nat → Prop} {M B : Mem} {a : Nat} {mv : List Nat} (h : gmX M a mv) (hF : Frr S T M B) (h1 : ¬ S a 5) (h2 : ∀ k, ¬ S (a + 1) k) : gmX B a mv :=
  ⟨(hF.1 _ _ h1).trans h.1, h.2.rr hF (fun k _ => h2 _)⟩
theorem gcX.rr {S T : Nat → Nat → Prop} {M B : Mem} {a la pr : Nat} (h : gcX M a la pr) (hF : Frr S T M B) (hT : ∀ a k ci n, T a k → isK M a ci n → finR ci k = false) (h1 : ¬ T a 2 ∧ ¬ T a 3) : gcX B a la pr :=
  ⟨h.1.ext (hF.ext hT), (hF.2.1 _ _ h1.1).trans h.2.1, (hF.2.1 _ _ h1.2).trans h.2.2⟩
theorem er_no {a b k : Nat} (hb : 37 < b) (h : ¬ (b = a ∧ (k = 10 ∨ k = 11))) : ¬ erS a b k := fun q => by
  rcases q with q | q
  · exact nsl hb q
  · exact h q
theorem kd_eq {v : Nat} (h : v ≤ 3) : kdP v = if v = 0 then 0 else if v = 3 then 2 else if v = 1 then 3 else 5 := by
  rcases (show v = 0 ∨ v = 1 ∨ v = 2 ∨ v = 3 by omega) with rfl | rfl | rfl | rfl <;> rfl
theorem dif_le (a b : Nat) : dif a b ≤ a := by
  have e : dif a b &&& a = dif a b := by
    apply Nat.eq_of_testBit_eq
    intro q
    rw [Nat.testBit_and, tb_dif]
    cases a.testBit q <;> cases b.testBit q <;> rfl
  rw [← e]; exact Nat.and_le_right
section GAME
variable {X : Cx} {d a la pr : Nat} {L : LandT} {P : ProT} {M : Mem} {Q : Option AV → Mem → Prop}
theorem kp_enterRound {o m : Nat} {ks : List Nat} (hd : 8 ≤ d) (ha : 37 < a) (hla : 37 < la) (hal : a + 4 < la ∨ la + 8 < a) (hR : laR M la L) (hS : scX M) (hP : prX M pr P) (hPO : ProOK P) (hpa : 37 < pr ∧ (pr + 2 < a ∨ a < pr)) (hC : gcX M a la pr) (hK : gkX M a ks o m) (ho : o < 2 ^ L.1) (hm : m + ks.length ≤ 4)
    (h : ∀ B, Frr (erS a) slT M B → mI B a 10 = nI (erF L P o m ks.length) → (erF L P o m ks.length = 5 → mI B a 11 = bI (decide ((lsL L o m).length = 1))) → Q none B) : Cl X d 0 0 m_X1_enterRound [vR a] M Q := by
  obtain ⟨hG, h2, h3⟩ := hC
  obtain ⟨⟨k7, ks2⟩, k8, k9⟩ := hK
  unfold erF at h
  refine e_X1_enterRound (b_X1_enterRound_0 hG (by omega) ?_)
  rw [k9, na_eq (by omega) (by decide)]
  refine ⟨fun q => ?_, fun q => ?_⟩
  · rw [if_pos q] at h
    refine b_X1_enterRound_15 hG (fun M1 e1 => h M1 (by rw [e1]; exact (Fr.sI (S := erS a) (Or.inr ⟨rfl, Or.inl rfl⟩)).rr) (by rw [e1, mI_sI_eq]) (fun w => absurd w (by decide)))
  rw [if_neg q] at h
  rw [k7, na_lt (by omega) (by decide), h3]
  refine ⟨fun _ => ⟨hP.1, na_in (by omega) (by decide), fun M1 e1 => ?_⟩, fun w => absurd (by omega) w⟩
  obtain ⟨p1, p2⟩ := hP.2 ks.length (by omega)
  have hk3 := (hPO.2.2 (ks.length % P.1)).2
  rw [na_ix (by omega), p1] at e1
  have hF1 : Frr (erS a) slT M M1 := by rw [e1]; exact (Fr.sI (S := erS a) (Or.inr ⟨rfl, Or.inl rfl⟩)).rr
  have hT := slT_ok hS
  have e10 : mI M1 a 10 = nI (kdP (P.2.2 (ks.length % P.1))) := by rw [e1, mI_sI_eq]
  have hR1 := hR.rr hF1 hT (fun b k h1 h2 => er_no (by omega) (by omega))
  have hS1 := hS.rr hF1 hT (fun w => by rcases w with w | w; exact sl_no18 w; omega)
  have hG1 := hG.ext (hF1.ext hT)
  have r2 : mR M1 a 2 = la := by rw [hF1.r (nslT ha)]; exact h2
  have i8 : mI M1 a 8 = nI o := by rw [e1, mI_sI_i (by decide)]; exact k8
  have i9 : mI M1 a 9 = nI m := by rw [e1, mI_sI_i (by decide)]; exact k9
  rw [e10, kd_eq hk3]
  unfold srF at h
  have fin9 : ∀ B, Frr (erS a) slT M B → GaS B a → (∀ C, Frr (erS a) slT M C → mI C a 10 = nI 9 → Q none C) → WA X d 0 0 m_X1_enterRound 63 [some (vR a)] [] B Q := fun B hF hGB hq => b_X1_enterRound_63 hGB (fun C ec => hq C (hF.trans (by rw [ec]; exact (Fr.sI (S := erS a) (Or.inr ⟨rfl, Or.inl rfl⟩)).rr)) (by rw [ec, mI_sI_eq]))
  by_cases hk1 : P.2.2 (ks.length % P.1) = 1
  · rw [if_pos hk1] at h
    refine ⟨fun w => absurd (by rw [hk1]; rfl) w, fun _ => ?_⟩
    refine kp_canHalve (by omega) ha hla hR1 hS1 hG1 r2 i8 i9 ho (by omega) (fun B hFB => ⟨_, rfl, hFB.ext (slT_ok hS1), ?_⟩)
    have hFB2 := hF1.trans (hFB.mono (S' := erS a) (fun b k q => Or.inl q) (fun b k q => q))
    have e10B : mI B a 10 = nI 3 := by
      rw [hFB.i (nsl ha), e10, hk1]; rfl
    rw [bI_0]
    refine ⟨fun q2 => fin9 B hFB2 (hG1.ext (hFB.ext (slT_ok hS1))) (fun C hC c10 => h C hC ?_ ?_), fun q2 => h B hFB2 ?_ ?_⟩
    · rw [if_neg (by rw [q2]; decide)]; exact c10
    · rw [if_neg (by rw [q2]; decide)]; intro w; cases w
    · rw [if_pos (eq_true_of_ne_false q2), hk1]; exact e10B
    · rw [if_pos (eq_true_of_ne_false q2), hk1]; intro w; cases w
  · rw [if_neg hk1] at h
    have ne3 : ¬ (if P.2.2 (ks.length % P.1) = 0 then 0 else if P.2.2 (ks.length % P.1) = 3 then 2 else if P.2.2 (ks.length % P.1) = 1 then 3 else 5) = 3 := by
      split
      · decide
      · split
        · decide
        · decide
    have le5 : (if P.2.2 (ks.length % P.1) = 0 then 0 else if P.2.2 (ks.length % P.1) = 3 then 2 else if P.2.2 (ks.length % P.1) = 1 then 3 else 5) ≤ 5 := by
      split
      · decide
      · split
        · decide
        · decide
    refine ⟨fun _ => ?_, fun w => absurd ((na_eq (by omega) (by decide)).mp w) ne3⟩
    refine kp_canCut (by omega) ha hla hR1 hS1 hG1 r2 i8 i9 ho (by omega) (fun B hFB e11 => ⟨_, rfl, hFB.ext (slT_ok hS1), ?_⟩)
    have hFB2 : Frr (erS a) slT M B := hF1.trans (hFB.mono (fun b k q => q.elim (fun w => Or.inl w) (fun w => Or.inr ⟨w.1, Or.inr w.2⟩)) (fun b k q => q))
    rw [bI_0]
    refine ⟨fun q2 => ?_, fun q2 => fin9 B hFB2 (hG1.ext (hFB.ext (slT_ok hS1))) (fun C hC c10 => h C hC ?_ ?_)⟩
    · have q2 : decide (0 < (lsL L o m).length) = true := eq_true_of_ne_false q2
      rw [if_pos q2] at h
      refine h B hFB2 ?_ (fun _ => e11)
      rw [hFB.i (fun w => by
        rcases w with w | w
        · exact nsl ha w
        · omega), e10, kd_eq hk3]
    · rw [if_neg (by rw [q2]; decide)]; exact c10
    · rw [if_neg (by rw [q2]; decide)]; intro w; cases w
def ksS (a b k : Nat) : Prop := b = a + 2 ∨ (b = a ∧ 7 ≤ k ∧ k ≤ 9)
theorem kp_keepSeat {o m x v : Nat} {ks : List Nat} (hG : GaS M a) (hK : gkX M a ks o m) (hm : 1 ≤ m ∧ m ≤ 4) (hk : ks.length < 4) (hx : x < 8) (ho : o < 2 ^ 31) (hv : mI M (a + 3) x = nI v)
    (h : ∀ B, Fr (ksS a) M B → gkX B a (ks ++ [v]) (dif o v) (m - 1) → Q none B) : Cl X d 0 0 m_X1_keepSeat [vR a, vI (nI x)] M Q := by
  obtain ⟨⟨k7, ks2⟩, k8, k9⟩ := hK
  refine e_X1_keepSeat (b_X1_keepSeat_0 hG ⟨fun q => absurd (by rw [na_lt (by omega) (by decide)] at q; omega) (id : False → False), fun _ => ⟨fun q => absurd (by rw [na_le (by decide) (by omega)] at q; omega) (id : False → False), fun _ => ⟨fun q => absurd (by rw [k7, na_le (by decide) (by omega)] at q; omega) (id : False → False), fun _ => ⟨fun q => absurd (by rw [k9, na_le (by omega) (by decide)] at q; omega) (id : False → False), fun _ => ⟨na_in (by omega) (by decide), by rw [k7]; exact na_in (by omega) (by decide), fun M1 e1 M2 e2 => ⟨na_in (by omega) (by decide), fun M3 e3 M4 e4 => ?_⟩⟩⟩⟩⟩⟩)
  rw [k7, na_ix (by omega), na_ix (by omega), hv] at e1
  have i7 : mI M1 a 7 = nI ks.length := by rw [e1, mI_sI_a (by omega)]; exact k7
  rw [i7, nI_add] at e2
  have i3 : mI M2 (a + 3) x = nI v := by rw [e2, mI_sI_a (by omega), e1, mI_sI_a (by omega)]; exact hv
  have i8 : mI M2 a 8 = nI o := by rw [e2, mI_sI_i (by decide), e1, mI_sI_a (by omega)]; exact k8
  rw [na_ix (by omega), i3, i8, na_dif] at e3
  have i9 : mI M3 a 9 = nI m := by rw [e3, mI_sI_i (by decide), e2, mI_sI_i (by decide), e1, mI_sI_a (by omega)]; exact k9
  rw [i9, na_sub hm.1] at e4
  refine h M4 ?_ ⟨⟨?_, ?_⟩, ?_, ?_⟩
  · rw [e4, e3, e2, e1]
    exact (((Fr.sI (S := ksS a) (Or.inl rfl)).trans (Fr.sI (Or.inr ⟨rfl, by decide, by decide⟩))).trans (Fr.sI (Or.inr ⟨rfl, by decide, by decide⟩))).trans (Fr.sI (Or.inr ⟨rfl, by decide, by decide⟩))
  · rw [e4, mI_sI_i (by decide), e3, mI_sI_i (by decide), e2, mI_sI_eq]
    simp
  · have s1 : stL M1 (a + 2) 0 (ks ++ [v]) := by
      have := stL_snoc (x := v) ks2
      rw [Nat.zero_add] at this
      rw [e1]; exact this
    intro k y hy
    rw [e4, mI_sI_a (by omega), e3, mI_sI_a (by omega), e2, mI_sI_a (by omega)]
    exact s1 k y hy
  · rw [e4, mI_sI_i (by decide), e3, mI_sI_eq]
  · rw [e4, mI_sI_eq]
def kcS (a b k : Nat) : Prop := b = a + 2 ∨ b = a + 3 ∨ (b = a ∧ 7 ≤ k ∧ k ≤ 10)
theorem range_snoc (n : Nat) : List.range (n + 1) = List.range n ++ [n] := List.range_succ
theorem kp_keepCut {o m x : Nat} {ks : List Nat} (hd : 2 ≤ d) (hal : a + 4 < la ∨ la + 8 < a) (hR : laR M la L) (hC : gcX M a la pr) (hK : gkX M a ks o m) (ho : o < 2 ^ L.1) (hm : m + ks.length ≤ 4) (hx : x < 4 ^ L.1) (hic : icN L x o m)
    (h : ∀ B, Fr (kcS a) M B → mI B a 10 = nI 8 → gkX B a (ks ++ (List.range m).map (sOB 2 L.1 x o)) ((List.range m).foldl (fun o' s => dif o' (sOB 2 L.1 x o s)) o) 0 → Q none B) : Cl X d 0 0 m_X1_keepCut [vR a, vI (nI x)] M Q := by
  obtain ⟨hG, h2, h3⟩ := hC
  have hn := hR.2.2.1.2
  have h512 := p9 hn
  have h49 : 4 ^ L.1 ≤ 4 ^ 9 := Nat.pow_le_pow_right (by decide) hn
  have h49e : (4 : Nat) ^ 9 = 262144 := rfl
  have hin : inN (nI x) (2 ^ (2 * L.1)) = some x := by rw [← p4e]; exact inN_nI (by omega) hx
  obtain ⟨⟨k7, ks2⟩, k8, k9⟩ := hK
  refine e_X1_keepCut (b_X1_keepCut_0 hG (by omega) ?_)
  rw [h2, k8, k9]
  refine ⟨hR.1.1, kp_split hR.1.1 hR.1.2.2.1.1 hn (by decide) (by omega) (by omega) hG.k12 (by omega) (fun hk => absurd hic.1 (hk x hin)) (fun k hk hu B hFB hB => ⟨_, rfl, hFB.ext, fun x2 e2 => ?_⟩)⟩
  rw [hin] at hk
  cases hk
  have b9 : mI B a 9 = nI m := by rw [hFB.at (fun q => by unfold atS at q; omega)]; exact k9
  rw [b9] at e2
  rw [e2]
  have hKB : gkX B a ks o m := gkX.rr (M := M) ⟨⟨k7, ks2⟩, k8, k9⟩ (hFB.rr (T := fun _ _ => False)) ⟨fun q => by unfold atS at q; omega, fun q => by unfold atS at q; omega, fun q => by unfold atS at q; omega⟩ (fun k q => by unfold atS at q; omega)
  have dlt : ∀ s, (List.range s).foldl (fun o' s => dif o' (sOB 2 L.1 x o s)) o ≤ o := by
    intro s
    induction s with
    | zero => exact Nat.le_refl _
    | succ s ih =>
      rw [range_snoc, List.foldl_append]
      exact Nat.le_trans (dif_le _ _) ih
  have key : ∀ r s (C : Mem), s + r = m → Fr (kcS a) M C → (∀ s', s' < m → mI C (a + 3) s' = nI (sOB 2 L.1 x o s')) → gkX C a (ks ++ (List.range s).map (sOB 2 L.1 x o)) ((List.range s).foldl (fun o' s => dif o' (sOB 2 L.1 x o s)) o) (m - s) → WA X d 0 0 m_X1_keepCut 29 [some (vR a), none, some (vI (nI m)), some (vI (nI s))] [] C Q := by
    intro r
    induction r with
    | zero =>
      intro s C hs hF hS3 hKC
      obtain rfl : s = m := by omega
      refine b_X1_keepCut_29 (hG.ext hF.ext) (by omega) ⟨fun _ M1 e1 => ?_, fun q => absurd (by rw [na_le (by omega) (by omega)]; exact Nat.le_refl _) q⟩
      rw [Nat.sub_self] at hKC
      have hF1 : Fr (fun b k => b = a ∧ k = 10) C M1 := by rw [e1]; exact Fr.sI ⟨rfl, rfl⟩
      refine h M1 (hF.trans (hF1.mono (fun b k q => Or.inr (Or.inr ⟨q.1, by omega, by omega⟩)))) (by rw [e1, mI_sI_eq]) (hKC.rr (hF1.rr (T := fun _ _ => False)) ⟨fun q => by omega, fun q => by omega, fun q => by omega⟩ (fun k q => by omega))
    | succ r ih =>
      intro s C hs hF hS3 hKC
      have hd1 := dlt s
      refine b_X1_keepCut_29 (hG.ext hF.ext) (by omega) ⟨fun q => absurd (by rw [na_le (by omega) (by omega)] at q; omega) (id : False → False), fun _ => ?_⟩
      refine kp_keepSeat (hG.ext hF.ext) hKC (by omega) (by simp; omega) (by omega) (by omega) (hS3 s (by omega)) (fun D hFD hKD => ⟨rfl, hFD.ext, ?_⟩)
      rw [nI_add]
      refine ih (s + 1) D (by omega) (hF.trans (hFD.mono (fun b k q => by unfold ksS at q; unfold kcS; omega))) (fun s' hs' => by rw [hFD.at (fun q => by unfold ksS at q; omega)]; exact hS3 s' hs') ?_
      rw [range_snoc, List.map_append, List.foldl_append, ← List.append_assoc, show m - (s + 1) = m - s - 1 by omega]
      exact hKD
  exact key m 0 B (by omega) (hFB.mono (fun b k q => Or.inr (Or.inl q))) hB (by simpa using hKB)
end GAME
