/-! THE CLASS: a game is begun and played -/
def gxS (a n b k : Nat) : Prop := slS b k ∨ (a ≤ b ∧ b ≤ a + 4 ∧ (b = a + 1 → k = n))
def stT (a b k : Nat) : Prop := slT b k ∨ (b = a ∧ (k = 2 ∨ k = 3))
theorem stT_ok {M : Mem} {a : Nat} (h : scX M) (hG : GaS M a) : ∀ b k ci n, stT a b k → isK M b ci n → finR ci k = false := fun b k ci n q hk => by
  rcases q with q | ⟨rfl, q⟩
  · exact slT_ok h b k ci n q hk
  · obtain ⟨e1, -⟩ := isK_fun hG.o hk
    subst e1
    rcases q with rfl | rfl <;> rfl
theorem er_gx {M B : Mem} {a n : Nat} (h : Frr (erS a) slT M B) : Frr (gxS a n) slT M B := h.mono (fun b k q => q.elim (fun w => Or.inl w) (fun w => Or.inr (by omega))) (fun b k q => q)
theorem ks_gx {M B : Mem} {a n : Nat} {T : Nat → Nat → Prop} (h : Fr (ksS a) M B) : Frr (gxS a n) T M B := (h.mono (fun b k q => by unfold ksS at q; unfold gxS; omega)).rr
theorem kc_gx {M B : Mem} {a n : Nat} {T : Nat → Nat → Prop} (h : Fr (kcS a) M B) : Frr (gxS a n) T M B := (h.mono (fun b k q => by unfold kcS at q; unfold gxS; omega)).rr
theorem g_gx {M : Mem} {a n i : Nat} {v : Int32} {T : Nat → Nat → Prop} {b : Nat} (h : a ≤ b ∧ b ≤ a + 4 ∧ (b = a + 1 → i = n)) : Frr (gxS a n) T M (sI M b i v) := (Fr.sI (S := gxS a n) (Or.inr h)).rr
theorem gx_no {a n b k : Nat} (h : 37 < b) (h2 : b < a ∨ a + 4 < b) : ¬ gxS a n b k := fun q => by
  rcases q with q | q
  · exact nsl h q
  · omega
section PLAY
variable {X : Cx} {d a la pr : Nat} {L : LandT} {P : ProT} {M : Mem} {Q : Option AV → Mem → Prop}
theorem ga_enter {o m : Nat} {ks : List Nat} {mv : List Nat} {B : Mem} (ha : 37 < a) (hS : scX M) (hC : gcX M a la pr) (hM : gmX M a mv) (hK : gkX M a ks o m) (hF : Frr (erS a) slT M B) : gcX B a la pr ∧ gmX B a mv ∧ gkX B a ks o m :=
  ⟨hC.rr hF (slT_ok hS) ⟨nslT ha, nslT ha⟩, hM.rr hF (er_no ha (by omega)) (fun k => er_no (by omega) (by omega)), hK.rr hF ⟨er_no ha (by omega), er_no ha (by omega), er_no ha (by omega)⟩ (fun k => er_no (by omega) (by omega))⟩
theorem srF_or2 {o m t : Nat} : srF L P o m t = 0 ∨ srF L P o m t = 2 ∨ srF L P o m t = 3 ∨ srF L P o m t = 5 ∨ srF L P o m t = 9 := by
  have := srF_or L P o m t
  omega
theorem gp_1 {G : GamT} {B : Mem} (hp : gPh G = 1) (h10 : mI B a 10 = nI 1) (h : ∀ s, s < gLe G → mI B (a + 3) s = nI (seG L G (gDr G) s)) : gpX B a L G := ⟨by rw [hp]; exact h10, fun w => by omega, fun _ => h, fun w => by omega, fun w => by omega, fun w => by omega⟩
theorem gp_4 {G : GamT} {B : Mem} (hp : gPh G = 4) (h10 : mI B a 10 = nI 4) (h : ∀ s, s < 2 * gLe G → mI B (a + 3) s = nI (haG L G s)) : gpX B a L G := ⟨by rw [hp]; exact h10, fun w => by omega, fun w => by omega, fun _ => h, fun w => by omega, fun w => by omega⟩
theorem gp_6 {G : GamT} {B : Mem} (hp : gPh G = 6) (h10 : mI B a 10 = nI 6) (h : mI B a 14 = nI (gDr G)) : gpX B a L G := ⟨by rw [hp]; exact h10, fun w => by omega, fun w => by omega, fun w => by omega, fun _ => h, fun w => by omega⟩
theorem gp_7 {G : GamT} {B : Mem} (hp : gPh G = 7) (h10 : mI B a 10 = nI 7) (h : mI B a 14 = nI (gDr G)) (h2 : mI B a 15 = nI (gSe G)) : gpX B a L G := ⟨by rw [hp]; exact h10, fun w => by omega, fun w => by omega, fun w => by omega, fun _ => h, fun _ => h2⟩
/-- the phase after a round's beginning wants no more -/
theorem gp_er {G : GamT} {B : Mem} (hph : gPh G = 0 ∨ gPh G = 2 ∨ gPh G = 3 ∨ gPh G = 5 ∨ 8 ≤ gPh G) (h10 : mI B a 10 = nI (gPh G)) (h5 : gPh G = 5 → mI B a 11 = bI (decide ((lsL L (gOp G) (gLe G)).length = 1))) : gpX B a L G :=
  ⟨h10, h5, fun w => by omega, fun w => by omega, fun w => by omega, fun w => by omega⟩
theorem kp_start (hd : 9 ≤ d) (ha : 37 < a) (hla : 37 < la) (hal : a + 4 < la ∨ la + 8 < a) (hR : laR M la L) (hS : scX M) (hP : prX M pr P) (hPO : ProOK P) (hpa : 37 < pr ∧ (pr + 2 < a ∨ a + 4 < pr)) (hG : GaS M a)
    (h : ∀ B, Frr (gxS a 9) (stT a) M B → gaX B a la pr L (stG L P) [] → Q none B) : Cl X d 0 0 m_X1_start [vR a, vR la, vR pr] M Q := by
  have hO := hR.2.2
  have hs4 := hO.2.1
  refine e_X1_start (b_X1_start_0 hG (by omega) (fun M1 e1 M2 e2 M3 e3 M4 e4 => ?_))
  have hT := stT_ok hS hG
  have f1 : Frr (gxS a 9) (stT a) M M1 := by rw [e1]; exact Frr.sR (Or.inr ⟨rfl, Or.inl rfl⟩)
  have f2 := f1.trans (show Frr (gxS a 9) (stT a) M1 M2 by rw [e2]; exact Frr.sR (Or.inr ⟨rfl, Or.inr rfl⟩))
  have f3 := f2.trans (show Frr (gxS a 9) (stT a) M2 M3 by rw [e3]; exact g_gx (by omega))
  have f4 := f3.trans (show Frr (gxS a 9) (stT a) M3 M4 by rw [e4]; exact g_gx (by omega))
  have nla : ∀ b k, la ≤ b → b ≤ la + 8 → ¬ gxS a 9 b k := fun b k h1 h2 => gx_no (by omega) (by omega)
  have hR4 := hR.rr f4 hT nla
  refine ⟨hR4.1.1, fun M5 e5 M6 e6 => ?_⟩
  have i4 : mI M4 la 4 = nI (whL L) := hR4.1.2.2.1.2.2.2.2
  rw [i4] at e5
  have f5 := f4.trans (show Frr (gxS a 9) (stT a) M4 M5 by rw [e5]; exact g_gx (by omega))
  have hR5 := hR.rr f5 hT nla
  have i1 : mI M5 la 1 = nI L.2.1 := hR5.1.2.2.1.2.1
  rw [i1] at e6
  have f6 := f5.trans (show Frr (gxS a 9) (stT a) M5 M6 by rw [e6]; exact g_gx (by omega))
  have hR6 := hR.rr f6 hT nla
  have hS6 := hS.rr f6 hT (fun w => by rcases w with w | w; exact sl_no18 w; omega)
  have hP6 := hP.rr f6 hT (fun b k h1 h2 => gx_no (by omega) (by omega))
  have hC6 : gcX M6 a la pr := by
    refine ⟨hG.ext (f6.ext hT), ?_, ?_⟩
    · rw [e6, e5, e4, e3, mR_sI, mR_sI, mR_sI, mR_sI, e2, mR_sR, if_neg (by omega), e1, mR_sR, if_pos ⟨rfl, rfl⟩]
    · rw [e6, e5, e4, e3, mR_sI, mR_sI, mR_sI, mR_sI, e2, mR_sR, if_pos ⟨rfl, rfl⟩]
  have hK6 : gkX M6 a [] (whL L) L.2.1 := ⟨⟨by rw [e6, mI_sI_i (by decide), e5, mI_sI_i (by decide), e4, mI_sI_eq]; rfl, stL_nil⟩, by rw [e6, mI_sI_i (by decide), e5, mI_sI_eq], by rw [e6, mI_sI_eq]⟩
  have hM6 : gmX M6 a [] := ⟨by rw [e6, mI_sI_i (by decide), e5, mI_sI_i (by decide), e4, mI_sI_i (by decide), e3, mI_sI_eq]; rfl, stL_nil⟩
  have ee : erF L P (whL L) L.2.1 ([] : List Nat).length = srF L P (whL L) L.2.1 0 := by
    unfold erF
    rw [if_neg (by omega)]
    simp
  refine kp_enterRound (by omega) ha hla hal hR6 hS6 hP6 hPO ⟨hpa.1, by omega⟩ hC6 hK6 (whL_lt L) (by simp; omega) (fun B hFB h10 h11 => ⟨rfl, hFB.ext (slT_ok hS6), h B (f6.trans ((er_gx hFB).mono (fun b k q => q) (fun b k q => Or.inl q))) ?_⟩)
  obtain ⟨c1, c2, c3⟩ := ga_enter ha hS6 hC6 hM6 hK6 hFB
  rw [ee] at h10 h11
  refine ⟨c1, c2, c3, gp_er ?_ h10 h11⟩
  have := srF_or2 (L := L) (P := P) (o := whL L) (m := L.2.1) (t := 0)
  show srF L P (whL L) L.2.1 0 = 0 ∨ srF L P (whL L) L.2.1 0 = 2 ∨ srF L P (whL L) L.2.1 0 = 3 ∨ srF L P (whL L) L.2.1 0 = 5 ∨ 8 ≤ srF L P (whL L) L.2.1 0
  omega
theorem kpG_e (L : LandT) (G : GamT) (c : Nat) : gPh (kpG L G c) = 8 ∧ gOp (kpG L G c) = (List.range (gLe G)).foldl (fun o s => dif o (sOB 2 L.1 c (gOp G) s)) (gOp G) ∧ gLe (kpG L G c) = 0 ∧ gKe (kpG L G c) = gKe G ++ (List.range (gLe G)).map (sOB 2 L.1 c (gOp G)) := ⟨rfl, rfl, rfl, rfl⟩
theorem toI_n {x : Nat} (h : x < 2 ^ 31) : (nI x).toInt = x := nI_toInt h
theorem icN_of {x o m : Nat} (hn : L.1 ≤ 9) (hx : x < 2 ^ 31) (h : icB L (nI x) o m = true) : x < 4 ^ L.1 ∧ icN L x o m := by
  have h49 : 4 ^ L.1 ≤ 4 ^ 9 := Nat.pow_le_pow_right (by decide) hn
  have h49e : (4 : Nat) ^ 9 = 262144 := rfl
  unfold icB at h
  cases hi : inN (nI x) (4 ^ L.1) with
  | none => rw [hi] at h; cases h
  | some k =>
    rw [hi] at h
    obtain ⟨e, hk⟩ := inN_some (by omega) hi
    have : x = k := (na_eq hx (by omega)).mp e
    subst this
    exact ⟨hk, of_decide_eq_true h⟩
theorem kp_play {G : GamT} {mv : List Nat} {x : Nat} (hd : 10 ≤ d) (ha : 37 < a) (hla : 37 < la) (hal : a + 4 < la ∨ la + 8 < a) (hR : laR M la L) (hS : scX M) (hP : prX M pr P) (hPO : ProOK P) (hpa : 37 < pr ∧ (pr + 2 < a ∨ a + 4 < pr)) (hA : gaX M a la pr L G mv) (hK : GOK L P G) (h8 : gPh G < 8) (hx : x < 2 ^ 31) (hmm : mmB L G (nI x) = true) (hmv : mv.length < 8)
    (h : ∀ B, Frr (gxS a mv.length) slT M B → gaX B a la pr L (mvG L P G x) (mv ++ [x]) → Q none B) : Cl X d 0 0 m_X1_play [vR a, vI (nI x)] M Q := by
  have hO := hR.2.2
  have hn := hO.1.2
  have h512 := p9 hn
  have h49 : 4 ^ L.1 ≤ 4 ^ 9 := Nat.pow_le_pow_right (by decide) hn
  have h49e : (4 : Nat) ^ 9 = 262144 := rfl
  have hs4 := hO.2.1
  obtain ⟨hC, hM, hKx, hPx⟩ := hA
  obtain ⟨m5, ml⟩ := hM
  obtain ⟨g1, g2, g3, g4, g5, g6, g7, g8, g9, g10, g11⟩ := hK
  obtain ⟨hle, htu⟩ := g8 h8
  obtain ⟨p10, p5, p1, p4, p67, p7⟩ := hPx
  have hG := hC.1
  have hT := slT_ok hS
  refine e_X1_play (b_X1_play_0 hG (by omega) ⟨fun _ => ?_, fun q => absurd (by rw [m5, na_lt (by omega) (by decide)]; exact hmv) q⟩)
  rw [m5]
  refine ⟨na_in (by omega) (by decide), fun M1 e1 M2 e2 x1 ex => ?_⟩
  rw [na_ix (by omega)] at e1
  have i5 : mI M1 a 5 = nI mv.length := by rw [e1, mI_sI_a (by omega)]; exact m5
  rw [i5, nI_add] at e2
  have hF2r : Fr (fun b k => (b = a + 1 ∧ k = mv.length) ∨ (b = a ∧ k = 5)) M M2 := by rw [e2, e1]; exact (Fr.sI (Or.inl ⟨rfl, rfl⟩)).trans (Fr.sI (Or.inr ⟨rfl, rfl⟩))
  have hF2 : Frr (gxS a mv.length) slT M M2 := (hF2r.mono (fun b k q => Or.inr (by omega))).rr
  have nla : ∀ b k, la ≤ b → b ≤ la + 8 → ¬ gxS a mv.length b k := fun b k h1 h2 => gx_no (by omega) (by omega)
  have hR2 := hR.rr hF2 hT nla
  have n18 : ¬ gxS a mv.length 33 0 := fun w => by rcases w with w | w; exact sl_no18 w; omega
  have hS2 := hS.rr hF2 hT n18
  have hT2 := slT_ok hS2
  have hP2 := hP.rr hF2 hT (fun b k h1 h2 => gx_no (by omega) (by omega))
  have hC2 := hC.rr hF2 hT ⟨nslT ha, nslT ha⟩
  have hK2 := hKx.rr (hF2r.rr (T := slT)) ⟨fun q => by omega, fun q => by omega, fun q => by omega⟩ (fun k q => by omega)
  have hM2 : gmX M2 a (mv ++ [x]) := by
    refine ⟨by rw [e2, mI_sI_eq]; simp, ?_⟩
    have s1 : stL M1 (a + 1) 0 (mv ++ [x]) := by
      have := stL_snoc (x := x) ml
      rw [Nat.zero_add] at this
      rw [e1]; exact this
    intro k y hy
    rw [e2, mI_sI_a (by omega)]
    exact s1 k y hy
  have i10 : mI M2 a 10 = nI (gPh G) := by rw [hF2r.at (by omega)]; exact p10
  rw [i10] at ex
  have ei : x1.toInt = gPh G := by rw [ex]; exact toI_n (by omega)
  -- with a cut kept, all is kept
  have fin : ∀ (c : Nat) (G' : GamT) (C : Mem), Frr (gxS a mv.length) slT M C → gcX C a la pr → gmX C a (mv ++ [x]) → gkX C a (gKe G) (gOp G) (gLe G) → laR C la L → gOp G' = gOp G ∧ gLe G' = gLe G ∧ gKe G' = gKe G → mvG L P G x = kpG L G' c → c < 4 ^ L.1 → icN L c (gOp G) (gLe G) → Cl X (d - 1) 0 0 m_X1_keepCut [vR a, vI (nI c)] C (fun r M1 => r = none ∧ Ext C M1 ∧ Q none M1) := fun c G' C hFC hCC hMC hKC hRC hG' he hc hic => by
    refine kp_keepCut (by omega) hal hRC hCC hKC g2 (by omega) hc hic (fun B hFB h10 hKB => ⟨rfl, hFB.ext, h B (hFC.trans (kc_gx hFB)) ?_⟩)
    rw [he]
    obtain ⟨k1, k2, k3, k4⟩ := kpG_e L G' c
    obtain ⟨q1, q2, q3⟩ := hG'
    have hFk := hFB.rr (T := slT)
    refine ⟨hCC.rr hFk (slT_ok (hS.rr hFC hT n18)) ⟨nslT ha, nslT ha⟩, hMC.rr hFk (fun w => by unfold kcS at w; omega) (fun k w => by unfold kcS at w; omega), ?_, gp_er (by omega) (by rw [k1]; exact h10) (fun w => by omega)⟩
    rw [k4, k2, k3, q1, q2, q3]
    exact hKB
  have split3 : ∀ (b hm : Nat) (f : Nat → Nat) (k0 ph : Nat), (1 ≤ b ∧ b ≤ 3) → hm ≤ 8 → inN (nI x) (2 ^ (b * L.1)) = some x → nuF b L.1 x (gOp G) L.1 = some hm → f = sOB b L.1 x (gOp G) → ∀ (q : ∀ C : Mem, Frr (gxS a mv.length) slT M C → gcX C a la pr → gmX C a (mv ++ [x]) → gkX C a (gKe G) (gOp G) (gLe G) → (∀ s, s < hm → mI C (a + 3) s = nI (f s)) → mI C a 10 = nI ph → Q none C), Cl X (d - 1) 0 0 m_X3_split [vR la, vI (nI x), vI (nI b), vI (nI (gOp G)), vI (nI hm), vR (a + 3)] M2 (fun r M3 => ∃ x2 : Int32, r = some (vI x2) ∧ Ext M2 M3 ∧ ∀ M4 : Mem, M4 = sI M3 a 10 (nI ph) → Q none M4) := fun b hm f k0 ph hb hm8 hin hnu hf q => by
    refine kp_split hR2.1.1 hR2.1.2.2.1.1 hn hb (by omega) (by omega) hC2.1.k12 (by omega) (fun hk => absurd hnu (hk x hin)) (fun k hk hu B hFB hB => ⟨_, rfl, hFB.ext, fun M4 e4 => ?_⟩)
    rw [hin] at hk
    cases hk
    have hF4r : Fr (fun b k => b = a + 3 ∨ (b = a ∧ k = 10)) M2 M4 := by
      rw [e4]
      exact (hFB.mono (fun b k w => Or.inl w)).trans (Fr.sI (Or.inr ⟨rfl, rfl⟩))
    have hF4 := hF4r.rr (T := slT)
    refine q M4 (hF2.trans (hF4.mono (fun b k w => Or.inr (by omega)) (fun b k w => w))) (hC2.rr hF4 hT2 ⟨nslT ha, nslT ha⟩) (hM2.rr hF4 (fun w => by omega) (fun k w => by omega)) (hK2.rr hF4 ⟨fun w => by omega, fun w => by omega, fun w => by omega⟩ (fun k w => by omega)) (fun s hs => ?_) (by rw [e4, mI_sI_eq])
    rw [e4, mI_sI_a (by omega), hf]
    exact hB s hs
  unfold mmB at hmm
  refine ⟨fun w => absurd w (by omega), fun w => ?_, fun w => ?_, fun w => ?_, fun w => ?_, fun w => ?_, fun w => ?_, fun w => ?_, fun w => ?_⟩
  · -- a cut is drawn
    have w : gPh G = 0 := by omega
    rw [if_pos (Or.inl w)] at hmm
    obtain ⟨x4, xic⟩ := icN_of hn hx hmm
    rw [hC2.2.1, hK2.2.1, hK2.2.2]
    refine ⟨hR2.1.1, split3 2 (gLe G) _ 0 1 (by decide) (by omega) (by rw [← p4e]; exact inN_nI (by omega) x4) xic.1 rfl (fun C hFC c1 c2 c3 c4 c5 => h C hFC ?_)⟩
    have e : mvG L P G x = (1, gOp G, gLe G, gTu G, x, gSe G, gKe G) := by unfold mvG; rw [if_pos w]
    rw [e]
    exact ⟨c1, c2, c3, gp_1 rfl c5 c4⟩
  · -- a seat is kept
    have w : gPh G = 1 := by omega
    rw [if_neg (by omega), if_pos w] at hmm
    obtain ⟨k, hk⟩ := Option.isSome_iff_exists.mp hmm
    obtain ⟨e, hkm⟩ := inN_some (by omega) hk
    have hxk : x = k := (na_eq hx (by omega)).mp e
    subst hxk
    have i3 : mI M2 (a + 3) x = nI (seG L G (gDr G) x) := by rw [hF2r.at (by omega)]; exact p1 w x hkm
    have e : mvG L P G x = (if gLe G - 1 = 0 then 8 else srF L P (dif (gOp G) (seG L G (gDr G) x)) (gLe G - 1) ((gTu G + 1) % P.1), dif (gOp G) (seG L G (gDr G) x), gLe G - 1, (gTu G + 1) % P.1, gDr G, gSe G, gKe G ++ [seG L G (gDr G) x]) := by
      unfold mvG; rw [if_neg (by omega), if_pos w]
    refine kp_keepSeat hC2.1 hK2 (by omega) (by omega) (by omega) (by omega) i3 (fun B hFB hKB => ⟨rfl, hFB.ext, ?_⟩)
    have hFBr := hFB.rr (T := slT)
    have hFk : Frr (gxS a mv.length) slT M2 B := ks_gx hFB
    have hRB := hR2.rr hFk hT2 nla
    have hSB := hS2.rr hFk hT2 n18
    have hPB := hP2.rr hFk hT2 (fun b k h1 h2 => gx_no (by omega) (by omega))
    have hCB := hC2.rr hFk hT2 ⟨nslT ha, nslT ha⟩
    have hMB := hM2.rr hFBr (fun w => by unfold ksS at w; omega) (fun k w => by unfold ksS at w; omega)
    have ee : erF L P (dif (gOp G) (seG L G (gDr G) x)) (gLe G - 1) (gKe G ++ [seG L G (gDr G) x]).length = if gLe G - 1 = 0 then 8 else srF L P (dif (gOp G) (seG L G (gDr G) x)) (gLe G - 1) ((gTu G + 1) % P.1) := by
      unfold erF
      rw [htu, List.length_append]
      simp
    refine kp_enterRound (by omega) ha hla hal hRB hSB hPB hPO ⟨hpa.1, by omega⟩ hCB hKB (dif_lt g2) (by simp; omega) (fun C hFC h10 h11 => ⟨rfl, hFC.ext (slT_ok hSB), h C ((hF2.trans hFk).trans (er_gx hFC)) ?_⟩)
    obtain ⟨c1, c2, c3⟩ := ga_enter ha hSB hCB hMB hKB hFC
    rw [ee] at h10 h11
    rw [e]
    refine ⟨c1, c2, c3, gp_er ?_ h10 h11⟩
    have := srF_or2 (L := L) (P := P) (o := dif (gOp G) (seG L G (gDr G) x)) (m := gLe G - 1) (t := (gTu G + 1) % P.1)
    show (if gLe G - 1 = 0 then 8 else srF L P (dif (gOp G) (seG L G (gDr G) x)) (gLe G - 1) ((gTu G + 1) % P.1)) = 0 ∨ _ = 2 ∨ _ = 3 ∨ _ = 5 ∨ 8 ≤ _
    show (if gLe G - 1 = 0 then 8 else srF L P (dif (gOp G) (seG L G (gDr G) x)) (gLe G - 1) ((gTu G + 1) % P.1)) = 0 ∨ (if gLe G - 1 = 0 then 8 else srF L P (dif (gOp G) (seG L G (gDr G) x)) (gLe G - 1) ((gTu G + 1) % P.1)) = 2 ∨ (if gLe G - 1 = 0 then 8 else srF L P (dif (gOp G) (seG L G (gDr G) x)) (gLe G - 1) ((gTu G + 1) % P.1)) = 3 ∨ (if gLe G - 1 = 0 then 8 else srF L P (dif (gOp G) (seG L G (gDr G) x)) (gLe G - 1) ((gTu G + 1) % P.1)) = 5 ∨ 8 ≤ (if gLe G - 1 = 0 then 8 else srF L P (dif (gOp G) (seG L G (gDr G) x)) (gLe G - 1) ((gTu G + 1) % P.1))
    split <;> omega
  · -- all is kept
    have w : gPh G = 2 := by omega
    rw [if_pos (Or.inr w)] at hmm
    obtain ⟨x4, xic⟩ := icN_of hn hx hmm
    refine b_X1_play_219 hC2.1 (by omega) (fin x G M2 hF2 hC2 hM2 hK2 hR2 ⟨rfl, rfl, rfl⟩ ?_ x4 xic)
    unfold mvG
    rw [if_neg (by omega), if_neg (by omega), if_neg (by omega), if_neg (by omega), if_neg (by omega), if_neg (by omega)]
  · -- halves are drawn
    have w : gPh G = 3 := by omega
    rw [if_neg (by omega), if_neg (by omega), if_pos w] at hmm
    have h8p := p8 hn
    unfold ihB at hmm
    cases hi : inN (nI x) (8 ^ L.1) with
    | none => rw [hi] at hmm; cases hmm
    | some k =>
      rw [hi] at hmm
      obtain ⟨e, hk⟩ := inN_some (by omega) hi
      have hxk : x = k := (na_eq hx (by omega)).mp e
      subst hxk
      dsimp only at hmm
      rw [Bool.and_eq_true] at hmm
      rw [hC2.2.1, hK2.2.1, hK2.2.2, pk_mul]
      refine ⟨hR2.1.1, split3 3 (2 * gLe G) _ 0 4 (by decide) (by omega) (by rw [Nat.pow_mul]; exact hi) (of_decide_eq_true hmm.1) rfl (fun C hFC c1 c2 c3 c4 c5 => h C hFC ?_)⟩
      have e : mvG L P G x = (4, gOp G, gLe G, gTu G, x, gSe G, gKe G) := by unfold mvG; rw [if_neg (by omega), if_neg (by omega), if_pos w]
      rw [e]
      exact ⟨c1, c2, c3, gp_4 rfl c5 c4⟩
  · -- halves are joined
    have w : gPh G = 4 := by omega
    rw [if_neg (by omega), if_neg (by omega), if_neg (by omega), if_pos w, Bool.and_eq_true] at hmm
    obtain ⟨x4, xic⟩ := icN_of hn hx hmm.1
    refine b_X1_play_219 hC2.1 (by omega) (fin x G M2 hF2 hC2 hM2 hK2 hR2 ⟨rfl, rfl, rfl⟩ ?_ x4 xic)
    unfold mvG
    rw [if_neg (by omega), if_neg (by omega), if_neg (by omega), if_neg (by omega), if_neg (by omega), if_neg (by omega)]
  · -- the first of two
    have w : gPh G = 5 := by omega
    intro M9 e9
    rw [if_neg (by omega), if_neg (by omega), if_neg (by omega), if_neg (by omega), if_pos w, Bool.and_eq_true] at hmm
    obtain ⟨x4, xic⟩ := icN_of hn hx hmm.1
    have hF9r : Fr (fun b k => b = a ∧ k = 14) M2 M9 := by rw [e9]; exact Fr.sI ⟨rfl, rfl⟩
    have hF9 := hF9r.rr (T := slT)
    have hF9g : Frr (gxS a mv.length) slT M2 M9 := hF9.mono (fun b k w => Or.inr (by omega)) (fun b k w => w)
    have i11 : mI M9 a 11 = bI (decide ((lsL L (gOp G) (gLe G)).length = 1)) := by rw [hF9r.at (by omega), hF2r.at (by omega)]; exact p5 w
    have hC9 := hC2.rr hF9 hT2 ⟨nslT ha, nslT ha⟩
    have hM9 := hM2.rr hF9 (fun w => by omega) (fun k w => by omega)
    have hK9 := hK2.rr hF9 ⟨fun w => by omega, fun w => by omega, fun w => by omega⟩ (fun k w => by omega)
    rw [i11, bI_0]
    refine ⟨fun q M10 e10 => ?_, fun q => ?_⟩
    · have q := of_decide_eq_false q
      have hF10r : Fr (fun b k => b = a ∧ k = 10) M9 M10 := by rw [e10]; exact Fr.sI ⟨rfl, rfl⟩
      have hF10 := hF10r.rr (T := slT)
      have e : mvG L P G x = (6, gOp G, gLe G, gTu G, x, gSe G, gKe G) := by unfold mvG; rw [if_neg (by omega), if_neg (by omega), if_neg (by omega), if_pos w, if_neg q]
      refine h M10 ((hF2.trans hF9g).trans (hF10.mono (fun b k w => Or.inr (by omega)) (fun b k w => w))) ?_
      rw [e]
      refine ⟨hC9.rr hF10 (fun b k ci n w => slT_ok (hS2.rr hF9g hT2 n18) b k ci n w) ⟨nslT ha, nslT ha⟩, hM9.rr hF10 (fun w => by omega) (fun k w => by omega), hK9.rr hF10 ⟨fun w => by omega, fun w => by omega, fun w => by omega⟩ (fun k w => by omega), gp_6 rfl (by rw [e10, mI_sI_eq]) ?_⟩
      rw [e10, mI_sI_i (by decide), e9, mI_sI_eq]; rfl
    · have q : (lsL L (gOp G) (gLe G)).length = 1 := by simpa using q
      refine fin x (gPh G, gOp G, gLe G, gTu G, x, gSe G, gKe G) M9 (hF2.trans hF9g) hC9 hM9 hK9 (hR2.rr hF9g hT2 nla) ⟨rfl, rfl, rfl⟩ ?_ x4 xic
      unfold mvG
      rw [if_neg (by omega), if_neg (by omega), if_neg (by omega), if_pos w, if_pos q]
  · -- the second of two
    have w : gPh G = 6 := by omega
    intro M12 e12 M13 e13
    have e : mvG L P G x = (7, gOp G, gLe G, gTu G, gDr G, x, gKe G) := by unfold mvG; rw [if_neg (by omega), if_neg (by omega), if_neg (by omega), if_neg (by omega), if_pos w]
    have hF13r : Fr (fun b k => b = a ∧ (k = 15 ∨ k = 10)) M2 M13 := by rw [e13, e12]; exact (Fr.sI ⟨rfl, Or.inl rfl⟩).trans (Fr.sI ⟨rfl, Or.inr rfl⟩)
    have hF13 := hF13r.rr (T := slT)
    refine h M13 (hF2.trans (hF13.mono (fun b k w => Or.inr (by omega)) (fun b k w => w))) ?_
    rw [e]
    refine ⟨hC2.rr hF13 hT2 ⟨nslT ha, nslT ha⟩, hM2.rr hF13 (fun w => by omega) (fun k w => by omega), hK2.rr hF13 ⟨fun w => by omega, fun w => by omega, fun w => by omega⟩ (fun k w => by omega), gp_7 rfl (by rw [e13, mI_sI_eq]) ?_ ?_⟩
    · rw [hF13r.at (by omega), hF2r.at (by omega)]; exact p67 (Or.inl w)
    · rw [e13, mI_sI_i (by decide), e12, mI_sI_eq]; rfl
  · -- one of two is taken
    have w : gPh G = 7 := by omega
    obtain ⟨d1, d2⟩ := g9 (Or.inr (Or.inr w))
    obtain ⟨s1, s2⟩ := g10 w
    have i14 : mI M2 a 14 = nI (gDr G) := by rw [hF2r.at (by omega)]; exact p67 (Or.inr w)
    have i15 : mI M2 a 15 = nI (gSe G) := by rw [hF2r.at (by omega)]; exact p7 w
    have e : mvG L P G x = kpG L G (if x = 0 then gDr G else gSe G) := by unfold mvG; rw [if_neg (by omega), if_neg (by omega), if_neg (by omega), if_neg (by omega), if_neg (by omega), if_pos w]
    rw [na_eq hx (by decide), i14, i15]
    refine ⟨fun q => b_X1_play_213 hC2.1 (by omega) (fin (gSe G) G M2 hF2 hC2 hM2 hK2 hR2 ⟨rfl, rfl, rfl⟩ (by rw [e, if_neg q]) s2 s1), fun q => b_X1_play_213 hC2.1 (by omega) (fin (gDr G) G M2 hF2 hC2 hM2 hK2 hR2 ⟨rfl, rfl, rfl⟩ (by rw [e, if_pos q]) d2 d1)⟩
end PLAY
