/-! THE CLASS: what a game allows, the rest; back; made -/
theorem any_gt {xs : List Nat} (h : xs.Pairwise (· < ·)) {x : Nat} (hx : x ∈ xs) : xs.any (fun y => decide (x < y)) = decide (xs.getD (xs.length - 1) 0 ≠ x) := by
  have hl := pw_last h hx
  have hne : xs.length ≠ 0 := fun z => by
    have := List.length_eq_zero_iff.mp z
    subst this; cases hx
  have hin : xs.getD (xs.length - 1) 0 ∈ xs := by
    simp only [List.getD]
    rw [List.getElem?_eq_getElem (by omega)]
    exact List.getElem_mem _
  by_cases hq : xs.getD (xs.length - 1) 0 = x
  · rw [decide_eq_false (fun w => w hq)]
    rw [List.any_eq_false]
    intro y hy
    have := pw_last h hy
    rw [hq] at this
    simpa using this
  · rw [decide_eq_true hq, List.any_eq_true]
    exact ⟨_, hin, decide_eq_true (by omega)⟩
theorem n_leI {x : Int32} {n : Nat} (h : n < 2 ^ 31) : nI n ≤ x ↔ (n : Int) ≤ x.toInt := by rw [Int32.le_iff_toInt_le, nI_toInt h]
theorem leI_n {x : Int32} {n : Nat} (h : n < 2 ^ 31) : x ≤ nI n ↔ x.toInt ≤ (n : Int) := by rw [Int32.le_iff_toInt_le, nI_toInt h]
section ASK
variable {X : Cx} {d a la pr : Nat} {L : LandT} {P : ProT} {M : Mem} {Q : Option AV → Mem → Prop}
theorem ic_mem {x : Int32} {o m : Nat} (hn : L.1 ≤ 9) (h : icB L x o m = true) : ∃ k, x = nI k ∧ k < 4 ^ L.1 ∧ k < 2 ^ 31 ∧ x.toInt.toNat = k ∧ icN L k o m ∧ k ∈ lsL L o m := by
  have h49 : 4 ^ L.1 ≤ 4 ^ 9 := Nat.pow_le_pow_right (by decide) hn
  have h49e : (4 : Nat) ^ 9 = 262144 := rfl
  unfold icB at h
  cases hi : inN x (4 ^ L.1) with
  | none => rw [hi] at h; cases h
  | some k =>
    rw [hi] at h
    obtain ⟨e, hk⟩ := inN_some (by omega) hi
    have hic := of_decide_eq_true h
    exact ⟨k, e, hk, by omega, by rw [e, toI_n (by omega)]; simp, hic, lsL_all hk hic⟩
theorem kp_pFirst {o m : Nat} {x : Int32} (hd : 3 ≤ d) (ha : 37 < a) (hla : 37 < la) (hal : a + 4 < la ∨ la + 8 < a) (hR : laR M la L) (hS : scX M) (hC : gcX M a la pr) (k8 : mI M a 8 = nI o) (k9 : mI M a 9 = nI m) (k11 : mI M a 11 = bI (decide ((lsL L o m).length = 1))) (ho : o < 2 ^ L.1) (hm : 1 ≤ m ∧ m ≤ 4)
    (h : ∀ B, Frr (akS a) slT M B → Q (some (vI (bI (icB L x o m && (decide ((lsL L o m).getD ((lsL L o m).length - 1) 0 ≠ x.toInt.toNat) || decide ((lsL L o m).length = 1)))))) B) : Cl X d 0 0 m_X1_permitsFirst [vR a, vI x] M Q := by
  obtain ⟨hG, h2, h3⟩ := hC
  have hn := hR.2.2.1.2
  have h512 := p9 hn
  have hT := slT_ok hS
  refine e_X1_permitsFirst (b_X1_permitsFirst_0 hG (by omega) ?_)
  rw [h2, k8, k9]
  refine ⟨hR.1.1, kp_ask (by omega) hR ho hm.2 hG.k13 (by unfold ofa; omega) (fun B hFB hB => ⟨_, rfl, hFB.ext, fun q => ?_, fun q => ?_⟩)⟩
  rotate_left
  · rw [bI_0] at q
    have h9 := h B (sp_ak hFB)
    rw [q, Bool.false_and] at h9; exact h9
  rw [bI_n0] at q
  rw [q, Bool.true_and] at h
  obtain ⟨k, e1, e2, e3, e4, e5, e6⟩ := ic_mem hn q
  rw [e4, ← any_gt (lsL_pw hm.2) e6] at h
  have hFr : Frr (akS a) slT M B := sp_ak hFB
  have hRB := hR.rr hFr hT (fun b k h1 h2 => ak_no (by omega) (by omega))
  have hSB := hS.rr hFr hT (fun w => by rcases w with w | w; exact sl_no18 w; omega)
  have hGB := hG.ext hFB.ext
  have r2 : mR B a 2 = la := by rw [hFr.r (nslT ha)]; exact h2
  have i8 : mI B a 8 = nI o := by rw [hFB.at (fun q => by unfold atS at q; omega)]; exact k8
  have i9 : mI B a 9 = nI m := by rw [hFB.at (fun q => by unfold atS at q; omega)]; exact k9
  have i11 : mI B a 11 = bI (decide ((lsL L o m).length = 1)) := by rw [hFB.at (fun q => by unfold atS at q; omega)]; exact k11
  rw [r2, i8, i9, hRB.1.2.2.1.1]
  refine ⟨hRB.1.1, kp_scoutCuts (by omega) hla hRB hSB ho hm (fun C N hFC hRC hSC hWC => ⟨rfl, hFC.ext (slT_ok hSB), ?_⟩)⟩
  have hlen := lsL_len (o := o) hn hm.2
  have fin : ∀ (D : Mem) (b : Bool), Frr slS slT B D → (lsL L o m).any (fun y => decide (k < y)) = b → WA X d 0 0 m_X1_permitsFirst 102 [some (vR a), none, some (vI (bI b)), none] [] D Q := fun D b hFD hb => by
    have h9 := h D (hFr.trans (sl_ak hFD))
    have i11D : mI D a 11 = bI (decide ((lsL L o m).length = 1)) := by rw [hFD.i (nsl ha)]; exact i11
    refine b_X1_permitsFirst_102 (hGB.ext (hFD.ext (slT_ok hSB))) ?_
    rw [bI_0, i11D, bI_0]
    rw [hb] at h9
    refine ⟨fun w => ?_, fun w => ⟨fun w2 => ?_, fun w2 => ?_⟩⟩
    · rw [eq_true_of_ne_false w, Bool.true_or] at h9; exact h9
    · rw [w, w2] at h9; exact h9
    · rw [w, eq_true_of_ne_false w2] at h9; exact h9
  have key : ∀ xs i (D : Mem), i + xs.length ≤ 8000 → Frr slS slT B D → cuW D 29 (la + 8) (lwB L) 2 L.1 o m N xs → (∀ y, y ∈ xs → y < 2 ^ 31) → (lsL L o m).any (fun y => decide (k < y)) = xs.any (fun y => decide (k < y)) → WA X d 0 0 m_X1_permitsFirst 58 [some (vR a), some (vI x), some (vI (nI 0)), some (vI (nI i))] [] D Q := by
    intro xs
    induction xs with
    | nil =>
      intro i D hi hFD hWD hal2 he
      have hi : i + 0 ≤ 8000 := hi
      refine b_X1_permitsFirst_58 (hGB.ext (hFD.ext (slT_ok hSB))) (by omega) ⟨fun w => absurd (by rw [na_le (by decide) (by omega)] at w; omega) (id : False → False), fun _ => ⟨fun w => absurd rfl w, fun _ => ?_⟩⟩
      refine kp_next (by omega) hWD (fun hx E hFE hBE => ⟨_, rfl, hFE.ext, fun _ => ?_, fun w => absurd rfl w⟩) (fun y ys hy => by cases hy)
      exact fin E false (hFD.trans (cuS_sl hFE)) (by rw [he]; rfl)
    | cons y xs ih =>
      intro i D hi hFD hWD hal2 he
      simp only [List.length_cons] at hi
      have hy31 := hal2 y (by simp)
      refine b_X1_permitsFirst_58 (hGB.ext (hFD.ext (slT_ok hSB))) (by omega) ⟨fun w => absurd (by rw [na_le (by decide) (by omega)] at w; omega) (id : False → False), fun _ => ⟨fun w => absurd rfl w, fun _ => ?_⟩⟩
      refine kp_next (by omega) hWD (fun hx => by cases hx) (fun y' ys' hy E hFE hWE hXE hpE => ⟨_, rfl, hFE.ext, fun w => absurd w (by decide), fun _ => ?_⟩)
      cases hy
      have hFE2 := hFD.trans (cuS_sl (T := slT) hFE)
      refine kp_number0 hWE.1 hWE.2.1 (by decide) (by omega) hXE ⟨_, rfl, Ext.refl _, ?_⟩
      rw [e1, na_le hy31 e3]
      rw [List.any_cons] at he
      refine ⟨fun w => ?_, fun w => ?_⟩
      · rw [decide_eq_false (by omega), Bool.false_or] at he
        rw [nI_add, ← e1]
        exact ih (i + 1) E (by omega) hFE2 hWE (fun z hz => hal2 z (by simp [hz])) he
      · rw [decide_eq_true (by omega), Bool.true_or] at he
        have hGE := hGB.ext (hFE2.ext (slT_ok hSB))
        refine b_X1_permitsFirst_58 hGE (by omega) ⟨fun _ => fin E true hFE2 he, fun _ => ⟨fun _ => fin E true hFE2 he, fun w => absurd w (by decide)⟩⟩
  exact key (lsL L o m) 0 C (by omega) hFC hWC (fun y hy => by
    have := (lsL_ok hm.2 hy).1
    have h49 : 4 ^ L.1 ≤ 4 ^ 9 := Nat.pow_le_pow_right (by decide) hn
    have h49e : (4 : Nat) ^ 9 = 262144 := rfl
    omega) rfl
theorem kp_permits {G : GamT} {mv : List Nat} {x : Int32} (hd : 9 ≤ d) (ha : 37 < a) (hla : 37 < la) (hal : a + 4 < la ∨ la + 8 < a) (hR : laR M la L) (hS : scX M) (hA : gaX M a la pr L G mv) (hK : GOK L P G)
    (h : ∀ B, Frr (akS a) slT M B → Q (some (vI (bI (mmB L G x)))) B) : Cl X d 0 0 m_X1_permits [vR a, vI x] M Q := by
  have hn := hR.2.2.1.2
  have h512 := p9 hn
  have hs4 := hR.2.2.2.1
  obtain ⟨hC, hM, hKx, hPx⟩ := hA
  obtain ⟨g1, g2, g3, g4, g5, g6, g7, g8, g9, g10, g11⟩ := hK
  obtain ⟨p10, p5, p1, p4, p67, p7⟩ := hPx
  have hG := hC.1
  have k8 := hKx.2.1
  have k9 := hKx.2.2
  have cut : (gPh G = 0 ∨ gPh G = 2) → WA X d 0 0 m_X1_permits 52 [some (vR a), some (vI x)] [] M Q := fun w => by
    refine b_X1_permits_52 hG (by omega) ?_
    rw [hC.2.1, k8, k9]
    refine ⟨hR.1.1, kp_ask (by omega) hR g2 (by omega) hG.k13 (by unfold ofa; omega) (fun B hFB hB => ⟨_, rfl, hFB.ext, bI_B _, ?_⟩)⟩
    have h9 := h B (sp_ak hFB)
    unfold mmB at h9
    rw [if_pos w] at h9; exact h9
  refine e_X1_permits (b_X1_permits_0 hG (by omega) (fun x1 ex => ?_))
  rw [p10] at ex
  have ei : x1.toInt = gPh G := by rw [ex]; exact toI_n (by omega)
  refine ⟨fun w => ?_, fun w => cut (by omega), fun w => ?_, fun w => cut (by omega), fun w => ?_, fun w => ?_, fun w => ?_, fun w => ?_, fun w => ?_⟩
  · have h9 := h M Frr.refl
    unfold mmB at h9
    rw [if_neg (by omega), if_neg (by omega), if_neg (by omega), if_neg (by omega), if_neg (by omega), if_neg (by omega), if_neg (by omega)] at h9
    exact h9
  · have h9 := h M Frr.refl
    unfold mmB at h9
    rw [if_neg (by omega), if_pos (by omega)] at h9
    rw [k9, toI_lt0, n_leI (by omega)]
    refine ⟨fun q => ?_, fun q0 => ⟨fun q => ?_, fun q => ?_⟩⟩
    · have e : inN x (gLe G) = none := by unfold inN; rw [if_neg (by omega)]
      rw [e] at h9; exact h9
    · have e : inN x (gLe G) = none := by unfold inN; rw [if_neg (by omega)]
      rw [e] at h9; exact h9
    · have e : (inN x (gLe G)).isSome = true := by unfold inN; rw [if_pos (by omega)]; rfl
      rw [e] at h9; exact h9
  · have w : gPh G = 3 := by omega
    refine kp_pHalves (by omega) ha hla hal hR hS hC k8 k9 g2 (by omega) (fun B hFB => ⟨_, rfl, hFB.ext (slT_ok hS), bI_B _, ?_⟩)
    have h9 := h B hFB
    unfold mmB at h9
    rw [if_neg (by omega), if_neg (by omega), if_pos w] at h9; exact h9
  · have w : gPh G = 4 := by omega
    have g11 := g11 w
    have hnu : nuF 3 L.1 (gDr G) (gOp G) L.1 = some (2 * gLe G) := by
      have h8p := p8 hn
      unfold ihB at g11
      cases hi : inN (nI (gDr G)) (8 ^ L.1) with
      | none => rw [hi] at g11; cases g11
      | some k =>
        rw [hi] at g11
        obtain ⟨e, hk⟩ := inN_some (by omega) hi
        have hxk : gDr G = k := (na_eq g5 (by omega)).mp e
        rw [← hxk] at g11
        dsimp only at g11
        rw [Bool.and_eq_true] at g11
        exact of_decide_eq_true g11.1
    refine kp_pJoining (by omega) ha hla hal hR hC k8 k9 g2 (by omega) hnu (p4 w) (fun B hFB => ⟨_, rfl, hFB.ext (slT_ok hS), bI_B _, ?_⟩)
    have h9 := h B hFB
    unfold mmB at h9
    rw [if_neg (by omega), if_neg (by omega), if_neg (by omega), if_pos w] at h9; exact h9
  · have w : gPh G = 5 := by omega
    obtain ⟨hle, -⟩ := g8 (by omega)
    refine kp_pFirst (by omega) ha hla hal hR hS hC k8 k9 (p5 w) g2 (by omega) (fun B hFB => ⟨_, rfl, hFB.ext (slT_ok hS), bI_B _, ?_⟩)
    have h9 := h B hFB
    unfold mmB at h9
    rw [if_neg (by omega), if_neg (by omega), if_neg (by omega), if_neg (by omega), if_pos w] at h9; exact h9
  · have w : gPh G = 6 := by omega
    have e6 : mmB L G x = (icB L x (gOp G) (gLe G) && decide (gDr G < x.toInt.toNat)) := by
      unfold mmB
      rw [if_neg (by omega), if_neg (by omega), if_neg (by omega), if_neg (by omega), if_neg (by omega), if_pos w]
    rw [e6] at h
    rw [p67 (Or.inl w), leI_n (by omega)]
    refine ⟨fun q => ?_, fun q => ?_⟩
    · have h9 := h M Frr.refl
      rw [decide_eq_false (by omega), Bool.and_false] at h9; exact h9
    · rw [hC.2.1, k8, k9]
      refine ⟨hR.1.1, kp_ask (by omega) hR g2 (by omega) hG.k13 (by unfold ofa; omega) (fun B hFB hB => ⟨_, rfl, hFB.ext, ?_⟩)⟩
      have h9 := h B (sp_ak hFB)
      rw [decide_eq_true (by omega), Bool.and_true] at h9
      rw [bI_0]
      refine ⟨fun q2 => ?_, fun q2 => ?_⟩
      · rw [q2] at h9; exact h9
      · rw [eq_true_of_ne_false q2] at h9; exact h9
  · have w : gPh G = 7 := by omega
    have h9 := h M Frr.refl
    unfold mmB at h9
    rw [if_neg (by omega), if_neg (by omega), if_neg (by omega), if_neg (by omega), if_neg (by omega), if_neg (by omega), if_pos w] at h9
    have t0 : x = nI 0 ↔ x.toInt = 0 := by rw [← Int32.toInt_inj]; exact Iff.rfl
    have t1 : x = nI 1 ↔ x.toInt = 1 := by rw [← Int32.toInt_inj]; exact Iff.rfl
    rw [t0, t1]
    refine ⟨fun q => ?_, fun q => ⟨fun q2 => ?_, fun q2 => ?_⟩⟩
    · have e : (inN x 2).isSome = true := by unfold inN; rw [if_pos (by omega)]; rfl
      rw [e] at h9; exact h9
    · have e : inN x 2 = none := by unfold inN; rw [if_neg (by omega)]
      rw [e] at h9; exact h9
    · have e : (inN x 2).isSome = true := by unfold inN; rw [if_pos (by omega)]; rfl
      rw [e] at h9; exact h9
theorem stL_take {xs : List Nat} {B : Mem} {b n : Nat} (h : stL B b 0 xs) : stL B b 0 (xs.take n) := fun k x hk => by
  rw [List.getElem?_take] at hk
  split at hk
  · exact h k x hk
  · cases hk
theorem lg_take {mv : List Nat} {n : Nat} (h : lgM L P mv) : lgM L P (mv.take n) := fun k x hk => by
  rw [List.getElem?_take] at hk
  split at hk
  · have := h k x hk
    rw [List.take_take, Nat.min_eq_left (by omega)]; exact this
  · cases hk
theorem kp_takeBack {mv : List Nat} (hd : 11 ≤ d) (ha : 37 < a) (hla : 37 < la) (hal : a + 4 < la ∨ la + 8 < a) (hR : laR M la L) (hS : scX M) (hP : prX M pr P) (hPO : ProOK P) (hpa : 37 < pr ∧ (pr + 2 < a ∨ a + 4 < pr)) (hA : gaX M a la pr L (plG L P mv) mv) (hlg : lgM L P mv) (hmv : mv ≠ [])
    (h : ∀ B, Frr (fun b k => slS b k ∨ (a ≤ b ∧ b ≤ a + 4)) (stT a) M B → gaX B a la pr L (plG L P mv.dropLast) mv.dropLast → Q none B) : Cl X d 0 0 m_X1_takeBack [vR a] M Q := by
  have hO := hR.2.2
  have hs4 := hO.2.1
  obtain ⟨hC, hM, hKx, hPx⟩ := hA
  have hlen : 0 < mv.length := List.length_pos_iff.mpr hmv
  have h8 : mv.length ≤ 8 := by
    have := (pl_ok hO hPO mv.length mv rfl hlg).2.2
    omega
  have ed : mv.dropLast = mv.take (mv.length - 1) := List.dropLast_eq_take
  refine e_X1_takeBack (b_X1_takeBack_0 hC.1 (by omega) (fun x1 e1 => ?_))
  rw [hM.1, na_sub (a := mv.length) (b := 1) hlen] at e1
  rw [hC.2.1, hC.2.2, e1]
  refine kp_start (by omega) ha hla hal hR hS hP hPO hpa hC.1 (fun B hFB hAB => ⟨rfl, hFB.ext (stT_ok hS hC.1), ?_⟩)
  have hT := stT_ok hS hC.1
  have hmvB : stL B (a + 1) 0 mv := hM.2.rr hFB (fun k hk w => by
    rcases w with w | w
    · exact nsl (by omega) w
    · have := w.2.2 rfl; omega)
  have nla : ∀ b k, la ≤ b → b ≤ la + 8 → ¬ gxS a 9 b k := fun b k h1 h2 => gx_no (by omega) (by omega)
  have hRB := hR.rr hFB hT nla
  have hSB := hS.rr hFB hT (fun w => by rcases w with w | w; exact sl_no18 w; omega)
  have hPB := hP.rr hFB hT (fun b k h1 h2 => gx_no (by omega) (by omega))
  have key : ∀ r i (C : Mem), i + r = mv.length - 1 → Frr (fun b k => slS b k ∨ (a ≤ b ∧ b ≤ a + 4)) slT B C → stL C (a + 1) 0 mv → gaX C a la pr L (plG L P (mv.take i)) (mv.take i) → WA X d 0 0 m_X1_takeBack 21 [some (vR a), some (vI (nI (mv.length - 1))), some (vI (nI i))] [] C Q := by
    intro r
    induction r with
    | zero =>
      intro i C hi hFC hmC hAC
      obtain rfl : i = mv.length - 1 := by omega
      rw [← ed] at hAC
      refine b_X1_takeBack_21 hAC.1.1 (by omega) ⟨fun _ => h C ((hFB.mono (fun b k w => w.elim (fun w => Or.inl w) (fun w => Or.inr ⟨w.1, w.2.1⟩)) (fun b k w => w)).trans (hFC.mono (fun b k w => w) (fun b k w => Or.inl w))) hAC, fun w => absurd (by rw [na_le (by omega) (by omega)]; exact Nat.le_refl _) w⟩
    | succ r ih =>
      intro i C hi hFC hmC hAC
      have hil : i < mv.length := by omega
      have hgi : mv[i]? = some mv[i] := List.getElem?_eq_getElem hil
      obtain ⟨lg1, lg2⟩ := hlg i _ hgi
      have hTB := slT_ok hSB
      have nC : ∀ b k, 37 < b → (b < a ∨ a + 4 < b) → ¬ (fun b k => slS b k ∨ (a ≤ b ∧ b ≤ a + 4)) b k := fun b k h1 h2 w => by
        rcases w with w | w
        · exact nsl h1 w
        · omega
      have hRC := hRB.rr hFC hTB (fun b k h1 h2 => nC b k (by omega) (by omega))
      have hSC := hSB.rr hFC hTB (fun w => by rcases w with w | w; exact sl_no18 w; omega)
      have hPC := hPB.rr hFC hTB (fun b k h1 h2 => nC b k (by omega) (by omega))
      obtain ⟨k1, k2, k3⟩ := pl_ok hO hPO (mv.take i).length (mv.take i) rfl (lg_take hlg)
      have hph : gPh (plG L P (mv.take i)) < 8 := by
        refine Classical.byContradiction (fun w => ?_)
        unfold mmB at lg1
        rw [if_neg (by omega), if_neg (by omega), if_neg (by omega), if_neg (by omega), if_neg (by omega), if_neg (by omega), if_neg (by omega)] at lg1
        cases lg1
      have e0 := hmC i _ hgi
      rw [Nat.zero_add] at e0
      refine b_X1_takeBack_21 hAC.1.1 (by omega) ⟨fun w => absurd (by rw [na_le (by omega) (by omega)] at w; omega) (id : False → False), fun _ => ⟨na_in (by omega) (by decide), ?_⟩⟩
      rw [na_ix (by omega), e0]
      refine kp_play (by omega) ha hla hal hRC hSC hPC hPO hpa hAC k1 hph lg2 lg1 (by simp; omega) (fun D hFD hAD => ⟨rfl, hFD.ext (slT_ok hSC), ?_⟩)
      rw [nI_add]
      have et : mv.take i ++ [mv[i]] = mv.take (i + 1) := by rw [List.take_succ, hgi]; rfl
      have eg : mvG L P (plG L P (mv.take i)) mv[i] = plG L P (mv.take (i + 1)) := by
        rw [← et]; unfold plG; rw [List.foldl_append]; rfl
      rw [et, eg] at hAD
      refine ih (i + 1) D (by omega) (hFC.trans (hFD.mono (fun b k w => w.elim (fun w => Or.inl w) (fun w => Or.inr ⟨w.1, w.2.1⟩)) (fun b k w => w))) (fun k y hk => ?_) hAD
      by_cases z : k = i
      · subst z
        have hm1 := hAD.2.1.2 k y (by rw [List.getElem?_take, if_pos (by omega)]; exact hk)
        exact hm1
      · have hkl : k < mv.length := (List.getElem?_eq_some_iff.mp hk).1
        rw [hFD.i (fun w => by
          rcases w with w | w
          · exact nsl (by omega) w
          · have := w.2.2 rfl
            rw [List.length_take] at this
            omega)]
        exact hmC k y hk
  exact key (mv.length - 1) 0 B (by omega) Frr.refl hmvB (by rw [List.take_zero]; exact hAB)
end ASK
