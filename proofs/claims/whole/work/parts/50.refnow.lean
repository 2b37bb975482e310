/-! THE REFERENCE: value and the best move now -/
theorem kwL_b (L : LandT) (g : Nat) (ks : List Nat) : -(ks.length : Int) ≤ kwL L g ks ∧ kwL L g ks ≤ ks.length := smZ_b _ (fun _ _ => woL_b _ _)
theorem ofB_none : ofB none := fun q hq => by cases hq
section NOW
variable {X : Cx} {l p g : Nat} {L : LandT} {P : ProT} {ot : Bool}
theorem sp_keptWorth {d : Nat} {ks : List Nat} {M : Mem} {Q : Option AV → Mem → Prop} (hd : 2 ≤ d) (hH : rH M l L) (hg : mI M 75 36 = nI g) (hg3 : g < 3) (h32 : mI M 75 32 = nI ks.length) (h77 : stL M 92 0 ks) (hk : ks.length ≤ 4) (hks : ∀ s, s ∈ ks → s < 2 ^ L.1 ∧ 1 ≤ s) (h : Q (some (vI (zI (kwL L g ks)))) M) : Cl X d 0 0 m_X11_keptWorth [vR 75] M Q := by
  have key : ∀ r k, k + r = ks.length → WA X d 0 0 m_X11_keptWorth 4 [some (vR 75), some (vI (zI (smZ k (fun k => woL g (wnL L (ks.getD k 0)))))), some (vI (nI k))] [] M Q := by
    intro r
    induction r with
    | zero =>
      intro k hk2
      obtain rfl : k = ks.length := by omega
      exact b_X11_keptWorth_4 hH.1 (by omega) ⟨fun _ => h, fun q => absurd (by rw [h32, na_le (by omega) (by omega)]; omega) q⟩
    | succ r ih =>
      intro k hk2
      have hkk : ks[k]? = some (ks.getD k 0) := by
        simp only [List.getD]
        rw [List.getElem?_eq_getElem (by omega)]; rfl
      obtain ⟨s1, s2⟩ := hks _ (List.mem_of_getElem? hkk)
      have e := h77 _ _ hkk
      rw [Nat.zero_add] at e
      refine b_X11_keptWorth_4 hH.1 (by omega) ⟨fun q => ?_, fun _ => ⟨na_in (by omega) (by omega), ?_⟩⟩
      · rw [h32, na_le (by omega) (by omega)] at q; omega
      rw [na_ix (by omega), e]
      refine sp_worth hH hg hg3 s2 s1 ⟨_, rfl, Ext.refl _, fun x2 e2 => ?_⟩
      rw [e2, zI_add, nI_add]
      exact ih (k + 1) (by omega)
  exact e_X11_keptWorth (b_X11_keptWorth_0 hH.1 (key ks.length 0 (by omega)))
theorem sp_seekBest {d : Nat} {G : GamT} {M : Mem} {Q : Option AV → Mem → Prop} (hd : 54 ≤ d) (hVG : VG M l p L P g ot G) (h8 : gPh G < 8)
    (h : ∀ B : Mem, Fr ssS M B → VG B l p L P g ot G → (∀ q, sbF L P g ot G = some q → mI B 75 40 = zI q.1) → Q (some (vI (oI ((sbF L P g ot G).map (·.2))))) B) : Cl X d 0 0 m_X11_seekBest [vR 75] M Q := by
  have hVG0 := hVG
  obtain ⟨hV, hG, hK⟩ := hVG
  have hG0 := hG
  have hb := hV.1.b
  have h4 := p4 hb.2.1
  have h512 := p9 hb.2.1
  have hO := hV.2.2.1
  have hK0 := hK
  obtain ⟨g1, g2, g3, g4, g5, g6, g7, g8, g9, g10⟩ := hG
  obtain ⟨k1, k2, k3, k4, k5, k6, k7, k8, k9, k10, k11⟩ := hK
  have hle := (k8 h8).1
  obtain ⟨m, hm⟩ : ∃ m, gLe G = m + 1 := ⟨gLe G - 1, by omega⟩
  have hmo : moF P ot G ≤ 1 := by
    have := drF_le hO ot (gTu G)
    unfold moF; split <;> omega
  have fin : ∀ (B : Mem) (b : Option (Int × Nat)), Fr ssS M B → VG B l p L P g ot G → ofR B b → sbF L P g ot G = b → Q (some (vI (mI B 75 41))) B := fun B b hF hV2 hR he => by
    rw [hR.2]
    rw [he] at h
    refine h B hF hV2 (fun q hq => ?_)
    subst hq
    exact hR.1
  refine e_X11_seekBest (b_X11_seekBest_0 hV.1.1 (by omega) (sp_mover (by omega) hV.1.1 hV.2.1 hO hV.2.2.2.1 hG0 hK0 ⟨_, rfl, Ext.refl _, sp_great hV.1.1 hV.2.2.2.2.2.2.1 hV.2.2.2.2.2.2.2.1 hmo ⟨_, rfl, Ext.refl _, fun M3 e3 M4 e4 x3 ex => ?_⟩⟩))
  have hF4 : Fr ofS M M4 := by rw [e4, e3]; exact (Fr.sI ⟨rfl, Or.inl rfl⟩).trans (Fr.sI ⟨rfl, Or.inr rfl⟩)
  have hVG4 := hVG0.of (ofS_vs hF4) (ofS_ss hF4)
  have hR4 : ofR M4 none := ⟨by rw [e4, mI_sI_i (by decide), e3, mI_sI_eq]; rfl, by rw [e4, mI_sI_eq]; rfl⟩
  have ex : x3.toInt = (gPh G : Int) := by rw [ex, hVG4.2.1.2.2.2.2.2.1, nI_toInt (by omega)]
  rw [ex]
  generalize hgr : grB g (moF P ot G) = gr
  unfold sbF at fin h
  rw [hgr] at fin h
  have h208 : ∀ dd : Nat, dd = d → (gPh G = 0 ∨ gPh G = 2 ∨ gPh G = 4 ∨ gPh G = 6) → WA X d 0 0 m_X11_seekBest 208 [some (vR 75), some (vI (bI gr)), none] [] M4 Q := fun dd _ hq => by
    refine b_X11_seekBest_208 hVG4.1.1.1 (by omega) (sp_seekCut (by omega) hVG4 hR4 hq (fun B hF hV2 hR => ⟨rfl, hF.ext, ?_⟩))
    exact fin B _ ((ofS_ss hF4).trans hF) hV2 hR (by rw [if_neg (by omega), if_neg (by omega), if_neg (by omega), if_neg (by omega)])
  obtain ⟨y1, y2, y3, y4, y5, y6, y7, y8, y9, y10⟩ := hVG4.2.1
  refine ⟨fun q => h208 d rfl (by omega), fun q => ?_, fun q => h208 d rfl (by omega), fun q => ?_, fun q => h208 d rfl (by omega), fun q => ?_, fun q => h208 d rfl (by omega), fun q => ?_⟩
  · -- a seat is to be kept
    obtain ⟨c1, c2⟩ := k9 (by omega)
    have key : ∀ j s (b : Option (Int × Nat)) (B : Mem), s + j = gLe G → Fr ssS M B → VG B l p L P g ot G → ofB b → ofR B b → fldR (fun acc s => ofT gr acc s (ktF L g (cmF L P g ot (gLe G - 1)) (gDr G) (gOp G) s)) j s b = fldR (fun acc s => ofT gr acc s (ktF L g (cmF L P g ot (gLe G - 1)) (gDr G) (gOp G) s)) (gLe G) 0 none →
        WA X d 0 0 m_X11_seekBest 70 [some (vR 75), some (vI (bI gr)), some (vI (nI s))] [] B Q := by
      intro j
      induction j with
      | zero =>
        intro s b B hs hF hVB hbb hbR he
        obtain ⟨z1, z2, z3, z4, z5, z6, z7, z8, z9, z10⟩ := hVB.2.1
        refine b_X11_seekBest_70 hVB.1.1.1 (by omega) ⟨fun _ => ?_, fun q => absurd (by rw [z4, na_le (by omega) (by omega)]; omega) q⟩
        simp only [fldR] at he
        exact fin B b hF hVB hbR (by rw [if_pos (by omega), ← he])
      | succ j jh =>
        intro s b B hs hF hVB hbb hbR he
        obtain ⟨z1, z2, z3, z4, z5, z6, z7, z8, z9, z10⟩ := hVB.2.1
        refine b_X11_seekBest_70 hVB.1.1.1 (by omega) ⟨fun q => ?_, fun _ => ?_⟩
        · rw [z4, na_le (by omega) (by omega)] at q; omega
        rw [z9 (by omega), z3, z4, hm]
        refine sp_keptValue (sp_comes m) (by omega) hVB.1 c2 k2 (by omega) (by rw [← hm]; exact c1.1) (by omega) (fun B2 hF2 hV2 => ⟨_, rfl, hF2.ext, ?_⟩)
        have hcb := cmF_b9 (L := L) (P := P) (g := g) (ot := ot) (m := m) (by omega) (dif (gOp G) (sOB 2 L.1 (gDr G) (gOp G) s))
        have hwb := woL_b g (wnL L (sOB 2 L.1 (gDr G) (gOp G) s))
        have hkb : -20 ≤ ktF L g (cmF L P g ot m) (gDr G) (gOp G) s ∧ ktF L g (cmF L P g ot m) (gDr G) (gOp G) s ≤ 20 := by unfold ktF; omega
        have hVG2 := hVB.v hV2 (cmS_ss hF2)
        refine sp_offer hV2.1.1 hbb (hbR.fr hF2 (by unfold cmS; omega) (by unfold cmS; omega)) hkb (fun B3 hF3 hR3 => ⟨rfl, hF3.ext, ?_⟩)
        rw [nI_add]
        refine jh (s + 1) _ B3 (by omega) ((hF.trans (cmS_ss hF2)).trans (ofS_ss hF3)) (hVG2.of (ofS_vs hF3) (ofS_ss hF3)) (ofT_b hbb hkb (by omega)) hR3 ?_
        rw [← he, fldR, hm, Nat.add_sub_cancel]
    exact key (gLe G) 0 none M4 (by omega) (ofS_ss hF4) hVG4 ofB_none hR4 rfl
  · -- halves
    rw [y3, y4]
    refine sp_halvesValue (by omega) k2 (by omega) hVG4.1.2.2.2.2.2.2.1 hVG4.1.2.2.2.2.2.2.2.1 hVG4.1.1 (fun B hF hk => ⟨_, rfl, hF.ext, fun M6 e6 => ?_⟩)
    obtain ⟨r1, r2, r3, r4⟩ := hk
    have hF6 : Fr ofS B M6 := by rw [e6]; exact Fr.sI ⟨rfl, Or.inl rfl⟩
    have hVG6 := (hVG4.of (hvS_vs hF) (hvS_ss hF)).of (ofS_vs hF6) (ofS_ss hF6)
    have o6 : ∀ k, k ≠ 40 → mI M6 75 k = mI B 75 k := fun k hk => by rw [e6, mI_sI_i hk]
    have hFt : Fr ssS M M6 := ((ofS_ss hF4).trans (hvS_ss hF)).trans (ofS_ss hF6)
    rw [o6 42 (by decide), o6 39 (by decide), r3]
    have hsb : (if gPh G = 1 then fldR (fun acc s => ofT gr acc s (ktF L g (cmF L P g ot (gLe G - 1)) (gDr G) (gOp G) s)) (gLe G) 0 none else if gPh G = 3 then hvF L g gr true (gOp G) (gLe G) else if gPh G = 5 then prF gr (fun c => cwL L g c (gOp G) (gLe G)) (lsL L (gOp G) (gLe G)) else if gPh G = 7 then ofT gr (ofT gr none 0 (cwL L g (gDr G) (gOp G) (gLe G))) 1 (cwL L g (gSe G) (gOp G) (gLe G)) else (lsL L (gOp G) (gLe G)).foldl (scT L P g ot G gr) none) = hvF L g gr true (gOp G) (gLe G) := by
      rw [if_neg (by omega), if_pos (by omega)]
    rw [hsb] at h
    revert h e6 r4
    cases hvF L g gr true (gOp G) (gLe G) with
    | none =>
      intro h e6 r4
      refine ⟨fun _ => b_X11_seekBest_145 hVG6.1.1.1 (fun M1 e1 => ?_), fun z => absurd rfl z⟩
      have hF1 : Fr ofS M6 M1 := by rw [e1]; exact Fr.sI ⟨rfl, Or.inr rfl⟩
      rw [e1, mI_sI_eq, ← e1]
      exact h M1 (hFt.trans (ofS_ss hF1)) (hVG6.of (ofS_vs hF1) (ofS_ss hF1)) (fun q hq => by cases hq)
    | some v =>
      intro h e6 r4
      obtain ⟨w1, w2, w3, w4⟩ := r4 rfl v rfl
      refine ⟨fun z => absurd z (show ¬ bI true = nI 0 by decide), fun _ => b_X11_seekBest_145 hVG6.1.1.1 (fun M1 e1 => ?_)⟩
      have hF1 : Fr ofS M6 M1 := by rw [e1]; exact Fr.sI ⟨rfl, Or.inr rfl⟩
      have e41 : mI M1 75 41 = nI v.2 := by rw [e1, mI_sI_eq, w2]
      rw [e41]
      refine h M1 (hFt.trans (ofS_ss hF1)) (hVG6.of (ofS_vs hF1) (ofS_ss hF1)) (fun q hq => ?_)
      cases hq
      rw [e1, mI_sI_i (by decide), e6, mI_sI_eq]
  · refine sp_seekPair (by omega) hVG4 hR4 (by omega) (fun B hF hV2 hR => ⟨_, rfl, hF.ext, ?_⟩)
    have := fin B _ ((ofS_ss hF4).trans hF) hV2 hR (by rw [if_neg (by omega), if_neg (by omega), if_pos (by omega)])
    rw [hR.2] at this
    exact this
  · -- one of two is to be taken
    obtain ⟨c1, c2⟩ := k9 (by omega)
    obtain ⟨c3, c4⟩ := k10 (by omega)
    have hcd := cwL_b L g (gDr G) (gOp G) (gLe G)
    have hcs := cwL_b L g (gSe G) (gOp G) (gLe G)
    rw [y9 (by omega), y3, y4]
    refine sp_cutWorth (by omega) hVG4.1.1 hVG4.1.2.2.2.2.2.2.1 hVG4.1.2.2.2.2.2.2.2.1 (by omega) (by omega) (by omega) c1.1 ⟨_, rfl, Ext.refl _, sp_offer hVG4.1.1.1 ofB_none hR4 (by omega) (fun B hF hR => ⟨rfl, hF.ext, ?_⟩)⟩
    have hVB := hVG4.of (ofS_vs hF) (ofS_ss hF)
    obtain ⟨z1, z2, z3, z4, z5, z6, z7, z8, z9, z10⟩ := hVB.2.1
    rw [z10 (by omega), z3, z4]
    refine sp_cutWorth (by omega) hVB.1.1 hVB.1.2.2.2.2.2.2.1 hVB.1.2.2.2.2.2.2.2.1 (by omega) (by omega) (by omega) c3.1 ⟨_, rfl, Ext.refl _, sp_offer hVB.1.1.1 (ofT_b ofB_none (by omega) (by omega)) hR (by omega) (fun B2 hF2 hR2 => ⟨rfl, hF2.ext, ?_⟩)⟩
    exact fin B2 _ (((ofS_ss hF4).trans (ofS_ss hF)).trans (ofS_ss hF2)) (hVB.of (ofS_vs hF2) (ofS_ss hF2)) hR2 (by rw [if_neg (by omega), if_neg (by omega), if_neg (by omega), if_pos (by omega)])
theorem hvF_n {sm : Bool} {o m : Nat} (hn : L.1 ≤ 9) (hm : 2 * m ≤ 8) {q : Int × Nat} (h : hvF L g sm true o m = some q) : q.2 < 8 ^ L.1 ∧ nuF 3 L.1 q.2 o L.1 = some (2 * m) ∧ okH L o (2 * m) q.2 = true := by
  have key : ∀ (xs : List Nat) (st : Option (Int × Nat)), (∀ x, x ∈ xs → x < 8 ^ L.1 ∧ nuF 3 L.1 x o L.1 = some (2 * m)) → (∀ y, st = some y → y.2 < 8 ^ L.1 ∧ nuF 3 L.1 y.2 o L.1 = some (2 * m) ∧ okH L o (2 * m) y.2 = true) → ∀ y, xs.foldl (hvT L g sm true o (2 * m)) st = some y → y.2 < 8 ^ L.1 ∧ nuF 3 L.1 y.2 o L.1 = some (2 * m) ∧ okH L o (2 * m) y.2 = true := by
    intro xs
    induction xs with
    | nil => intro st _ hst y hy; exact hst y hy
    | cons c xs ih =>
      intro st hx hst y hy
      refine ih _ (fun x h => hx x (List.mem_cons_of_mem _ h)) (fun z hz => ?_) y hy
      unfold hvT at hz
      obtain ⟨a1, a2⟩ := hx c (List.mem_cons_self ..)
      split at hz
      · rename_i hok
        rw [if_pos rfl] at hz
        cases st with
        | none => cases hz; exact ⟨a1, a2, hok⟩
        | some w =>
          dsimp only at hz
          by_cases hc : (if sm = true then w.1 < (pvB L (sOB 3 L.1 c o) (2 * m) g (!sm) 5 0).getD 0 else (pvB L (sOB 3 L.1 c o) (2 * m) g (!sm) 5 0).getD 0 < w.1)
          · rw [if_pos hc] at hz; cases hz; exact ⟨a1, a2, hok⟩
          · rw [if_neg hc] at hz; exact hst z hz
      · exact hst z hz
  exact key _ none (fun x hx => enB_ok (b := 3) (by omega) L.1 0 0 0 x (by omega) (by omega) (by decide) rfl hx) (fun y hy => by cases hy) q h
theorem ofT_n {gr : Bool} {b : Option (Int × Nat)} {num : Nat} {v : Int} {K : Nat → Prop} (hb : ∀ q, b = some q → K q.2) (hn : K num) : ∀ q, ofT gr b num v = some q → K q.2 := by
  intro q hq
  unfold ofT at hq
  cases b with
  | none => cases hq; exact hn
  | some y =>
    dsimp only at hq
    by_cases hc : (if gr = true then y.1 < v else v < y.1)
    · rw [if_pos hc] at hq; cases hq; exact hn
    · rw [if_neg hc] at hq; exact hb q hq
theorem fld_n {gr : Bool} {f : Nat → Int} {K : Nat → Prop} : ∀ j s (b : Option (Int × Nat)), (∀ q, b = some q → K q.2) → (∀ k, s ≤ k → k < s + j → K k) → ∀ q, fldR (fun acc s => ofT gr acc s (f s)) j s b = some q → K q.2
  | 0, s, b, hb, hk, q, hq => hb q hq
  | j + 1, s, b, hb, hk, q, hq => fld_n j (s + 1) _ (ofT_n hb (hk s (by omega) (by omega))) (fun k a c => hk k (by omega) (by omega)) q hq
theorem prF_n {gr : Bool} {W : Nat → Int} {K : Nat → Prop} {ys : List Nat} (hk : ∀ c, c ∈ ys → K c) : ∀ q, prF gr W ys = some q → K q.2 := by
  have key : ∀ (zs : List Nat) (st : Option (Int × Nat) × Int), (∀ c, c ∈ zs → K c) → (∀ q, st.1 = some q → K q.2) → ∀ q, (zs.foldr (prT gr W) st).1 = some q → K q.2 := by
    intro zs
    induction zs with
    | nil => intro st _ h q hq; exact h q hq
    | cons c zs ih =>
      intro st hz h q hq
      rw [List.foldr_cons] at hq
      have hi := ih st (fun x hx => hz x (List.mem_cons_of_mem _ hx)) h
      generalize zs.foldr (prT gr W) st = r at hq hi
      obtain ⟨r1, r2⟩ := r
      unfold prT at hq
      cases r1 with
      | none => cases hq; exact hz c (List.mem_cons_self ..)
      | some b =>
        dsimp only at hq
        by_cases hc : (if gr = true then b.1 ≤ opI gr (W c) r2 else opI gr (W c) r2 ≤ b.1)
        · rw [if_pos hc] at hq; cases hq; exact hz c (List.mem_cons_self ..)
        · rw [if_neg hc] at hq; exact hi q hq
  unfold prF
  refine key _ _ (fun c hc => hk c (List.dropLast_subset _ hc)) (fun q hq => ?_)
  dsimp only at hq
  split at hq
  · rename_i h1
    cases hq
    have h0 : ys[0]? = some (ys.getD 0 0) := by
      simp only [List.getD]
      rw [List.getElem?_eq_getElem (by omega)]; rfl
    exact hk _ (List.mem_of_getElem? h0)
  · cases hq
theorem sc_n {G : GamT} {gr : Bool} {K : Nat → Prop} : ∀ (xs : List Nat) (b : Option (Int × Nat)), (∀ c, c ∈ xs → (gPh G = 0 ∨ gPh G = 2 ∨ (gPh G = 4 ∧ joB L G c = true) ∨ (gPh G = 6 ∧ gDr G < c)) → K c) → (∀ q, b = some q → K q.2) → ∀ q, xs.foldl (scT L P g ot G gr) b = some q → K q.2
  | [], b, _, hb, q, hq => hb q hq
  | c :: xs, b, hx, hb, q, hq => by
    refine sc_n xs (scT L P g ot G gr b c) (fun x h => hx x (List.mem_cons_of_mem _ h)) (fun y hy => ?_) q hq
    have hc := hx c (List.mem_cons_self ..)
    unfold scT at hy
    split at hy
    · rename_i h0; exact ofT_n hb (hc (Or.inl h0)) y hy
    · split at hy
      · rename_i h2
        refine ofT_n hb (hc ?_) y hy
        rcases h2 with z | z
        · exact Or.inr (Or.inl z)
        · exact Or.inr (Or.inr (Or.inl z))
      · split at hy
        · rename_i h6; exact ofT_n hb (hc (Or.inr (Or.inr (Or.inr h6)))) y hy
        · exact hb y hy
/-- the best move may be made -/
theorem sbF_n {G : GamT} {M : Mem} (hVG : VG M l p L P g ot G) (h8 : gPh G < 8) {q : Int × Nat} (hq : sbF L P g ot G = some q) : mmB L G (nI q.2) = true ∨ gPh G = 5 := by
  obtain ⟨hV, hG, hK⟩ := hVG
  have hb := hV.1.b
  have h4 := p4 hb.2.1
  have h8n := p8 hb.2.1
  obtain ⟨k1, k2, k3, k4, k5, k6, k7, k8, k9, k10, k11⟩ := hK
  have hic : ∀ c, c ∈ lsL L (gOp G) (gLe G) → icB L (nI c) (gOp G) (gLe G) = true ∧ c < 4 ^ L.1 := fun c hc => by
    obtain ⟨c1, c2⟩ := lsL_ok (by omega) hc
    refine ⟨?_, c1⟩
    unfold icB
    rw [inN_nI (by omega) c1]
    exact decide_eq_true c2
  unfold sbF at hq
  unfold mmB
  split at hq
  · rename_i h1
    left
    rw [if_neg (by omega), if_pos h1]
    have := fld_n (K := fun k => k < gLe G) _ _ none (fun q hq => by cases hq) (fun k a b => by omega) q hq
    rw [inN_nI (by omega) this]; rfl
  · split at hq
    · rename_i h1 h3
      left
      rw [if_neg (by omega), if_neg (by omega), if_pos h3]
      obtain ⟨a1, a2, a3⟩ := hvF_n hb.2.1 (by omega) hq
      unfold ihB
      rw [inN_nI (by omega) a1]
      dsimp only
      rw [a2, decide_eq_true rfl, a3]; rfl
    · split at hq
      · rename_i h1 h3 h5
        right; exact h5
      · split at hq
        · rename_i h1 h3 h5 h7
          left
          rw [if_neg (by omega), if_neg (by omega), if_neg (by omega), if_neg (by omega), if_neg (by omega), if_neg (by omega), if_pos h7]
          have := ofT_n (K := fun k => k < 2) (fun y hy => ofT_n (K := fun k => k < 2) (b := none) (fun z hz => by cases hz) (by omega) y hy) (by omega) q hq
          rw [inN_nI (by omega) this]; rfl
        · rename_i h1 h3 h5 h7
          left
          have := sc_n (K := fun c => (icB L (nI c) (gOp G) (gLe G) = true ∧ c < 4 ^ L.1) ∧ (gPh G = 4 → joB L G c = true) ∧ (gPh G = 6 → gDr G < c)) _ none (fun c hc hcase => ⟨hic c hc, fun z => by
            rcases hcase with w | w | w | w
            · omega
            · omega
            · exact w.2
            · omega, fun z => by
            rcases hcase with w | w | w | w
            · omega
            · omega
            · omega
            · exact w.2⟩) (fun z hz => by cases hz) q hq
          obtain ⟨⟨a1, a2⟩, a3, a4⟩ := this
          have et : (nI q.2).toInt.toNat = q.2 := by rw [nI_toInt (by omega)]; rfl
          rcases (show gPh G = 0 ∨ gPh G = 2 ∨ gPh G = 4 ∨ gPh G = 6 by omega) with w | w | w | w
          · rw [if_pos (by omega)]; exact a1
          · rw [if_pos (by omega)]; exact a1
          · rw [if_neg (by omega), if_neg (by omega), if_neg (by omega), if_pos w, a1, et, a3 w]; rfl
          · rw [if_neg (by omega), if_neg (by omega), if_neg (by omega), if_neg (by omega), if_neg (by omega), if_pos w, a1, et, decide_eq_true (a4 w)]; rfl
theorem sbF_31 {G : GamT} {M : Mem} (hVG : VG M l p L P g ot G) (h8 : gPh G < 8) {q : Int × Nat} (hq : sbF L P g ot G = some q) : q.2 < 2 ^ 31 := by
  obtain ⟨hV, hG, hK⟩ := hVG
  have hb := hV.1.b
  have h4 := p4 hb.2.1
  have h8n := p8 hb.2.1
  obtain ⟨k1, k2, k3, k4, k5, k6, k7, k8, k9, k10, k11⟩ := hK
  have hic : ∀ c, c ∈ lsL L (gOp G) (gLe G) → c < 2 ^ 31 := fun c hc => by have := (lsL_ok (by omega) hc).1; omega
  unfold sbF at hq
  split at hq
  · exact fld_n (K := fun k => k < 2 ^ 31) _ _ none (fun q hq => by cases hq) (fun k a b => by omega) q hq
  · split at hq
    · have := (hvF_n hb.2.1 (by omega) hq).1; omega
    · split at hq
      · exact prF_n (K := fun k => k < 2 ^ 31) hic q hq
      · split at hq
        · exact ofT_n (K := fun k => k < 2 ^ 31) (fun y hy => ofT_n (K := fun k => k < 2 ^ 31) (b := none) (fun z hz => by cases hz) (by omega) y hy) (by omega) q hq
        · exact sc_n (K := fun k => k < 2 ^ 31) _ none (fun c hc _ => hic c hc) (fun z hz => by cases hz) q hq
theorem sp_valueNow {d : Nat} {G : GamT} {M : Mem} {Q : Option AV → Mem → Prop} (hd : 56 ≤ d) (hVG : VG M l p L P g ot G)
    (h : ∀ B : Mem, Fr ssS M B → VG B l p L P g ot G → Q (some (vI (zI (vnF L P g ot G)))) B) : Cl X d 0 0 m_X11_valueNow [vR 75] M Q := by
  have hVG0 := hVG
  obtain ⟨hV, hG, hK⟩ := hVG
  have hb := hV.1.b
  have k3 := hK.2.2.1
  have k1 := hK.1
  have kw : ∀ (B : Mem) (dd : Nat) (Q' : Option AV → Mem → Prop), 2 ≤ dd → VG B l p L P g ot G → Q' (some (vI (zI (kwL L g (gKe G))))) B → Cl X dd 0 0 m_X11_keptWorth [vR 75] B Q' := fun B dd Q' hdd hVB hq =>
    sp_keptWorth hdd hVB.1.1 hVB.1.2.2.2.2.2.2.1 hVB.1.2.2.2.2.2.2.2.1 hVB.2.1.2.2.2.2.2.2.1 hVB.2.1.2.2.2.2.2.2.2.1 (by omega) hVB.2.2.2.2.2.2.2.2.1 hq
  refine e_X11_valueNow (b_X11_valueNow_0 hV.1.1 (by omega) ?_)
  rw [hG.2.2.2.2.2.1, na_le (by omega) (by omega)]
  unfold vnF at h
  refine ⟨fun q => ?_, fun q => ?_⟩
  · rw [if_neg (by omega)] at h
    refine sp_seekBest (by omega) hVG0 (by omega) (fun B hF hVB h40 => ⟨_, rfl, hF.ext, kw B _ _ (by omega) hVB ⟨_, rfl, Ext.refl _, fun q2 => ?_, fun q2 => ?_⟩⟩)
    · have h9 := h B hF hVB
      cases hs : sbF L P g ot G with
      | none => rw [hs] at q2; exact absurd rfl q2
      | some v =>
        rw [hs] at h9
        rw [h40 v hs, zI_add]
        exact h9
    · have h9 := h B hF hVB
      cases hs : sbF L P g ot G with
      | none =>
        rw [hs] at h9
        rw [show nI 0 = zI 0 from (zI_n 0).symm, zI_add]
        exact h9
      | some v =>
        rw [hs] at q2
        exact absurd q2 (na_m1 (a := v.2) (sbF_31 hVG0 (by omega) hs))
  · rw [if_pos (by omega)] at h
    exact kw M _ _ (by omega) hVG0 ⟨_, rfl, Ext.refl _, h M Fr.refl hVG0⟩
end NOW
