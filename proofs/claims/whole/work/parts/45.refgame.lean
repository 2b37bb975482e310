/-! A PROTOCOL: rounds; of each who is first (0 a, 1 b) and what is done (0 one kept, 1 halves, 2 two cuts, 3 alone) -/
abbrev ProT : Type := Nat × (Nat → Nat) × (Nat → Nat)
def ProOK (P : ProT) : Prop := 1 ≤ P.1 ∧ P.1 ≤ 6 ∧ ∀ r, P.2.1 r ≤ 1 ∧ P.2.2 r ≤ 3
def rPro (M : Mem) (p : Nat) (P : ProT) : Prop := mI M 84 p = nI P.1 ∧ ∀ r, r < P.1 → mI M 85 (6 * p + r) = nI (P.2.1 r) ∧ mI M 86 (6 * p + r) = nI (P.2.2 r)
/-- a game: phase, open, left, turn, drawn, second, kept -/
abbrev GamT : Type := Nat × Nat × Nat × Nat × Nat × Nat × List Nat
def gPh (G : GamT) : Nat := G.1
def gOp (G : GamT) : Nat := G.2.1
def gLe (G : GamT) : Nat := G.2.2.1
def gTu (G : GamT) : Nat := G.2.2.2.1
def gDr (G : GamT) : Nat := G.2.2.2.2.1
def gSe (G : GamT) : Nat := G.2.2.2.2.2.1
def gKe (G : GamT) : List Nat := G.2.2.2.2.2.2
/-- a round begins -/
def srF (L : LandT) (P : ProT) (o m t : Nat) : Nat :=
  if (if P.2.2 t = 1 then (hvF L 0 false false o m).isSome else decide (0 < (lsL L o m).length)) then (if P.2.2 t = 0 then 0 else if P.2.2 t = 3 then 2 else if P.2.2 t = 1 then 3 else 5) else 9
def stG (L : LandT) (P : ProT) : GamT := (srF L P (whL L) L.2.1 0, whL L, L.2.1, 0, 0, 0, [])
def kpG (L : LandT) (G : GamT) (c : Nat) : GamT := (8, (List.range (gLe G)).foldl (fun o s => dif o (sOB 2 L.1 c (gOp G) s)) (gOp G), 0, gTu G, gDr G, gSe G, gKe G ++ (List.range (gLe G)).map (sOB 2 L.1 c (gOp G)))
/-- a move is made -/
def mvG (L : LandT) (P : ProT) (G : GamT) (x : Nat) : GamT :=
  if gPh G = 0 then (1, gOp G, gLe G, gTu G, x, gSe G, gKe G)
  else if gPh G = 1 then
    (let o := dif (gOp G) (sOB 2 L.1 (gDr G) (gOp G) x)
    let t := (gTu G + 1) % P.1
    (if gLe G - 1 = 0 then 8 else srF L P o (gLe G - 1) t, o, gLe G - 1, t, gDr G, gSe G, gKe G ++ [sOB 2 L.1 (gDr G) (gOp G) x]))
  else if gPh G = 3 then (4, gOp G, gLe G, gTu G, x, gSe G, gKe G)
  else if gPh G = 5 then (if (lsL L (gOp G) (gLe G)).length = 1 then kpG L (gPh G, gOp G, gLe G, gTu G, x, gSe G, gKe G) x else (6, gOp G, gLe G, gTu G, x, gSe G, gKe G))
  else if gPh G = 6 then (7, gOp G, gLe G, gTu G, gDr G, x, gKe G)
  else if gPh G = 7 then kpG L G (if x = 0 then gDr G else gSe G)
  else kpG L G x
def joB (L : LandT) (G : GamT) (c : Nat) : Bool := decide (∀ s, s < gLe G → (∀ h, h < 2 * gLe G → (sOB 3 L.1 (gDr G) (gOp G) h &&& sOB 2 L.1 c (gOp G) s = 0 ∨ dif (sOB 3 L.1 (gDr G) (gOp G) h) (sOB 2 L.1 c (gOp G) s) = 0)) ∧ smF (2 * gLe G) (fun h => if sOB 3 L.1 (gDr G) (gOp G) h &&& sOB 2 L.1 c (gOp G) s = 0 then 0 else 1) = 2)
/-- whether a move may be made -/
def mmB (L : LandT) (G : GamT) (x : Int32) : Bool :=
  if gPh G = 0 ∨ gPh G = 2 then icB L x (gOp G) (gLe G)
  else if gPh G = 1 then (inN x (gLe G)).isSome
  else if gPh G = 3 then ihB L x (gOp G) (gLe G)
  else if gPh G = 4 then icB L x (gOp G) (gLe G) && joB L G x.toInt.toNat
  else if gPh G = 5 then icB L x (gOp G) (gLe G) && (decide ((lsL L (gOp G) (gLe G)).getD ((lsL L (gOp G) (gLe G)).length - 1) 0 ≠ x.toInt.toNat) || decide ((lsL L (gOp G) (gLe G)).length = 1))
  else if gPh G = 6 then icB L x (gOp G) (gLe G) && decide (gDr G < x.toInt.toNat)
  else if gPh G = 7 then (inN x 2).isSome
  else false
/-- a number of a move that may be made -/
def mmN (L : LandT) (G : GamT) (x : Nat) : Prop := mmB L G (nI x) = true ∧ x < 2 ^ 31
def GOK (L : LandT) (P : ProT) (G : GamT) : Prop := gPh G ≤ 9 ∧ gOp G < 2 ^ L.1 ∧ gLe G + (gKe G).length = L.2.1 ∧ gTu G < P.1 ∧ gDr G < 2 ^ 31 ∧ gSe G < 2 ^ 31 ∧ (∀ s, s ∈ gKe G → s < 2 ^ L.1 ∧ 1 ≤ s) ∧ (gPh G < 8 → 1 ≤ gLe G ∧ gTu G = (gKe G).length % P.1) ∧
  ((gPh G = 1 ∨ gPh G = 6 ∨ gPh G = 7) → icN L (gDr G) (gOp G) (gLe G) ∧ gDr G < 4 ^ L.1) ∧ (gPh G = 7 → icN L (gSe G) (gOp G) (gLe G) ∧ gSe G < 4 ^ L.1) ∧ (gPh G = 4 → ihB L (nI (gDr G)) (gOp G) (gLe G) = true)
/-- the reference plays the game G by the protocol p (with changed places: ot) -/
def rGS (M : Mem) (p : Nat) (ot : Bool) (G : GamT) : Prop := mI M 75 24 = nI p ∧ mI M 75 25 = bI ot ∧ mI M 75 26 = nI (gOp G) ∧ mI M 75 27 = nI (gLe G) ∧ mI M 75 28 = nI (gTu G) ∧ mI M 75 29 = nI (gPh G) ∧ mI M 75 32 = nI (gKe G).length ∧ stL M 92 0 (gKe G) ∧
  ((gPh G = 1 ∨ gPh G = 4 ∨ gPh G = 6 ∨ gPh G = 7) → mI M 75 30 = nI (gDr G)) ∧ (gPh G = 7 → mI M 75 31 = nI (gSe G))
/-- scratch, less the game itself -/
def ssS (a k : Nat) : Prop := (89 ≤ a ∧ a ≤ 96 ∧ a ≠ 92) ∨ (a = 75 ∧ k ≠ 2 ∧ k ≠ 12 ∧ k ≠ 16 ∧ k ≠ 19 ∧ k ≠ 51 ∧ ¬ (24 ≤ k ∧ k ≤ 32))
def ttS (a k : Nat) : Prop := a = 89 ∨ a = 90 ∨ a = 93 ∨ (a = 75 ∧ (k = 22 ∨ k = 35 ∨ k = 37 ∨ k = 38 ∨ k = 39 ∨ k = 42))
theorem tt_ss {M B : Mem} (h : Fr ttS M B) : Fr ssS M B := h.mono (fun a k q => by unfold ttS at q; unfold ssS; omega)
theorem lfS_tt {M B : Mem} {lv : Nat} (h : Fr (lfS lv) M B) : Fr ttS M B := h.mono (fun a k q => by unfold lfS at q; unfold ttS; omega)
theorem hvS_tt {M B : Mem} (h : Fr hvS M B) : Fr ttS M B := h.mono (fun a k q => by unfold hvS at q; unfold ttS; omega)
theorem ssS_sc {M B : Mem} (h : Fr ssS M B) : Fr scS M B := h.mono (fun a k q => by unfold ssS at q; unfold scS; omega)
theorem lfS_ss {M B : Mem} {lv : Nat} (h : Fr (lfS lv) M B) : Fr ssS M B := h.mono (fun a k q => by unfold lfS at q; unfold ssS; omega)
theorem hvS_ss {M B : Mem} (h : Fr hvS M B) : Fr ssS M B := h.mono (fun a k q => by unfold hvS at q; unfold ssS; omega)
theorem rGS.ss {M B : Mem} {p : Nat} {ot : Bool} {G : GamT} (h : rGS M p ot G) (hF : Fr ssS M B) : rGS B p ot G := by
  obtain ⟨h1, h2, h3, h4, h5, h6, h7, h8, h9, h10⟩ := h
  have e : ∀ k, 24 ≤ k → k ≤ 32 → mI B 75 k = mI M 75 k := fun k a b => hF.at (by unfold ssS; omega)
  refine ⟨(e _ (by omega) (by omega)).trans h1, (e _ (by omega) (by omega)).trans h2, (e _ (by omega) (by omega)).trans h3, (e _ (by omega) (by omega)).trans h4, (e _ (by omega) (by omega)).trans h5, (e _ (by omega) (by omega)).trans h6, (e _ (by omega) (by omega)).trans h7, h8.fr hF (fun k _ => by unfold ssS; omega), fun q => (e _ (by omega) (by omega)).trans (h9 q), fun q => (e _ (by omega) (by omega)).trans (h10 q)⟩
/-- what the game itself changes -/
def gmS (a k : Nat) : Prop := a = 92 ∨ (a = 75 ∧ 24 ≤ k ∧ k ≤ 32)
def sgS (a k : Nat) : Prop := ttS a k ∨ gmS a k
theorem sgS_sc {M B : Mem} (h : Fr sgS M B) : Fr scS M B := h.mono (fun a k q => by unfold sgS ttS gmS at q; unfold scS; omega)
theorem ss_sg {M B : Mem} (h : Fr ttS M B) : Fr sgS M B := h.mono (fun a k q => Or.inl q)
theorem gm_sg {M B : Mem} (h : Fr gmS M B) : Fr sgS M B := h.mono (fun a k q => Or.inr q)
theorem rH.gm {M B : Mem} {l : Nat} {L : LandT} (h : rH M l L) (hF : Fr gmS M B) : rH B l L :=
  h.fr hF (fun a i h1 h2 q => by unfold gmS at q; omega) (fun q => by unfold gmS at q; omega) (fun i q => by unfold gmS at q; omega) (fun i q => by unfold gmS at q; omega)
theorem rH.ss {M B : Mem} {l : Nat} {L : LandT} (h : rH M l L) (hF : Fr ssS M B) : rH B l L :=
  h.fr hF (fun a i h1 h2 q => by unfold ssS at q; omega) (fun q => by unfold ssS at q; omega) (fun i q => by unfold ssS at q; omega) (fun i q => by unfold ssS at q; omega)
theorem srF_or (L : LandT) (P : ProT) (o m t : Nat) : srF L P o m t = 9 ∨ srF L P o m t = 0 ∨ srF L P o m t = 2 ∨ srF L P o m t = 3 ∨ srF L P o m t = 5 := by
  unfold srF
  generalize (if P.2.2 t = 1 then (hvF L 0 false false o m).isSome else decide (0 < (lsL L o m).length)) = q
  cases q with
  | false => exact Or.inl rfl
  | true =>
    rw [if_pos rfl]
    split
    · omega
    · split
      · omega
      · split <;> omega
theorem rPro.fr {S : Nat → Nat → Prop} {M B : Mem} {p : Nat} {P : ProT} (h : rPro M p P) (hF : Fr S M B) (hS : ∀ a i, 84 ≤ a → a ≤ 86 → ¬ S a i) : rPro B p P :=
  ⟨(hF.at (hS _ _ (by decide) (by decide))).trans h.1, fun r hr => ⟨(hF.at (hS _ _ (by decide) (by decide))).trans (h.2 r hr).1, (hF.at (hS _ _ (by decide) (by decide))).trans (h.2 r hr).2⟩⟩
theorem rPro.sc {M B : Mem} {p : Nat} {P : ProT} (h : rPro M p P) (hF : Fr scS M B) : rPro B p P := h.fr hF (fun a i h1 h2 q => by unfold scS at q; omega)
section GAME
variable {X : Cx} {l p : Nat} {L : LandT} {P : ProT} {ot : Bool}
theorem sp_doingNow {d t : Nat} {M : Mem} {Q : Option AV → Mem → Prop} (hS : RfS M) (hp : p < 9) (hP : rPro M p P) (h24 : mI M 75 24 = nI p) (h28 : mI M 75 28 = nI t) (ht : t < P.1) (h6 : P.1 ≤ 6) (h : Q (some (vI (nI (P.2.2 t)))) M) : Cl X d 0 0 m_X11_doingNow [vR 75] M Q := by
  have e : nI 6 * mI M 75 24 + mI M 75 28 = nI (6 * p + t) := by rw [h24, h28, pk_mul, nI_add]
  refine e_X11_doingNow (b_X11_doingNow_0 hS ⟨by rw [e]; exact na_in (by omega) (by omega), ?_⟩)
  rw [e, na_ix (by omega), (hP.2 t ht).2]; exact h
theorem xor_b {v : Nat} (hv : v ≤ 1) (b : Bool) : nI v ^^^ bI b = nI (if b then 1 - v else v) := by
  rcases (show v = 0 ∨ v = 1 by omega) with rfl | rfl <;> cases b <;> decide
/-- who draws in the round t -/
def drF (P : ProT) (ot : Bool) (t : Nat) : Nat := if ot then 1 - P.2.1 t else P.2.1 t
theorem drF_le {P : ProT} (hO : ProOK P) (ot : Bool) (t : Nat) : drF P ot t ≤ 1 := by
  have := (hO.2.2 t).1
  unfold drF; split <;> omega
theorem sp_firstNow {d t : Nat} {M : Mem} {Q : Option AV → Mem → Prop} (hS : RfS M) (hp : p < 9) (hO : ProOK P) (hP : rPro M p P) (h24 : mI M 75 24 = nI p) (h25 : mI M 75 25 = bI ot) (h28 : mI M 75 28 = nI t) (ht : t < P.1) (h : Q (some (vI (nI (drF P ot t)))) M) : Cl X d 0 0 m_X11_firstNow [vR 75] M Q := by
  have e : nI 6 * mI M 75 24 + mI M 75 28 = nI (6 * p + t) := by rw [h24, h28, pk_mul, nI_add]
  have h6 := hO.2.1
  refine e_X11_firstNow (b_X11_firstNow_0 hS ⟨by rw [e]; exact na_in (by omega) (by omega), ?_⟩)
  rw [e, na_ix (by omega), (hP.2 t ht).1, h25, xor_b (hO.2.2 t).1]; exact h
theorem sp_startRound {d o m t : Nat} {M : Mem} {Q : Option AV → Mem → Prop} (hd : 22 ≤ d) (hH : rH M l L) (hp : p < 9) (hO : ProOK P) (hP : rPro M p P) (h24 : mI M 75 24 = nI p) (h28 : mI M 75 28 = nI t) (ht : t < P.1) (h26 : mI M 75 26 = nI o) (h27 : mI M 75 27 = nI m) (ho : o < 2 ^ L.1) (hm : m ≤ 4)
    (h : ∀ B B' : Mem, Fr ttS M B → B' = sI B 75 29 (nI (srF L P o m t)) → Q none B') : Cl X d 0 0 m_X11_startRound [vR 75] M Q := by
  have hdo := (hO.2.2 t).2
  have hb := hH.b
  have h49 : ∀ (B : Mem) (q : Bool), Fr ttS M B → (if P.2.2 t = 1 then (hvF L 0 false false o m).isSome else decide (0 < (lsL L o m).length)) = q → WA X d 0 0 m_X11_startRound 49 [some (vR 75), some (vI (nI (P.2.2 t))), none] [vI (bI q)] B Q := by
    intro B q hF hq
    have hSB := hH.1.fr hF
    have h87 : ∀ v : Nat, v = srF L P o m t → WA X d 0 0 m_X11_startRound 87 [some (vR 75), none, none] [vI (nI v), vR 75] B Q := fun v hv => by
      refine b_X11_startRound_87 hSB (fun M1 e1 => ?_)
      rw [hv] at e1
      exact h B M1 hF e1
    unfold srF at h87
    rw [hq] at h87
    refine b_X11_startRound_49 hSB ⟨fun z => ⟨fun z2 => ⟨fun z3 => ⟨fun z4 => ?_, fun z4 => ?_⟩, fun z3 => ?_⟩, fun z2 => ?_⟩, fun z => ?_⟩
    · rw [bI_n0.mp z] at h87
      rw [na_eq (by omega) (by omega)] at z2 z3 z4
      exact h87 5 (by rw [if_pos rfl, if_neg z2, if_neg z3, if_neg z4])
    · rw [bI_n0.mp z] at h87
      rw [na_eq (by omega) (by omega)] at z2 z3 z4
      exact h87 3 (by rw [if_pos rfl, if_neg z2, if_neg z3, if_pos z4])
    · rw [bI_n0.mp z] at h87
      rw [na_eq (by omega) (by omega)] at z2 z3
      exact h87 2 (by rw [if_pos rfl, if_neg z2, if_pos z3])
    · rw [bI_n0.mp z] at h87
      rw [na_eq (by omega) (by omega)] at z2
      exact h87 0 (by rw [if_pos rfl, if_pos z2])
    · rw [bI_0.mp z] at h87
      exact h87 9 rfl
  refine e_X11_startRound (b_X11_startRound_0 hH.1 (by omega) (sp_doingNow hH.1 hp hP h24 h28 ht hO.2.1 ⟨_, rfl, Ext.refl _, fun z => ?_, fun z => ?_⟩))
  · rw [na_eq (by omega) (by omega)] at z
    rw [h26, h27]
    have hlen := lsL_len (L := L) (o := o) hb.2.1 hm
    refine sp_list (by omega) (by omega) ho hm hH (fun B hF _ => ⟨_, rfl, hF.ext, fun z2 => ?_, fun z2 => ?_⟩)
    · rw [na_le (by omega) (by omega)] at z2
      exact h49 B false (lfS_tt hF) (by rw [if_neg z]; exact decide_eq_false (by omega))
    · rw [na_le (by omega) (by omega)] at z2
      exact h49 B true (lfS_tt hF) (by rw [if_neg z]; exact decide_eq_true (by omega))
  · rw [na_eq (by omega) (by omega)] at z
    rw [h26, h27]
    refine sp_hasHalves (by omega) ho hm hH (fun B hF => ⟨_, rfl, hF.ext, ?_⟩)
    exact h49 B _ (hvS_tt hF) (by rw [if_pos z])
theorem sp_startGame {d : Nat} {M : Mem} {Q : Option AV → Mem → Prop} (hd : 24 ≤ d) (hS : RfS M) (hl : l < 7) (hL : rLd M l L) (hLO : LdOK L) (hp : p < 9) (hO : ProOK P) (hP : rPro M p P)
    (h : ∀ B : Mem, Fr scS M B → rH B l L → rGS B p ot (stG L P) → Q none B) : Cl X d 0 0 m_X11_startGame [vR 75, vI (nI l), vI (nI p), vI (bI ot)] M Q := by
  refine e_X11_startGame (b_X11_startGame_0 hS (by omega) (sp_prepare (by omega) hS hl hL hLO (fun B hF hPr => ⟨rfl, hF.ext, fun M2 e2 M3 e3 => ?_⟩)))
  have hHB : rH B l L := ⟨hS.fr hF, hl, hL.fr hF (fun a i a1 a2 z => by unfold prS at z; omega), hLO, hPr⟩
  have hF3 : Fr gmS B M3 := by rw [e3, e2]; exact (Fr.sI (Or.inr ⟨rfl, by omega, by omega⟩)).trans (Fr.sI (Or.inr ⟨rfl, by omega, by omega⟩))
  have hH3 := hHB.gm hF3
  have hb := hHB.b
  refine sp_whole hH3 ⟨_, rfl, Ext.refl _, fun M5 e5 => ⟨na_in hl (by omega), fun M6 e6 M7 e7 M8 e8 => ?_⟩⟩
  have hF8 : Fr gmS B M8 := by
    rw [e8, e7, e6, e5]
    exact (((hF3.trans (Fr.sI (Or.inr ⟨rfl, by omega, by omega⟩))).trans (Fr.sI (Or.inr ⟨rfl, by omega, by omega⟩))).trans (Fr.sI (Or.inr ⟨rfl, by omega, by omega⟩))).trans (Fr.sI (Or.inr ⟨rfl, by omega, by omega⟩))
  have hH8 := hHB.gm hF8
  have hFs : Fr scS M M8 := (prS_sc hF).trans (sgS_sc (gm_sg hF8))
  have eS : mI M5 78 (ix (nI l)) = nI L.2.1 := by rw [e5, mI_sI_a (by decide), na_ix (by omega), hH3.2.2.1.2.1]
  have e24 : mI M8 75 24 = nI p := by rw [e8, mI_sI_i (by decide), e7, mI_sI_i (by decide), e6, mI_sI_i (by decide), e5, mI_sI_i (by decide), e3, mI_sI_i (by decide), e2, mI_sI_eq]
  have e25 : mI M8 75 25 = bI ot := by rw [e8, mI_sI_i (by decide), e7, mI_sI_i (by decide), e6, mI_sI_i (by decide), e5, mI_sI_i (by decide), e3, mI_sI_eq]
  have e26 : mI M8 75 26 = nI (whL L) := by rw [e8, mI_sI_i (by decide), e7, mI_sI_i (by decide), e6, mI_sI_i (by decide), e5, mI_sI_eq]
  have e27 : mI M8 75 27 = nI L.2.1 := by rw [e8, mI_sI_i (by decide), e7, mI_sI_i (by decide), e6, mI_sI_eq, eS]
  have e28 : mI M8 75 28 = nI 0 := by rw [e8, mI_sI_i (by decide), e7, mI_sI_eq]
  have e32 : mI M8 75 32 = nI 0 := by rw [e8, mI_sI_eq]
  refine sp_startRound (by omega) hH8 hp hO (hP.sc hFs) e24 e28 (by have := hO.1; omega) e26 e27 (whL_lt L) hb.2.2.2 (fun B2 B3 hF2 eB => ⟨rfl, ?_, ?_⟩)
  · rw [eB]; exact hF2.ext.trans ExtI
  have hF3b : Fr gmS B2 B3 := by rw [eB]; exact Fr.sI (Or.inr ⟨rfl, by omega, by omega⟩)
  have ek : ∀ k, 24 ≤ k → k ≤ 32 → k ≠ 29 → mI B3 75 k = mI M8 75 k := fun k a b c => by rw [eB, mI_sI_i c, hF2.at (by unfold ttS; omega)]
  have hph := srF_or L P (whL L) L.2.1 0
  refine h B3 ((hFs.trans (ssS_sc (tt_ss hF2))).trans (sgS_sc (gm_sg hF3b))) ?_ ⟨(ek _ (by omega) (by omega) (by omega)).trans e24, (ek _ (by omega) (by omega) (by omega)).trans e25, (ek _ (by omega) (by omega) (by omega)).trans e26, (ek _ (by omega) (by omega) (by omega)).trans e27, (ek _ (by omega) (by omega) (by omega)).trans e28, ?_, (ek _ (by omega) (by omega) (by omega)).trans e32, stL_nil, fun q => ?_, fun q => ?_⟩
  · exact (hH8.ss (tt_ss hF2)).gm hF3b
  · rw [eB, mI_sI_eq]; rfl
  · have q : srF L P (whL L) L.2.1 0 = 1 ∨ srF L P (whL L) L.2.1 0 = 4 ∨ srF L P (whL L) L.2.1 0 = 6 ∨ srF L P (whL L) L.2.1 0 = 7 := q
    omega
  · have q : srF L P (whL L) L.2.1 0 = 7 := q
    omega
end GAME
