/-! THE REFERENCE: the best move -/
def ofT (gr : Bool) (b : Option (Int × Nat)) (num : Nat) (v : Int) : Option (Int × Nat) := match b with
  | none => some (v, num)
  | some q => if (if gr then q.1 < v else v < q.1) then some (v, num) else some q
def opI (gr : Bool) (a b : Int) : Int := if gr then min a b else max a b
def scT (L : LandT) (P : ProT) (g : Nat) (ot : Bool) (G : GamT) (gr : Bool) (acc : Option (Int × Nat)) (c : Nat) : Option (Int × Nat) :=
  if gPh G = 0 then ofT gr acc c (kvF L g (cmF L P g ot (gLe G - 1)) c (gOp G) (gLe G) (!gr))
  else if gPh G = 2 ∨ (gPh G = 4 ∧ joB L G c = true) then ofT gr acc c (cwL L g c (gOp G) (gLe G))
  else if gPh G = 6 ∧ gDr G < c then ofT gr acc c (opI gr (cwL L g (gDr G) (gOp G) (gLe G)) (cwL L g c (gOp G) (gLe G)))
  else acc
/-- of two cuts: one more in front of those behind it, of which the best is worth q.2 -/
def prT (gr : Bool) (W : Nat → Int) (c : Nat) (q : Option (Int × Nat) × Int) : Option (Int × Nat) × Int :=
  (match q.1 with
    | none => some (opI gr (W c) q.2, c)
    | some b => if (if gr then b.1 ≤ opI gr (W c) q.2 else opI gr (W c) q.2 ≤ b.1) then some (opI gr (W c) q.2, c) else some b, beI gr (some q.2) (W c))
def prF (gr : Bool) (W : Nat → Int) (ys : List Nat) : Option (Int × Nat) := (ys.dropLast.foldr (prT gr W) (if ys.length = 1 then some (W (ys.getD 0 0), ys.getD 0 0) else none, W (ys.getD (ys.length - 1) 0))).1
/-- the best move: what comes of it, and its number -/
def sbF (L : LandT) (P : ProT) (g : Nat) (ot : Bool) (G : GamT) : Option (Int × Nat) :=
  if gPh G = 1 then fldR (fun acc s => ofT (grB g (moF P ot G)) acc s (ktF L g (cmF L P g ot (gLe G - 1)) (gDr G) (gOp G) s)) (gLe G) 0 none
  else if gPh G = 3 then hvF L g (grB g (moF P ot G)) true (gOp G) (gLe G)
  else if gPh G = 5 then prF (grB g (moF P ot G)) (fun c => cwL L g c (gOp G) (gLe G)) (lsL L (gOp G) (gLe G))
  else if gPh G = 7 then ofT (grB g (moF P ot G)) (ofT (grB g (moF P ot G)) none 0 (cwL L g (gDr G) (gOp G) (gLe G))) 1 (cwL L g (gSe G) (gOp G) (gLe G))
  else (lsL L (gOp G) (gLe G)).foldl (scT L P g ot G (grB g (moF P ot G))) none
def kwL (L : LandT) (g : Nat) (ks : List Nat) : Int := smZ ks.length (fun k => woL g (wnL L (ks.getD k 0)))
/-- what comes of a game, with the seats kept so far -/
def vnF (L : LandT) (P : ProT) (g : Nat) (ot : Bool) (G : GamT) : Int := if 7 < gPh G then kwL L g (gKe G) else kwL L g (gKe G) + (match sbF L P g ot G with | none => 0 | some q => q.1)
def ofR (M : Mem) (b : Option (Int × Nat)) : Prop := mI M 75 40 = oZ (b.map (·.1)) ∧ mI M 75 41 = oI (b.map (·.2))
def ofS (a k : Nat) : Prop := a = 75 ∧ (k = 40 ∨ k = 41)
def ofB (b : Option (Int × Nat)) : Prop := ∀ q, b = some q → (-20 ≤ q.1 ∧ q.1 ≤ 20) ∧ q.2 < 2 ^ 31
theorem ofT_b {gr : Bool} {b : Option (Int × Nat)} {num : Nat} {v : Int} (hb : ofB b) (hv : -20 ≤ v ∧ v ≤ 20) (hn : num < 2 ^ 31) : ofB (ofT gr b num v) := by
  unfold ofT
  cases b with
  | none => intro q hq; cases hq; exact ⟨hv, hn⟩
  | some y =>
    dsimp only
    by_cases hc : (if gr = true then y.1 < v else v < y.1)
    · rw [if_pos hc]; intro q hq; cases hq; exact ⟨hv, hn⟩
    · rw [if_neg hc]; exact hb
theorem ofS_ss {M B : Mem} (h : Fr ofS M B) : Fr ssS M B := h.mono (fun a k q => by unfold ofS at q; unfold ssS; omega)
theorem ofS_vs {M B : Mem} (h : Fr ofS M B) : Fr vsS M B := h.mono (fun a k q => by unfold ofS at q; unfold vsS; omega)
theorem zmin {a b : Int} (h1 : -1000 ≤ a ∧ a ≤ 1000) (h2 : -1000 ≤ b ∧ b ≤ 1000) : minI (zI a) (zI b) = zI (min a b) := by
  unfold minI
  by_cases q : b < a
  · rw [if_pos ((zI_lt (by omega) (by omega) (by omega) (by omega)).mpr q), Int.min_eq_right (by omega)]
  · rw [if_neg (fun z => q ((zI_lt (by omega) (by omega) (by omega) (by omega)).mp z)), Int.min_eq_left (by omega)]
theorem zmax {a b : Int} (h1 : -1000 ≤ a ∧ a ≤ 1000) (h2 : -1000 ≤ b ∧ b ≤ 1000) : maxI (zI a) (zI b) = zI (max a b) := by
  unfold maxI
  by_cases q : a < b
  · rw [if_pos ((zI_lt (by omega) (by omega) (by omega) (by omega)).mpr q), Int.max_eq_right (by omega)]
  · rw [if_neg (fun z => q ((zI_lt (by omega) (by omega) (by omega) (by omega)).mp z)), Int.max_eq_left (by omega)]
theorem opI_b {gr : Bool} {a b lo hi : Int} (h1 : lo ≤ a ∧ a ≤ hi) (h2 : lo ≤ b ∧ b ≤ hi) : lo ≤ opI gr a b ∧ opI gr a b ≤ hi := by
  unfold opI; split <;> omega
section BEST
variable {X : Cx} {l p g : Nat} {L : LandT} {P : ProT} {ot : Bool}
theorem sp_opposite {d : Nat} {a b : Int} {gr : Bool} {M : Mem} {Q : Option AV → Mem → Prop} (hd : 1 ≤ d) (h1 : -1000 ≤ a ∧ a ≤ 1000) (h2 : -1000 ≤ b ∧ b ≤ 1000) (h : Q (some (vI (zI (opI gr a b)))) M) : Cl X d 0 0 m_X11_opposite [vI (zI a), vI (zI b), vI (bI gr)] M Q := by
  refine e_X11_opposite (b_X11_opposite_0 hd ⟨fun q => ?_, fun q => ?_⟩)
  · cases gr with
    | true => exact absurd rfl q
    | false => rw [zmax h1 h2]; exact h
  · cases gr with
    | false => exact absurd q (by decide)
    | true => rw [zmin h1 h2]; exact h
theorem sp_offer {d num : Nat} {v : Int} {gr : Bool} {b : Option (Int × Nat)} {M : Mem} {Q : Option AV → Mem → Prop} (hS : RfS M) (hb : ofB b) (hR : ofR M b) (hv : -20 ≤ v ∧ v ≤ 20) (h : ∀ B : Mem, Fr ofS M B → ofR B (ofT gr b num v) → Q none B) : Cl X d 0 0 m_X11_offer [vR 75, vI (nI num), vI (zI v), vI (bI gr)] M Q := by
  obtain ⟨r1, r2⟩ := hR
  have h34 : ofT gr b num v = some (v, num) → WA X d 0 0 m_X11_offer 34 [some (vR 75), some (vI (nI num)), some (vI (zI v)), none] [] M Q := fun he => by
    refine b_X11_offer_34 hS (fun M1 e1 M2 e2 => ?_)
    rw [he] at h
    refine h M2 (by rw [e2, e1]; exact (Fr.sI ⟨rfl, Or.inl rfl⟩).trans (Fr.sI ⟨rfl, Or.inr rfl⟩)) ⟨?_, ?_⟩
    · rw [e2, mI_sI_i (by decide), e1, mI_sI_eq]; rfl
    · rw [e2, mI_sI_eq]; rfl
  refine e_X11_offer (b_X11_offer_0 hS ?_)
  rw [r1]
  refine ⟨fun q => ?_, fun q => ?_⟩
  · rw [oZ_none (fun y hy => by
      cases b with
      | none => cases hy
      | some z => cases hy; have := (hb z rfl).1; exact ⟨by show (-900 : Int) ≤ z.1; omega, by show z.1 ≤ 900; omega⟩)] at q
    cases b with
    | some z => cases q
    | none => exact h34 rfl
  · cases b with
    | none => exact absurd rfl q
    | some z =>
      have hz := (hb z rfl).1
      have stay : ¬ (if gr = true then z.1 < v else v < z.1) → Q none M := fun hn => by
        unfold ofT at h
        dsimp only at h
        rw [if_neg hn] at h
        exact h M Fr.refl ⟨r1, r2⟩
      refine ⟨fun q2 => ⟨fun q3 => ?_, fun q3 => ?_⟩, fun q2 => ⟨fun q3 => ?_, fun q3 => ?_⟩⟩
      · have q3 : zI z.1 ≤ zI v := q3
        rw [zI_le (by omega) (by omega) (by omega) (by omega)] at q3
        cases gr with
        | true => exact absurd rfl q2
        | false => exact stay (by simp; omega)
      · have q3 : ¬ zI z.1 ≤ zI v := q3
        rw [zI_le (by omega) (by omega) (by omega) (by omega)] at q3
        cases gr with
        | true => exact absurd rfl q2
        | false => exact h34 (by unfold ofT; dsimp only; rw [if_pos (by simp; omega)])
      · have q3 : zI v ≤ zI z.1 := q3
        rw [zI_le (by omega) (by omega) (by omega) (by omega)] at q3
        cases gr with
        | false => exact absurd q2 (by decide)
        | true => exact stay (by simp; omega)
      · have q3 : ¬ zI v ≤ zI z.1 := q3
        rw [zI_le (by omega) (by omega) (by omega) (by omega)] at q3
        cases gr with
        | false => exact absurd q2 (by decide)
        | true => exact h34 (by unfold ofT; dsimp only; rw [if_pos (by simp; omega)])
/-- the reference in a game, with a goal -/
def VG (M : Mem) (l p : Nat) (L : LandT) (P : ProT) (g : Nat) (ot : Bool) (G : GamT) : Prop := VS M l p L P g ot ∧ rGS M p ot G ∧ GOK L P G
theorem VG.of {M B : Mem} {G : GamT} (h : VG M l p L P g ot G) (hF : Fr vsS M B) (hF2 : Fr ssS M B) : VG B l p L P g ot G := ⟨h.1.fr hF, h.2.1.ss hF2, h.2.2⟩
theorem VG.v {M B : Mem} {G : GamT} (h : VG M l p L P g ot G) (hV : VS B l p L P g ot) (hF2 : Fr ssS M B) : VG B l p L P g ot G := ⟨hV, h.2.1.ss hF2, h.2.2⟩
theorem ofR.fr {M B : Mem} {b : Option (Int × Nat)} {S : Nat → Nat → Prop} (h : ofR M b) (hF : Fr S M B) (h1 : ¬ S 75 40) (h2 : ¬ S 75 41) : ofR B b := ⟨(hF.at h1).trans h.1, (hF.at h2).trans h.2⟩
theorem cmF_b9 {m : Nat} (hm : m ≤ 4) (o : Nat) : -9 ≤ cmF L P g ot m o ∧ cmF L P g ot m o ≤ 9 := by
  have := cmF_b (L := L) (P := P) (g := g) (ot := ot) m o; omega
theorem sp_seekCut {d : Nat} {G : GamT} {M : Mem} {Q : Option AV → Mem → Prop} {gr : Bool} (hd : 50 ≤ d) (hVG : VG M l p L P g ot G) (hR : ofR M none) (hph : gPh G = 0 ∨ gPh G = 2 ∨ gPh G = 4 ∨ gPh G = 6)
    (h : ∀ B : Mem, Fr ssS M B → VG B l p L P g ot G → ofR B ((lsL L (gOp G) (gLe G)).foldl (scT L P g ot G gr) none) → Q none B) : Cl X d 0 0 m_X11_seekCut [vR 75, vI (bI gr)] M Q := by
  have hVG0 := hVG
  obtain ⟨hV, hG, hK⟩ := hVG
  have hb := hV.1.b
  have h4 := p4 hb.2.1
  have h512 := p9 hb.2.1
  obtain ⟨g1, g2, g3, g4, g5, g6, g7, g8, g9, g10⟩ := hG
  obtain ⟨k1, k2, k3, k4, k5, k6, k7, k8, k9, k10, k11⟩ := hK
  have hle := (k8 (by omega)).1
  obtain ⟨m, hm⟩ : ∃ m, gLe G = m + 1 := ⟨gLe G - 1, by omega⟩
  have hlen := lsL_len (L := L) (o := gOp G) (m := gLe G) hb.2.1 (by omega)
  have hok : ∀ c, c ∈ lsL L (gOp G) (gLe G) → c < 4 ^ L.1 ∧ nuF 2 L.1 c (gOp G) L.1 = some (gLe G) := fun c hc => ⟨(lsL_ok (by omega) hc).1, (lsL_ok (by omega) hc).2.1⟩
  refine e_X11_seekCut (b_X11_seekCut_0 hV.1.1 (by omega) ?_)
  rw [g3, g4]
  refine sp_list (by omega) (by omega) k2 (by omega) hV.1 (fun B0 hF0 hst0 => ⟨_, rfl, hF0.ext, ?_⟩)
  revert hlen hok hst0 h
  generalize lsL L (gOp G) (gLe G) = ys
  intro h hlen hok hst0
  have key : ∀ (xs pre : List Nat) (b : Option (Int × Nat)) (B : Mem), ys = pre ++ xs → Fr ssS M B → VG B l p L P g ot G → stL B 89 (8000 * gLe G) ys → ofB b → ofR B b → xs.foldl (scT L P g ot G gr) b = ys.foldl (scT L P g ot G gr) none →
      WA X d 0 0 m_X11_seekCut 19 [some (vR 75), some (vI (bI gr)), some (vI (nI ys.length)), some (vI (nI pre.length)), none] [] B Q := by
    intro xs
    induction xs with
    | nil =>
      intro pre b B hys hF hVB hst hbb hbR he
      have hl : ys.length = pre.length := by rw [hys]; simp
      simp only [List.foldl_nil] at he
      refine b_X11_seekCut_19 hVB.1.1.1 (by omega) ⟨fun _ => h B hF hVB (by rw [← he]; exact hbR), fun q2 => absurd (by rw [na_le (by omega) (by omega)]; omega) q2⟩
    | cons c xs ih =>
      intro pre b B hys hF hVB hst hbb hbR he
      have hpl : ys[pre.length]? = some c := by rw [hys]; simp
      have hlt := (List.getElem?_eq_some_iff.mp hpl).1
      have hys2 : ys = (pre ++ [c]) ++ xs := by rw [hys]; simp
      have hpl2 : (pre ++ [c]).length = pre.length + 1 := by simp
      obtain ⟨o1, o2⟩ := hok c (by rw [hys]; simp)
      have e74 := hst _ _ hpl
      have hVB0 := hVB
      obtain ⟨hVv, ⟨y1, y2, y3, y4, y5, y6, y7, y8, y9, y10⟩, hKB⟩ := hVB
      rw [List.foldl_cons] at he
      have next : ∀ (b' : Option (Int × Nat)) (B' : Mem), Fr ssS B B' → VG B' l p L P g ot G → stL B' 89 (8000 * gLe G) ys → ofB b' → ofR B' b' → scT L P g ot G gr b c = b' → WA X d 0 0 m_X11_seekCut 19 [some (vR 75), some (vI (bI gr)), some (vI (nI ys.length)), some (vI (nI pre.length + nI 1)), none] [] B' Q := fun b' B' hF' hV' hs' hbb' hbR' hq => by
        have := ih (pre ++ [c]) b' B' hys2 (hF.trans hF') hV' hs' hbb' hbR' (by rw [← he, hq])
        rw [hpl2] at this
        rw [nI_add]; exact this
      have offer : ∀ (v : Int) (B' : Mem) (dd : Nat), Fr ssS B B' → VG B' l p L P g ot G → stL B' 89 (8000 * gLe G) ys → ofR B' b → -20 ≤ v ∧ v ≤ 20 → scT L P g ot G gr b c = ofT gr b c v → Cl X dd 0 0 m_X11_offer [vR 75, vI (nI c), vI (zI v), vI (bI gr)] B' (fun r M2 => r = none ∧ Ext B' M2 ∧ WA X d 0 0 m_X11_seekCut 19 [some (vR 75), some (vI (bI gr)), some (vI (nI ys.length)), some (vI (nI pre.length + nI 1)), none] [] M2 Q) := fun v B' dd hF' hV' hs' hR' hv hq => by
        refine sp_offer hV'.1.1.1 hbb hR' hv (fun B2 hF2 hR2 => ⟨rfl, hF2.ext, ?_⟩)
        exact next _ B2 (hF'.trans (ofS_ss hF2)) (hV'.of (ofS_vs hF2) (ofS_ss hF2)) (hs'.fr hF2 (fun k _ => by unfold ofS; omega)) (ofT_b hbb hv (by omega)) hR2 hq
      have hcw := cwL_b L g c (gOp G) (gLe G)
      have h100 : (gPh G = 2 ∨ (gPh G = 4 ∧ joB L G c = true)) → WA X d 0 0 m_X11_seekCut 100 [some (vR 75), some (vI (bI gr)), some (vI (nI ys.length)), some (vI (nI pre.length)), some (vI (nI c))] [] B Q := fun hq => by
        refine b_X11_seekCut_100 hVv.1.1 (by omega) ?_
        rw [y3, y4]
        refine sp_cutWorth (by omega) hVv.1 hVv.2.2.2.2.2.2.1 hVv.2.2.2.2.2.2.2.1 (by omega) (by omega) (by omega) o2 ⟨_, rfl, Ext.refl _, offer _ B _ Fr.refl hVB0 hst hbR (by omega) ?_⟩
        unfold scT
        rw [if_neg (by omega), if_pos hq]
      have h124 : ¬ gPh G = 0 → ¬ (gPh G = 2 ∨ (gPh G = 4 ∧ joB L G c = true)) → WA X d 0 0 m_X11_seekCut 124 [some (vR 75), some (vI (bI gr)), some (vI (nI ys.length)), some (vI (nI pre.length)), some (vI (nI c))] [] B Q := fun hq0 hq => by
        refine b_X11_seekCut_124 hVv.1.1 (by omega) ?_
        rw [y6, na_eq (by omega) (by omega)]
        refine ⟨fun q6 => ?_, fun q6 => ?_⟩
        · refine next b B Fr.refl hVB0 hst hbb hbR ?_
          unfold scT
          rw [if_neg hq0, if_neg hq, if_neg (fun z => q6 z.1)]
        · obtain ⟨c1, c2⟩ := k9 (by omega)
          have hcd := cwL_b L g (gDr G) (gOp G) (gLe G)
          rw [y9 (by omega), y3, y4]
          refine ⟨fun q7 => ?_, fun q7 => ?_⟩
          · rw [na_le (by omega) (by omega)] at q7
            refine next b B Fr.refl hVB0 hst hbb hbR ?_
            unfold scT
            rw [if_neg hq0, if_neg hq, if_neg (fun z => by omega)]
          · rw [na_le (by omega) (by omega)] at q7
            refine sp_cutWorth (by omega) hVv.1 hVv.2.2.2.2.2.2.1 hVv.2.2.2.2.2.2.2.1 (by omega) (by omega) (by omega) c1.1 ⟨_, rfl, Ext.refl _, ?_⟩
            rw [y3, y4]
            refine sp_cutWorth (by omega) hVv.1 hVv.2.2.2.2.2.2.1 hVv.2.2.2.2.2.2.2.1 (by omega) (by omega) (by omega) o2 ⟨_, rfl, Ext.refl _, sp_opposite (by omega) (by omega) (by omega) ⟨_, rfl, Ext.refl _, ?_⟩⟩
            have hop := opI_b (gr := gr) (a := cwL L g (gDr G) (gOp G) (gLe G)) (b := cwL L g c (gOp G) (gLe G)) (lo := -20) (hi := 20) (by omega) (by omega)
            refine offer _ B _ Fr.refl hVB0 hst hbR hop ?_
            unfold scT
            rw [if_neg hq0, if_neg hq, if_pos ⟨q6, by omega⟩]
      have eidx : nI 8000 * mI B 75 27 + nI pre.length = nI (8000 * gLe G + pre.length) := by rw [y4, pk_mul, nI_add]
      refine b_X11_seekCut_19 hVv.1.1 (by omega) ⟨fun q2 => ?_, fun _ => ?_⟩
      · rw [na_le (by omega) (by omega)] at q2; omega
      rw [eidx]
      refine ⟨na_in (by omega) (by omega), fun x1 e1 => ?_⟩
      rw [na_ix (by omega), e74] at e1
      subst e1
      rw [y6, na_eq (by omega) (by omega), na_eq (by omega) (by omega), na_eq (by omega) (by omega)]
      refine ⟨fun q0 => ⟨fun q2 => h100 (Or.inl q2), fun q2 => ⟨fun q4 => h124 q0 (fun z => by omega), fun q4 => ?_⟩⟩, fun q0 => ?_⟩
      · refine sp_joins (by omega) hVv.1 y3 y4 (y9 (by omega)) (by omega) (by omega) k5 (by omega) ⟨_, rfl, Ext.refl _, fun z => ?_, fun z => ?_⟩
        · have z := bI_0.mp z
          refine h124 q0 (fun w => ?_)
          rcases w with w | w
          · exact q2 w
          · rw [z] at w; cases w.2
        · exact h100 (Or.inr ⟨q4, bI_n0.mp z⟩)
      · rw [y3, y4, hm, sub_b]
        refine sp_keepValue (sp_comes m) (by omega) hVv (by omega) k2 (by omega) (by rw [← hm]; exact o2) (fun B2 hF2 hV2 => ⟨_, rfl, hF2.ext, ?_⟩)
        have hs2 : stL B2 89 (8000 * gLe G) ys := hst.fr hF2 (fun k _ => by unfold cmS; omega)
        have hkb := kvF_b (L := L) (g := g) (C := cmF L P g ot m) (c := c) (o := gOp G) (m := m + 1) (gr := !gr) (n := 9) (by omega) (fun x => cmF_b9 (by omega) x)
        refine offer _ B2 _ (cmS_ss hF2) (hVB0.v hV2 (cmS_ss hF2)) hs2 (hbR.fr hF2 (by unfold cmS; omega) (by unfold cmS; omega)) (by omega) ?_
        unfold scT
        rw [if_pos q0, hm, Nat.add_sub_cancel]
  exact key ys [] none B0 rfl (lfS_ss hF0) (hVG0.of (lfS_vs hF0) (lfS_ss hF0)) hst0 (fun q hq => by cases hq) (hR.fr hF0 (by unfold lfS; omega) (by unfold lfS; omega)) rfl
theorem sp_seekPair {d : Nat} {G : GamT} {M : Mem} {Q : Option AV → Mem → Prop} {gr : Bool} (hd : 50 ≤ d) (hVG : VG M l p L P g ot G) (hR : ofR M none) (hph : gPh G = 5)
    (h : ∀ B : Mem, Fr ssS M B → VG B l p L P g ot G → ofR B (prF gr (fun c => cwL L g c (gOp G) (gLe G)) (lsL L (gOp G) (gLe G))) → Q (some (vI (oI ((prF gr (fun c => cwL L g c (gOp G) (gLe G)) (lsL L (gOp G) (gLe G))).map (·.2))))) B) : Cl X d 0 0 m_X11_seekPair [vR 75, vI (bI gr)] M Q := by
  have hVG0 := hVG
  obtain ⟨hV, hG, hK⟩ := hVG
  have hb := hV.1.b
  have h4 := p4 hb.2.1
  have h512 := p9 hb.2.1
  obtain ⟨g1, g2, g3, g4, g5, g6, g7, g8, g9, g10⟩ := hG
  obtain ⟨k1, k2, k3, k4, k5, k6, k7, k8, k9, k10, k11⟩ := hK
  have hle := (k8 (by omega)).1
  have hlen := lsL_len (L := L) (o := gOp G) (m := gLe G) hb.2.1 (by omega)
  have hok : ∀ c, c ∈ lsL L (gOp G) (gLe G) → c < 4 ^ L.1 ∧ nuF 2 L.1 c (gOp G) L.1 = some (gLe G) := fun c hc => ⟨(lsL_ok (by omega) hc).1, (lsL_ok (by omega) hc).2.1⟩
  have hW : ∀ c, -4 ≤ cwL L g c (gOp G) (gLe G) ∧ cwL L g c (gOp G) (gLe G) ≤ 4 := fun c => by have := cwL_b L g c (gOp G) (gLe G); omega
  refine e_X11_seekPair (b_X11_seekPair_0 hV.1.1 (by omega) ?_)
  rw [g3, g4]
  refine sp_list (by omega) (by omega) k2 (by omega) hV.1 (fun B0 hF0 hst0 => ⟨_, rfl, hF0.ext, ?_⟩)
  revert hlen hok hst0 h
  generalize lsL L (gOp G) (gLe G) = ys
  intro h hlen hok hst0
  -- back through them
  have back : ∀ (k : Nat) (zs rest : List Nat) (b : Option (Int × Nat)) (beh : Int) (B : Mem), zs.length = k → ys = zs ++ rest → Fr ssS M B → VG B l p L P g ot G → stL B 89 (8000 * gLe G) ys → (∀ i c, ys[i]? = some c → mI B 96 i = zI (cwL L g c (gOp G) (gLe G))) → ofB b → ofR B b → (-4 ≤ beh ∧ beh ≤ 4) → (zs.foldr (prT gr (fun c => cwL L g c (gOp G) (gLe G))) (b, beh)).1 = prF gr (fun c => cwL L g c (gOp G) (gLe G)) ys →
      WA X d 0 0 m_X11_seekPair 114 [some (vR 75), some (vI (bI gr)), none, some (vI (zI beh)), some (vI (zI ((k : Int) - 1))), none, none] [] B Q := by
    intro k
    induction k with
    | zero =>
      intro zs rest b beh B hz hys hF hVB hst h81 hbb hbR hbeh he
      obtain rfl : zs = [] := List.eq_nil_of_length_eq_zero hz
      simp only [List.foldr_nil] at he
      refine b_X11_seekPair_114 hVB.1.1.1 (by omega) ⟨fun _ => ?_, fun q => absurd (by decide) q⟩
      rw [hbR.2, he]
      exact h B hF hVB (by rw [← he]; exact hbR)
    | succ k ih =>
      intro zs rest b beh B hz hys hF hVB hst h81 hbb hbR hbeh he
      have hne : zs ≠ [] := fun z => by rw [z] at hz; cases hz
      have hzs := List.dropLast_concat_getLast hne
      generalize hcl : zs.getLast hne = c at hzs
      have hdl : zs.dropLast.length = k := by rw [List.length_dropLast, hz]; rfl
      generalize hzd : zs.dropLast = zs' at hzs hdl
      have hys2 : ys = zs' ++ ([c] ++ rest) := by rw [hys, ← hzs]; simp
      have hpl : ys[k]? = some c := by rw [hys2, ← hdl]; simp
      have hlt := (List.getElem?_eq_some_iff.mp hpl).1
      have hc4 := (hok c (by rw [hys2]; simp)).1
      rw [← hzs, List.foldr_append] at he
      simp only [List.foldr_cons, List.foldr_nil] at he
      have hVB0 := hVB
      obtain ⟨hVv, ⟨y1, y2, y3, y4, y5, y6, y7, y8, y9, y10⟩, hKB⟩ := hVB
      have hl4 : zI (((k + 1 : Nat) : Int) - 1) = nI k := by rw [← zI_n]; congr 1; omega
      have hWc := hW c
      have hop := opI_b (gr := gr) (lo := -4) (hi := 4) hWc hbeh
      -- the turn's end
      have h223 : ∀ (b' : Option (Int × Nat)) (v1 v2 : Int32) (B' : Mem), ofB b' → v1 = oI (b'.map (·.2)) → v2 = oZ (b'.map (·.1)) → B' = sI B 75 41 v1 → (prT gr (fun c => cwL L g c (gOp G) (gLe G)) c (b, beh)).1 = b' → WA X d 0 0 m_X11_seekPair 223 [some (vR 75), some (vI (bI gr)), none, some (vI (zI beh)), some (vI (nI k)), none, none] [vI v2, vR 75] B' Q := by
        intro b' v1 v2 B' hbb' hv1 hv2 hB' hq
        have hFB' : Fr ofS B B' := by rw [hB']; exact Fr.sI ⟨rfl, Or.inr rfl⟩
        refine b_X11_seekPair_223 (hVB0.of (ofS_vs hFB') (ofS_ss hFB')).1.1.1 (by omega) (fun M1 e1 => ⟨na_in (by omega) (by omega), ?_⟩)
        have hF1 : Fr ofS B M1 := by rw [e1]; exact hFB'.trans (Fr.sI ⟨rfl, Or.inl rfl⟩)
        rw [na_ix (by omega), hF1.at (by unfold ofS; omega), h81 k c hpl]
        refine sp_better (b := some beh) (fun x hx => by cases hx; omega) (by omega) ⟨_, rfl, Ext.refl _, ?_⟩
        have hbe := beI_b (gr := gr) (b := some beh) (v := cwL L g c (gOp G) (gLe G)) (lo := -4) (hi := 4) (fun x hx => by cases hx; exact hbeh) hWc
        have em : nI k + (-1) = zI ((k : Int) - 1) := by rw [← zI_n, show (-1 : Int32) = zI (-1) from zI_m1.symm, zI_add]; rfl
        rw [em]
        refine ih zs' ([c] ++ rest) b' _ M1 hdl hys2 (hF.trans (ofS_ss hF1)) (hVB0.of (ofS_vs hF1) (ofS_ss hF1)) (hst.fr hF1 (fun k _ => by unfold ofS; omega)) (fun i c' hi => by rw [hF1.at (by unfold ofS; omega)]; exact h81 i c' hi) hbb' ⟨?_, ?_⟩ hbe ?_
        · rw [e1, mI_sI_eq, hv2]
        · rw [e1, mI_sI_i (by decide), hB', mI_sI_eq, hv1]
        · rw [← he, ← hq]; rfl
      have eidx : nI 8000 * mI B 75 27 + nI k = nI (8000 * gLe G + k) := by rw [y4, pk_mul, nI_add]
      have h169 : (b = none ∨ ∃ q, b = some q ∧ (if gr then q.1 ≤ opI gr (cwL L g c (gOp G) (gLe G)) beh else opI gr (cwL L g c (gOp G) (gLe G)) beh ≤ q.1)) → WA X d 0 0 m_X11_seekPair 169 [some (vR 75), some (vI (bI gr)), none, some (vI (zI beh)), some (vI (nI k)), some (vI (zI (opI gr (cwL L g c (gOp G) (gLe G)) beh))), none] [] B Q := by
        intro hcase
        refine b_X11_seekPair_169 hVv.1.1 (b_X11_seekPair_174 hVv.1.1 ⟨fun z => absurd z (by decide), fun _ => ?_⟩)
        rw [eidx, na_ix (by omega), hst _ _ hpl]
        refine ⟨na_in (by omega) (by omega), b_X11_seekPair_205 hVv.1.1 (fun M1 e1 => ⟨fun z => absurd z (by decide), fun _ => ?_⟩)⟩
        refine h223 (some (opI gr (cwL L g c (gOp G) (gLe G)) beh, c)) _ _ M1 (fun q hq => by cases hq; exact ⟨by dsimp only; omega, by dsimp only; omega⟩) rfl rfl e1 ?_
        rcases hcase with rfl | ⟨q, rfl, hq⟩
        · rfl
        · unfold prT; dsimp only; rw [if_pos hq]
      have h173 : (∃ q, b = some q ∧ ¬ (if gr then q.1 ≤ opI gr (cwL L g c (gOp G) (gLe G)) beh else opI gr (cwL L g c (gOp G) (gLe G)) beh ≤ q.1)) → WA X d 0 0 m_X11_seekPair 173 [some (vR 75), some (vI (bI gr)), none, some (vI (zI beh)), some (vI (nI k)), some (vI (zI (opI gr (cwL L g c (gOp G) (gLe G)) beh))), none] [] B Q := by
        rintro ⟨q, rfl, hq⟩
        refine b_X11_seekPair_173 hVv.1.1 (b_X11_seekPair_174 hVv.1.1 ⟨fun _ => b_X11_seekPair_205 hVv.1.1 (fun M1 e1 => ⟨fun _ => ?_, fun z => absurd rfl z⟩), fun z => absurd rfl z⟩)
        refine h223 (some q) _ _ M1 hbb hbR.2 ?_ e1 ?_
        · rw [e1, mI_sI_i (by decide)]; exact hbR.1
        · unfold prT; dsimp only; rw [if_neg hq]
      rw [hl4]
      refine b_X11_seekPair_114 hVv.1.1 (by omega) ⟨fun q => ?_, fun _ => ⟨na_in (by omega) (by omega), ?_⟩⟩
      · rw [na_lt (by omega) (by omega)] at q; omega
      rw [na_ix (by omega), h81 k c hpl]
      refine sp_opposite (by omega) (by omega) (by omega) ⟨_, rfl, Ext.refl _, ?_⟩
      rw [hbR.1]
      refine ⟨fun q => ?_, fun q => ?_⟩
      · rw [oZ_none (fun y hy => by
          cases b with
          | none => cases hy
          | some z => cases hy; have := (hbb z rfl).1; exact ⟨by show (-900 : Int) ≤ z.1; omega, by show z.1 ≤ 900; omega⟩)] at q
        cases b with
        | none => exact h169 (Or.inl rfl)
        | some z => cases q
      · cases b with
        | none => exact absurd rfl q
        | some z =>
          have hz := (hbb z rfl).1
          refine ⟨fun q2 => ⟨fun q3 => ?_, fun q3 => ?_⟩, fun q2 => ⟨fun q3 => ?_, fun q3 => ?_⟩⟩
          · have q3 : zI z.1 < zI (opI gr (cwL L g c (gOp G) (gLe G)) beh) := q3
            rw [zI_lt (by omega) (by omega) (by omega) (by omega)] at q3
            refine h173 ⟨z, rfl, ?_⟩
            cases gr with
            | true => exact absurd rfl q2
            | false => rw [if_neg (by decide)]; omega
          · have q3 : ¬ zI z.1 < zI (opI gr (cwL L g c (gOp G) (gLe G)) beh) := q3
            rw [zI_lt (by omega) (by omega) (by omega) (by omega)] at q3
            refine h169 (Or.inr ⟨z, rfl, ?_⟩)
            cases gr with
            | true => exact absurd rfl q2
            | false => rw [if_neg (by decide)]; omega
          · have q3 : zI (opI gr (cwL L g c (gOp G) (gLe G)) beh) < zI z.1 := q3
            rw [zI_lt (by omega) (by omega) (by omega) (by omega)] at q3
            refine h173 ⟨z, rfl, ?_⟩
            cases gr with
            | false => exact absurd q2 (by decide)
            | true => rw [if_pos rfl]; omega
          · have q3 : ¬ zI (opI gr (cwL L g c (gOp G) (gLe G)) beh) < zI z.1 := q3
            rw [zI_lt (by omega) (by omega) (by omega) (by omega)] at q3
            refine h169 (Or.inr ⟨z, rfl, ?_⟩)
            cases gr with
            | false => exact absurd q2 (by decide)
            | true => rw [if_pos rfl]; omega
  -- from the last on
  have last : ∀ (b : Option (Int × Nat)) (B : Mem), Fr ssS M B → VG B l p L P g ot G → stL B 89 (8000 * gLe G) ys → (∀ i c, ys[i]? = some c → mI B 96 i = zI (cwL L g c (gOp G) (gLe G))) → ofB b → ofR B b → b = (if ys.length = 1 then some (cwL L g (ys.getD 0 0) (gOp G) (gLe G), ys.getD 0 0) else none) → (ys = [] → prF gr (fun c => cwL L g c (gOp G) (gLe G)) ys = none) →
      WA X d 0 0 m_X11_seekPair 92 [some (vR 75), some (vI (bI gr)), some (vI (nI ys.length)), none, none, none, none] [] B Q := by
    intro b B hF hVB hst h81 hbb hbR hbe hnil
    refine b_X11_seekPair_92 hVB.1.1.1 ⟨fun q => ?_, fun q => ?_⟩
    · rw [na_eq (by omega) (by omega)] at q
      rw [na_sub (by omega)]
      have hlast : ys[ys.length - 1]? = some (ys.getD (ys.length - 1) 0) := by
        simp only [List.getD]
        rw [List.getElem?_eq_getElem (by omega)]; rfl
      refine ⟨na_in (by omega) (by omega), ?_⟩
      rw [na_ix (by omega), h81 _ _ hlast]
      refine b_X11_seekPair_108 hVB.1.1.1 (fun x1 e1 => ?_)
      have e1 : x1 = zI (((ys.length - 1 : Nat) : Int) - 1) := by rw [e1, nI_subz]; congr 1; omega
      rw [e1]
      have hne : ys ≠ [] := fun z => q (by rw [z]; rfl)
      refine back (ys.length - 1) ys.dropLast [ys.getLast hne] b _ B (by simp) (List.dropLast_concat_getLast hne).symm hF hVB hst h81 hbb hbR (hW _) ?_
      rw [hbe]; rfl
    · rw [na_eq (by omega) (by omega)] at q
      have hn : ys = [] := List.eq_nil_of_length_eq_zero q
      refine b_X11_seekPair_108 hVB.1.1.1 (fun x1 e1 => ?_)
      rw [q] at e1
      have e1 : x1 = nI 0 - nI 2 := e1
      refine b_X11_seekPair_114 hVB.1.1.1 (by omega) ⟨fun _ => ?_, fun z => absurd (by rw [e1]; decide) z⟩
      have hb0 : b = none := by rw [hbe, q]; rfl
      rw [hbR.2, hb0, ← hnil hn]
      exact h B hF hVB (by rw [hnil hn, ← hb0]; exact hbR)
  -- the worths of all
  have fwd : ∀ (xs pre : List Nat) (B : Mem), ys = pre ++ xs → Fr ssS M B → VG B l p L P g ot G → stL B 89 (8000 * gLe G) ys → (∀ i c, i < pre.length → ys[i]? = some c → mI B 96 i = zI (cwL L g c (gOp G) (gLe G))) → ofR B none →
      WA X d 0 0 m_X11_seekPair 19 [some (vR 75), some (vI (bI gr)), some (vI (nI ys.length)), some (vI (nI pre.length)), none, none, none] [] B Q := by
    intro xs
    induction xs with
    | nil =>
      intro pre B hys hF hVB hst h81 hbR
      have hl : ys.length = pre.length := by rw [hys]; simp
      have h81' : ∀ i c, ys[i]? = some c → mI B 96 i = zI (cwL L g c (gOp G) (gLe G)) := fun i c hi => h81 i c (by rw [← hl]; exact (List.getElem?_eq_some_iff.mp hi).1) hi
      obtain ⟨hVv, ⟨y1, y2, y3, y4, y5, y6, y7, y8, y9, y10⟩, hKB⟩ := hVB
      have hVB0 : VG B l p L P g ot G := ⟨hVv, ⟨y1, y2, y3, y4, y5, y6, y7, y8, y9, y10⟩, hKB⟩
      refine b_X11_seekPair_19 hVv.1.1 (by omega) ⟨fun _ => ⟨fun q => ?_, fun q => ?_⟩, fun q2 => absurd (by rw [na_le (by omega) (by omega)]; omega) q2⟩
      · rw [na_eq (by omega) (by omega)] at q
        exact last none B hF hVB0 hst h81' (fun q hq => by cases hq) hbR (by rw [if_neg q]) (fun z => by rw [z]; rfl)
      · rw [na_eq (by omega) (by omega)] at q
        have h0 : ys[0]? = some (ys.getD 0 0) := by
          simp only [List.getD]
          rw [List.getElem?_eq_getElem (by omega)]; rfl
        have hm0 := (hok _ (List.mem_of_getElem? h0)).1
        have e0 := hst _ _ h0
        rw [y4, pk_mul, na_ix (by omega), na_ix (by omega)]
        refine ⟨na_in (by omega) (by omega), ?_⟩
        rw [Nat.add_zero] at e0
        rw [e0, h81' 0 _ h0]
        have hw0 := hW (ys.getD 0 0)
        refine sp_offer hVv.1.1 (b := none) (fun q hq => by cases hq) hbR (by omega) (fun B2 hF2 hR2 => ⟨rfl, hF2.ext, ?_⟩)
        exact last _ B2 (hF.trans (ofS_ss hF2)) (hVB0.of (ofS_vs hF2) (ofS_ss hF2)) (hst.fr hF2 (fun k _ => by unfold ofS; omega)) (fun i c hi => by rw [hF2.at (by unfold ofS; omega)]; exact h81' i c hi) (ofT_b (fun q hq => by cases hq) (by omega) (by omega)) hR2 (by rw [if_pos q]; rfl) (fun z => by rw [z]; rfl)
    | cons c xs ih =>
      intro pre B hys hF hVB hst h81 hbR
      have hpl : ys[pre.length]? = some c := by rw [hys]; simp
      have hlt := (List.getElem?_eq_some_iff.mp hpl).1
      have hys2 : ys = (pre ++ [c]) ++ xs := by rw [hys]; simp
      have hpl2 : (pre ++ [c]).length = pre.length + 1 := by simp
      obtain ⟨o1, o2⟩ := hok c (by rw [hys]; simp)
      have hVB0 := hVB
      obtain ⟨hVv, ⟨y1, y2, y3, y4, y5, y6, y7, y8, y9, y10⟩, hKB⟩ := hVB
      refine b_X11_seekPair_19 hVv.1.1 (by omega) ⟨fun q2 => ?_, fun _ => ?_⟩
      · rw [na_le (by omega) (by omega)] at q2; omega
      rw [y3, y4, pk_mul, nI_add, na_ix (by omega), hst _ _ hpl]
      refine ⟨na_in (by omega) (by omega), sp_cutWorth (by omega) hVv.1 hVv.2.2.2.2.2.2.1 hVv.2.2.2.2.2.2.2.1 (by omega) (by omega) (by omega) o2 ⟨_, rfl, Ext.refl _, na_in (by omega) (by omega), fun M3 e3 => ?_⟩⟩
      rw [na_ix (by omega)] at e3
      rw [nI_add]
      have hF3s : Fr ssS B M3 := by rw [e3]; exact Fr.sI (by unfold ssS; omega)
      have hF3v : Fr vsS B M3 := by rw [e3]; exact Fr.sI (by unfold vsS; omega)
      have := ih (pre ++ [c]) M3 hys2 (hF.trans hF3s) (hVB0.of hF3v hF3s) (fun k x hk => by rw [e3, mI_sI_a (by decide)]; exact hst k x hk) (fun i c' hi hc' => by
        rw [e3, mI_sI]
        by_cases hq : i = pre.length
        · subst hq
          rw [hpl] at hc'
          cases hc'
          rw [if_pos ⟨rfl, rfl⟩]
        · rw [if_neg (fun z => hq z.2)]
          exact h81 i c' (by rw [hpl2] at hi; omega) hc') ⟨by rw [e3, mI_sI_a (by decide)]; exact hbR.1, by rw [e3, mI_sI_a (by decide)]; exact hbR.2⟩
      rw [hpl2] at this
      exact this
  exact fwd ys [] B0 rfl (lfS_ss hF0) (hVG0.of (lfS_vs hF0) (lfS_ss hF0)) hst0 (fun i c hi => by simp at hi) (hR.fr hF0 (by unfold lfS; omega) (by unfold lfS; omega))
end BEST
