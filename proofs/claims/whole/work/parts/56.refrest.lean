/-! THE REFERENCE: votes, counts, what is sure -/
def gOn (s : StT) (l : Nat) : Bool := (List.range (sNg s)).any (fun g => decide ((sGs s g).1 = l))
def vtL2 (L : LandT) (p k v : Nat) : LandT := (L.1, L.2.1, L.2.2.1, L.2.2.2.1, (fun x j => if x = p ∧ j = k then v else LdV L x j), LdB L, LdT L)
/-- what vote tells, if it may -/
def vtN (s : StT) (l p k v : Int32) : Option (Nat × Nat × Nat × Nat) := match inN l (sNl s) with
  | none => none
  | some a => match inN p (sLs s a).1 with
    | none => none
    | some b => match inN k 3 with
      | none => none
      | some c => match inN v 100 with
        | none => none
        | some d => if gOn s a then none else some (a, b, c, d)
def voteS (s : StT) (l p k v : Int32) : StT := match vtN s l p k v with
  | none => s
  | some q => (s.1, (sNl s, fun i => if i = q.1 then vtL2 (sLs s i) q.2.1 q.2.2.1 q.2.2.2 else sLs s i), s.2.2)
def aVote (s : StT) (l p k v : Int32) : Int32 := bI (vtN s l p k v).isSome
theorem vtL2_ok {L : LandT} {p k v : Nat} (h : LdOK L) (hp : p < L.1) (hv : v ≤ 99) : LdOK (vtL2 L p k v) := by
  obtain ⟨l1, l2, l3, l4, l5, l6, l7, l8, l9, l10⟩ := h
  refine ⟨l1, l2, l3, l4, fun x j => ?_, fun x j hx => ?_, l7, l8, l9, l10⟩
  · show (if x = p ∧ j = k then v else LdV L x j) ≤ 99
    split
    · exact hv
    · exact l5 x j
  · show (if x = p ∧ j = k then v else LdV L x j) = 0
    rw [if_neg (by have hx : L.1 ≤ x := hx; omega)]
    exact l6 x j hx
section REST
variable {X : Cx} {s : StT} {M : Mem} {Q : Option AV → Mem → Prop}
theorem rf_vote {dd : Nat} {l p k v : Int32} (hd : 4 ≤ dd) (hR : RI M s) (h : ∀ B, Fr rfS M B → RI B (voteS s l p k v) → Q (some (vI (aVote s l p k v))) B) : Cl X dd 0 0 m_X11_vote [vR 75, vI l, vI p, vI k, vI v] M Q := by
  have hl := hR.lds
  have h6 := hl.2.1
  have h8 := hR.2.1.2.2.2.1
  unfold voteS aVote at h
  have no : vtN s l p k v = none → Q (some (vI (nI 0))) M := fun hn => by
    rw [hn] at h; exact h M Fr.refl hR
  refine e_X11_vote (b_X11_vote_0 hR.1 (by omega) (sp_isParish (by omega) hR.1 hl ⟨_, rfl, Ext.refl _, fun q => ?_, fun q => ?_⟩))
  · have := bI_0.mp q
    unfold ipB at this
    refine no ?_
    unfold vtN
    cases hs : inN l (sNl s) with
    | none => rfl
    | some a =>
      rw [hs] at this
      dsimp only at this ⊢
      cases hp : inN p (sLs s a).1 with
      | none => rfl
      | some j => rw [hp] at this; cases this
  have := bI_n0.mp q
  unfold ipB at this
  cases hs : inN l (sNl s) with
  | none => rw [hs] at this; cases this
  | some a =>
  rw [hs] at this
  dsimp only at this
  obtain ⟨f1, f2⟩ := inN_some (by omega) hs
  obtain ⟨hO, hL⟩ := hl.2.2 a f2
  have h9 := hO.1
  cases hp : inN p (sLs s a).1 with
  | none => rw [hp] at this; cases this
  | some b =>
  obtain ⟨j1, j2⟩ := inN_some (by omega) hp
  refine sp_isParty (by omega) ⟨_, rfl, Ext.refl _, fun q => ?_, fun q => ?_⟩
  · have := bI_0.mp q
    refine no ?_
    unfold vtN
    simp only [hs, hp]
    cases hk : inN k 3 with
    | none => rfl
    | some c => rw [hk] at this; cases this
  have := bI_n0.mp q
  cases hk : inN k 3 with
  | none => rw [hk] at this; cases this
  | some c =>
  obtain ⟨c1, c2⟩ := inN_some (by decide) hk
  refine sp_inN (n := 100) (by decide) (by decide) ⟨_, rfl, Ext.refl _, fun q => ?_, fun q => ?_⟩
  · have := bI_n0.mp q
    cases hv : inN v 100 with
    | none => rw [hv] at this; cases this
    | some d =>
    obtain ⟨d1, d2⟩ := inN_some (by decide) hv
    have key : ∀ r g, g + r = sNg s → (∀ i, i < g → (sGs s i).1 ≠ a) → WA X dd 0 0 m_X11_vote 32 [some (vR 75), some (vI l), some (vI p), some (vI k), some (vI v), some (vI (nI g))] [] M Q := by
      intro r
      induction r with
      | zero =>
        intro g hg hall
        obtain rfl : g = sNg s := by omega
        have hgo : gOn s a = false := by
          unfold gOn
          rw [List.any_eq_false]
          intro i hi
          simp only [decide_eq_true_eq]
          exact hall i (List.mem_range.mp hi)
        have hvt : vtN s l p k v = some (a, b, c, d) := by
          unfold vtN
          simp only [hs, hp, hk, hv, hgo, Bool.false_eq_true, if_false]
        rw [hvt] at h
        dsimp only at h
        refine b_X11_vote_32 hR.1 (by omega) ⟨fun _ => ?_, fun z => absurd (by rw [hR.2.2.2.2.2.1, na_le (by omega) (by omega)]; omega) z⟩
        rw [f1, j1, c1]
        refine sp_voteAt ⟨_, rfl, Ext.refl _, na_in (by omega) (by omega), fun M2 e2 => ?_⟩
        rw [na_ix (by omega), d1] at e2
        have hF : Fr (fun a' k' => a' = 81 ∧ k' = 3 * (9 * a + b) + c) M M2 := by rw [e2]; exact Fr.sI ⟨rfl, rfl⟩
        obtain ⟨h1, h2, h3, h4, h5, h6', h7⟩ := hR
        refine h M2 (hF.mono (fun a k z => by unfold rfS; omega)) ⟨h1.fr hF, ⟨h2.1, ⟨h2.2.1.1, fun i hi => ?_⟩, h2.2.2.1, h2.2.2.2.1, fun g hg => ?_⟩, h3.fr hF (by omega) (fun i => by omega), ⟨(hF.at (by omega)).trans h4.1, fun i hi => ?_⟩, ⟨(hF.at (by omega)).trans h5.1, fun p hp => (h5.2 p hp).fr hF (fun a i a1 a2 z => by omega)⟩, (hF.at (by omega)).trans h6', fun g hg => ?_⟩
        · show LdOK (if i = a then vtL2 (sLs s i) b c d else sLs s i)
          by_cases hq : i = a
          · rw [if_pos hq, hq]; exact vtL2_ok hO j2 (by omega)
          · rw [if_neg hq]; exact h2.2.1.2 i hi
        · obtain ⟨g1, g2, g3⟩ := h2.2.2.2.2 g hg
          refine ⟨g1, g2, ?_⟩
          show lgM (if (sGs s g).1 = a then vtL2 (sLs s (sGs s g).1) b c d else sLs s (sGs s g).1) _ _
          rw [if_neg (hall g hg)]; exact g3
        · show rLd M2 i (if i = a then vtL2 (sLs s i) b c d else sLs s i)
          have hi' : i < sNl s := hi
          obtain ⟨m1, m2, m3, m4, m5⟩ := h4.2 i hi
          by_cases hq : i = a
          · rw [if_pos hq]
            subst hq
            refine ⟨(hF.at (by omega)).trans m1, (hF.at (by omega)).trans m2, (hF.at (by omega)).trans m3, (hF.at (by omega)).trans m4, fun x hx => ⟨fun j hj => ?_, (hF.at (by omega)).trans (m5 x hx).2.1, (hF.at (by omega)).trans (m5 x hx).2.2⟩⟩
            show mI M2 81 _ = nI (if x = b ∧ j = c then d else LdV (sLs s i) x j)
            by_cases hxx : x = b ∧ j = c
            · rw [if_pos hxx, hxx.1, hxx.2, e2, mI_sI_eq]
            · rw [if_neg hxx, hF.at (by omega)]; exact (m5 x hx).1 j hj
          · rw [if_neg hq]
            refine ⟨(hF.at (by omega)).trans m1, (hF.at (by omega)).trans m2, (hF.at (by omega)).trans m3, (hF.at (by omega)).trans m4, fun x hx => ⟨fun j hj => (hF.at (by omega)).trans ((m5 x hx).1 j hj), (hF.at (by omega)).trans (m5 x hx).2.1, (hF.at (by omega)).trans (m5 x hx).2.2⟩⟩
        · obtain ⟨g1, g2, g3, g4, g5⟩ := h7 g hg
          refine ⟨(hF.at (by omega)).trans g1, (hF.at (by omega)).trans g2, (hF.at (by omega)).trans g3, g4.fr hF (fun k _ => by omega), fun k' hk' => ?_⟩
          show _ = nI (gPh (plG (if (sGs s g).1 = a then vtL2 (sLs s (sGs s g).1) b c d else sLs s (sGs s g).1) _ _))
          rw [if_neg (hall g hg), hF.at (by omega)]
          exact g5 k' hk'
      | succ r ih =>
        intro g hg hall
        obtain ⟨g1, -⟩ := hR.2.2.2.2.2.2 g (by omega)
        obtain ⟨y1, -⟩ := hR.2.1.2.2.2.2 g (by omega)
        refine b_X11_vote_32 hR.1 (by omega) ⟨fun z => ?_, fun _ => ⟨na_in (by omega) (by omega), fun z => ?_, fun z => ?_⟩⟩
        · rw [hR.2.2.2.2.2.1, na_le (by omega) (by omega)] at z; omega
        · rw [na_ix (by omega), g1, f1, na_eq (by omega) (by omega)] at z
          rw [nI_add]
          refine ih (g + 1) (by omega) (fun i hi => ?_)
          rcases (show i < g ∨ i = g by omega) with w | w
          · exact hall i w
          · rw [w]; exact z
        · rw [na_ix (by omega), g1, f1, na_eq (by omega) (by omega)] at z
          refine no ?_
          have hgo : gOn s a = true := by
            unfold gOn
            rw [List.any_eq_true]
            exact ⟨g, List.mem_range.mpr (by omega), by simp [z]⟩
          unfold vtN
          simp only [hs, hp, hk, hv, hgo, if_true]
    exact key (sNg s) 0 (by omega) (fun i hi => by omega)
  · have := bI_0.mp q
    refine no ?_
    unfold vtN
    simp only [hs, hp, hk]
    cases hv : inN v 100 with
    | none => rfl
    | some d => rw [hv] at this; cases this
def ovN (s : StT) : Nat := smF (sNg s) (fun g => if 7 < gPh (gmO s g) then 1 else 0)
def aCount (s : StT) (w : Int32) : Int32 := match inN w 5 with
  | none => -1
  | some v => if v = 0 then nI (sNl s) else if v = 1 then nI (sNp s) else if v = 2 then nI (sNg s) else if v = 3 then nI (ovN s) else nI (sZ s)
theorem rf_count {dd : Nat} {w : Int32} (hd : 28 ≤ dd) (hR : RI M s) (h : ∀ B, Fr scS M B → RI B s → Q (some (vI (aCount s w))) B) : Cl X dd 0 0 m_X11_count [vR 75, vI w] M Q := by
  have h8 := hR.2.1.2.2.2.1
  have key : ∀ r g (B : Mem), g + r = sNg s → Fr scS M B → RI B s → WA X dd 0 0 m_X11_count 4 [some (vR 75), some (vI w), some (vI (nI (smF g (fun g => if 7 < gPh (gmO s g) then 1 else 0)))), some (vI (nI g))] [] B Q := by
    intro r
    induction r with
    | zero =>
      intro g B hg hF hRB
      obtain rfl : g = sNg s := by omega
      have h9 := h B hF hRB
      unfold aCount inN at h9
      refine b_X11_count_4 hRB.1 (by omega) ⟨fun _ => ?_, fun q => absurd (by rw [hRB.2.2.2.2.2.1, na_le (by omega) (by omega)]; omega) q⟩
      rw [hRB.2.2.2.1.1, hRB.2.2.2.2.1.1, hRB.2.2.2.2.2.1, hRB.2.2.1.1]
      refine ⟨fun q => ?_, fun q => ?_, fun q => ?_, fun q => ?_, fun q => ?_, fun q => ?_⟩
      · rw [if_neg (by omega)] at h9; exact h9
      · rw [if_pos (by omega), q] at h9; exact h9
      · rw [if_pos (by omega), q] at h9; exact h9
      · rw [if_pos (by omega), q] at h9; exact h9
      · rw [if_pos (by omega), q] at h9; exact h9
      · rw [if_pos (by omega), q] at h9; exact h9
    | succ r ih =>
      intro g B hg hF hRB
      obtain ⟨o1, -⟩ := GOKs hRB (show g < sNg s by omega)
      have hph := o1.1
      refine b_X11_count_4 hRB.1 (by omega) ⟨fun q => ?_, fun _ => sp_goThrough (by omega) hRB (by omega) (fun B2 hF2 hR2 hH hG => ⟨rfl, hF2.ext, ?_⟩)⟩
      · rw [hRB.2.2.2.2.2.1, na_le (by omega) (by omega)] at q; omega
      rw [hG.2.2.2.2.2.1, na_le (by omega) (by omega)]
      have hn := ih (g + 1) B2 (by omega) (hF.trans hF2) hR2
      simp only [smF] at hn
      refine ⟨fun q x1 e1 => ?_, fun q x2 e2 => ?_⟩
      · rw [if_neg (by omega), Nat.add_zero] at hn
        rw [e1, add0, nI_add]; exact hn
      · rw [if_pos (by omega)] at hn
        rw [e2, nI_add, nI_add]; exact hn
  exact e_X11_count (b_X11_count_0 hR.1 (key (sNg s) 0 M (by omega) Fr.refl hR))
/-- both a land and a protocol -/
def bothN (s : StT) (l p : Int32) : Option (Nat × Nat) := match inN l (sNl s) with
  | none => none
  | some a => match inN p (sNp s) with
    | none => none
    | some b => some (a, b)
theorem bothN_some {l p : Int32} {q : Nat × Nat} (hR : RI M s) (h : bothN s l p = some q) : l = nI q.1 ∧ q.1 < sNl s ∧ p = nI q.2 ∧ q.2 < sNp s := by
  have h6 := hR.2.1.2.1.1
  have h8 := hR.2.1.2.2.1.1
  unfold bothN at h
  cases h1 : inN l (sNl s) with
  | none => rw [h1] at h; cases h
  | some a =>
    rw [h1] at h
    dsimp only at h
    cases h2 : inN p (sNp s) with
    | none => rw [h2] at h; cases h
    | some b =>
      rw [h2] at h
      cases h
      obtain ⟨a1, a2⟩ := inN_some (by omega) h1
      obtain ⟨b1, b2⟩ := inN_some (by omega) h2
      exact ⟨a1, a2, b1, b2⟩
theorem sp_isBoth {dd : Nat} {l p : Int32} (hd : 2 ≤ dd) (hR : RI M s) (h : Q (some (vI (bI (bothN s l p).isSome))) M) : Cl X dd 0 0 m_X11_isBoth [vR 75, vI l, vI p] M Q := by
  have h6 := hR.2.1.2.1.1
  have h8 := hR.2.1.2.2.1.1
  unfold bothN at h
  refine e_X11_isBoth (b_X11_isBoth_0 hR.1 (by omega) (sp_isLand (by omega) hR.1 hR.lds.1 (by omega) ?_))
  rcases isG (g := l) (show sNl s ≤ 8 by omega) with ⟨k, e1, e2, e3, e4⟩ | ⟨e1, e4⟩
  · rw [e1] at h
    dsimp only at h
    refine ⟨_, rfl, Ext.refl _, fun q => by rw [e4] at q; exact absurd q (by decide), fun _ => sp_inN (n := sNp s) (by omega) (by rw [hR.2.2.2.2.1.1]) ?_⟩
    rcases isG (g := p) h8 with ⟨j, f1, f2, f3, f4⟩ | ⟨f1, f4⟩
    · rw [f1] at h
      exact ⟨_, rfl, Ext.refl _, fun q => by rw [f4] at q; exact absurd q (by decide), fun _ => h⟩
    · rw [f1] at h
      exact ⟨_, rfl, Ext.refl _, fun _ => h, fun q => absurd f4 q⟩
  · rw [e1] at h
    exact ⟨_, rfl, Ext.refl _, fun _ => h, fun q => absurd e4 q⟩
theorem sp_sureOf {dd l p g : Nat} {ot : Bool} (hd : 58 ≤ dd) (hR : RI M s) (hl : l < sNl s) (hp : p < sNp s) (hg : g < 3) (h : ∀ B, Fr scS M B → RI B s → Q (some (vI (zI (vnF (sLs s l) (sPs s p) g ot (stG (sLs s l) (sPs s p)))))) B) : Cl X dd 0 0 m_X11_sureOf [vR 75, vI (nI l), vI (nI p), vI (nI g), vI (bI ot)] M Q := by
  have h6 := hR.2.1.2.1.1
  have h8 := hR.2.1.2.2.1.1
  obtain ⟨hO, hL⟩ := hR.lds.2.2 l hl
  have hPO := hR.2.1.2.2.1.2 p hp
  refine e_X11_sureOf (b_X11_sureOf_0 hR.1 (by omega) (sp_startGame (by omega) hR.1 (by omega) hL hO (by omega) hPO (hR.2.2.2.2.1.2 p hp) (fun B hF hH hG => ⟨rfl, hF.ext, ?_⟩)))
  have hRB := hR.sc hF
  refine sp_begin hRB.1 (fun B2 hF2 h36 h80 => ⟨rfl, hF2.ext, ?_⟩)
  have hVG := VGof hH (by omega) hPO (hRB.2.2.2.2.1.2 p hp) hG (stG_ok hO hPO).1 hg hF2 h36 h80
  exact sp_valueNow (by omega) hVG (fun B3 hF3 _ => ⟨_, rfl, hF3.ext, h B3 ((hF.trans (ssS_sc hF2)).trans (ssS_sc hF3)) ((hRB.sc (ssS_sc hF2)).sc (ssS_sc hF3))⟩)
def aSure (s : StT) (l p g : Int32) : Int32 := match bothN s l p with
  | none => -100
  | some q => match inN g 3 with
    | none => -100
    | some o => zI (vnF (sLs s q.1) (sPs s q.2) o false (stG (sLs s q.1) (sPs s q.2)))
theorem rf_sure {dd : Nat} {l p g : Int32} (hd : 60 ≤ dd) (hR : RI M s) (h : ∀ B, Fr scS M B → RI B s → Q (some (vI (aSure s l p g))) B) : Cl X dd 0 0 m_X11_sure [vR 75, vI l, vI p, vI g] M Q := by
  unfold aSure at h
  refine e_X11_sure (b_X11_sure_0 hR.1 (by omega) (sp_isBoth (by omega) hR ⟨_, rfl, Ext.refl _, fun q => ?_, fun q => ?_⟩))
  · have := bI_0.mp q
    cases hb : bothN s l p with
    | none => rw [hb] at h; exact h M Fr.refl hR
    | some y => rw [hb] at this; cases this
  · have := bI_n0.mp q
    cases hb : bothN s l p with
    | none => rw [hb] at this; cases this
    | some y =>
      rw [hb] at h
      dsimp only at h
      obtain ⟨e1, e2, e3, e4⟩ := bothN_some hR hb
      refine sp_isGoal (by omega) ?_
      rcases isG (g := g) (show 3 ≤ 8 by decide) with ⟨j, f1, f2, f3, f4⟩ | ⟨f1, f4⟩
      · rw [f1] at h
        dsimp only at h
        refine ⟨_, rfl, Ext.refl _, fun q => by rw [f4] at q; exact absurd q (by decide), fun _ => ?_⟩
        rw [e1, e3, f2]
        exact sp_sureOf (ot := false) (by omega) hR e2 e4 f3 (fun B hF hRB => ⟨_, rfl, hF.ext, h B hF hRB⟩)
      · rw [f1] at h
        exact ⟨_, rfl, Ext.refl _, fun _ => h M Fr.refl hR, fun q => absurd f4 q⟩
def aFirst (s : StT) (l p : Int32) : Int32 := match bothN s l p with
  | none => -100
  | some q => zI (vnF (sLs s q.1) (sPs s q.2) 0 false (stG (sLs s q.1) (sPs s q.2)) - vnF (sLs s q.1) (sPs s q.2) 0 true (stG (sLs s q.1) (sPs s q.2)))
theorem rf_first {dd : Nat} {l p : Int32} (hd : 60 ≤ dd) (hR : RI M s) (h : ∀ B, Fr scS M B → RI B s → Q (some (vI (aFirst s l p))) B) : Cl X dd 0 0 m_X11_first [vR 75, vI l, vI p] M Q := by
  unfold aFirst at h
  refine e_X11_first (b_X11_first_0 hR.1 (by omega) (sp_isBoth (by omega) hR ⟨_, rfl, Ext.refl _, fun q => ?_, fun q => ?_⟩))
  · have := bI_0.mp q
    cases hb : bothN s l p with
    | none => rw [hb] at h; exact h M Fr.refl hR
    | some y => rw [hb] at this; cases this
  · have := bI_n0.mp q
    cases hb : bothN s l p with
    | none => rw [hb] at this; cases this
    | some y =>
      rw [hb] at h
      dsimp only at h
      obtain ⟨e1, e2, e3, e4⟩ := bothN_some hR hb
      rw [e1, e3]
      refine sp_sureOf (ot := false) (by omega) hR e2 e4 (by decide) (fun B hF hRB => ⟨_, rfl, hF.ext, ?_⟩)
      refine sp_sureOf (ot := true) (by omega) hRB e2 e4 (by decide) (fun B2 hF2 hR2 => ⟨_, rfl, hF2.ext, ?_⟩)
      rw [zI_sub]
      exact h B2 (hF.trans hF2) hR2
end REST
