/-! THE REFERENCE: questions about games -/
def gsS (g a k : Nat) : Prop := ((a = 97 ∨ a = 98 ∨ a = 101) ∧ k = g) ∨ ((a = 99 ∨ a = 100) ∧ 12 * g ≤ k ∧ k < 12 * g + 12)
def gcS (g a k : Nat) : Prop := gsS g a k ∨ scS a k
def updG (s : StT) (g : Nat) (G : Nat × Nat × List Nat) : StT := (s.1, s.2.1, s.2.2.1, (sNg s, fun i => if i = g then G else sGs s i))
theorem gcS_rf {M B : Mem} {g : Nat} (h : Fr (gcS g) M B) : Fr rfS M B := h.mono (fun a k q => by unfold gcS gsS scS at q; unfold rfS; omega)
theorem sc_gc {M B : Mem} {g : Nat} (h : Fr scS M B) : Fr (gcS g) M B := h.mono (fun a k q => Or.inr q)
theorem rGam_len {M : Mem} {s : StT} (hR : RI M s) {g : Nat} (hg : g < sNg s) : (sGs s g).2.2.length ≤ 8 := by
  obtain ⟨y1, y2, y3⟩ := hR.2.1.2.2.2.2 g hg
  have hO := hR.2.1.2.1.2 _ y1
  have := (pl_ok hO (hR.2.1.2.2.1.2 _ y2) _ _ rfl y3).2.2
  have := hO.2.1.2.1
  omega
theorem rGam.gc {M B : Mem} {s : StT} {i g : Nat} (h : rGam M i s) (hF : Fr (gcS g) M B) (hne : i ≠ g) (hlen : (sGs s i).2.2.length ≤ 8) : rGam B i s := by
  obtain ⟨g1, g2, g3, g4, g5⟩ := h
  exact ⟨(hF.at (by unfold gcS gsS scS; omega)).trans g1, (hF.at (by unfold gcS gsS scS; omega)).trans g2, (hF.at (by unfold gcS gsS scS; omega)).trans g3, g4.fr hF (fun k _ => by unfold gcS gsS scS; omega), fun k hk => (hF.at (by unfold gcS gsS scS; omega)).trans (g5 k hk)⟩
theorem RI.set {M B : Mem} {s : StT} {g ng : Nat} {G : Nat × Nat × List Nat} (hR : RI M s) (hF : ∀ a k, ¬ (gcS g a k ∨ (a = 75 ∧ k = 51)) → mI B a k = mI M a k) (hE : B.2 = M.2) (hng : sNg s ≤ ng ∧ ng ≤ 8) (hgn : ∀ i, i < ng → i = g ∨ i < sNg s) (h51 : mI B 75 51 = nI ng) (hG : G.1 < sNl s ∧ G.2.1 < sNp s ∧ lgM (sLs s G.1) (sPs s G.2.1) G.2.2)
    (hB : mI B 97 g = nI G.1 ∧ mI B 98 g = nI G.2.1 ∧ mI B 101 g = nI G.2.2.length ∧ stL B 99 (12 * g) G.2.2 ∧ ∀ k, k ≤ G.2.2.length → mI B 100 (12 * g + k) = nI (gPh (plG (sLs s G.1) (sPs s G.2.1) (G.2.2.take k)))) : RI B (s.1, s.2.1, s.2.2.1, (ng, fun i => if i = g then G else sGs s i)) := by
  have hFr : Fr (fun a k => gcS g a k ∨ (a = 75 ∧ k = 51)) M B := ⟨hF, hE⟩
  obtain ⟨h1, h2, h3, h4, h5, h6, h7⟩ := hR
  have hR' : RI M s := ⟨h1, h2, h3, h4, h5, h6, h7⟩
  refine ⟨h1.fr hFr, ⟨h2.1, h2.2.1, h2.2.2.1, hng.2, fun i hi => ?_⟩, h3.fr hFr (by unfold gcS gsS scS; omega) (fun i => by unfold gcS gsS scS; omega), ⟨(hFr.at (by unfold gcS gsS scS; omega)).trans h4.1, fun l hl => (h4.2 l hl).fr hFr (fun a i a1 a2 => by unfold gcS gsS scS; omega)⟩, ⟨(hFr.at (by unfold gcS gsS scS; omega)).trans h5.1, fun p hp => (h5.2 p hp).fr hFr (fun a i a1 a2 => by unfold gcS gsS scS; omega)⟩, h51, fun i hi => ?_⟩
  · show (if i = g then G else sGs s i).1 < sNl s ∧ (if i = g then G else sGs s i).2.1 < sNp s ∧ lgM (sLs s (if i = g then G else sGs s i).1) (sPs s (if i = g then G else sGs s i).2.1) (if i = g then G else sGs s i).2.2
    by_cases hq : i = g
    · rw [if_pos hq]; exact hG
    · rw [if_neg hq]
      exact h2.2.2.2.2 i ((hgn i hi).resolve_left hq)
  · show mI B 97 i = nI (if i = g then G else sGs s i).1 ∧ mI B 98 i = nI (if i = g then G else sGs s i).2.1 ∧ mI B 101 i = nI (if i = g then G else sGs s i).2.2.length ∧ stL B 99 (12 * i) (if i = g then G else sGs s i).2.2 ∧ ∀ k, k ≤ (if i = g then G else sGs s i).2.2.length → mI B 100 (12 * i + k) = nI (gPh (plG (sLs s (if i = g then G else sGs s i).1) (sPs s (if i = g then G else sGs s i).2.1) ((if i = g then G else sGs s i).2.2.take k)))
    by_cases hq : i = g
    · subst hq
      simp only [if_true]
      exact hB
    · rw [if_neg hq]
      have hi' := (hgn i hi).resolve_left hq
      have hlen := rGam_len hR' hi'
      obtain ⟨g1, g2, g3, g4, g5⟩ := h7 i hi'
      exact ⟨(hFr.at (by unfold gcS gsS scS; omega)).trans g1, (hFr.at (by unfold gcS gsS scS; omega)).trans g2, (hFr.at (by unfold gcS gsS scS; omega)).trans g3, g4.fr hFr (fun k _ => by unfold gcS gsS scS; omega), fun k hk => (hFr.at (by unfold gcS gsS scS; omega)).trans (g5 k hk)⟩
section GAPI
variable {X : Cx} {s : StT} {M : Mem} {Q : Option AV → Mem → Prop}
theorem sp_isGame {dd : Nat} {g : Int32} (hd : 1 ≤ dd) (hR : RI M s) (h : Q (some (vI (bI (inN g (sNg s)).isSome))) M) : Cl X dd 0 0 m_X11_isGame [vR 75, vI g] M Q := by
  have h8 := hR.2.1.2.2.2.1
  exact e_X11_isGame (b_X11_isGame_0 hR.1 hd (sp_inN (n := sNg s) (by omega) (by rw [hR.2.2.2.2.2.1]) ⟨_, rfl, Ext.refl _, bI_B _, h⟩))
theorem sp_isGoal {dd : Nat} {g : Int32} (hd : 1 ≤ dd) (h : Q (some (vI (bI (inN g 3).isSome))) M) : Cl X dd 0 0 m_X11_isGoal [vI g] M Q :=
  e_X11_isGoal (b_X11_isGoal_0 hd (sp_inN (n := 3) (by decide) (by decide) ⟨_, rfl, Ext.refl _, bI_B _, h⟩))
/-- a game's number, if there is such a one -/
theorem isG {g : Int32} {n : Nat} (hn : n ≤ 8) : (∃ k, inN g n = some k ∧ g = nI k ∧ k < n ∧ bI (inN g n).isSome = nI 1) ∨ (inN g n = none ∧ bI (inN g n).isSome = nI 0) := by
  cases hc : inN g n with
  | none => exact Or.inr ⟨rfl, rfl⟩
  | some k =>
    obtain ⟨a, b⟩ := inN_some (by omega) hc
    exact Or.inl ⟨k, rfl, a, b, rfl⟩
theorem GOKs (hR : RI M s) {g : Nat} (hg : g < sNg s) : GOK (sLs s (sGs s g).1) (sPs s (sGs s g).2.1) (gmO s g) ∧ GCV (sLs s (sGs s g).1) (gmO s g) ∧ LdOK (sLs s (sGs s g).1) ∧ ProOK (sPs s (sGs s g).2.1) ∧ (sGs s g).1 < sNl s ∧ (sGs s g).2.1 < sNp s ∧ sNl s ≤ 6 ∧ sNp s ≤ 8 ∧ gLe (gmO s g) ≤ 4 := by
  obtain ⟨y1, y2, y3⟩ := hR.2.1.2.2.2.2 g hg
  have hO := hR.2.1.2.1.2 _ y1
  have hP := hR.2.1.2.2.1.2 _ y2
  obtain ⟨a, b, -⟩ := pl_ok hO hP _ _ rfl y3
  have := hO.2.1.2.1
  have := a.2.2.1
  exact ⟨a, b, hO, hP, y1, y2, hR.2.1.2.1.1, hR.2.1.2.2.1.1, by show gLe (plG _ _ _) ≤ 4; omega⟩
def aPhase (s : StT) (g : Int32) : Int32 := match inN g (sNg s) with
  | none => -1
  | some k => nI (gPh (gmO s k))
theorem rf_phase {dd : Nat} {g : Int32} (hd : 28 ≤ dd) (hR : RI M s) (h : ∀ B, Fr scS M B → RI B s → Q (some (vI (aPhase s g))) B) : Cl X dd 0 0 m_X11_phase [vR 75, vI g] M Q := by
  have h8 := hR.2.1.2.2.2.1
  unfold aPhase at h
  refine e_X11_phase (b_X11_phase_0 hR.1 (by omega) (sp_isGame (by omega) hR ?_))
  rcases isG (g := g) h8 with ⟨k, e1, e2, e3, e4⟩ | ⟨e1, e4⟩
  · rw [e1] at h
    subst e2
    refine ⟨_, rfl, Ext.refl _, fun _ => sp_goThrough (by omega) hR e3 (fun B hF hRB hH hG => ⟨rfl, hF.ext, ?_⟩), fun q => by rw [e4] at q; exact absurd q (by decide)⟩
    rw [hG.2.2.2.2.2.1]
    exact h B hF hRB
  · rw [e1] at h
    exact ⟨_, rfl, Ext.refl _, fun q => absurd e4 q, fun _ => h M Fr.refl hR⟩
def aTurn (s : StT) (g : Int32) : Int32 := match inN g (sNg s) with
  | none => -1
  | some k => if 7 < gPh (gmO s k) then -1 else nI (moF (sPs s (sGs s k).2.1) false (gmO s k))
theorem rf_turn {dd : Nat} {g : Int32} (hd : 28 ≤ dd) (hR : RI M s) (h : ∀ B, Fr scS M B → RI B s → Q (some (vI (aTurn s g))) B) : Cl X dd 0 0 m_X11_turn [vR 75, vI g] M Q := by
  have h8 := hR.2.1.2.2.2.1
  unfold aTurn at h
  refine e_X11_turn (b_X11_turn_0 hR.1 (by omega) (sp_isGame (by omega) hR ?_))
  rcases isG (g := g) h8 with ⟨k, e1, e2, e3, e4⟩ | ⟨e1, e4⟩
  · rw [e1] at h
    dsimp only at h
    subst e2
    obtain ⟨o1, o2, o3, o4, o5, o6, o7, o8, o9⟩ := GOKs hR e3
    refine ⟨_, rfl, Ext.refl _, fun _ => sp_goThrough (by omega) hR e3 (fun B hF hRB hH hG => ⟨rfl, hF.ext, ?_⟩), fun q => by rw [e4] at q; exact absurd q (by decide)⟩
    have hph := o1.1
    rw [hG.2.2.2.2.2.1, na_le (by omega) (by omega)]
    refine ⟨fun q => ?_, fun q => ?_⟩
    · rw [if_neg (by omega)] at h
      exact sp_mover (by omega) hRB.1 (by omega) o4 (hRB.2.2.2.2.1.2 _ o6) hG o1 ⟨_, rfl, Ext.refl _, h B hF hRB⟩
    · rw [if_pos (by omega)] at h
      exact h B hF hRB
  · rw [e1] at h
    exact ⟨_, rfl, Ext.refl _, fun q => absurd e4 q, fun _ => h M Fr.refl hR⟩
def aKept (s : StT) (g i : Int32) : Int32 := match inN g (sNg s) with
  | none => -1
  | some k => if i = -1 then nI (gKe (gmO s k)).length else match inN i (gKe (gmO s k)).length with
    | none => -1
    | some j => nI ((gKe (gmO s k)).getD j 0)
theorem rf_kept {dd : Nat} {g i : Int32} (hd : 28 ≤ dd) (hR : RI M s) (h : ∀ B, Fr scS M B → RI B s → Q (some (vI (aKept s g i))) B) : Cl X dd 0 0 m_X11_kept [vR 75, vI g, vI i] M Q := by
  have h8 := hR.2.1.2.2.2.1
  unfold aKept at h
  refine e_X11_kept (b_X11_kept_0 hR.1 (by omega) (sp_isGame (by omega) hR ?_))
  rcases isG (g := g) h8 with ⟨k, e1, e2, e3, e4⟩ | ⟨e1, e4⟩
  · rw [e1] at h
    dsimp only at h
    subst e2
    obtain ⟨o1, o2, o3, o4, o5, o6, o7, o8, o9⟩ := GOKs hR e3
    have hs4 := o3.2.1.2.1
    have hk3 := o1.2.2.1
    refine ⟨_, rfl, Ext.refl _, fun _ => sp_goThrough (by omega) hR e3 (fun B hF hRB hH hG => ⟨rfl, hF.ext, fun q => ?_, fun q => ?_⟩), fun q => by rw [e4] at q; exact absurd q (by decide)⟩
    · rw [if_neg q] at h
      refine sp_inN (n := (gKe (gmO s k)).length) (by omega) (by rw [hG.2.2.2.2.2.2.1]) ⟨_, rfl, Ext.refl _, fun q3 => ?_, fun q3 => ?_⟩
      · have := bI_0.mp q3
        cases hj : inN i (gKe (gmO s k)).length with
        | none => rw [hj] at h; exact h B hF hRB
        | some j => rw [hj] at this; cases this
      · have := bI_n0.mp q3
        cases hj : inN i (gKe (gmO s k)).length with
        | none => rw [hj] at this; cases this
        | some j =>
          rw [hj] at h
          obtain ⟨g1, g2⟩ := inN_some (by omega) hj
          subst g1
          have hjj : (gKe (gmO s k))[j]? = some ((gKe (gmO s k)).getD j 0) := by
            simp only [List.getD]
            rw [List.getElem?_eq_getElem g2]; rfl
          have e := hG.2.2.2.2.2.2.2.1 _ _ hjj
          rw [Nat.zero_add] at e
          rw [na_ix (by omega), e]
          exact ⟨na_in (by omega) (by omega), h B hF hRB⟩
    · rw [if_pos q] at h
      rw [hG.2.2.2.2.2.2.1]
      exact h B hF hRB
  · rw [e1] at h
    exact ⟨_, rfl, Ext.refl _, fun q => absurd e4 q, fun _ => h M Fr.refl hR⟩
theorem VGof {B : Mem} {l p g : Nat} {L : LandT} {P : ProT} {ot : Bool} {G : GamT} (hH : rH B l L) (hp : p < 9) (hO : ProOK P) (hP : rPro B p P) (hG : rGS B p ot G) (hK : GOK L P G) (hg : g < 3) {B2 : Mem} (hF : Fr ssS B B2) (h36 : mI B2 75 36 = nI g) (h80 : ∀ k, k < 2560 → mI B2 95 k = nI 0) : VG B2 l p L P g ot G := by
  have hG2 := hG.ss hF
  refine ⟨⟨hH.ss hF, hp, hO, hP.sc (ssS_sc hF), hG2.1, hG2.2.1, h36, hg, fun m o hm ho hk => absurd (h80 _ (by omega)) hk⟩, hG2, hK⟩
def aBest (s : StT) (g o : Int32) : Int32 := match inN g (sNg s) with
  | none => -1
  | some k => match inN o 3 with
    | none => -1
    | some q => if 7 < gPh (gmO s k) then -1 else oI ((sbF (sLs s (sGs s k).1) (sPs s (sGs s k).2.1) q false (gmO s k)).map (·.2))
theorem rf_best {dd : Nat} {g o : Int32} (hd : 56 ≤ dd) (hR : RI M s) (h : ∀ B, Fr scS M B → RI B s → Q (some (vI (aBest s g o))) B) : Cl X dd 0 0 m_X11_best [vR 75, vI g, vI o] M Q := by
  have h8 := hR.2.1.2.2.2.1
  unfold aBest at h
  refine e_X11_best (b_X11_best_0 hR.1 (by omega) (sp_isGame (by omega) hR ?_))
  rcases isG (g := g) h8 with ⟨k, e1, e2, e3, e4⟩ | ⟨e1, e4⟩
  · rw [e1] at h
    dsimp only at h
    subst e2
    obtain ⟨o1, o2, o3, o4, o5, o6, o7, o8, o9⟩ := GOKs hR e3
    refine ⟨_, rfl, Ext.refl _, fun q => by rw [e4] at q; exact absurd q (by decide), fun _ => sp_isGoal (by omega) ?_⟩
    rcases isG (g := o) (show 3 ≤ 8 by decide) with ⟨j, f1, f2, f3, f4⟩ | ⟨f1, f4⟩
    · rw [f1] at h
      dsimp only at h
      subst f2
      refine ⟨_, rfl, Ext.refl _, fun _ => sp_goThrough (by omega) hR e3 (fun B hF hRB hH hG => ⟨rfl, hF.ext, ?_⟩), fun q => by rw [f4] at q; exact absurd q (by decide)⟩
      have hph := o1.1
      rw [hG.2.2.2.2.2.1, na_le (by omega) (by omega)]
      refine ⟨fun q => ?_, fun q => ?_⟩
      · rw [if_neg (by omega)] at h
        refine sp_begin hRB.1 (fun B2 hF2 h36 h80 => ⟨rfl, hF2.ext, ?_⟩)
        have hVG := VGof hH (by omega) o4 (hRB.2.2.2.2.1.2 _ o6) hG o1 f3 hF2 h36 h80
        refine sp_seekBest (by omega) hVG (by omega) (fun B3 hF3 _ _ => ⟨_, rfl, hF3.ext, ?_⟩)
        exact h B3 ((hF.trans (ssS_sc hF2)).trans (ssS_sc hF3)) ((hRB.sc (ssS_sc hF2)).sc (ssS_sc hF3))
      · rw [if_pos (by omega)] at h
        exact h B hF hRB
    · rw [f1] at h
      exact ⟨_, rfl, Ext.refl _, fun q => absurd f4 q, fun _ => h M Fr.refl hR⟩
  · rw [e1] at h
    exact ⟨_, rfl, Ext.refl _, fun _ => h M Fr.refl hR, fun q => absurd e4 q⟩
def aValue (s : StT) (g o : Int32) : Int32 := match inN g (sNg s) with
  | none => -100
  | some k => match inN o 3 with
    | none => -100
    | some q => zI (vnF (sLs s (sGs s k).1) (sPs s (sGs s k).2.1) q false (gmO s k))
theorem rf_value {dd : Nat} {g o : Int32} (hd : 58 ≤ dd) (hR : RI M s) (h : ∀ B, Fr scS M B → RI B s → Q (some (vI (aValue s g o))) B) : Cl X dd 0 0 m_X11_value [vR 75, vI g, vI o] M Q := by
  have h8 := hR.2.1.2.2.2.1
  unfold aValue at h
  refine e_X11_value (b_X11_value_0 hR.1 (by omega) (sp_isGame (by omega) hR ?_))
  rcases isG (g := g) h8 with ⟨k, e1, e2, e3, e4⟩ | ⟨e1, e4⟩
  · rw [e1] at h
    dsimp only at h
    subst e2
    obtain ⟨o1, o2, o3, o4, o5, o6, o7, o8, o9⟩ := GOKs hR e3
    refine ⟨_, rfl, Ext.refl _, fun q => by rw [e4] at q; exact absurd q (by decide), fun _ => sp_isGoal (by omega) ?_⟩
    rcases isG (g := o) (show 3 ≤ 8 by decide) with ⟨j, f1, f2, f3, f4⟩ | ⟨f1, f4⟩
    · rw [f1] at h
      dsimp only at h
      subst f2
      refine ⟨_, rfl, Ext.refl _, fun _ => sp_goThrough (by omega) hR e3 (fun B hF hRB hH hG => ⟨rfl, hF.ext, ?_⟩), fun q => by rw [f4] at q; exact absurd q (by decide)⟩
      refine sp_begin hRB.1 (fun B2 hF2 h36 h80 => ⟨rfl, hF2.ext, ?_⟩)
      have hVG := VGof hH (by omega) o4 (hRB.2.2.2.2.1.2 _ o6) hG o1 f3 hF2 h36 h80
      refine sp_valueNow (by omega) hVG (fun B3 hF3 _ => ⟨_, rfl, hF3.ext, ?_⟩)
      exact h B3 ((hF.trans (ssS_sc hF2)).trans (ssS_sc hF3)) ((hRB.sc (ssS_sc hF2)).sc (ssS_sc hF3))
    · rw [f1] at h
      exact ⟨_, rfl, Ext.refl _, fun q => absurd f4 q, fun _ => h M Fr.refl hR⟩
  · rw [e1] at h
    exact ⟨_, rfl, Ext.refl _, fun _ => h M Fr.refl hR, fun q => absurd e4 q⟩
def gameS (s : StT) (l p : Int32) : StT := match inN l (sNl s) with
  | none => s
  | some k => match inN p (sNp s) with
    | none => s
    | some j => if sNg s = 8 then s else (s.1, s.2.1, s.2.2.1, (sNg s + 1, fun i => if i = sNg s then (k, j, []) else sGs s i))
def aGame (s : StT) (l p : Int32) : Int32 := match inN l (sNl s) with
  | none => -1
  | some _ => match inN p (sNp s) with
    | none => -1
    | some _ => if sNg s = 8 then -1 else nI (sNg s)
theorem lgM_nil (L : LandT) (P : ProT) : lgM L P [] := fun k x hk => by simp at hk
theorem rf_game {dd : Nat} {l p : Int32} (hd : 26 ≤ dd) (hR : RI M s) (h : ∀ B, Fr rfS M B → RI B (gameS s l p) → Q (some (vI (aGame s l p))) B) : Cl X dd 0 0 m_X11_game [vR 75, vI l, vI p] M Q := by
  have h8 := hR.2.1.2.2.2.1
  have hl := hR.lds
  have h6 := hl.2.1
  have hp8 := hR.2.1.2.2.1.1
  unfold gameS aGame at h
  refine e_X11_game (b_X11_game_0 hR.1 (by omega) (sp_isLand (by omega) hR.1 hl.1 (by omega) ?_))
  rcases isG (g := l) (show sNl s ≤ 8 by omega) with ⟨k, e1, e2, e3, e4⟩ | ⟨e1, e4⟩
  · rw [e1] at h
    dsimp only at h
    subst e2
    refine ⟨_, rfl, Ext.refl _, fun q => by rw [e4] at q; exact absurd q (by decide), fun _ => sp_inN (n := sNp s) (by omega) (by rw [hR.2.2.2.2.1.1]) ?_⟩
    rcases isG (g := p) hp8 with ⟨j, f1, f2, f3, f4⟩ | ⟨f1, f4⟩
    · rw [f1] at h
      dsimp only at h
      subst f2
      refine ⟨_, rfl, Ext.refl _, fun q => by rw [f4] at q; exact absurd q (by decide), fun _ => ?_⟩
      rw [hR.2.2.2.2.2.1, na_eq (by omega) (by omega)]
      refine ⟨fun q => ?_, fun q => ?_⟩
      · rw [if_neg q, if_neg q] at h
        have hin : vp_in (nI (sNg s)) 8 := na_in (by omega) (by omega)
        have hx : ix (nI (sNg s)) = sNg s := na_ix (by omega)
        refine ⟨hin, fun M3 e3' => ?_⟩
        rw [hx] at e3'
        have f51 : mI M3 75 51 = nI (sNg s) := by rw [e3', mI_sI_a (by decide)]; exact hR.2.2.2.2.2.1
        rw [f51]
        refine ⟨hin, fun M4 e4' => ?_⟩
        rw [hx] at e4'
        have g51 : mI M4 75 51 = nI (sNg s) := by rw [e4', mI_sI_a (by decide)]; exact f51
        rw [g51]
        refine ⟨hin, fun M5 e5' => ?_⟩
        rw [hx] at e5'
        have hF5 : Fr (gcS (sNg s)) M M5 := by
          rw [e5', e4', e3']
          exact ((Fr.sI (by unfold gcS gsS; omega)).trans (Fr.sI (by unfold gcS gsS; omega))).trans (Fr.sI (by unfold gcS gsS; omega))
        obtain ⟨hO, hL⟩ := hl.2.2 k e3
        have hPO := hR.2.1.2.2.1.2 j f3
        refine sp_startGame (ot := false) (by omega) (hR.1.fr hF5) (by omega) (hL.fr hF5 (fun a i a1 a2 => by unfold gcS gsS scS; omega)) hO (by omega) hPO ((hR.2.2.2.2.1.2 j f3).fr hF5 (fun a i a1 a2 => by unfold gcS gsS scS; omega)) (fun B hF hH hG => ⟨rfl, hF.ext, ?_⟩)
        have hF5B : Fr (gcS (sNg s)) M B := hF5.trans (sc_gc hF)
        have b51 : mI B 75 51 = nI (sNg s) := by rw [hF.at (by unfold scS; omega), e5', mI_sI_a (by decide)]; exact g51
        rw [b51, pk_mul, na_ix (by omega), hG.2.2.2.2.2.1]
        refine ⟨na_in (by omega) (by omega), fun M7 e7 M8 e8 => ?_⟩
        have m751 : mI M7 75 51 = nI (sNg s) := by rw [e7, mI_sI_a (by decide)]; exact b51
        have m851 : mI M8 75 51 = nI (sNg s + 1) := by rw [e8, mI_sI_eq, m751, nI_add]
        rw [m851, na_sub (by omega), Nat.add_sub_cancel]
        have hF7 : Fr (gcS (sNg s)) M M7 := by rw [e7]; exact hF5B.trans (Fr.sI (by unfold gcS gsS; omega))
        have hF8 : Fr (fun a k => gcS (sNg s) a k ∨ (a = 75 ∧ k = 51)) M M8 := by rw [e8]; exact (hF7.mono (fun a k q => Or.inl q)).trans (Fr.sI (Or.inr ⟨rfl, rfl⟩))
        have o8 : ∀ a i, a ≠ 75 → a ≠ 100 → mI M8 a i = mI M5 a i ∨ scS a i := fun a i ha hb => by
          by_cases hs : scS a i
          · exact Or.inr hs
          · left; rw [e8, mI_sI_a ha, e7, mI_sI_a hb, hF.at hs]
        refine h M8 (hF8.mono (fun a k q => by unfold gcS gsS scS at q; unfold rfS; omega)) (RI.set (g := sNg s) (ng := sNg s + 1) (G := (k, j, [])) hR hF8.1 hF8.2 ⟨by omega, by omega⟩ (fun i hi => by omega) m851 ⟨e3, f3, lgM_nil _ _⟩ ⟨?_, ?_, ?_, stL_nil, fun i hi => ?_⟩)
        · have := (o8 97 (sNg s) (by decide) (by decide)).resolve_right (by unfold scS; omega)
          rw [this, e5', mI_sI_a (by decide), e4', mI_sI_a (by decide), e3', mI_sI_eq]
        · have := (o8 98 (sNg s) (by decide) (by decide)).resolve_right (by unfold scS; omega)
          rw [this, e5', mI_sI_a (by decide), e4', mI_sI_eq]
        · have := (o8 101 (sNg s) (by decide) (by decide)).resolve_right (by unfold scS; omega)
          rw [this, e5', mI_sI_eq]; rfl
        · have hi0 : i = 0 := by have hi : i ≤ 0 := hi; omega
          subst hi0
          rw [e8, mI_sI_a (by decide), e7, Nat.add_zero, mI_sI_eq]; rfl
      · rw [if_pos q, if_pos q] at h; exact h M Fr.refl hR
    · rw [f1] at h
      exact ⟨_, rfl, Ext.refl _, fun _ => h M Fr.refl hR, fun q => absurd f4 q⟩
  · rw [e1] at h
    exact ⟨_, rfl, Ext.refl _, fun _ => h M Fr.refl hR, fun q => absurd e4 q⟩
def moveS (s : StT) (g x : Int32) : StT := match inN g (sNg s) with
  | none => s
  | some k => if mmB (sLs s (sGs s k).1) (gmO s k) x then updG s k ((sGs s k).1, (sGs s k).2.1, (sGs s k).2.2 ++ [x.toInt.toNat]) else s
def aMove (s : StT) (g x : Int32) : Int32 := match inN g (sNg s) with
  | none => nI 0
  | some k => bI (mmB (sLs s (sGs s k).1) (gmO s k) x)
theorem rf_move {dd : Nat} {g x : Int32} (hd : 28 ≤ dd) (hR : RI M s) (h : ∀ B, Fr rfS M B → RI B (moveS s g x) → Q (some (vI (aMove s g x))) B) : Cl X dd 0 0 m_X11_move [vR 75, vI g, vI x] M Q := by
  have h8 := hR.2.1.2.2.2.1
  unfold moveS aMove at h
  refine e_X11_move (b_X11_move_0 hR.1 (by omega) (sp_isGame (by omega) hR ?_))
  rcases isG (g := g) h8 with ⟨k, e1, e2, e3, e4⟩ | ⟨e1, e4⟩
  · rw [e1] at h
    dsimp only at h
    subst e2
    obtain ⟨o1, o2, o3, o4, o5, o6, o7, o8, o9⟩ := GOKs hR e3
    have hgm : gmO s k = plG (sLs s (sGs s k).1) (sPs s (sGs s k).2.1) (sGs s k).2.2 := rfl
    obtain ⟨y1, y2, y3⟩ := hR.2.1.2.2.2.2 k e3
    have hin : vp_in (nI k) 8 := na_in (by omega) (by omega)
    have hx : ix (nI k) = k := na_ix (by omega)
    refine ⟨_, rfl, Ext.refl _, fun _ => sp_goThrough (by omega) hR e3 (fun B hF hRB hH hG => ⟨rfl, hF.ext, sp_mayMove (by omega) hH hG o1 (fun B2 hF2 => ⟨_, rfl, hF2.ext, fun q => ?_, fun q => ?_⟩)⟩), fun q => by rw [e4] at q; exact absurd q (by decide)⟩
    · have hm := bI_n0.mp q
      rw [hm] at h
      simp only [if_true] at h
      obtain ⟨c, rfl, hc⟩ := mm_nat o3.1.2 o9 hm
      have hcx : (nI c).toInt.toNat = c := by rw [nI_toInt (by omega)]; rfl
      rw [hcx] at h
      obtain ⟨a1, a2, a3⟩ := mvG_ok o3 o4 o1 o2 (mm_8 hm) hc hm
      have hRB2 := hRB.sc (ssS_sc hF2)
      obtain ⟨z1, z2, z3, z4, z5⟩ := hRB2.2.2.2.2.2.2 k e3
      have hpl := (pl_ok o3 o4 _ _ rfl y3).2.2
      have hs4 := o3.2.1.2.1
      rw [← hgm] at hpl
      have hlen : (sGs s k).2.2.length ≤ 7 := by omega
      rw [hx, z3, pk_mul, nI_add]
      refine ⟨hin, na_in (by omega) (by omega), fun M4 e4' => ⟨hin, hin, fun M5 e5' => ?_⟩⟩
      rw [na_ix (by omega)] at e4'
      have z3' : mI M4 101 k = nI (sGs s k).2.2.length := by rw [e4', mI_sI_a (by decide)]; exact z3
      rw [z3', nI_add] at e5'
      have hF5 : Fr (gsS k) B2 M5 := by rw [e5', e4']; exact (Fr.sI (by unfold gsS; omega)).trans (Fr.sI (by unfold gsS; omega))
      have hH5 : rH M5 (sGs s k).1 (sLs s (sGs s k).1) := (hH.ss hF2).fr hF5 (fun a i b1 b2 => by unfold gsS; omega) (by unfold gsS; omega) (fun i => by unfold gsS; omega) (fun i => by unfold gsS; omega)
      have hG5 : rGS M5 (sGs s k).2.1 false (gmO s k) := by
        obtain ⟨w1, w2, w3, w4, w5, w6, w7, w8, w9, w10⟩ := hG.ss hF2
        have e : ∀ j, mI M5 75 j = mI B2 75 j := fun j => hF5.at (by unfold gsS; omega)
        exact ⟨(e _).trans w1, (e _).trans w2, (e _).trans w3, (e _).trans w4, (e _).trans w5, (e _).trans w6, (e _).trans w7, w8.fr hF5 (fun j _ => by unfold gsS; omega), fun q => (e _).trans (w9 q), fun q => (e _).trans (w10 q)⟩
      refine sp_makeMove (by omega) hH5 (by omega) o4 ((hRB2.2.2.2.2.1.2 _ o6).fr hF5 (fun a i b1 b2 => by unfold gsS; omega)) hG5 o1 (mm_8 hm) hc (Or.inl rfl) (fun B6 hF6 hH6 hG6 => ⟨rfl, hF6.ext, hin, ?_⟩)
      have e86 : mI B6 101 k = nI ((sGs s k).2.2.length + 1) := by rw [(sgS_sc hF6).at (by unfold scS; omega), e5', mI_sI_eq]
      rw [e86, nI_add, na_ix (by omega), hG6.2.2.2.2.2.1]
      refine ⟨na_in (by omega) (by omega), fun M7 e7 => ?_⟩
      have hFall : Fr (gcS k) M M7 := by
        rw [e7]
        exact ((((sc_gc hF).trans (sc_gc (ssS_sc hF2))).trans (hF5.mono (fun a k q => Or.inl q))).trans (sc_gc (sgS_sc hF6))).trans (Fr.sI (by unfold gcS gsS; omega))
      have hBt : Fr (gcS k) B2 M7 := by
        rw [e7]
        exact ((hF5.mono (T := gcS k) (fun a k q => Or.inl q)).trans (sc_gc (sgS_sc hF6))).trans (Fr.sI (by unfold gcS gsS; omega))
      have o7a : ∀ a i, a ≠ 100 → ¬ scS a i → mI M7 a i = mI M5 a i := fun a i ha hs => by rw [e7, mI_sI_a ha, (sgS_sc hF6).at hs]
      have o7b : ∀ i, i ≤ (sGs s k).2.2.length → mI M7 100 (12 * k + i) = mI B2 100 (12 * k + i) := fun i hi => by
        rw [e7, mI_sI_i (by omega), (sgS_sc hF6).at (by unfold scS; omega), e5', mI_sI_a (by decide), e4', mI_sI_a (by decide)]
      have hlg : lgM (sLs s (sGs s k).1) (sPs s (sGs s k).2.1) ((sGs s k).2.2 ++ [c]) := fun i v hv => by
        by_cases hi : i < (sGs s k).2.2.length
        · rw [List.getElem?_append_left hi] at hv
          rw [List.take_append_of_le_length (by omega)]
          exact y3 i v hv
        · have hi2 := (List.getElem?_eq_some_iff.mp hv).1
          rw [List.length_append] at hi2
          simp only [List.length_cons, List.length_nil] at hi2
          have hie : i = (sGs s k).2.2.length := by omega
          subst hie
          rw [List.getElem?_append_right (Nat.le_refl _)] at hv
          simp at hv
          subst hv
          rw [List.take_append_of_le_length (Nat.le_refl _), List.take_length]
          exact ⟨hm, hc⟩
      have hRM : RI M7 (updG s k ((sGs s k).1, (sGs s k).2.1, (sGs s k).2.2 ++ [c])) := by
        refine RI.set (g := k) (ng := sNg s) (G := ((sGs s k).1, (sGs s k).2.1, (sGs s k).2.2 ++ [c])) hR (fun a i hn => hFall.at (fun z => hn (Or.inl z))) hFall.2 ⟨Nat.le_refl _, h8⟩ (fun i hi => Or.inr hi) ((hFall.at (by unfold gcS gsS scS; omega)).trans hR.2.2.2.2.2.1) ⟨y1, y2, hlg⟩ ⟨?_, ?_, ?_, ?_, fun i hi => ?_⟩
        · rw [o7a _ _ (by decide) (by unfold scS; omega), e5', mI_sI_a (by decide), e4', mI_sI_a (by decide)]; exact z1
        · rw [o7a _ _ (by decide) (by unfold scS; omega), e5', mI_sI_a (by decide), e4', mI_sI_a (by decide)]; exact z2
        · rw [o7a _ _ (by decide) (by unfold scS; omega), e5', mI_sI_eq]
          dsimp only
          rw [List.length_append]; rfl
        · intro i v hv
          rw [o7a _ _ (by decide) (by unfold scS; omega), e5', mI_sI_a (by decide), e4']
          exact stL_snoc z4 i v hv
        · dsimp only at hi ⊢
          rw [List.length_append] at hi
          simp only [List.length_cons, List.length_nil] at hi
          by_cases hq : i ≤ (sGs s k).2.2.length
          · rw [o7b i hq, List.take_append_of_le_length hq]
            exact z5 i hq
          · have hie : i = (sGs s k).2.2.length + 1 := by omega
            subst hie
            rw [List.take_of_length_le (by rw [List.length_append]; exact Nat.le_refl _), plG_snoc]
            have : 12 * k + ((sGs s k).2.2.length + 1) = 12 * k + (sGs s k).2.2.length + 1 := by omega
            rw [e7]
            exact mI_sI_eq
      exact h M7 (gcS_rf hFall) hRM
    · have hm := bI_0.mp q
      rw [hm] at h
      simp only [Bool.false_eq_true, if_false] at h
      exact h B2 ((sc_rf hF).trans (sc_rf (ssS_sc hF2))) (hRB.sc (ssS_sc hF2))
  · rw [e1] at h
    exact ⟨_, rfl, Ext.refl _, fun q => absurd e4 q, fun _ => h M Fr.refl hR⟩
def undoS (s : StT) (g : Int32) : StT := match inN g (sNg s) with
  | none => s
  | some k => if (sGs s k).2.2.length = 0 then s else updG s k ((sGs s k).1, (sGs s k).2.1, (sGs s k).2.2.dropLast)
def aUndo (s : StT) (g : Int32) : Int32 := match inN g (sNg s) with
  | none => nI 0
  | some k => bI (decide ((sGs s k).2.2.length ≠ 0))
theorem rf_undo {dd : Nat} {g : Int32} (hd : 2 ≤ dd) (hR : RI M s) (h : ∀ B, Fr rfS M B → RI B (undoS s g) → Q (some (vI (aUndo s g))) B) : Cl X dd 0 0 m_X11_undo [vR 75, vI g] M Q := by
  have h8 := hR.2.1.2.2.2.1
  unfold undoS aUndo at h
  refine e_X11_undo (b_X11_undo_0 hR.1 (by omega) (sp_isGame (by omega) hR ?_))
  rcases isG (g := g) h8 with ⟨k, e1, e2, e3, e4⟩ | ⟨e1, e4⟩
  · rw [e1] at h
    dsimp only at h
    subst e2
    obtain ⟨y1, y2, y3⟩ := hR.2.1.2.2.2.2 k e3
    obtain ⟨z1, z2, z3, z4, z5⟩ := hR.2.2.2.2.2.2 k e3
    have hlen := rGam_len hR e3
    have hin : vp_in (nI k) 8 := na_in (by omega) (by omega)
    have hx : ix (nI k) = k := na_ix (by omega)
    refine ⟨_, rfl, Ext.refl _, fun q => by rw [e4] at q; exact absurd q (by decide), fun _ => ⟨hin, ?_⟩⟩
    rw [hx, z3, na_eq (by omega) (by omega)]
    refine ⟨fun q => ⟨hin, hin, fun M2 e2 => ?_⟩, fun q => ?_⟩
    · rw [if_neg q, decide_eq_true q] at h
      rw [na_sub (by omega)] at e2
      have hF : Fr (gcS k) M M2 := by rw [e2]; exact Fr.sI (by unfold gcS gsS; omega)
      have htk : ∀ i, i ≤ (sGs s k).2.2.dropLast.length → (sGs s k).2.2.dropLast.take i = (sGs s k).2.2.take i := fun i hi => by
        rw [List.dropLast_eq_take, List.take_take, Nat.min_eq_left]
        rw [List.length_dropLast] at hi; exact hi
      refine h M2 (gcS_rf hF) (RI.set (g := k) (ng := sNg s) (G := ((sGs s k).1, (sGs s k).2.1, (sGs s k).2.2.dropLast)) hR (fun a i hn => hF.at (fun z => hn (Or.inl z))) hF.2 ⟨Nat.le_refl _, h8⟩ (fun i hi => Or.inr hi) ((hF.at (by unfold gcS gsS scS; omega)).trans hR.2.2.2.2.2.1) ⟨y1, y2, ?_⟩ ⟨?_, ?_, ?_, ?_, fun i hi => ?_⟩)
      · have := lgM_take y3 ((sGs s k).2.2.length - 1)
        rw [← List.dropLast_eq_take] at this
        exact this
      · rw [e2, mI_sI_a (by decide)]; exact z1
      · rw [e2, mI_sI_a (by decide)]; exact z2
      · rw [e2, mI_sI_eq]; dsimp only; rw [List.length_dropLast]
      · intro i v hv
        rw [e2, mI_sI_a (by decide)]
        refine z4 i v ?_
        dsimp only at hv
        rw [List.dropLast_eq_take, List.getElem?_take] at hv
        split at hv
        · exact hv
        · cases hv
      · dsimp only at hi ⊢
        rw [htk i hi, e2, mI_sI_a (by decide)]
        rw [List.length_dropLast] at hi
        exact z5 i (by omega)
    · rw [if_pos q, decide_eq_false (fun z => z q)] at h
      exact h M Fr.refl hR
  · rw [e1] at h
    exact ⟨_, rfl, Ext.refl _, fun _ => h M Fr.refl hR, fun q => absurd e4 q⟩
end GAPI
