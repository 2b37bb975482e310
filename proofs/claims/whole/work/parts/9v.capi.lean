/-! THE CLASS: the object is asked -/
section API
variable {X : Cx} {d : Nat} {M : Mem} {s : StT} {T : AdT} {Q : Option AV → Mem → Prop}
theorem kp_in {x : Int32} {n : Nat} {h1 h2 h3 : Prop} (hn : n < 2 ^ 31) (a : inN x n = none → h1) (b : inN x n = none → h2) (c : ∀ k, inN x n = some k → x = nI k → k < n → h3) : ((x < nI 0 → h1) ∧ (¬ x < nI 0 → ((nI n ≤ x → h2) ∧ (¬ nI n ≤ x → h3)))) := by
  rw [toI_lt0, n_leI hn]
  have no : (x.toInt < 0 ∨ (n : Int) ≤ x.toInt) → inN x n = none := fun q => by unfold inN; rw [if_neg (by omega)]
  refine ⟨fun q => a (no (Or.inl q)), fun q0 => ⟨fun q => b (no (Or.inr q)), fun q => ?_⟩⟩
  have e : inN x n = some x.toInt.toNat := by unfold inN; rw [if_pos (by omega)]
  obtain ⟨e1, e2⟩ := inN_some hn e
  exact c _ e e1 e2
theorem kp_landAt {x : Int32} (h : CI M s T) (h1 : inN x (sNl s) = none → Q (some (vR 0)) M) (h2 : ∀ l, inN x (sNl s) = some l → l < sNl s → Q (some (vR (aLa T l))) M) : Cl X d 0 0 m_X10_landAt [vR 1, vI x] M Q := by
  have h6 := h.1.2.2.1.1
  refine e_X10_landAt (b_X10_landAt_0 h.1.1 ?_)
  rw [h.2.2.1.1.1]
  refine kp_in (by omega) h1 h1 (fun k e1 e2 e3 => ?_)
  rw [e2, na_ix (by omega), h.2.2.1.2.1 k e3]
  exact ⟨na_in (by omega) (by decide), h2 k e1 e3⟩
theorem kp_protocolAt {x : Int32} (h : CI M s T) (h1 : inN x (sNp s) = none → Q (some (vR 0)) M) (h2 : ∀ l, inN x (sNp s) = some l → l < sNp s → Q (some (vR (aPa T l))) M) : Cl X d 0 0 m_X10_protocolAt [vR 1, vI x] M Q := by
  have h6 := h.1.2.2.2.1.1
  refine e_X10_protocolAt (b_X10_protocolAt_0 h.1.1 ?_)
  rw [h.2.2.1.1.2.1]
  refine kp_in (by omega) h1 h1 (fun k e1 e2 e3 => ?_)
  rw [e2, na_ix (by omega), h.2.2.1.2.2.1 k e3]
  exact ⟨na_in (by omega) (by decide), h2 k e1 e3⟩
theorem kp_gameAt {x : Int32} (h : CI M s T) (h1 : inN x (sNg s) = none → Q (some (vR 0)) M) (h2 : ∀ l, inN x (sNg s) = some l → l < sNg s → Q (some (vR (aGa T l))) M) : Cl X d 0 0 m_X10_gameAt [vR 1, vI x] M Q := by
  have h6 := h.1.2.2.2.2.1
  refine e_X10_gameAt (b_X10_gameAt_0 h.1.1 ?_)
  rw [h.2.2.1.1.2.2]
  refine kp_in (by omega) h1 h1 (fun k e1 e2 e3 => ?_)
  rw [e2, na_ix (by omega), h.2.2.1.2.2.2 k e3]
  exact ⟨na_in (by omega) (by decide), h2 k e1 e3⟩
theorem kp_isParty {x : Int32} (h : Q (some (vI (bI (inN x 3).isSome))) M) : Cl X d 0 0 m_X10_isParty [vI x] M Q := by
  refine e_X10_isParty (b_X10_isParty_0 (kp_in (n := 3) (by decide) (fun e => ?_) (fun e => ?_) (fun k e1 e2 e3 => ?_)))
  · rw [e] at h; exact h
  · rw [e] at h; exact h
  · rw [e1] at h; exact h
theorem kp_isGoal {x : Int32} (h : Q (some (vI (bI (inN x 3).isSome))) M) : Cl X d 0 0 m_X10_isGoal [vI x] M Q := by
  refine e_X10_isGoal (b_X10_isGoal_0 (kp_in (n := 3) (by decide) (fun e => ?_) (fun e => ?_) (fun k e1 e2 e3 => ?_)))
  · rw [e] at h; exact h
  · rw [e] at h; exact h
  · rw [e1] at h; exact h
theorem CI.lo {l : Nat} (h : CI M s T) (hl : l < sNl s) : 105 ≤ aLa T l := by
  have hse := h.2.2.2.2.2.2.2.2.2
  exact hse.lo ((hse.2.1 l hl).1 0 (by omega)) (by omega)
theorem CI.ow {l b : Nat} (h : CI M s T) (hl : l < sNl s) (h1 : aLa T l ≤ b) (h2 : b ≤ aLa T l + 11) : aOw T b = 100 + l := by
  rw [← (h.2.2.2.2.2.2.2.2.2.2.1 l hl).1 (b - aLa T l) (by omega)]
  congr 1; omega
theorem ldX.ok {la : Nat} {L : LandT} {rm : Option (Nat × Nat)} {pl : Bool} (h : ldX M la L rm pl) (hO : LdOK L) (h0 : mI M la 14 = nI 0) : laR M la L := by
  refine ⟨h.1, ?_, hO⟩
  rcases h.2.2.1 with q | q
  · exact q.2
  · rw [h0] at q; exact absurd q (by decide)
theorem kp_readyLand {x : Int32} (hd : 4 ≤ d) (h : CI M s T) (h1 : inN x (sNl s) = none → Q (some (vR 0)) M) (h2 : ∀ l B, inN x (sNl s) = some l → l < sNl s → CI B s T → OFr M B → laR B (aLa T l) (sLs s l) → mI B (aLa T l) 14 = nI 0 → Q (some (vR (aLa T l))) B) : Cl X d 0 0 m_X10_readyLand [vR 1, vI x] M Q := by
  refine e_X10_readyLand (b_X10_readyLand_0 h.1.1 (by omega) (kp_landAt h (fun e => ⟨_, rfl, Ext.refl _, fun _ => h1 e, fun w => absurd rfl w⟩) (fun l e hl => ⟨_, rfl, Ext.refl _, fun w => absurd w (by have := h.lo hl; omega), fun _ => ?_⟩)))
  have hld := h.2.2.2.1 l hl
  have hO := h.1.2.2.1.2 l hl
  refine ⟨hld.1.1, fun w => h2 l M e hl h OFr.refl (hld.ok hO w) w, fun w => ?_⟩
  refine kp_refresh (by omega) hld.1 hO (fun B hF hC hFt h3 h14 => ⟨rfl, hF.ext, ?_⟩)
  have hFr : Frr (ixS T (100 + l)) sfT M B := (hF.mono (fun b k q => Or.inr (by unfold rwS at q; exact h.ow hl (by omega) (by omega)))).rr
  obtain ⟨d1, d2, d3, d4, d5⟩ := hld
  have hB : ldX B (aLa T l) (sLs s l) (aRm T l) (gOn s l) := by
    refine ⟨hC, (hF.at (by unfold rwS; omega)).trans d2, Or.inl ⟨h14, hFt⟩, ⟨(hF.at (by unfold rwS; omega)).trans d4.1, fun _ => h14⟩, ?_⟩
    have er : ∀ b k, mR B b k = mR M b k := fun b k => by unfold mR; rw [hF.2]
    cases hr : aRm T l with
    | none =>
      rw [hr] at d5
      obtain ⟨a, b⟩ := d5
      exact ⟨by rw [er]; exact hF.ext.1 _ _ _ a, h3⟩
    | some q =>
      rw [hr] at d5
      obtain ⟨a, ⟨b1, b2⟩, ⟨c1, c2⟩, dd⟩ := d5
      exact ⟨a, ⟨(er _ _).trans b1, (er _ _).trans b2⟩, ⟨hF.ext.1 _ _ _ c1, hF.ext.1 _ _ _ c2⟩, Or.inl h3⟩
  obtain ⟨r1, r2⟩ := h.ld hl hFr hB
  exact h2 l B e hl r1 r2 ⟨hC, hFt, hO⟩ h14
/-- parts alone have changed -/
theorem CI.pt {B : Mem} {c : Nat} (h : CI M s T) (hc : c = 73 ∨ c = 74) (hF : Fr (atS c) M B) : CI B s T ∧ OFr M B := h.sf ((hF.mono (fun b k q => by unfold atS at q; unfold sfS; omega)).rr)
theorem kp_withLawful {l x : Int32} (hd : 5 ≤ d) (h : CI M s T) (h1 : wlN (sNl s) (sLs s) l x = none → ∀ B, CI B s T → OFr M B → Q (some (vR 0)) B) (h2 : ∀ k c B, wlN (sNl s) (sLs s) l x = some (k, c) → k < sNl s → c < 4 ^ (sLs s k).1 → jdL (sLs s k) c = 0 → CI B s T → OFr M B → laR B (aLa T k) (sLs s k) → mI B (aLa T k) 14 = nI 0 → (∀ j, j < (sLs s k).2.1 → mI B 73 j = nI (seL (sLs s k) c j)) → Q (some (vR (aLa T k))) B) : Cl X d 0 0 m_X10_landWithLawful [vR 1, vI l, vI x] M Q := by
  refine e_X10_landWithLawful (b_X10_landWithLawful_0 h.1.1 (by omega) (kp_readyLand (by omega) h (fun e => ⟨_, rfl, Ext.refl _, fun _ => h1 ?_ M h OFr.refl, fun w => absurd rfl w⟩) (fun k B e hk hB hO hR h14 => ⟨_, rfl, hO.2.2, fun w => absurd w (by have := h.lo hk; omega), fun _ => ⟨hR.1.1, ?_⟩⟩)))
  · unfold wlN lcN; rw [e]
  · refine kp_judged (by omega) hR hB.1.1.k16 (by have := h.lo hk; unfold ofa; omega) (fun e2 => ⟨_, rfl, Ext.refl _, fun _ => h1 ?_ B hB hO, fun w => absurd w (by decide)⟩) (fun c e2 C hFC hC => ⟨_, rfl, hFC.ext, ?_⟩)
    · unfold wlN lcN; rw [e]; dsimp only; rw [e2]
    · obtain ⟨c1, c2⟩ := hB.pt (Or.inl rfl) hFC
      have h4 := hR.2.2
      have h49 : 4 ^ (sLs s k).1 ≤ 4 ^ 9 := Nat.pow_le_pow_right (by decide) h4.1.2
      have h49e : (4 : Nat) ^ 9 = 262144 := rfl
      have jb := jdL_le (sLs s k) c
      rw [na_eq (by omega) (by decide)]
      have hlc : lcN (sNl s) (sLs s) l x = some (k, c) := by unfold lcN; rw [e]; dsimp only; rw [e2]
      refine ⟨fun w => h1 ?_ C c1 (hO.trans c2), fun w => h2 k c C ?_ hk ?_ w c1 (hO.trans c2) (hR.at hFC (by have := h.lo hk; unfold ofa; omega)) ?_ (hC (by omega))⟩
      · unfold wlN; rw [hlc]; dsimp only; rw [if_neg w]
      · unfold wlN; rw [hlc]; dsimp only; rw [if_pos w]
      · exact (inN_some (by omega) e2).2
      · rw [hFC.at (by have := h.lo hk; unfold atS; omega)]; exact h14
/-- an answer that changes nothing -/
def ansQ (M : Mem) (s : StT) (T : AdT) (Q : Option AV → Mem → Prop) (v : Int32) : Prop := ∀ B, CI B s T → OFr M B → Q (some (vI v)) B
theorem kp10_judge {l x : Int32} (hd : 5 ≤ d) (h : CI M s T) (hq : ansQ M s T Q (aJudge (sNl s) (sLs s) l x)) : Cl X d 0 0 m_X10_judge [vR 1, vI l, vI x] M Q := by
  unfold aJudge at hq
  refine e_X10_judge (b_X10_judge_0 h.1.1 (by omega) (kp_readyLand (by omega) h (fun e => ⟨_, rfl, Ext.refl _, fun w => absurd rfl w, fun _ => ?_⟩) (fun k B e hk hB hO hR h14 => ⟨_, rfl, hO.2.2, fun _ => ⟨hR.1.1, ?_⟩, fun w => absurd w (by have := h.lo hk; omega)⟩)))
  · have : lcN (sNl s) (sLs s) l x = none := by unfold lcN; rw [e]
    rw [this] at hq
    exact hq M h OFr.refl
  · refine kp_judged (by omega) hR hB.1.1.k16 (by have := h.lo hk; unfold ofa; omega) (fun e2 => ⟨_, rfl, Ext.refl _, ?_⟩) (fun c e2 C hFC hC => ⟨_, rfl, hFC.ext, ?_⟩)
    · have : lcN (sNl s) (sLs s) l x = none := by unfold lcN; rw [e]; dsimp only; rw [e2]
      rw [this] at hq
      exact hq B hB hO
    · have : lcN (sNl s) (sLs s) l x = some (k, c) := by unfold lcN; rw [e]; dsimp only; rw [e2]
      rw [this] at hq
      obtain ⟨c1, c2⟩ := hB.pt (Or.inl rfl) hFC
      exact hq C c1 (hO.trans c2)
theorem kp10_won {l x j : Int32} (hd : 6 ≤ d) (h : CI M s T) (hq : ansQ M s T Q (aWon (sNl s) (sLs s) l x j)) : Cl X d 0 0 m_X10_won [vR 1, vI l, vI x, vI j] M Q := by
  unfold aWon at hq
  refine e_X10_won (b_X10_won_0 h.1.1 (by omega) (kp_withLawful (by omega) h (fun e B hB hO => ⟨_, rfl, hO.2.2, fun _ => ?_, fun w => absurd rfl w⟩) (fun k c B e hk hc hj hB hO hR h14 hp => ⟨_, rfl, hO.2.2, fun w => absurd w (by have := h.lo hk; omega), fun _ => ?_⟩)))
  · rw [e] at hq; exact hq B hB hO
  · rw [e] at hq
    dsimp only at hq
    have hs4 := hR.2.2.2.1
    have h512 := p9 hR.2.2.1.2
    have no : (j.toInt < 0 ∨ ((sLs s k).2.1 : Int) ≤ j.toInt) → inN j (sLs s k).2.1 = none := fun q => by unfold inN; rw [if_neg (by omega)]
    rw [hR.1.2.2.1.2.1, toI_lt0, toI_lt (by omega)]
    refine ⟨fun q => ?_, fun q0 => ⟨hR.1.1, fun q => ?_, fun q => ?_⟩⟩
    · rw [no (Or.inl q)] at hq; exact hq B hB hO
    · have e3 : inN j (sLs s k).2.1 = some j.toInt.toNat := by unfold inN; rw [if_pos (by omega)]
      obtain ⟨e4, e5⟩ := inN_some (by omega) e3
      rw [e3] at hq
      generalize j.toInt.toNat = i at e4 e5 hq
      have hlt : seL (sLs s k) c i < 2 ^ (sLs s k).1 := sOB_lt 2 (sLs s k).1 c (whL (sLs s k)) i
      rw [e4, na_ix (by omega), hp i e5]
      exact ⟨na_in (by omega) (by decide), kp_winnerIn hR hlt ⟨_, rfl, Ext.refl _, hq B hB hO⟩⟩
    · rw [no (Or.inr (by omega))] at hq; exact hq B hB hO
theorem kp10_seats {l x p : Int32} (hd : 6 ≤ d) (h : CI M s T) (hq : ansQ M s T Q (aSeats (sNl s) (sLs s) l x p)) : Cl X d 0 0 m_X10_seats [vR 1, vI l, vI x, vI p] M Q := by
  unfold aSeats at hq
  refine e_X10_seats (b_X10_seats_0 h.1.1 (by omega) (kp_withLawful (by omega) h (fun e B hB hO => ⟨_, rfl, hO.2.2, fun _ => ?_, fun w => absurd rfl w⟩) (fun k c B e hk hc hj hB hO hR h14 hp => ⟨_, rfl, hO.2.2, fun w => absurd w (by have := h.lo hk; omega), fun _ => kp_isParty ⟨_, rfl, Ext.refl _, fun w => ?_, fun w => ?_⟩⟩)))
  · rw [e] at hq
    cases hp : inN p 3 with
    | none => rw [hp] at hq; exact hq B hB hO
    | some q => rw [hp] at hq; exact hq B hB hO
  · rw [bI_n0] at w
    cases hp3 : inN p 3 with
    | none => rw [hp3] at w; cases w
    | some q =>
      obtain ⟨e4, e5⟩ := inN_some (by decide) hp3
      rw [hp3, e] at hq
      dsimp only at hq
      rw [e4]
      exact ⟨hR.1.1, kp_wins (f := fun i => seL (sLs s k) c i) (by omega) hR hB.1.1.k16 (by omega) (fun i hi => ⟨sOB_lt _ _ _ _ _, hp i hi⟩) ⟨_, rfl, Ext.refl _, hq B hB hO⟩⟩
  · rw [bI_0] at w
    cases hp3 : inN p 3 with
    | none => rw [hp3] at hq; exact hq B hB hO
    | some q => rw [hp3] at w; cases w
end API
