/-! THE CLASS: the object is asked, on -/
section API
variable {X : Cx} {d : Nat} {M : Mem} {s : StT} {T : AdT} {Q : Option AV → Mem → Prop}
theorem ldX.co {la : Nat} {L : LandT} {rm : Option (Nat × Nat)} {pl : Bool} {B : Mem} (h : ldX M la L rm pl) (hF : Fr (coS la) M B) : ldX B la L rm pl := by
  obtain ⟨d1, d2, d3, d4, d5⟩ := h
  have i : ∀ b k, b ≠ la + 1 ∨ k = 0 → mI B b k = mI M b k := fun b k hb => hF.at (by unfold coS; omega)
  refine ⟨d1.co hF, (i _ _ (Or.inr rfl)).trans d2, ?_, ⟨(i _ _ (by omega)).trans d4.1, fun w => (i la 14 (by omega)).trans (d4.2 w)⟩, ?_⟩
  · rcases d3 with ⟨a, b⟩ | a
    · exact Or.inl ⟨(i _ _ (by omega)).trans a, b.fr hF (fun k => ⟨by unfold coS; omega, by unfold coS; omega, by unfold coS; omega⟩)⟩
    · exact Or.inr ((i _ _ (by omega)).trans a)
  · have er : ∀ b k, mR B b k = mR M b k := fun b k => by unfold mR; rw [hF.2]
    cases rm with
    | none =>
      obtain ⟨a, b⟩ := d5
      exact ⟨by rw [er]; exact hF.ext.1 _ _ _ a, (i _ _ (by omega)).trans b⟩
    | some q =>
      obtain ⟨a, ⟨b1, b2⟩, ⟨c1, c2⟩, dd⟩ := d5
      refine ⟨a, ⟨(er _ _).trans b1, (er _ _).trans b2⟩, ⟨hF.ext.1 _ _ _ c1, hF.ext.1 _ _ _ c2⟩, ?_⟩
      rcases dd with dd | ⟨e1, e2⟩
      · exact Or.inl ((i _ _ (by omega)).trans dd)
      · refine Or.inr ⟨(i _ _ (by omega)).trans e1, fun w => ?_⟩
        exact (e2 ((i la 14 (by omega)).symm.trans w)).fr hF (by unfold coS; omega) (fun k => by unfold coS; omega) (fun k => by unfold coS; omega)
theorem CI.co {l : Nat} {B : Mem} (h : CI M s T) (hl : l < sNl s) (hF : Fr (coS (aLa T l)) M B) : CI B s T ∧ OFr M B :=
  h.ld hl ((hF.mono (fun b k q => Or.inr (by unfold coS at q; exact h.ow hl (by omega) (by omega)))).rr) ((h.2.2.2.1 l hl).co hF)
theorem kp10_apart {l x y : Int32} (hd : 5 ≤ d) (h : CI M s T) (hq : ansQ M s T Q (aApart (sNl s) (sLs s) l x y)) : Cl X d 0 0 m_X10_apart [vR 1, vI l, vI x, vI y] M Q := by
  unfold aApart at hq
  refine e_X10_apart (b_X10_apart_0 h.1.1 (by omega) (kp_readyLand (by omega) h (fun e => ⟨_, rfl, Ext.refl _, fun _ => ?_, fun w => absurd rfl w⟩) (fun k B e hk hB hO hR h14 => ⟨_, rfl, hO.2.2, fun w => absurd w (by have := h.lo hk; omega), fun _ => ⟨hR.1.1, ?_⟩⟩)))
  · have : lcN (sNl s) (sLs s) l x = none := by unfold lcN; rw [e]
    rw [this] at hq
    exact hq M h OFr.refl
  have lk := h.lo hk
  have hO4 := hR.2.2
  have hs4 := hO4.2.1
  have h49 : 4 ^ (sLs s k).1 ≤ 4 ^ 9 := Nat.pow_le_pow_right (by decide) hO4.1.2
  have h49e : (4 : Nat) ^ 9 = 262144 := rfl
  have lc : ∀ z c, inN z (4 ^ (sLs s k).1) = some c → lcN (sNl s) (sLs s) l z = some (k, c) := fun z c e2 => by unfold lcN; rw [e]; dsimp only; rw [e2]
  have lcn : ∀ z, inN z (4 ^ (sLs s k).1) = none → lcN (sNl s) (sLs s) l z = none := fun z e2 => by unfold lcN; rw [e]; dsimp only; rw [e2]
  have j1 : ∀ c, nuF 2 (sLs s k).1 c (whL (sLs s k)) (sLs s k).1 ≠ some (sLs s k).2.1 → jdL (sLs s k) c = 1 := fun c hne => by unfold jdL; rw [if_neg hne]
  have j2 : ∀ c, nuF 2 (sLs s k).1 c (whL (sLs s k)) (sLs s k).1 = some (sLs s k).2.1 → jdL (sLs s k) c ≠ 1 := fun c hu => by
    unfold jdL
    rw [if_pos hu]
    have : ∀ r i, i + r ≤ (sLs s k).2.1 → jdS (sLs s k) c r i ≠ 1 := by
      intro r
      induction r with
      | zero => intro i _ w; unfold jdS at w; cases w
      | succ r ih =>
        intro i hi
        unfold jdS
        split
        · exact ih (i + 1) (by omega)
        · unfold faL
          split
          · omega
          · split
            · omega
            · split <;> omega
    exact this _ _ (by omega)
  refine kp_isNumbered (by omega) hR hB.1.1.k16 (by unfold ofa; omega) (fun hno C hFC => ⟨_, rfl, hFC.ext, fun _ => ?_, fun w => absurd rfl w⟩) (fun c ec hu C hFC hC => ⟨_, rfl, hFC.ext, fun w => absurd w (by decide), fun _ => ?_⟩)
  · obtain ⟨c1, c2⟩ := hB.pt (Or.inl rfl) hFC
    cases ex : inN x (4 ^ (sLs s k).1) with
    | none => rw [lcn x ex] at hq; exact hq C c1 (hO.trans c2)
    | some c =>
      rw [lc x c ex] at hq
      dsimp only at hq
      cases ey : inN y (4 ^ (sLs s k).1) with
      | none => rw [lcn y ey] at hq; exact hq C c1 (hO.trans c2)
      | some e' =>
        rw [lc y e' ey] at hq
        dsimp only at hq
        rw [if_pos (Or.inl (j1 c (hno c ex)))] at hq
        exact hq C c1 (hO.trans c2)
  obtain ⟨c1, c2⟩ := hB.pt (Or.inl rfl) hFC
  have hRC := hR.at hFC (by unfold ofa; omega)
  rw [lc x c ec] at hq
  dsimp only at hq
  refine kp_isNumbered (by omega) hRC c1.1.1.k17 (by unfold ofa; omega) (fun hno D hFD => ⟨_, rfl, hFD.ext, fun w => absurd rfl w, fun _ => ?_⟩) (fun e' ee hu2 D hFD hD => ⟨_, rfl, hFD.ext, fun _ => ?_, fun w => absurd w (by decide)⟩)
  · obtain ⟨d1, d2⟩ := c1.pt (Or.inr rfl) hFD
    cases ey : inN y (4 ^ (sLs s k).1) with
    | none => rw [lcn y ey] at hq; exact hq D d1 ((hO.trans c2).trans d2)
    | some e' =>
      rw [lc y e' ey] at hq
      dsimp only at hq
      rw [if_pos (Or.inr (j1 e' (hno e' ey)))] at hq
      exact hq D d1 ((hO.trans c2).trans d2)
  · obtain ⟨d1, d2⟩ := c1.pt (Or.inr rfl) hFD
    have hRD := hRC.at hFD (by unfold ofa; omega)
    rw [lc y e' ee] at hq
    dsimp only at hq
    rw [if_neg (by rintro (w | w); exact j2 c hu w; exact j2 e' hu2 w)] at hq
    have z1 := (d1.2.2.2.1 k hk).2.1
    refine kp_distance (c := c) (e := e') (by omega) hRD z1 d1.1.1.k16 d1.1.1.k17 (by unfold ofa; omega) (by unfold ofa; omega) (fun i hi => ?_) hD (fun E hFE => ⟨_, rfl, hFE.ext, ?_⟩)
    · rw [hFD.at (by unfold atS; omega)]; exact hC i hi
    · obtain ⟨e1, e2⟩ := d1.co hk hFE
      exact hq E e1 (((hO.trans c2).trans d2).trans e2)
theorem kp10_settled {l x : Int32} (hd : 6 ≤ d) (h : CI M s T) (hq : ansQ M s T Q (aSettled (sNl s) (sLs s) l x)) : Cl X d 0 0 m_X10_settled [vR 1, vI l, vI x] M Q := by
  unfold aSettled at hq
  refine e_X10_settled (b_X10_settled_0 h.1.1 (by omega) (kp_withLawful (by omega) h (fun e B hB hO => ⟨_, rfl, hO.2.2, fun w => absurd rfl w, fun _ => ?_⟩) (fun k c B e hk hc hj hB hO hR h14 hp => ⟨_, rfl, hO.2.2, fun _ => ⟨hR.1.1, ?_⟩, fun w => absurd w (by have := h.lo hk; omega)⟩)))
  · rw [e] at hq; exact hq B hB hO
  · rw [e] at hq
    dsimp only at hq
    refine kp_setB (by omega) hR (jdL_ic.mp hj) hc hB.1.1.k16 hp ⟨_, rfl, Ext.refl _, ?_⟩
    rw [bI_0]
    refine ⟨fun w => ?_, fun w => ?_⟩
    · rw [w] at hq; exact hq B hB hO
    · rw [eq_true_of_ne_false w] at hq; exact hq B hB hO
theorem kp10_walk {l x n : Int32} {sd : Int64} (hd : 6 ≤ d) (h : CI M s T) (hq : ansQ M s T Q (aWalk (sNl s) (sLs s) l x sd n)) : Cl X d 0 0 m_X10_walk [vR 1, vI l, vI x, vJ sd, vI n] M Q := by
  unfold aWalk at hq
  refine e_X10_walk (b_X10_walk_0 h.1.1 (by omega) (kp_withLawful (by omega) h (fun e B hB hO => ⟨_, rfl, hO.2.2, fun _ => ?_, fun w => absurd rfl w⟩) (fun k c B e hk hc hj hB hO hR h14 hp => ⟨_, rfl, hO.2.2, fun w => absurd w (by have := h.lo hk; omega), fun _ => ?_⟩)))
  · rw [e] at hq
    cases hn : inN n 501 with
    | none => rw [hn] at hq; exact hq B hB hO
    | some m => rw [hn] at hq; exact hq B hB hO
  · have lk := h.lo hk
    have hs4 := hR.2.2.2.1
    have no : (n.toInt < 0 ∨ (501 : Int) ≤ n.toInt) → inN n 501 = none := fun q => by unfold inN; rw [if_neg (by omega)]
    rw [toI_lt0, leI_n (n := 500) (by decide)]
    refine ⟨fun q => ?_, fun q0 => ⟨fun q => ?_, fun q => ?_⟩⟩
    · rw [no (Or.inl q)] at hq; exact hq B hB hO
    · have e3 : inN n 501 = some n.toInt.toNat := by unfold inN; rw [if_pos (by omega)]
      obtain ⟨e4, e5⟩ := inN_some (by decide) e3
      rw [e3, e] at hq
      dsimp only at hq
      generalize n.toInt.toNat = m at e4 e5 hq
      rw [e4]
      refine ⟨hR.1.1, kp_wander (by omega) hR hB.1.1.k16 (by unfold ofa; omega) (jdL_ic.mp hj) hc (by omega) hp (fun C hFC hC hic hcl => ⟨rfl, hFC.ext, ?_⟩)⟩
      obtain ⟨c1, c2⟩ := hB.pt (Or.inl rfl) hFC
      have hRC := hR.at hFC (by unfold ofa; omega)
      rw [hRC.1.2.2.1.2.1]
      refine kp_numberOf (f := fun i => seL (sLs s k) (wkF (sLs s k) m sd c) i) hRC.1.1 hRC.1.2.2.1.1 hRC.2.2.1.2 c1.1.1.k16 (by omega) (fun i hi => ⟨sOB_lt _ _ _ _ _, hC i hi⟩) ⟨_, rfl, Ext.refl _, ?_⟩
      rw [numO_cut hcl hic.1]
      exact hq C c1 (hO.trans c2)
    · rw [no (Or.inr (by omega))] at hq; exact hq B hB hO
end API
