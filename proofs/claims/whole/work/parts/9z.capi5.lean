/-! THE CLASS: the object is asked of its rolls -/
def TR (T T' : AdT) : Prop := aLa T' = aLa T ∧ aPa T' = aPa T ∧ aGa T' = aGa T ∧ ∀ l, (aRm T l).isSome = true → (aRm T' l).isSome = true
theorem TR.refl {T : AdT} : TR T T := ⟨rfl, rfl, rfl, fun _ h => h⟩
/-- an answer for which a roll may be made -/
def ansR (M : Mem) (s : StT) (T : AdT) (Q : Option AV → Mem → Prop) (o : Option Nat) (v : Int32) : Prop := ∀ B T', CI B s T' → OFr M B → TR T T' → (∀ l, o = some l → (aRm T' l).isSome = true) → Q (some (vI v)) B
section API
variable {X : Cx} {d kc ns : Nat} {M : Mem} {s : StT} {T : AdT} {Q : Option AV → Mem → Prop}
theorem tR_of {T' : AdT} {l : Nat} {q : Nat × Nat} {n : Nat} (h : T' = T ∨ (aRm T l = none ∧ T' = tRm T l q n)) : TR T T' := by
  rcases h with rfl | ⟨h1, rfl⟩
  · exact TR.refl
  · refine ⟨rfl, rfl, rfl, fun l' h2 => ?_⟩
    show (if l' = l then some q else aRm T l').isSome = true
    split
    · rfl
    · exact h2
theorem kp10_all {l i : Int32} (hd : 6 ≤ d) (h : CI M s T) (hkc : ∀ k, inN l (sNl s) = some k → rkC T k ≤ kc ∧ rkN s T k ≤ ns) (hq : ansR M s T Q (inN l (sNl s)) (aAll (sNl s) (sLs s) l i)) : Cl X d kc ns m_X10_all [vR 1, vI l, vI i] M Q := by
  unfold aAll at hq
  refine e_X10_all (b_X10_all_0 h.1.1 (by omega) (kp_readyLand (by omega) h (fun e => ⟨_, rfl, Ext.refl _, fun z => absurd rfl z, fun _ => ?_⟩) (fun k B e hk hB hO hR h14 => ⟨_, rfl, hO.2.2, fun _ => ⟨hR.1.1, rkC T k, rkN s T k, (hkc k e).1, (hkc k e).2, ?_⟩, fun z => absurd z (by have := h.lo hk; omega)⟩)))
  · rw [e] at hq; exact hq M T h OFr.refl TR.refl (fun k hk => by cases hk)
  · rw [e] at hq
    dsimp only at hq
    refine kp_roll (by omega) hB hk hR h14 (Nat.le_refl _) (Nat.le_refl _) (fun C T' c w hC hO2 hT hrm hLa hRC h14C hK hpt => ⟨_, rfl, hO2.2.2, ?_⟩)
    have fin : ∀ v : Int32, (∀ B T', CI B s T' → OFr M B → TR T T' → (∀ l, some k = some l → (aRm T' l).isSome = true) → Q (some (vI v)) B) → Q (some (vI v)) C := fun v hv => hv C T' hC (hO.trans hO2) (tR_of hT) (fun l hl => by cases hl; rw [hrm]; rfl)
    obtain ⟨g1, ⟨g2, g3⟩, ⟨g4, g5, g6, g7⟩, g8, g9, g10⟩ := hK
    rw [g8, g2]
    refine ⟨fun z => ?_, fun z => ⟨g1, ?_⟩⟩
    · rw [if_neg z] at hq
      have no : (i.toInt < 0 ∨ ((lsL (sLs s k) (whL (sLs s k)) (sLs s k).2.1).length : Int) ≤ i.toInt) → inN i (lsL (sLs s k) (whL (sLs s k)) (sLs s k).2.1).length = none := fun q => by unfold inN; rw [if_neg (by omega)]
      rw [toI_lt0, n_leI (by omega)]
      refine ⟨fun q => ?_, fun q0 => ⟨g1, fun q => ?_, fun q => ?_⟩⟩
      · rw [no (Or.inl q)] at hq; exact fin _ hq
      · rw [no (Or.inr q)] at hq; exact fin _ hq
      · have e3 : inN i (lsL (sLs s k) (whL (sLs s k)) (sLs s k).2.1).length = some i.toInt.toNat := by unfold inN; rw [if_pos (by omega)]
        obtain ⟨e4, e5⟩ := inN_some (by omega) e3
        rw [e3] at hq
        dsimp only at hq
        generalize i.toInt.toNat = j at e4 e5 hq
        have hgj := List.getElem?_eq_getElem e5
        have ed : (lsL (sLs s k) (whL (sLs s k)) (sLs s k).2.1).getD j 0 = (lsL (sLs s k) (whL (sLs s k)) (sLs s k).2.1)[j]'e5 := by simp only [List.getD]; rw [hgj]; rfl
        have := g9 j _ hgj
        rw [Nat.zero_add] at this
        rw [e4, na_ix (by omega), this, ← ed]
        exact ⟨_, g5, na_in (by omega) (by omega), fin _ hq⟩
    · rw [if_pos z] at hq; exact fin _ hq
/-- whether a roll is made for alone -/
def cAlone (s : StT) (l p w : Int32) : Option Nat := if (inN p 3).isSome = true ∧ (inN w 3).isSome = true then inN l (sNl s) else none
theorem kp10_alone {l p w : Int32} (hd : 6 ≤ d) (h : CI M s T) (hkc : ∀ k, cAlone s l p w = some k → rkC T k ≤ kc ∧ rkN s T k ≤ ns) (hq : ansR M s T Q (cAlone s l p w) (aAlone (sNl s) (sLs s) l p w)) : Cl X d kc ns m_X10_alone [vR 1, vI l, vI p, vI w] M Q := by
  unfold aAlone at hq
  have hno : ∀ B, CI B s T → OFr M B → (cAlone s l p w = none) → (∀ v : Int32, (∀ B T', CI B s T' → OFr M B → TR T T' → (∀ l', cAlone s l p w = some l' → (aRm T' l').isSome = true) → Q (some (vI v)) B) → Q (some (vI v)) B) := fun B hB hO hc v hv => hv B T hB hO TR.refl (fun k hk => by rw [hc] at hk; cases hk)
  refine e_X10_alone (b_X10_alone_0 h.1.1 (by omega) (kp_readyLand (by omega) h (fun e => ⟨_, rfl, Ext.refl _, fun _ => ?_, fun z => absurd rfl z⟩) (fun k B e hk hB hO hR h14 => ⟨_, rfl, hO.2.2, fun z => absurd z (by have := h.lo hk; omega), fun _ => kp_isParty ⟨_, rfl, Ext.refl _, fun z => ?_, fun z => ?_⟩⟩)))
  · have hc : cAlone s l p w = none := by unfold cAlone; split; exact e; rfl
    rw [e] at hq; exact hno M h OFr.refl hc _ hq
  · rw [bI_0] at z
    have hc : cAlone s l p w = none := by unfold cAlone; rw [if_neg (fun q => by rw [z] at q; exact absurd q.1 (by decide))]
    rw [e] at hq
    cases hp3 : inN p 3 with
    | none => rw [hp3] at hq; exact hno B hB hO hc _ hq
    | some q => rw [hp3] at z; cases z
  · rw [bI_n0] at z
    cases hp3 : inN p 3 with
    | none => rw [hp3] at z; cases z
    | some q =>
      obtain ⟨e4, e5⟩ := inN_some (by decide) hp3
      rw [e, hp3] at hq
      dsimp only at hq
      have no : (w.toInt < 0 ∨ (3 : Int) ≤ w.toInt) → inN w 3 = none ∧ cAlone s l p w = none := fun q => by
        have e : inN w 3 = none := by unfold inN; rw [if_neg (by omega)]
        refine ⟨e, ?_⟩
        unfold cAlone; rw [if_neg (fun q => by rw [e] at q; exact absurd q.2 (by decide))]
      rw [toI_lt0, leI_n (n := 2) (by decide)]
      refine ⟨fun q2 => ?_, fun q0 => ⟨fun q2 => ?_, fun q2 => ?_⟩⟩
      · rw [(no (Or.inl q2)).1] at hq; exact hno B hB hO (no (Or.inl q2)).2 _ hq
      · have e3 : inN w 3 = some w.toInt.toNat := by unfold inN; rw [if_pos (by omega)]
        obtain ⟨e6, e7⟩ := inN_some (by decide) e3
        have hc : cAlone s l p w = some k := by unfold cAlone; rw [if_pos ⟨by rw [hp3]; rfl, by rw [e3]; rfl⟩]; exact e
        rw [e3] at hq
        dsimp only at hq
        generalize w.toInt.toNat = v at e6 e7 hq
        refine ⟨hR.1.1, rkC T k, rkN s T k, (hkc k hc).1, (hkc k hc).2, ?_⟩
        refine kp_roll (by omega) hB hk hR h14 (Nat.le_refl _) (Nat.le_refl _) (fun C T' c w' hC hO2 hT hrm hLa hRC h14C hK hpt => ⟨_, rfl, hO2.2.2, hK.1, ?_⟩)
        have fin : ∀ v : Int32, (∀ B T', CI B s T' → OFr M B → TR T T' → (∀ l', cAlone s l p w = some l' → (aRm T' l').isSome = true) → Q (some (vI v)) B) → Q (some (vI v)) C := fun v hv => hv C T' hC (hO.trans hO2) (tR_of hT) (fun l hl => by rw [hc] at hl; cases hl; rw [hrm]; rfl)
        have hs4 := hR.2.2.2.1
        have hW : ∀ x q, wiL (sLs s k) x q ≤ 4 := fun x q => by have := wiL_le (sLs s k) x q; omega
        have hKx := hK.x
        unfold aloneL at hq
        rw [hK.2.2.2.1, e4, e6]
        have hlen := hK.2.2.1.2.2.2
        have hKb := hK.2.2.1.1
        refine ⟨fun z => ?_, fun z => ?_⟩
        · have hne : lsL (sLs s k) (whL (sLs s k)) (sLs s k).2.1 ≠ [] := fun q => z (by rw [q]; rfl)
          obtain ⟨b, b1, b2, b3⟩ := bsF_none (fun c => wiL (sLs s k) c q) hne
          have f1 := fwF_none (fun c => wiL (sLs s k) c q) hne (fun c _ => hW c q)
          rw [b1, f1] at hq
          dsimp only at hq
          rw [na_eq (by omega) (by decide)]
          refine ⟨fun z1 => ?_, fun z1 => ?_⟩
          · refine kp_most (by omega) hKx hW e5 ⟨_, rfl, Ext.refl _, ?_⟩
            rw [na_eq (by omega) (by decide)]
            refine ⟨fun z0 => ?_, fun z0 => ?_⟩
            · rw [if_neg z0, if_neg z1] at hq
              rw [← b2]
              refine kp_earliest (by omega) hKx hW e5 (by have := hW b q; omega) ⟨_, rfl, Ext.refl _, ?_⟩
              rw [b3]
              exact fin _ hq
            · rw [if_pos z0, b2] at hq
              exact fin _ hq
          · rw [if_neg (by omega), if_pos z1] at hq
            exact kp_fewest (by omega) hKx hW e5 ⟨_, rfl, Ext.refl _, fin _ hq⟩
        · rw [na_eq (by omega) (by decide)] at z
          have he : lsL (sLs s k) (whL (sLs s k)) (sLs s k).2.1 = [] := List.length_eq_zero_iff.mp z
          rw [he] at hq
          exact fin _ hq
      · rw [(no (Or.inr (by omega))).1] at hq; exact hno B hB hO (no (Or.inr (by omega))).2 _ hq
end API
