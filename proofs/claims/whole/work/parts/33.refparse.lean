/-! THE REFERENCE's reading, as functions of what is wrong (w) and the place (i) -/
def pst (M : Mem) (w : Option Nat) (i : Nat) : Mem := sI (sI M 75 3 (nI i)) 75 4 (oI w)
theorem pst_3 {M : Mem} {w : Option Nat} {i : Nat} : mI (pst M w i) 75 3 = nI i := by unfold pst; rw [mI_sI_i (by decide), mI_sI_eq]
theorem pst_4 {M : Mem} {w : Option Nat} {i : Nat} : mI (pst M w i) 75 4 = oI w := by unfold pst; rw [mI_sI_eq]
theorem pst_o {M : Mem} {w : Option Nat} {i a k : Nat} (h : ¬ (a = 75 ∧ (k = 3 ∨ k = 4))) : mI (pst M w i) a k = mI M a k := by
  unfold pst; rw [mI_sI, if_neg (by omega), mI_sI, if_neg (by omega)]
theorem sI_comm {M : Mem} {a i b j : Nat} {v w : Int32} (h : ¬ (a = b ∧ i = j)) : sI (sI M a i v) b j w = sI (sI M b j w) a i v := by
  unfold sI; congr 1; funext c k
  show (if c = b ∧ k = j then w else if c = a ∧ k = i then v else M.1 c k) = (if c = a ∧ k = i then v else if c = b ∧ k = j then w else M.1 c k)
  by_cases h1 : c = b ∧ k = j
  · by_cases h2 : c = a ∧ k = i
    · exact absurd ⟨by rw [← h1.1, h2.1], by rw [← h1.2, h2.2]⟩ h
    · rw [if_pos h1, if_neg h2, if_pos h1]
  · by_cases h2 : c = a ∧ k = i
    · rw [if_neg h1, if_pos h2, if_pos h2]
    · rw [if_neg h1, if_neg h2, if_neg h2, if_neg h1]
theorem pst_pst {M : Mem} {w w' : Option Nat} {i i' : Nat} : pst (pst M w i) w' i' = pst M w' i' := by
  unfold pst
  rw [sI_comm (a := 75) (i := 4) (b := 75) (j := 3) (by decide), sI_sI, sI_sI]
theorem pst_sI3 {M : Mem} {w : Option Nat} {i j : Nat} : sI (pst M w i) 75 3 (nI j) = pst M w j := by
  unfold pst
  rw [sI_comm (a := 75) (i := 4) (b := 75) (j := 3) (by decide), sI_sI]
theorem pst_sI4 {M : Mem} {w w' : Option Nat} {i : Nat} : sI (pst M w i) 75 4 (oI w') = pst M w' i := by unfold pst; rw [sI_sI]
theorem pst_sI {M : Mem} {w : Option Nat} {i a k : Nat} {v : Int32} (h : a ≠ 75) : sI (pst M w i) a k v = pst (sI M a k v) w i := by
  unfold pst
  rw [sI_comm (a := 75) (i := 4) (by omega), sI_comm (a := 75) (i := 3) (by omega)]
theorem pst_of {M : Mem} {w : Option Nat} {i : Nat} (h3 : mI M 75 3 = nI i) (h4 : mI M 75 4 = oI w) : pst M w i = M := by
  unfold pst; rw [sI_self h3, sI_self h4]
theorem rT.p {M : Mem} {z : Nat} {t : Nat → Nat} {w : Option Nat} {i : Nat} (h : rT M z t) : rT (pst M w i) z t := (h.s (by decide)).s (by decide)
theorem rT.a {M : Mem} {z : Nat} {t : Nat → Nat} {a k : Nat} {v : Int32} (h : rT M z t) (ha : a ≠ 75) (hb : a ≠ 76) : rT (sI M a k v) z t := by
  refine ⟨?_, h.2.1, fun i hi => ?_⟩
  · rw [mI_sI_a (Ne.symm ha)]; exact h.1
  · rw [mI_sI_a (Ne.symm hb)]; exact h.2.2 i hi
theorem oI_none {w : Option Nat} (h : ∀ f, w = some f → f < 2 ^ 31) : oI w = (-1) ↔ w = none := by
  cases w with
  | none => exact ⟨fun _ => rfl, fun _ => rfl⟩
  | some f => exact ⟨fun q => absurd q (na_m1 (h f rfl)), fun q => by cases q⟩
/-- number, from any state -/
def numT (z : Nat) (t : Nat → Nat) (low high : Nat) (but w : Option Nat) (i : Nat) : Nat × Option Nat × Nat := match w with
  | some f => (low, some f, skp z t i)
  | none => match num z t low high but i with
    | .inl f => (low, some f, skp z t i + min (nD z t (skp z t i)) 3)
    | .inr (v, e) => (v, none, e)
def signT (z : Nat) (t : Nat → Nat) (c : Nat) (w : Option Nat) (i : Nat) : Option Nat × Nat := match w with
  | some f => (some f, i + 1)
  | none => if skp z t i < z ∧ t (skp z t i) = c then (none, skp z t i + 1) else (some (skp z t i), skp z t i + 1)
def wOk (w : Option Nat) : Prop := ∀ f, w = some f → f < 2 ^ 20
theorem sp_lookP {X : Cx} {d : Nat} {Q : Option AV → Mem → Prop} {z i : Nat} {t : Nat → Nat} {w : Option Nat} {M : Mem} (hS : RfS M) (hT : rT M z t) (hi : i < 2 ^ 20) (h : Q (some (vI (lkV z t (skp z t i)))) (pst M w (skp z t i))) : Cl X d 0 0 m_X11_look [vR 75] (pst M w i) Q := by
  refine sp_look (M := pst M w i) hS hT.p pst_3 hi ?_
  rw [pst_sI3]; exact h
def wb (w : Option Nat) (p : Nat) : Option Nat := match w with
  | none => some p
  | some f => some f
theorem sp_badP {X : Cx} {d : Nat} {Q : Option AV → Mem → Prop} {p i : Nat} {w : Option Nat} {M : Mem} (hS : RfS M) (hw : wOk w) (h : Q none (pst M (wb w p) i)) : Cl X d 0 0 m_X11_bad [vR 75, vI (nI p)] (pst M w i) Q := by
  refine sp_bad (M := pst M w i) hS ?_
  rw [pst_4]
  cases w with
  | none => rw [if_pos (show oI none = (-1) from rfl)]; rw [show nI p = oI (some p) from rfl, pst_sI4]; exact h
  | some f =>
    rw [if_neg (fun q => by have := (oI_none (fun g hg => by have := hw g hg; omega)).mp q; cases this), pst_sI4]; exact h
theorem sp_numT {X : Cx} {d : Nat} {Q : Option AV → Mem → Prop} {z i low high : Nat} {but w : Option Nat} {t : Nat → Nat} {M : Mem} (hd : 3 ≤ d) (hS : RfS M) (hT : rT M z t) (hi : i < 2 ^ 19) (hw : wOk w) (hl : low < 1000) (hh : high < 1000) (hbt : ∀ b, but = some b → b < 1000)
    (h : Q (some (vI (nI (numT z t low high but w i).1))) (pst M (numT z t low high but w i).2.1 (numT z t low high but w i).2.2)) :
    Cl X d 0 0 m_X11_number [vR 75, vI (nI low), vI (nI high), vI (oI but)] (pst M w i) Q := by
  cases w with
  | none =>
    refine sp_number (M := pst M none i) hd hS hT.p pst_3 hi pst_4 hl hh hbt ?_
    unfold numT at h
    revert h
    cases num z t low high but i with
    | inl f =>
      intro h
      show Q _ (sI (sI (pst M none i) 75 3 (nI _)) 75 4 (nI f))
      rw [pst_sI3, show nI f = oI (some f) from rfl, pst_sI4]; exact h
    | inr q =>
      intro h
      obtain ⟨v, e⟩ := q
      show Q _ (sI (pst M none i) 75 3 (nI e))
      rw [pst_sI3]; exact h
  | some f =>
    have hne : ¬ mI (pst M (some f) (skp z t i)) 75 4 = (-1) := by rw [pst_4]; exact na_m1 (by have := hw f rfl; omega)
    refine e_X11_number (b_X11_number_0 (M := pst M (some f) i) hS (by omega) (sp_lookP hS hT (by omega) ⟨_, rfl, Ext.trans (ExtI (a := 75) (i := 3) (v := nI (skp z t i))) (by rw [pst_sI3]; exact Ext.refl _), ⟨fun _ => ?_, fun q => absurd q hne⟩⟩))
    refine b_X11_number_22 (M := pst M (some f) (skp z t i)) hS (by omega) ?_
    rw [pst_3]
    refine sp_badP hS hw ⟨rfl, Ext.refl _, ?_⟩
    exact h
theorem ExtP {M : Mem} {w w' : Option Nat} {i i' : Nat} : Ext (pst M w i) (pst M w' i') := ⟨fun _ _ _ h => h, fun _ _ _ _ _ _ => rfl⟩
theorem sp_signT {X : Cx} {d : Nat} {Q : Option AV → Mem → Prop} {z i c : Nat} {w : Option Nat} {t : Nat → Nat} {M : Mem} (hd : 2 ≤ d) (hS : RfS M) (hT : rT M z t) (hi : i < 2 ^ 19) (hw : wOk w) (hc : c < 256)
    (h : Q none (pst M (signT z t c w i).1 (signT z t c w i).2)) : Cl X d 0 0 m_X11_sign [vR 75, vI (nI c)] (pst M w i) Q := by
  have h24 : ∀ (w' : Option Nat) (j : Nat), Q none (pst M w' (j + 1)) → WA X d 0 0 m_X11_sign 24 [some (vR 75), none] [] (pst M w' j) Q := fun w' j hq => by
    refine b_X11_sign_24 (M := pst M w' j) hS (fun M1 e => ?_)
    rw [pst_3, nI_add, pst_sI3] at e
    subst e; exact hq
  cases w with
  | some f =>
    have hne : ¬ mI (pst M (some f) i) 75 4 = (-1) := by rw [pst_4]; exact na_m1 (by have := hw f rfl; omega)
    exact e_X11_sign (b_X11_sign_0 (M := pst M (some f) i) hS (by omega) ⟨fun _ => h24 _ _ h, fun q => absurd q hne⟩)
  | none =>
    have he : mI (pst M none i) 75 4 = (-1) := pst_4
    have hj := skp_le z t i
    have hz := hT.2.1
    refine e_X11_sign (b_X11_sign_0 (M := pst M none i) hS (by omega) ⟨fun q => absurd he q, fun _ => sp_lookP hS hT (by omega) ⟨_, rfl, ExtP, ⟨fun hq => h24 _ _ ?_, fun hq => ?_⟩⟩⟩)
    · unfold lkV at hq
      by_cases hz : skp z t i < z
      · rw [if_pos hz, na_eq (by have := (hT.2.2 _ hz).2.2; omega) (by omega)] at hq
        unfold signT at h; rw [if_pos ⟨hz, hq⟩] at h; exact h
      · rw [if_neg hz] at hq; exact absurd hq.symm (na_m1 (by omega))
    · rw [pst_3]
      refine sp_badP hS hw ⟨rfl, ExtP, h24 _ _ ?_⟩
      unfold lkV at hq
      have : ¬ (skp z t i < z ∧ t (skp z t i) = c) := by
        rintro ⟨q1, q2⟩
        rw [if_pos q1, q2] at hq
        exact hq rfl
      unfold signT at h; rw [if_neg this] at h; exact h
theorem sp_voteAt {X : Cx} {d : Nat} {Q : Option AV → Mem → Prop} {l p k : Nat} {M : Mem} (h : Q (some (vI (nI (3 * (9 * l + p) + k)))) M) : Cl X d 0 0 m_X11_voteAt [vI (nI l), vI (nI p), vI (nI k)] M Q := by
  refine e_X11_voteAt (b_X11_voteAt_0 ?_)
  rw [pk_mul, nI_add, pk_mul, nI_add]; exact h
theorem numT_le (z : Nat) (t : Nat → Nat) (low high : Nat) (but w : Option Nat) (i : Nat) : (numT z t low high but w i).2.2 ≤ max i z + 3 := by
  have := skp_le z t i
  unfold numT
  cases w with
  | some f => show skp z t i ≤ _; omega
  | none =>
    unfold num
    have := nD_le z t (skp z t i)
    dsimp only
    split
    · rename_i heq
      show skp z t i + min (nD z t (skp z t i)) 3 ≤ _; omega
    · rename_i v e heq
      split at heq
      · cases heq
      · split at heq
        · cases heq
        · split at heq
          · cases heq
          · cases heq
            show skp z t i + nD z t (skp z t i) ≤ _; omega
