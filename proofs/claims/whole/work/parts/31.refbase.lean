/-! THE TEXT: what both read -/
/-- the next place from i on that is no blank -/
def skpF (z : Nat) (t : Nat → Nat) : Nat → Nat → Nat
  | 0, i => i
  | f + 1, i => if i < z ∧ t i = 32 then skpF z t f (i + 1) else i
def skp (z : Nat) (t : Nat → Nat) (i : Nat) : Nat := skpF z t (z - i) i
theorem skp_eq (z : Nat) (t : Nat → Nat) (i : Nat) : skp z t i = if i < z ∧ t i = 32 then skp z t (i + 1) else i := by
  unfold skp
  by_cases h : i < z ∧ t i = 32
  · rw [if_pos h, show z - i = (z - (i + 1)) + 1 by omega]
    simp only [skpF, if_pos h]
  · rw [if_neg h]
    cases hz : z - i with
    | zero => rfl
    | succ f => simp only [skpF, if_neg h]
theorem skpF_ge (z : Nat) (t : Nat → Nat) : ∀ f i, i ≤ skpF z t f i
  | 0, i => Nat.le_refl _
  | f + 1, i => by
    simp only [skpF]
    split
    · exact Nat.le_of_succ_le (skpF_ge z t f (i + 1))
    · exact Nat.le_refl _
theorem skp_ge (z : Nat) (t : Nat → Nat) (i : Nat) : i ≤ skp z t i := skpF_ge z t _ i
theorem skpF_le (z : Nat) (t : Nat → Nat) : ∀ f i, skpF z t f i ≤ max i z
  | 0, i => Nat.le_max_left _ _
  | f + 1, i => by
    simp only [skpF]
    split
    · have := skpF_le z t f (i + 1)
      omega
    · exact Nat.le_max_left _ _
theorem skp_le (z : Nat) (t : Nat → Nat) (i : Nat) : skp z t i ≤ max i z := skpF_le z t _ i
theorem skpF_skp (z : Nat) (t : Nat → Nat) : ∀ f i, z - i ≤ f → ¬ (skpF z t f i < z ∧ t (skpF z t f i) = 32)
  | 0, i, h => by simp only [skpF]; omega
  | f + 1, i, h => by
    simp only [skpF]
    split
    · exact skpF_skp z t f (i + 1) (by omega)
    · assumption
theorem skp_not (z : Nat) (t : Nat → Nat) (i : Nat) : ¬ (skp z t i < z ∧ t (skp z t i) = 32) := skpF_skp z t _ i (Nat.le_refl _)
theorem skp_skp (z : Nat) (t : Nat → Nat) (i : Nat) : skp z t (skp z t i) = skp z t i := by
  rw [skp_eq z t (skp z t i), if_neg (skp_not z t i)]
def isD (z : Nat) (t : Nat → Nat) (k : Nat) : Bool := decide (k < z) && decide (48 ≤ t k) && decide (t k ≤ 57)
def nD (z : Nat) (t : Nat → Nat) (j : Nat) : Nat := if isD z t j = false then 0 else if isD z t (j + 1) = false then 1 else if isD z t (j + 2) = false then 2 else if isD z t (j + 3) = false then 3 else 4
def vD (t : Nat → Nat) (j k : Nat) : Nat := if k = 0 then 0 else if k = 1 then t j - 48 else if k = 2 then 10 * (t j - 48) + (t (j + 1) - 48) else 10 * (10 * (t j - 48) + (t (j + 1) - 48)) + (t (j + 2) - 48)
theorem vD_1 (t : Nat → Nat) (j : Nat) : vD t j 1 = t j - 48 := rfl
theorem vD_2 (t : Nat → Nat) (j : Nat) : vD t j 2 = 10 * (t j - 48) + (t (j + 1) - 48) := rfl
theorem vD_3 (t : Nat → Nat) (j : Nat) : vD t j 3 = 10 * (10 * (t j - 48) + (t (j + 1) - 48)) + (t (j + 2) - 48) := rfl
/-- a number within bounds and unlike another: its fault, or its value and the place behind it -/
def num (z : Nat) (t : Nat → Nat) (low high : Nat) (but : Option Nat) (i : Nat) : Nat ⊕ (Nat × Nat) :=
  if nD z t (skp z t i) = 0 then .inl (skp z t i) else if nD z t (skp z t i) = 4 then .inl (skp z t i + 3)
  else if vD t (skp z t i) (nD z t (skp z t i)) < low ∨ high < vD t (skp z t i) (nD z t (skp z t i)) ∨ some (vD t (skp z t i) (nD z t (skp z t i))) = but then .inl (skp z t i + nD z t (skp z t i) - 1)
  else .inr (vD t (skp z t i) (nD z t (skp z t i)), skp z t i + nD z t (skp z t i))
theorem nD_le (z : Nat) (t : Nat → Nat) (j : Nat) : nD z t j ≤ 4 := by unfold nD; split <;> (try split) <;> (try split) <;> (try split) <;> omega
/-! THE REFERENCE on the tape -/
def rT (M : Mem) (z : Nat) (t : Nat → Nat) : Prop := mI M 75 2 = nI z ∧ z ≤ 300 ∧ ∀ i, i < z → mI M 76 i = nI (t i) ∧ 0 < t i ∧ t i < 256
theorem sI_sI {M : Mem} {a i : Nat} {v w : Int32} : sI (sI M a i v) a i w = sI M a i w := by
  unfold sI; congr 1; funext b j; unfold up2; by_cases h : b = a ∧ j = i <;> simp [h]
theorem sI_self {M : Mem} {a i : Nat} {v : Int32} (h : mI M a i = v) : sI M a i v = M := by
  subst h
  show (up2 M.1 a i (M.1 a i), M.2.1, M.2.2.1, M.2.2.2) = M
  rw [show up2 M.1 a i (M.1 a i) = M.1 by
    funext b j; unfold up2
    by_cases h : b = a ∧ j = i
    · obtain ⟨rfl, rfl⟩ := h; simp
    · rw [if_neg h]]
theorem rT.s {M : Mem} {z : Nat} {t : Nat → Nat} {k : Nat} {v : Int32} (h : rT M z t) (hk : k ≠ 2) : rT (sI M 75 k v) z t := by
  refine ⟨?_, h.2.1, fun i hi => ?_⟩
  · rw [mI_sI_i (Ne.symm hk)]; exact h.1
  · rw [mI_sI_a (by decide)]; exact h.2.2 i hi
theorem sp_in {X : Cx} {d : Nat} {M : Mem} {Q : Option AV → Mem → Prop} {v low high : Int32} (h : Q (some (vI (bI (decide (low ≤ v) && decide (v ≤ high))))) M) : Cl X d 0 0 m_X11_in [vI v, vI low, vI high] M Q := by
  refine Cl.intro (L := [some (vI v), some (vI low), some (vI high)]) (k := 0) (by decide) rfl rfl ?_
  refine b_X11_in_0 ⟨fun hc => ?_, fun hc => ⟨fun hc2 => ?_, fun hc2 => ?_⟩⟩
  · rw [decide_eq_false (Int32.not_le.mpr hc)] at h; exact h
  · rw [decide_eq_true (Int32.not_lt.mp hc), decide_eq_false (Int32.not_le.mpr hc2)] at h; exact h
  · rw [decide_eq_true (Int32.not_lt.mp hc), decide_eq_true (Int32.not_lt.mp hc2)] at h; exact h
/-- what look answers at a place that is no blank -/
def lkV (z : Nat) (t : Nat → Nat) (j : Nat) : Int32 := if j < z then nI (t j) else (-1)
theorem wa_look {X : Cx} {d kc ns : Nat} {Q : Option AV → Mem → Prop} {z : Nat} {t : Nat → Nat} : ∀ (n i : Nat) (M : Mem), z - i ≤ n → RfS M → rT M z t → mI M 75 3 = nI i → i < 2 ^ 20 → Q (some (vI (lkV z t (skp z t i)))) (sI M 75 3 (nI (skp z t i))) → WA X d kc ns m_X11_look 0 [some (vR 75)] [] M Q := by
  intro n
  induction n with
  | zero =>
    intro i M hn hS hT ha hi h
    have hz : z ≤ i := by omega
    have hsk : skp z t i = i := by rw [skp_eq, if_neg (by omega)]
    have hc : mI M 75 2 ≤ mI M 75 3 := by rw [hT.1, ha, na_le (by have := hT.2.1; omega) (by omega)]; exact hz
    rw [hsk, sI_self ha] at h
    have hl : lkV z t i = (-1) := if_neg (by omega)
    rw [hl] at h
    refine b_X11_look_0 hS ⟨fun _ => b_X11_look_38 hS ⟨fun _ => h, fun q => absurd hc q⟩, fun q => absurd hc q⟩
  | succ n ih =>
    intro i M hn hS hT ha hi h
    have hz3 := hT.2.1
    by_cases hz : z ≤ i
    · have hsk : skp z t i = i := by rw [skp_eq, if_neg (by omega)]
      have hc : mI M 75 2 ≤ mI M 75 3 := by rw [hT.1, ha, na_le (by omega) (by omega)]; exact hz
      rw [hsk, sI_self ha] at h
      have hl : lkV z t i = (-1) := if_neg (by omega)
      rw [hl] at h
      refine b_X11_look_0 hS ⟨fun _ => b_X11_look_38 hS ⟨fun _ => h, fun q => absurd hc q⟩, fun q => absurd hc q⟩
    · have hc : ¬ mI M 75 2 ≤ mI M 75 3 := by rw [hT.1, ha, na_le (by omega) (by omega)]; exact hz
      obtain ⟨t1, t2, t3⟩ := hT.2.2 i (by omega)
      have hin : vp_in (mI M 75 3) 300 := by rw [ha]; exact na_in (by omega) (by omega)
      have hx : ix (mI M 75 3) = i := by rw [ha]; exact na_ix (by omega)
      have hrd : mI M 76 (ix (mI M 75 3)) = nI (t i) := by rw [hx]; exact t1
      by_cases h32 : t i = 32
      · have hsk : skp z t i = skp z t (i + 1) := by rw [skp_eq, if_pos ⟨by omega, h32⟩]
        refine b_X11_look_0 hS ⟨fun q => absurd q hc, fun _ => ⟨hin, fun q => absurd (by rw [hrd, h32]) q, fun _ M1 hM1 => ?_⟩⟩
        rw [ha, nI_add] at hM1
        subst hM1
        refine ih (i + 1) _ (by omega) hS (hT.s (by decide)) mI_sI_eq (by omega) ?_
        rw [sI_sI, ← hsk]
        exact h
      · have hsk : skp z t i = i := by rw [skp_eq, if_neg (by omega)]
        have h9 : ¬ mI M 76 (ix (mI M 75 3)) = nI 32 := by rw [hrd, na_eq (by omega) (by omega)]; exact h32
        rw [hsk, sI_self ha] at h
        have hl : lkV z t i = nI (t i) := if_pos (by omega)
        rw [hl] at h
        refine b_X11_look_0 hS ⟨fun q => absurd q hc, fun _ => ⟨hin, fun _ => b_X11_look_38 hS ⟨fun q => absurd q hc, fun _ => ⟨hin, ?_⟩⟩, fun q => absurd q h9⟩⟩
        rw [hrd]
        exact h
theorem sp_look {X : Cx} {d : Nat} {Q : Option AV → Mem → Prop} {z i : Nat} {t : Nat → Nat} {M : Mem} (hS : RfS M) (hT : rT M z t) (ha : mI M 75 3 = nI i) (hi : i < 2 ^ 20) (h : Q (some (vI (lkV z t (skp z t i)))) (sI M 75 3 (nI (skp z t i)))) : Cl X d 0 0 m_X11_look [vR 75] M Q :=
  Cl.intro (L := [some (vR 75)]) (k := 0) (by decide) rfl rfl (wa_look z i M (by omega) hS hT ha hi h)
theorem sp_bad {X : Cx} {d : Nat} {Q : Option AV → Mem → Prop} {p : Int32} {M : Mem} (hS : RfS M) (h : Q none (sI M 75 4 (if mI M 75 4 = (-1) then p else mI M 75 4))) : Cl X d 0 0 m_X11_bad [vR 75, vI p] M Q := by
  refine Cl.intro (L := [some (vR 75), some (vI p)]) (k := 0) (by decide) rfl rfl ?_
  refine b_X11_bad_0 hS ⟨fun hc => b_X11_bad_17 hS (fun M1 e => ?_), fun hc => b_X11_bad_17 hS (fun M1 e => ?_)⟩
  · rw [if_neg hc] at h; subst e; exact h
  · rw [if_pos hc] at h; subst e; exact h
theorem sp_isDigit {X : Cx} {d : Nat} {Q : Option AV → Mem → Prop} {c : Int32} {M : Mem} (h : Q (some (vI (bI (decide (nI 48 ≤ c) && decide (c ≤ nI 57))))) M) : Cl X d 0 0 m_X11_isDigit [vI c] M Q := by
  refine Cl.intro (L := [some (vI c)]) (k := 0) (by decide) rfl rfl ?_
  refine b_X11_isDigit_0 ⟨fun hc => ?_, fun hc => ⟨fun hc2 => ?_, fun hc2 => ?_⟩⟩
  · rw [decide_eq_false (Int32.not_le.mpr hc)] at h; exact h
  · rw [decide_eq_true (Int32.not_lt.mp hc), decide_eq_false (Int32.not_le.mpr hc2)] at h; exact h
  · rw [decide_eq_true (Int32.not_lt.mp hc), decide_eq_true (Int32.not_lt.mp hc2)] at h; exact h
