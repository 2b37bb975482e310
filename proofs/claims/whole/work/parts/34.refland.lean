/-! a land: parishes, seats, least, most, votes (parish, party), beside, stays (told pairs), as masks -/
abbrev LandT : Type := Nat × Nat × Nat × Nat × (Nat → Nat → Nat) × (Nat → Nat) × (Nat → Nat)
def LdN (L : LandT) : Nat := L.1
def LdS (L : LandT) : Nat := L.2.1
def LdLo (L : LandT) : Nat := L.2.2.1
def LdHi (L : LandT) : Nat := L.2.2.2.1
def LdV (L : LandT) : Nat → Nat → Nat := L.2.2.2.2.1
def LdB (L : LandT) : Nat → Nat := L.2.2.2.2.2.1
def LdT (L : LandT) : Nat → Nat := L.2.2.2.2.2.2
/-- the reference's land at the slot l -/
def rLd (M : Mem) (l : Nat) (L : LandT) : Prop := mI M 77 l = nI L.1 ∧ mI M 78 l = nI L.2.1 ∧ mI M 79 l = nI L.2.2.1 ∧ mI M 80 l = nI L.2.2.2.1 ∧
  ∀ p, p < 9 → (∀ k, k < 3 → mI M 81 (3 * (9 * l + p) + k) = nI (LdV L p k)) ∧ mI M 82 (9 * l + p) = nI (LdB L p) ∧ mI M 83 (9 * l + p) = nI (LdT L p)
/-- votes: the three numbers, what is wrong, the place -/
def tvT (z : Nat) (t : Nat → Nat) (w : Option Nat) (i : Nat) : (Nat × Nat × Nat) × Option Nat × Nat :=
  let r1 := numT z t 0 99 none w i
  let r2 := signT z t 44 r1.2.1 r1.2.2
  let r3 := numT z t 0 99 none r2.1 r2.2
  if r3.2.1 = none then
    (if skp z t r3.2.2 < z ∧ t (skp z t r3.2.2) = 44 then
      let r4 := numT z t 0 99 none none (skp z t r3.2.2 + 1)
      ((r1.1, r3.1, r4.1), r4.2.1, r4.2.2)
    else ((r1.1, r3.1, 0), none, skp z t r3.2.2))
  else ((r1.1, r3.1, 0), r3.2.1, r3.2.2)
theorem num_lt {z : Nat} {t : Nat → Nat} {low high : Nat} {but : Option Nat} {i f : Nat} (h : num z t low high but i = .inl f) : f ≤ max i z + 3 := by
  have := skp_le z t i
  have := nD_le z t (skp z t i)
  unfold num at h
  split at h
  · cases h; omega
  · split at h
    · cases h; omega
    · split at h
      · cases h; omega
      · cases h
theorem numT_w {z : Nat} {t : Nat → Nat} {low high : Nat} {but w : Option Nat} {i : Nat} (hz : z ≤ 300) (hi : i < 2 ^ 19) (hw : wOk w) : wOk (numT z t low high but w i).2.1 := by
  unfold numT
  cases w with
  | some f => exact hw
  | none =>
    dsimp only
    split
    · rename_i f heq
      intro g hg
      cases hg
      have := num_lt heq
      omega
    · intro g hg; cases hg
theorem signT_w {z : Nat} {t : Nat → Nat} {c : Nat} {w : Option Nat} {i : Nat} (hz : z ≤ 300) (hi : i < 2 ^ 19) (hw : wOk w) : wOk (signT z t c w i).1 := by
  have := skp_le z t i
  unfold signT
  cases w with
  | some f => exact hw
  | none =>
    dsimp only
    split
    · intro g hg; cases hg
    · intro g hg; cases hg; omega
theorem signT_le (z : Nat) (t : Nat → Nat) (c : Nat) (w : Option Nat) (i : Nat) : (signT z t c w i).2 ≤ max i z + 1 := by
  have := skp_le z t i
  unfold signT
  cases w with
  | some f => show i + 1 ≤ _; omega
  | none =>
    dsimp only
    split
    · show skp z t i + 1 ≤ _; omega
    · show skp z t i + 1 ≤ _; omega
theorem sI_ix {M : Mem} {a k : Nat} {v : Int32} (h : k < 2 ^ 31) : sI M a (ix (nI k)) v = sI M a k v := by rw [na_ix h]
theorem ExtPP {M B : Mem} {w w' : Option Nat} {i i' : Nat} (h : Ext M B) : Ext (pst M w i) (pst B w' i') := h
theorem sp_tellVotes {X : Cx} {d : Nat} {Q : Option AV → Mem → Prop} {z i l p : Nat} {w : Option Nat} {t : Nat → Nat} {M : Mem} (hd : 4 ≤ d) (hS : RfS M) (hT : rT M z t) (hi : i < 2 ^ 18) (hw : wOk w) (hl : l < 7) (hp : p < 9)
    (h : Q none (pst (sI (sI (sI M 81 (3 * (9 * l + p)) (nI (tvT z t w i).1.1)) 81 (3 * (9 * l + p) + 1) (nI (tvT z t w i).1.2.1)) 81 (3 * (9 * l + p) + 2) (nI (tvT z t w i).1.2.2)) (tvT z t w i).2.1 (tvT z t w i).2.2)) :
    Cl X d 0 0 m_X11_tellVotes [vR 75, vI (nI l), vI (nI p)] (pst M w i) Q := by
  have hz := hT.2.1
  have b1 := numT_le z t 0 99 none w i
  have w1 := numT_w (low := 0) (high := 99) (but := none) (t := t) hz (show i < 2 ^ 19 by omega) hw
  generalize hr1 : numT z t 0 99 none w i = r1 at b1 w1
  have b2 := signT_le z t 44 r1.2.1 r1.2.2
  have w2 := signT_w (c := 44) (t := t) hz (show r1.2.2 < 2 ^ 19 by omega) w1
  generalize hr2 : signT z t 44 r1.2.1 r1.2.2 = r2 at b2 w2
  have b3 := numT_le z t 0 99 none r2.1 r2.2
  have w3 := numT_w (low := 0) (high := 99) (but := none) (t := t) hz (show r2.2 < 2 ^ 19 by omega) w2
  generalize hr3 : numT z t 0 99 none r2.1 r2.2 = r3 at b3 w3
  have hk0 : 3 * (9 * l + p) + 2 < 189 := by omega
  refine e_X11_tellVotes (b_X11_tellVotes_0 (M := pst M w i) hS (by omega) (sp_voteAt (k := 0) ⟨_, rfl, Ext.refl _, sp_numT (but := none) (by omega) hS hT (by omega) hw (by omega) (by omega) (fun _ q => by cases q) ⟨_, rfl, ExtP, na_in (by omega) (by omega), fun M3 e3 => ?_⟩⟩))
  rw [hr1, Nat.add_zero, sI_ix (by omega), pst_sI (by decide)] at e3
  subst e3
  refine sp_signT (by omega) hS (hT.a (by decide) (by decide)) (by omega) w1 (by omega) ⟨rfl, ExtP, sp_voteAt (k := 1) ⟨_, rfl, Ext.refl _, ?_⟩⟩
  rw [hr2]
  refine sp_numT (but := none) (by omega) hS (hT.a (by decide) (by decide)) (by omega) w2 (by omega) (by omega) (fun _ q => by cases q) ⟨_, rfl, ExtP, na_in (by omega) (by omega), fun M7 e7 => ?_⟩
  rw [hr3, sI_ix (by omega), pst_sI (by decide)] at e7
  subst e7
  refine sp_voteAt (k := 2) ⟨_, rfl, Ext.refl _, na_in (by omega) (by omega), fun M9 e9 => ?_⟩
  rw [sI_ix (by omega), pst_sI (by decide)] at e9
  subst e9
  unfold tvT at h
  simp only [hr1, hr2, hr3] at h
  have hT9 : ∀ (a b c : Int32), rT (sI (sI (sI M 81 (3 * (9 * l + p)) a) 81 (3 * (9 * l + p) + 1) b) 81 (3 * (9 * l + p) + 2) c) z t := fun a b c => ((hT.a (by decide) (by decide)).a (by decide) (by decide)).a (by decide) (by decide)
  have h4 := oI_none (w := r3.2.1) (fun f hf => by have := w3 f hf; omega)
  refine ⟨fun hc => ?_, fun hc => ?_⟩
  · rw [pst_4, h4] at hc
    rw [if_neg hc] at h
    exact h
  · rw [pst_4, h4] at hc
    rw [if_pos hc] at h
    rw [hc]
    have b5 := skp_le z t r3.2.2
    refine sp_lookP hS (hT9 _ _ _) (by omega) ⟨_, rfl, ExtP, ⟨fun hq => ?_, fun hq M11 e11 => ?_⟩⟩
    · have : ¬ (skp z t r3.2.2 < z ∧ t (skp z t r3.2.2) = 44) := by
        rintro ⟨q1, q2⟩
        unfold lkV at hq
        rw [if_pos q1, q2] at hq
        exact hq rfl
      rw [if_neg this] at h
      exact h
    · have hc44 : skp z t r3.2.2 < z ∧ t (skp z t r3.2.2) = 44 := by
        unfold lkV at hq
        by_cases q1 : skp z t r3.2.2 < z
        · rw [if_pos q1, na_eq (by have := (hT.2.2 _ q1).2.2; omega) (by omega)] at hq
          exact ⟨q1, hq⟩
        · rw [if_neg q1] at hq; exact absurd hq.symm (na_m1 (by omega))
      rw [if_pos hc44] at h
      rw [pst_3, nI_add, pst_sI3] at e11
      subst e11
      refine sp_voteAt (k := 2) ⟨_, rfl, Ext.refl _, sp_numT (but := none) (by omega) hS (hT9 _ _ _) (by omega) (fun _ q => by cases q) (by omega) (by omega) (fun _ q => by cases q) ⟨_, rfl, ExtP, na_in (by omega) (by omega), fun M14 e14 => ?_⟩⟩
      rw [sI_ix (by omega), pst_sI (by decide), sI_sI] at e14
      subst e14
      exact h
