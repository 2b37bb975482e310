/-! THE REFERENCE: halves -/
def fzF (u : Nat) : Nat → Nat → Nat
  | 0, i => i
  | f + 1, i => if u.testBit i then fzF u f (i + 1) else i
/-- the lowest that is not in u -/
def loN (u : Nat) : Nat := fzF u 8 0
def n62 (l0 l1 : Int32) : Int32 := if l0 ≤ nI 4 then l1 + ushr l0 (nI 1) else (l1 + nI 2) + ushr (ushr l0 (nI 2)) (nI 1)
def n49 (l0 l1 : Int32) : Int32 := if l0 ≤ nI 16 then n62 l0 l1 else n62 (ushr l0 (nI 4)) (l1 + nI 4)
def n34 (l0 l1 : Int32) : Int32 := if l0 ≤ nI 256 then n49 l0 l1 else n49 (ushr l0 (nI 8)) (l1 + nI 8)
def ntI (l0 : Int32) : Int32 :=
  let x1 := (l0 ^^^ (-1)) &&& (l0 - nI 1)
  if nI 0 < x1 then (if x1 ≤ nI 65536 then n34 x1 (nI 1) else n34 (ushr x1 (nI 16)) (nI 1 + nI 16)) else x1 &&& nI 32
theorem nt_dec : ∀ u, u < 256 → ntI (nI u ^^^ (-1)) = nI (loN u) := by decide +kernel
theorem lo_dec : ∀ u, u < 256 → loN u ≤ 8 ∧ (loN u < 8 → u.testBit (loN u) = false) := by decide +kernel
def zcN (u : Nat) : Nat := 8 - pcN 8 u
theorem zc_dec : ∀ u, u < 256 → ∀ o, o < 8 → loN u < o → u.testBit o = false → zcN ((u ||| 2 ^ loN u) ||| 2 ^ o) + 2 = zcN u := by decide +kernel
theorem sp_ntz {X : Cx} {d u : Nat} {M : Mem} {Q : Option AV → Mem → Prop} (hu : u < 256) (h : Q (some (vI (nI (loN u)))) M) : Cl X d 0 0 m_J6_numberOfTrailingZeros_0f7a4 [vI (nI u ^^^ (-1))] M Q := by
  rw [← nt_dec u hu] at h
  have h62 : ∀ l0 l1 : Int32, Q (some (vI (n62 l0 l1))) M → WA X d 0 0 m_J6_numberOfTrailingZeros_0f7a4 62 [some (vI l0), some (vI l1)] [] M Q := fun l0 l1 hq => by
    refine b_J6_numberOfTrailingZeros_0f7a4_62 ⟨fun c => ?_, fun c x1 e1 => ?_⟩
    · unfold n62 at hq; rw [if_pos c] at hq; exact hq
    · unfold n62 at hq; rw [if_neg c] at hq; rw [e1]; exact hq
  have h49 : ∀ l0 l1 : Int32, Q (some (vI (n49 l0 l1))) M → WA X d 0 0 m_J6_numberOfTrailingZeros_0f7a4 49 [some (vI l0), some (vI l1)] [] M Q := fun l0 l1 hq => by
    refine b_J6_numberOfTrailingZeros_0f7a4_49 ⟨fun c => h62 _ _ ?_, fun c x1 e1 => ?_⟩
    · unfold n49 at hq; rw [if_pos c] at hq; exact hq
    · unfold n49 at hq; rw [if_neg c] at hq; rw [e1]; exact h62 _ _ hq
  have h34 : ∀ l0 l1 : Int32, Q (some (vI (n34 l0 l1))) M → WA X d 0 0 m_J6_numberOfTrailingZeros_0f7a4 34 [some (vI l0), some (vI l1)] [] M Q := fun l0 l1 hq => by
    refine b_J6_numberOfTrailingZeros_0f7a4_34 ⟨fun c => h49 _ _ ?_, fun c x1 e1 => ?_⟩
    · unfold n34 at hq; rw [if_pos c] at hq; exact hq
    · unfold n34 at hq; rw [if_neg c] at hq; rw [e1]; exact h49 _ _ hq
  refine e_J6_numberOfTrailingZeros_0f7a4 (b_J6_numberOfTrailingZeros_0f7a4_0 (fun x1 e1 => ?_))
  unfold ntI at h
  dsimp only at h
  rw [← e1] at h
  refine ⟨fun c => ⟨fun c2 => h34 _ _ ?_, fun c2 x2 e2 => ?_⟩, fun c => ?_⟩
  · rw [if_pos c, if_pos c2] at h; exact h
  · rw [if_pos c, if_neg c2] at h; rw [e2]; exact h34 _ _ h
  · rw [if_neg c] at h; exact h
def anyR (f : Nat → Bool) : Nat → Nat → Bool
  | 0, _ => false
  | j + 1, s => f s || anyR f j (s + 1)
def fldR {α : Type} (step : α → Nat → α) : Nat → Nat → α → α
  | 0, _, a => a
  | j + 1, s, a => fldR step j (s + 1) (step a s)
/-- whether the halves P (m of them, without u) can be joined two by two -/
def cpB (L : LandT) (P : Nat → Nat) (m : Nat) : Nat → Nat → Bool
  | 0, _ => true
  | f + 1, u => if m ≤ loN u then true else anyR (fun o => !u.testBit o && decide (faL L (P (loN u) ||| P o) = 0) && cpB L P m f ((u ||| 2 ^ loN u) ||| 2 ^ o)) (m - (loN u + 1)) (loN u + 1)
/-- what a seat adds to the goal g -/
def woL (g w : Nat) : Int := if g = 0 then (if w = 0 then 1 else if w = 1 then -1 else 0) else if w = g - 1 then 1 else 0
def beI (gr : Bool) (b : Option Int) (v : Int) : Int := match b with
  | none => v
  | some b => if (if gr then b < v else v < b) then v else b
def pvT (L : LandT) (P : Nat → Nat) (g : Nat) (gr : Bool) (u : Nat) (rec : Nat → Option Int) (acc : Option Int) (o : Nat) : Option Int :=
  if u.testBit o = true ∨ faL L (P (loN u) ||| P o) ≠ 0 then acc else match rec ((u ||| 2 ^ loN u) ||| 2 ^ o) with
    | none => acc
    | some v => some (beI gr acc (v + woL g (wnL L (P (loN u) ||| P o))))
/-- the best of what they can be joined to -/
def pvB (L : LandT) (P : Nat → Nat) (m g : Nat) (gr : Bool) : Nat → Nat → Option Int
  | 0, _ => some 0
  | f + 1, u => if m ≤ loN u then some 0 else fldR (pvT L P g gr u (pvB L P m g gr f)) (m - (loN u + 1)) (loN u + 1) none
theorem fldR_isSome {L : LandT} {P : Nat → Nat} {g u : Nat} {gr : Bool} {rec : Nat → Option Int} {recB : Nat → Bool} (h : ∀ w, recB w = (rec w).isSome) : ∀ j s acc, (fldR (pvT L P g gr u rec) j s acc).isSome = (acc.isSome || anyR (fun o => !u.testBit o && decide (faL L (P (loN u) ||| P o) = 0) && recB ((u ||| 2 ^ loN u) ||| 2 ^ o)) j s)
  | 0, s, acc => by simp [fldR, anyR]
  | j + 1, s, acc => by
    rw [fldR, fldR_isSome h j (s + 1), anyR, ← Bool.or_assoc]
    congr 1
    unfold pvT
    rw [h]
    by_cases h1 : u.testBit s = true
    · simp [h1]
    · by_cases h2 : faL L (P (loN u) ||| P s) = 0
      · have h1 : u.testBit s = false := by simpa using h1
        rw [if_neg (by rw [h1, h2]; simp), h1, h2]
        cases rec ((u ||| 2 ^ loN u) ||| 2 ^ s) with
        | none => simp
        | some v => simp
      · rw [if_pos (Or.inr h2)]; simp [h2]
theorem cpB_pv {L : LandT} {P : Nat → Nat} {m g : Nat} {gr : Bool} : ∀ f u, cpB L P m f u = (pvB L P m g gr f u).isSome
  | 0, u => rfl
  | f + 1, u => by
    unfold cpB pvB
    split
    · rfl
    · rw [fldR_isSome (fun w => cpB_pv f w)]; simp
theorem woL_b (g w : Nat) : -1 ≤ woL g w ∧ woL g w ≤ 1 := by
  unfold woL
  split
  · split
    · omega
    · split <;> omega
  · split <;> omega
theorem beI_b {gr : Bool} {b : Option Int} {v lo hi : Int} (hb : ∀ x, b = some x → lo ≤ x ∧ x ≤ hi) (hv : lo ≤ v ∧ v ≤ hi) : lo ≤ beI gr b v ∧ beI gr b v ≤ hi := by
  unfold beI
  cases b with
  | none => exact hv
  | some x =>
    dsimp only
    by_cases hc : (if gr = true then x < v else v < x)
    · rw [if_pos hc]; exact hv
    · rw [if_neg hc]; exact hb x rfl
theorem pvT_b {L : LandT} {P : Nat → Nat} {g u : Nat} {gr : Bool} {rec : Nat → Option Int} {n : Int} (hr : ∀ w v, rec w = some v → -n ≤ v ∧ v ≤ n) : ∀ j s acc, (∀ v, acc = some v → -(n + 1) ≤ v ∧ v ≤ n + 1) → ∀ v, fldR (pvT L P g gr u rec) j s acc = some v → -(n + 1) ≤ v ∧ v ≤ n + 1
  | 0, s, acc, ha, v, h => ha v h
  | j + 1, s, acc, ha, v, h => by
    refine pvT_b hr j (s + 1) _ (fun x hx => ?_) v h
    unfold pvT at hx
    split at hx
    · exact ha x hx
    · cases hc : rec ((u ||| 2 ^ loN u) ||| 2 ^ s) with
      | none => rw [hc] at hx; exact ha x hx
      | some y =>
        rw [hc] at hx
        cases hx
        have h1 := hr _ _ hc
        have h2 := woL_b g (wnL L (P (loN u) ||| P s))
        exact beI_b ha (by omega)
theorem pvB_b {L : LandT} {P : Nat → Nat} {m g : Nat} {gr : Bool} : ∀ (f u : Nat) (v : Int), pvB L P m g gr f u = some v → -(f : Int) ≤ v ∧ v ≤ f
  | 0, u, v, h => by cases h; omega
  | f + 1, u, v, h => by
    unfold pvB at h
    split at h
    · cases h; omega
    · have := pvT_b (n := f) (fun w v hv => pvB_b f w v hv) _ _ none (fun v hv => by cases hv) v h
      omega
def oZ : Option Int → Int32
  | none => nI 1000
  | some v => zI v
theorem oZ_none {b : Option Int} (h : ∀ v, b = some v → -900 ≤ v ∧ v ≤ 900) : oZ b = nI 1000 ↔ b = none := by
  cases b with
  | none => exact ⟨fun _ => rfl, fun _ => rfl⟩
  | some v =>
    obtain ⟨h1, h2⟩ := h v rfl
    refine ⟨fun q => ?_, fun q => by cases q⟩
    have : zI v = zI (1000 : Nat) := by rw [zI_n]; exact q
    rw [zI_eq (by omega) (by omega) (by omega) (by omega)] at this
    omega
/-- all the halves of c hang together and can be joined -/
def okH (L : LandT) (o m c : Nat) : Bool := decide (∀ h, h < m → faL L (sOB 3 L.1 c o h) ≠ 2) && cpB L (sOB 3 L.1 c o) m 5 0
def ihB (L : LandT) (x : Int32) (o m : Nat) : Bool := match inN x (8 ^ L.1) with
  | none => false
  | some c => decide (nuF 3 L.1 c o L.1 = some (2 * m)) && okH L o (2 * m) c
def hvT (L : LandT) (g : Nat) (sm sk : Bool) (o m : Nat) (st : Option (Int × Nat)) (c : Nat) : Option (Int × Nat) :=
  if okH L o m c then (if sk then (match st with
    | none => some ((pvB L (sOB 3 L.1 c o) m g (!sm) 5 0).getD 0, c)
    | some q => if (if sm then q.1 < (pvB L (sOB 3 L.1 c o) m g (!sm) 5 0).getD 0 else (pvB L (sOB 3 L.1 c o) m g (!sm) 5 0).getD 0 < q.1) then some ((pvB L (sOB 3 L.1 c o) m g (!sm) 5 0).getD 0, c) else some q)
    else (match st with
    | none => some (0, c)
    | some q => some q)) else st
/-- halves sought: the first of the best -/
def hvF (L : LandT) (g : Nat) (sm sk : Bool) (o m : Nat) : Option (Int × Nat) := (enB 3 L.1 o (2 * m) L.1 0 0).foldl (hvT L g sm sk o (2 * m)) none
def hvS (a k : Nat) : Prop := a = 93 ∨ (a = 75 ∧ (k = 35 ∨ k = 37 ∨ k = 38 ∨ k = 39 ∨ k = 42))
theorem hvS_sc {M B : Mem} (h : Fr hvS M B) : Fr scS M B := h.mono (fun a k q => by unfold hvS at q; unfold scS; omega)
theorem rH.hv {M B : Mem} {l : Nat} {L : LandT} (h : rH M l L) (hF : Fr hvS M B) : rH B l L :=
  h.fr hF (fun a i h1 h2 q => by unfold hvS at q; omega) (fun q => by unfold hvS at q; omega) (fun i q => by unfold hvS at q; omega) (fun i q => by unfold hvS at q; omega)
def skR (M : Mem) (sk sm : Bool) (st : Option (Int × Nat)) : Prop := mI M 75 35 = bI sk ∧ (sk = true → mI M 75 37 = bI sm) ∧ mI M 75 42 = bI st.isSome ∧ (sk = true → ∀ q, st = some q → mI M 75 38 = zI q.1 ∧ mI M 75 39 = nI q.2 ∧ -9 ≤ q.1 ∧ q.1 ≤ 9)
section HALF
variable {X : Cx} {l : Nat} {L : LandT} {M : Mem} {Q : Option AV → Mem → Prop}
theorem sp_half {d c p : Nat} (hH : rH M l L) (hc : c < 2 ^ 31) (hp : p < L.1) (h : Q (some (vI (nI (dgB 3 L.1 c p)))) M) : Cl X d 0 0 m_X11_half [vR 75, vI (nI c), vI (nI p)] M Q := by
  have hb := hH.b
  refine e_X11_half (b_X11_half_0 hH.1 ⟨hH.i, ?_⟩)
  rw [hH.n]
  have := shr_mod (b := 3) hc hp (by omega) (by omega) (by omega)
  rw [show (2 ^ 3 - 1 : Nat) = 7 from rfl] at this
  rw [this]
  exact h
theorem sp_halfOf {d c o s : Nat} (hd : 1 ≤ d) (hH : rH M l L) (hc : c < 2 ^ 31) (ho : o < 2 ^ 31) (hs : s < 2 ^ 31) (h : Q (some (vI (nI (sOB 3 L.1 c o s)))) M) : Cl X d 0 0 m_X11_halfOf [vR 75, vI (nI c), vI (nI o), vI (nI s)] M Q := by
  have hb := hH.b
  have key : ∀ r p, p + r = L.1 → WA X d 0 0 m_X11_halfOf 6 [some (vR 75), some (vI (nI c)), some (vI (nI o)), some (vI (nI s)), some (vI (nI (mkS p (fun p => o.testBit p && decide (dgB 3 L.1 c p = s))))), some (vI (nI p))] [] M Q := by
    intro r
    induction r with
    | zero =>
      intro p hp
      obtain rfl : p = L.1 := by omega
      exact b_X11_halfOf_6 hH.1 (by omega) ⟨hH.i, fun _ => h, fun q => absurd (by rw [hH.n, na_le (by omega) (by omega)]; omega) q⟩
    | succ r ih =>
      intro p hp
      have hn := ih (p + 1) (by omega)
      have h50 : ¬ (o.testBit p && decide (dgB 3 L.1 c p = s)) = true → WA X d 0 0 m_X11_halfOf 50 [some (vR 75), some (vI (nI c)), some (vI (nI o)), some (vI (nI s)), none, some (vI (nI p))] [vI (nI (mkS p (fun p => o.testBit p && decide (dgB 3 L.1 c p = s))))] M Q := by
        intro hf
        refine b_X11_halfOf_50 hH.1 (fun x1 e1 => ?_)
        rw [e1, or0, nI_add]
        simp only [mkS, if_neg hf] at hn
        exact hn
      refine b_X11_halfOf_6 hH.1 (by omega) ⟨hH.i, fun q => ?_, fun _ => ⟨fun hb2 => ?_, fun hb2 => ?_⟩⟩
      · rw [hH.n, na_le (by omega) (by omega)] at q; omega
      · rw [bit1 (by omega) (by omega)] at hb2
        exact h50 (by simp [hb2])
      · rw [bit1 (by omega) (by omega)] at hb2
        have hdl := dgB_lt 3 L.1 c p
        refine sp_half hH hc (by omega) ⟨_, rfl, Ext.refl _, fun hq => ?_, fun hq x2 e2 => ?_⟩
        · rw [na_eq (by omega) (by omega)] at hq
          exact h50 (by simp [hq])
        · rw [na_eq (by omega) (by omega)] at hq
          rw [e2, na_1shl (by omega), na_or, nI_add]
          simp only [mkS, hb2, hq, decide_true, Bool.and_true, if_true] at hn
          exact hn
  exact e_X11_halfOf (b_X11_halfOf_0 hH.1 (key L.1 0 (by omega)))
theorem sp_hangs {d v : Nat} (hv : v ≤ 4) (h : Q (some (vI (bI (decide (v ≠ 2))))) M) : Cl X d 0 0 m_X11_hangs [vI (nI v)] M Q := by
  refine e_X11_hangs (b_X11_hangs_0 ⟨fun q => ?_, fun q => ?_⟩)
  · rw [na_eq (by omega) (by omega)] at q
    rw [decide_eq_false (fun z => z q)] at h; exact h
  · rw [na_eq (by omega) (by omega)] at q
    rw [decide_eq_true q] at h; exact h
theorem or_lt {a b n : Nat} (ha : a < 2 ^ n) (hb : b < 2 ^ n) : a ||| b < 2 ^ n := Nat.or_lt_two_pow ha hb
theorem sp_canPair {P : Nat → Nat} {m : Nat} (hH : rH M l L) (hm : m ≤ 8) (hP : ∀ h, h < m → mI M 93 h = nI (P h) ∧ P h < 2 ^ L.1 ∧ 1 ≤ P h) : ∀ (f u d : Nat) (Q : Option AV → Mem → Prop), f + 1 ≤ d → u < 256 → zcN u + 1 ≤ 2 * f → Q (some (vI (bI (cpB L P m f u)))) M → Cl X d 0 0 m_X11_canPair [vR 75, vI (nI u), vI (nI m)] M Q := by
  have hb := hH.b
  have h512 := p9 hb.2.1
  intro f
  induction f with
  | zero => intro u d Q hd hu hz h; omega
  | succ f ih =>
    intro u d Q hd hu hz h
    obtain ⟨lo1, lo2⟩ := lo_dec u hu
    refine e_X11_canPair (b_X11_canPair_0 hH.1 (by omega) (sp_ntz hu ⟨_, rfl, Ext.refl _, fun q x2 e2 => ?_, fun q => ?_⟩))
    · rw [na_lt (by omega) (by omega)] at q
      unfold cpB at h; rw [if_neg (by omega)] at h
      obtain ⟨p1, p2, p3⟩ := hP (loN u) q
      have key : ∀ j o, o + j = m → loN u < o → Q (some (vI (bI (anyR (fun o => !u.testBit o && decide (faL L (P (loN u) ||| P o) = 0) && cpB L P m f ((u ||| 2 ^ loN u) ||| 2 ^ o)) j o)))) M → WA X d 0 0 m_X11_canPair 19 [some (vR 75), some (vI (nI u)), some (vI (nI m)), some (vI (nI (loN u))), some (vI (nI o)), none] [] M Q := by
        intro j
        induction j with
        | zero =>
          intro o ho hlo hq
          exact b_X11_canPair_19 hH.1 ⟨fun _ => hq, fun q => absurd (by rw [na_le (by omega) (by omega)]; omega) q⟩
        | succ j jh =>
          intro o ho hlo hq
          obtain ⟨o1, o2, o3⟩ := hP o (by omega)
          have hor := or_lt p2 o2
          have hpos : 1 ≤ P (loN u) ||| P o := Nat.le_trans p3 Nat.left_le_or
          have hfl := faL_le L (P (loN u) ||| P o)
          unfold anyR at hq
          have skip : (!u.testBit o && decide (faL L (P (loN u) ||| P o) = 0)) = false → WA X d 0 0 m_X11_canPair 60 [some (vR 75), some (vI (nI u)), some (vI (nI m)), some (vI (nI (loN u))), some (vI (nI o)), none] [] M Q := by
            intro hf
            rw [hf, Bool.false_and, Bool.false_or] at hq
            refine b_X11_canPair_60 hH.1 (b_X11_canPair_61 hH.1 (by omega) ⟨fun _ => ?_, fun q => absurd rfl q⟩)
            rw [nI_add]
            exact jh (o + 1) (by omega) (by omega) hq
          have ex : ∀ h, h < m → mI M 93 (ix (nI h)) = nI (P h) := fun h hh => by rw [na_ix (by omega)]; exact (hP h hh).1
          refine b_X11_canPair_19 hH.1 ⟨fun q9 => ?_, fun _ => ⟨fun q9 => ?_, fun q9 => ⟨na_in (by omega) (by omega), na_in (by omega) (by omega), ?_, fun q8 => ?_, fun q8 => ?_⟩⟩⟩
          · rw [na_le (by omega) (by omega)] at q9; omega
          · rw [bit0 (by omega) (by omega)] at q9
            exact skip (by simp [show u.testBit o = true by simpa using q9])
          · rw [ex _ q, ex _ (by omega), na_or]; exact na_in (by omega) (by omega)
          · rw [ex _ q, ex _ (by omega), na_or, na_ix (by omega), (hH.2.2.2.2.2 _ hpos hor).1, na_eq (by omega) (by omega)] at q8
            exact skip (by simp [q8])
          · rw [ex _ q, ex _ (by omega), na_or, na_ix (by omega), (hH.2.2.2.2.2 _ hpos hor).1, na_eq (by omega) (by omega)] at q8
            rw [bit0 (by omega) (by omega)] at q9
            rw [q9, q8] at hq
            have hu2 : (u ||| 2 ^ loN u) ||| 2 ^ o < 256 := by
              have a1 : 2 ^ loN u < 2 ^ 8 := Nat.pow_lt_pow_right (by decide) (by omega)
              have a2 : 2 ^ o < 2 ^ 8 := Nat.pow_lt_pow_right (by decide) (by omega)
              exact Nat.or_lt_two_pow (Nat.or_lt_two_pow (n := 8) hu a1) a2
            have hz2 := zc_dec u hu o (by omega) hlo q9
            refine b_X11_canPair_61 hH.1 (by omega) ⟨fun z => absurd z (by decide), fun _ => ?_⟩
            rw [na_1shl (by omega), na_1shl (by omega), na_or, na_or]
            refine ih _ _ _ (by omega) hu2 (by omega) ⟨_, rfl, Ext.refl _, fun z => ?_, fun z => ?_⟩
            · rw [bI_0.mp z] at hq
              simp only [Bool.not_false, decide_true, Bool.and_self, Bool.and_false, Bool.false_or] at hq
              rw [nI_add]
              exact jh (o + 1) (by omega) (by omega) hq
            · rw [bI_n0.mp z] at hq
              have hq2 : Q (some (vI (bI true))) M := by simpa using hq
              exact hq2
      rw [e2, nI_add]
      exact key (m - (loN u + 1)) (loN u + 1) (by omega) (by omega) h
    · rw [na_lt (by omega) (by omega)] at q
      unfold cpB at h; rw [if_pos (by omega)] at h
      exact h
theorem sp_worth {d set g : Nat} (hH : rH M l L) (hg : mI M 75 36 = nI g) (hg3 : g < 3) (h1 : 1 ≤ set) (h2 : set < 2 ^ L.1) (h : Q (some (vI (zI (woL g (wnL L set))))) M) : Cl X d 0 0 m_X11_worth [vR 75, vI (nI set)] M Q := by
  have hb := hH.b
  have h512 := p9 hb.2.1
  have hw := wnL_le L set
  refine e_X11_worth (b_X11_worth_0 hH.1 ⟨na_in (by omega) (by omega), fun x1 e1 => ?_⟩)
  rw [na_ix (by omega), (hH.2.2.2.2.2 _ h1 h2).2] at e1
  subst e1
  rw [hg]
  unfold woL at h
  refine ⟨fun q => ⟨fun q2 => ?_, fun q2 => ?_⟩, fun q => ⟨fun q2 => ⟨fun q3 => ?_, fun q3 => ?_⟩, fun q2 => ?_⟩⟩
  · rw [na_eq (by omega) (by omega)] at q
    rw [na_sub (by omega), na_eq (by omega) (by omega)] at q2
    rw [if_neg q, if_neg q2] at h; exact h
  · rw [na_eq (by omega) (by omega)] at q
    rw [na_sub (by omega), na_eq (by omega) (by omega)] at q2
    rw [if_neg q, if_pos q2] at h; exact h
  · rw [na_eq (by omega) (by omega)] at q q2 q3
    rw [if_pos q, if_neg q2, if_neg q3] at h; exact h
  · rw [na_eq (by omega) (by omega)] at q q2 q3
    rw [if_pos q, if_neg q2, if_pos q3, zI_m1] at h; exact h
  · rw [na_eq (by omega) (by omega)] at q q2
    rw [if_pos q, if_pos q2] at h; exact h
theorem sp_better {d : Nat} {b : Option Int} {v : Int} {gr : Bool} (hb : ∀ x, b = some x → -900 ≤ x ∧ x ≤ 900) (hv : -900 ≤ v ∧ v ≤ 900) (h : Q (some (vI (zI (beI gr b v)))) M) : Cl X d 0 0 m_X11_better [vI (oZ b), vI (zI v), vI (bI gr)] M Q := by
  refine e_X11_better (b_X11_better_0 ⟨fun q => ?_, fun q => ?_⟩)
  · rw [oZ_none hb] at q
    subst q; exact h
  · rw [oZ_none hb] at q
    cases b with
    | none => exact absurd rfl q
    | some x =>
      obtain ⟨h1, h2⟩ := hb x rfl
      unfold beI at h
      dsimp only at h
      refine ⟨fun q2 => ⟨fun q3 => ?_, fun q3 => ?_⟩, fun q2 => ⟨fun q3 => ?_, fun q3 => ?_⟩⟩
      · have q3 : zI x ≤ zI v := q3
        rw [zI_le (by omega) (by omega) (by omega) (by omega)] at q3
        cases gr with
        | true => exact absurd rfl q2
        | false => rw [if_neg (by simp; omega)] at h; exact h
      · have q3 : ¬ zI x ≤ zI v := q3
        rw [zI_le (by omega) (by omega) (by omega) (by omega)] at q3
        cases gr with
        | true => exact absurd rfl q2
        | false => rw [if_pos (by simp; omega)] at h; exact h
      · have q3 : zI v ≤ zI x := q3
        rw [zI_le (by omega) (by omega) (by omega) (by omega)] at q3
        cases gr with
        | false => exact absurd q2 (by decide)
        | true => rw [if_neg (by simp; omega)] at h; exact h
      · have q3 : ¬ zI v ≤ zI x := q3
        rw [zI_le (by omega) (by omega) (by omega) (by omega)] at q3
        cases gr with
        | false => exact absurd q2 (by decide)
        | true => rw [if_pos (by simp; omega)] at h; exact h
theorem sp_pairValue {P : Nat → Nat} {m g : Nat} {gr : Bool} (hH : rH M l L) (hg : mI M 75 36 = nI g) (hg3 : g < 3) (hm : m ≤ 8) (hP : ∀ h, h < m → mI M 93 h = nI (P h) ∧ P h < 2 ^ L.1 ∧ 1 ≤ P h) : ∀ (f u d : Nat) (Q : Option AV → Mem → Prop), f ≤ 9 → f + 2 ≤ d → u < 256 → zcN u + 1 ≤ 2 * f → Q (some (vI (oZ (pvB L P m g gr f u)))) M → Cl X d 0 0 m_X11_pairValue [vR 75, vI (nI u), vI (nI m), vI (bI gr)] M Q := by
  have hb := hH.b
  have h512 := p9 hb.2.1
  intro f
  induction f with
  | zero => intro u d Q hf hd hu hz h; omega
  | succ f ih =>
    intro u d Q hf hd hu hz h
    obtain ⟨lo1, lo2⟩ := lo_dec u hu
    refine e_X11_pairValue (b_X11_pairValue_0 hH.1 (by omega) (sp_ntz hu ⟨_, rfl, Ext.refl _, fun q x2 e2 => ?_, fun q => ?_⟩))
    · rw [na_lt (by omega) (by omega)] at q
      unfold pvB at h; rw [if_neg (by omega)] at h
      obtain ⟨p1, p2, p3⟩ := hP (loN u) q
      have key : ∀ j o acc, o + j = m → loN u < o → (∀ x, acc = some x → -((f : Int) + 1) ≤ x ∧ x ≤ f + 1) → Q (some (vI (oZ (fldR (pvT L P g gr u (pvB L P m g gr f)) j o acc)))) M → WA X d 0 0 m_X11_pairValue 27 [some (vR 75), some (vI (nI u)), some (vI (nI m)), some (vI (bI gr)), some (vI (nI (loN u))), some (vI (oZ acc)), some (vI (nI o)), none, none] [] M Q := by
        intro j
        induction j with
        | zero =>
          intro o acc ho hlo ha hq
          exact b_X11_pairValue_27 hH.1 (by omega) ⟨fun _ => hq, fun q => absurd (by rw [na_le (by omega) (by omega)]; omega) q⟩
        | succ j jh =>
          intro o acc ho hlo ha hq
          obtain ⟨o1, o2, o3⟩ := hP o (by omega)
          have hor := or_lt p2 o2
          have hpos : 1 ≤ P (loN u) ||| P o := Nat.le_trans p3 Nat.left_le_or
          have hfl := faL_le L (P (loN u) ||| P o)
          rw [fldR] at hq
          have ex : ∀ h, h < m → mI M 93 (ix (nI h)) = nI (P h) := fun h hh => by rw [na_ix (by omega)]; exact (hP h hh).1
          have next : ∀ acc', (∀ x, acc' = some x → -((f : Int) + 1) ≤ x ∧ x ≤ f + 1) → pvT L P g gr u (pvB L P m g gr f) acc o = acc' → WA X d 0 0 m_X11_pairValue 27 [some (vR 75), some (vI (nI u)), some (vI (nI m)), some (vI (bI gr)), some (vI (nI (loN u))), some (vI (oZ acc')), some (vI (nI o + nI 1)), none, none] [] M Q := fun acc' ha' he => by
            rw [he] at hq
            rw [nI_add]
            exact jh (o + 1) acc' (by omega) (by omega) ha' hq
          refine b_X11_pairValue_27 hH.1 (by omega) ⟨fun q9 => ?_, fun _ => ⟨na_in (by omega) (by omega), na_in (by omega) (by omega), fun x1 e1 => ?_⟩⟩
          · rw [na_le (by omega) (by omega)] at q9; omega
          rw [ex _ q, ex _ (by omega), na_or] at e1
          subst e1
          refine ⟨fun q9 => ?_, fun q9 => ⟨na_in (by omega) (by omega), fun q8 => ?_, fun q8 => ?_⟩⟩
          · rw [bit1 (by omega) (by omega)] at q9
            exact next acc ha (by unfold pvT; rw [if_pos (Or.inl q9)])
          · rw [na_ix (by omega), (hH.2.2.2.2.2 _ hpos hor).1, na_eq (by omega) (by omega)] at q8
            rw [bit1 (by omega) (by omega)] at q9
            have q9 : u.testBit o = false := by simpa using q9
            have hu2 : (u ||| 2 ^ loN u) ||| 2 ^ o < 256 := by
              have a1 : 2 ^ loN u < 2 ^ 8 := Nat.pow_lt_pow_right (by decide) (by omega)
              have a2 : 2 ^ o < 2 ^ 8 := Nat.pow_lt_pow_right (by decide) (by omega)
              exact Nat.or_lt_two_pow (Nat.or_lt_two_pow (n := 8) hu a1) a2
            have hz2 := zc_dec u hu o (by omega) hlo q9
            rw [na_1shl (by omega), na_1shl (by omega), na_or, na_or]
            have hbd := pvB_b (L := L) (P := P) (m := m) (g := g) (gr := gr) f ((u ||| 2 ^ loN u) ||| 2 ^ o)
            refine ih _ _ _ (by omega) (by omega) hu2 (by omega) ⟨_, rfl, Ext.refl _, fun z => ?_, fun z => ?_⟩
            · rw [oZ_none (fun v hv => by have := hbd v hv; omega)] at z
              exact next acc ha (by unfold pvT; rw [if_neg (by rw [q9, q8]; simp), z])
            · rw [oZ_none (fun v hv => by have := hbd v hv; omega)] at z
              cases hpv : pvB L P m g gr f ((u ||| 2 ^ loN u) ||| 2 ^ o) with
              | none => exact absurd hpv z
              | some v =>
                have hv := hbd v hpv
                have hw := woL_b g (wnL L (P (loN u) ||| P o))
                refine sp_worth hH hg hg3 hpos hor ⟨_, rfl, Ext.refl _, ?_⟩
                rw [show oZ (some v) = zI v from rfl, zI_add]
                refine sp_better (fun x hx => by have := ha x hx; omega) (by omega) ⟨_, rfl, Ext.refl _, ?_⟩
                exact next (some (beI gr acc (v + woL g (wnL L (P (loN u) ||| P o))))) (fun x hx => by cases hx; exact beI_b ha (by omega)) (by unfold pvT; rw [if_neg (by rw [q9, q8]; simp), hpv])
          · rw [na_ix (by omega), (hH.2.2.2.2.2 _ hpos hor).1, na_eq (by omega) (by omega)] at q8
            exact next acc ha (by unfold pvT; rw [if_pos (Or.inr q8)])
      rw [e2, nI_add]
      exact key (m - (loN u + 1)) (loN u + 1) none (by omega) (by omega) (fun x hx => by cases hx) h
    · rw [na_lt (by omega) (by omega)] at q
      unfold pvB at h; rw [if_pos (by omega)] at h
      exact h
end HALF
