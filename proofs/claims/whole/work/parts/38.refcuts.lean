/-! CUTS AS NUMBERS -/
def mkS : Nat → (Nat → Bool) → Nat
  | 0, _ => 0
  | n + 1, f => if f n then mkS n f ||| 2 ^ n else mkS n f
theorem tb_mkS (f : Nat → Bool) (i : Nat) : ∀ n, (mkS n f).testBit i = (decide (i < n) && f i)
  | 0 => by simp [mkS]
  | n + 1 => by
    unfold mkS
    have ih := tb_mkS f i n
    split
    · rename_i hf
      rw [Nat.testBit_or, ih, Nat.testBit_two_pow]
      by_cases h1 : n = i
      · subst h1; simp [hf]
      · simp only [h1, decide_false, Bool.or_false]
        congr 1
        exact decide_eq_decide.mpr (by omega)
    · rename_i hf
      rw [ih]
      by_cases h1 : n = i
      · subst h1; simp [hf]
      · congr 1
        exact decide_eq_decide.mpr (by omega)
theorem mkS_lt (f : Nat → Bool) : ∀ n, mkS n f < 2 ^ n
  | 0 => by simp [mkS]
  | n + 1 => by
    have ih := mkS_lt f n
    unfold mkS
    have e : 2 ^ n < 2 ^ (n + 1) := Nat.pow_lt_pow_right (by decide) (by omega)
    split
    · exact Nat.or_lt_two_pow (by omega) e
    · omega
/-- the digit of parish p, b bits to a digit -/
def dgB (b n c p : Nat) : Nat := (c >>> (b * (n - 1 - p))) % 2 ^ b
/-- the seat s of a cut, as a set -/
def sOB (b n c o s : Nat) : Nat := mkS n (fun p => o.testBit p && decide (dgB b n c p = s))
/-- how many seats the first p parishes tell in order -/
def nuF (b n c o : Nat) : Nat → Option Nat
  | 0 => some 0
  | p + 1 => match nuF b n c o p with
    | none => none
    | some x => if o.testBit p then (if x < dgB b n c p then none else some (if dgB b n c p = x then x + 1 else x)) else if dgB b n c p = 0 then some x else none
theorem nuF_none {b n c o p : Nat} (h : nuF b n c o p = none) : ∀ k, nuF b n c o (p + k) = none
  | 0 => h
  | k + 1 => by
    show (match nuF b n c o (p + k) with | none => none | some x => _) = none
    rw [nuF_none h k]
theorem nuF_none_le {b n c o p q : Nat} (h : nuF b n c o p = none) (hq : p ≤ q) : nuF b n c o q = none := by
  have := nuF_none h (q - p)
  rwa [Nat.add_sub_cancel' hq] at this
theorem nuF_le {b n c o : Nat} : ∀ {p x : Nat}, nuF b n c o p = some x → x ≤ p
  | 0, x, h => by cases h; exact Nat.le_refl _
  | p + 1, x, h => by
    unfold nuF at h
    cases hp : nuF b n c o p with
    | none => rw [hp] at h; cases h
    | some y =>
      have := nuF_le hp
      rw [hp] at h
      dsimp only at h
      split at h
      · split at h
        · cases h
        · cases h
          split <;> omega
      · split at h
        · cases h; omega
        · cases h
/-- each of the seats told has a parish -/
theorem nuF_has {b n c o : Nat} : ∀ {p x : Nat}, nuF b n c o p = some x → ∀ s, s < x → ∃ q, q < p ∧ o.testBit q = true ∧ dgB b n c q = s
  | 0, x, h, s, hs => by cases h; omega
  | p + 1, x, h, s, hs => by
    unfold nuF at h
    cases hp : nuF b n c o p with
    | none => rw [hp] at h; cases h
    | some y =>
      have ih := nuF_has hp
      rw [hp] at h
      dsimp only at h
      split at h
      · rename_i ho
        split at h
        · cases h
        · cases h
          split at hs
          · rename_i hd
            by_cases h1 : s < y
            · obtain ⟨q, q1, q2, q3⟩ := ih s h1
              exact ⟨q, by omega, q2, q3⟩
            · exact ⟨p, by omega, ho, by omega⟩
          · obtain ⟨q, q1, q2, q3⟩ := ih s hs
            exact ⟨q, by omega, q2, q3⟩
      · split at h
        · cases h
          obtain ⟨q, q1, q2, q3⟩ := ih s hs
          exact ⟨q, by omega, q2, q3⟩
        · cases h
theorem nuF_pos {b n c o m s : Nat} (h : nuF b n c o n = some m) (hs : s < m) : 1 ≤ sOB b n c o s := by
  obtain ⟨q, q1, q2, q3⟩ := nuF_has h s hs
  rcases Nat.eq_zero_or_pos (sOB b n c o s) with h0 | h0
  · have : (sOB b n c o s).testBit q = true := by
      unfold sOB
      rw [tb_mkS, q2, q3]
      simp [q1]
    rw [h0, Nat.zero_testBit] at this
    cases this
  · exact h0
theorem sOB_lt (b n c o s : Nat) : sOB b n c o s < 2 ^ n := mkS_lt _ _
/-- all parishes of a land -/
def whL (L : LandT) : Nat := 2 ^ L.1 - 1
/-- a lawful cut of o into m seats -/
abbrev icN (L : LandT) (c o m : Nat) : Prop := nuF 2 L.1 c o L.1 = some m ∧ ∀ s, s < m → faL L (sOB 2 L.1 c o s) = 0
def icB (L : LandT) (x : Int32) (o m : Nat) : Bool := match inN x (4 ^ L.1) with
  | none => false
  | some c => decide (icN L c o m)
/-- what is judged of a cut's seats from s on -/
def jdS (L : LandT) (c : Nat) : Nat → Nat → Nat
  | 0, _ => 0
  | r + 1, s => if faL L (sOB 2 L.1 c (whL L) s) = 0 then jdS L c r (s + 1) else faL L (sOB 2 L.1 c (whL L) s)
/-- a cut of the whole land, judged -/
def jdL (L : LandT) (c : Nat) : Nat := if nuF 2 L.1 c (whL L) L.1 = some L.2.1 then jdS L c L.2.1 0 else 1
def wiL (L : LandT) (c k : Nat) : Nat := smF L.2.1 (fun s => if wnL L (sOB 2 L.1 c (whL L) s) = k then 1 else 0)
/-- the reference, prepared for a land -/
def rH (M : Mem) (l : Nat) (L : LandT) : Prop := RfS M ∧ l < 7 ∧ rLd M l L ∧ LdOK L ∧ rPrep M l L
theorem rH.fr {S : Nat → Nat → Prop} {M B : Mem} {l : Nat} {L : LandT} (h : rH M l L) (hF : Fr S M B) (hS : ∀ a i, 77 ≤ a → a ≤ 83 → ¬ S a i) (h19 : ¬ S 75 19) (h72 : ∀ i, ¬ S 87 i) (h73 : ∀ i, ¬ S 88 i) : rH B l L := by
  obtain ⟨h1, h2, h3, h4, h5, h6⟩ := h
  exact ⟨h1.fr hF, h2, h3.fr hF hS, h4, (hF.at h19).trans h5, fun set a b => ⟨(hF.at (h72 _)).trans (h6 set a b).1, (hF.at (h73 _)).trans (h6 set a b).2⟩⟩
theorem rH.n {M : Mem} {l : Nat} {L : LandT} (h : rH M l L) : mI M 77 (ix (mI M 75 19)) = nI L.1 := by
  rw [h.2.2.2.2.1, na_ix (by have := h.2.1; omega), h.2.2.1.1]
theorem rH.s {M : Mem} {l : Nat} {L : LandT} (h : rH M l L) : mI M 78 (ix (mI M 75 19)) = nI L.2.1 := by
  rw [h.2.2.2.2.1, na_ix (by have := h.2.1; omega), h.2.2.1.2.1]
theorem rH.i {M : Mem} {l : Nat} {L : LandT} (h : rH M l L) : vp_in (mI M 75 19) 7 := by
  rw [h.2.2.2.2.1]; exact na_in h.2.1 (by omega)
theorem rH.b {M : Mem} {l : Nat} {L : LandT} (h : rH M l L) : 2 ≤ L.1 ∧ L.1 ≤ 9 ∧ 1 ≤ L.2.1 ∧ L.2.1 ≤ 4 := ⟨h.2.2.2.1.1.1, h.2.2.2.1.1.2, h.2.2.2.1.2.1.1, h.2.2.2.1.2.1.2.1⟩
theorem shr_mod {b n c p : Nat} (hc : c < 2 ^ 31) (hp : p < n) (hs : b * (n - 1 - p) < 32) (hn : n < 2 ^ 31) (hb : b < 4) : shr (nI c) (nI b * (nI n - nI 1 - nI p)) &&& nI (2 ^ b - 1) = nI (dgB b n c p) := by
  rw [na_sub (by omega), na_sub (by omega), pk_mul, na_shr hc hs, na_and, Nat.and_two_pow_sub_one_eq_mod]
  rfl
theorem faL_le (L : LandT) (set : Nat) : faL L set ≤ 4 := by
  unfold faL; split
  · decide
  · split
    · decide
    · split <;> decide
theorem wnS_le {q : Nat × Nat} {k v : Nat} (hk : k ≤ 3) (hq : q.1 ≤ 3) : (wnS q k v).1 ≤ 3 := by
  unfold wnS; dsimp only; split
  · exact hk
  · split
    · decide
    · exact hq
theorem wnL_le (L : LandT) (set : Nat) : wnL L set ≤ 3 := wnS_le (by decide) (wnS_le (by decide) (wnS_le (by decide) (by decide)))
section CUT
variable {X : Cx} {d l : Nat} {L : LandT} {M : Mem} {Q : Option AV → Mem → Prop}
theorem sp_digit {c p : Nat} (hH : rH M l L) (hc : c < 2 ^ 31) (hp : p < L.1) (h : Q (some (vI (nI (dgB 2 L.1 c p)))) M) : Cl X d 0 0 m_X11_digit [vR 75, vI (nI c), vI (nI p)] M Q := by
  have hb := hH.b
  refine e_X11_digit (b_X11_digit_0 hH.1 ⟨hH.i, ?_⟩)
  rw [hH.n]
  have := shr_mod (b := 2) hc hp (by omega) (by omega) (by omega)
  rw [show (2 ^ 2 - 1 : Nat) = 3 from rfl] at this
  rw [this]
  exact h
theorem sp_whole (hH : rH M l L) (h : Q (some (vI (nI (whL L)))) M) : Cl X d 0 0 m_X11_whole [vR 75] M Q := by
  have hb := hH.b
  refine e_X11_whole (b_X11_whole_0 hH.1 ⟨hH.i, ?_⟩)
  rw [hH.n, na_1shl (by omega), na_sub (Nat.one_le_two_pow)]
  exact h
theorem dgB_lt (b n c p : Nat) : dgB b n c p < 2 ^ b := Nat.mod_lt _ (Nat.two_pow_pos b)
theorem sp_seatOf {c o s : Nat} (hd : 1 ≤ d) (hH : rH M l L) (hc : c < 2 ^ 31) (ho : o < 2 ^ 31) (hs : s < 2 ^ 31) (h : Q (some (vI (nI (sOB 2 L.1 c o s)))) M) : Cl X d 0 0 m_X11_seatOf [vR 75, vI (nI c), vI (nI o), vI (nI s)] M Q := by
  have hb := hH.b
  have key : ∀ r p, p + r = L.1 → WA X d 0 0 m_X11_seatOf 6 [some (vR 75), some (vI (nI c)), some (vI (nI o)), some (vI (nI s)), some (vI (nI (mkS p (fun p => o.testBit p && decide (dgB 2 L.1 c p = s))))), some (vI (nI p))] [] M Q := by
    intro r
    induction r with
    | zero =>
      intro p hp
      obtain rfl : p = L.1 := by omega
      exact b_X11_seatOf_6 hH.1 (by omega) ⟨hH.i, fun _ => h, fun q => absurd (by rw [hH.n, na_le (by omega) (by omega)]; omega) q⟩
    | succ r ih =>
      intro p hp
      have hn := ih (p + 1) (by omega)
      have h50 : ¬ (o.testBit p && decide (dgB 2 L.1 c p = s)) = true → WA X d 0 0 m_X11_seatOf 50 [some (vR 75), some (vI (nI c)), some (vI (nI o)), some (vI (nI s)), none, some (vI (nI p))] [vI (nI (mkS p (fun p => o.testBit p && decide (dgB 2 L.1 c p = s))))] M Q := by
        intro hf
        refine b_X11_seatOf_50 hH.1 (fun x1 e1 => ?_)
        rw [e1, or0, nI_add]
        simp only [mkS, if_neg hf] at hn
        exact hn
      refine b_X11_seatOf_6 hH.1 (by omega) ⟨hH.i, fun q => ?_, fun _ => ⟨fun hb2 => ?_, fun hb2 => ?_⟩⟩
      · rw [hH.n, na_le (by omega) (by omega)] at q; omega
      · rw [bit1 (by omega) (by omega)] at hb2
        exact h50 (by simp [hb2])
      · rw [bit1 (by omega) (by omega)] at hb2
        have hdl := dgB_lt 2 L.1 c p
        refine sp_digit hH hc (by omega) ⟨_, rfl, Ext.refl _, fun hq => ?_, fun hq x2 e2 => ?_⟩
        · rw [na_eq (by omega) (by omega)] at hq
          exact h50 (by simp [hq])
        · rw [na_eq (by omega) (by omega)] at hq
          rw [e2, na_1shl (by omega), na_or, nI_add]
          simp only [mkS, hb2, hq, decide_true, Bool.and_true, if_true] at hn
          exact hn
  exact e_X11_seatOf (b_X11_seatOf_0 hH.1 (key L.1 0 (by omega)))
theorem sp_isNumbered {c o m : Nat} (hd : 1 ≤ d) (hH : rH M l L) (hc : c < 2 ^ 31) (ho : o < 2 ^ 31) (hm : m < 2 ^ 31) (h : Q (some (vI (bI (decide (nuF 2 L.1 c o L.1 = some m))))) M) : Cl X d 0 0 m_X11_isNumbered [vR 75, vI (nI c), vI (nI o), vI (nI m)] M Q := by
  have hb := hH.b
  have key : ∀ r p x, p + r = L.1 → nuF 2 L.1 c o p = some x → WA X d 0 0 m_X11_isNumbered 6 [some (vR 75), some (vI (nI c)), some (vI (nI o)), some (vI (nI m)), some (vI (nI x)), some (vI (nI p)), none] [] M Q := by
    intro r
    induction r with
    | zero =>
      intro p x hp hx
      obtain rfl : p = L.1 := by omega
      have hxl := nuF_le hx
      rw [hx] at h
      refine b_X11_isNumbered_6 hH.1 (by omega) ⟨hH.i, fun _ => ⟨fun q => ?_, fun q => ?_⟩, fun q => absurd (by rw [hH.n, na_le (by omega) (by omega)]; omega) q⟩
      · rw [na_eq (by omega) (by omega)] at q
        rw [decide_eq_false (fun e => q (by cases e; rfl))] at h; exact h
      · rw [na_eq (by omega) (by omega)] at q
        rw [decide_eq_true (by rw [q])] at h; exact h
    | succ r ih =>
      intro p x hp hx
      have hxl := nuF_le hx
      have hdl := dgB_lt 2 L.1 c p
      have bad : nuF 2 L.1 c o (p + 1) = none → Q (some (vI (nI 0))) M := fun hn => by
        rw [nuF_none_le hn (by omega), decide_eq_false (fun e => by cases e)] at h; exact h
      refine b_X11_isNumbered_6 hH.1 (by omega) ⟨hH.i, fun q => ?_, fun _ => sp_digit hH hc (by omega) ⟨_, rfl, Ext.refl _, fun hb2 => ⟨fun q => ⟨fun q2 x2 e2 => ?_, fun q2 x2 e2 => ?_⟩, fun q => ?_⟩, fun hb2 => ⟨fun q => ?_, fun q => ?_⟩⟩⟩
      · rw [hH.n, na_le (by omega) (by omega)] at q; omega
      · rw [bit0 (by omega) (by omega)] at hb2
        rw [na_le (by omega) (by omega)] at q
        rw [na_eq (by omega) (by omega)] at q2
        rw [e2, add0, nI_add]
        refine ih (p + 1) x (by omega) ?_
        simp only [nuF, hx, if_pos (show o.testBit p = true by simpa using hb2), if_neg (show ¬ x < dgB 2 L.1 c p by omega), if_neg q2]
      · rw [bit0 (by omega) (by omega)] at hb2
        rw [na_le (by omega) (by omega)] at q
        rw [na_eq (by omega) (by omega)] at q2
        rw [e2, nI_add, nI_add]
        refine ih (p + 1) (x + 1) (by omega) ?_
        simp only [nuF, hx, if_pos (show o.testBit p = true by simpa using hb2), if_neg (show ¬ x < dgB 2 L.1 c p by omega), if_pos q2]
      · rw [bit0 (by omega) (by omega)] at hb2
        rw [na_le (by omega) (by omega)] at q
        refine bad ?_
        simp only [nuF, hx, if_pos (show o.testBit p = true by simpa using hb2), if_pos (show x < dgB 2 L.1 c p by omega)]
      · rw [bit0 (by omega) (by omega)] at hb2
        rw [na_eq (by omega) (by omega)] at q
        rw [nI_add]
        refine ih (p + 1) x (by omega) ?_
        simp only [nuF, hx, hb2, if_pos q, Bool.false_eq_true, if_false]
      · rw [bit0 (by omega) (by omega)] at hb2
        rw [na_eq (by omega) (by omega)] at q
        refine bad ?_
        simp only [nuF, hx, hb2, if_neg q, Bool.false_eq_true, if_false]
  exact e_X11_isNumbered (b_X11_isNumbered_0 hH.1 (key L.1 0 0 (by omega) rfl))
theorem nat_of {x : Int32} (h : ¬ x < nI 0) : ∃ k : Nat, x = nI k ∧ k < 2 ^ 31 := by
  rw [Int32.lt_iff_toInt_lt, show (nI 0).toInt = 0 by decide] at h
  have h2 := x.toInt_lt
  refine ⟨x.toInt.toNat, ?_, by omega⟩
  apply Int32.toInt_inj.mp
  rw [nI_toInt (by omega)]
  omega
theorem inN_neg {x : Int32} {n : Nat} (h : x < nI 0) : inN x n = none := by
  rw [Int32.lt_iff_toInt_lt, show (nI 0).toInt = 0 by decide] at h
  unfold inN
  rw [if_neg (by omega)]
theorem shr_0 {k n : Nat} (hk : k < 2 ^ 31) (hn : n ≤ 9) : shr (nI k) (nI 2 * nI n) = nI 0 ↔ k < 4 ^ n := by
  rw [pk_mul, na_shr hk (by omega), na_eq (by have := Nat.shiftRight_le k (2 * n); omega) (by omega), Nat.shiftRight_eq_div_pow, Nat.pow_mul]
  exact Nat.div_eq_zero_iff_lt (Nat.pow_pos (by decide))
theorem p4 {n : Nat} (h : n ≤ 9) : 4 ^ n ≤ 262144 := Nat.pow_le_pow_right (n := 4) (by decide) h
theorem sp_isCut {x : Int32} {o m : Nat} (hd : 2 ≤ d) (hH : rH M l L) (ho : o < 2 ^ L.1) (hm : m < 2 ^ 31) (h : Q (some (vI (bI (icB L x o m)))) M) : Cl X d 0 0 m_X11_isCut [vR 75, vI x, vI (nI o), vI (nI m)] M Q := by
  have hb := hH.b
  have h512 := p9 hb.2.1
  refine e_X11_isCut (b_X11_isCut_0 hH.1 (by omega) ⟨fun q => ?_, fun q => ⟨hH.i, fun q2 => ?_, fun q2 => ?_⟩⟩)
  · unfold icB at h; rw [inN_neg q] at h; exact h
  · obtain ⟨c, rfl, hc⟩ := nat_of q
    rw [hH.n, shr_0 hc hb.2.1] at q2
    unfold icB at h; rw [inN_nI_none hc (by omega)] at h; exact h
  · obtain ⟨c, rfl, hc⟩ := nat_of q
    rw [hH.n, shr_0 hc hb.2.1] at q2
    have h4 := p4 hb.2.1
    unfold icB at h; rw [inN_nI (by omega) q2] at h
    dsimp only at h
    refine sp_isNumbered (by omega) hH hc (by omega) hm ⟨_, rfl, Ext.refl _, fun hx => ?_, fun hx => ?_⟩
    · have hx := of_decide_eq_true (bI_n0.mp hx)
      have key : ∀ r s, s + r = m → (∀ s', s' < s → faL L (sOB 2 L.1 c o s') = 0) → WA X d 0 0 m_X11_isCut 35 [some (vR 75), some (vI (nI c)), some (vI (nI o)), some (vI (nI m)), some (vI (nI s))] [] M Q := by
        intro r
        induction r with
        | zero =>
          intro s hs hall
          obtain rfl : s = m := by omega
          rw [decide_eq_true ⟨hx, hall⟩] at h
          exact b_X11_isCut_35 hH.1 (by omega) ⟨fun _ => h, fun q => absurd (by rw [na_le (by omega) (by omega)]; omega) q⟩
        | succ r ih =>
          intro s hs hall
          have hl := sOB_lt 2 L.1 c o s
          have hp := nuF_pos hx (show s < m by omega)
          refine b_X11_isCut_35 hH.1 (by omega) ⟨fun q => ?_, fun _ => sp_seatOf (by omega) hH hc (by omega) (by omega) ⟨_, rfl, Ext.refl _, na_in (by omega) (by omega), fun q => ?_, fun q => ?_⟩⟩
          · rw [na_le (by omega) (by omega)] at q; omega
          · rw [na_ix (by omega), (hH.2.2.2.2.2 _ hp hl).1] at q
            have hfl := faL_le L (sOB 2 L.1 c o s)
            rw [na_eq (by omega) (by omega)] at q
            rw [nI_add]
            refine ih (s + 1) (by omega) (fun s' hs' => ?_)
            rcases (show s' < s ∨ s' = s by omega) with q9 | q9
            · exact hall s' q9
            · rw [q9]; exact q
          · rw [na_ix (by omega), (hH.2.2.2.2.2 _ hp hl).1] at q
            have hfl := faL_le L (sOB 2 L.1 c o s)
            rw [na_eq (by omega) (by omega)] at q
            rw [decide_eq_false (fun z => q (z.2 s (by omega)))] at h
            exact h
      exact key m 0 (by omega) (fun s' hs' => by omega)
    · have hx := of_decide_eq_false (bI_0.mp hx)
      rw [decide_eq_false (fun z => hx z.1)] at h; exact h
theorem sp_judged {c : Nat} (hd : 2 ≤ d) (hH : rH M l L) (hc : c < 2 ^ 31) (h : Q (some (vI (nI (jdL L c)))) M) : Cl X d 0 0 m_X11_judged [vR 75, vI (nI c)] M Q := by
  have hb := hH.b
  have h512 := p9 hb.2.1
  have hw : whL L < 2 ^ L.1 := by unfold whL; have := Nat.two_pow_pos L.1; omega
  refine e_X11_judged (b_X11_judged_0 hH.1 (by omega) (sp_whole hH ⟨_, rfl, Ext.refl _, hH.i, ?_⟩))
  rw [hH.s]
  refine sp_isNumbered (by omega) hH hc (by omega) (by omega) ⟨_, rfl, Ext.refl _, fun hx => ?_, fun hx => ?_⟩
  · have hx := of_decide_eq_true (bI_n0.mp hx)
    unfold jdL at h; rw [if_pos hx] at h
    have key : ∀ r s, s + r = L.2.1 → Q (some (vI (nI (jdS L c r s)))) M → WA X d 0 0 m_X11_judged 25 [some (vR 75), some (vI (nI c)), some (vI (nI s)), none] [] M Q := by
      intro r
      induction r with
      | zero =>
        intro s hs h
        obtain rfl : s = L.2.1 := by omega
        exact b_X11_judged_25 hH.1 (by omega) ⟨hH.i, fun _ => h, fun q => absurd (by rw [hH.s, na_le (by omega) (by omega)]; omega) q⟩
      | succ r ih =>
        intro s hs h
        have hl := sOB_lt 2 L.1 c (whL L) s
        have hp := nuF_pos hx (show s < L.2.1 by omega)
        have hfl := faL_le L (sOB 2 L.1 c (whL L) s)
        refine b_X11_judged_25 hH.1 (by omega) ⟨hH.i, fun q => ?_, fun _ => sp_whole hH ⟨_, rfl, Ext.refl _, sp_seatOf (by omega) hH hc (by omega) (by omega) ⟨_, rfl, Ext.refl _, na_in (by omega) (by omega), fun x3 e3 => ⟨fun q => ?_, fun q => ?_⟩⟩⟩⟩
        · rw [hH.s, na_le (by omega) (by omega)] at q; omega
        · rw [na_ix (by omega), (hH.2.2.2.2.2 _ hp hl).1] at e3
          rw [e3, na_eq (by omega) (by omega)] at q
          rw [nI_add]
          unfold jdS at h; rw [if_pos q] at h
          exact ih (s + 1) (by omega) h
        · rw [na_ix (by omega), (hH.2.2.2.2.2 _ hp hl).1] at e3
          rw [e3, na_eq (by omega) (by omega)] at q
          rw [e3]
          unfold jdS at h; rw [if_neg q] at h
          exact h
    exact key L.2.1 0 (by omega) h
  · have hx := of_decide_eq_false (bI_0.mp hx)
    unfold jdL at h; rw [if_neg hx] at h; exact h
theorem sp_wins {c k : Nat} (hd : 2 ≤ d) (hH : rH M l L) (hc : c < 2 ^ 31) (hk : k < 2 ^ 31) (hx : nuF 2 L.1 c (whL L) L.1 = some L.2.1) (h : Q (some (vI (nI (wiL L c k)))) M) : Cl X d 0 0 m_X11_wins [vR 75, vI (nI c), vI (nI k)] M Q := by
  have hb := hH.b
  have h512 := p9 hb.2.1
  have hw : whL L < 2 ^ L.1 := by unfold whL; have := Nat.two_pow_pos L.1; omega
  have key : ∀ r s, s + r = L.2.1 → WA X d 0 0 m_X11_wins 5 [some (vR 75), some (vI (nI c)), some (vI (nI k)), some (vI (nI (smF s (fun s => if wnL L (sOB 2 L.1 c (whL L) s) = k then 1 else 0)))), some (vI (nI s))] [] M Q := by
    intro r
    induction r with
    | zero =>
      intro s hs
      obtain rfl : s = L.2.1 := by omega
      exact b_X11_wins_5 hH.1 (by omega) ⟨hH.i, fun _ => h, fun q => absurd (by rw [hH.s, na_le (by omega) (by omega)]; omega) q⟩
    | succ r ih =>
      intro s hs
      have hl := sOB_lt 2 L.1 c (whL L) s
      have hp := nuF_pos hx (show s < L.2.1 by omega)
      have hwl := wnL_le L (sOB 2 L.1 c (whL L) s)
      have hn := ih (s + 1) (by omega)
      refine b_X11_wins_5 hH.1 (by omega) ⟨hH.i, fun q => ?_, fun _ => sp_whole hH ⟨_, rfl, Ext.refl _, sp_seatOf (by omega) hH hc (by omega) (by omega) ⟨_, rfl, Ext.refl _, na_in (by omega) (by omega), fun q x3 e3 => ?_, fun q x3 e3 => ?_⟩⟩⟩
      · rw [hH.s, na_le (by omega) (by omega)] at q; omega
      · rw [na_ix (by omega), (hH.2.2.2.2.2 _ hp hl).2, na_eq (by omega) (by omega)] at q
        simp only [smF, if_neg q, Nat.add_zero] at hn
        rw [e3, add0, nI_add]; exact hn
      · rw [na_ix (by omega), (hH.2.2.2.2.2 _ hp hl).2, na_eq (by omega) (by omega)] at q
        simp only [smF, if_pos q] at hn
        rw [e3, nI_add, nI_add]; exact hn
  exact e_X11_wins (b_X11_wins_0 hH.1 (key L.2.1 0 (by omega)))
end CUT
