/-! WHAT A LAND'S SETS ARE: the reference's own sums, as functions -/
def smF : Nat → (Nat → Nat) → Nat
  | 0, _ => 0
  | n + 1, f => smF n f + f n
def oneS (T : Nat → Nat) (a p : Nat) : Nat := if a.testBit p then a ||| T p else a
def runR (T : Nat → Nat) (n : Nat) : Nat → Nat → Nat
  | 0, a => a
  | r + 1, a => runR T n r (oneS T a (n - (r + 1)))
def cloR (T : Nat → Nat) (n : Nat) : Nat → Nat → Nat
  | 0, a => a
  | k + 1, a => cloR T n k (runR T n n a)
/-- the set a with all that T tells, told on nine times -/
def clo (T : Nat → Nat) (n a : Nat) : Nat := cloR T n 9 a
/-- the lowest of a set, as a set -/
def lwN (s : Nat) : Nat := s &&& (2 ^ 32 - s)
/-- votes of a party in a set -/
def vtL (L : LandT) (k set : Nat) : Nat := smF L.1 (fun p => if set.testBit p then LdV L p k else 0)
def hdL (L : LandT) (set : Nat) : Nat := smF L.1 (fun p => if set.testBit p then LdV L p 0 + LdV L p 1 + LdV L p 2 else 0)
/-- what fails of a set: 0 nothing, 2 it does not hang together, 3 heads, 4 one must stay -/
def faL (L : LandT) (set : Nat) : Nat :=
  if clo (fun p => LdB L p &&& set) L.1 (lwN set) ≠ set then 2
  else if ¬ (LdLo L ≤ hdL L set ∧ hdL L set ≤ LdHi L) then 3
  else if clo (LdT L) L.1 set ≠ set then 4 else 0
def wnS (q : Nat × Nat) (k v : Nat) : Nat × Nat := (if q.2 < v then k else if v = q.2 then 3 else q.1, max q.2 v)
/-- who wins a set -/
def wnL (L : LandT) (set : Nat) : Nat := (wnS (wnS (wnS (3, 0) 0 (vtL L 0 set)) 1 (vtL L 1 set)) 2 (vtL L 2 set)).1
/-- the number that an int is, if it is below n -/
def inN (x : Int32) (n : Nat) : Option Nat := if 0 ≤ x.toInt ∧ x.toInt < n then some x.toInt.toNat else none
theorem inN_some {x : Int32} {n k : Nat} (hn : n < 2 ^ 31) (h : inN x n = some k) : x = nI k ∧ k < n := by
  unfold inN at h
  split at h
  · rename_i hc
    cases h
    refine ⟨?_, by omega⟩
    apply Int32.toInt_inj.mp
    rw [nI_toInt (by omega)]
    omega
  · cases h
theorem inN_nI {n k : Nat} (hn : n < 2 ^ 31) (h : k < n) : inN (nI k) n = some k := by
  unfold inN
  rw [nI_toInt (by omega), if_pos ⟨by omega, by omega⟩]
  rfl
theorem inN_nI_none {n k : Nat} (hk : k < 2 ^ 31) (h : n ≤ k) : inN (nI k) n = none := by
  unfold inN
  rw [nI_toInt (by omega), if_neg (by omega)]
theorem inN_m1 {n : Nat} : inN (-1) n = none := by
  unfold inN
  rw [if_neg]
  rw [show (-1 : Int32).toInt = -1 by decide]
  omega
theorem inN_dec {x : Int32} {n : Nat} (hn : n < 2 ^ 31) : (decide (nI 0 ≤ x) && decide (x ≤ nI n - nI 1)) = (inN x n).isSome := by
  have e : (nI n - nI 1).toInt = (n : Int) - 1 := by
    rcases Nat.eq_zero_or_pos n with h | h
    · subst h; decide
    · rw [na_sub h, nI_toInt (by omega)]; omega
  have e0 : (nI 0).toInt = 0 := by decide
  have h1 : (nI 0 ≤ x) ↔ 0 ≤ x.toInt := by rw [Int32.le_iff_toInt_le, e0]
  have h2 : (x ≤ nI n - nI 1) ↔ x.toInt ≤ (n : Int) - 1 := by rw [Int32.le_iff_toInt_le, e]
  rw [decide_eq_decide.mpr h1, decide_eq_decide.mpr h2]
  unfold inN
  by_cases hc : 0 ≤ x.toInt ∧ x.toInt < n
  · rw [if_pos hc, decide_eq_true hc.1, decide_eq_true (show x.toInt ≤ (n : Int) - 1 by omega)]; rfl
  · rw [if_neg hc]
    by_cases h3 : 0 ≤ x.toInt
    · rw [decide_eq_false (show ¬ x.toInt ≤ (n : Int) - 1 by omega), Bool.and_false]; rfl
    · rw [decide_eq_false h3, Bool.false_and]; rfl
theorem p9 {n : Nat} (h : n ≤ 9) : 2 ^ n ≤ 512 := Nat.pow_le_pow_right (n := 2) (by decide) h
theorem bit1 {a k : Nat} (ha : a < 2 ^ 31) (hk : k < 32) : (shr (nI a) (nI k) &&& nI 1 = nI 1) ↔ a.testBit k = true := by
  rw [na_bit ha hk]
  cases a.testBit k <;> simp <;> decide
theorem bit0 {a k : Nat} (ha : a < 2 ^ 31) (hk : k < 32) : (shr (nI a) (nI k) &&& nI 1 = nI 0) ↔ a.testBit k = false := by
  rw [na_bit ha hk]
  cases a.testBit k <;> simp <;> decide
theorem or0 (a : Nat) : nI a ||| nI 0 = nI a := by rw [na_or, Nat.or_zero]
theorem add0 (a : Nat) : nI a + nI 0 = nI a := by rw [nI_add]; rfl
theorem na_lw {s : Nat} (hs : s < 2 ^ 31) : nI s &&& (-(nI s)) = nI (lwN s) := by
  unfold lwN
  rw [← na_and]
  congr 1
  apply Int32.toBitVec_inj.1
  show - BitVec.ofNat 32 s = BitVec.ofNat 32 (2 ^ 32 - s)
  apply BitVec.eq_of_toNat_eq
  rw [BitVec.toNat_neg, BitVec.toNat_ofNat, BitVec.toNat_ofNat, Nat.mod_eq_of_lt (show s < 2 ^ 32 by omega)]
theorem na_1shl {n : Nat} (h : n < 32) : shl (nI 1) (nI n) = nI (2 ^ n) := by rw [na_shl 1 h, Nat.one_shiftLeft]
theorem oneS_lt {T : Nat → Nat} {n a p : Nat} (hT : ∀ q, T q < 2 ^ n) (ha : a < 2 ^ n) : oneS T a p < 2 ^ n := by
  unfold oneS
  split
  · exact Nat.or_lt_two_pow ha (hT p)
  · exact ha
theorem runR_lt {T : Nat → Nat} {n : Nat} (hT : ∀ q, T q < 2 ^ n) : ∀ r a, a < 2 ^ n → runR T n r a < 2 ^ n
  | 0, _, h => h
  | r + 1, _, h => runR_lt hT r _ (oneS_lt hT h)
theorem cloR_lt {T : Nat → Nat} {n : Nat} (hT : ∀ q, T q < 2 ^ n) : ∀ k a, a < 2 ^ n → cloR T n k a < 2 ^ n
  | 0, _, h => h
  | k + 1, _, h => cloR_lt hT k _ (runR_lt hT n _ h)
theorem clo_lt {T : Nat → Nat} {n a : Nat} (hT : ∀ q, T q < 2 ^ n) (h : a < 2 ^ n) : clo T n a < 2 ^ n := cloR_lt hT 9 a h
theorem smF_le {f : Nat → Nat} {b : Nat} (hf : ∀ p, f p ≤ b) : ∀ n, smF n f ≤ n * b
  | 0 => by simp [smF]
  | n + 1 => by have := smF_le hf n; have := hf n; simp only [smF, Nat.succ_mul]; omega
theorem lwN_lt {s n : Nat} (h : s < 2 ^ n) : lwN s < 2 ^ n := Nat.lt_of_le_of_lt Nat.and_le_left h
theorem hdL_le {L : LandT} (hn : L.1 ≤ 9) (hv : ∀ p k, LdV L p k ≤ 99) (set : Nat) : hdL L set ≤ 2673 := by
  have := smF_le (f := fun p => if set.testBit p then LdV L p 0 + LdV L p 1 + LdV L p 2 else 0) (b := 297) (fun p => by
    have h0 := hv p 0; have h1 := hv p 1; have h2 := hv p 2
    split <;> omega) L.1
  unfold hdL
  have : L.1 * 297 ≤ 9 * 297 := Nat.mul_le_mul_right _ hn
  omega
theorem vtL_le {L : LandT} (hn : L.1 ≤ 9) (hv : ∀ p k, LdV L p k ≤ 99) (k set : Nat) : vtL L k set ≤ 891 := by
  have := smF_le (f := fun p => if set.testBit p then LdV L p k else 0) (b := 99) (fun p => by
    have h0 := hv p k
    split <;> omega) L.1
  unfold vtL
  have : L.1 * 99 ≤ 9 * 99 := Nat.mul_le_mul_right _ hn
  omega
/-! THE REFERENCE on a land -/
theorem rLd.fr {S : Nat → Nat → Prop} {M B : Mem} {l : Nat} {L : LandT} (h : rLd M l L) (hF : Fr S M B) (hS : ∀ a i, 77 ≤ a → a ≤ 83 → ¬ S a i) : rLd B l L := by
  obtain ⟨g1, g2, g3, g4, g5⟩ := h
  refine ⟨(hF.at (hS _ _ (by decide) (by decide))).trans g1, (hF.at (hS _ _ (by decide) (by decide))).trans g2, (hF.at (hS _ _ (by decide) (by decide))).trans g3, (hF.at (hS _ _ (by decide) (by decide))).trans g4, fun p hp => ?_⟩
  obtain ⟨q1, q2, q3⟩ := g5 p hp
  exact ⟨fun k hk => (hF.at (hS _ _ (by decide) (by decide))).trans (q1 k hk), (hF.at (hS _ _ (by decide) (by decide))).trans q2, (hF.at (hS _ _ (by decide) (by decide))).trans q3⟩
theorem sp_inN {X : Cx} {d n : Nat} {M : Mem} {Q : Option AV → Mem → Prop} {x hi : Int32} (hn : n < 2 ^ 31) (hh : hi = nI n - nI 1) (h : Q (some (vI (bI (inN x n).isSome))) M) : Cl X d 0 0 m_X11_in [vI x, vI (nI 0), vI hi] M Q := by
  subst hh
  refine sp_in ?_
  rw [inN_dec hn]; exact h
theorem sp_isLand {X : Cx} {d nl : Nat} {M : Mem} {Q : Option AV → Mem → Prop} {x : Int32} (hd : 1 ≤ d) (hS : RfS M) (hn : mI M 75 12 = nI nl) (hl : nl < 2 ^ 31) (h : Q (some (vI (bI (inN x nl).isSome))) M) : Cl X d 0 0 m_X11_isLand [vR 75, vI x] M Q := by
  refine e_X11_isLand (b_X11_isLand_0 hS hd (sp_inN (n := nl) hl (by rw [hn]) ⟨_, rfl, Ext.refl _, bI_B _, h⟩))
theorem sp_isParty {X : Cx} {d : Nat} {M : Mem} {Q : Option AV → Mem → Prop} {x : Int32} (hd : 1 ≤ d) (h : Q (some (vI (bI (inN x 3).isSome))) M) : Cl X d 0 0 m_X11_isParty [vI x] M Q := by
  refine e_X11_isParty (b_X11_isParty_0 hd (sp_inN (n := 3) (by decide) (by decide) ⟨_, rfl, Ext.refl _, bI_B _, h⟩))
/-- the lands that have been told, in the reference -/
def rLds (M : Mem) (nl : Nat) (Ls : Nat → LandT) : Prop := mI M 75 12 = nI nl ∧ nl ≤ 6 ∧ ∀ l, l < nl → LdOK (Ls l) ∧ rLd M l (Ls l)
theorem rLds.fr {S : Nat → Nat → Prop} {M B : Mem} {nl : Nat} {Ls : Nat → LandT} (h : rLds M nl Ls) (hF : Fr S M B) (hS : ∀ a i, 77 ≤ a → a ≤ 83 → ¬ S a i) (h12 : ¬ S 75 12) : rLds B nl Ls :=
  ⟨(hF.at h12).trans h.1, h.2.1, fun l hl => ⟨(h.2.2 l hl).1, (h.2.2 l hl).2.fr hF hS⟩⟩
def ipB (nl : Nat) (Ls : Nat → LandT) (l p : Int32) : Bool := match inN l nl with
  | none => false
  | some k => (inN p (Ls k).1).isSome
theorem sp_isParish {X : Cx} {d nl : Nat} {Ls : Nat → LandT} {M : Mem} {Q : Option AV → Mem → Prop} {l p : Int32} (hd : 2 ≤ d) (hS : RfS M) (hl : rLds M nl Ls) (h : Q (some (vI (bI (ipB nl Ls l p)))) M) : Cl X d 0 0 m_X11_isParish [vR 75, vI l, vI p] M Q := by
  have h6 := hl.2.1
  refine e_X11_isParish (b_X11_isParish_0 hS (by omega) (sp_isLand (by omega) hS hl.1 (by omega) ⟨_, rfl, Ext.refl _, fun h0 => ?_, fun h0 => ?_⟩))
  · have := bI_0.mp h0
    unfold ipB at h
    cases hc : inN l nl with
    | none => rw [hc] at h; exact h
    | some k => rw [hc] at this; cases this
  · have := bI_n0.mp h0
    unfold ipB at h
    cases hc : inN l nl with
    | none => rw [hc] at this; cases this
    | some k =>
      rw [hc] at h
      obtain ⟨e1, e2⟩ := inN_some (by omega) hc
      subst e1
      obtain ⟨q1, q2⟩ := hl.2.2 k e2
      have h9 := q1.1
      refine ⟨na_in (by omega) (by omega), sp_inN (n := (Ls k).1) (by omega) (by rw [na_ix (by omega), q2.1]) ⟨_, rfl, Ext.refl _, fun h1 => ?_, fun h1 => ?_⟩⟩
      · dsimp only at h; rw [bI_0.mp h1] at h; exact h
      · dsimp only at h; rw [bI_n0.mp h1] at h; exact h
theorem sp_allVotes {X : Cx} {d l k : Nat} {L : LandT} {M : Mem} {Q : Option AV → Mem → Prop} (hd : 1 ≤ d) (hS : RfS M) (hl : l < 7) (hk : k < 3) (hL : rLd M l L) (hn : L.1 ≤ 9) (h : Q (some (vI (nI (smF L.1 (fun p => LdV L p k))))) M) : Cl X d 0 0 m_X11_allVotes [vR 75, vI (nI l), vI (nI k)] M Q := by
  have key : ∀ r p, p + r = L.1 → WA X d 0 0 m_X11_allVotes 5 [some (vR 75), some (vI (nI l)), some (vI (nI k)), some (vI (nI (smF p (fun p => LdV L p k)))), some (vI (nI p))] [] M Q := by
    intro r
    induction r with
    | zero =>
      intro p hp
      obtain rfl : p = L.1 := by omega
      exact b_X11_allVotes_5 hS (by omega) ⟨na_in hl (by omega), fun _ => h, fun q => absurd (by rw [na_ix (k := l) (by omega), hL.1, na_le (by omega) (by omega)]; omega) q⟩
    | succ r ih =>
      intro p hp
      refine b_X11_allVotes_5 hS (by omega) ⟨na_in hl (by omega), fun q => ?_, fun _ => sp_voteAt ⟨_, rfl, Ext.refl _, na_in (by omega) (by omega), fun x2 e2 => ?_⟩⟩
      · rw [na_ix (k := l) (by omega), hL.1, na_le (by omega) (by omega)] at q; omega
      · rw [na_ix (by omega), (hL.2.2.2.2 p (by omega)).1 k hk, nI_add] at e2
        rw [e2, nI_add]
        exact ih (p + 1) (by omega)
  exact e_X11_allVotes (b_X11_allVotes_0 hS (key L.1 0 (by omega)))
theorem wa_stay15 {X : Cx} {d l k n : Nat} {L : LandT} {M : Mem} {Q : Option AV → Mem → Prop} (hS : RfS M) (hl : l < 7) (hk : k < 9) (hL : rLd M l L) (hn : L.1 = n) (h9 : n ≤ 9) (hT : ∀ p, LdT L p < 2 ^ n) : ∀ (r p a : Nat), p + r = n → a < 2 ^ n →
    WA X d 0 0 m_X11_staying 5 [some (vR 75), some (vI (nI l)), none, some (vI (nI (runR (LdT L) n r a))), some (vI (nI (k + 1))), none] [] M Q →
    WA X d 0 0 m_X11_staying 15 [some (vR 75), some (vI (nI l)), none, some (vI (nI a)), some (vI (nI k)), some (vI (nI p))] [] M Q := by
  intro r
  have h512 := p9 h9
  induction r with
  | zero =>
    intro p a hp ha h
    refine b_X11_staying_15 hS ⟨na_in hl (by omega), fun _ => ?_, fun q => absurd (by rw [na_ix (k := l) (by omega), hL.1, hn, na_le (by omega) (by omega)]; omega) q⟩
    rw [nI_add]; exact h
  | succ r ih =>
    intro p a hp ha h
    have ei : nI 9 * nI l + nI p = nI (9 * l + p) := by rw [pk_mul, nI_add]
    have hop : n - (r + 1) = p := by omega
    simp only [runR, hop] at h
    refine b_X11_staying_15 hS ⟨na_in hl (by omega), fun q => ?_, fun _ => ⟨fun hb x1 e1 => ?_, fun hb => ?_⟩⟩
    · rw [na_ix (k := l) (by omega), hL.1, hn, na_le (by omega) (by omega)] at q; omega
    · rw [bit1 (by omega) (by omega)] at hb
      rw [e1, or0, nI_add]
      unfold oneS at h; rw [if_neg hb] at h
      exact ih (p + 1) a (by omega) ha h
    · rw [bit1 (by omega) (by omega)] at hb
      rw [ei]
      refine ⟨na_in (by omega) (by omega), fun x2 e2 => ?_⟩
      rw [na_ix (by omega), (hL.2.2.2.2 p (by omega)).2.2, na_or] at e2
      rw [e2, nI_add]
      unfold oneS at h; rw [if_pos hb] at h
      exact ih (p + 1) _ (by omega) (Nat.or_lt_two_pow ha (hT p)) h
theorem sp_staying {X : Cx} {d l a : Nat} {L : LandT} {M : Mem} {Q : Option AV → Mem → Prop} (hS : RfS M) (hl : l < 7) (hL : rLd M l L) (h9 : L.1 ≤ 9) (hT : ∀ p, LdT L p < 2 ^ L.1) (ha : a < 2 ^ L.1) (h : Q (some (vI (nI (clo (LdT L) L.1 a)))) M) : Cl X d 0 0 m_X11_staying [vR 75, vI (nI l), vI (nI a)] M Q := by
  have key : ∀ m k a, k + m = 9 → a < 2 ^ L.1 → Q (some (vI (nI (cloR (LdT L) L.1 m a)))) M → WA X d 0 0 m_X11_staying 5 [some (vR 75), some (vI (nI l)), none, some (vI (nI a)), some (vI (nI k)), none] [] M Q := by
    intro m
    induction m with
    | zero =>
      intro k a hk ha h
      obtain rfl : k = 9 := by omega
      exact b_X11_staying_5 hS ⟨fun _ => h, fun q => absurd (by decide) q⟩
    | succ m ih =>
      intro k a hk ha h
      refine b_X11_staying_5 hS ⟨fun q => ?_, fun _ => wa_stay15 hS hl (by omega) hL rfl h9 hT L.1 0 a (by omega) ha ?_⟩
      · rw [na_le (by omega) (by omega)] at q; omega
      · exact ih (k + 1) _ (by omega) (runR_lt hT _ _ ha) h
  exact e_X11_staying (b_X11_staying_0 hS (key 9 0 a (by omega) ha h))
theorem wa_fail18 {X : Cx} {d l k n set : Nat} {L : LandT} {M : Mem} {Q : Option AV → Mem → Prop} (hS : RfS M) (hl : l < 7) (hk : k < 9) (hL : rLd M l L) (hn : L.1 = n) (h9 : n ≤ 9) (hT : ∀ p, LdB L p < 2 ^ n) : ∀ (r p a : Nat), p + r = n → a < 2 ^ n →
    WA X d 0 0 m_X11_failing 8 [some (vR 75), some (vI (nI l)), some (vI (nI set)), some (vI (nI (runR (fun p => LdB L p &&& set) n r a))), some (vI (nI (k + 1))), none, none] [] M Q →
    WA X d 0 0 m_X11_failing 18 [some (vR 75), some (vI (nI l)), some (vI (nI set)), some (vI (nI a)), some (vI (nI k)), some (vI (nI p)), none] [] M Q := by
  intro r
  have h512 := p9 h9
  induction r with
  | zero =>
    intro p a hp ha h
    refine b_X11_failing_18 hS ⟨na_in hl (by omega), fun _ => ?_, fun q => absurd (by rw [na_ix (k := l) (by omega), hL.1, hn, na_le (by omega) (by omega)]; omega) q⟩
    rw [nI_add]; exact h
  | succ r ih =>
    intro p a hp ha h
    have ei : nI 9 * nI l + nI p = nI (9 * l + p) := by rw [pk_mul, nI_add]
    have hop : n - (r + 1) = p := by omega
    simp only [runR, hop] at h
    refine b_X11_failing_18 hS ⟨na_in hl (by omega), fun q => ?_, fun _ => ⟨fun hb x1 e1 => ?_, fun hb => ?_⟩⟩
    · rw [na_ix (k := l) (by omega), hL.1, hn, na_le (by omega) (by omega)] at q; omega
    · rw [bit1 (by omega) (by omega)] at hb
      rw [e1, or0, nI_add]
      unfold oneS at h; rw [if_neg hb] at h
      exact ih (p + 1) a (by omega) ha h
    · rw [bit1 (by omega) (by omega)] at hb
      rw [ei]
      refine ⟨na_in (by omega) (by omega), fun x2 e2 => ?_⟩
      rw [na_ix (by omega), (hL.2.2.2.2 p (by omega)).2.1, na_and, na_or] at e2
      rw [e2, nI_add]
      unfold oneS at h; rw [if_pos hb] at h
      exact ih (p + 1) _ (by omega) (Nat.or_lt_two_pow ha (Nat.lt_of_le_of_lt Nat.and_le_left (hT p))) h
theorem wa_fail99 {X : Cx} {d l p set c : Nat} {L : LandT} {M : Mem} {Q : Option AV → Mem → Prop} (hd : 1 ≤ d) (hS : RfS M) (hl : l < 7) (hp : p < 9) (hs : set < 512) (hL : rLd M l L)
    (h : WA X d 0 0 m_X11_failing 85 [some (vR 75), some (vI (nI l)), some (vI (nI set)), none, some (vI (nI (c + if set.testBit p then LdV L p 0 + LdV L p 1 + LdV L p 2 else 0))), some (vI (nI (p + 1))), none] [] M Q) :
    WA X d 0 0 m_X11_failing 99 [some (vR 75), some (vI (nI l)), some (vI (nI set)), none, some (vI (nI c)), some (vI (nI p)), some (vI (nI 0))] [] M Q := by
  have step : ∀ (k c : Nat), k < 3 → WA X d 0 0 m_X11_failing 99 [some (vR 75), some (vI (nI l)), some (vI (nI set)), none, some (vI (nI (c + if set.testBit p then LdV L p k else 0))), some (vI (nI p)), some (vI (nI (k + 1)))] [] M Q → WA X d 0 0 m_X11_failing 99 [some (vR 75), some (vI (nI l)), some (vI (nI set)), none, some (vI (nI c)), some (vI (nI p)), some (vI (nI k))] [] M Q := by
    intro k c hk hn
    refine b_X11_failing_99 hS hd ⟨fun q => ?_, fun _ => ⟨fun hb x1 e1 => ?_, fun hb => ?_⟩⟩
    · rw [na_le (by omega) (by omega)] at q; omega
    · rw [bit1 (by omega) (by omega)] at hb
      rw [if_neg hb] at hn
      rw [e1, add0, nI_add]; exact hn
    · rw [bit1 (by omega) (by omega)] at hb
      rw [if_pos hb] at hn
      refine sp_voteAt ⟨_, rfl, Ext.refl _, na_in (by omega) (by omega), fun x3 e3 => ?_⟩
      rw [na_ix (by omega), (hL.2.2.2.2 p hp).1 k hk, nI_add] at e3
      rw [e3, nI_add]; exact hn
  refine step 0 _ (by omega) (step 1 _ (by omega) (step 2 _ (by omega) ?_))
  refine b_X11_failing_99 hS hd ⟨fun _ => ?_, fun q => absurd (by decide) q⟩
  rw [nI_add]
  have e : (c + if set.testBit p then LdV L p 0 + LdV L p 1 + LdV L p 2 else 0) = ((c + if set.testBit p then LdV L p 0 else 0) + if set.testBit p then LdV L p 1 else 0) + if set.testBit p then LdV L p 2 else 0 := by
    split <;> omega
  rw [e] at h
  exact h
theorem sp_failing {X : Cx} {d l set : Nat} {L : LandT} {M : Mem} {Q : Option AV → Mem → Prop} (hd : 1 ≤ d) (hS : RfS M) (hl : l < 7) (hL : rLd M l L) (hO : LdOK L) (hs : set < 2 ^ L.1) (h : Q (some (vI (nI (faL L set)))) M) : Cl X d 0 0 m_X11_failing [vR 75, vI (nI l), vI (nI set)] M Q := by
  obtain ⟨l1, l2, l3, l4, l5, l6, l7, l8, l9, l10⟩ := hO
  have h512 := p9 l1.2
  have hTb : ∀ q, LdB L q &&& set < 2 ^ L.1 := fun q => Nat.lt_of_le_of_lt Nat.and_le_left (l7 q).1
  have k85 : clo (fun p => LdB L p &&& set) L.1 (lwN set) = set → ∀ r p, p + r = L.1 → WA X d 0 0 m_X11_failing 85 [some (vR 75), some (vI (nI l)), some (vI (nI set)), none, some (vI (nI (smF p (fun p => if set.testBit p then LdV L p 0 + LdV L p 1 + LdV L p 2 else 0)))), some (vI (nI p)), none] [] M Q := by
    intro hc r
    induction r with
    | zero =>
      intro p hp
      obtain rfl : p = L.1 := by omega
      have hb := hdL_le l1.2 l5 set
      refine b_X11_failing_85 hS hd ⟨na_in hl (by omega), fun _ => ⟨na_in hl (by omega), na_in hl (by omega), sp_in ⟨_, rfl, Ext.refl _, fun hx => ?_, fun hx => ?_⟩⟩, fun q => absurd (by rw [na_ix (k := l) (by omega), hL.1, na_le (by omega) (by omega)]; omega) q⟩
      · rw [na_ix (k := l) (by omega), hL.2.2.1, hL.2.2.2.1] at hx
        have hx := bI_n0.mp hx
        have e1 : decide (nI (LdLo L) ≤ nI (hdL L set)) = decide (LdLo L ≤ hdL L set) := decide_eq_decide.mpr (na_le (by unfold LdLo; omega) (by omega))
        have e2 : decide (nI (hdL L set) ≤ nI (LdHi L)) = decide (hdL L set ≤ LdHi L) := decide_eq_decide.mpr (na_le (by omega) (by unfold LdHi; omega))
        have hx : (decide (nI (LdLo L) ≤ nI (hdL L set)) && decide (nI (hdL L set) ≤ nI (LdHi L))) = true := hx
        rw [e1, e2] at hx
        simp only [Bool.and_eq_true, decide_eq_true_eq] at hx
        refine sp_staying hS hl hL l1.2 (fun p => (l7 p).2) hs ⟨_, rfl, Ext.refl _, fun hq => ?_, fun hq => ?_⟩
        · rw [na_eq (by have := clo_lt (T := LdT L) (n := L.1) (fun p => (l7 p).2) hs; omega) (by omega)] at hq
          unfold faL at h
          rw [if_neg (fun q => q hc), if_neg (fun q => q hx), if_neg (fun q => q hq)] at h
          exact h
        · rw [na_eq (by have := clo_lt (T := LdT L) (n := L.1) (fun p => (l7 p).2) hs; omega) (by omega)] at hq
          unfold faL at h
          rw [if_neg (fun q => q hc), if_neg (fun q => q hx), if_pos hq] at h
          exact h
      · rw [na_ix (k := l) (by omega), hL.2.2.1, hL.2.2.2.1] at hx
        have hx := bI_0.mp hx
        have e1 : decide (nI (LdLo L) ≤ nI (hdL L set)) = decide (LdLo L ≤ hdL L set) := decide_eq_decide.mpr (na_le (by unfold LdLo; omega) (by omega))
        have e2 : decide (nI (hdL L set) ≤ nI (LdHi L)) = decide (hdL L set ≤ LdHi L) := decide_eq_decide.mpr (na_le (by omega) (by unfold LdHi; omega))
        have hx : (decide (nI (LdLo L) ≤ nI (hdL L set)) && decide (nI (hdL L set) ≤ nI (LdHi L))) = false := hx
        rw [e1, e2] at hx
        simp only [Bool.and_eq_false_iff, decide_eq_false_iff_not] at hx
        unfold faL at h
        rw [if_neg (fun q => q hc), if_pos (by omega)] at h
        exact h
    | succ r ih =>
      intro p hp
      refine b_X11_failing_85 hS hd ⟨na_in hl (by omega), fun q => ?_, fun _ => wa_fail99 hd hS hl (by omega) (by omega) hL ?_⟩
      · rw [na_ix (k := l) (by omega), hL.1, na_le (by omega) (by omega)] at q; omega
      · exact ih (p + 1) (by omega)
  have key : ∀ m k a, k + m = 9 → a < 2 ^ L.1 → cloR (fun p => LdB L p &&& set) L.1 m a = clo (fun p => LdB L p &&& set) L.1 (lwN set) → WA X d 0 0 m_X11_failing 8 [some (vR 75), some (vI (nI l)), some (vI (nI set)), some (vI (nI a)), some (vI (nI k)), none, none] [] M Q := by
    intro m
    induction m with
    | zero =>
      intro k a hk ha he
      obtain rfl : k = 9 := by omega
      have he : a = clo (fun p => LdB L p &&& set) L.1 (lwN set) := he
      refine b_X11_failing_8 hS ⟨fun _ => ⟨fun hq => ?_, fun hq => ?_⟩, fun q => absurd (by decide) q⟩
      · rw [na_eq (by omega) (by omega)] at hq
        exact k85 (by rw [← he, hq]) L.1 0 (by omega)
      · rw [na_eq (by omega) (by omega)] at hq
        unfold faL at h
        rw [if_pos (by rw [← he]; exact hq)] at h
        exact h
    | succ m ih =>
      intro k a hk ha he
      refine b_X11_failing_8 hS ⟨fun q => ?_, fun _ => wa_fail18 hS hl (by omega) hL rfl l1.2 (fun p => (l7 p).1) L.1 0 a (by omega) ha ?_⟩
      · rw [na_le (by omega) (by omega)] at q; omega
      · exact ih (k + 1) _ (by omega) (runR_lt hTb _ _ ha) he
  refine e_X11_failing (b_X11_failing_0 hS (fun x1 e1 => ?_))
  rw [na_lw (by omega)] at e1
  rw [e1]
  exact key 9 0 (lwN set) (by omega) (lwN_lt hs) rfl
theorem sp_winning {X : Cx} {d l set : Nat} {L : LandT} {M : Mem} {Q : Option AV → Mem → Prop} (hd : 2 ≤ d) (hS : RfS M) (hl : l < 7) (hL : rLd M l L) (hO : LdOK L) (hs : set < 2 ^ L.1) (h : Q (some (vI (nI (wnL L set)))) M) : Cl X d 0 0 m_X11_winning [vR 75, vI (nI l), vI (nI set)] M Q := by
  obtain ⟨l1, l2, l3, l4, l5, l6, l7, l8, l9, l10⟩ := hO
  have h512 := p9 l1.2
  have turn : ∀ (k b m : Nat), k < 3 → m ≤ 891 → WA X d 0 0 m_X11_winning 8 [some (vR 75), some (vI (nI l)), some (vI (nI set)), some (vI (nI (wnS (b, m) k (vtL L k set)).1)), some (vI (nI (wnS (b, m) k (vtL L k set)).2)), some (vI (nI (k + 1))), none, none] [] M Q →
      WA X d 0 0 m_X11_winning 8 [some (vR 75), some (vI (nI l)), some (vI (nI set)), some (vI (nI b)), some (vI (nI m)), some (vI (nI k)), none, none] [] M Q := by
    intro k b m hk hm hn
    have hv := vtL_le l1.2 l5 k set
    have h93 : ∀ x : Nat, x = (wnS (b, m) k (vtL L k set)).1 → WA X d 0 0 m_X11_winning 93 [some (vR 75), some (vI (nI l)), some (vI (nI set)), none, some (vI (nI m)), some (vI (nI k)), some (vI (nI (vtL L k set))), none] [vI (nI x)] M Q := by
      intro x hx
      refine b_X11_winning_93 hS (by omega) (fun x1 e1 => ?_)
      have : maxI (nI m) (nI (vtL L k set)) = nI (max m (vtL L k set)) := by
        unfold maxI
        by_cases q : m < vtL L k set
        · rw [if_pos ((na_lt (by omega) (by omega)).mpr q), Nat.max_eq_right (by omega)]
        · rw [if_neg (fun z => q ((na_lt (by omega) (by omega)).mp z)), Nat.max_eq_left (by omega)]
      rw [e1, this, hx, nI_add]
      exact hn
    have k20 : ∀ r p, p + r = L.1 → WA X d 0 0 m_X11_winning 20 [some (vR 75), some (vI (nI l)), some (vI (nI set)), some (vI (nI b)), some (vI (nI m)), some (vI (nI k)), some (vI (nI (smF p (fun p => if set.testBit p then LdV L p k else 0)))), some (vI (nI p))] [] M Q := by
      intro r
      induction r with
      | zero =>
        intro p hp
        obtain rfl : p = L.1 := by omega
        refine b_X11_winning_20 hS (by omega) ⟨na_in hl (by omega), fun _ => ⟨fun q => ⟨fun q2 => ?_, fun q2 => ?_⟩, fun q => ?_⟩, fun q => absurd (by rw [na_ix (k := l) (by omega), hL.1, na_le (by omega) (by omega)]; omega) q⟩
        · have q : nI (vtL L k set) ≤ nI m := q
          have q2 : ¬ nI (vtL L k set) = nI m := q2
          rw [na_le (by omega) (by omega)] at q
          rw [na_eq (by omega) (by omega)] at q2
          exact h93 b (by unfold wnS; dsimp only; rw [if_neg (by omega), if_neg q2])
        · have q2 : nI (vtL L k set) = nI m := q2
          rw [na_eq (by omega) (by omega)] at q2
          exact h93 3 (by unfold wnS; dsimp only; rw [if_neg (by omega), if_pos q2])
        · have q : ¬ nI (vtL L k set) ≤ nI m := q
          rw [na_le (by omega) (by omega)] at q
          exact h93 k (by unfold wnS; dsimp only; rw [if_pos (by omega)])
      | succ r ih =>
        intro p hp
        refine b_X11_winning_20 hS (by omega) ⟨na_in hl (by omega), fun q => ?_, fun _ => ⟨fun hb x1 e1 => ?_, fun hb => ?_⟩⟩
        · rw [na_ix (k := l) (by omega), hL.1, na_le (by omega) (by omega)] at q; omega
        · rw [bit1 (by omega) (by omega)] at hb
          have := ih (p + 1) (by omega)
          simp only [smF, if_neg hb, Nat.add_zero] at this
          rw [e1, add0, nI_add]; exact this
        · rw [bit1 (by omega) (by omega)] at hb
          refine sp_voteAt ⟨_, rfl, Ext.refl _, na_in (by omega) (by omega), fun x3 e3 => ?_⟩
          rw [na_ix (by omega), (hL.2.2.2.2 p (by omega)).1 k hk, nI_add] at e3
          have := ih (p + 1) (by omega)
          simp only [smF, if_pos hb] at this
          rw [e3, nI_add]; exact this
    exact b_X11_winning_8 hS ⟨fun q => by rw [na_le (by omega) (by omega)] at q; omega, fun _ => k20 L.1 0 (by omega)⟩
  have v0 := vtL_le l1.2 l5 0 set
  have v1 := vtL_le l1.2 l5 1 set
  have v2 := vtL_le l1.2 l5 2 set
  refine e_X11_winning (b_X11_winning_0 hS (turn 0 3 0 (by omega) (by omega) (turn 1 _ _ (by omega) ?_ (turn 2 _ _ (by omega) ?_ ?_))))
  · show max 0 (vtL L 0 set) ≤ 891; omega
  · show max (max 0 (vtL L 0 set)) (vtL L 1 set) ≤ 891; omega
  · exact b_X11_winning_8 hS ⟨fun _ => h, fun q => absurd (by decide) q⟩
/-! prepare: the tables of a land's sets -/
def prS (a k : Nat) : Prop := a = 87 ∨ a = 88 ∨ (a = 75 ∧ k = 19)
def rPrep (M : Mem) (l : Nat) (L : LandT) : Prop := mI M 75 19 = nI l ∧ ∀ set, 1 ≤ set → set < 2 ^ L.1 → mI M 87 set = nI (faL L set) ∧ mI M 88 set = nI (wnL L set)
theorem sp_prepare {X : Cx} {d l : Nat} {L : LandT} {M : Mem} {Q : Option AV → Mem → Prop} (hd : 3 ≤ d) (hS : RfS M) (hl : l < 7) (hL : rLd M l L) (hO : LdOK L) (h : ∀ B : Mem, Fr prS M B → rPrep B l L → Q none B) : Cl X d 0 0 m_X11_prepare [vR 75, vI (nI l)] M Q := by
  have h512 := p9 hO.1.2
  have h1 := Nat.two_pow_pos L.1
  have key : ∀ (r s : Nat) (B : Mem), s + r = 2 ^ L.1 → 1 ≤ s → Fr prS M B → mI B 75 19 = nI l → (∀ set, 1 ≤ set → set < s → mI B 87 set = nI (faL L set) ∧ mI B 88 set = nI (wnL L set)) → WA X d 0 0 m_X11_prepare 7 [some (vR 75), some (vI (nI l)), some (vI (nI s))] [] B Q := by
    intro r
    induction r with
    | zero =>
      intro s B hs h1s hF h19 hB
      obtain rfl : s = 2 ^ L.1 := by omega
      have hLB := hL.fr hF (fun a i h1 h2 q => by unfold prS at q; omega)
      refine b_X11_prepare_7 (hS.fr hF) (by omega) ⟨na_in hl (by omega), fun _ => h B hF ⟨h19, hB⟩, fun q => absurd ?_ q⟩
      rw [na_ix (k := l) (by omega), hLB.1, na_1shl (by have := hO.1; omega), na_le (by omega) (by omega)]; omega
    | succ r ih =>
      intro s B hs h1s hF h19 hB
      have hLB := hL.fr hF (fun a i h1 h2 q => by unfold prS at q; omega)
      have hSB := hS.fr hF
      refine b_X11_prepare_7 hSB (by omega) ⟨na_in hl (by omega), fun q => ?_, fun _ => sp_failing (by omega) hSB hl hLB hO (by omega) ⟨_, rfl, Ext.refl _, na_in (by omega) (by omega), fun M2 e2 => ?_⟩⟩
      · rw [na_ix (k := l) (by omega), hLB.1, na_1shl (by have := hO.1; omega), na_le (by omega) (by omega)] at q; omega
      · rw [na_ix (by omega)] at e2
        have hF2 : Fr prS M M2 := by rw [e2]; exact hF.trans (Fr.sI (Or.inl rfl))
        have hL2 := hL.fr hF2 (fun a i h1 h2 q => by unfold prS at q; omega)
        refine sp_winning (by omega) (hS.fr hF2) hl hL2 hO (by omega) ⟨_, rfl, Ext.refl _, na_in (by omega) (by omega), fun M4 e4 => ?_⟩
        rw [na_ix (by omega)] at e4
        rw [nI_add]
        refine ih (s + 1) M4 (by omega) (by omega) (by rw [e4]; exact hF2.trans (Fr.sI (Or.inr (Or.inl rfl)))) ?_ ?_
        · rw [e4, mI_sI_a (by decide), e2, mI_sI_a (by decide)]; exact h19
        · intro set hs1 hs2
          rw [e4, mI_sI, mI_sI, e2, mI_sI, mI_sI]
          by_cases hq : set = s
          · subst hq; simp
          · have := hB set hs1 (by omega)
            simp [hq, this]
  refine e_X11_prepare (b_X11_prepare_0 hS (fun M1 e1 => ?_))
  have hF1 : Fr prS M M1 := by rw [e1]; exact Fr.sI (Or.inr (Or.inr ⟨rfl, rfl⟩))
  exact key (2 ^ L.1 - 1) 1 M1 (by omega) (by omega) hF1 (by rw [e1, mI_sI_eq]) (fun set h1 h2 => by omega)
